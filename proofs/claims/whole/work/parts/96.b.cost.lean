/-! the class's costs -/
theorem look23_w {M : Mem} {w h : Nat} (hd : Dim M w h) {x y : Nat} (hx : x < w) (hy : y < h) {Q : Mem → Prop} (g : ∀ N : Mem, (∀ c, c ≠ 24 → c ≠ 25 → c ≠ 26 → N c = M c) → (∀ k, k ≠ y * w + x → N 24 k = M 24 k ∧ N 25 k = M 25 k ∧ N 26 k = M 26 k) → StandOK w h (sv M 1 w) (N 24) (N 25) (N 26) x y → Q N) : wX8_lookAround_23_1 M 1 (nI x) (nI y) Q := by
  have hw : w ≤ 20 := hd.2.1
  have hh : h ≤ 10 := hd.2.2.2.1
  have hpl := pl200 hw hh hx hy
  have tail : ∀ (own x6 x7 : Int32) (ell : Int32), own = sv M 1 w (y * w + x) → ell = (if own = -5 then 1 else 0) → (¬ own = -5 → ∃ v u : Nat, x6 = nI v ∧ x7 = nI u ∧ Bits v 8 (kn w h (sv M 1 w) x y) ∧ Bits u 8 (fun k => kn w h (sv M 1 w) x y k && dk w (sv M 1 w) x y k)) → wX8_lookAround_23_1_J150 Q x6 x7 (nI (y * w + x)) (nI (y * w + x)) ell M := by
    intro own x6 x7 ell eo el hv
    unfold wX8_lookAround_23_1_J150
    rw [nI_clamp (by omega)]
    refine ⟨vp_in_nI hpl (by omega), ?_, fun M1 e1 => ⟨vp_in_nI hpl (by omega), fun M2 e2 => ⟨vp_in_nI hpl (by omega), fun M3 e3 => ?_⟩⟩⟩
    · rw [el]; split
      · exact Or.inr rfl
      · exact Or.inl rfl
    · have s26 : M3 26 = upd (M 26) (y * w + x) ell := by rw [e3, up_n _ _ (by decide), e2, up_n _ _ (by decide), e1, up_s]
      have s24 : M3 24 = upd (M 24) (y * w + x) x6 := by rw [e3, up_n _ _ (by decide), e2, up_s, e1, up_n _ _ (by decide)]
      have s25 : M3 25 = upd (M 25) (y * w + x) x7 := by rw [e3, up_s, e2, up_n _ _ (by decide), e1, up_n _ _ (by decide)]
      refine g M3 (fun c c0 c1 c2 => by rw [e3, up_n _ _ c1, e2, up_n _ _ c0, e1, up_n _ _ c2]) (fun k hk => ?_) ⟨fun q => ?_, fun q => ?_⟩
      · rw [s24, s25, s26, pk_un hk, pk_un hk, pk_un hk]; exact ⟨rfl, rfl, rfl⟩
      · rw [s26, pk_us, el, eo, if_pos q]
      · rw [s24, s25, s26, pk_us, pk_us, pk_us, el, eo, if_neg q]
        exact ⟨rfl, hv (by rw [eo]; exact q)⟩
  refine seen_w hd hx hy ?_
  rw [seS_sv hx]
  generalize eo : sv M 1 w (y * w + x) = own at tail ⊢
  refine forN (fun n z (p : Int32 × Int32 × Mem) => wX8_lookAround_23_1_L19 _ Q n 1 (nI x) (nI y) own p.1 p.2.1 z p.2.2) (fun k p => p.2.2 = M ∧ (own = -5 → k = 0) ∧ ∃ v u : Nat, p.1 = nI v ∧ p.2.1 = nI u ∧ Bits v k (kn w h (sv M 1 w) x y) ∧ Bits u k (fun k => kn w h (sv M 1 w) x y k && dk w (sv M 1 w) x y k)) 8 ?_ ?_ 0 (0, 0, M) (by omega) ⟨rfl, fun _ => rfl, 0, 0, rfl, rfl, Bits.nil _, Bits.nil _⟩
  · intro n p hI
    obtain ⟨h2, ho, h3⟩ := hI
    rw [wX8_lookAround_23_1_L19_s, h2]
    refine pk_le 8 8 (fun _ => placeOf_w hd ⟨fun q => ?_, fun q => absurd (ho q) (by decide)⟩) (fun q => absurd q (by omega))
    exact tail own p.1 p.2.1 0 rfl (if_neg q).symm (fun _ => h3)
  · intro n k p hk hI ih
    obtain ⟨h2, ho, v, u, e1, e2, bv, bu⟩ := hI
    have go : ∀ (t0 : Int32), (kn w h (sv M 1 w) x y k = true → ¬ t0 = -5 ∧ (dk w (sv M 1 w) x y k = true ↔ t0 < own)) → (kn w h (sv M 1 w) x y k = false → t0 = -5) → ¬ own = -5 → ∀ K : Int32 → Int32 → Int32 → Int32 → Int32 → Mem → Prop, K = (fun x3 x4 x5 x6 x7 M => wX6_placeOf M x3 x4 (fun r127 M127 => ((¬ (x5 = (-5))) → wX8_lookAround_23_1_J150 Q x6 x7 r127 r127 0 M127) ∧ (x5 = (-5) → wX8_lookAround_23_1_J150 Q x6 x7 r127 r127 1 M127))) → wX8_lookAround_23_1_J79 (wX8_lookAround_23_1_L19 K Q n) K Q 1 (nI x) (nI y) own p.1 p.2.1 (nI k) t0 M := by
      intro t0 t1 t2 no K eK
      subst eK
      have e12 := shl1 k hk
      refine ⟨fun q x2 ex2 => ?_, fun q x6 ex6 => ⟨fun q2 x7 ex7 x2 ex2 => ?_, fun q2 x7 ex7 x2 ex2 => ?_⟩⟩
      · have kf : kn w h (sv M 1 w) x y k = false := by
          cases z : kn w h (sv M 1 w) x y k with
          | true => exact absurd q (t1 z).1
          | false => rfl
        rw [ex2, nI_1]
        exact ih (p.1, p.2.1, M) ⟨rfl, fun z => absurd z no, v, u, e1, e2, bv.no kf, bu.no (by show (kn w h (sv M 1 w) x y k && _) = false; rw [kf]; rfl)⟩
      · have kt : kn w h (sv M 1 w) x y k = true := by
          cases z : kn w h (sv M 1 w) x y k with
          | true => rfl
          | false => exact absurd (t2 z) q
        have df : dk w (sv M 1 w) x y k = false := by
          cases z : dk w (sv M 1 w) x y k with
          | true => exact absurd q2 (Int32.not_le.mpr ((t1 kt).2.mp z))
          | false => rfl
        rw [ex2, nI_1]
        refine ih (x6, x7, M) ⟨rfl, fun z => absurd z no, v ||| 2 ^ k, u, ?_, ?_, bv.yes kt, bu.no (by show (kn w h (sv M 1 w) x y k && dk w (sv M 1 w) x y k) = false; rw [df, Bool.and_false])⟩
        · show x6 = _
          rw [ex6, e1, e12, nI_or]
        · show x7 = _
          rw [ex7, e2]
          have : nI u ||| 0 = nI (u ||| 0) := nI_or u 0
          rw [this, Nat.or_zero]
      · have kt : kn w h (sv M 1 w) x y k = true := by
          cases z : kn w h (sv M 1 w) x y k with
          | true => rfl
          | false => exact absurd (t2 z) q
        have dt : dk w (sv M 1 w) x y k = true := (t1 kt).2.mpr (Int32.not_le.mp q2)
        rw [ex2, nI_1]
        refine ih (x6, x7, M) ⟨rfl, fun z => absurd z no, v ||| 2 ^ k, u ||| 2 ^ k, ?_, ?_, bv.yes kt, bu.yes (by show (kn w h (sv M 1 w) x y k && dk w (sv M 1 w) x y k) = true; rw [kt, dt]; rfl)⟩
        · show x6 = _
          rw [ex6, e1, e12, nI_or]
        · show x7 = _
          rw [ex7, e2, e12, nI_or]
    rw [wX8_lookAround_23_1_L19_s, h2]
    refine pk_le 8 k (fun q => absurd q (by omega)) (fun _ => ⟨fun q => placeOf_w hd ⟨fun z => absurd q z, fun _ => ?_⟩, fun q => ?_⟩)
    · exact tail own p.1 p.2.1 1 rfl (if_pos q).symm (fun z => absurd q z)
    · rw [nI_clamp (by omega)]
      refine ⟨vp_in_nI (by omega) (by omega), fun X eX => ⟨vp_in_nI (by omega) (by omega), fun Y eY => ?_⟩⟩
      have kx := nb_ix (x := x) (w := w) (tabA_3 k hk) (by omega) (by omega)
      have ky := nb_ix (x := y) (w := h) (tabD_3 k hk) (by omega) (by omega)
      rw [← eX] at kx
      rw [← eY] at ky
      by_cases ip : inP w h ((x : Int) + aZ k) ((y : Int) + dZ k)
      · have ex : X = nI ((x : Int) + aZ k).toNat := kx.2 ip.1.1
        have ey : Y = nI ((y : Int) + dZ k).toNat := ky.2 ip.2.1
        have bx : ((x : Int) + aZ k).toNat < w := by have := ip.1; omega
        have by_ : ((y : Int) + dZ k).toNat < h := by have := ip.2; omega
        refine hasSquare_w hd (fun _ _ _ _ _ _ => ⟨fun z => absurd z (by decide), fun _ => ?_⟩) (fun z => absurd ⟨kx.1.mpr ip.1, ky.1.mpr ip.2⟩ z)
        rw [ex, ey]
        refine seen_w hd bx by_ ?_
        rw [seS_sv bx]
        refine go _ (fun z => ?_) (fun z => ?_) q _ rfl
        · have z2 := @of_decide_eq_true _ (Classical.propDecidable _) z
          refine ⟨z2.2, ?_⟩
          rw [← eo]
          constructor
          · intro z3; exact @of_decide_eq_true _ (Classical.propDecidable _) z3
          · intro z3; exact @decide_eq_true _ (Classical.propDecidable _) z3
        · have z2 := @of_decide_eq_false _ (Classical.propDecidable _) z
          by_cases z3 : sv M 1 w (((y : Int) + dZ k).toNat * w + ((x : Int) + aZ k).toNat) = -5
          · exact z3
          · exact absurd ⟨ip, z3⟩ z2
      · refine hasSquare_w hd (fun u2 v2 hu2 hv2 eu2 ev2 => absurd ⟨kx.1.mp ⟨u2, hu2, eu2⟩, ky.1.mp ⟨v2, hv2, ev2⟩⟩ ip) (fun _ => ⟨fun _ => ?_, fun z => absurd rfl z⟩)
        refine go _ (fun z => ?_) (fun _ => rfl) q _ rfl
        exact absurd (@of_decide_eq_true _ (Classical.propDecidable _) z).1 ip

theorem Bits.and {a b : Nat} {p q : Nat → Bool} (h : Bits a 8 p) (g : Bits b 8 q) : Bits (a &&& b) 8 (fun k => p k && q k) := by
  refine ⟨Nat.and_lt_two_pow _ g.1, fun k hk => ?_⟩
  rw [Nat.testBit_and, h.2 k hk, g.2 k hk]
theorem Bits.xor {a b : Nat} {p q : Nat → Bool} (h : Bits a 8 p) (g : Bits b 8 q) : Bits (a ^^^ b) 8 (fun k => p k ^^ q k) := by
  refine ⟨Nat.xor_lt_two_pow h.1 g.1, fun k hk => ?_⟩
  rw [Nat.testBit_xor, h.2 k hk, g.2 k hk]
theorem Bits.pc {a : Nat} {p : Nat → Bool} (h : Bits a 8 p) : pc8 a = sm (fun k => b2 (p k)) 8 := sm_cong (fun k hk => by rw [h.2 k hk])
theorem bxx (a b c d : Bool) : ((a && b) && ((a && c) ^^ (b && d))) = ((a && b) && (c ^^ d)) := by cases a <;> cases b <;> cases c <;> cases d <;> rfl
theorem measure_w {M : Mem} {w h : Nat} {L R : Nat → Int32} {x y d : Nat} (hk : y * w + x < 200) (hd : d ≤ x) (s1 : StandOK w h L (M 20) (M 21) (M 22) x y) (s2 : StandOK w h R (M 24) (M 25) (M 26) (x - d) y) {Q : Int32 → Mem → Prop} (g : Q (costS w h L R x y d) M) : wX1_measure M (nI (y * w + x)) (nI (y * w + x) - nI d) Q := by
  have e : nI (y * w + x) - nI d = nI (y * w + (x - d)) := by rw [pk_sub (by omega)]; congr 1; omega
  rw [e]
  unfold wX1_measure
  have hk2 : y * w + (x - d) < 200 := by omega
  rw [nI_clamp (by omega), nI_clamp (by omega)]
  refine ⟨vp_in_nI hk (by omega), fun q => ?_, fun q => ⟨vp_in_nI hk2 (by omega), fun q2 => ?_, fun q2 => ?_⟩⟩
  · by_cases z : L (y * w + x) = -5
    · rw [costS, if_pos (Or.inr (Or.inl z))] at g; exact g
    · exact absurd (s1.2 z).1 q
  · have z : ¬ L (y * w + x) = -5 := fun z => by rw [s1.1 z] at q; exact absurd q (by decide)
    have z2 : ¬ R (y * w + (x - d)) = -5 := fun z => by rw [s2.1 z] at q2; exact absurd q2 (by decide)
    obtain ⟨-, v, u, ev, eu, bv, bu⟩ := s1.2 z
    obtain ⟨-, v2, u2, ev2, eu2, bv2, bu2⟩ := s2.2 z2
    refine ⟨vp_in_nI hk (by omega), vp_in_nI hk2 (by omega), fun x3 e3 => ⟨vp_in_nI hk (by omega), vp_in_nI hk2 (by omega), ?_⟩⟩
    rw [e3, ev, ev2, eu, eu2, nI_and, nI_xor, nI_and]
    have B := (bv.and bv2).and (bu.xor bu2)
    refine bitCount_w B.1 ?_
    rw [B.pc]
    rw [costS, if_neg (fun z3 => z3.elim (fun z3 => absurd z3 (by omega)) (fun z3 => z3.elim z z2))] at g
    have E : sm (fun k => b2 ((kn w h L x y k && kn w h R (x - d) y k) && ((kn w h L x y k && dk w L x y k) ^^ (kn w h R (x - d) y k && dk w R (x - d) y k)))) 8 = cc w h L R x y d := sm_cong (fun k _ => by rw [bxx])
    rw [E]
    exact g
  · by_cases z : R (y * w + (x - d)) = -5
    · rw [costS, if_pos (Or.inr (Or.inr z))] at g; exact g
    · exact absurd (s2.2 z).1 q2
/-- shades, or -5 -/
def ShOK (w h : Nat) (L : Nat → Int32) : Prop := ∀ k, k < w * h → L k = -5 ∨ ∃ v : Nat, v < 256 ∧ L k = nI v
def VX (M : Mem) (w h : Nat) (L R : Nat → Int32) : Prop := Dim M w h ∧ sv M 0 w = L ∧ sv M 1 w = R ∧ ShOK w h L ∧ ShOK w h R
theorem sv_same {M N : Mem} {a : Int32} {w : Nat} (e3 : N 3 = M 3) (e4 : N 4 = M 4) (e6 : N 6 = M 6) (e7 : N 7 = M 7) : sv N a w = sv M a w := by
  funext k
  unfold sv mis sq
  rw [e3, e4, e6, e7]
theorem VX.of {M N : Mem} {w h : Nat} {L R : Nat → Int32} (hx : VX M w h L R) (e1 : N 1 = M 1) (e3 : N 3 = M 3) (e4 : N 4 = M 4) (e6 : N 6 = M 6) (e7 : N 7 = M 7) : VX N w h L R := by
  obtain ⟨h1, h2, h3, h4⟩ := hx
  refine ⟨?_, (sv_same e3 e4 e6 e7).trans h2, (sv_same e3 e4 e6 e7).trans h3, h4⟩
  unfold Dim; rw [e1]; exact h1
theorem VX.same {M N : Mem} {w h : Nat} {L R : Nat → Int32} (hx : VX M w h L R) (s : SameX M N) : VX N w h L R := hx.of (s 1 (nxc (by omega))) (s 3 (nxc (by omega))) (s 4 (nxc (by omega))) (s 6 (nxc (by omega))) (s 7 (nxc (by omega)))
noncomputable def lo (L : Nat → Int32) (k : Nat) : Int32 := if L k = -5 then 1 else 0
def CostOK (w h : Nat) (L R : Nat → Int32) (t l r : Nat → Int32) : Prop := ∀ x y : Nat, x < w → y < h → (∀ d, d < 9 → t (9 * (y * w + x) + d) = costS w h L R x y d) ∧ l (y * w + x) = lo L (y * w + x) ∧ r (y * w + x) = lo R (y * w + x)
theorem StandOK.lost {w h : Nat} {L kf df lf : Nat → Int32} {x y : Nat} (s : StandOK w h L kf df lf x y) : lf (y * w + x) = lo L (y * w + x) := by
  unfold lo
  split
  · exact s.1 (by assumption)
  · exact (s.2 (by assumption)).1
theorem StandOK.cong {w h : Nat} {L kf df lf kf2 df2 lf2 : Nat → Int32} {x y : Nat} (s : StandOK w h L kf df lf x y) (e1 : kf2 (y * w + x) = kf (y * w + x)) (e2 : df2 (y * w + x) = df (y * w + x)) (e3 : lf2 (y * w + x) = lf (y * w + x)) : StandOK w h L kf2 df2 lf2 x y := by
  unfold StandOK
  rw [e1, e2, e3]
  exact s
theorem pl_inj {w x y u v : Nat} (hx : x < w) (hu : u < w) (e : y * w + x = v * w + u) : x = u ∧ y = v := by
  have h1 : (y * w + x) % w = x := by rw [Nat.mul_comm, Nat.mul_add_mod, Nat.mod_eq_of_lt hx]
  have h2 : (v * w + u) % w = u := by rw [Nat.mul_comm, Nat.mul_add_mod, Nat.mod_eq_of_lt hu]
  have h3 : (y * w + x) / w = y := by rw [Nat.mul_comm, Nat.mul_add_div (by omega), Nat.div_eq_of_lt hx, Nat.add_zero]
  have h4 : (v * w + u) / w = v := by rw [Nat.mul_comm, Nat.mul_add_div (by omega), Nat.div_eq_of_lt hu, Nat.add_zero]
  rw [e] at h1 h3
  exact ⟨by omega, by omega⟩
/-- squares that lie before the place n -/
def bef (w n x y : Nat) : Prop := y * w + x < n
theorem measureAll_w {M : Mem} {w h : Nat} {L R : Nat → Int32} (hx : VX M w h L R) {Q : Mem → Prop} (g : ∀ N : Mem, (∀ c, c ≠ 18 → c ≠ 20 → c ≠ 21 → c ≠ 22 → c ≠ 24 → c ≠ 25 → c ≠ 26 → c ≠ 27 → N c = M c) → N 18 3 = 1 → CostOK w h L R (N 27) (N 22) (N 26) → Q N) : wX1_measureAll M Q := by
  have hd := hx.1
  have hw : w ≤ 20 := hd.2.1
  have hh : h ≤ 10 := hd.2.2.2.1
  let F1 : Nat → Mem → Prop := fun n N => (∀ c, c ≠ 20 → c ≠ 21 → c ≠ 22 → c ≠ 24 → c ≠ 25 → c ≠ 26 → N c = M c) ∧ ∀ x y, x < w → y < h → y * w + x < n → StandOK w h L (N 20) (N 21) (N 22) x y ∧ StandOK w h R (N 24) (N 25) (N 26) x y
  have vx1 : ∀ {n N}, F1 n N → VX N w h L R := fun hF => hx.of (hF.1 1 (by decide) (by decide) (by decide) (by decide) (by decide) (by decide)) (hF.1 3 (by decide) (by decide) (by decide) (by decide) (by decide) (by decide)) (hF.1 4 (by decide) (by decide) (by decide) (by decide) (by decide) (by decide)) (hF.1 6 (by decide) (by decide) (by decide) (by decide) (by decide) (by decide)) (hF.1 7 (by decide) (by decide) (by decide) (by decide) (by decide) (by decide))
  refine forN (fun n z N => wX1_measureAll_L2 _ Q n z N) (fun y N => F1 (y * w) N) h ?_ ?_ 0 M (by omega) ⟨fun _ _ _ _ _ _ _ => rfl, fun x y _ _ q => absurd q (by omega)⟩
  · intro n N hF
    have vx := vx1 hF
    rw [wX1_measureAll_L2_s]
    refine pk_le h h (fun _ => ?_) (fun q => absurd q (by omega)) (hx := vx.1.2.2.2.2.2)
    let F2 : Nat → Mem → Prop := fun n N2 => (∀ c, c ≠ 27 → N2 c = N c) ∧ (∀ j, n ≤ j → N2 27 j = N 27 j) ∧ ∀ x y, x < w → y < h → ∀ d, d < 9 → 9 * (y * w + x) + d < n → N2 27 (9 * (y * w + x) + d) = costS w h L R x y d
    have vx2 : ∀ {n N2}, F2 n N2 → VX N2 w h L R := fun hF => vx.of (hF.1 1 (by decide)) (hF.1 3 (by decide)) (hF.1 4 (by decide)) (hF.1 6 (by decide)) (hF.1 7 (by decide))
    have so : ∀ {n N2}, F2 n N2 → ∀ x y, x < w → y < h → StandOK w h L (N2 20) (N2 21) (N2 22) x y ∧ StandOK w h R (N2 24) (N2 25) (N2 26) x y := by
      intro n N2 hF2 x y hx hy
      rw [hF2.1 20 (by decide), hF2.1 21 (by decide), hF2.1 22 (by decide), hF2.1 24 (by decide), hF2.1 25 (by decide), hF2.1 26 (by decide)]
      exact hF.2 x y hx hy (by have := pl_lt hx hy; rw [Nat.mul_comm h w]; exact this)
    refine forN (fun n z N => wX1_measureAll_L56 _ Q n z N) (fun y N => F2 (9 * (y * w)) N) h ?_ ?_ 0 N (by omega) ⟨fun _ _ => rfl, fun _ _ => rfl, fun x y _ _ d _ q => absurd q (by omega)⟩
    · intro n N2 hF2
      rw [wX1_measureAll_L56_s]
      refine pk_le h h (fun _ => ?_) (fun q => absurd q (by omega)) (hx := (vx2 hF2).1.2.2.2.2.2)
      intro N3 e3
      refine g N3 (fun c c0 c1 c2 c3 c4 c5 c6 c7 => by rw [e3, up_n _ _ c0, hF2.1 c c7, hF.1 c c1 c2 c3 c4 c5 c6]) (by rw [e3, up_s]; rfl) (fun x y hx hy => ?_)
      rw [e3, up_n _ _ (by decide), up_n _ _ (by decide), up_n _ _ (by decide)]
      have s := so hF2 x y hx hy
      have b := pl_lt hx hy
      refine ⟨fun d hd => hF2.2.2 x y hx hy d hd (by rw [Nat.mul_comm h w]; omega), s.1.lost, s.2.lost⟩
    · intro n y N2 hy hF2 ih
      rw [wX1_measureAll_L56_s]
      refine pk_le h y (fun q => absurd q (by omega)) (fun _ => ?_) (hx := (vx2 hF2).1.2.2.2.2.2)
      refine forN (fun n z N => wX1_measureAll_L66 _ Q n (nI y) z N) (fun x N => F2 (9 * (y * w + x)) N) w ?_ ?_ 0 N2 (by omega) hF2
      · intro n N3 hF3
        rw [wX1_measureAll_L66_s]
        refine pk_le w w (fun _ => ?_) (fun q => absurd q (by omega)) (hx := (vx2 hF3).1.2.2.2.2.1)
        intro x2 ex2
        rw [ex2, nI_1]
        refine ih N3 ?_
        rw [Nat.add_mul, Nat.one_mul]
        exact hF3
      · intro n x N3 hx hF3 ih2
        rw [wX1_measureAll_L66_s]
        refine pk_le w x (fun q => absurd q (by omega)) (fun _ => ?_) (hx := (vx2 hF3).1.2.2.2.2.1)
        refine placeOf_w (vx2 hF3).1 ?_
        have hk := pl200 hw hh hx hy
        refine forN (fun n z N => wX1_measureAll_L85 _ Q n (nI y) (nI x) (nI (y * w + x)) z N) (fun d N => F2 (9 * (y * w + x) + d) N) 9 ?_ ?_ 0 N3 (by omega) hF3
        · intro n N4 hF4
          rw [wX1_measureAll_L85_s]
          refine pk_le 9 9 (fun _ => ?_) (fun q => absurd q (by omega))
          intro x2 ex2
          rw [ex2, nI_1]
          refine ih2 N4 ?_
          have : 9 * (y * w + (x + 1)) = 9 * (y * w + x) + 9 := by omega
          rw [this]
          exact hF4
        · intro n d N4 hd hF4 ih3
          rw [wX1_measureAll_L85_s]
          refine pk_le 9 d (fun q => absurd q (by omega)) (fun _ => ?_)
          have e9 : (nI (y * w + x) * 9) + nI d = nI (9 * (y * w + x) + d) := by
            show nI (y * w + x) * nI 9 + nI d = _
            rw [pk_mul, nI_add, Nat.mul_comm]
          have stp : ∀ N5 : Mem, N5 = va_up N4 27 (upd (N4 27) (9 * (y * w + x) + d) (costS w h L R x y d)) → F2 (9 * (y * w + x) + (d + 1)) N5 := by
            intro N5 e5
            refine ⟨fun c hc => by rw [e5, up_n _ _ hc, hF4.1 c hc], fun j hj => by rw [e5, up_s, pk_un (by omega)]; exact hF4.2.1 j (by omega), fun u v hu hv d2 hd2 q => ?_⟩
            rw [e5, up_s]
            by_cases z : 9 * (v * w + u) + d2 = 9 * (y * w + x) + d
            · have z2 : d2 = d := by omega
              obtain ⟨z3, z4⟩ := pl_inj hx hu (show y * w + x = v * w + u by omega)
              rw [z, pk_us, z2, z3, z4]
            · rw [pk_un z]; exact hF4.2.2 u v hu hv d2 hd2 (by omega)
          refine pk_le d x (fun q => ?_) (fun q => ?_)
          · refine measure_w hk q (so hF4 x y hx hy).1 (so hF4 (x - d) y (by omega) hy).2 ?_
            unfold wX1_measureAll_J126
            rw [e9, nI_clamp (by omega)]
            refine ⟨vp_in_nI (by omega) (by omega), fun N5 e5 x2 ex2 => ?_⟩
            rw [ex2, nI_1]
            exact ih3 N5 (stp N5 e5)
          · unfold wX1_measureAll_J126
            rw [e9, nI_clamp (by omega)]
            refine ⟨vp_in_nI (by omega) (by omega), fun N5 e5 x2 ex2 => ?_⟩
            rw [ex2, nI_1]
            refine ih3 N5 (stp N5 ?_)
            rw [costS, if_pos (Or.inl q)]
            exact e5
  · intro n y N hy hF ih
    rw [wX1_measureAll_L2_s]
    refine pk_le h y (fun q => absurd q (by omega)) (fun _ => ?_) (hx := (vx1 hF).1.2.2.2.2.2)
    refine forN (fun n z N => wX1_measureAll_L12 _ Q n (nI y) z N) (fun x N => F1 (y * w + x) N) w ?_ ?_ 0 N (by omega) hF
    · intro n N3 hF3
      rw [wX1_measureAll_L12_s]
      refine pk_le w w (fun _ => ?_) (fun q => absurd q (by omega)) (hx := (vx1 hF3).1.2.2.2.2.1)
      intro x2 ex2
      rw [ex2, nI_1]
      refine ih N3 ?_
      rw [Nat.add_mul, Nat.one_mul]
      exact hF3
    · intro n x N3 hx hF3 ih2
      rw [wX1_measureAll_L12_s]
      refine pk_le w x (fun q => absurd q (by omega)) (fun _ => ?_) (hx := (vx1 hF3).1.2.2.2.2.1)
      have vx3 := vx1 hF3
      refine look19_w vx3.1 hx hy (fun N4 f4 k4 s4 => ?_)
      have vx4 : VX N4 w h L R := vx3.of (f4 1 (by decide) (by decide) (by decide)) (f4 3 (by decide) (by decide) (by decide)) (f4 4 (by decide) (by decide) (by decide)) (f4 6 (by decide) (by decide) (by decide)) (f4 7 (by decide) (by decide) (by decide))
      refine look23_w vx4.1 hx hy (fun N5 f5 k5 s5 x2 ex2 => ?_)
      rw [ex2, nI_1]
      refine ih2 N5 ⟨fun c c1 c2 c3 c4 c5 c6 => by rw [f5 c c4 c5 c6, f4 c c1 c2 c3, hF3.1 c c1 c2 c3 c4 c5 c6], fun u v hu hv q => ?_⟩
      rw [vx3.2.1] at s4
      rw [vx4.2.2.1] at s5
      by_cases z : v * w + u = y * w + x
      · obtain ⟨z3, z4⟩ := pl_inj hu hx z
        rw [z3, z4]
        refine ⟨?_, s5⟩
        rw [f5 20 (by decide) (by decide) (by decide), f5 21 (by decide) (by decide) (by decide), f5 22 (by decide) (by decide) (by decide)]
        exact s4
      · have o := hF3.2 u v hu hv (by omega)
        have a4 := k4 _ z
        have a5 := k5 _ z
        refine ⟨?_, ?_⟩
        · rw [f5 20 (by decide) (by decide) (by decide), f5 21 (by decide) (by decide) (by decide), f5 22 (by decide) (by decide) (by decide)]
          exact o.1.cong a4.1 a4.2.1 a4.2.2
        · have b4 : ∀ c, c = 24 ∨ c = 25 ∨ c = 26 → N4 c = N3 c := fun c hc => f4 c (by omega) (by omega) (by omega)
          refine o.2.cong (a5.1.trans (by rw [b4 24 (by omega)])) (a5.2.1.trans (by rw [b4 25 (by omega)])) (a5.2.2.trans (by rw [b4 26 (by omega)]))
