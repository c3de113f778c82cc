/-! COST: what it is, and how the class reckons it -/
def aZ (k : Nat) : Int := (tabA k).toInt
def dZ (k : Nat) : Int := (tabD k).toInt
theorem tabA_3 : ∀ k, k < 8 → tabA k = -1 ∨ tabA k = 0 ∨ tabA k = 1 := by decide +kernel
theorem tabD_3 : ∀ k, k < 8 → tabD k = -1 ∨ tabD k = 0 ∨ tabD k = 1 := by decide +kernel
theorem nb_ix {x w : Nat} {c : Int32} (hc : c = -1 ∨ c = 0 ∨ c = 1) (hx : x < 100) (hw : w < 100) : (Ix (nI x + c) w ↔ 0 ≤ (x : Int) + c.toInt ∧ (x : Int) + c.toInt < w) ∧ (0 ≤ (x : Int) + c.toInt → nI x + c = nI ((x : Int) + c.toInt).toNat) := by
  have uq : ∀ {i j : Nat}, i < 200 → j < 200 → nI i = nI j → i = j := fun h1 h2 e => (nI_eq (by omega) (by omega)).mp e
  rcases hc with rfl | rfl | rfl
  · have e : (-1 : Int32).toInt = -1 := rfl
    rw [e]
    rcases Nat.eq_zero_or_pos x with rfl | q
    · refine ⟨⟨?_, fun h => by omega⟩, fun h => by omega⟩
      rintro ⟨j, hj, ej⟩
      exact absurd ej.symm (ne_neg (by omega) (by decide))
    · have e2 : nI x + (-1) = nI (x - 1) := by
        obtain ⟨y, rfl⟩ : ∃ y, x = y + 1 := ⟨x - 1, by omega⟩
        exact pk_m1 y
      rw [e2]
      refine ⟨⟨?_, fun h => ⟨x - 1, by omega, rfl⟩⟩, fun h => by congr 1; omega⟩
      rintro ⟨j, hj, ej⟩
      have := uq (by omega) (by omega) ej
      omega
  · have e : (0 : Int32).toInt = 0 := rfl
    have e2 : nI x + 0 = nI x := nI_add x 0
    rw [e, e2]
    refine ⟨⟨?_, fun h => ⟨x, by omega, rfl⟩⟩, fun h => by congr 1⟩
    rintro ⟨j, hj, ej⟩
    have := uq (by omega) (by omega) ej
    omega
  · have e : (1 : Int32).toInt = 1 := rfl
    have e2 : nI x + 1 = nI (x + 1) := nI_1 x
    rw [e, e2]
    refine ⟨⟨?_, fun h => ⟨x + 1, by omega, rfl⟩⟩, fun h => by congr 1⟩
    rintro ⟨j, hj, ej⟩
    have := uq (by omega) (by omega) ej
    omega
/-- a square given by whole numbers is in the picture; its place -/
def inP (w h : Nat) (u v : Int) : Prop := (0 ≤ u ∧ u < w) ∧ (0 ≤ v ∧ v < h)
def pz (w : Nat) (u v : Int) : Nat := v.toNat * w + u.toNat
noncomputable def kn (w h : Nat) (L : Nat → Int32) (x y k : Nat) : Bool := @decide (inP w h ((x : Int) + aZ k) ((y : Int) + dZ k) ∧ ¬ L (pz w ((x : Int) + aZ k) ((y : Int) + dZ k)) = -5) (Classical.propDecidable _)
noncomputable def dk (w : Nat) (L : Nat → Int32) (x y k : Nat) : Bool := @decide (L (pz w ((x : Int) + aZ k) ((y : Int) + dZ k)) < L (y * w + x)) (Classical.propDecidable _)
noncomputable def cc (w h : Nat) (L R : Nat → Int32) (x y d : Nat) : Nat := sm (fun k => b2 ((kn w h L x y k && kn w h R (x - d) y k) && (dk w L x y k ^^ dk w R (x - d) y k))) 8
noncomputable def costS (w h : Nat) (L R : Nat → Int32) (x y d : Nat) : Int32 := if x < d ∨ L (y * w + x) = -5 ∨ R (y * w + (x - d)) = -5 then -4 else nI (cc w h L R x y d)
theorem cc_le (w h : Nat) (L R : Nat → Int32) (x y d : Nat) : cc w h L R x y d ≤ 8 := by
  have := sm_le (n := 8) (c := 1) (f := fun k => b2 ((kn w h L x y k && kn w h R (x - d) y k) && (dk w L x y k ^^ dk w R (x - d) y k))) (fun k _ => b2_le _)
  exact this
/-- what is seen at a place: the shade, or -5 -/
def sv (M : Mem) (a : Int32) (w k : Nat) : Int32 := if mis M a (k / w) = 0 then sq M a k else -5
theorem seS_sv {M : Mem} {a : Int32} {w x y : Nat} (hx : x < w) : seS M a w x y = sv M a w (y * w + x) := by
  have e : (y * w + x) / w = y := by rw [Nat.mul_comm, Nat.mul_add_div (by omega), Nat.div_eq_of_lt hx, Nat.add_zero]
  unfold seS sv
  rw [e]
/-- bit k of a number is p k, k below n -/
def Bits (v n : Nat) (p : Nat → Bool) : Prop := v < 2 ^ n ∧ ∀ k, k < n → v.testBit k = p k
theorem Bits.no {v n : Nat} {p : Nat → Bool} (h : Bits v n p) (q : p n = false) : Bits v (n + 1) p := by
  refine ⟨Nat.lt_of_lt_of_le h.1 (Nat.pow_le_pow_right (by omega) (by omega)), fun k hk => ?_⟩
  rcases (show k < n ∨ k = n by omega) with z | z
  · exact h.2 k z
  · rw [z, q]; exact Nat.testBit_lt_two_pow h.1
theorem Bits.yes {v n : Nat} {p : Nat → Bool} (h : Bits v n p) (q : p n = true) : Bits (v ||| 2 ^ n) (n + 1) p := by
  refine ⟨Nat.or_lt_two_pow (Nat.lt_of_lt_of_le h.1 (Nat.pow_le_pow_right (by omega) (by omega))) (Nat.pow_lt_pow_right (by omega) (by omega)), fun k hk => ?_⟩
  rw [Nat.testBit_or, Nat.testBit_two_pow]
  rcases (show k < n ∨ k = n by omega) with z | z
  · rw [h.2 k z, decide_eq_false (by omega), Bool.or_false]
  · rw [z, q, decide_eq_true rfl, Bool.or_true]
theorem nI_or (a b : Nat) : nI a ||| nI b = nI (a ||| b) := by
  apply Int32.toBitVec_inj.1
  show BitVec.ofNat 32 a ||| BitVec.ofNat 32 b = BitVec.ofNat 32 (a ||| b)
  apply BitVec.eq_of_getLsbD_eq
  intro i hi
  simp [hi]
theorem nI_xor (a b : Nat) : nI a ^^^ nI b = nI (a ^^^ b) := by
  apply Int32.toBitVec_inj.1
  show BitVec.ofNat 32 a ^^^ BitVec.ofNat 32 b = BitVec.ofNat 32 (a ^^^ b)
  apply BitVec.eq_of_getLsbD_eq
  intro i hi
  simp [hi]
theorem shl1 : ∀ k, k < 8 → ((1 : Int32) <<< (nI k &&& 31)) = nI (2 ^ k) := by decide +kernel
/-- how a Stand holds the neighbours of one square -/
def StandOK (w h : Nat) (L : Nat → Int32) (kf df lf : Nat → Int32) (x y : Nat) : Prop := (L (y * w + x) = -5 → lf (y * w + x) = 1) ∧ (¬ L (y * w + x) = -5 → lf (y * w + x) = 0 ∧ ∃ v u : Nat, kf (y * w + x) = nI v ∧ df (y * w + x) = nI u ∧ Bits v 8 (kn w h L x y) ∧ Bits u 8 (fun k => kn w h L x y k && dk w L x y k))
theorem Bits.nil (p : Nat → Bool) : Bits 0 0 p := ⟨by decide, fun k hk => absurd hk (Nat.not_lt_zero k)⟩
theorem look19_w {M : Mem} {w h : Nat} (hd : Dim M w h) {x y : Nat} (hx : x < w) (hy : y < h) {Q : Mem → Prop} (g : ∀ N : Mem, (∀ c, c ≠ 20 → c ≠ 21 → c ≠ 22 → N c = M c) → (∀ k, k ≠ y * w + x → N 20 k = M 20 k ∧ N 21 k = M 21 k ∧ N 22 k = M 22 k) → StandOK w h (sv M 0 w) (N 20) (N 21) (N 22) x y → Q N) : wX8_lookAround_19_1 M 0 (nI x) (nI y) Q := by
  have hw : w ≤ 20 := hd.2.1
  have hh : h ≤ 10 := hd.2.2.2.1
  have hpl := pl200 hw hh hx hy
  have tail : ∀ (own x6 x7 : Int32) (ell : Int32), own = sv M 0 w (y * w + x) → ell = (if own = -5 then 1 else 0) → (¬ own = -5 → ∃ v u : Nat, x6 = nI v ∧ x7 = nI u ∧ Bits v 8 (kn w h (sv M 0 w) x y) ∧ Bits u 8 (fun k => kn w h (sv M 0 w) x y k && dk w (sv M 0 w) x y k)) → wX8_lookAround_19_1_J150 Q x6 x7 (nI (y * w + x)) (nI (y * w + x)) ell M := by
    intro own x6 x7 ell eo el hv
    unfold wX8_lookAround_19_1_J150
    rw [nI_clamp (by omega)]
    refine ⟨vp_in_nI hpl (by omega), ?_, fun M1 e1 => ⟨vp_in_nI hpl (by omega), fun M2 e2 => ⟨vp_in_nI hpl (by omega), fun M3 e3 => ?_⟩⟩⟩
    · rw [el]; split
      · exact Or.inr rfl
      · exact Or.inl rfl
    · have s22 : M3 22 = upd (M 22) (y * w + x) ell := by rw [e3, up_n _ _ (by decide), e2, up_n _ _ (by decide), e1, up_s]
      have s20 : M3 20 = upd (M 20) (y * w + x) x6 := by rw [e3, up_n _ _ (by decide), e2, up_s, e1, up_n _ _ (by decide)]
      have s21 : M3 21 = upd (M 21) (y * w + x) x7 := by rw [e3, up_s, e2, up_n _ _ (by decide), e1, up_n _ _ (by decide)]
      refine g M3 (fun c c0 c1 c2 => by rw [e3, up_n _ _ c1, e2, up_n _ _ c0, e1, up_n _ _ c2]) (fun k hk => ?_) ⟨fun q => ?_, fun q => ?_⟩
      · rw [s20, s21, s22, pk_un hk, pk_un hk, pk_un hk]; exact ⟨rfl, rfl, rfl⟩
      · rw [s22, pk_us, el, eo, if_pos q]
      · rw [s20, s21, s22, pk_us, pk_us, pk_us, el, eo, if_neg q]
        exact ⟨rfl, hv (by rw [eo]; exact q)⟩
  refine seen_w hd hx hy ?_
  rw [seS_sv hx]
  generalize eo : sv M 0 w (y * w + x) = own at tail ⊢
  refine forN (fun n z (p : Int32 × Int32 × Mem) => wX8_lookAround_19_1_L19 _ Q n 0 (nI x) (nI y) own p.1 p.2.1 z p.2.2) (fun k p => p.2.2 = M ∧ (own = -5 → k = 0) ∧ ∃ v u : Nat, p.1 = nI v ∧ p.2.1 = nI u ∧ Bits v k (kn w h (sv M 0 w) x y) ∧ Bits u k (fun k => kn w h (sv M 0 w) x y k && dk w (sv M 0 w) x y k)) 8 ?_ ?_ 0 (0, 0, M) (by omega) ⟨rfl, fun _ => rfl, 0, 0, rfl, rfl, Bits.nil _, Bits.nil _⟩
  · intro n p hI
    obtain ⟨h2, ho, h3⟩ := hI
    rw [wX8_lookAround_19_1_L19_s, h2]
    refine pk_le 8 8 (fun _ => placeOf_w hd ⟨fun q => ?_, fun q => absurd (ho q) (by decide)⟩) (fun q => absurd q (by omega))
    exact tail own p.1 p.2.1 0 rfl (if_neg q).symm (fun _ => h3)
  · intro n k p hk hI ih
    obtain ⟨h2, ho, v, u, e1, e2, bv, bu⟩ := hI
    have go : ∀ (t0 : Int32), (kn w h (sv M 0 w) x y k = true → ¬ t0 = -5 ∧ (dk w (sv M 0 w) x y k = true ↔ t0 < own)) → (kn w h (sv M 0 w) x y k = false → t0 = -5) → ¬ own = -5 → ∀ K : Int32 → Int32 → Int32 → Int32 → Int32 → Mem → Prop, K = (fun x3 x4 x5 x6 x7 M => wX6_placeOf M x3 x4 (fun r127 M127 => ((¬ (x5 = (-5))) → wX8_lookAround_19_1_J150 Q x6 x7 r127 r127 0 M127) ∧ (x5 = (-5) → wX8_lookAround_19_1_J150 Q x6 x7 r127 r127 1 M127))) → wX8_lookAround_19_1_J79 (wX8_lookAround_19_1_L19 K Q n) K Q 0 (nI x) (nI y) own p.1 p.2.1 (nI k) t0 M := by
      intro t0 t1 t2 no K eK
      subst eK
      have e12 := shl1 k hk
      refine ⟨fun q x2 ex2 => ?_, fun q x6 ex6 => ⟨fun q2 x7 ex7 x2 ex2 => ?_, fun q2 x7 ex7 x2 ex2 => ?_⟩⟩
      · have kf : kn w h (sv M 0 w) x y k = false := by
          cases z : kn w h (sv M 0 w) x y k with
          | true => exact absurd q (t1 z).1
          | false => rfl
        rw [ex2, nI_1]
        exact ih (p.1, p.2.1, M) ⟨rfl, fun z => absurd z no, v, u, e1, e2, bv.no kf, bu.no (by show (kn w h (sv M 0 w) x y k && _) = false; rw [kf]; rfl)⟩
      · have kt : kn w h (sv M 0 w) x y k = true := by
          cases z : kn w h (sv M 0 w) x y k with
          | true => rfl
          | false => exact absurd (t2 z) q
        have df : dk w (sv M 0 w) x y k = false := by
          cases z : dk w (sv M 0 w) x y k with
          | true => exact absurd q2 (Int32.not_le.mpr ((t1 kt).2.mp z))
          | false => rfl
        rw [ex2, nI_1]
        refine ih (x6, x7, M) ⟨rfl, fun z => absurd z no, v ||| 2 ^ k, u, ?_, ?_, bv.yes kt, bu.no (by show (kn w h (sv M 0 w) x y k && dk w (sv M 0 w) x y k) = false; rw [df, Bool.and_false])⟩
        · show x6 = _
          rw [ex6, e1, e12, nI_or]
        · show x7 = _
          rw [ex7, e2]
          have : nI u ||| 0 = nI (u ||| 0) := nI_or u 0
          rw [this, Nat.or_zero]
      · have kt : kn w h (sv M 0 w) x y k = true := by
          cases z : kn w h (sv M 0 w) x y k with
          | true => rfl
          | false => exact absurd (t2 z) q
        have dt : dk w (sv M 0 w) x y k = true := (t1 kt).2.mpr (Int32.not_le.mp q2)
        rw [ex2, nI_1]
        refine ih (x6, x7, M) ⟨rfl, fun z => absurd z no, v ||| 2 ^ k, u ||| 2 ^ k, ?_, ?_, bv.yes kt, bu.yes (by show (kn w h (sv M 0 w) x y k && dk w (sv M 0 w) x y k) = true; rw [kt, dt]; rfl)⟩
        · show x6 = _
          rw [ex6, e1, e12, nI_or]
        · show x7 = _
          rw [ex7, e2, e12, nI_or]
    rw [wX8_lookAround_19_1_L19_s, h2]
    refine pk_le 8 k (fun q => absurd q (by omega)) (fun _ => ⟨fun q => placeOf_w hd ⟨fun z => absurd q z, fun _ => ?_⟩, fun q => ?_⟩)
    · exact tail own p.1 p.2.1 1 rfl (if_pos q).symm (fun z => absurd q z)
    · rw [nI_clamp (by omega)]
      refine ⟨vp_in_nI (by omega) (by omega), fun X eX => ⟨vp_in_nI (by omega) (by omega), fun Y eY => ?_⟩⟩
      have kx := nb_ix (x := x) (w := w) (tabA_3 k hk) (by omega) (by omega)
      have ky := nb_ix (x := y) (w := h) (tabD_3 k hk) (by omega) (by omega)
      rw [← eX] at kx
      rw [← eY] at ky
      by_cases ip : inP w h ((x : Int) + aZ k) ((y : Int) + dZ k)
      · have ex : X = nI ((x : Int) + aZ k).toNat := kx.2 ip.1.1
        have ey : Y = nI ((y : Int) + dZ k).toNat := ky.2 ip.2.1
        have bx : ((x : Int) + aZ k).toNat < w := by have := ip.1; omega
        have by_ : ((y : Int) + dZ k).toNat < h := by have := ip.2; omega
        refine hasSquare_w hd (fun _ _ _ _ _ _ => ⟨fun z => absurd z (by decide), fun _ => ?_⟩) (fun z => absurd ⟨kx.1.mpr ip.1, ky.1.mpr ip.2⟩ z)
        rw [ex, ey]
        refine seen_w hd bx by_ ?_
        rw [seS_sv bx]
        refine go _ (fun z => ?_) (fun z => ?_) q _ rfl
        · have z2 := @of_decide_eq_true _ (Classical.propDecidable _) z
          refine ⟨z2.2, ?_⟩
          rw [← eo]
          constructor
          · intro z3; exact @of_decide_eq_true _ (Classical.propDecidable _) z3
          · intro z3; exact @decide_eq_true _ (Classical.propDecidable _) z3
        · have z2 := @of_decide_eq_false _ (Classical.propDecidable _) z
          by_cases z3 : sv M 0 w (((y : Int) + dZ k).toNat * w + ((x : Int) + aZ k).toNat) = -5
          · exact z3
          · exact absurd ⟨ip, z3⟩ z2
      · refine hasSquare_w hd (fun u2 v2 hu2 hv2 eu2 ev2 => absurd ⟨kx.1.mp ⟨u2, hu2, eu2⟩, ky.1.mp ⟨v2, hv2, ev2⟩⟩ ip) (fun _ => ⟨fun _ => ?_, fun z => absurd rfl z⟩)
        refine go _ (fun z => ?_) (fun _ => rfl) q _ rfl
        exact absurd (@of_decide_eq_true _ (Classical.propDecidable _) z).1 ip
