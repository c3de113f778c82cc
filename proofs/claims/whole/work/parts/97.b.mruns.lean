/-! the reference: votes, runs -/
def RM (M : Mem) (D H P Q T : Nat) : Prop := (D ≤ 8 ∧ H ≤ 20 ∧ P ≤ 20 ∧ Q ≤ 40 ∧ T ≤ 255) ∧ M 5 0 = nI D ∧ M 5 1 = nI H ∧ M 5 2 = nI P ∧ M 5 3 = nI Q ∧ M 5 4 = nI T
theorem RM.of {M N : Mem} {D H P Q T : Nat} (h : RM M D H P Q T) (e : N 5 = M 5) : RM N D H P Q T := by
  unfold RM; rw [e]; exact h
def MCost (w h D : Nat) (L R f : Nat → Int32) : Prop := ∀ x y, x < w → y < h → ∀ d, d ≤ D → f (9 * (y * w + x) + d) = costM w h L R x y d
theorem i9m (k d : Nat) : (9 * nI k) + nI d = nI (9 * k + d) := by
  show nI 9 * nI k + nI d = _
  rw [pk_mul, nI_add]
theorem plM2 {M : Mem} {w h x y : Nat} (hd : DimM M w h) : (9 * ((M 0 0 * nI y) + nI x)) = nI (9 * (y * w + x)) := by
  rw [plM hd]
  show nI 9 * nI (y * w + x) = _
  rw [pk_mul]
theorem voteAt_w {M : Mem} {w h D : Nat} {L R : Nat → Int32} (hm : VM M w h L R) (hc : MCost w h D L R (M 11)) {x y d : Nat} (hx : x < w) (hy : y < h) (hd : d ≤ D) (hD : D ≤ 8) {Q : Int32 → Mem → Prop} (g : Q (voteS w h L R x y d) M) : wX11_voteAt M (nI x) (nI y) (nI d) Q := by
  have hw : w ≤ 20 := hm.1.2.1
  have hh : h ≤ 10 := hm.1.2.2.2.1
  have hk := pl200 hw hh hx hy
  unfold voteS at g
  refine lostL_w hm hx hy (fun q => ⟨fun z => absurd z (by decide), fun _ => by rw [if_pos q] at g; exact g⟩) (fun qL => ⟨fun _ => ?_, fun z => absurd rfl z⟩)
  rw [if_neg qL] at g
  refine pk_le d x (fun q => ?_) (fun q => by rw [if_pos q] at g; exact g)
  rw [if_neg (by omega)] at g
  rw [pk_sub q]
  refine lostR_w hm (show x - d < w by omega) hy (fun qR => ⟨fun z => absurd z (by decide), fun _ => ?_⟩) (fun qR => ⟨fun _ => ?_, fun z => absurd rfl z⟩)
  · rw [if_pos (show costS w h L R x y d = -4 from if_pos (Or.inr (Or.inr qR)))] at g; exact g
  · rw [plM2 hm.1, nI_add, nI_clamp (by omega), hc x y hx hy d hd]
    refine ⟨vp_in_nI (by omega) (by omega), ?_⟩
    rcases costS_cases (w := w) (h := h) (L := L) (R := R) x y d with ⟨z, -⟩ | ⟨-, e1, e2, e3⟩
    · exact absurd z (fun z => z.elim (fun z => absurd z (by omega)) (fun z => z.elim qL qR))
    · rw [e1, if_neg e3] at g
      rw [e2]; exact g
theorem mn_l {a b : Int32} (h : a ≤ b) : mn a b = a := if_neg (fun z => absurd h (Int32.not_le.mpr z))
theorem mn_r {a b : Int32} (h : ¬ a ≤ b) : mn a b = b := if_pos (Int32.not_le.mp h)
theorem goesOn_w {M : Mem} {D H P Qr T B b d : Nat} (hr : RM M D H P Qr T) (hB : B + 9 ≤ 14400) (hd : d ≤ D) {F : Nat → Int32} (hF : ∀ d, d ≤ D → M 12 (B + d) = F (b + d)) {Q : Int32 → Mem → Prop} (g : Q (best F b D P Qr d) M) : wX11_goesOn M (nI B) (nI d) (lst F b (D + 1)) Q := by
  have hD : D ≤ 8 := hr.1.1
  have last : ∀ t, mn t (lst F b (D + 1) + nI Qr) = best F b D P Qr d → wX11_goesOn_J118 Q (lst F b (D + 1)) t M := by
    intro t et
    unfold wX11_goesOn_J118
    rw [cl3, hr.2.2.2.2.1]
    refine ⟨pk_in 3 5 (by omega), fun q => ?_, fun q => ⟨pk_in 3 5 (by omega), ?_⟩⟩
    · rw [← et, mn_l q] at g; exact g
    · rw [← et, mn_r q] at g; exact g
  have mid : ∀ t, t = (if d = 0 then F (b + d) else mn (F (b + d)) (F (b + d - 1) + nI P)) → wX11_goesOn_J62 Q (nI B) (nI d) (lst F b (D + 1)) t M := by
    intro t et
    unfold wX11_goesOn_J62
    rw [cl0, hr.2.1]
    refine ⟨pk_in 0 5 (by omega), ?_⟩
    refine pk_le D d (fun q => last t ?_) (fun q => ?_)
    · unfold best
      simp only [if_pos q]
      by_cases q2 : d = 0
      · simp only [if_pos q2] at et ⊢; rw [et]
      · simp only [if_neg q2] at et ⊢; rw [et, mn_rc]
    · rw [nI_add, nI_1, nI_clamp (by omega), cl2, hr.2.2.2.1, show B + d + 1 = B + (d + 1) by omega, hF (d + 1) (by omega)]
      have e : mn (mn t (F (b + (d + 1)) + nI P)) (lst F b (D + 1) + nI Qr) = best F b D P Qr d := by
        unfold best
        simp only [if_neg (show ¬ D ≤ d by omega)]
        rw [mn_rc]
        by_cases q2 : d = 0
        · simp only [if_pos q2] at et ⊢; rw [et]; rfl
        · simp only [if_neg q2] at et ⊢; rw [et, mn_rc (F (b + d))]; rfl
      refine ⟨vp_in_nI (by omega) (by omega), pk_in 2 5 (by omega), fun q2 => ?_, fun q2 => ⟨vp_in_nI (by omega) (by omega), pk_in 2 5 (by omega), ?_⟩⟩
      · exact last t (by rw [mn_l q2] at e; exact e)
      · exact last _ (by rw [mn_r q2] at e; exact e)
  unfold wX11_goesOn
  rw [nI_add, nI_clamp (by omega), hF d hd]
  refine ⟨vp_in_nI (by omega) (by omega), fun x4 e4 => ?_⟩
  rw [e4]
  refine pk_le d 0 (fun q => mid _ (by rw [if_pos (by omega)])) (fun q => ?_)
  rw [nI_m1 (by omega), nI_clamp (by omega), cl2, hr.2.2.2.1]
  have em : M 12 (B + d - 1) = F (b + d - 1) := by
    have := hF (d - 1) (by omega)
    rw [show B + (d - 1) = B + d - 1 by omega, show b + (d - 1) = b + d - 1 by omega] at this
    exact this
  rw [em]
  refine ⟨vp_in_nI (by omega) (by omega), pk_in 2 5 (by omega), fun q2 => ?_, fun q2 => ⟨vp_in_nI (by omega) (by omega), pk_in 2 5 (by omega), ?_⟩⟩
  · exact mid _ (by rw [if_neg (by omega), mn_l q2])
  · exact mid _ (by rw [if_neg (by omega), mn_r q2])
/-- the least of a neighbour's runs, in the reference's loop -/
theorem least_w {M : Mem} {D H P Qr T B b : Nat} (hr : RM M D H P Qr T) (hB : B + 9 ≤ 14400) {F : Nat → Int32} (hF : ∀ d, d ≤ D → M 12 (B + d) = F (b + d)) {x1 x2 x3 x4 x5 x6 : Int32} {K : Int32 → Int32 → Int32 → Int32 → Int32 → Int32 → Int32 → Int32 → Int32 → Mem → Prop} {Q : Mem → Prop} (g : K x1 x2 x3 x4 x5 x6 1 (nI B) (lst F b (D + 1)) M) : ∃ n, wX11_layRuns_L115 K Q n x1 x2 x3 x4 x5 x6 1 (nI B) 0 0 M := by
  have hD : D ≤ 8 := hr.1.1
  refine forN (fun n z (p : Int32 × Mem) => wX11_layRuns_L115 K Q n x1 x2 x3 x4 x5 x6 1 (nI B) p.1 z p.2) (fun d p => p.2 = M ∧ (d = 0 ∨ p.1 = lst F b d)) (D + 1) ?_ ?_ 0 (0, M) (by omega) ⟨rfl, Or.inl rfl⟩
  · intro n p hI
    obtain ⟨h1, h2⟩ := hI
    rw [wX11_layRuns_L115_s, h1, cl0, hr.2.1]
    refine ⟨pk_in 0 5 (by omega), ?_⟩
    refine pk_lt D (D + 1) (fun _ => ?_) (fun q => absurd q (by omega))
    rw [h2.elim (fun z => absurd z (by omega)) id]
    exact g
  · intro n d p hd hI ih
    obtain ⟨h1, h2⟩ := hI
    rw [wX11_layRuns_L115_s, h1, cl0, hr.2.1]
    refine ⟨pk_in 0 5 (by omega), ?_⟩
    refine pk_lt D d (fun q => absurd q (by omega)) (fun _ => ⟨fun z => absurd z (by decide), fun _ => ?_⟩)
    have J : lst F b (d + 1) = F (b + d) → wX11_layRuns_J151 (wX11_layRuns_L115 K Q n) K Q x1 x2 x3 x4 x5 x6 1 (nI B) (nI d) M := by
      intro e
      unfold wX11_layRuns_J151
      rw [nI_add, nI_clamp (by omega), hF d (by omega)]
      refine ⟨vp_in_nI (by omega) (by omega), fun y ey x ex => ?_⟩
      rw [ex, nI_1]
      exact ih (y, M) ⟨rfl, Or.inr (by rw [e]; exact ey)⟩
    refine pk_eq d 0 (fun q => J ?_) (fun q => ?_)
    · rw [q]; exact mn_max _
    · have h2' : p.1 = lst F b d := h2.elim (fun z => absurd z q) id
      rw [nI_add, nI_clamp (by omega), hF d (by omega), h2']
      refine ⟨vp_in_nI (by omega) (by omega), fun q2 x ex => ?_, fun q2 => J (mn_r q2)⟩
      rw [ex, nI_1]
      exact ih (_, M) ⟨rfl, Or.inr (mn_l q2).symm⟩
theorem i32_as (a b c : Int32) : a + (b - c) = a + b - c := by rw [Int32.sub_eq_add_neg, Int32.sub_eq_add_neg, Int32.add_assoc]
def LayInv (w h D P Q : Nat) (L R : Nat → Int32) (way : Nat) (M : Mem) (n : Nat) (N : Mem) : Prop := (∀ c, c ≠ 12 → c ≠ 13 → N c = M c) ∧ (∀ j, j < 1800 * way ∨ 1800 * way + 1800 ≤ j → N 12 j = M 12 j) ∧ (∀ i, i < n → ∀ d, d ≤ D → N 12 (1800 * way + (9 * kO w h way i + d)) = rn w h D P Q L R way (9 * kO w h way i + d) ∧ N 13 (9 * kO w h way i + d) = M 13 (9 * kO w h way i + d) + rn w h D P Q L R way (9 * kO w h way i + d)) ∧ ∀ i, n ≤ i → i < w * h → ∀ d, d ≤ D → N 13 (9 * kO w h way i + d) = M 13 (9 * kO w h way i + d)
/-- one square of one way -/
theorem laySq_w {M N : Mem} {w h D H P Qr T : Nat} {L R : Nat → Int32} {way n x y : Nat} (hm : VM M w h L R) (hr : RM M D H P Qr T) (hc : MCost w h D L R (M 11)) (hway : way < 8) (hx : x < w) (hy : y < h) (hn : n < w * h) (en : kO w h way n = y * w + x) (hI : LayInv w h D P Qr L R way M n N) {B : Int32 → Int32 → Int32 → Mem → Prop} {K : Mem → Prop} {Q : Mem → Prop} {x2 x3 : Int32} (ih : ∀ N2, LayInv w h D P Qr L R way M (n + 1) N2 → B (nI way) x2 (x3 + 1) N2) : wX11_layRuns_J31 B K Q (nI way) x2 x3 (nI (y * w + x)) N := by
  have hw : w ≤ 20 := hm.1.2.1
  have hh : h ≤ 10 := hm.1.2.2.2.1
  have hD : D ≤ 8 := hr.1.1
  have hk := pl200 hw hh hx hy
  have hwh := wh_le hw hh
  have f0 : ∀ c, c ≠ 12 → c ≠ 13 → N c = M c := hI.1
  have mN : VM N w h L R := hm.of (fun k _ => by rw [f0 0 (by decide) (by decide)]) (f0 1 (by decide) (by decide)) (f0 2 (by decide) (by decide)) (f0 3 (by decide) (by decide))
  have rN : RM N D H P Qr T := hr.of (f0 5 (by decide) (by decide))
  have kx := nb_ix (x := x) (w := w) (tabA_3 way hway) (by omega) (by omega)
  have ky := nb_ix (x := y) (w := h) (tabD_3 way hway) (by omega) (by omega)
  have w0 : ¬ N 0 0 = 0 := by rw [mN.1.2.2.2.2.1]; exact nI_ne0 (by omega) (by omega)
  refine ⟨w0, fun X0 eX0 => ⟨w0, fun Y0 eY0 => ?_⟩⟩
  have eX : X0 = nI x := by
    rw [eX0, mN.1.2.2.2.2.1]
    refine (pk_rem (by omega) (by omega) (by omega)).trans ?_
    rw [pl_mod hx]
  have eY : Y0 = nI y := by
    rw [eY0, mN.1.2.2.2.2.1, pk_div (by omega) (by omega) (by omega), pl_div hx]
  rw [eX, eY]
  -- the loop over the depths
  have loop : ∀ (x9 x10 x11 : Int32), (∀ d, d ≤ D → ∀ (N2 : Mem) (K2 : Int32 → Int32 → Mem → Prop), (∀ c, c ≠ 12 → c ≠ 13 → N2 c = N c) → (∀ j, (j < 1800 * way + 9 * (y * w + x) ∨ 1800 * way + 9 * (y * w + x) + 9 ≤ j) → N2 12 j = N 12 j) → ∀ (K3 : Int32 → Int32 → Int32 → Mem → Prop) (W : Int32 → Int32 → Int32 → Int32 → Int32 → Int32 → Int32 → Int32 → Int32 → Int32 → Mem → Prop), (∀ v, voteS w h L R x y d + v = rn w h D P Qr L R way (9 * (y * w + x) + d) → wX11_layRuns_J220 W K3 Q (nI way) x2 x3 (nI (y * w + x)) (nI x) (nI y) x9 x10 x11 (nI d) (voteS w h L R x y d) v N2) → ((x9 = 0) → wX11_layRuns_J220 W K3 Q (nI way) x2 x3 (nI (y * w + x)) (nI x) (nI y) x9 x10 x11 (nI d) (voteS w h L R x y d) 0 N2) ∧ (¬ (x9 = 0) → wX11_goesOn N2 x10 (nI d) x11 (fun r210 M210 => wX11_layRuns_J220 W K3 Q (nI way) x2 x3 (nI (y * w + x)) (nI x) (nI y) x9 x10 x11 (nI d) (voteS w h L R x y d) (r210 - x11) M210))) → ∃ n177, wX11_layRuns_L177 (fun x1 x2 x3 M => ∀ x3_268 : Int32, x3_268 = x3 + 1 → B x1 x2 x3_268 M) Q n177 (nI way) x2 x3 (nI (y * w + x)) (nI x) (nI y) x9 x10 x11 0 N := by
    intro x9 x10 x11 val
    refine forN (fun n z N2 => wX11_layRuns_L177 _ Q n (nI way) x2 x3 (nI (y * w + x)) (nI x) (nI y) x9 x10 x11 z N2) (fun d N2 => (∀ c, c ≠ 12 → c ≠ 13 → N2 c = N c) ∧ (∀ j, (j < 1800 * way + 9 * (y * w + x) ∨ 1800 * way + 9 * (y * w + x) + 9 ≤ j) → N2 12 j = N 12 j) ∧ (∀ d2, d2 < d → N2 12 (1800 * way + (9 * (y * w + x) + d2)) = rn w h D P Qr L R way (9 * (y * w + x) + d2) ∧ N2 13 (9 * (y * w + x) + d2) = N 13 (9 * (y * w + x) + d2) + rn w h D P Qr L R way (9 * (y * w + x) + d2)) ∧ ∀ j, (j < 9 * (y * w + x) ∨ 9 * (y * w + x) + d ≤ j) → N2 13 j = N 13 j) (D + 1) ?_ ?_ 0 N (by omega) ⟨fun _ _ _ => rfl, fun _ _ => rfl, fun d q => absurd q (by omega), fun _ _ => rfl⟩
    · intro n2 N2 hJ
      obtain ⟨j1, j2, j3, j4⟩ := hJ
      rw [wX11_layRuns_L177_s, cl0, j1 5 (by decide) (by decide), rN.2.1]
      refine ⟨pk_in 0 5 (by omega), ?_⟩
      refine pk_lt D (D + 1) (fun _ z ez => ?_) (fun q => absurd q (by omega))
      rw [ez]
      refine ih N2 ⟨fun c c1 c2 => (j1 c c1 c2).trans (f0 c c1 c2), fun j hj => (j2 j (by omega)).trans (hI.2.1 j hj), fun i hi d hd => ?_, fun i hi1 hi2 d hd => ?_⟩
      · by_cases z : i = n
        · rw [z, en]
          have := j3 d (by omega)
          refine ⟨this.1, this.2.trans ?_⟩
          have o := hI.2.2.2 n (Nat.le_refl _) hn d hd
          rw [en] at o
          rw [o]
        · have ne : kO w h way i ≠ y * w + x := fun q => z (kO_inj (by omega) hn (q.trans en.symm))
          have o := hI.2.2.1 i (by omega) d hd
          rw [j2 _ (by omega), j4 _ (by omega)]
          exact o
      · have ne : kO w h way i ≠ y * w + x := fun q => absurd (kO_inj (by omega) hn (q.trans en.symm)) (by omega)
        rw [j4 _ (by omega)]
        exact hI.2.2.2 i (by omega) hi2 d hd
    · intro n2 d N2 hd hJ ih2
      obtain ⟨j1, j2, j3, j4⟩ := hJ
      rw [wX11_layRuns_L177_s, cl0, j1 5 (by decide) (by decide), rN.2.1]
      refine ⟨pk_in 0 5 (by omega), ?_⟩
      refine pk_lt D d (fun q => absurd q (by omega)) (fun _ => ?_)
      have mN2 : VM N2 w h L R := mN.of (fun k _ => by rw [j1 0 (by decide) (by decide)]) (j1 1 (by decide) (by decide)) (j1 2 (by decide) (by decide)) (j1 3 (by decide) (by decide))
      refine voteAt_w mN2 (by rw [j1 11 (by decide) (by decide), f0 11 (by decide) (by decide)]; exact hc) hx hy (show d ≤ D by omega) hD ?_
      refine val d (by omega) N2 (fun _ _ _ => True) j1 j2 _ _ (fun v ev => ?_)
      intro x13 e13
      have e13' : x13 = rn w h D P Qr L R way (9 * (y * w + x) + d) := by rw [e13, ev]
      have a1 : ((1800 * nI way) + (9 * nI (y * w + x))) + nI d = nI (1800 * way + (9 * (y * w + x) + d)) := by
        show (nI 1800 * nI way + nI 9 * nI (y * w + x)) + nI d = _
        rw [pk_mul, pk_mul, nI_add, nI_add, Nat.add_assoc]
      rw [a1, i9m, nI_clamp (by omega), nI_clamp (by omega)]
      refine ⟨vp_in_nI (by omega) (by omega), fun N3 e3 => ⟨vp_in_nI (by omega) (by omega), vp_in_nI (by omega) (by omega), fun N4 e4 x2 ex2 => ?_⟩⟩
      rw [ex2, nI_1]
      have s12 : N4 12 = upd (N2 12) (1800 * way + (9 * (y * w + x) + d)) x13 := by rw [e4, up_n _ _ (by decide), e3, up_s]
      have s13 : N4 13 = upd (N2 13) (9 * (y * w + x) + d) (N2 13 (9 * (y * w + x) + d) + x13) := by rw [e4, up_s, e3, up_n _ _ (by decide)]
      refine ih2 N4 ⟨fun c c1 c2 => by rw [e4, up_n _ _ c2, e3, up_n _ _ c1, j1 c c1 c2], fun j hj => by rw [s12, pk_un (by omega)]; exact j2 j hj, fun d2 hd2 => ?_, fun j hj => by rw [s13, pk_un (by omega)]; exact j4 j (by omega)⟩
      rw [s12, s13]
      by_cases z : d2 = d
      · rw [z, pk_us, pk_us, j4 _ (by omega), e13']; exact ⟨rfl, rfl⟩
      · rw [pk_un (by omega), pk_un (by omega)]; exact j3 d2 (by omega)
  refine across_w hway (fun X1 eX1 => down_w hway (fun Y1 eY1 => ?_))
  rw [← eX1] at kx
  rw [← eY1] at ky
  by_cases ip : inP w h ((x : Int) + aZ way) ((y : Int) + dZ way)
  · obtain ⟨hp, m, hmn, em⟩ := kO_ord hway hx hy hn en ip
    have ex : X1 = nI ((x : Int) + aZ way).toNat := kx.2 ip.1.1
    have ey : Y1 = nI ((y : Int) + dZ way).toNat := ky.2 ip.2.1
    have ez : ((y : Int) + dZ way).toNat * w + ((x : Int) + aZ way).toNat = kO w h way m := em.symm
    refine isSquare_w mN.1 (fun _ _ _ _ _ _ => ⟨fun z => absurd z (by decide), fun _ x10 e10 => ?_⟩) (fun z => absurd ⟨kx.1.mpr ip.1, ky.1.mpr ip.2⟩ z)
    have e10' : x10 = nI (1800 * way + 9 * kO w h way m) := by
      rw [e10, ex, ey, plM2 mN.1, ez]
      show nI 1800 * nI way + nI (9 * kO w h way m) = _
      rw [pk_mul, nI_add]
    rw [e10']
    have hkm : kO w h way m < 200 := by rw [em]; omega
    have ne : kO w h way m ≠ y * w + x := fun q => absurd (kO_inj (by omega) hn (q.trans en.symm)) (by omega)
    have hF : ∀ d, d ≤ D → N 12 (1800 * way + 9 * kO w h way m + d) = rn w h D P Qr L R way (9 * kO w h way m + d) := fun d hd => by
      have := (hI.2.2.1 m hmn d hd).1
      rw [show 1800 * way + (9 * kO w h way m + d) = 1800 * way + 9 * kO w h way m + d by omega] at this
      exact this
    refine least_w rN (by omega) hF ?_
    refine loop 1 _ _ (fun d hd N2 _ q1 q2 K3 W go => ⟨fun z => absurd z (by decide), fun _ => ?_⟩)
    refine goesOn_w (rN.of (q1 5 (by decide) (by decide))) (by omega) hd (fun d2 hd2 => by rw [q2 _ (by omega)]; exact hF d2 hd2) (go _ ?_)
    rw [i32_as, rn_eq hway hx hy hd hD, rv, if_pos ip, em]
  · refine isSquare_w mN.1 (fun u2 v2 hu2 hv2 eu2 ev2 => absurd ⟨kx.1.mp ⟨u2, hu2, eu2⟩, ky.1.mp ⟨v2, hv2, ev2⟩⟩ ip) (fun _ => ⟨fun _ => ⟨1, ?_⟩, fun z => absurd rfl z⟩)
    rw [wX11_layRuns_L115_s, cl0, rN.2.1]
    refine ⟨pk_in 0 5 (by omega), ?_⟩
    refine pk_lt D 0 (fun q => absurd q (by omega)) (fun _ => ⟨fun _ => ?_, fun z => absurd rfl z⟩)
    refine loop 0 _ _ (fun d hd N2 _ q1 q2 K3 W go => ⟨fun _ => go 0 ?_, fun z => absurd rfl z⟩)
    rw [rn_eq hway hx hy hd hD, rv, if_neg ip]
    exact Int32.add_zero _
theorem layRuns_w {M : Mem} {w h D H P Qr T : Nat} {L R : Nat → Int32} {way : Nat} (hm : VM M w h L R) (hr : RM M D H P Qr T) (hc : MCost w h D L R (M 11)) (hway : way < 8) {Q : Mem → Prop} (g : ∀ N : Mem, LayInv w h D P Qr L R way M (w * h) N → Q N) : wX11_layRuns M (nI way) Q := by
  have hw : w ≤ 20 := hm.1.2.1
  have hh : h ≤ 10 := hm.1.2.2.2.1
  have hwh := wh_le hw hh
  intro x2 e2
  rw [hm.1.2.2.2.2.1, hm.1.2.2.2.2.2, pk_mul] at e2
  rw [e2]
  refine forN (fun n z N => wX11_layRuns_L12 _ Q n (nI way) (nI (w * h)) z N) (fun n N => LayInv w h D P Qr L R way M n N) (w * h) ?_ ?_ 0 M (by omega) ⟨fun _ _ _ => rfl, fun _ _ => rfl, fun i q => absurd q (by omega), fun _ _ _ _ _ => rfl⟩
  · intro n N hI
    rw [wX11_layRuns_L12_s]
    exact pk_le (w * h) (w * h) (fun _ => g N hI) (fun q => absurd q (by omega))
  · intro n i N hi hI ih
    rw [wX11_layRuns_L12_s]
    refine pk_le (w * h) i (fun q => absurd q (by omega)) (fun _ => ?_)
    have key : ∀ k, k = kO w h way i → wX11_layRuns_J31 (wX11_layRuns_L12 (fun M => Q M) Q n) (fun M => Q M) Q (nI way) (nI (w * h)) (nI i) (nI k) N := by
      intro k ek
      have hk := kO_lt (way := way) hi
      have w1 : 1 ≤ w := hm.1.1
      have e1 : k / w * w + k % w = k := by rw [Nat.mul_comm]; exact Nat.div_add_mod k w
      have hx : k % w < w := Nat.mod_lt _ (by omega)
      have hy : k / w < h := by
        rw [Nat.div_lt_iff_lt_mul (by omega), Nat.mul_comm]
        omega
      have := laySq_w (x := k % w) (y := k / w) (x2 := nI (w * h)) (x3 := nI i) (B := wX11_layRuns_L12 (fun M => Q M) Q n) (K := fun M => Q M) (Q := Q) hm hr hc hway hx hy hi (by rw [e1, ek]) hI (fun N2 h2 => by rw [nI_1]; exact ih N2 h2)
      rw [e1] at this
      exact this
    refine pk_le 4 way (fun q => ?_) (fun q => ?_)
    · rw [nI_m1 (by omega), pk_sub (by omega)]
      exact key _ (by unfold kO; rw [if_neg (by omega)])
    · exact key _ (by unfold kO; rw [if_pos q])
