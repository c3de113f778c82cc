/-! the reference: what it sees, its costs -/
def vP (a : Int32) (L R : Nat → Int32) : Nat → Int32 := if a = 0 then L else R
def VM (M : Mem) (w h : Nat) (L R : Nat → Int32) : Prop := DimM M w h ∧ ∀ a, IsPic a → ∀ x y, x < w → y < h → (misM M a y = 0 ∧ M 2 (pm a (y * w + x)) = 0 ↔ ¬ vP a L R (y * w + x) = -5) ∧ (¬ vP a L R (y * w + x) = -5 → M 1 (pm a (y * w + x)) = vP a L R (y * w + x))
theorem VM.of {M N : Mem} {w h : Nat} {L R : Nat → Int32} (hm : VM M w h L R) (e0 : ∀ k, k = 0 ∨ k = 1 → N 0 k = M 0 k) (e1 : N 1 = M 1) (e2 : N 2 = M 2) (e3 : N 3 = M 3) : VM N w h L R := by
  refine ⟨?_, ?_⟩
  · unfold DimM; rw [e0 0 (by omega), e0 1 (by omega)]; exact hm.1
  · unfold misM; rw [e1, e2, e3]; exact hm.2
theorem VM.same {M N : Mem} {w h : Nat} {L R : Nat → Int32} (hm : VM M w h L R) (s : SameM M N) : VM N w h L R := hm.of (fun k hk => s.1 k (by omega) (by omega) (by omega)) (s.2 1 (by omega) (by omega)) (s.2 2 (by omega) (by omega)) (s.2 3 (by omega) (by omega))
theorem sv_vP (M : Mem) (w : Nat) {a : Int32} (hp : IsPic a) : vP a (sv M 0 w) (sv M 1 w) = sv M a w := by
  rcases hp with rfl | rfl
  · rfl
  · rfl
theorem ShOK_of {Mx Mm : Mem} {w h : Nat} (hB : Base Mx Mm w h) (a : Int32) : ShOK w h (sv Mx a w) := by
  intro k hk
  have hk2 : k < 200 := Nat.lt_of_lt_of_le hk (wh_le hB.1.2.1 hB.1.2.2.2.1)
  obtain ⟨h1, h2, v, hv, h3⟩ := sq_rel hB.2.2.1 (a := a) hk2
  unfold sv
  by_cases q : mis Mx a (k / w) = 0
  · rw [if_pos q, h1]
    by_cases q2 : Mm 2 (pm a k) = 0
    · rw [if_pos q2]; exact Or.inr ⟨v, hv, h3⟩
    · rw [if_neg q2]; exact Or.inl rfl
  · rw [if_neg q]; exact Or.inl rfl
theorem VX_of {Mx Mm : Mem} {w h : Nat} (hB : Base Mx Mm w h) : VX Mx w h (sv Mx 0 w) (sv Mx 1 w) := ⟨hB.1, rfl, rfl, ShOK_of hB 0, ShOK_of hB 1⟩
theorem VM_of {Mx Mm : Mem} {w h : Nat} (hB : Base Mx Mm w h) : VM Mm w h (sv Mx 0 w) (sv Mx 1 w) := by
  refine ⟨hB.2.1, fun a hp x y hx hy => ?_⟩
  have hh : h ≤ 10 := hB.1.2.2.2.1
  have hk := pl200 hB.1.2.1 hh hx hy
  rw [sv_vP Mx w hp]
  obtain ⟨h1, h2, v, hv, h3⟩ := sq_rel hB.2.2.1 (a := a) hk
  have e := mis_eq hB.2.2.1 a (show y < 10 by omega)
  unfold sv
  rw [pl_div hx, e]
  by_cases q : mis Mx a y = 0
  · rw [if_pos q, h1]
    by_cases q2 : Mm 2 (pm a (y * w + x)) = 0
    · rw [if_pos q2]
      refine ⟨⟨fun _ => ?_, fun _ => ⟨q, q2⟩⟩, fun _ => rfl⟩
      rw [h3]; exact nI_n5 hv
    · rw [if_neg q2]
      exact ⟨⟨fun z => absurd z.2 q2, fun z => absurd rfl z⟩, fun z => absurd rfl z⟩
  · rw [if_neg q]
    exact ⟨⟨fun z => absurd z.1 q, fun z => absurd rfl z⟩, fun z => absurd rfl z⟩
theorem lostV_w {M : Mem} {w h : Nat} {L R : Nat → Int32} (hm : VM M w h L R) {a : Int32} (hp : IsPic a) {x y : Nat} (hx : x < w) (hy : y < h) {Q : Int32 → Mem → Prop} (g : Q (lo (vP a L R) (y * w + x)) M) : wX11_isLost M a (nI x) (nI y) Q := by
  have o := (hm.2 a hp x y hx hy).1
  refine isLost_w hm.1 hp hx hy ?_
  unfold lo at g
  by_cases q : vP a L R (y * w + x) = -5
  · rw [if_pos q] at g
    rw [if_neg (fun z => (o.mp z) q)]; exact g
  · rw [if_neg q] at g
    rw [if_pos (o.mpr q)]; exact g
theorem lostL_w {M : Mem} {w h : Nat} {L R : Nat → Int32} (hm : VM M w h L R) {x y : Nat} (hx : x < w) (hy : y < h) {Q : Int32 → Mem → Prop} (h1 : L (y * w + x) = -5 → Q 1 M) (h0 : ¬ L (y * w + x) = -5 → Q 0 M) : wX11_isLost M 0 (nI x) (nI y) Q := by
  refine lostV_w hm (Or.inl rfl) hx hy ?_
  unfold lo
  by_cases q : L (y * w + x) = -5
  · rw [if_pos (show vP 0 L R (y * w + x) = -5 from q)]; exact h1 q
  · rw [if_neg (show ¬ vP 0 L R (y * w + x) = -5 from q)]; exact h0 q
theorem lostR_w {M : Mem} {w h : Nat} {L R : Nat → Int32} (hm : VM M w h L R) {x y : Nat} (hx : x < w) (hy : y < h) {Q : Int32 → Mem → Prop} (h1 : R (y * w + x) = -5 → Q 1 M) (h0 : ¬ R (y * w + x) = -5 → Q 0 M) : wX11_isLost M 1 (nI x) (nI y) Q := by
  refine lostV_w hm (Or.inr rfl) hx hy ?_
  unfold lo
  by_cases q : R (y * w + x) = -5
  · rw [if_pos (show vP 1 L R (y * w + x) = -5 from q)]; exact h1 q
  · rw [if_neg (show ¬ vP 1 L R (y * w + x) = -5 from q)]; exact h0 q
theorem shL {M : Mem} {w h : Nat} {L R : Nat → Int32} (hm : VM M w h L R) {x y : Nat} (hx : x < w) (hy : y < h) (q : ¬ L (y * w + x) = -5) : M 1 (y * w + x) = L (y * w + x) := (hm.2 0 (Or.inl rfl) x y hx hy).2 q
theorem shR {M : Mem} {w h : Nat} {L R : Nat → Int32} (hm : VM M w h L R) {x y : Nat} (hx : x < w) (hy : y < h) (q : ¬ R (y * w + x) = -5) : M 1 (200 + (y * w + x)) = R (y * w + x) := (hm.2 1 (Or.inr rfl) x y hx hy).2 q
theorem across_key : ∀ k, k < 8 → tabA k = (if nI k = 0 then -1 else if nI k = 3 then -1 else if nI k = 5 then -1 else if nI k = 1 then 0 else if nI k = 6 then 0 else 1) := by decide +kernel
theorem down_key : ∀ k, k < 8 → (3 ≤ nI k → 5 ≤ nI k → tabD k = 1) ∧ (3 ≤ nI k → ¬ 5 ≤ nI k → tabD k = 0) ∧ (¬ 3 ≤ nI k → tabD k = -1) := by decide +kernel
theorem across_w {M : Mem} {k : Nat} (hk : k < 8) {Q : Int32 → Mem → Prop} (g : Q (tabA k) M) : wX11_acrossOf M (nI k) Q := by
  rw [across_key k hk] at g
  refine ⟨fun q => by rw [if_pos q] at g; exact g, fun n0 => ?_⟩
  rw [if_neg n0] at g
  refine ⟨fun q => by rw [if_pos q] at g; exact g, fun n3 => ?_⟩
  rw [if_neg n3] at g
  refine ⟨fun n5 => ?_, fun q => by rw [if_pos q] at g; exact g⟩
  rw [if_neg n5] at g
  refine ⟨fun q => by rw [if_pos q] at g; exact g, fun n1 => ?_⟩
  rw [if_neg n1] at g
  exact ⟨fun n6 => by rw [if_neg n6] at g; exact g, fun q => by rw [if_pos q] at g; exact g⟩
theorem down_w {M : Mem} {k : Nat} (hk : k < 8) {Q : Int32 → Mem → Prop} (g : Q (tabD k) M) : wX11_downOf M (nI k) Q := by
  obtain ⟨h1, h0, hm⟩ := down_key k hk
  exact ⟨fun q => ⟨fun q2 => by rw [← h1 q q2]; exact g, fun q2 => by rw [← h0 q q2]; exact g⟩, fun q => by rw [← hm q]; exact g⟩
theorem known_w {M : Mem} {w h : Nat} {L R : Nat → Int32} (hm : VM M w h L R) {a : Int32} (hp : IsPic a) {x y k : Nat} (hx : x < w) (hy : y < h) (hk : k < 8) {Q : Int32 → Mem → Prop} (h1 : kn w h (vP a L R) x y k = true → inP w h ((x : Int) + aZ k) ((y : Int) + dZ k) → nI x + tabA k = nI ((x : Int) + aZ k).toNat → nI y + tabD k = nI ((y : Int) + dZ k).toNat → M 1 (pm a (pz w ((x : Int) + aZ k) ((y : Int) + dZ k))) = vP a L R (pz w ((x : Int) + aZ k) ((y : Int) + dZ k)) → Q 1 M) (h0 : kn w h (vP a L R) x y k = false → Q 0 M) : wX11_isKnown M a (nI x + tabA k) (nI y + tabD k) Q := by
  have hw : w ≤ 20 := hm.1.2.1
  have hh : h ≤ 10 := hm.1.2.2.2.1
  have kx := nb_ix (x := x) (w := w) (tabA_3 k hk) (by omega) (by omega)
  have ky := nb_ix (x := y) (w := h) (tabD_3 k hk) (by omega) (by omega)
  by_cases ip : inP w h ((x : Int) + aZ k) ((y : Int) + dZ k)
  · have ex : nI x + tabA k = nI ((x : Int) + aZ k).toNat := kx.2 ip.1.1
    have ey : nI y + tabD k = nI ((y : Int) + dZ k).toNat := ky.2 ip.2.1
    have bx : ((x : Int) + aZ k).toNat < w := by have := ip.1; omega
    have by_ : ((y : Int) + dZ k).toNat < h := by have := ip.2; omega
    refine isSquare_w hm.1 (fun _ _ _ _ _ _ => ⟨fun z => absurd z (by decide), fun _ => ?_⟩) (fun z => absurd ⟨kx.1.mpr ip.1, ky.1.mpr ip.2⟩ z)
    rw [ex, ey]
    refine lostV_w hm hp bx by_ ?_
    refine ⟨fun q => h0 ?_, fun q => h1 ?_ ip ex ey ?_⟩
    · refine @decide_eq_false _ (Classical.propDecidable _) (fun z => ?_)
      exact q (lo0.mpr z.2)
    · exact @decide_eq_true _ (Classical.propDecidable _) ⟨ip, lo0.mp q⟩
    · exact (hm.2 a hp _ _ bx by_).2 (lo0.mp q)
  · refine isSquare_w hm.1 (fun u2 v2 hu2 hv2 eu2 ev2 => absurd ⟨kx.1.mp ⟨u2, hu2, eu2⟩, ky.1.mp ⟨v2, hv2, ev2⟩⟩ ip) (fun _ => ⟨fun _ => h0 ?_, fun z => absurd rfl z⟩)
    exact @decide_eq_false _ (Classical.propDecidable _) (fun z => ip z.1)
noncomputable def costM (w h : Nat) (L R : Nat → Int32) (x y d : Nat) : Int32 := if costS w h L R x y d = -4 then -1 else costS w h L R x y d
theorem costS_cases {w h : Nat} {L R : Nat → Int32} (x y d : Nat) : ((x < d ∨ L (y * w + x) = -5 ∨ R (y * w + (x - d)) = -5) ∧ costS w h L R x y d = -4 ∧ costM w h L R x y d = -1) ∨ (¬ (x < d ∨ L (y * w + x) = -5 ∨ R (y * w + (x - d)) = -5) ∧ costS w h L R x y d = nI (cc w h L R x y d) ∧ costM w h L R x y d = nI (cc w h L R x y d) ∧ ¬ nI (cc w h L R x y d) = -4) := by
  unfold costM
  by_cases q : x < d ∨ L (y * w + x) = -5 ∨ R (y * w + (x - d)) = -5
  · have e : costS w h L R x y d = -4 := if_pos q
    rw [e]
    exact Or.inl ⟨q, rfl, rfl⟩
  · have e : costS w h L R x y d = nI (cc w h L R x y d) := if_neg q
    have n : ¬ nI (cc w h L R x y d) = -4 := ne_neg (by have := cc_le w h L R x y d; omega) (by decide)
    rw [e, if_neg n]
    exact Or.inr ⟨q, rfl, rfl, n⟩
theorem dk_iff {w : Nat} {L : Nat → Int32} {x y k : Nat} : dk w L x y k = true ↔ L (pz w ((x : Int) + aZ k) ((y : Int) + dZ k)) < L (y * w + x) := ⟨fun z => @of_decide_eq_true _ (Classical.propDecidable _) z, fun z => @decide_eq_true _ (Classical.propDecidable _) z⟩
theorem costAt_w {M : Mem} {w h : Nat} {L R : Nat → Int32} (hm : VM M w h L R) {x y d : Nat} (hx : x < w) (hy : y < h) (hd : d < 9) {Q : Int32 → Mem → Prop} (g : Q (costM w h L R x y d) M) : wX11_costAt M (nI x) (nI y) (nI d) Q := by
  have hw : w ≤ 20 := hm.1.2.1
  have hh : h ≤ 10 := hm.1.2.2.2.1
  have hk := pl200 hw hh hx hy
  have no : (x < d ∨ L (y * w + x) = -5 ∨ R (y * w + (x - d)) = -5) → Q (-1) M := by
    intro q
    rcases costS_cases (w := w) (h := h) (L := L) (R := R) x y d with ⟨-, -, e⟩ | ⟨z, -⟩
    · rw [e] at g; exact g
    · exact absurd q z
  refine pk_lt x d (fun q => no (Or.inl q)) (fun hdx => ?_)
  have es : nI x - nI d = nI (x - d) := pk_sub hdx
  refine lostL_w hm hx hy (fun q => ⟨fun _ => no (Or.inr (Or.inl q)), fun z => absurd z (by decide)⟩) (fun qL => ⟨fun z => absurd rfl z, fun _ => ?_⟩)
  rw [es]
  refine lostR_w hm (show x - d < w by omega) hy (fun q => ⟨fun z => absurd z (by decide), fun _ => no (Or.inr (Or.inr q))⟩) (fun qR => ⟨fun _ => ?_, fun z => absurd rfl z⟩)
  refine at_w hm.1 (Or.inl rfl) ⟨vp_in_nI (pm_lt hk) (by omega), fun own eo => ?_⟩
  have hk2 := pl200 hw hh (show x - d < w by omega) hy
  refine at_w hm.1 (Or.inr rfl) ⟨vp_in_nI (pm_lt hk2) (by omega), fun oth et => ?_⟩
  have pm1 := pm_lt (a := 0) hk
  have pm2 := pm_lt (a := 1) hk2
  have eo2 : own = L (y * w + x) := by rw [eo, nI_clamp (by omega)]; exact shL hm hx hy qL
  have et2 : oth = R (y * w + (x - d)) := by rw [et, nI_clamp (by omega)]; exact shR hm (by omega) hy qR
  have gc : Q (nI (cc w h L R x y d)) M := by
    rcases costS_cases (w := w) (h := h) (L := L) (R := R) x y d with ⟨z, -⟩ | ⟨-, -, e, -⟩
    · exact absurd z (fun z => z.elim (fun z => absurd z (by omega)) (fun z => z.elim qL qR))
    · rw [e] at g; exact g
  refine forN (fun n z (p : Int32 × Mem) => wX11_costAt_L65 _ Q n (nI x) (nI y) (nI d) p.1 own oth z p.2) (fun k p => p.2 = M ∧ p.1 = nI (sm (fun k => b2 ((kn w h L x y k && kn w h R (x - d) y k) && (dk w L x y k ^^ dk w R (x - d) y k))) k)) 8 ?_ ?_ 0 (0, M) (by omega) ⟨rfl, rfl⟩
  · intro n p hI
    obtain ⟨h1, h2⟩ := hI
    rw [wX11_costAt_L65_s]
    refine pk_le 8 8 (fun _ => ?_) (fun q => absurd q (by omega))
    rw [h1, h2]; exact gc
  · intro n k p hk8 hI ih
    obtain ⟨h1, h2⟩ := hI
    rw [wX11_costAt_L65_s, h1, h2, es]
    refine pk_le 8 k (fun q => absurd q (by omega)) (fun _ => ?_)
    refine across_w hk8 (down_w hk8 ?_)
    have nx : ∀ b : Nat, b = b2 ((kn w h L x y k && kn w h R (x - d) y k) && (dk w L x y k ^^ dk w R (x - d) y k)) → wX11_costAt_L65 (fun x4 M => Q x4 M) Q n (nI x) (nI y) (nI d) (nI (sm (fun k => b2 ((kn w h L x y k && kn w h R (x - d) y k) && (dk w L x y k ^^ dk w R (x - d) y k))) k + b)) own oth (nI (k + 1)) M := by
      intro b eb
      refine ih (_, M) ⟨rfl, ?_⟩
      rw [eb]; rfl
    refine known_w hm (Or.inl rfl) hx hy hk8 (fun kL ip ex ey eM => ⟨fun z => absurd z (by decide), fun _ => ?_⟩) (fun kL => ⟨fun _ x2 ex2 => ?_, fun z => absurd rfl z⟩)
    · refine known_w hm (Or.inr rfl) (show x - d < w by omega) hy hk8 (fun kR ip2 ex2 ey2 eM2 => ⟨fun z => absurd z (by decide), fun _ => ?_⟩) (fun kR => ⟨fun _ x2 ex2 => ?_, fun z => absurd rfl z⟩)
      · change kn w h L x y k = true at kL
        change kn w h R (x - d) y k = true at kR
        rw [ex, ey]
        refine at_w hm.1 (Or.inl rfl) ?_
        have b1 : ((y : Int) + dZ k).toNat * w + ((x : Int) + aZ k).toNat < 200 := pl200 hw hh (by have := ip.1; omega) (by have := ip.2; omega)
        have b2' : ((y : Int) + dZ k).toNat * w + (((x - d : Nat) : Int) + aZ k).toNat < 200 := pl200 hw hh (by have := ip2.1; omega) (by have := ip.2; omega)
        have c1 := pm_lt (a := 0) b1
        have c2 := pm_lt (a := 1) b2'
        rw [nI_clamp (by omega)]
        have eA : M 1 (pm 0 (((y : Int) + dZ k).toNat * w + ((x : Int) + aZ k).toNat)) = L (pz w ((x : Int) + aZ k) ((y : Int) + dZ k)) := eM
        have eB : M 1 (pm 1 (((y : Int) + dZ k).toNat * w + (((x - d : Nat) : Int) + aZ k).toNat)) = R (pz w (((x - d : Nat) : Int) + aZ k) ((y : Int) + dZ k)) := eM2
        have last : ∀ (t u : Bool), t = dk w L x y k → u = dk w R (x - d) y k → wX11_costAt_J180 (wX11_costAt_L65 (fun x4 M => Q x4 M) Q n) (fun x4 M => Q x4 M) Q (nI x) (nI y) (nI d) (nI (sm (fun k => b2 ((kn w h L x y k && kn w h R (x - d) y k) && (dk w L x y k ^^ dk w R (x - d) y k))) k)) own oth (nI k) (i2 t) (i2 u) M := by
          intro t u e1 e2
          refine ⟨fun q x4 e4 x2 ex2 => ?_, fun q x4 e4 x2 ex2 => ?_⟩
          · have z : t = u := by cases t <;> cases u <;> first | rfl | exact absurd q (by decide)
            rw [e4, ex2, nI_1]
            have := nx 0 (by rw [kL, kR, ← e1, ← e2, z]; cases u <;> rfl)
            rw [Nat.add_zero] at this
            rw [show nI (sm (fun k => b2 ((kn w h L x y k && kn w h R (x - d) y k) && (dk w L x y k ^^ dk w R (x - d) y k))) k) + 0 = nI (sm (fun k => b2 ((kn w h L x y k && kn w h R (x - d) y k) && (dk w L x y k ^^ dk w R (x - d) y k))) k) from nI_add _ 0]
            exact this
          · have z : t ≠ u := fun z => q (by rw [z])
            rw [e4, ex2, nI_1, nI_1]
            refine nx 1 ?_
            rw [kL, kR, ← e1, ← e2]
            revert z
            cases t <;> cases u <;> first | (intro z; rfl) | (intro z; exact absurd rfl z)
        have mid : ∀ (t : Bool), t = dk w L x y k → wX11_costAt_J148 (wX11_costAt_L65 (fun x4 M => Q x4 M) Q n) (fun x4 M => Q x4 M) Q (nI x) (nI y) (nI d) (nI (sm (fun k => b2 ((kn w h L x y k && kn w h R (x - d) y k) && (dk w L x y k ^^ dk w R (x - d) y k))) k)) own oth (nI k) (tabA k) (tabD k) (i2 t) M := by
          intro t e1
          unfold wX11_costAt_J148
          rw [es, ex2, ey]
          refine at_w hm.1 (Or.inr rfl) ?_
          rw [nI_clamp (by omega), eB]
          refine ⟨vp_in_nI c2 (by omega), fun q => ?_, fun q => ?_⟩ <;> rw [et2] at q
          · refine last t false e1 ?_
            cases z : dk w R (x - d) y k with
            | true => exact absurd q (Int32.not_le.mpr (dk_iff.mp z))
            | false => rfl
          · exact last t true e1 (dk_iff.mpr (Int32.not_le.mp q)).symm
        rw [eA]
        refine ⟨vp_in_nI c1 (by omega), fun q => ?_, fun q => ?_⟩ <;> rw [eo2] at q
        · refine mid false ?_
          cases z : dk w L x y k with
          | true => exact absurd q (Int32.not_le.mpr (dk_iff.mp z))
          | false => rfl
        · exact mid true (dk_iff.mpr (Int32.not_le.mp q)).symm
      · change kn w h R (x - d) y k = false at kR
        rw [ex2, nI_1]
        have := nx 0 (by rw [kR, Bool.and_false]; rfl)
        rw [Nat.add_zero] at this
        exact this
    · change kn w h L x y k = false at kL
      rw [ex2, nI_1]
      have := nx 0 (by rw [kL]; rfl)
      rw [Nat.add_zero] at this
      exact this
