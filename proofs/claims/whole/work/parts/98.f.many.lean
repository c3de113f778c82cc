/-! how many -/
def cnt (p : Nat → Prop) [DecidablePred p] (n : Nat) : Nat := sm (fun k => b2 (decide (p k))) n
theorem cnt_t {p : Nat → Prop} [DecidablePred p] {n : Nat} (q : p n) : cnt p (n + 1) = cnt p n + 1 := by
  show cnt p n + b2 (decide (p n)) = _
  rw [b2_t q]
theorem cnt_f {p : Nat → Prop} [DecidablePred p] {n : Nat} (q : ¬ p n) : cnt p (n + 1) = cnt p n := by
  show cnt p n + b2 (decide (p n)) = _
  rw [b2_f q]; rfl
theorem countLost_w {M : Mem} {w h : Nat} {L R : Nat → Int32} (hx : VX M w h L R) {a : Int32} (hp : IsPic a) {Q : Int32 → Mem → Prop} (g : Q (nI (cnt (fun k => vP a L R k = -5) (w * h))) M) : wX6_countLost M a Q := by
  have dN := hx.1
  have hw : w ≤ 20 := dN.2.1
  have hh : h ≤ 10 := dN.2.2.2.1
  refine forN (fun n z (c : Int32) => wX6_countLost_L4 _ _ n a c z M) (fun y c => c = nI (cnt (fun k => vP a L R k = -5) (y * w))) h ?_ ?_ 0 0 (by omega) (by rw [Nat.zero_mul]; rfl)
  · intro n c ec
    rw [wX6_countLost_L4_s, dN.2.2.2.2.2, ec, Nat.mul_comm]
    exact pk_le h h (fun _ => g) (fun q => absurd q (by omega))
  · intro n y c hy ec ih
    rw [wX6_countLost_L4_s, dN.2.2.2.2.2, ec]
    refine pk_le h y (fun q => absurd q (by omega)) (fun _ => ?_)
    refine forN (fun n z (c : Int32) => wX6_countLost_L15 _ _ n a c (nI y) z M) (fun x c => c = nI (cnt (fun k => vP a L R k = -5) (y * w + x))) w ?_ ?_ 0 _ (by omega) rfl
    · intro n2 c2 ec2
      rw [wX6_countLost_L15_s, dN.2.2.2.2.1]
      refine pk_le w w (fun _ z ez => ?_) (fun q => absurd q (by omega))
      rw [ez, nI_1]
      exact ih c2 (by rw [ec2, Nat.add_mul, Nat.one_mul])
    · intro n2 x c2 hx2 ec2 ih2
      rw [wX6_countLost_L15_s, dN.2.2.2.2.1, ec2]
      refine pk_le w x (fun q => absurd q (by omega)) (fun _ => ?_)
      have es : seS M a w x y = vP a L R (y * w + x) := by
        rw [← hx.2.1, ← hx.2.2.1, sv_vP M w hp]
        unfold sv seS
        rw [pl_div hx2]
      refine seen_w dN hx2 hy ?_
      rw [es]
      refine ⟨fun z u eu => ?_, fun z v ev u eu => ?_⟩
      · rw [eu, nI_1]
        exact ih2 (nI (cnt (fun k => vP a L R k = -5) (y * w + x))) (congrArg nI (cnt_f (p := fun k => vP a L R k = -5) z).symm)
      · rw [eu, nI_1]
        exact ih2 v (by rw [ev, nI_1]; exact congrArg nI (cnt_t (p := fun k => vP a L R k = -5) z).symm)
theorem lostMany_w {M : Mem} {w h : Nat} {L R : Nat → Int32} (hm : VM M w h L R) {a : Int32} (hp : IsPic a) {Q : Int32 → Mem → Prop} (g : Q (nI (cnt (fun k => vP a L R k = -5) (w * h))) M) : wX11_lostMany M a Q := by
  have dN := hm.1
  have hw : w ≤ 20 := dN.2.1
  have hh : h ≤ 10 := dN.2.2.2.1
  refine forN (fun n z (c : Int32) => wX11_lostMany_L4 _ _ n a c z M) (fun y c => c = nI (cnt (fun k => vP a L R k = -5) (y * w))) h ?_ ?_ 0 0 (by omega) (by rw [Nat.zero_mul]; rfl)
  · intro n c ec
    rw [wX11_lostMany_L4_s, dN.2.2.2.2.2, ec, Nat.mul_comm]
    exact pk_le h h (fun _ => g) (fun q => absurd q (by omega))
  · intro n y c hy ec ih
    rw [wX11_lostMany_L4_s, dN.2.2.2.2.2, ec]
    refine pk_le h y (fun q => absurd q (by omega)) (fun _ => ?_)
    refine forN (fun n z (c : Int32) => wX11_lostMany_L15 _ _ n a c (nI y) z M) (fun x c => c = nI (cnt (fun k => vP a L R k = -5) (y * w + x))) w ?_ ?_ 0 _ (by omega) rfl
    · intro n2 c2 ec2
      rw [wX11_lostMany_L15_s, dN.2.2.2.2.1]
      refine pk_le w w (fun _ z ez => ?_) (fun q => absurd q (by omega))
      rw [ez, nI_1]
      exact ih c2 (by rw [ec2, Nat.add_mul, Nat.one_mul])
    · intro n2 x c2 hx2 ec2 ih2
      rw [wX11_lostMany_L15_s, dN.2.2.2.2.1, ec2]
      refine pk_le w x (fun q => absurd q (by omega)) (fun _ => ?_)
      refine lostV_w hm hp hx2 hy ⟨fun z v ev u eu => ?_, fun z v ev u eu => ?_⟩
      · rw [eu, nI_1]
        exact ih2 v (by rw [ev]; exact (Int32.add_zero _).trans (congrArg nI (cnt_f (p := fun k => vP a L R k = -5) (lo0.mp z)).symm))
      · rw [eu, nI_1]
        exact ih2 v (by rw [ev, nI_1]; exact congrArg nI (cnt_t (p := fun k => vP a L R k = -5) (Classical.byContradiction (fun q => z (lo0.mpr q)))).symm)
theorem o_many : St_many Inv := by
  rintro Mx Mm a ⟨w, h, D, H, P, Qr, T, L, R, hI⟩
  have hw : w ≤ 20 := hI.1.1.2.1
  have hh : h ≤ 10 := hI.1.1.2.2.2.1
  have w1 : 1 ≤ w := hI.1.1.1
  have hwh := wh_le hw hh
  have hD : D ≤ 8 := hI.2.1.1.1
  have dX := hI.1.1
  have eX : Mx 1 0 * Mx 1 1 = nI (w * h) := by rw [dX.2.2.2.2.1, dX.2.2.2.2.2, pk_mul]
  have rk : ∀ {Q : Mem → Prop}, (∀ Nm : Mem, SameM Mm Nm → CMs Nm w h D P Qr T L R → Q Nm) → wX11_reckon Mm Q := fun g => reckon_w hI.2.2.2.2.1 hI.2.2.1 hI.2.2.2.1.2.2.2.1 hI.2.2.2.2.2.2 g
  have JJ : ∀ {Nx Nm : Mem}, SameX Mx Nx → CX Nx w h D H P Qr T L R → SameM Mm Nm → CMs Nm w h D P Qr T L R → Inv Nx Nm := fun sx cx sm cm => ⟨_, _, _, _, _, _, _, _, _, inv_same hI sx sm cx (Or.inr cm)⟩
  have J1 : ∀ {Nm : Mem}, SameM Mm Nm → CMs Nm w h D P Qr T L R → Inv Mx Nm := fun sm cm => JJ (SameX.rf _) hI.2.2.2.2.2.1 sm cm
  have vm : ∀ {Nm : Mem}, SameM Mm Nm → VM Nm w h L R := fun sm => hI.2.2.2.2.1.same sm
  have ewh : ∀ {Nm : Mem}, SameM Mm Nm → Nm 0 0 * Nm 0 1 = nI (w * h) := fun sm => by rw [(vm sm).1.2.2.2.2.1, (vm sm).1.2.2.2.2.2, pk_mul]
  apply Classical.byCases (p := Ix a 8)
  · rintro ⟨i, hi, rfl⟩
    rcases (show i = 0 ∨ i = 1 ∨ i = 2 ∨ i = 3 ∨ i = 4 ∨ i = 5 ∨ i = 6 ∨ i = 7 by omega) with rfl | rfl | rfl | rfl | rfl | rfl | rfl | rfl
    · refine ⟨fun _ => ?_, fun z => absurd z (by decide +kernel), fun z => absurd z (by decide +kernel), fun z => absurd z (by decide +kernel), fun z => absurd z (by decide +kernel), fun z => absurd z (by decide +kernel), fun z => absurd z (by decide +kernel), fun z => absurd z (by decide +kernel), fun z => absurd z (by decide +kernel)⟩
      refine rk (fun Nm sm cm => ⟨fun _ => ⟨?_, J1 sm cm⟩, fun z => absurd z (by decide +kernel), fun z => absurd z (by decide +kernel), fun z => absurd z (by decide +kernel), fun z => absurd z (by decide +kernel), fun z => absurd z (by decide +kernel), fun z => absurd z (by decide +kernel), fun z => absurd z (by decide +kernel), fun z => absurd z (by decide +kernel)⟩)
      rw [dX.2.2.2.2.1, (vm sm).1.2.2.2.2.1]
    · refine ⟨fun z => absurd z (by decide +kernel), fun _ => ?_, fun z => absurd z (by decide +kernel), fun z => absurd z (by decide +kernel), fun z => absurd z (by decide +kernel), fun z => absurd z (by decide +kernel), fun z => absurd z (by decide +kernel), fun z => absurd z (by decide +kernel), fun z => absurd z (by decide +kernel)⟩
      refine rk (fun Nm sm cm => ⟨fun z => absurd z (by decide +kernel), fun _ => ⟨?_, J1 sm cm⟩, fun z => absurd z (by decide +kernel), fun z => absurd z (by decide +kernel), fun z => absurd z (by decide +kernel), fun z => absurd z (by decide +kernel), fun z => absurd z (by decide +kernel), fun z => absurd z (by decide +kernel), fun z => absurd z (by decide +kernel)⟩)
      rw [dX.2.2.2.2.2, (vm sm).1.2.2.2.2.2]
    · refine ⟨fun z => absurd z (by decide +kernel), fun z => absurd z (by decide +kernel), fun _ => countLost_w hI.2.2.2.1 (Or.inl rfl) ?_, fun z => absurd z (by decide +kernel), fun z => absurd z (by decide +kernel), fun z => absurd z (by decide +kernel), fun z => absurd z (by decide +kernel), fun z => absurd z (by decide +kernel), fun z => absurd z (by decide +kernel)⟩
      refine rk (fun Nm sm cm => ⟨fun z => absurd z (by decide +kernel), fun z => absurd z (by decide +kernel), fun _ => ?_, fun z => absurd z (by decide +kernel), fun z => absurd z (by decide +kernel), fun z => absurd z (by decide +kernel), fun z => absurd z (by decide +kernel), fun z => absurd z (by decide +kernel), fun z => absurd z (by decide +kernel)⟩)
      rw [show nI 2 - 2 = 0 by decide +kernel]
      exact lostMany_w (vm sm) (Or.inl rfl) ⟨rfl, J1 sm cm⟩
    · refine ⟨fun z => absurd z (by decide +kernel), fun z => absurd z (by decide +kernel), fun z => absurd z (by decide +kernel), fun _ => countLost_w hI.2.2.2.1 (Or.inr rfl) ?_, fun z => absurd z (by decide +kernel), fun z => absurd z (by decide +kernel), fun z => absurd z (by decide +kernel), fun z => absurd z (by decide +kernel), fun z => absurd z (by decide +kernel)⟩
      refine rk (fun Nm sm cm => ⟨fun z => absurd z (by decide +kernel), fun z => absurd z (by decide +kernel), fun z => absurd z (by decide +kernel), fun _ => ?_, fun z => absurd z (by decide +kernel), fun z => absurd z (by decide +kernel), fun z => absurd z (by decide +kernel), fun z => absurd z (by decide +kernel), fun z => absurd z (by decide +kernel)⟩)
      rw [show nI 3 - 2 = 1 by decide +kernel]
      exact lostMany_w (vm sm) (Or.inr rfl) ⟨rfl, J1 sm cm⟩
    · refine ⟨fun z => absurd z (by decide +kernel), fun z => absurd z (by decide +kernel), fun z => absurd z (by decide +kernel), fun z => absurd z (by decide +kernel), fun _ => depths_x hI.2.2.2.1 hI.2.1 hI.2.2.2.2.2.1 (fun N sx cx q => ?_), fun z => absurd z (by decide +kernel), fun z => absurd z (by decide +kernel), fun z => absurd z (by decide +kernel), fun z => absurd z (by decide +kernel)⟩
      have dN := (inv_x hI sx cx).1.1
      show wX2_countTold N (N 1 0 * N 1 1) _
      rw [dN.2.2.2.2.1, dN.2.2.2.2.2, pk_mul]
      refine forN (fun n z (c : Int32) => wX2_countTold_L4 _ _ n (nI (w * h)) c z N) (fun k c => c = nI (cnt (fun k => ¬ toldS w h D P Qr L R (k % w) (k / w) < 0) k)) (w * h) ?_ ?_ 0 0 (by omega) rfl
      · intro n c ec
        rw [wX2_countTold_L4_s, ec]
        refine pk_le (w * h) (w * h) (fun _ => ?_) (fun q => absurd q (by omega))
        refine rk (fun Nm sm cm => ⟨fun z => absurd z (by decide +kernel), fun z => absurd z (by decide +kernel), fun z => absurd z (by decide +kernel), fun z => absurd z (by decide +kernel), fun _ => ?_, fun z => absurd z (by decide +kernel), fun z => absurd z (by decide +kernel), fun z => absurd z (by decide +kernel), fun z => absurd z (by decide +kernel)⟩)
        refine forN (fun n z (c : Int32) => wX11_toldMany_L4 _ _ n c z Nm) (fun k c => c = nI (cnt (fun k => ¬ toldS w h D P Qr L R (k % w) (k / w) < 0) k)) (w * h) ?_ ?_ 0 0 (by omega) rfl
        · intro n2 c2 ec2
          rw [wX11_toldMany_L4_s, ewh sm, ec2]
          exact pk_le (w * h) (w * h) (fun _ => ⟨rfl, JJ sx cx sm cm⟩) (fun q => absurd q (by omega))
        · intro n2 k c2 hk ec2 ih
          obtain ⟨d1, d2, d3⟩ := kdm w1 hk
          rw [wX11_toldMany_L4_s, ewh sm, ec2]
          refine pk_le (w * h) k (fun q => absurd q (by omega)) (fun _ => ?_)
          rw [(vm sm).1.2.2.2.2.1]
          refine ⟨nI_ne0 (by omega) (by omega), fun v ev => ⟨nI_ne0 (by omega) (by omega), ?_⟩⟩
          have ev2 : v = nI (k % w) := ev.trans (pk_rem (by omega) (by omega) (by omega))
          rw [ev2, pk_div (by omega) (by omega) (by omega)]
          refine agreedAt_w (vm sm) hD cm.2.2.2.1 d1 d2 ⟨fun z y ey u eu => ?_, fun z y ey u eu => ?_⟩
          · rw [eu, nI_1]
            exact ih y (by rw [ey]; exact (Int32.add_zero _).trans (congrArg nI (cnt_f (p := fun k => ¬ toldS w h D P Qr L R (k % w) (k / w) < 0) (fun z2 => z2 z)).symm))
          · rw [eu, nI_1]
            exact ih y (by rw [ey, nI_1]; exact congrArg nI (cnt_t (p := fun k => ¬ toldS w h D P Qr L R (k % w) (k / w) < 0) z).symm)
      · intro n k c hk ec ih
        obtain ⟨d1, d2, d3⟩ := kdm w1 hk
        have et := q _ _ d1 d2
        rw [d3] at et
        rw [wX2_countTold_L4_s, ec]
        refine pk_le (w * h) k (fun q => absurd q (by omega)) (fun _ => ?_)
        rw [nI_clamp (by omega), et]
        refine ⟨vp_in_nI (by omega) (by omega), fun z u eu => ?_, fun z v ev u eu => ?_⟩
        · rw [eu, nI_1]
          exact ih (nI (cnt (fun k => ¬ toldS w h D P Qr L R (k % w) (k / w) < 0) k)) (congrArg nI (cnt_f (p := fun k => ¬ toldS w h D P Qr L R (k % w) (k / w) < 0) (fun z2 => z2 z)).symm)
        · rw [eu, nI_1]
          exact ih v (by rw [ev, nI_1]; exact congrArg nI (cnt_t (p := fun k => ¬ toldS w h D P Qr L R (k % w) (k / w) < 0) z).symm)
    · refine ⟨fun z => absurd z (by decide +kernel), fun z => absurd z (by decide +kernel), fun z => absurd z (by decide +kernel), fun z => absurd z (by decide +kernel), fun z => absurd z (by decide +kernel), fun _ => segs_x hI.2.2.2.1 hI.2.1 hI.2.2.2.2.2.1 (fun N sx cx q => ?_), fun z => absurd z (by decide +kernel), fun z => absurd z (by decide +kernel), fun z => absurd z (by decide +kernel)⟩
      have dN := (inv_x hI sx cx).1.1
      show wX7_countAnchors N (N 1 0 * N 1 1) _
      rw [dN.2.2.2.2.1, dN.2.2.2.2.2, pk_mul]
      refine forN (fun n z (c : Int32) => wX7_countAnchors_L4 _ _ n (nI (w * h)) c z N) (fun k c => c = nI (cnt (fun k => N 40 k = nI k) k)) (w * h) ?_ ?_ 0 0 (by omega) rfl
      · intro n c ec
        rw [wX7_countAnchors_L4_s, ec]
        refine pk_le (w * h) (w * h) (fun _ => ?_) (fun q => absurd q (by omega))
        refine rk (fun Nm sm cm => ⟨fun z => absurd z (by decide +kernel), fun z => absurd z (by decide +kernel), fun z => absurd z (by decide +kernel), fun z => absurd z (by decide +kernel), fun z => absurd z (by decide +kernel), fun _ => ?_, fun z => absurd z (by decide +kernel), fun z => absurd z (by decide +kernel), fun z => absurd z (by decide +kernel)⟩)
        refine forN (fun n z (c : Int32) => wX11_anchors_L4 _ _ n c z Nm) (fun k c => c = nI (cnt (fun k => N 40 k = nI k) k)) (w * h) ?_ ?_ 0 0 (by omega) rfl
        · intro n2 c2 ec2
          rw [wX11_anchors_L4_s, ewh sm, ec2]
          exact pk_le (w * h) (w * h) (fun _ => ⟨rfl, JJ sx cx sm cm⟩) (fun q => absurd q (by omega))
        · intro n2 k c2 hk ec2 ih
          have ii := anc_iff hwh q cm.2.2.2.2 hk hk
          rw [wX11_anchors_L4_s, ewh sm, ec2]
          refine pk_le (w * h) k (fun q => absurd q (by omega)) (fun _ => ?_)
          rw [nI_clamp (by omega)]
          refine ⟨vp_in_nI (by omega) (by omega), fun z y ey u eu => ?_, fun z y ey u eu => ?_⟩
          · rw [eu, nI_1]
            exact ih y (by rw [ey]; exact (Int32.add_zero _).trans (congrArg nI (cnt_f (p := fun k => N 40 k = nI k) (fun z2 => z (ii.mpr z2))).symm))
          · rw [eu, nI_1]
            exact ih y (by rw [ey, nI_1]; exact congrArg nI (cnt_t (p := fun k => N 40 k = nI k) (ii.mp z)).symm)
      · intro n k c hk ec ih
        rw [wX7_countAnchors_L4_s, ec]
        refine pk_le (w * h) k (fun q => absurd q (by omega)) (fun _ => ?_)
        rw [nI_clamp (by omega)]
        refine ⟨vp_in_nI (by omega) (by omega), fun z u eu => ?_, fun z v ev u eu => ?_⟩
        · rw [eu, nI_1]
          exact ih (nI (cnt (fun k => N 40 k = nI k) k)) (congrArg nI (cnt_f (p := fun k => N 40 k = nI k) z).symm)
        · rw [eu, nI_1]
          exact ih v (by rw [ev, nI_1]; exact congrArg nI (cnt_t (p := fun k => N 40 k = nI k) z).symm)
    · have hO := hI.1.2.2.2.2.1
      refine ⟨fun z => absurd z (by decide +kernel), fun z => absurd z (by decide +kernel), fun z => absurd z (by decide +kernel), fun z => absurd z (by decide +kernel), fun z => absurd z (by decide +kernel), fun z => absurd z (by decide +kernel), fun _ => countCubes_w hO.rx ?_, fun z => absurd z (by decide +kernel), fun z => absurd z (by decide +kernel)⟩
      refine rk (fun Nm sm cm => ⟨fun z => absurd z (by decide +kernel), fun z => absurd z (by decide +kernel), fun z => absurd z (by decide +kernel), fun z => absurd z (by decide +kernel), fun z => absurd z (by decide +kernel), fun z => absurd z (by decide +kernel), fun _ => ?_, fun z => absurd z (by decide +kernel), fun z => absurd z (by decide +kernel)⟩)
      have e6 : Nm 6 = Mm 6 := sm.2 6 (by omega) (by omega)
      refine cubes_w (by rw [e6]; exact hO.rm) ⟨?_, J1 sm cm⟩
      rw [e6]
      exact congrArg nI (nCb_cong (fun k hk => (hO k hk).1.symm))
    · refine ⟨fun z => absurd z (by decide +kernel), fun z => absurd z (by decide +kernel), fun z => absurd z (by decide +kernel), fun z => absurd z (by decide +kernel), fun z => absurd z (by decide +kernel), fun z => absurd z (by decide +kernel), fun z => absurd z (by decide +kernel), fun _ => ?_, fun z => absurd z (by decide +kernel)⟩
      show (fun r3 M3 => ∃ n9, wX6_countTruths_L9 (fun x1 M => wX11_many Mm (nI 7) (fun r2 Nm => x1 = r2 ∧ Inv M Nm)) (fun r Nx => wX11_many Mm (nI 7) (fun r2 Nm => r = r2 ∧ Inv Nx Nm)) n9 0 r3 0 M3) ((Mx 1 0) * (Mx 1 1)) Mx
      rw [eX]
      refine forN (fun n z (c : Int32) => wX6_countTruths_L9 _ _ n c (nI (w * h)) z Mx) (fun k c => c = nI (cnt (fun k => ¬ Mx 8 k = -4) k)) (w * h) ?_ ?_ 0 0 (by omega) rfl
      · intro n c ec
        rw [wX6_countTruths_L9_s, ec]
        refine pk_le (w * h) (w * h) (fun _ => ?_) (fun q => absurd q (by omega))
        refine rk (fun Nm sm cm => ⟨fun z => absurd z (by decide +kernel), fun z => absurd z (by decide +kernel), fun z => absurd z (by decide +kernel), fun z => absurd z (by decide +kernel), fun z => absurd z (by decide +kernel), fun z => absurd z (by decide +kernel), fun z => absurd z (by decide +kernel), fun _ => ?_, fun z => absurd z (by decide +kernel)⟩)
        refine forN (fun n z (c : Int32) => wX11_truthMany_L4 _ _ n c z Nm) (fun k c => c = nI (cnt (fun k => ¬ Mx 8 k = -4) k)) (w * h) ?_ ?_ 0 0 (by omega) rfl
        · intro n2 c2 ec2
          rw [wX11_truthMany_L4_s, ewh sm, ec2]
          exact pk_le (w * h) (w * h) (fun _ => ⟨rfl, J1 sm cm⟩) (fun q => absurd q (by omega))
        · intro n2 k c2 hk ec2 ih
          have e4 : Nm 4 k = Mx 8 k := by rw [sm.2 4 (by omega) (by omega)]; exact (hI.1.2.2.1.2.2.2.2.2 k (by omega)).2
          rw [wX11_truthMany_L4_s, ewh sm, ec2]
          refine pk_le (w * h) k (fun q => absurd q (by omega)) (fun _ => ?_)
          rw [nI_clamp (by omega), e4]
          refine ⟨vp_in_nI (by omega) (by omega), fun z y ey u eu => ?_, fun z y ey u eu => ?_⟩
          · rw [eu, nI_1]
            exact ih y (by rw [ey]; exact (Int32.add_zero _).trans (congrArg nI (cnt_f (p := fun k => ¬ Mx 8 k = -4) (fun z2 => z2 z)).symm))
          · rw [eu, nI_1]
            exact ih y (by rw [ey, nI_1]; exact congrArg nI (cnt_t (p := fun k => ¬ Mx 8 k = -4) z).symm)
      · intro n k c hk ec ih
        rw [wX6_countTruths_L9_s, ec]
        refine pk_le (w * h) k (fun q => absurd q (by omega)) (fun _ => ?_)
        rw [nI_clamp (by omega)]
        refine ⟨vp_in_nI (by omega) (by omega), fun z u eu => ?_, fun z v ev u eu => ?_⟩
        · rw [eu, nI_1]
          exact ih (nI (cnt (fun k => ¬ Mx 8 k = -4) k)) (congrArg nI (cnt_f (p := fun k => ¬ Mx 8 k = -4) (fun z2 => z2 z)).symm)
        · rw [eu, nI_1]
          exact ih v (by rw [ev, nI_1]; exact congrArg nI (cnt_t (p := fun k => ¬ Mx 8 k = -4) z).symm)
  · intro nx
    have x : ∀ {A : Prop} (j : Nat), j < 8 → a = nI j → A := fun j hj e => absurd ⟨j, hj, e⟩ nx
    refine ⟨x 0 (by omega), x 1 (by omega), x 2 (by omega), x 3 (by omega), x 4 (by omega), x 5 (by omega), x 6 (by omega), x 7 (by omega), fun _ => ?_⟩
    exact rk (fun Nm sm cm => ⟨x 0 (by omega), x 1 (by omega), x 2 (by omega), x 3 (by omega), x 4 (by omega), x 5 (by omega), x 6 (by omega), x 7 (by omega), fun _ => ⟨rfl, J1 sm cm⟩⟩)
