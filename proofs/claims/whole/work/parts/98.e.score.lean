/-! scores -/
def vd (t tr : Int32) : Int32 := if 0 ≤ t then (if t = tr then 0 else 1) else 2
noncomputable def scK (w h D H P Q : Nat) (L R tr : Nat → Int32) (a : Int32) (k : Nat) : Nat := if tr k = -4 then 0 else if a = 3 then b2 (decide (mtS w h D H L R (k / w) (k % w) = tr k)) else b2 (decide (vd (toldS w h D P Q L R (k % w) (k / w)) (tr k) = a))
theorem b2_t {p : Prop} [Decidable p] (q : p) : b2 (decide p) = 1 := by rw [decide_eq_true q]; rfl
theorem b2_f {p : Prop} [Decidable p] (q : ¬ p) : b2 (decide p) = 0 := by rw [decide_eq_false q]; rfl
theorem scoreOf_w {M : Mem} {w h D H P Qr : Nat} {L R tr : Nat → Int32} {x y : Nat} (hm : VM M w h L R) (hD : D ≤ 8) (hf : DepM w h D P Qr L R (M 14) (M 15)) (hx : x < w) (hy : y < h) (h18 : ∀ x, x < w → M 18 x = mtS w h D H L R y x) (h4 : M 4 (y * w + x) = tr (y * w + x)) {a : Int32} {Q : Int32 → Mem → Prop} (g : Q (nI (scK w h D H P Qr L R tr a (y * w + x))) M) : wX11_scoreOf M (nI x) (nI y) a Q := by
  have hw : w ≤ 20 := hm.1.2.1
  have hh : h ≤ 10 := hm.1.2.2.2.1
  have hk := pl200 hw hh hx hy
  unfold scK at g
  rw [pl_mod hx, pl_div hx] at g
  unfold wX11_scoreOf
  rw [plM hm.1, nI_clamp (by omega), h4]
  refine ⟨vp_in_nI hk (by omega), fun v ev => ?_⟩
  rw [ev]
  refine ⟨fun q => ⟨fun q3 => ?_, fun q3 => ⟨vp_in_nI (by omega) (by omega), ?_⟩⟩, fun q => by rw [if_pos q] at g; exact g⟩
  · rw [if_neg q, if_neg q3] at g
    have J : ∀ t, vd (toldS w h D P Qr L R x y) (tr (y * w + x)) = t → wX11_scoreOf_J75 Q a t M := by
      intro t et
      rw [et] at g
      refine ⟨fun z => ?_, fun z => ?_⟩
      · rw [b2_f z] at g; exact g
      · rw [b2_t z] at g; exact g
    refine agreedAt_w hm hD hf hx hy ⟨fun z => ⟨fun z2 => J 1 ?_, fun z2 => J 0 ?_⟩, fun z => J 2 (if_neg z)⟩
    · unfold vd; rw [if_pos z, if_neg z2]
    · unfold vd; rw [if_pos z, if_pos z2]
  · rw [if_neg q, if_pos q3] at g
    rw [nI_clamp (by omega), h18 x hx]
    refine ⟨fun z => ?_, fun z => ?_⟩
    · rw [b2_f z] at g; exact g
    · rw [b2_t z] at g; exact g
noncomputable def scN (w h D H P Q : Nat) (L R tr : Nat → Int32) (a : Int32) (n : Nat) : Nat := sm (scK w h D H P Q L R tr a) n
theorem score_m {Mx Mm N : Mem} {w h D H P Qr T : Nat} {L R : Nat → Int32} (hI : InvA Mx Mm w h D H P Qr T L R) (sx : SameX Mx N) (cx : CX N w h D H P Qr T L R) {i : Nat} (hi : i < 4) : wX11_score Mm (nI i) (fun r2 Nm => nI (scN w h D H P Qr L R (Mx 8) (nI i) (w * h)) = r2 ∧ Inv N Nm) := by
  have hw : w ≤ 20 := hI.1.1.2.1
  have hh : h ≤ 10 := hI.1.1.2.2.2.1
  have hwh := wh_le hw hh
  have hD : D ≤ 8 := hI.2.1.1.1
  have tr4 : ∀ k, k < 200 → Mm 4 k = Mx 8 k := fun k hk => (hI.1.2.2.1.2.2.2.2.2 k hk).2
  refine in_ix (n := 4) (by omega) (by omega) rfl (fun _ _ _ => ⟨fun _ => ?_, fun z => absurd z (by decide)⟩) (fun z => absurd ⟨i, hi, rfl⟩ z)
  refine reckon_w hI.2.2.2.2.1 hI.2.2.1 hI.2.2.2.1.2.2.2.1 hI.2.2.2.2.2.2 (fun N1 sm1 cm1 => ?_)
  refine forN (fun n z (p : Int32 × Mem) => wX11_score_L19 _ _ n (nI i) p.1 z p.2) (fun y p => p.1 = nI (scN w h D H P Qr L R (Mx 8) (nI i) (y * w)) ∧ SameM Mm p.2 ∧ CMs p.2 w h D P Qr T L R) h ?_ ?_ 0 (0, N1) (by omega) ⟨by rw [Nat.zero_mul]; rfl, sm1, cm1⟩
  · rintro n ⟨c, N2⟩ ⟨ec, s2, c2⟩
    simp only at ec s2 c2
    have mN := (hI.2.2.2.2.1.same s2).1
    show wX11_score_L19 _ _ (n + 1) (nI i) c (nI h) N2
    rw [wX11_score_L19_s, mN.2.2.2.2.2, ec]
    refine pk_le h h (fun _ => ⟨by rw [Nat.mul_comm], _, _, _, _, _, _, _, _, _, inv_same hI sx s2 cx (Or.inr c2)⟩) (fun q => absurd q (by omega))
  · rintro n y ⟨c, N2⟩ hy ⟨ec, s2, c2⟩ ih
    simp only at ec s2 c2
    have vm := hI.2.2.2.2.1.same s2
    show wX11_score_L19 _ _ (n + 1) (nI i) c (nI y) N2
    rw [wX11_score_L19_s, vm.1.2.2.2.2.2, ec]
    refine pk_le h y (fun q => absurd q (by omega)) (fun _ => ?_)
    refine path_m vm (hI.2.2.1.of (s2.2 5 (by omega) (by omega))) hy (fun N3 s3 f3 f0 q1 q2 q3 q4 => ?_)
    have s23 := s2.tr s3
    have vm3 := vm.same s3
    have c3 := c2.of f3
    refine forN (fun n z (c : Int32) => wX11_score_L35 _ _ n (nI i) c (nI y) z N3) (fun x c => c = nI (scN w h D H P Qr L R (Mx 8) (nI i) (y * w + x))) w ?_ ?_ 0 _ (by omega) rfl
    · intro n2 c4 ec4
      rw [wX11_score_L35_s, vm3.1.2.2.2.2.1]
      refine pk_le w w (fun _ z ez => ?_) (fun q => absurd q (by omega))
      rw [ez, nI_1]
      exact ih (c4, N3) ⟨by show c4 = _; rw [ec4, Nat.add_mul, Nat.one_mul], s23, c3⟩
    · intro n2 x c4 hx ec4 ih2
      have hk := pl200 hw hh hx hy
      have e : scN w h D H P Qr L R (Mx 8) (nI i) (y * w + (x + 1)) = scN w h D H P Qr L R (Mx 8) (nI i) (y * w + x) + scK w h D H P Qr L R (Mx 8) (nI i) (y * w + x) := rfl
      rw [wX11_score_L35_s, vm3.1.2.2.2.2.1, ec4]
      refine pk_le w x (fun q => absurd q (by omega)) (fun _ => ?_)
      refine scoreOf_w (H := H) (tr := Mx 8) vm3 hD c3.2.2.2.1 hx hy q2 (by rw [s23.2 4 (by omega) (by omega)]; exact tr4 _ hk) (fun v ev z ez => ?_)
      rw [ez, nI_1]
      exact ih2 v (by rw [ev, nI_add, e])
theorem o_score : St_score Inv := by
  rintro Mx Mm a ⟨w, h, D, H, P, Qr, T, L, R, hI⟩
  have hw : w ≤ 20 := hI.1.1.2.1
  have hh : h ≤ 10 := hI.1.1.2.2.2.1
  have w1 : 1 ≤ w := hI.1.1.1
  have hwh := wh_le hw hh
  have J0 : Inv Mx Mm := ⟨_, _, _, _, _, _, _, _, _, hI⟩
  apply Classical.byCases (p := Ix a 4)
  · rintro ⟨i, hi, rfl⟩
    refine ⟨fun z => absurd z (nI_pos (by omega)), fun _ => pk_le i 3 (fun _ => ⟨fun n3 => ?_, fun e3 => ?_⟩) (fun q => absurd q (by omega))⟩
    · refine depths_x hI.2.2.2.1 hI.2.1 hI.2.2.2.2.2.1 (fun N sx cx q => ?_)
      have iN := inv_x hI sx cx
      have dN := iN.1.1
      have e8 : N 8 = Mx 8 := sx 8 (nxc (by omega))
      show (fun r31 M31 => ∃ n38, wX10_score_L38 (fun x2 M => wX11_score Mm (nI i) (fun r2 Nm => x2 = r2 ∧ Inv M Nm)) _ n38 (nI i) 0 r31 0 M31) ((N 1 0) * (N 1 1)) N
      rw [dN.2.2.2.2.1, dN.2.2.2.2.2, pk_mul]
      refine forN (fun n z (c : Int32) => wX10_score_L38 _ _ n (nI i) c (nI (w * h)) z N) (fun k c => c = nI (scN w h D H P Qr L R (Mx 8) (nI i) k)) (w * h) ?_ ?_ 0 0 (by omega) rfl
      · intro n c ec
        rw [wX10_score_L38_s, ec]
        exact pk_le (w * h) (w * h) (fun _ => score_m hI sx cx hi) (fun q => absurd q (by omega))
      · intro n k c hk ec ih
        obtain ⟨d1, d2, d3⟩ := kdm w1 hk
        have e : scN w h D H P Qr L R (Mx 8) (nI i) (k + 1) = scN w h D H P Qr L R (Mx 8) (nI i) k + scK w h D H P Qr L R (Mx 8) (nI i) k := rfl
        have et := q _ _ d1 d2
        rw [d3] at et
        rw [wX10_score_L38_s, ec]
        refine pk_le (w * h) k (fun q => absurd q (by omega)) (fun _ => ?_)
        rw [nI_clamp (by omega), e8, et]
        unfold scK at e
        refine ⟨vp_in_nI (by omega) (by omega), fun z u eu => ?_, fun z => ⟨vp_in_nI (by omega) (by omega), vp_in_nI (by omega) (by omega), ?_⟩⟩
        · rw [if_pos z] at e
          rw [eu, nI_1]
          exact ih (nI (scN w h D H P Qr L R (Mx 8) (nI i) k)) (by rw [e]; rfl)
        · rw [if_neg z, if_neg n3] at e
          have V : ∀ t, vd (toldS w h D P Qr L R (k % w) (k / w)) (Mx 8 k) = t → ((¬ (t = nI i)) → ∀ x4_89 : Int32, x4_89 = nI k + 1 → (wX10_score_L38 (fun x2 M => wX11_score Mm (nI i) (fun r2 Nm => x2 = r2 ∧ Inv M Nm)) (fun r Nx => wX11_score Mm (nI i) (fun r2 Nm => r = r2 ∧ Inv Nx Nm)) n) (nI i) (nI (scN w h D H P Qr L R (Mx 8) (nI i) k)) (nI (w * h)) x4_89 N) ∧ (t = nI i → ∀ x2_86 : Int32, x2_86 = nI (scN w h D H P Qr L R (Mx 8) (nI i) k) + 1 → ∀ x4_89 : Int32, x4_89 = nI k + 1 → (wX10_score_L38 (fun x2 M => wX11_score Mm (nI i) (fun r2 Nm => x2 = r2 ∧ Inv M Nm)) (fun r Nx => wX11_score Mm (nI i) (fun r2 Nm => r = r2 ∧ Inv Nx Nm)) n) (nI i) x2_86 (nI (w * h)) x4_89 N) := by
            intro t et2
            rw [et2] at e
            refine ⟨fun z2 u eu => ?_, fun z2 v ev u eu => ?_⟩
            · rw [b2_f z2] at e
              rw [eu, nI_1]
              exact ih (nI (scN w h D H P Qr L R (Mx 8) (nI i) k)) (by rw [e]; rfl)
            · rw [b2_t z2] at e
              rw [eu, nI_1]
              exact ih v (by rw [ev, e, nI_1])
          refine ⟨fun q0 => ⟨fun q1 => V 1 ?_, fun q1 => V 0 ?_⟩, fun q0 => V 2 ?_⟩
          · unfold vd; rw [if_pos q0, if_neg q1]
          · unfold vd; rw [if_pos q0, if_pos q1]
          · unfold vd; rw [if_neg q0]
    · refine forN (fun n z (p : Int32 × Mem) => wX10_countMatchedByTruth_L4 _ _ n p.1 z p.2) (fun y p => p.1 = nI (scN w h D H P Qr L R (Mx 8) (nI i) (y * w)) ∧ SameX Mx p.2 ∧ CX p.2 w h D H P Qr T L R) h ?_ ?_ 0 (0, Mx) (by omega) ⟨by rw [Nat.zero_mul]; rfl, SameX.rf _, hI.2.2.2.2.2.1⟩
      · rintro n ⟨c, N⟩ ⟨ec, sx, cx⟩
        simp only at ec sx cx
        have iN := inv_x hI sx cx
        show wX10_countMatchedByTruth_L4 _ _ (n + 1) c (nI h) N
        rw [wX10_countMatchedByTruth_L4_s, iN.1.1.2.2.2.2.2, ec, Nat.mul_comm]
        exact pk_le h h (fun _ => score_m hI sx cx hi) (fun q => absurd q (by omega))
      · rintro n y ⟨c, N⟩ hy ⟨ec, sx, cx⟩ ih
        simp only at ec sx cx
        have iN := inv_x hI sx cx
        show wX10_countMatchedByTruth_L4 _ _ (n + 1) c (nI y) N
        rw [wX10_countMatchedByTruth_L4_s, iN.1.1.2.2.2.2.2, ec]
        refine pk_le h y (fun q => absurd q (by omega)) (fun _ => ?_)
        refine path_x iN.2.2.2.1 iN.2.1 cx hy (fun N2 sx2 cx2 po => ?_)
        have s2 := sx.tr sx2
        have iN2 := inv_x iN sx2 cx2
        have e8 : N2 8 = Mx 8 := s2 8 (nxc (by omega))
        refine forN (fun n z (c : Int32) => wX10_countMatchedByTruth_L22 _ _ n c (nI y) z N2) (fun x c => c = nI (scN w h D H P Qr L R (Mx 8) (nI i) (y * w + x))) w ?_ ?_ 0 _ (by omega) rfl
        · intro n2 c4 ec4
          rw [wX10_countMatchedByTruth_L22_s, iN2.1.1.2.2.2.2.1]
          refine pk_le w w (fun _ z ez => ?_) (fun q => absurd q (by omega))
          rw [ez, nI_1]
          exact ih (c4, N2) ⟨by show c4 = _; rw [ec4, Nat.add_mul, Nat.one_mul], s2, cx2⟩
        · intro n2 x c4 hx ec4 ih2
          have hk := pl200 hw hh hx hy
          have e : scN w h D H P Qr L R (Mx 8) (nI i) (y * w + (x + 1)) = scN w h D H P Qr L R (Mx 8) (nI i) (y * w + x) + scK w h D H P Qr L R (Mx 8) (nI i) (y * w + x) := rfl
          unfold scK at e
          rw [pl_mod hx, pl_div hx] at e
          rw [wX10_countMatchedByTruth_L22_s, iN2.1.1.2.2.2.2.1, ec4]
          refine pk_le w x (fun q => absurd q (by omega)) (fun _ => ?_)
          refine placeOf_w iN2.1.1 ?_
          rw [nI_clamp (by omega), e8, po.2 x hx]
          refine ⟨vp_in_nI hk (by omega), fun z u eu => ?_, fun z => ⟨vp_in_nI hk (by omega), vp_in_nI hk (by omega), fun z2 u eu => ?_, fun z2 v ev u eu => ?_⟩⟩
          · rw [if_pos z] at e
            rw [eu, nI_1]
            exact ih2 (nI (scN w h D H P Qr L R (Mx 8) (nI i) (y * w + x))) (by rw [e]; rfl)
          · rw [if_neg z, if_pos e3, b2_f (fun q => z2 q.symm)] at e
            rw [eu, nI_1]
            exact ih2 (nI (scN w h D H P Qr L R (Mx 8) (nI i) (y * w + x))) (by rw [e]; rfl)
          · rw [if_neg z, if_pos e3, b2_t z2.symm] at e
            rw [eu, nI_1]
            exact ih2 v (by rw [ev, e, nI_1])
  · intro nx
    have no : wX11_score Mm a (fun r2 Nm => -1 = r2 ∧ Inv Mx Nm) := in_ix (n := 4) (by omega) (by omega) rfl (fun j hj e => absurd ⟨j, hj, e⟩ nx) (fun _ => ⟨fun z => absurd rfl z, fun _ => ⟨rfl, J0⟩⟩)
    refine ⟨fun _ => no, fun z => ⟨fun z2 => absurd ?_ nx, fun _ => no⟩⟩
    obtain ⟨d, hd, ed⟩ := nI_of2 (x := a) (M := 3) (n := 3) rfl z z2
    exact ⟨d, by omega, ed⟩
