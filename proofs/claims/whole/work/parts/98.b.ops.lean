/-! calls that ask for costs, paths, runs, sums, depths -/
theorem dp_both {Mx Mm : Mem} {D H P Qr T : Nat} (hx : RX Mx D H P Qr T) (hm : RM Mm D H P Qr T) (a : Int32) : (¬ Ix a (D + 1) ∧ (∀ Q, Q 0 Mx → wX10_isDepth Mx a Q) ∧ (∀ Q, Q 0 Mm → vp_in 0 5 ∧ wX11_in Mm a 0 (Mm 5 (0 : Int32).toNatClampNeg) Q)) ∨ ∃ d : Nat, d ≤ D ∧ a = nI d ∧ (∀ Q, Q 1 Mx → wX10_isDepth Mx a Q) ∧ (∀ Q, Q 1 Mm → vp_in 0 5 ∧ wX11_in Mm a 0 (Mm 5 (0 : Int32).toNatClampNeg) Q) := by
  have hD := hx.1.1
  apply Classical.byCases (p := Ix a (D + 1))
  · rintro ⟨d, hd, rfl⟩
    refine Or.inr ⟨d, by omega, rfl, fun Q q => ?_, fun Q q => ⟨pk_in 0 5 (by omega), ?_⟩⟩
    · unfold wX10_isDepth
      rw [cl0, hx.2.1]
      exact ⟨fun z => absurd z (nI_pos (by omega)), fun _ => ⟨pk_in 0 5 (by omega), pk_lt D d (fun q2 => absurd q2 (by omega)) (fun _ => q)⟩⟩
    · rw [cl0, hm.2.1]
      exact in_ix (n := D + 1) (by omega) (by omega) rfl (fun _ _ _ => q) (fun z => absurd ⟨d, hd, rfl⟩ z)
  · intro nx
    refine Or.inl ⟨nx, fun Q q => ?_, fun Q q => ⟨pk_in 0 5 (by omega), ?_⟩⟩
    · unfold wX10_isDepth
      rw [cl0, hx.2.1]
      refine ⟨fun _ => q, fun z => ⟨pk_in 0 5 (by omega), fun _ => q, fun z2 => absurd ?_ nx⟩⟩
      obtain ⟨d, hd, ed⟩ := nI_of2 (x := a) (M := nI D) (n := D) (nI_toInt (by omega)) z (Int32.not_lt.mp z2)
      exact ⟨d, by omega, ed⟩
    · rw [cl0, hm.2.1]
      exact in_ix (n := D + 1) (by omega) (by omega) rfl (fun j hj e => absurd ⟨j, hj, e⟩ nx) (fun _ => q)
/-- square and depth, on both sides -/
theorem deep_both {Mx Mm : Mem} {w h D H P Qr T : Nat} {L R : Nat → Int32} (hI : InvA Mx Mm w h D H P Qr T L R) (a b c : Int32) : ((∀ (K K0 : Mem → Prop), K0 Mx → wX6_hasSquare Mx a b (fun r6 M6 => ((r6 = 0) → K0 M6) ∧ (¬ (r6 = 0) → wX10_isDepth M6 c (fun r14 M14 => ((¬ (r14 = 0)) → K M14) ∧ (r14 = 0 → K0 M14))))) ∧ (∀ Q, Q 0 Mm → wX11_isDeep Mm a b c Q)) ∨ ∃ x y d : Nat, x < w ∧ y < h ∧ d ≤ D ∧ a = nI x ∧ b = nI y ∧ c = nI d ∧ (∀ (K K0 : Mem → Prop), K Mx → wX6_hasSquare Mx a b (fun r6 M6 => ((r6 = 0) → K0 M6) ∧ (¬ (r6 = 0) → wX10_isDepth M6 c (fun r14 M14 => ((¬ (r14 = 0)) → K M14) ∧ (r14 = 0 → K0 M14))))) ∧ (∀ Q, Q 1 Mm → wX11_isDeep Mm a b c Q) := by
  have hB := hI.1
  rcases sq_both hB.1 hB.2.1 a b with ⟨c0, m0⟩ | ⟨x, y, hx, hy, ea, eb, c1, m1⟩
  · exact Or.inl ⟨fun K K0 q => c0 _ ⟨fun _ => q, fun z => absurd rfl z⟩, fun Q q => m0 _ ⟨fun _ => q, fun z => absurd rfl z⟩⟩
  · rcases dp_both hI.2.1 hI.2.2.1 c with ⟨-, d0, n0⟩ | ⟨d, hd, ed, d1, n1⟩
    · exact Or.inl ⟨fun K K0 q => c1 _ ⟨fun z => absurd z (by decide), fun _ => d0 _ ⟨fun z => absurd rfl z, fun _ => q⟩⟩, fun Q q => m1 _ ⟨fun z => absurd z (by decide), fun _ => n0 _ ⟨fun _ => q, fun z => absurd rfl z⟩⟩⟩
    · exact Or.inr ⟨x, y, d, hx, hy, hd, ea, eb, ed, fun K K0 q => c1 _ ⟨fun z => absurd z (by decide), fun _ => d1 _ ⟨fun _ => q, fun z => absurd z (by decide)⟩⟩, fun Q q => m1 _ ⟨fun z => absurd z (by decide), fun _ => n1 _ ⟨fun z => absurd z (by decide), fun _ => q⟩⟩⟩
theorem o_cost : St_cost Inv := by
  rintro Mx Mm a b c ⟨w, h, D, H, P, Qr, T, L, R, hI⟩
  have hw : w ≤ 20 := hI.1.1.2.1
  have hh : h ≤ 10 := hI.1.1.2.2.2.1
  have hD : D ≤ 8 := hI.2.1.1.1
  rcases deep_both hI a b c with ⟨c0, m0⟩ | ⟨x, y, d, hx, hy, hd, rfl, rfl, rfl, c1, m1⟩
  · refine c0 _ _ ?_
    refine m0 _ ⟨fun z => absurd rfl z, fun _ => ⟨rfl, _, _, _, _, _, _, _, _, _, hI⟩⟩
  · have hk := pl200 hw hh hx hy
    refine c1 _ _ ?_
    refine costs_x hI.2.2.2.1 hI.2.2.2.2.2.1 (fun N sx f cx co => ?_)
    have dN : Dim N w h := (hI.2.2.2.1.same sx).1
    refine placeOf_w dN ?_
    rw [i9, nI_clamp (by omega), (co x y hx hy).1 d (by omega)]
    refine ⟨vp_in_nI (by omega) (by omega), ?_⟩
    refine m1 _ ⟨fun _ => costAt_w hI.2.2.2.2.1 hx hy (by omega) ?_, fun z => absurd z (by decide)⟩
    have J : Inv N Mm := ⟨_, _, _, _, _, _, _, _, _, inv_x hI sx cx⟩
    rcases costS_cases (w := w) (h := h) (L := L) (R := R) x y d with ⟨-, e1, e2⟩ | ⟨-, e1, e2, e3⟩
    · rw [e1, e2]; exact ⟨fun z => absurd rfl z, fun _ => ⟨rfl, J⟩⟩
    · have c8 := cc_le w h L R x y d
      rw [e1, e2]; exact ⟨fun _ => ⟨rfl, J⟩, fun z => absurd z (ne_neg (by omega) (by decide))⟩
theorem hgt_both {Mx Mm : Mem} {w h : Nat} (hd : Dim Mx w h) (hm : DimM Mm w h) (b : Int32) : ((∀ Q, Q 0 Mx → wX6_hasHeight Mx b Q) ∧ (∀ Q, Q 0 Mm → wX11_in Mm b 0 ((Mm 0 1) - 1) Q)) ∨ ∃ y : Nat, y < h ∧ b = nI y ∧ (∀ Q, Q 1 Mx → wX6_hasHeight Mx b Q) ∧ (∀ Q, Q 1 Mm → wX11_in Mm b 0 ((Mm 0 1) - 1) Q) := by
  have h1 := hd.2.2.1
  have h2 := hd.2.2.2.1
  have e : (Mm 0 1) - 1 = nI (h - 1) := by rw [hm.2.2.2.2.2, nI_m1 h1]
  apply Classical.byCases (p := Ix b h)
  · rintro ⟨y, hy, eb⟩
    exact Or.inr ⟨y, hy, eb, fun Q q => hasHeight_w hd (fun _ _ _ => q) (fun z => absurd ⟨y, hy, eb⟩ z), fun Q q => in_ix h1 (by omega) e (fun _ _ _ => q) (fun z => absurd ⟨y, hy, eb⟩ z)⟩
  · intro nx
    exact Or.inl ⟨fun Q q => hasHeight_w hd (fun y hy eb => absurd ⟨y, hy, eb⟩ nx) (fun _ => q), fun Q q => in_ix h1 (by omega) e (fun y hy eb => absurd ⟨y, hy, eb⟩ nx) (fun _ => q)⟩
theorem o_path : St_path Inv := by
  rintro Mx Mm b ⟨w, h, D, H, P, Qr, T, L, R, hI⟩
  have hh : h ≤ 10 := hI.1.1.2.2.2.1
  rcases hgt_both hI.1.1 hI.1.2.1 b with ⟨c0, m0⟩ | ⟨y, hy, rfl, c1, m1⟩
  · exact c0 _ ⟨fun z => absurd rfl z, fun _ => m0 _ ⟨fun z => absurd rfl z, fun _ => ⟨rfl, _, _, _, _, _, _, _, _, _, hI⟩⟩⟩
  · refine c1 _ ⟨fun _ => path_x hI.2.2.2.1 hI.2.1 hI.2.2.2.2.2.1 hy (fun N sx cx po => ?_), fun z => absurd z (by decide)⟩
    rw [nI_clamp (by omega), po.1]
    refine ⟨vp_in_nI (by omega) (by omega), m1 _ ⟨fun _ => path_m hI.2.2.2.2.1 hI.2.2.1 hy (fun Nm sm f f0 q1 q2 q3 q4 => ⟨pk_in 0 441 (by omega), ?_⟩), fun z => absurd z (by decide)⟩⟩
    rw [cl0, q1]
    exact ⟨rfl, _, _, _, _, _, _, _, _, _, inv_same hI sx sm cx (hI.2.2.2.2.2.2.of f f0)⟩
theorem o_matched : St_matched Inv := by
  rintro Mx Mm a b ⟨w, h, D, H, P, Qr, T, L, R, hI⟩
  have hw : w ≤ 20 := hI.1.1.2.1
  have hh : h ≤ 10 := hI.1.1.2.2.2.1
  rcases sq_both hI.1.1 hI.1.2.1 a b with ⟨c0, m0⟩ | ⟨x, y, hx, hy, rfl, rfl, c1, m1⟩
  · exact c0 _ ⟨fun z => absurd rfl z, fun _ => m0 _ ⟨fun z => absurd rfl z, fun _ => ⟨rfl, _, _, _, _, _, _, _, _, _, hI⟩⟩⟩
  · have hk := pl200 hw hh hx hy
    refine c1 _ ⟨fun _ => path_x hI.2.2.2.1 hI.2.1 hI.2.2.2.2.2.1 hy (fun N sx cx po => ?_), fun z => absurd z (by decide)⟩
    have dN : Dim N w h := (hI.2.2.2.1.same sx).1
    refine placeOf_w dN ?_
    rw [nI_clamp (by omega), po.2 x hx]
    refine ⟨vp_in_nI (by omega) (by omega), m1 _ ⟨fun _ => path_m hI.2.2.2.2.1 hI.2.2.1 hy (fun Nm sm f f0 q1 q2 q3 q4 => ⟨vp_in_nI (by omega) (by omega), ?_⟩), fun z => absurd z (by decide)⟩⟩
    rw [nI_clamp (by omega), q2 x hx]
    exact ⟨rfl, _, _, _, _, _, _, _, _, _, inv_same hI sx sm cx (hI.2.2.2.2.2.2.of f f0)⟩
theorem countHidden_w {M : Mem} {w h y : Nat} {f : Nat → Int32} (hw : w ≤ 20) (hh : h ≤ 10) (hy : y < h) (hf : ∀ x, x < w → M 30 (y * w + x) = f x) {Q : Int32 → Mem → Prop} (g : Q (nI (hdn w f)) M) : wX3_countHidden M (nI y) (nI w) Q := by
  refine forN (fun n z (c : Int32) => wX3_countHidden_L5 _ Q n (nI y) (nI w) c z M) (fun x c => c = nI (hdn x f)) w ?_ ?_ 0 0 (by omega) rfl
  · intro n c ec
    rw [wX3_countHidden_L5_s, ec]
    exact pk_le w w (fun _ => g) (fun q => absurd q (by omega))
  · intro n x c hx ec ih
    have hk := pl200 hw hh hx hy
    have e : hdn (x + 1) f = hdn x f + b2 (decide (f x = -4)) := rfl
    rw [wX3_countHidden_L5_s, ec]
    refine pk_le w x (fun q => absurd q (by omega)) (fun _ => ?_)
    rw [pk_mul, nI_add, nI_clamp (by omega), hf x hx]
    refine ⟨vp_in_nI hk (by omega), fun z y ey => ?_, fun z v ev y ey => ?_⟩
    · rw [ey, nI_1]
      exact ih (nI (hdn x f)) (by rw [e, decide_eq_false z]; rfl)
    · rw [ey, nI_1]
      exact ih v (by rw [ev, nI_1, e, decide_eq_true z]; rfl)
theorem o_hidden : St_hidden Inv := by
  rintro Mx Mm a b ⟨w, h, D, H, P, Qr, T, L, R, hI⟩
  have hw : w ≤ 20 := hI.1.1.2.1
  have hh : h ≤ 10 := hI.1.1.2.2.2.1
  rcases row_both hI.1.1 hI.1.2.1 a b with ⟨c0, m0⟩ | ⟨y, hy, hp, rfl, c1, m1⟩
  · exact c0 _ ⟨fun z => absurd rfl z, fun _ => m0 _ ⟨fun z => absurd rfl z, fun _ => ⟨rfl, _, _, _, _, _, _, _, _, _, hI⟩⟩⟩
  · refine c1 _ ⟨fun _ => path_x hI.2.2.2.1 hI.2.1 hI.2.2.2.2.2.1 hy (fun N sx cx po => ?_), fun z => absurd z (by decide)⟩
    have dN : Dim N w h := (hI.2.2.2.1.same sx).1
    rw [dN.2.2.2.2.1]
    refine countHidden_w hw hh hy po.2 (m1 _ ⟨fun _ => path_m hI.2.2.2.2.1 hI.2.2.1 hy (fun Nm sm f f0 q1 q2 q3 q4 => ?_), fun z => absurd z (by decide)⟩)
    have J : Inv N Nm := ⟨_, _, _, _, _, _, _, _, _, inv_same hI sx sm cx (hI.2.2.2.2.2.2.of f f0)⟩
    rw [q3, q4]
    exact ⟨fun _ => ⟨rfl, J⟩, fun _ => ⟨rfl, J⟩⟩
theorem o_sum : St_sum Inv := by
  rintro Mx Mm a b c ⟨w, h, D, H, P, Qr, T, L, R, hI⟩
  have hw : w ≤ 20 := hI.1.1.2.1
  have hh : h ≤ 10 := hI.1.1.2.2.2.1
  have hD : D ≤ 8 := hI.2.1.1.1
  rcases deep_both hI a b c with ⟨c0, m0⟩ | ⟨x, y, d, hx, hy, hd, rfl, rfl, rfl, c1, m1⟩
  · refine c0 _ _ ?_
    refine m0 _ ⟨fun z => absurd rfl z, fun _ => ⟨rfl, _, _, _, _, _, _, _, _, _, hI⟩⟩
  · have hk := pl200 hw hh hx hy
    refine c1 _ _ ?_
    refine sums_x hI.2.2.2.1 hI.2.1 hI.2.2.2.2.2.1 (fun N sx cx q => ?_)
    have dN : Dim N w h := (hI.2.2.2.1.same sx).1
    refine placeOf_w dN ?_
    rw [i9, nI_clamp (by omega), q x y hx hy d hd]
    refine ⟨vp_in_nI (by omega) (by omega), ?_⟩
    refine m1 _ ⟨fun _ => reckon_w hI.2.2.2.2.1 hI.2.2.1 hI.2.2.2.1.2.2.2.1 hI.2.2.2.2.2.2 (fun Nm sm cm => ?_), fun z => absurd z (by decide)⟩
    have J : Inv N Nm := ⟨_, _, _, _, _, _, _, _, _, inv_same hI sx sm cx (Or.inr cm)⟩
    have mN := (hI.2.2.2.2.1.same sm).1
    rw [plM2 mN, nI_add, nI_clamp (by omega), cm.2.2.1 x y hx hy d hd]
    exact ⟨vp_in_nI (by omega) (by omega), rfl, J⟩
theorem o_run : St_run Inv := by
  rintro Mx Mm a b c k ⟨w, h, D, H, P, Qr, T, L, R, hI⟩
  have hw : w ≤ 20 := hI.1.1.2.1
  have hh : h ≤ 10 := hI.1.1.2.2.2.1
  have hD : D ≤ 8 := hI.2.1.1.1
  have J0 : Inv Mx Mm := ⟨_, _, _, _, _, _, _, _, _, hI⟩
  rcases sq_both hI.1.1 hI.1.2.1 a b with ⟨c0, m0⟩ | ⟨x, y, hx, hy, rfl, rfl, c1, m1⟩
  · refine c0 _ ⟨fun _ => ?_, fun z => absurd rfl z⟩
    show wX11_run _ _ _ _ _ _
    unfold wX11_run wX11_isDeep
    exact m0 _ ⟨fun _ => ⟨fun _ => ⟨rfl, J0⟩, fun z => absurd rfl z⟩, fun z => absurd rfl z⟩
  · have hk := pl200 hw hh hx hy
    refine c1 _ ⟨fun z => absurd z (by decide), fun _ => ?_⟩
    rcases dp_both hI.2.1 hI.2.2.1 c with ⟨-, d0, n0⟩ | ⟨d, hd, rfl, d1, n1⟩
    · refine d0 _ ⟨fun _ => ?_, fun z => absurd rfl z⟩
      show wX11_run _ _ _ _ _ _
      unfold wX11_run wX11_isDeep
      exact m1 _ ⟨fun z => absurd z (by decide), fun _ => n0 _ ⟨fun _ => ⟨fun _ => ⟨rfl, J0⟩, fun z => absurd rfl z⟩, fun z => absurd rfl z⟩⟩
    · refine d1 _ ⟨fun z => absurd z (by decide), fun _ => ?_⟩
      have md : ∀ Q : Int32 → Mem → Prop, Q 1 Mm → wX11_isDeep Mm (nI x) (nI y) (nI d) Q := fun Q q => m1 _ ⟨fun z => absurd z (by decide), fun _ => n1 _ ⟨fun z => absurd z (by decide), fun _ => q⟩⟩
      apply Classical.byCases (p := Ix k 8)
      · rintro ⟨i, hi, rfl⟩
        refine ⟨fun z => absurd z (nI_pos (by omega)), fun _ => pk_lt i 8 (fun _ => ?_) (fun q => absurd q (by omega))⟩
        refine costs_x hI.2.2.2.1 hI.2.2.2.2.2.1 (fun N sx f cx co => ?_)
        have iN := inv_x hI sx cx
        refine run_x iN.2.2.2.1 iN.2.1 cx co hi (fun N2 sx2 cx2 q => ?_)
        have dN : Dim N2 w h := (iN.2.2.2.1.same sx2).1
        refine placeOf_w dN ?_
        rw [i9, nI_clamp (by omega), q x y hx hy d hd]
        refine ⟨vp_in_nI (by omega) (by omega), ?_⟩
        refine md _ ⟨fun z => absurd z (by decide), fun _ => in_ix (n := 8) (by omega) (by omega) rfl (fun _ _ _ => ⟨fun _ => ?_, fun z => absurd z (by decide)⟩) (fun z => absurd ⟨i, hi, rfl⟩ z)⟩
        refine reckon_w hI.2.2.2.2.1 hI.2.2.1 hI.2.2.2.1.2.2.2.1 hI.2.2.2.2.2.2 (fun Nm sm cm => ?_)
        have J : Inv N2 Nm := ⟨_, _, _, _, _, _, _, _, _, inv_same iN sx2 sm cx2 (Or.inr cm)⟩
        have mN := (hI.2.2.2.2.1.same sm).1
        have e := cm.2.1 i hi x y hx hy d hd
        have ei : ((1800 * nI i) + (9 * (((Nm 0 0) * nI y) + nI x))) + nI d = nI (1800 * i + (9 * (y * w + x) + d)) := by
          rw [plM2 mN]
          show (nI 1800 * nI i + nI (9 * (y * w + x))) + nI d = _
          rw [pk_mul, nI_add, nI_add, Nat.add_assoc]
        rw [ei, nI_clamp (by omega)]
        exact ⟨vp_in_nI (by omega) (by omega), e.symm, J⟩
      · intro nx
        have no : wX11_run Mm (nI x) (nI y) (nI d) k (fun r2 Nm => -1 = r2 ∧ Inv Mx Nm) := md _ ⟨fun z => absurd z (by decide), fun _ => in_ix (n := 8) (by omega) (by omega) rfl (fun j hj e => absurd ⟨j, hj, e⟩ nx) (fun _ => ⟨fun z => absurd rfl z, fun _ => ⟨rfl, J0⟩⟩)⟩
        refine ⟨fun _ => no, fun z => ⟨fun z2 => absurd ((lt_nI (n := 8) (by omega)).mpr ⟨z, fun z3 => absurd z2 (Int32.not_lt.mpr z3)⟩) nx, fun _ => no⟩⟩
theorem o_depth : St_depth Inv := by
  rintro Mx Mm p a b ⟨w, h, D, H, P, Qr, T, L, R, hI⟩
  have hw : w ≤ 20 := hI.1.1.2.1
  have hh : h ≤ 10 := hI.1.1.2.2.2.1
  have hD : D ≤ 8 := hI.2.1.1.1
  have J0 : Inv Mx Mm := ⟨_, _, _, _, _, _, _, _, _, hI⟩
  apply Classical.byCases (p := IsPic p)
  · intro hp
    refine hasPicture_w (fun _ => ⟨fun z => absurd z (by decide), fun _ => ?_⟩) (fun z => absurd hp z)
    have mp : ∀ Q : Int32 → Mem → Prop, Q 1 Mm → wX11_in Mm p 0 1 Q := fun Q q => inPic_w (fun _ => q) (fun z => absurd hp z)
    rcases sq_both hI.1.1 hI.1.2.1 a b with ⟨c0, m0⟩ | ⟨x, y, hx, hy, rfl, rfl, c1, m1⟩
    · exact c0 _ ⟨fun z => absurd rfl z, fun _ => mp _ ⟨fun z => absurd z (by decide), fun _ => m0 _ ⟨fun z => absurd rfl z, fun _ => ⟨rfl, J0⟩⟩⟩⟩
    · have hk := pl200 hw hh hx hy
      refine c1 _ ⟨fun _ => sums_x hI.2.2.2.1 hI.2.1 hI.2.2.2.2.2.1 (fun N sx cx q => ?_), fun z => absurd z (by decide)⟩
      have iN := inv_x hI sx cx
      have dN : Dim N w h := iN.1.1
      refine placeOf_w dN ?_
      have mm : ∀ r : Int32, (∀ Nm, CMs Nm w h D P Qr T L R → (¬ p = 0 → r = Nm 15 (y * w + x)) ∧ (p = 0 → r = Nm 14 (y * w + x))) → wX11_depth Mm p (nI x) (nI y) (fun r2 Nm => r = r2 ∧ Inv N Nm) := by
        intro r hr
        refine mp _ ⟨fun z => absurd z (by decide), fun _ => m1 _ ⟨fun _ => ?_, fun z => absurd z (by decide)⟩⟩
        refine reckon_w hI.2.2.2.2.1 hI.2.2.1 hI.2.2.2.1.2.2.2.1 hI.2.2.2.2.2.2 (fun Nm sm cm => ?_)
        have J : Inv N Nm := ⟨_, _, _, _, _, _, _, _, _, inv_same iN (SameX.rf _) sm cx (Or.inr cm)⟩
        have mN := (hI.2.2.2.2.1.same sm).1
        rw [plM mN, nI_clamp (by omega)]
        exact ⟨fun z => ⟨vp_in_nI hk (by omega), (hr Nm cm).1 z, J⟩, fun z => ⟨vp_in_nI hk (by omega), (hr Nm cm).2 z, J⟩⟩
      rw [cl0, iN.2.1.2.1, dN.2.2.2.2.1, nI_m1 (by omega), pk_sub (by omega)]
      refine ⟨fun z => ⟨pk_in 0 5 (by omega), fun v ev => ?_⟩, fun z => ⟨pk_in 0 5 (by omega), ?_⟩⟩
      · have ev2 : v = nI (min D (w - 1 - x)) := by
          rw [ev]
          rw [Nat.min_comm]
          by_cases q2 : w - 1 - x < D
          · rw [if_pos (nI_lt q2 (by omega)), Nat.min_eq_left (by omega)]
          · rw [if_neg (nI_nlt (by omega) (by omega)), Nat.min_eq_right (by omega)]
        rw [ev2]
        have lim : y * w + x + (w - 1 - x) < 200 := by
          have := pl200 hw hh (show w - 1 < w by omega) hy
          omega
        refine rightDepth_w (a := w - 1 - x) lim (by omega) (by omega) (mm _ (fun Nm cm => ⟨fun _ => ?_, fun z2 => absurd z2 z⟩))
        rw [(cm.2.2.2.1 x y hx hy).2, ← argR_min, dR_at q hx hy]
      · refine leftDepth_w hk hD (mm _ (fun Nm cm => ⟨fun z2 => absurd z z2, fun _ => ?_⟩))
        rw [(cm.2.2.2.1 x y hx hy).1, dL_at q hx hy]
  · intro hp
    exact hasPicture_w (fun z => absurd z hp) (fun _ => ⟨fun _ => inPic_w (fun z => absurd z hp) (fun _ => ⟨fun _ => ⟨rfl, J0⟩, fun z => absurd rfl z⟩), fun z => absurd rfl z⟩)
theorem o_agreed : St_agreed Inv := by
  rintro Mx Mm a b ⟨w, h, D, H, P, Qr, T, L, R, hI⟩
  have hw : w ≤ 20 := hI.1.1.2.1
  have hh : h ≤ 10 := hI.1.1.2.2.2.1
  rcases sq_both hI.1.1 hI.1.2.1 a b with ⟨c0, m0⟩ | ⟨x, y, hx, hy, rfl, rfl, c1, m1⟩
  · exact c0 _ ⟨fun z => absurd rfl z, fun _ => m0 _ ⟨fun z => absurd rfl z, fun _ => ⟨rfl, _, _, _, _, _, _, _, _, _, hI⟩⟩⟩
  · have hk := pl200 hw hh hx hy
    refine c1 _ ⟨fun _ => depths_x hI.2.2.2.1 hI.2.1 hI.2.2.2.2.2.1 (fun N sx cx q => ?_), fun z => absurd z (by decide)⟩
    have iN := inv_x hI sx cx
    refine placeOf_w iN.1.1 ?_
    rw [nI_clamp (by omega), q x y hx hy]
    refine ⟨vp_in_nI hk (by omega), m1 _ ⟨fun _ => ?_, fun z => absurd z (by decide)⟩⟩
    refine reckon_w hI.2.2.2.2.1 hI.2.2.1 hI.2.2.2.1.2.2.2.1 hI.2.2.2.2.2.2 (fun Nm sm cm => ?_)
    refine agreedAt_w (hI.2.2.2.2.1.same sm) hI.2.1.1.1 cm.2.2.2.1 hx hy ⟨rfl, _, _, _, _, _, _, _, _, _, inv_same hI sx sm cx (Or.inr cm)⟩
