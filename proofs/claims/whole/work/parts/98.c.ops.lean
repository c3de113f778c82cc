/-! calls that ask for segments, planes -/
theorem anc_at {w h T : Nat} {L f g : Nat → Int32} (hwh : w * h ≤ 200) (hf : AncOK w h T L (-5) f) (hg : AncOK w h T L (-1) g) {k : Nat} (hk : k < w * h) : (L k = -5 ∧ f k = -5 ∧ g k = -1) ∨ (¬ L k = -5 ∧ ∃ a : Nat, a ≤ k ∧ f k = nI a ∧ g k = nI a ∧ Anch w h T L a) := by
  obtain ⟨hA, hE⟩ := anc_of (by omega) hf
  by_cases q : L k = -5
  · exact Or.inl ⟨q, (hf.1 k hk).1 q, (hg.1 k hk).1 q⟩
  · obtain ⟨a, ha, ea, ca⟩ := (hf.1 k hk).2 q
    refine Or.inr ⟨q, a, ha, ea, ?_, by omega, ?_, fun k2 hk2 e2 => ?_⟩
    · rw [← anc_uniq (by omega) hf hg hk q, ea]
    · rw [← hE a (by omega)]
      have := ca (fun m => f m = f k) (fun u v e => by rw [hf.2 u v e])
      rw [this.mpr rfl, ea]
    · by_cases q2 : L k2 = -5
      · rw [(hA.1 k2 hk2).1 q2] at e2
        exact absurd e2.symm (ne_neg (by omega) (by decide))
      · obtain ⟨a2, h2, e3, -⟩ := (hA.1 k2 hk2).2 q2
        have := (nI_eq (by omega) (by omega)).mp (e2.symm.trans e3)
        omega
theorem anc_iff {w h T : Nat} {L f g : Nat → Int32} (hwh : w * h ≤ 200) (hf : AncOK w h T L (-5) f) (hg : AncOK w h T L (-1) g) {k a : Nat} (hk : k < w * h) (ha : a < w * h) : g k = nI a ↔ f k = nI a := by
  rcases anc_at hwh hf hg hk with ⟨_, e1, e2⟩ | ⟨_, b, _, e1, e2, _⟩
  · rw [e1, e2]
    exact ⟨fun z => absurd z.symm (ne_neg (by omega) (by decide)), fun z => absurd z.symm (ne_neg (by omega) (by decide))⟩
  · rw [e1, e2]
theorem segment_m {Mx Mm : Mem} {w h D H P Qr T : Nat} {L R f : Nat → Int32} (hI : InvA Mx Mm w h D H P Qr T L R) (hf : AncOK w h T L (-5) f) {x y : Nat} (hx : x < w) (hy : y < h) {Q : Int32 → Mem → Prop} (g : ∀ Nm : Mem, SameM Mm Nm → CMs Nm w h D P Qr T L R → Q (f (y * w + x)) Nm) : wX11_segment Mm (nI x) (nI y) Q := by
  have hw : w ≤ 20 := hI.1.1.2.1
  have hh : h ≤ 10 := hI.1.1.2.2.2.1
  have hwh := wh_le hw hh
  have hk := pl200 hw hh hx hy
  have hl := pl_lt hx hy
  refine isSquare_w hI.1.2.1 (fun _ _ _ _ _ _ => ⟨fun _ => ?_, fun z => absurd z (by decide)⟩) (fun z => absurd ⟨⟨x, hx, rfl⟩, ⟨y, hy, rfl⟩⟩ z)
  refine reckon_w hI.2.2.2.2.1 hI.2.2.1 hI.2.2.2.1.2.2.2.1 hI.2.2.2.2.2.2 (fun Nm sm cm => ?_)
  have mN := (hI.2.2.2.2.1.same sm).1
  have g2 := g Nm sm cm
  rw [plM mN, nI_clamp (by omega)]
  refine ⟨vp_in_nI hk (by omega), fun v ev => ?_⟩
  rcases anc_at hwh hf cm.2.2.2.2 hl with ⟨_, e1, e2⟩ | ⟨_, a, ha, e1, e2, _⟩
  · rw [e1] at g2
    rw [ev, e2]
    exact ⟨fun z => absurd z (by decide), fun _ => g2⟩
  · rw [e1] at g2
    rw [ev, e2]
    exact ⟨fun _ => g2, fun z => absurd (nI_pos' (by omega)) z⟩
theorem o_segment : St_segment Inv := by
  rintro Mx Mm a b ⟨w, h, D, H, P, Qr, T, L, R, hI⟩
  have hw : w ≤ 20 := hI.1.1.2.1
  have hh : h ≤ 10 := hI.1.1.2.2.2.1
  rcases sq_both hI.1.1 hI.1.2.1 a b with ⟨c0, m0⟩ | ⟨x, y, hx, hy, rfl, rfl, c1, m1⟩
  · exact c0 _ ⟨fun z => absurd rfl z, fun _ => m0 _ ⟨fun z => absurd rfl z, fun _ => ⟨rfl, _, _, _, _, _, _, _, _, _, hI⟩⟩⟩
  · have hk := pl200 hw hh hx hy
    refine c1 _ ⟨fun _ => segs_x hI.2.2.2.1 hI.2.1 hI.2.2.2.2.2.1 (fun N sx cx q => ?_), fun z => absurd z (by decide)⟩
    have iN := inv_x hI sx cx
    refine placeOf_w iN.1.1 ?_
    rw [nI_clamp (by omega)]
    exact ⟨vp_in_nI hk (by omega), segment_m hI q hx hy (fun Nm sm cm => ⟨rfl, _, _, _, _, _, _, _, _, _, inv_same hI sx sm cx (Or.inr cm)⟩)⟩
def cnA (f : Nat → Int32) (a : Nat) (n : Nat) : Nat := sm (fun k => b2 (decide (f k = nI a))) n
theorem o_extent : St_extent Inv := by
  rintro Mx Mm a b ⟨w, h, D, H, P, Qr, T, L, R, hI⟩
  have hw : w ≤ 20 := hI.1.1.2.1
  have hh : h ≤ 10 := hI.1.1.2.2.2.1
  have hwh := wh_le hw hh
  rcases sq_both hI.1.1 hI.1.2.1 a b with ⟨c0, m0⟩ | ⟨x, y, hx, hy, rfl, rfl, c1, m1⟩
  · refine c0 _ ⟨fun z => absurd rfl z, fun _ => ?_⟩
    show wX11_extent _ _ _ _
    unfold wX11_extent wX11_segment
    exact m0 _ ⟨fun z => absurd rfl z, fun _ => ⟨fun z => absurd z (by decide), fun _ => ⟨rfl, _, _, _, _, _, _, _, _, _, hI⟩⟩⟩
  · have hk := pl200 hw hh hx hy
    have hl := pl_lt hx hy
    refine c1 _ ⟨fun _ => segs_x hI.2.2.2.1 hI.2.1 hI.2.2.2.2.2.1 (fun N sx cx q => ?_), fun z => absurd z (by decide)⟩
    have iN := inv_x hI sx cx
    refine placeOf_w iN.1.1 ?_
    rw [nI_clamp (by omega)]
    refine ⟨vp_in_nI hk (by omega), fun v ev => ?_⟩
    obtain ⟨hA, hE⟩ := anc_of (by omega) q
    by_cases ql : L (y * w + x) = -5
    · have e5 := (q.1 _ hl).1 ql
      rw [ev, e5]
      refine ⟨fun z => absurd rfl z, fun _ => ?_⟩
      refine segment_m hI q hx hy (fun Nm sm cm => ?_)
      rw [e5]
      exact ⟨fun z => absurd z (by decide), fun _ => ⟨rfl, _, _, _, _, _, _, _, _, _, inv_same hI sx sm cx (Or.inr cm)⟩⟩
    · obtain ⟨a, ha, ea, -⟩ := (q.1 _ hl).2 ql
      rw [ev, ea]
      refine ⟨fun _ => ?_, fun z => absurd z (ne_neg (by omega) (by decide))⟩
      show wX7_countOf N (nI a) ((N 1 0) * (N 1 1)) _
      rw [iN.1.1.2.2.2.2.1, iN.1.1.2.2.2.2.2, pk_mul]
      refine forN (fun n z (c : Int32) => wX7_countOf_L5 _ _ n (nI a) (nI (w * h)) c z N) (fun k c => c = nI (cnA (N 40) a k)) (w * h) ?_ ?_ 0 0 (by omega) rfl
      · intro n c ec
        rw [wX7_countOf_L5_s, ec]
        refine pk_le (w * h) (w * h) (fun _ => ?_) (fun q => absurd q (by omega))
        show wX11_extent _ _ _ _
        refine segment_m hI q hx hy (fun Nm sm cm => ?_)
        have J : Inv N Nm := ⟨_, _, _, _, _, _, _, _, _, inv_same hI sx sm cx (Or.inr cm)⟩
        have mN := (hI.2.2.2.2.1.same sm).1
        have ewh : Nm 0 0 * Nm 0 1 = nI (w * h) := by rw [mN.2.2.2.2.1, mN.2.2.2.2.2, pk_mul]
        rw [ea]
        refine ⟨fun _ => ?_, fun z => absurd (nI_pos' (by omega)) z⟩
        refine forN (fun n z (c : Int32) => wX11_extent_L19 _ _ n (nI a) c z Nm) (fun k c => c = nI (cnA (N 40) a k)) (w * h) ?_ ?_ 0 0 (by omega) rfl
        · intro n2 c2 ec2
          rw [wX11_extent_L19_s, ewh, ec2]
          exact pk_le (w * h) (w * h) (fun _ => ⟨rfl, J⟩) (fun q => absurd q (by omega))
        · intro n2 k c2 hk2 ec2 ih
          have e : cnA (N 40) a (k + 1) = cnA (N 40) a k + b2 (decide (N 40 k = nI a)) := rfl
          have ii := anc_iff hwh q cm.2.2.2.2 hk2 (show a < w * h by omega)
          rw [wX11_extent_L19_s, ewh, ec2]
          refine pk_le (w * h) k (fun q => absurd q (by omega)) (fun _ => ?_)
          rw [nI_clamp (by omega)]
          refine ⟨vp_in_nI (by omega) (by omega), fun z y ey u eu => ?_, fun z y ey u eu => ?_⟩
          · rw [eu, nI_1]
            exact ih y (by rw [ey, e, decide_eq_false (fun z2 => z (ii.mpr z2))]; exact Int32.add_zero _)
          · rw [eu, nI_1]
            exact ih y (by rw [ey, e, decide_eq_true (ii.mp z), nI_1]; rfl)
      · intro n k c hk2 ec ih
        have e : cnA (N 40) a (k + 1) = cnA (N 40) a k + b2 (decide (N 40 k = nI a)) := rfl
        rw [wX7_countOf_L5_s, ec]
        refine pk_le (w * h) k (fun q => absurd q (by omega)) (fun _ => ?_)
        rw [nI_clamp (by omega)]
        refine ⟨vp_in_nI (by omega) (by omega), fun z u eu => ?_, fun z y ey u eu => ?_⟩
        · rw [eu, nI_1]
          exact ih (nI (cnA (N 40) a k)) (by rw [e, decide_eq_false z]; rfl)
        · rw [eu, nI_1]
          exact ih y (by rw [ey, e, decide_eq_true z, nI_1]; rfl)
theorem depthAt_w {M : Mem} {w h D T a x y : Nat} {L R : Nat → Int32} (hx : x < w) (hP : PlaneOK M w h D T L R a) {Q : Int32 → Mem → Prop} (g : Q (pdv w a (tB (bsT w h D T L R a (25 * (D + 1))).2) (tA (bsT w h D T L R a (25 * (D + 1))).2) (tC (bsT w h D T L R a (25 * (D + 1))).2) (y * w + x)) M) : wX5_depthAt M (nI x) (nI y) Q := by
  obtain ⟨e5, e6, -, e1, e2, e3⟩ := hP
  unfold wX5_depthAt
  rw [e5, e6, e1, e2, e3]
  unfold pdv at g
  rw [pl_mod hx, pl_div hx] at g
  exact g
theorem o_plane : St_plane Inv := by
  rintro Mx Mm a b c ⟨w, h, D, H, P, Qr, T, L, R, hI⟩
  have hw : w ≤ 20 := hI.1.1.2.1
  have hh : h ≤ 10 := hI.1.1.2.2.2.1
  have hwh := wh_le hw hh
  have hD : D ≤ 8 := hI.2.1.1.1
  have J0 : Inv Mx Mm := ⟨_, _, _, _, _, _, _, _, _, hI⟩
  rcases sq_both hI.1.1 hI.1.2.1 a b with ⟨c0, m0⟩ | ⟨x, y, hx, hy, rfl, rfl, c1, m1⟩
  · exact c0 _ ⟨fun _ => m0 _ ⟨fun _ => ⟨rfl, J0⟩, fun z => absurd rfl z⟩, fun z => absurd rfl z⟩
  · have hk := pl200 hw hh hx hy
    have hl := pl_lt hx hy
    refine c1 _ ⟨fun z => absurd z (by decide), fun _ => ?_⟩
    apply Classical.byCases (p := Ix c 5)
    · rintro ⟨i, hi, rfl⟩
      refine ⟨fun z => absurd z (nI_pos (by omega)), fun _ => pk_le i 4 (fun _ => ?_) (fun q => absurd q (by omega))⟩
      have mi : ∀ Q : Int32 → Mem → Prop, Q 1 Mm → wX11_in Mm (nI i) 0 4 Q := fun Q q => in_ix (n := 5) (by omega) (by omega) rfl (fun _ _ _ => q) (fun z => absurd ⟨i, hi, rfl⟩ z)
      refine segs_x hI.2.2.2.1 hI.2.1 hI.2.2.2.2.2.1 (fun N sx cx q => ?_)
      have iN := inv_x hI sx cx
      refine placeOf_w iN.1.1 ?_
      rw [nI_clamp (by omega)]
      refine ⟨vp_in_nI hk (by omega), fun v ev => ?_⟩
      obtain ⟨hA, hE⟩ := anc_of (by omega) q
      by_cases ql : L (y * w + x) = -5
      · have e5 := (q.1 _ hl).1 ql
        rw [ev, e5]
        refine ⟨fun z => absurd rfl z, fun _ => ?_⟩
        refine m1 _ ⟨fun z => absurd z (by decide), fun _ => mi _ ⟨fun _ => ?_, fun z => absurd z (by decide)⟩⟩
        refine segment_m hI q hx hy (fun Nm sm cm => ?_)
        rw [e5]
        exact ⟨fun z => absurd z (by decide), fun _ => ⟨rfl, _, _, _, _, _, _, _, _, _, inv_same hI sx sm cx (Or.inr cm)⟩⟩
      · have fm : ∀ Nm, CMs Nm w h D P Qr T L R → ∃ a : Nat, a ≤ y * w + x ∧ N 40 (y * w + x) = nI a ∧ Anch w h T L a := fun Nm cm => by
          rcases anc_at hwh q cm.2.2.2.2 hl with ⟨z, _⟩ | ⟨_, a, ha, e1, _, hAn⟩
          · exact absurd z ql
          · exact ⟨a, ha, e1, hAn⟩
        have fx : ∃ a : Nat, a ≤ y * w + x ∧ N 40 (y * w + x) = nI a ∧ Anch w h T L a := by
          obtain ⟨a, ha, ea, ca⟩ := (q.1 _ hl).2 ql
          refine ⟨a, ha, ea, by omega, ?_, fun k2 hk2 e2 => ?_⟩
          · rw [← hE a (by omega)]
            have := ca (fun m => N 40 m = N 40 (y * w + x)) (fun u v e => by rw [q.2 u v e])
            rw [this.mpr rfl, ea]
          · by_cases q2 : L k2 = -5
            · rw [(hA.1 k2 hk2).1 q2] at e2
              exact absurd e2.symm (ne_neg (by omega) (by decide))
            · obtain ⟨a2, h2, e3, -⟩ := (hA.1 k2 hk2).2 q2
              have := (nI_eq (by omega) (by omega)).mp (e2.symm.trans e3)
              omega
        obtain ⟨a, ha, ea, hAn⟩ := fx
        rw [ev, ea]
        refine ⟨fun _ => ?_, fun z => absurd z (ne_neg (by omega) (by decide))⟩
        refine costs_x iN.2.2.2.1 cx (fun N2 sx2 f2 cx2 co => ⟨pk_in 0 5 (by omega), ?_⟩)
        have iN2 := inv_x iN sx2 cx2
        rw [cl0, iN2.2.1.2.1]
        refine find_x iN2.2.2.2.1 iN2.2.1 cx2 co (fun k hk2 => by rw [f2 40 (by unfold cC; omega)]; exact hE k hk2) hAn (fun N3 sx3 cx3 po => ?_)
        have iN3 := inv_x iN2 sx3 cx3
        -- the reference
        have mm : ∀ r : Int32, (∀ Nm, SameM Mm Nm → CMs Nm w h D P Qr T L R → wX11_planeDepth Nm (nI a) (((Nm 0 0) * nI y) + nI x) (tB (bsT w h D T L R a (25 * (D + 1))).2) (tA (bsT w h D T L R a (25 * (D + 1))).2) (tC (bsT w h D T L R a (25 * (D + 1))).2) (fun r162 M162 => (nI i = 0 → r = (tB (bsT w h D T L R a (25 * (D + 1))).2) ∧ Inv N3 M162) ∧ (nI i = 1 → r = ((tA (bsT w h D T L R a (25 * (D + 1))).2) + 2) ∧ Inv N3 M162) ∧ (nI i = 2 → r = ((tC (bsT w h D T L R a (25 * (D + 1))).2) + 2) ∧ Inv N3 M162) ∧ (nI i = 3 → r = (nI (bsT w h D T L R a (25 * (D + 1))).1) ∧ Inv N3 M162) ∧ ((nI i).toInt < 0 ∨ 3 < (nI i).toInt → vp_in 0 5 ∧ wX11_in M162 r162 0 (M162 5 (0 : Int32).toNatClampNeg) (fun r225 M225 => ((r225 = 0) → r = (r162 - 100) ∧ Inv N3 M225) ∧ (¬ (r225 = 0) → r = r162 ∧ Inv N3 M225))))) → wX11_plane Mm (nI x) (nI y) (nI i) (fun r2 Nm => r = r2 ∧ Inv N3 Nm) := by
          intro r hr
          refine m1 _ ⟨fun z => absurd z (by decide), fun _ => mi _ ⟨fun _ => ?_, fun z => absurd z (by decide)⟩⟩
          refine segment_m hI q hx hy (fun Nm sm cm => ?_)
          rw [ea]
          refine ⟨fun _ => ?_, fun z => absurd (nI_pos' (by omega)) z⟩
          exact planeSearch_w (hI.2.2.2.2.1.same sm) (hI.2.2.1.of (sm.2 5 (by omega) (by omega))) cm.1 (fun k hk2 => (anc_iff hwh q cm.2.2.2.2 hk2 hAn.1).trans (by rw [hE k hk2])) hAn.1 (hr Nm sm cm)
        have jm : ∀ Nm, SameM Mm Nm → CMs Nm w h D P Qr T L R → Inv N3 Nm := fun Nm sm cm => ⟨_, _, _, _, _, _, _, _, _, inv_same iN3 (SameX.rf _) sm cx3 (Or.inr cm)⟩
        have pd : ∀ Nm, SameM Mm Nm → ∀ {b A c : Int32} {Q : Int32 → Mem → Prop}, Q (pdv w a b A c (y * w + x)) Nm → wX11_planeDepth Nm (nI a) (((Nm 0 0) * nI y) + nI x) b A c Q := fun Nm sm b A c Q g => by
          have mN := (hI.2.2.2.2.1.same sm).1
          rw [plM mN]
          exact planeDepth_w mN hAn.1 hl g
        rcases (show i = 0 ∨ i = 1 ∨ i = 2 ∨ i = 3 ∨ i = 4 by omega) with rfl | rfl | rfl | rfl | rfl
        · exact ⟨fun _ => mm _ (fun Nm sm cm => pd Nm sm ⟨fun _ => ⟨po.2.2.2.1, jm Nm sm cm⟩, fun z => absurd z (by decide +kernel), fun z => absurd z (by decide +kernel), fun z => absurd z (by decide +kernel), fun z => absurd z (by decide +kernel)⟩), fun z => absurd z (by decide +kernel), fun z => absurd z (by decide +kernel), fun z => absurd z (by decide +kernel), fun z => absurd z (by decide +kernel)⟩
        · exact ⟨fun z => absurd z (by decide +kernel), fun _ => mm _ (fun Nm sm cm => pd Nm sm ⟨fun z => absurd z (by decide +kernel), fun _ => ⟨by rw [po.2.2.2.2.1], jm Nm sm cm⟩, fun z => absurd z (by decide +kernel), fun z => absurd z (by decide +kernel), fun z => absurd z (by decide +kernel)⟩), fun z => absurd z (by decide +kernel), fun z => absurd z (by decide +kernel), fun z => absurd z (by decide +kernel)⟩
        · exact ⟨fun z => absurd z (by decide +kernel), fun z => absurd z (by decide +kernel), fun _ => mm _ (fun Nm sm cm => pd Nm sm ⟨fun z => absurd z (by decide +kernel), fun z => absurd z (by decide +kernel), fun _ => ⟨by rw [po.2.2.2.2.2], jm Nm sm cm⟩, fun z => absurd z (by decide +kernel), fun z => absurd z (by decide +kernel)⟩), fun z => absurd z (by decide +kernel), fun z => absurd z (by decide +kernel)⟩
        · exact ⟨fun z => absurd z (by decide +kernel), fun z => absurd z (by decide +kernel), fun z => absurd z (by decide +kernel), fun _ => mm _ (fun Nm sm cm => pd Nm sm ⟨fun z => absurd z (by decide +kernel), fun z => absurd z (by decide +kernel), fun z => absurd z (by decide +kernel), fun _ => ⟨po.2.2.1, jm Nm sm cm⟩, fun z => absurd z (by decide +kernel)⟩), fun z => absurd z (by decide +kernel)⟩
        · refine ⟨fun z => absurd z (by decide +kernel), fun z => absurd z (by decide +kernel), fun z => absurd z (by decide +kernel), fun z => absurd z (by decide +kernel), fun _ => ?_⟩
          refine depthAt_w hx po ?_
          rcases dp_both iN3.2.1 hI.2.2.1 (pdv w a (tB (bsT w h D T L R a (25 * (D + 1))).2) (tA (bsT w h D T L R a (25 * (D + 1))).2) (tC (bsT w h D T L R a (25 * (D + 1))).2) (y * w + x)) with ⟨nix, d0, -⟩ | ⟨d, hd, ed, d1, -⟩
          · refine d0 _ ⟨fun _ => mm _ (fun Nm sm cm => pd Nm sm ⟨fun z => absurd z (by decide +kernel), fun z => absurd z (by decide +kernel), fun z => absurd z (by decide +kernel), fun z => absurd z (by decide +kernel), fun _ => ?_⟩), fun z => absurd rfl z⟩
            refine ⟨pk_in 0 5 (by omega), ?_⟩
            rw [cl0, (hI.2.2.1.of (sm.2 5 (by omega) (by omega))).2.1]
            exact in_ix (n := D + 1) (by omega) (by omega) rfl (fun j hj ej => absurd ⟨j, hj, ej⟩ nix) (fun _ => ⟨fun _ => ⟨rfl, jm Nm sm cm⟩, fun z => absurd rfl z⟩)
          · refine d1 _ ⟨fun z => absurd z (by decide), fun _ => mm _ (fun Nm sm cm => pd Nm sm ⟨fun z => absurd z (by decide +kernel), fun z => absurd z (by decide +kernel), fun z => absurd z (by decide +kernel), fun z => absurd z (by decide +kernel), fun _ => ⟨pk_in 0 5 (by omega), ?_⟩⟩)⟩
            rw [cl0, (hI.2.2.1.of (sm.2 5 (by omega) (by omega))).2.1]
            exact in_ix (n := D + 1) (by omega) (by omega) rfl (fun _ _ _ => ⟨fun z => absurd z (by decide), fun _ => ⟨rfl, jm Nm sm cm⟩⟩) (fun z => absurd ⟨d, by omega, ed⟩ z)
    · intro nx
      have no : wX11_plane Mm (nI x) (nI y) c (fun r2 Nm => -1000 = r2 ∧ Inv Mx Nm) := m1 _ ⟨fun z => absurd z (by decide), fun _ => in_ix (n := 5) (by omega) (by omega) rfl (fun j hj e => absurd ⟨j, hj, e⟩ nx) (fun _ => ⟨fun z => absurd rfl z, fun _ => ⟨rfl, J0⟩⟩)⟩
      refine ⟨fun _ => no, fun z => ⟨fun z2 => absurd ?_ nx, fun _ => no⟩⟩
      obtain ⟨d, hd, ed⟩ := nI_of2 (x := c) (M := 4) (n := 4) rfl z z2
      exact ⟨d, by omega, ed⟩
