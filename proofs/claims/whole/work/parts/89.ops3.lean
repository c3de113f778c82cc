/-! guards, both sides at once -/
theorem ref_both {Mx Mm : Mem} {w h : Nat} (hB : Base Mx Mm w h) (a b c : Int32) : (∃ r : Int32, (r = -1 ∨ r = -2) ∧ (∀ Q, Q r Mx → wX6_refusalToWrite Mx a b c Q) ∧ (∀ Q, Q r Mm → wX11_refuse Mm a b c Q)) ∨ (∃ x y : Nat, x < w ∧ y < h ∧ IsPic a ∧ b = nI x ∧ c = nI y ∧ mis Mx a y = 0 ∧ (∀ Q, Q 0 Mx → wX6_refusalToWrite Mx a b c Q) ∧ (∀ Q, Q 0 Mm → wX11_refuse Mm a b c Q)) := by
  have hd := hB.1
  have hm := hB.2.1
  have hP := hB.2.2.1
  have hh : h ≤ 10 := hd.2.2.2.1
  by_cases q1 : IsPic a ∧ Ix c h
  · obtain ⟨hp, y, hy, ec⟩ := q1
    have uq : ∀ y2 : Nat, y2 < h → c = nI y2 → y2 = y := fun y2 h2 e2 => (nI_eq (by omega) (by omega)).mp (e2.symm.trans ec)
    by_cases q2 : mis Mx a y = 0
    · have q3 : misM Mm a y = 0 := by rw [mis_eq hP a (by omega)]; exact q2
      by_cases q4 : Ix b w
      · obtain ⟨x, hx, eb⟩ := q4
        refine Or.inr ⟨x, y, hx, hy, hp, eb, ec, q2, fun Q g => ?_, fun Q g => ?_⟩
        · exact refusal_w hd (fun q => absurd ⟨hp, y, hy, ec⟩ q) (fun y2 h2 _ e2 q => absurd (uq y2 h2 e2 ▸ q2) q) (fun y2 h2 _ e2 _ q => absurd ⟨x, hx, eb⟩ q) (fun _ _ _ _ _ _ _ _ => g)
        · exact refuse_w hm (fun q => absurd ⟨hp, y, hy, ec⟩ q) (fun y2 h2 _ e2 q => absurd (uq y2 h2 e2 ▸ q3) q) (fun y2 h2 _ e2 _ q => absurd ⟨x, hx, eb⟩ q) (fun _ _ _ _ _ _ _ _ => g)
      · refine Or.inl ⟨-1, Or.inl rfl, fun Q g => ?_, fun Q g => ?_⟩
        · exact refusal_w hd (fun q => absurd ⟨hp, y, hy, ec⟩ q) (fun y2 h2 _ e2 q => absurd (uq y2 h2 e2 ▸ q2) q) (fun _ _ _ _ _ _ => g) (fun x _ hx _ _ eb _ _ => absurd ⟨x, hx, eb⟩ q4)
        · exact refuse_w hm (fun q => absurd ⟨hp, y, hy, ec⟩ q) (fun y2 h2 _ e2 q => absurd (uq y2 h2 e2 ▸ q3) q) (fun _ _ _ _ _ _ => g) (fun x _ hx _ _ eb _ _ => absurd ⟨x, hx, eb⟩ q4)
    · have q3 : ¬ misM Mm a y = 0 := by rw [mis_eq hP a (by omega)]; exact q2
      refine Or.inl ⟨-2, Or.inr rfl, fun Q g => ?_, fun Q g => ?_⟩
      · exact refusal_w hd (fun q => absurd ⟨hp, y, hy, ec⟩ q) (fun _ _ _ _ _ => g) (fun y2 h2 _ e2 q _ => absurd (uq y2 h2 e2 ▸ q) q2) (fun x y2 hx h2 _ eb e2 q => absurd (uq y2 h2 e2 ▸ q) q2)
      · exact refuse_w hm (fun q => absurd ⟨hp, y, hy, ec⟩ q) (fun _ _ _ _ _ => g) (fun y2 h2 _ e2 q _ => absurd (uq y2 h2 e2 ▸ q) q3) (fun x y2 hx h2 _ eb e2 q => absurd (uq y2 h2 e2 ▸ q) q3)
  · refine Or.inl ⟨-1, Or.inl rfl, fun Q g => ?_, fun Q g => ?_⟩
    · exact refusal_w hd (fun _ => g) (fun y hy hp ec _ => absurd ⟨hp, y, hy, ec⟩ q1) (fun y hy hp ec _ _ => absurd ⟨hp, y, hy, ec⟩ q1) (fun x y hx hy hp _ ec _ => absurd ⟨hp, y, hy, ec⟩ q1)
    · exact refuse_w hm (fun _ => g) (fun y hy hp ec _ => absurd ⟨hp, y, hy, ec⟩ q1) (fun y hy hp ec _ _ => absurd ⟨hp, y, hy, ec⟩ q1) (fun x y hx hy hp _ ec _ => absurd ⟨hp, y, hy, ec⟩ q1)
theorem sq_both {Mx Mm : Mem} {w h : Nat} (hd : Dim Mx w h) (hm : DimM Mm w h) (a b : Int32) : ((∀ Q, Q 0 Mx → wX6_hasSquare Mx a b Q) ∧ (∀ Q, Q 0 Mm → wX11_isSquare Mm a b Q)) ∨ (∃ x y : Nat, x < w ∧ y < h ∧ a = nI x ∧ b = nI y ∧ (∀ Q, Q 1 Mx → wX6_hasSquare Mx a b Q) ∧ (∀ Q, Q 1 Mm → wX11_isSquare Mm a b Q)) := by
  by_cases q : Ix a w ∧ Ix b h
  · obtain ⟨⟨x, hx, ea⟩, ⟨y, hy, eb⟩⟩ := q
    exact Or.inr ⟨x, y, hx, hy, ea, eb, fun Q g => hasSquare_w hd (fun _ _ _ _ _ _ => g) (fun q => absurd ⟨⟨x, hx, ea⟩, ⟨y, hy, eb⟩⟩ q), fun Q g => isSquare_w hm (fun _ _ _ _ _ _ => g) (fun q => absurd ⟨⟨x, hx, ea⟩, ⟨y, hy, eb⟩⟩ q)⟩
  · exact Or.inl ⟨fun Q g => hasSquare_w hd (fun x y hx hy ea eb => absurd ⟨⟨x, hx, ea⟩, ⟨y, hy, eb⟩⟩ q) (fun _ => g), fun Q g => isSquare_w hm (fun x y hx hy ea eb => absurd ⟨⟨x, hx, ea⟩, ⟨y, hy, eb⟩⟩ q) (fun _ => g)⟩
theorem row_both {Mx Mm : Mem} {w h : Nat} (hd : Dim Mx w h) (hm : DimM Mm w h) (a b : Int32) : ((∀ Q, Q 0 Mx → wX6_hasRow Mx a b Q) ∧ (∀ Q, Q 0 Mm → wX11_isRow Mm a b Q)) ∨ (∃ y : Nat, y < h ∧ IsPic a ∧ b = nI y ∧ (∀ Q, Q 1 Mx → wX6_hasRow Mx a b Q) ∧ (∀ Q, Q 1 Mm → wX11_isRow Mm a b Q)) := by
  by_cases q : IsPic a ∧ Ix b h
  · obtain ⟨hp, ⟨y, hy, eb⟩⟩ := q
    exact Or.inr ⟨y, hy, hp, eb, fun Q g => hasRow_w hd (fun _ _ _ _ => g) (fun q => absurd ⟨hp, ⟨y, hy, eb⟩⟩ q), fun Q g => isRow_w hm (fun _ _ _ _ => g) (fun q => absurd ⟨hp, ⟨y, hy, eb⟩⟩ q)⟩
  · exact Or.inl ⟨fun Q g => hasRow_w hd (fun y hy hp eb => absurd ⟨hp, ⟨y, hy, eb⟩⟩ q) (fun _ => g), fun Q g => isRow_w hm (fun y hy hp eb => absurd ⟨hp, ⟨y, hy, eb⟩⟩ q) (fun _ => g)⟩
def sq (M : Mem) (a : Int32) (k : Nat) : Int32 := if a = 0 then M 3 k else M 6 k
def seS (M : Mem) (a : Int32) (w x y : Nat) : Int32 := if mis M a y = 0 then sq M a (y * w + x) else -5
theorem seen_w {M : Mem} {w h : Nat} (hd : Dim M w h) {a : Int32} {x y : Nat} (hx : x < w) (hy : y < h) {Q : Int32 → Mem → Prop} (g : Q (seS M a w x y) M) : wX6_seen M a (nI x) (nI y) Q := by
  have hpl := pl200 hd.2.1 hd.2.2.2.1 hx hy
  have hh := hd.2.2.2.1
  unfold wX6_seen
  rw [place_w hd, nI_clamp (show y < 2 ^ 31 by omega), nI_clamp (show y * w + x < 2 ^ 31 by omega)]
  unfold seS mis sq at g
  refine ⟨fun q => ⟨vp_in_nI (by omega) (by omega), fun q2 => ⟨vp_in_nI hpl (by omega), ?_⟩, fun q2 => ?_⟩, fun q => ⟨vp_in_nI (by omega) (by omega), fun q2 => ⟨vp_in_nI hpl (by omega), ?_⟩, fun q2 => ?_⟩⟩
  · rw [if_neg q, if_neg q, if_pos q2] at g; exact g
  · rw [if_neg q, if_neg q, if_neg q2] at g; exact g
  · rw [if_pos q, if_pos q, if_pos q2] at g; exact g
  · rw [if_pos q, if_pos q, if_neg q2] at g; exact g
/-- which place of the reference's rows a square has -/
def pm (a : Int32) (k : Nat) : Nat := if a = 0 then k else 200 + k
theorem at_w {M : Mem} {w h x y : Nat} (hd : DimM M w h) {a : Int32} (hp : IsPic a) {Q : Int32 → Mem → Prop} (g : Q (nI (pm a (y * w + x))) M) : wX11_at M a (nI x) (nI y) Q := by
  rcases hp with rfl | rfl
  · exact at0_w hd g
  · exact at1_w hd g
theorem pm_lt {a : Int32} {k : Nat} (hk : k < 200) : pm a k < 400 := by
  unfold pm
  split <;> omega
theorem ro_ix {a : Int32} (hp : IsPic a) {y : Nat} (hy : y < 10) (M : Mem) : ∃ i : Nat, i < 20 ∧ 10 * a + nI y = nI i ∧ M 3 i = misM M a y ∧ i = (if a = 0 then y else 10 + y) := by
  rcases hp with rfl | rfl
  · exact ⟨y, by omega, i10_0 y, rfl, rfl⟩
  · exact ⟨10 + y, by omega, i10_1 y, rfl, rfl⟩
theorem isLost_w {M : Mem} {w h : Nat} (hd : DimM M w h) {a : Int32} (hp : IsPic a) {x y : Nat} (hx : x < w) (hy : y < h) {Q : Int32 → Mem → Prop} (g : Q (if misM M a y = 0 ∧ M 2 (pm a (y * w + x)) = 0 then 0 else 1) M) : wX11_isLost M a (nI x) (nI y) Q := by
  have hpl := pl200 hd.2.1 hd.2.2.2.1 hx hy
  have hh := hd.2.2.2.1
  have hq : pm a (y * w + x) < 400 := pm_lt hpl
  obtain ⟨i, hi, ei, em, -⟩ := ro_ix hp (show y < 10 by omega) M
  unfold wX11_isLost
  rw [ei, nI_clamp (by omega), em]
  refine ⟨vp_in_nI hi (by omega), fun q => ?_, fun q => at_w hd hp ⟨vp_in_nI hq (by omega), ?_⟩⟩
  · rw [if_neg (fun z => q z.1)] at g; exact g
  · rw [nI_clamp (by omega)]
    refine ⟨fun q2 => ?_, fun q2 => ?_⟩
    · rw [if_pos ⟨q, q2⟩] at g; exact g
    · rw [if_neg (fun z => q2 z.2)] at g; exact g
/-- what both hold of a square -/
theorem sq_rel {Mx Mm : Mem} (hP : PicS Mx Mm) {a : Int32} {k : Nat} (hk : k < 200) : sq Mx a k = (if Mm 2 (pm a k) = 0 then Mm 1 (pm a k) else -5) ∧ (Mm 2 (pm a k) = 0 ∨ Mm 2 (pm a k) = 1) ∧ ∃ v : Nat, v < 256 ∧ Mm 1 (pm a k) = nI v := by
  have h1 := hP.1 (pm a k) (pm_lt hk)
  refine ⟨?_, h1.1, h1.2⟩
  unfold sq pm
  by_cases q : a = 0
  · rw [if_pos q, if_pos q]; exact hP.2.1 k hk
  · rw [if_neg q, if_neg q]; exact hP.2.2.1 k hk
theorem nI_n5 {v : Nat} (h : v < 256) : ¬ nI v = -5 := ne_neg (by omega) (by decide)
theorem sq_lost {Mx Mm : Mem} (hP : PicS Mx Mm) {a : Int32} {k : Nat} (hk : k < 200) : sq Mx a k = -5 ↔ ¬ Mm 2 (pm a k) = 0 := by
  obtain ⟨h1, h2, v, hv, h3⟩ := sq_rel hP (a := a) hk
  rw [h1]
  by_cases q : Mm 2 (pm a k) = 0
  · rw [if_pos q, h3]
    exact ⟨fun z => absurd z (nI_n5 hv), fun z => absurd q z⟩
  · rw [if_neg q]
    exact ⟨fun _ => q, fun _ => rfl⟩
theorem o_told {Mx Mm : Mem} {w h : Nat} (hB : Base Mx Mm w h) (a b c : Int32) {J : Mem → Mem → Prop} (hJ : JC J Mx Mm) : wX10_told Mx a b c (fun r Nx => wX11_told Mm a b c (fun r2 Nm => r = r2 ∧ J Nx Nm)) := by
  have hd := hB.1
  have hm := hB.2.1
  have hP := hB.2.2.1
  have hh := hd.2.2.2.1
  by_cases hp : IsPic a
  · refine hasPicture_w (fun _ => ⟨fun q => absurd q (by decide), fun _ => ?_⟩) (fun q => absurd hp q)
    rcases sq_both hd hm b c with ⟨gx, gm⟩ | ⟨x, y, hx, hy, rfl, rfl, gx, gm⟩
    · refine gx _ ⟨fun q => absurd rfl q, fun _ => ?_⟩
      exact inPic_w (fun _ => ⟨fun q => absurd q (by decide), fun _ => gm _ ⟨fun q => absurd rfl q, fun _ => ⟨rfl, hJ.1⟩⟩⟩) (fun q => absurd hp q)
    · have hpl := pl200 hd.2.1 hh hx hy
      refine gx _ ⟨fun _ => seen_w hd hx hy ?_, fun q => absurd q (by decide)⟩
      refine inPic_w (fun _ => ⟨fun q => absurd q (by decide), fun _ => gm _ ⟨fun _ => isLost_w hm hp hx hy ?_, fun q => absurd q (by decide)⟩⟩) (fun q => absurd hp q)
      obtain ⟨h1, h2, v, hv, h3⟩ := sq_rel hP (a := a) hpl
      unfold seS
      rw [mis_eq hP a (by omega), h1]
      by_cases q1 : mis Mx a y = 0
      · by_cases q2 : Mm 2 (pm a (y * w + x)) = 0
        · rw [if_pos ⟨q1, q2⟩, if_pos q1, if_pos q2]
          refine ⟨fun _ => at_w hm hp ⟨vp_in_nI (pm_lt hpl) (by omega), ?_⟩, fun q => absurd rfl q⟩
          rw [nI_clamp (by have := pm_lt (a := a) hpl; omega)]
          exact ⟨rfl, hJ.1⟩
        · rw [if_neg (fun z => q2 z.2), if_pos q1, if_neg q2]
          exact ⟨fun q => absurd q (by decide), fun _ => ⟨rfl, hJ.1⟩⟩
      · rw [if_neg (fun z => q1 z.1), if_neg q1]
        exact ⟨fun q => absurd q (by decide), fun _ => ⟨rfl, hJ.1⟩⟩
  · refine hasPicture_w (fun q => absurd q hp) (fun _ => ⟨fun _ => ?_, fun q => absurd rfl q⟩)
    exact inPic_w (fun q => absurd q hp) (fun _ => ⟨fun _ => ⟨rfl, hJ.1⟩, fun q => absurd rfl q⟩)
theorem plM {M : Mem} {w h x y : Nat} (hd : DimM M w h) : (M 0 0 * nI y) + nI x = nI (y * w + x) := by rw [hd.2.2.2.2.1, pk_mul, nI_add, Nat.mul_comm w y]
theorem o_truth {Mx Mm : Mem} {w h : Nat} (hB : Base Mx Mm w h) (a b : Int32) {J : Mem → Mem → Prop} (hJ : JC J Mx Mm) : wX10_truth Mx a b (fun r Nx => wX11_truth Mm a b (fun r2 Nm => r = r2 ∧ J Nx Nm)) := by
  have hd := hB.1
  have hm := hB.2.1
  have hP := hB.2.2.1
  have hh := hd.2.2.2.1
  rcases sq_both hd hm a b with ⟨gx, gm⟩ | ⟨x, y, hx, hy, rfl, rfl, gx, gm⟩
  · exact gx _ ⟨fun _ => gm _ ⟨fun _ => ⟨rfl, hJ.1⟩, fun q => absurd rfl q⟩, fun q => absurd rfl q⟩
  · have hpl := pl200 hd.2.1 hh hx hy
    refine gx _ ⟨fun q => absurd q (by decide), fun _ => placeOf_w hd ⟨vp_in_nI hpl (by omega), ?_⟩⟩
    refine gm _ ⟨fun q => absurd q (by decide), fun _ => ?_⟩
    rw [plM hm, nI_clamp (by omega)]
    exact ⟨vp_in_nI hpl (by omega), ((hP.2.2.2.2.2 _ hpl).2).symm, hJ.1⟩
set_option maxHeartbeats 1000000 in
theorem o_lose {Mx Mm : Mem} {w h : Nat} (hB : Base Mx Mm w h) (a b c : Int32) {J : Mem → Mem → Prop} (hJ : JC J Mx Mm) : wX10_lose Mx a b c (fun r Nx => wX11_lose Mm a b c (fun r2 Nm => r = r2 ∧ J Nx Nm)) := by
  have hd := hB.1
  have hm := hB.2.1
  have hP := hB.2.2.1
  have hh := hd.2.2.2.1
  rcases ref_both hB a b c with ⟨r, hr, gx, gm⟩ | ⟨x, y, hx, hy, hp, rfl, rfl, q0, gx, gm⟩
  · have r0 : ¬ (0 : Int32) ≤ r := by rcases hr with rfl | rfl <;> decide
    have r1 : ¬ r = 0 := by rcases hr with rfl | rfl <;> decide
    exact gx _ ⟨fun q => absurd q r0, fun _ => gm _ ⟨fun q => absurd q r1, fun _ => ⟨rfl, hJ.1⟩⟩⟩
  · have hpl := pl200 hd.2.1 hh hx hy
    have hq : pm a (y * w + x) < 400 := pm_lt hpl
    refine gx _ ⟨fun _ => seen_w hd hx hy ?_, fun q => absurd (by decide) q⟩
    have es : seS Mx a w x y = sq Mx a (y * w + x) := by unfold seS; rw [if_pos q0]
    rw [es]
    have mod : ∀ (r : Int32) (Nx : Mem), (Mm 2 (pm a (y * w + x)) = 0 → r = 1) → (¬ Mm 2 (pm a (y * w + x)) = 0 → r = 0) → (∀ Nm : Mem, Nm 1 = Mm 1 → Nm 2 = upd (Mm 2) (pm a (y * w + x)) 1 → (∀ c, 3 ≤ c → Nm c = Mm c) → (∀ k, k ≠ 15 → Nm 0 k = Mm 0 k) → Nm 0 15 = 0 → J Nx Nm) → wX11_lose Mm a (nI x) (nI y) (fun r2 Nm => r = r2 ∧ J Nx Nm) := by
      intro r Nx r1 r2 hN
      refine gm _ ⟨fun _ => at_w hm hp ⟨vp_in_nI hq (by omega), fun z ez => at_w hm hp ⟨vp_in_nI hq (by omega), fun M43 e43 M46 e46 => ?_⟩⟩, fun q => absurd rfl q⟩
      rw [nI_clamp (by omega)] at ez e43
      have jj : J Nx M46 := by
        subst e46 e43
        refine hN _ ?_ ?_ (fun c hc => ?_) (fun k hk => ?_) ?_
        · rw [up_n _ _ (by decide), up_n _ _ (by decide)]
        · rw [up_n _ _ (by decide), up_s]
        · rw [up_n _ _ (by omega), up_n _ _ (by omega)]
        · rw [up_s, pk_un hk, up_n _ _ (by decide)]
        · rw [up_s, pk_us]
      refine ⟨fun q => ⟨r1 (ez ▸ q), jj⟩, fun q => ⟨r2 (fun z2 => q (ez.trans z2)), jj⟩⟩
    refine ⟨fun q => ?_, fun q => ?_⟩
    · have q1 : Mm 2 (pm a (y * w + x)) = 0 := by
        by_cases z : Mm 2 (pm a (y * w + x)) = 0
        · exact z
        · exact absurd ((sq_lost hP hpl).mpr z) q
      refine ⟨fun qa => placeOf_w hd ⟨vp_in_nI hpl (by omega), fun M59 e59 => ?_⟩, fun qa => placeOf_w hd ⟨vp_in_nI hpl (by omega), fun M59 e59 => ?_⟩⟩
      · rw [nI_clamp (by omega)] at e59
        refine forgetAll_w (fun Nx k1 k2 => mod 1 Nx (fun _ => rfl) (fun z => absurd q1 z) (fun Nm n1 n2 n3 n4 n5 => ?_))
        refine hJ.2.2 Nx Nm w h (hB.pic (fun c c3 _ c6 _ _ cx => by rw [k1 c (nhot cx), e59, up_n _ _ c3]) (fun k k1 _ _ => n4 k k1) (fun c c1 _ => n3 c (by omega)) ?_) k2 n5
        have ep : pm a (y * w + x) = y * w + x := by unfold pm; rw [if_pos qa]
        unfold PicS
        rw [n1, n2, n3 3 (by omega), n3 4 (by omega), ep, k1 3 (nhot (nxc (by omega))), k1 4 (nhot (nxc (by omega))), k1 6 (nhot (nxc (by omega))), k1 7 (nhot (nxc (by omega))), k1 8 (nhot (nxc (by omega))), e59, up_s, up_n _ _ (by decide), up_n _ _ (by decide), up_n _ _ (by decide), up_n _ _ (by decide)]
        exact pic_lo0 hP hpl
      · rw [nI_clamp (by omega)] at e59
        refine forgetAll_w (fun Nx k1 k2 => mod 1 Nx (fun _ => rfl) (fun z => absurd q1 z) (fun Nm n1 n2 n3 n4 n5 => ?_))
        refine hJ.2.2 Nx Nm w h (hB.pic (fun c c3 _ c6 _ _ cx => by rw [k1 c (nhot cx), e59, up_n _ _ c6]) (fun k k1 _ _ => n4 k k1) (fun c c1 _ => n3 c (by omega)) ?_) k2 n5
        have ep : pm a (y * w + x) = 200 + (y * w + x) := by unfold pm; rw [if_neg qa]
        unfold PicS
        rw [n1, n2, n3 3 (by omega), n3 4 (by omega), ep, k1 3 (nhot (nxc (by omega))), k1 4 (nhot (nxc (by omega))), k1 6 (nhot (nxc (by omega))), k1 7 (nhot (nxc (by omega))), k1 8 (nhot (nxc (by omega))), e59, up_s, up_n _ _ (by decide), up_n _ _ (by decide), up_n _ _ (by decide), up_n _ _ (by decide)]
        exact pic_lo1 hP hpl
    · have q1 := (sq_lost hP hpl).mp q
      refine mod 0 Mx (fun z => absurd z q1) (fun _ => rfl) (fun Nm n1 n2 n3 n4 n5 => hJ.2.1 Nm ⟨fun k k1 _ _ => n4 k k1, fun c c1 c2 => ?_⟩ n5)
      rcases (show c = 1 ∨ c = 2 ∨ 3 ≤ c by omega) with rfl | rfl | hc
      · exact n1
      · rw [n2]
        funext j
        by_cases ej : j = pm a (y * w + x)
        · rw [ej, pk_us]
          exact ((sq_rel hP (a := a) hpl).2.1.resolve_left q1).symm
        · rw [pk_un ej]
      · exact n3 c hc
