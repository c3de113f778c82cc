theorem copy_x {M : Mem} {w h : Nat} (hd : Dim M w h) {a b c n d e f : Int32} {Q : Int32 → Mem → Prop} (hno : ¬ ((IsPic a ∧ Ix c h) ∧ (IsPic d ∧ Ix f h)) → Q (-1) M) (hmi : ∀ y v : Nat, y < h → v < h → IsPic a → IsPic d → c = nI y → f = nI v → ¬ (mis M a y = 0 ∧ mis M d v = 0) → Q (-2) M) (hne : ∀ y v : Nat, y < h → v < h → IsPic a → IsPic d → c = nI y → f = nI v → mis M a y = 0 → mis M d v = 0 → ¬ 0 ≤ n → Q (-3) M) (hco : ∀ y v N : Nat, y < h → v < h → N < 2 ^ 31 → IsPic a → IsPic d → c = nI y → f = nI v → n = nI N → mis M a y = 0 → mis M d v = 0 → ¬ (CoC w b N ∧ CoC w e N) → Q (-1) M) (hok : ∀ y v N x u : Nat, y < h → v < h → x + N ≤ w → u + N ≤ w → IsPic a → IsPic d → c = nI y → f = nI v → n = nI N → b = nI x → e = nI u → mis M a y = 0 → mis M d v = 0 → ∀ Nx : Mem, (∀ k, ¬ hot k → k ≠ cel d → Nx k = M k) → Nx (cel d) = va_cpy (M (cel a)) (M (cel d)) (y * w + x) (v * w + u) N → Cold Nx → Q n Nx) : wX10_copy M a b c n d e f Q := by
  have hh : h ≤ 10 := hd.2.2.2.1
  have hw : w ≤ 20 := hd.2.1
  have fit : ∀ {y x N : Nat}, y < h → x + N ≤ w → y * w + x + N ≤ 200 := by
    intro y x N hy hx
    have h1 : (y + 1) * w ≤ h * w := Nat.mul_le_mul_right w hy
    rw [Nat.add_mul, Nat.one_mul] at h1
    have h2 : h * w ≤ 10 * 20 := Nat.mul_le_mul hh hw
    omega
  refine hasRow_w hd (fun y hy pa ec => ⟨fun q => absurd q (by decide), fun _ => ?_⟩) (fun q => ⟨fun _ => hno (fun z => q z.1), fun q => absurd rfl q⟩)
  refine hasRow_w hd (fun v hv pd ef => ⟨fun _ => ?_, fun q => absurd q (by decide)⟩) (fun q => ⟨fun q => absurd rfl q, fun _ => hno (fun z => q z.2)⟩)
  have ey : c.toNatClampNeg = y := by rw [ec]; exact nI_clamp (by omega)
  have ev : f.toNatClampNeg = v := by rw [ef]; exact nI_clamp (by omega)
  have iy : vp_in c 10 := by rw [ec]; exact vp_in_nI (by omega) (by omega)
  have iv : vp_in f 10 := by rw [ef]; exact vp_in_nI (by omega) (by omega)
  rw [ey, ev]
  refine ⟨fun qa => ⟨fun qd => ?_, fun qd => ?_⟩, fun qa => ⟨fun qd => ?_, fun qd => ?_⟩⟩
  · have ma : mis M a y = M 4 y := if_pos qa
    have md : mis M d v = M 4 v := if_pos qd
    have ca : cel a = 3 := if_pos qa
    have cd : cel d = 3 := if_pos qd
    refine ⟨iy, fun q1 => hmi y v hy hv pa pd ec ef (fun z => q1 (ma.symm.trans z.1)), fun q1 => ⟨iv, fun q2 => ⟨fun q3 => ?_, fun q3 => hne y v hy hv pa pd ec ef (ma.trans q1) (md.trans q2) q3⟩, fun q2 => hmi y v hy hv pa pd ec ef (fun z => q2 (md.symm.trans z.2))⟩⟩
    obtain ⟨N, hN, en⟩ := nI_of (x := n) (fun q => absurd q3 (Int32.not_le.mpr q))
    rw [en]
    refine hasColumns_w hd hN (fun x hx ex => ⟨fun q => absurd q (by decide), fun _ => ?_⟩) (fun q => ⟨fun _ => hco y v N hy hv hN pa pd ec ef en (ma.trans q1) (md.trans q2) (fun z => q z.1), fun q => absurd rfl q⟩)
    refine hasColumns_w hd hN (fun u hu eu => ⟨fun _ => ?_, fun q => absurd q (by decide)⟩) (fun q => ⟨fun q => absurd rfl q, fun _ => hco y v N hy hv hN pa pd ec ef en (ma.trans q1) (md.trans q2) (fun z => q z.2)⟩)
    have f1 := fit hy hx
    have f2 := fit hv hu
    rw [ex, ec, eu, ef]
    refine placeOf_w hd (placeOf_w hd ⟨nI_pos (by omega), nI_pos (by omega), nI_pos hN, ?_, ?_, fun M142 e142 => ?_⟩)
    · rw [nI_clamp (by omega), nI_clamp hN]; exact f1
    · rw [nI_clamp (by omega), nI_clamp hN]; exact f2
    · rw [nI_clamp (by omega), nI_clamp (by omega), nI_clamp hN] at e142
      refine forgetAll_w (fun Nx k1 k2 => ?_)
      rw [← en]
      refine hok y v N x u hy hv hx hu pa pd ec ef en ex eu (ma.trans q1) (md.trans q2) Nx (fun k kh kc => ?_) ?_ k2
      · rw [cd] at kc
        rw [k1 k kh, e142, up_n _ _ kc]
      · rw [cd, ca, k1 3 (nhot (nxc (by omega))), e142, up_s]
  · have ma : mis M a y = M 4 y := if_pos qa
    have md : mis M d v = M 7 v := if_neg qd
    have ca : cel a = 3 := if_pos qa
    have cd : cel d = 6 := if_neg qd
    refine ⟨iy, fun q1 => hmi y v hy hv pa pd ec ef (fun z => q1 (ma.symm.trans z.1)), fun q1 => ⟨iv, fun q2 => ⟨fun q3 => ?_, fun q3 => hne y v hy hv pa pd ec ef (ma.trans q1) (md.trans q2) q3⟩, fun q2 => hmi y v hy hv pa pd ec ef (fun z => q2 (md.symm.trans z.2))⟩⟩
    obtain ⟨N, hN, en⟩ := nI_of (x := n) (fun q => absurd q3 (Int32.not_le.mpr q))
    rw [en]
    refine hasColumns_w hd hN (fun x hx ex => ⟨fun q => absurd q (by decide), fun _ => ?_⟩) (fun q => ⟨fun _ => hco y v N hy hv hN pa pd ec ef en (ma.trans q1) (md.trans q2) (fun z => q z.1), fun q => absurd rfl q⟩)
    refine hasColumns_w hd hN (fun u hu eu => ⟨fun _ => ?_, fun q => absurd q (by decide)⟩) (fun q => ⟨fun q => absurd rfl q, fun _ => hco y v N hy hv hN pa pd ec ef en (ma.trans q1) (md.trans q2) (fun z => q z.2)⟩)
    have f1 := fit hy hx
    have f2 := fit hv hu
    rw [ex, ec, eu, ef]
    refine placeOf_w hd (placeOf_w hd ⟨nI_pos (by omega), nI_pos (by omega), nI_pos hN, ?_, ?_, fun M142 e142 => ?_⟩)
    · rw [nI_clamp (by omega), nI_clamp hN]; exact f1
    · rw [nI_clamp (by omega), nI_clamp hN]; exact f2
    · rw [nI_clamp (by omega), nI_clamp (by omega), nI_clamp hN] at e142
      refine forgetAll_w (fun Nx k1 k2 => ?_)
      rw [← en]
      refine hok y v N x u hy hv hx hu pa pd ec ef en ex eu (ma.trans q1) (md.trans q2) Nx (fun k kh kc => ?_) ?_ k2
      · rw [cd] at kc
        rw [k1 k kh, e142, up_n _ _ kc]
      · rw [cd, ca, k1 6 (nhot (nxc (by omega))), e142, up_s]
  · have ma : mis M a y = M 7 y := if_neg qa
    have md : mis M d v = M 4 v := if_pos qd
    have ca : cel a = 6 := if_neg qa
    have cd : cel d = 3 := if_pos qd
    refine ⟨iy, fun q1 => hmi y v hy hv pa pd ec ef (fun z => q1 (ma.symm.trans z.1)), fun q1 => ⟨iv, fun q2 => ⟨fun q3 => ?_, fun q3 => hne y v hy hv pa pd ec ef (ma.trans q1) (md.trans q2) q3⟩, fun q2 => hmi y v hy hv pa pd ec ef (fun z => q2 (md.symm.trans z.2))⟩⟩
    obtain ⟨N, hN, en⟩ := nI_of (x := n) (fun q => absurd q3 (Int32.not_le.mpr q))
    rw [en]
    refine hasColumns_w hd hN (fun x hx ex => ⟨fun q => absurd q (by decide), fun _ => ?_⟩) (fun q => ⟨fun _ => hco y v N hy hv hN pa pd ec ef en (ma.trans q1) (md.trans q2) (fun z => q z.1), fun q => absurd rfl q⟩)
    refine hasColumns_w hd hN (fun u hu eu => ⟨fun _ => ?_, fun q => absurd q (by decide)⟩) (fun q => ⟨fun q => absurd rfl q, fun _ => hco y v N hy hv hN pa pd ec ef en (ma.trans q1) (md.trans q2) (fun z => q z.2)⟩)
    have f1 := fit hy hx
    have f2 := fit hv hu
    rw [ex, ec, eu, ef]
    refine placeOf_w hd (placeOf_w hd ⟨nI_pos (by omega), nI_pos (by omega), nI_pos hN, ?_, ?_, fun M142 e142 => ?_⟩)
    · rw [nI_clamp (by omega), nI_clamp hN]; exact f1
    · rw [nI_clamp (by omega), nI_clamp hN]; exact f2
    · rw [nI_clamp (by omega), nI_clamp (by omega), nI_clamp hN] at e142
      refine forgetAll_w (fun Nx k1 k2 => ?_)
      rw [← en]
      refine hok y v N x u hy hv hx hu pa pd ec ef en ex eu (ma.trans q1) (md.trans q2) Nx (fun k kh kc => ?_) ?_ k2
      · rw [cd] at kc
        rw [k1 k kh, e142, up_n _ _ kc]
      · rw [cd, ca, k1 3 (nhot (nxc (by omega))), e142, up_s]
  · have ma : mis M a y = M 7 y := if_neg qa
    have md : mis M d v = M 7 v := if_neg qd
    have ca : cel a = 6 := if_neg qa
    have cd : cel d = 6 := if_neg qd
    refine ⟨iy, fun q1 => hmi y v hy hv pa pd ec ef (fun z => q1 (ma.symm.trans z.1)), fun q1 => ⟨iv, fun q2 => ⟨fun q3 => ?_, fun q3 => hne y v hy hv pa pd ec ef (ma.trans q1) (md.trans q2) q3⟩, fun q2 => hmi y v hy hv pa pd ec ef (fun z => q2 (md.symm.trans z.2))⟩⟩
    obtain ⟨N, hN, en⟩ := nI_of (x := n) (fun q => absurd q3 (Int32.not_le.mpr q))
    rw [en]
    refine hasColumns_w hd hN (fun x hx ex => ⟨fun q => absurd q (by decide), fun _ => ?_⟩) (fun q => ⟨fun _ => hco y v N hy hv hN pa pd ec ef en (ma.trans q1) (md.trans q2) (fun z => q z.1), fun q => absurd rfl q⟩)
    refine hasColumns_w hd hN (fun u hu eu => ⟨fun _ => ?_, fun q => absurd q (by decide)⟩) (fun q => ⟨fun q => absurd rfl q, fun _ => hco y v N hy hv hN pa pd ec ef en (ma.trans q1) (md.trans q2) (fun z => q z.2)⟩)
    have f1 := fit hy hx
    have f2 := fit hv hu
    rw [ex, ec, eu, ef]
    refine placeOf_w hd (placeOf_w hd ⟨nI_pos (by omega), nI_pos (by omega), nI_pos hN, ?_, ?_, fun M142 e142 => ?_⟩)
    · rw [nI_clamp (by omega), nI_clamp hN]; exact f1
    · rw [nI_clamp (by omega), nI_clamp hN]; exact f2
    · rw [nI_clamp (by omega), nI_clamp (by omega), nI_clamp hN] at e142
      refine forgetAll_w (fun Nx k1 k2 => ?_)
      rw [← en]
      refine hok y v N x u hy hv hx hu pa pd ec ef en ex eu (ma.trans q1) (md.trans q2) Nx (fun k kh kc => ?_) ?_ k2
      · rw [cd] at kc
        rw [k1 k kh, e142, up_n _ _ kc]
      · rw [cd, ca, k1 6 (nhot (nxc (by omega))), e142, up_s]
theorem copy_m {M : Mem} {w h : Nat} (hm : DimM M w h) (hg : ∀ k, k < 400 → M 2 k = 0 ∨ M 2 k = 1) {a b c n d e f : Int32} {Q : Int32 → Mem → Prop} (hno : ¬ ((IsPic a ∧ Ix c h) ∧ (IsPic d ∧ Ix f h)) → Q (-1) M) (hmi : ∀ y v : Nat, y < h → v < h → IsPic a → IsPic d → c = nI y → f = nI v → ¬ (misM M a y = 0 ∧ misM M d v = 0) → Q (-2) M) (hne : ∀ y v : Nat, y < h → v < h → IsPic a → IsPic d → c = nI y → f = nI v → misM M a y = 0 → misM M d v = 0 → ¬ 0 ≤ n → Q (-3) M) (hco : ∀ y v N : Nat, y < h → v < h → N < 2 ^ 31 → IsPic a → IsPic d → c = nI y → f = nI v → n = nI N → misM M a y = 0 → misM M d v = 0 → ¬ (CoC w b N ∧ CoC w e N) → Q (-1) M) (hok : ∀ y v N x u : Nat, y < h → v < h → x + N ≤ w → u + N ≤ w → IsPic a → IsPic d → c = nI y → f = nI v → n = nI N → b = nI x → e = nI u → misM M a y = 0 → misM M d v = 0 → ∀ R : Mem, (∀ k, k ≠ 0 → k ≠ 1 → k ≠ 2 → R k = M k) → (∀ k, k ≠ 15 → R 0 k = M 0 k) → R 0 15 = 0 → R 1 = mv (M 1) (pm a (y * w + x)) (pm d (v * w + u)) N → R 2 = mv (M 2) (pm a (y * w + x)) (pm d (v * w + u)) N → Q n R) : wX11_copy M a b c n d e f Q := by
  have hh : h ≤ 10 := hm.2.2.2.1
  have hw : w ≤ 20 := hm.2.1
  have fit : ∀ {y x N : Nat}, y < h → x + N ≤ w → y * w + x + N ≤ 200 := by
    intro y x N hy hx
    have h1 : (y + 1) * w ≤ h * w := Nat.mul_le_mul_right w hy
    rw [Nat.add_mul, Nat.one_mul] at h1
    have h2 : h * w ≤ 10 * 20 := Nat.mul_le_mul hh hw
    omega
  refine isRow_w hm (fun y hy pa ec => ⟨fun q => absurd q (by decide), fun _ => ?_⟩) (fun q => ⟨fun _ => hno (fun z => q z.1), fun q => absurd rfl q⟩)
  refine isRow_w hm (fun v hv pd ef => ⟨fun _ => ?_, fun q => absurd q (by decide)⟩) (fun q => ⟨fun q => absurd rfl q, fun _ => hno (fun z => q z.2)⟩)
  obtain ⟨i, hi, ei, ma, -⟩ := ro_ix pa (show y < 10 by omega) M
  obtain ⟨j, hj, ej, md, -⟩ := ro_ix pd (show v < 10 by omega) M
  rw [ec, ef, ei, ej, nI_clamp (by omega), nI_clamp (by omega), ma, md]
  refine ⟨vp_in_nI hi (by omega), fun q1 => hmi y v hy hv pa pd ec ef (fun z => q1 z.1), fun q1 => ⟨vp_in_nI hj (by omega), fun q2 => ⟨fun q3 => ?_, fun q3 => hne y v hy hv pa pd ec ef q1 q2 q3⟩, fun q2 => hmi y v hy hv pa pd ec ef (fun z => q2 z.2)⟩⟩
  obtain ⟨N, hN, en⟩ := nI_of (x := n) (fun q => absurd q3 (Int32.not_le.mpr q))
  rw [en, hm.2.2.2.2.1]
  refine pk_lt w N (fun q4 => hco y v N hy hv hN pa pd ec ef en q1 q2 (fun z => ?_)) (fun q4 => ?_)
  · obtain ⟨⟨x, hx, -⟩, -⟩ := z
    omega
  · rw [pk_sub q4]
    refine inCol_w hw q4 rfl (fun x hx ex => ⟨fun q => absurd q (by decide), fun _ => ?_⟩) (fun q => ⟨fun _ => hco y v N hy hv hN pa pd ec ef en q1 q2 (fun z => q z.1), fun q => absurd rfl q⟩)
    rw [hm.2.2.2.2.1, pk_sub q4]
    refine inCol_w hw q4 rfl (fun u hu eu => ⟨fun _ => ?_, fun q => absurd q (by decide)⟩) (fun q => ⟨fun q => absurd rfl q, fun _ => hco y v N hy hv hN pa pd ec ef en q1 q2 (fun z => q z.2)⟩)
    have f1 := fit hy hx
    have f2 := fit hv hu
    have pmA : ∀ (c : Int32) (k j : Nat), nI (pm c k) + nI j = nI (pm c (k + j)) := by
      intro c k j
      rw [nI_add]
      congr 1
      unfold pm
      split <;> omega
    refine at_w hm pa (x := 0) (fun z ez => at_w hm pd (x := 0) (fun z2 ez2 => ?_))
    rw [ex, pmA] at ez
    rw [eu, pmA] at ez2
    rw [ez, ez2]
    have b1 : pm a (y * w + 0 + x) + N ≤ 400 := by unfold pm; split <;> omega
    have b2 : pm d (v * w + 0 + u) + N ≤ 400 := by unfold pm; split <;> omega
    refine copyLoop b1 b2 hg (fun R r1 r2 r3 M209 e209 => ?_)
    rw [Nat.add_zero, Nat.add_zero] at r2 r3
    rw [← en]
    refine hok y v N x u hy hv hx hu pa pd ec ef en ex eu q1 q2 M209 (fun k k0 k1 k2 => ?_) (fun k hk => ?_) ?_ ?_ ?_
    · rw [e209, up_n _ _ k0, r1 k k1 k2]
    · rw [e209, up_s, pk_un hk, r1 0 (by decide) (by decide)]
    · rw [e209, up_s, pk_us]
    · rw [e209, up_n _ _ (by decide), r2]
    · rw [e209, up_n _ _ (by decide), r3]
theorem o_copy {Mx Mm : Mem} {w h : Nat} (hB : Base Mx Mm w h) (a b c n d e f : Int32) {J : Mem → Mem → Prop} (hJ : JC J Mx Mm) : wX10_copy Mx a b c n d e f (fun r Nx => wX11_copy Mm a b c n d e f (fun r2 Nm => r = r2 ∧ J Nx Nm)) := by
  have hd := hB.1
  have hm := hB.2.1
  have hP := hB.2.2.1
  have hh : h ≤ 10 := hd.2.2.2.1
  have hw : w ≤ 20 := hd.2.1
  have hg : ∀ k, k < 400 → Mm 2 k = 0 ∨ Mm 2 k = 1 := fun k hk => (hP.1 k hk).1
  have uq : ∀ {y y2 : Nat} {c : Int32}, y < h → y2 < h → c = nI y → c = nI y2 → y2 = y := fun h1 h2 e1 e2 => (nI_eq (by omega) (by omega)).mp (e2.symm.trans e1)
  have me : ∀ (a : Int32) {y : Nat}, y < h → misM Mm a y = mis Mx a y := fun a _ hy => mis_eq hP a (by omega)
  refine copy_x hd (fun q => ?_) (fun y v hy hv pa pd ec ef q => ?_) (fun y v hy hv pa pd ec ef q1 q2 q3 => ?_) (fun y v N hy hv hN pa pd ec ef en q1 q2 q => ?_) (fun y v N x u hy hv hx hu pa pd ec ef en ex eu q1 q2 Nx n1 n2 n3 => ?_)
  · refine copy_m hm hg (fun _ => ⟨rfl, hJ.1⟩) (fun y v hy hv pa pd ec ef _ => absurd ⟨⟨pa, y, hy, ec⟩, ⟨pd, v, hv, ef⟩⟩ q) (fun y v hy hv pa pd ec ef _ _ _ => absurd ⟨⟨pa, y, hy, ec⟩, ⟨pd, v, hv, ef⟩⟩ q) (fun y v N hy hv _ pa pd ec ef _ _ _ _ => absurd ⟨⟨pa, y, hy, ec⟩, ⟨pd, v, hv, ef⟩⟩ q) (fun y v N x u hy hv _ _ pa pd ec ef _ _ _ _ _ => absurd ⟨⟨pa, y, hy, ec⟩, ⟨pd, v, hv, ef⟩⟩ q)
  · have no : ∀ y2 v2 : Nat, y2 < h → v2 < h → c = nI y2 → f = nI v2 → misM Mm a y2 = 0 → misM Mm d v2 = 0 → False := by
      intro y2 v2 hy2 hv2 ec2 ef2 z1 z2
      rw [me a hy2, uq hy hy2 ec ec2] at z1
      rw [me d hv2, uq hv hv2 ef ef2] at z2
      exact q ⟨z1, z2⟩
    refine copy_m hm hg (fun z => absurd ⟨⟨pa, y, hy, ec⟩, ⟨pd, v, hv, ef⟩⟩ z) (fun _ _ _ _ _ _ _ _ _ => ⟨rfl, hJ.1⟩) (fun y2 v2 hy2 hv2 _ _ ec2 ef2 z1 z2 _ => (no y2 v2 hy2 hv2 ec2 ef2 z1 z2).elim) (fun y2 v2 N hy2 hv2 _ _ _ ec2 ef2 _ z1 z2 _ => (no y2 v2 hy2 hv2 ec2 ef2 z1 z2).elim) (fun y2 v2 N x u hy2 hv2 _ _ _ _ ec2 ef2 _ _ _ z1 z2 => (no y2 v2 hy2 hv2 ec2 ef2 z1 z2).elim)
  · refine copy_m hm hg (fun z => absurd ⟨⟨pa, y, hy, ec⟩, ⟨pd, v, hv, ef⟩⟩ z) (fun y2 v2 hy2 hv2 _ _ ec2 ef2 z => ?_) (fun _ _ _ _ _ _ _ _ _ _ _ => ⟨rfl, hJ.1⟩) (fun y2 v2 N hy2 hv2 hN _ _ ec2 ef2 en _ _ _ => absurd (by rw [en]; exact nI_pos' hN) q3) (fun y2 v2 N x u hy2 hv2 hx _ _ _ ec2 ef2 en _ _ _ _ => absurd (by rw [en]; exact nI_pos' (by omega)) q3)
    rw [me a hy2, uq hy hy2 ec ec2, me d hv2, uq hv hv2 ef ef2] at z
    exact absurd ⟨q1, q2⟩ z
  · refine copy_m hm hg (fun z => absurd ⟨⟨pa, y, hy, ec⟩, ⟨pd, v, hv, ef⟩⟩ z) (fun y2 v2 hy2 hv2 _ _ ec2 ef2 z => ?_) (fun y2 v2 hy2 hv2 _ _ _ _ _ _ z => absurd (by rw [en]; exact nI_pos' hN) z) (fun _ _ _ _ _ _ _ _ _ _ _ _ _ _ => ⟨rfl, hJ.1⟩) (fun y2 v2 N2 x u hy2 hv2 hx hu _ _ ec2 ef2 en2 ex eu _ _ => ?_)
    · rw [me a hy2, uq hy hy2 ec ec2, me d hv2, uq hv hv2 ef ef2] at z
      exact absurd ⟨q1, q2⟩ z
    · have e1 : N2 = N := (nI_eq (by omega) hN).mp (en2.symm.trans en)
      rw [e1] at hx hu
      exact absurd ⟨⟨x, hx, ex⟩, ⟨u, hu, eu⟩⟩ q
  · refine copy_m hm hg (fun z => absurd ⟨⟨pa, y, hy, ec⟩, ⟨pd, v, hv, ef⟩⟩ z) (fun y2 v2 hy2 hv2 _ _ ec2 ef2 z => ?_) (fun y2 v2 hy2 hv2 _ _ _ _ _ _ z => absurd (by rw [en]; exact nI_pos' (by omega)) z) (fun y2 v2 N2 _ _ hN2 _ _ _ _ en2 _ _ z => ?_) (fun y2 v2 N2 x2 u2 hy2 hv2 hx2 hu2 _ _ ec2 ef2 en2 ex2 eu2 _ _ R r1 r2 r3 r4 r5 => ⟨rfl, ?_⟩)
    · rw [me a hy2, uq hy hy2 ec ec2, me d hv2, uq hv hv2 ef ef2] at z
      exact absurd ⟨q1, q2⟩ z
    · have e1 : N2 = N := (nI_eq hN2 (by omega)).mp (en2.symm.trans en)
      rw [e1] at z
      exact absurd ⟨⟨x, hx, ex⟩, ⟨u, hu, eu⟩⟩ z
    · have e1 : N2 = N := (nI_eq (by omega) (by omega)).mp (en2.symm.trans en)
      have e2 : x2 = x := (nI_eq (by omega) (by omega)).mp (ex2.symm.trans ex)
      have e3 : u2 = u := (nI_eq (by omega) (by omega)).mp (eu2.symm.trans eu)
      have e4 := uq hy hy2 ec ec2
      have e5 := uq hv hv2 ef ef2
      subst e1 e2 e3 e4 e5
      have c36 : cel d = 3 ∨ cel d = 6 := by unfold cel; split <;> simp
      have fit : ∀ {y x : Nat}, y < h → x + N2 ≤ w → y * w + x + N2 ≤ 200 := by
        intro y x hy hx
        have h1 : (y + 1) * w ≤ h * w := Nat.mul_le_mul_right w hy
        rw [Nat.add_mul, Nat.one_mul] at h1
        have h2 : h * w ≤ 10 * 20 := Nat.mul_le_mul hh hw
        omega
      refine hJ.2.2 Nx R w h (hB.pic (fun c c3 c4 c6 c7 c8 cx => n1 c (nhot cx) (by omega)) (fun k k15 _ _ => r2 k k15) (fun c c5 c10 => r1 c (by omega) (by omega) (by omega)) ?_) n3 r3
      exact pic_copy hP (fit hy hx) (fit hv hu) (n1 4 (nhot (nxc (by omega))) (by omega)) (n1 7 (nhot (nxc (by omega))) (by omega)) (n1 8 (nhot (nxc (by omega))) (by omega)) n2 (fun c hc hn => n1 c (nhot (nxc (by omega))) hn) r4 r5 (r1 3 (by decide) (by decide) (by decide)) (r1 4 (by decide) (by decide) (by decide))
