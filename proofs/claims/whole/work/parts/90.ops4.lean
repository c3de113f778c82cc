set_option maxHeartbeats 1000000 in
theorem o_row {Mx Mm : Mem} {w h : Nat} (hB : Base Mx Mm w h) (a b v : Int32) (hv : v = 0 ∨ v = 1) {J : Mem → Mem → Prop} (hJ : JC J Mx Mm) : wX10_row Mx a b v (fun r Nx => wX11_row Mm a b v (fun r2 Nm => r = r2 ∧ J Nx Nm)) := by
  have hd := hB.1
  have hm := hB.2.1
  have hP := hB.2.2.1
  have hh := hd.2.2.2.1
  rcases row_both hd hm a b with ⟨gx, gm⟩ | ⟨y, hy, hp, rfl, gx, gm⟩
  · exact gx _ ⟨fun q => absurd rfl q, fun _ => gm _ ⟨fun q => absurd rfl q, fun _ => ⟨rfl, hJ.1⟩⟩⟩
  · obtain ⟨i, hi, ei, em, ii⟩ := ro_ix hp (show y < 10 by omega) Mm
    have emx : Mm 3 i = mis Mx a y := by rw [em]; exact mis_eq hP a (by omega)
    have mod : ∀ (r : Int32) (Nx : Mem), (mis Mx a y = v → r = 0) → (¬ mis Mx a y = v → r = 1) → (∀ Nm : Mem, Nm 3 = upd (Mm 3) i v → (∀ c, c ≠ 0 → c ≠ 3 → Nm c = Mm c) → (∀ k, k ≠ 15 → Nm 0 k = Mm 0 k) → Nm 0 15 = 0 → J Nx Nm) → wX11_row Mm a (nI y) v (fun r2 Nm => r = r2 ∧ J Nx Nm) := by
      intro r Nx r1 r2 hN
      refine gm _ ⟨fun _ => ?_, fun q => absurd q (by decide)⟩
      rw [ei]
      refine ⟨vp_in_nI hi (by omega), fun z ez => ⟨vp_in_nI hi (by omega), hv, fun M35 e35 M38 e38 => ?_⟩⟩
      rw [nI_clamp (by omega)] at ez e35
      rw [emx] at ez
      have jj : J Nx M38 := by
        subst e38 e35
        refine hN _ ?_ (fun c c0 c3 => ?_) (fun k hk => ?_) ?_
        · rw [up_n _ _ (by decide), up_s]
        · rw [up_n _ _ c0, up_n _ _ c3]
        · rw [up_s, pk_un hk, up_n _ _ (by decide)]
        · rw [up_s, pk_us]
      exact ⟨fun q => ⟨r2 (ez ▸ q), jj⟩, fun q => ⟨r1 (ez ▸ q), jj⟩⟩
    have same : mis Mx a y = v → ∀ Nm : Mem, Nm 3 = upd (Mm 3) i v → (∀ c, c ≠ 0 → c ≠ 3 → Nm c = Mm c) → (∀ k, k ≠ 15 → Nm 0 k = Mm 0 k) → Nm 0 15 = 0 → J Mx Nm := by
      intro q Nm n3 n1 n4 n5
      refine hJ.2.1 Nm ⟨fun k k1 _ _ => n4 k k1, fun c c1 c2 => ?_⟩ n5
      by_cases c3 : c = 3
      · rw [c3, n3]
        funext j
        by_cases ej : j = i
        · rw [ej, pk_us, emx, q]
        · rw [pk_un ej]
      · exact n1 c (by omega) c3
    refine gx _ ⟨fun _ => ?_, fun q => absurd q (by decide)⟩
    have ec : (nI y).toNatClampNeg = y := nI_clamp (by omega)
    rw [ec]
    refine ⟨fun qa => ⟨vp_in_nI (by omega) (by omega), fun q => ⟨vp_in_nI (by omega) (by omega), hv, fun M44 e44 => ?_⟩, fun q => ?_⟩, fun qa => ⟨vp_in_nI (by omega) (by omega), fun q => ⟨vp_in_nI (by omega) (by omega), hv, fun M44 e44 => ?_⟩, fun q => ?_⟩⟩
    · have e1 : mis Mx a y = Mx 4 y := if_pos qa
      refine forgetAll_w (fun Nx k1 k2 => mod 1 Nx (fun z => absurd (e1 ▸ z) q) (fun _ => rfl) (fun Nm n3 n1 n4 n5 => ?_))
      refine hJ.2.2 Nx Nm w h (hB.pic (fun c _ c4 _ _ _ cx => by rw [k1 c (nhot cx), e44, up_n _ _ c4]) (fun k k1 _ _ => n4 k k1) (fun c c1 _ => n1 c (by omega) (by omega)) ?_) k2 n5
      rw [if_pos qa] at ii
      unfold PicS
      rw [n3, n1 1 (by decide) (by decide), n1 2 (by decide) (by decide), n1 4 (by decide) (by decide), ii, k1 3 (nhot (nxc (by omega))), k1 4 (nhot (nxc (by omega))), k1 6 (nhot (nxc (by omega))), k1 7 (nhot (nxc (by omega))), k1 8 (nhot (nxc (by omega))), e44, up_s, up_n _ _ (by decide), up_n _ _ (by decide), up_n _ _ (by decide), up_n _ _ (by decide)]
      exact pic_ro0 hP (by omega) hv
    · have e1 : mis Mx a y = Mx 4 y := if_pos qa
      exact mod 0 Mx (fun _ => rfl) (fun z => absurd (e1.trans q) z) (same (e1.trans q))
    · have e1 : mis Mx a y = Mx 7 y := if_neg qa
      refine forgetAll_w (fun Nx k1 k2 => mod 1 Nx (fun z => absurd (e1 ▸ z) q) (fun _ => rfl) (fun Nm n3 n1 n4 n5 => ?_))
      refine hJ.2.2 Nx Nm w h (hB.pic (fun c _ _ _ c7 _ cx => by rw [k1 c (nhot cx), e44, up_n _ _ c7]) (fun k k1 _ _ => n4 k k1) (fun c c1 _ => n1 c (by omega) (by omega)) ?_) k2 n5
      rw [if_neg qa] at ii
      unfold PicS
      rw [n3, n1 1 (by decide) (by decide), n1 2 (by decide) (by decide), n1 4 (by decide) (by decide), ii, k1 3 (nhot (nxc (by omega))), k1 4 (nhot (nxc (by omega))), k1 6 (nhot (nxc (by omega))), k1 7 (nhot (nxc (by omega))), k1 8 (nhot (nxc (by omega))), e44, up_s, up_n _ _ (by decide), up_n _ _ (by decide), up_n _ _ (by decide), up_n _ _ (by decide)]
      exact pic_ro1 hP (by omega) hv
    · have e1 : mis Mx a y = Mx 7 y := if_neg qa
      exact mod 0 Mx (fun _ => rfl) (fun z => absurd (e1.trans q) z) (same (e1.trans q))
/-! rules -/
def rmost (i : Nat) : Nat := if i = 0 then 8 else if i < 3 then 20 else if i = 3 then 40 else 255
theorem tabR_eq {i : Nat} (h : i < 5) : tabR i = nI (rmost i) := by
  rcases (show i = 0 ∨ i = 1 ∨ i = 2 ∨ i = 3 ∨ i = 4 by omega) with rfl | rfl | rfl | rfl | rfl <;> rfl
theorem rmost_le {i : Nat} : rmost i ≤ 255 := by
  unfold rmost
  split
  · omega
  · split
    · omega
    · split <;> omega
theorem rul_set {Mx Mm Nx Nm : Mem} (hR : Rul Mx Mm) {i v : Nat} (hi : i < 5) (hv : v ≤ rmost i) (ex : Nx 17 = upd (Mx 17) i (nI v)) (em : Nm 5 = upd (Mm 5) i (nI v)) : Rul Nx Nm := by
  obtain ⟨h1, D, H, P, Q, T, d1, d2, d3, d4, d5, e1, e2, e3, e4, e5⟩ := hR
  refine ⟨fun j hj => ?_, ?_⟩
  · rw [ex, em]
    by_cases q : j = i
    · rw [q, pk_us, pk_us]
    · rw [pk_un q, pk_un q]; exact h1 j hj
  · rw [ex]
    rcases (show i = 0 ∨ i = 1 ∨ i = 2 ∨ i = 3 ∨ i = 4 by omega) with rfl | rfl | rfl | rfl | rfl
    · exact ⟨v, H, P, Q, T, hv, d2, d3, d4, d5, pk_us, (pk_un (by decide)).trans e2, (pk_un (by decide)).trans e3, (pk_un (by decide)).trans e4, (pk_un (by decide)).trans e5⟩
    · exact ⟨D, v, P, Q, T, d1, hv, d3, d4, d5, (pk_un (by decide)).trans e1, pk_us, (pk_un (by decide)).trans e3, (pk_un (by decide)).trans e4, (pk_un (by decide)).trans e5⟩
    · exact ⟨D, H, v, Q, T, d1, d2, hv, d4, d5, (pk_un (by decide)).trans e1, (pk_un (by decide)).trans e2, pk_us, (pk_un (by decide)).trans e4, (pk_un (by decide)).trans e5⟩
    · exact ⟨D, H, P, v, T, d1, d2, d3, hv, d5, (pk_un (by decide)).trans e1, (pk_un (by decide)).trans e2, (pk_un (by decide)).trans e3, pk_us, (pk_un (by decide)).trans e5⟩
    · exact ⟨D, H, P, Q, v, d1, d2, d3, d4, hv, (pk_un (by decide)).trans e1, (pk_un (by decide)).trans e2, (pk_un (by decide)).trans e3, (pk_un (by decide)).trans e4, pk_us⟩
theorem ruleJ_w {M : Mem} {i m : Nat} {b : Int32} {Q : Int32 → Mem → Prop} (hi : i < 5) (hm : m ≤ 255) (h1 : ∀ v : Nat, v ≤ m → b = nI v → ∀ N : Mem, N 5 = upd (M 5) i (nI v) → (∀ c, c ≠ 0 → c ≠ 5 → N c = M c) → (∀ k, k ≠ 15 → N 0 k = M 0 k) → N 0 15 = 0 → Q (M 5 i) N) (h0 : ¬ (∃ v : Nat, v ≤ m ∧ b = nI v) → Q (-1) M) : wX11_rule_J43 Q (nI i) b (nI m) M := by
  refine in_ix (n := m + 1) (by omega) (by omega) rfl (fun v hv ev => ⟨fun _ => ⟨vp_in_nI hi (by omega), fun z ez => ⟨vp_in_nI hi (by omega), fun M69 e69 M72 e72 => ?_⟩⟩, fun q => absurd q (by decide)⟩) (fun q => ⟨fun q => absurd rfl q, fun _ => h0 (fun z => q ?_)⟩)
  · rw [nI_clamp (by omega)] at ez e69
    rw [ez]
    rw [ev] at e69
    subst e72 e69
    refine h1 v (by omega) ev _ ?_ (fun c c0 c5 => ?_) (fun k hk => ?_) ?_
    · rw [up_n _ _ (by decide), up_s]
    · rw [up_n _ _ c0, up_n _ _ c5]
    · rw [up_s, pk_un hk, up_n _ _ (by decide)]
    · rw [up_s, pk_us]
  · obtain ⟨v, hv, ev⟩ := z
    exact ⟨v, by omega, ev⟩
theorem rule_m {M : Mem} {a b : Int32} {Q : Int32 → Mem → Prop} (h1 : ∀ i v : Nat, i < 5 → v ≤ rmost i → a = nI i → b = nI v → ∀ N : Mem, N 5 = upd (M 5) i (nI v) → (∀ c, c ≠ 0 → c ≠ 5 → N c = M c) → (∀ k, k ≠ 15 → N 0 k = M 0 k) → N 0 15 = 0 → Q (M 5 i) N) (h0 : ¬ (∃ i v : Nat, i < 5 ∧ v ≤ rmost i ∧ a = nI i ∧ b = nI v) → Q (-1) M) : wX11_rule M a b Q := by
  refine in_ix (n := 5) (by omega) (by omega) rfl (fun i hi ei => ⟨fun _ => ?_, fun q => absurd q (by decide)⟩) (fun q => ⟨fun q => absurd rfl q, fun _ => h0 (fun z => q ?_)⟩)
  · rw [ei]
    have key : ∀ m, m = rmost i → wX11_rule_J43 Q (nI i) b (nI m) M := by
      rintro m rfl
      exact ruleJ_w hi rmost_le (fun v hv ev => h1 i v hi hv ei ev) (fun q => h0 (fun z => q (by
        obtain ⟨i2, v, hi2, hv, e2, ev⟩ := z
        have : i2 = i := (nI_eq (by omega) (by omega)).mp (e2.symm.trans ei)
        rw [this] at hv
        exact ⟨v, hv, ev⟩)))
    refine ⟨fun q0 => ?_, fun q0 => ?_⟩
    · have i0 : i ≠ 0 := fun z => q0 (by rw [z]; rfl)
      refine pk_le 3 i (fun q3 => ⟨fun q4 => ?_, fun q4 => ?_⟩) (fun q3 => ?_)
      · have i3 : i ≠ 3 := fun z => q4 (by rw [z]; rfl)
        exact key 255 (by unfold rmost; rw [if_neg i0, if_neg (by omega), if_neg i3])
      · have i3 : i = 3 := (nI_eq (by omega) (by omega)).mp q4
        exact key 40 (by rw [i3]; rfl)
      · exact key 20 (by unfold rmost; rw [if_neg i0, if_pos q3])
    · have i0 : i = 0 := (nI_eq (by omega) (by omega)).mp q0
      exact key 8 (by rw [i0]; rfl)
  · obtain ⟨i, v, hi, _, e, _⟩ := z
    exact ⟨i, hi, e⟩
theorem o_rule {Mx Mm : Mem} {w h : Nat} (hB : Base Mx Mm w h) (a b : Int32) {J : Mem → Mem → Prop} (hJ : JC J Mx Mm) : wX10_rule Mx a b (fun r Nx => wX11_rule Mm a b (fun r2 Nm => r = r2 ∧ J Nx Nm)) := by
  have hR := hB.2.2.2.1
  by_cases ok : ∃ i v : Nat, i < 5 ∧ v ≤ rmost i ∧ a = nI i ∧ b = nI v
  · obtain ⟨i, v, hi, hv, rfl, rfl⟩ := ok
    have hr := rmost_le (i := i)
    unfold wX10_rule
    rw [nI_clamp (show i < 2 ^ 31 by omega), tabR_eq hi]
    refine pk_lt i 0 (fun q => absurd q (by omega)) (fun _ => pk_le 5 i (fun q => absurd q (by omega)) (fun _ => pk_lt v 0 (fun q => absurd q (by omega)) (fun _ => ⟨vp_in_nI hi (by omega), pk_le v (rmost i) (fun _ => ⟨vp_in_nI hi (by omega), fun z ez => ⟨vp_in_nI hi (by omega), fun M37 e37 => ?_⟩⟩) (fun q => absurd q (by omega))⟩)))
    refine forgetAll_w (fun Nx k1 k2 => rule_m (fun i2 v2 hi2 hv2 ei2 ev2 Nm n5 n1 n4 n15 => ⟨?_, ?_⟩) (fun q => absurd ⟨i, v, hi, hv, rfl, rfl⟩ q))
    · have : i = i2 := (nI_eq (by omega) (by omega)).mp ei2
      rw [ez, ← this, hR.1 i hi]
    · have e1 : i2 = i := ((nI_eq (by omega) (by omega)).mp ei2).symm
      have hr2 := rmost_le (i := i2)
      have e2 : v2 = v := ((nI_eq (by omega) (by omega)).mp ev2).symm
      rw [e1, e2] at n5
      have ex : ∀ c, ¬ xc c → c ≠ 17 → Nx c = Mx c := fun c cx c17 => by rw [k1 c (nhot cx), e37, up_n _ _ c17]
      have hR2 : Rul Nx Nm := rul_set hR hi hv (by rw [k1 17 (nhot (nxc (by omega))), e37, up_s]) n5
      obtain ⟨b1, b2, b3, -, b5, b6⟩ := hB
      refine hJ.2.2 Nx Nm w h ⟨?_, ?_, ?_, hR2, ?_, ?_⟩ k2 n15
      · unfold Dim; rw [ex 1 (nxc (by omega)) (by decide)]; exact b1
      · unfold DimM; rw [n4 0 (by decide), n4 1 (by decide)]; exact b2
      · unfold PicS; rw [ex 3 (nxc (by omega)) (by decide), ex 4 (nxc (by omega)) (by decide), ex 6 (nxc (by omega)) (by decide), ex 7 (nxc (by omega)) (by decide), ex 8 (nxc (by omega)) (by decide), n1 1 (by decide) (by decide), n1 2 (by decide) (by decide), n1 3 (by decide) (by decide), n1 4 (by decide) (by decide)]; exact b3
      · unfold Oln; rw [ex 46 (nxc (by omega)) (by decide), n1 6 (by decide) (by decide)]; exact b5
      · unfold Kep; rw [ex 0 (nxc (by omega)) (by decide), ex 9 (nxc (by omega)) (by decide), ex 11 (nxc (by omega)) (by decide), ex 12 (nxc (by omega)) (by decide), ex 14 (nxc (by omega)) (by decide), ex 15 (nxc (by omega)) (by decide), ex 16 (nxc (by omega)) (by decide), n1 7 (by decide) (by decide), n1 8 (by decide) (by decide), n1 9 (by decide) (by decide), n1 10 (by decide) (by decide), n4 8 (by decide), n4 9 (by decide), n4 10 (by decide)]; exact b6
  · have hM : wX11_rule Mm a b (fun r2 Nm => -1 = r2 ∧ J Mx Nm) := rule_m (fun i v hi hv ei ev => absurd ⟨i, v, hi, hv, ei, ev⟩ ok) (fun _ => ⟨rfl, hJ.1⟩)
    refine ⟨fun _ => hM, fun q1 => ⟨fun _ => hM, fun q2 => ⟨fun _ => hM, fun q3 => ?_⟩⟩⟩
    obtain ⟨i, hi, ei⟩ := (lt_nI (x := a) (n := 5) (by omega)).mpr ⟨q1, q2⟩
    have hr := rmost_le (i := i)
    rw [ei, nI_clamp (by omega), tabR_eq hi]
    refine ⟨vp_in_nI hi (by omega), fun q4 => ?_, fun _ => by rw [← ei]; exact hM⟩
    obtain ⟨v, hv, ev⟩ := (lt_nI (x := b) (n := rmost i + 1) (by omega)).mpr ⟨q3, fun q => by
      rw [Int32.le_iff_toInt_le, nI_toInt (by omega)] at q
      rw [Int32.le_iff_toInt_le, nI_toInt (by omega)] at q4
      omega⟩
    exact absurd ⟨i, v, hi, by omega, ei, ev⟩ ok
