/-! keep, back -/
theorem pic_cong {s1 m1 s2 m2 t sh go ro tr s1' m1' s2' m2' t' sh' go' ro' tr' : Nat → Int32} (hP : Pic s1 m1 s2 m2 t sh go ro tr) (e1 : ∀ k, k < 200 → s1' k = s1 k) (e2 : ∀ k, k < 10 → m1' k = m1 k) (e3 : ∀ k, k < 200 → s2' k = s2 k) (e4 : ∀ k, k < 10 → m2' k = m2 k) (e5 : ∀ k, k < 200 → t' k = t k) (e6 : ∀ k, k < 400 → sh' k = sh k ∧ go' k = go k) (e7 : ∀ k, k < 20 → ro' k = ro k) (e8 : ∀ k, k < 200 → tr' k = tr k) : Pic s1' m1' s2' m2' t' sh' go' ro' tr' := by
  obtain ⟨h1, h2, h3, h4, h5, h6⟩ := hP
  refine ⟨fun k hk => ?_, fun k hk => ?_, fun k hk => ?_, fun y hy => ?_, fun y hy => ?_, fun k hk => ?_⟩
  · rw [(e6 k hk).1, (e6 k hk).2]; exact h1 k hk
  · rw [e1 k hk, (e6 k (by omega)).1, (e6 k (by omega)).2]; exact h2 k hk
  · rw [e3 k hk, (e6 (200 + k) (by omega)).1, (e6 (200 + k) (by omega)).2]; exact h3 k hk
  · rw [e2 y hy, e7 y (by omega)]; exact h4 y hy
  · rw [e4 y hy, e7 (10 + y) (by omega)]; exact h5 y hy
  · rw [e5 k hk, e8 k hk]; exact h6 k hk
theorem cpy_all {f g : Nat → Int32} {n : Nat} (hn : n < 2 ^ 31) {k : Nat} (hk : k < n) : va_cpy f g ((0 : Int32)).toNatClampNeg ((0 : Int32)).toNatClampNeg (nI n).toNatClampNeg k = f k := by
  have z : ((0 : Int32)).toNatClampNeg = 0 := rfl
  rw [z, nI_clamp hn, pk_cpy_in (by omega) (by omega)]
  simp
theorem cpy_ok {n : Nat} (hn : n < 2 ^ 31) : ((0 : Int32)).toNatClampNeg + (nI n).toNatClampNeg ≤ n := by
  have z : ((0 : Int32)).toNatClampNeg = 0 := rfl
  rw [z, nI_clamp hn]
  omega
theorem become_102 {M : Mem} {Q : Mem → Prop} (hz : ∀ y, y < 10 → M 4 y = 0 ∨ M 4 y = 1) (h : ∀ N : Mem, (∀ c, c ≠ 11 → c ≠ 12 → N c = M c) → (∀ k, k < 200 → N 11 k = M 3 k) → (∀ y, y < 10 → N 12 y = M 4 y) → Q N) : wX4_become_10_2 M Q := by
  refine ⟨by decide, by decide, by decide, cpy_ok (n := 200) (by decide), cpy_ok (n := 200) (by decide), fun M13 e13 => ⟨by decide, by decide, by decide, cpy_ok (n := 10) (by decide), cpy_ok (n := 10) (by decide), fun j hj => ?_, fun M28 e28 => ?_⟩⟩
  · rw [e13, up_n _ _ (by decide)]
    exact hz j (Nat.lt_of_lt_of_le hj (cpy_ok (n := 10) (by decide)))
  · refine h M28 (fun c c1 c2 => by rw [e28, up_n _ _ c2, e13, up_n _ _ c1]) (fun k hk => ?_) (fun y hy => ?_)
    · rw [e28, up_n _ _ (by decide), e13, up_s]
      exact cpy_all (n := 200) (by decide) hk
    · rw [e28, up_s]
      refine (cpy_all (n := 10) (by decide) hy).trans ?_
      rw [e13, up_n _ _ (by decide)]
theorem become_135 {M : Mem} {Q : Mem → Prop} (hz : ∀ y, y < 10 → M 7 y = 0 ∨ M 7 y = 1) (h : ∀ N : Mem, (∀ c, c ≠ 14 → c ≠ 15 → N c = M c) → (∀ k, k < 200 → N 14 k = M 6 k) → (∀ y, y < 10 → N 15 y = M 7 y) → Q N) : wX4_become_13_5 M Q := by
  refine ⟨by decide, by decide, by decide, cpy_ok (n := 200) (by decide), cpy_ok (n := 200) (by decide), fun M13 e13 => ⟨by decide, by decide, by decide, cpy_ok (n := 10) (by decide), cpy_ok (n := 10) (by decide), fun j hj => ?_, fun M28 e28 => ?_⟩⟩
  · rw [e13, up_n _ _ (by decide)]
    exact hz j (Nat.lt_of_lt_of_le hj (cpy_ok (n := 10) (by decide)))
  · refine h M28 (fun c c1 c2 => by rw [e28, up_n _ _ c2, e13, up_n _ _ c1]) (fun k hk => ?_) (fun y hy => ?_)
    · rw [e28, up_n _ _ (by decide), e13, up_s]
      exact cpy_all (n := 200) (by decide) hk
    · rw [e28, up_s]
      refine (cpy_all (n := 10) (by decide) hy).trans ?_
      rw [e13, up_n _ _ (by decide)]
theorem become_210 {M : Mem} {Q : Mem → Prop} (hz : ∀ y, y < 10 → M 12 y = 0 ∨ M 12 y = 1) (h : ∀ N : Mem, (∀ c, c ≠ 3 → c ≠ 4 → N c = M c) → (∀ k, k < 200 → N 3 k = M 11 k) → (∀ y, y < 10 → N 4 y = M 12 y) → Q N) : wX4_become_2_10 M Q := by
  refine ⟨by decide, by decide, by decide, cpy_ok (n := 200) (by decide), cpy_ok (n := 200) (by decide), fun M13 e13 => ⟨by decide, by decide, by decide, cpy_ok (n := 10) (by decide), cpy_ok (n := 10) (by decide), fun j hj => ?_, fun M28 e28 => ?_⟩⟩
  · rw [e13, up_n _ _ (by decide)]
    exact hz j (Nat.lt_of_lt_of_le hj (cpy_ok (n := 10) (by decide)))
  · refine h M28 (fun c c1 c2 => by rw [e28, up_n _ _ c2, e13, up_n _ _ c1]) (fun k hk => ?_) (fun y hy => ?_)
    · rw [e28, up_n _ _ (by decide), e13, up_s]
      exact cpy_all (n := 200) (by decide) hk
    · rw [e28, up_s]
      refine (cpy_all (n := 10) (by decide) hy).trans ?_
      rw [e13, up_n _ _ (by decide)]
theorem become_513 {M : Mem} {Q : Mem → Prop} (hz : ∀ y, y < 10 → M 15 y = 0 ∨ M 15 y = 1) (h : ∀ N : Mem, (∀ c, c ≠ 6 → c ≠ 7 → N c = M c) → (∀ k, k < 200 → N 6 k = M 14 k) → (∀ y, y < 10 → N 7 y = M 15 y) → Q N) : wX4_become_5_13 M Q := by
  refine ⟨by decide, by decide, by decide, cpy_ok (n := 200) (by decide), cpy_ok (n := 200) (by decide), fun M13 e13 => ⟨by decide, by decide, by decide, cpy_ok (n := 10) (by decide), cpy_ok (n := 10) (by decide), fun j hj => ?_, fun M28 e28 => ?_⟩⟩
  · rw [e13, up_n _ _ (by decide)]
    exact hz j (Nat.lt_of_lt_of_le hj (cpy_ok (n := 10) (by decide)))
  · refine h M28 (fun c c1 c2 => by rw [e28, up_n _ _ c2, e13, up_n _ _ c1]) (fun k hk => ?_) (fun y hy => ?_)
    · rw [e28, up_n _ _ (by decide), e13, up_s]
      exact cpy_all (n := 200) (by decide) hk
    · rw [e28, up_s]
      refine (cpy_all (n := 10) (by decide) hy).trans ?_
      rw [e13, up_n _ _ (by decide)]
theorem o_keep {Mx Mm : Mem} {w h : Nat} (hB : Base Mx Mm w h) {J : Mem → Mem → Prop} (hJ : ∀ Nx Nm : Mem, (∀ c, c ≠ 0 → c ≠ 9 → c ≠ 11 → c ≠ 12 → c ≠ 14 → c ≠ 15 → c ≠ 16 → Nx c = Mx c) → (∀ c, c ≠ 0 → c ≠ 7 → c ≠ 8 → c ≠ 9 → c ≠ 10 → Nm c = Mm c) → (∀ k, k ≠ 8 → k ≠ 9 → k ≠ 10 → Nm 0 k = Mm 0 k) → Base Nx Nm w h → J Nx Nm) : wX10_keep Mx (fun r Nx => wX11_keep Mm (fun r2 Nm => r = r2 ∧ J Nx Nm)) := by
  obtain ⟨hd, hm, hP, hR, hO, hKp⟩ := id hB
  intro M5 e5 M13 e13
  refine become_102 (fun y hy => ?_) (fun M24 f1 f2 f3 => become_135 (fun y hy => ?_) (fun M35 g1 g2 g3 => ⟨by decide, by decide, by decide, cpy_ok (n := 200) (by decide), cpy_ok (n := 200) (by decide), fun M51 e51 Nx eN => ?_⟩))
  · rw [e13, up_n _ _ (by decide), e5, up_n _ _ (by decide)]
    exact (hP.2.2.2.1 y hy).1
  · rw [f1 7 (by decide) (by decide), e13, up_n _ _ (by decide), e5, up_n _ _ (by decide)]
    exact (hP.2.2.2.2.1 y hy).1
  have ex : ∀ c, c ≠ 0 → c ≠ 9 → c ≠ 11 → c ≠ 12 → c ≠ 14 → c ≠ 15 → c ≠ 16 → Nx c = Mx c := by
    intro c c0 c9 c11 c12 c14 c15 c16
    rw [eN, up_n _ _ c0, e51, up_n _ _ c16, g1 c c14 c15, f1 c c11 c12, e13, up_n _ _ c9, e5, up_n _ _ c9]
  have x9 : Nx 9 0 = Mx 1 0 ∧ Nx 9 1 = Mx 1 1 := by
    have e9 : Nx 9 = M13 9 := by rw [eN, up_n _ _ (by decide), e51, up_n _ _ (by decide), g1 9 (by decide) (by decide), f1 9 (by decide) (by decide)]
    rw [e9, e13, up_s, pk_un (by decide), pk_us, e5, up_s, pk_us, up_n _ _ (by decide)]
    exact ⟨rfl, rfl⟩
  have x11 : ∀ k, k < 200 → Nx 11 k = Mx 3 k := by
    intro k hk
    rw [eN, up_n _ _ (by decide), e51, up_n _ _ (by decide), g1 11 (by decide) (by decide), f2 k hk, e13, up_n _ _ (by decide), e5, up_n _ _ (by decide)]
  have x12 : ∀ k, k < 10 → Nx 12 k = Mx 4 k := by
    intro k hk
    rw [eN, up_n _ _ (by decide), e51, up_n _ _ (by decide), g1 12 (by decide) (by decide), f3 k hk, e13, up_n _ _ (by decide), e5, up_n _ _ (by decide)]
  have x14 : ∀ k, k < 200 → Nx 14 k = Mx 6 k := by
    intro k hk
    rw [eN, up_n _ _ (by decide), e51, up_n _ _ (by decide), g2 k hk, f1 6 (by decide) (by decide), e13, up_n _ _ (by decide), e5, up_n _ _ (by decide)]
  have x15 : ∀ k, k < 10 → Nx 15 k = Mx 7 k := by
    intro k hk
    rw [eN, up_n _ _ (by decide), e51, up_n _ _ (by decide), g3 k hk, f1 7 (by decide) (by decide), e13, up_n _ _ (by decide), e5, up_n _ _ (by decide)]
  have x16 : ∀ k, k < 200 → Nx 16 k = Mx 8 k := by
    intro k hk
    rw [eN, up_n _ _ (by decide), e51, up_s]
    refine (cpy_all (n := 200) (by decide) hk).trans ?_
    rw [g1 8 (by decide) (by decide), f1 8 (by decide) (by decide), e13, up_n _ _ (by decide), e5, up_n _ _ (by decide)]
  have x0 : Nx 0 2 = 1 := by rw [eN, up_s, pk_us]
  clear f1 f2 f3 g1 g2 g3 e51 eN e13 e5
  intro M2 e2 M10 e10 M18 e18
  have z : ∀ k, M18 0 k = if k = 10 then Mm 0 1 else if k = 9 then Mm 0 0 else if k = 8 then 1 else Mm 0 k := by
    intro k
    rw [e18, up_s, upd, e10, up_s, upd, upd, e2, up_s, upd, upd, upd]
    rfl
  refine forN (fun n x M => wX11_keep_L23 _ _ n x M) (fun i N => (∀ c, c ≠ 7 → c ≠ 8 → N c = M18 c) ∧ ∀ k, k < i → N 7 k = Mm 1 k ∧ N 8 k = Mm 2 k) 400 ?_ ?_ 0 M18 (by omega) ⟨fun _ _ _ => rfl, fun y hy => absurd hy (Nat.not_lt_zero y)⟩
  · intro n N hI
    obtain ⟨h1, h2⟩ := hI
    rw [wX11_keep_L23_s]
    refine pk_le 400 400 (fun _ => ?_) (fun q => absurd q (by omega))
    refine forN (fun n x M => wX11_keep_L62 _ _ n x M) (fun i N2 => (∀ c, c ≠ 9 → N2 c = N c) ∧ ∀ k, k < i → N2 9 k = Mm 3 k) 20 ?_ ?_ 0 N (by omega) ⟨fun _ _ => rfl, fun y hy => absurd hy (Nat.not_lt_zero y)⟩
    · intro n N2 hI
      obtain ⟨h3, h4⟩ := hI
      rw [wX11_keep_L62_s]
      refine pk_le 20 20 (fun _ => ?_) (fun q => absurd q (by omega))
      refine forN (fun n x M => wX11_keep_L88 _ _ n x M) (fun i N3 => (∀ c, c ≠ 10 → N3 c = N2 c) ∧ ∀ k, k < i → N3 10 k = Mm 4 k) 200 ?_ ?_ 0 N2 (by omega) ⟨fun _ _ => rfl, fun y hy => absurd hy (Nat.not_lt_zero y)⟩
      · intro n Nm hI
        obtain ⟨h5, h6⟩ := hI
        rw [wX11_keep_L88_s]
        refine pk_le 200 200 (fun _ => ⟨rfl, ?_⟩) (fun q => absurd q (by omega))
        have em : ∀ c, c ≠ 0 → c ≠ 7 → c ≠ 8 → c ≠ 9 → c ≠ 10 → Nm c = Mm c := by
          intro c c0 c7 c8 c9 c10
          rw [h5 c c10, h3 c c9, h1 c c7 c8, e18, up_n _ _ c0, e10, up_n _ _ c0, e2, up_n _ _ c0]
        have e0 : ∀ k, Nm 0 k = if k = 10 then Mm 0 1 else if k = 9 then Mm 0 0 else if k = 8 then 1 else Mm 0 k := by
          intro k
          rw [h5 0 (by decide), h3 0 (by decide), h1 0 (by decide) (by decide)]
          exact z k
        have em0 : ∀ k, k ≠ 8 → k ≠ 9 → k ≠ 10 → Nm 0 k = Mm 0 k := by
          intro k k8 k9 k10
          rw [e0, if_neg k10, if_neg k9, if_neg k8]
        refine hJ Nx Nm ex em em0 ⟨?_, ?_, ?_, ?_, ?_, ?_⟩
        · unfold Dim; rw [ex 1 (by decide) (by decide) (by decide) (by decide) (by decide) (by decide) (by decide)]; exact hd
        · unfold DimM; rw [em0 0 (by decide) (by decide) (by decide), em0 1 (by decide) (by decide) (by decide)]; exact hm
        · unfold PicS
          rw [ex 3 (by decide) (by decide) (by decide) (by decide) (by decide) (by decide) (by decide), ex 4 (by decide) (by decide) (by decide) (by decide) (by decide) (by decide) (by decide), ex 6 (by decide) (by decide) (by decide) (by decide) (by decide) (by decide) (by decide), ex 7 (by decide) (by decide) (by decide) (by decide) (by decide) (by decide) (by decide), ex 8 (by decide) (by decide) (by decide) (by decide) (by decide) (by decide) (by decide), em 1 (by decide) (by decide) (by decide) (by decide) (by decide), em 2 (by decide) (by decide) (by decide) (by decide) (by decide), em 3 (by decide) (by decide) (by decide) (by decide) (by decide), em 4 (by decide) (by decide) (by decide) (by decide) (by decide)]
          exact hP
        · unfold Rul; rw [ex 17 (by decide) (by decide) (by decide) (by decide) (by decide) (by decide) (by decide), em 5 (by decide) (by decide) (by decide) (by decide) (by decide)]; exact hR
        · unfold Oln; rw [ex 46 (by decide) (by decide) (by decide) (by decide) (by decide) (by decide) (by decide), em 6 (by decide) (by decide) (by decide) (by decide) (by decide)]; exact hO
        · refine Or.inr ⟨x0, by rw [e0]; rfl, w, h, hd.1, hd.2.1, hd.2.2.1, hd.2.2.2.1, by rw [x9.1]; exact hd.2.2.2.2.1, by rw [x9.2]; exact hd.2.2.2.2.2, by rw [e0]; exact hm.2.2.2.2.1, by rw [e0]; exact hm.2.2.2.2.2, ?_⟩
          refine pic_cong hP x11 x12 x14 x15 x16 (fun k hk => ?_) (fun k hk => ?_) h6
          · rw [h5 7 (by decide), h5 8 (by decide), h3 7 (by decide), h3 8 (by decide)]; exact h2 k hk
          · rw [h5 9 (by decide)]; exact h4 k hk
      · intro n i N3 hi hI ih
        obtain ⟨h5, h6⟩ := hI
        rw [wX11_keep_L88_s]
        refine pk_le 200 i (fun q => absurd q (by omega)) (fun _ => ?_)
        refine ⟨pk_in i 200 hi, pk_in i 200 hi, fun N4 e4 x2 ex2 => ?_⟩
        rw [ex2, nI_1]
        rw [nI_clamp (by omega)] at e4
        refine ih N4 ⟨fun c hc => by rw [e4, up_n _ _ hc, h5 c hc], fun y hy => ?_⟩
        rw [e4, up_s]
        by_cases hy2 : y = i
        · rw [hy2, pk_us, h5 4 (by decide), h3 4 (by decide), h1 4 (by decide) (by decide), e18, up_n _ _ (by decide), e10, up_n _ _ (by decide), e2, up_n _ _ (by decide)]
        · rw [pk_un hy2]; exact h6 y (by omega)
    · intro n i N3 hi hI ih
      obtain ⟨h5, h6⟩ := hI
      have e3 : N3 3 i = Mm 3 i := by rw [h5 3 (by decide), h1 3 (by decide) (by decide), e18, up_n _ _ (by decide), e10, up_n _ _ (by decide), e2, up_n _ _ (by decide)]
      rw [wX11_keep_L62_s]
      refine pk_le 20 i (fun q => absurd q (by omega)) (fun _ => ?_)
      rw [nI_clamp (by omega), e3]
      refine ⟨pk_in i 20 hi, pk_in i 20 hi, ?_, fun N4 e4 x2 ex2 => ?_⟩
      · rcases Nat.lt_or_ge i 10 with q | q
        · rw [(hP.2.2.2.1 i q).2]; exact (hP.2.2.2.1 i q).1
        · have := hP.2.2.2.2.1 (i - 10) (by omega)
          rw [show 10 + (i - 10) = i by omega] at this
          rw [this.2]; exact this.1
      · rw [ex2, nI_1]
        refine ih N4 ⟨fun c hc => by rw [e4, up_n _ _ hc, h5 c hc], fun y hy => ?_⟩
        rw [e4, up_s]
        by_cases hy2 : y = i
        · rw [hy2, pk_us]
        · rw [pk_un hy2]; exact h6 y (by omega)
  · intro n i N3 hi hI ih
    obtain ⟨h5, h6⟩ := hI
    have e1 : N3 1 i = Mm 1 i := by rw [h5 1 (by decide) (by decide), e18, up_n _ _ (by decide), e10, up_n _ _ (by decide), e2, up_n _ _ (by decide)]
    have e3 : N3 2 i = Mm 2 i := by rw [h5 2 (by decide) (by decide), e18, up_n _ _ (by decide), e10, up_n _ _ (by decide), e2, up_n _ _ (by decide)]
    rw [wX11_keep_L23_s]
    refine pk_le 400 i (fun q => absurd q (by omega)) (fun _ => ?_)
    rw [nI_clamp (by omega), e1]
    refine ⟨pk_in i 400 hi, pk_in i 400 hi, fun N4 e4 => ?_⟩
    have e5 : N4 2 i = Mm 2 i := by rw [e4, up_n _ _ (by decide)]; exact e3
    rw [e5]
    refine ⟨pk_in i 400 hi, pk_in i 400 hi, (hP.1 i hi).1, fun N5 e6 x2 ex2 => ?_⟩
    rw [ex2, nI_1]
    refine ih N5 ⟨fun c h1 h2 => by rw [e6, up_n _ _ h2, e4, up_n _ _ h1, h5 c h1 h2], fun y hy => ?_⟩
    rw [e6, up_s, up_n _ _ (show (7 : Nat) ≠ 8 by decide), e4, up_s, up_n _ _ (show (8 : Nat) ≠ 7 by decide)]
    by_cases hy2 : y = i
    · rw [hy2, pk_us, pk_us]; exact ⟨rfl, rfl⟩
    · rw [pk_un hy2, pk_un hy2]; exact h6 y (by omega)
