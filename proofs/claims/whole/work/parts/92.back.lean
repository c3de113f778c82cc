theorem o_back {Mx Mm : Mem} {w h : Nat} (hB : Base Mx Mm w h) {J : Mem → Mem → Prop} (hJ : JC J Mx Mm) : wX10_back Mx (fun r Nx => wX11_back Mm (fun r2 Nm => r = r2 ∧ J Nx Nm)) := by
  obtain ⟨hd, hm, hP0, hR, hO, hKp⟩ := id hB
  rcases hKp with ⟨q1, q2⟩ | ⟨q1, q2, kw, kh, d1, d2, d3, d4, d5, d6, d7, d8, hP⟩
  · exact ⟨fun q => absurd q1 q, fun _ => ⟨fun q => absurd q2 q, fun _ => ⟨rfl, hJ.1⟩⟩⟩
  refine ⟨fun _ => ?_, fun q => absurd (q1.symm.trans q) (by decide)⟩
  intro M5 e5 M13 e13
  refine become_210 (fun y hy => ?_) (fun M24 f1 f2 f3 => become_513 (fun y hy => ?_) (fun M35 g1 g2 g3 => ⟨by decide, by decide, by decide, cpy_ok (n := 200) (by decide), cpy_ok (n := 200) (by decide), fun M51 e51 => forgetAll_w (fun Nx k1 k2 => ?_)⟩))
  · rw [e13, up_n _ _ (by decide), e5, up_n _ _ (by decide)]
    exact (hP.2.2.2.1 y hy).1
  · rw [f1 15 (by decide) (by decide), e13, up_n _ _ (by decide), e5, up_n _ _ (by decide)]
    exact (hP.2.2.2.2.1 y hy).1
  have ex : ∀ c, ¬ xc c → c ≠ 1 → c ≠ 3 → c ≠ 4 → c ≠ 6 → c ≠ 7 → c ≠ 8 → Nx c = Mx c := by
    intro c cx c1 c3 c4 c6 c7 c8
    rw [k1 c (nhot cx), e51, up_n _ _ c8, g1 c c6 c7, f1 c c3 c4, e13, up_n _ _ c1, e5, up_n _ _ c1]
  have x1 : Nx 1 0 = Mx 9 0 ∧ Nx 1 1 = Mx 9 1 := by
    have e9 : Nx 1 = M13 1 := by rw [k1 1 (nhot (nxc (by omega))), e51, up_n _ _ (by decide), g1 1 (by decide) (by decide), f1 1 (by decide) (by decide)]
    rw [e9, e13, up_s, pk_un (by decide), pk_us, e5, up_s, pk_us, up_n _ _ (by decide)]
    exact ⟨rfl, rfl⟩
  have x3 : ∀ k, k < 200 → Nx 3 k = Mx 11 k := by
    intro k hk
    rw [k1 3 (nhot (nxc (by omega))), e51, up_n _ _ (by decide), g1 3 (by decide) (by decide), f2 k hk, e13, up_n _ _ (by decide), e5, up_n _ _ (by decide)]
  have x4 : ∀ k, k < 10 → Nx 4 k = Mx 12 k := by
    intro k hk
    rw [k1 4 (nhot (nxc (by omega))), e51, up_n _ _ (by decide), g1 4 (by decide) (by decide), f3 k hk, e13, up_n _ _ (by decide), e5, up_n _ _ (by decide)]
  have x6 : ∀ k, k < 200 → Nx 6 k = Mx 14 k := by
    intro k hk
    rw [k1 6 (nhot (nxc (by omega))), e51, up_n _ _ (by decide), g2 k hk, f1 14 (by decide) (by decide), e13, up_n _ _ (by decide), e5, up_n _ _ (by decide)]
  have x7 : ∀ k, k < 10 → Nx 7 k = Mx 15 k := by
    intro k hk
    rw [k1 7 (nhot (nxc (by omega))), e51, up_n _ _ (by decide), g3 k hk, f1 15 (by decide) (by decide), e13, up_n _ _ (by decide), e5, up_n _ _ (by decide)]
  have x8 : ∀ k, k < 200 → Nx 8 k = Mx 16 k := by
    intro k hk
    rw [k1 8 (nhot (nxc (by omega))), e51, up_s]
    refine (cpy_all (n := 200) (by decide) hk).trans ?_
    rw [g1 16 (by decide) (by decide), f1 16 (by decide) (by decide), e13, up_n _ _ (by decide), e5, up_n _ _ (by decide)]
  clear f1 f2 f3 g1 g2 g3 e51 e13 e5 k1
  refine ⟨fun _ => ?_, fun q => absurd (q2.symm.trans q) (by decide)⟩
  refine blank_w (fun M18 b1 b2 b3 b4 b5 b6 b7 b8 => ?_)
  refine forN (fun n x M => wX11_back_L24 _ _ n x M) (fun i N => (∀ c, c ≠ 1 → c ≠ 2 → N c = M18 c) ∧ ∀ k, k < i → N 1 k = Mm 7 k ∧ N 2 k = Mm 8 k) 400 ?_ ?_ 0 M18 (by omega) ⟨fun _ _ _ => rfl, fun y hy => absurd hy (Nat.not_lt_zero y)⟩
  · intro n N hI
    obtain ⟨h1, h2⟩ := hI
    rw [wX11_back_L24_s]
    refine pk_le 400 400 (fun _ => ?_) (fun q => absurd q (by omega))
    refine forN (fun n x M => wX11_back_L63 _ _ n x M) (fun i N2 => (∀ c, c ≠ 3 → N2 c = N c) ∧ ∀ k, k < i → N2 3 k = Mm 9 k) 20 ?_ ?_ 0 N (by omega) ⟨fun _ _ => rfl, fun y hy => absurd hy (Nat.not_lt_zero y)⟩
    · intro n N2 hI
      obtain ⟨h3, h4⟩ := hI
      rw [wX11_back_L63_s]
      refine pk_le 20 20 (fun _ => ?_) (fun q => absurd q (by omega))
      refine forN (fun n x M => wX11_back_L89 _ _ n x M) (fun i N3 => (∀ c, c ≠ 4 → N3 c = N2 c) ∧ ∀ k, k < i → N3 4 k = Mm 10 k) 200 ?_ ?_ 0 N2 (by omega) ⟨fun _ _ => rfl, fun y hy => absurd hy (Nat.not_lt_zero y)⟩
      · intro n Nm hI
        obtain ⟨h5, h6⟩ := hI
        rw [wX11_back_L89_s]
        refine pk_le 200 200 (fun _ => ⟨rfl, ?_⟩) (fun q => absurd q (by omega))
        have em : ∀ c, 5 ≤ c → Nm c = Mm c := by
          intro c c5
          rw [h5 c (by omega), h3 c (by omega), h1 c (by omega) (by omega), b8 c c5]
        have e0 : Nm 0 = M18 0 := by rw [h5 0 (by decide), h3 0 (by decide), h1 0 (by decide) (by decide)]
        refine hJ.2.2 Nx Nm kw kh ⟨⟨d1, d2, d3, d4, by rw [x1.1]; exact d5, by rw [x1.2]; exact d6⟩, ⟨d1, d2, d3, d4, by rw [e0, b2]; exact d7, by rw [e0, b3]; exact d8⟩, ?_, ?_, ?_, ?_⟩ k2 (by rw [e0]; exact b4)
        · refine pic_cong hP x3 x4 x6 x7 x8 (fun k hk => ?_) (fun k hk => ?_) h6
          · rw [h5 1 (by decide), h5 2 (by decide), h3 1 (by decide), h3 2 (by decide)]; exact h2 k hk
          · rw [h5 3 (by decide)]; exact h4 k hk
        · unfold Rul; rw [ex 17 (nxc (by omega)) (by decide) (by decide) (by decide) (by decide) (by decide) (by decide), em 5 (by omega)]; exact hR
        · unfold Oln; rw [ex 46 (nxc (by omega)) (by decide) (by decide) (by decide) (by decide) (by decide) (by decide), em 6 (by omega)]; exact hO
        · unfold Kep
          rw [ex 0 (nxc (by omega)) (by decide) (by decide) (by decide) (by decide) (by decide) (by decide), ex 9 (nxc (by omega)) (by decide) (by decide) (by decide) (by decide) (by decide) (by decide), ex 11 (nxc (by omega)) (by decide) (by decide) (by decide) (by decide) (by decide) (by decide), ex 12 (nxc (by omega)) (by decide) (by decide) (by decide) (by decide) (by decide) (by decide), ex 14 (nxc (by omega)) (by decide) (by decide) (by decide) (by decide) (by decide) (by decide), ex 15 (nxc (by omega)) (by decide) (by decide) (by decide) (by decide) (by decide) (by decide), ex 16 (nxc (by omega)) (by decide) (by decide) (by decide) (by decide) (by decide) (by decide), em 7 (by omega), em 8 (by omega), em 9 (by omega), em 10 (by omega), e0, b1 8 (by decide) (by decide) (by decide), b1 9 (by decide) (by decide) (by decide), b1 10 (by decide) (by decide) (by decide)]
          exact hB.2.2.2.2.2
      · intro n i N3 hi hI ih
        obtain ⟨h5, h6⟩ := hI
        rw [wX11_back_L89_s]
        refine pk_le 200 i (fun q => absurd q (by omega)) (fun _ => ?_)
        refine ⟨pk_in i 200 hi, pk_in i 200 hi, fun N4 e4 x2 ex2 => ?_⟩
        rw [ex2, nI_1]
        rw [nI_clamp (by omega)] at e4
        refine ih N4 ⟨fun c hc => by rw [e4, up_n _ _ hc, h5 c hc], fun y hy => ?_⟩
        rw [e4, up_s]
        by_cases hy2 : y = i
        · rw [hy2, pk_us, h5 10 (by decide), h3 10 (by decide), h1 10 (by decide) (by decide), b8 10 (by omega)]
        · rw [pk_un hy2]; exact h6 y (by omega)
    · intro n i N3 hi hI ih
      obtain ⟨h5, h6⟩ := hI
      have e3 : N3 9 i = Mm 9 i := by rw [h5 9 (by decide), h1 9 (by decide) (by decide), b8 9 (by omega)]
      rw [wX11_back_L63_s]
      refine pk_le 20 i (fun q => absurd q (by omega)) (fun _ => ?_)
      rw [nI_clamp (by omega), e3]
      refine ⟨pk_in i 20 hi, pk_in i 20 hi, ?_, fun N4 e4 x2 ex2 => ?_⟩
      · rcases Nat.lt_or_ge i 10 with q | q
        · rw [(hP.2.2.2.1 i q).2]; exact (hP.2.2.2.1 i q).1
        · have := hP.2.2.2.2.1 (i - 10) (by omega)
          rw [show 10 + (i - 10) = i by omega] at this
          rw [this.2]; exact this.1
      · rw [ex2, nI_1]
        refine ih N4 ⟨fun c hc => by rw [e4, up_n _ _ hc, h5 c hc], fun y hy => ?_⟩
        rw [e4, up_s]
        by_cases hy2 : y = i
        · rw [hy2, pk_us]
        · rw [pk_un hy2]; exact h6 y (by omega)
  · intro n i N3 hi hI ih
    obtain ⟨h5, h6⟩ := hI
    have e1 : N3 7 i = Mm 7 i := by rw [h5 7 (by decide) (by decide), b8 7 (by omega)]
    have e3 : N3 8 i = Mm 8 i := by rw [h5 8 (by decide) (by decide), b8 8 (by omega)]
    rw [wX11_back_L24_s]
    refine pk_le 400 i (fun q => absurd q (by omega)) (fun _ => ?_)
    rw [nI_clamp (by omega), e1]
    refine ⟨pk_in i 400 hi, pk_in i 400 hi, fun N4 e4 => ?_⟩
    have e5 : N4 8 i = Mm 8 i := by rw [e4, up_n _ _ (by decide)]; exact e3
    rw [e5]
    refine ⟨pk_in i 400 hi, pk_in i 400 hi, (hP.1 i hi).1, fun N5 e6 x2 ex2 => ?_⟩
    rw [ex2, nI_1]
    refine ih N5 ⟨fun c h1 h2 => by rw [e6, up_n _ _ h2, e4, up_n _ _ h1, h5 c h1 h2], fun y hy => ?_⟩
    rw [e6, up_s, up_n _ _ (show (1 : Nat) ≠ 2 by decide), e4, up_s, up_n _ _ (show (2 : Nat) ≠ 1 by decide)]
    by_cases hy2 : y = i
    · rw [hy2, pk_us, pk_us]; exact ⟨rfl, rfl⟩
    · rw [pk_un hy2, pk_un hy2]; exact h6 y (by omega)
