/-! calls that change the base: size, shade, lose, row -/
def JC (J : Mem → Mem → Prop) (Mx Mm : Mem) : Prop := J Mx Mm ∧ (∀ Nm, SameM Mm Nm → Nm 0 15 = 0 → J Mx Nm) ∧ (∀ Nx Nm w h, Base Nx Nm w h → Cold Nx → Nm 0 15 = 0 → J Nx Nm)
def mis (M : Mem) (a : Int32) (y : Nat) : Int32 := if a = 0 then M 4 y else M 7 y
def misM (M : Mem) (a : Int32) (y : Nat) : Int32 := if a = 0 then M 3 y else M 3 (10 + y)
theorem i10_0 (y : Nat) : 10 * (0 : Int32) + nI y = nI y := by
  show nI 10 * nI 0 + nI y = nI y
  rw [pk_mul, nI_add, Nat.mul_zero, Nat.zero_add]
theorem i10_1 (y : Nat) : 10 * (1 : Int32) + nI y = nI (10 + y) := by
  show nI 10 * nI 1 + nI y = nI (10 + y)
  rw [pk_mul, nI_add]
theorem at_0 (w x y : Nat) : ((200 * (0 : Int32)) + (nI w * nI y)) + nI x = nI (y * w + x) := by
  show nI 200 * nI 0 + nI w * nI y + nI x = _
  rw [pk_mul, pk_mul, nI_add, nI_add, Nat.mul_zero, Nat.zero_add, Nat.mul_comm w y]
theorem at_1 (w x y : Nat) : ((200 * (1 : Int32)) + (nI w * nI y)) + nI x = nI (200 + (y * w + x)) := by
  show nI 200 * nI 1 + nI w * nI y + nI x = _
  rw [pk_mul, pk_mul, nI_add, nI_add, Nat.mul_one, Nat.mul_comm w y, Nat.add_assoc]
theorem refusal_w {M : Mem} {w h : Nat} (hd : Dim M w h) {a b c : Int32} {Q : Int32 → Mem → Prop} (hno : ¬ (IsPic a ∧ Ix c h) → Q (-1) M) (hmi : ∀ y : Nat, y < h → IsPic a → c = nI y → ¬ mis M a y = 0 → Q (-2) M) (hco : ∀ y : Nat, y < h → IsPic a → c = nI y → mis M a y = 0 → ¬ Ix b w → Q (-1) M) (hok : ∀ x y : Nat, x < w → y < h → IsPic a → b = nI x → c = nI y → mis M a y = 0 → Q 0 M) : wX6_refusalToWrite M a b c Q := by
  have hh : h ≤ 10 := hd.2.2.2.1
  have tail : ∀ y : Nat, y < h → IsPic a → c = nI y → wX6_refusalToWrite_J21 Q b c (mis M a y) M := by
    intro y hy hp ec
    refine ⟨fun q => ?_, fun q => hmi y hy hp ec q⟩
    refine hasSquare_w hd (fun x y2 hx hy2 ex ey2 => ⟨fun q => absurd q (by decide), fun _ => ?_⟩) (fun q2 => ⟨fun _ => hco y hy hp ec q (fun z => q2 ⟨z, y, hy, ec⟩), fun q => absurd rfl q⟩)
    exact hok x y hx hy hp ex ec q
  refine hasRow_w hd (fun y hy hp ec => ⟨fun _ => ?_, fun q => absurd q (by decide)⟩) (fun q => ⟨fun q2 => absurd rfl q2, fun _ => hno q⟩)
  have t := tail y hy hp ec
  refine ⟨fun q => ⟨by rw [ec]; exact vp_in_nI (by omega) (by omega), ?_⟩, fun q => ⟨by rw [ec]; exact vp_in_nI (by omega) (by omega), ?_⟩⟩
  · have e1 : c.toNatClampNeg = y := by rw [ec]; exact nI_clamp (by omega)
    rw [e1]
    rw [mis, if_pos q] at t
    exact t
  · have e1 : c.toNatClampNeg = y := by rw [ec]; exact nI_clamp (by omega)
    rw [e1]
    rw [mis, if_neg q] at t
    exact t
theorem refuse_w {M : Mem} {w h : Nat} (hd : DimM M w h) {a b c : Int32} {Q : Int32 → Mem → Prop} (hno : ¬ (IsPic a ∧ Ix c h) → Q (-1) M) (hmi : ∀ y : Nat, y < h → IsPic a → c = nI y → ¬ misM M a y = 0 → Q (-2) M) (hco : ∀ y : Nat, y < h → IsPic a → c = nI y → misM M a y = 0 → ¬ Ix b w → Q (-1) M) (hok : ∀ x y : Nat, x < w → y < h → IsPic a → b = nI x → c = nI y → misM M a y = 0 → Q 0 M) : wX11_refuse M a b c Q := by
  have hh : h ≤ 10 := hd.2.2.2.1
  refine isRow_w hd (fun y hy hp ec => ⟨fun _ => ?_, fun q => absurd q (by decide)⟩) (fun q => ⟨fun q2 => absurd rfl q2, fun _ => hno q⟩)
  have key : ∃ i : Nat, i < 20 ∧ 10 * a + c = nI i ∧ M 3 i = misM M a y := by
    rcases hp with rfl | rfl
    · exact ⟨y, by omega, by rw [ec]; exact i10_0 y, rfl⟩
    · exact ⟨10 + y, by omega, by rw [ec]; exact i10_1 y, rfl⟩
  obtain ⟨i, hi, ei, em⟩ := key
  rw [ei, nI_clamp (by omega), em]
  refine ⟨vp_in_nI hi (by omega), fun q => ?_, fun q => hmi y hy hp ec q⟩
  refine in_ix hd.1 (by have := hd.2.1; omega) (by rw [hd.2.2.2.2.1]; exact nI_m1 hd.1) (fun x hx ex => ⟨fun q => absurd q (by decide), fun _ => hok x y hx hy hp ex ec q⟩) (fun q2 => ⟨fun _ => hco y hy hp ec q q2, fun q => absurd rfl q⟩)
theorem mis_eq {Mx Mm : Mem} (hP : PicS Mx Mm) (a : Int32) {y : Nat} (hy : y < 10) : misM Mm a y = mis Mx a y := by
  unfold mis misM
  by_cases q : a = 0
  · rw [if_pos q, if_pos q]; exact (hP.2.2.2.1 y hy).2
  · rw [if_neg q, if_neg q]; exact (hP.2.2.2.2.1 y hy).2
/-- a call that both refuse alike -/
theorem size_no {Mm : Mem} {a b : Int32} {J : Mem → Prop} (h : J Mm) (hn : ¬ ((∃ n : Nat, 1 ≤ n ∧ n ≤ 20 ∧ a = nI n) ∧ (∃ n : Nat, 1 ≤ n ∧ n ≤ 10 ∧ b = nI n))) : wX11_size Mm a b (fun r2 Nm => -1 = r2 ∧ J Nm) := by
  refine in_rng 1 20 (by decide) (by decide) (fun n n1 n2 en => ⟨fun q => absurd q (by decide), fun _ => ?_⟩) (fun q => ⟨fun _ => ⟨rfl, h⟩, fun q => absurd rfl q⟩)
  exact in_rng 1 10 (by decide) (by decide) (fun m m1 m2 em => absurd ⟨⟨n, n1, n2, en⟩, ⟨m, m1, m2, em⟩⟩ hn) (fun q => ⟨fun q => absurd rfl q, fun _ => ⟨rfl, h⟩⟩)
theorem blank_w {M : Mem} {a b : Int32} {Q : Mem → Prop} (h : ∀ N : Mem, (∀ k, k ≠ 0 → k ≠ 1 → k ≠ 15 → N 0 k = M 0 k) → N 0 0 = a → N 0 1 = b → N 0 15 = 0 → (∀ k, k < 400 → N 1 k = 0 ∧ N 2 k = 0) → (∀ k, k < 20 → N 3 k = 0) → (∀ k, k < 200 → N 4 k = -4) → (∀ c, 5 ≤ c → N c = M c) → Q N) : wX11_blank M a b Q := by
  intro M2 e2 M7 e7
  refine forN (fun n x M => wX11_blank_L12 _ Q n x M) (fun i N => (∀ c, c ≠ 1 → c ≠ 2 → N c = M7 c) ∧ ∀ k, k < i → N 1 k = 0 ∧ N 2 k = 0) 400 ?_ ?_ 0 M7 (by omega) ⟨fun _ _ _ => rfl, fun y hy => absurd hy (Nat.not_lt_zero y)⟩
  · intro n N hI
    obtain ⟨h1, h2⟩ := hI
    rw [wX11_blank_L12_s]
    refine pk_le 400 400 (fun _ => ?_) (fun q => absurd q (by omega))
    refine forN (fun n x M => wX11_blank_L41 _ Q n x M) (fun i N2 => (∀ c, c ≠ 3 → N2 c = N c) ∧ ∀ k, k < i → N2 3 k = 0) 20 ?_ ?_ 0 N (by omega) ⟨fun _ _ => rfl, fun y hy => absurd hy (Nat.not_lt_zero y)⟩
    · intro n N2 hI
      obtain ⟨h3, h4⟩ := hI
      rw [wX11_blank_L41_s]
      refine pk_le 20 20 (fun _ => ?_) (fun q => absurd q (by omega))
      refine forN (fun n x M => wX11_blank_L62 _ Q n x M) (fun i N3 => (∀ c, c ≠ 4 → N3 c = N2 c) ∧ ∀ k, k < i → N3 4 k = -4) 200 ?_ ?_ 0 N2 (by omega) ⟨fun _ _ => rfl, fun y hy => absurd hy (Nat.not_lt_zero y)⟩
      · intro n N3 hI
        obtain ⟨h5, h6⟩ := hI
        rw [wX11_blank_L62_s]
        refine pk_le 200 200 (fun _ => ?_) (fun q => absurd q (by omega))
        intro N4 e4
        have e0 : N3 0 = M7 0 := by rw [h5 0 (by decide), h3 0 (by decide), h1 0 (by decide) (by decide)]
        have z : ∀ k, N4 0 k = if k = 15 then 0 else if k = 1 then b else if k = 0 then a else M 0 k := by
          intro k
          rw [e4, up_s, upd, e0, e7, up_s, upd, e2, up_s, upd]
        refine h N4 (fun k k0 k1 k15 => ?_) ?_ ?_ ?_ (fun k hk => ?_) (fun k hk => ?_) (fun k hk => ?_) (fun c hc => ?_)
        · rw [z, if_neg k15, if_neg k1, if_neg k0]
        · rw [z]; rfl
        · rw [z]; rfl
        · rw [z]; rfl
        · rw [e4, up_n _ _ (by decide), up_n _ _ (by decide), h5 1 (by decide), h3 1 (by decide), h5 2 (by decide), h3 2 (by decide)]
          exact h2 k hk
        · rw [e4, up_n _ _ (by decide), h5 3 (by decide)]
          exact h4 k hk
        · rw [e4, up_n _ _ (by decide)]
          exact h6 k hk
        · rw [e4, up_n _ _ (by omega), h5 c (by omega), h3 c (by omega), h1 c (by omega) (by omega), e7, up_n _ _ (by omega), e2, up_n _ _ (by omega)]
      · intro n i N3 hi hI ih
        obtain ⟨h5, h6⟩ := hI
        rw [wX11_blank_L62_s]
        refine pk_le 200 i (fun q => absurd q (by omega)) (fun _ => ?_)
        refine ⟨pk_in i 200 hi, fun N4 e4 x2 ex2 => ?_⟩
        rw [ex2, nI_1]
        rw [nI_clamp (by omega)] at e4
        refine ih N4 ⟨fun c hc => by rw [e4, up_n _ _ hc, h5 c hc], fun y hy => ?_⟩
        rw [e4, up_s]
        by_cases hy2 : y = i
        · rw [hy2, pk_us]
        · rw [pk_un hy2]; exact h6 y (by omega)
    · intro n i N3 hi hI ih
      obtain ⟨h5, h6⟩ := hI
      rw [wX11_blank_L41_s]
      refine pk_le 20 i (fun q => absurd q (by omega)) (fun _ => ?_)
      refine ⟨pk_in i 20 hi, fun N4 e4 x2 ex2 => ?_⟩
      rw [ex2, nI_1]
      rw [nI_clamp (by omega)] at e4
      refine ih N4 ⟨fun c hc => by rw [e4, up_n _ _ hc, h5 c hc], fun y hy => ?_⟩
      rw [e4, up_s]
      by_cases hy2 : y = i
      · rw [hy2, pk_us]
      · rw [pk_un hy2]; exact h6 y (by omega)
  · intro n i N3 hi hI ih
    obtain ⟨h5, h6⟩ := hI
    rw [wX11_blank_L12_s]
    refine pk_le 400 i (fun q => absurd q (by omega)) (fun _ => ?_)
    refine ⟨pk_in i 400 hi, fun N4 e4 => ⟨pk_in i 400 hi, fun N5 e5 x2 ex2 => ?_⟩⟩
    rw [ex2, nI_1]
    rw [nI_clamp (by omega)] at e4 e5
    refine ih N5 ⟨fun c h1 h2 => by rw [e5, up_n _ _ h2, e4, up_n _ _ h1, h5 c h1 h2], fun y hy => ?_⟩
    rw [e5, up_s, up_n _ _ (show (1 : Nat) ≠ 2 by decide), e4, up_s, up_n _ _ (show (2 : Nat) ≠ 1 by decide)]
    by_cases hy2 : y = i
    · rw [hy2, pk_us, pk_us]; exact ⟨rfl, rfl⟩
    · rw [pk_un hy2, pk_un hy2]; exact h6 y (by omega)
theorem pic_zero {s1 m1 s2 m2 t sh go ro tr : Nat → Int32} (h1 : ∀ k, k < 200 → s1 k = 0) (h2 : ∀ k, k < 200 → s2 k = 0) (h3 : ∀ y, y < 10 → m1 y = 0) (h4 : ∀ y, y < 10 → m2 y = 0) (h5 : ∀ k, k < 200 → t k = -4) (h6 : ∀ k, k < 400 → sh k = 0 ∧ go k = 0) (h7 : ∀ k, k < 20 → ro k = 0) (h8 : ∀ k, k < 200 → tr k = -4) : Pic s1 m1 s2 m2 t sh go ro tr := by
  refine ⟨fun k hk => ⟨Or.inl (h6 k hk).2, 0, by omega, (h6 k hk).1⟩, fun k hk => ?_, fun k hk => ?_, fun y hy => ⟨Or.inl (h3 y hy), by rw [h3 y hy, h7 y (by omega)]⟩, fun y hy => ⟨Or.inl (h4 y hy), by rw [h4 y hy, h7 (10 + y) (by omega)]⟩, fun k hk => ⟨Or.inl (h5 k hk), by rw [h5 k hk, h8 k hk]⟩⟩
  · rw [h1 k hk, (h6 k (by omega)).1, (h6 k (by omega)).2, if_pos rfl]
  · rw [h2 k hk, (h6 (200 + k) (by omega)).1, (h6 (200 + k) (by omega)).2, if_pos rfl]
theorem o_size {Mx Mm : Mem} {w h : Nat} (hB : Base Mx Mm w h) (a b : Int32) {J : Mem → Mem → Prop} (hJ : JC J Mx Mm) : wX10_size Mx a b (fun r Nx => wX11_size Mm a b (fun r2 Nm => r = r2 ∧ J Nx Nm)) := by
  by_cases ok : (∃ n : Nat, 1 ≤ n ∧ n ≤ 20 ∧ a = nI n) ∧ (∃ n : Nat, 1 ≤ n ∧ n ≤ 10 ∧ b = nI n)
  · obtain ⟨⟨n, n1, n2, rfl⟩, ⟨m, m1, m2, rfl⟩⟩ := ok
    unfold wX10_size
    refine pk_lt n 1 (fun q => absurd q (by omega)) (fun _ => pk_lt 20 n (fun q => absurd q (by omega)) (fun _ => pk_lt m 1 (fun q => absurd q (by omega)) (fun _ => pk_le m 10 (fun _ => ?_) (fun q => absurd q (by omega)))))
    intro M2 e2 M7 e7
    refine clear2_w (fun M14 f1 f2 f3 => clear5_w (fun M21 g1 g2 g3 M30 e30 => forgetAll_w (fun M34 k1 k2 => ?_)))
    refine in_rng 1 20 (by decide) (by decide) (fun _ _ _ _ => ⟨fun q => absurd q (by decide), fun _ => ?_⟩) (fun q => absurd ⟨n, n1, n2, rfl⟩ q)
    refine in_rng 1 10 (by decide) (by decide) (fun _ _ _ _ => ⟨fun _ => ?_, fun q => absurd q (by decide)⟩) (fun q => absurd ⟨m, m1, m2, rfl⟩ q)
    refine blank_w (fun Nm b1 b2 b3 b4 b5 b6 b7 b8 => ⟨rfl, ?_⟩)
    have e : ∀ c, c ≠ 1 → c ≠ 3 → c ≠ 4 → c ≠ 6 → c ≠ 7 → c ≠ 8 → ¬ hot c → M34 c = Mx c := by
      intro c c1 c3 c4 c6 c7 c8 ch
      rw [k1 c ch, e30, up_n _ _ c8, g1 c c6 c7, f1 c c3 c4, e7, up_n _ _ c1, e2, up_n _ _ c1]
    have nh : ∀ c, (c = 0 ∨ c = 1 ∨ c = 3 ∨ c = 4 ∨ c = 6 ∨ c = 7 ∨ c = 8 ∨ c = 9 ∨ c = 11 ∨ c = 12 ∨ c = 14 ∨ c = 15 ∨ c = 16 ∨ c = 17 ∨ c = 46) → ¬ hot c := fun c hc hh => nxc hc (hot_xc hh)
    have ew : M34 1 = M7 1 := by rw [k1 1 (nh 1 (by omega)), e30, up_n _ _ (by decide), g1 1 (by decide) (by decide), f1 1 (by decide) (by decide)]
    obtain ⟨-, -, -, hR, hO, hKp⟩ := hB
    refine hJ.2.2 M34 Nm n m ⟨⟨n1, n2, m1, m2, ?_, ?_⟩, ⟨n1, n2, m1, m2, b2, b3⟩, ?_, ?_, ?_, ?_⟩ k2 b4
    · rw [ew, e7, up_s, e2, up_s]; rfl
    · rw [ew, e7, up_s]; rfl
    · refine pic_zero (fun k hk => ?_) (fun k hk => ?_) (fun y hy => ?_) (fun y hy => ?_) (fun k hk => ?_) b5 b6 b7
      · rw [k1 3 (nh 3 (by omega)), e30, up_n _ _ (by decide), g1 3 (by decide) (by decide)]; exact f2 k hk
      · rw [k1 6 (nh 6 (by omega)), e30, up_n _ _ (by decide)]; exact g2 k hk
      · rw [k1 4 (nh 4 (by omega)), e30, up_n _ _ (by decide), g1 4 (by decide) (by decide)]; exact f3 y hy
      · rw [k1 7 (nh 7 (by omega)), e30, up_n _ _ (by decide)]; exact g3 y hy
      · rw [k1 8 (nh 8 (by omega)), e30, up_s, if_pos hk]
    · unfold Rul
      rw [e 17 (by decide) (by decide) (by decide) (by decide) (by decide) (by decide) (nh 17 (by omega)), b8 5 (by omega)]
      exact hR
    · unfold Oln
      rw [e 46 (by decide) (by decide) (by decide) (by decide) (by decide) (by decide) (nh 46 (by omega)), b8 6 (by omega)]
      exact hO
    · unfold Kep
      rw [e 0 (by decide) (by decide) (by decide) (by decide) (by decide) (by decide) (nh 0 (by omega)), e 9 (by decide) (by decide) (by decide) (by decide) (by decide) (by decide) (nh 9 (by omega)), e 11 (by decide) (by decide) (by decide) (by decide) (by decide) (by decide) (nh 11 (by omega)), e 12 (by decide) (by decide) (by decide) (by decide) (by decide) (by decide) (nh 12 (by omega)), e 14 (by decide) (by decide) (by decide) (by decide) (by decide) (by decide) (nh 14 (by omega)), e 15 (by decide) (by decide) (by decide) (by decide) (by decide) (by decide) (nh 15 (by omega)), e 16 (by decide) (by decide) (by decide) (by decide) (by decide) (by decide) (nh 16 (by omega)), b8 7 (by omega), b8 8 (by omega), b8 9 (by omega), b8 10 (by omega), b1 8 (by decide) (by decide) (by decide), b1 9 (by decide) (by decide) (by decide), b1 10 (by decide) (by decide) (by decide)]
      exact hKp
  · have hM := size_no (Mm := Mm) (J := fun Nm => J Mx Nm) hJ.1 ok
    refine ⟨fun _ => hM, fun q1 => ⟨fun _ => hM, fun q2 => ⟨fun _ => hM, fun q3 => ⟨fun q4 => ?_, fun _ => hM⟩⟩⟩⟩
    exact absurd ⟨rng_of (lo := 1) (hi := 20) (by decide) (by decide) q1 q2, rng_of (lo := 1) (hi := 10) (by decide) (by decide) q3 (fun q => absurd q4 (Int32.not_le.mpr q))⟩ ok
