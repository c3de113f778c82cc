/-! tools for the pure part: loops over a counter, places, memories -/
theorem forN {σ : Type} (W : Nat → Int32 → σ → Prop) (I : Nat → σ → Prop) (e : Nat) (hx : ∀ n s, I e s → W (n + 1) (nI e) s) (hs : ∀ n i s, i < e → I i s → (∀ s', I (i + 1) s' → W n (nI (i + 1)) s') → W (n + 1) (nI i) s) (i : Nat) (s : σ) (hi : i ≤ e) (h : I i s) : ∃ n, W n (nI i) s := pk_loop (fun n i s => W n (nI i) s) I e i s hi h hx hs
def Ix (a : Int32) (n : Nat) : Prop := ∃ j : Nat, j < n ∧ a = nI j
theorem up_s {α : Type} (M : Nat → α) (c : Nat) (f : α) : va_up M c f c = f := if_pos rfl
theorem up_n {α : Type} (M : Nat → α) {c d : Nat} (f : α) (h : d ≠ c) : va_up M c f d = M d := if_neg h
theorem lt_nI {x : Int32} {n : Nat} (hn : n < 2 ^ 31) : Ix x n ↔ ¬ x < 0 ∧ ¬ nI n ≤ x := by
  constructor
  · rintro ⟨j, hj, rfl⟩
    exact ⟨nI_pos (by omega), nI_ge hj hn⟩
  · rintro ⟨h1, h2⟩
    rcases pk_ix x hn with h | h | h
    · exact absurd h h1
    · exact absurd h h2
    · exact h
theorem in_ix {M : Mem} {a hi : Int32} {n : Nat} {Q : Int32 → Mem → Prop} (hn : 1 ≤ n) (hn2 : n < 2 ^ 31) (e : hi = nI (n - 1)) (h1 : ∀ j : Nat, j < n → a = nI j → Q 1 M) (h0 : ¬ Ix a n → Q 0 M) : wX11_in M a 0 hi Q := by
  have key : Ix a n ↔ ¬ a < 0 ∧ ¬ hi < a := by
    rw [lt_nI hn2, e]
    constructor
    · rintro ⟨q1, q2⟩
      refine ⟨q1, fun q => q2 ?_⟩
      rw [Int32.lt_iff_toInt_lt, nI_toInt (by omega)] at q
      rw [Int32.le_iff_toInt_le, nI_toInt hn2]
      omega
    · rintro ⟨q1, q2⟩
      refine ⟨q1, fun q => q2 ?_⟩
      rw [Int32.le_iff_toInt_le, nI_toInt hn2] at q
      rw [Int32.lt_iff_toInt_lt, nI_toInt (by omega)]
      omega
  refine ⟨fun q => h0 (fun z => (key.mp z).1 q), fun q => ⟨fun q2 => h0 (fun z => (key.mp z).2 q2), fun q2 => ?_⟩⟩
  obtain ⟨j, hj, e⟩ := key.mpr ⟨q, q2⟩
  exact h1 j hj e
theorem nI_m1 {n : Nat} (h : 1 ≤ n) : nI n - 1 = nI (n - 1) := by
  obtain ⟨k, rfl⟩ : ∃ k, n = k + 1 := ⟨n - 1, by omega⟩
  exact nI_pred k
theorem nI_ne {a b : Nat} (ha : a < 2 ^ 31) (hb : b < 2 ^ 31) (h : a ≠ b) : ¬ nI a = nI b := fun e => h ((nI_eq ha hb).mp e)
theorem ne_neg {n : Nat} (h : n < 2 ^ 31) {z : Int32} (hz : z.toInt < 0) : ¬ nI n = z := fun e => by
  have := nI_toInt h
  rw [e] at this
  omega
/-- a scene's width and height -/
def Dim (M : Mem) (w h : Nat) : Prop := 1 ≤ w ∧ w ≤ 20 ∧ 1 ≤ h ∧ h ≤ 10 ∧ M 1 0 = nI w ∧ M 1 1 = nI h
def DimM (M : Mem) (w h : Nat) : Prop := 1 ≤ w ∧ w ≤ 20 ∧ 1 ≤ h ∧ h ≤ 10 ∧ M 0 0 = nI w ∧ M 0 1 = nI h
theorem pl_lt {w h x y : Nat} (hx : x < w) (hy : y < h) : y * w + x < w * h := by
  have h1 : (y + 1) * w ≤ h * w := Nat.mul_le_mul_right w hy
  rw [Nat.add_mul, Nat.one_mul, Nat.mul_comm h w] at h1
  omega
theorem wh_le {w h : Nat} (hw : w ≤ 20) (hh : h ≤ 10) : w * h ≤ 200 := Nat.mul_le_mul hw hh
theorem hasSquare_w {M : Mem} {w h : Nat} (hd : Dim M w h) {a b : Int32} {Q : Int32 → Mem → Prop} (h1 : ∀ x y : Nat, x < w → y < h → a = nI x → b = nI y → Q 1 M) (h0 : ¬ (Ix a w ∧ Ix b h) → Q 0 M) : wX6_hasSquare M a b Q := by
  obtain ⟨d1, d2, d3, d4, d5, d6⟩ := hd
  have k1 := lt_nI (x := a) (n := w) (by omega)
  have k2 := lt_nI (x := b) (n := h) (by omega)
  unfold wX6_hasSquare
  rw [d5, d6]
  refine ⟨fun q => h0 (fun z => (k1.mp z.1).1 q), fun q => ⟨fun q2 => h0 (fun z => (k1.mp z.1).2 q2), fun q2 => ⟨fun q3 => h0 (fun z => (k2.mp z.2).1 q3), fun q3 => ⟨fun q4 => h0 (fun z => (k2.mp z.2).2 q4), fun q4 => ?_⟩⟩⟩⟩
  obtain ⟨x, hx, ex⟩ := k1.mpr ⟨q, q2⟩
  obtain ⟨y, hy, ey⟩ := k2.mpr ⟨q3, q4⟩
  exact h1 x y hx hy ex ey
theorem isSquare_w {M : Mem} {w h : Nat} (hd : DimM M w h) {a b : Int32} {Q : Int32 → Mem → Prop} (h1 : ∀ x y : Nat, x < w → y < h → a = nI x → b = nI y → Q 1 M) (h0 : ¬ (Ix a w ∧ Ix b h) → Q 0 M) : wX11_isSquare M a b Q := by
  obtain ⟨d1, d2, d3, d4, d5, d6⟩ := hd
  refine in_ix d1 (by omega) (by rw [d5]; exact nI_m1 d1) (fun x hx ex => ⟨fun q => absurd q (by decide), fun _ => ?_⟩) (fun q => ⟨fun _ => h0 (fun z => q z.1), fun q => absurd rfl q⟩)
  refine in_ix d3 (by omega) (by rw [d6]; exact nI_m1 d3) (fun y hy ey => ⟨fun q => absurd q (by decide), fun _ => h1 x y hx hy ex ey⟩) (fun q => ⟨fun _ => h0 (fun z => q z.2), fun q => absurd rfl q⟩)
def IsPic (a : Int32) : Prop := a = 0 ∨ a = 1
theorem hasPicture_w {M : Mem} {a : Int32} {Q : Int32 → Mem → Prop} (h1 : IsPic a → Q 1 M) (h0 : ¬ IsPic a → Q 0 M) : wX6_hasPicture M a Q :=
  ⟨fun q => h1 (Or.inl q), fun q => ⟨fun q2 => h0 (fun z => z.elim q q2), fun q2 => h1 (Or.inr q2)⟩⟩
theorem pic_ix {a : Int32} : IsPic a ↔ Ix a 2 := by
  constructor
  · rintro (rfl | rfl)
    · exact ⟨0, by omega, rfl⟩
    · exact ⟨1, by omega, rfl⟩
  · rintro ⟨j, hj, rfl⟩
    rcases (show j = 0 ∨ j = 1 by omega) with rfl | rfl
    · exact Or.inl rfl
    · exact Or.inr rfl
theorem inPic_w {M : Mem} {a : Int32} {Q : Int32 → Mem → Prop} (h1 : IsPic a → Q 1 M) (h0 : ¬ IsPic a → Q 0 M) : wX11_in M a 0 1 Q :=
  in_ix (n := 2) (by omega) (by omega) rfl (fun j hj e => h1 (pic_ix.mpr ⟨j, hj, e⟩)) (fun q => h0 (fun z => q (pic_ix.mp z)))
theorem hasHeight_w {M : Mem} {w h : Nat} (hd : Dim M w h) {b : Int32} {Q : Int32 → Mem → Prop} (h1 : ∀ y : Nat, y < h → b = nI y → Q 1 M) (h0 : ¬ Ix b h → Q 0 M) : wX6_hasHeight M b Q := by
  obtain ⟨d1, d2, d3, d4, d5, d6⟩ := hd
  have k2 := lt_nI (x := b) (n := h) (by omega)
  unfold wX6_hasHeight
  rw [d6]
  refine ⟨fun q3 => h0 (fun z => (k2.mp z).1 q3), fun q3 => ⟨fun q4 => h0 (fun z => (k2.mp z).2 q4), fun q4 => ?_⟩⟩
  obtain ⟨y, hy, ey⟩ := k2.mpr ⟨q3, q4⟩
  exact h1 y hy ey
theorem hasRow_w {M : Mem} {w h : Nat} (hd : Dim M w h) {a b : Int32} {Q : Int32 → Mem → Prop} (h1 : ∀ y : Nat, y < h → IsPic a → b = nI y → Q 1 M) (h0 : ¬ (IsPic a ∧ Ix b h) → Q 0 M) : wX6_hasRow M a b Q := by
  refine hasPicture_w (fun hp => ⟨fun q => absurd q (by decide), fun _ => ?_⟩) (fun q => ⟨fun _ => h0 (fun z => q z.1), fun q => absurd rfl q⟩)
  exact hasHeight_w hd (fun y hy e => ⟨fun q => absurd q (by decide), fun _ => h1 y hy hp e⟩) (fun q => ⟨fun _ => h0 (fun z => q z.2), fun q => absurd rfl q⟩)
theorem isRow_w {M : Mem} {w h : Nat} (hd : DimM M w h) {a b : Int32} {Q : Int32 → Mem → Prop} (h1 : ∀ y : Nat, y < h → IsPic a → b = nI y → Q 1 M) (h0 : ¬ (IsPic a ∧ Ix b h) → Q 0 M) : wX11_isRow M a b Q := by
  refine inPic_w (fun hp => ⟨fun q => absurd q (by decide), fun _ => ?_⟩) (fun q => ⟨fun _ => h0 (fun z => q z.1), fun q => absurd rfl q⟩)
  exact in_ix hd.2.2.1 (by have := hd.2.2.2.1; omega) (by rw [hd.2.2.2.2.2]; exact nI_m1 hd.2.2.1) (fun y hy e => ⟨fun q => absurd q (by decide), fun _ => h1 y hy hp e⟩) (fun q => ⟨fun _ => h0 (fun z => q z.2), fun q => absurd rfl q⟩)
/-- all that is worked out counts as not worked out -/
def Cold (M : Mem) : Prop := M 18 3 = 0 ∧ (∀ y, y < 10 → M 31 y = -4) ∧ M 32 4 = 0 ∧ M 32 5 = 0 ∧ M 32 6 = -4 ∧ M 37 1 = 0 ∧ M 39 1 = 0 ∧ M 41 0 = -4
def hot (c : Nat) : Prop := c = 18 ∨ c = 31 ∨ c = 32 ∨ c = 37 ∨ c = 39 ∨ c = 41
theorem forgetAll_w {M : Mem} {Q : Mem → Prop} (h : ∀ N : Mem, (∀ c, ¬ hot c → N c = M c) → Cold N → Q N) : wX10_forgetAll M Q := by
  intro M5 e5 M6 e6 M2 e2 M7 e7 M13 e13 M27 e27 M35 e35 M44 e44
  subst e44 e35 e27 e13 e7 e2 e6 e5
  refine h _ (fun c hc => ?_) ?_
  · simp only [hot, not_or] at hc
    obtain ⟨h1, h2, h3, h4, h5, h6⟩ := hc
    simp only [va_up, h1, h2, h3, h4, h5, h6, if_false]
  · refine ⟨by simp [va_up, upd], fun y hy => ?_, by simp [va_up, upd], by simp [va_up, upd], by simp [va_up, upd], by simp [va_up, upd], by simp [va_up, upd], by simp [va_up, upd]⟩
    simp [va_up, upd, hy]
theorem clear2_w {M : Mem} {Q : Mem → Prop} (h : ∀ N : Mem, (∀ c, c ≠ 3 → c ≠ 4 → N c = M c) → (∀ k, k < 200 → N 3 k = 0) → (∀ y, y < 10 → N 4 y = 0) → Q N) : wX4_clear_2 M Q := by
  intro M5 e5
  refine forN (fun n x M => wX4_clear_2_L10 (fun M => Q M) Q n x M) (fun i N => (∀ c, c ≠ 4 → N c = M5 c) ∧ ∀ y, y < i → N 4 y = 0) 10 ?_ ?_ 0 M5 (by omega) ⟨fun _ _ => rfl, fun y hy => absurd hy (Nat.not_lt_zero y)⟩
  · intro n N hI
    obtain ⟨h1, h2⟩ := hI
    rw [wX4_clear_2_L10_s]
    refine pk_le 10 10 (fun _ => ?_) (fun q => absurd q (by omega))
    refine h N (fun c c3 c4 => by rw [h1 c c4, e5, up_n _ _ c3]) (fun k hk => ?_) h2
    rw [h1 3 (by decide), e5, up_s, if_pos hk]
  · intro n i N hi hI ih
    obtain ⟨h1, h2⟩ := hI
    rw [wX4_clear_2_L10_s]
    refine pk_le 10 i (fun q => absurd q (by omega)) (fun _ => ?_)
    refine ⟨pk_in i 10 hi, fun N2 e2 x2 ex2 => ?_⟩
    rw [ex2, nI_1]
    rw [nI_clamp (by omega)] at e2
    refine ih N2 ⟨fun c hc => by rw [e2, up_n _ _ hc, h1 c hc], fun y hy => ?_⟩
    rw [e2, up_s]
    by_cases hy2 : y = i
    · rw [hy2, pk_us]
    · rw [pk_un hy2]; exact h2 y (by omega)
theorem clear5_w {M : Mem} {Q : Mem → Prop} (h : ∀ N : Mem, (∀ c, c ≠ 6 → c ≠ 7 → N c = M c) → (∀ k, k < 200 → N 6 k = 0) → (∀ y, y < 10 → N 7 y = 0) → Q N) : wX4_clear_5 M Q := by
  intro M5 e5
  refine forN (fun n x M => wX4_clear_5_L10 (fun M => Q M) Q n x M) (fun i N => (∀ c, c ≠ 7 → N c = M5 c) ∧ ∀ y, y < i → N 7 y = 0) 10 ?_ ?_ 0 M5 (by omega) ⟨fun _ _ => rfl, fun y hy => absurd hy (Nat.not_lt_zero y)⟩
  · intro n N hI
    obtain ⟨h1, h2⟩ := hI
    rw [wX4_clear_5_L10_s]
    refine pk_le 10 10 (fun _ => ?_) (fun q => absurd q (by omega))
    refine h N (fun c c3 c4 => by rw [h1 c c4, e5, up_n _ _ c3]) (fun k hk => ?_) h2
    rw [h1 6 (by decide), e5, up_s, if_pos hk]
  · intro n i N hi hI ih
    obtain ⟨h1, h2⟩ := hI
    rw [wX4_clear_5_L10_s]
    refine pk_le 10 i (fun q => absurd q (by omega)) (fun _ => ?_)
    refine ⟨pk_in i 10 hi, fun N2 e2 x2 ex2 => ?_⟩
    rw [ex2, nI_1]
    rw [nI_clamp (by omega)] at e2
    refine ih N2 ⟨fun c hc => by rw [e2, up_n _ _ hc, h1 c hc], fun y hy => ?_⟩
    rw [e2, up_s]
    by_cases hy2 : y = i
    · rw [hy2, pk_us]
    · rw [pk_un hy2]; exact h2 y (by omega)
theorem rng_of {a : Int32} {lo hi : Nat} (hl : lo < 2 ^ 31) (hh : hi < 2 ^ 31) (h1 : ¬ a < nI lo) (h2 : ¬ nI hi < a) : ∃ n : Nat, lo ≤ n ∧ n ≤ hi ∧ a = nI n := by
  rw [Int32.lt_iff_toInt_lt, nI_toInt hl] at h1
  rw [Int32.lt_iff_toInt_lt, nI_toInt hh] at h2
  obtain ⟨j, hj, rfl⟩ := nI_of (x := a) (by rw [Int32.lt_iff_toInt_lt, Int32.toInt_zero]; omega)
  rw [nI_toInt hj] at h1 h2
  exact ⟨j, by omega, by omega, rfl⟩
theorem in_rng {M : Mem} {a : Int32} (lo hi : Nat) {Q : Int32 → Mem → Prop} (hl : lo < 2 ^ 31) (hh : hi < 2 ^ 31) (h1 : ∀ n : Nat, lo ≤ n → n ≤ hi → a = nI n → Q 1 M) (h0 : ¬ (∃ n : Nat, lo ≤ n ∧ n ≤ hi ∧ a = nI n) → Q 0 M) : wX11_in M a (nI lo) (nI hi) Q := by
  refine ⟨fun q => h0 ?_, fun q => ⟨fun q2 => h0 ?_, fun q2 => ?_⟩⟩
  · rintro ⟨n, n1, n2, rfl⟩
    exact absurd q (nI_nlt n1 (by omega))
  · rintro ⟨n, n1, n2, rfl⟩
    exact absurd q2 (nI_nlt n2 (by omega))
  · obtain ⟨n, n1, n2, e⟩ := rng_of hl hh q q2
    exact h1 n n1 n2 e
