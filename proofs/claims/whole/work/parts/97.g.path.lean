/-! paths: what they are -/
theorem forD {σ : Type} (W : Nat → Int32 → σ → Prop) (I : Nat → σ → Prop) (hx : ∀ n s, I 0 s → W (n + 1) (-1) s) (hs : ∀ n i s, I (i + 1) s → (∀ s', I i s' → W n (nI i + (-1)) s') → W (n + 1) (nI i) s) (i : Nat) (s : σ) (h : I (i + 1) s) : ∃ n, W n (nI i) s := by
  refine ⟨i + 2, ?_⟩
  induction i generalizing s with
  | zero => exact hs 1 0 s h (fun s' h0 => hx 0 s' h0)
  | succ i ih =>
    refine hs (i + 2) (i + 1) s h (fun s' h' => ?_)
    rw [pk_m1]
    exact ih s' h'
def gRow (H : Nat) (prev : Nat → Nat) (top : Nat) (mm : Nat → Int32) : Nat → Nat
  | 0 => top
  | b + 1 => if mm b = -4 then min (H + prev (b + 1)) (H + gRow H prev top mm b) else min ((mm b).toNatClampNeg + prev b) (min (H + prev (b + 1)) (H + gRow H prev top mm b))
def gR (w H : Nat) (m : Nat → Nat → Int32) : Nat → Nat → Nat
  | 0 => fun b => H * b
  | a + 1 => gRow H (gR w H m a) (H * (a + 1)) (fun b => m (w - (a + 1)) (w - (b + 1)))
theorem gR_0 (w H : Nat) (m : Nat → Nat → Int32) (b : Nat) : gR w H m 0 b = H * b := rfl
theorem gR_a0 (w H : Nat) (m : Nat → Nat → Int32) : ∀ a, gR w H m a 0 = H * a
  | 0 => rfl
  | _ + 1 => rfl
theorem gR_s (w H : Nat) (m : Nat → Nat → Int32) (a b : Nat) : gR w H m (a + 1) (b + 1) = (if m (w - (a + 1)) (w - (b + 1)) = -4 then min (H + gR w H m a (b + 1)) (H + gR w H m (a + 1) b) else min ((m (w - (a + 1)) (w - (b + 1))).toNatClampNeg + gR w H m a b) (min (H + gR w H m a (b + 1)) (H + gR w H m (a + 1) b))) := rfl
theorem gR_le (w H : Nat) (m : Nat → Nat → Int32) (a : Nat) : ∀ b, gR w H m a b ≤ H * (a + b)
  | 0 => by rw [gR_a0, Nat.add_zero]; exact Nat.le_refl _
  | b + 1 => by
    cases a with
    | zero => rw [gR_0, Nat.zero_add]; exact Nat.le_refl _
    | succ a =>
      have h1 := gR_le w H m (a + 1) b
      have e : H * (a + 1 + (b + 1)) = H * (a + 1 + b) + H := by rw [← Nat.add_assoc, Nat.mul_add H _ 1, Nat.mul_one]
      rw [gR_s, e]
      split <;> omega
def rS (w H : Nat) (m : Nat → Nat → Int32) (i j : Nat) : Nat := gR w H m (w - i) (w - j)
def MCk (w : Nat) (m : Nat → Nat → Int32) : Prop := ∀ i j, m i j = -4 ∨ (i < w ∧ j < w ∧ j ≤ i ∧ ∃ c : Nat, c ≤ 8 ∧ m i j = nI c)
theorem rS_le {w H : Nat} {m : Nat → Nat → Int32} (hw : w ≤ 20) (hH : H ≤ 20) (i j : Nat) : rS w H m i j ≤ 800 := by
  have h1 := gR_le w H m (w - i) (w - j)
  have h2 : H * (w - i + (w - j)) ≤ 20 * 40 := Nat.mul_le_mul hH (by omega)
  unfold rS
  omega
def oM (w H : Nat) (m : Nat → Nat → Int32) (i j : Nat) : Nat := if m i j = -4 then 2147483647 else (m i j).toNatClampNeg + rS w H m (i + 1) (j + 1)
def oL (w H : Nat) (m : Nat → Nat → Int32) (i j : Nat) : Nat := if i < w then H + rS w H m (i + 1) j else 2147483647
def oR (w H : Nat) (m : Nat → Nat → Int32) (i j : Nat) : Nat := if j < w then H + rS w H m i (j + 1) else 2147483647
theorem mul1 (H n : Nat) (h : 1 ≤ n) : H * n = H + H * (n - 1) := by
  obtain ⟨k, rfl⟩ : ∃ k, n = k + 1 := ⟨n - 1, by omega⟩
  rw [Nat.add_sub_cancel, Nat.mul_add, Nat.mul_one, Nat.add_comm]
theorem rS_eq {w H : Nat} {m : Nat → Nat → Int32} (hw : w ≤ 20) (hH : H ≤ 20) (hm : MCk w m) {i j : Nat} (hi : i ≤ w) (hj : j ≤ w) (hne : ¬ (i = w ∧ j = w)) : rS w H m i j = min (min (oM w H m i j) (oL w H m i j)) (oR w H m i j) := by
  have b1 := rS_le (m := m) hw hH (i + 1) j
  have b2 := rS_le (m := m) hw hH i (j + 1)
  by_cases qi : i = w
  · have qj : j < w := by omega
    have em : m i j = -4 := (hm i j).elim id (fun z => absurd z.1 (by omega))
    have eR : rS w H m i j = H + rS w H m i (j + 1) := by
      unfold rS
      rw [show w - i = 0 by omega, gR_0, gR_0, mul1 H (w - j) (by omega), show w - j - 1 = w - (j + 1) by omega]
    unfold oM oL oR
    rw [if_pos em, if_neg (by omega), if_pos qj, eR]
    omega
  · by_cases qj : j = w
    · have em : m i j = -4 := (hm i j).elim id (fun z => absurd z.2.1 (by omega))
      have eL : rS w H m i j = H + rS w H m (i + 1) j := by
        unfold rS
        rw [show w - j = 0 by omega, gR_a0, gR_a0, mul1 H (w - i) (by omega), show w - i - 1 = w - (i + 1) by omega]
      unfold oM oL oR
      rw [if_pos em, if_pos (by omega), if_neg (by omega), eL]
      omega
    · have e : rS w H m i j = (if m i j = -4 then min (H + rS w H m (i + 1) j) (H + rS w H m i (j + 1)) else min ((m i j).toNatClampNeg + rS w H m (i + 1) (j + 1)) (min (H + rS w H m (i + 1) j) (H + rS w H m i (j + 1)))) := by
        unfold rS
        have := gR_s w H m (w - (i + 1)) (w - (j + 1))
        rw [show w - (i + 1) + 1 = w - i by omega, show w - (j + 1) + 1 = w - j by omega, show w - (w - i) = i by omega, show w - (w - j) = j by omega] at this
        exact this
      unfold oM oL oR
      rw [e, if_pos (show i < w by omega), if_pos (show j < w by omega)]
      by_cases q : m i j = -4
      · rw [if_pos q, if_pos q]; omega
      · rw [if_neg q, if_neg q]; omega
theorem rS_ww {w H : Nat} {m : Nat → Nat → Int32} : rS w H m w w = 0 := by
  unfold rS
  rw [Nat.sub_self, gR_0, Nat.mul_zero]
/-- which step a path takes behind i left and j right squares -/
def ch (w H : Nat) (m : Nat → Nat → Int32) (i j : Nat) : Nat := if ¬ m i j = -4 ∧ rS w H m i j = (m i j).toNatClampNeg + rS w H m (i + 1) (j + 1) then 0 else if i < w ∧ rS w H m i j = H + rS w H m (i + 1) j then 1 else 2
def nxt (w H : Nat) (m : Nat → Nat → Int32) (p : Nat × Nat) : Nat × Nat := if p.1 = w ∧ p.2 = w then p else if ch w H m p.1 p.2 = 0 then (p.1 + 1, p.2 + 1) else if ch w H m p.1 p.2 = 1 then (p.1 + 1, p.2) else (p.1, p.2 + 1)
def pos (w H : Nat) (m : Nat → Nat → Int32) : Nat → Nat × Nat
  | 0 => (0, 0)
  | n + 1 => nxt w H m (pos w H m n)
def mtN (w H : Nat) (m : Nat → Nat → Int32) : Nat → Nat → Int32
  | 0 => fun _ => 0
  | n + 1 => if (pos w H m n).1 = w ∧ (pos w H m n).2 = w then mtN w H m n else if ch w H m (pos w H m n).1 (pos w H m n).2 = 0 then upd (mtN w H m n) (pos w H m n).1 (nI ((pos w H m n).1 - (pos w H m n).2)) else if ch w H m (pos w H m n).1 (pos w H m n).2 = 1 then upd (mtN w H m n) (pos w H m n).1 (-4) else mtN w H m n
theorem ch_cases {w H : Nat} {m : Nat → Nat → Int32} (hw : w ≤ 20) (hH : H ≤ 20) (hm : MCk w m) {i j : Nat} (hi : i ≤ w) (hj : j ≤ w) (hne : ¬ (i = w ∧ j = w)) : (ch w H m i j = 0 ∧ i < w ∧ j < w ∧ j ≤ i) ∨ (ch w H m i j = 1 ∧ i < w) ∨ (ch w H m i j = 2 ∧ j < w) := by
  unfold ch
  by_cases q : ¬ m i j = -4 ∧ rS w H m i j = (m i j).toNatClampNeg + rS w H m (i + 1) (j + 1)
  · have := (hm i j).elim (fun z => absurd z q.1) id
    exact Or.inl ⟨if_pos q, this.1, this.2.1, this.2.2.1⟩
  · rw [if_neg q]
    by_cases q2 : i < w ∧ rS w H m i j = H + rS w H m (i + 1) j
    · rw [if_pos q2]; exact Or.inr (Or.inl ⟨rfl, q2.1⟩)
    · rw [if_neg q2]
      refine Or.inr (Or.inr ⟨rfl, ?_⟩)
      rcases Nat.lt_or_ge j w with z | z
      · exact z
      · exfalso
        apply q2
        refine ⟨by omega, ?_⟩
        unfold rS
        rw [show w - j = 0 by omega, gR_a0, gR_a0, mul1 H (w - i) (by omega), show w - i - 1 = w - (i + 1) by omega]
theorem pos_ok {w H : Nat} {m : Nat → Nat → Int32} (hw : w ≤ 20) (hH : H ≤ 20) (hm : MCk w m) : ∀ n, (pos w H m n).1 ≤ w ∧ (pos w H m n).2 ≤ w ∧ ((pos w H m n).1 = w ∧ (pos w H m n).2 = w ∨ n ≤ (pos w H m n).1 + (pos w H m n).2)
  | 0 => ⟨Nat.zero_le _, Nat.zero_le _, Or.inr (Nat.zero_le _)⟩
  | n + 1 => by
    obtain ⟨h1, h2, h3⟩ := pos_ok hw hH hm n
    have e : pos w H m (n + 1) = nxt w H m (pos w H m n) := rfl
    rw [e]
    generalize pos w H m n = p at *
    unfold nxt
    by_cases q : p.1 = w ∧ p.2 = w
    · rw [if_pos q]; exact ⟨h1, h2, Or.inl q⟩
    · rw [if_neg q]
      have h3 := h3.elim (fun z => absurd z q) id
      rcases ch_cases (H := H) hw hH hm h1 h2 q with ⟨c, c1, c2, c3⟩ | ⟨c, c1⟩ | ⟨c, c1⟩
      · rw [if_pos c]; exact ⟨c1, c2, Or.inr (by show n + 1 ≤ p.1 + 1 + (p.2 + 1); omega)⟩
      · rw [if_neg (by omega), if_pos c]; exact ⟨c1, h2, Or.inr (by show n + 1 ≤ p.1 + 1 + p.2; omega)⟩
      · rw [if_neg (by omega), if_neg (by omega)]; exact ⟨h1, c1, Or.inr (by show n + 1 ≤ p.1 + (p.2 + 1); omega)⟩
theorem pos_end {w H : Nat} {m : Nat → Nat → Int32} (hw : w ≤ 20) (hH : H ≤ 20) (hm : MCk w m) : (pos w H m (2 * w)).1 = w ∧ (pos w H m (2 * w)).2 = w := by
  have := pos_ok (H := H) hw hH hm (2 * w)
  omega
theorem pos_stay {w H : Nat} {m : Nat → Nat → Int32} {n : Nat} (h : (pos w H m n).1 = w ∧ (pos w H m n).2 = w) : ∀ k, (pos w H m (n + k)).1 = w ∧ (pos w H m (n + k)).2 = w ∧ mtN w H m (n + k) = mtN w H m n
  | 0 => ⟨h.1, h.2, rfl⟩
  | k + 1 => by
    obtain ⟨h1, h2, h3⟩ := pos_stay h k
    have e : pos w H m (n + (k + 1)) = pos w H m (n + k) := if_pos ⟨h1, h2⟩
    have e2 : mtN w H m (n + (k + 1)) = mtN w H m (n + k) := if_pos ⟨h1, h2⟩
    rw [e, e2]
    exact ⟨h1, h2, h3⟩
noncomputable def mcS (w h D : Nat) (L R : Nat → Int32) (y i j : Nat) : Int32 := if i < w ∧ j < w ∧ j ≤ i ∧ i - j ≤ D then costS w h L R i y (i - j) else -4
theorem mcS_k (w h D : Nat) (L R : Nat → Int32) (y : Nat) : MCk w (mcS w h D L R y) := by
  intro i j
  unfold mcS
  by_cases q : i < w ∧ j < w ∧ j ≤ i ∧ i - j ≤ D
  · rw [if_pos q]
    rcases costS_cases (w := w) (h := h) (L := L) (R := R) i y (i - j) with ⟨-, e, -⟩ | ⟨-, e, -⟩
    · exact Or.inl e
    · exact Or.inr ⟨q.1, q.2.1, q.2.2.1, _, cc_le w h L R i y (i - j), e⟩
  · rw [if_neg q]; exact Or.inl rfl
noncomputable def mtS (w h D H : Nat) (L R : Nat → Int32) (y : Nat) : Nat → Int32 := mtN w H (mcS w h D L R y) (2 * w)
noncomputable def ptS (w h D H : Nat) (L R : Nat → Int32) (y : Nat) : Nat := rS w H (mcS w h D L R y) 0 0
/-- the step in full -/
theorem mt_0 {w H : Nat} {m : Nat → Nat → Int32} {n i j : Nat} (e : pos w H m n = (i, j)) (hne : ¬ (i = w ∧ j = w)) (c : ch w H m i j = 0) : pos w H m (n + 1) = (i + 1, j + 1) ∧ mtN w H m (n + 1) = upd (mtN w H m n) i (nI (i - j)) := by
  have e1 : pos w H m (n + 1) = nxt w H m (pos w H m n) := rfl
  constructor
  · rw [e1, e]; unfold nxt; rw [if_neg hne, if_pos c]
  · simp only [mtN, e]; rw [if_neg hne, if_pos c]
theorem mt_1 {w H : Nat} {m : Nat → Nat → Int32} {n i j : Nat} (e : pos w H m n = (i, j)) (hne : ¬ (i = w ∧ j = w)) (c : ch w H m i j = 1) : pos w H m (n + 1) = (i + 1, j) ∧ mtN w H m (n + 1) = upd (mtN w H m n) i (-4) := by
  have e1 : pos w H m (n + 1) = nxt w H m (pos w H m n) := rfl
  have c0 : ¬ ch w H m i j = 0 := by omega
  constructor
  · rw [e1, e]; unfold nxt; rw [if_neg hne, if_neg c0, if_pos c]
  · simp only [mtN, e]; rw [if_neg hne, if_neg c0, if_pos c]
theorem mt_2 {w H : Nat} {m : Nat → Nat → Int32} {n i j : Nat} (e : pos w H m n = (i, j)) (hne : ¬ (i = w ∧ j = w)) (c : ch w H m i j = 2) : pos w H m (n + 1) = (i, j + 1) ∧ mtN w H m (n + 1) = mtN w H m n := by
  have e1 : pos w H m (n + 1) = nxt w H m (pos w H m n) := rfl
  have c0 : ¬ ch w H m i j = 0 := by omega
  have c1 : ¬ ch w H m i j = 1 := by omega
  constructor
  · rw [e1, e]; unfold nxt; rw [if_neg hne, if_neg c0, if_neg c1]
  · simp only [mtN, e]; rw [if_neg hne, if_neg c0, if_neg c1]
theorem mn_nI {a b : Nat} (ha : a < 2 ^ 31) (hb : b < 2 ^ 31) : mn (nI a) (nI b) = nI (min a b) := by
  unfold mn
  by_cases q : b < a
  · rw [if_pos (nI_lt q ha), Nat.min_eq_right (by omega)]
  · rw [if_neg (nI_nlt (by omega) hb), Nat.min_eq_left (by omega)]
