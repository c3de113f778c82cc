/-! rules, votes, runs, sums: what they are -/
def RX (M : Mem) (D H P Q T : Nat) : Prop := (D ≤ 8 ∧ H ≤ 20 ∧ P ≤ 20 ∧ Q ≤ 40 ∧ T ≤ 255) ∧ M 17 0 = nI D ∧ M 17 1 = nI H ∧ M 17 2 = nI P ∧ M 17 3 = nI Q ∧ M 17 4 = nI T
theorem RX.of {M N : Mem} {D H P Q T : Nat} (h : RX M D H P Q T) (e : N 17 = M 17) : RX N D H P Q T := by
  unfold RX; rw [e]; exact h
noncomputable def voteS (w h : Nat) (L R : Nat → Int32) (x y d : Nat) : Int32 := if L (y * w + x) = -5 then 0 else if x < d then 8 else if costS w h L R x y d = -4 then 0 else costS w h L R x y d
def VoteOK (w h D : Nat) (L R f : Nat → Int32) : Prop := ∀ x y, x < w → y < h → ∀ d, d ≤ D → f (9 * (y * w + x) + d) = voteS w h L R x y d
def mn (a b : Int32) : Int32 := if b < a then b else a
theorem mn_max (a : Int32) : mn 2147483647 a = a := by
  unfold mn
  by_cases q : a < 2147483647
  · rw [if_pos q]
  · rw [if_neg q]
    have h1 : a.toInt < 2147483648 := a.toInt_lt
    have h2 : (2147483647 : Int32).toInt = 2147483647 := rfl
    rw [Int32.lt_iff_toInt_lt, h2] at q
    apply Int32.toInt_inj.mp
    rw [h2]
    omega
theorem mn_rc (a b c : Int32) : mn (mn a b) c = mn (mn a c) b := by
  unfold mn
  simp only [Int32.lt_iff_toInt_lt]
  by_cases h1 : b.toInt < a.toInt <;> by_cases h2 : c.toInt < a.toInt <;> by_cases h3 : c.toInt < b.toInt <;> by_cases h4 : b.toInt < c.toInt <;> simp only [h1, h2, h3, h4, if_true, if_false] <;> first | rfl | (exfalso; omega) | (apply Int32.toInt_inj.mp; omega)
def lst (f : Nat → Int32) (b : Nat) : Nat → Int32
  | 0 => 2147483647
  | n + 1 => mn (lst f b n) (f (b + n))
def best (f : Nat → Int32) (b D P Q d : Nat) : Int32 :=
  let a0 := mn (f (b + d)) (lst f b (D + 1) + nI Q)
  let a1 := if d = 0 then a0 else mn a0 (f (b + d - 1) + nI P)
  if D ≤ d then a1 else mn a1 (f (b + d + 1) + nI P)
theorem lst_cong {f g : Nat → Int32} {b : Nat} : ∀ {n : Nat}, (∀ d, d < n → f (b + d) = g (b + d)) → lst f b n = lst g b n
  | 0, _ => rfl
  | n + 1, h => by
    show mn (lst f b n) (f (b + n)) = mn (lst g b n) (g (b + n))
    rw [lst_cong (fun d hd => h d (by omega)), h n (by omega)]
theorem best_cong {f g : Nat → Int32} {b D P Q d : Nat} (hd : d ≤ D) (h : ∀ d, d ≤ D → f (b + d) = g (b + d)) : best f b D P Q d = best g b D P Q d := by
  have e := lst_cong (f := f) (g := g) (b := b) (n := D + 1) (fun d hd => h d (by omega))
  unfold best
  simp only [e, h d hd]
  have e1 : d ≠ 0 → f (b + d - 1) = g (b + d - 1) := fun q => by
    have := h (d - 1) (by omega)
    rw [show b + d - 1 = b + (d - 1) by omega]; exact this
  have e2 : ¬ D ≤ d → f (b + d + 1) = g (b + d + 1) := fun q => h (d + 1) (by omega)
  by_cases q : d = 0
  · by_cases q2 : D ≤ d
    · simp only [if_pos q, if_pos q2]
    · simp only [if_pos q, if_neg q2, e2 q2]
  · by_cases q2 : D ≤ d
    · simp only [if_neg q, if_pos q2, e1 q]
    · simp only [if_neg q, if_neg q2, e1 q, e2 q2]
theorem aZ_v : aZ 0 = -1 ∧ aZ 1 = 0 ∧ aZ 2 = 1 ∧ aZ 3 = -1 ∧ aZ 4 = 1 ∧ aZ 5 = -1 ∧ aZ 6 = 0 ∧ aZ 7 = 1 := by decide +kernel
theorem dZ_v : dZ 0 = -1 ∧ dZ 1 = -1 ∧ dZ 2 = -1 ∧ dZ 3 = 0 ∧ dZ 4 = 0 ∧ dZ 5 = 1 ∧ dZ 6 = 1 ∧ dZ 7 = 1 := by decide +kernel
/-- the n-th place in the order of a way -/
def kO (w h way n : Nat) : Nat := if way < 4 then n else w * h - 1 - n
theorem kO_lt {w h way n : Nat} (hn : n < w * h) : kO w h way n < w * h := by unfold kO; split <;> omega
theorem kO_inv {w h way k : Nat} (hk : k < w * h) : ∃ n, n < w * h ∧ kO w h way n = k := by
  unfold kO
  split
  · exact ⟨k, hk, rfl⟩
  · exact ⟨w * h - 1 - k, by omega, by omega⟩
theorem kO_inj {w h way m n : Nat} (hm : m < w * h) (hn : n < w * h) (e : kO w h way m = kO w h way n) : m = n := by
  unfold kO at e; split at e <;> omega
theorem kO_ord {w h way x y n : Nat} (hway : way < 8) (hx : x < w) (hy : y < h) (hn : n < w * h) (e : kO w h way n = y * w + x) (ip : inP w h ((x : Int) + aZ way) ((y : Int) + dZ way)) : pz w ((x : Int) + aZ way) ((y : Int) + dZ way) < w * h ∧ ∃ m, m < n ∧ kO w h way m = pz w ((x : Int) + aZ way) ((y : Int) + dZ way) := by
  obtain ⟨a0, a1, a2, a3, a4, a5, a6, a7⟩ := aZ_v
  obtain ⟨d0, d1, d2, d3, d4, d5, d6, d7⟩ := dZ_v
  obtain ⟨⟨i1, i2⟩, ⟨i3, i4⟩⟩ := ip
  have hp : pz w ((x : Int) + aZ way) ((y : Int) + dZ way) < w * h := by
    unfold pz
    exact pl_lt (by omega) (by omega)
  refine ⟨hp, ?_⟩
  have key : (way < 4 → pz w ((x : Int) + aZ way) ((y : Int) + dZ way) < y * w + x) ∧ (¬ way < 4 → y * w + x < pz w ((x : Int) + aZ way) ((y : Int) + dZ way)) := by
    unfold pz
    have up : ∀ Y : Nat, ((y : Int) + 1).toNat = Y → Y * w = y * w + w := fun Y e => by rw [← e, show ((y : Int) + 1).toNat = y + 1 by omega, Nat.add_mul, Nat.one_mul]
    have dn : 1 ≤ y → ∀ Y : Nat, ((y : Int) + -1).toNat = Y → y * w = Y * w + w := fun q Y e => by
      have : y = Y + 1 := by omega
      rw [this, Nat.add_mul, Nat.one_mul]
    rcases (show way = 0 ∨ way = 1 ∨ way = 2 ∨ way = 3 ∨ way = 4 ∨ way = 5 ∨ way = 6 ∨ way = 7 by omega) with rfl | rfl | rfl | rfl | rfl | rfl | rfl | rfl
    · rw [a0, d0] at *; have := dn (by omega) _ rfl; exact ⟨fun _ => by omega, fun q => absurd (by omega) q⟩
    · rw [a1, d1] at *; have := dn (by omega) _ rfl; exact ⟨fun _ => by omega, fun q => absurd (by omega) q⟩
    · rw [a2, d2] at *; have := dn (by omega) _ rfl; exact ⟨fun _ => by omega, fun q => absurd (by omega) q⟩
    · rw [a3, d3] at *; rw [show ((y : Int) + 0).toNat = y by omega]; exact ⟨fun _ => by omega, fun q => absurd (by omega) q⟩
    · rw [a4, d4] at *; rw [show ((y : Int) + 0).toNat = y by omega]; exact ⟨fun q => absurd q (by omega), fun _ => by omega⟩
    · rw [a5, d5] at *; have := up _ rfl; exact ⟨fun q => absurd q (by omega), fun _ => by omega⟩
    · rw [a6, d6] at *; have := up _ rfl; exact ⟨fun q => absurd q (by omega), fun _ => by omega⟩
    · rw [a7, d7] at *; have := up _ rfl; exact ⟨fun q => absurd q (by omega), fun _ => by omega⟩
  generalize pz w ((x : Int) + aZ way) ((y : Int) + dZ way) = p at *
  have hk := pl_lt hx hy
  unfold kO at e ⊢
  by_cases q : way < 4
  · rw [if_pos q] at e
    have := key.1 q
    exact ⟨p, by omega, if_pos q⟩
  · rw [if_neg q] at e
    have := key.2 q
    exact ⟨w * h - 1 - p, by omega, by rw [if_neg q]; omega⟩
/-- what a run is at a square, the runs at its neighbour being f's -/
noncomputable def rv (w h D P Q : Nat) (L R : Nat → Int32) (way : Nat) (f : Nat → Int32) (x y d : Nat) : Int32 := @ite _ (inP w h ((x : Int) + aZ way) ((y : Int) + dZ way)) (Classical.propDecidable _) (voteS w h L R x y d + best f (9 * pz w ((x : Int) + aZ way) ((y : Int) + dZ way)) D P Q d - lst f (9 * pz w ((x : Int) + aZ way) ((y : Int) + dZ way)) (D + 1)) (voteS w h L R x y d)
noncomputable def tb (w h D P Q : Nat) (L R : Nat → Int32) (way : Nat) : Nat → Nat → Int32
  | 0 => fun _ => 0
  | n + 1 => fun j => if j / 9 = kO w h way n then rv w h D P Q L R way (tb w h D P Q L R way n) (kO w h way n % w) (kO w h way n / w) (j % 9) else tb w h D P Q L R way n j
noncomputable def rn (w h D P Q : Nat) (L R : Nat → Int32) (way : Nat) : Nat → Int32 := tb w h D P Q L R way (w * h)
theorem pl_mod {w x y : Nat} (hx : x < w) : (y * w + x) % w = x := by rw [Nat.mul_comm, Nat.mul_add_mod, Nat.mod_eq_of_lt hx]
theorem pl_div {w x y : Nat} (hx : x < w) : (y * w + x) / w = y := by rw [Nat.mul_comm, Nat.mul_add_div (by omega), Nat.div_eq_of_lt hx, Nat.add_zero]
theorem tb_late {w h D P Q : Nat} {L R : Nat → Int32} {way i d : Nat} (hi : i < w * h) (hd : d < 9) : ∀ n, i < n → n ≤ w * h → tb w h D P Q L R way n (9 * kO w h way i + d) = tb w h D P Q L R way (i + 1) (9 * kO w h way i + d)
  | 0, h1, _ => absurd h1 (by omega)
  | n + 1, h1, h2 => by
    by_cases q : n = i
    · rw [q]
    · show (if (9 * kO w h way i + d) / 9 = kO w h way n then _ else tb w h D P Q L R way n (9 * kO w h way i + d)) = _
      have e : (9 * kO w h way i + d) / 9 = kO w h way i := by omega
      rw [e, if_neg (fun z => q (kO_inj (by omega) hi z.symm))]
      exact tb_late hi hd n (by omega) (by omega)
theorem rn_eq {w h D P Q : Nat} {L R : Nat → Int32} {way x y d : Nat} (hway : way < 8) (hx : x < w) (hy : y < h) (hd : d ≤ D) (hD : D ≤ 8) : rn w h D P Q L R way (9 * (y * w + x) + d) = rv w h D P Q L R way (rn w h D P Q L R way) x y d := by
  have hk := pl_lt hx hy
  obtain ⟨i, hi, ei⟩ := kO_inv (way := way) hk
  have e1 : rn w h D P Q L R way (9 * (y * w + x) + d) = tb w h D P Q L R way (i + 1) (9 * (y * w + x) + d) := by
    rw [← ei]
    exact tb_late hi (by omega) _ hi (Nat.le_refl _)
  rw [e1]
  show (if (9 * (y * w + x) + d) / 9 = kO w h way i then rv w h D P Q L R way (tb w h D P Q L R way i) (kO w h way i % w) (kO w h way i / w) ((9 * (y * w + x) + d) % 9) else _) = _
  rw [ei, if_pos (by omega), pl_mod hx, pl_div hx, show (9 * (y * w + x) + d) % 9 = d by omega]
  unfold rv
  by_cases ip : inP w h ((x : Int) + aZ way) ((y : Int) + dZ way)
  · rw [if_pos ip, if_pos ip]
    obtain ⟨hp, m, hm, em⟩ := kO_ord hway hx hy hi ei ip
    rw [← em]
    have c : ∀ d2, d2 ≤ D → tb w h D P Q L R way i (9 * kO w h way m + d2) = rn w h D P Q L R way (9 * kO w h way m + d2) := by
      intro d2 h2
      show _ = tb w h D P Q L R way (w * h) (9 * kO w h way m + d2)
      rw [tb_late (by omega) (by omega) i hm (by omega), tb_late (by omega) (by omega) (w * h) (by omega) (Nat.le_refl _)]
    rw [best_cong hd c, lst_cong (fun d2 h2 => c d2 (by omega))]
  · rw [if_neg ip, if_neg ip]
def sI (f : Nat → Int32) : Nat → Int32
  | 0 => 0
  | n + 1 => sI f n + f n
noncomputable def tot (w h D P Q : Nat) (L R : Nat → Int32) (j : Nat) : Int32 := sI (fun way => rn w h D P Q L R way j) 8
/-- an array holds f at all squares and depths -/
def At9 (w h D : Nat) (f g : Nat → Int32) : Prop := ∀ x y, x < w → y < h → ∀ d, d ≤ D → f (9 * (y * w + x) + d) = g (9 * (y * w + x) + d)
