/-! copy -/
def CoC (w : Nat) (a : Int32) (N : Nat) : Prop := ∃ x : Nat, x + N ≤ w ∧ a = nI x
theorem hasColumns_w {M : Mem} {w h : Nat} (hd : Dim M w h) {a : Int32} {N : Nat} (hN : N < 2 ^ 31) {Q : Int32 → Mem → Prop} (h1 : ∀ x : Nat, x + N ≤ w → a = nI x → Q 1 M) (h0 : ¬ CoC w a N → Q 0 M) : wX6_hasColumns M a (nI N) Q := by
  obtain ⟨d1, d2, d3, d4, d5, d6⟩ := hd
  unfold wX6_hasColumns
  rw [d5]
  refine ⟨fun q => h0 ?_, fun q => ⟨fun q2 => h0 ?_, fun q2 => ?_⟩⟩
  · rintro ⟨x, hx, rfl⟩
    exact absurd q (nI_pos (by omega))
  · rintro ⟨x, hx, rfl⟩
    exact absurd q2 (nI_nlt (by omega) (by omega))
  · obtain ⟨x, x1, x2, rfl⟩ := rng_of (lo := 0) (hi := w) (by omega) (by omega) q q2
    rw [pk_sub x2]
    refine pk_lt (w - x) N (fun q3 => h0 ?_) (fun q3 => h1 x (by omega) rfl)
    rintro ⟨x3, hx, e⟩
    have : x = x3 := (nI_eq (by omega) (by omega)).mp e
    omega
theorem inCol_w {M : Mem} {w N : Nat} {a hi : Int32} (hw : w ≤ 20) (hN : N ≤ w) (e : hi = nI (w - N)) {Q : Int32 → Mem → Prop} (h1 : ∀ x : Nat, x + N ≤ w → a = nI x → Q 1 M) (h0 : ¬ CoC w a N → Q 0 M) : wX11_in M a 0 hi Q := by
  refine in_ix (n := w - N + 1) (by omega) (by omega) (by rw [e]; rfl) (fun x hx ex => h1 x (by omega) ex) (fun q => h0 (fun z => q ?_))
  obtain ⟨x, hx, ex⟩ := z
  exact ⟨x, by omega, ex⟩
def cel (a : Int32) : Nat := if a = 0 then 3 else 6
/-- memory moved as a whole, inside one row of numbers -/
def mv (f : Nat → Int32) (p q n : Nat) : Nat → Int32 := fun k => if q ≤ k ∧ k < q + n then f (p + (k - q)) else f k
theorem copyLoop {M : Mem} {p q N : Nat} (hp : p + N ≤ 400) (hq : q + N ≤ 400) (hg : ∀ k, k < 400 → M 2 k = 0 ∨ M 2 k = 1) {K : Int32 → Mem → Prop} {Q : Int32 → Mem → Prop} (g : ∀ R : Mem, (∀ c, c ≠ 1 → c ≠ 2 → R c = M c) → R 1 = mv (M 1) p q N → R 2 = mv (M 2) p q N → K (nI N) R) : ∃ n, wX11_copy_L133 K Q n (nI N) (nI p) (nI q) 0 M := by
  by_cases dir : q ≤ p
  · refine forN (fun n x M => wX11_copy_L133 K Q n (nI N) (nI p) (nI q) x M) (fun i R => (∀ c, c ≠ 1 → c ≠ 2 → R c = M c) ∧ R 1 = mv (M 1) p q i ∧ R 2 = mv (M 2) p q i) N ?_ ?_ 0 M (by omega) ⟨fun _ _ _ => rfl, ?_, ?_⟩
    · intro n R hI
      rw [wX11_copy_L133_s]
      exact pk_le N N (fun _ => g R hI.1 hI.2.1 hI.2.2) (fun q => absurd q (by omega))
    · intro n i R hi hI ih
      obtain ⟨h1, h2, h3⟩ := hI
      have st : ∀ f : Nat → Int32, upd (mv f p q i) (q + i) (mv f p q i (p + i)) = mv f p q (i + 1) := by
        intro f
        funext k
        have e1 : mv f p q i (p + i) = f (p + i) := if_neg (by omega)
        rw [e1]
        unfold upd mv
        by_cases k1 : k = q + i
        · rw [if_pos k1, if_pos (by omega), k1, show q + i - q = i by omega]
        · rw [if_neg k1]
          by_cases k2 : q ≤ k ∧ k < q + i
          · rw [if_pos k2, if_pos (by omega)]
          · rw [if_neg k2, if_neg (by omega)]
      have z : ∀ k, k < 400 → R 2 k = 0 ∨ R 2 k = 1 := by
        intro k hk
        rw [h3]
        unfold mv
        split
        · exact hg _ (by omega)
        · exact hg k hk
      rw [wX11_copy_L133_s]
      refine pk_le N i (fun q => absurd q (by omega)) (fun _ => pk_le q p (fun _ => ?_) (fun z => absurd dir (by omega)))
      unfold wX11_copy_J159
      rw [nI_add, nI_add, nI_clamp (by omega), nI_clamp (by omega)]
      refine ⟨vp_in_nI (by omega) (by omega), vp_in_nI (by omega) (by omega), fun R1 e1 => ⟨vp_in_nI (by omega) (by omega), vp_in_nI (by omega) (by omega), ?_, fun R2 e2 x2 ex2 => ?_⟩⟩
      · rw [e1, up_n _ _ (by decide)]; exact z _ (by omega)
      · rw [ex2, nI_1]
        refine ih R2 ⟨fun c c1 c2 => by rw [e2, up_n _ _ c2, e1, up_n _ _ c1, h1 c c1 c2], ?_, ?_⟩
        · rw [e2, up_n _ _ (by decide), e1, up_s, h2]; exact st _
        · rw [e2, up_s, e1, up_n _ _ (by decide), h3]; exact st _
    · funext k; unfold mv; rw [if_neg (by omega)]
    · funext k; unfold mv; rw [if_neg (by omega)]
  · refine forN (fun n x M => wX11_copy_L133 K Q n (nI N) (nI p) (nI q) x M) (fun i R => (∀ c, c ≠ 1 → c ≠ 2 → R c = M c) ∧ R 1 = mv (M 1) (p + (N - i)) (q + (N - i)) i ∧ R 2 = mv (M 2) (p + (N - i)) (q + (N - i)) i) N ?_ ?_ 0 M (by omega) ⟨fun _ _ _ => rfl, ?_, ?_⟩
    · intro n R hI
      rw [wX11_copy_L133_s]
      have hI := hI
      rw [Nat.sub_self, Nat.add_zero, Nat.add_zero] at hI
      exact pk_le N N (fun _ => g R hI.1 hI.2.1 hI.2.2) (fun q => absurd q (by omega))
    · intro n i R hi hI ih
      obtain ⟨h1, h2, h3⟩ := hI
      have st : ∀ f : Nat → Int32, upd (mv f (p + (N - i)) (q + (N - i)) i) (q + (N - 1 - i)) (mv f (p + (N - i)) (q + (N - i)) i (p + (N - 1 - i))) = mv f (p + (N - (i + 1))) (q + (N - (i + 1))) (i + 1) := by
        intro f
        funext k
        have e1 : mv f (p + (N - i)) (q + (N - i)) i (p + (N - 1 - i)) = f (p + (N - 1 - i)) := if_neg (by omega)
        rw [e1]
        unfold upd mv
        by_cases k1 : k = q + (N - 1 - i)
        · rw [if_pos k1, if_pos (by omega), show p + (N - (i + 1)) + (k - (q + (N - (i + 1)))) = p + (N - 1 - i) by omega]
        · rw [if_neg k1]
          by_cases k2 : q + (N - i) ≤ k ∧ k < q + (N - i) + i
          · rw [if_pos k2, if_pos (by omega), show p + (N - (i + 1)) + (k - (q + (N - (i + 1)))) = p + (N - i) + (k - (q + (N - i))) by omega]
          · rw [if_neg k2, if_neg (by omega)]
      have z : ∀ k, k < 400 → R 2 k = 0 ∨ R 2 k = 1 := by
        intro k hk
        rw [h3]
        unfold mv
        split
        · exact hg _ (by omega)
        · exact hg k hk
      rw [wX11_copy_L133_s]
      refine pk_le N i (fun q => absurd q (by omega)) (fun _ => pk_le q p (fun z => absurd z dir) (fun _ => ?_))
      unfold wX11_copy_J159
      rw [nI_m1 (by omega), pk_sub (show i ≤ N - 1 by omega), nI_add, nI_add, nI_clamp (by omega), nI_clamp (by omega)]
      refine ⟨vp_in_nI (by omega) (by omega), vp_in_nI (by omega) (by omega), fun R1 e1 => ⟨vp_in_nI (by omega) (by omega), vp_in_nI (by omega) (by omega), ?_, fun R2 e2 x2 ex2 => ?_⟩⟩
      · rw [e1, up_n _ _ (by decide)]; exact z _ (by omega)
      · rw [ex2, nI_1]
        refine ih R2 ⟨fun c c1 c2 => by rw [e2, up_n _ _ c2, e1, up_n _ _ c1, h1 c c1 c2], ?_, ?_⟩
        · rw [e2, up_n _ _ (by decide), e1, up_s, h2]; exact st _
        · rw [e2, up_s, e1, up_n _ _ (by decide), h3]; exact st _
    · funext k; unfold mv; rw [if_neg (by omega)]
    · funext k; unfold mv; rw [if_neg (by omega)]
theorem pic_copy {Mx Mm Nx Nm : Mem} (hP : PicS Mx Mm) {a b : Int32} {p q N : Nat} (hp : p + N ≤ 200) (hq : q + N ≤ 200) (n4 : Nx 4 = Mx 4) (n7 : Nx 7 = Mx 7) (n8 : Nx 8 = Mx 8) (nc : Nx (cel b) = va_cpy (Mx (cel a)) (Mx (cel b)) p q N) (no : ∀ c, c = 3 ∨ c = 6 → c ≠ cel b → Nx c = Mx c) (m1 : Nm 1 = mv (Mm 1) (pm a p) (pm b q) N) (m2 : Nm 2 = mv (Mm 2) (pm a p) (pm b q) N) (m3 : Nm 3 = Mm 3) (m4 : Nm 4 = Mm 4) : PicS Nx Nm := by
  obtain ⟨h1, h2, h3, h4, h5, h6⟩ := id hP
  have sr : ∀ (c : Int32) (k : Nat), k < 200 → Mx (cel c) k = (if Mm 2 (pm c k) = 0 then Mm 1 (pm c k) else -5) := by
    intro c k hk
    have := (sq_rel hP (a := c) hk).1
    unfold sq at this
    unfold cel
    by_cases qc : c = 0
    · rw [if_pos qc] at this ⊢; exact this
    · rw [if_neg qc] at this ⊢; exact this
  have pa : ∀ (c : Int32) (k j : Nat), pm c (k + j) = pm c k + j := by
    intro c k j
    unfold pm
    split <;> omega
  have hpa : pm a p + N ≤ 400 := by unfold pm; split <;> omega
  have hqb : pm b q + N ≤ 400 := by unfold pm; split <;> omega
  have key : ∀ k, k < 200 → Nx (cel b) k = (if Nm 2 (pm b k) = 0 then Nm 1 (pm b k) else -5) := by
    intro k hk
    rw [nc, m1, m2]
    by_cases qk : q ≤ k ∧ k < q + N
    · rw [pk_cpy_in qk.1 qk.2, sr a _ (by omega)]
      have e1 : pm b k = pm b q + (k - q) := by rw [← pa, show q + (k - q) = k by omega]
      have e2 : ∀ f : Nat → Int32, mv f (pm a p) (pm b q) N (pm b k) = f (pm a (p + (k - q))) := by
        intro f
        unfold mv
        rw [if_pos (by omega), e1, pa, show pm b q + (k - q) - pm b q = k - q by omega]
      rw [e2, e2]
    · rw [pk_cpy_out (by omega), sr b k hk]
      have e1 : ∀ f : Nat → Int32, mv f (pm a p) (pm b q) N (pm b k) = f (pm b k) := by
        intro f
        have z : ¬ (pm b q ≤ pm b k ∧ pm b k < pm b q + N) := by
          unfold pm
          split <;> omega
        exact if_neg z
      rw [e1, e1]
  have key2 : ∀ (c : Int32) (k : Nat), k < 200 → cel c ≠ cel b → Nx (cel c) k = (if Nm 2 (pm c k) = 0 then Nm 1 (pm c k) else -5) := by
    intro c k hk hc
    have c36 : cel c = 3 ∨ cel c = 6 := by unfold cel; split <;> simp
    rw [no _ c36 hc, m1, m2, sr c k hk]
    have e1 : ∀ f : Nat → Int32, mv f (pm a p) (pm b q) N (pm c k) = f (pm c k) := by
      intro f
      have z : ¬ (pm b q ≤ pm c k ∧ pm c k < pm b q + N) := by
        unfold pm
        unfold cel at hc
        by_cases qc : c = 0 <;> by_cases qb : b = 0
        · rw [if_pos qc, if_pos qb] at hc; exact absurd rfl hc
        · rw [if_pos qc, if_neg qb]; omega
        · rw [if_neg qc, if_pos qb]; omega
        · rw [if_neg qc, if_neg qb] at hc; exact absurd rfl hc
      exact if_neg z
    rw [e1, e1]
  have all : ∀ (c : Int32) (k : Nat), k < 200 → Nx (cel c) k = (if Nm 2 (pm c k) = 0 then Nm 1 (pm c k) else -5) := by
    intro c k hk
    by_cases hc : cel c = cel b
    · have e : pm c k = pm b k := by
        unfold cel at hc
        unfold pm
        by_cases qc : c = 0 <;> by_cases qb : b = 0
        · rw [if_pos qc, if_pos qb]
        · rw [if_pos qc, if_neg qb] at hc; exact absurd hc (by decide)
        · rw [if_neg qc, if_pos qb] at hc; exact absurd hc (by decide)
        · rw [if_neg qc, if_neg qb]
      rw [hc, e]; exact key k hk
    · exact key2 c k hk hc
  unfold PicS
  rw [n4, n7, n8, m3, m4]
  refine ⟨fun k hk => ?_, fun k hk => ?_, fun k hk => ?_, h4, h5, h6⟩
  · rw [m1, m2]
    unfold mv
    by_cases qk : pm b q ≤ k ∧ k < pm b q + N
    · rw [if_pos qk, if_pos qk]; exact h1 _ (by omega)
    · rw [if_neg qk, if_neg qk]; exact h1 k hk
  · exact all 0 k hk
  · exact all 1 k hk
