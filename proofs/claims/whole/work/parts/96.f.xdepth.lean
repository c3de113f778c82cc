/-! depths: least sums; what is told -/
def argL (f : Nat → Int32) (k : Nat) : Nat → Nat
  | 0 => 0
  | n + 1 => if f (9 * k + argL f k n) ≤ f (9 * k + (n + 1)) then argL f k n else n + 1
def argR (f : Nat → Int32) (k a : Nat) : Nat → Nat
  | 0 => 0
  | n + 1 => if a < n + 1 then argR f k a n else if f (9 * (k + argR f k a n) + argR f k a n) ≤ f (9 * (k + (n + 1)) + (n + 1)) then argR f k a n else n + 1
theorem argL_le (f : Nat → Int32) (k : Nat) : ∀ n, argL f k n ≤ n
  | 0 => Nat.le_refl _
  | n + 1 => by
    have := argL_le f k n
    simp only [argL]
    split <;> omega
theorem argR_le (f : Nat → Int32) (k a : Nat) : ∀ n, argR f k a n ≤ n ∧ argR f k a n ≤ a
  | 0 => ⟨Nat.le_refl _, Nat.zero_le _⟩
  | n + 1 => by
    have := argR_le f k a n
    simp only [argR]
    split
    · omega
    · split <;> omega
theorem argL_cong {f g : Nat → Int32} {k : Nat} : ∀ {n : Nat}, (∀ d, d ≤ n → f (9 * k + d) = g (9 * k + d)) → argL f k n = argL g k n
  | 0, _ => rfl
  | n + 1, h => by
    have e := argL_cong (f := f) (g := g) (k := k) (n := n) (fun d hd => h d (by omega))
    have := argL_le g k n
    show (if f (9 * k + argL f k n) ≤ f (9 * k + (n + 1)) then argL f k n else n + 1) = (if g (9 * k + argL g k n) ≤ g (9 * k + (n + 1)) then argL g k n else n + 1)
    rw [e, h (n + 1) (Nat.le_refl _), h (argL g k n) (by omega)]
theorem argR_cong {f g : Nat → Int32} {k a : Nat} : ∀ {n : Nat}, (∀ d, d ≤ n → d ≤ a → f (9 * (k + d) + d) = g (9 * (k + d) + d)) → argR f k a n = argR g k a n
  | 0, _ => rfl
  | n + 1, h => by
    have e := argR_cong (f := f) (g := g) (k := k) (a := a) (n := n) (fun d hd => h d (by omega))
    have := argR_le g k a n
    show (if a < n + 1 then argR f k a n else if f (9 * (k + argR f k a n) + argR f k a n) ≤ f (9 * (k + (n + 1)) + (n + 1)) then argR f k a n else n + 1) = (if a < n + 1 then argR g k a n else if g (9 * (k + argR g k a n) + argR g k a n) ≤ g (9 * (k + (n + 1)) + (n + 1)) then argR g k a n else n + 1)
    rw [e]
    by_cases q : a < n + 1
    · rw [if_pos q, if_pos q]
    · rw [if_neg q, if_neg q, h (n + 1) (Nat.le_refl _) (by omega), h (argR g k a n) (by omega) (by omega)]
theorem argR_min {f : Nat → Int32} {k a : Nat} : ∀ {n : Nat}, argR f k a n = argR f k a (min n a)
  | 0 => by rw [Nat.zero_min]
  | n + 1 => by
    by_cases q : a < n + 1
    · rw [show min (n + 1) a = min n a by omega, ← argR_min (n := n)]
      exact if_pos q
    · rw [show min (n + 1) a = n + 1 by omega]
theorem leftDepth_w {M : Mem} {k D : Nat} (hk : k < 200) (hD : D ≤ 8) {Q : Int32 → Mem → Prop} (g : Q (nI (argL (M 36) k D)) M) : wX9_leftDepth M (nI k) (nI D) Q := by
  refine forN (fun n z (p : Int32 × Mem) => wX9_leftDepth_L5 _ Q n (nI k) (nI D) p.1 z p.2) (fun d p => 1 ≤ d ∧ p.2 = M ∧ p.1 = nI (argL (M 36) k (d - 1))) (D + 1) ?_ ?_ 1 (0, M) (by omega) ⟨Nat.le_refl _, rfl, rfl⟩
  · intro n p hI
    obtain ⟨-, h1, h2⟩ := hI
    rw [wX9_leftDepth_L5_s]
    refine pk_lt D (D + 1) (fun _ => ?_) (fun q => absurd q (by omega))
    rw [h1, h2]; exact g
  · intro n d p hd hI ih
    obtain ⟨h0, h1, h2⟩ := hI
    rw [wX9_leftDepth_L5_s, h1, h2]
    have hl := argL_le (M 36) k (d - 1)
    refine pk_lt D d (fun q => absurd q (by omega)) (fun _ => ?_)
    rw [i9, i9, nI_clamp (by omega), nI_clamp (by omega)]
    have st : argL (M 36) k d = (if M 36 (9 * k + argL (M 36) k (d - 1)) ≤ M 36 (9 * k + d) then argL (M 36) k (d - 1) else d) := by
      obtain ⟨m, rfl⟩ : ∃ m, d = m + 1 := ⟨d - 1, by omega⟩
      rfl
    refine ⟨vp_in_nI (by omega) (by omega), vp_in_nI (by omega) (by omega), fun q x2 ex2 => ?_, fun q x2 ex2 => ?_⟩
    · rw [ex2, nI_1]
      refine ih (_, M) ⟨by omega, rfl, ?_⟩
      rw [Nat.add_sub_cancel, st, if_pos q]; rfl
    · rw [ex2, nI_1]
      refine ih (_, M) ⟨by omega, rfl, ?_⟩
      rw [Nat.add_sub_cancel, st, if_neg q]; rfl
theorem i9p (k e d : Nat) : ((nI k + nI e) * 9) + nI d = nI (9 * (k + e) + d) := by rw [nI_add, i9]
theorem rightDepth_w {M : Mem} {k a m : Nat} (hk : k + a < 200) (hm : m ≤ 8) (hma : m ≤ a) {Q : Int32 → Mem → Prop} (g : Q (nI (argR (M 36) k a m)) M) : wX9_rightDepth M (nI k) (nI m) Q := by
  refine forN (fun n z (p : Int32 × Mem) => wX9_rightDepth_L5 _ Q n (nI k) (nI m) p.1 z p.2) (fun d p => 1 ≤ d ∧ p.2 = M ∧ p.1 = nI (argR (M 36) k a (d - 1))) (m + 1) ?_ ?_ 1 (0, M) (by omega) ⟨Nat.le_refl _, rfl, rfl⟩
  · intro n p hI
    obtain ⟨-, h1, h2⟩ := hI
    rw [wX9_rightDepth_L5_s]
    refine pk_lt m (m + 1) (fun _ => ?_) (fun q => absurd q (by omega))
    rw [h1, h2]; exact g
  · intro n d p hd hI ih
    obtain ⟨h0, h1, h2⟩ := hI
    rw [wX9_rightDepth_L5_s, h1, h2]
    have hl := argR_le (M 36) k a (d - 1)
    refine pk_lt m d (fun q => absurd q (by omega)) (fun _ => ?_)
    rw [i9p, i9p, nI_clamp (by omega), nI_clamp (by omega)]
    have st : argR (M 36) k a d = (if M 36 (9 * (k + argR (M 36) k a (d - 1)) + argR (M 36) k a (d - 1)) ≤ M 36 (9 * (k + d) + d) then argR (M 36) k a (d - 1) else d) := by
      obtain ⟨m2, rfl⟩ : ∃ m, d = m + 1 := ⟨d - 1, by omega⟩
      exact if_neg (by omega)
    refine ⟨vp_in_nI (by omega) (by omega), vp_in_nI (by omega) (by omega), fun q x2 ex2 => ?_, fun q x2 ex2 => ?_⟩
    · rw [ex2, nI_1]
      refine ih (_, M) ⟨by omega, rfl, ?_⟩
      rw [Nat.add_sub_cancel, st, if_pos q]; rfl
    · rw [ex2, nI_1]
      refine ih (_, M) ⟨by omega, rfl, ?_⟩
      rw [Nat.add_sub_cancel, st, if_neg q]; rfl
noncomputable def dL (w h D P Q : Nat) (L R : Nat → Int32) (x y : Nat) : Nat := argL (tot w h D P Q L R) (y * w + x) D
noncomputable def dR (w h D P Q : Nat) (L R : Nat → Int32) (x y : Nat) : Nat := argR (tot w h D P Q L R) (y * w + x) (w - 1 - x) D
theorem dL_at {w h D P Q : Nat} {L R f : Nat → Int32} (hf : At9 w h D f (tot w h D P Q L R)) {x y : Nat} (hx : x < w) (hy : y < h) : argL f (y * w + x) D = dL w h D P Q L R x y := argL_cong (fun d hd => hf x y hx hy d hd)
theorem dR_at {w h D P Q : Nat} {L R f : Nat → Int32} (hf : At9 w h D f (tot w h D P Q L R)) {x y : Nat} (hx : x < w) (hy : y < h) : argR f (y * w + x) (w - 1 - x) D = dR w h D P Q L R x y := argR_cong (fun d hd ha => by
  have := hf (x + d) y (by omega) hy d hd
  rw [show y * w + x + d = y * w + (x + d) by omega]
  exact this)
noncomputable def toldS (w h D P Q : Nat) (L R : Nat → Int32) (x y : Nat) : Int32 := if L (y * w + x) = -5 then -11 else if x < dL w h D P Q L R x y then -12 else if R (y * w + (x - dL w h D P Q L R x y)) = -5 then -13 else if dR w h D P Q L R (x - dL w h D P Q L R x y) y = dL w h D P Q L R x y then nI (dL w h D P Q L R x y) else -14
theorem dL_le {w h D P Q : Nat} {L R : Nat → Int32} {x y : Nat} : dL w h D P Q L R x y ≤ D := argL_le _ _ _
theorem dR_le {w h D P Q : Nat} {L R : Nat → Int32} {x y : Nat} : dR w h D P Q L R x y ≤ D := (argR_le _ _ _ _).1
theorem tell_w {M : Mem} {w h D P Qr : Nat} {L R : Nat → Int32} (hw : w ≤ 20) (hh : h ≤ 10) (hD : D ≤ 8) (hc : CostOK w h L R (M 27) (M 22) (M 26)) (hf : At9 w h D (M 36) (tot w h D P Qr L R)) {x y : Nat} (hx : x < w) (hy : y < h) {Q : Int32 → Mem → Prop} (g : Q (toldS w h D P Qr L R x y) M) : wX2_tell M (nI (y * w + x)) (nI x) (nI (w - 1 - x)) (nI D) Q := by
  have hk := pl200 hw hh hx hy
  have c := hc x y hx hy
  unfold wX2_tell
  rw [nI_clamp (by omega), c.2.1]
  unfold toldS at g
  refine ⟨vp_in_nI hk (by omega), fun q => ?_, fun q => ?_⟩
  · rw [if_neg (lo0.mp q)] at g
    refine leftDepth_w hk hD ?_
    rw [dL_at hf hx hy]
    have hd : dL w h D P Qr L R x y ≤ D := dL_le
    generalize dL w h D P Qr L R x y = d at g hd ⊢
    refine pk_le d x (fun q2 => ?_) (fun q2 => ?_)
    · rw [if_neg (by omega)] at g
      have e : nI (y * w + x) - nI d = nI (y * w + (x - d)) := by rw [pk_sub (by omega)]; congr 1; omega
      rw [e, nI_clamp (by omega)]
      have c2 := hc (x - d) y (by omega) hy
      rw [c2.2.2]
      refine ⟨vp_in_nI (by omega) (by omega), fun q3 v ev => ?_, fun q3 => ?_⟩
      · rw [if_neg (lo0.mp q3)] at g
        have ev2 : v = nI (min D (w - 1 - (x - d))) := by
          rw [ev, nI_add]
          by_cases z : w - 1 - x + d < D
          · rw [if_pos (nI_lt z (by omega))]; congr 1; omega
          · rw [if_neg (nI_nlt (by omega) (by omega))]; congr 1; omega
        rw [ev2]
        refine rightDepth_w (a := w - 1 - (x - d)) (by have := pl200 hw hh (show w - 1 < w by omega) hy; omega) (by omega) (by omega) ?_
        rw [← argR_min, dR_at hf (by omega) hy]
        have hr : dR w h D P Qr L R (x - d) y ≤ D := dR_le
        refine ⟨fun z => ?_, fun z => ?_⟩
        · rw [if_neg (fun z2 => z (by rw [z2]))] at g; exact g
        · rw [if_pos ((nI_eq (by omega) (by omega)).mp z)] at g; exact g
      · by_cases z : R (y * w + (x - d)) = -5
        · rw [if_pos z] at g; exact g
        · exact absurd (lo0.mpr z) q3
    · rw [if_pos q2] at g; exact g
  · by_cases z : L (y * w + x) = -5
    · rw [if_pos z] at g; exact g
    · exact absurd (lo0.mpr z) q
def ToldOK (w h D P Q : Nat) (L R f : Nat → Int32) : Prop := ∀ x y, x < w → y < h → f (y * w + x) = toldS w h D P Q L R x y
def C5 (M : Mem) (w h D P Q : Nat) (L R : Nat → Int32) : Prop := M 37 1 = 0 ∨ ToldOK w h D P Q L R (M 38)
theorem tellAll_w {M : Mem} {w h D P Qr : Nat} {L R : Nat → Int32} (hd : Dim M w h) (hD : D ≤ 8) (hc : CostOK w h L R (M 27) (M 22) (M 26)) (hf : At9 w h D (M 36) (tot w h D P Qr L R)) {Q : Mem → Prop} (g : ∀ N : Mem, (∀ c, c ≠ 37 → c ≠ 38 → N c = M c) → ToldOK w h D P Qr L R (N 38) → Q N) : wX2_tellAll M (nI D) Q := by
  have hw : w ≤ 20 := hd.2.1
  have hh : h ≤ 10 := hd.2.2.2.1
  let F : Nat → Mem → Prop := fun k N => (∀ c, c ≠ 38 → N c = M c) ∧ ∀ x y, x < w → y < h → y * w + x < k → N 38 (y * w + x) = toldS w h D P Qr L R x y
  have dm : ∀ {k N}, F k N → Dim N w h := fun hF => by unfold Dim; rw [hF.1 1 (by decide)]; exact hd
  refine forN (fun n z N => wX2_tellAll_L3 _ Q n (nI D) z N) (fun y N => F (y * w) N) h ?_ ?_ 0 M (by omega) ⟨fun _ _ => rfl, fun x y _ _ q => absurd q (by omega)⟩
  · intro n N hF
    rw [wX2_tellAll_L3_s]
    refine pk_le h h (fun _ => ?_) (fun q => absurd q (by omega)) (hx := (dm hF).2.2.2.2.2)
    intro N2 e2
    refine g N2 (fun c c1 c2 => by rw [e2, up_n _ _ c1, hF.1 c c2]) (fun x y hx hy => ?_)
    rw [e2, up_n _ _ (by decide)]
    have := pl_lt hx hy
    exact hF.2 x y hx hy (by rw [Nat.mul_comm h w]; exact this)
  · intro n y N hy hF ih
    rw [wX2_tellAll_L3_s]
    refine pk_le h y (fun q => absurd q (by omega)) (fun _ => ?_) (hx := (dm hF).2.2.2.2.2)
    refine forN (fun n z N => wX2_tellAll_L15 _ Q n (nI D) (nI y) z N) (fun x N => F (y * w + x) N) w ?_ ?_ 0 N (by omega) hF
    · intro n N3 hF3
      rw [wX2_tellAll_L15_s]
      refine pk_le w w (fun _ => ?_) (fun q => absurd q (by omega)) (hx := (dm hF3).2.2.2.2.1)
      intro x2 ex2
      rw [ex2, nI_1]
      refine ih N3 ?_
      rw [Nat.add_mul, Nat.one_mul]
      exact hF3
    · intro n x N3 hx hF3 ih2
      rw [wX2_tellAll_L15_s]
      refine pk_le w x (fun q => absurd q (by omega)) (fun _ => ?_) (hx := (dm hF3).2.2.2.2.1)
      refine placeOf_w (dm hF3) ?_
      intro x8 e8
      have e8' : x8 = nI (w - 1 - x) := by rw [e8, (dm hF3).2.2.2.2.1, nI_m1 hd.1, pk_sub (by omega)]
      rw [e8']
      have hk := pl200 hw hh hx hy
      refine tell_w (P := P) (Qr := Qr) (L := L) (R := R) hw hh hD (by rw [hF3.1 27 (by decide), hF3.1 22 (by decide), hF3.1 26 (by decide)]; exact hc) (by rw [hF3.1 36 (by decide)]; exact hf) hx hy ?_
      rw [nI_clamp (by omega)]
      refine ⟨vp_in_nI hk (by omega), fun N5 e5 x2 ex2 => ?_⟩
      rw [ex2, nI_1]
      refine ih2 N5 ⟨fun c hc => by rw [e5, up_n _ _ hc, hF3.1 c hc], fun u v hu hv q => ?_⟩
      rw [e5, up_s]
      by_cases z : v * w + u = y * w + x
      · obtain ⟨z3, z4⟩ := pl_inj hu hx z
        rw [z, pk_us, z3, z4]
      · rw [pk_un z]; exact hF3.2 u v hu hv (by omega)
def cD (c : Nat) : Prop := cS c ∨ c = 37 ∨ c = 38
theorem refreshDepths_w {M : Mem} {w h D H P Qr T : Nat} {L R : Nat → Int32} (hx : VX M w h L R) (hr : RX M D H P Qr T) (h1 : C1 M w h L R) (h2 : C2 M w h D L R) (h3 : C3 M w h D P Qr L R) (h4 : C4 M w h D P Qr L R) (h5 : C5 M w h D P Qr L R) {Q : Mem → Prop} (g : ∀ N : Mem, (∀ c, ¬ cD c → N c = M c) → CostOK w h L R (N 27) (N 22) (N 26) → C2 N w h D L R → C3 N w h D P Qr L R → At9 w h D (N 36) (tot w h D P Qr L R) → ToldOK w h D P Qr L R (N 38) → Q N) : wX10_refreshDepths M Q := by
  refine refreshSums_w hx hr h1 h2 h3 h4 (fun N f1 f2 f3 f4 f5 => ?_)
  have e : ∀ c, (c = 1 ∨ c = 17 ∨ c = 37 ∨ c = 38) → N c = M c := fun c hc => f1 c (by unfold cS cC; omega)
  refine ⟨fun q => ?_, fun q => ⟨pk_in 0 5 (by omega), ?_⟩⟩
  · refine g N (fun c hc => f1 c (fun z => hc (Or.inl z))) f2 f3 f4 f5 ?_
    rw [e 38 (by omega)]
    rw [e 37 (by omega)] at q
    exact h5.elim (fun z => absurd z q) id
  · have dN : Dim N w h := by unfold Dim; rw [e 1 (by omega)]; exact hx.1
    rw [cl0, (hr.of (e 17 (by omega))).2.1]
    refine tellAll_w dN hr.1.1 f2 f5 (fun N2 k1 k2 => ?_)
    refine g N2 (fun c hc => ?_) ?_ ?_ ?_ ?_ k2
    · unfold cD at hc
      rw [k1 c (by omega) (by omega), f1 c (fun z => hc (Or.inl z))]
    · rw [k1 27 (by decide) (by decide), k1 22 (by decide) (by decide), k1 26 (by decide) (by decide)]; exact f2
    · unfold C2; rw [k1 32 (by decide) (by decide), k1 33 (by decide) (by decide)]; exact f3
    · unfold C3; rw [k1 32 (by decide) (by decide), k1 34 (by decide) (by decide)]; exact f4
    · rw [k1 36 (by decide) (by decide)]; exact f5
