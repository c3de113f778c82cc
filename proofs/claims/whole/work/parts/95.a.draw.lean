/-! draw -/
def rnd (s : Int32) : Nat → Int32
  | 0 => s
  | n + 1 => (1103515245 * rnd s n) + 12345
def dv (s : Int32) (n : Nat) : Int32 := jrem (jushr (rnd s (n + 1)) 16) 256
theorem dv_small (z : Int32) : ∃ u : Nat, u < 256 ∧ jrem (jushr z 16) 256 = nI u := by
  have h1 : (jushr z 16).toBitVec.toNat = z.toBitVec.toNat / 2 ^ 16 := pk_ushr z 16 16 (by decide)
  have h2 : z.toBitVec.toNat < 2 ^ 32 := z.toBitVec.isLt
  have h3 : jushr z 16 = nI (z.toBitVec.toNat / 2 ^ 16) := by
    apply Int32.toBitVec_inj.mp
    apply BitVec.eq_of_toNat_eq
    rw [h1, pk_tn (by omega)]
  refine ⟨z.toBitVec.toNat / 2 ^ 16 % 256, by omega, ?_⟩
  rw [h3]
  exact pk_rem (d := 256) (by omega) (by omega) (by omega)
/-- the column, the place of the n-th square of a board -/
def dc (x W n : Nat) : Nat := x + n % W
def dp (w x y W n : Nat) : Nat := (y + n / W) * w + (x + n % W)
def fS (w x y W : Nat) (s : Int32) (f : Nat → Int32) : Nat → Nat → Int32
  | 0 => f
  | n + 1 => upd (fS w x y W s f n) (dp w x y W n) (dv s n)
def fT (w x y W d : Nat) (f : Nat → Int32) : Nat → Nat → Int32
  | 0 => f
  | n + 1 => upd (fT w x y W d f n) (dp w x y W n) (nI d)
def fR (w x y W d : Nat) (s : Int32) (f : Nat → Int32) : Nat → Nat → Int32
  | 0 => f
  | n + 1 => if d ≤ dc x W n then upd (fR w x y W d s f n) (dp w x y W n - d) (dv s n) else fR w x y W d s f n
def gS (w x y W d : Nat) (s : Int32) (f : Nat → Int32) : Nat → Nat → Int32
  | 0 => f
  | n + 1 => if d ≤ dc x W n then upd (upd (gS w x y W d s f n) (dp w x y W n) (dv s n)) (200 + (dp w x y W n - d)) (dv s n) else upd (gS w x y W d s f n) (dp w x y W n) (dv s n)
def gG (w x y W d : Nat) (f : Nat → Int32) : Nat → Nat → Int32
  | 0 => f
  | n + 1 => if d ≤ dc x W n then upd (upd (gG w x y W d f n) (dp w x y W n) 0) (200 + (dp w x y W n - d)) 0 else upd (gG w x y W d f n) (dp w x y W n) 0
theorem pic_tr {s1 m1 s2 m2 t sh go ro tr : Nat → Int32} (hP : Pic s1 m1 s2 m2 t sh go ro tr) {p d : Nat} (hd : d ≤ 8) : Pic s1 m1 s2 m2 (upd t p (nI d)) sh go ro (upd tr p (nI d)) := by
  obtain ⟨h1, h2, h3, h4, h5, h6⟩ := hP
  refine ⟨h1, h2, h3, h4, h5, fun k hk => ?_⟩
  by_cases q : k = p
  · rw [q, pk_us, pk_us]; exact ⟨Or.inr ⟨d, hd, rfl⟩, rfl⟩
  · rw [pk_un q, pk_un q]; exact h6 k hk
theorem dp_in {w h x y W H n : Nat} (hW : 1 ≤ W) (hx : x + W ≤ w) (hy : y + H ≤ h) (hn : n < W * H) : x + n % W < w ∧ y + n / W < h := by
  have h1 : n % W < W := Nat.mod_lt _ (by omega)
  have h2 : n / W < H := Nat.div_lt_of_lt_mul hn
  omega
theorem pic_draw {s1 m1 s2 m2 t sh go ro tr : Nat → Int32} (hP : Pic s1 m1 s2 m2 t sh go ro tr) {w h x y W H d : Nat} (s : Int32) (hw : w ≤ 20) (hh : h ≤ 10) (hW : 1 ≤ W) (hx : x + W ≤ w) (hy : y + H ≤ h) (hd : d ≤ 8) : ∀ n, n ≤ W * H → Pic (fS w x y W s s1 n) m1 (fR w x y W d s s2 n) m2 (fT w x y W d t n) (gS w x y W d s sh n) (gG w x y W d go n) ro (fT w x y W d tr n) := by
  intro n
  induction n with
  | zero => intro _; exact hP
  | succ n ih =>
    intro hn
    have i1 := ih (by omega)
    obtain ⟨b1, b2⟩ := dp_in hW hx hy (show n < W * H by omega)
    have hp : dp w x y W n < 200 := pl200 hw hh b1 b2
    obtain ⟨u, hu, eu⟩ := dv_small (rnd s (n + 1))
    have ev : dv s n = nI u := eu
    have i2 := pic_tr (pic_sh0 i1 hp hu) (p := dp w x y W n) hd
    rw [← ev] at i2
    have e1 : fS w x y W s s1 (n + 1) = upd (fS w x y W s s1 n) (dp w x y W n) (dv s n) := rfl
    have e2 : ∀ f, fT w x y W d f (n + 1) = upd (fT w x y W d f n) (dp w x y W n) (nI d) := fun _ => rfl
    have e3 : fR w x y W d s s2 (n + 1) = if d ≤ dc x W n then upd (fR w x y W d s s2 n) (dp w x y W n - d) (dv s n) else fR w x y W d s s2 n := rfl
    have e4 : gS w x y W d s sh (n + 1) = if d ≤ dc x W n then upd (upd (gS w x y W d s sh n) (dp w x y W n) (dv s n)) (200 + (dp w x y W n - d)) (dv s n) else upd (gS w x y W d s sh n) (dp w x y W n) (dv s n) := rfl
    have e5 : gG w x y W d go (n + 1) = if d ≤ dc x W n then upd (upd (gG w x y W d go n) (dp w x y W n) 0) (200 + (dp w x y W n - d)) 0 else upd (gG w x y W d go n) (dp w x y W n) 0 := rfl
    rw [e1, e2, e2, e3, e4, e5]
    by_cases q : d ≤ dc x W n
    · rw [if_pos q, if_pos q, if_pos q]
      have i3 := pic_sh1 i2 (p := dp w x y W n - d) (by omega) hu
      rw [← ev] at i3
      exact i3
    · rw [if_neg q, if_neg q, if_neg q]
      exact i2
/-- a board that is in the picture -/
def BdOK (w h : Nat) (a b c e f : Int32) (x y W H d : Nat) : Prop := a = nI x ∧ b = nI y ∧ c = nI W ∧ e = nI H ∧ f = nI d ∧ 1 ≤ W ∧ 1 ≤ H ∧ x + W ≤ w ∧ y + H ≤ h ∧ d ≤ 8
def RoMi (M : Mem) (y H : Nat) : Prop := ∃ j : Nat, y ≤ j ∧ j < y + H ∧ (¬ M 4 j = 0 ∨ ¬ M 7 j = 0)
theorem hasRows_w {M : Mem} {w h : Nat} (hd : Dim M w h) {a : Int32} {N : Nat} (hN : N < 2 ^ 31) {Q : Int32 → Mem → Prop} (h1 : ∀ x : Nat, x + N ≤ h → a = nI x → Q 1 M) (h0 : ¬ CoC h a N → Q 0 M) : wX6_hasRows M a (nI N) Q := by
  obtain ⟨d1, d2, d3, d4, d5, d6⟩ := hd
  unfold wX6_hasRows
  rw [d6]
  refine ⟨fun q => h0 ?_, fun q => ⟨fun q2 => h0 ?_, fun q2 => ?_⟩⟩
  · rintro ⟨x, hx, rfl⟩
    exact absurd q (nI_pos (by omega))
  · rintro ⟨x, hx, rfl⟩
    exact absurd q2 (nI_nlt (by omega) (by omega))
  · obtain ⟨x, x1, x2, rfl⟩ := rng_of (lo := 0) (hi := h) (by omega) (by omega) q q2
    rw [pk_sub x2]
    refine pk_lt (h - x) N (fun q3 => h0 ?_) (fun q3 => h1 x (by omega) rfl)
    rintro ⟨x3, hx, e⟩
    have : x = x3 := (nI_eq (by omega) (by omega)).mp e
    omega
theorem anyMissing_w {M : Mem} {y H h : Nat} (hy : y + H ≤ h) (hh : h ≤ 10) {Q : Int32 → Mem → Prop} (h1 : RoMi M y H → Q 1 M) (h0 : ¬ RoMi M y H → Q 0 M) : wX6_anyMissing M (nI y) (nI H) Q := by
  refine forN (fun n x M => wX6_anyMissing_L2 (fun M => Q 0 M) Q n (nI y) (nI H) x M) (fun i N => N = M ∧ y ≤ i ∧ ∀ j, y ≤ j → j < i → M 4 j = 0 ∧ M 7 j = 0) (y + H) ?_ ?_ y M (by omega) ⟨rfl, by omega, fun j j1 j2 => absurd j2 (by omega)⟩
  · intro n N hI
    obtain ⟨rfl, -, g⟩ := hI
    rw [wX6_anyMissing_L2_s, nI_add]
    refine pk_le (y + H) (y + H) (fun _ => h0 ?_) (fun q => absurd q (by omega))
    rintro ⟨j, j1, j2, j3⟩
    have := g j j1 j2
    rcases j3 with j3 | j3
    · exact j3 this.1
    · exact j3 this.2
  · intro n i N hi hI ih
    obtain ⟨rfl, iy, g⟩ := hI
    rw [wX6_anyMissing_L2_s, nI_add]
    refine pk_le (y + H) i (fun q => absurd q (by omega)) (fun _ => ?_)
    rw [nI_clamp (by omega)]
    refine ⟨vp_in_nI (by omega) (by omega), fun q => h1 ⟨i, iy, hi, Or.inl q⟩, fun q => ⟨vp_in_nI (by omega) (by omega), fun q2 x2 ex2 => ?_, fun q2 => h1 ⟨i, iy, hi, Or.inr q2⟩⟩⟩
    rw [ex2, nI_1]
    refine ih N ⟨rfl, by omega, fun j j1 j2 => ?_⟩
    rcases (show j < i ∨ j = i by omega) with z | z
    · exact g j j1 z
    · rw [z]; exact ⟨q, q2⟩
def FrX (M N : Mem) : Prop := ∀ c, c ≠ 3 → c ≠ 6 → c ≠ 8 → N c = M c
theorem drawBoard_w {M : Mem} {w h x y W H d : Nat} (hd : Dim M w h) (s : Int32) (hW : 1 ≤ W) (hx : x + W ≤ w) (hy : y + H ≤ h) (hd8 : d ≤ 8) {Q : Mem → Prop} (g : ∀ N : Mem, FrX M N → N 3 = fS w x y W s (M 3) (W * H) → N 6 = fR w x y W d s (M 6) (W * H) → N 8 = fT w x y W d (M 8) (W * H) → Q N) : wX6_drawBoard M (nI x) (nI y) (nI W) (nI H) (nI d) s Q := by
  have hw : w ≤ 20 := hd.2.1
  have hh : h ≤ 10 := hd.2.2.2.1
  refine forN (fun n z (p : Int32 × Mem) => wX6_drawBoard_L7 (fun M => Q M) Q n (nI x) (nI y) (nI W) (nI H) (nI d) p.1 z p.2) (fun i p => y ≤ i ∧ p.1 = rnd s (W * (i - y)) ∧ FrX M p.2 ∧ p.2 3 = fS w x y W s (M 3) (W * (i - y)) ∧ p.2 6 = fR w x y W d s (M 6) (W * (i - y)) ∧ p.2 8 = fT w x y W d (M 8) (W * (i - y))) (y + H) ?_ ?_ y (s, M) (by omega) ⟨by omega, ?_, fun _ _ _ _ => rfl, ?_, ?_, ?_⟩
  · intro n p hI
    obtain ⟨-, -, g1, g2, g3, g4⟩ := hI
    rw [Nat.add_sub_cancel_left] at g2 g3 g4
    rw [wX6_drawBoard_L7_s, nI_add]
    exact pk_le (y + H) (y + H) (fun _ => g p.2 g1 g2 g3 g4) (fun q => absurd q (by omega))
  · intro n i p hi hI ih
    obtain ⟨iy, g0, g1, g2, g3, g4⟩ := hI
    rw [wX6_drawBoard_L7_s, nI_add]
    refine pk_le (y + H) i (fun q => absurd q (by omega)) (fun _ => ?_)
    have hb : (i - y + 1) * W ≤ H * W := Nat.mul_le_mul_right W (by omega)
    rw [Nat.add_mul, Nat.one_mul, Nat.mul_comm (i - y) W, Nat.mul_comm H W] at hb
    refine forN (fun n z (p : Int32 × Mem) => wX6_drawBoard_L19 _ Q n (nI x) (nI y) (nI W) (nI H) (nI d) p.1 (nI i) z p.2) (fun k p => x ≤ k ∧ p.1 = rnd s (W * (i - y) + (k - x)) ∧ FrX M p.2 ∧ p.2 3 = fS w x y W s (M 3) (W * (i - y) + (k - x)) ∧ p.2 6 = fR w x y W d s (M 6) (W * (i - y) + (k - x)) ∧ p.2 8 = fT w x y W d (M 8) (W * (i - y) + (k - x))) (x + W) ?_ ?_ x (p.1, p.2) (by omega) ⟨by omega, by rw [Nat.sub_self]; exact g0, g1, by rw [Nat.sub_self]; exact g2, by rw [Nat.sub_self]; exact g3, by rw [Nat.sub_self]; exact g4⟩
    · intro n2 p2 hI2
      obtain ⟨-, k0, k1, k2, k3, k4⟩ := hI2
      have e9 : W * (i - y) + (x + W - x) = W * (i + 1 - y) := by
        rw [Nat.add_sub_cancel_left, show i + 1 - y = (i - y) + 1 by omega, Nat.mul_add, Nat.mul_one]
      rw [e9] at k0 k2 k3 k4
      rw [wX6_drawBoard_L19_s, nI_add]
      refine pk_le (x + W) (x + W) (fun _ x8 ex8 => ?_) (fun q => absurd q (by omega))
      rw [ex8, nI_1]
      exact ih (p2.1, p2.2) ⟨by omega, k0, k1, k2, k3, k4⟩
    · intro n2 k p2 hk hI2 ih2
      obtain ⟨kx, k0, k1, k2, k3, k4⟩ := hI2
      have eN : W * (i - y) + (k + 1 - x) = W * (i - y) + (k - x) + 1 := by omega
      have em : (W * (i - y) + (k - x)) % W = k - x := by
        rw [Nat.mul_add_mod, Nat.mod_eq_of_lt (by omega)]
      have ed : (W * (i - y) + (k - x)) / W = i - y := by
        rw [Nat.mul_add_div (by omega), Nat.div_eq_of_lt (by omega), Nat.add_zero]
      have ep : dp w x y W (W * (i - y) + (k - x)) = i * w + k := by
        unfold dp
        rw [em, ed, show y + (i - y) = i by omega, show x + (k - x) = k by omega]
      have ec : dc x W (W * (i - y) + (k - x)) = k := by
        unfold dc
        rw [em]
        omega
      have hpl : i * w + k < 200 := pl200 hw hh (show k < w by omega) (show i < h by omega)
      have hd2 : Dim p2.2 w h := by unfold Dim; rw [k1 1 (by decide) (by decide) (by decide)]; exact hd
      rw [wX6_drawBoard_L19_s, nI_add]
      refine pk_le (x + W) k (fun q => absurd q (by omega)) (fun _ => ?_)
      intro r er
      refine ⟨by decide, fun v ev => placeOf_w hd2 ⟨vp_in_nI hpl (by omega), fun M70 e70 => ⟨vp_in_nI hpl (by omega), fun M79 e79 => ?_⟩⟩⟩
      rw [nI_clamp (by omega)] at e70 e79
      have er2 : r = rnd s (W * (i - y) + (k + 1 - x)) := by rw [eN, er, k0]; rfl
      have ev2 : v = dv s (W * (i - y) + (k - x)) := by rw [ev, er2, eN]; rfl
      have s3 : M79 3 = fS w x y W s (M 3) (W * (i - y) + (k + 1 - x)) := by
        rw [e79, up_n _ _ (by decide), e70, up_s, k2, eN, ev2]
        show _ = upd _ (dp w x y W _) _
        rw [ep]
      have s8 : M79 8 = fT w x y W d (M 8) (W * (i - y) + (k + 1 - x)) := by
        rw [e79, up_s, e70, up_n _ _ (by decide), k4, eN]
        show _ = upd _ (dp w x y W _) _
        rw [ep]
      have s6 : M79 6 = fR w x y W d s (M 6) (W * (i - y) + (k - x)) := by
        rw [e79, up_n _ _ (by decide), e70, up_n _ _ (by decide), k3]
      have sf : FrX M M79 := fun c c3 c6 c8 => by rw [e79, up_n _ _ c8, e70, up_n _ _ c3, k1 c c3 c6 c8]
      have e6 : fR w x y W d s (M 6) (W * (i - y) + (k + 1 - x)) = if d ≤ k then upd (fR w x y W d s (M 6) (W * (i - y) + (k - x))) (i * w + k - d) v else fR w x y W d s (M 6) (W * (i - y) + (k - x)) := by
        rw [eN]
        show (if d ≤ dc x W _ then upd _ (dp w x y W _ - d) _ else _) = _
        rw [ec, ep, ev2]
      refine pk_lt k d (fun q x9 ex9 => ?_) (fun q => ?_)
      · rw [ex9, nI_1]
        exact ih2 (r, M79) ⟨by omega, er2, sf, s3, by rw [e6, if_neg (by omega)]; exact s6, s8⟩
      · rw [pk_sub (show d ≤ i * w + k by omega)]
        refine ⟨vp_in_nI (by omega) (by omega), fun M101 e101 x9 ex9 => ?_⟩
        rw [nI_clamp (by omega)] at e101
        rw [ex9, nI_1]
        have t1 : FrX M M101 := fun c c3 c6 c8 => by rw [e101, up_n _ _ c6, sf c c3 c6 c8]
        have t3 : M101 3 = fS w x y W s (M 3) (W * (i - y) + (k + 1 - x)) := by rw [e101, up_n _ _ (by decide)]; exact s3
        have t8 : M101 8 = fT w x y W d (M 8) (W * (i - y) + (k + 1 - x)) := by rw [e101, up_n _ _ (by decide)]; exact s8
        have t6 : M101 6 = fR w x y W d s (M 6) (W * (i - y) + (k + 1 - x)) := by rw [e101, up_s, e6, if_pos (by omega), s6]
        exact ih2 (r, M101) ⟨by omega, er2, t1, t3, t6, t8⟩
  · rw [Nat.sub_self]; rfl
  · rw [Nat.sub_self]; rfl
  · rw [Nat.sub_self]; rfl
  · rw [Nat.sub_self]; rfl
