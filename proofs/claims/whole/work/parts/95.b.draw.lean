/-! draw, the reference -/
def RoMiM (M : Mem) (y H : Nat) : Prop := ∃ j : Nat, y ≤ j ∧ j < y + H ∧ (¬ M 3 j = 0 ∨ ¬ M 3 (10 + j) = 0)
def FrM (M N : Mem) : Prop := ∀ c, c ≠ 1 → c ≠ 2 → c ≠ 4 → N c = M c
theorem miss_m {M : Mem} {x y W H d h : Nat} {s : Int32} (hy : y + H ≤ h) (hh : h ≤ 10) {K : Int32 → Int32 → Int32 → Int32 → Int32 → Int32 → Mem → Prop} {Q : Int32 → Mem → Prop} (h1 : RoMiM M y H → Q (-2) M) (h0 : ¬ RoMiM M y H → K (nI x) (nI y) (nI W) (nI H) (nI d) s M) : ∃ n, wX11_draw_L88 K Q n (nI x) (nI y) (nI W) (nI H) (nI d) s (nI y) M := by
  refine forN (fun n z M => wX11_draw_L88 K Q n (nI x) (nI y) (nI W) (nI H) (nI d) s z M) (fun i N => N = M ∧ y ≤ i ∧ ∀ j, y ≤ j → j < i → M 3 j = 0 ∧ M 3 (10 + j) = 0) (y + H) ?_ ?_ y M (by omega) ⟨rfl, by omega, fun j j1 j2 => absurd j2 (by omega)⟩
  · intro n N hI
    obtain ⟨rfl, -, g⟩ := hI
    rw [wX11_draw_L88_s, nI_add]
    refine pk_le (y + H) (y + H) (fun _ => h0 ?_) (fun q => absurd q (by omega))
    rintro ⟨j, j1, j2, j3⟩
    have := g j j1 j2
    rcases j3 with j3 | j3
    · exact j3 this.1
    · exact j3 this.2
  · intro n i N hi hI ih
    obtain ⟨rfl, iy, g⟩ := hI
    rw [wX11_draw_L88_s, nI_add]
    refine pk_le (y + H) i (fun q => absurd q (by omega)) (fun _ => ?_)
    have e10 : 10 + nI i = nI (10 + i) := nI_add 10 i
    rw [e10, nI_clamp (by omega), nI_clamp (by omega)]
    refine ⟨vp_in_nI (by omega) (by omega), fun q => h1 ⟨i, iy, hi, Or.inl q⟩, fun q => ⟨vp_in_nI (by omega) (by omega), fun q2 x2 ex2 => ?_, fun q2 => h1 ⟨i, iy, hi, Or.inr q2⟩⟩⟩
    rw [ex2, nI_1]
    refine ih N ⟨rfl, by omega, fun j j1 j2 => ?_⟩
    rcases (show j < i ∨ j = i by omega) with z | z
    · exact g j j1 z
    · rw [z]; exact ⟨q, q2⟩
theorem board_m {M : Mem} {w h x y W H d : Nat} (hd : DimM M w h) (s : Int32) (hW : 1 ≤ W) (hx : x + W ≤ w) (hy : y + H ≤ h) (hd8 : d ≤ 8) {K : Int32 → Int32 → Mem → Prop} {Q : Int32 → Mem → Prop} (g : ∀ N : Mem, FrM M N → N 1 = gS w x y W d s (M 1) (W * H) → N 2 = gG w x y W d (M 2) (W * H) → N 4 = fT w x y W d (M 4) (W * H) → K (nI W) (nI H) N) : ∃ n, wX11_draw_L136 K Q n (nI x) (nI y) (nI W) (nI H) (nI d) s (nI y) M := by
  have hw : w ≤ 20 := hd.2.1
  have hh : h ≤ 10 := hd.2.2.2.1
  refine forN (fun n z (p : Int32 × Mem) => wX11_draw_L136 K Q n (nI x) (nI y) (nI W) (nI H) (nI d) p.1 z p.2) (fun i p => y ≤ i ∧ p.1 = rnd s (W * (i - y)) ∧ FrM M p.2 ∧ p.2 1 = gS w x y W d s (M 1) (W * (i - y)) ∧ p.2 2 = gG w x y W d (M 2) (W * (i - y)) ∧ p.2 4 = fT w x y W d (M 4) (W * (i - y))) (y + H) ?_ ?_ y (s, M) (by omega) ⟨by omega, ?_, fun _ _ _ _ => rfl, ?_, ?_, ?_⟩
  · intro n p hI
    obtain ⟨-, -, g1, g2, g3, g4⟩ := hI
    rw [Nat.add_sub_cancel_left] at g2 g3 g4
    rw [wX11_draw_L136_s, nI_add]
    exact pk_le (y + H) (y + H) (fun _ => g p.2 g1 g2 g3 g4) (fun q => absurd q (by omega))
  · intro n i p hi hI ih
    obtain ⟨iy, g0, g1, g2, g3, g4⟩ := hI
    rw [wX11_draw_L136_s, nI_add]
    refine pk_le (y + H) i (fun q => absurd q (by omega)) (fun _ => ?_)
    have hb : (i - y + 1) * W ≤ H * W := Nat.mul_le_mul_right W (by omega)
    rw [Nat.add_mul, Nat.one_mul, Nat.mul_comm (i - y) W, Nat.mul_comm H W] at hb
    refine forN (fun n z (p : Int32 × Mem) => wX11_draw_L148 _ Q n (nI x) (nI y) (nI W) (nI H) (nI d) p.1 (nI i) z p.2) (fun k p => x ≤ k ∧ p.1 = rnd s (W * (i - y) + (k - x)) ∧ FrM M p.2 ∧ p.2 1 = gS w x y W d s (M 1) (W * (i - y) + (k - x)) ∧ p.2 2 = gG w x y W d (M 2) (W * (i - y) + (k - x)) ∧ p.2 4 = fT w x y W d (M 4) (W * (i - y) + (k - x))) (x + W) ?_ ?_ x (p.1, p.2) (by omega) ⟨by omega, by rw [Nat.sub_self]; exact g0, g1, by rw [Nat.sub_self]; exact g2, by rw [Nat.sub_self]; exact g3, by rw [Nat.sub_self]; exact g4⟩
    · intro n2 p2 hI2
      obtain ⟨-, k0, k1, k2, k3, k4⟩ := hI2
      have e9 : W * (i - y) + (x + W - x) = W * (i + 1 - y) := by
        rw [Nat.add_sub_cancel_left, show i + 1 - y = (i - y) + 1 by omega, Nat.mul_add, Nat.mul_one]
      rw [e9] at k0 k2 k3 k4
      rw [wX11_draw_L148_s, nI_add]
      refine pk_le (x + W) (x + W) (fun _ x8 ex8 => ?_) (fun q => absurd q (by omega))
      rw [ex8, nI_1]
      exact ih (p2.1, p2.2) ⟨by omega, k0, k1, k2, k3, k4⟩
    · intro n2 k p2 hk hI2 ih2
      obtain ⟨kx, k0, k1, k2, k3, k4⟩ := hI2
      have eN : W * (i - y) + (k + 1 - x) = W * (i - y) + (k - x) + 1 := by omega
      have em : (W * (i - y) + (k - x)) % W = k - x := by
        rw [Nat.mul_add_mod, Nat.mod_eq_of_lt (by omega)]
      have ed : (W * (i - y) + (k - x)) / W = i - y := by
        rw [Nat.mul_add_div (by omega), Nat.div_eq_of_lt (by omega), Nat.add_zero]
      have ep : dp w x y W (W * (i - y) + (k - x)) = i * w + k := by
        unfold dp
        rw [em, ed, show y + (i - y) = i by omega, show x + (k - x) = k by omega]
      have ec : dc x W (W * (i - y) + (k - x)) = k := by
        unfold dc
        rw [em]
        omega
      have hpl : i * w + k < 200 := pl200 hw hh (show k < w by omega) (show i < h by omega)
      have hd2 : DimM p2.2 w h := hd.of (k1 0 (by decide) (by decide) (by decide))
      rw [wX11_draw_L148_s, nI_add]
      refine pk_le (x + W) k (fun q => absurd q (by omega)) (fun _ => ?_)
      intro r er
      refine ⟨by decide, fun v ev => at0_w hd2 ⟨vp_in_nI (by omega) (by omega), fun M1 e1 => at0_w (hd2.of (by rw [e1, up_n _ _ (by decide)])) ⟨vp_in_nI (by omega) (by omega), fun M2 e2 => ?_⟩⟩⟩
      rw [nI_clamp (by omega)] at e1 e2
      have hd4 : DimM M2 w h := hd2.of (by rw [e2, up_n _ _ (by decide), e1, up_n _ _ (by decide)])
      rw [plM hd4]
      refine ⟨vp_in_nI hpl (by omega), fun M4 e4 => ?_⟩
      rw [nI_clamp (by omega)] at e4
      have hd5 : DimM M4 w h := hd4.of (by rw [e4, up_n _ _ (by decide)])
      have er2 : r = rnd s (W * (i - y) + (k + 1 - x)) := by rw [eN, er, k0]; rfl
      have ev2 : v = dv s (W * (i - y) + (k - x)) := by rw [ev, er2, eN]; rfl
      have s1 : M4 1 = upd (gS w x y W d s (M 1) (W * (i - y) + (k - x))) (i * w + k) v := by
        rw [e4, up_n _ _ (by decide), e2, up_n _ _ (by decide), e1, up_s, k2]
      have s2 : M4 2 = upd (gG w x y W d (M 2) (W * (i - y) + (k - x))) (i * w + k) 0 := by
        rw [e4, up_n _ _ (by decide), e2, up_s, e1, up_n _ _ (by decide), k3]
      have s4 : M4 4 = fT w x y W d (M 4) (W * (i - y) + (k + 1 - x)) := by
        rw [e4, up_s, e2, up_n _ _ (by decide), e1, up_n _ _ (by decide), k4, eN]
        show _ = upd _ (dp w x y W _) _
        rw [ep]
      have sf : FrM M M4 := fun c c1 c2 c4 => by rw [e4, up_n _ _ c4, e2, up_n _ _ c2, e1, up_n _ _ c1, k1 c c1 c2 c4]
      have f1 : gS w x y W d s (M 1) (W * (i - y) + (k + 1 - x)) = if d ≤ k then upd (upd (gS w x y W d s (M 1) (W * (i - y) + (k - x))) (i * w + k) v) (200 + (i * w + k - d)) v else upd (gS w x y W d s (M 1) (W * (i - y) + (k - x))) (i * w + k) v := by
        rw [eN]
        show (if d ≤ dc x W _ then upd (upd _ (dp w x y W _) _) (200 + (dp w x y W _ - d)) _ else upd _ (dp w x y W _) _) = _
        rw [ec, ep, ev2]
      have f2 : gG w x y W d (M 2) (W * (i - y) + (k + 1 - x)) = if d ≤ k then upd (upd (gG w x y W d (M 2) (W * (i - y) + (k - x))) (i * w + k) 0) (200 + (i * w + k - d)) 0 else upd (gG w x y W d (M 2) (W * (i - y) + (k - x))) (i * w + k) 0 := by
        rw [eN]
        show (if d ≤ dc x W _ then upd (upd _ (dp w x y W _) _) (200 + (dp w x y W _ - d)) _ else upd _ (dp w x y W _) _) = _
        rw [ec, ep]
      refine pk_lt k d (fun q x9 ex9 => ?_) (fun q => ?_)
      · rw [ex9, nI_1]
        exact ih2 (r, M4) ⟨by omega, er2, sf, by rw [f1, if_neg (by omega)]; exact s1, by rw [f2, if_neg (by omega)]; exact s2, s4⟩
      · rw [pk_sub q]
        have ea : i * w + (k - d) = i * w + k - d := by omega
        refine at1_w hd5 ⟨vp_in_nI (by omega) (by omega), fun M6 e6 => at1_w (hd5.of (by rw [e6, up_n _ _ (by decide)])) ⟨vp_in_nI (by omega) (by omega), fun M7 e7 x9 ex9 => ?_⟩⟩
        rw [nI_clamp (by omega), ea] at e6 e7
        rw [ex9, nI_1]
        have t0 : FrM M M7 := fun c c1 c2 c4 => by rw [e7, up_n _ _ c2, e6, up_n _ _ c1, sf c c1 c2 c4]
        have t1 : M7 1 = gS w x y W d s (M 1) (W * (i - y) + (k + 1 - x)) := by rw [e7, up_n _ _ (by decide), e6, up_s, f1, if_pos q, s1]
        have t2 : M7 2 = gG w x y W d (M 2) (W * (i - y) + (k + 1 - x)) := by rw [e7, up_s, e6, up_n _ _ (by decide), f2, if_pos q, s2]
        have t4 : M7 4 = fT w x y W d (M 4) (W * (i - y) + (k + 1 - x)) := by rw [e7, up_n _ _ (by decide), e6, up_n _ _ (by decide)]; exact s4
        exact ih2 (r, M7) ⟨by omega, er2, t0, t1, t2, t4⟩
  · rw [Nat.sub_self]; rfl
  · rw [Nat.sub_self]; rfl
  · rw [Nat.sub_self]; rfl
  · rw [Nat.sub_self]; rfl
theorem bd_uq {w h : Nat} (hw : w ≤ 20) (hh : h ≤ 10) {a b c e f : Int32} {x y W H d x2 y2 W2 H2 d2 : Nat} (k1 : BdOK w h a b c e f x y W H d) (k2 : BdOK w h a b c e f x2 y2 W2 H2 d2) : x2 = x ∧ y2 = y ∧ W2 = W ∧ H2 = H ∧ d2 = d := by
  obtain ⟨a1, a2, a3, a4, a5, a6, a7, a8, a9, a10⟩ := k1
  obtain ⟨b1, b2, b3, b4, b5, b6, b7, b8, b9, b10⟩ := k2
  exact ⟨(nI_eq (by omega) (by omega)).mp (b1.symm.trans a1), (nI_eq (by omega) (by omega)).mp (b2.symm.trans a2), (nI_eq (by omega) (by omega)).mp (b3.symm.trans a3), (nI_eq (by omega) (by omega)).mp (b4.symm.trans a4), (nI_eq (by omega) (by omega)).mp (b5.symm.trans a5)⟩
theorem draw_x {M : Mem} {w h : Nat} (hd : Dim M w h) {a b c e f s : Int32} {Q : Int32 → Mem → Prop} (hno : (¬ ∃ x y W H d : Nat, BdOK w h a b c e f x y W H d) → Q (-1) M) (hmi : ∀ x y W H d : Nat, BdOK w h a b c e f x y W H d → RoMi M y H → Q (-2) M) (hok : ∀ x y W H d : Nat, BdOK w h a b c e f x y W H d → ¬ RoMi M y H → ∀ Nx : Mem, (∀ k, ¬ hot k → k ≠ 3 → k ≠ 6 → k ≠ 8 → Nx k = M k) → Nx 3 = fS w x y W s (M 3) (W * H) → Nx 6 = fR w x y W d s (M 6) (W * H) → Nx 8 = fT w x y W d (M 8) (W * H) → Cold Nx → Q (c * e) Nx) : wX10_draw M a b c e f s Q := by
  have hw : w ≤ 20 := hd.2.1
  have hh : h ≤ 10 := hd.2.2.2.1
  have one : ∀ {z : Int32}, ¬ z < 1 → ∃ W : Nat, 1 ≤ W ∧ W < 2 ^ 31 ∧ z = nI W := by
    intro z hz
    have z0 : ¬ z < 0 := fun q => hz (by rw [Int32.lt_iff_toInt_lt] at q ⊢; have : (1 : Int32).toInt = 1 := rfl; have : (0 : Int32).toInt = 0 := rfl; omega)
    obtain ⟨W, hW, rfl⟩ := nI_of z0
    refine ⟨W, ?_, hW, rfl⟩
    rcases Nat.eq_zero_or_pos W with q | q
    · rw [q] at hz; exact absurd (by decide) hz
    · exact q
  have n1 : ∀ {W : Nat}, 1 ≤ W → W < 2 ^ 31 → ¬ nI W < 1 := fun h1 h2 => nI_nlt h1 h2
  refine ⟨fun q => hno ?_, fun q => ?_⟩
  · rintro ⟨x, y, W, H, d, k⟩
    rw [k.2.2.1] at q
    exact absurd q (n1 k.2.2.2.2.2.1 (by have := k.2.2.2.2.2.2.2.1; omega))
  obtain ⟨W, W1, W2, rfl⟩ := one q
  refine ⟨fun q => hno ?_, fun q => ?_⟩
  · rintro ⟨x, y, W, H, d, k⟩
    rw [k.2.2.2.1] at q
    exact absurd q (n1 k.2.2.2.2.2.2.1 (by have := k.2.2.2.2.2.2.2.2.1; omega))
  obtain ⟨H, H1, H2, rfl⟩ := one q
  refine hasColumns_w hd W2 (fun x hx ex => ⟨fun q => absurd q (by decide), fun _ => ?_⟩) (fun q => ⟨fun _ => hno ?_, fun q => absurd rfl q⟩)
  rotate_left
  · rintro ⟨x, y, W3, H3, d, k⟩
    obtain ⟨a1, a2, a3, a4, a5, a6, a7, a8, a9, a10⟩ := k
    have : W = W3 := (nI_eq W2 (by omega)).mp a3
    exact q ⟨x, by omega, a1⟩
  refine hasRows_w hd H2 (fun y hy ey => ⟨fun q => absurd q (by decide), fun _ => ?_⟩) (fun q => ⟨fun _ => hno ?_, fun q => absurd rfl q⟩)
  rotate_left
  · rintro ⟨x, y, W3, H3, d, k⟩
    obtain ⟨a1, a2, a3, a4, a5, a6, a7, a8, a9, a10⟩ := k
    have : H = H3 := (nI_eq H2 (by omega)).mp a4
    exact q ⟨y, by omega, a2⟩
  refine ⟨fun q => hno ?_, fun q => ⟨fun q2 => ?_, fun q2 => hno ?_⟩⟩
  · rintro ⟨x, y, W3, H3, d, k⟩
    rw [k.2.2.2.2.1] at q
    exact absurd q (nI_pos (by have := k.2.2.2.2.2.2.2.2.2; omega))
  · obtain ⟨d, -, d8, rfl⟩ := rng_of (lo := 0) (hi := 8) (by decide) (by decide) q (fun z => absurd q2 (Int32.not_le.mpr z))
    subst ex ey
    have ok : BdOK w h (nI x) (nI y) (nI W) (nI H) (nI d) x y W H d := ⟨rfl, rfl, rfl, rfl, rfl, W1, H1, hx, hy, d8⟩
    refine anyMissing_w hy hh (fun z => ⟨fun q => absurd q (by decide), fun _ => hmi x y W H d ok z⟩) (fun z => ⟨fun _ => ?_, fun q => absurd rfl q⟩)
    refine drawBoard_w hd s W1 hx hy d8 (fun N g1 g2 g3 g4 => forgetAll_w (fun Nx k1 k2 => ?_))
    refine hok x y W H d ok z Nx (fun k kh k3 k6 k8 => by rw [k1 k kh, g1 k k3 k6 k8]) ?_ ?_ ?_ k2
    · rw [k1 3 (nhot (nxc (by omega))), g2]
    · rw [k1 6 (nhot (nxc (by omega))), g3]
    · rw [k1 8 (nhot (nxc (by omega))), g4]
  · rintro ⟨x, y, W3, H3, d, k⟩
    rw [k.2.2.2.2.1] at q2
    exact q2 (nI_le k.2.2.2.2.2.2.2.2.2 (by decide))
theorem draw_m {M : Mem} {w h : Nat} (hd : DimM M w h) {a b c e f s : Int32} {Q : Int32 → Mem → Prop} (hno : (¬ ∃ x y W H d : Nat, BdOK w h a b c e f x y W H d) → Q (-1) M) (hmi : ∀ x y W H d : Nat, BdOK w h a b c e f x y W H d → RoMiM M y H → Q (-2) M) (hok : ∀ x y W H d : Nat, BdOK w h a b c e f x y W H d → ¬ RoMiM M y H → ∀ N : Mem, (∀ k, k ≠ 0 → k ≠ 1 → k ≠ 2 → k ≠ 4 → N k = M k) → (∀ k, k ≠ 15 → N 0 k = M 0 k) → N 0 15 = 0 → N 1 = gS w x y W d s (M 1) (W * H) → N 2 = gG w x y W d (M 2) (W * H) → N 4 = fT w x y W d (M 4) (W * H) → Q (c * e) N) : wX11_draw M a b c e f s Q := by
  have hw : w ≤ 20 := hd.2.1
  have hh : h ≤ 10 := hd.2.2.2.1
  have no : (¬ ∃ x y W H d : Nat, BdOK w h a b c e f x y W H d) → wX11_draw_J54 Q a b c e f s M := fun q => ⟨fun _ => hno q, fun q => absurd rfl q⟩
  have n1 : ∀ {W : Nat}, 1 ≤ W → W < 2 ^ 31 → ¬ nI W < 1 := fun h1 h2 => nI_nlt h1 h2
  have one : ∀ {z : Int32}, ¬ z < 1 → ∃ W : Nat, 1 ≤ W ∧ W < 2 ^ 31 ∧ z = nI W := by
    intro z hz
    have z0 : ¬ z < 0 := fun q => hz (by rw [Int32.lt_iff_toInt_lt] at q ⊢; have : (1 : Int32).toInt = 1 := rfl; have : (0 : Int32).toInt = 0 := rfl; omega)
    obtain ⟨W, hW, rfl⟩ := nI_of z0
    refine ⟨W, ?_, hW, rfl⟩
    rcases Nat.eq_zero_or_pos W with q | q
    · rw [q] at hz; exact absurd (by decide) hz
    · exact q
  refine in_ix hd.1 (by omega) (by rw [hd.2.2.2.2.1]; exact nI_m1 hd.1) (fun x hx ex => ⟨fun q => absurd q (by decide), fun _ => ?_⟩) (fun q => ⟨fun _ => no ?_, fun q => absurd rfl q⟩)
  rotate_left
  · rintro ⟨x, y, W, H, d, k⟩
    obtain ⟨a1, a2, a3, a4, a5, a6, a7, a8, a9, a10⟩ := k
    exact q ⟨x, by omega, a1⟩
  refine in_ix hd.2.2.1 (by omega) (by rw [hd.2.2.2.2.2]; exact nI_m1 hd.2.2.1) (fun y hy ey => ⟨fun q => absurd q (by decide), fun _ => ?_⟩) (fun q => ⟨fun _ => no ?_, fun q => absurd rfl q⟩)
  rotate_left
  · rintro ⟨x, y, W, H, d, k⟩
    obtain ⟨a1, a2, a3, a4, a5, a6, a7, a8, a9, a10⟩ := k
    exact q ⟨y, by omega, a2⟩
  refine ⟨fun q => no ?_, fun q => ?_⟩
  · rintro ⟨x, y, W, H, d, k⟩
    rw [k.2.2.1] at q
    exact absurd q (n1 k.2.2.2.2.2.1 (by have := k.2.2.2.2.2.2.2.1; omega))
  obtain ⟨W, W1, W2, rfl⟩ := one q
  refine ⟨fun q => no ?_, fun q => ?_⟩
  · rintro ⟨x, y, W, H, d, k⟩
    rw [k.2.2.2.1] at q
    exact absurd q (n1 k.2.2.2.2.2.2.1 (by have := k.2.2.2.2.2.2.2.2.1; omega))
  obtain ⟨H, H1, H2, rfl⟩ := one q
  refine in_ix (n := 9) (by omega) (by omega) rfl (fun d hd9 ed => ⟨fun q => absurd q (by decide), fun _ => ?_⟩) (fun q => ⟨fun _ => no ?_, fun q => absurd rfl q⟩)
  rotate_left
  · rintro ⟨x, y, W, H, d, k⟩
    obtain ⟨a1, a2, a3, a4, a5, a6, a7, a8, a9, a10⟩ := k
    exact q ⟨d, by omega, a5⟩
  subst ex ey ed
  refine ⟨fun q => absurd q (by decide), fun _ => ?_⟩
  rw [hd.2.2.2.2.1, hd.2.2.2.2.2, pk_sub (show x ≤ w by omega), pk_sub (show y ≤ h by omega)]
  refine pk_lt (w - x) W (fun q => hno ?_) (fun q => pk_le H (h - y) (fun q2 => ?_) (fun q2 => hno ?_))
  · rintro ⟨x2, y2, W3, H3, d2, k⟩
    obtain ⟨a1, a2, a3, a4, a5, a6, a7, a8, a9, a10⟩ := k
    have : W = W3 := (nI_eq W2 (by omega)).mp a3
    have : x = x2 := (nI_eq (by omega) (by omega)).mp a1
    omega
  · have ok : BdOK w h (nI x) (nI y) (nI W) (nI H) (nI d) x y W H d := ⟨rfl, rfl, rfl, rfl, rfl, W1, H1, by omega, by omega, by omega⟩
    refine miss_m (show y + H ≤ h by omega) hh (fun z => hmi x y W H d ok z) (fun z => ?_)
    refine board_m hd s W1 (by omega) (show y + H ≤ h by omega) (by omega) (fun N g1 g2 g3 g4 N2 e2 => ?_)
    refine hok x y W H d ok z N2 (fun k k0 k1 k2 k4 => by rw [e2, up_n _ _ k0, g1 k k1 k2 k4]) (fun k hk => by rw [e2, up_s, pk_un hk, g1 0 (by decide) (by decide) (by decide)]) (by rw [e2, up_s, pk_us]) ?_ ?_ ?_
    · rw [e2, up_n _ _ (by decide), g2]
    · rw [e2, up_n _ _ (by decide), g3]
    · rw [e2, up_n _ _ (by decide), g4]
  · rintro ⟨x2, y2, W3, H3, d2, k⟩
    obtain ⟨a1, a2, a3, a4, a5, a6, a7, a8, a9, a10⟩ := k
    have : H = H3 := (nI_eq H2 (by omega)).mp a4
    have : y = y2 := (nI_eq (by omega) (by omega)).mp a2
    omega
theorem o_draw {Mx Mm : Mem} {w h : Nat} (hB : Base Mx Mm w h) (a b c e f s : Int32) {J : Mem → Mem → Prop} (hJ : JC J Mx Mm) : wX10_draw Mx a b c e f s (fun r Nx => wX11_draw Mm a b c e f s (fun r2 Nm => r = r2 ∧ J Nx Nm)) := by
  have hd := hB.1
  have hm := hB.2.1
  have hP := hB.2.2.1
  have hh : h ≤ 10 := hd.2.2.2.1
  have hw : w ≤ 20 := hd.2.1
  have mi : ∀ {y H : Nat}, y + H ≤ h → (RoMiM Mm y H ↔ RoMi Mx y H) := by
    intro y H hy
    have k : ∀ j, j < h → Mm 3 j = Mx 4 j ∧ Mm 3 (10 + j) = Mx 7 j := fun j hj => ⟨(hP.2.2.2.1 j (by omega)).2, (hP.2.2.2.2.1 j (by omega)).2⟩
    constructor
    · rintro ⟨j, j1, j2, j3⟩
      rw [(k j (by omega)).1, (k j (by omega)).2] at j3
      exact ⟨j, j1, j2, j3⟩
    · rintro ⟨j, j1, j2, j3⟩
      rw [← (k j (by omega)).1, ← (k j (by omega)).2] at j3
      exact ⟨j, j1, j2, j3⟩
  refine draw_x hd (fun q => ?_) (fun x y W H d ok q => ?_) (fun x y W H d ok q Nx n1 n3 n6 n8 nc => ?_)
  · exact draw_m hm (fun _ => ⟨rfl, hJ.1⟩) (fun x y W H d ok _ => absurd ⟨x, y, W, H, d, ok⟩ q) (fun x y W H d ok _ => absurd ⟨x, y, W, H, d, ok⟩ q)
  · refine draw_m hm (fun z => absurd ⟨x, y, W, H, d, ok⟩ z) (fun _ _ _ _ _ _ _ => ⟨rfl, hJ.1⟩) (fun x2 y2 W2 H2 d2 ok2 q2 => ?_)
    obtain ⟨rfl, rfl, rfl, rfl, rfl⟩ := bd_uq hw hh ok ok2
    exact absurd ((mi ok2.2.2.2.2.2.2.2.2.1).mpr q) q2
  · refine draw_m hm (fun z => absurd ⟨x, y, W, H, d, ok⟩ z) (fun x2 y2 W2 H2 d2 ok2 q2 => ?_) (fun x2 y2 W2 H2 d2 ok2 q2 Nm m1 m2 m3 m4 m5 m6 => ⟨rfl, ?_⟩)
    · obtain ⟨rfl, rfl, rfl, rfl, rfl⟩ := bd_uq hw hh ok ok2
      exact absurd ((mi ok2.2.2.2.2.2.2.2.2.1).mp q2) q
    · obtain ⟨rfl, rfl, rfl, rfl, rfl⟩ := bd_uq hw hh ok ok2
      obtain ⟨a1, a2, a3, a4, a5, a6, a7, a8, a9, a10⟩ := ok2
      refine hJ.2.2 Nx Nm w h (hB.pic (fun c c3 _ c6 _ c8 cx => n1 c (nhot cx) c3 c6 c8) (fun k k15 _ _ => m2 k k15) (fun c c5 c10 => m1 c (by omega) (by omega) (by omega) (by omega)) ?_) nc m3
      unfold PicS
      rw [n3, n6, n8, m4, m5, m6, m1 3 (by decide) (by decide) (by decide) (by decide), n1 4 (nhot (nxc (by omega))) (by decide) (by decide) (by decide), n1 7 (nhot (nxc (by omega))) (by decide) (by decide) (by decide)]
      exact pic_draw hP s hw hh a6 a8 a9 a10 (W2 * H2) (Nat.le_refl _)
