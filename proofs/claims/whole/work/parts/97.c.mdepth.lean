/-! the reference: depths, what is told -/
theorem layDepths_w {M : Mem} {w h D H P Qr T : Nat} {L R : Nat → Int32} (hm : VM M w h L R) (hr : RM M D H P Qr T) (hf : At9 w h D (M 13) (tot w h D P Qr L R)) {x y : Nat} (hx : x < w) (hy : y < h) {Q : Mem → Prop} (g : ∀ N : Mem, (∀ c, c ≠ 14 → c ≠ 15 → N c = M c) → N 14 = upd (M 14) (y * w + x) (nI (dL w h D P Qr L R x y)) → N 15 = upd (M 15) (y * w + x) (nI (dR w h D P Qr L R x y)) → Q N) : wX11_layDepths M (nI x) (nI y) Q := by
  have hw : w ≤ 20 := hm.1.2.1
  have hh : h ≤ 10 := hm.1.2.2.2.1
  have hD : D ≤ 8 := hr.1.1
  have hk := pl200 hw hh hx hy
  have hlast := pl200 hw hh (show w - 1 < w by omega) hy
  intro x3 e3
  rw [plM hm.1] at e3
  rw [e3]
  refine forN (fun n z (p : Int32 × Int32 × Mem) => wX11_layDepths_L18 _ Q n (nI x) (nI (y * w + x)) p.1 p.2.1 z p.2.2) (fun d p => 1 ≤ d ∧ p.2.2 = M ∧ p.1 = nI (argL (M 13) (y * w + x) (d - 1)) ∧ p.2.1 = nI (argR (M 13) (y * w + x) (w - 1 - x) (d - 1))) (D + 1) ?_ ?_ 1 (0, 0, M) (by omega) ⟨Nat.le_refl _, rfl, rfl, rfl⟩
  · intro n p hI
    obtain ⟨-, h1, h2, h3⟩ := hI
    rw [wX11_layDepths_L18_s, h1, h2, h3, cl0, hr.2.1]
    refine ⟨pk_in 0 5 (by omega), ?_⟩
    refine pk_lt D (D + 1) (fun _ => ?_) (fun q => absurd q (by omega))
    rw [nI_clamp (by omega), Nat.add_sub_cancel, dL_at hf hx hy, dR_at hf hx hy]
    refine ⟨vp_in_nI hk (by omega), fun N1 e1 => ⟨vp_in_nI hk (by omega), fun N2 e2 => ?_⟩⟩
    exact g N2 (fun c c1 c2 => by rw [e2, up_n _ _ c2, e1, up_n _ _ c1]) (by rw [e2, up_n _ _ (by decide), e1, up_s]) (by rw [e2, up_s, e1, up_n _ _ (by decide)])
  · intro n d p hd hI ih
    obtain ⟨h0, h1, h2, h3⟩ := hI
    have hl := argL_le (M 13) (y * w + x) (d - 1)
    have hr2 := argR_le (M 13) (y * w + x) (w - 1 - x) (d - 1)
    rw [wX11_layDepths_L18_s, h1, h2, h3, cl0, hr.2.1, i9m, i9m, nI_clamp (show 9 * (y * w + x) + argL (M 13) (y * w + x) (d - 1) < 2 ^ 31 by omega), nI_clamp (show 9 * (y * w + x) + d < 2 ^ 31 by omega)]
    have stL : argL (M 13) (y * w + x) d = (if M 13 (9 * (y * w + x) + argL (M 13) (y * w + x) (d - 1)) ≤ M 13 (9 * (y * w + x) + d) then argL (M 13) (y * w + x) (d - 1) else d) := by
      obtain ⟨m2, rfl⟩ : ∃ m, d = m + 1 := ⟨d - 1, by omega⟩
      rfl
    have stR : argR (M 13) (y * w + x) (w - 1 - x) d = (if w - 1 - x < d then argR (M 13) (y * w + x) (w - 1 - x) (d - 1) else if M 13 (9 * (y * w + x + argR (M 13) (y * w + x) (w - 1 - x) (d - 1)) + argR (M 13) (y * w + x) (w - 1 - x) (d - 1)) ≤ M 13 (9 * (y * w + x + d) + d) then argR (M 13) (y * w + x) (w - 1 - x) (d - 1) else d) := by
      obtain ⟨m2, rfl⟩ : ∃ m, d = m + 1 := ⟨d - 1, by omega⟩
      rfl
    refine ⟨pk_in 0 5 (by omega), ?_⟩
    refine pk_lt D d (fun q => absurd q (by omega)) (fun _ => ?_)
    have J : ∀ t, t = nI (argL (M 13) (y * w + x) d) → wX11_layDepths_J63 (wX11_layDepths_L18 (fun x3 x4 x5 M => vp_in x3 200 ∧ ∀ M131 : Mem, M131 = va_up M 14 (upd (M 14) (x3).toNatClampNeg x4) → vp_in x3 200 ∧ ∀ M139 : Mem, M139 = va_up M131 15 (upd (M131 15) (x3).toNatClampNeg x5) → Q M139) Q n) (fun x3 x4 x5 M => vp_in x3 200 ∧ ∀ M131 : Mem, M131 = va_up M 14 (upd (M 14) (x3).toNatClampNeg x4) → vp_in x3 200 ∧ ∀ M139 : Mem, M139 = va_up M131 15 (upd (M131 15) (x3).toNatClampNeg x5) → Q M139) Q (nI x) (nI (y * w + x)) (nI (argR (M 13) (y * w + x) (w - 1 - x) (d - 1))) (nI d) t M := by
      intro t et
      have nx : ∀ r, r = nI (argR (M 13) (y * w + x) (w - 1 - x) d) → wX11_layDepths_L18 (fun x3 x4 x5 M => vp_in x3 200 ∧ ∀ M131 : Mem, M131 = va_up M 14 (upd (M 14) (x3).toNatClampNeg x4) → vp_in x3 200 ∧ ∀ M139 : Mem, M139 = va_up M131 15 (upd (M131 15) (x3).toNatClampNeg x5) → Q M139) Q n (nI x) (nI (y * w + x)) t r (nI d + 1) M := by
        intro r er
        rw [nI_1]
        exact ih (t, r, M) ⟨by omega, rfl, by rw [Nat.add_sub_cancel]; exact et, by rw [Nat.add_sub_cancel]; exact er⟩
      unfold wX11_layDepths_J63
      rw [hm.1.2.2.2.2.1, nI_add]
      refine pk_le w (x + d) (fun q z ez => ?_) (fun q => ?_)
      · rw [ez]
        exact nx _ (by rw [stR, if_pos (by omega)])
      · have e9 : ∀ e f : Nat, (9 * (nI (y * w + x) + nI e)) + nI f = nI (9 * (y * w + x + e) + f) := fun e f => by rw [nI_add, i9m]
        rw [e9, e9, nI_clamp (by omega), nI_clamp (by omega)]
        rw [if_neg (by omega)] at stR
        refine ⟨vp_in_nI (by omega) (by omega), vp_in_nI (by omega) (by omega), fun q2 z ez => ?_, fun q2 z ez => ?_⟩
        · rw [ez]
          exact nx _ (by rw [stR, if_pos q2])
        · rw [ez]
          exact nx _ (by rw [stR, if_neg q2])
    refine ⟨vp_in_nI (by omega) (by omega), vp_in_nI (by omega) (by omega), fun q => ?_, fun q => ?_⟩
    · exact J _ (by rw [stL, if_pos q])
    · exact J _ (by rw [stL, if_neg q])
def DepM (w h D P Q : Nat) (L R f g : Nat → Int32) : Prop := ∀ x y, x < w → y < h → f (y * w + x) = nI (dL w h D P Q L R x y) ∧ g (y * w + x) = nI (dR w h D P Q L R x y)
theorem agreedAt_w {M : Mem} {w h D P Qr : Nat} {L R : Nat → Int32} (hm : VM M w h L R) (hD : D ≤ 8) (hf : DepM w h D P Qr L R (M 14) (M 15)) {x y : Nat} (hx : x < w) (hy : y < h) {Q : Int32 → Mem → Prop} (g : Q (toldS w h D P Qr L R x y) M) : wX11_agreedAt M (nI x) (nI y) Q := by
  have hw : w ≤ 20 := hm.1.2.1
  have hh : h ≤ 10 := hm.1.2.2.2.1
  have hk := pl200 hw hh hx hy
  unfold wX11_agreedAt
  rw [plM hm.1, nI_clamp (by omega), (hf x y hx hy).1]
  unfold toldS at g
  have hd : dL w h D P Qr L R x y ≤ D := dL_le
  generalize dL w h D P Qr L R x y = d at g hd ⊢
  refine ⟨vp_in_nI hk (by omega), fun x3 e3 => ?_⟩
  rw [e3]
  refine lostL_w hm hx hy (fun q => ⟨fun z => absurd z (by decide), fun _ => by rw [if_pos q] at g; exact g⟩) (fun qL => ⟨fun _ => ?_, fun z => absurd rfl z⟩)
  rw [if_neg qL] at g
  refine pk_le d x (fun q2 => ?_) (fun q2 => by rw [if_pos q2] at g; exact g)
  rw [if_neg (by omega)] at g
  rw [pk_sub q2]
  refine lostR_w hm (show x - d < w by omega) hy (fun q => ⟨fun z => absurd z (by decide), fun _ => by rw [if_pos q] at g; exact g⟩) (fun qR => ⟨fun _ => ?_, fun z => absurd rfl z⟩)
  rw [if_neg qR] at g
  have e : nI (y * w + x) - nI d = nI (y * w + (x - d)) := by rw [pk_sub (by omega)]; congr 1; omega
  rw [plM hm.1, e, nI_clamp (by omega), (hf (x - d) y (by omega) hy).2]
  have hr : dR w h D P Qr L R (x - d) y ≤ D := dR_le
  refine ⟨vp_in_nI (by omega) (by omega), fun z => ?_, fun z => ?_⟩
  · rw [if_neg (fun z2 => z (by rw [z2]))] at g; exact g
  · rw [if_pos ((nI_eq (by omega) (by omega)).mp z)] at g; exact g
