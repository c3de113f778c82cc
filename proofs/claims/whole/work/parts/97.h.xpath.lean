/-! the class's paths -/
theorem i21 (i j : Nat) : (nI i * 21) + nI j = nI (21 * i + j) := by
  show nI i * nI 21 + nI j = _
  rw [pk_mul, nI_add, Nat.mul_comm]
theorem matching_w {M : Mem} {w h D : Nat} {L R : Nat → Int32} (hw : w ≤ 20) (hh : h ≤ 10) (hD : D ≤ 8) (hc : CostOK w h L R (M 27) (M 22) (M 26)) {y i j : Nat} (hy : y < h) (hi : i ≤ w) (hj : j ≤ w) {Q : Int32 → Mem → Prop} (g : Q (mcS w h D L R y i j) M) : wX3_matching M (nI i) (nI j) (nI (y * w)) (nI w) (nI D) Q := by
  intro x7 e7
  unfold mcS at g
  refine pk_le w i (fun q => ?_) (fun qi => pk_le w j (fun q => ?_) (fun qj => ?_))
  · rw [if_neg (by omega)] at g; exact g
  · rw [if_neg (by omega)] at g; exact g
  · by_cases q : j ≤ i
    · have e : x7 = nI (i - j) := by rw [e7, pk_sub q]
      rw [e]
      refine ⟨fun z => absurd z (nI_pos (by omega)), fun _ => pk_le (i - j) D (fun q2 => ?_) (fun q2 => ?_)⟩
      · rw [if_pos ⟨qi, qj, q, q2⟩] at g
        have hk := pl200 hw hh qi hy
        rw [nI_add, i9, nI_clamp (by omega), (hc i y qi hy).1 (i - j) (by omega)]
        exact ⟨vp_in_nI (by omega) (by omega), g⟩
      · rw [if_neg (by omega)] at g; exact g
    · have ng : x7 < 0 := by rw [e7]; exact pk_sneg (by omega) (by omega)
      rw [if_neg (by omega)] at g
      exact ⟨fun _ => g, fun z => absurd ng z⟩
theorem leastRest_w {M : Mem} {w H : Nat} {m : Nat → Nat → Int32} (hw : w ≤ 20) (hH : H ≤ 20) (hm : MCk w m) {i j : Nat} (hi : i ≤ w) (hj : j ≤ w) (hM : i < w → j < w → M 29 (21 * (i + 1) + (j + 1)) = nI (rS w H m (i + 1) (j + 1))) (hL : i < w → M 29 (21 * (i + 1) + j) = nI (rS w H m (i + 1) j)) (hR : j < w → M 29 (21 * i + (j + 1)) = nI (rS w H m i (j + 1))) {Q : Int32 → Mem → Prop} (g : Q (nI (rS w H m i j)) M) : wX3_leastRest M (nI i) (nI j) (nI w) (m i j) (nI H) Q := by
  have b1 := rS_le (m := m) hw hH (i + 1) j
  have b2 := rS_le (m := m) hw hH i (j + 1)
  have b3 := rS_le (m := m) hw hH (i + 1) (j + 1)
  have go : ¬ (i = w ∧ j = w) → wX3_leastRest_J12 Q (nI i) (nI j) (nI w) (m i j) (nI H) M := by
    intro hne
    have E := rS_eq hw hH hm hi hj hne
    have J71 : ∀ b : Nat, b < 2 ^ 31 → min b (oR w H m i j) = rS w H m i j → wX3_leastRest_J71 Q (nI i) (nI j) (nI w) (nI H) (nI b) M := by
      intro b hb eb
      refine pk_le w j (fun q => ?_) (fun q => ?_)
      · unfold oR at eb
        rw [if_neg (by omega), Nat.min_eq_left (by omega)] at eb
        rw [eb]; exact g
      · rw [i21, nI_1, nI_clamp (by omega), show 21 * i + j + 1 = 21 * i + (j + 1) by omega, hR q, nI_add]
        refine ⟨vp_in_nI (by omega) (by omega), fun v ev => ?_⟩
        unfold oR at eb
        rw [if_pos q] at eb
        have : v = nI (min b (H + rS w H m i (j + 1))) := by rw [ev]; exact mn_nI hb (by omega)
        rw [this, eb]; exact g
    have J43 : ∀ b : Nat, b < 2 ^ 31 → min (min b (oL w H m i j)) (oR w H m i j) = rS w H m i j → wX3_leastRest_J43 Q (nI i) (nI j) (nI w) (nI H) (nI b) M := by
      intro b hb eb
      refine pk_le w i (fun q => J71 b hb ?_) (fun q => ?_)
      · unfold oL at eb
        rw [if_neg (by omega), Nat.min_eq_left (show b ≤ 2147483647 by omega)] at eb
        exact eb
      · rw [nI_1, i21, nI_clamp (by omega), hL q, nI_add]
        refine ⟨vp_in_nI (by omega) (by omega), fun v ev => ?_⟩
        unfold oL at eb
        rw [if_pos q] at eb
        have : v = nI (min b (H + rS w H m (i + 1) j)) := by rw [ev]; exact mn_nI hb (by omega)
        rw [this]
        exact J71 _ (by omega) eb
    refine ⟨fun q => J43 2147483647 (by omega) ?_, fun q => ?_⟩
    · unfold oM at E
      rw [if_pos q] at E
      exact E.symm
    · obtain ⟨qi, qj, qd, c, hc8, ec⟩ := (hm i j).elim (fun z => absurd z q) id
      rw [nI_1, i21, nI_1, nI_clamp (by omega), show 21 * (i + 1) + j + 1 = 21 * (i + 1) + (j + 1) by omega, hM qi qj]
      refine ⟨vp_in_nI (by omega) (by omega), fun x6 e6 => ?_⟩
      unfold oM at E
      rw [if_neg q, ec, nI_clamp (by omega)] at E
      rw [e6, ec, nI_add]
      exact J43 _ (by omega) E.symm
  refine ⟨fun q => go (fun z => q (by rw [z.1])), fun q => ⟨fun q2 => go (fun z => q2 (by rw [z.2])), fun q2 => ?_⟩⟩
  have e1 := (nI_eq (by omega) (by omega)).mp q
  have e2 := (nI_eq (by omega) (by omega)).mp q2
  rw [e1, e2, rS_ww] at g
  exact g
/-- the table of a path -/
def RestOK (w H : Nat) (m : Nat → Nat → Int32) (f : Nat → Int32) : Prop := ∀ i j, i ≤ w → j ≤ w → f (21 * i + j) = nI (rS w H m i j)
theorem follow_w {M : Mem} {w h D H P Qr T : Nat} {L R : Nat → Int32} (hw : w ≤ 20) (hh : h ≤ 10) (hr : RX M D H P Qr T) (hc : CostOK w h L R (M 27) (M 22) (M 26)) {y : Nat} (hy : y < h) (hR : RestOK w H (mcS w h D L R y) (M 29)) {Q : Mem → Prop} (g : ∀ N : Mem, (∀ c, c ≠ 30 → N c = M c) → (∀ k, k < y * w ∨ y * w + w ≤ k → N 30 k = M 30 k) → (∀ x, x < w → N 30 (y * w + x) = mtS w h D H L R y x) → Q N) : wX3_follow M (nI (y * w)) (nI w) Q := by
  have hD : D ≤ 8 := hr.1.1
  have hH : H ≤ 20 := hr.1.2.1
  have hm := mcS_k w h D L R y
  have e2w : 2 * nI w = nI (2 * w) := pk_mul 2 w
  refine forN (fun n z (p : Int32 × Int32 × Mem) => wX3_follow_L9 _ Q n (nI (y * w)) (nI w) p.1 p.2.1 z p.2.2) (fun n p => ∃ i j : Nat, pos w H (mcS w h D L R y) n = (i, j) ∧ p.1 = nI i ∧ p.2.1 = nI j ∧ (∀ c, c ≠ 30 → p.2.2 c = M c) ∧ (∀ k, k < y * w ∨ y * w + w ≤ k → p.2.2 30 k = M 30 k) ∧ ∀ x, x < i → p.2.2 30 (y * w + x) = mtN w H (mcS w h D L R y) n x) (2 * w) ?_ ?_ 0 (0, 0, M) (by omega) ⟨0, 0, rfl, rfl, rfl, fun _ _ => rfl, fun _ _ => rfl, fun x q => absurd q (by omega)⟩
  · rintro n ⟨x5, x6, N⟩ ⟨i, j, ep, rfl, rfl, h1, h2, h3⟩
    rw [wX3_follow_L9_s, e2w]
    refine pk_le (2 * w) (2 * w) (fun _ => ?_) (fun q => absurd q (by omega))
    have := pos_end (H := H) hw hH hm
    rw [ep] at this
    have ew : i = w := this.1
    exact g N h1 h2 (fun x hx => h3 x (by rw [ew]; exact hx))
  · rintro n s ⟨x5, x6, N⟩ hs ⟨i, j, ep, rfl, rfl, h1, h2, h3⟩ ih
    have bnd := pos_ok (H := H) hw hH hm s
    rw [ep] at bnd
    obtain ⟨hi, hj, -⟩ := bnd
    simp only at hi hj h1 h2 h3
    rw [wX3_follow_L9_s, e2w]
    refine pk_le (2 * w) s (fun q => absurd q (by omega)) (fun _ => ⟨pk_in 0 5 (by omega), ?_⟩)
    dsimp only
    rw [cl0, (hr.of (h1 17 (by decide))).2.1]
    refine matching_w hw hh hD (by rw [h1 27 (by decide), h1 22 (by decide), h1 26 (by decide)]; exact hc) hy hi hj ?_
    have rd : ∀ i j, i ≤ w → j ≤ w → N 29 (21 * i + j) = nI (rS w H (mcS w h D L R y) i j) := by rw [h1 29 (by decide)]; exact hR
    have r1 : N 17 1 = nI H := by rw [h1 17 (by decide)]; exact hr.2.2.1
    have bb : ∀ i j, rS w H (mcS w h D L R y) i j ≤ 800 := rS_le hw hH
    generalize mcS w h D L R y = m at *
    rw [i21, nI_clamp (by omega), rd i j hi hj]
    refine ⟨vp_in_nI (by omega) (by omega), fun x9 e9 => ?_⟩
    rw [e9]
    have J152 : ¬ (¬ m i j = -4 ∧ rS w H m i j = (m i j).toNatClampNeg + rS w H m (i + 1) (j + 1)) → ¬ (i < w ∧ rS w H m i j = H + rS w H m (i + 1) j) → wX3_follow_J152 (wX3_follow_L9 (fun M => Q M) Q n) (fun M => Q M) Q (nI (y * w)) (nI w) (nI i) (nI j) (nI s) N := by
      intro A B
      refine pk_le w j (fun q x ex => ?_) (fun q z ez x ex => ?_)
      · rw [ex, nI_1]
        have en : i = w ∧ j = w := by
          apply Classical.byContradiction
          intro hne
          rcases ch_cases (H := H) hw hH hm hi hj hne with ⟨c, c1, c2, c3⟩ | ⟨c, c1⟩ | ⟨c, c1⟩
          · omega
          · unfold ch at c
            rw [if_neg A, if_neg B] at c
            omega
          · omega
        have e2 : pos w H m (s + 1) = (i, j) := by
          have e1 : pos w H m (s + 1) = nxt w H m (pos w H m s) := rfl
          rw [e1, ep]; unfold nxt; rw [if_pos en]
        have e3 : mtN w H m (s + 1) = mtN w H m s := by simp only [mtN, ep]; rw [if_pos en]
        exact ih (nI i, nI j, N) ⟨i, j, e2, rfl, rfl, h1, h2, by rw [e3]; exact h3⟩
      · rw [ez, ex, nI_1, nI_1]
        have c : ch w H m i j = 2 := by unfold ch; rw [if_neg A, if_neg B]
        obtain ⟨e2, e3⟩ := mt_2 ep (by omega) c
        exact ih (nI i, nI (j + 1), N) ⟨i, j + 1, e2, rfl, rfl, h1, h2, by rw [e3]; exact h3⟩
    have J104 : ¬ (¬ m i j = -4 ∧ rS w H m i j = (m i j).toNatClampNeg + rS w H m (i + 1) (j + 1)) → wX3_follow_J104 (wX3_follow_L9 (fun M => Q M) Q n) (fun M => Q M) Q (nI (y * w)) (nI w) (nI i) (nI j) (nI s) (nI (rS w H m i j)) N := by
      intro A
      refine pk_le w i (fun q => J152 A (fun z => absurd z.1 (by omega))) (fun q => ?_)
      have hk := pl200 hw hh q hy
      have b1 := bb i j
      have b2 := bb (i + 1) j
      rw [nI_1, i21, nI_clamp (by omega), cl1, r1, rd (i + 1) j (by omega) hj, nI_add, nI_add]
      refine ⟨pk_in 1 5 (by omega), vp_in_nI (by omega) (by omega), fun z => J152 A (fun z2 => z (by rw [z2.2])), fun z => ⟨vp_in_nI hk (by omega), fun N2 e2 x5 e5 x7 e7 => ?_⟩⟩
      have z2 := (nI_eq (by omega) (by omega)).mp z
      have c : ch w H m i j = 1 := by unfold ch; rw [if_neg A, if_pos ⟨q, z2⟩]
      obtain ⟨p2, p3⟩ := mt_1 ep (by omega) c
      rw [e5, e7, nI_1]
      rw [nI_clamp (by omega)] at e2
      refine ih (nI (i + 1), nI j, N2) ⟨i + 1, j, p2, rfl, rfl, fun c hc => by show N2 c = M c; rw [e2, up_n _ _ hc, h1 c hc], fun k hk2 => by show N2 30 k = M 30 k; rw [e2, up_s, pk_un (by omega)]; exact h2 k hk2, fun x hx => ?_⟩
      show N2 30 (y * w + x) = _
      rw [e2, up_s, p3]
      by_cases z3 : x = i
      · rw [z3, pk_us, pk_us]
      · rw [pk_un (by omega), pk_un z3]; exact h3 x (by omega)
    refine ⟨fun q => J104 (fun z => z.1 q), fun q => ?_⟩
    obtain ⟨qi, qj, qd, c, hc8, ec⟩ := (hm i j).elim (fun z => absurd z q) id
    have hk := pl200 hw hh qi hy
    have b1 := bb i j
    have b3 := bb (i + 1) (j + 1)
    have c8 : (m i j).toNatClampNeg = c := by rw [ec, nI_clamp (by omega)]
    rw [nI_1, i21, nI_1, nI_clamp (by omega), show 21 * (i + 1) + j + 1 = 21 * (i + 1) + (j + 1) by omega, rd (i + 1) (j + 1) (by omega) (by omega), ec, nI_add, nI_add]
    refine ⟨vp_in_nI (by omega) (by omega), fun z => J104 (fun z2 => z (by rw [z2.2, c8])), fun z => ⟨vp_in_nI hk (by omega), fun N2 e2 x5 e5 x6 e6 x7 e7 => ?_⟩⟩
    have z2 := (nI_eq (by omega) (by omega)).mp z
    have c0 : ch w H m i j = 0 := by unfold ch; rw [if_pos ⟨q, by rw [c8]; exact z2⟩]
    obtain ⟨p2, p3⟩ := mt_0 ep (by omega) c0
    rw [e5, e6, e7, nI_1, nI_1]
    rw [nI_clamp (by omega), pk_sub qd] at e2
    refine ih (nI (i + 1), nI (j + 1), N2) ⟨i + 1, j + 1, p2, rfl, rfl, fun c hc => by show N2 c = M c; rw [e2, up_n _ _ hc, h1 c hc], fun k hk2 => by show N2 30 k = M 30 k; rw [e2, up_s, pk_un (by omega)]; exact h2 k hk2, fun x hx => ?_⟩
    show N2 30 (y * w + x) = _
    rw [e2, up_s, p3]
    by_cases z3 : x = i
    · rw [z3, pk_us, pk_us]
    · rw [pk_un (by omega), pk_un z3]; exact h3 x (by omega)
def PathOK (M : Mem) (w h D H : Nat) (L R : Nat → Int32) (y : Nat) : Prop := M 31 y = nI (ptS w h D H L R y) ∧ ∀ x, x < w → M 30 (y * w + x) = mtS w h D H L R y x
def C8 (M : Mem) (w h D H : Nat) (L R : Nat → Int32) : Prop := ∀ y, y < h → M 31 y = -4 ∨ PathOK M w h D H L R y
theorem walk_w {M : Mem} {w h D H P Qr T : Nat} {L R : Nat → Int32} (hd : Dim M w h) (hr : RX M D H P Qr T) (hc : CostOK w h L R (M 27) (M 22) (M 26)) {y : Nat} (hy : y < h) {Q : Mem → Prop} (g : ∀ N : Mem, (∀ c, c ≠ 29 → c ≠ 30 → c ≠ 31 → N c = M c) → (∀ k, k < y * w ∨ y * w + w ≤ k → N 30 k = M 30 k) → (∀ k, k ≠ y → N 31 k = M 31 k) → PathOK N w h D H L R y → Q N) : wX3_walk M (nI y) Q := by
  have hw : w ≤ 20 := hd.2.1
  have hh : h ≤ 10 := hd.2.2.2.1
  have hD : D ≤ 8 := hr.1.1
  have hH : H ≤ 20 := hr.1.2.1
  have hm := mcS_k w h D L R y
  refine placeOf_w (x := 0) hd ?_
  rw [Nat.add_zero]
  intro x6 e6
  rw [hd.2.2.2.2.1] at e6
  rw [e6]
  have rx : ∀ {N : Mem}, (∀ c, c ≠ 29 → N c = M c) → RX N D H P Qr T := fun f => hr.of (f 17 (by decide))
  have co : ∀ {N : Mem}, (∀ c, c ≠ 29 → N c = M c) → CostOK w h L R (N 27) (N 22) (N 26) := fun f => by rw [f 27 (by decide), f 22 (by decide), f 26 (by decide)]; exact hc
  refine forD (fun n z N => wX3_walk_L18 _ Q n (nI y) (nI (y * w)) (nI w) z N) (fun q N => q ≤ w + 1 ∧ (∀ c, c ≠ 29 → N c = M c) ∧ ∀ i j, i ≤ w → j ≤ w → q ≤ i → N 29 (21 * i + j) = nI (rS w H (mcS w h D L R y) i j)) ?_ ?_ w M ⟨Nat.le_refl _, fun _ _ => rfl, fun i j h1 _ h3 => absurd h3 (by omega)⟩
  · rintro n N ⟨-, h1, h2⟩
    rw [wX3_walk_L18_s]
    refine ⟨fun _ => ?_, fun z => absurd (by decide) z⟩
    refine ⟨pk_in 0 441 (by omega), vp_in_nI (by omega) (by omega), fun N2 e2 => ?_⟩
    rw [cl0, nI_clamp (by omega)] at e2
    have f2 : ∀ c, c ≠ 31 → N2 c = N c := fun c hc => by rw [e2, up_n _ _ hc]
    refine follow_w hw hh ((rx h1).of (f2 17 (by decide))) (by rw [f2 27 (by decide), f2 22 (by decide), f2 26 (by decide)]; exact co h1) hy (by rw [f2 29 (by decide)]; exact fun i j hi hj => h2 i j hi hj (Nat.zero_le _)) (fun N3 f3 f4 f5 => ?_)
    refine g N3 (fun c c1 c2 c3 => by rw [f3 c c2, f2 c c3, h1 c c1]) (fun k hk => by rw [f4 k hk, f2 30 (by decide), h1 30 (by decide)]) (fun k hk => by rw [f3 31 (by decide), e2, up_s, pk_un hk, h1 31 (by decide)]) ⟨?_, f5⟩
    rw [f3 31 (by decide), e2, up_s, pk_us]
    exact h2 0 0 (Nat.zero_le _) (Nat.zero_le _) (Nat.le_refl _)
  · rintro n i N ⟨hi, h1, h2⟩ ih
    rw [wX3_walk_L18_s]
    refine ⟨fun z => absurd z (nI_pos (by omega)), fun _ => ?_⟩
    refine forD (fun n z N => wX3_walk_L27 _ Q n (nI y) (nI (y * w)) (nI w) (nI i) z N) (fun q N2 => q ≤ w + 1 ∧ (∀ c, c ≠ 29 → N2 c = M c) ∧ ∀ i2 j, i2 ≤ w → j ≤ w → (i < i2 ∨ i2 = i ∧ q ≤ j) → N2 29 (21 * i2 + j) = nI (rS w H (mcS w h D L R y) i2 j)) ?_ ?_ w N ⟨Nat.le_refl _, h1, fun i2 j a b c => h2 i2 j a b (by omega)⟩
    · rintro n2 N2 ⟨-, k1, k2⟩
      rw [wX3_walk_L27_s]
      refine ⟨fun _ x ex => ?_, fun z => absurd (by decide) z⟩
      rw [ex]
      exact ih N2 ⟨by omega, k1, fun i2 j a b c => k2 i2 j a b (by omega)⟩
    · rintro n2 j N2 ⟨hj, k1, k2⟩ ih2
      rw [wX3_walk_L27_s]
      refine ⟨fun z => absurd z (nI_pos (by omega)), fun _ => ⟨pk_in 0 5 (by omega), ?_⟩⟩
      rw [cl0, (rx k1).2.1]
      refine matching_w hw hh hD (co k1) hy (by omega) (by omega) ⟨pk_in 1 5 (by omega), ?_⟩
      rw [cl1, (rx k1).2.2.1]
      refine leastRest_w hw hH hm (by omega) (by omega) (fun q1 q2 => k2 _ _ (by omega) (by omega) (Or.inl (by omega))) (fun q1 => k2 _ _ (by omega) (by omega) (Or.inl (by omega))) (fun q1 => k2 _ _ (by omega) (by omega) (Or.inr ⟨rfl, by omega⟩)) ?_
      rw [i21, nI_clamp (by omega)]
      refine ⟨vp_in_nI (by omega) (by omega), fun N3 e3 x ex => ?_⟩
      rw [ex]
      refine ih2 N3 ⟨by omega, fun c hc => by rw [e3, up_n _ _ hc, k1 c hc], fun i2 j2 a b c => ?_⟩
      rw [e3, up_s]
      by_cases z : 21 * i2 + j2 = 21 * i + j
      · have z1 : i2 = i := by omega
        have z2 : j2 = j := by omega
        rw [z, pk_us, z1, z2]
      · rw [pk_un z]
        refine k2 i2 j2 a b ?_
        rcases c with c | ⟨c1, c2⟩
        · exact Or.inl c
        · refine Or.inr ⟨c1, ?_⟩
          rw [c1] at z
          omega
theorem refreshPath_w {M : Mem} {w h D H P Qr T : Nat} {L R : Nat → Int32} (hx : VX M w h L R) (hr : RX M D H P Qr T) (h1 : C1 M w h L R) (h8 : C8 M w h D H L R) {y : Nat} (hy : y < h) {Q : Mem → Prop} (g : ∀ N : Mem, (∀ c, ¬ cC c → c ≠ 29 → c ≠ 30 → c ≠ 31 → N c = M c) → CostOK w h L R (N 27) (N 22) (N 26) → C8 N w h D H L R → PathOK N w h D H L R y → Q N) : wX10_refreshPath M (nI y) Q := by
  have hh : h ≤ 10 := hx.1.2.2.2.1
  refine refreshCosts_w hx h1 (fun N f1 f2 => ⟨vp_in_nI (by omega) (by omega), ?_⟩)
  have e : ∀ c, (c = 1 ∨ c = 17 ∨ c = 30 ∨ c = 31) → N c = M c := fun c hc => f1 c (by unfold cC; omega)
  have g8 : C8 N w h D H L R := by
    intro y2 hy2
    have := h8 y2 hy2
    unfold PathOK at *
    rw [e 30 (by omega), e 31 (by omega)]
    exact this
  rw [nI_clamp (by omega)]
  refine ⟨fun q => g N (fun c hc _ _ _ => f1 c hc) f2 g8 ((g8 y hy).elim (fun z => absurd z q) id), fun q => ?_⟩
  have dN : Dim N w h := by unfold Dim; rw [e 1 (by omega)]; exact hx.1
  refine walk_w dN (hr.of (e 17 (by omega))) f2 hy (fun N2 k1 k2 k3 k4 => g N2 (fun c c0 c1 c2 c3 => by rw [k1 c c1 c2 c3, f1 c c0]) ?_ (fun y2 hy2 => ?_) k4)
  · rw [k1 27 (by decide) (by decide) (by decide), k1 22 (by decide) (by decide) (by decide), k1 26 (by decide) (by decide) (by decide)]; exact f2
  · by_cases z : y2 = y
    · rw [z]; exact Or.inr k4
    · rw [k3 y2 z]
      rcases g8 y2 hy2 with q2 | ⟨q2, q3⟩
      · exact Or.inl q2
      · refine Or.inr ⟨by rw [k3 y2 z]; exact q2, fun x hx => ?_⟩
        rw [k2 _ ?_]
        · exact q3 x hx
        · rcases (show y2 < y ∨ y < y2 by omega) with z2 | z2
          · left
            have : (y2 + 1) * w ≤ y * w := Nat.mul_le_mul_right w z2
            rw [Nat.add_mul, Nat.one_mul] at this
            omega
          · right
            have : (y + 1) * w ≤ y2 * w := Nat.mul_le_mul_right w z2
            rw [Nat.add_mul, Nat.one_mul] at this
            omega
