/-! the class's votes, runs and sums -/
theorem i9 (k d : Nat) : (nI k * 9) + nI d = nI (9 * k + d) := by
  show nI k * nI 9 + nI d = _
  rw [pk_mul, nI_add, Nat.mul_comm]
theorem lo0 {L : Nat → Int32} {k : Nat} : lo L k = 0 ↔ ¬ L k = -5 := by
  unfold lo
  by_cases q : L k = -5
  · rw [if_pos q]; exact ⟨fun z => absurd z (by decide), fun z => absurd q z⟩
  · rw [if_neg q]; exact ⟨fun _ => q, fun _ => rfl⟩
theorem voteOf_w {M : Mem} {w h : Nat} {L R : Nat → Int32} (hc : CostOK w h L R (M 27) (M 22) (M 26)) {x y d : Nat} (hx : x < w) (hy : y < h) (hk : y * w + x < 200) (hd : d < 9) {Q : Int32 → Mem → Prop} (g : Q (voteS w h L R x y d) M) : wX9_voteOf M (nI (y * w + x)) (nI x) (nI d) Q := by
  have c := hc x y hx hy
  unfold wX9_voteOf
  rw [nI_clamp (by omega), c.2.1, i9, nI_clamp (by omega), c.1 d hd]
  unfold voteS at g
  refine ⟨vp_in_nI hk (by omega), fun q => ?_, fun q => ?_⟩
  · rw [if_neg (lo0.mp q)] at g
    refine pk_le d x (fun q2 => ⟨vp_in_nI (by omega) (by omega), fun c e => ?_⟩) (fun q2 => ?_)
    · rw [if_neg (by omega)] at g
      rw [e]
      exact ⟨fun q3 => by rw [if_neg q3] at g; exact g, fun q3 => by rw [if_pos q3] at g; exact g⟩
    · rw [if_pos q2] at g; exact g
  · by_cases z : L (y * w + x) = -5
    · rw [if_pos z] at g; exact g
    · exact absurd (lo0.mpr z) q
theorem vote_w {M : Mem} {w h D : Nat} {L R : Nat → Int32} (hd : Dim M w h) (hD : D ≤ 8) (hc : CostOK w h L R (M 27) (M 22) (M 26)) {Q : Mem → Prop} (g : ∀ N : Mem, (∀ c, c ≠ 32 → c ≠ 33 → N c = M c) → N 32 = upd (M 32) 4 1 → VoteOK w h D L R (N 33) → Q N) : wX9_vote M (nI D) Q := by
  have hw : w ≤ 20 := hd.2.1
  have hh : h ≤ 10 := hd.2.2.2.1
  let F : Nat → Nat → Mem → Prop := fun k e N => (∀ c, c ≠ 33 → N c = M c) ∧ ∀ x y, x < w → y < h → ∀ d, d ≤ D → (y * w + x < k ∨ y * w + x = k ∧ d < e) → N 33 (9 * (y * w + x) + d) = voteS w h L R x y d
  have dm : ∀ {k e N}, F k e N → Dim N w h := fun hF => by unfold Dim; rw [hF.1 1 (by decide)]; exact hd
  refine forN (fun n z N => wX9_vote_L3 _ Q n (nI D) z N) (fun y N => F (y * w) 0 N) h ?_ ?_ 0 M (by omega) ⟨fun _ _ => rfl, fun x y _ _ d _ q => absurd q (by omega)⟩
  · intro n N hF
    rw [wX9_vote_L3_s]
    refine pk_le h h (fun _ => ?_) (fun q => absurd q (by omega)) (hx := (dm hF).2.2.2.2.2)
    intro N2 e2
    refine g N2 (fun c c1 c2 => by rw [e2, up_n _ _ c1, hF.1 c c2]) (by rw [e2, up_s, hF.1 32 (by decide)]) (fun x y hx hy d hd => ?_)
    rw [e2, up_n _ _ (by decide)]
    have := pl_lt hx hy
    exact hF.2 x y hx hy d hd (Or.inl (by rw [Nat.mul_comm h w]; exact this))
  · intro n y N hy hF ih
    rw [wX9_vote_L3_s]
    refine pk_le h y (fun q => absurd q (by omega)) (fun _ => ?_) (hx := (dm hF).2.2.2.2.2)
    refine forN (fun n z N => wX9_vote_L15 _ Q n (nI D) (nI y) z N) (fun x N => F (y * w + x) 0 N) w ?_ ?_ 0 N (by omega) hF
    · intro n N3 hF3
      rw [wX9_vote_L15_s]
      refine pk_le w w (fun _ => ?_) (fun q => absurd q (by omega)) (hx := (dm hF3).2.2.2.2.1)
      intro x2 ex2
      rw [ex2, nI_1]
      refine ih N3 ?_
      rw [Nat.add_mul, Nat.one_mul]
      exact hF3
    · intro n x N3 hx hF3 ih2
      rw [wX9_vote_L15_s]
      refine pk_le w x (fun q => absurd q (by omega)) (fun _ => ?_) (hx := (dm hF3).2.2.2.2.1)
      refine placeOf_w (dm hF3) ?_
      have hk := pl200 hw hh hx hy
      refine forN (fun n z N => wX9_vote_L37 _ Q n (nI D) (nI y) (nI x) (nI (y * w + x)) z N) (fun e N => F (y * w + x) e N) (D + 1) ?_ ?_ 0 N3 (by omega) hF3
      · intro n N4 hF4
        rw [wX9_vote_L37_s]
        refine pk_lt D (D + 1) (fun _ => ?_) (fun q => absurd q (by omega))
        intro x2 ex2
        rw [ex2, nI_1]
        refine ih2 N4 ⟨hF4.1, fun u v hu hv d hd q => hF4.2 u v hu hv d hd ?_⟩
        rcases q with q | q
        · rcases (show v * w + u < y * w + x ∨ v * w + u = y * w + x by omega) with q2 | q2
          · exact Or.inl q2
          · exact Or.inr ⟨q2, by omega⟩
        · exact absurd q.2 (by omega)
      · intro n d N4 hd4 hF4 ih3
        rw [wX9_vote_L37_s]
        refine pk_lt D d (fun q => absurd q (by omega)) (fun _ => ?_)
        have hc4 : CostOK w h L R (N4 27) (N4 22) (N4 26) := by rw [hF4.1 27 (by decide), hF4.1 22 (by decide), hF4.1 26 (by decide)]; exact hc
        refine voteOf_w hc4 hx hy hk (by omega) ?_
        rw [i9, nI_clamp (by omega)]
        refine ⟨vp_in_nI (by omega) (by omega), fun N5 e5 x2 ex2 => ?_⟩
        rw [ex2, nI_1]
        refine ih3 N5 ⟨fun c hc => by rw [e5, up_n _ _ hc, hF4.1 c hc], fun u v hu hv d2 hd2 q => ?_⟩
        rw [e5, up_s]
        by_cases z : 9 * (v * w + u) + d2 = 9 * (y * w + x) + d
        · have z2 : d2 = d := by omega
          obtain ⟨z3, z4⟩ := pl_inj hx hu (show y * w + x = v * w + u by omega)
          rw [z, pk_us, z2, z3, z4]
        · rw [pk_un z]
          refine hF4.2 u v hu hv d2 hd2 ?_
          rcases q with q | q
          · exact Or.inl q
          · exact Or.inr ⟨q.1, by omega⟩
theorem start_w {M : Mem} {k D : Nat} (hk : k < 200) (hD : D ≤ 8) {G : Nat → Int32} (hG : ∀ d, d ≤ D → M 33 (9 * k + d) = G (9 * k + d)) {Q : Mem → Prop} (g : ∀ N : Mem, (∀ c, c ≠ 34 → c ≠ 35 → N c = M c) → (∀ i, i < 9 * k ∨ 9 * k + 9 ≤ i → N 34 i = M 34 i) → (∀ d, d ≤ D → N 34 (9 * k + d) = G (9 * k + d)) → N 35 = upd (M 35) k (lst G (9 * k) (D + 1)) → Q N) : wX9_start M (nI k) (nI D) Q := by
  intro x4 ex4
  have e0 : x4 = nI (9 * k) := by
    rw [ex4]
    show nI k * nI 9 = _
    rw [pk_mul, Nat.mul_comm]
  rw [e0]
  have ed : nI k * 9 + nI D = nI (9 * k + D) := i9 k D
  refine forN (fun n z (p : Int32 × Mem) => wX9_start_L9 _ Q n (nI k) (nI D) p.1 z p.2) (fun j p => 9 * k ≤ j ∧ (∀ c, c ≠ 34 → p.2 c = M c) ∧ (∀ i, i < 9 * k ∨ 9 * k + 9 ≤ i → p.2 34 i = M 34 i) ∧ (∀ d, 9 * k + d < j → p.2 34 (9 * k + d) = G (9 * k + d)) ∧ p.1 = lst G (9 * k) (j - 9 * k)) (9 * k + (D + 1)) ?_ ?_ (9 * k) (2147483647, M) (by omega) ⟨Nat.le_refl _, fun _ _ => rfl, fun _ _ => rfl, fun d q => absurd q (by omega), by rw [Nat.sub_self]; rfl⟩
  · intro n p hI
    obtain ⟨-, h1, h2, h3, h4⟩ := hI
    rw [wX9_start_L9_s, ed]
    refine pk_lt (9 * k + D) (9 * k + (D + 1)) (fun _ => ?_) (fun q => absurd q (by omega))
    refine ⟨vp_in_nI hk (by omega), fun N e => ?_⟩
    rw [nI_clamp (by omega)] at e
    refine g N (fun c c1 c2 => by rw [e, up_n _ _ c2, h1 c c1]) (fun i hi => by rw [e, up_n _ _ (by decide)]; exact h2 i hi) (fun d hd => by rw [e, up_n _ _ (by decide)]; exact h3 d (by omega)) ?_
    rw [e, up_s, h1 35 (by decide), h4, Nat.add_sub_cancel_left]
  · intro n j p hj hI ih
    obtain ⟨h0, h1, h2, h3, h4⟩ := hI
    rw [wX9_start_L9_s, ed]
    refine pk_lt (9 * k + D) j (fun q => absurd q (by omega)) (fun _ => ?_)
    rw [nI_clamp (by omega)]
    refine ⟨vp_in_nI (by omega) (by omega), vp_in_nI (by omega) (by omega), fun N e => ⟨vp_in_nI (by omega) (by omega), fun v ev x2 ex2 => ?_⟩⟩
    rw [ex2, nI_1]
    have eN : N 34 j = G j := by
      rw [e, up_s, pk_us, h1 33 (by decide)]
      have := hG (j - 9 * k) (by omega)
      rw [show 9 * k + (j - 9 * k) = j by omega] at this
      exact this
    refine ih (v, N) ⟨by omega, fun c hc => by show N c = M c; rw [e, up_n _ _ hc, h1 c hc], fun i hi => by show N 34 i = M 34 i; rw [e, up_s, pk_un (by omega)]; exact h2 i hi, fun d hd => ?_, ?_⟩
    · by_cases z : 9 * k + d = j
      · rw [z]; exact eN
      · show N 34 (9 * k + d) = _
        rw [e, up_s, pk_un z]; exact h3 d (by omega)
    · show v = _
      rw [ev, eN, h4, show j + 1 - 9 * k = (j - 9 * k) + 1 by omega]
      show _ = mn (lst G (9 * k) (j - 9 * k)) (G (9 * k + (j - 9 * k)))
      rw [show 9 * k + (j - 9 * k) = j by omega]
      rfl
theorem cl0 : (0 : Int32).toNatClampNeg = 0 := rfl
theorem cl1 : (1 : Int32).toNatClampNeg = 1 := rfl
theorem cl2 : (2 : Int32).toNatClampNeg = 2 := rfl
theorem cl3 : (3 : Int32).toNatClampNeg = 3 := rfl
theorem cl4 : (4 : Int32).toNatClampNeg = 4 := rfl
theorem goOn_w {M : Mem} {k fr D H P Qr T : Nat} (hr : RX M D H P Qr T) (hk : k < 200) (hf : fr < 200) (hne : fr ≠ k) {G : Nat → Int32} (hl : M 35 fr = lst (M 34) (9 * fr) (D + 1)) (hG : ∀ d, d ≤ D → M 33 (9 * k + d) + best (M 34) (9 * fr) D P Qr d - lst (M 34) (9 * fr) (D + 1) = G (9 * k + d)) {Q : Mem → Prop} (g : ∀ N : Mem, (∀ c, c ≠ 34 → c ≠ 35 → N c = M c) → (∀ i, i < 9 * k ∨ 9 * k + 9 ≤ i → N 34 i = M 34 i) → (∀ d, d ≤ D → N 34 (9 * k + d) = G (9 * k + d)) → N 35 = upd (M 35) k (lst G (9 * k) (D + 1)) → Q N) : wX9_goOn M (nI k) (nI fr) Q := by
  have hD : D ≤ 8 := hr.1.1
  refine ⟨pk_in 0 5 (by omega), fun x5 e5 => ?_⟩
  rw [cl0, hr.2.1] at e5
  rw [e5]
  refine forN (fun n z (p : Int32 × Mem) => wX9_goOn_L12 _ Q n (nI k) (nI fr) p.1 (nI D) z p.2) (fun d p => (∀ c, c ≠ 34 → p.2 c = M c) ∧ (∀ i, i < 9 * k ∨ 9 * k + 9 ≤ i → p.2 34 i = M 34 i) ∧ (∀ d2, d2 < d → p.2 34 (9 * k + d2) = G (9 * k + d2)) ∧ p.1 = lst G (9 * k) d) (D + 1) ?_ ?_ 0 (2147483647, M) (by omega) ⟨fun _ _ => rfl, fun _ _ => rfl, fun d q => absurd q (by omega), rfl⟩
  · intro n p hI
    obtain ⟨h1, h2, h3, h4⟩ := hI
    rw [wX9_goOn_L12_s]
    refine pk_lt D (D + 1) (fun _ => ?_) (fun q => absurd q (by omega))
    refine ⟨vp_in_nI hk (by omega), fun N e => ?_⟩
    rw [nI_clamp (by omega)] at e
    refine g N (fun c c1 c2 => by rw [e, up_n _ _ c2, h1 c c1]) (fun i hi => by rw [e, up_n _ _ (by decide)]; exact h2 i hi) (fun d hd => by rw [e, up_n _ _ (by decide)]; exact h3 d (by omega)) ?_
    rw [e, up_s, h1 35 (by decide), h4]
  · intro n d p hd hI ih
    obtain ⟨h1, h2, h3, h4⟩ := hI
    have rd : ∀ d2, d2 ≤ D → p.2 34 (9 * fr + d2) = M 34 (9 * fr + d2) := fun d2 q => h2 _ (by omega)
    have r2 : p.2 17 2 = nI P := by rw [h1 17 (by decide)]; exact hr.2.2.2.1
    have r3 : p.2 17 3 = nI Qr := by rw [h1 17 (by decide)]; exact hr.2.2.2.2.1
    rw [wX9_goOn_L12_s]
    refine pk_lt D d (fun q => absurd q (by omega)) (fun _ => ?_)
    intro x7 e7
    rw [i9] at e7
    rw [e7, nI_clamp (by omega), nI_clamp (by omega), cl3, r3, h1 35 (by decide), hl, rd d (by omega)]
    refine ⟨vp_in_nI (by omega) (by omega), vp_in_nI hf (by omega), pk_in 3 5 (by omega), fun v45 e45 => ?_⟩
    have E45 : v45 = mn (M 34 (9 * fr + d)) (lst (M 34) (9 * fr) (D + 1) + nI Qr) := e45
    have fin : ∀ b, b = best (M 34) (9 * fr) D P Qr d → wX9_goOn_J102 (wX9_goOn_L12 (fun x1 x4 M => vp_in x1 200 ∧ ∀ M162 : Mem, M162 = va_up M 35 (upd (M 35) (x1).toNatClampNeg x4) → Q M162) Q n) (fun x1 x4 M => vp_in x1 200 ∧ ∀ M162 : Mem, M162 = va_up M 35 (upd (M 35) (x1).toNatClampNeg x4) → Q M162) Q (nI k) (nI fr) p.1 (nI D) (nI d) b p.2 := by
      intro b eb
      unfold wX9_goOn_J102
      rw [i9, nI_clamp (by omega), nI_clamp (by omega), h1 33 (by decide), h1 35 (by decide), hl, eb]
      refine ⟨vp_in_nI (by omega) (by omega), vp_in_nI hf (by omega), fun x9 e9 => ⟨vp_in_nI (by omega) (by omega), fun N e v ev x2 ex2 => ?_⟩⟩
      rw [hG d (by omega)] at e9
      rw [ex2, nI_1]
      refine ih (v, N) ⟨fun c hc => by show N c = M c; rw [e, up_n _ _ hc, h1 c hc], fun i hi => by show N 34 i = M 34 i; rw [e, up_s, pk_un (by omega)]; exact h2 i hi, fun d2 hd2 => ?_, ?_⟩
      · show N 34 (9 * k + d2) = _
        rw [e, up_s]
        by_cases z : d2 = d
        · rw [z, pk_us, e9]
        · rw [pk_un (by omega)]; exact h3 d2 (by omega)
      · show v = mn (lst G (9 * k) d) (G (9 * k + d))
        rw [ev, e9, h4]; rfl
    have mid : ∀ a, a = (if d = 0 then v45 else mn v45 (M 34 (9 * fr + d - 1) + nI P)) → wX9_goOn_J75 (wX9_goOn_L12 (fun x1 x4 M => vp_in x1 200 ∧ ∀ M162 : Mem, M162 = va_up M 35 (upd (M 35) (x1).toNatClampNeg x4) → Q M162) Q n) (fun x1 x4 M => vp_in x1 200 ∧ ∀ M162 : Mem, M162 = va_up M 35 (upd (M 35) (x1).toNatClampNeg x4) → Q M162) Q (nI k) (nI fr) p.1 (nI D) (nI d) (nI (9 * fr + d)) a p.2 := by
      intro a ea
      refine pk_le D d (fun q => ?_) (fun q => ?_)
      · refine fin a ?_
        unfold best
        simp only [if_pos q]
        rw [ea, E45]
      · rw [nI_1, nI_clamp (by omega), cl2, r2, show 9 * fr + d + 1 = 9 * fr + (d + 1) by omega, rd (d + 1) (by omega)]
        refine ⟨vp_in_nI (by omega) (by omega), pk_in 2 5 (by omega), fun v97 e97 => ?_⟩
        refine fin v97 ?_
        unfold best
        simp only [if_neg (show ¬ D ≤ d by omega)]
        rw [e97, ea, E45]
        rfl
    refine pk_le d 0 (fun q => ?_) (fun q => ?_)
    · exact mid v45 (by rw [if_pos (by omega)])
    · have em : nI (9 * fr + d) - 1 = nI (9 * fr + d - 1) := nI_m1 (by omega)
      rw [em, nI_clamp (by omega), cl2, r2]
      have rdm : p.2 34 (9 * fr + d - 1) = M 34 (9 * fr + d - 1) := by
        have := rd (d - 1) (by omega)
        rw [show 9 * fr + (d - 1) = 9 * fr + d - 1 by omega] at this
        exact this
      rw [rdm]
      refine ⟨vp_in_nI (by omega) (by omega), pk_in 2 5 (by omega), fun v70 e70 => ?_⟩
      exact mid v70 (by rw [if_neg (by omega), e70]; rfl)
