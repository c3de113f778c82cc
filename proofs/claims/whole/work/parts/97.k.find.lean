/-! the class's search for a plane, the reference's -/
theorem Mem5.of {M N : Mem} {w h T a n : Nat} {L : Nat → Int32} (hM : Mem5 M w h T L a n) (e : ∀ k, k = 5 ∨ k = 6 ∨ k = 10 → N 41 k = M 41 k) (e2 : N 42 = M 42) (e3 : N 43 = M 43) (e4 : N 44 = M 44) : Mem5 N w h T L a n := by
  unfold Mem5
  rw [e 5 (by omega), e 6 (by omega), e 10 (by omega), e2, e3, e4]
  exact hM
theorem t_of (b i j : Nat) (hi : i < 5) (hj : j < 5) : tB (25 * b + 5 * i + j) = nI b ∧ tA (25 * b + 5 * i + j) = nI i - 2 ∧ tC (25 * b + 5 * i + j) = nI j - 2 := by
  unfold tB tA tC
  rw [show (25 * b + 5 * i + j) / 25 = b by omega, show (25 * b + 5 * i + j) / 5 % 5 = i by omega, show (25 * b + 5 * i + j) % 5 = j by omega]
  exact ⟨rfl, rfl, rfl⟩
noncomputable def bsT (w h D T : Nat) (L R : Nat → Int32) (a n : Nat) : Nat × Nat := bst (pT w h D T L R a) n
def PlaneOK (M : Mem) (w h D T : Nat) (L R : Nat → Int32) (a : Nat) : Prop := M 41 5 = nI (a % w) ∧ M 41 6 = nI (a / w) ∧ M 41 4 = nI (bsT w h D T L R a (25 * (D + 1))).1 ∧ M 41 1 = tB (bsT w h D T L R a (25 * (D + 1))).2 ∧ M 41 2 = tA (bsT w h D T L R a (25 * (D + 1))).2 ∧ M 41 3 = tC (bsT w h D T L R a (25 * (D + 1))).2
def C7 (M : Mem) (w h D T : Nat) (L R : Nat → Int32) : Prop := M 41 0 = -4 ∨ ∃ a, a < w * h ∧ M 41 0 = nI a ∧ PlaneOK M w h D T L R a
def SeaX (w h D T : Nat) (L R : Nat → Int32) (a : Nat) (M N : Mem) (n : Nat) : Prop := (∀ c, c ≠ 41 → N c = M c) ∧ (∀ k, k ≠ 1 → k ≠ 2 → k ≠ 3 → k ≠ 4 → N 41 k = M 41 k) ∧ N 41 4 = nI (bsT w h D T L R a n).1 ∧ (0 < n → N 41 1 = tB (bsT w h D T L R a n).2 ∧ N 41 2 = tA (bsT w h D T L R a n).2 ∧ N 41 3 = tC (bsT w h D T L R a n).2)
theorem sea_step {w h D T : Nat} {L R : Nat → Int32} {a n : Nat} {M N N2 : Mem} (hS : SeaX w h D T L R a M N n) (h1 : ∀ c, c ≠ 41 → N2 c = N c) (h2 : ∀ k, k ≠ 1 → k ≠ 2 → k ≠ 3 → k ≠ 4 → N2 41 k = N 41 k) (h3 : pT w h D T L R a n < (bsT w h D T L R a n).1 → N2 41 4 = nI (pT w h D T L R a n) ∧ N2 41 1 = tB n ∧ N2 41 2 = tA n ∧ N2 41 3 = tC n) (h4 : ¬ pT w h D T L R a n < (bsT w h D T L R a n).1 → N2 41 = N 41) (h0 : n = 0 → pT w h D T L R a n < (bsT w h D T L R a n).1) : SeaX w h D T L R a M N2 (n + 1) := by
  have e : bsT w h D T L R a (n + 1) = if pT w h D T L R a n < (bsT w h D T L R a n).1 then (pT w h D T L R a n, n) else bsT w h D T L R a n := rfl
  refine ⟨fun c hc => (h1 c hc).trans (hS.1 c hc), fun k k1 k2 k3 k4 => (h2 k k1 k2 k3 k4).trans (hS.2.1 k k1 k2 k3 k4), ?_, fun _ => ?_⟩
  · rw [e]
    by_cases q : pT w h D T L R a n < (bsT w h D T L R a n).1
    · rw [if_pos q]; exact (h3 q).1
    · rw [if_neg q, h4 q]; exact hS.2.2.1
  · rw [e]
    by_cases q : pT w h D T L R a n < (bsT w h D T L R a n).1
    · rw [if_pos q]; exact (h3 q).2
    · rw [if_neg q, h4 q]
      exact hS.2.2.2 (Nat.pos_of_ne_zero (fun z => q (h0 z)))
theorem find_w {M : Mem} {w h D T a : Nat} {L R : Nat → Int32} (hd : Dim M w h) (hD : D ≤ 8) (hc : CostOK w h L R (M 27) (M 22) (M 26)) (hf : ∀ k, k < w * h → M 40 k = anc w h T L k) (hA : Anch w h T L a) (h7 : C7 M w h D T L R) {Q : Mem → Prop} (g : ∀ N : Mem, (∀ c, c ≠ 41 → c ≠ 42 → c ≠ 43 → c ≠ 44 → N c = M c) → C7 N w h D T L R → PlaneOK N w h D T L R a → Q N) : wX5_find M (nI a) (nI D) Q := by
  have hw : w ≤ 20 := hd.2.1
  have hh : h ≤ 10 := hd.2.2.2.1
  have w1 : 1 ≤ w := hd.1
  have hwh := wh_le hw hh
  have ha := hA.1
  refine ⟨fun q => ?_, fun q => ?_⟩
  · refine collect_w hd hf hA (fun M1 f1 m1 M2 e2 => ?_)
    have bl := bst_le (f := pT w h D T L R a) (fun n => pT_le hD hwh a n)
    have g2 : ∀ c, c ≠ 41 → M2 c = M1 c := fun c hc => by rw [e2, up_n _ _ hc]
    have m2 : Mem5 M2 w h T L a (w * h) := m1.of (fun k hk => by rw [e2, up_s, pk_un (by omega)]) (g2 42 (by decide)) (g2 43 (by decide)) (g2 44 (by decide))
    have c2 : CostOK w h L R (M2 27) (M2 22) (M2 26) := by
      rw [g2 27 (by decide), g2 22 (by decide), g2 26 (by decide), f1 27 (by decide) (by decide) (by decide) (by decide), f1 22 (by decide) (by decide) (by decide) (by decide), f1 26 (by decide) (by decide) (by decide) (by decide)]
      exact hc
    refine forN (fun n z N => wX5_find_L25 _ Q n (nI a) (nI D) z N) (fun b N => SeaX w h D T L R a M2 N (25 * b)) (D + 1) ?_ ?_ 0 M2 (by omega) ⟨fun _ _ => rfl, fun _ _ _ _ _ => rfl, by rw [e2, up_s, pk_us]; rfl, fun q => absurd q (by omega)⟩
    · intro n N hS
      rw [wX5_find_L25_s]
      refine pk_lt D (D + 1) (fun _ N2 eN => ?_) (fun q => absurd q (by omega))
      have k41 : ∀ k, k ≠ 0 → N2 41 k = N 41 k := fun k hk => by rw [eN, up_s, pk_un hk]
      have m3 : Mem5 N w h T L a (w * h) := m2.of (fun k hk => hS.2.1 k (by omega) (by omega) (by omega) (by omega)) (hS.1 42 (by decide)) (hS.1 43 (by decide)) (hS.1 44 (by decide))
      obtain ⟨cnt, -, -, z0, z1, -, -⟩ := m3
      have cp : 0 < cnt := Nat.pos_of_ne_zero (fun z => by have := z0 z; omega)
      have P : PlaneOK N2 w h D T L R a := by
        unfold PlaneOK
        rw [k41 5 (by decide), k41 6 (by decide), k41 4 (by decide), k41 1 (by decide), k41 2 (by decide), k41 3 (by decide)]
        exact ⟨(z1 cp).1, (z1 cp).2, hS.2.2.1, hS.2.2.2 (by omega)⟩
      refine g N2 (fun c c1 c2 c3 c4 => by rw [eN, up_n _ _ c1, hS.1 c c1, g2 c c1, f1 c c1 c2 c3 c4]) (Or.inr ⟨a, ha, by rw [eN, up_s, pk_us], P⟩) P
    · intro n b N hb hS ih
      rw [wX5_find_L25_s]
      refine pk_lt D b (fun q => absurd q (by omega)) (fun _ => ?_)
      refine for5 (fun n z N => wX5_find_L36 _ Q n (nI a) (nI D) (nI b) z N) (fun i N => SeaX w h D T L R a M2 N (25 * b + 5 * i)) ?_ ?_ N hS
      · intro n2 N2 hS2
        rw [wX5_find_L36_s]
        refine ⟨fun _ x ex => ?_, fun z => absurd (by decide) z⟩
        rw [ex, nI_1]
        exact ih N2 hS2
      · intro n2 i N2 hi hS2 ih2
        rw [wX5_find_L36_s]
        refine ⟨fun z => absurd z (lt5 i hi), fun _ => ?_⟩
        refine for5 (fun n z N => wX5_find_L46 _ Q n (nI a) (nI D) (nI b) (nI i - 2) z N) (fun j N => SeaX w h D T L R a M2 N (25 * b + 5 * i + j)) ?_ ?_ N2 hS2
        · intro n3 N3 hS3
          rw [wX5_find_L46_s]
          refine ⟨fun _ x ex => ?_, fun z => absurd (by decide) z⟩
          rw [ex]
          exact ih2 N3 hS3
        · intro n3 j N3 hj hS3 ih3
          rw [wX5_find_L46_s]
          refine ⟨fun z => absurd z (lt5 j hj), fun _ => ?_⟩
          obtain ⟨t1, t2, t3⟩ := t_of b i j hi hj
          rw [← t1, ← t2, ← t3]
          have m3 : Mem5 N3 w h T L a (w * h) := m2.of (fun k hk => hS3.2.1 k (by omega) (by omega) (by omega) (by omega)) (hS3.1 42 (by decide)) (hS3.1 43 (by decide)) (hS3.1 44 (by decide))
          have c3 : CostOK w h L R (N3 27) (N3 22) (N3 26) := by rw [hS3.1 27 (by decide), hS3.1 22 (by decide), hS3.1 26 (by decide)]; exact c2
          refine weigh_w w1 hwh hD c3 m3 hS3.2.2.1 (bl _).1 (fun N4 f4 f5 f6 f7 x ex => ?_)
          rw [ex, t1, t2, t3]
          refine ih3 N4 (sea_step hS3 f4 f5 f6 f7 (fun z => ?_))
          have z' : 25 * b + 5 * i + j = 0 := z
          have := pT_le (L := L) (R := R) (T := T) hD hwh a 0
          rw [z]
          show pT w h D T L R a 0 < 2147483647
          omega
  · refine g M (fun _ _ _ _ _ => rfl) h7 ?_
    rcases h7 with z | ⟨a2, z1, z2, z3⟩
    · exact absurd (q.symm.trans z) (ne_neg (by omega) (by decide))
    · rw [q] at z2
      rw [(nI_eq (by omega) (by omega)).mp z2]
      exact z3
theorem planeDepth_w {M : Mem} {w h a k : Nat} (hd : DimM M w h) (ha : a < w * h) (hk : k < w * h) {b A c : Int32} {Q : Int32 → Mem → Prop} (g : Q (pdv w a b A c k) M) : wX11_planeDepth M (nI a) (nI k) b A c Q := by
  have hw : w ≤ 20 := hd.2.1
  have hh : h ≤ 10 := hd.2.2.2.1
  have w1 : 1 ≤ w := hd.1
  have hwh := wh_le hw hh
  unfold wX11_planeDepth
  rw [hd.2.2.2.2.1]
  have n0 : ¬ nI w = 0 := nI_ne0 (by omega) (by omega)
  refine ⟨n0, fun v8 e8 => ⟨n0, fun v14 e14 => ⟨n0, n0, ?_⟩⟩⟩
  have r8 : v8 = nI (k % w) := e8.trans (pk_rem (by omega) (by omega) (by omega))
  have r14 : v14 = nI (a % w) := e14.trans (pk_rem (by omega) (by omega) (by omega))
  rw [r8, r14, pk_div (by omega) (by omega) (by omega), pk_div (by omega) (by omega) (by omega)]
  exact g
theorem planeCost_w {M : Mem} {w h D H P Qr T a n : Nat} {L R : Nat → Int32} (hm : VM M w h L R) (hr : RM M D H P Qr T) (hc : MCost w h D L R (M 11)) (hf : ∀ k, k < w * h → (M 16 k = nI a ↔ anc w h T L k = nI a)) (ha : a < w * h) {Q : Int32 → Mem → Prop} (g : Q (nI (pT w h D T L R a n)) M) : wX11_planeCost M (nI a) (tB n) (tA n) (tC n) Q := by
  have hd := hm.1
  have hw : w ≤ 20 := hd.2.1
  have hh : h ≤ 10 := hd.2.2.2.1
  have w1 : 1 ≤ w := hd.1
  have hwh := wh_le hw hh
  have hD : D ≤ 8 := hr.1.1
  have ewh : M 0 0 * M 0 1 = nI (w * h) := by rw [hd.2.2.2.2.1, hd.2.2.2.2.2, pk_mul]
  let G : Nat → Nat := fun k => if anc w h T L k = nI a then pcs w h D L R k (pdv w a (tB n) (tA n) (tC n) k) else 0
  refine forN (fun n2 z (x5 : Int32) => wX11_planeCost_L6 _ Q n2 (nI a) (tB n) (tA n) (tC n) x5 z M) (fun k x5 => x5 = nI (sm G k)) (w * h) ?_ ?_ 0 0 (by omega) rfl
  · intro n2 x5 e5
    rw [wX11_planeCost_L6_s, ewh, e5]
    exact pk_le (w * h) (w * h) (fun _ => g) (fun q => absurd q (by omega))
  · intro n2 k x5 hk e5 ih
    rw [wX11_planeCost_L6_s, ewh, e5]
    refine pk_le (w * h) k (fun q => absurd q (by omega)) (fun _ => ?_)
    rw [nI_clamp (by omega)]
    have eS : sm G (k + 1) = sm G k + (if anc w h T L k = nI a then pcs w h D L R k (pdv w a (tB n) (tA n) (tC n) k) else 0) := rfl
    refine ⟨vp_in_nI (by omega) (by omega), fun z x ex => ?_, fun z => ?_⟩
    · rw [if_neg (fun q => z ((hf k hk).mpr q)), Nat.add_zero] at eS
      rw [ex, nI_1]
      exact ih (nI (sm G k)) (congrArg nI eS.symm)
    · rw [if_pos ((hf k hk).mp z)] at eS
      refine planeDepth_w hd ha hk ⟨pk_in 0 5 (by omega), ?_⟩
      rw [cl0, hr.2.1]
      obtain ⟨d1, d2, d3⟩ := kdm w1 hk
      refine in_ix (n := D + 1) (by omega) (by omega) rfl (fun d hd2 ed => ⟨fun z => absurd z (by decide), fun _ => ?_⟩) (fun nx => ⟨fun _ => ?_, fun z => absurd rfl z⟩)
      · have hv := hc _ _ d1 d2 d (by omega)
        rw [d3] at hv
        rw [ed] at eS ⊢
        rw [i9m, nI_clamp (by omega), hv]
        refine ⟨vp_in_nI (by omega) (by omega), ?_⟩
        rcases pcs_in (w := w) (h := h) (L := L) (R := R) (k := k) hD (show d ≤ D by omega) with ⟨-, q3, q4⟩ | ⟨-, -, q4, q5⟩
        · rw [q3]
          refine ⟨fun z => absurd rfl z, fun _ y ey z ez => ?_⟩
          rw [ez, nI_1]
          exact ih y (by rw [ey, eS, q4]; exact nI_add _ 9)
        · rw [q4]
          refine ⟨fun _ y ey z ez => ?_, fun z => absurd z (ne_neg (by omega) (by decide))⟩
          rw [ez, nI_1]
          exact ih y (by rw [ey, eS, nI_add])
      · rw [pcs_out nx] at eS
        refine ⟨fun z => absurd rfl z, fun _ y ey z ez => ?_⟩
        rw [ez, nI_1]
        exact ih y (by rw [ey, eS]; exact nI_add _ 9)
