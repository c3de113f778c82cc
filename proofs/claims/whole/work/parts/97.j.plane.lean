/-! planes -/
theorem for5 {σ : Type} (W : Nat → Int32 → σ → Prop) (I : Nat → σ → Prop) (hx : ∀ n s, I 5 s → W (n + 1) 3 s) (hs : ∀ n i s, i < 5 → I i s → (∀ s', I (i + 1) s' → W n (nI i - 2 + 1) s') → W (n + 1) (nI i - 2) s) (s : σ) (h : I 0 s) : ∃ n, W n (-2) s := by
  have k := forN (fun n z s => W n (z - 2) s) I 5 (fun n s q => by show W (n + 1) (nI 5 - 2) s; rw [show nI 5 - 2 = 3 by decide +kernel]; exact hx n s q) (fun n i s hi q ih => hs n i s hi q (fun s' q' => ?_)) 0 s (by omega) h
  · rw [show (-2 : Int32) = nI 0 - 2 by decide +kernel]; exact k
  · have e : nI i - 2 + 1 = nI (i + 1) - 2 := by
      rw [← nI_1, Int32.sub_eq_add_neg, Int32.sub_eq_add_neg, Int32.add_assoc, Int32.add_assoc, Int32.add_comm (-2) 1]
    rw [e]; exact ih s' q'
theorem lt5 : ∀ i, i < 5 → ¬ (2 < nI i - 2) := by decide +kernel
noncomputable def pdv (w a : Nat) (b A c : Int32) (k : Nat) : Int32 := b + (((A * (nI (k % w) - nI (a % w))) + (c * (nI (k / w) - nI (a / w)))) >>> (1 &&& 31))
noncomputable def pcs (w h D : Nat) (L R : Nat → Int32) (k : Nat) (d : Int32) : Nat := @ite _ (Ix d (D + 1)) (Classical.propDecidable _) (if costS w h L R (k % w) (k / w) d.toNatClampNeg = -4 then 9 else (costS w h L R (k % w) (k / w) d.toNatClampNeg).toNatClampNeg) 9
theorem pcs_out {w h D : Nat} {L R : Nat → Int32} {k : Nat} {d : Int32} (q : ¬ Ix d (D + 1)) : pcs w h D L R k d = 9 := if_neg q
theorem pcs_in {w h D : Nat} {L R : Nat → Int32} {k j : Nat} (hD : D ≤ 8) (hj : j ≤ D) : (costS w h L R (k % w) (k / w) j = -4 ∧ costM w h L R (k % w) (k / w) j = -1 ∧ pcs w h D L R k (nI j) = 9) ∨ (¬ costS w h L R (k % w) (k / w) j = -4 ∧ costS w h L R (k % w) (k / w) j = nI (pcs w h D L R k (nI j)) ∧ costM w h L R (k % w) (k / w) j = nI (pcs w h D L R k (nI j)) ∧ pcs w h D L R k (nI j) ≤ 9) := by
  have e : pcs w h D L R k (nI j) = (if costS w h L R (k % w) (k / w) j = -4 then 9 else (costS w h L R (k % w) (k / w) j).toNatClampNeg) := by
    unfold pcs
    rw [if_pos ⟨j, by omega, rfl⟩, nI_clamp (by omega)]
  have c8 := cc_le w h L R (k % w) (k / w) j
  rcases costS_cases (w := w) (h := h) (L := L) (R := R) (k % w) (k / w) j with ⟨-, e1, e2⟩ | ⟨-, e1, e2, e3⟩
  · rw [if_pos e1] at e; exact Or.inl ⟨e1, e2, e⟩
  · have n4 : ¬ costS w h L R (k % w) (k / w) j = -4 := by rw [e1]; exact e3
    rw [if_neg n4, e1, nI_clamp (by omega)] at e
    rw [e]
    exact Or.inr ⟨n4, e1, e2, by omega⟩
theorem pcs_le {w h D : Nat} {L R : Nat → Int32} (hD : D ≤ 8) (k : Nat) (d : Int32) : pcs w h D L R k d ≤ 9 := by
  apply Classical.byCases (p := Ix d (D + 1))
  · rintro ⟨j, hj, rfl⟩
    rcases pcs_in (w := w) (h := h) (L := L) (R := R) (k := k) hD (show j ≤ D by omega) with q | q
    · omega
    · omega
  · intro q; rw [pcs_out q]; omega
def tB (n : Nat) : Int32 := nI (n / 25)
def tA (n : Nat) : Int32 := nI (n / 5 % 5) - 2
def tC (n : Nat) : Int32 := nI (n % 5) - 2
noncomputable def pT (w h D T : Nat) (L R : Nat → Int32) (a n : Nat) : Nat := sm (fun k => if anc w h T L k = nI a then pcs w h D L R k (pdv w a (tB n) (tA n) (tC n) k) else 0) (w * h)
theorem pT_le {w h D T : Nat} {L R : Nat → Int32} (hD : D ≤ 8) (hwh : w * h ≤ 200) (a n : Nat) : pT w h D T L R a n ≤ 1800 := by
  have : pT w h D T L R a n ≤ w * h * 9 := sm_le (fun k _ => by
    split
    · exact pcs_le hD _ _
    · omega)
  omega
def bst (f : Nat → Nat) : Nat → Nat × Nat
  | 0 => (2147483647, 0)
  | n + 1 => if f n < (bst f n).1 then (f n, n) else bst f n
theorem bst_le {f : Nat → Nat} (hf : ∀ n, f n ≤ 1800) : ∀ n, (bst f n).1 ≤ 2147483647 ∧ (0 < n → (bst f n).1 ≤ 1800)
  | 0 => ⟨Nat.le_refl _, fun q => absurd q (by omega)⟩
  | n + 1 => by
    obtain ⟨h1, h2⟩ := bst_le hf n
    have hn := hf n
    show (if f n < (bst f n).1 then (f n, n) else bst f n).1 ≤ _ ∧ (_ → (if f n < (bst f n).1 then (f n, n) else bst f n).1 ≤ _)
    by_cases q : f n < (bst f n).1
    · rw [if_pos q]; exact ⟨by show f n ≤ _; omega, fun _ => hn⟩
    · rw [if_neg q]; exact ⟨h1, fun _ => by omega⟩
def Mem5 (M : Mem) (w h T : Nat) (L : Nat → Int32) (a n : Nat) : Prop := ∃ cnt : Nat, cnt ≤ n ∧ M 41 10 = nI cnt ∧ (cnt = 0 → n ≤ a) ∧ (0 < cnt → M 41 5 = nI (a % w) ∧ M 41 6 = nI (a / w)) ∧ (∀ m, m < cnt → ∃ k : Nat, k < w * h ∧ M 42 m = nI k ∧ M 43 m = nI (k % w) - nI (a % w) ∧ M 44 m = nI (k / w) - nI (a / w)) ∧ ∀ F : Nat → Nat, sm (fun m => F (M 42 m).toNatClampNeg) cnt = sm (fun k => if anc w h T L k = nI a then F k else 0) n
theorem add_w {M : Mem} {w h T a n x y : Nat} {L : Nat → Int32} (hwh : w * h ≤ 200) (hx : x < w) (hy : y < h) (hn : n = y * w + x) (hM : Mem5 M w h T L a n) (ha : anc w h T L n = nI a) (hle : a ≤ n) {Q : Mem → Prop} (g : ∀ N : Mem, (∀ c, c ≠ 41 → c ≠ 42 → c ≠ 43 → c ≠ 44 → N c = M c) → Mem5 N w h T L a (n + 1) → Q N) : wX5_add M (nI n) (nI x) (nI y) Q := by
  have hlt := pl_lt hx hy
  obtain ⟨cnt, h1, h2, h3, h4, h5, h6⟩ := hM
  have en : n % w = x ∧ n / w = y := ⟨by rw [hn, pl_mod hx], by rw [hn, pl_div hx]⟩
  have J : ∀ M2 : Mem, (∀ c, c ≠ 41 → M2 c = M c) → M2 41 10 = nI cnt → M2 41 5 = nI (a % w) → M2 41 6 = nI (a / w) → wX5_add_J17 Q (nI n) (nI x) (nI y) M2 := by
    intro M2 f e10 e5 e6
    unfold wX5_add_J17
    rw [e10]
    refine ⟨vp_in_nI (by omega) (by omega), fun M3 e3 => ?_⟩
    have g10 : M3 41 = M2 41 := by rw [e3, up_n _ _ (by decide)]
    rw [g10, e10, e5]
    refine ⟨vp_in_nI (by omega) (by omega), fun M4 e4 => ?_⟩
    have g10' : M4 41 = M2 41 := by rw [e4, up_n _ _ (by decide), g10]
    rw [g10', e10, e6]
    refine ⟨vp_in_nI (by omega) (by omega), fun M5 e5' N eN => ?_⟩
    rw [nI_clamp (by omega)] at e3 e4 e5'
    have g41 : M5 41 = M2 41 := by rw [e5', up_n _ _ (by decide), g10']
    rw [g41, e10, nI_1] at eN
    have n42 : N 42 = upd (M 42) cnt (nI n) := by rw [eN, up_n _ _ (by decide), e5', up_n _ _ (by decide), e4, up_n _ _ (by decide), e3, up_s, f 42 (by decide)]
    have n43 : N 43 = upd (M 43) cnt (nI x - nI (a % w)) := by rw [eN, up_n _ _ (by decide), e5', up_n _ _ (by decide), e4, up_s, e3, up_n _ _ (by decide), f 43 (by decide)]
    have n44 : N 44 = upd (M 44) cnt (nI y - nI (a / w)) := by rw [eN, up_n _ _ (by decide), e5', up_s, e4, up_n _ _ (by decide), e3, up_n _ _ (by decide), f 44 (by decide)]
    have n41 : N 41 = upd (M2 41) 10 (nI (cnt + 1)) := by rw [eN, up_s]
    refine g N (fun c c1 c2 c3 c4 => by rw [eN, up_n _ _ c1, e5', up_n _ _ c4, e4, up_n _ _ c3, e3, up_n _ _ c2, f c c1]) ⟨cnt + 1, by omega, by rw [n41, pk_us], fun q => absurd q (by omega), fun _ => ⟨by rw [n41, pk_un (by decide), e5], by rw [n41, pk_un (by decide), e6]⟩, fun m hm => ?_, fun F => ?_⟩
    · rw [n42, n43, n44]
      by_cases z : m = cnt
      · rw [z, pk_us, pk_us, pk_us]
        exact ⟨n, by omega, rfl, by rw [en.1], by rw [en.2]⟩
      · rw [pk_un z, pk_un z, pk_un z]; exact h5 m (by omega)
    · show sm (fun m => F (N 42 m).toNatClampNeg) cnt + F (N 42 cnt).toNatClampNeg = sm (fun k => if anc w h T L k = nI a then F k else 0) n + (if anc w h T L n = nI a then F n else 0)
      rw [if_pos ha, ← h6 F, n42, pk_us, nI_clamp (by omega)]
      refine congrArg (· + F n) (sm_cong (fun k hk => ?_))
      rw [pk_un (by omega)]
  unfold wX5_add
  rw [h2]
  refine ⟨fun z => ?_, fun z M9 e9 M14 e14 => ?_⟩
  · have : 0 < cnt := Nat.pos_of_ne_zero (fun q => z (by rw [q]; rfl))
    exact J M (fun _ _ => rfl) h2 (h4 this).1 (h4 this).2
  · have zc : cnt = 0 := (nI_eq (b := 0) (by omega) (by omega)).mp z
    have ea : n = a := by have := h3 zc; omega
    refine J M14 (fun c hc => by rw [e14, up_n _ _ hc, e9, up_n _ _ hc]) ?_ ?_ ?_
    · rw [e14, up_s, pk_un (by decide), e9, up_s, pk_un (by decide), h2]
    · rw [e14, up_s, pk_un (by decide), e9, up_s, pk_us, ← ea, en.1]
    · rw [e14, up_s, pk_us, ← ea, en.2]
/-- what is known of an anchor -/
def Anch (w h T : Nat) (L : Nat → Int32) (a : Nat) : Prop := a < w * h ∧ anc w h T L a = nI a ∧ ∀ k, k < w * h → anc w h T L k = nI a → a ≤ k
theorem collect_w {M : Mem} {w h T a : Nat} {L : Nat → Int32} (hd : Dim M w h) (hf : ∀ k, k < w * h → M 40 k = anc w h T L k) (hA : Anch w h T L a) {Q : Mem → Prop} (g : ∀ N : Mem, (∀ c, c ≠ 41 → c ≠ 42 → c ≠ 43 → c ≠ 44 → N c = M c) → Mem5 N w h T L a (w * h) → Q N) : wX5_collect M (nI a) Q := by
  have hw : w ≤ 20 := hd.2.1
  have hh : h ≤ 10 := hd.2.2.2.1
  have hwh := wh_le hw hh
  intro M2 e2
  have f2 : ∀ c, c ≠ 41 → M2 c = M c := fun c hc => by rw [e2, up_n _ _ hc]
  let G : Nat → Mem → Prop := fun n N => (∀ c, c ≠ 41 → c ≠ 42 → c ≠ 43 → c ≠ 44 → N c = M c) ∧ Mem5 N w h T L a n
  refine forN (fun n z N => wX5_collect_L8 _ Q n (nI a) z N) (fun y N => G (y * w) N) h ?_ ?_ 0 M2 (by omega) ⟨fun c c1 _ _ _ => f2 c c1, 0, by omega, by rw [e2, up_s, pk_us]; rfl, fun _ => by omega, fun q => absurd q (by omega), fun m q => absurd q (by omega), fun F => by rw [Nat.zero_mul]; rfl⟩
  · intro n N hG
    rw [wX5_collect_L8_s, hG.1 1 (by decide) (by decide) (by decide) (by decide), hd.2.2.2.2.2]
    refine pk_le h h (fun _ => g N hG.1 (by rw [Nat.mul_comm]; exact hG.2)) (fun q => absurd q (by omega))
  · intro n y N hy hG ih
    rw [wX5_collect_L8_s, hG.1 1 (by decide) (by decide) (by decide) (by decide), hd.2.2.2.2.2]
    refine pk_le h y (fun q => absurd q (by omega)) (fun _ => ?_)
    refine forN (fun n z N => wX5_collect_L20 _ Q n (nI a) (nI y) z N) (fun x N => G (y * w + x) N) w ?_ ?_ 0 N (by omega) (by rw [Nat.add_zero]; exact hG)
    · intro n2 N2 hG2
      rw [wX5_collect_L20_s, hG2.1 1 (by decide) (by decide) (by decide) (by decide), hd.2.2.2.2.1]
      refine pk_le w w (fun _ x ex => ?_) (fun q => absurd q (by omega))
      rw [ex, nI_1]
      exact ih N2 (by rw [Nat.add_mul, Nat.one_mul]; exact hG2)
    · intro n2 x N2 hx hG2 ih2
      have hk := pl200 hw hh hx hy
      have hl := pl_lt hx hy
      have d2 : Dim N2 w h := by unfold Dim; rw [hG2.1 1 (by decide) (by decide) (by decide) (by decide)]; exact hd
      rw [wX5_collect_L20_s, d2.2.2.2.2.1]
      refine pk_le w x (fun q => absurd q (by omega)) (fun _ => ?_)
      refine placeOf_w d2 ?_
      rw [nI_clamp (by omega), hG2.1 40 (by decide) (by decide) (by decide) (by decide), hf _ hl]
      refine ⟨vp_in_nI hk (by omega), fun z x2 ex => ?_, fun z => ?_⟩
      · rw [ex, nI_1]
        refine ih2 N2 ⟨hG2.1, ?_⟩
        obtain ⟨cnt, h1, h2, h3, h4, h5, h6⟩ := hG2.2
        refine ⟨cnt, by omega, h2, fun q => ?_, h4, h5, fun F => ?_⟩
        · have := h3 q
          have ne : y * w + x ≠ a := fun q2 => z (by rw [q2]; exact hA.2.1)
          omega
        · show _ = sm (fun k => if anc w h T L k = nI a then F k else 0) (y * w + x) + (if anc w h T L (y * w + x) = nI a then F (y * w + x) else 0)
          rw [if_neg z, h6 F, Nat.add_zero]
      · refine add_w hwh hx hy rfl hG2.2 z (hA.2.2 _ hl z) (fun N3 f3 m3 x2 ex => ?_)
        rw [ex, nI_1]
        exact ih2 N3 ⟨fun c c1 c2 c3 c4 => (f3 c c1 c2 c3 c4).trans (hG2.1 c c1 c2 c3 c4), m3⟩
theorem sm_upto {f : Nat → Nat} {m : Nat} : ∀ {n : Nat}, m ≤ n → sm f m ≤ sm f n
  | 0, q => by rw [Nat.le_zero.mp q]; exact Nat.le_refl _
  | n + 1, q => by
    rcases Nat.lt_or_ge n m with z | z
    · rw [show m = n + 1 by omega]; exact Nat.le_refl _
    · exact Nat.le_trans (sm_upto z) (Nat.le_add_right _ _)
theorem weigh_w {M : Mem} {w h D T a n p : Nat} {L R : Nat → Int32} (hw1 : 1 ≤ w) (hwh : w * h ≤ 200) (hD : D ≤ 8) (hc : CostOK w h L R (M 27) (M 22) (M 26)) (hM : Mem5 M w h T L a (w * h)) (hp : M 41 4 = nI p) (hp2 : p ≤ 2147483647) {Q : Mem → Prop} (g : ∀ N : Mem, (∀ c, c ≠ 41 → N c = M c) → (∀ k, k ≠ 1 → k ≠ 2 → k ≠ 3 → k ≠ 4 → N 41 k = M 41 k) → (pT w h D T L R a n < p → N 41 4 = nI (pT w h D T L R a n) ∧ N 41 1 = tB n ∧ N 41 2 = tA n ∧ N 41 3 = tC n) → (¬ pT w h D T L R a n < p → N 41 = M 41) → Q N) : wX5_weigh M (tB n) (tA n) (tC n) (nI D) Q := by
  obtain ⟨cnt, h1, h2, h3, h4, h5, h6⟩ := hM
  let G : Nat → Nat := fun m => pcs w h D L R (M 42 m).toNatClampNeg (pdv w a (tB n) (tA n) (tC n) (M 42 m).toNatClampNeg)
  have tot : sm G cnt = pT w h D T L R a n := h6 (fun k => pcs w h D L R k (pdv w a (tB n) (tA n) (tC n) k))
  have Gle : ∀ m, G m ≤ 9 := fun m => pcs_le hD _ _
  have Sle : ∀ m, m ≤ cnt → sm G m ≤ 1800 := fun m hm => by
    have := sm_le (f := G) (c := 9) (n := m) (fun k _ => Gle k)
    omega
  have fin : ∀ m, m ≤ cnt → (m = cnt ∨ p ≤ sm G m) → (((M 41 4) ≤ nI (sm G m)) → Q M) ∧ (¬ ((M 41 4) ≤ nI (sm G m)) → ∀ M124 : Mem, M124 = va_up M 41 (upd (M 41) 1 (tB n)) → ∀ M129 : Mem, M129 = va_up M124 41 (upd (M124 41) 2 (tA n)) → ∀ M134 : Mem, M134 = va_up M129 41 (upd (M129 41) 3 (tC n)) → ∀ M140 : Mem, M140 = va_up M134 41 (upd (M134 41) 4 (nI (sm G m))) → Q M140) := by
    intro m hm hor
    have b := Sle m hm
    have up := sm_upto (f := G) hm
    rw [hp]
    refine pk_le p (sm G m) (fun q => g M (fun _ _ => rfl) (fun _ _ _ _ _ => rfl) (fun z => absurd z (by omega)) (fun _ => rfl)) (fun q N1 e1 N2 e2 N3 e3 N4 e4 => ?_)
    have em : m = cnt := hor.elim id (fun z => absurd z (by omega))
    rw [em, tot] at q e4
    have n41 : N4 41 = upd (upd (upd (upd (M 41) 1 (tB n)) 2 (tA n)) 3 (tC n)) 4 (nI (pT w h D T L R a n)) := by rw [e4, up_s, e3, up_s, e2, up_s, e1, up_s]
    refine g N4 (fun c hc => by rw [e4, up_n _ _ hc, e3, up_n _ _ hc, e2, up_n _ _ hc, e1, up_n _ _ hc]) (fun k k1 k2 k3 k4 => by rw [n41, pk_un k4, pk_un k3, pk_un k2, pk_un k1]) (fun _ => ?_) (fun z => absurd q z)
    rw [n41]
    exact ⟨pk_us, by rw [pk_un (by decide), pk_un (by decide), pk_un (by decide), pk_us], by rw [pk_un (by decide), pk_un (by decide), pk_us], by rw [pk_un (by decide), pk_us]⟩
  refine forN (fun n2 z (x6 : Int32) => wX5_weigh_L6 _ Q n2 (tB n) (tA n) (tC n) (nI D) x6 z M) (fun m x6 => x6 = nI (sm G m)) cnt ?_ ?_ 0 0 (by omega) rfl
  · intro n2 x6 e6
    rw [wX5_weigh_L6_s, h2, e6]
    exact pk_le cnt cnt (fun _ => fin cnt (Nat.le_refl _) (Or.inl rfl)) (fun q => absurd q (by omega))
  · intro n2 m x6 hm e6 ih
    have b := Sle m (by omega)
    rw [wX5_weigh_L6_s, h2, e6]
    refine pk_le cnt m (fun q => absurd q (by omega)) (fun _ => ?_)
    rw [show M 41 4 = nI p from hp]
    refine pk_le p (sm G m) (fun q => by have := fin m (by omega) (Or.inr q); rw [hp] at this; exact this) (fun q => ?_)
    obtain ⟨k, hk, k2, k3, k4⟩ := h5 m hm
    obtain ⟨d1, d2, d3⟩ := kdm hw1 hk
    have eG : G m = pcs w h D L R k (pdv w a (tB n) (tA n) (tC n) k) := by show pcs w h D L R (M 42 m).toNatClampNeg _ = _; rw [k2, nI_clamp (by omega)]
    rw [nI_clamp (by omega), k3, k4]
    refine ⟨vp_in_nI (by omega) (by omega), vp_in_nI (by omega) (by omega), fun x8 e8 => ?_⟩
    have e8' : x8 = pdv w a (tB n) (tA n) (tC n) k := e8
    rw [← e8'] at eG
    have go : ∀ x, x = nI (sm G m + G m) → wX5_weigh_L6 (fun x1 x2 x3 x6 M => (((M 41 4) ≤ x6) → Q M) ∧ (¬ ((M 41 4) ≤ x6) → ∀ M124 : Mem, M124 = va_up M 41 (upd (M 41) 1 x1) → ∀ M129 : Mem, M129 = va_up M124 41 (upd (M124 41) 2 x2) → ∀ M134 : Mem, M134 = va_up M129 41 (upd (M129 41) 3 x3) → ∀ M140 : Mem, M140 = va_up M134 41 (upd (M134 41) 4 x6) → Q M140)) Q n2 (tB n) (tA n) (tC n) (nI D) x (nI (m + 1)) M := fun x ex => ih x ex
    have none : ¬ Ix x8 (D + 1) → wX5_weigh_J62 (wX5_weigh_L6 (fun x1 x2 x3 x6 M => (((M 41 4) ≤ x6) → Q M) ∧ (¬ ((M 41 4) ≤ x6) → ∀ M124 : Mem, M124 = va_up M 41 (upd (M 41) 1 x1) → ∀ M129 : Mem, M129 = va_up M124 41 (upd (M124 41) 2 x2) → ∀ M134 : Mem, M134 = va_up M129 41 (upd (M129 41) 3 x3) → ∀ M140 : Mem, M140 = va_up M134 41 (upd (M134 41) 4 x6) → Q M140)) Q n2) (fun x1 x2 x3 x6 M => (((M 41 4) ≤ x6) → Q M) ∧ (¬ ((M 41 4) ≤ x6) → ∀ M124 : Mem, M124 = va_up M 41 (upd (M 41) 1 x1) → ∀ M129 : Mem, M129 = va_up M124 41 (upd (M124 41) 2 x2) → ∀ M134 : Mem, M134 = va_up M129 41 (upd (M129 41) 3 x3) → ∀ M140 : Mem, M140 = va_up M134 41 (upd (M134 41) 4 x6) → Q M140)) Q (tB n) (tA n) (tC n) (nI D) (nI (sm G m)) (nI m) M := by
      intro nx
      rw [pcs_out nx] at eG
      refine ⟨fun z => absurd rfl z, fun _ y ey z ez => ?_⟩
      rw [ez, nI_1]
      exact go y (by rw [ey, eG]; exact nI_add _ 9)
    refine ⟨fun q1 => none (fun z => ((lt_nI (by omega)).mp z).1 q1), fun q1 => ⟨fun q2 => ?_, fun q2 => none ?_⟩⟩
    · obtain ⟨d, hd, ed⟩ := nI_of2 (x := x8) (M := nI D) (n := D) (nI_toInt (by omega)) q1 q2
      rw [ed] at eG ⊢
      rw [k2, i9, nI_clamp (by omega)]
      have hv := (hc _ _ d1 d2).1 d (by omega)
      rw [d3] at hv
      rw [hv]
      refine ⟨vp_in_nI (by omega) (by omega), vp_in_nI (by omega) (by omega), ?_⟩
      rcases pcs_in (w := w) (h := h) (L := L) (R := R) (k := k) hD hd with ⟨q3, -, q4⟩ | ⟨q3, q4, -, q5⟩
      · refine ⟨fun z => absurd q3 z, fun _ y ey z ez => ?_⟩
        rw [ez, nI_1]
        exact go y (by rw [ey, eG, q4]; exact nI_add _ 9)
      · refine ⟨fun _ y ey z ez => ?_, fun z => absurd z q3⟩
        rw [ez, nI_1]
        exact go y (by rw [ey, q4, eG, nI_add])
    · rintro ⟨d, hd, ed⟩
      apply q2
      rw [ed]
      exact nI_le (by omega) (by omega)
