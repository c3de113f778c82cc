/-! segments: what they are; the class's -/
def nr (T : Nat) (a b : Int32) : Prop := ∃ u v : Nat, u < 256 ∧ v < 256 ∧ a = nI u ∧ b = nI v ∧ u ≤ v + T ∧ v ≤ u + T
theorem nr_sym {T : Nat} {a b : Int32} (h : nr T a b) : nr T b a := by
  obtain ⟨u, v, h1, h2, h3, h4, h5, h6⟩ := h
  exact ⟨v, u, h2, h1, h4, h3, h6, h5⟩
theorem nr_l {T : Nat} {a b : Int32} (h : nr T a b) : ¬ a = -5 := by
  obtain ⟨u, v, h1, h2, h3, h4, h5, h6⟩ := h
  rw [h3]; exact nI_n5 h1
theorem nr_r {T : Nat} {a b : Int32} (h : nr T a b) : ¬ b = -5 := nr_l (nr_sym h)
def Geo (w h k l : Nat) : Prop := (l = k + 1 ∧ k % w + 1 < w ∨ l = k + w) ∧ l < w * h
def Ed (w h T : Nat) (L : Nat → Int32) (k l : Nat) : Prop := Geo w h k l ∧ nr T (L k) (L l)
def Conn (w h T : Nat) (L : Nat → Int32) (a b : Nat) : Prop := ∀ S : Nat → Prop, (∀ k l, Ed w h T L k l → (S k ↔ S l)) → (S a ↔ S b)
theorem Conn.rf {w h T : Nat} {L : Nat → Int32} (a : Nat) : Conn w h T L a a := fun _ _ => Iff.rfl
theorem Conn.sy {w h T : Nat} {L : Nat → Int32} {a b : Nat} (q : Conn w h T L a b) : Conn w h T L b a := fun S c => (q S c).symm
theorem Conn.tr {w h T : Nat} {L : Nat → Int32} {a b c : Nat} (p : Conn w h T L a b) (g : Conn w h T L b c) : Conn w h T L a c := fun S q => (p S q).trans (g S q)
theorem Conn.ed {w h T : Nat} {L : Nat → Int32} {a b : Nat} (q : Ed w h T L a b) : Conn w h T L a b := fun _ c => c a b q
theorem Conn.lost {w h T : Nat} {L : Nat → Int32} {a b : Nat} (q : Conn w h T L a b) : (¬ L a = -5 ↔ ¬ L b = -5) := q (fun m => ¬ L m = -5) (fun _ _ e => ⟨fun _ => nr_r e.2, fun _ => nr_l e.2⟩)
theorem Geo.lt {w h k l : Nat} (hw : 1 ≤ w) (g : Geo w h k l) : k < l ∧ l < w * h := by
  obtain ⟨h1, h2⟩ := g
  exact ⟨by omega, h2⟩
/-- each square not lost has an anchor that it hangs together with -/
def AncP (w h T : Nat) (L : Nat → Int32) (z : Int32) (n : Nat) (f : Nat → Int32) : Prop := ∀ k, k < n → (L k = -5 → f k = z) ∧ (¬ L k = -5 → ∃ a : Nat, a ≤ k ∧ f k = nI a ∧ Conn w h T L a k)
def AncOK (w h T : Nat) (L : Nat → Int32) (z : Int32) (f : Nat → Int32) : Prop := AncP w h T L z (w * h) f ∧ ∀ k l, Ed w h T L k l → f k = f l
theorem anc_le {w h T : Nat} {L : Nat → Int32} {z1 z2 : Int32} {f g : Nat → Int32} (hwh : w * h < 1000) (hf : AncOK w h T L z1 f) (hg : AncOK w h T L z2 g) {k a b : Nat} (hk : k < w * h) (q : ¬ L k = -5) (ea : f k = nI a) (ha : a ≤ k) (ca : Conn w h T L a k) (eb : g k = nI b) (hb : b ≤ k) : b ≤ a := by
  have e : g a = g k := (ca (fun m => g m = g k) (fun x y e => by rw [hg.2 x y e])).mpr rfl
  obtain ⟨c, hc, ec, -⟩ := (hg.1 a (by omega)).2 (ca.lost.mpr q)
  rw [e, eb] at ec
  have := (nI_eq (by omega) (by omega)).mp ec
  omega
theorem anc_uniq {w h T : Nat} {L : Nat → Int32} {z1 z2 : Int32} {f g : Nat → Int32} (hwh : w * h < 1000) (hf : AncOK w h T L z1 f) (hg : AncOK w h T L z2 g) {k : Nat} (hk : k < w * h) (q : ¬ L k = -5) : f k = g k := by
  obtain ⟨a, ha, ea, ca⟩ := (hf.1 k hk).2 q
  obtain ⟨b, hb, eb, cb⟩ := (hg.1 k hk).2 q
  have h1 := anc_le hwh hf hg hk q ea ha ca eb hb
  have h2 := anc_le hwh hg hf hk q eb hb cb ea ha
  rw [ea, eb, show a = b by omega]
noncomputable def anc (w h T : Nat) (L : Nat → Int32) : Nat → Int32 := @Classical.epsilon _ ⟨fun _ => 0⟩ (AncOK w h T L (-5))
theorem anc_of {w h T : Nat} {L : Nat → Int32} {f : Nat → Int32} (hwh : w * h < 1000) (hf : AncOK w h T L (-5) f) : AncOK w h T L (-5) (anc w h T L) ∧ ∀ k, k < w * h → f k = anc w h T L k := by
  have o : AncOK w h T L (-5) (anc w h T L) := @Classical.epsilon_spec _ (AncOK w h T L (-5)) ⟨f, hf⟩
  refine ⟨o, fun k hk => ?_⟩
  by_cases q : L k = -5
  · rw [(hf.1 k hk).1 q, (o.1 k hk).1 q]
  · exact anc_uniq hwh hf o hk q
theorem hangs_w {M : Mem} {T : Nat} (hT : T ≤ 255) {a b : Int32} (ha : a = -5 ∨ ∃ v : Nat, v < 256 ∧ a = nI v) (hb : b = -5 ∨ ∃ v : Nat, v < 256 ∧ b = nI v) {Q : Int32 → Mem → Prop} (h1 : nr T a b → Q 1 M) (h0 : ¬ nr T a b → Q 0 M) : wX7_hangs M a b (nI T) Q := by
  refine ⟨fun q => h0 (fun z => nr_l z q), fun qa => ⟨fun q => h0 (fun z => nr_r z q), fun qb v ev => ?_⟩⟩
  obtain ⟨u, hu, eu⟩ := ha.elim (fun z => absurd z qa) id
  obtain ⟨t, ht, et⟩ := hb.elim (fun z => absurd z qb) id
  have d1 : (nI u - nI t).toInt = (u : Int) - t := pk_sub_toInt (by omega) (by omega)
  have tI : (nI T).toInt = (T : Int) := nI_toInt (by omega)
  have ev2 : v = nI (if t ≤ u then u - t else t - u) := by
    rw [ev, eu, et]
    by_cases q : t ≤ u
    · rw [if_pos q, pk_sub q, if_pos (nI_pos' (by omega))]
    · have n0 : ¬ (0 : Int32) ≤ nI u - nI t := by
        rw [Int32.le_iff_toInt_le, d1, Int32.toInt_zero]; omega
      rw [if_neg q, if_neg n0, Int32.zero_sub, Int32.neg_sub, pk_sub (by omega)]
  rw [ev2]
  refine pk_lt T (if t ≤ u then u - t else t - u) (fun q => h0 ?_) (fun q => h1 ?_) (hb := by split <;> omega)
  · rintro ⟨u2, t2, b1, b2, e1, e2, b3, b4⟩
    rw [eu] at e1; rw [et] at e2
    have e1 := (nI_eq (by omega) (by omega)).mp e1
    have e2 := (nI_eq (by omega) (by omega)).mp e2
    split at q <;> omega
  · exact ⟨u, t, hu, ht, eu, et, by split at q <;> omega, by split at q <;> omega⟩
/-- the anchors of the squares up to p, some edges being seen to -/
def AncX (w h T : Nat) (L : Nat → Int32) (n : Nat) (X : Nat → Nat → Prop) (f : Nat → Int32) : Prop := AncP w h T L (-5) n f ∧ ∀ k l, X k l → f k = f l
theorem join_w {M : Mem} {w h T p b : Nat} {L : Nat → Int32} {X : Nat → Nat → Prop} (hp : p < 200) (hb : b < p) (hX : ∀ k l, X k l → k ≤ p ∧ l ≤ p) (hA : AncX w h T L (p + 1) X (M 40)) (he : Ed w h T L b p) {Q : Mem → Prop} (g : ∀ N : Mem, (∀ c, c ≠ 40 → N c = M c) → AncX w h T L (p + 1) (fun k l => X k l ∨ k = b ∧ l = p) (N 40) → Q N) : wX7_join M (nI p) (nI b) Q := by
  obtain ⟨a1, ha1, e1, c1⟩ := (hA.1 p (by omega)).2 (nr_r he.2)
  obtain ⟨a2, ha2, e2, c2⟩ := (hA.1 b (by omega)).2 (nr_l he.2)
  unfold wX7_join
  rw [nI_clamp (by omega), nI_clamp (by omega), e1, e2]
  refine ⟨vp_in_nI hp (by omega), vp_in_nI (by omega) (by omega), fun v12 ev12 => ⟨vp_in_nI hp (by omega), vp_in_nI (by omega) (by omega), fun v28 ev28 => ?_⟩⟩
  have E12 : v12 = nI (min a1 a2) := by
    rw [ev12]
    by_cases q : a2 < a1
    · rw [if_pos (nI_lt q (by omega))]; congr 1; omega
    · rw [if_neg (nI_nlt (by omega) (by omega))]; congr 1; omega
  have E28 : v28 = nI (max a1 a2) := by
    rw [ev28]
    by_cases q : a1 < a2
    · rw [if_pos (nI_lt q (by omega))]; congr 1; omega
    · rw [if_neg (nI_nlt (by omega) (by omega))]; congr 1; omega
  rw [E12, E28]
  have cc : Conn w h T L a1 a2 := c1.tr ((Conn.ed he).sy.tr c2.sy)
  have cl : Conn w h T L (min a1 a2) (max a1 a2) := by
    rcases Nat.le_total a1 a2 with q | q
    · rw [Nat.min_eq_left q, Nat.max_eq_right q]; exact cc
    · rw [Nat.min_eq_right q, Nat.max_eq_left q]; exact cc.sy
  have hmx : max a1 a2 ≤ p := by omega
  have b1 : a1 = min a1 a2 ∨ a1 = max a1 a2 := by omega
  have b2 : a2 = min a1 a2 ∨ a2 = max a1 a2 := by omega
  have hml : min a1 a2 ≤ max a1 a2 := by omega
  generalize min a1 a2 = lw at *
  generalize max a1 a2 = hg at *
  refine forN (fun n z N => wX7_join_L37 _ Q n (nI p) (nI lw) (nI hg) z N) (fun i N => hg ≤ i ∧ (∀ c, c ≠ 40 → N c = M c) ∧ (∀ j, j < hg ∨ i ≤ j → N 40 j = M 40 j) ∧ ∀ j, hg ≤ j → j < i → N 40 j = (if M 40 j = nI hg then nI lw else M 40 j)) (p + 1) ?_ ?_ hg M (by omega) ⟨Nat.le_refl _, fun _ _ => rfl, fun _ _ => rfl, fun j q1 q2 => absurd q1 (by omega)⟩
  · intro n N hI
    obtain ⟨-, h1, h2, h3⟩ := hI
    rw [wX7_join_L37_s]
    refine pk_lt p (p + 1) (fun _ => ?_) (fun q => absurd q (by omega))
    have al : ∀ j, j ≤ p → N 40 j = (if M 40 j = nI hg then nI lw else M 40 j) := by
      intro j hj
      by_cases q : hg ≤ j
      · exact h3 j q (by omega)
      · rw [h2 j (by omega)]
        by_cases q2 : M 40 j = nI hg
        · exfalso
          by_cases q3 : L j = -5
          · rw [(hA.1 j (by omega)).1 q3] at q2
            exact absurd q2.symm (ne_neg (by omega) (by decide))
          · obtain ⟨a, ha, ea, -⟩ := (hA.1 j (by omega)).2 q3
            rw [ea] at q2
            have := (nI_eq (by omega) (by omega)).mp q2
            omega
        · rw [if_neg q2]
    refine g N h1 ⟨fun k hk => ⟨fun q => ?_, fun q => ?_⟩, fun k l hkl => ?_⟩
    · have o := (hA.1 k hk).1 q
      rw [al k (by omega), o, if_neg (fun z => absurd z.symm (ne_neg (by omega) (by decide)))]
    · obtain ⟨a, ha, ea, ca⟩ := (hA.1 k hk).2 q
      rw [al k (by omega)]
      by_cases q2 : M 40 k = nI hg
      · rw [if_pos q2]
        rw [ea] at q2
        have := (nI_eq (by omega) (by omega)).mp q2
        exact ⟨lw, by omega, rfl, cl.tr (by rw [← this]; exact ca)⟩
      · rw [if_neg q2]
        exact ⟨a, ha, ea, ca⟩
    · rcases hkl with hkl | ⟨rfl, rfl⟩
      · have := hX k l hkl
        rw [al k this.1, al l this.2, hA.2 k l hkl]
      · rw [al k (by omega), al l (Nat.le_refl _), e1, e2]
        rcases b1 with b1 | b1 <;> rcases b2 with b2 | b2
        · rw [b1, b2]
        · rw [b1, b2, if_pos rfl]; split <;> rfl
        · rw [b1, b2, if_pos rfl]; split <;> rfl
        · rw [b1, b2]
  · intro n i N hi hI ih
    obtain ⟨h0, h1, h2, h3⟩ := hI
    rw [wX7_join_L37_s]
    refine pk_lt p i (fun q => absurd q (by omega)) (fun _ => ?_)
    rw [nI_clamp (by omega), h2 i (by omega)]
    refine ⟨vp_in_nI (by omega) (by omega), fun q x ex => ?_, fun q => ⟨vp_in_nI (by omega) (by omega), fun N2 e2 x ex => ?_⟩⟩
    · rw [ex, nI_1]
      refine ih N ⟨by omega, h1, fun j hj => h2 j (by omega), fun j hj1 hj2 => ?_⟩
      by_cases z : j = i
      · rw [z, h2 i (by omega), if_neg q]
      · exact h3 j hj1 (by omega)
    · rw [ex, nI_1]
      refine ih N2 ⟨by omega, fun c hc => by rw [e2, up_n _ _ hc, h1 c hc], fun j hj => by rw [e2, up_s, pk_un (by omega)]; exact h2 j (by omega), fun j hj1 hj2 => ?_⟩
      rw [e2, up_s]
      by_cases z : j = i
      · rw [z, pk_us, if_pos q]
      · rw [pk_un z]; exact h3 j hj1 (by omega)
theorem AncX.mono {w h T n : Nat} {L : Nat → Int32} {X Y : Nat → Nat → Prop} {f : Nat → Int32} (hA : AncX w h T L n X f) (hY : ∀ k l, Y k l → X k l) : AncX w h T L n Y f := ⟨hA.1, fun k l q => hA.2 k l (hY k l q)⟩
theorem geo_into {w h x y k : Nat} (hx : x < w) (g : Geo w h k (y * w + x)) : (1 ≤ x ∧ k = y * w + x - 1) ∨ (1 ≤ y ∧ k = y * w + x - w) := by
  obtain ⟨q | q, -⟩ := g
  · left
    have e : k = y * w + x - 1 := by omega
    refine ⟨?_, e⟩
    rcases Nat.eq_zero_or_pos x with z | z
    · exfalso
      obtain ⟨t, rfl⟩ : ∃ t, y = t + 1 := ⟨y - 1, by
        rcases Nat.eq_zero_or_pos y with z2 | z2
        · rw [z2, z, Nat.zero_mul] at q; omega
        · omega⟩
      rw [z, Nat.add_mul, Nat.one_mul] at e
      have : k = t * w + (w - 1) := by omega
      rw [this, pl_mod (by omega)] at q
      omega
    · exact z
  · right
    refine ⟨?_, by omega⟩
    rcases Nat.eq_zero_or_pos y with z | z
    · rw [z, Nat.zero_mul] at q; omega
    · exact z
theorem geo_left {w h x y : Nat} (hx : x < w) (hy : y < h) (h1 : 1 ≤ x) : Geo w h (y * w + x - 1) (y * w + x) := by
  refine ⟨Or.inl ⟨by omega, ?_⟩, pl_lt hx hy⟩
  rw [show y * w + x - 1 = y * w + (x - 1) by omega, pl_mod (by omega)]
  omega
theorem geo_up {w h x y : Nat} (hx : x < w) (hy : y < h) (h1 : 1 ≤ y) : Geo w h (y * w + x - w) (y * w + x) := by
  refine ⟨Or.inr ?_, pl_lt hx hy⟩
  obtain ⟨t, rfl⟩ : ∃ t, y = t + 1 := ⟨y - 1, by omega⟩
  rw [Nat.add_mul, Nat.one_mul]
  omega
def C6 (M : Mem) (w h T : Nat) (L : Nat → Int32) : Prop := M 39 1 = 0 ∨ AncOK w h T L (-5) (M 40)
theorem gather_w {M : Mem} {w h T : Nat} {L R : Nat → Int32} (hx : VX M w h L R) (hT : T ≤ 255) {Q : Mem → Prop} (g : ∀ N : Mem, (∀ c, c ≠ 39 → c ≠ 40 → N c = M c) → AncOK w h T L (-5) (N 40) → Q N) : wX7_gather M (nI T) Q := by
  have hd := hx.1
  have hw : w ≤ 20 := hd.2.1
  have hh : h ≤ 10 := hd.2.2.2.1
  have hwh := wh_le hw hh
  let F : Nat → Mem → Prop := fun n N => (∀ c, c ≠ 40 → N c = M c) ∧ AncX w h T L n (fun k l => Ed w h T L k l ∧ l < n) (N 40)
  have vx : ∀ {N : Mem}, (∀ c, c ≠ 40 → N c = M c) → VX N w h L R := fun hF => hx.of (hF 1 (by decide)) (hF 3 (by decide)) (hF 4 (by decide)) (hF 6 (by decide)) (hF 7 (by decide))
  refine forN (fun n z N => wX7_gather_L2 _ Q n (nI T) z N) (fun y N => F (y * w) N) h ?_ ?_ 0 M (by omega) ⟨fun _ _ => rfl, fun k q => absurd q (by omega), fun k l q => absurd q.2 (by omega)⟩
  · intro n N hF
    rw [wX7_gather_L2_s]
    refine pk_le h h (fun _ => ?_) (fun q => absurd q (by omega)) (hx := (vx hF.1).1.2.2.2.2.2)
    intro N2 e2
    refine g N2 (fun c c1 c2 => by rw [e2, up_n _ _ c1, hF.1 c c2]) ?_
    rw [e2, up_n _ _ (by decide)]
    refine ⟨?_, fun k l e => hF.2.2 k l ⟨e, by rw [Nat.mul_comm h w]; exact e.1.2⟩⟩
    have := hF.2.1
    rw [Nat.mul_comm h w] at this
    exact this
  · intro no y N hy hF ih
    rw [wX7_gather_L2_s]
    refine pk_le h y (fun q => absurd q (by omega)) (fun _ => ?_) (hx := (vx hF.1).1.2.2.2.2.2)
    refine forN (fun n z N => wX7_gather_L13 _ Q n (nI T) (nI y) z N) (fun x N => F (y * w + x) N) w ?_ ?_ 0 N (by omega) hF
    · intro n N3 hF3
      rw [wX7_gather_L13_s]
      refine pk_le w w (fun _ => ?_) (fun q => absurd q (by omega)) (hx := (vx hF3.1).1.2.2.2.2.1)
      intro x2 ex2
      rw [ex2, nI_1]
      refine ih N3 ?_
      rw [Nat.add_mul, Nat.one_mul]
      exact hF3
    · intro n x N3 hx3 hF3 ih2
      have v3 := vx hF3.1
      have hk := pl200 hw hh hx3 hy
      have hkw := pl_lt hx3 hy
      rw [wX7_gather_L13_s]
      refine pk_le w x (fun q => absurd q (by omega)) (fun _ => ?_) (hx := v3.1.2.2.2.2.1)
      refine placeOf_w v3.1 (seen_w v3.1 hx3 hy ?_)
      rw [seS_sv hx3, v3.2.1]
      -- behind both joins
      have fin : ∀ N5 : Mem, (∀ c, c ≠ 40 → N5 c = M c) → AncX w h T L (y * w + x + 1) (fun k l => Ed w h T L k l ∧ l < y * w + x + 1) (N5 40) → ∀ x4, x4 = nI x + 1 → wX7_gather_L13 (fun x2 x3 M => ∀ x3_138 : Int32, x3_138 = x3 + 1 → (wX7_gather_L2 (fun M => ∀ M146 : Mem, M146 = va_up M 39 (upd (M 39) 1 1) → Q M146) Q no) x2 x3_138 M) Q n (nI T) (nI y) x4 N5 := by
        intro N5 f5 a5 x4 e4
        rw [e4, nI_1]
        exact ih2 N5 ⟨f5, a5⟩
      have J96 : ∀ N4 : Mem, (∀ c, c ≠ 40 → N4 c = M c) → AncX w h T L (y * w + x + 1) (fun k l => Ed w h T L k l ∧ (l < y * w + x ∨ l = y * w + x ∧ 1 ≤ x ∧ k = y * w + x - 1)) (N4 40) → ∀ K2, wX7_gather_J96 (wX7_gather_L13 (fun x2 x3 M => ∀ x3_138 : Int32, x3_138 = x3 + 1 → (wX7_gather_L2 (fun M => ∀ M146 : Mem, M146 = va_up M 39 (upd (M 39) 1 1) → Q M146) Q no) x2 x3_138 M) Q n) K2 Q (nI T) (nI y) (nI x) (nI (y * w + x)) (L (y * w + x)) N4 := by
        intro N4 f4 a4 K2
        have v4 := vx f4
        refine pk_le y 0 (fun q => fin N4 f4 (a4.mono (fun k l z => ⟨z.1, ?_⟩))) (fun q => ?_)
        · rcases (show l < y * w + x ∨ l = y * w + x by omega) with z2 | z2
          · exact Or.inl z2
          · have := z.1.1
            rw [z2] at this
            rcases geo_into hx3 this with z3 | z3
            · exact Or.inr ⟨z2, z3⟩
            · exact absurd z3.1 (by omega)
        · rw [nI_m1 (by omega)]
          refine seen_w v4.1 hx3 (by omega) ?_
          rw [seS_sv hx3, v4.2.1]
          have eu : (y - 1) * w + x = y * w + x - w := by
            obtain ⟨t, rfl⟩ : ∃ t, y = t + 1 := ⟨y - 1, by omega⟩
            rw [Nat.add_sub_cancel, Nat.add_mul, Nat.one_mul]; omega
          have lew : w ≤ y * w := by
            obtain ⟨t, rfl⟩ : ∃ t, y = t + 1 := ⟨y - 1, by omega⟩
            rw [Nat.add_mul, Nat.one_mul]; omega
          rw [eu]
          have w1 := hd.1
          refine hangs_w hT (v4.2.2.2.1 _ hkw) (v4.2.2.2.1 _ (by omega)) (fun hn => ⟨fun z => absurd z (by decide), fun _ => ?_⟩) (fun hn => ⟨fun _ => ?_, fun z => absurd rfl z⟩)
          · have ep : nI (y * w + x) - N4 1 0 = nI (y * w + x - w) := by rw [v4.1.2.2.2.2.1, pk_sub (by omega)]
            rw [ep]
            refine join_w hk (by omega) (fun k l z => ?_) a4 ⟨geo_up hx3 hy (by omega), nr_sym hn⟩ (fun N5 f5 a5 => ?_)
            · have := z.1.1.lt w1
              omega
            · refine fin N5 (fun c hc => (f5 c hc).trans (f4 c hc)) (a5.mono (fun k l z => ?_))
              rcases (show l < y * w + x ∨ l = y * w + x by omega) with z2 | z2
              · exact Or.inl ⟨z.1, Or.inl z2⟩
              · have := z.1.1
                rw [z2] at this
                rcases geo_into hx3 this with z3 | z3
                · exact Or.inl ⟨z.1, Or.inr ⟨z2, z3⟩⟩
                · exact Or.inr ⟨z3.2, z2⟩
          · refine fin N4 f4 (a4.mono (fun k l z => ⟨z.1, ?_⟩))
            rcases (show l < y * w + x ∨ l = y * w + x by omega) with z2 | z2
            · exact Or.inl z2
            · have := z.1.1
              rw [z2] at this
              rcases geo_into hx3 this with z3 | z3
              · exact Or.inr ⟨z2, z3⟩
              · exfalso
                have e := z.1.2
                rw [z2, z3.2] at e
                exact hn (nr_sym e)
      have J61 : ∀ t, (L (y * w + x) = -5 → t = -5) → (¬ L (y * w + x) = -5 → t = nI (y * w + x)) → ∀ K2, wX7_gather_J61 (wX7_gather_L13 (fun x2 x3 M => ∀ x3_138 : Int32, x3_138 = x3 + 1 → (wX7_gather_L2 (fun M => ∀ M146 : Mem, M146 = va_up M 39 (upd (M 39) 1 1) → Q M146) Q no) x2 x3_138 M) Q n) K2 Q (nI T) (nI y) (nI x) (nI (y * w + x)) (L (y * w + x)) (nI (y * w + x)) t N3 := by
        intro t t1 t2 K2
        unfold wX7_gather_J61
        rw [nI_clamp (by omega)]
        refine ⟨vp_in_nI hk (by omega), fun N4 e4 => ?_⟩
        have f4 : ∀ c, c ≠ 40 → N4 c = M c := fun c hc => by rw [e4, up_n _ _ hc, hF3.1 c hc]
        have v4 := vx f4
        have a4 : AncX w h T L (y * w + x + 1) (fun k l => Ed w h T L k l ∧ l < y * w + x) (N4 40) := by
          rw [e4, up_s]
          refine ⟨fun k hk1 => ?_, fun k l z => ?_⟩
          · by_cases z : k = y * w + x
            · rw [z, pk_us]
              exact ⟨t1, fun q => ⟨y * w + x, Nat.le_refl _, t2 q, Conn.rf _⟩⟩
            · rw [pk_un z]; exact hF3.2.1 k (by omega)
          · have := z.1.1.lt hd.1
            rw [pk_un (by omega), pk_un (by omega)]
            exact hF3.2.2 k l z
        refine pk_le x 0 (fun q => J96 N4 f4 (a4.mono (fun k l z => ⟨z.1, by omega⟩)) K2) (fun q => ?_)
        rw [nI_m1 (by omega)]
        refine seen_w v4.1 (show x - 1 < w by omega) hy ?_
        rw [seS_sv (by omega), v4.2.1, show y * w + (x - 1) = y * w + x - 1 by omega]
        refine hangs_w hT (v4.2.2.2.1 _ hkw) (v4.2.2.2.1 _ (by omega)) (fun hn => ⟨fun z => absurd z (by decide), fun _ => ?_⟩) (fun hn => ⟨fun _ => ?_, fun z => absurd rfl z⟩)
        · rw [nI_m1 (by omega)]
          refine join_w hk (by omega) (fun k l z => ?_) a4 ⟨geo_left hx3 hy (by omega), nr_sym hn⟩ (fun N5 f5 a5 => ?_)
          · have := z.1.1.lt hd.1
            omega
          · refine J96 N5 (fun c hc => (f5 c hc).trans (f4 c hc)) (a5.mono (fun k l z => ?_)) K2
            rcases z.2 with z2 | z2
            · exact Or.inl ⟨z.1, z2⟩
            · exact Or.inr ⟨z2.2.2, z2.1⟩
        · refine J96 N4 f4 (a4.mono (fun k l z => ⟨z.1, ?_⟩)) K2
          rcases z.2 with z2 | z2
          · exact z2
          · exfalso
            have e := z.1.2
            rw [z2.1, z2.2.2] at e
            exact hn (nr_sym e)
      refine ⟨fun q => J61 _ (fun z => absurd z q) (fun _ => rfl) _, fun q => J61 _ (fun _ => rfl) (fun z => absurd q z) _⟩
theorem refreshSegments_w {M : Mem} {w h D H P Qr T : Nat} {L R : Nat → Int32} (hx : VX M w h L R) (hr : RX M D H P Qr T) (h6 : C6 M w h T L) {Q : Mem → Prop} (g : ∀ N : Mem, (∀ c, c ≠ 39 → c ≠ 40 → N c = M c) → AncOK w h T L (-5) (N 40) → Q N) : wX10_refreshSegments M Q := by
  refine ⟨fun q => g M (fun _ _ _ => rfl) (h6.elim (fun z => absurd z q) id), fun q => ⟨pk_in 4 5 (by omega), ?_⟩⟩
  rw [cl4, hr.2.2.2.2.2]
  exact gather_w hx hr.1.2.2.2.2 g
