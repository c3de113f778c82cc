/-! the reference's segments -/
theorem kdm {w h k : Nat} (hw : 1 ≤ w) (hk : k < w * h) : k % w < w ∧ k / w < h ∧ k / w * w + k % w = k := by
  refine ⟨Nat.mod_lt _ (by omega), ?_, by rw [Nat.mul_comm]; exact Nat.div_add_mod k w⟩
  rw [Nat.div_lt_iff_lt_mul (by omega), Nat.mul_comm]
  exact hk
theorem shK {M : Mem} {w h : Nat} {L R : Nat → Int32} (hm : VM M w h L R) {k : Nat} (hk : k < w * h) (q : ¬ L k = -5) : M 1 k = L k := by
  obtain ⟨h1, h2, h3⟩ := kdm hm.1.1 hk
  have := shL hm h1 h2
  rw [h3] at this
  exact this q
theorem sm_mono {f g : Nat → Nat} : ∀ {n : Nat}, (∀ k, k < n → f k ≤ g k) → sm f n ≤ sm g n
  | 0, _ => Nat.le_refl _
  | n + 1, h => by
    have h1 := sm_mono (n := n) (fun k hk => h k (by omega))
    have h2 := h n (by omega)
    show sm f n + f n ≤ sm g n + g n
    omega
theorem sm_lt {f g : Nat → Nat} : ∀ {n : Nat}, (∀ k, k < n → f k ≤ g k) → ∀ i, i < n → f i < g i → sm f n < sm g n
  | 0, _, i, hi, _ => absurd hi (by omega)
  | n + 1, h, i, hi, q => by
    show sm f n + f n < sm g n + g n
    have h2 := h n (by omega)
    by_cases z : i = n
    · have h1 := sm_mono (n := n) (fun k hk => h k (by omega))
      rw [z] at q
      omega
    · have h1 := sm_lt (n := n) (fun k hk => h k (by omega)) i (by omega) q
      omega
def mu (n : Nat) (f : Nat → Int32) : Nat := sm (fun k => (f k).toNatClampNeg) n
theorem anc_neg {w h T : Nat} {L f : Nat → Int32} (hwh : w * h ≤ 200) (hA : AncP w h T L (-1) (w * h) f) {k : Nat} (hk : k < w * h) : (f k < 0 ↔ L k = -5) := by
  by_cases q : L k = -5
  · rw [(hA k hk).1 q]; exact ⟨fun _ => q, fun _ => by decide⟩
  · obtain ⟨a, ha, ea, -⟩ := (hA k hk).2 q
    rw [ea]
    exact ⟨fun z => absurd z (nI_pos (by omega)), fun z => absurd z q⟩
theorem hang_w {M : Mem} {w h D H P Qr T : Nat} {L R : Nat → Int32} (hm : VM M w h L R) (hr : RM M D H P Qr T) (hS : ShOK w h L) (hA : AncP w h T L (-1) (w * h) (M 16)) {k l : Nat} (hk : k < w * h) (hl : l < w * h) {Q : Int32 → Mem → Prop} (h1 : nr T (L k) (L l) → Q 1 M) (h0 : ¬ nr T (L k) (L l) → Q 0 M) : wX11_hang M (nI k) (nI l) Q := by
  have hw : w ≤ 20 := hm.1.2.1
  have hh : h ≤ 10 := hm.1.2.2.2.1
  have hwh := wh_le hw hh
  have hT : T ≤ 255 := hr.1.2.2.2.2
  unfold wX11_hang
  rw [nI_clamp (by omega), nI_clamp (by omega), cl4, hr.2.2.2.2.2]
  refine ⟨vp_in_nI (by omega) (by omega), vp_in_nI (by omega) (by omega), fun x3 e3 => ⟨vp_in_nI (by omega) (by omega), fun q => h0 (fun z => nr_l z ((anc_neg hwh hA hk).mp q)), fun q => ⟨vp_in_nI (by omega) (by omega), fun q2 => h0 (fun z => nr_r z ((anc_neg hwh hA hl).mp q2)), fun q2 => ⟨pk_in 4 5 (by omega), ?_⟩⟩⟩⟩
  have nk : ¬ L k = -5 := fun z => q ((anc_neg hwh hA hk).mpr z)
  have nl : ¬ L l = -5 := fun z => q2 ((anc_neg hwh hA hl).mpr z)
  obtain ⟨u, hu, eu⟩ := (hS k hk).elim (fun z => absurd z nk) id
  obtain ⟨t, ht, et⟩ := (hS l hl).elim (fun z => absurd z nl) id
  rw [shK hm hk nk, shK hm hl nl, eu, et] at e3
  have d1 : x3.toInt = (u : Int) - t := by rw [e3]; exact pk_sub_toInt (by omega) (by omega)
  have d2 : (-x3).toInt = (t : Int) - u := by rw [e3, Int32.neg_sub]; exact pk_sub_toInt (by omega) (by omega)
  have tI : (nI T).toInt = (T : Int) := nI_toInt (by omega)
  have iff : nr T (L k) (L l) ↔ u ≤ t + T ∧ t ≤ u + T := by
    rw [eu, et]
    constructor
    · rintro ⟨u2, t2, b1, b2, e1, e2, b3, b4⟩
      have e1 := (nI_eq (by omega) (by omega)).mp e1
      have e2 := (nI_eq (by omega) (by omega)).mp e2
      omega
    · rintro ⟨b3, b4⟩
      exact ⟨u, t, hu, ht, rfl, rfl, b3, b4⟩
  rw [Int32.lt_iff_toInt_lt, Int32.lt_iff_toInt_lt, d1, d2, tI]
  refine ⟨fun z => h0 (fun z2 => ?_), fun z => ⟨pk_in 4 5 (by omega), fun z2 => h0 (fun z3 => ?_), fun z2 => h1 (iff.mpr ?_)⟩⟩
  · have := iff.mp z2; omega
  · have := iff.mp z3; omega
  · omega
theorem bring_w {M : Mem} {w h D H P Qr T : Nat} {L R : Nat → Int32} (hm : VM M w h L R) (hr : RM M D H P Qr T) (hS : ShOK w h L) (hA : AncP w h T L (-1) (w * h) (M 16)) {k l : Nat} (hg : Geo w h k l) {Q : Int32 → Mem → Prop} (h0 : (nr T (L k) (L l) → M 16 k = M 16 l) → Q 0 M) (h1 : ∀ N : Mem, (∀ c, c ≠ 16 → N c = M c) → AncP w h T L (-1) (w * h) (N 16) → mu (w * h) (N 16) < mu (w * h) (M 16) → Q 1 N) : wX11_bringTogether M (nI k) (nI l) Q := by
  have hw : w ≤ 20 := hm.1.2.1
  have hh : h ≤ 10 := hm.1.2.2.2.1
  have hwh := wh_le hw hh
  obtain ⟨hkl, hl⟩ := hg.lt hm.1.1
  have hk : k < w * h := by omega
  refine hang_w hm hr hS hA hk hl (fun hn => ⟨fun z => absurd z (by decide), fun _ => ?_⟩) (fun hn => ⟨fun _ => h0 (fun z => absurd z hn), fun z => absurd rfl z⟩)
  obtain ⟨a, ha, ea, ca⟩ := (hA k hk).2 (nr_l hn)
  obtain ⟨b, hb, eb, cb⟩ := (hA l hl).2 (nr_r hn)
  have ce : Conn w h T L k l := Conn.ed ⟨hg, hn⟩
  rw [nI_clamp (by omega), nI_clamp (by omega)]
  have v1 : vp_in (nI k) 200 := vp_in_nI (by omega) (by omega)
  have v2 : vp_in (nI l) 200 := vp_in_nI (by omega) (by omega)
  have J : ∀ m, m ≤ a → m ≤ b → (m < a ∨ m < b) → Conn w h T L m k → wX11_bringTogether_J56 Q (nI k) (nI l) (nI m) M := by
    intro m ma mb mab cm
    unfold wX11_bringTogether_J56
    rw [nI_clamp (by omega), nI_clamp (by omega)]
    refine ⟨v1, fun N1 e1 => ⟨v2, fun N2 e2 => ?_⟩⟩
    have s : N2 16 = upd (upd (M 16) k (nI m)) l (nI m) := by rw [e2, up_s, e1, up_s]
    refine h1 N2 (fun c hc => by rw [e2, up_n _ _ hc, e1, up_n _ _ hc]) ?_ ?_
    · rw [s]
      intro j hj
      by_cases z : j = l
      · rw [z, pk_us]
        exact ⟨fun q => absurd q (nr_r hn), fun _ => ⟨m, by omega, rfl, cm.tr ce⟩⟩
      · rw [pk_un z]
        by_cases z2 : j = k
        · rw [z2, pk_us]
          exact ⟨fun q => absurd q (nr_l hn), fun _ => ⟨m, by omega, rfl, cm⟩⟩
        · rw [pk_un z2]; exact hA j hj
    · unfold mu
      have ck : (M 16 k).toNatClampNeg = a := by rw [ea, nI_clamp (by omega)]
      have cl : (M 16 l).toNatClampNeg = b := by rw [eb, nI_clamp (by omega)]
      have nk : (N2 16 k).toNatClampNeg = m := by rw [s, pk_un (by omega), pk_us, nI_clamp (by omega)]
      have nl : (N2 16 l).toNatClampNeg = m := by rw [s, pk_us, nI_clamp (by omega)]
      have le : ∀ j, j < w * h → (N2 16 j).toNatClampNeg ≤ (M 16 j).toNatClampNeg := by
        intro j hj
        by_cases z : j = l
        · rw [z, nl, cl]; exact mb
        · by_cases z2 : j = k
          · rw [z2, nk, ck]; exact ma
          · rw [s, pk_un z, pk_un z2]; exact Nat.le_refl _
      rcases mab with q | q
      · exact sm_lt le k hk (by rw [nk, ck]; exact q)
      · exact sm_lt le l hl (by rw [nl, cl]; exact q)
  refine ⟨v1, v2, fun q => ?_, fun q => h0 (fun _ => q)⟩
  rw [ea, eb] at q ⊢
  have nab : a ≠ b := fun z => q (by rw [z])
  refine ⟨v1, v2, ?_⟩
  refine pk_le b a (fun q2 => ⟨v2, J b q2 (Nat.le_refl _) (Or.inl (by omega)) (cb.tr ce.sy)⟩) (fun q2 => ⟨v1, J a (Nat.le_refl _) (by omega) (Or.inr (by omega)) ca⟩)
theorem pass_w {M : Mem} {w h D H P Qr T : Nat} {L R : Nat → Int32} (hm : VM M w h L R) (hr : RM M D H P Qr T) (hS : ShOK w h L) (hA : AncP w h T L (-1) (w * h) (M 16)) {K : Int32 → Int32 → Mem → Prop} {Q : Mem → Prop} (h1 : ∀ N : Mem, (∀ c, c ≠ 16 → N c = M c) → AncP w h T L (-1) (w * h) (N 16) → mu (w * h) (N 16) < mu (w * h) (M 16) → K (nI (w * h)) 1 N) (h0 : (∀ k l, Ed w h T L k l → M 16 k = M 16 l) → K (nI (w * h)) 0 M) : ∃ n, wX11_layAnchors_L64 K Q n (nI (w * h)) 0 0 M := by
  have hw : w ≤ 20 := hm.1.2.1
  have hh : h ≤ 10 := hm.1.2.2.2.1
  have hwh := wh_le hw hh
  have w1 := hm.1.1
  let F : (Nat → Nat → Prop) → Int32 → Mem → Prop := fun X mo N => (∀ c, c ≠ 16 → N c = M c) ∧ AncP w h T L (-1) (w * h) (N 16) ∧ ((mo = 1 ∧ mu (w * h) (N 16) < mu (w * h) (M 16)) ∨ (mo = 0 ∧ N = M ∧ ∀ k l, X k l → Ed w h T L k l → M 16 k = M 16 l))
  -- one edge
  have one : ∀ (X : Nat → Nat → Prop) (mo : Int32) (N : Mem) (k l : Nat), F X mo N → Geo w h k l → ∀ (Q2 : Int32 → Mem → Prop), (∀ N2, F (fun i j => X i j ∨ i = k ∧ j = l) mo N2 → Q2 0 N2) → (∀ N2, F (fun i j => X i j ∨ i = k ∧ j = l) 1 N2 → Q2 1 N2) → wX11_bringTogether N (nI k) (nI l) Q2 := by
    intro X mo N k l hF hg Q2 g0 g1
    obtain ⟨f1, f2, f3⟩ := hF
    have mN : VM N w h L R := hm.of (fun k _ => by rw [f1 0 (by decide)]) (f1 1 (by decide)) (f1 2 (by decide)) (f1 3 (by decide))
    refine bring_w mN (hr.of (f1 5 (by decide))) hS f2 hg (fun he => g0 N ⟨f1, f2, ?_⟩) (fun N2 e1 e2 e3 => g1 N2 ⟨fun c hc => (e1 c hc).trans (f1 c hc), e2, Or.inl ⟨rfl, ?_⟩⟩)
    · rcases f3 with z | ⟨z1, z2, z3⟩
      · exact Or.inl z
      · refine Or.inr ⟨z1, z2, fun i j q e => ?_⟩
        rcases q with q | ⟨rfl, rfl⟩
        · exact z3 i j q e
        · rw [z2] at he; exact he e.2
    · rcases f3 with ⟨-, z⟩ | ⟨-, z2, -⟩
      · omega
      · rw [z2] at e3; exact e3
  have mono : ∀ (X Y : Nat → Nat → Prop) (mo : Int32) (N : Mem), (∀ k l, Y k l → Ed w h T L k l → X k l) → F X mo N → F Y mo N := by
    intro X Y mo N hY hF
    obtain ⟨f1, f2, f3⟩ := hF
    refine ⟨f1, f2, ?_⟩
    rcases f3 with z | ⟨z1, z2, z3⟩
    · exact Or.inl z
    · exact Or.inr ⟨z1, z2, fun i j q e => z3 i j (hY i j q e) e⟩
  refine forN (fun n z (p : Int32 × Mem) => wX11_layAnchors_L64 K Q n (nI (w * h)) p.1 z p.2) (fun k p => F (fun i j => i < k) p.1 p.2) (w * h) ?_ ?_ 0 (0, M) (by omega) ⟨fun _ _ => rfl, hA, Or.inr ⟨rfl, rfl, fun i j q => absurd q (by omega)⟩⟩
  · intro n p hF
    rw [wX11_layAnchors_L64_s]
    refine pk_le (w * h) (w * h) (fun _ => ?_) (fun q => absurd q (by omega))
    obtain ⟨f1, f2, f3⟩ := hF
    rcases f3 with ⟨z1, z2⟩ | ⟨z1, z2, z3⟩
    · rw [z1]; exact h1 _ f1 f2 z2
    · rw [z1, z2]
      exact h0 (fun k l e => z3 k l (by have := e.1.lt w1; omega) e)
  · intro n k p hk hF ih
    rw [wX11_layAnchors_L64_s]
    refine pk_le (w * h) k (fun q => absurd q (by omega)) (fun _ => ?_)
    have w0 : p.2 0 0 = nI w := by rw [hF.1 0 (by decide)]; exact hm.1.2.2.2.2.1
    rw [w0]
    refine ⟨nI_ne0 (by omega) (by omega), fun v ev => ?_⟩
    have ev2 : v = nI (k % w) := ev.trans (pk_rem (by omega) (by omega) (by omega))
    rw [ev2, nI_1, nI_1]
    have J : ∀ (mo : Int32) (N : Mem), F (fun i j => i < k ∨ i = k ∧ j = k + 1 ∧ k % w + 1 < w) mo N → wX11_layAnchors_J97 (wX11_layAnchors_L64 K Q n) K Q (nI (w * h)) mo (nI k) N := by
      intro mo N hF2
      have w0 : N 0 0 = nI w := by rw [hF2.1 0 (by decide)]; exact hm.1.2.2.2.2.1
      unfold wX11_layAnchors_J97
      rw [w0, nI_add]
      refine pk_le (w * h) (k + w) (fun q x ex => ?_) (fun q => ?_)
      · rw [ex, nI_1]
        refine ih (mo, N) (mono _ _ mo N (fun i j q2 e => ?_) hF2)
        rcases (show i < k ∨ i = k by omega) with z | z
        · exact Or.inl z
        · obtain ⟨z2 | z2, z3⟩ := e.1
          · exact Or.inr ⟨z, by omega, by rw [z] at z2; exact z2.2⟩
          · omega
      · have fin : ∀ (mo2 : Int32) (N2 : Mem), F (fun i j => (i < k ∨ i = k ∧ j = k + 1 ∧ k % w + 1 < w) ∨ i = k ∧ j = k + w) mo2 N2 → F (fun i j => i < k + 1) mo2 N2 := by
          intro mo2 N2 h2
          refine mono _ _ mo2 N2 (fun i j q2 e => ?_) h2
          rcases (show i < k ∨ i = k by omega) with z | z
          · exact Or.inl (Or.inl z)
          · obtain ⟨z2 | z2, z3⟩ := e.1
            · exact Or.inl (Or.inr ⟨z, by omega, by rw [z] at z2; exact z2.2⟩)
            · exact Or.inr ⟨z, by omega⟩
        refine one _ mo N k (k + w) hF2 ⟨Or.inr rfl, by omega⟩ _ (fun N2 h2 => ⟨fun _ x ex => ?_, fun z => absurd rfl z⟩) (fun N2 h2 => ⟨fun z => absurd z (by decide), fun _ x ex => ?_⟩)
        · rw [ex, nI_1]; exact ih (mo, N2) (fin mo N2 h2)
        · rw [ex, nI_1]; exact ih (1, N2) (fin 1 N2 h2)
    have hmod : k % w < w := Nat.mod_lt _ (by omega)
    refine pk_le w (k % w + 1) (fun q => ?_) (fun q => ?_)
    · refine J p.1 p.2 (mono _ _ p.1 p.2 (fun i j q2 e => ?_) hF)
      rcases q2 with z | ⟨z1, z2, z3⟩
      · exact z
      · omega
    · have lk : k + 1 < w * h := by
        obtain ⟨h1, h2, h3⟩ := kdm w1 hk
        have := pl_lt (show k % w + 1 < w by omega) h2
        omega
      refine one _ p.1 p.2 k (k + 1) hF ⟨Or.inl ⟨rfl, q⟩, lk⟩ _ (fun N2 h2 => ⟨fun _ => J _ _ (mono _ _ _ _ (fun i j q2 e => q2.elim Or.inl (fun z => Or.inr ⟨z.1, z.2.1⟩)) h2), fun z => absurd rfl z⟩) (fun N2 h2 => ⟨fun z => absurd z (by decide), fun _ => J _ _ (mono _ _ _ _ (fun i j q2 e => q2.elim Or.inl (fun z => Or.inr ⟨z.1, z.2.1⟩)) h2)⟩)
theorem layAnchors_w {M : Mem} {w h D H P Qr T : Nat} {L R : Nat → Int32} (hm : VM M w h L R) (hr : RM M D H P Qr T) (hS : ShOK w h L) {Q : Mem → Prop} (g : ∀ N : Mem, (∀ c, c ≠ 16 → N c = M c) → AncOK w h T L (-1) (N 16) → Q N) : wX11_layAnchors M Q := by
  have hw : w ≤ 20 := hm.1.2.1
  have hh : h ≤ 10 := hm.1.2.2.2.1
  have hwh := wh_le hw hh
  have w1 := hm.1.1
  intro x1 e1
  rw [hm.1.2.2.2.2.1, hm.1.2.2.2.2.2, pk_mul] at e1
  rw [e1]
  have vm : ∀ {N : Mem}, (∀ c, c ≠ 16 → N c = M c) → VM N w h L R := fun f1 => hm.of (fun k _ => by rw [f1 0 (by decide)]) (f1 1 (by decide)) (f1 2 (by decide)) (f1 3 (by decide))
  have loop : ∀ (m : Nat) (N : Mem), (∀ c, c ≠ 16 → N c = M c) → AncP w h T L (-1) (w * h) (N 16) → mu (w * h) (N 16) ≤ m → wX11_layAnchors_L56 (fun M => Q M) Q (m + 2) (nI (w * h)) 1 N := by
    intro m
    induction m with
    | zero =>
      intro N f1 f2 f3
      rw [wX11_layAnchors_L56_s]
      refine ⟨fun z => absurd z (by decide), fun _ => ?_⟩
      refine pass_w (vm f1) (hr.of (f1 5 (by decide))) hS f2 (fun N2 e1 e2 e3 => absurd e3 (by omega)) (fun e => ?_)
      rw [wX11_layAnchors_L56_s]
      exact ⟨fun _ => g N f1 ⟨f2, e⟩, fun z => absurd rfl z⟩
    | succ m ihm =>
      intro N f1 f2 f3
      rw [wX11_layAnchors_L56_s]
      refine ⟨fun z => absurd z (by decide), fun _ => ?_⟩
      refine pass_w (vm f1) (hr.of (f1 5 (by decide))) hS f2 (fun N2 e1 e2 e3 => ihm N2 (fun c hc => (e1 c hc).trans (f1 c hc)) e2 (by omega)) (fun e => ?_)
      rw [wX11_layAnchors_L56_s]
      exact ⟨fun _ => g N f1 ⟨f2, e⟩, fun z => absurd rfl z⟩
  refine forN (fun n z N => wX11_layAnchors_L12 _ Q n (nI (w * h)) z N) (fun k N => (∀ c, c ≠ 16 → N c = M c) ∧ AncP w h T L (-1) k (N 16)) (w * h) ?_ ?_ 0 M (by omega) ⟨fun _ _ => rfl, fun k q => absurd q (by omega)⟩
  · intro n N hF
    rw [wX11_layAnchors_L12_s]
    refine pk_le (w * h) (w * h) (fun _ => ?_) (fun q => absurd q (by omega))
    exact ⟨_, loop _ N hF.1 hF.2 (Nat.le_refl _)⟩
  · intro n k N hk hF ih
    rw [wX11_layAnchors_L12_s]
    refine pk_le (w * h) k (fun q => absurd q (by omega)) (fun _ => ?_)
    have mN := vm hF.1
    obtain ⟨d1, d2, d3⟩ := kdm w1 hk
    rw [mN.1.2.2.2.2.1]
    refine ⟨nI_ne0 (by omega) (by omega), fun v ev => ⟨nI_ne0 (by omega) (by omega), ?_⟩⟩
    have ev2 : v = nI (k % w) := ev.trans (pk_rem (by omega) (by omega) (by omega))
    rw [ev2, pk_div (by omega) (by omega) (by omega)]
    have J : ∀ t, (L k = -5 → t = -1) → (¬ L k = -5 → t = nI k) → wX11_layAnchors_J47 (wX11_layAnchors_L12 (fun x1 M => ∃ n56, wX11_layAnchors_L56 (fun M => Q M) Q n56 x1 1 M) Q n) (fun x1 M => ∃ n56, wX11_layAnchors_L56 (fun M => Q M) Q n56 x1 1 M) Q (nI (w * h)) (nI k) (nI k) t N := by
      intro t t1 t2
      unfold wX11_layAnchors_J47
      rw [nI_clamp (by omega)]
      refine ⟨vp_in_nI (by omega) (by omega), fun N2 e2 x ex => ?_⟩
      rw [ex, nI_1]
      refine ih N2 ⟨fun c hc => by rw [e2, up_n _ _ hc, hF.1 c hc], fun j hj => ?_⟩
      rw [e2, up_s]
      by_cases z : j = k
      · rw [z, pk_us]
        exact ⟨t1, fun q => ⟨k, Nat.le_refl _, t2 q, Conn.rf _⟩⟩
      · rw [pk_un z]; exact hF.2 j (by omega)
    refine lostL_w mN d1 d2 (fun q => ⟨fun z => absurd z (by decide), fun _ => J _ (fun _ => rfl) (fun z => ?_)⟩) (fun q => ⟨fun _ => J _ (fun z => ?_) (fun _ => rfl), fun z => absurd rfl z⟩)
    · rw [d3] at q; exact absurd q z
    · rw [d3] at q; exact absurd z q
