/-! the reference's paths -/
theorem m21 (i j : Nat) : (21 * nI i) + nI j = nI (21 * i + j) := by
  show nI 21 * nI i + nI j = _
  rw [pk_mul, nI_add]
theorem payMatch_w {M : Mem} {w h D H P Qr T : Nat} {L R : Nat → Int32} (hm : VM M w h L R) (hr : RM M D H P Qr T) {y i j : Nat} (hy : y < h) (hi : i ≤ w) (hj : j ≤ w) {Q : Int32 → Mem → Prop} (h0 : mcS w h D L R y i j = -4 → Q (-1) M) (h1 : ∀ c : Nat, c ≤ 8 → i < w → j < w → j ≤ i → mcS w h D L R y i j = nI c → Q (nI c + M 17 (21 * (i + 1) + (j + 1))) M) : wX11_payMatch M (nI i) (nI j) (nI y) Q := by
  have hw : w ≤ 20 := hm.1.2.1
  have hD : D ≤ 8 := hr.1.1
  have e0 : M 0 0 = nI w := hm.1.2.2.2.2.1
  unfold mcS at h0 h1
  unfold wX11_payMatch
  rw [e0, cl0, hr.2.1]
  refine pk_le w i (fun q => ?_) (fun qi => pk_le w j (fun q => ?_) (fun qj => pk_lt i j (fun q => ?_) (fun qd => ⟨pk_in 0 5 (by omega), ?_⟩)))
  · exact h0 (if_neg (by omega))
  · exact h0 (if_neg (by omega))
  · exact h0 (if_neg (by omega))
  · rw [pk_sub qd]
    refine pk_le (i - j) D (fun q => ?_) (fun q => h0 (if_neg (by omega)))
    rw [if_pos ⟨qi, qj, qd, q⟩] at h0 h1
    refine costAt_w hm qi hy (by omega) ?_
    rcases costS_cases (w := w) (h := h) (L := L) (R := R) i y (i - j) with ⟨-, e, e2⟩ | ⟨-, e, e2, e3⟩
    · rw [e2]; exact ⟨fun z => absurd rfl z, fun _ => h0 e⟩
    · have c8 := cc_le w h L R i y (i - j)
      rw [e2, nI_1, m21, nI_1, show 21 * (i + 1) + j + 1 = 21 * (i + 1) + (j + 1) by omega, nI_clamp (by omega)]
      exact ⟨fun _ => ⟨vp_in_nI (by omega) (by omega), h1 _ c8 qi qj qd e⟩, fun z => absurd z (ne_neg (by omega) (by decide))⟩
def RS (t : Int32) (b : Nat) : Prop := (t = -1 ∧ b = 2147483647) ∨ (t = nI b ∧ b ≤ 2000)
def hdn (w : Nat) (f : Nat → Int32) : Nat := sm (fun x => b2 (decide (f x = -4))) w
theorem goPath_w {M : Mem} {w h D H P Qr T : Nat} {L R : Nat → Int32} (hm : VM M w h L R) (hr : RM M D H P Qr T) {y : Nat} (hy : y < h) (hR : RestOK w H (mcS w h D L R y) (M 17)) {Q : Mem → Prop} (g : ∀ N : Mem, (∀ c, c ≠ 0 → c ≠ 18 → N c = M c) → (∀ k, k ≠ 24 → k ≠ 25 → N 0 k = M 0 k) → (∀ x, x < w → N 18 x = mtS w h D H L R y x) → N 0 24 = nI (hdn w (mtS w h D H L R y)) → N 0 25 = nI (hdn w (mtS w h D H L R y)) → Q N) : wX11_goPath M (nI y) Q := by
  have hw : w ≤ 20 := hm.1.2.1
  have hH : H ≤ 20 := hr.1.2.1
  have mk := mcS_k w h D L R y
  intro M6 e6 M11 e11
  have f11 : (∀ c, c ≠ 0 → M11 c = M c) ∧ (∀ k, k ≠ 24 → k ≠ 25 → M11 0 k = M 0 k) ∧ M11 0 24 = 0 ∧ M11 0 25 = 0 := by
    refine ⟨fun c hc => by rw [e11, up_n _ _ hc, e6, up_n _ _ hc], fun k h1 h2 => ?_, ?_, ?_⟩
    · rw [e11, up_s, pk_un h2, e6, up_s, pk_un h1]
    · rw [e11, up_s, pk_un (by decide), e6, up_s, pk_us]
    · rw [e11, up_s, pk_us]
  clear e6 e11
  obtain ⟨f1, f2, f3, f4⟩ := f11
  refine pk_loop (fun n _ (p : Int32 × Int32 × Mem) => wX11_goPath_L14 _ Q n (nI y) p.1 p.2.1 p.2.2) (fun n p => ∃ i j l r : Nat, pos w H (mcS w h D L R y) n = (i, j) ∧ p.1 = nI i ∧ p.2.1 = nI j ∧ (∀ c, c ≠ 0 → c ≠ 18 → p.2.2 c = M c) ∧ (∀ k, k ≠ 24 → k ≠ 25 → p.2.2 0 k = M 0 k) ∧ (∀ x, x < i → p.2.2 18 x = mtN w H (mcS w h D L R y) n x) ∧ p.2.2 0 24 = nI l ∧ p.2.2 0 25 = nI r ∧ l = hdn i (mtN w H (mcS w h D L R y) n) ∧ l + j = r + i) (2 * w) 0 (0, 0, M11) (by omega) ⟨0, 0, 0, 0, rfl, rfl, rfl, fun c h1 _ => f1 c h1, f2, fun x q => absurd q (by omega), f3, f4, rfl, rfl⟩ ?_ ?_
  · rintro n ⟨x2, x3, N⟩ ⟨i, j, l, r, ep, rfl, rfl, h1, h2, h3, h4, h5, h6, h7⟩
    simp only at h1 h2 h3 h4 h5
    have e := pos_end (H := H) hw hH mk
    rw [ep] at e
    obtain ⟨ei, ej⟩ : i = w ∧ j = w := e
    subst ei ej
    show wX11_goPath_L14 _ Q (n + 1) (nI y) _ _ N
    rw [wX11_goPath_L14_s, h2 0 (by decide) (by decide), hm.1.2.2.2.2.1]
    refine pk_lt j j (fun q => absurd q (by omega)) (fun _ => pk_le j j (fun _ => ?_) (fun q => absurd q (by omega)))
    refine g N h1 h2 h3 (by rw [h4, h6]; rfl) ?_
    rw [h5, show r = l by omega, h6]; rfl
  · rintro n s ⟨x2, x3, N⟩ hs ⟨i, j, l, r, ep, rfl, rfl, h1, h2, h3, h4, h5, h6, h7⟩ ih
    simp only at h1 h2 h3 h4 h5
    have bnd := pos_ok (H := H) hw hH mk s
    rw [ep] at bnd
    obtain ⟨hi, hj, -⟩ := bnd
    simp only at hi hj
    have e0 : N 0 0 = nI w := by rw [h2 0 (by decide) (by decide)]; exact hm.1.2.2.2.2.1
    have go : ¬ (i = w ∧ j = w) → wX11_goPath_J30 (wX11_goPath_L14 (fun M => Q M) Q n) (fun M => Q M) Q (nI y) (nI i) (nI j) N := by
      intro hne
      have rd : ∀ i j, i ≤ w → j ≤ w → N 17 (21 * i + j) = nI (rS w H (mcS w h D L R y) i j) := by rw [h1 17 (by decide) (by decide)]; exact hR
      have bb : ∀ i j, rS w H (mcS w h D L R y) i j ≤ 800 := rS_le hw hH
      have mN : VM N w h L R := hm.of (fun k hk => h2 k (by omega) (by omega)) (h1 1 (by decide) (by decide)) (h1 2 (by decide) (by decide)) (h1 3 (by decide) (by decide))
      have rN : RM N D H P Qr T := hr.of (h1 5 (by decide) (by decide))
      unfold wX11_goPath_J30
      rw [m21, nI_clamp (by omega), rd i j hi hj]
      refine ⟨vp_in_nI (by omega) (by omega), fun x4 e4 => ?_⟩
      have b1 := bb i j
      have b2' := bb (i + 1) j
      have b3 := bb (i + 1) (j + 1)
      have c1 : ∀ {f : Nat → Int32} {v : Int32}, hdn i (upd f i v) = hdn i f := fun {f v} => sm_cong (fun k hk => by rw [pk_un (by omega)])
      have c2 : ∀ {f : Nat → Int32}, hdn (i + 1) f = hdn i f + b2 (decide (f i = -4)) := rfl
      have Jr : ∀ A : ¬ (¬ mcS w h D L R y i j = -4 ∧ rS w H (mcS w h D L R y) i j = (mcS w h D L R y i j).toNatClampNeg + rS w H (mcS w h D L R y) (i + 1) (j + 1)), ¬ (i < w ∧ rS w H (mcS w h D L R y) i j = H + rS w H (mcS w h D L R y) (i + 1) j) → wX11_goPath_J130 (wX11_goPath_L14 (fun M => Q M) Q n) (fun M => Q M) Q (nI y) (nI i) (nI j) N := by
        intro A B N2 e2 x3 e3
        have c : ch w H (mcS w h D L R y) i j = 2 := by unfold ch; rw [if_neg A, if_neg B]
        obtain ⟨p2, p3⟩ := mt_2 ep hne c
        rw [e3, nI_1]
        refine ih (nI i, nI (j + 1), N2) ⟨i, j + 1, l, r + 1, p2, rfl, rfl, fun c c1 c2 => by show N2 c = _; rw [e2, up_n _ _ c1]; exact h1 c c1 c2, fun k k1 k2 => by show N2 0 k = _; rw [e2, up_s, pk_un k2]; exact h2 k k1 k2, fun x hx => by show N2 18 x = _; rw [e2, up_n _ _ (by decide), p3]; exact h3 x hx, by show N2 0 24 = _; rw [e2, up_s, pk_un (by decide)]; exact h4, by show N2 0 25 = _; rw [e2, up_s, pk_us, h5, nI_1], by rw [p3]; exact h6, by omega⟩
      have Jl : ∀ A : ¬ (¬ mcS w h D L R y i j = -4 ∧ rS w H (mcS w h D L R y) i j = (mcS w h D L R y i j).toNatClampNeg + rS w H (mcS w h D L R y) (i + 1) (j + 1)), ((N 0 0) ≤ nI i → wX11_goPath_J130 (wX11_goPath_L14 (fun M => Q M) Q n) (fun M => Q M) Q (nI y) (nI i) (nI j) N) ∧ (¬ (N 0 0) ≤ nI i → vp_in 1 5 ∧ vp_in ((21 * (nI i + 1)) + nI j) 441 ∧ ((¬ (((N 5 (1 : Int32).toNatClampNeg) + (N 17 ((21 * (nI i + 1)) + nI j).toNatClampNeg)) = x4)) → wX11_goPath_J130 (wX11_goPath_L14 (fun M => Q M) Q n) (fun M => Q M) Q (nI y) (nI i) (nI j) N) ∧ (((N 5 (1 : Int32).toNatClampNeg) + (N 17 ((21 * (nI i + 1)) + nI j).toNatClampNeg)) = x4 → vp_in (nI i) 20 ∧ ∀ M113 : Mem, M113 = va_up N 18 (upd (N 18) (nI i).toNatClampNeg (-4)) → ∀ M121 : Mem, M121 = va_up M113 0 (upd (M113 0) 24 ((M113 0 24) + 1)) → ∀ x2_124 : Int32, x2_124 = nI i + 1 → wX11_goPath_L14 (fun M => Q M) Q n (nI y) x2_124 (nI j) M121)) := by
        intro A
        rw [e0]
        refine pk_le w i (fun q => Jr A (fun z => absurd z.1 (by omega))) (fun q => ?_)
        rw [nI_1, m21, nI_clamp (by omega), cl1, rN.2.2.1, rd (i + 1) j (by omega) hj, nI_add, e4]
        refine ⟨pk_in 1 5 (by omega), vp_in_nI (by omega) (by omega), fun z => Jr A (fun z2 => z (by rw [z2.2])), fun z => ⟨vp_in_nI (by omega) (by omega), fun N2 e2 N3 e3 x ex => ?_⟩⟩
        have z2 := (nI_eq (by omega) (by omega)).mp z
        have c : ch w H (mcS w h D L R y) i j = 1 := by unfold ch; rw [if_neg A, if_pos ⟨q, z2.symm⟩]
        obtain ⟨p2, p3⟩ := mt_1 ep hne c
        rw [nI_clamp (by omega)] at e2
        rw [ex]
        refine ih (nI (i + 1), nI j, N3) ⟨i + 1, j, l + 1, r, p2, rfl, rfl, fun c c1 c2 => by show N3 c = _; rw [e3, up_n _ _ c1, e2, up_n _ _ c2]; exact h1 c c1 c2, fun k k1 k2 => by show N3 0 k = _; rw [e3, up_s, pk_un k1, e2, up_n _ _ (by decide)]; exact h2 k k1 k2, fun x hx => ?_, by show N3 0 24 = _; rw [e3, up_s, pk_us, e2, up_n _ _ (by decide), h4, nI_1], by show N3 0 25 = _; rw [e3, up_s, pk_un (by decide), e2, up_n _ _ (by decide)]; exact h5, ?_, by omega⟩
        · show N3 18 x = _
          rw [e3, up_n _ _ (by decide), e2, up_s, p3]
          by_cases z3 : x = i
          · rw [z3, pk_us, pk_us]
          · rw [pk_un z3, pk_un z3]; exact h3 x (by omega)
        · rw [p3, c2, c1, pk_us, h6]; rfl
      refine payMatch_w mN rN hy hi hj (fun q => ⟨fun _ => Jl (fun z => z.1 q), fun z => absurd (z.trans e4).symm (ne_neg (by omega) (by decide))⟩) (fun c hc8 qi qj qd ec => ?_)
      have ec2 : (mcS w h D L R y i j).toNatClampNeg = c := by rw [ec, nI_clamp (by omega)]
      have nc : ¬ mcS w h D L R y i j = -4 := by rw [ec]; exact ne_neg (by omega) (by decide)
      rw [rd (i + 1) (j + 1) (by omega) (by omega), nI_add]
      refine ⟨fun z => Jl (fun z2 => z (by rw [e4, z2.2, ec2])), fun z => ⟨vp_in_nI (by omega) (by omega), fun N2 e2 x5 e5 x6 e6 => ?_⟩⟩
      have z2 := (nI_eq (by omega) (by omega)).mp (z.trans e4)
      have c0 : ch w H (mcS w h D L R y) i j = 0 := by unfold ch; rw [if_pos ⟨nc, by rw [ec2]; exact z2.symm⟩]
      obtain ⟨p2, p3⟩ := mt_0 ep hne c0
      rw [nI_clamp (by omega), pk_sub qd] at e2
      rw [e5, e6, nI_1, nI_1]
      refine ih (nI (i + 1), nI (j + 1), N2) ⟨i + 1, j + 1, l, r, p2, rfl, rfl, fun c c1 c2 => by show N2 c = _; rw [e2, up_n _ _ c2]; exact h1 c c1 c2, fun k k1 k2 => by show N2 0 k = _; rw [e2, up_n _ _ (by decide)]; exact h2 k k1 k2, fun x hx => ?_, by show N2 0 24 = _; rw [e2, up_n _ _ (by decide)]; exact h4, by show N2 0 25 = _; rw [e2, up_n _ _ (by decide)]; exact h5, ?_, by omega⟩
      · show N2 18 x = _
        rw [e2, up_s, p3]
        by_cases z3 : x = i
        · rw [z3, pk_us, pk_us]
        · rw [pk_un z3, pk_un z3]; exact h3 x (by omega)
      · rw [p3, c2, c1, pk_us, h6, decide_eq_false (ne_neg (by omega) (by decide))]; rfl
    show wX11_goPath_L14 _ Q (n + 1) (nI y) (nI i) (nI j) N
    rw [wX11_goPath_L14_s, e0]
    refine pk_lt i w (fun q => go (by omega)) (fun q => pk_le w j (fun q2 => ?_) (fun q2 => go (by omega)))
    obtain ⟨ei, ej⟩ : i = w ∧ j = w := by omega
    subst ei ej
    have st := (pos_stay (w := j) (H := H) (m := mcS j h D L R y) (n := s) (by rw [ep]; exact ⟨rfl, rfl⟩) (2 * j - s)).2.2
    rw [show s + (2 * j - s) = 2 * j by omega] at st
    have st2 : mtS j h D H L R y = mtN j H (mcS j h D L R y) s := st
    refine g N h1 h2 (by rw [st2]; exact h3) (by rw [h4, h6, st2]) ?_
    rw [h5, show r = l by omega, h6, st2]
theorem layPath_w {M : Mem} {w h D H P Qr T : Nat} {L R : Nat → Int32} (hm : VM M w h L R) (hr : RM M D H P Qr T) {y : Nat} (hy : y < h) {Q : Mem → Prop} (g : ∀ N : Mem, (∀ c, c ≠ 0 → c ≠ 17 → c ≠ 18 → N c = M c) → (∀ k, k ≠ 24 → k ≠ 25 → N 0 k = M 0 k) → N 17 0 = nI (ptS w h D H L R y) → (∀ x, x < w → N 18 x = mtS w h D H L R y x) → N 0 24 = nI (hdn w (mtS w h D H L R y)) → N 0 25 = nI (hdn w (mtS w h D H L R y)) → Q N) : wX11_layPath M (nI y) Q := by
  have hw : w ≤ 20 := hm.1.2.1
  have hh : h ≤ 10 := hm.1.2.2.2.1
  have hH : H ≤ 20 := hr.1.2.1
  have mk := mcS_k w h D L R y
  have bb : ∀ i j, rS w H (mcS w h D L R y) i j ≤ 800 := rS_le hw hH
  have rx : ∀ {N : Mem}, (∀ c, c ≠ 17 → N c = M c) → RM N D H P Qr T := fun f => hr.of (f 5 (by decide))
  have vm : ∀ {N : Mem}, (∀ c, c ≠ 17 → N c = M c) → VM N w h L R := fun f => hm.of (fun k _ => by rw [f 0 (by decide)]) (f 1 (by decide)) (f 2 (by decide)) (f 3 (by decide))
  intro x2 ex2
  rw [ex2, hm.1.2.2.2.2.1]
  refine forD (fun n z N => wX11_layPath_L5 _ Q n (nI y) z N) (fun q N => q ≤ w + 1 ∧ (∀ c, c ≠ 17 → N c = M c) ∧ ∀ i j, i ≤ w → j ≤ w → q ≤ i → N 17 (21 * i + j) = nI (rS w H (mcS w h D L R y) i j)) ?_ ?_ w M ⟨Nat.le_refl _, fun _ _ => rfl, fun i j h1 _ h3 => absurd h3 (by omega)⟩
  · rintro n N ⟨-, h1, h2⟩
    rw [wX11_layPath_L5_s]
    refine ⟨fun _ => ?_, fun z => absurd (by decide) z⟩
    have hR : RestOK w H (mcS w h D L R y) (N 17) := fun i j hi hj => h2 i j hi hj (Nat.zero_le _)
    refine goPath_w (vm h1) (rx h1) hy hR (fun N3 k1 k2 k3 k4 k5 => g N3 (fun c c1 c2 c3 => by rw [k1 c c1 c3, h1 c c2]) (fun k q1 q2 => by rw [k2 k q1 q2, h1 0 (by decide)]) ?_ k3 k4 k5)
    rw [k1 17 (by decide) (by decide)]
    exact hR 0 0 (Nat.zero_le _) (Nat.zero_le _)
  · rintro n i N ⟨hi, h1, h2⟩ ih
    rw [wX11_layPath_L5_s]
    refine ⟨fun z => absurd z (nI_pos (by omega)), fun _ x3 e3 => ?_⟩
    rw [e3, (vm h1).1.2.2.2.2.1]
    refine forD (fun n z N => wX11_layPath_L14 _ Q n (nI y) (nI i) z N) (fun q N2 => q ≤ w + 1 ∧ (∀ c, c ≠ 17 → N2 c = M c) ∧ ∀ i2 j, i2 ≤ w → j ≤ w → (i < i2 ∨ i2 = i ∧ q ≤ j) → N2 17 (21 * i2 + j) = nI (rS w H (mcS w h D L R y) i2 j)) ?_ ?_ w N ⟨Nat.le_refl _, h1, fun i2 j a b c => h2 i2 j a b (by omega)⟩
    · rintro n2 N2 ⟨-, k1, k2⟩
      rw [wX11_layPath_L14_s]
      refine ⟨fun _ x ex => ?_, fun z => absurd (by decide) z⟩
      rw [ex]
      exact ih N2 ⟨by omega, k1, fun i2 j a b c => k2 i2 j a b (by omega)⟩
    · rintro n2 j N2 ⟨hj, k1, k2⟩ ih2
      have e0 : N2 0 0 = nI w := (vm k1).1.2.2.2.2.1
      have J166 : ∀ t, t = nI (rS w H (mcS w h D L R y) i j) → ∀ {B : Int32 → Int32 → Int32 → Mem → Prop} {K : Int32 → Int32 → Mem → Prop}, (∀ N3 x, x = nI j + (-1) → (N3 = va_up N2 17 (upd (N2 17) (21 * i + j) t)) → B (nI y) (nI i) x N3) → wX11_layPath_J166 B K Q (nI y) (nI i) (nI j) t N2 := by
        intro t et B K hb
        unfold wX11_layPath_J166
        rw [m21, nI_clamp (by omega)]
        exact ⟨vp_in_nI (by omega) (by omega), fun N3 e3 x ex => hb N3 x ex e3⟩
      have J115 : ∀ t b, RS t b → min b (oR w H (mcS w h D L R y) i j) = rS w H (mcS w h D L R y) i j → ∀ {B : Int32 → Int32 → Int32 → Mem → Prop} {K : Int32 → Int32 → Mem → Prop}, (∀ N3 x t, t = nI (rS w H (mcS w h D L R y) i j) → x = nI j + (-1) → (N3 = va_up N2 17 (upd (N2 17) (21 * i + j) t)) → B (nI y) (nI i) x N3) → wX11_layPath_J115 B K Q (nI y) (nI i) (nI j) t N2 := by
        intro t b hb eb B K hB
        have fin : ∀ t, t = nI (rS w H (mcS w h D L R y) i j) → wX11_layPath_J166 B K Q (nI y) (nI i) (nI j) t N2 := fun t et => J166 t et (fun N3 x ex e3 => hB N3 x t et ex e3)
        unfold wX11_layPath_J115
        have bi := bb i j
        rw [e0]
        refine pk_le w j (fun q => fin t ?_) (fun q => ?_)
        · unfold oR at eb
          rw [if_neg (by omega)] at eb
          rcases hb with ⟨_, z⟩ | ⟨z, z2⟩
          · omega
          · rw [z, ← eb, Nat.min_eq_left (by omega)]
        · have bj := bb i (j + 1)
          rw [m21, nI_1, nI_clamp (by omega), cl1, (rx k1).2.2.1, show 21 * i + j + 1 = 21 * i + (j + 1) by omega, k2 i (j + 1) (by omega) (by omega) (Or.inr ⟨rfl, by omega⟩), nI_add]
          refine ⟨pk_in 1 5 (by omega), vp_in_nI (by omega) (by omega), fun v ev => ?_⟩
          unfold oR at eb
          rw [if_pos q] at eb
          rcases hb with ⟨z, z2⟩ | ⟨z, z2⟩
          · refine ⟨fun _ => fin v ?_, fun z3 => absurd (by rw [z]; decide) z3⟩
            rw [ev, ← eb, Nat.min_eq_right (by omega)]
          · rw [z]
            refine ⟨fun z3 => absurd z3 (nI_pos (by omega)), fun _ => ?_⟩
            rw [ev]
            refine pk_le b (H + rS w H (mcS w h D L R y) i (j + 1)) (fun z3 => fin _ ?_) (fun z3 => fin _ ?_)
            · rw [← eb, Nat.min_eq_left z3]
            · rw [← eb, Nat.min_eq_right (by omega)]
      have J62 : ∀ t b, RS t b → min (min b (oL w H (mcS w h D L R y) i j)) (oR w H (mcS w h D L R y) i j) = rS w H (mcS w h D L R y) i j → ∀ {B : Int32 → Int32 → Int32 → Mem → Prop} {K : Int32 → Int32 → Mem → Prop}, (∀ N3 x t, t = nI (rS w H (mcS w h D L R y) i j) → x = nI j + (-1) → (N3 = va_up N2 17 (upd (N2 17) (21 * i + j) t)) → B (nI y) (nI i) x N3) → wX11_layPath_J62 B K Q (nI y) (nI i) (nI j) t N2 := by
        intro t b hb eb B K hB
        unfold wX11_layPath_J62
        rw [e0]
        refine pk_le w i (fun q => ?_) (fun q => ?_)
        · unfold oL at eb
          rw [if_neg (by omega)] at eb
          refine J115 t b hb ?_ hB
          rcases hb with ⟨_, z⟩ | ⟨z, z2⟩
          · rw [z] at eb ⊢; exact eb
          · rw [Nat.min_eq_left (show b ≤ 2147483647 by omega)] at eb; exact eb
        · have bj := bb (i + 1) j
          rw [nI_1, m21, nI_clamp (by omega), cl1, (rx k1).2.2.1, k2 (i + 1) j (by omega) (by omega) (Or.inl (by omega)), nI_add]
          refine ⟨pk_in 1 5 (by omega), vp_in_nI (by omega) (by omega), fun v ev => ?_⟩
          unfold oL at eb
          rw [if_pos q] at eb
          rcases hb with ⟨z, z2⟩ | ⟨z, z2⟩
          · refine ⟨fun _ => J115 v _ (Or.inr ⟨ev, by omega⟩) ?_ hB, fun z3 => absurd (by rw [z]; decide) z3⟩
            rw [← eb, Nat.min_eq_right (show H + rS w H (mcS w h D L R y) (i + 1) j ≤ b by omega)]
          · rw [z]
            refine ⟨fun z3 => absurd z3 (nI_pos (by omega)), fun _ => ?_⟩
            rw [ev]
            refine pk_le b (H + rS w H (mcS w h D L R y) (i + 1) j) (fun z3 => J115 _ b (Or.inr ⟨rfl, z2⟩) ?_ hB) (fun z3 => J115 _ _ (Or.inr ⟨rfl, by omega⟩) ?_ hB)
            · rw [Nat.min_eq_left z3] at eb; exact eb
            · rw [Nat.min_eq_right (Nat.le_of_lt z3)] at eb; exact eb
      have last : ∀ N3 x t, t = nI (rS w H (mcS w h D L R y) i j) → x = nI j + (-1) → (N3 = va_up N2 17 (upd (N2 17) (21 * i + j) t)) → wX11_layPath_L14 (fun x1 x2 M => ∀ x2_185 : Int32, x2_185 = x2 + (-1) → (wX11_layPath_L5 (fun x1 M => wX11_goPath M x1 (fun M193 => Q M193)) Q n) x1 x2_185 M) Q n2 (nI y) (nI i) x N3 := by
        intro N3 x t et ex e3
        rw [ex]
        refine ih2 N3 ⟨by omega, fun c hc => by rw [e3, up_n _ _ hc, k1 c hc], fun i2 j2 a b c => ?_⟩
        rw [e3, up_s]
        by_cases z : 21 * i2 + j2 = 21 * i + j
        · have z1 : i2 = i := by omega
          have z2 : j2 = j := by omega
          rw [z, pk_us, z1, z2, et]
        · rw [pk_un z]
          refine k2 i2 j2 a b ?_
          rcases c with c | ⟨c1, c2⟩
          · exact Or.inl c
          · refine Or.inr ⟨c1, ?_⟩
            rw [c1] at z
            omega
      have J38 : ¬ (i = w ∧ j = w) → wX11_layPath_J38 (wX11_layPath_L14 (fun x1 x2 M => ∀ x2_185 : Int32, x2_185 = x2 + (-1) → (wX11_layPath_L5 (fun x1 M => wX11_goPath M x1 (fun M193 => Q M193)) Q n) x1 x2_185 M) Q n2) (fun x1 x2 M => ∀ x2_185 : Int32, x2_185 = x2 + (-1) → (wX11_layPath_L5 (fun x1 M => wX11_goPath M x1 (fun M193 => Q M193)) Q n) x1 x2_185 M) Q (nI y) (nI i) (nI j) N2 := by
        intro hne
        have E := rS_eq hw hH mk (show i ≤ w by omega) (show j ≤ w by omega) hne
        unfold wX11_layPath_J38 wX11_layPath_J39
        refine payMatch_w (vm k1) (rx k1) hy (by omega) (by omega) (fun q => ⟨fun _ => J62 (-1) 2147483647 (Or.inl ⟨rfl, rfl⟩) ?_ last, fun z => absurd (by decide) z⟩) (fun c hc8 qi qj qd ec => ?_)
        · unfold oM at E
          rw [if_pos q] at E
          exact E.symm
        · have nc : ¬ mcS w h D L R y i j = -4 := by rw [ec]; exact ne_neg (by omega) (by decide)
          have b3 := bb (i + 1) (j + 1)
          rw [k2 (i + 1) (j + 1) (by omega) (by omega) (Or.inl (by omega)), nI_add]
          refine ⟨fun z => absurd z (nI_pos (by omega)), fun _ => J62 _ _ (Or.inr ⟨rfl, by omega⟩) ?_ last⟩
          unfold oM at E
          rw [if_neg nc, ec, nI_clamp (by omega)] at E
          exact E.symm
      rw [wX11_layPath_L14_s, e0]
      refine ⟨fun z => absurd z (nI_pos (by omega)), fun _ => ?_⟩
      refine ⟨fun z => J38 (fun z2 => z (by rw [z2.1])), fun z => ⟨fun z2 => J38 (fun z3 => z2 (by rw [z3.2])), fun z2 => ?_⟩⟩
      have e1 := (nI_eq (by omega) (by omega)).mp z
      have e2 := (nI_eq (by omega) (by omega)).mp z2
      have e4 : mcS w h D L R y i j = -4 := (mk i j).elim id (fun z => absurd z.1 (by omega))
      unfold wX11_layPath_J39
      refine payMatch_w (vm k1) (rx k1) hy (by omega) (by omega) (fun q => ⟨fun _ => J62 0 0 (Or.inr ⟨rfl, by omega⟩) ?_ last, fun z => absurd (by decide) z⟩) (fun c hc8 qi qj qd ec => absurd qi (by omega))
      rw [e1, e2, rS_ww]
      omega
