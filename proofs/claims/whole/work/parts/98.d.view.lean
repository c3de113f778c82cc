/-! views -/
def vF (t : Nat → Int32) (K : Int32) (x : Nat) : Nat → Int32 × Int32
  | 0 => (-1, -4)
  | n + 1 => if t (x + n) ≤ (vF t K x n).1 then vF t K x n else if nI (x + n) - ((t (x + n) * K) / 4) = nI x then (t (x + n), nI (x + n)) else vF t K x n
theorem vF_ok {t : Nat → Int32} {K : Int32} {x : Nat} : ∀ n, -1 ≤ (vF t K x n).1 ∧ ((vF t K x n).2 = -4 ∨ ∃ u : Nat, u < x + n ∧ (vF t K x n).2 = nI u ∧ -1 < t u)
  | 0 => ⟨by show (-1 : Int32) ≤ -1; decide, Or.inl rfl⟩
  | n + 1 => by
    obtain ⟨h1, h2⟩ := vF_ok (t := t) (K := K) (x := x) n
    have h2' : (vF t K x n).2 = -4 ∨ ∃ u : Nat, u < x + (n + 1) ∧ (vF t K x n).2 = nI u ∧ -1 < t u := h2.elim Or.inl (fun ⟨u, a, b⟩ => Or.inr ⟨u, by omega, b⟩)
    show -1 ≤ (if t (x + n) ≤ (vF t K x n).1 then vF t K x n else if nI (x + n) - ((t (x + n) * K) / 4) = nI x then (t (x + n), nI (x + n)) else vF t K x n).1 ∧ ((if t (x + n) ≤ (vF t K x n).1 then vF t K x n else if nI (x + n) - ((t (x + n) * K) / 4) = nI x then (t (x + n), nI (x + n)) else vF t K x n).2 = -4 ∨ ∃ u : Nat, u < x + (n + 1) ∧ (if t (x + n) ≤ (vF t K x n).1 then vF t K x n else if nI (x + n) - ((t (x + n) * K) / 4) = nI x then (t (x + n), nI (x + n)) else vF t K x n).2 = nI u ∧ -1 < t u)
    by_cases q : t (x + n) ≤ (vF t K x n).1
    · rw [if_pos q]; exact ⟨h1, h2'⟩
    · rw [if_neg q]
      have q2 : -1 < t (x + n) := Int32.lt_of_le_of_lt h1 (Int32.not_le.mp q)
      by_cases q3 : nI (x + n) - ((t (x + n) * K) / 4) = nI x
      · rw [if_pos q3]; exact ⟨Int32.le_of_lt q2, Or.inr ⟨x + n, by omega, rfl, q2⟩⟩
      · rw [if_neg q3]; exact ⟨h1, h2'⟩
noncomputable def tU (w h D P Q : Nat) (L R : Nat → Int32) (y u : Nat) : Int32 := toldS w h D P Q L R u y
noncomputable def vC (w h D P Q : Nat) (L R : Nat → Int32) (K : Int32) (x y : Nat) : Int32 := (vF (tU w h D P Q L R y) K x (w - x)).2
theorem comesFrom_w {M : Mem} {w h D P Qr : Nat} {L R : Nat → Int32} (hw : w ≤ 20) (hh : h ≤ 10) (hT : ToldOK w h D P Qr L R (M 38)) {K : Int32} {x y : Nat} (hx : x < w) (hy : y < h) {Q : Int32 → Mem → Prop} (g : Q (vC w h D P Qr L R K x y) M) : wX2_comesFrom M K (nI x) (nI y) (nI w) Q := by
  refine forN (fun n z (p : Int32 × Int32) => wX2_comesFrom_L10 _ Q n K (nI x) (nI y) (nI w) p.2 p.1 z M) (fun u p => x ≤ u ∧ p = vF (tU w h D P Qr L R y) K x (u - x)) w ?_ ?_ x (-1, -4) (by omega) ⟨Nat.le_refl _, by rw [Nat.sub_self]; rfl⟩
  · rintro n ⟨p1, p2⟩ ⟨-, e⟩
    rw [wX2_comesFrom_L10_s]
    refine pk_le w w (fun _ => ?_) (fun q => absurd q (by omega))
    have : p2 = vC w h D P Qr L R K x y := congrArg Prod.snd e
    show Q p2 M
    rw [this]; exact g
  · rintro n u ⟨p1, p2⟩ hu ⟨hxu, e⟩ ih
    have hk := pl200 hw hh hu hy
    have es : vF (tU w h D P Qr L R y) K x (u + 1 - x) = if tU w h D P Qr L R y u ≤ p1 then (p1, p2) else if nI u - ((tU w h D P Qr L R y u * K) / 4) = nI x then (tU w h D P Qr L R y u, nI u) else (p1, p2) := by
      rw [show u + 1 - x = (u - x) + 1 by omega]
      show (if tU w h D P Qr L R y (x + (u - x)) ≤ (vF (tU w h D P Qr L R y) K x (u - x)).1 then vF (tU w h D P Qr L R y) K x (u - x) else if nI (x + (u - x)) - ((tU w h D P Qr L R y (x + (u - x)) * K) / 4) = nI x then (tU w h D P Qr L R y (x + (u - x)), nI (x + (u - x))) else vF (tU w h D P Qr L R y) K x (u - x)) = _
      rw [← e, show x + (u - x) = u by omega]
    show wX2_comesFrom_L10 _ Q (n + 1) K (nI x) (nI y) (nI w) p2 p1 (nI u) M
    rw [wX2_comesFrom_L10_s]
    refine pk_le w u (fun q => absurd q (by omega)) (fun _ => ?_)
    rw [pk_mul, nI_add, nI_clamp (by omega), hT u y hu hy]
    refine ⟨vp_in_nI hk (by omega), fun v ev => ?_⟩
    have ev2 : v = tU w h D P Qr L R y u := ev
    refine ⟨fun q z ez => ?_, fun q => ⟨by decide, fun q2 z ez => ?_, fun q2 z ez => ?_⟩⟩
    · rw [ez, nI_1]
      rw [ev2] at q
      rw [if_pos q] at es
      exact ih (p1, p2) ⟨by omega, es.symm⟩
    · rw [ez, nI_1]
      rw [ev2] at q q2
      rw [if_neg q, if_neg q2] at es
      exact ih (p1, p2) ⟨by omega, es.symm⟩
    · rw [ez, nI_1]
      rw [ev2] at q q2 ⊢
      rw [if_neg q, if_pos q2] at es
      exact ih (tU w h D P Qr L R y u, nI u) ⟨by omega, es.symm⟩
def shO (L : Nat → Int32) (w y : Nat) (c : Int32) : Int32 := if c = -4 then -4 else L (y * w + c.toNatClampNeg)
theorem told_lost {w h D P Q : Nat} {L R : Nat → Int32} {x y : Nat} (q : -1 < toldS w h D P Q L R x y) : ¬ L (y * w + x) = -5 := by
  intro z
  unfold toldS at q
  rw [if_pos z] at q
  exact absurd q (by decide)
theorem seen_m {M : Mem} {w h D P Qr : Nat} {L R : Nat → Int32} (hm : VM M w h L R) (hD : D ≤ 8) (hf : DepM w h D P Qr L R (M 14) (M 15)) {K : Int32} {x y : Nat} (hx : x < w) (hy : y < h) {Q : Int32 → Mem → Prop} (g : Q (shO L w y (vC w h D P Qr L R K x y)) M) : wX11_seen M K (nI x) (nI y) Q := by
  have hw : w ≤ 20 := hm.1.2.1
  have hh : h ≤ 10 := hm.1.2.2.2.1
  refine forN (fun n z (p : Int32 × Int32) => wX11_seen_L10 _ Q n K (nI x) (nI y) p.1 p.2 z M) (fun u p => x ≤ u ∧ p.1 = (vF (tU w h D P Qr L R y) K x (u - x)).1 ∧ p.2 = shO L w y (vF (tU w h D P Qr L R y) K x (u - x)).2) w ?_ ?_ x (-1, -4) (by omega) ⟨Nat.le_refl _, by rw [Nat.sub_self]; rfl, by rw [Nat.sub_self]; rfl⟩
  · rintro n ⟨p1, p2⟩ ⟨-, -, e⟩
    simp only at e
    rw [wX11_seen_L10_s, hm.1.2.2.2.2.1]
    refine pk_le w w (fun _ => ?_) (fun q => absurd q (by omega))
    show Q p2 M
    rw [e]; exact g
  · rintro n u ⟨p1, p2⟩ hu ⟨hxu, e1, e2⟩ ih
    simp only at e1 e2
    have hk := pl200 hw hh hu hy
    have ok := (vF_ok (t := tU w h D P Qr L R y) (K := K) (x := x) (u - x)).1
    have es : vF (tU w h D P Qr L R y) K x (u + 1 - x) = if tU w h D P Qr L R y u ≤ p1 then vF (tU w h D P Qr L R y) K x (u - x) else if nI u - ((tU w h D P Qr L R y u * K) / 4) = nI x then (tU w h D P Qr L R y u, nI u) else vF (tU w h D P Qr L R y) K x (u - x) := by
      rw [show u + 1 - x = (u - x) + 1 by omega]
      show (if tU w h D P Qr L R y (x + (u - x)) ≤ (vF (tU w h D P Qr L R y) K x (u - x)).1 then vF (tU w h D P Qr L R y) K x (u - x) else if nI (x + (u - x)) - ((tU w h D P Qr L R y (x + (u - x)) * K) / 4) = nI x then (tU w h D P Qr L R y (x + (u - x)), nI (x + (u - x))) else vF (tU w h D P Qr L R y) K x (u - x)) = _
      rw [e1, show x + (u - x) = u by omega]
    show wX11_seen_L10 _ Q (n + 1) K (nI x) (nI y) p1 p2 (nI u) M
    rw [wX11_seen_L10_s, hm.1.2.2.2.2.1]
    refine pk_le w u (fun q => absurd q (by omega)) (fun _ => ?_)
    refine agreedAt_w hm hD hf hu hy ?_
    show ((tU w h D P Qr L R y u ≤ p1) → _) ∧ _
    refine ⟨fun q z ez => ?_, fun q => ⟨by decide, fun q2 z ez => ?_, fun q2 => ?_⟩⟩
    · rw [ez, nI_1]
      rw [if_pos q] at es
      exact ih (p1, p2) ⟨by omega, by rw [es]; exact e1, by rw [es]; exact e2⟩
    · rw [ez, nI_1]
      have q2' : ¬ nI u - ((tU w h D P Qr L R y u * K) / 4) = nI x := q2
      have q' : ¬ tU w h D P Qr L R y u ≤ p1 := q
      rw [if_neg q', if_neg q2'] at es
      exact ih (p1, p2) ⟨by omega, by rw [es]; exact e1, by rw [es]; exact e2⟩
    · have q2' : nI u - ((tU w h D P Qr L R y u * K) / 4) = nI x := q2
      have q' : ¬ tU w h D P Qr L R y u ≤ p1 := q
      rw [if_neg q', if_pos q2'] at es
      have nl : ¬ L (y * w + u) = -5 := told_lost (Int32.lt_of_le_of_lt (by rw [e1]; exact ok) (Int32.not_le.mp q))
      refine at0_w hm.1 ?_
      rw [nI_clamp (by omega), shL hm hu hy nl]
      refine ⟨vp_in_nI (by omega) (by omega), fun v ev z ez => ?_⟩
      rw [ez, nI_1]
      refine ih (tU w h D P Qr L R y u, v) ⟨by omega, by rw [es], ?_⟩
      show v = _
      rw [es, ev]
      show _ = shO L w y (nI u)
      unfold shO
      rw [if_neg (ne_neg (by omega) (by decide)), nI_clamp (by omega)]
theorem vC_ok {w h D P Q : Nat} {L R : Nat → Int32} {K : Int32} {x y : Nat} (hx : x < w) : vC w h D P Q L R K x y = -4 ∨ ∃ u : Nat, u < w ∧ vC w h D P Q L R K x y = nI u ∧ ¬ L (y * w + u) = -5 := by
  rcases (vF_ok (t := tU w h D P Q L R y) (K := K) (x := x) (w - x)).2 with q | ⟨u, hu, e, q⟩
  · exact Or.inl q
  · exact Or.inr ⟨u, by omega, e, told_lost q⟩
theorem shO_4 {w h D P Q : Nat} {L R : Nat → Int32} (hS : ShOK w h L) (hw : w ≤ 20) {K : Int32} {x y : Nat} (hx : x < w) (hy : y < h) : shO L w y (vC w h D P Q L R K x y) = -4 ↔ vC w h D P Q L R K x y = -4 := by
  unfold shO
  rcases vC_ok (h := h) (D := D) (P := P) (Q := Q) (L := L) (R := R) (K := K) (y := y) hx with q | ⟨u, hu, e, nl⟩
  · rw [q]; exact ⟨fun _ => rfl, fun _ => rfl⟩
  · have n4 : ¬ vC w h D P Q L R K x y = -4 := by rw [e]; exact ne_neg (by omega) (by decide)
    rw [if_neg n4, e, nI_clamp (by omega)]
    rcases hS (y * w + u) (pl_lt hu hy) with z | ⟨v, hv, ev⟩
    · exact absurd z nl
    · rw [ev]
      exact ⟨fun z => absurd z (ne_neg (by omega) (by decide)), fun z => absurd z (ne_neg (by omega) (by decide))⟩
theorem rng4 {k : Int32} (nx : ¬ Ix k 5) {A B : Prop} (b : B) : (k < 0 → B) ∧ (¬ k < 0 → (k ≤ 4 → A) ∧ (¬ k ≤ 4 → B)) := by
  refine ⟨fun _ => b, fun z => ⟨fun z2 => absurd ?_ nx, fun _ => b⟩⟩
  obtain ⟨d, hd, ed⟩ := nI_of2 (x := k) (M := 4) (n := 4) rfl z z2
  exact ⟨d, by omega, ed⟩
theorem rng4' {k : Int32} (nx : ¬ Ix k 5) {A B : Prop} (b : B) : (k < 0 → B) ∧ (¬ k < 0 → (4 < k → B) ∧ (¬ 4 < k → A)) := by
  refine ⟨fun _ => b, fun z => ⟨fun _ => b, fun z2 => absurd ?_ nx⟩⟩
  obtain ⟨d, hd, ed⟩ := nI_of2 (x := k) (M := 4) (n := 4) rfl z (Int32.not_lt.mp z2)
  exact ⟨d, by omega, ed⟩
theorem o_view : St_view Inv := by
  rintro Mx Mm k a b ⟨w, h, D, H, P, Qr, T, L, R, hI⟩
  have hw : w ≤ 20 := hI.1.1.2.1
  have hh : h ≤ 10 := hI.1.1.2.2.2.1
  have hD : D ≤ 8 := hI.2.1.1.1
  have J0 : Inv Mx Mm := ⟨_, _, _, _, _, _, _, _, _, hI⟩
  apply Classical.byCases (p := Ix k 5)
  · rintro ⟨i, hi, rfl⟩
    refine ⟨fun z => absurd z (nI_pos (by omega)), fun _ => pk_lt 4 i (fun q => absurd q (by omega)) (fun _ => ?_)⟩
    have mi : ∀ Q : Int32 → Mem → Prop, Q 1 Mm → wX11_in Mm (nI i) 0 4 Q := fun Q q => in_ix (n := 5) (by omega) (by omega) rfl (fun _ _ _ => q) (fun z => absurd ⟨i, hi, rfl⟩ z)
    rcases sq_both hI.1.1 hI.1.2.1 a b with ⟨c0, m0⟩ | ⟨x, y, hx, hy, rfl, rfl, c1, m1⟩
    · exact c0 _ ⟨fun z => absurd rfl z, fun _ => mi _ ⟨fun z => absurd z (by decide), fun _ => m0 _ ⟨fun z => absurd rfl z, fun _ => ⟨rfl, J0⟩⟩⟩⟩
    · refine c1 _ ⟨fun _ => depths_x hI.2.2.2.1 hI.2.1 hI.2.2.2.2.2.1 (fun N sx cx q => ?_), fun z => absurd z (by decide)⟩
      have iN := inv_x hI sx cx
      rw [iN.1.1.2.2.2.2.1]
      refine comesFrom_w hw hh q hx hy ?_
      have mm : ∀ r, r = shO L w y (vC w h D P Qr L R (nI i) x y) → wX11_view Mm (nI i) (nI x) (nI y) (fun r2 Nm => r = r2 ∧ Inv N Nm) := by
        intro r er
        refine mi _ ⟨fun z => absurd z (by decide), fun _ => m1 _ ⟨fun _ => ?_, fun z => absurd z (by decide)⟩⟩
        refine reckon_w hI.2.2.2.2.1 hI.2.2.1 hI.2.2.2.1.2.2.2.1 hI.2.2.2.2.2.2 (fun Nm sm cm => ?_)
        exact seen_m (hI.2.2.2.2.1.same sm) hD cm.2.2.2.1 hx hy ⟨er, _, _, _, _, _, _, _, _, _, inv_same hI sx sm cx (Or.inr cm)⟩
      rcases vC_ok (h := h) (D := D) (P := P) (Q := Qr) (L := L) (R := R) (K := nI i) (y := y) hx with q4 | ⟨u, hu, e, nl⟩
      · refine ⟨fun z => absurd q4 z, fun _ => mm _ ?_⟩
        unfold shO
        rw [if_pos q4]
      · have n4 : ¬ vC w h D P Qr L R (nI i) x y = -4 := by rw [e]; exact ne_neg (by omega) (by decide)
        refine ⟨fun _ => ?_, fun z => absurd z n4⟩
        rw [e]
        refine seen_w iN.1.1 hu hy (mm _ ?_)
        unfold shO
        rw [if_neg n4, e, nI_clamp (by omega), ← iN.2.2.2.1.2.1]
        unfold sv seS
        rw [pl_div hu]
  · intro nx
    have no : wX11_view Mm k a b (fun r2 Nm => -1 = r2 ∧ Inv Mx Nm) := in_ix (n := 5) (by omega) (by omega) rfl (fun j hj e => absurd ⟨j, hj, e⟩ nx) (fun _ => ⟨fun _ => ⟨rfl, J0⟩, fun z => absurd rfl z⟩)
    exact rng4' nx no
noncomputable def hoC (w h D P Q : Nat) (L R : Nat → Int32) (K : Int32) (n : Nat) : Nat := sm (fun k => b2 (decide (vC w h D P Q L R K (k % w) (k / w) = -4))) n
theorem o_holes : St_holes Inv := by
  rintro Mx Mm k ⟨w, h, D, H, P, Qr, T, L, R, hI⟩
  have hw : w ≤ 20 := hI.1.1.2.1
  have hh : h ≤ 10 := hI.1.1.2.2.2.1
  have w1 : 1 ≤ w := hI.1.1.1
  have hwh := wh_le hw hh
  have hD : D ≤ 8 := hI.2.1.1.1
  have J0 : Inv Mx Mm := ⟨_, _, _, _, _, _, _, _, _, hI⟩
  apply Classical.byCases (p := Ix k 5)
  · rintro ⟨i, hi, rfl⟩
    refine ⟨fun z => absurd z (nI_pos (by omega)), fun _ => pk_le i 4 (fun _ => ?_) (fun q => absurd q (by omega))⟩
    refine depths_x hI.2.2.2.1 hI.2.1 hI.2.2.2.2.2.1 (fun N sx cx q => ?_)
    have iN := inv_x hI sx cx
    have dN := iN.1.1
    have fin : wX11_holes Mm (nI i) (fun r2 Nm => nI (hoC w h D P Qr L R (nI i) (w * h)) = r2 ∧ Inv N Nm) := by
      refine in_ix (n := 5) (by omega) (by omega) rfl (fun _ _ _ => ⟨fun _ => ?_, fun z => absurd z (by decide)⟩) (fun z => absurd ⟨i, hi, rfl⟩ z)
      refine reckon_w hI.2.2.2.2.1 hI.2.2.1 hI.2.2.2.1.2.2.2.1 hI.2.2.2.2.2.2 (fun Nm sm cm => ?_)
      have vm := hI.2.2.2.2.1.same sm
      have mN := vm.1
      have ewh : Nm 0 0 * Nm 0 1 = nI (w * h) := by rw [mN.2.2.2.2.1, mN.2.2.2.2.2, pk_mul]
      refine forN (fun n z (c : Int32) => wX11_holes_L19 _ _ n (nI i) c z Nm) (fun k c => c = nI (hoC w h D P Qr L R (nI i) k)) (w * h) ?_ ?_ 0 0 (by omega) rfl
      · intro n c ec
        rw [wX11_holes_L19_s, ewh, ec]
        exact pk_le (w * h) (w * h) (fun _ => ⟨rfl, _, _, _, _, _, _, _, _, _, inv_same hI sx sm cx (Or.inr cm)⟩) (fun q => absurd q (by omega))
      · intro n k c hk ec ih
        obtain ⟨d1, d2, d3⟩ := kdm w1 hk
        have e : hoC w h D P Qr L R (nI i) (k + 1) = hoC w h D P Qr L R (nI i) k + b2 (decide (vC w h D P Qr L R (nI i) (k % w) (k / w) = -4)) := rfl
        rw [wX11_holes_L19_s, ewh, ec]
        refine pk_le (w * h) k (fun q => absurd q (by omega)) (fun _ => ?_)
        rw [mN.2.2.2.2.1]
        refine ⟨nI_ne0 (by omega) (by omega), fun v ev => ⟨nI_ne0 (by omega) (by omega), ?_⟩⟩
        have ev2 : v = nI (k % w) := ev.trans (pk_rem (by omega) (by omega) (by omega))
        rw [ev2, pk_div (by omega) (by omega) (by omega)]
        refine seen_m vm hD cm.2.2.2.1 d1 d2 ?_
        have s4 := shO_4 (h := h) (D := D) (P := P) (Q := Qr) (L := L) (R := R) (K := nI i) hI.2.2.2.1.2.2.2.1 hw d1 d2
        refine ⟨fun z y ey u eu => ?_, fun z y ey u eu => ?_⟩
        · rw [eu, nI_1]
          exact ih y (by rw [ey, e, decide_eq_false (fun z2 => z (s4.mpr z2))]; exact Int32.add_zero _)
        · rw [eu, nI_1]
          exact ih y (by rw [ey, e, decide_eq_true (s4.mp z), nI_1]; rfl)
    refine forN (fun n z (c : Int32) => wX10_holes_L19 _ _ n (nI i) c z N) (fun y c => c = nI (hoC w h D P Qr L R (nI i) (y * w))) h ?_ ?_ 0 0 (by omega) (by rw [Nat.zero_mul]; rfl)
    · intro n c ec
      rw [wX10_holes_L19_s, dN.2.2.2.2.2, ec]
      refine pk_le h h (fun _ => ?_) (fun q => absurd q (by omega))
      rw [Nat.mul_comm]; exact fin
    · intro n y c hy ec ih
      rw [wX10_holes_L19_s, dN.2.2.2.2.2, ec]
      refine pk_le h y (fun q => absurd q (by omega)) (fun _ => ?_)
      refine forN (fun n z (c : Int32) => wX10_holes_L33 _ _ n (nI i) c (nI y) z N) (fun x c => c = nI (hoC w h D P Qr L R (nI i) (y * w + x))) w ?_ ?_ 0 _ (by omega) rfl
      · intro n2 c2 ec2
        rw [wX10_holes_L33_s, dN.2.2.2.2.1]
        refine pk_le w w (fun _ z ez => ?_) (fun q => absurd q (by omega))
        rw [ez, nI_1]
        exact ih c2 (by rw [ec2, Nat.add_mul, Nat.one_mul])
      · intro n2 x c2 hx ec2 ih2
        have e : hoC w h D P Qr L R (nI i) (y * w + (x + 1)) = hoC w h D P Qr L R (nI i) (y * w + x) + b2 (decide (vC w h D P Qr L R (nI i) ((y * w + x) % w) ((y * w + x) / w) = -4)) := rfl
        rw [pl_mod hx, pl_div hx] at e
        rw [wX10_holes_L33_s, dN.2.2.2.2.1, ec2]
        refine pk_le w x (fun q => absurd q (by omega)) (fun _ => ?_)
        refine comesFrom_w hw hh q hx hy ?_
        refine ⟨fun z u eu => ?_, fun z v ev u eu => ?_⟩
        · rw [eu, nI_1]
          exact ih2 (nI (hoC w h D P Qr L R (nI i) (y * w + x))) (by rw [e, decide_eq_false z]; rfl)
        · rw [eu, nI_1]
          exact ih2 v (by rw [ev, e, decide_eq_true z, nI_1]; rfl)
  · intro nx
    have no : wX11_holes Mm k (fun r2 Nm => -1 = r2 ∧ Inv Mx Nm) := in_ix (n := 5) (by omega) (by omega) rfl (fun j hj e => absurd ⟨j, hj, e⟩ nx) (fun _ => ⟨fun z => absurd rfl z, fun _ => ⟨rfl, J0⟩⟩)
    exact rng4 nx no
