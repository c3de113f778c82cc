/-! the class's ways, sums, depths -/
def RunInv (w h D P Q : Nat) (L R : Nat → Int32) (way : Nat) (M : Mem) (n : Nat) (N : Mem) : Prop := (∀ c, c ≠ 34 → c ≠ 35 → N c = M c) ∧ ∀ i, i < n → (∀ d, d ≤ D → N 34 (9 * kO w h way i + d) = rn w h D P Q L R way (9 * kO w h way i + d)) ∧ N 35 (kO w h way i) = lst (rn w h D P Q L R way) (9 * kO w h way i) (D + 1)
theorem way_w {M N : Mem} {w h D H P Qr T : Nat} {L R : Nat → Int32} {way n x y : Nat} (hd : Dim M w h) (hr : RX M D H P Qr T) (hv : VoteOK w h D L R (M 33)) (hway : way < 8) (hx : x < w) (hy : y < h) (hn : n < w * h) (en : kO w h way n = y * w + x) (hI : RunInv w h D P Qr L R way M n N) {B : Int32 → Int32 → Int32 → Int32 → Int32 → Mem → Prop} {K : Int32 → Int32 → Int32 → Mem → Prop} {Q : Mem → Prop} {x5 x6 x8 : Int32} (ih : ∀ N2, RunInv w h D P Qr L R way M (n + 1) N2 → B (nI way) x5 x6 (nI y) (x8 + 1) N2) : wX9_goAlong_J102 B K Q (nI way) x5 x6 (nI y) x8 (nI x) N := by
  have hw : w ≤ 20 := hd.2.1
  have hh : h ≤ 10 := hd.2.2.2.1
  have hD : D ≤ 8 := hr.1.1
  have hk := pl200 hw hh hx hy
  have hwh := wh_le hw hh
  have dN : Dim N w h := by unfold Dim; rw [hI.1 1 (by decide) (by decide)]; exact hd
  have rN : RX N D H P Qr T := hr.of (hI.1 17 (by decide) (by decide))
  have kx := nb_ix (x := x) (w := w) (tabA_3 way hway) (by omega) (by omega)
  have ky := nb_ix (x := y) (w := h) (tabD_3 way hway) (by omega) (by omega)
  have fin : ∀ N2 : Mem, (∀ c, c ≠ 34 → c ≠ 35 → N2 c = N c) → (∀ i, i < 9 * (y * w + x) ∨ 9 * (y * w + x) + 9 ≤ i → N2 34 i = N 34 i) → (∀ d, d ≤ D → N2 34 (9 * (y * w + x) + d) = rn w h D P Qr L R way (9 * (y * w + x) + d)) → N2 35 = upd (N 35) (y * w + x) (lst (rn w h D P Qr L R way) (9 * (y * w + x)) (D + 1)) → RunInv w h D P Qr L R way M (n + 1) N2 := by
    intro N2 f1 f2 f3 f4
    refine ⟨fun c c1 c2 => (f1 c c1 c2).trans (hI.1 c c1 c2), fun i hi => ?_⟩
    by_cases z : i = n
    · rw [z, en]
      exact ⟨f3, by rw [f4, pk_us]⟩
    · have ne : kO w h way i ≠ y * w + x := fun q => z (kO_inj (by omega) hn (q.trans en.symm))
      have o := hI.2 i (by omega)
      refine ⟨fun d hd => ?_, ?_⟩
      · rw [f2 _ (by omega)]; exact o.1 d hd
      · rw [f4, pk_un ne]; exact o.2
  unfold wX9_goAlong_J102
  rw [nI_clamp (by omega)]
  refine ⟨vp_in_nI hway (by omega), fun X eX => ⟨vp_in_nI hway (by omega), fun Y eY => ?_⟩⟩
  rw [← eX] at kx
  rw [← eY] at ky
  by_cases ip : inP w h ((x : Int) + aZ way) ((y : Int) + dZ way)
  · obtain ⟨hp, m, hm, em⟩ := kO_ord hway hx hy hn en ip
    have ex : X = nI ((x : Int) + aZ way).toNat := kx.2 ip.1.1
    have ey : Y = nI ((y : Int) + dZ way).toNat := ky.2 ip.2.1
    refine hasSquare_w dN (fun _ _ _ _ _ _ => ⟨fun z => absurd z (by decide), fun _ => ?_⟩) (fun z => absurd ⟨kx.1.mpr ip.1, ky.1.mpr ip.2⟩ z)
    refine placeOf_w dN ?_
    rw [ex, ey]
    refine placeOf_w dN ?_
    have om := hI.2 m hm
    have ez : ((y : Int) + dZ way).toNat * w + ((x : Int) + aZ way).toNat = kO w h way m := em.symm
    rw [ez]
    have c1 : ∀ d, d ≤ D → N 34 (9 * kO w h way m + d) = rn w h D P Qr L R way (9 * kO w h way m + d) := om.1
    have c2 : lst (N 34) (9 * kO w h way m) (D + 1) = lst (rn w h D P Qr L R way) (9 * kO w h way m) (D + 1) := lst_cong (fun d hd => c1 d (by omega))
    refine goOn_w (G := rn w h D P Qr L R way) rN hk (by rw [em]; omega) (fun q => absurd (kO_inj (by omega) hn (q.trans en.symm)) (by omega)) (by rw [om.2, c2]) (fun d hd => ?_) (fun N2 f1 f2 f3 f4 x2 ex2 => ?_)
    · rw [c2, best_cong hd c1, hI.1 33 (by decide) (by decide), hv x y hx hy d hd, rn_eq hway hx hy hd hD, rv, if_pos ip, em]
    · rw [ex2]
      exact ih N2 (fin N2 f1 f2 f3 f4)
  · refine hasSquare_w dN (fun u2 v2 hu2 hv2 eu2 ev2 => absurd ⟨kx.1.mp ⟨u2, hu2, eu2⟩, ky.1.mp ⟨v2, hv2, ev2⟩⟩ ip) (fun _ => ⟨fun _ => ?_, fun z => absurd rfl z⟩)
    refine placeOf_w dN ⟨pk_in 0 5 (by omega), ?_⟩
    rw [cl0, rN.2.1]
    refine start_w (G := rn w h D P Qr L R way) hk hD (fun d hd => ?_) (fun N2 f1 f2 f3 f4 x2 ex2 => ?_)
    · rw [hI.1 33 (by decide) (by decide), hv x y hx hy d hd, rn_eq hway hx hy hd hD, rv, if_neg ip]
    · rw [ex2]
      exact ih N2 (fin N2 f1 f2 f3 f4)
theorem kO_up {w h way j i : Nat} (hway : way < 4) : kO w h way (j * w + i) = j * w + i := if_pos hway
theorem kO_dn {w h way j i : Nat} (hway : ¬ way < 4) (hi : i < w) (hj : j < h) : kO w h way (j * w + i) = (h - 1 - j) * w + (w - 1 - i) := by
  unfold kO
  rw [if_neg hway]
  obtain ⟨t, rfl⟩ : ∃ t, h = j + 1 + t := ⟨h - 1 - j, by omega⟩
  have e : w * (j + 1 + t) = j * w + w + t * w := by rw [Nat.mul_add, Nat.mul_add, Nat.mul_one, Nat.mul_comm w j, Nat.mul_comm w t]
  rw [e, show j + 1 + t - 1 - j = t by omega]
  omega
theorem along_w {M : Mem} {w h D H P Qr T : Nat} {L R : Nat → Int32} {way : Nat} (hd : Dim M w h) (hr : RX M D H P Qr T) (hv : VoteOK w h D L R (M 33)) (hway : way < 8) {Q : Mem → Prop} (g : ∀ N : Mem, (∀ c, c ≠ 32 → c ≠ 34 → c ≠ 35 → N c = M c) → N 32 = upd (M 32) 6 (nI way) → At9 w h D (N 34) (rn w h D P Qr L R way) → Q N) : wX9_goAlong_J26 Q (nI way) M := by
  have hw : w ≤ 20 := hd.2.1
  have hh : h ≤ 10 := hd.2.2.2.1
  have dm : ∀ {n N}, RunInv w h D P Qr L R way M n N → Dim N w h := fun hI => by unfold Dim; rw [hI.1 1 (by decide) (by decide)]; exact hd
  have fin : ∀ N, RunInv w h D P Qr L R way M (h * w) N → ∀ M190 : Mem, M190 = va_up N 32 (upd (N 32) 6 (nI way)) → Q M190 := by
    intro N hI N2 e2
    refine g N2 (fun c c1 c2 c3 => by rw [e2, up_n _ _ c1, hI.1 c c2 c3]) (by rw [e2, up_s, hI.1 32 (by decide) (by decide)]) (fun x y hx hy d hd => ?_)
    rw [e2, up_n _ _ (by decide)]
    obtain ⟨i, hi, ei⟩ := kO_inv (way := way) (pl_lt hx hy)
    rw [← ei]
    exact (hI.2 i (by rw [Nat.mul_comm h w]; exact hi)).1 d hd
  refine pk_le 4 way (fun q => ?_) (fun q => ?_)
  · refine forN (fun n z N => wX9_goAlong_L41 _ Q n (nI way) 0 z N) (fun j N => RunInv w h D P Qr L R way M (j * w) N) h ?_ ?_ 0 M (by omega) ⟨fun _ _ _ => rfl, fun i q => absurd q (by omega)⟩
    · intro n N hI
      rw [wX9_goAlong_L41_s]
      exact pk_le h h (fun _ => fin N hI) (fun q => absurd q (by omega)) (hx := (dm hI).2.2.2.2.2)
    · intro n j N hj hI ih
      rw [wX9_goAlong_L41_s]
      refine pk_le h j (fun q => absurd q (by omega)) (fun _ => ⟨fun _ x7 e7 => ?_, fun z => absurd rfl z⟩) (hx := (dm hI).2.2.2.2.2)
      have e7' : x7 = nI (h - 1 - j) := by rw [e7, (dm hI).2.2.2.2.2, nI_m1 hd.2.2.1, pk_sub (by omega)]
      rw [e7']
      refine forN (fun n z N => wX9_goAlong_L74 _ Q n (nI way) 0 (nI j) (nI (h - 1 - j)) z N) (fun i N => RunInv w h D P Qr L R way M (j * w + i) N) w ?_ ?_ 0 N (by omega) hI
      · intro n N2 hI2
        rw [wX9_goAlong_L74_s]
        refine pk_le w w (fun _ x2 ex2 => ?_) (fun q => absurd q (by omega)) (hx := (dm hI2).2.2.2.2.1)
        rw [ex2, nI_1]
        refine ih N2 ?_
        rw [Nat.add_mul, Nat.one_mul]
        exact hI2
      · intro n i N2 hi hI2 ih2
        rw [wX9_goAlong_L74_s]
        refine pk_le w i (fun q => absurd q (by omega)) (fun _ => ⟨fun _ => ?_, fun z => absurd rfl z⟩) (hx := (dm hI2).2.2.2.2.1)
        have et : (N2 1 0 - 1) - nI i = nI (w - 1 - i) := by rw [(dm hI2).2.2.2.2.1, nI_m1 hd.1, pk_sub (by omega)]
        rw [et]
        refine way_w hd hr hv hway (by omega) (by omega) (by have := pl_lt hi hj; omega) (kO_dn (by omega) hi hj) hI2 (fun N3 h3 => ?_)
        rw [nI_1]
        exact ih2 N3 h3
  · refine forN (fun n z N => wX9_goAlong_L41 _ Q n (nI way) 1 z N) (fun j N => RunInv w h D P Qr L R way M (j * w) N) h ?_ ?_ 0 M (by omega) ⟨fun _ _ _ => rfl, fun i q => absurd q (by omega)⟩
    · intro n N hI
      rw [wX9_goAlong_L41_s]
      exact pk_le h h (fun _ => fin N hI) (fun q => absurd q (by omega)) (hx := (dm hI).2.2.2.2.2)
    · intro n j N hj hI ih
      rw [wX9_goAlong_L41_s]
      refine pk_le h j (fun q => absurd q (by omega)) (fun _ => ⟨fun z => absurd z (by decide), fun _ => ?_⟩) (hx := (dm hI).2.2.2.2.2)
      refine forN (fun n z N => wX9_goAlong_L74 _ Q n (nI way) 1 (nI j) (nI j) z N) (fun i N => RunInv w h D P Qr L R way M (j * w + i) N) w ?_ ?_ 0 N (by omega) hI
      · intro n N2 hI2
        rw [wX9_goAlong_L74_s]
        refine pk_le w w (fun _ x2 ex2 => ?_) (fun q => absurd q (by omega)) (hx := (dm hI2).2.2.2.2.1)
        rw [ex2, nI_1]
        refine ih N2 ?_
        rw [Nat.add_mul, Nat.one_mul]
        exact hI2
      · intro n i N2 hi hI2 ih2
        rw [wX9_goAlong_L74_s]
        refine pk_le w i (fun q => absurd q (by omega)) (fun _ => ⟨fun z => absurd z (by decide), fun _ => ?_⟩) (hx := (dm hI2).2.2.2.2.1)
        refine way_w hd hr hv hway hi hj (by have := pl_lt hi hj; omega) (kO_up (by omega)) hI2 (fun N3 h3 => ?_)
        rw [nI_1]
        exact ih2 N3 h3
def C2 (M : Mem) (w h D : Nat) (L R : Nat → Int32) : Prop := M 32 4 = 0 ∨ VoteOK w h D L R (M 33)
def C3 (M : Mem) (w h D P Q : Nat) (L R : Nat → Int32) : Prop := M 32 6 = -4 ∨ ∃ k, k < 8 ∧ M 32 6 = nI k ∧ At9 w h D (M 34) (rn w h D P Q L R k)
theorem goAlong_w {M : Mem} {w h D H P Qr T : Nat} {L R : Nat → Int32} {way : Nat} (hd : Dim M w h) (hr : RX M D H P Qr T) (hc : CostOK w h L R (M 27) (M 22) (M 26)) (h2 : C2 M w h D L R) (h3 : C3 M w h D P Qr L R) (hway : way < 8) {Q : Mem → Prop} (g : ∀ N : Mem, (∀ c, c ≠ 32 → c ≠ 33 → c ≠ 34 → c ≠ 35 → N c = M c) → N 32 5 = M 32 5 → C2 N w h D L R → N 32 6 = nI way → At9 w h D (N 34) (rn w h D P Qr L R way) → Q N) : wX9_goAlong M (nI way) Q := by
  refine ⟨fun q => ⟨fun q2 => ?_, fun q2 => ⟨pk_in 0 5 (by omega), ?_⟩⟩, fun q => ?_⟩
  · have hv : VoteOK w h D L R (M 33) := h2.elim (fun z => absurd z q2) id
    refine along_w hd hr hv hway (fun N f1 f2 f3 => g N (fun c c1 c2 c3 c4 => f1 c c1 c3 c4) (by rw [f2, pk_un (by decide)]) (Or.inr (by rw [f1 33 (by decide) (by decide) (by decide)]; exact hv)) (by rw [f2, pk_us]) f3)
  · rw [cl0, hr.2.1]
    refine vote_w hd hr.1.1 hc (fun N k1 k2 k3 => ?_)
    have dN : Dim N w h := by unfold Dim; rw [k1 1 (by decide) (by decide)]; exact hd
    refine along_w dN (hr.of (k1 17 (by decide) (by decide))) k3 hway (fun N2 f1 f2 f3 => g N2 (fun c c1 c2 c3 c4 => (f1 c c1 c3 c4).trans (k1 c c1 c2)) (by rw [f2, pk_un (by decide), k2, pk_un (by decide)]) (Or.inr (by rw [f1 33 (by decide) (by decide) (by decide)]; exact k3)) (by rw [f2, pk_us]) f3)
  · refine g M (fun _ _ _ _ _ => rfl) rfl h2 q ?_
    rcases h3 with z | ⟨k, hk, ek, o⟩
    · rw [q] at z; exact absurd z (ne_neg (by omega) (by decide))
    · rw [q] at ek
      have := (nI_eq (by omega) (by omega)).mp ek
      rw [this]; exact o
theorem addAll_w {M : Mem} {w h D H P Qr T : Nat} {L R : Nat → Int32} (hd : Dim M w h) (hr : RX M D H P Qr T) (hc : CostOK w h L R (M 27) (M 22) (M 26)) (h2 : C2 M w h D L R) (h3 : C3 M w h D P Qr L R) {Q : Mem → Prop} (g : ∀ N : Mem, (∀ c, c ≠ 32 → c ≠ 33 → c ≠ 34 → c ≠ 35 → c ≠ 36 → N c = M c) → C2 N w h D L R → C3 N w h D P Qr L R → At9 w h D (N 36) (tot w h D P Qr L R) → Q N) : wX9_addAll M Q := by
  have hw : w ≤ 20 := hd.2.1
  have hh : h ≤ 10 := hd.2.2.2.1
  have hwh := wh_le hw hh
  intro M5 e5
  have d5 : Dim M5 w h := by unfold Dim; rw [e5, up_n _ _ (by decide)]; exact hd
  have ec : M5 1 0 * M5 1 1 = nI (w * h) := by rw [d5.2.2.2.2.1, d5.2.2.2.2.2, pk_mul]
  unfold wX6_countSquares
  rw [ec]
  intro x4 e4
  have e4' : x4 = nI (w * h * 9) := by rw [e4]; exact pk_mul (w * h) 9
  rw [e4']
  let F : Nat → Mem → Prop := fun n N => (∀ c, c ≠ 32 → c ≠ 33 → c ≠ 34 → c ≠ 35 → c ≠ 36 → N c = M c) ∧ C2 N w h D L R ∧ C3 N w h D P Qr L R ∧ ∀ x y, x < w → y < h → ∀ d, d ≤ D → N 36 (9 * (y * w + x) + d) = sI (fun way => rn w h D P Qr L R way (9 * (y * w + x) + d)) n
  refine forN (fun n z N => wX9_addAll_L20 _ Q n (nI (w * h * 9)) z N) F 8 ?_ ?_ 0 M5 (by omega) ?_
  · intro n N hF
    rw [wX9_addAll_L20_s]
    refine pk_le 8 8 (fun _ N2 e2 => ?_) (fun q => absurd q (by omega))
    obtain ⟨f1, f2, f3, f4⟩ := hF
    refine g N2 (fun c c1 c2 c3 c4 c5 => by rw [e2, up_n _ _ c1, f1 c c1 c2 c3 c4 c5]) ?_ ?_ ?_
    · unfold C2; rw [e2, up_s, up_n _ _ (by decide), pk_un (by decide)]; exact f2
    · unfold C3; rw [e2, up_s, up_n _ _ (by decide), pk_un (by decide)]; exact f3
    · rw [e2, up_n _ _ (by decide)]; exact f4
  · intro n way N hway hF ih
    rw [wX9_addAll_L20_s]
    refine pk_le 8 way (fun q => absurd q (by omega)) (fun _ => ?_)
    obtain ⟨f1, f2, f3, f4⟩ := hF
    have ek : ∀ c, c = 1 ∨ c = 17 ∨ c = 27 ∨ c = 22 ∨ c = 26 → N c = M c := fun c hc => f1 c (by omega) (by omega) (by omega) (by omega) (by omega)
    have dN : Dim N w h := by unfold Dim; rw [ek 1 (by omega)]; exact hd
    have hcN : CostOK w h L R (N 27) (N 22) (N 26) := by rw [ek 27 (by omega), ek 22 (by omega), ek 26 (by omega)]; exact hc
    refine goAlong_w dN (hr.of (ek 17 (by omega))) hcN f2 f3 hway (fun N2 k1 k2 k3 k4 k5 => ?_)
    refine forN (fun n z N => wX9_addAll_L39 _ Q n (nI (w * h * 9)) (nI way) z N) (fun j N3 => (∀ c, c ≠ 36 → N3 c = N2 c) ∧ (∀ i, i < j → N3 36 i = N2 36 i + N2 34 i) ∧ ∀ i, j ≤ i → N3 36 i = N2 36 i) (w * h * 9) ?_ ?_ 0 N2 (by omega) ⟨fun _ _ => rfl, fun i q => absurd q (by omega), fun _ _ => rfl⟩
    · intro n N3 hI
      obtain ⟨i1, i2, i3⟩ := hI
      rw [wX9_addAll_L39_s]
      refine pk_le (w * h * 9) (w * h * 9) (fun _ x2 ex2 => ?_) (fun q => absurd q (by omega))
      rw [ex2, nI_1]
      refine ih N3 ⟨fun c c1 c2 c3 c4 c5 => by rw [i1 c c5, k1 c c1 c2 c3 c4, f1 c c1 c2 c3 c4 c5], ?_, ?_, fun x y hx hy d hd => ?_⟩
      · unfold C2; rw [i1 32 (by decide), i1 33 (by decide)]; exact k3
      · unfold C3; rw [i1 32 (by decide), i1 34 (by decide)]; exact Or.inr ⟨way, hway, k4, k5⟩
      · have b := pl_lt hx hy
        have hD : D ≤ 8 := hr.1.1
        rw [i2 _ (by omega), k5 x y hx hy d hd, k1 36 (by decide) (by decide) (by decide) (by decide), f4 x y hx hy d hd]
        rfl
    · intro n j N3 hj hI ih2
      obtain ⟨i1, i2, i3⟩ := hI
      rw [wX9_addAll_L39_s]
      refine pk_le (w * h * 9) j (fun q => absurd q (by omega)) (fun _ => ?_)
      rw [nI_clamp (by omega)]
      refine ⟨vp_in_nI (by omega) (by omega), vp_in_nI (by omega) (by omega), vp_in_nI (by omega) (by omega), fun N4 e4 x2 ex2 => ?_⟩
      rw [ex2, nI_1]
      refine ih2 N4 ⟨fun c hc => by rw [e4, up_n _ _ hc, i1 c hc], fun i hi => ?_, fun i hi => ?_⟩
      · rw [e4, up_s]
        by_cases z : i = j
        · rw [z, pk_us, i3 j (by omega), i1 34 (by decide)]
        · rw [pk_un z]; exact i2 i (by omega)
      · rw [e4, up_s, pk_un (by omega)]; exact i3 i (by omega)
  · refine ⟨fun c c1 c2 c3 c4 c5 => by rw [e5, up_n _ _ c5], ?_, ?_, fun x y hx hy d hd => ?_⟩
    · unfold C2; rw [e5, up_n _ _ (by decide), up_n _ _ (by decide)]; exact h2
    · unfold C3; rw [e5, up_n _ _ (by decide), up_n _ _ (by decide)]; exact h3
    · have b := pl_lt hx hy
      have hD : D ≤ 8 := hr.1.1
      rw [e5, up_s, if_pos (by omega)]
      rfl
def C1 (M : Mem) (w h : Nat) (L R : Nat → Int32) : Prop := M 18 3 = 0 ∨ CostOK w h L R (M 27) (M 22) (M 26)
def C4 (M : Mem) (w h D P Q : Nat) (L R : Nat → Int32) : Prop := M 32 5 = 0 ∨ At9 w h D (M 36) (tot w h D P Q L R)
/-- cells of the costs -/
def cC (c : Nat) : Prop := c = 18 ∨ c = 20 ∨ c = 21 ∨ c = 22 ∨ c = 24 ∨ c = 25 ∨ c = 26 ∨ c = 27
def cS (c : Nat) : Prop := cC c ∨ c = 32 ∨ c = 33 ∨ c = 34 ∨ c = 35 ∨ c = 36
theorem refreshCosts_w {M : Mem} {w h : Nat} {L R : Nat → Int32} (hx : VX M w h L R) (h1 : C1 M w h L R) {Q : Mem → Prop} (g : ∀ N : Mem, (∀ c, ¬ cC c → N c = M c) → CostOK w h L R (N 27) (N 22) (N 26) → Q N) : wX10_refreshCosts M Q := by
  refine ⟨fun q => g M (fun _ _ => rfl) (h1.elim (fun z => absurd z q) id), fun q => ?_⟩
  refine measureAll_w hx (fun N f1 f2 f3 => g N (fun c hc => ?_) f3)
  unfold cC at hc
  exact f1 c (by omega) (by omega) (by omega) (by omega) (by omega) (by omega) (by omega) (by omega)
theorem refreshSums_w {M : Mem} {w h D H P Qr T : Nat} {L R : Nat → Int32} (hx : VX M w h L R) (hr : RX M D H P Qr T) (h1 : C1 M w h L R) (h2 : C2 M w h D L R) (h3 : C3 M w h D P Qr L R) (h4 : C4 M w h D P Qr L R) {Q : Mem → Prop} (g : ∀ N : Mem, (∀ c, ¬ cS c → N c = M c) → CostOK w h L R (N 27) (N 22) (N 26) → C2 N w h D L R → C3 N w h D P Qr L R → At9 w h D (N 36) (tot w h D P Qr L R) → Q N) : wX10_refreshSums M Q := by
  refine refreshCosts_w hx h1 (fun N f1 f2 => ?_)
  have e : ∀ c, (c = 1 ∨ c = 17 ∨ c = 32 ∨ c = 33 ∨ c = 34 ∨ c = 36) → N c = M c := fun c hc => f1 c (by unfold cC; omega)
  have g2 : C2 N w h D L R := by unfold C2; rw [e 32 (by omega), e 33 (by omega)]; exact h2
  have g3 : C3 N w h D P Qr L R := by unfold C3; rw [e 32 (by omega), e 34 (by omega)]; exact h3
  refine ⟨fun q => ?_, fun q => ?_⟩
  · refine g N (fun c hc => f1 c (fun z => hc (Or.inl z))) f2 g2 g3 ?_
    rw [e 36 (by omega)]
    rw [e 32 (by omega)] at q
    exact h4.elim (fun z => absurd z q) id
  · have dN : Dim N w h := by unfold Dim; rw [e 1 (by omega)]; exact hx.1
    refine addAll_w dN (hr.of (e 17 (by omega))) f2 g2 g3 (fun N2 k1 k2 k3 k4 => g N2 (fun c hc => ?_) ?_ k2 k3 k4)
    · unfold cS at hc
      rw [k1 c (by omega) (by omega) (by omega) (by omega) (by omega), f1 c (fun z => hc (Or.inl z))]
    · rw [k1 27 (by decide) (by decide) (by decide) (by decide) (by decide), k1 22 (by decide) (by decide) (by decide) (by decide) (by decide), k1 26 (by decide) (by decide) (by decide) (by decide) (by decide)]
      exact f2
