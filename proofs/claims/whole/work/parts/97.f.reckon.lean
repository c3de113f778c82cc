/-! the reference reckons all -/
def CMs (M : Mem) (w h D P Q T : Nat) (L R : Nat → Int32) : Prop := MCost w h D L R (M 11) ∧ (∀ way, way < 8 → At9 w h D (fun j => M 12 (1800 * way + j)) (rn w h D P Q L R way)) ∧ At9 w h D (M 13) (tot w h D P Q L R) ∧ DepM w h D P Q L R (M 14) (M 15) ∧ AncOK w h T L (-1) (M 16)
def CM (M : Mem) (w h D P Q T : Nat) (L R : Nat → Int32) : Prop := M 0 15 = 0 ∨ CMs M w h D P Q T L R
theorem reckon_w {M : Mem} {w h D H P Qr T : Nat} {L R : Nat → Int32} (hm : VM M w h L R) (hr : RM M D H P Qr T) (hS : ShOK w h L) (hC : CM M w h D P Qr T L R) {Q : Mem → Prop} (g : ∀ N : Mem, SameM M N → CMs N w h D P Qr T L R → Q N) : wX11_reckon M Q := by
  have hw : w ≤ 20 := hm.1.2.1
  have hh : h ≤ 10 := hm.1.2.2.2.1
  have hwh := wh_le hw hh
  have w1 := hm.1.1
  have hD : D ≤ 8 := hr.1.1
  refine ⟨fun _ M1 e1 => ?_, fun q => g M (SameM.rf M) (hC.elim (fun z => absurd z q) id)⟩
  have f01 : ∀ k, k ≠ 15 → M1 0 k = M 0 k := fun k hk => by rw [e1, up_s, pk_un hk]
  have f1 : ∀ c, c ≠ 0 → M1 c = M c := fun c hc => by rw [e1, up_n _ _ hc]
  have m1 : VM M1 w h L R := hm.of (fun k hk => f01 k (by omega)) (f1 1 (by decide)) (f1 2 (by decide)) (f1 3 (by decide))
  have r1 : RM M1 D H P Qr T := hr.of (f1 5 (by decide))
  have vm : ∀ {N : Mem}, (∀ c, c ≤ 10 → N c = M1 c) → VM N w h L R := fun f => m1.of (fun k _ => by rw [f 0 (by omega)]) (f 1 (by omega)) (f 2 (by omega)) (f 3 (by omega))
  have rm : ∀ {N : Mem}, (∀ c, c ≤ 10 → N c = M1 c) → RM N D H P Qr T := fun f => r1.of (f 5 (by omega))
  have ewh : ∀ {N : Mem}, (∀ c, c ≤ 10 → N c = M1 c) → N 0 0 * N 0 1 = nI (w * h) := fun f => by rw [(vm f).1.2.2.2.2.1, (vm f).1.2.2.2.2.2, pk_mul]
  -- costs
  let F : Nat → Nat → Mem → Prop := fun k e N => (∀ c, c ≤ 10 → N c = M1 c) ∧ ∀ x y, x < w → y < h → ∀ d, d ≤ D → (y * w + x < k ∨ y * w + x = k ∧ d < e) → N 11 (9 * (y * w + x) + d) = costM w h L R x y d ∧ N 13 (9 * (y * w + x) + d) = 0
  refine forN (fun n z N => wX11_reckon_L15 _ Q n z N) (fun k N => F k 0 N) (w * h) ?_ ?_ 0 M1 (by omega) ⟨fun _ _ => rfl, fun x y _ _ d _ q => absurd q (by omega)⟩
  · intro n N hF
    rw [wX11_reckon_L15_s, ewh hF.1]
    refine pk_le (w * h) (w * h) (fun _ => ?_) (fun q => absurd q (by omega))
    have hc : MCost w h D L R (N 11) := fun x y hx hy d hd => (hF.2 x y hx hy d hd (Or.inl (pl_lt hx hy))).1
    have hz : ∀ x y, x < w → y < h → ∀ d, d ≤ D → N 13 (9 * (y * w + x) + d) = 0 := fun x y hx hy d hd => (hF.2 x y hx hy d hd (Or.inl (pl_lt hx hy))).2
    -- runs
    let G : Nat → Mem → Prop := fun wy N2 => (∀ c, c ≤ 11 → N2 c = N c) ∧ (∀ way, way < wy → At9 w h D (fun j => N2 12 (1800 * way + j)) (rn w h D P Qr L R way)) ∧ ∀ x y, x < w → y < h → ∀ d, d ≤ D → N2 13 (9 * (y * w + x) + d) = sI (fun way => rn w h D P Qr L R way (9 * (y * w + x) + d)) wy
    refine forN (fun n z N => wX11_reckon_L94 _ Q n z N) G 8 ?_ ?_ 0 N (by omega) ⟨fun _ _ => rfl, fun way q => absurd q (by omega), fun x y hx hy d hd => hz x y hx hy d hd⟩
    · intro n N2 hG
      rw [wX11_reckon_L94_s]
      refine pk_le 8 8 (fun _ => ?_) (fun q => absurd q (by omega))
      have ht : At9 w h D (N2 13) (tot w h D P Qr L R) := hG.2.2
      have k2 : ∀ c, c ≤ 10 → N2 c = M1 c := fun c hc => (hG.1 c (by omega)).trans (hF.1 c hc)
      -- depths
      let I : Nat → Mem → Prop := fun k N3 => (∀ c, c ≤ 13 → N3 c = N2 c) ∧ ∀ x y, x < w → y < h → y * w + x < k → N3 14 (y * w + x) = nI (dL w h D P Qr L R x y) ∧ N3 15 (y * w + x) = nI (dR w h D P Qr L R x y)
      refine forN (fun n z N => wX11_reckon_L113 _ Q n z N) I (w * h) ?_ ?_ 0 N2 (by omega) ⟨fun _ _ => rfl, fun x y _ _ q => absurd q (by omega)⟩
      · intro n N3 hI
        have k3 : ∀ c, c ≤ 10 → N3 c = M1 c := fun c hc => (hI.1 c (by omega)).trans (k2 c hc)
        rw [wX11_reckon_L113_s, ewh k3]
        refine pk_le (w * h) (w * h) (fun _ => ?_) (fun q => absurd q (by omega))
        refine layAnchors_w (vm k3) (rm k3) hS (fun N4 f4 a4 => ?_)
        have k4 : ∀ c, c ≤ 10 → N4 c = M1 c := fun c hc => (f4 c (by omega)).trans (k3 c hc)
        refine g N4 ⟨fun k q1 q2 q3 => by rw [k4 0 (by omega)]; exact f01 k q1, fun c c1 c2 => (k4 c c2).trans (f1 c (by omega))⟩ ⟨?_, ?_, ?_, ?_, a4⟩
        · rw [f4 11 (by decide), hI.1 11 (by decide), hG.1 11 (by decide)]; exact hc
        · rw [f4 12 (by decide), hI.1 12 (by decide)]; exact hG.2.1
        · rw [f4 13 (by decide), hI.1 13 (by decide)]; exact ht
        · rw [f4 14 (by decide), f4 15 (by decide)]
          exact fun x y hx hy => hI.2 x y hx hy (pl_lt hx hy)
      · intro n k N3 hk hI ih
        have k3 : ∀ c, c ≤ 10 → N3 c = M1 c := fun c hc => (hI.1 c (by omega)).trans (k2 c hc)
        obtain ⟨d1, d2, d3⟩ := kdm w1 hk
        rw [wX11_reckon_L113_s, ewh k3]
        refine pk_le (w * h) k (fun q => absurd q (by omega)) (fun _ => ?_)
        rw [(vm k3).1.2.2.2.2.1]
        refine ⟨nI_ne0 (by omega) (by omega), fun v ev => ⟨nI_ne0 (by omega) (by omega), ?_⟩⟩
        have ev2 : v = nI (k % w) := ev.trans (pk_rem (by omega) (by omega) (by omega))
        rw [ev2, pk_div (by omega) (by omega) (by omega)]
        refine layDepths_w (vm k3) (rm k3) (by rw [hI.1 13 (by decide)]; exact ht) d1 d2 (fun N4 f4 s4 s5 x ex => ?_)
        rw [ex, nI_1]
        refine ih N4 ⟨fun c hc => (f4 c (by omega) (by omega)).trans (hI.1 c hc), fun u v hu hv q => ?_⟩
        rw [s4, s5]
        by_cases z : v * w + u = k / w * w + k % w
        · obtain ⟨z3, z4⟩ := pl_inj hu d1 z
          rw [z, pk_us, pk_us, z3, z4]; exact ⟨rfl, rfl⟩
        · rw [pk_un z, pk_un z]; exact hI.2 u v hu hv (by omega)
    · intro n wy N2 hwy hG ih
      have k2 : ∀ c, c ≤ 10 → N2 c = M1 c := fun c hc => (hG.1 c (by omega)).trans (hF.1 c hc)
      rw [wX11_reckon_L94_s]
      refine pk_le 8 wy (fun q => absurd q (by omega)) (fun _ => ?_)
      refine layRuns_w (vm k2) (rm k2) (by rw [hG.1 11 (by decide)]; exact hc) hwy (fun N3 hI x ex => ?_)
      rw [ex, nI_1]
      refine ih N3 ⟨fun c hc => (hI.1 c (by omega) (by omega)).trans (hG.1 c hc), fun way hway x y hx hy d hd => ?_, fun x y hx hy d hd => ?_⟩
      · obtain ⟨i, hi, ei⟩ := kO_inv (way := wy) (pl_lt hx hy)
        have b := pl_lt hx hy
        by_cases z : way = wy
        · have := (hI.2.2.1 i hi d hd).1
          rw [ei] at this
          rw [z]; exact this
        · show N3 12 (1800 * way + (9 * (y * w + x) + d)) = _
          rw [hI.2.1 _ (by omega)]
          exact hG.2.1 way (by omega) x y hx hy d hd
      · obtain ⟨i, hi, ei⟩ := kO_inv (way := wy) (pl_lt hx hy)
        have := (hI.2.2.1 i hi d hd).2
        rw [ei] at this
        rw [this, hG.2.2 x y hx hy d hd]
        rfl
  · intro n k N hk hF ih
    obtain ⟨d1, d2, d3⟩ := kdm w1 hk
    rw [wX11_reckon_L15_s, ewh hF.1]
    refine pk_le (w * h) k (fun q => absurd q (by omega)) (fun _ => ?_)
    refine forN (fun n z N => wX11_reckon_L30 _ Q n (nI k) z N) (fun e N => F k e N) (D + 1) ?_ ?_ 0 N (by omega) hF
    · intro n N2 hF2
      rw [wX11_reckon_L30_s, cl0, (rm hF2.1).2.1]
      refine ⟨pk_in 0 5 (by omega), ?_⟩
      refine pk_lt D (D + 1) (fun _ x ex => ?_) (fun q => absurd q (by omega))
      rw [ex, nI_1]
      refine ih N2 ⟨hF2.1, fun u v hu hv d hd q => hF2.2 u v hu hv d hd ?_⟩
      rcases q with q | q
      · rcases (show v * w + u < k ∨ v * w + u = k by omega) with q2 | q2
        · exact Or.inl q2
        · exact Or.inr ⟨q2, by omega⟩
      · exact absurd q.2 (by omega)
    · intro n d N2 hd hF2 ih2
      rw [wX11_reckon_L30_s, cl0, (rm hF2.1).2.1]
      refine ⟨pk_in 0 5 (by omega), ?_⟩
      refine pk_lt D d (fun q => absurd q (by omega)) (fun _ => ?_)
      rw [(vm hF2.1).1.2.2.2.2.1]
      refine ⟨nI_ne0 (by omega) (by omega), fun v ev => ⟨nI_ne0 (by omega) (by omega), ?_⟩⟩
      have ev2 : v = nI (k % w) := ev.trans (pk_rem (by omega) (by omega) (by omega))
      rw [ev2, pk_div (by omega) (by omega) (by omega)]
      refine costAt_w (vm hF2.1) d1 d2 (by omega) ?_
      rw [i9m, nI_clamp (by omega)]
      refine ⟨vp_in_nI (by omega) (by omega), fun N3 e3 => ⟨vp_in_nI (by omega) (by omega), fun N4 e4 x ex => ?_⟩⟩
      rw [ex, nI_1]
      have s11 : N4 11 = upd (N2 11) (9 * k + d) (costM w h L R (k % w) (k / w) d) := by rw [e4, up_n _ _ (by decide), e3, up_s]
      have s13 : N4 13 = upd (N2 13) (9 * k + d) 0 := by rw [e4, up_s, e3, up_n _ _ (by decide)]
      refine ih2 N4 ⟨fun c hc => by rw [e4, up_n _ _ (by omega), e3, up_n _ _ (by omega), hF2.1 c hc], fun u v hu hv d2 hd2 q => ?_⟩
      rw [s11, s13]
      by_cases z : 9 * (v * w + u) + d2 = 9 * k + d
      · have z2 : d2 = d := by omega
        obtain ⟨z3, z4⟩ := pl_inj (y := v) (v := k / w) hu d1 (by omega)
        rw [z, pk_us, pk_us, z2, z3, z4]; exact ⟨rfl, rfl⟩
      · rw [pk_un z, pk_un z]
        refine hF2.2 u v hu hv d2 hd2 ?_
        rcases q with q | q
        · exact Or.inl q
        · exact Or.inr ⟨q.1, by omega⟩
