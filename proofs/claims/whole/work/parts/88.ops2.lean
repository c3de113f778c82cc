theorem Base.pic {Mx Mm Nx Nm : Mem} {w h : Nat} (hB : Base Mx Mm w h) (ex : ∀ c, c ≠ 3 → c ≠ 4 → c ≠ 6 → c ≠ 7 → c ≠ 8 → ¬ xc c → Nx c = Mx c) (em0 : ∀ k, k ≠ 15 → k ≠ 24 → k ≠ 25 → Nm 0 k = Mm 0 k) (em : ∀ c, 5 ≤ c → c ≤ 10 → Nm c = Mm c) (hP : PicS Nx Nm) : Base Nx Nm w h := by
  have e : ∀ c, (c = 0 ∨ c = 1 ∨ c = 9 ∨ c = 11 ∨ c = 12 ∨ c = 14 ∨ c = 15 ∨ c = 16 ∨ c = 17 ∨ c = 46) → Nx c = Mx c := fun c hc => ex c (by omega) (by omega) (by omega) (by omega) (by omega) (nxc (by omega))
  obtain ⟨h1, h2, h3, h4, h5, h6⟩ := hB
  refine ⟨?_, ?_, hP, ?_, ?_, ?_⟩
  · unfold Dim; rw [e 1 (by omega)]; exact h1
  · unfold DimM; rw [em0 0 (by decide) (by decide) (by decide), em0 1 (by decide) (by decide) (by decide)]; exact h2
  · unfold Rul; rw [e 17 (by omega), em 5 (by omega) (by omega)]; exact h4
  · unfold Oln; rw [e 46 (by omega), em 6 (by omega) (by omega)]; exact h5
  · unfold Kep; rw [e 0 (by omega), e 9 (by omega), e 11 (by omega), e 12 (by omega), e 14 (by omega), e 15 (by omega), e 16 (by omega), em 7 (by omega) (by omega), em 8 (by omega) (by omega), em 9 (by omega) (by omega), em 10 (by omega) (by omega), em0 8 (by decide) (by decide) (by decide), em0 9 (by decide) (by decide) (by decide), em0 10 (by decide) (by decide) (by decide)]; exact h6
theorem nhot {c : Nat} (h : ¬ xc c) : ¬ hot c := fun q => h (hot_xc q)
theorem bit_ok {f : Nat → Int32} {n p : Nat} {b : Int32} (hb : b = 0 ∨ b = 1) (h : ∀ k, k < n → f k = 0 ∨ f k = 1) : ∀ k, k < n → upd f p b k = 0 ∨ upd f p b k = 1 := by
  intro k hk
  by_cases q : k = p
  · rw [q, pk_us]; exact hb
  · rw [pk_un q]; exact h k hk
theorem pic_sh0 {s1 m1 s2 m2 t sh go ro tr : Nat → Int32} (hP : Pic s1 m1 s2 m2 t sh go ro tr) {p v : Nat} (hp : p < 200) (hv : v < 256) : Pic (upd s1 p (nI v)) m1 s2 m2 t (upd sh p (nI v)) (upd go p 0) ro tr := by
  obtain ⟨h1, h2, h3, h4, h5, h6⟩ := hP
  refine ⟨fun k hk => ?_, fun k hk => ?_, fun k hk => ?_, h4, h5, h6⟩
  · by_cases q : k = p
    · rw [q, pk_us, pk_us]; exact ⟨Or.inl rfl, v, hv, rfl⟩
    · rw [pk_un q, pk_un q]; exact h1 k hk
  · by_cases q : k = p
    · rw [q, pk_us, pk_us, pk_us, if_pos rfl]
    · rw [pk_un q, pk_un q, pk_un q]; exact h2 k hk
  · rw [pk_un (show 200 + k ≠ p by omega), pk_un (show 200 + k ≠ p by omega)]; exact h3 k hk
theorem pic_sh1 {s1 m1 s2 m2 t sh go ro tr : Nat → Int32} (hP : Pic s1 m1 s2 m2 t sh go ro tr) {p v : Nat} (hp : p < 200) (hv : v < 256) : Pic s1 m1 (upd s2 p (nI v)) m2 t (upd sh (200 + p) (nI v)) (upd go (200 + p) 0) ro tr := by
  obtain ⟨h1, h2, h3, h4, h5, h6⟩ := hP
  refine ⟨fun k hk => ?_, fun k hk => ?_, fun k hk => ?_, h4, h5, h6⟩
  · by_cases q : k = 200 + p
    · rw [q, pk_us, pk_us]; exact ⟨Or.inl rfl, v, hv, rfl⟩
    · rw [pk_un q, pk_un q]; exact h1 k hk
  · rw [pk_un (show k ≠ 200 + p by omega), pk_un (show k ≠ 200 + p by omega)]; exact h2 k hk
  · by_cases q : k = p
    · rw [q, pk_us, pk_us, pk_us, if_pos rfl]
    · rw [pk_un q, pk_un (show 200 + k ≠ 200 + p by omega), pk_un (show 200 + k ≠ 200 + p by omega)]; exact h3 k hk
theorem pic_lo0 {s1 m1 s2 m2 t sh go ro tr : Nat → Int32} (hP : Pic s1 m1 s2 m2 t sh go ro tr) {p : Nat} (hp : p < 200) : Pic (upd s1 p (-5)) m1 s2 m2 t sh (upd go p 1) ro tr := by
  obtain ⟨h1, h2, h3, h4, h5, h6⟩ := hP
  refine ⟨fun k hk => ⟨bit_ok (Or.inr rfl) (fun k hk => (h1 k hk).1) k hk, (h1 k hk).2⟩, fun k hk => ?_, fun k hk => ?_, h4, h5, h6⟩
  · by_cases q : k = p
    · rw [q, pk_us, pk_us, if_neg (by decide)]
    · rw [pk_un q, pk_un q]; exact h2 k hk
  · rw [pk_un (show 200 + k ≠ p by omega)]; exact h3 k hk
theorem pic_lo1 {s1 m1 s2 m2 t sh go ro tr : Nat → Int32} (hP : Pic s1 m1 s2 m2 t sh go ro tr) {p : Nat} (hp : p < 200) : Pic s1 m1 (upd s2 p (-5)) m2 t sh (upd go (200 + p) 1) ro tr := by
  obtain ⟨h1, h2, h3, h4, h5, h6⟩ := hP
  refine ⟨fun k hk => ⟨bit_ok (Or.inr rfl) (fun k hk => (h1 k hk).1) k hk, (h1 k hk).2⟩, fun k hk => ?_, fun k hk => ?_, h4, h5, h6⟩
  · rw [pk_un (show k ≠ 200 + p by omega)]; exact h2 k hk
  · by_cases q : k = p
    · rw [q, pk_us, pk_us, if_neg (by decide)]
    · rw [pk_un q, pk_un (show 200 + k ≠ 200 + p by omega)]; exact h3 k hk
theorem pic_ro0 {s1 m1 s2 m2 t sh go ro tr : Nat → Int32} (hP : Pic s1 m1 s2 m2 t sh go ro tr) {y : Nat} {b : Int32} (hy : y < 10) (hb : b = 0 ∨ b = 1) : Pic s1 (upd m1 y b) s2 m2 t sh go (upd ro y b) tr := by
  obtain ⟨h1, h2, h3, h4, h5, h6⟩ := hP
  refine ⟨h1, h2, h3, fun k hk => ⟨bit_ok hb (fun k hk => (h4 k hk).1) k hk, ?_⟩, fun k hk => ⟨(h5 k hk).1, ?_⟩, h6⟩
  · by_cases q : k = y
    · rw [q, pk_us, pk_us]
    · rw [pk_un q, pk_un q]; exact (h4 k hk).2
  · rw [pk_un (show 10 + k ≠ y by omega)]; exact (h5 k hk).2
theorem pic_ro1 {s1 m1 s2 m2 t sh go ro tr : Nat → Int32} (hP : Pic s1 m1 s2 m2 t sh go ro tr) {y : Nat} {b : Int32} (hy : y < 10) (hb : b = 0 ∨ b = 1) : Pic s1 m1 s2 (upd m2 y b) t sh go (upd ro (10 + y) b) tr := by
  obtain ⟨h1, h2, h3, h4, h5, h6⟩ := hP
  refine ⟨h1, h2, h3, fun k hk => ⟨(h4 k hk).1, ?_⟩, fun k hk => ⟨bit_ok hb (fun k hk => (h5 k hk).1) k hk, ?_⟩, h6⟩
  · rw [pk_un (show k ≠ 10 + y by omega)]; exact (h4 k hk).2
  · by_cases q : k = y
    · rw [q, pk_us, pk_us]
    · rw [pk_un q, pk_un (show 10 + k ≠ 10 + y by omega)]; exact (h5 k hk).2
theorem place_w {M : Mem} {w h x y : Nat} (hd : Dim M w h) : (nI y * M 1 0) + nI x = nI (y * w + x) := by rw [hd.2.2.2.2.1, pk_mul, nI_add]
theorem atM_0 {M : Mem} {w h x y : Nat} (hd : DimM M w h) : ((200 * (0 : Int32)) + (M 0 0 * nI y)) + nI x = nI (y * w + x) := by rw [hd.2.2.2.2.1]; exact at_0 w x y
theorem atM_1 {M : Mem} {w h x y : Nat} (hd : DimM M w h) : ((200 * (1 : Int32)) + (M 0 0 * nI y)) + nI x = nI (200 + (y * w + x)) := by rw [hd.2.2.2.2.1]; exact at_1 w x y
theorem pl200 {w h x y : Nat} (hw : w ≤ 20) (hh : h ≤ 10) (hx : x < w) (hy : y < h) : y * w + x < 200 := Nat.lt_of_lt_of_le (pl_lt hx hy) (wh_le hw hh)
theorem placeOf_w {M : Mem} {w h x y : Nat} (hd : Dim M w h) {Q : Int32 → Mem → Prop} (g : Q (nI (y * w + x)) M) : wX6_placeOf M (nI x) (nI y) Q := by
  unfold wX6_placeOf
  rw [place_w hd]
  exact g
theorem at0_w {M : Mem} {w h x y : Nat} (hd : DimM M w h) {Q : Int32 → Mem → Prop} (g : Q (nI (y * w + x)) M) : wX11_at M 0 (nI x) (nI y) Q := by
  unfold wX11_at
  rw [atM_0 hd]
  exact g
theorem at1_w {M : Mem} {w h x y : Nat} (hd : DimM M w h) {Q : Int32 → Mem → Prop} (g : Q (nI (200 + (y * w + x))) M) : wX11_at M 1 (nI x) (nI y) Q := by
  unfold wX11_at
  rw [atM_1 hd]
  exact g
theorem DimM.of {M N : Mem} {w h : Nat} (hd : DimM M w h) (e : N 0 = M 0) : DimM N w h := by unfold DimM; rw [e]; exact hd
set_option maxHeartbeats 1000000 in
theorem o_shade {Mx Mm : Mem} {w h : Nat} (hB : Base Mx Mm w h) (a b c v : Int32) {J : Mem → Mem → Prop} (hJ : JC J Mx Mm) : wX10_shade Mx a b c v (fun r Nx => wX11_shade Mm a b c v (fun r2 Nm => r = r2 ∧ J Nx Nm)) := by
  have hd := hB.1
  have hm := hB.2.1
  have hP := hB.2.2.1
  have hh : h ≤ 10 := hd.2.2.2.1
  have hw : w ≤ 20 := hd.2.1
  obtain ⟨u, hu, eu⟩ := pk_andE v (m := 255) 8 (by decide)
  refine refusal_w hd (fun q => ⟨fun q2 => absurd q2 (by decide), fun _ => ?_⟩) (fun y hy hp ec q => ⟨fun q2 => absurd q2 (by decide), fun _ => ?_⟩) (fun y hy hp ec q qb => ⟨fun q2 => absurd q2 (by decide), fun _ => ?_⟩) (fun x y hx hy hp eb ec q => ⟨fun _ => ?_, fun q2 => absurd (by decide) q2⟩)
  · refine refuse_w hm (fun _ => ⟨fun q => absurd q (by decide), fun _ => ⟨rfl, hJ.1⟩⟩) (fun y hy hp ec _ => absurd ⟨hp, y, hy, ec⟩ q) (fun y hy hp ec _ _ => absurd ⟨hp, y, hy, ec⟩ q) (fun x y hx hy hp _ ec _ => absurd ⟨hp, y, hy, ec⟩ q)
  · refine refuse_w hm (fun q2 => absurd ⟨hp, y, hy, ec⟩ q2) (fun _ _ _ _ _ => ⟨fun q => absurd q (by decide), fun _ => ⟨rfl, hJ.1⟩⟩) (fun y2 hy2 _ ec2 q2 _ => ?_) (fun x y2 hx hy2 _ _ ec2 q2 => ?_)
    · rw [mis_eq hP a (by omega)] at q2
      have : y2 = y := (nI_eq (by omega) (by omega)).mp (ec2.symm.trans ec)
      rw [this] at q2
      exact absurd q2 q
    · rw [mis_eq hP a (by omega)] at q2
      have : y2 = y := (nI_eq (by omega) (by omega)).mp (ec2.symm.trans ec)
      rw [this] at q2
      exact absurd q2 q
  · refine refuse_w hm (fun q2 => absurd ⟨hp, y, hy, ec⟩ q2) (fun y2 hy2 _ ec2 q2 => ?_) (fun _ _ _ _ _ _ => ⟨fun q => absurd q (by decide), fun _ => ⟨rfl, hJ.1⟩⟩) (fun x y2 hx hy2 _ eb _ _ => absurd ⟨x, hx, eb⟩ qb)
    rw [mis_eq hP a (by omega)] at q2
    have : y2 = y := (nI_eq (by omega) (by omega)).mp (ec2.symm.trans ec)
    rw [this] at q2
    exact absurd q q2
  · have hpl := pl200 hw hh hx hy
    have mod : ∀ (Nx : Mem), (∀ c, ¬ hot c → c ≠ 3 → c ≠ 6 → Nx c = Mx c) → Cold Nx → ((a = 0 ∧ Nx 3 = upd (Mx 3) (y * w + x) (nI u) ∧ Nx 6 = Mx 6) ∨ (a = 1 ∧ Nx 6 = upd (Mx 6) (y * w + x) (nI u) ∧ Nx 3 = Mx 3)) → wX11_shade Mm a b c v (fun r2 Nm => 1 = r2 ∧ J Nx Nm) := by
      intro Nx n1 n2 n3
      refine refuse_w hm (fun q2 => absurd ⟨hp, y, hy, ec⟩ q2) (fun y2 hy2 _ ec2 q2 => ?_) (fun _ _ _ _ _ qb => absurd ⟨x, hx, eb⟩ qb) (fun _ _ _ _ _ _ _ _ => ⟨fun _ => ?_, fun q => absurd rfl q⟩)
      · rw [mis_eq hP a (by omega)] at q2
        have : y2 = y := (nI_eq (by omega) (by omega)).mp (ec2.symm.trans ec)
        rw [this] at q2
        exact absurd q q2
      · have ex : ∀ c, c ≠ 3 → c ≠ 4 → c ≠ 6 → c ≠ 7 → c ≠ 8 → ¬ xc c → Nx c = Mx c := fun c c3 _ c6 _ _ cx => n1 c (nhot cx) c3 c6
        have e4 : Nx 4 = Mx 4 := n1 4 (nhot (nxc (by omega))) (by decide) (by decide)
        have e7 : Nx 7 = Mx 7 := n1 7 (nhot (nxc (by omega))) (by decide) (by decide)
        have e8 : Nx 8 = Mx 8 := n1 8 (nhot (nxc (by omega))) (by decide) (by decide)
        rcases n3 with ⟨rfl, n3, n6⟩ | ⟨rfl, n6, n3⟩
        · rw [eb, ec]
          refine at0_w hm ⟨vp_in_nI (by omega) (by omega), fun M34 e34 => at0_w (hm.of (by rw [e34, up_n _ _ (by decide)])) ⟨vp_in_nI (by omega) (by omega), fun M47 e47 M50 e50 => ⟨rfl, ?_⟩⟩⟩
          rw [nI_clamp (by omega), eu] at e34
          rw [nI_clamp (by omega)] at e47
          subst e50 e47 e34
          refine hJ.2.2 Nx _ w h (hB.pic ex (fun k k1 _ _ => ?_) (fun c c1 c2 => ?_) ?_) n2 ?_
          · rw [up_s, pk_un k1, up_n _ _ (by decide), up_n _ _ (by decide)]
          · rw [up_n _ _ (by omega), up_n _ _ (by omega), up_n _ _ (by omega)]
          · unfold PicS
            rw [n3, n6, e4, e7, e8]
            exact pic_sh0 hP hpl hu
          · rw [up_s, pk_us]
        · rw [eb, ec]
          refine at1_w hm ⟨vp_in_nI (by omega) (by omega), fun M34 e34 => at1_w (hm.of (by rw [e34, up_n _ _ (by decide)])) ⟨vp_in_nI (by omega) (by omega), fun M47 e47 M50 e50 => ⟨rfl, ?_⟩⟩⟩
          rw [nI_clamp (by omega), eu] at e34
          rw [nI_clamp (by omega)] at e47
          subst e50 e47 e34
          refine hJ.2.2 Nx _ w h (hB.pic ex (fun k k1 _ _ => ?_) (fun c c1 c2 => ?_) ?_) n2 ?_
          · rw [up_s, pk_un k1, up_n _ _ (by decide), up_n _ _ (by decide)]
          · rw [up_n _ _ (by omega), up_n _ _ (by omega), up_n _ _ (by omega)]
          · unfold PicS
            rw [n3, n6, e4, e7, e8]
            exact pic_sh1 hP hpl hu
          · rw [up_s, pk_us]
    rw [eb, ec]
    refine ⟨fun q0 => placeOf_w hd ⟨vp_in_nI hpl (by omega), fun M46 e46 => ?_⟩, fun q0 => placeOf_w hd ⟨vp_in_nI hpl (by omega), fun M46 e46 => ?_⟩⟩
    · rw [nI_clamp (by omega), eu] at e46
      refine forgetAll_w (fun Nx k1 k2 => ?_)
      rw [← eb, ← ec]
      refine mod Nx (fun c ch c3 c6 => by rw [k1 c ch, e46, up_n _ _ c3]) k2 (Or.inl ⟨q0, ?_, ?_⟩)
      · rw [k1 3 (nhot (nxc (by omega))), e46, up_s]
      · rw [k1 6 (nhot (nxc (by omega))), e46, up_n _ _ (by decide)]
    · rw [nI_clamp (by omega), eu] at e46
      refine forgetAll_w (fun Nx k1 k2 => ?_)
      rw [← eb, ← ec]
      refine mod Nx (fun c ch c3 c6 => by rw [k1 c ch, e46, up_n _ _ c6]) k2 (Or.inr ⟨hp.resolve_left q0, ?_, ?_⟩)
      · rw [k1 6 (nhot (nxc (by omega))), e46, up_s]
      · rw [k1 3 (nhot (nxc (by omega))), e46, up_n _ _ (by decide)]
