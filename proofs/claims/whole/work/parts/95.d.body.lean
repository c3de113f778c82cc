theorem hasOutline_w {M : Mem} {a : Int32} {Q : Int32 → Mem → Prop} (h1 : ∀ o : Nat, o < 3 → a = nI o → Q 1 M) (h0 : ¬ Ix a 3 → Q 0 M) : wX0_hasOutline M a Q := by
  have k := lt_nI (x := a) (n := 3) (by omega)
  refine ⟨fun q => h0 (fun z => (k.mp z).1 q), fun q => ⟨fun q2 => h0 (fun z => (k.mp z).2 q2), fun q2 => ?_⟩⟩
  obtain ⟨x, hx, e⟩ := k.mpr ⟨q, q2⟩
  exact h1 x hx e
theorem Oln.rx {Mx Mm : Mem} (h : Oln Mx Mm) : Rows (Mx 46) := fun i hi => (h i hi).2
theorem Oln.rm {Mx Mm : Mem} (h : Oln Mx Mm) : Rows (Mm 6) := fun i hi => by rw [(h i hi).1]; exact (h i hi).2
theorem cb_cong {f g : Nat → Int32} (h : ∀ i, i < 24 → f i = g i) {x y z : Nat} (hy : y < 8) (hz : z < 8) : cb f x y z = cb g x y z := by
  unfold cb bt
  rw [h z (by omega), h (8 + z) (by omega), h (16 + y) (by omega)]
theorem nCb_cong {f g : Nat → Int32} (h : ∀ i, i < 24 → f i = g i) : nCb f = nCb g := sm_cong (fun x _ => sm_cong (fun y hy => sm_cong (fun z hz => by rw [cb_cong h hy hz])))
theorem o_outline {Mx Mm : Mem} {w h : Nat} (hB : Base Mx Mm w h) (a b v : Int32) {J : Mem → Mem → Prop} (hJ0 : J Mx Mm) (hJ : ∀ Nx Nm : Mem, (∀ c, c ≠ 46 → Nx c = Mx c) → (∀ c, c ≠ 6 → Nm c = Mm c) → Base Nx Nm w h → J Nx Nm) : wX10_outline Mx a b v (fun r Nx => wX11_outline Mm a b v (fun r2 Nm => r = r2 ∧ J Nx Nm)) := by
  obtain ⟨u, hu, eu⟩ := pk_andE v (m := 255) 8 (by decide)
  have hO := hB.2.2.2.2.1
  have hM : ¬ (Ix a 3 ∧ Ix b 8) → wX11_outline Mm a b v (fun r2 Nm => -1 = r2 ∧ J Mx Nm) := by
    intro q
    refine in_ix (n := 3) (by omega) (by omega) rfl (fun o ho eo => ⟨fun q => absurd q (by decide), fun _ => ?_⟩) (fun _ => ⟨fun _ => ⟨rfl, hJ0⟩, fun q => absurd rfl q⟩)
    exact in_ix (n := 8) (by omega) (by omega) rfl (fun r hr er => absurd ⟨⟨o, ho, eo⟩, ⟨r, hr, er⟩⟩ q) (fun _ => ⟨fun q => absurd rfl q, fun _ => ⟨rfl, hJ0⟩⟩)
  refine hasOutline_w (fun o ho eo => ⟨fun q => absurd q (by decide), fun _ => ?_⟩) (fun q => ⟨fun _ => hM (fun z => q z.1), fun q => absurd rfl q⟩)
  have k8 := lt_nI (x := b) (n := 8) (by omega)
  refine ⟨fun q => hM (fun z => (k8.mp z.2).1 q), fun q => ⟨fun q2 => ?_, fun q2 => hM (fun z => (k8.mp z.2).2 (Int32.not_lt.mp q2))⟩⟩
  obtain ⟨r, hr, er⟩ := k8.mpr ⟨q, Int32.not_le.mpr q2⟩
  subst eo er
  have e1 : (nI o * 8) + nI r = nI (o * 8 + r) := by
    show nI o * nI 8 + nI r = _
    rw [pk_mul, nI_add]
  have e2 : (8 * nI o) + nI r = nI (o * 8 + r) := by
    show nI 8 * nI o + nI r = _
    rw [pk_mul, nI_add, Nat.mul_comm]
  rw [e1, eu, nI_clamp (by omega)]
  refine ⟨vp_in_nI (by omega) (by omega), fun Nx eN => ?_⟩
  have x46 : Nx 46 = upd (Mx 46) (o * 8 + r) (nI u) := by rw [eN, up_s]
  have hR : Rows (Nx 46) := by
    intro i hi
    rw [x46]
    by_cases q : i = o * 8 + r
    · rw [q, pk_us]; exact ⟨u, hu, rfl⟩
    · rw [pk_un q]; exact (hO i hi).2
  refine countCubes_w hR ?_
  refine in_ix (n := 3) (by omega) (by omega) rfl (fun _ _ _ => ⟨fun q => absurd q (by decide), fun _ => ?_⟩) (fun q => absurd ⟨o, ho, rfl⟩ q)
  refine in_ix (n := 8) (by omega) (by omega) rfl (fun _ _ _ => ⟨fun _ => ?_, fun q => absurd q (by decide)⟩) (fun q => absurd ⟨r, hr, rfl⟩ q)
  rw [e2, eu, nI_clamp (by omega)]
  refine ⟨vp_in_nI (by omega) (by omega), fun Nm eM => ?_⟩
  have m6 : Nm 6 = upd (Mm 6) (o * 8 + r) (nI u) := by rw [eM, up_s]
  have same : ∀ i, i < 24 → Nm 6 i = Nx 46 i := by
    intro i hi
    rw [m6, x46]
    by_cases q : i = o * 8 + r
    · rw [q, pk_us, pk_us]
    · rw [pk_un q, pk_un q]; exact (hO i hi).1
  have hO2 : Oln Nx Nm := fun i hi => ⟨same i hi, hR i hi⟩
  refine cubes_w hO2.rm ⟨by rw [nCb_cong same], ?_⟩
  have fx : ∀ c, c ≠ 46 → Nx c = Mx c := fun c hc => by rw [eN, up_n _ _ hc]
  have fm : ∀ c, c ≠ 6 → Nm c = Mm c := fun c hc => by rw [eM, up_n _ _ hc]
  obtain ⟨h1, h2, h3, h4, h5, h6⟩ := hB
  refine hJ Nx Nm fx fm ⟨?_, ?_, ?_, ?_, hO2, ?_⟩
  · unfold Dim; rw [fx 1 (by decide)]; exact h1
  · unfold DimM; rw [fm 0 (by decide)]; exact h2
  · unfold PicS; rw [fx 3 (by decide), fx 4 (by decide), fx 6 (by decide), fx 7 (by decide), fx 8 (by decide), fm 1 (by decide), fm 2 (by decide), fm 3 (by decide), fm 4 (by decide)]; exact h3
  · unfold Rul; rw [fx 17 (by decide), fm 5 (by decide)]; exact h4
  · unfold Kep; rw [fx 0 (by decide), fx 9 (by decide), fx 11 (by decide), fx 12 (by decide), fx 14 (by decide), fx 15 (by decide), fx 16 (by decide), fm 7 (by decide), fm 8 (by decide), fm 9 (by decide), fm 10 (by decide), fm 0 (by decide)]; exact h6
theorem i2_01 (b : Bool) : i2 b = 0 ∨ i2 b = 1 := by cases b <;> decide
theorem o_cube {Mx Mm : Mem} {w h : Nat} (hB : Base Mx Mm w h) (a b c : Int32) {J : Mem → Mem → Prop} (hJ0 : J Mx Mm) : wX10_cube Mx a b c (fun r Nx => wX11_cube Mm a b c (fun r2 Nm => r = r2 ∧ J Nx Nm)) := by
  have hO := hB.2.2.2.2.1
  refine has_w hO.rx (fun x y z hx hy hz ex ey ez => ⟨i2_01 _, ?_⟩) (fun q => ⟨Or.inl rfl, ?_⟩)
  · subst ex ey ez
    refine in_ix (n := 8) (by omega) (by omega) rfl (fun _ _ _ => ⟨fun q => absurd q (by decide), fun _ => ?_⟩) (fun q => absurd ⟨x, hx, rfl⟩ q)
    refine in_ix (n := 8) (by omega) (by omega) rfl (fun _ _ _ => ⟨fun q => absurd q (by decide), fun _ => ?_⟩) (fun q => absurd ⟨y, hy, rfl⟩ q)
    refine in_ix (n := 8) (by omega) (by omega) rfl (fun _ _ _ => ⟨fun q => absurd q (by decide), fun _ => ?_⟩) (fun q => absurd ⟨z, hz, rfl⟩ q)
    refine isCube_w hO.rm hx hy hz ?_
    rw [cb_cong (fun i hi => (hO i hi).1) hy hz]
    refine ⟨fun q => ⟨q, hJ0⟩, fun q => ⟨?_, hJ0⟩⟩
    rw [i2_ne.2.mp q]; rfl
  · refine in_ix (n := 8) (by omega) (by omega) rfl (fun x hx ex => ⟨fun q => absurd q (by decide), fun _ => ?_⟩) (fun _ => ⟨fun _ => ⟨rfl, hJ0⟩, fun q => absurd rfl q⟩)
    refine in_ix (n := 8) (by omega) (by omega) rfl (fun y hy ey => ⟨fun q => absurd q (by decide), fun _ => ?_⟩) (fun _ => ⟨fun _ => ⟨rfl, hJ0⟩, fun q => absurd rfl q⟩)
    exact in_ix (n := 8) (by omega) (by omega) rfl (fun z hz ez => absurd ⟨⟨x, hx, ex⟩, ⟨y, hy, ey⟩, ⟨z, hz, ez⟩⟩ q) (fun _ => ⟨fun _ => ⟨rfl, hJ0⟩, fun q => absurd rfl q⟩)
/-- a cube on the line of a bit -/
def al (f : Nat → Int32) (o r n k : Nat) : Bool := if o = 0 then cb f k n r else if o = 1 then cb f n k r else cb f n r k
def anyTo (f : Nat → Int32) (o r n : Nat) : Nat → Bool
  | 0 => false
  | k + 1 => anyTo f o r n k || al f o r n k
theorem al_cong {f g : Nat → Int32} (h : ∀ i, i < 24 → f i = g i) {o r n k : Nat} (hr : r < 8) (hn : n < 8) (hk : k < 8) : al f o r n k = al g o r n k := by
  unfold al
  split
  · exact cb_cong h hn hr
  · split
    · exact cb_cong h hk hr
    · exact cb_cong h hr hk
theorem anyTo_cong {f g : Nat → Int32} (h : ∀ i, i < 24 → f i = g i) {o r n : Nat} (hr : r < 8) (hn : n < 8) : ∀ k, k ≤ 8 → anyTo f o r n k = anyTo g o r n k
  | 0, _ => rfl
  | k + 1, hk => by
    show (anyTo f o r n k || al f o r n k) = (anyTo g o r n k || al g o r n k)
    rw [anyTo_cong h hr hn k (by omega), al_cong h hr hn (by omega)]
theorem isSeenAt_w {M : Mem} (hf : Rows (M 46)) {o r n k : Nat} (ho : o < 3) (hr : r < 8) (hn : n < 8) (hk : k < 8) {Q : Int32 → Mem → Prop} (g : Q (i2 (al (M 46) o r n k)) M) : wX0_isSeenAt M (nI o) (nI r) (nI n) (nI k) Q := by
  have ix : ∀ {j : Nat}, j < 8 → Ix (nI j) 8 := fun hj => ⟨_, hj, rfl⟩
  have uq : ∀ {i j : Nat}, i < 8 → j < 8 → nI j = nI i → i = j := fun h1 h2 e => ((nI_eq (by omega) (by omega)).mp e).symm
  unfold al at g
  refine ⟨fun q0 => ⟨fun q1 => ?_, fun q1 => ?_⟩, fun q0 => ?_⟩
  · have o0 : o ≠ 0 := fun z => q0 (by rw [z]; rfl)
    have o1 : o ≠ 1 := fun z => q1 (by rw [z]; rfl)
    rw [if_neg o0, if_neg o1] at g
    refine has_w hf (fun x y z hx hy hz ex ey ez => ⟨i2_01 _, ?_⟩) (fun q => absurd ⟨ix hn, ix hr, ix hk⟩ q)
    rw [uq hx hn ex, uq hy hr ey, uq hz hk ez]; exact g
  · have o1 : o = 1 := (nI_eq (by omega) (by omega)).mp q1
    rw [if_neg (by omega), if_pos o1] at g
    refine has_w hf (fun x y z hx hy hz ex ey ez => ⟨i2_01 _, ?_⟩) (fun q => absurd ⟨ix hn, ix hk, ix hr⟩ q)
    rw [uq hx hn ex, uq hy hk ey, uq hz hr ez]; exact g
  · have o0 : o = 0 := (nI_eq (by omega) (by omega)).mp q0
    rw [if_pos o0] at g
    refine has_w hf (fun x y z hx hy hz ex ey ez => ⟨i2_01 _, ?_⟩) (fun q => absurd ⟨ix hk, ix hn, ix hr⟩ q)
    rw [uq hx hk ex, uq hy hn ey, uq hz hr ez]; exact g
theorem anyTo_up {f : Nat → Int32} {o r n : Nat} : ∀ {k m : Nat}, k < m → al f o r n k = true → anyTo f o r n m = true
  | k, 0, h, _ => absurd h (Nat.not_lt_zero k)
  | k, m + 1, h, e => by
    show (anyTo f o r n m || al f o r n m) = true
    rcases (show k < m ∨ k = m by omega) with q | q
    · rw [anyTo_up q e]; rfl
    · rw [← q, e, Bool.or_true]
theorem anyAlong_w {M : Mem} (hf : Rows (M 46)) {o r n : Nat} (ho : o < 3) (hr : r < 8) (hn : n < 8) {Q : Int32 → Mem → Prop} (g : Q (i2 (anyTo (M 46) o r n 8)) M) : wX0_anyAlong M (nI o) (nI r) (nI n) Q := by
  refine forN (fun m z M => wX0_anyAlong_L3 (fun M => Q 0 M) Q m (nI o) (nI r) (nI n) z M) (fun k N => N = M ∧ anyTo (M 46) o r n k = false) 8 ?_ ?_ 0 M (by omega) ⟨rfl, rfl⟩
  · intro m N hI
    obtain ⟨rfl, h⟩ := hI
    rw [wX0_anyAlong_L3_s]
    refine pk_le 8 8 (fun _ => ?_) (fun q => absurd q (by omega))
    rw [h] at g; exact g
  · intro m k N hk hI ih
    obtain ⟨rfl, h⟩ := hI
    rw [wX0_anyAlong_L3_s]
    refine pk_le 8 k (fun q => absurd q (by omega)) (fun _ => isSeenAt_w hf ho hr hn hk ?_)
    refine ⟨fun q x2 ex2 => ?_, fun q => ?_⟩
    · rw [ex2, nI_1]
      refine ih N ⟨rfl, ?_⟩
      show (anyTo (N 46) o r n k || al (N 46) o r n k) = false
      rw [h, i2_ne.1.mp q]; rfl
    · rw [anyTo_up hk (i2_ne.2.mp q)] at g; exact g
theorem hasCube_w {M : Mem} (hf : Rows (M 6)) {o r n : Nat} (ho : o < 3) (hr : r < 8) (hn : n < 8) {Q : Int32 → Mem → Prop} (g : Q (i2 (anyTo (M 6) o r n 8)) M) : wX11_hasCube M (nI o) (nI r) (nI n) Q := by
  refine forN (fun m z (p : Int32 × Mem) => wX11_hasCube_L6 _ Q m (nI o) (nI r) (nI n) p.1 z p.2) (fun k p => p.1 = i2 (anyTo (M 6) o r n k) ∧ p.2 = M) 8 ?_ ?_ 0 (0, M) (by omega) ⟨rfl, rfl⟩
  · intro m p hI
    obtain ⟨h1, h2⟩ := hI
    rw [wX11_hasCube_L6_s]
    refine pk_le 8 8 (fun _ => ?_) (fun q => absurd q (by omega))
    rw [h1, h2]
    exact ⟨i2_01 _, g⟩
  · intro m k p hk hI ih
    obtain ⟨h1, h2⟩ := hI
    have tail : ∀ (t : Int32), t = i2 (al (M 6) o r n k) → wX11_hasCube_J52 (wX11_hasCube_L6 (fun x4 M => (x4 = 0 ∨ x4 = 1) ∧ Q x4 M) Q m) (fun x4 M => (x4 = 0 ∨ x4 = 1) ∧ Q x4 M) Q (nI o) (nI r) (nI n) p.1 (nI k) t M := by
      intro t et
      have st : anyTo (M 6) o r n (k + 1) = (anyTo (M 6) o r n k || al (M 6) o r n k) := rfl
      refine ⟨fun q x2 ex2 => ?_, fun q => ⟨fun q2 x2 ex2 => ?_, fun q2 x2 ex2 => ?_⟩⟩
      · rw [ex2, nI_1]
        rw [h1] at q
        refine ih (1, M) ⟨?_, rfl⟩
        rw [st, i2_ne.2.mp q]; rfl
      · rw [ex2, nI_1]
        rw [h1] at q
        rw [et] at q2
        refine ih (0, M) ⟨?_, rfl⟩
        rw [st, i2_ne.1.mp q, i2_ne.1.mp q2]; rfl
      · rw [ex2, nI_1]
        rw [et] at q2
        refine ih (1, M) ⟨?_, rfl⟩
        rw [st, i2_ne.2.mp q2, Bool.or_true]; rfl
    rw [wX11_hasCube_L6_s]
    refine pk_le 8 k (fun q => absurd q (by omega)) (fun _ => ?_)
    rw [h2]
    refine ⟨fun q0 => ⟨fun q1 => ?_, fun q1 => ?_⟩, fun q0 => ?_⟩
    · have o0 : o ≠ 0 := fun z => q0 (by rw [z]; rfl)
      have o1 : o ≠ 1 := fun z => q1 (by rw [z]; rfl)
      exact isCube_w hf hn hr hk (tail _ (by unfold al; rw [if_neg o0, if_neg o1]))
    · have o1 : o = 1 := (nI_eq (by omega) (by omega)).mp q1
      exact isCube_w hf hn hk hr (tail _ (by unfold al; rw [if_neg (by omega), if_pos o1]))
    · have o0 : o = 0 := (nI_eq (by omega) (by omega)).mp q0
      exact isCube_w hf hk hn hr (tail _ (by unfold al; rw [if_pos o0]))
def emB (f : Nat → Int32) (o r n : Nat) : Bool := bt f (o * 8 + r) n && !anyTo f o r n 8
def nEm (f : Nat → Int32) (o : Nat) : Nat := sm (fun r => sm (fun n => b2 (emB f o r n)) 8) 8
theorem countEmpty_w {M : Mem} (hf : Rows (M 46)) {o : Nat} (ho : o < 3) {Q : Int32 → Mem → Prop} (g : Q (nI (nEm (M 46) o)) M) : wX0_countEmpty M (nI o) Q := by
  refine forN (fun n z (p : Int32 × Mem) => wX0_countEmpty_L4 (fun x2 M => Q x2 M) Q n (nI o) p.1 z p.2) (fun i p => p.1 = nI (sm (fun r => sm (fun n => b2 (emB (M 46) o r n)) 8) i) ∧ p.2 = M) 8 ?_ ?_ 0 (0, M) (by omega) ⟨rfl, rfl⟩
  · intro n p hI
    obtain ⟨h1, h2⟩ := hI
    rw [wX0_countEmpty_L4_s]
    exact pk_le 8 8 (fun _ => by rw [h1, h2]; exact g) (fun q => absurd q (by omega))
  · intro n i p hi hI ih
    obtain ⟨h1, h2⟩ := hI
    rw [wX0_countEmpty_L4_s]
    refine pk_le 8 i (fun q => absurd q (by omega)) (fun _ => ?_)
    refine forN (fun n y (p : Int32 × Mem) => wX0_countEmpty_L13 _ Q n (nI o) p.1 (nI i) y p.2) (fun j p => p.1 = nI (sm (fun r => sm (fun n => b2 (emB (M 46) o r n)) 8) i + sm (fun n => b2 (emB (M 46) o i n)) j) ∧ p.2 = M) 8 ?_ ?_ 0 (p.1, p.2) (by omega) ⟨h1, h2⟩
    · intro n2 p2 hI2
      obtain ⟨k1, k2⟩ := hI2
      rw [wX0_countEmpty_L13_s]
      refine pk_le 8 8 (fun _ x2 ex2 => ?_) (fun q => absurd q (by omega))
      rw [ex2, nI_1]
      exact ih (p2.1, p2.2) ⟨k1, k2⟩
    · intro n2 j p2 hj hI2 ih2
      obtain ⟨k1, k2⟩ := hI2
      have st : sm (fun n => b2 (emB (M 46) o i n)) (j + 1) = sm (fun n => b2 (emB (M 46) o i n)) j + b2 (emB (M 46) o i j) := rfl
      have no : emB (M 46) o i j = false → ∀ x2 : Int32, x2 = nI j + 1 → wX0_countEmpty_L13 (fun x1 x2 x3 M => ∀ (x3_51 : Int32), x3_51 = x3 + 1 → wX0_countEmpty_L4 (fun x2 M => Q x2 M) Q n x1 x2 x3_51 M) Q n2 (nI o) p2.1 (nI i) x2 M := by
        intro q x2 ex2
        rw [ex2, nI_1]
        refine ih2 (p2.1, M) ⟨?_, rfl⟩
        show p2.1 = _
        rw [k1, st, q]; rfl
      rw [wX0_countEmpty_L13_s]
      refine pk_le 8 j (fun q => absurd q (by omega)) (fun _ => ?_)
      rw [k2]
      refine bit_w hf ho hi hj ⟨fun q => no (by unfold emB; rw [i2_ne.1.mp q]; rfl), fun q => anyAlong_w hf ho hi hj ⟨fun q2 => no (by unfold emB; rw [i2_ne.2.mp q2]; exact Bool.and_false _), fun q2 c ec x2 ex2 => ?_⟩⟩
      rw [ex2, nI_1]
      refine ih2 (c, M) ⟨?_, rfl⟩
      show c = _
      have : emB (M 46) o i j = true := by unfold emB; rw [i2_ne.2.mp q, i2_ne.1.mp q2]; rfl
      rw [ec, k1, st, this, ← Nat.add_assoc]
      exact nI_1 _
theorem empty_m {M : Mem} (hf : Rows (M 6)) {o : Nat} (ho : o < 3) {Q : Int32 → Mem → Prop} (g : Q (nI (nEm (M 6) o)) M) : ∃ n, wX11_empty_L15 (fun x2 M => Q x2 M) Q n (nI o) 0 0 M := by
  refine forN (fun n z (p : Int32 × Mem) => wX11_empty_L15 (fun x2 M => Q x2 M) Q n (nI o) p.1 z p.2) (fun i p => p.1 = nI (sm (fun r => sm (fun n => b2 (emB (M 6) o r n)) 8) i) ∧ p.2 = M) 8 ?_ ?_ 0 (0, M) (by omega) ⟨rfl, rfl⟩
  · intro n p hI
    obtain ⟨h1, h2⟩ := hI
    rw [wX11_empty_L15_s]
    exact pk_le 8 8 (fun _ => by rw [h1, h2]; exact g) (fun q => absurd q (by omega))
  · intro n i p hi hI ih
    obtain ⟨h1, h2⟩ := hI
    rw [wX11_empty_L15_s]
    refine pk_le 8 i (fun q => absurd q (by omega)) (fun _ => ?_)
    refine forN (fun n y (p : Int32 × Mem) => wX11_empty_L24 _ Q n (nI o) p.1 (nI i) y p.2) (fun j p => p.1 = nI (sm (fun r => sm (fun n => b2 (emB (M 6) o r n)) 8) i + sm (fun n => b2 (emB (M 6) o i n)) j) ∧ p.2 = M) 8 ?_ ?_ 0 (p.1, p.2) (by omega) ⟨h1, h2⟩
    · intro n2 p2 hI2
      obtain ⟨k1, k2⟩ := hI2
      rw [wX11_empty_L24_s]
      refine pk_le 8 8 (fun _ x2 ex2 => ?_) (fun q => absurd q (by omega))
      rw [ex2, nI_1]
      exact ih (p2.1, p2.2) ⟨k1, k2⟩
    · intro n2 j p2 hj hI2 ih2
      obtain ⟨k1, k2⟩ := hI2
      have st : sm (fun n => b2 (emB (M 6) o i n)) (j + 1) = sm (fun n => b2 (emB (M 6) o i n)) j + b2 (emB (M 6) o i j) := rfl
      have no : emB (M 6) o i j = false → ∀ c : Int32, c = p2.1 + 0 → ∀ x2 : Int32, x2 = nI j + 1 → wX11_empty_L24 (fun x1 x2 x3 M => ∀ (x3_76 : Int32), x3_76 = x3 + 1 → wX11_empty_L15 (fun x2 M => Q x2 M) Q n x1 x2 x3_76 M) Q n2 (nI o) c (nI i) x2 M := by
        intro q c ec x2 ex2
        rw [ex2, nI_1]
        refine ih2 (c, M) ⟨?_, rfl⟩
        show c = _
        rw [ec, k1, st, q]
        exact nI_add _ 0
      have e2 : (8 * nI o) + nI i = nI (o * 8 + i) := by
        show nI 8 * nI o + nI i = _
        rw [pk_mul, nI_add, Nat.mul_comm]
      rw [wX11_empty_L24_s]
      refine pk_le 8 j (fun q => absurd q (by omega)) (fun _ => ?_)
      rw [k2, e2, nI_clamp (by omega)]
      refine ⟨vp_in_nI (by omega) (by omega), fun q => no ?_, fun q => hasCube_w hf ho hi hj ⟨fun q2 => no (by unfold emB; rw [i2_ne.2.mp q2]; exact Bool.and_false _), fun q2 c ec x2 ex2 => ?_⟩⟩
      · rw [bt_iff hf (by omega) hj] at q
        unfold emB
        rw [show bt (M 6) (o * 8 + i) j = false by simpa using q]; rfl
      · rw [ex2, nI_1]
        refine ih2 (c, M) ⟨?_, rfl⟩
        show c = _
        have : emB (M 6) o i j = true := by unfold emB; rw [(bt_iff hf (by omega) hj).mp q, i2_ne.1.mp q2]; rfl
        rw [ec, k1, st, this, ← Nat.add_assoc]
        exact nI_1 _
theorem nEm_cong {f g : Nat → Int32} (h : ∀ i, i < 24 → f i = g i) {o : Nat} (ho : o < 3) : nEm f o = nEm g o := sm_cong (fun r hr => sm_cong (fun n hn => by
  unfold emB
  rw [anyTo_cong h hr hn 8 (Nat.le_refl 8)]
  unfold bt
  rw [h (o * 8 + r) (by omega)]))
theorem o_empty {Mx Mm : Mem} {w h : Nat} (hB : Base Mx Mm w h) (a : Int32) {J : Mem → Mem → Prop} (hJ0 : J Mx Mm) : wX10_empty Mx a (fun r Nx => wX11_empty Mm a (fun r2 Nm => r = r2 ∧ J Nx Nm)) := by
  have hO := hB.2.2.2.2.1
  refine hasOutline_w (fun o ho eo => ⟨fun q => absurd q (by decide), fun _ => ?_⟩) (fun q => ⟨fun _ => ?_, fun q => absurd rfl q⟩)
  · subst eo
    refine countEmpty_w hO.rx ho ?_
    refine in_ix (n := 3) (by omega) (by omega) rfl (fun _ _ _ => ⟨fun _ => ?_, fun q => absurd q (by decide)⟩) (fun q => absurd ⟨o, ho, rfl⟩ q)
    exact empty_m hO.rm ho ⟨by rw [nEm_cong (fun i hi => (hO i hi).1) ho], hJ0⟩
  · exact in_ix (n := 3) (by omega) (by omega) rfl (fun o ho eo => absurd ⟨o, ho, eo⟩ q) (fun _ => ⟨fun q => absurd rfl q, fun _ => ⟨rfl, hJ0⟩⟩)
