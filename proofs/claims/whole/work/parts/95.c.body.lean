/-! the body: bits, cubes, outlines -/
theorem nI_and (a b : Nat) : nI a &&& nI b = nI (a &&& b) := by
  apply Int32.toBitVec_inj.1
  show BitVec.ofNat 32 a &&& BitVec.ofNat 32 b = BitVec.ofNat 32 (a &&& b)
  apply BitVec.eq_of_getLsbD_eq
  intro i hi
  simp [hi]
def sm (f : Nat → Nat) : Nat → Nat
  | 0 => 0
  | n + 1 => sm f n + f n
theorem sm_cong {f g : Nat → Nat} : ∀ {n : Nat}, (∀ k, k < n → f k = g k) → sm f n = sm g n
  | 0, _ => rfl
  | n + 1, h => by
    show sm f n + f n = sm g n + g n
    rw [sm_cong (fun k hk => h k (by omega)), h n (by omega)]
theorem sm_add (f g : Nat → Nat) : ∀ n, sm (fun k => f k + g k) n = sm f n + sm g n
  | 0 => rfl
  | n + 1 => by
    show sm (fun k => f k + g k) n + (f n + g n) = (sm f n + f n) + (sm g n + g n)
    rw [sm_add f g n]
    omega
theorem sm_zero : ∀ n, sm (fun _ => 0) n = 0
  | 0 => rfl
  | n + 1 => by
    show sm (fun _ => 0) n + 0 = 0
    rw [sm_zero n]
theorem sm_swap (f : Nat → Nat → Nat) (m : Nat) : ∀ n, sm (fun i => sm (fun j => f i j) m) n = sm (fun j => sm (fun i => f i j) n) m
  | 0 => (sm_zero m).symm
  | n + 1 => by
    show sm (fun i => sm (fun j => f i j) m) n + sm (fun j => f n j) m = sm (fun j => sm (fun i => f i j) n + f n j) m
    rw [sm_swap f m n, sm_add]
theorem sm_tail (f : Nat → Nat) (a : Nat) : ∀ b, sm f (a + b) = sm f a + sm (fun j => f (a + j)) b
  | 0 => rfl
  | b + 1 => by
    show sm f (a + b) + f (a + b) = sm f a + (sm (fun j => f (a + j)) b + f (a + b))
    rw [sm_tail f a b]
    omega
theorem sm_blocks (f : Nat → Nat) (b : Nat) : ∀ a, sm f (a * b) = sm (fun i => sm (fun j => f (i * b + j)) b) a
  | 0 => by rw [Nat.zero_mul]; rfl
  | a + 1 => by
    show sm f ((a + 1) * b) = sm (fun i => sm (fun j => f (i * b + j)) b) a + sm (fun j => f (a * b + j)) b
    rw [Nat.add_mul, Nat.one_mul, sm_tail, sm_blocks f b a]
theorem sm_le {f : Nat → Nat} {c : Nat} : ∀ {n : Nat}, (∀ k, k < n → f k ≤ c) → sm f n ≤ n * c
  | 0, _ => Nat.zero_le _
  | n + 1, h => by
    have h1 := sm_le (n := n) (fun k hk => h k (by omega))
    have h2 := h n (by omega)
    show sm f n + f n ≤ (n + 1) * c
    rw [Nat.add_mul, Nat.one_mul]
    omega
def b2 (b : Bool) : Nat := if b then 1 else 0
theorem b2_le (b : Bool) : b2 b ≤ 1 := by cases b <;> decide
def pc8 (v : Nat) : Nat := sm (fun n => b2 (v.testBit n)) 8
def bcE (a0 : Int32) : Int32 :=
  let a := a0 - ((jushr a0 1) &&& 1431655765)
  let b := (a &&& 858993459) + ((jushr a 2) &&& 858993459)
  let c := (b + (jushr b 4)) &&& 252645135
  let d := c + (jushr c 8)
  let e := d + (jushr d 16)
  e &&& 63
theorem bcE_ok : ∀ v, v < 256 → bcE (nI v) = nI (pc8 v) := by decide +kernel
theorem bit_iff0 : ∀ v, v < 256 → ∀ n, n < 8 → ((((nI v) >>> (nI n &&& 31)) &&& 1) = 1 ↔ v.testBit n = true) := by decide +kernel
theorem bitCount_w {M : Mem} {v : Nat} (hv : v < 256) {Q : Int32 → Mem → Prop} (g : Q (nI (pc8 v)) M) : wJ6_bitCount_0f7a4 M (nI v) Q := by
  intro a ea b eb c ec d ed e ee
  have : e &&& 63 = bcE (nI v) := by rw [ee, ed, ec, eb, ea]; rfl
  rw [this, bcE_ok v hv]
  exact g
/-- rows of bits -/
def Rows (f : Nat → Int32) : Prop := ∀ i, i < 24 → ∃ v : Nat, v < 256 ∧ f i = nI v
def bt (f : Nat → Int32) (i n : Nat) : Bool := ((f i).toNatClampNeg).testBit n
theorem bt_iff {f : Nat → Int32} (hf : Rows f) {i n : Nat} (hi : i < 24) (hn : n < 8) : (((f i) >>> (nI n &&& 31)) &&& 1) = 1 ↔ bt f i n = true := by
  obtain ⟨v, hv, e⟩ := hf i hi
  unfold bt
  rw [e, nI_clamp (by omega)]
  exact bit_iff0 v hv n hn
def cb (f : Nat → Int32) (x y z : Nat) : Bool := bt f z y && (bt f (8 + z) x && bt f (16 + y) x)
def i2 (b : Bool) : Int32 := if b then 1 else 0
theorem bit_w {M : Mem} (hf : Rows (M 46)) {o r n : Nat} (ho : o < 3) (hr : r < 8) (hn : n < 8) {Q : Int32 → Mem → Prop} (g : Q (i2 (bt (M 46) (o * 8 + r) n)) M) : wX0_bit M (nI o) (nI r) (nI n) Q := by
  have e : (nI o * 8) + nI r = nI (o * 8 + r) := by
    show nI o * nI 8 + nI r = _
    rw [pk_mul, nI_add]
  unfold wX0_bit
  rw [e, nI_clamp (by omega)]
  refine ⟨vp_in_nI (by omega) (by omega), fun q => ?_, fun q => ?_⟩
  · rw [bt_iff hf (by omega) hn] at q
    have : bt (M 46) (o * 8 + r) n = false := by simpa using q
    rw [this] at g
    exact g
  · rw [(bt_iff hf (by omega) hn).mp q] at g
    exact g
theorem i2_ne {b : Bool} : (i2 b = 0 ↔ b = false) ∧ (¬ i2 b = 0 ↔ b = true) := by cases b <;> decide
theorem onEdge_w {M : Mem} {a : Int32} {Q : Int32 → Mem → Prop} (h1 : ∀ x : Nat, x < 8 → a = nI x → Q 1 M) (h0 : ¬ Ix a 8 → Q 0 M) : wX0_onEdge M a Q := by
  have k := lt_nI (x := a) (n := 8) (by omega)
  refine ⟨fun q => h0 (fun z => (k.mp z).1 q), fun q => ⟨fun q2 => h0 (fun z => (k.mp z).2 q2), fun q2 => ?_⟩⟩
  obtain ⟨x, hx, e⟩ := k.mpr ⟨q, q2⟩
  exact h1 x hx e
theorem has_w {M : Mem} (hf : Rows (M 46)) {a b c : Int32} {Q : Int32 → Mem → Prop} (h1 : ∀ x y z : Nat, x < 8 → y < 8 → z < 8 → a = nI x → b = nI y → c = nI z → Q (i2 (cb (M 46) x y z)) M) (h0 : ¬ (Ix a 8 ∧ Ix b 8 ∧ Ix c 8) → Q 0 M) : wX0_has M a b c Q := by
  refine onEdge_w (fun x hx ex => ⟨fun q => absurd q (by decide), fun _ => ?_⟩) (fun q => ⟨fun _ => h0 (fun z => q z.1), fun q => absurd rfl q⟩)
  refine onEdge_w (fun y hy ey => ⟨fun q => absurd q (by decide), fun _ => ?_⟩) (fun q => ⟨fun _ => h0 (fun z => q z.2.1), fun q => absurd rfl q⟩)
  refine onEdge_w (fun z hz ez => ⟨fun q => absurd q (by decide), fun _ => ?_⟩) (fun q => ⟨fun _ => h0 (fun z => q z.2.2), fun q => absurd rfl q⟩)
  have g := h1 x y z hx hy hz ex ey ez
  unfold cb at g
  rw [ex, ey, ez]
  refine bit_w hf (o := 0) (by omega) hz hy ?_
  rw [show 0 * 8 + z = z by omega]
  refine ⟨fun q => ?_, fun q => ?_⟩
  · rw [i2_ne.1.mp q] at g; exact g
  rw [i2_ne.2.mp q] at g
  refine bit_w hf (o := 1) (by omega) hz hx ?_
  rw [show 1 * 8 + z = 8 + z by omega]
  refine ⟨fun q => ?_, fun q => ?_⟩
  · rw [i2_ne.1.mp q] at g; exact g
  rw [i2_ne.2.mp q] at g
  refine bit_w hf (o := 2) (by omega) hy hx ?_
  rw [show 2 * 8 + y = 16 + y by omega]
  refine ⟨fun q => ?_, fun q => ?_⟩
  · rw [i2_ne.1.mp q] at g; exact g
  · rw [i2_ne.2.mp q] at g; exact g
theorem isCube_w {M : Mem} (hf : Rows (M 6)) {x y z : Nat} (hx : x < 8) (hy : y < 8) (hz : z < 8) {Q : Int32 → Mem → Prop} (g : Q (i2 (cb (M 6) x y z)) M) : wX11_isCube M (nI x) (nI y) (nI z) Q := by
  have e8 : 8 + nI z = nI (8 + z) := nI_add 8 z
  have e16 : 16 + nI y = nI (16 + y) := nI_add 16 y
  unfold wX11_isCube
  rw [e8, e16, nI_clamp (by omega), nI_clamp (by omega), nI_clamp (by omega)]
  unfold cb at g
  refine ⟨vp_in_nI (by omega) (by omega), fun q => ?_, fun q => ?_⟩
  · rw [bt_iff hf (by omega) hy] at q
    rw [show bt (M 6) z y = false by simpa using q] at g
    exact g
  rw [(bt_iff hf (by omega) hy).mp q] at g
  refine ⟨vp_in_nI (by omega) (by omega), fun q => ?_, fun q => ?_⟩
  · rw [bt_iff hf (by omega) hx] at q
    rw [show bt (M 6) (8 + z) x = false by simpa using q] at g
    exact g
  rw [(bt_iff hf (by omega) hx).mp q] at g
  refine ⟨vp_in_nI (by omega) (by omega), fun q => ?_, fun q => ?_⟩
  · rw [bt_iff hf (by omega) hx] at q
    rw [show bt (M 6) (16 + y) x = false by simpa using q] at g
    exact g
  · rw [(bt_iff hf (by omega) hx).mp q] at g
    exact g
def nCb (f : Nat → Int32) : Nat := sm (fun x => sm (fun y => sm (fun z => b2 (cb f x y z)) 8) 8) 8
theorem cubes_w {M : Mem} (hf : Rows (M 6)) {Q : Int32 → Mem → Prop} (g : Q (nI (nCb (M 6))) M) : wX11_cubes M Q := by
  have e : nCb (M 6) = sm (fun k => b2 (cb (M 6) (k / 64) (k / 8 % 8) (k % 8))) 512 := by
    rw [show 512 = 8 * 64 from rfl, sm_blocks]
    unfold nCb
    refine sm_cong (fun x hx => ?_)
    rw [show 64 = 8 * 8 from rfl, sm_blocks]
    refine sm_cong (fun y hy => sm_cong (fun z hz => ?_))
    have h1 : (x * (8 * 8) + (y * 8 + z)) / 64 = x := by omega
    have h2 : (x * (8 * 8) + (y * 8 + z)) / 8 % 8 = y := by omega
    have h3 : (x * (8 * 8) + (y * 8 + z)) % 8 = z := by omega
    rw [h1, h2, h3]
  rw [e] at g
  refine forN (fun n z (p : Int32 × Mem) => wX11_cubes_L4 (fun x1 M => Q x1 M) Q n p.1 z p.2) (fun i p => p.1 = nI (sm (fun k => b2 (cb (M 6) (k / 64) (k / 8 % 8) (k % 8))) i) ∧ p.2 = M) 512 ?_ ?_ 0 (0, M) (by omega) ⟨rfl, rfl⟩
  · intro n p hI
    obtain ⟨h1, h2⟩ := hI
    rw [wX11_cubes_L4_s]
    exact pk_le 512 512 (fun _ => by rw [h1, h2]; exact g) (fun q => absurd q (by omega))
  · intro n i p hi hI ih
    obtain ⟨h1, h2⟩ := hI
    rw [wX11_cubes_L4_s]
    refine pk_le 512 i (fun q => absurd q (by omega)) (fun _ => ?_)
    have d64 : nI i / 64 = nI (i / 64) := pk_div (d := 64) (by omega) (by omega) (by omega)
    have d8 : nI i / 8 = nI (i / 8) := pk_div (d := 8) (by omega) (by omega) (by omega)
    rw [d64, d8]
    refine ⟨by decide, by decide, by decide, fun v ev => ⟨by decide, fun u eu => ?_⟩⟩
    have ev2 : v = nI (i / 8 % 8) := ev.trans (pk_rem (d := 8) (by omega) (by omega) (by omega))
    have eu2 : u = nI (i % 8) := eu.trans (pk_rem (d := 8) (by omega) (by omega) (by omega))
    rw [ev2, eu2, h2]
    refine isCube_w hf (by omega) (by omega) (by omega) ?_
    refine ⟨fun q c ec x2 ex2 => ?_, fun q c ec x2 ex2 => ?_⟩
    · rw [ex2, nI_1]
      refine ih (c, M) ⟨?_, rfl⟩
      have z : b2 (cb (M 6) (i / 64) (i / 8 % 8) (i % 8)) = 0 := by rw [i2_ne.1.mp q]; rfl
      show c = nI (sm _ i + b2 (cb (M 6) (i / 64) (i / 8 % 8) (i % 8)))
      rw [z, Nat.add_zero, ec, h1]
      exact nI_add _ 0
    · rw [ex2, nI_1]
      refine ih (c, M) ⟨?_, rfl⟩
      have z : b2 (cb (M 6) (i / 64) (i / 8 % 8) (i % 8)) = 1 := by rw [i2_ne.2.mp q]; rfl
      show c = nI (sm _ i + b2 (cb (M 6) (i / 64) (i / 8 % 8) (i % 8)))
      rw [z, ec, h1]
      exact nI_add _ 1
theorem countCubes_w {M : Mem} (hf : Rows (M 46)) {Q : Int32 → Mem → Prop} (g : Q (nI (nCb (M 46))) M) : wX0_countCubes M Q := by
  have pcE : ∀ y z, y < 8 → z < 8 → ∃ v, v < 256 ∧ (M 46 (8 + z)) &&& (M 46 (16 + y)) = nI v ∧ pc8 v = sm (fun x => b2 (bt (M 46) (8 + z) x && bt (M 46) (16 + y) x)) 8 := by
    intro y z hy hz
    obtain ⟨v1, h1, e1⟩ := hf (8 + z) (by omega)
    obtain ⟨v2, h2, e2⟩ := hf (16 + y) (by omega)
    refine ⟨v1 &&& v2, Nat.lt_of_le_of_lt Nat.and_le_left h1, by rw [e1, e2]; exact nI_and _ _, ?_⟩
    unfold pc8
    refine sm_cong (fun x hx => ?_)
    unfold bt
    rw [e1, e2, nI_clamp (by omega), nI_clamp (by omega), Nat.testBit_and]
  have cbE : ∀ y z, sm (fun x => b2 (cb (M 46) x y z)) 8 = if bt (M 46) z y then sm (fun x => b2 (bt (M 46) (8 + z) x && bt (M 46) (16 + y) x)) 8 else 0 := by
    intro y z
    cases q : bt (M 46) z y with
    | true => simp only [cb, q, Bool.true_and, if_true]
    | false => simp only [cb, q, Bool.false_and, b2]; exact sm_zero 8
  have e : nCb (M 46) = sm (fun z => sm (fun y => sm (fun x => b2 (cb (M 46) x y z)) 8) 8) 8 := by
    unfold nCb
    have s1 : sm (fun x => sm (fun y => sm (fun z => b2 (cb (M 46) x y z)) 8) 8) 8 = sm (fun x => sm (fun z => sm (fun y => b2 (cb (M 46) x y z)) 8) 8) 8 := sm_cong (fun x _ => sm_swap _ 8 8)
    rw [s1, sm_swap]
    exact sm_cong (fun z _ => sm_swap _ 8 8)
  rw [e] at g
  refine forN (fun n z (p : Int32 × Mem) => wX0_countCubes_L4 (fun x1 M => Q x1 M) Q n p.1 z p.2) (fun i p => p.1 = nI (sm (fun z => sm (fun y => sm (fun x => b2 (cb (M 46) x y z)) 8) 8) i) ∧ p.2 = M) 8 ?_ ?_ 0 (0, M) (by omega) ⟨rfl, rfl⟩
  · intro n p hI
    obtain ⟨h1, h2⟩ := hI
    rw [wX0_countCubes_L4_s]
    exact pk_le 8 8 (fun _ => by rw [h1, h2]; exact g) (fun q => absurd q (by omega))
  · intro n i p hi hI ih
    obtain ⟨h1, h2⟩ := hI
    rw [wX0_countCubes_L4_s]
    refine pk_le 8 i (fun q => absurd q (by omega)) (fun _ => ?_)
    refine forN (fun n y (p : Int32 × Mem) => wX0_countCubes_L12 _ Q n p.1 (nI i) y p.2) (fun j p => p.1 = nI (sm (fun z => sm (fun y => sm (fun x => b2 (cb (M 46) x y z)) 8) 8) i + sm (fun y => sm (fun x => b2 (cb (M 46) x y i)) 8) j) ∧ p.2 = M) 8 ?_ ?_ 0 (p.1, p.2) (by omega) ⟨h1, h2⟩
    · intro n2 p2 hI2
      obtain ⟨k1, k2⟩ := hI2
      rw [wX0_countCubes_L12_s]
      refine pk_le 8 8 (fun _ x2 ex2 => ?_) (fun q => absurd q (by omega))
      rw [ex2, nI_1]
      exact ih (p2.1, p2.2) ⟨k1, k2⟩
    · intro n2 j p2 hj hI2 ih2
      obtain ⟨k1, k2⟩ := hI2
      rw [wX0_countCubes_L12_s]
      refine pk_le 8 j (fun q => absurd q (by omega)) (fun _ => ?_)
      rw [k2]
      refine bit_w hf (o := 0) (by omega) hi hj ?_
      rw [show 0 * 8 + i = i by omega]
      have st : sm (fun y => sm (fun x => b2 (cb (M 46) x y i)) 8) (j + 1) = sm (fun y => sm (fun x => b2 (cb (M 46) x y i)) 8) j + (if bt (M 46) i j then sm (fun x => b2 (bt (M 46) (8 + i) x && bt (M 46) (16 + j) x)) 8 else 0) := by
        rw [← cbE]; rfl
      refine ⟨fun q x2 ex2 => ?_, fun q => ?_⟩
      · rw [ex2, nI_1]
        refine ih2 (p2.1, M) ⟨?_, rfl⟩
        show p2.1 = _
        rw [k1, st, i2_ne.1.mp q]
        rfl
      · have e8 : 8 + nI i = nI (8 + i) := nI_add 8 i
        have e16 : 16 + nI j = nI (16 + j) := nI_add 16 j
        rw [e8, e16, nI_clamp (by omega), nI_clamp (by omega)]
        obtain ⟨v, hv, ev, pv⟩ := pcE j i hj hi
        rw [ev]
        refine ⟨vp_in_nI (by omega) (by omega), vp_in_nI (by omega) (by omega), bitCount_w hv (fun c ec x2 ex2 => ?_)⟩
        rw [ex2, nI_1]
        refine ih2 (c, M) ⟨?_, rfl⟩
        show c = _
        rw [ec, k1, st, i2_ne.2.mp q, pv, nI_add, Nat.add_assoc]
        rfl
