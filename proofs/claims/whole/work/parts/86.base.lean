/-! the relation of both memories -/
def Pic (s1 m1 s2 m2 t sh go ro tr : Nat → Int32) : Prop :=
  (∀ k, k < 400 → (go k = 0 ∨ go k = 1) ∧ ∃ v : Nat, v < 256 ∧ sh k = nI v) ∧
  (∀ k, k < 200 → s1 k = (if go k = 0 then sh k else -5)) ∧
  (∀ k, k < 200 → s2 k = (if go (200 + k) = 0 then sh (200 + k) else -5)) ∧
  (∀ y, y < 10 → (m1 y = 0 ∨ m1 y = 1) ∧ ro y = m1 y) ∧
  (∀ y, y < 10 → (m2 y = 0 ∨ m2 y = 1) ∧ ro (10 + y) = m2 y) ∧
  (∀ k, k < 200 → (t k = -4 ∨ ∃ d : Nat, d ≤ 8 ∧ t k = nI d) ∧ tr k = t k)
def Rul (Mx Mm : Mem) : Prop := (∀ i, i < 5 → Mm 5 i = Mx 17 i) ∧ ∃ D H P Q T : Nat, D ≤ 8 ∧ H ≤ 20 ∧ P ≤ 20 ∧ Q ≤ 40 ∧ T ≤ 255 ∧ Mx 17 0 = nI D ∧ Mx 17 1 = nI H ∧ Mx 17 2 = nI P ∧ Mx 17 3 = nI Q ∧ Mx 17 4 = nI T
def Oln (Mx Mm : Mem) : Prop := ∀ i, i < 24 → Mm 6 i = Mx 46 i ∧ ∃ v : Nat, v < 256 ∧ Mx 46 i = nI v
def Kep (Mx Mm : Mem) : Prop := (Mx 0 2 = 0 ∧ Mm 0 8 = 0) ∨ (Mx 0 2 = 1 ∧ Mm 0 8 = 1 ∧ ∃ w h : Nat, 1 ≤ w ∧ w ≤ 20 ∧ 1 ≤ h ∧ h ≤ 10 ∧ Mx 9 0 = nI w ∧ Mx 9 1 = nI h ∧ Mm 0 9 = nI w ∧ Mm 0 10 = nI h ∧ Pic (Mx 11) (Mx 12) (Mx 14) (Mx 15) (Mx 16) (Mm 7) (Mm 8) (Mm 9) (Mm 10))
abbrev PicS (Mx Mm : Mem) : Prop := Pic (Mx 3) (Mx 4) (Mx 6) (Mx 7) (Mx 8) (Mm 1) (Mm 2) (Mm 3) (Mm 4)
def Base (Mx Mm : Mem) (w h : Nat) : Prop := Dim Mx w h ∧ DimM Mm w h ∧ PicS Mx Mm ∧ Rul Mx Mm ∧ Oln Mx Mm ∧ Kep Mx Mm
/-- the class's cells that are no base -/
def xc (c : Nat) : Prop := c ≠ 0 ∧ c ≠ 1 ∧ c ≠ 3 ∧ c ≠ 4 ∧ c ≠ 6 ∧ c ≠ 7 ∧ c ≠ 8 ∧ c ≠ 9 ∧ c ≠ 11 ∧ c ≠ 12 ∧ c ≠ 14 ∧ c ≠ 15 ∧ c ≠ 16 ∧ c ≠ 17 ∧ c ≠ 46
def SameX (M N : Mem) : Prop := ∀ c, ¬ xc c → N c = M c
/-- the reference's base: all but what it reckons -/
def SameM (M N : Mem) : Prop := (∀ k, k ≠ 15 → k ≠ 24 → k ≠ 25 → N 0 k = M 0 k) ∧ ∀ c, 1 ≤ c → c ≤ 10 → N c = M c
theorem SameX.rf (M : Mem) : SameX M M := fun _ _ => rfl
theorem SameM.rf (M : Mem) : SameM M M := ⟨fun _ _ _ _ => rfl, fun _ _ _ => rfl⟩
theorem SameX.tr {A B C : Mem} (h : SameX A B) (g : SameX B C) : SameX A C := fun c hc => (g c hc).trans (h c hc)
theorem SameM.tr {A B C : Mem} (h : SameM A B) (g : SameM B C) : SameM A C := ⟨fun k a b c => (g.1 k a b c).trans (h.1 k a b c), fun c a b => (g.2 c a b).trans (h.2 c a b)⟩
theorem hot_xc {c : Nat} (h : hot c) : xc c := by
  rcases h with rfl | rfl | rfl | rfl | rfl | rfl <;> refine ⟨?_, ?_, ?_, ?_, ?_, ?_, ?_, ?_, ?_, ?_, ?_, ?_, ?_, ?_, ?_⟩ <;> decide
theorem nxc {c : Nat} (h : c = 0 ∨ c = 1 ∨ c = 3 ∨ c = 4 ∨ c = 6 ∨ c = 7 ∨ c = 8 ∨ c = 9 ∨ c = 11 ∨ c = 12 ∨ c = 14 ∨ c = 15 ∨ c = 16 ∨ c = 17 ∨ c = 46) : ¬ xc c := by
  rintro ⟨h0, h1, h2, h3, h4, h5, h6, h7, h8, h9, h10, h11, h12, h13, h14⟩
  omega
theorem Base.same {Mx Mm Nx Nm : Mem} {w h : Nat} (hB : Base Mx Mm w h) (hx : SameX Mx Nx) (hm : SameM Mm Nm) : Base Nx Nm w h := by
  have e : ∀ c, (c = 0 ∨ c = 1 ∨ c = 3 ∨ c = 4 ∨ c = 6 ∨ c = 7 ∨ c = 8 ∨ c = 9 ∨ c = 11 ∨ c = 12 ∨ c = 14 ∨ c = 15 ∨ c = 16 ∨ c = 17 ∨ c = 46) → Nx c = Mx c := fun c hc => hx c (nxc hc)
  have f : ∀ c, 1 ≤ c → c ≤ 10 → Nm c = Mm c := hm.2
  obtain ⟨h1, h2, h3, h4, h5, h6⟩ := hB
  refine ⟨?_, ?_, ?_, ?_, ?_, ?_⟩
  · unfold Dim; rw [e 1 (by omega)]; exact h1
  · unfold DimM; rw [hm.1 0 (by decide) (by decide) (by decide), hm.1 1 (by decide) (by decide) (by decide)]; exact h2
  · unfold PicS; rw [e 3 (by omega), e 4 (by omega), e 6 (by omega), e 7 (by omega), e 8 (by omega), f 1 (by omega) (by omega), f 2 (by omega) (by omega), f 3 (by omega) (by omega), f 4 (by omega) (by omega)]; exact h3
  · unfold Rul; rw [e 17 (by omega), f 5 (by omega) (by omega)]; exact h4
  · unfold Oln; rw [e 46 (by omega), f 6 (by omega) (by omega)]; exact h5
  · unfold Kep; rw [e 0 (by omega), e 9 (by omega), e 11 (by omega), e 12 (by omega), e 14 (by omega), e 15 (by omega), e 16 (by omega), f 7 (by omega) (by omega), f 8 (by omega) (by omega), f 9 (by omega) (by omega), f 10 (by omega) (by omega), hm.1 8 (by decide) (by decide) (by decide), hm.1 9 (by decide) (by decide) (by decide), hm.1 10 (by decide) (by decide) (by decide)]; exact h6
