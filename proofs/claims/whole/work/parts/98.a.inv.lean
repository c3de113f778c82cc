/-! what holds between two calls -/
def CX (M : Mem) (w h D H P Q T : Nat) (L R : Nat → Int32) : Prop := C1 M w h L R ∧ C2 M w h D L R ∧ C3 M w h D P Q L R ∧ C4 M w h D P Q L R ∧ C5 M w h D P Q L R ∧ C6 M w h T L ∧ C7 M w h D T L R ∧ C8 M w h D H L R
def InvA (Mx Mm : Mem) (w h D H P Q T : Nat) (L R : Nat → Int32) : Prop := Base Mx Mm w h ∧ RX Mx D H P Q T ∧ RM Mm D H P Q T ∧ VX Mx w h L R ∧ VM Mm w h L R ∧ CX Mx w h D H P Q T L R ∧ CM Mm w h D P Q T L R
def Inv (Mx Mm : Mem) : Prop := ∃ (w h D H P Q T : Nat) (L R : Nat → Int32), InvA Mx Mm w h D H P Q T L R
theorem inv_same {Mx Mm Nx Nm : Mem} {w h D H P Q T : Nat} {L R : Nat → Int32} (hI : InvA Mx Mm w h D H P Q T L R) (sx : SameX Mx Nx) (sm : SameM Mm Nm) (cx : CX Nx w h D H P Q T L R) (cm : CM Nm w h D P Q T L R) : InvA Nx Nm w h D H P Q T L R :=
  ⟨hI.1.same sx sm, hI.2.1.of (sx 17 (nxc (by omega))), hI.2.2.1.of (sm.2 5 (by omega) (by omega)), hI.2.2.2.1.same sx, hI.2.2.2.2.1.same sm, cx, cm⟩
theorem inv_x {Mx Mm Nx : Mem} {w h D H P Q T : Nat} {L R : Nat → Int32} (hI : InvA Mx Mm w h D H P Q T L R) (sx : SameX Mx Nx) (cx : CX Nx w h D H P Q T L R) : InvA Nx Mm w h D H P Q T L R := inv_same hI sx (SameM.rf _) cx hI.2.2.2.2.2.2
theorem inv_m {Mx Mm Nm : Mem} {w h D H P Q T : Nat} {L R : Nat → Int32} (hI : InvA Mx Mm w h D H P Q T L R) (sm : SameM Mm Nm) (cm : CM Nm w h D P Q T L R) : InvA Mx Nm w h D H P Q T L R := inv_same hI (SameX.rf _) sm hI.2.2.2.2.2.1 cm
theorem rul_both {Mx Mm : Mem} (hR : Rul Mx Mm) : ∃ D H P Q T : Nat, RX Mx D H P Q T ∧ RM Mm D H P Q T := by
  obtain ⟨h1, D, H, P, Q, T, b1, b2, b3, b4, b5, e0, e1, e2, e3, e4⟩ := hR
  refine ⟨D, H, P, Q, T, ⟨⟨b1, b2, b3, b4, b5⟩, e0, e1, e2, e3, e4⟩, ⟨⟨b1, b2, b3, b4, b5⟩, ?_, ?_, ?_, ?_, ?_⟩⟩
  · rw [h1 0 (by omega), e0]
  · rw [h1 1 (by omega), e1]
  · rw [h1 2 (by omega), e2]
  · rw [h1 3 (by omega), e3]
  · rw [h1 4 (by omega), e4]
theorem CX_cold {M : Mem} {w h D H P Q T : Nat} {L R : Nat → Int32} (hh : h ≤ 10) (hC : Cold M) : CX M w h D H P Q T L R := by
  obtain ⟨c1, c2, c3, c4, c5, c6, c7, c8⟩ := hC
  exact ⟨Or.inl c1, Or.inl c3, Or.inl c5, Or.inl c4, Or.inl c6, Or.inl c7, Or.inl c8, fun y hy => Or.inl (c2 y (by omega))⟩
theorem inv_cold {Nx Nm : Mem} {w h : Nat} (hB : Base Nx Nm w h) (hC : Cold Nx) (h0 : Nm 0 15 = 0) : Inv Nx Nm := by
  obtain ⟨D, H, P, Q, T, r1, r2⟩ := rul_both hB.2.2.2.1
  exact ⟨w, h, D, H, P, Q, T, _, _, hB, r1, r2, VX_of hB, VM_of hB, CX_cold hB.1.2.2.2.1 hC, Or.inl h0⟩
theorem inv_JC {Mx Mm : Mem} (hI : Inv Mx Mm) : JC Inv Mx Mm := by
  refine ⟨hI, fun Nm s h0 => ?_, fun Nx Nm w h hB hC h0 => inv_cold hB hC h0⟩
  obtain ⟨w, h, D, H, P, Q, T, L, R, hI⟩ := hI
  exact ⟨w, h, D, H, P, Q, T, L, R, inv_m hI s (Or.inl h0)⟩
/-- cells that the cached values live in -/
theorem CX.of {M N : Mem} {w h D H P Q T : Nat} {L R : Nat → Int32} (hC : CX M w h D H P Q T L R) (e : ∀ c, 18 ≤ c → c ≤ 44 → N c = M c) : CX N w h D H P Q T L R := by
  unfold CX C1 C2 C3 C4 C5 C6 C7 PlaneOK C8 PathOK
  rw [e 18 (by omega) (by omega), e 27 (by omega) (by omega), e 22 (by omega) (by omega), e 26 (by omega) (by omega), e 32 (by omega) (by omega), e 33 (by omega) (by omega), e 34 (by omega) (by omega), e 36 (by omega) (by omega), e 37 (by omega) (by omega), e 38 (by omega) (by omega), e 39 (by omega) (by omega), e 40 (by omega) (by omega), e 41 (by omega) (by omega), e 31 (by omega) (by omega), e 30 (by omega) (by omega)]
  exact hC
theorem C5.of {M N : Mem} {w h D P Q : Nat} {L R : Nat → Int32} (hC : C5 M w h D P Q L R) (e : N 37 = M 37) (e2 : N 38 = M 38) : C5 N w h D P Q L R := by unfold C5; rw [e, e2]; exact hC
theorem C6.of {M N : Mem} {w h T : Nat} {L : Nat → Int32} (hC : C6 M w h T L) (e : N 39 = M 39) (e2 : N 40 = M 40) : C6 N w h T L := by unfold C6; rw [e, e2]; exact hC
theorem C7.of {M N : Mem} {w h D T : Nat} {L R : Nat → Int32} (hC : C7 M w h D T L R) (e : N 41 = M 41) : C7 N w h D T L R := by unfold C7 PlaneOK; rw [e]; exact hC
theorem C8.of {M N : Mem} {w h D H : Nat} {L R : Nat → Int32} (hC : C8 M w h D H L R) (e : N 31 = M 31) (e2 : N 30 = M 30) : C8 N w h D H L R := by unfold C8 PathOK; rw [e, e2]; exact hC
theorem C1.of {M N : Mem} {w h : Nat} {L R : Nat → Int32} (hC : C1 M w h L R) (e : ∀ c, cC c → N c = M c) : C1 N w h L R := by unfold C1; rw [e 18 (by unfold cC; omega), e 27 (by unfold cC; omega), e 22 (by unfold cC; omega), e 26 (by unfold cC; omega)]; exact hC
theorem C2.of {M N : Mem} {w h D : Nat} {L R : Nat → Int32} (hC : C2 M w h D L R) (e : N 32 = M 32) (e2 : N 33 = M 33) : C2 N w h D L R := by unfold C2; rw [e, e2]; exact hC
theorem C3.of {M N : Mem} {w h D P Q : Nat} {L R : Nat → Int32} (hC : C3 M w h D P Q L R) (e : N 32 = M 32) (e2 : N 34 = M 34) : C3 N w h D P Q L R := by unfold C3; rw [e, e2]; exact hC
theorem C4.of {M N : Mem} {w h D P Q : Nat} {L R : Nat → Int32} (hC : C4 M w h D P Q L R) (e : N 32 5 = M 32 5) (e2 : N 36 = M 36) : C4 N w h D P Q L R := by unfold C4; rw [e, e2]; exact hC
theorem sx_of {M N : Mem} {P : Nat → Prop} (f : ∀ c, ¬ P c → N c = M c) (q : ∀ c, P c → xc c) : SameX M N := fun c hc => f c (fun z => hc (q c z))
/-! the class's refreshing -/
theorem costs_x {M : Mem} {w h D H P Qr T : Nat} {L R : Nat → Int32} (hx : VX M w h L R) (hC : CX M w h D H P Qr T L R) {Q : Mem → Prop} (g : ∀ N : Mem, SameX M N → (∀ c, ¬ cC c → N c = M c) → CX N w h D H P Qr T L R → CostOK w h L R (N 27) (N 22) (N 26) → Q N) : wX10_refreshCosts M Q := by
  obtain ⟨c1, c2, c3, c4, c5, c6, c7, c8⟩ := hC
  refine refreshCosts_w hx c1 (fun N f q => g N (sx_of f (fun c z => by unfold cC at z; unfold xc; omega)) f ?_ q)
  have e : ∀ c, 28 ≤ c → N c = M c := fun c hc => f c (by unfold cC; omega)
  exact ⟨Or.inr q, c2.of (e 32 (by omega)) (e 33 (by omega)), c3.of (e 32 (by omega)) (e 34 (by omega)), c4.of (by rw [e 32 (by omega)]) (e 36 (by omega)), c5.of (e 37 (by omega)) (e 38 (by omega)), c6.of (e 39 (by omega)) (e 40 (by omega)), c7.of (e 41 (by omega)), c8.of (e 31 (by omega)) (e 30 (by omega))⟩
theorem sums_x {M : Mem} {w h D H P Qr T : Nat} {L R : Nat → Int32} (hx : VX M w h L R) (hr : RX M D H P Qr T) (hC : CX M w h D H P Qr T L R) {Q : Mem → Prop} (g : ∀ N : Mem, SameX M N → CX N w h D H P Qr T L R → At9 w h D (N 36) (tot w h D P Qr L R) → Q N) : wX10_refreshSums M Q := by
  obtain ⟨c1, c2, c3, c4, c5, c6, c7, c8⟩ := hC
  refine refreshSums_w hx hr c1 c2 c3 c4 (fun N f q1 q2 q3 q4 => g N (sx_of f (fun c z => by unfold cS cC at z; unfold xc; omega)) ?_ q4)
  have e : ∀ c, 37 ≤ c ∨ c = 30 ∨ c = 31 → N c = M c := fun c hc => f c (by unfold cS cC; omega)
  exact ⟨Or.inr q1, q2, q3, Or.inr q4, c5.of (e 37 (by omega)) (e 38 (by omega)), c6.of (e 39 (by omega)) (e 40 (by omega)), c7.of (e 41 (by omega)), c8.of (e 31 (by omega)) (e 30 (by omega))⟩
theorem depths_x {M : Mem} {w h D H P Qr T : Nat} {L R : Nat → Int32} (hx : VX M w h L R) (hr : RX M D H P Qr T) (hC : CX M w h D H P Qr T L R) {Q : Mem → Prop} (g : ∀ N : Mem, SameX M N → CX N w h D H P Qr T L R → ToldOK w h D P Qr L R (N 38) → Q N) : wX10_refreshDepths M Q := by
  obtain ⟨c1, c2, c3, c4, c5, c6, c7, c8⟩ := hC
  refine refreshDepths_w hx hr c1 c2 c3 c4 c5 (fun N f q1 q2 q3 q4 q5 => g N (sx_of f (fun c z => by unfold cD cS cC at z; unfold xc; omega)) ?_ q5)
  have e : ∀ c, 39 ≤ c ∨ c = 30 ∨ c = 31 → N c = M c := fun c hc => f c (by unfold cD cS cC; omega)
  exact ⟨Or.inr q1, q2, q3, Or.inr q4, Or.inr q5, c6.of (e 39 (by omega)) (e 40 (by omega)), c7.of (e 41 (by omega)), c8.of (e 31 (by omega)) (e 30 (by omega))⟩
theorem segs_x {M : Mem} {w h D H P Qr T : Nat} {L R : Nat → Int32} (hx : VX M w h L R) (hr : RX M D H P Qr T) (hC : CX M w h D H P Qr T L R) {Q : Mem → Prop} (g : ∀ N : Mem, SameX M N → CX N w h D H P Qr T L R → AncOK w h T L (-5) (N 40) → Q N) : wX10_refreshSegments M Q := by
  obtain ⟨c1, c2, c3, c4, c5, c6, c7, c8⟩ := hC
  refine refreshSegments_w hx hr c6 (fun N f q => g N (fun c hc => f c (fun z => hc (by rw [z]; unfold xc; omega)) (fun z => hc (by rw [z]; unfold xc; omega))) ?_ q)
  have e : ∀ c, c ≠ 39 → c ≠ 40 → N c = M c := f
  exact ⟨c1.of (fun c z => e c (by unfold cC at z; omega) (by unfold cC at z; omega)), c2.of (e 32 (by omega) (by omega)) (e 33 (by omega) (by omega)), c3.of (e 32 (by omega) (by omega)) (e 34 (by omega) (by omega)), c4.of (by rw [e 32 (by omega) (by omega)]) (e 36 (by omega) (by omega)), c5.of (e 37 (by omega) (by omega)) (e 38 (by omega) (by omega)), Or.inr q, c7.of (e 41 (by omega) (by omega)), c8.of (e 31 (by omega) (by omega)) (e 30 (by omega) (by omega))⟩
theorem path_x {M : Mem} {w h D H P Qr T : Nat} {L R : Nat → Int32} (hx : VX M w h L R) (hr : RX M D H P Qr T) (hC : CX M w h D H P Qr T L R) {y : Nat} (hy : y < h) {Q : Mem → Prop} (g : ∀ N : Mem, SameX M N → CX N w h D H P Qr T L R → PathOK N w h D H L R y → Q N) : wX10_refreshPath M (nI y) Q := by
  obtain ⟨c1, c2, c3, c4, c5, c6, c7, c8⟩ := hC
  refine refreshPath_w hx hr c1 c8 hy (fun N f q1 q2 q3 => g N (fun c hc => f c (fun z => hc (by unfold cC at z; unfold xc; omega)) (fun z => hc (by rw [z]; unfold xc; omega)) (fun z => hc (by rw [z]; unfold xc; omega)) (fun z => hc (by rw [z]; unfold xc; omega))) ?_ q3)
  have e : ∀ c, 32 ≤ c → N c = M c := fun c hc => f c (by unfold cC; omega) (by omega) (by omega) (by omega)
  exact ⟨Or.inr q1, c2.of (e 32 (by omega)) (e 33 (by omega)), c3.of (e 32 (by omega)) (e 34 (by omega)), c4.of (by rw [e 32 (by omega)]) (e 36 (by omega)), c5.of (e 37 (by omega)) (e 38 (by omega)), c6.of (e 39 (by omega)) (e 40 (by omega)), c7.of (e 41 (by omega)), q2⟩
theorem run_x {M : Mem} {w h D H P Qr T : Nat} {L R : Nat → Int32} (hx : VX M w h L R) (hr : RX M D H P Qr T) (hC : CX M w h D H P Qr T L R) (hc : CostOK w h L R (M 27) (M 22) (M 26)) {way : Nat} (hway : way < 8) {Q : Mem → Prop} (g : ∀ N : Mem, SameX M N → CX N w h D H P Qr T L R → At9 w h D (N 34) (rn w h D P Qr L R way) → Q N) : wX9_goAlong M (nI way) Q := by
  obtain ⟨c1, c2, c3, c4, c5, c6, c7, c8⟩ := hC
  refine goAlong_w hx.1 hr hc c2 c3 hway (fun N f q1 q2 q3 q4 => g N (fun c hc => f c (fun z => hc (by rw [z]; unfold xc; omega)) (fun z => hc (by rw [z]; unfold xc; omega)) (fun z => hc (by rw [z]; unfold xc; omega)) (fun z => hc (by rw [z]; unfold xc; omega))) ?_ q4)
  have e : ∀ c, 36 ≤ c ∨ c < 32 → N c = M c := fun c hc => f c (by omega) (by omega) (by omega) (by omega)
  exact ⟨c1.of (fun c z => e c (by unfold cC at z; omega)), q2, Or.inr ⟨way, hway, q3, q4⟩, c4.of q1 (e 36 (by omega)), c5.of (e 37 (by omega)) (e 38 (by omega)), c6.of (e 39 (by omega)) (e 40 (by omega)), c7.of (e 41 (by omega)), c8.of (e 31 (by omega)) (e 30 (by omega))⟩
theorem find_x {M : Mem} {w h D H P Qr T a : Nat} {L R : Nat → Int32} (hx : VX M w h L R) (hr : RX M D H P Qr T) (hC : CX M w h D H P Qr T L R) (hc : CostOK w h L R (M 27) (M 22) (M 26)) (hf : ∀ k, k < w * h → M 40 k = anc w h T L k) (hA : Anch w h T L a) {Q : Mem → Prop} (g : ∀ N : Mem, SameX M N → CX N w h D H P Qr T L R → PlaneOK N w h D T L R a → Q N) : wX5_find M (nI a) (nI D) Q := by
  obtain ⟨c1, c2, c3, c4, c5, c6, c7, c8⟩ := hC
  refine find_w hx.1 hr.1.1 hc hf hA c7 (fun N f q1 q2 => g N (fun c hc => f c (fun z => hc (by rw [z]; unfold xc; omega)) (fun z => hc (by rw [z]; unfold xc; omega)) (fun z => hc (by rw [z]; unfold xc; omega)) (fun z => hc (by rw [z]; unfold xc; omega))) ?_ q2)
  have e : ∀ c, c < 41 → N c = M c := fun c hc => f c (by omega) (by omega) (by omega) (by omega)
  exact ⟨c1.of (fun c z => e c (by unfold cC at z; omega)), c2.of (e 32 (by omega)) (e 33 (by omega)), c3.of (e 32 (by omega)) (e 34 (by omega)), c4.of (by rw [e 32 (by omega)]) (e 36 (by omega)), c5.of (e 37 (by omega)) (e 38 (by omega)), c6.of (e 39 (by omega)) (e 40 (by omega)), q1, c8.of (e 31 (by omega)) (e 30 (by omega))⟩
theorem path_m {M : Mem} {w h D H P Qr T : Nat} {L R : Nat → Int32} (hm : VM M w h L R) (hr : RM M D H P Qr T) {y : Nat} (hy : y < h) {Q : Mem → Prop} (g : ∀ N : Mem, SameM M N → (∀ c, 11 ≤ c → c ≤ 16 → N c = M c) → N 0 15 = M 0 15 → N 17 0 = nI (ptS w h D H L R y) → (∀ x, x < w → N 18 x = mtS w h D H L R y x) → N 0 24 = nI (hdn w (mtS w h D H L R y)) → N 0 25 = nI (hdn w (mtS w h D H L R y)) → Q N) : wX11_layPath M (nI y) Q :=
  layPath_w hm hr hy (fun N f1 f2 q1 q2 q3 q4 => g N ⟨fun k _ k2 k3 => f2 k k2 k3, fun c c1 c2 => f1 c (by omega) (by omega) (by omega)⟩ (fun c c1 c2 => f1 c (by omega) (by omega) (by omega)) (f2 15 (by decide) (by decide)) q1 q2 q3 q4)
theorem CMs.of {M N : Mem} {w h D P Q T : Nat} {L R : Nat → Int32} (hC : CMs M w h D P Q T L R) (e : ∀ c, 11 ≤ c → c ≤ 16 → N c = M c) : CMs N w h D P Q T L R := by
  unfold CMs
  rw [e 11 (by omega) (by omega), e 12 (by omega) (by omega), e 13 (by omega) (by omega), e 14 (by omega) (by omega), e 15 (by omega) (by omega), e 16 (by omega) (by omega)]
  exact hC
theorem CM.of {M N : Mem} {w h D P Q T : Nat} {L R : Nat → Int32} (hC : CM M w h D P Q T L R) (e : ∀ c, 11 ≤ c → c ≤ 16 → N c = M c) (e0 : N 0 15 = M 0 15) : CM N w h D P Q T L R := by
  rcases hC with q | q
  · exact Or.inl (by rw [e0]; exact q)
  · exact Or.inr (q.of e)
