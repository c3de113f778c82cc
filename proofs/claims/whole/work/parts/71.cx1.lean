set_option maxHeartbeats 4000000 in
set_option maxRecDepth 100000 in
theorem kX10_refreshCosts (l : Launch) (D : va_G) (cI cZ : ClassId) (ad : Nat → Nat) (zA zD zR : Nat) (hD : ∀ M : Mem, va_D (xA ad) (xW cI cZ ad M)) (M : Mem) (Q : Mem → Prop) (h : wX10_refreshCosts M Q) : Met l yX10_refreshCosts uX10_refreshCosts ({ frames := 3, cells := 0, slots := 0, locals := 80 }) (va_Pc [.ref (ad 0)] (xPre D cI cZ ad zA zD zR M)) (va_Qv Q (xAt D cI cZ ad) (xA ad)) 0 0 (xA ad) := by
  refine Met.ofW (cc := cX10_refreshCosts) (maxL := 1) (ret := none) (by decide) rfl ?_
  intro p e s m args below meth c s₁ B hml hv
  obtain ⟨rfl, hP, hK, hZ, hN⟩ := hv
  have hx := B.exec
  have hb := B.bytes
  have hr := B.returns
  have hts := atoms_spec (ws := uX10_refreshCosts) B.pre
  have hown : s.vm.findClass RX10 = some m.cls := findClass_of_methodNamed B.named
  have hlocks := B.notSynchronized
  have hS : va_S (xA ad) s.heap s.heap [] := va_S.rf
  have k0 := hts (.fieldLink RX10 30 "TwoEyes" "costs" "LTwoEyes$Costs;") (List.mem_cons_of_mem _ (inA_1 _ (List.mem_of_getElem? (i := 23) rfl)))
  have inX10 : ∀ w ∈ wsX100, w ∈ uX10_refreshCosts := fun w h => List.mem_cons_of_mem _ (inCX10 w h)
  have k2 := hts (.fieldLink RX10 280 "TwoEyes$Costs" "fresh" "Z") (List.mem_cons_of_mem _ (inA_8 _ (List.mem_of_getElem? (i := 12) rfl)))
  have inX1 : ∀ w ∈ wsX10, w ∈ uX10_refreshCosts := fun w h => List.mem_cons_of_mem _ (inCX1 w h)
  have k4 := hts (.fieldLink RX10 10 "TwoEyes" "scene" "LTwoEyes$Scene;") (List.mem_cons_of_mem _ (inA_1 _ (List.mem_of_getElem? (i := 15) rfl)))
  have hl := lv_entry ([.ref (ad 0)]) (n := 1) (Nat.le_of_ble_eq_true rfl)
  rw [lg_entry_eq]
  generalize (lg_sl ([.ref (ad 0)]) ++ List.replicate (1 - (lg_sl ([.ref (ad 0)])).length) Slot.unset).toArray = ls at hl ⊢
  have hl : lv_has ls 1 [(0, .ref (ad 0))] := hl
  refine lv_aload_n hx hb dX10_refreshCosts_0 rfl (lv_at hl 0 rfl) ?_
  refine va_get (D := D) (ci := 10) (v := .ref (ad 18)) (C := RX10) (T := TX10) (N := 11) hx hb hts inX10 hown hK hP 0 (xW_0 cI cZ ad M) rfl 4 (by decide) k0 (fun _ h9 => h9) rfl dX10_refreshCosts_1 ?_
  refine va_get (D := D) (ci := 1) (v := .int (M 18 3)) (C := RX1) (T := TX1) (N := 4) hx hb hts inX1 hown hK hP 18 (xW_18 cI cZ ad M) rfl 3 (by decide) k2 (fun _ h9 => h9) rfl dX10_refreshCosts_4 ?_
  refine lv_if_ne (tgt := 21) hx hb dX10_refreshCosts_7 (by decide) (fun q7 => ?_) (fun q7 => ?_)
  · have h := h.1 q7
    exact W.vret hx hb hr (fun t ht hW => ⟨⟨M, rfl, h, xAt_of ht hP⟩, hS.F ht⟩) hS.2.2 dX10_refreshCosts_21
  · have h := h.2 q7
    refine lv_aload_n hx hb dX10_refreshCosts_10 rfl (lv_at hl 0 rfl) ?_
    refine va_get (D := D) (ci := 10) (v := .ref (ad 18)) (C := RX10) (T := TX10) (N := 11) hx hb hts inX10 hown hK hP 0 (xW_0 cI cZ ad M) rfl 4 (by decide) k0 (fun _ h9 => h9) rfl dX10_refreshCosts_11 ?_
    refine lv_aload_n hx hb dX10_refreshCosts_14 rfl (lv_at hl 0 rfl) ?_
    refine va_get (D := D) (ci := 10) (v := .ref (ad 1)) (C := RX10) (T := TX10) (N := 11) hx hb hts inX10 hown hK hP 0 (xW_0 cI cZ ad M) rfl 0 (by decide) k4 (fun _ h9 => h9) rfl dX10_refreshCosts_15 ?_
    refine x_callVv (As := [.ref (ad 1)]) (rest := []) ⟨hx, hb, hml, hown, hts⟩ (kX1_measureAll l D cI cZ ad zA zD zR hD M _ h) (cwV 1 hts (gdV uS (inA_15 _ (List.mem_of_getElem? (i := 4) rfl)) vX1_measureAll) rfl rfl rfl (by decide +kernel) ⟨Nat.le_of_ble_eq_true rfl, Nat.le_of_ble_eq_true rfl⟩) (va_recv hK hP (ci := 1) (q0 := 18) rfl (xW_18 cI cZ ad M)) hP hK hZ hN hS hl.1 rfl rfl (Nat.le_of_ble_eq_true rfl) dX10_refreshCosts_18 (fun M18 H locs h hP hS => ?_)
    exact W.vret hx hb hr (fun t ht hW => ⟨⟨M18, rfl, h, xAt_of ht hP⟩, hS.F ht⟩) hS.2.2 dX10_refreshCosts_21
abbrev GX9_start (p : Program) (l : Launch) (e : Env) (s : State) (m : MethodId) (below : List Frame) (meth : Method) (c : Code) (D : va_G) (cI cZ : ClassId) (ad : Nat → Nat) (a1 a2 : Int32) (Q : Mem → Prop) (H : Heap) (locs : List Loc) (g : JFrame) : Prop := W p l e (headSpec uX9_start { frames := 1, cells := 0, slots := 0, locals := 13 }).room s m ([.ref (ad 32), .int a1, .int a2] : List Value).toArray below meth c H locs 0 0 (MQ below (va_Qv Q (xAt D cI cZ ad) (xA ad)) ([.ref (ad 32), .int a1, .int a2] : List Value).toArray s 0 0 (xA ad)) g
set_option maxHeartbeats 4000000 in
set_option maxRecDepth 100000 in
theorem kX9_start (l : Launch) (D : va_G) (cI cZ : ClassId) (ad : Nat → Nat) (zA zD zR : Nat) (hD : ∀ M : Mem, va_D (xA ad) (xW cI cZ ad M)) (M : Mem) (a1 a2 : Int32) (Q : Mem → Prop) (h : wX9_start M a1 a2 Q) : Met l yX9_start uX9_start ({ frames := 1, cells := 0, slots := 0, locals := 13 }) (va_Pc [.ref (ad 32), .int a1, .int a2] (xPre D cI cZ ad zA zD zR M)) (va_Qv Q (xAt D cI cZ ad) (xA ad)) 0 0 (xA ad) := by
  refine Met.ofW (cc := cX9_start) (maxL := 5) (ret := none) (by decide) rfl ?_
  intro p e s m args below meth c s₁ B hml hv
  obtain ⟨rfl, hP, hK, hZ, hN⟩ := hv
  have hx := B.exec
  have hb := B.bytes
  have hr := B.returns
  have hts := atoms_spec (ws := uX9_start) B.pre
  have hown : s.vm.findClass RX9 = some m.cls := findClass_of_methodNamed B.named
  have hlocks := B.notSynchronized
  have hS : va_S (xA ad) s.heap s.heap [] := va_S.rf
  have k0 := hts (.fieldLink RX9 15 "TwoEyes$Sums" "runs" "[I") (List.mem_cons_of_mem _ (inA_5 _ (List.mem_of_getElem? (i := 2) rfl)))
  have inX9 : ∀ w ∈ wsX90, w ∈ uX9_start := fun w h => List.mem_cons_of_mem _ (inCX9 w h)
  have k2 := hts (.fieldLink RX9 9 "TwoEyes$Sums" "votes" "[I") (List.mem_cons_of_mem _ (inA_5 _ (List.mem_of_getElem? (i := 1) rfl)))
  have k3 := hts (.methodLink RX9 105 Lib.Math.min.name) (List.mem_cons_of_mem _ (inA_17 _ (List.mem_of_getElem? (i := 17) rfl)))
  have k4 := hts (.static Lib.Math.min.name) (List.mem_cons_of_mem _ (inA_17 _ (List.mem_of_getElem? (i := 18) rfl)))
  have k5 := hts (.initialized "java/lang/Math") (List.mem_cons_of_mem _ (inA_17 _ (List.mem_of_getElem? (i := 19) rfl)))
  have k6 := hts (.code Lib.Math.min.name Lib.Math.min.code 2 (some .int)) (List.mem_cons_of_mem _ (inA_17 _ (List.mem_of_getElem? (i := 20) rfl)))
  have k7 := hts (.constant RX9 104 (2147483647)) (List.mem_cons_of_mem _ (inA_17 _ (List.mem_of_getElem? (i := 16) rfl)))
  have k8 := hts (.fieldLink RX9 18 "TwoEyes$Sums" "least" "[I") (List.mem_cons_of_mem _ (inA_5 _ (List.mem_of_getElem? (i := 3) rfl)))
  have L9 : ∀ (K52 : Int32 → Int32 → Mem → Prop), (∀ (x1 x3 : Int32) (M : Mem) (H : Heap) (locs : List Loc) (ls : Array Slot), lv_has ls 5 [(0, .ref (ad 32)), (1, .int x1), (3, .int x3)] → va_P D vwCl (xW cI cZ ad M) H → va_S (xA ad) s.heap H locs → K52 x1 x3 M → GX9_start p l e s m below meth c D cI cZ ad a1 a2 Q H locs (F0 m 52 ls [])) → ∀ n : Nat, ∀ (x1 x2 x3 x4 : Int32) (M : Mem) (H : Heap) (locs : List Loc) (ls : Array Slot), lv_has ls 5 [(0, .ref (ad 32)), (1, .int x1), (2, .int x2), (3, .int x3), (4, .int x4)] → va_P D vwCl (xW cI cZ ad M) H → va_S (xA ad) s.heap H locs → wX9_start_L9 K52 Q n x1 x2 x3 x4 M → GX9_start p l e s m below meth c D cI cZ ad a1 a2 Q H locs (F0 m 9 ls []) := by
    intro K52 hK52 n
    induction n with
    | zero => intro x1 x2 x3 x4 M H locs ls hl hP hS h; exact (show False from h).elim
    | succ n hB =>
      intro x1 x2 x3 x4 M H locs ls hl hP hS h
      rw [wX9_start_L9_s] at h
      refine lv_iload hx hb dX9_start_9 (lv_at hl 4 rfl) ?_
      refine lv_iload_n hx hb dX9_start_11 rfl (lv_at hl 1 rfl) ?_
      refine lv_bipush (v := 9) hx hb dX9_start_12 (by decide) ?_
      refine lv_imul hx hb dX9_start_14 ?_
      refine lv_iload_n hx hb dX9_start_15 rfl (lv_at hl 2 rfl) ?_
      refine lv_iadd hx hb dX9_start_16 ?_
      refine lv_icmp_gt (tgt := 52) hx hb dX9_start_17 (by decide) (fun q17 => ?_) (fun q17 => ?_)
      · have h := h.1 q17
        exact hK52 x1 x3 M _ _ _ (lv_sub hl [0, 1, 3] rfl) hP hS h
      · have h := h.2 q17
        refine lv_aload_n hx hb dX9_start_20 rfl (lv_at hl 0 rfl) ?_
        refine va_get (D := D) (ci := 9) (v := .ref (ad 34)) (C := RX9) (T := TX9) (N := 7) hx hb hts inX9 hown hK hP 32 (xW_32 cI cZ ad M) rfl 1 (by decide) k0 (fun _ h9 => h9) rfl dX9_start_21 ?_
        refine lv_iload hx hb dX9_start_24 (lv_at hl 4 rfl) ?_
        refine lv_aload_n hx hb dX9_start_26 rfl (lv_at hl 0 rfl) ?_
        refine va_get (D := D) (ci := 9) (v := .ref (ad 33)) (C := RX9) (T := TX9) (N := 7) hx hb hts inX9 hown hK hP 32 (xW_32 cI cZ ad M) rfl 0 (by decide) k2 (fun _ h9 => h9) rfl dX9_start_27 ?_
        refine lv_iload hx hb dX9_start_30 (lv_at hl 4 rfl) ?_
        obtain ⟨hi32, h⟩ := h
        refine va_iald hx hb hK hP 33 0 (xW_33 cI cZ ad M) rfl hi32 dX9_start_32 ?_
        obtain ⟨hi33, h⟩ := h
        refine va_iast hx hb hK hP (hD M) hS 34 0 (xW_34 cI cZ ad M) rfl hi33 dX9_start_33 (fun H locs hP _ hS => ?_)
        refine xQ_34 hP (fun M33 eM33 hP => ?_)
        have h := h M33 eM33
        refine lv_iload_n hx hb dX9_start_34 rfl (lv_at hl 3 rfl) ?_
        refine lv_aload_n hx hb dX9_start_35 rfl (lv_at hl 0 rfl) ?_
        refine va_get (D := D) (ci := 9) (v := .ref (ad 34)) (C := RX9) (T := TX9) (N := 7) hx hb hts inX9 hown hK hP 32 (xW_32 cI cZ ad M33) rfl 1 (by decide) k0 (fun _ h9 => h9) rfl dX9_start_36 ?_
        refine lv_iload hx hb dX9_start_39 (lv_at hl 4 rfl) ?_
        obtain ⟨hi41, h⟩ := h
        refine va_iald hx hb hK hP 34 0 (xW_34 cI cZ ad M33) rfl hi41 dX9_start_41 ?_
        refine va_mmin hx hb (hml.trans hl.1.symm) hown k3 k4 k5 k6 (Nat.le_of_ble_eq_true rfl) (Nat.le_of_ble_eq_true rfl) (Nat.zero_le _) (Nat.zero_le _) dX9_start_42 ?_
        refine lv_topi (fun v42 ev42 => ?_)
        have h := h v42 ev42
        refine lv_istore_n (lv' := [(3, .int v42), (0, .ref (ad 32)), (1, .int x1), (2, .int x2), (4, .int x4)]) hx hb dX9_start_45 rfl hl (by decide) rfl (fun ls hl => ?_)
        obtain ⟨x4_46, ex4_46⟩ : ∃ y : Int32, y = x4 + 1 := ⟨_, rfl⟩
        have h := h x4_46 ex4_46
        refine lv_iinc (v := x4_46) (lv' := [(4, .int x4_46), (3, .int v42), (0, .ref (ad 32)), (1, .int x1), (2, .int x2)]) hx hb dX9_start_46 hl (k := 4) rfl (by rw [ex4_46]; rfl) (by decide) rfl (fun ls hl => ?_)
        refine lv_goto (tgt := 9) hx hb dX9_start_49 (by decide) ?_
        exact hB x1 x2 v42 x4_46 M33 _ _ _ (lv_sub hl [2, 3, 4, 1, 0] rfl) hP hS h
  have hl := lv_entry ([.ref (ad 32), .int a1, .int a2]) (n := 5) (Nat.le_of_ble_eq_true rfl)
  rw [lg_entry_eq]
  generalize (lg_sl ([.ref (ad 32), .int a1, .int a2]) ++ List.replicate (5 - (lg_sl ([.ref (ad 32), .int a1, .int a2])).length) Slot.unset).toArray = ls at hl ⊢
  have hl : lv_has ls 5 [(0, .ref (ad 32)), (1, .int a1), (2, .int a2)] := hl
  refine lv_ldc hx hb hown k7 dX9_start_0 ?_
  refine lv_istore_n (lv' := [(3, .int 2147483647), (0, .ref (ad 32)), (1, .int a1), (2, .int a2)]) hx hb dX9_start_2 rfl hl (by decide) rfl (fun ls hl => ?_)
  refine lv_iload_n hx hb dX9_start_3 rfl (lv_at hl 2 rfl) ?_
  refine lv_bipush (v := 9) hx hb dX9_start_4 (by decide) ?_
  refine lv_imul hx hb dX9_start_6 ?_
  refine lv_topi (fun x4_7 ex4_7 => ?_)
  have h := h x4_7 ex4_7
  refine lv_istore (lv' := [(4, .int x4_7), (3, .int 2147483647), (0, .ref (ad 32)), (1, .int a1), (2, .int a2)]) hx hb dX9_start_7 hl (by decide) rfl (fun ls hl => ?_)
  obtain ⟨n, h⟩ := h
  refine L9 _ (fun x1 x3 M H locs ls hl hP hS h => ?_) n a1 a2 2147483647 x4_7 M _ _ _ (lv_sub hl [2, 3, 4, 1, 0] rfl) hP hS h
  refine lv_aload_n hx hb dX9_start_52 rfl (lv_at hl 0 rfl) ?_
  refine va_get (D := D) (ci := 9) (v := .ref (ad 35)) (C := RX9) (T := TX9) (N := 7) hx hb hts inX9 hown hK hP 32 (xW_32 cI cZ ad M) rfl 2 (by decide) k8 (fun _ h9 => h9) rfl dX9_start_53 ?_
  refine lv_iload_n hx hb dX9_start_56 rfl (lv_at hl 1 rfl) ?_
  refine lv_iload_n hx hb dX9_start_57 rfl (lv_at hl 2 rfl) ?_
  obtain ⟨hi58, h⟩ := h
  refine va_iast hx hb hK hP (hD M) hS 35 0 (xW_35 cI cZ ad M) rfl hi58 dX9_start_58 (fun H locs hP _ hS => ?_)
  refine xQ_35 hP (fun M58 eM58 hP => ?_)
  have h := h M58 eM58
  exact W.vret hx hb hr (fun t ht hW => ⟨⟨M58, rfl, h, xAt_of ht hP⟩, hS.F ht⟩) hS.2.2 dX9_start_59
abbrev GX9_goOn (p : Program) (l : Launch) (e : Env) (s : State) (m : MethodId) (below : List Frame) (meth : Method) (c : Code) (D : va_G) (cI cZ : ClassId) (ad : Nat → Nat) (a1 a2 : Int32) (Q : Mem → Prop) (H : Heap) (locs : List Loc) (g : JFrame) : Prop := W p l e (headSpec uX9_goOn { frames := 1, cells := 0, slots := 0, locals := 13 }).room s m ([.ref (ad 32), .int a1, .int a2, .ref (ad 17)] : List Value).toArray below meth c H locs 0 0 (MQ below (va_Qv Q (xAt D cI cZ ad) (xA ad)) ([.ref (ad 32), .int a1, .int a2, .ref (ad 17)] : List Value).toArray s 0 0 (xA ad)) g
set_option maxHeartbeats 4000000 in
set_option maxRecDepth 100000 in
theorem kX9_goOn (l : Launch) (D : va_G) (cI cZ : ClassId) (ad : Nat → Nat) (zA zD zR : Nat) (hD : ∀ M : Mem, va_D (xA ad) (xW cI cZ ad M)) (M : Mem) (a1 a2 : Int32) (Q : Mem → Prop) (h : wX9_goOn M a1 a2 Q) : Met l yX9_goOn uX9_goOn ({ frames := 1, cells := 0, slots := 0, locals := 13 }) (va_Pc [.ref (ad 32), .int a1, .int a2, .ref (ad 17)] (xPre D cI cZ ad zA zD zR M)) (va_Qv Q (xAt D cI cZ ad) (xA ad)) 0 0 (xA ad) := by
  refine Met.ofW (cc := cX9_goOn) (maxL := 10) (ret := none) (by decide) rfl ?_
  intro p e s m args below meth c s₁ B hml hv
  obtain ⟨rfl, hP, hK, hZ, hN⟩ := hv
  have hx := B.exec
  have hb := B.bytes
  have hr := B.returns
  have hts := atoms_spec (ws := uX9_goOn) B.pre
  have hown : s.vm.findClass RX9 = some m.cls := findClass_of_methodNamed B.named
  have hlocks := B.notSynchronized
  have hS : va_S (xA ad) s.heap s.heap [] := va_S.rf
  have k0 := hts (.fieldLink RX9 9 "TwoEyes$Sums" "votes" "[I") (List.mem_cons_of_mem _ (inA_5 _ (List.mem_of_getElem? (i := 1) rfl)))
  have inX9 : ∀ w ∈ wsX90, w ∈ uX9_goOn := fun w h => List.mem_cons_of_mem _ (inCX9 w h)
  have k2 := hts (.fieldLink RX9 18 "TwoEyes$Sums" "least" "[I") (List.mem_cons_of_mem _ (inA_5 _ (List.mem_of_getElem? (i := 3) rfl)))
  have k3 := hts (.fieldLink RX9 15 "TwoEyes$Sums" "runs" "[I") (List.mem_cons_of_mem _ (inA_5 _ (List.mem_of_getElem? (i := 2) rfl)))
  have k4 := hts (.methodLink RX9 105 Lib.Math.min.name) (List.mem_cons_of_mem _ (inA_17 _ (List.mem_of_getElem? (i := 17) rfl)))
  have k5 := hts (.static Lib.Math.min.name) (List.mem_cons_of_mem _ (inA_17 _ (List.mem_of_getElem? (i := 18) rfl)))
  have k6 := hts (.initialized "java/lang/Math") (List.mem_cons_of_mem _ (inA_17 _ (List.mem_of_getElem? (i := 19) rfl)))
  have k7 := hts (.code Lib.Math.min.name Lib.Math.min.code 2 (some .int)) (List.mem_cons_of_mem _ (inA_17 _ (List.mem_of_getElem? (i := 20) rfl)))
  have k8 := hts (.constant RX9 104 (2147483647)) (List.mem_cons_of_mem _ (inA_17 _ (List.mem_of_getElem? (i := 16) rfl)))
  have J102 : ∀ (B : Int32 → Int32 → Int32 → Int32 → Int32 → Mem → Prop) (K155 : Int32 → Int32 → Mem → Prop), (∀ (x1 x2 x4 x5 x6 : Int32) (M : Mem) (H : Heap) (locs : List Loc) (ls : Array Slot), lv_has ls 10 [(0, .ref (ad 32)), (1, .int x1), (2, .int x2), (3, .ref (ad 17)), (4, .int x4), (5, .int x5), (6, .int x6)] → va_P D vwCl (xW cI cZ ad M) H → va_S (xA ad) s.heap H locs → B x1 x2 x4 x5 x6 M → GX9_goOn p l e s m below meth c D cI cZ ad a1 a2 Q H locs (F0 m 12 ls [])) → (∀ (x1 x4 : Int32) (M : Mem) (H : Heap) (locs : List Loc) (ls : Array Slot), lv_has ls 10 [(0, .ref (ad 32)), (1, .int x1), (4, .int x4)] → va_P D vwCl (xW cI cZ ad M) H → va_S (xA ad) s.heap H locs → K155 x1 x4 M → GX9_goOn p l e s m below meth c D cI cZ ad a1 a2 Q H locs (F0 m 155 ls [])) → ∀ (x1 x2 x4 x5 x6 x8 : Int32) (M : Mem) (H : Heap) (locs : List Loc) (ls : Array Slot), lv_has ls 10 [(0, .ref (ad 32)), (1, .int x1), (2, .int x2), (3, .ref (ad 17)), (4, .int x4), (5, .int x5), (6, .int x6), (8, .int x8)] → va_P D vwCl (xW cI cZ ad M) H → va_S (xA ad) s.heap H locs → wX9_goOn_J102 B K155 Q x1 x2 x4 x5 x6 x8 M → GX9_goOn p l e s m below meth c D cI cZ ad a1 a2 Q H locs (F0 m 102 ls []) := by
    intro B K155 hB hK155 x1 x2 x4 x5 x6 x8 M H locs ls hl hP hS h
    refine lv_aload_n hx hb dX9_goOn_102 rfl (lv_at hl 0 rfl) ?_
    refine va_get (D := D) (ci := 9) (v := .ref (ad 33)) (C := RX9) (T := TX9) (N := 7) hx hb hts inX9 hown hK hP 32 (xW_32 cI cZ ad M) rfl 0 (by decide) k0 (fun _ h9 => h9) rfl dX9_goOn_103 ?_
    refine lv_iload_n hx hb dX9_goOn_106 rfl (lv_at hl 1 rfl) ?_
    refine lv_bipush (v := 9) hx hb dX9_goOn_107 (by decide) ?_
    refine lv_imul hx hb dX9_goOn_109 ?_
    refine lv_iload hx hb dX9_goOn_110 (lv_at hl 6 rfl) ?_
    refine lv_iadd hx hb dX9_goOn_112 ?_
    obtain ⟨hi113, h⟩ := h
    refine va_iald hx hb hK hP 33 0 (xW_33 cI cZ ad M) rfl hi113 dX9_goOn_113 ?_
    refine lv_iload hx hb dX9_goOn_114 (lv_at hl 7 rfl) ?_
    refine lv_iadd hx hb dX9_goOn_116 ?_
    refine lv_aload_n hx hb dX9_goOn_117 rfl (lv_at hl 0 rfl) ?_
    refine va_get (D := D) (ci := 9) (v := .ref (ad 35)) (C := RX9) (T := TX9) (N := 7) hx hb hts inX9 hown hK hP 32 (xW_32 cI cZ ad M) rfl 2 (by decide) k2 (fun _ h9 => h9) rfl dX9_goOn_118 ?_
    refine lv_iload_n hx hb dX9_goOn_121 rfl (lv_at hl 2 rfl) ?_
    obtain ⟨hi122, h⟩ := h
    refine va_iald hx hb hK hP 35 0 (xW_35 cI cZ ad M) rfl hi122 dX9_goOn_122 ?_
    refine lv_isub hx hb dX9_goOn_123 ?_
    refine lv_topi (fun x9_124 ex9_124 => ?_)
    have h := h x9_124 ex9_124
    refine lv_istore (lv' := [(9, .int x9_124), (0, .ref (ad 32)), (1, .int x1), (2, .int x2), (3, .ref (ad 17)), (4, .int x4), (5, .int x5), (6, .int x6), (8, .int x8)]) hx hb dX9_goOn_124 hl (by decide) rfl (fun ls hl => ?_)
    refine lv_aload_n hx hb dX9_goOn_126 rfl (lv_at hl 1 rfl) ?_
    refine va_get (D := D) (ci := 9) (v := .ref (ad 34)) (C := RX9) (T := TX9) (N := 7) hx hb hts inX9 hown hK hP 32 (xW_32 cI cZ ad M) rfl 1 (by decide) k3 (fun _ h9 => h9) rfl dX9_goOn_127 ?_
    refine lv_iload_n hx hb dX9_goOn_130 rfl (lv_at hl 2 rfl) ?_
    refine lv_bipush (v := 9) hx hb dX9_goOn_131 (by decide) ?_
    refine lv_imul hx hb dX9_goOn_133 ?_
    refine lv_iload hx hb dX9_goOn_134 (lv_at hl 7 rfl) ?_
    refine lv_iadd hx hb dX9_goOn_136 ?_
    refine lv_iload hx hb dX9_goOn_137 (lv_at hl 0 rfl) ?_
    obtain ⟨hi139, h⟩ := h
    refine va_iast hx hb hK hP (hD M) hS 34 0 (xW_34 cI cZ ad M) rfl hi139 dX9_goOn_139 (fun H locs hP _ hS => ?_)
    refine xQ_34 hP (fun M139 eM139 hP => ?_)
    have h := h M139 eM139
    refine lv_iload hx hb dX9_goOn_140 (lv_at hl 5 rfl) ?_
    refine lv_iload hx hb dX9_goOn_142 (lv_at hl 0 rfl) ?_
    refine va_mmin hx hb (hml.trans hl.1.symm) hown k4 k5 k6 k7 (Nat.le_of_ble_eq_true rfl) (Nat.le_of_ble_eq_true rfl) (Nat.zero_le _) (Nat.zero_le _) dX9_goOn_144 ?_
    refine lv_topi (fun v144 ev144 => ?_)
    have h := h v144 ev144
    refine lv_istore (lv' := [(4, .int v144), (9, .int x9_124), (0, .ref (ad 32)), (1, .int x1), (2, .int x2), (3, .ref (ad 17)), (5, .int x5), (6, .int x6), (8, .int x8)]) hx hb dX9_goOn_147 hl (by decide) rfl (fun ls hl => ?_)
    obtain ⟨x6_149, ex6_149⟩ : ∃ y : Int32, y = x6 + 1 := ⟨_, rfl⟩
    have h := h x6_149 ex6_149
    refine lv_iinc (v := x6_149) (lv' := [(6, .int x6_149), (4, .int v144), (9, .int x9_124), (0, .ref (ad 32)), (1, .int x1), (2, .int x2), (3, .ref (ad 17)), (5, .int x5), (8, .int x8)]) hx hb dX9_goOn_149 hl (k := 7) rfl (by rw [ex6_149]; rfl) (by decide) rfl (fun ls hl => ?_)
    refine lv_goto (tgt := 12) hx hb dX9_goOn_152 (by decide) ?_
    exact hB x1 x2 v144 x5 x6_149 M139 _ _ _ (lv_sub hl [3, 4, 5, 6, 1, 7, 0] rfl) hP hS h
  have J75 : ∀ (B : Int32 → Int32 → Int32 → Int32 → Int32 → Mem → Prop) (K155 : Int32 → Int32 → Mem → Prop), (∀ (x1 x2 x4 x5 x6 : Int32) (M : Mem) (H : Heap) (locs : List Loc) (ls : Array Slot), lv_has ls 10 [(0, .ref (ad 32)), (1, .int x1), (2, .int x2), (3, .ref (ad 17)), (4, .int x4), (5, .int x5), (6, .int x6)] → va_P D vwCl (xW cI cZ ad M) H → va_S (xA ad) s.heap H locs → B x1 x2 x4 x5 x6 M → GX9_goOn p l e s m below meth c D cI cZ ad a1 a2 Q H locs (F0 m 12 ls [])) → (∀ (x1 x4 : Int32) (M : Mem) (H : Heap) (locs : List Loc) (ls : Array Slot), lv_has ls 10 [(0, .ref (ad 32)), (1, .int x1), (4, .int x4)] → va_P D vwCl (xW cI cZ ad M) H → va_S (xA ad) s.heap H locs → K155 x1 x4 M → GX9_goOn p l e s m below meth c D cI cZ ad a1 a2 Q H locs (F0 m 155 ls [])) → ∀ (x1 x2 x4 x5 x6 x7 x8 : Int32) (M : Mem) (H : Heap) (locs : List Loc) (ls : Array Slot), lv_has ls 10 [(0, .ref (ad 32)), (1, .int x1), (2, .int x2), (3, .ref (ad 17)), (4, .int x4), (5, .int x5), (6, .int x6), (7, .int x7), (8, .int x8)] → va_P D vwCl (xW cI cZ ad M) H → va_S (xA ad) s.heap H locs → wX9_goOn_J75 B K155 Q x1 x2 x4 x5 x6 x7 x8 M → GX9_goOn p l e s m below meth c D cI cZ ad a1 a2 Q H locs (F0 m 75 ls []) := by
    intro B K155 hB hK155 x1 x2 x4 x5 x6 x7 x8 M H locs ls hl hP hS h
    refine lv_iload hx hb dX9_goOn_75 (lv_at hl 6 rfl) ?_
    refine lv_iload hx hb dX9_goOn_77 (lv_at hl 5 rfl) ?_
    refine lv_icmp_ge (tgt := 102) hx hb dX9_goOn_79 (by decide) (fun q79 => ?_) (fun q79 => ?_)
    · have h := h.1 q79
      exact J102 _ K155 hB hK155 x1 x2 x4 x5 x6 x8 M _ _ _ (lv_sub hl [0, 1, 2, 3, 4, 5, 6, 8] rfl) hP hS h
    · have h := h.2 q79
      refine lv_iload hx hb dX9_goOn_82 (lv_at hl 8 rfl) ?_
      refine lv_aload_n hx hb dX9_goOn_84 rfl (lv_at hl 0 rfl) ?_
      refine va_get (D := D) (ci := 9) (v := .ref (ad 34)) (C := RX9) (T := TX9) (N := 7) hx hb hts inX9 hown hK hP 32 (xW_32 cI cZ ad M) rfl 1 (by decide) k3 (fun _ h9 => h9) rfl dX9_goOn_85 ?_
      refine lv_iload hx hb dX9_goOn_88 (lv_at hl 7 rfl) ?_
      refine lv_iconst (v := 1) hx hb dX9_goOn_90 (by decide) ?_
      refine lv_iadd hx hb dX9_goOn_91 ?_
      obtain ⟨hi92, h⟩ := h
      refine va_iald hx hb hK hP 34 0 (xW_34 cI cZ ad M) rfl hi92 dX9_goOn_92 ?_
      refine lv_aload_n hx hb dX9_goOn_93 rfl (lv_at hl 3 rfl) ?_
      refine lv_iconst (v := 2) hx hb dX9_goOn_94 (by decide) ?_
      obtain ⟨hi95, h⟩ := h
      refine va_iald hx hb hK hP 17 0 (xW_17 cI cZ ad M) rfl hi95 dX9_goOn_95 ?_
      refine lv_iadd hx hb dX9_goOn_96 ?_
      refine va_mmin hx hb (hml.trans hl.1.symm) hown k4 k5 k6 k7 (Nat.le_of_ble_eq_true rfl) (Nat.le_of_ble_eq_true rfl) (Nat.zero_le _) (Nat.zero_le _) dX9_goOn_97 ?_
      refine lv_topi (fun v97 ev97 => ?_)
      have h := h v97 ev97
      refine lv_istore (lv' := [(8, .int v97), (0, .ref (ad 32)), (1, .int x1), (2, .int x2), (3, .ref (ad 17)), (4, .int x4), (5, .int x5), (6, .int x6), (7, .int x7)]) hx hb dX9_goOn_100 hl (by decide) rfl (fun ls hl => ?_)
      exact J102 _ K155 hB hK155 x1 x2 x4 x5 x6 v97 M _ _ _ (lv_sub hl [1, 2, 3, 4, 5, 6, 7, 0] rfl) hP hS h
  have L12 : ∀ (K155 : Int32 → Int32 → Mem → Prop), (∀ (x1 x4 : Int32) (M : Mem) (H : Heap) (locs : List Loc) (ls : Array Slot), lv_has ls 10 [(0, .ref (ad 32)), (1, .int x1), (4, .int x4)] → va_P D vwCl (xW cI cZ ad M) H → va_S (xA ad) s.heap H locs → K155 x1 x4 M → GX9_goOn p l e s m below meth c D cI cZ ad a1 a2 Q H locs (F0 m 155 ls [])) → ∀ n : Nat, ∀ (x1 x2 x4 x5 x6 : Int32) (M : Mem) (H : Heap) (locs : List Loc) (ls : Array Slot), lv_has ls 10 [(0, .ref (ad 32)), (1, .int x1), (2, .int x2), (3, .ref (ad 17)), (4, .int x4), (5, .int x5), (6, .int x6)] → va_P D vwCl (xW cI cZ ad M) H → va_S (xA ad) s.heap H locs → wX9_goOn_L12 K155 Q n x1 x2 x4 x5 x6 M → GX9_goOn p l e s m below meth c D cI cZ ad a1 a2 Q H locs (F0 m 12 ls []) := by
    intro K155 hK155 n
    induction n with
    | zero => intro x1 x2 x4 x5 x6 M H locs ls hl hP hS h; exact (show False from h).elim
    | succ n hB =>
      intro x1 x2 x4 x5 x6 M H locs ls hl hP hS h
      rw [wX9_goOn_L12_s] at h
      refine lv_iload hx hb dX9_goOn_12 (lv_at hl 6 rfl) ?_
      refine lv_iload hx hb dX9_goOn_14 (lv_at hl 5 rfl) ?_
      refine lv_icmp_gt (tgt := 155) hx hb dX9_goOn_16 (by decide) (fun q16 => ?_) (fun q16 => ?_)
      · have h := h.1 q16
        exact hK155 x1 x4 M _ _ _ (lv_sub hl [0, 1, 4] rfl) hP hS h
      · have h := h.2 q16
        refine lv_iload_n hx hb dX9_goOn_19 rfl (lv_at hl 2 rfl) ?_
        refine lv_bipush (v := 9) hx hb dX9_goOn_20 (by decide) ?_
        refine lv_imul hx hb dX9_goOn_22 ?_
        refine lv_iload hx hb dX9_goOn_23 (lv_at hl 6 rfl) ?_
        refine lv_iadd hx hb dX9_goOn_25 ?_
        refine lv_topi (fun x7_26 ex7_26 => ?_)
        have h := h x7_26 ex7_26
        refine lv_istore (lv' := [(7, .int x7_26), (0, .ref (ad 32)), (1, .int x1), (2, .int x2), (3, .ref (ad 17)), (4, .int x4), (5, .int x5), (6, .int x6)]) hx hb dX9_goOn_26 hl (by decide) rfl (fun ls hl => ?_)
        refine lv_aload_n hx hb dX9_goOn_28 rfl (lv_at hl 1 rfl) ?_
        refine va_get (D := D) (ci := 9) (v := .ref (ad 34)) (C := RX9) (T := TX9) (N := 7) hx hb hts inX9 hown hK hP 32 (xW_32 cI cZ ad M) rfl 1 (by decide) k3 (fun _ h9 => h9) rfl dX9_goOn_29 ?_
        refine lv_iload hx hb dX9_goOn_32 (lv_at hl 0 rfl) ?_
        obtain ⟨hi34, h⟩ := h
        refine va_iald hx hb hK hP 34 0 (xW_34 cI cZ ad M) rfl hi34 dX9_goOn_34 ?_
        refine lv_aload_n hx hb dX9_goOn_35 rfl (lv_at hl 1 rfl) ?_
        refine va_get (D := D) (ci := 9) (v := .ref (ad 35)) (C := RX9) (T := TX9) (N := 7) hx hb hts inX9 hown hK hP 32 (xW_32 cI cZ ad M) rfl 2 (by decide) k2 (fun _ h9 => h9) rfl dX9_goOn_36 ?_
        refine lv_iload_n hx hb dX9_goOn_39 rfl (lv_at hl 3 rfl) ?_
        obtain ⟨hi40, h⟩ := h
        refine va_iald hx hb hK hP 35 0 (xW_35 cI cZ ad M) rfl hi40 dX9_goOn_40 ?_
        refine lv_aload_n hx hb dX9_goOn_41 rfl (lv_at hl 4 rfl) ?_
        refine lv_iconst (v := 3) hx hb dX9_goOn_42 (by decide) ?_
        obtain ⟨hi43, h⟩ := h
        refine va_iald hx hb hK hP 17 0 (xW_17 cI cZ ad M) rfl hi43 dX9_goOn_43 ?_
        refine lv_iadd hx hb dX9_goOn_44 ?_
        refine va_mmin hx hb (hml.trans hl.1.symm) hown k4 k5 k6 k7 (Nat.le_of_ble_eq_true rfl) (Nat.le_of_ble_eq_true rfl) (Nat.zero_le _) (Nat.zero_le _) dX9_goOn_45 ?_
        refine lv_topi (fun v45 ev45 => ?_)
        have h := h v45 ev45
        refine lv_istore (lv' := [(8, .int v45), (7, .int x7_26), (0, .ref (ad 32)), (1, .int x1), (2, .int x2), (3, .ref (ad 17)), (4, .int x4), (5, .int x5), (6, .int x6)]) hx hb dX9_goOn_48 hl (by decide) rfl (fun ls hl => ?_)
        refine lv_iload hx hb dX9_goOn_50 (lv_at hl 8 rfl) ?_
        refine lv_if_le (tgt := 75) hx hb dX9_goOn_52 (by decide) (fun q52 => ?_) (fun q52 => ?_)
        · have h := h.1 q52
          exact J75 _ K155 hB hK155 x1 x2 x4 x5 x6 x7_26 v45 M _ _ _ (lv_sub hl [2, 3, 4, 5, 6, 7, 8, 1, 0] rfl) hP hS h
        · have h := h.2 q52
          refine lv_iload hx hb dX9_goOn_55 (lv_at hl 0 rfl) ?_
          refine lv_aload_n hx hb dX9_goOn_57 rfl (lv_at hl 2 rfl) ?_
          refine va_get (D := D) (ci := 9) (v := .ref (ad 34)) (C := RX9) (T := TX9) (N := 7) hx hb hts inX9 hown hK hP 32 (xW_32 cI cZ ad M) rfl 1 (by decide) k3 (fun _ h9 => h9) rfl dX9_goOn_58 ?_
          refine lv_iload hx hb dX9_goOn_61 (lv_at hl 1 rfl) ?_
          refine lv_iconst (v := 1) hx hb dX9_goOn_63 (by decide) ?_
          refine lv_isub hx hb dX9_goOn_64 ?_
          obtain ⟨hi65, h⟩ := h
          refine va_iald hx hb hK hP 34 0 (xW_34 cI cZ ad M) rfl hi65 dX9_goOn_65 ?_
          refine lv_aload_n hx hb dX9_goOn_66 rfl (lv_at hl 5 rfl) ?_
          refine lv_iconst (v := 2) hx hb dX9_goOn_67 (by decide) ?_
          obtain ⟨hi68, h⟩ := h
          refine va_iald hx hb hK hP 17 0 (xW_17 cI cZ ad M) rfl hi68 dX9_goOn_68 ?_
          refine lv_iadd hx hb dX9_goOn_69 ?_
          refine va_mmin hx hb (hml.trans hl.1.symm) hown k4 k5 k6 k7 (Nat.le_of_ble_eq_true rfl) (Nat.le_of_ble_eq_true rfl) (Nat.zero_le _) (Nat.zero_le _) dX9_goOn_70 ?_
          refine lv_topi (fun v70 ev70 => ?_)
          have h := h v70 ev70
          refine lv_istore (lv' := [(8, .int v70), (7, .int x7_26), (0, .ref (ad 32)), (1, .int x1), (2, .int x2), (3, .ref (ad 17)), (4, .int x4), (5, .int x5), (6, .int x6)]) hx hb dX9_goOn_73 hl (by decide) rfl (fun ls hl => ?_)
          exact J75 _ K155 hB hK155 x1 x2 x4 x5 x6 x7_26 v70 M _ _ _ (lv_sub hl [2, 3, 4, 5, 6, 7, 8, 1, 0] rfl) hP hS h
  have hl := lv_entry ([.ref (ad 32), .int a1, .int a2, .ref (ad 17)]) (n := 10) (Nat.le_of_ble_eq_true rfl)
  rw [lg_entry_eq]
  generalize (lg_sl ([.ref (ad 32), .int a1, .int a2, .ref (ad 17)]) ++ List.replicate (10 - (lg_sl ([.ref (ad 32), .int a1, .int a2, .ref (ad 17)])).length) Slot.unset).toArray = ls at hl ⊢
  have hl : lv_has ls 10 [(0, .ref (ad 32)), (1, .int a1), (2, .int a2), (3, .ref (ad 17))] := hl
  refine lv_ldc hx hb hown k8 dX9_goOn_0 ?_
  refine lv_istore (lv' := [(4, .int 2147483647), (0, .ref (ad 32)), (1, .int a1), (2, .int a2), (3, .ref (ad 17))]) hx hb dX9_goOn_2 hl (by decide) rfl (fun ls hl => ?_)
  refine lv_aload_n hx hb dX9_goOn_4 rfl (lv_at hl 4 rfl) ?_
  refine lv_iconst (v := 0) hx hb dX9_goOn_5 (by decide) ?_
  obtain ⟨hi6, h⟩ := h
  refine va_iald hx hb hK hP 17 0 (xW_17 cI cZ ad M) rfl hi6 dX9_goOn_6 ?_
  refine lv_topi (fun x5_7 ex5_7 => ?_)
  have h := h x5_7 ex5_7
  refine lv_istore (lv' := [(5, .int x5_7), (4, .int 2147483647), (0, .ref (ad 32)), (1, .int a1), (2, .int a2), (3, .ref (ad 17))]) hx hb dX9_goOn_7 hl (by decide) rfl (fun ls hl => ?_)
  refine lv_iconst (v := 0) hx hb dX9_goOn_9 (by decide) ?_
  refine lv_istore (lv' := [(6, .int 0), (5, .int x5_7), (4, .int 2147483647), (0, .ref (ad 32)), (1, .int a1), (2, .int a2), (3, .ref (ad 17))]) hx hb dX9_goOn_10 hl (by decide) rfl (fun ls hl => ?_)
  obtain ⟨n, h⟩ := h
  refine L12 _ (fun x1 x4 M H locs ls hl hP hS h => ?_) n a1 a2 2147483647 x5_7 0 M _ _ _ (lv_sub hl [3, 4, 5, 6, 2, 1, 0] rfl) hP hS h
  refine lv_aload_n hx hb dX9_goOn_155 rfl (lv_at hl 0 rfl) ?_
  refine va_get (D := D) (ci := 9) (v := .ref (ad 35)) (C := RX9) (T := TX9) (N := 7) hx hb hts inX9 hown hK hP 32 (xW_32 cI cZ ad M) rfl 2 (by decide) k2 (fun _ h9 => h9) rfl dX9_goOn_156 ?_
  refine lv_iload_n hx hb dX9_goOn_159 rfl (lv_at hl 1 rfl) ?_
  refine lv_iload hx hb dX9_goOn_160 (lv_at hl 2 rfl) ?_
  obtain ⟨hi162, h⟩ := h
  refine va_iast hx hb hK hP (hD M) hS 35 0 (xW_35 cI cZ ad M) rfl hi162 dX9_goOn_162 (fun H locs hP _ hS => ?_)
  refine xQ_35 hP (fun M162 eM162 hP => ?_)
  have h := h M162 eM162
  exact W.vret hx hb hr (fun t ht hW => ⟨⟨M162, rfl, h, xAt_of ht hP⟩, hS.F ht⟩) hS.2.2 dX9_goOn_163
set_option maxHeartbeats 4000000 in
set_option maxRecDepth 100000 in
theorem kX9_voteOf (l : Launch) (D : va_G) (cI cZ : ClassId) (ad : Nat → Nat) (zA zD zR : Nat) (hD : ∀ M : Mem, va_D (xA ad) (xW cI cZ ad M)) (M : Mem) (a1 a2 a3 : Int32) (Q : Int32 → Mem → Prop) (h : wX9_voteOf M a1 a2 a3 Q) : Met l yX9_voteOf uX9_voteOf ({ frames := 0, cells := 0, slots := 0, locals := 0 }) (va_Pc [.ref (ad 32), .int a1, .int a2, .int a3, .ref (ad 18)] (xPre D cI cZ ad zA zD zR M)) (va_Qi Q (xAt D cI cZ ad) (xA ad)) 0 0 (xA ad) := by
  refine Met.ofW (cc := cX9_voteOf) (maxL := 6) (ret := (some .int)) (by decide) rfl ?_
  intro p e s m args below meth c s₁ B hml hv
  obtain ⟨rfl, hP, hK, hZ, hN⟩ := hv
  have hx := B.exec
  have hb := B.bytes
  have hr := B.returns
  have hts := atoms_spec (ws := uX9_voteOf) B.pre
  have hown : s.vm.findClass RX9 = some m.cls := findClass_of_methodNamed B.named
  have hlocks := B.notSynchronized
  have hS : va_S (xA ad) s.heap s.heap [] := va_S.rf
  have k0 := hts (.fieldLink RX9 51 "TwoEyes$Costs" "left" "LTwoEyes$Stand;") (List.mem_cons_of_mem _ (inA_17 _ (List.mem_of_getElem? (i := 8) rfl)))
  have inX1 : ∀ w ∈ wsX10, w ∈ uX9_voteOf := fun w h => List.mem_cons_of_mem _ (inCX1 w h)
  have k2 := hts (.fieldLink RX9 57 "TwoEyes$Stand" "lost" "[Z") (List.mem_cons_of_mem _ (inA_17 _ (List.mem_of_getElem? (i := 9) rfl)))
  have inX8 : ∀ w ∈ wsX80, w ∈ uX9_voteOf := fun w h => List.mem_cons_of_mem _ (inCX8 w h)
  have k4 := hts (.fieldLink RX9 63 "TwoEyes$Costs" "table" "[I") (List.mem_cons_of_mem _ (inA_17 _ (List.mem_of_getElem? (i := 10) rfl)))
  have hl := lv_entry ([.ref (ad 32), .int a1, .int a2, .int a3, .ref (ad 18)]) (n := 6) (Nat.le_of_ble_eq_true rfl)
  rw [lg_entry_eq]
  generalize (lg_sl ([.ref (ad 32), .int a1, .int a2, .int a3, .ref (ad 18)]) ++ List.replicate (6 - (lg_sl ([.ref (ad 32), .int a1, .int a2, .int a3, .ref (ad 18)])).length) Slot.unset).toArray = ls at hl ⊢
  have hl : lv_has ls 6 [(0, .ref (ad 32)), (1, .int a1), (2, .int a2), (3, .int a3), (4, .ref (ad 18))] := hl
  refine lv_aload hx hb dX9_voteOf_0 (lv_at hl 4 rfl) ?_
  refine va_get (D := D) (ci := 1) (v := .ref (ad 19)) (C := RX1) (T := TX1) (N := 4) hx hb hts inX1 hown hK hP 18 (xW_18 cI cZ ad M) rfl 0 (by decide) k0 (fun _ h9 => h9) rfl dX9_voteOf_2 ?_
  refine va_get (D := D) (ci := 8) (v := .ref (ad 22)) (C := RX8) (T := TX8) (N := 3) hx hb hts inX8 hown hK hP 19 (xW_19 cI cZ ad M) rfl 2 (by decide) k2 (fun _ h9 => h9) rfl dX9_voteOf_5 ?_
  refine lv_iload_n hx hb dX9_voteOf_8 rfl (lv_at hl 1 rfl) ?_
  obtain ⟨hi9, h⟩ := h
  refine va_zald hx hb hK hP 22 1 (xW_22 cI cZ ad M) rfl hi9 dX9_voteOf_9 ?_
  refine lv_if_eq (tgt := 15) hx hb dX9_voteOf_10 (by decide) (fun q10 => ?_) (fun q10 => ?_)
  · have h := h.1 q10
    refine lv_iload_n hx hb dX9_voteOf_15 rfl (lv_at hl 3 rfl) ?_
    refine lv_iload_n hx hb dX9_voteOf_16 rfl (lv_at hl 2 rfl) ?_
    refine lv_icmp_le (tgt := 23) hx hb dX9_voteOf_17 (by decide) (fun q17 => ?_) (fun q17 => ?_)
    · have h := h.1 q17
      refine lv_aload hx hb dX9_voteOf_23 (lv_at hl 4 rfl) ?_
      refine va_get (D := D) (ci := 1) (v := .ref (ad 27)) (C := RX1) (T := TX1) (N := 4) hx hb hts inX1 hown hK hP 18 (xW_18 cI cZ ad M) rfl 2 (by decide) k4 (fun _ h9 => h9) rfl dX9_voteOf_25 ?_
      refine lv_iload_n hx hb dX9_voteOf_28 rfl (lv_at hl 1 rfl) ?_
      refine lv_bipush (v := 9) hx hb dX9_voteOf_29 (by decide) ?_
      refine lv_imul hx hb dX9_voteOf_31 ?_
      refine lv_iload_n hx hb dX9_voteOf_32 rfl (lv_at hl 3 rfl) ?_
      refine lv_iadd hx hb dX9_voteOf_33 ?_
      obtain ⟨hi34, h⟩ := h
      refine va_iald hx hb hK hP 27 0 (xW_27 cI cZ ad M) rfl hi34 dX9_voteOf_34 ?_
      refine lv_topi (fun x5_35 ex5_35 => ?_)
      have h := h x5_35 ex5_35
      refine lv_istore (lv' := [(5, .int x5_35), (0, .ref (ad 32)), (1, .int a1), (2, .int a2), (3, .int a3), (4, .ref (ad 18))]) hx hb dX9_voteOf_35 hl (by decide) rfl (fun ls hl => ?_)
      refine lv_iload hx hb dX9_voteOf_37 (lv_at hl 0 rfl) ?_
      refine lv_bipush (v := (-4)) hx hb dX9_voteOf_39 (by decide) ?_
      refine lv_icmp_ne (tgt := 48) hx hb dX9_voteOf_41 (by decide) (fun q41 => ?_) (fun q41 => ?_)
      · have h := h.1 q41
        refine lv_iload hx hb dX9_voteOf_48 (lv_at hl 0 rfl) ?_
        exact W.iret (v := x5_35) hx hb hr (fun t ht hW => ⟨⟨x5_35, M, rfl, h, xAt_of ht hP⟩, hS.F ht⟩) hS.2.2 dX9_voteOf_50
      · have h := h.2 q41
        refine lv_iconst (v := 0) hx hb dX9_voteOf_44 (by decide) ?_
        refine lv_goto (tgt := 50) hx hb dX9_voteOf_45 (by decide) ?_
        exact W.iret (v := 0) hx hb hr (fun t ht hW => ⟨⟨0, M, rfl, h, xAt_of ht hP⟩, hS.F ht⟩) hS.2.2 dX9_voteOf_50
    · have h := h.2 q17
      refine lv_bipush (v := 8) hx hb dX9_voteOf_20 (by decide) ?_
      exact W.iret (v := 8) hx hb hr (fun t ht hW => ⟨⟨8, M, rfl, h, xAt_of ht hP⟩, hS.F ht⟩) hS.2.2 dX9_voteOf_22
  · have h := h.2 q10
    refine lv_iconst (v := 0) hx hb dX9_voteOf_13 (by decide) ?_
    exact W.iret (v := 0) hx hb hr (fun t ht hW => ⟨⟨0, M, rfl, h, xAt_of ht hP⟩, hS.F ht⟩) hS.2.2 dX9_voteOf_14
abbrev GX9_vote (p : Program) (l : Launch) (e : Env) (s : State) (m : MethodId) (below : List Frame) (meth : Method) (c : Code) (D : va_G) (cI cZ : ClassId) (ad : Nat → Nat) (a3 : Int32) (Q : Mem → Prop) (H : Heap) (locs : List Loc) (g : JFrame) : Prop := W p l e (headSpec uX9_vote { frames := 1, cells := 0, slots := 0, locals := 25 }).room s m ([.ref (ad 32), .ref (ad 1), .ref (ad 18), .int a3] : List Value).toArray below meth c H locs 0 0 (MQ below (va_Qv Q (xAt D cI cZ ad) (xA ad)) ([.ref (ad 32), .ref (ad 1), .ref (ad 18), .int a3] : List Value).toArray s 0 0 (xA ad)) g
set_option maxHeartbeats 4000000 in
set_option maxRecDepth 100000 in
theorem kX9_vote (l : Launch) (D : va_G) (cI cZ : ClassId) (ad : Nat → Nat) (zA zD zR : Nat) (hD : ∀ M : Mem, va_D (xA ad) (xW cI cZ ad M)) (M : Mem) (a3 : Int32) (Q : Mem → Prop) (h : wX9_vote M a3 Q) : Met l yX9_vote uX9_vote ({ frames := 1, cells := 0, slots := 0, locals := 25 }) (va_Pc [.ref (ad 32), .ref (ad 1), .ref (ad 18), .int a3] (xPre D cI cZ ad zA zD zR M)) (va_Qv Q (xAt D cI cZ ad) (xA ad)) 0 0 (xA ad) := by
  refine Met.ofW (cc := cX9_vote) (maxL := 8) (ret := none) (by decide) rfl ?_
  intro p e s m args below meth c s₁ B hml hv
  obtain ⟨rfl, hP, hK, hZ, hN⟩ := hv
  have hx := B.exec
  have hb := B.bytes
  have hr := B.returns
  have hts := atoms_spec (ws := uX9_vote) B.pre
  have hown : s.vm.findClass RX9 = some m.cls := findClass_of_methodNamed B.named
  have hlocks := B.notSynchronized
  have hS : va_S (xA ad) s.heap s.heap [] := va_S.rf
  have k0 := hts (.fieldLink RX9 9 "TwoEyes$Sums" "votes" "[I") (List.mem_cons_of_mem _ (inA_5 _ (List.mem_of_getElem? (i := 1) rfl)))
  have inX9 : ∀ w ∈ wsX90, w ∈ uX9_vote := fun w h => List.mem_cons_of_mem _ (inCX9 w h)
  have k2 := hts (.fieldLink RX9 40 "TwoEyes$Scene" "width" "I") (List.mem_cons_of_mem _ (inA_16 _ (List.mem_of_getElem? (i := 22) rfl)))
  have inX6 : ∀ w ∈ wsX60, w ∈ uX9_vote := fun w h => List.mem_cons_of_mem _ (inCX6 w h)
  have k4 := hts (.fieldLink RX9 35 "TwoEyes$Scene" "height" "I") (List.mem_cons_of_mem _ (inA_16 _ (List.mem_of_getElem? (i := 21) rfl)))
  have k5 := hts (.fieldLink RX9 24 "TwoEyes$Sums" "voted" "Z") (List.mem_cons_of_mem _ (inA_5 _ (List.mem_of_getElem? (i := 5) rfl)))
  have L37 : ∀ (K73 : Int32 → Int32 → Int32 → Mem → Prop), (∀ (x3 x4 x5 : Int32) (M : Mem) (H : Heap) (locs : List Loc) (ls : Array Slot), lv_has ls 8 [(0, .ref (ad 32)), (1, .ref (ad 1)), (2, .ref (ad 18)), (3, .int x3), (4, .int x4), (5, .int x5)] → va_P D vwCl (xW cI cZ ad M) H → va_S (xA ad) s.heap H locs → K73 x3 x4 x5 M → GX9_vote p l e s m below meth c D cI cZ ad a3 Q H locs (F0 m 73 ls [])) → ∀ n : Nat, ∀ (x3 x4 x5 x6 x7 : Int32) (M : Mem) (H : Heap) (locs : List Loc) (ls : Array Slot), lv_has ls 8 [(0, .ref (ad 32)), (1, .ref (ad 1)), (2, .ref (ad 18)), (3, .int x3), (4, .int x4), (5, .int x5), (6, .int x6), (7, .int x7)] → va_P D vwCl (xW cI cZ ad M) H → va_S (xA ad) s.heap H locs → wX9_vote_L37 K73 Q n x3 x4 x5 x6 x7 M → GX9_vote p l e s m below meth c D cI cZ ad a3 Q H locs (F0 m 37 ls []) := by
    intro K73 hK73 n
    induction n with
    | zero => intro x3 x4 x5 x6 x7 M H locs ls hl hP hS h; exact (show False from h).elim
    | succ n hB =>
      intro x3 x4 x5 x6 x7 M H locs ls hl hP hS h
      rw [wX9_vote_L37_s] at h
      refine lv_iload hx hb dX9_vote_37 (lv_at hl 7 rfl) ?_
      refine lv_iload_n hx hb dX9_vote_39 rfl (lv_at hl 3 rfl) ?_
      refine lv_icmp_gt (tgt := 73) hx hb dX9_vote_40 (by decide) (fun q40 => ?_) (fun q40 => ?_)
      · have h := h.1 q40
        exact hK73 x3 x4 x5 M _ _ _ (lv_sub hl [0, 1, 2, 3, 4, 5] rfl) hP hS h
      · have h := h.2 q40
        refine lv_aload_n hx hb dX9_vote_43 rfl (lv_at hl 0 rfl) ?_
        refine va_get (D := D) (ci := 9) (v := .ref (ad 33)) (C := RX9) (T := TX9) (N := 7) hx hb hts inX9 hown hK hP 32 (xW_32 cI cZ ad M) rfl 0 (by decide) k0 (fun _ h9 => h9) rfl dX9_vote_44 ?_
        refine lv_iload hx hb dX9_vote_47 (lv_at hl 6 rfl) ?_
        refine lv_bipush (v := 9) hx hb dX9_vote_49 (by decide) ?_
        refine lv_imul hx hb dX9_vote_51 ?_
        refine lv_iload hx hb dX9_vote_52 (lv_at hl 7 rfl) ?_
        refine lv_iadd hx hb dX9_vote_54 ?_
        refine lv_aload_n hx hb dX9_vote_55 rfl (lv_at hl 0 rfl) ?_
        refine lv_iload hx hb dX9_vote_56 (lv_at hl 6 rfl) ?_
        refine lv_iload hx hb dX9_vote_58 (lv_at hl 5 rfl) ?_
        refine lv_iload hx hb dX9_vote_60 (lv_at hl 7 rfl) ?_
        refine lv_aload_n hx hb dX9_vote_62 rfl (lv_at hl 2 rfl) ?_
        refine x_callVi (As := [.int x6, .int x5, .int x7, .ref (ad 18)]) (rest := [.int ((x6 * 9) + x7), .ref (ad 33)]) ⟨hx, hb, hml, hown, hts⟩ (kX9_voteOf l D cI cZ ad zA zD zR hD M x6 x5 x7 _ h) (cwV 4 hts (gdV uS (inA_17 _ (List.mem_of_getElem? (i := 4) rfl)) vX9_voteOf) rfl rfl rfl (by decide +kernel) ⟨Nat.le_of_ble_eq_true rfl, Nat.le_of_ble_eq_true rfl⟩) (va_recv hK hP (ci := 9) (q0 := 32) rfl (xW_32 cI cZ ad M)) hP hK hZ hN hS hl.1 rfl rfl (Nat.le_of_ble_eq_true rfl) dX9_vote_63 (fun r63 M63 H locs h hP hS => ?_)
        obtain ⟨hi66, h⟩ := h
        refine va_iast hx hb hK hP (hD M63) hS 33 0 (xW_33 cI cZ ad M63) rfl hi66 dX9_vote_66 (fun H locs hP _ hS => ?_)
        refine xQ_33 hP (fun M66 eM66 hP => ?_)
        have h := h M66 eM66
        obtain ⟨x7_67, ex7_67⟩ : ∃ y : Int32, y = x7 + 1 := ⟨_, rfl⟩
        have h := h x7_67 ex7_67
        refine lv_iinc (v := x7_67) (lv' := [(7, .int x7_67), (0, .ref (ad 32)), (1, .ref (ad 1)), (2, .ref (ad 18)), (3, .int x3), (4, .int x4), (5, .int x5), (6, .int x6)]) hx hb dX9_vote_67 hl (k := 7) rfl (by rw [ex7_67]; rfl) (by decide) rfl (fun ls hl => ?_)
        refine lv_goto (tgt := 37) hx hb dX9_vote_70 (by decide) ?_
        exact hB x3 x4 x5 x6 x7_67 M66 _ _ _ (lv_sub hl [1, 2, 3, 4, 5, 6, 7, 0] rfl) hP hS h
  have L15 : ∀ (K79 : Int32 → Int32 → Mem → Prop), (∀ (x3 x4 : Int32) (M : Mem) (H : Heap) (locs : List Loc) (ls : Array Slot), lv_has ls 8 [(0, .ref (ad 32)), (1, .ref (ad 1)), (2, .ref (ad 18)), (3, .int x3), (4, .int x4)] → va_P D vwCl (xW cI cZ ad M) H → va_S (xA ad) s.heap H locs → K79 x3 x4 M → GX9_vote p l e s m below meth c D cI cZ ad a3 Q H locs (F0 m 79 ls [])) → ∀ n : Nat, ∀ (x3 x4 x5 : Int32) (M : Mem) (H : Heap) (locs : List Loc) (ls : Array Slot), lv_has ls 8 [(0, .ref (ad 32)), (1, .ref (ad 1)), (2, .ref (ad 18)), (3, .int x3), (4, .int x4), (5, .int x5)] → va_P D vwCl (xW cI cZ ad M) H → va_S (xA ad) s.heap H locs → wX9_vote_L15 K79 Q n x3 x4 x5 M → GX9_vote p l e s m below meth c D cI cZ ad a3 Q H locs (F0 m 15 ls []) := by
    intro K79 hK79 n
    induction n with
    | zero => intro x3 x4 x5 M H locs ls hl hP hS h; exact (show False from h).elim
    | succ n hB =>
      intro x3 x4 x5 M H locs ls hl hP hS h
      rw [wX9_vote_L15_s] at h
      refine lv_iload hx hb dX9_vote_15 (lv_at hl 5 rfl) ?_
      refine lv_aload_n hx hb dX9_vote_17 rfl (lv_at hl 1 rfl) ?_
      refine va_get (D := D) (ci := 6) (v := .int (M 1 0)) (C := RX6) (T := TX6) (N := 5) hx hb hts inX6 hown hK hP 1 (xW_1 cI cZ ad M) rfl 0 (by decide) k2 (fun _ h9 => h9) rfl dX9_vote_18 ?_
      refine lv_icmp_ge (tgt := 79) hx hb dX9_vote_21 (by decide) (fun q21 => ?_) (fun q21 => ?_)
      · have h := h.1 q21
        exact hK79 x3 x4 M _ _ _ (lv_sub hl [0, 1, 2, 3, 4] rfl) hP hS h
      · have h := h.2 q21
        refine lv_aload_n hx hb dX9_vote_24 rfl (lv_at hl 1 rfl) ?_
        refine lv_iload hx hb dX9_vote_25 (lv_at hl 5 rfl) ?_
        refine lv_iload hx hb dX9_vote_27 (lv_at hl 4 rfl) ?_
        refine x_callVi (As := [.int x5, .int x4]) (rest := []) ⟨hx, hb, hml, hown, hts⟩ (kX6_placeOf l D cI cZ ad zA zD zR hD M x5 x4 _ h) (cwV 2 hts (gdV uS (inA_17 _ (List.mem_of_getElem? (i := 3) rfl)) vX6_placeOf) rfl rfl rfl (by decide +kernel) ⟨Nat.le_of_ble_eq_true rfl, Nat.le_of_ble_eq_true rfl⟩) (va_recv hK hP (ci := 6) (q0 := 1) rfl (xW_1 cI cZ ad M)) hP hK hZ hN hS hl.1 rfl rfl (Nat.le_of_ble_eq_true rfl) dX9_vote_29 (fun r29 M29 H locs h hP hS => ?_)
        refine lv_istore (lv' := [(6, .int r29), (0, .ref (ad 32)), (1, .ref (ad 1)), (2, .ref (ad 18)), (3, .int x3), (4, .int x4), (5, .int x5)]) hx hb dX9_vote_32 hl (by decide) rfl (fun ls hl => ?_)
        refine lv_iconst (v := 0) hx hb dX9_vote_34 (by decide) ?_
        refine lv_istore (lv' := [(7, .int 0), (6, .int r29), (0, .ref (ad 32)), (1, .ref (ad 1)), (2, .ref (ad 18)), (3, .int x3), (4, .int x4), (5, .int x5)]) hx hb dX9_vote_35 hl (by decide) rfl (fun ls hl => ?_)
        obtain ⟨n, h⟩ := h
        refine L37 _ (fun x3 x4 x5 M H locs ls hl hP hS h => ?_) n x3 x4 x5 r29 0 M29 _ _ _ (lv_sub hl [2, 3, 4, 5, 6, 7, 1, 0] rfl) hP hS h
        obtain ⟨x5_73, ex5_73⟩ : ∃ y : Int32, y = x5 + 1 := ⟨_, rfl⟩
        have h := h x5_73 ex5_73
        refine lv_iinc (v := x5_73) (lv' := [(5, .int x5_73), (0, .ref (ad 32)), (1, .ref (ad 1)), (2, .ref (ad 18)), (3, .int x3), (4, .int x4)]) hx hb dX9_vote_73 hl (k := 5) rfl (by rw [ex5_73]; rfl) (by decide) rfl (fun ls hl => ?_)
        refine lv_goto (tgt := 15) hx hb dX9_vote_76 (by decide) ?_
        exact hB x3 x4 x5_73 M _ _ _ (lv_sub hl [1, 2, 3, 4, 5, 0] rfl) hP hS h
  have L3 : ∀ (K85 : Mem → Prop), (∀ (M : Mem) (H : Heap) (locs : List Loc) (ls : Array Slot), lv_has ls 8 [(0, .ref (ad 32))] → va_P D vwCl (xW cI cZ ad M) H → va_S (xA ad) s.heap H locs → K85 M → GX9_vote p l e s m below meth c D cI cZ ad a3 Q H locs (F0 m 85 ls [])) → ∀ n : Nat, ∀ (x3 x4 : Int32) (M : Mem) (H : Heap) (locs : List Loc) (ls : Array Slot), lv_has ls 8 [(0, .ref (ad 32)), (1, .ref (ad 1)), (2, .ref (ad 18)), (3, .int x3), (4, .int x4)] → va_P D vwCl (xW cI cZ ad M) H → va_S (xA ad) s.heap H locs → wX9_vote_L3 K85 Q n x3 x4 M → GX9_vote p l e s m below meth c D cI cZ ad a3 Q H locs (F0 m 3 ls []) := by
    intro K85 hK85 n
    induction n with
    | zero => intro x3 x4 M H locs ls hl hP hS h; exact (show False from h).elim
    | succ n hB =>
      intro x3 x4 M H locs ls hl hP hS h
      rw [wX9_vote_L3_s] at h
      refine lv_iload hx hb dX9_vote_3 (lv_at hl 4 rfl) ?_
      refine lv_aload_n hx hb dX9_vote_5 rfl (lv_at hl 1 rfl) ?_
      refine va_get (D := D) (ci := 6) (v := .int (M 1 1)) (C := RX6) (T := TX6) (N := 5) hx hb hts inX6 hown hK hP 1 (xW_1 cI cZ ad M) rfl 1 (by decide) k4 (fun _ h9 => h9) rfl dX9_vote_6 ?_
      refine lv_icmp_ge (tgt := 85) hx hb dX9_vote_9 (by decide) (fun q9 => ?_) (fun q9 => ?_)
      · have h := h.1 q9
        exact hK85 M _ _ _ (lv_sub hl [0] rfl) hP hS h
      · have h := h.2 q9
        refine lv_iconst (v := 0) hx hb dX9_vote_12 (by decide) ?_
        refine lv_istore (lv' := [(5, .int 0), (0, .ref (ad 32)), (1, .ref (ad 1)), (2, .ref (ad 18)), (3, .int x3), (4, .int x4)]) hx hb dX9_vote_13 hl (by decide) rfl (fun ls hl => ?_)
        obtain ⟨n, h⟩ := h
        refine L15 _ (fun x3 x4 M H locs ls hl hP hS h => ?_) n x3 x4 0 M _ _ _ (lv_sub hl [1, 2, 3, 4, 5, 0] rfl) hP hS h
        obtain ⟨x4_79, ex4_79⟩ : ∃ y : Int32, y = x4 + 1 := ⟨_, rfl⟩
        have h := h x4_79 ex4_79
        refine lv_iinc (v := x4_79) (lv' := [(4, .int x4_79), (0, .ref (ad 32)), (1, .ref (ad 1)), (2, .ref (ad 18)), (3, .int x3)]) hx hb dX9_vote_79 hl (k := 4) rfl (by rw [ex4_79]; rfl) (by decide) rfl (fun ls hl => ?_)
        refine lv_goto (tgt := 3) hx hb dX9_vote_82 (by decide) ?_
        exact hB x3 x4_79 M _ _ _ (lv_sub hl [1, 2, 3, 4, 0] rfl) hP hS h
  have hl := lv_entry ([.ref (ad 32), .ref (ad 1), .ref (ad 18), .int a3]) (n := 8) (Nat.le_of_ble_eq_true rfl)
  rw [lg_entry_eq]
  generalize (lg_sl ([.ref (ad 32), .ref (ad 1), .ref (ad 18), .int a3]) ++ List.replicate (8 - (lg_sl ([.ref (ad 32), .ref (ad 1), .ref (ad 18), .int a3])).length) Slot.unset).toArray = ls at hl ⊢
  have hl : lv_has ls 8 [(0, .ref (ad 32)), (1, .ref (ad 1)), (2, .ref (ad 18)), (3, .int a3)] := hl
  refine lv_iconst (v := 0) hx hb dX9_vote_0 (by decide) ?_
  refine lv_istore (lv' := [(4, .int 0), (0, .ref (ad 32)), (1, .ref (ad 1)), (2, .ref (ad 18)), (3, .int a3)]) hx hb dX9_vote_1 hl (by decide) rfl (fun ls hl => ?_)
  obtain ⟨n, h⟩ := h
  refine L3 _ (fun  M H locs ls hl hP hS h => ?_) n a3 0 M _ _ _ (lv_sub hl [1, 2, 3, 4, 0] rfl) hP hS h
  refine lv_aload_n hx hb dX9_vote_85 rfl (lv_at hl 0 rfl) ?_
  refine lv_iconst (v := 1) hx hb dX9_vote_86 (by decide) ?_
  refine va_put (D := D) (ci := 9) (v := .int 1) (ty := .boolean) (C := RX9) (T := TX9) (N := 7) hx hb hts inX9 tyX9 tyX9_ok nmX9 hown hK hP (hD M) hS 32 (xW_32 cI cZ ad M) rfl 4 (by decide) k5 (fun _ h9 => h9) rfl (by decide +kernel) rfl rfl (Nat.le_of_ble_eq_true rfl) dX9_vote_87 (fun H locs hP _ hS => ?_)
  refine xP_32_4 hP (fun M87 eM87 hP => ?_)
  have h := h M87 eM87
  exact W.vret hx hb hr (fun t ht hW => ⟨⟨M87, rfl, h, xAt_of ht hP⟩, hS.F ht⟩) hS.2.2 dX9_vote_90
abbrev GX9_goAlong (p : Program) (l : Launch) (e : Env) (s : State) (m : MethodId) (below : List Frame) (meth : Method) (c : Code) (D : va_G) (cI cZ : ClassId) (ad : Nat → Nat) (a1 : Int32) (Q : Mem → Prop) (H : Heap) (locs : List Loc) (g : JFrame) : Prop := W p l e (headSpec uX9_goAlong { frames := 2, cells := 0, slots := 0, locals := 52 }).room s m ([.ref (ad 32), .int a1, .ref (ad 1), .ref (ad 18), .ref (ad 17)] : List Value).toArray below meth c H locs 0 0 (MQ below (va_Qv Q (xAt D cI cZ ad) (xA ad)) ([.ref (ad 32), .int a1, .ref (ad 1), .ref (ad 18), .ref (ad 17)] : List Value).toArray s 0 0 (xA ad)) g
set_option maxHeartbeats 4000000 in
set_option maxRecDepth 100000 in
theorem kX9_goAlong (l : Launch) (D : va_G) (cI cZ : ClassId) (ad : Nat → Nat) (zA zD zR : Nat) (hD : ∀ M : Mem, va_D (xA ad) (xW cI cZ ad M)) (M : Mem) (a1 : Int32) (Q : Mem → Prop) (h : wX9_goAlong M a1 Q) : Met l yX9_goAlong uX9_goAlong ({ frames := 2, cells := 0, slots := 0, locals := 52 }) (va_Pc [.ref (ad 32), .int a1, .ref (ad 1), .ref (ad 18), .ref (ad 17)] (xPre D cI cZ ad zA zD zR M)) (va_Qv Q (xAt D cI cZ ad) (xA ad)) 0 0 (xA ad) := by
  refine Met.ofW (cc := cX9_goAlong) (maxL := 12) (ret := none) (by decide) rfl ?_
  intro p e s m args below meth c s₁ B hml hv
  obtain ⟨rfl, hP, hK, hZ, hN⟩ := hv
  have hx := B.exec
  have hb := B.bytes
  have hr := B.returns
  have hts := atoms_spec (ws := uX9_goAlong) B.pre
  have hown : s.vm.findClass RX9 = some m.cls := findClass_of_methodNamed B.named
  have hlocks := B.notSynchronized
  have hS : va_S (xA ad) s.heap s.heap [] := va_S.rf
  have k0 := hts (.fieldLink RX9 40 "TwoEyes$Scene" "width" "I") (List.mem_cons_of_mem _ (inA_16 _ (List.mem_of_getElem? (i := 22) rfl)))
  have inX6 : ∀ w ∈ wsX60, w ∈ uX9_goAlong := fun w h => List.mem_cons_of_mem _ (inCX6 w h)
  have k2 := hts (.fieldLink RX9 35 "TwoEyes$Scene" "height" "I") (List.mem_cons_of_mem _ (inA_16 _ (List.mem_of_getElem? (i := 21) rfl)))
  have k3 := hts (.fieldLink RX9 31 "TwoEyes$Sums" "way" "I") (List.mem_cons_of_mem _ (inA_5 _ (List.mem_of_getElem? (i := 7) rfl)))
  have inX9 : ∀ w ∈ wsX90, w ∈ uX9_goAlong := fun w h => List.mem_cons_of_mem _ (inCX9 w h)
  have k5 := hts (.fieldLink RX9 24 "TwoEyes$Sums" "voted" "Z") (List.mem_cons_of_mem _ (inA_5 _ (List.mem_of_getElem? (i := 5) rfl)))
  have J102 : ∀ (B : Int32 → Int32 → Int32 → Int32 → Int32 → Mem → Prop) (K182 : Int32 → Int32 → Int32 → Mem → Prop), (∀ (x1 x5 x6 x7 x8 : Int32) (M : Mem) (H : Heap) (locs : List Loc) (ls : Array Slot), lv_has ls 12 [(0, .ref (ad 32)), (1, .int x1), (2, .ref (ad 1)), (4, .ref (ad 17)), (5, .int x5), (6, .int x6), (7, .int x7), (8, .int x8)] → va_P D vwCl (xW cI cZ ad M) H → va_S (xA ad) s.heap H locs → B x1 x5 x6 x7 x8 M → GX9_goAlong p l e s m below meth c D cI cZ ad a1 Q H locs (F0 m 74 ls [])) → (∀ (x1 x5 x6 : Int32) (M : Mem) (H : Heap) (locs : List Loc) (ls : Array Slot), lv_has ls 12 [(0, .ref (ad 32)), (1, .int x1), (2, .ref (ad 1)), (4, .ref (ad 17)), (5, .int x5), (6, .int x6)] → va_P D vwCl (xW cI cZ ad M) H → va_S (xA ad) s.heap H locs → K182 x1 x5 x6 M → GX9_goAlong p l e s m below meth c D cI cZ ad a1 Q H locs (F0 m 182 ls [])) → ∀ (x1 x5 x6 x7 x8 t0 : Int32) (M : Mem) (H : Heap) (locs : List Loc) (ls : Array Slot), lv_has ls 12 [(0, .ref (ad 32)), (1, .int x1), (2, .ref (ad 1)), (4, .ref (ad 17)), (5, .int x5), (6, .int x6), (7, .int x7), (8, .int x8)] → va_P D vwCl (xW cI cZ ad M) H → va_S (xA ad) s.heap H locs → wX9_goAlong_J102 B K182 Q x1 x5 x6 x7 x8 t0 M → GX9_goAlong p l e s m below meth c D cI cZ ad a1 Q H locs (F0 m 102 ls [.int t0]) := by
    intro B K182 hB hK182 x1 x5 x6 x7 x8 t0 M H locs ls hl hP hS h
    refine lv_istore (lv' := [(9, .int t0), (0, .ref (ad 32)), (1, .int x1), (2, .ref (ad 1)), (4, .ref (ad 17)), (5, .int x5), (6, .int x6), (7, .int x7), (8, .int x8)]) hx hb dX9_goAlong_102 hl (by decide) rfl (fun ls hl => ?_)
    refine lv_iload hx hb dX9_goAlong_104 (lv_at hl 0 rfl) ?_
    refine va_getsN hx hb (hZ.1) hS hown (va_Nw.use rfl hN.2.2.1) (fun _ h9 => h9) dX9_goAlong_106 ?_
    refine lv_iload_n hx hb dX9_goAlong_109 rfl (lv_at hl 2 rfl) ?_
    obtain ⟨hi110, h⟩ := h
    refine va_ti hx hb (hZ.2.1) hS hi110 rfl dX9_goAlong_110 ?_
    refine lv_iadd hx hb dX9_goAlong_111 ?_
    refine lv_topi (fun x10_112 ex10_112 => ?_)
    have h := h x10_112 ex10_112
    refine lv_istore (lv' := [(10, .int x10_112), (9, .int t0), (0, .ref (ad 32)), (1, .int x1), (2, .ref (ad 1)), (4, .ref (ad 17)), (5, .int x5), (6, .int x6), (7, .int x7), (8, .int x8)]) hx hb dX9_goAlong_112 hl (by decide) rfl (fun ls hl => ?_)
    refine lv_iload hx hb dX9_goAlong_114 (lv_at hl 8 rfl) ?_
    refine va_getsN hx hb (hZ.2.2.1) hS hown (va_Nw.use rfl hN.2.2.2.1) (fun _ h9 => h9) dX9_goAlong_116 ?_
    refine lv_iload_n hx hb dX9_goAlong_119 rfl (lv_at hl 3 rfl) ?_
    obtain ⟨hi120, h⟩ := h
    refine va_ti hx hb (hZ.2.2.2.1) hS hi120 rfl dX9_goAlong_120 ?_
    refine lv_iadd hx hb dX9_goAlong_121 ?_
    refine lv_topi (fun x11_122 ex11_122 => ?_)
    have h := h x11_122 ex11_122
    refine lv_istore (lv' := [(11, .int x11_122), (10, .int x10_112), (9, .int t0), (0, .ref (ad 32)), (1, .int x1), (2, .ref (ad 1)), (4, .ref (ad 17)), (5, .int x5), (6, .int x6), (7, .int x7), (8, .int x8)]) hx hb dX9_goAlong_122 hl (by decide) rfl (fun ls hl => ?_)
    refine lv_aload_n hx hb dX9_goAlong_124 rfl (lv_at hl 5 rfl) ?_
    refine lv_iload hx hb dX9_goAlong_125 (lv_at hl 1 rfl) ?_
    refine lv_iload hx hb dX9_goAlong_127 (lv_at hl 0 rfl) ?_
    refine x_callVi (As := [.int x10_112, .int x11_122]) (rest := []) ⟨hx, hb, hml, hown, hts⟩ (kX6_hasSquare l D cI cZ ad zA zD zR hD M x10_112 x11_122 _ h) (cwV 2 hts (gdV uS (inA_17 _ (List.mem_of_getElem? (i := 11) rfl)) vX6_hasSquare) rfl rfl rfl (by decide +kernel) ⟨Nat.le_of_ble_eq_true rfl, Nat.le_of_ble_eq_true rfl⟩) (va_recv hK hP (ci := 6) (q0 := 1) rfl (xW_1 cI cZ ad M)) hP hK hZ hN hS hl.1 rfl rfl (Nat.le_of_ble_eq_true rfl) dX9_goAlong_129 (fun r129 M129 H locs h hP hS => ?_)
    refine lv_if_eq (tgt := 160) hx hb dX9_goAlong_132 (by decide) (fun q132 => ?_) (fun q132 => ?_)
    · have h := h.1 q132
      refine lv_aload_n hx hb dX9_goAlong_160 rfl (lv_at hl 3 rfl) ?_
      refine lv_aload_n hx hb dX9_goAlong_161 rfl (lv_at hl 5 rfl) ?_
      refine lv_iload hx hb dX9_goAlong_162 (lv_at hl 2 rfl) ?_
      refine lv_iload hx hb dX9_goAlong_164 (lv_at hl 9 rfl) ?_
      refine x_callVi (As := [.int t0, .int x7]) (rest := [.ref (ad 32)]) ⟨hx, hb, hml, hown, hts⟩ (kX6_placeOf l D cI cZ ad zA zD zR hD M129 t0 x7 _ h) (cwV 2 hts (gdV uS (inA_17 _ (List.mem_of_getElem? (i := 3) rfl)) vX6_placeOf) rfl rfl rfl (by decide +kernel) ⟨Nat.le_of_ble_eq_true rfl, Nat.le_of_ble_eq_true rfl⟩) (va_recv hK hP (ci := 6) (q0 := 1) rfl (xW_1 cI cZ ad M129)) hP hK hZ hN hS hl.1 rfl rfl (Nat.le_of_ble_eq_true rfl) dX9_goAlong_166 (fun r166 M166 H locs h hP hS => ?_)
      refine lv_aload hx hb dX9_goAlong_169 (lv_at hl 6 rfl) ?_
      refine lv_iconst (v := 0) hx hb dX9_goAlong_171 (by decide) ?_
      obtain ⟨hi172, h⟩ := h
      refine va_iald hx hb hK hP 17 0 (xW_17 cI cZ ad M166) rfl hi172 dX9_goAlong_172 ?_
      refine x_callVv (As := [.int r166, .int (M166 17 (0 : Int32).toNatClampNeg)]) (rest := []) ⟨hx, hb, hml, hown, hts⟩ (kX9_start l D cI cZ ad zA zD zR hD M166 r166 (M166 17 (0 : Int32).toNatClampNeg) _ h) (cwV 2 hts (gdV uS (inA_17 _ (List.mem_of_getElem? (i := 21) rfl)) vX9_start) rfl rfl rfl (by decide +kernel) ⟨Nat.le_of_ble_eq_true rfl, Nat.le_of_ble_eq_true rfl⟩) (va_recv hK hP (ci := 9) (q0 := 32) rfl (xW_32 cI cZ ad M166)) hP hK hZ hN hS hl.1 rfl rfl (Nat.le_of_ble_eq_true rfl) dX9_goAlong_173 (fun M173 H locs h hP hS => ?_)
      obtain ⟨x8_176, ex8_176⟩ : ∃ y : Int32, y = x8 + 1 := ⟨_, rfl⟩
      have h := h x8_176 ex8_176
      refine lv_iinc (v := x8_176) (lv' := [(8, .int x8_176), (11, .int x11_122), (10, .int x10_112), (9, .int t0), (0, .ref (ad 32)), (1, .int x1), (2, .ref (ad 1)), (4, .ref (ad 17)), (5, .int x5), (6, .int x6), (7, .int x7)]) hx hb dX9_goAlong_176 hl (k := 10) rfl (by rw [ex8_176]; rfl) (by decide) rfl (fun ls hl => ?_)
      refine lv_goto (tgt := 74) hx hb dX9_goAlong_179 (by decide) ?_
      exact hB x1 x5 x6 x7 x8_176 M173 _ _ _ (lv_sub hl [4, 5, 6, 7, 8, 9, 10, 0] rfl) hP hS h
    · have h := h.2 q132
      refine lv_aload_n hx hb dX9_goAlong_135 rfl (lv_at hl 3 rfl) ?_
      refine lv_aload_n hx hb dX9_goAlong_136 rfl (lv_at hl 5 rfl) ?_
      refine lv_iload hx hb dX9_goAlong_137 (lv_at hl 2 rfl) ?_
      refine lv_iload hx hb dX9_goAlong_139 (lv_at hl 9 rfl) ?_
      refine x_callVi (As := [.int t0, .int x7]) (rest := [.ref (ad 32)]) ⟨hx, hb, hml, hown, hts⟩ (kX6_placeOf l D cI cZ ad zA zD zR hD M129 t0 x7 _ h) (cwV 2 hts (gdV uS (inA_17 _ (List.mem_of_getElem? (i := 3) rfl)) vX6_placeOf) rfl rfl rfl (by decide +kernel) ⟨Nat.le_of_ble_eq_true rfl, Nat.le_of_ble_eq_true rfl⟩) (va_recv hK hP (ci := 6) (q0 := 1) rfl (xW_1 cI cZ ad M129)) hP hK hZ hN hS hl.1 rfl rfl (Nat.le_of_ble_eq_true rfl) dX9_goAlong_141 (fun r141 M141 H locs h hP hS => ?_)
      refine lv_aload_n hx hb dX9_goAlong_144 rfl (lv_at hl 5 rfl) ?_
      refine lv_iload hx hb dX9_goAlong_145 (lv_at hl 1 rfl) ?_
      refine lv_iload hx hb dX9_goAlong_147 (lv_at hl 0 rfl) ?_
      refine x_callVi (As := [.int x10_112, .int x11_122]) (rest := [.int r141, .ref (ad 32)]) ⟨hx, hb, hml, hown, hts⟩ (kX6_placeOf l D cI cZ ad zA zD zR hD M141 x10_112 x11_122 _ h) (cwV 2 hts (gdV uS (inA_17 _ (List.mem_of_getElem? (i := 3) rfl)) vX6_placeOf) rfl rfl rfl (by decide +kernel) ⟨Nat.le_of_ble_eq_true rfl, Nat.le_of_ble_eq_true rfl⟩) (va_recv hK hP (ci := 6) (q0 := 1) rfl (xW_1 cI cZ ad M141)) hP hK hZ hN hS hl.1 rfl rfl (Nat.le_of_ble_eq_true rfl) dX9_goAlong_149 (fun r149 M149 H locs h hP hS => ?_)
      refine lv_aload hx hb dX9_goAlong_152 (lv_at hl 6 rfl) ?_
      refine x_callVv (As := [.int r141, .int r149, .ref (ad 17)]) (rest := []) ⟨hx, hb, hml, hown, hts⟩ (kX9_goOn l D cI cZ ad zA zD zR hD M149 r141 r149 _ h) (cwV 3 hts (gdV uS (inA_17 _ (List.mem_of_getElem? (i := 12) rfl)) vX9_goOn) rfl rfl rfl (by decide +kernel) ⟨Nat.le_of_ble_eq_true rfl, Nat.le_of_ble_eq_true rfl⟩) (va_recv hK hP (ci := 9) (q0 := 32) rfl (xW_32 cI cZ ad M149)) hP hK hZ hN hS hl.1 rfl rfl (Nat.le_of_ble_eq_true rfl) dX9_goAlong_154 (fun M154 H locs h hP hS => ?_)
      refine lv_goto (tgt := 176) hx hb dX9_goAlong_157 (by decide) ?_
      obtain ⟨x8_176, ex8_176⟩ : ∃ y : Int32, y = x8 + 1 := ⟨_, rfl⟩
      have h := h x8_176 ex8_176
      refine lv_iinc (v := x8_176) (lv' := [(8, .int x8_176), (11, .int x11_122), (10, .int x10_112), (9, .int t0), (0, .ref (ad 32)), (1, .int x1), (2, .ref (ad 1)), (4, .ref (ad 17)), (5, .int x5), (6, .int x6), (7, .int x7)]) hx hb dX9_goAlong_176 hl (k := 10) rfl (by rw [ex8_176]; rfl) (by decide) rfl (fun ls hl => ?_)
      refine lv_goto (tgt := 74) hx hb dX9_goAlong_179 (by decide) ?_
      exact hB x1 x5 x6 x7 x8_176 M154 _ _ _ (lv_sub hl [4, 5, 6, 7, 8, 9, 10, 0] rfl) hP hS h
  have L74 : ∀ (K182 : Int32 → Int32 → Int32 → Mem → Prop), (∀ (x1 x5 x6 : Int32) (M : Mem) (H : Heap) (locs : List Loc) (ls : Array Slot), lv_has ls 12 [(0, .ref (ad 32)), (1, .int x1), (2, .ref (ad 1)), (4, .ref (ad 17)), (5, .int x5), (6, .int x6)] → va_P D vwCl (xW cI cZ ad M) H → va_S (xA ad) s.heap H locs → K182 x1 x5 x6 M → GX9_goAlong p l e s m below meth c D cI cZ ad a1 Q H locs (F0 m 182 ls [])) → ∀ n : Nat, ∀ (x1 x5 x6 x7 x8 : Int32) (M : Mem) (H : Heap) (locs : List Loc) (ls : Array Slot), lv_has ls 12 [(0, .ref (ad 32)), (1, .int x1), (2, .ref (ad 1)), (4, .ref (ad 17)), (5, .int x5), (6, .int x6), (7, .int x7), (8, .int x8)] → va_P D vwCl (xW cI cZ ad M) H → va_S (xA ad) s.heap H locs → wX9_goAlong_L74 K182 Q n x1 x5 x6 x7 x8 M → GX9_goAlong p l e s m below meth c D cI cZ ad a1 Q H locs (F0 m 74 ls []) := by
    intro K182 hK182 n
    induction n with
    | zero => intro x1 x5 x6 x7 x8 M H locs ls hl hP hS h; exact (show False from h).elim
    | succ n hB =>
      intro x1 x5 x6 x7 x8 M H locs ls hl hP hS h
      rw [wX9_goAlong_L74_s] at h
      refine lv_iload hx hb dX9_goAlong_74 (lv_at hl 7 rfl) ?_
      refine lv_aload_n hx hb dX9_goAlong_76 rfl (lv_at hl 2 rfl) ?_
      refine va_get (D := D) (ci := 6) (v := .int (M 1 0)) (C := RX6) (T := TX6) (N := 5) hx hb hts inX6 hown hK hP 1 (xW_1 cI cZ ad M) rfl 0 (by decide) k0 (fun _ h9 => h9) rfl dX9_goAlong_77 ?_
      refine lv_icmp_ge (tgt := 182) hx hb dX9_goAlong_80 (by decide) (fun q80 => ?_) (fun q80 => ?_)
      · have h := h.1 q80
        exact hK182 x1 x5 x6 M _ _ _ (lv_sub hl [0, 1, 2, 3, 4, 5] rfl) hP hS h
      · have h := h.2 q80
        refine lv_iload hx hb dX9_goAlong_83 (lv_at hl 4 rfl) ?_
        refine lv_if_eq (tgt := 93) hx hb dX9_goAlong_85 (by decide) (fun q85 => ?_) (fun q85 => ?_)
        · have h := h.1 q85
          refine lv_aload_n hx hb dX9_goAlong_93 rfl (lv_at hl 2 rfl) ?_
          refine va_get (D := D) (ci := 6) (v := .int (M 1 0)) (C := RX6) (T := TX6) (N := 5) hx hb hts inX6 hown hK hP 1 (xW_1 cI cZ ad M) rfl 0 (by decide) k0 (fun _ h9 => h9) rfl dX9_goAlong_94 ?_
          refine lv_iconst (v := 1) hx hb dX9_goAlong_97 (by decide) ?_
          refine lv_isub hx hb dX9_goAlong_98 ?_
          refine lv_iload hx hb dX9_goAlong_99 (lv_at hl 7 rfl) ?_
          refine lv_isub hx hb dX9_goAlong_101 ?_
          exact J102 _ K182 hB hK182 x1 x5 x6 x7 x8 (((M 1 0) - 1) - x8) M _ _ _ (lv_sub hl [0, 1, 2, 3, 4, 5, 6, 7] rfl) hP hS h
        · have h := h.2 q85
          refine lv_iload hx hb dX9_goAlong_88 (lv_at hl 7 rfl) ?_
          refine lv_goto (tgt := 102) hx hb dX9_goAlong_90 (by decide) ?_
          exact J102 _ K182 hB hK182 x1 x5 x6 x7 x8 x8 M _ _ _ (lv_sub hl [0, 1, 2, 3, 4, 5, 6, 7] rfl) hP hS h
  have L41 : ∀ (K188 : Int32 → Mem → Prop), (∀ (x1 : Int32) (M : Mem) (H : Heap) (locs : List Loc) (ls : Array Slot), lv_has ls 12 [(0, .ref (ad 32)), (1, .int x1)] → va_P D vwCl (xW cI cZ ad M) H → va_S (xA ad) s.heap H locs → K188 x1 M → GX9_goAlong p l e s m below meth c D cI cZ ad a1 Q H locs (F0 m 188 ls [])) → ∀ n : Nat, ∀ (x1 x5 x6 : Int32) (M : Mem) (H : Heap) (locs : List Loc) (ls : Array Slot), lv_has ls 12 [(0, .ref (ad 32)), (1, .int x1), (2, .ref (ad 1)), (4, .ref (ad 17)), (5, .int x5), (6, .int x6)] → va_P D vwCl (xW cI cZ ad M) H → va_S (xA ad) s.heap H locs → wX9_goAlong_L41 K188 Q n x1 x5 x6 M → GX9_goAlong p l e s m below meth c D cI cZ ad a1 Q H locs (F0 m 41 ls []) := by
    intro K188 hK188 n
    induction n with
    | zero => intro x1 x5 x6 M H locs ls hl hP hS h; exact (show False from h).elim
    | succ n hB =>
      intro x1 x5 x6 M H locs ls hl hP hS h
      rw [wX9_goAlong_L41_s] at h
      refine lv_iload hx hb dX9_goAlong_41 (lv_at hl 5 rfl) ?_
      refine lv_aload_n hx hb dX9_goAlong_43 rfl (lv_at hl 2 rfl) ?_
      refine va_get (D := D) (ci := 6) (v := .int (M 1 1)) (C := RX6) (T := TX6) (N := 5) hx hb hts inX6 hown hK hP 1 (xW_1 cI cZ ad M) rfl 1 (by decide) k2 (fun _ h9 => h9) rfl dX9_goAlong_44 ?_
      refine lv_icmp_ge (tgt := 188) hx hb dX9_goAlong_47 (by decide) (fun q47 => ?_) (fun q47 => ?_)
      · have h := h.1 q47
        exact hK188 x1 M _ _ _ (lv_sub hl [0, 1] rfl) hP hS h
      · have h := h.2 q47
        refine lv_iload hx hb dX9_goAlong_50 (lv_at hl 4 rfl) ?_
        refine lv_if_eq (tgt := 60) hx hb dX9_goAlong_52 (by decide) (fun q52 => ?_) (fun q52 => ?_)
        · have h := h.1 q52
          refine lv_aload_n hx hb dX9_goAlong_60 rfl (lv_at hl 2 rfl) ?_
          refine va_get (D := D) (ci := 6) (v := .int (M 1 1)) (C := RX6) (T := TX6) (N := 5) hx hb hts inX6 hown hK hP 1 (xW_1 cI cZ ad M) rfl 1 (by decide) k2 (fun _ h9 => h9) rfl dX9_goAlong_61 ?_
          refine lv_iconst (v := 1) hx hb dX9_goAlong_64 (by decide) ?_
          refine lv_isub hx hb dX9_goAlong_65 ?_
          refine lv_iload hx hb dX9_goAlong_66 (lv_at hl 5 rfl) ?_
          refine lv_isub hx hb dX9_goAlong_68 ?_
          refine lv_topi (fun x7_69 ex7_69 => ?_)
          have h := h x7_69 ex7_69
          refine lv_istore (lv' := [(7, .int x7_69), (0, .ref (ad 32)), (1, .int x1), (2, .ref (ad 1)), (4, .ref (ad 17)), (5, .int x5), (6, .int x6)]) hx hb dX9_goAlong_69 hl (by decide) rfl (fun ls hl => ?_)
          refine lv_iconst (v := 0) hx hb dX9_goAlong_71 (by decide) ?_
          refine lv_istore (lv' := [(8, .int 0), (7, .int x7_69), (0, .ref (ad 32)), (1, .int x1), (2, .ref (ad 1)), (4, .ref (ad 17)), (5, .int x5), (6, .int x6)]) hx hb dX9_goAlong_72 hl (by decide) rfl (fun ls hl => ?_)
          obtain ⟨n, h⟩ := h
          refine L74 _ (fun x1 x5 x6 M H locs ls hl hP hS h => ?_) n x1 x5 x6 x7_69 0 M _ _ _ (lv_sub hl [2, 3, 4, 5, 6, 7, 1, 0] rfl) hP hS h
          obtain ⟨x6_182, ex6_182⟩ : ∃ y : Int32, y = x6 + 1 := ⟨_, rfl⟩
          have h := h x6_182 ex6_182
          refine lv_iinc (v := x6_182) (lv' := [(6, .int x6_182), (0, .ref (ad 32)), (1, .int x1), (2, .ref (ad 1)), (4, .ref (ad 17)), (5, .int x5)]) hx hb dX9_goAlong_182 hl (k := 5) rfl (by rw [ex6_182]; rfl) (by decide) rfl (fun ls hl => ?_)
          refine lv_goto (tgt := 41) hx hb dX9_goAlong_185 (by decide) ?_
          exact hB x1 x5 x6_182 M _ _ _ (lv_sub hl [1, 2, 3, 4, 5, 0] rfl) hP hS h
        · have h := h.2 q52
          refine lv_iload hx hb dX9_goAlong_55 (lv_at hl 5 rfl) ?_
          refine lv_goto (tgt := 69) hx hb dX9_goAlong_57 (by decide) ?_
          refine lv_istore (lv' := [(7, .int x6), (0, .ref (ad 32)), (1, .int x1), (2, .ref (ad 1)), (4, .ref (ad 17)), (5, .int x5), (6, .int x6)]) hx hb dX9_goAlong_69 hl (by decide) rfl (fun ls hl => ?_)
          refine lv_iconst (v := 0) hx hb dX9_goAlong_71 (by decide) ?_
          refine lv_istore (lv' := [(8, .int 0), (7, .int x6), (0, .ref (ad 32)), (1, .int x1), (2, .ref (ad 1)), (4, .ref (ad 17)), (5, .int x5), (6, .int x6)]) hx hb dX9_goAlong_72 hl (by decide) rfl (fun ls hl => ?_)
          obtain ⟨n, h⟩ := h
          refine L74 _ (fun x1 x5 x6 M H locs ls hl hP hS h => ?_) n x1 x5 x6 x6 0 M _ _ _ (lv_sub hl [2, 3, 4, 5, 6, 7, 1, 0] rfl) hP hS h
          obtain ⟨x6_182, ex6_182⟩ : ∃ y : Int32, y = x6 + 1 := ⟨_, rfl⟩
          have h := h x6_182 ex6_182
          refine lv_iinc (v := x6_182) (lv' := [(6, .int x6_182), (0, .ref (ad 32)), (1, .int x1), (2, .ref (ad 1)), (4, .ref (ad 17)), (5, .int x5)]) hx hb dX9_goAlong_182 hl (k := 5) rfl (by rw [ex6_182]; rfl) (by decide) rfl (fun ls hl => ?_)
          refine lv_goto (tgt := 41) hx hb dX9_goAlong_185 (by decide) ?_
          exact hB x1 x5 x6_182 M _ _ _ (lv_sub hl [1, 2, 3, 4, 5, 0] rfl) hP hS h
  have J26 : ∀ (x1 : Int32) (M : Mem) (H : Heap) (locs : List Loc) (ls : Array Slot), lv_has ls 12 [(0, .ref (ad 32)), (1, .int x1), (2, .ref (ad 1)), (4, .ref (ad 17))] → va_P D vwCl (xW cI cZ ad M) H → va_S (xA ad) s.heap H locs → wX9_goAlong_J26 Q x1 M → GX9_goAlong p l e s m below meth c D cI cZ ad a1 Q H locs (F0 m 26 ls []) := by
    intro x1 M H locs ls hl hP hS h
    refine lv_iload_n hx hb dX9_goAlong_26 rfl (lv_at hl 1 rfl) ?_
    refine lv_iconst (v := 4) hx hb dX9_goAlong_27 (by decide) ?_
    refine lv_icmp_ge (tgt := 35) hx hb dX9_goAlong_28 (by decide) (fun q28 => ?_) (fun q28 => ?_)
    · have h := h.1 q28
      refine lv_iconst (v := 0) hx hb dX9_goAlong_35 (by decide) ?_
      refine lv_istore (lv' := [(5, .int 0), (0, .ref (ad 32)), (1, .int x1), (2, .ref (ad 1)), (4, .ref (ad 17))]) hx hb dX9_goAlong_36 hl (by decide) rfl (fun ls hl => ?_)
      refine lv_iconst (v := 0) hx hb dX9_goAlong_38 (by decide) ?_
      refine lv_istore (lv' := [(6, .int 0), (5, .int 0), (0, .ref (ad 32)), (1, .int x1), (2, .ref (ad 1)), (4, .ref (ad 17))]) hx hb dX9_goAlong_39 hl (by decide) rfl (fun ls hl => ?_)
      obtain ⟨n, h⟩ := h
      refine L41 _ (fun x1 M H locs ls hl hP hS h => ?_) n x1 0 0 M _ _ _ (lv_sub hl [2, 3, 4, 5, 1, 0] rfl) hP hS h
      refine lv_aload_n hx hb dX9_goAlong_188 rfl (lv_at hl 0 rfl) ?_
      refine lv_iload_n hx hb dX9_goAlong_189 rfl (lv_at hl 1 rfl) ?_
      refine va_put (D := D) (ci := 9) (v := .int x1) (ty := .int) (C := RX9) (T := TX9) (N := 7) hx hb hts inX9 tyX9 tyX9_ok nmX9 hown hK hP (hD M) hS 32 (xW_32 cI cZ ad M) rfl 6 (by decide) k3 (fun _ h9 => h9) rfl (by decide +kernel) rfl rfl (Nat.le_of_ble_eq_true rfl) dX9_goAlong_190 (fun H locs hP _ hS => ?_)
      refine xP_32_6 hP (fun M190 eM190 hP => ?_)
      have h := h M190 eM190
      exact W.vret hx hb hr (fun t ht hW => ⟨⟨M190, rfl, h, xAt_of ht hP⟩, hS.F ht⟩) hS.2.2 dX9_goAlong_193
    · have h := h.2 q28
      refine lv_iconst (v := 1) hx hb dX9_goAlong_31 (by decide) ?_
      refine lv_goto (tgt := 36) hx hb dX9_goAlong_32 (by decide) ?_
      refine lv_istore (lv' := [(5, .int 1), (0, .ref (ad 32)), (1, .int x1), (2, .ref (ad 1)), (4, .ref (ad 17))]) hx hb dX9_goAlong_36 hl (by decide) rfl (fun ls hl => ?_)
      refine lv_iconst (v := 0) hx hb dX9_goAlong_38 (by decide) ?_
      refine lv_istore (lv' := [(6, .int 0), (5, .int 1), (0, .ref (ad 32)), (1, .int x1), (2, .ref (ad 1)), (4, .ref (ad 17))]) hx hb dX9_goAlong_39 hl (by decide) rfl (fun ls hl => ?_)
      obtain ⟨n, h⟩ := h
      refine L41 _ (fun x1 M H locs ls hl hP hS h => ?_) n x1 1 0 M _ _ _ (lv_sub hl [2, 3, 4, 5, 1, 0] rfl) hP hS h
      refine lv_aload_n hx hb dX9_goAlong_188 rfl (lv_at hl 0 rfl) ?_
      refine lv_iload_n hx hb dX9_goAlong_189 rfl (lv_at hl 1 rfl) ?_
      refine va_put (D := D) (ci := 9) (v := .int x1) (ty := .int) (C := RX9) (T := TX9) (N := 7) hx hb hts inX9 tyX9 tyX9_ok nmX9 hown hK hP (hD M) hS 32 (xW_32 cI cZ ad M) rfl 6 (by decide) k3 (fun _ h9 => h9) rfl (by decide +kernel) rfl rfl (Nat.le_of_ble_eq_true rfl) dX9_goAlong_190 (fun H locs hP _ hS => ?_)
      refine xP_32_6 hP (fun M190 eM190 hP => ?_)
      have h := h M190 eM190
      exact W.vret hx hb hr (fun t ht hW => ⟨⟨M190, rfl, h, xAt_of ht hP⟩, hS.F ht⟩) hS.2.2 dX9_goAlong_193
  have hl := lv_entry ([.ref (ad 32), .int a1, .ref (ad 1), .ref (ad 18), .ref (ad 17)]) (n := 12) (Nat.le_of_ble_eq_true rfl)
  rw [lg_entry_eq]
  generalize (lg_sl ([.ref (ad 32), .int a1, .ref (ad 1), .ref (ad 18), .ref (ad 17)]) ++ List.replicate (12 - (lg_sl ([.ref (ad 32), .int a1, .ref (ad 1), .ref (ad 18), .ref (ad 17)])).length) Slot.unset).toArray = ls at hl ⊢
  have hl : lv_has ls 12 [(0, .ref (ad 32)), (1, .int a1), (2, .ref (ad 1)), (3, .ref (ad 18)), (4, .ref (ad 17))] := hl
  refine lv_aload_n hx hb dX9_goAlong_0 rfl (lv_at hl 0 rfl) ?_
  refine va_get (D := D) (ci := 9) (v := .int (M 32 6)) (C := RX9) (T := TX9) (N := 7) hx hb hts inX9 hown hK hP 32 (xW_32 cI cZ ad M) rfl 6 (by decide) k3 (fun _ h9 => h9) rfl dX9_goAlong_1 ?_
  refine lv_iload_n hx hb dX9_goAlong_4 rfl (lv_at hl 1 rfl) ?_
  refine lv_icmp_ne (tgt := 9) hx hb dX9_goAlong_5 (by decide) (fun q5 => ?_) (fun q5 => ?_)
  · have h := h.1 q5
    refine lv_aload_n hx hb dX9_goAlong_9 rfl (lv_at hl 0 rfl) ?_
    refine va_get (D := D) (ci := 9) (v := .int (M 32 4)) (C := RX9) (T := TX9) (N := 7) hx hb hts inX9 hown hK hP 32 (xW_32 cI cZ ad M) rfl 4 (by decide) k5 (fun _ h9 => h9) rfl dX9_goAlong_10 ?_
    refine lv_if_ne (tgt := 26) hx hb dX9_goAlong_13 (by decide) (fun q13 => ?_) (fun q13 => ?_)
    · have h := h.1 q13
      exact J26 a1 M _ _ _ (lv_sub hl [0, 1, 2, 4] rfl) hP hS h
    · have h := h.2 q13
      refine lv_aload_n hx hb dX9_goAlong_16 rfl (lv_at hl 0 rfl) ?_
      refine lv_aload_n hx hb dX9_goAlong_17 rfl (lv_at hl 2 rfl) ?_
      refine lv_aload_n hx hb dX9_goAlong_18 rfl (lv_at hl 3 rfl) ?_
      refine lv_aload hx hb dX9_goAlong_19 (lv_at hl 4 rfl) ?_
      refine lv_iconst (v := 0) hx hb dX9_goAlong_21 (by decide) ?_
      obtain ⟨hi22, h⟩ := h
      refine va_iald hx hb hK hP 17 0 (xW_17 cI cZ ad M) rfl hi22 dX9_goAlong_22 ?_
      refine x_callVv (As := [.ref (ad 1), .ref (ad 18), .int (M 17 (0 : Int32).toNatClampNeg)]) (rest := []) ⟨hx, hb, hml, hown, hts⟩ (kX9_vote l D cI cZ ad zA zD zR hD M (M 17 (0 : Int32).toNatClampNeg) _ h) (cwV 3 hts (gdV uS (inA_16 _ (List.mem_of_getElem? (i := 23) rfl)) vX9_vote) rfl rfl rfl (by decide +kernel) ⟨Nat.le_of_ble_eq_true rfl, Nat.le_of_ble_eq_true rfl⟩) (va_recv hK hP (ci := 9) (q0 := 32) rfl (xW_32 cI cZ ad M)) hP hK hZ hN hS hl.1 rfl rfl (Nat.le_of_ble_eq_true rfl) dX9_goAlong_23 (fun M23 H locs h hP hS => ?_)
      exact J26 a1 M23 _ _ _ (lv_sub hl [0, 1, 2, 4] rfl) hP hS h
  · have h := h.2 q5
    exact W.vret hx hb hr (fun t ht hW => ⟨⟨M, rfl, h, xAt_of ht hP⟩, hS.F ht⟩) hS.2.2 dX9_goAlong_8
set_option maxHeartbeats 4000000 in
set_option maxRecDepth 100000 in
theorem kX6_countSquares (l : Launch) (D : va_G) (cI cZ : ClassId) (ad : Nat → Nat) (zA zD zR : Nat) (hD : ∀ M : Mem, va_D (xA ad) (xW cI cZ ad M)) (M : Mem) (Q : Int32 → Mem → Prop) (h : wX6_countSquares M Q) : Met l yX6_countSquares uX6_countSquares ({ frames := 0, cells := 0, slots := 0, locals := 0 }) (va_Pc [.ref (ad 1)] (xPre D cI cZ ad zA zD zR M)) (va_Qi Q (xAt D cI cZ ad) (xA ad)) 0 0 (xA ad) := by
  refine Met.ofW (cc := cX6_countSquares) (maxL := 1) (ret := (some .int)) (by decide) rfl ?_
  intro p e s m args below meth c s₁ B hml hv
  obtain ⟨rfl, hP, hK, hZ, hN⟩ := hv
  have hx := B.exec
  have hb := B.bytes
  have hr := B.returns
  have hts := atoms_spec (ws := uX6_countSquares) B.pre
  have hown : s.vm.findClass RX6 = some m.cls := findClass_of_methodNamed B.named
  have hlocks := B.notSynchronized
  have hS : va_S (xA ad) s.heap s.heap [] := va_S.rf
  have k0 := hts (.fieldLink RX6 9 "TwoEyes$Scene" "width" "I") (List.mem_cons_of_mem _ (inA_3 _ (List.mem_of_getElem? (i := 4) rfl)))
  have inX6 : ∀ w ∈ wsX60, w ∈ uX6_countSquares := fun w h => List.mem_cons_of_mem _ (inCX6 w h)
  have k2 := hts (.fieldLink RX6 15 "TwoEyes$Scene" "height" "I") (List.mem_cons_of_mem _ (inA_3 _ (List.mem_of_getElem? (i := 5) rfl)))
  have hl := lv_entry ([.ref (ad 1)]) (n := 1) (Nat.le_of_ble_eq_true rfl)
  rw [lg_entry_eq]
  generalize (lg_sl ([.ref (ad 1)]) ++ List.replicate (1 - (lg_sl ([.ref (ad 1)])).length) Slot.unset).toArray = ls at hl ⊢
  have hl : lv_has ls 1 [(0, .ref (ad 1))] := hl
  refine lv_aload_n hx hb dX6_countSquares_0 rfl (lv_at hl 0 rfl) ?_
  refine va_get (D := D) (ci := 6) (v := .int (M 1 0)) (C := RX6) (T := TX6) (N := 5) hx hb hts inX6 hown hK hP 1 (xW_1 cI cZ ad M) rfl 0 (by decide) k0 (fun _ h9 => h9) rfl dX6_countSquares_1 ?_
  refine lv_aload_n hx hb dX6_countSquares_4 rfl (lv_at hl 0 rfl) ?_
  refine va_get (D := D) (ci := 6) (v := .int (M 1 1)) (C := RX6) (T := TX6) (N := 5) hx hb hts inX6 hown hK hP 1 (xW_1 cI cZ ad M) rfl 1 (by decide) k2 (fun _ h9 => h9) rfl dX6_countSquares_5 ?_
  refine lv_imul hx hb dX6_countSquares_8 ?_
  exact W.iret (v := ((M 1 0) * (M 1 1))) hx hb hr (fun t ht hW => ⟨⟨((M 1 0) * (M 1 1)), M, rfl, h, xAt_of ht hP⟩, hS.F ht⟩) hS.2.2 dX6_countSquares_9
abbrev GX9_addAll (p : Program) (l : Launch) (e : Env) (s : State) (m : MethodId) (below : List Frame) (meth : Method) (c : Code) (D : va_G) (cI cZ : ClassId) (ad : Nat → Nat) (Q : Mem → Prop) (H : Heap) (locs : List Loc) (g : JFrame) : Prop := W p l e (headSpec uX9_addAll { frames := 3, cells := 0, slots := 0, locals := 83 }).room s m ([.ref (ad 32), .ref (ad 1), .ref (ad 18), .ref (ad 17)] : List Value).toArray below meth c H locs 0 0 (MQ below (va_Qv Q (xAt D cI cZ ad) (xA ad)) ([.ref (ad 32), .ref (ad 1), .ref (ad 18), .ref (ad 17)] : List Value).toArray s 0 0 (xA ad)) g
set_option maxHeartbeats 4000000 in
set_option maxRecDepth 100000 in
theorem kX9_addAll (l : Launch) (D : va_G) (cI cZ : ClassId) (ad : Nat → Nat) (zA zD zR : Nat) (hD : ∀ M : Mem, va_D (xA ad) (xW cI cZ ad M)) (M : Mem) (Q : Mem → Prop) (h : wX9_addAll M Q) : Met l yX9_addAll uX9_addAll ({ frames := 3, cells := 0, slots := 0, locals := 83 }) (va_Pc [.ref (ad 32), .ref (ad 1), .ref (ad 18), .ref (ad 17)] (xPre D cI cZ ad zA zD zR M)) (va_Qv Q (xAt D cI cZ ad) (xA ad)) 0 0 (xA ad) := by
  refine Met.ofW (cc := cX9_addAll) (maxL := 7) (ret := none) (by decide) rfl ?_
  intro p e s m args below meth c s₁ B hml hv
  obtain ⟨rfl, hP, hK, hZ, hN⟩ := hv
  have hx := B.exec
  have hb := B.bytes
  have hr := B.returns
  have hts := atoms_spec (ws := uX9_addAll) B.pre
  have hown : s.vm.findClass RX9 = some m.cls := findClass_of_methodNamed B.named
  have hlocks := B.notSynchronized
  have hS : va_S (xA ad) s.heap s.heap [] := va_S.rf
  have k0 := hts (.fieldLink RX9 21 "TwoEyes$Sums" "totals" "[I") (List.mem_cons_of_mem _ (inA_5 _ (List.mem_of_getElem? (i := 4) rfl)))
  have inX9 : ∀ w ∈ wsX90, w ∈ uX9_addAll := fun w h => List.mem_cons_of_mem _ (inCX9 w h)
  have k2 := hts (.fieldLink RX9 15 "TwoEyes$Sums" "runs" "[I") (List.mem_cons_of_mem _ (inA_5 _ (List.mem_of_getElem? (i := 2) rfl)))
  have k3 := hts (.fieldLink RX9 28 "TwoEyes$Sums" "added" "Z") (List.mem_cons_of_mem _ (inA_5 _ (List.mem_of_getElem? (i := 6) rfl)))
  have L39 : ∀ (K69 : Int32 → Int32 → Mem → Prop), (∀ (x4 x5 : Int32) (M : Mem) (H : Heap) (locs : List Loc) (ls : Array Slot), lv_has ls 7 [(0, .ref (ad 32)), (1, .ref (ad 1)), (2, .ref (ad 18)), (3, .ref (ad 17)), (4, .int x4), (5, .int x5)] → va_P D vwCl (xW cI cZ ad M) H → va_S (xA ad) s.heap H locs → K69 x4 x5 M → GX9_addAll p l e s m below meth c D cI cZ ad Q H locs (F0 m 69 ls [])) → ∀ n : Nat, ∀ (x4 x5 x6 : Int32) (M : Mem) (H : Heap) (locs : List Loc) (ls : Array Slot), lv_has ls 7 [(0, .ref (ad 32)), (1, .ref (ad 1)), (2, .ref (ad 18)), (3, .ref (ad 17)), (4, .int x4), (5, .int x5), (6, .int x6)] → va_P D vwCl (xW cI cZ ad M) H → va_S (xA ad) s.heap H locs → wX9_addAll_L39 K69 Q n x4 x5 x6 M → GX9_addAll p l e s m below meth c D cI cZ ad Q H locs (F0 m 39 ls []) := by
    intro K69 hK69 n
    induction n with
    | zero => intro x4 x5 x6 M H locs ls hl hP hS h; exact (show False from h).elim
    | succ n hB =>
      intro x4 x5 x6 M H locs ls hl hP hS h
      rw [wX9_addAll_L39_s] at h
      refine lv_iload hx hb dX9_addAll_39 (lv_at hl 6 rfl) ?_
      refine lv_iload hx hb dX9_addAll_41 (lv_at hl 4 rfl) ?_
      refine lv_icmp_ge (tgt := 69) hx hb dX9_addAll_43 (by decide) (fun q43 => ?_) (fun q43 => ?_)
      · have h := h.1 q43
        exact hK69 x4 x5 M _ _ _ (lv_sub hl [0, 1, 2, 3, 4, 5] rfl) hP hS h
      · have h := h.2 q43
        refine lv_aload_n hx hb dX9_addAll_46 rfl (lv_at hl 0 rfl) ?_
        refine va_get (D := D) (ci := 9) (v := .ref (ad 36)) (C := RX9) (T := TX9) (N := 7) hx hb hts inX9 hown hK hP 32 (xW_32 cI cZ ad M) rfl 3 (by decide) k0 (fun _ h9 => h9) rfl dX9_addAll_47 ?_
        refine lv_iload hx hb dX9_addAll_50 (lv_at hl 6 rfl) ?_
        refine lv_dup2_11 hx hb dX9_addAll_52 rfl rfl ?_
        obtain ⟨hi53, h⟩ := h
        refine va_iald hx hb hK hP 36 0 (xW_36 cI cZ ad M) rfl hi53 dX9_addAll_53 ?_
        refine lv_aload_n hx hb dX9_addAll_54 rfl (lv_at hl 0 rfl) ?_
        refine va_get (D := D) (ci := 9) (v := .ref (ad 34)) (C := RX9) (T := TX9) (N := 7) hx hb hts inX9 hown hK hP 32 (xW_32 cI cZ ad M) rfl 1 (by decide) k2 (fun _ h9 => h9) rfl dX9_addAll_55 ?_
        refine lv_iload hx hb dX9_addAll_58 (lv_at hl 6 rfl) ?_
        obtain ⟨hi60, h⟩ := h
        refine va_iald hx hb hK hP 34 0 (xW_34 cI cZ ad M) rfl hi60 dX9_addAll_60 ?_
        refine lv_iadd hx hb dX9_addAll_61 ?_
        obtain ⟨hi62, h⟩ := h
        refine va_iast hx hb hK hP (hD M) hS 36 0 (xW_36 cI cZ ad M) rfl hi62 dX9_addAll_62 (fun H locs hP _ hS => ?_)
        refine xQ_36 hP (fun M62 eM62 hP => ?_)
        have h := h M62 eM62
        obtain ⟨x6_63, ex6_63⟩ : ∃ y : Int32, y = x6 + 1 := ⟨_, rfl⟩
        have h := h x6_63 ex6_63
        refine lv_iinc (v := x6_63) (lv' := [(6, .int x6_63), (0, .ref (ad 32)), (1, .ref (ad 1)), (2, .ref (ad 18)), (3, .ref (ad 17)), (4, .int x4), (5, .int x5)]) hx hb dX9_addAll_63 hl (k := 6) rfl (by rw [ex6_63]; rfl) (by decide) rfl (fun ls hl => ?_)
        refine lv_goto (tgt := 39) hx hb dX9_addAll_66 (by decide) ?_
        exact hB x4 x5 x6_63 M62 _ _ _ (lv_sub hl [1, 2, 3, 4, 5, 6, 0] rfl) hP hS h
  have L20 : ∀ (K75 : Mem → Prop), (∀ (M : Mem) (H : Heap) (locs : List Loc) (ls : Array Slot), lv_has ls 7 [(0, .ref (ad 32))] → va_P D vwCl (xW cI cZ ad M) H → va_S (xA ad) s.heap H locs → K75 M → GX9_addAll p l e s m below meth c D cI cZ ad Q H locs (F0 m 75 ls [])) → ∀ n : Nat, ∀ (x4 x5 : Int32) (M : Mem) (H : Heap) (locs : List Loc) (ls : Array Slot), lv_has ls 7 [(0, .ref (ad 32)), (1, .ref (ad 1)), (2, .ref (ad 18)), (3, .ref (ad 17)), (4, .int x4), (5, .int x5)] → va_P D vwCl (xW cI cZ ad M) H → va_S (xA ad) s.heap H locs → wX9_addAll_L20 K75 Q n x4 x5 M → GX9_addAll p l e s m below meth c D cI cZ ad Q H locs (F0 m 20 ls []) := by
    intro K75 hK75 n
    induction n with
    | zero => intro x4 x5 M H locs ls hl hP hS h; exact (show False from h).elim
    | succ n hB =>
      intro x4 x5 M H locs ls hl hP hS h
      rw [wX9_addAll_L20_s] at h
      refine lv_iload hx hb dX9_addAll_20 (lv_at hl 5 rfl) ?_
      refine lv_bipush (v := 8) hx hb dX9_addAll_22 (by decide) ?_
      refine lv_icmp_ge (tgt := 75) hx hb dX9_addAll_24 (by decide) (fun q24 => ?_) (fun q24 => ?_)
      · have h := h.1 q24
        exact hK75 M _ _ _ (lv_sub hl [0] rfl) hP hS h
      · have h := h.2 q24
        refine lv_aload_n hx hb dX9_addAll_27 rfl (lv_at hl 0 rfl) ?_
        refine lv_iload hx hb dX9_addAll_28 (lv_at hl 5 rfl) ?_
        refine lv_aload_n hx hb dX9_addAll_30 rfl (lv_at hl 1 rfl) ?_
        refine lv_aload_n hx hb dX9_addAll_31 rfl (lv_at hl 2 rfl) ?_
        refine lv_aload_n hx hb dX9_addAll_32 rfl (lv_at hl 3 rfl) ?_
        refine x_callVv (As := [.int x5, .ref (ad 1), .ref (ad 18), .ref (ad 17)]) (rest := []) ⟨hx, hb, hml, hown, hts⟩ (kX9_goAlong l D cI cZ ad zA zD zR hD M x5 _ h) (cwV 4 hts (gdV uS (inA_16 _ (List.mem_of_getElem? (i := 17) rfl)) vX9_goAlong) rfl rfl rfl (by decide +kernel) ⟨Nat.le_of_ble_eq_true rfl, Nat.le_of_ble_eq_true rfl⟩) (va_recv hK hP (ci := 9) (q0 := 32) rfl (xW_32 cI cZ ad M)) hP hK hZ hN hS hl.1 rfl rfl (Nat.le_of_ble_eq_true rfl) dX9_addAll_33 (fun M33 H locs h hP hS => ?_)
        refine lv_iconst (v := 0) hx hb dX9_addAll_36 (by decide) ?_
        refine lv_istore (lv' := [(6, .int 0), (0, .ref (ad 32)), (1, .ref (ad 1)), (2, .ref (ad 18)), (3, .ref (ad 17)), (4, .int x4), (5, .int x5)]) hx hb dX9_addAll_37 hl (by decide) rfl (fun ls hl => ?_)
        obtain ⟨n, h⟩ := h
        refine L39 _ (fun x4 x5 M H locs ls hl hP hS h => ?_) n x4 x5 0 M33 _ _ _ (lv_sub hl [1, 2, 3, 4, 5, 6, 0] rfl) hP hS h
        obtain ⟨x5_69, ex5_69⟩ : ∃ y : Int32, y = x5 + 1 := ⟨_, rfl⟩
        have h := h x5_69 ex5_69
        refine lv_iinc (v := x5_69) (lv' := [(5, .int x5_69), (0, .ref (ad 32)), (1, .ref (ad 1)), (2, .ref (ad 18)), (3, .ref (ad 17)), (4, .int x4)]) hx hb dX9_addAll_69 hl (k := 5) rfl (by rw [ex5_69]; rfl) (by decide) rfl (fun ls hl => ?_)
        refine lv_goto (tgt := 20) hx hb dX9_addAll_72 (by decide) ?_
        exact hB x4 x5_69 M _ _ _ (lv_sub hl [1, 2, 3, 4, 5, 0] rfl) hP hS h
  have hl := lv_entry ([.ref (ad 32), .ref (ad 1), .ref (ad 18), .ref (ad 17)]) (n := 7) (Nat.le_of_ble_eq_true rfl)
  rw [lg_entry_eq]
  generalize (lg_sl ([.ref (ad 32), .ref (ad 1), .ref (ad 18), .ref (ad 17)]) ++ List.replicate (7 - (lg_sl ([.ref (ad 32), .ref (ad 1), .ref (ad 18), .ref (ad 17)])).length) Slot.unset).toArray = ls at hl ⊢
  have hl : lv_has ls 7 [(0, .ref (ad 32)), (1, .ref (ad 1)), (2, .ref (ad 18)), (3, .ref (ad 17))] := hl
  refine lv_aload_n hx hb dX9_addAll_0 rfl (lv_at hl 0 rfl) ?_
  refine va_get (D := D) (ci := 9) (v := .ref (ad 36)) (C := RX9) (T := TX9) (N := 7) hx hb hts inX9 hown hK hP 32 (xW_32 cI cZ ad M) rfl 3 (by decide) k0 (fun _ h9 => h9) rfl dX9_addAll_1 ?_
  refine lv_iconst (v := 0) hx hb dX9_addAll_4 (by decide) ?_
  refine fill_call (ws := xW cI cZ ad M) (k := 36) (rest := []) ⟨hx, hb, hml, hown, hts⟩ (va_cwS 2 hts (gdS uS (inA_16 _ (List.mem_of_getElem? (i := 12) rfl)) vJ7_fill_53178) rfl rfl rfl (by decide +kernel) ⟨Nat.le_of_ble_eq_true rfl, Nat.le_of_ble_eq_true rfl⟩) hK hP (hD M) hS (xW_36 cI cZ ad M) rfl (by decide) hl.1 (Nat.le_of_ble_eq_true rfl) dX9_addAll_5 ⟨Nat.zero_le _, Nat.zero_le _⟩ (fun H locs hP hS => ?_)
  refine xQ_36 hP (fun M5 eM5 hP => ?_)
  have h := h M5 eM5
  refine lv_aload_n hx hb dX9_addAll_8 rfl (lv_at hl 1 rfl) ?_
  refine x_callVi (As := []) (rest := []) ⟨hx, hb, hml, hown, hts⟩ (kX6_countSquares l D cI cZ ad zA zD zR hD M5 _ h) (cwV 0 hts (gdV uS (inA_16 _ (List.mem_of_getElem? (i := 13) rfl)) vX6_countSquares) rfl rfl rfl (by decide +kernel) ⟨Nat.le_of_ble_eq_true rfl, Nat.le_of_ble_eq_true rfl⟩) (va_recv hK hP (ci := 6) (q0 := 1) rfl (xW_1 cI cZ ad M5)) hP hK hZ hN hS hl.1 rfl rfl (Nat.le_of_ble_eq_true rfl) dX9_addAll_9 (fun r9 M9 H locs h hP hS => ?_)
  refine lv_bipush (v := 9) hx hb dX9_addAll_12 (by decide) ?_
  refine lv_imul hx hb dX9_addAll_14 ?_
  refine lv_topi (fun x4_15 ex4_15 => ?_)
  have h := h x4_15 ex4_15
  refine lv_istore (lv' := [(4, .int x4_15), (0, .ref (ad 32)), (1, .ref (ad 1)), (2, .ref (ad 18)), (3, .ref (ad 17))]) hx hb dX9_addAll_15 hl (by decide) rfl (fun ls hl => ?_)
  refine lv_iconst (v := 0) hx hb dX9_addAll_17 (by decide) ?_
  refine lv_istore (lv' := [(5, .int 0), (4, .int x4_15), (0, .ref (ad 32)), (1, .ref (ad 1)), (2, .ref (ad 18)), (3, .ref (ad 17))]) hx hb dX9_addAll_18 hl (by decide) rfl (fun ls hl => ?_)
  obtain ⟨n, h⟩ := h
  refine L20 _ (fun  M H locs ls hl hP hS h => ?_) n x4_15 0 M9 _ _ _ (lv_sub hl [2, 3, 4, 5, 1, 0] rfl) hP hS h
  refine lv_aload_n hx hb dX9_addAll_75 rfl (lv_at hl 0 rfl) ?_
  refine lv_iconst (v := 1) hx hb dX9_addAll_76 (by decide) ?_
  refine va_put (D := D) (ci := 9) (v := .int 1) (ty := .boolean) (C := RX9) (T := TX9) (N := 7) hx hb hts inX9 tyX9 tyX9_ok nmX9 hown hK hP (hD M) hS 32 (xW_32 cI cZ ad M) rfl 5 (by decide) k3 (fun _ h9 => h9) rfl (by decide +kernel) rfl rfl (Nat.le_of_ble_eq_true rfl) dX9_addAll_77 (fun H locs hP _ hS => ?_)
  refine xP_32_5 hP (fun M77 eM77 hP => ?_)
  have h := h M77 eM77
  exact W.vret hx hb hr (fun t ht hW => ⟨⟨M77, rfl, h, xAt_of ht hP⟩, hS.F ht⟩) hS.2.2 dX9_addAll_80
set_option maxHeartbeats 4000000 in
set_option maxRecDepth 100000 in
theorem kX10_refreshSums (l : Launch) (D : va_G) (cI cZ : ClassId) (ad : Nat → Nat) (zA zD zR : Nat) (hD : ∀ M : Mem, va_D (xA ad) (xW cI cZ ad M)) (M : Mem) (Q : Mem → Prop) (h : wX10_refreshSums M Q) : Met l yX10_refreshSums uX10_refreshSums ({ frames := 4, cells := 0, slots := 0, locals := 109 }) (va_Pc [.ref (ad 0)] (xPre D cI cZ ad zA zD zR M)) (va_Qv Q (xAt D cI cZ ad) (xA ad)) 0 0 (xA ad) := by
  refine Met.ofW (cc := cX10_refreshSums) (maxL := 1) (ret := none) (by decide) rfl ?_
  intro p e s m args below meth c s₁ B hml hv
  obtain ⟨rfl, hP, hK, hZ, hN⟩ := hv
  have hx := B.exec
  have hb := B.bytes
  have hr := B.returns
  have hts := atoms_spec (ws := uX10_refreshSums) B.pre
  have hown : s.vm.findClass RX10 = some m.cls := findClass_of_methodNamed B.named
  have hlocks := B.notSynchronized
  have hS : va_S (xA ad) s.heap s.heap [] := va_S.rf
  have k0 := hts (.fieldLink RX10 44 "TwoEyes" "sums" "LTwoEyes$Sums;") (List.mem_cons_of_mem _ (inA_2 _ (List.mem_of_getElem? (i := 7) rfl)))
  have inX10 : ∀ w ∈ wsX100, w ∈ uX10_refreshSums := fun w h => List.mem_cons_of_mem _ (inCX10 w h)
  have k2 := hts (.fieldLink RX10 297 "TwoEyes$Sums" "added" "Z") (List.mem_cons_of_mem _ (inA_14 _ (List.mem_of_getElem? (i := 23) rfl)))
  have inX9 : ∀ w ∈ wsX90, w ∈ uX10_refreshSums := fun w h => List.mem_cons_of_mem _ (inCX9 w h)
  have k4 := hts (.fieldLink RX10 10 "TwoEyes" "scene" "LTwoEyes$Scene;") (List.mem_cons_of_mem _ (inA_1 _ (List.mem_of_getElem? (i := 15) rfl)))
  have k5 := hts (.fieldLink RX10 30 "TwoEyes" "costs" "LTwoEyes$Costs;") (List.mem_cons_of_mem _ (inA_1 _ (List.mem_of_getElem? (i := 23) rfl)))
  have k6 := hts (.fieldLink RX10 23 "TwoEyes" "rules" "[I") (List.mem_cons_of_mem _ (inA_1 _ (List.mem_of_getElem? (i := 19) rfl)))
  have hl := lv_entry ([.ref (ad 0)]) (n := 1) (Nat.le_of_ble_eq_true rfl)
  rw [lg_entry_eq]
  generalize (lg_sl ([.ref (ad 0)]) ++ List.replicate (1 - (lg_sl ([.ref (ad 0)])).length) Slot.unset).toArray = ls at hl ⊢
  have hl : lv_has ls 1 [(0, .ref (ad 0))] := hl
  refine lv_aload_n hx hb dX10_refreshSums_0 rfl (lv_at hl 0 rfl) ?_
  refine x_callVv (As := []) (rest := []) ⟨hx, hb, hml, hown, hts⟩ (kX10_refreshCosts l D cI cZ ad zA zD zR hD M _ h) (cwV 0 hts (gdV uS (inA_15 _ (List.mem_of_getElem? (i := 0) rfl)) vX10_refreshCosts) rfl rfl rfl (by decide +kernel) ⟨Nat.le_of_ble_eq_true rfl, Nat.le_of_ble_eq_true rfl⟩) (va_recv hK hP (ci := 10) (q0 := 0) rfl (xW_0 cI cZ ad M)) hP hK hZ hN hS hl.1 rfl rfl (Nat.le_of_ble_eq_true rfl) dX10_refreshSums_1 (fun M1 H locs h hP hS => ?_)
  refine lv_aload_n hx hb dX10_refreshSums_4 rfl (lv_at hl 0 rfl) ?_
  refine va_get (D := D) (ci := 10) (v := .ref (ad 32)) (C := RX10) (T := TX10) (N := 11) hx hb hts inX10 hown hK hP 0 (xW_0 cI cZ ad M1) rfl 6 (by decide) k0 (fun _ h9 => h9) rfl dX10_refreshSums_5 ?_
  refine va_get (D := D) (ci := 9) (v := .int (M1 32 5)) (C := RX9) (T := TX9) (N := 7) hx hb hts inX9 hown hK hP 32 (xW_32 cI cZ ad M1) rfl 5 (by decide) k2 (fun _ h9 => h9) rfl dX10_refreshSums_8 ?_
  refine lv_if_ne (tgt := 33) hx hb dX10_refreshSums_11 (by decide) (fun q11 => ?_) (fun q11 => ?_)
  · have h := h.1 q11
    exact W.vret hx hb hr (fun t ht hW => ⟨⟨M1, rfl, h, xAt_of ht hP⟩, hS.F ht⟩) hS.2.2 dX10_refreshSums_33
  · have h := h.2 q11
    refine lv_aload_n hx hb dX10_refreshSums_14 rfl (lv_at hl 0 rfl) ?_
    refine va_get (D := D) (ci := 10) (v := .ref (ad 32)) (C := RX10) (T := TX10) (N := 11) hx hb hts inX10 hown hK hP 0 (xW_0 cI cZ ad M1) rfl 6 (by decide) k0 (fun _ h9 => h9) rfl dX10_refreshSums_15 ?_
    refine lv_aload_n hx hb dX10_refreshSums_18 rfl (lv_at hl 0 rfl) ?_
    refine va_get (D := D) (ci := 10) (v := .ref (ad 1)) (C := RX10) (T := TX10) (N := 11) hx hb hts inX10 hown hK hP 0 (xW_0 cI cZ ad M1) rfl 0 (by decide) k4 (fun _ h9 => h9) rfl dX10_refreshSums_19 ?_
    refine lv_aload_n hx hb dX10_refreshSums_22 rfl (lv_at hl 0 rfl) ?_
    refine va_get (D := D) (ci := 10) (v := .ref (ad 18)) (C := RX10) (T := TX10) (N := 11) hx hb hts inX10 hown hK hP 0 (xW_0 cI cZ ad M1) rfl 4 (by decide) k5 (fun _ h9 => h9) rfl dX10_refreshSums_23 ?_
    refine lv_aload_n hx hb dX10_refreshSums_26 rfl (lv_at hl 0 rfl) ?_
    refine va_get (D := D) (ci := 10) (v := .ref (ad 17)) (C := RX10) (T := TX10) (N := 11) hx hb hts inX10 hown hK hP 0 (xW_0 cI cZ ad M1) rfl 3 (by decide) k6 (fun _ h9 => h9) rfl dX10_refreshSums_27 ?_
    refine x_callVv (As := [.ref (ad 1), .ref (ad 18), .ref (ad 17)]) (rest := []) ⟨hx, hb, hml, hown, hts⟩ (kX9_addAll l D cI cZ ad zA zD zR hD M1 _ h) (cwV 3 hts (gdV uS (inA_16 _ (List.mem_of_getElem? (i := 8) rfl)) vX9_addAll) rfl rfl rfl (by decide +kernel) ⟨Nat.le_of_ble_eq_true rfl, Nat.le_of_ble_eq_true rfl⟩) (va_recv hK hP (ci := 9) (q0 := 32) rfl (xW_32 cI cZ ad M1)) hP hK hZ hN hS hl.1 rfl rfl (Nat.le_of_ble_eq_true rfl) dX10_refreshSums_30 (fun M30 H locs h hP hS => ?_)
    exact W.vret hx hb hr (fun t ht hW => ⟨⟨M30, rfl, h, xAt_of ht hP⟩, hS.F ht⟩) hS.2.2 dX10_refreshSums_33
abbrev GX9_leftDepth (p : Program) (l : Launch) (e : Env) (s : State) (m : MethodId) (below : List Frame) (meth : Method) (c : Code) (D : va_G) (cI cZ : ClassId) (ad : Nat → Nat) (a1 a2 : Int32) (Q : Int32 → Mem → Prop) (H : Heap) (locs : List Loc) (g : JFrame) : Prop := W p l e (headSpec uX9_leftDepth { frames := 0, cells := 0, slots := 0, locals := 0 }).room s m ([.ref (ad 32), .int a1, .int a2] : List Value).toArray below meth c H locs 0 0 (MQ below (va_Qi Q (xAt D cI cZ ad) (xA ad)) ([.ref (ad 32), .int a1, .int a2] : List Value).toArray s 0 0 (xA ad)) g
set_option maxHeartbeats 4000000 in
set_option maxRecDepth 100000 in
theorem kX9_leftDepth (l : Launch) (D : va_G) (cI cZ : ClassId) (ad : Nat → Nat) (zA zD zR : Nat) (hD : ∀ M : Mem, va_D (xA ad) (xW cI cZ ad M)) (M : Mem) (a1 a2 : Int32) (Q : Int32 → Mem → Prop) (h : wX9_leftDepth M a1 a2 Q) : Met l yX9_leftDepth uX9_leftDepth ({ frames := 0, cells := 0, slots := 0, locals := 0 }) (va_Pc [.ref (ad 32), .int a1, .int a2] (xPre D cI cZ ad zA zD zR M)) (va_Qi Q (xAt D cI cZ ad) (xA ad)) 0 0 (xA ad) := by
  refine Met.ofW (cc := cX9_leftDepth) (maxL := 5) (ret := (some .int)) (by decide) rfl ?_
  intro p e s m args below meth c s₁ B hml hv
  obtain ⟨rfl, hP, hK, hZ, hN⟩ := hv
  have hx := B.exec
  have hb := B.bytes
  have hr := B.returns
  have hts := atoms_spec (ws := uX9_leftDepth) B.pre
  have hown : s.vm.findClass RX9 = some m.cls := findClass_of_methodNamed B.named
  have hlocks := B.notSynchronized
  have hS : va_S (xA ad) s.heap s.heap [] := va_S.rf
  have k0 := hts (.fieldLink RX9 21 "TwoEyes$Sums" "totals" "[I") (List.mem_cons_of_mem _ (inA_5 _ (List.mem_of_getElem? (i := 4) rfl)))
  have inX9 : ∀ w ∈ wsX90, w ∈ uX9_leftDepth := fun w h => List.mem_cons_of_mem _ (inCX9 w h)
  have L5 : ∀ (K46 : Int32 → Mem → Prop), (∀ (x3 : Int32) (M : Mem) (H : Heap) (locs : List Loc) (ls : Array Slot), lv_has ls 5 [(3, .int x3)] → va_P D vwCl (xW cI cZ ad M) H → va_S (xA ad) s.heap H locs → K46 x3 M → GX9_leftDepth p l e s m below meth c D cI cZ ad a1 a2 Q H locs (F0 m 46 ls [])) → ∀ n : Nat, ∀ (x1 x2 x3 x4 : Int32) (M : Mem) (H : Heap) (locs : List Loc) (ls : Array Slot), lv_has ls 5 [(0, .ref (ad 32)), (1, .int x1), (2, .int x2), (3, .int x3), (4, .int x4)] → va_P D vwCl (xW cI cZ ad M) H → va_S (xA ad) s.heap H locs → wX9_leftDepth_L5 K46 Q n x1 x2 x3 x4 M → GX9_leftDepth p l e s m below meth c D cI cZ ad a1 a2 Q H locs (F0 m 5 ls []) := by
    intro K46 hK46 n
    induction n with
    | zero => intro x1 x2 x3 x4 M H locs ls hl hP hS h; exact (show False from h).elim
    | succ n hB =>
      intro x1 x2 x3 x4 M H locs ls hl hP hS h
      rw [wX9_leftDepth_L5_s] at h
      refine lv_iload hx hb dX9_leftDepth_5 (lv_at hl 4 rfl) ?_
      refine lv_iload_n hx hb dX9_leftDepth_7 rfl (lv_at hl 2 rfl) ?_
      refine lv_icmp_gt (tgt := 46) hx hb dX9_leftDepth_8 (by decide) (fun q8 => ?_) (fun q8 => ?_)
      · have h := h.1 q8
        exact hK46 x3 M _ _ _ (lv_sub hl [3] rfl) hP hS h
      · have h := h.2 q8
        refine lv_aload_n hx hb dX9_leftDepth_11 rfl (lv_at hl 0 rfl) ?_
        refine va_get (D := D) (ci := 9) (v := .ref (ad 36)) (C := RX9) (T := TX9) (N := 7) hx hb hts inX9 hown hK hP 32 (xW_32 cI cZ ad M) rfl 3 (by decide) k0 (fun _ h9 => h9) rfl dX9_leftDepth_12 ?_
        refine lv_iload_n hx hb dX9_leftDepth_15 rfl (lv_at hl 1 rfl) ?_
        refine lv_bipush (v := 9) hx hb dX9_leftDepth_16 (by decide) ?_
        refine lv_imul hx hb dX9_leftDepth_18 ?_
        refine lv_iload hx hb dX9_leftDepth_19 (lv_at hl 4 rfl) ?_
        refine lv_iadd hx hb dX9_leftDepth_21 ?_
        obtain ⟨hi22, h⟩ := h
        refine va_iald hx hb hK hP 36 0 (xW_36 cI cZ ad M) rfl hi22 dX9_leftDepth_22 ?_
        refine lv_aload_n hx hb dX9_leftDepth_23 rfl (lv_at hl 0 rfl) ?_
        refine va_get (D := D) (ci := 9) (v := .ref (ad 36)) (C := RX9) (T := TX9) (N := 7) hx hb hts inX9 hown hK hP 32 (xW_32 cI cZ ad M) rfl 3 (by decide) k0 (fun _ h9 => h9) rfl dX9_leftDepth_24 ?_
        refine lv_iload_n hx hb dX9_leftDepth_27 rfl (lv_at hl 1 rfl) ?_
        refine lv_bipush (v := 9) hx hb dX9_leftDepth_28 (by decide) ?_
        refine lv_imul hx hb dX9_leftDepth_30 ?_
        refine lv_iload_n hx hb dX9_leftDepth_31 rfl (lv_at hl 3 rfl) ?_
        refine lv_iadd hx hb dX9_leftDepth_32 ?_
        obtain ⟨hi33, h⟩ := h
        refine va_iald hx hb hK hP 36 0 (xW_36 cI cZ ad M) rfl hi33 dX9_leftDepth_33 ?_
        refine lv_icmp_ge (tgt := 40) hx hb dX9_leftDepth_34 (by decide) (fun q34 => ?_) (fun q34 => ?_)
        · have h := h.1 q34
          obtain ⟨x4_40, ex4_40⟩ : ∃ y : Int32, y = x4 + 1 := ⟨_, rfl⟩
          have h := h x4_40 ex4_40
          refine lv_iinc (v := x4_40) (lv' := [(4, .int x4_40), (0, .ref (ad 32)), (1, .int x1), (2, .int x2), (3, .int x3)]) hx hb dX9_leftDepth_40 hl (k := 4) rfl (by rw [ex4_40]; rfl) (by decide) rfl (fun ls hl => ?_)
          refine lv_goto (tgt := 5) hx hb dX9_leftDepth_43 (by decide) ?_
          exact hB x1 x2 x3 x4_40 M _ _ _ (lv_sub hl [1, 2, 3, 4, 0] rfl) hP hS h
        · have h := h.2 q34
          refine lv_iload hx hb dX9_leftDepth_37 (lv_at hl 4 rfl) ?_
          refine lv_istore_n (lv' := [(3, .int x4), (0, .ref (ad 32)), (1, .int x1), (2, .int x2), (4, .int x4)]) hx hb dX9_leftDepth_39 rfl hl (by decide) rfl (fun ls hl => ?_)
          obtain ⟨x4_40, ex4_40⟩ : ∃ y : Int32, y = x4 + 1 := ⟨_, rfl⟩
          have h := h x4_40 ex4_40
          refine lv_iinc (v := x4_40) (lv' := [(4, .int x4_40), (3, .int x4), (0, .ref (ad 32)), (1, .int x1), (2, .int x2)]) hx hb dX9_leftDepth_40 hl (k := 4) rfl (by rw [ex4_40]; rfl) (by decide) rfl (fun ls hl => ?_)
          refine lv_goto (tgt := 5) hx hb dX9_leftDepth_43 (by decide) ?_
          exact hB x1 x2 x4 x4_40 M _ _ _ (lv_sub hl [2, 3, 4, 1, 0] rfl) hP hS h
  have hl := lv_entry ([.ref (ad 32), .int a1, .int a2]) (n := 5) (Nat.le_of_ble_eq_true rfl)
  rw [lg_entry_eq]
  generalize (lg_sl ([.ref (ad 32), .int a1, .int a2]) ++ List.replicate (5 - (lg_sl ([.ref (ad 32), .int a1, .int a2])).length) Slot.unset).toArray = ls at hl ⊢
  have hl : lv_has ls 5 [(0, .ref (ad 32)), (1, .int a1), (2, .int a2)] := hl
  refine lv_iconst (v := 0) hx hb dX9_leftDepth_0 (by decide) ?_
  refine lv_istore_n (lv' := [(3, .int 0), (0, .ref (ad 32)), (1, .int a1), (2, .int a2)]) hx hb dX9_leftDepth_1 rfl hl (by decide) rfl (fun ls hl => ?_)
  refine lv_iconst (v := 1) hx hb dX9_leftDepth_2 (by decide) ?_
  refine lv_istore (lv' := [(4, .int 1), (3, .int 0), (0, .ref (ad 32)), (1, .int a1), (2, .int a2)]) hx hb dX9_leftDepth_3 hl (by decide) rfl (fun ls hl => ?_)
  obtain ⟨n, h⟩ := h
  refine L5 _ (fun x3 M H locs ls hl hP hS h => ?_) n a1 a2 0 1 M _ _ _ (lv_sub hl [2, 3, 4, 1, 0] rfl) hP hS h
  refine lv_iload_n hx hb dX9_leftDepth_46 rfl (lv_at hl 0 rfl) ?_
  exact W.iret (v := x3) hx hb hr (fun t ht hW => ⟨⟨x3, M, rfl, h, xAt_of ht hP⟩, hS.F ht⟩) hS.2.2 dX9_leftDepth_47
abbrev GX9_rightDepth (p : Program) (l : Launch) (e : Env) (s : State) (m : MethodId) (below : List Frame) (meth : Method) (c : Code) (D : va_G) (cI cZ : ClassId) (ad : Nat → Nat) (a1 a2 : Int32) (Q : Int32 → Mem → Prop) (H : Heap) (locs : List Loc) (g : JFrame) : Prop := W p l e (headSpec uX9_rightDepth { frames := 0, cells := 0, slots := 0, locals := 0 }).room s m ([.ref (ad 32), .int a1, .int a2] : List Value).toArray below meth c H locs 0 0 (MQ below (va_Qi Q (xAt D cI cZ ad) (xA ad)) ([.ref (ad 32), .int a1, .int a2] : List Value).toArray s 0 0 (xA ad)) g
set_option maxHeartbeats 4000000 in
set_option maxRecDepth 100000 in
theorem kX9_rightDepth (l : Launch) (D : va_G) (cI cZ : ClassId) (ad : Nat → Nat) (zA zD zR : Nat) (hD : ∀ M : Mem, va_D (xA ad) (xW cI cZ ad M)) (M : Mem) (a1 a2 : Int32) (Q : Int32 → Mem → Prop) (h : wX9_rightDepth M a1 a2 Q) : Met l yX9_rightDepth uX9_rightDepth ({ frames := 0, cells := 0, slots := 0, locals := 0 }) (va_Pc [.ref (ad 32), .int a1, .int a2] (xPre D cI cZ ad zA zD zR M)) (va_Qi Q (xAt D cI cZ ad) (xA ad)) 0 0 (xA ad) := by
  refine Met.ofW (cc := cX9_rightDepth) (maxL := 5) (ret := (some .int)) (by decide) rfl ?_
  intro p e s m args below meth c s₁ B hml hv
  obtain ⟨rfl, hP, hK, hZ, hN⟩ := hv
  have hx := B.exec
  have hb := B.bytes
  have hr := B.returns
  have hts := atoms_spec (ws := uX9_rightDepth) B.pre
  have hown : s.vm.findClass RX9 = some m.cls := findClass_of_methodNamed B.named
  have hlocks := B.notSynchronized
  have hS : va_S (xA ad) s.heap s.heap [] := va_S.rf
  have k0 := hts (.fieldLink RX9 21 "TwoEyes$Sums" "totals" "[I") (List.mem_cons_of_mem _ (inA_5 _ (List.mem_of_getElem? (i := 4) rfl)))
  have inX9 : ∀ w ∈ wsX90, w ∈ uX9_rightDepth := fun w h => List.mem_cons_of_mem _ (inCX9 w h)
  have L5 : ∀ (K51 : Int32 → Mem → Prop), (∀ (x3 : Int32) (M : Mem) (H : Heap) (locs : List Loc) (ls : Array Slot), lv_has ls 5 [(3, .int x3)] → va_P D vwCl (xW cI cZ ad M) H → va_S (xA ad) s.heap H locs → K51 x3 M → GX9_rightDepth p l e s m below meth c D cI cZ ad a1 a2 Q H locs (F0 m 51 ls [])) → ∀ n : Nat, ∀ (x1 x2 x3 x4 : Int32) (M : Mem) (H : Heap) (locs : List Loc) (ls : Array Slot), lv_has ls 5 [(0, .ref (ad 32)), (1, .int x1), (2, .int x2), (3, .int x3), (4, .int x4)] → va_P D vwCl (xW cI cZ ad M) H → va_S (xA ad) s.heap H locs → wX9_rightDepth_L5 K51 Q n x1 x2 x3 x4 M → GX9_rightDepth p l e s m below meth c D cI cZ ad a1 a2 Q H locs (F0 m 5 ls []) := by
    intro K51 hK51 n
    induction n with
    | zero => intro x1 x2 x3 x4 M H locs ls hl hP hS h; exact (show False from h).elim
    | succ n hB =>
      intro x1 x2 x3 x4 M H locs ls hl hP hS h
      rw [wX9_rightDepth_L5_s] at h
      refine lv_iload hx hb dX9_rightDepth_5 (lv_at hl 4 rfl) ?_
      refine lv_iload_n hx hb dX9_rightDepth_7 rfl (lv_at hl 2 rfl) ?_
      refine lv_icmp_gt (tgt := 51) hx hb dX9_rightDepth_8 (by decide) (fun q8 => ?_) (fun q8 => ?_)
      · have h := h.1 q8
        exact hK51 x3 M _ _ _ (lv_sub hl [3] rfl) hP hS h
      · have h := h.2 q8
        refine lv_aload_n hx hb dX9_rightDepth_11 rfl (lv_at hl 0 rfl) ?_
        refine va_get (D := D) (ci := 9) (v := .ref (ad 36)) (C := RX9) (T := TX9) (N := 7) hx hb hts inX9 hown hK hP 32 (xW_32 cI cZ ad M) rfl 3 (by decide) k0 (fun _ h9 => h9) rfl dX9_rightDepth_12 ?_
        refine lv_iload_n hx hb dX9_rightDepth_15 rfl (lv_at hl 1 rfl) ?_
        refine lv_iload hx hb dX9_rightDepth_16 (lv_at hl 4 rfl) ?_
        refine lv_iadd hx hb dX9_rightDepth_18 ?_
        refine lv_bipush (v := 9) hx hb dX9_rightDepth_19 (by decide) ?_
        refine lv_imul hx hb dX9_rightDepth_21 ?_
        refine lv_iload hx hb dX9_rightDepth_22 (lv_at hl 4 rfl) ?_
        refine lv_iadd hx hb dX9_rightDepth_24 ?_
        obtain ⟨hi25, h⟩ := h
        refine va_iald hx hb hK hP 36 0 (xW_36 cI cZ ad M) rfl hi25 dX9_rightDepth_25 ?_
        refine lv_aload_n hx hb dX9_rightDepth_26 rfl (lv_at hl 0 rfl) ?_
        refine va_get (D := D) (ci := 9) (v := .ref (ad 36)) (C := RX9) (T := TX9) (N := 7) hx hb hts inX9 hown hK hP 32 (xW_32 cI cZ ad M) rfl 3 (by decide) k0 (fun _ h9 => h9) rfl dX9_rightDepth_27 ?_
        refine lv_iload_n hx hb dX9_rightDepth_30 rfl (lv_at hl 1 rfl) ?_
        refine lv_iload_n hx hb dX9_rightDepth_31 rfl (lv_at hl 3 rfl) ?_
        refine lv_iadd hx hb dX9_rightDepth_32 ?_
        refine lv_bipush (v := 9) hx hb dX9_rightDepth_33 (by decide) ?_
        refine lv_imul hx hb dX9_rightDepth_35 ?_
        refine lv_iload_n hx hb dX9_rightDepth_36 rfl (lv_at hl 3 rfl) ?_
        refine lv_iadd hx hb dX9_rightDepth_37 ?_
        obtain ⟨hi38, h⟩ := h
        refine va_iald hx hb hK hP 36 0 (xW_36 cI cZ ad M) rfl hi38 dX9_rightDepth_38 ?_
        refine lv_icmp_ge (tgt := 45) hx hb dX9_rightDepth_39 (by decide) (fun q39 => ?_) (fun q39 => ?_)
        · have h := h.1 q39
          obtain ⟨x4_45, ex4_45⟩ : ∃ y : Int32, y = x4 + 1 := ⟨_, rfl⟩
          have h := h x4_45 ex4_45
          refine lv_iinc (v := x4_45) (lv' := [(4, .int x4_45), (0, .ref (ad 32)), (1, .int x1), (2, .int x2), (3, .int x3)]) hx hb dX9_rightDepth_45 hl (k := 4) rfl (by rw [ex4_45]; rfl) (by decide) rfl (fun ls hl => ?_)
          refine lv_goto (tgt := 5) hx hb dX9_rightDepth_48 (by decide) ?_
          exact hB x1 x2 x3 x4_45 M _ _ _ (lv_sub hl [1, 2, 3, 4, 0] rfl) hP hS h
        · have h := h.2 q39
          refine lv_iload hx hb dX9_rightDepth_42 (lv_at hl 4 rfl) ?_
          refine lv_istore_n (lv' := [(3, .int x4), (0, .ref (ad 32)), (1, .int x1), (2, .int x2), (4, .int x4)]) hx hb dX9_rightDepth_44 rfl hl (by decide) rfl (fun ls hl => ?_)
          obtain ⟨x4_45, ex4_45⟩ : ∃ y : Int32, y = x4 + 1 := ⟨_, rfl⟩
          have h := h x4_45 ex4_45
          refine lv_iinc (v := x4_45) (lv' := [(4, .int x4_45), (3, .int x4), (0, .ref (ad 32)), (1, .int x1), (2, .int x2)]) hx hb dX9_rightDepth_45 hl (k := 4) rfl (by rw [ex4_45]; rfl) (by decide) rfl (fun ls hl => ?_)
          refine lv_goto (tgt := 5) hx hb dX9_rightDepth_48 (by decide) ?_
          exact hB x1 x2 x4 x4_45 M _ _ _ (lv_sub hl [2, 3, 4, 1, 0] rfl) hP hS h
  have hl := lv_entry ([.ref (ad 32), .int a1, .int a2]) (n := 5) (Nat.le_of_ble_eq_true rfl)
  rw [lg_entry_eq]
  generalize (lg_sl ([.ref (ad 32), .int a1, .int a2]) ++ List.replicate (5 - (lg_sl ([.ref (ad 32), .int a1, .int a2])).length) Slot.unset).toArray = ls at hl ⊢
  have hl : lv_has ls 5 [(0, .ref (ad 32)), (1, .int a1), (2, .int a2)] := hl
  refine lv_iconst (v := 0) hx hb dX9_rightDepth_0 (by decide) ?_
  refine lv_istore_n (lv' := [(3, .int 0), (0, .ref (ad 32)), (1, .int a1), (2, .int a2)]) hx hb dX9_rightDepth_1 rfl hl (by decide) rfl (fun ls hl => ?_)
  refine lv_iconst (v := 1) hx hb dX9_rightDepth_2 (by decide) ?_
  refine lv_istore (lv' := [(4, .int 1), (3, .int 0), (0, .ref (ad 32)), (1, .int a1), (2, .int a2)]) hx hb dX9_rightDepth_3 hl (by decide) rfl (fun ls hl => ?_)
  obtain ⟨n, h⟩ := h
  refine L5 _ (fun x3 M H locs ls hl hP hS h => ?_) n a1 a2 0 1 M _ _ _ (lv_sub hl [2, 3, 4, 1, 0] rfl) hP hS h
  refine lv_iload_n hx hb dX9_rightDepth_51 rfl (lv_at hl 0 rfl) ?_
  exact W.iret (v := x3) hx hb hr (fun t ht hW => ⟨⟨x3, M, rfl, h, xAt_of ht hP⟩, hS.F ht⟩) hS.2.2 dX9_rightDepth_52
set_option maxHeartbeats 4000000 in
set_option maxRecDepth 100000 in
theorem kX2_tell (l : Launch) (D : va_G) (cI cZ : ClassId) (ad : Nat → Nat) (zA zD zR : Nat) (hD : ∀ M : Mem, va_D (xA ad) (xW cI cZ ad M)) (M : Mem) (a1 a2 a3 a6 : Int32) (Q : Int32 → Mem → Prop) (h : wX2_tell M a1 a2 a3 a6 Q) : Met l yX2_tell uX2_tell ({ frames := 1, cells := 0, slots := 0, locals := 24 }) (va_Pc [.ref (ad 37), .int a1, .int a2, .int a3, .ref (ad 18), .ref (ad 32), .int a6] (xPre D cI cZ ad zA zD zR M)) (va_Qi Q (xAt D cI cZ ad) (xA ad)) 0 0 (xA ad) := by
  refine Met.ofW (cc := cX2_tell) (maxL := 8) (ret := (some .int)) (by decide) rfl ?_
  intro p e s m args below meth c s₁ B hml hv
  obtain ⟨rfl, hP, hK, hZ, hN⟩ := hv
  have hx := B.exec
  have hb := B.bytes
  have hr := B.returns
  have hts := atoms_spec (ws := uX2_tell) B.pre
  have hown : s.vm.findClass RX2 = some m.cls := findClass_of_methodNamed B.named
  have hlocks := B.notSynchronized
  have hS : va_S (xA ad) s.heap s.heap [] := va_S.rf
  have k0 := hts (.fieldLink RX2 36 "TwoEyes$Costs" "left" "LTwoEyes$Stand;") (List.mem_cons_of_mem _ (inA_18 _ (List.mem_of_getElem? (i := 12) rfl)))
  have inX1 : ∀ w ∈ wsX10, w ∈ uX2_tell := fun w h => List.mem_cons_of_mem _ (inCX1 w h)
  have k2 := hts (.fieldLink RX2 42 "TwoEyes$Stand" "lost" "[Z") (List.mem_cons_of_mem _ (inA_18 _ (List.mem_of_getElem? (i := 13) rfl)))
  have inX8 : ∀ w ∈ wsX80, w ∈ uX2_tell := fun w h => List.mem_cons_of_mem _ (inCX8 w h)
  have k4 := hts (.fieldLink RX2 53 "TwoEyes$Costs" "right" "LTwoEyes$Stand;") (List.mem_cons_of_mem _ (inA_18 _ (List.mem_of_getElem? (i := 14) rfl)))
  have k5 := hts (.methodLink RX2 56 Lib.Math.min.name) (List.mem_cons_of_mem _ (inA_18 _ (List.mem_of_getElem? (i := 15) rfl)))
  have k6 := hts (.static Lib.Math.min.name) (List.mem_cons_of_mem _ (inA_17 _ (List.mem_of_getElem? (i := 18) rfl)))
  have k7 := hts (.initialized "java/lang/Math") (List.mem_cons_of_mem _ (inA_17 _ (List.mem_of_getElem? (i := 19) rfl)))
  have k8 := hts (.code Lib.Math.min.name Lib.Math.min.code 2 (some .int)) (List.mem_cons_of_mem _ (inA_17 _ (List.mem_of_getElem? (i := 20) rfl)))
  have hl := lv_entry ([.ref (ad 37), .int a1, .int a2, .int a3, .ref (ad 18), .ref (ad 32), .int a6]) (n := 8) (Nat.le_of_ble_eq_true rfl)
  rw [lg_entry_eq]
  generalize (lg_sl ([.ref (ad 37), .int a1, .int a2, .int a3, .ref (ad 18), .ref (ad 32), .int a6]) ++ List.replicate (8 - (lg_sl ([.ref (ad 37), .int a1, .int a2, .int a3, .ref (ad 18), .ref (ad 32), .int a6])).length) Slot.unset).toArray = ls at hl ⊢
  have hl : lv_has ls 8 [(0, .ref (ad 37)), (1, .int a1), (2, .int a2), (3, .int a3), (4, .ref (ad 18)), (5, .ref (ad 32)), (6, .int a6)] := hl
  refine lv_aload hx hb dX2_tell_0 (lv_at hl 4 rfl) ?_
  refine va_get (D := D) (ci := 1) (v := .ref (ad 19)) (C := RX1) (T := TX1) (N := 4) hx hb hts inX1 hown hK hP 18 (xW_18 cI cZ ad M) rfl 0 (by decide) k0 (fun _ h9 => h9) rfl dX2_tell_2 ?_
  refine va_get (D := D) (ci := 8) (v := .ref (ad 22)) (C := RX8) (T := TX8) (N := 3) hx hb hts inX8 hown hK hP 19 (xW_19 cI cZ ad M) rfl 2 (by decide) k2 (fun _ h9 => h9) rfl dX2_tell_5 ?_
  refine lv_iload_n hx hb dX2_tell_8 rfl (lv_at hl 1 rfl) ?_
  obtain ⟨hi9, h⟩ := h
  refine va_zald hx hb hK hP 22 1 (xW_22 cI cZ ad M) rfl hi9 dX2_tell_9 ?_
  refine lv_if_eq (tgt := 16) hx hb dX2_tell_10 (by decide) (fun q10 => ?_) (fun q10 => ?_)
  · have h := h.1 q10
    refine lv_aload hx hb dX2_tell_16 (lv_at hl 5 rfl) ?_
    refine lv_iload_n hx hb dX2_tell_18 rfl (lv_at hl 1 rfl) ?_
    refine lv_iload hx hb dX2_tell_19 (lv_at hl 6 rfl) ?_
    refine x_callVi (As := [.int a1, .int a6]) (rest := []) ⟨hx, hb, hml, hown, hts⟩ (kX9_leftDepth l D cI cZ ad zA zD zR hD M a1 a6 _ h) (cwV 2 hts (gdV uS (inA_18 _ (List.mem_of_getElem? (i := 16) rfl)) vX9_leftDepth) rfl rfl rfl (by decide +kernel) ⟨Nat.le_of_ble_eq_true rfl, Nat.le_of_ble_eq_true rfl⟩) (va_recv hK hP (ci := 9) (q0 := 32) rfl (xW_32 cI cZ ad M)) hP hK hZ hN hS hl.1 rfl rfl (Nat.le_of_ble_eq_true rfl) dX2_tell_21 (fun r21 M21 H locs h hP hS => ?_)
    refine lv_istore (lv' := [(7, .int r21), (0, .ref (ad 37)), (1, .int a1), (2, .int a2), (3, .int a3), (4, .ref (ad 18)), (5, .ref (ad 32)), (6, .int a6)]) hx hb dX2_tell_24 hl (by decide) rfl (fun ls hl => ?_)
    refine lv_iload hx hb dX2_tell_26 (lv_at hl 0 rfl) ?_
    refine lv_iload_n hx hb dX2_tell_28 rfl (lv_at hl 3 rfl) ?_
    refine lv_icmp_le (tgt := 35) hx hb dX2_tell_29 (by decide) (fun q29 => ?_) (fun q29 => ?_)
    · have h := h.1 q29
      refine lv_aload hx hb dX2_tell_35 (lv_at hl 5 rfl) ?_
      refine va_get (D := D) (ci := 1) (v := .ref (ad 23)) (C := RX1) (T := TX1) (N := 4) hx hb hts inX1 hown hK hP 18 (xW_18 cI cZ ad M21) rfl 1 (by decide) k4 (fun _ h9 => h9) rfl dX2_tell_37 ?_
      refine va_get (D := D) (ci := 8) (v := .ref (ad 26)) (C := RX8) (T := TX8) (N := 3) hx hb hts inX8 hown hK hP 23 (xW_23 cI cZ ad M21) rfl 2 (by decide) k2 (fun _ h9 => h9) rfl dX2_tell_40 ?_
      refine lv_iload_n hx hb dX2_tell_43 rfl (lv_at hl 2 rfl) ?_
      refine lv_iload hx hb dX2_tell_44 (lv_at hl 0 rfl) ?_
      refine lv_isub hx hb dX2_tell_46 ?_
      obtain ⟨hi47, h⟩ := h
      refine va_zald hx hb hK hP 26 1 (xW_26 cI cZ ad M21) rfl hi47 dX2_tell_47 ?_
      refine lv_if_eq (tgt := 54) hx hb dX2_tell_48 (by decide) (fun q48 => ?_) (fun q48 => ?_)
      · have h := h.1 q48
        refine lv_aload hx hb dX2_tell_54 (lv_at hl 6 rfl) ?_
        refine lv_iload_n hx hb dX2_tell_56 rfl (lv_at hl 2 rfl) ?_
        refine lv_iload hx hb dX2_tell_57 (lv_at hl 0 rfl) ?_
        refine lv_isub hx hb dX2_tell_59 ?_
        refine lv_iload hx hb dX2_tell_60 (lv_at hl 7 rfl) ?_
        refine lv_iload_n hx hb dX2_tell_62 rfl (lv_at hl 4 rfl) ?_
        refine lv_iload hx hb dX2_tell_63 (lv_at hl 0 rfl) ?_
        refine lv_iadd hx hb dX2_tell_65 ?_
        refine va_mmin hx hb (hml.trans hl.1.symm) hown k5 k6 k7 k8 (Nat.le_of_ble_eq_true rfl) (Nat.le_of_ble_eq_true rfl) (Nat.zero_le _) (Nat.zero_le _) dX2_tell_66 ?_
        refine lv_topi (fun v66 ev66 => ?_)
        have h := h v66 ev66
        refine x_callVi (As := [.int (a1 - r21), .int v66]) (rest := []) ⟨hx, hb, hml, hown, hts⟩ (kX9_rightDepth l D cI cZ ad zA zD zR hD M21 (a1 - r21) v66 _ h) (cwV 2 hts (gdV uS (inA_18 _ (List.mem_of_getElem? (i := 20) rfl)) vX9_rightDepth) rfl rfl rfl (by decide +kernel) ⟨Nat.le_of_ble_eq_true rfl, Nat.le_of_ble_eq_true rfl⟩) (va_recv hK hP (ci := 9) (q0 := 32) rfl (xW_32 cI cZ ad M21)) hP hK hZ hN hS hl.1 rfl rfl (Nat.le_of_ble_eq_true rfl) dX2_tell_69 (fun r69 M69 H locs h hP hS => ?_)
        refine lv_iload hx hb dX2_tell_72 (lv_at hl 0 rfl) ?_
        refine lv_icmp_ne (tgt := 82) hx hb dX2_tell_74 (by decide) (fun q74 => ?_) (fun q74 => ?_)
        · have h := h.1 q74
          refine lv_bipush (v := (-14)) hx hb dX2_tell_82 (by decide) ?_
          exact W.iret (v := (-14)) hx hb hr (fun t ht hW => ⟨⟨(-14), M69, rfl, h, xAt_of ht hP⟩, hS.F ht⟩) hS.2.2 dX2_tell_84
        · have h := h.2 q74
          refine lv_iload hx hb dX2_tell_77 (lv_at hl 0 rfl) ?_
          refine lv_goto (tgt := 84) hx hb dX2_tell_79 (by decide) ?_
          exact W.iret (v := r21) hx hb hr (fun t ht hW => ⟨⟨r21, M69, rfl, h, xAt_of ht hP⟩, hS.F ht⟩) hS.2.2 dX2_tell_84
      · have h := h.2 q48
        refine lv_bipush (v := (-13)) hx hb dX2_tell_51 (by decide) ?_
        exact W.iret (v := (-13)) hx hb hr (fun t ht hW => ⟨⟨(-13), M21, rfl, h, xAt_of ht hP⟩, hS.F ht⟩) hS.2.2 dX2_tell_53
    · have h := h.2 q29
      refine lv_bipush (v := (-12)) hx hb dX2_tell_32 (by decide) ?_
      exact W.iret (v := (-12)) hx hb hr (fun t ht hW => ⟨⟨(-12), M21, rfl, h, xAt_of ht hP⟩, hS.F ht⟩) hS.2.2 dX2_tell_34
  · have h := h.2 q10
    refine lv_bipush (v := (-11)) hx hb dX2_tell_13 (by decide) ?_
    exact W.iret (v := (-11)) hx hb hr (fun t ht hW => ⟨⟨(-11), M, rfl, h, xAt_of ht hP⟩, hS.F ht⟩) hS.2.2 dX2_tell_15
abbrev GX2_tellAll (p : Program) (l : Launch) (e : Env) (s : State) (m : MethodId) (below : List Frame) (meth : Method) (c : Code) (D : va_G) (cI cZ : ClassId) (ad : Nat → Nat) (a4 : Int32) (Q : Mem → Prop) (H : Heap) (locs : List Loc) (g : JFrame) : Prop := W p l e (headSpec uX2_tellAll { frames := 2, cells := 0, slots := 0, locals := 51 }).room s m ([.ref (ad 37), .ref (ad 1), .ref (ad 18), .ref (ad 32), .int a4] : List Value).toArray below meth c H locs 0 0 (MQ below (va_Qv Q (xAt D cI cZ ad) (xA ad)) ([.ref (ad 37), .ref (ad 1), .ref (ad 18), .ref (ad 32), .int a4] : List Value).toArray s 0 0 (xA ad)) g
set_option maxHeartbeats 4000000 in
set_option maxRecDepth 100000 in
theorem kX2_tellAll (l : Launch) (D : va_G) (cI cZ : ClassId) (ad : Nat → Nat) (zA zD zR : Nat) (hD : ∀ M : Mem, va_D (xA ad) (xW cI cZ ad M)) (M : Mem) (a4 : Int32) (Q : Mem → Prop) (h : wX2_tellAll M a4 Q) : Met l yX2_tellAll uX2_tellAll ({ frames := 2, cells := 0, slots := 0, locals := 51 }) (va_Pc [.ref (ad 37), .ref (ad 1), .ref (ad 18), .ref (ad 32), .int a4] (xPre D cI cZ ad zA zD zR M)) (va_Qv Q (xAt D cI cZ ad) (xA ad)) 0 0 (xA ad) := by
  refine Met.ofW (cc := cX2_tellAll) (maxL := 9) (ret := none) (by decide) rfl ?_
  intro p e s m args below meth c s₁ B hml hv
  obtain ⟨rfl, hP, hK, hZ, hN⟩ := hv
  have hx := B.exec
  have hb := B.bytes
  have hr := B.returns
  have hts := atoms_spec (ws := uX2_tellAll) B.pre
  have hown : s.vm.findClass RX2 = some m.cls := findClass_of_methodNamed B.named
  have hlocks := B.notSynchronized
  have hS : va_S (xA ad) s.heap s.heap [] := va_S.rf
  have k0 := hts (.fieldLink RX2 25 "TwoEyes$Scene" "width" "I") (List.mem_cons_of_mem _ (inA_18 _ (List.mem_of_getElem? (i := 6) rfl)))
  have inX6 : ∀ w ∈ wsX60, w ∈ uX2_tellAll := fun w h => List.mem_cons_of_mem _ (inCX6 w h)
  have k2 := hts (.fieldLink RX2 9 "TwoEyes$Depths" "told" "[I") (List.mem_cons_of_mem _ (inA_5 _ (List.mem_of_getElem? (i := 11) rfl)))
  have inX2 : ∀ w ∈ wsX20, w ∈ uX2_tellAll := fun w h => List.mem_cons_of_mem _ (inCX2 w h)
  have k4 := hts (.fieldLink RX2 19 "TwoEyes$Scene" "height" "I") (List.mem_cons_of_mem _ (inA_18 _ (List.mem_of_getElem? (i := 5) rfl)))
  have k5 := hts (.fieldLink RX2 15 "TwoEyes$Depths" "fresh" "Z") (List.mem_cons_of_mem _ (inA_5 _ (List.mem_of_getElem? (i := 12) rfl)))
  have L15 : ∀ (K72 : Int32 → Int32 → Mem → Prop), (∀ (x4 x5 : Int32) (M : Mem) (H : Heap) (locs : List Loc) (ls : Array Slot), lv_has ls 9 [(0, .ref (ad 37)), (1, .ref (ad 1)), (2, .ref (ad 18)), (3, .ref (ad 32)), (4, .int x4), (5, .int x5)] → va_P D vwCl (xW cI cZ ad M) H → va_S (xA ad) s.heap H locs → K72 x4 x5 M → GX2_tellAll p l e s m below meth c D cI cZ ad a4 Q H locs (F0 m 72 ls [])) → ∀ n : Nat, ∀ (x4 x5 x6 : Int32) (M : Mem) (H : Heap) (locs : List Loc) (ls : Array Slot), lv_has ls 9 [(0, .ref (ad 37)), (1, .ref (ad 1)), (2, .ref (ad 18)), (3, .ref (ad 32)), (4, .int x4), (5, .int x5), (6, .int x6)] → va_P D vwCl (xW cI cZ ad M) H → va_S (xA ad) s.heap H locs → wX2_tellAll_L15 K72 Q n x4 x5 x6 M → GX2_tellAll p l e s m below meth c D cI cZ ad a4 Q H locs (F0 m 15 ls []) := by
    intro K72 hK72 n
    induction n with
    | zero => intro x4 x5 x6 M H locs ls hl hP hS h; exact (show False from h).elim
    | succ n hB =>
      intro x4 x5 x6 M H locs ls hl hP hS h
      rw [wX2_tellAll_L15_s] at h
      refine lv_iload hx hb dX2_tellAll_15 (lv_at hl 6 rfl) ?_
      refine lv_aload_n hx hb dX2_tellAll_17 rfl (lv_at hl 1 rfl) ?_
      refine va_get (D := D) (ci := 6) (v := .int (M 1 0)) (C := RX6) (T := TX6) (N := 5) hx hb hts inX6 hown hK hP 1 (xW_1 cI cZ ad M) rfl 0 (by decide) k0 (fun _ h9 => h9) rfl dX2_tellAll_18 ?_
      refine lv_icmp_ge (tgt := 72) hx hb dX2_tellAll_21 (by decide) (fun q21 => ?_) (fun q21 => ?_)
      · have h := h.1 q21
        exact hK72 x4 x5 M _ _ _ (lv_sub hl [0, 1, 2, 3, 4, 5] rfl) hP hS h
      · have h := h.2 q21
        refine lv_aload_n hx hb dX2_tellAll_24 rfl (lv_at hl 1 rfl) ?_
        refine lv_iload hx hb dX2_tellAll_25 (lv_at hl 6 rfl) ?_
        refine lv_iload hx hb dX2_tellAll_27 (lv_at hl 5 rfl) ?_
        refine x_callVi (As := [.int x6, .int x5]) (rest := []) ⟨hx, hb, hml, hown, hts⟩ (kX6_placeOf l D cI cZ ad zA zD zR hD M x6 x5 _ h) (cwV 2 hts (gdV uS (inA_18 _ (List.mem_of_getElem? (i := 7) rfl)) vX6_placeOf) rfl rfl rfl (by decide +kernel) ⟨Nat.le_of_ble_eq_true rfl, Nat.le_of_ble_eq_true rfl⟩) (va_recv hK hP (ci := 6) (q0 := 1) rfl (xW_1 cI cZ ad M)) hP hK hZ hN hS hl.1 rfl rfl (Nat.le_of_ble_eq_true rfl) dX2_tellAll_29 (fun r29 M29 H locs h hP hS => ?_)
        refine lv_istore (lv' := [(7, .int r29), (0, .ref (ad 37)), (1, .ref (ad 1)), (2, .ref (ad 18)), (3, .ref (ad 32)), (4, .int x4), (5, .int x5), (6, .int x6)]) hx hb dX2_tellAll_32 hl (by decide) rfl (fun ls hl => ?_)
        refine lv_aload_n hx hb dX2_tellAll_34 rfl (lv_at hl 2 rfl) ?_
        refine va_get (D := D) (ci := 6) (v := .int (M29 1 0)) (C := RX6) (T := TX6) (N := 5) hx hb hts inX6 hown hK hP 1 (xW_1 cI cZ ad M29) rfl 0 (by decide) k0 (fun _ h9 => h9) rfl dX2_tellAll_35 ?_
        refine lv_iconst (v := 1) hx hb dX2_tellAll_38 (by decide) ?_
        refine lv_isub hx hb dX2_tellAll_39 ?_
        refine lv_iload hx hb dX2_tellAll_40 (lv_at hl 7 rfl) ?_
        refine lv_isub hx hb dX2_tellAll_42 ?_
        refine lv_topi (fun x8_43 ex8_43 => ?_)
        have h := h x8_43 ex8_43
        refine lv_istore (lv' := [(8, .int x8_43), (7, .int r29), (0, .ref (ad 37)), (1, .ref (ad 1)), (2, .ref (ad 18)), (3, .ref (ad 32)), (4, .int x4), (5, .int x5), (6, .int x6)]) hx hb dX2_tellAll_43 hl (by decide) rfl (fun ls hl => ?_)
        refine lv_aload_n hx hb dX2_tellAll_45 rfl (lv_at hl 2 rfl) ?_
        refine va_get (D := D) (ci := 2) (v := .ref (ad 38)) (C := RX2) (T := TX2) (N := 2) hx hb hts inX2 hown hK hP 37 (xW_37 cI cZ ad M29) rfl 0 (by decide) k2 (fun _ h9 => h9) rfl dX2_tellAll_46 ?_
        refine lv_iload hx hb dX2_tellAll_49 (lv_at hl 1 rfl) ?_
        refine lv_aload_n hx hb dX2_tellAll_51 rfl (lv_at hl 2 rfl) ?_
        refine lv_iload hx hb dX2_tellAll_52 (lv_at hl 1 rfl) ?_
        refine lv_iload hx hb dX2_tellAll_54 (lv_at hl 8 rfl) ?_
        refine lv_iload hx hb dX2_tellAll_56 (lv_at hl 0 rfl) ?_
        refine lv_aload_n hx hb dX2_tellAll_58 rfl (lv_at hl 4 rfl) ?_
        refine lv_aload_n hx hb dX2_tellAll_59 rfl (lv_at hl 5 rfl) ?_
        refine lv_iload hx hb dX2_tellAll_60 (lv_at hl 6 rfl) ?_
        refine x_callVi (As := [.int r29, .int x6, .int x8_43, .ref (ad 18), .ref (ad 32), .int x4]) (rest := [.int r29, .ref (ad 38)]) ⟨hx, hb, hml, hown, hts⟩ (kX2_tell l D cI cZ ad zA zD zR hD M29 r29 x6 x8_43 x4 _ h) (cwV 6 hts (gdV uS (inA_18 _ (List.mem_of_getElem? (i := 8) rfl)) vX2_tell) rfl rfl rfl (by decide +kernel) ⟨Nat.le_of_ble_eq_true rfl, Nat.le_of_ble_eq_true rfl⟩) (va_recv hK hP (ci := 2) (q0 := 37) rfl (xW_37 cI cZ ad M29)) hP hK hZ hN hS hl.1 rfl rfl (Nat.le_of_ble_eq_true rfl) dX2_tellAll_62 (fun r62 M62 H locs h hP hS => ?_)
        obtain ⟨hi65, h⟩ := h
        refine va_iast hx hb hK hP (hD M62) hS 38 0 (xW_38 cI cZ ad M62) rfl hi65 dX2_tellAll_65 (fun H locs hP _ hS => ?_)
        refine xQ_38 hP (fun M65 eM65 hP => ?_)
        have h := h M65 eM65
        obtain ⟨x6_66, ex6_66⟩ : ∃ y : Int32, y = x6 + 1 := ⟨_, rfl⟩
        have h := h x6_66 ex6_66
        refine lv_iinc (v := x6_66) (lv' := [(6, .int x6_66), (8, .int x8_43), (7, .int r29), (0, .ref (ad 37)), (1, .ref (ad 1)), (2, .ref (ad 18)), (3, .ref (ad 32)), (4, .int x4), (5, .int x5)]) hx hb dX2_tellAll_66 hl (k := 8) rfl (by rw [ex6_66]; rfl) (by decide) rfl (fun ls hl => ?_)
        refine lv_goto (tgt := 15) hx hb dX2_tellAll_69 (by decide) ?_
        exact hB x4 x5 x6_66 M65 _ _ _ (lv_sub hl [3, 4, 5, 6, 7, 8, 0] rfl) hP hS h
  have L3 : ∀ (K78 : Mem → Prop), (∀ (M : Mem) (H : Heap) (locs : List Loc) (ls : Array Slot), lv_has ls 9 [(0, .ref (ad 37))] → va_P D vwCl (xW cI cZ ad M) H → va_S (xA ad) s.heap H locs → K78 M → GX2_tellAll p l e s m below meth c D cI cZ ad a4 Q H locs (F0 m 78 ls [])) → ∀ n : Nat, ∀ (x4 x5 : Int32) (M : Mem) (H : Heap) (locs : List Loc) (ls : Array Slot), lv_has ls 9 [(0, .ref (ad 37)), (1, .ref (ad 1)), (2, .ref (ad 18)), (3, .ref (ad 32)), (4, .int x4), (5, .int x5)] → va_P D vwCl (xW cI cZ ad M) H → va_S (xA ad) s.heap H locs → wX2_tellAll_L3 K78 Q n x4 x5 M → GX2_tellAll p l e s m below meth c D cI cZ ad a4 Q H locs (F0 m 3 ls []) := by
    intro K78 hK78 n
    induction n with
    | zero => intro x4 x5 M H locs ls hl hP hS h; exact (show False from h).elim
    | succ n hB =>
      intro x4 x5 M H locs ls hl hP hS h
      rw [wX2_tellAll_L3_s] at h
      refine lv_iload hx hb dX2_tellAll_3 (lv_at hl 5 rfl) ?_
      refine lv_aload_n hx hb dX2_tellAll_5 rfl (lv_at hl 1 rfl) ?_
      refine va_get (D := D) (ci := 6) (v := .int (M 1 1)) (C := RX6) (T := TX6) (N := 5) hx hb hts inX6 hown hK hP 1 (xW_1 cI cZ ad M) rfl 1 (by decide) k4 (fun _ h9 => h9) rfl dX2_tellAll_6 ?_
      refine lv_icmp_ge (tgt := 78) hx hb dX2_tellAll_9 (by decide) (fun q9 => ?_) (fun q9 => ?_)
      · have h := h.1 q9
        exact hK78 M _ _ _ (lv_sub hl [0] rfl) hP hS h
      · have h := h.2 q9
        refine lv_iconst (v := 0) hx hb dX2_tellAll_12 (by decide) ?_
        refine lv_istore (lv' := [(6, .int 0), (0, .ref (ad 37)), (1, .ref (ad 1)), (2, .ref (ad 18)), (3, .ref (ad 32)), (4, .int x4), (5, .int x5)]) hx hb dX2_tellAll_13 hl (by decide) rfl (fun ls hl => ?_)
        obtain ⟨n, h⟩ := h
        refine L15 _ (fun x4 x5 M H locs ls hl hP hS h => ?_) n x4 x5 0 M _ _ _ (lv_sub hl [1, 2, 3, 4, 5, 6, 0] rfl) hP hS h
        obtain ⟨x5_72, ex5_72⟩ : ∃ y : Int32, y = x5 + 1 := ⟨_, rfl⟩
        have h := h x5_72 ex5_72
        refine lv_iinc (v := x5_72) (lv' := [(5, .int x5_72), (0, .ref (ad 37)), (1, .ref (ad 1)), (2, .ref (ad 18)), (3, .ref (ad 32)), (4, .int x4)]) hx hb dX2_tellAll_72 hl (k := 5) rfl (by rw [ex5_72]; rfl) (by decide) rfl (fun ls hl => ?_)
        refine lv_goto (tgt := 3) hx hb dX2_tellAll_75 (by decide) ?_
        exact hB x4 x5_72 M _ _ _ (lv_sub hl [1, 2, 3, 4, 5, 0] rfl) hP hS h
  have hl := lv_entry ([.ref (ad 37), .ref (ad 1), .ref (ad 18), .ref (ad 32), .int a4]) (n := 9) (Nat.le_of_ble_eq_true rfl)
  rw [lg_entry_eq]
  generalize (lg_sl ([.ref (ad 37), .ref (ad 1), .ref (ad 18), .ref (ad 32), .int a4]) ++ List.replicate (9 - (lg_sl ([.ref (ad 37), .ref (ad 1), .ref (ad 18), .ref (ad 32), .int a4])).length) Slot.unset).toArray = ls at hl ⊢
  have hl : lv_has ls 9 [(0, .ref (ad 37)), (1, .ref (ad 1)), (2, .ref (ad 18)), (3, .ref (ad 32)), (4, .int a4)] := hl
  refine lv_iconst (v := 0) hx hb dX2_tellAll_0 (by decide) ?_
  refine lv_istore (lv' := [(5, .int 0), (0, .ref (ad 37)), (1, .ref (ad 1)), (2, .ref (ad 18)), (3, .ref (ad 32)), (4, .int a4)]) hx hb dX2_tellAll_1 hl (by decide) rfl (fun ls hl => ?_)
  obtain ⟨n, h⟩ := h
  refine L3 _ (fun  M H locs ls hl hP hS h => ?_) n a4 0 M _ _ _ (lv_sub hl [1, 2, 3, 4, 5, 0] rfl) hP hS h
  refine lv_aload_n hx hb dX2_tellAll_78 rfl (lv_at hl 0 rfl) ?_
  refine lv_iconst (v := 1) hx hb dX2_tellAll_79 (by decide) ?_
  refine va_put (D := D) (ci := 2) (v := .int 1) (ty := .boolean) (C := RX2) (T := TX2) (N := 2) hx hb hts inX2 tyX2 tyX2_ok nmX2 hown hK hP (hD M) hS 37 (xW_37 cI cZ ad M) rfl 1 (by decide) k5 (fun _ h9 => h9) rfl (by decide +kernel) rfl rfl (Nat.le_of_ble_eq_true rfl) dX2_tellAll_80 (fun H locs hP _ hS => ?_)
  refine xP_37_1 hP (fun M80 eM80 hP => ?_)
  have h := h M80 eM80
  exact W.vret hx hb hr (fun t ht hW => ⟨⟨M80, rfl, h, xAt_of ht hP⟩, hS.F ht⟩) hS.2.2 dX2_tellAll_83
set_option maxHeartbeats 4000000 in
set_option maxRecDepth 100000 in
theorem kX10_refreshDepths (l : Launch) (D : va_G) (cI cZ : ClassId) (ad : Nat → Nat) (zA zD zR : Nat) (hD : ∀ M : Mem, va_D (xA ad) (xW cI cZ ad M)) (M : Mem) (Q : Mem → Prop) (h : wX10_refreshDepths M Q) : Met l yX10_refreshDepths uX10_refreshDepths ({ frames := 5, cells := 0, slots := 0, locals := 129 }) (va_Pc [.ref (ad 0)] (xPre D cI cZ ad zA zD zR M)) (va_Qv Q (xAt D cI cZ ad) (xA ad)) 0 0 (xA ad) := by
  refine Met.ofW (cc := cX10_refreshDepths) (maxL := 1) (ret := none) (by decide) rfl ?_
  intro p e s m args below meth c s₁ B hml hv
  obtain ⟨rfl, hP, hK, hZ, hN⟩ := hv
  have hx := B.exec
  have hb := B.bytes
  have hr := B.returns
  have hts := atoms_spec (ws := uX10_refreshDepths) B.pre
  have hown : s.vm.findClass RX10 = some m.cls := findClass_of_methodNamed B.named
  have hlocks := B.notSynchronized
  have hS : va_S (xA ad) s.heap s.heap [] := va_S.rf
  have k0 := hts (.fieldLink RX10 51 "TwoEyes" "depths" "LTwoEyes$Depths;") (List.mem_cons_of_mem _ (inA_2 _ (List.mem_of_getElem? (i := 11) rfl)))
  have inX10 : ∀ w ∈ wsX100, w ∈ uX10_refreshDepths := fun w h => List.mem_cons_of_mem _ (inCX10 w h)
  have k2 := hts (.fieldLink RX10 287 "TwoEyes$Depths" "fresh" "Z") (List.mem_cons_of_mem _ (inA_8 _ (List.mem_of_getElem? (i := 13) rfl)))
  have inX2 : ∀ w ∈ wsX20, w ∈ uX10_refreshDepths := fun w h => List.mem_cons_of_mem _ (inCX2 w h)
  have k4 := hts (.fieldLink RX10 10 "TwoEyes" "scene" "LTwoEyes$Scene;") (List.mem_cons_of_mem _ (inA_1 _ (List.mem_of_getElem? (i := 15) rfl)))
  have k5 := hts (.fieldLink RX10 30 "TwoEyes" "costs" "LTwoEyes$Costs;") (List.mem_cons_of_mem _ (inA_1 _ (List.mem_of_getElem? (i := 23) rfl)))
  have k6 := hts (.fieldLink RX10 44 "TwoEyes" "sums" "LTwoEyes$Sums;") (List.mem_cons_of_mem _ (inA_2 _ (List.mem_of_getElem? (i := 7) rfl)))
  have k7 := hts (.fieldLink RX10 23 "TwoEyes" "rules" "[I") (List.mem_cons_of_mem _ (inA_1 _ (List.mem_of_getElem? (i := 19) rfl)))
  have hl := lv_entry ([.ref (ad 0)]) (n := 1) (Nat.le_of_ble_eq_true rfl)
  rw [lg_entry_eq]
  generalize (lg_sl ([.ref (ad 0)]) ++ List.replicate (1 - (lg_sl ([.ref (ad 0)])).length) Slot.unset).toArray = ls at hl ⊢
  have hl : lv_has ls 1 [(0, .ref (ad 0))] := hl
  refine lv_aload_n hx hb dX10_refreshDepths_0 rfl (lv_at hl 0 rfl) ?_
  refine x_callVv (As := []) (rest := []) ⟨hx, hb, hml, hown, hts⟩ (kX10_refreshSums l D cI cZ ad zA zD zR hD M _ h) (cwV 0 hts (gdV uS (inA_14 _ (List.mem_of_getElem? (i := 19) rfl)) vX10_refreshSums) rfl rfl rfl (by decide +kernel) ⟨Nat.le_of_ble_eq_true rfl, Nat.le_of_ble_eq_true rfl⟩) (va_recv hK hP (ci := 10) (q0 := 0) rfl (xW_0 cI cZ ad M)) hP hK hZ hN hS hl.1 rfl rfl (Nat.le_of_ble_eq_true rfl) dX10_refreshDepths_1 (fun M1 H locs h hP hS => ?_)
  refine lv_aload_n hx hb dX10_refreshDepths_4 rfl (lv_at hl 0 rfl) ?_
  refine va_get (D := D) (ci := 10) (v := .ref (ad 37)) (C := RX10) (T := TX10) (N := 11) hx hb hts inX10 hown hK hP 0 (xW_0 cI cZ ad M1) rfl 7 (by decide) k0 (fun _ h9 => h9) rfl dX10_refreshDepths_5 ?_
  refine va_get (D := D) (ci := 2) (v := .int (M1 37 1)) (C := RX2) (T := TX2) (N := 2) hx hb hts inX2 hown hK hP 37 (xW_37 cI cZ ad M1) rfl 1 (by decide) k2 (fun _ h9 => h9) rfl dX10_refreshDepths_8 ?_
  refine lv_if_ne (tgt := 39) hx hb dX10_refreshDepths_11 (by decide) (fun q11 => ?_) (fun q11 => ?_)
  · have h := h.1 q11
    exact W.vret hx hb hr (fun t ht hW => ⟨⟨M1, rfl, h, xAt_of ht hP⟩, hS.F ht⟩) hS.2.2 dX10_refreshDepths_39
  · have h := h.2 q11
    refine lv_aload_n hx hb dX10_refreshDepths_14 rfl (lv_at hl 0 rfl) ?_
    refine va_get (D := D) (ci := 10) (v := .ref (ad 37)) (C := RX10) (T := TX10) (N := 11) hx hb hts inX10 hown hK hP 0 (xW_0 cI cZ ad M1) rfl 7 (by decide) k0 (fun _ h9 => h9) rfl dX10_refreshDepths_15 ?_
    refine lv_aload_n hx hb dX10_refreshDepths_18 rfl (lv_at hl 0 rfl) ?_
    refine va_get (D := D) (ci := 10) (v := .ref (ad 1)) (C := RX10) (T := TX10) (N := 11) hx hb hts inX10 hown hK hP 0 (xW_0 cI cZ ad M1) rfl 0 (by decide) k4 (fun _ h9 => h9) rfl dX10_refreshDepths_19 ?_
    refine lv_aload_n hx hb dX10_refreshDepths_22 rfl (lv_at hl 0 rfl) ?_
    refine va_get (D := D) (ci := 10) (v := .ref (ad 18)) (C := RX10) (T := TX10) (N := 11) hx hb hts inX10 hown hK hP 0 (xW_0 cI cZ ad M1) rfl 4 (by decide) k5 (fun _ h9 => h9) rfl dX10_refreshDepths_23 ?_
    refine lv_aload_n hx hb dX10_refreshDepths_26 rfl (lv_at hl 0 rfl) ?_
    refine va_get (D := D) (ci := 10) (v := .ref (ad 32)) (C := RX10) (T := TX10) (N := 11) hx hb hts inX10 hown hK hP 0 (xW_0 cI cZ ad M1) rfl 6 (by decide) k6 (fun _ h9 => h9) rfl dX10_refreshDepths_27 ?_
    refine lv_aload_n hx hb dX10_refreshDepths_30 rfl (lv_at hl 0 rfl) ?_
    refine va_get (D := D) (ci := 10) (v := .ref (ad 17)) (C := RX10) (T := TX10) (N := 11) hx hb hts inX10 hown hK hP 0 (xW_0 cI cZ ad M1) rfl 3 (by decide) k7 (fun _ h9 => h9) rfl dX10_refreshDepths_31 ?_
    refine lv_iconst (v := 0) hx hb dX10_refreshDepths_34 (by decide) ?_
    obtain ⟨hi35, h⟩ := h
    refine va_iald hx hb hK hP 17 0 (xW_17 cI cZ ad M1) rfl hi35 dX10_refreshDepths_35 ?_
    refine x_callVv (As := [.ref (ad 1), .ref (ad 18), .ref (ad 32), .int (M1 17 (0 : Int32).toNatClampNeg)]) (rest := []) ⟨hx, hb, hml, hown, hts⟩ (kX2_tellAll l D cI cZ ad zA zD zR hD M1 (M1 17 (0 : Int32).toNatClampNeg) _ h) (cwV 4 hts (gdV uS (inA_18 _ (List.mem_of_getElem? (i := 1) rfl)) vX2_tellAll) rfl rfl rfl (by decide +kernel) ⟨Nat.le_of_ble_eq_true rfl, Nat.le_of_ble_eq_true rfl⟩) (va_recv hK hP (ci := 2) (q0 := 37) rfl (xW_37 cI cZ ad M1)) hP hK hZ hN hS hl.1 rfl rfl (Nat.le_of_ble_eq_true rfl) dX10_refreshDepths_36 (fun M36 H locs h hP hS => ?_)
    exact W.vret hx hb hr (fun t ht hW => ⟨⟨M36, rfl, h, xAt_of ht hP⟩, hS.F ht⟩) hS.2.2 dX10_refreshDepths_39
abbrev GX2_countTold (p : Program) (l : Launch) (e : Env) (s : State) (m : MethodId) (below : List Frame) (meth : Method) (c : Code) (D : va_G) (cI cZ : ClassId) (ad : Nat → Nat) (a1 : Int32) (Q : Int32 → Mem → Prop) (H : Heap) (locs : List Loc) (g : JFrame) : Prop := W p l e (headSpec uX2_countTold { frames := 0, cells := 0, slots := 0, locals := 0 }).room s m ([.ref (ad 37), .int a1] : List Value).toArray below meth c H locs 0 0 (MQ below (va_Qi Q (xAt D cI cZ ad) (xA ad)) ([.ref (ad 37), .int a1] : List Value).toArray s 0 0 (xA ad)) g
set_option maxHeartbeats 4000000 in
set_option maxRecDepth 100000 in
theorem kX2_countTold (l : Launch) (D : va_G) (cI cZ : ClassId) (ad : Nat → Nat) (zA zD zR : Nat) (hD : ∀ M : Mem, va_D (xA ad) (xW cI cZ ad M)) (M : Mem) (a1 : Int32) (Q : Int32 → Mem → Prop) (h : wX2_countTold M a1 Q) : Met l yX2_countTold uX2_countTold ({ frames := 0, cells := 0, slots := 0, locals := 0 }) (va_Pc [.ref (ad 37), .int a1] (xPre D cI cZ ad zA zD zR M)) (va_Qi Q (xAt D cI cZ ad) (xA ad)) 0 0 (xA ad) := by
  refine Met.ofW (cc := cX2_countTold) (maxL := 4) (ret := (some .int)) (by decide) rfl ?_
  intro p e s m args below meth c s₁ B hml hv
  obtain ⟨rfl, hP, hK, hZ, hN⟩ := hv
  have hx := B.exec
  have hb := B.bytes
  have hr := B.returns
  have hts := atoms_spec (ws := uX2_countTold) B.pre
  have hown : s.vm.findClass RX2 = some m.cls := findClass_of_methodNamed B.named
  have hlocks := B.notSynchronized
  have hS : va_S (xA ad) s.heap s.heap [] := va_S.rf
  have k0 := hts (.fieldLink RX2 9 "TwoEyes$Depths" "told" "[I") (List.mem_cons_of_mem _ (inA_5 _ (List.mem_of_getElem? (i := 11) rfl)))
  have inX2 : ∀ w ∈ wsX20, w ∈ uX2_countTold := fun w h => List.mem_cons_of_mem _ (inCX2 w h)
  have L4 : ∀ (K27 : Int32 → Mem → Prop), (∀ (x2 : Int32) (M : Mem) (H : Heap) (locs : List Loc) (ls : Array Slot), lv_has ls 4 [(2, .int x2)] → va_P D vwCl (xW cI cZ ad M) H → va_S (xA ad) s.heap H locs → K27 x2 M → GX2_countTold p l e s m below meth c D cI cZ ad a1 Q H locs (F0 m 27 ls [])) → ∀ n : Nat, ∀ (x1 x2 x3 : Int32) (M : Mem) (H : Heap) (locs : List Loc) (ls : Array Slot), lv_has ls 4 [(0, .ref (ad 37)), (1, .int x1), (2, .int x2), (3, .int x3)] → va_P D vwCl (xW cI cZ ad M) H → va_S (xA ad) s.heap H locs → wX2_countTold_L4 K27 Q n x1 x2 x3 M → GX2_countTold p l e s m below meth c D cI cZ ad a1 Q H locs (F0 m 4 ls []) := by
    intro K27 hK27 n
    induction n with
    | zero => intro x1 x2 x3 M H locs ls hl hP hS h; exact (show False from h).elim
    | succ n hB =>
      intro x1 x2 x3 M H locs ls hl hP hS h
      rw [wX2_countTold_L4_s] at h
      refine lv_iload_n hx hb dX2_countTold_4 rfl (lv_at hl 3 rfl) ?_
      refine lv_iload_n hx hb dX2_countTold_5 rfl (lv_at hl 1 rfl) ?_
      refine lv_icmp_ge (tgt := 27) hx hb dX2_countTold_6 (by decide) (fun q6 => ?_) (fun q6 => ?_)
      · have h := h.1 q6
        exact hK27 x2 M _ _ _ (lv_sub hl [2] rfl) hP hS h
      · have h := h.2 q6
        refine lv_aload_n hx hb dX2_countTold_9 rfl (lv_at hl 0 rfl) ?_
        refine va_get (D := D) (ci := 2) (v := .ref (ad 38)) (C := RX2) (T := TX2) (N := 2) hx hb hts inX2 hown hK hP 37 (xW_37 cI cZ ad M) rfl 0 (by decide) k0 (fun _ h9 => h9) rfl dX2_countTold_10 ?_
        refine lv_iload_n hx hb dX2_countTold_13 rfl (lv_at hl 3 rfl) ?_
        obtain ⟨hi14, h⟩ := h
        refine va_iald hx hb hK hP 38 0 (xW_38 cI cZ ad M) rfl hi14 dX2_countTold_14 ?_
        refine lv_if_lt (tgt := 21) hx hb dX2_countTold_15 (by decide) (fun q15 => ?_) (fun q15 => ?_)
        · have h := h.1 q15
          obtain ⟨x3_21, ex3_21⟩ : ∃ y : Int32, y = x3 + 1 := ⟨_, rfl⟩
          have h := h x3_21 ex3_21
          refine lv_iinc (v := x3_21) (lv' := [(3, .int x3_21), (0, .ref (ad 37)), (1, .int x1), (2, .int x2)]) hx hb dX2_countTold_21 hl (k := 3) rfl (by rw [ex3_21]; rfl) (by decide) rfl (fun ls hl => ?_)
          refine lv_goto (tgt := 4) hx hb dX2_countTold_24 (by decide) ?_
          exact hB x1 x2 x3_21 M _ _ _ (lv_sub hl [1, 2, 3, 0] rfl) hP hS h
        · have h := h.2 q15
          obtain ⟨x2_18, ex2_18⟩ : ∃ y : Int32, y = x2 + 1 := ⟨_, rfl⟩
          have h := h x2_18 ex2_18
          refine lv_iinc (v := x2_18) (lv' := [(2, .int x2_18), (0, .ref (ad 37)), (1, .int x1), (3, .int x3)]) hx hb dX2_countTold_18 hl (k := 2) rfl (by rw [ex2_18]; rfl) (by decide) rfl (fun ls hl => ?_)
          obtain ⟨x3_21, ex3_21⟩ : ∃ y : Int32, y = x3 + 1 := ⟨_, rfl⟩
          have h := h x3_21 ex3_21
          refine lv_iinc (v := x3_21) (lv' := [(3, .int x3_21), (2, .int x2_18), (0, .ref (ad 37)), (1, .int x1)]) hx hb dX2_countTold_21 hl (k := 3) rfl (by rw [ex3_21]; rfl) (by decide) rfl (fun ls hl => ?_)
          refine lv_goto (tgt := 4) hx hb dX2_countTold_24 (by decide) ?_
          exact hB x1 x2_18 x3_21 M _ _ _ (lv_sub hl [2, 3, 1, 0] rfl) hP hS h
  have hl := lv_entry ([.ref (ad 37), .int a1]) (n := 4) (Nat.le_of_ble_eq_true rfl)
  rw [lg_entry_eq]
  generalize (lg_sl ([.ref (ad 37), .int a1]) ++ List.replicate (4 - (lg_sl ([.ref (ad 37), .int a1])).length) Slot.unset).toArray = ls at hl ⊢
  have hl : lv_has ls 4 [(0, .ref (ad 37)), (1, .int a1)] := hl
  refine lv_iconst (v := 0) hx hb dX2_countTold_0 (by decide) ?_
  refine lv_istore_n (lv' := [(2, .int 0), (0, .ref (ad 37)), (1, .int a1)]) hx hb dX2_countTold_1 rfl hl (by decide) rfl (fun ls hl => ?_)
  refine lv_iconst (v := 0) hx hb dX2_countTold_2 (by decide) ?_
  refine lv_istore_n (lv' := [(3, .int 0), (2, .int 0), (0, .ref (ad 37)), (1, .int a1)]) hx hb dX2_countTold_3 rfl hl (by decide) rfl (fun ls hl => ?_)
  obtain ⟨n, h⟩ := h
  refine L4 _ (fun x2 M H locs ls hl hP hS h => ?_) n a1 0 0 M _ _ _ (lv_sub hl [2, 3, 1, 0] rfl) hP hS h
  refine lv_iload_n hx hb dX2_countTold_27 rfl (lv_at hl 0 rfl) ?_
  exact W.iret (v := x2) hx hb hr (fun t ht hW => ⟨⟨x2, M, rfl, h, xAt_of ht hP⟩, hS.F ht⟩) hS.2.2 dX2_countTold_28
set_option maxHeartbeats 4000000 in
set_option maxRecDepth 100000 in
theorem kX7_hangs (l : Launch) (D : va_G) (cI cZ : ClassId) (ad : Nat → Nat) (zA zD zR : Nat) (hD : ∀ M : Mem, va_D (xA ad) (xW cI cZ ad M)) (M : Mem) (a0 a1 a2 : Int32) (Q : Int32 → Mem → Prop) (h : wX7_hangs M a0 a1 a2 Q) : Met l yX7_hangs uX7_hangs ({ frames := 1, cells := 0, slots := 0, locals := 13 }) (va_Pc [.int a0, .int a1, .int a2] (xPre D cI cZ ad zA zD zR M)) (va_Qi Q (xAt D cI cZ ad) (xA ad)) 0 0 (xA ad) := by
  refine Met.ofW (cc := cX7_hangs) (maxL := 3) (ret := (some .boolean)) (by decide) rfl ?_
  intro p e s m args below meth c s₁ B hml hv
  obtain ⟨rfl, hP, hK, hZ, hN⟩ := hv
  have hx := B.exec
  have hb := B.bytes
  have hr := B.returns
  have hts := atoms_spec (ws := uX7_hangs) B.pre
  have hown : s.vm.findClass RX7 = some m.cls := findClass_of_methodNamed B.named
  have hlocks := B.notSynchronized
  have hS : va_S (xA ad) s.heap s.heap [] := va_S.rf
  have k0 := hts (.methodLink RX7 44 Lib.Math.abs.name) (List.mem_cons_of_mem _ (inA_19 _ (List.mem_of_getElem? (i := 20) rfl)))
  have k1 := hts (.static Lib.Math.abs.name) (List.mem_cons_of_mem _ (inA_19 _ (List.mem_of_getElem? (i := 21) rfl)))
  have k2 := hts (.initialized "java/lang/Math") (List.mem_cons_of_mem _ (inA_17 _ (List.mem_of_getElem? (i := 19) rfl)))
  have k3 := hts (.code Lib.Math.abs.name Lib.Math.abs.code 1 (some .int)) (List.mem_cons_of_mem _ (inA_19 _ (List.mem_of_getElem? (i := 22) rfl)))
  have hl := lv_entry ([.int a0, .int a1, .int a2]) (n := 3) (Nat.le_of_ble_eq_true rfl)
  rw [lg_entry_eq]
  generalize (lg_sl ([.int a0, .int a1, .int a2]) ++ List.replicate (3 - (lg_sl ([.int a0, .int a1, .int a2])).length) Slot.unset).toArray = ls at hl ⊢
  have hl : lv_has ls 3 [(0, .int a0), (1, .int a1), (2, .int a2)] := hl
  refine lv_iload_n hx hb dX7_hangs_0 rfl (lv_at hl 0 rfl) ?_
  refine lv_bipush (v := (-5)) hx hb dX7_hangs_1 (by decide) ?_
  refine lv_icmp_eq (tgt := 26) hx hb dX7_hangs_3 (by decide) (fun q3 => ?_) (fun q3 => ?_)
  · have h := h.1 q3
    refine lv_iconst (v := 0) hx hb dX7_hangs_26 (by decide) ?_
    exact W.zret (v := 0) hx hb hr rfl (fun t ht hW => ⟨⟨0, M, rfl, h, xAt_of ht hP⟩, hS.F ht⟩) hS.2.2 dX7_hangs_27
  · have h := h.2 q3
    refine lv_iload_n hx hb dX7_hangs_6 rfl (lv_at hl 1 rfl) ?_
    refine lv_bipush (v := (-5)) hx hb dX7_hangs_7 (by decide) ?_
    refine lv_icmp_eq (tgt := 26) hx hb dX7_hangs_9 (by decide) (fun q9 => ?_) (fun q9 => ?_)
    · have h := h.1 q9
      refine lv_iconst (v := 0) hx hb dX7_hangs_26 (by decide) ?_
      exact W.zret (v := 0) hx hb hr rfl (fun t ht hW => ⟨⟨0, M, rfl, h, xAt_of ht hP⟩, hS.F ht⟩) hS.2.2 dX7_hangs_27
    · have h := h.2 q9
      refine lv_iload_n hx hb dX7_hangs_12 rfl (lv_at hl 0 rfl) ?_
      refine lv_iload_n hx hb dX7_hangs_13 rfl (lv_at hl 1 rfl) ?_
      refine lv_isub hx hb dX7_hangs_14 ?_
      refine va_mabs hx hb (hml.trans hl.1.symm) hown k0 k1 k2 k3 (Nat.le_of_ble_eq_true rfl) (Nat.le_of_ble_eq_true rfl) (Nat.zero_le _) (Nat.zero_le _) dX7_hangs_15 ?_
      refine lv_topi (fun v15 ev15 => ?_)
      have h := h v15 ev15
      refine lv_iload_n hx hb dX7_hangs_18 rfl (lv_at hl 2 rfl) ?_
      refine lv_icmp_gt (tgt := 26) hx hb dX7_hangs_19 (by decide) (fun q19 => ?_) (fun q19 => ?_)
      · have h := h.1 q19
        refine lv_iconst (v := 0) hx hb dX7_hangs_26 (by decide) ?_
        exact W.zret (v := 0) hx hb hr rfl (fun t ht hW => ⟨⟨0, M, rfl, h, xAt_of ht hP⟩, hS.F ht⟩) hS.2.2 dX7_hangs_27
      · have h := h.2 q19
        refine lv_iconst (v := 1) hx hb dX7_hangs_22 (by decide) ?_
        refine lv_goto (tgt := 27) hx hb dX7_hangs_23 (by decide) ?_
        exact W.zret (v := 1) hx hb hr rfl (fun t ht hW => ⟨⟨1, M, rfl, h, xAt_of ht hP⟩, hS.F ht⟩) hS.2.2 dX7_hangs_27
abbrev GX7_join (p : Program) (l : Launch) (e : Env) (s : State) (m : MethodId) (below : List Frame) (meth : Method) (c : Code) (D : va_G) (cI cZ : ClassId) (ad : Nat → Nat) (a1 a2 : Int32) (Q : Mem → Prop) (H : Heap) (locs : List Loc) (g : JFrame) : Prop := W p l e (headSpec uX7_join { frames := 1, cells := 0, slots := 0, locals := 13 }).room s m ([.ref (ad 39), .int a1, .int a2] : List Value).toArray below meth c H locs 0 0 (MQ below (va_Qv Q (xAt D cI cZ ad) (xA ad)) ([.ref (ad 39), .int a1, .int a2] : List Value).toArray s 0 0 (xA ad)) g
set_option maxHeartbeats 4000000 in
set_option maxRecDepth 100000 in
theorem kX7_join (l : Launch) (D : va_G) (cI cZ : ClassId) (ad : Nat → Nat) (zA zD zR : Nat) (hD : ∀ M : Mem, va_D (xA ad) (xW cI cZ ad M)) (M : Mem) (a1 a2 : Int32) (Q : Mem → Prop) (h : wX7_join M a1 a2 Q) : Met l yX7_join uX7_join ({ frames := 1, cells := 0, slots := 0, locals := 13 }) (va_Pc [.ref (ad 39), .int a1, .int a2] (xPre D cI cZ ad zA zD zR M)) (va_Qv Q (xAt D cI cZ ad) (xA ad)) 0 0 (xA ad) := by
  refine Met.ofW (cc := cX7_join) (maxL := 6) (ret := none) (by decide) rfl ?_
  intro p e s m args below meth c s₁ B hml hv
  obtain ⟨rfl, hP, hK, hZ, hN⟩ := hv
  have hx := B.exec
  have hb := B.bytes
  have hr := B.returns
  have hts := atoms_spec (ws := uX7_join) B.pre
  have hown : s.vm.findClass RX7 = some m.cls := findClass_of_methodNamed B.named
  have hlocks := B.notSynchronized
  have hS : va_S (xA ad) s.heap s.heap [] := va_S.rf
  have k0 := hts (.fieldLink RX7 9 "TwoEyes$Segments" "anchor" "[I") (List.mem_cons_of_mem _ (inA_5 _ (List.mem_of_getElem? (i := 16) rfl)))
  have inX7 : ∀ w ∈ wsX70, w ∈ uX7_join := fun w h => List.mem_cons_of_mem _ (inCX7 w h)
  have k2 := hts (.methodLink RX7 50 Lib.Math.min.name) (List.mem_cons_of_mem _ (inA_20 _ (List.mem_of_getElem? (i := 3) rfl)))
  have k3 := hts (.static Lib.Math.min.name) (List.mem_cons_of_mem _ (inA_17 _ (List.mem_of_getElem? (i := 18) rfl)))
  have k4 := hts (.initialized "java/lang/Math") (List.mem_cons_of_mem _ (inA_17 _ (List.mem_of_getElem? (i := 19) rfl)))
  have k5 := hts (.code Lib.Math.min.name Lib.Math.min.code 2 (some .int)) (List.mem_cons_of_mem _ (inA_17 _ (List.mem_of_getElem? (i := 20) rfl)))
  have k6 := hts (.methodLink RX7 53 Lib.Math.max.name) (List.mem_cons_of_mem _ (inA_20 _ (List.mem_of_getElem? (i := 4) rfl)))
  have k7 := hts (.static Lib.Math.max.name) (List.mem_cons_of_mem _ (inA_20 _ (List.mem_of_getElem? (i := 5) rfl)))
  have k8 := hts (.code Lib.Math.max.name Lib.Math.max.code 2 (some .int)) (List.mem_cons_of_mem _ (inA_20 _ (List.mem_of_getElem? (i := 6) rfl)))
  have L37 : ∀ (K69 : Mem → Prop), (∀ (M : Mem) (H : Heap) (locs : List Loc) (ls : Array Slot), lv_has ls 6 [] → va_P D vwCl (xW cI cZ ad M) H → va_S (xA ad) s.heap H locs → K69 M → GX7_join p l e s m below meth c D cI cZ ad a1 a2 Q H locs (F0 m 69 ls [])) → ∀ n : Nat, ∀ (x1 x3 x4 x5 : Int32) (M : Mem) (H : Heap) (locs : List Loc) (ls : Array Slot), lv_has ls 6 [(0, .ref (ad 39)), (1, .int x1), (3, .int x3), (4, .int x4), (5, .int x5)] → va_P D vwCl (xW cI cZ ad M) H → va_S (xA ad) s.heap H locs → wX7_join_L37 K69 Q n x1 x3 x4 x5 M → GX7_join p l e s m below meth c D cI cZ ad a1 a2 Q H locs (F0 m 37 ls []) := by
    intro K69 hK69 n
    induction n with
    | zero => intro x1 x3 x4 x5 M H locs ls hl hP hS h; exact (show False from h).elim
    | succ n hB =>
      intro x1 x3 x4 x5 M H locs ls hl hP hS h
      rw [wX7_join_L37_s] at h
      refine lv_iload hx hb dX7_join_37 (lv_at hl 4 rfl) ?_
      refine lv_iload_n hx hb dX7_join_39 rfl (lv_at hl 1 rfl) ?_
      refine lv_icmp_gt (tgt := 69) hx hb dX7_join_40 (by decide) (fun q40 => ?_) (fun q40 => ?_)
      · have h := h.1 q40
        exact hK69 M _ _ _ (lv_sub hl [] rfl) hP hS h
      · have h := h.2 q40
        refine lv_aload_n hx hb dX7_join_43 rfl (lv_at hl 0 rfl) ?_
        refine va_get (D := D) (ci := 7) (v := .ref (ad 40)) (C := RX7) (T := TX7) (N := 2) hx hb hts inX7 hown hK hP 39 (xW_39 cI cZ ad M) rfl 0 (by decide) k0 (fun _ h9 => h9) rfl dX7_join_44 ?_
        refine lv_iload hx hb dX7_join_47 (lv_at hl 4 rfl) ?_
        obtain ⟨hi49, h⟩ := h
        refine va_iald hx hb hK hP 40 0 (xW_40 cI cZ ad M) rfl hi49 dX7_join_49 ?_
        refine lv_iload hx hb dX7_join_50 (lv_at hl 3 rfl) ?_
        refine lv_icmp_ne (tgt := 63) hx hb dX7_join_52 (by decide) (fun q52 => ?_) (fun q52 => ?_)
        · have h := h.1 q52
          obtain ⟨x5_63, ex5_63⟩ : ∃ y : Int32, y = x5 + 1 := ⟨_, rfl⟩
          have h := h x5_63 ex5_63
          refine lv_iinc (v := x5_63) (lv' := [(5, .int x5_63), (0, .ref (ad 39)), (1, .int x1), (3, .int x3), (4, .int x4)]) hx hb dX7_join_63 hl (k := 4) rfl (by rw [ex5_63]; rfl) (by decide) rfl (fun ls hl => ?_)
          refine lv_goto (tgt := 37) hx hb dX7_join_66 (by decide) ?_
          exact hB x1 x3 x4 x5_63 M _ _ _ (lv_sub hl [1, 2, 3, 4, 0] rfl) hP hS h
        · have h := h.2 q52
          refine lv_aload_n hx hb dX7_join_55 rfl (lv_at hl 0 rfl) ?_
          refine va_get (D := D) (ci := 7) (v := .ref (ad 40)) (C := RX7) (T := TX7) (N := 2) hx hb hts inX7 hown hK hP 39 (xW_39 cI cZ ad M) rfl 0 (by decide) k0 (fun _ h9 => h9) rfl dX7_join_56 ?_
          refine lv_iload hx hb dX7_join_59 (lv_at hl 4 rfl) ?_
          refine lv_iload_n hx hb dX7_join_61 rfl (lv_at hl 2 rfl) ?_
          obtain ⟨hi62, h⟩ := h
          refine va_iast hx hb hK hP (hD M) hS 40 0 (xW_40 cI cZ ad M) rfl hi62 dX7_join_62 (fun H locs hP _ hS => ?_)
          refine xQ_40 hP (fun M62 eM62 hP => ?_)
          have h := h M62 eM62
          obtain ⟨x5_63, ex5_63⟩ : ∃ y : Int32, y = x5 + 1 := ⟨_, rfl⟩
          have h := h x5_63 ex5_63
          refine lv_iinc (v := x5_63) (lv' := [(5, .int x5_63), (0, .ref (ad 39)), (1, .int x1), (3, .int x3), (4, .int x4)]) hx hb dX7_join_63 hl (k := 4) rfl (by rw [ex5_63]; rfl) (by decide) rfl (fun ls hl => ?_)
          refine lv_goto (tgt := 37) hx hb dX7_join_66 (by decide) ?_
          exact hB x1 x3 x4 x5_63 M62 _ _ _ (lv_sub hl [1, 2, 3, 4, 0] rfl) hP hS h
  have hl := lv_entry ([.ref (ad 39), .int a1, .int a2]) (n := 6) (Nat.le_of_ble_eq_true rfl)
  rw [lg_entry_eq]
  generalize (lg_sl ([.ref (ad 39), .int a1, .int a2]) ++ List.replicate (6 - (lg_sl ([.ref (ad 39), .int a1, .int a2])).length) Slot.unset).toArray = ls at hl ⊢
  have hl : lv_has ls 6 [(0, .ref (ad 39)), (1, .int a1), (2, .int a2)] := hl
  refine lv_aload_n hx hb dX7_join_0 rfl (lv_at hl 0 rfl) ?_
  refine va_get (D := D) (ci := 7) (v := .ref (ad 40)) (C := RX7) (T := TX7) (N := 2) hx hb hts inX7 hown hK hP 39 (xW_39 cI cZ ad M) rfl 0 (by decide) k0 (fun _ h9 => h9) rfl dX7_join_1 ?_
  refine lv_iload_n hx hb dX7_join_4 rfl (lv_at hl 1 rfl) ?_
  obtain ⟨hi5, h⟩ := h
  refine va_iald hx hb hK hP 40 0 (xW_40 cI cZ ad M) rfl hi5 dX7_join_5 ?_
  refine lv_aload_n hx hb dX7_join_6 rfl (lv_at hl 0 rfl) ?_
  refine va_get (D := D) (ci := 7) (v := .ref (ad 40)) (C := RX7) (T := TX7) (N := 2) hx hb hts inX7 hown hK hP 39 (xW_39 cI cZ ad M) rfl 0 (by decide) k0 (fun _ h9 => h9) rfl dX7_join_7 ?_
  refine lv_iload_n hx hb dX7_join_10 rfl (lv_at hl 2 rfl) ?_
  obtain ⟨hi11, h⟩ := h
  refine va_iald hx hb hK hP 40 0 (xW_40 cI cZ ad M) rfl hi11 dX7_join_11 ?_
  refine va_mmin hx hb (hml.trans hl.1.symm) hown k2 k3 k4 k5 (Nat.le_of_ble_eq_true rfl) (Nat.le_of_ble_eq_true rfl) (Nat.zero_le _) (Nat.zero_le _) dX7_join_12 ?_
  refine lv_topi (fun v12 ev12 => ?_)
  have h := h v12 ev12
  refine lv_istore_n (lv' := [(3, .int v12), (0, .ref (ad 39)), (1, .int a1), (2, .int a2)]) hx hb dX7_join_15 rfl hl (by decide) rfl (fun ls hl => ?_)
  refine lv_aload_n hx hb dX7_join_16 rfl (lv_at hl 1 rfl) ?_
  refine va_get (D := D) (ci := 7) (v := .ref (ad 40)) (C := RX7) (T := TX7) (N := 2) hx hb hts inX7 hown hK hP 39 (xW_39 cI cZ ad M) rfl 0 (by decide) k0 (fun _ h9 => h9) rfl dX7_join_17 ?_
  refine lv_iload_n hx hb dX7_join_20 rfl (lv_at hl 2 rfl) ?_
  obtain ⟨hi21, h⟩ := h
  refine va_iald hx hb hK hP 40 0 (xW_40 cI cZ ad M) rfl hi21 dX7_join_21 ?_
  refine lv_aload_n hx hb dX7_join_22 rfl (lv_at hl 1 rfl) ?_
  refine va_get (D := D) (ci := 7) (v := .ref (ad 40)) (C := RX7) (T := TX7) (N := 2) hx hb hts inX7 hown hK hP 39 (xW_39 cI cZ ad M) rfl 0 (by decide) k0 (fun _ h9 => h9) rfl dX7_join_23 ?_
  refine lv_iload_n hx hb dX7_join_26 rfl (lv_at hl 3 rfl) ?_
  obtain ⟨hi27, h⟩ := h
  refine va_iald hx hb hK hP 40 0 (xW_40 cI cZ ad M) rfl hi27 dX7_join_27 ?_
  refine va_mmax hx hb (hml.trans hl.1.symm) hown k6 k7 k4 k8 (Nat.le_of_ble_eq_true rfl) (Nat.le_of_ble_eq_true rfl) (Nat.zero_le _) (Nat.zero_le _) dX7_join_28 ?_
  refine lv_topi (fun v28 ev28 => ?_)
  have h := h v28 ev28
  refine lv_istore (lv' := [(4, .int v28), (3, .int v12), (0, .ref (ad 39)), (1, .int a1), (2, .int a2)]) hx hb dX7_join_31 hl (by decide) rfl (fun ls hl => ?_)
  refine lv_iload hx hb dX7_join_33 (lv_at hl 0 rfl) ?_
  refine lv_istore (lv' := [(5, .int v28), (4, .int v28), (3, .int v12), (0, .ref (ad 39)), (1, .int a1), (2, .int a2)]) hx hb dX7_join_35 hl (by decide) rfl (fun ls hl => ?_)
  obtain ⟨n, h⟩ := h
  refine L37 _ (fun  M H locs ls hl hP hS h => ?_) n a1 v12 v28 v28 M _ _ _ (lv_sub hl [3, 4, 2, 1, 0] rfl) hP hS h
  exact W.vret hx hb hr (fun t ht hW => ⟨⟨M, rfl, h, xAt_of ht hP⟩, hS.F ht⟩) hS.2.2 dX7_join_69
abbrev GX7_gather (p : Program) (l : Launch) (e : Env) (s : State) (m : MethodId) (below : List Frame) (meth : Method) (c : Code) (D : va_G) (cI cZ : ClassId) (ad : Nat → Nat) (a2 : Int32) (Q : Mem → Prop) (H : Heap) (locs : List Loc) (g : JFrame) : Prop := W p l e (headSpec uX7_gather { frames := 2, cells := 0, slots := 0, locals := 38 }).room s m ([.ref (ad 39), .ref (ad 1), .int a2] : List Value).toArray below meth c H locs 0 0 (MQ below (va_Qv Q (xAt D cI cZ ad) (xA ad)) ([.ref (ad 39), .ref (ad 1), .int a2] : List Value).toArray s 0 0 (xA ad)) g
set_option maxHeartbeats 4000000 in
set_option maxRecDepth 100000 in
theorem kX7_gather (l : Launch) (D : va_G) (cI cZ : ClassId) (ad : Nat → Nat) (zA zD zR : Nat) (hD : ∀ M : Mem, va_D (xA ad) (xW cI cZ ad M)) (M : Mem) (a2 : Int32) (Q : Mem → Prop) (h : wX7_gather M a2 Q) : Met l yX7_gather uX7_gather ({ frames := 2, cells := 0, slots := 0, locals := 38 }) (va_Pc [.ref (ad 39), .ref (ad 1), .int a2] (xPre D cI cZ ad zA zD zR M)) (va_Qv Q (xAt D cI cZ ad) (xA ad)) 0 0 (xA ad) := by
  refine Met.ofW (cc := cX7_gather) (maxL := 7) (ret := none) (by decide) rfl ?_
  intro p e s m args below meth c s₁ B hml hv
  obtain ⟨rfl, hP, hK, hZ, hN⟩ := hv
  have hx := B.exec
  have hb := B.bytes
  have hr := B.returns
  have hts := atoms_spec (ws := uX7_gather) B.pre
  have hown : s.vm.findClass RX7 = some m.cls := findClass_of_methodNamed B.named
  have hlocks := B.notSynchronized
  have hS : va_S (xA ad) s.heap s.heap [] := va_S.rf
  have k0 := hts (.fieldLink RX7 25 "TwoEyes$Scene" "width" "I") (List.mem_cons_of_mem _ (inA_19 _ (List.mem_of_getElem? (i := 14) rfl)))
  have inX6 : ∀ w ∈ wsX60, w ∈ uX7_gather := fun w h => List.mem_cons_of_mem _ (inCX6 w h)
  have k2 := hts (.fieldLink RX7 9 "TwoEyes$Segments" "anchor" "[I") (List.mem_cons_of_mem _ (inA_5 _ (List.mem_of_getElem? (i := 16) rfl)))
  have inX7 : ∀ w ∈ wsX70, w ∈ uX7_gather := fun w h => List.mem_cons_of_mem _ (inCX7 w h)
  have k4 := hts (.fieldLink RX7 19 "TwoEyes$Scene" "height" "I") (List.mem_cons_of_mem _ (inA_19 _ (List.mem_of_getElem? (i := 13) rfl)))
  have k5 := hts (.fieldLink RX7 15 "TwoEyes$Segments" "fresh" "Z") (List.mem_cons_of_mem _ (inA_5 _ (List.mem_of_getElem? (i := 17) rfl)))
  have J96 : ∀ (B : Int32 → Int32 → Int32 → Mem → Prop) (K138 : Int32 → Int32 → Mem → Prop), (∀ (x2 x3 x4 : Int32) (M : Mem) (H : Heap) (locs : List Loc) (ls : Array Slot), lv_has ls 7 [(0, .ref (ad 39)), (1, .ref (ad 1)), (2, .int x2), (3, .int x3), (4, .int x4)] → va_P D vwCl (xW cI cZ ad M) H → va_S (xA ad) s.heap H locs → B x2 x3 x4 M → GX7_gather p l e s m below meth c D cI cZ ad a2 Q H locs (F0 m 13 ls [])) → (∀ (x2 x3 : Int32) (M : Mem) (H : Heap) (locs : List Loc) (ls : Array Slot), lv_has ls 7 [(0, .ref (ad 39)), (1, .ref (ad 1)), (2, .int x2), (3, .int x3)] → va_P D vwCl (xW cI cZ ad M) H → va_S (xA ad) s.heap H locs → K138 x2 x3 M → GX7_gather p l e s m below meth c D cI cZ ad a2 Q H locs (F0 m 138 ls [])) → ∀ (x2 x3 x4 x5 x6 : Int32) (M : Mem) (H : Heap) (locs : List Loc) (ls : Array Slot), lv_has ls 7 [(0, .ref (ad 39)), (1, .ref (ad 1)), (2, .int x2), (3, .int x3), (4, .int x4), (5, .int x5), (6, .int x6)] → va_P D vwCl (xW cI cZ ad M) H → va_S (xA ad) s.heap H locs → wX7_gather_J96 B K138 Q x2 x3 x4 x5 x6 M → GX7_gather p l e s m below meth c D cI cZ ad a2 Q H locs (F0 m 96 ls []) := by
    intro B K138 hB hK138 x2 x3 x4 x5 x6 M H locs ls hl hP hS h
    refine lv_iload_n hx hb dX7_gather_96 rfl (lv_at hl 3 rfl) ?_
    refine lv_if_le (tgt := 132) hx hb dX7_gather_97 (by decide) (fun q97 => ?_) (fun q97 => ?_)
    · have h := h.1 q97
      obtain ⟨x4_132, ex4_132⟩ : ∃ y : Int32, y = x4 + 1 := ⟨_, rfl⟩
      have h := h x4_132 ex4_132
      refine lv_iinc (v := x4_132) (lv' := [(4, .int x4_132), (0, .ref (ad 39)), (1, .ref (ad 1)), (2, .int x2), (3, .int x3), (5, .int x5), (6, .int x6)]) hx hb dX7_gather_132 hl (k := 4) rfl (by rw [ex4_132]; rfl) (by decide) rfl (fun ls hl => ?_)
      refine lv_goto (tgt := 13) hx hb dX7_gather_135 (by decide) ?_
      exact hB x2 x3 x4_132 M _ _ _ (lv_sub hl [1, 2, 3, 4, 0] rfl) hP hS h
    · have h := h.2 q97
      refine lv_iload hx hb dX7_gather_100 (lv_at hl 6 rfl) ?_
      refine lv_aload_n hx hb dX7_gather_102 rfl (lv_at hl 1 rfl) ?_
      refine lv_iconst (v := 0) hx hb dX7_gather_103 (by decide) ?_
      refine lv_iload hx hb dX7_gather_104 (lv_at hl 4 rfl) ?_
      refine lv_iload_n hx hb dX7_gather_106 rfl (lv_at hl 3 rfl) ?_
      refine lv_iconst (v := 1) hx hb dX7_gather_107 (by decide) ?_
      refine lv_isub hx hb dX7_gather_108 ?_
      refine x_callVi (As := [.int 0, .int x4, .int (x3 - 1)]) (rest := [.int x6]) ⟨hx, hb, hml, hown, hts⟩ (kX6_seen l D cI cZ ad zA zD zR hD M 0 x4 (x3 - 1) _ h) (cwV 3 hts (gdV uS (inA_19 _ (List.mem_of_getElem? (i := 16) rfl)) vX6_seen) rfl rfl rfl (by decide +kernel) ⟨Nat.le_of_ble_eq_true rfl, Nat.le_of_ble_eq_true rfl⟩) (va_recv hK hP (ci := 6) (q0 := 1) rfl (xW_1 cI cZ ad M)) hP hK hZ hN hS hl.1 rfl rfl (Nat.le_of_ble_eq_true rfl) dX7_gather_109 (fun r109 M109 H locs h hP hS => ?_)
      refine lv_iload_n hx hb dX7_gather_112 rfl (lv_at hl 2 rfl) ?_
      refine x_callSi (As := [.int x6, .int r109, .int x2]) (rest := []) ⟨hx, hb, hml, hown, hts⟩ (kX7_hangs l D cI cZ ad zA zD zR hD M109 x6 r109 x2 _ h) (va_cwS 3 hts (gdS uS (inA_19 _ (List.mem_of_getElem? (i := 17) rfl)) vX7_hangs) rfl rfl rfl (by decide +kernel) ⟨Nat.le_of_ble_eq_true rfl, Nat.le_of_ble_eq_true rfl⟩) hP hK hZ hN hS hl.1 rfl rfl (Nat.le_of_ble_eq_true rfl) dX7_gather_113 (fun r113 M113 H locs h hP hS => ?_)
      refine lv_if_eq (tgt := 132) hx hb dX7_gather_116 (by decide) (fun q116 => ?_) (fun q116 => ?_)
      · have h := h.1 q116
        obtain ⟨x4_132, ex4_132⟩ : ∃ y : Int32, y = x4 + 1 := ⟨_, rfl⟩
        have h := h x4_132 ex4_132
        refine lv_iinc (v := x4_132) (lv' := [(4, .int x4_132), (0, .ref (ad 39)), (1, .ref (ad 1)), (2, .int x2), (3, .int x3), (5, .int x5), (6, .int x6)]) hx hb dX7_gather_132 hl (k := 4) rfl (by rw [ex4_132]; rfl) (by decide) rfl (fun ls hl => ?_)
        refine lv_goto (tgt := 13) hx hb dX7_gather_135 (by decide) ?_
        exact hB x2 x3 x4_132 M113 _ _ _ (lv_sub hl [1, 2, 3, 4, 0] rfl) hP hS h
      · have h := h.2 q116
        refine lv_aload_n hx hb dX7_gather_119 rfl (lv_at hl 0 rfl) ?_
        refine lv_iload hx hb dX7_gather_120 (lv_at hl 5 rfl) ?_
        refine lv_iload hx hb dX7_gather_122 (lv_at hl 5 rfl) ?_
        refine lv_aload_n hx hb dX7_gather_124 rfl (lv_at hl 1 rfl) ?_
        refine va_get (D := D) (ci := 6) (v := .int (M113 1 0)) (C := RX6) (T := TX6) (N := 5) hx hb hts inX6 hown hK hP 1 (xW_1 cI cZ ad M113) rfl 0 (by decide) k0 (fun _ h9 => h9) rfl dX7_gather_125 ?_
        refine lv_isub hx hb dX7_gather_128 ?_
        refine x_callVv (As := [.int x5, .int (x5 - (M113 1 0))]) (rest := []) ⟨hx, hb, hml, hown, hts⟩ (kX7_join l D cI cZ ad zA zD zR hD M113 x5 (x5 - (M113 1 0)) _ h) (cwV 2 hts (gdV uS (inA_19 _ (List.mem_of_getElem? (i := 23) rfl)) vX7_join) rfl rfl rfl (by decide +kernel) ⟨Nat.le_of_ble_eq_true rfl, Nat.le_of_ble_eq_true rfl⟩) (va_recv hK hP (ci := 7) (q0 := 39) rfl (xW_39 cI cZ ad M113)) hP hK hZ hN hS hl.1 rfl rfl (Nat.le_of_ble_eq_true rfl) dX7_gather_129 (fun M129 H locs h hP hS => ?_)
        obtain ⟨x4_132, ex4_132⟩ : ∃ y : Int32, y = x4 + 1 := ⟨_, rfl⟩
        have h := h x4_132 ex4_132
        refine lv_iinc (v := x4_132) (lv' := [(4, .int x4_132), (0, .ref (ad 39)), (1, .ref (ad 1)), (2, .int x2), (3, .int x3), (5, .int x5), (6, .int x6)]) hx hb dX7_gather_132 hl (k := 4) rfl (by rw [ex4_132]; rfl) (by decide) rfl (fun ls hl => ?_)
        refine lv_goto (tgt := 13) hx hb dX7_gather_135 (by decide) ?_
        exact hB x2 x3 x4_132 M129 _ _ _ (lv_sub hl [1, 2, 3, 4, 0] rfl) hP hS h
  have J61 : ∀ (B : Int32 → Int32 → Int32 → Mem → Prop) (K138 : Int32 → Int32 → Mem → Prop), (∀ (x2 x3 x4 : Int32) (M : Mem) (H : Heap) (locs : List Loc) (ls : Array Slot), lv_has ls 7 [(0, .ref (ad 39)), (1, .ref (ad 1)), (2, .int x2), (3, .int x3), (4, .int x4)] → va_P D vwCl (xW cI cZ ad M) H → va_S (xA ad) s.heap H locs → B x2 x3 x4 M → GX7_gather p l e s m below meth c D cI cZ ad a2 Q H locs (F0 m 13 ls [])) → (∀ (x2 x3 : Int32) (M : Mem) (H : Heap) (locs : List Loc) (ls : Array Slot), lv_has ls 7 [(0, .ref (ad 39)), (1, .ref (ad 1)), (2, .int x2), (3, .int x3)] → va_P D vwCl (xW cI cZ ad M) H → va_S (xA ad) s.heap H locs → K138 x2 x3 M → GX7_gather p l e s m below meth c D cI cZ ad a2 Q H locs (F0 m 138 ls [])) → ∀ (x2 x3 x4 x5 x6 t1 t2 : Int32) (M : Mem) (H : Heap) (locs : List Loc) (ls : Array Slot), lv_has ls 7 [(0, .ref (ad 39)), (1, .ref (ad 1)), (2, .int x2), (3, .int x3), (4, .int x4), (5, .int x5), (6, .int x6)] → va_P D vwCl (xW cI cZ ad M) H → va_S (xA ad) s.heap H locs → wX7_gather_J61 B K138 Q x2 x3 x4 x5 x6 t1 t2 M → GX7_gather p l e s m below meth c D cI cZ ad a2 Q H locs (F0 m 61 ls [.int t2, .int t1, .ref (ad 40)]) := by
    intro B K138 hB hK138 x2 x3 x4 x5 x6 t1 t2 M H locs ls hl hP hS h
    obtain ⟨hi61, h⟩ := h
    refine va_iast hx hb hK hP (hD M) hS 40 0 (xW_40 cI cZ ad M) rfl hi61 dX7_gather_61 (fun H locs hP _ hS => ?_)
    refine xQ_40 hP (fun M61 eM61 hP => ?_)
    have h := h M61 eM61
    refine lv_iload hx hb dX7_gather_62 (lv_at hl 4 rfl) ?_
    refine lv_if_le (tgt := 96) hx hb dX7_gather_64 (by decide) (fun q64 => ?_) (fun q64 => ?_)
    · have h := h.1 q64
      exact J96 _ K138 hB hK138 x2 x3 x4 x5 x6 M61 _ _ _ (lv_sub hl [0, 1, 2, 3, 4, 5, 6] rfl) hP hS h
    · have h := h.2 q64
      refine lv_iload hx hb dX7_gather_67 (lv_at hl 6 rfl) ?_
      refine lv_aload_n hx hb dX7_gather_69 rfl (lv_at hl 1 rfl) ?_
      refine lv_iconst (v := 0) hx hb dX7_gather_70 (by decide) ?_
      refine lv_iload hx hb dX7_gather_71 (lv_at hl 4 rfl) ?_
      refine lv_iconst (v := 1) hx hb dX7_gather_73 (by decide) ?_
      refine lv_isub hx hb dX7_gather_74 ?_
      refine lv_iload_n hx hb dX7_gather_75 rfl (lv_at hl 3 rfl) ?_
      refine x_callVi (As := [.int 0, .int (x4 - 1), .int x3]) (rest := [.int x6]) ⟨hx, hb, hml, hown, hts⟩ (kX6_seen l D cI cZ ad zA zD zR hD M61 0 (x4 - 1) x3 _ h) (cwV 3 hts (gdV uS (inA_19 _ (List.mem_of_getElem? (i := 16) rfl)) vX6_seen) rfl rfl rfl (by decide +kernel) ⟨Nat.le_of_ble_eq_true rfl, Nat.le_of_ble_eq_true rfl⟩) (va_recv hK hP (ci := 6) (q0 := 1) rfl (xW_1 cI cZ ad M61)) hP hK hZ hN hS hl.1 rfl rfl (Nat.le_of_ble_eq_true rfl) dX7_gather_76 (fun r76 M76 H locs h hP hS => ?_)
      refine lv_iload_n hx hb dX7_gather_79 rfl (lv_at hl 2 rfl) ?_
      refine x_callSi (As := [.int x6, .int r76, .int x2]) (rest := []) ⟨hx, hb, hml, hown, hts⟩ (kX7_hangs l D cI cZ ad zA zD zR hD M76 x6 r76 x2 _ h) (va_cwS 3 hts (gdS uS (inA_19 _ (List.mem_of_getElem? (i := 17) rfl)) vX7_hangs) rfl rfl rfl (by decide +kernel) ⟨Nat.le_of_ble_eq_true rfl, Nat.le_of_ble_eq_true rfl⟩) hP hK hZ hN hS hl.1 rfl rfl (Nat.le_of_ble_eq_true rfl) dX7_gather_80 (fun r80 M80 H locs h hP hS => ?_)
      refine lv_if_eq (tgt := 96) hx hb dX7_gather_83 (by decide) (fun q83 => ?_) (fun q83 => ?_)
      · have h := h.1 q83
        exact J96 _ K138 hB hK138 x2 x3 x4 x5 x6 M80 _ _ _ (lv_sub hl [0, 1, 2, 3, 4, 5, 6] rfl) hP hS h
      · have h := h.2 q83
        refine lv_aload_n hx hb dX7_gather_86 rfl (lv_at hl 0 rfl) ?_
        refine lv_iload hx hb dX7_gather_87 (lv_at hl 5 rfl) ?_
        refine lv_iload hx hb dX7_gather_89 (lv_at hl 5 rfl) ?_
        refine lv_iconst (v := 1) hx hb dX7_gather_91 (by decide) ?_
        refine lv_isub hx hb dX7_gather_92 ?_
        refine x_callVv (As := [.int x5, .int (x5 - 1)]) (rest := []) ⟨hx, hb, hml, hown, hts⟩ (kX7_join l D cI cZ ad zA zD zR hD M80 x5 (x5 - 1) _ h) (cwV 2 hts (gdV uS (inA_19 _ (List.mem_of_getElem? (i := 23) rfl)) vX7_join) rfl rfl rfl (by decide +kernel) ⟨Nat.le_of_ble_eq_true rfl, Nat.le_of_ble_eq_true rfl⟩) (va_recv hK hP (ci := 7) (q0 := 39) rfl (xW_39 cI cZ ad M80)) hP hK hZ hN hS hl.1 rfl rfl (Nat.le_of_ble_eq_true rfl) dX7_gather_93 (fun M93 H locs h hP hS => ?_)
        exact J96 _ K138 hB hK138 x2 x3 x4 x5 x6 M93 _ _ _ (lv_sub hl [0, 1, 2, 3, 4, 5, 6] rfl) hP hS h
  have L13 : ∀ (K138 : Int32 → Int32 → Mem → Prop), (∀ (x2 x3 : Int32) (M : Mem) (H : Heap) (locs : List Loc) (ls : Array Slot), lv_has ls 7 [(0, .ref (ad 39)), (1, .ref (ad 1)), (2, .int x2), (3, .int x3)] → va_P D vwCl (xW cI cZ ad M) H → va_S (xA ad) s.heap H locs → K138 x2 x3 M → GX7_gather p l e s m below meth c D cI cZ ad a2 Q H locs (F0 m 138 ls [])) → ∀ n : Nat, ∀ (x2 x3 x4 : Int32) (M : Mem) (H : Heap) (locs : List Loc) (ls : Array Slot), lv_has ls 7 [(0, .ref (ad 39)), (1, .ref (ad 1)), (2, .int x2), (3, .int x3), (4, .int x4)] → va_P D vwCl (xW cI cZ ad M) H → va_S (xA ad) s.heap H locs → wX7_gather_L13 K138 Q n x2 x3 x4 M → GX7_gather p l e s m below meth c D cI cZ ad a2 Q H locs (F0 m 13 ls []) := by
    intro K138 hK138 n
    induction n with
    | zero => intro x2 x3 x4 M H locs ls hl hP hS h; exact (show False from h).elim
    | succ n hB =>
      intro x2 x3 x4 M H locs ls hl hP hS h
      rw [wX7_gather_L13_s] at h
      refine lv_iload hx hb dX7_gather_13 (lv_at hl 4 rfl) ?_
      refine lv_aload_n hx hb dX7_gather_15 rfl (lv_at hl 1 rfl) ?_
      refine va_get (D := D) (ci := 6) (v := .int (M 1 0)) (C := RX6) (T := TX6) (N := 5) hx hb hts inX6 hown hK hP 1 (xW_1 cI cZ ad M) rfl 0 (by decide) k0 (fun _ h9 => h9) rfl dX7_gather_16 ?_
      refine lv_icmp_ge (tgt := 138) hx hb dX7_gather_19 (by decide) (fun q19 => ?_) (fun q19 => ?_)
      · have h := h.1 q19
        exact hK138 x2 x3 M _ _ _ (lv_sub hl [0, 1, 2, 3] rfl) hP hS h
      · have h := h.2 q19
        refine lv_aload_n hx hb dX7_gather_22 rfl (lv_at hl 1 rfl) ?_
        refine lv_iload hx hb dX7_gather_23 (lv_at hl 4 rfl) ?_
        refine lv_iload_n hx hb dX7_gather_25 rfl (lv_at hl 3 rfl) ?_
        refine x_callVi (As := [.int x4, .int x3]) (rest := []) ⟨hx, hb, hml, hown, hts⟩ (kX6_placeOf l D cI cZ ad zA zD zR hD M x4 x3 _ h) (cwV 2 hts (gdV uS (inA_19 _ (List.mem_of_getElem? (i := 15) rfl)) vX6_placeOf) rfl rfl rfl (by decide +kernel) ⟨Nat.le_of_ble_eq_true rfl, Nat.le_of_ble_eq_true rfl⟩) (va_recv hK hP (ci := 6) (q0 := 1) rfl (xW_1 cI cZ ad M)) hP hK hZ hN hS hl.1 rfl rfl (Nat.le_of_ble_eq_true rfl) dX7_gather_26 (fun r26 M26 H locs h hP hS => ?_)
        refine lv_istore (lv' := [(5, .int r26), (0, .ref (ad 39)), (1, .ref (ad 1)), (2, .int x2), (3, .int x3), (4, .int x4)]) hx hb dX7_gather_29 hl (by decide) rfl (fun ls hl => ?_)
        refine lv_aload_n hx hb dX7_gather_31 rfl (lv_at hl 2 rfl) ?_
        refine lv_iconst (v := 0) hx hb dX7_gather_32 (by decide) ?_
        refine lv_iload hx hb dX7_gather_33 (lv_at hl 5 rfl) ?_
        refine lv_iload_n hx hb dX7_gather_35 rfl (lv_at hl 4 rfl) ?_
        refine x_callVi (As := [.int 0, .int x4, .int x3]) (rest := []) ⟨hx, hb, hml, hown, hts⟩ (kX6_seen l D cI cZ ad zA zD zR hD M26 0 x4 x3 _ h) (cwV 3 hts (gdV uS (inA_19 _ (List.mem_of_getElem? (i := 16) rfl)) vX6_seen) rfl rfl rfl (by decide +kernel) ⟨Nat.le_of_ble_eq_true rfl, Nat.le_of_ble_eq_true rfl⟩) (va_recv hK hP (ci := 6) (q0 := 1) rfl (xW_1 cI cZ ad M26)) hP hK hZ hN hS hl.1 rfl rfl (Nat.le_of_ble_eq_true rfl) dX7_gather_36 (fun r36 M36 H locs h hP hS => ?_)
        refine lv_istore (lv' := [(6, .int r36), (5, .int r26), (0, .ref (ad 39)), (1, .ref (ad 1)), (2, .int x2), (3, .int x3), (4, .int x4)]) hx hb dX7_gather_39 hl (by decide) rfl (fun ls hl => ?_)
        refine lv_aload_n hx hb dX7_gather_41 rfl (lv_at hl 2 rfl) ?_
        refine va_get (D := D) (ci := 7) (v := .ref (ad 40)) (C := RX7) (T := TX7) (N := 2) hx hb hts inX7 hown hK hP 39 (xW_39 cI cZ ad M36) rfl 0 (by decide) k2 (fun _ h9 => h9) rfl dX7_gather_42 ?_
        refine lv_iload hx hb dX7_gather_45 (lv_at hl 1 rfl) ?_
        refine lv_iload hx hb dX7_gather_47 (lv_at hl 0 rfl) ?_
        refine lv_bipush (v := (-5)) hx hb dX7_gather_49 (by decide) ?_
        refine lv_icmp_ne (tgt := 59) hx hb dX7_gather_51 (by decide) (fun q51 => ?_) (fun q51 => ?_)
        · have h := h.1 q51
          refine lv_iload hx hb dX7_gather_59 (lv_at hl 1 rfl) ?_
          exact J61 _ K138 hB hK138 x2 x3 x4 r26 r36 r26 r26 M36 _ _ _ (lv_sub hl [2, 3, 4, 5, 6, 1, 0] rfl) hP hS h
        · have h := h.2 q51
          refine lv_bipush (v := (-5)) hx hb dX7_gather_54 (by decide) ?_
          refine lv_goto (tgt := 61) hx hb dX7_gather_56 (by decide) ?_
          exact J61 _ K138 hB hK138 x2 x3 x4 r26 r36 r26 (-5) M36 _ _ _ (lv_sub hl [2, 3, 4, 5, 6, 1, 0] rfl) hP hS h
  have L2 : ∀ (K144 : Mem → Prop), (∀ (M : Mem) (H : Heap) (locs : List Loc) (ls : Array Slot), lv_has ls 7 [(0, .ref (ad 39))] → va_P D vwCl (xW cI cZ ad M) H → va_S (xA ad) s.heap H locs → K144 M → GX7_gather p l e s m below meth c D cI cZ ad a2 Q H locs (F0 m 144 ls [])) → ∀ n : Nat, ∀ (x2 x3 : Int32) (M : Mem) (H : Heap) (locs : List Loc) (ls : Array Slot), lv_has ls 7 [(0, .ref (ad 39)), (1, .ref (ad 1)), (2, .int x2), (3, .int x3)] → va_P D vwCl (xW cI cZ ad M) H → va_S (xA ad) s.heap H locs → wX7_gather_L2 K144 Q n x2 x3 M → GX7_gather p l e s m below meth c D cI cZ ad a2 Q H locs (F0 m 2 ls []) := by
    intro K144 hK144 n
    induction n with
    | zero => intro x2 x3 M H locs ls hl hP hS h; exact (show False from h).elim
    | succ n hB =>
      intro x2 x3 M H locs ls hl hP hS h
      rw [wX7_gather_L2_s] at h
      refine lv_iload_n hx hb dX7_gather_2 rfl (lv_at hl 3 rfl) ?_
      refine lv_aload_n hx hb dX7_gather_3 rfl (lv_at hl 1 rfl) ?_
      refine va_get (D := D) (ci := 6) (v := .int (M 1 1)) (C := RX6) (T := TX6) (N := 5) hx hb hts inX6 hown hK hP 1 (xW_1 cI cZ ad M) rfl 1 (by decide) k4 (fun _ h9 => h9) rfl dX7_gather_4 ?_
      refine lv_icmp_ge (tgt := 144) hx hb dX7_gather_7 (by decide) (fun q7 => ?_) (fun q7 => ?_)
      · have h := h.1 q7
        exact hK144 M _ _ _ (lv_sub hl [0] rfl) hP hS h
      · have h := h.2 q7
        refine lv_iconst (v := 0) hx hb dX7_gather_10 (by decide) ?_
        refine lv_istore (lv' := [(4, .int 0), (0, .ref (ad 39)), (1, .ref (ad 1)), (2, .int x2), (3, .int x3)]) hx hb dX7_gather_11 hl (by decide) rfl (fun ls hl => ?_)
        obtain ⟨n, h⟩ := h
        refine L13 _ (fun x2 x3 M H locs ls hl hP hS h => ?_) n x2 x3 0 M _ _ _ (lv_sub hl [1, 2, 3, 4, 0] rfl) hP hS h
        obtain ⟨x3_138, ex3_138⟩ : ∃ y : Int32, y = x3 + 1 := ⟨_, rfl⟩
        have h := h x3_138 ex3_138
        refine lv_iinc (v := x3_138) (lv' := [(3, .int x3_138), (0, .ref (ad 39)), (1, .ref (ad 1)), (2, .int x2)]) hx hb dX7_gather_138 hl (k := 3) rfl (by rw [ex3_138]; rfl) (by decide) rfl (fun ls hl => ?_)
        refine lv_goto (tgt := 2) hx hb dX7_gather_141 (by decide) ?_
        exact hB x2 x3_138 M _ _ _ (lv_sub hl [1, 2, 3, 0] rfl) hP hS h
  have hl := lv_entry ([.ref (ad 39), .ref (ad 1), .int a2]) (n := 7) (Nat.le_of_ble_eq_true rfl)
  rw [lg_entry_eq]
  generalize (lg_sl ([.ref (ad 39), .ref (ad 1), .int a2]) ++ List.replicate (7 - (lg_sl ([.ref (ad 39), .ref (ad 1), .int a2])).length) Slot.unset).toArray = ls at hl ⊢
  have hl : lv_has ls 7 [(0, .ref (ad 39)), (1, .ref (ad 1)), (2, .int a2)] := hl
  refine lv_iconst (v := 0) hx hb dX7_gather_0 (by decide) ?_
  refine lv_istore_n (lv' := [(3, .int 0), (0, .ref (ad 39)), (1, .ref (ad 1)), (2, .int a2)]) hx hb dX7_gather_1 rfl hl (by decide) rfl (fun ls hl => ?_)
  obtain ⟨n, h⟩ := h
  refine L2 _ (fun  M H locs ls hl hP hS h => ?_) n a2 0 M _ _ _ (lv_sub hl [1, 2, 3, 0] rfl) hP hS h
  refine lv_aload_n hx hb dX7_gather_144 rfl (lv_at hl 0 rfl) ?_
  refine lv_iconst (v := 1) hx hb dX7_gather_145 (by decide) ?_
  refine va_put (D := D) (ci := 7) (v := .int 1) (ty := .boolean) (C := RX7) (T := TX7) (N := 2) hx hb hts inX7 tyX7 tyX7_ok nmX7 hown hK hP (hD M) hS 39 (xW_39 cI cZ ad M) rfl 1 (by decide) k5 (fun _ h9 => h9) rfl (by decide +kernel) rfl rfl (Nat.le_of_ble_eq_true rfl) dX7_gather_146 (fun H locs hP _ hS => ?_)
  refine xP_39_1 hP (fun M146 eM146 hP => ?_)
  have h := h M146 eM146
  exact W.vret hx hb hr (fun t ht hW => ⟨⟨M146, rfl, h, xAt_of ht hP⟩, hS.F ht⟩) hS.2.2 dX7_gather_149
set_option maxHeartbeats 4000000 in
set_option maxRecDepth 100000 in
theorem kX10_refreshSegments (l : Launch) (D : va_G) (cI cZ : ClassId) (ad : Nat → Nat) (zA zD zR : Nat) (hD : ∀ M : Mem, va_D (xA ad) (xW cI cZ ad M)) (M : Mem) (Q : Mem → Prop) (h : wX10_refreshSegments M Q) : Met l yX10_refreshSegments uX10_refreshSegments ({ frames := 3, cells := 0, slots := 0, locals := 64 }) (va_Pc [.ref (ad 0)] (xPre D cI cZ ad zA zD zR M)) (va_Qv Q (xAt D cI cZ ad) (xA ad)) 0 0 (xA ad) := by
  refine Met.ofW (cc := cX10_refreshSegments) (maxL := 1) (ret := none) (by decide) rfl ?_
  intro p e s m args below meth c s₁ B hml hv
  obtain ⟨rfl, hP, hK, hZ, hN⟩ := hv
  have hx := B.exec
  have hb := B.bytes
  have hr := B.returns
  have hts := atoms_spec (ws := uX10_refreshSegments) B.pre
  have hown : s.vm.findClass RX10 = some m.cls := findClass_of_methodNamed B.named
  have hlocks := B.notSynchronized
  have hS : va_S (xA ad) s.heap s.heap [] := va_S.rf
  have k0 := hts (.fieldLink RX10 58 "TwoEyes" "segments" "LTwoEyes$Segments;") (List.mem_cons_of_mem _ (inA_2 _ (List.mem_of_getElem? (i := 15) rfl)))
  have inX10 : ∀ w ∈ wsX100, w ∈ uX10_refreshSegments := fun w h => List.mem_cons_of_mem _ (inCX10 w h)
  have k2 := hts (.fieldLink RX10 288 "TwoEyes$Segments" "fresh" "Z") (List.mem_cons_of_mem _ (inA_8 _ (List.mem_of_getElem? (i := 14) rfl)))
  have inX7 : ∀ w ∈ wsX70, w ∈ uX10_refreshSegments := fun w h => List.mem_cons_of_mem _ (inCX7 w h)
  have k4 := hts (.fieldLink RX10 10 "TwoEyes" "scene" "LTwoEyes$Scene;") (List.mem_cons_of_mem _ (inA_1 _ (List.mem_of_getElem? (i := 15) rfl)))
  have k5 := hts (.fieldLink RX10 23 "TwoEyes" "rules" "[I") (List.mem_cons_of_mem _ (inA_1 _ (List.mem_of_getElem? (i := 19) rfl)))
  have hl := lv_entry ([.ref (ad 0)]) (n := 1) (Nat.le_of_ble_eq_true rfl)
  rw [lg_entry_eq]
  generalize (lg_sl ([.ref (ad 0)]) ++ List.replicate (1 - (lg_sl ([.ref (ad 0)])).length) Slot.unset).toArray = ls at hl ⊢
  have hl : lv_has ls 1 [(0, .ref (ad 0))] := hl
  refine lv_aload_n hx hb dX10_refreshSegments_0 rfl (lv_at hl 0 rfl) ?_
  refine va_get (D := D) (ci := 10) (v := .ref (ad 39)) (C := RX10) (T := TX10) (N := 11) hx hb hts inX10 hown hK hP 0 (xW_0 cI cZ ad M) rfl 8 (by decide) k0 (fun _ h9 => h9) rfl dX10_refreshSegments_1 ?_
  refine va_get (D := D) (ci := 7) (v := .int (M 39 1)) (C := RX7) (T := TX7) (N := 2) hx hb hts inX7 hown hK hP 39 (xW_39 cI cZ ad M) rfl 1 (by decide) k2 (fun _ h9 => h9) rfl dX10_refreshSegments_4 ?_
  refine lv_if_ne (tgt := 27) hx hb dX10_refreshSegments_7 (by decide) (fun q7 => ?_) (fun q7 => ?_)
  · have h := h.1 q7
    exact W.vret hx hb hr (fun t ht hW => ⟨⟨M, rfl, h, xAt_of ht hP⟩, hS.F ht⟩) hS.2.2 dX10_refreshSegments_27
  · have h := h.2 q7
    refine lv_aload_n hx hb dX10_refreshSegments_10 rfl (lv_at hl 0 rfl) ?_
    refine va_get (D := D) (ci := 10) (v := .ref (ad 39)) (C := RX10) (T := TX10) (N := 11) hx hb hts inX10 hown hK hP 0 (xW_0 cI cZ ad M) rfl 8 (by decide) k0 (fun _ h9 => h9) rfl dX10_refreshSegments_11 ?_
    refine lv_aload_n hx hb dX10_refreshSegments_14 rfl (lv_at hl 0 rfl) ?_
    refine va_get (D := D) (ci := 10) (v := .ref (ad 1)) (C := RX10) (T := TX10) (N := 11) hx hb hts inX10 hown hK hP 0 (xW_0 cI cZ ad M) rfl 0 (by decide) k4 (fun _ h9 => h9) rfl dX10_refreshSegments_15 ?_
    refine lv_aload_n hx hb dX10_refreshSegments_18 rfl (lv_at hl 0 rfl) ?_
    refine va_get (D := D) (ci := 10) (v := .ref (ad 17)) (C := RX10) (T := TX10) (N := 11) hx hb hts inX10 hown hK hP 0 (xW_0 cI cZ ad M) rfl 3 (by decide) k5 (fun _ h9 => h9) rfl dX10_refreshSegments_19 ?_
    refine lv_iconst (v := 4) hx hb dX10_refreshSegments_22 (by decide) ?_
    obtain ⟨hi23, h⟩ := h
    refine va_iald hx hb hK hP 17 0 (xW_17 cI cZ ad M) rfl hi23 dX10_refreshSegments_23 ?_
    refine x_callVv (As := [.ref (ad 1), .int (M 17 (4 : Int32).toNatClampNeg)]) (rest := []) ⟨hx, hb, hml, hown, hts⟩ (kX7_gather l D cI cZ ad zA zD zR hD M (M 17 (4 : Int32).toNatClampNeg) _ h) (cwV 2 hts (gdV uS (inA_19 _ (List.mem_of_getElem? (i := 9) rfl)) vX7_gather) rfl rfl rfl (by decide +kernel) ⟨Nat.le_of_ble_eq_true rfl, Nat.le_of_ble_eq_true rfl⟩) (va_recv hK hP (ci := 7) (q0 := 39) rfl (xW_39 cI cZ ad M)) hP hK hZ hN hS hl.1 rfl rfl (Nat.le_of_ble_eq_true rfl) dX10_refreshSegments_24 (fun M24 H locs h hP hS => ?_)
    exact W.vret hx hb hr (fun t ht hW => ⟨⟨M24, rfl, h, xAt_of ht hP⟩, hS.F ht⟩) hS.2.2 dX10_refreshSegments_27
abbrev GX7_countAnchors (p : Program) (l : Launch) (e : Env) (s : State) (m : MethodId) (below : List Frame) (meth : Method) (c : Code) (D : va_G) (cI cZ : ClassId) (ad : Nat → Nat) (a1 : Int32) (Q : Int32 → Mem → Prop) (H : Heap) (locs : List Loc) (g : JFrame) : Prop := W p l e (headSpec uX7_countAnchors { frames := 0, cells := 0, slots := 0, locals := 0 }).room s m ([.ref (ad 39), .int a1] : List Value).toArray below meth c H locs 0 0 (MQ below (va_Qi Q (xAt D cI cZ ad) (xA ad)) ([.ref (ad 39), .int a1] : List Value).toArray s 0 0 (xA ad)) g
set_option maxHeartbeats 4000000 in
set_option maxRecDepth 100000 in
theorem kX7_countAnchors (l : Launch) (D : va_G) (cI cZ : ClassId) (ad : Nat → Nat) (zA zD zR : Nat) (hD : ∀ M : Mem, va_D (xA ad) (xW cI cZ ad M)) (M : Mem) (a1 : Int32) (Q : Int32 → Mem → Prop) (h : wX7_countAnchors M a1 Q) : Met l yX7_countAnchors uX7_countAnchors ({ frames := 0, cells := 0, slots := 0, locals := 0 }) (va_Pc [.ref (ad 39), .int a1] (xPre D cI cZ ad zA zD zR M)) (va_Qi Q (xAt D cI cZ ad) (xA ad)) 0 0 (xA ad) := by
  refine Met.ofW (cc := cX7_countAnchors) (maxL := 4) (ret := (some .int)) (by decide) rfl ?_
  intro p e s m args below meth c s₁ B hml hv
  obtain ⟨rfl, hP, hK, hZ, hN⟩ := hv
  have hx := B.exec
  have hb := B.bytes
  have hr := B.returns
  have hts := atoms_spec (ws := uX7_countAnchors) B.pre
  have hown : s.vm.findClass RX7 = some m.cls := findClass_of_methodNamed B.named
  have hlocks := B.notSynchronized
  have hS : va_S (xA ad) s.heap s.heap [] := va_S.rf
  have k0 := hts (.fieldLink RX7 9 "TwoEyes$Segments" "anchor" "[I") (List.mem_cons_of_mem _ (inA_5 _ (List.mem_of_getElem? (i := 16) rfl)))
  have inX7 : ∀ w ∈ wsX70, w ∈ uX7_countAnchors := fun w h => List.mem_cons_of_mem _ (inCX7 w h)
  have L4 : ∀ (K28 : Int32 → Mem → Prop), (∀ (x2 : Int32) (M : Mem) (H : Heap) (locs : List Loc) (ls : Array Slot), lv_has ls 4 [(2, .int x2)] → va_P D vwCl (xW cI cZ ad M) H → va_S (xA ad) s.heap H locs → K28 x2 M → GX7_countAnchors p l e s m below meth c D cI cZ ad a1 Q H locs (F0 m 28 ls [])) → ∀ n : Nat, ∀ (x1 x2 x3 : Int32) (M : Mem) (H : Heap) (locs : List Loc) (ls : Array Slot), lv_has ls 4 [(0, .ref (ad 39)), (1, .int x1), (2, .int x2), (3, .int x3)] → va_P D vwCl (xW cI cZ ad M) H → va_S (xA ad) s.heap H locs → wX7_countAnchors_L4 K28 Q n x1 x2 x3 M → GX7_countAnchors p l e s m below meth c D cI cZ ad a1 Q H locs (F0 m 4 ls []) := by
    intro K28 hK28 n
    induction n with
    | zero => intro x1 x2 x3 M H locs ls hl hP hS h; exact (show False from h).elim
    | succ n hB =>
      intro x1 x2 x3 M H locs ls hl hP hS h
      rw [wX7_countAnchors_L4_s] at h
      refine lv_iload_n hx hb dX7_countAnchors_4 rfl (lv_at hl 3 rfl) ?_
      refine lv_iload_n hx hb dX7_countAnchors_5 rfl (lv_at hl 1 rfl) ?_
      refine lv_icmp_ge (tgt := 28) hx hb dX7_countAnchors_6 (by decide) (fun q6 => ?_) (fun q6 => ?_)
      · have h := h.1 q6
        exact hK28 x2 M _ _ _ (lv_sub hl [2] rfl) hP hS h
      · have h := h.2 q6
        refine lv_aload_n hx hb dX7_countAnchors_9 rfl (lv_at hl 0 rfl) ?_
        refine va_get (D := D) (ci := 7) (v := .ref (ad 40)) (C := RX7) (T := TX7) (N := 2) hx hb hts inX7 hown hK hP 39 (xW_39 cI cZ ad M) rfl 0 (by decide) k0 (fun _ h9 => h9) rfl dX7_countAnchors_10 ?_
        refine lv_iload_n hx hb dX7_countAnchors_13 rfl (lv_at hl 3 rfl) ?_
        obtain ⟨hi14, h⟩ := h
        refine va_iald hx hb hK hP 40 0 (xW_40 cI cZ ad M) rfl hi14 dX7_countAnchors_14 ?_
        refine lv_iload_n hx hb dX7_countAnchors_15 rfl (lv_at hl 3 rfl) ?_
        refine lv_icmp_ne (tgt := 22) hx hb dX7_countAnchors_16 (by decide) (fun q16 => ?_) (fun q16 => ?_)
        · have h := h.1 q16
          obtain ⟨x3_22, ex3_22⟩ : ∃ y : Int32, y = x3 + 1 := ⟨_, rfl⟩
          have h := h x3_22 ex3_22
          refine lv_iinc (v := x3_22) (lv' := [(3, .int x3_22), (0, .ref (ad 39)), (1, .int x1), (2, .int x2)]) hx hb dX7_countAnchors_22 hl (k := 3) rfl (by rw [ex3_22]; rfl) (by decide) rfl (fun ls hl => ?_)
          refine lv_goto (tgt := 4) hx hb dX7_countAnchors_25 (by decide) ?_
          exact hB x1 x2 x3_22 M _ _ _ (lv_sub hl [1, 2, 3, 0] rfl) hP hS h
        · have h := h.2 q16
          obtain ⟨x2_19, ex2_19⟩ : ∃ y : Int32, y = x2 + 1 := ⟨_, rfl⟩
          have h := h x2_19 ex2_19
          refine lv_iinc (v := x2_19) (lv' := [(2, .int x2_19), (0, .ref (ad 39)), (1, .int x1), (3, .int x3)]) hx hb dX7_countAnchors_19 hl (k := 2) rfl (by rw [ex2_19]; rfl) (by decide) rfl (fun ls hl => ?_)
          obtain ⟨x3_22, ex3_22⟩ : ∃ y : Int32, y = x3 + 1 := ⟨_, rfl⟩
          have h := h x3_22 ex3_22
          refine lv_iinc (v := x3_22) (lv' := [(3, .int x3_22), (2, .int x2_19), (0, .ref (ad 39)), (1, .int x1)]) hx hb dX7_countAnchors_22 hl (k := 3) rfl (by rw [ex3_22]; rfl) (by decide) rfl (fun ls hl => ?_)
          refine lv_goto (tgt := 4) hx hb dX7_countAnchors_25 (by decide) ?_
          exact hB x1 x2_19 x3_22 M _ _ _ (lv_sub hl [2, 3, 1, 0] rfl) hP hS h
  have hl := lv_entry ([.ref (ad 39), .int a1]) (n := 4) (Nat.le_of_ble_eq_true rfl)
  rw [lg_entry_eq]
  generalize (lg_sl ([.ref (ad 39), .int a1]) ++ List.replicate (4 - (lg_sl ([.ref (ad 39), .int a1])).length) Slot.unset).toArray = ls at hl ⊢
  have hl : lv_has ls 4 [(0, .ref (ad 39)), (1, .int a1)] := hl
  refine lv_iconst (v := 0) hx hb dX7_countAnchors_0 (by decide) ?_
  refine lv_istore_n (lv' := [(2, .int 0), (0, .ref (ad 39)), (1, .int a1)]) hx hb dX7_countAnchors_1 rfl hl (by decide) rfl (fun ls hl => ?_)
  refine lv_iconst (v := 0) hx hb dX7_countAnchors_2 (by decide) ?_
  refine lv_istore_n (lv' := [(3, .int 0), (2, .int 0), (0, .ref (ad 39)), (1, .int a1)]) hx hb dX7_countAnchors_3 rfl hl (by decide) rfl (fun ls hl => ?_)
  obtain ⟨n, h⟩ := h
  refine L4 _ (fun x2 M H locs ls hl hP hS h => ?_) n a1 0 0 M _ _ _ (lv_sub hl [2, 3, 1, 0] rfl) hP hS h
  refine lv_iload_n hx hb dX7_countAnchors_28 rfl (lv_at hl 0 rfl) ?_
  exact W.iret (v := x2) hx hb hr (fun t ht hW => ⟨⟨x2, M, rfl, h, xAt_of ht hP⟩, hS.F ht⟩) hS.2.2 dX7_countAnchors_29
set_option maxHeartbeats 4000000 in
set_option maxRecDepth 100000 in
theorem kX0_bit (l : Launch) (D : va_G) (cI cZ : ClassId) (ad : Nat → Nat) (zA zD zR : Nat) (hD : ∀ M : Mem, va_D (xA ad) (xW cI cZ ad M)) (M : Mem) (a1 a2 a3 : Int32) (Q : Int32 → Mem → Prop) (h : wX0_bit M a1 a2 a3 Q) : Met l yX0_bit uX0_bit ({ frames := 0, cells := 0, slots := 0, locals := 0 }) (va_Pc [.ref (ad 45), .int a1, .int a2, .int a3] (xPre D cI cZ ad zA zD zR M)) (va_Qi Q (xAt D cI cZ ad) (xA ad)) 0 0 (xA ad) := by
  refine Met.ofW (cc := cX0_bit) (maxL := 4) (ret := (some .boolean)) (by decide) rfl ?_
  intro p e s m args below meth c s₁ B hml hv
  obtain ⟨rfl, hP, hK, hZ, hN⟩ := hv
  have hx := B.exec
  have hb := B.bytes
  have hr := B.returns
  have hts := atoms_spec (ws := uX0_bit) B.pre
  have hown : s.vm.findClass RX0 = some m.cls := findClass_of_methodNamed B.named
  have hlocks := B.notSynchronized
  have hS : va_S (xA ad) s.heap s.heap [] := va_S.rf
  have k0 := hts (.fieldLink RX0 9 "TwoEyes$Body" "rows" "[I") (List.mem_cons_of_mem _ (inA_6 _ (List.mem_of_getElem? (i := 12) rfl)))
  have inX0 : ∀ w ∈ wsX00, w ∈ uX0_bit := fun w h => List.mem_cons_of_mem _ (inCX0 w h)
  have hl := lv_entry ([.ref (ad 45), .int a1, .int a2, .int a3]) (n := 4) (Nat.le_of_ble_eq_true rfl)
  rw [lg_entry_eq]
  generalize (lg_sl ([.ref (ad 45), .int a1, .int a2, .int a3]) ++ List.replicate (4 - (lg_sl ([.ref (ad 45), .int a1, .int a2, .int a3])).length) Slot.unset).toArray = ls at hl ⊢
  have hl : lv_has ls 4 [(0, .ref (ad 45)), (1, .int a1), (2, .int a2), (3, .int a3)] := hl
  refine lv_aload_n hx hb dX0_bit_0 rfl (lv_at hl 0 rfl) ?_
  refine va_get (D := D) (ci := 0) (v := .ref (ad 46)) (C := RX0) (T := TX0) (N := 1) hx hb hts inX0 hown hK hP 45 (xW_45 cI cZ ad M) rfl 0 (by decide) k0 (fun _ h9 => h9) rfl dX0_bit_1 ?_
  refine lv_iload_n hx hb dX0_bit_4 rfl (lv_at hl 1 rfl) ?_
  refine lv_bipush (v := 8) hx hb dX0_bit_5 (by decide) ?_
  refine lv_imul hx hb dX0_bit_7 ?_
  refine lv_iload_n hx hb dX0_bit_8 rfl (lv_at hl 2 rfl) ?_
  refine lv_iadd hx hb dX0_bit_9 ?_
  obtain ⟨hi10, h⟩ := h
  refine va_iald hx hb hK hP 46 0 (xW_46 cI cZ ad M) rfl hi10 dX0_bit_10 ?_
  refine lv_iload_n hx hb dX0_bit_11 rfl (lv_at hl 3 rfl) ?_
  refine lv_ishr hx hb dX0_bit_12 ?_
  refine lv_iconst (v := 1) hx hb dX0_bit_13 (by decide) ?_
  refine lv_iand hx hb dX0_bit_14 ?_
  refine lv_iconst (v := 1) hx hb dX0_bit_15 (by decide) ?_
  refine lv_icmp_ne (tgt := 23) hx hb dX0_bit_16 (by decide) (fun q16 => ?_) (fun q16 => ?_)
  · have h := h.1 q16
    refine lv_iconst (v := 0) hx hb dX0_bit_23 (by decide) ?_
    exact W.zret (v := 0) hx hb hr rfl (fun t ht hW => ⟨⟨0, M, rfl, h, xAt_of ht hP⟩, hS.F ht⟩) hS.2.2 dX0_bit_24
  · have h := h.2 q16
    refine lv_iconst (v := 1) hx hb dX0_bit_19 (by decide) ?_
    refine lv_goto (tgt := 24) hx hb dX0_bit_20 (by decide) ?_
    exact W.zret (v := 1) hx hb hr rfl (fun t ht hW => ⟨⟨1, M, rfl, h, xAt_of ht hP⟩, hS.F ht⟩) hS.2.2 dX0_bit_24
abbrev GX0_countCubes (p : Program) (l : Launch) (e : Env) (s : State) (m : MethodId) (below : List Frame) (meth : Method) (c : Code) (D : va_G) (cI cZ : ClassId) (ad : Nat → Nat) (Q : Int32 → Mem → Prop) (H : Heap) (locs : List Loc) (g : JFrame) : Prop := W p l e (headSpec uX0_countCubes { frames := 1, cells := 0, slots := 0, locals := 23 }).room s m ([.ref (ad 45)] : List Value).toArray below meth c H locs 0 0 (MQ below (va_Qi Q (xAt D cI cZ ad) (xA ad)) ([.ref (ad 45)] : List Value).toArray s 0 0 (xA ad)) g
set_option maxHeartbeats 4000000 in
set_option maxRecDepth 100000 in
theorem kX0_countCubes (l : Launch) (D : va_G) (cI cZ : ClassId) (ad : Nat → Nat) (zA zD zR : Nat) (hD : ∀ M : Mem, va_D (xA ad) (xW cI cZ ad M)) (M : Mem) (Q : Int32 → Mem → Prop) (h : wX0_countCubes M Q) : Met l yX0_countCubes uX0_countCubes ({ frames := 1, cells := 0, slots := 0, locals := 23 }) (va_Pc [.ref (ad 45)] (xPre D cI cZ ad zA zD zR M)) (va_Qi Q (xAt D cI cZ ad) (xA ad)) 0 0 (xA ad) := by
  refine Met.ofW (cc := cX0_countCubes) (maxL := 4) (ret := (some .int)) (by decide) rfl ?_
  intro p e s m args below meth c s₁ B hml hv
  obtain ⟨rfl, hP, hK, hZ, hN⟩ := hv
  have hx := B.exec
  have hb := B.bytes
  have hr := B.returns
  have hts := atoms_spec (ws := uX0_countCubes) B.pre
  have hown : s.vm.findClass RX0 = some m.cls := findClass_of_methodNamed B.named
  have hlocks := B.notSynchronized
  have hS : va_S (xA ad) s.heap s.heap [] := va_S.rf
  have k0 := hts (.fieldLink RX0 9 "TwoEyes$Body" "rows" "[I") (List.mem_cons_of_mem _ (inA_6 _ (List.mem_of_getElem? (i := 12) rfl)))
  have inX0 : ∀ w ∈ wsX00, w ∈ uX0_countCubes := fun w h => List.mem_cons_of_mem _ (inCX0 w h)
  have L12 : ∀ (K59 : Int32 → Int32 → Mem → Prop), (∀ (x1 x2 : Int32) (M : Mem) (H : Heap) (locs : List Loc) (ls : Array Slot), lv_has ls 4 [(0, .ref (ad 45)), (1, .int x1), (2, .int x2)] → va_P D vwCl (xW cI cZ ad M) H → va_S (xA ad) s.heap H locs → K59 x1 x2 M → GX0_countCubes p l e s m below meth c D cI cZ ad Q H locs (F0 m 59 ls [])) → ∀ n : Nat, ∀ (x1 x2 x3 : Int32) (M : Mem) (H : Heap) (locs : List Loc) (ls : Array Slot), lv_has ls 4 [(0, .ref (ad 45)), (1, .int x1), (2, .int x2), (3, .int x3)] → va_P D vwCl (xW cI cZ ad M) H → va_S (xA ad) s.heap H locs → wX0_countCubes_L12 K59 Q n x1 x2 x3 M → GX0_countCubes p l e s m below meth c D cI cZ ad Q H locs (F0 m 12 ls []) := by
    intro K59 hK59 n
    induction n with
    | zero => intro x1 x2 x3 M H locs ls hl hP hS h; exact (show False from h).elim
    | succ n hB =>
      intro x1 x2 x3 M H locs ls hl hP hS h
      rw [wX0_countCubes_L12_s] at h
      refine lv_iload_n hx hb dX0_countCubes_12 rfl (lv_at hl 3 rfl) ?_
      refine lv_bipush (v := 8) hx hb dX0_countCubes_13 (by decide) ?_
      refine lv_icmp_ge (tgt := 59) hx hb dX0_countCubes_15 (by decide) (fun q15 => ?_) (fun q15 => ?_)
      · have h := h.1 q15
        exact hK59 x1 x2 M _ _ _ (lv_sub hl [0, 1, 2] rfl) hP hS h
      · have h := h.2 q15
        refine lv_aload_n hx hb dX0_countCubes_18 rfl (lv_at hl 0 rfl) ?_
        refine lv_iconst (v := 0) hx hb dX0_countCubes_19 (by decide) ?_
        refine lv_iload_n hx hb dX0_countCubes_20 rfl (lv_at hl 2 rfl) ?_
        refine lv_iload_n hx hb dX0_countCubes_21 rfl (lv_at hl 3 rfl) ?_
        refine x_callVi (As := [.int 0, .int x2, .int x3]) (rest := []) ⟨hx, hb, hml, hown, hts⟩ (kX0_bit l D cI cZ ad zA zD zR hD M 0 x2 x3 _ h) (cwV 3 hts (gdV uS (inA_20 _ (List.mem_of_getElem? (i := 15) rfl)) vX0_bit) rfl rfl rfl (by decide +kernel) ⟨Nat.le_of_ble_eq_true rfl, Nat.le_of_ble_eq_true rfl⟩) (va_recv hK hP (ci := 0) (q0 := 45) rfl (xW_45 cI cZ ad M)) hP hK hZ hN hS hl.1 rfl rfl (Nat.le_of_ble_eq_true rfl) dX0_countCubes_22 (fun r22 M22 H locs h hP hS => ?_)
        refine lv_if_eq (tgt := 53) hx hb dX0_countCubes_25 (by decide) (fun q25 => ?_) (fun q25 => ?_)
        · have h := h.1 q25
          obtain ⟨x3_53, ex3_53⟩ : ∃ y : Int32, y = x3 + 1 := ⟨_, rfl⟩
          have h := h x3_53 ex3_53
          refine lv_iinc (v := x3_53) (lv' := [(3, .int x3_53), (0, .ref (ad 45)), (1, .int x1), (2, .int x2)]) hx hb dX0_countCubes_53 hl (k := 3) rfl (by rw [ex3_53]; rfl) (by decide) rfl (fun ls hl => ?_)
          refine lv_goto (tgt := 12) hx hb dX0_countCubes_56 (by decide) ?_
          exact hB x1 x2 x3_53 M22 _ _ _ (lv_sub hl [1, 2, 3, 0] rfl) hP hS h
        · have h := h.2 q25
          refine lv_iload_n hx hb dX0_countCubes_28 rfl (lv_at hl 1 rfl) ?_
          refine lv_aload_n hx hb dX0_countCubes_29 rfl (lv_at hl 0 rfl) ?_
          refine va_get (D := D) (ci := 0) (v := .ref (ad 46)) (C := RX0) (T := TX0) (N := 1) hx hb hts inX0 hown hK hP 45 (xW_45 cI cZ ad M22) rfl 0 (by decide) k0 (fun _ h9 => h9) rfl dX0_countCubes_30 ?_
          refine lv_bipush (v := 8) hx hb dX0_countCubes_33 (by decide) ?_
          refine lv_iload_n hx hb dX0_countCubes_35 rfl (lv_at hl 2 rfl) ?_
          refine lv_iadd hx hb dX0_countCubes_36 ?_
          obtain ⟨hi37, h⟩ := h
          refine va_iald hx hb hK hP 46 0 (xW_46 cI cZ ad M22) rfl hi37 dX0_countCubes_37 ?_
          refine lv_aload_n hx hb dX0_countCubes_38 rfl (lv_at hl 0 rfl) ?_
          refine va_get (D := D) (ci := 0) (v := .ref (ad 46)) (C := RX0) (T := TX0) (N := 1) hx hb hts inX0 hown hK hP 45 (xW_45 cI cZ ad M22) rfl 0 (by decide) k0 (fun _ h9 => h9) rfl dX0_countCubes_39 ?_
          refine lv_bipush (v := 16) hx hb dX0_countCubes_42 (by decide) ?_
          refine lv_iload_n hx hb dX0_countCubes_44 rfl (lv_at hl 3 rfl) ?_
          refine lv_iadd hx hb dX0_countCubes_45 ?_
          obtain ⟨hi46, h⟩ := h
          refine va_iald hx hb hK hP 46 0 (xW_46 cI cZ ad M22) rfl hi46 dX0_countCubes_46 ?_
          refine lv_iand hx hb dX0_countCubes_47 ?_
          refine x_callSi (As := [.int ((M22 46 (8 + x2).toNatClampNeg) &&& (M22 46 (16 + x3).toNatClampNeg))]) (rest := [.int x1]) ⟨hx, hb, hml, hown, hts⟩ (kJ6_bitCount_0f7a4 l D cI cZ ad zA zD zR hD M22 ((M22 46 (8 + x2).toNatClampNeg) &&& (M22 46 (16 + x3).toNatClampNeg)) _ h) (va_cwS 1 hts (gdS uS (inA_20 _ (List.mem_of_getElem? (i := 19) rfl)) vJ6_bitCount_0f7a4) rfl rfl rfl (by decide +kernel) ⟨Nat.le_of_ble_eq_true rfl, Nat.le_of_ble_eq_true rfl⟩) hP hK hZ hN hS hl.1 rfl rfl (Nat.le_of_ble_eq_true rfl) dX0_countCubes_48 (fun v48 M48 H locs h hP hS => ?_)
          refine lv_iadd hx hb dX0_countCubes_51 ?_
          refine lv_topi (fun x1_52 ex1_52 => ?_)
          have h := h x1_52 ex1_52
          refine lv_istore_n (lv' := [(1, .int x1_52), (0, .ref (ad 45)), (2, .int x2), (3, .int x3)]) hx hb dX0_countCubes_52 rfl hl (by decide) rfl (fun ls hl => ?_)
          obtain ⟨x3_53, ex3_53⟩ : ∃ y : Int32, y = x3 + 1 := ⟨_, rfl⟩
          have h := h x3_53 ex3_53
          refine lv_iinc (v := x3_53) (lv' := [(3, .int x3_53), (1, .int x1_52), (0, .ref (ad 45)), (2, .int x2)]) hx hb dX0_countCubes_53 hl (k := 3) rfl (by rw [ex3_53]; rfl) (by decide) rfl (fun ls hl => ?_)
          refine lv_goto (tgt := 12) hx hb dX0_countCubes_56 (by decide) ?_
          exact hB x1_52 x2 x3_53 M48 _ _ _ (lv_sub hl [2, 1, 3, 0] rfl) hP hS h
  have L4 : ∀ (K65 : Int32 → Mem → Prop), (∀ (x1 : Int32) (M : Mem) (H : Heap) (locs : List Loc) (ls : Array Slot), lv_has ls 4 [(1, .int x1)] → va_P D vwCl (xW cI cZ ad M) H → va_S (xA ad) s.heap H locs → K65 x1 M → GX0_countCubes p l e s m below meth c D cI cZ ad Q H locs (F0 m 65 ls [])) → ∀ n : Nat, ∀ (x1 x2 : Int32) (M : Mem) (H : Heap) (locs : List Loc) (ls : Array Slot), lv_has ls 4 [(0, .ref (ad 45)), (1, .int x1), (2, .int x2)] → va_P D vwCl (xW cI cZ ad M) H → va_S (xA ad) s.heap H locs → wX0_countCubes_L4 K65 Q n x1 x2 M → GX0_countCubes p l e s m below meth c D cI cZ ad Q H locs (F0 m 4 ls []) := by
    intro K65 hK65 n
    induction n with
    | zero => intro x1 x2 M H locs ls hl hP hS h; exact (show False from h).elim
    | succ n hB =>
      intro x1 x2 M H locs ls hl hP hS h
      rw [wX0_countCubes_L4_s] at h
      refine lv_iload_n hx hb dX0_countCubes_4 rfl (lv_at hl 2 rfl) ?_
      refine lv_bipush (v := 8) hx hb dX0_countCubes_5 (by decide) ?_
      refine lv_icmp_ge (tgt := 65) hx hb dX0_countCubes_7 (by decide) (fun q7 => ?_) (fun q7 => ?_)
      · have h := h.1 q7
        exact hK65 x1 M _ _ _ (lv_sub hl [1] rfl) hP hS h
      · have h := h.2 q7
        refine lv_iconst (v := 0) hx hb dX0_countCubes_10 (by decide) ?_
        refine lv_istore_n (lv' := [(3, .int 0), (0, .ref (ad 45)), (1, .int x1), (2, .int x2)]) hx hb dX0_countCubes_11 rfl hl (by decide) rfl (fun ls hl => ?_)
        obtain ⟨n, h⟩ := h
        refine L12 _ (fun x1 x2 M H locs ls hl hP hS h => ?_) n x1 x2 0 M _ _ _ (lv_sub hl [1, 2, 3, 0] rfl) hP hS h
        obtain ⟨x2_59, ex2_59⟩ : ∃ y : Int32, y = x2 + 1 := ⟨_, rfl⟩
        have h := h x2_59 ex2_59
        refine lv_iinc (v := x2_59) (lv' := [(2, .int x2_59), (0, .ref (ad 45)), (1, .int x1)]) hx hb dX0_countCubes_59 hl (k := 2) rfl (by rw [ex2_59]; rfl) (by decide) rfl (fun ls hl => ?_)
        refine lv_goto (tgt := 4) hx hb dX0_countCubes_62 (by decide) ?_
        exact hB x1 x2_59 M _ _ _ (lv_sub hl [1, 2, 0] rfl) hP hS h
  have hl := lv_entry ([.ref (ad 45)]) (n := 4) (Nat.le_of_ble_eq_true rfl)
  rw [lg_entry_eq]
  generalize (lg_sl ([.ref (ad 45)]) ++ List.replicate (4 - (lg_sl ([.ref (ad 45)])).length) Slot.unset).toArray = ls at hl ⊢
  have hl : lv_has ls 4 [(0, .ref (ad 45))] := hl
  refine lv_iconst (v := 0) hx hb dX0_countCubes_0 (by decide) ?_
  refine lv_istore_n (lv' := [(1, .int 0), (0, .ref (ad 45))]) hx hb dX0_countCubes_1 rfl hl (by decide) rfl (fun ls hl => ?_)
  refine lv_iconst (v := 0) hx hb dX0_countCubes_2 (by decide) ?_
  refine lv_istore_n (lv' := [(2, .int 0), (1, .int 0), (0, .ref (ad 45))]) hx hb dX0_countCubes_3 rfl hl (by decide) rfl (fun ls hl => ?_)
  obtain ⟨n, h⟩ := h
  refine L4 _ (fun x1 M H locs ls hl hP hS h => ?_) n 0 0 M _ _ _ (lv_sub hl [2, 1, 0] rfl) hP hS h
  refine lv_iload_n hx hb dX0_countCubes_65 rfl (lv_at hl 0 rfl) ?_
  exact W.iret (v := x1) hx hb hr (fun t ht hW => ⟨⟨x1, M, rfl, h, xAt_of ht hP⟩, hS.F ht⟩) hS.2.2 dX0_countCubes_66
abbrev GX6_countTruths (p : Program) (l : Launch) (e : Env) (s : State) (m : MethodId) (below : List Frame) (meth : Method) (c : Code) (D : va_G) (cI cZ : ClassId) (ad : Nat → Nat) (Q : Int32 → Mem → Prop) (H : Heap) (locs : List Loc) (g : JFrame) : Prop := W p l e (headSpec uX6_countTruths { frames := 1, cells := 0, slots := 0, locals := 20 }).room s m ([.ref (ad 1)] : List Value).toArray below meth c H locs 0 0 (MQ below (va_Qi Q (xAt D cI cZ ad) (xA ad)) ([.ref (ad 1)] : List Value).toArray s 0 0 (xA ad)) g
set_option maxHeartbeats 4000000 in
set_option maxRecDepth 100000 in
theorem kX6_countTruths (l : Launch) (D : va_G) (cI cZ : ClassId) (ad : Nat → Nat) (zA zD zR : Nat) (hD : ∀ M : Mem, va_D (xA ad) (xW cI cZ ad M)) (M : Mem) (Q : Int32 → Mem → Prop) (h : wX6_countTruths M Q) : Met l yX6_countTruths uX6_countTruths ({ frames := 1, cells := 0, slots := 0, locals := 20 }) (va_Pc [.ref (ad 1)] (xPre D cI cZ ad zA zD zR M)) (va_Qi Q (xAt D cI cZ ad) (xA ad)) 0 0 (xA ad) := by
  refine Met.ofW (cc := cX6_countTruths) (maxL := 4) (ret := (some .int)) (by decide) rfl ?_
  intro p e s m args below meth c s₁ B hml hv
  obtain ⟨rfl, hP, hK, hZ, hN⟩ := hv
  have hx := B.exec
  have hb := B.bytes
  have hr := B.returns
  have hts := atoms_spec (ws := uX6_countTruths) B.pre
  have hown : s.vm.findClass RX6 = some m.cls := findClass_of_methodNamed B.named
  have hlocks := B.notSynchronized
  have hS : va_S (xA ad) s.heap s.heap [] := va_S.rf
  have k0 := hts (.fieldLink RX6 28 "TwoEyes$Scene" "truth" "[I") (List.mem_cons_of_mem _ (inA_3 _ (List.mem_of_getElem? (i := 11) rfl)))
  have inX6 : ∀ w ∈ wsX60, w ∈ uX6_countTruths := fun w h => List.mem_cons_of_mem _ (inCX6 w h)
  have L9 : ∀ (K34 : Int32 → Mem → Prop), (∀ (x1 : Int32) (M : Mem) (H : Heap) (locs : List Loc) (ls : Array Slot), lv_has ls 4 [(1, .int x1)] → va_P D vwCl (xW cI cZ ad M) H → va_S (xA ad) s.heap H locs → K34 x1 M → GX6_countTruths p l e s m below meth c D cI cZ ad Q H locs (F0 m 34 ls [])) → ∀ n : Nat, ∀ (x1 x2 x3 : Int32) (M : Mem) (H : Heap) (locs : List Loc) (ls : Array Slot), lv_has ls 4 [(0, .ref (ad 1)), (1, .int x1), (2, .int x2), (3, .int x3)] → va_P D vwCl (xW cI cZ ad M) H → va_S (xA ad) s.heap H locs → wX6_countTruths_L9 K34 Q n x1 x2 x3 M → GX6_countTruths p l e s m below meth c D cI cZ ad Q H locs (F0 m 9 ls []) := by
    intro K34 hK34 n
    induction n with
    | zero => intro x1 x2 x3 M H locs ls hl hP hS h; exact (show False from h).elim
    | succ n hB =>
      intro x1 x2 x3 M H locs ls hl hP hS h
      rw [wX6_countTruths_L9_s] at h
      refine lv_iload_n hx hb dX6_countTruths_9 rfl (lv_at hl 3 rfl) ?_
      refine lv_iload_n hx hb dX6_countTruths_10 rfl (lv_at hl 2 rfl) ?_
      refine lv_icmp_ge (tgt := 34) hx hb dX6_countTruths_11 (by decide) (fun q11 => ?_) (fun q11 => ?_)
      · have h := h.1 q11
        exact hK34 x1 M _ _ _ (lv_sub hl [1] rfl) hP hS h
      · have h := h.2 q11
        refine lv_aload_n hx hb dX6_countTruths_14 rfl (lv_at hl 0 rfl) ?_
        refine va_get (D := D) (ci := 6) (v := .ref (ad 8)) (C := RX6) (T := TX6) (N := 5) hx hb hts inX6 hown hK hP 1 (xW_1 cI cZ ad M) rfl 4 (by decide) k0 (fun _ h9 => h9) rfl dX6_countTruths_15 ?_
        refine lv_iload_n hx hb dX6_countTruths_18 rfl (lv_at hl 3 rfl) ?_
        obtain ⟨hi19, h⟩ := h
        refine va_iald hx hb hK hP 8 0 (xW_8 cI cZ ad M) rfl hi19 dX6_countTruths_19 ?_
        refine lv_bipush (v := (-4)) hx hb dX6_countTruths_20 (by decide) ?_
        refine lv_icmp_eq (tgt := 28) hx hb dX6_countTruths_22 (by decide) (fun q22 => ?_) (fun q22 => ?_)
        · have h := h.1 q22
          obtain ⟨x3_28, ex3_28⟩ : ∃ y : Int32, y = x3 + 1 := ⟨_, rfl⟩
          have h := h x3_28 ex3_28
          refine lv_iinc (v := x3_28) (lv' := [(3, .int x3_28), (0, .ref (ad 1)), (1, .int x1), (2, .int x2)]) hx hb dX6_countTruths_28 hl (k := 3) rfl (by rw [ex3_28]; rfl) (by decide) rfl (fun ls hl => ?_)
          refine lv_goto (tgt := 9) hx hb dX6_countTruths_31 (by decide) ?_
          exact hB x1 x2 x3_28 M _ _ _ (lv_sub hl [1, 2, 3, 0] rfl) hP hS h
        · have h := h.2 q22
          obtain ⟨x1_25, ex1_25⟩ : ∃ y : Int32, y = x1 + 1 := ⟨_, rfl⟩
          have h := h x1_25 ex1_25
          refine lv_iinc (v := x1_25) (lv' := [(1, .int x1_25), (0, .ref (ad 1)), (2, .int x2), (3, .int x3)]) hx hb dX6_countTruths_25 hl (k := 1) rfl (by rw [ex1_25]; rfl) (by decide) rfl (fun ls hl => ?_)
          obtain ⟨x3_28, ex3_28⟩ : ∃ y : Int32, y = x3 + 1 := ⟨_, rfl⟩
          have h := h x3_28 ex3_28
          refine lv_iinc (v := x3_28) (lv' := [(3, .int x3_28), (1, .int x1_25), (0, .ref (ad 1)), (2, .int x2)]) hx hb dX6_countTruths_28 hl (k := 3) rfl (by rw [ex3_28]; rfl) (by decide) rfl (fun ls hl => ?_)
          refine lv_goto (tgt := 9) hx hb dX6_countTruths_31 (by decide) ?_
          exact hB x1_25 x2 x3_28 M _ _ _ (lv_sub hl [2, 1, 3, 0] rfl) hP hS h
  have hl := lv_entry ([.ref (ad 1)]) (n := 4) (Nat.le_of_ble_eq_true rfl)
  rw [lg_entry_eq]
  generalize (lg_sl ([.ref (ad 1)]) ++ List.replicate (4 - (lg_sl ([.ref (ad 1)])).length) Slot.unset).toArray = ls at hl ⊢
  have hl : lv_has ls 4 [(0, .ref (ad 1))] := hl
  refine lv_iconst (v := 0) hx hb dX6_countTruths_0 (by decide) ?_
  refine lv_istore_n (lv' := [(1, .int 0), (0, .ref (ad 1))]) hx hb dX6_countTruths_1 rfl hl (by decide) rfl (fun ls hl => ?_)
  refine lv_aload_n hx hb dX6_countTruths_2 rfl (lv_at hl 1 rfl) ?_
  refine x_callVi (As := []) (rest := []) ⟨hx, hb, hml, hown, hts⟩ (kX6_countSquares l D cI cZ ad zA zD zR hD M _ h) (cwV 0 hts (gdV uS (inA_21 _ (List.mem_of_getElem? (i := 0) rfl)) vX6_countSquares) rfl rfl rfl (by decide +kernel) ⟨Nat.le_of_ble_eq_true rfl, Nat.le_of_ble_eq_true rfl⟩) (va_recv hK hP (ci := 6) (q0 := 1) rfl (xW_1 cI cZ ad M)) hP hK hZ hN hS hl.1 rfl rfl (Nat.le_of_ble_eq_true rfl) dX6_countTruths_3 (fun r3 M3 H locs h hP hS => ?_)
  refine lv_istore_n (lv' := [(2, .int r3), (1, .int 0), (0, .ref (ad 1))]) hx hb dX6_countTruths_6 rfl hl (by decide) rfl (fun ls hl => ?_)
  refine lv_iconst (v := 0) hx hb dX6_countTruths_7 (by decide) ?_
  refine lv_istore_n (lv' := [(3, .int 0), (2, .int r3), (1, .int 0), (0, .ref (ad 1))]) hx hb dX6_countTruths_8 rfl hl (by decide) rfl (fun ls hl => ?_)
  obtain ⟨n, h⟩ := h
  refine L9 _ (fun x1 M H locs ls hl hP hS h => ?_) n 0 r3 0 M3 _ _ _ (lv_sub hl [3, 2, 1, 0] rfl) hP hS h
  refine lv_iload_n hx hb dX6_countTruths_34 rfl (lv_at hl 0 rfl) ?_
  exact W.iret (v := x1) hx hb hr (fun t ht hW => ⟨⟨x1, M, rfl, h, xAt_of ht hP⟩, hS.F ht⟩) hS.2.2 dX6_countTruths_35
set_option maxHeartbeats 4000000 in
set_option maxRecDepth 100000 in
theorem kX10_many (l : Launch) (D : va_G) (cI cZ : ClassId) (ad : Nat → Nat) (zA zD zR : Nat) (hD : ∀ M : Mem, va_D (xA ad) (xW cI cZ ad M)) (M : Mem) (a1 : Int32) (Q : Int32 → Mem → Prop) (h : wX10_many M a1 Q) : Met l yX10_many uX10_many ({ frames := 6, cells := 0, slots := 0, locals := 149 }) (va_Pc [.ref (ad 0), .int a1] (xPre D cI cZ ad zA zD zR M)) (va_Qi Q (xAt D cI cZ ad) (xA ad)) 0 0 (xA ad) := by
  refine Met.ofW (cc := cX10_many) (maxL := 2) (ret := (some .int)) (by decide) rfl ?_
  intro p e s m args below meth c s₁ B hml hv
  obtain ⟨rfl, hP, hK, hZ, hN⟩ := hv
  have hx := B.exec
  have hb := B.bytes
  have hr := B.returns
  have hts := atoms_spec (ws := uX10_many) B.pre
  have hown : s.vm.findClass RX10 = some m.cls := findClass_of_methodNamed B.named
  have hlocks := B.notSynchronized
  have hS : va_S (xA ad) s.heap s.heap [] := va_S.rf
  have k0 := hts (.fieldLink RX10 10 "TwoEyes" "scene" "LTwoEyes$Scene;") (List.mem_cons_of_mem _ (inA_1 _ (List.mem_of_getElem? (i := 15) rfl)))
  have inX10 : ∀ w ∈ wsX100, w ∈ uX10_many := fun w h => List.mem_cons_of_mem _ (inCX10 w h)
  have k2 := hts (.fieldLink RX10 130 "TwoEyes$Scene" "width" "I") (List.mem_cons_of_mem _ (inA_14 _ (List.mem_of_getElem? (i := 8) rfl)))
  have inX6 : ∀ w ∈ wsX60, w ∈ uX10_many := fun w h => List.mem_cons_of_mem _ (inCX6 w h)
  have k4 := hts (.fieldLink RX10 134 "TwoEyes$Scene" "height" "I") (List.mem_cons_of_mem _ (inA_14 _ (List.mem_of_getElem? (i := 9) rfl)))
  have k5 := hts (.fieldLink RX10 51 "TwoEyes" "depths" "LTwoEyes$Depths;") (List.mem_cons_of_mem _ (inA_2 _ (List.mem_of_getElem? (i := 11) rfl)))
  have k6 := hts (.fieldLink RX10 58 "TwoEyes" "segments" "LTwoEyes$Segments;") (List.mem_cons_of_mem _ (inA_2 _ (List.mem_of_getElem? (i := 15) rfl)))
  have k7 := hts (.fieldLink RX10 72 "TwoEyes" "body" "LTwoEyes$Body;") (List.mem_cons_of_mem _ (inA_2 _ (List.mem_of_getElem? (i := 23) rfl)))
  have hl := lv_entry ([.ref (ad 0), .int a1]) (n := 2) (Nat.le_of_ble_eq_true rfl)
  rw [lg_entry_eq]
  generalize (lg_sl ([.ref (ad 0), .int a1]) ++ List.replicate (2 - (lg_sl ([.ref (ad 0), .int a1])).length) Slot.unset).toArray = ls at hl ⊢
  have hl : lv_has ls 2 [(0, .ref (ad 0)), (1, .int a1)] := hl
  refine lv_iload_n hx hb dX10_many_0 rfl (lv_at hl 1 rfl) ?_
  by_cases qd1 : (a1).toInt < 0 ∨ 7 < (a1).toInt
  · have h := h.2.2.2.2.2.2.2.2 qd1
    refine lv_tableOut (tgt := 136) hx hb dX10_many_1 qd1 (by decide) ?_
    refine lv_iconst (v := (-1)) hx hb dX10_many_136 (by decide) ?_
    exact W.iret (v := (-1)) hx hb hr (fun t ht hW => ⟨⟨(-1), M, rfl, h, xAt_of ht hP⟩, hS.F ht⟩) hS.2.2 dX10_many_137
  · have qn1 : ¬ (a1).toInt < 0 ∧ ¬ 7 < (a1).toInt := ⟨fun q => qd1 (Or.inl q), fun q => qd1 (Or.inr q)⟩
    have qc1 : (a1).toInt = 0 ∨ (a1).toInt = 1 ∨ (a1).toInt = 2 ∨ (a1).toInt = 3 ∨ (a1).toInt = 4 ∨ (a1).toInt = 5 ∨ (a1).toInt = 6 ∨ (a1).toInt = 7 := by
      omega
    rcases qc1 with qe1 | qe1 | qe1 | qe1 | qe1 | qe1 | qe1 | qe1
    · have qz1 : a1 = 0 := jint qe1 (by decide)
      have h := h.1 qz1
      refine lv_tableIn (tgt := 48) hx hb dX10_many_1 qn1.1 qn1.2 (by rw [qe1]; rfl) (by decide) ?_
      refine lv_aload_n hx hb dX10_many_48 rfl (lv_at hl 0 rfl) ?_
      refine va_get (D := D) (ci := 10) (v := .ref (ad 1)) (C := RX10) (T := TX10) (N := 11) hx hb hts inX10 hown hK hP 0 (xW_0 cI cZ ad M) rfl 0 (by decide) k0 (fun _ h9 => h9) rfl dX10_many_49 ?_
      refine va_get (D := D) (ci := 6) (v := .int (M 1 0)) (C := RX6) (T := TX6) (N := 5) hx hb hts inX6 hown hK hP 1 (xW_1 cI cZ ad M) rfl 0 (by decide) k2 (fun _ h9 => h9) rfl dX10_many_52 ?_
      exact W.iret (v := (M 1 0)) hx hb hr (fun t ht hW => ⟨⟨(M 1 0), M, rfl, h, xAt_of ht hP⟩, hS.F ht⟩) hS.2.2 dX10_many_55
    · have qz1 : a1 = 1 := jint qe1 (by decide)
      have h := h.2.1 qz1
      refine lv_tableIn (tgt := 56) hx hb dX10_many_1 qn1.1 qn1.2 (by rw [qe1]; rfl) (by decide) ?_
      refine lv_aload_n hx hb dX10_many_56 rfl (lv_at hl 0 rfl) ?_
      refine va_get (D := D) (ci := 10) (v := .ref (ad 1)) (C := RX10) (T := TX10) (N := 11) hx hb hts inX10 hown hK hP 0 (xW_0 cI cZ ad M) rfl 0 (by decide) k0 (fun _ h9 => h9) rfl dX10_many_57 ?_
      refine va_get (D := D) (ci := 6) (v := .int (M 1 1)) (C := RX6) (T := TX6) (N := 5) hx hb hts inX6 hown hK hP 1 (xW_1 cI cZ ad M) rfl 1 (by decide) k4 (fun _ h9 => h9) rfl dX10_many_60 ?_
      exact W.iret (v := (M 1 1)) hx hb hr (fun t ht hW => ⟨⟨(M 1 1), M, rfl, h, xAt_of ht hP⟩, hS.F ht⟩) hS.2.2 dX10_many_63
    · have qz1 : a1 = 2 := jint qe1 (by decide)
      have h := h.2.2.1 qz1
      refine lv_tableIn (tgt := 64) hx hb dX10_many_1 qn1.1 qn1.2 (by rw [qe1]; rfl) (by decide) ?_
      refine lv_aload_n hx hb dX10_many_64 rfl (lv_at hl 0 rfl) ?_
      refine va_get (D := D) (ci := 10) (v := .ref (ad 1)) (C := RX10) (T := TX10) (N := 11) hx hb hts inX10 hown hK hP 0 (xW_0 cI cZ ad M) rfl 0 (by decide) k0 (fun _ h9 => h9) rfl dX10_many_65 ?_
      refine lv_iconst (v := 0) hx hb dX10_many_68 (by decide) ?_
      refine x_callVi (As := [.int 0]) (rest := []) ⟨hx, hb, hml, hown, hts⟩ (kX6_countLost l D cI cZ ad zA zD zR hD M 0 _ h) (cwV 1 hts (gdV uS (inA_14 _ (List.mem_of_getElem? (i := 10) rfl)) vX6_countLost) rfl rfl rfl (by decide +kernel) ⟨Nat.le_of_ble_eq_true rfl, Nat.le_of_ble_eq_true rfl⟩) (va_recv hK hP (ci := 6) (q0 := 1) rfl (xW_1 cI cZ ad M)) hP hK hZ hN hS hl.1 rfl rfl (Nat.le_of_ble_eq_true rfl) dX10_many_69 (fun r69 M69 H locs h hP hS => ?_)
      exact W.iret (v := r69) hx hb hr (fun t ht hW => ⟨⟨r69, M69, rfl, h, xAt_of ht hP⟩, hS.F ht⟩) hS.2.2 dX10_many_72
    · have qz1 : a1 = 3 := jint qe1 (by decide)
      have h := h.2.2.2.1 qz1
      refine lv_tableIn (tgt := 73) hx hb dX10_many_1 qn1.1 qn1.2 (by rw [qe1]; rfl) (by decide) ?_
      refine lv_aload_n hx hb dX10_many_73 rfl (lv_at hl 0 rfl) ?_
      refine va_get (D := D) (ci := 10) (v := .ref (ad 1)) (C := RX10) (T := TX10) (N := 11) hx hb hts inX10 hown hK hP 0 (xW_0 cI cZ ad M) rfl 0 (by decide) k0 (fun _ h9 => h9) rfl dX10_many_74 ?_
      refine lv_iconst (v := 1) hx hb dX10_many_77 (by decide) ?_
      refine x_callVi (As := [.int 1]) (rest := []) ⟨hx, hb, hml, hown, hts⟩ (kX6_countLost l D cI cZ ad zA zD zR hD M 1 _ h) (cwV 1 hts (gdV uS (inA_14 _ (List.mem_of_getElem? (i := 10) rfl)) vX6_countLost) rfl rfl rfl (by decide +kernel) ⟨Nat.le_of_ble_eq_true rfl, Nat.le_of_ble_eq_true rfl⟩) (va_recv hK hP (ci := 6) (q0 := 1) rfl (xW_1 cI cZ ad M)) hP hK hZ hN hS hl.1 rfl rfl (Nat.le_of_ble_eq_true rfl) dX10_many_78 (fun r78 M78 H locs h hP hS => ?_)
      exact W.iret (v := r78) hx hb hr (fun t ht hW => ⟨⟨r78, M78, rfl, h, xAt_of ht hP⟩, hS.F ht⟩) hS.2.2 dX10_many_81
    · have qz1 : a1 = 4 := jint qe1 (by decide)
      have h := h.2.2.2.2.1 qz1
      refine lv_tableIn (tgt := 82) hx hb dX10_many_1 qn1.1 qn1.2 (by rw [qe1]; rfl) (by decide) ?_
      refine lv_aload_n hx hb dX10_many_82 rfl (lv_at hl 0 rfl) ?_
      refine x_callVv (As := []) (rest := []) ⟨hx, hb, hml, hown, hts⟩ (kX10_refreshDepths l D cI cZ ad zA zD zR hD M _ h) (cwV 0 hts (gdV uS (inA_14 _ (List.mem_of_getElem? (i := 15) rfl)) vX10_refreshDepths) rfl rfl rfl (by decide +kernel) ⟨Nat.le_of_ble_eq_true rfl, Nat.le_of_ble_eq_true rfl⟩) (va_recv hK hP (ci := 10) (q0 := 0) rfl (xW_0 cI cZ ad M)) hP hK hZ hN hS hl.1 rfl rfl (Nat.le_of_ble_eq_true rfl) dX10_many_83 (fun M83 H locs h hP hS => ?_)
      refine lv_aload_n hx hb dX10_many_86 rfl (lv_at hl 0 rfl) ?_
      refine va_get (D := D) (ci := 10) (v := .ref (ad 37)) (C := RX10) (T := TX10) (N := 11) hx hb hts inX10 hown hK hP 0 (xW_0 cI cZ ad M83) rfl 7 (by decide) k5 (fun _ h9 => h9) rfl dX10_many_87 ?_
      refine lv_aload_n hx hb dX10_many_90 rfl (lv_at hl 0 rfl) ?_
      refine va_get (D := D) (ci := 10) (v := .ref (ad 1)) (C := RX10) (T := TX10) (N := 11) hx hb hts inX10 hown hK hP 0 (xW_0 cI cZ ad M83) rfl 0 (by decide) k0 (fun _ h9 => h9) rfl dX10_many_91 ?_
      refine x_callVi (As := []) (rest := [.ref (ad 37)]) ⟨hx, hb, hml, hown, hts⟩ (kX6_countSquares l D cI cZ ad zA zD zR hD M83 _ h) (cwV 0 hts (gdV uS (inA_19 _ (List.mem_of_getElem? (i := 0) rfl)) vX6_countSquares) rfl rfl rfl (by decide +kernel) ⟨Nat.le_of_ble_eq_true rfl, Nat.le_of_ble_eq_true rfl⟩) (va_recv hK hP (ci := 6) (q0 := 1) rfl (xW_1 cI cZ ad M83)) hP hK hZ hN hS hl.1 rfl rfl (Nat.le_of_ble_eq_true rfl) dX10_many_94 (fun r94 M94 H locs h hP hS => ?_)
      refine x_callVi (As := [.int r94]) (rest := []) ⟨hx, hb, hml, hown, hts⟩ (kX2_countTold l D cI cZ ad zA zD zR hD M94 r94 _ h) (cwV 1 hts (gdV uS (inA_19 _ (List.mem_of_getElem? (i := 1) rfl)) vX2_countTold) rfl rfl rfl (by decide +kernel) ⟨Nat.le_of_ble_eq_true rfl, Nat.le_of_ble_eq_true rfl⟩) (va_recv hK hP (ci := 2) (q0 := 37) rfl (xW_37 cI cZ ad M94)) hP hK hZ hN hS hl.1 rfl rfl (Nat.le_of_ble_eq_true rfl) dX10_many_97 (fun r97 M97 H locs h hP hS => ?_)
      exact W.iret (v := r97) hx hb hr (fun t ht hW => ⟨⟨r97, M97, rfl, h, xAt_of ht hP⟩, hS.F ht⟩) hS.2.2 dX10_many_100
    · have qz1 : a1 = 5 := jint qe1 (by decide)
      have h := h.2.2.2.2.2.1 qz1
      refine lv_tableIn (tgt := 101) hx hb dX10_many_1 qn1.1 qn1.2 (by rw [qe1]; rfl) (by decide) ?_
      refine lv_aload_n hx hb dX10_many_101 rfl (lv_at hl 0 rfl) ?_
      refine x_callVv (As := []) (rest := []) ⟨hx, hb, hml, hown, hts⟩ (kX10_refreshSegments l D cI cZ ad zA zD zR hD M _ h) (cwV 0 hts (gdV uS (inA_19 _ (List.mem_of_getElem? (i := 5) rfl)) vX10_refreshSegments) rfl rfl rfl (by decide +kernel) ⟨Nat.le_of_ble_eq_true rfl, Nat.le_of_ble_eq_true rfl⟩) (va_recv hK hP (ci := 10) (q0 := 0) rfl (xW_0 cI cZ ad M)) hP hK hZ hN hS hl.1 rfl rfl (Nat.le_of_ble_eq_true rfl) dX10_many_102 (fun M102 H locs h hP hS => ?_)
      refine lv_aload_n hx hb dX10_many_105 rfl (lv_at hl 0 rfl) ?_
      refine va_get (D := D) (ci := 10) (v := .ref (ad 39)) (C := RX10) (T := TX10) (N := 11) hx hb hts inX10 hown hK hP 0 (xW_0 cI cZ ad M102) rfl 8 (by decide) k6 (fun _ h9 => h9) rfl dX10_many_106 ?_
      refine lv_aload_n hx hb dX10_many_109 rfl (lv_at hl 0 rfl) ?_
      refine va_get (D := D) (ci := 10) (v := .ref (ad 1)) (C := RX10) (T := TX10) (N := 11) hx hb hts inX10 hown hK hP 0 (xW_0 cI cZ ad M102) rfl 0 (by decide) k0 (fun _ h9 => h9) rfl dX10_many_110 ?_
      refine x_callVi (As := []) (rest := [.ref (ad 39)]) ⟨hx, hb, hml, hown, hts⟩ (kX6_countSquares l D cI cZ ad zA zD zR hD M102 _ h) (cwV 0 hts (gdV uS (inA_19 _ (List.mem_of_getElem? (i := 0) rfl)) vX6_countSquares) rfl rfl rfl (by decide +kernel) ⟨Nat.le_of_ble_eq_true rfl, Nat.le_of_ble_eq_true rfl⟩) (va_recv hK hP (ci := 6) (q0 := 1) rfl (xW_1 cI cZ ad M102)) hP hK hZ hN hS hl.1 rfl rfl (Nat.le_of_ble_eq_true rfl) dX10_many_113 (fun r113 M113 H locs h hP hS => ?_)
      refine x_callVi (As := [.int r113]) (rest := []) ⟨hx, hb, hml, hown, hts⟩ (kX7_countAnchors l D cI cZ ad zA zD zR hD M113 r113 _ h) (cwV 1 hts (gdV uS (inA_20 _ (List.mem_of_getElem? (i := 7) rfl)) vX7_countAnchors) rfl rfl rfl (by decide +kernel) ⟨Nat.le_of_ble_eq_true rfl, Nat.le_of_ble_eq_true rfl⟩) (va_recv hK hP (ci := 7) (q0 := 39) rfl (xW_39 cI cZ ad M113)) hP hK hZ hN hS hl.1 rfl rfl (Nat.le_of_ble_eq_true rfl) dX10_many_116 (fun r116 M116 H locs h hP hS => ?_)
      exact W.iret (v := r116) hx hb hr (fun t ht hW => ⟨⟨r116, M116, rfl, h, xAt_of ht hP⟩, hS.F ht⟩) hS.2.2 dX10_many_119
    · have qz1 : a1 = 6 := jint qe1 (by decide)
      have h := h.2.2.2.2.2.2.1 qz1
      refine lv_tableIn (tgt := 120) hx hb dX10_many_1 qn1.1 qn1.2 (by rw [qe1]; rfl) (by decide) ?_
      refine lv_aload_n hx hb dX10_many_120 rfl (lv_at hl 0 rfl) ?_
      refine va_get (D := D) (ci := 10) (v := .ref (ad 45)) (C := RX10) (T := TX10) (N := 11) hx hb hts inX10 hown hK hP 0 (xW_0 cI cZ ad M) rfl 10 (by decide) k7 (fun _ h9 => h9) rfl dX10_many_121 ?_
      refine x_callVi (As := []) (rest := []) ⟨hx, hb, hml, hown, hts⟩ (kX0_countCubes l D cI cZ ad zA zD zR hD M _ h) (cwV 0 hts (gdV uS (inA_20 _ (List.mem_of_getElem? (i := 11) rfl)) vX0_countCubes) rfl rfl rfl (by decide +kernel) ⟨Nat.le_of_ble_eq_true rfl, Nat.le_of_ble_eq_true rfl⟩) (va_recv hK hP (ci := 0) (q0 := 45) rfl (xW_45 cI cZ ad M)) hP hK hZ hN hS hl.1 rfl rfl (Nat.le_of_ble_eq_true rfl) dX10_many_124 (fun r124 M124 H locs h hP hS => ?_)
      exact W.iret (v := r124) hx hb hr (fun t ht hW => ⟨⟨r124, M124, rfl, h, xAt_of ht hP⟩, hS.F ht⟩) hS.2.2 dX10_many_127
    · have qz1 : a1 = 7 := jint qe1 (by decide)
      have h := h.2.2.2.2.2.2.2.1 qz1
      refine lv_tableIn (tgt := 128) hx hb dX10_many_1 qn1.1 qn1.2 (by rw [qe1]; rfl) (by decide) ?_
      refine lv_aload_n hx hb dX10_many_128 rfl (lv_at hl 0 rfl) ?_
      refine va_get (D := D) (ci := 10) (v := .ref (ad 1)) (C := RX10) (T := TX10) (N := 11) hx hb hts inX10 hown hK hP 0 (xW_0 cI cZ ad M) rfl 0 (by decide) k0 (fun _ h9 => h9) rfl dX10_many_129 ?_
      refine x_callVi (As := []) (rest := []) ⟨hx, hb, hml, hown, hts⟩ (kX6_countTruths l D cI cZ ad zA zD zR hD M _ h) (cwV 0 hts (gdV uS (inA_20 _ (List.mem_of_getElem? (i := 20) rfl)) vX6_countTruths) rfl rfl rfl (by decide +kernel) ⟨Nat.le_of_ble_eq_true rfl, Nat.le_of_ble_eq_true rfl⟩) (va_recv hK hP (ci := 6) (q0 := 1) rfl (xW_1 cI cZ ad M)) hP hK hZ hN hS hl.1 rfl rfl (Nat.le_of_ble_eq_true rfl) dX10_many_132 (fun r132 M132 H locs h hP hS => ?_)
      exact W.iret (v := r132) hx hb hr (fun t ht hW => ⟨⟨r132, M132, rfl, h, xAt_of ht hP⟩, hS.F ht⟩) hS.2.2 dX10_many_135
set_option maxHeartbeats 4000000 in
set_option maxRecDepth 100000 in
theorem kX10_isDepth (l : Launch) (D : va_G) (cI cZ : ClassId) (ad : Nat → Nat) (zA zD zR : Nat) (hD : ∀ M : Mem, va_D (xA ad) (xW cI cZ ad M)) (M : Mem) (a1 : Int32) (Q : Int32 → Mem → Prop) (h : wX10_isDepth M a1 Q) : Met l yX10_isDepth uX10_isDepth ({ frames := 0, cells := 0, slots := 0, locals := 0 }) (va_Pc [.ref (ad 0), .int a1] (xPre D cI cZ ad zA zD zR M)) (va_Qi Q (xAt D cI cZ ad) (xA ad)) 0 0 (xA ad) := by
  refine Met.ofW (cc := cX10_isDepth) (maxL := 2) (ret := (some .boolean)) (by decide) rfl ?_
  intro p e s m args below meth c s₁ B hml hv
  obtain ⟨rfl, hP, hK, hZ, hN⟩ := hv
  have hx := B.exec
  have hb := B.bytes
  have hr := B.returns
  have hts := atoms_spec (ws := uX10_isDepth) B.pre
  have hown : s.vm.findClass RX10 = some m.cls := findClass_of_methodNamed B.named
  have hlocks := B.notSynchronized
  have hS : va_S (xA ad) s.heap s.heap [] := va_S.rf
  have k0 := hts (.fieldLink RX10 23 "TwoEyes" "rules" "[I") (List.mem_cons_of_mem _ (inA_1 _ (List.mem_of_getElem? (i := 19) rfl)))
  have inX10 : ∀ w ∈ wsX100, w ∈ uX10_isDepth := fun w h => List.mem_cons_of_mem _ (inCX10 w h)
  have hl := lv_entry ([.ref (ad 0), .int a1]) (n := 2) (Nat.le_of_ble_eq_true rfl)
  rw [lg_entry_eq]
  generalize (lg_sl ([.ref (ad 0), .int a1]) ++ List.replicate (2 - (lg_sl ([.ref (ad 0), .int a1])).length) Slot.unset).toArray = ls at hl ⊢
  have hl : lv_has ls 2 [(0, .ref (ad 0)), (1, .int a1)] := hl
  refine lv_iload_n hx hb dX10_isDepth_0 rfl (lv_at hl 1 rfl) ?_
  refine lv_if_lt (tgt := 18) hx hb dX10_isDepth_1 (by decide) (fun q1 => ?_) (fun q1 => ?_)
  · have h := h.1 q1
    refine lv_iconst (v := 0) hx hb dX10_isDepth_18 (by decide) ?_
    exact W.zret (v := 0) hx hb hr rfl (fun t ht hW => ⟨⟨0, M, rfl, h, xAt_of ht hP⟩, hS.F ht⟩) hS.2.2 dX10_isDepth_19
  · have h := h.2 q1
    refine lv_iload_n hx hb dX10_isDepth_4 rfl (lv_at hl 1 rfl) ?_
    refine lv_aload_n hx hb dX10_isDepth_5 rfl (lv_at hl 0 rfl) ?_
    refine va_get (D := D) (ci := 10) (v := .ref (ad 17)) (C := RX10) (T := TX10) (N := 11) hx hb hts inX10 hown hK hP 0 (xW_0 cI cZ ad M) rfl 3 (by decide) k0 (fun _ h9 => h9) rfl dX10_isDepth_6 ?_
    refine lv_iconst (v := 0) hx hb dX10_isDepth_9 (by decide) ?_
    obtain ⟨hi10, h⟩ := h
    refine va_iald hx hb hK hP 17 0 (xW_17 cI cZ ad M) rfl hi10 dX10_isDepth_10 ?_
    refine lv_icmp_gt (tgt := 18) hx hb dX10_isDepth_11 (by decide) (fun q11 => ?_) (fun q11 => ?_)
    · have h := h.1 q11
      refine lv_iconst (v := 0) hx hb dX10_isDepth_18 (by decide) ?_
      exact W.zret (v := 0) hx hb hr rfl (fun t ht hW => ⟨⟨0, M, rfl, h, xAt_of ht hP⟩, hS.F ht⟩) hS.2.2 dX10_isDepth_19
    · have h := h.2 q11
      refine lv_iconst (v := 1) hx hb dX10_isDepth_14 (by decide) ?_
      refine lv_goto (tgt := 19) hx hb dX10_isDepth_15 (by decide) ?_
      exact W.zret (v := 1) hx hb hr rfl (fun t ht hW => ⟨⟨1, M, rfl, h, xAt_of ht hP⟩, hS.F ht⟩) hS.2.2 dX10_isDepth_19
set_option maxHeartbeats 4000000 in
set_option maxRecDepth 100000 in
theorem kX10_cost (l : Launch) (D : va_G) (cI cZ : ClassId) (ad : Nat → Nat) (zA zD zR : Nat) (hD : ∀ M : Mem, va_D (xA ad) (xW cI cZ ad M)) (M : Mem) (a1 a2 a3 : Int32) (Q : Int32 → Mem → Prop) (h : wX10_cost M a1 a2 a3 Q) : Met l yX10_cost uX10_cost ({ frames := 4, cells := 0, slots := 0, locals := 100 }) (va_Pc [.ref (ad 0), .int a1, .int a2, .int a3] (xPre D cI cZ ad zA zD zR M)) (va_Qi Q (xAt D cI cZ ad) (xA ad)) 0 0 (xA ad) := by
  refine Met.ofW (cc := cX10_cost) (maxL := 4) (ret := (some .int)) (by decide) rfl ?_
  intro p e s m args below meth c s₁ B hml hv
  obtain ⟨rfl, hP, hK, hZ, hN⟩ := hv
  have hx := B.exec
  have hb := B.bytes
  have hr := B.returns
  have hts := atoms_spec (ws := uX10_cost) B.pre
  have hown : s.vm.findClass RX10 = some m.cls := findClass_of_methodNamed B.named
  have hlocks := B.notSynchronized
  have hS : va_S (xA ad) s.heap s.heap [] := va_S.rf
  have k0 := hts (.fieldLink RX10 10 "TwoEyes" "scene" "LTwoEyes$Scene;") (List.mem_cons_of_mem _ (inA_1 _ (List.mem_of_getElem? (i := 15) rfl)))
  have inX10 : ∀ w ∈ wsX100, w ∈ uX10_cost := fun w h => List.mem_cons_of_mem _ (inCX10 w h)
  have k2 := hts (.fieldLink RX10 30 "TwoEyes" "costs" "LTwoEyes$Costs;") (List.mem_cons_of_mem _ (inA_1 _ (List.mem_of_getElem? (i := 23) rfl)))
  have k3 := hts (.fieldLink RX10 169 "TwoEyes$Costs" "table" "[I") (List.mem_cons_of_mem _ (inA_24 _ (List.mem_of_getElem? (i := 11) rfl)))
  have inX1 : ∀ w ∈ wsX10, w ∈ uX10_cost := fun w h => List.mem_cons_of_mem _ (inCX1 w h)
  have hl := lv_entry ([.ref (ad 0), .int a1, .int a2, .int a3]) (n := 4) (Nat.le_of_ble_eq_true rfl)
  rw [lg_entry_eq]
  generalize (lg_sl ([.ref (ad 0), .int a1, .int a2, .int a3]) ++ List.replicate (4 - (lg_sl ([.ref (ad 0), .int a1, .int a2, .int a3])).length) Slot.unset).toArray = ls at hl ⊢
  have hl : lv_has ls 4 [(0, .ref (ad 0)), (1, .int a1), (2, .int a2), (3, .int a3)] := hl
  refine lv_aload_n hx hb dX10_cost_0 rfl (lv_at hl 0 rfl) ?_
  refine va_get (D := D) (ci := 10) (v := .ref (ad 1)) (C := RX10) (T := TX10) (N := 11) hx hb hts inX10 hown hK hP 0 (xW_0 cI cZ ad M) rfl 0 (by decide) k0 (fun _ h9 => h9) rfl dX10_cost_1 ?_
  refine lv_iload_n hx hb dX10_cost_4 rfl (lv_at hl 1 rfl) ?_
  refine lv_iload_n hx hb dX10_cost_5 rfl (lv_at hl 2 rfl) ?_
  refine x_callVi (As := [.int a1, .int a2]) (rest := []) ⟨hx, hb, hml, hown, hts⟩ (kX6_hasSquare l D cI cZ ad zA zD zR hD M a1 a2 _ h) (cwV 2 hts (gdV uS (inA_13 _ (List.mem_of_getElem? (i := 6) rfl)) vX6_hasSquare) rfl rfl rfl (by decide +kernel) ⟨Nat.le_of_ble_eq_true rfl, Nat.le_of_ble_eq_true rfl⟩) (va_recv hK hP (ci := 6) (q0 := 1) rfl (xW_1 cI cZ ad M)) hP hK hZ hN hS hl.1 rfl rfl (Nat.le_of_ble_eq_true rfl) dX10_cost_6 (fun r6 M6 H locs h hP hS => ?_)
  refine lv_if_eq (tgt := 20) hx hb dX10_cost_9 (by decide) (fun q9 => ?_) (fun q9 => ?_)
  · have h := h.1 q9
    refine lv_iconst (v := (-1)) hx hb dX10_cost_20 (by decide) ?_
    exact W.iret (v := (-1)) hx hb hr (fun t ht hW => ⟨⟨(-1), M6, rfl, h, xAt_of ht hP⟩, hS.F ht⟩) hS.2.2 dX10_cost_21
  · have h := h.2 q9
    refine lv_aload_n hx hb dX10_cost_12 rfl (lv_at hl 0 rfl) ?_
    refine lv_iload_n hx hb dX10_cost_13 rfl (lv_at hl 3 rfl) ?_
    refine x_callVi (As := [.int a3]) (rest := []) ⟨hx, hb, hml, hown, hts⟩ (kX10_isDepth l D cI cZ ad zA zD zR hD M6 a3 _ h) (cwV 1 hts (gdV uS (inA_24 _ (List.mem_of_getElem? (i := 12) rfl)) vX10_isDepth) rfl rfl rfl (by decide +kernel) ⟨Nat.le_of_ble_eq_true rfl, Nat.le_of_ble_eq_true rfl⟩) (va_recv hK hP (ci := 10) (q0 := 0) rfl (xW_0 cI cZ ad M6)) hP hK hZ hN hS hl.1 rfl rfl (Nat.le_of_ble_eq_true rfl) dX10_cost_14 (fun r14 M14 H locs h hP hS => ?_)
    refine lv_if_ne (tgt := 22) hx hb dX10_cost_17 (by decide) (fun q17 => ?_) (fun q17 => ?_)
    · have h := h.1 q17
      refine lv_aload_n hx hb dX10_cost_22 rfl (lv_at hl 0 rfl) ?_
      refine x_callVv (As := []) (rest := []) ⟨hx, hb, hml, hown, hts⟩ (kX10_refreshCosts l D cI cZ ad zA zD zR hD M14 _ h) (cwV 0 hts (gdV uS (inA_15 _ (List.mem_of_getElem? (i := 0) rfl)) vX10_refreshCosts) rfl rfl rfl (by decide +kernel) ⟨Nat.le_of_ble_eq_true rfl, Nat.le_of_ble_eq_true rfl⟩) (va_recv hK hP (ci := 10) (q0 := 0) rfl (xW_0 cI cZ ad M14)) hP hK hZ hN hS hl.1 rfl rfl (Nat.le_of_ble_eq_true rfl) dX10_cost_23 (fun M23 H locs h hP hS => ?_)
      refine lv_aload_n hx hb dX10_cost_26 rfl (lv_at hl 0 rfl) ?_
      refine va_get (D := D) (ci := 10) (v := .ref (ad 18)) (C := RX10) (T := TX10) (N := 11) hx hb hts inX10 hown hK hP 0 (xW_0 cI cZ ad M23) rfl 4 (by decide) k2 (fun _ h9 => h9) rfl dX10_cost_27 ?_
      refine va_get (D := D) (ci := 1) (v := .ref (ad 27)) (C := RX1) (T := TX1) (N := 4) hx hb hts inX1 hown hK hP 18 (xW_18 cI cZ ad M23) rfl 2 (by decide) k3 (fun _ h9 => h9) rfl dX10_cost_30 ?_
      refine lv_aload_n hx hb dX10_cost_33 rfl (lv_at hl 0 rfl) ?_
      refine va_get (D := D) (ci := 10) (v := .ref (ad 1)) (C := RX10) (T := TX10) (N := 11) hx hb hts inX10 hown hK hP 0 (xW_0 cI cZ ad M23) rfl 0 (by decide) k0 (fun _ h9 => h9) rfl dX10_cost_34 ?_
      refine lv_iload_n hx hb dX10_cost_37 rfl (lv_at hl 1 rfl) ?_
      refine lv_iload_n hx hb dX10_cost_38 rfl (lv_at hl 2 rfl) ?_
      refine x_callVi (As := [.int a1, .int a2]) (rest := [.ref (ad 27)]) ⟨hx, hb, hml, hown, hts⟩ (kX6_placeOf l D cI cZ ad zA zD zR hD M23 a1 a2 _ h) (cwV 2 hts (gdV uS (inA_10 _ (List.mem_of_getElem? (i := 14) rfl)) vX6_placeOf) rfl rfl rfl (by decide +kernel) ⟨Nat.le_of_ble_eq_true rfl, Nat.le_of_ble_eq_true rfl⟩) (va_recv hK hP (ci := 6) (q0 := 1) rfl (xW_1 cI cZ ad M23)) hP hK hZ hN hS hl.1 rfl rfl (Nat.le_of_ble_eq_true rfl) dX10_cost_39 (fun r39 M39 H locs h hP hS => ?_)
      refine lv_bipush (v := 9) hx hb dX10_cost_42 (by decide) ?_
      refine lv_imul hx hb dX10_cost_44 ?_
      refine lv_iload_n hx hb dX10_cost_45 rfl (lv_at hl 3 rfl) ?_
      refine lv_iadd hx hb dX10_cost_46 ?_
      obtain ⟨hi47, h⟩ := h
      refine va_iald hx hb hK hP 27 0 (xW_27 cI cZ ad M39) rfl hi47 dX10_cost_47 ?_
      exact W.iret (v := (M39 27 ((r39 * 9) + a3).toNatClampNeg)) hx hb hr (fun t ht hW => ⟨⟨(M39 27 ((r39 * 9) + a3).toNatClampNeg), M39, rfl, h, xAt_of ht hP⟩, hS.F ht⟩) hS.2.2 dX10_cost_48
    · have h := h.2 q17
      refine lv_iconst (v := (-1)) hx hb dX10_cost_20 (by decide) ?_
      exact W.iret (v := (-1)) hx hb hr (fun t ht hW => ⟨⟨(-1), M14, rfl, h, xAt_of ht hP⟩, hS.F ht⟩) hS.2.2 dX10_cost_21
set_option maxHeartbeats 4000000 in
set_option maxRecDepth 100000 in
theorem kX3_matching (l : Launch) (D : va_G) (cI cZ : ClassId) (ad : Nat → Nat) (zA zD zR : Nat) (hD : ∀ M : Mem, va_D (xA ad) (xW cI cZ ad M)) (M : Mem) (a1 a2 a3 a4 a6 : Int32) (Q : Int32 → Mem → Prop) (h : wX3_matching M a1 a2 a3 a4 a6 Q) : Met l yX3_matching uX3_matching ({ frames := 0, cells := 0, slots := 0, locals := 0 }) (va_Pc [.ref (ad 28), .int a1, .int a2, .int a3, .int a4, .ref (ad 18), .int a6] (xPre D cI cZ ad zA zD zR M)) (va_Qi Q (xAt D cI cZ ad) (xA ad)) 0 0 (xA ad) := by
  refine Met.ofW (cc := cX3_matching) (maxL := 8) (ret := (some .int)) (by decide) rfl ?_
  intro p e s m args below meth c s₁ B hml hv
  obtain ⟨rfl, hP, hK, hZ, hN⟩ := hv
  have hx := B.exec
  have hb := B.bytes
  have hr := B.returns
  have hts := atoms_spec (ws := uX3_matching) B.pre
  have hown : s.vm.findClass RX3 = some m.cls := findClass_of_methodNamed B.named
  have hlocks := B.notSynchronized
  have hS : va_S (xA ad) s.heap s.heap [] := va_S.rf
  have k0 := hts (.fieldLink RX3 49 "TwoEyes$Costs" "table" "[I") (List.mem_cons_of_mem _ (inA_25 _ (List.mem_of_getElem? (i := 20) rfl)))
  have inX1 : ∀ w ∈ wsX10, w ∈ uX3_matching := fun w h => List.mem_cons_of_mem _ (inCX1 w h)
  have hl := lv_entry ([.ref (ad 28), .int a1, .int a2, .int a3, .int a4, .ref (ad 18), .int a6]) (n := 8) (Nat.le_of_ble_eq_true rfl)
  rw [lg_entry_eq]
  generalize (lg_sl ([.ref (ad 28), .int a1, .int a2, .int a3, .int a4, .ref (ad 18), .int a6]) ++ List.replicate (8 - (lg_sl ([.ref (ad 28), .int a1, .int a2, .int a3, .int a4, .ref (ad 18), .int a6])).length) Slot.unset).toArray = ls at hl ⊢
  have hl : lv_has ls 8 [(0, .ref (ad 28)), (1, .int a1), (2, .int a2), (3, .int a3), (4, .int a4), (5, .ref (ad 18)), (6, .int a6)] := hl
  refine lv_iload_n hx hb dX3_matching_0 rfl (lv_at hl 1 rfl) ?_
  refine lv_iload_n hx hb dX3_matching_1 rfl (lv_at hl 2 rfl) ?_
  refine lv_isub hx hb dX3_matching_2 ?_
  refine lv_topi (fun x7_3 ex7_3 => ?_)
  have h := h x7_3 ex7_3
  refine lv_istore (lv' := [(7, .int x7_3), (0, .ref (ad 28)), (1, .int a1), (2, .int a2), (3, .int a3), (4, .int a4), (5, .ref (ad 18)), (6, .int a6)]) hx hb dX3_matching_3 hl (by decide) rfl (fun ls hl => ?_)
  refine lv_iload_n hx hb dX3_matching_5 rfl (lv_at hl 2 rfl) ?_
  refine lv_iload hx hb dX3_matching_6 (lv_at hl 5 rfl) ?_
  refine lv_icmp_ge (tgt := 29) hx hb dX3_matching_8 (by decide) (fun q8 => ?_) (fun q8 => ?_)
  · have h := h.1 q8
    refine lv_bipush (v := (-4)) hx hb dX3_matching_29 (by decide) ?_
    exact W.iret (v := (-4)) hx hb hr (fun t ht hW => ⟨⟨(-4), M, rfl, h, xAt_of ht hP⟩, hS.F ht⟩) hS.2.2 dX3_matching_31
  · have h := h.2 q8
    refine lv_iload_n hx hb dX3_matching_11 rfl (lv_at hl 3 rfl) ?_
    refine lv_iload hx hb dX3_matching_12 (lv_at hl 5 rfl) ?_
    refine lv_icmp_ge (tgt := 29) hx hb dX3_matching_14 (by decide) (fun q14 => ?_) (fun q14 => ?_)
    · have h := h.1 q14
      refine lv_bipush (v := (-4)) hx hb dX3_matching_29 (by decide) ?_
      exact W.iret (v := (-4)) hx hb hr (fun t ht hW => ⟨⟨(-4), M, rfl, h, xAt_of ht hP⟩, hS.F ht⟩) hS.2.2 dX3_matching_31
    · have h := h.2 q14
      refine lv_iload hx hb dX3_matching_17 (lv_at hl 0 rfl) ?_
      refine lv_if_lt (tgt := 29) hx hb dX3_matching_19 (by decide) (fun q19 => ?_) (fun q19 => ?_)
      · have h := h.1 q19
        refine lv_bipush (v := (-4)) hx hb dX3_matching_29 (by decide) ?_
        exact W.iret (v := (-4)) hx hb hr (fun t ht hW => ⟨⟨(-4), M, rfl, h, xAt_of ht hP⟩, hS.F ht⟩) hS.2.2 dX3_matching_31
      · have h := h.2 q19
        refine lv_iload hx hb dX3_matching_22 (lv_at hl 0 rfl) ?_
        refine lv_iload hx hb dX3_matching_24 (lv_at hl 7 rfl) ?_
        refine lv_icmp_le (tgt := 32) hx hb dX3_matching_26 (by decide) (fun q26 => ?_) (fun q26 => ?_)
        · have h := h.1 q26
          refine lv_aload hx hb dX3_matching_32 (lv_at hl 6 rfl) ?_
          refine va_get (D := D) (ci := 1) (v := .ref (ad 27)) (C := RX1) (T := TX1) (N := 4) hx hb hts inX1 hown hK hP 18 (xW_18 cI cZ ad M) rfl 2 (by decide) k0 (fun _ h9 => h9) rfl dX3_matching_34 ?_
          refine lv_iload_n hx hb dX3_matching_37 rfl (lv_at hl 4 rfl) ?_
          refine lv_iload_n hx hb dX3_matching_38 rfl (lv_at hl 2 rfl) ?_
          refine lv_iadd hx hb dX3_matching_39 ?_
          refine lv_bipush (v := 9) hx hb dX3_matching_40 (by decide) ?_
          refine lv_imul hx hb dX3_matching_42 ?_
          refine lv_iload hx hb dX3_matching_43 (lv_at hl 0 rfl) ?_
          refine lv_iadd hx hb dX3_matching_45 ?_
          obtain ⟨hi46, h⟩ := h
          refine va_iald hx hb hK hP 27 0 (xW_27 cI cZ ad M) rfl hi46 dX3_matching_46 ?_
          exact W.iret (v := (M 27 (((a3 + a1) * 9) + x7_3).toNatClampNeg)) hx hb hr (fun t ht hW => ⟨⟨(M 27 (((a3 + a1) * 9) + x7_3).toNatClampNeg), M, rfl, h, xAt_of ht hP⟩, hS.F ht⟩) hS.2.2 dX3_matching_47
        · have h := h.2 q26
          refine lv_bipush (v := (-4)) hx hb dX3_matching_29 (by decide) ?_
          exact W.iret (v := (-4)) hx hb hr (fun t ht hW => ⟨⟨(-4), M, rfl, h, xAt_of ht hP⟩, hS.F ht⟩) hS.2.2 dX3_matching_31
