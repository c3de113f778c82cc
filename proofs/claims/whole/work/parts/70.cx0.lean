abbrev GX4_clear_2 (p : Program) (l : Launch) (e : Env) (s : State) (m : MethodId) (below : List Frame) (meth : Method) (c : Code) (D : va_G) (cI cZ : ClassId) (ad : Nat → Nat) (Q : Mem → Prop) (H : Heap) (locs : List Loc) (g : JFrame) : Prop := W p l e (headSpec uX4_clear { frames := 1, cells := 0, slots := 0, locals := 23 }).room s m ([.ref (ad 2)] : List Value).toArray below meth c H locs 0 0 (MQ below (va_Qv Q (xAt D cI cZ ad) (xA ad)) ([.ref (ad 2)] : List Value).toArray s 0 0 (xA ad)) g
set_option maxHeartbeats 4000000 in
set_option maxRecDepth 100000 in
theorem kX4_clear_2 (l : Launch) (D : va_G) (cI cZ : ClassId) (ad : Nat → Nat) (zA zD zR : Nat) (hD : ∀ M : Mem, va_D (xA ad) (xW cI cZ ad M)) (M : Mem) (Q : Mem → Prop) (h : wX4_clear_2 M Q) : Met l yX4_clear uX4_clear ({ frames := 1, cells := 0, slots := 0, locals := 23 }) (va_Pc [.ref (ad 2)] (xPre D cI cZ ad zA zD zR M)) (va_Qv Q (xAt D cI cZ ad) (xA ad)) 0 0 (xA ad) := by
  refine Met.ofW (cc := cX4_clear) (maxL := 2) (ret := none) (by decide) rfl ?_
  intro p e s m args below meth c s₁ B hml hv
  obtain ⟨rfl, hP, hK, hZ, hN⟩ := hv
  have hx := B.exec
  have hb := B.bytes
  have hr := B.returns
  have hts := atoms_spec (ws := uX4_clear) B.pre
  have hown : s.vm.findClass RX4 = some m.cls := findClass_of_methodNamed B.named
  have hlocks := B.notSynchronized
  have hS : va_S (xA ad) s.heap s.heap [] := va_S.rf
  have k0 := hts (.fieldLink RX4 15 "TwoEyes$Picture" "missing" "[Z") (List.mem_cons_of_mem _ (inA_3 _ (List.mem_of_getElem? (i := 17) rfl)))
  have inX4 : ∀ w ∈ wsX40, w ∈ uX4_clear := fun w h => List.mem_cons_of_mem _ (inCX4 w h)
  have k2 := hts (.fieldLink RX4 9 "TwoEyes$Picture" "squares" "[I") (List.mem_cons_of_mem _ (inA_3 _ (List.mem_of_getElem? (i := 15) rfl)))
  have L10 : ∀ (K29 : Mem → Prop), (∀ (M : Mem) (H : Heap) (locs : List Loc) (ls : Array Slot), lv_has ls 2 [] → va_P D vwCl (xW cI cZ ad M) H → va_S (xA ad) s.heap H locs → K29 M → GX4_clear_2 p l e s m below meth c D cI cZ ad Q H locs (F0 m 29 ls [])) → ∀ n : Nat, ∀ (x1 : Int32) (M : Mem) (H : Heap) (locs : List Loc) (ls : Array Slot), lv_has ls 2 [(0, .ref (ad 2)), (1, .int x1)] → va_P D vwCl (xW cI cZ ad M) H → va_S (xA ad) s.heap H locs → wX4_clear_2_L10 K29 Q n x1 M → GX4_clear_2 p l e s m below meth c D cI cZ ad Q H locs (F0 m 10 ls []) := by
    intro K29 hK29 n
    induction n with
    | zero => intro x1 M H locs ls hl hP hS h; exact (show False from h).elim
    | succ n hB =>
      intro x1 M H locs ls hl hP hS h
      rw [wX4_clear_2_L10_s] at h
      refine lv_iload_n hx hb dX4_clear_10 rfl (lv_at hl 1 rfl) ?_
      refine lv_bipush (v := 10) hx hb dX4_clear_11 (by decide) ?_
      refine lv_icmp_ge (tgt := 29) hx hb dX4_clear_13 (by decide) (fun q13 => ?_) (fun q13 => ?_)
      · have h := h.1 q13
        exact hK29 M _ _ _ (lv_sub hl [] rfl) hP hS h
      · have h := h.2 q13
        refine lv_aload_n hx hb dX4_clear_16 rfl (lv_at hl 0 rfl) ?_
        refine va_get (D := D) (ci := 4) (v := .ref (ad 4)) (C := RX4) (T := TX4) (N := 2) hx hb hts inX4 hown hK hP 2 (xW_2 cI cZ ad M) rfl 1 (by decide) k0 (fun _ h9 => h9) rfl dX4_clear_17 ?_
        refine lv_iload_n hx hb dX4_clear_20 rfl (lv_at hl 1 rfl) ?_
        refine lv_iconst (v := 0) hx hb dX4_clear_21 (by decide) ?_
        obtain ⟨hi22, h⟩ := h
        refine va_zast hx hb hK hP (hD M) hS 4 1 (xW_4 cI cZ ad M) rfl hi22 dX4_clear_22 (fun H locs hP _ hS => ?_)
        rw [zst (Or.inl rfl)] at hP
        refine xQ_4 hP (fun M22 eM22 hP => ?_)
        have h := h M22 eM22
        obtain ⟨x1_23, ex1_23⟩ : ∃ y : Int32, y = x1 + 1 := ⟨_, rfl⟩
        have h := h x1_23 ex1_23
        refine lv_iinc (v := x1_23) (lv' := [(1, .int x1_23), (0, .ref (ad 2))]) hx hb dX4_clear_23 hl (k := 1) rfl (by rw [ex1_23]; rfl) (by decide) rfl (fun ls hl => ?_)
        refine lv_goto (tgt := 10) hx hb dX4_clear_26 (by decide) ?_
        exact hB x1_23 M22 _ _ _ (lv_sub hl [1, 0] rfl) hP hS h
  have hl := lv_entry ([.ref (ad 2)]) (n := 2) (Nat.le_of_ble_eq_true rfl)
  rw [lg_entry_eq]
  generalize (lg_sl ([.ref (ad 2)]) ++ List.replicate (2 - (lg_sl ([.ref (ad 2)])).length) Slot.unset).toArray = ls at hl ⊢
  have hl : lv_has ls 2 [(0, .ref (ad 2))] := hl
  refine lv_aload_n hx hb dX4_clear_0 rfl (lv_at hl 0 rfl) ?_
  refine va_get (D := D) (ci := 4) (v := .ref (ad 3)) (C := RX4) (T := TX4) (N := 2) hx hb hts inX4 hown hK hP 2 (xW_2 cI cZ ad M) rfl 0 (by decide) k2 (fun _ h9 => h9) rfl dX4_clear_1 ?_
  refine lv_iconst (v := 0) hx hb dX4_clear_4 (by decide) ?_
  refine fill_call (ws := xW cI cZ ad M) (k := 3) (rest := []) ⟨hx, hb, hml, hown, hts⟩ (va_cwS 2 hts (gdS uS (inA_8 _ (List.mem_of_getElem? (i := 7) rfl)) vJ7_fill_53178) rfl rfl rfl (by decide +kernel) ⟨Nat.le_of_ble_eq_true rfl, Nat.le_of_ble_eq_true rfl⟩) hK hP (hD M) hS (xW_3 cI cZ ad M) rfl (by decide) hl.1 (Nat.le_of_ble_eq_true rfl) dX4_clear_5 ⟨Nat.zero_le _, Nat.zero_le _⟩ (fun H locs hP hS => ?_)
  refine xQ_3 hP (fun M5 eM5 hP => ?_)
  have h := h M5 eM5
  refine lv_iconst (v := 0) hx hb dX4_clear_8 (by decide) ?_
  refine lv_istore_n (lv' := [(1, .int 0), (0, .ref (ad 2))]) hx hb dX4_clear_9 rfl hl (by decide) rfl (fun ls hl => ?_)
  obtain ⟨n, h⟩ := h
  refine L10 _ (fun  M H locs ls hl hP hS h => ?_) n 0 M5 _ _ _ (lv_sub hl [1, 0] rfl) hP hS h
  exact W.vret hx hb hr (fun t ht hW => ⟨⟨M, rfl, h, xAt_of ht hP⟩, hS.F ht⟩) hS.2.2 dX4_clear_29
abbrev GX4_clear_5 (p : Program) (l : Launch) (e : Env) (s : State) (m : MethodId) (below : List Frame) (meth : Method) (c : Code) (D : va_G) (cI cZ : ClassId) (ad : Nat → Nat) (Q : Mem → Prop) (H : Heap) (locs : List Loc) (g : JFrame) : Prop := W p l e (headSpec uX4_clear { frames := 1, cells := 0, slots := 0, locals := 23 }).room s m ([.ref (ad 5)] : List Value).toArray below meth c H locs 0 0 (MQ below (va_Qv Q (xAt D cI cZ ad) (xA ad)) ([.ref (ad 5)] : List Value).toArray s 0 0 (xA ad)) g
set_option maxHeartbeats 4000000 in
set_option maxRecDepth 100000 in
theorem kX4_clear_5 (l : Launch) (D : va_G) (cI cZ : ClassId) (ad : Nat → Nat) (zA zD zR : Nat) (hD : ∀ M : Mem, va_D (xA ad) (xW cI cZ ad M)) (M : Mem) (Q : Mem → Prop) (h : wX4_clear_5 M Q) : Met l yX4_clear uX4_clear ({ frames := 1, cells := 0, slots := 0, locals := 23 }) (va_Pc [.ref (ad 5)] (xPre D cI cZ ad zA zD zR M)) (va_Qv Q (xAt D cI cZ ad) (xA ad)) 0 0 (xA ad) := by
  refine Met.ofW (cc := cX4_clear) (maxL := 2) (ret := none) (by decide) rfl ?_
  intro p e s m args below meth c s₁ B hml hv
  obtain ⟨rfl, hP, hK, hZ, hN⟩ := hv
  have hx := B.exec
  have hb := B.bytes
  have hr := B.returns
  have hts := atoms_spec (ws := uX4_clear) B.pre
  have hown : s.vm.findClass RX4 = some m.cls := findClass_of_methodNamed B.named
  have hlocks := B.notSynchronized
  have hS : va_S (xA ad) s.heap s.heap [] := va_S.rf
  have k0 := hts (.fieldLink RX4 15 "TwoEyes$Picture" "missing" "[Z") (List.mem_cons_of_mem _ (inA_3 _ (List.mem_of_getElem? (i := 17) rfl)))
  have inX4 : ∀ w ∈ wsX40, w ∈ uX4_clear := fun w h => List.mem_cons_of_mem _ (inCX4 w h)
  have k2 := hts (.fieldLink RX4 9 "TwoEyes$Picture" "squares" "[I") (List.mem_cons_of_mem _ (inA_3 _ (List.mem_of_getElem? (i := 15) rfl)))
  have L10 : ∀ (K29 : Mem → Prop), (∀ (M : Mem) (H : Heap) (locs : List Loc) (ls : Array Slot), lv_has ls 2 [] → va_P D vwCl (xW cI cZ ad M) H → va_S (xA ad) s.heap H locs → K29 M → GX4_clear_5 p l e s m below meth c D cI cZ ad Q H locs (F0 m 29 ls [])) → ∀ n : Nat, ∀ (x1 : Int32) (M : Mem) (H : Heap) (locs : List Loc) (ls : Array Slot), lv_has ls 2 [(0, .ref (ad 5)), (1, .int x1)] → va_P D vwCl (xW cI cZ ad M) H → va_S (xA ad) s.heap H locs → wX4_clear_5_L10 K29 Q n x1 M → GX4_clear_5 p l e s m below meth c D cI cZ ad Q H locs (F0 m 10 ls []) := by
    intro K29 hK29 n
    induction n with
    | zero => intro x1 M H locs ls hl hP hS h; exact (show False from h).elim
    | succ n hB =>
      intro x1 M H locs ls hl hP hS h
      rw [wX4_clear_5_L10_s] at h
      refine lv_iload_n hx hb dX4_clear_10 rfl (lv_at hl 1 rfl) ?_
      refine lv_bipush (v := 10) hx hb dX4_clear_11 (by decide) ?_
      refine lv_icmp_ge (tgt := 29) hx hb dX4_clear_13 (by decide) (fun q13 => ?_) (fun q13 => ?_)
      · have h := h.1 q13
        exact hK29 M _ _ _ (lv_sub hl [] rfl) hP hS h
      · have h := h.2 q13
        refine lv_aload_n hx hb dX4_clear_16 rfl (lv_at hl 0 rfl) ?_
        refine va_get (D := D) (ci := 4) (v := .ref (ad 7)) (C := RX4) (T := TX4) (N := 2) hx hb hts inX4 hown hK hP 5 (xW_5 cI cZ ad M) rfl 1 (by decide) k0 (fun _ h9 => h9) rfl dX4_clear_17 ?_
        refine lv_iload_n hx hb dX4_clear_20 rfl (lv_at hl 1 rfl) ?_
        refine lv_iconst (v := 0) hx hb dX4_clear_21 (by decide) ?_
        obtain ⟨hi22, h⟩ := h
        refine va_zast hx hb hK hP (hD M) hS 7 1 (xW_7 cI cZ ad M) rfl hi22 dX4_clear_22 (fun H locs hP _ hS => ?_)
        rw [zst (Or.inl rfl)] at hP
        refine xQ_7 hP (fun M22 eM22 hP => ?_)
        have h := h M22 eM22
        obtain ⟨x1_23, ex1_23⟩ : ∃ y : Int32, y = x1 + 1 := ⟨_, rfl⟩
        have h := h x1_23 ex1_23
        refine lv_iinc (v := x1_23) (lv' := [(1, .int x1_23), (0, .ref (ad 5))]) hx hb dX4_clear_23 hl (k := 1) rfl (by rw [ex1_23]; rfl) (by decide) rfl (fun ls hl => ?_)
        refine lv_goto (tgt := 10) hx hb dX4_clear_26 (by decide) ?_
        exact hB x1_23 M22 _ _ _ (lv_sub hl [1, 0] rfl) hP hS h
  have hl := lv_entry ([.ref (ad 5)]) (n := 2) (Nat.le_of_ble_eq_true rfl)
  rw [lg_entry_eq]
  generalize (lg_sl ([.ref (ad 5)]) ++ List.replicate (2 - (lg_sl ([.ref (ad 5)])).length) Slot.unset).toArray = ls at hl ⊢
  have hl : lv_has ls 2 [(0, .ref (ad 5))] := hl
  refine lv_aload_n hx hb dX4_clear_0 rfl (lv_at hl 0 rfl) ?_
  refine va_get (D := D) (ci := 4) (v := .ref (ad 6)) (C := RX4) (T := TX4) (N := 2) hx hb hts inX4 hown hK hP 5 (xW_5 cI cZ ad M) rfl 0 (by decide) k2 (fun _ h9 => h9) rfl dX4_clear_1 ?_
  refine lv_iconst (v := 0) hx hb dX4_clear_4 (by decide) ?_
  refine fill_call (ws := xW cI cZ ad M) (k := 6) (rest := []) ⟨hx, hb, hml, hown, hts⟩ (va_cwS 2 hts (gdS uS (inA_8 _ (List.mem_of_getElem? (i := 7) rfl)) vJ7_fill_53178) rfl rfl rfl (by decide +kernel) ⟨Nat.le_of_ble_eq_true rfl, Nat.le_of_ble_eq_true rfl⟩) hK hP (hD M) hS (xW_6 cI cZ ad M) rfl (by decide) hl.1 (Nat.le_of_ble_eq_true rfl) dX4_clear_5 ⟨Nat.zero_le _, Nat.zero_le _⟩ (fun H locs hP hS => ?_)
  refine xQ_6 hP (fun M5 eM5 hP => ?_)
  have h := h M5 eM5
  refine lv_iconst (v := 0) hx hb dX4_clear_8 (by decide) ?_
  refine lv_istore_n (lv' := [(1, .int 0), (0, .ref (ad 5))]) hx hb dX4_clear_9 rfl hl (by decide) rfl (fun ls hl => ?_)
  obtain ⟨n, h⟩ := h
  refine L10 _ (fun  M H locs ls hl hP hS h => ?_) n 0 M5 _ _ _ (lv_sub hl [1, 0] rfl) hP hS h
  exact W.vret hx hb hr (fun t ht hW => ⟨⟨M, rfl, h, xAt_of ht hP⟩, hS.F ht⟩) hS.2.2 dX4_clear_29
set_option maxHeartbeats 4000000 in
set_option maxRecDepth 100000 in
theorem kX6_renew (l : Launch) (D : va_G) (cI cZ : ClassId) (ad : Nat → Nat) (zA zD zR : Nat) (hD : ∀ M : Mem, va_D (xA ad) (xW cI cZ ad M)) (M : Mem) (a1 a2 : Int32) (Q : Mem → Prop) (h : wX6_renew M a1 a2 Q) : Met l yX6_renew uX6_renew ({ frames := 2, cells := 0, slots := 0, locals := 44 }) (va_Pc [.ref (ad 1), .int a1, .int a2] (xPre D cI cZ ad zA zD zR M)) (va_Qv Q (xAt D cI cZ ad) (xA ad)) 0 0 (xA ad) := by
  refine Met.ofW (cc := cX6_renew) (maxL := 3) (ret := none) (by decide) rfl ?_
  intro p e s m args below meth c s₁ B hml hv
  obtain ⟨rfl, hP, hK, hZ, hN⟩ := hv
  have hx := B.exec
  have hb := B.bytes
  have hr := B.returns
  have hts := atoms_spec (ws := uX6_renew) B.pre
  have hown : s.vm.findClass RX6 = some m.cls := findClass_of_methodNamed B.named
  have hlocks := B.notSynchronized
  have hS : va_S (xA ad) s.heap s.heap [] := va_S.rf
  have k0 := hts (.fieldLink RX6 9 "TwoEyes$Scene" "width" "I") (List.mem_cons_of_mem _ (inA_3 _ (List.mem_of_getElem? (i := 4) rfl)))
  have inX6 : ∀ w ∈ wsX60, w ∈ uX6_renew := fun w h => List.mem_cons_of_mem _ (inCX6 w h)
  have k2 := hts (.fieldLink RX6 15 "TwoEyes$Scene" "height" "I") (List.mem_cons_of_mem _ (inA_3 _ (List.mem_of_getElem? (i := 5) rfl)))
  have k3 := hts (.fieldLink RX6 21 "TwoEyes$Scene" "left" "LTwoEyes$Picture;") (List.mem_cons_of_mem _ (inA_3 _ (List.mem_of_getElem? (i := 9) rfl)))
  have k4 := hts (.fieldLink RX6 25 "TwoEyes$Scene" "right" "LTwoEyes$Picture;") (List.mem_cons_of_mem _ (inA_3 _ (List.mem_of_getElem? (i := 10) rfl)))
  have k5 := hts (.fieldLink RX6 28 "TwoEyes$Scene" "truth" "[I") (List.mem_cons_of_mem _ (inA_3 _ (List.mem_of_getElem? (i := 11) rfl)))
  have hl := lv_entry ([.ref (ad 1), .int a1, .int a2]) (n := 3) (Nat.le_of_ble_eq_true rfl)
  rw [lg_entry_eq]
  generalize (lg_sl ([.ref (ad 1), .int a1, .int a2]) ++ List.replicate (3 - (lg_sl ([.ref (ad 1), .int a1, .int a2])).length) Slot.unset).toArray = ls at hl ⊢
  have hl : lv_has ls 3 [(0, .ref (ad 1)), (1, .int a1), (2, .int a2)] := hl
  refine lv_aload_n hx hb dX6_renew_0 rfl (lv_at hl 0 rfl) ?_
  refine lv_iload_n hx hb dX6_renew_1 rfl (lv_at hl 1 rfl) ?_
  refine va_put (D := D) (ci := 6) (v := .int a1) (ty := .int) (C := RX6) (T := TX6) (N := 5) hx hb hts inX6 tyX6 tyX6_ok nmX6 hown hK hP (hD M) hS 1 (xW_1 cI cZ ad M) rfl 0 (by decide) k0 (fun _ h9 => h9) rfl (by decide +kernel) rfl rfl (Nat.le_of_ble_eq_true rfl) dX6_renew_2 (fun H locs hP _ hS => ?_)
  refine xP_1_0 hP (fun M2 eM2 hP => ?_)
  have h := h M2 eM2
  refine lv_aload_n hx hb dX6_renew_5 rfl (lv_at hl 0 rfl) ?_
  refine lv_iload_n hx hb dX6_renew_6 rfl (lv_at hl 2 rfl) ?_
  refine va_put (D := D) (ci := 6) (v := .int a2) (ty := .int) (C := RX6) (T := TX6) (N := 5) hx hb hts inX6 tyX6 tyX6_ok nmX6 hown hK hP (hD M2) hS 1 (xW_1 cI cZ ad M2) rfl 1 (by decide) k2 (fun _ h9 => h9) rfl (by decide +kernel) rfl rfl (Nat.le_of_ble_eq_true rfl) dX6_renew_7 (fun H locs hP _ hS => ?_)
  refine xP_1_1 hP (fun M7 eM7 hP => ?_)
  have h := h M7 eM7
  refine lv_aload_n hx hb dX6_renew_10 rfl (lv_at hl 0 rfl) ?_
  refine va_get (D := D) (ci := 6) (v := .ref (ad 2)) (C := RX6) (T := TX6) (N := 5) hx hb hts inX6 hown hK hP 1 (xW_1 cI cZ ad M7) rfl 2 (by decide) k3 (fun _ h9 => h9) rfl dX6_renew_11 ?_
  refine x_callVv (As := []) (rest := []) ⟨hx, hb, hml, hown, hts⟩ (kX4_clear_2 l D cI cZ ad zA zD zR hD M7 _ h) (cwV 0 hts (gdV uS (inA_8 _ (List.mem_of_getElem? (i := 3) rfl)) vX4_clear) rfl rfl rfl (by decide +kernel) ⟨Nat.le_of_ble_eq_true rfl, Nat.le_of_ble_eq_true rfl⟩) (va_recv hK hP (ci := 4) (q0 := 2) rfl (xW_2 cI cZ ad M7)) hP hK hZ hN hS hl.1 rfl rfl (Nat.le_of_ble_eq_true rfl) dX6_renew_14 (fun M14 H locs h hP hS => ?_)
  refine lv_aload_n hx hb dX6_renew_17 rfl (lv_at hl 0 rfl) ?_
  refine va_get (D := D) (ci := 6) (v := .ref (ad 5)) (C := RX6) (T := TX6) (N := 5) hx hb hts inX6 hown hK hP 1 (xW_1 cI cZ ad M14) rfl 3 (by decide) k4 (fun _ h9 => h9) rfl dX6_renew_18 ?_
  refine x_callVv (As := []) (rest := []) ⟨hx, hb, hml, hown, hts⟩ (kX4_clear_5 l D cI cZ ad zA zD zR hD M14 _ h) (cwV 0 hts (gdV uS (inA_8 _ (List.mem_of_getElem? (i := 3) rfl)) vX4_clear) rfl rfl rfl (by decide +kernel) ⟨Nat.le_of_ble_eq_true rfl, Nat.le_of_ble_eq_true rfl⟩) (va_recv hK hP (ci := 4) (q0 := 5) rfl (xW_5 cI cZ ad M14)) hP hK hZ hN hS hl.1 rfl rfl (Nat.le_of_ble_eq_true rfl) dX6_renew_21 (fun M21 H locs h hP hS => ?_)
  refine lv_aload_n hx hb dX6_renew_24 rfl (lv_at hl 0 rfl) ?_
  refine va_get (D := D) (ci := 6) (v := .ref (ad 8)) (C := RX6) (T := TX6) (N := 5) hx hb hts inX6 hown hK hP 1 (xW_1 cI cZ ad M21) rfl 4 (by decide) k5 (fun _ h9 => h9) rfl dX6_renew_25 ?_
  refine lv_bipush (v := (-4)) hx hb dX6_renew_28 (by decide) ?_
  refine fill_call (ws := xW cI cZ ad M21) (k := 8) (rest := []) ⟨hx, hb, hml, hown, hts⟩ (va_cwS 2 hts (gdS uS (inA_3 _ (List.mem_of_getElem? (i := 18) rfl)) vJ7_fill_53178) rfl rfl rfl (by decide +kernel) ⟨Nat.le_of_ble_eq_true rfl, Nat.le_of_ble_eq_true rfl⟩) hK hP (hD M21) hS (xW_8 cI cZ ad M21) rfl (by decide) hl.1 (Nat.le_of_ble_eq_true rfl) dX6_renew_30 ⟨Nat.zero_le _, Nat.zero_le _⟩ (fun H locs hP hS => ?_)
  refine xQ_8 hP (fun M30 eM30 hP => ?_)
  have h := h M30 eM30
  exact W.vret hx hb hr (fun t ht hW => ⟨⟨M30, rfl, h, xAt_of ht hP⟩, hS.F ht⟩) hS.2.2 dX6_renew_33
set_option maxHeartbeats 4000000 in
set_option maxRecDepth 100000 in
theorem kX3_forget (l : Launch) (D : va_G) (cI cZ : ClassId) (ad : Nat → Nat) (zA zD zR : Nat) (hD : ∀ M : Mem, va_D (xA ad) (xW cI cZ ad M)) (M : Mem) (Q : Mem → Prop) (h : wX3_forget M Q) : Met l yX3_forget uX3_forget ({ frames := 1, cells := 0, slots := 0, locals := 23 }) (va_Pc [.ref (ad 28)] (xPre D cI cZ ad zA zD zR M)) (va_Qv Q (xAt D cI cZ ad) (xA ad)) 0 0 (xA ad) := by
  refine Met.ofW (cc := cX3_forget) (maxL := 1) (ret := none) (by decide) rfl ?_
  intro p e s m args below meth c s₁ B hml hv
  obtain ⟨rfl, hP, hK, hZ, hN⟩ := hv
  have hx := B.exec
  have hb := B.bytes
  have hr := B.returns
  have hts := atoms_spec (ws := uX3_forget) B.pre
  have hown : s.vm.findClass RX3 = some m.cls := findClass_of_methodNamed B.named
  have hlocks := B.notSynchronized
  have hS : va_S (xA ad) s.heap s.heap [] := va_S.rf
  have k0 := hts (.fieldLink RX3 18 "TwoEyes$Paths" "total" "[I") (List.mem_cons_of_mem _ (inA_4 _ (List.mem_of_getElem? (i := 20) rfl)))
  have inX3 : ∀ w ∈ wsX30, w ∈ uX3_forget := fun w h => List.mem_cons_of_mem _ (inCX3 w h)
  have hl := lv_entry ([.ref (ad 28)]) (n := 1) (Nat.le_of_ble_eq_true rfl)
  rw [lg_entry_eq]
  generalize (lg_sl ([.ref (ad 28)]) ++ List.replicate (1 - (lg_sl ([.ref (ad 28)])).length) Slot.unset).toArray = ls at hl ⊢
  have hl : lv_has ls 1 [(0, .ref (ad 28))] := hl
  refine lv_aload_n hx hb dX3_forget_0 rfl (lv_at hl 0 rfl) ?_
  refine va_get (D := D) (ci := 3) (v := .ref (ad 31)) (C := RX3) (T := TX3) (N := 3) hx hb hts inX3 hown hK hP 28 (xW_28 cI cZ ad M) rfl 2 (by decide) k0 (fun _ h9 => h9) rfl dX3_forget_1 ?_
  refine lv_bipush (v := (-4)) hx hb dX3_forget_4 (by decide) ?_
  refine fill_call (ws := xW cI cZ ad M) (k := 31) (rest := []) ⟨hx, hb, hml, hown, hts⟩ (va_cwS 2 hts (gdS uS (inA_4 _ (List.mem_of_getElem? (i := 21) rfl)) vJ7_fill_53178) rfl rfl rfl (by decide +kernel) ⟨Nat.le_of_ble_eq_true rfl, Nat.le_of_ble_eq_true rfl⟩) hK hP (hD M) hS (xW_31 cI cZ ad M) rfl (by decide) hl.1 (Nat.le_of_ble_eq_true rfl) dX3_forget_6 ⟨Nat.zero_le _, Nat.zero_le _⟩ (fun H locs hP hS => ?_)
  refine xQ_31 hP (fun M6 eM6 hP => ?_)
  have h := h M6 eM6
  exact W.vret hx hb hr (fun t ht hW => ⟨⟨M6, rfl, h, xAt_of ht hP⟩, hS.F ht⟩) hS.2.2 dX3_forget_9
set_option maxHeartbeats 4000000 in
set_option maxRecDepth 100000 in
theorem kX9_forget (l : Launch) (D : va_G) (cI cZ : ClassId) (ad : Nat → Nat) (zA zD zR : Nat) (hD : ∀ M : Mem, va_D (xA ad) (xW cI cZ ad M)) (M : Mem) (Q : Mem → Prop) (h : wX9_forget M Q) : Met l yX9_forget uX9_forget ({ frames := 0, cells := 0, slots := 0, locals := 0 }) (va_Pc [.ref (ad 32)] (xPre D cI cZ ad zA zD zR M)) (va_Qv Q (xAt D cI cZ ad) (xA ad)) 0 0 (xA ad) := by
  refine Met.ofW (cc := cX9_forget) (maxL := 1) (ret := none) (by decide) rfl ?_
  intro p e s m args below meth c s₁ B hml hv
  obtain ⟨rfl, hP, hK, hZ, hN⟩ := hv
  have hx := B.exec
  have hb := B.bytes
  have hr := B.returns
  have hts := atoms_spec (ws := uX9_forget) B.pre
  have hown : s.vm.findClass RX9 = some m.cls := findClass_of_methodNamed B.named
  have hlocks := B.notSynchronized
  have hS : va_S (xA ad) s.heap s.heap [] := va_S.rf
  have k0 := hts (.fieldLink RX9 24 "TwoEyes$Sums" "voted" "Z") (List.mem_cons_of_mem _ (inA_5 _ (List.mem_of_getElem? (i := 5) rfl)))
  have inX9 : ∀ w ∈ wsX90, w ∈ uX9_forget := fun w h => List.mem_cons_of_mem _ (inCX9 w h)
  have k2 := hts (.fieldLink RX9 28 "TwoEyes$Sums" "added" "Z") (List.mem_cons_of_mem _ (inA_5 _ (List.mem_of_getElem? (i := 6) rfl)))
  have k3 := hts (.fieldLink RX9 31 "TwoEyes$Sums" "way" "I") (List.mem_cons_of_mem _ (inA_5 _ (List.mem_of_getElem? (i := 7) rfl)))
  have hl := lv_entry ([.ref (ad 32)]) (n := 1) (Nat.le_of_ble_eq_true rfl)
  rw [lg_entry_eq]
  generalize (lg_sl ([.ref (ad 32)]) ++ List.replicate (1 - (lg_sl ([.ref (ad 32)])).length) Slot.unset).toArray = ls at hl ⊢
  have hl : lv_has ls 1 [(0, .ref (ad 32))] := hl
  refine lv_aload_n hx hb dX9_forget_0 rfl (lv_at hl 0 rfl) ?_
  refine lv_iconst (v := 0) hx hb dX9_forget_1 (by decide) ?_
  refine va_put (D := D) (ci := 9) (v := .int 0) (ty := .boolean) (C := RX9) (T := TX9) (N := 7) hx hb hts inX9 tyX9 tyX9_ok nmX9 hown hK hP (hD M) hS 32 (xW_32 cI cZ ad M) rfl 4 (by decide) k0 (fun _ h9 => h9) rfl (by decide +kernel) rfl rfl (Nat.le_of_ble_eq_true rfl) dX9_forget_2 (fun H locs hP _ hS => ?_)
  refine xP_32_4 hP (fun M2 eM2 hP => ?_)
  have h := h M2 eM2
  refine lv_aload_n hx hb dX9_forget_5 rfl (lv_at hl 0 rfl) ?_
  refine lv_iconst (v := 0) hx hb dX9_forget_6 (by decide) ?_
  refine va_put (D := D) (ci := 9) (v := .int 0) (ty := .boolean) (C := RX9) (T := TX9) (N := 7) hx hb hts inX9 tyX9 tyX9_ok nmX9 hown hK hP (hD M2) hS 32 (xW_32 cI cZ ad M2) rfl 5 (by decide) k2 (fun _ h9 => h9) rfl (by decide +kernel) rfl rfl (Nat.le_of_ble_eq_true rfl) dX9_forget_7 (fun H locs hP _ hS => ?_)
  refine xP_32_5 hP (fun M7 eM7 hP => ?_)
  have h := h M7 eM7
  refine lv_aload_n hx hb dX9_forget_10 rfl (lv_at hl 0 rfl) ?_
  refine lv_bipush (v := (-4)) hx hb dX9_forget_11 (by decide) ?_
  refine va_put (D := D) (ci := 9) (v := .int (-4)) (ty := .int) (C := RX9) (T := TX9) (N := 7) hx hb hts inX9 tyX9 tyX9_ok nmX9 hown hK hP (hD M7) hS 32 (xW_32 cI cZ ad M7) rfl 6 (by decide) k3 (fun _ h9 => h9) rfl (by decide +kernel) rfl rfl (Nat.le_of_ble_eq_true rfl) dX9_forget_13 (fun H locs hP _ hS => ?_)
  refine xP_32_6 hP (fun M13 eM13 hP => ?_)
  have h := h M13 eM13
  exact W.vret hx hb hr (fun t ht hW => ⟨⟨M13, rfl, h, xAt_of ht hP⟩, hS.F ht⟩) hS.2.2 dX9_forget_16
set_option maxHeartbeats 4000000 in
set_option maxRecDepth 100000 in
theorem kX10_forgetAll (l : Launch) (D : va_G) (cI cZ : ClassId) (ad : Nat → Nat) (zA zD zR : Nat) (hD : ∀ M : Mem, va_D (xA ad) (xW cI cZ ad M)) (M : Mem) (Q : Mem → Prop) (h : wX10_forgetAll M Q) : Met l yX10_forgetAll uX10_forgetAll ({ frames := 2, cells := 0, slots := 0, locals := 43 }) (va_Pc [.ref (ad 0)] (xPre D cI cZ ad zA zD zR M)) (va_Qv Q (xAt D cI cZ ad) (xA ad)) 0 0 (xA ad) := by
  refine Met.ofW (cc := cX10_forgetAll) (maxL := 1) (ret := none) (by decide) rfl ?_
  intro p e s m args below meth c s₁ B hml hv
  obtain ⟨rfl, hP, hK, hZ, hN⟩ := hv
  have hx := B.exec
  have hb := B.bytes
  have hr := B.returns
  have hts := atoms_spec (ws := uX10_forgetAll) B.pre
  have hown : s.vm.findClass RX10 = some m.cls := findClass_of_methodNamed B.named
  have hlocks := B.notSynchronized
  have hS : va_S (xA ad) s.heap s.heap [] := va_S.rf
  have k0 := hts (.fieldLink RX10 30 "TwoEyes" "costs" "LTwoEyes$Costs;") (List.mem_cons_of_mem _ (inA_1 _ (List.mem_of_getElem? (i := 23) rfl)))
  have inX10 : ∀ w ∈ wsX100, w ∈ uX10_forgetAll := fun w h => List.mem_cons_of_mem _ (inCX10 w h)
  have k2 := hts (.fieldLink RX10 280 "TwoEyes$Costs" "fresh" "Z") (List.mem_cons_of_mem _ (inA_8 _ (List.mem_of_getElem? (i := 12) rfl)))
  have inX1 : ∀ w ∈ wsX10, w ∈ uX10_forgetAll := fun w h => List.mem_cons_of_mem _ (inCX1 w h)
  have k4 := hts (.fieldLink RX10 37 "TwoEyes" "paths" "LTwoEyes$Paths;") (List.mem_cons_of_mem _ (inA_2 _ (List.mem_of_getElem? (i := 3) rfl)))
  have k5 := hts (.fieldLink RX10 44 "TwoEyes" "sums" "LTwoEyes$Sums;") (List.mem_cons_of_mem _ (inA_2 _ (List.mem_of_getElem? (i := 7) rfl)))
  have k6 := hts (.fieldLink RX10 51 "TwoEyes" "depths" "LTwoEyes$Depths;") (List.mem_cons_of_mem _ (inA_2 _ (List.mem_of_getElem? (i := 11) rfl)))
  have k7 := hts (.fieldLink RX10 287 "TwoEyes$Depths" "fresh" "Z") (List.mem_cons_of_mem _ (inA_8 _ (List.mem_of_getElem? (i := 13) rfl)))
  have inX2 : ∀ w ∈ wsX20, w ∈ uX10_forgetAll := fun w h => List.mem_cons_of_mem _ (inCX2 w h)
  have k9 := hts (.fieldLink RX10 58 "TwoEyes" "segments" "LTwoEyes$Segments;") (List.mem_cons_of_mem _ (inA_2 _ (List.mem_of_getElem? (i := 15) rfl)))
  have k10 := hts (.fieldLink RX10 288 "TwoEyes$Segments" "fresh" "Z") (List.mem_cons_of_mem _ (inA_8 _ (List.mem_of_getElem? (i := 14) rfl)))
  have inX7 : ∀ w ∈ wsX70, w ∈ uX10_forgetAll := fun w h => List.mem_cons_of_mem _ (inCX7 w h)
  have k12 := hts (.fieldLink RX10 65 "TwoEyes" "planes" "LTwoEyes$Planes;") (List.mem_cons_of_mem _ (inA_2 _ (List.mem_of_getElem? (i := 19) rfl)))
  have k13 := hts (.fieldLink RX10 289 "TwoEyes$Planes" "anchor" "I") (List.mem_cons_of_mem _ (inA_8 _ (List.mem_of_getElem? (i := 15) rfl)))
  have inX5 : ∀ w ∈ wsX50, w ∈ uX10_forgetAll := fun w h => List.mem_cons_of_mem _ (inCX5 w h)
  have hl := lv_entry ([.ref (ad 0)]) (n := 1) (Nat.le_of_ble_eq_true rfl)
  rw [lg_entry_eq]
  generalize (lg_sl ([.ref (ad 0)]) ++ List.replicate (1 - (lg_sl ([.ref (ad 0)])).length) Slot.unset).toArray = ls at hl ⊢
  have hl : lv_has ls 1 [(0, .ref (ad 0))] := hl
  refine lv_aload_n hx hb dX10_forgetAll_0 rfl (lv_at hl 0 rfl) ?_
  refine va_get (D := D) (ci := 10) (v := .ref (ad 18)) (C := RX10) (T := TX10) (N := 11) hx hb hts inX10 hown hK hP 0 (xW_0 cI cZ ad M) rfl 4 (by decide) k0 (fun _ h9 => h9) rfl dX10_forgetAll_1 ?_
  refine lv_iconst (v := 0) hx hb dX10_forgetAll_4 (by decide) ?_
  refine va_put (D := D) (ci := 1) (v := .int 0) (ty := .boolean) (C := RX1) (T := TX1) (N := 4) hx hb hts inX1 tyX1 tyX1_ok nmX1 hown hK hP (hD M) hS 18 (xW_18 cI cZ ad M) rfl 3 (by decide) k2 (fun _ h9 => h9) rfl (by decide +kernel) rfl rfl (Nat.le_of_ble_eq_true rfl) dX10_forgetAll_5 (fun H locs hP _ hS => ?_)
  refine xP_18_3 hP (fun M5 eM5 hP => ?_)
  have h := h M5 eM5
  refine lv_aload_n hx hb dX10_forgetAll_8 rfl (lv_at hl 0 rfl) ?_
  refine va_get (D := D) (ci := 10) (v := .ref (ad 28)) (C := RX10) (T := TX10) (N := 11) hx hb hts inX10 hown hK hP 0 (xW_0 cI cZ ad M5) rfl 5 (by decide) k4 (fun _ h9 => h9) rfl dX10_forgetAll_9 ?_
  refine x_callVv (As := []) (rest := []) ⟨hx, hb, hml, hown, hts⟩ (kX3_forget l D cI cZ ad zA zD zR hD M5 _ h) (cwV 0 hts (gdV uS (inA_8 _ (List.mem_of_getElem? (i := 16) rfl)) vX3_forget) rfl rfl rfl (by decide +kernel) ⟨Nat.le_of_ble_eq_true rfl, Nat.le_of_ble_eq_true rfl⟩) (va_recv hK hP (ci := 3) (q0 := 28) rfl (xW_28 cI cZ ad M5)) hP hK hZ hN hS hl.1 rfl rfl (Nat.le_of_ble_eq_true rfl) dX10_forgetAll_12 (fun M12 H locs h hP hS => ?_)
  refine lv_aload_n hx hb dX10_forgetAll_15 rfl (lv_at hl 0 rfl) ?_
  refine va_get (D := D) (ci := 10) (v := .ref (ad 32)) (C := RX10) (T := TX10) (N := 11) hx hb hts inX10 hown hK hP 0 (xW_0 cI cZ ad M12) rfl 6 (by decide) k5 (fun _ h9 => h9) rfl dX10_forgetAll_16 ?_
  refine x_callVv (As := []) (rest := []) ⟨hx, hb, hml, hown, hts⟩ (kX9_forget l D cI cZ ad zA zD zR hD M12 _ h) (cwV 0 hts (gdV uS (inA_8 _ (List.mem_of_getElem? (i := 20) rfl)) vX9_forget) rfl rfl rfl (by decide +kernel) ⟨Nat.le_of_ble_eq_true rfl, Nat.le_of_ble_eq_true rfl⟩) (va_recv hK hP (ci := 9) (q0 := 32) rfl (xW_32 cI cZ ad M12)) hP hK hZ hN hS hl.1 rfl rfl (Nat.le_of_ble_eq_true rfl) dX10_forgetAll_19 (fun M19 H locs h hP hS => ?_)
  refine lv_aload_n hx hb dX10_forgetAll_22 rfl (lv_at hl 0 rfl) ?_
  refine va_get (D := D) (ci := 10) (v := .ref (ad 37)) (C := RX10) (T := TX10) (N := 11) hx hb hts inX10 hown hK hP 0 (xW_0 cI cZ ad M19) rfl 7 (by decide) k6 (fun _ h9 => h9) rfl dX10_forgetAll_23 ?_
  refine lv_iconst (v := 0) hx hb dX10_forgetAll_26 (by decide) ?_
  refine va_put (D := D) (ci := 2) (v := .int 0) (ty := .boolean) (C := RX2) (T := TX2) (N := 2) hx hb hts inX2 tyX2 tyX2_ok nmX2 hown hK hP (hD M19) hS 37 (xW_37 cI cZ ad M19) rfl 1 (by decide) k7 (fun _ h9 => h9) rfl (by decide +kernel) rfl rfl (Nat.le_of_ble_eq_true rfl) dX10_forgetAll_27 (fun H locs hP _ hS => ?_)
  refine xP_37_1 hP (fun M27 eM27 hP => ?_)
  have h := h M27 eM27
  refine lv_aload_n hx hb dX10_forgetAll_30 rfl (lv_at hl 0 rfl) ?_
  refine va_get (D := D) (ci := 10) (v := .ref (ad 39)) (C := RX10) (T := TX10) (N := 11) hx hb hts inX10 hown hK hP 0 (xW_0 cI cZ ad M27) rfl 8 (by decide) k9 (fun _ h9 => h9) rfl dX10_forgetAll_31 ?_
  refine lv_iconst (v := 0) hx hb dX10_forgetAll_34 (by decide) ?_
  refine va_put (D := D) (ci := 7) (v := .int 0) (ty := .boolean) (C := RX7) (T := TX7) (N := 2) hx hb hts inX7 tyX7 tyX7_ok nmX7 hown hK hP (hD M27) hS 39 (xW_39 cI cZ ad M27) rfl 1 (by decide) k10 (fun _ h9 => h9) rfl (by decide +kernel) rfl rfl (Nat.le_of_ble_eq_true rfl) dX10_forgetAll_35 (fun H locs hP _ hS => ?_)
  refine xP_39_1 hP (fun M35 eM35 hP => ?_)
  have h := h M35 eM35
  refine lv_aload_n hx hb dX10_forgetAll_38 rfl (lv_at hl 0 rfl) ?_
  refine va_get (D := D) (ci := 10) (v := .ref (ad 41)) (C := RX10) (T := TX10) (N := 11) hx hb hts inX10 hown hK hP 0 (xW_0 cI cZ ad M35) rfl 9 (by decide) k12 (fun _ h9 => h9) rfl dX10_forgetAll_39 ?_
  refine lv_bipush (v := (-4)) hx hb dX10_forgetAll_42 (by decide) ?_
  refine va_put (D := D) (ci := 5) (v := .int (-4)) (ty := .int) (C := RX5) (T := TX5) (N := 11) hx hb hts inX5 tyX5 tyX5_ok nmX5 hown hK hP (hD M35) hS 41 (xW_41 cI cZ ad M35) rfl 0 (by decide) k13 (fun _ h9 => h9) rfl (by decide +kernel) rfl rfl (Nat.le_of_ble_eq_true rfl) dX10_forgetAll_44 (fun H locs hP _ hS => ?_)
  refine xP_41_0 hP (fun M44 eM44 hP => ?_)
  have h := h M44 eM44
  exact W.vret hx hb hr (fun t ht hW => ⟨⟨M44, rfl, h, xAt_of ht hP⟩, hS.F ht⟩) hS.2.2 dX10_forgetAll_47
set_option maxHeartbeats 4000000 in
set_option maxRecDepth 100000 in
theorem kX10_size (l : Launch) (D : va_G) (cI cZ : ClassId) (ad : Nat → Nat) (zA zD zR : Nat) (hD : ∀ M : Mem, va_D (xA ad) (xW cI cZ ad M)) (M : Mem) (a1 a2 : Int32) (Q : Int32 → Mem → Prop) (h : wX10_size M a1 a2 Q) : Met l yX10_size uX10_size ({ frames := 3, cells := 0, slots := 0, locals := 66 }) (va_Pc [.ref (ad 0), .int a1, .int a2] (xPre D cI cZ ad zA zD zR M)) (va_Qi Q (xAt D cI cZ ad) (xA ad)) 0 0 (xA ad) := by
  refine Met.ofW (cc := cX10_size) (maxL := 3) (ret := (some .int)) (by decide) rfl ?_
  intro p e s m args below meth c s₁ B hml hv
  obtain ⟨rfl, hP, hK, hZ, hN⟩ := hv
  have hx := B.exec
  have hb := B.bytes
  have hr := B.returns
  have hts := atoms_spec (ws := uX10_size) B.pre
  have hown : s.vm.findClass RX10 = some m.cls := findClass_of_methodNamed B.named
  have hlocks := B.notSynchronized
  have hS : va_S (xA ad) s.heap s.heap [] := va_S.rf
  have k0 := hts (.fieldLink RX10 10 "TwoEyes" "scene" "LTwoEyes$Scene;") (List.mem_cons_of_mem _ (inA_1 _ (List.mem_of_getElem? (i := 15) rfl)))
  have inX10 : ∀ w ∈ wsX100, w ∈ uX10_size := fun w h => List.mem_cons_of_mem _ (inCX10 w h)
  have hl := lv_entry ([.ref (ad 0), .int a1, .int a2]) (n := 3) (Nat.le_of_ble_eq_true rfl)
  rw [lg_entry_eq]
  generalize (lg_sl ([.ref (ad 0), .int a1, .int a2]) ++ List.replicate (3 - (lg_sl ([.ref (ad 0), .int a1, .int a2])).length) Slot.unset).toArray = ls at hl ⊢
  have hl : lv_has ls 3 [(0, .ref (ad 0)), (1, .int a1), (2, .int a2)] := hl
  refine lv_iload_n hx hb dX10_size_0 rfl (lv_at hl 1 rfl) ?_
  refine lv_iconst (v := 1) hx hb dX10_size_1 (by decide) ?_
  refine lv_icmp_lt (tgt := 22) hx hb dX10_size_2 (by decide) (fun q2 => ?_) (fun q2 => ?_)
  · have h := h.1 q2
    refine lv_iconst (v := (-1)) hx hb dX10_size_22 (by decide) ?_
    exact W.iret (v := (-1)) hx hb hr (fun t ht hW => ⟨⟨(-1), M, rfl, h, xAt_of ht hP⟩, hS.F ht⟩) hS.2.2 dX10_size_23
  · have h := h.2 q2
    refine lv_iload_n hx hb dX10_size_5 rfl (lv_at hl 1 rfl) ?_
    refine lv_bipush (v := 20) hx hb dX10_size_6 (by decide) ?_
    refine lv_icmp_gt (tgt := 22) hx hb dX10_size_8 (by decide) (fun q8 => ?_) (fun q8 => ?_)
    · have h := h.1 q8
      refine lv_iconst (v := (-1)) hx hb dX10_size_22 (by decide) ?_
      exact W.iret (v := (-1)) hx hb hr (fun t ht hW => ⟨⟨(-1), M, rfl, h, xAt_of ht hP⟩, hS.F ht⟩) hS.2.2 dX10_size_23
    · have h := h.2 q8
      refine lv_iload_n hx hb dX10_size_11 rfl (lv_at hl 2 rfl) ?_
      refine lv_iconst (v := 1) hx hb dX10_size_12 (by decide) ?_
      refine lv_icmp_lt (tgt := 22) hx hb dX10_size_13 (by decide) (fun q13 => ?_) (fun q13 => ?_)
      · have h := h.1 q13
        refine lv_iconst (v := (-1)) hx hb dX10_size_22 (by decide) ?_
        exact W.iret (v := (-1)) hx hb hr (fun t ht hW => ⟨⟨(-1), M, rfl, h, xAt_of ht hP⟩, hS.F ht⟩) hS.2.2 dX10_size_23
      · have h := h.2 q13
        refine lv_iload_n hx hb dX10_size_16 rfl (lv_at hl 2 rfl) ?_
        refine lv_bipush (v := 10) hx hb dX10_size_17 (by decide) ?_
        refine lv_icmp_le (tgt := 24) hx hb dX10_size_19 (by decide) (fun q19 => ?_) (fun q19 => ?_)
        · have h := h.1 q19
          refine lv_aload_n hx hb dX10_size_24 rfl (lv_at hl 0 rfl) ?_
          refine va_get (D := D) (ci := 10) (v := .ref (ad 1)) (C := RX10) (T := TX10) (N := 11) hx hb hts inX10 hown hK hP 0 (xW_0 cI cZ ad M) rfl 0 (by decide) k0 (fun _ h9 => h9) rfl dX10_size_25 ?_
          refine lv_iload_n hx hb dX10_size_28 rfl (lv_at hl 1 rfl) ?_
          refine lv_iload_n hx hb dX10_size_29 rfl (lv_at hl 2 rfl) ?_
          refine x_callVv (As := [.int a1, .int a2]) (rest := []) ⟨hx, hb, hml, hown, hts⟩ (kX6_renew l D cI cZ ad zA zD zR hD M a1 a2 _ h) (cwV 2 hts (gdV uS (inA_7 _ (List.mem_of_getElem? (i := 23) rfl)) vX6_renew) rfl rfl rfl (by decide +kernel) ⟨Nat.le_of_ble_eq_true rfl, Nat.le_of_ble_eq_true rfl⟩) (va_recv hK hP (ci := 6) (q0 := 1) rfl (xW_1 cI cZ ad M)) hP hK hZ hN hS hl.1 rfl rfl (Nat.le_of_ble_eq_true rfl) dX10_size_30 (fun M30 H locs h hP hS => ?_)
          refine lv_aload_n hx hb dX10_size_33 rfl (lv_at hl 0 rfl) ?_
          refine x_callVv (As := []) (rest := []) ⟨hx, hb, hml, hown, hts⟩ (kX10_forgetAll l D cI cZ ad zA zD zR hD M30 _ h) (cwV 0 hts (gdV uS (inA_8 _ (List.mem_of_getElem? (i := 8) rfl)) vX10_forgetAll) rfl rfl rfl (by decide +kernel) ⟨Nat.le_of_ble_eq_true rfl, Nat.le_of_ble_eq_true rfl⟩) (va_recv hK hP (ci := 10) (q0 := 0) rfl (xW_0 cI cZ ad M30)) hP hK hZ hN hS hl.1 rfl rfl (Nat.le_of_ble_eq_true rfl) dX10_size_34 (fun M34 H locs h hP hS => ?_)
          refine lv_iload_n hx hb dX10_size_37 rfl (lv_at hl 1 rfl) ?_
          refine lv_iload_n hx hb dX10_size_38 rfl (lv_at hl 2 rfl) ?_
          refine lv_imul hx hb dX10_size_39 ?_
          exact W.iret (v := (a1 * a2)) hx hb hr (fun t ht hW => ⟨⟨(a1 * a2), M34, rfl, h, xAt_of ht hP⟩, hS.F ht⟩) hS.2.2 dX10_size_40
        · have h := h.2 q19
          refine lv_iconst (v := (-1)) hx hb dX10_size_22 (by decide) ?_
          exact W.iret (v := (-1)) hx hb hr (fun t ht hW => ⟨⟨(-1), M, rfl, h, xAt_of ht hP⟩, hS.F ht⟩) hS.2.2 dX10_size_23
set_option maxHeartbeats 4000000 in
set_option maxRecDepth 100000 in
theorem kX6_hasSquare (l : Launch) (D : va_G) (cI cZ : ClassId) (ad : Nat → Nat) (zA zD zR : Nat) (hD : ∀ M : Mem, va_D (xA ad) (xW cI cZ ad M)) (M : Mem) (a1 a2 : Int32) (Q : Int32 → Mem → Prop) (h : wX6_hasSquare M a1 a2 Q) : Met l yX6_hasSquare uX6_hasSquare ({ frames := 0, cells := 0, slots := 0, locals := 0 }) (va_Pc [.ref (ad 1), .int a1, .int a2] (xPre D cI cZ ad zA zD zR M)) (va_Qi Q (xAt D cI cZ ad) (xA ad)) 0 0 (xA ad) := by
  refine Met.ofW (cc := cX6_hasSquare) (maxL := 3) (ret := (some .boolean)) (by decide) rfl ?_
  intro p e s m args below meth c s₁ B hml hv
  obtain ⟨rfl, hP, hK, hZ, hN⟩ := hv
  have hx := B.exec
  have hb := B.bytes
  have hr := B.returns
  have hts := atoms_spec (ws := uX6_hasSquare) B.pre
  have hown : s.vm.findClass RX6 = some m.cls := findClass_of_methodNamed B.named
  have hlocks := B.notSynchronized
  have hS : va_S (xA ad) s.heap s.heap [] := va_S.rf
  have k0 := hts (.fieldLink RX6 9 "TwoEyes$Scene" "width" "I") (List.mem_cons_of_mem _ (inA_3 _ (List.mem_of_getElem? (i := 4) rfl)))
  have inX6 : ∀ w ∈ wsX60, w ∈ uX6_hasSquare := fun w h => List.mem_cons_of_mem _ (inCX6 w h)
  have k2 := hts (.fieldLink RX6 15 "TwoEyes$Scene" "height" "I") (List.mem_cons_of_mem _ (inA_3 _ (List.mem_of_getElem? (i := 5) rfl)))
  have hl := lv_entry ([.ref (ad 1), .int a1, .int a2]) (n := 3) (Nat.le_of_ble_eq_true rfl)
  rw [lg_entry_eq]
  generalize (lg_sl ([.ref (ad 1), .int a1, .int a2]) ++ List.replicate (3 - (lg_sl ([.ref (ad 1), .int a1, .int a2])).length) Slot.unset).toArray = ls at hl ⊢
  have hl : lv_has ls 3 [(0, .ref (ad 1)), (1, .int a1), (2, .int a2)] := hl
  refine lv_iload_n hx hb dX6_hasSquare_0 rfl (lv_at hl 1 rfl) ?_
  refine lv_if_lt (tgt := 28) hx hb dX6_hasSquare_1 (by decide) (fun q1 => ?_) (fun q1 => ?_)
  · have h := h.1 q1
    refine lv_iconst (v := 0) hx hb dX6_hasSquare_28 (by decide) ?_
    exact W.zret (v := 0) hx hb hr rfl (fun t ht hW => ⟨⟨0, M, rfl, h, xAt_of ht hP⟩, hS.F ht⟩) hS.2.2 dX6_hasSquare_29
  · have h := h.2 q1
    refine lv_iload_n hx hb dX6_hasSquare_4 rfl (lv_at hl 1 rfl) ?_
    refine lv_aload_n hx hb dX6_hasSquare_5 rfl (lv_at hl 0 rfl) ?_
    refine va_get (D := D) (ci := 6) (v := .int (M 1 0)) (C := RX6) (T := TX6) (N := 5) hx hb hts inX6 hown hK hP 1 (xW_1 cI cZ ad M) rfl 0 (by decide) k0 (fun _ h9 => h9) rfl dX6_hasSquare_6 ?_
    refine lv_icmp_ge (tgt := 28) hx hb dX6_hasSquare_9 (by decide) (fun q9 => ?_) (fun q9 => ?_)
    · have h := h.1 q9
      refine lv_iconst (v := 0) hx hb dX6_hasSquare_28 (by decide) ?_
      exact W.zret (v := 0) hx hb hr rfl (fun t ht hW => ⟨⟨0, M, rfl, h, xAt_of ht hP⟩, hS.F ht⟩) hS.2.2 dX6_hasSquare_29
    · have h := h.2 q9
      refine lv_iload_n hx hb dX6_hasSquare_12 rfl (lv_at hl 2 rfl) ?_
      refine lv_if_lt (tgt := 28) hx hb dX6_hasSquare_13 (by decide) (fun q13 => ?_) (fun q13 => ?_)
      · have h := h.1 q13
        refine lv_iconst (v := 0) hx hb dX6_hasSquare_28 (by decide) ?_
        exact W.zret (v := 0) hx hb hr rfl (fun t ht hW => ⟨⟨0, M, rfl, h, xAt_of ht hP⟩, hS.F ht⟩) hS.2.2 dX6_hasSquare_29
      · have h := h.2 q13
        refine lv_iload_n hx hb dX6_hasSquare_16 rfl (lv_at hl 2 rfl) ?_
        refine lv_aload_n hx hb dX6_hasSquare_17 rfl (lv_at hl 0 rfl) ?_
        refine va_get (D := D) (ci := 6) (v := .int (M 1 1)) (C := RX6) (T := TX6) (N := 5) hx hb hts inX6 hown hK hP 1 (xW_1 cI cZ ad M) rfl 1 (by decide) k2 (fun _ h9 => h9) rfl dX6_hasSquare_18 ?_
        refine lv_icmp_ge (tgt := 28) hx hb dX6_hasSquare_21 (by decide) (fun q21 => ?_) (fun q21 => ?_)
        · have h := h.1 q21
          refine lv_iconst (v := 0) hx hb dX6_hasSquare_28 (by decide) ?_
          exact W.zret (v := 0) hx hb hr rfl (fun t ht hW => ⟨⟨0, M, rfl, h, xAt_of ht hP⟩, hS.F ht⟩) hS.2.2 dX6_hasSquare_29
        · have h := h.2 q21
          refine lv_iconst (v := 1) hx hb dX6_hasSquare_24 (by decide) ?_
          refine lv_goto (tgt := 29) hx hb dX6_hasSquare_25 (by decide) ?_
          exact W.zret (v := 1) hx hb hr rfl (fun t ht hW => ⟨⟨1, M, rfl, h, xAt_of ht hP⟩, hS.F ht⟩) hS.2.2 dX6_hasSquare_29
set_option maxHeartbeats 4000000 in
set_option maxRecDepth 100000 in
theorem kX6_hasPicture (l : Launch) (D : va_G) (cI cZ : ClassId) (ad : Nat → Nat) (zA zD zR : Nat) (hD : ∀ M : Mem, va_D (xA ad) (xW cI cZ ad M)) (M : Mem) (a1 : Int32) (Q : Int32 → Mem → Prop) (h : wX6_hasPicture M a1 Q) : Met l yX6_hasPicture uX6_hasPicture ({ frames := 0, cells := 0, slots := 0, locals := 0 }) (va_Pc [.ref (ad 1), .int a1] (xPre D cI cZ ad zA zD zR M)) (va_Qi Q (xAt D cI cZ ad) (xA ad)) 0 0 (xA ad) := by
  refine Met.ofW (cc := cX6_hasPicture) (maxL := 2) (ret := (some .boolean)) (by decide) rfl ?_
  intro p e s m args below meth c s₁ B hml hv
  obtain ⟨rfl, hP, hK, hZ, hN⟩ := hv
  have hx := B.exec
  have hb := B.bytes
  have hr := B.returns
  have hts := atoms_spec (ws := uX6_hasPicture) B.pre
  have hown : s.vm.findClass RX6 = some m.cls := findClass_of_methodNamed B.named
  have hlocks := B.notSynchronized
  have hS : va_S (xA ad) s.heap s.heap [] := va_S.rf
  have hl := lv_entry ([.ref (ad 1), .int a1]) (n := 2) (Nat.le_of_ble_eq_true rfl)
  rw [lg_entry_eq]
  generalize (lg_sl ([.ref (ad 1), .int a1]) ++ List.replicate (2 - (lg_sl ([.ref (ad 1), .int a1])).length) Slot.unset).toArray = ls at hl ⊢
  have hl : lv_has ls 2 [(0, .ref (ad 1)), (1, .int a1)] := hl
  refine lv_iload_n hx hb dX6_hasPicture_0 rfl (lv_at hl 1 rfl) ?_
  refine lv_if_eq (tgt := 9) hx hb dX6_hasPicture_1 (by decide) (fun q1 => ?_) (fun q1 => ?_)
  · have h := h.1 q1
    refine lv_iconst (v := 1) hx hb dX6_hasPicture_9 (by decide) ?_
    refine lv_goto (tgt := 14) hx hb dX6_hasPicture_10 (by decide) ?_
    exact W.zret (v := 1) hx hb hr rfl (fun t ht hW => ⟨⟨1, M, rfl, h, xAt_of ht hP⟩, hS.F ht⟩) hS.2.2 dX6_hasPicture_14
  · have h := h.2 q1
    refine lv_iload_n hx hb dX6_hasPicture_4 rfl (lv_at hl 1 rfl) ?_
    refine lv_iconst (v := 1) hx hb dX6_hasPicture_5 (by decide) ?_
    refine lv_icmp_ne (tgt := 13) hx hb dX6_hasPicture_6 (by decide) (fun q6 => ?_) (fun q6 => ?_)
    · have h := h.1 q6
      refine lv_iconst (v := 0) hx hb dX6_hasPicture_13 (by decide) ?_
      exact W.zret (v := 0) hx hb hr rfl (fun t ht hW => ⟨⟨0, M, rfl, h, xAt_of ht hP⟩, hS.F ht⟩) hS.2.2 dX6_hasPicture_14
    · have h := h.2 q6
      refine lv_iconst (v := 1) hx hb dX6_hasPicture_9 (by decide) ?_
      refine lv_goto (tgt := 14) hx hb dX6_hasPicture_10 (by decide) ?_
      exact W.zret (v := 1) hx hb hr rfl (fun t ht hW => ⟨⟨1, M, rfl, h, xAt_of ht hP⟩, hS.F ht⟩) hS.2.2 dX6_hasPicture_14
set_option maxHeartbeats 4000000 in
set_option maxRecDepth 100000 in
theorem kX6_hasHeight (l : Launch) (D : va_G) (cI cZ : ClassId) (ad : Nat → Nat) (zA zD zR : Nat) (hD : ∀ M : Mem, va_D (xA ad) (xW cI cZ ad M)) (M : Mem) (a1 : Int32) (Q : Int32 → Mem → Prop) (h : wX6_hasHeight M a1 Q) : Met l yX6_hasHeight uX6_hasHeight ({ frames := 0, cells := 0, slots := 0, locals := 0 }) (va_Pc [.ref (ad 1), .int a1] (xPre D cI cZ ad zA zD zR M)) (va_Qi Q (xAt D cI cZ ad) (xA ad)) 0 0 (xA ad) := by
  refine Met.ofW (cc := cX6_hasHeight) (maxL := 2) (ret := (some .boolean)) (by decide) rfl ?_
  intro p e s m args below meth c s₁ B hml hv
  obtain ⟨rfl, hP, hK, hZ, hN⟩ := hv
  have hx := B.exec
  have hb := B.bytes
  have hr := B.returns
  have hts := atoms_spec (ws := uX6_hasHeight) B.pre
  have hown : s.vm.findClass RX6 = some m.cls := findClass_of_methodNamed B.named
  have hlocks := B.notSynchronized
  have hS : va_S (xA ad) s.heap s.heap [] := va_S.rf
  have k0 := hts (.fieldLink RX6 15 "TwoEyes$Scene" "height" "I") (List.mem_cons_of_mem _ (inA_3 _ (List.mem_of_getElem? (i := 5) rfl)))
  have inX6 : ∀ w ∈ wsX60, w ∈ uX6_hasHeight := fun w h => List.mem_cons_of_mem _ (inCX6 w h)
  have hl := lv_entry ([.ref (ad 1), .int a1]) (n := 2) (Nat.le_of_ble_eq_true rfl)
  rw [lg_entry_eq]
  generalize (lg_sl ([.ref (ad 1), .int a1]) ++ List.replicate (2 - (lg_sl ([.ref (ad 1), .int a1])).length) Slot.unset).toArray = ls at hl ⊢
  have hl : lv_has ls 2 [(0, .ref (ad 1)), (1, .int a1)] := hl
  refine lv_iload_n hx hb dX6_hasHeight_0 rfl (lv_at hl 1 rfl) ?_
  refine lv_if_lt (tgt := 16) hx hb dX6_hasHeight_1 (by decide) (fun q1 => ?_) (fun q1 => ?_)
  · have h := h.1 q1
    refine lv_iconst (v := 0) hx hb dX6_hasHeight_16 (by decide) ?_
    exact W.zret (v := 0) hx hb hr rfl (fun t ht hW => ⟨⟨0, M, rfl, h, xAt_of ht hP⟩, hS.F ht⟩) hS.2.2 dX6_hasHeight_17
  · have h := h.2 q1
    refine lv_iload_n hx hb dX6_hasHeight_4 rfl (lv_at hl 1 rfl) ?_
    refine lv_aload_n hx hb dX6_hasHeight_5 rfl (lv_at hl 0 rfl) ?_
    refine va_get (D := D) (ci := 6) (v := .int (M 1 1)) (C := RX6) (T := TX6) (N := 5) hx hb hts inX6 hown hK hP 1 (xW_1 cI cZ ad M) rfl 1 (by decide) k0 (fun _ h9 => h9) rfl dX6_hasHeight_6 ?_
    refine lv_icmp_ge (tgt := 16) hx hb dX6_hasHeight_9 (by decide) (fun q9 => ?_) (fun q9 => ?_)
    · have h := h.1 q9
      refine lv_iconst (v := 0) hx hb dX6_hasHeight_16 (by decide) ?_
      exact W.zret (v := 0) hx hb hr rfl (fun t ht hW => ⟨⟨0, M, rfl, h, xAt_of ht hP⟩, hS.F ht⟩) hS.2.2 dX6_hasHeight_17
    · have h := h.2 q9
      refine lv_iconst (v := 1) hx hb dX6_hasHeight_12 (by decide) ?_
      refine lv_goto (tgt := 17) hx hb dX6_hasHeight_13 (by decide) ?_
      exact W.zret (v := 1) hx hb hr rfl (fun t ht hW => ⟨⟨1, M, rfl, h, xAt_of ht hP⟩, hS.F ht⟩) hS.2.2 dX6_hasHeight_17
set_option maxHeartbeats 4000000 in
set_option maxRecDepth 100000 in
theorem kX6_hasRow (l : Launch) (D : va_G) (cI cZ : ClassId) (ad : Nat → Nat) (zA zD zR : Nat) (hD : ∀ M : Mem, va_D (xA ad) (xW cI cZ ad M)) (M : Mem) (a1 a2 : Int32) (Q : Int32 → Mem → Prop) (h : wX6_hasRow M a1 a2 Q) : Met l yX6_hasRow uX6_hasRow ({ frames := 1, cells := 0, slots := 0, locals := 21 }) (va_Pc [.ref (ad 1), .int a1, .int a2] (xPre D cI cZ ad zA zD zR M)) (va_Qi Q (xAt D cI cZ ad) (xA ad)) 0 0 (xA ad) := by
  refine Met.ofW (cc := cX6_hasRow) (maxL := 3) (ret := (some .boolean)) (by decide) rfl ?_
  intro p e s m args below meth c s₁ B hml hv
  obtain ⟨rfl, hP, hK, hZ, hN⟩ := hv
  have hx := B.exec
  have hb := B.bytes
  have hr := B.returns
  have hts := atoms_spec (ws := uX6_hasRow) B.pre
  have hown : s.vm.findClass RX6 = some m.cls := findClass_of_methodNamed B.named
  have hlocks := B.notSynchronized
  have hS : va_S (xA ad) s.heap s.heap [] := va_S.rf
  have hl := lv_entry ([.ref (ad 1), .int a1, .int a2]) (n := 3) (Nat.le_of_ble_eq_true rfl)
  rw [lg_entry_eq]
  generalize (lg_sl ([.ref (ad 1), .int a1, .int a2]) ++ List.replicate (3 - (lg_sl ([.ref (ad 1), .int a1, .int a2])).length) Slot.unset).toArray = ls at hl ⊢
  have hl : lv_has ls 3 [(0, .ref (ad 1)), (1, .int a1), (2, .int a2)] := hl
  refine lv_aload_n hx hb dX6_hasRow_0 rfl (lv_at hl 0 rfl) ?_
  refine lv_iload_n hx hb dX6_hasRow_1 rfl (lv_at hl 1 rfl) ?_
  refine x_callVi (As := [.int a1]) (rest := []) ⟨hx, hb, hml, hown, hts⟩ (kX6_hasPicture l D cI cZ ad zA zD zR hD M a1 _ h) (cwV 1 hts (gdV uS (inA_9 _ (List.mem_of_getElem? (i := 21) rfl)) vX6_hasPicture) rfl rfl rfl (by decide +kernel) ⟨Nat.le_of_ble_eq_true rfl, Nat.le_of_ble_eq_true rfl⟩) (va_recv hK hP (ci := 6) (q0 := 1) rfl (xW_1 cI cZ ad M)) hP hK hZ hN hS hl.1 rfl rfl (Nat.le_of_ble_eq_true rfl) dX6_hasRow_2 (fun r2 M2 H locs h hP hS => ?_)
  refine lv_if_eq (tgt := 20) hx hb dX6_hasRow_5 (by decide) (fun q5 => ?_) (fun q5 => ?_)
  · have h := h.1 q5
    refine lv_iconst (v := 0) hx hb dX6_hasRow_20 (by decide) ?_
    exact W.zret (v := 0) hx hb hr rfl (fun t ht hW => ⟨⟨0, M2, rfl, h, xAt_of ht hP⟩, hS.F ht⟩) hS.2.2 dX6_hasRow_21
  · have h := h.2 q5
    refine lv_aload_n hx hb dX6_hasRow_8 rfl (lv_at hl 0 rfl) ?_
    refine lv_iload_n hx hb dX6_hasRow_9 rfl (lv_at hl 2 rfl) ?_
    refine x_callVi (As := [.int a2]) (rest := []) ⟨hx, hb, hml, hown, hts⟩ (kX6_hasHeight l D cI cZ ad zA zD zR hD M2 a2 _ h) (cwV 1 hts (gdV uS (inA_10 _ (List.mem_of_getElem? (i := 1) rfl)) vX6_hasHeight) rfl rfl rfl (by decide +kernel) ⟨Nat.le_of_ble_eq_true rfl, Nat.le_of_ble_eq_true rfl⟩) (va_recv hK hP (ci := 6) (q0 := 1) rfl (xW_1 cI cZ ad M2)) hP hK hZ hN hS hl.1 rfl rfl (Nat.le_of_ble_eq_true rfl) dX6_hasRow_10 (fun r10 M10 H locs h hP hS => ?_)
    refine lv_if_eq (tgt := 20) hx hb dX6_hasRow_13 (by decide) (fun q13 => ?_) (fun q13 => ?_)
    · have h := h.1 q13
      refine lv_iconst (v := 0) hx hb dX6_hasRow_20 (by decide) ?_
      exact W.zret (v := 0) hx hb hr rfl (fun t ht hW => ⟨⟨0, M10, rfl, h, xAt_of ht hP⟩, hS.F ht⟩) hS.2.2 dX6_hasRow_21
    · have h := h.2 q13
      refine lv_iconst (v := 1) hx hb dX6_hasRow_16 (by decide) ?_
      refine lv_goto (tgt := 21) hx hb dX6_hasRow_17 (by decide) ?_
      exact W.zret (v := 1) hx hb hr rfl (fun t ht hW => ⟨⟨1, M10, rfl, h, xAt_of ht hP⟩, hS.F ht⟩) hS.2.2 dX6_hasRow_21
abbrev GX6_refusalToWrite (p : Program) (l : Launch) (e : Env) (s : State) (m : MethodId) (below : List Frame) (meth : Method) (c : Code) (D : va_G) (cI cZ : ClassId) (ad : Nat → Nat) (a1 a2 a3 : Int32) (Q : Int32 → Mem → Prop) (H : Heap) (locs : List Loc) (g : JFrame) : Prop := W p l e (headSpec uX6_refusalToWrite { frames := 2, cells := 0, slots := 0, locals := 43 }).room s m ([.ref (ad 1), .int a1, .int a2, .int a3] : List Value).toArray below meth c H locs 0 0 (MQ below (va_Qi Q (xAt D cI cZ ad) (xA ad)) ([.ref (ad 1), .int a1, .int a2, .int a3] : List Value).toArray s 0 0 (xA ad)) g
set_option maxHeartbeats 4000000 in
set_option maxRecDepth 100000 in
theorem kX6_refusalToWrite (l : Launch) (D : va_G) (cI cZ : ClassId) (ad : Nat → Nat) (zA zD zR : Nat) (hD : ∀ M : Mem, va_D (xA ad) (xW cI cZ ad M)) (M : Mem) (a1 a2 a3 : Int32) (Q : Int32 → Mem → Prop) (h : wX6_refusalToWrite M a1 a2 a3 Q) : Met l yX6_refusalToWrite uX6_refusalToWrite ({ frames := 2, cells := 0, slots := 0, locals := 43 }) (va_Pc [.ref (ad 1), .int a1, .int a2, .int a3] (xPre D cI cZ ad zA zD zR M)) (va_Qi Q (xAt D cI cZ ad) (xA ad)) 0 0 (xA ad) := by
  refine Met.ofW (cc := cX6_refusalToWrite) (maxL := 4) (ret := (some .int)) (by decide) rfl ?_
  intro p e s m args below meth c s₁ B hml hv
  obtain ⟨rfl, hP, hK, hZ, hN⟩ := hv
  have hx := B.exec
  have hb := B.bytes
  have hr := B.returns
  have hts := atoms_spec (ws := uX6_refusalToWrite) B.pre
  have hown : s.vm.findClass RX6 = some m.cls := findClass_of_methodNamed B.named
  have hlocks := B.notSynchronized
  have hS : va_S (xA ad) s.heap s.heap [] := va_S.rf
  have k0 := hts (.fieldLink RX6 58 "TwoEyes$Picture" "missing" "[Z") (List.mem_cons_of_mem _ (inA_9 _ (List.mem_of_getElem? (i := 16) rfl)))
  have inX4 : ∀ w ∈ wsX40, w ∈ uX6_refusalToWrite := fun w h => List.mem_cons_of_mem _ (inCX4 w h)
  have J21 : ∀ (x2 x3 t0 : Int32) (M : Mem) (H : Heap) (locs : List Loc) (ls : Array Slot), lv_has ls 4 [(0, .ref (ad 1)), (2, .int x2), (3, .int x3)] → va_P D vwCl (xW cI cZ ad M) H → va_S (xA ad) s.heap H locs → wX6_refusalToWrite_J21 Q x2 x3 t0 M → GX6_refusalToWrite p l e s m below meth c D cI cZ ad a1 a2 a3 Q H locs (F0 m 21 ls [.int t0]) := by
    intro x2 x3 t0 M H locs ls hl hP hS h
    refine lv_if_eq (tgt := 27) hx hb dX6_refusalToWrite_21 (by decide) (fun q21 => ?_) (fun q21 => ?_)
    · have h := h.1 q21
      refine lv_aload_n hx hb dX6_refusalToWrite_27 rfl (lv_at hl 0 rfl) ?_
      refine lv_iload_n hx hb dX6_refusalToWrite_28 rfl (lv_at hl 1 rfl) ?_
      refine lv_iload_n hx hb dX6_refusalToWrite_29 rfl (lv_at hl 2 rfl) ?_
      refine x_callVi (As := [.int x2, .int x3]) (rest := []) ⟨hx, hb, hml, hown, hts⟩ (kX6_hasSquare l D cI cZ ad zA zD zR hD M x2 x3 _ h) (cwV 2 hts (gdV uS (inA_10 _ (List.mem_of_getElem? (i := 9) rfl)) vX6_hasSquare) rfl rfl rfl (by decide +kernel) ⟨Nat.le_of_ble_eq_true rfl, Nat.le_of_ble_eq_true rfl⟩) (va_recv hK hP (ci := 6) (q0 := 1) rfl (xW_1 cI cZ ad M)) hP hK hZ hN hS hl.1 rfl rfl (Nat.le_of_ble_eq_true rfl) dX6_refusalToWrite_30 (fun r30 M30 H locs h hP hS => ?_)
      refine lv_if_eq (tgt := 40) hx hb dX6_refusalToWrite_33 (by decide) (fun q33 => ?_) (fun q33 => ?_)
      · have h := h.1 q33
        refine lv_iconst (v := (-1)) hx hb dX6_refusalToWrite_40 (by decide) ?_
        exact W.iret (v := (-1)) hx hb hr (fun t ht hW => ⟨⟨(-1), M30, rfl, h, xAt_of ht hP⟩, hS.F ht⟩) hS.2.2 dX6_refusalToWrite_41
      · have h := h.2 q33
        refine lv_iconst (v := 0) hx hb dX6_refusalToWrite_36 (by decide) ?_
        refine lv_goto (tgt := 41) hx hb dX6_refusalToWrite_37 (by decide) ?_
        exact W.iret (v := 0) hx hb hr (fun t ht hW => ⟨⟨0, M30, rfl, h, xAt_of ht hP⟩, hS.F ht⟩) hS.2.2 dX6_refusalToWrite_41
    · have h := h.2 q21
      refine lv_bipush (v := (-2)) hx hb dX6_refusalToWrite_24 (by decide) ?_
      exact W.iret (v := (-2)) hx hb hr (fun t ht hW => ⟨⟨(-2), M, rfl, h, xAt_of ht hP⟩, hS.F ht⟩) hS.2.2 dX6_refusalToWrite_26
  have hl := lv_entry ([.ref (ad 1), .int a1, .int a2, .int a3]) (n := 4) (Nat.le_of_ble_eq_true rfl)
  rw [lg_entry_eq]
  generalize (lg_sl ([.ref (ad 1), .int a1, .int a2, .int a3]) ++ List.replicate (4 - (lg_sl ([.ref (ad 1), .int a1, .int a2, .int a3])).length) Slot.unset).toArray = ls at hl ⊢
  have hl : lv_has ls 4 [(0, .ref (ad 1)), (1, .int a1), (2, .int a2), (3, .int a3)] := hl
  refine lv_aload_n hx hb dX6_refusalToWrite_0 rfl (lv_at hl 0 rfl) ?_
  refine lv_iload_n hx hb dX6_refusalToWrite_1 rfl (lv_at hl 1 rfl) ?_
  refine lv_iload_n hx hb dX6_refusalToWrite_2 rfl (lv_at hl 3 rfl) ?_
  refine x_callVi (As := [.int a1, .int a3]) (rest := []) ⟨hx, hb, hml, hown, hts⟩ (kX6_hasRow l D cI cZ ad zA zD zR hD M a1 a3 _ h) (cwV 2 hts (gdV uS (inA_9 _ (List.mem_of_getElem? (i := 17) rfl)) vX6_hasRow) rfl rfl rfl (by decide +kernel) ⟨Nat.le_of_ble_eq_true rfl, Nat.le_of_ble_eq_true rfl⟩) (va_recv hK hP (ci := 6) (q0 := 1) rfl (xW_1 cI cZ ad M)) hP hK hZ hN hS hl.1 rfl rfl (Nat.le_of_ble_eq_true rfl) dX6_refusalToWrite_3 (fun r3 M3 H locs h hP hS => ?_)
  refine lv_if_ne (tgt := 11) hx hb dX6_refusalToWrite_6 (by decide) (fun q6 => ?_) (fun q6 => ?_)
  · have h := h.1 q6
    refine lv_aload_n hx hb dX6_refusalToWrite_11 rfl (lv_at hl 0 rfl) ?_
    refine lv_iload_n hx hb dX6_refusalToWrite_12 rfl (lv_at hl 1 rfl) ?_
    by_cases q13 : a1 = 0
    · have h := h.1 q13
      refine x_callR (As := [.int a1]) (rest := []) ⟨hx, hb, hml, hown, hts⟩ (cX6_pictureOf_L l D cI cZ ad zA zD zR M3 a1 q13) (cwV 1 hts (gdV uS (inA_10 _ (List.mem_of_getElem? (i := 5) rfl)) vX6_pictureOf) rfl rfl rfl (by decide +kernel) ⟨Nat.le_of_ble_eq_true rfl, Nat.le_of_ble_eq_true rfl⟩) (va_recv hK hP (ci := 6) (q0 := 1) rfl (xW_1 cI cZ ad M3)) hP hK hZ hN hS hl.1 rfl rfl (Nat.le_of_ble_eq_true rfl) dX6_refusalToWrite_13 (fun H locs hP hS => ?_)
      refine va_get (D := D) (ci := 4) (v := .ref (ad 4)) (C := RX4) (T := TX4) (N := 2) hx hb hts inX4 hown hK hP 2 (xW_2 cI cZ ad M3) rfl 1 (by decide) k0 (fun _ h9 => h9) rfl dX6_refusalToWrite_16 ?_
      refine lv_iload_n hx hb dX6_refusalToWrite_19 rfl (lv_at hl 3 rfl) ?_
      obtain ⟨hi20, h⟩ := h
      refine va_zald hx hb hK hP 4 1 (xW_4 cI cZ ad M3) rfl hi20 dX6_refusalToWrite_20 ?_
      exact J21 a2 a3 (M3 4 (a3).toNatClampNeg) M3 _ _ _ (lv_sub hl [0, 2, 3] rfl) hP hS h
    · have h := h.2 q13
      refine x_callR (As := [.int a1]) (rest := []) ⟨hx, hb, hml, hown, hts⟩ (cX6_pictureOf_R l D cI cZ ad zA zD zR M3 a1 q13) (cwV 1 hts (gdV uS (inA_10 _ (List.mem_of_getElem? (i := 5) rfl)) vX6_pictureOf) rfl rfl rfl (by decide +kernel) ⟨Nat.le_of_ble_eq_true rfl, Nat.le_of_ble_eq_true rfl⟩) (va_recv hK hP (ci := 6) (q0 := 1) rfl (xW_1 cI cZ ad M3)) hP hK hZ hN hS hl.1 rfl rfl (Nat.le_of_ble_eq_true rfl) dX6_refusalToWrite_13 (fun H locs hP hS => ?_)
      refine va_get (D := D) (ci := 4) (v := .ref (ad 7)) (C := RX4) (T := TX4) (N := 2) hx hb hts inX4 hown hK hP 5 (xW_5 cI cZ ad M3) rfl 1 (by decide) k0 (fun _ h9 => h9) rfl dX6_refusalToWrite_16 ?_
      refine lv_iload_n hx hb dX6_refusalToWrite_19 rfl (lv_at hl 3 rfl) ?_
      obtain ⟨hi20, h⟩ := h
      refine va_zald hx hb hK hP 7 1 (xW_7 cI cZ ad M3) rfl hi20 dX6_refusalToWrite_20 ?_
      exact J21 a2 a3 (M3 7 (a3).toNatClampNeg) M3 _ _ _ (lv_sub hl [0, 2, 3] rfl) hP hS h
  · have h := h.2 q6
    refine lv_iconst (v := (-1)) hx hb dX6_refusalToWrite_9 (by decide) ?_
    exact W.iret (v := (-1)) hx hb hr (fun t ht hW => ⟨⟨(-1), M3, rfl, h, xAt_of ht hP⟩, hS.F ht⟩) hS.2.2 dX6_refusalToWrite_10
set_option maxHeartbeats 4000000 in
set_option maxRecDepth 100000 in
theorem kX6_placeOf (l : Launch) (D : va_G) (cI cZ : ClassId) (ad : Nat → Nat) (zA zD zR : Nat) (hD : ∀ M : Mem, va_D (xA ad) (xW cI cZ ad M)) (M : Mem) (a1 a2 : Int32) (Q : Int32 → Mem → Prop) (h : wX6_placeOf M a1 a2 Q) : Met l yX6_placeOf uX6_placeOf ({ frames := 0, cells := 0, slots := 0, locals := 0 }) (va_Pc [.ref (ad 1), .int a1, .int a2] (xPre D cI cZ ad zA zD zR M)) (va_Qi Q (xAt D cI cZ ad) (xA ad)) 0 0 (xA ad) := by
  refine Met.ofW (cc := cX6_placeOf) (maxL := 3) (ret := (some .int)) (by decide) rfl ?_
  intro p e s m args below meth c s₁ B hml hv
  obtain ⟨rfl, hP, hK, hZ, hN⟩ := hv
  have hx := B.exec
  have hb := B.bytes
  have hr := B.returns
  have hts := atoms_spec (ws := uX6_placeOf) B.pre
  have hown : s.vm.findClass RX6 = some m.cls := findClass_of_methodNamed B.named
  have hlocks := B.notSynchronized
  have hS : va_S (xA ad) s.heap s.heap [] := va_S.rf
  have k0 := hts (.fieldLink RX6 9 "TwoEyes$Scene" "width" "I") (List.mem_cons_of_mem _ (inA_3 _ (List.mem_of_getElem? (i := 4) rfl)))
  have inX6 : ∀ w ∈ wsX60, w ∈ uX6_placeOf := fun w h => List.mem_cons_of_mem _ (inCX6 w h)
  have hl := lv_entry ([.ref (ad 1), .int a1, .int a2]) (n := 3) (Nat.le_of_ble_eq_true rfl)
  rw [lg_entry_eq]
  generalize (lg_sl ([.ref (ad 1), .int a1, .int a2]) ++ List.replicate (3 - (lg_sl ([.ref (ad 1), .int a1, .int a2])).length) Slot.unset).toArray = ls at hl ⊢
  have hl : lv_has ls 3 [(0, .ref (ad 1)), (1, .int a1), (2, .int a2)] := hl
  refine lv_iload_n hx hb dX6_placeOf_0 rfl (lv_at hl 2 rfl) ?_
  refine lv_aload_n hx hb dX6_placeOf_1 rfl (lv_at hl 0 rfl) ?_
  refine va_get (D := D) (ci := 6) (v := .int (M 1 0)) (C := RX6) (T := TX6) (N := 5) hx hb hts inX6 hown hK hP 1 (xW_1 cI cZ ad M) rfl 0 (by decide) k0 (fun _ h9 => h9) rfl dX6_placeOf_2 ?_
  refine lv_imul hx hb dX6_placeOf_5 ?_
  refine lv_iload_n hx hb dX6_placeOf_6 rfl (lv_at hl 1 rfl) ?_
  refine lv_iadd hx hb dX6_placeOf_7 ?_
  exact W.iret (v := ((a2 * (M 1 0)) + a1)) hx hb hr (fun t ht hW => ⟨⟨((a2 * (M 1 0)) + a1), M, rfl, h, xAt_of ht hP⟩, hS.F ht⟩) hS.2.2 dX6_placeOf_8
abbrev GX10_shade (p : Program) (l : Launch) (e : Env) (s : State) (m : MethodId) (below : List Frame) (meth : Method) (c : Code) (D : va_G) (cI cZ : ClassId) (ad : Nat → Nat) (a1 a2 a3 a4 : Int32) (Q : Int32 → Mem → Prop) (H : Heap) (locs : List Loc) (g : JFrame) : Prop := W p l e (headSpec uX10_shade { frames := 3, cells := 0, slots := 0, locals := 66 }).room s m ([.ref (ad 0), .int a1, .int a2, .int a3, .int a4] : List Value).toArray below meth c H locs 0 0 (MQ below (va_Qi Q (xAt D cI cZ ad) (xA ad)) ([.ref (ad 0), .int a1, .int a2, .int a3, .int a4] : List Value).toArray s 0 0 (xA ad)) g
set_option maxHeartbeats 4000000 in
set_option maxRecDepth 100000 in
theorem kX10_shade (l : Launch) (D : va_G) (cI cZ : ClassId) (ad : Nat → Nat) (zA zD zR : Nat) (hD : ∀ M : Mem, va_D (xA ad) (xW cI cZ ad M)) (M : Mem) (a1 a2 a3 a4 : Int32) (Q : Int32 → Mem → Prop) (h : wX10_shade M a1 a2 a3 a4 Q) : Met l yX10_shade uX10_shade ({ frames := 3, cells := 0, slots := 0, locals := 66 }) (va_Pc [.ref (ad 0), .int a1, .int a2, .int a3, .int a4] (xPre D cI cZ ad zA zD zR M)) (va_Qi Q (xAt D cI cZ ad) (xA ad)) 0 0 (xA ad) := by
  refine Met.ofW (cc := cX10_shade) (maxL := 6) (ret := (some .int)) (by decide) rfl ?_
  intro p e s m args below meth c s₁ B hml hv
  obtain ⟨rfl, hP, hK, hZ, hN⟩ := hv
  have hx := B.exec
  have hb := B.bytes
  have hr := B.returns
  have hts := atoms_spec (ws := uX10_shade) B.pre
  have hown : s.vm.findClass RX10 = some m.cls := findClass_of_methodNamed B.named
  have hlocks := B.notSynchronized
  have hS : va_S (xA ad) s.heap s.heap [] := va_S.rf
  have k0 := hts (.fieldLink RX10 10 "TwoEyes" "scene" "LTwoEyes$Scene;") (List.mem_cons_of_mem _ (inA_1 _ (List.mem_of_getElem? (i := 15) rfl)))
  have inX10 : ∀ w ∈ wsX100, w ∈ uX10_shade := fun w h => List.mem_cons_of_mem _ (inCX10 w h)
  have k2 := hts (.fieldLink RX10 91 "TwoEyes$Picture" "squares" "[I") (List.mem_cons_of_mem _ (inA_9 _ (List.mem_of_getElem? (i := 11) rfl)))
  have inX4 : ∀ w ∈ wsX40, w ∈ uX10_shade := fun w h => List.mem_cons_of_mem _ (inCX4 w h)
  have J47 : ∀ (M : Mem) (H : Heap) (locs : List Loc) (ls : Array Slot), lv_has ls 6 [(0, .ref (ad 0))] → va_P D vwCl (xW cI cZ ad M) H → va_S (xA ad) s.heap H locs → wX10_shade_J47 Q M → GX10_shade p l e s m below meth c D cI cZ ad a1 a2 a3 a4 Q H locs (F0 m 47 ls []) := by
    intro M H locs ls hl hP hS h
    refine lv_aload_n hx hb dX10_shade_47 rfl (lv_at hl 0 rfl) ?_
    refine x_callVv (As := []) (rest := []) ⟨hx, hb, hml, hown, hts⟩ (kX10_forgetAll l D cI cZ ad zA zD zR hD M _ h) (cwV 0 hts (gdV uS (inA_8 _ (List.mem_of_getElem? (i := 8) rfl)) vX10_forgetAll) rfl rfl rfl (by decide +kernel) ⟨Nat.le_of_ble_eq_true rfl, Nat.le_of_ble_eq_true rfl⟩) (va_recv hK hP (ci := 10) (q0 := 0) rfl (xW_0 cI cZ ad M)) hP hK hZ hN hS hl.1 rfl rfl (Nat.le_of_ble_eq_true rfl) dX10_shade_48 (fun M48 H locs h hP hS => ?_)
    refine lv_iconst (v := 1) hx hb dX10_shade_51 (by decide) ?_
    exact W.iret (v := 1) hx hb hr (fun t ht hW => ⟨⟨1, M48, rfl, h, xAt_of ht hP⟩, hS.F ht⟩) hS.2.2 dX10_shade_52
  have hl := lv_entry ([.ref (ad 0), .int a1, .int a2, .int a3, .int a4]) (n := 6) (Nat.le_of_ble_eq_true rfl)
  rw [lg_entry_eq]
  generalize (lg_sl ([.ref (ad 0), .int a1, .int a2, .int a3, .int a4]) ++ List.replicate (6 - (lg_sl ([.ref (ad 0), .int a1, .int a2, .int a3, .int a4])).length) Slot.unset).toArray = ls at hl ⊢
  have hl : lv_has ls 6 [(0, .ref (ad 0)), (1, .int a1), (2, .int a2), (3, .int a3), (4, .int a4)] := hl
  refine lv_aload_n hx hb dX10_shade_0 rfl (lv_at hl 0 rfl) ?_
  refine va_get (D := D) (ci := 10) (v := .ref (ad 1)) (C := RX10) (T := TX10) (N := 11) hx hb hts inX10 hown hK hP 0 (xW_0 cI cZ ad M) rfl 0 (by decide) k0 (fun _ h9 => h9) rfl dX10_shade_1 ?_
  refine lv_iload_n hx hb dX10_shade_4 rfl (lv_at hl 1 rfl) ?_
  refine lv_iload_n hx hb dX10_shade_5 rfl (lv_at hl 2 rfl) ?_
  refine lv_iload_n hx hb dX10_shade_6 rfl (lv_at hl 3 rfl) ?_
  refine x_callVi (As := [.int a1, .int a2, .int a3]) (rest := []) ⟨hx, hb, hml, hown, hts⟩ (kX6_refusalToWrite l D cI cZ ad zA zD zR hD M a1 a2 a3 _ h) (cwV 3 hts (gdV uS (inA_9 _ (List.mem_of_getElem? (i := 12) rfl)) vX6_refusalToWrite) rfl rfl rfl (by decide +kernel) ⟨Nat.le_of_ble_eq_true rfl, Nat.le_of_ble_eq_true rfl⟩) (va_recv hK hP (ci := 6) (q0 := 1) rfl (xW_1 cI cZ ad M)) hP hK hZ hN hS hl.1 rfl rfl (Nat.le_of_ble_eq_true rfl) dX10_shade_7 (fun r7 M7 H locs h hP hS => ?_)
  refine lv_istore (lv' := [(5, .int r7), (0, .ref (ad 0)), (1, .int a1), (2, .int a2), (3, .int a3), (4, .int a4)]) hx hb dX10_shade_10 hl (by decide) rfl (fun ls hl => ?_)
  refine lv_iload hx hb dX10_shade_12 (lv_at hl 0 rfl) ?_
  refine lv_if_ge (tgt := 20) hx hb dX10_shade_14 (by decide) (fun q14 => ?_) (fun q14 => ?_)
  · have h := h.1 q14
    refine lv_aload_n hx hb dX10_shade_20 rfl (lv_at hl 1 rfl) ?_
    refine va_get (D := D) (ci := 10) (v := .ref (ad 1)) (C := RX10) (T := TX10) (N := 11) hx hb hts inX10 hown hK hP 0 (xW_0 cI cZ ad M7) rfl 0 (by decide) k0 (fun _ h9 => h9) rfl dX10_shade_21 ?_
    refine lv_iload_n hx hb dX10_shade_24 rfl (lv_at hl 2 rfl) ?_
    by_cases q25 : a1 = 0
    · have h := h.1 q25
      refine x_callR (As := [.int a1]) (rest := []) ⟨hx, hb, hml, hown, hts⟩ (cX6_pictureOf_L l D cI cZ ad zA zD zR M7 a1 q25) (cwV 1 hts (gdV uS (inA_10 _ (List.mem_of_getElem? (i := 13) rfl)) vX6_pictureOf) rfl rfl rfl (by decide +kernel) ⟨Nat.le_of_ble_eq_true rfl, Nat.le_of_ble_eq_true rfl⟩) (va_recv hK hP (ci := 6) (q0 := 1) rfl (xW_1 cI cZ ad M7)) hP hK hZ hN hS hl.1 rfl rfl (Nat.le_of_ble_eq_true rfl) dX10_shade_25 (fun H locs hP hS => ?_)
      refine va_get (D := D) (ci := 4) (v := .ref (ad 3)) (C := RX4) (T := TX4) (N := 2) hx hb hts inX4 hown hK hP 2 (xW_2 cI cZ ad M7) rfl 0 (by decide) k2 (fun _ h9 => h9) rfl dX10_shade_28 ?_
      refine lv_aload_n hx hb dX10_shade_31 rfl (lv_at hl 1 rfl) ?_
      refine va_get (D := D) (ci := 10) (v := .ref (ad 1)) (C := RX10) (T := TX10) (N := 11) hx hb hts inX10 hown hK hP 0 (xW_0 cI cZ ad M7) rfl 0 (by decide) k0 (fun _ h9 => h9) rfl dX10_shade_32 ?_
      refine lv_iload_n hx hb dX10_shade_35 rfl (lv_at hl 3 rfl) ?_
      refine lv_iload_n hx hb dX10_shade_36 rfl (lv_at hl 4 rfl) ?_
      refine x_callVi (As := [.int a2, .int a3]) (rest := [.ref (ad 3)]) ⟨hx, hb, hml, hown, hts⟩ (kX6_placeOf l D cI cZ ad zA zD zR hD M7 a2 a3 _ h) (cwV 2 hts (gdV uS (inA_10 _ (List.mem_of_getElem? (i := 14) rfl)) vX6_placeOf) rfl rfl rfl (by decide +kernel) ⟨Nat.le_of_ble_eq_true rfl, Nat.le_of_ble_eq_true rfl⟩) (va_recv hK hP (ci := 6) (q0 := 1) rfl (xW_1 cI cZ ad M7)) hP hK hZ hN hS hl.1 rfl rfl (Nat.le_of_ble_eq_true rfl) dX10_shade_37 (fun r37 M37 H locs h hP hS => ?_)
      refine lv_iload hx hb dX10_shade_40 (lv_at hl 5 rfl) ?_
      refine lv_sipush (v := 255) hx hb dX10_shade_42 (by decide) ?_
      refine lv_iand hx hb dX10_shade_45 ?_
      obtain ⟨hi46, h⟩ := h
      refine va_iast hx hb hK hP (hD M37) hS 3 0 (xW_3 cI cZ ad M37) rfl hi46 dX10_shade_46 (fun H locs hP _ hS => ?_)
      refine xQ_3 hP (fun M46 eM46 hP => ?_)
      have h := h M46 eM46
      exact J47 M46 _ _ _ (lv_sub hl [1] rfl) hP hS h
    · have h := h.2 q25
      refine x_callR (As := [.int a1]) (rest := []) ⟨hx, hb, hml, hown, hts⟩ (cX6_pictureOf_R l D cI cZ ad zA zD zR M7 a1 q25) (cwV 1 hts (gdV uS (inA_10 _ (List.mem_of_getElem? (i := 13) rfl)) vX6_pictureOf) rfl rfl rfl (by decide +kernel) ⟨Nat.le_of_ble_eq_true rfl, Nat.le_of_ble_eq_true rfl⟩) (va_recv hK hP (ci := 6) (q0 := 1) rfl (xW_1 cI cZ ad M7)) hP hK hZ hN hS hl.1 rfl rfl (Nat.le_of_ble_eq_true rfl) dX10_shade_25 (fun H locs hP hS => ?_)
      refine va_get (D := D) (ci := 4) (v := .ref (ad 6)) (C := RX4) (T := TX4) (N := 2) hx hb hts inX4 hown hK hP 5 (xW_5 cI cZ ad M7) rfl 0 (by decide) k2 (fun _ h9 => h9) rfl dX10_shade_28 ?_
      refine lv_aload_n hx hb dX10_shade_31 rfl (lv_at hl 1 rfl) ?_
      refine va_get (D := D) (ci := 10) (v := .ref (ad 1)) (C := RX10) (T := TX10) (N := 11) hx hb hts inX10 hown hK hP 0 (xW_0 cI cZ ad M7) rfl 0 (by decide) k0 (fun _ h9 => h9) rfl dX10_shade_32 ?_
      refine lv_iload_n hx hb dX10_shade_35 rfl (lv_at hl 3 rfl) ?_
      refine lv_iload_n hx hb dX10_shade_36 rfl (lv_at hl 4 rfl) ?_
      refine x_callVi (As := [.int a2, .int a3]) (rest := [.ref (ad 6)]) ⟨hx, hb, hml, hown, hts⟩ (kX6_placeOf l D cI cZ ad zA zD zR hD M7 a2 a3 _ h) (cwV 2 hts (gdV uS (inA_10 _ (List.mem_of_getElem? (i := 14) rfl)) vX6_placeOf) rfl rfl rfl (by decide +kernel) ⟨Nat.le_of_ble_eq_true rfl, Nat.le_of_ble_eq_true rfl⟩) (va_recv hK hP (ci := 6) (q0 := 1) rfl (xW_1 cI cZ ad M7)) hP hK hZ hN hS hl.1 rfl rfl (Nat.le_of_ble_eq_true rfl) dX10_shade_37 (fun r37 M37 H locs h hP hS => ?_)
      refine lv_iload hx hb dX10_shade_40 (lv_at hl 5 rfl) ?_
      refine lv_sipush (v := 255) hx hb dX10_shade_42 (by decide) ?_
      refine lv_iand hx hb dX10_shade_45 ?_
      obtain ⟨hi46, h⟩ := h
      refine va_iast hx hb hK hP (hD M37) hS 6 0 (xW_6 cI cZ ad M37) rfl hi46 dX10_shade_46 (fun H locs hP _ hS => ?_)
      refine xQ_6 hP (fun M46 eM46 hP => ?_)
      have h := h M46 eM46
      exact J47 M46 _ _ _ (lv_sub hl [1] rfl) hP hS h
  · have h := h.2 q14
    refine lv_iload hx hb dX10_shade_17 (lv_at hl 0 rfl) ?_
    exact W.iret (v := r7) hx hb hr (fun t ht hW => ⟨⟨r7, M7, rfl, h, xAt_of ht hP⟩, hS.F ht⟩) hS.2.2 dX10_shade_19
set_option maxHeartbeats 4000000 in
set_option maxRecDepth 100000 in
theorem kX6_seen (l : Launch) (D : va_G) (cI cZ : ClassId) (ad : Nat → Nat) (zA zD zR : Nat) (hD : ∀ M : Mem, va_D (xA ad) (xW cI cZ ad M)) (M : Mem) (a1 a2 a3 : Int32) (Q : Int32 → Mem → Prop) (h : wX6_seen M a1 a2 a3 Q) : Met l yX6_seen uX6_seen ({ frames := 0, cells := 0, slots := 0, locals := 0 }) (va_Pc [.ref (ad 1), .int a1, .int a2, .int a3] (xPre D cI cZ ad zA zD zR M)) (va_Qi Q (xAt D cI cZ ad) (xA ad)) 0 0 (xA ad) := by
  refine Met.ofW (cc := cX6_seen) (maxL := 5) (ret := (some .int)) (by decide) rfl ?_
  intro p e s m args below meth c s₁ B hml hv
  obtain ⟨rfl, hP, hK, hZ, hN⟩ := hv
  have hx := B.exec
  have hb := B.bytes
  have hr := B.returns
  have hts := atoms_spec (ws := uX6_seen) B.pre
  have hown : s.vm.findClass RX6 = some m.cls := findClass_of_methodNamed B.named
  have hlocks := B.notSynchronized
  have hS : va_S (xA ad) s.heap s.heap [] := va_S.rf
  have k0 := hts (.fieldLink RX6 25 "TwoEyes$Scene" "right" "LTwoEyes$Picture;") (List.mem_cons_of_mem _ (inA_3 _ (List.mem_of_getElem? (i := 10) rfl)))
  have inX6 : ∀ w ∈ wsX60, w ∈ uX6_seen := fun w h => List.mem_cons_of_mem _ (inCX6 w h)
  have k2 := hts (.fieldLink RX6 58 "TwoEyes$Picture" "missing" "[Z") (List.mem_cons_of_mem _ (inA_9 _ (List.mem_of_getElem? (i := 16) rfl)))
  have inX4 : ∀ w ∈ wsX40, w ∈ uX6_seen := fun w h => List.mem_cons_of_mem _ (inCX4 w h)
  have k4 := hts (.fieldLink RX6 62 "TwoEyes$Picture" "squares" "[I") (List.mem_cons_of_mem _ (inA_11 _ (List.mem_of_getElem? (i := 18) rfl)))
  have k5 := hts (.fieldLink RX6 9 "TwoEyes$Scene" "width" "I") (List.mem_cons_of_mem _ (inA_3 _ (List.mem_of_getElem? (i := 4) rfl)))
  have k6 := hts (.fieldLink RX6 21 "TwoEyes$Scene" "left" "LTwoEyes$Picture;") (List.mem_cons_of_mem _ (inA_3 _ (List.mem_of_getElem? (i := 9) rfl)))
  have hl := lv_entry ([.ref (ad 1), .int a1, .int a2, .int a3]) (n := 5) (Nat.le_of_ble_eq_true rfl)
  rw [lg_entry_eq]
  generalize (lg_sl ([.ref (ad 1), .int a1, .int a2, .int a3]) ++ List.replicate (5 - (lg_sl ([.ref (ad 1), .int a1, .int a2, .int a3])).length) Slot.unset).toArray = ls at hl ⊢
  have hl : lv_has ls 5 [(0, .ref (ad 1)), (1, .int a1), (2, .int a2), (3, .int a3)] := hl
  refine lv_iload_n hx hb dX6_seen_0 rfl (lv_at hl 1 rfl) ?_
  refine lv_if_ne (tgt := 11) hx hb dX6_seen_1 (by decide) (fun q1 => ?_) (fun q1 => ?_)
  · have h := h.1 q1
    refine lv_aload_n hx hb dX6_seen_11 rfl (lv_at hl 0 rfl) ?_
    refine va_get (D := D) (ci := 6) (v := .ref (ad 5)) (C := RX6) (T := TX6) (N := 5) hx hb hts inX6 hown hK hP 1 (xW_1 cI cZ ad M) rfl 3 (by decide) k0 (fun _ h9 => h9) rfl dX6_seen_12 ?_
    refine lv_astore (lv' := [(4, .ref (ad 5)), (0, .ref (ad 1)), (1, .int a1), (2, .int a2), (3, .int a3)]) hx hb dX6_seen_15 hl (by decide) rfl (fun ls hl => ?_)
    refine lv_aload hx hb dX6_seen_17 (lv_at hl 0 rfl) ?_
    refine va_get (D := D) (ci := 4) (v := .ref (ad 7)) (C := RX4) (T := TX4) (N := 2) hx hb hts inX4 hown hK hP 5 (xW_5 cI cZ ad M) rfl 1 (by decide) k2 (fun _ h9 => h9) rfl dX6_seen_19 ?_
    refine lv_iload_n hx hb dX6_seen_22 rfl (lv_at hl 4 rfl) ?_
    obtain ⟨hi23, h⟩ := h
    refine va_zald hx hb hK hP 7 1 (xW_7 cI cZ ad M) rfl hi23 dX6_seen_23 ?_
    refine lv_if_eq (tgt := 32) hx hb dX6_seen_24 (by decide) (fun q24 => ?_) (fun q24 => ?_)
    · have h := h.1 q24
      refine lv_aload hx hb dX6_seen_32 (lv_at hl 0 rfl) ?_
      refine va_get (D := D) (ci := 4) (v := .ref (ad 6)) (C := RX4) (T := TX4) (N := 2) hx hb hts inX4 hown hK hP 5 (xW_5 cI cZ ad M) rfl 0 (by decide) k4 (fun _ h9 => h9) rfl dX6_seen_34 ?_
      refine lv_iload_n hx hb dX6_seen_37 rfl (lv_at hl 4 rfl) ?_
      refine lv_aload_n hx hb dX6_seen_38 rfl (lv_at hl 1 rfl) ?_
      refine va_get (D := D) (ci := 6) (v := .int (M 1 0)) (C := RX6) (T := TX6) (N := 5) hx hb hts inX6 hown hK hP 1 (xW_1 cI cZ ad M) rfl 0 (by decide) k5 (fun _ h9 => h9) rfl dX6_seen_39 ?_
      refine lv_imul hx hb dX6_seen_42 ?_
      refine lv_iload_n hx hb dX6_seen_43 rfl (lv_at hl 3 rfl) ?_
      refine lv_iadd hx hb dX6_seen_44 ?_
      obtain ⟨hi45, h⟩ := h
      refine va_iald hx hb hK hP 6 0 (xW_6 cI cZ ad M) rfl hi45 dX6_seen_45 ?_
      exact W.iret (v := (M 6 ((a3 * (M 1 0)) + a2).toNatClampNeg)) hx hb hr (fun t ht hW => ⟨⟨(M 6 ((a3 * (M 1 0)) + a2).toNatClampNeg), M, rfl, h, xAt_of ht hP⟩, hS.F ht⟩) hS.2.2 dX6_seen_46
    · have h := h.2 q24
      refine lv_bipush (v := (-5)) hx hb dX6_seen_27 (by decide) ?_
      refine lv_goto (tgt := 46) hx hb dX6_seen_29 (by decide) ?_
      exact W.iret (v := (-5)) hx hb hr (fun t ht hW => ⟨⟨(-5), M, rfl, h, xAt_of ht hP⟩, hS.F ht⟩) hS.2.2 dX6_seen_46
  · have h := h.2 q1
    refine lv_aload_n hx hb dX6_seen_4 rfl (lv_at hl 0 rfl) ?_
    refine va_get (D := D) (ci := 6) (v := .ref (ad 2)) (C := RX6) (T := TX6) (N := 5) hx hb hts inX6 hown hK hP 1 (xW_1 cI cZ ad M) rfl 2 (by decide) k6 (fun _ h9 => h9) rfl dX6_seen_5 ?_
    refine lv_goto (tgt := 15) hx hb dX6_seen_8 (by decide) ?_
    refine lv_astore (lv' := [(4, .ref (ad 2)), (0, .ref (ad 1)), (1, .int a1), (2, .int a2), (3, .int a3)]) hx hb dX6_seen_15 hl (by decide) rfl (fun ls hl => ?_)
    refine lv_aload hx hb dX6_seen_17 (lv_at hl 0 rfl) ?_
    refine va_get (D := D) (ci := 4) (v := .ref (ad 4)) (C := RX4) (T := TX4) (N := 2) hx hb hts inX4 hown hK hP 2 (xW_2 cI cZ ad M) rfl 1 (by decide) k2 (fun _ h9 => h9) rfl dX6_seen_19 ?_
    refine lv_iload_n hx hb dX6_seen_22 rfl (lv_at hl 4 rfl) ?_
    obtain ⟨hi23, h⟩ := h
    refine va_zald hx hb hK hP 4 1 (xW_4 cI cZ ad M) rfl hi23 dX6_seen_23 ?_
    refine lv_if_eq (tgt := 32) hx hb dX6_seen_24 (by decide) (fun q24 => ?_) (fun q24 => ?_)
    · have h := h.1 q24
      refine lv_aload hx hb dX6_seen_32 (lv_at hl 0 rfl) ?_
      refine va_get (D := D) (ci := 4) (v := .ref (ad 3)) (C := RX4) (T := TX4) (N := 2) hx hb hts inX4 hown hK hP 2 (xW_2 cI cZ ad M) rfl 0 (by decide) k4 (fun _ h9 => h9) rfl dX6_seen_34 ?_
      refine lv_iload_n hx hb dX6_seen_37 rfl (lv_at hl 4 rfl) ?_
      refine lv_aload_n hx hb dX6_seen_38 rfl (lv_at hl 1 rfl) ?_
      refine va_get (D := D) (ci := 6) (v := .int (M 1 0)) (C := RX6) (T := TX6) (N := 5) hx hb hts inX6 hown hK hP 1 (xW_1 cI cZ ad M) rfl 0 (by decide) k5 (fun _ h9 => h9) rfl dX6_seen_39 ?_
      refine lv_imul hx hb dX6_seen_42 ?_
      refine lv_iload_n hx hb dX6_seen_43 rfl (lv_at hl 3 rfl) ?_
      refine lv_iadd hx hb dX6_seen_44 ?_
      obtain ⟨hi45, h⟩ := h
      refine va_iald hx hb hK hP 3 0 (xW_3 cI cZ ad M) rfl hi45 dX6_seen_45 ?_
      exact W.iret (v := (M 3 ((a3 * (M 1 0)) + a2).toNatClampNeg)) hx hb hr (fun t ht hW => ⟨⟨(M 3 ((a3 * (M 1 0)) + a2).toNatClampNeg), M, rfl, h, xAt_of ht hP⟩, hS.F ht⟩) hS.2.2 dX6_seen_46
    · have h := h.2 q24
      refine lv_bipush (v := (-5)) hx hb dX6_seen_27 (by decide) ?_
      refine lv_goto (tgt := 46) hx hb dX6_seen_29 (by decide) ?_
      exact W.iret (v := (-5)) hx hb hr (fun t ht hW => ⟨⟨(-5), M, rfl, h, xAt_of ht hP⟩, hS.F ht⟩) hS.2.2 dX6_seen_46
abbrev GX10_lose (p : Program) (l : Launch) (e : Env) (s : State) (m : MethodId) (below : List Frame) (meth : Method) (c : Code) (D : va_G) (cI cZ : ClassId) (ad : Nat → Nat) (a1 a2 a3 : Int32) (Q : Int32 → Mem → Prop) (H : Heap) (locs : List Loc) (g : JFrame) : Prop := W p l e (headSpec uX10_lose { frames := 3, cells := 0, slots := 0, locals := 66 }).room s m ([.ref (ad 0), .int a1, .int a2, .int a3] : List Value).toArray below meth c H locs 0 0 (MQ below (va_Qi Q (xAt D cI cZ ad) (xA ad)) ([.ref (ad 0), .int a1, .int a2, .int a3] : List Value).toArray s 0 0 (xA ad)) g
set_option maxHeartbeats 4000000 in
set_option maxRecDepth 100000 in
theorem kX10_lose (l : Launch) (D : va_G) (cI cZ : ClassId) (ad : Nat → Nat) (zA zD zR : Nat) (hD : ∀ M : Mem, va_D (xA ad) (xW cI cZ ad M)) (M : Mem) (a1 a2 a3 : Int32) (Q : Int32 → Mem → Prop) (h : wX10_lose M a1 a2 a3 Q) : Met l yX10_lose uX10_lose ({ frames := 3, cells := 0, slots := 0, locals := 66 }) (va_Pc [.ref (ad 0), .int a1, .int a2, .int a3] (xPre D cI cZ ad zA zD zR M)) (va_Qi Q (xAt D cI cZ ad) (xA ad)) 0 0 (xA ad) := by
  refine Met.ofW (cc := cX10_lose) (maxL := 5) (ret := (some .int)) (by decide) rfl ?_
  intro p e s m args below meth c s₁ B hml hv
  obtain ⟨rfl, hP, hK, hZ, hN⟩ := hv
  have hx := B.exec
  have hb := B.bytes
  have hr := B.returns
  have hts := atoms_spec (ws := uX10_lose) B.pre
  have hown : s.vm.findClass RX10 = some m.cls := findClass_of_methodNamed B.named
  have hlocks := B.notSynchronized
  have hS : va_S (xA ad) s.heap s.heap [] := va_S.rf
  have k0 := hts (.fieldLink RX10 10 "TwoEyes" "scene" "LTwoEyes$Scene;") (List.mem_cons_of_mem _ (inA_1 _ (List.mem_of_getElem? (i := 15) rfl)))
  have inX10 : ∀ w ∈ wsX100, w ∈ uX10_lose := fun w h => List.mem_cons_of_mem _ (inCX10 w h)
  have k2 := hts (.fieldLink RX10 91 "TwoEyes$Picture" "squares" "[I") (List.mem_cons_of_mem _ (inA_9 _ (List.mem_of_getElem? (i := 11) rfl)))
  have inX4 : ∀ w ∈ wsX40, w ∈ uX10_lose := fun w h => List.mem_cons_of_mem _ (inCX4 w h)
  have J60 : ∀ (M : Mem) (H : Heap) (locs : List Loc) (ls : Array Slot), lv_has ls 5 [(0, .ref (ad 0))] → va_P D vwCl (xW cI cZ ad M) H → va_S (xA ad) s.heap H locs → wX10_lose_J60 Q M → GX10_lose p l e s m below meth c D cI cZ ad a1 a2 a3 Q H locs (F0 m 60 ls []) := by
    intro M H locs ls hl hP hS h
    refine lv_aload_n hx hb dX10_lose_60 rfl (lv_at hl 0 rfl) ?_
    refine x_callVv (As := []) (rest := []) ⟨hx, hb, hml, hown, hts⟩ (kX10_forgetAll l D cI cZ ad zA zD zR hD M _ h) (cwV 0 hts (gdV uS (inA_8 _ (List.mem_of_getElem? (i := 8) rfl)) vX10_forgetAll) rfl rfl rfl (by decide +kernel) ⟨Nat.le_of_ble_eq_true rfl, Nat.le_of_ble_eq_true rfl⟩) (va_recv hK hP (ci := 10) (q0 := 0) rfl (xW_0 cI cZ ad M)) hP hK hZ hN hS hl.1 rfl rfl (Nat.le_of_ble_eq_true rfl) dX10_lose_61 (fun M61 H locs h hP hS => ?_)
    refine lv_iconst (v := 1) hx hb dX10_lose_64 (by decide) ?_
    exact W.iret (v := 1) hx hb hr (fun t ht hW => ⟨⟨1, M61, rfl, h, xAt_of ht hP⟩, hS.F ht⟩) hS.2.2 dX10_lose_65
  have hl := lv_entry ([.ref (ad 0), .int a1, .int a2, .int a3]) (n := 5) (Nat.le_of_ble_eq_true rfl)
  rw [lg_entry_eq]
  generalize (lg_sl ([.ref (ad 0), .int a1, .int a2, .int a3]) ++ List.replicate (5 - (lg_sl ([.ref (ad 0), .int a1, .int a2, .int a3])).length) Slot.unset).toArray = ls at hl ⊢
  have hl : lv_has ls 5 [(0, .ref (ad 0)), (1, .int a1), (2, .int a2), (3, .int a3)] := hl
  refine lv_aload_n hx hb dX10_lose_0 rfl (lv_at hl 0 rfl) ?_
  refine va_get (D := D) (ci := 10) (v := .ref (ad 1)) (C := RX10) (T := TX10) (N := 11) hx hb hts inX10 hown hK hP 0 (xW_0 cI cZ ad M) rfl 0 (by decide) k0 (fun _ h9 => h9) rfl dX10_lose_1 ?_
  refine lv_iload_n hx hb dX10_lose_4 rfl (lv_at hl 1 rfl) ?_
  refine lv_iload_n hx hb dX10_lose_5 rfl (lv_at hl 2 rfl) ?_
  refine lv_iload_n hx hb dX10_lose_6 rfl (lv_at hl 3 rfl) ?_
  refine x_callVi (As := [.int a1, .int a2, .int a3]) (rest := []) ⟨hx, hb, hml, hown, hts⟩ (kX6_refusalToWrite l D cI cZ ad zA zD zR hD M a1 a2 a3 _ h) (cwV 3 hts (gdV uS (inA_9 _ (List.mem_of_getElem? (i := 12) rfl)) vX6_refusalToWrite) rfl rfl rfl (by decide +kernel) ⟨Nat.le_of_ble_eq_true rfl, Nat.le_of_ble_eq_true rfl⟩) (va_recv hK hP (ci := 6) (q0 := 1) rfl (xW_1 cI cZ ad M)) hP hK hZ hN hS hl.1 rfl rfl (Nat.le_of_ble_eq_true rfl) dX10_lose_7 (fun r7 M7 H locs h hP hS => ?_)
  refine lv_istore (lv' := [(4, .int r7), (0, .ref (ad 0)), (1, .int a1), (2, .int a2), (3, .int a3)]) hx hb dX10_lose_10 hl (by decide) rfl (fun ls hl => ?_)
  refine lv_iload hx hb dX10_lose_12 (lv_at hl 0 rfl) ?_
  refine lv_if_ge (tgt := 20) hx hb dX10_lose_14 (by decide) (fun q14 => ?_) (fun q14 => ?_)
  · have h := h.1 q14
    refine lv_aload_n hx hb dX10_lose_20 rfl (lv_at hl 1 rfl) ?_
    refine va_get (D := D) (ci := 10) (v := .ref (ad 1)) (C := RX10) (T := TX10) (N := 11) hx hb hts inX10 hown hK hP 0 (xW_0 cI cZ ad M7) rfl 0 (by decide) k0 (fun _ h9 => h9) rfl dX10_lose_21 ?_
    refine lv_iload_n hx hb dX10_lose_24 rfl (lv_at hl 2 rfl) ?_
    refine lv_iload_n hx hb dX10_lose_25 rfl (lv_at hl 3 rfl) ?_
    refine lv_iload_n hx hb dX10_lose_26 rfl (lv_at hl 4 rfl) ?_
    refine x_callVi (As := [.int a1, .int a2, .int a3]) (rest := []) ⟨hx, hb, hml, hown, hts⟩ (kX6_seen l D cI cZ ad zA zD zR hD M7 a1 a2 a3 _ h) (cwV 3 hts (gdV uS (inA_11 _ (List.mem_of_getElem? (i := 14) rfl)) vX6_seen) rfl rfl rfl (by decide +kernel) ⟨Nat.le_of_ble_eq_true rfl, Nat.le_of_ble_eq_true rfl⟩) (va_recv hK hP (ci := 6) (q0 := 1) rfl (xW_1 cI cZ ad M7)) hP hK hZ hN hS hl.1 rfl rfl (Nat.le_of_ble_eq_true rfl) dX10_lose_27 (fun r27 M27 H locs h hP hS => ?_)
    refine lv_bipush (v := (-5)) hx hb dX10_lose_30 (by decide) ?_
    refine lv_icmp_ne (tgt := 37) hx hb dX10_lose_32 (by decide) (fun q32 => ?_) (fun q32 => ?_)
    · have h := h.1 q32
      refine lv_aload_n hx hb dX10_lose_37 rfl (lv_at hl 1 rfl) ?_
      refine va_get (D := D) (ci := 10) (v := .ref (ad 1)) (C := RX10) (T := TX10) (N := 11) hx hb hts inX10 hown hK hP 0 (xW_0 cI cZ ad M27) rfl 0 (by decide) k0 (fun _ h9 => h9) rfl dX10_lose_38 ?_
      refine lv_iload_n hx hb dX10_lose_41 rfl (lv_at hl 2 rfl) ?_
      by_cases q42 : a1 = 0
      · have h := h.1 q42
        refine x_callR (As := [.int a1]) (rest := []) ⟨hx, hb, hml, hown, hts⟩ (cX6_pictureOf_L l D cI cZ ad zA zD zR M27 a1 q42) (cwV 1 hts (gdV uS (inA_10 _ (List.mem_of_getElem? (i := 13) rfl)) vX6_pictureOf) rfl rfl rfl (by decide +kernel) ⟨Nat.le_of_ble_eq_true rfl, Nat.le_of_ble_eq_true rfl⟩) (va_recv hK hP (ci := 6) (q0 := 1) rfl (xW_1 cI cZ ad M27)) hP hK hZ hN hS hl.1 rfl rfl (Nat.le_of_ble_eq_true rfl) dX10_lose_42 (fun H locs hP hS => ?_)
        refine va_get (D := D) (ci := 4) (v := .ref (ad 3)) (C := RX4) (T := TX4) (N := 2) hx hb hts inX4 hown hK hP 2 (xW_2 cI cZ ad M27) rfl 0 (by decide) k2 (fun _ h9 => h9) rfl dX10_lose_45 ?_
        refine lv_aload_n hx hb dX10_lose_48 rfl (lv_at hl 1 rfl) ?_
        refine va_get (D := D) (ci := 10) (v := .ref (ad 1)) (C := RX10) (T := TX10) (N := 11) hx hb hts inX10 hown hK hP 0 (xW_0 cI cZ ad M27) rfl 0 (by decide) k0 (fun _ h9 => h9) rfl dX10_lose_49 ?_
        refine lv_iload_n hx hb dX10_lose_52 rfl (lv_at hl 3 rfl) ?_
        refine lv_iload_n hx hb dX10_lose_53 rfl (lv_at hl 4 rfl) ?_
        refine x_callVi (As := [.int a2, .int a3]) (rest := [.ref (ad 3)]) ⟨hx, hb, hml, hown, hts⟩ (kX6_placeOf l D cI cZ ad zA zD zR hD M27 a2 a3 _ h) (cwV 2 hts (gdV uS (inA_10 _ (List.mem_of_getElem? (i := 14) rfl)) vX6_placeOf) rfl rfl rfl (by decide +kernel) ⟨Nat.le_of_ble_eq_true rfl, Nat.le_of_ble_eq_true rfl⟩) (va_recv hK hP (ci := 6) (q0 := 1) rfl (xW_1 cI cZ ad M27)) hP hK hZ hN hS hl.1 rfl rfl (Nat.le_of_ble_eq_true rfl) dX10_lose_54 (fun r54 M54 H locs h hP hS => ?_)
        refine lv_bipush (v := (-5)) hx hb dX10_lose_57 (by decide) ?_
        obtain ⟨hi59, h⟩ := h
        refine va_iast hx hb hK hP (hD M54) hS 3 0 (xW_3 cI cZ ad M54) rfl hi59 dX10_lose_59 (fun H locs hP _ hS => ?_)
        refine xQ_3 hP (fun M59 eM59 hP => ?_)
        have h := h M59 eM59
        exact J60 M59 _ _ _ (lv_sub hl [1] rfl) hP hS h
      · have h := h.2 q42
        refine x_callR (As := [.int a1]) (rest := []) ⟨hx, hb, hml, hown, hts⟩ (cX6_pictureOf_R l D cI cZ ad zA zD zR M27 a1 q42) (cwV 1 hts (gdV uS (inA_10 _ (List.mem_of_getElem? (i := 13) rfl)) vX6_pictureOf) rfl rfl rfl (by decide +kernel) ⟨Nat.le_of_ble_eq_true rfl, Nat.le_of_ble_eq_true rfl⟩) (va_recv hK hP (ci := 6) (q0 := 1) rfl (xW_1 cI cZ ad M27)) hP hK hZ hN hS hl.1 rfl rfl (Nat.le_of_ble_eq_true rfl) dX10_lose_42 (fun H locs hP hS => ?_)
        refine va_get (D := D) (ci := 4) (v := .ref (ad 6)) (C := RX4) (T := TX4) (N := 2) hx hb hts inX4 hown hK hP 5 (xW_5 cI cZ ad M27) rfl 0 (by decide) k2 (fun _ h9 => h9) rfl dX10_lose_45 ?_
        refine lv_aload_n hx hb dX10_lose_48 rfl (lv_at hl 1 rfl) ?_
        refine va_get (D := D) (ci := 10) (v := .ref (ad 1)) (C := RX10) (T := TX10) (N := 11) hx hb hts inX10 hown hK hP 0 (xW_0 cI cZ ad M27) rfl 0 (by decide) k0 (fun _ h9 => h9) rfl dX10_lose_49 ?_
        refine lv_iload_n hx hb dX10_lose_52 rfl (lv_at hl 3 rfl) ?_
        refine lv_iload_n hx hb dX10_lose_53 rfl (lv_at hl 4 rfl) ?_
        refine x_callVi (As := [.int a2, .int a3]) (rest := [.ref (ad 6)]) ⟨hx, hb, hml, hown, hts⟩ (kX6_placeOf l D cI cZ ad zA zD zR hD M27 a2 a3 _ h) (cwV 2 hts (gdV uS (inA_10 _ (List.mem_of_getElem? (i := 14) rfl)) vX6_placeOf) rfl rfl rfl (by decide +kernel) ⟨Nat.le_of_ble_eq_true rfl, Nat.le_of_ble_eq_true rfl⟩) (va_recv hK hP (ci := 6) (q0 := 1) rfl (xW_1 cI cZ ad M27)) hP hK hZ hN hS hl.1 rfl rfl (Nat.le_of_ble_eq_true rfl) dX10_lose_54 (fun r54 M54 H locs h hP hS => ?_)
        refine lv_bipush (v := (-5)) hx hb dX10_lose_57 (by decide) ?_
        obtain ⟨hi59, h⟩ := h
        refine va_iast hx hb hK hP (hD M54) hS 6 0 (xW_6 cI cZ ad M54) rfl hi59 dX10_lose_59 (fun H locs hP _ hS => ?_)
        refine xQ_6 hP (fun M59 eM59 hP => ?_)
        have h := h M59 eM59
        exact J60 M59 _ _ _ (lv_sub hl [1] rfl) hP hS h
    · have h := h.2 q32
      refine lv_iconst (v := 0) hx hb dX10_lose_35 (by decide) ?_
      exact W.iret (v := 0) hx hb hr (fun t ht hW => ⟨⟨0, M27, rfl, h, xAt_of ht hP⟩, hS.F ht⟩) hS.2.2 dX10_lose_36
  · have h := h.2 q14
    refine lv_iload hx hb dX10_lose_17 (lv_at hl 0 rfl) ?_
    exact W.iret (v := r7) hx hb hr (fun t ht hW => ⟨⟨r7, M7, rfl, h, xAt_of ht hP⟩, hS.F ht⟩) hS.2.2 dX10_lose_19
abbrev GX10_row (p : Program) (l : Launch) (e : Env) (s : State) (m : MethodId) (below : List Frame) (meth : Method) (c : Code) (D : va_G) (cI cZ : ClassId) (ad : Nat → Nat) (a1 a2 a3 : Int32) (Q : Int32 → Mem → Prop) (H : Heap) (locs : List Loc) (g : JFrame) : Prop := W p l e (headSpec uX10_row { frames := 3, cells := 0, slots := 0, locals := 63 }).room s m ([.ref (ad 0), .int a1, .int a2, .int a3] : List Value).toArray below meth c H locs 0 0 (MQ below (va_Qi Q (xAt D cI cZ ad) (xA ad)) ([.ref (ad 0), .int a1, .int a2, .int a3] : List Value).toArray s 0 0 (xA ad)) g
set_option maxHeartbeats 4000000 in
set_option maxRecDepth 100000 in
theorem kX10_row (l : Launch) (D : va_G) (cI cZ : ClassId) (ad : Nat → Nat) (zA zD zR : Nat) (hD : ∀ M : Mem, va_D (xA ad) (xW cI cZ ad M)) (M : Mem) (a1 a2 a3 : Int32) (Q : Int32 → Mem → Prop) (h : wX10_row M a1 a2 a3 Q) : Met l yX10_row uX10_row ({ frames := 3, cells := 0, slots := 0, locals := 63 }) (va_Pc [.ref (ad 0), .int a1, .int a2, .int a3] (xPre D cI cZ ad zA zD zR M)) (va_Qi Q (xAt D cI cZ ad) (xA ad)) 0 0 (xA ad) := by
  refine Met.ofW (cc := cX10_row) (maxL := 5) (ret := (some .int)) (by decide) rfl ?_
  intro p e s m args below meth c s₁ B hml hv
  obtain ⟨rfl, hP, hK, hZ, hN⟩ := hv
  have hx := B.exec
  have hb := B.bytes
  have hr := B.returns
  have hts := atoms_spec (ws := uX10_row) B.pre
  have hown : s.vm.findClass RX10 = some m.cls := findClass_of_methodNamed B.named
  have hlocks := B.notSynchronized
  have hS : va_S (xA ad) s.heap s.heap [] := va_S.rf
  have k0 := hts (.fieldLink RX10 10 "TwoEyes" "scene" "LTwoEyes$Scene;") (List.mem_cons_of_mem _ (inA_1 _ (List.mem_of_getElem? (i := 15) rfl)))
  have inX10 : ∀ w ∈ wsX100, w ∈ uX10_row := fun w h => List.mem_cons_of_mem _ (inCX10 w h)
  have k2 := hts (.fieldLink RX10 107 "TwoEyes$Picture" "missing" "[Z") (List.mem_cons_of_mem _ (inA_12 _ (List.mem_of_getElem? (i := 3) rfl)))
  have inX4 : ∀ w ∈ wsX40, w ∈ uX10_row := fun w h => List.mem_cons_of_mem _ (inCX4 w h)
  have J45 : ∀ (M : Mem) (H : Heap) (locs : List Loc) (ls : Array Slot), lv_has ls 5 [(0, .ref (ad 0))] → va_P D vwCl (xW cI cZ ad M) H → va_S (xA ad) s.heap H locs → wX10_row_J45 Q M → GX10_row p l e s m below meth c D cI cZ ad a1 a2 a3 Q H locs (F0 m 45 ls []) := by
    intro M H locs ls hl hP hS h
    refine lv_aload_n hx hb dX10_row_45 rfl (lv_at hl 0 rfl) ?_
    refine x_callVv (As := []) (rest := []) ⟨hx, hb, hml, hown, hts⟩ (kX10_forgetAll l D cI cZ ad zA zD zR hD M _ h) (cwV 0 hts (gdV uS (inA_8 _ (List.mem_of_getElem? (i := 8) rfl)) vX10_forgetAll) rfl rfl rfl (by decide +kernel) ⟨Nat.le_of_ble_eq_true rfl, Nat.le_of_ble_eq_true rfl⟩) (va_recv hK hP (ci := 10) (q0 := 0) rfl (xW_0 cI cZ ad M)) hP hK hZ hN hS hl.1 rfl rfl (Nat.le_of_ble_eq_true rfl) dX10_row_46 (fun M46 H locs h hP hS => ?_)
    refine lv_iconst (v := 1) hx hb dX10_row_49 (by decide) ?_
    exact W.iret (v := 1) hx hb hr (fun t ht hW => ⟨⟨1, M46, rfl, h, xAt_of ht hP⟩, hS.F ht⟩) hS.2.2 dX10_row_50
  have hl := lv_entry ([.ref (ad 0), .int a1, .int a2, .int a3]) (n := 5) (Nat.le_of_ble_eq_true rfl)
  rw [lg_entry_eq]
  generalize (lg_sl ([.ref (ad 0), .int a1, .int a2, .int a3]) ++ List.replicate (5 - (lg_sl ([.ref (ad 0), .int a1, .int a2, .int a3])).length) Slot.unset).toArray = ls at hl ⊢
  have hl : lv_has ls 5 [(0, .ref (ad 0)), (1, .int a1), (2, .int a2), (3, .int a3)] := hl
  refine lv_aload_n hx hb dX10_row_0 rfl (lv_at hl 0 rfl) ?_
  refine va_get (D := D) (ci := 10) (v := .ref (ad 1)) (C := RX10) (T := TX10) (N := 11) hx hb hts inX10 hown hK hP 0 (xW_0 cI cZ ad M) rfl 0 (by decide) k0 (fun _ h9 => h9) rfl dX10_row_1 ?_
  refine lv_iload_n hx hb dX10_row_4 rfl (lv_at hl 1 rfl) ?_
  refine lv_iload_n hx hb dX10_row_5 rfl (lv_at hl 2 rfl) ?_
  refine x_callVi (As := [.int a1, .int a2]) (rest := []) ⟨hx, hb, hml, hown, hts⟩ (kX6_hasRow l D cI cZ ad zA zD zR hD M a1 a2 _ h) (cwV 2 hts (gdV uS (inA_12 _ (List.mem_of_getElem? (i := 4) rfl)) vX6_hasRow) rfl rfl rfl (by decide +kernel) ⟨Nat.le_of_ble_eq_true rfl, Nat.le_of_ble_eq_true rfl⟩) (va_recv hK hP (ci := 6) (q0 := 1) rfl (xW_1 cI cZ ad M)) hP hK hZ hN hS hl.1 rfl rfl (Nat.le_of_ble_eq_true rfl) dX10_row_6 (fun r6 M6 H locs h hP hS => ?_)
  refine lv_if_ne (tgt := 14) hx hb dX10_row_9 (by decide) (fun q9 => ?_) (fun q9 => ?_)
  · have h := h.1 q9
    refine lv_aload_n hx hb dX10_row_14 rfl (lv_at hl 0 rfl) ?_
    refine va_get (D := D) (ci := 10) (v := .ref (ad 1)) (C := RX10) (T := TX10) (N := 11) hx hb hts inX10 hown hK hP 0 (xW_0 cI cZ ad M6) rfl 0 (by decide) k0 (fun _ h9 => h9) rfl dX10_row_15 ?_
    refine lv_iload_n hx hb dX10_row_18 rfl (lv_at hl 1 rfl) ?_
    by_cases q19 : a1 = 0
    · have h := h.1 q19
      refine x_callR (As := [.int a1]) (rest := []) ⟨hx, hb, hml, hown, hts⟩ (cX6_pictureOf_L l D cI cZ ad zA zD zR M6 a1 q19) (cwV 1 hts (gdV uS (inA_10 _ (List.mem_of_getElem? (i := 13) rfl)) vX6_pictureOf) rfl rfl rfl (by decide +kernel) ⟨Nat.le_of_ble_eq_true rfl, Nat.le_of_ble_eq_true rfl⟩) (va_recv hK hP (ci := 6) (q0 := 1) rfl (xW_1 cI cZ ad M6)) hP hK hZ hN hS hl.1 rfl rfl (Nat.le_of_ble_eq_true rfl) dX10_row_19 (fun H locs hP hS => ?_)
      refine lv_astore (lv' := [(4, .ref (ad 2)), (0, .ref (ad 0)), (1, .int a1), (2, .int a2), (3, .int a3)]) hx hb dX10_row_22 hl (by decide) rfl (fun ls hl => ?_)
      refine lv_aload hx hb dX10_row_24 (lv_at hl 0 rfl) ?_
      refine va_get (D := D) (ci := 4) (v := .ref (ad 4)) (C := RX4) (T := TX4) (N := 2) hx hb hts inX4 hown hK hP 2 (xW_2 cI cZ ad M6) rfl 1 (by decide) k2 (fun _ h9 => h9) rfl dX10_row_26 ?_
      refine lv_iload_n hx hb dX10_row_29 rfl (lv_at hl 3 rfl) ?_
      obtain ⟨hi30, h⟩ := h
      refine va_zald hx hb hK hP 4 1 (xW_4 cI cZ ad M6) rfl hi30 dX10_row_30 ?_
      refine lv_iload_n hx hb dX10_row_31 rfl (lv_at hl 4 rfl) ?_
      refine lv_icmp_ne (tgt := 37) hx hb dX10_row_32 (by decide) (fun q32 => ?_) (fun q32 => ?_)
      · have h := h.1 q32
        refine lv_aload hx hb dX10_row_37 (lv_at hl 0 rfl) ?_
        refine va_get (D := D) (ci := 4) (v := .ref (ad 4)) (C := RX4) (T := TX4) (N := 2) hx hb hts inX4 hown hK hP 2 (xW_2 cI cZ ad M6) rfl 1 (by decide) k2 (fun _ h9 => h9) rfl dX10_row_39 ?_
        refine lv_iload_n hx hb dX10_row_42 rfl (lv_at hl 3 rfl) ?_
        refine lv_iload_n hx hb dX10_row_43 rfl (lv_at hl 4 rfl) ?_
        obtain ⟨hi44, h⟩ := h
        obtain ⟨hz44, h⟩ := h
        refine va_zast hx hb hK hP (hD M6) hS 4 1 (xW_4 cI cZ ad M6) rfl hi44 dX10_row_44 (fun H locs hP _ hS => ?_)
        rw [zst hz44] at hP
        refine xQ_4 hP (fun M44 eM44 hP => ?_)
        have h := h M44 eM44
        exact J45 M44 _ _ _ (lv_sub hl [1] rfl) hP hS h
      · have h := h.2 q32
        refine lv_iconst (v := 0) hx hb dX10_row_35 (by decide) ?_
        exact W.iret (v := 0) hx hb hr (fun t ht hW => ⟨⟨0, M6, rfl, h, xAt_of ht hP⟩, hS.F ht⟩) hS.2.2 dX10_row_36
    · have h := h.2 q19
      refine x_callR (As := [.int a1]) (rest := []) ⟨hx, hb, hml, hown, hts⟩ (cX6_pictureOf_R l D cI cZ ad zA zD zR M6 a1 q19) (cwV 1 hts (gdV uS (inA_10 _ (List.mem_of_getElem? (i := 13) rfl)) vX6_pictureOf) rfl rfl rfl (by decide +kernel) ⟨Nat.le_of_ble_eq_true rfl, Nat.le_of_ble_eq_true rfl⟩) (va_recv hK hP (ci := 6) (q0 := 1) rfl (xW_1 cI cZ ad M6)) hP hK hZ hN hS hl.1 rfl rfl (Nat.le_of_ble_eq_true rfl) dX10_row_19 (fun H locs hP hS => ?_)
      refine lv_astore (lv' := [(4, .ref (ad 5)), (0, .ref (ad 0)), (1, .int a1), (2, .int a2), (3, .int a3)]) hx hb dX10_row_22 hl (by decide) rfl (fun ls hl => ?_)
      refine lv_aload hx hb dX10_row_24 (lv_at hl 0 rfl) ?_
      refine va_get (D := D) (ci := 4) (v := .ref (ad 7)) (C := RX4) (T := TX4) (N := 2) hx hb hts inX4 hown hK hP 5 (xW_5 cI cZ ad M6) rfl 1 (by decide) k2 (fun _ h9 => h9) rfl dX10_row_26 ?_
      refine lv_iload_n hx hb dX10_row_29 rfl (lv_at hl 3 rfl) ?_
      obtain ⟨hi30, h⟩ := h
      refine va_zald hx hb hK hP 7 1 (xW_7 cI cZ ad M6) rfl hi30 dX10_row_30 ?_
      refine lv_iload_n hx hb dX10_row_31 rfl (lv_at hl 4 rfl) ?_
      refine lv_icmp_ne (tgt := 37) hx hb dX10_row_32 (by decide) (fun q32 => ?_) (fun q32 => ?_)
      · have h := h.1 q32
        refine lv_aload hx hb dX10_row_37 (lv_at hl 0 rfl) ?_
        refine va_get (D := D) (ci := 4) (v := .ref (ad 7)) (C := RX4) (T := TX4) (N := 2) hx hb hts inX4 hown hK hP 5 (xW_5 cI cZ ad M6) rfl 1 (by decide) k2 (fun _ h9 => h9) rfl dX10_row_39 ?_
        refine lv_iload_n hx hb dX10_row_42 rfl (lv_at hl 3 rfl) ?_
        refine lv_iload_n hx hb dX10_row_43 rfl (lv_at hl 4 rfl) ?_
        obtain ⟨hi44, h⟩ := h
        obtain ⟨hz44, h⟩ := h
        refine va_zast hx hb hK hP (hD M6) hS 7 1 (xW_7 cI cZ ad M6) rfl hi44 dX10_row_44 (fun H locs hP _ hS => ?_)
        rw [zst hz44] at hP
        refine xQ_7 hP (fun M44 eM44 hP => ?_)
        have h := h M44 eM44
        exact J45 M44 _ _ _ (lv_sub hl [1] rfl) hP hS h
      · have h := h.2 q32
        refine lv_iconst (v := 0) hx hb dX10_row_35 (by decide) ?_
        exact W.iret (v := 0) hx hb hr (fun t ht hW => ⟨⟨0, M6, rfl, h, xAt_of ht hP⟩, hS.F ht⟩) hS.2.2 dX10_row_36
  · have h := h.2 q9
    refine lv_iconst (v := (-1)) hx hb dX10_row_12 (by decide) ?_
    exact W.iret (v := (-1)) hx hb hr (fun t ht hW => ⟨⟨(-1), M6, rfl, h, xAt_of ht hP⟩, hS.F ht⟩) hS.2.2 dX10_row_13
set_option maxHeartbeats 4000000 in
set_option maxRecDepth 100000 in
theorem kX6_hasColumns (l : Launch) (D : va_G) (cI cZ : ClassId) (ad : Nat → Nat) (zA zD zR : Nat) (hD : ∀ M : Mem, va_D (xA ad) (xW cI cZ ad M)) (M : Mem) (a1 a2 : Int32) (Q : Int32 → Mem → Prop) (h : wX6_hasColumns M a1 a2 Q) : Met l yX6_hasColumns uX6_hasColumns ({ frames := 0, cells := 0, slots := 0, locals := 0 }) (va_Pc [.ref (ad 1), .int a1, .int a2] (xPre D cI cZ ad zA zD zR M)) (va_Qi Q (xAt D cI cZ ad) (xA ad)) 0 0 (xA ad) := by
  refine Met.ofW (cc := cX6_hasColumns) (maxL := 3) (ret := (some .boolean)) (by decide) rfl ?_
  intro p e s m args below meth c s₁ B hml hv
  obtain ⟨rfl, hP, hK, hZ, hN⟩ := hv
  have hx := B.exec
  have hb := B.bytes
  have hr := B.returns
  have hts := atoms_spec (ws := uX6_hasColumns) B.pre
  have hown : s.vm.findClass RX6 = some m.cls := findClass_of_methodNamed B.named
  have hlocks := B.notSynchronized
  have hS : va_S (xA ad) s.heap s.heap [] := va_S.rf
  have k0 := hts (.fieldLink RX6 9 "TwoEyes$Scene" "width" "I") (List.mem_cons_of_mem _ (inA_3 _ (List.mem_of_getElem? (i := 4) rfl)))
  have inX6 : ∀ w ∈ wsX60, w ∈ uX6_hasColumns := fun w h => List.mem_cons_of_mem _ (inCX6 w h)
  have hl := lv_entry ([.ref (ad 1), .int a1, .int a2]) (n := 3) (Nat.le_of_ble_eq_true rfl)
  rw [lg_entry_eq]
  generalize (lg_sl ([.ref (ad 1), .int a1, .int a2]) ++ List.replicate (3 - (lg_sl ([.ref (ad 1), .int a1, .int a2])).length) Slot.unset).toArray = ls at hl ⊢
  have hl : lv_has ls 3 [(0, .ref (ad 1)), (1, .int a1), (2, .int a2)] := hl
  refine lv_iload_n hx hb dX6_hasColumns_0 rfl (lv_at hl 1 rfl) ?_
  refine lv_if_lt (tgt := 26) hx hb dX6_hasColumns_1 (by decide) (fun q1 => ?_) (fun q1 => ?_)
  · have h := h.1 q1
    refine lv_iconst (v := 0) hx hb dX6_hasColumns_26 (by decide) ?_
    exact W.zret (v := 0) hx hb hr rfl (fun t ht hW => ⟨⟨0, M, rfl, h, xAt_of ht hP⟩, hS.F ht⟩) hS.2.2 dX6_hasColumns_27
  · have h := h.2 q1
    refine lv_iload_n hx hb dX6_hasColumns_4 rfl (lv_at hl 1 rfl) ?_
    refine lv_aload_n hx hb dX6_hasColumns_5 rfl (lv_at hl 0 rfl) ?_
    refine va_get (D := D) (ci := 6) (v := .int (M 1 0)) (C := RX6) (T := TX6) (N := 5) hx hb hts inX6 hown hK hP 1 (xW_1 cI cZ ad M) rfl 0 (by decide) k0 (fun _ h9 => h9) rfl dX6_hasColumns_6 ?_
    refine lv_icmp_gt (tgt := 26) hx hb dX6_hasColumns_9 (by decide) (fun q9 => ?_) (fun q9 => ?_)
    · have h := h.1 q9
      refine lv_iconst (v := 0) hx hb dX6_hasColumns_26 (by decide) ?_
      exact W.zret (v := 0) hx hb hr rfl (fun t ht hW => ⟨⟨0, M, rfl, h, xAt_of ht hP⟩, hS.F ht⟩) hS.2.2 dX6_hasColumns_27
    · have h := h.2 q9
      refine lv_iload_n hx hb dX6_hasColumns_12 rfl (lv_at hl 2 rfl) ?_
      refine lv_aload_n hx hb dX6_hasColumns_13 rfl (lv_at hl 0 rfl) ?_
      refine va_get (D := D) (ci := 6) (v := .int (M 1 0)) (C := RX6) (T := TX6) (N := 5) hx hb hts inX6 hown hK hP 1 (xW_1 cI cZ ad M) rfl 0 (by decide) k0 (fun _ h9 => h9) rfl dX6_hasColumns_14 ?_
      refine lv_iload_n hx hb dX6_hasColumns_17 rfl (lv_at hl 1 rfl) ?_
      refine lv_isub hx hb dX6_hasColumns_18 ?_
      refine lv_icmp_gt (tgt := 26) hx hb dX6_hasColumns_19 (by decide) (fun q19 => ?_) (fun q19 => ?_)
      · have h := h.1 q19
        refine lv_iconst (v := 0) hx hb dX6_hasColumns_26 (by decide) ?_
        exact W.zret (v := 0) hx hb hr rfl (fun t ht hW => ⟨⟨0, M, rfl, h, xAt_of ht hP⟩, hS.F ht⟩) hS.2.2 dX6_hasColumns_27
      · have h := h.2 q19
        refine lv_iconst (v := 1) hx hb dX6_hasColumns_22 (by decide) ?_
        refine lv_goto (tgt := 27) hx hb dX6_hasColumns_23 (by decide) ?_
        exact W.zret (v := 1) hx hb hr rfl (fun t ht hW => ⟨⟨1, M, rfl, h, xAt_of ht hP⟩, hS.F ht⟩) hS.2.2 dX6_hasColumns_27
abbrev GX10_copy (p : Program) (l : Launch) (e : Env) (s : State) (m : MethodId) (below : List Frame) (meth : Method) (c : Code) (D : va_G) (cI cZ : ClassId) (ad : Nat → Nat) (a1 a2 a3 a4 a5 a6 a7 : Int32) (Q : Int32 → Mem → Prop) (H : Heap) (locs : List Loc) (g : JFrame) : Prop := W p l e (headSpec uX10_copy { frames := 3, cells := 0, slots := 0, locals := 63 }).room s m ([.ref (ad 0), .int a1, .int a2, .int a3, .int a4, .int a5, .int a6, .int a7] : List Value).toArray below meth c H locs 0 0 (MQ below (va_Qi Q (xAt D cI cZ ad) (xA ad)) ([.ref (ad 0), .int a1, .int a2, .int a3, .int a4, .int a5, .int a6, .int a7] : List Value).toArray s 0 0 (xA ad)) g
set_option maxHeartbeats 4000000 in
set_option maxRecDepth 100000 in
theorem kX10_copy (l : Launch) (D : va_G) (cI cZ : ClassId) (ad : Nat → Nat) (zA zD zR : Nat) (hD : ∀ M : Mem, va_D (xA ad) (xW cI cZ ad M)) (M : Mem) (a1 a2 a3 a4 a5 a6 a7 : Int32) (Q : Int32 → Mem → Prop) (h : wX10_copy M a1 a2 a3 a4 a5 a6 a7 Q) : Met l yX10_copy uX10_copy ({ frames := 3, cells := 0, slots := 0, locals := 63 }) (va_Pc [.ref (ad 0), .int a1, .int a2, .int a3, .int a4, .int a5, .int a6, .int a7] (xPre D cI cZ ad zA zD zR M)) (va_Qi Q (xAt D cI cZ ad) (xA ad)) 0 0 (xA ad) := by
  refine Met.ofW (cc := cX10_copy) (maxL := 10) (ret := (some .int)) (by decide) rfl ?_
  intro p e s m args below meth c s₁ B hml hv
  obtain ⟨rfl, hP, hK, hZ, hN⟩ := hv
  have hx := B.exec
  have hb := B.bytes
  have hr := B.returns
  have hts := atoms_spec (ws := uX10_copy) B.pre
  have hown : s.vm.findClass RX10 = some m.cls := findClass_of_methodNamed B.named
  have hlocks := B.notSynchronized
  have hS : va_S (xA ad) s.heap s.heap [] := va_S.rf
  have k0 := hts (.fieldLink RX10 10 "TwoEyes" "scene" "LTwoEyes$Scene;") (List.mem_cons_of_mem _ (inA_1 _ (List.mem_of_getElem? (i := 15) rfl)))
  have inX10 : ∀ w ∈ wsX100, w ∈ uX10_copy := fun w h => List.mem_cons_of_mem _ (inCX10 w h)
  have k2 := hts (.fieldLink RX10 107 "TwoEyes$Picture" "missing" "[Z") (List.mem_cons_of_mem _ (inA_12 _ (List.mem_of_getElem? (i := 3) rfl)))
  have inX4 : ∀ w ∈ wsX40, w ∈ uX10_copy := fun w h => List.mem_cons_of_mem _ (inCX4 w h)
  have k4 := hts (.fieldLink RX10 91 "TwoEyes$Picture" "squares" "[I") (List.mem_cons_of_mem _ (inA_9 _ (List.mem_of_getElem? (i := 11) rfl)))
  have k5 := hts (.methodLink RX10 114 arraycopyName) (List.mem_cons_of_mem _ (inA_12 _ (List.mem_of_getElem? (i := 13) rfl)))
  have k6 := hts (.native arraycopyName) (List.mem_cons_of_mem _ (inA_12 _ (List.mem_of_getElem? (i := 14) rfl)))
  have k7 := hts (.static arraycopyName) (List.mem_cons_of_mem _ (inA_12 _ (List.mem_of_getElem? (i := 15) rfl)))
  have k8 := hts (.initialized "java/lang/System") (List.mem_cons_of_mem _ (inA_12 _ (List.mem_of_getElem? (i := 16) rfl)))
  have J145 : ∀ (x4 : Int32) (M : Mem) (H : Heap) (locs : List Loc) (ls : Array Slot), lv_has ls 10 [(0, .ref (ad 0)), (4, .int x4)] → va_P D vwCl (xW cI cZ ad M) H → va_S (xA ad) s.heap H locs → wX10_copy_J145 Q x4 M → GX10_copy p l e s m below meth c D cI cZ ad a1 a2 a3 a4 a5 a6 a7 Q H locs (F0 m 145 ls []) := by
    intro x4 M H locs ls hl hP hS h
    refine lv_aload_n hx hb dX10_copy_145 rfl (lv_at hl 0 rfl) ?_
    refine x_callVv (As := []) (rest := []) ⟨hx, hb, hml, hown, hts⟩ (kX10_forgetAll l D cI cZ ad zA zD zR hD M _ h) (cwV 0 hts (gdV uS (inA_8 _ (List.mem_of_getElem? (i := 8) rfl)) vX10_forgetAll) rfl rfl rfl (by decide +kernel) ⟨Nat.le_of_ble_eq_true rfl, Nat.le_of_ble_eq_true rfl⟩) (va_recv hK hP (ci := 10) (q0 := 0) rfl (xW_0 cI cZ ad M)) hP hK hZ hN hS hl.1 rfl rfl (Nat.le_of_ble_eq_true rfl) dX10_copy_146 (fun M146 H locs h hP hS => ?_)
    refine lv_iload hx hb dX10_copy_149 (lv_at hl 1 rfl) ?_
    exact W.iret (v := x4) hx hb hr (fun t ht hW => ⟨⟨x4, M146, rfl, h, xAt_of ht hP⟩, hS.F ht⟩) hS.2.2 dX10_copy_151
  have hl := lv_entry ([.ref (ad 0), .int a1, .int a2, .int a3, .int a4, .int a5, .int a6, .int a7]) (n := 10) (Nat.le_of_ble_eq_true rfl)
  rw [lg_entry_eq]
  generalize (lg_sl ([.ref (ad 0), .int a1, .int a2, .int a3, .int a4, .int a5, .int a6, .int a7]) ++ List.replicate (10 - (lg_sl ([.ref (ad 0), .int a1, .int a2, .int a3, .int a4, .int a5, .int a6, .int a7])).length) Slot.unset).toArray = ls at hl ⊢
  have hl : lv_has ls 10 [(0, .ref (ad 0)), (1, .int a1), (2, .int a2), (3, .int a3), (4, .int a4), (5, .int a5), (6, .int a6), (7, .int a7)] := hl
  refine lv_aload_n hx hb dX10_copy_0 rfl (lv_at hl 0 rfl) ?_
  refine va_get (D := D) (ci := 10) (v := .ref (ad 1)) (C := RX10) (T := TX10) (N := 11) hx hb hts inX10 hown hK hP 0 (xW_0 cI cZ ad M) rfl 0 (by decide) k0 (fun _ h9 => h9) rfl dX10_copy_1 ?_
  refine lv_iload_n hx hb dX10_copy_4 rfl (lv_at hl 1 rfl) ?_
  refine lv_iload_n hx hb dX10_copy_5 rfl (lv_at hl 3 rfl) ?_
  refine x_callVi (As := [.int a1, .int a3]) (rest := []) ⟨hx, hb, hml, hown, hts⟩ (kX6_hasRow l D cI cZ ad zA zD zR hD M a1 a3 _ h) (cwV 2 hts (gdV uS (inA_12 _ (List.mem_of_getElem? (i := 4) rfl)) vX6_hasRow) rfl rfl rfl (by decide +kernel) ⟨Nat.le_of_ble_eq_true rfl, Nat.le_of_ble_eq_true rfl⟩) (va_recv hK hP (ci := 6) (q0 := 1) rfl (xW_1 cI cZ ad M)) hP hK hZ hN hS hl.1 rfl rfl (Nat.le_of_ble_eq_true rfl) dX10_copy_6 (fun r6 M6 H locs h hP hS => ?_)
  refine lv_if_eq (tgt := 26) hx hb dX10_copy_9 (by decide) (fun q9 => ?_) (fun q9 => ?_)
  · have h := h.1 q9
    refine lv_iconst (v := (-1)) hx hb dX10_copy_26 (by decide) ?_
    exact W.iret (v := (-1)) hx hb hr (fun t ht hW => ⟨⟨(-1), M6, rfl, h, xAt_of ht hP⟩, hS.F ht⟩) hS.2.2 dX10_copy_27
  · have h := h.2 q9
    refine lv_aload_n hx hb dX10_copy_12 rfl (lv_at hl 0 rfl) ?_
    refine va_get (D := D) (ci := 10) (v := .ref (ad 1)) (C := RX10) (T := TX10) (N := 11) hx hb hts inX10 hown hK hP 0 (xW_0 cI cZ ad M6) rfl 0 (by decide) k0 (fun _ h9 => h9) rfl dX10_copy_13 ?_
    refine lv_iload hx hb dX10_copy_16 (lv_at hl 5 rfl) ?_
    refine lv_iload hx hb dX10_copy_18 (lv_at hl 7 rfl) ?_
    refine x_callVi (As := [.int a5, .int a7]) (rest := []) ⟨hx, hb, hml, hown, hts⟩ (kX6_hasRow l D cI cZ ad zA zD zR hD M6 a5 a7 _ h) (cwV 2 hts (gdV uS (inA_12 _ (List.mem_of_getElem? (i := 4) rfl)) vX6_hasRow) rfl rfl rfl (by decide +kernel) ⟨Nat.le_of_ble_eq_true rfl, Nat.le_of_ble_eq_true rfl⟩) (va_recv hK hP (ci := 6) (q0 := 1) rfl (xW_1 cI cZ ad M6)) hP hK hZ hN hS hl.1 rfl rfl (Nat.le_of_ble_eq_true rfl) dX10_copy_20 (fun r20 M20 H locs h hP hS => ?_)
    refine lv_if_ne (tgt := 28) hx hb dX10_copy_23 (by decide) (fun q23 => ?_) (fun q23 => ?_)
    · have h := h.1 q23
      refine lv_aload_n hx hb dX10_copy_28 rfl (lv_at hl 0 rfl) ?_
      refine va_get (D := D) (ci := 10) (v := .ref (ad 1)) (C := RX10) (T := TX10) (N := 11) hx hb hts inX10 hown hK hP 0 (xW_0 cI cZ ad M20) rfl 0 (by decide) k0 (fun _ h9 => h9) rfl dX10_copy_29 ?_
      refine lv_iload_n hx hb dX10_copy_32 rfl (lv_at hl 1 rfl) ?_
      by_cases q33 : a1 = 0
      · have h := h.1 q33
        refine x_callR (As := [.int a1]) (rest := []) ⟨hx, hb, hml, hown, hts⟩ (cX6_pictureOf_L l D cI cZ ad zA zD zR M20 a1 q33) (cwV 1 hts (gdV uS (inA_10 _ (List.mem_of_getElem? (i := 13) rfl)) vX6_pictureOf) rfl rfl rfl (by decide +kernel) ⟨Nat.le_of_ble_eq_true rfl, Nat.le_of_ble_eq_true rfl⟩) (va_recv hK hP (ci := 6) (q0 := 1) rfl (xW_1 cI cZ ad M20)) hP hK hZ hN hS hl.1 rfl rfl (Nat.le_of_ble_eq_true rfl) dX10_copy_33 (fun H locs hP hS => ?_)
        refine lv_astore (lv' := [(8, .ref (ad 2)), (0, .ref (ad 0)), (1, .int a1), (2, .int a2), (3, .int a3), (4, .int a4), (5, .int a5), (6, .int a6), (7, .int a7)]) hx hb dX10_copy_36 hl (by decide) rfl (fun ls hl => ?_)
        refine lv_aload_n hx hb dX10_copy_38 rfl (lv_at hl 1 rfl) ?_
        refine va_get (D := D) (ci := 10) (v := .ref (ad 1)) (C := RX10) (T := TX10) (N := 11) hx hb hts inX10 hown hK hP 0 (xW_0 cI cZ ad M20) rfl 0 (by decide) k0 (fun _ h9 => h9) rfl dX10_copy_39 ?_
        refine lv_iload hx hb dX10_copy_42 (lv_at hl 6 rfl) ?_
        by_cases q44 : a5 = 0
        · have h := h.1 q44
          refine x_callR (As := [.int a5]) (rest := []) ⟨hx, hb, hml, hown, hts⟩ (cX6_pictureOf_L l D cI cZ ad zA zD zR M20 a5 q44) (cwV 1 hts (gdV uS (inA_10 _ (List.mem_of_getElem? (i := 13) rfl)) vX6_pictureOf) rfl rfl rfl (by decide +kernel) ⟨Nat.le_of_ble_eq_true rfl, Nat.le_of_ble_eq_true rfl⟩) (va_recv hK hP (ci := 6) (q0 := 1) rfl (xW_1 cI cZ ad M20)) hP hK hZ hN hS hl.1 rfl rfl (Nat.le_of_ble_eq_true rfl) dX10_copy_44 (fun H locs hP hS => ?_)
          refine lv_astore (lv' := [(9, .ref (ad 2)), (8, .ref (ad 2)), (0, .ref (ad 0)), (1, .int a1), (2, .int a2), (3, .int a3), (4, .int a4), (5, .int a5), (6, .int a6), (7, .int a7)]) hx hb dX10_copy_47 hl (by decide) rfl (fun ls hl => ?_)
          refine lv_aload hx hb dX10_copy_49 (lv_at hl 1 rfl) ?_
          refine va_get (D := D) (ci := 4) (v := .ref (ad 4)) (C := RX4) (T := TX4) (N := 2) hx hb hts inX4 hown hK hP 2 (xW_2 cI cZ ad M20) rfl 1 (by decide) k2 (fun _ h9 => h9) rfl dX10_copy_51 ?_
          refine lv_iload_n hx hb dX10_copy_54 rfl (lv_at hl 5 rfl) ?_
          obtain ⟨hi55, h⟩ := h
          refine va_zald hx hb hK hP 4 1 (xW_4 cI cZ ad M20) rfl hi55 dX10_copy_55 ?_
          refine lv_if_ne (tgt := 70) hx hb dX10_copy_56 (by decide) (fun q56 => ?_) (fun q56 => ?_)
          · have h := h.1 q56
            refine lv_bipush (v := (-2)) hx hb dX10_copy_70 (by decide) ?_
            exact W.iret (v := (-2)) hx hb hr (fun t ht hW => ⟨⟨(-2), M20, rfl, h, xAt_of ht hP⟩, hS.F ht⟩) hS.2.2 dX10_copy_72
          · have h := h.2 q56
            refine lv_aload hx hb dX10_copy_59 (lv_at hl 0 rfl) ?_
            refine va_get (D := D) (ci := 4) (v := .ref (ad 4)) (C := RX4) (T := TX4) (N := 2) hx hb hts inX4 hown hK hP 2 (xW_2 cI cZ ad M20) rfl 1 (by decide) k2 (fun _ h9 => h9) rfl dX10_copy_61 ?_
            refine lv_iload hx hb dX10_copy_64 (lv_at hl 9 rfl) ?_
            obtain ⟨hi66, h⟩ := h
            refine va_zald hx hb hK hP 4 1 (xW_4 cI cZ ad M20) rfl hi66 dX10_copy_66 ?_
            refine lv_if_eq (tgt := 73) hx hb dX10_copy_67 (by decide) (fun q67 => ?_) (fun q67 => ?_)
            · have h := h.1 q67
              refine lv_iload hx hb dX10_copy_73 (lv_at hl 6 rfl) ?_
              refine lv_if_ge (tgt := 81) hx hb dX10_copy_75 (by decide) (fun q75 => ?_) (fun q75 => ?_)
              · have h := h.1 q75
                refine lv_aload_n hx hb dX10_copy_81 rfl (lv_at hl 2 rfl) ?_
                refine va_get (D := D) (ci := 10) (v := .ref (ad 1)) (C := RX10) (T := TX10) (N := 11) hx hb hts inX10 hown hK hP 0 (xW_0 cI cZ ad M20) rfl 0 (by decide) k0 (fun _ h9 => h9) rfl dX10_copy_82 ?_
                refine lv_iload_n hx hb dX10_copy_85 rfl (lv_at hl 4 rfl) ?_
                refine lv_iload hx hb dX10_copy_86 (lv_at hl 6 rfl) ?_
                refine x_callVi (As := [.int a2, .int a4]) (rest := []) ⟨hx, hb, hml, hown, hts⟩ (kX6_hasColumns l D cI cZ ad zA zD zR hD M20 a2 a4 _ h) (cwV 2 hts (gdV uS (inA_12 _ (List.mem_of_getElem? (i := 17) rfl)) vX6_hasColumns) rfl rfl rfl (by decide +kernel) ⟨Nat.le_of_ble_eq_true rfl, Nat.le_of_ble_eq_true rfl⟩) (va_recv hK hP (ci := 6) (q0 := 1) rfl (xW_1 cI cZ ad M20)) hP hK hZ hN hS hl.1 rfl rfl (Nat.le_of_ble_eq_true rfl) dX10_copy_88 (fun r88 M88 H locs h hP hS => ?_)
                refine lv_if_eq (tgt := 108) hx hb dX10_copy_91 (by decide) (fun q91 => ?_) (fun q91 => ?_)
                · have h := h.1 q91
                  refine lv_iconst (v := (-1)) hx hb dX10_copy_108 (by decide) ?_
                  exact W.iret (v := (-1)) hx hb hr (fun t ht hW => ⟨⟨(-1), M88, rfl, h, xAt_of ht hP⟩, hS.F ht⟩) hS.2.2 dX10_copy_109
                · have h := h.2 q91
                  refine lv_aload_n hx hb dX10_copy_94 rfl (lv_at hl 2 rfl) ?_
                  refine va_get (D := D) (ci := 10) (v := .ref (ad 1)) (C := RX10) (T := TX10) (N := 11) hx hb hts inX10 hown hK hP 0 (xW_0 cI cZ ad M88) rfl 0 (by decide) k0 (fun _ h9 => h9) rfl dX10_copy_95 ?_
                  refine lv_iload hx hb dX10_copy_98 (lv_at hl 8 rfl) ?_
                  refine lv_iload hx hb dX10_copy_100 (lv_at hl 6 rfl) ?_
                  refine x_callVi (As := [.int a6, .int a4]) (rest := []) ⟨hx, hb, hml, hown, hts⟩ (kX6_hasColumns l D cI cZ ad zA zD zR hD M88 a6 a4 _ h) (cwV 2 hts (gdV uS (inA_12 _ (List.mem_of_getElem? (i := 17) rfl)) vX6_hasColumns) rfl rfl rfl (by decide +kernel) ⟨Nat.le_of_ble_eq_true rfl, Nat.le_of_ble_eq_true rfl⟩) (va_recv hK hP (ci := 6) (q0 := 1) rfl (xW_1 cI cZ ad M88)) hP hK hZ hN hS hl.1 rfl rfl (Nat.le_of_ble_eq_true rfl) dX10_copy_102 (fun r102 M102 H locs h hP hS => ?_)
                  refine lv_if_ne (tgt := 110) hx hb dX10_copy_105 (by decide) (fun q105 => ?_) (fun q105 => ?_)
                  · have h := h.1 q105
                    refine lv_aload hx hb dX10_copy_110 (lv_at hl 1 rfl) ?_
                    refine va_get (D := D) (ci := 4) (v := .ref (ad 3)) (C := RX4) (T := TX4) (N := 2) hx hb hts inX4 hown hK hP 2 (xW_2 cI cZ ad M102) rfl 0 (by decide) k4 (fun _ h9 => h9) rfl dX10_copy_112 ?_
                    refine lv_aload_n hx hb dX10_copy_115 rfl (lv_at hl 2 rfl) ?_
                    refine va_get (D := D) (ci := 10) (v := .ref (ad 1)) (C := RX10) (T := TX10) (N := 11) hx hb hts inX10 hown hK hP 0 (xW_0 cI cZ ad M102) rfl 0 (by decide) k0 (fun _ h9 => h9) rfl dX10_copy_116 ?_
                    refine lv_iload_n hx hb dX10_copy_119 rfl (lv_at hl 4 rfl) ?_
                    refine lv_iload_n hx hb dX10_copy_120 rfl (lv_at hl 5 rfl) ?_
                    refine x_callVi (As := [.int a2, .int a3]) (rest := [.ref (ad 3)]) ⟨hx, hb, hml, hown, hts⟩ (kX6_placeOf l D cI cZ ad zA zD zR hD M102 a2 a3 _ h) (cwV 2 hts (gdV uS (inA_10 _ (List.mem_of_getElem? (i := 14) rfl)) vX6_placeOf) rfl rfl rfl (by decide +kernel) ⟨Nat.le_of_ble_eq_true rfl, Nat.le_of_ble_eq_true rfl⟩) (va_recv hK hP (ci := 6) (q0 := 1) rfl (xW_1 cI cZ ad M102)) hP hK hZ hN hS hl.1 rfl rfl (Nat.le_of_ble_eq_true rfl) dX10_copy_121 (fun r121 M121 H locs h hP hS => ?_)
                    refine lv_aload hx hb dX10_copy_124 (lv_at hl 0 rfl) ?_
                    refine va_get (D := D) (ci := 4) (v := .ref (ad 3)) (C := RX4) (T := TX4) (N := 2) hx hb hts inX4 hown hK hP 2 (xW_2 cI cZ ad M121) rfl 0 (by decide) k4 (fun _ h9 => h9) rfl dX10_copy_126 ?_
                    refine lv_aload_n hx hb dX10_copy_129 rfl (lv_at hl 2 rfl) ?_
                    refine va_get (D := D) (ci := 10) (v := .ref (ad 1)) (C := RX10) (T := TX10) (N := 11) hx hb hts inX10 hown hK hP 0 (xW_0 cI cZ ad M121) rfl 0 (by decide) k0 (fun _ h9 => h9) rfl dX10_copy_130 ?_
                    refine lv_iload hx hb dX10_copy_133 (lv_at hl 8 rfl) ?_
                    refine lv_iload hx hb dX10_copy_135 (lv_at hl 9 rfl) ?_
                    refine x_callVi (As := [.int a6, .int a7]) (rest := [.ref (ad 3), .int r121, .ref (ad 3)]) ⟨hx, hb, hml, hown, hts⟩ (kX6_placeOf l D cI cZ ad zA zD zR hD M121 a6 a7 _ h) (cwV 2 hts (gdV uS (inA_10 _ (List.mem_of_getElem? (i := 14) rfl)) vX6_placeOf) rfl rfl rfl (by decide +kernel) ⟨Nat.le_of_ble_eq_true rfl, Nat.le_of_ble_eq_true rfl⟩) (va_recv hK hP (ci := 6) (q0 := 1) rfl (xW_1 cI cZ ad M121)) hP hK hZ hN hS hl.1 rfl rfl (Nat.le_of_ble_eq_true rfl) dX10_copy_137 (fun r137 M137 H locs h hP hS => ?_)
                    refine lv_iload hx hb dX10_copy_140 (lv_at hl 6 rfl) ?_
                    obtain ⟨h1142, h2142, h3142, h4142, h5142, h⟩ := h
                    refine va_copyi hx hb (hml.trans hl.1.symm) hown k5 k6 k7 k8 hK hP (hD M137) hS 3 3 0 0 (xW_3 cI cZ ad M137) (xW_3 cI cZ ad M137) rfl rfl rfl h1142 h2142 h3142 h4142 h5142 (fun _ _ => rfl) (Nat.le_of_ble_eq_true rfl) (Nat.le_of_ble_eq_true rfl) dX10_copy_142 (fun H locs hP _ hS => ?_)
                    refine xQ_3 hP (fun M142 eM142 hP => ?_)
                    have h := h M142 eM142
                    exact J145 a4 M142 _ _ _ (lv_sub hl [2, 6] rfl) hP hS h
                  · have h := h.2 q105
                    refine lv_iconst (v := (-1)) hx hb dX10_copy_108 (by decide) ?_
                    exact W.iret (v := (-1)) hx hb hr (fun t ht hW => ⟨⟨(-1), M102, rfl, h, xAt_of ht hP⟩, hS.F ht⟩) hS.2.2 dX10_copy_109
              · have h := h.2 q75
                refine lv_bipush (v := (-3)) hx hb dX10_copy_78 (by decide) ?_
                exact W.iret (v := (-3)) hx hb hr (fun t ht hW => ⟨⟨(-3), M20, rfl, h, xAt_of ht hP⟩, hS.F ht⟩) hS.2.2 dX10_copy_80
            · have h := h.2 q67
              refine lv_bipush (v := (-2)) hx hb dX10_copy_70 (by decide) ?_
              exact W.iret (v := (-2)) hx hb hr (fun t ht hW => ⟨⟨(-2), M20, rfl, h, xAt_of ht hP⟩, hS.F ht⟩) hS.2.2 dX10_copy_72
        · have h := h.2 q44
          refine x_callR (As := [.int a5]) (rest := []) ⟨hx, hb, hml, hown, hts⟩ (cX6_pictureOf_R l D cI cZ ad zA zD zR M20 a5 q44) (cwV 1 hts (gdV uS (inA_10 _ (List.mem_of_getElem? (i := 13) rfl)) vX6_pictureOf) rfl rfl rfl (by decide +kernel) ⟨Nat.le_of_ble_eq_true rfl, Nat.le_of_ble_eq_true rfl⟩) (va_recv hK hP (ci := 6) (q0 := 1) rfl (xW_1 cI cZ ad M20)) hP hK hZ hN hS hl.1 rfl rfl (Nat.le_of_ble_eq_true rfl) dX10_copy_44 (fun H locs hP hS => ?_)
          refine lv_astore (lv' := [(9, .ref (ad 5)), (8, .ref (ad 2)), (0, .ref (ad 0)), (1, .int a1), (2, .int a2), (3, .int a3), (4, .int a4), (5, .int a5), (6, .int a6), (7, .int a7)]) hx hb dX10_copy_47 hl (by decide) rfl (fun ls hl => ?_)
          refine lv_aload hx hb dX10_copy_49 (lv_at hl 1 rfl) ?_
          refine va_get (D := D) (ci := 4) (v := .ref (ad 4)) (C := RX4) (T := TX4) (N := 2) hx hb hts inX4 hown hK hP 2 (xW_2 cI cZ ad M20) rfl 1 (by decide) k2 (fun _ h9 => h9) rfl dX10_copy_51 ?_
          refine lv_iload_n hx hb dX10_copy_54 rfl (lv_at hl 5 rfl) ?_
          obtain ⟨hi55, h⟩ := h
          refine va_zald hx hb hK hP 4 1 (xW_4 cI cZ ad M20) rfl hi55 dX10_copy_55 ?_
          refine lv_if_ne (tgt := 70) hx hb dX10_copy_56 (by decide) (fun q56 => ?_) (fun q56 => ?_)
          · have h := h.1 q56
            refine lv_bipush (v := (-2)) hx hb dX10_copy_70 (by decide) ?_
            exact W.iret (v := (-2)) hx hb hr (fun t ht hW => ⟨⟨(-2), M20, rfl, h, xAt_of ht hP⟩, hS.F ht⟩) hS.2.2 dX10_copy_72
          · have h := h.2 q56
            refine lv_aload hx hb dX10_copy_59 (lv_at hl 0 rfl) ?_
            refine va_get (D := D) (ci := 4) (v := .ref (ad 7)) (C := RX4) (T := TX4) (N := 2) hx hb hts inX4 hown hK hP 5 (xW_5 cI cZ ad M20) rfl 1 (by decide) k2 (fun _ h9 => h9) rfl dX10_copy_61 ?_
            refine lv_iload hx hb dX10_copy_64 (lv_at hl 9 rfl) ?_
            obtain ⟨hi66, h⟩ := h
            refine va_zald hx hb hK hP 7 1 (xW_7 cI cZ ad M20) rfl hi66 dX10_copy_66 ?_
            refine lv_if_eq (tgt := 73) hx hb dX10_copy_67 (by decide) (fun q67 => ?_) (fun q67 => ?_)
            · have h := h.1 q67
              refine lv_iload hx hb dX10_copy_73 (lv_at hl 6 rfl) ?_
              refine lv_if_ge (tgt := 81) hx hb dX10_copy_75 (by decide) (fun q75 => ?_) (fun q75 => ?_)
              · have h := h.1 q75
                refine lv_aload_n hx hb dX10_copy_81 rfl (lv_at hl 2 rfl) ?_
                refine va_get (D := D) (ci := 10) (v := .ref (ad 1)) (C := RX10) (T := TX10) (N := 11) hx hb hts inX10 hown hK hP 0 (xW_0 cI cZ ad M20) rfl 0 (by decide) k0 (fun _ h9 => h9) rfl dX10_copy_82 ?_
                refine lv_iload_n hx hb dX10_copy_85 rfl (lv_at hl 4 rfl) ?_
                refine lv_iload hx hb dX10_copy_86 (lv_at hl 6 rfl) ?_
                refine x_callVi (As := [.int a2, .int a4]) (rest := []) ⟨hx, hb, hml, hown, hts⟩ (kX6_hasColumns l D cI cZ ad zA zD zR hD M20 a2 a4 _ h) (cwV 2 hts (gdV uS (inA_12 _ (List.mem_of_getElem? (i := 17) rfl)) vX6_hasColumns) rfl rfl rfl (by decide +kernel) ⟨Nat.le_of_ble_eq_true rfl, Nat.le_of_ble_eq_true rfl⟩) (va_recv hK hP (ci := 6) (q0 := 1) rfl (xW_1 cI cZ ad M20)) hP hK hZ hN hS hl.1 rfl rfl (Nat.le_of_ble_eq_true rfl) dX10_copy_88 (fun r88 M88 H locs h hP hS => ?_)
                refine lv_if_eq (tgt := 108) hx hb dX10_copy_91 (by decide) (fun q91 => ?_) (fun q91 => ?_)
                · have h := h.1 q91
                  refine lv_iconst (v := (-1)) hx hb dX10_copy_108 (by decide) ?_
                  exact W.iret (v := (-1)) hx hb hr (fun t ht hW => ⟨⟨(-1), M88, rfl, h, xAt_of ht hP⟩, hS.F ht⟩) hS.2.2 dX10_copy_109
                · have h := h.2 q91
                  refine lv_aload_n hx hb dX10_copy_94 rfl (lv_at hl 2 rfl) ?_
                  refine va_get (D := D) (ci := 10) (v := .ref (ad 1)) (C := RX10) (T := TX10) (N := 11) hx hb hts inX10 hown hK hP 0 (xW_0 cI cZ ad M88) rfl 0 (by decide) k0 (fun _ h9 => h9) rfl dX10_copy_95 ?_
                  refine lv_iload hx hb dX10_copy_98 (lv_at hl 8 rfl) ?_
                  refine lv_iload hx hb dX10_copy_100 (lv_at hl 6 rfl) ?_
                  refine x_callVi (As := [.int a6, .int a4]) (rest := []) ⟨hx, hb, hml, hown, hts⟩ (kX6_hasColumns l D cI cZ ad zA zD zR hD M88 a6 a4 _ h) (cwV 2 hts (gdV uS (inA_12 _ (List.mem_of_getElem? (i := 17) rfl)) vX6_hasColumns) rfl rfl rfl (by decide +kernel) ⟨Nat.le_of_ble_eq_true rfl, Nat.le_of_ble_eq_true rfl⟩) (va_recv hK hP (ci := 6) (q0 := 1) rfl (xW_1 cI cZ ad M88)) hP hK hZ hN hS hl.1 rfl rfl (Nat.le_of_ble_eq_true rfl) dX10_copy_102 (fun r102 M102 H locs h hP hS => ?_)
                  refine lv_if_ne (tgt := 110) hx hb dX10_copy_105 (by decide) (fun q105 => ?_) (fun q105 => ?_)
                  · have h := h.1 q105
                    refine lv_aload hx hb dX10_copy_110 (lv_at hl 1 rfl) ?_
                    refine va_get (D := D) (ci := 4) (v := .ref (ad 3)) (C := RX4) (T := TX4) (N := 2) hx hb hts inX4 hown hK hP 2 (xW_2 cI cZ ad M102) rfl 0 (by decide) k4 (fun _ h9 => h9) rfl dX10_copy_112 ?_
                    refine lv_aload_n hx hb dX10_copy_115 rfl (lv_at hl 2 rfl) ?_
                    refine va_get (D := D) (ci := 10) (v := .ref (ad 1)) (C := RX10) (T := TX10) (N := 11) hx hb hts inX10 hown hK hP 0 (xW_0 cI cZ ad M102) rfl 0 (by decide) k0 (fun _ h9 => h9) rfl dX10_copy_116 ?_
                    refine lv_iload_n hx hb dX10_copy_119 rfl (lv_at hl 4 rfl) ?_
                    refine lv_iload_n hx hb dX10_copy_120 rfl (lv_at hl 5 rfl) ?_
                    refine x_callVi (As := [.int a2, .int a3]) (rest := [.ref (ad 3)]) ⟨hx, hb, hml, hown, hts⟩ (kX6_placeOf l D cI cZ ad zA zD zR hD M102 a2 a3 _ h) (cwV 2 hts (gdV uS (inA_10 _ (List.mem_of_getElem? (i := 14) rfl)) vX6_placeOf) rfl rfl rfl (by decide +kernel) ⟨Nat.le_of_ble_eq_true rfl, Nat.le_of_ble_eq_true rfl⟩) (va_recv hK hP (ci := 6) (q0 := 1) rfl (xW_1 cI cZ ad M102)) hP hK hZ hN hS hl.1 rfl rfl (Nat.le_of_ble_eq_true rfl) dX10_copy_121 (fun r121 M121 H locs h hP hS => ?_)
                    refine lv_aload hx hb dX10_copy_124 (lv_at hl 0 rfl) ?_
                    refine va_get (D := D) (ci := 4) (v := .ref (ad 6)) (C := RX4) (T := TX4) (N := 2) hx hb hts inX4 hown hK hP 5 (xW_5 cI cZ ad M121) rfl 0 (by decide) k4 (fun _ h9 => h9) rfl dX10_copy_126 ?_
                    refine lv_aload_n hx hb dX10_copy_129 rfl (lv_at hl 2 rfl) ?_
                    refine va_get (D := D) (ci := 10) (v := .ref (ad 1)) (C := RX10) (T := TX10) (N := 11) hx hb hts inX10 hown hK hP 0 (xW_0 cI cZ ad M121) rfl 0 (by decide) k0 (fun _ h9 => h9) rfl dX10_copy_130 ?_
                    refine lv_iload hx hb dX10_copy_133 (lv_at hl 8 rfl) ?_
                    refine lv_iload hx hb dX10_copy_135 (lv_at hl 9 rfl) ?_
                    refine x_callVi (As := [.int a6, .int a7]) (rest := [.ref (ad 6), .int r121, .ref (ad 3)]) ⟨hx, hb, hml, hown, hts⟩ (kX6_placeOf l D cI cZ ad zA zD zR hD M121 a6 a7 _ h) (cwV 2 hts (gdV uS (inA_10 _ (List.mem_of_getElem? (i := 14) rfl)) vX6_placeOf) rfl rfl rfl (by decide +kernel) ⟨Nat.le_of_ble_eq_true rfl, Nat.le_of_ble_eq_true rfl⟩) (va_recv hK hP (ci := 6) (q0 := 1) rfl (xW_1 cI cZ ad M121)) hP hK hZ hN hS hl.1 rfl rfl (Nat.le_of_ble_eq_true rfl) dX10_copy_137 (fun r137 M137 H locs h hP hS => ?_)
                    refine lv_iload hx hb dX10_copy_140 (lv_at hl 6 rfl) ?_
                    obtain ⟨h1142, h2142, h3142, h4142, h5142, h⟩ := h
                    refine va_copyi hx hb (hml.trans hl.1.symm) hown k5 k6 k7 k8 hK hP (hD M137) hS 3 6 0 0 (xW_3 cI cZ ad M137) (xW_6 cI cZ ad M137) rfl rfl rfl h1142 h2142 h3142 h4142 h5142 (fun _ _ => rfl) (Nat.le_of_ble_eq_true rfl) (Nat.le_of_ble_eq_true rfl) dX10_copy_142 (fun H locs hP _ hS => ?_)
                    refine xQ_6 hP (fun M142 eM142 hP => ?_)
                    have h := h M142 eM142
                    exact J145 a4 M142 _ _ _ (lv_sub hl [2, 6] rfl) hP hS h
                  · have h := h.2 q105
                    refine lv_iconst (v := (-1)) hx hb dX10_copy_108 (by decide) ?_
                    exact W.iret (v := (-1)) hx hb hr (fun t ht hW => ⟨⟨(-1), M102, rfl, h, xAt_of ht hP⟩, hS.F ht⟩) hS.2.2 dX10_copy_109
              · have h := h.2 q75
                refine lv_bipush (v := (-3)) hx hb dX10_copy_78 (by decide) ?_
                exact W.iret (v := (-3)) hx hb hr (fun t ht hW => ⟨⟨(-3), M20, rfl, h, xAt_of ht hP⟩, hS.F ht⟩) hS.2.2 dX10_copy_80
            · have h := h.2 q67
              refine lv_bipush (v := (-2)) hx hb dX10_copy_70 (by decide) ?_
              exact W.iret (v := (-2)) hx hb hr (fun t ht hW => ⟨⟨(-2), M20, rfl, h, xAt_of ht hP⟩, hS.F ht⟩) hS.2.2 dX10_copy_72
      · have h := h.2 q33
        refine x_callR (As := [.int a1]) (rest := []) ⟨hx, hb, hml, hown, hts⟩ (cX6_pictureOf_R l D cI cZ ad zA zD zR M20 a1 q33) (cwV 1 hts (gdV uS (inA_10 _ (List.mem_of_getElem? (i := 13) rfl)) vX6_pictureOf) rfl rfl rfl (by decide +kernel) ⟨Nat.le_of_ble_eq_true rfl, Nat.le_of_ble_eq_true rfl⟩) (va_recv hK hP (ci := 6) (q0 := 1) rfl (xW_1 cI cZ ad M20)) hP hK hZ hN hS hl.1 rfl rfl (Nat.le_of_ble_eq_true rfl) dX10_copy_33 (fun H locs hP hS => ?_)
        refine lv_astore (lv' := [(8, .ref (ad 5)), (0, .ref (ad 0)), (1, .int a1), (2, .int a2), (3, .int a3), (4, .int a4), (5, .int a5), (6, .int a6), (7, .int a7)]) hx hb dX10_copy_36 hl (by decide) rfl (fun ls hl => ?_)
        refine lv_aload_n hx hb dX10_copy_38 rfl (lv_at hl 1 rfl) ?_
        refine va_get (D := D) (ci := 10) (v := .ref (ad 1)) (C := RX10) (T := TX10) (N := 11) hx hb hts inX10 hown hK hP 0 (xW_0 cI cZ ad M20) rfl 0 (by decide) k0 (fun _ h9 => h9) rfl dX10_copy_39 ?_
        refine lv_iload hx hb dX10_copy_42 (lv_at hl 6 rfl) ?_
        by_cases q44 : a5 = 0
        · have h := h.1 q44
          refine x_callR (As := [.int a5]) (rest := []) ⟨hx, hb, hml, hown, hts⟩ (cX6_pictureOf_L l D cI cZ ad zA zD zR M20 a5 q44) (cwV 1 hts (gdV uS (inA_10 _ (List.mem_of_getElem? (i := 13) rfl)) vX6_pictureOf) rfl rfl rfl (by decide +kernel) ⟨Nat.le_of_ble_eq_true rfl, Nat.le_of_ble_eq_true rfl⟩) (va_recv hK hP (ci := 6) (q0 := 1) rfl (xW_1 cI cZ ad M20)) hP hK hZ hN hS hl.1 rfl rfl (Nat.le_of_ble_eq_true rfl) dX10_copy_44 (fun H locs hP hS => ?_)
          refine lv_astore (lv' := [(9, .ref (ad 2)), (8, .ref (ad 5)), (0, .ref (ad 0)), (1, .int a1), (2, .int a2), (3, .int a3), (4, .int a4), (5, .int a5), (6, .int a6), (7, .int a7)]) hx hb dX10_copy_47 hl (by decide) rfl (fun ls hl => ?_)
          refine lv_aload hx hb dX10_copy_49 (lv_at hl 1 rfl) ?_
          refine va_get (D := D) (ci := 4) (v := .ref (ad 7)) (C := RX4) (T := TX4) (N := 2) hx hb hts inX4 hown hK hP 5 (xW_5 cI cZ ad M20) rfl 1 (by decide) k2 (fun _ h9 => h9) rfl dX10_copy_51 ?_
          refine lv_iload_n hx hb dX10_copy_54 rfl (lv_at hl 5 rfl) ?_
          obtain ⟨hi55, h⟩ := h
          refine va_zald hx hb hK hP 7 1 (xW_7 cI cZ ad M20) rfl hi55 dX10_copy_55 ?_
          refine lv_if_ne (tgt := 70) hx hb dX10_copy_56 (by decide) (fun q56 => ?_) (fun q56 => ?_)
          · have h := h.1 q56
            refine lv_bipush (v := (-2)) hx hb dX10_copy_70 (by decide) ?_
            exact W.iret (v := (-2)) hx hb hr (fun t ht hW => ⟨⟨(-2), M20, rfl, h, xAt_of ht hP⟩, hS.F ht⟩) hS.2.2 dX10_copy_72
          · have h := h.2 q56
            refine lv_aload hx hb dX10_copy_59 (lv_at hl 0 rfl) ?_
            refine va_get (D := D) (ci := 4) (v := .ref (ad 4)) (C := RX4) (T := TX4) (N := 2) hx hb hts inX4 hown hK hP 2 (xW_2 cI cZ ad M20) rfl 1 (by decide) k2 (fun _ h9 => h9) rfl dX10_copy_61 ?_
            refine lv_iload hx hb dX10_copy_64 (lv_at hl 9 rfl) ?_
            obtain ⟨hi66, h⟩ := h
            refine va_zald hx hb hK hP 4 1 (xW_4 cI cZ ad M20) rfl hi66 dX10_copy_66 ?_
            refine lv_if_eq (tgt := 73) hx hb dX10_copy_67 (by decide) (fun q67 => ?_) (fun q67 => ?_)
            · have h := h.1 q67
              refine lv_iload hx hb dX10_copy_73 (lv_at hl 6 rfl) ?_
              refine lv_if_ge (tgt := 81) hx hb dX10_copy_75 (by decide) (fun q75 => ?_) (fun q75 => ?_)
              · have h := h.1 q75
                refine lv_aload_n hx hb dX10_copy_81 rfl (lv_at hl 2 rfl) ?_
                refine va_get (D := D) (ci := 10) (v := .ref (ad 1)) (C := RX10) (T := TX10) (N := 11) hx hb hts inX10 hown hK hP 0 (xW_0 cI cZ ad M20) rfl 0 (by decide) k0 (fun _ h9 => h9) rfl dX10_copy_82 ?_
                refine lv_iload_n hx hb dX10_copy_85 rfl (lv_at hl 4 rfl) ?_
                refine lv_iload hx hb dX10_copy_86 (lv_at hl 6 rfl) ?_
                refine x_callVi (As := [.int a2, .int a4]) (rest := []) ⟨hx, hb, hml, hown, hts⟩ (kX6_hasColumns l D cI cZ ad zA zD zR hD M20 a2 a4 _ h) (cwV 2 hts (gdV uS (inA_12 _ (List.mem_of_getElem? (i := 17) rfl)) vX6_hasColumns) rfl rfl rfl (by decide +kernel) ⟨Nat.le_of_ble_eq_true rfl, Nat.le_of_ble_eq_true rfl⟩) (va_recv hK hP (ci := 6) (q0 := 1) rfl (xW_1 cI cZ ad M20)) hP hK hZ hN hS hl.1 rfl rfl (Nat.le_of_ble_eq_true rfl) dX10_copy_88 (fun r88 M88 H locs h hP hS => ?_)
                refine lv_if_eq (tgt := 108) hx hb dX10_copy_91 (by decide) (fun q91 => ?_) (fun q91 => ?_)
                · have h := h.1 q91
                  refine lv_iconst (v := (-1)) hx hb dX10_copy_108 (by decide) ?_
                  exact W.iret (v := (-1)) hx hb hr (fun t ht hW => ⟨⟨(-1), M88, rfl, h, xAt_of ht hP⟩, hS.F ht⟩) hS.2.2 dX10_copy_109
                · have h := h.2 q91
                  refine lv_aload_n hx hb dX10_copy_94 rfl (lv_at hl 2 rfl) ?_
                  refine va_get (D := D) (ci := 10) (v := .ref (ad 1)) (C := RX10) (T := TX10) (N := 11) hx hb hts inX10 hown hK hP 0 (xW_0 cI cZ ad M88) rfl 0 (by decide) k0 (fun _ h9 => h9) rfl dX10_copy_95 ?_
                  refine lv_iload hx hb dX10_copy_98 (lv_at hl 8 rfl) ?_
                  refine lv_iload hx hb dX10_copy_100 (lv_at hl 6 rfl) ?_
                  refine x_callVi (As := [.int a6, .int a4]) (rest := []) ⟨hx, hb, hml, hown, hts⟩ (kX6_hasColumns l D cI cZ ad zA zD zR hD M88 a6 a4 _ h) (cwV 2 hts (gdV uS (inA_12 _ (List.mem_of_getElem? (i := 17) rfl)) vX6_hasColumns) rfl rfl rfl (by decide +kernel) ⟨Nat.le_of_ble_eq_true rfl, Nat.le_of_ble_eq_true rfl⟩) (va_recv hK hP (ci := 6) (q0 := 1) rfl (xW_1 cI cZ ad M88)) hP hK hZ hN hS hl.1 rfl rfl (Nat.le_of_ble_eq_true rfl) dX10_copy_102 (fun r102 M102 H locs h hP hS => ?_)
                  refine lv_if_ne (tgt := 110) hx hb dX10_copy_105 (by decide) (fun q105 => ?_) (fun q105 => ?_)
                  · have h := h.1 q105
                    refine lv_aload hx hb dX10_copy_110 (lv_at hl 1 rfl) ?_
                    refine va_get (D := D) (ci := 4) (v := .ref (ad 6)) (C := RX4) (T := TX4) (N := 2) hx hb hts inX4 hown hK hP 5 (xW_5 cI cZ ad M102) rfl 0 (by decide) k4 (fun _ h9 => h9) rfl dX10_copy_112 ?_
                    refine lv_aload_n hx hb dX10_copy_115 rfl (lv_at hl 2 rfl) ?_
                    refine va_get (D := D) (ci := 10) (v := .ref (ad 1)) (C := RX10) (T := TX10) (N := 11) hx hb hts inX10 hown hK hP 0 (xW_0 cI cZ ad M102) rfl 0 (by decide) k0 (fun _ h9 => h9) rfl dX10_copy_116 ?_
                    refine lv_iload_n hx hb dX10_copy_119 rfl (lv_at hl 4 rfl) ?_
                    refine lv_iload_n hx hb dX10_copy_120 rfl (lv_at hl 5 rfl) ?_
                    refine x_callVi (As := [.int a2, .int a3]) (rest := [.ref (ad 6)]) ⟨hx, hb, hml, hown, hts⟩ (kX6_placeOf l D cI cZ ad zA zD zR hD M102 a2 a3 _ h) (cwV 2 hts (gdV uS (inA_10 _ (List.mem_of_getElem? (i := 14) rfl)) vX6_placeOf) rfl rfl rfl (by decide +kernel) ⟨Nat.le_of_ble_eq_true rfl, Nat.le_of_ble_eq_true rfl⟩) (va_recv hK hP (ci := 6) (q0 := 1) rfl (xW_1 cI cZ ad M102)) hP hK hZ hN hS hl.1 rfl rfl (Nat.le_of_ble_eq_true rfl) dX10_copy_121 (fun r121 M121 H locs h hP hS => ?_)
                    refine lv_aload hx hb dX10_copy_124 (lv_at hl 0 rfl) ?_
                    refine va_get (D := D) (ci := 4) (v := .ref (ad 3)) (C := RX4) (T := TX4) (N := 2) hx hb hts inX4 hown hK hP 2 (xW_2 cI cZ ad M121) rfl 0 (by decide) k4 (fun _ h9 => h9) rfl dX10_copy_126 ?_
                    refine lv_aload_n hx hb dX10_copy_129 rfl (lv_at hl 2 rfl) ?_
                    refine va_get (D := D) (ci := 10) (v := .ref (ad 1)) (C := RX10) (T := TX10) (N := 11) hx hb hts inX10 hown hK hP 0 (xW_0 cI cZ ad M121) rfl 0 (by decide) k0 (fun _ h9 => h9) rfl dX10_copy_130 ?_
                    refine lv_iload hx hb dX10_copy_133 (lv_at hl 8 rfl) ?_
                    refine lv_iload hx hb dX10_copy_135 (lv_at hl 9 rfl) ?_
                    refine x_callVi (As := [.int a6, .int a7]) (rest := [.ref (ad 3), .int r121, .ref (ad 6)]) ⟨hx, hb, hml, hown, hts⟩ (kX6_placeOf l D cI cZ ad zA zD zR hD M121 a6 a7 _ h) (cwV 2 hts (gdV uS (inA_10 _ (List.mem_of_getElem? (i := 14) rfl)) vX6_placeOf) rfl rfl rfl (by decide +kernel) ⟨Nat.le_of_ble_eq_true rfl, Nat.le_of_ble_eq_true rfl⟩) (va_recv hK hP (ci := 6) (q0 := 1) rfl (xW_1 cI cZ ad M121)) hP hK hZ hN hS hl.1 rfl rfl (Nat.le_of_ble_eq_true rfl) dX10_copy_137 (fun r137 M137 H locs h hP hS => ?_)
                    refine lv_iload hx hb dX10_copy_140 (lv_at hl 6 rfl) ?_
                    obtain ⟨h1142, h2142, h3142, h4142, h5142, h⟩ := h
                    refine va_copyi hx hb (hml.trans hl.1.symm) hown k5 k6 k7 k8 hK hP (hD M137) hS 6 3 0 0 (xW_6 cI cZ ad M137) (xW_3 cI cZ ad M137) rfl rfl rfl h1142 h2142 h3142 h4142 h5142 (fun _ _ => rfl) (Nat.le_of_ble_eq_true rfl) (Nat.le_of_ble_eq_true rfl) dX10_copy_142 (fun H locs hP _ hS => ?_)
                    refine xQ_3 hP (fun M142 eM142 hP => ?_)
                    have h := h M142 eM142
                    exact J145 a4 M142 _ _ _ (lv_sub hl [2, 6] rfl) hP hS h
                  · have h := h.2 q105
                    refine lv_iconst (v := (-1)) hx hb dX10_copy_108 (by decide) ?_
                    exact W.iret (v := (-1)) hx hb hr (fun t ht hW => ⟨⟨(-1), M102, rfl, h, xAt_of ht hP⟩, hS.F ht⟩) hS.2.2 dX10_copy_109
              · have h := h.2 q75
                refine lv_bipush (v := (-3)) hx hb dX10_copy_78 (by decide) ?_
                exact W.iret (v := (-3)) hx hb hr (fun t ht hW => ⟨⟨(-3), M20, rfl, h, xAt_of ht hP⟩, hS.F ht⟩) hS.2.2 dX10_copy_80
            · have h := h.2 q67
              refine lv_bipush (v := (-2)) hx hb dX10_copy_70 (by decide) ?_
              exact W.iret (v := (-2)) hx hb hr (fun t ht hW => ⟨⟨(-2), M20, rfl, h, xAt_of ht hP⟩, hS.F ht⟩) hS.2.2 dX10_copy_72
        · have h := h.2 q44
          refine x_callR (As := [.int a5]) (rest := []) ⟨hx, hb, hml, hown, hts⟩ (cX6_pictureOf_R l D cI cZ ad zA zD zR M20 a5 q44) (cwV 1 hts (gdV uS (inA_10 _ (List.mem_of_getElem? (i := 13) rfl)) vX6_pictureOf) rfl rfl rfl (by decide +kernel) ⟨Nat.le_of_ble_eq_true rfl, Nat.le_of_ble_eq_true rfl⟩) (va_recv hK hP (ci := 6) (q0 := 1) rfl (xW_1 cI cZ ad M20)) hP hK hZ hN hS hl.1 rfl rfl (Nat.le_of_ble_eq_true rfl) dX10_copy_44 (fun H locs hP hS => ?_)
          refine lv_astore (lv' := [(9, .ref (ad 5)), (8, .ref (ad 5)), (0, .ref (ad 0)), (1, .int a1), (2, .int a2), (3, .int a3), (4, .int a4), (5, .int a5), (6, .int a6), (7, .int a7)]) hx hb dX10_copy_47 hl (by decide) rfl (fun ls hl => ?_)
          refine lv_aload hx hb dX10_copy_49 (lv_at hl 1 rfl) ?_
          refine va_get (D := D) (ci := 4) (v := .ref (ad 7)) (C := RX4) (T := TX4) (N := 2) hx hb hts inX4 hown hK hP 5 (xW_5 cI cZ ad M20) rfl 1 (by decide) k2 (fun _ h9 => h9) rfl dX10_copy_51 ?_
          refine lv_iload_n hx hb dX10_copy_54 rfl (lv_at hl 5 rfl) ?_
          obtain ⟨hi55, h⟩ := h
          refine va_zald hx hb hK hP 7 1 (xW_7 cI cZ ad M20) rfl hi55 dX10_copy_55 ?_
          refine lv_if_ne (tgt := 70) hx hb dX10_copy_56 (by decide) (fun q56 => ?_) (fun q56 => ?_)
          · have h := h.1 q56
            refine lv_bipush (v := (-2)) hx hb dX10_copy_70 (by decide) ?_
            exact W.iret (v := (-2)) hx hb hr (fun t ht hW => ⟨⟨(-2), M20, rfl, h, xAt_of ht hP⟩, hS.F ht⟩) hS.2.2 dX10_copy_72
          · have h := h.2 q56
            refine lv_aload hx hb dX10_copy_59 (lv_at hl 0 rfl) ?_
            refine va_get (D := D) (ci := 4) (v := .ref (ad 7)) (C := RX4) (T := TX4) (N := 2) hx hb hts inX4 hown hK hP 5 (xW_5 cI cZ ad M20) rfl 1 (by decide) k2 (fun _ h9 => h9) rfl dX10_copy_61 ?_
            refine lv_iload hx hb dX10_copy_64 (lv_at hl 9 rfl) ?_
            obtain ⟨hi66, h⟩ := h
            refine va_zald hx hb hK hP 7 1 (xW_7 cI cZ ad M20) rfl hi66 dX10_copy_66 ?_
            refine lv_if_eq (tgt := 73) hx hb dX10_copy_67 (by decide) (fun q67 => ?_) (fun q67 => ?_)
            · have h := h.1 q67
              refine lv_iload hx hb dX10_copy_73 (lv_at hl 6 rfl) ?_
              refine lv_if_ge (tgt := 81) hx hb dX10_copy_75 (by decide) (fun q75 => ?_) (fun q75 => ?_)
              · have h := h.1 q75
                refine lv_aload_n hx hb dX10_copy_81 rfl (lv_at hl 2 rfl) ?_
                refine va_get (D := D) (ci := 10) (v := .ref (ad 1)) (C := RX10) (T := TX10) (N := 11) hx hb hts inX10 hown hK hP 0 (xW_0 cI cZ ad M20) rfl 0 (by decide) k0 (fun _ h9 => h9) rfl dX10_copy_82 ?_
                refine lv_iload_n hx hb dX10_copy_85 rfl (lv_at hl 4 rfl) ?_
                refine lv_iload hx hb dX10_copy_86 (lv_at hl 6 rfl) ?_
                refine x_callVi (As := [.int a2, .int a4]) (rest := []) ⟨hx, hb, hml, hown, hts⟩ (kX6_hasColumns l D cI cZ ad zA zD zR hD M20 a2 a4 _ h) (cwV 2 hts (gdV uS (inA_12 _ (List.mem_of_getElem? (i := 17) rfl)) vX6_hasColumns) rfl rfl rfl (by decide +kernel) ⟨Nat.le_of_ble_eq_true rfl, Nat.le_of_ble_eq_true rfl⟩) (va_recv hK hP (ci := 6) (q0 := 1) rfl (xW_1 cI cZ ad M20)) hP hK hZ hN hS hl.1 rfl rfl (Nat.le_of_ble_eq_true rfl) dX10_copy_88 (fun r88 M88 H locs h hP hS => ?_)
                refine lv_if_eq (tgt := 108) hx hb dX10_copy_91 (by decide) (fun q91 => ?_) (fun q91 => ?_)
                · have h := h.1 q91
                  refine lv_iconst (v := (-1)) hx hb dX10_copy_108 (by decide) ?_
                  exact W.iret (v := (-1)) hx hb hr (fun t ht hW => ⟨⟨(-1), M88, rfl, h, xAt_of ht hP⟩, hS.F ht⟩) hS.2.2 dX10_copy_109
                · have h := h.2 q91
                  refine lv_aload_n hx hb dX10_copy_94 rfl (lv_at hl 2 rfl) ?_
                  refine va_get (D := D) (ci := 10) (v := .ref (ad 1)) (C := RX10) (T := TX10) (N := 11) hx hb hts inX10 hown hK hP 0 (xW_0 cI cZ ad M88) rfl 0 (by decide) k0 (fun _ h9 => h9) rfl dX10_copy_95 ?_
                  refine lv_iload hx hb dX10_copy_98 (lv_at hl 8 rfl) ?_
                  refine lv_iload hx hb dX10_copy_100 (lv_at hl 6 rfl) ?_
                  refine x_callVi (As := [.int a6, .int a4]) (rest := []) ⟨hx, hb, hml, hown, hts⟩ (kX6_hasColumns l D cI cZ ad zA zD zR hD M88 a6 a4 _ h) (cwV 2 hts (gdV uS (inA_12 _ (List.mem_of_getElem? (i := 17) rfl)) vX6_hasColumns) rfl rfl rfl (by decide +kernel) ⟨Nat.le_of_ble_eq_true rfl, Nat.le_of_ble_eq_true rfl⟩) (va_recv hK hP (ci := 6) (q0 := 1) rfl (xW_1 cI cZ ad M88)) hP hK hZ hN hS hl.1 rfl rfl (Nat.le_of_ble_eq_true rfl) dX10_copy_102 (fun r102 M102 H locs h hP hS => ?_)
                  refine lv_if_ne (tgt := 110) hx hb dX10_copy_105 (by decide) (fun q105 => ?_) (fun q105 => ?_)
                  · have h := h.1 q105
                    refine lv_aload hx hb dX10_copy_110 (lv_at hl 1 rfl) ?_
                    refine va_get (D := D) (ci := 4) (v := .ref (ad 6)) (C := RX4) (T := TX4) (N := 2) hx hb hts inX4 hown hK hP 5 (xW_5 cI cZ ad M102) rfl 0 (by decide) k4 (fun _ h9 => h9) rfl dX10_copy_112 ?_
                    refine lv_aload_n hx hb dX10_copy_115 rfl (lv_at hl 2 rfl) ?_
                    refine va_get (D := D) (ci := 10) (v := .ref (ad 1)) (C := RX10) (T := TX10) (N := 11) hx hb hts inX10 hown hK hP 0 (xW_0 cI cZ ad M102) rfl 0 (by decide) k0 (fun _ h9 => h9) rfl dX10_copy_116 ?_
                    refine lv_iload_n hx hb dX10_copy_119 rfl (lv_at hl 4 rfl) ?_
                    refine lv_iload_n hx hb dX10_copy_120 rfl (lv_at hl 5 rfl) ?_
                    refine x_callVi (As := [.int a2, .int a3]) (rest := [.ref (ad 6)]) ⟨hx, hb, hml, hown, hts⟩ (kX6_placeOf l D cI cZ ad zA zD zR hD M102 a2 a3 _ h) (cwV 2 hts (gdV uS (inA_10 _ (List.mem_of_getElem? (i := 14) rfl)) vX6_placeOf) rfl rfl rfl (by decide +kernel) ⟨Nat.le_of_ble_eq_true rfl, Nat.le_of_ble_eq_true rfl⟩) (va_recv hK hP (ci := 6) (q0 := 1) rfl (xW_1 cI cZ ad M102)) hP hK hZ hN hS hl.1 rfl rfl (Nat.le_of_ble_eq_true rfl) dX10_copy_121 (fun r121 M121 H locs h hP hS => ?_)
                    refine lv_aload hx hb dX10_copy_124 (lv_at hl 0 rfl) ?_
                    refine va_get (D := D) (ci := 4) (v := .ref (ad 6)) (C := RX4) (T := TX4) (N := 2) hx hb hts inX4 hown hK hP 5 (xW_5 cI cZ ad M121) rfl 0 (by decide) k4 (fun _ h9 => h9) rfl dX10_copy_126 ?_
                    refine lv_aload_n hx hb dX10_copy_129 rfl (lv_at hl 2 rfl) ?_
                    refine va_get (D := D) (ci := 10) (v := .ref (ad 1)) (C := RX10) (T := TX10) (N := 11) hx hb hts inX10 hown hK hP 0 (xW_0 cI cZ ad M121) rfl 0 (by decide) k0 (fun _ h9 => h9) rfl dX10_copy_130 ?_
                    refine lv_iload hx hb dX10_copy_133 (lv_at hl 8 rfl) ?_
                    refine lv_iload hx hb dX10_copy_135 (lv_at hl 9 rfl) ?_
                    refine x_callVi (As := [.int a6, .int a7]) (rest := [.ref (ad 6), .int r121, .ref (ad 6)]) ⟨hx, hb, hml, hown, hts⟩ (kX6_placeOf l D cI cZ ad zA zD zR hD M121 a6 a7 _ h) (cwV 2 hts (gdV uS (inA_10 _ (List.mem_of_getElem? (i := 14) rfl)) vX6_placeOf) rfl rfl rfl (by decide +kernel) ⟨Nat.le_of_ble_eq_true rfl, Nat.le_of_ble_eq_true rfl⟩) (va_recv hK hP (ci := 6) (q0 := 1) rfl (xW_1 cI cZ ad M121)) hP hK hZ hN hS hl.1 rfl rfl (Nat.le_of_ble_eq_true rfl) dX10_copy_137 (fun r137 M137 H locs h hP hS => ?_)
                    refine lv_iload hx hb dX10_copy_140 (lv_at hl 6 rfl) ?_
                    obtain ⟨h1142, h2142, h3142, h4142, h5142, h⟩ := h
                    refine va_copyi hx hb (hml.trans hl.1.symm) hown k5 k6 k7 k8 hK hP (hD M137) hS 6 6 0 0 (xW_6 cI cZ ad M137) (xW_6 cI cZ ad M137) rfl rfl rfl h1142 h2142 h3142 h4142 h5142 (fun _ _ => rfl) (Nat.le_of_ble_eq_true rfl) (Nat.le_of_ble_eq_true rfl) dX10_copy_142 (fun H locs hP _ hS => ?_)
                    refine xQ_6 hP (fun M142 eM142 hP => ?_)
                    have h := h M142 eM142
                    exact J145 a4 M142 _ _ _ (lv_sub hl [2, 6] rfl) hP hS h
                  · have h := h.2 q105
                    refine lv_iconst (v := (-1)) hx hb dX10_copy_108 (by decide) ?_
                    exact W.iret (v := (-1)) hx hb hr (fun t ht hW => ⟨⟨(-1), M102, rfl, h, xAt_of ht hP⟩, hS.F ht⟩) hS.2.2 dX10_copy_109
              · have h := h.2 q75
                refine lv_bipush (v := (-3)) hx hb dX10_copy_78 (by decide) ?_
                exact W.iret (v := (-3)) hx hb hr (fun t ht hW => ⟨⟨(-3), M20, rfl, h, xAt_of ht hP⟩, hS.F ht⟩) hS.2.2 dX10_copy_80
            · have h := h.2 q67
              refine lv_bipush (v := (-2)) hx hb dX10_copy_70 (by decide) ?_
              exact W.iret (v := (-2)) hx hb hr (fun t ht hW => ⟨⟨(-2), M20, rfl, h, xAt_of ht hP⟩, hS.F ht⟩) hS.2.2 dX10_copy_72
    · have h := h.2 q23
      refine lv_iconst (v := (-1)) hx hb dX10_copy_26 (by decide) ?_
      exact W.iret (v := (-1)) hx hb hr (fun t ht hW => ⟨⟨(-1), M20, rfl, h, xAt_of ht hP⟩, hS.F ht⟩) hS.2.2 dX10_copy_27
set_option maxHeartbeats 4000000 in
set_option maxRecDepth 100000 in
theorem kX10_told (l : Launch) (D : va_G) (cI cZ : ClassId) (ad : Nat → Nat) (zA zD zR : Nat) (hD : ∀ M : Mem, va_D (xA ad) (xW cI cZ ad M)) (M : Mem) (a1 a2 a3 : Int32) (Q : Int32 → Mem → Prop) (h : wX10_told M a1 a2 a3 Q) : Met l yX10_told uX10_told ({ frames := 1, cells := 0, slots := 0, locals := 24 }) (va_Pc [.ref (ad 0), .int a1, .int a2, .int a3] (xPre D cI cZ ad zA zD zR M)) (va_Qi Q (xAt D cI cZ ad) (xA ad)) 0 0 (xA ad) := by
  refine Met.ofW (cc := cX10_told) (maxL := 4) (ret := (some .int)) (by decide) rfl ?_
  intro p e s m args below meth c s₁ B hml hv
  obtain ⟨rfl, hP, hK, hZ, hN⟩ := hv
  have hx := B.exec
  have hb := B.bytes
  have hr := B.returns
  have hts := atoms_spec (ws := uX10_told) B.pre
  have hown : s.vm.findClass RX10 = some m.cls := findClass_of_methodNamed B.named
  have hlocks := B.notSynchronized
  have hS : va_S (xA ad) s.heap s.heap [] := va_S.rf
  have k0 := hts (.fieldLink RX10 10 "TwoEyes" "scene" "LTwoEyes$Scene;") (List.mem_cons_of_mem _ (inA_1 _ (List.mem_of_getElem? (i := 15) rfl)))
  have inX10 : ∀ w ∈ wsX100, w ∈ uX10_told := fun w h => List.mem_cons_of_mem _ (inCX10 w h)
  have hl := lv_entry ([.ref (ad 0), .int a1, .int a2, .int a3]) (n := 4) (Nat.le_of_ble_eq_true rfl)
  rw [lg_entry_eq]
  generalize (lg_sl ([.ref (ad 0), .int a1, .int a2, .int a3]) ++ List.replicate (4 - (lg_sl ([.ref (ad 0), .int a1, .int a2, .int a3])).length) Slot.unset).toArray = ls at hl ⊢
  have hl : lv_has ls 4 [(0, .ref (ad 0)), (1, .int a1), (2, .int a2), (3, .int a3)] := hl
  refine lv_aload_n hx hb dX10_told_0 rfl (lv_at hl 0 rfl) ?_
  refine va_get (D := D) (ci := 10) (v := .ref (ad 1)) (C := RX10) (T := TX10) (N := 11) hx hb hts inX10 hown hK hP 0 (xW_0 cI cZ ad M) rfl 0 (by decide) k0 (fun _ h9 => h9) rfl dX10_told_1 ?_
  refine lv_iload_n hx hb dX10_told_4 rfl (lv_at hl 1 rfl) ?_
  refine x_callVi (As := [.int a1]) (rest := []) ⟨hx, hb, hml, hown, hts⟩ (kX6_hasPicture l D cI cZ ad zA zD zR hD M a1 _ h) (cwV 1 hts (gdV uS (inA_13 _ (List.mem_of_getElem? (i := 5) rfl)) vX6_hasPicture) rfl rfl rfl (by decide +kernel) ⟨Nat.le_of_ble_eq_true rfl, Nat.le_of_ble_eq_true rfl⟩) (va_recv hK hP (ci := 6) (q0 := 1) rfl (xW_1 cI cZ ad M)) hP hK hZ hN hS hl.1 rfl rfl (Nat.le_of_ble_eq_true rfl) dX10_told_5 (fun r5 M5 H locs h hP hS => ?_)
  refine lv_if_eq (tgt := 23) hx hb dX10_told_8 (by decide) (fun q8 => ?_) (fun q8 => ?_)
  · have h := h.1 q8
    refine lv_iconst (v := (-1)) hx hb dX10_told_23 (by decide) ?_
    exact W.iret (v := (-1)) hx hb hr (fun t ht hW => ⟨⟨(-1), M5, rfl, h, xAt_of ht hP⟩, hS.F ht⟩) hS.2.2 dX10_told_24
  · have h := h.2 q8
    refine lv_aload_n hx hb dX10_told_11 rfl (lv_at hl 0 rfl) ?_
    refine va_get (D := D) (ci := 10) (v := .ref (ad 1)) (C := RX10) (T := TX10) (N := 11) hx hb hts inX10 hown hK hP 0 (xW_0 cI cZ ad M5) rfl 0 (by decide) k0 (fun _ h9 => h9) rfl dX10_told_12 ?_
    refine lv_iload_n hx hb dX10_told_15 rfl (lv_at hl 2 rfl) ?_
    refine lv_iload_n hx hb dX10_told_16 rfl (lv_at hl 3 rfl) ?_
    refine x_callVi (As := [.int a2, .int a3]) (rest := []) ⟨hx, hb, hml, hown, hts⟩ (kX6_hasSquare l D cI cZ ad zA zD zR hD M5 a2 a3 _ h) (cwV 2 hts (gdV uS (inA_13 _ (List.mem_of_getElem? (i := 6) rfl)) vX6_hasSquare) rfl rfl rfl (by decide +kernel) ⟨Nat.le_of_ble_eq_true rfl, Nat.le_of_ble_eq_true rfl⟩) (va_recv hK hP (ci := 6) (q0 := 1) rfl (xW_1 cI cZ ad M5)) hP hK hZ hN hS hl.1 rfl rfl (Nat.le_of_ble_eq_true rfl) dX10_told_17 (fun r17 M17 H locs h hP hS => ?_)
    refine lv_if_ne (tgt := 25) hx hb dX10_told_20 (by decide) (fun q20 => ?_) (fun q20 => ?_)
    · have h := h.1 q20
      refine lv_aload_n hx hb dX10_told_25 rfl (lv_at hl 0 rfl) ?_
      refine va_get (D := D) (ci := 10) (v := .ref (ad 1)) (C := RX10) (T := TX10) (N := 11) hx hb hts inX10 hown hK hP 0 (xW_0 cI cZ ad M17) rfl 0 (by decide) k0 (fun _ h9 => h9) rfl dX10_told_26 ?_
      refine lv_iload_n hx hb dX10_told_29 rfl (lv_at hl 1 rfl) ?_
      refine lv_iload_n hx hb dX10_told_30 rfl (lv_at hl 2 rfl) ?_
      refine lv_iload_n hx hb dX10_told_31 rfl (lv_at hl 3 rfl) ?_
      refine x_callVi (As := [.int a1, .int a2, .int a3]) (rest := []) ⟨hx, hb, hml, hown, hts⟩ (kX6_seen l D cI cZ ad zA zD zR hD M17 a1 a2 a3 _ h) (cwV 3 hts (gdV uS (inA_11 _ (List.mem_of_getElem? (i := 14) rfl)) vX6_seen) rfl rfl rfl (by decide +kernel) ⟨Nat.le_of_ble_eq_true rfl, Nat.le_of_ble_eq_true rfl⟩) (va_recv hK hP (ci := 6) (q0 := 1) rfl (xW_1 cI cZ ad M17)) hP hK hZ hN hS hl.1 rfl rfl (Nat.le_of_ble_eq_true rfl) dX10_told_32 (fun r32 M32 H locs h hP hS => ?_)
      exact W.iret (v := r32) hx hb hr (fun t ht hW => ⟨⟨r32, M32, rfl, h, xAt_of ht hP⟩, hS.F ht⟩) hS.2.2 dX10_told_35
    · have h := h.2 q20
      refine lv_iconst (v := (-1)) hx hb dX10_told_23 (by decide) ?_
      exact W.iret (v := (-1)) hx hb hr (fun t ht hW => ⟨⟨(-1), M17, rfl, h, xAt_of ht hP⟩, hS.F ht⟩) hS.2.2 dX10_told_24
set_option maxHeartbeats 4000000 in
set_option maxRecDepth 100000 in
theorem kX10_rule (l : Launch) (D : va_G) (cI cZ : ClassId) (ad : Nat → Nat) (zA zD zR : Nat) (hD : ∀ M : Mem, va_D (xA ad) (xW cI cZ ad M)) (M : Mem) (a1 a2 : Int32) (Q : Int32 → Mem → Prop) (h : wX10_rule M a1 a2 Q) : Met l yX10_rule uX10_rule ({ frames := 3, cells := 0, slots := 0, locals := 63 }) (va_Pc [.ref (ad 0), .int a1, .int a2] (xPre D cI cZ ad zA zD zR M)) (va_Qi Q (xAt D cI cZ ad) (xA ad)) 0 0 (xA ad) := by
  refine Met.ofW (cc := cX10_rule) (maxL := 4) (ret := (some .int)) (by decide) rfl ?_
  intro p e s m args below meth c s₁ B hml hv
  obtain ⟨rfl, hP, hK, hZ, hN⟩ := hv
  have hx := B.exec
  have hb := B.bytes
  have hr := B.returns
  have hts := atoms_spec (ws := uX10_rule) B.pre
  have hown : s.vm.findClass RX10 = some m.cls := findClass_of_methodNamed B.named
  have hlocks := B.notSynchronized
  have hS : va_S (xA ad) s.heap s.heap [] := va_S.rf
  have k0 := hts (.fieldLink RX10 23 "TwoEyes" "rules" "[I") (List.mem_cons_of_mem _ (inA_1 _ (List.mem_of_getElem? (i := 19) rfl)))
  have inX10 : ∀ w ∈ wsX100, w ∈ uX10_rule := fun w h => List.mem_cons_of_mem _ (inCX10 w h)
  have hl := lv_entry ([.ref (ad 0), .int a1, .int a2]) (n := 4) (Nat.le_of_ble_eq_true rfl)
  rw [lg_entry_eq]
  generalize (lg_sl ([.ref (ad 0), .int a1, .int a2]) ++ List.replicate (4 - (lg_sl ([.ref (ad 0), .int a1, .int a2])).length) Slot.unset).toArray = ls at hl ⊢
  have hl : lv_has ls 4 [(0, .ref (ad 0)), (1, .int a1), (2, .int a2)] := hl
  refine lv_iload_n hx hb dX10_rule_0 rfl (lv_at hl 1 rfl) ?_
  refine lv_if_lt (tgt := 22) hx hb dX10_rule_1 (by decide) (fun q1 => ?_) (fun q1 => ?_)
  · have h := h.1 q1
    refine lv_iconst (v := (-1)) hx hb dX10_rule_22 (by decide) ?_
    exact W.iret (v := (-1)) hx hb hr (fun t ht hW => ⟨⟨(-1), M, rfl, h, xAt_of ht hP⟩, hS.F ht⟩) hS.2.2 dX10_rule_23
  · have h := h.2 q1
    refine lv_iload_n hx hb dX10_rule_4 rfl (lv_at hl 1 rfl) ?_
    refine lv_iconst (v := 5) hx hb dX10_rule_5 (by decide) ?_
    refine lv_icmp_ge (tgt := 22) hx hb dX10_rule_6 (by decide) (fun q6 => ?_) (fun q6 => ?_)
    · have h := h.1 q6
      refine lv_iconst (v := (-1)) hx hb dX10_rule_22 (by decide) ?_
      exact W.iret (v := (-1)) hx hb hr (fun t ht hW => ⟨⟨(-1), M, rfl, h, xAt_of ht hP⟩, hS.F ht⟩) hS.2.2 dX10_rule_23
    · have h := h.2 q6
      refine lv_iload_n hx hb dX10_rule_9 rfl (lv_at hl 2 rfl) ?_
      refine lv_if_lt (tgt := 22) hx hb dX10_rule_10 (by decide) (fun q10 => ?_) (fun q10 => ?_)
      · have h := h.1 q10
        refine lv_iconst (v := (-1)) hx hb dX10_rule_22 (by decide) ?_
        exact W.iret (v := (-1)) hx hb hr (fun t ht hW => ⟨⟨(-1), M, rfl, h, xAt_of ht hP⟩, hS.F ht⟩) hS.2.2 dX10_rule_23
      · have h := h.2 q10
        refine lv_iload_n hx hb dX10_rule_13 rfl (lv_at hl 2 rfl) ?_
        refine va_gets hx hb (hZ.2.2.2.2.1) hS hown (va_Nw.use rfl hN.2.2.2.2) (fun _ h9 => h9) dX10_rule_14 ?_
        refine lv_iload_n hx hb dX10_rule_17 rfl (lv_at hl 1 rfl) ?_
        obtain ⟨hi18, h⟩ := h
        refine va_ti hx hb (hZ.2.2.2.2.2) hS hi18 rfl dX10_rule_18 ?_
        refine lv_icmp_le (tgt := 24) hx hb dX10_rule_19 (by decide) (fun q19 => ?_) (fun q19 => ?_)
        · have h := h.1 q19
          refine lv_aload_n hx hb dX10_rule_24 rfl (lv_at hl 0 rfl) ?_
          refine va_get (D := D) (ci := 10) (v := .ref (ad 17)) (C := RX10) (T := TX10) (N := 11) hx hb hts inX10 hown hK hP 0 (xW_0 cI cZ ad M) rfl 3 (by decide) k0 (fun _ h9 => h9) rfl dX10_rule_25 ?_
          refine lv_iload_n hx hb dX10_rule_28 rfl (lv_at hl 1 rfl) ?_
          obtain ⟨hi29, h⟩ := h
          refine va_iald hx hb hK hP 17 0 (xW_17 cI cZ ad M) rfl hi29 dX10_rule_29 ?_
          refine lv_topi (fun x3_30 ex3_30 => ?_)
          have h := h x3_30 ex3_30
          refine lv_istore_n (lv' := [(3, .int x3_30), (0, .ref (ad 0)), (1, .int a1), (2, .int a2)]) hx hb dX10_rule_30 rfl hl (by decide) rfl (fun ls hl => ?_)
          refine lv_aload_n hx hb dX10_rule_31 rfl (lv_at hl 1 rfl) ?_
          refine va_get (D := D) (ci := 10) (v := .ref (ad 17)) (C := RX10) (T := TX10) (N := 11) hx hb hts inX10 hown hK hP 0 (xW_0 cI cZ ad M) rfl 3 (by decide) k0 (fun _ h9 => h9) rfl dX10_rule_32 ?_
          refine lv_iload_n hx hb dX10_rule_35 rfl (lv_at hl 2 rfl) ?_
          refine lv_iload_n hx hb dX10_rule_36 rfl (lv_at hl 3 rfl) ?_
          obtain ⟨hi37, h⟩ := h
          refine va_iast hx hb hK hP (hD M) hS 17 0 (xW_17 cI cZ ad M) rfl hi37 dX10_rule_37 (fun H locs hP _ hS => ?_)
          refine xQ_17 hP (fun M37 eM37 hP => ?_)
          have h := h M37 eM37
          refine lv_aload_n hx hb dX10_rule_38 rfl (lv_at hl 1 rfl) ?_
          refine x_callVv (As := []) (rest := []) ⟨hx, hb, hml, hown, hts⟩ (kX10_forgetAll l D cI cZ ad zA zD zR hD M37 _ h) (cwV 0 hts (gdV uS (inA_8 _ (List.mem_of_getElem? (i := 8) rfl)) vX10_forgetAll) rfl rfl rfl (by decide +kernel) ⟨Nat.le_of_ble_eq_true rfl, Nat.le_of_ble_eq_true rfl⟩) (va_recv hK hP (ci := 10) (q0 := 0) rfl (xW_0 cI cZ ad M37)) hP hK hZ hN hS hl.1 rfl rfl (Nat.le_of_ble_eq_true rfl) dX10_rule_39 (fun M39 H locs h hP hS => ?_)
          refine lv_iload_n hx hb dX10_rule_42 rfl (lv_at hl 0 rfl) ?_
          exact W.iret (v := x3_30) hx hb hr (fun t ht hW => ⟨⟨x3_30, M39, rfl, h, xAt_of ht hP⟩, hS.F ht⟩) hS.2.2 dX10_rule_43
        · have h := h.2 q19
          refine lv_iconst (v := (-1)) hx hb dX10_rule_22 (by decide) ?_
          exact W.iret (v := (-1)) hx hb hr (fun t ht hW => ⟨⟨(-1), M, rfl, h, xAt_of ht hP⟩, hS.F ht⟩) hS.2.2 dX10_rule_23
abbrev GX6_countLost (p : Program) (l : Launch) (e : Env) (s : State) (m : MethodId) (below : List Frame) (meth : Method) (c : Code) (D : va_G) (cI cZ : ClassId) (ad : Nat → Nat) (a1 : Int32) (Q : Int32 → Mem → Prop) (H : Heap) (locs : List Loc) (g : JFrame) : Prop := W p l e (headSpec uX6_countLost { frames := 1, cells := 0, slots := 0, locals := 24 }).room s m ([.ref (ad 1), .int a1] : List Value).toArray below meth c H locs 0 0 (MQ below (va_Qi Q (xAt D cI cZ ad) (xA ad)) ([.ref (ad 1), .int a1] : List Value).toArray s 0 0 (xA ad)) g
set_option maxHeartbeats 4000000 in
set_option maxRecDepth 100000 in
theorem kX6_countLost (l : Launch) (D : va_G) (cI cZ : ClassId) (ad : Nat → Nat) (zA zD zR : Nat) (hD : ∀ M : Mem, va_D (xA ad) (xW cI cZ ad M)) (M : Mem) (a1 : Int32) (Q : Int32 → Mem → Prop) (h : wX6_countLost M a1 Q) : Met l yX6_countLost uX6_countLost ({ frames := 1, cells := 0, slots := 0, locals := 24 }) (va_Pc [.ref (ad 1), .int a1] (xPre D cI cZ ad zA zD zR M)) (va_Qi Q (xAt D cI cZ ad) (xA ad)) 0 0 (xA ad) := by
  refine Met.ofW (cc := cX6_countLost) (maxL := 5) (ret := (some .int)) (by decide) rfl ?_
  intro p e s m args below meth c s₁ B hml hv
  obtain ⟨rfl, hP, hK, hZ, hN⟩ := hv
  have hx := B.exec
  have hb := B.bytes
  have hr := B.returns
  have hts := atoms_spec (ws := uX6_countLost) B.pre
  have hown : s.vm.findClass RX6 = some m.cls := findClass_of_methodNamed B.named
  have hlocks := B.notSynchronized
  have hS : va_S (xA ad) s.heap s.heap [] := va_S.rf
  have k0 := hts (.fieldLink RX6 9 "TwoEyes$Scene" "width" "I") (List.mem_cons_of_mem _ (inA_3 _ (List.mem_of_getElem? (i := 4) rfl)))
  have inX6 : ∀ w ∈ wsX60, w ∈ uX6_countLost := fun w h => List.mem_cons_of_mem _ (inCX6 w h)
  have k2 := hts (.fieldLink RX6 15 "TwoEyes$Scene" "height" "I") (List.mem_cons_of_mem _ (inA_3 _ (List.mem_of_getElem? (i := 5) rfl)))
  have L15 : ∀ (K46 : Int32 → Int32 → Int32 → Mem → Prop), (∀ (x1 x2 x3 : Int32) (M : Mem) (H : Heap) (locs : List Loc) (ls : Array Slot), lv_has ls 5 [(0, .ref (ad 1)), (1, .int x1), (2, .int x2), (3, .int x3)] → va_P D vwCl (xW cI cZ ad M) H → va_S (xA ad) s.heap H locs → K46 x1 x2 x3 M → GX6_countLost p l e s m below meth c D cI cZ ad a1 Q H locs (F0 m 46 ls [])) → ∀ n : Nat, ∀ (x1 x2 x3 x4 : Int32) (M : Mem) (H : Heap) (locs : List Loc) (ls : Array Slot), lv_has ls 5 [(0, .ref (ad 1)), (1, .int x1), (2, .int x2), (3, .int x3), (4, .int x4)] → va_P D vwCl (xW cI cZ ad M) H → va_S (xA ad) s.heap H locs → wX6_countLost_L15 K46 Q n x1 x2 x3 x4 M → GX6_countLost p l e s m below meth c D cI cZ ad a1 Q H locs (F0 m 15 ls []) := by
    intro K46 hK46 n
    induction n with
    | zero => intro x1 x2 x3 x4 M H locs ls hl hP hS h; exact (show False from h).elim
    | succ n hB =>
      intro x1 x2 x3 x4 M H locs ls hl hP hS h
      rw [wX6_countLost_L15_s] at h
      refine lv_iload hx hb dX6_countLost_15 (lv_at hl 4 rfl) ?_
      refine lv_aload_n hx hb dX6_countLost_17 rfl (lv_at hl 0 rfl) ?_
      refine va_get (D := D) (ci := 6) (v := .int (M 1 0)) (C := RX6) (T := TX6) (N := 5) hx hb hts inX6 hown hK hP 1 (xW_1 cI cZ ad M) rfl 0 (by decide) k0 (fun _ h9 => h9) rfl dX6_countLost_18 ?_
      refine lv_icmp_ge (tgt := 46) hx hb dX6_countLost_21 (by decide) (fun q21 => ?_) (fun q21 => ?_)
      · have h := h.1 q21
        exact hK46 x1 x2 x3 M _ _ _ (lv_sub hl [0, 1, 2, 3] rfl) hP hS h
      · have h := h.2 q21
        refine lv_aload_n hx hb dX6_countLost_24 rfl (lv_at hl 0 rfl) ?_
        refine lv_iload_n hx hb dX6_countLost_25 rfl (lv_at hl 1 rfl) ?_
        refine lv_iload hx hb dX6_countLost_26 (lv_at hl 4 rfl) ?_
        refine lv_iload_n hx hb dX6_countLost_28 rfl (lv_at hl 3 rfl) ?_
        refine x_callVi (As := [.int x1, .int x4, .int x3]) (rest := []) ⟨hx, hb, hml, hown, hts⟩ (kX6_seen l D cI cZ ad zA zD zR hD M x1 x4 x3 _ h) (cwV 3 hts (gdV uS (inA_14 _ (List.mem_of_getElem? (i := 14) rfl)) vX6_seen) rfl rfl rfl (by decide +kernel) ⟨Nat.le_of_ble_eq_true rfl, Nat.le_of_ble_eq_true rfl⟩) (va_recv hK hP (ci := 6) (q0 := 1) rfl (xW_1 cI cZ ad M)) hP hK hZ hN hS hl.1 rfl rfl (Nat.le_of_ble_eq_true rfl) dX6_countLost_29 (fun r29 M29 H locs h hP hS => ?_)
        refine lv_bipush (v := (-5)) hx hb dX6_countLost_32 (by decide) ?_
        refine lv_icmp_ne (tgt := 40) hx hb dX6_countLost_34 (by decide) (fun q34 => ?_) (fun q34 => ?_)
        · have h := h.1 q34
          obtain ⟨x4_40, ex4_40⟩ : ∃ y : Int32, y = x4 + 1 := ⟨_, rfl⟩
          have h := h x4_40 ex4_40
          refine lv_iinc (v := x4_40) (lv' := [(4, .int x4_40), (0, .ref (ad 1)), (1, .int x1), (2, .int x2), (3, .int x3)]) hx hb dX6_countLost_40 hl (k := 4) rfl (by rw [ex4_40]; rfl) (by decide) rfl (fun ls hl => ?_)
          refine lv_goto (tgt := 15) hx hb dX6_countLost_43 (by decide) ?_
          exact hB x1 x2 x3 x4_40 M29 _ _ _ (lv_sub hl [1, 2, 3, 4, 0] rfl) hP hS h
        · have h := h.2 q34
          obtain ⟨x2_37, ex2_37⟩ : ∃ y : Int32, y = x2 + 1 := ⟨_, rfl⟩
          have h := h x2_37 ex2_37
          refine lv_iinc (v := x2_37) (lv' := [(2, .int x2_37), (0, .ref (ad 1)), (1, .int x1), (3, .int x3), (4, .int x4)]) hx hb dX6_countLost_37 hl (k := 2) rfl (by rw [ex2_37]; rfl) (by decide) rfl (fun ls hl => ?_)
          obtain ⟨x4_40, ex4_40⟩ : ∃ y : Int32, y = x4 + 1 := ⟨_, rfl⟩
          have h := h x4_40 ex4_40
          refine lv_iinc (v := x4_40) (lv' := [(4, .int x4_40), (2, .int x2_37), (0, .ref (ad 1)), (1, .int x1), (3, .int x3)]) hx hb dX6_countLost_40 hl (k := 4) rfl (by rw [ex4_40]; rfl) (by decide) rfl (fun ls hl => ?_)
          refine lv_goto (tgt := 15) hx hb dX6_countLost_43 (by decide) ?_
          exact hB x1 x2_37 x3 x4_40 M29 _ _ _ (lv_sub hl [2, 3, 1, 4, 0] rfl) hP hS h
  have L4 : ∀ (K52 : Int32 → Mem → Prop), (∀ (x2 : Int32) (M : Mem) (H : Heap) (locs : List Loc) (ls : Array Slot), lv_has ls 5 [(2, .int x2)] → va_P D vwCl (xW cI cZ ad M) H → va_S (xA ad) s.heap H locs → K52 x2 M → GX6_countLost p l e s m below meth c D cI cZ ad a1 Q H locs (F0 m 52 ls [])) → ∀ n : Nat, ∀ (x1 x2 x3 : Int32) (M : Mem) (H : Heap) (locs : List Loc) (ls : Array Slot), lv_has ls 5 [(0, .ref (ad 1)), (1, .int x1), (2, .int x2), (3, .int x3)] → va_P D vwCl (xW cI cZ ad M) H → va_S (xA ad) s.heap H locs → wX6_countLost_L4 K52 Q n x1 x2 x3 M → GX6_countLost p l e s m below meth c D cI cZ ad a1 Q H locs (F0 m 4 ls []) := by
    intro K52 hK52 n
    induction n with
    | zero => intro x1 x2 x3 M H locs ls hl hP hS h; exact (show False from h).elim
    | succ n hB =>
      intro x1 x2 x3 M H locs ls hl hP hS h
      rw [wX6_countLost_L4_s] at h
      refine lv_iload_n hx hb dX6_countLost_4 rfl (lv_at hl 3 rfl) ?_
      refine lv_aload_n hx hb dX6_countLost_5 rfl (lv_at hl 0 rfl) ?_
      refine va_get (D := D) (ci := 6) (v := .int (M 1 1)) (C := RX6) (T := TX6) (N := 5) hx hb hts inX6 hown hK hP 1 (xW_1 cI cZ ad M) rfl 1 (by decide) k2 (fun _ h9 => h9) rfl dX6_countLost_6 ?_
      refine lv_icmp_ge (tgt := 52) hx hb dX6_countLost_9 (by decide) (fun q9 => ?_) (fun q9 => ?_)
      · have h := h.1 q9
        exact hK52 x2 M _ _ _ (lv_sub hl [2] rfl) hP hS h
      · have h := h.2 q9
        refine lv_iconst (v := 0) hx hb dX6_countLost_12 (by decide) ?_
        refine lv_istore (lv' := [(4, .int 0), (0, .ref (ad 1)), (1, .int x1), (2, .int x2), (3, .int x3)]) hx hb dX6_countLost_13 hl (by decide) rfl (fun ls hl => ?_)
        obtain ⟨n, h⟩ := h
        refine L15 _ (fun x1 x2 x3 M H locs ls hl hP hS h => ?_) n x1 x2 x3 0 M _ _ _ (lv_sub hl [1, 2, 3, 4, 0] rfl) hP hS h
        obtain ⟨x3_46, ex3_46⟩ : ∃ y : Int32, y = x3 + 1 := ⟨_, rfl⟩
        have h := h x3_46 ex3_46
        refine lv_iinc (v := x3_46) (lv' := [(3, .int x3_46), (0, .ref (ad 1)), (1, .int x1), (2, .int x2)]) hx hb dX6_countLost_46 hl (k := 3) rfl (by rw [ex3_46]; rfl) (by decide) rfl (fun ls hl => ?_)
        refine lv_goto (tgt := 4) hx hb dX6_countLost_49 (by decide) ?_
        exact hB x1 x2 x3_46 M _ _ _ (lv_sub hl [1, 2, 3, 0] rfl) hP hS h
  have hl := lv_entry ([.ref (ad 1), .int a1]) (n := 5) (Nat.le_of_ble_eq_true rfl)
  rw [lg_entry_eq]
  generalize (lg_sl ([.ref (ad 1), .int a1]) ++ List.replicate (5 - (lg_sl ([.ref (ad 1), .int a1])).length) Slot.unset).toArray = ls at hl ⊢
  have hl : lv_has ls 5 [(0, .ref (ad 1)), (1, .int a1)] := hl
  refine lv_iconst (v := 0) hx hb dX6_countLost_0 (by decide) ?_
  refine lv_istore_n (lv' := [(2, .int 0), (0, .ref (ad 1)), (1, .int a1)]) hx hb dX6_countLost_1 rfl hl (by decide) rfl (fun ls hl => ?_)
  refine lv_iconst (v := 0) hx hb dX6_countLost_2 (by decide) ?_
  refine lv_istore_n (lv' := [(3, .int 0), (2, .int 0), (0, .ref (ad 1)), (1, .int a1)]) hx hb dX6_countLost_3 rfl hl (by decide) rfl (fun ls hl => ?_)
  obtain ⟨n, h⟩ := h
  refine L4 _ (fun x2 M H locs ls hl hP hS h => ?_) n a1 0 0 M _ _ _ (lv_sub hl [2, 3, 1, 0] rfl) hP hS h
  refine lv_iload_n hx hb dX6_countLost_52 rfl (lv_at hl 0 rfl) ?_
  exact W.iret (v := x2) hx hb hr (fun t ht hW => ⟨⟨x2, M, rfl, h, xAt_of ht hP⟩, hS.F ht⟩) hS.2.2 dX6_countLost_53
abbrev GX8_lookAround_19_1 (p : Program) (l : Launch) (e : Env) (s : State) (m : MethodId) (below : List Frame) (meth : Method) (c : Code) (D : va_G) (cI cZ : ClassId) (ad : Nat → Nat) (a2 a3 a4 : Int32) (Q : Mem → Prop) (H : Heap) (locs : List Loc) (g : JFrame) : Prop := W p l e (headSpec uX8_lookAround { frames := 1, cells := 0, slots := 0, locals := 24 }).room s m ([.ref (ad 19), .ref (ad 1), .int a2, .int a3, .int a4] : List Value).toArray below meth c H locs 0 0 (MQ below (va_Qv Q (xAt D cI cZ ad) (xA ad)) ([.ref (ad 19), .ref (ad 1), .int a2, .int a3, .int a4] : List Value).toArray s 0 0 (xA ad)) g
set_option maxHeartbeats 4000000 in
set_option maxRecDepth 100000 in
theorem kX8_lookAround_19_1 (l : Launch) (D : va_G) (cI cZ : ClassId) (ad : Nat → Nat) (zA zD zR : Nat) (hD : ∀ M : Mem, va_D (xA ad) (xW cI cZ ad M)) (M : Mem) (a2 a3 a4 : Int32) (Q : Mem → Prop) (h : wX8_lookAround_19_1 M a2 a3 a4 Q) : Met l yX8_lookAround uX8_lookAround ({ frames := 1, cells := 0, slots := 0, locals := 24 }) (va_Pc [.ref (ad 19), .ref (ad 1), .int a2, .int a3, .int a4] (xPre D cI cZ ad zA zD zR M)) (va_Qv Q (xAt D cI cZ ad) (xA ad)) 0 0 (xA ad) := by
  refine Met.ofW (cc := cX8_lookAround) (maxL := 12) (ret := none) (by decide) rfl ?_
  intro p e s m args below meth c s₁ B hml hv
  obtain ⟨rfl, hP, hK, hZ, hN⟩ := hv
  have hx := B.exec
  have hb := B.bytes
  have hr := B.returns
  have hts := atoms_spec (ws := uX8_lookAround) B.pre
  have hown : s.vm.findClass RX8 = some m.cls := findClass_of_methodNamed B.named
  have hlocks := B.notSynchronized
  have hS : va_S (xA ad) s.heap s.heap [] := va_S.rf
  have k0 := hts (.fieldLink RX8 9 "TwoEyes$Stand" "known" "[I") (List.mem_cons_of_mem _ (inA_4 _ (List.mem_of_getElem? (i := 11) rfl)))
  have inX8 : ∀ w ∈ wsX80, w ∈ uX8_lookAround := fun w h => List.mem_cons_of_mem _ (inCX8 w h)
  have k2 := hts (.fieldLink RX8 15 "TwoEyes$Stand" "dark" "[I") (List.mem_cons_of_mem _ (inA_4 _ (List.mem_of_getElem? (i := 12) rfl)))
  have k3 := hts (.fieldLink RX8 18 "TwoEyes$Stand" "lost" "[Z") (List.mem_cons_of_mem _ (inA_4 _ (List.mem_of_getElem? (i := 13) rfl)))
  have J79 : ∀ (B : Int32 → Int32 → Int32 → Int32 → Int32 → Int32 → Int32 → Mem → Prop) (K123 : Int32 → Int32 → Int32 → Int32 → Int32 → Mem → Prop), (∀ (x2 x3 x4 x5 x6 x7 x8 : Int32) (M : Mem) (H : Heap) (locs : List Loc) (ls : Array Slot), lv_has ls 12 [(0, .ref (ad 19)), (1, .ref (ad 1)), (2, .int x2), (3, .int x3), (4, .int x4), (5, .int x5), (6, .int x6), (7, .int x7), (8, .int x8)] → va_P D vwCl (xW cI cZ ad M) H → va_S (xA ad) s.heap H locs → B x2 x3 x4 x5 x6 x7 x8 M → GX8_lookAround_19_1 p l e s m below meth c D cI cZ ad a2 a3 a4 Q H locs (F0 m 19 ls [])) → (∀ (x3 x4 x5 x6 x7 : Int32) (M : Mem) (H : Heap) (locs : List Loc) (ls : Array Slot), lv_has ls 12 [(0, .ref (ad 19)), (1, .ref (ad 1)), (3, .int x3), (4, .int x4), (5, .int x5), (6, .int x6), (7, .int x7)] → va_P D vwCl (xW cI cZ ad M) H → va_S (xA ad) s.heap H locs → K123 x3 x4 x5 x6 x7 M → GX8_lookAround_19_1 p l e s m below meth c D cI cZ ad a2 a3 a4 Q H locs (F0 m 123 ls [])) → ∀ (x2 x3 x4 x5 x6 x7 x8 t0 : Int32) (M : Mem) (H : Heap) (locs : List Loc) (ls : Array Slot), lv_has ls 12 [(0, .ref (ad 19)), (1, .ref (ad 1)), (2, .int x2), (3, .int x3), (4, .int x4), (5, .int x5), (6, .int x6), (7, .int x7), (8, .int x8)] → va_P D vwCl (xW cI cZ ad M) H → va_S (xA ad) s.heap H locs → wX8_lookAround_19_1_J79 B K123 Q x2 x3 x4 x5 x6 x7 x8 t0 M → GX8_lookAround_19_1 p l e s m below meth c D cI cZ ad a2 a3 a4 Q H locs (F0 m 79 ls [.int t0]) := by
    intro B K123 hB hK123 x2 x3 x4 x5 x6 x7 x8 t0 M H locs ls hl hP hS h
    refine lv_istore (lv' := [(11, .int t0), (0, .ref (ad 19)), (1, .ref (ad 1)), (2, .int x2), (3, .int x3), (4, .int x4), (5, .int x5), (6, .int x6), (7, .int x7), (8, .int x8)]) hx hb dX8_lookAround_79 hl (by decide) rfl (fun ls hl => ?_)
    refine lv_iload hx hb dX8_lookAround_81 (lv_at hl 0 rfl) ?_
    refine lv_bipush (v := (-5)) hx hb dX8_lookAround_83 (by decide) ?_
    refine lv_icmp_eq (tgt := 117) hx hb dX8_lookAround_85 (by decide) (fun q85 => ?_) (fun q85 => ?_)
    · have h := h.1 q85
      obtain ⟨x8_117, ex8_117⟩ : ∃ y : Int32, y = x8 + 1 := ⟨_, rfl⟩
      have h := h x8_117 ex8_117
      refine lv_iinc (v := x8_117) (lv' := [(8, .int x8_117), (11, .int t0), (0, .ref (ad 19)), (1, .ref (ad 1)), (2, .int x2), (3, .int x3), (4, .int x4), (5, .int x5), (6, .int x6), (7, .int x7)]) hx hb dX8_lookAround_117 hl (k := 9) rfl (by rw [ex8_117]; rfl) (by decide) rfl (fun ls hl => ?_)
      refine lv_goto (tgt := 19) hx hb dX8_lookAround_120 (by decide) ?_
      exact hB x2 x3 x4 x5 x6 x7 x8_117 M _ _ _ (lv_sub hl [2, 3, 4, 5, 6, 7, 8, 9, 0] rfl) hP hS h
    · have h := h.2 q85
      refine lv_iload hx hb dX8_lookAround_88 (lv_at hl 7 rfl) ?_
      refine lv_iconst (v := 1) hx hb dX8_lookAround_90 (by decide) ?_
      refine lv_iload hx hb dX8_lookAround_91 (lv_at hl 9 rfl) ?_
      refine lv_ishl hx hb dX8_lookAround_93 ?_
      refine lv_ior hx hb dX8_lookAround_94 ?_
      refine lv_topi (fun x6_95 ex6_95 => ?_)
      have h := h x6_95 ex6_95
      refine lv_istore (lv' := [(6, .int x6_95), (11, .int t0), (0, .ref (ad 19)), (1, .ref (ad 1)), (2, .int x2), (3, .int x3), (4, .int x4), (5, .int x5), (7, .int x7), (8, .int x8)]) hx hb dX8_lookAround_95 hl (by decide) rfl (fun ls hl => ?_)
      refine lv_iload hx hb dX8_lookAround_97 (lv_at hl 8 rfl) ?_
      refine lv_iload hx hb dX8_lookAround_99 (lv_at hl 1 rfl) ?_
      refine lv_iload hx hb dX8_lookAround_101 (lv_at hl 7 rfl) ?_
      refine lv_icmp_ge (tgt := 113) hx hb dX8_lookAround_103 (by decide) (fun q103 => ?_) (fun q103 => ?_)
      · have h := h.1 q103
        refine lv_iconst (v := 0) hx hb dX8_lookAround_113 (by decide) ?_
        refine lv_ior hx hb dX8_lookAround_114 ?_
        refine lv_topi (fun x7_115 ex7_115 => ?_)
        have h := h x7_115 ex7_115
        refine lv_istore (lv' := [(7, .int x7_115), (6, .int x6_95), (11, .int t0), (0, .ref (ad 19)), (1, .ref (ad 1)), (2, .int x2), (3, .int x3), (4, .int x4), (5, .int x5), (8, .int x8)]) hx hb dX8_lookAround_115 hl (by decide) rfl (fun ls hl => ?_)
        obtain ⟨x8_117, ex8_117⟩ : ∃ y : Int32, y = x8 + 1 := ⟨_, rfl⟩
        have h := h x8_117 ex8_117
        refine lv_iinc (v := x8_117) (lv' := [(8, .int x8_117), (7, .int x7_115), (6, .int x6_95), (11, .int t0), (0, .ref (ad 19)), (1, .ref (ad 1)), (2, .int x2), (3, .int x3), (4, .int x4), (5, .int x5)]) hx hb dX8_lookAround_117 hl (k := 9) rfl (by rw [ex8_117]; rfl) (by decide) rfl (fun ls hl => ?_)
        refine lv_goto (tgt := 19) hx hb dX8_lookAround_120 (by decide) ?_
        exact hB x2 x3 x4 x5 x6_95 x7_115 x8_117 M _ _ _ (lv_sub hl [4, 5, 6, 7, 8, 9, 2, 1, 0] rfl) hP hS h
      · have h := h.2 q103
        refine lv_iconst (v := 1) hx hb dX8_lookAround_106 (by decide) ?_
        refine lv_iload hx hb dX8_lookAround_107 (lv_at hl 9 rfl) ?_
        refine lv_ishl hx hb dX8_lookAround_109 ?_
        refine lv_goto (tgt := 114) hx hb dX8_lookAround_110 (by decide) ?_
        refine lv_ior hx hb dX8_lookAround_114 ?_
        refine lv_topi (fun x7_115 ex7_115 => ?_)
        have h := h x7_115 ex7_115
        refine lv_istore (lv' := [(7, .int x7_115), (6, .int x6_95), (11, .int t0), (0, .ref (ad 19)), (1, .ref (ad 1)), (2, .int x2), (3, .int x3), (4, .int x4), (5, .int x5), (8, .int x8)]) hx hb dX8_lookAround_115 hl (by decide) rfl (fun ls hl => ?_)
        obtain ⟨x8_117, ex8_117⟩ : ∃ y : Int32, y = x8 + 1 := ⟨_, rfl⟩
        have h := h x8_117 ex8_117
        refine lv_iinc (v := x8_117) (lv' := [(8, .int x8_117), (7, .int x7_115), (6, .int x6_95), (11, .int t0), (0, .ref (ad 19)), (1, .ref (ad 1)), (2, .int x2), (3, .int x3), (4, .int x4), (5, .int x5)]) hx hb dX8_lookAround_117 hl (k := 9) rfl (by rw [ex8_117]; rfl) (by decide) rfl (fun ls hl => ?_)
        refine lv_goto (tgt := 19) hx hb dX8_lookAround_120 (by decide) ?_
        exact hB x2 x3 x4 x5 x6_95 x7_115 x8_117 M _ _ _ (lv_sub hl [4, 5, 6, 7, 8, 9, 2, 1, 0] rfl) hP hS h
  have L19 : ∀ (K123 : Int32 → Int32 → Int32 → Int32 → Int32 → Mem → Prop), (∀ (x3 x4 x5 x6 x7 : Int32) (M : Mem) (H : Heap) (locs : List Loc) (ls : Array Slot), lv_has ls 12 [(0, .ref (ad 19)), (1, .ref (ad 1)), (3, .int x3), (4, .int x4), (5, .int x5), (6, .int x6), (7, .int x7)] → va_P D vwCl (xW cI cZ ad M) H → va_S (xA ad) s.heap H locs → K123 x3 x4 x5 x6 x7 M → GX8_lookAround_19_1 p l e s m below meth c D cI cZ ad a2 a3 a4 Q H locs (F0 m 123 ls [])) → ∀ n : Nat, ∀ (x2 x3 x4 x5 x6 x7 x8 : Int32) (M : Mem) (H : Heap) (locs : List Loc) (ls : Array Slot), lv_has ls 12 [(0, .ref (ad 19)), (1, .ref (ad 1)), (2, .int x2), (3, .int x3), (4, .int x4), (5, .int x5), (6, .int x6), (7, .int x7), (8, .int x8)] → va_P D vwCl (xW cI cZ ad M) H → va_S (xA ad) s.heap H locs → wX8_lookAround_19_1_L19 K123 Q n x2 x3 x4 x5 x6 x7 x8 M → GX8_lookAround_19_1 p l e s m below meth c D cI cZ ad a2 a3 a4 Q H locs (F0 m 19 ls []) := by
    intro K123 hK123 n
    induction n with
    | zero => intro x2 x3 x4 x5 x6 x7 x8 M H locs ls hl hP hS h; exact (show False from h).elim
    | succ n hB =>
      intro x2 x3 x4 x5 x6 x7 x8 M H locs ls hl hP hS h
      rw [wX8_lookAround_19_1_L19_s] at h
      refine lv_iload hx hb dX8_lookAround_19 (lv_at hl 8 rfl) ?_
      refine lv_bipush (v := 8) hx hb dX8_lookAround_21 (by decide) ?_
      refine lv_icmp_ge (tgt := 123) hx hb dX8_lookAround_23 (by decide) (fun q23 => ?_) (fun q23 => ?_)
      · have h := h.1 q23
        exact hK123 x3 x4 x5 x6 x7 M _ _ _ (lv_sub hl [0, 1, 3, 4, 5, 6, 7] rfl) hP hS h
      · have h := h.2 q23
        refine lv_iload hx hb dX8_lookAround_26 (lv_at hl 5 rfl) ?_
        refine lv_bipush (v := (-5)) hx hb dX8_lookAround_28 (by decide) ?_
        refine lv_icmp_eq (tgt := 123) hx hb dX8_lookAround_30 (by decide) (fun q30 => ?_) (fun q30 => ?_)
        · have h := h.1 q30
          exact hK123 x3 x4 x5 x6 x7 M _ _ _ (lv_sub hl [0, 1, 3, 4, 5, 6, 7] rfl) hP hS h
        · have h := h.2 q30
          refine lv_iload_n hx hb dX8_lookAround_33 rfl (lv_at hl 3 rfl) ?_
          refine va_getsN hx hb (hZ.1) hS hown (va_Nw.use rfl hN.1) (fun _ h9 => h9) dX8_lookAround_34 ?_
          refine lv_iload hx hb dX8_lookAround_37 (lv_at hl 8 rfl) ?_
          obtain ⟨hi39, h⟩ := h
          refine va_ti hx hb (hZ.2.1) hS hi39 rfl dX8_lookAround_39 ?_
          refine lv_iadd hx hb dX8_lookAround_40 ?_
          refine lv_topi (fun x9_41 ex9_41 => ?_)
          have h := h x9_41 ex9_41
          refine lv_istore (lv' := [(9, .int x9_41), (0, .ref (ad 19)), (1, .ref (ad 1)), (2, .int x2), (3, .int x3), (4, .int x4), (5, .int x5), (6, .int x6), (7, .int x7), (8, .int x8)]) hx hb dX8_lookAround_41 hl (by decide) rfl (fun ls hl => ?_)
          refine lv_iload hx hb dX8_lookAround_43 (lv_at hl 5 rfl) ?_
          refine va_getsN hx hb (hZ.2.2.1) hS hown (va_Nw.use rfl hN.2.1) (fun _ h9 => h9) dX8_lookAround_45 ?_
          refine lv_iload hx hb dX8_lookAround_48 (lv_at hl 9 rfl) ?_
          obtain ⟨hi50, h⟩ := h
          refine va_ti hx hb (hZ.2.2.2.1) hS hi50 rfl dX8_lookAround_50 ?_
          refine lv_iadd hx hb dX8_lookAround_51 ?_
          refine lv_topi (fun x10_52 ex10_52 => ?_)
          have h := h x10_52 ex10_52
          refine lv_istore (lv' := [(10, .int x10_52), (9, .int x9_41), (0, .ref (ad 19)), (1, .ref (ad 1)), (2, .int x2), (3, .int x3), (4, .int x4), (5, .int x5), (6, .int x6), (7, .int x7), (8, .int x8)]) hx hb dX8_lookAround_52 hl (by decide) rfl (fun ls hl => ?_)
          refine lv_aload_n hx hb dX8_lookAround_54 rfl (lv_at hl 3 rfl) ?_
          refine lv_iload hx hb dX8_lookAround_55 (lv_at hl 1 rfl) ?_
          refine lv_iload hx hb dX8_lookAround_57 (lv_at hl 0 rfl) ?_
          refine x_callVi (As := [.int x9_41, .int x10_52]) (rest := []) ⟨hx, hb, hml, hown, hts⟩ (kX6_hasSquare l D cI cZ ad zA zD zR hD M x9_41 x10_52 _ h) (cwV 2 hts (gdV uS (inA_15 _ (List.mem_of_getElem? (i := 15) rfl)) vX6_hasSquare) rfl rfl rfl (by decide +kernel) ⟨Nat.le_of_ble_eq_true rfl, Nat.le_of_ble_eq_true rfl⟩) (va_recv hK hP (ci := 6) (q0 := 1) rfl (xW_1 cI cZ ad M)) hP hK hZ hN hS hl.1 rfl rfl (Nat.le_of_ble_eq_true rfl) dX8_lookAround_59 (fun r59 M59 H locs h hP hS => ?_)
          refine lv_if_eq (tgt := 77) hx hb dX8_lookAround_62 (by decide) (fun q62 => ?_) (fun q62 => ?_)
          · have h := h.1 q62
            refine lv_bipush (v := (-5)) hx hb dX8_lookAround_77 (by decide) ?_
            exact J79 _ K123 hB hK123 x2 x3 x4 x5 x6 x7 x8 (-5) M59 _ _ _ (lv_sub hl [2, 3, 4, 5, 6, 7, 8, 9, 10] rfl) hP hS h
          · have h := h.2 q62
            refine lv_aload_n hx hb dX8_lookAround_65 rfl (lv_at hl 3 rfl) ?_
            refine lv_iload_n hx hb dX8_lookAround_66 rfl (lv_at hl 4 rfl) ?_
            refine lv_iload hx hb dX8_lookAround_67 (lv_at hl 1 rfl) ?_
            refine lv_iload hx hb dX8_lookAround_69 (lv_at hl 0 rfl) ?_
            refine x_callVi (As := [.int x2, .int x9_41, .int x10_52]) (rest := []) ⟨hx, hb, hml, hown, hts⟩ (kX6_seen l D cI cZ ad zA zD zR hD M59 x2 x9_41 x10_52 _ h) (cwV 3 hts (gdV uS (inA_15 _ (List.mem_of_getElem? (i := 14) rfl)) vX6_seen) rfl rfl rfl (by decide +kernel) ⟨Nat.le_of_ble_eq_true rfl, Nat.le_of_ble_eq_true rfl⟩) (va_recv hK hP (ci := 6) (q0 := 1) rfl (xW_1 cI cZ ad M59)) hP hK hZ hN hS hl.1 rfl rfl (Nat.le_of_ble_eq_true rfl) dX8_lookAround_71 (fun r71 M71 H locs h hP hS => ?_)
            refine lv_goto (tgt := 79) hx hb dX8_lookAround_74 (by decide) ?_
            exact J79 _ K123 hB hK123 x2 x3 x4 x5 x6 x7 x8 r71 M71 _ _ _ (lv_sub hl [2, 3, 4, 5, 6, 7, 8, 9, 10] rfl) hP hS h
  have J150 : ∀ (x6 x7 x8 t1 t2 : Int32) (M : Mem) (H : Heap) (locs : List Loc) (ls : Array Slot), lv_has ls 12 [(0, .ref (ad 19)), (6, .int x6), (7, .int x7), (8, .int x8)] → va_P D vwCl (xW cI cZ ad M) H → va_S (xA ad) s.heap H locs → wX8_lookAround_19_1_J150 Q x6 x7 x8 t1 t2 M → GX8_lookAround_19_1 p l e s m below meth c D cI cZ ad a2 a3 a4 Q H locs (F0 m 150 ls [.int t2, .int t1, .ref (ad 22)]) := by
    intro x6 x7 x8 t1 t2 M H locs ls hl hP hS h
    obtain ⟨hi150, h⟩ := h
    obtain ⟨hz150, h⟩ := h
    refine va_zast hx hb hK hP (hD M) hS 22 1 (xW_22 cI cZ ad M) rfl hi150 dX8_lookAround_150 (fun H locs hP _ hS => ?_)
    rw [zst hz150] at hP
    refine xQ_22 hP (fun M150 eM150 hP => ?_)
    have h := h M150 eM150
    refine lv_aload_n hx hb dX8_lookAround_151 rfl (lv_at hl 0 rfl) ?_
    refine va_get (D := D) (ci := 8) (v := .ref (ad 20)) (C := RX8) (T := TX8) (N := 3) hx hb hts inX8 hown hK hP 19 (xW_19 cI cZ ad M150) rfl 0 (by decide) k0 (fun _ h9 => h9) rfl dX8_lookAround_152 ?_
    refine lv_iload hx hb dX8_lookAround_155 (lv_at hl 3 rfl) ?_
    refine lv_iload hx hb dX8_lookAround_157 (lv_at hl 1 rfl) ?_
    obtain ⟨hi159, h⟩ := h
    refine va_iast hx hb hK hP (hD M150) hS 20 0 (xW_20 cI cZ ad M150) rfl hi159 dX8_lookAround_159 (fun H locs hP _ hS => ?_)
    refine xQ_20 hP (fun M159 eM159 hP => ?_)
    have h := h M159 eM159
    refine lv_aload_n hx hb dX8_lookAround_160 rfl (lv_at hl 0 rfl) ?_
    refine va_get (D := D) (ci := 8) (v := .ref (ad 21)) (C := RX8) (T := TX8) (N := 3) hx hb hts inX8 hown hK hP 19 (xW_19 cI cZ ad M159) rfl 1 (by decide) k2 (fun _ h9 => h9) rfl dX8_lookAround_161 ?_
    refine lv_iload hx hb dX8_lookAround_164 (lv_at hl 3 rfl) ?_
    refine lv_iload hx hb dX8_lookAround_166 (lv_at hl 2 rfl) ?_
    obtain ⟨hi168, h⟩ := h
    refine va_iast hx hb hK hP (hD M159) hS 21 0 (xW_21 cI cZ ad M159) rfl hi168 dX8_lookAround_168 (fun H locs hP _ hS => ?_)
    refine xQ_21 hP (fun M168 eM168 hP => ?_)
    have h := h M168 eM168
    exact W.vret hx hb hr (fun t ht hW => ⟨⟨M168, rfl, h, xAt_of ht hP⟩, hS.F ht⟩) hS.2.2 dX8_lookAround_169
  have hl := lv_entry ([.ref (ad 19), .ref (ad 1), .int a2, .int a3, .int a4]) (n := 12) (Nat.le_of_ble_eq_true rfl)
  rw [lg_entry_eq]
  generalize (lg_sl ([.ref (ad 19), .ref (ad 1), .int a2, .int a3, .int a4]) ++ List.replicate (12 - (lg_sl ([.ref (ad 19), .ref (ad 1), .int a2, .int a3, .int a4])).length) Slot.unset).toArray = ls at hl ⊢
  have hl : lv_has ls 12 [(0, .ref (ad 19)), (1, .ref (ad 1)), (2, .int a2), (3, .int a3), (4, .int a4)] := hl
  refine lv_aload_n hx hb dX8_lookAround_0 rfl (lv_at hl 1 rfl) ?_
  refine lv_iload_n hx hb dX8_lookAround_1 rfl (lv_at hl 2 rfl) ?_
  refine lv_iload_n hx hb dX8_lookAround_2 rfl (lv_at hl 3 rfl) ?_
  refine lv_iload hx hb dX8_lookAround_3 (lv_at hl 4 rfl) ?_
  refine x_callVi (As := [.int a2, .int a3, .int a4]) (rest := []) ⟨hx, hb, hml, hown, hts⟩ (kX6_seen l D cI cZ ad zA zD zR hD M a2 a3 a4 _ h) (cwV 3 hts (gdV uS (inA_15 _ (List.mem_of_getElem? (i := 14) rfl)) vX6_seen) rfl rfl rfl (by decide +kernel) ⟨Nat.le_of_ble_eq_true rfl, Nat.le_of_ble_eq_true rfl⟩) (va_recv hK hP (ci := 6) (q0 := 1) rfl (xW_1 cI cZ ad M)) hP hK hZ hN hS hl.1 rfl rfl (Nat.le_of_ble_eq_true rfl) dX8_lookAround_5 (fun r5 M5 H locs h hP hS => ?_)
  refine lv_istore (lv' := [(5, .int r5), (0, .ref (ad 19)), (1, .ref (ad 1)), (2, .int a2), (3, .int a3), (4, .int a4)]) hx hb dX8_lookAround_8 hl (by decide) rfl (fun ls hl => ?_)
  refine lv_iconst (v := 0) hx hb dX8_lookAround_10 (by decide) ?_
  refine lv_istore (lv' := [(6, .int 0), (5, .int r5), (0, .ref (ad 19)), (1, .ref (ad 1)), (2, .int a2), (3, .int a3), (4, .int a4)]) hx hb dX8_lookAround_11 hl (by decide) rfl (fun ls hl => ?_)
  refine lv_iconst (v := 0) hx hb dX8_lookAround_13 (by decide) ?_
  refine lv_istore (lv' := [(7, .int 0), (6, .int 0), (5, .int r5), (0, .ref (ad 19)), (1, .ref (ad 1)), (2, .int a2), (3, .int a3), (4, .int a4)]) hx hb dX8_lookAround_14 hl (by decide) rfl (fun ls hl => ?_)
  refine lv_iconst (v := 0) hx hb dX8_lookAround_16 (by decide) ?_
  refine lv_istore (lv' := [(8, .int 0), (7, .int 0), (6, .int 0), (5, .int r5), (0, .ref (ad 19)), (1, .ref (ad 1)), (2, .int a2), (3, .int a3), (4, .int a4)]) hx hb dX8_lookAround_17 hl (by decide) rfl (fun ls hl => ?_)
  obtain ⟨n, h⟩ := h
  refine L19 _ (fun x3 x4 x5 x6 x7 M H locs ls hl hP hS h => ?_) n a2 a3 a4 r5 0 0 0 M5 _ _ _ (lv_sub hl [4, 5, 6, 7, 8, 3, 2, 1, 0] rfl) hP hS h
  refine lv_aload_n hx hb dX8_lookAround_123 rfl (lv_at hl 1 rfl) ?_
  refine lv_iload_n hx hb dX8_lookAround_124 rfl (lv_at hl 2 rfl) ?_
  refine lv_iload hx hb dX8_lookAround_125 (lv_at hl 3 rfl) ?_
  refine x_callVi (As := [.int x3, .int x4]) (rest := []) ⟨hx, hb, hml, hown, hts⟩ (kX6_placeOf l D cI cZ ad zA zD zR hD M x3 x4 _ h) (cwV 2 hts (gdV uS (inA_15 _ (List.mem_of_getElem? (i := 16) rfl)) vX6_placeOf) rfl rfl rfl (by decide +kernel) ⟨Nat.le_of_ble_eq_true rfl, Nat.le_of_ble_eq_true rfl⟩) (va_recv hK hP (ci := 6) (q0 := 1) rfl (xW_1 cI cZ ad M)) hP hK hZ hN hS hl.1 rfl rfl (Nat.le_of_ble_eq_true rfl) dX8_lookAround_127 (fun r127 M127 H locs h hP hS => ?_)
  refine lv_istore (lv' := [(8, .int r127), (0, .ref (ad 19)), (1, .ref (ad 1)), (3, .int x3), (4, .int x4), (5, .int x5), (6, .int x6), (7, .int x7)]) hx hb dX8_lookAround_130 hl (by decide) rfl (fun ls hl => ?_)
  refine lv_aload_n hx hb dX8_lookAround_132 rfl (lv_at hl 1 rfl) ?_
  refine va_get (D := D) (ci := 8) (v := .ref (ad 22)) (C := RX8) (T := TX8) (N := 3) hx hb hts inX8 hown hK hP 19 (xW_19 cI cZ ad M127) rfl 2 (by decide) k3 (fun _ h9 => h9) rfl dX8_lookAround_133 ?_
  refine lv_iload hx hb dX8_lookAround_136 (lv_at hl 0 rfl) ?_
  refine lv_iload hx hb dX8_lookAround_138 (lv_at hl 5 rfl) ?_
  refine lv_bipush (v := (-5)) hx hb dX8_lookAround_140 (by decide) ?_
  refine lv_icmp_ne (tgt := 149) hx hb dX8_lookAround_142 (by decide) (fun q142 => ?_) (fun q142 => ?_)
  · have h := h.1 q142
    refine lv_iconst (v := 0) hx hb dX8_lookAround_149 (by decide) ?_
    exact J150 x6 x7 r127 r127 0 M127 _ _ _ (lv_sub hl [1, 6, 7, 0] rfl) hP hS h
  · have h := h.2 q142
    refine lv_iconst (v := 1) hx hb dX8_lookAround_145 (by decide) ?_
    refine lv_goto (tgt := 150) hx hb dX8_lookAround_146 (by decide) ?_
    exact J150 x6 x7 r127 r127 1 M127 _ _ _ (lv_sub hl [1, 6, 7, 0] rfl) hP hS h
abbrev GX8_lookAround_23_1 (p : Program) (l : Launch) (e : Env) (s : State) (m : MethodId) (below : List Frame) (meth : Method) (c : Code) (D : va_G) (cI cZ : ClassId) (ad : Nat → Nat) (a2 a3 a4 : Int32) (Q : Mem → Prop) (H : Heap) (locs : List Loc) (g : JFrame) : Prop := W p l e (headSpec uX8_lookAround { frames := 1, cells := 0, slots := 0, locals := 24 }).room s m ([.ref (ad 23), .ref (ad 1), .int a2, .int a3, .int a4] : List Value).toArray below meth c H locs 0 0 (MQ below (va_Qv Q (xAt D cI cZ ad) (xA ad)) ([.ref (ad 23), .ref (ad 1), .int a2, .int a3, .int a4] : List Value).toArray s 0 0 (xA ad)) g
set_option maxHeartbeats 4000000 in
set_option maxRecDepth 100000 in
theorem kX8_lookAround_23_1 (l : Launch) (D : va_G) (cI cZ : ClassId) (ad : Nat → Nat) (zA zD zR : Nat) (hD : ∀ M : Mem, va_D (xA ad) (xW cI cZ ad M)) (M : Mem) (a2 a3 a4 : Int32) (Q : Mem → Prop) (h : wX8_lookAround_23_1 M a2 a3 a4 Q) : Met l yX8_lookAround uX8_lookAround ({ frames := 1, cells := 0, slots := 0, locals := 24 }) (va_Pc [.ref (ad 23), .ref (ad 1), .int a2, .int a3, .int a4] (xPre D cI cZ ad zA zD zR M)) (va_Qv Q (xAt D cI cZ ad) (xA ad)) 0 0 (xA ad) := by
  refine Met.ofW (cc := cX8_lookAround) (maxL := 12) (ret := none) (by decide) rfl ?_
  intro p e s m args below meth c s₁ B hml hv
  obtain ⟨rfl, hP, hK, hZ, hN⟩ := hv
  have hx := B.exec
  have hb := B.bytes
  have hr := B.returns
  have hts := atoms_spec (ws := uX8_lookAround) B.pre
  have hown : s.vm.findClass RX8 = some m.cls := findClass_of_methodNamed B.named
  have hlocks := B.notSynchronized
  have hS : va_S (xA ad) s.heap s.heap [] := va_S.rf
  have k0 := hts (.fieldLink RX8 9 "TwoEyes$Stand" "known" "[I") (List.mem_cons_of_mem _ (inA_4 _ (List.mem_of_getElem? (i := 11) rfl)))
  have inX8 : ∀ w ∈ wsX80, w ∈ uX8_lookAround := fun w h => List.mem_cons_of_mem _ (inCX8 w h)
  have k2 := hts (.fieldLink RX8 15 "TwoEyes$Stand" "dark" "[I") (List.mem_cons_of_mem _ (inA_4 _ (List.mem_of_getElem? (i := 12) rfl)))
  have k3 := hts (.fieldLink RX8 18 "TwoEyes$Stand" "lost" "[Z") (List.mem_cons_of_mem _ (inA_4 _ (List.mem_of_getElem? (i := 13) rfl)))
  have J79 : ∀ (B : Int32 → Int32 → Int32 → Int32 → Int32 → Int32 → Int32 → Mem → Prop) (K123 : Int32 → Int32 → Int32 → Int32 → Int32 → Mem → Prop), (∀ (x2 x3 x4 x5 x6 x7 x8 : Int32) (M : Mem) (H : Heap) (locs : List Loc) (ls : Array Slot), lv_has ls 12 [(0, .ref (ad 23)), (1, .ref (ad 1)), (2, .int x2), (3, .int x3), (4, .int x4), (5, .int x5), (6, .int x6), (7, .int x7), (8, .int x8)] → va_P D vwCl (xW cI cZ ad M) H → va_S (xA ad) s.heap H locs → B x2 x3 x4 x5 x6 x7 x8 M → GX8_lookAround_23_1 p l e s m below meth c D cI cZ ad a2 a3 a4 Q H locs (F0 m 19 ls [])) → (∀ (x3 x4 x5 x6 x7 : Int32) (M : Mem) (H : Heap) (locs : List Loc) (ls : Array Slot), lv_has ls 12 [(0, .ref (ad 23)), (1, .ref (ad 1)), (3, .int x3), (4, .int x4), (5, .int x5), (6, .int x6), (7, .int x7)] → va_P D vwCl (xW cI cZ ad M) H → va_S (xA ad) s.heap H locs → K123 x3 x4 x5 x6 x7 M → GX8_lookAround_23_1 p l e s m below meth c D cI cZ ad a2 a3 a4 Q H locs (F0 m 123 ls [])) → ∀ (x2 x3 x4 x5 x6 x7 x8 t0 : Int32) (M : Mem) (H : Heap) (locs : List Loc) (ls : Array Slot), lv_has ls 12 [(0, .ref (ad 23)), (1, .ref (ad 1)), (2, .int x2), (3, .int x3), (4, .int x4), (5, .int x5), (6, .int x6), (7, .int x7), (8, .int x8)] → va_P D vwCl (xW cI cZ ad M) H → va_S (xA ad) s.heap H locs → wX8_lookAround_23_1_J79 B K123 Q x2 x3 x4 x5 x6 x7 x8 t0 M → GX8_lookAround_23_1 p l e s m below meth c D cI cZ ad a2 a3 a4 Q H locs (F0 m 79 ls [.int t0]) := by
    intro B K123 hB hK123 x2 x3 x4 x5 x6 x7 x8 t0 M H locs ls hl hP hS h
    refine lv_istore (lv' := [(11, .int t0), (0, .ref (ad 23)), (1, .ref (ad 1)), (2, .int x2), (3, .int x3), (4, .int x4), (5, .int x5), (6, .int x6), (7, .int x7), (8, .int x8)]) hx hb dX8_lookAround_79 hl (by decide) rfl (fun ls hl => ?_)
    refine lv_iload hx hb dX8_lookAround_81 (lv_at hl 0 rfl) ?_
    refine lv_bipush (v := (-5)) hx hb dX8_lookAround_83 (by decide) ?_
    refine lv_icmp_eq (tgt := 117) hx hb dX8_lookAround_85 (by decide) (fun q85 => ?_) (fun q85 => ?_)
    · have h := h.1 q85
      obtain ⟨x8_117, ex8_117⟩ : ∃ y : Int32, y = x8 + 1 := ⟨_, rfl⟩
      have h := h x8_117 ex8_117
      refine lv_iinc (v := x8_117) (lv' := [(8, .int x8_117), (11, .int t0), (0, .ref (ad 23)), (1, .ref (ad 1)), (2, .int x2), (3, .int x3), (4, .int x4), (5, .int x5), (6, .int x6), (7, .int x7)]) hx hb dX8_lookAround_117 hl (k := 9) rfl (by rw [ex8_117]; rfl) (by decide) rfl (fun ls hl => ?_)
      refine lv_goto (tgt := 19) hx hb dX8_lookAround_120 (by decide) ?_
      exact hB x2 x3 x4 x5 x6 x7 x8_117 M _ _ _ (lv_sub hl [2, 3, 4, 5, 6, 7, 8, 9, 0] rfl) hP hS h
    · have h := h.2 q85
      refine lv_iload hx hb dX8_lookAround_88 (lv_at hl 7 rfl) ?_
      refine lv_iconst (v := 1) hx hb dX8_lookAround_90 (by decide) ?_
      refine lv_iload hx hb dX8_lookAround_91 (lv_at hl 9 rfl) ?_
      refine lv_ishl hx hb dX8_lookAround_93 ?_
      refine lv_ior hx hb dX8_lookAround_94 ?_
      refine lv_topi (fun x6_95 ex6_95 => ?_)
      have h := h x6_95 ex6_95
      refine lv_istore (lv' := [(6, .int x6_95), (11, .int t0), (0, .ref (ad 23)), (1, .ref (ad 1)), (2, .int x2), (3, .int x3), (4, .int x4), (5, .int x5), (7, .int x7), (8, .int x8)]) hx hb dX8_lookAround_95 hl (by decide) rfl (fun ls hl => ?_)
      refine lv_iload hx hb dX8_lookAround_97 (lv_at hl 8 rfl) ?_
      refine lv_iload hx hb dX8_lookAround_99 (lv_at hl 1 rfl) ?_
      refine lv_iload hx hb dX8_lookAround_101 (lv_at hl 7 rfl) ?_
      refine lv_icmp_ge (tgt := 113) hx hb dX8_lookAround_103 (by decide) (fun q103 => ?_) (fun q103 => ?_)
      · have h := h.1 q103
        refine lv_iconst (v := 0) hx hb dX8_lookAround_113 (by decide) ?_
        refine lv_ior hx hb dX8_lookAround_114 ?_
        refine lv_topi (fun x7_115 ex7_115 => ?_)
        have h := h x7_115 ex7_115
        refine lv_istore (lv' := [(7, .int x7_115), (6, .int x6_95), (11, .int t0), (0, .ref (ad 23)), (1, .ref (ad 1)), (2, .int x2), (3, .int x3), (4, .int x4), (5, .int x5), (8, .int x8)]) hx hb dX8_lookAround_115 hl (by decide) rfl (fun ls hl => ?_)
        obtain ⟨x8_117, ex8_117⟩ : ∃ y : Int32, y = x8 + 1 := ⟨_, rfl⟩
        have h := h x8_117 ex8_117
        refine lv_iinc (v := x8_117) (lv' := [(8, .int x8_117), (7, .int x7_115), (6, .int x6_95), (11, .int t0), (0, .ref (ad 23)), (1, .ref (ad 1)), (2, .int x2), (3, .int x3), (4, .int x4), (5, .int x5)]) hx hb dX8_lookAround_117 hl (k := 9) rfl (by rw [ex8_117]; rfl) (by decide) rfl (fun ls hl => ?_)
        refine lv_goto (tgt := 19) hx hb dX8_lookAround_120 (by decide) ?_
        exact hB x2 x3 x4 x5 x6_95 x7_115 x8_117 M _ _ _ (lv_sub hl [4, 5, 6, 7, 8, 9, 2, 1, 0] rfl) hP hS h
      · have h := h.2 q103
        refine lv_iconst (v := 1) hx hb dX8_lookAround_106 (by decide) ?_
        refine lv_iload hx hb dX8_lookAround_107 (lv_at hl 9 rfl) ?_
        refine lv_ishl hx hb dX8_lookAround_109 ?_
        refine lv_goto (tgt := 114) hx hb dX8_lookAround_110 (by decide) ?_
        refine lv_ior hx hb dX8_lookAround_114 ?_
        refine lv_topi (fun x7_115 ex7_115 => ?_)
        have h := h x7_115 ex7_115
        refine lv_istore (lv' := [(7, .int x7_115), (6, .int x6_95), (11, .int t0), (0, .ref (ad 23)), (1, .ref (ad 1)), (2, .int x2), (3, .int x3), (4, .int x4), (5, .int x5), (8, .int x8)]) hx hb dX8_lookAround_115 hl (by decide) rfl (fun ls hl => ?_)
        obtain ⟨x8_117, ex8_117⟩ : ∃ y : Int32, y = x8 + 1 := ⟨_, rfl⟩
        have h := h x8_117 ex8_117
        refine lv_iinc (v := x8_117) (lv' := [(8, .int x8_117), (7, .int x7_115), (6, .int x6_95), (11, .int t0), (0, .ref (ad 23)), (1, .ref (ad 1)), (2, .int x2), (3, .int x3), (4, .int x4), (5, .int x5)]) hx hb dX8_lookAround_117 hl (k := 9) rfl (by rw [ex8_117]; rfl) (by decide) rfl (fun ls hl => ?_)
        refine lv_goto (tgt := 19) hx hb dX8_lookAround_120 (by decide) ?_
        exact hB x2 x3 x4 x5 x6_95 x7_115 x8_117 M _ _ _ (lv_sub hl [4, 5, 6, 7, 8, 9, 2, 1, 0] rfl) hP hS h
  have L19 : ∀ (K123 : Int32 → Int32 → Int32 → Int32 → Int32 → Mem → Prop), (∀ (x3 x4 x5 x6 x7 : Int32) (M : Mem) (H : Heap) (locs : List Loc) (ls : Array Slot), lv_has ls 12 [(0, .ref (ad 23)), (1, .ref (ad 1)), (3, .int x3), (4, .int x4), (5, .int x5), (6, .int x6), (7, .int x7)] → va_P D vwCl (xW cI cZ ad M) H → va_S (xA ad) s.heap H locs → K123 x3 x4 x5 x6 x7 M → GX8_lookAround_23_1 p l e s m below meth c D cI cZ ad a2 a3 a4 Q H locs (F0 m 123 ls [])) → ∀ n : Nat, ∀ (x2 x3 x4 x5 x6 x7 x8 : Int32) (M : Mem) (H : Heap) (locs : List Loc) (ls : Array Slot), lv_has ls 12 [(0, .ref (ad 23)), (1, .ref (ad 1)), (2, .int x2), (3, .int x3), (4, .int x4), (5, .int x5), (6, .int x6), (7, .int x7), (8, .int x8)] → va_P D vwCl (xW cI cZ ad M) H → va_S (xA ad) s.heap H locs → wX8_lookAround_23_1_L19 K123 Q n x2 x3 x4 x5 x6 x7 x8 M → GX8_lookAround_23_1 p l e s m below meth c D cI cZ ad a2 a3 a4 Q H locs (F0 m 19 ls []) := by
    intro K123 hK123 n
    induction n with
    | zero => intro x2 x3 x4 x5 x6 x7 x8 M H locs ls hl hP hS h; exact (show False from h).elim
    | succ n hB =>
      intro x2 x3 x4 x5 x6 x7 x8 M H locs ls hl hP hS h
      rw [wX8_lookAround_23_1_L19_s] at h
      refine lv_iload hx hb dX8_lookAround_19 (lv_at hl 8 rfl) ?_
      refine lv_bipush (v := 8) hx hb dX8_lookAround_21 (by decide) ?_
      refine lv_icmp_ge (tgt := 123) hx hb dX8_lookAround_23 (by decide) (fun q23 => ?_) (fun q23 => ?_)
      · have h := h.1 q23
        exact hK123 x3 x4 x5 x6 x7 M _ _ _ (lv_sub hl [0, 1, 3, 4, 5, 6, 7] rfl) hP hS h
      · have h := h.2 q23
        refine lv_iload hx hb dX8_lookAround_26 (lv_at hl 5 rfl) ?_
        refine lv_bipush (v := (-5)) hx hb dX8_lookAround_28 (by decide) ?_
        refine lv_icmp_eq (tgt := 123) hx hb dX8_lookAround_30 (by decide) (fun q30 => ?_) (fun q30 => ?_)
        · have h := h.1 q30
          exact hK123 x3 x4 x5 x6 x7 M _ _ _ (lv_sub hl [0, 1, 3, 4, 5, 6, 7] rfl) hP hS h
        · have h := h.2 q30
          refine lv_iload_n hx hb dX8_lookAround_33 rfl (lv_at hl 3 rfl) ?_
          refine va_getsN hx hb (hZ.1) hS hown (va_Nw.use rfl hN.1) (fun _ h9 => h9) dX8_lookAround_34 ?_
          refine lv_iload hx hb dX8_lookAround_37 (lv_at hl 8 rfl) ?_
          obtain ⟨hi39, h⟩ := h
          refine va_ti hx hb (hZ.2.1) hS hi39 rfl dX8_lookAround_39 ?_
          refine lv_iadd hx hb dX8_lookAround_40 ?_
          refine lv_topi (fun x9_41 ex9_41 => ?_)
          have h := h x9_41 ex9_41
          refine lv_istore (lv' := [(9, .int x9_41), (0, .ref (ad 23)), (1, .ref (ad 1)), (2, .int x2), (3, .int x3), (4, .int x4), (5, .int x5), (6, .int x6), (7, .int x7), (8, .int x8)]) hx hb dX8_lookAround_41 hl (by decide) rfl (fun ls hl => ?_)
          refine lv_iload hx hb dX8_lookAround_43 (lv_at hl 5 rfl) ?_
          refine va_getsN hx hb (hZ.2.2.1) hS hown (va_Nw.use rfl hN.2.1) (fun _ h9 => h9) dX8_lookAround_45 ?_
          refine lv_iload hx hb dX8_lookAround_48 (lv_at hl 9 rfl) ?_
          obtain ⟨hi50, h⟩ := h
          refine va_ti hx hb (hZ.2.2.2.1) hS hi50 rfl dX8_lookAround_50 ?_
          refine lv_iadd hx hb dX8_lookAround_51 ?_
          refine lv_topi (fun x10_52 ex10_52 => ?_)
          have h := h x10_52 ex10_52
          refine lv_istore (lv' := [(10, .int x10_52), (9, .int x9_41), (0, .ref (ad 23)), (1, .ref (ad 1)), (2, .int x2), (3, .int x3), (4, .int x4), (5, .int x5), (6, .int x6), (7, .int x7), (8, .int x8)]) hx hb dX8_lookAround_52 hl (by decide) rfl (fun ls hl => ?_)
          refine lv_aload_n hx hb dX8_lookAround_54 rfl (lv_at hl 3 rfl) ?_
          refine lv_iload hx hb dX8_lookAround_55 (lv_at hl 1 rfl) ?_
          refine lv_iload hx hb dX8_lookAround_57 (lv_at hl 0 rfl) ?_
          refine x_callVi (As := [.int x9_41, .int x10_52]) (rest := []) ⟨hx, hb, hml, hown, hts⟩ (kX6_hasSquare l D cI cZ ad zA zD zR hD M x9_41 x10_52 _ h) (cwV 2 hts (gdV uS (inA_15 _ (List.mem_of_getElem? (i := 15) rfl)) vX6_hasSquare) rfl rfl rfl (by decide +kernel) ⟨Nat.le_of_ble_eq_true rfl, Nat.le_of_ble_eq_true rfl⟩) (va_recv hK hP (ci := 6) (q0 := 1) rfl (xW_1 cI cZ ad M)) hP hK hZ hN hS hl.1 rfl rfl (Nat.le_of_ble_eq_true rfl) dX8_lookAround_59 (fun r59 M59 H locs h hP hS => ?_)
          refine lv_if_eq (tgt := 77) hx hb dX8_lookAround_62 (by decide) (fun q62 => ?_) (fun q62 => ?_)
          · have h := h.1 q62
            refine lv_bipush (v := (-5)) hx hb dX8_lookAround_77 (by decide) ?_
            exact J79 _ K123 hB hK123 x2 x3 x4 x5 x6 x7 x8 (-5) M59 _ _ _ (lv_sub hl [2, 3, 4, 5, 6, 7, 8, 9, 10] rfl) hP hS h
          · have h := h.2 q62
            refine lv_aload_n hx hb dX8_lookAround_65 rfl (lv_at hl 3 rfl) ?_
            refine lv_iload_n hx hb dX8_lookAround_66 rfl (lv_at hl 4 rfl) ?_
            refine lv_iload hx hb dX8_lookAround_67 (lv_at hl 1 rfl) ?_
            refine lv_iload hx hb dX8_lookAround_69 (lv_at hl 0 rfl) ?_
            refine x_callVi (As := [.int x2, .int x9_41, .int x10_52]) (rest := []) ⟨hx, hb, hml, hown, hts⟩ (kX6_seen l D cI cZ ad zA zD zR hD M59 x2 x9_41 x10_52 _ h) (cwV 3 hts (gdV uS (inA_15 _ (List.mem_of_getElem? (i := 14) rfl)) vX6_seen) rfl rfl rfl (by decide +kernel) ⟨Nat.le_of_ble_eq_true rfl, Nat.le_of_ble_eq_true rfl⟩) (va_recv hK hP (ci := 6) (q0 := 1) rfl (xW_1 cI cZ ad M59)) hP hK hZ hN hS hl.1 rfl rfl (Nat.le_of_ble_eq_true rfl) dX8_lookAround_71 (fun r71 M71 H locs h hP hS => ?_)
            refine lv_goto (tgt := 79) hx hb dX8_lookAround_74 (by decide) ?_
            exact J79 _ K123 hB hK123 x2 x3 x4 x5 x6 x7 x8 r71 M71 _ _ _ (lv_sub hl [2, 3, 4, 5, 6, 7, 8, 9, 10] rfl) hP hS h
  have J150 : ∀ (x6 x7 x8 t1 t2 : Int32) (M : Mem) (H : Heap) (locs : List Loc) (ls : Array Slot), lv_has ls 12 [(0, .ref (ad 23)), (6, .int x6), (7, .int x7), (8, .int x8)] → va_P D vwCl (xW cI cZ ad M) H → va_S (xA ad) s.heap H locs → wX8_lookAround_23_1_J150 Q x6 x7 x8 t1 t2 M → GX8_lookAround_23_1 p l e s m below meth c D cI cZ ad a2 a3 a4 Q H locs (F0 m 150 ls [.int t2, .int t1, .ref (ad 26)]) := by
    intro x6 x7 x8 t1 t2 M H locs ls hl hP hS h
    obtain ⟨hi150, h⟩ := h
    obtain ⟨hz150, h⟩ := h
    refine va_zast hx hb hK hP (hD M) hS 26 1 (xW_26 cI cZ ad M) rfl hi150 dX8_lookAround_150 (fun H locs hP _ hS => ?_)
    rw [zst hz150] at hP
    refine xQ_26 hP (fun M150 eM150 hP => ?_)
    have h := h M150 eM150
    refine lv_aload_n hx hb dX8_lookAround_151 rfl (lv_at hl 0 rfl) ?_
    refine va_get (D := D) (ci := 8) (v := .ref (ad 24)) (C := RX8) (T := TX8) (N := 3) hx hb hts inX8 hown hK hP 23 (xW_23 cI cZ ad M150) rfl 0 (by decide) k0 (fun _ h9 => h9) rfl dX8_lookAround_152 ?_
    refine lv_iload hx hb dX8_lookAround_155 (lv_at hl 3 rfl) ?_
    refine lv_iload hx hb dX8_lookAround_157 (lv_at hl 1 rfl) ?_
    obtain ⟨hi159, h⟩ := h
    refine va_iast hx hb hK hP (hD M150) hS 24 0 (xW_24 cI cZ ad M150) rfl hi159 dX8_lookAround_159 (fun H locs hP _ hS => ?_)
    refine xQ_24 hP (fun M159 eM159 hP => ?_)
    have h := h M159 eM159
    refine lv_aload_n hx hb dX8_lookAround_160 rfl (lv_at hl 0 rfl) ?_
    refine va_get (D := D) (ci := 8) (v := .ref (ad 25)) (C := RX8) (T := TX8) (N := 3) hx hb hts inX8 hown hK hP 23 (xW_23 cI cZ ad M159) rfl 1 (by decide) k2 (fun _ h9 => h9) rfl dX8_lookAround_161 ?_
    refine lv_iload hx hb dX8_lookAround_164 (lv_at hl 3 rfl) ?_
    refine lv_iload hx hb dX8_lookAround_166 (lv_at hl 2 rfl) ?_
    obtain ⟨hi168, h⟩ := h
    refine va_iast hx hb hK hP (hD M159) hS 25 0 (xW_25 cI cZ ad M159) rfl hi168 dX8_lookAround_168 (fun H locs hP _ hS => ?_)
    refine xQ_25 hP (fun M168 eM168 hP => ?_)
    have h := h M168 eM168
    exact W.vret hx hb hr (fun t ht hW => ⟨⟨M168, rfl, h, xAt_of ht hP⟩, hS.F ht⟩) hS.2.2 dX8_lookAround_169
  have hl := lv_entry ([.ref (ad 23), .ref (ad 1), .int a2, .int a3, .int a4]) (n := 12) (Nat.le_of_ble_eq_true rfl)
  rw [lg_entry_eq]
  generalize (lg_sl ([.ref (ad 23), .ref (ad 1), .int a2, .int a3, .int a4]) ++ List.replicate (12 - (lg_sl ([.ref (ad 23), .ref (ad 1), .int a2, .int a3, .int a4])).length) Slot.unset).toArray = ls at hl ⊢
  have hl : lv_has ls 12 [(0, .ref (ad 23)), (1, .ref (ad 1)), (2, .int a2), (3, .int a3), (4, .int a4)] := hl
  refine lv_aload_n hx hb dX8_lookAround_0 rfl (lv_at hl 1 rfl) ?_
  refine lv_iload_n hx hb dX8_lookAround_1 rfl (lv_at hl 2 rfl) ?_
  refine lv_iload_n hx hb dX8_lookAround_2 rfl (lv_at hl 3 rfl) ?_
  refine lv_iload hx hb dX8_lookAround_3 (lv_at hl 4 rfl) ?_
  refine x_callVi (As := [.int a2, .int a3, .int a4]) (rest := []) ⟨hx, hb, hml, hown, hts⟩ (kX6_seen l D cI cZ ad zA zD zR hD M a2 a3 a4 _ h) (cwV 3 hts (gdV uS (inA_15 _ (List.mem_of_getElem? (i := 14) rfl)) vX6_seen) rfl rfl rfl (by decide +kernel) ⟨Nat.le_of_ble_eq_true rfl, Nat.le_of_ble_eq_true rfl⟩) (va_recv hK hP (ci := 6) (q0 := 1) rfl (xW_1 cI cZ ad M)) hP hK hZ hN hS hl.1 rfl rfl (Nat.le_of_ble_eq_true rfl) dX8_lookAround_5 (fun r5 M5 H locs h hP hS => ?_)
  refine lv_istore (lv' := [(5, .int r5), (0, .ref (ad 23)), (1, .ref (ad 1)), (2, .int a2), (3, .int a3), (4, .int a4)]) hx hb dX8_lookAround_8 hl (by decide) rfl (fun ls hl => ?_)
  refine lv_iconst (v := 0) hx hb dX8_lookAround_10 (by decide) ?_
  refine lv_istore (lv' := [(6, .int 0), (5, .int r5), (0, .ref (ad 23)), (1, .ref (ad 1)), (2, .int a2), (3, .int a3), (4, .int a4)]) hx hb dX8_lookAround_11 hl (by decide) rfl (fun ls hl => ?_)
  refine lv_iconst (v := 0) hx hb dX8_lookAround_13 (by decide) ?_
  refine lv_istore (lv' := [(7, .int 0), (6, .int 0), (5, .int r5), (0, .ref (ad 23)), (1, .ref (ad 1)), (2, .int a2), (3, .int a3), (4, .int a4)]) hx hb dX8_lookAround_14 hl (by decide) rfl (fun ls hl => ?_)
  refine lv_iconst (v := 0) hx hb dX8_lookAround_16 (by decide) ?_
  refine lv_istore (lv' := [(8, .int 0), (7, .int 0), (6, .int 0), (5, .int r5), (0, .ref (ad 23)), (1, .ref (ad 1)), (2, .int a2), (3, .int a3), (4, .int a4)]) hx hb dX8_lookAround_17 hl (by decide) rfl (fun ls hl => ?_)
  obtain ⟨n, h⟩ := h
  refine L19 _ (fun x3 x4 x5 x6 x7 M H locs ls hl hP hS h => ?_) n a2 a3 a4 r5 0 0 0 M5 _ _ _ (lv_sub hl [4, 5, 6, 7, 8, 3, 2, 1, 0] rfl) hP hS h
  refine lv_aload_n hx hb dX8_lookAround_123 rfl (lv_at hl 1 rfl) ?_
  refine lv_iload_n hx hb dX8_lookAround_124 rfl (lv_at hl 2 rfl) ?_
  refine lv_iload hx hb dX8_lookAround_125 (lv_at hl 3 rfl) ?_
  refine x_callVi (As := [.int x3, .int x4]) (rest := []) ⟨hx, hb, hml, hown, hts⟩ (kX6_placeOf l D cI cZ ad zA zD zR hD M x3 x4 _ h) (cwV 2 hts (gdV uS (inA_15 _ (List.mem_of_getElem? (i := 16) rfl)) vX6_placeOf) rfl rfl rfl (by decide +kernel) ⟨Nat.le_of_ble_eq_true rfl, Nat.le_of_ble_eq_true rfl⟩) (va_recv hK hP (ci := 6) (q0 := 1) rfl (xW_1 cI cZ ad M)) hP hK hZ hN hS hl.1 rfl rfl (Nat.le_of_ble_eq_true rfl) dX8_lookAround_127 (fun r127 M127 H locs h hP hS => ?_)
  refine lv_istore (lv' := [(8, .int r127), (0, .ref (ad 23)), (1, .ref (ad 1)), (3, .int x3), (4, .int x4), (5, .int x5), (6, .int x6), (7, .int x7)]) hx hb dX8_lookAround_130 hl (by decide) rfl (fun ls hl => ?_)
  refine lv_aload_n hx hb dX8_lookAround_132 rfl (lv_at hl 1 rfl) ?_
  refine va_get (D := D) (ci := 8) (v := .ref (ad 26)) (C := RX8) (T := TX8) (N := 3) hx hb hts inX8 hown hK hP 23 (xW_23 cI cZ ad M127) rfl 2 (by decide) k3 (fun _ h9 => h9) rfl dX8_lookAround_133 ?_
  refine lv_iload hx hb dX8_lookAround_136 (lv_at hl 0 rfl) ?_
  refine lv_iload hx hb dX8_lookAround_138 (lv_at hl 5 rfl) ?_
  refine lv_bipush (v := (-5)) hx hb dX8_lookAround_140 (by decide) ?_
  refine lv_icmp_ne (tgt := 149) hx hb dX8_lookAround_142 (by decide) (fun q142 => ?_) (fun q142 => ?_)
  · have h := h.1 q142
    refine lv_iconst (v := 0) hx hb dX8_lookAround_149 (by decide) ?_
    exact J150 x6 x7 r127 r127 0 M127 _ _ _ (lv_sub hl [1, 6, 7, 0] rfl) hP hS h
  · have h := h.2 q142
    refine lv_iconst (v := 1) hx hb dX8_lookAround_145 (by decide) ?_
    refine lv_goto (tgt := 150) hx hb dX8_lookAround_146 (by decide) ?_
    exact J150 x6 x7 r127 r127 1 M127 _ _ _ (lv_sub hl [1, 6, 7, 0] rfl) hP hS h
set_option maxHeartbeats 4000000 in
set_option maxRecDepth 100000 in
theorem kJ6_bitCount_0f7a4 (l : Launch) (D : va_G) (cI cZ : ClassId) (ad : Nat → Nat) (zA zD zR : Nat) (hD : ∀ M : Mem, va_D (xA ad) (xW cI cZ ad M)) (M : Mem) (a0 : Int32) (Q : Int32 → Mem → Prop) (h : wJ6_bitCount_0f7a4 M a0 Q) : Met l yJ6_bitCount_0f7a4 uJ6_bitCount_0f7a4 ({ frames := 0, cells := 0, slots := 0, locals := 0 }) (va_Pc [.int a0] (xPre D cI cZ ad zA zD zR M)) (va_Qi Q (xAt D cI cZ ad) (xA ad)) 0 0 (xA ad) := by
  refine Met.ofW (cc := cJ6_bitCount_0f7a4) (maxL := 1) (ret := (some .int)) (by decide) rfl ?_
  intro p e s m args below meth c s₁ B hml hv
  obtain ⟨rfl, hP, hK, hZ, hN⟩ := hv
  have hx := B.exec
  have hb := B.bytes
  have hr := B.returns
  have hts := atoms_spec (ws := uJ6_bitCount_0f7a4) B.pre
  have hown : s.vm.findClass RJ6 = some m.cls := findClass_of_methodNamed B.named
  have hlocks := B.notSynchronized
  have hS : va_S (xA ad) s.heap s.heap [] := va_S.rf
  have k0 := hts (.constant RJ6 265 (1431655765)) (List.mem_cons_of_mem _ (inA_16 _ (List.mem_of_getElem? (i := 5) rfl)))
  have k1 := hts (.constant RJ6 266 (858993459)) (List.mem_cons_of_mem _ (inA_16 _ (List.mem_of_getElem? (i := 6) rfl)))
  have k2 := hts (.constant RJ6 267 (252645135)) (List.mem_cons_of_mem _ (inA_16 _ (List.mem_of_getElem? (i := 7) rfl)))
  have hl := lv_entry ([.int a0]) (n := 1) (Nat.le_of_ble_eq_true rfl)
  rw [lg_entry_eq]
  generalize (lg_sl ([.int a0]) ++ List.replicate (1 - (lg_sl ([.int a0])).length) Slot.unset).toArray = ls at hl ⊢
  have hl : lv_has ls 1 [(0, .int a0)] := hl
  refine lv_iload_n hx hb dJ6_bitCount_0f7a4_0 rfl (lv_at hl 0 rfl) ?_
  refine lv_iload_n hx hb dJ6_bitCount_0f7a4_1 rfl (lv_at hl 0 rfl) ?_
  refine lv_iconst (v := 1) hx hb dJ6_bitCount_0f7a4_2 (by decide) ?_
  refine lv_iushr (v := (jushr a0 1)) hx hb dJ6_bitCount_0f7a4_3 rfl ?_
  refine lv_ldcw hx hb hown k0 dJ6_bitCount_0f7a4_4 ?_
  refine lv_iand hx hb dJ6_bitCount_0f7a4_7 ?_
  refine lv_isub hx hb dJ6_bitCount_0f7a4_8 ?_
  refine lv_topi (fun x0_9 ex0_9 => ?_)
  have h := h x0_9 ex0_9
  refine lv_istore_n (lv' := [(0, .int x0_9)]) hx hb dJ6_bitCount_0f7a4_9 rfl hl (by decide) rfl (fun ls hl => ?_)
  refine lv_iload_n hx hb dJ6_bitCount_0f7a4_10 rfl (lv_at hl 0 rfl) ?_
  refine lv_ldcw hx hb hown k1 dJ6_bitCount_0f7a4_11 ?_
  refine lv_iand hx hb dJ6_bitCount_0f7a4_14 ?_
  refine lv_iload_n hx hb dJ6_bitCount_0f7a4_15 rfl (lv_at hl 0 rfl) ?_
  refine lv_iconst (v := 2) hx hb dJ6_bitCount_0f7a4_16 (by decide) ?_
  refine lv_iushr (v := (jushr x0_9 2)) hx hb dJ6_bitCount_0f7a4_17 rfl ?_
  refine lv_ldcw hx hb hown k1 dJ6_bitCount_0f7a4_18 ?_
  refine lv_iand hx hb dJ6_bitCount_0f7a4_21 ?_
  refine lv_iadd hx hb dJ6_bitCount_0f7a4_22 ?_
  refine lv_topi (fun x0_23 ex0_23 => ?_)
  have h := h x0_23 ex0_23
  refine lv_istore_n (lv' := [(0, .int x0_23)]) hx hb dJ6_bitCount_0f7a4_23 rfl hl (by decide) rfl (fun ls hl => ?_)
  refine lv_iload_n hx hb dJ6_bitCount_0f7a4_24 rfl (lv_at hl 0 rfl) ?_
  refine lv_iload_n hx hb dJ6_bitCount_0f7a4_25 rfl (lv_at hl 0 rfl) ?_
  refine lv_iconst (v := 4) hx hb dJ6_bitCount_0f7a4_26 (by decide) ?_
  refine lv_iushr (v := (jushr x0_23 4)) hx hb dJ6_bitCount_0f7a4_27 rfl ?_
  refine lv_iadd hx hb dJ6_bitCount_0f7a4_28 ?_
  refine lv_ldcw hx hb hown k2 dJ6_bitCount_0f7a4_29 ?_
  refine lv_iand hx hb dJ6_bitCount_0f7a4_32 ?_
  refine lv_topi (fun x0_33 ex0_33 => ?_)
  have h := h x0_33 ex0_33
  refine lv_istore_n (lv' := [(0, .int x0_33)]) hx hb dJ6_bitCount_0f7a4_33 rfl hl (by decide) rfl (fun ls hl => ?_)
  refine lv_iload_n hx hb dJ6_bitCount_0f7a4_34 rfl (lv_at hl 0 rfl) ?_
  refine lv_iload_n hx hb dJ6_bitCount_0f7a4_35 rfl (lv_at hl 0 rfl) ?_
  refine lv_bipush (v := 8) hx hb dJ6_bitCount_0f7a4_36 (by decide) ?_
  refine lv_iushr (v := (jushr x0_33 8)) hx hb dJ6_bitCount_0f7a4_38 rfl ?_
  refine lv_iadd hx hb dJ6_bitCount_0f7a4_39 ?_
  refine lv_topi (fun x0_40 ex0_40 => ?_)
  have h := h x0_40 ex0_40
  refine lv_istore_n (lv' := [(0, .int x0_40)]) hx hb dJ6_bitCount_0f7a4_40 rfl hl (by decide) rfl (fun ls hl => ?_)
  refine lv_iload_n hx hb dJ6_bitCount_0f7a4_41 rfl (lv_at hl 0 rfl) ?_
  refine lv_iload_n hx hb dJ6_bitCount_0f7a4_42 rfl (lv_at hl 0 rfl) ?_
  refine lv_bipush (v := 16) hx hb dJ6_bitCount_0f7a4_43 (by decide) ?_
  refine lv_iushr (v := (jushr x0_40 16)) hx hb dJ6_bitCount_0f7a4_45 rfl ?_
  refine lv_iadd hx hb dJ6_bitCount_0f7a4_46 ?_
  refine lv_topi (fun x0_47 ex0_47 => ?_)
  have h := h x0_47 ex0_47
  refine lv_istore_n (lv' := [(0, .int x0_47)]) hx hb dJ6_bitCount_0f7a4_47 rfl hl (by decide) rfl (fun ls hl => ?_)
  refine lv_iload_n hx hb dJ6_bitCount_0f7a4_48 rfl (lv_at hl 0 rfl) ?_
  refine lv_bipush (v := 63) hx hb dJ6_bitCount_0f7a4_49 (by decide) ?_
  refine lv_iand hx hb dJ6_bitCount_0f7a4_51 ?_
  exact W.iret (v := (x0_47 &&& 63)) hx hb hr (fun t ht hW => ⟨⟨(x0_47 &&& 63), M, rfl, h, xAt_of ht hP⟩, hS.F ht⟩) hS.2.2 dJ6_bitCount_0f7a4_52
set_option maxHeartbeats 4000000 in
set_option maxRecDepth 100000 in
theorem kX1_measure (l : Launch) (D : va_G) (cI cZ : ClassId) (ad : Nat → Nat) (zA zD zR : Nat) (hD : ∀ M : Mem, va_D (xA ad) (xW cI cZ ad M)) (M : Mem) (a1 a2 : Int32) (Q : Int32 → Mem → Prop) (h : wX1_measure M a1 a2 Q) : Met l yX1_measure uX1_measure ({ frames := 1, cells := 0, slots := 0, locals := 20 }) (va_Pc [.ref (ad 18), .int a1, .int a2] (xPre D cI cZ ad zA zD zR M)) (va_Qi Q (xAt D cI cZ ad) (xA ad)) 0 0 (xA ad) := by
  refine Met.ofW (cc := cX1_measure) (maxL := 4) (ret := (some .int)) (by decide) rfl ?_
  intro p e s m args below meth c s₁ B hml hv
  obtain ⟨rfl, hP, hK, hZ, hN⟩ := hv
  have hx := B.exec
  have hb := B.bytes
  have hr := B.returns
  have hts := atoms_spec (ws := uX1_measure) B.pre
  have hown : s.vm.findClass RX1 = some m.cls := findClass_of_methodNamed B.named
  have hlocks := B.notSynchronized
  have hS : va_S (xA ad) s.heap s.heap [] := va_S.rf
  have k0 := hts (.fieldLink RX1 12 "TwoEyes$Costs" "left" "LTwoEyes$Stand;") (List.mem_cons_of_mem _ (inA_4 _ (List.mem_of_getElem? (i := 4) rfl)))
  have inX1 : ∀ w ∈ wsX10, w ∈ uX1_measure := fun w h => List.mem_cons_of_mem _ (inCX1 w h)
  have k2 := hts (.fieldLink RX1 49 "TwoEyes$Stand" "lost" "[Z") (List.mem_cons_of_mem _ (inA_15 _ (List.mem_of_getElem? (i := 22) rfl)))
  have inX8 : ∀ w ∈ wsX80, w ∈ uX1_measure := fun w h => List.mem_cons_of_mem _ (inCX8 w h)
  have k4 := hts (.fieldLink RX1 18 "TwoEyes$Costs" "right" "LTwoEyes$Stand;") (List.mem_cons_of_mem _ (inA_4 _ (List.mem_of_getElem? (i := 5) rfl)))
  have k5 := hts (.fieldLink RX1 53 "TwoEyes$Stand" "known" "[I") (List.mem_cons_of_mem _ (inA_15 _ (List.mem_of_getElem? (i := 23) rfl)))
  have k6 := hts (.fieldLink RX1 56 "TwoEyes$Stand" "dark" "[I") (List.mem_cons_of_mem _ (inA_16 _ (List.mem_of_getElem? (i := 0) rfl)))
  have hl := lv_entry ([.ref (ad 18), .int a1, .int a2]) (n := 4) (Nat.le_of_ble_eq_true rfl)
  rw [lg_entry_eq]
  generalize (lg_sl ([.ref (ad 18), .int a1, .int a2]) ++ List.replicate (4 - (lg_sl ([.ref (ad 18), .int a1, .int a2])).length) Slot.unset).toArray = ls at hl ⊢
  have hl : lv_has ls 4 [(0, .ref (ad 18)), (1, .int a1), (2, .int a2)] := hl
  refine lv_aload_n hx hb dX1_measure_0 rfl (lv_at hl 0 rfl) ?_
  refine va_get (D := D) (ci := 1) (v := .ref (ad 19)) (C := RX1) (T := TX1) (N := 4) hx hb hts inX1 hown hK hP 18 (xW_18 cI cZ ad M) rfl 0 (by decide) k0 (fun _ h9 => h9) rfl dX1_measure_1 ?_
  refine va_get (D := D) (ci := 8) (v := .ref (ad 22)) (C := RX8) (T := TX8) (N := 3) hx hb hts inX8 hown hK hP 19 (xW_19 cI cZ ad M) rfl 2 (by decide) k2 (fun _ h9 => h9) rfl dX1_measure_4 ?_
  refine lv_iload_n hx hb dX1_measure_7 rfl (lv_at hl 1 rfl) ?_
  obtain ⟨hi8, h⟩ := h
  refine va_zald hx hb hK hP 22 1 (xW_22 cI cZ ad M) rfl hi8 dX1_measure_8 ?_
  refine lv_if_ne (tgt := 24) hx hb dX1_measure_9 (by decide) (fun q9 => ?_) (fun q9 => ?_)
  · have h := h.1 q9
    refine lv_bipush (v := (-4)) hx hb dX1_measure_24 (by decide) ?_
    exact W.iret (v := (-4)) hx hb hr (fun t ht hW => ⟨⟨(-4), M, rfl, h, xAt_of ht hP⟩, hS.F ht⟩) hS.2.2 dX1_measure_26
  · have h := h.2 q9
    refine lv_aload_n hx hb dX1_measure_12 rfl (lv_at hl 0 rfl) ?_
    refine va_get (D := D) (ci := 1) (v := .ref (ad 23)) (C := RX1) (T := TX1) (N := 4) hx hb hts inX1 hown hK hP 18 (xW_18 cI cZ ad M) rfl 1 (by decide) k4 (fun _ h9 => h9) rfl dX1_measure_13 ?_
    refine va_get (D := D) (ci := 8) (v := .ref (ad 26)) (C := RX8) (T := TX8) (N := 3) hx hb hts inX8 hown hK hP 23 (xW_23 cI cZ ad M) rfl 2 (by decide) k2 (fun _ h9 => h9) rfl dX1_measure_16 ?_
    refine lv_iload_n hx hb dX1_measure_19 rfl (lv_at hl 2 rfl) ?_
    obtain ⟨hi20, h⟩ := h
    refine va_zald hx hb hK hP 26 1 (xW_26 cI cZ ad M) rfl hi20 dX1_measure_20 ?_
    refine lv_if_eq (tgt := 27) hx hb dX1_measure_21 (by decide) (fun q21 => ?_) (fun q21 => ?_)
    · have h := h.1 q21
      refine lv_aload_n hx hb dX1_measure_27 rfl (lv_at hl 0 rfl) ?_
      refine va_get (D := D) (ci := 1) (v := .ref (ad 19)) (C := RX1) (T := TX1) (N := 4) hx hb hts inX1 hown hK hP 18 (xW_18 cI cZ ad M) rfl 0 (by decide) k0 (fun _ h9 => h9) rfl dX1_measure_28 ?_
      refine va_get (D := D) (ci := 8) (v := .ref (ad 20)) (C := RX8) (T := TX8) (N := 3) hx hb hts inX8 hown hK hP 19 (xW_19 cI cZ ad M) rfl 0 (by decide) k5 (fun _ h9 => h9) rfl dX1_measure_31 ?_
      refine lv_iload_n hx hb dX1_measure_34 rfl (lv_at hl 1 rfl) ?_
      obtain ⟨hi35, h⟩ := h
      refine va_iald hx hb hK hP 20 0 (xW_20 cI cZ ad M) rfl hi35 dX1_measure_35 ?_
      refine lv_aload_n hx hb dX1_measure_36 rfl (lv_at hl 0 rfl) ?_
      refine va_get (D := D) (ci := 1) (v := .ref (ad 23)) (C := RX1) (T := TX1) (N := 4) hx hb hts inX1 hown hK hP 18 (xW_18 cI cZ ad M) rfl 1 (by decide) k4 (fun _ h9 => h9) rfl dX1_measure_37 ?_
      refine va_get (D := D) (ci := 8) (v := .ref (ad 24)) (C := RX8) (T := TX8) (N := 3) hx hb hts inX8 hown hK hP 23 (xW_23 cI cZ ad M) rfl 0 (by decide) k5 (fun _ h9 => h9) rfl dX1_measure_40 ?_
      refine lv_iload_n hx hb dX1_measure_43 rfl (lv_at hl 2 rfl) ?_
      obtain ⟨hi44, h⟩ := h
      refine va_iald hx hb hK hP 24 0 (xW_24 cI cZ ad M) rfl hi44 dX1_measure_44 ?_
      refine lv_iand hx hb dX1_measure_45 ?_
      refine lv_topi (fun x3_46 ex3_46 => ?_)
      have h := h x3_46 ex3_46
      refine lv_istore_n (lv' := [(3, .int x3_46), (0, .ref (ad 18)), (1, .int a1), (2, .int a2)]) hx hb dX1_measure_46 rfl hl (by decide) rfl (fun ls hl => ?_)
      refine lv_iload_n hx hb dX1_measure_47 rfl (lv_at hl 0 rfl) ?_
      refine lv_aload_n hx hb dX1_measure_48 rfl (lv_at hl 1 rfl) ?_
      refine va_get (D := D) (ci := 1) (v := .ref (ad 19)) (C := RX1) (T := TX1) (N := 4) hx hb hts inX1 hown hK hP 18 (xW_18 cI cZ ad M) rfl 0 (by decide) k0 (fun _ h9 => h9) rfl dX1_measure_49 ?_
      refine va_get (D := D) (ci := 8) (v := .ref (ad 21)) (C := RX8) (T := TX8) (N := 3) hx hb hts inX8 hown hK hP 19 (xW_19 cI cZ ad M) rfl 1 (by decide) k6 (fun _ h9 => h9) rfl dX1_measure_52 ?_
      refine lv_iload_n hx hb dX1_measure_55 rfl (lv_at hl 2 rfl) ?_
      obtain ⟨hi56, h⟩ := h
      refine va_iald hx hb hK hP 21 0 (xW_21 cI cZ ad M) rfl hi56 dX1_measure_56 ?_
      refine lv_aload_n hx hb dX1_measure_57 rfl (lv_at hl 1 rfl) ?_
      refine va_get (D := D) (ci := 1) (v := .ref (ad 23)) (C := RX1) (T := TX1) (N := 4) hx hb hts inX1 hown hK hP 18 (xW_18 cI cZ ad M) rfl 1 (by decide) k4 (fun _ h9 => h9) rfl dX1_measure_58 ?_
      refine va_get (D := D) (ci := 8) (v := .ref (ad 25)) (C := RX8) (T := TX8) (N := 3) hx hb hts inX8 hown hK hP 23 (xW_23 cI cZ ad M) rfl 1 (by decide) k6 (fun _ h9 => h9) rfl dX1_measure_61 ?_
      refine lv_iload_n hx hb dX1_measure_64 rfl (lv_at hl 3 rfl) ?_
      obtain ⟨hi65, h⟩ := h
      refine va_iald hx hb hK hP 25 0 (xW_25 cI cZ ad M) rfl hi65 dX1_measure_65 ?_
      refine lv_ixor hx hb dX1_measure_66 ?_
      refine lv_iand hx hb dX1_measure_67 ?_
      refine x_callSi (As := [.int (x3_46 &&& ((M 21 (a1).toNatClampNeg) ^^^ (M 25 (a2).toNatClampNeg)))]) (rest := []) ⟨hx, hb, hml, hown, hts⟩ (kJ6_bitCount_0f7a4 l D cI cZ ad zA zD zR hD M (x3_46 &&& ((M 21 (a1).toNatClampNeg) ^^^ (M 25 (a2).toNatClampNeg))) _ h) (va_cwS 1 hts (gdS uS (inA_16 _ (List.mem_of_getElem? (i := 1) rfl)) vJ6_bitCount_0f7a4) rfl rfl rfl (by decide +kernel) ⟨Nat.le_of_ble_eq_true rfl, Nat.le_of_ble_eq_true rfl⟩) hP hK hZ hN hS hl.1 rfl rfl (Nat.le_of_ble_eq_true rfl) dX1_measure_68 (fun v68 M68 H locs h hP hS => ?_)
      exact W.iret (v := v68) hx hb hr (fun t ht hW => ⟨⟨v68, M68, rfl, h, xAt_of ht hP⟩, hS.F ht⟩) hS.2.2 dX1_measure_71
    · have h := h.2 q21
      refine lv_bipush (v := (-4)) hx hb dX1_measure_24 (by decide) ?_
      exact W.iret (v := (-4)) hx hb hr (fun t ht hW => ⟨⟨(-4), M, rfl, h, xAt_of ht hP⟩, hS.F ht⟩) hS.2.2 dX1_measure_26
abbrev GX1_measureAll (p : Program) (l : Launch) (e : Env) (s : State) (m : MethodId) (below : List Frame) (meth : Method) (c : Code) (D : va_G) (cI cZ : ClassId) (ad : Nat → Nat) (Q : Mem → Prop) (H : Heap) (locs : List Loc) (g : JFrame) : Prop := W p l e (headSpec uX1_measureAll { frames := 2, cells := 0, slots := 0, locals := 55 }).room s m ([.ref (ad 18), .ref (ad 1)] : List Value).toArray below meth c H locs 0 0 (MQ below (va_Qv Q (xAt D cI cZ ad) (xA ad)) ([.ref (ad 18), .ref (ad 1)] : List Value).toArray s 0 0 (xA ad)) g
set_option maxHeartbeats 4000000 in
set_option maxRecDepth 100000 in
theorem kX1_measureAll (l : Launch) (D : va_G) (cI cZ : ClassId) (ad : Nat → Nat) (zA zD zR : Nat) (hD : ∀ M : Mem, va_D (xA ad) (xW cI cZ ad M)) (M : Mem) (Q : Mem → Prop) (h : wX1_measureAll M Q) : Met l yX1_measureAll uX1_measureAll ({ frames := 2, cells := 0, slots := 0, locals := 55 }) (va_Pc [.ref (ad 18), .ref (ad 1)] (xPre D cI cZ ad zA zD zR M)) (va_Qv Q (xAt D cI cZ ad) (xA ad)) 0 0 (xA ad) := by
  refine Met.ofW (cc := cX1_measureAll) (maxL := 6) (ret := none) (by decide) rfl ?_
  intro p e s m args below meth c s₁ B hml hv
  obtain ⟨rfl, hP, hK, hZ, hN⟩ := hv
  have hx := B.exec
  have hb := B.bytes
  have hr := B.returns
  have hts := atoms_spec (ws := uX1_measureAll) B.pre
  have hown : s.vm.findClass RX1 = some m.cls := findClass_of_methodNamed B.named
  have hlocks := B.notSynchronized
  have hS : va_S (xA ad) s.heap s.heap [] := va_S.rf
  have k0 := hts (.fieldLink RX1 35 "TwoEyes$Scene" "width" "I") (List.mem_cons_of_mem _ (inA_15 _ (List.mem_of_getElem? (i := 9) rfl)))
  have inX6 : ∀ w ∈ wsX60, w ∈ uX1_measureAll := fun w h => List.mem_cons_of_mem _ (inCX6 w h)
  have k2 := hts (.fieldLink RX1 12 "TwoEyes$Costs" "left" "LTwoEyes$Stand;") (List.mem_cons_of_mem _ (inA_4 _ (List.mem_of_getElem? (i := 4) rfl)))
  have inX1 : ∀ w ∈ wsX10, w ∈ uX1_measureAll := fun w h => List.mem_cons_of_mem _ (inCX1 w h)
  have k4 := hts (.fieldLink RX1 18 "TwoEyes$Costs" "right" "LTwoEyes$Stand;") (List.mem_cons_of_mem _ (inA_4 _ (List.mem_of_getElem? (i := 5) rfl)))
  have k5 := hts (.fieldLink RX1 21 "TwoEyes$Costs" "table" "[I") (List.mem_cons_of_mem _ (inA_4 _ (List.mem_of_getElem? (i := 6) rfl)))
  have k6 := hts (.fieldLink RX1 29 "TwoEyes$Scene" "height" "I") (List.mem_cons_of_mem _ (inA_15 _ (List.mem_of_getElem? (i := 8) rfl)))
  have k7 := hts (.fieldLink RX1 25 "TwoEyes$Costs" "fresh" "Z") (List.mem_cons_of_mem _ (inA_4 _ (List.mem_of_getElem? (i := 7) rfl)))
  have L12 : ∀ (K48 : Int32 → Mem → Prop), (∀ (x2 : Int32) (M : Mem) (H : Heap) (locs : List Loc) (ls : Array Slot), lv_has ls 6 [(0, .ref (ad 18)), (1, .ref (ad 1)), (2, .int x2)] → va_P D vwCl (xW cI cZ ad M) H → va_S (xA ad) s.heap H locs → K48 x2 M → GX1_measureAll p l e s m below meth c D cI cZ ad Q H locs (F0 m 48 ls [])) → ∀ n : Nat, ∀ (x2 x3 : Int32) (M : Mem) (H : Heap) (locs : List Loc) (ls : Array Slot), lv_has ls 6 [(0, .ref (ad 18)), (1, .ref (ad 1)), (2, .int x2), (3, .int x3)] → va_P D vwCl (xW cI cZ ad M) H → va_S (xA ad) s.heap H locs → wX1_measureAll_L12 K48 Q n x2 x3 M → GX1_measureAll p l e s m below meth c D cI cZ ad Q H locs (F0 m 12 ls []) := by
    intro K48 hK48 n
    induction n with
    | zero => intro x2 x3 M H locs ls hl hP hS h; exact (show False from h).elim
    | succ n hB =>
      intro x2 x3 M H locs ls hl hP hS h
      rw [wX1_measureAll_L12_s] at h
      refine lv_iload_n hx hb dX1_measureAll_12 rfl (lv_at hl 3 rfl) ?_
      refine lv_aload_n hx hb dX1_measureAll_13 rfl (lv_at hl 1 rfl) ?_
      refine va_get (D := D) (ci := 6) (v := .int (M 1 0)) (C := RX6) (T := TX6) (N := 5) hx hb hts inX6 hown hK hP 1 (xW_1 cI cZ ad M) rfl 0 (by decide) k0 (fun _ h9 => h9) rfl dX1_measureAll_14 ?_
      refine lv_icmp_ge (tgt := 48) hx hb dX1_measureAll_17 (by decide) (fun q17 => ?_) (fun q17 => ?_)
      · have h := h.1 q17
        exact hK48 x2 M _ _ _ (lv_sub hl [0, 1, 2] rfl) hP hS h
      · have h := h.2 q17
        refine lv_aload_n hx hb dX1_measureAll_20 rfl (lv_at hl 0 rfl) ?_
        refine va_get (D := D) (ci := 1) (v := .ref (ad 19)) (C := RX1) (T := TX1) (N := 4) hx hb hts inX1 hown hK hP 18 (xW_18 cI cZ ad M) rfl 0 (by decide) k2 (fun _ h9 => h9) rfl dX1_measureAll_21 ?_
        refine lv_aload_n hx hb dX1_measureAll_24 rfl (lv_at hl 1 rfl) ?_
        refine lv_iconst (v := 0) hx hb dX1_measureAll_25 (by decide) ?_
        refine lv_iload_n hx hb dX1_measureAll_26 rfl (lv_at hl 3 rfl) ?_
        refine lv_iload_n hx hb dX1_measureAll_27 rfl (lv_at hl 2 rfl) ?_
        refine x_callVv (As := [.ref (ad 1), .int 0, .int x3, .int x2]) (rest := []) ⟨hx, hb, hml, hown, hts⟩ (kX8_lookAround_19_1 l D cI cZ ad zA zD zR hD M 0 x3 x2 _ h) (cwV 4 hts (gdV uS (inA_15 _ (List.mem_of_getElem? (i := 10) rfl)) vX8_lookAround) rfl rfl rfl (by decide +kernel) ⟨Nat.le_of_ble_eq_true rfl, Nat.le_of_ble_eq_true rfl⟩) (va_recv hK hP (ci := 8) (q0 := 19) rfl (xW_19 cI cZ ad M)) hP hK hZ hN hS hl.1 rfl rfl (Nat.le_of_ble_eq_true rfl) dX1_measureAll_28 (fun M28 H locs h hP hS => ?_)
        refine lv_aload_n hx hb dX1_measureAll_31 rfl (lv_at hl 0 rfl) ?_
        refine va_get (D := D) (ci := 1) (v := .ref (ad 23)) (C := RX1) (T := TX1) (N := 4) hx hb hts inX1 hown hK hP 18 (xW_18 cI cZ ad M28) rfl 1 (by decide) k4 (fun _ h9 => h9) rfl dX1_measureAll_32 ?_
        refine lv_aload_n hx hb dX1_measureAll_35 rfl (lv_at hl 1 rfl) ?_
        refine lv_iconst (v := 1) hx hb dX1_measureAll_36 (by decide) ?_
        refine lv_iload_n hx hb dX1_measureAll_37 rfl (lv_at hl 3 rfl) ?_
        refine lv_iload_n hx hb dX1_measureAll_38 rfl (lv_at hl 2 rfl) ?_
        refine x_callVv (As := [.ref (ad 1), .int 1, .int x3, .int x2]) (rest := []) ⟨hx, hb, hml, hown, hts⟩ (kX8_lookAround_23_1 l D cI cZ ad zA zD zR hD M28 1 x3 x2 _ h) (cwV 4 hts (gdV uS (inA_15 _ (List.mem_of_getElem? (i := 10) rfl)) vX8_lookAround) rfl rfl rfl (by decide +kernel) ⟨Nat.le_of_ble_eq_true rfl, Nat.le_of_ble_eq_true rfl⟩) (va_recv hK hP (ci := 8) (q0 := 23) rfl (xW_23 cI cZ ad M28)) hP hK hZ hN hS hl.1 rfl rfl (Nat.le_of_ble_eq_true rfl) dX1_measureAll_39 (fun M39 H locs h hP hS => ?_)
        obtain ⟨x3_42, ex3_42⟩ : ∃ y : Int32, y = x3 + 1 := ⟨_, rfl⟩
        have h := h x3_42 ex3_42
        refine lv_iinc (v := x3_42) (lv' := [(3, .int x3_42), (0, .ref (ad 18)), (1, .ref (ad 1)), (2, .int x2)]) hx hb dX1_measureAll_42 hl (k := 3) rfl (by rw [ex3_42]; rfl) (by decide) rfl (fun ls hl => ?_)
        refine lv_goto (tgt := 12) hx hb dX1_measureAll_45 (by decide) ?_
        exact hB x2 x3_42 M39 _ _ _ (lv_sub hl [1, 2, 3, 0] rfl) hP hS h
  have J126 : ∀ (B : Int32 → Int32 → Int32 → Int32 → Mem → Prop) (K133 : Int32 → Int32 → Mem → Prop), (∀ (x2 x3 x4 x5 : Int32) (M : Mem) (H : Heap) (locs : List Loc) (ls : Array Slot), lv_has ls 6 [(0, .ref (ad 18)), (1, .ref (ad 1)), (2, .int x2), (3, .int x3), (4, .int x4), (5, .int x5)] → va_P D vwCl (xW cI cZ ad M) H → va_S (xA ad) s.heap H locs → B x2 x3 x4 x5 M → GX1_measureAll p l e s m below meth c D cI cZ ad Q H locs (F0 m 85 ls [])) → (∀ (x2 x3 : Int32) (M : Mem) (H : Heap) (locs : List Loc) (ls : Array Slot), lv_has ls 6 [(0, .ref (ad 18)), (1, .ref (ad 1)), (2, .int x2), (3, .int x3)] → va_P D vwCl (xW cI cZ ad M) H → va_S (xA ad) s.heap H locs → K133 x2 x3 M → GX1_measureAll p l e s m below meth c D cI cZ ad Q H locs (F0 m 133 ls [])) → ∀ (x2 x3 x4 x5 t1 t2 : Int32) (M : Mem) (H : Heap) (locs : List Loc) (ls : Array Slot), lv_has ls 6 [(0, .ref (ad 18)), (1, .ref (ad 1)), (2, .int x2), (3, .int x3), (4, .int x4), (5, .int x5)] → va_P D vwCl (xW cI cZ ad M) H → va_S (xA ad) s.heap H locs → wX1_measureAll_J126 B K133 Q x2 x3 x4 x5 t1 t2 M → GX1_measureAll p l e s m below meth c D cI cZ ad Q H locs (F0 m 126 ls [.int t2, .int t1, .ref (ad 27)]) := by
    intro B K133 hB hK133 x2 x3 x4 x5 t1 t2 M H locs ls hl hP hS h
    obtain ⟨hi126, h⟩ := h
    refine va_iast hx hb hK hP (hD M) hS 27 0 (xW_27 cI cZ ad M) rfl hi126 dX1_measureAll_126 (fun H locs hP _ hS => ?_)
    refine xQ_27 hP (fun M126 eM126 hP => ?_)
    have h := h M126 eM126
    obtain ⟨x5_127, ex5_127⟩ : ∃ y : Int32, y = x5 + 1 := ⟨_, rfl⟩
    have h := h x5_127 ex5_127
    refine lv_iinc (v := x5_127) (lv' := [(5, .int x5_127), (0, .ref (ad 18)), (1, .ref (ad 1)), (2, .int x2), (3, .int x3), (4, .int x4)]) hx hb dX1_measureAll_127 hl (k := 5) rfl (by rw [ex5_127]; rfl) (by decide) rfl (fun ls hl => ?_)
    refine lv_goto (tgt := 85) hx hb dX1_measureAll_130 (by decide) ?_
    exact hB x2 x3 x4 x5_127 M126 _ _ _ (lv_sub hl [1, 2, 3, 4, 5, 0] rfl) hP hS h
  have L85 : ∀ (K133 : Int32 → Int32 → Mem → Prop), (∀ (x2 x3 : Int32) (M : Mem) (H : Heap) (locs : List Loc) (ls : Array Slot), lv_has ls 6 [(0, .ref (ad 18)), (1, .ref (ad 1)), (2, .int x2), (3, .int x3)] → va_P D vwCl (xW cI cZ ad M) H → va_S (xA ad) s.heap H locs → K133 x2 x3 M → GX1_measureAll p l e s m below meth c D cI cZ ad Q H locs (F0 m 133 ls [])) → ∀ n : Nat, ∀ (x2 x3 x4 x5 : Int32) (M : Mem) (H : Heap) (locs : List Loc) (ls : Array Slot), lv_has ls 6 [(0, .ref (ad 18)), (1, .ref (ad 1)), (2, .int x2), (3, .int x3), (4, .int x4), (5, .int x5)] → va_P D vwCl (xW cI cZ ad M) H → va_S (xA ad) s.heap H locs → wX1_measureAll_L85 K133 Q n x2 x3 x4 x5 M → GX1_measureAll p l e s m below meth c D cI cZ ad Q H locs (F0 m 85 ls []) := by
    intro K133 hK133 n
    induction n with
    | zero => intro x2 x3 x4 x5 M H locs ls hl hP hS h; exact (show False from h).elim
    | succ n hB =>
      intro x2 x3 x4 x5 M H locs ls hl hP hS h
      rw [wX1_measureAll_L85_s] at h
      refine lv_iload hx hb dX1_measureAll_85 (lv_at hl 5 rfl) ?_
      refine lv_bipush (v := 9) hx hb dX1_measureAll_87 (by decide) ?_
      refine lv_icmp_ge (tgt := 133) hx hb dX1_measureAll_89 (by decide) (fun q89 => ?_) (fun q89 => ?_)
      · have h := h.1 q89
        exact hK133 x2 x3 M _ _ _ (lv_sub hl [0, 1, 2, 3] rfl) hP hS h
      · have h := h.2 q89
        refine lv_aload_n hx hb dX1_measureAll_92 rfl (lv_at hl 0 rfl) ?_
        refine va_get (D := D) (ci := 1) (v := .ref (ad 27)) (C := RX1) (T := TX1) (N := 4) hx hb hts inX1 hown hK hP 18 (xW_18 cI cZ ad M) rfl 2 (by decide) k5 (fun _ h9 => h9) rfl dX1_measureAll_93 ?_
        refine lv_iload hx hb dX1_measureAll_96 (lv_at hl 4 rfl) ?_
        refine lv_bipush (v := 9) hx hb dX1_measureAll_98 (by decide) ?_
        refine lv_imul hx hb dX1_measureAll_100 ?_
        refine lv_iload hx hb dX1_measureAll_101 (lv_at hl 5 rfl) ?_
        refine lv_iadd hx hb dX1_measureAll_103 ?_
        refine lv_iload hx hb dX1_measureAll_104 (lv_at hl 5 rfl) ?_
        refine lv_iload_n hx hb dX1_measureAll_106 rfl (lv_at hl 3 rfl) ?_
        refine lv_icmp_le (tgt := 115) hx hb dX1_measureAll_107 (by decide) (fun q107 => ?_) (fun q107 => ?_)
        · have h := h.1 q107
          refine lv_aload_n hx hb dX1_measureAll_115 rfl (lv_at hl 0 rfl) ?_
          refine lv_iload hx hb dX1_measureAll_116 (lv_at hl 4 rfl) ?_
          refine lv_iload hx hb dX1_measureAll_118 (lv_at hl 4 rfl) ?_
          refine lv_iload hx hb dX1_measureAll_120 (lv_at hl 5 rfl) ?_
          refine lv_isub hx hb dX1_measureAll_122 ?_
          refine x_callVi (As := [.int x4, .int (x4 - x5)]) (rest := [.int ((x4 * 9) + x5), .ref (ad 27)]) ⟨hx, hb, hml, hown, hts⟩ (kX1_measure l D cI cZ ad zA zD zR hD M x4 (x4 - x5) _ h) (cwV 2 hts (gdV uS (inA_15 _ (List.mem_of_getElem? (i := 18) rfl)) vX1_measure) rfl rfl rfl (by decide +kernel) ⟨Nat.le_of_ble_eq_true rfl, Nat.le_of_ble_eq_true rfl⟩) (va_recv hK hP (ci := 1) (q0 := 18) rfl (xW_18 cI cZ ad M)) hP hK hZ hN hS hl.1 rfl rfl (Nat.le_of_ble_eq_true rfl) dX1_measureAll_123 (fun r123 M123 H locs h hP hS => ?_)
          exact J126 _ K133 hB hK133 x2 x3 x4 x5 ((x4 * 9) + x5) r123 M123 _ _ _ (lv_sub hl [0, 1, 2, 3, 4, 5] rfl) hP hS h
        · have h := h.2 q107
          refine lv_bipush (v := (-4)) hx hb dX1_measureAll_110 (by decide) ?_
          refine lv_goto (tgt := 126) hx hb dX1_measureAll_112 (by decide) ?_
          exact J126 _ K133 hB hK133 x2 x3 x4 x5 ((x4 * 9) + x5) (-4) M _ _ _ (lv_sub hl [0, 1, 2, 3, 4, 5] rfl) hP hS h
  have L2 : ∀ (K54 : Mem → Prop), (∀ (M : Mem) (H : Heap) (locs : List Loc) (ls : Array Slot), lv_has ls 6 [(0, .ref (ad 18)), (1, .ref (ad 1))] → va_P D vwCl (xW cI cZ ad M) H → va_S (xA ad) s.heap H locs → K54 M → GX1_measureAll p l e s m below meth c D cI cZ ad Q H locs (F0 m 54 ls [])) → ∀ n : Nat, ∀ (x2 : Int32) (M : Mem) (H : Heap) (locs : List Loc) (ls : Array Slot), lv_has ls 6 [(0, .ref (ad 18)), (1, .ref (ad 1)), (2, .int x2)] → va_P D vwCl (xW cI cZ ad M) H → va_S (xA ad) s.heap H locs → wX1_measureAll_L2 K54 Q n x2 M → GX1_measureAll p l e s m below meth c D cI cZ ad Q H locs (F0 m 2 ls []) := by
    intro K54 hK54 n
    induction n with
    | zero => intro x2 M H locs ls hl hP hS h; exact (show False from h).elim
    | succ n hB =>
      intro x2 M H locs ls hl hP hS h
      rw [wX1_measureAll_L2_s] at h
      refine lv_iload_n hx hb dX1_measureAll_2 rfl (lv_at hl 2 rfl) ?_
      refine lv_aload_n hx hb dX1_measureAll_3 rfl (lv_at hl 1 rfl) ?_
      refine va_get (D := D) (ci := 6) (v := .int (M 1 1)) (C := RX6) (T := TX6) (N := 5) hx hb hts inX6 hown hK hP 1 (xW_1 cI cZ ad M) rfl 1 (by decide) k6 (fun _ h9 => h9) rfl dX1_measureAll_4 ?_
      refine lv_icmp_ge (tgt := 54) hx hb dX1_measureAll_7 (by decide) (fun q7 => ?_) (fun q7 => ?_)
      · have h := h.1 q7
        exact hK54 M _ _ _ (lv_sub hl [0, 1] rfl) hP hS h
      · have h := h.2 q7
        refine lv_iconst (v := 0) hx hb dX1_measureAll_10 (by decide) ?_
        refine lv_istore_n (lv' := [(3, .int 0), (0, .ref (ad 18)), (1, .ref (ad 1)), (2, .int x2)]) hx hb dX1_measureAll_11 rfl hl (by decide) rfl (fun ls hl => ?_)
        obtain ⟨n, h⟩ := h
        refine L12 _ (fun x2 M H locs ls hl hP hS h => ?_) n x2 0 M _ _ _ (lv_sub hl [1, 2, 3, 0] rfl) hP hS h
        obtain ⟨x2_48, ex2_48⟩ : ∃ y : Int32, y = x2 + 1 := ⟨_, rfl⟩
        have h := h x2_48 ex2_48
        refine lv_iinc (v := x2_48) (lv' := [(2, .int x2_48), (0, .ref (ad 18)), (1, .ref (ad 1))]) hx hb dX1_measureAll_48 hl (k := 2) rfl (by rw [ex2_48]; rfl) (by decide) rfl (fun ls hl => ?_)
        refine lv_goto (tgt := 2) hx hb dX1_measureAll_51 (by decide) ?_
        exact hB x2_48 M _ _ _ (lv_sub hl [1, 2, 0] rfl) hP hS h
  have L66 : ∀ (K139 : Int32 → Mem → Prop), (∀ (x2 : Int32) (M : Mem) (H : Heap) (locs : List Loc) (ls : Array Slot), lv_has ls 6 [(0, .ref (ad 18)), (1, .ref (ad 1)), (2, .int x2)] → va_P D vwCl (xW cI cZ ad M) H → va_S (xA ad) s.heap H locs → K139 x2 M → GX1_measureAll p l e s m below meth c D cI cZ ad Q H locs (F0 m 139 ls [])) → ∀ n : Nat, ∀ (x2 x3 : Int32) (M : Mem) (H : Heap) (locs : List Loc) (ls : Array Slot), lv_has ls 6 [(0, .ref (ad 18)), (1, .ref (ad 1)), (2, .int x2), (3, .int x3)] → va_P D vwCl (xW cI cZ ad M) H → va_S (xA ad) s.heap H locs → wX1_measureAll_L66 K139 Q n x2 x3 M → GX1_measureAll p l e s m below meth c D cI cZ ad Q H locs (F0 m 66 ls []) := by
    intro K139 hK139 n
    induction n with
    | zero => intro x2 x3 M H locs ls hl hP hS h; exact (show False from h).elim
    | succ n hB =>
      intro x2 x3 M H locs ls hl hP hS h
      rw [wX1_measureAll_L66_s] at h
      refine lv_iload_n hx hb dX1_measureAll_66 rfl (lv_at hl 3 rfl) ?_
      refine lv_aload_n hx hb dX1_measureAll_67 rfl (lv_at hl 1 rfl) ?_
      refine va_get (D := D) (ci := 6) (v := .int (M 1 0)) (C := RX6) (T := TX6) (N := 5) hx hb hts inX6 hown hK hP 1 (xW_1 cI cZ ad M) rfl 0 (by decide) k0 (fun _ h9 => h9) rfl dX1_measureAll_68 ?_
      refine lv_icmp_ge (tgt := 139) hx hb dX1_measureAll_71 (by decide) (fun q71 => ?_) (fun q71 => ?_)
      · have h := h.1 q71
        exact hK139 x2 M _ _ _ (lv_sub hl [0, 1, 2] rfl) hP hS h
      · have h := h.2 q71
        refine lv_aload_n hx hb dX1_measureAll_74 rfl (lv_at hl 1 rfl) ?_
        refine lv_iload_n hx hb dX1_measureAll_75 rfl (lv_at hl 3 rfl) ?_
        refine lv_iload_n hx hb dX1_measureAll_76 rfl (lv_at hl 2 rfl) ?_
        refine x_callVi (As := [.int x3, .int x2]) (rest := []) ⟨hx, hb, hml, hown, hts⟩ (kX6_placeOf l D cI cZ ad zA zD zR hD M x3 x2 _ h) (cwV 2 hts (gdV uS (inA_15 _ (List.mem_of_getElem? (i := 17) rfl)) vX6_placeOf) rfl rfl rfl (by decide +kernel) ⟨Nat.le_of_ble_eq_true rfl, Nat.le_of_ble_eq_true rfl⟩) (va_recv hK hP (ci := 6) (q0 := 1) rfl (xW_1 cI cZ ad M)) hP hK hZ hN hS hl.1 rfl rfl (Nat.le_of_ble_eq_true rfl) dX1_measureAll_77 (fun r77 M77 H locs h hP hS => ?_)
        refine lv_istore (lv' := [(4, .int r77), (0, .ref (ad 18)), (1, .ref (ad 1)), (2, .int x2), (3, .int x3)]) hx hb dX1_measureAll_80 hl (by decide) rfl (fun ls hl => ?_)
        refine lv_iconst (v := 0) hx hb dX1_measureAll_82 (by decide) ?_
        refine lv_istore (lv' := [(5, .int 0), (4, .int r77), (0, .ref (ad 18)), (1, .ref (ad 1)), (2, .int x2), (3, .int x3)]) hx hb dX1_measureAll_83 hl (by decide) rfl (fun ls hl => ?_)
        obtain ⟨n, h⟩ := h
        refine L85 _ (fun x2 x3 M H locs ls hl hP hS h => ?_) n x2 x3 r77 0 M77 _ _ _ (lv_sub hl [2, 3, 4, 5, 1, 0] rfl) hP hS h
        obtain ⟨x3_133, ex3_133⟩ : ∃ y : Int32, y = x3 + 1 := ⟨_, rfl⟩
        have h := h x3_133 ex3_133
        refine lv_iinc (v := x3_133) (lv' := [(3, .int x3_133), (0, .ref (ad 18)), (1, .ref (ad 1)), (2, .int x2)]) hx hb dX1_measureAll_133 hl (k := 3) rfl (by rw [ex3_133]; rfl) (by decide) rfl (fun ls hl => ?_)
        refine lv_goto (tgt := 66) hx hb dX1_measureAll_136 (by decide) ?_
        exact hB x2 x3_133 M _ _ _ (lv_sub hl [1, 2, 3, 0] rfl) hP hS h
  have L56 : ∀ (K145 : Mem → Prop), (∀ (M : Mem) (H : Heap) (locs : List Loc) (ls : Array Slot), lv_has ls 6 [(0, .ref (ad 18))] → va_P D vwCl (xW cI cZ ad M) H → va_S (xA ad) s.heap H locs → K145 M → GX1_measureAll p l e s m below meth c D cI cZ ad Q H locs (F0 m 145 ls [])) → ∀ n : Nat, ∀ (x2 : Int32) (M : Mem) (H : Heap) (locs : List Loc) (ls : Array Slot), lv_has ls 6 [(0, .ref (ad 18)), (1, .ref (ad 1)), (2, .int x2)] → va_P D vwCl (xW cI cZ ad M) H → va_S (xA ad) s.heap H locs → wX1_measureAll_L56 K145 Q n x2 M → GX1_measureAll p l e s m below meth c D cI cZ ad Q H locs (F0 m 56 ls []) := by
    intro K145 hK145 n
    induction n with
    | zero => intro x2 M H locs ls hl hP hS h; exact (show False from h).elim
    | succ n hB =>
      intro x2 M H locs ls hl hP hS h
      rw [wX1_measureAll_L56_s] at h
      refine lv_iload_n hx hb dX1_measureAll_56 rfl (lv_at hl 2 rfl) ?_
      refine lv_aload_n hx hb dX1_measureAll_57 rfl (lv_at hl 1 rfl) ?_
      refine va_get (D := D) (ci := 6) (v := .int (M 1 1)) (C := RX6) (T := TX6) (N := 5) hx hb hts inX6 hown hK hP 1 (xW_1 cI cZ ad M) rfl 1 (by decide) k6 (fun _ h9 => h9) rfl dX1_measureAll_58 ?_
      refine lv_icmp_ge (tgt := 145) hx hb dX1_measureAll_61 (by decide) (fun q61 => ?_) (fun q61 => ?_)
      · have h := h.1 q61
        exact hK145 M _ _ _ (lv_sub hl [0] rfl) hP hS h
      · have h := h.2 q61
        refine lv_iconst (v := 0) hx hb dX1_measureAll_64 (by decide) ?_
        refine lv_istore_n (lv' := [(3, .int 0), (0, .ref (ad 18)), (1, .ref (ad 1)), (2, .int x2)]) hx hb dX1_measureAll_65 rfl hl (by decide) rfl (fun ls hl => ?_)
        obtain ⟨n, h⟩ := h
        refine L66 _ (fun x2 M H locs ls hl hP hS h => ?_) n x2 0 M _ _ _ (lv_sub hl [1, 2, 3, 0] rfl) hP hS h
        obtain ⟨x2_139, ex2_139⟩ : ∃ y : Int32, y = x2 + 1 := ⟨_, rfl⟩
        have h := h x2_139 ex2_139
        refine lv_iinc (v := x2_139) (lv' := [(2, .int x2_139), (0, .ref (ad 18)), (1, .ref (ad 1))]) hx hb dX1_measureAll_139 hl (k := 2) rfl (by rw [ex2_139]; rfl) (by decide) rfl (fun ls hl => ?_)
        refine lv_goto (tgt := 56) hx hb dX1_measureAll_142 (by decide) ?_
        exact hB x2_139 M _ _ _ (lv_sub hl [1, 2, 0] rfl) hP hS h
  have hl := lv_entry ([.ref (ad 18), .ref (ad 1)]) (n := 6) (Nat.le_of_ble_eq_true rfl)
  rw [lg_entry_eq]
  generalize (lg_sl ([.ref (ad 18), .ref (ad 1)]) ++ List.replicate (6 - (lg_sl ([.ref (ad 18), .ref (ad 1)])).length) Slot.unset).toArray = ls at hl ⊢
  have hl : lv_has ls 6 [(0, .ref (ad 18)), (1, .ref (ad 1))] := hl
  refine lv_iconst (v := 0) hx hb dX1_measureAll_0 (by decide) ?_
  refine lv_istore_n (lv' := [(2, .int 0), (0, .ref (ad 18)), (1, .ref (ad 1))]) hx hb dX1_measureAll_1 rfl hl (by decide) rfl (fun ls hl => ?_)
  obtain ⟨n, h⟩ := h
  refine L2 _ (fun  M H locs ls hl hP hS h => ?_) n 0 M _ _ _ (lv_sub hl [1, 2, 0] rfl) hP hS h
  refine lv_iconst (v := 0) hx hb dX1_measureAll_54 (by decide) ?_
  refine lv_istore_n (lv' := [(2, .int 0), (0, .ref (ad 18)), (1, .ref (ad 1))]) hx hb dX1_measureAll_55 rfl hl (by decide) rfl (fun ls hl => ?_)
  obtain ⟨n, h⟩ := h
  refine L56 _ (fun  M H locs ls hl hP hS h => ?_) n 0 M _ _ _ (lv_sub hl [1, 2, 0] rfl) hP hS h
  refine lv_aload_n hx hb dX1_measureAll_145 rfl (lv_at hl 0 rfl) ?_
  refine lv_iconst (v := 1) hx hb dX1_measureAll_146 (by decide) ?_
  refine va_put (D := D) (ci := 1) (v := .int 1) (ty := .boolean) (C := RX1) (T := TX1) (N := 4) hx hb hts inX1 tyX1 tyX1_ok nmX1 hown hK hP (hD M) hS 18 (xW_18 cI cZ ad M) rfl 3 (by decide) k7 (fun _ h9 => h9) rfl (by decide +kernel) rfl rfl (Nat.le_of_ble_eq_true rfl) dX1_measureAll_147 (fun H locs hP _ hS => ?_)
  refine xP_18_3 hP (fun M147 eM147 hP => ?_)
  have h := h M147 eM147
  exact W.vret hx hb hr (fun t ht hW => ⟨⟨M147, rfl, h, xAt_of ht hP⟩, hS.F ht⟩) hS.2.2 dX1_measureAll_150
