abbrev GX3_leastRest (p : Program) (l : Launch) (e : Env) (s : State) (m : MethodId) (below : List Frame) (meth : Method) (c : Code) (D : va_G) (cI cZ : ClassId) (ad : Nat → Nat) (a1 a2 a3 a4 a5 : Int32) (Q : Int32 → Mem → Prop) (H : Heap) (locs : List Loc) (g : JFrame) : Prop := W p l e (headSpec uX3_leastRest { frames := 1, cells := 0, slots := 0, locals := 13 }).room s m ([.ref (ad 28), .int a1, .int a2, .int a3, .int a4, .int a5] : List Value).toArray below meth c H locs 0 0 (MQ below (va_Qi Q (xAt D cI cZ ad) (xA ad)) ([.ref (ad 28), .int a1, .int a2, .int a3, .int a4, .int a5] : List Value).toArray s 0 0 (xA ad)) g
set_option maxHeartbeats 4000000 in
set_option maxRecDepth 100000 in
theorem kX3_leastRest (l : Launch) (D : va_G) (cI cZ : ClassId) (ad : Nat → Nat) (zA zD zR : Nat) (hD : ∀ M : Mem, va_D (xA ad) (xW cI cZ ad M)) (M : Mem) (a1 a2 a3 a4 a5 : Int32) (Q : Int32 → Mem → Prop) (h : wX3_leastRest M a1 a2 a3 a4 a5 Q) : Met l yX3_leastRest uX3_leastRest ({ frames := 1, cells := 0, slots := 0, locals := 13 }) (va_Pc [.ref (ad 28), .int a1, .int a2, .int a3, .int a4, .int a5] (xPre D cI cZ ad zA zD zR M)) (va_Qi Q (xAt D cI cZ ad) (xA ad)) 0 0 (xA ad) := by
  refine Met.ofW (cc := cX3_leastRest) (maxL := 7) (ret := (some .int)) (by decide) rfl ?_
  intro p e s m args below meth c s₁ B hml hv
  obtain ⟨rfl, hP, hK, hZ, hN⟩ := hv
  have hx := B.exec
  have hb := B.bytes
  have hr := B.returns
  have hts := atoms_spec (ws := uX3_leastRest) B.pre
  have hown : s.vm.findClass RX3 = some m.cls := findClass_of_methodNamed B.named
  have hlocks := B.notSynchronized
  have hS : va_S (xA ad) s.heap s.heap [] := va_S.rf
  have k0 := hts (.fieldLink RX3 11 "TwoEyes$Paths" "rest" "[I") (List.mem_cons_of_mem _ (inA_4 _ (List.mem_of_getElem? (i := 18) rfl)))
  have inX3 : ∀ w ∈ wsX30, w ∈ uX3_leastRest := fun w h => List.mem_cons_of_mem _ (inCX3 w h)
  have k2 := hts (.methodLink RX3 57 Lib.Math.min.name) (List.mem_cons_of_mem _ (inA_26 _ (List.mem_of_getElem? (i := 2) rfl)))
  have k3 := hts (.static Lib.Math.min.name) (List.mem_cons_of_mem _ (inA_17 _ (List.mem_of_getElem? (i := 18) rfl)))
  have k4 := hts (.initialized "java/lang/Math") (List.mem_cons_of_mem _ (inA_17 _ (List.mem_of_getElem? (i := 19) rfl)))
  have k5 := hts (.code Lib.Math.min.name Lib.Math.min.code 2 (some .int)) (List.mem_cons_of_mem _ (inA_17 _ (List.mem_of_getElem? (i := 20) rfl)))
  have k6 := hts (.constant RX3 56 (2147483647)) (List.mem_cons_of_mem _ (inA_26 _ (List.mem_of_getElem? (i := 1) rfl)))
  have J71 : ∀ (x1 x2 x3 x5 x6 : Int32) (M : Mem) (H : Heap) (locs : List Loc) (ls : Array Slot), lv_has ls 7 [(0, .ref (ad 28)), (1, .int x1), (2, .int x2), (3, .int x3), (5, .int x5), (6, .int x6)] → va_P D vwCl (xW cI cZ ad M) H → va_S (xA ad) s.heap H locs → wX3_leastRest_J71 Q x1 x2 x3 x5 x6 M → GX3_leastRest p l e s m below meth c D cI cZ ad a1 a2 a3 a4 a5 Q H locs (F0 m 71 ls []) := by
    intro x1 x2 x3 x5 x6 M H locs ls hl hP hS h
    refine lv_iload_n hx hb dX3_leastRest_71 rfl (lv_at hl 2 rfl) ?_
    refine lv_iload_n hx hb dX3_leastRest_72 rfl (lv_at hl 3 rfl) ?_
    refine lv_icmp_ge (tgt := 99) hx hb dX3_leastRest_73 (by decide) (fun q73 => ?_) (fun q73 => ?_)
    · have h := h.1 q73
      refine lv_iload hx hb dX3_leastRest_99 (lv_at hl 5 rfl) ?_
      exact W.iret (v := x6) hx hb hr (fun t ht hW => ⟨⟨x6, M, rfl, h, xAt_of ht hP⟩, hS.F ht⟩) hS.2.2 dX3_leastRest_101
    · have h := h.2 q73
      refine lv_iload hx hb dX3_leastRest_76 (lv_at hl 5 rfl) ?_
      refine lv_iload hx hb dX3_leastRest_78 (lv_at hl 4 rfl) ?_
      refine lv_aload_n hx hb dX3_leastRest_80 rfl (lv_at hl 0 rfl) ?_
      refine va_get (D := D) (ci := 3) (v := .ref (ad 29)) (C := RX3) (T := TX3) (N := 3) hx hb hts inX3 hown hK hP 28 (xW_28 cI cZ ad M) rfl 0 (by decide) k0 (fun _ h9 => h9) rfl dX3_leastRest_81 ?_
      refine lv_iload_n hx hb dX3_leastRest_84 rfl (lv_at hl 1 rfl) ?_
      refine lv_bipush (v := 21) hx hb dX3_leastRest_85 (by decide) ?_
      refine lv_imul hx hb dX3_leastRest_87 ?_
      refine lv_iload_n hx hb dX3_leastRest_88 rfl (lv_at hl 2 rfl) ?_
      refine lv_iadd hx hb dX3_leastRest_89 ?_
      refine lv_iconst (v := 1) hx hb dX3_leastRest_90 (by decide) ?_
      refine lv_iadd hx hb dX3_leastRest_91 ?_
      obtain ⟨hi92, h⟩ := h
      refine va_iald hx hb hK hP 29 0 (xW_29 cI cZ ad M) rfl hi92 dX3_leastRest_92 ?_
      refine lv_iadd hx hb dX3_leastRest_93 ?_
      refine va_mmin hx hb (hml.trans hl.1.symm) hown k2 k3 k4 k5 (Nat.le_of_ble_eq_true rfl) (Nat.le_of_ble_eq_true rfl) (Nat.zero_le _) (Nat.zero_le _) dX3_leastRest_94 ?_
      refine lv_topi (fun v94 ev94 => ?_)
      have h := h v94 ev94
      refine lv_istore (lv' := [(6, .int v94), (0, .ref (ad 28)), (1, .int x1), (2, .int x2), (3, .int x3), (5, .int x5)]) hx hb dX3_leastRest_97 hl (by decide) rfl (fun ls hl => ?_)
      refine lv_iload hx hb dX3_leastRest_99 (lv_at hl 0 rfl) ?_
      exact W.iret (v := v94) hx hb hr (fun t ht hW => ⟨⟨v94, M, rfl, h, xAt_of ht hP⟩, hS.F ht⟩) hS.2.2 dX3_leastRest_101
  have J43 : ∀ (x1 x2 x3 x5 x6 : Int32) (M : Mem) (H : Heap) (locs : List Loc) (ls : Array Slot), lv_has ls 7 [(0, .ref (ad 28)), (1, .int x1), (2, .int x2), (3, .int x3), (5, .int x5), (6, .int x6)] → va_P D vwCl (xW cI cZ ad M) H → va_S (xA ad) s.heap H locs → wX3_leastRest_J43 Q x1 x2 x3 x5 x6 M → GX3_leastRest p l e s m below meth c D cI cZ ad a1 a2 a3 a4 a5 Q H locs (F0 m 43 ls []) := by
    intro x1 x2 x3 x5 x6 M H locs ls hl hP hS h
    refine lv_iload_n hx hb dX3_leastRest_43 rfl (lv_at hl 1 rfl) ?_
    refine lv_iload_n hx hb dX3_leastRest_44 rfl (lv_at hl 3 rfl) ?_
    refine lv_icmp_ge (tgt := 71) hx hb dX3_leastRest_45 (by decide) (fun q45 => ?_) (fun q45 => ?_)
    · have h := h.1 q45
      exact J71 x1 x2 x3 x5 x6 M _ _ _ (lv_sub hl [0, 1, 2, 3, 4, 5] rfl) hP hS h
    · have h := h.2 q45
      refine lv_iload hx hb dX3_leastRest_48 (lv_at hl 5 rfl) ?_
      refine lv_iload hx hb dX3_leastRest_50 (lv_at hl 4 rfl) ?_
      refine lv_aload_n hx hb dX3_leastRest_52 rfl (lv_at hl 0 rfl) ?_
      refine va_get (D := D) (ci := 3) (v := .ref (ad 29)) (C := RX3) (T := TX3) (N := 3) hx hb hts inX3 hown hK hP 28 (xW_28 cI cZ ad M) rfl 0 (by decide) k0 (fun _ h9 => h9) rfl dX3_leastRest_53 ?_
      refine lv_iload_n hx hb dX3_leastRest_56 rfl (lv_at hl 1 rfl) ?_
      refine lv_iconst (v := 1) hx hb dX3_leastRest_57 (by decide) ?_
      refine lv_iadd hx hb dX3_leastRest_58 ?_
      refine lv_bipush (v := 21) hx hb dX3_leastRest_59 (by decide) ?_
      refine lv_imul hx hb dX3_leastRest_61 ?_
      refine lv_iload_n hx hb dX3_leastRest_62 rfl (lv_at hl 2 rfl) ?_
      refine lv_iadd hx hb dX3_leastRest_63 ?_
      obtain ⟨hi64, h⟩ := h
      refine va_iald hx hb hK hP 29 0 (xW_29 cI cZ ad M) rfl hi64 dX3_leastRest_64 ?_
      refine lv_iadd hx hb dX3_leastRest_65 ?_
      refine va_mmin hx hb (hml.trans hl.1.symm) hown k2 k3 k4 k5 (Nat.le_of_ble_eq_true rfl) (Nat.le_of_ble_eq_true rfl) (Nat.zero_le _) (Nat.zero_le _) dX3_leastRest_66 ?_
      refine lv_topi (fun v66 ev66 => ?_)
      have h := h v66 ev66
      refine lv_istore (lv' := [(6, .int v66), (0, .ref (ad 28)), (1, .int x1), (2, .int x2), (3, .int x3), (5, .int x5)]) hx hb dX3_leastRest_69 hl (by decide) rfl (fun ls hl => ?_)
      exact J71 x1 x2 x3 x5 v66 M _ _ _ (lv_sub hl [1, 2, 3, 4, 5, 0] rfl) hP hS h
  have J12 : ∀ (x1 x2 x3 x4 x5 : Int32) (M : Mem) (H : Heap) (locs : List Loc) (ls : Array Slot), lv_has ls 7 [(0, .ref (ad 28)), (1, .int x1), (2, .int x2), (3, .int x3), (4, .int x4), (5, .int x5)] → va_P D vwCl (xW cI cZ ad M) H → va_S (xA ad) s.heap H locs → wX3_leastRest_J12 Q x1 x2 x3 x4 x5 M → GX3_leastRest p l e s m below meth c D cI cZ ad a1 a2 a3 a4 a5 Q H locs (F0 m 12 ls []) := by
    intro x1 x2 x3 x4 x5 M H locs ls hl hP hS h
    refine lv_ldc hx hb hown k6 dX3_leastRest_12 ?_
    refine lv_istore (lv' := [(6, .int 2147483647), (0, .ref (ad 28)), (1, .int x1), (2, .int x2), (3, .int x3), (4, .int x4), (5, .int x5)]) hx hb dX3_leastRest_14 hl (by decide) rfl (fun ls hl => ?_)
    refine lv_iload hx hb dX3_leastRest_16 (lv_at hl 5 rfl) ?_
    refine lv_bipush (v := (-4)) hx hb dX3_leastRest_18 (by decide) ?_
    refine lv_icmp_eq (tgt := 43) hx hb dX3_leastRest_20 (by decide) (fun q20 => ?_) (fun q20 => ?_)
    · have h := h.1 q20
      exact J43 x1 x2 x3 x5 2147483647 M _ _ _ (lv_sub hl [1, 2, 3, 4, 6, 0] rfl) hP hS h
    · have h := h.2 q20
      refine lv_iload hx hb dX3_leastRest_23 (lv_at hl 5 rfl) ?_
      refine lv_aload_n hx hb dX3_leastRest_25 rfl (lv_at hl 1 rfl) ?_
      refine va_get (D := D) (ci := 3) (v := .ref (ad 29)) (C := RX3) (T := TX3) (N := 3) hx hb hts inX3 hown hK hP 28 (xW_28 cI cZ ad M) rfl 0 (by decide) k0 (fun _ h9 => h9) rfl dX3_leastRest_26 ?_
      refine lv_iload_n hx hb dX3_leastRest_29 rfl (lv_at hl 2 rfl) ?_
      refine lv_iconst (v := 1) hx hb dX3_leastRest_30 (by decide) ?_
      refine lv_iadd hx hb dX3_leastRest_31 ?_
      refine lv_bipush (v := 21) hx hb dX3_leastRest_32 (by decide) ?_
      refine lv_imul hx hb dX3_leastRest_34 ?_
      refine lv_iload_n hx hb dX3_leastRest_35 rfl (lv_at hl 3 rfl) ?_
      refine lv_iadd hx hb dX3_leastRest_36 ?_
      refine lv_iconst (v := 1) hx hb dX3_leastRest_37 (by decide) ?_
      refine lv_iadd hx hb dX3_leastRest_38 ?_
      obtain ⟨hi39, h⟩ := h
      refine va_iald hx hb hK hP 29 0 (xW_29 cI cZ ad M) rfl hi39 dX3_leastRest_39 ?_
      refine lv_iadd hx hb dX3_leastRest_40 ?_
      refine lv_topi (fun x6_41 ex6_41 => ?_)
      have h := h x6_41 ex6_41
      refine lv_istore (lv' := [(6, .int x6_41), (0, .ref (ad 28)), (1, .int x1), (2, .int x2), (3, .int x3), (4, .int x4), (5, .int x5)]) hx hb dX3_leastRest_41 hl (by decide) rfl (fun ls hl => ?_)
      exact J43 x1 x2 x3 x5 x6_41 M _ _ _ (lv_sub hl [1, 2, 3, 4, 6, 0] rfl) hP hS h
  have hl := lv_entry ([.ref (ad 28), .int a1, .int a2, .int a3, .int a4, .int a5]) (n := 7) (Nat.le_of_ble_eq_true rfl)
  rw [lg_entry_eq]
  generalize (lg_sl ([.ref (ad 28), .int a1, .int a2, .int a3, .int a4, .int a5]) ++ List.replicate (7 - (lg_sl ([.ref (ad 28), .int a1, .int a2, .int a3, .int a4, .int a5])).length) Slot.unset).toArray = ls at hl ⊢
  have hl : lv_has ls 7 [(0, .ref (ad 28)), (1, .int a1), (2, .int a2), (3, .int a3), (4, .int a4), (5, .int a5)] := hl
  refine lv_iload_n hx hb dX3_leastRest_0 rfl (lv_at hl 1 rfl) ?_
  refine lv_iload_n hx hb dX3_leastRest_1 rfl (lv_at hl 3 rfl) ?_
  refine lv_icmp_ne (tgt := 12) hx hb dX3_leastRest_2 (by decide) (fun q2 => ?_) (fun q2 => ?_)
  · have h := h.1 q2
    exact J12 a1 a2 a3 a4 a5 M _ _ _ (lv_sub hl [0, 1, 2, 3, 4, 5] rfl) hP hS h
  · have h := h.2 q2
    refine lv_iload_n hx hb dX3_leastRest_5 rfl (lv_at hl 2 rfl) ?_
    refine lv_iload_n hx hb dX3_leastRest_6 rfl (lv_at hl 3 rfl) ?_
    refine lv_icmp_ne (tgt := 12) hx hb dX3_leastRest_7 (by decide) (fun q7 => ?_) (fun q7 => ?_)
    · have h := h.1 q7
      exact J12 a1 a2 a3 a4 a5 M _ _ _ (lv_sub hl [0, 1, 2, 3, 4, 5] rfl) hP hS h
    · have h := h.2 q7
      refine lv_iconst (v := 0) hx hb dX3_leastRest_10 (by decide) ?_
      exact W.iret (v := 0) hx hb hr (fun t ht hW => ⟨⟨0, M, rfl, h, xAt_of ht hP⟩, hS.F ht⟩) hS.2.2 dX3_leastRest_11
abbrev GX3_follow (p : Program) (l : Launch) (e : Env) (s : State) (m : MethodId) (below : List Frame) (meth : Method) (c : Code) (D : va_G) (cI cZ : ClassId) (ad : Nat → Nat) (a1 a2 : Int32) (Q : Mem → Prop) (H : Heap) (locs : List Loc) (g : JFrame) : Prop := W p l e (headSpec uX3_follow { frames := 1, cells := 0, slots := 0, locals := 27 }).room s m ([.ref (ad 28), .int a1, .int a2, .ref (ad 18), .ref (ad 17)] : List Value).toArray below meth c H locs 0 0 (MQ below (va_Qv Q (xAt D cI cZ ad) (xA ad)) ([.ref (ad 28), .int a1, .int a2, .ref (ad 18), .ref (ad 17)] : List Value).toArray s 0 0 (xA ad)) g
set_option maxHeartbeats 4000000 in
set_option maxRecDepth 100000 in
theorem kX3_follow (l : Launch) (D : va_G) (cI cZ : ClassId) (ad : Nat → Nat) (zA zD zR : Nat) (hD : ∀ M : Mem, va_D (xA ad) (xW cI cZ ad M)) (M : Mem) (a1 a2 : Int32) (Q : Mem → Prop) (h : wX3_follow M a1 a2 Q) : Met l yX3_follow uX3_follow ({ frames := 1, cells := 0, slots := 0, locals := 27 }) (va_Pc [.ref (ad 28), .int a1, .int a2, .ref (ad 18), .ref (ad 17)] (xPre D cI cZ ad zA zD zR M)) (va_Qv Q (xAt D cI cZ ad) (xA ad)) 0 0 (xA ad) := by
  refine Met.ofW (cc := cX3_follow) (maxL := 10) (ret := none) (by decide) rfl ?_
  intro p e s m args below meth c s₁ B hml hv
  obtain ⟨rfl, hP, hK, hZ, hN⟩ := hv
  have hx := B.exec
  have hb := B.bytes
  have hr := B.returns
  have hts := atoms_spec (ws := uX3_follow) B.pre
  have hown : s.vm.findClass RX3 = some m.cls := findClass_of_methodNamed B.named
  have hlocks := B.notSynchronized
  have hS : va_S (xA ad) s.heap s.heap [] := va_S.rf
  have k0 := hts (.fieldLink RX3 11 "TwoEyes$Paths" "rest" "[I") (List.mem_cons_of_mem _ (inA_4 _ (List.mem_of_getElem? (i := 18) rfl)))
  have inX3 : ∀ w ∈ wsX30, w ∈ uX3_follow := fun w h => List.mem_cons_of_mem _ (inCX3 w h)
  have k2 := hts (.fieldLink RX3 15 "TwoEyes$Paths" "match" "[I") (List.mem_cons_of_mem _ (inA_4 _ (List.mem_of_getElem? (i := 19) rfl)))
  have J152 : ∀ (B : Int32 → Int32 → Int32 → Int32 → Int32 → Mem → Prop) (K167 : Mem → Prop), (∀ (x1 x2 x5 x6 x7 : Int32) (M : Mem) (H : Heap) (locs : List Loc) (ls : Array Slot), lv_has ls 10 [(0, .ref (ad 28)), (1, .int x1), (2, .int x2), (3, .ref (ad 18)), (4, .ref (ad 17)), (5, .int x5), (6, .int x6), (7, .int x7)] → va_P D vwCl (xW cI cZ ad M) H → va_S (xA ad) s.heap H locs → B x1 x2 x5 x6 x7 M → GX3_follow p l e s m below meth c D cI cZ ad a1 a2 Q H locs (F0 m 9 ls [])) → (∀ (M : Mem) (H : Heap) (locs : List Loc) (ls : Array Slot), lv_has ls 10 [] → va_P D vwCl (xW cI cZ ad M) H → va_S (xA ad) s.heap H locs → K167 M → GX3_follow p l e s m below meth c D cI cZ ad a1 a2 Q H locs (F0 m 167 ls [])) → ∀ (x1 x2 x5 x6 x7 : Int32) (M : Mem) (H : Heap) (locs : List Loc) (ls : Array Slot), lv_has ls 10 [(0, .ref (ad 28)), (1, .int x1), (2, .int x2), (3, .ref (ad 18)), (4, .ref (ad 17)), (5, .int x5), (6, .int x6), (7, .int x7)] → va_P D vwCl (xW cI cZ ad M) H → va_S (xA ad) s.heap H locs → wX3_follow_J152 B K167 Q x1 x2 x5 x6 x7 M → GX3_follow p l e s m below meth c D cI cZ ad a1 a2 Q H locs (F0 m 152 ls []) := by
    intro B K167 hB hK167 x1 x2 x5 x6 x7 M H locs ls hl hP hS h
    refine lv_iload hx hb dX3_follow_152 (lv_at hl 6 rfl) ?_
    refine lv_iload_n hx hb dX3_follow_154 rfl (lv_at hl 2 rfl) ?_
    refine lv_icmp_ge (tgt := 161) hx hb dX3_follow_155 (by decide) (fun q155 => ?_) (fun q155 => ?_)
    · have h := h.1 q155
      obtain ⟨x7_161, ex7_161⟩ : ∃ y : Int32, y = x7 + 1 := ⟨_, rfl⟩
      have h := h x7_161 ex7_161
      refine lv_iinc (v := x7_161) (lv' := [(7, .int x7_161), (0, .ref (ad 28)), (1, .int x1), (2, .int x2), (3, .ref (ad 18)), (4, .ref (ad 17)), (5, .int x5), (6, .int x6)]) hx hb dX3_follow_161 hl (k := 7) rfl (by rw [ex7_161]; rfl) (by decide) rfl (fun ls hl => ?_)
      refine lv_goto (tgt := 9) hx hb dX3_follow_164 (by decide) ?_
      exact hB x1 x2 x5 x6 x7_161 M _ _ _ (lv_sub hl [1, 2, 3, 4, 5, 6, 7, 0] rfl) hP hS h
    · have h := h.2 q155
      obtain ⟨x6_158, ex6_158⟩ : ∃ y : Int32, y = x6 + 1 := ⟨_, rfl⟩
      have h := h x6_158 ex6_158
      refine lv_iinc (v := x6_158) (lv' := [(6, .int x6_158), (0, .ref (ad 28)), (1, .int x1), (2, .int x2), (3, .ref (ad 18)), (4, .ref (ad 17)), (5, .int x5), (7, .int x7)]) hx hb dX3_follow_158 hl (k := 6) rfl (by rw [ex6_158]; rfl) (by decide) rfl (fun ls hl => ?_)
      obtain ⟨x7_161, ex7_161⟩ : ∃ y : Int32, y = x7 + 1 := ⟨_, rfl⟩
      have h := h x7_161 ex7_161
      refine lv_iinc (v := x7_161) (lv' := [(7, .int x7_161), (6, .int x6_158), (0, .ref (ad 28)), (1, .int x1), (2, .int x2), (3, .ref (ad 18)), (4, .ref (ad 17)), (5, .int x5)]) hx hb dX3_follow_161 hl (k := 7) rfl (by rw [ex7_161]; rfl) (by decide) rfl (fun ls hl => ?_)
      refine lv_goto (tgt := 9) hx hb dX3_follow_164 (by decide) ?_
      exact hB x1 x2 x5 x6_158 x7_161 M _ _ _ (lv_sub hl [2, 3, 4, 5, 6, 7, 1, 0] rfl) hP hS h
  have J104 : ∀ (B : Int32 → Int32 → Int32 → Int32 → Int32 → Mem → Prop) (K167 : Mem → Prop), (∀ (x1 x2 x5 x6 x7 : Int32) (M : Mem) (H : Heap) (locs : List Loc) (ls : Array Slot), lv_has ls 10 [(0, .ref (ad 28)), (1, .int x1), (2, .int x2), (3, .ref (ad 18)), (4, .ref (ad 17)), (5, .int x5), (6, .int x6), (7, .int x7)] → va_P D vwCl (xW cI cZ ad M) H → va_S (xA ad) s.heap H locs → B x1 x2 x5 x6 x7 M → GX3_follow p l e s m below meth c D cI cZ ad a1 a2 Q H locs (F0 m 9 ls [])) → (∀ (M : Mem) (H : Heap) (locs : List Loc) (ls : Array Slot), lv_has ls 10 [] → va_P D vwCl (xW cI cZ ad M) H → va_S (xA ad) s.heap H locs → K167 M → GX3_follow p l e s m below meth c D cI cZ ad a1 a2 Q H locs (F0 m 167 ls [])) → ∀ (x1 x2 x5 x6 x7 x9 : Int32) (M : Mem) (H : Heap) (locs : List Loc) (ls : Array Slot), lv_has ls 10 [(0, .ref (ad 28)), (1, .int x1), (2, .int x2), (3, .ref (ad 18)), (4, .ref (ad 17)), (5, .int x5), (6, .int x6), (7, .int x7), (9, .int x9)] → va_P D vwCl (xW cI cZ ad M) H → va_S (xA ad) s.heap H locs → wX3_follow_J104 B K167 Q x1 x2 x5 x6 x7 x9 M → GX3_follow p l e s m below meth c D cI cZ ad a1 a2 Q H locs (F0 m 104 ls []) := by
    intro B K167 hB hK167 x1 x2 x5 x6 x7 x9 M H locs ls hl hP hS h
    refine lv_iload hx hb dX3_follow_104 (lv_at hl 5 rfl) ?_
    refine lv_iload_n hx hb dX3_follow_106 rfl (lv_at hl 2 rfl) ?_
    refine lv_icmp_ge (tgt := 152) hx hb dX3_follow_107 (by decide) (fun q107 => ?_) (fun q107 => ?_)
    · have h := h.1 q107
      exact J152 _ K167 hB hK167 x1 x2 x5 x6 x7 M _ _ _ (lv_sub hl [0, 1, 2, 3, 4, 5, 6, 7] rfl) hP hS h
    · have h := h.2 q107
      refine lv_iload hx hb dX3_follow_110 (lv_at hl 8 rfl) ?_
      refine lv_aload hx hb dX3_follow_112 (lv_at hl 4 rfl) ?_
      refine lv_iconst (v := 1) hx hb dX3_follow_114 (by decide) ?_
      obtain ⟨hi115, h⟩ := h
      refine va_iald hx hb hK hP 17 0 (xW_17 cI cZ ad M) rfl hi115 dX3_follow_115 ?_
      refine lv_aload_n hx hb dX3_follow_116 rfl (lv_at hl 0 rfl) ?_
      refine va_get (D := D) (ci := 3) (v := .ref (ad 29)) (C := RX3) (T := TX3) (N := 3) hx hb hts inX3 hown hK hP 28 (xW_28 cI cZ ad M) rfl 0 (by decide) k0 (fun _ h9 => h9) rfl dX3_follow_117 ?_
      refine lv_iload hx hb dX3_follow_120 (lv_at hl 5 rfl) ?_
      refine lv_iconst (v := 1) hx hb dX3_follow_122 (by decide) ?_
      refine lv_iadd hx hb dX3_follow_123 ?_
      refine lv_bipush (v := 21) hx hb dX3_follow_124 (by decide) ?_
      refine lv_imul hx hb dX3_follow_126 ?_
      refine lv_iload hx hb dX3_follow_127 (lv_at hl 6 rfl) ?_
      refine lv_iadd hx hb dX3_follow_129 ?_
      obtain ⟨hi130, h⟩ := h
      refine va_iald hx hb hK hP 29 0 (xW_29 cI cZ ad M) rfl hi130 dX3_follow_130 ?_
      refine lv_iadd hx hb dX3_follow_131 ?_
      refine lv_icmp_ne (tgt := 152) hx hb dX3_follow_132 (by decide) (fun q132 => ?_) (fun q132 => ?_)
      · have h := h.1 q132
        exact J152 _ K167 hB hK167 x1 x2 x5 x6 x7 M _ _ _ (lv_sub hl [0, 1, 2, 3, 4, 5, 6, 7] rfl) hP hS h
      · have h := h.2 q132
        refine lv_aload_n hx hb dX3_follow_135 rfl (lv_at hl 0 rfl) ?_
        refine va_get (D := D) (ci := 3) (v := .ref (ad 30)) (C := RX3) (T := TX3) (N := 3) hx hb hts inX3 hown hK hP 28 (xW_28 cI cZ ad M) rfl 1 (by decide) k2 (fun _ h9 => h9) rfl dX3_follow_136 ?_
        refine lv_iload_n hx hb dX3_follow_139 rfl (lv_at hl 1 rfl) ?_
        refine lv_iload hx hb dX3_follow_140 (lv_at hl 5 rfl) ?_
        refine lv_iadd hx hb dX3_follow_142 ?_
        refine lv_bipush (v := (-4)) hx hb dX3_follow_143 (by decide) ?_
        obtain ⟨hi145, h⟩ := h
        refine va_iast hx hb hK hP (hD M) hS 30 0 (xW_30 cI cZ ad M) rfl hi145 dX3_follow_145 (fun H locs hP _ hS => ?_)
        refine xQ_30 hP (fun M145 eM145 hP => ?_)
        have h := h M145 eM145
        obtain ⟨x5_146, ex5_146⟩ : ∃ y : Int32, y = x5 + 1 := ⟨_, rfl⟩
        have h := h x5_146 ex5_146
        refine lv_iinc (v := x5_146) (lv' := [(5, .int x5_146), (0, .ref (ad 28)), (1, .int x1), (2, .int x2), (3, .ref (ad 18)), (4, .ref (ad 17)), (6, .int x6), (7, .int x7), (9, .int x9)]) hx hb dX3_follow_146 hl (k := 5) rfl (by rw [ex5_146]; rfl) (by decide) rfl (fun ls hl => ?_)
        refine lv_goto (tgt := 161) hx hb dX3_follow_149 (by decide) ?_
        obtain ⟨x7_161, ex7_161⟩ : ∃ y : Int32, y = x7 + 1 := ⟨_, rfl⟩
        have h := h x7_161 ex7_161
        refine lv_iinc (v := x7_161) (lv' := [(7, .int x7_161), (5, .int x5_146), (0, .ref (ad 28)), (1, .int x1), (2, .int x2), (3, .ref (ad 18)), (4, .ref (ad 17)), (6, .int x6), (9, .int x9)]) hx hb dX3_follow_161 hl (k := 7) rfl (by rw [ex7_161]; rfl) (by decide) rfl (fun ls hl => ?_)
        refine lv_goto (tgt := 9) hx hb dX3_follow_164 (by decide) ?_
        exact hB x1 x2 x5_146 x6 x7_161 M145 _ _ _ (lv_sub hl [2, 3, 4, 5, 6, 1, 7, 0] rfl) hP hS h
  have L9 : ∀ (K167 : Mem → Prop), (∀ (M : Mem) (H : Heap) (locs : List Loc) (ls : Array Slot), lv_has ls 10 [] → va_P D vwCl (xW cI cZ ad M) H → va_S (xA ad) s.heap H locs → K167 M → GX3_follow p l e s m below meth c D cI cZ ad a1 a2 Q H locs (F0 m 167 ls [])) → ∀ n : Nat, ∀ (x1 x2 x5 x6 x7 : Int32) (M : Mem) (H : Heap) (locs : List Loc) (ls : Array Slot), lv_has ls 10 [(0, .ref (ad 28)), (1, .int x1), (2, .int x2), (3, .ref (ad 18)), (4, .ref (ad 17)), (5, .int x5), (6, .int x6), (7, .int x7)] → va_P D vwCl (xW cI cZ ad M) H → va_S (xA ad) s.heap H locs → wX3_follow_L9 K167 Q n x1 x2 x5 x6 x7 M → GX3_follow p l e s m below meth c D cI cZ ad a1 a2 Q H locs (F0 m 9 ls []) := by
    intro K167 hK167 n
    induction n with
    | zero => intro x1 x2 x5 x6 x7 M H locs ls hl hP hS h; exact (show False from h).elim
    | succ n hB =>
      intro x1 x2 x5 x6 x7 M H locs ls hl hP hS h
      rw [wX3_follow_L9_s] at h
      refine lv_iload hx hb dX3_follow_9 (lv_at hl 7 rfl) ?_
      refine lv_iconst (v := 2) hx hb dX3_follow_11 (by decide) ?_
      refine lv_iload_n hx hb dX3_follow_12 rfl (lv_at hl 2 rfl) ?_
      refine lv_imul hx hb dX3_follow_13 ?_
      refine lv_icmp_ge (tgt := 167) hx hb dX3_follow_14 (by decide) (fun q14 => ?_) (fun q14 => ?_)
      · have h := h.1 q14
        exact hK167 M _ _ _ (lv_sub hl [] rfl) hP hS h
      · have h := h.2 q14
        refine lv_aload_n hx hb dX3_follow_17 rfl (lv_at hl 0 rfl) ?_
        refine lv_iload hx hb dX3_follow_18 (lv_at hl 5 rfl) ?_
        refine lv_iload hx hb dX3_follow_20 (lv_at hl 6 rfl) ?_
        refine lv_iload_n hx hb dX3_follow_22 rfl (lv_at hl 1 rfl) ?_
        refine lv_iload_n hx hb dX3_follow_23 rfl (lv_at hl 2 rfl) ?_
        refine lv_aload_n hx hb dX3_follow_24 rfl (lv_at hl 3 rfl) ?_
        refine lv_aload hx hb dX3_follow_25 (lv_at hl 4 rfl) ?_
        refine lv_iconst (v := 0) hx hb dX3_follow_27 (by decide) ?_
        obtain ⟨hi28, h⟩ := h
        refine va_iald hx hb hK hP 17 0 (xW_17 cI cZ ad M) rfl hi28 dX3_follow_28 ?_
        refine x_callVi (As := [.int x5, .int x6, .int x1, .int x2, .ref (ad 18), .int (M 17 (0 : Int32).toNatClampNeg)]) (rest := []) ⟨hx, hb, hml, hown, hts⟩ (kX3_matching l D cI cZ ad zA zD zR hD M x5 x6 x1 x2 (M 17 (0 : Int32).toNatClampNeg) _ h) (cwV 6 hts (gdV uS (inA_25 _ (List.mem_of_getElem? (i := 16) rfl)) vX3_matching) rfl rfl rfl (by decide +kernel) ⟨Nat.le_of_ble_eq_true rfl, Nat.le_of_ble_eq_true rfl⟩) (va_recv hK hP (ci := 3) (q0 := 28) rfl (xW_28 cI cZ ad M)) hP hK hZ hN hS hl.1 rfl rfl (Nat.le_of_ble_eq_true rfl) dX3_follow_29 (fun r29 M29 H locs h hP hS => ?_)
        refine lv_istore (lv' := [(8, .int r29), (0, .ref (ad 28)), (1, .int x1), (2, .int x2), (3, .ref (ad 18)), (4, .ref (ad 17)), (5, .int x5), (6, .int x6), (7, .int x7)]) hx hb dX3_follow_32 hl (by decide) rfl (fun ls hl => ?_)
        refine lv_aload_n hx hb dX3_follow_34 rfl (lv_at hl 1 rfl) ?_
        refine va_get (D := D) (ci := 3) (v := .ref (ad 29)) (C := RX3) (T := TX3) (N := 3) hx hb hts inX3 hown hK hP 28 (xW_28 cI cZ ad M29) rfl 0 (by decide) k0 (fun _ h9 => h9) rfl dX3_follow_35 ?_
        refine lv_iload hx hb dX3_follow_38 (lv_at hl 6 rfl) ?_
        refine lv_bipush (v := 21) hx hb dX3_follow_40 (by decide) ?_
        refine lv_imul hx hb dX3_follow_42 ?_
        refine lv_iload hx hb dX3_follow_43 (lv_at hl 7 rfl) ?_
        refine lv_iadd hx hb dX3_follow_45 ?_
        obtain ⟨hi46, h⟩ := h
        refine va_iald hx hb hK hP 29 0 (xW_29 cI cZ ad M29) rfl hi46 dX3_follow_46 ?_
        refine lv_topi (fun x9_47 ex9_47 => ?_)
        have h := h x9_47 ex9_47
        refine lv_istore (lv' := [(9, .int x9_47), (8, .int r29), (0, .ref (ad 28)), (1, .int x1), (2, .int x2), (3, .ref (ad 18)), (4, .ref (ad 17)), (5, .int x5), (6, .int x6), (7, .int x7)]) hx hb dX3_follow_47 hl (by decide) rfl (fun ls hl => ?_)
        refine lv_iload hx hb dX3_follow_49 (lv_at hl 1 rfl) ?_
        refine lv_bipush (v := (-4)) hx hb dX3_follow_51 (by decide) ?_
        refine lv_icmp_eq (tgt := 104) hx hb dX3_follow_53 (by decide) (fun q53 => ?_) (fun q53 => ?_)
        · have h := h.1 q53
          exact J104 _ K167 hB hK167 x1 x2 x5 x6 x7 x9_47 M29 _ _ _ (lv_sub hl [2, 3, 4, 5, 6, 7, 8, 9, 0] rfl) hP hS h
        · have h := h.2 q53
          refine lv_iload hx hb dX3_follow_56 (lv_at hl 0 rfl) ?_
          refine lv_iload hx hb dX3_follow_58 (lv_at hl 1 rfl) ?_
          refine lv_aload_n hx hb dX3_follow_60 rfl (lv_at hl 2 rfl) ?_
          refine va_get (D := D) (ci := 3) (v := .ref (ad 29)) (C := RX3) (T := TX3) (N := 3) hx hb hts inX3 hown hK hP 28 (xW_28 cI cZ ad M29) rfl 0 (by decide) k0 (fun _ h9 => h9) rfl dX3_follow_61 ?_
          refine lv_iload hx hb dX3_follow_64 (lv_at hl 7 rfl) ?_
          refine lv_iconst (v := 1) hx hb dX3_follow_66 (by decide) ?_
          refine lv_iadd hx hb dX3_follow_67 ?_
          refine lv_bipush (v := 21) hx hb dX3_follow_68 (by decide) ?_
          refine lv_imul hx hb dX3_follow_70 ?_
          refine lv_iload hx hb dX3_follow_71 (lv_at hl 8 rfl) ?_
          refine lv_iadd hx hb dX3_follow_73 ?_
          refine lv_iconst (v := 1) hx hb dX3_follow_74 (by decide) ?_
          refine lv_iadd hx hb dX3_follow_75 ?_
          obtain ⟨hi76, h⟩ := h
          refine va_iald hx hb hK hP 29 0 (xW_29 cI cZ ad M29) rfl hi76 dX3_follow_76 ?_
          refine lv_iadd hx hb dX3_follow_77 ?_
          refine lv_icmp_ne (tgt := 104) hx hb dX3_follow_78 (by decide) (fun q78 => ?_) (fun q78 => ?_)
          · have h := h.1 q78
            exact J104 _ K167 hB hK167 x1 x2 x5 x6 x7 x9_47 M29 _ _ _ (lv_sub hl [2, 3, 4, 5, 6, 7, 8, 9, 0] rfl) hP hS h
          · have h := h.2 q78
            refine lv_aload_n hx hb dX3_follow_81 rfl (lv_at hl 2 rfl) ?_
            refine va_get (D := D) (ci := 3) (v := .ref (ad 30)) (C := RX3) (T := TX3) (N := 3) hx hb hts inX3 hown hK hP 28 (xW_28 cI cZ ad M29) rfl 1 (by decide) k2 (fun _ h9 => h9) rfl dX3_follow_82 ?_
            refine lv_iload_n hx hb dX3_follow_85 rfl (lv_at hl 3 rfl) ?_
            refine lv_iload hx hb dX3_follow_86 (lv_at hl 7 rfl) ?_
            refine lv_iadd hx hb dX3_follow_88 ?_
            refine lv_iload hx hb dX3_follow_89 (lv_at hl 7 rfl) ?_
            refine lv_iload hx hb dX3_follow_91 (lv_at hl 8 rfl) ?_
            refine lv_isub hx hb dX3_follow_93 ?_
            obtain ⟨hi94, h⟩ := h
            refine va_iast hx hb hK hP (hD M29) hS 30 0 (xW_30 cI cZ ad M29) rfl hi94 dX3_follow_94 (fun H locs hP _ hS => ?_)
            refine xQ_30 hP (fun M94 eM94 hP => ?_)
            have h := h M94 eM94
            obtain ⟨x5_95, ex5_95⟩ : ∃ y : Int32, y = x5 + 1 := ⟨_, rfl⟩
            have h := h x5_95 ex5_95
            refine lv_iinc (v := x5_95) (lv' := [(5, .int x5_95), (9, .int x9_47), (8, .int r29), (0, .ref (ad 28)), (1, .int x1), (2, .int x2), (3, .ref (ad 18)), (4, .ref (ad 17)), (6, .int x6), (7, .int x7)]) hx hb dX3_follow_95 hl (k := 7) rfl (by rw [ex5_95]; rfl) (by decide) rfl (fun ls hl => ?_)
            obtain ⟨x6_98, ex6_98⟩ : ∃ y : Int32, y = x6 + 1 := ⟨_, rfl⟩
            have h := h x6_98 ex6_98
            refine lv_iinc (v := x6_98) (lv' := [(6, .int x6_98), (5, .int x5_95), (9, .int x9_47), (8, .int r29), (0, .ref (ad 28)), (1, .int x1), (2, .int x2), (3, .ref (ad 18)), (4, .ref (ad 17)), (7, .int x7)]) hx hb dX3_follow_98 hl (k := 8) rfl (by rw [ex6_98]; rfl) (by decide) rfl (fun ls hl => ?_)
            refine lv_goto (tgt := 161) hx hb dX3_follow_101 (by decide) ?_
            obtain ⟨x7_161, ex7_161⟩ : ∃ y : Int32, y = x7 + 1 := ⟨_, rfl⟩
            have h := h x7_161 ex7_161
            refine lv_iinc (v := x7_161) (lv' := [(7, .int x7_161), (6, .int x6_98), (5, .int x5_95), (9, .int x9_47), (8, .int r29), (0, .ref (ad 28)), (1, .int x1), (2, .int x2), (3, .ref (ad 18)), (4, .ref (ad 17))]) hx hb dX3_follow_161 hl (k := 9) rfl (by rw [ex7_161]; rfl) (by decide) rfl (fun ls hl => ?_)
            refine lv_goto (tgt := 9) hx hb dX3_follow_164 (by decide) ?_
            exact hB x1 x2 x5_95 x6_98 x7_161 M94 _ _ _ (lv_sub hl [5, 6, 7, 8, 9, 2, 1, 0] rfl) hP hS h
  have hl := lv_entry ([.ref (ad 28), .int a1, .int a2, .ref (ad 18), .ref (ad 17)]) (n := 10) (Nat.le_of_ble_eq_true rfl)
  rw [lg_entry_eq]
  generalize (lg_sl ([.ref (ad 28), .int a1, .int a2, .ref (ad 18), .ref (ad 17)]) ++ List.replicate (10 - (lg_sl ([.ref (ad 28), .int a1, .int a2, .ref (ad 18), .ref (ad 17)])).length) Slot.unset).toArray = ls at hl ⊢
  have hl : lv_has ls 10 [(0, .ref (ad 28)), (1, .int a1), (2, .int a2), (3, .ref (ad 18)), (4, .ref (ad 17))] := hl
  refine lv_iconst (v := 0) hx hb dX3_follow_0 (by decide) ?_
  refine lv_istore (lv' := [(5, .int 0), (0, .ref (ad 28)), (1, .int a1), (2, .int a2), (3, .ref (ad 18)), (4, .ref (ad 17))]) hx hb dX3_follow_1 hl (by decide) rfl (fun ls hl => ?_)
  refine lv_iconst (v := 0) hx hb dX3_follow_3 (by decide) ?_
  refine lv_istore (lv' := [(6, .int 0), (5, .int 0), (0, .ref (ad 28)), (1, .int a1), (2, .int a2), (3, .ref (ad 18)), (4, .ref (ad 17))]) hx hb dX3_follow_4 hl (by decide) rfl (fun ls hl => ?_)
  refine lv_iconst (v := 0) hx hb dX3_follow_6 (by decide) ?_
  refine lv_istore (lv' := [(7, .int 0), (6, .int 0), (5, .int 0), (0, .ref (ad 28)), (1, .int a1), (2, .int a2), (3, .ref (ad 18)), (4, .ref (ad 17))]) hx hb dX3_follow_7 hl (by decide) rfl (fun ls hl => ?_)
  obtain ⟨n, h⟩ := h
  refine L9 _ (fun  M H locs ls hl hP hS h => ?_) n a1 a2 0 0 0 M _ _ _ (lv_sub hl [3, 4, 5, 6, 7, 2, 1, 0] rfl) hP hS h
  exact W.vret hx hb hr (fun t ht hW => ⟨⟨M, rfl, h, xAt_of ht hP⟩, hS.F ht⟩) hS.2.2 dX3_follow_167
abbrev GX3_walk (p : Program) (l : Launch) (e : Env) (s : State) (m : MethodId) (below : List Frame) (meth : Method) (c : Code) (D : va_G) (cI cZ : ClassId) (ad : Nat → Nat) (a1 : Int32) (Q : Mem → Prop) (H : Heap) (locs : List Loc) (g : JFrame) : Prop := W p l e (headSpec uX3_walk { frames := 2, cells := 0, slots := 0, locals := 56 }).room s m ([.ref (ad 28), .int a1, .ref (ad 1), .ref (ad 18), .ref (ad 17)] : List Value).toArray below meth c H locs 0 0 (MQ below (va_Qv Q (xAt D cI cZ ad) (xA ad)) ([.ref (ad 28), .int a1, .ref (ad 1), .ref (ad 18), .ref (ad 17)] : List Value).toArray s 0 0 (xA ad)) g
set_option maxHeartbeats 4000000 in
set_option maxRecDepth 100000 in
theorem kX3_walk (l : Launch) (D : va_G) (cI cZ : ClassId) (ad : Nat → Nat) (zA zD zR : Nat) (hD : ∀ M : Mem, va_D (xA ad) (xW cI cZ ad M)) (M : Mem) (a1 : Int32) (Q : Mem → Prop) (h : wX3_walk M a1 Q) : Met l yX3_walk uX3_walk ({ frames := 2, cells := 0, slots := 0, locals := 56 }) (va_Pc [.ref (ad 28), .int a1, .ref (ad 1), .ref (ad 18), .ref (ad 17)] (xPre D cI cZ ad zA zD zR M)) (va_Qv Q (xAt D cI cZ ad) (xA ad)) 0 0 (xA ad) := by
  refine Met.ofW (cc := cX3_walk) (maxL := 10) (ret := none) (by decide) rfl ?_
  intro p e s m args below meth c s₁ B hml hv
  obtain ⟨rfl, hP, hK, hZ, hN⟩ := hv
  have hx := B.exec
  have hb := B.bytes
  have hr := B.returns
  have hts := atoms_spec (ws := uX3_walk) B.pre
  have hown : s.vm.findClass RX3 = some m.cls := findClass_of_methodNamed B.named
  have hlocks := B.notSynchronized
  have hS : va_S (xA ad) s.heap s.heap [] := va_S.rf
  have k0 := hts (.fieldLink RX3 11 "TwoEyes$Paths" "rest" "[I") (List.mem_cons_of_mem _ (inA_4 _ (List.mem_of_getElem? (i := 18) rfl)))
  have inX3 : ∀ w ∈ wsX30, w ∈ uX3_walk := fun w h => List.mem_cons_of_mem _ (inCX3 w h)
  have k2 := hts (.fieldLink RX3 33 "TwoEyes$Scene" "width" "I") (List.mem_cons_of_mem _ (inA_25 _ (List.mem_of_getElem? (i := 14) rfl)))
  have inX6 : ∀ w ∈ wsX60, w ∈ uX3_walk := fun w h => List.mem_cons_of_mem _ (inCX6 w h)
  have k4 := hts (.fieldLink RX3 18 "TwoEyes$Paths" "total" "[I") (List.mem_cons_of_mem _ (inA_4 _ (List.mem_of_getElem? (i := 20) rfl)))
  have L27 : ∀ (K86 : Int32 → Int32 → Int32 → Int32 → Mem → Prop), (∀ (x1 x5 x6 x7 : Int32) (M : Mem) (H : Heap) (locs : List Loc) (ls : Array Slot), lv_has ls 10 [(0, .ref (ad 28)), (1, .int x1), (3, .ref (ad 18)), (4, .ref (ad 17)), (5, .int x5), (6, .int x6), (7, .int x7)] → va_P D vwCl (xW cI cZ ad M) H → va_S (xA ad) s.heap H locs → K86 x1 x5 x6 x7 M → GX3_walk p l e s m below meth c D cI cZ ad a1 Q H locs (F0 m 86 ls [])) → ∀ n : Nat, ∀ (x1 x5 x6 x7 x8 : Int32) (M : Mem) (H : Heap) (locs : List Loc) (ls : Array Slot), lv_has ls 10 [(0, .ref (ad 28)), (1, .int x1), (3, .ref (ad 18)), (4, .ref (ad 17)), (5, .int x5), (6, .int x6), (7, .int x7), (8, .int x8)] → va_P D vwCl (xW cI cZ ad M) H → va_S (xA ad) s.heap H locs → wX3_walk_L27 K86 Q n x1 x5 x6 x7 x8 M → GX3_walk p l e s m below meth c D cI cZ ad a1 Q H locs (F0 m 27 ls []) := by
    intro K86 hK86 n
    induction n with
    | zero => intro x1 x5 x6 x7 x8 M H locs ls hl hP hS h; exact (show False from h).elim
    | succ n hB =>
      intro x1 x5 x6 x7 x8 M H locs ls hl hP hS h
      rw [wX3_walk_L27_s] at h
      refine lv_iload hx hb dX3_walk_27 (lv_at hl 7 rfl) ?_
      refine lv_if_lt (tgt := 86) hx hb dX3_walk_29 (by decide) (fun q29 => ?_) (fun q29 => ?_)
      · have h := h.1 q29
        exact hK86 x1 x5 x6 x7 M _ _ _ (lv_sub hl [0, 1, 2, 3, 4, 5, 6] rfl) hP hS h
      · have h := h.2 q29
        refine lv_aload_n hx hb dX3_walk_32 rfl (lv_at hl 0 rfl) ?_
        refine lv_iload hx hb dX3_walk_33 (lv_at hl 6 rfl) ?_
        refine lv_iload hx hb dX3_walk_35 (lv_at hl 7 rfl) ?_
        refine lv_iload hx hb dX3_walk_37 (lv_at hl 4 rfl) ?_
        refine lv_iload hx hb dX3_walk_39 (lv_at hl 5 rfl) ?_
        refine lv_aload_n hx hb dX3_walk_41 rfl (lv_at hl 2 rfl) ?_
        refine lv_aload hx hb dX3_walk_42 (lv_at hl 3 rfl) ?_
        refine lv_iconst (v := 0) hx hb dX3_walk_44 (by decide) ?_
        obtain ⟨hi45, h⟩ := h
        refine va_iald hx hb hK hP 17 0 (xW_17 cI cZ ad M) rfl hi45 dX3_walk_45 ?_
        refine x_callVi (As := [.int x7, .int x8, .int x5, .int x6, .ref (ad 18), .int (M 17 (0 : Int32).toNatClampNeg)]) (rest := []) ⟨hx, hb, hml, hown, hts⟩ (kX3_matching l D cI cZ ad zA zD zR hD M x7 x8 x5 x6 (M 17 (0 : Int32).toNatClampNeg) _ h) (cwV 6 hts (gdV uS (inA_25 _ (List.mem_of_getElem? (i := 16) rfl)) vX3_matching) rfl rfl rfl (by decide +kernel) ⟨Nat.le_of_ble_eq_true rfl, Nat.le_of_ble_eq_true rfl⟩) (va_recv hK hP (ci := 3) (q0 := 28) rfl (xW_28 cI cZ ad M)) hP hK hZ hN hS hl.1 rfl rfl (Nat.le_of_ble_eq_true rfl) dX3_walk_46 (fun r46 M46 H locs h hP hS => ?_)
        refine lv_istore (lv' := [(9, .int r46), (0, .ref (ad 28)), (1, .int x1), (3, .ref (ad 18)), (4, .ref (ad 17)), (5, .int x5), (6, .int x6), (7, .int x7), (8, .int x8)]) hx hb dX3_walk_49 hl (by decide) rfl (fun ls hl => ?_)
        refine lv_aload_n hx hb dX3_walk_51 rfl (lv_at hl 1 rfl) ?_
        refine va_get (D := D) (ci := 3) (v := .ref (ad 29)) (C := RX3) (T := TX3) (N := 3) hx hb hts inX3 hown hK hP 28 (xW_28 cI cZ ad M46) rfl 0 (by decide) k0 (fun _ h9 => h9) rfl dX3_walk_52 ?_
        refine lv_iload hx hb dX3_walk_55 (lv_at hl 7 rfl) ?_
        refine lv_bipush (v := 21) hx hb dX3_walk_57 (by decide) ?_
        refine lv_imul hx hb dX3_walk_59 ?_
        refine lv_iload hx hb dX3_walk_60 (lv_at hl 8 rfl) ?_
        refine lv_iadd hx hb dX3_walk_62 ?_
        refine lv_aload_n hx hb dX3_walk_63 rfl (lv_at hl 1 rfl) ?_
        refine lv_iload hx hb dX3_walk_64 (lv_at hl 7 rfl) ?_
        refine lv_iload hx hb dX3_walk_66 (lv_at hl 8 rfl) ?_
        refine lv_iload hx hb dX3_walk_68 (lv_at hl 6 rfl) ?_
        refine lv_iload hx hb dX3_walk_70 (lv_at hl 0 rfl) ?_
        refine lv_aload hx hb dX3_walk_72 (lv_at hl 4 rfl) ?_
        refine lv_iconst (v := 1) hx hb dX3_walk_74 (by decide) ?_
        obtain ⟨hi75, h⟩ := h
        refine va_iald hx hb hK hP 17 0 (xW_17 cI cZ ad M46) rfl hi75 dX3_walk_75 ?_
        refine x_callVi (As := [.int x7, .int x8, .int x6, .int r46, .int (M46 17 (1 : Int32).toNatClampNeg)]) (rest := [.int ((x7 * 21) + x8), .ref (ad 29)]) ⟨hx, hb, hml, hown, hts⟩ (kX3_leastRest l D cI cZ ad zA zD zR hD M46 x7 x8 x6 r46 (M46 17 (1 : Int32).toNatClampNeg) _ h) (cwV 5 hts (gdV uS (inA_25 _ (List.mem_of_getElem? (i := 21) rfl)) vX3_leastRest) rfl rfl rfl (by decide +kernel) ⟨Nat.le_of_ble_eq_true rfl, Nat.le_of_ble_eq_true rfl⟩) (va_recv hK hP (ci := 3) (q0 := 28) rfl (xW_28 cI cZ ad M46)) hP hK hZ hN hS hl.1 rfl rfl (Nat.le_of_ble_eq_true rfl) dX3_walk_76 (fun r76 M76 H locs h hP hS => ?_)
        obtain ⟨hi79, h⟩ := h
        refine va_iast hx hb hK hP (hD M76) hS 29 0 (xW_29 cI cZ ad M76) rfl hi79 dX3_walk_79 (fun H locs hP _ hS => ?_)
        refine xQ_29 hP (fun M79 eM79 hP => ?_)
        have h := h M79 eM79
        obtain ⟨x8_80, ex8_80⟩ : ∃ y : Int32, y = x8 + (-1) := ⟨_, rfl⟩
        have h := h x8_80 ex8_80
        refine lv_iinc (v := x8_80) (lv' := [(8, .int x8_80), (9, .int r46), (0, .ref (ad 28)), (1, .int x1), (3, .ref (ad 18)), (4, .ref (ad 17)), (5, .int x5), (6, .int x6), (7, .int x7)]) hx hb dX3_walk_80 hl (k := 8) rfl (by rw [ex8_80]; rfl) (by decide) rfl (fun ls hl => ?_)
        refine lv_goto (tgt := 27) hx hb dX3_walk_83 (by decide) ?_
        exact hB x1 x5 x6 x7 x8_80 M79 _ _ _ (lv_sub hl [2, 3, 4, 5, 6, 7, 8, 0] rfl) hP hS h
  have L18 : ∀ (K92 : Int32 → Int32 → Int32 → Mem → Prop), (∀ (x1 x5 x6 : Int32) (M : Mem) (H : Heap) (locs : List Loc) (ls : Array Slot), lv_has ls 10 [(0, .ref (ad 28)), (1, .int x1), (3, .ref (ad 18)), (4, .ref (ad 17)), (5, .int x5), (6, .int x6)] → va_P D vwCl (xW cI cZ ad M) H → va_S (xA ad) s.heap H locs → K92 x1 x5 x6 M → GX3_walk p l e s m below meth c D cI cZ ad a1 Q H locs (F0 m 92 ls [])) → ∀ n : Nat, ∀ (x1 x5 x6 x7 : Int32) (M : Mem) (H : Heap) (locs : List Loc) (ls : Array Slot), lv_has ls 10 [(0, .ref (ad 28)), (1, .int x1), (3, .ref (ad 18)), (4, .ref (ad 17)), (5, .int x5), (6, .int x6), (7, .int x7)] → va_P D vwCl (xW cI cZ ad M) H → va_S (xA ad) s.heap H locs → wX3_walk_L18 K92 Q n x1 x5 x6 x7 M → GX3_walk p l e s m below meth c D cI cZ ad a1 Q H locs (F0 m 18 ls []) := by
    intro K92 hK92 n
    induction n with
    | zero => intro x1 x5 x6 x7 M H locs ls hl hP hS h; exact (show False from h).elim
    | succ n hB =>
      intro x1 x5 x6 x7 M H locs ls hl hP hS h
      rw [wX3_walk_L18_s] at h
      refine lv_iload hx hb dX3_walk_18 (lv_at hl 6 rfl) ?_
      refine lv_if_lt (tgt := 92) hx hb dX3_walk_20 (by decide) (fun q20 => ?_) (fun q20 => ?_)
      · have h := h.1 q20
        exact hK92 x1 x5 x6 M _ _ _ (lv_sub hl [0, 1, 2, 3, 4, 5] rfl) hP hS h
      · have h := h.2 q20
        refine lv_iload hx hb dX3_walk_23 (lv_at hl 5 rfl) ?_
        refine lv_istore (lv' := [(8, .int x6), (0, .ref (ad 28)), (1, .int x1), (3, .ref (ad 18)), (4, .ref (ad 17)), (5, .int x5), (6, .int x6), (7, .int x7)]) hx hb dX3_walk_25 hl (by decide) rfl (fun ls hl => ?_)
        obtain ⟨n, h⟩ := h
        refine L27 _ (fun x1 x5 x6 x7 M H locs ls hl hP hS h => ?_) n x1 x5 x6 x7 x6 M _ _ _ (lv_sub hl [1, 2, 3, 4, 5, 6, 7, 0] rfl) hP hS h
        obtain ⟨x7_86, ex7_86⟩ : ∃ y : Int32, y = x7 + (-1) := ⟨_, rfl⟩
        have h := h x7_86 ex7_86
        refine lv_iinc (v := x7_86) (lv' := [(7, .int x7_86), (0, .ref (ad 28)), (1, .int x1), (3, .ref (ad 18)), (4, .ref (ad 17)), (5, .int x5), (6, .int x6)]) hx hb dX3_walk_86 hl (k := 6) rfl (by rw [ex7_86]; rfl) (by decide) rfl (fun ls hl => ?_)
        refine lv_goto (tgt := 18) hx hb dX3_walk_89 (by decide) ?_
        exact hB x1 x5 x6 x7_86 M _ _ _ (lv_sub hl [1, 2, 3, 4, 5, 6, 0] rfl) hP hS h
  have hl := lv_entry ([.ref (ad 28), .int a1, .ref (ad 1), .ref (ad 18), .ref (ad 17)]) (n := 10) (Nat.le_of_ble_eq_true rfl)
  rw [lg_entry_eq]
  generalize (lg_sl ([.ref (ad 28), .int a1, .ref (ad 1), .ref (ad 18), .ref (ad 17)]) ++ List.replicate (10 - (lg_sl ([.ref (ad 28), .int a1, .ref (ad 1), .ref (ad 18), .ref (ad 17)])).length) Slot.unset).toArray = ls at hl ⊢
  have hl : lv_has ls 10 [(0, .ref (ad 28)), (1, .int a1), (2, .ref (ad 1)), (3, .ref (ad 18)), (4, .ref (ad 17))] := hl
  refine lv_aload_n hx hb dX3_walk_0 rfl (lv_at hl 2 rfl) ?_
  refine lv_iconst (v := 0) hx hb dX3_walk_1 (by decide) ?_
  refine lv_iload_n hx hb dX3_walk_2 rfl (lv_at hl 1 rfl) ?_
  refine x_callVi (As := [.int 0, .int a1]) (rest := []) ⟨hx, hb, hml, hown, hts⟩ (kX6_placeOf l D cI cZ ad zA zD zR hD M 0 a1 _ h) (cwV 2 hts (gdV uS (inA_25 _ (List.mem_of_getElem? (i := 15) rfl)) vX6_placeOf) rfl rfl rfl (by decide +kernel) ⟨Nat.le_of_ble_eq_true rfl, Nat.le_of_ble_eq_true rfl⟩) (va_recv hK hP (ci := 6) (q0 := 1) rfl (xW_1 cI cZ ad M)) hP hK hZ hN hS hl.1 rfl rfl (Nat.le_of_ble_eq_true rfl) dX3_walk_3 (fun r3 M3 H locs h hP hS => ?_)
  refine lv_istore (lv' := [(5, .int r3), (0, .ref (ad 28)), (1, .int a1), (2, .ref (ad 1)), (3, .ref (ad 18)), (4, .ref (ad 17))]) hx hb dX3_walk_6 hl (by decide) rfl (fun ls hl => ?_)
  refine lv_aload_n hx hb dX3_walk_8 rfl (lv_at hl 3 rfl) ?_
  refine va_get (D := D) (ci := 6) (v := .int (M3 1 0)) (C := RX6) (T := TX6) (N := 5) hx hb hts inX6 hown hK hP 1 (xW_1 cI cZ ad M3) rfl 0 (by decide) k2 (fun _ h9 => h9) rfl dX3_walk_9 ?_
  refine lv_topi (fun x6_12 ex6_12 => ?_)
  have h := h x6_12 ex6_12
  refine lv_istore (lv' := [(6, .int x6_12), (5, .int r3), (0, .ref (ad 28)), (1, .int a1), (2, .ref (ad 1)), (3, .ref (ad 18)), (4, .ref (ad 17))]) hx hb dX3_walk_12 hl (by decide) rfl (fun ls hl => ?_)
  refine lv_iload hx hb dX3_walk_14 (lv_at hl 0 rfl) ?_
  refine lv_istore (lv' := [(7, .int x6_12), (6, .int x6_12), (5, .int r3), (0, .ref (ad 28)), (1, .int a1), (2, .ref (ad 1)), (3, .ref (ad 18)), (4, .ref (ad 17))]) hx hb dX3_walk_16 hl (by decide) rfl (fun ls hl => ?_)
  obtain ⟨n, h⟩ := h
  refine L18 _ (fun x1 x5 x6 M H locs ls hl hP hS h => ?_) n a1 r3 x6_12 x6_12 M3 _ _ _ (lv_sub hl [3, 4, 6, 7, 2, 1, 0] rfl) hP hS h
  refine lv_aload_n hx hb dX3_walk_92 rfl (lv_at hl 0 rfl) ?_
  refine va_get (D := D) (ci := 3) (v := .ref (ad 31)) (C := RX3) (T := TX3) (N := 3) hx hb hts inX3 hown hK hP 28 (xW_28 cI cZ ad M) rfl 2 (by decide) k4 (fun _ h9 => h9) rfl dX3_walk_93 ?_
  refine lv_iload_n hx hb dX3_walk_96 rfl (lv_at hl 1 rfl) ?_
  refine lv_aload_n hx hb dX3_walk_97 rfl (lv_at hl 0 rfl) ?_
  refine va_get (D := D) (ci := 3) (v := .ref (ad 29)) (C := RX3) (T := TX3) (N := 3) hx hb hts inX3 hown hK hP 28 (xW_28 cI cZ ad M) rfl 0 (by decide) k0 (fun _ h9 => h9) rfl dX3_walk_98 ?_
  refine lv_iconst (v := 0) hx hb dX3_walk_101 (by decide) ?_
  obtain ⟨hi102, h⟩ := h
  refine va_iald hx hb hK hP 29 0 (xW_29 cI cZ ad M) rfl hi102 dX3_walk_102 ?_
  obtain ⟨hi103, h⟩ := h
  refine va_iast hx hb hK hP (hD M) hS 31 0 (xW_31 cI cZ ad M) rfl hi103 dX3_walk_103 (fun H locs hP _ hS => ?_)
  refine xQ_31 hP (fun M103 eM103 hP => ?_)
  have h := h M103 eM103
  refine lv_aload_n hx hb dX3_walk_104 rfl (lv_at hl 0 rfl) ?_
  refine lv_iload hx hb dX3_walk_105 (lv_at hl 4 rfl) ?_
  refine lv_iload hx hb dX3_walk_107 (lv_at hl 5 rfl) ?_
  refine lv_aload_n hx hb dX3_walk_109 rfl (lv_at hl 2 rfl) ?_
  refine lv_aload hx hb dX3_walk_110 (lv_at hl 3 rfl) ?_
  refine x_callVv (As := [.int x5, .int x6, .ref (ad 18), .ref (ad 17)]) (rest := []) ⟨hx, hb, hml, hown, hts⟩ (kX3_follow l D cI cZ ad zA zD zR hD M103 x5 x6 _ h) (cwV 4 hts (gdV uS (inA_26 _ (List.mem_of_getElem? (i := 3) rfl)) vX3_follow) rfl rfl rfl (by decide +kernel) ⟨Nat.le_of_ble_eq_true rfl, Nat.le_of_ble_eq_true rfl⟩) (va_recv hK hP (ci := 3) (q0 := 28) rfl (xW_28 cI cZ ad M103)) hP hK hZ hN hS hl.1 rfl rfl (Nat.le_of_ble_eq_true rfl) dX3_walk_112 (fun M112 H locs h hP hS => ?_)
  exact W.vret hx hb hr (fun t ht hW => ⟨⟨M112, rfl, h, xAt_of ht hP⟩, hS.F ht⟩) hS.2.2 dX3_walk_115
set_option maxHeartbeats 4000000 in
set_option maxRecDepth 100000 in
theorem kX10_refreshPath (l : Launch) (D : va_G) (cI cZ : ClassId) (ad : Nat → Nat) (zA zD zR : Nat) (hD : ∀ M : Mem, va_D (xA ad) (xW cI cZ ad M)) (M : Mem) (a1 : Int32) (Q : Mem → Prop) (h : wX10_refreshPath M a1 Q) : Met l yX10_refreshPath uX10_refreshPath ({ frames := 4, cells := 0, slots := 0, locals := 100 }) (va_Pc [.ref (ad 0), .int a1] (xPre D cI cZ ad zA zD zR M)) (va_Qv Q (xAt D cI cZ ad) (xA ad)) 0 0 (xA ad) := by
  refine Met.ofW (cc := cX10_refreshPath) (maxL := 2) (ret := none) (by decide) rfl ?_
  intro p e s m args below meth c s₁ B hml hv
  obtain ⟨rfl, hP, hK, hZ, hN⟩ := hv
  have hx := B.exec
  have hb := B.bytes
  have hr := B.returns
  have hts := atoms_spec (ws := uX10_refreshPath) B.pre
  have hown : s.vm.findClass RX10 = some m.cls := findClass_of_methodNamed B.named
  have hlocks := B.notSynchronized
  have hS : va_S (xA ad) s.heap s.heap [] := va_S.rf
  have k0 := hts (.fieldLink RX10 37 "TwoEyes" "paths" "LTwoEyes$Paths;") (List.mem_cons_of_mem _ (inA_2 _ (List.mem_of_getElem? (i := 3) rfl)))
  have inX10 : ∀ w ∈ wsX100, w ∈ uX10_refreshPath := fun w h => List.mem_cons_of_mem _ (inCX10 w h)
  have k2 := hts (.fieldLink RX10 179 "TwoEyes$Paths" "total" "[I") (List.mem_cons_of_mem _ (inA_25 _ (List.mem_of_getElem? (i := 4) rfl)))
  have inX3 : ∀ w ∈ wsX30, w ∈ uX10_refreshPath := fun w h => List.mem_cons_of_mem _ (inCX3 w h)
  have k4 := hts (.fieldLink RX10 10 "TwoEyes" "scene" "LTwoEyes$Scene;") (List.mem_cons_of_mem _ (inA_1 _ (List.mem_of_getElem? (i := 15) rfl)))
  have k5 := hts (.fieldLink RX10 30 "TwoEyes" "costs" "LTwoEyes$Costs;") (List.mem_cons_of_mem _ (inA_1 _ (List.mem_of_getElem? (i := 23) rfl)))
  have k6 := hts (.fieldLink RX10 23 "TwoEyes" "rules" "[I") (List.mem_cons_of_mem _ (inA_1 _ (List.mem_of_getElem? (i := 19) rfl)))
  have hl := lv_entry ([.ref (ad 0), .int a1]) (n := 2) (Nat.le_of_ble_eq_true rfl)
  rw [lg_entry_eq]
  generalize (lg_sl ([.ref (ad 0), .int a1]) ++ List.replicate (2 - (lg_sl ([.ref (ad 0), .int a1])).length) Slot.unset).toArray = ls at hl ⊢
  have hl : lv_has ls 2 [(0, .ref (ad 0)), (1, .int a1)] := hl
  refine lv_aload_n hx hb dX10_refreshPath_0 rfl (lv_at hl 0 rfl) ?_
  refine x_callVv (As := []) (rest := []) ⟨hx, hb, hml, hown, hts⟩ (kX10_refreshCosts l D cI cZ ad zA zD zR hD M _ h) (cwV 0 hts (gdV uS (inA_15 _ (List.mem_of_getElem? (i := 0) rfl)) vX10_refreshCosts) rfl rfl rfl (by decide +kernel) ⟨Nat.le_of_ble_eq_true rfl, Nat.le_of_ble_eq_true rfl⟩) (va_recv hK hP (ci := 10) (q0 := 0) rfl (xW_0 cI cZ ad M)) hP hK hZ hN hS hl.1 rfl rfl (Nat.le_of_ble_eq_true rfl) dX10_refreshPath_1 (fun M1 H locs h hP hS => ?_)
  refine lv_aload_n hx hb dX10_refreshPath_4 rfl (lv_at hl 0 rfl) ?_
  refine va_get (D := D) (ci := 10) (v := .ref (ad 28)) (C := RX10) (T := TX10) (N := 11) hx hb hts inX10 hown hK hP 0 (xW_0 cI cZ ad M1) rfl 5 (by decide) k0 (fun _ h9 => h9) rfl dX10_refreshPath_5 ?_
  refine va_get (D := D) (ci := 3) (v := .ref (ad 31)) (C := RX3) (T := TX3) (N := 3) hx hb hts inX3 hown hK hP 28 (xW_28 cI cZ ad M1) rfl 2 (by decide) k2 (fun _ h9 => h9) rfl dX10_refreshPath_8 ?_
  refine lv_iload_n hx hb dX10_refreshPath_11 rfl (lv_at hl 1 rfl) ?_
  obtain ⟨hi12, h⟩ := h
  refine va_iald hx hb hK hP 31 0 (xW_31 cI cZ ad M1) rfl hi12 dX10_refreshPath_12 ?_
  refine lv_bipush (v := (-4)) hx hb dX10_refreshPath_13 (by decide) ?_
  refine lv_icmp_ne (tgt := 38) hx hb dX10_refreshPath_15 (by decide) (fun q15 => ?_) (fun q15 => ?_)
  · have h := h.1 q15
    exact W.vret hx hb hr (fun t ht hW => ⟨⟨M1, rfl, h, xAt_of ht hP⟩, hS.F ht⟩) hS.2.2 dX10_refreshPath_38
  · have h := h.2 q15
    refine lv_aload_n hx hb dX10_refreshPath_18 rfl (lv_at hl 0 rfl) ?_
    refine va_get (D := D) (ci := 10) (v := .ref (ad 28)) (C := RX10) (T := TX10) (N := 11) hx hb hts inX10 hown hK hP 0 (xW_0 cI cZ ad M1) rfl 5 (by decide) k0 (fun _ h9 => h9) rfl dX10_refreshPath_19 ?_
    refine lv_iload_n hx hb dX10_refreshPath_22 rfl (lv_at hl 1 rfl) ?_
    refine lv_aload_n hx hb dX10_refreshPath_23 rfl (lv_at hl 0 rfl) ?_
    refine va_get (D := D) (ci := 10) (v := .ref (ad 1)) (C := RX10) (T := TX10) (N := 11) hx hb hts inX10 hown hK hP 0 (xW_0 cI cZ ad M1) rfl 0 (by decide) k4 (fun _ h9 => h9) rfl dX10_refreshPath_24 ?_
    refine lv_aload_n hx hb dX10_refreshPath_27 rfl (lv_at hl 0 rfl) ?_
    refine va_get (D := D) (ci := 10) (v := .ref (ad 18)) (C := RX10) (T := TX10) (N := 11) hx hb hts inX10 hown hK hP 0 (xW_0 cI cZ ad M1) rfl 4 (by decide) k5 (fun _ h9 => h9) rfl dX10_refreshPath_28 ?_
    refine lv_aload_n hx hb dX10_refreshPath_31 rfl (lv_at hl 0 rfl) ?_
    refine va_get (D := D) (ci := 10) (v := .ref (ad 17)) (C := RX10) (T := TX10) (N := 11) hx hb hts inX10 hown hK hP 0 (xW_0 cI cZ ad M1) rfl 3 (by decide) k6 (fun _ h9 => h9) rfl dX10_refreshPath_32 ?_
    refine x_callVv (As := [.int a1, .ref (ad 1), .ref (ad 18), .ref (ad 17)]) (rest := []) ⟨hx, hb, hml, hown, hts⟩ (kX3_walk l D cI cZ ad zA zD zR hD M1 a1 _ h) (cwV 4 hts (gdV uS (inA_25 _ (List.mem_of_getElem? (i := 10) rfl)) vX3_walk) rfl rfl rfl (by decide +kernel) ⟨Nat.le_of_ble_eq_true rfl, Nat.le_of_ble_eq_true rfl⟩) (va_recv hK hP (ci := 3) (q0 := 28) rfl (xW_28 cI cZ ad M1)) hP hK hZ hN hS hl.1 rfl rfl (Nat.le_of_ble_eq_true rfl) dX10_refreshPath_35 (fun M35 H locs h hP hS => ?_)
    exact W.vret hx hb hr (fun t ht hW => ⟨⟨M35, rfl, h, xAt_of ht hP⟩, hS.F ht⟩) hS.2.2 dX10_refreshPath_38
set_option maxHeartbeats 4000000 in
set_option maxRecDepth 100000 in
theorem kX10_path (l : Launch) (D : va_G) (cI cZ : ClassId) (ad : Nat → Nat) (zA zD zR : Nat) (hD : ∀ M : Mem, va_D (xA ad) (xW cI cZ ad M)) (M : Mem) (a1 : Int32) (Q : Int32 → Mem → Prop) (h : wX10_path M a1 Q) : Met l yX10_path uX10_path ({ frames := 5, cells := 0, slots := 0, locals := 121 }) (va_Pc [.ref (ad 0), .int a1] (xPre D cI cZ ad zA zD zR M)) (va_Qi Q (xAt D cI cZ ad) (xA ad)) 0 0 (xA ad) := by
  refine Met.ofW (cc := cX10_path) (maxL := 2) (ret := (some .int)) (by decide) rfl ?_
  intro p e s m args below meth c s₁ B hml hv
  obtain ⟨rfl, hP, hK, hZ, hN⟩ := hv
  have hx := B.exec
  have hb := B.bytes
  have hr := B.returns
  have hts := atoms_spec (ws := uX10_path) B.pre
  have hown : s.vm.findClass RX10 = some m.cls := findClass_of_methodNamed B.named
  have hlocks := B.notSynchronized
  have hS : va_S (xA ad) s.heap s.heap [] := va_S.rf
  have k0 := hts (.fieldLink RX10 10 "TwoEyes" "scene" "LTwoEyes$Scene;") (List.mem_cons_of_mem _ (inA_1 _ (List.mem_of_getElem? (i := 15) rfl)))
  have inX10 : ∀ w ∈ wsX100, w ∈ uX10_path := fun w h => List.mem_cons_of_mem _ (inCX10 w h)
  have k2 := hts (.fieldLink RX10 37 "TwoEyes" "paths" "LTwoEyes$Paths;") (List.mem_cons_of_mem _ (inA_2 _ (List.mem_of_getElem? (i := 3) rfl)))
  have k3 := hts (.fieldLink RX10 179 "TwoEyes$Paths" "total" "[I") (List.mem_cons_of_mem _ (inA_25 _ (List.mem_of_getElem? (i := 4) rfl)))
  have inX3 : ∀ w ∈ wsX30, w ∈ uX10_path := fun w h => List.mem_cons_of_mem _ (inCX3 w h)
  have hl := lv_entry ([.ref (ad 0), .int a1]) (n := 2) (Nat.le_of_ble_eq_true rfl)
  rw [lg_entry_eq]
  generalize (lg_sl ([.ref (ad 0), .int a1]) ++ List.replicate (2 - (lg_sl ([.ref (ad 0), .int a1])).length) Slot.unset).toArray = ls at hl ⊢
  have hl : lv_has ls 2 [(0, .ref (ad 0)), (1, .int a1)] := hl
  refine lv_aload_n hx hb dX10_path_0 rfl (lv_at hl 0 rfl) ?_
  refine va_get (D := D) (ci := 10) (v := .ref (ad 1)) (C := RX10) (T := TX10) (N := 11) hx hb hts inX10 hown hK hP 0 (xW_0 cI cZ ad M) rfl 0 (by decide) k0 (fun _ h9 => h9) rfl dX10_path_1 ?_
  refine lv_iload_n hx hb dX10_path_4 rfl (lv_at hl 1 rfl) ?_
  refine x_callVi (As := [.int a1]) (rest := []) ⟨hx, hb, hml, hown, hts⟩ (kX6_hasHeight l D cI cZ ad zA zD zR hD M a1 _ h) (cwV 1 hts (gdV uS (inA_25 _ (List.mem_of_getElem? (i := 5) rfl)) vX6_hasHeight) rfl rfl rfl (by decide +kernel) ⟨Nat.le_of_ble_eq_true rfl, Nat.le_of_ble_eq_true rfl⟩) (va_recv hK hP (ci := 6) (q0 := 1) rfl (xW_1 cI cZ ad M)) hP hK hZ hN hS hl.1 rfl rfl (Nat.le_of_ble_eq_true rfl) dX10_path_5 (fun r5 M5 H locs h hP hS => ?_)
  refine lv_if_ne (tgt := 13) hx hb dX10_path_8 (by decide) (fun q8 => ?_) (fun q8 => ?_)
  · have h := h.1 q8
    refine lv_aload_n hx hb dX10_path_13 rfl (lv_at hl 0 rfl) ?_
    refine lv_iload_n hx hb dX10_path_14 rfl (lv_at hl 1 rfl) ?_
    refine x_callVv (As := [.int a1]) (rest := []) ⟨hx, hb, hml, hown, hts⟩ (kX10_refreshPath l D cI cZ ad zA zD zR hD M5 a1 _ h) (cwV 1 hts (gdV uS (inA_25 _ (List.mem_of_getElem? (i := 6) rfl)) vX10_refreshPath) rfl rfl rfl (by decide +kernel) ⟨Nat.le_of_ble_eq_true rfl, Nat.le_of_ble_eq_true rfl⟩) (va_recv hK hP (ci := 10) (q0 := 0) rfl (xW_0 cI cZ ad M5)) hP hK hZ hN hS hl.1 rfl rfl (Nat.le_of_ble_eq_true rfl) dX10_path_15 (fun M15 H locs h hP hS => ?_)
    refine lv_aload_n hx hb dX10_path_18 rfl (lv_at hl 0 rfl) ?_
    refine va_get (D := D) (ci := 10) (v := .ref (ad 28)) (C := RX10) (T := TX10) (N := 11) hx hb hts inX10 hown hK hP 0 (xW_0 cI cZ ad M15) rfl 5 (by decide) k2 (fun _ h9 => h9) rfl dX10_path_19 ?_
    refine va_get (D := D) (ci := 3) (v := .ref (ad 31)) (C := RX3) (T := TX3) (N := 3) hx hb hts inX3 hown hK hP 28 (xW_28 cI cZ ad M15) rfl 2 (by decide) k3 (fun _ h9 => h9) rfl dX10_path_22 ?_
    refine lv_iload_n hx hb dX10_path_25 rfl (lv_at hl 1 rfl) ?_
    obtain ⟨hi26, h⟩ := h
    refine va_iald hx hb hK hP 31 0 (xW_31 cI cZ ad M15) rfl hi26 dX10_path_26 ?_
    exact W.iret (v := (M15 31 (a1).toNatClampNeg)) hx hb hr (fun t ht hW => ⟨⟨(M15 31 (a1).toNatClampNeg), M15, rfl, h, xAt_of ht hP⟩, hS.F ht⟩) hS.2.2 dX10_path_27
  · have h := h.2 q8
    refine lv_iconst (v := (-1)) hx hb dX10_path_11 (by decide) ?_
    exact W.iret (v := (-1)) hx hb hr (fun t ht hW => ⟨⟨(-1), M5, rfl, h, xAt_of ht hP⟩, hS.F ht⟩) hS.2.2 dX10_path_12
set_option maxHeartbeats 4000000 in
set_option maxRecDepth 100000 in
theorem kX10_matched (l : Launch) (D : va_G) (cI cZ : ClassId) (ad : Nat → Nat) (zA zD zR : Nat) (hD : ∀ M : Mem, va_D (xA ad) (xW cI cZ ad M)) (M : Mem) (a1 a2 : Int32) (Q : Int32 → Mem → Prop) (h : wX10_matched M a1 a2 Q) : Met l yX10_matched uX10_matched ({ frames := 5, cells := 0, slots := 0, locals := 121 }) (va_Pc [.ref (ad 0), .int a1, .int a2] (xPre D cI cZ ad zA zD zR M)) (va_Qi Q (xAt D cI cZ ad) (xA ad)) 0 0 (xA ad) := by
  refine Met.ofW (cc := cX10_matched) (maxL := 3) (ret := (some .int)) (by decide) rfl ?_
  intro p e s m args below meth c s₁ B hml hv
  obtain ⟨rfl, hP, hK, hZ, hN⟩ := hv
  have hx := B.exec
  have hb := B.bytes
  have hr := B.returns
  have hts := atoms_spec (ws := uX10_matched) B.pre
  have hown : s.vm.findClass RX10 = some m.cls := findClass_of_methodNamed B.named
  have hlocks := B.notSynchronized
  have hS : va_S (xA ad) s.heap s.heap [] := va_S.rf
  have k0 := hts (.fieldLink RX10 10 "TwoEyes" "scene" "LTwoEyes$Scene;") (List.mem_cons_of_mem _ (inA_1 _ (List.mem_of_getElem? (i := 15) rfl)))
  have inX10 : ∀ w ∈ wsX100, w ∈ uX10_matched := fun w h => List.mem_cons_of_mem _ (inCX10 w h)
  have k2 := hts (.fieldLink RX10 37 "TwoEyes" "paths" "LTwoEyes$Paths;") (List.mem_cons_of_mem _ (inA_2 _ (List.mem_of_getElem? (i := 3) rfl)))
  have k3 := hts (.fieldLink RX10 182 "TwoEyes$Paths" "match" "[I") (List.mem_cons_of_mem _ (inA_27 _ (List.mem_of_getElem? (i := 5) rfl)))
  have inX3 : ∀ w ∈ wsX30, w ∈ uX10_matched := fun w h => List.mem_cons_of_mem _ (inCX3 w h)
  have hl := lv_entry ([.ref (ad 0), .int a1, .int a2]) (n := 3) (Nat.le_of_ble_eq_true rfl)
  rw [lg_entry_eq]
  generalize (lg_sl ([.ref (ad 0), .int a1, .int a2]) ++ List.replicate (3 - (lg_sl ([.ref (ad 0), .int a1, .int a2])).length) Slot.unset).toArray = ls at hl ⊢
  have hl : lv_has ls 3 [(0, .ref (ad 0)), (1, .int a1), (2, .int a2)] := hl
  refine lv_aload_n hx hb dX10_matched_0 rfl (lv_at hl 0 rfl) ?_
  refine va_get (D := D) (ci := 10) (v := .ref (ad 1)) (C := RX10) (T := TX10) (N := 11) hx hb hts inX10 hown hK hP 0 (xW_0 cI cZ ad M) rfl 0 (by decide) k0 (fun _ h9 => h9) rfl dX10_matched_1 ?_
  refine lv_iload_n hx hb dX10_matched_4 rfl (lv_at hl 1 rfl) ?_
  refine lv_iload_n hx hb dX10_matched_5 rfl (lv_at hl 2 rfl) ?_
  refine x_callVi (As := [.int a1, .int a2]) (rest := []) ⟨hx, hb, hml, hown, hts⟩ (kX6_hasSquare l D cI cZ ad zA zD zR hD M a1 a2 _ h) (cwV 2 hts (gdV uS (inA_13 _ (List.mem_of_getElem? (i := 6) rfl)) vX6_hasSquare) rfl rfl rfl (by decide +kernel) ⟨Nat.le_of_ble_eq_true rfl, Nat.le_of_ble_eq_true rfl⟩) (va_recv hK hP (ci := 6) (q0 := 1) rfl (xW_1 cI cZ ad M)) hP hK hZ hN hS hl.1 rfl rfl (Nat.le_of_ble_eq_true rfl) dX10_matched_6 (fun r6 M6 H locs h hP hS => ?_)
  refine lv_if_ne (tgt := 14) hx hb dX10_matched_9 (by decide) (fun q9 => ?_) (fun q9 => ?_)
  · have h := h.1 q9
    refine lv_aload_n hx hb dX10_matched_14 rfl (lv_at hl 0 rfl) ?_
    refine lv_iload_n hx hb dX10_matched_15 rfl (lv_at hl 2 rfl) ?_
    refine x_callVv (As := [.int a2]) (rest := []) ⟨hx, hb, hml, hown, hts⟩ (kX10_refreshPath l D cI cZ ad zA zD zR hD M6 a2 _ h) (cwV 1 hts (gdV uS (inA_25 _ (List.mem_of_getElem? (i := 6) rfl)) vX10_refreshPath) rfl rfl rfl (by decide +kernel) ⟨Nat.le_of_ble_eq_true rfl, Nat.le_of_ble_eq_true rfl⟩) (va_recv hK hP (ci := 10) (q0 := 0) rfl (xW_0 cI cZ ad M6)) hP hK hZ hN hS hl.1 rfl rfl (Nat.le_of_ble_eq_true rfl) dX10_matched_16 (fun M16 H locs h hP hS => ?_)
    refine lv_aload_n hx hb dX10_matched_19 rfl (lv_at hl 0 rfl) ?_
    refine va_get (D := D) (ci := 10) (v := .ref (ad 28)) (C := RX10) (T := TX10) (N := 11) hx hb hts inX10 hown hK hP 0 (xW_0 cI cZ ad M16) rfl 5 (by decide) k2 (fun _ h9 => h9) rfl dX10_matched_20 ?_
    refine va_get (D := D) (ci := 3) (v := .ref (ad 30)) (C := RX3) (T := TX3) (N := 3) hx hb hts inX3 hown hK hP 28 (xW_28 cI cZ ad M16) rfl 1 (by decide) k3 (fun _ h9 => h9) rfl dX10_matched_23 ?_
    refine lv_aload_n hx hb dX10_matched_26 rfl (lv_at hl 0 rfl) ?_
    refine va_get (D := D) (ci := 10) (v := .ref (ad 1)) (C := RX10) (T := TX10) (N := 11) hx hb hts inX10 hown hK hP 0 (xW_0 cI cZ ad M16) rfl 0 (by decide) k0 (fun _ h9 => h9) rfl dX10_matched_27 ?_
    refine lv_iload_n hx hb dX10_matched_30 rfl (lv_at hl 1 rfl) ?_
    refine lv_iload_n hx hb dX10_matched_31 rfl (lv_at hl 2 rfl) ?_
    refine x_callVi (As := [.int a1, .int a2]) (rest := [.ref (ad 30)]) ⟨hx, hb, hml, hown, hts⟩ (kX6_placeOf l D cI cZ ad zA zD zR hD M16 a1 a2 _ h) (cwV 2 hts (gdV uS (inA_10 _ (List.mem_of_getElem? (i := 14) rfl)) vX6_placeOf) rfl rfl rfl (by decide +kernel) ⟨Nat.le_of_ble_eq_true rfl, Nat.le_of_ble_eq_true rfl⟩) (va_recv hK hP (ci := 6) (q0 := 1) rfl (xW_1 cI cZ ad M16)) hP hK hZ hN hS hl.1 rfl rfl (Nat.le_of_ble_eq_true rfl) dX10_matched_32 (fun r32 M32 H locs h hP hS => ?_)
    obtain ⟨hi35, h⟩ := h
    refine va_iald hx hb hK hP 30 0 (xW_30 cI cZ ad M32) rfl hi35 dX10_matched_35 ?_
    exact W.iret (v := (M32 30 (r32).toNatClampNeg)) hx hb hr (fun t ht hW => ⟨⟨(M32 30 (r32).toNatClampNeg), M32, rfl, h, xAt_of ht hP⟩, hS.F ht⟩) hS.2.2 dX10_matched_36
  · have h := h.2 q9
    refine lv_iconst (v := (-1)) hx hb dX10_matched_12 (by decide) ?_
    exact W.iret (v := (-1)) hx hb hr (fun t ht hW => ⟨⟨(-1), M6, rfl, h, xAt_of ht hP⟩, hS.F ht⟩) hS.2.2 dX10_matched_13
abbrev GX3_countHidden (p : Program) (l : Launch) (e : Env) (s : State) (m : MethodId) (below : List Frame) (meth : Method) (c : Code) (D : va_G) (cI cZ : ClassId) (ad : Nat → Nat) (a1 a2 : Int32) (Q : Int32 → Mem → Prop) (H : Heap) (locs : List Loc) (g : JFrame) : Prop := W p l e (headSpec uX3_countHidden { frames := 0, cells := 0, slots := 0, locals := 0 }).room s m ([.ref (ad 28), .int a1, .int a2] : List Value).toArray below meth c H locs 0 0 (MQ below (va_Qi Q (xAt D cI cZ ad) (xA ad)) ([.ref (ad 28), .int a1, .int a2] : List Value).toArray s 0 0 (xA ad)) g
set_option maxHeartbeats 4000000 in
set_option maxRecDepth 100000 in
theorem kX3_countHidden (l : Launch) (D : va_G) (cI cZ : ClassId) (ad : Nat → Nat) (zA zD zR : Nat) (hD : ∀ M : Mem, va_D (xA ad) (xW cI cZ ad M)) (M : Mem) (a1 a2 : Int32) (Q : Int32 → Mem → Prop) (h : wX3_countHidden M a1 a2 Q) : Met l yX3_countHidden uX3_countHidden ({ frames := 0, cells := 0, slots := 0, locals := 0 }) (va_Pc [.ref (ad 28), .int a1, .int a2] (xPre D cI cZ ad zA zD zR M)) (va_Qi Q (xAt D cI cZ ad) (xA ad)) 0 0 (xA ad) := by
  refine Met.ofW (cc := cX3_countHidden) (maxL := 5) (ret := (some .int)) (by decide) rfl ?_
  intro p e s m args below meth c s₁ B hml hv
  obtain ⟨rfl, hP, hK, hZ, hN⟩ := hv
  have hx := B.exec
  have hb := B.bytes
  have hr := B.returns
  have hts := atoms_spec (ws := uX3_countHidden) B.pre
  have hown : s.vm.findClass RX3 = some m.cls := findClass_of_methodNamed B.named
  have hlocks := B.notSynchronized
  have hS : va_S (xA ad) s.heap s.heap [] := va_S.rf
  have k0 := hts (.fieldLink RX3 15 "TwoEyes$Paths" "match" "[I") (List.mem_cons_of_mem _ (inA_4 _ (List.mem_of_getElem? (i := 19) rfl)))
  have inX3 : ∀ w ∈ wsX30, w ∈ uX3_countHidden := fun w h => List.mem_cons_of_mem _ (inCX3 w h)
  have L5 : ∀ (K36 : Int32 → Mem → Prop), (∀ (x3 : Int32) (M : Mem) (H : Heap) (locs : List Loc) (ls : Array Slot), lv_has ls 5 [(3, .int x3)] → va_P D vwCl (xW cI cZ ad M) H → va_S (xA ad) s.heap H locs → K36 x3 M → GX3_countHidden p l e s m below meth c D cI cZ ad a1 a2 Q H locs (F0 m 36 ls [])) → ∀ n : Nat, ∀ (x1 x2 x3 x4 : Int32) (M : Mem) (H : Heap) (locs : List Loc) (ls : Array Slot), lv_has ls 5 [(0, .ref (ad 28)), (1, .int x1), (2, .int x2), (3, .int x3), (4, .int x4)] → va_P D vwCl (xW cI cZ ad M) H → va_S (xA ad) s.heap H locs → wX3_countHidden_L5 K36 Q n x1 x2 x3 x4 M → GX3_countHidden p l e s m below meth c D cI cZ ad a1 a2 Q H locs (F0 m 5 ls []) := by
    intro K36 hK36 n
    induction n with
    | zero => intro x1 x2 x3 x4 M H locs ls hl hP hS h; exact (show False from h).elim
    | succ n hB =>
      intro x1 x2 x3 x4 M H locs ls hl hP hS h
      rw [wX3_countHidden_L5_s] at h
      refine lv_iload hx hb dX3_countHidden_5 (lv_at hl 4 rfl) ?_
      refine lv_iload_n hx hb dX3_countHidden_7 rfl (lv_at hl 2 rfl) ?_
      refine lv_icmp_ge (tgt := 36) hx hb dX3_countHidden_8 (by decide) (fun q8 => ?_) (fun q8 => ?_)
      · have h := h.1 q8
        exact hK36 x3 M _ _ _ (lv_sub hl [3] rfl) hP hS h
      · have h := h.2 q8
        refine lv_aload_n hx hb dX3_countHidden_11 rfl (lv_at hl 0 rfl) ?_
        refine va_get (D := D) (ci := 3) (v := .ref (ad 30)) (C := RX3) (T := TX3) (N := 3) hx hb hts inX3 hown hK hP 28 (xW_28 cI cZ ad M) rfl 1 (by decide) k0 (fun _ h9 => h9) rfl dX3_countHidden_12 ?_
        refine lv_iload_n hx hb dX3_countHidden_15 rfl (lv_at hl 1 rfl) ?_
        refine lv_iload_n hx hb dX3_countHidden_16 rfl (lv_at hl 2 rfl) ?_
        refine lv_imul hx hb dX3_countHidden_17 ?_
        refine lv_iload hx hb dX3_countHidden_18 (lv_at hl 4 rfl) ?_
        refine lv_iadd hx hb dX3_countHidden_20 ?_
        obtain ⟨hi21, h⟩ := h
        refine va_iald hx hb hK hP 30 0 (xW_30 cI cZ ad M) rfl hi21 dX3_countHidden_21 ?_
        refine lv_bipush (v := (-4)) hx hb dX3_countHidden_22 (by decide) ?_
        refine lv_icmp_ne (tgt := 30) hx hb dX3_countHidden_24 (by decide) (fun q24 => ?_) (fun q24 => ?_)
        · have h := h.1 q24
          obtain ⟨x4_30, ex4_30⟩ : ∃ y : Int32, y = x4 + 1 := ⟨_, rfl⟩
          have h := h x4_30 ex4_30
          refine lv_iinc (v := x4_30) (lv' := [(4, .int x4_30), (0, .ref (ad 28)), (1, .int x1), (2, .int x2), (3, .int x3)]) hx hb dX3_countHidden_30 hl (k := 4) rfl (by rw [ex4_30]; rfl) (by decide) rfl (fun ls hl => ?_)
          refine lv_goto (tgt := 5) hx hb dX3_countHidden_33 (by decide) ?_
          exact hB x1 x2 x3 x4_30 M _ _ _ (lv_sub hl [1, 2, 3, 4, 0] rfl) hP hS h
        · have h := h.2 q24
          obtain ⟨x3_27, ex3_27⟩ : ∃ y : Int32, y = x3 + 1 := ⟨_, rfl⟩
          have h := h x3_27 ex3_27
          refine lv_iinc (v := x3_27) (lv' := [(3, .int x3_27), (0, .ref (ad 28)), (1, .int x1), (2, .int x2), (4, .int x4)]) hx hb dX3_countHidden_27 hl (k := 3) rfl (by rw [ex3_27]; rfl) (by decide) rfl (fun ls hl => ?_)
          obtain ⟨x4_30, ex4_30⟩ : ∃ y : Int32, y = x4 + 1 := ⟨_, rfl⟩
          have h := h x4_30 ex4_30
          refine lv_iinc (v := x4_30) (lv' := [(4, .int x4_30), (3, .int x3_27), (0, .ref (ad 28)), (1, .int x1), (2, .int x2)]) hx hb dX3_countHidden_30 hl (k := 4) rfl (by rw [ex4_30]; rfl) (by decide) rfl (fun ls hl => ?_)
          refine lv_goto (tgt := 5) hx hb dX3_countHidden_33 (by decide) ?_
          exact hB x1 x2 x3_27 x4_30 M _ _ _ (lv_sub hl [2, 3, 4, 1, 0] rfl) hP hS h
  have hl := lv_entry ([.ref (ad 28), .int a1, .int a2]) (n := 5) (Nat.le_of_ble_eq_true rfl)
  rw [lg_entry_eq]
  generalize (lg_sl ([.ref (ad 28), .int a1, .int a2]) ++ List.replicate (5 - (lg_sl ([.ref (ad 28), .int a1, .int a2])).length) Slot.unset).toArray = ls at hl ⊢
  have hl : lv_has ls 5 [(0, .ref (ad 28)), (1, .int a1), (2, .int a2)] := hl
  refine lv_iconst (v := 0) hx hb dX3_countHidden_0 (by decide) ?_
  refine lv_istore_n (lv' := [(3, .int 0), (0, .ref (ad 28)), (1, .int a1), (2, .int a2)]) hx hb dX3_countHidden_1 rfl hl (by decide) rfl (fun ls hl => ?_)
  refine lv_iconst (v := 0) hx hb dX3_countHidden_2 (by decide) ?_
  refine lv_istore (lv' := [(4, .int 0), (3, .int 0), (0, .ref (ad 28)), (1, .int a1), (2, .int a2)]) hx hb dX3_countHidden_3 hl (by decide) rfl (fun ls hl => ?_)
  obtain ⟨n, h⟩ := h
  refine L5 _ (fun x3 M H locs ls hl hP hS h => ?_) n a1 a2 0 0 M _ _ _ (lv_sub hl [2, 3, 4, 1, 0] rfl) hP hS h
  refine lv_iload_n hx hb dX3_countHidden_36 rfl (lv_at hl 0 rfl) ?_
  exact W.iret (v := x3) hx hb hr (fun t ht hW => ⟨⟨x3, M, rfl, h, xAt_of ht hP⟩, hS.F ht⟩) hS.2.2 dX3_countHidden_37
set_option maxHeartbeats 4000000 in
set_option maxRecDepth 100000 in
theorem kX10_hidden (l : Launch) (D : va_G) (cI cZ : ClassId) (ad : Nat → Nat) (zA zD zR : Nat) (hD : ∀ M : Mem, va_D (xA ad) (xW cI cZ ad M)) (M : Mem) (a1 a2 : Int32) (Q : Int32 → Mem → Prop) (h : wX10_hidden M a1 a2 Q) : Met l yX10_hidden uX10_hidden ({ frames := 5, cells := 0, slots := 0, locals := 121 }) (va_Pc [.ref (ad 0), .int a1, .int a2] (xPre D cI cZ ad zA zD zR M)) (va_Qi Q (xAt D cI cZ ad) (xA ad)) 0 0 (xA ad) := by
  refine Met.ofW (cc := cX10_hidden) (maxL := 3) (ret := (some .int)) (by decide) rfl ?_
  intro p e s m args below meth c s₁ B hml hv
  obtain ⟨rfl, hP, hK, hZ, hN⟩ := hv
  have hx := B.exec
  have hb := B.bytes
  have hr := B.returns
  have hts := atoms_spec (ws := uX10_hidden) B.pre
  have hown : s.vm.findClass RX10 = some m.cls := findClass_of_methodNamed B.named
  have hlocks := B.notSynchronized
  have hS : va_S (xA ad) s.heap s.heap [] := va_S.rf
  have k0 := hts (.fieldLink RX10 10 "TwoEyes" "scene" "LTwoEyes$Scene;") (List.mem_cons_of_mem _ (inA_1 _ (List.mem_of_getElem? (i := 15) rfl)))
  have inX10 : ∀ w ∈ wsX100, w ∈ uX10_hidden := fun w h => List.mem_cons_of_mem _ (inCX10 w h)
  have k2 := hts (.fieldLink RX10 37 "TwoEyes" "paths" "LTwoEyes$Paths;") (List.mem_cons_of_mem _ (inA_2 _ (List.mem_of_getElem? (i := 3) rfl)))
  have k3 := hts (.fieldLink RX10 130 "TwoEyes$Scene" "width" "I") (List.mem_cons_of_mem _ (inA_14 _ (List.mem_of_getElem? (i := 8) rfl)))
  have inX6 : ∀ w ∈ wsX60, w ∈ uX10_hidden := fun w h => List.mem_cons_of_mem _ (inCX6 w h)
  have hl := lv_entry ([.ref (ad 0), .int a1, .int a2]) (n := 3) (Nat.le_of_ble_eq_true rfl)
  rw [lg_entry_eq]
  generalize (lg_sl ([.ref (ad 0), .int a1, .int a2]) ++ List.replicate (3 - (lg_sl ([.ref (ad 0), .int a1, .int a2])).length) Slot.unset).toArray = ls at hl ⊢
  have hl : lv_has ls 3 [(0, .ref (ad 0)), (1, .int a1), (2, .int a2)] := hl
  refine lv_aload_n hx hb dX10_hidden_0 rfl (lv_at hl 0 rfl) ?_
  refine va_get (D := D) (ci := 10) (v := .ref (ad 1)) (C := RX10) (T := TX10) (N := 11) hx hb hts inX10 hown hK hP 0 (xW_0 cI cZ ad M) rfl 0 (by decide) k0 (fun _ h9 => h9) rfl dX10_hidden_1 ?_
  refine lv_iload_n hx hb dX10_hidden_4 rfl (lv_at hl 1 rfl) ?_
  refine lv_iload_n hx hb dX10_hidden_5 rfl (lv_at hl 2 rfl) ?_
  refine x_callVi (As := [.int a1, .int a2]) (rest := []) ⟨hx, hb, hml, hown, hts⟩ (kX6_hasRow l D cI cZ ad zA zD zR hD M a1 a2 _ h) (cwV 2 hts (gdV uS (inA_12 _ (List.mem_of_getElem? (i := 4) rfl)) vX6_hasRow) rfl rfl rfl (by decide +kernel) ⟨Nat.le_of_ble_eq_true rfl, Nat.le_of_ble_eq_true rfl⟩) (va_recv hK hP (ci := 6) (q0 := 1) rfl (xW_1 cI cZ ad M)) hP hK hZ hN hS hl.1 rfl rfl (Nat.le_of_ble_eq_true rfl) dX10_hidden_6 (fun r6 M6 H locs h hP hS => ?_)
  refine lv_if_ne (tgt := 14) hx hb dX10_hidden_9 (by decide) (fun q9 => ?_) (fun q9 => ?_)
  · have h := h.1 q9
    refine lv_aload_n hx hb dX10_hidden_14 rfl (lv_at hl 0 rfl) ?_
    refine lv_iload_n hx hb dX10_hidden_15 rfl (lv_at hl 2 rfl) ?_
    refine x_callVv (As := [.int a2]) (rest := []) ⟨hx, hb, hml, hown, hts⟩ (kX10_refreshPath l D cI cZ ad zA zD zR hD M6 a2 _ h) (cwV 1 hts (gdV uS (inA_25 _ (List.mem_of_getElem? (i := 6) rfl)) vX10_refreshPath) rfl rfl rfl (by decide +kernel) ⟨Nat.le_of_ble_eq_true rfl, Nat.le_of_ble_eq_true rfl⟩) (va_recv hK hP (ci := 10) (q0 := 0) rfl (xW_0 cI cZ ad M6)) hP hK hZ hN hS hl.1 rfl rfl (Nat.le_of_ble_eq_true rfl) dX10_hidden_16 (fun M16 H locs h hP hS => ?_)
    refine lv_aload_n hx hb dX10_hidden_19 rfl (lv_at hl 0 rfl) ?_
    refine va_get (D := D) (ci := 10) (v := .ref (ad 28)) (C := RX10) (T := TX10) (N := 11) hx hb hts inX10 hown hK hP 0 (xW_0 cI cZ ad M16) rfl 5 (by decide) k2 (fun _ h9 => h9) rfl dX10_hidden_20 ?_
    refine lv_iload_n hx hb dX10_hidden_23 rfl (lv_at hl 2 rfl) ?_
    refine lv_aload_n hx hb dX10_hidden_24 rfl (lv_at hl 0 rfl) ?_
    refine va_get (D := D) (ci := 10) (v := .ref (ad 1)) (C := RX10) (T := TX10) (N := 11) hx hb hts inX10 hown hK hP 0 (xW_0 cI cZ ad M16) rfl 0 (by decide) k0 (fun _ h9 => h9) rfl dX10_hidden_25 ?_
    refine va_get (D := D) (ci := 6) (v := .int (M16 1 0)) (C := RX6) (T := TX6) (N := 5) hx hb hts inX6 hown hK hP 1 (xW_1 cI cZ ad M16) rfl 0 (by decide) k3 (fun _ h9 => h9) rfl dX10_hidden_28 ?_
    refine x_callVi (As := [.int a2, .int (M16 1 0)]) (rest := []) ⟨hx, hb, hml, hown, hts⟩ (kX3_countHidden l D cI cZ ad zA zD zR hD M16 a2 (M16 1 0) _ h) (cwV 2 hts (gdV uS (inA_27 _ (List.mem_of_getElem? (i := 14) rfl)) vX3_countHidden) rfl rfl rfl (by decide +kernel) ⟨Nat.le_of_ble_eq_true rfl, Nat.le_of_ble_eq_true rfl⟩) (va_recv hK hP (ci := 3) (q0 := 28) rfl (xW_28 cI cZ ad M16)) hP hK hZ hN hS hl.1 rfl rfl (Nat.le_of_ble_eq_true rfl) dX10_hidden_31 (fun r31 M31 H locs h hP hS => ?_)
    exact W.iret (v := r31) hx hb hr (fun t ht hW => ⟨⟨r31, M31, rfl, h, xAt_of ht hP⟩, hS.F ht⟩) hS.2.2 dX10_hidden_34
  · have h := h.2 q9
    refine lv_iconst (v := (-1)) hx hb dX10_hidden_12 (by decide) ?_
    exact W.iret (v := (-1)) hx hb hr (fun t ht hW => ⟨⟨(-1), M6, rfl, h, xAt_of ht hP⟩, hS.F ht⟩) hS.2.2 dX10_hidden_13
set_option maxHeartbeats 4000000 in
set_option maxRecDepth 100000 in
theorem kX10_run (l : Launch) (D : va_G) (cI cZ : ClassId) (ad : Nat → Nat) (zA zD zR : Nat) (hD : ∀ M : Mem, va_D (xA ad) (xW cI cZ ad M)) (M : Mem) (a1 a2 a3 a4 : Int32) (Q : Int32 → Mem → Prop) (h : wX10_run M a1 a2 a3 a4 Q) : Met l yX10_run uX10_run ({ frames := 4, cells := 0, slots := 0, locals := 100 }) (va_Pc [.ref (ad 0), .int a1, .int a2, .int a3, .int a4] (xPre D cI cZ ad zA zD zR M)) (va_Qi Q (xAt D cI cZ ad) (xA ad)) 0 0 (xA ad) := by
  refine Met.ofW (cc := cX10_run) (maxL := 5) (ret := (some .int)) (by decide) rfl ?_
  intro p e s m args below meth c s₁ B hml hv
  obtain ⟨rfl, hP, hK, hZ, hN⟩ := hv
  have hx := B.exec
  have hb := B.bytes
  have hr := B.returns
  have hts := atoms_spec (ws := uX10_run) B.pre
  have hown : s.vm.findClass RX10 = some m.cls := findClass_of_methodNamed B.named
  have hlocks := B.notSynchronized
  have hS : va_S (xA ad) s.heap s.heap [] := va_S.rf
  have k0 := hts (.fieldLink RX10 10 "TwoEyes" "scene" "LTwoEyes$Scene;") (List.mem_cons_of_mem _ (inA_1 _ (List.mem_of_getElem? (i := 15) rfl)))
  have inX10 : ∀ w ∈ wsX100, w ∈ uX10_run := fun w h => List.mem_cons_of_mem _ (inCX10 w h)
  have k2 := hts (.fieldLink RX10 44 "TwoEyes" "sums" "LTwoEyes$Sums;") (List.mem_cons_of_mem _ (inA_2 _ (List.mem_of_getElem? (i := 7) rfl)))
  have k3 := hts (.fieldLink RX10 30 "TwoEyes" "costs" "LTwoEyes$Costs;") (List.mem_cons_of_mem _ (inA_1 _ (List.mem_of_getElem? (i := 23) rfl)))
  have k4 := hts (.fieldLink RX10 23 "TwoEyes" "rules" "[I") (List.mem_cons_of_mem _ (inA_1 _ (List.mem_of_getElem? (i := 19) rfl)))
  have k5 := hts (.fieldLink RX10 192 "TwoEyes$Sums" "runs" "[I") (List.mem_cons_of_mem _ (inA_28 _ (List.mem_of_getElem? (i := 2) rfl)))
  have inX9 : ∀ w ∈ wsX90, w ∈ uX10_run := fun w h => List.mem_cons_of_mem _ (inCX9 w h)
  have hl := lv_entry ([.ref (ad 0), .int a1, .int a2, .int a3, .int a4]) (n := 5) (Nat.le_of_ble_eq_true rfl)
  rw [lg_entry_eq]
  generalize (lg_sl ([.ref (ad 0), .int a1, .int a2, .int a3, .int a4]) ++ List.replicate (5 - (lg_sl ([.ref (ad 0), .int a1, .int a2, .int a3, .int a4])).length) Slot.unset).toArray = ls at hl ⊢
  have hl : lv_has ls 5 [(0, .ref (ad 0)), (1, .int a1), (2, .int a2), (3, .int a3), (4, .int a4)] := hl
  refine lv_aload_n hx hb dX10_run_0 rfl (lv_at hl 0 rfl) ?_
  refine va_get (D := D) (ci := 10) (v := .ref (ad 1)) (C := RX10) (T := TX10) (N := 11) hx hb hts inX10 hown hK hP 0 (xW_0 cI cZ ad M) rfl 0 (by decide) k0 (fun _ h9 => h9) rfl dX10_run_1 ?_
  refine lv_iload_n hx hb dX10_run_4 rfl (lv_at hl 1 rfl) ?_
  refine lv_iload_n hx hb dX10_run_5 rfl (lv_at hl 2 rfl) ?_
  refine x_callVi (As := [.int a1, .int a2]) (rest := []) ⟨hx, hb, hml, hown, hts⟩ (kX6_hasSquare l D cI cZ ad zA zD zR hD M a1 a2 _ h) (cwV 2 hts (gdV uS (inA_13 _ (List.mem_of_getElem? (i := 6) rfl)) vX6_hasSquare) rfl rfl rfl (by decide +kernel) ⟨Nat.le_of_ble_eq_true rfl, Nat.le_of_ble_eq_true rfl⟩) (va_recv hK hP (ci := 6) (q0 := 1) rfl (xW_1 cI cZ ad M)) hP hK hZ hN hS hl.1 rfl rfl (Nat.le_of_ble_eq_true rfl) dX10_run_6 (fun r6 M6 H locs h hP hS => ?_)
  refine lv_if_eq (tgt := 32) hx hb dX10_run_9 (by decide) (fun q9 => ?_) (fun q9 => ?_)
  · have h := h.1 q9
    refine lv_iconst (v := (-1)) hx hb dX10_run_32 (by decide) ?_
    exact W.iret (v := (-1)) hx hb hr (fun t ht hW => ⟨⟨(-1), M6, rfl, h, xAt_of ht hP⟩, hS.F ht⟩) hS.2.2 dX10_run_33
  · have h := h.2 q9
    refine lv_aload_n hx hb dX10_run_12 rfl (lv_at hl 0 rfl) ?_
    refine lv_iload_n hx hb dX10_run_13 rfl (lv_at hl 3 rfl) ?_
    refine x_callVi (As := [.int a3]) (rest := []) ⟨hx, hb, hml, hown, hts⟩ (kX10_isDepth l D cI cZ ad zA zD zR hD M6 a3 _ h) (cwV 1 hts (gdV uS (inA_24 _ (List.mem_of_getElem? (i := 12) rfl)) vX10_isDepth) rfl rfl rfl (by decide +kernel) ⟨Nat.le_of_ble_eq_true rfl, Nat.le_of_ble_eq_true rfl⟩) (va_recv hK hP (ci := 10) (q0 := 0) rfl (xW_0 cI cZ ad M6)) hP hK hZ hN hS hl.1 rfl rfl (Nat.le_of_ble_eq_true rfl) dX10_run_14 (fun r14 M14 H locs h hP hS => ?_)
    refine lv_if_eq (tgt := 32) hx hb dX10_run_17 (by decide) (fun q17 => ?_) (fun q17 => ?_)
    · have h := h.1 q17
      refine lv_iconst (v := (-1)) hx hb dX10_run_32 (by decide) ?_
      exact W.iret (v := (-1)) hx hb hr (fun t ht hW => ⟨⟨(-1), M14, rfl, h, xAt_of ht hP⟩, hS.F ht⟩) hS.2.2 dX10_run_33
    · have h := h.2 q17
      refine lv_iload hx hb dX10_run_20 (lv_at hl 4 rfl) ?_
      refine lv_if_lt (tgt := 32) hx hb dX10_run_22 (by decide) (fun q22 => ?_) (fun q22 => ?_)
      · have h := h.1 q22
        refine lv_iconst (v := (-1)) hx hb dX10_run_32 (by decide) ?_
        exact W.iret (v := (-1)) hx hb hr (fun t ht hW => ⟨⟨(-1), M14, rfl, h, xAt_of ht hP⟩, hS.F ht⟩) hS.2.2 dX10_run_33
      · have h := h.2 q22
        refine lv_iload hx hb dX10_run_25 (lv_at hl 4 rfl) ?_
        refine lv_bipush (v := 8) hx hb dX10_run_27 (by decide) ?_
        refine lv_icmp_lt (tgt := 34) hx hb dX10_run_29 (by decide) (fun q29 => ?_) (fun q29 => ?_)
        · have h := h.1 q29
          refine lv_aload_n hx hb dX10_run_34 rfl (lv_at hl 0 rfl) ?_
          refine x_callVv (As := []) (rest := []) ⟨hx, hb, hml, hown, hts⟩ (kX10_refreshCosts l D cI cZ ad zA zD zR hD M14 _ h) (cwV 0 hts (gdV uS (inA_15 _ (List.mem_of_getElem? (i := 0) rfl)) vX10_refreshCosts) rfl rfl rfl (by decide +kernel) ⟨Nat.le_of_ble_eq_true rfl, Nat.le_of_ble_eq_true rfl⟩) (va_recv hK hP (ci := 10) (q0 := 0) rfl (xW_0 cI cZ ad M14)) hP hK hZ hN hS hl.1 rfl rfl (Nat.le_of_ble_eq_true rfl) dX10_run_35 (fun M35 H locs h hP hS => ?_)
          refine lv_aload_n hx hb dX10_run_38 rfl (lv_at hl 0 rfl) ?_
          refine va_get (D := D) (ci := 10) (v := .ref (ad 32)) (C := RX10) (T := TX10) (N := 11) hx hb hts inX10 hown hK hP 0 (xW_0 cI cZ ad M35) rfl 6 (by decide) k2 (fun _ h9 => h9) rfl dX10_run_39 ?_
          refine lv_iload hx hb dX10_run_42 (lv_at hl 4 rfl) ?_
          refine lv_aload_n hx hb dX10_run_44 rfl (lv_at hl 0 rfl) ?_
          refine va_get (D := D) (ci := 10) (v := .ref (ad 1)) (C := RX10) (T := TX10) (N := 11) hx hb hts inX10 hown hK hP 0 (xW_0 cI cZ ad M35) rfl 0 (by decide) k0 (fun _ h9 => h9) rfl dX10_run_45 ?_
          refine lv_aload_n hx hb dX10_run_48 rfl (lv_at hl 0 rfl) ?_
          refine va_get (D := D) (ci := 10) (v := .ref (ad 18)) (C := RX10) (T := TX10) (N := 11) hx hb hts inX10 hown hK hP 0 (xW_0 cI cZ ad M35) rfl 4 (by decide) k3 (fun _ h9 => h9) rfl dX10_run_49 ?_
          refine lv_aload_n hx hb dX10_run_52 rfl (lv_at hl 0 rfl) ?_
          refine va_get (D := D) (ci := 10) (v := .ref (ad 17)) (C := RX10) (T := TX10) (N := 11) hx hb hts inX10 hown hK hP 0 (xW_0 cI cZ ad M35) rfl 3 (by decide) k4 (fun _ h9 => h9) rfl dX10_run_53 ?_
          refine x_callVv (As := [.int a4, .ref (ad 1), .ref (ad 18), .ref (ad 17)]) (rest := []) ⟨hx, hb, hml, hown, hts⟩ (kX9_goAlong l D cI cZ ad zA zD zR hD M35 a4 _ h) (cwV 4 hts (gdV uS (inA_28 _ (List.mem_of_getElem? (i := 3) rfl)) vX9_goAlong) rfl rfl rfl (by decide +kernel) ⟨Nat.le_of_ble_eq_true rfl, Nat.le_of_ble_eq_true rfl⟩) (va_recv hK hP (ci := 9) (q0 := 32) rfl (xW_32 cI cZ ad M35)) hP hK hZ hN hS hl.1 rfl rfl (Nat.le_of_ble_eq_true rfl) dX10_run_56 (fun M56 H locs h hP hS => ?_)
          refine lv_aload_n hx hb dX10_run_59 rfl (lv_at hl 0 rfl) ?_
          refine va_get (D := D) (ci := 10) (v := .ref (ad 32)) (C := RX10) (T := TX10) (N := 11) hx hb hts inX10 hown hK hP 0 (xW_0 cI cZ ad M56) rfl 6 (by decide) k2 (fun _ h9 => h9) rfl dX10_run_60 ?_
          refine va_get (D := D) (ci := 9) (v := .ref (ad 34)) (C := RX9) (T := TX9) (N := 7) hx hb hts inX9 hown hK hP 32 (xW_32 cI cZ ad M56) rfl 1 (by decide) k5 (fun _ h9 => h9) rfl dX10_run_63 ?_
          refine lv_aload_n hx hb dX10_run_66 rfl (lv_at hl 0 rfl) ?_
          refine va_get (D := D) (ci := 10) (v := .ref (ad 1)) (C := RX10) (T := TX10) (N := 11) hx hb hts inX10 hown hK hP 0 (xW_0 cI cZ ad M56) rfl 0 (by decide) k0 (fun _ h9 => h9) rfl dX10_run_67 ?_
          refine lv_iload_n hx hb dX10_run_70 rfl (lv_at hl 1 rfl) ?_
          refine lv_iload_n hx hb dX10_run_71 rfl (lv_at hl 2 rfl) ?_
          refine x_callVi (As := [.int a1, .int a2]) (rest := [.ref (ad 34)]) ⟨hx, hb, hml, hown, hts⟩ (kX6_placeOf l D cI cZ ad zA zD zR hD M56 a1 a2 _ h) (cwV 2 hts (gdV uS (inA_10 _ (List.mem_of_getElem? (i := 14) rfl)) vX6_placeOf) rfl rfl rfl (by decide +kernel) ⟨Nat.le_of_ble_eq_true rfl, Nat.le_of_ble_eq_true rfl⟩) (va_recv hK hP (ci := 6) (q0 := 1) rfl (xW_1 cI cZ ad M56)) hP hK hZ hN hS hl.1 rfl rfl (Nat.le_of_ble_eq_true rfl) dX10_run_72 (fun r72 M72 H locs h hP hS => ?_)
          refine lv_bipush (v := 9) hx hb dX10_run_75 (by decide) ?_
          refine lv_imul hx hb dX10_run_77 ?_
          refine lv_iload_n hx hb dX10_run_78 rfl (lv_at hl 3 rfl) ?_
          refine lv_iadd hx hb dX10_run_79 ?_
          obtain ⟨hi80, h⟩ := h
          refine va_iald hx hb hK hP 34 0 (xW_34 cI cZ ad M72) rfl hi80 dX10_run_80 ?_
          exact W.iret (v := (M72 34 ((r72 * 9) + a3).toNatClampNeg)) hx hb hr (fun t ht hW => ⟨⟨(M72 34 ((r72 * 9) + a3).toNatClampNeg), M72, rfl, h, xAt_of ht hP⟩, hS.F ht⟩) hS.2.2 dX10_run_81
        · have h := h.2 q29
          refine lv_iconst (v := (-1)) hx hb dX10_run_32 (by decide) ?_
          exact W.iret (v := (-1)) hx hb hr (fun t ht hW => ⟨⟨(-1), M14, rfl, h, xAt_of ht hP⟩, hS.F ht⟩) hS.2.2 dX10_run_33
set_option maxHeartbeats 4000000 in
set_option maxRecDepth 100000 in
theorem kX10_sum (l : Launch) (D : va_G) (cI cZ : ClassId) (ad : Nat → Nat) (zA zD zR : Nat) (hD : ∀ M : Mem, va_D (xA ad) (xW cI cZ ad M)) (M : Mem) (a1 a2 a3 : Int32) (Q : Int32 → Mem → Prop) (h : wX10_sum M a1 a2 a3 Q) : Met l yX10_sum uX10_sum ({ frames := 5, cells := 0, slots := 0, locals := 129 }) (va_Pc [.ref (ad 0), .int a1, .int a2, .int a3] (xPre D cI cZ ad zA zD zR M)) (va_Qi Q (xAt D cI cZ ad) (xA ad)) 0 0 (xA ad) := by
  refine Met.ofW (cc := cX10_sum) (maxL := 4) (ret := (some .int)) (by decide) rfl ?_
  intro p e s m args below meth c s₁ B hml hv
  obtain ⟨rfl, hP, hK, hZ, hN⟩ := hv
  have hx := B.exec
  have hb := B.bytes
  have hr := B.returns
  have hts := atoms_spec (ws := uX10_sum) B.pre
  have hown : s.vm.findClass RX10 = some m.cls := findClass_of_methodNamed B.named
  have hlocks := B.notSynchronized
  have hS : va_S (xA ad) s.heap s.heap [] := va_S.rf
  have k0 := hts (.fieldLink RX10 10 "TwoEyes" "scene" "LTwoEyes$Scene;") (List.mem_cons_of_mem _ (inA_1 _ (List.mem_of_getElem? (i := 15) rfl)))
  have inX10 : ∀ w ∈ wsX100, w ∈ uX10_sum := fun w h => List.mem_cons_of_mem _ (inCX10 w h)
  have k2 := hts (.fieldLink RX10 44 "TwoEyes" "sums" "LTwoEyes$Sums;") (List.mem_cons_of_mem _ (inA_2 _ (List.mem_of_getElem? (i := 7) rfl)))
  have k3 := hts (.fieldLink RX10 198 "TwoEyes$Sums" "totals" "[I") (List.mem_cons_of_mem _ (inA_28 _ (List.mem_of_getElem? (i := 12) rfl)))
  have inX9 : ∀ w ∈ wsX90, w ∈ uX10_sum := fun w h => List.mem_cons_of_mem _ (inCX9 w h)
  have hl := lv_entry ([.ref (ad 0), .int a1, .int a2, .int a3]) (n := 4) (Nat.le_of_ble_eq_true rfl)
  rw [lg_entry_eq]
  generalize (lg_sl ([.ref (ad 0), .int a1, .int a2, .int a3]) ++ List.replicate (4 - (lg_sl ([.ref (ad 0), .int a1, .int a2, .int a3])).length) Slot.unset).toArray = ls at hl ⊢
  have hl : lv_has ls 4 [(0, .ref (ad 0)), (1, .int a1), (2, .int a2), (3, .int a3)] := hl
  refine lv_aload_n hx hb dX10_sum_0 rfl (lv_at hl 0 rfl) ?_
  refine va_get (D := D) (ci := 10) (v := .ref (ad 1)) (C := RX10) (T := TX10) (N := 11) hx hb hts inX10 hown hK hP 0 (xW_0 cI cZ ad M) rfl 0 (by decide) k0 (fun _ h9 => h9) rfl dX10_sum_1 ?_
  refine lv_iload_n hx hb dX10_sum_4 rfl (lv_at hl 1 rfl) ?_
  refine lv_iload_n hx hb dX10_sum_5 rfl (lv_at hl 2 rfl) ?_
  refine x_callVi (As := [.int a1, .int a2]) (rest := []) ⟨hx, hb, hml, hown, hts⟩ (kX6_hasSquare l D cI cZ ad zA zD zR hD M a1 a2 _ h) (cwV 2 hts (gdV uS (inA_13 _ (List.mem_of_getElem? (i := 6) rfl)) vX6_hasSquare) rfl rfl rfl (by decide +kernel) ⟨Nat.le_of_ble_eq_true rfl, Nat.le_of_ble_eq_true rfl⟩) (va_recv hK hP (ci := 6) (q0 := 1) rfl (xW_1 cI cZ ad M)) hP hK hZ hN hS hl.1 rfl rfl (Nat.le_of_ble_eq_true rfl) dX10_sum_6 (fun r6 M6 H locs h hP hS => ?_)
  refine lv_if_eq (tgt := 20) hx hb dX10_sum_9 (by decide) (fun q9 => ?_) (fun q9 => ?_)
  · have h := h.1 q9
    refine lv_iconst (v := (-1)) hx hb dX10_sum_20 (by decide) ?_
    exact W.iret (v := (-1)) hx hb hr (fun t ht hW => ⟨⟨(-1), M6, rfl, h, xAt_of ht hP⟩, hS.F ht⟩) hS.2.2 dX10_sum_21
  · have h := h.2 q9
    refine lv_aload_n hx hb dX10_sum_12 rfl (lv_at hl 0 rfl) ?_
    refine lv_iload_n hx hb dX10_sum_13 rfl (lv_at hl 3 rfl) ?_
    refine x_callVi (As := [.int a3]) (rest := []) ⟨hx, hb, hml, hown, hts⟩ (kX10_isDepth l D cI cZ ad zA zD zR hD M6 a3 _ h) (cwV 1 hts (gdV uS (inA_24 _ (List.mem_of_getElem? (i := 12) rfl)) vX10_isDepth) rfl rfl rfl (by decide +kernel) ⟨Nat.le_of_ble_eq_true rfl, Nat.le_of_ble_eq_true rfl⟩) (va_recv hK hP (ci := 10) (q0 := 0) rfl (xW_0 cI cZ ad M6)) hP hK hZ hN hS hl.1 rfl rfl (Nat.le_of_ble_eq_true rfl) dX10_sum_14 (fun r14 M14 H locs h hP hS => ?_)
    refine lv_if_ne (tgt := 22) hx hb dX10_sum_17 (by decide) (fun q17 => ?_) (fun q17 => ?_)
    · have h := h.1 q17
      refine lv_aload_n hx hb dX10_sum_22 rfl (lv_at hl 0 rfl) ?_
      refine x_callVv (As := []) (rest := []) ⟨hx, hb, hml, hown, hts⟩ (kX10_refreshSums l D cI cZ ad zA zD zR hD M14 _ h) (cwV 0 hts (gdV uS (inA_14 _ (List.mem_of_getElem? (i := 19) rfl)) vX10_refreshSums) rfl rfl rfl (by decide +kernel) ⟨Nat.le_of_ble_eq_true rfl, Nat.le_of_ble_eq_true rfl⟩) (va_recv hK hP (ci := 10) (q0 := 0) rfl (xW_0 cI cZ ad M14)) hP hK hZ hN hS hl.1 rfl rfl (Nat.le_of_ble_eq_true rfl) dX10_sum_23 (fun M23 H locs h hP hS => ?_)
      refine lv_aload_n hx hb dX10_sum_26 rfl (lv_at hl 0 rfl) ?_
      refine va_get (D := D) (ci := 10) (v := .ref (ad 32)) (C := RX10) (T := TX10) (N := 11) hx hb hts inX10 hown hK hP 0 (xW_0 cI cZ ad M23) rfl 6 (by decide) k2 (fun _ h9 => h9) rfl dX10_sum_27 ?_
      refine va_get (D := D) (ci := 9) (v := .ref (ad 36)) (C := RX9) (T := TX9) (N := 7) hx hb hts inX9 hown hK hP 32 (xW_32 cI cZ ad M23) rfl 3 (by decide) k3 (fun _ h9 => h9) rfl dX10_sum_30 ?_
      refine lv_aload_n hx hb dX10_sum_33 rfl (lv_at hl 0 rfl) ?_
      refine va_get (D := D) (ci := 10) (v := .ref (ad 1)) (C := RX10) (T := TX10) (N := 11) hx hb hts inX10 hown hK hP 0 (xW_0 cI cZ ad M23) rfl 0 (by decide) k0 (fun _ h9 => h9) rfl dX10_sum_34 ?_
      refine lv_iload_n hx hb dX10_sum_37 rfl (lv_at hl 1 rfl) ?_
      refine lv_iload_n hx hb dX10_sum_38 rfl (lv_at hl 2 rfl) ?_
      refine x_callVi (As := [.int a1, .int a2]) (rest := [.ref (ad 36)]) ⟨hx, hb, hml, hown, hts⟩ (kX6_placeOf l D cI cZ ad zA zD zR hD M23 a1 a2 _ h) (cwV 2 hts (gdV uS (inA_10 _ (List.mem_of_getElem? (i := 14) rfl)) vX6_placeOf) rfl rfl rfl (by decide +kernel) ⟨Nat.le_of_ble_eq_true rfl, Nat.le_of_ble_eq_true rfl⟩) (va_recv hK hP (ci := 6) (q0 := 1) rfl (xW_1 cI cZ ad M23)) hP hK hZ hN hS hl.1 rfl rfl (Nat.le_of_ble_eq_true rfl) dX10_sum_39 (fun r39 M39 H locs h hP hS => ?_)
      refine lv_bipush (v := 9) hx hb dX10_sum_42 (by decide) ?_
      refine lv_imul hx hb dX10_sum_44 ?_
      refine lv_iload_n hx hb dX10_sum_45 rfl (lv_at hl 3 rfl) ?_
      refine lv_iadd hx hb dX10_sum_46 ?_
      obtain ⟨hi47, h⟩ := h
      refine va_iald hx hb hK hP 36 0 (xW_36 cI cZ ad M39) rfl hi47 dX10_sum_47 ?_
      exact W.iret (v := (M39 36 ((r39 * 9) + a3).toNatClampNeg)) hx hb hr (fun t ht hW => ⟨⟨(M39 36 ((r39 * 9) + a3).toNatClampNeg), M39, rfl, h, xAt_of ht hP⟩, hS.F ht⟩) hS.2.2 dX10_sum_48
    · have h := h.2 q17
      refine lv_iconst (v := (-1)) hx hb dX10_sum_20 (by decide) ?_
      exact W.iret (v := (-1)) hx hb hr (fun t ht hW => ⟨⟨(-1), M14, rfl, h, xAt_of ht hP⟩, hS.F ht⟩) hS.2.2 dX10_sum_21
set_option maxHeartbeats 4000000 in
set_option maxRecDepth 100000 in
theorem kX10_depth (l : Launch) (D : va_G) (cI cZ : ClassId) (ad : Nat → Nat) (zA zD zR : Nat) (hD : ∀ M : Mem, va_D (xA ad) (xW cI cZ ad M)) (M : Mem) (a1 a2 a3 : Int32) (Q : Int32 → Mem → Prop) (h : wX10_depth M a1 a2 a3 Q) : Met l yX10_depth uX10_depth ({ frames := 5, cells := 0, slots := 0, locals := 129 }) (va_Pc [.ref (ad 0), .int a1, .int a2, .int a3] (xPre D cI cZ ad zA zD zR M)) (va_Qi Q (xAt D cI cZ ad) (xA ad)) 0 0 (xA ad) := by
  refine Met.ofW (cc := cX10_depth) (maxL := 5) (ret := (some .int)) (by decide) rfl ?_
  intro p e s m args below meth c s₁ B hml hv
  obtain ⟨rfl, hP, hK, hZ, hN⟩ := hv
  have hx := B.exec
  have hb := B.bytes
  have hr := B.returns
  have hts := atoms_spec (ws := uX10_depth) B.pre
  have hown : s.vm.findClass RX10 = some m.cls := findClass_of_methodNamed B.named
  have hlocks := B.notSynchronized
  have hS : va_S (xA ad) s.heap s.heap [] := va_S.rf
  have k0 := hts (.fieldLink RX10 10 "TwoEyes" "scene" "LTwoEyes$Scene;") (List.mem_cons_of_mem _ (inA_1 _ (List.mem_of_getElem? (i := 15) rfl)))
  have inX10 : ∀ w ∈ wsX100, w ∈ uX10_depth := fun w h => List.mem_cons_of_mem _ (inCX10 w h)
  have k2 := hts (.fieldLink RX10 44 "TwoEyes" "sums" "LTwoEyes$Sums;") (List.mem_cons_of_mem _ (inA_2 _ (List.mem_of_getElem? (i := 7) rfl)))
  have k3 := hts (.fieldLink RX10 23 "TwoEyes" "rules" "[I") (List.mem_cons_of_mem _ (inA_1 _ (List.mem_of_getElem? (i := 19) rfl)))
  have k4 := hts (.fieldLink RX10 130 "TwoEyes$Scene" "width" "I") (List.mem_cons_of_mem _ (inA_14 _ (List.mem_of_getElem? (i := 8) rfl)))
  have inX6 : ∀ w ∈ wsX60, w ∈ uX10_depth := fun w h => List.mem_cons_of_mem _ (inCX6 w h)
  have k6 := hts (.methodLink RX10 204 Lib.Math.min.name) (List.mem_cons_of_mem _ (inA_28 _ (List.mem_of_getElem? (i := 21) rfl)))
  have k7 := hts (.static Lib.Math.min.name) (List.mem_cons_of_mem _ (inA_17 _ (List.mem_of_getElem? (i := 18) rfl)))
  have k8 := hts (.initialized "java/lang/Math") (List.mem_cons_of_mem _ (inA_17 _ (List.mem_of_getElem? (i := 19) rfl)))
  have k9 := hts (.code Lib.Math.min.name Lib.Math.min.code 2 (some .int)) (List.mem_cons_of_mem _ (inA_17 _ (List.mem_of_getElem? (i := 20) rfl)))
  have hl := lv_entry ([.ref (ad 0), .int a1, .int a2, .int a3]) (n := 5) (Nat.le_of_ble_eq_true rfl)
  rw [lg_entry_eq]
  generalize (lg_sl ([.ref (ad 0), .int a1, .int a2, .int a3]) ++ List.replicate (5 - (lg_sl ([.ref (ad 0), .int a1, .int a2, .int a3])).length) Slot.unset).toArray = ls at hl ⊢
  have hl : lv_has ls 5 [(0, .ref (ad 0)), (1, .int a1), (2, .int a2), (3, .int a3)] := hl
  refine lv_aload_n hx hb dX10_depth_0 rfl (lv_at hl 0 rfl) ?_
  refine va_get (D := D) (ci := 10) (v := .ref (ad 1)) (C := RX10) (T := TX10) (N := 11) hx hb hts inX10 hown hK hP 0 (xW_0 cI cZ ad M) rfl 0 (by decide) k0 (fun _ h9 => h9) rfl dX10_depth_1 ?_
  refine lv_iload_n hx hb dX10_depth_4 rfl (lv_at hl 1 rfl) ?_
  refine x_callVi (As := [.int a1]) (rest := []) ⟨hx, hb, hml, hown, hts⟩ (kX6_hasPicture l D cI cZ ad zA zD zR hD M a1 _ h) (cwV 1 hts (gdV uS (inA_13 _ (List.mem_of_getElem? (i := 5) rfl)) vX6_hasPicture) rfl rfl rfl (by decide +kernel) ⟨Nat.le_of_ble_eq_true rfl, Nat.le_of_ble_eq_true rfl⟩) (va_recv hK hP (ci := 6) (q0 := 1) rfl (xW_1 cI cZ ad M)) hP hK hZ hN hS hl.1 rfl rfl (Nat.le_of_ble_eq_true rfl) dX10_depth_5 (fun r5 M5 H locs h hP hS => ?_)
  refine lv_if_eq (tgt := 23) hx hb dX10_depth_8 (by decide) (fun q8 => ?_) (fun q8 => ?_)
  · have h := h.1 q8
    refine lv_iconst (v := (-1)) hx hb dX10_depth_23 (by decide) ?_
    exact W.iret (v := (-1)) hx hb hr (fun t ht hW => ⟨⟨(-1), M5, rfl, h, xAt_of ht hP⟩, hS.F ht⟩) hS.2.2 dX10_depth_24
  · have h := h.2 q8
    refine lv_aload_n hx hb dX10_depth_11 rfl (lv_at hl 0 rfl) ?_
    refine va_get (D := D) (ci := 10) (v := .ref (ad 1)) (C := RX10) (T := TX10) (N := 11) hx hb hts inX10 hown hK hP 0 (xW_0 cI cZ ad M5) rfl 0 (by decide) k0 (fun _ h9 => h9) rfl dX10_depth_12 ?_
    refine lv_iload_n hx hb dX10_depth_15 rfl (lv_at hl 2 rfl) ?_
    refine lv_iload_n hx hb dX10_depth_16 rfl (lv_at hl 3 rfl) ?_
    refine x_callVi (As := [.int a2, .int a3]) (rest := []) ⟨hx, hb, hml, hown, hts⟩ (kX6_hasSquare l D cI cZ ad zA zD zR hD M5 a2 a3 _ h) (cwV 2 hts (gdV uS (inA_13 _ (List.mem_of_getElem? (i := 6) rfl)) vX6_hasSquare) rfl rfl rfl (by decide +kernel) ⟨Nat.le_of_ble_eq_true rfl, Nat.le_of_ble_eq_true rfl⟩) (va_recv hK hP (ci := 6) (q0 := 1) rfl (xW_1 cI cZ ad M5)) hP hK hZ hN hS hl.1 rfl rfl (Nat.le_of_ble_eq_true rfl) dX10_depth_17 (fun r17 M17 H locs h hP hS => ?_)
    refine lv_if_ne (tgt := 25) hx hb dX10_depth_20 (by decide) (fun q20 => ?_) (fun q20 => ?_)
    · have h := h.1 q20
      refine lv_aload_n hx hb dX10_depth_25 rfl (lv_at hl 0 rfl) ?_
      refine x_callVv (As := []) (rest := []) ⟨hx, hb, hml, hown, hts⟩ (kX10_refreshSums l D cI cZ ad zA zD zR hD M17 _ h) (cwV 0 hts (gdV uS (inA_14 _ (List.mem_of_getElem? (i := 19) rfl)) vX10_refreshSums) rfl rfl rfl (by decide +kernel) ⟨Nat.le_of_ble_eq_true rfl, Nat.le_of_ble_eq_true rfl⟩) (va_recv hK hP (ci := 10) (q0 := 0) rfl (xW_0 cI cZ ad M17)) hP hK hZ hN hS hl.1 rfl rfl (Nat.le_of_ble_eq_true rfl) dX10_depth_26 (fun M26 H locs h hP hS => ?_)
      refine lv_aload_n hx hb dX10_depth_29 rfl (lv_at hl 0 rfl) ?_
      refine va_get (D := D) (ci := 10) (v := .ref (ad 1)) (C := RX10) (T := TX10) (N := 11) hx hb hts inX10 hown hK hP 0 (xW_0 cI cZ ad M26) rfl 0 (by decide) k0 (fun _ h9 => h9) rfl dX10_depth_30 ?_
      refine lv_iload_n hx hb dX10_depth_33 rfl (lv_at hl 2 rfl) ?_
      refine lv_iload_n hx hb dX10_depth_34 rfl (lv_at hl 3 rfl) ?_
      refine x_callVi (As := [.int a2, .int a3]) (rest := []) ⟨hx, hb, hml, hown, hts⟩ (kX6_placeOf l D cI cZ ad zA zD zR hD M26 a2 a3 _ h) (cwV 2 hts (gdV uS (inA_10 _ (List.mem_of_getElem? (i := 14) rfl)) vX6_placeOf) rfl rfl rfl (by decide +kernel) ⟨Nat.le_of_ble_eq_true rfl, Nat.le_of_ble_eq_true rfl⟩) (va_recv hK hP (ci := 6) (q0 := 1) rfl (xW_1 cI cZ ad M26)) hP hK hZ hN hS hl.1 rfl rfl (Nat.le_of_ble_eq_true rfl) dX10_depth_35 (fun r35 M35 H locs h hP hS => ?_)
      refine lv_istore (lv' := [(4, .int r35), (0, .ref (ad 0)), (1, .int a1), (2, .int a2), (3, .int a3)]) hx hb dX10_depth_38 hl (by decide) rfl (fun ls hl => ?_)
      refine lv_iload_n hx hb dX10_depth_40 rfl (lv_at hl 2 rfl) ?_
      refine lv_if_ne (tgt := 62) hx hb dX10_depth_41 (by decide) (fun q41 => ?_) (fun q41 => ?_)
      · have h := h.1 q41
        refine lv_aload_n hx hb dX10_depth_62 rfl (lv_at hl 1 rfl) ?_
        refine va_get (D := D) (ci := 10) (v := .ref (ad 32)) (C := RX10) (T := TX10) (N := 11) hx hb hts inX10 hown hK hP 0 (xW_0 cI cZ ad M35) rfl 6 (by decide) k2 (fun _ h9 => h9) rfl dX10_depth_63 ?_
        refine lv_iload hx hb dX10_depth_66 (lv_at hl 0 rfl) ?_
        refine lv_aload_n hx hb dX10_depth_68 rfl (lv_at hl 1 rfl) ?_
        refine va_get (D := D) (ci := 10) (v := .ref (ad 17)) (C := RX10) (T := TX10) (N := 11) hx hb hts inX10 hown hK hP 0 (xW_0 cI cZ ad M35) rfl 3 (by decide) k3 (fun _ h9 => h9) rfl dX10_depth_69 ?_
        refine lv_iconst (v := 0) hx hb dX10_depth_72 (by decide) ?_
        obtain ⟨hi73, h⟩ := h
        refine va_iald hx hb hK hP 17 0 (xW_17 cI cZ ad M35) rfl hi73 dX10_depth_73 ?_
        refine lv_aload_n hx hb dX10_depth_74 rfl (lv_at hl 1 rfl) ?_
        refine va_get (D := D) (ci := 10) (v := .ref (ad 1)) (C := RX10) (T := TX10) (N := 11) hx hb hts inX10 hown hK hP 0 (xW_0 cI cZ ad M35) rfl 0 (by decide) k0 (fun _ h9 => h9) rfl dX10_depth_75 ?_
        refine va_get (D := D) (ci := 6) (v := .int (M35 1 0)) (C := RX6) (T := TX6) (N := 5) hx hb hts inX6 hown hK hP 1 (xW_1 cI cZ ad M35) rfl 0 (by decide) k4 (fun _ h9 => h9) rfl dX10_depth_78 ?_
        refine lv_iconst (v := 1) hx hb dX10_depth_81 (by decide) ?_
        refine lv_isub hx hb dX10_depth_82 ?_
        refine lv_iload_n hx hb dX10_depth_83 rfl (lv_at hl 3 rfl) ?_
        refine lv_isub hx hb dX10_depth_84 ?_
        refine va_mmin hx hb (hml.trans hl.1.symm) hown k6 k7 k8 k9 (Nat.le_of_ble_eq_true rfl) (Nat.le_of_ble_eq_true rfl) (Nat.zero_le _) (Nat.zero_le _) dX10_depth_85 ?_
        refine lv_topi (fun v85 ev85 => ?_)
        have h := h v85 ev85
        refine x_callVi (As := [.int r35, .int v85]) (rest := []) ⟨hx, hb, hml, hown, hts⟩ (kX9_rightDepth l D cI cZ ad zA zD zR hD M35 r35 v85 _ h) (cwV 2 hts (gdV uS (inA_28 _ (List.mem_of_getElem? (i := 23) rfl)) vX9_rightDepth) rfl rfl rfl (by decide +kernel) ⟨Nat.le_of_ble_eq_true rfl, Nat.le_of_ble_eq_true rfl⟩) (va_recv hK hP (ci := 9) (q0 := 32) rfl (xW_32 cI cZ ad M35)) hP hK hZ hN hS hl.1 rfl rfl (Nat.le_of_ble_eq_true rfl) dX10_depth_88 (fun r88 M88 H locs h hP hS => ?_)
        exact W.iret (v := r88) hx hb hr (fun t ht hW => ⟨⟨r88, M88, rfl, h, xAt_of ht hP⟩, hS.F ht⟩) hS.2.2 dX10_depth_91
      · have h := h.2 q41
        refine lv_aload_n hx hb dX10_depth_44 rfl (lv_at hl 1 rfl) ?_
        refine va_get (D := D) (ci := 10) (v := .ref (ad 32)) (C := RX10) (T := TX10) (N := 11) hx hb hts inX10 hown hK hP 0 (xW_0 cI cZ ad M35) rfl 6 (by decide) k2 (fun _ h9 => h9) rfl dX10_depth_45 ?_
        refine lv_iload hx hb dX10_depth_48 (lv_at hl 0 rfl) ?_
        refine lv_aload_n hx hb dX10_depth_50 rfl (lv_at hl 1 rfl) ?_
        refine va_get (D := D) (ci := 10) (v := .ref (ad 17)) (C := RX10) (T := TX10) (N := 11) hx hb hts inX10 hown hK hP 0 (xW_0 cI cZ ad M35) rfl 3 (by decide) k3 (fun _ h9 => h9) rfl dX10_depth_51 ?_
        refine lv_iconst (v := 0) hx hb dX10_depth_54 (by decide) ?_
        obtain ⟨hi55, h⟩ := h
        refine va_iald hx hb hK hP 17 0 (xW_17 cI cZ ad M35) rfl hi55 dX10_depth_55 ?_
        refine x_callVi (As := [.int r35, .int (M35 17 (0 : Int32).toNatClampNeg)]) (rest := []) ⟨hx, hb, hml, hown, hts⟩ (kX9_leftDepth l D cI cZ ad zA zD zR hD M35 r35 (M35 17 (0 : Int32).toNatClampNeg) _ h) (cwV 2 hts (gdV uS (inA_28 _ (List.mem_of_getElem? (i := 22) rfl)) vX9_leftDepth) rfl rfl rfl (by decide +kernel) ⟨Nat.le_of_ble_eq_true rfl, Nat.le_of_ble_eq_true rfl⟩) (va_recv hK hP (ci := 9) (q0 := 32) rfl (xW_32 cI cZ ad M35)) hP hK hZ hN hS hl.1 rfl rfl (Nat.le_of_ble_eq_true rfl) dX10_depth_56 (fun r56 M56 H locs h hP hS => ?_)
        refine lv_goto (tgt := 91) hx hb dX10_depth_59 (by decide) ?_
        exact W.iret (v := r56) hx hb hr (fun t ht hW => ⟨⟨r56, M56, rfl, h, xAt_of ht hP⟩, hS.F ht⟩) hS.2.2 dX10_depth_91
    · have h := h.2 q20
      refine lv_iconst (v := (-1)) hx hb dX10_depth_23 (by decide) ?_
      exact W.iret (v := (-1)) hx hb hr (fun t ht hW => ⟨⟨(-1), M17, rfl, h, xAt_of ht hP⟩, hS.F ht⟩) hS.2.2 dX10_depth_24
set_option maxHeartbeats 4000000 in
set_option maxRecDepth 100000 in
theorem kX10_agreed (l : Launch) (D : va_G) (cI cZ : ClassId) (ad : Nat → Nat) (zA zD zR : Nat) (hD : ∀ M : Mem, va_D (xA ad) (xW cI cZ ad M)) (M : Mem) (a1 a2 : Int32) (Q : Int32 → Mem → Prop) (h : wX10_agreed M a1 a2 Q) : Met l yX10_agreed uX10_agreed ({ frames := 6, cells := 0, slots := 0, locals := 149 }) (va_Pc [.ref (ad 0), .int a1, .int a2] (xPre D cI cZ ad zA zD zR M)) (va_Qi Q (xAt D cI cZ ad) (xA ad)) 0 0 (xA ad) := by
  refine Met.ofW (cc := cX10_agreed) (maxL := 3) (ret := (some .int)) (by decide) rfl ?_
  intro p e s m args below meth c s₁ B hml hv
  obtain ⟨rfl, hP, hK, hZ, hN⟩ := hv
  have hx := B.exec
  have hb := B.bytes
  have hr := B.returns
  have hts := atoms_spec (ws := uX10_agreed) B.pre
  have hown : s.vm.findClass RX10 = some m.cls := findClass_of_methodNamed B.named
  have hlocks := B.notSynchronized
  have hS : va_S (xA ad) s.heap s.heap [] := va_S.rf
  have k0 := hts (.fieldLink RX10 10 "TwoEyes" "scene" "LTwoEyes$Scene;") (List.mem_cons_of_mem _ (inA_1 _ (List.mem_of_getElem? (i := 15) rfl)))
  have inX10 : ∀ w ∈ wsX100, w ∈ uX10_agreed := fun w h => List.mem_cons_of_mem _ (inCX10 w h)
  have k2 := hts (.fieldLink RX10 51 "TwoEyes" "depths" "LTwoEyes$Depths;") (List.mem_cons_of_mem _ (inA_2 _ (List.mem_of_getElem? (i := 11) rfl)))
  have k3 := hts (.fieldLink RX10 212 "TwoEyes$Depths" "told" "[I") (List.mem_cons_of_mem _ (inA_29 _ (List.mem_of_getElem? (i := 8) rfl)))
  have inX2 : ∀ w ∈ wsX20, w ∈ uX10_agreed := fun w h => List.mem_cons_of_mem _ (inCX2 w h)
  have hl := lv_entry ([.ref (ad 0), .int a1, .int a2]) (n := 3) (Nat.le_of_ble_eq_true rfl)
  rw [lg_entry_eq]
  generalize (lg_sl ([.ref (ad 0), .int a1, .int a2]) ++ List.replicate (3 - (lg_sl ([.ref (ad 0), .int a1, .int a2])).length) Slot.unset).toArray = ls at hl ⊢
  have hl : lv_has ls 3 [(0, .ref (ad 0)), (1, .int a1), (2, .int a2)] := hl
  refine lv_aload_n hx hb dX10_agreed_0 rfl (lv_at hl 0 rfl) ?_
  refine va_get (D := D) (ci := 10) (v := .ref (ad 1)) (C := RX10) (T := TX10) (N := 11) hx hb hts inX10 hown hK hP 0 (xW_0 cI cZ ad M) rfl 0 (by decide) k0 (fun _ h9 => h9) rfl dX10_agreed_1 ?_
  refine lv_iload_n hx hb dX10_agreed_4 rfl (lv_at hl 1 rfl) ?_
  refine lv_iload_n hx hb dX10_agreed_5 rfl (lv_at hl 2 rfl) ?_
  refine x_callVi (As := [.int a1, .int a2]) (rest := []) ⟨hx, hb, hml, hown, hts⟩ (kX6_hasSquare l D cI cZ ad zA zD zR hD M a1 a2 _ h) (cwV 2 hts (gdV uS (inA_13 _ (List.mem_of_getElem? (i := 6) rfl)) vX6_hasSquare) rfl rfl rfl (by decide +kernel) ⟨Nat.le_of_ble_eq_true rfl, Nat.le_of_ble_eq_true rfl⟩) (va_recv hK hP (ci := 6) (q0 := 1) rfl (xW_1 cI cZ ad M)) hP hK hZ hN hS hl.1 rfl rfl (Nat.le_of_ble_eq_true rfl) dX10_agreed_6 (fun r6 M6 H locs h hP hS => ?_)
  refine lv_if_ne (tgt := 14) hx hb dX10_agreed_9 (by decide) (fun q9 => ?_) (fun q9 => ?_)
  · have h := h.1 q9
    refine lv_aload_n hx hb dX10_agreed_14 rfl (lv_at hl 0 rfl) ?_
    refine x_callVv (As := []) (rest := []) ⟨hx, hb, hml, hown, hts⟩ (kX10_refreshDepths l D cI cZ ad zA zD zR hD M6 _ h) (cwV 0 hts (gdV uS (inA_14 _ (List.mem_of_getElem? (i := 15) rfl)) vX10_refreshDepths) rfl rfl rfl (by decide +kernel) ⟨Nat.le_of_ble_eq_true rfl, Nat.le_of_ble_eq_true rfl⟩) (va_recv hK hP (ci := 10) (q0 := 0) rfl (xW_0 cI cZ ad M6)) hP hK hZ hN hS hl.1 rfl rfl (Nat.le_of_ble_eq_true rfl) dX10_agreed_15 (fun M15 H locs h hP hS => ?_)
    refine lv_aload_n hx hb dX10_agreed_18 rfl (lv_at hl 0 rfl) ?_
    refine va_get (D := D) (ci := 10) (v := .ref (ad 37)) (C := RX10) (T := TX10) (N := 11) hx hb hts inX10 hown hK hP 0 (xW_0 cI cZ ad M15) rfl 7 (by decide) k2 (fun _ h9 => h9) rfl dX10_agreed_19 ?_
    refine va_get (D := D) (ci := 2) (v := .ref (ad 38)) (C := RX2) (T := TX2) (N := 2) hx hb hts inX2 hown hK hP 37 (xW_37 cI cZ ad M15) rfl 0 (by decide) k3 (fun _ h9 => h9) rfl dX10_agreed_22 ?_
    refine lv_aload_n hx hb dX10_agreed_25 rfl (lv_at hl 0 rfl) ?_
    refine va_get (D := D) (ci := 10) (v := .ref (ad 1)) (C := RX10) (T := TX10) (N := 11) hx hb hts inX10 hown hK hP 0 (xW_0 cI cZ ad M15) rfl 0 (by decide) k0 (fun _ h9 => h9) rfl dX10_agreed_26 ?_
    refine lv_iload_n hx hb dX10_agreed_29 rfl (lv_at hl 1 rfl) ?_
    refine lv_iload_n hx hb dX10_agreed_30 rfl (lv_at hl 2 rfl) ?_
    refine x_callVi (As := [.int a1, .int a2]) (rest := [.ref (ad 38)]) ⟨hx, hb, hml, hown, hts⟩ (kX6_placeOf l D cI cZ ad zA zD zR hD M15 a1 a2 _ h) (cwV 2 hts (gdV uS (inA_10 _ (List.mem_of_getElem? (i := 14) rfl)) vX6_placeOf) rfl rfl rfl (by decide +kernel) ⟨Nat.le_of_ble_eq_true rfl, Nat.le_of_ble_eq_true rfl⟩) (va_recv hK hP (ci := 6) (q0 := 1) rfl (xW_1 cI cZ ad M15)) hP hK hZ hN hS hl.1 rfl rfl (Nat.le_of_ble_eq_true rfl) dX10_agreed_31 (fun r31 M31 H locs h hP hS => ?_)
    obtain ⟨hi34, h⟩ := h
    refine va_iald hx hb hK hP 38 0 (xW_38 cI cZ ad M31) rfl hi34 dX10_agreed_34 ?_
    exact W.iret (v := (M31 38 (r31).toNatClampNeg)) hx hb hr (fun t ht hW => ⟨⟨(M31 38 (r31).toNatClampNeg), M31, rfl, h, xAt_of ht hP⟩, hS.F ht⟩) hS.2.2 dX10_agreed_35
  · have h := h.2 q9
    refine lv_iconst (v := (-1)) hx hb dX10_agreed_12 (by decide) ?_
    exact W.iret (v := (-1)) hx hb hr (fun t ht hW => ⟨⟨(-1), M6, rfl, h, xAt_of ht hP⟩, hS.F ht⟩) hS.2.2 dX10_agreed_13
set_option maxHeartbeats 4000000 in
set_option maxRecDepth 100000 in
theorem kX10_segment (l : Launch) (D : va_G) (cI cZ : ClassId) (ad : Nat → Nat) (zA zD zR : Nat) (hD : ∀ M : Mem, va_D (xA ad) (xW cI cZ ad M)) (M : Mem) (a1 a2 : Int32) (Q : Int32 → Mem → Prop) (h : wX10_segment M a1 a2 Q) : Met l yX10_segment uX10_segment ({ frames := 4, cells := 0, slots := 0, locals := 84 }) (va_Pc [.ref (ad 0), .int a1, .int a2] (xPre D cI cZ ad zA zD zR M)) (va_Qi Q (xAt D cI cZ ad) (xA ad)) 0 0 (xA ad) := by
  refine Met.ofW (cc := cX10_segment) (maxL := 3) (ret := (some .int)) (by decide) rfl ?_
  intro p e s m args below meth c s₁ B hml hv
  obtain ⟨rfl, hP, hK, hZ, hN⟩ := hv
  have hx := B.exec
  have hb := B.bytes
  have hr := B.returns
  have hts := atoms_spec (ws := uX10_segment) B.pre
  have hown : s.vm.findClass RX10 = some m.cls := findClass_of_methodNamed B.named
  have hlocks := B.notSynchronized
  have hS : va_S (xA ad) s.heap s.heap [] := va_S.rf
  have k0 := hts (.fieldLink RX10 10 "TwoEyes" "scene" "LTwoEyes$Scene;") (List.mem_cons_of_mem _ (inA_1 _ (List.mem_of_getElem? (i := 15) rfl)))
  have inX10 : ∀ w ∈ wsX100, w ∈ uX10_segment := fun w h => List.mem_cons_of_mem _ (inCX10 w h)
  have k2 := hts (.fieldLink RX10 58 "TwoEyes" "segments" "LTwoEyes$Segments;") (List.mem_cons_of_mem _ (inA_2 _ (List.mem_of_getElem? (i := 15) rfl)))
  have k3 := hts (.fieldLink RX10 215 "TwoEyes$Segments" "anchor" "[I") (List.mem_cons_of_mem _ (inA_29 _ (List.mem_of_getElem? (i := 17) rfl)))
  have inX7 : ∀ w ∈ wsX70, w ∈ uX10_segment := fun w h => List.mem_cons_of_mem _ (inCX7 w h)
  have hl := lv_entry ([.ref (ad 0), .int a1, .int a2]) (n := 3) (Nat.le_of_ble_eq_true rfl)
  rw [lg_entry_eq]
  generalize (lg_sl ([.ref (ad 0), .int a1, .int a2]) ++ List.replicate (3 - (lg_sl ([.ref (ad 0), .int a1, .int a2])).length) Slot.unset).toArray = ls at hl ⊢
  have hl : lv_has ls 3 [(0, .ref (ad 0)), (1, .int a1), (2, .int a2)] := hl
  refine lv_aload_n hx hb dX10_segment_0 rfl (lv_at hl 0 rfl) ?_
  refine va_get (D := D) (ci := 10) (v := .ref (ad 1)) (C := RX10) (T := TX10) (N := 11) hx hb hts inX10 hown hK hP 0 (xW_0 cI cZ ad M) rfl 0 (by decide) k0 (fun _ h9 => h9) rfl dX10_segment_1 ?_
  refine lv_iload_n hx hb dX10_segment_4 rfl (lv_at hl 1 rfl) ?_
  refine lv_iload_n hx hb dX10_segment_5 rfl (lv_at hl 2 rfl) ?_
  refine x_callVi (As := [.int a1, .int a2]) (rest := []) ⟨hx, hb, hml, hown, hts⟩ (kX6_hasSquare l D cI cZ ad zA zD zR hD M a1 a2 _ h) (cwV 2 hts (gdV uS (inA_13 _ (List.mem_of_getElem? (i := 6) rfl)) vX6_hasSquare) rfl rfl rfl (by decide +kernel) ⟨Nat.le_of_ble_eq_true rfl, Nat.le_of_ble_eq_true rfl⟩) (va_recv hK hP (ci := 6) (q0 := 1) rfl (xW_1 cI cZ ad M)) hP hK hZ hN hS hl.1 rfl rfl (Nat.le_of_ble_eq_true rfl) dX10_segment_6 (fun r6 M6 H locs h hP hS => ?_)
  refine lv_if_ne (tgt := 14) hx hb dX10_segment_9 (by decide) (fun q9 => ?_) (fun q9 => ?_)
  · have h := h.1 q9
    refine lv_aload_n hx hb dX10_segment_14 rfl (lv_at hl 0 rfl) ?_
    refine x_callVv (As := []) (rest := []) ⟨hx, hb, hml, hown, hts⟩ (kX10_refreshSegments l D cI cZ ad zA zD zR hD M6 _ h) (cwV 0 hts (gdV uS (inA_19 _ (List.mem_of_getElem? (i := 5) rfl)) vX10_refreshSegments) rfl rfl rfl (by decide +kernel) ⟨Nat.le_of_ble_eq_true rfl, Nat.le_of_ble_eq_true rfl⟩) (va_recv hK hP (ci := 10) (q0 := 0) rfl (xW_0 cI cZ ad M6)) hP hK hZ hN hS hl.1 rfl rfl (Nat.le_of_ble_eq_true rfl) dX10_segment_15 (fun M15 H locs h hP hS => ?_)
    refine lv_aload_n hx hb dX10_segment_18 rfl (lv_at hl 0 rfl) ?_
    refine va_get (D := D) (ci := 10) (v := .ref (ad 39)) (C := RX10) (T := TX10) (N := 11) hx hb hts inX10 hown hK hP 0 (xW_0 cI cZ ad M15) rfl 8 (by decide) k2 (fun _ h9 => h9) rfl dX10_segment_19 ?_
    refine va_get (D := D) (ci := 7) (v := .ref (ad 40)) (C := RX7) (T := TX7) (N := 2) hx hb hts inX7 hown hK hP 39 (xW_39 cI cZ ad M15) rfl 0 (by decide) k3 (fun _ h9 => h9) rfl dX10_segment_22 ?_
    refine lv_aload_n hx hb dX10_segment_25 rfl (lv_at hl 0 rfl) ?_
    refine va_get (D := D) (ci := 10) (v := .ref (ad 1)) (C := RX10) (T := TX10) (N := 11) hx hb hts inX10 hown hK hP 0 (xW_0 cI cZ ad M15) rfl 0 (by decide) k0 (fun _ h9 => h9) rfl dX10_segment_26 ?_
    refine lv_iload_n hx hb dX10_segment_29 rfl (lv_at hl 1 rfl) ?_
    refine lv_iload_n hx hb dX10_segment_30 rfl (lv_at hl 2 rfl) ?_
    refine x_callVi (As := [.int a1, .int a2]) (rest := [.ref (ad 40)]) ⟨hx, hb, hml, hown, hts⟩ (kX6_placeOf l D cI cZ ad zA zD zR hD M15 a1 a2 _ h) (cwV 2 hts (gdV uS (inA_10 _ (List.mem_of_getElem? (i := 14) rfl)) vX6_placeOf) rfl rfl rfl (by decide +kernel) ⟨Nat.le_of_ble_eq_true rfl, Nat.le_of_ble_eq_true rfl⟩) (va_recv hK hP (ci := 6) (q0 := 1) rfl (xW_1 cI cZ ad M15)) hP hK hZ hN hS hl.1 rfl rfl (Nat.le_of_ble_eq_true rfl) dX10_segment_31 (fun r31 M31 H locs h hP hS => ?_)
    obtain ⟨hi34, h⟩ := h
    refine va_iald hx hb hK hP 40 0 (xW_40 cI cZ ad M31) rfl hi34 dX10_segment_34 ?_
    exact W.iret (v := (M31 40 (r31).toNatClampNeg)) hx hb hr (fun t ht hW => ⟨⟨(M31 40 (r31).toNatClampNeg), M31, rfl, h, xAt_of ht hP⟩, hS.F ht⟩) hS.2.2 dX10_segment_35
  · have h := h.2 q9
    refine lv_iconst (v := (-1)) hx hb dX10_segment_12 (by decide) ?_
    exact W.iret (v := (-1)) hx hb hr (fun t ht hW => ⟨⟨(-1), M6, rfl, h, xAt_of ht hP⟩, hS.F ht⟩) hS.2.2 dX10_segment_13
abbrev GX7_countOf (p : Program) (l : Launch) (e : Env) (s : State) (m : MethodId) (below : List Frame) (meth : Method) (c : Code) (D : va_G) (cI cZ : ClassId) (ad : Nat → Nat) (a1 a2 : Int32) (Q : Int32 → Mem → Prop) (H : Heap) (locs : List Loc) (g : JFrame) : Prop := W p l e (headSpec uX7_countOf { frames := 0, cells := 0, slots := 0, locals := 0 }).room s m ([.ref (ad 39), .int a1, .int a2] : List Value).toArray below meth c H locs 0 0 (MQ below (va_Qi Q (xAt D cI cZ ad) (xA ad)) ([.ref (ad 39), .int a1, .int a2] : List Value).toArray s 0 0 (xA ad)) g
set_option maxHeartbeats 4000000 in
set_option maxRecDepth 100000 in
theorem kX7_countOf (l : Launch) (D : va_G) (cI cZ : ClassId) (ad : Nat → Nat) (zA zD zR : Nat) (hD : ∀ M : Mem, va_D (xA ad) (xW cI cZ ad M)) (M : Mem) (a1 a2 : Int32) (Q : Int32 → Mem → Prop) (h : wX7_countOf M a1 a2 Q) : Met l yX7_countOf uX7_countOf ({ frames := 0, cells := 0, slots := 0, locals := 0 }) (va_Pc [.ref (ad 39), .int a1, .int a2] (xPre D cI cZ ad zA zD zR M)) (va_Qi Q (xAt D cI cZ ad) (xA ad)) 0 0 (xA ad) := by
  refine Met.ofW (cc := cX7_countOf) (maxL := 5) (ret := (some .int)) (by decide) rfl ?_
  intro p e s m args below meth c s₁ B hml hv
  obtain ⟨rfl, hP, hK, hZ, hN⟩ := hv
  have hx := B.exec
  have hb := B.bytes
  have hr := B.returns
  have hts := atoms_spec (ws := uX7_countOf) B.pre
  have hown : s.vm.findClass RX7 = some m.cls := findClass_of_methodNamed B.named
  have hlocks := B.notSynchronized
  have hS : va_S (xA ad) s.heap s.heap [] := va_S.rf
  have k0 := hts (.fieldLink RX7 9 "TwoEyes$Segments" "anchor" "[I") (List.mem_cons_of_mem _ (inA_5 _ (List.mem_of_getElem? (i := 16) rfl)))
  have inX7 : ∀ w ∈ wsX70, w ∈ uX7_countOf := fun w h => List.mem_cons_of_mem _ (inCX7 w h)
  have L5 : ∀ (K31 : Int32 → Mem → Prop), (∀ (x3 : Int32) (M : Mem) (H : Heap) (locs : List Loc) (ls : Array Slot), lv_has ls 5 [(3, .int x3)] → va_P D vwCl (xW cI cZ ad M) H → va_S (xA ad) s.heap H locs → K31 x3 M → GX7_countOf p l e s m below meth c D cI cZ ad a1 a2 Q H locs (F0 m 31 ls [])) → ∀ n : Nat, ∀ (x1 x2 x3 x4 : Int32) (M : Mem) (H : Heap) (locs : List Loc) (ls : Array Slot), lv_has ls 5 [(0, .ref (ad 39)), (1, .int x1), (2, .int x2), (3, .int x3), (4, .int x4)] → va_P D vwCl (xW cI cZ ad M) H → va_S (xA ad) s.heap H locs → wX7_countOf_L5 K31 Q n x1 x2 x3 x4 M → GX7_countOf p l e s m below meth c D cI cZ ad a1 a2 Q H locs (F0 m 5 ls []) := by
    intro K31 hK31 n
    induction n with
    | zero => intro x1 x2 x3 x4 M H locs ls hl hP hS h; exact (show False from h).elim
    | succ n hB =>
      intro x1 x2 x3 x4 M H locs ls hl hP hS h
      rw [wX7_countOf_L5_s] at h
      refine lv_iload hx hb dX7_countOf_5 (lv_at hl 4 rfl) ?_
      refine lv_iload_n hx hb dX7_countOf_7 rfl (lv_at hl 2 rfl) ?_
      refine lv_icmp_ge (tgt := 31) hx hb dX7_countOf_8 (by decide) (fun q8 => ?_) (fun q8 => ?_)
      · have h := h.1 q8
        exact hK31 x3 M _ _ _ (lv_sub hl [3] rfl) hP hS h
      · have h := h.2 q8
        refine lv_aload_n hx hb dX7_countOf_11 rfl (lv_at hl 0 rfl) ?_
        refine va_get (D := D) (ci := 7) (v := .ref (ad 40)) (C := RX7) (T := TX7) (N := 2) hx hb hts inX7 hown hK hP 39 (xW_39 cI cZ ad M) rfl 0 (by decide) k0 (fun _ h9 => h9) rfl dX7_countOf_12 ?_
        refine lv_iload hx hb dX7_countOf_15 (lv_at hl 4 rfl) ?_
        obtain ⟨hi17, h⟩ := h
        refine va_iald hx hb hK hP 40 0 (xW_40 cI cZ ad M) rfl hi17 dX7_countOf_17 ?_
        refine lv_iload_n hx hb dX7_countOf_18 rfl (lv_at hl 1 rfl) ?_
        refine lv_icmp_ne (tgt := 25) hx hb dX7_countOf_19 (by decide) (fun q19 => ?_) (fun q19 => ?_)
        · have h := h.1 q19
          obtain ⟨x4_25, ex4_25⟩ : ∃ y : Int32, y = x4 + 1 := ⟨_, rfl⟩
          have h := h x4_25 ex4_25
          refine lv_iinc (v := x4_25) (lv' := [(4, .int x4_25), (0, .ref (ad 39)), (1, .int x1), (2, .int x2), (3, .int x3)]) hx hb dX7_countOf_25 hl (k := 4) rfl (by rw [ex4_25]; rfl) (by decide) rfl (fun ls hl => ?_)
          refine lv_goto (tgt := 5) hx hb dX7_countOf_28 (by decide) ?_
          exact hB x1 x2 x3 x4_25 M _ _ _ (lv_sub hl [1, 2, 3, 4, 0] rfl) hP hS h
        · have h := h.2 q19
          obtain ⟨x3_22, ex3_22⟩ : ∃ y : Int32, y = x3 + 1 := ⟨_, rfl⟩
          have h := h x3_22 ex3_22
          refine lv_iinc (v := x3_22) (lv' := [(3, .int x3_22), (0, .ref (ad 39)), (1, .int x1), (2, .int x2), (4, .int x4)]) hx hb dX7_countOf_22 hl (k := 3) rfl (by rw [ex3_22]; rfl) (by decide) rfl (fun ls hl => ?_)
          obtain ⟨x4_25, ex4_25⟩ : ∃ y : Int32, y = x4 + 1 := ⟨_, rfl⟩
          have h := h x4_25 ex4_25
          refine lv_iinc (v := x4_25) (lv' := [(4, .int x4_25), (3, .int x3_22), (0, .ref (ad 39)), (1, .int x1), (2, .int x2)]) hx hb dX7_countOf_25 hl (k := 4) rfl (by rw [ex4_25]; rfl) (by decide) rfl (fun ls hl => ?_)
          refine lv_goto (tgt := 5) hx hb dX7_countOf_28 (by decide) ?_
          exact hB x1 x2 x3_22 x4_25 M _ _ _ (lv_sub hl [2, 3, 4, 1, 0] rfl) hP hS h
  have hl := lv_entry ([.ref (ad 39), .int a1, .int a2]) (n := 5) (Nat.le_of_ble_eq_true rfl)
  rw [lg_entry_eq]
  generalize (lg_sl ([.ref (ad 39), .int a1, .int a2]) ++ List.replicate (5 - (lg_sl ([.ref (ad 39), .int a1, .int a2])).length) Slot.unset).toArray = ls at hl ⊢
  have hl : lv_has ls 5 [(0, .ref (ad 39)), (1, .int a1), (2, .int a2)] := hl
  refine lv_iconst (v := 0) hx hb dX7_countOf_0 (by decide) ?_
  refine lv_istore_n (lv' := [(3, .int 0), (0, .ref (ad 39)), (1, .int a1), (2, .int a2)]) hx hb dX7_countOf_1 rfl hl (by decide) rfl (fun ls hl => ?_)
  refine lv_iconst (v := 0) hx hb dX7_countOf_2 (by decide) ?_
  refine lv_istore (lv' := [(4, .int 0), (3, .int 0), (0, .ref (ad 39)), (1, .int a1), (2, .int a2)]) hx hb dX7_countOf_3 hl (by decide) rfl (fun ls hl => ?_)
  obtain ⟨n, h⟩ := h
  refine L5 _ (fun x3 M H locs ls hl hP hS h => ?_) n a1 a2 0 0 M _ _ _ (lv_sub hl [2, 3, 4, 1, 0] rfl) hP hS h
  refine lv_iload_n hx hb dX7_countOf_31 rfl (lv_at hl 0 rfl) ?_
  exact W.iret (v := x3) hx hb hr (fun t ht hW => ⟨⟨x3, M, rfl, h, xAt_of ht hP⟩, hS.F ht⟩) hS.2.2 dX7_countOf_32
set_option maxHeartbeats 4000000 in
set_option maxRecDepth 100000 in
theorem kX10_extent (l : Launch) (D : va_G) (cI cZ : ClassId) (ad : Nat → Nat) (zA zD zR : Nat) (hD : ∀ M : Mem, va_D (xA ad) (xW cI cZ ad M)) (M : Mem) (a1 a2 : Int32) (Q : Int32 → Mem → Prop) (h : wX10_extent M a1 a2 Q) : Met l yX10_extent uX10_extent ({ frames := 4, cells := 0, slots := 0, locals := 84 }) (va_Pc [.ref (ad 0), .int a1, .int a2] (xPre D cI cZ ad zA zD zR M)) (va_Qi Q (xAt D cI cZ ad) (xA ad)) 0 0 (xA ad) := by
  refine Met.ofW (cc := cX10_extent) (maxL := 4) (ret := (some .int)) (by decide) rfl ?_
  intro p e s m args below meth c s₁ B hml hv
  obtain ⟨rfl, hP, hK, hZ, hN⟩ := hv
  have hx := B.exec
  have hb := B.bytes
  have hr := B.returns
  have hts := atoms_spec (ws := uX10_extent) B.pre
  have hown : s.vm.findClass RX10 = some m.cls := findClass_of_methodNamed B.named
  have hlocks := B.notSynchronized
  have hS : va_S (xA ad) s.heap s.heap [] := va_S.rf
  have k0 := hts (.fieldLink RX10 10 "TwoEyes" "scene" "LTwoEyes$Scene;") (List.mem_cons_of_mem _ (inA_1 _ (List.mem_of_getElem? (i := 15) rfl)))
  have inX10 : ∀ w ∈ wsX100, w ∈ uX10_extent := fun w h => List.mem_cons_of_mem _ (inCX10 w h)
  have k2 := hts (.fieldLink RX10 58 "TwoEyes" "segments" "LTwoEyes$Segments;") (List.mem_cons_of_mem _ (inA_2 _ (List.mem_of_getElem? (i := 15) rfl)))
  have k3 := hts (.fieldLink RX10 215 "TwoEyes$Segments" "anchor" "[I") (List.mem_cons_of_mem _ (inA_29 _ (List.mem_of_getElem? (i := 17) rfl)))
  have inX7 : ∀ w ∈ wsX70, w ∈ uX10_extent := fun w h => List.mem_cons_of_mem _ (inCX7 w h)
  have hl := lv_entry ([.ref (ad 0), .int a1, .int a2]) (n := 4) (Nat.le_of_ble_eq_true rfl)
  rw [lg_entry_eq]
  generalize (lg_sl ([.ref (ad 0), .int a1, .int a2]) ++ List.replicate (4 - (lg_sl ([.ref (ad 0), .int a1, .int a2])).length) Slot.unset).toArray = ls at hl ⊢
  have hl : lv_has ls 4 [(0, .ref (ad 0)), (1, .int a1), (2, .int a2)] := hl
  refine lv_aload_n hx hb dX10_extent_0 rfl (lv_at hl 0 rfl) ?_
  refine va_get (D := D) (ci := 10) (v := .ref (ad 1)) (C := RX10) (T := TX10) (N := 11) hx hb hts inX10 hown hK hP 0 (xW_0 cI cZ ad M) rfl 0 (by decide) k0 (fun _ h9 => h9) rfl dX10_extent_1 ?_
  refine lv_iload_n hx hb dX10_extent_4 rfl (lv_at hl 1 rfl) ?_
  refine lv_iload_n hx hb dX10_extent_5 rfl (lv_at hl 2 rfl) ?_
  refine x_callVi (As := [.int a1, .int a2]) (rest := []) ⟨hx, hb, hml, hown, hts⟩ (kX6_hasSquare l D cI cZ ad zA zD zR hD M a1 a2 _ h) (cwV 2 hts (gdV uS (inA_13 _ (List.mem_of_getElem? (i := 6) rfl)) vX6_hasSquare) rfl rfl rfl (by decide +kernel) ⟨Nat.le_of_ble_eq_true rfl, Nat.le_of_ble_eq_true rfl⟩) (va_recv hK hP (ci := 6) (q0 := 1) rfl (xW_1 cI cZ ad M)) hP hK hZ hN hS hl.1 rfl rfl (Nat.le_of_ble_eq_true rfl) dX10_extent_6 (fun r6 M6 H locs h hP hS => ?_)
  refine lv_if_ne (tgt := 14) hx hb dX10_extent_9 (by decide) (fun q9 => ?_) (fun q9 => ?_)
  · have h := h.1 q9
    refine lv_aload_n hx hb dX10_extent_14 rfl (lv_at hl 0 rfl) ?_
    refine x_callVv (As := []) (rest := []) ⟨hx, hb, hml, hown, hts⟩ (kX10_refreshSegments l D cI cZ ad zA zD zR hD M6 _ h) (cwV 0 hts (gdV uS (inA_19 _ (List.mem_of_getElem? (i := 5) rfl)) vX10_refreshSegments) rfl rfl rfl (by decide +kernel) ⟨Nat.le_of_ble_eq_true rfl, Nat.le_of_ble_eq_true rfl⟩) (va_recv hK hP (ci := 10) (q0 := 0) rfl (xW_0 cI cZ ad M6)) hP hK hZ hN hS hl.1 rfl rfl (Nat.le_of_ble_eq_true rfl) dX10_extent_15 (fun M15 H locs h hP hS => ?_)
    refine lv_aload_n hx hb dX10_extent_18 rfl (lv_at hl 0 rfl) ?_
    refine va_get (D := D) (ci := 10) (v := .ref (ad 39)) (C := RX10) (T := TX10) (N := 11) hx hb hts inX10 hown hK hP 0 (xW_0 cI cZ ad M15) rfl 8 (by decide) k2 (fun _ h9 => h9) rfl dX10_extent_19 ?_
    refine va_get (D := D) (ci := 7) (v := .ref (ad 40)) (C := RX7) (T := TX7) (N := 2) hx hb hts inX7 hown hK hP 39 (xW_39 cI cZ ad M15) rfl 0 (by decide) k3 (fun _ h9 => h9) rfl dX10_extent_22 ?_
    refine lv_aload_n hx hb dX10_extent_25 rfl (lv_at hl 0 rfl) ?_
    refine va_get (D := D) (ci := 10) (v := .ref (ad 1)) (C := RX10) (T := TX10) (N := 11) hx hb hts inX10 hown hK hP 0 (xW_0 cI cZ ad M15) rfl 0 (by decide) k0 (fun _ h9 => h9) rfl dX10_extent_26 ?_
    refine lv_iload_n hx hb dX10_extent_29 rfl (lv_at hl 1 rfl) ?_
    refine lv_iload_n hx hb dX10_extent_30 rfl (lv_at hl 2 rfl) ?_
    refine x_callVi (As := [.int a1, .int a2]) (rest := [.ref (ad 40)]) ⟨hx, hb, hml, hown, hts⟩ (kX6_placeOf l D cI cZ ad zA zD zR hD M15 a1 a2 _ h) (cwV 2 hts (gdV uS (inA_10 _ (List.mem_of_getElem? (i := 14) rfl)) vX6_placeOf) rfl rfl rfl (by decide +kernel) ⟨Nat.le_of_ble_eq_true rfl, Nat.le_of_ble_eq_true rfl⟩) (va_recv hK hP (ci := 6) (q0 := 1) rfl (xW_1 cI cZ ad M15)) hP hK hZ hN hS hl.1 rfl rfl (Nat.le_of_ble_eq_true rfl) dX10_extent_31 (fun r31 M31 H locs h hP hS => ?_)
    obtain ⟨hi34, h⟩ := h
    refine va_iald hx hb hK hP 40 0 (xW_40 cI cZ ad M31) rfl hi34 dX10_extent_34 ?_
    refine lv_topi (fun x3_35 ex3_35 => ?_)
    have h := h x3_35 ex3_35
    refine lv_istore_n (lv' := [(3, .int x3_35), (0, .ref (ad 0)), (1, .int a1), (2, .int a2)]) hx hb dX10_extent_35 rfl hl (by decide) rfl (fun ls hl => ?_)
    refine lv_iload_n hx hb dX10_extent_36 rfl (lv_at hl 0 rfl) ?_
    refine lv_bipush (v := (-5)) hx hb dX10_extent_37 (by decide) ?_
    refine lv_icmp_ne (tgt := 47) hx hb dX10_extent_39 (by decide) (fun q39 => ?_) (fun q39 => ?_)
    · have h := h.1 q39
      refine lv_aload_n hx hb dX10_extent_47 rfl (lv_at hl 1 rfl) ?_
      refine va_get (D := D) (ci := 10) (v := .ref (ad 39)) (C := RX10) (T := TX10) (N := 11) hx hb hts inX10 hown hK hP 0 (xW_0 cI cZ ad M31) rfl 8 (by decide) k2 (fun _ h9 => h9) rfl dX10_extent_48 ?_
      refine lv_iload_n hx hb dX10_extent_51 rfl (lv_at hl 0 rfl) ?_
      refine lv_aload_n hx hb dX10_extent_52 rfl (lv_at hl 1 rfl) ?_
      refine va_get (D := D) (ci := 10) (v := .ref (ad 1)) (C := RX10) (T := TX10) (N := 11) hx hb hts inX10 hown hK hP 0 (xW_0 cI cZ ad M31) rfl 0 (by decide) k0 (fun _ h9 => h9) rfl dX10_extent_53 ?_
      refine x_callVi (As := []) (rest := [.int x3_35, .ref (ad 39)]) ⟨hx, hb, hml, hown, hts⟩ (kX6_countSquares l D cI cZ ad zA zD zR hD M31 _ h) (cwV 0 hts (gdV uS (inA_19 _ (List.mem_of_getElem? (i := 0) rfl)) vX6_countSquares) rfl rfl rfl (by decide +kernel) ⟨Nat.le_of_ble_eq_true rfl, Nat.le_of_ble_eq_true rfl⟩) (va_recv hK hP (ci := 6) (q0 := 1) rfl (xW_1 cI cZ ad M31)) hP hK hZ hN hS hl.1 rfl rfl (Nat.le_of_ble_eq_true rfl) dX10_extent_56 (fun r56 M56 H locs h hP hS => ?_)
      refine x_callVi (As := [.int x3_35, .int r56]) (rest := []) ⟨hx, hb, hml, hown, hts⟩ (kX7_countOf l D cI cZ ad zA zD zR hD M56 x3_35 r56 _ h) (cwV 2 hts (gdV uS (inA_30 _ (List.mem_of_getElem? (i := 2) rfl)) vX7_countOf) rfl rfl rfl (by decide +kernel) ⟨Nat.le_of_ble_eq_true rfl, Nat.le_of_ble_eq_true rfl⟩) (va_recv hK hP (ci := 7) (q0 := 39) rfl (xW_39 cI cZ ad M56)) hP hK hZ hN hS hl.1 rfl rfl (Nat.le_of_ble_eq_true rfl) dX10_extent_59 (fun r59 M59 H locs h hP hS => ?_)
      exact W.iret (v := r59) hx hb hr (fun t ht hW => ⟨⟨r59, M59, rfl, h, xAt_of ht hP⟩, hS.F ht⟩) hS.2.2 dX10_extent_62
    · have h := h.2 q39
      refine lv_bipush (v := (-5)) hx hb dX10_extent_42 (by decide) ?_
      refine lv_goto (tgt := 62) hx hb dX10_extent_44 (by decide) ?_
      exact W.iret (v := (-5)) hx hb hr (fun t ht hW => ⟨⟨(-5), M31, rfl, h, xAt_of ht hP⟩, hS.F ht⟩) hS.2.2 dX10_extent_62
  · have h := h.2 q9
    refine lv_iconst (v := (-1)) hx hb dX10_extent_12 (by decide) ?_
    exact W.iret (v := (-1)) hx hb hr (fun t ht hW => ⟨⟨(-1), M6, rfl, h, xAt_of ht hP⟩, hS.F ht⟩) hS.2.2 dX10_extent_13
set_option maxHeartbeats 4000000 in
set_option maxRecDepth 100000 in
theorem kX5_half (l : Launch) (D : va_G) (cI cZ : ClassId) (ad : Nat → Nat) (zA zD zR : Nat) (hD : ∀ M : Mem, va_D (xA ad) (xW cI cZ ad M)) (M : Mem) (a0 : Int32) (Q : Int32 → Mem → Prop) (h : wX5_half M a0 Q) : Met l yX5_half uX5_half ({ frames := 0, cells := 0, slots := 0, locals := 0 }) (va_Pc [.int a0] (xPre D cI cZ ad zA zD zR M)) (va_Qi Q (xAt D cI cZ ad) (xA ad)) 0 0 (xA ad) := by
  refine Met.ofW (cc := cX5_half) (maxL := 1) (ret := (some .int)) (by decide) rfl ?_
  intro p e s m args below meth c s₁ B hml hv
  obtain ⟨rfl, hP, hK, hZ, hN⟩ := hv
  have hx := B.exec
  have hb := B.bytes
  have hr := B.returns
  have hts := atoms_spec (ws := uX5_half) B.pre
  have hown : s.vm.findClass RX5 = some m.cls := findClass_of_methodNamed B.named
  have hlocks := B.notSynchronized
  have hS : va_S (xA ad) s.heap s.heap [] := va_S.rf
  have hl := lv_entry ([.int a0]) (n := 1) (Nat.le_of_ble_eq_true rfl)
  rw [lg_entry_eq]
  generalize (lg_sl ([.int a0]) ++ List.replicate (1 - (lg_sl ([.int a0])).length) Slot.unset).toArray = ls at hl ⊢
  have hl : lv_has ls 1 [(0, .int a0)] := hl
  refine lv_iload_n hx hb dX5_half_0 rfl (lv_at hl 0 rfl) ?_
  refine lv_iconst (v := 1) hx hb dX5_half_1 (by decide) ?_
  refine lv_ishr hx hb dX5_half_2 ?_
  exact W.iret (v := (a0 >>> (1 &&& 31))) hx hb hr (fun t ht hW => ⟨⟨(a0 >>> (1 &&& 31)), M, rfl, h, xAt_of ht hP⟩, hS.F ht⟩) hS.2.2 dX5_half_3
abbrev GX5_weigh (p : Program) (l : Launch) (e : Env) (s : State) (m : MethodId) (below : List Frame) (meth : Method) (c : Code) (D : va_G) (cI cZ : ClassId) (ad : Nat → Nat) (a1 a2 a3 a5 : Int32) (Q : Mem → Prop) (H : Heap) (locs : List Loc) (g : JFrame) : Prop := W p l e (headSpec uX5_weigh { frames := 1, cells := 0, slots := 0, locals := 20 }).room s m ([.ref (ad 41), .int a1, .int a2, .int a3, .ref (ad 18), .int a5] : List Value).toArray below meth c H locs 0 0 (MQ below (va_Qv Q (xAt D cI cZ ad) (xA ad)) ([.ref (ad 41), .int a1, .int a2, .int a3, .ref (ad 18), .int a5] : List Value).toArray s 0 0 (xA ad)) g
set_option maxHeartbeats 4000000 in
set_option maxRecDepth 100000 in
theorem kX5_weigh (l : Launch) (D : va_G) (cI cZ : ClassId) (ad : Nat → Nat) (zA zD zR : Nat) (hD : ∀ M : Mem, va_D (xA ad) (xW cI cZ ad M)) (M : Mem) (a1 a2 a3 a5 : Int32) (Q : Mem → Prop) (h : wX5_weigh M a1 a2 a3 a5 Q) : Met l yX5_weigh uX5_weigh ({ frames := 1, cells := 0, slots := 0, locals := 20 }) (va_Pc [.ref (ad 41), .int a1, .int a2, .int a3, .ref (ad 18), .int a5] (xPre D cI cZ ad zA zD zR M)) (va_Qv Q (xAt D cI cZ ad) (xA ad)) 0 0 (xA ad) := by
  refine Met.ofW (cc := cX5_weigh) (maxL := 10) (ret := none) (by decide) rfl ?_
  intro p e s m args below meth c s₁ B hml hv
  obtain ⟨rfl, hP, hK, hZ, hN⟩ := hv
  have hx := B.exec
  have hb := B.bytes
  have hr := B.returns
  have hts := atoms_spec (ws := uX5_weigh) B.pre
  have hown : s.vm.findClass RX5 = some m.cls := findClass_of_methodNamed B.named
  have hlocks := B.notSynchronized
  have hS : va_S (xA ad) s.heap s.heap [] := va_S.rf
  have k0 := hts (.fieldLink RX5 43 "TwoEyes$Planes" "members" "I") (List.mem_cons_of_mem _ (inA_6 _ (List.mem_of_getElem? (i := 7) rfl)))
  have inX5 : ∀ w ∈ wsX50, w ∈ uX5_weigh := fun w h => List.mem_cons_of_mem _ (inCX5 w h)
  have k2 := hts (.fieldLink RX5 24 "TwoEyes$Planes" "price" "I") (List.mem_cons_of_mem _ (inA_6 _ (List.mem_of_getElem? (i := 1) rfl)))
  have k3 := hts (.fieldLink RX5 37 "TwoEyes$Planes" "aside" "[I") (List.mem_cons_of_mem _ (inA_6 _ (List.mem_of_getElem? (i := 5) rfl)))
  have k4 := hts (.fieldLink RX5 40 "TwoEyes$Planes" "down" "[I") (List.mem_cons_of_mem _ (inA_6 _ (List.mem_of_getElem? (i := 6) rfl)))
  have k5 := hts (.fieldLink RX5 81 "TwoEyes$Costs" "table" "[I") (List.mem_cons_of_mem _ (inA_31 _ (List.mem_of_getElem? (i := 16) rfl)))
  have inX1 : ∀ w ∈ wsX10, w ∈ uX5_weigh := fun w h => List.mem_cons_of_mem _ (inCX1 w h)
  have k7 := hts (.fieldLink RX5 33 "TwoEyes$Planes" "places" "[I") (List.mem_cons_of_mem _ (inA_6 _ (List.mem_of_getElem? (i := 4) rfl)))
  have k8 := hts (.fieldLink RX5 15 "TwoEyes$Planes" "b" "I") (List.mem_cons_of_mem _ (inA_5 _ (List.mem_of_getElem? (i := 22) rfl)))
  have k9 := hts (.fieldLink RX5 18 "TwoEyes$Planes" "a" "I") (List.mem_cons_of_mem _ (inA_5 _ (List.mem_of_getElem? (i := 23) rfl)))
  have k10 := hts (.fieldLink RX5 21 "TwoEyes$Planes" "c" "I") (List.mem_cons_of_mem _ (inA_6 _ (List.mem_of_getElem? (i := 0) rfl)))
  have J86 : ∀ (B : Int32 → Int32 → Int32 → Int32 → Int32 → Int32 → Mem → Prop) (K113 : Int32 → Int32 → Int32 → Int32 → Mem → Prop), (∀ (x1 x2 x3 x5 x6 x7 : Int32) (M : Mem) (H : Heap) (locs : List Loc) (ls : Array Slot), lv_has ls 10 [(0, .ref (ad 41)), (1, .int x1), (2, .int x2), (3, .int x3), (4, .ref (ad 18)), (5, .int x5), (6, .int x6), (7, .int x7)] → va_P D vwCl (xW cI cZ ad M) H → va_S (xA ad) s.heap H locs → B x1 x2 x3 x5 x6 x7 M → GX5_weigh p l e s m below meth c D cI cZ ad a1 a2 a3 a5 Q H locs (F0 m 6 ls [])) → (∀ (x1 x2 x3 x6 : Int32) (M : Mem) (H : Heap) (locs : List Loc) (ls : Array Slot), lv_has ls 10 [(0, .ref (ad 41)), (1, .int x1), (2, .int x2), (3, .int x3), (6, .int x6)] → va_P D vwCl (xW cI cZ ad M) H → va_S (xA ad) s.heap H locs → K113 x1 x2 x3 x6 M → GX5_weigh p l e s m below meth c D cI cZ ad a1 a2 a3 a5 Q H locs (F0 m 113 ls [])) → ∀ (x1 x2 x3 x5 x6 x7 t0 : Int32) (M : Mem) (H : Heap) (locs : List Loc) (ls : Array Slot), lv_has ls 10 [(0, .ref (ad 41)), (1, .int x1), (2, .int x2), (3, .int x3), (4, .ref (ad 18)), (5, .int x5), (6, .int x6), (7, .int x7)] → va_P D vwCl (xW cI cZ ad M) H → va_S (xA ad) s.heap H locs → wX5_weigh_J86 B K113 Q x1 x2 x3 x5 x6 x7 t0 M → GX5_weigh p l e s m below meth c D cI cZ ad a1 a2 a3 a5 Q H locs (F0 m 86 ls [.int t0]) := by
    intro B K113 hB hK113 x1 x2 x3 x5 x6 x7 t0 M H locs ls hl hP hS h
    refine lv_istore (lv' := [(9, .int t0), (0, .ref (ad 41)), (1, .int x1), (2, .int x2), (3, .int x3), (4, .ref (ad 18)), (5, .int x5), (6, .int x6), (7, .int x7)]) hx hb dX5_weigh_86 hl (by decide) rfl (fun ls hl => ?_)
    refine lv_iload hx hb dX5_weigh_88 (lv_at hl 7 rfl) ?_
    refine lv_iload hx hb dX5_weigh_90 (lv_at hl 0 rfl) ?_
    refine lv_bipush (v := (-4)) hx hb dX5_weigh_92 (by decide) ?_
    refine lv_icmp_ne (tgt := 102) hx hb dX5_weigh_94 (by decide) (fun q94 => ?_) (fun q94 => ?_)
    · have h := h.1 q94
      refine lv_iload hx hb dX5_weigh_102 (lv_at hl 0 rfl) ?_
      refine lv_iadd hx hb dX5_weigh_104 ?_
      refine lv_topi (fun x6_105 ex6_105 => ?_)
      have h := h x6_105 ex6_105
      refine lv_istore (lv' := [(6, .int x6_105), (9, .int t0), (0, .ref (ad 41)), (1, .int x1), (2, .int x2), (3, .int x3), (4, .ref (ad 18)), (5, .int x5), (7, .int x7)]) hx hb dX5_weigh_105 hl (by decide) rfl (fun ls hl => ?_)
      obtain ⟨x7_107, ex7_107⟩ : ∃ y : Int32, y = x7 + 1 := ⟨_, rfl⟩
      have h := h x7_107 ex7_107
      refine lv_iinc (v := x7_107) (lv' := [(7, .int x7_107), (6, .int x6_105), (9, .int t0), (0, .ref (ad 41)), (1, .int x1), (2, .int x2), (3, .int x3), (4, .ref (ad 18)), (5, .int x5)]) hx hb dX5_weigh_107 hl (k := 8) rfl (by rw [ex7_107]; rfl) (by decide) rfl (fun ls hl => ?_)
      refine lv_goto (tgt := 6) hx hb dX5_weigh_110 (by decide) ?_
      exact hB x1 x2 x3 x5 x6_105 x7_107 M _ _ _ (lv_sub hl [3, 4, 5, 6, 7, 8, 1, 0] rfl) hP hS h
    · have h := h.2 q94
      refine lv_bipush (v := 9) hx hb dX5_weigh_97 (by decide) ?_
      refine lv_goto (tgt := 104) hx hb dX5_weigh_99 (by decide) ?_
      refine lv_iadd hx hb dX5_weigh_104 ?_
      refine lv_topi (fun x6_105 ex6_105 => ?_)
      have h := h x6_105 ex6_105
      refine lv_istore (lv' := [(6, .int x6_105), (9, .int t0), (0, .ref (ad 41)), (1, .int x1), (2, .int x2), (3, .int x3), (4, .ref (ad 18)), (5, .int x5), (7, .int x7)]) hx hb dX5_weigh_105 hl (by decide) rfl (fun ls hl => ?_)
      obtain ⟨x7_107, ex7_107⟩ : ∃ y : Int32, y = x7 + 1 := ⟨_, rfl⟩
      have h := h x7_107 ex7_107
      refine lv_iinc (v := x7_107) (lv' := [(7, .int x7_107), (6, .int x6_105), (9, .int t0), (0, .ref (ad 41)), (1, .int x1), (2, .int x2), (3, .int x3), (4, .ref (ad 18)), (5, .int x5)]) hx hb dX5_weigh_107 hl (k := 8) rfl (by rw [ex7_107]; rfl) (by decide) rfl (fun ls hl => ?_)
      refine lv_goto (tgt := 6) hx hb dX5_weigh_110 (by decide) ?_
      exact hB x1 x2 x3 x5 x6_105 x7_107 M _ _ _ (lv_sub hl [3, 4, 5, 6, 7, 8, 1, 0] rfl) hP hS h
  have J62 : ∀ (B : Int32 → Int32 → Int32 → Int32 → Int32 → Int32 → Mem → Prop) (K113 : Int32 → Int32 → Int32 → Int32 → Mem → Prop), (∀ (x1 x2 x3 x5 x6 x7 : Int32) (M : Mem) (H : Heap) (locs : List Loc) (ls : Array Slot), lv_has ls 10 [(0, .ref (ad 41)), (1, .int x1), (2, .int x2), (3, .int x3), (4, .ref (ad 18)), (5, .int x5), (6, .int x6), (7, .int x7)] → va_P D vwCl (xW cI cZ ad M) H → va_S (xA ad) s.heap H locs → B x1 x2 x3 x5 x6 x7 M → GX5_weigh p l e s m below meth c D cI cZ ad a1 a2 a3 a5 Q H locs (F0 m 6 ls [])) → (∀ (x1 x2 x3 x6 : Int32) (M : Mem) (H : Heap) (locs : List Loc) (ls : Array Slot), lv_has ls 10 [(0, .ref (ad 41)), (1, .int x1), (2, .int x2), (3, .int x3), (6, .int x6)] → va_P D vwCl (xW cI cZ ad M) H → va_S (xA ad) s.heap H locs → K113 x1 x2 x3 x6 M → GX5_weigh p l e s m below meth c D cI cZ ad a1 a2 a3 a5 Q H locs (F0 m 113 ls [])) → ∀ (x1 x2 x3 x5 x6 x7 : Int32) (M : Mem) (H : Heap) (locs : List Loc) (ls : Array Slot), lv_has ls 10 [(0, .ref (ad 41)), (1, .int x1), (2, .int x2), (3, .int x3), (4, .ref (ad 18)), (5, .int x5), (6, .int x6), (7, .int x7)] → va_P D vwCl (xW cI cZ ad M) H → va_S (xA ad) s.heap H locs → wX5_weigh_J62 B K113 Q x1 x2 x3 x5 x6 x7 M → GX5_weigh p l e s m below meth c D cI cZ ad a1 a2 a3 a5 Q H locs (F0 m 62 ls []) := by
    intro B K113 hB hK113 x1 x2 x3 x5 x6 x7 M H locs ls hl hP hS h
    refine lv_bipush (v := (-4)) hx hb dX5_weigh_62 (by decide) ?_
    refine lv_goto (tgt := 86) hx hb dX5_weigh_64 (by decide) ?_
    exact J86 _ K113 hB hK113 x1 x2 x3 x5 x6 x7 (-4) M _ _ _ (lv_sub hl [0, 1, 2, 3, 4, 5, 6, 7] rfl) hP hS h
  have L6 : ∀ (K113 : Int32 → Int32 → Int32 → Int32 → Mem → Prop), (∀ (x1 x2 x3 x6 : Int32) (M : Mem) (H : Heap) (locs : List Loc) (ls : Array Slot), lv_has ls 10 [(0, .ref (ad 41)), (1, .int x1), (2, .int x2), (3, .int x3), (6, .int x6)] → va_P D vwCl (xW cI cZ ad M) H → va_S (xA ad) s.heap H locs → K113 x1 x2 x3 x6 M → GX5_weigh p l e s m below meth c D cI cZ ad a1 a2 a3 a5 Q H locs (F0 m 113 ls [])) → ∀ n : Nat, ∀ (x1 x2 x3 x5 x6 x7 : Int32) (M : Mem) (H : Heap) (locs : List Loc) (ls : Array Slot), lv_has ls 10 [(0, .ref (ad 41)), (1, .int x1), (2, .int x2), (3, .int x3), (4, .ref (ad 18)), (5, .int x5), (6, .int x6), (7, .int x7)] → va_P D vwCl (xW cI cZ ad M) H → va_S (xA ad) s.heap H locs → wX5_weigh_L6 K113 Q n x1 x2 x3 x5 x6 x7 M → GX5_weigh p l e s m below meth c D cI cZ ad a1 a2 a3 a5 Q H locs (F0 m 6 ls []) := by
    intro K113 hK113 n
    induction n with
    | zero => intro x1 x2 x3 x5 x6 x7 M H locs ls hl hP hS h; exact (show False from h).elim
    | succ n hB =>
      intro x1 x2 x3 x5 x6 x7 M H locs ls hl hP hS h
      rw [wX5_weigh_L6_s] at h
      refine lv_iload hx hb dX5_weigh_6 (lv_at hl 7 rfl) ?_
      refine lv_aload_n hx hb dX5_weigh_8 rfl (lv_at hl 0 rfl) ?_
      refine va_get (D := D) (ci := 5) (v := .int (M 41 10)) (C := RX5) (T := TX5) (N := 11) hx hb hts inX5 hown hK hP 41 (xW_41 cI cZ ad M) rfl 10 (by decide) k0 (fun _ h9 => h9) rfl dX5_weigh_9 ?_
      refine lv_icmp_ge (tgt := 113) hx hb dX5_weigh_12 (by decide) (fun q12 => ?_) (fun q12 => ?_)
      · have h := h.1 q12
        exact hK113 x1 x2 x3 x6 M _ _ _ (lv_sub hl [0, 1, 2, 3, 6] rfl) hP hS h
      · have h := h.2 q12
        refine lv_iload hx hb dX5_weigh_15 (lv_at hl 6 rfl) ?_
        refine lv_aload_n hx hb dX5_weigh_17 rfl (lv_at hl 0 rfl) ?_
        refine va_get (D := D) (ci := 5) (v := .int (M 41 4)) (C := RX5) (T := TX5) (N := 11) hx hb hts inX5 hown hK hP 41 (xW_41 cI cZ ad M) rfl 4 (by decide) k2 (fun _ h9 => h9) rfl dX5_weigh_18 ?_
        refine lv_icmp_ge (tgt := 113) hx hb dX5_weigh_21 (by decide) (fun q21 => ?_) (fun q21 => ?_)
        · have h := h.1 q21
          exact hK113 x1 x2 x3 x6 M _ _ _ (lv_sub hl [0, 1, 2, 3, 6] rfl) hP hS h
        · have h := h.2 q21
          refine lv_iload_n hx hb dX5_weigh_24 rfl (lv_at hl 1 rfl) ?_
          refine lv_iload_n hx hb dX5_weigh_25 rfl (lv_at hl 2 rfl) ?_
          refine lv_aload_n hx hb dX5_weigh_26 rfl (lv_at hl 0 rfl) ?_
          refine va_get (D := D) (ci := 5) (v := .ref (ad 43)) (C := RX5) (T := TX5) (N := 11) hx hb hts inX5 hown hK hP 41 (xW_41 cI cZ ad M) rfl 8 (by decide) k3 (fun _ h9 => h9) rfl dX5_weigh_27 ?_
          refine lv_iload hx hb dX5_weigh_30 (lv_at hl 7 rfl) ?_
          obtain ⟨hi32, h⟩ := h
          refine va_iald hx hb hK hP 43 0 (xW_43 cI cZ ad M) rfl hi32 dX5_weigh_32 ?_
          refine lv_imul hx hb dX5_weigh_33 ?_
          refine lv_iload_n hx hb dX5_weigh_34 rfl (lv_at hl 3 rfl) ?_
          refine lv_aload_n hx hb dX5_weigh_35 rfl (lv_at hl 0 rfl) ?_
          refine va_get (D := D) (ci := 5) (v := .ref (ad 44)) (C := RX5) (T := TX5) (N := 11) hx hb hts inX5 hown hK hP 41 (xW_41 cI cZ ad M) rfl 9 (by decide) k4 (fun _ h9 => h9) rfl dX5_weigh_36 ?_
          refine lv_iload hx hb dX5_weigh_39 (lv_at hl 7 rfl) ?_
          obtain ⟨hi41, h⟩ := h
          refine va_iald hx hb hK hP 44 0 (xW_44 cI cZ ad M) rfl hi41 dX5_weigh_41 ?_
          refine lv_imul hx hb dX5_weigh_42 ?_
          refine lv_iadd hx hb dX5_weigh_43 ?_
          refine x_callSi (As := [.int ((x2 * (M 43 (x7).toNatClampNeg)) + (x3 * (M 44 (x7).toNatClampNeg)))]) (rest := [.int x1]) ⟨hx, hb, hml, hown, hts⟩ (kX5_half l D cI cZ ad zA zD zR hD M ((x2 * (M 43 (x7).toNatClampNeg)) + (x3 * (M 44 (x7).toNatClampNeg))) _ h) (va_cwS 1 hts (gdS uS (inA_31 _ (List.mem_of_getElem? (i := 17) rfl)) vX5_half) rfl rfl rfl (by decide +kernel) ⟨Nat.le_of_ble_eq_true rfl, Nat.le_of_ble_eq_true rfl⟩) hP hK hZ hN hS hl.1 rfl rfl (Nat.le_of_ble_eq_true rfl) dX5_weigh_44 (fun r44 M44 H locs h hP hS => ?_)
          refine lv_iadd hx hb dX5_weigh_47 ?_
          refine lv_topi (fun x8_48 ex8_48 => ?_)
          have h := h x8_48 ex8_48
          refine lv_istore (lv' := [(8, .int x8_48), (0, .ref (ad 41)), (1, .int x1), (2, .int x2), (3, .int x3), (4, .ref (ad 18)), (5, .int x5), (6, .int x6), (7, .int x7)]) hx hb dX5_weigh_48 hl (by decide) rfl (fun ls hl => ?_)
          refine lv_iload hx hb dX5_weigh_50 (lv_at hl 0 rfl) ?_
          refine lv_if_lt (tgt := 62) hx hb dX5_weigh_52 (by decide) (fun q52 => ?_) (fun q52 => ?_)
          · have h := h.1 q52
            exact J62 _ K113 hB hK113 x1 x2 x3 x5 x6 x7 M44 _ _ _ (lv_sub hl [1, 2, 3, 4, 5, 6, 7, 8] rfl) hP hS h
          · have h := h.2 q52
            refine lv_iload hx hb dX5_weigh_55 (lv_at hl 0 rfl) ?_
            refine lv_iload hx hb dX5_weigh_57 (lv_at hl 6 rfl) ?_
            refine lv_icmp_le (tgt := 67) hx hb dX5_weigh_59 (by decide) (fun q59 => ?_) (fun q59 => ?_)
            · have h := h.1 q59
              refine lv_aload hx hb dX5_weigh_67 (lv_at hl 5 rfl) ?_
              refine va_get (D := D) (ci := 1) (v := .ref (ad 27)) (C := RX1) (T := TX1) (N := 4) hx hb hts inX1 hown hK hP 18 (xW_18 cI cZ ad M44) rfl 2 (by decide) k5 (fun _ h9 => h9) rfl dX5_weigh_69 ?_
              refine lv_aload_n hx hb dX5_weigh_72 rfl (lv_at hl 1 rfl) ?_
              refine va_get (D := D) (ci := 5) (v := .ref (ad 42)) (C := RX5) (T := TX5) (N := 11) hx hb hts inX5 hown hK hP 41 (xW_41 cI cZ ad M44) rfl 7 (by decide) k7 (fun _ h9 => h9) rfl dX5_weigh_73 ?_
              refine lv_iload hx hb dX5_weigh_76 (lv_at hl 8 rfl) ?_
              obtain ⟨hi78, h⟩ := h
              refine va_iald hx hb hK hP 42 0 (xW_42 cI cZ ad M44) rfl hi78 dX5_weigh_78 ?_
              refine lv_bipush (v := 9) hx hb dX5_weigh_79 (by decide) ?_
              refine lv_imul hx hb dX5_weigh_81 ?_
              refine lv_iload hx hb dX5_weigh_82 (lv_at hl 0 rfl) ?_
              refine lv_iadd hx hb dX5_weigh_84 ?_
              obtain ⟨hi85, h⟩ := h
              refine va_iald hx hb hK hP 27 0 (xW_27 cI cZ ad M44) rfl hi85 dX5_weigh_85 ?_
              exact J86 _ K113 hB hK113 x1 x2 x3 x5 x6 x7 (M44 27 (((M44 42 (x7).toNatClampNeg) * 9) + x8_48).toNatClampNeg) M44 _ _ _ (lv_sub hl [1, 2, 3, 4, 5, 6, 7, 8] rfl) hP hS h
            · have h := h.2 q59
              exact J62 _ K113 hB hK113 x1 x2 x3 x5 x6 x7 M44 _ _ _ (lv_sub hl [1, 2, 3, 4, 5, 6, 7, 8] rfl) hP hS h
  have hl := lv_entry ([.ref (ad 41), .int a1, .int a2, .int a3, .ref (ad 18), .int a5]) (n := 10) (Nat.le_of_ble_eq_true rfl)
  rw [lg_entry_eq]
  generalize (lg_sl ([.ref (ad 41), .int a1, .int a2, .int a3, .ref (ad 18), .int a5]) ++ List.replicate (10 - (lg_sl ([.ref (ad 41), .int a1, .int a2, .int a3, .ref (ad 18), .int a5])).length) Slot.unset).toArray = ls at hl ⊢
  have hl : lv_has ls 10 [(0, .ref (ad 41)), (1, .int a1), (2, .int a2), (3, .int a3), (4, .ref (ad 18)), (5, .int a5)] := hl
  refine lv_iconst (v := 0) hx hb dX5_weigh_0 (by decide) ?_
  refine lv_istore (lv' := [(6, .int 0), (0, .ref (ad 41)), (1, .int a1), (2, .int a2), (3, .int a3), (4, .ref (ad 18)), (5, .int a5)]) hx hb dX5_weigh_1 hl (by decide) rfl (fun ls hl => ?_)
  refine lv_iconst (v := 0) hx hb dX5_weigh_3 (by decide) ?_
  refine lv_istore (lv' := [(7, .int 0), (6, .int 0), (0, .ref (ad 41)), (1, .int a1), (2, .int a2), (3, .int a3), (4, .ref (ad 18)), (5, .int a5)]) hx hb dX5_weigh_4 hl (by decide) rfl (fun ls hl => ?_)
  obtain ⟨n, h⟩ := h
  refine L6 _ (fun x1 x2 x3 x6 M H locs ls hl hP hS h => ?_) n a1 a2 a3 a5 0 0 M _ _ _ (lv_sub hl [2, 3, 4, 5, 6, 7, 1, 0] rfl) hP hS h
  refine lv_iload hx hb dX5_weigh_113 (lv_at hl 4 rfl) ?_
  refine lv_aload_n hx hb dX5_weigh_115 rfl (lv_at hl 0 rfl) ?_
  refine va_get (D := D) (ci := 5) (v := .int (M 41 4)) (C := RX5) (T := TX5) (N := 11) hx hb hts inX5 hown hK hP 41 (xW_41 cI cZ ad M) rfl 4 (by decide) k2 (fun _ h9 => h9) rfl dX5_weigh_116 ?_
  refine lv_icmp_ge (tgt := 143) hx hb dX5_weigh_119 (by decide) (fun q119 => ?_) (fun q119 => ?_)
  · have h := h.1 q119
    exact W.vret hx hb hr (fun t ht hW => ⟨⟨M, rfl, h, xAt_of ht hP⟩, hS.F ht⟩) hS.2.2 dX5_weigh_143
  · have h := h.2 q119
    refine lv_aload_n hx hb dX5_weigh_122 rfl (lv_at hl 0 rfl) ?_
    refine lv_iload_n hx hb dX5_weigh_123 rfl (lv_at hl 1 rfl) ?_
    refine va_put (D := D) (ci := 5) (v := .int x1) (ty := .int) (C := RX5) (T := TX5) (N := 11) hx hb hts inX5 tyX5 tyX5_ok nmX5 hown hK hP (hD M) hS 41 (xW_41 cI cZ ad M) rfl 1 (by decide) k8 (fun _ h9 => h9) rfl (by decide +kernel) rfl rfl (Nat.le_of_ble_eq_true rfl) dX5_weigh_124 (fun H locs hP _ hS => ?_)
    refine xP_41_1 hP (fun M124 eM124 hP => ?_)
    have h := h M124 eM124
    refine lv_aload_n hx hb dX5_weigh_127 rfl (lv_at hl 0 rfl) ?_
    refine lv_iload_n hx hb dX5_weigh_128 rfl (lv_at hl 2 rfl) ?_
    refine va_put (D := D) (ci := 5) (v := .int x2) (ty := .int) (C := RX5) (T := TX5) (N := 11) hx hb hts inX5 tyX5 tyX5_ok nmX5 hown hK hP (hD M124) hS 41 (xW_41 cI cZ ad M124) rfl 2 (by decide) k9 (fun _ h9 => h9) rfl (by decide +kernel) rfl rfl (Nat.le_of_ble_eq_true rfl) dX5_weigh_129 (fun H locs hP _ hS => ?_)
    refine xP_41_2 hP (fun M129 eM129 hP => ?_)
    have h := h M129 eM129
    refine lv_aload_n hx hb dX5_weigh_132 rfl (lv_at hl 0 rfl) ?_
    refine lv_iload_n hx hb dX5_weigh_133 rfl (lv_at hl 3 rfl) ?_
    refine va_put (D := D) (ci := 5) (v := .int x3) (ty := .int) (C := RX5) (T := TX5) (N := 11) hx hb hts inX5 tyX5 tyX5_ok nmX5 hown hK hP (hD M129) hS 41 (xW_41 cI cZ ad M129) rfl 3 (by decide) k10 (fun _ h9 => h9) rfl (by decide +kernel) rfl rfl (Nat.le_of_ble_eq_true rfl) dX5_weigh_134 (fun H locs hP _ hS => ?_)
    refine xP_41_3 hP (fun M134 eM134 hP => ?_)
    have h := h M134 eM134
    refine lv_aload_n hx hb dX5_weigh_137 rfl (lv_at hl 0 rfl) ?_
    refine lv_iload hx hb dX5_weigh_138 (lv_at hl 4 rfl) ?_
    refine va_put (D := D) (ci := 5) (v := .int x6) (ty := .int) (C := RX5) (T := TX5) (N := 11) hx hb hts inX5 tyX5 tyX5_ok nmX5 hown hK hP (hD M134) hS 41 (xW_41 cI cZ ad M134) rfl 4 (by decide) k2 (fun _ h9 => h9) rfl (by decide +kernel) rfl rfl (Nat.le_of_ble_eq_true rfl) dX5_weigh_140 (fun H locs hP _ hS => ?_)
    refine xP_41_4 hP (fun M140 eM140 hP => ?_)
    have h := h M140 eM140
    exact W.vret hx hb hr (fun t ht hW => ⟨⟨M140, rfl, h, xAt_of ht hP⟩, hS.F ht⟩) hS.2.2 dX5_weigh_143
abbrev GX5_add (p : Program) (l : Launch) (e : Env) (s : State) (m : MethodId) (below : List Frame) (meth : Method) (c : Code) (D : va_G) (cI cZ : ClassId) (ad : Nat → Nat) (a1 a2 a3 : Int32) (Q : Mem → Prop) (H : Heap) (locs : List Loc) (g : JFrame) : Prop := W p l e (headSpec uX5_add { frames := 0, cells := 0, slots := 0, locals := 0 }).room s m ([.ref (ad 41), .int a1, .int a2, .int a3] : List Value).toArray below meth c H locs 0 0 (MQ below (va_Qv Q (xAt D cI cZ ad) (xA ad)) ([.ref (ad 41), .int a1, .int a2, .int a3] : List Value).toArray s 0 0 (xA ad)) g
set_option maxHeartbeats 4000000 in
set_option maxRecDepth 100000 in
theorem kX5_add (l : Launch) (D : va_G) (cI cZ : ClassId) (ad : Nat → Nat) (zA zD zR : Nat) (hD : ∀ M : Mem, va_D (xA ad) (xW cI cZ ad M)) (M : Mem) (a1 a2 a3 : Int32) (Q : Mem → Prop) (h : wX5_add M a1 a2 a3 Q) : Met l yX5_add uX5_add ({ frames := 0, cells := 0, slots := 0, locals := 0 }) (va_Pc [.ref (ad 41), .int a1, .int a2, .int a3] (xPre D cI cZ ad zA zD zR M)) (va_Qv Q (xAt D cI cZ ad) (xA ad)) 0 0 (xA ad) := by
  refine Met.ofW (cc := cX5_add) (maxL := 4) (ret := none) (by decide) rfl ?_
  intro p e s m args below meth c s₁ B hml hv
  obtain ⟨rfl, hP, hK, hZ, hN⟩ := hv
  have hx := B.exec
  have hb := B.bytes
  have hr := B.returns
  have hts := atoms_spec (ws := uX5_add) B.pre
  have hown : s.vm.findClass RX5 = some m.cls := findClass_of_methodNamed B.named
  have hlocks := B.notSynchronized
  have hS : va_S (xA ad) s.heap s.heap [] := va_S.rf
  have k0 := hts (.fieldLink RX5 33 "TwoEyes$Planes" "places" "[I") (List.mem_cons_of_mem _ (inA_6 _ (List.mem_of_getElem? (i := 4) rfl)))
  have inX5 : ∀ w ∈ wsX50, w ∈ uX5_add := fun w h => List.mem_cons_of_mem _ (inCX5 w h)
  have k2 := hts (.fieldLink RX5 43 "TwoEyes$Planes" "members" "I") (List.mem_cons_of_mem _ (inA_6 _ (List.mem_of_getElem? (i := 7) rfl)))
  have k3 := hts (.fieldLink RX5 37 "TwoEyes$Planes" "aside" "[I") (List.mem_cons_of_mem _ (inA_6 _ (List.mem_of_getElem? (i := 5) rfl)))
  have k4 := hts (.fieldLink RX5 27 "TwoEyes$Planes" "anchorX" "I") (List.mem_cons_of_mem _ (inA_6 _ (List.mem_of_getElem? (i := 2) rfl)))
  have k5 := hts (.fieldLink RX5 40 "TwoEyes$Planes" "down" "[I") (List.mem_cons_of_mem _ (inA_6 _ (List.mem_of_getElem? (i := 6) rfl)))
  have k6 := hts (.fieldLink RX5 30 "TwoEyes$Planes" "anchorY" "I") (List.mem_cons_of_mem _ (inA_6 _ (List.mem_of_getElem? (i := 3) rfl)))
  have J17 : ∀ (x1 x2 x3 : Int32) (M : Mem) (H : Heap) (locs : List Loc) (ls : Array Slot), lv_has ls 4 [(0, .ref (ad 41)), (1, .int x1), (2, .int x2), (3, .int x3)] → va_P D vwCl (xW cI cZ ad M) H → va_S (xA ad) s.heap H locs → wX5_add_J17 Q x1 x2 x3 M → GX5_add p l e s m below meth c D cI cZ ad a1 a2 a3 Q H locs (F0 m 17 ls []) := by
    intro x1 x2 x3 M H locs ls hl hP hS h
    refine lv_aload_n hx hb dX5_add_17 rfl (lv_at hl 0 rfl) ?_
    refine va_get (D := D) (ci := 5) (v := .ref (ad 42)) (C := RX5) (T := TX5) (N := 11) hx hb hts inX5 hown hK hP 41 (xW_41 cI cZ ad M) rfl 7 (by decide) k0 (fun _ h9 => h9) rfl dX5_add_18 ?_
    refine lv_aload_n hx hb dX5_add_21 rfl (lv_at hl 0 rfl) ?_
    refine va_get (D := D) (ci := 5) (v := .int (M 41 10)) (C := RX5) (T := TX5) (N := 11) hx hb hts inX5 hown hK hP 41 (xW_41 cI cZ ad M) rfl 10 (by decide) k2 (fun _ h9 => h9) rfl dX5_add_22 ?_
    refine lv_iload_n hx hb dX5_add_25 rfl (lv_at hl 1 rfl) ?_
    obtain ⟨hi26, h⟩ := h
    refine va_iast hx hb hK hP (hD M) hS 42 0 (xW_42 cI cZ ad M) rfl hi26 dX5_add_26 (fun H locs hP _ hS => ?_)
    refine xQ_42 hP (fun M26 eM26 hP => ?_)
    have h := h M26 eM26
    refine lv_aload_n hx hb dX5_add_27 rfl (lv_at hl 0 rfl) ?_
    refine va_get (D := D) (ci := 5) (v := .ref (ad 43)) (C := RX5) (T := TX5) (N := 11) hx hb hts inX5 hown hK hP 41 (xW_41 cI cZ ad M26) rfl 8 (by decide) k3 (fun _ h9 => h9) rfl dX5_add_28 ?_
    refine lv_aload_n hx hb dX5_add_31 rfl (lv_at hl 0 rfl) ?_
    refine va_get (D := D) (ci := 5) (v := .int (M26 41 10)) (C := RX5) (T := TX5) (N := 11) hx hb hts inX5 hown hK hP 41 (xW_41 cI cZ ad M26) rfl 10 (by decide) k2 (fun _ h9 => h9) rfl dX5_add_32 ?_
    refine lv_iload_n hx hb dX5_add_35 rfl (lv_at hl 2 rfl) ?_
    refine lv_aload_n hx hb dX5_add_36 rfl (lv_at hl 0 rfl) ?_
    refine va_get (D := D) (ci := 5) (v := .int (M26 41 5)) (C := RX5) (T := TX5) (N := 11) hx hb hts inX5 hown hK hP 41 (xW_41 cI cZ ad M26) rfl 5 (by decide) k4 (fun _ h9 => h9) rfl dX5_add_37 ?_
    refine lv_isub hx hb dX5_add_40 ?_
    obtain ⟨hi41, h⟩ := h
    refine va_iast hx hb hK hP (hD M26) hS 43 0 (xW_43 cI cZ ad M26) rfl hi41 dX5_add_41 (fun H locs hP _ hS => ?_)
    refine xQ_43 hP (fun M41 eM41 hP => ?_)
    have h := h M41 eM41
    refine lv_aload_n hx hb dX5_add_42 rfl (lv_at hl 0 rfl) ?_
    refine va_get (D := D) (ci := 5) (v := .ref (ad 44)) (C := RX5) (T := TX5) (N := 11) hx hb hts inX5 hown hK hP 41 (xW_41 cI cZ ad M41) rfl 9 (by decide) k5 (fun _ h9 => h9) rfl dX5_add_43 ?_
    refine lv_aload_n hx hb dX5_add_46 rfl (lv_at hl 0 rfl) ?_
    refine va_get (D := D) (ci := 5) (v := .int (M41 41 10)) (C := RX5) (T := TX5) (N := 11) hx hb hts inX5 hown hK hP 41 (xW_41 cI cZ ad M41) rfl 10 (by decide) k2 (fun _ h9 => h9) rfl dX5_add_47 ?_
    refine lv_iload_n hx hb dX5_add_50 rfl (lv_at hl 3 rfl) ?_
    refine lv_aload_n hx hb dX5_add_51 rfl (lv_at hl 0 rfl) ?_
    refine va_get (D := D) (ci := 5) (v := .int (M41 41 6)) (C := RX5) (T := TX5) (N := 11) hx hb hts inX5 hown hK hP 41 (xW_41 cI cZ ad M41) rfl 6 (by decide) k6 (fun _ h9 => h9) rfl dX5_add_52 ?_
    refine lv_isub hx hb dX5_add_55 ?_
    obtain ⟨hi56, h⟩ := h
    refine va_iast hx hb hK hP (hD M41) hS 44 0 (xW_44 cI cZ ad M41) rfl hi56 dX5_add_56 (fun H locs hP _ hS => ?_)
    refine xQ_44 hP (fun M56 eM56 hP => ?_)
    have h := h M56 eM56
    refine lv_aload_n hx hb dX5_add_57 rfl (lv_at hl 0 rfl) ?_
    refine lv_dup hx hb dX5_add_58 rfl ?_
    refine va_get (D := D) (ci := 5) (v := .int (M56 41 10)) (C := RX5) (T := TX5) (N := 11) hx hb hts inX5 hown hK hP 41 (xW_41 cI cZ ad M56) rfl 10 (by decide) k2 (fun _ h9 => h9) rfl dX5_add_59 ?_
    refine lv_iconst (v := 1) hx hb dX5_add_62 (by decide) ?_
    refine lv_iadd hx hb dX5_add_63 ?_
    refine va_put (D := D) (ci := 5) (v := .int ((M56 41 10) + 1)) (ty := .int) (C := RX5) (T := TX5) (N := 11) hx hb hts inX5 tyX5 tyX5_ok nmX5 hown hK hP (hD M56) hS 41 (xW_41 cI cZ ad M56) rfl 10 (by decide) k2 (fun _ h9 => h9) rfl (by decide +kernel) rfl rfl (Nat.le_of_ble_eq_true rfl) dX5_add_64 (fun H locs hP _ hS => ?_)
    refine xP_41_10 hP (fun M64 eM64 hP => ?_)
    have h := h M64 eM64
    exact W.vret hx hb hr (fun t ht hW => ⟨⟨M64, rfl, h, xAt_of ht hP⟩, hS.F ht⟩) hS.2.2 dX5_add_67
  have hl := lv_entry ([.ref (ad 41), .int a1, .int a2, .int a3]) (n := 4) (Nat.le_of_ble_eq_true rfl)
  rw [lg_entry_eq]
  generalize (lg_sl ([.ref (ad 41), .int a1, .int a2, .int a3]) ++ List.replicate (4 - (lg_sl ([.ref (ad 41), .int a1, .int a2, .int a3])).length) Slot.unset).toArray = ls at hl ⊢
  have hl : lv_has ls 4 [(0, .ref (ad 41)), (1, .int a1), (2, .int a2), (3, .int a3)] := hl
  refine lv_aload_n hx hb dX5_add_0 rfl (lv_at hl 0 rfl) ?_
  refine va_get (D := D) (ci := 5) (v := .int (M 41 10)) (C := RX5) (T := TX5) (N := 11) hx hb hts inX5 hown hK hP 41 (xW_41 cI cZ ad M) rfl 10 (by decide) k2 (fun _ h9 => h9) rfl dX5_add_1 ?_
  refine lv_if_ne (tgt := 17) hx hb dX5_add_4 (by decide) (fun q4 => ?_) (fun q4 => ?_)
  · have h := h.1 q4
    exact J17 a1 a2 a3 M _ _ _ (lv_sub hl [0, 1, 2, 3] rfl) hP hS h
  · have h := h.2 q4
    refine lv_aload_n hx hb dX5_add_7 rfl (lv_at hl 0 rfl) ?_
    refine lv_iload_n hx hb dX5_add_8 rfl (lv_at hl 2 rfl) ?_
    refine va_put (D := D) (ci := 5) (v := .int a2) (ty := .int) (C := RX5) (T := TX5) (N := 11) hx hb hts inX5 tyX5 tyX5_ok nmX5 hown hK hP (hD M) hS 41 (xW_41 cI cZ ad M) rfl 5 (by decide) k4 (fun _ h9 => h9) rfl (by decide +kernel) rfl rfl (Nat.le_of_ble_eq_true rfl) dX5_add_9 (fun H locs hP _ hS => ?_)
    refine xP_41_5 hP (fun M9 eM9 hP => ?_)
    have h := h M9 eM9
    refine lv_aload_n hx hb dX5_add_12 rfl (lv_at hl 0 rfl) ?_
    refine lv_iload_n hx hb dX5_add_13 rfl (lv_at hl 3 rfl) ?_
    refine va_put (D := D) (ci := 5) (v := .int a3) (ty := .int) (C := RX5) (T := TX5) (N := 11) hx hb hts inX5 tyX5 tyX5_ok nmX5 hown hK hP (hD M9) hS 41 (xW_41 cI cZ ad M9) rfl 6 (by decide) k6 (fun _ h9 => h9) rfl (by decide +kernel) rfl rfl (Nat.le_of_ble_eq_true rfl) dX5_add_14 (fun H locs hP _ hS => ?_)
    refine xP_41_6 hP (fun M14 eM14 hP => ?_)
    have h := h M14 eM14
    exact J17 a1 a2 a3 M14 _ _ _ (lv_sub hl [0, 1, 2, 3] rfl) hP hS h
abbrev GX5_collect (p : Program) (l : Launch) (e : Env) (s : State) (m : MethodId) (below : List Frame) (meth : Method) (c : Code) (D : va_G) (cI cZ : ClassId) (ad : Nat → Nat) (a1 : Int32) (Q : Mem → Prop) (H : Heap) (locs : List Loc) (g : JFrame) : Prop := W p l e (headSpec uX5_collect { frames := 1, cells := 0, slots := 0, locals := 23 }).room s m ([.ref (ad 41), .int a1, .ref (ad 1), .ref (ad 39)] : List Value).toArray below meth c H locs 0 0 (MQ below (va_Qv Q (xAt D cI cZ ad) (xA ad)) ([.ref (ad 41), .int a1, .ref (ad 1), .ref (ad 39)] : List Value).toArray s 0 0 (xA ad)) g
set_option maxHeartbeats 4000000 in
set_option maxRecDepth 100000 in
theorem kX5_collect (l : Launch) (D : va_G) (cI cZ : ClassId) (ad : Nat → Nat) (zA zD zR : Nat) (hD : ∀ M : Mem, va_D (xA ad) (xW cI cZ ad M)) (M : Mem) (a1 : Int32) (Q : Mem → Prop) (h : wX5_collect M a1 Q) : Met l yX5_collect uX5_collect ({ frames := 1, cells := 0, slots := 0, locals := 23 }) (va_Pc [.ref (ad 41), .int a1, .ref (ad 1), .ref (ad 39)] (xPre D cI cZ ad zA zD zR M)) (va_Qv Q (xAt D cI cZ ad) (xA ad)) 0 0 (xA ad) := by
  refine Met.ofW (cc := cX5_collect) (maxL := 7) (ret := none) (by decide) rfl ?_
  intro p e s m args below meth c s₁ B hml hv
  obtain ⟨rfl, hP, hK, hZ, hN⟩ := hv
  have hx := B.exec
  have hb := B.bytes
  have hr := B.returns
  have hts := atoms_spec (ws := uX5_collect) B.pre
  have hown : s.vm.findClass RX5 = some m.cls := findClass_of_methodNamed B.named
  have hlocks := B.notSynchronized
  have hS : va_S (xA ad) s.heap s.heap [] := va_S.rf
  have k0 := hts (.fieldLink RX5 62 "TwoEyes$Scene" "width" "I") (List.mem_cons_of_mem _ (inA_31 _ (List.mem_of_getElem? (i := 5) rfl)))
  have inX6 : ∀ w ∈ wsX60, w ∈ uX5_collect := fun w h => List.mem_cons_of_mem _ (inCX6 w h)
  have k2 := hts (.fieldLink RX5 69 "TwoEyes$Segments" "anchor" "[I") (List.mem_cons_of_mem _ (inA_31 _ (List.mem_of_getElem? (i := 6) rfl)))
  have inX7 : ∀ w ∈ wsX70, w ∈ uX5_collect := fun w h => List.mem_cons_of_mem _ (inCX7 w h)
  have k4 := hts (.fieldLink RX5 57 "TwoEyes$Scene" "height" "I") (List.mem_cons_of_mem _ (inA_31 _ (List.mem_of_getElem? (i := 4) rfl)))
  have k5 := hts (.fieldLink RX5 43 "TwoEyes$Planes" "members" "I") (List.mem_cons_of_mem _ (inA_6 _ (List.mem_of_getElem? (i := 7) rfl)))
  have inX5 : ∀ w ∈ wsX50, w ∈ uX5_collect := fun w h => List.mem_cons_of_mem _ (inCX5 w h)
  have L20 : ∀ (K66 : Int32 → Int32 → Mem → Prop), (∀ (x1 x4 : Int32) (M : Mem) (H : Heap) (locs : List Loc) (ls : Array Slot), lv_has ls 7 [(0, .ref (ad 41)), (1, .int x1), (2, .ref (ad 1)), (3, .ref (ad 39)), (4, .int x4)] → va_P D vwCl (xW cI cZ ad M) H → va_S (xA ad) s.heap H locs → K66 x1 x4 M → GX5_collect p l e s m below meth c D cI cZ ad a1 Q H locs (F0 m 66 ls [])) → ∀ n : Nat, ∀ (x1 x4 x5 : Int32) (M : Mem) (H : Heap) (locs : List Loc) (ls : Array Slot), lv_has ls 7 [(0, .ref (ad 41)), (1, .int x1), (2, .ref (ad 1)), (3, .ref (ad 39)), (4, .int x4), (5, .int x5)] → va_P D vwCl (xW cI cZ ad M) H → va_S (xA ad) s.heap H locs → wX5_collect_L20 K66 Q n x1 x4 x5 M → GX5_collect p l e s m below meth c D cI cZ ad a1 Q H locs (F0 m 20 ls []) := by
    intro K66 hK66 n
    induction n with
    | zero => intro x1 x4 x5 M H locs ls hl hP hS h; exact (show False from h).elim
    | succ n hB =>
      intro x1 x4 x5 M H locs ls hl hP hS h
      rw [wX5_collect_L20_s] at h
      refine lv_iload hx hb dX5_collect_20 (lv_at hl 5 rfl) ?_
      refine lv_aload_n hx hb dX5_collect_22 rfl (lv_at hl 2 rfl) ?_
      refine va_get (D := D) (ci := 6) (v := .int (M 1 0)) (C := RX6) (T := TX6) (N := 5) hx hb hts inX6 hown hK hP 1 (xW_1 cI cZ ad M) rfl 0 (by decide) k0 (fun _ h9 => h9) rfl dX5_collect_23 ?_
      refine lv_icmp_ge (tgt := 66) hx hb dX5_collect_26 (by decide) (fun q26 => ?_) (fun q26 => ?_)
      · have h := h.1 q26
        exact hK66 x1 x4 M _ _ _ (lv_sub hl [0, 1, 2, 3, 4] rfl) hP hS h
      · have h := h.2 q26
        refine lv_aload_n hx hb dX5_collect_29 rfl (lv_at hl 2 rfl) ?_
        refine lv_iload hx hb dX5_collect_30 (lv_at hl 5 rfl) ?_
        refine lv_iload hx hb dX5_collect_32 (lv_at hl 4 rfl) ?_
        refine x_callVi (As := [.int x5, .int x4]) (rest := []) ⟨hx, hb, hml, hown, hts⟩ (kX6_placeOf l D cI cZ ad zA zD zR hD M x5 x4 _ h) (cwV 2 hts (gdV uS (inA_31 _ (List.mem_of_getElem? (i := 7) rfl)) vX6_placeOf) rfl rfl rfl (by decide +kernel) ⟨Nat.le_of_ble_eq_true rfl, Nat.le_of_ble_eq_true rfl⟩) (va_recv hK hP (ci := 6) (q0 := 1) rfl (xW_1 cI cZ ad M)) hP hK hZ hN hS hl.1 rfl rfl (Nat.le_of_ble_eq_true rfl) dX5_collect_34 (fun r34 M34 H locs h hP hS => ?_)
        refine lv_istore (lv' := [(6, .int r34), (0, .ref (ad 41)), (1, .int x1), (2, .ref (ad 1)), (3, .ref (ad 39)), (4, .int x4), (5, .int x5)]) hx hb dX5_collect_37 hl (by decide) rfl (fun ls hl => ?_)
        refine lv_aload_n hx hb dX5_collect_39 rfl (lv_at hl 4 rfl) ?_
        refine va_get (D := D) (ci := 7) (v := .ref (ad 40)) (C := RX7) (T := TX7) (N := 2) hx hb hts inX7 hown hK hP 39 (xW_39 cI cZ ad M34) rfl 0 (by decide) k2 (fun _ h9 => h9) rfl dX5_collect_40 ?_
        refine lv_iload hx hb dX5_collect_43 (lv_at hl 0 rfl) ?_
        obtain ⟨hi45, h⟩ := h
        refine va_iald hx hb hK hP 40 0 (xW_40 cI cZ ad M34) rfl hi45 dX5_collect_45 ?_
        refine lv_iload_n hx hb dX5_collect_46 rfl (lv_at hl 2 rfl) ?_
        refine lv_icmp_ne (tgt := 60) hx hb dX5_collect_47 (by decide) (fun q47 => ?_) (fun q47 => ?_)
        · have h := h.1 q47
          obtain ⟨x5_60, ex5_60⟩ : ∃ y : Int32, y = x5 + 1 := ⟨_, rfl⟩
          have h := h x5_60 ex5_60
          refine lv_iinc (v := x5_60) (lv' := [(5, .int x5_60), (6, .int r34), (0, .ref (ad 41)), (1, .int x1), (2, .ref (ad 1)), (3, .ref (ad 39)), (4, .int x4)]) hx hb dX5_collect_60 hl (k := 6) rfl (by rw [ex5_60]; rfl) (by decide) rfl (fun ls hl => ?_)
          refine lv_goto (tgt := 20) hx hb dX5_collect_63 (by decide) ?_
          exact hB x1 x4 x5_60 M34 _ _ _ (lv_sub hl [2, 3, 4, 5, 6, 0] rfl) hP hS h
        · have h := h.2 q47
          refine lv_aload_n hx hb dX5_collect_50 rfl (lv_at hl 1 rfl) ?_
          refine lv_iload hx hb dX5_collect_51 (lv_at hl 0 rfl) ?_
          refine lv_iload hx hb dX5_collect_53 (lv_at hl 6 rfl) ?_
          refine lv_iload hx hb dX5_collect_55 (lv_at hl 5 rfl) ?_
          refine x_callVv (As := [.int r34, .int x5, .int x4]) (rest := []) ⟨hx, hb, hml, hown, hts⟩ (kX5_add l D cI cZ ad zA zD zR hD M34 r34 x5 x4 _ h) (cwV 3 hts (gdV uS (inA_31 _ (List.mem_of_getElem? (i := 8) rfl)) vX5_add) rfl rfl rfl (by decide +kernel) ⟨Nat.le_of_ble_eq_true rfl, Nat.le_of_ble_eq_true rfl⟩) (va_recv hK hP (ci := 5) (q0 := 41) rfl (xW_41 cI cZ ad M34)) hP hK hZ hN hS hl.1 rfl rfl (Nat.le_of_ble_eq_true rfl) dX5_collect_57 (fun M57 H locs h hP hS => ?_)
          obtain ⟨x5_60, ex5_60⟩ : ∃ y : Int32, y = x5 + 1 := ⟨_, rfl⟩
          have h := h x5_60 ex5_60
          refine lv_iinc (v := x5_60) (lv' := [(5, .int x5_60), (6, .int r34), (0, .ref (ad 41)), (1, .int x1), (2, .ref (ad 1)), (3, .ref (ad 39)), (4, .int x4)]) hx hb dX5_collect_60 hl (k := 6) rfl (by rw [ex5_60]; rfl) (by decide) rfl (fun ls hl => ?_)
          refine lv_goto (tgt := 20) hx hb dX5_collect_63 (by decide) ?_
          exact hB x1 x4 x5_60 M57 _ _ _ (lv_sub hl [2, 3, 4, 5, 6, 0] rfl) hP hS h
  have L8 : ∀ (K72 : Mem → Prop), (∀ (M : Mem) (H : Heap) (locs : List Loc) (ls : Array Slot), lv_has ls 7 [] → va_P D vwCl (xW cI cZ ad M) H → va_S (xA ad) s.heap H locs → K72 M → GX5_collect p l e s m below meth c D cI cZ ad a1 Q H locs (F0 m 72 ls [])) → ∀ n : Nat, ∀ (x1 x4 : Int32) (M : Mem) (H : Heap) (locs : List Loc) (ls : Array Slot), lv_has ls 7 [(0, .ref (ad 41)), (1, .int x1), (2, .ref (ad 1)), (3, .ref (ad 39)), (4, .int x4)] → va_P D vwCl (xW cI cZ ad M) H → va_S (xA ad) s.heap H locs → wX5_collect_L8 K72 Q n x1 x4 M → GX5_collect p l e s m below meth c D cI cZ ad a1 Q H locs (F0 m 8 ls []) := by
    intro K72 hK72 n
    induction n with
    | zero => intro x1 x4 M H locs ls hl hP hS h; exact (show False from h).elim
    | succ n hB =>
      intro x1 x4 M H locs ls hl hP hS h
      rw [wX5_collect_L8_s] at h
      refine lv_iload hx hb dX5_collect_8 (lv_at hl 4 rfl) ?_
      refine lv_aload_n hx hb dX5_collect_10 rfl (lv_at hl 2 rfl) ?_
      refine va_get (D := D) (ci := 6) (v := .int (M 1 1)) (C := RX6) (T := TX6) (N := 5) hx hb hts inX6 hown hK hP 1 (xW_1 cI cZ ad M) rfl 1 (by decide) k4 (fun _ h9 => h9) rfl dX5_collect_11 ?_
      refine lv_icmp_ge (tgt := 72) hx hb dX5_collect_14 (by decide) (fun q14 => ?_) (fun q14 => ?_)
      · have h := h.1 q14
        exact hK72 M _ _ _ (lv_sub hl [] rfl) hP hS h
      · have h := h.2 q14
        refine lv_iconst (v := 0) hx hb dX5_collect_17 (by decide) ?_
        refine lv_istore (lv' := [(5, .int 0), (0, .ref (ad 41)), (1, .int x1), (2, .ref (ad 1)), (3, .ref (ad 39)), (4, .int x4)]) hx hb dX5_collect_18 hl (by decide) rfl (fun ls hl => ?_)
        obtain ⟨n, h⟩ := h
        refine L20 _ (fun x1 x4 M H locs ls hl hP hS h => ?_) n x1 x4 0 M _ _ _ (lv_sub hl [1, 2, 3, 4, 5, 0] rfl) hP hS h
        obtain ⟨x4_66, ex4_66⟩ : ∃ y : Int32, y = x4 + 1 := ⟨_, rfl⟩
        have h := h x4_66 ex4_66
        refine lv_iinc (v := x4_66) (lv' := [(4, .int x4_66), (0, .ref (ad 41)), (1, .int x1), (2, .ref (ad 1)), (3, .ref (ad 39))]) hx hb dX5_collect_66 hl (k := 4) rfl (by rw [ex4_66]; rfl) (by decide) rfl (fun ls hl => ?_)
        refine lv_goto (tgt := 8) hx hb dX5_collect_69 (by decide) ?_
        exact hB x1 x4_66 M _ _ _ (lv_sub hl [1, 2, 3, 4, 0] rfl) hP hS h
  have hl := lv_entry ([.ref (ad 41), .int a1, .ref (ad 1), .ref (ad 39)]) (n := 7) (Nat.le_of_ble_eq_true rfl)
  rw [lg_entry_eq]
  generalize (lg_sl ([.ref (ad 41), .int a1, .ref (ad 1), .ref (ad 39)]) ++ List.replicate (7 - (lg_sl ([.ref (ad 41), .int a1, .ref (ad 1), .ref (ad 39)])).length) Slot.unset).toArray = ls at hl ⊢
  have hl : lv_has ls 7 [(0, .ref (ad 41)), (1, .int a1), (2, .ref (ad 1)), (3, .ref (ad 39))] := hl
  refine lv_aload_n hx hb dX5_collect_0 rfl (lv_at hl 0 rfl) ?_
  refine lv_iconst (v := 0) hx hb dX5_collect_1 (by decide) ?_
  refine va_put (D := D) (ci := 5) (v := .int 0) (ty := .int) (C := RX5) (T := TX5) (N := 11) hx hb hts inX5 tyX5 tyX5_ok nmX5 hown hK hP (hD M) hS 41 (xW_41 cI cZ ad M) rfl 10 (by decide) k5 (fun _ h9 => h9) rfl (by decide +kernel) rfl rfl (Nat.le_of_ble_eq_true rfl) dX5_collect_2 (fun H locs hP _ hS => ?_)
  refine xP_41_10 hP (fun M2 eM2 hP => ?_)
  have h := h M2 eM2
  refine lv_iconst (v := 0) hx hb dX5_collect_5 (by decide) ?_
  refine lv_istore (lv' := [(4, .int 0), (0, .ref (ad 41)), (1, .int a1), (2, .ref (ad 1)), (3, .ref (ad 39))]) hx hb dX5_collect_6 hl (by decide) rfl (fun ls hl => ?_)
  obtain ⟨n, h⟩ := h
  refine L8 _ (fun  M H locs ls hl hP hS h => ?_) n a1 0 M2 _ _ _ (lv_sub hl [1, 2, 3, 4, 0] rfl) hP hS h
  exact W.vret hx hb hr (fun t ht hW => ⟨⟨M, rfl, h, xAt_of ht hP⟩, hS.F ht⟩) hS.2.2 dX5_collect_72
abbrev GX5_find (p : Program) (l : Launch) (e : Env) (s : State) (m : MethodId) (below : List Frame) (meth : Method) (c : Code) (D : va_G) (cI cZ : ClassId) (ad : Nat → Nat) (a1 a5 : Int32) (Q : Mem → Prop) (H : Heap) (locs : List Loc) (g : JFrame) : Prop := W p l e (headSpec uX5_find { frames := 2, cells := 0, slots := 0, locals := 49 }).room s m ([.ref (ad 41), .int a1, .ref (ad 1), .ref (ad 39), .ref (ad 18), .int a5] : List Value).toArray below meth c H locs 0 0 (MQ below (va_Qv Q (xAt D cI cZ ad) (xA ad)) ([.ref (ad 41), .int a1, .ref (ad 1), .ref (ad 39), .ref (ad 18), .int a5] : List Value).toArray s 0 0 (xA ad)) g
set_option maxHeartbeats 4000000 in
set_option maxRecDepth 100000 in
theorem kX5_find (l : Launch) (D : va_G) (cI cZ : ClassId) (ad : Nat → Nat) (zA zD zR : Nat) (hD : ∀ M : Mem, va_D (xA ad) (xW cI cZ ad M)) (M : Mem) (a1 a5 : Int32) (Q : Mem → Prop) (h : wX5_find M a1 a5 Q) : Met l yX5_find uX5_find ({ frames := 2, cells := 0, slots := 0, locals := 49 }) (va_Pc [.ref (ad 41), .int a1, .ref (ad 1), .ref (ad 39), .ref (ad 18), .int a5] (xPre D cI cZ ad zA zD zR M)) (va_Qv Q (xAt D cI cZ ad) (xA ad)) 0 0 (xA ad) := by
  refine Met.ofW (cc := cX5_find) (maxL := 9) (ret := none) (by decide) rfl ?_
  intro p e s m args below meth c s₁ B hml hv
  obtain ⟨rfl, hP, hK, hZ, hN⟩ := hv
  have hx := B.exec
  have hb := B.bytes
  have hr := B.returns
  have hts := atoms_spec (ws := uX5_find) B.pre
  have hown : s.vm.findClass RX5 = some m.cls := findClass_of_methodNamed B.named
  have hlocks := B.notSynchronized
  have hS : va_S (xA ad) s.heap s.heap [] := va_S.rf
  have k0 := hts (.fieldLink RX5 9 "TwoEyes$Planes" "anchor" "I") (List.mem_cons_of_mem _ (inA_5 _ (List.mem_of_getElem? (i := 21) rfl)))
  have inX5 : ∀ w ∈ wsX50, w ∈ uX5_find := fun w h => List.mem_cons_of_mem _ (inCX5 w h)
  have k2 := hts (.constant RX5 52 (2147483647)) (List.mem_cons_of_mem _ (inA_30 _ (List.mem_of_getElem? (i := 23) rfl)))
  have k3 := hts (.fieldLink RX5 24 "TwoEyes$Planes" "price" "I") (List.mem_cons_of_mem _ (inA_6 _ (List.mem_of_getElem? (i := 1) rfl)))
  have L46 : ∀ (K72 : Int32 → Int32 → Int32 → Int32 → Mem → Prop), (∀ (x1 x5 x6 x7 : Int32) (M : Mem) (H : Heap) (locs : List Loc) (ls : Array Slot), lv_has ls 9 [(0, .ref (ad 41)), (1, .int x1), (4, .ref (ad 18)), (5, .int x5), (6, .int x6), (7, .int x7)] → va_P D vwCl (xW cI cZ ad M) H → va_S (xA ad) s.heap H locs → K72 x1 x5 x6 x7 M → GX5_find p l e s m below meth c D cI cZ ad a1 a5 Q H locs (F0 m 72 ls [])) → ∀ n : Nat, ∀ (x1 x5 x6 x7 x8 : Int32) (M : Mem) (H : Heap) (locs : List Loc) (ls : Array Slot), lv_has ls 9 [(0, .ref (ad 41)), (1, .int x1), (4, .ref (ad 18)), (5, .int x5), (6, .int x6), (7, .int x7), (8, .int x8)] → va_P D vwCl (xW cI cZ ad M) H → va_S (xA ad) s.heap H locs → wX5_find_L46 K72 Q n x1 x5 x6 x7 x8 M → GX5_find p l e s m below meth c D cI cZ ad a1 a5 Q H locs (F0 m 46 ls []) := by
    intro K72 hK72 n
    induction n with
    | zero => intro x1 x5 x6 x7 x8 M H locs ls hl hP hS h; exact (show False from h).elim
    | succ n hB =>
      intro x1 x5 x6 x7 x8 M H locs ls hl hP hS h
      rw [wX5_find_L46_s] at h
      refine lv_iload hx hb dX5_find_46 (lv_at hl 6 rfl) ?_
      refine lv_iconst (v := 2) hx hb dX5_find_48 (by decide) ?_
      refine lv_icmp_gt (tgt := 72) hx hb dX5_find_49 (by decide) (fun q49 => ?_) (fun q49 => ?_)
      · have h := h.1 q49
        exact hK72 x1 x5 x6 x7 M _ _ _ (lv_sub hl [0, 1, 2, 3, 4, 5] rfl) hP hS h
      · have h := h.2 q49
        refine lv_aload_n hx hb dX5_find_52 rfl (lv_at hl 0 rfl) ?_
        refine lv_iload hx hb dX5_find_53 (lv_at hl 4 rfl) ?_
        refine lv_iload hx hb dX5_find_55 (lv_at hl 5 rfl) ?_
        refine lv_iload hx hb dX5_find_57 (lv_at hl 6 rfl) ?_
        refine lv_aload hx hb dX5_find_59 (lv_at hl 2 rfl) ?_
        refine lv_iload hx hb dX5_find_61 (lv_at hl 3 rfl) ?_
        refine x_callVv (As := [.int x6, .int x7, .int x8, .ref (ad 18), .int x5]) (rest := []) ⟨hx, hb, hml, hown, hts⟩ (kX5_weigh l D cI cZ ad zA zD zR hD M x6 x7 x8 x5 _ h) (cwV 5 hts (gdV uS (inA_31 _ (List.mem_of_getElem? (i := 12) rfl)) vX5_weigh) rfl rfl rfl (by decide +kernel) ⟨Nat.le_of_ble_eq_true rfl, Nat.le_of_ble_eq_true rfl⟩) (va_recv hK hP (ci := 5) (q0 := 41) rfl (xW_41 cI cZ ad M)) hP hK hZ hN hS hl.1 rfl rfl (Nat.le_of_ble_eq_true rfl) dX5_find_63 (fun M63 H locs h hP hS => ?_)
        obtain ⟨x8_66, ex8_66⟩ : ∃ y : Int32, y = x8 + 1 := ⟨_, rfl⟩
        have h := h x8_66 ex8_66
        refine lv_iinc (v := x8_66) (lv' := [(8, .int x8_66), (0, .ref (ad 41)), (1, .int x1), (4, .ref (ad 18)), (5, .int x5), (6, .int x6), (7, .int x7)]) hx hb dX5_find_66 hl (k := 6) rfl (by rw [ex8_66]; rfl) (by decide) rfl (fun ls hl => ?_)
        refine lv_goto (tgt := 46) hx hb dX5_find_69 (by decide) ?_
        exact hB x1 x5 x6 x7 x8_66 M63 _ _ _ (lv_sub hl [1, 2, 3, 4, 5, 6, 0] rfl) hP hS h
  have L36 : ∀ (K78 : Int32 → Int32 → Int32 → Mem → Prop), (∀ (x1 x5 x6 : Int32) (M : Mem) (H : Heap) (locs : List Loc) (ls : Array Slot), lv_has ls 9 [(0, .ref (ad 41)), (1, .int x1), (4, .ref (ad 18)), (5, .int x5), (6, .int x6)] → va_P D vwCl (xW cI cZ ad M) H → va_S (xA ad) s.heap H locs → K78 x1 x5 x6 M → GX5_find p l e s m below meth c D cI cZ ad a1 a5 Q H locs (F0 m 78 ls [])) → ∀ n : Nat, ∀ (x1 x5 x6 x7 : Int32) (M : Mem) (H : Heap) (locs : List Loc) (ls : Array Slot), lv_has ls 9 [(0, .ref (ad 41)), (1, .int x1), (4, .ref (ad 18)), (5, .int x5), (6, .int x6), (7, .int x7)] → va_P D vwCl (xW cI cZ ad M) H → va_S (xA ad) s.heap H locs → wX5_find_L36 K78 Q n x1 x5 x6 x7 M → GX5_find p l e s m below meth c D cI cZ ad a1 a5 Q H locs (F0 m 36 ls []) := by
    intro K78 hK78 n
    induction n with
    | zero => intro x1 x5 x6 x7 M H locs ls hl hP hS h; exact (show False from h).elim
    | succ n hB =>
      intro x1 x5 x6 x7 M H locs ls hl hP hS h
      rw [wX5_find_L36_s] at h
      refine lv_iload hx hb dX5_find_36 (lv_at hl 5 rfl) ?_
      refine lv_iconst (v := 2) hx hb dX5_find_38 (by decide) ?_
      refine lv_icmp_gt (tgt := 78) hx hb dX5_find_39 (by decide) (fun q39 => ?_) (fun q39 => ?_)
      · have h := h.1 q39
        exact hK78 x1 x5 x6 M _ _ _ (lv_sub hl [0, 1, 2, 3, 4] rfl) hP hS h
      · have h := h.2 q39
        refine lv_bipush (v := (-2)) hx hb dX5_find_42 (by decide) ?_
        refine lv_istore (lv' := [(8, .int (-2)), (0, .ref (ad 41)), (1, .int x1), (4, .ref (ad 18)), (5, .int x5), (6, .int x6), (7, .int x7)]) hx hb dX5_find_44 hl (by decide) rfl (fun ls hl => ?_)
        obtain ⟨n, h⟩ := h
        refine L46 _ (fun x1 x5 x6 x7 M H locs ls hl hP hS h => ?_) n x1 x5 x6 x7 (-2) M _ _ _ (lv_sub hl [1, 2, 3, 4, 5, 6, 0] rfl) hP hS h
        obtain ⟨x7_72, ex7_72⟩ : ∃ y : Int32, y = x7 + 1 := ⟨_, rfl⟩
        have h := h x7_72 ex7_72
        refine lv_iinc (v := x7_72) (lv' := [(7, .int x7_72), (0, .ref (ad 41)), (1, .int x1), (4, .ref (ad 18)), (5, .int x5), (6, .int x6)]) hx hb dX5_find_72 hl (k := 5) rfl (by rw [ex7_72]; rfl) (by decide) rfl (fun ls hl => ?_)
        refine lv_goto (tgt := 36) hx hb dX5_find_75 (by decide) ?_
        exact hB x1 x5 x6 x7_72 M _ _ _ (lv_sub hl [1, 2, 3, 4, 5, 0] rfl) hP hS h
  have L25 : ∀ (K84 : Int32 → Mem → Prop), (∀ (x1 : Int32) (M : Mem) (H : Heap) (locs : List Loc) (ls : Array Slot), lv_has ls 9 [(0, .ref (ad 41)), (1, .int x1)] → va_P D vwCl (xW cI cZ ad M) H → va_S (xA ad) s.heap H locs → K84 x1 M → GX5_find p l e s m below meth c D cI cZ ad a1 a5 Q H locs (F0 m 84 ls [])) → ∀ n : Nat, ∀ (x1 x5 x6 : Int32) (M : Mem) (H : Heap) (locs : List Loc) (ls : Array Slot), lv_has ls 9 [(0, .ref (ad 41)), (1, .int x1), (4, .ref (ad 18)), (5, .int x5), (6, .int x6)] → va_P D vwCl (xW cI cZ ad M) H → va_S (xA ad) s.heap H locs → wX5_find_L25 K84 Q n x1 x5 x6 M → GX5_find p l e s m below meth c D cI cZ ad a1 a5 Q H locs (F0 m 25 ls []) := by
    intro K84 hK84 n
    induction n with
    | zero => intro x1 x5 x6 M H locs ls hl hP hS h; exact (show False from h).elim
    | succ n hB =>
      intro x1 x5 x6 M H locs ls hl hP hS h
      rw [wX5_find_L25_s] at h
      refine lv_iload hx hb dX5_find_25 (lv_at hl 4 rfl) ?_
      refine lv_iload hx hb dX5_find_27 (lv_at hl 3 rfl) ?_
      refine lv_icmp_gt (tgt := 84) hx hb dX5_find_29 (by decide) (fun q29 => ?_) (fun q29 => ?_)
      · have h := h.1 q29
        exact hK84 x1 M _ _ _ (lv_sub hl [0, 1] rfl) hP hS h
      · have h := h.2 q29
        refine lv_bipush (v := (-2)) hx hb dX5_find_32 (by decide) ?_
        refine lv_istore (lv' := [(7, .int (-2)), (0, .ref (ad 41)), (1, .int x1), (4, .ref (ad 18)), (5, .int x5), (6, .int x6)]) hx hb dX5_find_34 hl (by decide) rfl (fun ls hl => ?_)
        obtain ⟨n, h⟩ := h
        refine L36 _ (fun x1 x5 x6 M H locs ls hl hP hS h => ?_) n x1 x5 x6 (-2) M _ _ _ (lv_sub hl [1, 2, 3, 4, 5, 0] rfl) hP hS h
        obtain ⟨x6_78, ex6_78⟩ : ∃ y : Int32, y = x6 + 1 := ⟨_, rfl⟩
        have h := h x6_78 ex6_78
        refine lv_iinc (v := x6_78) (lv' := [(6, .int x6_78), (0, .ref (ad 41)), (1, .int x1), (4, .ref (ad 18)), (5, .int x5)]) hx hb dX5_find_78 hl (k := 4) rfl (by rw [ex6_78]; rfl) (by decide) rfl (fun ls hl => ?_)
        refine lv_goto (tgt := 25) hx hb dX5_find_81 (by decide) ?_
        exact hB x1 x5 x6_78 M _ _ _ (lv_sub hl [1, 2, 3, 4, 0] rfl) hP hS h
  have hl := lv_entry ([.ref (ad 41), .int a1, .ref (ad 1), .ref (ad 39), .ref (ad 18), .int a5]) (n := 9) (Nat.le_of_ble_eq_true rfl)
  rw [lg_entry_eq]
  generalize (lg_sl ([.ref (ad 41), .int a1, .ref (ad 1), .ref (ad 39), .ref (ad 18), .int a5]) ++ List.replicate (9 - (lg_sl ([.ref (ad 41), .int a1, .ref (ad 1), .ref (ad 39), .ref (ad 18), .int a5])).length) Slot.unset).toArray = ls at hl ⊢
  have hl : lv_has ls 9 [(0, .ref (ad 41)), (1, .int a1), (2, .ref (ad 1)), (3, .ref (ad 39)), (4, .ref (ad 18)), (5, .int a5)] := hl
  refine lv_aload_n hx hb dX5_find_0 rfl (lv_at hl 0 rfl) ?_
  refine va_get (D := D) (ci := 5) (v := .int (M 41 0)) (C := RX5) (T := TX5) (N := 11) hx hb hts inX5 hown hK hP 41 (xW_41 cI cZ ad M) rfl 0 (by decide) k0 (fun _ h9 => h9) rfl dX5_find_1 ?_
  refine lv_iload_n hx hb dX5_find_4 rfl (lv_at hl 1 rfl) ?_
  refine lv_icmp_ne (tgt := 9) hx hb dX5_find_5 (by decide) (fun q5 => ?_) (fun q5 => ?_)
  · have h := h.1 q5
    refine lv_aload_n hx hb dX5_find_9 rfl (lv_at hl 0 rfl) ?_
    refine lv_iload_n hx hb dX5_find_10 rfl (lv_at hl 1 rfl) ?_
    refine lv_aload_n hx hb dX5_find_11 rfl (lv_at hl 2 rfl) ?_
    refine lv_aload_n hx hb dX5_find_12 rfl (lv_at hl 3 rfl) ?_
    refine x_callVv (As := [.int a1, .ref (ad 1), .ref (ad 39)]) (rest := []) ⟨hx, hb, hml, hown, hts⟩ (kX5_collect l D cI cZ ad zA zD zR hD M a1 _ h) (cwV 3 hts (gdV uS (inA_31 _ (List.mem_of_getElem? (i := 0) rfl)) vX5_collect) rfl rfl rfl (by decide +kernel) ⟨Nat.le_of_ble_eq_true rfl, Nat.le_of_ble_eq_true rfl⟩) (va_recv hK hP (ci := 5) (q0 := 41) rfl (xW_41 cI cZ ad M)) hP hK hZ hN hS hl.1 rfl rfl (Nat.le_of_ble_eq_true rfl) dX5_find_13 (fun M13 H locs h hP hS => ?_)
    refine lv_aload_n hx hb dX5_find_16 rfl (lv_at hl 0 rfl) ?_
    refine lv_ldc hx hb hown k2 dX5_find_17 ?_
    refine va_put (D := D) (ci := 5) (v := .int 2147483647) (ty := .int) (C := RX5) (T := TX5) (N := 11) hx hb hts inX5 tyX5 tyX5_ok nmX5 hown hK hP (hD M13) hS 41 (xW_41 cI cZ ad M13) rfl 4 (by decide) k3 (fun _ h9 => h9) rfl (by decide +kernel) rfl rfl (Nat.le_of_ble_eq_true rfl) dX5_find_19 (fun H locs hP _ hS => ?_)
    refine xP_41_4 hP (fun M19 eM19 hP => ?_)
    have h := h M19 eM19
    refine lv_iconst (v := 0) hx hb dX5_find_22 (by decide) ?_
    refine lv_istore (lv' := [(6, .int 0), (0, .ref (ad 41)), (1, .int a1), (2, .ref (ad 1)), (3, .ref (ad 39)), (4, .ref (ad 18)), (5, .int a5)]) hx hb dX5_find_23 hl (by decide) rfl (fun ls hl => ?_)
    obtain ⟨n, h⟩ := h
    refine L25 _ (fun x1 M H locs ls hl hP hS h => ?_) n a1 a5 0 M19 _ _ _ (lv_sub hl [1, 2, 5, 6, 0] rfl) hP hS h
    refine lv_aload_n hx hb dX5_find_84 rfl (lv_at hl 0 rfl) ?_
    refine lv_iload_n hx hb dX5_find_85 rfl (lv_at hl 1 rfl) ?_
    refine va_put (D := D) (ci := 5) (v := .int x1) (ty := .int) (C := RX5) (T := TX5) (N := 11) hx hb hts inX5 tyX5 tyX5_ok nmX5 hown hK hP (hD M) hS 41 (xW_41 cI cZ ad M) rfl 0 (by decide) k0 (fun _ h9 => h9) rfl (by decide +kernel) rfl rfl (Nat.le_of_ble_eq_true rfl) dX5_find_86 (fun H locs hP _ hS => ?_)
    refine xP_41_0 hP (fun M86 eM86 hP => ?_)
    have h := h M86 eM86
    exact W.vret hx hb hr (fun t ht hW => ⟨⟨M86, rfl, h, xAt_of ht hP⟩, hS.F ht⟩) hS.2.2 dX5_find_89
  · have h := h.2 q5
    exact W.vret hx hb hr (fun t ht hW => ⟨⟨M, rfl, h, xAt_of ht hP⟩, hS.F ht⟩) hS.2.2 dX5_find_8
set_option maxHeartbeats 4000000 in
set_option maxRecDepth 100000 in
theorem kX5_depthAt (l : Launch) (D : va_G) (cI cZ : ClassId) (ad : Nat → Nat) (zA zD zR : Nat) (hD : ∀ M : Mem, va_D (xA ad) (xW cI cZ ad M)) (M : Mem) (a1 a2 : Int32) (Q : Int32 → Mem → Prop) (h : wX5_depthAt M a1 a2 Q) : Met l yX5_depthAt uX5_depthAt ({ frames := 1, cells := 0, slots := 0, locals := 20 }) (va_Pc [.ref (ad 41), .int a1, .int a2] (xPre D cI cZ ad zA zD zR M)) (va_Qi Q (xAt D cI cZ ad) (xA ad)) 0 0 (xA ad) := by
  refine Met.ofW (cc := cX5_depthAt) (maxL := 3) (ret := (some .int)) (by decide) rfl ?_
  intro p e s m args below meth c s₁ B hml hv
  obtain ⟨rfl, hP, hK, hZ, hN⟩ := hv
  have hx := B.exec
  have hb := B.bytes
  have hr := B.returns
  have hts := atoms_spec (ws := uX5_depthAt) B.pre
  have hown : s.vm.findClass RX5 = some m.cls := findClass_of_methodNamed B.named
  have hlocks := B.notSynchronized
  have hS : va_S (xA ad) s.heap s.heap [] := va_S.rf
  have k0 := hts (.fieldLink RX5 15 "TwoEyes$Planes" "b" "I") (List.mem_cons_of_mem _ (inA_5 _ (List.mem_of_getElem? (i := 22) rfl)))
  have inX5 : ∀ w ∈ wsX50, w ∈ uX5_depthAt := fun w h => List.mem_cons_of_mem _ (inCX5 w h)
  have k2 := hts (.fieldLink RX5 18 "TwoEyes$Planes" "a" "I") (List.mem_cons_of_mem _ (inA_5 _ (List.mem_of_getElem? (i := 23) rfl)))
  have k3 := hts (.fieldLink RX5 27 "TwoEyes$Planes" "anchorX" "I") (List.mem_cons_of_mem _ (inA_6 _ (List.mem_of_getElem? (i := 2) rfl)))
  have k4 := hts (.fieldLink RX5 21 "TwoEyes$Planes" "c" "I") (List.mem_cons_of_mem _ (inA_6 _ (List.mem_of_getElem? (i := 0) rfl)))
  have k5 := hts (.fieldLink RX5 30 "TwoEyes$Planes" "anchorY" "I") (List.mem_cons_of_mem _ (inA_6 _ (List.mem_of_getElem? (i := 3) rfl)))
  have hl := lv_entry ([.ref (ad 41), .int a1, .int a2]) (n := 3) (Nat.le_of_ble_eq_true rfl)
  rw [lg_entry_eq]
  generalize (lg_sl ([.ref (ad 41), .int a1, .int a2]) ++ List.replicate (3 - (lg_sl ([.ref (ad 41), .int a1, .int a2])).length) Slot.unset).toArray = ls at hl ⊢
  have hl : lv_has ls 3 [(0, .ref (ad 41)), (1, .int a1), (2, .int a2)] := hl
  refine lv_aload_n hx hb dX5_depthAt_0 rfl (lv_at hl 0 rfl) ?_
  refine va_get (D := D) (ci := 5) (v := .int (M 41 1)) (C := RX5) (T := TX5) (N := 11) hx hb hts inX5 hown hK hP 41 (xW_41 cI cZ ad M) rfl 1 (by decide) k0 (fun _ h9 => h9) rfl dX5_depthAt_1 ?_
  refine lv_aload_n hx hb dX5_depthAt_4 rfl (lv_at hl 0 rfl) ?_
  refine va_get (D := D) (ci := 5) (v := .int (M 41 2)) (C := RX5) (T := TX5) (N := 11) hx hb hts inX5 hown hK hP 41 (xW_41 cI cZ ad M) rfl 2 (by decide) k2 (fun _ h9 => h9) rfl dX5_depthAt_5 ?_
  refine lv_iload_n hx hb dX5_depthAt_8 rfl (lv_at hl 1 rfl) ?_
  refine lv_aload_n hx hb dX5_depthAt_9 rfl (lv_at hl 0 rfl) ?_
  refine va_get (D := D) (ci := 5) (v := .int (M 41 5)) (C := RX5) (T := TX5) (N := 11) hx hb hts inX5 hown hK hP 41 (xW_41 cI cZ ad M) rfl 5 (by decide) k3 (fun _ h9 => h9) rfl dX5_depthAt_10 ?_
  refine lv_isub hx hb dX5_depthAt_13 ?_
  refine lv_imul hx hb dX5_depthAt_14 ?_
  refine lv_aload_n hx hb dX5_depthAt_15 rfl (lv_at hl 0 rfl) ?_
  refine va_get (D := D) (ci := 5) (v := .int (M 41 3)) (C := RX5) (T := TX5) (N := 11) hx hb hts inX5 hown hK hP 41 (xW_41 cI cZ ad M) rfl 3 (by decide) k4 (fun _ h9 => h9) rfl dX5_depthAt_16 ?_
  refine lv_iload_n hx hb dX5_depthAt_19 rfl (lv_at hl 2 rfl) ?_
  refine lv_aload_n hx hb dX5_depthAt_20 rfl (lv_at hl 0 rfl) ?_
  refine va_get (D := D) (ci := 5) (v := .int (M 41 6)) (C := RX5) (T := TX5) (N := 11) hx hb hts inX5 hown hK hP 41 (xW_41 cI cZ ad M) rfl 6 (by decide) k5 (fun _ h9 => h9) rfl dX5_depthAt_21 ?_
  refine lv_isub hx hb dX5_depthAt_24 ?_
  refine lv_imul hx hb dX5_depthAt_25 ?_
  refine lv_iadd hx hb dX5_depthAt_26 ?_
  refine x_callSi (As := [.int (((M 41 2) * (a1 - (M 41 5))) + ((M 41 3) * (a2 - (M 41 6))))]) (rest := [.int (M 41 1)]) ⟨hx, hb, hml, hown, hts⟩ (kX5_half l D cI cZ ad zA zD zR hD M (((M 41 2) * (a1 - (M 41 5))) + ((M 41 3) * (a2 - (M 41 6)))) _ h) (va_cwS 1 hts (gdS uS (inA_31 _ (List.mem_of_getElem? (i := 17) rfl)) vX5_half) rfl rfl rfl (by decide +kernel) ⟨Nat.le_of_ble_eq_true rfl, Nat.le_of_ble_eq_true rfl⟩) hP hK hZ hN hS hl.1 rfl rfl (Nat.le_of_ble_eq_true rfl) dX5_depthAt_27 (fun r27 M27 H locs h hP hS => ?_)
  refine lv_iadd hx hb dX5_depthAt_30 ?_
  exact W.iret (v := ((M 41 1) + r27)) hx hb hr (fun t ht hW => ⟨⟨((M 41 1) + r27), M27, rfl, h, xAt_of ht hP⟩, hS.F ht⟩) hS.2.2 dX5_depthAt_31
set_option maxHeartbeats 4000000 in
set_option maxRecDepth 100000 in
theorem kX10_plane (l : Launch) (D : va_G) (cI cZ : ClassId) (ad : Nat → Nat) (zA zD zR : Nat) (hD : ∀ M : Mem, va_D (xA ad) (xW cI cZ ad M)) (M : Mem) (a1 a2 a3 : Int32) (Q : Int32 → Mem → Prop) (h : wX10_plane M a1 a2 a3 Q) : Met l yX10_plane uX10_plane ({ frames := 4, cells := 0, slots := 0, locals := 100 }) (va_Pc [.ref (ad 0), .int a1, .int a2, .int a3] (xPre D cI cZ ad zA zD zR M)) (va_Qi Q (xAt D cI cZ ad) (xA ad)) 0 0 (xA ad) := by
  refine Met.ofW (cc := cX10_plane) (maxL := 6) (ret := (some .int)) (by decide) rfl ?_
  intro p e s m args below meth c s₁ B hml hv
  obtain ⟨rfl, hP, hK, hZ, hN⟩ := hv
  have hx := B.exec
  have hb := B.bytes
  have hr := B.returns
  have hts := atoms_spec (ws := uX10_plane) B.pre
  have hown : s.vm.findClass RX10 = some m.cls := findClass_of_methodNamed B.named
  have hlocks := B.notSynchronized
  have hS : va_S (xA ad) s.heap s.heap [] := va_S.rf
  have k0 := hts (.fieldLink RX10 10 "TwoEyes" "scene" "LTwoEyes$Scene;") (List.mem_cons_of_mem _ (inA_1 _ (List.mem_of_getElem? (i := 15) rfl)))
  have inX10 : ∀ w ∈ wsX100, w ∈ uX10_plane := fun w h => List.mem_cons_of_mem _ (inCX10 w h)
  have k2 := hts (.fieldLink RX10 58 "TwoEyes" "segments" "LTwoEyes$Segments;") (List.mem_cons_of_mem _ (inA_2 _ (List.mem_of_getElem? (i := 15) rfl)))
  have k3 := hts (.fieldLink RX10 215 "TwoEyes$Segments" "anchor" "[I") (List.mem_cons_of_mem _ (inA_29 _ (List.mem_of_getElem? (i := 17) rfl)))
  have inX7 : ∀ w ∈ wsX70, w ∈ uX10_plane := fun w h => List.mem_cons_of_mem _ (inCX7 w h)
  have k5 := hts (.fieldLink RX10 65 "TwoEyes" "planes" "LTwoEyes$Planes;") (List.mem_cons_of_mem _ (inA_2 _ (List.mem_of_getElem? (i := 19) rfl)))
  have k6 := hts (.fieldLink RX10 30 "TwoEyes" "costs" "LTwoEyes$Costs;") (List.mem_cons_of_mem _ (inA_1 _ (List.mem_of_getElem? (i := 23) rfl)))
  have k7 := hts (.fieldLink RX10 23 "TwoEyes" "rules" "[I") (List.mem_cons_of_mem _ (inA_1 _ (List.mem_of_getElem? (i := 19) rfl)))
  have k8 := hts (.fieldLink RX10 225 "TwoEyes$Planes" "b" "I") (List.mem_cons_of_mem _ (inA_30 _ (List.mem_of_getElem? (i := 15) rfl)))
  have inX5 : ∀ w ∈ wsX50, w ∈ uX10_plane := fun w h => List.mem_cons_of_mem _ (inCX5 w h)
  have k10 := hts (.fieldLink RX10 228 "TwoEyes$Planes" "a" "I") (List.mem_cons_of_mem _ (inA_30 _ (List.mem_of_getElem? (i := 16) rfl)))
  have k11 := hts (.fieldLink RX10 231 "TwoEyes$Planes" "c" "I") (List.mem_cons_of_mem _ (inA_30 _ (List.mem_of_getElem? (i := 17) rfl)))
  have k12 := hts (.fieldLink RX10 234 "TwoEyes$Planes" "price" "I") (List.mem_cons_of_mem _ (inA_30 _ (List.mem_of_getElem? (i := 18) rfl)))
  have hl := lv_entry ([.ref (ad 0), .int a1, .int a2, .int a3]) (n := 6) (Nat.le_of_ble_eq_true rfl)
  rw [lg_entry_eq]
  generalize (lg_sl ([.ref (ad 0), .int a1, .int a2, .int a3]) ++ List.replicate (6 - (lg_sl ([.ref (ad 0), .int a1, .int a2, .int a3])).length) Slot.unset).toArray = ls at hl ⊢
  have hl : lv_has ls 6 [(0, .ref (ad 0)), (1, .int a1), (2, .int a2), (3, .int a3)] := hl
  refine lv_aload_n hx hb dX10_plane_0 rfl (lv_at hl 0 rfl) ?_
  refine va_get (D := D) (ci := 10) (v := .ref (ad 1)) (C := RX10) (T := TX10) (N := 11) hx hb hts inX10 hown hK hP 0 (xW_0 cI cZ ad M) rfl 0 (by decide) k0 (fun _ h9 => h9) rfl dX10_plane_1 ?_
  refine lv_iload_n hx hb dX10_plane_4 rfl (lv_at hl 1 rfl) ?_
  refine lv_iload_n hx hb dX10_plane_5 rfl (lv_at hl 2 rfl) ?_
  refine x_callVi (As := [.int a1, .int a2]) (rest := []) ⟨hx, hb, hml, hown, hts⟩ (kX6_hasSquare l D cI cZ ad zA zD zR hD M a1 a2 _ h) (cwV 2 hts (gdV uS (inA_13 _ (List.mem_of_getElem? (i := 6) rfl)) vX6_hasSquare) rfl rfl rfl (by decide +kernel) ⟨Nat.le_of_ble_eq_true rfl, Nat.le_of_ble_eq_true rfl⟩) (va_recv hK hP (ci := 6) (q0 := 1) rfl (xW_1 cI cZ ad M)) hP hK hZ hN hS hl.1 rfl rfl (Nat.le_of_ble_eq_true rfl) dX10_plane_6 (fun r6 M6 H locs h hP hS => ?_)
  refine lv_if_eq (tgt := 21) hx hb dX10_plane_9 (by decide) (fun q9 => ?_) (fun q9 => ?_)
  · have h := h.1 q9
    refine lv_sipush (v := (-1000)) hx hb dX10_plane_21 (by decide) ?_
    exact W.iret (v := (-1000)) hx hb hr (fun t ht hW => ⟨⟨(-1000), M6, rfl, h, xAt_of ht hP⟩, hS.F ht⟩) hS.2.2 dX10_plane_24
  · have h := h.2 q9
    refine lv_iload_n hx hb dX10_plane_12 rfl (lv_at hl 3 rfl) ?_
    refine lv_if_lt (tgt := 21) hx hb dX10_plane_13 (by decide) (fun q13 => ?_) (fun q13 => ?_)
    · have h := h.1 q13
      refine lv_sipush (v := (-1000)) hx hb dX10_plane_21 (by decide) ?_
      exact W.iret (v := (-1000)) hx hb hr (fun t ht hW => ⟨⟨(-1000), M6, rfl, h, xAt_of ht hP⟩, hS.F ht⟩) hS.2.2 dX10_plane_24
    · have h := h.2 q13
      refine lv_iload_n hx hb dX10_plane_16 rfl (lv_at hl 3 rfl) ?_
      refine lv_iconst (v := 4) hx hb dX10_plane_17 (by decide) ?_
      refine lv_icmp_le (tgt := 25) hx hb dX10_plane_18 (by decide) (fun q18 => ?_) (fun q18 => ?_)
      · have h := h.1 q18
        refine lv_aload_n hx hb dX10_plane_25 rfl (lv_at hl 0 rfl) ?_
        refine x_callVv (As := []) (rest := []) ⟨hx, hb, hml, hown, hts⟩ (kX10_refreshSegments l D cI cZ ad zA zD zR hD M6 _ h) (cwV 0 hts (gdV uS (inA_19 _ (List.mem_of_getElem? (i := 5) rfl)) vX10_refreshSegments) rfl rfl rfl (by decide +kernel) ⟨Nat.le_of_ble_eq_true rfl, Nat.le_of_ble_eq_true rfl⟩) (va_recv hK hP (ci := 10) (q0 := 0) rfl (xW_0 cI cZ ad M6)) hP hK hZ hN hS hl.1 rfl rfl (Nat.le_of_ble_eq_true rfl) dX10_plane_26 (fun M26 H locs h hP hS => ?_)
        refine lv_aload_n hx hb dX10_plane_29 rfl (lv_at hl 0 rfl) ?_
        refine va_get (D := D) (ci := 10) (v := .ref (ad 39)) (C := RX10) (T := TX10) (N := 11) hx hb hts inX10 hown hK hP 0 (xW_0 cI cZ ad M26) rfl 8 (by decide) k2 (fun _ h9 => h9) rfl dX10_plane_30 ?_
        refine va_get (D := D) (ci := 7) (v := .ref (ad 40)) (C := RX7) (T := TX7) (N := 2) hx hb hts inX7 hown hK hP 39 (xW_39 cI cZ ad M26) rfl 0 (by decide) k3 (fun _ h9 => h9) rfl dX10_plane_33 ?_
        refine lv_aload_n hx hb dX10_plane_36 rfl (lv_at hl 0 rfl) ?_
        refine va_get (D := D) (ci := 10) (v := .ref (ad 1)) (C := RX10) (T := TX10) (N := 11) hx hb hts inX10 hown hK hP 0 (xW_0 cI cZ ad M26) rfl 0 (by decide) k0 (fun _ h9 => h9) rfl dX10_plane_37 ?_
        refine lv_iload_n hx hb dX10_plane_40 rfl (lv_at hl 1 rfl) ?_
        refine lv_iload_n hx hb dX10_plane_41 rfl (lv_at hl 2 rfl) ?_
        refine x_callVi (As := [.int a1, .int a2]) (rest := [.ref (ad 40)]) ⟨hx, hb, hml, hown, hts⟩ (kX6_placeOf l D cI cZ ad zA zD zR hD M26 a1 a2 _ h) (cwV 2 hts (gdV uS (inA_10 _ (List.mem_of_getElem? (i := 14) rfl)) vX6_placeOf) rfl rfl rfl (by decide +kernel) ⟨Nat.le_of_ble_eq_true rfl, Nat.le_of_ble_eq_true rfl⟩) (va_recv hK hP (ci := 6) (q0 := 1) rfl (xW_1 cI cZ ad M26)) hP hK hZ hN hS hl.1 rfl rfl (Nat.le_of_ble_eq_true rfl) dX10_plane_42 (fun r42 M42 H locs h hP hS => ?_)
        obtain ⟨hi45, h⟩ := h
        refine va_iald hx hb hK hP 40 0 (xW_40 cI cZ ad M42) rfl hi45 dX10_plane_45 ?_
        refine lv_topi (fun x4_46 ex4_46 => ?_)
        have h := h x4_46 ex4_46
        refine lv_istore (lv' := [(4, .int x4_46), (0, .ref (ad 0)), (1, .int a1), (2, .int a2), (3, .int a3)]) hx hb dX10_plane_46 hl (by decide) rfl (fun ls hl => ?_)
        refine lv_iload hx hb dX10_plane_48 (lv_at hl 0 rfl) ?_
        refine lv_bipush (v := (-5)) hx hb dX10_plane_50 (by decide) ?_
        refine lv_icmp_ne (tgt := 59) hx hb dX10_plane_52 (by decide) (fun q52 => ?_) (fun q52 => ?_)
        · have h := h.1 q52
          refine lv_aload_n hx hb dX10_plane_59 rfl (lv_at hl 1 rfl) ?_
          refine x_callVv (As := []) (rest := []) ⟨hx, hb, hml, hown, hts⟩ (kX10_refreshCosts l D cI cZ ad zA zD zR hD M42 _ h) (cwV 0 hts (gdV uS (inA_15 _ (List.mem_of_getElem? (i := 0) rfl)) vX10_refreshCosts) rfl rfl rfl (by decide +kernel) ⟨Nat.le_of_ble_eq_true rfl, Nat.le_of_ble_eq_true rfl⟩) (va_recv hK hP (ci := 10) (q0 := 0) rfl (xW_0 cI cZ ad M42)) hP hK hZ hN hS hl.1 rfl rfl (Nat.le_of_ble_eq_true rfl) dX10_plane_60 (fun M60 H locs h hP hS => ?_)
          refine lv_aload_n hx hb dX10_plane_63 rfl (lv_at hl 1 rfl) ?_
          refine va_get (D := D) (ci := 10) (v := .ref (ad 41)) (C := RX10) (T := TX10) (N := 11) hx hb hts inX10 hown hK hP 0 (xW_0 cI cZ ad M60) rfl 9 (by decide) k5 (fun _ h9 => h9) rfl dX10_plane_64 ?_
          refine lv_iload hx hb dX10_plane_67 (lv_at hl 0 rfl) ?_
          refine lv_aload_n hx hb dX10_plane_69 rfl (lv_at hl 1 rfl) ?_
          refine va_get (D := D) (ci := 10) (v := .ref (ad 1)) (C := RX10) (T := TX10) (N := 11) hx hb hts inX10 hown hK hP 0 (xW_0 cI cZ ad M60) rfl 0 (by decide) k0 (fun _ h9 => h9) rfl dX10_plane_70 ?_
          refine lv_aload_n hx hb dX10_plane_73 rfl (lv_at hl 1 rfl) ?_
          refine va_get (D := D) (ci := 10) (v := .ref (ad 39)) (C := RX10) (T := TX10) (N := 11) hx hb hts inX10 hown hK hP 0 (xW_0 cI cZ ad M60) rfl 8 (by decide) k2 (fun _ h9 => h9) rfl dX10_plane_74 ?_
          refine lv_aload_n hx hb dX10_plane_77 rfl (lv_at hl 1 rfl) ?_
          refine va_get (D := D) (ci := 10) (v := .ref (ad 18)) (C := RX10) (T := TX10) (N := 11) hx hb hts inX10 hown hK hP 0 (xW_0 cI cZ ad M60) rfl 4 (by decide) k6 (fun _ h9 => h9) rfl dX10_plane_78 ?_
          refine lv_aload_n hx hb dX10_plane_81 rfl (lv_at hl 1 rfl) ?_
          refine va_get (D := D) (ci := 10) (v := .ref (ad 17)) (C := RX10) (T := TX10) (N := 11) hx hb hts inX10 hown hK hP 0 (xW_0 cI cZ ad M60) rfl 3 (by decide) k7 (fun _ h9 => h9) rfl dX10_plane_82 ?_
          refine lv_iconst (v := 0) hx hb dX10_plane_85 (by decide) ?_
          obtain ⟨hi86, h⟩ := h
          refine va_iald hx hb hK hP 17 0 (xW_17 cI cZ ad M60) rfl hi86 dX10_plane_86 ?_
          refine x_callVv (As := [.int x4_46, .ref (ad 1), .ref (ad 39), .ref (ad 18), .int (M60 17 (0 : Int32).toNatClampNeg)]) (rest := []) ⟨hx, hb, hml, hown, hts⟩ (kX5_find l D cI cZ ad zA zD zR hD M60 x4_46 (M60 17 (0 : Int32).toNatClampNeg) _ h) (cwV 5 hts (gdV uS (inA_30 _ (List.mem_of_getElem? (i := 19) rfl)) vX5_find) rfl rfl rfl (by decide +kernel) ⟨Nat.le_of_ble_eq_true rfl, Nat.le_of_ble_eq_true rfl⟩) (va_recv hK hP (ci := 5) (q0 := 41) rfl (xW_41 cI cZ ad M60)) hP hK hZ hN hS hl.1 rfl rfl (Nat.le_of_ble_eq_true rfl) dX10_plane_87 (fun M87 H locs h hP hS => ?_)
          refine lv_iload_n hx hb dX10_plane_90 rfl (lv_at hl 4 rfl) ?_
          by_cases qd91 : (a3).toInt < 0 ∨ 3 < (a3).toInt
          · have h := h.2.2.2.2 qd91
            refine lv_tableOut (tgt := 156) hx hb dX10_plane_91 qd91 (by decide) ?_
            refine lv_aload_n hx hb dX10_plane_156 rfl (lv_at hl 1 rfl) ?_
            refine va_get (D := D) (ci := 10) (v := .ref (ad 41)) (C := RX10) (T := TX10) (N := 11) hx hb hts inX10 hown hK hP 0 (xW_0 cI cZ ad M87) rfl 9 (by decide) k5 (fun _ h9 => h9) rfl dX10_plane_157 ?_
            refine lv_iload_n hx hb dX10_plane_160 rfl (lv_at hl 2 rfl) ?_
            refine lv_iload_n hx hb dX10_plane_161 rfl (lv_at hl 3 rfl) ?_
            refine x_callVi (As := [.int a1, .int a2]) (rest := []) ⟨hx, hb, hml, hown, hts⟩ (kX5_depthAt l D cI cZ ad zA zD zR hD M87 a1 a2 _ h) (cwV 2 hts (gdV uS (inA_31 _ (List.mem_of_getElem? (i := 20) rfl)) vX5_depthAt) rfl rfl rfl (by decide +kernel) ⟨Nat.le_of_ble_eq_true rfl, Nat.le_of_ble_eq_true rfl⟩) (va_recv hK hP (ci := 5) (q0 := 41) rfl (xW_41 cI cZ ad M87)) hP hK hZ hN hS hl.1 rfl rfl (Nat.le_of_ble_eq_true rfl) dX10_plane_162 (fun r162 M162 H locs h hP hS => ?_)
            refine lv_istore (lv' := [(5, .int r162), (4, .int x4_46), (0, .ref (ad 0)), (1, .int a1), (2, .int a2), (3, .int a3)]) hx hb dX10_plane_165 hl (by decide) rfl (fun ls hl => ?_)
            refine lv_aload_n hx hb dX10_plane_167 rfl (lv_at hl 2 rfl) ?_
            refine lv_iload hx hb dX10_plane_168 (lv_at hl 0 rfl) ?_
            refine x_callVi (As := [.int r162]) (rest := []) ⟨hx, hb, hml, hown, hts⟩ (kX10_isDepth l D cI cZ ad zA zD zR hD M162 r162 _ h) (cwV 1 hts (gdV uS (inA_24 _ (List.mem_of_getElem? (i := 12) rfl)) vX10_isDepth) rfl rfl rfl (by decide +kernel) ⟨Nat.le_of_ble_eq_true rfl, Nat.le_of_ble_eq_true rfl⟩) (va_recv hK hP (ci := 10) (q0 := 0) rfl (xW_0 cI cZ ad M162)) hP hK hZ hN hS hl.1 rfl rfl (Nat.le_of_ble_eq_true rfl) dX10_plane_170 (fun r170 M170 H locs h hP hS => ?_)
            refine lv_if_eq (tgt := 181) hx hb dX10_plane_173 (by decide) (fun q173 => ?_) (fun q173 => ?_)
            · have h := h.1 q173
              refine lv_iload hx hb dX10_plane_181 (lv_at hl 0 rfl) ?_
              refine lv_bipush (v := 100) hx hb dX10_plane_183 (by decide) ?_
              refine lv_isub hx hb dX10_plane_185 ?_
              exact W.iret (v := (r162 - 100)) hx hb hr (fun t ht hW => ⟨⟨(r162 - 100), M170, rfl, h, xAt_of ht hP⟩, hS.F ht⟩) hS.2.2 dX10_plane_186
            · have h := h.2 q173
              refine lv_iload hx hb dX10_plane_176 (lv_at hl 0 rfl) ?_
              refine lv_goto (tgt := 186) hx hb dX10_plane_178 (by decide) ?_
              exact W.iret (v := r162) hx hb hr (fun t ht hW => ⟨⟨r162, M170, rfl, h, xAt_of ht hP⟩, hS.F ht⟩) hS.2.2 dX10_plane_186
          · have qn91 : ¬ (a3).toInt < 0 ∧ ¬ 3 < (a3).toInt := ⟨fun q => qd91 (Or.inl q), fun q => qd91 (Or.inr q)⟩
            have qc91 : (a3).toInt = 0 ∨ (a3).toInt = 1 ∨ (a3).toInt = 2 ∨ (a3).toInt = 3 := by
              omega
            rcases qc91 with qe91 | qe91 | qe91 | qe91
            · have qz91 : a3 = 0 := jint qe91 (by decide)
              have h := h.1 qz91
              refine lv_tableIn (tgt := 120) hx hb dX10_plane_91 qn91.1 qn91.2 (by rw [qe91]; rfl) (by decide) ?_
              refine lv_aload_n hx hb dX10_plane_120 rfl (lv_at hl 1 rfl) ?_
              refine va_get (D := D) (ci := 10) (v := .ref (ad 41)) (C := RX10) (T := TX10) (N := 11) hx hb hts inX10 hown hK hP 0 (xW_0 cI cZ ad M87) rfl 9 (by decide) k5 (fun _ h9 => h9) rfl dX10_plane_121 ?_
              refine va_get (D := D) (ci := 5) (v := .int (M87 41 1)) (C := RX5) (T := TX5) (N := 11) hx hb hts inX5 hown hK hP 41 (xW_41 cI cZ ad M87) rfl 1 (by decide) k8 (fun _ h9 => h9) rfl dX10_plane_124 ?_
              exact W.iret (v := (M87 41 1)) hx hb hr (fun t ht hW => ⟨⟨(M87 41 1), M87, rfl, h, xAt_of ht hP⟩, hS.F ht⟩) hS.2.2 dX10_plane_127
            · have qz91 : a3 = 1 := jint qe91 (by decide)
              have h := h.2.1 qz91
              refine lv_tableIn (tgt := 128) hx hb dX10_plane_91 qn91.1 qn91.2 (by rw [qe91]; rfl) (by decide) ?_
              refine lv_aload_n hx hb dX10_plane_128 rfl (lv_at hl 1 rfl) ?_
              refine va_get (D := D) (ci := 10) (v := .ref (ad 41)) (C := RX10) (T := TX10) (N := 11) hx hb hts inX10 hown hK hP 0 (xW_0 cI cZ ad M87) rfl 9 (by decide) k5 (fun _ h9 => h9) rfl dX10_plane_129 ?_
              refine va_get (D := D) (ci := 5) (v := .int (M87 41 2)) (C := RX5) (T := TX5) (N := 11) hx hb hts inX5 hown hK hP 41 (xW_41 cI cZ ad M87) rfl 2 (by decide) k10 (fun _ h9 => h9) rfl dX10_plane_132 ?_
              refine lv_iconst (v := 2) hx hb dX10_plane_135 (by decide) ?_
              refine lv_iadd hx hb dX10_plane_136 ?_
              exact W.iret (v := ((M87 41 2) + 2)) hx hb hr (fun t ht hW => ⟨⟨((M87 41 2) + 2), M87, rfl, h, xAt_of ht hP⟩, hS.F ht⟩) hS.2.2 dX10_plane_137
            · have qz91 : a3 = 2 := jint qe91 (by decide)
              have h := h.2.2.1 qz91
              refine lv_tableIn (tgt := 138) hx hb dX10_plane_91 qn91.1 qn91.2 (by rw [qe91]; rfl) (by decide) ?_
              refine lv_aload_n hx hb dX10_plane_138 rfl (lv_at hl 1 rfl) ?_
              refine va_get (D := D) (ci := 10) (v := .ref (ad 41)) (C := RX10) (T := TX10) (N := 11) hx hb hts inX10 hown hK hP 0 (xW_0 cI cZ ad M87) rfl 9 (by decide) k5 (fun _ h9 => h9) rfl dX10_plane_139 ?_
              refine va_get (D := D) (ci := 5) (v := .int (M87 41 3)) (C := RX5) (T := TX5) (N := 11) hx hb hts inX5 hown hK hP 41 (xW_41 cI cZ ad M87) rfl 3 (by decide) k11 (fun _ h9 => h9) rfl dX10_plane_142 ?_
              refine lv_iconst (v := 2) hx hb dX10_plane_145 (by decide) ?_
              refine lv_iadd hx hb dX10_plane_146 ?_
              exact W.iret (v := ((M87 41 3) + 2)) hx hb hr (fun t ht hW => ⟨⟨((M87 41 3) + 2), M87, rfl, h, xAt_of ht hP⟩, hS.F ht⟩) hS.2.2 dX10_plane_147
            · have qz91 : a3 = 3 := jint qe91 (by decide)
              have h := h.2.2.2.1 qz91
              refine lv_tableIn (tgt := 148) hx hb dX10_plane_91 qn91.1 qn91.2 (by rw [qe91]; rfl) (by decide) ?_
              refine lv_aload_n hx hb dX10_plane_148 rfl (lv_at hl 1 rfl) ?_
              refine va_get (D := D) (ci := 10) (v := .ref (ad 41)) (C := RX10) (T := TX10) (N := 11) hx hb hts inX10 hown hK hP 0 (xW_0 cI cZ ad M87) rfl 9 (by decide) k5 (fun _ h9 => h9) rfl dX10_plane_149 ?_
              refine va_get (D := D) (ci := 5) (v := .int (M87 41 4)) (C := RX5) (T := TX5) (N := 11) hx hb hts inX5 hown hK hP 41 (xW_41 cI cZ ad M87) rfl 4 (by decide) k12 (fun _ h9 => h9) rfl dX10_plane_152 ?_
              exact W.iret (v := (M87 41 4)) hx hb hr (fun t ht hW => ⟨⟨(M87 41 4), M87, rfl, h, xAt_of ht hP⟩, hS.F ht⟩) hS.2.2 dX10_plane_155
        · have h := h.2 q52
          refine lv_sipush (v := (-1001)) hx hb dX10_plane_55 (by decide) ?_
          exact W.iret (v := (-1001)) hx hb hr (fun t ht hW => ⟨⟨(-1001), M42, rfl, h, xAt_of ht hP⟩, hS.F ht⟩) hS.2.2 dX10_plane_58
      · have h := h.2 q18
        refine lv_sipush (v := (-1000)) hx hb dX10_plane_21 (by decide) ?_
        exact W.iret (v := (-1000)) hx hb hr (fun t ht hW => ⟨⟨(-1000), M6, rfl, h, xAt_of ht hP⟩, hS.F ht⟩) hS.2.2 dX10_plane_24
abbrev GX2_comesFrom (p : Program) (l : Launch) (e : Env) (s : State) (m : MethodId) (below : List Frame) (meth : Method) (c : Code) (D : va_G) (cI cZ : ClassId) (ad : Nat → Nat) (a1 a2 a3 a4 : Int32) (Q : Int32 → Mem → Prop) (H : Heap) (locs : List Loc) (g : JFrame) : Prop := W p l e (headSpec uX2_comesFrom { frames := 0, cells := 0, slots := 0, locals := 0 }).room s m ([.ref (ad 37), .int a1, .int a2, .int a3, .int a4] : List Value).toArray below meth c H locs 0 0 (MQ below (va_Qi Q (xAt D cI cZ ad) (xA ad)) ([.ref (ad 37), .int a1, .int a2, .int a3, .int a4] : List Value).toArray s 0 0 (xA ad)) g
set_option maxHeartbeats 4000000 in
set_option maxRecDepth 100000 in
theorem kX2_comesFrom (l : Launch) (D : va_G) (cI cZ : ClassId) (ad : Nat → Nat) (zA zD zR : Nat) (hD : ∀ M : Mem, va_D (xA ad) (xW cI cZ ad M)) (M : Mem) (a1 a2 a3 a4 : Int32) (Q : Int32 → Mem → Prop) (h : wX2_comesFrom M a1 a2 a3 a4 Q) : Met l yX2_comesFrom uX2_comesFrom ({ frames := 0, cells := 0, slots := 0, locals := 0 }) (va_Pc [.ref (ad 37), .int a1, .int a2, .int a3, .int a4] (xPre D cI cZ ad zA zD zR M)) (va_Qi Q (xAt D cI cZ ad) (xA ad)) 0 0 (xA ad) := by
  refine Met.ofW (cc := cX2_comesFrom) (maxL := 9) (ret := (some .int)) (by decide) rfl ?_
  intro p e s m args below meth c s₁ B hml hv
  obtain ⟨rfl, hP, hK, hZ, hN⟩ := hv
  have hx := B.exec
  have hb := B.bytes
  have hr := B.returns
  have hts := atoms_spec (ws := uX2_comesFrom) B.pre
  have hown : s.vm.findClass RX2 = some m.cls := findClass_of_methodNamed B.named
  have hlocks := B.notSynchronized
  have hS : va_S (xA ad) s.heap s.heap [] := va_S.rf
  have k0 := hts (.fieldLink RX2 9 "TwoEyes$Depths" "told" "[I") (List.mem_cons_of_mem _ (inA_5 _ (List.mem_of_getElem? (i := 11) rfl)))
  have inX2 : ∀ w ∈ wsX20, w ∈ uX2_comesFrom := fun w h => List.mem_cons_of_mem _ (inCX2 w h)
  have L10 : ∀ (K65 : Int32 → Mem → Prop), (∀ (x5 : Int32) (M : Mem) (H : Heap) (locs : List Loc) (ls : Array Slot), lv_has ls 9 [(5, .int x5)] → va_P D vwCl (xW cI cZ ad M) H → va_S (xA ad) s.heap H locs → K65 x5 M → GX2_comesFrom p l e s m below meth c D cI cZ ad a1 a2 a3 a4 Q H locs (F0 m 65 ls [])) → ∀ n : Nat, ∀ (x1 x2 x3 x4 x5 x6 x7 : Int32) (M : Mem) (H : Heap) (locs : List Loc) (ls : Array Slot), lv_has ls 9 [(0, .ref (ad 37)), (1, .int x1), (2, .int x2), (3, .int x3), (4, .int x4), (5, .int x5), (6, .int x6), (7, .int x7)] → va_P D vwCl (xW cI cZ ad M) H → va_S (xA ad) s.heap H locs → wX2_comesFrom_L10 K65 Q n x1 x2 x3 x4 x5 x6 x7 M → GX2_comesFrom p l e s m below meth c D cI cZ ad a1 a2 a3 a4 Q H locs (F0 m 10 ls []) := by
    intro K65 hK65 n
    induction n with
    | zero => intro x1 x2 x3 x4 x5 x6 x7 M H locs ls hl hP hS h; exact (show False from h).elim
    | succ n hB =>
      intro x1 x2 x3 x4 x5 x6 x7 M H locs ls hl hP hS h
      rw [wX2_comesFrom_L10_s] at h
      refine lv_iload hx hb dX2_comesFrom_10 (lv_at hl 7 rfl) ?_
      refine lv_iload hx hb dX2_comesFrom_12 (lv_at hl 4 rfl) ?_
      refine lv_icmp_ge (tgt := 65) hx hb dX2_comesFrom_14 (by decide) (fun q14 => ?_) (fun q14 => ?_)
      · have h := h.1 q14
        exact hK65 x5 M _ _ _ (lv_sub hl [5] rfl) hP hS h
      · have h := h.2 q14
        refine lv_aload_n hx hb dX2_comesFrom_17 rfl (lv_at hl 0 rfl) ?_
        refine va_get (D := D) (ci := 2) (v := .ref (ad 38)) (C := RX2) (T := TX2) (N := 2) hx hb hts inX2 hown hK hP 37 (xW_37 cI cZ ad M) rfl 0 (by decide) k0 (fun _ h9 => h9) rfl dX2_comesFrom_18 ?_
        refine lv_iload_n hx hb dX2_comesFrom_21 rfl (lv_at hl 3 rfl) ?_
        refine lv_iload hx hb dX2_comesFrom_22 (lv_at hl 4 rfl) ?_
        refine lv_imul hx hb dX2_comesFrom_24 ?_
        refine lv_iload hx hb dX2_comesFrom_25 (lv_at hl 7 rfl) ?_
        refine lv_iadd hx hb dX2_comesFrom_27 ?_
        obtain ⟨hi28, h⟩ := h
        refine va_iald hx hb hK hP 38 0 (xW_38 cI cZ ad M) rfl hi28 dX2_comesFrom_28 ?_
        refine lv_topi (fun x8_29 ex8_29 => ?_)
        have h := h x8_29 ex8_29
        refine lv_istore (lv' := [(8, .int x8_29), (0, .ref (ad 37)), (1, .int x1), (2, .int x2), (3, .int x3), (4, .int x4), (5, .int x5), (6, .int x6), (7, .int x7)]) hx hb dX2_comesFrom_29 hl (by decide) rfl (fun ls hl => ?_)
        refine lv_iload hx hb dX2_comesFrom_31 (lv_at hl 0 rfl) ?_
        refine lv_iload hx hb dX2_comesFrom_33 (lv_at hl 7 rfl) ?_
        refine lv_icmp_le (tgt := 59) hx hb dX2_comesFrom_35 (by decide) (fun q35 => ?_) (fun q35 => ?_)
        · have h := h.1 q35
          obtain ⟨x7_59, ex7_59⟩ : ∃ y : Int32, y = x7 + 1 := ⟨_, rfl⟩
          have h := h x7_59 ex7_59
          refine lv_iinc (v := x7_59) (lv' := [(7, .int x7_59), (8, .int x8_29), (0, .ref (ad 37)), (1, .int x1), (2, .int x2), (3, .int x3), (4, .int x4), (5, .int x5), (6, .int x6)]) hx hb dX2_comesFrom_59 hl (k := 8) rfl (by rw [ex7_59]; rfl) (by decide) rfl (fun ls hl => ?_)
          refine lv_goto (tgt := 10) hx hb dX2_comesFrom_62 (by decide) ?_
          exact hB x1 x2 x3 x4 x5 x6 x7_59 M _ _ _ (lv_sub hl [2, 3, 4, 5, 6, 7, 8, 0] rfl) hP hS h
        · have h := h.2 q35
          refine lv_iload hx hb dX2_comesFrom_38 (lv_at hl 8 rfl) ?_
          refine lv_iload hx hb dX2_comesFrom_40 (lv_at hl 0 rfl) ?_
          refine lv_iload_n hx hb dX2_comesFrom_42 rfl (lv_at hl 2 rfl) ?_
          refine lv_imul hx hb dX2_comesFrom_43 ?_
          refine lv_iconst (v := 4) hx hb dX2_comesFrom_44 (by decide) ?_
          obtain ⟨hn45, h⟩ := h
          refine lv_idiv hx hb dX2_comesFrom_45 hn45 ?_
          refine lv_isub hx hb dX2_comesFrom_46 ?_
          refine lv_iload_n hx hb dX2_comesFrom_47 rfl (lv_at hl 3 rfl) ?_
          refine lv_icmp_ne (tgt := 59) hx hb dX2_comesFrom_48 (by decide) (fun q48 => ?_) (fun q48 => ?_)
          · have h := h.1 q48
            obtain ⟨x7_59, ex7_59⟩ : ∃ y : Int32, y = x7 + 1 := ⟨_, rfl⟩
            have h := h x7_59 ex7_59
            refine lv_iinc (v := x7_59) (lv' := [(7, .int x7_59), (8, .int x8_29), (0, .ref (ad 37)), (1, .int x1), (2, .int x2), (3, .int x3), (4, .int x4), (5, .int x5), (6, .int x6)]) hx hb dX2_comesFrom_59 hl (k := 8) rfl (by rw [ex7_59]; rfl) (by decide) rfl (fun ls hl => ?_)
            refine lv_goto (tgt := 10) hx hb dX2_comesFrom_62 (by decide) ?_
            exact hB x1 x2 x3 x4 x5 x6 x7_59 M _ _ _ (lv_sub hl [2, 3, 4, 5, 6, 7, 8, 0] rfl) hP hS h
          · have h := h.2 q48
            refine lv_iload hx hb dX2_comesFrom_51 (lv_at hl 0 rfl) ?_
            refine lv_istore (lv' := [(6, .int x8_29), (8, .int x8_29), (0, .ref (ad 37)), (1, .int x1), (2, .int x2), (3, .int x3), (4, .int x4), (5, .int x5), (7, .int x7)]) hx hb dX2_comesFrom_53 hl (by decide) rfl (fun ls hl => ?_)
            refine lv_iload hx hb dX2_comesFrom_55 (lv_at hl 8 rfl) ?_
            refine lv_istore (lv' := [(5, .int x7), (6, .int x8_29), (8, .int x8_29), (0, .ref (ad 37)), (1, .int x1), (2, .int x2), (3, .int x3), (4, .int x4), (7, .int x7)]) hx hb dX2_comesFrom_57 hl (by decide) rfl (fun ls hl => ?_)
            obtain ⟨x7_59, ex7_59⟩ : ∃ y : Int32, y = x7 + 1 := ⟨_, rfl⟩
            have h := h x7_59 ex7_59
            refine lv_iinc (v := x7_59) (lv' := [(7, .int x7_59), (5, .int x7), (6, .int x8_29), (8, .int x8_29), (0, .ref (ad 37)), (1, .int x1), (2, .int x2), (3, .int x3), (4, .int x4)]) hx hb dX2_comesFrom_59 hl (k := 8) rfl (by rw [ex7_59]; rfl) (by decide) rfl (fun ls hl => ?_)
            refine lv_goto (tgt := 10) hx hb dX2_comesFrom_62 (by decide) ?_
            exact hB x1 x2 x3 x4 x7 x8_29 x7_59 M _ _ _ (lv_sub hl [4, 5, 6, 7, 8, 1, 2, 0] rfl) hP hS h
  have hl := lv_entry ([.ref (ad 37), .int a1, .int a2, .int a3, .int a4]) (n := 9) (Nat.le_of_ble_eq_true rfl)
  rw [lg_entry_eq]
  generalize (lg_sl ([.ref (ad 37), .int a1, .int a2, .int a3, .int a4]) ++ List.replicate (9 - (lg_sl ([.ref (ad 37), .int a1, .int a2, .int a3, .int a4])).length) Slot.unset).toArray = ls at hl ⊢
  have hl : lv_has ls 9 [(0, .ref (ad 37)), (1, .int a1), (2, .int a2), (3, .int a3), (4, .int a4)] := hl
  refine lv_bipush (v := (-4)) hx hb dX2_comesFrom_0 (by decide) ?_
  refine lv_istore (lv' := [(5, .int (-4)), (0, .ref (ad 37)), (1, .int a1), (2, .int a2), (3, .int a3), (4, .int a4)]) hx hb dX2_comesFrom_2 hl (by decide) rfl (fun ls hl => ?_)
  refine lv_iconst (v := (-1)) hx hb dX2_comesFrom_4 (by decide) ?_
  refine lv_istore (lv' := [(6, .int (-1)), (5, .int (-4)), (0, .ref (ad 37)), (1, .int a1), (2, .int a2), (3, .int a3), (4, .int a4)]) hx hb dX2_comesFrom_5 hl (by decide) rfl (fun ls hl => ?_)
  refine lv_iload_n hx hb dX2_comesFrom_7 rfl (lv_at hl 4 rfl) ?_
  refine lv_istore (lv' := [(7, .int a2), (6, .int (-1)), (5, .int (-4)), (0, .ref (ad 37)), (1, .int a1), (2, .int a2), (3, .int a3), (4, .int a4)]) hx hb dX2_comesFrom_8 hl (by decide) rfl (fun ls hl => ?_)
  obtain ⟨n, h⟩ := h
  refine L10 _ (fun x5 M H locs ls hl hP hS h => ?_) n a1 a2 a3 a4 (-4) (-1) a2 M _ _ _ (lv_sub hl [3, 4, 5, 6, 7, 2, 1, 0] rfl) hP hS h
  refine lv_iload hx hb dX2_comesFrom_65 (lv_at hl 0 rfl) ?_
  exact W.iret (v := x5) hx hb hr (fun t ht hW => ⟨⟨x5, M, rfl, h, xAt_of ht hP⟩, hS.F ht⟩) hS.2.2 dX2_comesFrom_67
set_option maxHeartbeats 4000000 in
set_option maxRecDepth 100000 in
theorem kX10_view (l : Launch) (D : va_G) (cI cZ : ClassId) (ad : Nat → Nat) (zA zD zR : Nat) (hD : ∀ M : Mem, va_D (xA ad) (xW cI cZ ad M)) (M : Mem) (a1 a2 a3 : Int32) (Q : Int32 → Mem → Prop) (h : wX10_view M a1 a2 a3 Q) : Met l yX10_view uX10_view ({ frames := 6, cells := 0, slots := 0, locals := 149 }) (va_Pc [.ref (ad 0), .int a1, .int a2, .int a3] (xPre D cI cZ ad zA zD zR M)) (va_Qi Q (xAt D cI cZ ad) (xA ad)) 0 0 (xA ad) := by
  refine Met.ofW (cc := cX10_view) (maxL := 5) (ret := (some .int)) (by decide) rfl ?_
  intro p e s m args below meth c s₁ B hml hv
  obtain ⟨rfl, hP, hK, hZ, hN⟩ := hv
  have hx := B.exec
  have hb := B.bytes
  have hr := B.returns
  have hts := atoms_spec (ws := uX10_view) B.pre
  have hown : s.vm.findClass RX10 = some m.cls := findClass_of_methodNamed B.named
  have hlocks := B.notSynchronized
  have hS : va_S (xA ad) s.heap s.heap [] := va_S.rf
  have k0 := hts (.fieldLink RX10 10 "TwoEyes" "scene" "LTwoEyes$Scene;") (List.mem_cons_of_mem _ (inA_1 _ (List.mem_of_getElem? (i := 15) rfl)))
  have inX10 : ∀ w ∈ wsX100, w ∈ uX10_view := fun w h => List.mem_cons_of_mem _ (inCX10 w h)
  have k2 := hts (.fieldLink RX10 51 "TwoEyes" "depths" "LTwoEyes$Depths;") (List.mem_cons_of_mem _ (inA_2 _ (List.mem_of_getElem? (i := 11) rfl)))
  have k3 := hts (.fieldLink RX10 130 "TwoEyes$Scene" "width" "I") (List.mem_cons_of_mem _ (inA_14 _ (List.mem_of_getElem? (i := 8) rfl)))
  have inX6 : ∀ w ∈ wsX60, w ∈ uX10_view := fun w h => List.mem_cons_of_mem _ (inCX6 w h)
  have hl := lv_entry ([.ref (ad 0), .int a1, .int a2, .int a3]) (n := 5) (Nat.le_of_ble_eq_true rfl)
  rw [lg_entry_eq]
  generalize (lg_sl ([.ref (ad 0), .int a1, .int a2, .int a3]) ++ List.replicate (5 - (lg_sl ([.ref (ad 0), .int a1, .int a2, .int a3])).length) Slot.unset).toArray = ls at hl ⊢
  have hl : lv_has ls 5 [(0, .ref (ad 0)), (1, .int a1), (2, .int a2), (3, .int a3)] := hl
  refine lv_iload_n hx hb dX10_view_0 rfl (lv_at hl 1 rfl) ?_
  refine lv_if_lt (tgt := 21) hx hb dX10_view_1 (by decide) (fun q1 => ?_) (fun q1 => ?_)
  · have h := h.1 q1
    refine lv_iconst (v := (-1)) hx hb dX10_view_21 (by decide) ?_
    exact W.iret (v := (-1)) hx hb hr (fun t ht hW => ⟨⟨(-1), M, rfl, h, xAt_of ht hP⟩, hS.F ht⟩) hS.2.2 dX10_view_22
  · have h := h.2 q1
    refine lv_iload_n hx hb dX10_view_4 rfl (lv_at hl 1 rfl) ?_
    refine lv_iconst (v := 4) hx hb dX10_view_5 (by decide) ?_
    refine lv_icmp_gt (tgt := 21) hx hb dX10_view_6 (by decide) (fun q6 => ?_) (fun q6 => ?_)
    · have h := h.1 q6
      refine lv_iconst (v := (-1)) hx hb dX10_view_21 (by decide) ?_
      exact W.iret (v := (-1)) hx hb hr (fun t ht hW => ⟨⟨(-1), M, rfl, h, xAt_of ht hP⟩, hS.F ht⟩) hS.2.2 dX10_view_22
    · have h := h.2 q6
      refine lv_aload_n hx hb dX10_view_9 rfl (lv_at hl 0 rfl) ?_
      refine va_get (D := D) (ci := 10) (v := .ref (ad 1)) (C := RX10) (T := TX10) (N := 11) hx hb hts inX10 hown hK hP 0 (xW_0 cI cZ ad M) rfl 0 (by decide) k0 (fun _ h9 => h9) rfl dX10_view_10 ?_
      refine lv_iload_n hx hb dX10_view_13 rfl (lv_at hl 2 rfl) ?_
      refine lv_iload_n hx hb dX10_view_14 rfl (lv_at hl 3 rfl) ?_
      refine x_callVi (As := [.int a2, .int a3]) (rest := []) ⟨hx, hb, hml, hown, hts⟩ (kX6_hasSquare l D cI cZ ad zA zD zR hD M a2 a3 _ h) (cwV 2 hts (gdV uS (inA_13 _ (List.mem_of_getElem? (i := 6) rfl)) vX6_hasSquare) rfl rfl rfl (by decide +kernel) ⟨Nat.le_of_ble_eq_true rfl, Nat.le_of_ble_eq_true rfl⟩) (va_recv hK hP (ci := 6) (q0 := 1) rfl (xW_1 cI cZ ad M)) hP hK hZ hN hS hl.1 rfl rfl (Nat.le_of_ble_eq_true rfl) dX10_view_15 (fun r15 M15 H locs h hP hS => ?_)
      refine lv_if_ne (tgt := 23) hx hb dX10_view_18 (by decide) (fun q18 => ?_) (fun q18 => ?_)
      · have h := h.1 q18
        refine lv_aload_n hx hb dX10_view_23 rfl (lv_at hl 0 rfl) ?_
        refine x_callVv (As := []) (rest := []) ⟨hx, hb, hml, hown, hts⟩ (kX10_refreshDepths l D cI cZ ad zA zD zR hD M15 _ h) (cwV 0 hts (gdV uS (inA_14 _ (List.mem_of_getElem? (i := 15) rfl)) vX10_refreshDepths) rfl rfl rfl (by decide +kernel) ⟨Nat.le_of_ble_eq_true rfl, Nat.le_of_ble_eq_true rfl⟩) (va_recv hK hP (ci := 10) (q0 := 0) rfl (xW_0 cI cZ ad M15)) hP hK hZ hN hS hl.1 rfl rfl (Nat.le_of_ble_eq_true rfl) dX10_view_24 (fun M24 H locs h hP hS => ?_)
        refine lv_aload_n hx hb dX10_view_27 rfl (lv_at hl 0 rfl) ?_
        refine va_get (D := D) (ci := 10) (v := .ref (ad 37)) (C := RX10) (T := TX10) (N := 11) hx hb hts inX10 hown hK hP 0 (xW_0 cI cZ ad M24) rfl 7 (by decide) k2 (fun _ h9 => h9) rfl dX10_view_28 ?_
        refine lv_iload_n hx hb dX10_view_31 rfl (lv_at hl 1 rfl) ?_
        refine lv_iload_n hx hb dX10_view_32 rfl (lv_at hl 2 rfl) ?_
        refine lv_iload_n hx hb dX10_view_33 rfl (lv_at hl 3 rfl) ?_
        refine lv_aload_n hx hb dX10_view_34 rfl (lv_at hl 0 rfl) ?_
        refine va_get (D := D) (ci := 10) (v := .ref (ad 1)) (C := RX10) (T := TX10) (N := 11) hx hb hts inX10 hown hK hP 0 (xW_0 cI cZ ad M24) rfl 0 (by decide) k0 (fun _ h9 => h9) rfl dX10_view_35 ?_
        refine va_get (D := D) (ci := 6) (v := .int (M24 1 0)) (C := RX6) (T := TX6) (N := 5) hx hb hts inX6 hown hK hP 1 (xW_1 cI cZ ad M24) rfl 0 (by decide) k3 (fun _ h9 => h9) rfl dX10_view_38 ?_
        refine x_callVi (As := [.int a1, .int a2, .int a3, .int (M24 1 0)]) (rest := []) ⟨hx, hb, hml, hown, hts⟩ (kX2_comesFrom l D cI cZ ad zA zD zR hD M24 a1 a2 a3 (M24 1 0) _ h) (cwV 4 hts (gdV uS (inA_32 _ (List.mem_of_getElem? (i := 19) rfl)) vX2_comesFrom) rfl rfl rfl (by decide +kernel) ⟨Nat.le_of_ble_eq_true rfl, Nat.le_of_ble_eq_true rfl⟩) (va_recv hK hP (ci := 2) (q0 := 37) rfl (xW_37 cI cZ ad M24)) hP hK hZ hN hS hl.1 rfl rfl (Nat.le_of_ble_eq_true rfl) dX10_view_41 (fun r41 M41 H locs h hP hS => ?_)
        refine lv_istore (lv' := [(4, .int r41), (0, .ref (ad 0)), (1, .int a1), (2, .int a2), (3, .int a3)]) hx hb dX10_view_44 hl (by decide) rfl (fun ls hl => ?_)
        refine lv_iload hx hb dX10_view_46 (lv_at hl 0 rfl) ?_
        refine lv_bipush (v := (-4)) hx hb dX10_view_48 (by decide) ?_
        refine lv_icmp_ne (tgt := 58) hx hb dX10_view_50 (by decide) (fun q50 => ?_) (fun q50 => ?_)
        · have h := h.1 q50
          refine lv_aload_n hx hb dX10_view_58 rfl (lv_at hl 1 rfl) ?_
          refine va_get (D := D) (ci := 10) (v := .ref (ad 1)) (C := RX10) (T := TX10) (N := 11) hx hb hts inX10 hown hK hP 0 (xW_0 cI cZ ad M41) rfl 0 (by decide) k0 (fun _ h9 => h9) rfl dX10_view_59 ?_
          refine lv_iconst (v := 0) hx hb dX10_view_62 (by decide) ?_
          refine lv_iload hx hb dX10_view_63 (lv_at hl 0 rfl) ?_
          refine lv_iload_n hx hb dX10_view_65 rfl (lv_at hl 4 rfl) ?_
          refine x_callVi (As := [.int 0, .int r41, .int a3]) (rest := []) ⟨hx, hb, hml, hown, hts⟩ (kX6_seen l D cI cZ ad zA zD zR hD M41 0 r41 a3 _ h) (cwV 3 hts (gdV uS (inA_11 _ (List.mem_of_getElem? (i := 14) rfl)) vX6_seen) rfl rfl rfl (by decide +kernel) ⟨Nat.le_of_ble_eq_true rfl, Nat.le_of_ble_eq_true rfl⟩) (va_recv hK hP (ci := 6) (q0 := 1) rfl (xW_1 cI cZ ad M41)) hP hK hZ hN hS hl.1 rfl rfl (Nat.le_of_ble_eq_true rfl) dX10_view_66 (fun r66 M66 H locs h hP hS => ?_)
          exact W.iret (v := r66) hx hb hr (fun t ht hW => ⟨⟨r66, M66, rfl, h, xAt_of ht hP⟩, hS.F ht⟩) hS.2.2 dX10_view_69
        · have h := h.2 q50
          refine lv_bipush (v := (-4)) hx hb dX10_view_53 (by decide) ?_
          refine lv_goto (tgt := 69) hx hb dX10_view_55 (by decide) ?_
          exact W.iret (v := (-4)) hx hb hr (fun t ht hW => ⟨⟨(-4), M41, rfl, h, xAt_of ht hP⟩, hS.F ht⟩) hS.2.2 dX10_view_69
      · have h := h.2 q18
        refine lv_iconst (v := (-1)) hx hb dX10_view_21 (by decide) ?_
        exact W.iret (v := (-1)) hx hb hr (fun t ht hW => ⟨⟨(-1), M15, rfl, h, xAt_of ht hP⟩, hS.F ht⟩) hS.2.2 dX10_view_22
abbrev GX10_holes (p : Program) (l : Launch) (e : Env) (s : State) (m : MethodId) (below : List Frame) (meth : Method) (c : Code) (D : va_G) (cI cZ : ClassId) (ad : Nat → Nat) (a1 : Int32) (Q : Int32 → Mem → Prop) (H : Heap) (locs : List Loc) (g : JFrame) : Prop := W p l e (headSpec uX10_holes { frames := 6, cells := 0, slots := 0, locals := 149 }).room s m ([.ref (ad 0), .int a1] : List Value).toArray below meth c H locs 0 0 (MQ below (va_Qi Q (xAt D cI cZ ad) (xA ad)) ([.ref (ad 0), .int a1] : List Value).toArray s 0 0 (xA ad)) g
set_option maxHeartbeats 4000000 in
set_option maxRecDepth 100000 in
theorem kX10_holes (l : Launch) (D : va_G) (cI cZ : ClassId) (ad : Nat → Nat) (zA zD zR : Nat) (hD : ∀ M : Mem, va_D (xA ad) (xW cI cZ ad M)) (M : Mem) (a1 : Int32) (Q : Int32 → Mem → Prop) (h : wX10_holes M a1 Q) : Met l yX10_holes uX10_holes ({ frames := 6, cells := 0, slots := 0, locals := 149 }) (va_Pc [.ref (ad 0), .int a1] (xPre D cI cZ ad zA zD zR M)) (va_Qi Q (xAt D cI cZ ad) (xA ad)) 0 0 (xA ad) := by
  refine Met.ofW (cc := cX10_holes) (maxL := 5) (ret := (some .int)) (by decide) rfl ?_
  intro p e s m args below meth c s₁ B hml hv
  obtain ⟨rfl, hP, hK, hZ, hN⟩ := hv
  have hx := B.exec
  have hb := B.bytes
  have hr := B.returns
  have hts := atoms_spec (ws := uX10_holes) B.pre
  have hown : s.vm.findClass RX10 = some m.cls := findClass_of_methodNamed B.named
  have hlocks := B.notSynchronized
  have hS : va_S (xA ad) s.heap s.heap [] := va_S.rf
  have k0 := hts (.fieldLink RX10 10 "TwoEyes" "scene" "LTwoEyes$Scene;") (List.mem_cons_of_mem _ (inA_1 _ (List.mem_of_getElem? (i := 15) rfl)))
  have inX10 : ∀ w ∈ wsX100, w ∈ uX10_holes := fun w h => List.mem_cons_of_mem _ (inCX10 w h)
  have k2 := hts (.fieldLink RX10 130 "TwoEyes$Scene" "width" "I") (List.mem_cons_of_mem _ (inA_14 _ (List.mem_of_getElem? (i := 8) rfl)))
  have inX6 : ∀ w ∈ wsX60, w ∈ uX10_holes := fun w h => List.mem_cons_of_mem _ (inCX6 w h)
  have k4 := hts (.fieldLink RX10 51 "TwoEyes" "depths" "LTwoEyes$Depths;") (List.mem_cons_of_mem _ (inA_2 _ (List.mem_of_getElem? (i := 11) rfl)))
  have k5 := hts (.fieldLink RX10 134 "TwoEyes$Scene" "height" "I") (List.mem_cons_of_mem _ (inA_14 _ (List.mem_of_getElem? (i := 9) rfl)))
  have L33 : ∀ (K77 : Int32 → Int32 → Int32 → Mem → Prop), (∀ (x1 x2 x3 : Int32) (M : Mem) (H : Heap) (locs : List Loc) (ls : Array Slot), lv_has ls 5 [(0, .ref (ad 0)), (1, .int x1), (2, .int x2), (3, .int x3)] → va_P D vwCl (xW cI cZ ad M) H → va_S (xA ad) s.heap H locs → K77 x1 x2 x3 M → GX10_holes p l e s m below meth c D cI cZ ad a1 Q H locs (F0 m 77 ls [])) → ∀ n : Nat, ∀ (x1 x2 x3 x4 : Int32) (M : Mem) (H : Heap) (locs : List Loc) (ls : Array Slot), lv_has ls 5 [(0, .ref (ad 0)), (1, .int x1), (2, .int x2), (3, .int x3), (4, .int x4)] → va_P D vwCl (xW cI cZ ad M) H → va_S (xA ad) s.heap H locs → wX10_holes_L33 K77 Q n x1 x2 x3 x4 M → GX10_holes p l e s m below meth c D cI cZ ad a1 Q H locs (F0 m 33 ls []) := by
    intro K77 hK77 n
    induction n with
    | zero => intro x1 x2 x3 x4 M H locs ls hl hP hS h; exact (show False from h).elim
    | succ n hB =>
      intro x1 x2 x3 x4 M H locs ls hl hP hS h
      rw [wX10_holes_L33_s] at h
      refine lv_iload hx hb dX10_holes_33 (lv_at hl 4 rfl) ?_
      refine lv_aload_n hx hb dX10_holes_35 rfl (lv_at hl 0 rfl) ?_
      refine va_get (D := D) (ci := 10) (v := .ref (ad 1)) (C := RX10) (T := TX10) (N := 11) hx hb hts inX10 hown hK hP 0 (xW_0 cI cZ ad M) rfl 0 (by decide) k0 (fun _ h9 => h9) rfl dX10_holes_36 ?_
      refine va_get (D := D) (ci := 6) (v := .int (M 1 0)) (C := RX6) (T := TX6) (N := 5) hx hb hts inX6 hown hK hP 1 (xW_1 cI cZ ad M) rfl 0 (by decide) k2 (fun _ h9 => h9) rfl dX10_holes_39 ?_
      refine lv_icmp_ge (tgt := 77) hx hb dX10_holes_42 (by decide) (fun q42 => ?_) (fun q42 => ?_)
      · have h := h.1 q42
        exact hK77 x1 x2 x3 M _ _ _ (lv_sub hl [0, 1, 2, 3] rfl) hP hS h
      · have h := h.2 q42
        refine lv_aload_n hx hb dX10_holes_45 rfl (lv_at hl 0 rfl) ?_
        refine va_get (D := D) (ci := 10) (v := .ref (ad 37)) (C := RX10) (T := TX10) (N := 11) hx hb hts inX10 hown hK hP 0 (xW_0 cI cZ ad M) rfl 7 (by decide) k4 (fun _ h9 => h9) rfl dX10_holes_46 ?_
        refine lv_iload_n hx hb dX10_holes_49 rfl (lv_at hl 1 rfl) ?_
        refine lv_iload hx hb dX10_holes_50 (lv_at hl 4 rfl) ?_
        refine lv_iload_n hx hb dX10_holes_52 rfl (lv_at hl 3 rfl) ?_
        refine lv_aload_n hx hb dX10_holes_53 rfl (lv_at hl 0 rfl) ?_
        refine va_get (D := D) (ci := 10) (v := .ref (ad 1)) (C := RX10) (T := TX10) (N := 11) hx hb hts inX10 hown hK hP 0 (xW_0 cI cZ ad M) rfl 0 (by decide) k0 (fun _ h9 => h9) rfl dX10_holes_54 ?_
        refine va_get (D := D) (ci := 6) (v := .int (M 1 0)) (C := RX6) (T := TX6) (N := 5) hx hb hts inX6 hown hK hP 1 (xW_1 cI cZ ad M) rfl 0 (by decide) k2 (fun _ h9 => h9) rfl dX10_holes_57 ?_
        refine x_callVi (As := [.int x1, .int x4, .int x3, .int (M 1 0)]) (rest := []) ⟨hx, hb, hml, hown, hts⟩ (kX2_comesFrom l D cI cZ ad zA zD zR hD M x1 x4 x3 (M 1 0) _ h) (cwV 4 hts (gdV uS (inA_32 _ (List.mem_of_getElem? (i := 19) rfl)) vX2_comesFrom) rfl rfl rfl (by decide +kernel) ⟨Nat.le_of_ble_eq_true rfl, Nat.le_of_ble_eq_true rfl⟩) (va_recv hK hP (ci := 2) (q0 := 37) rfl (xW_37 cI cZ ad M)) hP hK hZ hN hS hl.1 rfl rfl (Nat.le_of_ble_eq_true rfl) dX10_holes_60 (fun r60 M60 H locs h hP hS => ?_)
        refine lv_bipush (v := (-4)) hx hb dX10_holes_63 (by decide) ?_
        refine lv_icmp_ne (tgt := 71) hx hb dX10_holes_65 (by decide) (fun q65 => ?_) (fun q65 => ?_)
        · have h := h.1 q65
          obtain ⟨x4_71, ex4_71⟩ : ∃ y : Int32, y = x4 + 1 := ⟨_, rfl⟩
          have h := h x4_71 ex4_71
          refine lv_iinc (v := x4_71) (lv' := [(4, .int x4_71), (0, .ref (ad 0)), (1, .int x1), (2, .int x2), (3, .int x3)]) hx hb dX10_holes_71 hl (k := 4) rfl (by rw [ex4_71]; rfl) (by decide) rfl (fun ls hl => ?_)
          refine lv_goto (tgt := 33) hx hb dX10_holes_74 (by decide) ?_
          exact hB x1 x2 x3 x4_71 M60 _ _ _ (lv_sub hl [1, 2, 3, 4, 0] rfl) hP hS h
        · have h := h.2 q65
          obtain ⟨x2_68, ex2_68⟩ : ∃ y : Int32, y = x2 + 1 := ⟨_, rfl⟩
          have h := h x2_68 ex2_68
          refine lv_iinc (v := x2_68) (lv' := [(2, .int x2_68), (0, .ref (ad 0)), (1, .int x1), (3, .int x3), (4, .int x4)]) hx hb dX10_holes_68 hl (k := 2) rfl (by rw [ex2_68]; rfl) (by decide) rfl (fun ls hl => ?_)
          obtain ⟨x4_71, ex4_71⟩ : ∃ y : Int32, y = x4 + 1 := ⟨_, rfl⟩
          have h := h x4_71 ex4_71
          refine lv_iinc (v := x4_71) (lv' := [(4, .int x4_71), (2, .int x2_68), (0, .ref (ad 0)), (1, .int x1), (3, .int x3)]) hx hb dX10_holes_71 hl (k := 4) rfl (by rw [ex4_71]; rfl) (by decide) rfl (fun ls hl => ?_)
          refine lv_goto (tgt := 33) hx hb dX10_holes_74 (by decide) ?_
          exact hB x1 x2_68 x3 x4_71 M60 _ _ _ (lv_sub hl [2, 3, 1, 4, 0] rfl) hP hS h
  have L19 : ∀ (K83 : Int32 → Mem → Prop), (∀ (x2 : Int32) (M : Mem) (H : Heap) (locs : List Loc) (ls : Array Slot), lv_has ls 5 [(2, .int x2)] → va_P D vwCl (xW cI cZ ad M) H → va_S (xA ad) s.heap H locs → K83 x2 M → GX10_holes p l e s m below meth c D cI cZ ad a1 Q H locs (F0 m 83 ls [])) → ∀ n : Nat, ∀ (x1 x2 x3 : Int32) (M : Mem) (H : Heap) (locs : List Loc) (ls : Array Slot), lv_has ls 5 [(0, .ref (ad 0)), (1, .int x1), (2, .int x2), (3, .int x3)] → va_P D vwCl (xW cI cZ ad M) H → va_S (xA ad) s.heap H locs → wX10_holes_L19 K83 Q n x1 x2 x3 M → GX10_holes p l e s m below meth c D cI cZ ad a1 Q H locs (F0 m 19 ls []) := by
    intro K83 hK83 n
    induction n with
    | zero => intro x1 x2 x3 M H locs ls hl hP hS h; exact (show False from h).elim
    | succ n hB =>
      intro x1 x2 x3 M H locs ls hl hP hS h
      rw [wX10_holes_L19_s] at h
      refine lv_iload_n hx hb dX10_holes_19 rfl (lv_at hl 3 rfl) ?_
      refine lv_aload_n hx hb dX10_holes_20 rfl (lv_at hl 0 rfl) ?_
      refine va_get (D := D) (ci := 10) (v := .ref (ad 1)) (C := RX10) (T := TX10) (N := 11) hx hb hts inX10 hown hK hP 0 (xW_0 cI cZ ad M) rfl 0 (by decide) k0 (fun _ h9 => h9) rfl dX10_holes_21 ?_
      refine va_get (D := D) (ci := 6) (v := .int (M 1 1)) (C := RX6) (T := TX6) (N := 5) hx hb hts inX6 hown hK hP 1 (xW_1 cI cZ ad M) rfl 1 (by decide) k5 (fun _ h9 => h9) rfl dX10_holes_24 ?_
      refine lv_icmp_ge (tgt := 83) hx hb dX10_holes_27 (by decide) (fun q27 => ?_) (fun q27 => ?_)
      · have h := h.1 q27
        exact hK83 x2 M _ _ _ (lv_sub hl [2] rfl) hP hS h
      · have h := h.2 q27
        refine lv_iconst (v := 0) hx hb dX10_holes_30 (by decide) ?_
        refine lv_istore (lv' := [(4, .int 0), (0, .ref (ad 0)), (1, .int x1), (2, .int x2), (3, .int x3)]) hx hb dX10_holes_31 hl (by decide) rfl (fun ls hl => ?_)
        obtain ⟨n, h⟩ := h
        refine L33 _ (fun x1 x2 x3 M H locs ls hl hP hS h => ?_) n x1 x2 x3 0 M _ _ _ (lv_sub hl [1, 2, 3, 4, 0] rfl) hP hS h
        obtain ⟨x3_77, ex3_77⟩ : ∃ y : Int32, y = x3 + 1 := ⟨_, rfl⟩
        have h := h x3_77 ex3_77
        refine lv_iinc (v := x3_77) (lv' := [(3, .int x3_77), (0, .ref (ad 0)), (1, .int x1), (2, .int x2)]) hx hb dX10_holes_77 hl (k := 3) rfl (by rw [ex3_77]; rfl) (by decide) rfl (fun ls hl => ?_)
        refine lv_goto (tgt := 19) hx hb dX10_holes_80 (by decide) ?_
        exact hB x1 x2 x3_77 M _ _ _ (lv_sub hl [1, 2, 3, 0] rfl) hP hS h
  have hl := lv_entry ([.ref (ad 0), .int a1]) (n := 5) (Nat.le_of_ble_eq_true rfl)
  rw [lg_entry_eq]
  generalize (lg_sl ([.ref (ad 0), .int a1]) ++ List.replicate (5 - (lg_sl ([.ref (ad 0), .int a1])).length) Slot.unset).toArray = ls at hl ⊢
  have hl : lv_has ls 5 [(0, .ref (ad 0)), (1, .int a1)] := hl
  refine lv_iload_n hx hb dX10_holes_0 rfl (lv_at hl 1 rfl) ?_
  refine lv_if_lt (tgt := 9) hx hb dX10_holes_1 (by decide) (fun q1 => ?_) (fun q1 => ?_)
  · have h := h.1 q1
    refine lv_iconst (v := (-1)) hx hb dX10_holes_9 (by decide) ?_
    exact W.iret (v := (-1)) hx hb hr (fun t ht hW => ⟨⟨(-1), M, rfl, h, xAt_of ht hP⟩, hS.F ht⟩) hS.2.2 dX10_holes_10
  · have h := h.2 q1
    refine lv_iload_n hx hb dX10_holes_4 rfl (lv_at hl 1 rfl) ?_
    refine lv_iconst (v := 4) hx hb dX10_holes_5 (by decide) ?_
    refine lv_icmp_le (tgt := 11) hx hb dX10_holes_6 (by decide) (fun q6 => ?_) (fun q6 => ?_)
    · have h := h.1 q6
      refine lv_aload_n hx hb dX10_holes_11 rfl (lv_at hl 0 rfl) ?_
      refine x_callVv (As := []) (rest := []) ⟨hx, hb, hml, hown, hts⟩ (kX10_refreshDepths l D cI cZ ad zA zD zR hD M _ h) (cwV 0 hts (gdV uS (inA_14 _ (List.mem_of_getElem? (i := 15) rfl)) vX10_refreshDepths) rfl rfl rfl (by decide +kernel) ⟨Nat.le_of_ble_eq_true rfl, Nat.le_of_ble_eq_true rfl⟩) (va_recv hK hP (ci := 10) (q0 := 0) rfl (xW_0 cI cZ ad M)) hP hK hZ hN hS hl.1 rfl rfl (Nat.le_of_ble_eq_true rfl) dX10_holes_12 (fun M12 H locs h hP hS => ?_)
      refine lv_iconst (v := 0) hx hb dX10_holes_15 (by decide) ?_
      refine lv_istore_n (lv' := [(2, .int 0), (0, .ref (ad 0)), (1, .int a1)]) hx hb dX10_holes_16 rfl hl (by decide) rfl (fun ls hl => ?_)
      refine lv_iconst (v := 0) hx hb dX10_holes_17 (by decide) ?_
      refine lv_istore_n (lv' := [(3, .int 0), (2, .int 0), (0, .ref (ad 0)), (1, .int a1)]) hx hb dX10_holes_18 rfl hl (by decide) rfl (fun ls hl => ?_)
      obtain ⟨n, h⟩ := h
      refine L19 _ (fun x2 M H locs ls hl hP hS h => ?_) n a1 0 0 M12 _ _ _ (lv_sub hl [2, 3, 1, 0] rfl) hP hS h
      refine lv_iload_n hx hb dX10_holes_83 rfl (lv_at hl 0 rfl) ?_
      exact W.iret (v := x2) hx hb hr (fun t ht hW => ⟨⟨x2, M, rfl, h, xAt_of ht hP⟩, hS.F ht⟩) hS.2.2 dX10_holes_84
    · have h := h.2 q6
      refine lv_iconst (v := (-1)) hx hb dX10_holes_9 (by decide) ?_
      exact W.iret (v := (-1)) hx hb hr (fun t ht hW => ⟨⟨(-1), M, rfl, h, xAt_of ht hP⟩, hS.F ht⟩) hS.2.2 dX10_holes_10
set_option maxHeartbeats 4000000 in
set_option maxRecDepth 100000 in
theorem kX6_hasRows (l : Launch) (D : va_G) (cI cZ : ClassId) (ad : Nat → Nat) (zA zD zR : Nat) (hD : ∀ M : Mem, va_D (xA ad) (xW cI cZ ad M)) (M : Mem) (a1 a2 : Int32) (Q : Int32 → Mem → Prop) (h : wX6_hasRows M a1 a2 Q) : Met l yX6_hasRows uX6_hasRows ({ frames := 0, cells := 0, slots := 0, locals := 0 }) (va_Pc [.ref (ad 1), .int a1, .int a2] (xPre D cI cZ ad zA zD zR M)) (va_Qi Q (xAt D cI cZ ad) (xA ad)) 0 0 (xA ad) := by
  refine Met.ofW (cc := cX6_hasRows) (maxL := 3) (ret := (some .boolean)) (by decide) rfl ?_
  intro p e s m args below meth c s₁ B hml hv
  obtain ⟨rfl, hP, hK, hZ, hN⟩ := hv
  have hx := B.exec
  have hb := B.bytes
  have hr := B.returns
  have hts := atoms_spec (ws := uX6_hasRows) B.pre
  have hown : s.vm.findClass RX6 = some m.cls := findClass_of_methodNamed B.named
  have hlocks := B.notSynchronized
  have hS : va_S (xA ad) s.heap s.heap [] := va_S.rf
  have k0 := hts (.fieldLink RX6 15 "TwoEyes$Scene" "height" "I") (List.mem_cons_of_mem _ (inA_3 _ (List.mem_of_getElem? (i := 5) rfl)))
  have inX6 : ∀ w ∈ wsX60, w ∈ uX6_hasRows := fun w h => List.mem_cons_of_mem _ (inCX6 w h)
  have hl := lv_entry ([.ref (ad 1), .int a1, .int a2]) (n := 3) (Nat.le_of_ble_eq_true rfl)
  rw [lg_entry_eq]
  generalize (lg_sl ([.ref (ad 1), .int a1, .int a2]) ++ List.replicate (3 - (lg_sl ([.ref (ad 1), .int a1, .int a2])).length) Slot.unset).toArray = ls at hl ⊢
  have hl : lv_has ls 3 [(0, .ref (ad 1)), (1, .int a1), (2, .int a2)] := hl
  refine lv_iload_n hx hb dX6_hasRows_0 rfl (lv_at hl 1 rfl) ?_
  refine lv_if_lt (tgt := 26) hx hb dX6_hasRows_1 (by decide) (fun q1 => ?_) (fun q1 => ?_)
  · have h := h.1 q1
    refine lv_iconst (v := 0) hx hb dX6_hasRows_26 (by decide) ?_
    exact W.zret (v := 0) hx hb hr rfl (fun t ht hW => ⟨⟨0, M, rfl, h, xAt_of ht hP⟩, hS.F ht⟩) hS.2.2 dX6_hasRows_27
  · have h := h.2 q1
    refine lv_iload_n hx hb dX6_hasRows_4 rfl (lv_at hl 1 rfl) ?_
    refine lv_aload_n hx hb dX6_hasRows_5 rfl (lv_at hl 0 rfl) ?_
    refine va_get (D := D) (ci := 6) (v := .int (M 1 1)) (C := RX6) (T := TX6) (N := 5) hx hb hts inX6 hown hK hP 1 (xW_1 cI cZ ad M) rfl 1 (by decide) k0 (fun _ h9 => h9) rfl dX6_hasRows_6 ?_
    refine lv_icmp_gt (tgt := 26) hx hb dX6_hasRows_9 (by decide) (fun q9 => ?_) (fun q9 => ?_)
    · have h := h.1 q9
      refine lv_iconst (v := 0) hx hb dX6_hasRows_26 (by decide) ?_
      exact W.zret (v := 0) hx hb hr rfl (fun t ht hW => ⟨⟨0, M, rfl, h, xAt_of ht hP⟩, hS.F ht⟩) hS.2.2 dX6_hasRows_27
    · have h := h.2 q9
      refine lv_iload_n hx hb dX6_hasRows_12 rfl (lv_at hl 2 rfl) ?_
      refine lv_aload_n hx hb dX6_hasRows_13 rfl (lv_at hl 0 rfl) ?_
      refine va_get (D := D) (ci := 6) (v := .int (M 1 1)) (C := RX6) (T := TX6) (N := 5) hx hb hts inX6 hown hK hP 1 (xW_1 cI cZ ad M) rfl 1 (by decide) k0 (fun _ h9 => h9) rfl dX6_hasRows_14 ?_
      refine lv_iload_n hx hb dX6_hasRows_17 rfl (lv_at hl 1 rfl) ?_
      refine lv_isub hx hb dX6_hasRows_18 ?_
      refine lv_icmp_gt (tgt := 26) hx hb dX6_hasRows_19 (by decide) (fun q19 => ?_) (fun q19 => ?_)
      · have h := h.1 q19
        refine lv_iconst (v := 0) hx hb dX6_hasRows_26 (by decide) ?_
        exact W.zret (v := 0) hx hb hr rfl (fun t ht hW => ⟨⟨0, M, rfl, h, xAt_of ht hP⟩, hS.F ht⟩) hS.2.2 dX6_hasRows_27
      · have h := h.2 q19
        refine lv_iconst (v := 1) hx hb dX6_hasRows_22 (by decide) ?_
        refine lv_goto (tgt := 27) hx hb dX6_hasRows_23 (by decide) ?_
        exact W.zret (v := 1) hx hb hr rfl (fun t ht hW => ⟨⟨1, M, rfl, h, xAt_of ht hP⟩, hS.F ht⟩) hS.2.2 dX6_hasRows_27
abbrev GX6_anyMissing (p : Program) (l : Launch) (e : Env) (s : State) (m : MethodId) (below : List Frame) (meth : Method) (c : Code) (D : va_G) (cI cZ : ClassId) (ad : Nat → Nat) (a1 a2 : Int32) (Q : Int32 → Mem → Prop) (H : Heap) (locs : List Loc) (g : JFrame) : Prop := W p l e (headSpec uX6_anyMissing { frames := 0, cells := 0, slots := 0, locals := 0 }).room s m ([.ref (ad 1), .int a1, .int a2] : List Value).toArray below meth c H locs 0 0 (MQ below (va_Qi Q (xAt D cI cZ ad) (xA ad)) ([.ref (ad 1), .int a1, .int a2] : List Value).toArray s 0 0 (xA ad)) g
set_option maxHeartbeats 4000000 in
set_option maxRecDepth 100000 in
theorem kX6_anyMissing (l : Launch) (D : va_G) (cI cZ : ClassId) (ad : Nat → Nat) (zA zD zR : Nat) (hD : ∀ M : Mem, va_D (xA ad) (xW cI cZ ad M)) (M : Mem) (a1 a2 : Int32) (Q : Int32 → Mem → Prop) (h : wX6_anyMissing M a1 a2 Q) : Met l yX6_anyMissing uX6_anyMissing ({ frames := 0, cells := 0, slots := 0, locals := 0 }) (va_Pc [.ref (ad 1), .int a1, .int a2] (xPre D cI cZ ad zA zD zR M)) (va_Qi Q (xAt D cI cZ ad) (xA ad)) 0 0 (xA ad) := by
  refine Met.ofW (cc := cX6_anyMissing) (maxL := 4) (ret := (some .boolean)) (by decide) rfl ?_
  intro p e s m args below meth c s₁ B hml hv
  obtain ⟨rfl, hP, hK, hZ, hN⟩ := hv
  have hx := B.exec
  have hb := B.bytes
  have hr := B.returns
  have hts := atoms_spec (ws := uX6_anyMissing) B.pre
  have hown : s.vm.findClass RX6 = some m.cls := findClass_of_methodNamed B.named
  have hlocks := B.notSynchronized
  have hS : va_S (xA ad) s.heap s.heap [] := va_S.rf
  have k0 := hts (.fieldLink RX6 21 "TwoEyes$Scene" "left" "LTwoEyes$Picture;") (List.mem_cons_of_mem _ (inA_3 _ (List.mem_of_getElem? (i := 9) rfl)))
  have inX6 : ∀ w ∈ wsX60, w ∈ uX6_anyMissing := fun w h => List.mem_cons_of_mem _ (inCX6 w h)
  have k2 := hts (.fieldLink RX6 58 "TwoEyes$Picture" "missing" "[Z") (List.mem_cons_of_mem _ (inA_9 _ (List.mem_of_getElem? (i := 16) rfl)))
  have inX4 : ∀ w ∈ wsX40, w ∈ uX6_anyMissing := fun w h => List.mem_cons_of_mem _ (inCX4 w h)
  have k4 := hts (.fieldLink RX6 25 "TwoEyes$Scene" "right" "LTwoEyes$Picture;") (List.mem_cons_of_mem _ (inA_3 _ (List.mem_of_getElem? (i := 10) rfl)))
  have L2 : ∀ (K41 : Mem → Prop), (∀ (M : Mem) (H : Heap) (locs : List Loc) (ls : Array Slot), lv_has ls 4 [] → va_P D vwCl (xW cI cZ ad M) H → va_S (xA ad) s.heap H locs → K41 M → GX6_anyMissing p l e s m below meth c D cI cZ ad a1 a2 Q H locs (F0 m 41 ls [])) → ∀ n : Nat, ∀ (x1 x2 x3 : Int32) (M : Mem) (H : Heap) (locs : List Loc) (ls : Array Slot), lv_has ls 4 [(0, .ref (ad 1)), (1, .int x1), (2, .int x2), (3, .int x3)] → va_P D vwCl (xW cI cZ ad M) H → va_S (xA ad) s.heap H locs → wX6_anyMissing_L2 K41 Q n x1 x2 x3 M → GX6_anyMissing p l e s m below meth c D cI cZ ad a1 a2 Q H locs (F0 m 2 ls []) := by
    intro K41 hK41 n
    induction n with
    | zero => intro x1 x2 x3 M H locs ls hl hP hS h; exact (show False from h).elim
    | succ n hB =>
      intro x1 x2 x3 M H locs ls hl hP hS h
      rw [wX6_anyMissing_L2_s] at h
      refine lv_iload_n hx hb dX6_anyMissing_2 rfl (lv_at hl 3 rfl) ?_
      refine lv_iload_n hx hb dX6_anyMissing_3 rfl (lv_at hl 1 rfl) ?_
      refine lv_iload_n hx hb dX6_anyMissing_4 rfl (lv_at hl 2 rfl) ?_
      refine lv_iadd hx hb dX6_anyMissing_5 ?_
      refine lv_icmp_ge (tgt := 41) hx hb dX6_anyMissing_6 (by decide) (fun q6 => ?_) (fun q6 => ?_)
      · have h := h.1 q6
        exact hK41 M _ _ _ (lv_sub hl [] rfl) hP hS h
      · have h := h.2 q6
        refine lv_aload_n hx hb dX6_anyMissing_9 rfl (lv_at hl 0 rfl) ?_
        refine va_get (D := D) (ci := 6) (v := .ref (ad 2)) (C := RX6) (T := TX6) (N := 5) hx hb hts inX6 hown hK hP 1 (xW_1 cI cZ ad M) rfl 2 (by decide) k0 (fun _ h9 => h9) rfl dX6_anyMissing_10 ?_
        refine va_get (D := D) (ci := 4) (v := .ref (ad 4)) (C := RX4) (T := TX4) (N := 2) hx hb hts inX4 hown hK hP 2 (xW_2 cI cZ ad M) rfl 1 (by decide) k2 (fun _ h9 => h9) rfl dX6_anyMissing_13 ?_
        refine lv_iload_n hx hb dX6_anyMissing_16 rfl (lv_at hl 3 rfl) ?_
        obtain ⟨hi17, h⟩ := h
        refine va_zald hx hb hK hP 4 1 (xW_4 cI cZ ad M) rfl hi17 dX6_anyMissing_17 ?_
        refine lv_if_ne (tgt := 33) hx hb dX6_anyMissing_18 (by decide) (fun q18 => ?_) (fun q18 => ?_)
        · have h := h.1 q18
          refine lv_iconst (v := 1) hx hb dX6_anyMissing_33 (by decide) ?_
          exact W.zret (v := 1) hx hb hr rfl (fun t ht hW => ⟨⟨1, M, rfl, h, xAt_of ht hP⟩, hS.F ht⟩) hS.2.2 dX6_anyMissing_34
        · have h := h.2 q18
          refine lv_aload_n hx hb dX6_anyMissing_21 rfl (lv_at hl 0 rfl) ?_
          refine va_get (D := D) (ci := 6) (v := .ref (ad 5)) (C := RX6) (T := TX6) (N := 5) hx hb hts inX6 hown hK hP 1 (xW_1 cI cZ ad M) rfl 3 (by decide) k4 (fun _ h9 => h9) rfl dX6_anyMissing_22 ?_
          refine va_get (D := D) (ci := 4) (v := .ref (ad 7)) (C := RX4) (T := TX4) (N := 2) hx hb hts inX4 hown hK hP 5 (xW_5 cI cZ ad M) rfl 1 (by decide) k2 (fun _ h9 => h9) rfl dX6_anyMissing_25 ?_
          refine lv_iload_n hx hb dX6_anyMissing_28 rfl (lv_at hl 3 rfl) ?_
          obtain ⟨hi29, h⟩ := h
          refine va_zald hx hb hK hP 7 1 (xW_7 cI cZ ad M) rfl hi29 dX6_anyMissing_29 ?_
          refine lv_if_eq (tgt := 35) hx hb dX6_anyMissing_30 (by decide) (fun q30 => ?_) (fun q30 => ?_)
          · have h := h.1 q30
            obtain ⟨x3_35, ex3_35⟩ : ∃ y : Int32, y = x3 + 1 := ⟨_, rfl⟩
            have h := h x3_35 ex3_35
            refine lv_iinc (v := x3_35) (lv' := [(3, .int x3_35), (0, .ref (ad 1)), (1, .int x1), (2, .int x2)]) hx hb dX6_anyMissing_35 hl (k := 3) rfl (by rw [ex3_35]; rfl) (by decide) rfl (fun ls hl => ?_)
            refine lv_goto (tgt := 2) hx hb dX6_anyMissing_38 (by decide) ?_
            exact hB x1 x2 x3_35 M _ _ _ (lv_sub hl [1, 2, 3, 0] rfl) hP hS h
          · have h := h.2 q30
            refine lv_iconst (v := 1) hx hb dX6_anyMissing_33 (by decide) ?_
            exact W.zret (v := 1) hx hb hr rfl (fun t ht hW => ⟨⟨1, M, rfl, h, xAt_of ht hP⟩, hS.F ht⟩) hS.2.2 dX6_anyMissing_34
  have hl := lv_entry ([.ref (ad 1), .int a1, .int a2]) (n := 4) (Nat.le_of_ble_eq_true rfl)
  rw [lg_entry_eq]
  generalize (lg_sl ([.ref (ad 1), .int a1, .int a2]) ++ List.replicate (4 - (lg_sl ([.ref (ad 1), .int a1, .int a2])).length) Slot.unset).toArray = ls at hl ⊢
  have hl : lv_has ls 4 [(0, .ref (ad 1)), (1, .int a1), (2, .int a2)] := hl
  refine lv_iload_n hx hb dX6_anyMissing_0 rfl (lv_at hl 1 rfl) ?_
  refine lv_istore_n (lv' := [(3, .int a1), (0, .ref (ad 1)), (1, .int a1), (2, .int a2)]) hx hb dX6_anyMissing_1 rfl hl (by decide) rfl (fun ls hl => ?_)
  obtain ⟨n, h⟩ := h
  refine L2 _ (fun  M H locs ls hl hP hS h => ?_) n a1 a2 a1 M _ _ _ (lv_sub hl [1, 2, 3, 0] rfl) hP hS h
  refine lv_iconst (v := 0) hx hb dX6_anyMissing_41 (by decide) ?_
  exact W.zret (v := 0) hx hb hr rfl (fun t ht hW => ⟨⟨0, M, rfl, h, xAt_of ht hP⟩, hS.F ht⟩) hS.2.2 dX6_anyMissing_42
