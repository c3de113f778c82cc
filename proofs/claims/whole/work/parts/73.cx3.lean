abbrev GX6_drawBoard (p : Program) (l : Launch) (e : Env) (s : State) (m : MethodId) (below : List Frame) (meth : Method) (c : Code) (D : va_G) (cI cZ : ClassId) (ad : Nat → Nat) (a1 a2 a3 a4 a5 a6 : Int32) (Q : Mem → Prop) (H : Heap) (locs : List Loc) (g : JFrame) : Prop := W p l e (headSpec uX6_drawBoard { frames := 1, cells := 0, slots := 0, locals := 22 }).room s m ([.ref (ad 1), .int a1, .int a2, .int a3, .int a4, .int a5, .int a6] : List Value).toArray below meth c H locs 0 0 (MQ below (va_Qv Q (xAt D cI cZ ad) (xA ad)) ([.ref (ad 1), .int a1, .int a2, .int a3, .int a4, .int a5, .int a6] : List Value).toArray s 0 0 (xA ad)) g
set_option maxHeartbeats 4000000 in
set_option maxRecDepth 100000 in
theorem kX6_drawBoard (l : Launch) (D : va_G) (cI cZ : ClassId) (ad : Nat → Nat) (zA zD zR : Nat) (hD : ∀ M : Mem, va_D (xA ad) (xW cI cZ ad M)) (M : Mem) (a1 a2 a3 a4 a5 a6 : Int32) (Q : Mem → Prop) (h : wX6_drawBoard M a1 a2 a3 a4 a5 a6 Q) : Met l yX6_drawBoard uX6_drawBoard ({ frames := 1, cells := 0, slots := 0, locals := 22 }) (va_Pc [.ref (ad 1), .int a1, .int a2, .int a3, .int a4, .int a5, .int a6] (xPre D cI cZ ad zA zD zR M)) (va_Qv Q (xAt D cI cZ ad) (xA ad)) 0 0 (xA ad) := by
  refine Met.ofW (cc := cX6_drawBoard) (maxL := 12) (ret := none) (by decide) rfl ?_
  intro p e s m args below meth c s₁ B hml hv
  obtain ⟨rfl, hP, hK, hZ, hN⟩ := hv
  have hx := B.exec
  have hb := B.bytes
  have hr := B.returns
  have hts := atoms_spec (ws := uX6_drawBoard) B.pre
  have hown : s.vm.findClass RX6 = some m.cls := findClass_of_methodNamed B.named
  have hlocks := B.notSynchronized
  have hS : va_S (xA ad) s.heap s.heap [] := va_S.rf
  have k0 := hts (.constant RX6 84 (1103515245)) (List.mem_cons_of_mem _ (inA_34 _ (List.mem_of_getElem? (i := 7) rfl)))
  have k1 := hts (.fieldLink RX6 21 "TwoEyes$Scene" "left" "LTwoEyes$Picture;") (List.mem_cons_of_mem _ (inA_3 _ (List.mem_of_getElem? (i := 9) rfl)))
  have inX6 : ∀ w ∈ wsX60, w ∈ uX6_drawBoard := fun w h => List.mem_cons_of_mem _ (inCX6 w h)
  have k3 := hts (.fieldLink RX6 62 "TwoEyes$Picture" "squares" "[I") (List.mem_cons_of_mem _ (inA_11 _ (List.mem_of_getElem? (i := 18) rfl)))
  have inX4 : ∀ w ∈ wsX40, w ∈ uX6_drawBoard := fun w h => List.mem_cons_of_mem _ (inCX4 w h)
  have k5 := hts (.fieldLink RX6 28 "TwoEyes$Scene" "truth" "[I") (List.mem_cons_of_mem _ (inA_3 _ (List.mem_of_getElem? (i := 11) rfl)))
  have k6 := hts (.fieldLink RX6 25 "TwoEyes$Scene" "right" "LTwoEyes$Picture;") (List.mem_cons_of_mem _ (inA_3 _ (List.mem_of_getElem? (i := 10) rfl)))
  have L19 : ∀ (K108 : Int32 → Int32 → Int32 → Int32 → Int32 → Int32 → Int32 → Mem → Prop), (∀ (x1 x2 x3 x4 x5 x7 x8 : Int32) (M : Mem) (H : Heap) (locs : List Loc) (ls : Array Slot), lv_has ls 12 [(0, .ref (ad 1)), (1, .int x1), (2, .int x2), (3, .int x3), (4, .int x4), (5, .int x5), (7, .int x7), (8, .int x8)] → va_P D vwCl (xW cI cZ ad M) H → va_S (xA ad) s.heap H locs → K108 x1 x2 x3 x4 x5 x7 x8 M → GX6_drawBoard p l e s m below meth c D cI cZ ad a1 a2 a3 a4 a5 a6 Q H locs (F0 m 108 ls [])) → ∀ n : Nat, ∀ (x1 x2 x3 x4 x5 x7 x8 x9 : Int32) (M : Mem) (H : Heap) (locs : List Loc) (ls : Array Slot), lv_has ls 12 [(0, .ref (ad 1)), (1, .int x1), (2, .int x2), (3, .int x3), (4, .int x4), (5, .int x5), (7, .int x7), (8, .int x8), (9, .int x9)] → va_P D vwCl (xW cI cZ ad M) H → va_S (xA ad) s.heap H locs → wX6_drawBoard_L19 K108 Q n x1 x2 x3 x4 x5 x7 x8 x9 M → GX6_drawBoard p l e s m below meth c D cI cZ ad a1 a2 a3 a4 a5 a6 Q H locs (F0 m 19 ls []) := by
    intro K108 hK108 n
    induction n with
    | zero => intro x1 x2 x3 x4 x5 x7 x8 x9 M H locs ls hl hP hS h; exact (show False from h).elim
    | succ n hB =>
      intro x1 x2 x3 x4 x5 x7 x8 x9 M H locs ls hl hP hS h
      rw [wX6_drawBoard_L19_s] at h
      refine lv_iload hx hb dX6_drawBoard_19 (lv_at hl 8 rfl) ?_
      refine lv_iload_n hx hb dX6_drawBoard_21 rfl (lv_at hl 1 rfl) ?_
      refine lv_iload_n hx hb dX6_drawBoard_22 rfl (lv_at hl 3 rfl) ?_
      refine lv_iadd hx hb dX6_drawBoard_23 ?_
      refine lv_icmp_ge (tgt := 108) hx hb dX6_drawBoard_24 (by decide) (fun q24 => ?_) (fun q24 => ?_)
      · have h := h.1 q24
        exact hK108 x1 x2 x3 x4 x5 x7 x8 M _ _ _ (lv_sub hl [0, 1, 2, 3, 4, 5, 6, 7] rfl) hP hS h
      · have h := h.2 q24
        refine lv_ldc hx hb hown k0 dX6_drawBoard_27 ?_
        refine lv_iload hx hb dX6_drawBoard_29 (lv_at hl 6 rfl) ?_
        refine lv_imul hx hb dX6_drawBoard_31 ?_
        refine lv_sipush (v := 12345) hx hb dX6_drawBoard_32 (by decide) ?_
        refine lv_iadd hx hb dX6_drawBoard_35 ?_
        refine lv_topi (fun x7_36 ex7_36 => ?_)
        have h := h x7_36 ex7_36
        refine lv_istore (lv' := [(7, .int x7_36), (0, .ref (ad 1)), (1, .int x1), (2, .int x2), (3, .int x3), (4, .int x4), (5, .int x5), (8, .int x8), (9, .int x9)]) hx hb dX6_drawBoard_36 hl (by decide) rfl (fun ls hl => ?_)
        refine lv_iload hx hb dX6_drawBoard_38 (lv_at hl 0 rfl) ?_
        refine lv_bipush (v := 16) hx hb dX6_drawBoard_40 (by decide) ?_
        refine lv_iushr (v := (jushr x7_36 16)) hx hb dX6_drawBoard_42 rfl ?_
        refine lv_sipush (v := 256) hx hb dX6_drawBoard_43 (by decide) ?_
        obtain ⟨hn46, h⟩ := h
        refine lv_irem hx hb dX6_drawBoard_46 hn46 ?_
        refine lv_topi (fun v46 ev46 => ?_)
        have h := h v46 ev46
        refine lv_istore (lv' := [(10, .int v46), (7, .int x7_36), (0, .ref (ad 1)), (1, .int x1), (2, .int x2), (3, .int x3), (4, .int x4), (5, .int x5), (8, .int x8), (9, .int x9)]) hx hb dX6_drawBoard_47 hl (by decide) rfl (fun ls hl => ?_)
        refine lv_aload_n hx hb dX6_drawBoard_49 rfl (lv_at hl 2 rfl) ?_
        refine lv_iload hx hb dX6_drawBoard_50 (lv_at hl 9 rfl) ?_
        refine lv_iload hx hb dX6_drawBoard_52 (lv_at hl 8 rfl) ?_
        refine x_callVi (As := [.int x9, .int x8]) (rest := []) ⟨hx, hb, hml, hown, hts⟩ (kX6_placeOf l D cI cZ ad zA zD zR hD M x9 x8 _ h) (cwV 2 hts (gdV uS (inA_34 _ (List.mem_of_getElem? (i := 8) rfl)) vX6_placeOf) rfl rfl rfl (by decide +kernel) ⟨Nat.le_of_ble_eq_true rfl, Nat.le_of_ble_eq_true rfl⟩) (va_recv hK hP (ci := 6) (q0 := 1) rfl (xW_1 cI cZ ad M)) hP hK hZ hN hS hl.1 rfl rfl (Nat.le_of_ble_eq_true rfl) dX6_drawBoard_54 (fun r54 M54 H locs h hP hS => ?_)
        refine lv_istore (lv' := [(11, .int r54), (10, .int v46), (7, .int x7_36), (0, .ref (ad 1)), (1, .int x1), (2, .int x2), (3, .int x3), (4, .int x4), (5, .int x5), (8, .int x8), (9, .int x9)]) hx hb dX6_drawBoard_57 hl (by decide) rfl (fun ls hl => ?_)
        refine lv_aload_n hx hb dX6_drawBoard_59 rfl (lv_at hl 3 rfl) ?_
        refine va_get (D := D) (ci := 6) (v := .ref (ad 2)) (C := RX6) (T := TX6) (N := 5) hx hb hts inX6 hown hK hP 1 (xW_1 cI cZ ad M54) rfl 2 (by decide) k1 (fun _ h9 => h9) rfl dX6_drawBoard_60 ?_
        refine va_get (D := D) (ci := 4) (v := .ref (ad 3)) (C := RX4) (T := TX4) (N := 2) hx hb hts inX4 hown hK hP 2 (xW_2 cI cZ ad M54) rfl 0 (by decide) k3 (fun _ h9 => h9) rfl dX6_drawBoard_63 ?_
        refine lv_iload hx hb dX6_drawBoard_66 (lv_at hl 0 rfl) ?_
        refine lv_iload hx hb dX6_drawBoard_68 (lv_at hl 1 rfl) ?_
        obtain ⟨hi70, h⟩ := h
        refine va_iast hx hb hK hP (hD M54) hS 3 0 (xW_3 cI cZ ad M54) rfl hi70 dX6_drawBoard_70 (fun H locs hP _ hS => ?_)
        refine xQ_3 hP (fun M70 eM70 hP => ?_)
        have h := h M70 eM70
        refine lv_aload_n hx hb dX6_drawBoard_71 rfl (lv_at hl 3 rfl) ?_
        refine va_get (D := D) (ci := 6) (v := .ref (ad 8)) (C := RX6) (T := TX6) (N := 5) hx hb hts inX6 hown hK hP 1 (xW_1 cI cZ ad M70) rfl 4 (by decide) k5 (fun _ h9 => h9) rfl dX6_drawBoard_72 ?_
        refine lv_iload hx hb dX6_drawBoard_75 (lv_at hl 0 rfl) ?_
        refine lv_iload hx hb dX6_drawBoard_77 (lv_at hl 8 rfl) ?_
        obtain ⟨hi79, h⟩ := h
        refine va_iast hx hb hK hP (hD M70) hS 8 0 (xW_8 cI cZ ad M70) rfl hi79 dX6_drawBoard_79 (fun H locs hP _ hS => ?_)
        refine xQ_8 hP (fun M79 eM79 hP => ?_)
        have h := h M79 eM79
        refine lv_iload hx hb dX6_drawBoard_80 (lv_at hl 10 rfl) ?_
        refine lv_iload hx hb dX6_drawBoard_82 (lv_at hl 8 rfl) ?_
        refine lv_icmp_lt (tgt := 102) hx hb dX6_drawBoard_84 (by decide) (fun q84 => ?_) (fun q84 => ?_)
        · have h := h.1 q84
          obtain ⟨x9_102, ex9_102⟩ : ∃ y : Int32, y = x9 + 1 := ⟨_, rfl⟩
          have h := h x9_102 ex9_102
          refine lv_iinc (v := x9_102) (lv' := [(9, .int x9_102), (11, .int r54), (10, .int v46), (7, .int x7_36), (0, .ref (ad 1)), (1, .int x1), (2, .int x2), (3, .int x3), (4, .int x4), (5, .int x5), (8, .int x8)]) hx hb dX6_drawBoard_102 hl (k := 10) rfl (by rw [ex9_102]; rfl) (by decide) rfl (fun ls hl => ?_)
          refine lv_goto (tgt := 19) hx hb dX6_drawBoard_105 (by decide) ?_
          exact hB x1 x2 x3 x4 x5 x7_36 x8 x9_102 M79 _ _ _ (lv_sub hl [4, 5, 6, 7, 8, 9, 3, 10, 0] rfl) hP hS h
        · have h := h.2 q84
          refine lv_aload_n hx hb dX6_drawBoard_87 rfl (lv_at hl 3 rfl) ?_
          refine va_get (D := D) (ci := 6) (v := .ref (ad 5)) (C := RX6) (T := TX6) (N := 5) hx hb hts inX6 hown hK hP 1 (xW_1 cI cZ ad M79) rfl 3 (by decide) k6 (fun _ h9 => h9) rfl dX6_drawBoard_88 ?_
          refine va_get (D := D) (ci := 4) (v := .ref (ad 6)) (C := RX4) (T := TX4) (N := 2) hx hb hts inX4 hown hK hP 5 (xW_5 cI cZ ad M79) rfl 0 (by decide) k3 (fun _ h9 => h9) rfl dX6_drawBoard_91 ?_
          refine lv_iload hx hb dX6_drawBoard_94 (lv_at hl 0 rfl) ?_
          refine lv_iload hx hb dX6_drawBoard_96 (lv_at hl 8 rfl) ?_
          refine lv_isub hx hb dX6_drawBoard_98 ?_
          refine lv_iload hx hb dX6_drawBoard_99 (lv_at hl 1 rfl) ?_
          obtain ⟨hi101, h⟩ := h
          refine va_iast hx hb hK hP (hD M79) hS 6 0 (xW_6 cI cZ ad M79) rfl hi101 dX6_drawBoard_101 (fun H locs hP _ hS => ?_)
          refine xQ_6 hP (fun M101 eM101 hP => ?_)
          have h := h M101 eM101
          obtain ⟨x9_102, ex9_102⟩ : ∃ y : Int32, y = x9 + 1 := ⟨_, rfl⟩
          have h := h x9_102 ex9_102
          refine lv_iinc (v := x9_102) (lv' := [(9, .int x9_102), (11, .int r54), (10, .int v46), (7, .int x7_36), (0, .ref (ad 1)), (1, .int x1), (2, .int x2), (3, .int x3), (4, .int x4), (5, .int x5), (8, .int x8)]) hx hb dX6_drawBoard_102 hl (k := 10) rfl (by rw [ex9_102]; rfl) (by decide) rfl (fun ls hl => ?_)
          refine lv_goto (tgt := 19) hx hb dX6_drawBoard_105 (by decide) ?_
          exact hB x1 x2 x3 x4 x5 x7_36 x8 x9_102 M101 _ _ _ (lv_sub hl [4, 5, 6, 7, 8, 9, 3, 10, 0] rfl) hP hS h
  have L7 : ∀ (K114 : Mem → Prop), (∀ (M : Mem) (H : Heap) (locs : List Loc) (ls : Array Slot), lv_has ls 12 [] → va_P D vwCl (xW cI cZ ad M) H → va_S (xA ad) s.heap H locs → K114 M → GX6_drawBoard p l e s m below meth c D cI cZ ad a1 a2 a3 a4 a5 a6 Q H locs (F0 m 114 ls [])) → ∀ n : Nat, ∀ (x1 x2 x3 x4 x5 x7 x8 : Int32) (M : Mem) (H : Heap) (locs : List Loc) (ls : Array Slot), lv_has ls 12 [(0, .ref (ad 1)), (1, .int x1), (2, .int x2), (3, .int x3), (4, .int x4), (5, .int x5), (7, .int x7), (8, .int x8)] → va_P D vwCl (xW cI cZ ad M) H → va_S (xA ad) s.heap H locs → wX6_drawBoard_L7 K114 Q n x1 x2 x3 x4 x5 x7 x8 M → GX6_drawBoard p l e s m below meth c D cI cZ ad a1 a2 a3 a4 a5 a6 Q H locs (F0 m 7 ls []) := by
    intro K114 hK114 n
    induction n with
    | zero => intro x1 x2 x3 x4 x5 x7 x8 M H locs ls hl hP hS h; exact (show False from h).elim
    | succ n hB =>
      intro x1 x2 x3 x4 x5 x7 x8 M H locs ls hl hP hS h
      rw [wX6_drawBoard_L7_s] at h
      refine lv_iload hx hb dX6_drawBoard_7 (lv_at hl 7 rfl) ?_
      refine lv_iload_n hx hb dX6_drawBoard_9 rfl (lv_at hl 2 rfl) ?_
      refine lv_iload hx hb dX6_drawBoard_10 (lv_at hl 4 rfl) ?_
      refine lv_iadd hx hb dX6_drawBoard_12 ?_
      refine lv_icmp_ge (tgt := 114) hx hb dX6_drawBoard_13 (by decide) (fun q13 => ?_) (fun q13 => ?_)
      · have h := h.1 q13
        exact hK114 M _ _ _ (lv_sub hl [] rfl) hP hS h
      · have h := h.2 q13
        refine lv_iload_n hx hb dX6_drawBoard_16 rfl (lv_at hl 1 rfl) ?_
        refine lv_istore (lv' := [(9, .int x1), (0, .ref (ad 1)), (1, .int x1), (2, .int x2), (3, .int x3), (4, .int x4), (5, .int x5), (7, .int x7), (8, .int x8)]) hx hb dX6_drawBoard_17 hl (by decide) rfl (fun ls hl => ?_)
        obtain ⟨n, h⟩ := h
        refine L19 _ (fun x1 x2 x3 x4 x5 x7 x8 M H locs ls hl hP hS h => ?_) n x1 x2 x3 x4 x5 x7 x8 x1 M _ _ _ (lv_sub hl [1, 2, 3, 4, 5, 6, 7, 8, 0] rfl) hP hS h
        obtain ⟨x8_108, ex8_108⟩ : ∃ y : Int32, y = x8 + 1 := ⟨_, rfl⟩
        have h := h x8_108 ex8_108
        refine lv_iinc (v := x8_108) (lv' := [(8, .int x8_108), (0, .ref (ad 1)), (1, .int x1), (2, .int x2), (3, .int x3), (4, .int x4), (5, .int x5), (7, .int x7)]) hx hb dX6_drawBoard_108 hl (k := 7) rfl (by rw [ex8_108]; rfl) (by decide) rfl (fun ls hl => ?_)
        refine lv_goto (tgt := 7) hx hb dX6_drawBoard_111 (by decide) ?_
        exact hB x1 x2 x3 x4 x5 x7 x8_108 M _ _ _ (lv_sub hl [1, 2, 3, 4, 5, 6, 7, 0] rfl) hP hS h
  have hl := lv_entry ([.ref (ad 1), .int a1, .int a2, .int a3, .int a4, .int a5, .int a6]) (n := 12) (Nat.le_of_ble_eq_true rfl)
  rw [lg_entry_eq]
  generalize (lg_sl ([.ref (ad 1), .int a1, .int a2, .int a3, .int a4, .int a5, .int a6]) ++ List.replicate (12 - (lg_sl ([.ref (ad 1), .int a1, .int a2, .int a3, .int a4, .int a5, .int a6])).length) Slot.unset).toArray = ls at hl ⊢
  have hl : lv_has ls 12 [(0, .ref (ad 1)), (1, .int a1), (2, .int a2), (3, .int a3), (4, .int a4), (5, .int a5), (6, .int a6)] := hl
  refine lv_iload hx hb dX6_drawBoard_0 (lv_at hl 6 rfl) ?_
  refine lv_istore (lv' := [(7, .int a6), (0, .ref (ad 1)), (1, .int a1), (2, .int a2), (3, .int a3), (4, .int a4), (5, .int a5), (6, .int a6)]) hx hb dX6_drawBoard_2 hl (by decide) rfl (fun ls hl => ?_)
  refine lv_iload_n hx hb dX6_drawBoard_4 rfl (lv_at hl 3 rfl) ?_
  refine lv_istore (lv' := [(8, .int a2), (7, .int a6), (0, .ref (ad 1)), (1, .int a1), (2, .int a2), (3, .int a3), (4, .int a4), (5, .int a5), (6, .int a6)]) hx hb dX6_drawBoard_5 hl (by decide) rfl (fun ls hl => ?_)
  obtain ⟨n, h⟩ := h
  refine L7 _ (fun  M H locs ls hl hP hS h => ?_) n a1 a2 a3 a4 a5 a6 a2 M _ _ _ (lv_sub hl [2, 3, 4, 5, 6, 7, 1, 0] rfl) hP hS h
  exact W.vret hx hb hr (fun t ht hW => ⟨⟨M, rfl, h, xAt_of ht hP⟩, hS.F ht⟩) hS.2.2 dX6_drawBoard_114
set_option maxHeartbeats 4000000 in
set_option maxRecDepth 100000 in
theorem kX10_draw (l : Launch) (D : va_G) (cI cZ : ClassId) (ad : Nat → Nat) (zA zD zR : Nat) (hD : ∀ M : Mem, va_D (xA ad) (xW cI cZ ad M)) (M : Mem) (a1 a2 a3 a4 a5 a6 : Int32) (Q : Int32 → Mem → Prop) (h : wX10_draw M a1 a2 a3 a4 a5 a6 Q) : Met l yX10_draw uX10_draw ({ frames := 3, cells := 0, slots := 0, locals := 63 }) (va_Pc [.ref (ad 0), .int a1, .int a2, .int a3, .int a4, .int a5, .int a6] (xPre D cI cZ ad zA zD zR M)) (va_Qi Q (xAt D cI cZ ad) (xA ad)) 0 0 (xA ad) := by
  refine Met.ofW (cc := cX10_draw) (maxL := 7) (ret := (some .int)) (by decide) rfl ?_
  intro p e s m args below meth c s₁ B hml hv
  obtain ⟨rfl, hP, hK, hZ, hN⟩ := hv
  have hx := B.exec
  have hb := B.bytes
  have hr := B.returns
  have hts := atoms_spec (ws := uX10_draw) B.pre
  have hown : s.vm.findClass RX10 = some m.cls := findClass_of_methodNamed B.named
  have hlocks := B.notSynchronized
  have hS : va_S (xA ad) s.heap s.heap [] := va_S.rf
  have k0 := hts (.fieldLink RX10 10 "TwoEyes" "scene" "LTwoEyes$Scene;") (List.mem_cons_of_mem _ (inA_1 _ (List.mem_of_getElem? (i := 15) rfl)))
  have inX10 : ∀ w ∈ wsX100, w ∈ uX10_draw := fun w h => List.mem_cons_of_mem _ (inCX10 w h)
  have hl := lv_entry ([.ref (ad 0), .int a1, .int a2, .int a3, .int a4, .int a5, .int a6]) (n := 7) (Nat.le_of_ble_eq_true rfl)
  rw [lg_entry_eq]
  generalize (lg_sl ([.ref (ad 0), .int a1, .int a2, .int a3, .int a4, .int a5, .int a6]) ++ List.replicate (7 - (lg_sl ([.ref (ad 0), .int a1, .int a2, .int a3, .int a4, .int a5, .int a6])).length) Slot.unset).toArray = ls at hl ⊢
  have hl : lv_has ls 7 [(0, .ref (ad 0)), (1, .int a1), (2, .int a2), (3, .int a3), (4, .int a4), (5, .int a5), (6, .int a6)] := hl
  refine lv_iload_n hx hb dX10_draw_0 rfl (lv_at hl 3 rfl) ?_
  refine lv_iconst (v := 1) hx hb dX10_draw_1 (by decide) ?_
  refine lv_icmp_lt (tgt := 48) hx hb dX10_draw_2 (by decide) (fun q2 => ?_) (fun q2 => ?_)
  · have h := h.1 q2
    refine lv_iconst (v := (-1)) hx hb dX10_draw_48 (by decide) ?_
    exact W.iret (v := (-1)) hx hb hr (fun t ht hW => ⟨⟨(-1), M, rfl, h, xAt_of ht hP⟩, hS.F ht⟩) hS.2.2 dX10_draw_49
  · have h := h.2 q2
    refine lv_iload hx hb dX10_draw_5 (lv_at hl 4 rfl) ?_
    refine lv_iconst (v := 1) hx hb dX10_draw_7 (by decide) ?_
    refine lv_icmp_lt (tgt := 48) hx hb dX10_draw_8 (by decide) (fun q8 => ?_) (fun q8 => ?_)
    · have h := h.1 q8
      refine lv_iconst (v := (-1)) hx hb dX10_draw_48 (by decide) ?_
      exact W.iret (v := (-1)) hx hb hr (fun t ht hW => ⟨⟨(-1), M, rfl, h, xAt_of ht hP⟩, hS.F ht⟩) hS.2.2 dX10_draw_49
    · have h := h.2 q8
      refine lv_aload_n hx hb dX10_draw_11 rfl (lv_at hl 0 rfl) ?_
      refine va_get (D := D) (ci := 10) (v := .ref (ad 1)) (C := RX10) (T := TX10) (N := 11) hx hb hts inX10 hown hK hP 0 (xW_0 cI cZ ad M) rfl 0 (by decide) k0 (fun _ h9 => h9) rfl dX10_draw_12 ?_
      refine lv_iload_n hx hb dX10_draw_15 rfl (lv_at hl 1 rfl) ?_
      refine lv_iload_n hx hb dX10_draw_16 rfl (lv_at hl 3 rfl) ?_
      refine x_callVi (As := [.int a1, .int a3]) (rest := []) ⟨hx, hb, hml, hown, hts⟩ (kX6_hasColumns l D cI cZ ad zA zD zR hD M a1 a3 _ h) (cwV 2 hts (gdV uS (inA_12 _ (List.mem_of_getElem? (i := 17) rfl)) vX6_hasColumns) rfl rfl rfl (by decide +kernel) ⟨Nat.le_of_ble_eq_true rfl, Nat.le_of_ble_eq_true rfl⟩) (va_recv hK hP (ci := 6) (q0 := 1) rfl (xW_1 cI cZ ad M)) hP hK hZ hN hS hl.1 rfl rfl (Nat.le_of_ble_eq_true rfl) dX10_draw_17 (fun r17 M17 H locs h hP hS => ?_)
      refine lv_if_eq (tgt := 48) hx hb dX10_draw_20 (by decide) (fun q20 => ?_) (fun q20 => ?_)
      · have h := h.1 q20
        refine lv_iconst (v := (-1)) hx hb dX10_draw_48 (by decide) ?_
        exact W.iret (v := (-1)) hx hb hr (fun t ht hW => ⟨⟨(-1), M17, rfl, h, xAt_of ht hP⟩, hS.F ht⟩) hS.2.2 dX10_draw_49
      · have h := h.2 q20
        refine lv_aload_n hx hb dX10_draw_23 rfl (lv_at hl 0 rfl) ?_
        refine va_get (D := D) (ci := 10) (v := .ref (ad 1)) (C := RX10) (T := TX10) (N := 11) hx hb hts inX10 hown hK hP 0 (xW_0 cI cZ ad M17) rfl 0 (by decide) k0 (fun _ h9 => h9) rfl dX10_draw_24 ?_
        refine lv_iload_n hx hb dX10_draw_27 rfl (lv_at hl 2 rfl) ?_
        refine lv_iload hx hb dX10_draw_28 (lv_at hl 4 rfl) ?_
        refine x_callVi (As := [.int a2, .int a4]) (rest := []) ⟨hx, hb, hml, hown, hts⟩ (kX6_hasRows l D cI cZ ad zA zD zR hD M17 a2 a4 _ h) (cwV 2 hts (gdV uS (inA_33 _ (List.mem_of_getElem? (i := 19) rfl)) vX6_hasRows) rfl rfl rfl (by decide +kernel) ⟨Nat.le_of_ble_eq_true rfl, Nat.le_of_ble_eq_true rfl⟩) (va_recv hK hP (ci := 6) (q0 := 1) rfl (xW_1 cI cZ ad M17)) hP hK hZ hN hS hl.1 rfl rfl (Nat.le_of_ble_eq_true rfl) dX10_draw_30 (fun r30 M30 H locs h hP hS => ?_)
        refine lv_if_eq (tgt := 48) hx hb dX10_draw_33 (by decide) (fun q33 => ?_) (fun q33 => ?_)
        · have h := h.1 q33
          refine lv_iconst (v := (-1)) hx hb dX10_draw_48 (by decide) ?_
          exact W.iret (v := (-1)) hx hb hr (fun t ht hW => ⟨⟨(-1), M30, rfl, h, xAt_of ht hP⟩, hS.F ht⟩) hS.2.2 dX10_draw_49
        · have h := h.2 q33
          refine lv_iload hx hb dX10_draw_36 (lv_at hl 5 rfl) ?_
          refine lv_if_lt (tgt := 48) hx hb dX10_draw_38 (by decide) (fun q38 => ?_) (fun q38 => ?_)
          · have h := h.1 q38
            refine lv_iconst (v := (-1)) hx hb dX10_draw_48 (by decide) ?_
            exact W.iret (v := (-1)) hx hb hr (fun t ht hW => ⟨⟨(-1), M30, rfl, h, xAt_of ht hP⟩, hS.F ht⟩) hS.2.2 dX10_draw_49
          · have h := h.2 q38
            refine lv_iload hx hb dX10_draw_41 (lv_at hl 5 rfl) ?_
            refine lv_bipush (v := 8) hx hb dX10_draw_43 (by decide) ?_
            refine lv_icmp_le (tgt := 50) hx hb dX10_draw_45 (by decide) (fun q45 => ?_) (fun q45 => ?_)
            · have h := h.1 q45
              refine lv_aload_n hx hb dX10_draw_50 rfl (lv_at hl 0 rfl) ?_
              refine va_get (D := D) (ci := 10) (v := .ref (ad 1)) (C := RX10) (T := TX10) (N := 11) hx hb hts inX10 hown hK hP 0 (xW_0 cI cZ ad M30) rfl 0 (by decide) k0 (fun _ h9 => h9) rfl dX10_draw_51 ?_
              refine lv_iload_n hx hb dX10_draw_54 rfl (lv_at hl 2 rfl) ?_
              refine lv_iload hx hb dX10_draw_55 (lv_at hl 4 rfl) ?_
              refine x_callVi (As := [.int a2, .int a4]) (rest := []) ⟨hx, hb, hml, hown, hts⟩ (kX6_anyMissing l D cI cZ ad zA zD zR hD M30 a2 a4 _ h) (cwV 2 hts (gdV uS (inA_33 _ (List.mem_of_getElem? (i := 23) rfl)) vX6_anyMissing) rfl rfl rfl (by decide +kernel) ⟨Nat.le_of_ble_eq_true rfl, Nat.le_of_ble_eq_true rfl⟩) (va_recv hK hP (ci := 6) (q0 := 1) rfl (xW_1 cI cZ ad M30)) hP hK hZ hN hS hl.1 rfl rfl (Nat.le_of_ble_eq_true rfl) dX10_draw_57 (fun r57 M57 H locs h hP hS => ?_)
              refine lv_if_eq (tgt := 66) hx hb dX10_draw_60 (by decide) (fun q60 => ?_) (fun q60 => ?_)
              · have h := h.1 q60
                refine lv_aload_n hx hb dX10_draw_66 rfl (lv_at hl 0 rfl) ?_
                refine va_get (D := D) (ci := 10) (v := .ref (ad 1)) (C := RX10) (T := TX10) (N := 11) hx hb hts inX10 hown hK hP 0 (xW_0 cI cZ ad M57) rfl 0 (by decide) k0 (fun _ h9 => h9) rfl dX10_draw_67 ?_
                refine lv_iload_n hx hb dX10_draw_70 rfl (lv_at hl 1 rfl) ?_
                refine lv_iload_n hx hb dX10_draw_71 rfl (lv_at hl 2 rfl) ?_
                refine lv_iload_n hx hb dX10_draw_72 rfl (lv_at hl 3 rfl) ?_
                refine lv_iload hx hb dX10_draw_73 (lv_at hl 4 rfl) ?_
                refine lv_iload hx hb dX10_draw_75 (lv_at hl 5 rfl) ?_
                refine lv_iload hx hb dX10_draw_77 (lv_at hl 6 rfl) ?_
                refine x_callVv (As := [.int a1, .int a2, .int a3, .int a4, .int a5, .int a6]) (rest := []) ⟨hx, hb, hml, hown, hts⟩ (kX6_drawBoard l D cI cZ ad zA zD zR hD M57 a1 a2 a3 a4 a5 a6 _ h) (cwV 6 hts (gdV uS (inA_34 _ (List.mem_of_getElem? (i := 3) rfl)) vX6_drawBoard) rfl rfl rfl (by decide +kernel) ⟨Nat.le_of_ble_eq_true rfl, Nat.le_of_ble_eq_true rfl⟩) (va_recv hK hP (ci := 6) (q0 := 1) rfl (xW_1 cI cZ ad M57)) hP hK hZ hN hS hl.1 rfl rfl (Nat.le_of_ble_eq_true rfl) dX10_draw_79 (fun M79 H locs h hP hS => ?_)
                refine lv_aload_n hx hb dX10_draw_82 rfl (lv_at hl 0 rfl) ?_
                refine x_callVv (As := []) (rest := []) ⟨hx, hb, hml, hown, hts⟩ (kX10_forgetAll l D cI cZ ad zA zD zR hD M79 _ h) (cwV 0 hts (gdV uS (inA_8 _ (List.mem_of_getElem? (i := 8) rfl)) vX10_forgetAll) rfl rfl rfl (by decide +kernel) ⟨Nat.le_of_ble_eq_true rfl, Nat.le_of_ble_eq_true rfl⟩) (va_recv hK hP (ci := 10) (q0 := 0) rfl (xW_0 cI cZ ad M79)) hP hK hZ hN hS hl.1 rfl rfl (Nat.le_of_ble_eq_true rfl) dX10_draw_83 (fun M83 H locs h hP hS => ?_)
                refine lv_iload_n hx hb dX10_draw_86 rfl (lv_at hl 3 rfl) ?_
                refine lv_iload hx hb dX10_draw_87 (lv_at hl 4 rfl) ?_
                refine lv_imul hx hb dX10_draw_89 ?_
                exact W.iret (v := (a3 * a4)) hx hb hr (fun t ht hW => ⟨⟨(a3 * a4), M83, rfl, h, xAt_of ht hP⟩, hS.F ht⟩) hS.2.2 dX10_draw_90
              · have h := h.2 q60
                refine lv_bipush (v := (-2)) hx hb dX10_draw_63 (by decide) ?_
                exact W.iret (v := (-2)) hx hb hr (fun t ht hW => ⟨⟨(-2), M57, rfl, h, xAt_of ht hP⟩, hS.F ht⟩) hS.2.2 dX10_draw_65
            · have h := h.2 q45
              refine lv_iconst (v := (-1)) hx hb dX10_draw_48 (by decide) ?_
              exact W.iret (v := (-1)) hx hb hr (fun t ht hW => ⟨⟨(-1), M30, rfl, h, xAt_of ht hP⟩, hS.F ht⟩) hS.2.2 dX10_draw_49
set_option maxHeartbeats 4000000 in
set_option maxRecDepth 100000 in
theorem kX10_truth (l : Launch) (D : va_G) (cI cZ : ClassId) (ad : Nat → Nat) (zA zD zR : Nat) (hD : ∀ M : Mem, va_D (xA ad) (xW cI cZ ad M)) (M : Mem) (a1 a2 : Int32) (Q : Int32 → Mem → Prop) (h : wX10_truth M a1 a2 Q) : Met l yX10_truth uX10_truth ({ frames := 1, cells := 0, slots := 0, locals := 22 }) (va_Pc [.ref (ad 0), .int a1, .int a2] (xPre D cI cZ ad zA zD zR M)) (va_Qi Q (xAt D cI cZ ad) (xA ad)) 0 0 (xA ad) := by
  refine Met.ofW (cc := cX10_truth) (maxL := 3) (ret := (some .int)) (by decide) rfl ?_
  intro p e s m args below meth c s₁ B hml hv
  obtain ⟨rfl, hP, hK, hZ, hN⟩ := hv
  have hx := B.exec
  have hb := B.bytes
  have hr := B.returns
  have hts := atoms_spec (ws := uX10_truth) B.pre
  have hown : s.vm.findClass RX10 = some m.cls := findClass_of_methodNamed B.named
  have hlocks := B.notSynchronized
  have hS : va_S (xA ad) s.heap s.heap [] := va_S.rf
  have k0 := hts (.fieldLink RX10 10 "TwoEyes" "scene" "LTwoEyes$Scene;") (List.mem_cons_of_mem _ (inA_1 _ (List.mem_of_getElem? (i := 15) rfl)))
  have inX10 : ∀ w ∈ wsX100, w ∈ uX10_truth := fun w h => List.mem_cons_of_mem _ (inCX10 w h)
  have k2 := hts (.fieldLink RX10 254 "TwoEyes$Scene" "truth" "[I") (List.mem_cons_of_mem _ (inA_34 _ (List.mem_of_getElem? (i := 18) rfl)))
  have inX6 : ∀ w ∈ wsX60, w ∈ uX10_truth := fun w h => List.mem_cons_of_mem _ (inCX6 w h)
  have hl := lv_entry ([.ref (ad 0), .int a1, .int a2]) (n := 3) (Nat.le_of_ble_eq_true rfl)
  rw [lg_entry_eq]
  generalize (lg_sl ([.ref (ad 0), .int a1, .int a2]) ++ List.replicate (3 - (lg_sl ([.ref (ad 0), .int a1, .int a2])).length) Slot.unset).toArray = ls at hl ⊢
  have hl : lv_has ls 3 [(0, .ref (ad 0)), (1, .int a1), (2, .int a2)] := hl
  refine lv_aload_n hx hb dX10_truth_0 rfl (lv_at hl 0 rfl) ?_
  refine va_get (D := D) (ci := 10) (v := .ref (ad 1)) (C := RX10) (T := TX10) (N := 11) hx hb hts inX10 hown hK hP 0 (xW_0 cI cZ ad M) rfl 0 (by decide) k0 (fun _ h9 => h9) rfl dX10_truth_1 ?_
  refine lv_iload_n hx hb dX10_truth_4 rfl (lv_at hl 1 rfl) ?_
  refine lv_iload_n hx hb dX10_truth_5 rfl (lv_at hl 2 rfl) ?_
  refine x_callVi (As := [.int a1, .int a2]) (rest := []) ⟨hx, hb, hml, hown, hts⟩ (kX6_hasSquare l D cI cZ ad zA zD zR hD M a1 a2 _ h) (cwV 2 hts (gdV uS (inA_13 _ (List.mem_of_getElem? (i := 6) rfl)) vX6_hasSquare) rfl rfl rfl (by decide +kernel) ⟨Nat.le_of_ble_eq_true rfl, Nat.le_of_ble_eq_true rfl⟩) (va_recv hK hP (ci := 6) (q0 := 1) rfl (xW_1 cI cZ ad M)) hP hK hZ hN hS hl.1 rfl rfl (Nat.le_of_ble_eq_true rfl) dX10_truth_6 (fun r6 M6 H locs h hP hS => ?_)
  refine lv_if_eq (tgt := 32) hx hb dX10_truth_9 (by decide) (fun q9 => ?_) (fun q9 => ?_)
  · have h := h.1 q9
    refine lv_iconst (v := (-1)) hx hb dX10_truth_32 (by decide) ?_
    exact W.iret (v := (-1)) hx hb hr (fun t ht hW => ⟨⟨(-1), M6, rfl, h, xAt_of ht hP⟩, hS.F ht⟩) hS.2.2 dX10_truth_33
  · have h := h.2 q9
    refine lv_aload_n hx hb dX10_truth_12 rfl (lv_at hl 0 rfl) ?_
    refine va_get (D := D) (ci := 10) (v := .ref (ad 1)) (C := RX10) (T := TX10) (N := 11) hx hb hts inX10 hown hK hP 0 (xW_0 cI cZ ad M6) rfl 0 (by decide) k0 (fun _ h9 => h9) rfl dX10_truth_13 ?_
    refine va_get (D := D) (ci := 6) (v := .ref (ad 8)) (C := RX6) (T := TX6) (N := 5) hx hb hts inX6 hown hK hP 1 (xW_1 cI cZ ad M6) rfl 4 (by decide) k2 (fun _ h9 => h9) rfl dX10_truth_16 ?_
    refine lv_aload_n hx hb dX10_truth_19 rfl (lv_at hl 0 rfl) ?_
    refine va_get (D := D) (ci := 10) (v := .ref (ad 1)) (C := RX10) (T := TX10) (N := 11) hx hb hts inX10 hown hK hP 0 (xW_0 cI cZ ad M6) rfl 0 (by decide) k0 (fun _ h9 => h9) rfl dX10_truth_20 ?_
    refine lv_iload_n hx hb dX10_truth_23 rfl (lv_at hl 1 rfl) ?_
    refine lv_iload_n hx hb dX10_truth_24 rfl (lv_at hl 2 rfl) ?_
    refine x_callVi (As := [.int a1, .int a2]) (rest := [.ref (ad 8)]) ⟨hx, hb, hml, hown, hts⟩ (kX6_placeOf l D cI cZ ad zA zD zR hD M6 a1 a2 _ h) (cwV 2 hts (gdV uS (inA_10 _ (List.mem_of_getElem? (i := 14) rfl)) vX6_placeOf) rfl rfl rfl (by decide +kernel) ⟨Nat.le_of_ble_eq_true rfl, Nat.le_of_ble_eq_true rfl⟩) (va_recv hK hP (ci := 6) (q0 := 1) rfl (xW_1 cI cZ ad M6)) hP hK hZ hN hS hl.1 rfl rfl (Nat.le_of_ble_eq_true rfl) dX10_truth_25 (fun r25 M25 H locs h hP hS => ?_)
    obtain ⟨hi28, h⟩ := h
    refine va_iald hx hb hK hP 8 0 (xW_8 cI cZ ad M25) rfl hi28 dX10_truth_28 ?_
    refine lv_goto (tgt := 33) hx hb dX10_truth_29 (by decide) ?_
    exact W.iret (v := (M25 8 (r25).toNatClampNeg)) hx hb hr (fun t ht hW => ⟨⟨(M25 8 (r25).toNatClampNeg), M25, rfl, h, xAt_of ht hP⟩, hS.F ht⟩) hS.2.2 dX10_truth_33
set_option maxHeartbeats 4000000 in
set_option maxRecDepth 100000 in
theorem kX10_verdict (l : Launch) (D : va_G) (cI cZ : ClassId) (ad : Nat → Nat) (zA zD zR : Nat) (hD : ∀ M : Mem, va_D (xA ad) (xW cI cZ ad M)) (M : Mem) (a0 a1 : Int32) (Q : Int32 → Mem → Prop) (h : wX10_verdict M a0 a1 Q) : Met l yX10_verdict uX10_verdict ({ frames := 0, cells := 0, slots := 0, locals := 0 }) (va_Pc [.int a0, .int a1] (xPre D cI cZ ad zA zD zR M)) (va_Qi Q (xAt D cI cZ ad) (xA ad)) 0 0 (xA ad) := by
  refine Met.ofW (cc := cX10_verdict) (maxL := 2) (ret := (some .int)) (by decide) rfl ?_
  intro p e s m args below meth c s₁ B hml hv
  obtain ⟨rfl, hP, hK, hZ, hN⟩ := hv
  have hx := B.exec
  have hb := B.bytes
  have hr := B.returns
  have hts := atoms_spec (ws := uX10_verdict) B.pre
  have hown : s.vm.findClass RX10 = some m.cls := findClass_of_methodNamed B.named
  have hlocks := B.notSynchronized
  have hS : va_S (xA ad) s.heap s.heap [] := va_S.rf
  have hl := lv_entry ([.int a0, .int a1]) (n := 2) (Nat.le_of_ble_eq_true rfl)
  rw [lg_entry_eq]
  generalize (lg_sl ([.int a0, .int a1]) ++ List.replicate (2 - (lg_sl ([.int a0, .int a1])).length) Slot.unset).toArray = ls at hl ⊢
  have hl : lv_has ls 2 [(0, .int a0), (1, .int a1)] := hl
  refine lv_iload_n hx hb dX10_verdict_0 rfl (lv_at hl 0 rfl) ?_
  refine lv_if_ge (tgt := 6) hx hb dX10_verdict_1 (by decide) (fun q1 => ?_) (fun q1 => ?_)
  · have h := h.1 q1
    refine lv_iload_n hx hb dX10_verdict_6 rfl (lv_at hl 0 rfl) ?_
    refine lv_iload_n hx hb dX10_verdict_7 rfl (lv_at hl 1 rfl) ?_
    refine lv_icmp_ne (tgt := 15) hx hb dX10_verdict_8 (by decide) (fun q8 => ?_) (fun q8 => ?_)
    · have h := h.1 q8
      refine lv_iconst (v := 1) hx hb dX10_verdict_15 (by decide) ?_
      exact W.iret (v := 1) hx hb hr (fun t ht hW => ⟨⟨1, M, rfl, h, xAt_of ht hP⟩, hS.F ht⟩) hS.2.2 dX10_verdict_16
    · have h := h.2 q8
      refine lv_iconst (v := 0) hx hb dX10_verdict_11 (by decide) ?_
      refine lv_goto (tgt := 16) hx hb dX10_verdict_12 (by decide) ?_
      exact W.iret (v := 0) hx hb hr (fun t ht hW => ⟨⟨0, M, rfl, h, xAt_of ht hP⟩, hS.F ht⟩) hS.2.2 dX10_verdict_16
  · have h := h.2 q1
    refine lv_iconst (v := 2) hx hb dX10_verdict_4 (by decide) ?_
    exact W.iret (v := 2) hx hb hr (fun t ht hW => ⟨⟨2, M, rfl, h, xAt_of ht hP⟩, hS.F ht⟩) hS.2.2 dX10_verdict_5
abbrev GX10_countMatchedByTruth (p : Program) (l : Launch) (e : Env) (s : State) (m : MethodId) (below : List Frame) (meth : Method) (c : Code) (D : va_G) (cI cZ : ClassId) (ad : Nat → Nat) (Q : Int32 → Mem → Prop) (H : Heap) (locs : List Loc) (g : JFrame) : Prop := W p l e (headSpec uX10_countMatchedByTruth { frames := 5, cells := 0, slots := 0, locals := 121 }).room s m ([.ref (ad 0)] : List Value).toArray below meth c H locs 0 0 (MQ below (va_Qi Q (xAt D cI cZ ad) (xA ad)) ([.ref (ad 0)] : List Value).toArray s 0 0 (xA ad)) g
set_option maxHeartbeats 4000000 in
set_option maxRecDepth 100000 in
theorem kX10_countMatchedByTruth (l : Launch) (D : va_G) (cI cZ : ClassId) (ad : Nat → Nat) (zA zD zR : Nat) (hD : ∀ M : Mem, va_D (xA ad) (xW cI cZ ad M)) (M : Mem) (Q : Int32 → Mem → Prop) (h : wX10_countMatchedByTruth M Q) : Met l yX10_countMatchedByTruth uX10_countMatchedByTruth ({ frames := 5, cells := 0, slots := 0, locals := 121 }) (va_Pc [.ref (ad 0)] (xPre D cI cZ ad zA zD zR M)) (va_Qi Q (xAt D cI cZ ad) (xA ad)) 0 0 (xA ad) := by
  refine Met.ofW (cc := cX10_countMatchedByTruth) (maxL := 5) (ret := (some .int)) (by decide) rfl ?_
  intro p e s m args below meth c s₁ B hml hv
  obtain ⟨rfl, hP, hK, hZ, hN⟩ := hv
  have hx := B.exec
  have hb := B.bytes
  have hr := B.returns
  have hts := atoms_spec (ws := uX10_countMatchedByTruth) B.pre
  have hown : s.vm.findClass RX10 = some m.cls := findClass_of_methodNamed B.named
  have hlocks := B.notSynchronized
  have hS : va_S (xA ad) s.heap s.heap [] := va_S.rf
  have k0 := hts (.fieldLink RX10 10 "TwoEyes" "scene" "LTwoEyes$Scene;") (List.mem_cons_of_mem _ (inA_1 _ (List.mem_of_getElem? (i := 15) rfl)))
  have inX10 : ∀ w ∈ wsX100, w ∈ uX10_countMatchedByTruth := fun w h => List.mem_cons_of_mem _ (inCX10 w h)
  have k2 := hts (.fieldLink RX10 130 "TwoEyes$Scene" "width" "I") (List.mem_cons_of_mem _ (inA_14 _ (List.mem_of_getElem? (i := 8) rfl)))
  have inX6 : ∀ w ∈ wsX60, w ∈ uX10_countMatchedByTruth := fun w h => List.mem_cons_of_mem _ (inCX6 w h)
  have k4 := hts (.fieldLink RX10 254 "TwoEyes$Scene" "truth" "[I") (List.mem_cons_of_mem _ (inA_34 _ (List.mem_of_getElem? (i := 18) rfl)))
  have k5 := hts (.fieldLink RX10 37 "TwoEyes" "paths" "LTwoEyes$Paths;") (List.mem_cons_of_mem _ (inA_2 _ (List.mem_of_getElem? (i := 3) rfl)))
  have k6 := hts (.fieldLink RX10 182 "TwoEyes$Paths" "match" "[I") (List.mem_cons_of_mem _ (inA_27 _ (List.mem_of_getElem? (i := 5) rfl)))
  have inX3 : ∀ w ∈ wsX30, w ∈ uX10_countMatchedByTruth := fun w h => List.mem_cons_of_mem _ (inCX3 w h)
  have k8 := hts (.fieldLink RX10 134 "TwoEyes$Scene" "height" "I") (List.mem_cons_of_mem _ (inA_14 _ (List.mem_of_getElem? (i := 9) rfl)))
  have L22 : ∀ (K91 : Int32 → Int32 → Mem → Prop), (∀ (x1 x2 : Int32) (M : Mem) (H : Heap) (locs : List Loc) (ls : Array Slot), lv_has ls 5 [(0, .ref (ad 0)), (1, .int x1), (2, .int x2)] → va_P D vwCl (xW cI cZ ad M) H → va_S (xA ad) s.heap H locs → K91 x1 x2 M → GX10_countMatchedByTruth p l e s m below meth c D cI cZ ad Q H locs (F0 m 91 ls [])) → ∀ n : Nat, ∀ (x1 x2 x3 : Int32) (M : Mem) (H : Heap) (locs : List Loc) (ls : Array Slot), lv_has ls 5 [(0, .ref (ad 0)), (1, .int x1), (2, .int x2), (3, .int x3)] → va_P D vwCl (xW cI cZ ad M) H → va_S (xA ad) s.heap H locs → wX10_countMatchedByTruth_L22 K91 Q n x1 x2 x3 M → GX10_countMatchedByTruth p l e s m below meth c D cI cZ ad Q H locs (F0 m 22 ls []) := by
    intro K91 hK91 n
    induction n with
    | zero => intro x1 x2 x3 M H locs ls hl hP hS h; exact (show False from h).elim
    | succ n hB =>
      intro x1 x2 x3 M H locs ls hl hP hS h
      rw [wX10_countMatchedByTruth_L22_s] at h
      refine lv_iload_n hx hb dX10_countMatchedByTruth_22 rfl (lv_at hl 3 rfl) ?_
      refine lv_aload_n hx hb dX10_countMatchedByTruth_23 rfl (lv_at hl 0 rfl) ?_
      refine va_get (D := D) (ci := 10) (v := .ref (ad 1)) (C := RX10) (T := TX10) (N := 11) hx hb hts inX10 hown hK hP 0 (xW_0 cI cZ ad M) rfl 0 (by decide) k0 (fun _ h9 => h9) rfl dX10_countMatchedByTruth_24 ?_
      refine va_get (D := D) (ci := 6) (v := .int (M 1 0)) (C := RX6) (T := TX6) (N := 5) hx hb hts inX6 hown hK hP 1 (xW_1 cI cZ ad M) rfl 0 (by decide) k2 (fun _ h9 => h9) rfl dX10_countMatchedByTruth_27 ?_
      refine lv_icmp_ge (tgt := 91) hx hb dX10_countMatchedByTruth_30 (by decide) (fun q30 => ?_) (fun q30 => ?_)
      · have h := h.1 q30
        exact hK91 x1 x2 M _ _ _ (lv_sub hl [0, 1, 2] rfl) hP hS h
      · have h := h.2 q30
        refine lv_aload_n hx hb dX10_countMatchedByTruth_33 rfl (lv_at hl 0 rfl) ?_
        refine va_get (D := D) (ci := 10) (v := .ref (ad 1)) (C := RX10) (T := TX10) (N := 11) hx hb hts inX10 hown hK hP 0 (xW_0 cI cZ ad M) rfl 0 (by decide) k0 (fun _ h9 => h9) rfl dX10_countMatchedByTruth_34 ?_
        refine lv_iload_n hx hb dX10_countMatchedByTruth_37 rfl (lv_at hl 3 rfl) ?_
        refine lv_iload_n hx hb dX10_countMatchedByTruth_38 rfl (lv_at hl 2 rfl) ?_
        refine x_callVi (As := [.int x3, .int x2]) (rest := []) ⟨hx, hb, hml, hown, hts⟩ (kX6_placeOf l D cI cZ ad zA zD zR hD M x3 x2 _ h) (cwV 2 hts (gdV uS (inA_10 _ (List.mem_of_getElem? (i := 14) rfl)) vX6_placeOf) rfl rfl rfl (by decide +kernel) ⟨Nat.le_of_ble_eq_true rfl, Nat.le_of_ble_eq_true rfl⟩) (va_recv hK hP (ci := 6) (q0 := 1) rfl (xW_1 cI cZ ad M)) hP hK hZ hN hS hl.1 rfl rfl (Nat.le_of_ble_eq_true rfl) dX10_countMatchedByTruth_39 (fun r39 M39 H locs h hP hS => ?_)
        refine lv_istore (lv' := [(4, .int r39), (0, .ref (ad 0)), (1, .int x1), (2, .int x2), (3, .int x3)]) hx hb dX10_countMatchedByTruth_42 hl (by decide) rfl (fun ls hl => ?_)
        refine lv_aload_n hx hb dX10_countMatchedByTruth_44 rfl (lv_at hl 1 rfl) ?_
        refine va_get (D := D) (ci := 10) (v := .ref (ad 1)) (C := RX10) (T := TX10) (N := 11) hx hb hts inX10 hown hK hP 0 (xW_0 cI cZ ad M39) rfl 0 (by decide) k0 (fun _ h9 => h9) rfl dX10_countMatchedByTruth_45 ?_
        refine va_get (D := D) (ci := 6) (v := .ref (ad 8)) (C := RX6) (T := TX6) (N := 5) hx hb hts inX6 hown hK hP 1 (xW_1 cI cZ ad M39) rfl 4 (by decide) k4 (fun _ h9 => h9) rfl dX10_countMatchedByTruth_48 ?_
        refine lv_iload hx hb dX10_countMatchedByTruth_51 (lv_at hl 0 rfl) ?_
        obtain ⟨hi53, h⟩ := h
        refine va_iald hx hb hK hP 8 0 (xW_8 cI cZ ad M39) rfl hi53 dX10_countMatchedByTruth_53 ?_
        refine lv_bipush (v := (-4)) hx hb dX10_countMatchedByTruth_54 (by decide) ?_
        refine lv_icmp_eq (tgt := 85) hx hb dX10_countMatchedByTruth_56 (by decide) (fun q56 => ?_) (fun q56 => ?_)
        · have h := h.1 q56
          obtain ⟨x3_85, ex3_85⟩ : ∃ y : Int32, y = x3 + 1 := ⟨_, rfl⟩
          have h := h x3_85 ex3_85
          refine lv_iinc (v := x3_85) (lv' := [(3, .int x3_85), (4, .int r39), (0, .ref (ad 0)), (1, .int x1), (2, .int x2)]) hx hb dX10_countMatchedByTruth_85 hl (k := 4) rfl (by rw [ex3_85]; rfl) (by decide) rfl (fun ls hl => ?_)
          refine lv_goto (tgt := 22) hx hb dX10_countMatchedByTruth_88 (by decide) ?_
          exact hB x1 x2 x3_85 M39 _ _ _ (lv_sub hl [2, 3, 4, 0] rfl) hP hS h
        · have h := h.2 q56
          refine lv_aload_n hx hb dX10_countMatchedByTruth_59 rfl (lv_at hl 1 rfl) ?_
          refine va_get (D := D) (ci := 10) (v := .ref (ad 1)) (C := RX10) (T := TX10) (N := 11) hx hb hts inX10 hown hK hP 0 (xW_0 cI cZ ad M39) rfl 0 (by decide) k0 (fun _ h9 => h9) rfl dX10_countMatchedByTruth_60 ?_
          refine va_get (D := D) (ci := 6) (v := .ref (ad 8)) (C := RX6) (T := TX6) (N := 5) hx hb hts inX6 hown hK hP 1 (xW_1 cI cZ ad M39) rfl 4 (by decide) k4 (fun _ h9 => h9) rfl dX10_countMatchedByTruth_63 ?_
          refine lv_iload hx hb dX10_countMatchedByTruth_66 (lv_at hl 0 rfl) ?_
          obtain ⟨hi68, h⟩ := h
          refine va_iald hx hb hK hP 8 0 (xW_8 cI cZ ad M39) rfl hi68 dX10_countMatchedByTruth_68 ?_
          refine lv_aload_n hx hb dX10_countMatchedByTruth_69 rfl (lv_at hl 1 rfl) ?_
          refine va_get (D := D) (ci := 10) (v := .ref (ad 28)) (C := RX10) (T := TX10) (N := 11) hx hb hts inX10 hown hK hP 0 (xW_0 cI cZ ad M39) rfl 5 (by decide) k5 (fun _ h9 => h9) rfl dX10_countMatchedByTruth_70 ?_
          refine va_get (D := D) (ci := 3) (v := .ref (ad 30)) (C := RX3) (T := TX3) (N := 3) hx hb hts inX3 hown hK hP 28 (xW_28 cI cZ ad M39) rfl 1 (by decide) k6 (fun _ h9 => h9) rfl dX10_countMatchedByTruth_73 ?_
          refine lv_iload hx hb dX10_countMatchedByTruth_76 (lv_at hl 0 rfl) ?_
          obtain ⟨hi78, h⟩ := h
          refine va_iald hx hb hK hP 30 0 (xW_30 cI cZ ad M39) rfl hi78 dX10_countMatchedByTruth_78 ?_
          refine lv_icmp_ne (tgt := 85) hx hb dX10_countMatchedByTruth_79 (by decide) (fun q79 => ?_) (fun q79 => ?_)
          · have h := h.1 q79
            obtain ⟨x3_85, ex3_85⟩ : ∃ y : Int32, y = x3 + 1 := ⟨_, rfl⟩
            have h := h x3_85 ex3_85
            refine lv_iinc (v := x3_85) (lv' := [(3, .int x3_85), (4, .int r39), (0, .ref (ad 0)), (1, .int x1), (2, .int x2)]) hx hb dX10_countMatchedByTruth_85 hl (k := 4) rfl (by rw [ex3_85]; rfl) (by decide) rfl (fun ls hl => ?_)
            refine lv_goto (tgt := 22) hx hb dX10_countMatchedByTruth_88 (by decide) ?_
            exact hB x1 x2 x3_85 M39 _ _ _ (lv_sub hl [2, 3, 4, 0] rfl) hP hS h
          · have h := h.2 q79
            obtain ⟨x1_82, ex1_82⟩ : ∃ y : Int32, y = x1 + 1 := ⟨_, rfl⟩
            have h := h x1_82 ex1_82
            refine lv_iinc (v := x1_82) (lv' := [(1, .int x1_82), (4, .int r39), (0, .ref (ad 0)), (2, .int x2), (3, .int x3)]) hx hb dX10_countMatchedByTruth_82 hl (k := 2) rfl (by rw [ex1_82]; rfl) (by decide) rfl (fun ls hl => ?_)
            obtain ⟨x3_85, ex3_85⟩ : ∃ y : Int32, y = x3 + 1 := ⟨_, rfl⟩
            have h := h x3_85 ex3_85
            refine lv_iinc (v := x3_85) (lv' := [(3, .int x3_85), (1, .int x1_82), (4, .int r39), (0, .ref (ad 0)), (2, .int x2)]) hx hb dX10_countMatchedByTruth_85 hl (k := 4) rfl (by rw [ex3_85]; rfl) (by decide) rfl (fun ls hl => ?_)
            refine lv_goto (tgt := 22) hx hb dX10_countMatchedByTruth_88 (by decide) ?_
            exact hB x1_82 x2 x3_85 M39 _ _ _ (lv_sub hl [3, 1, 4, 0] rfl) hP hS h
  have L4 : ∀ (K97 : Int32 → Mem → Prop), (∀ (x1 : Int32) (M : Mem) (H : Heap) (locs : List Loc) (ls : Array Slot), lv_has ls 5 [(1, .int x1)] → va_P D vwCl (xW cI cZ ad M) H → va_S (xA ad) s.heap H locs → K97 x1 M → GX10_countMatchedByTruth p l e s m below meth c D cI cZ ad Q H locs (F0 m 97 ls [])) → ∀ n : Nat, ∀ (x1 x2 : Int32) (M : Mem) (H : Heap) (locs : List Loc) (ls : Array Slot), lv_has ls 5 [(0, .ref (ad 0)), (1, .int x1), (2, .int x2)] → va_P D vwCl (xW cI cZ ad M) H → va_S (xA ad) s.heap H locs → wX10_countMatchedByTruth_L4 K97 Q n x1 x2 M → GX10_countMatchedByTruth p l e s m below meth c D cI cZ ad Q H locs (F0 m 4 ls []) := by
    intro K97 hK97 n
    induction n with
    | zero => intro x1 x2 M H locs ls hl hP hS h; exact (show False from h).elim
    | succ n hB =>
      intro x1 x2 M H locs ls hl hP hS h
      rw [wX10_countMatchedByTruth_L4_s] at h
      refine lv_iload_n hx hb dX10_countMatchedByTruth_4 rfl (lv_at hl 2 rfl) ?_
      refine lv_aload_n hx hb dX10_countMatchedByTruth_5 rfl (lv_at hl 0 rfl) ?_
      refine va_get (D := D) (ci := 10) (v := .ref (ad 1)) (C := RX10) (T := TX10) (N := 11) hx hb hts inX10 hown hK hP 0 (xW_0 cI cZ ad M) rfl 0 (by decide) k0 (fun _ h9 => h9) rfl dX10_countMatchedByTruth_6 ?_
      refine va_get (D := D) (ci := 6) (v := .int (M 1 1)) (C := RX6) (T := TX6) (N := 5) hx hb hts inX6 hown hK hP 1 (xW_1 cI cZ ad M) rfl 1 (by decide) k8 (fun _ h9 => h9) rfl dX10_countMatchedByTruth_9 ?_
      refine lv_icmp_ge (tgt := 97) hx hb dX10_countMatchedByTruth_12 (by decide) (fun q12 => ?_) (fun q12 => ?_)
      · have h := h.1 q12
        exact hK97 x1 M _ _ _ (lv_sub hl [1] rfl) hP hS h
      · have h := h.2 q12
        refine lv_aload_n hx hb dX10_countMatchedByTruth_15 rfl (lv_at hl 0 rfl) ?_
        refine lv_iload_n hx hb dX10_countMatchedByTruth_16 rfl (lv_at hl 2 rfl) ?_
        refine x_callVv (As := [.int x2]) (rest := []) ⟨hx, hb, hml, hown, hts⟩ (kX10_refreshPath l D cI cZ ad zA zD zR hD M x2 _ h) (cwV 1 hts (gdV uS (inA_25 _ (List.mem_of_getElem? (i := 6) rfl)) vX10_refreshPath) rfl rfl rfl (by decide +kernel) ⟨Nat.le_of_ble_eq_true rfl, Nat.le_of_ble_eq_true rfl⟩) (va_recv hK hP (ci := 10) (q0 := 0) rfl (xW_0 cI cZ ad M)) hP hK hZ hN hS hl.1 rfl rfl (Nat.le_of_ble_eq_true rfl) dX10_countMatchedByTruth_17 (fun M17 H locs h hP hS => ?_)
        refine lv_iconst (v := 0) hx hb dX10_countMatchedByTruth_20 (by decide) ?_
        refine lv_istore_n (lv' := [(3, .int 0), (0, .ref (ad 0)), (1, .int x1), (2, .int x2)]) hx hb dX10_countMatchedByTruth_21 rfl hl (by decide) rfl (fun ls hl => ?_)
        obtain ⟨n, h⟩ := h
        refine L22 _ (fun x1 x2 M H locs ls hl hP hS h => ?_) n x1 x2 0 M17 _ _ _ (lv_sub hl [1, 2, 3, 0] rfl) hP hS h
        obtain ⟨x2_91, ex2_91⟩ : ∃ y : Int32, y = x2 + 1 := ⟨_, rfl⟩
        have h := h x2_91 ex2_91
        refine lv_iinc (v := x2_91) (lv' := [(2, .int x2_91), (0, .ref (ad 0)), (1, .int x1)]) hx hb dX10_countMatchedByTruth_91 hl (k := 2) rfl (by rw [ex2_91]; rfl) (by decide) rfl (fun ls hl => ?_)
        refine lv_goto (tgt := 4) hx hb dX10_countMatchedByTruth_94 (by decide) ?_
        exact hB x1 x2_91 M _ _ _ (lv_sub hl [1, 2, 0] rfl) hP hS h
  have hl := lv_entry ([.ref (ad 0)]) (n := 5) (Nat.le_of_ble_eq_true rfl)
  rw [lg_entry_eq]
  generalize (lg_sl ([.ref (ad 0)]) ++ List.replicate (5 - (lg_sl ([.ref (ad 0)])).length) Slot.unset).toArray = ls at hl ⊢
  have hl : lv_has ls 5 [(0, .ref (ad 0))] := hl
  refine lv_iconst (v := 0) hx hb dX10_countMatchedByTruth_0 (by decide) ?_
  refine lv_istore_n (lv' := [(1, .int 0), (0, .ref (ad 0))]) hx hb dX10_countMatchedByTruth_1 rfl hl (by decide) rfl (fun ls hl => ?_)
  refine lv_iconst (v := 0) hx hb dX10_countMatchedByTruth_2 (by decide) ?_
  refine lv_istore_n (lv' := [(2, .int 0), (1, .int 0), (0, .ref (ad 0))]) hx hb dX10_countMatchedByTruth_3 rfl hl (by decide) rfl (fun ls hl => ?_)
  obtain ⟨n, h⟩ := h
  refine L4 _ (fun x1 M H locs ls hl hP hS h => ?_) n 0 0 M _ _ _ (lv_sub hl [2, 1, 0] rfl) hP hS h
  refine lv_iload_n hx hb dX10_countMatchedByTruth_97 rfl (lv_at hl 0 rfl) ?_
  exact W.iret (v := x1) hx hb hr (fun t ht hW => ⟨⟨x1, M, rfl, h, xAt_of ht hP⟩, hS.F ht⟩) hS.2.2 dX10_countMatchedByTruth_98
abbrev GX10_score (p : Program) (l : Launch) (e : Env) (s : State) (m : MethodId) (below : List Frame) (meth : Method) (c : Code) (D : va_G) (cI cZ : ClassId) (ad : Nat → Nat) (a1 : Int32) (Q : Int32 → Mem → Prop) (H : Heap) (locs : List Loc) (g : JFrame) : Prop := W p l e (headSpec uX10_score { frames := 6, cells := 0, slots := 0, locals := 149 }).room s m ([.ref (ad 0), .int a1] : List Value).toArray below meth c H locs 0 0 (MQ below (va_Qi Q (xAt D cI cZ ad) (xA ad)) ([.ref (ad 0), .int a1] : List Value).toArray s 0 0 (xA ad)) g
set_option maxHeartbeats 4000000 in
set_option maxRecDepth 100000 in
theorem kX10_score (l : Launch) (D : va_G) (cI cZ : ClassId) (ad : Nat → Nat) (zA zD zR : Nat) (hD : ∀ M : Mem, va_D (xA ad) (xW cI cZ ad M)) (M : Mem) (a1 : Int32) (Q : Int32 → Mem → Prop) (h : wX10_score M a1 Q) : Met l yX10_score uX10_score ({ frames := 6, cells := 0, slots := 0, locals := 149 }) (va_Pc [.ref (ad 0), .int a1] (xPre D cI cZ ad zA zD zR M)) (va_Qi Q (xAt D cI cZ ad) (xA ad)) 0 0 (xA ad) := by
  refine Met.ofW (cc := cX10_score) (maxL := 5) (ret := (some .int)) (by decide) rfl ?_
  intro p e s m args below meth c s₁ B hml hv
  obtain ⟨rfl, hP, hK, hZ, hN⟩ := hv
  have hx := B.exec
  have hb := B.bytes
  have hr := B.returns
  have hts := atoms_spec (ws := uX10_score) B.pre
  have hown : s.vm.findClass RX10 = some m.cls := findClass_of_methodNamed B.named
  have hlocks := B.notSynchronized
  have hS : va_S (xA ad) s.heap s.heap [] := va_S.rf
  have k0 := hts (.fieldLink RX10 10 "TwoEyes" "scene" "LTwoEyes$Scene;") (List.mem_cons_of_mem _ (inA_1 _ (List.mem_of_getElem? (i := 15) rfl)))
  have inX10 : ∀ w ∈ wsX100, w ∈ uX10_score := fun w h => List.mem_cons_of_mem _ (inCX10 w h)
  have k2 := hts (.fieldLink RX10 254 "TwoEyes$Scene" "truth" "[I") (List.mem_cons_of_mem _ (inA_34 _ (List.mem_of_getElem? (i := 18) rfl)))
  have inX6 : ∀ w ∈ wsX60, w ∈ uX10_score := fun w h => List.mem_cons_of_mem _ (inCX6 w h)
  have k4 := hts (.fieldLink RX10 51 "TwoEyes" "depths" "LTwoEyes$Depths;") (List.mem_cons_of_mem _ (inA_2 _ (List.mem_of_getElem? (i := 11) rfl)))
  have k5 := hts (.fieldLink RX10 212 "TwoEyes$Depths" "told" "[I") (List.mem_cons_of_mem _ (inA_29 _ (List.mem_of_getElem? (i := 8) rfl)))
  have inX2 : ∀ w ∈ wsX20, w ∈ uX10_score := fun w h => List.mem_cons_of_mem _ (inCX2 w h)
  have L38 : ∀ (K95 : Int32 → Mem → Prop), (∀ (x2 : Int32) (M : Mem) (H : Heap) (locs : List Loc) (ls : Array Slot), lv_has ls 5 [(2, .int x2)] → va_P D vwCl (xW cI cZ ad M) H → va_S (xA ad) s.heap H locs → K95 x2 M → GX10_score p l e s m below meth c D cI cZ ad a1 Q H locs (F0 m 95 ls [])) → ∀ n : Nat, ∀ (x1 x2 x3 x4 : Int32) (M : Mem) (H : Heap) (locs : List Loc) (ls : Array Slot), lv_has ls 5 [(0, .ref (ad 0)), (1, .int x1), (2, .int x2), (3, .int x3), (4, .int x4)] → va_P D vwCl (xW cI cZ ad M) H → va_S (xA ad) s.heap H locs → wX10_score_L38 K95 Q n x1 x2 x3 x4 M → GX10_score p l e s m below meth c D cI cZ ad a1 Q H locs (F0 m 38 ls []) := by
    intro K95 hK95 n
    induction n with
    | zero => intro x1 x2 x3 x4 M H locs ls hl hP hS h; exact (show False from h).elim
    | succ n hB =>
      intro x1 x2 x3 x4 M H locs ls hl hP hS h
      rw [wX10_score_L38_s] at h
      refine lv_iload hx hb dX10_score_38 (lv_at hl 4 rfl) ?_
      refine lv_iload_n hx hb dX10_score_40 rfl (lv_at hl 3 rfl) ?_
      refine lv_icmp_ge (tgt := 95) hx hb dX10_score_41 (by decide) (fun q41 => ?_) (fun q41 => ?_)
      · have h := h.1 q41
        exact hK95 x2 M _ _ _ (lv_sub hl [2] rfl) hP hS h
      · have h := h.2 q41
        refine lv_aload_n hx hb dX10_score_44 rfl (lv_at hl 0 rfl) ?_
        refine va_get (D := D) (ci := 10) (v := .ref (ad 1)) (C := RX10) (T := TX10) (N := 11) hx hb hts inX10 hown hK hP 0 (xW_0 cI cZ ad M) rfl 0 (by decide) k0 (fun _ h9 => h9) rfl dX10_score_45 ?_
        refine va_get (D := D) (ci := 6) (v := .ref (ad 8)) (C := RX6) (T := TX6) (N := 5) hx hb hts inX6 hown hK hP 1 (xW_1 cI cZ ad M) rfl 4 (by decide) k2 (fun _ h9 => h9) rfl dX10_score_48 ?_
        refine lv_iload hx hb dX10_score_51 (lv_at hl 4 rfl) ?_
        obtain ⟨hi53, h⟩ := h
        refine va_iald hx hb hK hP 8 0 (xW_8 cI cZ ad M) rfl hi53 dX10_score_53 ?_
        refine lv_bipush (v := (-4)) hx hb dX10_score_54 (by decide) ?_
        refine lv_icmp_eq (tgt := 89) hx hb dX10_score_56 (by decide) (fun q56 => ?_) (fun q56 => ?_)
        · have h := h.1 q56
          obtain ⟨x4_89, ex4_89⟩ : ∃ y : Int32, y = x4 + 1 := ⟨_, rfl⟩
          have h := h x4_89 ex4_89
          refine lv_iinc (v := x4_89) (lv' := [(4, .int x4_89), (0, .ref (ad 0)), (1, .int x1), (2, .int x2), (3, .int x3)]) hx hb dX10_score_89 hl (k := 4) rfl (by rw [ex4_89]; rfl) (by decide) rfl (fun ls hl => ?_)
          refine lv_goto (tgt := 38) hx hb dX10_score_92 (by decide) ?_
          exact hB x1 x2 x3 x4_89 M _ _ _ (lv_sub hl [1, 2, 3, 4, 0] rfl) hP hS h
        · have h := h.2 q56
          refine lv_aload_n hx hb dX10_score_59 rfl (lv_at hl 0 rfl) ?_
          refine va_get (D := D) (ci := 10) (v := .ref (ad 37)) (C := RX10) (T := TX10) (N := 11) hx hb hts inX10 hown hK hP 0 (xW_0 cI cZ ad M) rfl 7 (by decide) k4 (fun _ h9 => h9) rfl dX10_score_60 ?_
          refine va_get (D := D) (ci := 2) (v := .ref (ad 38)) (C := RX2) (T := TX2) (N := 2) hx hb hts inX2 hown hK hP 37 (xW_37 cI cZ ad M) rfl 0 (by decide) k5 (fun _ h9 => h9) rfl dX10_score_63 ?_
          refine lv_iload hx hb dX10_score_66 (lv_at hl 4 rfl) ?_
          obtain ⟨hi68, h⟩ := h
          refine va_iald hx hb hK hP 38 0 (xW_38 cI cZ ad M) rfl hi68 dX10_score_68 ?_
          refine lv_aload_n hx hb dX10_score_69 rfl (lv_at hl 0 rfl) ?_
          refine va_get (D := D) (ci := 10) (v := .ref (ad 1)) (C := RX10) (T := TX10) (N := 11) hx hb hts inX10 hown hK hP 0 (xW_0 cI cZ ad M) rfl 0 (by decide) k0 (fun _ h9 => h9) rfl dX10_score_70 ?_
          refine va_get (D := D) (ci := 6) (v := .ref (ad 8)) (C := RX6) (T := TX6) (N := 5) hx hb hts inX6 hown hK hP 1 (xW_1 cI cZ ad M) rfl 4 (by decide) k2 (fun _ h9 => h9) rfl dX10_score_73 ?_
          refine lv_iload hx hb dX10_score_76 (lv_at hl 4 rfl) ?_
          obtain ⟨hi78, h⟩ := h
          refine va_iald hx hb hK hP 8 0 (xW_8 cI cZ ad M) rfl hi78 dX10_score_78 ?_
          refine x_callSi (As := [.int (M 38 (x4).toNatClampNeg), .int (M 8 (x4).toNatClampNeg)]) (rest := []) ⟨hx, hb, hml, hown, hts⟩ (kX10_verdict l D cI cZ ad zA zD zR hD M (M 38 (x4).toNatClampNeg) (M 8 (x4).toNatClampNeg) _ h) (va_cwS 2 hts (gdS uS (inA_35 _ (List.mem_of_getElem? (i := 7) rfl)) vX10_verdict) rfl rfl rfl (by decide +kernel) ⟨Nat.le_of_ble_eq_true rfl, Nat.le_of_ble_eq_true rfl⟩) hP hK hZ hN hS hl.1 rfl rfl (Nat.le_of_ble_eq_true rfl) dX10_score_79 (fun r79 M79 H locs h hP hS => ?_)
          refine lv_iload_n hx hb dX10_score_82 rfl (lv_at hl 1 rfl) ?_
          refine lv_icmp_ne (tgt := 89) hx hb dX10_score_83 (by decide) (fun q83 => ?_) (fun q83 => ?_)
          · have h := h.1 q83
            obtain ⟨x4_89, ex4_89⟩ : ∃ y : Int32, y = x4 + 1 := ⟨_, rfl⟩
            have h := h x4_89 ex4_89
            refine lv_iinc (v := x4_89) (lv' := [(4, .int x4_89), (0, .ref (ad 0)), (1, .int x1), (2, .int x2), (3, .int x3)]) hx hb dX10_score_89 hl (k := 4) rfl (by rw [ex4_89]; rfl) (by decide) rfl (fun ls hl => ?_)
            refine lv_goto (tgt := 38) hx hb dX10_score_92 (by decide) ?_
            exact hB x1 x2 x3 x4_89 M79 _ _ _ (lv_sub hl [1, 2, 3, 4, 0] rfl) hP hS h
          · have h := h.2 q83
            obtain ⟨x2_86, ex2_86⟩ : ∃ y : Int32, y = x2 + 1 := ⟨_, rfl⟩
            have h := h x2_86 ex2_86
            refine lv_iinc (v := x2_86) (lv' := [(2, .int x2_86), (0, .ref (ad 0)), (1, .int x1), (3, .int x3), (4, .int x4)]) hx hb dX10_score_86 hl (k := 2) rfl (by rw [ex2_86]; rfl) (by decide) rfl (fun ls hl => ?_)
            obtain ⟨x4_89, ex4_89⟩ : ∃ y : Int32, y = x4 + 1 := ⟨_, rfl⟩
            have h := h x4_89 ex4_89
            refine lv_iinc (v := x4_89) (lv' := [(4, .int x4_89), (2, .int x2_86), (0, .ref (ad 0)), (1, .int x1), (3, .int x3)]) hx hb dX10_score_89 hl (k := 4) rfl (by rw [ex4_89]; rfl) (by decide) rfl (fun ls hl => ?_)
            refine lv_goto (tgt := 38) hx hb dX10_score_92 (by decide) ?_
            exact hB x1 x2_86 x3 x4_89 M79 _ _ _ (lv_sub hl [2, 3, 1, 4, 0] rfl) hP hS h
  have hl := lv_entry ([.ref (ad 0), .int a1]) (n := 5) (Nat.le_of_ble_eq_true rfl)
  rw [lg_entry_eq]
  generalize (lg_sl ([.ref (ad 0), .int a1]) ++ List.replicate (5 - (lg_sl ([.ref (ad 0), .int a1])).length) Slot.unset).toArray = ls at hl ⊢
  have hl : lv_has ls 5 [(0, .ref (ad 0)), (1, .int a1)] := hl
  refine lv_iload_n hx hb dX10_score_0 rfl (lv_at hl 1 rfl) ?_
  refine lv_if_lt (tgt := 9) hx hb dX10_score_1 (by decide) (fun q1 => ?_) (fun q1 => ?_)
  · have h := h.1 q1
    refine lv_iconst (v := (-1)) hx hb dX10_score_9 (by decide) ?_
    exact W.iret (v := (-1)) hx hb hr (fun t ht hW => ⟨⟨(-1), M, rfl, h, xAt_of ht hP⟩, hS.F ht⟩) hS.2.2 dX10_score_10
  · have h := h.2 q1
    refine lv_iload_n hx hb dX10_score_4 rfl (lv_at hl 1 rfl) ?_
    refine lv_iconst (v := 3) hx hb dX10_score_5 (by decide) ?_
    refine lv_icmp_le (tgt := 11) hx hb dX10_score_6 (by decide) (fun q6 => ?_) (fun q6 => ?_)
    · have h := h.1 q6
      refine lv_iload_n hx hb dX10_score_11 rfl (lv_at hl 1 rfl) ?_
      refine lv_iconst (v := 3) hx hb dX10_score_12 (by decide) ?_
      refine lv_icmp_ne (tgt := 21) hx hb dX10_score_13 (by decide) (fun q13 => ?_) (fun q13 => ?_)
      · have h := h.1 q13
        refine lv_aload_n hx hb dX10_score_21 rfl (lv_at hl 0 rfl) ?_
        refine x_callVv (As := []) (rest := []) ⟨hx, hb, hml, hown, hts⟩ (kX10_refreshDepths l D cI cZ ad zA zD zR hD M _ h) (cwV 0 hts (gdV uS (inA_14 _ (List.mem_of_getElem? (i := 15) rfl)) vX10_refreshDepths) rfl rfl rfl (by decide +kernel) ⟨Nat.le_of_ble_eq_true rfl, Nat.le_of_ble_eq_true rfl⟩) (va_recv hK hP (ci := 10) (q0 := 0) rfl (xW_0 cI cZ ad M)) hP hK hZ hN hS hl.1 rfl rfl (Nat.le_of_ble_eq_true rfl) dX10_score_22 (fun M22 H locs h hP hS => ?_)
        refine lv_iconst (v := 0) hx hb dX10_score_25 (by decide) ?_
        refine lv_istore_n (lv' := [(2, .int 0), (0, .ref (ad 0)), (1, .int a1)]) hx hb dX10_score_26 rfl hl (by decide) rfl (fun ls hl => ?_)
        refine lv_aload_n hx hb dX10_score_27 rfl (lv_at hl 1 rfl) ?_
        refine va_get (D := D) (ci := 10) (v := .ref (ad 1)) (C := RX10) (T := TX10) (N := 11) hx hb hts inX10 hown hK hP 0 (xW_0 cI cZ ad M22) rfl 0 (by decide) k0 (fun _ h9 => h9) rfl dX10_score_28 ?_
        refine x_callVi (As := []) (rest := []) ⟨hx, hb, hml, hown, hts⟩ (kX6_countSquares l D cI cZ ad zA zD zR hD M22 _ h) (cwV 0 hts (gdV uS (inA_19 _ (List.mem_of_getElem? (i := 0) rfl)) vX6_countSquares) rfl rfl rfl (by decide +kernel) ⟨Nat.le_of_ble_eq_true rfl, Nat.le_of_ble_eq_true rfl⟩) (va_recv hK hP (ci := 6) (q0 := 1) rfl (xW_1 cI cZ ad M22)) hP hK hZ hN hS hl.1 rfl rfl (Nat.le_of_ble_eq_true rfl) dX10_score_31 (fun r31 M31 H locs h hP hS => ?_)
        refine lv_istore_n (lv' := [(3, .int r31), (2, .int 0), (0, .ref (ad 0)), (1, .int a1)]) hx hb dX10_score_34 rfl hl (by decide) rfl (fun ls hl => ?_)
        refine lv_iconst (v := 0) hx hb dX10_score_35 (by decide) ?_
        refine lv_istore (lv' := [(4, .int 0), (3, .int r31), (2, .int 0), (0, .ref (ad 0)), (1, .int a1)]) hx hb dX10_score_36 hl (by decide) rfl (fun ls hl => ?_)
        obtain ⟨n, h⟩ := h
        refine L38 _ (fun x2 M H locs ls hl hP hS h => ?_) n a1 0 r31 0 M31 _ _ _ (lv_sub hl [3, 4, 2, 1, 0] rfl) hP hS h
        refine lv_iload_n hx hb dX10_score_95 rfl (lv_at hl 0 rfl) ?_
        exact W.iret (v := x2) hx hb hr (fun t ht hW => ⟨⟨x2, M, rfl, h, xAt_of ht hP⟩, hS.F ht⟩) hS.2.2 dX10_score_96
      · have h := h.2 q13
        refine lv_aload_n hx hb dX10_score_16 rfl (lv_at hl 0 rfl) ?_
        refine x_callVi (As := []) (rest := []) ⟨hx, hb, hml, hown, hts⟩ (kX10_countMatchedByTruth l D cI cZ ad zA zD zR hD M _ h) (cwV 0 hts (gdV uS (inA_35 _ (List.mem_of_getElem? (i := 3) rfl)) vX10_countMatchedByTruth) rfl rfl rfl (by decide +kernel) ⟨Nat.le_of_ble_eq_true rfl, Nat.le_of_ble_eq_true rfl⟩) (va_recv hK hP (ci := 10) (q0 := 0) rfl (xW_0 cI cZ ad M)) hP hK hZ hN hS hl.1 rfl rfl (Nat.le_of_ble_eq_true rfl) dX10_score_17 (fun r17 M17 H locs h hP hS => ?_)
        exact W.iret (v := r17) hx hb hr (fun t ht hW => ⟨⟨r17, M17, rfl, h, xAt_of ht hP⟩, hS.F ht⟩) hS.2.2 dX10_score_20
    · have h := h.2 q6
      refine lv_iconst (v := (-1)) hx hb dX10_score_9 (by decide) ?_
      exact W.iret (v := (-1)) hx hb hr (fun t ht hW => ⟨⟨(-1), M, rfl, h, xAt_of ht hP⟩, hS.F ht⟩) hS.2.2 dX10_score_10
set_option maxHeartbeats 4000000 in
set_option maxRecDepth 100000 in
theorem kX0_hasOutline (l : Launch) (D : va_G) (cI cZ : ClassId) (ad : Nat → Nat) (zA zD zR : Nat) (hD : ∀ M : Mem, va_D (xA ad) (xW cI cZ ad M)) (M : Mem) (a1 : Int32) (Q : Int32 → Mem → Prop) (h : wX0_hasOutline M a1 Q) : Met l yX0_hasOutline uX0_hasOutline ({ frames := 0, cells := 0, slots := 0, locals := 0 }) (va_Pc [.ref (ad 45), .int a1] (xPre D cI cZ ad zA zD zR M)) (va_Qi Q (xAt D cI cZ ad) (xA ad)) 0 0 (xA ad) := by
  refine Met.ofW (cc := cX0_hasOutline) (maxL := 2) (ret := (some .boolean)) (by decide) rfl ?_
  intro p e s m args below meth c s₁ B hml hv
  obtain ⟨rfl, hP, hK, hZ, hN⟩ := hv
  have hx := B.exec
  have hb := B.bytes
  have hr := B.returns
  have hts := atoms_spec (ws := uX0_hasOutline) B.pre
  have hown : s.vm.findClass RX0 = some m.cls := findClass_of_methodNamed B.named
  have hlocks := B.notSynchronized
  have hS : va_S (xA ad) s.heap s.heap [] := va_S.rf
  have hl := lv_entry ([.ref (ad 45), .int a1]) (n := 2) (Nat.le_of_ble_eq_true rfl)
  rw [lg_entry_eq]
  generalize (lg_sl ([.ref (ad 45), .int a1]) ++ List.replicate (2 - (lg_sl ([.ref (ad 45), .int a1])).length) Slot.unset).toArray = ls at hl ⊢
  have hl : lv_has ls 2 [(0, .ref (ad 45)), (1, .int a1)] := hl
  refine lv_iload_n hx hb dX0_hasOutline_0 rfl (lv_at hl 1 rfl) ?_
  refine lv_if_lt (tgt := 13) hx hb dX0_hasOutline_1 (by decide) (fun q1 => ?_) (fun q1 => ?_)
  · have h := h.1 q1
    refine lv_iconst (v := 0) hx hb dX0_hasOutline_13 (by decide) ?_
    exact W.zret (v := 0) hx hb hr rfl (fun t ht hW => ⟨⟨0, M, rfl, h, xAt_of ht hP⟩, hS.F ht⟩) hS.2.2 dX0_hasOutline_14
  · have h := h.2 q1
    refine lv_iload_n hx hb dX0_hasOutline_4 rfl (lv_at hl 1 rfl) ?_
    refine lv_iconst (v := 3) hx hb dX0_hasOutline_5 (by decide) ?_
    refine lv_icmp_ge (tgt := 13) hx hb dX0_hasOutline_6 (by decide) (fun q6 => ?_) (fun q6 => ?_)
    · have h := h.1 q6
      refine lv_iconst (v := 0) hx hb dX0_hasOutline_13 (by decide) ?_
      exact W.zret (v := 0) hx hb hr rfl (fun t ht hW => ⟨⟨0, M, rfl, h, xAt_of ht hP⟩, hS.F ht⟩) hS.2.2 dX0_hasOutline_14
    · have h := h.2 q6
      refine lv_iconst (v := 1) hx hb dX0_hasOutline_9 (by decide) ?_
      refine lv_goto (tgt := 14) hx hb dX0_hasOutline_10 (by decide) ?_
      exact W.zret (v := 1) hx hb hr rfl (fun t ht hW => ⟨⟨1, M, rfl, h, xAt_of ht hP⟩, hS.F ht⟩) hS.2.2 dX0_hasOutline_14
set_option maxHeartbeats 4000000 in
set_option maxRecDepth 100000 in
theorem kX10_outline (l : Launch) (D : va_G) (cI cZ : ClassId) (ad : Nat → Nat) (zA zD zR : Nat) (hD : ∀ M : Mem, va_D (xA ad) (xW cI cZ ad M)) (M : Mem) (a1 a2 a3 : Int32) (Q : Int32 → Mem → Prop) (h : wX10_outline M a1 a2 a3 Q) : Met l yX10_outline uX10_outline ({ frames := 2, cells := 0, slots := 0, locals := 46 }) (va_Pc [.ref (ad 0), .int a1, .int a2, .int a3] (xPre D cI cZ ad zA zD zR M)) (va_Qi Q (xAt D cI cZ ad) (xA ad)) 0 0 (xA ad) := by
  refine Met.ofW (cc := cX10_outline) (maxL := 4) (ret := (some .int)) (by decide) rfl ?_
  intro p e s m args below meth c s₁ B hml hv
  obtain ⟨rfl, hP, hK, hZ, hN⟩ := hv
  have hx := B.exec
  have hb := B.bytes
  have hr := B.returns
  have hts := atoms_spec (ws := uX10_outline) B.pre
  have hown : s.vm.findClass RX10 = some m.cls := findClass_of_methodNamed B.named
  have hlocks := B.notSynchronized
  have hS : va_S (xA ad) s.heap s.heap [] := va_S.rf
  have k0 := hts (.fieldLink RX10 72 "TwoEyes" "body" "LTwoEyes$Body;") (List.mem_cons_of_mem _ (inA_2 _ (List.mem_of_getElem? (i := 23) rfl)))
  have inX10 : ∀ w ∈ wsX100, w ∈ uX10_outline := fun w h => List.mem_cons_of_mem _ (inCX10 w h)
  have k2 := hts (.fieldLink RX10 266 "TwoEyes$Body" "rows" "[I") (List.mem_cons_of_mem _ (inA_35 _ (List.mem_of_getElem? (i := 22) rfl)))
  have inX0 : ∀ w ∈ wsX00, w ∈ uX10_outline := fun w h => List.mem_cons_of_mem _ (inCX0 w h)
  have hl := lv_entry ([.ref (ad 0), .int a1, .int a2, .int a3]) (n := 4) (Nat.le_of_ble_eq_true rfl)
  rw [lg_entry_eq]
  generalize (lg_sl ([.ref (ad 0), .int a1, .int a2, .int a3]) ++ List.replicate (4 - (lg_sl ([.ref (ad 0), .int a1, .int a2, .int a3])).length) Slot.unset).toArray = ls at hl ⊢
  have hl : lv_has ls 4 [(0, .ref (ad 0)), (1, .int a1), (2, .int a2), (3, .int a3)] := hl
  refine lv_aload_n hx hb dX10_outline_0 rfl (lv_at hl 0 rfl) ?_
  refine va_get (D := D) (ci := 10) (v := .ref (ad 45)) (C := RX10) (T := TX10) (N := 11) hx hb hts inX10 hown hK hP 0 (xW_0 cI cZ ad M) rfl 10 (by decide) k0 (fun _ h9 => h9) rfl dX10_outline_1 ?_
  refine lv_iload_n hx hb dX10_outline_4 rfl (lv_at hl 1 rfl) ?_
  refine x_callVi (As := [.int a1]) (rest := []) ⟨hx, hb, hml, hown, hts⟩ (kX0_hasOutline l D cI cZ ad zA zD zR hD M a1 _ h) (cwV 1 hts (gdV uS (inA_35 _ (List.mem_of_getElem? (i := 23) rfl)) vX0_hasOutline) rfl rfl rfl (by decide +kernel) ⟨Nat.le_of_ble_eq_true rfl, Nat.le_of_ble_eq_true rfl⟩) (va_recv hK hP (ci := 0) (q0 := 45) rfl (xW_45 cI cZ ad M)) hP hK hZ hN hS hl.1 rfl rfl (Nat.le_of_ble_eq_true rfl) dX10_outline_5 (fun r5 M5 H locs h hP hS => ?_)
  refine lv_if_eq (tgt := 21) hx hb dX10_outline_8 (by decide) (fun q8 => ?_) (fun q8 => ?_)
  · have h := h.1 q8
    refine lv_iconst (v := (-1)) hx hb dX10_outline_21 (by decide) ?_
    exact W.iret (v := (-1)) hx hb hr (fun t ht hW => ⟨⟨(-1), M5, rfl, h, xAt_of ht hP⟩, hS.F ht⟩) hS.2.2 dX10_outline_22
  · have h := h.2 q8
    refine lv_iload_n hx hb dX10_outline_11 rfl (lv_at hl 2 rfl) ?_
    refine lv_if_lt (tgt := 21) hx hb dX10_outline_12 (by decide) (fun q12 => ?_) (fun q12 => ?_)
    · have h := h.1 q12
      refine lv_iconst (v := (-1)) hx hb dX10_outline_21 (by decide) ?_
      exact W.iret (v := (-1)) hx hb hr (fun t ht hW => ⟨⟨(-1), M5, rfl, h, xAt_of ht hP⟩, hS.F ht⟩) hS.2.2 dX10_outline_22
    · have h := h.2 q12
      refine lv_iload_n hx hb dX10_outline_15 rfl (lv_at hl 2 rfl) ?_
      refine lv_bipush (v := 8) hx hb dX10_outline_16 (by decide) ?_
      refine lv_icmp_lt (tgt := 23) hx hb dX10_outline_18 (by decide) (fun q18 => ?_) (fun q18 => ?_)
      · have h := h.1 q18
        refine lv_aload_n hx hb dX10_outline_23 rfl (lv_at hl 0 rfl) ?_
        refine va_get (D := D) (ci := 10) (v := .ref (ad 45)) (C := RX10) (T := TX10) (N := 11) hx hb hts inX10 hown hK hP 0 (xW_0 cI cZ ad M5) rfl 10 (by decide) k0 (fun _ h9 => h9) rfl dX10_outline_24 ?_
        refine va_get (D := D) (ci := 0) (v := .ref (ad 46)) (C := RX0) (T := TX0) (N := 1) hx hb hts inX0 hown hK hP 45 (xW_45 cI cZ ad M5) rfl 0 (by decide) k2 (fun _ h9 => h9) rfl dX10_outline_27 ?_
        refine lv_iload_n hx hb dX10_outline_30 rfl (lv_at hl 1 rfl) ?_
        refine lv_bipush (v := 8) hx hb dX10_outline_31 (by decide) ?_
        refine lv_imul hx hb dX10_outline_33 ?_
        refine lv_iload_n hx hb dX10_outline_34 rfl (lv_at hl 2 rfl) ?_
        refine lv_iadd hx hb dX10_outline_35 ?_
        refine lv_iload_n hx hb dX10_outline_36 rfl (lv_at hl 3 rfl) ?_
        refine lv_sipush (v := 255) hx hb dX10_outline_37 (by decide) ?_
        refine lv_iand hx hb dX10_outline_40 ?_
        obtain ⟨hi41, h⟩ := h
        refine va_iast hx hb hK hP (hD M5) hS 46 0 (xW_46 cI cZ ad M5) rfl hi41 dX10_outline_41 (fun H locs hP _ hS => ?_)
        refine xQ_46 hP (fun M41 eM41 hP => ?_)
        have h := h M41 eM41
        refine lv_aload_n hx hb dX10_outline_42 rfl (lv_at hl 0 rfl) ?_
        refine va_get (D := D) (ci := 10) (v := .ref (ad 45)) (C := RX10) (T := TX10) (N := 11) hx hb hts inX10 hown hK hP 0 (xW_0 cI cZ ad M41) rfl 10 (by decide) k0 (fun _ h9 => h9) rfl dX10_outline_43 ?_
        refine x_callVi (As := []) (rest := []) ⟨hx, hb, hml, hown, hts⟩ (kX0_countCubes l D cI cZ ad zA zD zR hD M41 _ h) (cwV 0 hts (gdV uS (inA_20 _ (List.mem_of_getElem? (i := 11) rfl)) vX0_countCubes) rfl rfl rfl (by decide +kernel) ⟨Nat.le_of_ble_eq_true rfl, Nat.le_of_ble_eq_true rfl⟩) (va_recv hK hP (ci := 0) (q0 := 45) rfl (xW_45 cI cZ ad M41)) hP hK hZ hN hS hl.1 rfl rfl (Nat.le_of_ble_eq_true rfl) dX10_outline_46 (fun r46 M46 H locs h hP hS => ?_)
        exact W.iret (v := r46) hx hb hr (fun t ht hW => ⟨⟨r46, M46, rfl, h, xAt_of ht hP⟩, hS.F ht⟩) hS.2.2 dX10_outline_49
      · have h := h.2 q18
        refine lv_iconst (v := (-1)) hx hb dX10_outline_21 (by decide) ?_
        exact W.iret (v := (-1)) hx hb hr (fun t ht hW => ⟨⟨(-1), M5, rfl, h, xAt_of ht hP⟩, hS.F ht⟩) hS.2.2 dX10_outline_22
set_option maxHeartbeats 4000000 in
set_option maxRecDepth 100000 in
theorem kX0_onEdge (l : Launch) (D : va_G) (cI cZ : ClassId) (ad : Nat → Nat) (zA zD zR : Nat) (hD : ∀ M : Mem, va_D (xA ad) (xW cI cZ ad M)) (M : Mem) (a0 : Int32) (Q : Int32 → Mem → Prop) (h : wX0_onEdge M a0 Q) : Met l yX0_onEdge uX0_onEdge ({ frames := 0, cells := 0, slots := 0, locals := 0 }) (va_Pc [.int a0] (xPre D cI cZ ad zA zD zR M)) (va_Qi Q (xAt D cI cZ ad) (xA ad)) 0 0 (xA ad) := by
  refine Met.ofW (cc := cX0_onEdge) (maxL := 1) (ret := (some .boolean)) (by decide) rfl ?_
  intro p e s m args below meth c s₁ B hml hv
  obtain ⟨rfl, hP, hK, hZ, hN⟩ := hv
  have hx := B.exec
  have hb := B.bytes
  have hr := B.returns
  have hts := atoms_spec (ws := uX0_onEdge) B.pre
  have hown : s.vm.findClass RX0 = some m.cls := findClass_of_methodNamed B.named
  have hlocks := B.notSynchronized
  have hS : va_S (xA ad) s.heap s.heap [] := va_S.rf
  have hl := lv_entry ([.int a0]) (n := 1) (Nat.le_of_ble_eq_true rfl)
  rw [lg_entry_eq]
  generalize (lg_sl ([.int a0]) ++ List.replicate (1 - (lg_sl ([.int a0])).length) Slot.unset).toArray = ls at hl ⊢
  have hl : lv_has ls 1 [(0, .int a0)] := hl
  refine lv_iload_n hx hb dX0_onEdge_0 rfl (lv_at hl 0 rfl) ?_
  refine lv_if_lt (tgt := 14) hx hb dX0_onEdge_1 (by decide) (fun q1 => ?_) (fun q1 => ?_)
  · have h := h.1 q1
    refine lv_iconst (v := 0) hx hb dX0_onEdge_14 (by decide) ?_
    exact W.zret (v := 0) hx hb hr rfl (fun t ht hW => ⟨⟨0, M, rfl, h, xAt_of ht hP⟩, hS.F ht⟩) hS.2.2 dX0_onEdge_15
  · have h := h.2 q1
    refine lv_iload_n hx hb dX0_onEdge_4 rfl (lv_at hl 0 rfl) ?_
    refine lv_bipush (v := 8) hx hb dX0_onEdge_5 (by decide) ?_
    refine lv_icmp_ge (tgt := 14) hx hb dX0_onEdge_7 (by decide) (fun q7 => ?_) (fun q7 => ?_)
    · have h := h.1 q7
      refine lv_iconst (v := 0) hx hb dX0_onEdge_14 (by decide) ?_
      exact W.zret (v := 0) hx hb hr rfl (fun t ht hW => ⟨⟨0, M, rfl, h, xAt_of ht hP⟩, hS.F ht⟩) hS.2.2 dX0_onEdge_15
    · have h := h.2 q7
      refine lv_iconst (v := 1) hx hb dX0_onEdge_10 (by decide) ?_
      refine lv_goto (tgt := 15) hx hb dX0_onEdge_11 (by decide) ?_
      exact W.zret (v := 1) hx hb hr rfl (fun t ht hW => ⟨⟨1, M, rfl, h, xAt_of ht hP⟩, hS.F ht⟩) hS.2.2 dX0_onEdge_15
set_option maxHeartbeats 4000000 in
set_option maxRecDepth 100000 in
theorem kX0_has (l : Launch) (D : va_G) (cI cZ : ClassId) (ad : Nat → Nat) (zA zD zR : Nat) (hD : ∀ M : Mem, va_D (xA ad) (xW cI cZ ad M)) (M : Mem) (a1 a2 a3 : Int32) (Q : Int32 → Mem → Prop) (h : wX0_has M a1 a2 a3 Q) : Met l yX0_has uX0_has ({ frames := 1, cells := 0, slots := 0, locals := 23 }) (va_Pc [.ref (ad 45), .int a1, .int a2, .int a3] (xPre D cI cZ ad zA zD zR M)) (va_Qi Q (xAt D cI cZ ad) (xA ad)) 0 0 (xA ad) := by
  refine Met.ofW (cc := cX0_has) (maxL := 4) (ret := (some .boolean)) (by decide) rfl ?_
  intro p e s m args below meth c s₁ B hml hv
  obtain ⟨rfl, hP, hK, hZ, hN⟩ := hv
  have hx := B.exec
  have hb := B.bytes
  have hr := B.returns
  have hts := atoms_spec (ws := uX0_has) B.pre
  have hown : s.vm.findClass RX0 = some m.cls := findClass_of_methodNamed B.named
  have hlocks := B.notSynchronized
  have hS : va_S (xA ad) s.heap s.heap [] := va_S.rf
  have hl := lv_entry ([.ref (ad 45), .int a1, .int a2, .int a3]) (n := 4) (Nat.le_of_ble_eq_true rfl)
  rw [lg_entry_eq]
  generalize (lg_sl ([.ref (ad 45), .int a1, .int a2, .int a3]) ++ List.replicate (4 - (lg_sl ([.ref (ad 45), .int a1, .int a2, .int a3])).length) Slot.unset).toArray = ls at hl ⊢
  have hl : lv_has ls 4 [(0, .ref (ad 45)), (1, .int a1), (2, .int a2), (3, .int a3)] := hl
  refine lv_iload_n hx hb dX0_has_0 rfl (lv_at hl 1 rfl) ?_
  refine x_callSi (As := [.int a1]) (rest := []) ⟨hx, hb, hml, hown, hts⟩ (kX0_onEdge l D cI cZ ad zA zD zR hD M a1 _ h) (va_cwS 1 hts (gdS uS (inA_36 _ (List.mem_of_getElem? (i := 15) rfl)) vX0_onEdge) rfl rfl rfl (by decide +kernel) ⟨Nat.le_of_ble_eq_true rfl, Nat.le_of_ble_eq_true rfl⟩) hP hK hZ hN hS hl.1 rfl rfl (Nat.le_of_ble_eq_true rfl) dX0_has_1 (fun r1 M1 H locs h hP hS => ?_)
  refine lv_if_eq (tgt := 55) hx hb dX0_has_4 (by decide) (fun q4 => ?_) (fun q4 => ?_)
  · have h := h.1 q4
    refine lv_iconst (v := 0) hx hb dX0_has_55 (by decide) ?_
    exact W.zret (v := 0) hx hb hr rfl (fun t ht hW => ⟨⟨0, M1, rfl, h, xAt_of ht hP⟩, hS.F ht⟩) hS.2.2 dX0_has_56
  · have h := h.2 q4
    refine lv_iload_n hx hb dX0_has_7 rfl (lv_at hl 2 rfl) ?_
    refine x_callSi (As := [.int a2]) (rest := []) ⟨hx, hb, hml, hown, hts⟩ (kX0_onEdge l D cI cZ ad zA zD zR hD M1 a2 _ h) (va_cwS 1 hts (gdS uS (inA_36 _ (List.mem_of_getElem? (i := 15) rfl)) vX0_onEdge) rfl rfl rfl (by decide +kernel) ⟨Nat.le_of_ble_eq_true rfl, Nat.le_of_ble_eq_true rfl⟩) hP hK hZ hN hS hl.1 rfl rfl (Nat.le_of_ble_eq_true rfl) dX0_has_8 (fun r8 M8 H locs h hP hS => ?_)
    refine lv_if_eq (tgt := 55) hx hb dX0_has_11 (by decide) (fun q11 => ?_) (fun q11 => ?_)
    · have h := h.1 q11
      refine lv_iconst (v := 0) hx hb dX0_has_55 (by decide) ?_
      exact W.zret (v := 0) hx hb hr rfl (fun t ht hW => ⟨⟨0, M8, rfl, h, xAt_of ht hP⟩, hS.F ht⟩) hS.2.2 dX0_has_56
    · have h := h.2 q11
      refine lv_iload_n hx hb dX0_has_14 rfl (lv_at hl 3 rfl) ?_
      refine x_callSi (As := [.int a3]) (rest := []) ⟨hx, hb, hml, hown, hts⟩ (kX0_onEdge l D cI cZ ad zA zD zR hD M8 a3 _ h) (va_cwS 1 hts (gdS uS (inA_36 _ (List.mem_of_getElem? (i := 15) rfl)) vX0_onEdge) rfl rfl rfl (by decide +kernel) ⟨Nat.le_of_ble_eq_true rfl, Nat.le_of_ble_eq_true rfl⟩) hP hK hZ hN hS hl.1 rfl rfl (Nat.le_of_ble_eq_true rfl) dX0_has_15 (fun r15 M15 H locs h hP hS => ?_)
      refine lv_if_eq (tgt := 55) hx hb dX0_has_18 (by decide) (fun q18 => ?_) (fun q18 => ?_)
      · have h := h.1 q18
        refine lv_iconst (v := 0) hx hb dX0_has_55 (by decide) ?_
        exact W.zret (v := 0) hx hb hr rfl (fun t ht hW => ⟨⟨0, M15, rfl, h, xAt_of ht hP⟩, hS.F ht⟩) hS.2.2 dX0_has_56
      · have h := h.2 q18
        refine lv_aload_n hx hb dX0_has_21 rfl (lv_at hl 0 rfl) ?_
        refine lv_iconst (v := 0) hx hb dX0_has_22 (by decide) ?_
        refine lv_iload_n hx hb dX0_has_23 rfl (lv_at hl 3 rfl) ?_
        refine lv_iload_n hx hb dX0_has_24 rfl (lv_at hl 2 rfl) ?_
        refine x_callVi (As := [.int 0, .int a3, .int a2]) (rest := []) ⟨hx, hb, hml, hown, hts⟩ (kX0_bit l D cI cZ ad zA zD zR hD M15 0 a3 a2 _ h) (cwV 3 hts (gdV uS (inA_20 _ (List.mem_of_getElem? (i := 15) rfl)) vX0_bit) rfl rfl rfl (by decide +kernel) ⟨Nat.le_of_ble_eq_true rfl, Nat.le_of_ble_eq_true rfl⟩) (va_recv hK hP (ci := 0) (q0 := 45) rfl (xW_45 cI cZ ad M15)) hP hK hZ hN hS hl.1 rfl rfl (Nat.le_of_ble_eq_true rfl) dX0_has_25 (fun r25 M25 H locs h hP hS => ?_)
        refine lv_if_eq (tgt := 55) hx hb dX0_has_28 (by decide) (fun q28 => ?_) (fun q28 => ?_)
        · have h := h.1 q28
          refine lv_iconst (v := 0) hx hb dX0_has_55 (by decide) ?_
          exact W.zret (v := 0) hx hb hr rfl (fun t ht hW => ⟨⟨0, M25, rfl, h, xAt_of ht hP⟩, hS.F ht⟩) hS.2.2 dX0_has_56
        · have h := h.2 q28
          refine lv_aload_n hx hb dX0_has_31 rfl (lv_at hl 0 rfl) ?_
          refine lv_iconst (v := 1) hx hb dX0_has_32 (by decide) ?_
          refine lv_iload_n hx hb dX0_has_33 rfl (lv_at hl 3 rfl) ?_
          refine lv_iload_n hx hb dX0_has_34 rfl (lv_at hl 1 rfl) ?_
          refine x_callVi (As := [.int 1, .int a3, .int a1]) (rest := []) ⟨hx, hb, hml, hown, hts⟩ (kX0_bit l D cI cZ ad zA zD zR hD M25 1 a3 a1 _ h) (cwV 3 hts (gdV uS (inA_20 _ (List.mem_of_getElem? (i := 15) rfl)) vX0_bit) rfl rfl rfl (by decide +kernel) ⟨Nat.le_of_ble_eq_true rfl, Nat.le_of_ble_eq_true rfl⟩) (va_recv hK hP (ci := 0) (q0 := 45) rfl (xW_45 cI cZ ad M25)) hP hK hZ hN hS hl.1 rfl rfl (Nat.le_of_ble_eq_true rfl) dX0_has_35 (fun r35 M35 H locs h hP hS => ?_)
          refine lv_if_eq (tgt := 55) hx hb dX0_has_38 (by decide) (fun q38 => ?_) (fun q38 => ?_)
          · have h := h.1 q38
            refine lv_iconst (v := 0) hx hb dX0_has_55 (by decide) ?_
            exact W.zret (v := 0) hx hb hr rfl (fun t ht hW => ⟨⟨0, M35, rfl, h, xAt_of ht hP⟩, hS.F ht⟩) hS.2.2 dX0_has_56
          · have h := h.2 q38
            refine lv_aload_n hx hb dX0_has_41 rfl (lv_at hl 0 rfl) ?_
            refine lv_iconst (v := 2) hx hb dX0_has_42 (by decide) ?_
            refine lv_iload_n hx hb dX0_has_43 rfl (lv_at hl 2 rfl) ?_
            refine lv_iload_n hx hb dX0_has_44 rfl (lv_at hl 1 rfl) ?_
            refine x_callVi (As := [.int 2, .int a2, .int a1]) (rest := []) ⟨hx, hb, hml, hown, hts⟩ (kX0_bit l D cI cZ ad zA zD zR hD M35 2 a2 a1 _ h) (cwV 3 hts (gdV uS (inA_20 _ (List.mem_of_getElem? (i := 15) rfl)) vX0_bit) rfl rfl rfl (by decide +kernel) ⟨Nat.le_of_ble_eq_true rfl, Nat.le_of_ble_eq_true rfl⟩) (va_recv hK hP (ci := 0) (q0 := 45) rfl (xW_45 cI cZ ad M35)) hP hK hZ hN hS hl.1 rfl rfl (Nat.le_of_ble_eq_true rfl) dX0_has_45 (fun r45 M45 H locs h hP hS => ?_)
            refine lv_if_eq (tgt := 55) hx hb dX0_has_48 (by decide) (fun q48 => ?_) (fun q48 => ?_)
            · have h := h.1 q48
              refine lv_iconst (v := 0) hx hb dX0_has_55 (by decide) ?_
              exact W.zret (v := 0) hx hb hr rfl (fun t ht hW => ⟨⟨0, M45, rfl, h, xAt_of ht hP⟩, hS.F ht⟩) hS.2.2 dX0_has_56
            · have h := h.2 q48
              refine lv_iconst (v := 1) hx hb dX0_has_51 (by decide) ?_
              refine lv_goto (tgt := 56) hx hb dX0_has_52 (by decide) ?_
              exact W.zret (v := 1) hx hb hr rfl (fun t ht hW => ⟨⟨1, M45, rfl, h, xAt_of ht hP⟩, hS.F ht⟩) hS.2.2 dX0_has_56
set_option maxHeartbeats 4000000 in
set_option maxRecDepth 100000 in
theorem kX10_cube (l : Launch) (D : va_G) (cI cZ : ClassId) (ad : Nat → Nat) (zA zD zR : Nat) (hD : ∀ M : Mem, va_D (xA ad) (xW cI cZ ad M)) (M : Mem) (a1 a2 a3 : Int32) (Q : Int32 → Mem → Prop) (h : wX10_cube M a1 a2 a3 Q) : Met l yX10_cube uX10_cube ({ frames := 2, cells := 0, slots := 0, locals := 46 }) (va_Pc [.ref (ad 0), .int a1, .int a2, .int a3] (xPre D cI cZ ad zA zD zR M)) (va_Qi Q (xAt D cI cZ ad) (xA ad)) 0 0 (xA ad) := by
  refine Met.ofW (cc := cX10_cube) (maxL := 4) (ret := (some .boolean)) (by decide) rfl ?_
  intro p e s m args below meth c s₁ B hml hv
  obtain ⟨rfl, hP, hK, hZ, hN⟩ := hv
  have hx := B.exec
  have hb := B.bytes
  have hr := B.returns
  have hts := atoms_spec (ws := uX10_cube) B.pre
  have hown : s.vm.findClass RX10 = some m.cls := findClass_of_methodNamed B.named
  have hlocks := B.notSynchronized
  have hS : va_S (xA ad) s.heap s.heap [] := va_S.rf
  have k0 := hts (.fieldLink RX10 72 "TwoEyes" "body" "LTwoEyes$Body;") (List.mem_cons_of_mem _ (inA_2 _ (List.mem_of_getElem? (i := 23) rfl)))
  have inX10 : ∀ w ∈ wsX100, w ∈ uX10_cube := fun w h => List.mem_cons_of_mem _ (inCX10 w h)
  have hl := lv_entry ([.ref (ad 0), .int a1, .int a2, .int a3]) (n := 4) (Nat.le_of_ble_eq_true rfl)
  rw [lg_entry_eq]
  generalize (lg_sl ([.ref (ad 0), .int a1, .int a2, .int a3]) ++ List.replicate (4 - (lg_sl ([.ref (ad 0), .int a1, .int a2, .int a3])).length) Slot.unset).toArray = ls at hl ⊢
  have hl : lv_has ls 4 [(0, .ref (ad 0)), (1, .int a1), (2, .int a2), (3, .int a3)] := hl
  refine lv_aload_n hx hb dX10_cube_0 rfl (lv_at hl 0 rfl) ?_
  refine va_get (D := D) (ci := 10) (v := .ref (ad 45)) (C := RX10) (T := TX10) (N := 11) hx hb hts inX10 hown hK hP 0 (xW_0 cI cZ ad M) rfl 10 (by decide) k0 (fun _ h9 => h9) rfl dX10_cube_1 ?_
  refine lv_iload_n hx hb dX10_cube_4 rfl (lv_at hl 1 rfl) ?_
  refine lv_iload_n hx hb dX10_cube_5 rfl (lv_at hl 2 rfl) ?_
  refine lv_iload_n hx hb dX10_cube_6 rfl (lv_at hl 3 rfl) ?_
  refine x_callVi (As := [.int a1, .int a2, .int a3]) (rest := []) ⟨hx, hb, hml, hown, hts⟩ (kX0_has l D cI cZ ad zA zD zR hD M a1 a2 a3 _ h) (cwV 3 hts (gdV uS (inA_36 _ (List.mem_of_getElem? (i := 11) rfl)) vX0_has) rfl rfl rfl (by decide +kernel) ⟨Nat.le_of_ble_eq_true rfl, Nat.le_of_ble_eq_true rfl⟩) (va_recv hK hP (ci := 0) (q0 := 45) rfl (xW_45 cI cZ ad M)) hP hK hZ hN hS hl.1 rfl rfl (Nat.le_of_ble_eq_true rfl) dX10_cube_7 (fun r7 M7 H locs h hP hS => ?_)
  obtain ⟨hz10, h⟩ := h
  exact W.zret (v := r7) hx hb hr (znar hz10) (fun t ht hW => ⟨⟨r7, M7, rfl, h, xAt_of ht hP⟩, hS.F ht⟩) hS.2.2 dX10_cube_10
set_option maxHeartbeats 4000000 in
set_option maxRecDepth 100000 in
theorem kX0_isSeenAt (l : Launch) (D : va_G) (cI cZ : ClassId) (ad : Nat → Nat) (zA zD zR : Nat) (hD : ∀ M : Mem, va_D (xA ad) (xW cI cZ ad M)) (M : Mem) (a1 a2 a3 a4 : Int32) (Q : Int32 → Mem → Prop) (h : wX0_isSeenAt M a1 a2 a3 a4 Q) : Met l yX0_isSeenAt uX0_isSeenAt ({ frames := 2, cells := 0, slots := 0, locals := 46 }) (va_Pc [.ref (ad 45), .int a1, .int a2, .int a3, .int a4] (xPre D cI cZ ad zA zD zR M)) (va_Qi Q (xAt D cI cZ ad) (xA ad)) 0 0 (xA ad) := by
  refine Met.ofW (cc := cX0_isSeenAt) (maxL := 5) (ret := (some .boolean)) (by decide) rfl ?_
  intro p e s m args below meth c s₁ B hml hv
  obtain ⟨rfl, hP, hK, hZ, hN⟩ := hv
  have hx := B.exec
  have hb := B.bytes
  have hr := B.returns
  have hts := atoms_spec (ws := uX0_isSeenAt) B.pre
  have hown : s.vm.findClass RX0 = some m.cls := findClass_of_methodNamed B.named
  have hlocks := B.notSynchronized
  have hS : va_S (xA ad) s.heap s.heap [] := va_S.rf
  have hl := lv_entry ([.ref (ad 45), .int a1, .int a2, .int a3, .int a4]) (n := 5) (Nat.le_of_ble_eq_true rfl)
  rw [lg_entry_eq]
  generalize (lg_sl ([.ref (ad 45), .int a1, .int a2, .int a3, .int a4]) ++ List.replicate (5 - (lg_sl ([.ref (ad 45), .int a1, .int a2, .int a3, .int a4])).length) Slot.unset).toArray = ls at hl ⊢
  have hl : lv_has ls 5 [(0, .ref (ad 45)), (1, .int a1), (2, .int a2), (3, .int a3), (4, .int a4)] := hl
  refine lv_iload_n hx hb dX0_isSeenAt_0 rfl (lv_at hl 1 rfl) ?_
  refine lv_if_ne (tgt := 13) hx hb dX0_isSeenAt_1 (by decide) (fun q1 => ?_) (fun q1 => ?_)
  · have h := h.1 q1
    refine lv_iload_n hx hb dX0_isSeenAt_13 rfl (lv_at hl 1 rfl) ?_
    refine lv_iconst (v := 1) hx hb dX0_isSeenAt_14 (by decide) ?_
    refine lv_icmp_ne (tgt := 29) hx hb dX0_isSeenAt_15 (by decide) (fun q15 => ?_) (fun q15 => ?_)
    · have h := h.1 q15
      refine lv_aload_n hx hb dX0_isSeenAt_29 rfl (lv_at hl 0 rfl) ?_
      refine lv_iload_n hx hb dX0_isSeenAt_30 rfl (lv_at hl 3 rfl) ?_
      refine lv_iload_n hx hb dX0_isSeenAt_31 rfl (lv_at hl 2 rfl) ?_
      refine lv_iload hx hb dX0_isSeenAt_32 (lv_at hl 4 rfl) ?_
      refine x_callVi (As := [.int a3, .int a2, .int a4]) (rest := []) ⟨hx, hb, hml, hown, hts⟩ (kX0_has l D cI cZ ad zA zD zR hD M a3 a2 a4 _ h) (cwV 3 hts (gdV uS (inA_37 _ (List.mem_of_getElem? (i := 14) rfl)) vX0_has) rfl rfl rfl (by decide +kernel) ⟨Nat.le_of_ble_eq_true rfl, Nat.le_of_ble_eq_true rfl⟩) (va_recv hK hP (ci := 0) (q0 := 45) rfl (xW_45 cI cZ ad M)) hP hK hZ hN hS hl.1 rfl rfl (Nat.le_of_ble_eq_true rfl) dX0_isSeenAt_34 (fun r34 M34 H locs h hP hS => ?_)
      obtain ⟨hz37, h⟩ := h
      exact W.zret (v := r34) hx hb hr (znar hz37) (fun t ht hW => ⟨⟨r34, M34, rfl, h, xAt_of ht hP⟩, hS.F ht⟩) hS.2.2 dX0_isSeenAt_37
    · have h := h.2 q15
      refine lv_aload_n hx hb dX0_isSeenAt_18 rfl (lv_at hl 0 rfl) ?_
      refine lv_iload_n hx hb dX0_isSeenAt_19 rfl (lv_at hl 3 rfl) ?_
      refine lv_iload hx hb dX0_isSeenAt_20 (lv_at hl 4 rfl) ?_
      refine lv_iload_n hx hb dX0_isSeenAt_22 rfl (lv_at hl 2 rfl) ?_
      refine x_callVi (As := [.int a3, .int a4, .int a2]) (rest := []) ⟨hx, hb, hml, hown, hts⟩ (kX0_has l D cI cZ ad zA zD zR hD M a3 a4 a2 _ h) (cwV 3 hts (gdV uS (inA_37 _ (List.mem_of_getElem? (i := 14) rfl)) vX0_has) rfl rfl rfl (by decide +kernel) ⟨Nat.le_of_ble_eq_true rfl, Nat.le_of_ble_eq_true rfl⟩) (va_recv hK hP (ci := 0) (q0 := 45) rfl (xW_45 cI cZ ad M)) hP hK hZ hN hS hl.1 rfl rfl (Nat.le_of_ble_eq_true rfl) dX0_isSeenAt_23 (fun r23 M23 H locs h hP hS => ?_)
      refine lv_goto (tgt := 37) hx hb dX0_isSeenAt_26 (by decide) ?_
      obtain ⟨hz37, h⟩ := h
      exact W.zret (v := r23) hx hb hr (znar hz37) (fun t ht hW => ⟨⟨r23, M23, rfl, h, xAt_of ht hP⟩, hS.F ht⟩) hS.2.2 dX0_isSeenAt_37
  · have h := h.2 q1
    refine lv_aload_n hx hb dX0_isSeenAt_4 rfl (lv_at hl 0 rfl) ?_
    refine lv_iload hx hb dX0_isSeenAt_5 (lv_at hl 4 rfl) ?_
    refine lv_iload_n hx hb dX0_isSeenAt_7 rfl (lv_at hl 3 rfl) ?_
    refine lv_iload_n hx hb dX0_isSeenAt_8 rfl (lv_at hl 2 rfl) ?_
    refine x_callVi (As := [.int a4, .int a3, .int a2]) (rest := []) ⟨hx, hb, hml, hown, hts⟩ (kX0_has l D cI cZ ad zA zD zR hD M a4 a3 a2 _ h) (cwV 3 hts (gdV uS (inA_37 _ (List.mem_of_getElem? (i := 14) rfl)) vX0_has) rfl rfl rfl (by decide +kernel) ⟨Nat.le_of_ble_eq_true rfl, Nat.le_of_ble_eq_true rfl⟩) (va_recv hK hP (ci := 0) (q0 := 45) rfl (xW_45 cI cZ ad M)) hP hK hZ hN hS hl.1 rfl rfl (Nat.le_of_ble_eq_true rfl) dX0_isSeenAt_9 (fun r9 M9 H locs h hP hS => ?_)
    obtain ⟨hz12, h⟩ := h
    exact W.zret (v := r9) hx hb hr (znar hz12) (fun t ht hW => ⟨⟨r9, M9, rfl, h, xAt_of ht hP⟩, hS.F ht⟩) hS.2.2 dX0_isSeenAt_12
abbrev GX0_anyAlong (p : Program) (l : Launch) (e : Env) (s : State) (m : MethodId) (below : List Frame) (meth : Method) (c : Code) (D : va_G) (cI cZ : ClassId) (ad : Nat → Nat) (a1 a2 a3 : Int32) (Q : Int32 → Mem → Prop) (H : Heap) (locs : List Loc) (g : JFrame) : Prop := W p l e (headSpec uX0_anyAlong { frames := 3, cells := 0, slots := 0, locals := 70 }).room s m ([.ref (ad 45), .int a1, .int a2, .int a3] : List Value).toArray below meth c H locs 0 0 (MQ below (va_Qi Q (xAt D cI cZ ad) (xA ad)) ([.ref (ad 45), .int a1, .int a2, .int a3] : List Value).toArray s 0 0 (xA ad)) g
set_option maxHeartbeats 4000000 in
set_option maxRecDepth 100000 in
theorem kX0_anyAlong (l : Launch) (D : va_G) (cI cZ : ClassId) (ad : Nat → Nat) (zA zD zR : Nat) (hD : ∀ M : Mem, va_D (xA ad) (xW cI cZ ad M)) (M : Mem) (a1 a2 a3 : Int32) (Q : Int32 → Mem → Prop) (h : wX0_anyAlong M a1 a2 a3 Q) : Met l yX0_anyAlong uX0_anyAlong ({ frames := 3, cells := 0, slots := 0, locals := 70 }) (va_Pc [.ref (ad 45), .int a1, .int a2, .int a3] (xPre D cI cZ ad zA zD zR M)) (va_Qi Q (xAt D cI cZ ad) (xA ad)) 0 0 (xA ad) := by
  refine Met.ofW (cc := cX0_anyAlong) (maxL := 5) (ret := (some .boolean)) (by decide) rfl ?_
  intro p e s m args below meth c s₁ B hml hv
  obtain ⟨rfl, hP, hK, hZ, hN⟩ := hv
  have hx := B.exec
  have hb := B.bytes
  have hr := B.returns
  have hts := atoms_spec (ws := uX0_anyAlong) B.pre
  have hown : s.vm.findClass RX0 = some m.cls := findClass_of_methodNamed B.named
  have hlocks := B.notSynchronized
  have hS : va_S (xA ad) s.heap s.heap [] := va_S.rf
  have L3 : ∀ (K30 : Mem → Prop), (∀ (M : Mem) (H : Heap) (locs : List Loc) (ls : Array Slot), lv_has ls 5 [] → va_P D vwCl (xW cI cZ ad M) H → va_S (xA ad) s.heap H locs → K30 M → GX0_anyAlong p l e s m below meth c D cI cZ ad a1 a2 a3 Q H locs (F0 m 30 ls [])) → ∀ n : Nat, ∀ (x1 x2 x3 x4 : Int32) (M : Mem) (H : Heap) (locs : List Loc) (ls : Array Slot), lv_has ls 5 [(0, .ref (ad 45)), (1, .int x1), (2, .int x2), (3, .int x3), (4, .int x4)] → va_P D vwCl (xW cI cZ ad M) H → va_S (xA ad) s.heap H locs → wX0_anyAlong_L3 K30 Q n x1 x2 x3 x4 M → GX0_anyAlong p l e s m below meth c D cI cZ ad a1 a2 a3 Q H locs (F0 m 3 ls []) := by
    intro K30 hK30 n
    induction n with
    | zero => intro x1 x2 x3 x4 M H locs ls hl hP hS h; exact (show False from h).elim
    | succ n hB =>
      intro x1 x2 x3 x4 M H locs ls hl hP hS h
      rw [wX0_anyAlong_L3_s] at h
      refine lv_iload hx hb dX0_anyAlong_3 (lv_at hl 4 rfl) ?_
      refine lv_bipush (v := 8) hx hb dX0_anyAlong_5 (by decide) ?_
      refine lv_icmp_ge (tgt := 30) hx hb dX0_anyAlong_7 (by decide) (fun q7 => ?_) (fun q7 => ?_)
      · have h := h.1 q7
        exact hK30 M _ _ _ (lv_sub hl [] rfl) hP hS h
      · have h := h.2 q7
        refine lv_aload_n hx hb dX0_anyAlong_10 rfl (lv_at hl 0 rfl) ?_
        refine lv_iload_n hx hb dX0_anyAlong_11 rfl (lv_at hl 1 rfl) ?_
        refine lv_iload_n hx hb dX0_anyAlong_12 rfl (lv_at hl 2 rfl) ?_
        refine lv_iload_n hx hb dX0_anyAlong_13 rfl (lv_at hl 3 rfl) ?_
        refine lv_iload hx hb dX0_anyAlong_14 (lv_at hl 4 rfl) ?_
        refine x_callVi (As := [.int x1, .int x2, .int x3, .int x4]) (rest := []) ⟨hx, hb, hml, hown, hts⟩ (kX0_isSeenAt l D cI cZ ad zA zD zR hD M x1 x2 x3 x4 _ h) (cwV 4 hts (gdV uS (inA_37 _ (List.mem_of_getElem? (i := 10) rfl)) vX0_isSeenAt) rfl rfl rfl (by decide +kernel) ⟨Nat.le_of_ble_eq_true rfl, Nat.le_of_ble_eq_true rfl⟩) (va_recv hK hP (ci := 0) (q0 := 45) rfl (xW_45 cI cZ ad M)) hP hK hZ hN hS hl.1 rfl rfl (Nat.le_of_ble_eq_true rfl) dX0_anyAlong_16 (fun r16 M16 H locs h hP hS => ?_)
        refine lv_if_eq (tgt := 24) hx hb dX0_anyAlong_19 (by decide) (fun q19 => ?_) (fun q19 => ?_)
        · have h := h.1 q19
          obtain ⟨x4_24, ex4_24⟩ : ∃ y : Int32, y = x4 + 1 := ⟨_, rfl⟩
          have h := h x4_24 ex4_24
          refine lv_iinc (v := x4_24) (lv' := [(4, .int x4_24), (0, .ref (ad 45)), (1, .int x1), (2, .int x2), (3, .int x3)]) hx hb dX0_anyAlong_24 hl (k := 4) rfl (by rw [ex4_24]; rfl) (by decide) rfl (fun ls hl => ?_)
          refine lv_goto (tgt := 3) hx hb dX0_anyAlong_27 (by decide) ?_
          exact hB x1 x2 x3 x4_24 M16 _ _ _ (lv_sub hl [1, 2, 3, 4, 0] rfl) hP hS h
        · have h := h.2 q19
          refine lv_iconst (v := 1) hx hb dX0_anyAlong_22 (by decide) ?_
          exact W.zret (v := 1) hx hb hr rfl (fun t ht hW => ⟨⟨1, M16, rfl, h, xAt_of ht hP⟩, hS.F ht⟩) hS.2.2 dX0_anyAlong_23
  have hl := lv_entry ([.ref (ad 45), .int a1, .int a2, .int a3]) (n := 5) (Nat.le_of_ble_eq_true rfl)
  rw [lg_entry_eq]
  generalize (lg_sl ([.ref (ad 45), .int a1, .int a2, .int a3]) ++ List.replicate (5 - (lg_sl ([.ref (ad 45), .int a1, .int a2, .int a3])).length) Slot.unset).toArray = ls at hl ⊢
  have hl : lv_has ls 5 [(0, .ref (ad 45)), (1, .int a1), (2, .int a2), (3, .int a3)] := hl
  refine lv_iconst (v := 0) hx hb dX0_anyAlong_0 (by decide) ?_
  refine lv_istore (lv' := [(4, .int 0), (0, .ref (ad 45)), (1, .int a1), (2, .int a2), (3, .int a3)]) hx hb dX0_anyAlong_1 hl (by decide) rfl (fun ls hl => ?_)
  obtain ⟨n, h⟩ := h
  refine L3 _ (fun  M H locs ls hl hP hS h => ?_) n a1 a2 a3 0 M _ _ _ (lv_sub hl [1, 2, 3, 4, 0] rfl) hP hS h
  refine lv_iconst (v := 0) hx hb dX0_anyAlong_30 (by decide) ?_
  exact W.zret (v := 0) hx hb hr rfl (fun t ht hW => ⟨⟨0, M, rfl, h, xAt_of ht hP⟩, hS.F ht⟩) hS.2.2 dX0_anyAlong_31
abbrev GX0_countEmpty (p : Program) (l : Launch) (e : Env) (s : State) (m : MethodId) (below : List Frame) (meth : Method) (c : Code) (D : va_G) (cI cZ : ClassId) (ad : Nat → Nat) (a1 : Int32) (Q : Int32 → Mem → Prop) (H : Heap) (locs : List Loc) (g : JFrame) : Prop := W p l e (headSpec uX0_countEmpty { frames := 4, cells := 0, slots := 0, locals := 94 }).room s m ([.ref (ad 45), .int a1] : List Value).toArray below meth c H locs 0 0 (MQ below (va_Qi Q (xAt D cI cZ ad) (xA ad)) ([.ref (ad 45), .int a1] : List Value).toArray s 0 0 (xA ad)) g
set_option maxHeartbeats 4000000 in
set_option maxRecDepth 100000 in
theorem kX0_countEmpty (l : Launch) (D : va_G) (cI cZ : ClassId) (ad : Nat → Nat) (zA zD zR : Nat) (hD : ∀ M : Mem, va_D (xA ad) (xW cI cZ ad M)) (M : Mem) (a1 : Int32) (Q : Int32 → Mem → Prop) (h : wX0_countEmpty M a1 Q) : Met l yX0_countEmpty uX0_countEmpty ({ frames := 4, cells := 0, slots := 0, locals := 94 }) (va_Pc [.ref (ad 45), .int a1] (xPre D cI cZ ad zA zD zR M)) (va_Qi Q (xAt D cI cZ ad) (xA ad)) 0 0 (xA ad) := by
  refine Met.ofW (cc := cX0_countEmpty) (maxL := 5) (ret := (some .int)) (by decide) rfl ?_
  intro p e s m args below meth c s₁ B hml hv
  obtain ⟨rfl, hP, hK, hZ, hN⟩ := hv
  have hx := B.exec
  have hb := B.bytes
  have hr := B.returns
  have hts := atoms_spec (ws := uX0_countEmpty) B.pre
  have hown : s.vm.findClass RX0 = some m.cls := findClass_of_methodNamed B.named
  have hlocks := B.notSynchronized
  have hS : va_S (xA ad) s.heap s.heap [] := va_S.rf
  have L13 : ∀ (K51 : Int32 → Int32 → Int32 → Mem → Prop), (∀ (x1 x2 x3 : Int32) (M : Mem) (H : Heap) (locs : List Loc) (ls : Array Slot), lv_has ls 5 [(0, .ref (ad 45)), (1, .int x1), (2, .int x2), (3, .int x3)] → va_P D vwCl (xW cI cZ ad M) H → va_S (xA ad) s.heap H locs → K51 x1 x2 x3 M → GX0_countEmpty p l e s m below meth c D cI cZ ad a1 Q H locs (F0 m 51 ls [])) → ∀ n : Nat, ∀ (x1 x2 x3 x4 : Int32) (M : Mem) (H : Heap) (locs : List Loc) (ls : Array Slot), lv_has ls 5 [(0, .ref (ad 45)), (1, .int x1), (2, .int x2), (3, .int x3), (4, .int x4)] → va_P D vwCl (xW cI cZ ad M) H → va_S (xA ad) s.heap H locs → wX0_countEmpty_L13 K51 Q n x1 x2 x3 x4 M → GX0_countEmpty p l e s m below meth c D cI cZ ad a1 Q H locs (F0 m 13 ls []) := by
    intro K51 hK51 n
    induction n with
    | zero => intro x1 x2 x3 x4 M H locs ls hl hP hS h; exact (show False from h).elim
    | succ n hB =>
      intro x1 x2 x3 x4 M H locs ls hl hP hS h
      rw [wX0_countEmpty_L13_s] at h
      refine lv_iload hx hb dX0_countEmpty_13 (lv_at hl 4 rfl) ?_
      refine lv_bipush (v := 8) hx hb dX0_countEmpty_15 (by decide) ?_
      refine lv_icmp_ge (tgt := 51) hx hb dX0_countEmpty_17 (by decide) (fun q17 => ?_) (fun q17 => ?_)
      · have h := h.1 q17
        exact hK51 x1 x2 x3 M _ _ _ (lv_sub hl [0, 1, 2, 3] rfl) hP hS h
      · have h := h.2 q17
        refine lv_aload_n hx hb dX0_countEmpty_20 rfl (lv_at hl 0 rfl) ?_
        refine lv_iload_n hx hb dX0_countEmpty_21 rfl (lv_at hl 1 rfl) ?_
        refine lv_iload_n hx hb dX0_countEmpty_22 rfl (lv_at hl 3 rfl) ?_
        refine lv_iload hx hb dX0_countEmpty_23 (lv_at hl 4 rfl) ?_
        refine x_callVi (As := [.int x1, .int x3, .int x4]) (rest := []) ⟨hx, hb, hml, hown, hts⟩ (kX0_bit l D cI cZ ad zA zD zR hD M x1 x3 x4 _ h) (cwV 3 hts (gdV uS (inA_20 _ (List.mem_of_getElem? (i := 15) rfl)) vX0_bit) rfl rfl rfl (by decide +kernel) ⟨Nat.le_of_ble_eq_true rfl, Nat.le_of_ble_eq_true rfl⟩) (va_recv hK hP (ci := 0) (q0 := 45) rfl (xW_45 cI cZ ad M)) hP hK hZ hN hS hl.1 rfl rfl (Nat.le_of_ble_eq_true rfl) dX0_countEmpty_25 (fun r25 M25 H locs h hP hS => ?_)
        refine lv_if_eq (tgt := 45) hx hb dX0_countEmpty_28 (by decide) (fun q28 => ?_) (fun q28 => ?_)
        · have h := h.1 q28
          obtain ⟨x4_45, ex4_45⟩ : ∃ y : Int32, y = x4 + 1 := ⟨_, rfl⟩
          have h := h x4_45 ex4_45
          refine lv_iinc (v := x4_45) (lv' := [(4, .int x4_45), (0, .ref (ad 45)), (1, .int x1), (2, .int x2), (3, .int x3)]) hx hb dX0_countEmpty_45 hl (k := 4) rfl (by rw [ex4_45]; rfl) (by decide) rfl (fun ls hl => ?_)
          refine lv_goto (tgt := 13) hx hb dX0_countEmpty_48 (by decide) ?_
          exact hB x1 x2 x3 x4_45 M25 _ _ _ (lv_sub hl [1, 2, 3, 4, 0] rfl) hP hS h
        · have h := h.2 q28
          refine lv_aload_n hx hb dX0_countEmpty_31 rfl (lv_at hl 0 rfl) ?_
          refine lv_iload_n hx hb dX0_countEmpty_32 rfl (lv_at hl 1 rfl) ?_
          refine lv_iload_n hx hb dX0_countEmpty_33 rfl (lv_at hl 3 rfl) ?_
          refine lv_iload hx hb dX0_countEmpty_34 (lv_at hl 4 rfl) ?_
          refine x_callVi (As := [.int x1, .int x3, .int x4]) (rest := []) ⟨hx, hb, hml, hown, hts⟩ (kX0_anyAlong l D cI cZ ad zA zD zR hD M25 x1 x3 x4 _ h) (cwV 3 hts (gdV uS (inA_37 _ (List.mem_of_getElem? (i := 6) rfl)) vX0_anyAlong) rfl rfl rfl (by decide +kernel) ⟨Nat.le_of_ble_eq_true rfl, Nat.le_of_ble_eq_true rfl⟩) (va_recv hK hP (ci := 0) (q0 := 45) rfl (xW_45 cI cZ ad M25)) hP hK hZ hN hS hl.1 rfl rfl (Nat.le_of_ble_eq_true rfl) dX0_countEmpty_36 (fun r36 M36 H locs h hP hS => ?_)
          refine lv_if_ne (tgt := 45) hx hb dX0_countEmpty_39 (by decide) (fun q39 => ?_) (fun q39 => ?_)
          · have h := h.1 q39
            obtain ⟨x4_45, ex4_45⟩ : ∃ y : Int32, y = x4 + 1 := ⟨_, rfl⟩
            have h := h x4_45 ex4_45
            refine lv_iinc (v := x4_45) (lv' := [(4, .int x4_45), (0, .ref (ad 45)), (1, .int x1), (2, .int x2), (3, .int x3)]) hx hb dX0_countEmpty_45 hl (k := 4) rfl (by rw [ex4_45]; rfl) (by decide) rfl (fun ls hl => ?_)
            refine lv_goto (tgt := 13) hx hb dX0_countEmpty_48 (by decide) ?_
            exact hB x1 x2 x3 x4_45 M36 _ _ _ (lv_sub hl [1, 2, 3, 4, 0] rfl) hP hS h
          · have h := h.2 q39
            obtain ⟨x2_42, ex2_42⟩ : ∃ y : Int32, y = x2 + 1 := ⟨_, rfl⟩
            have h := h x2_42 ex2_42
            refine lv_iinc (v := x2_42) (lv' := [(2, .int x2_42), (0, .ref (ad 45)), (1, .int x1), (3, .int x3), (4, .int x4)]) hx hb dX0_countEmpty_42 hl (k := 2) rfl (by rw [ex2_42]; rfl) (by decide) rfl (fun ls hl => ?_)
            obtain ⟨x4_45, ex4_45⟩ : ∃ y : Int32, y = x4 + 1 := ⟨_, rfl⟩
            have h := h x4_45 ex4_45
            refine lv_iinc (v := x4_45) (lv' := [(4, .int x4_45), (2, .int x2_42), (0, .ref (ad 45)), (1, .int x1), (3, .int x3)]) hx hb dX0_countEmpty_45 hl (k := 4) rfl (by rw [ex4_45]; rfl) (by decide) rfl (fun ls hl => ?_)
            refine lv_goto (tgt := 13) hx hb dX0_countEmpty_48 (by decide) ?_
            exact hB x1 x2_42 x3 x4_45 M36 _ _ _ (lv_sub hl [2, 3, 1, 4, 0] rfl) hP hS h
  have L4 : ∀ (K57 : Int32 → Mem → Prop), (∀ (x2 : Int32) (M : Mem) (H : Heap) (locs : List Loc) (ls : Array Slot), lv_has ls 5 [(2, .int x2)] → va_P D vwCl (xW cI cZ ad M) H → va_S (xA ad) s.heap H locs → K57 x2 M → GX0_countEmpty p l e s m below meth c D cI cZ ad a1 Q H locs (F0 m 57 ls [])) → ∀ n : Nat, ∀ (x1 x2 x3 : Int32) (M : Mem) (H : Heap) (locs : List Loc) (ls : Array Slot), lv_has ls 5 [(0, .ref (ad 45)), (1, .int x1), (2, .int x2), (3, .int x3)] → va_P D vwCl (xW cI cZ ad M) H → va_S (xA ad) s.heap H locs → wX0_countEmpty_L4 K57 Q n x1 x2 x3 M → GX0_countEmpty p l e s m below meth c D cI cZ ad a1 Q H locs (F0 m 4 ls []) := by
    intro K57 hK57 n
    induction n with
    | zero => intro x1 x2 x3 M H locs ls hl hP hS h; exact (show False from h).elim
    | succ n hB =>
      intro x1 x2 x3 M H locs ls hl hP hS h
      rw [wX0_countEmpty_L4_s] at h
      refine lv_iload_n hx hb dX0_countEmpty_4 rfl (lv_at hl 3 rfl) ?_
      refine lv_bipush (v := 8) hx hb dX0_countEmpty_5 (by decide) ?_
      refine lv_icmp_ge (tgt := 57) hx hb dX0_countEmpty_7 (by decide) (fun q7 => ?_) (fun q7 => ?_)
      · have h := h.1 q7
        exact hK57 x2 M _ _ _ (lv_sub hl [2] rfl) hP hS h
      · have h := h.2 q7
        refine lv_iconst (v := 0) hx hb dX0_countEmpty_10 (by decide) ?_
        refine lv_istore (lv' := [(4, .int 0), (0, .ref (ad 45)), (1, .int x1), (2, .int x2), (3, .int x3)]) hx hb dX0_countEmpty_11 hl (by decide) rfl (fun ls hl => ?_)
        obtain ⟨n, h⟩ := h
        refine L13 _ (fun x1 x2 x3 M H locs ls hl hP hS h => ?_) n x1 x2 x3 0 M _ _ _ (lv_sub hl [1, 2, 3, 4, 0] rfl) hP hS h
        obtain ⟨x3_51, ex3_51⟩ : ∃ y : Int32, y = x3 + 1 := ⟨_, rfl⟩
        have h := h x3_51 ex3_51
        refine lv_iinc (v := x3_51) (lv' := [(3, .int x3_51), (0, .ref (ad 45)), (1, .int x1), (2, .int x2)]) hx hb dX0_countEmpty_51 hl (k := 3) rfl (by rw [ex3_51]; rfl) (by decide) rfl (fun ls hl => ?_)
        refine lv_goto (tgt := 4) hx hb dX0_countEmpty_54 (by decide) ?_
        exact hB x1 x2 x3_51 M _ _ _ (lv_sub hl [1, 2, 3, 0] rfl) hP hS h
  have hl := lv_entry ([.ref (ad 45), .int a1]) (n := 5) (Nat.le_of_ble_eq_true rfl)
  rw [lg_entry_eq]
  generalize (lg_sl ([.ref (ad 45), .int a1]) ++ List.replicate (5 - (lg_sl ([.ref (ad 45), .int a1])).length) Slot.unset).toArray = ls at hl ⊢
  have hl : lv_has ls 5 [(0, .ref (ad 45)), (1, .int a1)] := hl
  refine lv_iconst (v := 0) hx hb dX0_countEmpty_0 (by decide) ?_
  refine lv_istore_n (lv' := [(2, .int 0), (0, .ref (ad 45)), (1, .int a1)]) hx hb dX0_countEmpty_1 rfl hl (by decide) rfl (fun ls hl => ?_)
  refine lv_iconst (v := 0) hx hb dX0_countEmpty_2 (by decide) ?_
  refine lv_istore_n (lv' := [(3, .int 0), (2, .int 0), (0, .ref (ad 45)), (1, .int a1)]) hx hb dX0_countEmpty_3 rfl hl (by decide) rfl (fun ls hl => ?_)
  obtain ⟨n, h⟩ := h
  refine L4 _ (fun x2 M H locs ls hl hP hS h => ?_) n a1 0 0 M _ _ _ (lv_sub hl [2, 3, 1, 0] rfl) hP hS h
  refine lv_iload_n hx hb dX0_countEmpty_57 rfl (lv_at hl 0 rfl) ?_
  exact W.iret (v := x2) hx hb hr (fun t ht hW => ⟨⟨x2, M, rfl, h, xAt_of ht hP⟩, hS.F ht⟩) hS.2.2 dX0_countEmpty_58
set_option maxHeartbeats 4000000 in
set_option maxRecDepth 100000 in
theorem kX10_empty (l : Launch) (D : va_G) (cI cZ : ClassId) (ad : Nat → Nat) (zA zD zR : Nat) (hD : ∀ M : Mem, va_D (xA ad) (xW cI cZ ad M)) (M : Mem) (a1 : Int32) (Q : Int32 → Mem → Prop) (h : wX10_empty M a1 Q) : Met l yX10_empty uX10_empty ({ frames := 5, cells := 0, slots := 0, locals := 118 }) (va_Pc [.ref (ad 0), .int a1] (xPre D cI cZ ad zA zD zR M)) (va_Qi Q (xAt D cI cZ ad) (xA ad)) 0 0 (xA ad) := by
  refine Met.ofW (cc := cX10_empty) (maxL := 2) (ret := (some .int)) (by decide) rfl ?_
  intro p e s m args below meth c s₁ B hml hv
  obtain ⟨rfl, hP, hK, hZ, hN⟩ := hv
  have hx := B.exec
  have hb := B.bytes
  have hr := B.returns
  have hts := atoms_spec (ws := uX10_empty) B.pre
  have hown : s.vm.findClass RX10 = some m.cls := findClass_of_methodNamed B.named
  have hlocks := B.notSynchronized
  have hS : va_S (xA ad) s.heap s.heap [] := va_S.rf
  have k0 := hts (.fieldLink RX10 72 "TwoEyes" "body" "LTwoEyes$Body;") (List.mem_cons_of_mem _ (inA_2 _ (List.mem_of_getElem? (i := 23) rfl)))
  have inX10 : ∀ w ∈ wsX100, w ∈ uX10_empty := fun w h => List.mem_cons_of_mem _ (inCX10 w h)
  have hl := lv_entry ([.ref (ad 0), .int a1]) (n := 2) (Nat.le_of_ble_eq_true rfl)
  rw [lg_entry_eq]
  generalize (lg_sl ([.ref (ad 0), .int a1]) ++ List.replicate (2 - (lg_sl ([.ref (ad 0), .int a1])).length) Slot.unset).toArray = ls at hl ⊢
  have hl : lv_has ls 2 [(0, .ref (ad 0)), (1, .int a1)] := hl
  refine lv_aload_n hx hb dX10_empty_0 rfl (lv_at hl 0 rfl) ?_
  refine va_get (D := D) (ci := 10) (v := .ref (ad 45)) (C := RX10) (T := TX10) (N := 11) hx hb hts inX10 hown hK hP 0 (xW_0 cI cZ ad M) rfl 10 (by decide) k0 (fun _ h9 => h9) rfl dX10_empty_1 ?_
  refine lv_iload_n hx hb dX10_empty_4 rfl (lv_at hl 1 rfl) ?_
  refine x_callVi (As := [.int a1]) (rest := []) ⟨hx, hb, hml, hown, hts⟩ (kX0_hasOutline l D cI cZ ad zA zD zR hD M a1 _ h) (cwV 1 hts (gdV uS (inA_35 _ (List.mem_of_getElem? (i := 23) rfl)) vX0_hasOutline) rfl rfl rfl (by decide +kernel) ⟨Nat.le_of_ble_eq_true rfl, Nat.le_of_ble_eq_true rfl⟩) (va_recv hK hP (ci := 0) (q0 := 45) rfl (xW_45 cI cZ ad M)) hP hK hZ hN hS hl.1 rfl rfl (Nat.le_of_ble_eq_true rfl) dX10_empty_5 (fun r5 M5 H locs h hP hS => ?_)
  refine lv_if_eq (tgt := 22) hx hb dX10_empty_8 (by decide) (fun q8 => ?_) (fun q8 => ?_)
  · have h := h.1 q8
    refine lv_iconst (v := (-1)) hx hb dX10_empty_22 (by decide) ?_
    exact W.iret (v := (-1)) hx hb hr (fun t ht hW => ⟨⟨(-1), M5, rfl, h, xAt_of ht hP⟩, hS.F ht⟩) hS.2.2 dX10_empty_23
  · have h := h.2 q8
    refine lv_aload_n hx hb dX10_empty_11 rfl (lv_at hl 0 rfl) ?_
    refine va_get (D := D) (ci := 10) (v := .ref (ad 45)) (C := RX10) (T := TX10) (N := 11) hx hb hts inX10 hown hK hP 0 (xW_0 cI cZ ad M5) rfl 10 (by decide) k0 (fun _ h9 => h9) rfl dX10_empty_12 ?_
    refine lv_iload_n hx hb dX10_empty_15 rfl (lv_at hl 1 rfl) ?_
    refine x_callVi (As := [.int a1]) (rest := []) ⟨hx, hb, hml, hown, hts⟩ (kX0_countEmpty l D cI cZ ad zA zD zR hD M5 a1 _ h) (cwV 1 hts (gdV uS (inA_37 _ (List.mem_of_getElem? (i := 2) rfl)) vX0_countEmpty) rfl rfl rfl (by decide +kernel) ⟨Nat.le_of_ble_eq_true rfl, Nat.le_of_ble_eq_true rfl⟩) (va_recv hK hP (ci := 0) (q0 := 45) rfl (xW_45 cI cZ ad M5)) hP hK hZ hN hS hl.1 rfl rfl (Nat.le_of_ble_eq_true rfl) dX10_empty_16 (fun r16 M16 H locs h hP hS => ?_)
    refine lv_goto (tgt := 23) hx hb dX10_empty_19 (by decide) ?_
    exact W.iret (v := r16) hx hb hr (fun t ht hW => ⟨⟨r16, M16, rfl, h, xAt_of ht hP⟩, hS.F ht⟩) hS.2.2 dX10_empty_23
set_option maxHeartbeats 4000000 in
set_option maxRecDepth 100000 in
theorem kX4_become_10_2 (l : Launch) (D : va_G) (cI cZ : ClassId) (ad : Nat → Nat) (zA zD zR : Nat) (hD : ∀ M : Mem, va_D (xA ad) (xW cI cZ ad M)) (M : Mem) (Q : Mem → Prop) (h : wX4_become_10_2 M Q) : Met l yX4_become uX4_become ({ frames := 1, cells := 0, slots := 0, locals := 18 }) (va_Pc [.ref (ad 10), .ref (ad 2)] (xPre D cI cZ ad zA zD zR M)) (va_Qv Q (xAt D cI cZ ad) (xA ad)) 0 0 (xA ad) := by
  refine Met.ofW (cc := cX4_become) (maxL := 2) (ret := none) (by decide) rfl ?_
  intro p e s m args below meth c s₁ B hml hv
  obtain ⟨rfl, hP, hK, hZ, hN⟩ := hv
  have hx := B.exec
  have hb := B.bytes
  have hr := B.returns
  have hts := atoms_spec (ws := uX4_become) B.pre
  have hown : s.vm.findClass RX4 = some m.cls := findClass_of_methodNamed B.named
  have hlocks := B.notSynchronized
  have hS : va_S (xA ad) s.heap s.heap [] := va_S.rf
  have k0 := hts (.fieldLink RX4 9 "TwoEyes$Picture" "squares" "[I") (List.mem_cons_of_mem _ (inA_3 _ (List.mem_of_getElem? (i := 15) rfl)))
  have inX4 : ∀ w ∈ wsX40, w ∈ uX4_become := fun w h => List.mem_cons_of_mem _ (inCX4 w h)
  have k2 := hts (.methodLink RX4 25 arraycopyName) (List.mem_cons_of_mem _ (inA_38 _ (List.mem_of_getElem? (i := 12) rfl)))
  have k3 := hts (.native arraycopyName) (List.mem_cons_of_mem _ (inA_12 _ (List.mem_of_getElem? (i := 14) rfl)))
  have k4 := hts (.static arraycopyName) (List.mem_cons_of_mem _ (inA_12 _ (List.mem_of_getElem? (i := 15) rfl)))
  have k5 := hts (.initialized "java/lang/System") (List.mem_cons_of_mem _ (inA_12 _ (List.mem_of_getElem? (i := 16) rfl)))
  have k6 := hts (.fieldLink RX4 15 "TwoEyes$Picture" "missing" "[Z") (List.mem_cons_of_mem _ (inA_3 _ (List.mem_of_getElem? (i := 17) rfl)))
  have hl := lv_entry ([.ref (ad 10), .ref (ad 2)]) (n := 2) (Nat.le_of_ble_eq_true rfl)
  rw [lg_entry_eq]
  generalize (lg_sl ([.ref (ad 10), .ref (ad 2)]) ++ List.replicate (2 - (lg_sl ([.ref (ad 10), .ref (ad 2)])).length) Slot.unset).toArray = ls at hl ⊢
  have hl : lv_has ls 2 [(0, .ref (ad 10)), (1, .ref (ad 2))] := hl
  refine lv_aload_n hx hb dX4_become_0 rfl (lv_at hl 1 rfl) ?_
  refine va_get (D := D) (ci := 4) (v := .ref (ad 3)) (C := RX4) (T := TX4) (N := 2) hx hb hts inX4 hown hK hP 2 (xW_2 cI cZ ad M) rfl 0 (by decide) k0 (fun _ h9 => h9) rfl dX4_become_1 ?_
  refine lv_iconst (v := 0) hx hb dX4_become_4 (by decide) ?_
  refine lv_aload_n hx hb dX4_become_5 rfl (lv_at hl 0 rfl) ?_
  refine va_get (D := D) (ci := 4) (v := .ref (ad 11)) (C := RX4) (T := TX4) (N := 2) hx hb hts inX4 hown hK hP 10 (xW_10 cI cZ ad M) rfl 0 (by decide) k0 (fun _ h9 => h9) rfl dX4_become_6 ?_
  refine lv_iconst (v := 0) hx hb dX4_become_9 (by decide) ?_
  refine lv_sipush (v := 200) hx hb dX4_become_10 (by decide) ?_
  obtain ⟨h113, h213, h313, h413, h513, h⟩ := h
  refine va_copyi hx hb (hml.trans hl.1.symm) hown k2 k3 k4 k5 hK hP (hD M) hS 3 11 0 0 (xW_3 cI cZ ad M) (xW_11 cI cZ ad M) rfl rfl rfl h113 h213 h313 h413 h513 (fun _ _ => rfl) (Nat.le_of_ble_eq_true rfl) (Nat.le_of_ble_eq_true rfl) dX4_become_13 (fun H locs hP _ hS => ?_)
  refine xQ_11 hP (fun M13 eM13 hP => ?_)
  have h := h M13 eM13
  refine lv_aload_n hx hb dX4_become_16 rfl (lv_at hl 1 rfl) ?_
  refine va_get (D := D) (ci := 4) (v := .ref (ad 4)) (C := RX4) (T := TX4) (N := 2) hx hb hts inX4 hown hK hP 2 (xW_2 cI cZ ad M13) rfl 1 (by decide) k6 (fun _ h9 => h9) rfl dX4_become_17 ?_
  refine lv_iconst (v := 0) hx hb dX4_become_20 (by decide) ?_
  refine lv_aload_n hx hb dX4_become_21 rfl (lv_at hl 0 rfl) ?_
  refine va_get (D := D) (ci := 4) (v := .ref (ad 12)) (C := RX4) (T := TX4) (N := 2) hx hb hts inX4 hown hK hP 10 (xW_10 cI cZ ad M13) rfl 1 (by decide) k6 (fun _ h9 => h9) rfl dX4_become_22 ?_
  refine lv_iconst (v := 0) hx hb dX4_become_25 (by decide) ?_
  refine lv_bipush (v := 10) hx hb dX4_become_26 (by decide) ?_
  obtain ⟨h128, h228, h328, h428, h528, h628, h⟩ := h
  refine va_copyi hx hb (hml.trans hl.1.symm) hown k2 k3 k4 k5 hK hP (hD M13) hS 4 12 1 1 (xW_4 cI cZ ad M13) (xW_12 cI cZ ad M13) rfl rfl rfl h128 h228 h328 h428 h528 (fun j hj => zfit (h628 _ (Nat.add_lt_add_left hj _))) (Nat.le_of_ble_eq_true rfl) (Nat.le_of_ble_eq_true rfl) dX4_become_28 (fun H locs hP _ hS => ?_)
  refine xQ_12 hP (fun M28 eM28 hP => ?_)
  have h := h M28 eM28
  exact W.vret hx hb hr (fun t ht hW => ⟨⟨M28, rfl, h, xAt_of ht hP⟩, hS.F ht⟩) hS.2.2 dX4_become_31
set_option maxHeartbeats 4000000 in
set_option maxRecDepth 100000 in
theorem kX4_become_13_5 (l : Launch) (D : va_G) (cI cZ : ClassId) (ad : Nat → Nat) (zA zD zR : Nat) (hD : ∀ M : Mem, va_D (xA ad) (xW cI cZ ad M)) (M : Mem) (Q : Mem → Prop) (h : wX4_become_13_5 M Q) : Met l yX4_become uX4_become ({ frames := 1, cells := 0, slots := 0, locals := 18 }) (va_Pc [.ref (ad 13), .ref (ad 5)] (xPre D cI cZ ad zA zD zR M)) (va_Qv Q (xAt D cI cZ ad) (xA ad)) 0 0 (xA ad) := by
  refine Met.ofW (cc := cX4_become) (maxL := 2) (ret := none) (by decide) rfl ?_
  intro p e s m args below meth c s₁ B hml hv
  obtain ⟨rfl, hP, hK, hZ, hN⟩ := hv
  have hx := B.exec
  have hb := B.bytes
  have hr := B.returns
  have hts := atoms_spec (ws := uX4_become) B.pre
  have hown : s.vm.findClass RX4 = some m.cls := findClass_of_methodNamed B.named
  have hlocks := B.notSynchronized
  have hS : va_S (xA ad) s.heap s.heap [] := va_S.rf
  have k0 := hts (.fieldLink RX4 9 "TwoEyes$Picture" "squares" "[I") (List.mem_cons_of_mem _ (inA_3 _ (List.mem_of_getElem? (i := 15) rfl)))
  have inX4 : ∀ w ∈ wsX40, w ∈ uX4_become := fun w h => List.mem_cons_of_mem _ (inCX4 w h)
  have k2 := hts (.methodLink RX4 25 arraycopyName) (List.mem_cons_of_mem _ (inA_38 _ (List.mem_of_getElem? (i := 12) rfl)))
  have k3 := hts (.native arraycopyName) (List.mem_cons_of_mem _ (inA_12 _ (List.mem_of_getElem? (i := 14) rfl)))
  have k4 := hts (.static arraycopyName) (List.mem_cons_of_mem _ (inA_12 _ (List.mem_of_getElem? (i := 15) rfl)))
  have k5 := hts (.initialized "java/lang/System") (List.mem_cons_of_mem _ (inA_12 _ (List.mem_of_getElem? (i := 16) rfl)))
  have k6 := hts (.fieldLink RX4 15 "TwoEyes$Picture" "missing" "[Z") (List.mem_cons_of_mem _ (inA_3 _ (List.mem_of_getElem? (i := 17) rfl)))
  have hl := lv_entry ([.ref (ad 13), .ref (ad 5)]) (n := 2) (Nat.le_of_ble_eq_true rfl)
  rw [lg_entry_eq]
  generalize (lg_sl ([.ref (ad 13), .ref (ad 5)]) ++ List.replicate (2 - (lg_sl ([.ref (ad 13), .ref (ad 5)])).length) Slot.unset).toArray = ls at hl ⊢
  have hl : lv_has ls 2 [(0, .ref (ad 13)), (1, .ref (ad 5))] := hl
  refine lv_aload_n hx hb dX4_become_0 rfl (lv_at hl 1 rfl) ?_
  refine va_get (D := D) (ci := 4) (v := .ref (ad 6)) (C := RX4) (T := TX4) (N := 2) hx hb hts inX4 hown hK hP 5 (xW_5 cI cZ ad M) rfl 0 (by decide) k0 (fun _ h9 => h9) rfl dX4_become_1 ?_
  refine lv_iconst (v := 0) hx hb dX4_become_4 (by decide) ?_
  refine lv_aload_n hx hb dX4_become_5 rfl (lv_at hl 0 rfl) ?_
  refine va_get (D := D) (ci := 4) (v := .ref (ad 14)) (C := RX4) (T := TX4) (N := 2) hx hb hts inX4 hown hK hP 13 (xW_13 cI cZ ad M) rfl 0 (by decide) k0 (fun _ h9 => h9) rfl dX4_become_6 ?_
  refine lv_iconst (v := 0) hx hb dX4_become_9 (by decide) ?_
  refine lv_sipush (v := 200) hx hb dX4_become_10 (by decide) ?_
  obtain ⟨h113, h213, h313, h413, h513, h⟩ := h
  refine va_copyi hx hb (hml.trans hl.1.symm) hown k2 k3 k4 k5 hK hP (hD M) hS 6 14 0 0 (xW_6 cI cZ ad M) (xW_14 cI cZ ad M) rfl rfl rfl h113 h213 h313 h413 h513 (fun _ _ => rfl) (Nat.le_of_ble_eq_true rfl) (Nat.le_of_ble_eq_true rfl) dX4_become_13 (fun H locs hP _ hS => ?_)
  refine xQ_14 hP (fun M13 eM13 hP => ?_)
  have h := h M13 eM13
  refine lv_aload_n hx hb dX4_become_16 rfl (lv_at hl 1 rfl) ?_
  refine va_get (D := D) (ci := 4) (v := .ref (ad 7)) (C := RX4) (T := TX4) (N := 2) hx hb hts inX4 hown hK hP 5 (xW_5 cI cZ ad M13) rfl 1 (by decide) k6 (fun _ h9 => h9) rfl dX4_become_17 ?_
  refine lv_iconst (v := 0) hx hb dX4_become_20 (by decide) ?_
  refine lv_aload_n hx hb dX4_become_21 rfl (lv_at hl 0 rfl) ?_
  refine va_get (D := D) (ci := 4) (v := .ref (ad 15)) (C := RX4) (T := TX4) (N := 2) hx hb hts inX4 hown hK hP 13 (xW_13 cI cZ ad M13) rfl 1 (by decide) k6 (fun _ h9 => h9) rfl dX4_become_22 ?_
  refine lv_iconst (v := 0) hx hb dX4_become_25 (by decide) ?_
  refine lv_bipush (v := 10) hx hb dX4_become_26 (by decide) ?_
  obtain ⟨h128, h228, h328, h428, h528, h628, h⟩ := h
  refine va_copyi hx hb (hml.trans hl.1.symm) hown k2 k3 k4 k5 hK hP (hD M13) hS 7 15 1 1 (xW_7 cI cZ ad M13) (xW_15 cI cZ ad M13) rfl rfl rfl h128 h228 h328 h428 h528 (fun j hj => zfit (h628 _ (Nat.add_lt_add_left hj _))) (Nat.le_of_ble_eq_true rfl) (Nat.le_of_ble_eq_true rfl) dX4_become_28 (fun H locs hP _ hS => ?_)
  refine xQ_15 hP (fun M28 eM28 hP => ?_)
  have h := h M28 eM28
  exact W.vret hx hb hr (fun t ht hW => ⟨⟨M28, rfl, h, xAt_of ht hP⟩, hS.F ht⟩) hS.2.2 dX4_become_31
set_option maxHeartbeats 4000000 in
set_option maxRecDepth 100000 in
theorem kX6_become_9_1 (l : Launch) (D : va_G) (cI cZ : ClassId) (ad : Nat → Nat) (zA zD zR : Nat) (hD : ∀ M : Mem, va_D (xA ad) (xW cI cZ ad M)) (M : Mem) (Q : Mem → Prop) (h : wX6_become_9_1 M Q) : Met l yX6_become uX6_become ({ frames := 2, cells := 0, slots := 0, locals := 39 }) (va_Pc [.ref (ad 9), .ref (ad 1)] (xPre D cI cZ ad zA zD zR M)) (va_Qv Q (xAt D cI cZ ad) (xA ad)) 0 0 (xA ad) := by
  refine Met.ofW (cc := cX6_become) (maxL := 2) (ret := none) (by decide) rfl ?_
  intro p e s m args below meth c s₁ B hml hv
  obtain ⟨rfl, hP, hK, hZ, hN⟩ := hv
  have hx := B.exec
  have hb := B.bytes
  have hr := B.returns
  have hts := atoms_spec (ws := uX6_become) B.pre
  have hown : s.vm.findClass RX6 = some m.cls := findClass_of_methodNamed B.named
  have hlocks := B.notSynchronized
  have hS : va_S (xA ad) s.heap s.heap [] := va_S.rf
  have k0 := hts (.fieldLink RX6 9 "TwoEyes$Scene" "width" "I") (List.mem_cons_of_mem _ (inA_3 _ (List.mem_of_getElem? (i := 4) rfl)))
  have inX6 : ∀ w ∈ wsX60, w ∈ uX6_become := fun w h => List.mem_cons_of_mem _ (inCX6 w h)
  have k2 := hts (.fieldLink RX6 15 "TwoEyes$Scene" "height" "I") (List.mem_cons_of_mem _ (inA_3 _ (List.mem_of_getElem? (i := 5) rfl)))
  have k3 := hts (.fieldLink RX6 21 "TwoEyes$Scene" "left" "LTwoEyes$Picture;") (List.mem_cons_of_mem _ (inA_3 _ (List.mem_of_getElem? (i := 9) rfl)))
  have k4 := hts (.fieldLink RX6 25 "TwoEyes$Scene" "right" "LTwoEyes$Picture;") (List.mem_cons_of_mem _ (inA_3 _ (List.mem_of_getElem? (i := 10) rfl)))
  have k5 := hts (.fieldLink RX6 28 "TwoEyes$Scene" "truth" "[I") (List.mem_cons_of_mem _ (inA_3 _ (List.mem_of_getElem? (i := 11) rfl)))
  have k6 := hts (.methodLink RX6 45 arraycopyName) (List.mem_cons_of_mem _ (inA_38 _ (List.mem_of_getElem? (i := 7) rfl)))
  have k7 := hts (.native arraycopyName) (List.mem_cons_of_mem _ (inA_12 _ (List.mem_of_getElem? (i := 14) rfl)))
  have k8 := hts (.static arraycopyName) (List.mem_cons_of_mem _ (inA_12 _ (List.mem_of_getElem? (i := 15) rfl)))
  have k9 := hts (.initialized "java/lang/System") (List.mem_cons_of_mem _ (inA_12 _ (List.mem_of_getElem? (i := 16) rfl)))
  have hl := lv_entry ([.ref (ad 9), .ref (ad 1)]) (n := 2) (Nat.le_of_ble_eq_true rfl)
  rw [lg_entry_eq]
  generalize (lg_sl ([.ref (ad 9), .ref (ad 1)]) ++ List.replicate (2 - (lg_sl ([.ref (ad 9), .ref (ad 1)])).length) Slot.unset).toArray = ls at hl ⊢
  have hl : lv_has ls 2 [(0, .ref (ad 9)), (1, .ref (ad 1))] := hl
  refine lv_aload_n hx hb dX6_become_0 rfl (lv_at hl 0 rfl) ?_
  refine lv_aload_n hx hb dX6_become_1 rfl (lv_at hl 1 rfl) ?_
  refine va_get (D := D) (ci := 6) (v := .int (M 1 0)) (C := RX6) (T := TX6) (N := 5) hx hb hts inX6 hown hK hP 1 (xW_1 cI cZ ad M) rfl 0 (by decide) k0 (fun _ h9 => h9) rfl dX6_become_2 ?_
  refine va_put (D := D) (ci := 6) (v := .int (M 1 0)) (ty := .int) (C := RX6) (T := TX6) (N := 5) hx hb hts inX6 tyX6 tyX6_ok nmX6 hown hK hP (hD M) hS 9 (xW_9 cI cZ ad M) rfl 0 (by decide) k0 (fun _ h9 => h9) rfl (by decide +kernel) rfl rfl (Nat.le_of_ble_eq_true rfl) dX6_become_5 (fun H locs hP _ hS => ?_)
  refine xP_9_0 hP (fun M5 eM5 hP => ?_)
  have h := h M5 eM5
  refine lv_aload_n hx hb dX6_become_8 rfl (lv_at hl 0 rfl) ?_
  refine lv_aload_n hx hb dX6_become_9 rfl (lv_at hl 1 rfl) ?_
  refine va_get (D := D) (ci := 6) (v := .int (M5 1 1)) (C := RX6) (T := TX6) (N := 5) hx hb hts inX6 hown hK hP 1 (xW_1 cI cZ ad M5) rfl 1 (by decide) k2 (fun _ h9 => h9) rfl dX6_become_10 ?_
  refine va_put (D := D) (ci := 6) (v := .int (M5 1 1)) (ty := .int) (C := RX6) (T := TX6) (N := 5) hx hb hts inX6 tyX6 tyX6_ok nmX6 hown hK hP (hD M5) hS 9 (xW_9 cI cZ ad M5) rfl 1 (by decide) k2 (fun _ h9 => h9) rfl (by decide +kernel) rfl rfl (Nat.le_of_ble_eq_true rfl) dX6_become_13 (fun H locs hP _ hS => ?_)
  refine xP_9_1 hP (fun M13 eM13 hP => ?_)
  have h := h M13 eM13
  refine lv_aload_n hx hb dX6_become_16 rfl (lv_at hl 0 rfl) ?_
  refine va_get (D := D) (ci := 6) (v := .ref (ad 10)) (C := RX6) (T := TX6) (N := 5) hx hb hts inX6 hown hK hP 9 (xW_9 cI cZ ad M13) rfl 2 (by decide) k3 (fun _ h9 => h9) rfl dX6_become_17 ?_
  refine lv_aload_n hx hb dX6_become_20 rfl (lv_at hl 1 rfl) ?_
  refine va_get (D := D) (ci := 6) (v := .ref (ad 2)) (C := RX6) (T := TX6) (N := 5) hx hb hts inX6 hown hK hP 1 (xW_1 cI cZ ad M13) rfl 2 (by decide) k3 (fun _ h9 => h9) rfl dX6_become_21 ?_
  refine x_callVv (As := [.ref (ad 2)]) (rest := []) ⟨hx, hb, hml, hown, hts⟩ (kX4_become_10_2 l D cI cZ ad zA zD zR hD M13 _ h) (cwV 1 hts (gdV uS (inA_38 _ (List.mem_of_getElem? (i := 8) rfl)) vX4_become) rfl rfl rfl (by decide +kernel) ⟨Nat.le_of_ble_eq_true rfl, Nat.le_of_ble_eq_true rfl⟩) (va_recv hK hP (ci := 4) (q0 := 10) rfl (xW_10 cI cZ ad M13)) hP hK hZ hN hS hl.1 rfl rfl (Nat.le_of_ble_eq_true rfl) dX6_become_24 (fun M24 H locs h hP hS => ?_)
  refine lv_aload_n hx hb dX6_become_27 rfl (lv_at hl 0 rfl) ?_
  refine va_get (D := D) (ci := 6) (v := .ref (ad 13)) (C := RX6) (T := TX6) (N := 5) hx hb hts inX6 hown hK hP 9 (xW_9 cI cZ ad M24) rfl 3 (by decide) k4 (fun _ h9 => h9) rfl dX6_become_28 ?_
  refine lv_aload_n hx hb dX6_become_31 rfl (lv_at hl 1 rfl) ?_
  refine va_get (D := D) (ci := 6) (v := .ref (ad 5)) (C := RX6) (T := TX6) (N := 5) hx hb hts inX6 hown hK hP 1 (xW_1 cI cZ ad M24) rfl 3 (by decide) k4 (fun _ h9 => h9) rfl dX6_become_32 ?_
  refine x_callVv (As := [.ref (ad 5)]) (rest := []) ⟨hx, hb, hml, hown, hts⟩ (kX4_become_13_5 l D cI cZ ad zA zD zR hD M24 _ h) (cwV 1 hts (gdV uS (inA_38 _ (List.mem_of_getElem? (i := 8) rfl)) vX4_become) rfl rfl rfl (by decide +kernel) ⟨Nat.le_of_ble_eq_true rfl, Nat.le_of_ble_eq_true rfl⟩) (va_recv hK hP (ci := 4) (q0 := 13) rfl (xW_13 cI cZ ad M24)) hP hK hZ hN hS hl.1 rfl rfl (Nat.le_of_ble_eq_true rfl) dX6_become_35 (fun M35 H locs h hP hS => ?_)
  refine lv_aload_n hx hb dX6_become_38 rfl (lv_at hl 1 rfl) ?_
  refine va_get (D := D) (ci := 6) (v := .ref (ad 8)) (C := RX6) (T := TX6) (N := 5) hx hb hts inX6 hown hK hP 1 (xW_1 cI cZ ad M35) rfl 4 (by decide) k5 (fun _ h9 => h9) rfl dX6_become_39 ?_
  refine lv_iconst (v := 0) hx hb dX6_become_42 (by decide) ?_
  refine lv_aload_n hx hb dX6_become_43 rfl (lv_at hl 0 rfl) ?_
  refine va_get (D := D) (ci := 6) (v := .ref (ad 16)) (C := RX6) (T := TX6) (N := 5) hx hb hts inX6 hown hK hP 9 (xW_9 cI cZ ad M35) rfl 4 (by decide) k5 (fun _ h9 => h9) rfl dX6_become_44 ?_
  refine lv_iconst (v := 0) hx hb dX6_become_47 (by decide) ?_
  refine lv_sipush (v := 200) hx hb dX6_become_48 (by decide) ?_
  obtain ⟨h151, h251, h351, h451, h551, h⟩ := h
  refine va_copyi hx hb (hml.trans hl.1.symm) hown k6 k7 k8 k9 hK hP (hD M35) hS 8 16 0 0 (xW_8 cI cZ ad M35) (xW_16 cI cZ ad M35) rfl rfl rfl h151 h251 h351 h451 h551 (fun _ _ => rfl) (Nat.le_of_ble_eq_true rfl) (Nat.le_of_ble_eq_true rfl) dX6_become_51 (fun H locs hP _ hS => ?_)
  refine xQ_16 hP (fun M51 eM51 hP => ?_)
  have h := h M51 eM51
  exact W.vret hx hb hr (fun t ht hW => ⟨⟨M51, rfl, h, xAt_of ht hP⟩, hS.F ht⟩) hS.2.2 dX6_become_54
set_option maxHeartbeats 4000000 in
set_option maxRecDepth 100000 in
theorem kX10_keep (l : Launch) (D : va_G) (cI cZ : ClassId) (ad : Nat → Nat) (zA zD zR : Nat) (hD : ∀ M : Mem, va_D (xA ad) (xW cI cZ ad M)) (M : Mem) (Q : Int32 → Mem → Prop) (h : wX10_keep M Q) : Met l yX10_keep uX10_keep ({ frames := 3, cells := 0, slots := 0, locals := 60 }) (va_Pc [.ref (ad 0)] (xPre D cI cZ ad zA zD zR M)) (va_Qi Q (xAt D cI cZ ad) (xA ad)) 0 0 (xA ad) := by
  refine Met.ofW (cc := cX10_keep) (maxL := 1) (ret := (some .int)) (by decide) rfl ?_
  intro p e s m args below meth c s₁ B hml hv
  obtain ⟨rfl, hP, hK, hZ, hN⟩ := hv
  have hx := B.exec
  have hb := B.bytes
  have hr := B.returns
  have hts := atoms_spec (ws := uX10_keep) B.pre
  have hown : s.vm.findClass RX10 = some m.cls := findClass_of_methodNamed B.named
  have hlocks := B.notSynchronized
  have hS : va_S (xA ad) s.heap s.heap [] := va_S.rf
  have k0 := hts (.fieldLink RX10 16 "TwoEyes" "kept" "LTwoEyes$Scene;") (List.mem_cons_of_mem _ (inA_1 _ (List.mem_of_getElem? (i := 16) rfl)))
  have inX10 : ∀ w ∈ wsX100, w ∈ uX10_keep := fun w h => List.mem_cons_of_mem _ (inCX10 w h)
  have k2 := hts (.fieldLink RX10 10 "TwoEyes" "scene" "LTwoEyes$Scene;") (List.mem_cons_of_mem _ (inA_1 _ (List.mem_of_getElem? (i := 15) rfl)))
  have k3 := hts (.fieldLink RX10 19 "TwoEyes" "anyKept" "Z") (List.mem_cons_of_mem _ (inA_1 _ (List.mem_of_getElem? (i := 17) rfl)))
  have hl := lv_entry ([.ref (ad 0)]) (n := 1) (Nat.le_of_ble_eq_true rfl)
  rw [lg_entry_eq]
  generalize (lg_sl ([.ref (ad 0)]) ++ List.replicate (1 - (lg_sl ([.ref (ad 0)])).length) Slot.unset).toArray = ls at hl ⊢
  have hl : lv_has ls 1 [(0, .ref (ad 0))] := hl
  refine lv_aload_n hx hb dX10_keep_0 rfl (lv_at hl 0 rfl) ?_
  refine va_get (D := D) (ci := 10) (v := .ref (ad 9)) (C := RX10) (T := TX10) (N := 11) hx hb hts inX10 hown hK hP 0 (xW_0 cI cZ ad M) rfl 1 (by decide) k0 (fun _ h9 => h9) rfl dX10_keep_1 ?_
  refine lv_aload_n hx hb dX10_keep_4 rfl (lv_at hl 0 rfl) ?_
  refine va_get (D := D) (ci := 10) (v := .ref (ad 1)) (C := RX10) (T := TX10) (N := 11) hx hb hts inX10 hown hK hP 0 (xW_0 cI cZ ad M) rfl 0 (by decide) k2 (fun _ h9 => h9) rfl dX10_keep_5 ?_
  refine x_callVv (As := [.ref (ad 1)]) (rest := []) ⟨hx, hb, hml, hown, hts⟩ (kX6_become_9_1 l D cI cZ ad zA zD zR hD M _ h) (cwV 1 hts (gdV uS (inA_38 _ (List.mem_of_getElem? (i := 3) rfl)) vX6_become) rfl rfl rfl (by decide +kernel) ⟨Nat.le_of_ble_eq_true rfl, Nat.le_of_ble_eq_true rfl⟩) (va_recv hK hP (ci := 6) (q0 := 9) rfl (xW_9 cI cZ ad M)) hP hK hZ hN hS hl.1 rfl rfl (Nat.le_of_ble_eq_true rfl) dX10_keep_8 (fun M8 H locs h hP hS => ?_)
  refine lv_aload_n hx hb dX10_keep_11 rfl (lv_at hl 0 rfl) ?_
  refine lv_iconst (v := 1) hx hb dX10_keep_12 (by decide) ?_
  refine va_put (D := D) (ci := 10) (v := .int 1) (ty := .boolean) (C := RX10) (T := TX10) (N := 11) hx hb hts inX10 tyX10 tyX10_ok nmX10 hown hK hP (hD M8) hS 0 (xW_0 cI cZ ad M8) rfl 2 (by decide) k3 (fun _ h9 => h9) rfl (by decide +kernel) rfl rfl (Nat.le_of_ble_eq_true rfl) dX10_keep_13 (fun H locs hP _ hS => ?_)
  refine xP_0_2 hP (fun M13 eM13 hP => ?_)
  have h := h M13 eM13
  refine lv_iconst (v := 1) hx hb dX10_keep_16 (by decide) ?_
  exact W.iret (v := 1) hx hb hr (fun t ht hW => ⟨⟨1, M13, rfl, h, xAt_of ht hP⟩, hS.F ht⟩) hS.2.2 dX10_keep_17
set_option maxHeartbeats 4000000 in
set_option maxRecDepth 100000 in
theorem kX4_become_2_10 (l : Launch) (D : va_G) (cI cZ : ClassId) (ad : Nat → Nat) (zA zD zR : Nat) (hD : ∀ M : Mem, va_D (xA ad) (xW cI cZ ad M)) (M : Mem) (Q : Mem → Prop) (h : wX4_become_2_10 M Q) : Met l yX4_become uX4_become ({ frames := 1, cells := 0, slots := 0, locals := 18 }) (va_Pc [.ref (ad 2), .ref (ad 10)] (xPre D cI cZ ad zA zD zR M)) (va_Qv Q (xAt D cI cZ ad) (xA ad)) 0 0 (xA ad) := by
  refine Met.ofW (cc := cX4_become) (maxL := 2) (ret := none) (by decide) rfl ?_
  intro p e s m args below meth c s₁ B hml hv
  obtain ⟨rfl, hP, hK, hZ, hN⟩ := hv
  have hx := B.exec
  have hb := B.bytes
  have hr := B.returns
  have hts := atoms_spec (ws := uX4_become) B.pre
  have hown : s.vm.findClass RX4 = some m.cls := findClass_of_methodNamed B.named
  have hlocks := B.notSynchronized
  have hS : va_S (xA ad) s.heap s.heap [] := va_S.rf
  have k0 := hts (.fieldLink RX4 9 "TwoEyes$Picture" "squares" "[I") (List.mem_cons_of_mem _ (inA_3 _ (List.mem_of_getElem? (i := 15) rfl)))
  have inX4 : ∀ w ∈ wsX40, w ∈ uX4_become := fun w h => List.mem_cons_of_mem _ (inCX4 w h)
  have k2 := hts (.methodLink RX4 25 arraycopyName) (List.mem_cons_of_mem _ (inA_38 _ (List.mem_of_getElem? (i := 12) rfl)))
  have k3 := hts (.native arraycopyName) (List.mem_cons_of_mem _ (inA_12 _ (List.mem_of_getElem? (i := 14) rfl)))
  have k4 := hts (.static arraycopyName) (List.mem_cons_of_mem _ (inA_12 _ (List.mem_of_getElem? (i := 15) rfl)))
  have k5 := hts (.initialized "java/lang/System") (List.mem_cons_of_mem _ (inA_12 _ (List.mem_of_getElem? (i := 16) rfl)))
  have k6 := hts (.fieldLink RX4 15 "TwoEyes$Picture" "missing" "[Z") (List.mem_cons_of_mem _ (inA_3 _ (List.mem_of_getElem? (i := 17) rfl)))
  have hl := lv_entry ([.ref (ad 2), .ref (ad 10)]) (n := 2) (Nat.le_of_ble_eq_true rfl)
  rw [lg_entry_eq]
  generalize (lg_sl ([.ref (ad 2), .ref (ad 10)]) ++ List.replicate (2 - (lg_sl ([.ref (ad 2), .ref (ad 10)])).length) Slot.unset).toArray = ls at hl ⊢
  have hl : lv_has ls 2 [(0, .ref (ad 2)), (1, .ref (ad 10))] := hl
  refine lv_aload_n hx hb dX4_become_0 rfl (lv_at hl 1 rfl) ?_
  refine va_get (D := D) (ci := 4) (v := .ref (ad 11)) (C := RX4) (T := TX4) (N := 2) hx hb hts inX4 hown hK hP 10 (xW_10 cI cZ ad M) rfl 0 (by decide) k0 (fun _ h9 => h9) rfl dX4_become_1 ?_
  refine lv_iconst (v := 0) hx hb dX4_become_4 (by decide) ?_
  refine lv_aload_n hx hb dX4_become_5 rfl (lv_at hl 0 rfl) ?_
  refine va_get (D := D) (ci := 4) (v := .ref (ad 3)) (C := RX4) (T := TX4) (N := 2) hx hb hts inX4 hown hK hP 2 (xW_2 cI cZ ad M) rfl 0 (by decide) k0 (fun _ h9 => h9) rfl dX4_become_6 ?_
  refine lv_iconst (v := 0) hx hb dX4_become_9 (by decide) ?_
  refine lv_sipush (v := 200) hx hb dX4_become_10 (by decide) ?_
  obtain ⟨h113, h213, h313, h413, h513, h⟩ := h
  refine va_copyi hx hb (hml.trans hl.1.symm) hown k2 k3 k4 k5 hK hP (hD M) hS 11 3 0 0 (xW_11 cI cZ ad M) (xW_3 cI cZ ad M) rfl rfl rfl h113 h213 h313 h413 h513 (fun _ _ => rfl) (Nat.le_of_ble_eq_true rfl) (Nat.le_of_ble_eq_true rfl) dX4_become_13 (fun H locs hP _ hS => ?_)
  refine xQ_3 hP (fun M13 eM13 hP => ?_)
  have h := h M13 eM13
  refine lv_aload_n hx hb dX4_become_16 rfl (lv_at hl 1 rfl) ?_
  refine va_get (D := D) (ci := 4) (v := .ref (ad 12)) (C := RX4) (T := TX4) (N := 2) hx hb hts inX4 hown hK hP 10 (xW_10 cI cZ ad M13) rfl 1 (by decide) k6 (fun _ h9 => h9) rfl dX4_become_17 ?_
  refine lv_iconst (v := 0) hx hb dX4_become_20 (by decide) ?_
  refine lv_aload_n hx hb dX4_become_21 rfl (lv_at hl 0 rfl) ?_
  refine va_get (D := D) (ci := 4) (v := .ref (ad 4)) (C := RX4) (T := TX4) (N := 2) hx hb hts inX4 hown hK hP 2 (xW_2 cI cZ ad M13) rfl 1 (by decide) k6 (fun _ h9 => h9) rfl dX4_become_22 ?_
  refine lv_iconst (v := 0) hx hb dX4_become_25 (by decide) ?_
  refine lv_bipush (v := 10) hx hb dX4_become_26 (by decide) ?_
  obtain ⟨h128, h228, h328, h428, h528, h628, h⟩ := h
  refine va_copyi hx hb (hml.trans hl.1.symm) hown k2 k3 k4 k5 hK hP (hD M13) hS 12 4 1 1 (xW_12 cI cZ ad M13) (xW_4 cI cZ ad M13) rfl rfl rfl h128 h228 h328 h428 h528 (fun j hj => zfit (h628 _ (Nat.add_lt_add_left hj _))) (Nat.le_of_ble_eq_true rfl) (Nat.le_of_ble_eq_true rfl) dX4_become_28 (fun H locs hP _ hS => ?_)
  refine xQ_4 hP (fun M28 eM28 hP => ?_)
  have h := h M28 eM28
  exact W.vret hx hb hr (fun t ht hW => ⟨⟨M28, rfl, h, xAt_of ht hP⟩, hS.F ht⟩) hS.2.2 dX4_become_31
set_option maxHeartbeats 4000000 in
set_option maxRecDepth 100000 in
theorem kX4_become_5_13 (l : Launch) (D : va_G) (cI cZ : ClassId) (ad : Nat → Nat) (zA zD zR : Nat) (hD : ∀ M : Mem, va_D (xA ad) (xW cI cZ ad M)) (M : Mem) (Q : Mem → Prop) (h : wX4_become_5_13 M Q) : Met l yX4_become uX4_become ({ frames := 1, cells := 0, slots := 0, locals := 18 }) (va_Pc [.ref (ad 5), .ref (ad 13)] (xPre D cI cZ ad zA zD zR M)) (va_Qv Q (xAt D cI cZ ad) (xA ad)) 0 0 (xA ad) := by
  refine Met.ofW (cc := cX4_become) (maxL := 2) (ret := none) (by decide) rfl ?_
  intro p e s m args below meth c s₁ B hml hv
  obtain ⟨rfl, hP, hK, hZ, hN⟩ := hv
  have hx := B.exec
  have hb := B.bytes
  have hr := B.returns
  have hts := atoms_spec (ws := uX4_become) B.pre
  have hown : s.vm.findClass RX4 = some m.cls := findClass_of_methodNamed B.named
  have hlocks := B.notSynchronized
  have hS : va_S (xA ad) s.heap s.heap [] := va_S.rf
  have k0 := hts (.fieldLink RX4 9 "TwoEyes$Picture" "squares" "[I") (List.mem_cons_of_mem _ (inA_3 _ (List.mem_of_getElem? (i := 15) rfl)))
  have inX4 : ∀ w ∈ wsX40, w ∈ uX4_become := fun w h => List.mem_cons_of_mem _ (inCX4 w h)
  have k2 := hts (.methodLink RX4 25 arraycopyName) (List.mem_cons_of_mem _ (inA_38 _ (List.mem_of_getElem? (i := 12) rfl)))
  have k3 := hts (.native arraycopyName) (List.mem_cons_of_mem _ (inA_12 _ (List.mem_of_getElem? (i := 14) rfl)))
  have k4 := hts (.static arraycopyName) (List.mem_cons_of_mem _ (inA_12 _ (List.mem_of_getElem? (i := 15) rfl)))
  have k5 := hts (.initialized "java/lang/System") (List.mem_cons_of_mem _ (inA_12 _ (List.mem_of_getElem? (i := 16) rfl)))
  have k6 := hts (.fieldLink RX4 15 "TwoEyes$Picture" "missing" "[Z") (List.mem_cons_of_mem _ (inA_3 _ (List.mem_of_getElem? (i := 17) rfl)))
  have hl := lv_entry ([.ref (ad 5), .ref (ad 13)]) (n := 2) (Nat.le_of_ble_eq_true rfl)
  rw [lg_entry_eq]
  generalize (lg_sl ([.ref (ad 5), .ref (ad 13)]) ++ List.replicate (2 - (lg_sl ([.ref (ad 5), .ref (ad 13)])).length) Slot.unset).toArray = ls at hl ⊢
  have hl : lv_has ls 2 [(0, .ref (ad 5)), (1, .ref (ad 13))] := hl
  refine lv_aload_n hx hb dX4_become_0 rfl (lv_at hl 1 rfl) ?_
  refine va_get (D := D) (ci := 4) (v := .ref (ad 14)) (C := RX4) (T := TX4) (N := 2) hx hb hts inX4 hown hK hP 13 (xW_13 cI cZ ad M) rfl 0 (by decide) k0 (fun _ h9 => h9) rfl dX4_become_1 ?_
  refine lv_iconst (v := 0) hx hb dX4_become_4 (by decide) ?_
  refine lv_aload_n hx hb dX4_become_5 rfl (lv_at hl 0 rfl) ?_
  refine va_get (D := D) (ci := 4) (v := .ref (ad 6)) (C := RX4) (T := TX4) (N := 2) hx hb hts inX4 hown hK hP 5 (xW_5 cI cZ ad M) rfl 0 (by decide) k0 (fun _ h9 => h9) rfl dX4_become_6 ?_
  refine lv_iconst (v := 0) hx hb dX4_become_9 (by decide) ?_
  refine lv_sipush (v := 200) hx hb dX4_become_10 (by decide) ?_
  obtain ⟨h113, h213, h313, h413, h513, h⟩ := h
  refine va_copyi hx hb (hml.trans hl.1.symm) hown k2 k3 k4 k5 hK hP (hD M) hS 14 6 0 0 (xW_14 cI cZ ad M) (xW_6 cI cZ ad M) rfl rfl rfl h113 h213 h313 h413 h513 (fun _ _ => rfl) (Nat.le_of_ble_eq_true rfl) (Nat.le_of_ble_eq_true rfl) dX4_become_13 (fun H locs hP _ hS => ?_)
  refine xQ_6 hP (fun M13 eM13 hP => ?_)
  have h := h M13 eM13
  refine lv_aload_n hx hb dX4_become_16 rfl (lv_at hl 1 rfl) ?_
  refine va_get (D := D) (ci := 4) (v := .ref (ad 15)) (C := RX4) (T := TX4) (N := 2) hx hb hts inX4 hown hK hP 13 (xW_13 cI cZ ad M13) rfl 1 (by decide) k6 (fun _ h9 => h9) rfl dX4_become_17 ?_
  refine lv_iconst (v := 0) hx hb dX4_become_20 (by decide) ?_
  refine lv_aload_n hx hb dX4_become_21 rfl (lv_at hl 0 rfl) ?_
  refine va_get (D := D) (ci := 4) (v := .ref (ad 7)) (C := RX4) (T := TX4) (N := 2) hx hb hts inX4 hown hK hP 5 (xW_5 cI cZ ad M13) rfl 1 (by decide) k6 (fun _ h9 => h9) rfl dX4_become_22 ?_
  refine lv_iconst (v := 0) hx hb dX4_become_25 (by decide) ?_
  refine lv_bipush (v := 10) hx hb dX4_become_26 (by decide) ?_
  obtain ⟨h128, h228, h328, h428, h528, h628, h⟩ := h
  refine va_copyi hx hb (hml.trans hl.1.symm) hown k2 k3 k4 k5 hK hP (hD M13) hS 15 7 1 1 (xW_15 cI cZ ad M13) (xW_7 cI cZ ad M13) rfl rfl rfl h128 h228 h328 h428 h528 (fun j hj => zfit (h628 _ (Nat.add_lt_add_left hj _))) (Nat.le_of_ble_eq_true rfl) (Nat.le_of_ble_eq_true rfl) dX4_become_28 (fun H locs hP _ hS => ?_)
  refine xQ_7 hP (fun M28 eM28 hP => ?_)
  have h := h M28 eM28
  exact W.vret hx hb hr (fun t ht hW => ⟨⟨M28, rfl, h, xAt_of ht hP⟩, hS.F ht⟩) hS.2.2 dX4_become_31
set_option maxHeartbeats 4000000 in
set_option maxRecDepth 100000 in
theorem kX6_become_1_9 (l : Launch) (D : va_G) (cI cZ : ClassId) (ad : Nat → Nat) (zA zD zR : Nat) (hD : ∀ M : Mem, va_D (xA ad) (xW cI cZ ad M)) (M : Mem) (Q : Mem → Prop) (h : wX6_become_1_9 M Q) : Met l yX6_become uX6_become ({ frames := 2, cells := 0, slots := 0, locals := 39 }) (va_Pc [.ref (ad 1), .ref (ad 9)] (xPre D cI cZ ad zA zD zR M)) (va_Qv Q (xAt D cI cZ ad) (xA ad)) 0 0 (xA ad) := by
  refine Met.ofW (cc := cX6_become) (maxL := 2) (ret := none) (by decide) rfl ?_
  intro p e s m args below meth c s₁ B hml hv
  obtain ⟨rfl, hP, hK, hZ, hN⟩ := hv
  have hx := B.exec
  have hb := B.bytes
  have hr := B.returns
  have hts := atoms_spec (ws := uX6_become) B.pre
  have hown : s.vm.findClass RX6 = some m.cls := findClass_of_methodNamed B.named
  have hlocks := B.notSynchronized
  have hS : va_S (xA ad) s.heap s.heap [] := va_S.rf
  have k0 := hts (.fieldLink RX6 9 "TwoEyes$Scene" "width" "I") (List.mem_cons_of_mem _ (inA_3 _ (List.mem_of_getElem? (i := 4) rfl)))
  have inX6 : ∀ w ∈ wsX60, w ∈ uX6_become := fun w h => List.mem_cons_of_mem _ (inCX6 w h)
  have k2 := hts (.fieldLink RX6 15 "TwoEyes$Scene" "height" "I") (List.mem_cons_of_mem _ (inA_3 _ (List.mem_of_getElem? (i := 5) rfl)))
  have k3 := hts (.fieldLink RX6 21 "TwoEyes$Scene" "left" "LTwoEyes$Picture;") (List.mem_cons_of_mem _ (inA_3 _ (List.mem_of_getElem? (i := 9) rfl)))
  have k4 := hts (.fieldLink RX6 25 "TwoEyes$Scene" "right" "LTwoEyes$Picture;") (List.mem_cons_of_mem _ (inA_3 _ (List.mem_of_getElem? (i := 10) rfl)))
  have k5 := hts (.fieldLink RX6 28 "TwoEyes$Scene" "truth" "[I") (List.mem_cons_of_mem _ (inA_3 _ (List.mem_of_getElem? (i := 11) rfl)))
  have k6 := hts (.methodLink RX6 45 arraycopyName) (List.mem_cons_of_mem _ (inA_38 _ (List.mem_of_getElem? (i := 7) rfl)))
  have k7 := hts (.native arraycopyName) (List.mem_cons_of_mem _ (inA_12 _ (List.mem_of_getElem? (i := 14) rfl)))
  have k8 := hts (.static arraycopyName) (List.mem_cons_of_mem _ (inA_12 _ (List.mem_of_getElem? (i := 15) rfl)))
  have k9 := hts (.initialized "java/lang/System") (List.mem_cons_of_mem _ (inA_12 _ (List.mem_of_getElem? (i := 16) rfl)))
  have hl := lv_entry ([.ref (ad 1), .ref (ad 9)]) (n := 2) (Nat.le_of_ble_eq_true rfl)
  rw [lg_entry_eq]
  generalize (lg_sl ([.ref (ad 1), .ref (ad 9)]) ++ List.replicate (2 - (lg_sl ([.ref (ad 1), .ref (ad 9)])).length) Slot.unset).toArray = ls at hl ⊢
  have hl : lv_has ls 2 [(0, .ref (ad 1)), (1, .ref (ad 9))] := hl
  refine lv_aload_n hx hb dX6_become_0 rfl (lv_at hl 0 rfl) ?_
  refine lv_aload_n hx hb dX6_become_1 rfl (lv_at hl 1 rfl) ?_
  refine va_get (D := D) (ci := 6) (v := .int (M 9 0)) (C := RX6) (T := TX6) (N := 5) hx hb hts inX6 hown hK hP 9 (xW_9 cI cZ ad M) rfl 0 (by decide) k0 (fun _ h9 => h9) rfl dX6_become_2 ?_
  refine va_put (D := D) (ci := 6) (v := .int (M 9 0)) (ty := .int) (C := RX6) (T := TX6) (N := 5) hx hb hts inX6 tyX6 tyX6_ok nmX6 hown hK hP (hD M) hS 1 (xW_1 cI cZ ad M) rfl 0 (by decide) k0 (fun _ h9 => h9) rfl (by decide +kernel) rfl rfl (Nat.le_of_ble_eq_true rfl) dX6_become_5 (fun H locs hP _ hS => ?_)
  refine xP_1_0 hP (fun M5 eM5 hP => ?_)
  have h := h M5 eM5
  refine lv_aload_n hx hb dX6_become_8 rfl (lv_at hl 0 rfl) ?_
  refine lv_aload_n hx hb dX6_become_9 rfl (lv_at hl 1 rfl) ?_
  refine va_get (D := D) (ci := 6) (v := .int (M5 9 1)) (C := RX6) (T := TX6) (N := 5) hx hb hts inX6 hown hK hP 9 (xW_9 cI cZ ad M5) rfl 1 (by decide) k2 (fun _ h9 => h9) rfl dX6_become_10 ?_
  refine va_put (D := D) (ci := 6) (v := .int (M5 9 1)) (ty := .int) (C := RX6) (T := TX6) (N := 5) hx hb hts inX6 tyX6 tyX6_ok nmX6 hown hK hP (hD M5) hS 1 (xW_1 cI cZ ad M5) rfl 1 (by decide) k2 (fun _ h9 => h9) rfl (by decide +kernel) rfl rfl (Nat.le_of_ble_eq_true rfl) dX6_become_13 (fun H locs hP _ hS => ?_)
  refine xP_1_1 hP (fun M13 eM13 hP => ?_)
  have h := h M13 eM13
  refine lv_aload_n hx hb dX6_become_16 rfl (lv_at hl 0 rfl) ?_
  refine va_get (D := D) (ci := 6) (v := .ref (ad 2)) (C := RX6) (T := TX6) (N := 5) hx hb hts inX6 hown hK hP 1 (xW_1 cI cZ ad M13) rfl 2 (by decide) k3 (fun _ h9 => h9) rfl dX6_become_17 ?_
  refine lv_aload_n hx hb dX6_become_20 rfl (lv_at hl 1 rfl) ?_
  refine va_get (D := D) (ci := 6) (v := .ref (ad 10)) (C := RX6) (T := TX6) (N := 5) hx hb hts inX6 hown hK hP 9 (xW_9 cI cZ ad M13) rfl 2 (by decide) k3 (fun _ h9 => h9) rfl dX6_become_21 ?_
  refine x_callVv (As := [.ref (ad 10)]) (rest := []) ⟨hx, hb, hml, hown, hts⟩ (kX4_become_2_10 l D cI cZ ad zA zD zR hD M13 _ h) (cwV 1 hts (gdV uS (inA_38 _ (List.mem_of_getElem? (i := 8) rfl)) vX4_become) rfl rfl rfl (by decide +kernel) ⟨Nat.le_of_ble_eq_true rfl, Nat.le_of_ble_eq_true rfl⟩) (va_recv hK hP (ci := 4) (q0 := 2) rfl (xW_2 cI cZ ad M13)) hP hK hZ hN hS hl.1 rfl rfl (Nat.le_of_ble_eq_true rfl) dX6_become_24 (fun M24 H locs h hP hS => ?_)
  refine lv_aload_n hx hb dX6_become_27 rfl (lv_at hl 0 rfl) ?_
  refine va_get (D := D) (ci := 6) (v := .ref (ad 5)) (C := RX6) (T := TX6) (N := 5) hx hb hts inX6 hown hK hP 1 (xW_1 cI cZ ad M24) rfl 3 (by decide) k4 (fun _ h9 => h9) rfl dX6_become_28 ?_
  refine lv_aload_n hx hb dX6_become_31 rfl (lv_at hl 1 rfl) ?_
  refine va_get (D := D) (ci := 6) (v := .ref (ad 13)) (C := RX6) (T := TX6) (N := 5) hx hb hts inX6 hown hK hP 9 (xW_9 cI cZ ad M24) rfl 3 (by decide) k4 (fun _ h9 => h9) rfl dX6_become_32 ?_
  refine x_callVv (As := [.ref (ad 13)]) (rest := []) ⟨hx, hb, hml, hown, hts⟩ (kX4_become_5_13 l D cI cZ ad zA zD zR hD M24 _ h) (cwV 1 hts (gdV uS (inA_38 _ (List.mem_of_getElem? (i := 8) rfl)) vX4_become) rfl rfl rfl (by decide +kernel) ⟨Nat.le_of_ble_eq_true rfl, Nat.le_of_ble_eq_true rfl⟩) (va_recv hK hP (ci := 4) (q0 := 5) rfl (xW_5 cI cZ ad M24)) hP hK hZ hN hS hl.1 rfl rfl (Nat.le_of_ble_eq_true rfl) dX6_become_35 (fun M35 H locs h hP hS => ?_)
  refine lv_aload_n hx hb dX6_become_38 rfl (lv_at hl 1 rfl) ?_
  refine va_get (D := D) (ci := 6) (v := .ref (ad 16)) (C := RX6) (T := TX6) (N := 5) hx hb hts inX6 hown hK hP 9 (xW_9 cI cZ ad M35) rfl 4 (by decide) k5 (fun _ h9 => h9) rfl dX6_become_39 ?_
  refine lv_iconst (v := 0) hx hb dX6_become_42 (by decide) ?_
  refine lv_aload_n hx hb dX6_become_43 rfl (lv_at hl 0 rfl) ?_
  refine va_get (D := D) (ci := 6) (v := .ref (ad 8)) (C := RX6) (T := TX6) (N := 5) hx hb hts inX6 hown hK hP 1 (xW_1 cI cZ ad M35) rfl 4 (by decide) k5 (fun _ h9 => h9) rfl dX6_become_44 ?_
  refine lv_iconst (v := 0) hx hb dX6_become_47 (by decide) ?_
  refine lv_sipush (v := 200) hx hb dX6_become_48 (by decide) ?_
  obtain ⟨h151, h251, h351, h451, h551, h⟩ := h
  refine va_copyi hx hb (hml.trans hl.1.symm) hown k6 k7 k8 k9 hK hP (hD M35) hS 16 8 0 0 (xW_16 cI cZ ad M35) (xW_8 cI cZ ad M35) rfl rfl rfl h151 h251 h351 h451 h551 (fun _ _ => rfl) (Nat.le_of_ble_eq_true rfl) (Nat.le_of_ble_eq_true rfl) dX6_become_51 (fun H locs hP _ hS => ?_)
  refine xQ_8 hP (fun M51 eM51 hP => ?_)
  have h := h M51 eM51
  exact W.vret hx hb hr (fun t ht hW => ⟨⟨M51, rfl, h, xAt_of ht hP⟩, hS.F ht⟩) hS.2.2 dX6_become_54
set_option maxHeartbeats 4000000 in
set_option maxRecDepth 100000 in
theorem kX10_back (l : Launch) (D : va_G) (cI cZ : ClassId) (ad : Nat → Nat) (zA zD zR : Nat) (hD : ∀ M : Mem, va_D (xA ad) (xW cI cZ ad M)) (M : Mem) (Q : Int32 → Mem → Prop) (h : wX10_back M Q) : Met l yX10_back uX10_back ({ frames := 3, cells := 0, slots := 0, locals := 63 }) (va_Pc [.ref (ad 0)] (xPre D cI cZ ad zA zD zR M)) (va_Qi Q (xAt D cI cZ ad) (xA ad)) 0 0 (xA ad) := by
  refine Met.ofW (cc := cX10_back) (maxL := 1) (ret := (some .int)) (by decide) rfl ?_
  intro p e s m args below meth c s₁ B hml hv
  obtain ⟨rfl, hP, hK, hZ, hN⟩ := hv
  have hx := B.exec
  have hb := B.bytes
  have hr := B.returns
  have hts := atoms_spec (ws := uX10_back) B.pre
  have hown : s.vm.findClass RX10 = some m.cls := findClass_of_methodNamed B.named
  have hlocks := B.notSynchronized
  have hS : va_S (xA ad) s.heap s.heap [] := va_S.rf
  have k0 := hts (.fieldLink RX10 19 "TwoEyes" "anyKept" "Z") (List.mem_cons_of_mem _ (inA_1 _ (List.mem_of_getElem? (i := 17) rfl)))
  have inX10 : ∀ w ∈ wsX100, w ∈ uX10_back := fun w h => List.mem_cons_of_mem _ (inCX10 w h)
  have k2 := hts (.fieldLink RX10 10 "TwoEyes" "scene" "LTwoEyes$Scene;") (List.mem_cons_of_mem _ (inA_1 _ (List.mem_of_getElem? (i := 15) rfl)))
  have k3 := hts (.fieldLink RX10 16 "TwoEyes" "kept" "LTwoEyes$Scene;") (List.mem_cons_of_mem _ (inA_1 _ (List.mem_of_getElem? (i := 16) rfl)))
  have hl := lv_entry ([.ref (ad 0)]) (n := 1) (Nat.le_of_ble_eq_true rfl)
  rw [lg_entry_eq]
  generalize (lg_sl ([.ref (ad 0)]) ++ List.replicate (1 - (lg_sl ([.ref (ad 0)])).length) Slot.unset).toArray = ls at hl ⊢
  have hl : lv_has ls 1 [(0, .ref (ad 0))] := hl
  refine lv_aload_n hx hb dX10_back_0 rfl (lv_at hl 0 rfl) ?_
  refine va_get (D := D) (ci := 10) (v := .int (M 0 2)) (C := RX10) (T := TX10) (N := 11) hx hb hts inX10 hown hK hP 0 (xW_0 cI cZ ad M) rfl 2 (by decide) k0 (fun _ h9 => h9) rfl dX10_back_1 ?_
  refine lv_if_ne (tgt := 10) hx hb dX10_back_4 (by decide) (fun q4 => ?_) (fun q4 => ?_)
  · have h := h.1 q4
    refine lv_aload_n hx hb dX10_back_10 rfl (lv_at hl 0 rfl) ?_
    refine va_get (D := D) (ci := 10) (v := .ref (ad 1)) (C := RX10) (T := TX10) (N := 11) hx hb hts inX10 hown hK hP 0 (xW_0 cI cZ ad M) rfl 0 (by decide) k2 (fun _ h9 => h9) rfl dX10_back_11 ?_
    refine lv_aload_n hx hb dX10_back_14 rfl (lv_at hl 0 rfl) ?_
    refine va_get (D := D) (ci := 10) (v := .ref (ad 9)) (C := RX10) (T := TX10) (N := 11) hx hb hts inX10 hown hK hP 0 (xW_0 cI cZ ad M) rfl 1 (by decide) k3 (fun _ h9 => h9) rfl dX10_back_15 ?_
    refine x_callVv (As := [.ref (ad 9)]) (rest := []) ⟨hx, hb, hml, hown, hts⟩ (kX6_become_1_9 l D cI cZ ad zA zD zR hD M _ h) (cwV 1 hts (gdV uS (inA_38 _ (List.mem_of_getElem? (i := 3) rfl)) vX6_become) rfl rfl rfl (by decide +kernel) ⟨Nat.le_of_ble_eq_true rfl, Nat.le_of_ble_eq_true rfl⟩) (va_recv hK hP (ci := 6) (q0 := 1) rfl (xW_1 cI cZ ad M)) hP hK hZ hN hS hl.1 rfl rfl (Nat.le_of_ble_eq_true rfl) dX10_back_18 (fun M18 H locs h hP hS => ?_)
    refine lv_aload_n hx hb dX10_back_21 rfl (lv_at hl 0 rfl) ?_
    refine x_callVv (As := []) (rest := []) ⟨hx, hb, hml, hown, hts⟩ (kX10_forgetAll l D cI cZ ad zA zD zR hD M18 _ h) (cwV 0 hts (gdV uS (inA_8 _ (List.mem_of_getElem? (i := 8) rfl)) vX10_forgetAll) rfl rfl rfl (by decide +kernel) ⟨Nat.le_of_ble_eq_true rfl, Nat.le_of_ble_eq_true rfl⟩) (va_recv hK hP (ci := 10) (q0 := 0) rfl (xW_0 cI cZ ad M18)) hP hK hZ hN hS hl.1 rfl rfl (Nat.le_of_ble_eq_true rfl) dX10_back_22 (fun M22 H locs h hP hS => ?_)
    refine lv_iconst (v := 1) hx hb dX10_back_25 (by decide) ?_
    exact W.iret (v := 1) hx hb hr (fun t ht hW => ⟨⟨1, M22, rfl, h, xAt_of ht hP⟩, hS.F ht⟩) hS.2.2 dX10_back_26
  · have h := h.2 q4
    refine lv_bipush (v := (-4)) hx hb dX10_back_7 (by decide) ?_
    exact W.iret (v := (-4)) hx hb hr (fun t ht hW => ⟨⟨(-4), M, rfl, h, xAt_of ht hP⟩, hS.F ht⟩) hS.2.2 dX10_back_9
