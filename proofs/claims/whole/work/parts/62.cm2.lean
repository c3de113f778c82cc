abbrev GX11_plane (p : Program) (l : Launch) (e : Env) (s : State) (m : MethodId) (below : List Frame) (meth : Method) (c : Code) (D : va_G) (cI cZ : ClassId) (ad : Nat → Nat) (a1 a2 a3 : Int32) (Q : Int32 → Mem → Prop) (H : Heap) (locs : List Loc) (g : JFrame) : Prop := W p l e (headSpec uX11_plane { frames := 6, cells := 0, slots := 0, locals := 147 }).room s m ([.ref (ad 0), .int a1, .int a2, .int a3] : List Value).toArray below meth c H locs 0 0 (MQ below (va_Qi Q (mAt D cI cZ ad) (mA ad)) ([.ref (ad 0), .int a1, .int a2, .int a3] : List Value).toArray s 0 0 (mA ad)) g
set_option maxHeartbeats 4000000 in
set_option maxRecDepth 100000 in
theorem kX11_plane (l : Launch) (D : va_G) (cI cZ : ClassId) (ad : Nat → Nat) (hD : ∀ M : Mem, va_D (mA ad) (mW cI cZ ad M)) (M : Mem) (a1 a2 a3 : Int32) (Q : Int32 → Mem → Prop) (h : wX11_plane M a1 a2 a3 Q) : Met l yX11_plane uX11_plane ({ frames := 6, cells := 0, slots := 0, locals := 147 }) (va_Pc [.ref (ad 0), .int a1, .int a2, .int a3] (mPre D cI cZ ad M)) (va_Qi Q (mAt D cI cZ ad) (mA ad)) 0 0 (mA ad) := by
  refine Met.ofW (cc := cX11_plane) (maxL := 13) (ret := (some .int)) (by decide) rfl ?_
  intro p e s m args below meth c s₁ B hml hv
  obtain ⟨rfl, hP, hK⟩ := hv
  have hx := B.exec
  have hb := B.bytes
  have hr := B.returns
  have hts := atoms_spec (ws := uX11_plane) B.pre
  have hown : s.vm.findClass RX11 = some m.cls := findClass_of_methodNamed B.named
  have hlocks := B.notSynchronized
  have hS : va_S (mA ad) s.heap s.heap [] := va_S.rf
  have k0 := hts (.fieldLink RX11 30 "TwoEyesModel" "rules" "[I") (List.mem_cons_of_mem _ (inA_7 _ (List.mem_of_getElem? (i := 0) rfl)))
  have inX11 : ∀ w ∈ wsX110, w ∈ uX11_plane := fun w h => List.mem_cons_of_mem _ (inCX11 w h)
  have k2 := hts (.fieldLink RX11 7 "TwoEyesModel" "width" "I") (List.mem_cons_of_mem _ (inA_6 _ (List.mem_of_getElem? (i := 18) rfl)))
  have J111 : ∀ (B : Int32 → Int32 → Int32 → Int32 → Int32 → Int32 → Int32 → Int32 → Int32 → Int32 → Int32 → Mem → Prop) (K133 : Int32 → Int32 → Int32 → Int32 → Int32 → Int32 → Int32 → Int32 → Int32 → Int32 → Mem → Prop), (∀ (x1 x2 x3 x4 x5 x6 x7 x8 x9 x10 x11 : Int32) (M : Mem) (H : Heap) (locs : List Loc) (ls : Array Slot), lv_has ls 13 [(0, .ref (ad 0)), (1, .int x1), (2, .int x2), (3, .int x3), (4, .int x4), (5, .int x5), (6, .int x6), (7, .int x7), (8, .int x8), (9, .int x9), (10, .int x10), (11, .int x11)] → va_P D vwCl (mW cI cZ ad M) H → va_S (mA ad) s.heap H locs → B x1 x2 x3 x4 x5 x6 x7 x8 x9 x10 x11 M → GX11_plane p l e s m below meth c D cI cZ ad a1 a2 a3 Q H locs (F0 m 79 ls [])) → (∀ (x1 x2 x3 x4 x5 x6 x7 x8 x9 x10 : Int32) (M : Mem) (H : Heap) (locs : List Loc) (ls : Array Slot), lv_has ls 13 [(0, .ref (ad 0)), (1, .int x1), (2, .int x2), (3, .int x3), (4, .int x4), (5, .int x5), (6, .int x6), (7, .int x7), (8, .int x8), (9, .int x9), (10, .int x10)] → va_P D vwCl (mW cI cZ ad M) H → va_S (mA ad) s.heap H locs → K133 x1 x2 x3 x4 x5 x6 x7 x8 x9 x10 M → GX11_plane p l e s m below meth c D cI cZ ad a1 a2 a3 Q H locs (F0 m 133 ls [])) → ∀ (x1 x2 x3 x4 x9 x10 x11 x12 : Int32) (M : Mem) (H : Heap) (locs : List Loc) (ls : Array Slot), lv_has ls 13 [(0, .ref (ad 0)), (1, .int x1), (2, .int x2), (3, .int x3), (4, .int x4), (9, .int x9), (10, .int x10), (11, .int x11), (12, .int x12)] → va_P D vwCl (mW cI cZ ad M) H → va_S (mA ad) s.heap H locs → wX11_plane_J111 B K133 Q x1 x2 x3 x4 x9 x10 x11 x12 M → GX11_plane p l e s m below meth c D cI cZ ad a1 a2 a3 Q H locs (F0 m 111 ls []) := by
    intro B K133 hB hK133 x1 x2 x3 x4 x9 x10 x11 x12 M H locs ls hl hP hS h
    refine lv_iload hx hb dX11_plane_111 (lv_at hl 8 rfl) ?_
    refine lv_istore (lv' := [(5, .int x12), (0, .ref (ad 0)), (1, .int x1), (2, .int x2), (3, .int x3), (4, .int x4), (9, .int x9), (10, .int x10), (11, .int x11), (12, .int x12)]) hx hb dX11_plane_113 hl (by decide) rfl (fun ls hl => ?_)
    refine lv_iload hx hb dX11_plane_115 (lv_at hl 6 rfl) ?_
    refine lv_istore (lv' := [(6, .int x9), (5, .int x12), (0, .ref (ad 0)), (1, .int x1), (2, .int x2), (3, .int x3), (4, .int x4), (9, .int x9), (10, .int x10), (11, .int x11), (12, .int x12)]) hx hb dX11_plane_117 hl (by decide) rfl (fun ls hl => ?_)
    refine lv_iload hx hb dX11_plane_119 (lv_at hl 8 rfl) ?_
    refine lv_istore (lv' := [(7, .int x10), (6, .int x9), (5, .int x12), (0, .ref (ad 0)), (1, .int x1), (2, .int x2), (3, .int x3), (4, .int x4), (9, .int x9), (10, .int x10), (11, .int x11), (12, .int x12)]) hx hb dX11_plane_121 hl (by decide) rfl (fun ls hl => ?_)
    refine lv_iload hx hb dX11_plane_123 (lv_at hl 10 rfl) ?_
    refine lv_istore (lv' := [(8, .int x11), (7, .int x10), (6, .int x9), (5, .int x12), (0, .ref (ad 0)), (1, .int x1), (2, .int x2), (3, .int x3), (4, .int x4), (9, .int x9), (10, .int x10), (11, .int x11), (12, .int x12)]) hx hb dX11_plane_125 hl (by decide) rfl (fun ls hl => ?_)
    obtain ⟨x11_127, ex11_127⟩ : ∃ y : Int32, y = x11 + 1 := ⟨_, rfl⟩
    have h := h x11_127 ex11_127
    refine lv_iinc (v := x11_127) (lv' := [(11, .int x11_127), (8, .int x11), (7, .int x10), (6, .int x9), (5, .int x12), (0, .ref (ad 0)), (1, .int x1), (2, .int x2), (3, .int x3), (4, .int x4), (9, .int x9), (10, .int x10), (12, .int x12)]) hx hb dX11_plane_127 hl (k := 11) rfl (by rw [ex11_127]; rfl) (by decide) rfl (fun ls hl => ?_)
    refine lv_goto (tgt := 79) hx hb dX11_plane_130 (by decide) ?_
    exact hB x1 x2 x3 x4 x12 x9 x10 x11 x9 x10 x11_127 M _ _ _ (lv_sub hl [5, 6, 7, 8, 9, 4, 3, 2, 1, 10, 11, 0] rfl) hP hS h
  have L79 : ∀ (K133 : Int32 → Int32 → Int32 → Int32 → Int32 → Int32 → Int32 → Int32 → Int32 → Int32 → Mem → Prop), (∀ (x1 x2 x3 x4 x5 x6 x7 x8 x9 x10 : Int32) (M : Mem) (H : Heap) (locs : List Loc) (ls : Array Slot), lv_has ls 13 [(0, .ref (ad 0)), (1, .int x1), (2, .int x2), (3, .int x3), (4, .int x4), (5, .int x5), (6, .int x6), (7, .int x7), (8, .int x8), (9, .int x9), (10, .int x10)] → va_P D vwCl (mW cI cZ ad M) H → va_S (mA ad) s.heap H locs → K133 x1 x2 x3 x4 x5 x6 x7 x8 x9 x10 M → GX11_plane p l e s m below meth c D cI cZ ad a1 a2 a3 Q H locs (F0 m 133 ls [])) → ∀ n : Nat, ∀ (x1 x2 x3 x4 x5 x6 x7 x8 x9 x10 x11 : Int32) (M : Mem) (H : Heap) (locs : List Loc) (ls : Array Slot), lv_has ls 13 [(0, .ref (ad 0)), (1, .int x1), (2, .int x2), (3, .int x3), (4, .int x4), (5, .int x5), (6, .int x6), (7, .int x7), (8, .int x8), (9, .int x9), (10, .int x10), (11, .int x11)] → va_P D vwCl (mW cI cZ ad M) H → va_S (mA ad) s.heap H locs → wX11_plane_L79 K133 Q n x1 x2 x3 x4 x5 x6 x7 x8 x9 x10 x11 M → GX11_plane p l e s m below meth c D cI cZ ad a1 a2 a3 Q H locs (F0 m 79 ls []) := by
    intro K133 hK133 n
    induction n with
    | zero => intro x1 x2 x3 x4 x5 x6 x7 x8 x9 x10 x11 M H locs ls hl hP hS h; exact (show False from h).elim
    | succ n hB =>
      intro x1 x2 x3 x4 x5 x6 x7 x8 x9 x10 x11 M H locs ls hl hP hS h
      rw [wX11_plane_L79_s] at h
      refine lv_iload hx hb dX11_plane_79 (lv_at hl 11 rfl) ?_
      refine lv_iconst (v := 2) hx hb dX11_plane_81 (by decide) ?_
      refine lv_icmp_gt (tgt := 133) hx hb dX11_plane_82 (by decide) (fun q82 => ?_) (fun q82 => ?_)
      · have h := h.1 q82
        exact hK133 x1 x2 x3 x4 x5 x6 x7 x8 x9 x10 M _ _ _ (lv_sub hl [0, 1, 2, 3, 4, 5, 6, 7, 8, 9, 10] rfl) hP hS h
      · have h := h.2 q82
        refine lv_aload_n hx hb dX11_plane_85 rfl (lv_at hl 0 rfl) ?_
        refine lv_iload hx hb dX11_plane_86 (lv_at hl 4 rfl) ?_
        refine lv_iload hx hb dX11_plane_88 (lv_at hl 9 rfl) ?_
        refine lv_iload hx hb dX11_plane_90 (lv_at hl 10 rfl) ?_
        refine lv_iload hx hb dX11_plane_92 (lv_at hl 11 rfl) ?_
        refine m_callVi (As := [.int x4, .int x9, .int x10, .int x11]) (rest := []) ⟨hx, hb, hml, hown, hts⟩ (kX11_planeCost l D cI cZ ad hD M x4 x9 x10 x11 _ h) (cwV 4 hts (gdV uS (inA_32 _ (List.mem_of_getElem? (i := 4) rfl)) vX11_planeCost) rfl rfl rfl (by decide +kernel) ⟨Nat.le_of_ble_eq_true rfl, Nat.le_of_ble_eq_true rfl⟩) (va_recv hK hP (ci := 11) (q0 := 0) rfl (mW_0 cI cZ ad M)) hP hK hS hl.1 rfl rfl (Nat.le_of_ble_eq_true rfl) dX11_plane_94 (fun r94 M94 H locs h hP hS => ?_)
        refine lv_istore (lv' := [(12, .int r94), (0, .ref (ad 0)), (1, .int x1), (2, .int x2), (3, .int x3), (4, .int x4), (5, .int x5), (6, .int x6), (7, .int x7), (8, .int x8), (9, .int x9), (10, .int x10), (11, .int x11)]) hx hb dX11_plane_97 hl (by decide) rfl (fun ls hl => ?_)
        refine lv_iload hx hb dX11_plane_99 (lv_at hl 6 rfl) ?_
        refine lv_if_lt (tgt := 111) hx hb dX11_plane_101 (by decide) (fun q101 => ?_) (fun q101 => ?_)
        · have h := h.1 q101
          exact J111 _ K133 hB hK133 x1 x2 x3 x4 x9 x10 x11 r94 M94 _ _ _ (lv_sub hl [1, 2, 3, 4, 5, 10, 11, 12, 0] rfl) hP hS h
        · have h := h.2 q101
          refine lv_iload hx hb dX11_plane_104 (lv_at hl 0 rfl) ?_
          refine lv_iload hx hb dX11_plane_106 (lv_at hl 6 rfl) ?_
          refine lv_icmp_ge (tgt := 127) hx hb dX11_plane_108 (by decide) (fun q108 => ?_) (fun q108 => ?_)
          · have h := h.1 q108
            obtain ⟨x11_127, ex11_127⟩ : ∃ y : Int32, y = x11 + 1 := ⟨_, rfl⟩
            have h := h x11_127 ex11_127
            refine lv_iinc (v := x11_127) (lv' := [(11, .int x11_127), (12, .int r94), (0, .ref (ad 0)), (1, .int x1), (2, .int x2), (3, .int x3), (4, .int x4), (5, .int x5), (6, .int x6), (7, .int x7), (8, .int x8), (9, .int x9), (10, .int x10)]) hx hb dX11_plane_127 hl (k := 12) rfl (by rw [ex11_127]; rfl) (by decide) rfl (fun ls hl => ?_)
            refine lv_goto (tgt := 79) hx hb dX11_plane_130 (by decide) ?_
            exact hB x1 x2 x3 x4 x5 x6 x7 x8 x9 x10 x11_127 M94 _ _ _ (lv_sub hl [2, 3, 4, 5, 6, 7, 8, 9, 10, 11, 12, 0] rfl) hP hS h
          · have h := h.2 q108
            exact J111 _ K133 hB hK133 x1 x2 x3 x4 x9 x10 x11 r94 M94 _ _ _ (lv_sub hl [1, 2, 3, 4, 5, 10, 11, 12, 0] rfl) hP hS h
  have L69 : ∀ (K139 : Int32 → Int32 → Int32 → Int32 → Int32 → Int32 → Int32 → Int32 → Int32 → Mem → Prop), (∀ (x1 x2 x3 x4 x5 x6 x7 x8 x9 : Int32) (M : Mem) (H : Heap) (locs : List Loc) (ls : Array Slot), lv_has ls 13 [(0, .ref (ad 0)), (1, .int x1), (2, .int x2), (3, .int x3), (4, .int x4), (5, .int x5), (6, .int x6), (7, .int x7), (8, .int x8), (9, .int x9)] → va_P D vwCl (mW cI cZ ad M) H → va_S (mA ad) s.heap H locs → K139 x1 x2 x3 x4 x5 x6 x7 x8 x9 M → GX11_plane p l e s m below meth c D cI cZ ad a1 a2 a3 Q H locs (F0 m 139 ls [])) → ∀ n : Nat, ∀ (x1 x2 x3 x4 x5 x6 x7 x8 x9 x10 : Int32) (M : Mem) (H : Heap) (locs : List Loc) (ls : Array Slot), lv_has ls 13 [(0, .ref (ad 0)), (1, .int x1), (2, .int x2), (3, .int x3), (4, .int x4), (5, .int x5), (6, .int x6), (7, .int x7), (8, .int x8), (9, .int x9), (10, .int x10)] → va_P D vwCl (mW cI cZ ad M) H → va_S (mA ad) s.heap H locs → wX11_plane_L69 K139 Q n x1 x2 x3 x4 x5 x6 x7 x8 x9 x10 M → GX11_plane p l e s m below meth c D cI cZ ad a1 a2 a3 Q H locs (F0 m 69 ls []) := by
    intro K139 hK139 n
    induction n with
    | zero => intro x1 x2 x3 x4 x5 x6 x7 x8 x9 x10 M H locs ls hl hP hS h; exact (show False from h).elim
    | succ n hB =>
      intro x1 x2 x3 x4 x5 x6 x7 x8 x9 x10 M H locs ls hl hP hS h
      rw [wX11_plane_L69_s] at h
      refine lv_iload hx hb dX11_plane_69 (lv_at hl 10 rfl) ?_
      refine lv_iconst (v := 2) hx hb dX11_plane_71 (by decide) ?_
      refine lv_icmp_gt (tgt := 139) hx hb dX11_plane_72 (by decide) (fun q72 => ?_) (fun q72 => ?_)
      · have h := h.1 q72
        exact hK139 x1 x2 x3 x4 x5 x6 x7 x8 x9 M _ _ _ (lv_sub hl [0, 1, 2, 3, 4, 5, 6, 7, 8, 9] rfl) hP hS h
      · have h := h.2 q72
        refine lv_bipush (v := (-2)) hx hb dX11_plane_75 (by decide) ?_
        refine lv_istore (lv' := [(11, .int (-2)), (0, .ref (ad 0)), (1, .int x1), (2, .int x2), (3, .int x3), (4, .int x4), (5, .int x5), (6, .int x6), (7, .int x7), (8, .int x8), (9, .int x9), (10, .int x10)]) hx hb dX11_plane_77 hl (by decide) rfl (fun ls hl => ?_)
        obtain ⟨n, h⟩ := h
        refine L79 _ (fun x1 x2 x3 x4 x5 x6 x7 x8 x9 x10 M H locs ls hl hP hS h => ?_) n x1 x2 x3 x4 x5 x6 x7 x8 x9 x10 (-2) M _ _ _ (lv_sub hl [1, 2, 3, 4, 5, 6, 7, 8, 9, 10, 11, 0] rfl) hP hS h
        obtain ⟨x10_133, ex10_133⟩ : ∃ y : Int32, y = x10 + 1 := ⟨_, rfl⟩
        have h := h x10_133 ex10_133
        refine lv_iinc (v := x10_133) (lv' := [(10, .int x10_133), (0, .ref (ad 0)), (1, .int x1), (2, .int x2), (3, .int x3), (4, .int x4), (5, .int x5), (6, .int x6), (7, .int x7), (8, .int x8), (9, .int x9)]) hx hb dX11_plane_133 hl (k := 10) rfl (by rw [ex10_133]; rfl) (by decide) rfl (fun ls hl => ?_)
        refine lv_goto (tgt := 69) hx hb dX11_plane_136 (by decide) ?_
        exact hB x1 x2 x3 x4 x5 x6 x7 x8 x9 x10_133 M _ _ _ (lv_sub hl [1, 2, 3, 4, 5, 6, 7, 8, 9, 10, 0] rfl) hP hS h
  have L54 : ∀ (K145 : Int32 → Int32 → Int32 → Int32 → Int32 → Int32 → Int32 → Int32 → Mem → Prop), (∀ (x1 x2 x3 x4 x5 x6 x7 x8 : Int32) (M : Mem) (H : Heap) (locs : List Loc) (ls : Array Slot), lv_has ls 13 [(0, .ref (ad 0)), (1, .int x1), (2, .int x2), (3, .int x3), (4, .int x4), (5, .int x5), (6, .int x6), (7, .int x7), (8, .int x8)] → va_P D vwCl (mW cI cZ ad M) H → va_S (mA ad) s.heap H locs → K145 x1 x2 x3 x4 x5 x6 x7 x8 M → GX11_plane p l e s m below meth c D cI cZ ad a1 a2 a3 Q H locs (F0 m 145 ls [])) → ∀ n : Nat, ∀ (x1 x2 x3 x4 x5 x6 x7 x8 x9 : Int32) (M : Mem) (H : Heap) (locs : List Loc) (ls : Array Slot), lv_has ls 13 [(0, .ref (ad 0)), (1, .int x1), (2, .int x2), (3, .int x3), (4, .int x4), (5, .int x5), (6, .int x6), (7, .int x7), (8, .int x8), (9, .int x9)] → va_P D vwCl (mW cI cZ ad M) H → va_S (mA ad) s.heap H locs → wX11_plane_L54 K145 Q n x1 x2 x3 x4 x5 x6 x7 x8 x9 M → GX11_plane p l e s m below meth c D cI cZ ad a1 a2 a3 Q H locs (F0 m 54 ls []) := by
    intro K145 hK145 n
    induction n with
    | zero => intro x1 x2 x3 x4 x5 x6 x7 x8 x9 M H locs ls hl hP hS h; exact (show False from h).elim
    | succ n hB =>
      intro x1 x2 x3 x4 x5 x6 x7 x8 x9 M H locs ls hl hP hS h
      rw [wX11_plane_L54_s] at h
      refine lv_iload hx hb dX11_plane_54 (lv_at hl 9 rfl) ?_
      refine lv_aload_n hx hb dX11_plane_56 rfl (lv_at hl 0 rfl) ?_
      refine va_get (D := D) (ci := 11) (v := .ref (ad 5)) (C := RX11) (T := TX11) (N := 26) hx hb hts inX11 hown hK hP 0 (mW_0 cI cZ ad M) rfl 6 (by decide) k0 (fun _ h9 => h9) rfl dX11_plane_57 ?_
      refine lv_iconst (v := 0) hx hb dX11_plane_60 (by decide) ?_
      obtain ⟨hi61, h⟩ := h
      refine va_iald hx hb hK hP 5 0 (mW_5 cI cZ ad M) rfl hi61 dX11_plane_61 ?_
      refine lv_icmp_gt (tgt := 145) hx hb dX11_plane_62 (by decide) (fun q62 => ?_) (fun q62 => ?_)
      · have h := h.1 q62
        exact hK145 x1 x2 x3 x4 x5 x6 x7 x8 M _ _ _ (lv_sub hl [0, 1, 2, 3, 4, 5, 6, 7, 8] rfl) hP hS h
      · have h := h.2 q62
        refine lv_bipush (v := (-2)) hx hb dX11_plane_65 (by decide) ?_
        refine lv_istore (lv' := [(10, .int (-2)), (0, .ref (ad 0)), (1, .int x1), (2, .int x2), (3, .int x3), (4, .int x4), (5, .int x5), (6, .int x6), (7, .int x7), (8, .int x8), (9, .int x9)]) hx hb dX11_plane_67 hl (by decide) rfl (fun ls hl => ?_)
        obtain ⟨n, h⟩ := h
        refine L69 _ (fun x1 x2 x3 x4 x5 x6 x7 x8 x9 M H locs ls hl hP hS h => ?_) n x1 x2 x3 x4 x5 x6 x7 x8 x9 (-2) M _ _ _ (lv_sub hl [1, 2, 3, 4, 5, 6, 7, 8, 9, 10, 0] rfl) hP hS h
        obtain ⟨x9_139, ex9_139⟩ : ∃ y : Int32, y = x9 + 1 := ⟨_, rfl⟩
        have h := h x9_139 ex9_139
        refine lv_iinc (v := x9_139) (lv' := [(9, .int x9_139), (0, .ref (ad 0)), (1, .int x1), (2, .int x2), (3, .int x3), (4, .int x4), (5, .int x5), (6, .int x6), (7, .int x7), (8, .int x8)]) hx hb dX11_plane_139 hl (k := 9) rfl (by rw [ex9_139]; rfl) (by decide) rfl (fun ls hl => ?_)
        refine lv_goto (tgt := 54) hx hb dX11_plane_142 (by decide) ?_
        exact hB x1 x2 x3 x4 x5 x6 x7 x8 x9_139 M _ _ _ (lv_sub hl [1, 2, 3, 4, 5, 6, 7, 8, 9, 0] rfl) hP hS h
  have hl := lv_entry ([.ref (ad 0), .int a1, .int a2, .int a3]) (n := 13) (Nat.le_of_ble_eq_true rfl)
  rw [lg_entry_eq]
  generalize (lg_sl ([.ref (ad 0), .int a1, .int a2, .int a3]) ++ List.replicate (13 - (lg_sl ([.ref (ad 0), .int a1, .int a2, .int a3])).length) Slot.unset).toArray = ls at hl ⊢
  have hl : lv_has ls 13 [(0, .ref (ad 0)), (1, .int a1), (2, .int a2), (3, .int a3)] := hl
  refine lv_aload_n hx hb dX11_plane_0 rfl (lv_at hl 0 rfl) ?_
  refine lv_iload_n hx hb dX11_plane_1 rfl (lv_at hl 1 rfl) ?_
  refine lv_iload_n hx hb dX11_plane_2 rfl (lv_at hl 2 rfl) ?_
  refine m_callVi (As := [.int a1, .int a2]) (rest := []) ⟨hx, hb, hml, hown, hts⟩ (kX11_isSquare l D cI cZ ad hD M a1 a2 _ h) (cwV 2 hts (gdV uS (inA_13 _ (List.mem_of_getElem? (i := 11) rfl)) vX11_isSquare) rfl rfl rfl (by decide +kernel) ⟨Nat.le_of_ble_eq_true rfl, Nat.le_of_ble_eq_true rfl⟩) (va_recv hK hP (ci := 11) (q0 := 0) rfl (mW_0 cI cZ ad M)) hP hK hS hl.1 rfl rfl (Nat.le_of_ble_eq_true rfl) dX11_plane_3 (fun r3 M3 H locs h hP hS => ?_)
  refine lv_if_eq (tgt := 18) hx hb dX11_plane_6 (by decide) (fun q6 => ?_) (fun q6 => ?_)
  · have h := h.1 q6
    refine lv_sipush (v := (-1000)) hx hb dX11_plane_18 (by decide) ?_
    exact W.iret (v := (-1000)) hx hb hr (fun t ht hW => ⟨⟨(-1000), M3, rfl, h, mAt_of ht hP⟩, hS.F ht⟩) hS.2.2 dX11_plane_21
  · have h := h.2 q6
    refine lv_iload_n hx hb dX11_plane_9 rfl (lv_at hl 3 rfl) ?_
    refine lv_iconst (v := 0) hx hb dX11_plane_10 (by decide) ?_
    refine lv_iconst (v := 4) hx hb dX11_plane_11 (by decide) ?_
    refine m_callSi (As := [.int a3, .int 0, .int 4]) (rest := []) ⟨hx, hb, hml, hown, hts⟩ (kX11_in l D cI cZ ad hD M3 a3 0 4 _ h) (va_cwS 3 hts (gdS uS (inA_9 _ (List.mem_of_getElem? (i := 4) rfl)) vX11_in) rfl rfl rfl (by decide +kernel) ⟨Nat.le_of_ble_eq_true rfl, Nat.le_of_ble_eq_true rfl⟩) hP hK hS hl.1 rfl rfl (Nat.le_of_ble_eq_true rfl) dX11_plane_12 (fun r12 M12 H locs h hP hS => ?_)
    refine lv_if_ne (tgt := 22) hx hb dX11_plane_15 (by decide) (fun q15 => ?_) (fun q15 => ?_)
    · have h := h.1 q15
      refine lv_aload_n hx hb dX11_plane_22 rfl (lv_at hl 0 rfl) ?_
      refine lv_iload_n hx hb dX11_plane_23 rfl (lv_at hl 1 rfl) ?_
      refine lv_iload_n hx hb dX11_plane_24 rfl (lv_at hl 2 rfl) ?_
      refine m_callVi (As := [.int a1, .int a2]) (rest := []) ⟨hx, hb, hml, hown, hts⟩ (kX11_segment l D cI cZ ad hD M12 a1 a2 _ h) (cwV 2 hts (gdV uS (inA_30 _ (List.mem_of_getElem? (i := 10) rfl)) vX11_segment) rfl rfl rfl (by decide +kernel) ⟨Nat.le_of_ble_eq_true rfl, Nat.le_of_ble_eq_true rfl⟩) (va_recv hK hP (ci := 11) (q0 := 0) rfl (mW_0 cI cZ ad M12)) hP hK hS hl.1 rfl rfl (Nat.le_of_ble_eq_true rfl) dX11_plane_25 (fun r25 M25 H locs h hP hS => ?_)
      refine lv_istore (lv' := [(4, .int r25), (0, .ref (ad 0)), (1, .int a1), (2, .int a2), (3, .int a3)]) hx hb dX11_plane_28 hl (by decide) rfl (fun ls hl => ?_)
      refine lv_iload hx hb dX11_plane_30 (lv_at hl 0 rfl) ?_
      refine lv_if_ge (tgt := 39) hx hb dX11_plane_32 (by decide) (fun q32 => ?_) (fun q32 => ?_)
      · have h := h.1 q32
        refine lv_iconst (v := (-1)) hx hb dX11_plane_39 (by decide) ?_
        refine lv_istore (lv' := [(5, .int (-1)), (4, .int r25), (0, .ref (ad 0)), (1, .int a1), (2, .int a2), (3, .int a3)]) hx hb dX11_plane_40 hl (by decide) rfl (fun ls hl => ?_)
        refine lv_iconst (v := 0) hx hb dX11_plane_42 (by decide) ?_
        refine lv_istore (lv' := [(6, .int 0), (5, .int (-1)), (4, .int r25), (0, .ref (ad 0)), (1, .int a1), (2, .int a2), (3, .int a3)]) hx hb dX11_plane_43 hl (by decide) rfl (fun ls hl => ?_)
        refine lv_iconst (v := 0) hx hb dX11_plane_45 (by decide) ?_
        refine lv_istore (lv' := [(7, .int 0), (6, .int 0), (5, .int (-1)), (4, .int r25), (0, .ref (ad 0)), (1, .int a1), (2, .int a2), (3, .int a3)]) hx hb dX11_plane_46 hl (by decide) rfl (fun ls hl => ?_)
        refine lv_iconst (v := 0) hx hb dX11_plane_48 (by decide) ?_
        refine lv_istore (lv' := [(8, .int 0), (7, .int 0), (6, .int 0), (5, .int (-1)), (4, .int r25), (0, .ref (ad 0)), (1, .int a1), (2, .int a2), (3, .int a3)]) hx hb dX11_plane_49 hl (by decide) rfl (fun ls hl => ?_)
        refine lv_iconst (v := 0) hx hb dX11_plane_51 (by decide) ?_
        refine lv_istore (lv' := [(9, .int 0), (8, .int 0), (7, .int 0), (6, .int 0), (5, .int (-1)), (4, .int r25), (0, .ref (ad 0)), (1, .int a1), (2, .int a2), (3, .int a3)]) hx hb dX11_plane_52 hl (by decide) rfl (fun ls hl => ?_)
        obtain ⟨n, h⟩ := h
        refine L54 _ (fun x1 x2 x3 x4 x5 x6 x7 x8 M H locs ls hl hP hS h => ?_) n a1 a2 a3 r25 (-1) 0 0 0 0 M25 _ _ _ (lv_sub hl [6, 7, 8, 9, 5, 4, 3, 2, 1, 0] rfl) hP hS h
        refine lv_aload_n hx hb dX11_plane_145 rfl (lv_at hl 0 rfl) ?_
        refine lv_iload hx hb dX11_plane_146 (lv_at hl 4 rfl) ?_
        refine lv_aload_n hx hb dX11_plane_148 rfl (lv_at hl 0 rfl) ?_
        refine va_get (D := D) (ci := 11) (v := .int (M 0 0)) (C := RX11) (T := TX11) (N := 26) hx hb hts inX11 hown hK hP 0 (mW_0 cI cZ ad M) rfl 0 (by decide) k2 (fun _ h9 => h9) rfl dX11_plane_149 ?_
        refine lv_iload_n hx hb dX11_plane_152 rfl (lv_at hl 2 rfl) ?_
        refine lv_imul hx hb dX11_plane_153 ?_
        refine lv_iload_n hx hb dX11_plane_154 rfl (lv_at hl 1 rfl) ?_
        refine lv_iadd hx hb dX11_plane_155 ?_
        refine lv_iload hx hb dX11_plane_156 (lv_at hl 6 rfl) ?_
        refine lv_iload hx hb dX11_plane_158 (lv_at hl 7 rfl) ?_
        refine lv_iload hx hb dX11_plane_160 (lv_at hl 8 rfl) ?_
        refine m_callVi (As := [.int x4, .int (((M 0 0) * x2) + x1), .int x6, .int x7, .int x8]) (rest := []) ⟨hx, hb, hml, hown, hts⟩ (kX11_planeDepth l D cI cZ ad hD M x4 (((M 0 0) * x2) + x1) x6 x7 x8 _ h) (cwV 5 hts (gdV uS (inA_32 _ (List.mem_of_getElem? (i := 8) rfl)) vX11_planeDepth) rfl rfl rfl (by decide +kernel) ⟨Nat.le_of_ble_eq_true rfl, Nat.le_of_ble_eq_true rfl⟩) (va_recv hK hP (ci := 11) (q0 := 0) rfl (mW_0 cI cZ ad M)) hP hK hS hl.1 rfl rfl (Nat.le_of_ble_eq_true rfl) dX11_plane_162 (fun r162 M162 H locs h hP hS => ?_)
        refine lv_istore (lv' := [(9, .int r162), (0, .ref (ad 0)), (1, .int x1), (2, .int x2), (3, .int x3), (4, .int x4), (5, .int x5), (6, .int x6), (7, .int x7), (8, .int x8)]) hx hb dX11_plane_165 hl (by decide) rfl (fun ls hl => ?_)
        refine lv_iload_n hx hb dX11_plane_167 rfl (lv_at hl 4 rfl) ?_
        by_cases qd168 : (x3).toInt < 0 ∨ 3 < (x3).toInt
        · have h := h.2.2.2.2 qd168
          refine lv_tableOut (tgt := 216) hx hb dX11_plane_168 qd168 (by decide) ?_
          refine lv_iload hx hb dX11_plane_216 (lv_at hl 0 rfl) ?_
          refine lv_iconst (v := 0) hx hb dX11_plane_218 (by decide) ?_
          refine lv_aload_n hx hb dX11_plane_219 rfl (lv_at hl 1 rfl) ?_
          refine va_get (D := D) (ci := 11) (v := .ref (ad 5)) (C := RX11) (T := TX11) (N := 26) hx hb hts inX11 hown hK hP 0 (mW_0 cI cZ ad M162) rfl 6 (by decide) k0 (fun _ h9 => h9) rfl dX11_plane_220 ?_
          refine lv_iconst (v := 0) hx hb dX11_plane_223 (by decide) ?_
          obtain ⟨hi224, h⟩ := h
          refine va_iald hx hb hK hP 5 0 (mW_5 cI cZ ad M162) rfl hi224 dX11_plane_224 ?_
          refine m_callSi (As := [.int r162, .int 0, .int (M162 5 (0 : Int32).toNatClampNeg)]) (rest := []) ⟨hx, hb, hml, hown, hts⟩ (kX11_in l D cI cZ ad hD M162 r162 0 (M162 5 (0 : Int32).toNatClampNeg) _ h) (va_cwS 3 hts (gdS uS (inA_9 _ (List.mem_of_getElem? (i := 4) rfl)) vX11_in) rfl rfl rfl (by decide +kernel) ⟨Nat.le_of_ble_eq_true rfl, Nat.le_of_ble_eq_true rfl⟩) hP hK hS hl.1 rfl rfl (Nat.le_of_ble_eq_true rfl) dX11_plane_225 (fun r225 M225 H locs h hP hS => ?_)
          refine lv_if_eq (tgt := 236) hx hb dX11_plane_228 (by decide) (fun q228 => ?_) (fun q228 => ?_)
          · have h := h.1 q228
            refine lv_iload hx hb dX11_plane_236 (lv_at hl 0 rfl) ?_
            refine lv_bipush (v := 100) hx hb dX11_plane_238 (by decide) ?_
            refine lv_isub hx hb dX11_plane_240 ?_
            exact W.iret (v := (r162 - 100)) hx hb hr (fun t ht hW => ⟨⟨(r162 - 100), M225, rfl, h, mAt_of ht hP⟩, hS.F ht⟩) hS.2.2 dX11_plane_241
          · have h := h.2 q228
            refine lv_iload hx hb dX11_plane_231 (lv_at hl 0 rfl) ?_
            refine lv_goto (tgt := 241) hx hb dX11_plane_233 (by decide) ?_
            exact W.iret (v := r162) hx hb hr (fun t ht hW => ⟨⟨r162, M225, rfl, h, mAt_of ht hP⟩, hS.F ht⟩) hS.2.2 dX11_plane_241
        · have qn168 : ¬ (x3).toInt < 0 ∧ ¬ 3 < (x3).toInt := ⟨fun q => qd168 (Or.inl q), fun q => qd168 (Or.inr q)⟩
          have qc168 : (x3).toInt = 0 ∨ (x3).toInt = 1 ∨ (x3).toInt = 2 ∨ (x3).toInt = 3 := by
            omega
          rcases qc168 with qe168 | qe168 | qe168 | qe168
          · have qz168 : x3 = 0 := jint qe168 (by decide)
            have h := h.1 qz168
            refine lv_tableIn (tgt := 200) hx hb dX11_plane_168 qn168.1 qn168.2 (by rw [qe168]; rfl) (by decide) ?_
            refine lv_iload hx hb dX11_plane_200 (lv_at hl 7 rfl) ?_
            exact W.iret (v := x6) hx hb hr (fun t ht hW => ⟨⟨x6, M162, rfl, h, mAt_of ht hP⟩, hS.F ht⟩) hS.2.2 dX11_plane_202
          · have qz168 : x3 = 1 := jint qe168 (by decide)
            have h := h.2.1 qz168
            refine lv_tableIn (tgt := 203) hx hb dX11_plane_168 qn168.1 qn168.2 (by rw [qe168]; rfl) (by decide) ?_
            refine lv_iload hx hb dX11_plane_203 (lv_at hl 8 rfl) ?_
            refine lv_iconst (v := 2) hx hb dX11_plane_205 (by decide) ?_
            refine lv_iadd hx hb dX11_plane_206 ?_
            exact W.iret (v := (x7 + 2)) hx hb hr (fun t ht hW => ⟨⟨(x7 + 2), M162, rfl, h, mAt_of ht hP⟩, hS.F ht⟩) hS.2.2 dX11_plane_207
          · have qz168 : x3 = 2 := jint qe168 (by decide)
            have h := h.2.2.1 qz168
            refine lv_tableIn (tgt := 208) hx hb dX11_plane_168 qn168.1 qn168.2 (by rw [qe168]; rfl) (by decide) ?_
            refine lv_iload hx hb dX11_plane_208 (lv_at hl 9 rfl) ?_
            refine lv_iconst (v := 2) hx hb dX11_plane_210 (by decide) ?_
            refine lv_iadd hx hb dX11_plane_211 ?_
            exact W.iret (v := (x8 + 2)) hx hb hr (fun t ht hW => ⟨⟨(x8 + 2), M162, rfl, h, mAt_of ht hP⟩, hS.F ht⟩) hS.2.2 dX11_plane_212
          · have qz168 : x3 = 3 := jint qe168 (by decide)
            have h := h.2.2.2.1 qz168
            refine lv_tableIn (tgt := 213) hx hb dX11_plane_168 qn168.1 qn168.2 (by rw [qe168]; rfl) (by decide) ?_
            refine lv_iload hx hb dX11_plane_213 (lv_at hl 6 rfl) ?_
            exact W.iret (v := x5) hx hb hr (fun t ht hW => ⟨⟨x5, M162, rfl, h, mAt_of ht hP⟩, hS.F ht⟩) hS.2.2 dX11_plane_215
      · have h := h.2 q32
        refine lv_sipush (v := (-1001)) hx hb dX11_plane_35 (by decide) ?_
        exact W.iret (v := (-1001)) hx hb hr (fun t ht hW => ⟨⟨(-1001), M25, rfl, h, mAt_of ht hP⟩, hS.F ht⟩) hS.2.2 dX11_plane_38
    · have h := h.2 q15
      refine lv_sipush (v := (-1000)) hx hb dX11_plane_18 (by decide) ?_
      exact W.iret (v := (-1000)) hx hb hr (fun t ht hW => ⟨⟨(-1000), M12, rfl, h, mAt_of ht hP⟩, hS.F ht⟩) hS.2.2 dX11_plane_21
abbrev GX11_seen (p : Program) (l : Launch) (e : Env) (s : State) (m : MethodId) (below : List Frame) (meth : Method) (c : Code) (D : va_G) (cI cZ : ClassId) (ad : Nat → Nat) (a1 a2 a3 : Int32) (Q : Int32 → Mem → Prop) (H : Heap) (locs : List Loc) (g : JFrame) : Prop := W p l e (headSpec uX11_seen { frames := 3, cells := 0, slots := 0, locals := 69 }).room s m ([.ref (ad 0), .int a1, .int a2, .int a3] : List Value).toArray below meth c H locs 0 0 (MQ below (va_Qi Q (mAt D cI cZ ad) (mA ad)) ([.ref (ad 0), .int a1, .int a2, .int a3] : List Value).toArray s 0 0 (mA ad)) g
set_option maxHeartbeats 4000000 in
set_option maxRecDepth 100000 in
theorem kX11_seen (l : Launch) (D : va_G) (cI cZ : ClassId) (ad : Nat → Nat) (hD : ∀ M : Mem, va_D (mA ad) (mW cI cZ ad M)) (M : Mem) (a1 a2 a3 : Int32) (Q : Int32 → Mem → Prop) (h : wX11_seen M a1 a2 a3 Q) : Met l yX11_seen uX11_seen ({ frames := 3, cells := 0, slots := 0, locals := 69 }) (va_Pc [.ref (ad 0), .int a1, .int a2, .int a3] (mPre D cI cZ ad M)) (va_Qi Q (mAt D cI cZ ad) (mA ad)) 0 0 (mA ad) := by
  refine Met.ofW (cc := cX11_seen) (maxL := 8) (ret := (some .int)) (by decide) rfl ?_
  intro p e s m args below meth c s₁ B hml hv
  obtain ⟨rfl, hP, hK⟩ := hv
  have hx := B.exec
  have hb := B.bytes
  have hr := B.returns
  have hts := atoms_spec (ws := uX11_seen) B.pre
  have hown : s.vm.findClass RX11 = some m.cls := findClass_of_methodNamed B.named
  have hlocks := B.notSynchronized
  have hS : va_S (mA ad) s.heap s.heap [] := va_S.rf
  have k0 := hts (.fieldLink RX11 7 "TwoEyesModel" "width" "I") (List.mem_cons_of_mem _ (inA_6 _ (List.mem_of_getElem? (i := 18) rfl)))
  have inX11 : ∀ w ∈ wsX110, w ∈ uX11_seen := fun w h => List.mem_cons_of_mem _ (inCX11 w h)
  have k2 := hts (.fieldLink RX11 16 "TwoEyesModel" "shades" "[I") (List.mem_cons_of_mem _ (inA_6 _ (List.mem_of_getElem? (i := 20) rfl)))
  have L10 : ∀ (K73 : Int32 → Mem → Prop), (∀ (x5 : Int32) (M : Mem) (H : Heap) (locs : List Loc) (ls : Array Slot), lv_has ls 8 [(5, .int x5)] → va_P D vwCl (mW cI cZ ad M) H → va_S (mA ad) s.heap H locs → K73 x5 M → GX11_seen p l e s m below meth c D cI cZ ad a1 a2 a3 Q H locs (F0 m 73 ls [])) → ∀ n : Nat, ∀ (x1 x2 x3 x4 x5 x6 : Int32) (M : Mem) (H : Heap) (locs : List Loc) (ls : Array Slot), lv_has ls 8 [(0, .ref (ad 0)), (1, .int x1), (2, .int x2), (3, .int x3), (4, .int x4), (5, .int x5), (6, .int x6)] → va_P D vwCl (mW cI cZ ad M) H → va_S (mA ad) s.heap H locs → wX11_seen_L10 K73 Q n x1 x2 x3 x4 x5 x6 M → GX11_seen p l e s m below meth c D cI cZ ad a1 a2 a3 Q H locs (F0 m 10 ls []) := by
    intro K73 hK73 n
    induction n with
    | zero => intro x1 x2 x3 x4 x5 x6 M H locs ls hl hP hS h; exact (show False from h).elim
    | succ n hB =>
      intro x1 x2 x3 x4 x5 x6 M H locs ls hl hP hS h
      rw [wX11_seen_L10_s] at h
      refine lv_iload hx hb dX11_seen_10 (lv_at hl 6 rfl) ?_
      refine lv_aload_n hx hb dX11_seen_12 rfl (lv_at hl 0 rfl) ?_
      refine va_get (D := D) (ci := 11) (v := .int (M 0 0)) (C := RX11) (T := TX11) (N := 26) hx hb hts inX11 hown hK hP 0 (mW_0 cI cZ ad M) rfl 0 (by decide) k0 (fun _ h9 => h9) rfl dX11_seen_13 ?_
      refine lv_icmp_ge (tgt := 73) hx hb dX11_seen_16 (by decide) (fun q16 => ?_) (fun q16 => ?_)
      · have h := h.1 q16
        exact hK73 x5 M _ _ _ (lv_sub hl [5] rfl) hP hS h
      · have h := h.2 q16
        refine lv_aload_n hx hb dX11_seen_19 rfl (lv_at hl 0 rfl) ?_
        refine lv_iload hx hb dX11_seen_20 (lv_at hl 6 rfl) ?_
        refine lv_iload_n hx hb dX11_seen_22 rfl (lv_at hl 3 rfl) ?_
        refine m_callVi (As := [.int x6, .int x3]) (rest := []) ⟨hx, hb, hml, hown, hts⟩ (kX11_agreedAt l D cI cZ ad hD M x6 x3 _ h) (cwV 2 hts (gdV uS (inA_23 _ (List.mem_of_getElem? (i := 11) rfl)) vX11_agreedAt) rfl rfl rfl (by decide +kernel) ⟨Nat.le_of_ble_eq_true rfl, Nat.le_of_ble_eq_true rfl⟩) (va_recv hK hP (ci := 11) (q0 := 0) rfl (mW_0 cI cZ ad M)) hP hK hS hl.1 rfl rfl (Nat.le_of_ble_eq_true rfl) dX11_seen_23 (fun r23 M23 H locs h hP hS => ?_)
        refine lv_istore (lv' := [(7, .int r23), (0, .ref (ad 0)), (1, .int x1), (2, .int x2), (3, .int x3), (4, .int x4), (5, .int x5), (6, .int x6)]) hx hb dX11_seen_26 hl (by decide) rfl (fun ls hl => ?_)
        refine lv_iload hx hb dX11_seen_28 (lv_at hl 0 rfl) ?_
        refine lv_iload hx hb dX11_seen_30 (lv_at hl 5 rfl) ?_
        refine lv_icmp_le (tgt := 67) hx hb dX11_seen_32 (by decide) (fun q32 => ?_) (fun q32 => ?_)
        · have h := h.1 q32
          obtain ⟨x6_67, ex6_67⟩ : ∃ y : Int32, y = x6 + 1 := ⟨_, rfl⟩
          have h := h x6_67 ex6_67
          refine lv_iinc (v := x6_67) (lv' := [(6, .int x6_67), (7, .int r23), (0, .ref (ad 0)), (1, .int x1), (2, .int x2), (3, .int x3), (4, .int x4), (5, .int x5)]) hx hb dX11_seen_67 hl (k := 7) rfl (by rw [ex6_67]; rfl) (by decide) rfl (fun ls hl => ?_)
          refine lv_goto (tgt := 10) hx hb dX11_seen_70 (by decide) ?_
          exact hB x1 x2 x3 x4 x5 x6_67 M23 _ _ _ (lv_sub hl [2, 3, 4, 5, 6, 7, 0] rfl) hP hS h
        · have h := h.2 q32
          refine lv_iload hx hb dX11_seen_35 (lv_at hl 7 rfl) ?_
          refine lv_iload hx hb dX11_seen_37 (lv_at hl 0 rfl) ?_
          refine lv_iload_n hx hb dX11_seen_39 rfl (lv_at hl 2 rfl) ?_
          refine lv_imul hx hb dX11_seen_40 ?_
          refine lv_iconst (v := 4) hx hb dX11_seen_41 (by decide) ?_
          obtain ⟨hn42, h⟩ := h
          refine lv_idiv hx hb dX11_seen_42 hn42 ?_
          refine lv_isub hx hb dX11_seen_43 ?_
          refine lv_iload_n hx hb dX11_seen_44 rfl (lv_at hl 3 rfl) ?_
          refine lv_icmp_ne (tgt := 67) hx hb dX11_seen_45 (by decide) (fun q45 => ?_) (fun q45 => ?_)
          · have h := h.1 q45
            obtain ⟨x6_67, ex6_67⟩ : ∃ y : Int32, y = x6 + 1 := ⟨_, rfl⟩
            have h := h x6_67 ex6_67
            refine lv_iinc (v := x6_67) (lv' := [(6, .int x6_67), (7, .int r23), (0, .ref (ad 0)), (1, .int x1), (2, .int x2), (3, .int x3), (4, .int x4), (5, .int x5)]) hx hb dX11_seen_67 hl (k := 7) rfl (by rw [ex6_67]; rfl) (by decide) rfl (fun ls hl => ?_)
            refine lv_goto (tgt := 10) hx hb dX11_seen_70 (by decide) ?_
            exact hB x1 x2 x3 x4 x5 x6_67 M23 _ _ _ (lv_sub hl [2, 3, 4, 5, 6, 7, 0] rfl) hP hS h
          · have h := h.2 q45
            refine lv_iload hx hb dX11_seen_48 (lv_at hl 0 rfl) ?_
            refine lv_istore (lv' := [(4, .int r23), (7, .int r23), (0, .ref (ad 0)), (1, .int x1), (2, .int x2), (3, .int x3), (5, .int x5), (6, .int x6)]) hx hb dX11_seen_50 hl (by decide) rfl (fun ls hl => ?_)
            refine lv_aload_n hx hb dX11_seen_52 rfl (lv_at hl 2 rfl) ?_
            refine va_get (D := D) (ci := 11) (v := .ref (ad 1)) (C := RX11) (T := TX11) (N := 26) hx hb hts inX11 hown hK hP 0 (mW_0 cI cZ ad M23) rfl 2 (by decide) k2 (fun _ h9 => h9) rfl dX11_seen_53 ?_
            refine lv_aload_n hx hb dX11_seen_56 rfl (lv_at hl 2 rfl) ?_
            refine lv_iconst (v := 0) hx hb dX11_seen_57 (by decide) ?_
            refine lv_iload hx hb dX11_seen_58 (lv_at hl 7 rfl) ?_
            refine lv_iload_n hx hb dX11_seen_60 rfl (lv_at hl 5 rfl) ?_
            refine m_callVi (As := [.int 0, .int x6, .int x3]) (rest := [.ref (ad 1)]) ⟨hx, hb, hml, hown, hts⟩ (kX11_at l D cI cZ ad hD M23 0 x6 x3 _ h) (cwV 3 hts (gdV uS (inA_11 _ (List.mem_of_getElem? (i := 6) rfl)) vX11_at) rfl rfl rfl (by decide +kernel) ⟨Nat.le_of_ble_eq_true rfl, Nat.le_of_ble_eq_true rfl⟩) (va_recv hK hP (ci := 11) (q0 := 0) rfl (mW_0 cI cZ ad M23)) hP hK hS hl.1 rfl rfl (Nat.le_of_ble_eq_true rfl) dX11_seen_61 (fun r61 M61 H locs h hP hS => ?_)
            obtain ⟨hi64, h⟩ := h
            refine va_iald hx hb hK hP 1 0 (mW_1 cI cZ ad M61) rfl hi64 dX11_seen_64 ?_
            refine lv_topi (fun x5_65 ex5_65 => ?_)
            have h := h x5_65 ex5_65
            refine lv_istore (lv' := [(5, .int x5_65), (4, .int r23), (7, .int r23), (0, .ref (ad 0)), (1, .int x1), (2, .int x2), (3, .int x3), (6, .int x6)]) hx hb dX11_seen_65 hl (by decide) rfl (fun ls hl => ?_)
            obtain ⟨x6_67, ex6_67⟩ : ∃ y : Int32, y = x6 + 1 := ⟨_, rfl⟩
            have h := h x6_67 ex6_67
            refine lv_iinc (v := x6_67) (lv' := [(6, .int x6_67), (5, .int x5_65), (4, .int r23), (7, .int r23), (0, .ref (ad 0)), (1, .int x1), (2, .int x2), (3, .int x3)]) hx hb dX11_seen_67 hl (k := 7) rfl (by rw [ex6_67]; rfl) (by decide) rfl (fun ls hl => ?_)
            refine lv_goto (tgt := 10) hx hb dX11_seen_70 (by decide) ?_
            exact hB x1 x2 x3 r23 x5_65 x6_67 M61 _ _ _ (lv_sub hl [4, 5, 6, 7, 2, 1, 0] rfl) hP hS h
  have hl := lv_entry ([.ref (ad 0), .int a1, .int a2, .int a3]) (n := 8) (Nat.le_of_ble_eq_true rfl)
  rw [lg_entry_eq]
  generalize (lg_sl ([.ref (ad 0), .int a1, .int a2, .int a3]) ++ List.replicate (8 - (lg_sl ([.ref (ad 0), .int a1, .int a2, .int a3])).length) Slot.unset).toArray = ls at hl ⊢
  have hl : lv_has ls 8 [(0, .ref (ad 0)), (1, .int a1), (2, .int a2), (3, .int a3)] := hl
  refine lv_iconst (v := (-1)) hx hb dX11_seen_0 (by decide) ?_
  refine lv_istore (lv' := [(4, .int (-1)), (0, .ref (ad 0)), (1, .int a1), (2, .int a2), (3, .int a3)]) hx hb dX11_seen_1 hl (by decide) rfl (fun ls hl => ?_)
  refine lv_bipush (v := (-4)) hx hb dX11_seen_3 (by decide) ?_
  refine lv_istore (lv' := [(5, .int (-4)), (4, .int (-1)), (0, .ref (ad 0)), (1, .int a1), (2, .int a2), (3, .int a3)]) hx hb dX11_seen_5 hl (by decide) rfl (fun ls hl => ?_)
  refine lv_iload_n hx hb dX11_seen_7 rfl (lv_at hl 4 rfl) ?_
  refine lv_istore (lv' := [(6, .int a2), (5, .int (-4)), (4, .int (-1)), (0, .ref (ad 0)), (1, .int a1), (2, .int a2), (3, .int a3)]) hx hb dX11_seen_8 hl (by decide) rfl (fun ls hl => ?_)
  obtain ⟨n, h⟩ := h
  refine L10 _ (fun x5 M H locs ls hl hP hS h => ?_) n a1 a2 a3 (-1) (-4) a2 M _ _ _ (lv_sub hl [3, 4, 5, 6, 2, 1, 0] rfl) hP hS h
  refine lv_iload hx hb dX11_seen_73 (lv_at hl 0 rfl) ?_
  exact W.iret (v := x5) hx hb hr (fun t ht hW => ⟨⟨x5, M, rfl, h, mAt_of ht hP⟩, hS.F ht⟩) hS.2.2 dX11_seen_75
set_option maxHeartbeats 4000000 in
set_option maxRecDepth 100000 in
theorem kX11_view (l : Launch) (D : va_G) (cI cZ : ClassId) (ad : Nat → Nat) (hD : ∀ M : Mem, va_D (mA ad) (mW cI cZ ad M)) (M : Mem) (a1 a2 a3 : Int32) (Q : Int32 → Mem → Prop) (h : wX11_view M a1 a2 a3 Q) : Met l yX11_view uX11_view ({ frames := 5, cells := 0, slots := 0, locals := 124 }) (va_Pc [.ref (ad 0), .int a1, .int a2, .int a3] (mPre D cI cZ ad M)) (va_Qi Q (mAt D cI cZ ad) (mA ad)) 0 0 (mA ad) := by
  refine Met.ofW (cc := cX11_view) (maxL := 4) (ret := (some .int)) (by decide) rfl ?_
  intro p e s m args below meth c s₁ B hml hv
  obtain ⟨rfl, hP, hK⟩ := hv
  have hx := B.exec
  have hb := B.bytes
  have hr := B.returns
  have hts := atoms_spec (ws := uX11_view) B.pre
  have hown : s.vm.findClass RX11 = some m.cls := findClass_of_methodNamed B.named
  have hlocks := B.notSynchronized
  have hS : va_S (mA ad) s.heap s.heap [] := va_S.rf
  have hl := lv_entry ([.ref (ad 0), .int a1, .int a2, .int a3]) (n := 4) (Nat.le_of_ble_eq_true rfl)
  rw [lg_entry_eq]
  generalize (lg_sl ([.ref (ad 0), .int a1, .int a2, .int a3]) ++ List.replicate (4 - (lg_sl ([.ref (ad 0), .int a1, .int a2, .int a3])).length) Slot.unset).toArray = ls at hl ⊢
  have hl : lv_has ls 4 [(0, .ref (ad 0)), (1, .int a1), (2, .int a2), (3, .int a3)] := hl
  refine lv_iload_n hx hb dX11_view_0 rfl (lv_at hl 1 rfl) ?_
  refine lv_iconst (v := 0) hx hb dX11_view_1 (by decide) ?_
  refine lv_iconst (v := 4) hx hb dX11_view_2 (by decide) ?_
  refine m_callSi (As := [.int a1, .int 0, .int 4]) (rest := []) ⟨hx, hb, hml, hown, hts⟩ (kX11_in l D cI cZ ad hD M a1 0 4 _ h) (va_cwS 3 hts (gdS uS (inA_9 _ (List.mem_of_getElem? (i := 4) rfl)) vX11_in) rfl rfl rfl (by decide +kernel) ⟨Nat.le_of_ble_eq_true rfl, Nat.le_of_ble_eq_true rfl⟩) hP hK hS hl.1 rfl rfl (Nat.le_of_ble_eq_true rfl) dX11_view_3 (fun r3 M3 H locs h hP hS => ?_)
  refine lv_if_eq (tgt := 18) hx hb dX11_view_6 (by decide) (fun q6 => ?_) (fun q6 => ?_)
  · have h := h.1 q6
    refine lv_iconst (v := (-1)) hx hb dX11_view_18 (by decide) ?_
    exact W.iret (v := (-1)) hx hb hr (fun t ht hW => ⟨⟨(-1), M3, rfl, h, mAt_of ht hP⟩, hS.F ht⟩) hS.2.2 dX11_view_19
  · have h := h.2 q6
    refine lv_aload_n hx hb dX11_view_9 rfl (lv_at hl 0 rfl) ?_
    refine lv_iload_n hx hb dX11_view_10 rfl (lv_at hl 2 rfl) ?_
    refine lv_iload_n hx hb dX11_view_11 rfl (lv_at hl 3 rfl) ?_
    refine m_callVi (As := [.int a2, .int a3]) (rest := []) ⟨hx, hb, hml, hown, hts⟩ (kX11_isSquare l D cI cZ ad hD M3 a2 a3 _ h) (cwV 2 hts (gdV uS (inA_13 _ (List.mem_of_getElem? (i := 11) rfl)) vX11_isSquare) rfl rfl rfl (by decide +kernel) ⟨Nat.le_of_ble_eq_true rfl, Nat.le_of_ble_eq_true rfl⟩) (va_recv hK hP (ci := 11) (q0 := 0) rfl (mW_0 cI cZ ad M3)) hP hK hS hl.1 rfl rfl (Nat.le_of_ble_eq_true rfl) dX11_view_12 (fun r12 M12 H locs h hP hS => ?_)
    refine lv_if_ne (tgt := 20) hx hb dX11_view_15 (by decide) (fun q15 => ?_) (fun q15 => ?_)
    · have h := h.1 q15
      refine lv_aload_n hx hb dX11_view_20 rfl (lv_at hl 0 rfl) ?_
      refine m_callVv (As := []) (rest := []) ⟨hx, hb, hml, hown, hts⟩ (kX11_reckon l D cI cZ ad hD M12 _ h) (cwV 0 hts (gdV uS (inA_21 _ (List.mem_of_getElem? (i := 5) rfl)) vX11_reckon) rfl rfl rfl (by decide +kernel) ⟨Nat.le_of_ble_eq_true rfl, Nat.le_of_ble_eq_true rfl⟩) (va_recv hK hP (ci := 11) (q0 := 0) rfl (mW_0 cI cZ ad M12)) hP hK hS hl.1 rfl rfl (Nat.le_of_ble_eq_true rfl) dX11_view_21 (fun M21 H locs h hP hS => ?_)
      refine lv_aload_n hx hb dX11_view_24 rfl (lv_at hl 0 rfl) ?_
      refine lv_iload_n hx hb dX11_view_25 rfl (lv_at hl 1 rfl) ?_
      refine lv_iload_n hx hb dX11_view_26 rfl (lv_at hl 2 rfl) ?_
      refine lv_iload_n hx hb dX11_view_27 rfl (lv_at hl 3 rfl) ?_
      refine m_callVi (As := [.int a1, .int a2, .int a3]) (rest := []) ⟨hx, hb, hml, hown, hts⟩ (kX11_seen l D cI cZ ad hD M21 a1 a2 a3 _ h) (cwV 3 hts (gdV uS (inA_33 _ (List.mem_of_getElem? (i := 3) rfl)) vX11_seen) rfl rfl rfl (by decide +kernel) ⟨Nat.le_of_ble_eq_true rfl, Nat.le_of_ble_eq_true rfl⟩) (va_recv hK hP (ci := 11) (q0 := 0) rfl (mW_0 cI cZ ad M21)) hP hK hS hl.1 rfl rfl (Nat.le_of_ble_eq_true rfl) dX11_view_28 (fun r28 M28 H locs h hP hS => ?_)
      exact W.iret (v := r28) hx hb hr (fun t ht hW => ⟨⟨r28, M28, rfl, h, mAt_of ht hP⟩, hS.F ht⟩) hS.2.2 dX11_view_31
    · have h := h.2 q15
      refine lv_iconst (v := (-1)) hx hb dX11_view_18 (by decide) ?_
      exact W.iret (v := (-1)) hx hb hr (fun t ht hW => ⟨⟨(-1), M12, rfl, h, mAt_of ht hP⟩, hS.F ht⟩) hS.2.2 dX11_view_19
abbrev GX11_holes (p : Program) (l : Launch) (e : Env) (s : State) (m : MethodId) (below : List Frame) (meth : Method) (c : Code) (D : va_G) (cI cZ : ClassId) (ad : Nat → Nat) (a1 : Int32) (Q : Int32 → Mem → Prop) (H : Heap) (locs : List Loc) (g : JFrame) : Prop := W p l e (headSpec uX11_holes { frames := 5, cells := 0, slots := 0, locals := 124 }).room s m ([.ref (ad 0), .int a1] : List Value).toArray below meth c H locs 0 0 (MQ below (va_Qi Q (mAt D cI cZ ad) (mA ad)) ([.ref (ad 0), .int a1] : List Value).toArray s 0 0 (mA ad)) g
set_option maxHeartbeats 4000000 in
set_option maxRecDepth 100000 in
theorem kX11_holes (l : Launch) (D : va_G) (cI cZ : ClassId) (ad : Nat → Nat) (hD : ∀ M : Mem, va_D (mA ad) (mW cI cZ ad M)) (M : Mem) (a1 : Int32) (Q : Int32 → Mem → Prop) (h : wX11_holes M a1 Q) : Met l yX11_holes uX11_holes ({ frames := 5, cells := 0, slots := 0, locals := 124 }) (va_Pc [.ref (ad 0), .int a1] (mPre D cI cZ ad M)) (va_Qi Q (mAt D cI cZ ad) (mA ad)) 0 0 (mA ad) := by
  refine Met.ofW (cc := cX11_holes) (maxL := 4) (ret := (some .int)) (by decide) rfl ?_
  intro p e s m args below meth c s₁ B hml hv
  obtain ⟨rfl, hP, hK⟩ := hv
  have hx := B.exec
  have hb := B.bytes
  have hr := B.returns
  have hts := atoms_spec (ws := uX11_holes) B.pre
  have hown : s.vm.findClass RX11 = some m.cls := findClass_of_methodNamed B.named
  have hlocks := B.notSynchronized
  have hS : va_S (mA ad) s.heap s.heap [] := va_S.rf
  have k0 := hts (.fieldLink RX11 7 "TwoEyesModel" "width" "I") (List.mem_cons_of_mem _ (inA_6 _ (List.mem_of_getElem? (i := 18) rfl)))
  have inX11 : ∀ w ∈ wsX110, w ∈ uX11_holes := fun w h => List.mem_cons_of_mem _ (inCX11 w h)
  have k2 := hts (.fieldLink RX11 13 "TwoEyesModel" "height" "I") (List.mem_cons_of_mem _ (inA_6 _ (List.mem_of_getElem? (i := 19) rfl)))
  have L19 : ∀ (K68 : Int32 → Mem → Prop), (∀ (x2 : Int32) (M : Mem) (H : Heap) (locs : List Loc) (ls : Array Slot), lv_has ls 4 [(2, .int x2)] → va_P D vwCl (mW cI cZ ad M) H → va_S (mA ad) s.heap H locs → K68 x2 M → GX11_holes p l e s m below meth c D cI cZ ad a1 Q H locs (F0 m 68 ls [])) → ∀ n : Nat, ∀ (x1 x2 x3 : Int32) (M : Mem) (H : Heap) (locs : List Loc) (ls : Array Slot), lv_has ls 4 [(0, .ref (ad 0)), (1, .int x1), (2, .int x2), (3, .int x3)] → va_P D vwCl (mW cI cZ ad M) H → va_S (mA ad) s.heap H locs → wX11_holes_L19 K68 Q n x1 x2 x3 M → GX11_holes p l e s m below meth c D cI cZ ad a1 Q H locs (F0 m 19 ls []) := by
    intro K68 hK68 n
    induction n with
    | zero => intro x1 x2 x3 M H locs ls hl hP hS h; exact (show False from h).elim
    | succ n hB =>
      intro x1 x2 x3 M H locs ls hl hP hS h
      rw [wX11_holes_L19_s] at h
      refine lv_iload_n hx hb dX11_holes_19 rfl (lv_at hl 3 rfl) ?_
      refine lv_aload_n hx hb dX11_holes_20 rfl (lv_at hl 0 rfl) ?_
      refine va_get (D := D) (ci := 11) (v := .int (M 0 0)) (C := RX11) (T := TX11) (N := 26) hx hb hts inX11 hown hK hP 0 (mW_0 cI cZ ad M) rfl 0 (by decide) k0 (fun _ h9 => h9) rfl dX11_holes_21 ?_
      refine lv_aload_n hx hb dX11_holes_24 rfl (lv_at hl 0 rfl) ?_
      refine va_get (D := D) (ci := 11) (v := .int (M 0 1)) (C := RX11) (T := TX11) (N := 26) hx hb hts inX11 hown hK hP 0 (mW_0 cI cZ ad M) rfl 1 (by decide) k2 (fun _ h9 => h9) rfl dX11_holes_25 ?_
      refine lv_imul hx hb dX11_holes_28 ?_
      refine lv_icmp_ge (tgt := 68) hx hb dX11_holes_29 (by decide) (fun q29 => ?_) (fun q29 => ?_)
      · have h := h.1 q29
        exact hK68 x2 M _ _ _ (lv_sub hl [2] rfl) hP hS h
      · have h := h.2 q29
        refine lv_iload_n hx hb dX11_holes_32 rfl (lv_at hl 2 rfl) ?_
        refine lv_aload_n hx hb dX11_holes_33 rfl (lv_at hl 0 rfl) ?_
        refine lv_iload_n hx hb dX11_holes_34 rfl (lv_at hl 1 rfl) ?_
        refine lv_iload_n hx hb dX11_holes_35 rfl (lv_at hl 3 rfl) ?_
        refine lv_aload_n hx hb dX11_holes_36 rfl (lv_at hl 0 rfl) ?_
        refine va_get (D := D) (ci := 11) (v := .int (M 0 0)) (C := RX11) (T := TX11) (N := 26) hx hb hts inX11 hown hK hP 0 (mW_0 cI cZ ad M) rfl 0 (by decide) k0 (fun _ h9 => h9) rfl dX11_holes_37 ?_
        obtain ⟨hn40, h⟩ := h
        refine lv_irem hx hb dX11_holes_40 hn40 ?_
        refine lv_topi (fun v40 ev40 => ?_)
        have h := h v40 ev40
        refine lv_iload_n hx hb dX11_holes_41 rfl (lv_at hl 3 rfl) ?_
        refine lv_aload_n hx hb dX11_holes_42 rfl (lv_at hl 0 rfl) ?_
        refine va_get (D := D) (ci := 11) (v := .int (M 0 0)) (C := RX11) (T := TX11) (N := 26) hx hb hts inX11 hown hK hP 0 (mW_0 cI cZ ad M) rfl 0 (by decide) k0 (fun _ h9 => h9) rfl dX11_holes_43 ?_
        obtain ⟨hn46, h⟩ := h
        refine lv_idiv hx hb dX11_holes_46 hn46 ?_
        refine m_callVi (As := [.int x1, .int v40, .int (x3 / (M 0 0))]) (rest := [.int x2]) ⟨hx, hb, hml, hown, hts⟩ (kX11_seen l D cI cZ ad hD M x1 v40 (x3 / (M 0 0)) _ h) (cwV 3 hts (gdV uS (inA_33 _ (List.mem_of_getElem? (i := 3) rfl)) vX11_seen) rfl rfl rfl (by decide +kernel) ⟨Nat.le_of_ble_eq_true rfl, Nat.le_of_ble_eq_true rfl⟩) (va_recv hK hP (ci := 11) (q0 := 0) rfl (mW_0 cI cZ ad M)) hP hK hS hl.1 rfl rfl (Nat.le_of_ble_eq_true rfl) dX11_holes_47 (fun r47 M47 H locs h hP hS => ?_)
        refine lv_bipush (v := (-4)) hx hb dX11_holes_50 (by decide) ?_
        refine lv_icmp_ne (tgt := 59) hx hb dX11_holes_52 (by decide) (fun q52 => ?_) (fun q52 => ?_)
        · have h := h.1 q52
          refine lv_iconst (v := 0) hx hb dX11_holes_59 (by decide) ?_
          refine lv_iadd hx hb dX11_holes_60 ?_
          refine lv_topi (fun x2_61 ex2_61 => ?_)
          have h := h x2_61 ex2_61
          refine lv_istore_n (lv' := [(2, .int x2_61), (0, .ref (ad 0)), (1, .int x1), (3, .int x3)]) hx hb dX11_holes_61 rfl hl (by decide) rfl (fun ls hl => ?_)
          obtain ⟨x3_62, ex3_62⟩ : ∃ y : Int32, y = x3 + 1 := ⟨_, rfl⟩
          have h := h x3_62 ex3_62
          refine lv_iinc (v := x3_62) (lv' := [(3, .int x3_62), (2, .int x2_61), (0, .ref (ad 0)), (1, .int x1)]) hx hb dX11_holes_62 hl (k := 3) rfl (by rw [ex3_62]; rfl) (by decide) rfl (fun ls hl => ?_)
          refine lv_goto (tgt := 19) hx hb dX11_holes_65 (by decide) ?_
          exact hB x1 x2_61 x3_62 M47 _ _ _ (lv_sub hl [2, 3, 1, 0] rfl) hP hS h
        · have h := h.2 q52
          refine lv_iconst (v := 1) hx hb dX11_holes_55 (by decide) ?_
          refine lv_goto (tgt := 60) hx hb dX11_holes_56 (by decide) ?_
          refine lv_iadd hx hb dX11_holes_60 ?_
          refine lv_topi (fun x2_61 ex2_61 => ?_)
          have h := h x2_61 ex2_61
          refine lv_istore_n (lv' := [(2, .int x2_61), (0, .ref (ad 0)), (1, .int x1), (3, .int x3)]) hx hb dX11_holes_61 rfl hl (by decide) rfl (fun ls hl => ?_)
          obtain ⟨x3_62, ex3_62⟩ : ∃ y : Int32, y = x3 + 1 := ⟨_, rfl⟩
          have h := h x3_62 ex3_62
          refine lv_iinc (v := x3_62) (lv' := [(3, .int x3_62), (2, .int x2_61), (0, .ref (ad 0)), (1, .int x1)]) hx hb dX11_holes_62 hl (k := 3) rfl (by rw [ex3_62]; rfl) (by decide) rfl (fun ls hl => ?_)
          refine lv_goto (tgt := 19) hx hb dX11_holes_65 (by decide) ?_
          exact hB x1 x2_61 x3_62 M47 _ _ _ (lv_sub hl [2, 3, 1, 0] rfl) hP hS h
  have hl := lv_entry ([.ref (ad 0), .int a1]) (n := 4) (Nat.le_of_ble_eq_true rfl)
  rw [lg_entry_eq]
  generalize (lg_sl ([.ref (ad 0), .int a1]) ++ List.replicate (4 - (lg_sl ([.ref (ad 0), .int a1])).length) Slot.unset).toArray = ls at hl ⊢
  have hl : lv_has ls 4 [(0, .ref (ad 0)), (1, .int a1)] := hl
  refine lv_iload_n hx hb dX11_holes_0 rfl (lv_at hl 1 rfl) ?_
  refine lv_iconst (v := 0) hx hb dX11_holes_1 (by decide) ?_
  refine lv_iconst (v := 4) hx hb dX11_holes_2 (by decide) ?_
  refine m_callSi (As := [.int a1, .int 0, .int 4]) (rest := []) ⟨hx, hb, hml, hown, hts⟩ (kX11_in l D cI cZ ad hD M a1 0 4 _ h) (va_cwS 3 hts (gdS uS (inA_9 _ (List.mem_of_getElem? (i := 4) rfl)) vX11_in) rfl rfl rfl (by decide +kernel) ⟨Nat.le_of_ble_eq_true rfl, Nat.le_of_ble_eq_true rfl⟩) hP hK hS hl.1 rfl rfl (Nat.le_of_ble_eq_true rfl) dX11_holes_3 (fun r3 M3 H locs h hP hS => ?_)
  refine lv_if_ne (tgt := 11) hx hb dX11_holes_6 (by decide) (fun q6 => ?_) (fun q6 => ?_)
  · have h := h.1 q6
    refine lv_aload_n hx hb dX11_holes_11 rfl (lv_at hl 0 rfl) ?_
    refine m_callVv (As := []) (rest := []) ⟨hx, hb, hml, hown, hts⟩ (kX11_reckon l D cI cZ ad hD M3 _ h) (cwV 0 hts (gdV uS (inA_21 _ (List.mem_of_getElem? (i := 5) rfl)) vX11_reckon) rfl rfl rfl (by decide +kernel) ⟨Nat.le_of_ble_eq_true rfl, Nat.le_of_ble_eq_true rfl⟩) (va_recv hK hP (ci := 11) (q0 := 0) rfl (mW_0 cI cZ ad M3)) hP hK hS hl.1 rfl rfl (Nat.le_of_ble_eq_true rfl) dX11_holes_12 (fun M12 H locs h hP hS => ?_)
    refine lv_iconst (v := 0) hx hb dX11_holes_15 (by decide) ?_
    refine lv_istore_n (lv' := [(2, .int 0), (0, .ref (ad 0)), (1, .int a1)]) hx hb dX11_holes_16 rfl hl (by decide) rfl (fun ls hl => ?_)
    refine lv_iconst (v := 0) hx hb dX11_holes_17 (by decide) ?_
    refine lv_istore_n (lv' := [(3, .int 0), (2, .int 0), (0, .ref (ad 0)), (1, .int a1)]) hx hb dX11_holes_18 rfl hl (by decide) rfl (fun ls hl => ?_)
    obtain ⟨n, h⟩ := h
    refine L19 _ (fun x2 M H locs ls hl hP hS h => ?_) n a1 0 0 M12 _ _ _ (lv_sub hl [2, 3, 1, 0] rfl) hP hS h
    refine lv_iload_n hx hb dX11_holes_68 rfl (lv_at hl 0 rfl) ?_
    exact W.iret (v := x2) hx hb hr (fun t ht hW => ⟨⟨x2, M, rfl, h, mAt_of ht hP⟩, hS.F ht⟩) hS.2.2 dX11_holes_69
  · have h := h.2 q6
    refine lv_iconst (v := (-1)) hx hb dX11_holes_9 (by decide) ?_
    exact W.iret (v := (-1)) hx hb hr (fun t ht hW => ⟨⟨(-1), M3, rfl, h, mAt_of ht hP⟩, hS.F ht⟩) hS.2.2 dX11_holes_10
abbrev GX11_draw (p : Program) (l : Launch) (e : Env) (s : State) (m : MethodId) (below : List Frame) (meth : Method) (c : Code) (D : va_G) (cI cZ : ClassId) (ad : Nat → Nat) (a1 a2 a3 a4 a5 a6 : Int32) (Q : Int32 → Mem → Prop) (H : Heap) (locs : List Loc) (g : JFrame) : Prop := W p l e (headSpec uX11_draw { frames := 1, cells := 0, slots := 0, locals := 23 }).room s m ([.ref (ad 0), .int a1, .int a2, .int a3, .int a4, .int a5, .int a6] : List Value).toArray below meth c H locs 0 0 (MQ below (va_Qi Q (mAt D cI cZ ad) (mA ad)) ([.ref (ad 0), .int a1, .int a2, .int a3, .int a4, .int a5, .int a6] : List Value).toArray s 0 0 (mA ad)) g
set_option maxHeartbeats 4000000 in
set_option maxRecDepth 100000 in
theorem kX11_draw (l : Launch) (D : va_G) (cI cZ : ClassId) (ad : Nat → Nat) (hD : ∀ M : Mem, va_D (mA ad) (mW cI cZ ad M)) (M : Mem) (a1 a2 a3 a4 a5 a6 : Int32) (Q : Int32 → Mem → Prop) (h : wX11_draw M a1 a2 a3 a4 a5 a6 Q) : Met l yX11_draw uX11_draw ({ frames := 1, cells := 0, slots := 0, locals := 23 }) (va_Pc [.ref (ad 0), .int a1, .int a2, .int a3, .int a4, .int a5, .int a6] (mPre D cI cZ ad M)) (va_Qi Q (mAt D cI cZ ad) (mA ad)) 0 0 (mA ad) := by
  refine Met.ofW (cc := cX11_draw) (maxL := 12) (ret := (some .int)) (by decide) rfl ?_
  intro p e s m args below meth c s₁ B hml hv
  obtain ⟨rfl, hP, hK⟩ := hv
  have hx := B.exec
  have hb := B.bytes
  have hr := B.returns
  have hts := atoms_spec (ws := uX11_draw) B.pre
  have hown : s.vm.findClass RX11 = some m.cls := findClass_of_methodNamed B.named
  have hlocks := B.notSynchronized
  have hS : va_S (mA ad) s.heap s.heap [] := va_S.rf
  have k0 := hts (.fieldLink RX11 24 "TwoEyesModel" "isRowGone" "[Z") (List.mem_cons_of_mem _ (inA_6 _ (List.mem_of_getElem? (i := 22) rfl)))
  have inX11 : ∀ w ∈ wsX110, w ∈ uX11_draw := fun w h => List.mem_cons_of_mem _ (inCX11 w h)
  have k2 := hts (.constant RX11 194 (1103515245)) (List.mem_cons_of_mem _ (inA_34 _ (List.mem_of_getElem? (i := 13) rfl)))
  have k3 := hts (.fieldLink RX11 16 "TwoEyesModel" "shades" "[I") (List.mem_cons_of_mem _ (inA_6 _ (List.mem_of_getElem? (i := 20) rfl)))
  have k4 := hts (.fieldLink RX11 20 "TwoEyesModel" "isGone" "[Z") (List.mem_cons_of_mem _ (inA_6 _ (List.mem_of_getElem? (i := 21) rfl)))
  have k5 := hts (.fieldLink RX11 27 "TwoEyesModel" "truths" "[I") (List.mem_cons_of_mem _ (inA_6 _ (List.mem_of_getElem? (i := 23) rfl)))
  have k6 := hts (.fieldLink RX11 7 "TwoEyesModel" "width" "I") (List.mem_cons_of_mem _ (inA_6 _ (List.mem_of_getElem? (i := 18) rfl)))
  have k7 := hts (.fieldLink RX11 13 "TwoEyesModel" "height" "I") (List.mem_cons_of_mem _ (inA_6 _ (List.mem_of_getElem? (i := 19) rfl)))
  have k8 := hts (.fieldLink RX11 76 "TwoEyesModel" "isReckoned" "Z") (List.mem_cons_of_mem _ (inA_7 _ (List.mem_of_getElem? (i := 18) rfl)))
  have L88 : ∀ (K129 : Int32 → Int32 → Int32 → Int32 → Int32 → Int32 → Mem → Prop), (∀ (x1 x2 x3 x4 x5 x6 : Int32) (M : Mem) (H : Heap) (locs : List Loc) (ls : Array Slot), lv_has ls 12 [(0, .ref (ad 0)), (1, .int x1), (2, .int x2), (3, .int x3), (4, .int x4), (5, .int x5), (6, .int x6)] → va_P D vwCl (mW cI cZ ad M) H → va_S (mA ad) s.heap H locs → K129 x1 x2 x3 x4 x5 x6 M → GX11_draw p l e s m below meth c D cI cZ ad a1 a2 a3 a4 a5 a6 Q H locs (F0 m 129 ls [])) → ∀ n : Nat, ∀ (x1 x2 x3 x4 x5 x6 x8 : Int32) (M : Mem) (H : Heap) (locs : List Loc) (ls : Array Slot), lv_has ls 12 [(0, .ref (ad 0)), (1, .int x1), (2, .int x2), (3, .int x3), (4, .int x4), (5, .int x5), (6, .int x6), (8, .int x8)] → va_P D vwCl (mW cI cZ ad M) H → va_S (mA ad) s.heap H locs → wX11_draw_L88 K129 Q n x1 x2 x3 x4 x5 x6 x8 M → GX11_draw p l e s m below meth c D cI cZ ad a1 a2 a3 a4 a5 a6 Q H locs (F0 m 88 ls []) := by
    intro K129 hK129 n
    induction n with
    | zero => intro x1 x2 x3 x4 x5 x6 x8 M H locs ls hl hP hS h; exact (show False from h).elim
    | succ n hB =>
      intro x1 x2 x3 x4 x5 x6 x8 M H locs ls hl hP hS h
      rw [wX11_draw_L88_s] at h
      refine lv_iload hx hb dX11_draw_88 (lv_at hl 7 rfl) ?_
      refine lv_iload_n hx hb dX11_draw_90 rfl (lv_at hl 2 rfl) ?_
      refine lv_iload hx hb dX11_draw_91 (lv_at hl 4 rfl) ?_
      refine lv_iadd hx hb dX11_draw_93 ?_
      refine lv_icmp_ge (tgt := 129) hx hb dX11_draw_94 (by decide) (fun q94 => ?_) (fun q94 => ?_)
      · have h := h.1 q94
        exact hK129 x1 x2 x3 x4 x5 x6 M _ _ _ (lv_sub hl [0, 1, 2, 3, 4, 5, 6] rfl) hP hS h
      · have h := h.2 q94
        refine lv_aload_n hx hb dX11_draw_97 rfl (lv_at hl 0 rfl) ?_
        refine va_get (D := D) (ci := 11) (v := .ref (ad 3)) (C := RX11) (T := TX11) (N := 26) hx hb hts inX11 hown hK hP 0 (mW_0 cI cZ ad M) rfl 4 (by decide) k0 (fun _ h9 => h9) rfl dX11_draw_98 ?_
        refine lv_iload hx hb dX11_draw_101 (lv_at hl 7 rfl) ?_
        obtain ⟨hi103, h⟩ := h
        refine va_zald hx hb hK hP 3 1 (mW_3 cI cZ ad M) rfl hi103 dX11_draw_103 ?_
        refine lv_if_ne (tgt := 120) hx hb dX11_draw_104 (by decide) (fun q104 => ?_) (fun q104 => ?_)
        · have h := h.1 q104
          refine lv_bipush (v := (-2)) hx hb dX11_draw_120 (by decide) ?_
          exact W.iret (v := (-2)) hx hb hr (fun t ht hW => ⟨⟨(-2), M, rfl, h, mAt_of ht hP⟩, hS.F ht⟩) hS.2.2 dX11_draw_122
        · have h := h.2 q104
          refine lv_aload_n hx hb dX11_draw_107 rfl (lv_at hl 0 rfl) ?_
          refine va_get (D := D) (ci := 11) (v := .ref (ad 3)) (C := RX11) (T := TX11) (N := 26) hx hb hts inX11 hown hK hP 0 (mW_0 cI cZ ad M) rfl 4 (by decide) k0 (fun _ h9 => h9) rfl dX11_draw_108 ?_
          refine lv_bipush (v := 10) hx hb dX11_draw_111 (by decide) ?_
          refine lv_iload hx hb dX11_draw_113 (lv_at hl 7 rfl) ?_
          refine lv_iadd hx hb dX11_draw_115 ?_
          obtain ⟨hi116, h⟩ := h
          refine va_zald hx hb hK hP 3 1 (mW_3 cI cZ ad M) rfl hi116 dX11_draw_116 ?_
          refine lv_if_eq (tgt := 123) hx hb dX11_draw_117 (by decide) (fun q117 => ?_) (fun q117 => ?_)
          · have h := h.1 q117
            obtain ⟨x8_123, ex8_123⟩ : ∃ y : Int32, y = x8 + 1 := ⟨_, rfl⟩
            have h := h x8_123 ex8_123
            refine lv_iinc (v := x8_123) (lv' := [(8, .int x8_123), (0, .ref (ad 0)), (1, .int x1), (2, .int x2), (3, .int x3), (4, .int x4), (5, .int x5), (6, .int x6)]) hx hb dX11_draw_123 hl (k := 7) rfl (by rw [ex8_123]; rfl) (by decide) rfl (fun ls hl => ?_)
            refine lv_goto (tgt := 88) hx hb dX11_draw_126 (by decide) ?_
            exact hB x1 x2 x3 x4 x5 x6 x8_123 M _ _ _ (lv_sub hl [1, 2, 3, 4, 5, 6, 7, 0] rfl) hP hS h
          · have h := h.2 q117
            refine lv_bipush (v := (-2)) hx hb dX11_draw_120 (by decide) ?_
            exact W.iret (v := (-2)) hx hb hr (fun t ht hW => ⟨⟨(-2), M, rfl, h, mAt_of ht hP⟩, hS.F ht⟩) hS.2.2 dX11_draw_122
  have L148 : ∀ (K276 : Int32 → Int32 → Int32 → Int32 → Int32 → Int32 → Int32 → Mem → Prop), (∀ (x1 x2 x3 x4 x5 x8 x9 : Int32) (M : Mem) (H : Heap) (locs : List Loc) (ls : Array Slot), lv_has ls 12 [(0, .ref (ad 0)), (1, .int x1), (2, .int x2), (3, .int x3), (4, .int x4), (5, .int x5), (8, .int x8), (9, .int x9)] → va_P D vwCl (mW cI cZ ad M) H → va_S (mA ad) s.heap H locs → K276 x1 x2 x3 x4 x5 x8 x9 M → GX11_draw p l e s m below meth c D cI cZ ad a1 a2 a3 a4 a5 a6 Q H locs (F0 m 276 ls [])) → ∀ n : Nat, ∀ (x1 x2 x3 x4 x5 x8 x9 x10 : Int32) (M : Mem) (H : Heap) (locs : List Loc) (ls : Array Slot), lv_has ls 12 [(0, .ref (ad 0)), (1, .int x1), (2, .int x2), (3, .int x3), (4, .int x4), (5, .int x5), (8, .int x8), (9, .int x9), (10, .int x10)] → va_P D vwCl (mW cI cZ ad M) H → va_S (mA ad) s.heap H locs → wX11_draw_L148 K276 Q n x1 x2 x3 x4 x5 x8 x9 x10 M → GX11_draw p l e s m below meth c D cI cZ ad a1 a2 a3 a4 a5 a6 Q H locs (F0 m 148 ls []) := by
    intro K276 hK276 n
    induction n with
    | zero => intro x1 x2 x3 x4 x5 x8 x9 x10 M H locs ls hl hP hS h; exact (show False from h).elim
    | succ n hB =>
      intro x1 x2 x3 x4 x5 x8 x9 x10 M H locs ls hl hP hS h
      rw [wX11_draw_L148_s] at h
      refine lv_iload hx hb dX11_draw_148 (lv_at hl 8 rfl) ?_
      refine lv_iload_n hx hb dX11_draw_150 rfl (lv_at hl 1 rfl) ?_
      refine lv_iload_n hx hb dX11_draw_151 rfl (lv_at hl 3 rfl) ?_
      refine lv_iadd hx hb dX11_draw_152 ?_
      refine lv_icmp_ge (tgt := 276) hx hb dX11_draw_153 (by decide) (fun q153 => ?_) (fun q153 => ?_)
      · have h := h.1 q153
        exact hK276 x1 x2 x3 x4 x5 x8 x9 M _ _ _ (lv_sub hl [0, 1, 2, 3, 4, 5, 6, 7] rfl) hP hS h
      · have h := h.2 q153
        refine lv_ldc hx hb hown k2 dX11_draw_156 ?_
        refine lv_iload hx hb dX11_draw_158 (lv_at hl 6 rfl) ?_
        refine lv_imul hx hb dX11_draw_160 ?_
        refine lv_sipush (v := 12345) hx hb dX11_draw_161 (by decide) ?_
        refine lv_iadd hx hb dX11_draw_164 ?_
        refine lv_topi (fun x8_165 ex8_165 => ?_)
        have h := h x8_165 ex8_165
        refine lv_istore (lv' := [(8, .int x8_165), (0, .ref (ad 0)), (1, .int x1), (2, .int x2), (3, .int x3), (4, .int x4), (5, .int x5), (9, .int x9), (10, .int x10)]) hx hb dX11_draw_165 hl (by decide) rfl (fun ls hl => ?_)
        refine lv_iload hx hb dX11_draw_167 (lv_at hl 0 rfl) ?_
        refine lv_bipush (v := 16) hx hb dX11_draw_169 (by decide) ?_
        refine lv_iushr (v := (jushr x8_165 16)) hx hb dX11_draw_171 rfl ?_
        refine lv_sipush (v := 256) hx hb dX11_draw_172 (by decide) ?_
        obtain ⟨hn175, h⟩ := h
        refine lv_irem hx hb dX11_draw_175 hn175 ?_
        refine lv_topi (fun v175 ev175 => ?_)
        have h := h v175 ev175
        refine lv_istore (lv' := [(11, .int v175), (8, .int x8_165), (0, .ref (ad 0)), (1, .int x1), (2, .int x2), (3, .int x3), (4, .int x4), (5, .int x5), (9, .int x9), (10, .int x10)]) hx hb dX11_draw_176 hl (by decide) rfl (fun ls hl => ?_)
        refine lv_aload_n hx hb dX11_draw_178 rfl (lv_at hl 2 rfl) ?_
        refine va_get (D := D) (ci := 11) (v := .ref (ad 1)) (C := RX11) (T := TX11) (N := 26) hx hb hts inX11 hown hK hP 0 (mW_0 cI cZ ad M) rfl 2 (by decide) k3 (fun _ h9 => h9) rfl dX11_draw_179 ?_
        refine lv_aload_n hx hb dX11_draw_182 rfl (lv_at hl 2 rfl) ?_
        refine lv_iconst (v := 0) hx hb dX11_draw_183 (by decide) ?_
        refine lv_iload hx hb dX11_draw_184 (lv_at hl 9 rfl) ?_
        refine lv_iload hx hb dX11_draw_186 (lv_at hl 8 rfl) ?_
        refine m_callVi (As := [.int 0, .int x10, .int x9]) (rest := [.ref (ad 1)]) ⟨hx, hb, hml, hown, hts⟩ (kX11_at l D cI cZ ad hD M 0 x10 x9 _ h) (cwV 3 hts (gdV uS (inA_11 _ (List.mem_of_getElem? (i := 6) rfl)) vX11_at) rfl rfl rfl (by decide +kernel) ⟨Nat.le_of_ble_eq_true rfl, Nat.le_of_ble_eq_true rfl⟩) (va_recv hK hP (ci := 11) (q0 := 0) rfl (mW_0 cI cZ ad M)) hP hK hS hl.1 rfl rfl (Nat.le_of_ble_eq_true rfl) dX11_draw_188 (fun r188 M188 H locs h hP hS => ?_)
        refine lv_iload hx hb dX11_draw_191 (lv_at hl 0 rfl) ?_
        obtain ⟨hi193, h⟩ := h
        refine va_iast hx hb hK hP (hD M188) hS 1 0 (mW_1 cI cZ ad M188) rfl hi193 dX11_draw_193 (fun H locs hP _ hS => ?_)
        refine mQ_1 hP (fun M193 eM193 hP => ?_)
        have h := h M193 eM193
        refine lv_aload_n hx hb dX11_draw_194 rfl (lv_at hl 2 rfl) ?_
        refine va_get (D := D) (ci := 11) (v := .ref (ad 2)) (C := RX11) (T := TX11) (N := 26) hx hb hts inX11 hown hK hP 0 (mW_0 cI cZ ad M193) rfl 3 (by decide) k4 (fun _ h9 => h9) rfl dX11_draw_195 ?_
        refine lv_aload_n hx hb dX11_draw_198 rfl (lv_at hl 2 rfl) ?_
        refine lv_iconst (v := 0) hx hb dX11_draw_199 (by decide) ?_
        refine lv_iload hx hb dX11_draw_200 (lv_at hl 9 rfl) ?_
        refine lv_iload hx hb dX11_draw_202 (lv_at hl 8 rfl) ?_
        refine m_callVi (As := [.int 0, .int x10, .int x9]) (rest := [.ref (ad 2)]) ⟨hx, hb, hml, hown, hts⟩ (kX11_at l D cI cZ ad hD M193 0 x10 x9 _ h) (cwV 3 hts (gdV uS (inA_11 _ (List.mem_of_getElem? (i := 6) rfl)) vX11_at) rfl rfl rfl (by decide +kernel) ⟨Nat.le_of_ble_eq_true rfl, Nat.le_of_ble_eq_true rfl⟩) (va_recv hK hP (ci := 11) (q0 := 0) rfl (mW_0 cI cZ ad M193)) hP hK hS hl.1 rfl rfl (Nat.le_of_ble_eq_true rfl) dX11_draw_204 (fun r204 M204 H locs h hP hS => ?_)
        refine lv_iconst (v := 0) hx hb dX11_draw_207 (by decide) ?_
        obtain ⟨hi208, h⟩ := h
        refine va_zast hx hb hK hP (hD M204) hS 2 1 (mW_2 cI cZ ad M204) rfl hi208 dX11_draw_208 (fun H locs hP _ hS => ?_)
        rw [zst (Or.inl rfl)] at hP
        refine mQ_2 hP (fun M208 eM208 hP => ?_)
        have h := h M208 eM208
        refine lv_aload_n hx hb dX11_draw_209 rfl (lv_at hl 2 rfl) ?_
        refine va_get (D := D) (ci := 11) (v := .ref (ad 4)) (C := RX11) (T := TX11) (N := 26) hx hb hts inX11 hown hK hP 0 (mW_0 cI cZ ad M208) rfl 5 (by decide) k5 (fun _ h9 => h9) rfl dX11_draw_210 ?_
        refine lv_aload_n hx hb dX11_draw_213 rfl (lv_at hl 2 rfl) ?_
        refine va_get (D := D) (ci := 11) (v := .int (M208 0 0)) (C := RX11) (T := TX11) (N := 26) hx hb hts inX11 hown hK hP 0 (mW_0 cI cZ ad M208) rfl 0 (by decide) k6 (fun _ h9 => h9) rfl dX11_draw_214 ?_
        refine lv_iload hx hb dX11_draw_217 (lv_at hl 8 rfl) ?_
        refine lv_imul hx hb dX11_draw_219 ?_
        refine lv_iload hx hb dX11_draw_220 (lv_at hl 9 rfl) ?_
        refine lv_iadd hx hb dX11_draw_222 ?_
        refine lv_iload hx hb dX11_draw_223 (lv_at hl 7 rfl) ?_
        obtain ⟨hi225, h⟩ := h
        refine va_iast hx hb hK hP (hD M208) hS 4 0 (mW_4 cI cZ ad M208) rfl hi225 dX11_draw_225 (fun H locs hP _ hS => ?_)
        refine mQ_4 hP (fun M225 eM225 hP => ?_)
        have h := h M225 eM225
        refine lv_iload hx hb dX11_draw_226 (lv_at hl 9 rfl) ?_
        refine lv_iload hx hb dX11_draw_228 (lv_at hl 7 rfl) ?_
        refine lv_icmp_lt (tgt := 270) hx hb dX11_draw_230 (by decide) (fun q230 => ?_) (fun q230 => ?_)
        · have h := h.1 q230
          obtain ⟨x10_270, ex10_270⟩ : ∃ y : Int32, y = x10 + 1 := ⟨_, rfl⟩
          have h := h x10_270 ex10_270
          refine lv_iinc (v := x10_270) (lv' := [(10, .int x10_270), (11, .int v175), (8, .int x8_165), (0, .ref (ad 0)), (1, .int x1), (2, .int x2), (3, .int x3), (4, .int x4), (5, .int x5), (9, .int x9)]) hx hb dX11_draw_270 hl (k := 9) rfl (by rw [ex10_270]; rfl) (by decide) rfl (fun ls hl => ?_)
          refine lv_goto (tgt := 148) hx hb dX11_draw_273 (by decide) ?_
          exact hB x1 x2 x3 x4 x5 x8_165 x9 x10_270 M225 _ _ _ (lv_sub hl [3, 4, 5, 6, 7, 8, 2, 9, 0] rfl) hP hS h
        · have h := h.2 q230
          refine lv_aload_n hx hb dX11_draw_233 rfl (lv_at hl 2 rfl) ?_
          refine va_get (D := D) (ci := 11) (v := .ref (ad 1)) (C := RX11) (T := TX11) (N := 26) hx hb hts inX11 hown hK hP 0 (mW_0 cI cZ ad M225) rfl 2 (by decide) k3 (fun _ h9 => h9) rfl dX11_draw_234 ?_
          refine lv_aload_n hx hb dX11_draw_237 rfl (lv_at hl 2 rfl) ?_
          refine lv_iconst (v := 1) hx hb dX11_draw_238 (by decide) ?_
          refine lv_iload hx hb dX11_draw_239 (lv_at hl 9 rfl) ?_
          refine lv_iload hx hb dX11_draw_241 (lv_at hl 7 rfl) ?_
          refine lv_isub hx hb dX11_draw_243 ?_
          refine lv_iload hx hb dX11_draw_244 (lv_at hl 8 rfl) ?_
          refine m_callVi (As := [.int 1, .int (x10 - x5), .int x9]) (rest := [.ref (ad 1)]) ⟨hx, hb, hml, hown, hts⟩ (kX11_at l D cI cZ ad hD M225 1 (x10 - x5) x9 _ h) (cwV 3 hts (gdV uS (inA_11 _ (List.mem_of_getElem? (i := 6) rfl)) vX11_at) rfl rfl rfl (by decide +kernel) ⟨Nat.le_of_ble_eq_true rfl, Nat.le_of_ble_eq_true rfl⟩) (va_recv hK hP (ci := 11) (q0 := 0) rfl (mW_0 cI cZ ad M225)) hP hK hS hl.1 rfl rfl (Nat.le_of_ble_eq_true rfl) dX11_draw_246 (fun r246 M246 H locs h hP hS => ?_)
          refine lv_iload hx hb dX11_draw_249 (lv_at hl 0 rfl) ?_
          obtain ⟨hi251, h⟩ := h
          refine va_iast hx hb hK hP (hD M246) hS 1 0 (mW_1 cI cZ ad M246) rfl hi251 dX11_draw_251 (fun H locs hP _ hS => ?_)
          refine mQ_1 hP (fun M251 eM251 hP => ?_)
          have h := h M251 eM251
          refine lv_aload_n hx hb dX11_draw_252 rfl (lv_at hl 2 rfl) ?_
          refine va_get (D := D) (ci := 11) (v := .ref (ad 2)) (C := RX11) (T := TX11) (N := 26) hx hb hts inX11 hown hK hP 0 (mW_0 cI cZ ad M251) rfl 3 (by decide) k4 (fun _ h9 => h9) rfl dX11_draw_253 ?_
          refine lv_aload_n hx hb dX11_draw_256 rfl (lv_at hl 2 rfl) ?_
          refine lv_iconst (v := 1) hx hb dX11_draw_257 (by decide) ?_
          refine lv_iload hx hb dX11_draw_258 (lv_at hl 9 rfl) ?_
          refine lv_iload hx hb dX11_draw_260 (lv_at hl 7 rfl) ?_
          refine lv_isub hx hb dX11_draw_262 ?_
          refine lv_iload hx hb dX11_draw_263 (lv_at hl 8 rfl) ?_
          refine m_callVi (As := [.int 1, .int (x10 - x5), .int x9]) (rest := [.ref (ad 2)]) ⟨hx, hb, hml, hown, hts⟩ (kX11_at l D cI cZ ad hD M251 1 (x10 - x5) x9 _ h) (cwV 3 hts (gdV uS (inA_11 _ (List.mem_of_getElem? (i := 6) rfl)) vX11_at) rfl rfl rfl (by decide +kernel) ⟨Nat.le_of_ble_eq_true rfl, Nat.le_of_ble_eq_true rfl⟩) (va_recv hK hP (ci := 11) (q0 := 0) rfl (mW_0 cI cZ ad M251)) hP hK hS hl.1 rfl rfl (Nat.le_of_ble_eq_true rfl) dX11_draw_265 (fun r265 M265 H locs h hP hS => ?_)
          refine lv_iconst (v := 0) hx hb dX11_draw_268 (by decide) ?_
          obtain ⟨hi269, h⟩ := h
          refine va_zast hx hb hK hP (hD M265) hS 2 1 (mW_2 cI cZ ad M265) rfl hi269 dX11_draw_269 (fun H locs hP _ hS => ?_)
          rw [zst (Or.inl rfl)] at hP
          refine mQ_2 hP (fun M269 eM269 hP => ?_)
          have h := h M269 eM269
          obtain ⟨x10_270, ex10_270⟩ : ∃ y : Int32, y = x10 + 1 := ⟨_, rfl⟩
          have h := h x10_270 ex10_270
          refine lv_iinc (v := x10_270) (lv' := [(10, .int x10_270), (11, .int v175), (8, .int x8_165), (0, .ref (ad 0)), (1, .int x1), (2, .int x2), (3, .int x3), (4, .int x4), (5, .int x5), (9, .int x9)]) hx hb dX11_draw_270 hl (k := 9) rfl (by rw [ex10_270]; rfl) (by decide) rfl (fun ls hl => ?_)
          refine lv_goto (tgt := 148) hx hb dX11_draw_273 (by decide) ?_
          exact hB x1 x2 x3 x4 x5 x8_165 x9 x10_270 M269 _ _ _ (lv_sub hl [3, 4, 5, 6, 7, 8, 2, 9, 0] rfl) hP hS h
  have L136 : ∀ (K282 : Int32 → Int32 → Mem → Prop), (∀ (x3 x4 : Int32) (M : Mem) (H : Heap) (locs : List Loc) (ls : Array Slot), lv_has ls 12 [(0, .ref (ad 0)), (3, .int x3), (4, .int x4)] → va_P D vwCl (mW cI cZ ad M) H → va_S (mA ad) s.heap H locs → K282 x3 x4 M → GX11_draw p l e s m below meth c D cI cZ ad a1 a2 a3 a4 a5 a6 Q H locs (F0 m 282 ls [])) → ∀ n : Nat, ∀ (x1 x2 x3 x4 x5 x8 x9 : Int32) (M : Mem) (H : Heap) (locs : List Loc) (ls : Array Slot), lv_has ls 12 [(0, .ref (ad 0)), (1, .int x1), (2, .int x2), (3, .int x3), (4, .int x4), (5, .int x5), (8, .int x8), (9, .int x9)] → va_P D vwCl (mW cI cZ ad M) H → va_S (mA ad) s.heap H locs → wX11_draw_L136 K282 Q n x1 x2 x3 x4 x5 x8 x9 M → GX11_draw p l e s m below meth c D cI cZ ad a1 a2 a3 a4 a5 a6 Q H locs (F0 m 136 ls []) := by
    intro K282 hK282 n
    induction n with
    | zero => intro x1 x2 x3 x4 x5 x8 x9 M H locs ls hl hP hS h; exact (show False from h).elim
    | succ n hB =>
      intro x1 x2 x3 x4 x5 x8 x9 M H locs ls hl hP hS h
      rw [wX11_draw_L136_s] at h
      refine lv_iload hx hb dX11_draw_136 (lv_at hl 7 rfl) ?_
      refine lv_iload_n hx hb dX11_draw_138 rfl (lv_at hl 2 rfl) ?_
      refine lv_iload hx hb dX11_draw_139 (lv_at hl 4 rfl) ?_
      refine lv_iadd hx hb dX11_draw_141 ?_
      refine lv_icmp_ge (tgt := 282) hx hb dX11_draw_142 (by decide) (fun q142 => ?_) (fun q142 => ?_)
      · have h := h.1 q142
        exact hK282 x3 x4 M _ _ _ (lv_sub hl [0, 3, 4] rfl) hP hS h
      · have h := h.2 q142
        refine lv_iload_n hx hb dX11_draw_145 rfl (lv_at hl 1 rfl) ?_
        refine lv_istore (lv' := [(10, .int x1), (0, .ref (ad 0)), (1, .int x1), (2, .int x2), (3, .int x3), (4, .int x4), (5, .int x5), (8, .int x8), (9, .int x9)]) hx hb dX11_draw_146 hl (by decide) rfl (fun ls hl => ?_)
        obtain ⟨n, h⟩ := h
        refine L148 _ (fun x1 x2 x3 x4 x5 x8 x9 M H locs ls hl hP hS h => ?_) n x1 x2 x3 x4 x5 x8 x9 x1 M _ _ _ (lv_sub hl [1, 2, 3, 4, 5, 6, 7, 8, 0] rfl) hP hS h
        obtain ⟨x9_276, ex9_276⟩ : ∃ y : Int32, y = x9 + 1 := ⟨_, rfl⟩
        have h := h x9_276 ex9_276
        refine lv_iinc (v := x9_276) (lv' := [(9, .int x9_276), (0, .ref (ad 0)), (1, .int x1), (2, .int x2), (3, .int x3), (4, .int x4), (5, .int x5), (8, .int x8)]) hx hb dX11_draw_276 hl (k := 7) rfl (by rw [ex9_276]; rfl) (by decide) rfl (fun ls hl => ?_)
        refine lv_goto (tgt := 136) hx hb dX11_draw_279 (by decide) ?_
        exact hB x1 x2 x3 x4 x5 x8 x9_276 M _ _ _ (lv_sub hl [1, 2, 3, 4, 5, 6, 7, 0] rfl) hP hS h
  have J55 : ∀ (x1 x2 x3 x4 x5 x6 t0 : Int32) (M : Mem) (H : Heap) (locs : List Loc) (ls : Array Slot), lv_has ls 12 [(0, .ref (ad 0)), (1, .int x1), (2, .int x2), (3, .int x3), (4, .int x4), (5, .int x5), (6, .int x6)] → va_P D vwCl (mW cI cZ ad M) H → va_S (mA ad) s.heap H locs → wX11_draw_J55 Q x1 x2 x3 x4 x5 x6 t0 M → GX11_draw p l e s m below meth c D cI cZ ad a1 a2 a3 a4 a5 a6 Q H locs (F0 m 55 ls [.int t0]) := by
    intro x1 x2 x3 x4 x5 x6 t0 M H locs ls hl hP hS h
    refine lv_istore (lv' := [(7, .int t0), (0, .ref (ad 0)), (1, .int x1), (2, .int x2), (3, .int x3), (4, .int x4), (5, .int x5), (6, .int x6)]) hx hb dX11_draw_55 hl (by decide) rfl (fun ls hl => ?_)
    refine lv_iload hx hb dX11_draw_57 (lv_at hl 0 rfl) ?_
    refine lv_if_eq (tgt := 83) hx hb dX11_draw_59 (by decide) (fun q59 => ?_) (fun q59 => ?_)
    · have h := h.1 q59
      refine lv_iconst (v := (-1)) hx hb dX11_draw_83 (by decide) ?_
      exact W.iret (v := (-1)) hx hb hr (fun t ht hW => ⟨⟨(-1), M, rfl, h, mAt_of ht hP⟩, hS.F ht⟩) hS.2.2 dX11_draw_84
    · have h := h.2 q59
      refine lv_iload_n hx hb dX11_draw_62 rfl (lv_at hl 4 rfl) ?_
      refine lv_aload_n hx hb dX11_draw_63 rfl (lv_at hl 1 rfl) ?_
      refine va_get (D := D) (ci := 11) (v := .int (M 0 0)) (C := RX11) (T := TX11) (N := 26) hx hb hts inX11 hown hK hP 0 (mW_0 cI cZ ad M) rfl 0 (by decide) k6 (fun _ h9 => h9) rfl dX11_draw_64 ?_
      refine lv_iload_n hx hb dX11_draw_67 rfl (lv_at hl 2 rfl) ?_
      refine lv_isub hx hb dX11_draw_68 ?_
      refine lv_icmp_gt (tgt := 83) hx hb dX11_draw_69 (by decide) (fun q69 => ?_) (fun q69 => ?_)
      · have h := h.1 q69
        refine lv_iconst (v := (-1)) hx hb dX11_draw_83 (by decide) ?_
        exact W.iret (v := (-1)) hx hb hr (fun t ht hW => ⟨⟨(-1), M, rfl, h, mAt_of ht hP⟩, hS.F ht⟩) hS.2.2 dX11_draw_84
      · have h := h.2 q69
        refine lv_iload hx hb dX11_draw_72 (lv_at hl 5 rfl) ?_
        refine lv_aload_n hx hb dX11_draw_74 rfl (lv_at hl 1 rfl) ?_
        refine va_get (D := D) (ci := 11) (v := .int (M 0 1)) (C := RX11) (T := TX11) (N := 26) hx hb hts inX11 hown hK hP 0 (mW_0 cI cZ ad M) rfl 1 (by decide) k7 (fun _ h9 => h9) rfl dX11_draw_75 ?_
        refine lv_iload_n hx hb dX11_draw_78 rfl (lv_at hl 3 rfl) ?_
        refine lv_isub hx hb dX11_draw_79 ?_
        refine lv_icmp_le (tgt := 85) hx hb dX11_draw_80 (by decide) (fun q80 => ?_) (fun q80 => ?_)
        · have h := h.1 q80
          refine lv_iload_n hx hb dX11_draw_85 rfl (lv_at hl 3 rfl) ?_
          refine lv_istore (lv' := [(8, .int x2), (7, .int t0), (0, .ref (ad 0)), (1, .int x1), (2, .int x2), (3, .int x3), (4, .int x4), (5, .int x5), (6, .int x6)]) hx hb dX11_draw_86 hl (by decide) rfl (fun ls hl => ?_)
          obtain ⟨n, h⟩ := h
          refine L88 _ (fun x1 x2 x3 x4 x5 x6 M H locs ls hl hP hS h => ?_) n x1 x2 x3 x4 x5 x6 x2 M _ _ _ (lv_sub hl [2, 3, 4, 5, 6, 7, 8, 0] rfl) hP hS h
          refine lv_iload hx hb dX11_draw_129 (lv_at hl 6 rfl) ?_
          refine lv_istore (lv' := [(8, .int x6), (0, .ref (ad 0)), (1, .int x1), (2, .int x2), (3, .int x3), (4, .int x4), (5, .int x5), (6, .int x6)]) hx hb dX11_draw_131 hl (by decide) rfl (fun ls hl => ?_)
          refine lv_iload_n hx hb dX11_draw_133 rfl (lv_at hl 3 rfl) ?_
          refine lv_istore (lv' := [(9, .int x2), (8, .int x6), (0, .ref (ad 0)), (1, .int x1), (2, .int x2), (3, .int x3), (4, .int x4), (5, .int x5), (6, .int x6)]) hx hb dX11_draw_134 hl (by decide) rfl (fun ls hl => ?_)
          obtain ⟨n, h⟩ := h
          refine L136 _ (fun x3 x4 M H locs ls hl hP hS h => ?_) n x1 x2 x3 x4 x5 x6 x2 M _ _ _ (lv_sub hl [2, 3, 4, 5, 6, 7, 1, 0] rfl) hP hS h
          refine lv_aload_n hx hb dX11_draw_282 rfl (lv_at hl 0 rfl) ?_
          refine lv_iconst (v := 0) hx hb dX11_draw_283 (by decide) ?_
          refine va_put (D := D) (ci := 11) (v := .int 0) (ty := .boolean) (C := RX11) (T := TX11) (N := 26) hx hb hts inX11 tyX11 tyX11_ok nmX11 hown hK hP (hD M) hS 0 (mW_0 cI cZ ad M) rfl 15 (by decide) k8 (fun _ h9 => h9) rfl (by decide +kernel) rfl rfl (Nat.le_of_ble_eq_true rfl) dX11_draw_284 (fun H locs hP _ hS => ?_)
          refine mP_0_15 hP (fun M284 eM284 hP => ?_)
          have h := h M284 eM284
          refine lv_iload_n hx hb dX11_draw_287 rfl (lv_at hl 1 rfl) ?_
          refine lv_iload hx hb dX11_draw_288 (lv_at hl 2 rfl) ?_
          refine lv_imul hx hb dX11_draw_290 ?_
          exact W.iret (v := (x3 * x4)) hx hb hr (fun t ht hW => ⟨⟨(x3 * x4), M284, rfl, h, mAt_of ht hP⟩, hS.F ht⟩) hS.2.2 dX11_draw_291
        · have h := h.2 q80
          refine lv_iconst (v := (-1)) hx hb dX11_draw_83 (by decide) ?_
          exact W.iret (v := (-1)) hx hb hr (fun t ht hW => ⟨⟨(-1), M, rfl, h, mAt_of ht hP⟩, hS.F ht⟩) hS.2.2 dX11_draw_84
  have J54 : ∀ (x1 x2 x3 x4 x5 x6 : Int32) (M : Mem) (H : Heap) (locs : List Loc) (ls : Array Slot), lv_has ls 12 [(0, .ref (ad 0)), (1, .int x1), (2, .int x2), (3, .int x3), (4, .int x4), (5, .int x5), (6, .int x6)] → va_P D vwCl (mW cI cZ ad M) H → va_S (mA ad) s.heap H locs → wX11_draw_J54 Q x1 x2 x3 x4 x5 x6 M → GX11_draw p l e s m below meth c D cI cZ ad a1 a2 a3 a4 a5 a6 Q H locs (F0 m 54 ls []) := by
    intro x1 x2 x3 x4 x5 x6 M H locs ls hl hP hS h
    refine lv_iconst (v := 0) hx hb dX11_draw_54 (by decide) ?_
    exact J55 x1 x2 x3 x4 x5 x6 0 M _ _ _ (lv_sub hl [0, 1, 2, 3, 4, 5, 6] rfl) hP hS h
  have hl := lv_entry ([.ref (ad 0), .int a1, .int a2, .int a3, .int a4, .int a5, .int a6]) (n := 12) (Nat.le_of_ble_eq_true rfl)
  rw [lg_entry_eq]
  generalize (lg_sl ([.ref (ad 0), .int a1, .int a2, .int a3, .int a4, .int a5, .int a6]) ++ List.replicate (12 - (lg_sl ([.ref (ad 0), .int a1, .int a2, .int a3, .int a4, .int a5, .int a6])).length) Slot.unset).toArray = ls at hl ⊢
  have hl : lv_has ls 12 [(0, .ref (ad 0)), (1, .int a1), (2, .int a2), (3, .int a3), (4, .int a4), (5, .int a5), (6, .int a6)] := hl
  refine lv_iload_n hx hb dX11_draw_0 rfl (lv_at hl 1 rfl) ?_
  refine lv_iconst (v := 0) hx hb dX11_draw_1 (by decide) ?_
  refine lv_aload_n hx hb dX11_draw_2 rfl (lv_at hl 0 rfl) ?_
  refine va_get (D := D) (ci := 11) (v := .int (M 0 0)) (C := RX11) (T := TX11) (N := 26) hx hb hts inX11 hown hK hP 0 (mW_0 cI cZ ad M) rfl 0 (by decide) k6 (fun _ h9 => h9) rfl dX11_draw_3 ?_
  refine lv_iconst (v := 1) hx hb dX11_draw_6 (by decide) ?_
  refine lv_isub hx hb dX11_draw_7 ?_
  refine m_callSi (As := [.int a1, .int 0, .int ((M 0 0) - 1)]) (rest := []) ⟨hx, hb, hml, hown, hts⟩ (kX11_in l D cI cZ ad hD M a1 0 ((M 0 0) - 1) _ h) (va_cwS 3 hts (gdS uS (inA_9 _ (List.mem_of_getElem? (i := 4) rfl)) vX11_in) rfl rfl rfl (by decide +kernel) ⟨Nat.le_of_ble_eq_true rfl, Nat.le_of_ble_eq_true rfl⟩) hP hK hS hl.1 rfl rfl (Nat.le_of_ble_eq_true rfl) dX11_draw_8 (fun r8 M8 H locs h hP hS => ?_)
  refine lv_if_eq (tgt := 54) hx hb dX11_draw_11 (by decide) (fun q11 => ?_) (fun q11 => ?_)
  · have h := h.1 q11
    exact J54 a1 a2 a3 a4 a5 a6 M8 _ _ _ (lv_sub hl [0, 1, 2, 3, 4, 5, 6] rfl) hP hS h
  · have h := h.2 q11
    refine lv_iload_n hx hb dX11_draw_14 rfl (lv_at hl 2 rfl) ?_
    refine lv_iconst (v := 0) hx hb dX11_draw_15 (by decide) ?_
    refine lv_aload_n hx hb dX11_draw_16 rfl (lv_at hl 0 rfl) ?_
    refine va_get (D := D) (ci := 11) (v := .int (M8 0 1)) (C := RX11) (T := TX11) (N := 26) hx hb hts inX11 hown hK hP 0 (mW_0 cI cZ ad M8) rfl 1 (by decide) k7 (fun _ h9 => h9) rfl dX11_draw_17 ?_
    refine lv_iconst (v := 1) hx hb dX11_draw_20 (by decide) ?_
    refine lv_isub hx hb dX11_draw_21 ?_
    refine m_callSi (As := [.int a2, .int 0, .int ((M8 0 1) - 1)]) (rest := []) ⟨hx, hb, hml, hown, hts⟩ (kX11_in l D cI cZ ad hD M8 a2 0 ((M8 0 1) - 1) _ h) (va_cwS 3 hts (gdS uS (inA_9 _ (List.mem_of_getElem? (i := 4) rfl)) vX11_in) rfl rfl rfl (by decide +kernel) ⟨Nat.le_of_ble_eq_true rfl, Nat.le_of_ble_eq_true rfl⟩) hP hK hS hl.1 rfl rfl (Nat.le_of_ble_eq_true rfl) dX11_draw_22 (fun r22 M22 H locs h hP hS => ?_)
    refine lv_if_eq (tgt := 54) hx hb dX11_draw_25 (by decide) (fun q25 => ?_) (fun q25 => ?_)
    · have h := h.1 q25
      exact J54 a1 a2 a3 a4 a5 a6 M22 _ _ _ (lv_sub hl [0, 1, 2, 3, 4, 5, 6] rfl) hP hS h
    · have h := h.2 q25
      refine lv_iload_n hx hb dX11_draw_28 rfl (lv_at hl 3 rfl) ?_
      refine lv_iconst (v := 1) hx hb dX11_draw_29 (by decide) ?_
      refine lv_icmp_lt (tgt := 54) hx hb dX11_draw_30 (by decide) (fun q30 => ?_) (fun q30 => ?_)
      · have h := h.1 q30
        exact J54 a1 a2 a3 a4 a5 a6 M22 _ _ _ (lv_sub hl [0, 1, 2, 3, 4, 5, 6] rfl) hP hS h
      · have h := h.2 q30
        refine lv_iload hx hb dX11_draw_33 (lv_at hl 4 rfl) ?_
        refine lv_iconst (v := 1) hx hb dX11_draw_35 (by decide) ?_
        refine lv_icmp_lt (tgt := 54) hx hb dX11_draw_36 (by decide) (fun q36 => ?_) (fun q36 => ?_)
        · have h := h.1 q36
          exact J54 a1 a2 a3 a4 a5 a6 M22 _ _ _ (lv_sub hl [0, 1, 2, 3, 4, 5, 6] rfl) hP hS h
        · have h := h.2 q36
          refine lv_iload hx hb dX11_draw_39 (lv_at hl 5 rfl) ?_
          refine lv_iconst (v := 0) hx hb dX11_draw_41 (by decide) ?_
          refine lv_bipush (v := 8) hx hb dX11_draw_42 (by decide) ?_
          refine m_callSi (As := [.int a5, .int 0, .int 8]) (rest := []) ⟨hx, hb, hml, hown, hts⟩ (kX11_in l D cI cZ ad hD M22 a5 0 8 _ h) (va_cwS 3 hts (gdS uS (inA_9 _ (List.mem_of_getElem? (i := 4) rfl)) vX11_in) rfl rfl rfl (by decide +kernel) ⟨Nat.le_of_ble_eq_true rfl, Nat.le_of_ble_eq_true rfl⟩) hP hK hS hl.1 rfl rfl (Nat.le_of_ble_eq_true rfl) dX11_draw_44 (fun r44 M44 H locs h hP hS => ?_)
          refine lv_if_eq (tgt := 54) hx hb dX11_draw_47 (by decide) (fun q47 => ?_) (fun q47 => ?_)
          · have h := h.1 q47
            exact J54 a1 a2 a3 a4 a5 a6 M44 _ _ _ (lv_sub hl [0, 1, 2, 3, 4, 5, 6] rfl) hP hS h
          · have h := h.2 q47
            refine lv_iconst (v := 1) hx hb dX11_draw_50 (by decide) ?_
            refine lv_goto (tgt := 55) hx hb dX11_draw_51 (by decide) ?_
            exact J55 a1 a2 a3 a4 a5 a6 1 M44 _ _ _ (lv_sub hl [0, 1, 2, 3, 4, 5, 6] rfl) hP hS h
set_option maxHeartbeats 4000000 in
set_option maxRecDepth 100000 in
theorem kX11_truth (l : Launch) (D : va_G) (cI cZ : ClassId) (ad : Nat → Nat) (hD : ∀ M : Mem, va_D (mA ad) (mW cI cZ ad M)) (M : Mem) (a1 a2 : Int32) (Q : Int32 → Mem → Prop) (h : wX11_truth M a1 a2 Q) : Met l yX11_truth uX11_truth ({ frames := 2, cells := 0, slots := 0, locals := 44 }) (va_Pc [.ref (ad 0), .int a1, .int a2] (mPre D cI cZ ad M)) (va_Qi Q (mAt D cI cZ ad) (mA ad)) 0 0 (mA ad) := by
  refine Met.ofW (cc := cX11_truth) (maxL := 3) (ret := (some .int)) (by decide) rfl ?_
  intro p e s m args below meth c s₁ B hml hv
  obtain ⟨rfl, hP, hK⟩ := hv
  have hx := B.exec
  have hb := B.bytes
  have hr := B.returns
  have hts := atoms_spec (ws := uX11_truth) B.pre
  have hown : s.vm.findClass RX11 = some m.cls := findClass_of_methodNamed B.named
  have hlocks := B.notSynchronized
  have hS : va_S (mA ad) s.heap s.heap [] := va_S.rf
  have k0 := hts (.fieldLink RX11 27 "TwoEyesModel" "truths" "[I") (List.mem_cons_of_mem _ (inA_6 _ (List.mem_of_getElem? (i := 23) rfl)))
  have inX11 : ∀ w ∈ wsX110, w ∈ uX11_truth := fun w h => List.mem_cons_of_mem _ (inCX11 w h)
  have k2 := hts (.fieldLink RX11 7 "TwoEyesModel" "width" "I") (List.mem_cons_of_mem _ (inA_6 _ (List.mem_of_getElem? (i := 18) rfl)))
  have hl := lv_entry ([.ref (ad 0), .int a1, .int a2]) (n := 3) (Nat.le_of_ble_eq_true rfl)
  rw [lg_entry_eq]
  generalize (lg_sl ([.ref (ad 0), .int a1, .int a2]) ++ List.replicate (3 - (lg_sl ([.ref (ad 0), .int a1, .int a2])).length) Slot.unset).toArray = ls at hl ⊢
  have hl : lv_has ls 3 [(0, .ref (ad 0)), (1, .int a1), (2, .int a2)] := hl
  refine lv_aload_n hx hb dX11_truth_0 rfl (lv_at hl 0 rfl) ?_
  refine lv_iload_n hx hb dX11_truth_1 rfl (lv_at hl 1 rfl) ?_
  refine lv_iload_n hx hb dX11_truth_2 rfl (lv_at hl 2 rfl) ?_
  refine m_callVi (As := [.int a1, .int a2]) (rest := []) ⟨hx, hb, hml, hown, hts⟩ (kX11_isSquare l D cI cZ ad hD M a1 a2 _ h) (cwV 2 hts (gdV uS (inA_13 _ (List.mem_of_getElem? (i := 11) rfl)) vX11_isSquare) rfl rfl rfl (by decide +kernel) ⟨Nat.le_of_ble_eq_true rfl, Nat.le_of_ble_eq_true rfl⟩) (va_recv hK hP (ci := 11) (q0 := 0) rfl (mW_0 cI cZ ad M)) hP hK hS hl.1 rfl rfl (Nat.le_of_ble_eq_true rfl) dX11_truth_3 (fun r3 M3 H locs h hP hS => ?_)
  refine lv_if_eq (tgt := 25) hx hb dX11_truth_6 (by decide) (fun q6 => ?_) (fun q6 => ?_)
  · have h := h.1 q6
    refine lv_iconst (v := (-1)) hx hb dX11_truth_25 (by decide) ?_
    exact W.iret (v := (-1)) hx hb hr (fun t ht hW => ⟨⟨(-1), M3, rfl, h, mAt_of ht hP⟩, hS.F ht⟩) hS.2.2 dX11_truth_26
  · have h := h.2 q6
    refine lv_aload_n hx hb dX11_truth_9 rfl (lv_at hl 0 rfl) ?_
    refine va_get (D := D) (ci := 11) (v := .ref (ad 4)) (C := RX11) (T := TX11) (N := 26) hx hb hts inX11 hown hK hP 0 (mW_0 cI cZ ad M3) rfl 5 (by decide) k0 (fun _ h9 => h9) rfl dX11_truth_10 ?_
    refine lv_aload_n hx hb dX11_truth_13 rfl (lv_at hl 0 rfl) ?_
    refine va_get (D := D) (ci := 11) (v := .int (M3 0 0)) (C := RX11) (T := TX11) (N := 26) hx hb hts inX11 hown hK hP 0 (mW_0 cI cZ ad M3) rfl 0 (by decide) k2 (fun _ h9 => h9) rfl dX11_truth_14 ?_
    refine lv_iload_n hx hb dX11_truth_17 rfl (lv_at hl 2 rfl) ?_
    refine lv_imul hx hb dX11_truth_18 ?_
    refine lv_iload_n hx hb dX11_truth_19 rfl (lv_at hl 1 rfl) ?_
    refine lv_iadd hx hb dX11_truth_20 ?_
    obtain ⟨hi21, h⟩ := h
    refine va_iald hx hb hK hP 4 0 (mW_4 cI cZ ad M3) rfl hi21 dX11_truth_21 ?_
    refine lv_goto (tgt := 26) hx hb dX11_truth_22 (by decide) ?_
    exact W.iret (v := (M3 4 (((M3 0 0) * a2) + a1).toNatClampNeg)) hx hb hr (fun t ht hW => ⟨⟨(M3 4 (((M3 0 0) * a2) + a1).toNatClampNeg), M3, rfl, h, mAt_of ht hP⟩, hS.F ht⟩) hS.2.2 dX11_truth_26
abbrev GX11_scoreOf (p : Program) (l : Launch) (e : Env) (s : State) (m : MethodId) (below : List Frame) (meth : Method) (c : Code) (D : va_G) (cI cZ : ClassId) (ad : Nat → Nat) (a1 a2 a3 : Int32) (Q : Int32 → Mem → Prop) (H : Heap) (locs : List Loc) (g : JFrame) : Prop := W p l e (headSpec uX11_scoreOf { frames := 3, cells := 0, slots := 0, locals := 69 }).room s m ([.ref (ad 0), .int a1, .int a2, .int a3] : List Value).toArray below meth c H locs 0 0 (MQ below (va_Qi Q (mAt D cI cZ ad) (mA ad)) ([.ref (ad 0), .int a1, .int a2, .int a3] : List Value).toArray s 0 0 (mA ad)) g
set_option maxHeartbeats 4000000 in
set_option maxRecDepth 100000 in
theorem kX11_scoreOf (l : Launch) (D : va_G) (cI cZ : ClassId) (ad : Nat → Nat) (hD : ∀ M : Mem, va_D (mA ad) (mW cI cZ ad M)) (M : Mem) (a1 a2 a3 : Int32) (Q : Int32 → Mem → Prop) (h : wX11_scoreOf M a1 a2 a3 Q) : Met l yX11_scoreOf uX11_scoreOf ({ frames := 3, cells := 0, slots := 0, locals := 69 }) (va_Pc [.ref (ad 0), .int a1, .int a2, .int a3] (mPre D cI cZ ad M)) (va_Qi Q (mAt D cI cZ ad) (mA ad)) 0 0 (mA ad) := by
  refine Met.ofW (cc := cX11_scoreOf) (maxL := 7) (ret := (some .int)) (by decide) rfl ?_
  intro p e s m args below meth c s₁ B hml hv
  obtain ⟨rfl, hP, hK⟩ := hv
  have hx := B.exec
  have hb := B.bytes
  have hr := B.returns
  have hts := atoms_spec (ws := uX11_scoreOf) B.pre
  have hown : s.vm.findClass RX11 = some m.cls := findClass_of_methodNamed B.named
  have hlocks := B.notSynchronized
  have hS : va_S (mA ad) s.heap s.heap [] := va_S.rf
  have k0 := hts (.fieldLink RX11 27 "TwoEyesModel" "truths" "[I") (List.mem_cons_of_mem _ (inA_6 _ (List.mem_of_getElem? (i := 23) rfl)))
  have inX11 : ∀ w ∈ wsX110, w ∈ uX11_scoreOf := fun w h => List.mem_cons_of_mem _ (inCX11 w h)
  have k2 := hts (.fieldLink RX11 7 "TwoEyesModel" "width" "I") (List.mem_cons_of_mem _ (inA_6 _ (List.mem_of_getElem? (i := 18) rfl)))
  have k3 := hts (.fieldLink RX11 69 "TwoEyesModel" "matchOf" "[I") (List.mem_cons_of_mem _ (inA_7 _ (List.mem_of_getElem? (i := 13) rfl)))
  have J75 : ∀ (x3 t0 : Int32) (M : Mem) (H : Heap) (locs : List Loc) (ls : Array Slot), lv_has ls 7 [(3, .int x3)] → va_P D vwCl (mW cI cZ ad M) H → va_S (mA ad) s.heap H locs → wX11_scoreOf_J75 Q x3 t0 M → GX11_scoreOf p l e s m below meth c D cI cZ ad a1 a2 a3 Q H locs (F0 m 75 ls [.int t0]) := by
    intro x3 t0 M H locs ls hl hP hS h
    refine lv_istore (lv' := [(6, .int t0), (3, .int x3)]) hx hb dX11_scoreOf_75 hl (by decide) rfl (fun ls hl => ?_)
    refine lv_iload hx hb dX11_scoreOf_77 (lv_at hl 0 rfl) ?_
    refine lv_iload_n hx hb dX11_scoreOf_79 rfl (lv_at hl 1 rfl) ?_
    refine lv_icmp_ne (tgt := 87) hx hb dX11_scoreOf_80 (by decide) (fun q80 => ?_) (fun q80 => ?_)
    · have h := h.1 q80
      refine lv_iconst (v := 0) hx hb dX11_scoreOf_87 (by decide) ?_
      exact W.iret (v := 0) hx hb hr (fun t ht hW => ⟨⟨0, M, rfl, h, mAt_of ht hP⟩, hS.F ht⟩) hS.2.2 dX11_scoreOf_88
    · have h := h.2 q80
      refine lv_iconst (v := 1) hx hb dX11_scoreOf_83 (by decide) ?_
      refine lv_goto (tgt := 88) hx hb dX11_scoreOf_84 (by decide) ?_
      exact W.iret (v := 1) hx hb hr (fun t ht hW => ⟨⟨1, M, rfl, h, mAt_of ht hP⟩, hS.F ht⟩) hS.2.2 dX11_scoreOf_88
  have hl := lv_entry ([.ref (ad 0), .int a1, .int a2, .int a3]) (n := 7) (Nat.le_of_ble_eq_true rfl)
  rw [lg_entry_eq]
  generalize (lg_sl ([.ref (ad 0), .int a1, .int a2, .int a3]) ++ List.replicate (7 - (lg_sl ([.ref (ad 0), .int a1, .int a2, .int a3])).length) Slot.unset).toArray = ls at hl ⊢
  have hl : lv_has ls 7 [(0, .ref (ad 0)), (1, .int a1), (2, .int a2), (3, .int a3)] := hl
  refine lv_aload_n hx hb dX11_scoreOf_0 rfl (lv_at hl 0 rfl) ?_
  refine va_get (D := D) (ci := 11) (v := .ref (ad 4)) (C := RX11) (T := TX11) (N := 26) hx hb hts inX11 hown hK hP 0 (mW_0 cI cZ ad M) rfl 5 (by decide) k0 (fun _ h9 => h9) rfl dX11_scoreOf_1 ?_
  refine lv_aload_n hx hb dX11_scoreOf_4 rfl (lv_at hl 0 rfl) ?_
  refine va_get (D := D) (ci := 11) (v := .int (M 0 0)) (C := RX11) (T := TX11) (N := 26) hx hb hts inX11 hown hK hP 0 (mW_0 cI cZ ad M) rfl 0 (by decide) k2 (fun _ h9 => h9) rfl dX11_scoreOf_5 ?_
  refine lv_iload_n hx hb dX11_scoreOf_8 rfl (lv_at hl 2 rfl) ?_
  refine lv_imul hx hb dX11_scoreOf_9 ?_
  refine lv_iload_n hx hb dX11_scoreOf_10 rfl (lv_at hl 1 rfl) ?_
  refine lv_iadd hx hb dX11_scoreOf_11 ?_
  obtain ⟨hi12, h⟩ := h
  refine va_iald hx hb hK hP 4 0 (mW_4 cI cZ ad M) rfl hi12 dX11_scoreOf_12 ?_
  refine lv_topi (fun x4_13 ex4_13 => ?_)
  have h := h x4_13 ex4_13
  refine lv_istore (lv' := [(4, .int x4_13), (0, .ref (ad 0)), (1, .int a1), (2, .int a2), (3, .int a3)]) hx hb dX11_scoreOf_13 hl (by decide) rfl (fun ls hl => ?_)
  refine lv_iload hx hb dX11_scoreOf_15 (lv_at hl 0 rfl) ?_
  refine lv_bipush (v := (-4)) hx hb dX11_scoreOf_17 (by decide) ?_
  refine lv_icmp_ne (tgt := 24) hx hb dX11_scoreOf_19 (by decide) (fun q19 => ?_) (fun q19 => ?_)
  · have h := h.1 q19
    refine lv_iload_n hx hb dX11_scoreOf_24 rfl (lv_at hl 4 rfl) ?_
    refine lv_iconst (v := 3) hx hb dX11_scoreOf_25 (by decide) ?_
    refine lv_icmp_ne (tgt := 46) hx hb dX11_scoreOf_26 (by decide) (fun q26 => ?_) (fun q26 => ?_)
    · have h := h.1 q26
      refine lv_aload_n hx hb dX11_scoreOf_46 rfl (lv_at hl 1 rfl) ?_
      refine lv_iload_n hx hb dX11_scoreOf_47 rfl (lv_at hl 2 rfl) ?_
      refine lv_iload_n hx hb dX11_scoreOf_48 rfl (lv_at hl 3 rfl) ?_
      refine m_callVi (As := [.int a1, .int a2]) (rest := []) ⟨hx, hb, hml, hown, hts⟩ (kX11_agreedAt l D cI cZ ad hD M a1 a2 _ h) (cwV 2 hts (gdV uS (inA_23 _ (List.mem_of_getElem? (i := 11) rfl)) vX11_agreedAt) rfl rfl rfl (by decide +kernel) ⟨Nat.le_of_ble_eq_true rfl, Nat.le_of_ble_eq_true rfl⟩) (va_recv hK hP (ci := 11) (q0 := 0) rfl (mW_0 cI cZ ad M)) hP hK hS hl.1 rfl rfl (Nat.le_of_ble_eq_true rfl) dX11_scoreOf_49 (fun r49 M49 H locs h hP hS => ?_)
      refine lv_istore (lv' := [(5, .int r49), (4, .int x4_13), (0, .ref (ad 0)), (1, .int a1), (2, .int a2), (3, .int a3)]) hx hb dX11_scoreOf_52 hl (by decide) rfl (fun ls hl => ?_)
      refine lv_iload hx hb dX11_scoreOf_54 (lv_at hl 0 rfl) ?_
      refine lv_if_ge (tgt := 63) hx hb dX11_scoreOf_56 (by decide) (fun q56 => ?_) (fun q56 => ?_)
      · have h := h.1 q56
        refine lv_iload hx hb dX11_scoreOf_63 (lv_at hl 0 rfl) ?_
        refine lv_iload hx hb dX11_scoreOf_65 (lv_at hl 1 rfl) ?_
        refine lv_icmp_ne (tgt := 74) hx hb dX11_scoreOf_67 (by decide) (fun q67 => ?_) (fun q67 => ?_)
        · have h := h.1 q67
          refine lv_iconst (v := 1) hx hb dX11_scoreOf_74 (by decide) ?_
          exact J75 a3 1 M49 _ _ _ (lv_sub hl [5] rfl) hP hS h
        · have h := h.2 q67
          refine lv_iconst (v := 0) hx hb dX11_scoreOf_70 (by decide) ?_
          refine lv_goto (tgt := 75) hx hb dX11_scoreOf_71 (by decide) ?_
          exact J75 a3 0 M49 _ _ _ (lv_sub hl [5] rfl) hP hS h
      · have h := h.2 q56
        refine lv_iconst (v := 2) hx hb dX11_scoreOf_59 (by decide) ?_
        refine lv_goto (tgt := 75) hx hb dX11_scoreOf_60 (by decide) ?_
        exact J75 a3 2 M49 _ _ _ (lv_sub hl [5] rfl) hP hS h
    · have h := h.2 q26
      refine lv_aload_n hx hb dX11_scoreOf_29 rfl (lv_at hl 1 rfl) ?_
      refine va_get (D := D) (ci := 11) (v := .ref (ad 18)) (C := RX11) (T := TX11) (N := 26) hx hb hts inX11 hown hK hP 0 (mW_0 cI cZ ad M) rfl 23 (by decide) k3 (fun _ h9 => h9) rfl dX11_scoreOf_30 ?_
      refine lv_iload_n hx hb dX11_scoreOf_33 rfl (lv_at hl 2 rfl) ?_
      obtain ⟨hi34, h⟩ := h
      refine va_iald hx hb hK hP 18 0 (mW_18 cI cZ ad M) rfl hi34 dX11_scoreOf_34 ?_
      refine lv_iload hx hb dX11_scoreOf_35 (lv_at hl 0 rfl) ?_
      refine lv_icmp_ne (tgt := 44) hx hb dX11_scoreOf_37 (by decide) (fun q37 => ?_) (fun q37 => ?_)
      · have h := h.1 q37
        refine lv_iconst (v := 0) hx hb dX11_scoreOf_44 (by decide) ?_
        exact W.iret (v := 0) hx hb hr (fun t ht hW => ⟨⟨0, M, rfl, h, mAt_of ht hP⟩, hS.F ht⟩) hS.2.2 dX11_scoreOf_45
      · have h := h.2 q37
        refine lv_iconst (v := 1) hx hb dX11_scoreOf_40 (by decide) ?_
        refine lv_goto (tgt := 45) hx hb dX11_scoreOf_41 (by decide) ?_
        exact W.iret (v := 1) hx hb hr (fun t ht hW => ⟨⟨1, M, rfl, h, mAt_of ht hP⟩, hS.F ht⟩) hS.2.2 dX11_scoreOf_45
  · have h := h.2 q19
    refine lv_iconst (v := 0) hx hb dX11_scoreOf_22 (by decide) ?_
    exact W.iret (v := 0) hx hb hr (fun t ht hW => ⟨⟨0, M, rfl, h, mAt_of ht hP⟩, hS.F ht⟩) hS.2.2 dX11_scoreOf_23
abbrev GX11_score (p : Program) (l : Launch) (e : Env) (s : State) (m : MethodId) (below : List Frame) (meth : Method) (c : Code) (D : va_G) (cI cZ : ClassId) (ad : Nat → Nat) (a1 : Int32) (Q : Int32 → Mem → Prop) (H : Heap) (locs : List Loc) (g : JFrame) : Prop := W p l e (headSpec uX11_score { frames := 7, cells := 0, slots := 0, locals := 174 }).room s m ([.ref (ad 0), .int a1] : List Value).toArray below meth c H locs 0 0 (MQ below (va_Qi Q (mAt D cI cZ ad) (mA ad)) ([.ref (ad 0), .int a1] : List Value).toArray s 0 0 (mA ad)) g
set_option maxHeartbeats 4000000 in
set_option maxRecDepth 100000 in
theorem kX11_score (l : Launch) (D : va_G) (cI cZ : ClassId) (ad : Nat → Nat) (hD : ∀ M : Mem, va_D (mA ad) (mW cI cZ ad M)) (M : Mem) (a1 : Int32) (Q : Int32 → Mem → Prop) (h : wX11_score M a1 Q) : Met l yX11_score uX11_score ({ frames := 7, cells := 0, slots := 0, locals := 174 }) (va_Pc [.ref (ad 0), .int a1] (mPre D cI cZ ad M)) (va_Qi Q (mAt D cI cZ ad) (mA ad)) 0 0 (mA ad) := by
  refine Met.ofW (cc := cX11_score) (maxL := 5) (ret := (some .int)) (by decide) rfl ?_
  intro p e s m args below meth c s₁ B hml hv
  obtain ⟨rfl, hP, hK⟩ := hv
  have hx := B.exec
  have hb := B.bytes
  have hr := B.returns
  have hts := atoms_spec (ws := uX11_score) B.pre
  have hown : s.vm.findClass RX11 = some m.cls := findClass_of_methodNamed B.named
  have hlocks := B.notSynchronized
  have hS : va_S (mA ad) s.heap s.heap [] := va_S.rf
  have k0 := hts (.fieldLink RX11 7 "TwoEyesModel" "width" "I") (List.mem_cons_of_mem _ (inA_6 _ (List.mem_of_getElem? (i := 18) rfl)))
  have inX11 : ∀ w ∈ wsX110, w ∈ uX11_score := fun w h => List.mem_cons_of_mem _ (inCX11 w h)
  have k2 := hts (.fieldLink RX11 13 "TwoEyesModel" "height" "I") (List.mem_cons_of_mem _ (inA_6 _ (List.mem_of_getElem? (i := 19) rfl)))
  have L35 : ∀ (K61 : Int32 → Int32 → Int32 → Mem → Prop), (∀ (x1 x2 x3 : Int32) (M : Mem) (H : Heap) (locs : List Loc) (ls : Array Slot), lv_has ls 5 [(0, .ref (ad 0)), (1, .int x1), (2, .int x2), (3, .int x3)] → va_P D vwCl (mW cI cZ ad M) H → va_S (mA ad) s.heap H locs → K61 x1 x2 x3 M → GX11_score p l e s m below meth c D cI cZ ad a1 Q H locs (F0 m 61 ls [])) → ∀ n : Nat, ∀ (x1 x2 x3 x4 : Int32) (M : Mem) (H : Heap) (locs : List Loc) (ls : Array Slot), lv_has ls 5 [(0, .ref (ad 0)), (1, .int x1), (2, .int x2), (3, .int x3), (4, .int x4)] → va_P D vwCl (mW cI cZ ad M) H → va_S (mA ad) s.heap H locs → wX11_score_L35 K61 Q n x1 x2 x3 x4 M → GX11_score p l e s m below meth c D cI cZ ad a1 Q H locs (F0 m 35 ls []) := by
    intro K61 hK61 n
    induction n with
    | zero => intro x1 x2 x3 x4 M H locs ls hl hP hS h; exact (show False from h).elim
    | succ n hB =>
      intro x1 x2 x3 x4 M H locs ls hl hP hS h
      rw [wX11_score_L35_s] at h
      refine lv_iload hx hb dX11_score_35 (lv_at hl 4 rfl) ?_
      refine lv_aload_n hx hb dX11_score_37 rfl (lv_at hl 0 rfl) ?_
      refine va_get (D := D) (ci := 11) (v := .int (M 0 0)) (C := RX11) (T := TX11) (N := 26) hx hb hts inX11 hown hK hP 0 (mW_0 cI cZ ad M) rfl 0 (by decide) k0 (fun _ h9 => h9) rfl dX11_score_38 ?_
      refine lv_icmp_ge (tgt := 61) hx hb dX11_score_41 (by decide) (fun q41 => ?_) (fun q41 => ?_)
      · have h := h.1 q41
        exact hK61 x1 x2 x3 M _ _ _ (lv_sub hl [0, 1, 2, 3] rfl) hP hS h
      · have h := h.2 q41
        refine lv_iload_n hx hb dX11_score_44 rfl (lv_at hl 2 rfl) ?_
        refine lv_aload_n hx hb dX11_score_45 rfl (lv_at hl 0 rfl) ?_
        refine lv_iload hx hb dX11_score_46 (lv_at hl 4 rfl) ?_
        refine lv_iload_n hx hb dX11_score_48 rfl (lv_at hl 3 rfl) ?_
        refine lv_iload_n hx hb dX11_score_49 rfl (lv_at hl 1 rfl) ?_
        refine m_callVi (As := [.int x4, .int x3, .int x1]) (rest := [.int x2]) ⟨hx, hb, hml, hown, hts⟩ (kX11_scoreOf l D cI cZ ad hD M x4 x3 x1 _ h) (cwV 3 hts (gdV uS (inA_35 _ (List.mem_of_getElem? (i := 14) rfl)) vX11_scoreOf) rfl rfl rfl (by decide +kernel) ⟨Nat.le_of_ble_eq_true rfl, Nat.le_of_ble_eq_true rfl⟩) (va_recv hK hP (ci := 11) (q0 := 0) rfl (mW_0 cI cZ ad M)) hP hK hS hl.1 rfl rfl (Nat.le_of_ble_eq_true rfl) dX11_score_50 (fun r50 M50 H locs h hP hS => ?_)
        refine lv_iadd hx hb dX11_score_53 ?_
        refine lv_topi (fun x2_54 ex2_54 => ?_)
        have h := h x2_54 ex2_54
        refine lv_istore_n (lv' := [(2, .int x2_54), (0, .ref (ad 0)), (1, .int x1), (3, .int x3), (4, .int x4)]) hx hb dX11_score_54 rfl hl (by decide) rfl (fun ls hl => ?_)
        obtain ⟨x4_55, ex4_55⟩ : ∃ y : Int32, y = x4 + 1 := ⟨_, rfl⟩
        have h := h x4_55 ex4_55
        refine lv_iinc (v := x4_55) (lv' := [(4, .int x4_55), (2, .int x2_54), (0, .ref (ad 0)), (1, .int x1), (3, .int x3)]) hx hb dX11_score_55 hl (k := 4) rfl (by rw [ex4_55]; rfl) (by decide) rfl (fun ls hl => ?_)
        refine lv_goto (tgt := 35) hx hb dX11_score_58 (by decide) ?_
        exact hB x1 x2_54 x3 x4_55 M50 _ _ _ (lv_sub hl [2, 3, 1, 4, 0] rfl) hP hS h
  have L19 : ∀ (K67 : Int32 → Mem → Prop), (∀ (x2 : Int32) (M : Mem) (H : Heap) (locs : List Loc) (ls : Array Slot), lv_has ls 5 [(2, .int x2)] → va_P D vwCl (mW cI cZ ad M) H → va_S (mA ad) s.heap H locs → K67 x2 M → GX11_score p l e s m below meth c D cI cZ ad a1 Q H locs (F0 m 67 ls [])) → ∀ n : Nat, ∀ (x1 x2 x3 : Int32) (M : Mem) (H : Heap) (locs : List Loc) (ls : Array Slot), lv_has ls 5 [(0, .ref (ad 0)), (1, .int x1), (2, .int x2), (3, .int x3)] → va_P D vwCl (mW cI cZ ad M) H → va_S (mA ad) s.heap H locs → wX11_score_L19 K67 Q n x1 x2 x3 M → GX11_score p l e s m below meth c D cI cZ ad a1 Q H locs (F0 m 19 ls []) := by
    intro K67 hK67 n
    induction n with
    | zero => intro x1 x2 x3 M H locs ls hl hP hS h; exact (show False from h).elim
    | succ n hB =>
      intro x1 x2 x3 M H locs ls hl hP hS h
      rw [wX11_score_L19_s] at h
      refine lv_iload_n hx hb dX11_score_19 rfl (lv_at hl 3 rfl) ?_
      refine lv_aload_n hx hb dX11_score_20 rfl (lv_at hl 0 rfl) ?_
      refine va_get (D := D) (ci := 11) (v := .int (M 0 1)) (C := RX11) (T := TX11) (N := 26) hx hb hts inX11 hown hK hP 0 (mW_0 cI cZ ad M) rfl 1 (by decide) k2 (fun _ h9 => h9) rfl dX11_score_21 ?_
      refine lv_icmp_ge (tgt := 67) hx hb dX11_score_24 (by decide) (fun q24 => ?_) (fun q24 => ?_)
      · have h := h.1 q24
        exact hK67 x2 M _ _ _ (lv_sub hl [2] rfl) hP hS h
      · have h := h.2 q24
        refine lv_aload_n hx hb dX11_score_27 rfl (lv_at hl 0 rfl) ?_
        refine lv_iload_n hx hb dX11_score_28 rfl (lv_at hl 3 rfl) ?_
        refine m_callVv (As := [.int x3]) (rest := []) ⟨hx, hb, hml, hown, hts⟩ (kX11_layPath l D cI cZ ad hD M x3 _ h) (cwV 1 hts (gdV uS (inA_26 _ (List.mem_of_getElem? (i := 11) rfl)) vX11_layPath) rfl rfl rfl (by decide +kernel) ⟨Nat.le_of_ble_eq_true rfl, Nat.le_of_ble_eq_true rfl⟩) (va_recv hK hP (ci := 11) (q0 := 0) rfl (mW_0 cI cZ ad M)) hP hK hS hl.1 rfl rfl (Nat.le_of_ble_eq_true rfl) dX11_score_29 (fun M29 H locs h hP hS => ?_)
        refine lv_iconst (v := 0) hx hb dX11_score_32 (by decide) ?_
        refine lv_istore (lv' := [(4, .int 0), (0, .ref (ad 0)), (1, .int x1), (2, .int x2), (3, .int x3)]) hx hb dX11_score_33 hl (by decide) rfl (fun ls hl => ?_)
        obtain ⟨n, h⟩ := h
        refine L35 _ (fun x1 x2 x3 M H locs ls hl hP hS h => ?_) n x1 x2 x3 0 M29 _ _ _ (lv_sub hl [1, 2, 3, 4, 0] rfl) hP hS h
        obtain ⟨x3_61, ex3_61⟩ : ∃ y : Int32, y = x3 + 1 := ⟨_, rfl⟩
        have h := h x3_61 ex3_61
        refine lv_iinc (v := x3_61) (lv' := [(3, .int x3_61), (0, .ref (ad 0)), (1, .int x1), (2, .int x2)]) hx hb dX11_score_61 hl (k := 3) rfl (by rw [ex3_61]; rfl) (by decide) rfl (fun ls hl => ?_)
        refine lv_goto (tgt := 19) hx hb dX11_score_64 (by decide) ?_
        exact hB x1 x2 x3_61 M _ _ _ (lv_sub hl [1, 2, 3, 0] rfl) hP hS h
  have hl := lv_entry ([.ref (ad 0), .int a1]) (n := 5) (Nat.le_of_ble_eq_true rfl)
  rw [lg_entry_eq]
  generalize (lg_sl ([.ref (ad 0), .int a1]) ++ List.replicate (5 - (lg_sl ([.ref (ad 0), .int a1])).length) Slot.unset).toArray = ls at hl ⊢
  have hl : lv_has ls 5 [(0, .ref (ad 0)), (1, .int a1)] := hl
  refine lv_iload_n hx hb dX11_score_0 rfl (lv_at hl 1 rfl) ?_
  refine lv_iconst (v := 0) hx hb dX11_score_1 (by decide) ?_
  refine lv_iconst (v := 3) hx hb dX11_score_2 (by decide) ?_
  refine m_callSi (As := [.int a1, .int 0, .int 3]) (rest := []) ⟨hx, hb, hml, hown, hts⟩ (kX11_in l D cI cZ ad hD M a1 0 3 _ h) (va_cwS 3 hts (gdS uS (inA_9 _ (List.mem_of_getElem? (i := 4) rfl)) vX11_in) rfl rfl rfl (by decide +kernel) ⟨Nat.le_of_ble_eq_true rfl, Nat.le_of_ble_eq_true rfl⟩) hP hK hS hl.1 rfl rfl (Nat.le_of_ble_eq_true rfl) dX11_score_3 (fun r3 M3 H locs h hP hS => ?_)
  refine lv_if_ne (tgt := 11) hx hb dX11_score_6 (by decide) (fun q6 => ?_) (fun q6 => ?_)
  · have h := h.1 q6
    refine lv_aload_n hx hb dX11_score_11 rfl (lv_at hl 0 rfl) ?_
    refine m_callVv (As := []) (rest := []) ⟨hx, hb, hml, hown, hts⟩ (kX11_reckon l D cI cZ ad hD M3 _ h) (cwV 0 hts (gdV uS (inA_21 _ (List.mem_of_getElem? (i := 5) rfl)) vX11_reckon) rfl rfl rfl (by decide +kernel) ⟨Nat.le_of_ble_eq_true rfl, Nat.le_of_ble_eq_true rfl⟩) (va_recv hK hP (ci := 11) (q0 := 0) rfl (mW_0 cI cZ ad M3)) hP hK hS hl.1 rfl rfl (Nat.le_of_ble_eq_true rfl) dX11_score_12 (fun M12 H locs h hP hS => ?_)
    refine lv_iconst (v := 0) hx hb dX11_score_15 (by decide) ?_
    refine lv_istore_n (lv' := [(2, .int 0), (0, .ref (ad 0)), (1, .int a1)]) hx hb dX11_score_16 rfl hl (by decide) rfl (fun ls hl => ?_)
    refine lv_iconst (v := 0) hx hb dX11_score_17 (by decide) ?_
    refine lv_istore_n (lv' := [(3, .int 0), (2, .int 0), (0, .ref (ad 0)), (1, .int a1)]) hx hb dX11_score_18 rfl hl (by decide) rfl (fun ls hl => ?_)
    obtain ⟨n, h⟩ := h
    refine L19 _ (fun x2 M H locs ls hl hP hS h => ?_) n a1 0 0 M12 _ _ _ (lv_sub hl [2, 3, 1, 0] rfl) hP hS h
    refine lv_iload_n hx hb dX11_score_67 rfl (lv_at hl 0 rfl) ?_
    exact W.iret (v := x2) hx hb hr (fun t ht hW => ⟨⟨x2, M, rfl, h, mAt_of ht hP⟩, hS.F ht⟩) hS.2.2 dX11_score_68
  · have h := h.2 q6
    refine lv_iconst (v := (-1)) hx hb dX11_score_9 (by decide) ?_
    exact W.iret (v := (-1)) hx hb hr (fun t ht hW => ⟨⟨(-1), M3, rfl, h, mAt_of ht hP⟩, hS.F ht⟩) hS.2.2 dX11_score_10
set_option maxHeartbeats 4000000 in
set_option maxRecDepth 100000 in
theorem kX11_outline (l : Launch) (D : va_G) (cI cZ : ClassId) (ad : Nat → Nat) (hD : ∀ M : Mem, va_D (mA ad) (mW cI cZ ad M)) (M : Mem) (a1 a2 a3 : Int32) (Q : Int32 → Mem → Prop) (h : wX11_outline M a1 a2 a3 Q) : Met l yX11_outline uX11_outline ({ frames := 2, cells := 0, slots := 0, locals := 45 }) (va_Pc [.ref (ad 0), .int a1, .int a2, .int a3] (mPre D cI cZ ad M)) (va_Qi Q (mAt D cI cZ ad) (mA ad)) 0 0 (mA ad) := by
  refine Met.ofW (cc := cX11_outline) (maxL := 4) (ret := (some .int)) (by decide) rfl ?_
  intro p e s m args below meth c s₁ B hml hv
  obtain ⟨rfl, hP, hK⟩ := hv
  have hx := B.exec
  have hb := B.bytes
  have hr := B.returns
  have hts := atoms_spec (ws := uX11_outline) B.pre
  have hown : s.vm.findClass RX11 = some m.cls := findClass_of_methodNamed B.named
  have hlocks := B.notSynchronized
  have hS : va_S (mA ad) s.heap s.heap [] := va_S.rf
  have k0 := hts (.fieldLink RX11 33 "TwoEyesModel" "outlines" "[I") (List.mem_cons_of_mem _ (inA_7 _ (List.mem_of_getElem? (i := 1) rfl)))
  have inX11 : ∀ w ∈ wsX110, w ∈ uX11_outline := fun w h => List.mem_cons_of_mem _ (inCX11 w h)
  have hl := lv_entry ([.ref (ad 0), .int a1, .int a2, .int a3]) (n := 4) (Nat.le_of_ble_eq_true rfl)
  rw [lg_entry_eq]
  generalize (lg_sl ([.ref (ad 0), .int a1, .int a2, .int a3]) ++ List.replicate (4 - (lg_sl ([.ref (ad 0), .int a1, .int a2, .int a3])).length) Slot.unset).toArray = ls at hl ⊢
  have hl : lv_has ls 4 [(0, .ref (ad 0)), (1, .int a1), (2, .int a2), (3, .int a3)] := hl
  refine lv_iload_n hx hb dX11_outline_0 rfl (lv_at hl 1 rfl) ?_
  refine lv_iconst (v := 0) hx hb dX11_outline_1 (by decide) ?_
  refine lv_iconst (v := 2) hx hb dX11_outline_2 (by decide) ?_
  refine m_callSi (As := [.int a1, .int 0, .int 2]) (rest := []) ⟨hx, hb, hml, hown, hts⟩ (kX11_in l D cI cZ ad hD M a1 0 2 _ h) (va_cwS 3 hts (gdS uS (inA_9 _ (List.mem_of_getElem? (i := 4) rfl)) vX11_in) rfl rfl rfl (by decide +kernel) ⟨Nat.le_of_ble_eq_true rfl, Nat.le_of_ble_eq_true rfl⟩) hP hK hS hl.1 rfl rfl (Nat.le_of_ble_eq_true rfl) dX11_outline_3 (fun r3 M3 H locs h hP hS => ?_)
  refine lv_if_eq (tgt := 19) hx hb dX11_outline_6 (by decide) (fun q6 => ?_) (fun q6 => ?_)
  · have h := h.1 q6
    refine lv_iconst (v := (-1)) hx hb dX11_outline_19 (by decide) ?_
    exact W.iret (v := (-1)) hx hb hr (fun t ht hW => ⟨⟨(-1), M3, rfl, h, mAt_of ht hP⟩, hS.F ht⟩) hS.2.2 dX11_outline_20
  · have h := h.2 q6
    refine lv_iload_n hx hb dX11_outline_9 rfl (lv_at hl 2 rfl) ?_
    refine lv_iconst (v := 0) hx hb dX11_outline_10 (by decide) ?_
    refine lv_bipush (v := 7) hx hb dX11_outline_11 (by decide) ?_
    refine m_callSi (As := [.int a2, .int 0, .int 7]) (rest := []) ⟨hx, hb, hml, hown, hts⟩ (kX11_in l D cI cZ ad hD M3 a2 0 7 _ h) (va_cwS 3 hts (gdS uS (inA_9 _ (List.mem_of_getElem? (i := 4) rfl)) vX11_in) rfl rfl rfl (by decide +kernel) ⟨Nat.le_of_ble_eq_true rfl, Nat.le_of_ble_eq_true rfl⟩) hP hK hS hl.1 rfl rfl (Nat.le_of_ble_eq_true rfl) dX11_outline_13 (fun r13 M13 H locs h hP hS => ?_)
    refine lv_if_ne (tgt := 21) hx hb dX11_outline_16 (by decide) (fun q16 => ?_) (fun q16 => ?_)
    · have h := h.1 q16
      refine lv_aload_n hx hb dX11_outline_21 rfl (lv_at hl 0 rfl) ?_
      refine va_get (D := D) (ci := 11) (v := .ref (ad 6)) (C := RX11) (T := TX11) (N := 26) hx hb hts inX11 hown hK hP 0 (mW_0 cI cZ ad M13) rfl 7 (by decide) k0 (fun _ h9 => h9) rfl dX11_outline_22 ?_
      refine lv_bipush (v := 8) hx hb dX11_outline_25 (by decide) ?_
      refine lv_iload_n hx hb dX11_outline_27 rfl (lv_at hl 1 rfl) ?_
      refine lv_imul hx hb dX11_outline_28 ?_
      refine lv_iload_n hx hb dX11_outline_29 rfl (lv_at hl 2 rfl) ?_
      refine lv_iadd hx hb dX11_outline_30 ?_
      refine lv_iload_n hx hb dX11_outline_31 rfl (lv_at hl 3 rfl) ?_
      refine lv_sipush (v := 255) hx hb dX11_outline_32 (by decide) ?_
      refine lv_iand hx hb dX11_outline_35 ?_
      obtain ⟨hi36, h⟩ := h
      refine va_iast hx hb hK hP (hD M13) hS 6 0 (mW_6 cI cZ ad M13) rfl hi36 dX11_outline_36 (fun H locs hP _ hS => ?_)
      refine mQ_6 hP (fun M36 eM36 hP => ?_)
      have h := h M36 eM36
      refine lv_aload_n hx hb dX11_outline_37 rfl (lv_at hl 0 rfl) ?_
      refine m_callVi (As := []) (rest := []) ⟨hx, hb, hml, hown, hts⟩ (kX11_cubes l D cI cZ ad hD M36 _ h) (cwV 0 hts (gdV uS (inA_23 _ (List.mem_of_getElem? (i := 19) rfl)) vX11_cubes) rfl rfl rfl (by decide +kernel) ⟨Nat.le_of_ble_eq_true rfl, Nat.le_of_ble_eq_true rfl⟩) (va_recv hK hP (ci := 11) (q0 := 0) rfl (mW_0 cI cZ ad M36)) hP hK hS hl.1 rfl rfl (Nat.le_of_ble_eq_true rfl) dX11_outline_38 (fun r38 M38 H locs h hP hS => ?_)
      exact W.iret (v := r38) hx hb hr (fun t ht hW => ⟨⟨r38, M38, rfl, h, mAt_of ht hP⟩, hS.F ht⟩) hS.2.2 dX11_outline_41
    · have h := h.2 q16
      refine lv_iconst (v := (-1)) hx hb dX11_outline_19 (by decide) ?_
      exact W.iret (v := (-1)) hx hb hr (fun t ht hW => ⟨⟨(-1), M13, rfl, h, mAt_of ht hP⟩, hS.F ht⟩) hS.2.2 dX11_outline_20
set_option maxHeartbeats 4000000 in
set_option maxRecDepth 100000 in
theorem kX11_cube (l : Launch) (D : va_G) (cI cZ : ClassId) (ad : Nat → Nat) (hD : ∀ M : Mem, va_D (mA ad) (mW cI cZ ad M)) (M : Mem) (a1 a2 a3 : Int32) (Q : Int32 → Mem → Prop) (h : wX11_cube M a1 a2 a3 Q) : Met l yX11_cube uX11_cube ({ frames := 1, cells := 0, slots := 0, locals := 23 }) (va_Pc [.ref (ad 0), .int a1, .int a2, .int a3] (mPre D cI cZ ad M)) (va_Qi Q (mAt D cI cZ ad) (mA ad)) 0 0 (mA ad) := by
  refine Met.ofW (cc := cX11_cube) (maxL := 4) (ret := (some .boolean)) (by decide) rfl ?_
  intro p e s m args below meth c s₁ B hml hv
  obtain ⟨rfl, hP, hK⟩ := hv
  have hx := B.exec
  have hb := B.bytes
  have hr := B.returns
  have hts := atoms_spec (ws := uX11_cube) B.pre
  have hown : s.vm.findClass RX11 = some m.cls := findClass_of_methodNamed B.named
  have hlocks := B.notSynchronized
  have hS : va_S (mA ad) s.heap s.heap [] := va_S.rf
  have hl := lv_entry ([.ref (ad 0), .int a1, .int a2, .int a3]) (n := 4) (Nat.le_of_ble_eq_true rfl)
  rw [lg_entry_eq]
  generalize (lg_sl ([.ref (ad 0), .int a1, .int a2, .int a3]) ++ List.replicate (4 - (lg_sl ([.ref (ad 0), .int a1, .int a2, .int a3])).length) Slot.unset).toArray = ls at hl ⊢
  have hl : lv_has ls 4 [(0, .ref (ad 0)), (1, .int a1), (2, .int a2), (3, .int a3)] := hl
  refine lv_iload_n hx hb dX11_cube_0 rfl (lv_at hl 1 rfl) ?_
  refine lv_iconst (v := 0) hx hb dX11_cube_1 (by decide) ?_
  refine lv_bipush (v := 7) hx hb dX11_cube_2 (by decide) ?_
  refine m_callSi (As := [.int a1, .int 0, .int 7]) (rest := []) ⟨hx, hb, hml, hown, hts⟩ (kX11_in l D cI cZ ad hD M a1 0 7 _ h) (va_cwS 3 hts (gdS uS (inA_9 _ (List.mem_of_getElem? (i := 4) rfl)) vX11_in) rfl rfl rfl (by decide +kernel) ⟨Nat.le_of_ble_eq_true rfl, Nat.le_of_ble_eq_true rfl⟩) hP hK hS hl.1 rfl rfl (Nat.le_of_ble_eq_true rfl) dX11_cube_4 (fun r4 M4 H locs h hP hS => ?_)
  refine lv_if_eq (tgt := 44) hx hb dX11_cube_7 (by decide) (fun q7 => ?_) (fun q7 => ?_)
  · have h := h.1 q7
    refine lv_iconst (v := 0) hx hb dX11_cube_44 (by decide) ?_
    exact W.zret (v := 0) hx hb hr rfl (fun t ht hW => ⟨⟨0, M4, rfl, h, mAt_of ht hP⟩, hS.F ht⟩) hS.2.2 dX11_cube_45
  · have h := h.2 q7
    refine lv_iload_n hx hb dX11_cube_10 rfl (lv_at hl 2 rfl) ?_
    refine lv_iconst (v := 0) hx hb dX11_cube_11 (by decide) ?_
    refine lv_bipush (v := 7) hx hb dX11_cube_12 (by decide) ?_
    refine m_callSi (As := [.int a2, .int 0, .int 7]) (rest := []) ⟨hx, hb, hml, hown, hts⟩ (kX11_in l D cI cZ ad hD M4 a2 0 7 _ h) (va_cwS 3 hts (gdS uS (inA_9 _ (List.mem_of_getElem? (i := 4) rfl)) vX11_in) rfl rfl rfl (by decide +kernel) ⟨Nat.le_of_ble_eq_true rfl, Nat.le_of_ble_eq_true rfl⟩) hP hK hS hl.1 rfl rfl (Nat.le_of_ble_eq_true rfl) dX11_cube_14 (fun r14 M14 H locs h hP hS => ?_)
    refine lv_if_eq (tgt := 44) hx hb dX11_cube_17 (by decide) (fun q17 => ?_) (fun q17 => ?_)
    · have h := h.1 q17
      refine lv_iconst (v := 0) hx hb dX11_cube_44 (by decide) ?_
      exact W.zret (v := 0) hx hb hr rfl (fun t ht hW => ⟨⟨0, M14, rfl, h, mAt_of ht hP⟩, hS.F ht⟩) hS.2.2 dX11_cube_45
    · have h := h.2 q17
      refine lv_iload_n hx hb dX11_cube_20 rfl (lv_at hl 3 rfl) ?_
      refine lv_iconst (v := 0) hx hb dX11_cube_21 (by decide) ?_
      refine lv_bipush (v := 7) hx hb dX11_cube_22 (by decide) ?_
      refine m_callSi (As := [.int a3, .int 0, .int 7]) (rest := []) ⟨hx, hb, hml, hown, hts⟩ (kX11_in l D cI cZ ad hD M14 a3 0 7 _ h) (va_cwS 3 hts (gdS uS (inA_9 _ (List.mem_of_getElem? (i := 4) rfl)) vX11_in) rfl rfl rfl (by decide +kernel) ⟨Nat.le_of_ble_eq_true rfl, Nat.le_of_ble_eq_true rfl⟩) hP hK hS hl.1 rfl rfl (Nat.le_of_ble_eq_true rfl) dX11_cube_24 (fun r24 M24 H locs h hP hS => ?_)
      refine lv_if_eq (tgt := 44) hx hb dX11_cube_27 (by decide) (fun q27 => ?_) (fun q27 => ?_)
      · have h := h.1 q27
        refine lv_iconst (v := 0) hx hb dX11_cube_44 (by decide) ?_
        exact W.zret (v := 0) hx hb hr rfl (fun t ht hW => ⟨⟨0, M24, rfl, h, mAt_of ht hP⟩, hS.F ht⟩) hS.2.2 dX11_cube_45
      · have h := h.2 q27
        refine lv_aload_n hx hb dX11_cube_30 rfl (lv_at hl 0 rfl) ?_
        refine lv_iload_n hx hb dX11_cube_31 rfl (lv_at hl 1 rfl) ?_
        refine lv_iload_n hx hb dX11_cube_32 rfl (lv_at hl 2 rfl) ?_
        refine lv_iload_n hx hb dX11_cube_33 rfl (lv_at hl 3 rfl) ?_
        refine m_callVi (As := [.int a1, .int a2, .int a3]) (rest := []) ⟨hx, hb, hml, hown, hts⟩ (kX11_isCube l D cI cZ ad hD M24 a1 a2 a3 _ h) (cwV 3 hts (gdV uS (inA_23 _ (List.mem_of_getElem? (i := 23) rfl)) vX11_isCube) rfl rfl rfl (by decide +kernel) ⟨Nat.le_of_ble_eq_true rfl, Nat.le_of_ble_eq_true rfl⟩) (va_recv hK hP (ci := 11) (q0 := 0) rfl (mW_0 cI cZ ad M24)) hP hK hS hl.1 rfl rfl (Nat.le_of_ble_eq_true rfl) dX11_cube_34 (fun r34 M34 H locs h hP hS => ?_)
        refine lv_if_eq (tgt := 44) hx hb dX11_cube_37 (by decide) (fun q37 => ?_) (fun q37 => ?_)
        · have h := h.1 q37
          refine lv_iconst (v := 0) hx hb dX11_cube_44 (by decide) ?_
          exact W.zret (v := 0) hx hb hr rfl (fun t ht hW => ⟨⟨0, M34, rfl, h, mAt_of ht hP⟩, hS.F ht⟩) hS.2.2 dX11_cube_45
        · have h := h.2 q37
          refine lv_iconst (v := 1) hx hb dX11_cube_40 (by decide) ?_
          refine lv_goto (tgt := 45) hx hb dX11_cube_41 (by decide) ?_
          exact W.zret (v := 1) hx hb hr rfl (fun t ht hW => ⟨⟨1, M34, rfl, h, mAt_of ht hP⟩, hS.F ht⟩) hS.2.2 dX11_cube_45
abbrev GX11_hasCube (p : Program) (l : Launch) (e : Env) (s : State) (m : MethodId) (below : List Frame) (meth : Method) (c : Code) (D : va_G) (cI cZ : ClassId) (ad : Nat → Nat) (a1 a2 a3 : Int32) (Q : Int32 → Mem → Prop) (H : Heap) (locs : List Loc) (g : JFrame) : Prop := W p l e (headSpec uX11_hasCube { frames := 1, cells := 0, slots := 0, locals := 23 }).room s m ([.ref (ad 0), .int a1, .int a2, .int a3] : List Value).toArray below meth c H locs 0 0 (MQ below (va_Qi Q (mAt D cI cZ ad) (mA ad)) ([.ref (ad 0), .int a1, .int a2, .int a3] : List Value).toArray s 0 0 (mA ad)) g
set_option maxHeartbeats 4000000 in
set_option maxRecDepth 100000 in
theorem kX11_hasCube (l : Launch) (D : va_G) (cI cZ : ClassId) (ad : Nat → Nat) (hD : ∀ M : Mem, va_D (mA ad) (mW cI cZ ad M)) (M : Mem) (a1 a2 a3 : Int32) (Q : Int32 → Mem → Prop) (h : wX11_hasCube M a1 a2 a3 Q) : Met l yX11_hasCube uX11_hasCube ({ frames := 1, cells := 0, slots := 0, locals := 23 }) (va_Pc [.ref (ad 0), .int a1, .int a2, .int a3] (mPre D cI cZ ad M)) (va_Qi Q (mAt D cI cZ ad) (mA ad)) 0 0 (mA ad) := by
  refine Met.ofW (cc := cX11_hasCube) (maxL := 7) (ret := (some .boolean)) (by decide) rfl ?_
  intro p e s m args below meth c s₁ B hml hv
  obtain ⟨rfl, hP, hK⟩ := hv
  have hx := B.exec
  have hb := B.bytes
  have hr := B.returns
  have hts := atoms_spec (ws := uX11_hasCube) B.pre
  have hown : s.vm.findClass RX11 = some m.cls := findClass_of_methodNamed B.named
  have hlocks := B.notSynchronized
  have hS : va_S (mA ad) s.heap s.heap [] := va_S.rf
  have J52 : ∀ (B : Int32 → Int32 → Int32 → Int32 → Int32 → Mem → Prop) (K77 : Int32 → Mem → Prop), (∀ (x1 x2 x3 x4 x5 : Int32) (M : Mem) (H : Heap) (locs : List Loc) (ls : Array Slot), lv_has ls 7 [(0, .ref (ad 0)), (1, .int x1), (2, .int x2), (3, .int x3), (4, .int x4), (5, .int x5)] → va_P D vwCl (mW cI cZ ad M) H → va_S (mA ad) s.heap H locs → B x1 x2 x3 x4 x5 M → GX11_hasCube p l e s m below meth c D cI cZ ad a1 a2 a3 Q H locs (F0 m 6 ls [])) → (∀ (x4 : Int32) (M : Mem) (H : Heap) (locs : List Loc) (ls : Array Slot), lv_has ls 7 [(4, .int x4)] → va_P D vwCl (mW cI cZ ad M) H → va_S (mA ad) s.heap H locs → K77 x4 M → GX11_hasCube p l e s m below meth c D cI cZ ad a1 a2 a3 Q H locs (F0 m 77 ls [])) → ∀ (x1 x2 x3 x4 x5 t0 : Int32) (M : Mem) (H : Heap) (locs : List Loc) (ls : Array Slot), lv_has ls 7 [(0, .ref (ad 0)), (1, .int x1), (2, .int x2), (3, .int x3), (4, .int x4), (5, .int x5)] → va_P D vwCl (mW cI cZ ad M) H → va_S (mA ad) s.heap H locs → wX11_hasCube_J52 B K77 Q x1 x2 x3 x4 x5 t0 M → GX11_hasCube p l e s m below meth c D cI cZ ad a1 a2 a3 Q H locs (F0 m 52 ls [.int t0]) := by
    intro B K77 hB hK77 x1 x2 x3 x4 x5 t0 M H locs ls hl hP hS h
    refine lv_istore (lv' := [(6, .int t0), (0, .ref (ad 0)), (1, .int x1), (2, .int x2), (3, .int x3), (4, .int x4), (5, .int x5)]) hx hb dX11_hasCube_52 hl (by decide) rfl (fun ls hl => ?_)
    refine lv_iload hx hb dX11_hasCube_54 (lv_at hl 5 rfl) ?_
    refine lv_if_ne (tgt := 64) hx hb dX11_hasCube_56 (by decide) (fun q56 => ?_) (fun q56 => ?_)
    · have h := h.1 q56
      refine lv_iconst (v := 1) hx hb dX11_hasCube_64 (by decide) ?_
      refine lv_goto (tgt := 69) hx hb dX11_hasCube_65 (by decide) ?_
      refine lv_istore (lv' := [(4, .int 1), (6, .int t0), (0, .ref (ad 0)), (1, .int x1), (2, .int x2), (3, .int x3), (5, .int x5)]) hx hb dX11_hasCube_69 hl (by decide) rfl (fun ls hl => ?_)
      obtain ⟨x5_71, ex5_71⟩ : ∃ y : Int32, y = x5 + 1 := ⟨_, rfl⟩
      have h := h x5_71 ex5_71
      refine lv_iinc (v := x5_71) (lv' := [(5, .int x5_71), (4, .int 1), (6, .int t0), (0, .ref (ad 0)), (1, .int x1), (2, .int x2), (3, .int x3)]) hx hb dX11_hasCube_71 hl (k := 6) rfl (by rw [ex5_71]; rfl) (by decide) rfl (fun ls hl => ?_)
      refine lv_goto (tgt := 6) hx hb dX11_hasCube_74 (by decide) ?_
      exact hB x1 x2 x3 1 x5_71 M _ _ _ (lv_sub hl [3, 4, 5, 6, 1, 0] rfl) hP hS h
    · have h := h.2 q56
      refine lv_iload hx hb dX11_hasCube_59 (lv_at hl 0 rfl) ?_
      refine lv_if_eq (tgt := 68) hx hb dX11_hasCube_61 (by decide) (fun q61 => ?_) (fun q61 => ?_)
      · have h := h.1 q61
        refine lv_iconst (v := 0) hx hb dX11_hasCube_68 (by decide) ?_
        refine lv_istore (lv' := [(4, .int 0), (6, .int t0), (0, .ref (ad 0)), (1, .int x1), (2, .int x2), (3, .int x3), (5, .int x5)]) hx hb dX11_hasCube_69 hl (by decide) rfl (fun ls hl => ?_)
        obtain ⟨x5_71, ex5_71⟩ : ∃ y : Int32, y = x5 + 1 := ⟨_, rfl⟩
        have h := h x5_71 ex5_71
        refine lv_iinc (v := x5_71) (lv' := [(5, .int x5_71), (4, .int 0), (6, .int t0), (0, .ref (ad 0)), (1, .int x1), (2, .int x2), (3, .int x3)]) hx hb dX11_hasCube_71 hl (k := 6) rfl (by rw [ex5_71]; rfl) (by decide) rfl (fun ls hl => ?_)
        refine lv_goto (tgt := 6) hx hb dX11_hasCube_74 (by decide) ?_
        exact hB x1 x2 x3 0 x5_71 M _ _ _ (lv_sub hl [3, 4, 5, 6, 1, 0] rfl) hP hS h
      · have h := h.2 q61
        refine lv_iconst (v := 1) hx hb dX11_hasCube_64 (by decide) ?_
        refine lv_goto (tgt := 69) hx hb dX11_hasCube_65 (by decide) ?_
        refine lv_istore (lv' := [(4, .int 1), (6, .int t0), (0, .ref (ad 0)), (1, .int x1), (2, .int x2), (3, .int x3), (5, .int x5)]) hx hb dX11_hasCube_69 hl (by decide) rfl (fun ls hl => ?_)
        obtain ⟨x5_71, ex5_71⟩ : ∃ y : Int32, y = x5 + 1 := ⟨_, rfl⟩
        have h := h x5_71 ex5_71
        refine lv_iinc (v := x5_71) (lv' := [(5, .int x5_71), (4, .int 1), (6, .int t0), (0, .ref (ad 0)), (1, .int x1), (2, .int x2), (3, .int x3)]) hx hb dX11_hasCube_71 hl (k := 6) rfl (by rw [ex5_71]; rfl) (by decide) rfl (fun ls hl => ?_)
        refine lv_goto (tgt := 6) hx hb dX11_hasCube_74 (by decide) ?_
        exact hB x1 x2 x3 1 x5_71 M _ _ _ (lv_sub hl [3, 4, 5, 6, 1, 0] rfl) hP hS h
  have L6 : ∀ (K77 : Int32 → Mem → Prop), (∀ (x4 : Int32) (M : Mem) (H : Heap) (locs : List Loc) (ls : Array Slot), lv_has ls 7 [(4, .int x4)] → va_P D vwCl (mW cI cZ ad M) H → va_S (mA ad) s.heap H locs → K77 x4 M → GX11_hasCube p l e s m below meth c D cI cZ ad a1 a2 a3 Q H locs (F0 m 77 ls [])) → ∀ n : Nat, ∀ (x1 x2 x3 x4 x5 : Int32) (M : Mem) (H : Heap) (locs : List Loc) (ls : Array Slot), lv_has ls 7 [(0, .ref (ad 0)), (1, .int x1), (2, .int x2), (3, .int x3), (4, .int x4), (5, .int x5)] → va_P D vwCl (mW cI cZ ad M) H → va_S (mA ad) s.heap H locs → wX11_hasCube_L6 K77 Q n x1 x2 x3 x4 x5 M → GX11_hasCube p l e s m below meth c D cI cZ ad a1 a2 a3 Q H locs (F0 m 6 ls []) := by
    intro K77 hK77 n
    induction n with
    | zero => intro x1 x2 x3 x4 x5 M H locs ls hl hP hS h; exact (show False from h).elim
    | succ n hB =>
      intro x1 x2 x3 x4 x5 M H locs ls hl hP hS h
      rw [wX11_hasCube_L6_s] at h
      refine lv_iload hx hb dX11_hasCube_6 (lv_at hl 5 rfl) ?_
      refine lv_bipush (v := 8) hx hb dX11_hasCube_8 (by decide) ?_
      refine lv_icmp_ge (tgt := 77) hx hb dX11_hasCube_10 (by decide) (fun q10 => ?_) (fun q10 => ?_)
      · have h := h.1 q10
        exact hK77 x4 M _ _ _ (lv_sub hl [4] rfl) hP hS h
      · have h := h.2 q10
        refine lv_iload_n hx hb dX11_hasCube_13 rfl (lv_at hl 1 rfl) ?_
        refine lv_if_ne (tgt := 28) hx hb dX11_hasCube_14 (by decide) (fun q14 => ?_) (fun q14 => ?_)
        · have h := h.1 q14
          refine lv_iload_n hx hb dX11_hasCube_28 rfl (lv_at hl 1 rfl) ?_
          refine lv_iconst (v := 1) hx hb dX11_hasCube_29 (by decide) ?_
          refine lv_icmp_ne (tgt := 44) hx hb dX11_hasCube_30 (by decide) (fun q30 => ?_) (fun q30 => ?_)
          · have h := h.1 q30
            refine lv_aload_n hx hb dX11_hasCube_44 rfl (lv_at hl 0 rfl) ?_
            refine lv_iload_n hx hb dX11_hasCube_45 rfl (lv_at hl 3 rfl) ?_
            refine lv_iload_n hx hb dX11_hasCube_46 rfl (lv_at hl 2 rfl) ?_
            refine lv_iload hx hb dX11_hasCube_47 (lv_at hl 5 rfl) ?_
            refine m_callVi (As := [.int x3, .int x2, .int x5]) (rest := []) ⟨hx, hb, hml, hown, hts⟩ (kX11_isCube l D cI cZ ad hD M x3 x2 x5 _ h) (cwV 3 hts (gdV uS (inA_23 _ (List.mem_of_getElem? (i := 23) rfl)) vX11_isCube) rfl rfl rfl (by decide +kernel) ⟨Nat.le_of_ble_eq_true rfl, Nat.le_of_ble_eq_true rfl⟩) (va_recv hK hP (ci := 11) (q0 := 0) rfl (mW_0 cI cZ ad M)) hP hK hS hl.1 rfl rfl (Nat.le_of_ble_eq_true rfl) dX11_hasCube_49 (fun r49 M49 H locs h hP hS => ?_)
            exact J52 _ K77 hB hK77 x1 x2 x3 x4 x5 r49 M49 _ _ _ (lv_sub hl [0, 1, 2, 3, 4, 5] rfl) hP hS h
          · have h := h.2 q30
            refine lv_aload_n hx hb dX11_hasCube_33 rfl (lv_at hl 0 rfl) ?_
            refine lv_iload_n hx hb dX11_hasCube_34 rfl (lv_at hl 3 rfl) ?_
            refine lv_iload hx hb dX11_hasCube_35 (lv_at hl 5 rfl) ?_
            refine lv_iload_n hx hb dX11_hasCube_37 rfl (lv_at hl 2 rfl) ?_
            refine m_callVi (As := [.int x3, .int x5, .int x2]) (rest := []) ⟨hx, hb, hml, hown, hts⟩ (kX11_isCube l D cI cZ ad hD M x3 x5 x2 _ h) (cwV 3 hts (gdV uS (inA_23 _ (List.mem_of_getElem? (i := 23) rfl)) vX11_isCube) rfl rfl rfl (by decide +kernel) ⟨Nat.le_of_ble_eq_true rfl, Nat.le_of_ble_eq_true rfl⟩) (va_recv hK hP (ci := 11) (q0 := 0) rfl (mW_0 cI cZ ad M)) hP hK hS hl.1 rfl rfl (Nat.le_of_ble_eq_true rfl) dX11_hasCube_38 (fun r38 M38 H locs h hP hS => ?_)
            refine lv_goto (tgt := 52) hx hb dX11_hasCube_41 (by decide) ?_
            exact J52 _ K77 hB hK77 x1 x2 x3 x4 x5 r38 M38 _ _ _ (lv_sub hl [0, 1, 2, 3, 4, 5] rfl) hP hS h
        · have h := h.2 q14
          refine lv_aload_n hx hb dX11_hasCube_17 rfl (lv_at hl 0 rfl) ?_
          refine lv_iload hx hb dX11_hasCube_18 (lv_at hl 5 rfl) ?_
          refine lv_iload_n hx hb dX11_hasCube_20 rfl (lv_at hl 3 rfl) ?_
          refine lv_iload_n hx hb dX11_hasCube_21 rfl (lv_at hl 2 rfl) ?_
          refine m_callVi (As := [.int x5, .int x3, .int x2]) (rest := []) ⟨hx, hb, hml, hown, hts⟩ (kX11_isCube l D cI cZ ad hD M x5 x3 x2 _ h) (cwV 3 hts (gdV uS (inA_23 _ (List.mem_of_getElem? (i := 23) rfl)) vX11_isCube) rfl rfl rfl (by decide +kernel) ⟨Nat.le_of_ble_eq_true rfl, Nat.le_of_ble_eq_true rfl⟩) (va_recv hK hP (ci := 11) (q0 := 0) rfl (mW_0 cI cZ ad M)) hP hK hS hl.1 rfl rfl (Nat.le_of_ble_eq_true rfl) dX11_hasCube_22 (fun r22 M22 H locs h hP hS => ?_)
          refine lv_goto (tgt := 52) hx hb dX11_hasCube_25 (by decide) ?_
          exact J52 _ K77 hB hK77 x1 x2 x3 x4 x5 r22 M22 _ _ _ (lv_sub hl [0, 1, 2, 3, 4, 5] rfl) hP hS h
  have hl := lv_entry ([.ref (ad 0), .int a1, .int a2, .int a3]) (n := 7) (Nat.le_of_ble_eq_true rfl)
  rw [lg_entry_eq]
  generalize (lg_sl ([.ref (ad 0), .int a1, .int a2, .int a3]) ++ List.replicate (7 - (lg_sl ([.ref (ad 0), .int a1, .int a2, .int a3])).length) Slot.unset).toArray = ls at hl ⊢
  have hl : lv_has ls 7 [(0, .ref (ad 0)), (1, .int a1), (2, .int a2), (3, .int a3)] := hl
  refine lv_iconst (v := 0) hx hb dX11_hasCube_0 (by decide) ?_
  refine lv_istore (lv' := [(4, .int 0), (0, .ref (ad 0)), (1, .int a1), (2, .int a2), (3, .int a3)]) hx hb dX11_hasCube_1 hl (by decide) rfl (fun ls hl => ?_)
  refine lv_iconst (v := 0) hx hb dX11_hasCube_3 (by decide) ?_
  refine lv_istore (lv' := [(5, .int 0), (4, .int 0), (0, .ref (ad 0)), (1, .int a1), (2, .int a2), (3, .int a3)]) hx hb dX11_hasCube_4 hl (by decide) rfl (fun ls hl => ?_)
  obtain ⟨n, h⟩ := h
  refine L6 _ (fun x4 M H locs ls hl hP hS h => ?_) n a1 a2 a3 0 0 M _ _ _ (lv_sub hl [2, 3, 4, 5, 1, 0] rfl) hP hS h
  refine lv_iload hx hb dX11_hasCube_77 (lv_at hl 0 rfl) ?_
  obtain ⟨hz79, h⟩ := h
  exact W.zret (v := x4) hx hb hr (znar hz79) (fun t ht hW => ⟨⟨x4, M, rfl, h, mAt_of ht hP⟩, hS.F ht⟩) hS.2.2 dX11_hasCube_79
abbrev GX11_empty (p : Program) (l : Launch) (e : Env) (s : State) (m : MethodId) (below : List Frame) (meth : Method) (c : Code) (D : va_G) (cI cZ : ClassId) (ad : Nat → Nat) (a1 : Int32) (Q : Int32 → Mem → Prop) (H : Heap) (locs : List Loc) (g : JFrame) : Prop := W p l e (headSpec uX11_empty { frames := 2, cells := 0, slots := 0, locals := 49 }).room s m ([.ref (ad 0), .int a1] : List Value).toArray below meth c H locs 0 0 (MQ below (va_Qi Q (mAt D cI cZ ad) (mA ad)) ([.ref (ad 0), .int a1] : List Value).toArray s 0 0 (mA ad)) g
set_option maxHeartbeats 4000000 in
set_option maxRecDepth 100000 in
theorem kX11_empty (l : Launch) (D : va_G) (cI cZ : ClassId) (ad : Nat → Nat) (hD : ∀ M : Mem, va_D (mA ad) (mW cI cZ ad M)) (M : Mem) (a1 : Int32) (Q : Int32 → Mem → Prop) (h : wX11_empty M a1 Q) : Met l yX11_empty uX11_empty ({ frames := 2, cells := 0, slots := 0, locals := 49 }) (va_Pc [.ref (ad 0), .int a1] (mPre D cI cZ ad M)) (va_Qi Q (mAt D cI cZ ad) (mA ad)) 0 0 (mA ad) := by
  refine Met.ofW (cc := cX11_empty) (maxL := 5) (ret := (some .int)) (by decide) rfl ?_
  intro p e s m args below meth c s₁ B hml hv
  obtain ⟨rfl, hP, hK⟩ := hv
  have hx := B.exec
  have hb := B.bytes
  have hr := B.returns
  have hts := atoms_spec (ws := uX11_empty) B.pre
  have hown : s.vm.findClass RX11 = some m.cls := findClass_of_methodNamed B.named
  have hlocks := B.notSynchronized
  have hS : va_S (mA ad) s.heap s.heap [] := va_S.rf
  have k0 := hts (.fieldLink RX11 33 "TwoEyesModel" "outlines" "[I") (List.mem_cons_of_mem _ (inA_7 _ (List.mem_of_getElem? (i := 1) rfl)))
  have inX11 : ∀ w ∈ wsX110, w ∈ uX11_empty := fun w h => List.mem_cons_of_mem _ (inCX11 w h)
  have L24 : ∀ (K76 : Int32 → Int32 → Int32 → Mem → Prop), (∀ (x1 x2 x3 : Int32) (M : Mem) (H : Heap) (locs : List Loc) (ls : Array Slot), lv_has ls 5 [(0, .ref (ad 0)), (1, .int x1), (2, .int x2), (3, .int x3)] → va_P D vwCl (mW cI cZ ad M) H → va_S (mA ad) s.heap H locs → K76 x1 x2 x3 M → GX11_empty p l e s m below meth c D cI cZ ad a1 Q H locs (F0 m 76 ls [])) → ∀ n : Nat, ∀ (x1 x2 x3 x4 : Int32) (M : Mem) (H : Heap) (locs : List Loc) (ls : Array Slot), lv_has ls 5 [(0, .ref (ad 0)), (1, .int x1), (2, .int x2), (3, .int x3), (4, .int x4)] → va_P D vwCl (mW cI cZ ad M) H → va_S (mA ad) s.heap H locs → wX11_empty_L24 K76 Q n x1 x2 x3 x4 M → GX11_empty p l e s m below meth c D cI cZ ad a1 Q H locs (F0 m 24 ls []) := by
    intro K76 hK76 n
    induction n with
    | zero => intro x1 x2 x3 x4 M H locs ls hl hP hS h; exact (show False from h).elim
    | succ n hB =>
      intro x1 x2 x3 x4 M H locs ls hl hP hS h
      rw [wX11_empty_L24_s] at h
      refine lv_iload hx hb dX11_empty_24 (lv_at hl 4 rfl) ?_
      refine lv_bipush (v := 8) hx hb dX11_empty_26 (by decide) ?_
      refine lv_icmp_ge (tgt := 76) hx hb dX11_empty_28 (by decide) (fun q28 => ?_) (fun q28 => ?_)
      · have h := h.1 q28
        exact hK76 x1 x2 x3 M _ _ _ (lv_sub hl [0, 1, 2, 3] rfl) hP hS h
      · have h := h.2 q28
        refine lv_iload_n hx hb dX11_empty_31 rfl (lv_at hl 2 rfl) ?_
        refine lv_aload_n hx hb dX11_empty_32 rfl (lv_at hl 0 rfl) ?_
        refine va_get (D := D) (ci := 11) (v := .ref (ad 6)) (C := RX11) (T := TX11) (N := 26) hx hb hts inX11 hown hK hP 0 (mW_0 cI cZ ad M) rfl 7 (by decide) k0 (fun _ h9 => h9) rfl dX11_empty_33 ?_
        refine lv_bipush (v := 8) hx hb dX11_empty_36 (by decide) ?_
        refine lv_iload_n hx hb dX11_empty_38 rfl (lv_at hl 1 rfl) ?_
        refine lv_imul hx hb dX11_empty_39 ?_
        refine lv_iload_n hx hb dX11_empty_40 rfl (lv_at hl 3 rfl) ?_
        refine lv_iadd hx hb dX11_empty_41 ?_
        obtain ⟨hi42, h⟩ := h
        refine va_iald hx hb hK hP 6 0 (mW_6 cI cZ ad M) rfl hi42 dX11_empty_42 ?_
        refine lv_iload hx hb dX11_empty_43 (lv_at hl 4 rfl) ?_
        refine lv_ishr hx hb dX11_empty_45 ?_
        refine lv_iconst (v := 1) hx hb dX11_empty_46 (by decide) ?_
        refine lv_iand hx hb dX11_empty_47 ?_
        refine lv_iconst (v := 1) hx hb dX11_empty_48 (by decide) ?_
        refine lv_icmp_ne (tgt := 67) hx hb dX11_empty_49 (by decide) (fun q49 => ?_) (fun q49 => ?_)
        · have h := h.1 q49
          refine lv_iconst (v := 0) hx hb dX11_empty_67 (by decide) ?_
          refine lv_iadd hx hb dX11_empty_68 ?_
          refine lv_topi (fun x2_69 ex2_69 => ?_)
          have h := h x2_69 ex2_69
          refine lv_istore_n (lv' := [(2, .int x2_69), (0, .ref (ad 0)), (1, .int x1), (3, .int x3), (4, .int x4)]) hx hb dX11_empty_69 rfl hl (by decide) rfl (fun ls hl => ?_)
          obtain ⟨x4_70, ex4_70⟩ : ∃ y : Int32, y = x4 + 1 := ⟨_, rfl⟩
          have h := h x4_70 ex4_70
          refine lv_iinc (v := x4_70) (lv' := [(4, .int x4_70), (2, .int x2_69), (0, .ref (ad 0)), (1, .int x1), (3, .int x3)]) hx hb dX11_empty_70 hl (k := 4) rfl (by rw [ex4_70]; rfl) (by decide) rfl (fun ls hl => ?_)
          refine lv_goto (tgt := 24) hx hb dX11_empty_73 (by decide) ?_
          exact hB x1 x2_69 x3 x4_70 M _ _ _ (lv_sub hl [2, 3, 1, 4, 0] rfl) hP hS h
        · have h := h.2 q49
          refine lv_aload_n hx hb dX11_empty_52 rfl (lv_at hl 0 rfl) ?_
          refine lv_iload_n hx hb dX11_empty_53 rfl (lv_at hl 1 rfl) ?_
          refine lv_iload_n hx hb dX11_empty_54 rfl (lv_at hl 3 rfl) ?_
          refine lv_iload hx hb dX11_empty_55 (lv_at hl 4 rfl) ?_
          refine m_callVi (As := [.int x1, .int x3, .int x4]) (rest := [.int x2]) ⟨hx, hb, hml, hown, hts⟩ (kX11_hasCube l D cI cZ ad hD M x1 x3 x4 _ h) (cwV 3 hts (gdV uS (inA_37 _ (List.mem_of_getElem? (i := 19) rfl)) vX11_hasCube) rfl rfl rfl (by decide +kernel) ⟨Nat.le_of_ble_eq_true rfl, Nat.le_of_ble_eq_true rfl⟩) (va_recv hK hP (ci := 11) (q0 := 0) rfl (mW_0 cI cZ ad M)) hP hK hS hl.1 rfl rfl (Nat.le_of_ble_eq_true rfl) dX11_empty_57 (fun r57 M57 H locs h hP hS => ?_)
          refine lv_if_ne (tgt := 67) hx hb dX11_empty_60 (by decide) (fun q60 => ?_) (fun q60 => ?_)
          · have h := h.1 q60
            refine lv_iconst (v := 0) hx hb dX11_empty_67 (by decide) ?_
            refine lv_iadd hx hb dX11_empty_68 ?_
            refine lv_topi (fun x2_69 ex2_69 => ?_)
            have h := h x2_69 ex2_69
            refine lv_istore_n (lv' := [(2, .int x2_69), (0, .ref (ad 0)), (1, .int x1), (3, .int x3), (4, .int x4)]) hx hb dX11_empty_69 rfl hl (by decide) rfl (fun ls hl => ?_)
            obtain ⟨x4_70, ex4_70⟩ : ∃ y : Int32, y = x4 + 1 := ⟨_, rfl⟩
            have h := h x4_70 ex4_70
            refine lv_iinc (v := x4_70) (lv' := [(4, .int x4_70), (2, .int x2_69), (0, .ref (ad 0)), (1, .int x1), (3, .int x3)]) hx hb dX11_empty_70 hl (k := 4) rfl (by rw [ex4_70]; rfl) (by decide) rfl (fun ls hl => ?_)
            refine lv_goto (tgt := 24) hx hb dX11_empty_73 (by decide) ?_
            exact hB x1 x2_69 x3 x4_70 M57 _ _ _ (lv_sub hl [2, 3, 1, 4, 0] rfl) hP hS h
          · have h := h.2 q60
            refine lv_iconst (v := 1) hx hb dX11_empty_63 (by decide) ?_
            refine lv_goto (tgt := 68) hx hb dX11_empty_64 (by decide) ?_
            refine lv_iadd hx hb dX11_empty_68 ?_
            refine lv_topi (fun x2_69 ex2_69 => ?_)
            have h := h x2_69 ex2_69
            refine lv_istore_n (lv' := [(2, .int x2_69), (0, .ref (ad 0)), (1, .int x1), (3, .int x3), (4, .int x4)]) hx hb dX11_empty_69 rfl hl (by decide) rfl (fun ls hl => ?_)
            obtain ⟨x4_70, ex4_70⟩ : ∃ y : Int32, y = x4 + 1 := ⟨_, rfl⟩
            have h := h x4_70 ex4_70
            refine lv_iinc (v := x4_70) (lv' := [(4, .int x4_70), (2, .int x2_69), (0, .ref (ad 0)), (1, .int x1), (3, .int x3)]) hx hb dX11_empty_70 hl (k := 4) rfl (by rw [ex4_70]; rfl) (by decide) rfl (fun ls hl => ?_)
            refine lv_goto (tgt := 24) hx hb dX11_empty_73 (by decide) ?_
            exact hB x1 x2_69 x3 x4_70 M57 _ _ _ (lv_sub hl [2, 3, 1, 4, 0] rfl) hP hS h
  have L15 : ∀ (K82 : Int32 → Mem → Prop), (∀ (x2 : Int32) (M : Mem) (H : Heap) (locs : List Loc) (ls : Array Slot), lv_has ls 5 [(2, .int x2)] → va_P D vwCl (mW cI cZ ad M) H → va_S (mA ad) s.heap H locs → K82 x2 M → GX11_empty p l e s m below meth c D cI cZ ad a1 Q H locs (F0 m 82 ls [])) → ∀ n : Nat, ∀ (x1 x2 x3 : Int32) (M : Mem) (H : Heap) (locs : List Loc) (ls : Array Slot), lv_has ls 5 [(0, .ref (ad 0)), (1, .int x1), (2, .int x2), (3, .int x3)] → va_P D vwCl (mW cI cZ ad M) H → va_S (mA ad) s.heap H locs → wX11_empty_L15 K82 Q n x1 x2 x3 M → GX11_empty p l e s m below meth c D cI cZ ad a1 Q H locs (F0 m 15 ls []) := by
    intro K82 hK82 n
    induction n with
    | zero => intro x1 x2 x3 M H locs ls hl hP hS h; exact (show False from h).elim
    | succ n hB =>
      intro x1 x2 x3 M H locs ls hl hP hS h
      rw [wX11_empty_L15_s] at h
      refine lv_iload_n hx hb dX11_empty_15 rfl (lv_at hl 3 rfl) ?_
      refine lv_bipush (v := 8) hx hb dX11_empty_16 (by decide) ?_
      refine lv_icmp_ge (tgt := 82) hx hb dX11_empty_18 (by decide) (fun q18 => ?_) (fun q18 => ?_)
      · have h := h.1 q18
        exact hK82 x2 M _ _ _ (lv_sub hl [2] rfl) hP hS h
      · have h := h.2 q18
        refine lv_iconst (v := 0) hx hb dX11_empty_21 (by decide) ?_
        refine lv_istore (lv' := [(4, .int 0), (0, .ref (ad 0)), (1, .int x1), (2, .int x2), (3, .int x3)]) hx hb dX11_empty_22 hl (by decide) rfl (fun ls hl => ?_)
        obtain ⟨n, h⟩ := h
        refine L24 _ (fun x1 x2 x3 M H locs ls hl hP hS h => ?_) n x1 x2 x3 0 M _ _ _ (lv_sub hl [1, 2, 3, 4, 0] rfl) hP hS h
        obtain ⟨x3_76, ex3_76⟩ : ∃ y : Int32, y = x3 + 1 := ⟨_, rfl⟩
        have h := h x3_76 ex3_76
        refine lv_iinc (v := x3_76) (lv' := [(3, .int x3_76), (0, .ref (ad 0)), (1, .int x1), (2, .int x2)]) hx hb dX11_empty_76 hl (k := 3) rfl (by rw [ex3_76]; rfl) (by decide) rfl (fun ls hl => ?_)
        refine lv_goto (tgt := 15) hx hb dX11_empty_79 (by decide) ?_
        exact hB x1 x2 x3_76 M _ _ _ (lv_sub hl [1, 2, 3, 0] rfl) hP hS h
  have hl := lv_entry ([.ref (ad 0), .int a1]) (n := 5) (Nat.le_of_ble_eq_true rfl)
  rw [lg_entry_eq]
  generalize (lg_sl ([.ref (ad 0), .int a1]) ++ List.replicate (5 - (lg_sl ([.ref (ad 0), .int a1])).length) Slot.unset).toArray = ls at hl ⊢
  have hl : lv_has ls 5 [(0, .ref (ad 0)), (1, .int a1)] := hl
  refine lv_iload_n hx hb dX11_empty_0 rfl (lv_at hl 1 rfl) ?_
  refine lv_iconst (v := 0) hx hb dX11_empty_1 (by decide) ?_
  refine lv_iconst (v := 2) hx hb dX11_empty_2 (by decide) ?_
  refine m_callSi (As := [.int a1, .int 0, .int 2]) (rest := []) ⟨hx, hb, hml, hown, hts⟩ (kX11_in l D cI cZ ad hD M a1 0 2 _ h) (va_cwS 3 hts (gdS uS (inA_9 _ (List.mem_of_getElem? (i := 4) rfl)) vX11_in) rfl rfl rfl (by decide +kernel) ⟨Nat.le_of_ble_eq_true rfl, Nat.le_of_ble_eq_true rfl⟩) hP hK hS hl.1 rfl rfl (Nat.le_of_ble_eq_true rfl) dX11_empty_3 (fun r3 M3 H locs h hP hS => ?_)
  refine lv_if_ne (tgt := 11) hx hb dX11_empty_6 (by decide) (fun q6 => ?_) (fun q6 => ?_)
  · have h := h.1 q6
    refine lv_iconst (v := 0) hx hb dX11_empty_11 (by decide) ?_
    refine lv_istore_n (lv' := [(2, .int 0), (0, .ref (ad 0)), (1, .int a1)]) hx hb dX11_empty_12 rfl hl (by decide) rfl (fun ls hl => ?_)
    refine lv_iconst (v := 0) hx hb dX11_empty_13 (by decide) ?_
    refine lv_istore_n (lv' := [(3, .int 0), (2, .int 0), (0, .ref (ad 0)), (1, .int a1)]) hx hb dX11_empty_14 rfl hl (by decide) rfl (fun ls hl => ?_)
    obtain ⟨n, h⟩ := h
    refine L15 _ (fun x2 M H locs ls hl hP hS h => ?_) n a1 0 0 M3 _ _ _ (lv_sub hl [2, 3, 1, 0] rfl) hP hS h
    refine lv_iload_n hx hb dX11_empty_82 rfl (lv_at hl 0 rfl) ?_
    exact W.iret (v := x2) hx hb hr (fun t ht hW => ⟨⟨x2, M, rfl, h, mAt_of ht hP⟩, hS.F ht⟩) hS.2.2 dX11_empty_83
  · have h := h.2 q6
    refine lv_iconst (v := (-1)) hx hb dX11_empty_9 (by decide) ?_
    exact W.iret (v := (-1)) hx hb hr (fun t ht hW => ⟨⟨(-1), M3, rfl, h, mAt_of ht hP⟩, hS.F ht⟩) hS.2.2 dX11_empty_10
abbrev GX11_keep (p : Program) (l : Launch) (e : Env) (s : State) (m : MethodId) (below : List Frame) (meth : Method) (c : Code) (D : va_G) (cI cZ : ClassId) (ad : Nat → Nat) (Q : Int32 → Mem → Prop) (H : Heap) (locs : List Loc) (g : JFrame) : Prop := W p l e (headSpec uX11_keep { frames := 0, cells := 0, slots := 0, locals := 0 }).room s m ([.ref (ad 0)] : List Value).toArray below meth c H locs 0 0 (MQ below (va_Qi Q (mAt D cI cZ ad) (mA ad)) ([.ref (ad 0)] : List Value).toArray s 0 0 (mA ad)) g
set_option maxHeartbeats 4000000 in
set_option maxRecDepth 100000 in
theorem kX11_keep (l : Launch) (D : va_G) (cI cZ : ClassId) (ad : Nat → Nat) (hD : ∀ M : Mem, va_D (mA ad) (mW cI cZ ad M)) (M : Mem) (Q : Int32 → Mem → Prop) (h : wX11_keep M Q) : Met l yX11_keep uX11_keep ({ frames := 0, cells := 0, slots := 0, locals := 0 }) (va_Pc [.ref (ad 0)] (mPre D cI cZ ad M)) (va_Qi Q (mAt D cI cZ ad) (mA ad)) 0 0 (mA ad) := by
  refine Met.ofW (cc := cX11_keep) (maxL := 2) (ret := (some .int)) (by decide) rfl ?_
  intro p e s m args below meth c s₁ B hml hv
  obtain ⟨rfl, hP, hK⟩ := hv
  have hx := B.exec
  have hb := B.bytes
  have hr := B.returns
  have hts := atoms_spec (ws := uX11_keep) B.pre
  have hown : s.vm.findClass RX11 = some m.cls := findClass_of_methodNamed B.named
  have hlocks := B.notSynchronized
  have hS : va_S (mA ad) s.heap s.heap [] := va_S.rf
  have k0 := hts (.fieldLink RX11 42 "TwoEyesModel" "keptRowGone" "[Z") (List.mem_cons_of_mem _ (inA_7 _ (List.mem_of_getElem? (i := 4) rfl)))
  have inX11 : ∀ w ∈ wsX110, w ∈ uX11_keep := fun w h => List.mem_cons_of_mem _ (inCX11 w h)
  have k2 := hts (.fieldLink RX11 24 "TwoEyesModel" "isRowGone" "[Z") (List.mem_cons_of_mem _ (inA_6 _ (List.mem_of_getElem? (i := 22) rfl)))
  have k3 := hts (.fieldLink RX11 45 "TwoEyesModel" "keptTruths" "[I") (List.mem_cons_of_mem _ (inA_7 _ (List.mem_of_getElem? (i := 5) rfl)))
  have k4 := hts (.fieldLink RX11 27 "TwoEyesModel" "truths" "[I") (List.mem_cons_of_mem _ (inA_6 _ (List.mem_of_getElem? (i := 23) rfl)))
  have k5 := hts (.fieldLink RX11 36 "TwoEyesModel" "keptShades" "[I") (List.mem_cons_of_mem _ (inA_7 _ (List.mem_of_getElem? (i := 2) rfl)))
  have k6 := hts (.fieldLink RX11 16 "TwoEyesModel" "shades" "[I") (List.mem_cons_of_mem _ (inA_6 _ (List.mem_of_getElem? (i := 20) rfl)))
  have k7 := hts (.fieldLink RX11 39 "TwoEyesModel" "keptGone" "[Z") (List.mem_cons_of_mem _ (inA_7 _ (List.mem_of_getElem? (i := 3) rfl)))
  have k8 := hts (.fieldLink RX11 20 "TwoEyesModel" "isGone" "[Z") (List.mem_cons_of_mem _ (inA_6 _ (List.mem_of_getElem? (i := 21) rfl)))
  have k9 := hts (.fieldLink RX11 204 "TwoEyesModel" "isKept" "Z") (List.mem_cons_of_mem _ (inA_38 _ (List.mem_of_getElem? (i := 17) rfl)))
  have k10 := hts (.fieldLink RX11 7 "TwoEyesModel" "width" "I") (List.mem_cons_of_mem _ (inA_6 _ (List.mem_of_getElem? (i := 18) rfl)))
  have k11 := hts (.fieldLink RX11 207 "TwoEyesModel" "keptWidth" "I") (List.mem_cons_of_mem _ (inA_38 _ (List.mem_of_getElem? (i := 18) rfl)))
  have k12 := hts (.fieldLink RX11 13 "TwoEyesModel" "height" "I") (List.mem_cons_of_mem _ (inA_6 _ (List.mem_of_getElem? (i := 19) rfl)))
  have k13 := hts (.fieldLink RX11 210 "TwoEyesModel" "keptHeight" "I") (List.mem_cons_of_mem _ (inA_38 _ (List.mem_of_getElem? (i := 19) rfl)))
  have L62 : ∀ (K86 : Mem → Prop), (∀ (M : Mem) (H : Heap) (locs : List Loc) (ls : Array Slot), lv_has ls 2 [(0, .ref (ad 0))] → va_P D vwCl (mW cI cZ ad M) H → va_S (mA ad) s.heap H locs → K86 M → GX11_keep p l e s m below meth c D cI cZ ad Q H locs (F0 m 86 ls [])) → ∀ n : Nat, ∀ (x1 : Int32) (M : Mem) (H : Heap) (locs : List Loc) (ls : Array Slot), lv_has ls 2 [(0, .ref (ad 0)), (1, .int x1)] → va_P D vwCl (mW cI cZ ad M) H → va_S (mA ad) s.heap H locs → wX11_keep_L62 K86 Q n x1 M → GX11_keep p l e s m below meth c D cI cZ ad Q H locs (F0 m 62 ls []) := by
    intro K86 hK86 n
    induction n with
    | zero => intro x1 M H locs ls hl hP hS h; exact (show False from h).elim
    | succ n hB =>
      intro x1 M H locs ls hl hP hS h
      rw [wX11_keep_L62_s] at h
      refine lv_iload_n hx hb dX11_keep_62 rfl (lv_at hl 1 rfl) ?_
      refine lv_bipush (v := 20) hx hb dX11_keep_63 (by decide) ?_
      refine lv_icmp_ge (tgt := 86) hx hb dX11_keep_65 (by decide) (fun q65 => ?_) (fun q65 => ?_)
      · have h := h.1 q65
        exact hK86 M _ _ _ (lv_sub hl [0] rfl) hP hS h
      · have h := h.2 q65
        refine lv_aload_n hx hb dX11_keep_68 rfl (lv_at hl 0 rfl) ?_
        refine va_get (D := D) (ci := 11) (v := .ref (ad 9)) (C := RX11) (T := TX11) (N := 26) hx hb hts inX11 hown hK hP 0 (mW_0 cI cZ ad M) rfl 13 (by decide) k0 (fun _ h9 => h9) rfl dX11_keep_69 ?_
        refine lv_iload_n hx hb dX11_keep_72 rfl (lv_at hl 1 rfl) ?_
        refine lv_aload_n hx hb dX11_keep_73 rfl (lv_at hl 0 rfl) ?_
        refine va_get (D := D) (ci := 11) (v := .ref (ad 3)) (C := RX11) (T := TX11) (N := 26) hx hb hts inX11 hown hK hP 0 (mW_0 cI cZ ad M) rfl 4 (by decide) k2 (fun _ h9 => h9) rfl dX11_keep_74 ?_
        refine lv_iload_n hx hb dX11_keep_77 rfl (lv_at hl 1 rfl) ?_
        obtain ⟨hi78, h⟩ := h
        refine va_zald hx hb hK hP 3 1 (mW_3 cI cZ ad M) rfl hi78 dX11_keep_78 ?_
        obtain ⟨hi79, h⟩ := h
        obtain ⟨hz79, h⟩ := h
        refine va_zast hx hb hK hP (hD M) hS 9 1 (mW_9 cI cZ ad M) rfl hi79 dX11_keep_79 (fun H locs hP _ hS => ?_)
        rw [zst hz79] at hP
        refine mQ_9 hP (fun M79 eM79 hP => ?_)
        have h := h M79 eM79
        obtain ⟨x1_80, ex1_80⟩ : ∃ y : Int32, y = x1 + 1 := ⟨_, rfl⟩
        have h := h x1_80 ex1_80
        refine lv_iinc (v := x1_80) (lv' := [(1, .int x1_80), (0, .ref (ad 0))]) hx hb dX11_keep_80 hl (k := 1) rfl (by rw [ex1_80]; rfl) (by decide) rfl (fun ls hl => ?_)
        refine lv_goto (tgt := 62) hx hb dX11_keep_83 (by decide) ?_
        exact hB x1_80 M79 _ _ _ (lv_sub hl [1, 0] rfl) hP hS h
  have L88 : ∀ (K113 : Mem → Prop), (∀ (M : Mem) (H : Heap) (locs : List Loc) (ls : Array Slot), lv_has ls 2 [] → va_P D vwCl (mW cI cZ ad M) H → va_S (mA ad) s.heap H locs → K113 M → GX11_keep p l e s m below meth c D cI cZ ad Q H locs (F0 m 113 ls [])) → ∀ n : Nat, ∀ (x1 : Int32) (M : Mem) (H : Heap) (locs : List Loc) (ls : Array Slot), lv_has ls 2 [(0, .ref (ad 0)), (1, .int x1)] → va_P D vwCl (mW cI cZ ad M) H → va_S (mA ad) s.heap H locs → wX11_keep_L88 K113 Q n x1 M → GX11_keep p l e s m below meth c D cI cZ ad Q H locs (F0 m 88 ls []) := by
    intro K113 hK113 n
    induction n with
    | zero => intro x1 M H locs ls hl hP hS h; exact (show False from h).elim
    | succ n hB =>
      intro x1 M H locs ls hl hP hS h
      rw [wX11_keep_L88_s] at h
      refine lv_iload_n hx hb dX11_keep_88 rfl (lv_at hl 1 rfl) ?_
      refine lv_sipush (v := 200) hx hb dX11_keep_89 (by decide) ?_
      refine lv_icmp_ge (tgt := 113) hx hb dX11_keep_92 (by decide) (fun q92 => ?_) (fun q92 => ?_)
      · have h := h.1 q92
        exact hK113 M _ _ _ (lv_sub hl [] rfl) hP hS h
      · have h := h.2 q92
        refine lv_aload_n hx hb dX11_keep_95 rfl (lv_at hl 0 rfl) ?_
        refine va_get (D := D) (ci := 11) (v := .ref (ad 10)) (C := RX11) (T := TX11) (N := 26) hx hb hts inX11 hown hK hP 0 (mW_0 cI cZ ad M) rfl 14 (by decide) k3 (fun _ h9 => h9) rfl dX11_keep_96 ?_
        refine lv_iload_n hx hb dX11_keep_99 rfl (lv_at hl 1 rfl) ?_
        refine lv_aload_n hx hb dX11_keep_100 rfl (lv_at hl 0 rfl) ?_
        refine va_get (D := D) (ci := 11) (v := .ref (ad 4)) (C := RX11) (T := TX11) (N := 26) hx hb hts inX11 hown hK hP 0 (mW_0 cI cZ ad M) rfl 5 (by decide) k4 (fun _ h9 => h9) rfl dX11_keep_101 ?_
        refine lv_iload_n hx hb dX11_keep_104 rfl (lv_at hl 1 rfl) ?_
        obtain ⟨hi105, h⟩ := h
        refine va_iald hx hb hK hP 4 0 (mW_4 cI cZ ad M) rfl hi105 dX11_keep_105 ?_
        obtain ⟨hi106, h⟩ := h
        refine va_iast hx hb hK hP (hD M) hS 10 0 (mW_10 cI cZ ad M) rfl hi106 dX11_keep_106 (fun H locs hP _ hS => ?_)
        refine mQ_10 hP (fun M106 eM106 hP => ?_)
        have h := h M106 eM106
        obtain ⟨x1_107, ex1_107⟩ : ∃ y : Int32, y = x1 + 1 := ⟨_, rfl⟩
        have h := h x1_107 ex1_107
        refine lv_iinc (v := x1_107) (lv' := [(1, .int x1_107), (0, .ref (ad 0))]) hx hb dX11_keep_107 hl (k := 1) rfl (by rw [ex1_107]; rfl) (by decide) rfl (fun ls hl => ?_)
        refine lv_goto (tgt := 88) hx hb dX11_keep_110 (by decide) ?_
        exact hB x1_107 M106 _ _ _ (lv_sub hl [1, 0] rfl) hP hS h
  have L23 : ∀ (K60 : Mem → Prop), (∀ (M : Mem) (H : Heap) (locs : List Loc) (ls : Array Slot), lv_has ls 2 [(0, .ref (ad 0))] → va_P D vwCl (mW cI cZ ad M) H → va_S (mA ad) s.heap H locs → K60 M → GX11_keep p l e s m below meth c D cI cZ ad Q H locs (F0 m 60 ls [])) → ∀ n : Nat, ∀ (x1 : Int32) (M : Mem) (H : Heap) (locs : List Loc) (ls : Array Slot), lv_has ls 2 [(0, .ref (ad 0)), (1, .int x1)] → va_P D vwCl (mW cI cZ ad M) H → va_S (mA ad) s.heap H locs → wX11_keep_L23 K60 Q n x1 M → GX11_keep p l e s m below meth c D cI cZ ad Q H locs (F0 m 23 ls []) := by
    intro K60 hK60 n
    induction n with
    | zero => intro x1 M H locs ls hl hP hS h; exact (show False from h).elim
    | succ n hB =>
      intro x1 M H locs ls hl hP hS h
      rw [wX11_keep_L23_s] at h
      refine lv_iload_n hx hb dX11_keep_23 rfl (lv_at hl 1 rfl) ?_
      refine lv_sipush (v := 400) hx hb dX11_keep_24 (by decide) ?_
      refine lv_icmp_ge (tgt := 60) hx hb dX11_keep_27 (by decide) (fun q27 => ?_) (fun q27 => ?_)
      · have h := h.1 q27
        exact hK60 M _ _ _ (lv_sub hl [0] rfl) hP hS h
      · have h := h.2 q27
        refine lv_aload_n hx hb dX11_keep_30 rfl (lv_at hl 0 rfl) ?_
        refine va_get (D := D) (ci := 11) (v := .ref (ad 7)) (C := RX11) (T := TX11) (N := 26) hx hb hts inX11 hown hK hP 0 (mW_0 cI cZ ad M) rfl 11 (by decide) k5 (fun _ h9 => h9) rfl dX11_keep_31 ?_
        refine lv_iload_n hx hb dX11_keep_34 rfl (lv_at hl 1 rfl) ?_
        refine lv_aload_n hx hb dX11_keep_35 rfl (lv_at hl 0 rfl) ?_
        refine va_get (D := D) (ci := 11) (v := .ref (ad 1)) (C := RX11) (T := TX11) (N := 26) hx hb hts inX11 hown hK hP 0 (mW_0 cI cZ ad M) rfl 2 (by decide) k6 (fun _ h9 => h9) rfl dX11_keep_36 ?_
        refine lv_iload_n hx hb dX11_keep_39 rfl (lv_at hl 1 rfl) ?_
        obtain ⟨hi40, h⟩ := h
        refine va_iald hx hb hK hP 1 0 (mW_1 cI cZ ad M) rfl hi40 dX11_keep_40 ?_
        obtain ⟨hi41, h⟩ := h
        refine va_iast hx hb hK hP (hD M) hS 7 0 (mW_7 cI cZ ad M) rfl hi41 dX11_keep_41 (fun H locs hP _ hS => ?_)
        refine mQ_7 hP (fun M41 eM41 hP => ?_)
        have h := h M41 eM41
        refine lv_aload_n hx hb dX11_keep_42 rfl (lv_at hl 0 rfl) ?_
        refine va_get (D := D) (ci := 11) (v := .ref (ad 8)) (C := RX11) (T := TX11) (N := 26) hx hb hts inX11 hown hK hP 0 (mW_0 cI cZ ad M41) rfl 12 (by decide) k7 (fun _ h9 => h9) rfl dX11_keep_43 ?_
        refine lv_iload_n hx hb dX11_keep_46 rfl (lv_at hl 1 rfl) ?_
        refine lv_aload_n hx hb dX11_keep_47 rfl (lv_at hl 0 rfl) ?_
        refine va_get (D := D) (ci := 11) (v := .ref (ad 2)) (C := RX11) (T := TX11) (N := 26) hx hb hts inX11 hown hK hP 0 (mW_0 cI cZ ad M41) rfl 3 (by decide) k8 (fun _ h9 => h9) rfl dX11_keep_48 ?_
        refine lv_iload_n hx hb dX11_keep_51 rfl (lv_at hl 1 rfl) ?_
        obtain ⟨hi52, h⟩ := h
        refine va_zald hx hb hK hP 2 1 (mW_2 cI cZ ad M41) rfl hi52 dX11_keep_52 ?_
        obtain ⟨hi53, h⟩ := h
        obtain ⟨hz53, h⟩ := h
        refine va_zast hx hb hK hP (hD M41) hS 8 1 (mW_8 cI cZ ad M41) rfl hi53 dX11_keep_53 (fun H locs hP _ hS => ?_)
        rw [zst hz53] at hP
        refine mQ_8 hP (fun M53 eM53 hP => ?_)
        have h := h M53 eM53
        obtain ⟨x1_54, ex1_54⟩ : ∃ y : Int32, y = x1 + 1 := ⟨_, rfl⟩
        have h := h x1_54 ex1_54
        refine lv_iinc (v := x1_54) (lv' := [(1, .int x1_54), (0, .ref (ad 0))]) hx hb dX11_keep_54 hl (k := 1) rfl (by rw [ex1_54]; rfl) (by decide) rfl (fun ls hl => ?_)
        refine lv_goto (tgt := 23) hx hb dX11_keep_57 (by decide) ?_
        exact hB x1_54 M53 _ _ _ (lv_sub hl [1, 0] rfl) hP hS h
  have hl := lv_entry ([.ref (ad 0)]) (n := 2) (Nat.le_of_ble_eq_true rfl)
  rw [lg_entry_eq]
  generalize (lg_sl ([.ref (ad 0)]) ++ List.replicate (2 - (lg_sl ([.ref (ad 0)])).length) Slot.unset).toArray = ls at hl ⊢
  have hl : lv_has ls 2 [(0, .ref (ad 0))] := hl
  refine lv_aload_n hx hb dX11_keep_0 rfl (lv_at hl 0 rfl) ?_
  refine lv_iconst (v := 1) hx hb dX11_keep_1 (by decide) ?_
  refine va_put (D := D) (ci := 11) (v := .int 1) (ty := .boolean) (C := RX11) (T := TX11) (N := 26) hx hb hts inX11 tyX11 tyX11_ok nmX11 hown hK hP (hD M) hS 0 (mW_0 cI cZ ad M) rfl 8 (by decide) k9 (fun _ h9 => h9) rfl (by decide +kernel) rfl rfl (Nat.le_of_ble_eq_true rfl) dX11_keep_2 (fun H locs hP _ hS => ?_)
  refine mP_0_8 hP (fun M2 eM2 hP => ?_)
  have h := h M2 eM2
  refine lv_aload_n hx hb dX11_keep_5 rfl (lv_at hl 0 rfl) ?_
  refine lv_aload_n hx hb dX11_keep_6 rfl (lv_at hl 0 rfl) ?_
  refine va_get (D := D) (ci := 11) (v := .int (M2 0 0)) (C := RX11) (T := TX11) (N := 26) hx hb hts inX11 hown hK hP 0 (mW_0 cI cZ ad M2) rfl 0 (by decide) k10 (fun _ h9 => h9) rfl dX11_keep_7 ?_
  refine va_put (D := D) (ci := 11) (v := .int (M2 0 0)) (ty := .int) (C := RX11) (T := TX11) (N := 26) hx hb hts inX11 tyX11 tyX11_ok nmX11 hown hK hP (hD M2) hS 0 (mW_0 cI cZ ad M2) rfl 9 (by decide) k11 (fun _ h9 => h9) rfl (by decide +kernel) rfl rfl (Nat.le_of_ble_eq_true rfl) dX11_keep_10 (fun H locs hP _ hS => ?_)
  refine mP_0_9 hP (fun M10 eM10 hP => ?_)
  have h := h M10 eM10
  refine lv_aload_n hx hb dX11_keep_13 rfl (lv_at hl 0 rfl) ?_
  refine lv_aload_n hx hb dX11_keep_14 rfl (lv_at hl 0 rfl) ?_
  refine va_get (D := D) (ci := 11) (v := .int (M10 0 1)) (C := RX11) (T := TX11) (N := 26) hx hb hts inX11 hown hK hP 0 (mW_0 cI cZ ad M10) rfl 1 (by decide) k12 (fun _ h9 => h9) rfl dX11_keep_15 ?_
  refine va_put (D := D) (ci := 11) (v := .int (M10 0 1)) (ty := .int) (C := RX11) (T := TX11) (N := 26) hx hb hts inX11 tyX11 tyX11_ok nmX11 hown hK hP (hD M10) hS 0 (mW_0 cI cZ ad M10) rfl 10 (by decide) k13 (fun _ h9 => h9) rfl (by decide +kernel) rfl rfl (Nat.le_of_ble_eq_true rfl) dX11_keep_18 (fun H locs hP _ hS => ?_)
  refine mP_0_10 hP (fun M18 eM18 hP => ?_)
  have h := h M18 eM18
  refine lv_iconst (v := 0) hx hb dX11_keep_21 (by decide) ?_
  refine lv_istore_n (lv' := [(1, .int 0), (0, .ref (ad 0))]) hx hb dX11_keep_22 rfl hl (by decide) rfl (fun ls hl => ?_)
  obtain ⟨n, h⟩ := h
  refine L23 _ (fun  M H locs ls hl hP hS h => ?_) n 0 M18 _ _ _ (lv_sub hl [1, 0] rfl) hP hS h
  refine lv_iconst (v := 0) hx hb dX11_keep_60 (by decide) ?_
  refine lv_istore_n (lv' := [(1, .int 0), (0, .ref (ad 0))]) hx hb dX11_keep_61 rfl hl (by decide) rfl (fun ls hl => ?_)
  obtain ⟨n, h⟩ := h
  refine L62 _ (fun  M H locs ls hl hP hS h => ?_) n 0 M _ _ _ (lv_sub hl [1, 0] rfl) hP hS h
  refine lv_iconst (v := 0) hx hb dX11_keep_86 (by decide) ?_
  refine lv_istore_n (lv' := [(1, .int 0), (0, .ref (ad 0))]) hx hb dX11_keep_87 rfl hl (by decide) rfl (fun ls hl => ?_)
  obtain ⟨n, h⟩ := h
  refine L88 _ (fun  M H locs ls hl hP hS h => ?_) n 0 M _ _ _ (lv_sub hl [1, 0] rfl) hP hS h
  refine lv_iconst (v := 1) hx hb dX11_keep_113 (by decide) ?_
  exact W.iret (v := 1) hx hb hr (fun t ht hW => ⟨⟨1, M, rfl, h, mAt_of ht hP⟩, hS.F ht⟩) hS.2.2 dX11_keep_114
abbrev GX11_back (p : Program) (l : Launch) (e : Env) (s : State) (m : MethodId) (below : List Frame) (meth : Method) (c : Code) (D : va_G) (cI cZ : ClassId) (ad : Nat → Nat) (Q : Int32 → Mem → Prop) (H : Heap) (locs : List Loc) (g : JFrame) : Prop := W p l e (headSpec uX11_back { frames := 1, cells := 0, slots := 0, locals := 23 }).room s m ([.ref (ad 0)] : List Value).toArray below meth c H locs 0 0 (MQ below (va_Qi Q (mAt D cI cZ ad) (mA ad)) ([.ref (ad 0)] : List Value).toArray s 0 0 (mA ad)) g
set_option maxHeartbeats 4000000 in
set_option maxRecDepth 100000 in
theorem kX11_back (l : Launch) (D : va_G) (cI cZ : ClassId) (ad : Nat → Nat) (hD : ∀ M : Mem, va_D (mA ad) (mW cI cZ ad M)) (M : Mem) (Q : Int32 → Mem → Prop) (h : wX11_back M Q) : Met l yX11_back uX11_back ({ frames := 1, cells := 0, slots := 0, locals := 23 }) (va_Pc [.ref (ad 0)] (mPre D cI cZ ad M)) (va_Qi Q (mAt D cI cZ ad) (mA ad)) 0 0 (mA ad) := by
  refine Met.ofW (cc := cX11_back) (maxL := 2) (ret := (some .int)) (by decide) rfl ?_
  intro p e s m args below meth c s₁ B hml hv
  obtain ⟨rfl, hP, hK⟩ := hv
  have hx := B.exec
  have hb := B.bytes
  have hr := B.returns
  have hts := atoms_spec (ws := uX11_back) B.pre
  have hown : s.vm.findClass RX11 = some m.cls := findClass_of_methodNamed B.named
  have hlocks := B.notSynchronized
  have hS : va_S (mA ad) s.heap s.heap [] := va_S.rf
  have k0 := hts (.fieldLink RX11 24 "TwoEyesModel" "isRowGone" "[Z") (List.mem_cons_of_mem _ (inA_6 _ (List.mem_of_getElem? (i := 22) rfl)))
  have inX11 : ∀ w ∈ wsX110, w ∈ uX11_back := fun w h => List.mem_cons_of_mem _ (inCX11 w h)
  have k2 := hts (.fieldLink RX11 42 "TwoEyesModel" "keptRowGone" "[Z") (List.mem_cons_of_mem _ (inA_7 _ (List.mem_of_getElem? (i := 4) rfl)))
  have k3 := hts (.fieldLink RX11 27 "TwoEyesModel" "truths" "[I") (List.mem_cons_of_mem _ (inA_6 _ (List.mem_of_getElem? (i := 23) rfl)))
  have k4 := hts (.fieldLink RX11 45 "TwoEyesModel" "keptTruths" "[I") (List.mem_cons_of_mem _ (inA_7 _ (List.mem_of_getElem? (i := 5) rfl)))
  have k5 := hts (.fieldLink RX11 16 "TwoEyesModel" "shades" "[I") (List.mem_cons_of_mem _ (inA_6 _ (List.mem_of_getElem? (i := 20) rfl)))
  have k6 := hts (.fieldLink RX11 36 "TwoEyesModel" "keptShades" "[I") (List.mem_cons_of_mem _ (inA_7 _ (List.mem_of_getElem? (i := 2) rfl)))
  have k7 := hts (.fieldLink RX11 20 "TwoEyesModel" "isGone" "[Z") (List.mem_cons_of_mem _ (inA_6 _ (List.mem_of_getElem? (i := 21) rfl)))
  have k8 := hts (.fieldLink RX11 39 "TwoEyesModel" "keptGone" "[Z") (List.mem_cons_of_mem _ (inA_7 _ (List.mem_of_getElem? (i := 3) rfl)))
  have k9 := hts (.fieldLink RX11 204 "TwoEyesModel" "isKept" "Z") (List.mem_cons_of_mem _ (inA_38 _ (List.mem_of_getElem? (i := 17) rfl)))
  have k10 := hts (.fieldLink RX11 207 "TwoEyesModel" "keptWidth" "I") (List.mem_cons_of_mem _ (inA_38 _ (List.mem_of_getElem? (i := 18) rfl)))
  have k11 := hts (.fieldLink RX11 210 "TwoEyesModel" "keptHeight" "I") (List.mem_cons_of_mem _ (inA_38 _ (List.mem_of_getElem? (i := 19) rfl)))
  have L63 : ∀ (K87 : Mem → Prop), (∀ (M : Mem) (H : Heap) (locs : List Loc) (ls : Array Slot), lv_has ls 2 [(0, .ref (ad 0))] → va_P D vwCl (mW cI cZ ad M) H → va_S (mA ad) s.heap H locs → K87 M → GX11_back p l e s m below meth c D cI cZ ad Q H locs (F0 m 87 ls [])) → ∀ n : Nat, ∀ (x1 : Int32) (M : Mem) (H : Heap) (locs : List Loc) (ls : Array Slot), lv_has ls 2 [(0, .ref (ad 0)), (1, .int x1)] → va_P D vwCl (mW cI cZ ad M) H → va_S (mA ad) s.heap H locs → wX11_back_L63 K87 Q n x1 M → GX11_back p l e s m below meth c D cI cZ ad Q H locs (F0 m 63 ls []) := by
    intro K87 hK87 n
    induction n with
    | zero => intro x1 M H locs ls hl hP hS h; exact (show False from h).elim
    | succ n hB =>
      intro x1 M H locs ls hl hP hS h
      rw [wX11_back_L63_s] at h
      refine lv_iload_n hx hb dX11_back_63 rfl (lv_at hl 1 rfl) ?_
      refine lv_bipush (v := 20) hx hb dX11_back_64 (by decide) ?_
      refine lv_icmp_ge (tgt := 87) hx hb dX11_back_66 (by decide) (fun q66 => ?_) (fun q66 => ?_)
      · have h := h.1 q66
        exact hK87 M _ _ _ (lv_sub hl [0] rfl) hP hS h
      · have h := h.2 q66
        refine lv_aload_n hx hb dX11_back_69 rfl (lv_at hl 0 rfl) ?_
        refine va_get (D := D) (ci := 11) (v := .ref (ad 3)) (C := RX11) (T := TX11) (N := 26) hx hb hts inX11 hown hK hP 0 (mW_0 cI cZ ad M) rfl 4 (by decide) k0 (fun _ h9 => h9) rfl dX11_back_70 ?_
        refine lv_iload_n hx hb dX11_back_73 rfl (lv_at hl 1 rfl) ?_
        refine lv_aload_n hx hb dX11_back_74 rfl (lv_at hl 0 rfl) ?_
        refine va_get (D := D) (ci := 11) (v := .ref (ad 9)) (C := RX11) (T := TX11) (N := 26) hx hb hts inX11 hown hK hP 0 (mW_0 cI cZ ad M) rfl 13 (by decide) k2 (fun _ h9 => h9) rfl dX11_back_75 ?_
        refine lv_iload_n hx hb dX11_back_78 rfl (lv_at hl 1 rfl) ?_
        obtain ⟨hi79, h⟩ := h
        refine va_zald hx hb hK hP 9 1 (mW_9 cI cZ ad M) rfl hi79 dX11_back_79 ?_
        obtain ⟨hi80, h⟩ := h
        obtain ⟨hz80, h⟩ := h
        refine va_zast hx hb hK hP (hD M) hS 3 1 (mW_3 cI cZ ad M) rfl hi80 dX11_back_80 (fun H locs hP _ hS => ?_)
        rw [zst hz80] at hP
        refine mQ_3 hP (fun M80 eM80 hP => ?_)
        have h := h M80 eM80
        obtain ⟨x1_81, ex1_81⟩ : ∃ y : Int32, y = x1 + 1 := ⟨_, rfl⟩
        have h := h x1_81 ex1_81
        refine lv_iinc (v := x1_81) (lv' := [(1, .int x1_81), (0, .ref (ad 0))]) hx hb dX11_back_81 hl (k := 1) rfl (by rw [ex1_81]; rfl) (by decide) rfl (fun ls hl => ?_)
        refine lv_goto (tgt := 63) hx hb dX11_back_84 (by decide) ?_
        exact hB x1_81 M80 _ _ _ (lv_sub hl [1, 0] rfl) hP hS h
  have L89 : ∀ (K114 : Mem → Prop), (∀ (M : Mem) (H : Heap) (locs : List Loc) (ls : Array Slot), lv_has ls 2 [] → va_P D vwCl (mW cI cZ ad M) H → va_S (mA ad) s.heap H locs → K114 M → GX11_back p l e s m below meth c D cI cZ ad Q H locs (F0 m 114 ls [])) → ∀ n : Nat, ∀ (x1 : Int32) (M : Mem) (H : Heap) (locs : List Loc) (ls : Array Slot), lv_has ls 2 [(0, .ref (ad 0)), (1, .int x1)] → va_P D vwCl (mW cI cZ ad M) H → va_S (mA ad) s.heap H locs → wX11_back_L89 K114 Q n x1 M → GX11_back p l e s m below meth c D cI cZ ad Q H locs (F0 m 89 ls []) := by
    intro K114 hK114 n
    induction n with
    | zero => intro x1 M H locs ls hl hP hS h; exact (show False from h).elim
    | succ n hB =>
      intro x1 M H locs ls hl hP hS h
      rw [wX11_back_L89_s] at h
      refine lv_iload_n hx hb dX11_back_89 rfl (lv_at hl 1 rfl) ?_
      refine lv_sipush (v := 200) hx hb dX11_back_90 (by decide) ?_
      refine lv_icmp_ge (tgt := 114) hx hb dX11_back_93 (by decide) (fun q93 => ?_) (fun q93 => ?_)
      · have h := h.1 q93
        exact hK114 M _ _ _ (lv_sub hl [] rfl) hP hS h
      · have h := h.2 q93
        refine lv_aload_n hx hb dX11_back_96 rfl (lv_at hl 0 rfl) ?_
        refine va_get (D := D) (ci := 11) (v := .ref (ad 4)) (C := RX11) (T := TX11) (N := 26) hx hb hts inX11 hown hK hP 0 (mW_0 cI cZ ad M) rfl 5 (by decide) k3 (fun _ h9 => h9) rfl dX11_back_97 ?_
        refine lv_iload_n hx hb dX11_back_100 rfl (lv_at hl 1 rfl) ?_
        refine lv_aload_n hx hb dX11_back_101 rfl (lv_at hl 0 rfl) ?_
        refine va_get (D := D) (ci := 11) (v := .ref (ad 10)) (C := RX11) (T := TX11) (N := 26) hx hb hts inX11 hown hK hP 0 (mW_0 cI cZ ad M) rfl 14 (by decide) k4 (fun _ h9 => h9) rfl dX11_back_102 ?_
        refine lv_iload_n hx hb dX11_back_105 rfl (lv_at hl 1 rfl) ?_
        obtain ⟨hi106, h⟩ := h
        refine va_iald hx hb hK hP 10 0 (mW_10 cI cZ ad M) rfl hi106 dX11_back_106 ?_
        obtain ⟨hi107, h⟩ := h
        refine va_iast hx hb hK hP (hD M) hS 4 0 (mW_4 cI cZ ad M) rfl hi107 dX11_back_107 (fun H locs hP _ hS => ?_)
        refine mQ_4 hP (fun M107 eM107 hP => ?_)
        have h := h M107 eM107
        obtain ⟨x1_108, ex1_108⟩ : ∃ y : Int32, y = x1 + 1 := ⟨_, rfl⟩
        have h := h x1_108 ex1_108
        refine lv_iinc (v := x1_108) (lv' := [(1, .int x1_108), (0, .ref (ad 0))]) hx hb dX11_back_108 hl (k := 1) rfl (by rw [ex1_108]; rfl) (by decide) rfl (fun ls hl => ?_)
        refine lv_goto (tgt := 89) hx hb dX11_back_111 (by decide) ?_
        exact hB x1_108 M107 _ _ _ (lv_sub hl [1, 0] rfl) hP hS h
  have L24 : ∀ (K61 : Mem → Prop), (∀ (M : Mem) (H : Heap) (locs : List Loc) (ls : Array Slot), lv_has ls 2 [(0, .ref (ad 0))] → va_P D vwCl (mW cI cZ ad M) H → va_S (mA ad) s.heap H locs → K61 M → GX11_back p l e s m below meth c D cI cZ ad Q H locs (F0 m 61 ls [])) → ∀ n : Nat, ∀ (x1 : Int32) (M : Mem) (H : Heap) (locs : List Loc) (ls : Array Slot), lv_has ls 2 [(0, .ref (ad 0)), (1, .int x1)] → va_P D vwCl (mW cI cZ ad M) H → va_S (mA ad) s.heap H locs → wX11_back_L24 K61 Q n x1 M → GX11_back p l e s m below meth c D cI cZ ad Q H locs (F0 m 24 ls []) := by
    intro K61 hK61 n
    induction n with
    | zero => intro x1 M H locs ls hl hP hS h; exact (show False from h).elim
    | succ n hB =>
      intro x1 M H locs ls hl hP hS h
      rw [wX11_back_L24_s] at h
      refine lv_iload_n hx hb dX11_back_24 rfl (lv_at hl 1 rfl) ?_
      refine lv_sipush (v := 400) hx hb dX11_back_25 (by decide) ?_
      refine lv_icmp_ge (tgt := 61) hx hb dX11_back_28 (by decide) (fun q28 => ?_) (fun q28 => ?_)
      · have h := h.1 q28
        exact hK61 M _ _ _ (lv_sub hl [0] rfl) hP hS h
      · have h := h.2 q28
        refine lv_aload_n hx hb dX11_back_31 rfl (lv_at hl 0 rfl) ?_
        refine va_get (D := D) (ci := 11) (v := .ref (ad 1)) (C := RX11) (T := TX11) (N := 26) hx hb hts inX11 hown hK hP 0 (mW_0 cI cZ ad M) rfl 2 (by decide) k5 (fun _ h9 => h9) rfl dX11_back_32 ?_
        refine lv_iload_n hx hb dX11_back_35 rfl (lv_at hl 1 rfl) ?_
        refine lv_aload_n hx hb dX11_back_36 rfl (lv_at hl 0 rfl) ?_
        refine va_get (D := D) (ci := 11) (v := .ref (ad 7)) (C := RX11) (T := TX11) (N := 26) hx hb hts inX11 hown hK hP 0 (mW_0 cI cZ ad M) rfl 11 (by decide) k6 (fun _ h9 => h9) rfl dX11_back_37 ?_
        refine lv_iload_n hx hb dX11_back_40 rfl (lv_at hl 1 rfl) ?_
        obtain ⟨hi41, h⟩ := h
        refine va_iald hx hb hK hP 7 0 (mW_7 cI cZ ad M) rfl hi41 dX11_back_41 ?_
        obtain ⟨hi42, h⟩ := h
        refine va_iast hx hb hK hP (hD M) hS 1 0 (mW_1 cI cZ ad M) rfl hi42 dX11_back_42 (fun H locs hP _ hS => ?_)
        refine mQ_1 hP (fun M42 eM42 hP => ?_)
        have h := h M42 eM42
        refine lv_aload_n hx hb dX11_back_43 rfl (lv_at hl 0 rfl) ?_
        refine va_get (D := D) (ci := 11) (v := .ref (ad 2)) (C := RX11) (T := TX11) (N := 26) hx hb hts inX11 hown hK hP 0 (mW_0 cI cZ ad M42) rfl 3 (by decide) k7 (fun _ h9 => h9) rfl dX11_back_44 ?_
        refine lv_iload_n hx hb dX11_back_47 rfl (lv_at hl 1 rfl) ?_
        refine lv_aload_n hx hb dX11_back_48 rfl (lv_at hl 0 rfl) ?_
        refine va_get (D := D) (ci := 11) (v := .ref (ad 8)) (C := RX11) (T := TX11) (N := 26) hx hb hts inX11 hown hK hP 0 (mW_0 cI cZ ad M42) rfl 12 (by decide) k8 (fun _ h9 => h9) rfl dX11_back_49 ?_
        refine lv_iload_n hx hb dX11_back_52 rfl (lv_at hl 1 rfl) ?_
        obtain ⟨hi53, h⟩ := h
        refine va_zald hx hb hK hP 8 1 (mW_8 cI cZ ad M42) rfl hi53 dX11_back_53 ?_
        obtain ⟨hi54, h⟩ := h
        obtain ⟨hz54, h⟩ := h
        refine va_zast hx hb hK hP (hD M42) hS 2 1 (mW_2 cI cZ ad M42) rfl hi54 dX11_back_54 (fun H locs hP _ hS => ?_)
        rw [zst hz54] at hP
        refine mQ_2 hP (fun M54 eM54 hP => ?_)
        have h := h M54 eM54
        obtain ⟨x1_55, ex1_55⟩ : ∃ y : Int32, y = x1 + 1 := ⟨_, rfl⟩
        have h := h x1_55 ex1_55
        refine lv_iinc (v := x1_55) (lv' := [(1, .int x1_55), (0, .ref (ad 0))]) hx hb dX11_back_55 hl (k := 1) rfl (by rw [ex1_55]; rfl) (by decide) rfl (fun ls hl => ?_)
        refine lv_goto (tgt := 24) hx hb dX11_back_58 (by decide) ?_
        exact hB x1_55 M54 _ _ _ (lv_sub hl [1, 0] rfl) hP hS h
  have hl := lv_entry ([.ref (ad 0)]) (n := 2) (Nat.le_of_ble_eq_true rfl)
  rw [lg_entry_eq]
  generalize (lg_sl ([.ref (ad 0)]) ++ List.replicate (2 - (lg_sl ([.ref (ad 0)])).length) Slot.unset).toArray = ls at hl ⊢
  have hl : lv_has ls 2 [(0, .ref (ad 0))] := hl
  refine lv_aload_n hx hb dX11_back_0 rfl (lv_at hl 0 rfl) ?_
  refine va_get (D := D) (ci := 11) (v := .int (M 0 8)) (C := RX11) (T := TX11) (N := 26) hx hb hts inX11 hown hK hP 0 (mW_0 cI cZ ad M) rfl 8 (by decide) k9 (fun _ h9 => h9) rfl dX11_back_1 ?_
  refine lv_if_ne (tgt := 10) hx hb dX11_back_4 (by decide) (fun q4 => ?_) (fun q4 => ?_)
  · have h := h.1 q4
    refine lv_aload_n hx hb dX11_back_10 rfl (lv_at hl 0 rfl) ?_
    refine lv_aload_n hx hb dX11_back_11 rfl (lv_at hl 0 rfl) ?_
    refine va_get (D := D) (ci := 11) (v := .int (M 0 9)) (C := RX11) (T := TX11) (N := 26) hx hb hts inX11 hown hK hP 0 (mW_0 cI cZ ad M) rfl 9 (by decide) k10 (fun _ h9 => h9) rfl dX11_back_12 ?_
    refine lv_aload_n hx hb dX11_back_15 rfl (lv_at hl 0 rfl) ?_
    refine va_get (D := D) (ci := 11) (v := .int (M 0 10)) (C := RX11) (T := TX11) (N := 26) hx hb hts inX11 hown hK hP 0 (mW_0 cI cZ ad M) rfl 10 (by decide) k11 (fun _ h9 => h9) rfl dX11_back_16 ?_
    refine m_callVv (As := [.int (M 0 9), .int (M 0 10)]) (rest := []) ⟨hx, hb, hml, hown, hts⟩ (kX11_blank l D cI cZ ad hD M (M 0 9) (M 0 10) _ h) (cwV 2 hts (gdV uS (inA_7 _ (List.mem_of_getElem? (i := 14) rfl)) vX11_blank) rfl rfl rfl (by decide +kernel) ⟨Nat.le_of_ble_eq_true rfl, Nat.le_of_ble_eq_true rfl⟩) (va_recv hK hP (ci := 11) (q0 := 0) rfl (mW_0 cI cZ ad M)) hP hK hS hl.1 rfl rfl (Nat.le_of_ble_eq_true rfl) dX11_back_19 (fun M19 H locs h hP hS => ?_)
    refine lv_iconst (v := 0) hx hb dX11_back_22 (by decide) ?_
    refine lv_istore_n (lv' := [(1, .int 0), (0, .ref (ad 0))]) hx hb dX11_back_23 rfl hl (by decide) rfl (fun ls hl => ?_)
    obtain ⟨n, h⟩ := h
    refine L24 _ (fun  M H locs ls hl hP hS h => ?_) n 0 M19 _ _ _ (lv_sub hl [1, 0] rfl) hP hS h
    refine lv_iconst (v := 0) hx hb dX11_back_61 (by decide) ?_
    refine lv_istore_n (lv' := [(1, .int 0), (0, .ref (ad 0))]) hx hb dX11_back_62 rfl hl (by decide) rfl (fun ls hl => ?_)
    obtain ⟨n, h⟩ := h
    refine L63 _ (fun  M H locs ls hl hP hS h => ?_) n 0 M _ _ _ (lv_sub hl [1, 0] rfl) hP hS h
    refine lv_iconst (v := 0) hx hb dX11_back_87 (by decide) ?_
    refine lv_istore_n (lv' := [(1, .int 0), (0, .ref (ad 0))]) hx hb dX11_back_88 rfl hl (by decide) rfl (fun ls hl => ?_)
    obtain ⟨n, h⟩ := h
    refine L89 _ (fun  M H locs ls hl hP hS h => ?_) n 0 M _ _ _ (lv_sub hl [1, 0] rfl) hP hS h
    refine lv_iconst (v := 1) hx hb dX11_back_114 (by decide) ?_
    exact W.iret (v := 1) hx hb hr (fun t ht hW => ⟨⟨1, M, rfl, h, mAt_of ht hP⟩, hS.F ht⟩) hS.2.2 dX11_back_115
  · have h := h.2 q4
    refine lv_bipush (v := (-4)) hx hb dX11_back_7 (by decide) ?_
    exact W.iret (v := (-4)) hx hb hr (fun t ht hW => ⟨⟨(-4), M, rfl, h, mAt_of ht hP⟩, hS.F ht⟩) hS.2.2 dX11_back_9
