abbrev GX11_layAnchors (p : Program) (l : Launch) (e : Env) (s : State) (m : MethodId) (below : List Frame) (meth : Method) (c : Code) (D : va_G) (cI cZ : ClassId) (ad : Nat → Nat) (Q : Mem → Prop) (H : Heap) (locs : List Loc) (g : JFrame) : Prop := W p l e (headSpec uX11_layAnchors { frames := 2, cells := 0, slots := 0, locals := 46 }).room s m ([.ref (ad 0)] : List Value).toArray below meth c H locs 0 0 (MQ below (va_Qv Q (mAt D cI cZ ad) (mA ad)) ([.ref (ad 0)] : List Value).toArray s 0 0 (mA ad)) g
set_option maxHeartbeats 4000000 in
set_option maxRecDepth 100000 in
theorem kX11_layAnchors (l : Launch) (D : va_G) (cI cZ : ClassId) (ad : Nat → Nat) (hD : ∀ M : Mem, va_D (mA ad) (mW cI cZ ad M)) (M : Mem) (Q : Mem → Prop) (h : wX11_layAnchors M Q) : Met l yX11_layAnchors uX11_layAnchors ({ frames := 2, cells := 0, slots := 0, locals := 46 }) (va_Pc [.ref (ad 0)] (mPre D cI cZ ad M)) (va_Qv Q (mAt D cI cZ ad) (mA ad)) 0 0 (mA ad) := by
  refine Met.ofW (cc := cX11_layAnchors) (maxL := 4) (ret := none) (by decide) rfl ?_
  intro p e s m args below meth c s₁ B hml hv
  obtain ⟨rfl, hP, hK⟩ := hv
  have hx := B.exec
  have hb := B.bytes
  have hr := B.returns
  have hts := atoms_spec (ws := uX11_layAnchors) B.pre
  have hown : s.vm.findClass RX11 = some m.cls := findClass_of_methodNamed B.named
  have hlocks := B.notSynchronized
  have hS : va_S (mA ad) s.heap s.heap [] := va_S.rf
  have k0 := hts (.fieldLink RX11 63 "TwoEyesModel" "anchorOf" "[I") (List.mem_cons_of_mem _ (inA_7 _ (List.mem_of_getElem? (i := 11) rfl)))
  have inX11 : ∀ w ∈ wsX110, w ∈ uX11_layAnchors := fun w h => List.mem_cons_of_mem _ (inCX11 w h)
  have k2 := hts (.fieldLink RX11 7 "TwoEyesModel" "width" "I") (List.mem_cons_of_mem _ (inA_6 _ (List.mem_of_getElem? (i := 18) rfl)))
  have k3 := hts (.fieldLink RX11 13 "TwoEyesModel" "height" "I") (List.mem_cons_of_mem _ (inA_6 _ (List.mem_of_getElem? (i := 19) rfl)))
  have J47 : ∀ (B : Int32 → Int32 → Mem → Prop) (K54 : Int32 → Mem → Prop), (∀ (x1 x2 : Int32) (M : Mem) (H : Heap) (locs : List Loc) (ls : Array Slot), lv_has ls 4 [(0, .ref (ad 0)), (1, .int x1), (2, .int x2)] → va_P D vwCl (mW cI cZ ad M) H → va_S (mA ad) s.heap H locs → B x1 x2 M → GX11_layAnchors p l e s m below meth c D cI cZ ad Q H locs (F0 m 12 ls [])) → (∀ (x1 : Int32) (M : Mem) (H : Heap) (locs : List Loc) (ls : Array Slot), lv_has ls 4 [(0, .ref (ad 0)), (1, .int x1)] → va_P D vwCl (mW cI cZ ad M) H → va_S (mA ad) s.heap H locs → K54 x1 M → GX11_layAnchors p l e s m below meth c D cI cZ ad Q H locs (F0 m 54 ls [])) → ∀ (x1 x2 t1 t2 : Int32) (M : Mem) (H : Heap) (locs : List Loc) (ls : Array Slot), lv_has ls 4 [(0, .ref (ad 0)), (1, .int x1), (2, .int x2)] → va_P D vwCl (mW cI cZ ad M) H → va_S (mA ad) s.heap H locs → wX11_layAnchors_J47 B K54 Q x1 x2 t1 t2 M → GX11_layAnchors p l e s m below meth c D cI cZ ad Q H locs (F0 m 47 ls [.int t2, .int t1, .ref (ad 16)]) := by
    intro B K54 hB hK54 x1 x2 t1 t2 M H locs ls hl hP hS h
    obtain ⟨hi47, h⟩ := h
    refine va_iast hx hb hK hP (hD M) hS 16 0 (mW_16 cI cZ ad M) rfl hi47 dX11_layAnchors_47 (fun H locs hP _ hS => ?_)
    refine mQ_16 hP (fun M47 eM47 hP => ?_)
    have h := h M47 eM47
    obtain ⟨x2_48, ex2_48⟩ : ∃ y : Int32, y = x2 + 1 := ⟨_, rfl⟩
    have h := h x2_48 ex2_48
    refine lv_iinc (v := x2_48) (lv' := [(2, .int x2_48), (0, .ref (ad 0)), (1, .int x1)]) hx hb dX11_layAnchors_48 hl (k := 2) rfl (by rw [ex2_48]; rfl) (by decide) rfl (fun ls hl => ?_)
    refine lv_goto (tgt := 12) hx hb dX11_layAnchors_51 (by decide) ?_
    exact hB x1 x2_48 M47 _ _ _ (lv_sub hl [1, 2, 0] rfl) hP hS h
  have L12 : ∀ (K54 : Int32 → Mem → Prop), (∀ (x1 : Int32) (M : Mem) (H : Heap) (locs : List Loc) (ls : Array Slot), lv_has ls 4 [(0, .ref (ad 0)), (1, .int x1)] → va_P D vwCl (mW cI cZ ad M) H → va_S (mA ad) s.heap H locs → K54 x1 M → GX11_layAnchors p l e s m below meth c D cI cZ ad Q H locs (F0 m 54 ls [])) → ∀ n : Nat, ∀ (x1 x2 : Int32) (M : Mem) (H : Heap) (locs : List Loc) (ls : Array Slot), lv_has ls 4 [(0, .ref (ad 0)), (1, .int x1), (2, .int x2)] → va_P D vwCl (mW cI cZ ad M) H → va_S (mA ad) s.heap H locs → wX11_layAnchors_L12 K54 Q n x1 x2 M → GX11_layAnchors p l e s m below meth c D cI cZ ad Q H locs (F0 m 12 ls []) := by
    intro K54 hK54 n
    induction n with
    | zero => intro x1 x2 M H locs ls hl hP hS h; exact (show False from h).elim
    | succ n hB =>
      intro x1 x2 M H locs ls hl hP hS h
      rw [wX11_layAnchors_L12_s] at h
      refine lv_iload_n hx hb dX11_layAnchors_12 rfl (lv_at hl 2 rfl) ?_
      refine lv_iload_n hx hb dX11_layAnchors_13 rfl (lv_at hl 1 rfl) ?_
      refine lv_icmp_ge (tgt := 54) hx hb dX11_layAnchors_14 (by decide) (fun q14 => ?_) (fun q14 => ?_)
      · have h := h.1 q14
        exact hK54 x1 M _ _ _ (lv_sub hl [0, 1] rfl) hP hS h
      · have h := h.2 q14
        refine lv_aload_n hx hb dX11_layAnchors_17 rfl (lv_at hl 0 rfl) ?_
        refine va_get (D := D) (ci := 11) (v := .ref (ad 16)) (C := RX11) (T := TX11) (N := 26) hx hb hts inX11 hown hK hP 0 (mW_0 cI cZ ad M) rfl 21 (by decide) k0 (fun _ h9 => h9) rfl dX11_layAnchors_18 ?_
        refine lv_iload_n hx hb dX11_layAnchors_21 rfl (lv_at hl 2 rfl) ?_
        refine lv_aload_n hx hb dX11_layAnchors_22 rfl (lv_at hl 0 rfl) ?_
        refine lv_iconst (v := 0) hx hb dX11_layAnchors_23 (by decide) ?_
        refine lv_iload_n hx hb dX11_layAnchors_24 rfl (lv_at hl 2 rfl) ?_
        refine lv_aload_n hx hb dX11_layAnchors_25 rfl (lv_at hl 0 rfl) ?_
        refine va_get (D := D) (ci := 11) (v := .int (M 0 0)) (C := RX11) (T := TX11) (N := 26) hx hb hts inX11 hown hK hP 0 (mW_0 cI cZ ad M) rfl 0 (by decide) k2 (fun _ h9 => h9) rfl dX11_layAnchors_26 ?_
        obtain ⟨hn29, h⟩ := h
        refine lv_irem hx hb dX11_layAnchors_29 hn29 ?_
        refine lv_topi (fun v29 ev29 => ?_)
        have h := h v29 ev29
        refine lv_iload_n hx hb dX11_layAnchors_30 rfl (lv_at hl 2 rfl) ?_
        refine lv_aload_n hx hb dX11_layAnchors_31 rfl (lv_at hl 0 rfl) ?_
        refine va_get (D := D) (ci := 11) (v := .int (M 0 0)) (C := RX11) (T := TX11) (N := 26) hx hb hts inX11 hown hK hP 0 (mW_0 cI cZ ad M) rfl 0 (by decide) k2 (fun _ h9 => h9) rfl dX11_layAnchors_32 ?_
        obtain ⟨hn35, h⟩ := h
        refine lv_idiv hx hb dX11_layAnchors_35 hn35 ?_
        refine m_callVi (As := [.int 0, .int v29, .int (x2 / (M 0 0))]) (rest := [.int x2, .ref (ad 16)]) ⟨hx, hb, hml, hown, hts⟩ (kX11_isLost l D cI cZ ad hD M 0 v29 (x2 / (M 0 0)) _ h) (cwV 3 hts (gdV uS (inA_13 _ (List.mem_of_getElem? (i := 15) rfl)) vX11_isLost) rfl rfl rfl (by decide +kernel) ⟨Nat.le_of_ble_eq_true rfl, Nat.le_of_ble_eq_true rfl⟩) (va_recv hK hP (ci := 11) (q0 := 0) rfl (mW_0 cI cZ ad M)) hP hK hS hl.1 rfl rfl (Nat.le_of_ble_eq_true rfl) dX11_layAnchors_36 (fun r36 M36 H locs h hP hS => ?_)
        refine lv_if_eq (tgt := 46) hx hb dX11_layAnchors_39 (by decide) (fun q39 => ?_) (fun q39 => ?_)
        · have h := h.1 q39
          refine lv_iload_n hx hb dX11_layAnchors_46 rfl (lv_at hl 2 rfl) ?_
          exact J47 _ K54 hB hK54 x1 x2 x2 x2 M36 _ _ _ (lv_sub hl [0, 1, 2] rfl) hP hS h
        · have h := h.2 q39
          refine lv_iconst (v := (-1)) hx hb dX11_layAnchors_42 (by decide) ?_
          refine lv_goto (tgt := 47) hx hb dX11_layAnchors_43 (by decide) ?_
          exact J47 _ K54 hB hK54 x1 x2 x2 (-1) M36 _ _ _ (lv_sub hl [0, 1, 2] rfl) hP hS h
  have J97 : ∀ (B : Int32 → Int32 → Int32 → Mem → Prop) (K129 : Int32 → Int32 → Mem → Prop), (∀ (x1 x2 x3 : Int32) (M : Mem) (H : Heap) (locs : List Loc) (ls : Array Slot), lv_has ls 4 [(0, .ref (ad 0)), (1, .int x1), (2, .int x2), (3, .int x3)] → va_P D vwCl (mW cI cZ ad M) H → va_S (mA ad) s.heap H locs → B x1 x2 x3 M → GX11_layAnchors p l e s m below meth c D cI cZ ad Q H locs (F0 m 64 ls [])) → (∀ (x1 x2 : Int32) (M : Mem) (H : Heap) (locs : List Loc) (ls : Array Slot), lv_has ls 4 [(0, .ref (ad 0)), (1, .int x1), (2, .int x2)] → va_P D vwCl (mW cI cZ ad M) H → va_S (mA ad) s.heap H locs → K129 x1 x2 M → GX11_layAnchors p l e s m below meth c D cI cZ ad Q H locs (F0 m 129 ls [])) → ∀ (x1 x2 x3 : Int32) (M : Mem) (H : Heap) (locs : List Loc) (ls : Array Slot), lv_has ls 4 [(0, .ref (ad 0)), (1, .int x1), (2, .int x2), (3, .int x3)] → va_P D vwCl (mW cI cZ ad M) H → va_S (mA ad) s.heap H locs → wX11_layAnchors_J97 B K129 Q x1 x2 x3 M → GX11_layAnchors p l e s m below meth c D cI cZ ad Q H locs (F0 m 97 ls []) := by
    intro B K129 hB hK129 x1 x2 x3 M H locs ls hl hP hS h
    refine lv_iload_n hx hb dX11_layAnchors_97 rfl (lv_at hl 3 rfl) ?_
    refine lv_aload_n hx hb dX11_layAnchors_98 rfl (lv_at hl 0 rfl) ?_
    refine va_get (D := D) (ci := 11) (v := .int (M 0 0)) (C := RX11) (T := TX11) (N := 26) hx hb hts inX11 hown hK hP 0 (mW_0 cI cZ ad M) rfl 0 (by decide) k2 (fun _ h9 => h9) rfl dX11_layAnchors_99 ?_
    refine lv_iadd hx hb dX11_layAnchors_102 ?_
    refine lv_iload_n hx hb dX11_layAnchors_103 rfl (lv_at hl 1 rfl) ?_
    refine lv_icmp_ge (tgt := 123) hx hb dX11_layAnchors_104 (by decide) (fun q104 => ?_) (fun q104 => ?_)
    · have h := h.1 q104
      obtain ⟨x3_123, ex3_123⟩ : ∃ y : Int32, y = x3 + 1 := ⟨_, rfl⟩
      have h := h x3_123 ex3_123
      refine lv_iinc (v := x3_123) (lv' := [(3, .int x3_123), (0, .ref (ad 0)), (1, .int x1), (2, .int x2)]) hx hb dX11_layAnchors_123 hl (k := 3) rfl (by rw [ex3_123]; rfl) (by decide) rfl (fun ls hl => ?_)
      refine lv_goto (tgt := 64) hx hb dX11_layAnchors_126 (by decide) ?_
      exact hB x1 x2 x3_123 M _ _ _ (lv_sub hl [1, 2, 3, 0] rfl) hP hS h
    · have h := h.2 q104
      refine lv_aload_n hx hb dX11_layAnchors_107 rfl (lv_at hl 0 rfl) ?_
      refine lv_iload_n hx hb dX11_layAnchors_108 rfl (lv_at hl 3 rfl) ?_
      refine lv_iload_n hx hb dX11_layAnchors_109 rfl (lv_at hl 3 rfl) ?_
      refine lv_aload_n hx hb dX11_layAnchors_110 rfl (lv_at hl 0 rfl) ?_
      refine va_get (D := D) (ci := 11) (v := .int (M 0 0)) (C := RX11) (T := TX11) (N := 26) hx hb hts inX11 hown hK hP 0 (mW_0 cI cZ ad M) rfl 0 (by decide) k2 (fun _ h9 => h9) rfl dX11_layAnchors_111 ?_
      refine lv_iadd hx hb dX11_layAnchors_114 ?_
      refine m_callVi (As := [.int x3, .int (x3 + (M 0 0))]) (rest := []) ⟨hx, hb, hml, hown, hts⟩ (kX11_bringTogether l D cI cZ ad hD M x3 (x3 + (M 0 0)) _ h) (cwV 2 hts (gdV uS (inA_22 _ (List.mem_of_getElem? (i := 19) rfl)) vX11_bringTogether) rfl rfl rfl (by decide +kernel) ⟨Nat.le_of_ble_eq_true rfl, Nat.le_of_ble_eq_true rfl⟩) (va_recv hK hP (ci := 11) (q0 := 0) rfl (mW_0 cI cZ ad M)) hP hK hS hl.1 rfl rfl (Nat.le_of_ble_eq_true rfl) dX11_layAnchors_115 (fun r115 M115 H locs h hP hS => ?_)
      refine lv_if_eq (tgt := 123) hx hb dX11_layAnchors_118 (by decide) (fun q118 => ?_) (fun q118 => ?_)
      · have h := h.1 q118
        obtain ⟨x3_123, ex3_123⟩ : ∃ y : Int32, y = x3 + 1 := ⟨_, rfl⟩
        have h := h x3_123 ex3_123
        refine lv_iinc (v := x3_123) (lv' := [(3, .int x3_123), (0, .ref (ad 0)), (1, .int x1), (2, .int x2)]) hx hb dX11_layAnchors_123 hl (k := 3) rfl (by rw [ex3_123]; rfl) (by decide) rfl (fun ls hl => ?_)
        refine lv_goto (tgt := 64) hx hb dX11_layAnchors_126 (by decide) ?_
        exact hB x1 x2 x3_123 M115 _ _ _ (lv_sub hl [1, 2, 3, 0] rfl) hP hS h
      · have h := h.2 q118
        refine lv_iconst (v := 1) hx hb dX11_layAnchors_121 (by decide) ?_
        refine lv_istore_n (lv' := [(2, .int 1), (0, .ref (ad 0)), (1, .int x1), (3, .int x3)]) hx hb dX11_layAnchors_122 rfl hl (by decide) rfl (fun ls hl => ?_)
        obtain ⟨x3_123, ex3_123⟩ : ∃ y : Int32, y = x3 + 1 := ⟨_, rfl⟩
        have h := h x3_123 ex3_123
        refine lv_iinc (v := x3_123) (lv' := [(3, .int x3_123), (2, .int 1), (0, .ref (ad 0)), (1, .int x1)]) hx hb dX11_layAnchors_123 hl (k := 3) rfl (by rw [ex3_123]; rfl) (by decide) rfl (fun ls hl => ?_)
        refine lv_goto (tgt := 64) hx hb dX11_layAnchors_126 (by decide) ?_
        exact hB x1 1 x3_123 M115 _ _ _ (lv_sub hl [2, 3, 1, 0] rfl) hP hS h
  have L64 : ∀ (K129 : Int32 → Int32 → Mem → Prop), (∀ (x1 x2 : Int32) (M : Mem) (H : Heap) (locs : List Loc) (ls : Array Slot), lv_has ls 4 [(0, .ref (ad 0)), (1, .int x1), (2, .int x2)] → va_P D vwCl (mW cI cZ ad M) H → va_S (mA ad) s.heap H locs → K129 x1 x2 M → GX11_layAnchors p l e s m below meth c D cI cZ ad Q H locs (F0 m 129 ls [])) → ∀ n : Nat, ∀ (x1 x2 x3 : Int32) (M : Mem) (H : Heap) (locs : List Loc) (ls : Array Slot), lv_has ls 4 [(0, .ref (ad 0)), (1, .int x1), (2, .int x2), (3, .int x3)] → va_P D vwCl (mW cI cZ ad M) H → va_S (mA ad) s.heap H locs → wX11_layAnchors_L64 K129 Q n x1 x2 x3 M → GX11_layAnchors p l e s m below meth c D cI cZ ad Q H locs (F0 m 64 ls []) := by
    intro K129 hK129 n
    induction n with
    | zero => intro x1 x2 x3 M H locs ls hl hP hS h; exact (show False from h).elim
    | succ n hB =>
      intro x1 x2 x3 M H locs ls hl hP hS h
      rw [wX11_layAnchors_L64_s] at h
      refine lv_iload_n hx hb dX11_layAnchors_64 rfl (lv_at hl 3 rfl) ?_
      refine lv_iload_n hx hb dX11_layAnchors_65 rfl (lv_at hl 1 rfl) ?_
      refine lv_icmp_ge (tgt := 129) hx hb dX11_layAnchors_66 (by decide) (fun q66 => ?_) (fun q66 => ?_)
      · have h := h.1 q66
        exact hK129 x1 x2 M _ _ _ (lv_sub hl [0, 1, 2] rfl) hP hS h
      · have h := h.2 q66
        refine lv_iload_n hx hb dX11_layAnchors_69 rfl (lv_at hl 3 rfl) ?_
        refine lv_aload_n hx hb dX11_layAnchors_70 rfl (lv_at hl 0 rfl) ?_
        refine va_get (D := D) (ci := 11) (v := .int (M 0 0)) (C := RX11) (T := TX11) (N := 26) hx hb hts inX11 hown hK hP 0 (mW_0 cI cZ ad M) rfl 0 (by decide) k2 (fun _ h9 => h9) rfl dX11_layAnchors_71 ?_
        obtain ⟨hn74, h⟩ := h
        refine lv_irem hx hb dX11_layAnchors_74 hn74 ?_
        refine lv_topi (fun v74 ev74 => ?_)
        have h := h v74 ev74
        refine lv_iconst (v := 1) hx hb dX11_layAnchors_75 (by decide) ?_
        refine lv_iadd hx hb dX11_layAnchors_76 ?_
        refine lv_aload_n hx hb dX11_layAnchors_77 rfl (lv_at hl 0 rfl) ?_
        refine va_get (D := D) (ci := 11) (v := .int (M 0 0)) (C := RX11) (T := TX11) (N := 26) hx hb hts inX11 hown hK hP 0 (mW_0 cI cZ ad M) rfl 0 (by decide) k2 (fun _ h9 => h9) rfl dX11_layAnchors_78 ?_
        refine lv_icmp_ge (tgt := 97) hx hb dX11_layAnchors_81 (by decide) (fun q81 => ?_) (fun q81 => ?_)
        · have h := h.1 q81
          exact J97 _ K129 hB hK129 x1 x2 x3 M _ _ _ (lv_sub hl [0, 1, 2, 3] rfl) hP hS h
        · have h := h.2 q81
          refine lv_aload_n hx hb dX11_layAnchors_84 rfl (lv_at hl 0 rfl) ?_
          refine lv_iload_n hx hb dX11_layAnchors_85 rfl (lv_at hl 3 rfl) ?_
          refine lv_iload_n hx hb dX11_layAnchors_86 rfl (lv_at hl 3 rfl) ?_
          refine lv_iconst (v := 1) hx hb dX11_layAnchors_87 (by decide) ?_
          refine lv_iadd hx hb dX11_layAnchors_88 ?_
          refine m_callVi (As := [.int x3, .int (x3 + 1)]) (rest := []) ⟨hx, hb, hml, hown, hts⟩ (kX11_bringTogether l D cI cZ ad hD M x3 (x3 + 1) _ h) (cwV 2 hts (gdV uS (inA_22 _ (List.mem_of_getElem? (i := 19) rfl)) vX11_bringTogether) rfl rfl rfl (by decide +kernel) ⟨Nat.le_of_ble_eq_true rfl, Nat.le_of_ble_eq_true rfl⟩) (va_recv hK hP (ci := 11) (q0 := 0) rfl (mW_0 cI cZ ad M)) hP hK hS hl.1 rfl rfl (Nat.le_of_ble_eq_true rfl) dX11_layAnchors_89 (fun r89 M89 H locs h hP hS => ?_)
          refine lv_if_eq (tgt := 97) hx hb dX11_layAnchors_92 (by decide) (fun q92 => ?_) (fun q92 => ?_)
          · have h := h.1 q92
            exact J97 _ K129 hB hK129 x1 x2 x3 M89 _ _ _ (lv_sub hl [0, 1, 2, 3] rfl) hP hS h
          · have h := h.2 q92
            refine lv_iconst (v := 1) hx hb dX11_layAnchors_95 (by decide) ?_
            refine lv_istore_n (lv' := [(2, .int 1), (0, .ref (ad 0)), (1, .int x1), (3, .int x3)]) hx hb dX11_layAnchors_96 rfl hl (by decide) rfl (fun ls hl => ?_)
            exact J97 _ K129 hB hK129 x1 1 x3 M89 _ _ _ (lv_sub hl [1, 2, 0, 3] rfl) hP hS h
  have L56 : ∀ (K132 : Mem → Prop), (∀ (M : Mem) (H : Heap) (locs : List Loc) (ls : Array Slot), lv_has ls 4 [] → va_P D vwCl (mW cI cZ ad M) H → va_S (mA ad) s.heap H locs → K132 M → GX11_layAnchors p l e s m below meth c D cI cZ ad Q H locs (F0 m 132 ls [])) → ∀ n : Nat, ∀ (x1 x2 : Int32) (M : Mem) (H : Heap) (locs : List Loc) (ls : Array Slot), lv_has ls 4 [(0, .ref (ad 0)), (1, .int x1), (2, .int x2)] → va_P D vwCl (mW cI cZ ad M) H → va_S (mA ad) s.heap H locs → wX11_layAnchors_L56 K132 Q n x1 x2 M → GX11_layAnchors p l e s m below meth c D cI cZ ad Q H locs (F0 m 56 ls []) := by
    intro K132 hK132 n
    induction n with
    | zero => intro x1 x2 M H locs ls hl hP hS h; exact (show False from h).elim
    | succ n hB =>
      intro x1 x2 M H locs ls hl hP hS h
      rw [wX11_layAnchors_L56_s] at h
      refine lv_iload_n hx hb dX11_layAnchors_56 rfl (lv_at hl 2 rfl) ?_
      refine lv_if_eq (tgt := 132) hx hb dX11_layAnchors_57 (by decide) (fun q57 => ?_) (fun q57 => ?_)
      · have h := h.1 q57
        exact hK132 M _ _ _ (lv_sub hl [] rfl) hP hS h
      · have h := h.2 q57
        refine lv_iconst (v := 0) hx hb dX11_layAnchors_60 (by decide) ?_
        refine lv_istore_n (lv' := [(2, .int 0), (0, .ref (ad 0)), (1, .int x1)]) hx hb dX11_layAnchors_61 rfl hl (by decide) rfl (fun ls hl => ?_)
        refine lv_iconst (v := 0) hx hb dX11_layAnchors_62 (by decide) ?_
        refine lv_istore_n (lv' := [(3, .int 0), (2, .int 0), (0, .ref (ad 0)), (1, .int x1)]) hx hb dX11_layAnchors_63 rfl hl (by decide) rfl (fun ls hl => ?_)
        obtain ⟨n, h⟩ := h
        refine L64 _ (fun x1 x2 M H locs ls hl hP hS h => ?_) n x1 0 0 M _ _ _ (lv_sub hl [2, 3, 1, 0] rfl) hP hS h
        refine lv_goto (tgt := 56) hx hb dX11_layAnchors_129 (by decide) ?_
        exact hB x1 x2 M _ _ _ (lv_sub hl [0, 1, 2] rfl) hP hS h
  have hl := lv_entry ([.ref (ad 0)]) (n := 4) (Nat.le_of_ble_eq_true rfl)
  rw [lg_entry_eq]
  generalize (lg_sl ([.ref (ad 0)]) ++ List.replicate (4 - (lg_sl ([.ref (ad 0)])).length) Slot.unset).toArray = ls at hl ⊢
  have hl : lv_has ls 4 [(0, .ref (ad 0))] := hl
  refine lv_aload_n hx hb dX11_layAnchors_0 rfl (lv_at hl 0 rfl) ?_
  refine va_get (D := D) (ci := 11) (v := .int (M 0 0)) (C := RX11) (T := TX11) (N := 26) hx hb hts inX11 hown hK hP 0 (mW_0 cI cZ ad M) rfl 0 (by decide) k2 (fun _ h9 => h9) rfl dX11_layAnchors_1 ?_
  refine lv_aload_n hx hb dX11_layAnchors_4 rfl (lv_at hl 0 rfl) ?_
  refine va_get (D := D) (ci := 11) (v := .int (M 0 1)) (C := RX11) (T := TX11) (N := 26) hx hb hts inX11 hown hK hP 0 (mW_0 cI cZ ad M) rfl 1 (by decide) k3 (fun _ h9 => h9) rfl dX11_layAnchors_5 ?_
  refine lv_imul hx hb dX11_layAnchors_8 ?_
  refine lv_topi (fun x1_9 ex1_9 => ?_)
  have h := h x1_9 ex1_9
  refine lv_istore_n (lv' := [(1, .int x1_9), (0, .ref (ad 0))]) hx hb dX11_layAnchors_9 rfl hl (by decide) rfl (fun ls hl => ?_)
  refine lv_iconst (v := 0) hx hb dX11_layAnchors_10 (by decide) ?_
  refine lv_istore_n (lv' := [(2, .int 0), (1, .int x1_9), (0, .ref (ad 0))]) hx hb dX11_layAnchors_11 rfl hl (by decide) rfl (fun ls hl => ?_)
  obtain ⟨n, h⟩ := h
  refine L12 _ (fun x1 M H locs ls hl hP hS h => ?_) n x1_9 0 M _ _ _ (lv_sub hl [2, 1, 0] rfl) hP hS h
  refine lv_iconst (v := 1) hx hb dX11_layAnchors_54 (by decide) ?_
  refine lv_istore_n (lv' := [(2, .int 1), (0, .ref (ad 0)), (1, .int x1)]) hx hb dX11_layAnchors_55 rfl hl (by decide) rfl (fun ls hl => ?_)
  obtain ⟨n, h⟩ := h
  refine L56 _ (fun  M H locs ls hl hP hS h => ?_) n x1 1 M _ _ _ (lv_sub hl [1, 2, 0] rfl) hP hS h
  exact W.vret hx hb hr (fun t ht hW => ⟨⟨M, rfl, h, mAt_of ht hP⟩, hS.F ht⟩) hS.2.2 dX11_layAnchors_132
abbrev GX11_reckon (p : Program) (l : Launch) (e : Env) (s : State) (m : MethodId) (below : List Frame) (meth : Method) (c : Code) (D : va_G) (cI cZ : ClassId) (ad : Nat → Nat) (Q : Mem → Prop) (H : Heap) (locs : List Loc) (g : JFrame) : Prop := W p l e (headSpec uX11_reckon { frames := 4, cells := 0, slots := 0, locals := 102 }).room s m ([.ref (ad 0)] : List Value).toArray below meth c H locs 0 0 (MQ below (va_Qv Q (mAt D cI cZ ad) (mA ad)) ([.ref (ad 0)] : List Value).toArray s 0 0 (mA ad)) g
set_option maxHeartbeats 4000000 in
set_option maxRecDepth 100000 in
theorem kX11_reckon (l : Launch) (D : va_G) (cI cZ : ClassId) (ad : Nat → Nat) (hD : ∀ M : Mem, va_D (mA ad) (mW cI cZ ad M)) (M : Mem) (Q : Mem → Prop) (h : wX11_reckon M Q) : Met l yX11_reckon uX11_reckon ({ frames := 4, cells := 0, slots := 0, locals := 102 }) (va_Pc [.ref (ad 0)] (mPre D cI cZ ad M)) (va_Qv Q (mAt D cI cZ ad) (mA ad)) 0 0 (mA ad) := by
  refine Met.ofW (cc := cX11_reckon) (maxL := 3) (ret := none) (by decide) rfl ?_
  intro p e s m args below meth c s₁ B hml hv
  obtain ⟨rfl, hP, hK⟩ := hv
  have hx := B.exec
  have hb := B.bytes
  have hr := B.returns
  have hts := atoms_spec (ws := uX11_reckon) B.pre
  have hown : s.vm.findClass RX11 = some m.cls := findClass_of_methodNamed B.named
  have hlocks := B.notSynchronized
  have hS : va_S (mA ad) s.heap s.heap [] := va_S.rf
  have k0 := hts (.fieldLink RX11 7 "TwoEyesModel" "width" "I") (List.mem_cons_of_mem _ (inA_6 _ (List.mem_of_getElem? (i := 18) rfl)))
  have inX11 : ∀ w ∈ wsX110, w ∈ uX11_reckon := fun w h => List.mem_cons_of_mem _ (inCX11 w h)
  have k2 := hts (.fieldLink RX11 13 "TwoEyesModel" "height" "I") (List.mem_cons_of_mem _ (inA_6 _ (List.mem_of_getElem? (i := 19) rfl)))
  have k3 := hts (.fieldLink RX11 30 "TwoEyesModel" "rules" "[I") (List.mem_cons_of_mem _ (inA_7 _ (List.mem_of_getElem? (i := 0) rfl)))
  have k4 := hts (.fieldLink RX11 48 "TwoEyesModel" "costs" "[I") (List.mem_cons_of_mem _ (inA_7 _ (List.mem_of_getElem? (i := 6) rfl)))
  have k5 := hts (.fieldLink RX11 54 "TwoEyesModel" "sums" "[I") (List.mem_cons_of_mem _ (inA_7 _ (List.mem_of_getElem? (i := 8) rfl)))
  have k6 := hts (.fieldLink RX11 76 "TwoEyesModel" "isReckoned" "Z") (List.mem_cons_of_mem _ (inA_7 _ (List.mem_of_getElem? (i := 18) rfl)))
  have L94 : ∀ (K111 : Mem → Prop), (∀ (M : Mem) (H : Heap) (locs : List Loc) (ls : Array Slot), lv_has ls 3 [(0, .ref (ad 0))] → va_P D vwCl (mW cI cZ ad M) H → va_S (mA ad) s.heap H locs → K111 M → GX11_reckon p l e s m below meth c D cI cZ ad Q H locs (F0 m 111 ls [])) → ∀ n : Nat, ∀ (x1 : Int32) (M : Mem) (H : Heap) (locs : List Loc) (ls : Array Slot), lv_has ls 3 [(0, .ref (ad 0)), (1, .int x1)] → va_P D vwCl (mW cI cZ ad M) H → va_S (mA ad) s.heap H locs → wX11_reckon_L94 K111 Q n x1 M → GX11_reckon p l e s m below meth c D cI cZ ad Q H locs (F0 m 94 ls []) := by
    intro K111 hK111 n
    induction n with
    | zero => intro x1 M H locs ls hl hP hS h; exact (show False from h).elim
    | succ n hB =>
      intro x1 M H locs ls hl hP hS h
      rw [wX11_reckon_L94_s] at h
      refine lv_iload_n hx hb dX11_reckon_94 rfl (lv_at hl 1 rfl) ?_
      refine lv_bipush (v := 8) hx hb dX11_reckon_95 (by decide) ?_
      refine lv_icmp_ge (tgt := 111) hx hb dX11_reckon_97 (by decide) (fun q97 => ?_) (fun q97 => ?_)
      · have h := h.1 q97
        exact hK111 M _ _ _ (lv_sub hl [0] rfl) hP hS h
      · have h := h.2 q97
        refine lv_aload_n hx hb dX11_reckon_100 rfl (lv_at hl 0 rfl) ?_
        refine lv_iload_n hx hb dX11_reckon_101 rfl (lv_at hl 1 rfl) ?_
        refine m_callVv (As := [.int x1]) (rest := []) ⟨hx, hb, hml, hown, hts⟩ (kX11_layRuns l D cI cZ ad hD M x1 _ h) (cwV 1 hts (gdV uS (inA_21 _ (List.mem_of_getElem? (i := 23) rfl)) vX11_layRuns) rfl rfl rfl (by decide +kernel) ⟨Nat.le_of_ble_eq_true rfl, Nat.le_of_ble_eq_true rfl⟩) (va_recv hK hP (ci := 11) (q0 := 0) rfl (mW_0 cI cZ ad M)) hP hK hS hl.1 rfl rfl (Nat.le_of_ble_eq_true rfl) dX11_reckon_102 (fun M102 H locs h hP hS => ?_)
        obtain ⟨x1_105, ex1_105⟩ : ∃ y : Int32, y = x1 + 1 := ⟨_, rfl⟩
        have h := h x1_105 ex1_105
        refine lv_iinc (v := x1_105) (lv' := [(1, .int x1_105), (0, .ref (ad 0))]) hx hb dX11_reckon_105 hl (k := 1) rfl (by rw [ex1_105]; rfl) (by decide) rfl (fun ls hl => ?_)
        refine lv_goto (tgt := 94) hx hb dX11_reckon_108 (by decide) ?_
        exact hB x1_105 M102 _ _ _ (lv_sub hl [1, 0] rfl) hP hS h
  have L113 : ∀ (K148 : Mem → Prop), (∀ (M : Mem) (H : Heap) (locs : List Loc) (ls : Array Slot), lv_has ls 3 [(0, .ref (ad 0))] → va_P D vwCl (mW cI cZ ad M) H → va_S (mA ad) s.heap H locs → K148 M → GX11_reckon p l e s m below meth c D cI cZ ad Q H locs (F0 m 148 ls [])) → ∀ n : Nat, ∀ (x1 : Int32) (M : Mem) (H : Heap) (locs : List Loc) (ls : Array Slot), lv_has ls 3 [(0, .ref (ad 0)), (1, .int x1)] → va_P D vwCl (mW cI cZ ad M) H → va_S (mA ad) s.heap H locs → wX11_reckon_L113 K148 Q n x1 M → GX11_reckon p l e s m below meth c D cI cZ ad Q H locs (F0 m 113 ls []) := by
    intro K148 hK148 n
    induction n with
    | zero => intro x1 M H locs ls hl hP hS h; exact (show False from h).elim
    | succ n hB =>
      intro x1 M H locs ls hl hP hS h
      rw [wX11_reckon_L113_s] at h
      refine lv_iload_n hx hb dX11_reckon_113 rfl (lv_at hl 1 rfl) ?_
      refine lv_aload_n hx hb dX11_reckon_114 rfl (lv_at hl 0 rfl) ?_
      refine va_get (D := D) (ci := 11) (v := .int (M 0 0)) (C := RX11) (T := TX11) (N := 26) hx hb hts inX11 hown hK hP 0 (mW_0 cI cZ ad M) rfl 0 (by decide) k0 (fun _ h9 => h9) rfl dX11_reckon_115 ?_
      refine lv_aload_n hx hb dX11_reckon_118 rfl (lv_at hl 0 rfl) ?_
      refine va_get (D := D) (ci := 11) (v := .int (M 0 1)) (C := RX11) (T := TX11) (N := 26) hx hb hts inX11 hown hK hP 0 (mW_0 cI cZ ad M) rfl 1 (by decide) k2 (fun _ h9 => h9) rfl dX11_reckon_119 ?_
      refine lv_imul hx hb dX11_reckon_122 ?_
      refine lv_icmp_ge (tgt := 148) hx hb dX11_reckon_123 (by decide) (fun q123 => ?_) (fun q123 => ?_)
      · have h := h.1 q123
        exact hK148 M _ _ _ (lv_sub hl [0] rfl) hP hS h
      · have h := h.2 q123
        refine lv_aload_n hx hb dX11_reckon_126 rfl (lv_at hl 0 rfl) ?_
        refine lv_iload_n hx hb dX11_reckon_127 rfl (lv_at hl 1 rfl) ?_
        refine lv_aload_n hx hb dX11_reckon_128 rfl (lv_at hl 0 rfl) ?_
        refine va_get (D := D) (ci := 11) (v := .int (M 0 0)) (C := RX11) (T := TX11) (N := 26) hx hb hts inX11 hown hK hP 0 (mW_0 cI cZ ad M) rfl 0 (by decide) k0 (fun _ h9 => h9) rfl dX11_reckon_129 ?_
        obtain ⟨hn132, h⟩ := h
        refine lv_irem hx hb dX11_reckon_132 hn132 ?_
        refine lv_topi (fun v132 ev132 => ?_)
        have h := h v132 ev132
        refine lv_iload_n hx hb dX11_reckon_133 rfl (lv_at hl 1 rfl) ?_
        refine lv_aload_n hx hb dX11_reckon_134 rfl (lv_at hl 0 rfl) ?_
        refine va_get (D := D) (ci := 11) (v := .int (M 0 0)) (C := RX11) (T := TX11) (N := 26) hx hb hts inX11 hown hK hP 0 (mW_0 cI cZ ad M) rfl 0 (by decide) k0 (fun _ h9 => h9) rfl dX11_reckon_135 ?_
        obtain ⟨hn138, h⟩ := h
        refine lv_idiv hx hb dX11_reckon_138 hn138 ?_
        refine m_callVv (As := [.int v132, .int (x1 / (M 0 0))]) (rest := []) ⟨hx, hb, hml, hown, hts⟩ (kX11_layDepths l D cI cZ ad hD M v132 (x1 / (M 0 0)) _ h) (cwV 2 hts (gdV uS (inA_22 _ (List.mem_of_getElem? (i := 11) rfl)) vX11_layDepths) rfl rfl rfl (by decide +kernel) ⟨Nat.le_of_ble_eq_true rfl, Nat.le_of_ble_eq_true rfl⟩) (va_recv hK hP (ci := 11) (q0 := 0) rfl (mW_0 cI cZ ad M)) hP hK hS hl.1 rfl rfl (Nat.le_of_ble_eq_true rfl) dX11_reckon_139 (fun M139 H locs h hP hS => ?_)
        obtain ⟨x1_142, ex1_142⟩ : ∃ y : Int32, y = x1 + 1 := ⟨_, rfl⟩
        have h := h x1_142 ex1_142
        refine lv_iinc (v := x1_142) (lv' := [(1, .int x1_142), (0, .ref (ad 0))]) hx hb dX11_reckon_142 hl (k := 1) rfl (by rw [ex1_142]; rfl) (by decide) rfl (fun ls hl => ?_)
        refine lv_goto (tgt := 113) hx hb dX11_reckon_145 (by decide) ?_
        exact hB x1_142 M139 _ _ _ (lv_sub hl [1, 0] rfl) hP hS h
  have L30 : ∀ (K86 : Int32 → Mem → Prop), (∀ (x1 : Int32) (M : Mem) (H : Heap) (locs : List Loc) (ls : Array Slot), lv_has ls 3 [(0, .ref (ad 0)), (1, .int x1)] → va_P D vwCl (mW cI cZ ad M) H → va_S (mA ad) s.heap H locs → K86 x1 M → GX11_reckon p l e s m below meth c D cI cZ ad Q H locs (F0 m 86 ls [])) → ∀ n : Nat, ∀ (x1 x2 : Int32) (M : Mem) (H : Heap) (locs : List Loc) (ls : Array Slot), lv_has ls 3 [(0, .ref (ad 0)), (1, .int x1), (2, .int x2)] → va_P D vwCl (mW cI cZ ad M) H → va_S (mA ad) s.heap H locs → wX11_reckon_L30 K86 Q n x1 x2 M → GX11_reckon p l e s m below meth c D cI cZ ad Q H locs (F0 m 30 ls []) := by
    intro K86 hK86 n
    induction n with
    | zero => intro x1 x2 M H locs ls hl hP hS h; exact (show False from h).elim
    | succ n hB =>
      intro x1 x2 M H locs ls hl hP hS h
      rw [wX11_reckon_L30_s] at h
      refine lv_iload_n hx hb dX11_reckon_30 rfl (lv_at hl 2 rfl) ?_
      refine lv_aload_n hx hb dX11_reckon_31 rfl (lv_at hl 0 rfl) ?_
      refine va_get (D := D) (ci := 11) (v := .ref (ad 5)) (C := RX11) (T := TX11) (N := 26) hx hb hts inX11 hown hK hP 0 (mW_0 cI cZ ad M) rfl 6 (by decide) k3 (fun _ h9 => h9) rfl dX11_reckon_32 ?_
      refine lv_iconst (v := 0) hx hb dX11_reckon_35 (by decide) ?_
      obtain ⟨hi36, h⟩ := h
      refine va_iald hx hb hK hP 5 0 (mW_5 cI cZ ad M) rfl hi36 dX11_reckon_36 ?_
      refine lv_icmp_gt (tgt := 86) hx hb dX11_reckon_37 (by decide) (fun q37 => ?_) (fun q37 => ?_)
      · have h := h.1 q37
        exact hK86 x1 M _ _ _ (lv_sub hl [0, 1] rfl) hP hS h
      · have h := h.2 q37
        refine lv_aload_n hx hb dX11_reckon_40 rfl (lv_at hl 0 rfl) ?_
        refine va_get (D := D) (ci := 11) (v := .ref (ad 11)) (C := RX11) (T := TX11) (N := 26) hx hb hts inX11 hown hK hP 0 (mW_0 cI cZ ad M) rfl 16 (by decide) k4 (fun _ h9 => h9) rfl dX11_reckon_41 ?_
        refine lv_bipush (v := 9) hx hb dX11_reckon_44 (by decide) ?_
        refine lv_iload_n hx hb dX11_reckon_46 rfl (lv_at hl 1 rfl) ?_
        refine lv_imul hx hb dX11_reckon_47 ?_
        refine lv_iload_n hx hb dX11_reckon_48 rfl (lv_at hl 2 rfl) ?_
        refine lv_iadd hx hb dX11_reckon_49 ?_
        refine lv_aload_n hx hb dX11_reckon_50 rfl (lv_at hl 0 rfl) ?_
        refine lv_iload_n hx hb dX11_reckon_51 rfl (lv_at hl 1 rfl) ?_
        refine lv_aload_n hx hb dX11_reckon_52 rfl (lv_at hl 0 rfl) ?_
        refine va_get (D := D) (ci := 11) (v := .int (M 0 0)) (C := RX11) (T := TX11) (N := 26) hx hb hts inX11 hown hK hP 0 (mW_0 cI cZ ad M) rfl 0 (by decide) k0 (fun _ h9 => h9) rfl dX11_reckon_53 ?_
        obtain ⟨hn56, h⟩ := h
        refine lv_irem hx hb dX11_reckon_56 hn56 ?_
        refine lv_topi (fun v56 ev56 => ?_)
        have h := h v56 ev56
        refine lv_iload_n hx hb dX11_reckon_57 rfl (lv_at hl 1 rfl) ?_
        refine lv_aload_n hx hb dX11_reckon_58 rfl (lv_at hl 0 rfl) ?_
        refine va_get (D := D) (ci := 11) (v := .int (M 0 0)) (C := RX11) (T := TX11) (N := 26) hx hb hts inX11 hown hK hP 0 (mW_0 cI cZ ad M) rfl 0 (by decide) k0 (fun _ h9 => h9) rfl dX11_reckon_59 ?_
        obtain ⟨hn62, h⟩ := h
        refine lv_idiv hx hb dX11_reckon_62 hn62 ?_
        refine lv_iload_n hx hb dX11_reckon_63 rfl (lv_at hl 2 rfl) ?_
        refine m_callVi (As := [.int v56, .int (x1 / (M 0 0)), .int x2]) (rest := [.int ((9 * x1) + x2), .ref (ad 11)]) ⟨hx, hb, hml, hown, hts⟩ (kX11_costAt l D cI cZ ad hD M v56 (x1 / (M 0 0)) x2 _ h) (cwV 3 hts (gdV uS (inA_21 _ (List.mem_of_getElem? (i := 9) rfl)) vX11_costAt) rfl rfl rfl (by decide +kernel) ⟨Nat.le_of_ble_eq_true rfl, Nat.le_of_ble_eq_true rfl⟩) (va_recv hK hP (ci := 11) (q0 := 0) rfl (mW_0 cI cZ ad M)) hP hK hS hl.1 rfl rfl (Nat.le_of_ble_eq_true rfl) dX11_reckon_64 (fun r64 M64 H locs h hP hS => ?_)
        obtain ⟨hi67, h⟩ := h
        refine va_iast hx hb hK hP (hD M64) hS 11 0 (mW_11 cI cZ ad M64) rfl hi67 dX11_reckon_67 (fun H locs hP _ hS => ?_)
        refine mQ_11 hP (fun M67 eM67 hP => ?_)
        have h := h M67 eM67
        refine lv_aload_n hx hb dX11_reckon_68 rfl (lv_at hl 0 rfl) ?_
        refine va_get (D := D) (ci := 11) (v := .ref (ad 13)) (C := RX11) (T := TX11) (N := 26) hx hb hts inX11 hown hK hP 0 (mW_0 cI cZ ad M67) rfl 18 (by decide) k5 (fun _ h9 => h9) rfl dX11_reckon_69 ?_
        refine lv_bipush (v := 9) hx hb dX11_reckon_72 (by decide) ?_
        refine lv_iload_n hx hb dX11_reckon_74 rfl (lv_at hl 1 rfl) ?_
        refine lv_imul hx hb dX11_reckon_75 ?_
        refine lv_iload_n hx hb dX11_reckon_76 rfl (lv_at hl 2 rfl) ?_
        refine lv_iadd hx hb dX11_reckon_77 ?_
        refine lv_iconst (v := 0) hx hb dX11_reckon_78 (by decide) ?_
        obtain ⟨hi79, h⟩ := h
        refine va_iast hx hb hK hP (hD M67) hS 13 0 (mW_13 cI cZ ad M67) rfl hi79 dX11_reckon_79 (fun H locs hP _ hS => ?_)
        refine mQ_13 hP (fun M79 eM79 hP => ?_)
        have h := h M79 eM79
        obtain ⟨x2_80, ex2_80⟩ : ∃ y : Int32, y = x2 + 1 := ⟨_, rfl⟩
        have h := h x2_80 ex2_80
        refine lv_iinc (v := x2_80) (lv' := [(2, .int x2_80), (0, .ref (ad 0)), (1, .int x1)]) hx hb dX11_reckon_80 hl (k := 2) rfl (by rw [ex2_80]; rfl) (by decide) rfl (fun ls hl => ?_)
        refine lv_goto (tgt := 30) hx hb dX11_reckon_83 (by decide) ?_
        exact hB x1 x2_80 M79 _ _ _ (lv_sub hl [1, 2, 0] rfl) hP hS h
  have L15 : ∀ (K92 : Mem → Prop), (∀ (M : Mem) (H : Heap) (locs : List Loc) (ls : Array Slot), lv_has ls 3 [(0, .ref (ad 0))] → va_P D vwCl (mW cI cZ ad M) H → va_S (mA ad) s.heap H locs → K92 M → GX11_reckon p l e s m below meth c D cI cZ ad Q H locs (F0 m 92 ls [])) → ∀ n : Nat, ∀ (x1 : Int32) (M : Mem) (H : Heap) (locs : List Loc) (ls : Array Slot), lv_has ls 3 [(0, .ref (ad 0)), (1, .int x1)] → va_P D vwCl (mW cI cZ ad M) H → va_S (mA ad) s.heap H locs → wX11_reckon_L15 K92 Q n x1 M → GX11_reckon p l e s m below meth c D cI cZ ad Q H locs (F0 m 15 ls []) := by
    intro K92 hK92 n
    induction n with
    | zero => intro x1 M H locs ls hl hP hS h; exact (show False from h).elim
    | succ n hB =>
      intro x1 M H locs ls hl hP hS h
      rw [wX11_reckon_L15_s] at h
      refine lv_iload_n hx hb dX11_reckon_15 rfl (lv_at hl 1 rfl) ?_
      refine lv_aload_n hx hb dX11_reckon_16 rfl (lv_at hl 0 rfl) ?_
      refine va_get (D := D) (ci := 11) (v := .int (M 0 0)) (C := RX11) (T := TX11) (N := 26) hx hb hts inX11 hown hK hP 0 (mW_0 cI cZ ad M) rfl 0 (by decide) k0 (fun _ h9 => h9) rfl dX11_reckon_17 ?_
      refine lv_aload_n hx hb dX11_reckon_20 rfl (lv_at hl 0 rfl) ?_
      refine va_get (D := D) (ci := 11) (v := .int (M 0 1)) (C := RX11) (T := TX11) (N := 26) hx hb hts inX11 hown hK hP 0 (mW_0 cI cZ ad M) rfl 1 (by decide) k2 (fun _ h9 => h9) rfl dX11_reckon_21 ?_
      refine lv_imul hx hb dX11_reckon_24 ?_
      refine lv_icmp_ge (tgt := 92) hx hb dX11_reckon_25 (by decide) (fun q25 => ?_) (fun q25 => ?_)
      · have h := h.1 q25
        exact hK92 M _ _ _ (lv_sub hl [0] rfl) hP hS h
      · have h := h.2 q25
        refine lv_iconst (v := 0) hx hb dX11_reckon_28 (by decide) ?_
        refine lv_istore_n (lv' := [(2, .int 0), (0, .ref (ad 0)), (1, .int x1)]) hx hb dX11_reckon_29 rfl hl (by decide) rfl (fun ls hl => ?_)
        obtain ⟨n, h⟩ := h
        refine L30 _ (fun x1 M H locs ls hl hP hS h => ?_) n x1 0 M _ _ _ (lv_sub hl [1, 2, 0] rfl) hP hS h
        obtain ⟨x1_86, ex1_86⟩ : ∃ y : Int32, y = x1 + 1 := ⟨_, rfl⟩
        have h := h x1_86 ex1_86
        refine lv_iinc (v := x1_86) (lv' := [(1, .int x1_86), (0, .ref (ad 0))]) hx hb dX11_reckon_86 hl (k := 1) rfl (by rw [ex1_86]; rfl) (by decide) rfl (fun ls hl => ?_)
        refine lv_goto (tgt := 15) hx hb dX11_reckon_89 (by decide) ?_
        exact hB x1_86 M _ _ _ (lv_sub hl [1, 0] rfl) hP hS h
  have hl := lv_entry ([.ref (ad 0)]) (n := 3) (Nat.le_of_ble_eq_true rfl)
  rw [lg_entry_eq]
  generalize (lg_sl ([.ref (ad 0)]) ++ List.replicate (3 - (lg_sl ([.ref (ad 0)])).length) Slot.unset).toArray = ls at hl ⊢
  have hl : lv_has ls 3 [(0, .ref (ad 0))] := hl
  refine lv_aload_n hx hb dX11_reckon_0 rfl (lv_at hl 0 rfl) ?_
  refine va_get (D := D) (ci := 11) (v := .int (M 0 15)) (C := RX11) (T := TX11) (N := 26) hx hb hts inX11 hown hK hP 0 (mW_0 cI cZ ad M) rfl 15 (by decide) k6 (fun _ h9 => h9) rfl dX11_reckon_1 ?_
  refine lv_if_eq (tgt := 8) hx hb dX11_reckon_4 (by decide) (fun q4 => ?_) (fun q4 => ?_)
  · have h := h.1 q4
    refine lv_aload_n hx hb dX11_reckon_8 rfl (lv_at hl 0 rfl) ?_
    refine lv_iconst (v := 1) hx hb dX11_reckon_9 (by decide) ?_
    refine va_put (D := D) (ci := 11) (v := .int 1) (ty := .boolean) (C := RX11) (T := TX11) (N := 26) hx hb hts inX11 tyX11 tyX11_ok nmX11 hown hK hP (hD M) hS 0 (mW_0 cI cZ ad M) rfl 15 (by decide) k6 (fun _ h9 => h9) rfl (by decide +kernel) rfl rfl (Nat.le_of_ble_eq_true rfl) dX11_reckon_10 (fun H locs hP _ hS => ?_)
    refine mP_0_15 hP (fun M10 eM10 hP => ?_)
    have h := h M10 eM10
    refine lv_iconst (v := 0) hx hb dX11_reckon_13 (by decide) ?_
    refine lv_istore_n (lv' := [(1, .int 0), (0, .ref (ad 0))]) hx hb dX11_reckon_14 rfl hl (by decide) rfl (fun ls hl => ?_)
    obtain ⟨n, h⟩ := h
    refine L15 _ (fun  M H locs ls hl hP hS h => ?_) n 0 M10 _ _ _ (lv_sub hl [1, 0] rfl) hP hS h
    refine lv_iconst (v := 0) hx hb dX11_reckon_92 (by decide) ?_
    refine lv_istore_n (lv' := [(1, .int 0), (0, .ref (ad 0))]) hx hb dX11_reckon_93 rfl hl (by decide) rfl (fun ls hl => ?_)
    obtain ⟨n, h⟩ := h
    refine L94 _ (fun  M H locs ls hl hP hS h => ?_) n 0 M _ _ _ (lv_sub hl [1, 0] rfl) hP hS h
    refine lv_iconst (v := 0) hx hb dX11_reckon_111 (by decide) ?_
    refine lv_istore_n (lv' := [(1, .int 0), (0, .ref (ad 0))]) hx hb dX11_reckon_112 rfl hl (by decide) rfl (fun ls hl => ?_)
    obtain ⟨n, h⟩ := h
    refine L113 _ (fun  M H locs ls hl hP hS h => ?_) n 0 M _ _ _ (lv_sub hl [1, 0] rfl) hP hS h
    refine lv_aload_n hx hb dX11_reckon_148 rfl (lv_at hl 0 rfl) ?_
    refine m_callVv (As := []) (rest := []) ⟨hx, hb, hml, hown, hts⟩ (kX11_layAnchors l D cI cZ ad hD M _ h) (cwV 0 hts (gdV uS (inA_22 _ (List.mem_of_getElem? (i := 15) rfl)) vX11_layAnchors) rfl rfl rfl (by decide +kernel) ⟨Nat.le_of_ble_eq_true rfl, Nat.le_of_ble_eq_true rfl⟩) (va_recv hK hP (ci := 11) (q0 := 0) rfl (mW_0 cI cZ ad M)) hP hK hS hl.1 rfl rfl (Nat.le_of_ble_eq_true rfl) dX11_reckon_149 (fun M149 H locs h hP hS => ?_)
    exact W.vret hx hb hr (fun t ht hW => ⟨⟨M149, rfl, h, mAt_of ht hP⟩, hS.F ht⟩) hS.2.2 dX11_reckon_152
  · have h := h.2 q4
    exact W.vret hx hb hr (fun t ht hW => ⟨⟨M, rfl, h, mAt_of ht hP⟩, hS.F ht⟩) hS.2.2 dX11_reckon_7
abbrev GX11_lostMany (p : Program) (l : Launch) (e : Env) (s : State) (m : MethodId) (below : List Frame) (meth : Method) (c : Code) (D : va_G) (cI cZ : ClassId) (ad : Nat → Nat) (a1 : Int32) (Q : Int32 → Mem → Prop) (H : Heap) (locs : List Loc) (g : JFrame) : Prop := W p l e (headSpec uX11_lostMany { frames := 2, cells := 0, slots := 0, locals := 46 }).room s m ([.ref (ad 0), .int a1] : List Value).toArray below meth c H locs 0 0 (MQ below (va_Qi Q (mAt D cI cZ ad) (mA ad)) ([.ref (ad 0), .int a1] : List Value).toArray s 0 0 (mA ad)) g
set_option maxHeartbeats 4000000 in
set_option maxRecDepth 100000 in
theorem kX11_lostMany (l : Launch) (D : va_G) (cI cZ : ClassId) (ad : Nat → Nat) (hD : ∀ M : Mem, va_D (mA ad) (mW cI cZ ad M)) (M : Mem) (a1 : Int32) (Q : Int32 → Mem → Prop) (h : wX11_lostMany M a1 Q) : Met l yX11_lostMany uX11_lostMany ({ frames := 2, cells := 0, slots := 0, locals := 46 }) (va_Pc [.ref (ad 0), .int a1] (mPre D cI cZ ad M)) (va_Qi Q (mAt D cI cZ ad) (mA ad)) 0 0 (mA ad) := by
  refine Met.ofW (cc := cX11_lostMany) (maxL := 5) (ret := (some .int)) (by decide) rfl ?_
  intro p e s m args below meth c s₁ B hml hv
  obtain ⟨rfl, hP, hK⟩ := hv
  have hx := B.exec
  have hb := B.bytes
  have hr := B.returns
  have hts := atoms_spec (ws := uX11_lostMany) B.pre
  have hown : s.vm.findClass RX11 = some m.cls := findClass_of_methodNamed B.named
  have hlocks := B.notSynchronized
  have hS : va_S (mA ad) s.heap s.heap [] := va_S.rf
  have k0 := hts (.fieldLink RX11 7 "TwoEyesModel" "width" "I") (List.mem_cons_of_mem _ (inA_6 _ (List.mem_of_getElem? (i := 18) rfl)))
  have inX11 : ∀ w ∈ wsX110, w ∈ uX11_lostMany := fun w h => List.mem_cons_of_mem _ (inCX11 w h)
  have k2 := hts (.fieldLink RX11 13 "TwoEyesModel" "height" "I") (List.mem_cons_of_mem _ (inA_6 _ (List.mem_of_getElem? (i := 19) rfl)))
  have L15 : ∀ (K49 : Int32 → Int32 → Int32 → Mem → Prop), (∀ (x1 x2 x3 : Int32) (M : Mem) (H : Heap) (locs : List Loc) (ls : Array Slot), lv_has ls 5 [(0, .ref (ad 0)), (1, .int x1), (2, .int x2), (3, .int x3)] → va_P D vwCl (mW cI cZ ad M) H → va_S (mA ad) s.heap H locs → K49 x1 x2 x3 M → GX11_lostMany p l e s m below meth c D cI cZ ad a1 Q H locs (F0 m 49 ls [])) → ∀ n : Nat, ∀ (x1 x2 x3 x4 : Int32) (M : Mem) (H : Heap) (locs : List Loc) (ls : Array Slot), lv_has ls 5 [(0, .ref (ad 0)), (1, .int x1), (2, .int x2), (3, .int x3), (4, .int x4)] → va_P D vwCl (mW cI cZ ad M) H → va_S (mA ad) s.heap H locs → wX11_lostMany_L15 K49 Q n x1 x2 x3 x4 M → GX11_lostMany p l e s m below meth c D cI cZ ad a1 Q H locs (F0 m 15 ls []) := by
    intro K49 hK49 n
    induction n with
    | zero => intro x1 x2 x3 x4 M H locs ls hl hP hS h; exact (show False from h).elim
    | succ n hB =>
      intro x1 x2 x3 x4 M H locs ls hl hP hS h
      rw [wX11_lostMany_L15_s] at h
      refine lv_iload hx hb dX11_lostMany_15 (lv_at hl 4 rfl) ?_
      refine lv_aload_n hx hb dX11_lostMany_17 rfl (lv_at hl 0 rfl) ?_
      refine va_get (D := D) (ci := 11) (v := .int (M 0 0)) (C := RX11) (T := TX11) (N := 26) hx hb hts inX11 hown hK hP 0 (mW_0 cI cZ ad M) rfl 0 (by decide) k0 (fun _ h9 => h9) rfl dX11_lostMany_18 ?_
      refine lv_icmp_ge (tgt := 49) hx hb dX11_lostMany_21 (by decide) (fun q21 => ?_) (fun q21 => ?_)
      · have h := h.1 q21
        exact hK49 x1 x2 x3 M _ _ _ (lv_sub hl [0, 1, 2, 3] rfl) hP hS h
      · have h := h.2 q21
        refine lv_iload_n hx hb dX11_lostMany_24 rfl (lv_at hl 2 rfl) ?_
        refine lv_aload_n hx hb dX11_lostMany_25 rfl (lv_at hl 0 rfl) ?_
        refine lv_iload_n hx hb dX11_lostMany_26 rfl (lv_at hl 1 rfl) ?_
        refine lv_iload hx hb dX11_lostMany_27 (lv_at hl 4 rfl) ?_
        refine lv_iload_n hx hb dX11_lostMany_29 rfl (lv_at hl 3 rfl) ?_
        refine m_callVi (As := [.int x1, .int x4, .int x3]) (rest := [.int x2]) ⟨hx, hb, hml, hown, hts⟩ (kX11_isLost l D cI cZ ad hD M x1 x4 x3 _ h) (cwV 3 hts (gdV uS (inA_13 _ (List.mem_of_getElem? (i := 15) rfl)) vX11_isLost) rfl rfl rfl (by decide +kernel) ⟨Nat.le_of_ble_eq_true rfl, Nat.le_of_ble_eq_true rfl⟩) (va_recv hK hP (ci := 11) (q0 := 0) rfl (mW_0 cI cZ ad M)) hP hK hS hl.1 rfl rfl (Nat.le_of_ble_eq_true rfl) dX11_lostMany_30 (fun r30 M30 H locs h hP hS => ?_)
        refine lv_if_eq (tgt := 40) hx hb dX11_lostMany_33 (by decide) (fun q33 => ?_) (fun q33 => ?_)
        · have h := h.1 q33
          refine lv_iconst (v := 0) hx hb dX11_lostMany_40 (by decide) ?_
          refine lv_iadd hx hb dX11_lostMany_41 ?_
          refine lv_topi (fun x2_42 ex2_42 => ?_)
          have h := h x2_42 ex2_42
          refine lv_istore_n (lv' := [(2, .int x2_42), (0, .ref (ad 0)), (1, .int x1), (3, .int x3), (4, .int x4)]) hx hb dX11_lostMany_42 rfl hl (by decide) rfl (fun ls hl => ?_)
          obtain ⟨x4_43, ex4_43⟩ : ∃ y : Int32, y = x4 + 1 := ⟨_, rfl⟩
          have h := h x4_43 ex4_43
          refine lv_iinc (v := x4_43) (lv' := [(4, .int x4_43), (2, .int x2_42), (0, .ref (ad 0)), (1, .int x1), (3, .int x3)]) hx hb dX11_lostMany_43 hl (k := 4) rfl (by rw [ex4_43]; rfl) (by decide) rfl (fun ls hl => ?_)
          refine lv_goto (tgt := 15) hx hb dX11_lostMany_46 (by decide) ?_
          exact hB x1 x2_42 x3 x4_43 M30 _ _ _ (lv_sub hl [2, 3, 1, 4, 0] rfl) hP hS h
        · have h := h.2 q33
          refine lv_iconst (v := 1) hx hb dX11_lostMany_36 (by decide) ?_
          refine lv_goto (tgt := 41) hx hb dX11_lostMany_37 (by decide) ?_
          refine lv_iadd hx hb dX11_lostMany_41 ?_
          refine lv_topi (fun x2_42 ex2_42 => ?_)
          have h := h x2_42 ex2_42
          refine lv_istore_n (lv' := [(2, .int x2_42), (0, .ref (ad 0)), (1, .int x1), (3, .int x3), (4, .int x4)]) hx hb dX11_lostMany_42 rfl hl (by decide) rfl (fun ls hl => ?_)
          obtain ⟨x4_43, ex4_43⟩ : ∃ y : Int32, y = x4 + 1 := ⟨_, rfl⟩
          have h := h x4_43 ex4_43
          refine lv_iinc (v := x4_43) (lv' := [(4, .int x4_43), (2, .int x2_42), (0, .ref (ad 0)), (1, .int x1), (3, .int x3)]) hx hb dX11_lostMany_43 hl (k := 4) rfl (by rw [ex4_43]; rfl) (by decide) rfl (fun ls hl => ?_)
          refine lv_goto (tgt := 15) hx hb dX11_lostMany_46 (by decide) ?_
          exact hB x1 x2_42 x3 x4_43 M30 _ _ _ (lv_sub hl [2, 3, 1, 4, 0] rfl) hP hS h
  have L4 : ∀ (K55 : Int32 → Mem → Prop), (∀ (x2 : Int32) (M : Mem) (H : Heap) (locs : List Loc) (ls : Array Slot), lv_has ls 5 [(2, .int x2)] → va_P D vwCl (mW cI cZ ad M) H → va_S (mA ad) s.heap H locs → K55 x2 M → GX11_lostMany p l e s m below meth c D cI cZ ad a1 Q H locs (F0 m 55 ls [])) → ∀ n : Nat, ∀ (x1 x2 x3 : Int32) (M : Mem) (H : Heap) (locs : List Loc) (ls : Array Slot), lv_has ls 5 [(0, .ref (ad 0)), (1, .int x1), (2, .int x2), (3, .int x3)] → va_P D vwCl (mW cI cZ ad M) H → va_S (mA ad) s.heap H locs → wX11_lostMany_L4 K55 Q n x1 x2 x3 M → GX11_lostMany p l e s m below meth c D cI cZ ad a1 Q H locs (F0 m 4 ls []) := by
    intro K55 hK55 n
    induction n with
    | zero => intro x1 x2 x3 M H locs ls hl hP hS h; exact (show False from h).elim
    | succ n hB =>
      intro x1 x2 x3 M H locs ls hl hP hS h
      rw [wX11_lostMany_L4_s] at h
      refine lv_iload_n hx hb dX11_lostMany_4 rfl (lv_at hl 3 rfl) ?_
      refine lv_aload_n hx hb dX11_lostMany_5 rfl (lv_at hl 0 rfl) ?_
      refine va_get (D := D) (ci := 11) (v := .int (M 0 1)) (C := RX11) (T := TX11) (N := 26) hx hb hts inX11 hown hK hP 0 (mW_0 cI cZ ad M) rfl 1 (by decide) k2 (fun _ h9 => h9) rfl dX11_lostMany_6 ?_
      refine lv_icmp_ge (tgt := 55) hx hb dX11_lostMany_9 (by decide) (fun q9 => ?_) (fun q9 => ?_)
      · have h := h.1 q9
        exact hK55 x2 M _ _ _ (lv_sub hl [2] rfl) hP hS h
      · have h := h.2 q9
        refine lv_iconst (v := 0) hx hb dX11_lostMany_12 (by decide) ?_
        refine lv_istore (lv' := [(4, .int 0), (0, .ref (ad 0)), (1, .int x1), (2, .int x2), (3, .int x3)]) hx hb dX11_lostMany_13 hl (by decide) rfl (fun ls hl => ?_)
        obtain ⟨n, h⟩ := h
        refine L15 _ (fun x1 x2 x3 M H locs ls hl hP hS h => ?_) n x1 x2 x3 0 M _ _ _ (lv_sub hl [1, 2, 3, 4, 0] rfl) hP hS h
        obtain ⟨x3_49, ex3_49⟩ : ∃ y : Int32, y = x3 + 1 := ⟨_, rfl⟩
        have h := h x3_49 ex3_49
        refine lv_iinc (v := x3_49) (lv' := [(3, .int x3_49), (0, .ref (ad 0)), (1, .int x1), (2, .int x2)]) hx hb dX11_lostMany_49 hl (k := 3) rfl (by rw [ex3_49]; rfl) (by decide) rfl (fun ls hl => ?_)
        refine lv_goto (tgt := 4) hx hb dX11_lostMany_52 (by decide) ?_
        exact hB x1 x2 x3_49 M _ _ _ (lv_sub hl [1, 2, 3, 0] rfl) hP hS h
  have hl := lv_entry ([.ref (ad 0), .int a1]) (n := 5) (Nat.le_of_ble_eq_true rfl)
  rw [lg_entry_eq]
  generalize (lg_sl ([.ref (ad 0), .int a1]) ++ List.replicate (5 - (lg_sl ([.ref (ad 0), .int a1])).length) Slot.unset).toArray = ls at hl ⊢
  have hl : lv_has ls 5 [(0, .ref (ad 0)), (1, .int a1)] := hl
  refine lv_iconst (v := 0) hx hb dX11_lostMany_0 (by decide) ?_
  refine lv_istore_n (lv' := [(2, .int 0), (0, .ref (ad 0)), (1, .int a1)]) hx hb dX11_lostMany_1 rfl hl (by decide) rfl (fun ls hl => ?_)
  refine lv_iconst (v := 0) hx hb dX11_lostMany_2 (by decide) ?_
  refine lv_istore_n (lv' := [(3, .int 0), (2, .int 0), (0, .ref (ad 0)), (1, .int a1)]) hx hb dX11_lostMany_3 rfl hl (by decide) rfl (fun ls hl => ?_)
  obtain ⟨n, h⟩ := h
  refine L4 _ (fun x2 M H locs ls hl hP hS h => ?_) n a1 0 0 M _ _ _ (lv_sub hl [2, 3, 1, 0] rfl) hP hS h
  refine lv_iload_n hx hb dX11_lostMany_55 rfl (lv_at hl 0 rfl) ?_
  exact W.iret (v := x2) hx hb hr (fun t ht hW => ⟨⟨x2, M, rfl, h, mAt_of ht hP⟩, hS.F ht⟩) hS.2.2 dX11_lostMany_56
set_option maxHeartbeats 4000000 in
set_option maxRecDepth 100000 in
theorem kX11_agreedAt (l : Launch) (D : va_G) (cI cZ : ClassId) (ad : Nat → Nat) (hD : ∀ M : Mem, va_D (mA ad) (mW cI cZ ad M)) (M : Mem) (a1 a2 : Int32) (Q : Int32 → Mem → Prop) (h : wX11_agreedAt M a1 a2 Q) : Met l yX11_agreedAt uX11_agreedAt ({ frames := 2, cells := 0, slots := 0, locals := 46 }) (va_Pc [.ref (ad 0), .int a1, .int a2] (mPre D cI cZ ad M)) (va_Qi Q (mAt D cI cZ ad) (mA ad)) 0 0 (mA ad) := by
  refine Met.ofW (cc := cX11_agreedAt) (maxL := 4) (ret := (some .int)) (by decide) rfl ?_
  intro p e s m args below meth c s₁ B hml hv
  obtain ⟨rfl, hP, hK⟩ := hv
  have hx := B.exec
  have hb := B.bytes
  have hr := B.returns
  have hts := atoms_spec (ws := uX11_agreedAt) B.pre
  have hown : s.vm.findClass RX11 = some m.cls := findClass_of_methodNamed B.named
  have hlocks := B.notSynchronized
  have hS : va_S (mA ad) s.heap s.heap [] := va_S.rf
  have k0 := hts (.fieldLink RX11 57 "TwoEyesModel" "leftDepth" "[I") (List.mem_cons_of_mem _ (inA_7 _ (List.mem_of_getElem? (i := 9) rfl)))
  have inX11 : ∀ w ∈ wsX110, w ∈ uX11_agreedAt := fun w h => List.mem_cons_of_mem _ (inCX11 w h)
  have k2 := hts (.fieldLink RX11 7 "TwoEyesModel" "width" "I") (List.mem_cons_of_mem _ (inA_6 _ (List.mem_of_getElem? (i := 18) rfl)))
  have k3 := hts (.fieldLink RX11 60 "TwoEyesModel" "rightDepth" "[I") (List.mem_cons_of_mem _ (inA_7 _ (List.mem_of_getElem? (i := 10) rfl)))
  have hl := lv_entry ([.ref (ad 0), .int a1, .int a2]) (n := 4) (Nat.le_of_ble_eq_true rfl)
  rw [lg_entry_eq]
  generalize (lg_sl ([.ref (ad 0), .int a1, .int a2]) ++ List.replicate (4 - (lg_sl ([.ref (ad 0), .int a1, .int a2])).length) Slot.unset).toArray = ls at hl ⊢
  have hl : lv_has ls 4 [(0, .ref (ad 0)), (1, .int a1), (2, .int a2)] := hl
  refine lv_aload_n hx hb dX11_agreedAt_0 rfl (lv_at hl 0 rfl) ?_
  refine va_get (D := D) (ci := 11) (v := .ref (ad 14)) (C := RX11) (T := TX11) (N := 26) hx hb hts inX11 hown hK hP 0 (mW_0 cI cZ ad M) rfl 19 (by decide) k0 (fun _ h9 => h9) rfl dX11_agreedAt_1 ?_
  refine lv_aload_n hx hb dX11_agreedAt_4 rfl (lv_at hl 0 rfl) ?_
  refine va_get (D := D) (ci := 11) (v := .int (M 0 0)) (C := RX11) (T := TX11) (N := 26) hx hb hts inX11 hown hK hP 0 (mW_0 cI cZ ad M) rfl 0 (by decide) k2 (fun _ h9 => h9) rfl dX11_agreedAt_5 ?_
  refine lv_iload_n hx hb dX11_agreedAt_8 rfl (lv_at hl 2 rfl) ?_
  refine lv_imul hx hb dX11_agreedAt_9 ?_
  refine lv_iload_n hx hb dX11_agreedAt_10 rfl (lv_at hl 1 rfl) ?_
  refine lv_iadd hx hb dX11_agreedAt_11 ?_
  obtain ⟨hi12, h⟩ := h
  refine va_iald hx hb hK hP 14 0 (mW_14 cI cZ ad M) rfl hi12 dX11_agreedAt_12 ?_
  refine lv_topi (fun x3_13 ex3_13 => ?_)
  have h := h x3_13 ex3_13
  refine lv_istore_n (lv' := [(3, .int x3_13), (0, .ref (ad 0)), (1, .int a1), (2, .int a2)]) hx hb dX11_agreedAt_13 rfl hl (by decide) rfl (fun ls hl => ?_)
  refine lv_aload_n hx hb dX11_agreedAt_14 rfl (lv_at hl 1 rfl) ?_
  refine lv_iconst (v := 0) hx hb dX11_agreedAt_15 (by decide) ?_
  refine lv_iload_n hx hb dX11_agreedAt_16 rfl (lv_at hl 2 rfl) ?_
  refine lv_iload_n hx hb dX11_agreedAt_17 rfl (lv_at hl 3 rfl) ?_
  refine m_callVi (As := [.int 0, .int a1, .int a2]) (rest := []) ⟨hx, hb, hml, hown, hts⟩ (kX11_isLost l D cI cZ ad hD M 0 a1 a2 _ h) (cwV 3 hts (gdV uS (inA_13 _ (List.mem_of_getElem? (i := 15) rfl)) vX11_isLost) rfl rfl rfl (by decide +kernel) ⟨Nat.le_of_ble_eq_true rfl, Nat.le_of_ble_eq_true rfl⟩) (va_recv hK hP (ci := 11) (q0 := 0) rfl (mW_0 cI cZ ad M)) hP hK hS hl.1 rfl rfl (Nat.le_of_ble_eq_true rfl) dX11_agreedAt_18 (fun r18 M18 H locs h hP hS => ?_)
  refine lv_if_eq (tgt := 27) hx hb dX11_agreedAt_21 (by decide) (fun q21 => ?_) (fun q21 => ?_)
  · have h := h.1 q21
    refine lv_iload_n hx hb dX11_agreedAt_27 rfl (lv_at hl 2 rfl) ?_
    refine lv_iload_n hx hb dX11_agreedAt_28 rfl (lv_at hl 0 rfl) ?_
    refine lv_icmp_ge (tgt := 35) hx hb dX11_agreedAt_29 (by decide) (fun q29 => ?_) (fun q29 => ?_)
    · have h := h.1 q29
      refine lv_aload_n hx hb dX11_agreedAt_35 rfl (lv_at hl 1 rfl) ?_
      refine lv_iconst (v := 1) hx hb dX11_agreedAt_36 (by decide) ?_
      refine lv_iload_n hx hb dX11_agreedAt_37 rfl (lv_at hl 2 rfl) ?_
      refine lv_iload_n hx hb dX11_agreedAt_38 rfl (lv_at hl 0 rfl) ?_
      refine lv_isub hx hb dX11_agreedAt_39 ?_
      refine lv_iload_n hx hb dX11_agreedAt_40 rfl (lv_at hl 3 rfl) ?_
      refine m_callVi (As := [.int 1, .int (a1 - x3_13), .int a2]) (rest := []) ⟨hx, hb, hml, hown, hts⟩ (kX11_isLost l D cI cZ ad hD M18 1 (a1 - x3_13) a2 _ h) (cwV 3 hts (gdV uS (inA_13 _ (List.mem_of_getElem? (i := 15) rfl)) vX11_isLost) rfl rfl rfl (by decide +kernel) ⟨Nat.le_of_ble_eq_true rfl, Nat.le_of_ble_eq_true rfl⟩) (va_recv hK hP (ci := 11) (q0 := 0) rfl (mW_0 cI cZ ad M18)) hP hK hS hl.1 rfl rfl (Nat.le_of_ble_eq_true rfl) dX11_agreedAt_41 (fun r41 M41 H locs h hP hS => ?_)
      refine lv_if_eq (tgt := 50) hx hb dX11_agreedAt_44 (by decide) (fun q44 => ?_) (fun q44 => ?_)
      · have h := h.1 q44
        refine lv_aload_n hx hb dX11_agreedAt_50 rfl (lv_at hl 1 rfl) ?_
        refine va_get (D := D) (ci := 11) (v := .ref (ad 15)) (C := RX11) (T := TX11) (N := 26) hx hb hts inX11 hown hK hP 0 (mW_0 cI cZ ad M41) rfl 20 (by decide) k3 (fun _ h9 => h9) rfl dX11_agreedAt_51 ?_
        refine lv_aload_n hx hb dX11_agreedAt_54 rfl (lv_at hl 1 rfl) ?_
        refine va_get (D := D) (ci := 11) (v := .int (M41 0 0)) (C := RX11) (T := TX11) (N := 26) hx hb hts inX11 hown hK hP 0 (mW_0 cI cZ ad M41) rfl 0 (by decide) k2 (fun _ h9 => h9) rfl dX11_agreedAt_55 ?_
        refine lv_iload_n hx hb dX11_agreedAt_58 rfl (lv_at hl 3 rfl) ?_
        refine lv_imul hx hb dX11_agreedAt_59 ?_
        refine lv_iload_n hx hb dX11_agreedAt_60 rfl (lv_at hl 2 rfl) ?_
        refine lv_iadd hx hb dX11_agreedAt_61 ?_
        refine lv_iload_n hx hb dX11_agreedAt_62 rfl (lv_at hl 0 rfl) ?_
        refine lv_isub hx hb dX11_agreedAt_63 ?_
        obtain ⟨hi64, h⟩ := h
        refine va_iald hx hb hK hP 15 0 (mW_15 cI cZ ad M41) rfl hi64 dX11_agreedAt_64 ?_
        refine lv_iload_n hx hb dX11_agreedAt_65 rfl (lv_at hl 0 rfl) ?_
        refine lv_icmp_ne (tgt := 73) hx hb dX11_agreedAt_66 (by decide) (fun q66 => ?_) (fun q66 => ?_)
        · have h := h.1 q66
          refine lv_bipush (v := (-14)) hx hb dX11_agreedAt_73 (by decide) ?_
          exact W.iret (v := (-14)) hx hb hr (fun t ht hW => ⟨⟨(-14), M41, rfl, h, mAt_of ht hP⟩, hS.F ht⟩) hS.2.2 dX11_agreedAt_75
        · have h := h.2 q66
          refine lv_iload_n hx hb dX11_agreedAt_69 rfl (lv_at hl 0 rfl) ?_
          refine lv_goto (tgt := 75) hx hb dX11_agreedAt_70 (by decide) ?_
          exact W.iret (v := x3_13) hx hb hr (fun t ht hW => ⟨⟨x3_13, M41, rfl, h, mAt_of ht hP⟩, hS.F ht⟩) hS.2.2 dX11_agreedAt_75
      · have h := h.2 q44
        refine lv_bipush (v := (-13)) hx hb dX11_agreedAt_47 (by decide) ?_
        exact W.iret (v := (-13)) hx hb hr (fun t ht hW => ⟨⟨(-13), M41, rfl, h, mAt_of ht hP⟩, hS.F ht⟩) hS.2.2 dX11_agreedAt_49
    · have h := h.2 q29
      refine lv_bipush (v := (-12)) hx hb dX11_agreedAt_32 (by decide) ?_
      exact W.iret (v := (-12)) hx hb hr (fun t ht hW => ⟨⟨(-12), M18, rfl, h, mAt_of ht hP⟩, hS.F ht⟩) hS.2.2 dX11_agreedAt_34
  · have h := h.2 q21
    refine lv_bipush (v := (-11)) hx hb dX11_agreedAt_24 (by decide) ?_
    exact W.iret (v := (-11)) hx hb hr (fun t ht hW => ⟨⟨(-11), M18, rfl, h, mAt_of ht hP⟩, hS.F ht⟩) hS.2.2 dX11_agreedAt_26
abbrev GX11_toldMany (p : Program) (l : Launch) (e : Env) (s : State) (m : MethodId) (below : List Frame) (meth : Method) (c : Code) (D : va_G) (cI cZ : ClassId) (ad : Nat → Nat) (Q : Int32 → Mem → Prop) (H : Heap) (locs : List Loc) (g : JFrame) : Prop := W p l e (headSpec uX11_toldMany { frames := 3, cells := 0, slots := 0, locals := 69 }).room s m ([.ref (ad 0)] : List Value).toArray below meth c H locs 0 0 (MQ below (va_Qi Q (mAt D cI cZ ad) (mA ad)) ([.ref (ad 0)] : List Value).toArray s 0 0 (mA ad)) g
set_option maxHeartbeats 4000000 in
set_option maxRecDepth 100000 in
theorem kX11_toldMany (l : Launch) (D : va_G) (cI cZ : ClassId) (ad : Nat → Nat) (hD : ∀ M : Mem, va_D (mA ad) (mW cI cZ ad M)) (M : Mem) (Q : Int32 → Mem → Prop) (h : wX11_toldMany M Q) : Met l yX11_toldMany uX11_toldMany ({ frames := 3, cells := 0, slots := 0, locals := 69 }) (va_Pc [.ref (ad 0)] (mPre D cI cZ ad M)) (va_Qi Q (mAt D cI cZ ad) (mA ad)) 0 0 (mA ad) := by
  refine Met.ofW (cc := cX11_toldMany) (maxL := 3) (ret := (some .int)) (by decide) rfl ?_
  intro p e s m args below meth c s₁ B hml hv
  obtain ⟨rfl, hP, hK⟩ := hv
  have hx := B.exec
  have hb := B.bytes
  have hr := B.returns
  have hts := atoms_spec (ws := uX11_toldMany) B.pre
  have hown : s.vm.findClass RX11 = some m.cls := findClass_of_methodNamed B.named
  have hlocks := B.notSynchronized
  have hS : va_S (mA ad) s.heap s.heap [] := va_S.rf
  have k0 := hts (.fieldLink RX11 7 "TwoEyesModel" "width" "I") (List.mem_cons_of_mem _ (inA_6 _ (List.mem_of_getElem? (i := 18) rfl)))
  have inX11 : ∀ w ∈ wsX110, w ∈ uX11_toldMany := fun w h => List.mem_cons_of_mem _ (inCX11 w h)
  have k2 := hts (.fieldLink RX11 13 "TwoEyesModel" "height" "I") (List.mem_cons_of_mem _ (inA_6 _ (List.mem_of_getElem? (i := 19) rfl)))
  have L4 : ∀ (K50 : Int32 → Mem → Prop), (∀ (x1 : Int32) (M : Mem) (H : Heap) (locs : List Loc) (ls : Array Slot), lv_has ls 3 [(1, .int x1)] → va_P D vwCl (mW cI cZ ad M) H → va_S (mA ad) s.heap H locs → K50 x1 M → GX11_toldMany p l e s m below meth c D cI cZ ad Q H locs (F0 m 50 ls [])) → ∀ n : Nat, ∀ (x1 x2 : Int32) (M : Mem) (H : Heap) (locs : List Loc) (ls : Array Slot), lv_has ls 3 [(0, .ref (ad 0)), (1, .int x1), (2, .int x2)] → va_P D vwCl (mW cI cZ ad M) H → va_S (mA ad) s.heap H locs → wX11_toldMany_L4 K50 Q n x1 x2 M → GX11_toldMany p l e s m below meth c D cI cZ ad Q H locs (F0 m 4 ls []) := by
    intro K50 hK50 n
    induction n with
    | zero => intro x1 x2 M H locs ls hl hP hS h; exact (show False from h).elim
    | succ n hB =>
      intro x1 x2 M H locs ls hl hP hS h
      rw [wX11_toldMany_L4_s] at h
      refine lv_iload_n hx hb dX11_toldMany_4 rfl (lv_at hl 2 rfl) ?_
      refine lv_aload_n hx hb dX11_toldMany_5 rfl (lv_at hl 0 rfl) ?_
      refine va_get (D := D) (ci := 11) (v := .int (M 0 0)) (C := RX11) (T := TX11) (N := 26) hx hb hts inX11 hown hK hP 0 (mW_0 cI cZ ad M) rfl 0 (by decide) k0 (fun _ h9 => h9) rfl dX11_toldMany_6 ?_
      refine lv_aload_n hx hb dX11_toldMany_9 rfl (lv_at hl 0 rfl) ?_
      refine va_get (D := D) (ci := 11) (v := .int (M 0 1)) (C := RX11) (T := TX11) (N := 26) hx hb hts inX11 hown hK hP 0 (mW_0 cI cZ ad M) rfl 1 (by decide) k2 (fun _ h9 => h9) rfl dX11_toldMany_10 ?_
      refine lv_imul hx hb dX11_toldMany_13 ?_
      refine lv_icmp_ge (tgt := 50) hx hb dX11_toldMany_14 (by decide) (fun q14 => ?_) (fun q14 => ?_)
      · have h := h.1 q14
        exact hK50 x1 M _ _ _ (lv_sub hl [1] rfl) hP hS h
      · have h := h.2 q14
        refine lv_iload_n hx hb dX11_toldMany_17 rfl (lv_at hl 1 rfl) ?_
        refine lv_aload_n hx hb dX11_toldMany_18 rfl (lv_at hl 0 rfl) ?_
        refine lv_iload_n hx hb dX11_toldMany_19 rfl (lv_at hl 2 rfl) ?_
        refine lv_aload_n hx hb dX11_toldMany_20 rfl (lv_at hl 0 rfl) ?_
        refine va_get (D := D) (ci := 11) (v := .int (M 0 0)) (C := RX11) (T := TX11) (N := 26) hx hb hts inX11 hown hK hP 0 (mW_0 cI cZ ad M) rfl 0 (by decide) k0 (fun _ h9 => h9) rfl dX11_toldMany_21 ?_
        obtain ⟨hn24, h⟩ := h
        refine lv_irem hx hb dX11_toldMany_24 hn24 ?_
        refine lv_topi (fun v24 ev24 => ?_)
        have h := h v24 ev24
        refine lv_iload_n hx hb dX11_toldMany_25 rfl (lv_at hl 2 rfl) ?_
        refine lv_aload_n hx hb dX11_toldMany_26 rfl (lv_at hl 0 rfl) ?_
        refine va_get (D := D) (ci := 11) (v := .int (M 0 0)) (C := RX11) (T := TX11) (N := 26) hx hb hts inX11 hown hK hP 0 (mW_0 cI cZ ad M) rfl 0 (by decide) k0 (fun _ h9 => h9) rfl dX11_toldMany_27 ?_
        obtain ⟨hn30, h⟩ := h
        refine lv_idiv hx hb dX11_toldMany_30 hn30 ?_
        refine m_callVi (As := [.int v24, .int (x2 / (M 0 0))]) (rest := [.int x1]) ⟨hx, hb, hml, hown, hts⟩ (kX11_agreedAt l D cI cZ ad hD M v24 (x2 / (M 0 0)) _ h) (cwV 2 hts (gdV uS (inA_23 _ (List.mem_of_getElem? (i := 11) rfl)) vX11_agreedAt) rfl rfl rfl (by decide +kernel) ⟨Nat.le_of_ble_eq_true rfl, Nat.le_of_ble_eq_true rfl⟩) (va_recv hK hP (ci := 11) (q0 := 0) rfl (mW_0 cI cZ ad M)) hP hK hS hl.1 rfl rfl (Nat.le_of_ble_eq_true rfl) dX11_toldMany_31 (fun r31 M31 H locs h hP hS => ?_)
        refine lv_if_lt (tgt := 41) hx hb dX11_toldMany_34 (by decide) (fun q34 => ?_) (fun q34 => ?_)
        · have h := h.1 q34
          refine lv_iconst (v := 0) hx hb dX11_toldMany_41 (by decide) ?_
          refine lv_iadd hx hb dX11_toldMany_42 ?_
          refine lv_topi (fun x1_43 ex1_43 => ?_)
          have h := h x1_43 ex1_43
          refine lv_istore_n (lv' := [(1, .int x1_43), (0, .ref (ad 0)), (2, .int x2)]) hx hb dX11_toldMany_43 rfl hl (by decide) rfl (fun ls hl => ?_)
          obtain ⟨x2_44, ex2_44⟩ : ∃ y : Int32, y = x2 + 1 := ⟨_, rfl⟩
          have h := h x2_44 ex2_44
          refine lv_iinc (v := x2_44) (lv' := [(2, .int x2_44), (1, .int x1_43), (0, .ref (ad 0))]) hx hb dX11_toldMany_44 hl (k := 2) rfl (by rw [ex2_44]; rfl) (by decide) rfl (fun ls hl => ?_)
          refine lv_goto (tgt := 4) hx hb dX11_toldMany_47 (by decide) ?_
          exact hB x1_43 x2_44 M31 _ _ _ (lv_sub hl [2, 1, 0] rfl) hP hS h
        · have h := h.2 q34
          refine lv_iconst (v := 1) hx hb dX11_toldMany_37 (by decide) ?_
          refine lv_goto (tgt := 42) hx hb dX11_toldMany_38 (by decide) ?_
          refine lv_iadd hx hb dX11_toldMany_42 ?_
          refine lv_topi (fun x1_43 ex1_43 => ?_)
          have h := h x1_43 ex1_43
          refine lv_istore_n (lv' := [(1, .int x1_43), (0, .ref (ad 0)), (2, .int x2)]) hx hb dX11_toldMany_43 rfl hl (by decide) rfl (fun ls hl => ?_)
          obtain ⟨x2_44, ex2_44⟩ : ∃ y : Int32, y = x2 + 1 := ⟨_, rfl⟩
          have h := h x2_44 ex2_44
          refine lv_iinc (v := x2_44) (lv' := [(2, .int x2_44), (1, .int x1_43), (0, .ref (ad 0))]) hx hb dX11_toldMany_44 hl (k := 2) rfl (by rw [ex2_44]; rfl) (by decide) rfl (fun ls hl => ?_)
          refine lv_goto (tgt := 4) hx hb dX11_toldMany_47 (by decide) ?_
          exact hB x1_43 x2_44 M31 _ _ _ (lv_sub hl [2, 1, 0] rfl) hP hS h
  have hl := lv_entry ([.ref (ad 0)]) (n := 3) (Nat.le_of_ble_eq_true rfl)
  rw [lg_entry_eq]
  generalize (lg_sl ([.ref (ad 0)]) ++ List.replicate (3 - (lg_sl ([.ref (ad 0)])).length) Slot.unset).toArray = ls at hl ⊢
  have hl : lv_has ls 3 [(0, .ref (ad 0))] := hl
  refine lv_iconst (v := 0) hx hb dX11_toldMany_0 (by decide) ?_
  refine lv_istore_n (lv' := [(1, .int 0), (0, .ref (ad 0))]) hx hb dX11_toldMany_1 rfl hl (by decide) rfl (fun ls hl => ?_)
  refine lv_iconst (v := 0) hx hb dX11_toldMany_2 (by decide) ?_
  refine lv_istore_n (lv' := [(2, .int 0), (1, .int 0), (0, .ref (ad 0))]) hx hb dX11_toldMany_3 rfl hl (by decide) rfl (fun ls hl => ?_)
  obtain ⟨n, h⟩ := h
  refine L4 _ (fun x1 M H locs ls hl hP hS h => ?_) n 0 0 M _ _ _ (lv_sub hl [2, 1, 0] rfl) hP hS h
  refine lv_iload_n hx hb dX11_toldMany_50 rfl (lv_at hl 0 rfl) ?_
  exact W.iret (v := x1) hx hb hr (fun t ht hW => ⟨⟨x1, M, rfl, h, mAt_of ht hP⟩, hS.F ht⟩) hS.2.2 dX11_toldMany_51
abbrev GX11_anchors (p : Program) (l : Launch) (e : Env) (s : State) (m : MethodId) (below : List Frame) (meth : Method) (c : Code) (D : va_G) (cI cZ : ClassId) (ad : Nat → Nat) (Q : Int32 → Mem → Prop) (H : Heap) (locs : List Loc) (g : JFrame) : Prop := W p l e (headSpec uX11_anchors { frames := 0, cells := 0, slots := 0, locals := 0 }).room s m ([.ref (ad 0)] : List Value).toArray below meth c H locs 0 0 (MQ below (va_Qi Q (mAt D cI cZ ad) (mA ad)) ([.ref (ad 0)] : List Value).toArray s 0 0 (mA ad)) g
set_option maxHeartbeats 4000000 in
set_option maxRecDepth 100000 in
theorem kX11_anchors (l : Launch) (D : va_G) (cI cZ : ClassId) (ad : Nat → Nat) (hD : ∀ M : Mem, va_D (mA ad) (mW cI cZ ad M)) (M : Mem) (Q : Int32 → Mem → Prop) (h : wX11_anchors M Q) : Met l yX11_anchors uX11_anchors ({ frames := 0, cells := 0, slots := 0, locals := 0 }) (va_Pc [.ref (ad 0)] (mPre D cI cZ ad M)) (va_Qi Q (mAt D cI cZ ad) (mA ad)) 0 0 (mA ad) := by
  refine Met.ofW (cc := cX11_anchors) (maxL := 3) (ret := (some .int)) (by decide) rfl ?_
  intro p e s m args below meth c s₁ B hml hv
  obtain ⟨rfl, hP, hK⟩ := hv
  have hx := B.exec
  have hb := B.bytes
  have hr := B.returns
  have hts := atoms_spec (ws := uX11_anchors) B.pre
  have hown : s.vm.findClass RX11 = some m.cls := findClass_of_methodNamed B.named
  have hlocks := B.notSynchronized
  have hS : va_S (mA ad) s.heap s.heap [] := va_S.rf
  have k0 := hts (.fieldLink RX11 7 "TwoEyesModel" "width" "I") (List.mem_cons_of_mem _ (inA_6 _ (List.mem_of_getElem? (i := 18) rfl)))
  have inX11 : ∀ w ∈ wsX110, w ∈ uX11_anchors := fun w h => List.mem_cons_of_mem _ (inCX11 w h)
  have k2 := hts (.fieldLink RX11 13 "TwoEyesModel" "height" "I") (List.mem_cons_of_mem _ (inA_6 _ (List.mem_of_getElem? (i := 19) rfl)))
  have k3 := hts (.fieldLink RX11 63 "TwoEyesModel" "anchorOf" "[I") (List.mem_cons_of_mem _ (inA_7 _ (List.mem_of_getElem? (i := 11) rfl)))
  have L4 : ∀ (K41 : Int32 → Mem → Prop), (∀ (x1 : Int32) (M : Mem) (H : Heap) (locs : List Loc) (ls : Array Slot), lv_has ls 3 [(1, .int x1)] → va_P D vwCl (mW cI cZ ad M) H → va_S (mA ad) s.heap H locs → K41 x1 M → GX11_anchors p l e s m below meth c D cI cZ ad Q H locs (F0 m 41 ls [])) → ∀ n : Nat, ∀ (x1 x2 : Int32) (M : Mem) (H : Heap) (locs : List Loc) (ls : Array Slot), lv_has ls 3 [(0, .ref (ad 0)), (1, .int x1), (2, .int x2)] → va_P D vwCl (mW cI cZ ad M) H → va_S (mA ad) s.heap H locs → wX11_anchors_L4 K41 Q n x1 x2 M → GX11_anchors p l e s m below meth c D cI cZ ad Q H locs (F0 m 4 ls []) := by
    intro K41 hK41 n
    induction n with
    | zero => intro x1 x2 M H locs ls hl hP hS h; exact (show False from h).elim
    | succ n hB =>
      intro x1 x2 M H locs ls hl hP hS h
      rw [wX11_anchors_L4_s] at h
      refine lv_iload_n hx hb dX11_anchors_4 rfl (lv_at hl 2 rfl) ?_
      refine lv_aload_n hx hb dX11_anchors_5 rfl (lv_at hl 0 rfl) ?_
      refine va_get (D := D) (ci := 11) (v := .int (M 0 0)) (C := RX11) (T := TX11) (N := 26) hx hb hts inX11 hown hK hP 0 (mW_0 cI cZ ad M) rfl 0 (by decide) k0 (fun _ h9 => h9) rfl dX11_anchors_6 ?_
      refine lv_aload_n hx hb dX11_anchors_9 rfl (lv_at hl 0 rfl) ?_
      refine va_get (D := D) (ci := 11) (v := .int (M 0 1)) (C := RX11) (T := TX11) (N := 26) hx hb hts inX11 hown hK hP 0 (mW_0 cI cZ ad M) rfl 1 (by decide) k2 (fun _ h9 => h9) rfl dX11_anchors_10 ?_
      refine lv_imul hx hb dX11_anchors_13 ?_
      refine lv_icmp_ge (tgt := 41) hx hb dX11_anchors_14 (by decide) (fun q14 => ?_) (fun q14 => ?_)
      · have h := h.1 q14
        exact hK41 x1 M _ _ _ (lv_sub hl [1] rfl) hP hS h
      · have h := h.2 q14
        refine lv_iload_n hx hb dX11_anchors_17 rfl (lv_at hl 1 rfl) ?_
        refine lv_aload_n hx hb dX11_anchors_18 rfl (lv_at hl 0 rfl) ?_
        refine va_get (D := D) (ci := 11) (v := .ref (ad 16)) (C := RX11) (T := TX11) (N := 26) hx hb hts inX11 hown hK hP 0 (mW_0 cI cZ ad M) rfl 21 (by decide) k3 (fun _ h9 => h9) rfl dX11_anchors_19 ?_
        refine lv_iload_n hx hb dX11_anchors_22 rfl (lv_at hl 2 rfl) ?_
        obtain ⟨hi23, h⟩ := h
        refine va_iald hx hb hK hP 16 0 (mW_16 cI cZ ad M) rfl hi23 dX11_anchors_23 ?_
        refine lv_iload_n hx hb dX11_anchors_24 rfl (lv_at hl 2 rfl) ?_
        refine lv_icmp_ne (tgt := 32) hx hb dX11_anchors_25 (by decide) (fun q25 => ?_) (fun q25 => ?_)
        · have h := h.1 q25
          refine lv_iconst (v := 0) hx hb dX11_anchors_32 (by decide) ?_
          refine lv_iadd hx hb dX11_anchors_33 ?_
          refine lv_topi (fun x1_34 ex1_34 => ?_)
          have h := h x1_34 ex1_34
          refine lv_istore_n (lv' := [(1, .int x1_34), (0, .ref (ad 0)), (2, .int x2)]) hx hb dX11_anchors_34 rfl hl (by decide) rfl (fun ls hl => ?_)
          obtain ⟨x2_35, ex2_35⟩ : ∃ y : Int32, y = x2 + 1 := ⟨_, rfl⟩
          have h := h x2_35 ex2_35
          refine lv_iinc (v := x2_35) (lv' := [(2, .int x2_35), (1, .int x1_34), (0, .ref (ad 0))]) hx hb dX11_anchors_35 hl (k := 2) rfl (by rw [ex2_35]; rfl) (by decide) rfl (fun ls hl => ?_)
          refine lv_goto (tgt := 4) hx hb dX11_anchors_38 (by decide) ?_
          exact hB x1_34 x2_35 M _ _ _ (lv_sub hl [2, 1, 0] rfl) hP hS h
        · have h := h.2 q25
          refine lv_iconst (v := 1) hx hb dX11_anchors_28 (by decide) ?_
          refine lv_goto (tgt := 33) hx hb dX11_anchors_29 (by decide) ?_
          refine lv_iadd hx hb dX11_anchors_33 ?_
          refine lv_topi (fun x1_34 ex1_34 => ?_)
          have h := h x1_34 ex1_34
          refine lv_istore_n (lv' := [(1, .int x1_34), (0, .ref (ad 0)), (2, .int x2)]) hx hb dX11_anchors_34 rfl hl (by decide) rfl (fun ls hl => ?_)
          obtain ⟨x2_35, ex2_35⟩ : ∃ y : Int32, y = x2 + 1 := ⟨_, rfl⟩
          have h := h x2_35 ex2_35
          refine lv_iinc (v := x2_35) (lv' := [(2, .int x2_35), (1, .int x1_34), (0, .ref (ad 0))]) hx hb dX11_anchors_35 hl (k := 2) rfl (by rw [ex2_35]; rfl) (by decide) rfl (fun ls hl => ?_)
          refine lv_goto (tgt := 4) hx hb dX11_anchors_38 (by decide) ?_
          exact hB x1_34 x2_35 M _ _ _ (lv_sub hl [2, 1, 0] rfl) hP hS h
  have hl := lv_entry ([.ref (ad 0)]) (n := 3) (Nat.le_of_ble_eq_true rfl)
  rw [lg_entry_eq]
  generalize (lg_sl ([.ref (ad 0)]) ++ List.replicate (3 - (lg_sl ([.ref (ad 0)])).length) Slot.unset).toArray = ls at hl ⊢
  have hl : lv_has ls 3 [(0, .ref (ad 0))] := hl
  refine lv_iconst (v := 0) hx hb dX11_anchors_0 (by decide) ?_
  refine lv_istore_n (lv' := [(1, .int 0), (0, .ref (ad 0))]) hx hb dX11_anchors_1 rfl hl (by decide) rfl (fun ls hl => ?_)
  refine lv_iconst (v := 0) hx hb dX11_anchors_2 (by decide) ?_
  refine lv_istore_n (lv' := [(2, .int 0), (1, .int 0), (0, .ref (ad 0))]) hx hb dX11_anchors_3 rfl hl (by decide) rfl (fun ls hl => ?_)
  obtain ⟨n, h⟩ := h
  refine L4 _ (fun x1 M H locs ls hl hP hS h => ?_) n 0 0 M _ _ _ (lv_sub hl [2, 1, 0] rfl) hP hS h
  refine lv_iload_n hx hb dX11_anchors_41 rfl (lv_at hl 0 rfl) ?_
  exact W.iret (v := x1) hx hb hr (fun t ht hW => ⟨⟨x1, M, rfl, h, mAt_of ht hP⟩, hS.F ht⟩) hS.2.2 dX11_anchors_42
set_option maxHeartbeats 4000000 in
set_option maxRecDepth 100000 in
theorem kX11_isCube (l : Launch) (D : va_G) (cI cZ : ClassId) (ad : Nat → Nat) (hD : ∀ M : Mem, va_D (mA ad) (mW cI cZ ad M)) (M : Mem) (a1 a2 a3 : Int32) (Q : Int32 → Mem → Prop) (h : wX11_isCube M a1 a2 a3 Q) : Met l yX11_isCube uX11_isCube ({ frames := 0, cells := 0, slots := 0, locals := 0 }) (va_Pc [.ref (ad 0), .int a1, .int a2, .int a3] (mPre D cI cZ ad M)) (va_Qi Q (mAt D cI cZ ad) (mA ad)) 0 0 (mA ad) := by
  refine Met.ofW (cc := cX11_isCube) (maxL := 4) (ret := (some .boolean)) (by decide) rfl ?_
  intro p e s m args below meth c s₁ B hml hv
  obtain ⟨rfl, hP, hK⟩ := hv
  have hx := B.exec
  have hb := B.bytes
  have hr := B.returns
  have hts := atoms_spec (ws := uX11_isCube) B.pre
  have hown : s.vm.findClass RX11 = some m.cls := findClass_of_methodNamed B.named
  have hlocks := B.notSynchronized
  have hS : va_S (mA ad) s.heap s.heap [] := va_S.rf
  have k0 := hts (.fieldLink RX11 33 "TwoEyesModel" "outlines" "[I") (List.mem_cons_of_mem _ (inA_7 _ (List.mem_of_getElem? (i := 1) rfl)))
  have inX11 : ∀ w ∈ wsX110, w ∈ uX11_isCube := fun w h => List.mem_cons_of_mem _ (inCX11 w h)
  have hl := lv_entry ([.ref (ad 0), .int a1, .int a2, .int a3]) (n := 4) (Nat.le_of_ble_eq_true rfl)
  rw [lg_entry_eq]
  generalize (lg_sl ([.ref (ad 0), .int a1, .int a2, .int a3]) ++ List.replicate (4 - (lg_sl ([.ref (ad 0), .int a1, .int a2, .int a3])).length) Slot.unset).toArray = ls at hl ⊢
  have hl : lv_has ls 4 [(0, .ref (ad 0)), (1, .int a1), (2, .int a2), (3, .int a3)] := hl
  refine lv_aload_n hx hb dX11_isCube_0 rfl (lv_at hl 0 rfl) ?_
  refine va_get (D := D) (ci := 11) (v := .ref (ad 6)) (C := RX11) (T := TX11) (N := 26) hx hb hts inX11 hown hK hP 0 (mW_0 cI cZ ad M) rfl 7 (by decide) k0 (fun _ h9 => h9) rfl dX11_isCube_1 ?_
  refine lv_iload_n hx hb dX11_isCube_4 rfl (lv_at hl 3 rfl) ?_
  obtain ⟨hi5, h⟩ := h
  refine va_iald hx hb hK hP 6 0 (mW_6 cI cZ ad M) rfl hi5 dX11_isCube_5 ?_
  refine lv_iload_n hx hb dX11_isCube_6 rfl (lv_at hl 2 rfl) ?_
  refine lv_ishr hx hb dX11_isCube_7 ?_
  refine lv_iconst (v := 1) hx hb dX11_isCube_8 (by decide) ?_
  refine lv_iand hx hb dX11_isCube_9 ?_
  refine lv_iconst (v := 1) hx hb dX11_isCube_10 (by decide) ?_
  refine lv_icmp_ne (tgt := 52) hx hb dX11_isCube_11 (by decide) (fun q11 => ?_) (fun q11 => ?_)
  · have h := h.1 q11
    refine lv_iconst (v := 0) hx hb dX11_isCube_52 (by decide) ?_
    exact W.zret (v := 0) hx hb hr rfl (fun t ht hW => ⟨⟨0, M, rfl, h, mAt_of ht hP⟩, hS.F ht⟩) hS.2.2 dX11_isCube_53
  · have h := h.2 q11
    refine lv_aload_n hx hb dX11_isCube_14 rfl (lv_at hl 0 rfl) ?_
    refine va_get (D := D) (ci := 11) (v := .ref (ad 6)) (C := RX11) (T := TX11) (N := 26) hx hb hts inX11 hown hK hP 0 (mW_0 cI cZ ad M) rfl 7 (by decide) k0 (fun _ h9 => h9) rfl dX11_isCube_15 ?_
    refine lv_bipush (v := 8) hx hb dX11_isCube_18 (by decide) ?_
    refine lv_iload_n hx hb dX11_isCube_20 rfl (lv_at hl 3 rfl) ?_
    refine lv_iadd hx hb dX11_isCube_21 ?_
    obtain ⟨hi22, h⟩ := h
    refine va_iald hx hb hK hP 6 0 (mW_6 cI cZ ad M) rfl hi22 dX11_isCube_22 ?_
    refine lv_iload_n hx hb dX11_isCube_23 rfl (lv_at hl 1 rfl) ?_
    refine lv_ishr hx hb dX11_isCube_24 ?_
    refine lv_iconst (v := 1) hx hb dX11_isCube_25 (by decide) ?_
    refine lv_iand hx hb dX11_isCube_26 ?_
    refine lv_iconst (v := 1) hx hb dX11_isCube_27 (by decide) ?_
    refine lv_icmp_ne (tgt := 52) hx hb dX11_isCube_28 (by decide) (fun q28 => ?_) (fun q28 => ?_)
    · have h := h.1 q28
      refine lv_iconst (v := 0) hx hb dX11_isCube_52 (by decide) ?_
      exact W.zret (v := 0) hx hb hr rfl (fun t ht hW => ⟨⟨0, M, rfl, h, mAt_of ht hP⟩, hS.F ht⟩) hS.2.2 dX11_isCube_53
    · have h := h.2 q28
      refine lv_aload_n hx hb dX11_isCube_31 rfl (lv_at hl 0 rfl) ?_
      refine va_get (D := D) (ci := 11) (v := .ref (ad 6)) (C := RX11) (T := TX11) (N := 26) hx hb hts inX11 hown hK hP 0 (mW_0 cI cZ ad M) rfl 7 (by decide) k0 (fun _ h9 => h9) rfl dX11_isCube_32 ?_
      refine lv_bipush (v := 16) hx hb dX11_isCube_35 (by decide) ?_
      refine lv_iload_n hx hb dX11_isCube_37 rfl (lv_at hl 2 rfl) ?_
      refine lv_iadd hx hb dX11_isCube_38 ?_
      obtain ⟨hi39, h⟩ := h
      refine va_iald hx hb hK hP 6 0 (mW_6 cI cZ ad M) rfl hi39 dX11_isCube_39 ?_
      refine lv_iload_n hx hb dX11_isCube_40 rfl (lv_at hl 1 rfl) ?_
      refine lv_ishr hx hb dX11_isCube_41 ?_
      refine lv_iconst (v := 1) hx hb dX11_isCube_42 (by decide) ?_
      refine lv_iand hx hb dX11_isCube_43 ?_
      refine lv_iconst (v := 1) hx hb dX11_isCube_44 (by decide) ?_
      refine lv_icmp_ne (tgt := 52) hx hb dX11_isCube_45 (by decide) (fun q45 => ?_) (fun q45 => ?_)
      · have h := h.1 q45
        refine lv_iconst (v := 0) hx hb dX11_isCube_52 (by decide) ?_
        exact W.zret (v := 0) hx hb hr rfl (fun t ht hW => ⟨⟨0, M, rfl, h, mAt_of ht hP⟩, hS.F ht⟩) hS.2.2 dX11_isCube_53
      · have h := h.2 q45
        refine lv_iconst (v := 1) hx hb dX11_isCube_48 (by decide) ?_
        refine lv_goto (tgt := 53) hx hb dX11_isCube_49 (by decide) ?_
        exact W.zret (v := 1) hx hb hr rfl (fun t ht hW => ⟨⟨1, M, rfl, h, mAt_of ht hP⟩, hS.F ht⟩) hS.2.2 dX11_isCube_53
abbrev GX11_cubes (p : Program) (l : Launch) (e : Env) (s : State) (m : MethodId) (below : List Frame) (meth : Method) (c : Code) (D : va_G) (cI cZ : ClassId) (ad : Nat → Nat) (Q : Int32 → Mem → Prop) (H : Heap) (locs : List Loc) (g : JFrame) : Prop := W p l e (headSpec uX11_cubes { frames := 1, cells := 0, slots := 0, locals := 23 }).room s m ([.ref (ad 0)] : List Value).toArray below meth c H locs 0 0 (MQ below (va_Qi Q (mAt D cI cZ ad) (mA ad)) ([.ref (ad 0)] : List Value).toArray s 0 0 (mA ad)) g
set_option maxHeartbeats 4000000 in
set_option maxRecDepth 100000 in
theorem kX11_cubes (l : Launch) (D : va_G) (cI cZ : ClassId) (ad : Nat → Nat) (hD : ∀ M : Mem, va_D (mA ad) (mW cI cZ ad M)) (M : Mem) (Q : Int32 → Mem → Prop) (h : wX11_cubes M Q) : Met l yX11_cubes uX11_cubes ({ frames := 1, cells := 0, slots := 0, locals := 23 }) (va_Pc [.ref (ad 0)] (mPre D cI cZ ad M)) (va_Qi Q (mAt D cI cZ ad) (mA ad)) 0 0 (mA ad) := by
  refine Met.ofW (cc := cX11_cubes) (maxL := 3) (ret := (some .int)) (by decide) rfl ?_
  intro p e s m args below meth c s₁ B hml hv
  obtain ⟨rfl, hP, hK⟩ := hv
  have hx := B.exec
  have hb := B.bytes
  have hr := B.returns
  have hts := atoms_spec (ws := uX11_cubes) B.pre
  have hown : s.vm.findClass RX11 = some m.cls := findClass_of_methodNamed B.named
  have hlocks := B.notSynchronized
  have hS : va_S (mA ad) s.heap s.heap [] := va_S.rf
  have L4 : ∀ (K47 : Int32 → Mem → Prop), (∀ (x1 : Int32) (M : Mem) (H : Heap) (locs : List Loc) (ls : Array Slot), lv_has ls 3 [(1, .int x1)] → va_P D vwCl (mW cI cZ ad M) H → va_S (mA ad) s.heap H locs → K47 x1 M → GX11_cubes p l e s m below meth c D cI cZ ad Q H locs (F0 m 47 ls [])) → ∀ n : Nat, ∀ (x1 x2 : Int32) (M : Mem) (H : Heap) (locs : List Loc) (ls : Array Slot), lv_has ls 3 [(0, .ref (ad 0)), (1, .int x1), (2, .int x2)] → va_P D vwCl (mW cI cZ ad M) H → va_S (mA ad) s.heap H locs → wX11_cubes_L4 K47 Q n x1 x2 M → GX11_cubes p l e s m below meth c D cI cZ ad Q H locs (F0 m 4 ls []) := by
    intro K47 hK47 n
    induction n with
    | zero => intro x1 x2 M H locs ls hl hP hS h; exact (show False from h).elim
    | succ n hB =>
      intro x1 x2 M H locs ls hl hP hS h
      rw [wX11_cubes_L4_s] at h
      refine lv_iload_n hx hb dX11_cubes_4 rfl (lv_at hl 2 rfl) ?_
      refine lv_sipush (v := 512) hx hb dX11_cubes_5 (by decide) ?_
      refine lv_icmp_ge (tgt := 47) hx hb dX11_cubes_8 (by decide) (fun q8 => ?_) (fun q8 => ?_)
      · have h := h.1 q8
        exact hK47 x1 M _ _ _ (lv_sub hl [1] rfl) hP hS h
      · have h := h.2 q8
        refine lv_iload_n hx hb dX11_cubes_11 rfl (lv_at hl 1 rfl) ?_
        refine lv_aload_n hx hb dX11_cubes_12 rfl (lv_at hl 0 rfl) ?_
        refine lv_iload_n hx hb dX11_cubes_13 rfl (lv_at hl 2 rfl) ?_
        refine lv_bipush (v := 64) hx hb dX11_cubes_14 (by decide) ?_
        obtain ⟨hn16, h⟩ := h
        refine lv_idiv hx hb dX11_cubes_16 hn16 ?_
        refine lv_iload_n hx hb dX11_cubes_17 rfl (lv_at hl 2 rfl) ?_
        refine lv_bipush (v := 8) hx hb dX11_cubes_18 (by decide) ?_
        obtain ⟨hn20, h⟩ := h
        refine lv_idiv hx hb dX11_cubes_20 hn20 ?_
        refine lv_bipush (v := 8) hx hb dX11_cubes_21 (by decide) ?_
        obtain ⟨hn23, h⟩ := h
        refine lv_irem hx hb dX11_cubes_23 hn23 ?_
        refine lv_topi (fun v23 ev23 => ?_)
        have h := h v23 ev23
        refine lv_iload_n hx hb dX11_cubes_24 rfl (lv_at hl 2 rfl) ?_
        refine lv_bipush (v := 8) hx hb dX11_cubes_25 (by decide) ?_
        obtain ⟨hn27, h⟩ := h
        refine lv_irem hx hb dX11_cubes_27 hn27 ?_
        refine lv_topi (fun v27 ev27 => ?_)
        have h := h v27 ev27
        refine m_callVi (As := [.int (x2 / 64), .int v23, .int v27]) (rest := [.int x1]) ⟨hx, hb, hml, hown, hts⟩ (kX11_isCube l D cI cZ ad hD M (x2 / 64) v23 v27 _ h) (cwV 3 hts (gdV uS (inA_23 _ (List.mem_of_getElem? (i := 23) rfl)) vX11_isCube) rfl rfl rfl (by decide +kernel) ⟨Nat.le_of_ble_eq_true rfl, Nat.le_of_ble_eq_true rfl⟩) (va_recv hK hP (ci := 11) (q0 := 0) rfl (mW_0 cI cZ ad M)) hP hK hS hl.1 rfl rfl (Nat.le_of_ble_eq_true rfl) dX11_cubes_28 (fun r28 M28 H locs h hP hS => ?_)
        refine lv_if_eq (tgt := 38) hx hb dX11_cubes_31 (by decide) (fun q31 => ?_) (fun q31 => ?_)
        · have h := h.1 q31
          refine lv_iconst (v := 0) hx hb dX11_cubes_38 (by decide) ?_
          refine lv_iadd hx hb dX11_cubes_39 ?_
          refine lv_topi (fun x1_40 ex1_40 => ?_)
          have h := h x1_40 ex1_40
          refine lv_istore_n (lv' := [(1, .int x1_40), (0, .ref (ad 0)), (2, .int x2)]) hx hb dX11_cubes_40 rfl hl (by decide) rfl (fun ls hl => ?_)
          obtain ⟨x2_41, ex2_41⟩ : ∃ y : Int32, y = x2 + 1 := ⟨_, rfl⟩
          have h := h x2_41 ex2_41
          refine lv_iinc (v := x2_41) (lv' := [(2, .int x2_41), (1, .int x1_40), (0, .ref (ad 0))]) hx hb dX11_cubes_41 hl (k := 2) rfl (by rw [ex2_41]; rfl) (by decide) rfl (fun ls hl => ?_)
          refine lv_goto (tgt := 4) hx hb dX11_cubes_44 (by decide) ?_
          exact hB x1_40 x2_41 M28 _ _ _ (lv_sub hl [2, 1, 0] rfl) hP hS h
        · have h := h.2 q31
          refine lv_iconst (v := 1) hx hb dX11_cubes_34 (by decide) ?_
          refine lv_goto (tgt := 39) hx hb dX11_cubes_35 (by decide) ?_
          refine lv_iadd hx hb dX11_cubes_39 ?_
          refine lv_topi (fun x1_40 ex1_40 => ?_)
          have h := h x1_40 ex1_40
          refine lv_istore_n (lv' := [(1, .int x1_40), (0, .ref (ad 0)), (2, .int x2)]) hx hb dX11_cubes_40 rfl hl (by decide) rfl (fun ls hl => ?_)
          obtain ⟨x2_41, ex2_41⟩ : ∃ y : Int32, y = x2 + 1 := ⟨_, rfl⟩
          have h := h x2_41 ex2_41
          refine lv_iinc (v := x2_41) (lv' := [(2, .int x2_41), (1, .int x1_40), (0, .ref (ad 0))]) hx hb dX11_cubes_41 hl (k := 2) rfl (by rw [ex2_41]; rfl) (by decide) rfl (fun ls hl => ?_)
          refine lv_goto (tgt := 4) hx hb dX11_cubes_44 (by decide) ?_
          exact hB x1_40 x2_41 M28 _ _ _ (lv_sub hl [2, 1, 0] rfl) hP hS h
  have hl := lv_entry ([.ref (ad 0)]) (n := 3) (Nat.le_of_ble_eq_true rfl)
  rw [lg_entry_eq]
  generalize (lg_sl ([.ref (ad 0)]) ++ List.replicate (3 - (lg_sl ([.ref (ad 0)])).length) Slot.unset).toArray = ls at hl ⊢
  have hl : lv_has ls 3 [(0, .ref (ad 0))] := hl
  refine lv_iconst (v := 0) hx hb dX11_cubes_0 (by decide) ?_
  refine lv_istore_n (lv' := [(1, .int 0), (0, .ref (ad 0))]) hx hb dX11_cubes_1 rfl hl (by decide) rfl (fun ls hl => ?_)
  refine lv_iconst (v := 0) hx hb dX11_cubes_2 (by decide) ?_
  refine lv_istore_n (lv' := [(2, .int 0), (1, .int 0), (0, .ref (ad 0))]) hx hb dX11_cubes_3 rfl hl (by decide) rfl (fun ls hl => ?_)
  obtain ⟨n, h⟩ := h
  refine L4 _ (fun x1 M H locs ls hl hP hS h => ?_) n 0 0 M _ _ _ (lv_sub hl [2, 1, 0] rfl) hP hS h
  refine lv_iload_n hx hb dX11_cubes_47 rfl (lv_at hl 0 rfl) ?_
  exact W.iret (v := x1) hx hb hr (fun t ht hW => ⟨⟨x1, M, rfl, h, mAt_of ht hP⟩, hS.F ht⟩) hS.2.2 dX11_cubes_48
abbrev GX11_truthMany (p : Program) (l : Launch) (e : Env) (s : State) (m : MethodId) (below : List Frame) (meth : Method) (c : Code) (D : va_G) (cI cZ : ClassId) (ad : Nat → Nat) (Q : Int32 → Mem → Prop) (H : Heap) (locs : List Loc) (g : JFrame) : Prop := W p l e (headSpec uX11_truthMany { frames := 0, cells := 0, slots := 0, locals := 0 }).room s m ([.ref (ad 0)] : List Value).toArray below meth c H locs 0 0 (MQ below (va_Qi Q (mAt D cI cZ ad) (mA ad)) ([.ref (ad 0)] : List Value).toArray s 0 0 (mA ad)) g
set_option maxHeartbeats 4000000 in
set_option maxRecDepth 100000 in
theorem kX11_truthMany (l : Launch) (D : va_G) (cI cZ : ClassId) (ad : Nat → Nat) (hD : ∀ M : Mem, va_D (mA ad) (mW cI cZ ad M)) (M : Mem) (Q : Int32 → Mem → Prop) (h : wX11_truthMany M Q) : Met l yX11_truthMany uX11_truthMany ({ frames := 0, cells := 0, slots := 0, locals := 0 }) (va_Pc [.ref (ad 0)] (mPre D cI cZ ad M)) (va_Qi Q (mAt D cI cZ ad) (mA ad)) 0 0 (mA ad) := by
  refine Met.ofW (cc := cX11_truthMany) (maxL := 3) (ret := (some .int)) (by decide) rfl ?_
  intro p e s m args below meth c s₁ B hml hv
  obtain ⟨rfl, hP, hK⟩ := hv
  have hx := B.exec
  have hb := B.bytes
  have hr := B.returns
  have hts := atoms_spec (ws := uX11_truthMany) B.pre
  have hown : s.vm.findClass RX11 = some m.cls := findClass_of_methodNamed B.named
  have hlocks := B.notSynchronized
  have hS : va_S (mA ad) s.heap s.heap [] := va_S.rf
  have k0 := hts (.fieldLink RX11 7 "TwoEyesModel" "width" "I") (List.mem_cons_of_mem _ (inA_6 _ (List.mem_of_getElem? (i := 18) rfl)))
  have inX11 : ∀ w ∈ wsX110, w ∈ uX11_truthMany := fun w h => List.mem_cons_of_mem _ (inCX11 w h)
  have k2 := hts (.fieldLink RX11 13 "TwoEyesModel" "height" "I") (List.mem_cons_of_mem _ (inA_6 _ (List.mem_of_getElem? (i := 19) rfl)))
  have k3 := hts (.fieldLink RX11 27 "TwoEyesModel" "truths" "[I") (List.mem_cons_of_mem _ (inA_6 _ (List.mem_of_getElem? (i := 23) rfl)))
  have L4 : ∀ (K42 : Int32 → Mem → Prop), (∀ (x1 : Int32) (M : Mem) (H : Heap) (locs : List Loc) (ls : Array Slot), lv_has ls 3 [(1, .int x1)] → va_P D vwCl (mW cI cZ ad M) H → va_S (mA ad) s.heap H locs → K42 x1 M → GX11_truthMany p l e s m below meth c D cI cZ ad Q H locs (F0 m 42 ls [])) → ∀ n : Nat, ∀ (x1 x2 : Int32) (M : Mem) (H : Heap) (locs : List Loc) (ls : Array Slot), lv_has ls 3 [(0, .ref (ad 0)), (1, .int x1), (2, .int x2)] → va_P D vwCl (mW cI cZ ad M) H → va_S (mA ad) s.heap H locs → wX11_truthMany_L4 K42 Q n x1 x2 M → GX11_truthMany p l e s m below meth c D cI cZ ad Q H locs (F0 m 4 ls []) := by
    intro K42 hK42 n
    induction n with
    | zero => intro x1 x2 M H locs ls hl hP hS h; exact (show False from h).elim
    | succ n hB =>
      intro x1 x2 M H locs ls hl hP hS h
      rw [wX11_truthMany_L4_s] at h
      refine lv_iload_n hx hb dX11_truthMany_4 rfl (lv_at hl 2 rfl) ?_
      refine lv_aload_n hx hb dX11_truthMany_5 rfl (lv_at hl 0 rfl) ?_
      refine va_get (D := D) (ci := 11) (v := .int (M 0 0)) (C := RX11) (T := TX11) (N := 26) hx hb hts inX11 hown hK hP 0 (mW_0 cI cZ ad M) rfl 0 (by decide) k0 (fun _ h9 => h9) rfl dX11_truthMany_6 ?_
      refine lv_aload_n hx hb dX11_truthMany_9 rfl (lv_at hl 0 rfl) ?_
      refine va_get (D := D) (ci := 11) (v := .int (M 0 1)) (C := RX11) (T := TX11) (N := 26) hx hb hts inX11 hown hK hP 0 (mW_0 cI cZ ad M) rfl 1 (by decide) k2 (fun _ h9 => h9) rfl dX11_truthMany_10 ?_
      refine lv_imul hx hb dX11_truthMany_13 ?_
      refine lv_icmp_ge (tgt := 42) hx hb dX11_truthMany_14 (by decide) (fun q14 => ?_) (fun q14 => ?_)
      · have h := h.1 q14
        exact hK42 x1 M _ _ _ (lv_sub hl [1] rfl) hP hS h
      · have h := h.2 q14
        refine lv_iload_n hx hb dX11_truthMany_17 rfl (lv_at hl 1 rfl) ?_
        refine lv_aload_n hx hb dX11_truthMany_18 rfl (lv_at hl 0 rfl) ?_
        refine va_get (D := D) (ci := 11) (v := .ref (ad 4)) (C := RX11) (T := TX11) (N := 26) hx hb hts inX11 hown hK hP 0 (mW_0 cI cZ ad M) rfl 5 (by decide) k3 (fun _ h9 => h9) rfl dX11_truthMany_19 ?_
        refine lv_iload_n hx hb dX11_truthMany_22 rfl (lv_at hl 2 rfl) ?_
        obtain ⟨hi23, h⟩ := h
        refine va_iald hx hb hK hP 4 0 (mW_4 cI cZ ad M) rfl hi23 dX11_truthMany_23 ?_
        refine lv_bipush (v := (-4)) hx hb dX11_truthMany_24 (by decide) ?_
        refine lv_icmp_eq (tgt := 33) hx hb dX11_truthMany_26 (by decide) (fun q26 => ?_) (fun q26 => ?_)
        · have h := h.1 q26
          refine lv_iconst (v := 0) hx hb dX11_truthMany_33 (by decide) ?_
          refine lv_iadd hx hb dX11_truthMany_34 ?_
          refine lv_topi (fun x1_35 ex1_35 => ?_)
          have h := h x1_35 ex1_35
          refine lv_istore_n (lv' := [(1, .int x1_35), (0, .ref (ad 0)), (2, .int x2)]) hx hb dX11_truthMany_35 rfl hl (by decide) rfl (fun ls hl => ?_)
          obtain ⟨x2_36, ex2_36⟩ : ∃ y : Int32, y = x2 + 1 := ⟨_, rfl⟩
          have h := h x2_36 ex2_36
          refine lv_iinc (v := x2_36) (lv' := [(2, .int x2_36), (1, .int x1_35), (0, .ref (ad 0))]) hx hb dX11_truthMany_36 hl (k := 2) rfl (by rw [ex2_36]; rfl) (by decide) rfl (fun ls hl => ?_)
          refine lv_goto (tgt := 4) hx hb dX11_truthMany_39 (by decide) ?_
          exact hB x1_35 x2_36 M _ _ _ (lv_sub hl [2, 1, 0] rfl) hP hS h
        · have h := h.2 q26
          refine lv_iconst (v := 1) hx hb dX11_truthMany_29 (by decide) ?_
          refine lv_goto (tgt := 34) hx hb dX11_truthMany_30 (by decide) ?_
          refine lv_iadd hx hb dX11_truthMany_34 ?_
          refine lv_topi (fun x1_35 ex1_35 => ?_)
          have h := h x1_35 ex1_35
          refine lv_istore_n (lv' := [(1, .int x1_35), (0, .ref (ad 0)), (2, .int x2)]) hx hb dX11_truthMany_35 rfl hl (by decide) rfl (fun ls hl => ?_)
          obtain ⟨x2_36, ex2_36⟩ : ∃ y : Int32, y = x2 + 1 := ⟨_, rfl⟩
          have h := h x2_36 ex2_36
          refine lv_iinc (v := x2_36) (lv' := [(2, .int x2_36), (1, .int x1_35), (0, .ref (ad 0))]) hx hb dX11_truthMany_36 hl (k := 2) rfl (by rw [ex2_36]; rfl) (by decide) rfl (fun ls hl => ?_)
          refine lv_goto (tgt := 4) hx hb dX11_truthMany_39 (by decide) ?_
          exact hB x1_35 x2_36 M _ _ _ (lv_sub hl [2, 1, 0] rfl) hP hS h
  have hl := lv_entry ([.ref (ad 0)]) (n := 3) (Nat.le_of_ble_eq_true rfl)
  rw [lg_entry_eq]
  generalize (lg_sl ([.ref (ad 0)]) ++ List.replicate (3 - (lg_sl ([.ref (ad 0)])).length) Slot.unset).toArray = ls at hl ⊢
  have hl : lv_has ls 3 [(0, .ref (ad 0))] := hl
  refine lv_iconst (v := 0) hx hb dX11_truthMany_0 (by decide) ?_
  refine lv_istore_n (lv' := [(1, .int 0), (0, .ref (ad 0))]) hx hb dX11_truthMany_1 rfl hl (by decide) rfl (fun ls hl => ?_)
  refine lv_iconst (v := 0) hx hb dX11_truthMany_2 (by decide) ?_
  refine lv_istore_n (lv' := [(2, .int 0), (1, .int 0), (0, .ref (ad 0))]) hx hb dX11_truthMany_3 rfl hl (by decide) rfl (fun ls hl => ?_)
  obtain ⟨n, h⟩ := h
  refine L4 _ (fun x1 M H locs ls hl hP hS h => ?_) n 0 0 M _ _ _ (lv_sub hl [2, 1, 0] rfl) hP hS h
  refine lv_iload_n hx hb dX11_truthMany_42 rfl (lv_at hl 0 rfl) ?_
  exact W.iret (v := x1) hx hb hr (fun t ht hW => ⟨⟨x1, M, rfl, h, mAt_of ht hP⟩, hS.F ht⟩) hS.2.2 dX11_truthMany_43
set_option maxHeartbeats 4000000 in
set_option maxRecDepth 100000 in
theorem kX11_many (l : Launch) (D : va_G) (cI cZ : ClassId) (ad : Nat → Nat) (hD : ∀ M : Mem, va_D (mA ad) (mW cI cZ ad M)) (M : Mem) (a1 : Int32) (Q : Int32 → Mem → Prop) (h : wX11_many M a1 Q) : Met l yX11_many uX11_many ({ frames := 5, cells := 0, slots := 0, locals := 124 }) (va_Pc [.ref (ad 0), .int a1] (mPre D cI cZ ad M)) (va_Qi Q (mAt D cI cZ ad) (mA ad)) 0 0 (mA ad) := by
  refine Met.ofW (cc := cX11_many) (maxL := 2) (ret := (some .int)) (by decide) rfl ?_
  intro p e s m args below meth c s₁ B hml hv
  obtain ⟨rfl, hP, hK⟩ := hv
  have hx := B.exec
  have hb := B.bytes
  have hr := B.returns
  have hts := atoms_spec (ws := uX11_many) B.pre
  have hown : s.vm.findClass RX11 = some m.cls := findClass_of_methodNamed B.named
  have hlocks := B.notSynchronized
  have hS : va_S (mA ad) s.heap s.heap [] := va_S.rf
  have k0 := hts (.fieldLink RX11 7 "TwoEyesModel" "width" "I") (List.mem_cons_of_mem _ (inA_6 _ (List.mem_of_getElem? (i := 18) rfl)))
  have inX11 : ∀ w ∈ wsX110, w ∈ uX11_many := fun w h => List.mem_cons_of_mem _ (inCX11 w h)
  have k2 := hts (.fieldLink RX11 13 "TwoEyesModel" "height" "I") (List.mem_cons_of_mem _ (inA_6 _ (List.mem_of_getElem? (i := 19) rfl)))
  have hl := lv_entry ([.ref (ad 0), .int a1]) (n := 2) (Nat.le_of_ble_eq_true rfl)
  rw [lg_entry_eq]
  generalize (lg_sl ([.ref (ad 0), .int a1]) ++ List.replicate (2 - (lg_sl ([.ref (ad 0), .int a1])).length) Slot.unset).toArray = ls at hl ⊢
  have hl : lv_has ls 2 [(0, .ref (ad 0)), (1, .int a1)] := hl
  refine lv_aload_n hx hb dX11_many_0 rfl (lv_at hl 0 rfl) ?_
  refine m_callVv (As := []) (rest := []) ⟨hx, hb, hml, hown, hts⟩ (kX11_reckon l D cI cZ ad hD M _ h) (cwV 0 hts (gdV uS (inA_21 _ (List.mem_of_getElem? (i := 5) rfl)) vX11_reckon) rfl rfl rfl (by decide +kernel) ⟨Nat.le_of_ble_eq_true rfl, Nat.le_of_ble_eq_true rfl⟩) (va_recv hK hP (ci := 11) (q0 := 0) rfl (mW_0 cI cZ ad M)) hP hK hS hl.1 rfl rfl (Nat.le_of_ble_eq_true rfl) dX11_many_1 (fun M1 H locs h hP hS => ?_)
  refine lv_iload_n hx hb dX11_many_4 rfl (lv_at hl 1 rfl) ?_
  by_cases qd5 : (a1).toInt < 0 ∨ 7 < (a1).toInt
  · have h := h.2.2.2.2.2.2.2.2 qd5
    refine lv_tableOut (tgt := 90) hx hb dX11_many_5 qd5 (by decide) ?_
    refine lv_iconst (v := (-1)) hx hb dX11_many_90 (by decide) ?_
    exact W.iret (v := (-1)) hx hb hr (fun t ht hW => ⟨⟨(-1), M1, rfl, h, mAt_of ht hP⟩, hS.F ht⟩) hS.2.2 dX11_many_91
  · have qn5 : ¬ (a1).toInt < 0 ∧ ¬ 7 < (a1).toInt := ⟨fun q => qd5 (Or.inl q), fun q => qd5 (Or.inr q)⟩
    have qc5 : (a1).toInt = 0 ∨ (a1).toInt = 1 ∨ (a1).toInt = 2 ∨ (a1).toInt = 3 ∨ (a1).toInt = 4 ∨ (a1).toInt = 5 ∨ (a1).toInt = 6 ∨ (a1).toInt = 7 := by
      omega
    rcases qc5 with qe5 | qe5 | qe5 | qe5 | qe5 | qe5 | qe5 | qe5
    · have qz5 : a1 = 0 := jint qe5 (by decide)
      have h := h.1 qz5
      refine lv_tableIn (tgt := 52) hx hb dX11_many_5 qn5.1 qn5.2 (by rw [qe5]; rfl) (by decide) ?_
      refine lv_aload_n hx hb dX11_many_52 rfl (lv_at hl 0 rfl) ?_
      refine va_get (D := D) (ci := 11) (v := .int (M1 0 0)) (C := RX11) (T := TX11) (N := 26) hx hb hts inX11 hown hK hP 0 (mW_0 cI cZ ad M1) rfl 0 (by decide) k0 (fun _ h9 => h9) rfl dX11_many_53 ?_
      exact W.iret (v := (M1 0 0)) hx hb hr (fun t ht hW => ⟨⟨(M1 0 0), M1, rfl, h, mAt_of ht hP⟩, hS.F ht⟩) hS.2.2 dX11_many_56
    · have qz5 : a1 = 1 := jint qe5 (by decide)
      have h := h.2.1 qz5
      refine lv_tableIn (tgt := 57) hx hb dX11_many_5 qn5.1 qn5.2 (by rw [qe5]; rfl) (by decide) ?_
      refine lv_aload_n hx hb dX11_many_57 rfl (lv_at hl 0 rfl) ?_
      refine va_get (D := D) (ci := 11) (v := .int (M1 0 1)) (C := RX11) (T := TX11) (N := 26) hx hb hts inX11 hown hK hP 0 (mW_0 cI cZ ad M1) rfl 1 (by decide) k2 (fun _ h9 => h9) rfl dX11_many_58 ?_
      exact W.iret (v := (M1 0 1)) hx hb hr (fun t ht hW => ⟨⟨(M1 0 1), M1, rfl, h, mAt_of ht hP⟩, hS.F ht⟩) hS.2.2 dX11_many_61
    · have qz5 : a1 = 2 := jint qe5 (by decide)
      have h := h.2.2.1 qz5
      refine lv_tableIn (tgt := 62) hx hb dX11_many_5 qn5.1 qn5.2 (by rw [qe5]; rfl) (by decide) ?_
      refine lv_aload_n hx hb dX11_many_62 rfl (lv_at hl 0 rfl) ?_
      refine lv_iload_n hx hb dX11_many_63 rfl (lv_at hl 1 rfl) ?_
      refine lv_iconst (v := 2) hx hb dX11_many_64 (by decide) ?_
      refine lv_isub hx hb dX11_many_65 ?_
      refine m_callVi (As := [.int (a1 - 2)]) (rest := []) ⟨hx, hb, hml, hown, hts⟩ (kX11_lostMany l D cI cZ ad hD M1 (a1 - 2) _ h) (cwV 1 hts (gdV uS (inA_23 _ (List.mem_of_getElem? (i := 3) rfl)) vX11_lostMany) rfl rfl rfl (by decide +kernel) ⟨Nat.le_of_ble_eq_true rfl, Nat.le_of_ble_eq_true rfl⟩) (va_recv hK hP (ci := 11) (q0 := 0) rfl (mW_0 cI cZ ad M1)) hP hK hS hl.1 rfl rfl (Nat.le_of_ble_eq_true rfl) dX11_many_66 (fun r66 M66 H locs h hP hS => ?_)
      exact W.iret (v := r66) hx hb hr (fun t ht hW => ⟨⟨r66, M66, rfl, h, mAt_of ht hP⟩, hS.F ht⟩) hS.2.2 dX11_many_69
    · have qz5 : a1 = 3 := jint qe5 (by decide)
      have h := h.2.2.2.1 qz5
      refine lv_tableIn (tgt := 62) hx hb dX11_many_5 qn5.1 qn5.2 (by rw [qe5]; rfl) (by decide) ?_
      refine lv_aload_n hx hb dX11_many_62 rfl (lv_at hl 0 rfl) ?_
      refine lv_iload_n hx hb dX11_many_63 rfl (lv_at hl 1 rfl) ?_
      refine lv_iconst (v := 2) hx hb dX11_many_64 (by decide) ?_
      refine lv_isub hx hb dX11_many_65 ?_
      refine m_callVi (As := [.int (a1 - 2)]) (rest := []) ⟨hx, hb, hml, hown, hts⟩ (kX11_lostMany l D cI cZ ad hD M1 (a1 - 2) _ h) (cwV 1 hts (gdV uS (inA_23 _ (List.mem_of_getElem? (i := 3) rfl)) vX11_lostMany) rfl rfl rfl (by decide +kernel) ⟨Nat.le_of_ble_eq_true rfl, Nat.le_of_ble_eq_true rfl⟩) (va_recv hK hP (ci := 11) (q0 := 0) rfl (mW_0 cI cZ ad M1)) hP hK hS hl.1 rfl rfl (Nat.le_of_ble_eq_true rfl) dX11_many_66 (fun r66 M66 H locs h hP hS => ?_)
      exact W.iret (v := r66) hx hb hr (fun t ht hW => ⟨⟨r66, M66, rfl, h, mAt_of ht hP⟩, hS.F ht⟩) hS.2.2 dX11_many_69
    · have qz5 : a1 = 4 := jint qe5 (by decide)
      have h := h.2.2.2.2.1 qz5
      refine lv_tableIn (tgt := 70) hx hb dX11_many_5 qn5.1 qn5.2 (by rw [qe5]; rfl) (by decide) ?_
      refine lv_aload_n hx hb dX11_many_70 rfl (lv_at hl 0 rfl) ?_
      refine m_callVi (As := []) (rest := []) ⟨hx, hb, hml, hown, hts⟩ (kX11_toldMany l D cI cZ ad hD M1 _ h) (cwV 0 hts (gdV uS (inA_23 _ (List.mem_of_getElem? (i := 7) rfl)) vX11_toldMany) rfl rfl rfl (by decide +kernel) ⟨Nat.le_of_ble_eq_true rfl, Nat.le_of_ble_eq_true rfl⟩) (va_recv hK hP (ci := 11) (q0 := 0) rfl (mW_0 cI cZ ad M1)) hP hK hS hl.1 rfl rfl (Nat.le_of_ble_eq_true rfl) dX11_many_71 (fun r71 M71 H locs h hP hS => ?_)
      exact W.iret (v := r71) hx hb hr (fun t ht hW => ⟨⟨r71, M71, rfl, h, mAt_of ht hP⟩, hS.F ht⟩) hS.2.2 dX11_many_74
    · have qz5 : a1 = 5 := jint qe5 (by decide)
      have h := h.2.2.2.2.2.1 qz5
      refine lv_tableIn (tgt := 75) hx hb dX11_many_5 qn5.1 qn5.2 (by rw [qe5]; rfl) (by decide) ?_
      refine lv_aload_n hx hb dX11_many_75 rfl (lv_at hl 0 rfl) ?_
      refine m_callVi (As := []) (rest := []) ⟨hx, hb, hml, hown, hts⟩ (kX11_anchors l D cI cZ ad hD M1 _ h) (cwV 0 hts (gdV uS (inA_23 _ (List.mem_of_getElem? (i := 15) rfl)) vX11_anchors) rfl rfl rfl (by decide +kernel) ⟨Nat.le_of_ble_eq_true rfl, Nat.le_of_ble_eq_true rfl⟩) (va_recv hK hP (ci := 11) (q0 := 0) rfl (mW_0 cI cZ ad M1)) hP hK hS hl.1 rfl rfl (Nat.le_of_ble_eq_true rfl) dX11_many_76 (fun r76 M76 H locs h hP hS => ?_)
      exact W.iret (v := r76) hx hb hr (fun t ht hW => ⟨⟨r76, M76, rfl, h, mAt_of ht hP⟩, hS.F ht⟩) hS.2.2 dX11_many_79
    · have qz5 : a1 = 6 := jint qe5 (by decide)
      have h := h.2.2.2.2.2.2.1 qz5
      refine lv_tableIn (tgt := 80) hx hb dX11_many_5 qn5.1 qn5.2 (by rw [qe5]; rfl) (by decide) ?_
      refine lv_aload_n hx hb dX11_many_80 rfl (lv_at hl 0 rfl) ?_
      refine m_callVi (As := []) (rest := []) ⟨hx, hb, hml, hown, hts⟩ (kX11_cubes l D cI cZ ad hD M1 _ h) (cwV 0 hts (gdV uS (inA_23 _ (List.mem_of_getElem? (i := 19) rfl)) vX11_cubes) rfl rfl rfl (by decide +kernel) ⟨Nat.le_of_ble_eq_true rfl, Nat.le_of_ble_eq_true rfl⟩) (va_recv hK hP (ci := 11) (q0 := 0) rfl (mW_0 cI cZ ad M1)) hP hK hS hl.1 rfl rfl (Nat.le_of_ble_eq_true rfl) dX11_many_81 (fun r81 M81 H locs h hP hS => ?_)
      exact W.iret (v := r81) hx hb hr (fun t ht hW => ⟨⟨r81, M81, rfl, h, mAt_of ht hP⟩, hS.F ht⟩) hS.2.2 dX11_many_84
    · have qz5 : a1 = 7 := jint qe5 (by decide)
      have h := h.2.2.2.2.2.2.2.1 qz5
      refine lv_tableIn (tgt := 85) hx hb dX11_many_5 qn5.1 qn5.2 (by rw [qe5]; rfl) (by decide) ?_
      refine lv_aload_n hx hb dX11_many_85 rfl (lv_at hl 0 rfl) ?_
      refine m_callVi (As := []) (rest := []) ⟨hx, hb, hml, hown, hts⟩ (kX11_truthMany l D cI cZ ad hD M1 _ h) (cwV 0 hts (gdV uS (inA_24 _ (List.mem_of_getElem? (i := 3) rfl)) vX11_truthMany) rfl rfl rfl (by decide +kernel) ⟨Nat.le_of_ble_eq_true rfl, Nat.le_of_ble_eq_true rfl⟩) (va_recv hK hP (ci := 11) (q0 := 0) rfl (mW_0 cI cZ ad M1)) hP hK hS hl.1 rfl rfl (Nat.le_of_ble_eq_true rfl) dX11_many_86 (fun r86 M86 H locs h hP hS => ?_)
      exact W.iret (v := r86) hx hb hr (fun t ht hW => ⟨⟨r86, M86, rfl, h, mAt_of ht hP⟩, hS.F ht⟩) hS.2.2 dX11_many_89
set_option maxHeartbeats 4000000 in
set_option maxRecDepth 100000 in
theorem kX11_isDeep (l : Launch) (D : va_G) (cI cZ : ClassId) (ad : Nat → Nat) (hD : ∀ M : Mem, va_D (mA ad) (mW cI cZ ad M)) (M : Mem) (a1 a2 a3 : Int32) (Q : Int32 → Mem → Prop) (h : wX11_isDeep M a1 a2 a3 Q) : Met l yX11_isDeep uX11_isDeep ({ frames := 2, cells := 0, slots := 0, locals := 44 }) (va_Pc [.ref (ad 0), .int a1, .int a2, .int a3] (mPre D cI cZ ad M)) (va_Qi Q (mAt D cI cZ ad) (mA ad)) 0 0 (mA ad) := by
  refine Met.ofW (cc := cX11_isDeep) (maxL := 4) (ret := (some .boolean)) (by decide) rfl ?_
  intro p e s m args below meth c s₁ B hml hv
  obtain ⟨rfl, hP, hK⟩ := hv
  have hx := B.exec
  have hb := B.bytes
  have hr := B.returns
  have hts := atoms_spec (ws := uX11_isDeep) B.pre
  have hown : s.vm.findClass RX11 = some m.cls := findClass_of_methodNamed B.named
  have hlocks := B.notSynchronized
  have hS : va_S (mA ad) s.heap s.heap [] := va_S.rf
  have k0 := hts (.fieldLink RX11 30 "TwoEyesModel" "rules" "[I") (List.mem_cons_of_mem _ (inA_7 _ (List.mem_of_getElem? (i := 0) rfl)))
  have inX11 : ∀ w ∈ wsX110, w ∈ uX11_isDeep := fun w h => List.mem_cons_of_mem _ (inCX11 w h)
  have hl := lv_entry ([.ref (ad 0), .int a1, .int a2, .int a3]) (n := 4) (Nat.le_of_ble_eq_true rfl)
  rw [lg_entry_eq]
  generalize (lg_sl ([.ref (ad 0), .int a1, .int a2, .int a3]) ++ List.replicate (4 - (lg_sl ([.ref (ad 0), .int a1, .int a2, .int a3])).length) Slot.unset).toArray = ls at hl ⊢
  have hl : lv_has ls 4 [(0, .ref (ad 0)), (1, .int a1), (2, .int a2), (3, .int a3)] := hl
  refine lv_aload_n hx hb dX11_isDeep_0 rfl (lv_at hl 0 rfl) ?_
  refine lv_iload_n hx hb dX11_isDeep_1 rfl (lv_at hl 1 rfl) ?_
  refine lv_iload_n hx hb dX11_isDeep_2 rfl (lv_at hl 2 rfl) ?_
  refine m_callVi (As := [.int a1, .int a2]) (rest := []) ⟨hx, hb, hml, hown, hts⟩ (kX11_isSquare l D cI cZ ad hD M a1 a2 _ h) (cwV 2 hts (gdV uS (inA_13 _ (List.mem_of_getElem? (i := 11) rfl)) vX11_isSquare) rfl rfl rfl (by decide +kernel) ⟨Nat.le_of_ble_eq_true rfl, Nat.le_of_ble_eq_true rfl⟩) (va_recv hK hP (ci := 11) (q0 := 0) rfl (mW_0 cI cZ ad M)) hP hK hS hl.1 rfl rfl (Nat.le_of_ble_eq_true rfl) dX11_isDeep_3 (fun r3 M3 H locs h hP hS => ?_)
  refine lv_if_eq (tgt := 27) hx hb dX11_isDeep_6 (by decide) (fun q6 => ?_) (fun q6 => ?_)
  · have h := h.1 q6
    refine lv_iconst (v := 0) hx hb dX11_isDeep_27 (by decide) ?_
    exact W.zret (v := 0) hx hb hr rfl (fun t ht hW => ⟨⟨0, M3, rfl, h, mAt_of ht hP⟩, hS.F ht⟩) hS.2.2 dX11_isDeep_28
  · have h := h.2 q6
    refine lv_iload_n hx hb dX11_isDeep_9 rfl (lv_at hl 3 rfl) ?_
    refine lv_iconst (v := 0) hx hb dX11_isDeep_10 (by decide) ?_
    refine lv_aload_n hx hb dX11_isDeep_11 rfl (lv_at hl 0 rfl) ?_
    refine va_get (D := D) (ci := 11) (v := .ref (ad 5)) (C := RX11) (T := TX11) (N := 26) hx hb hts inX11 hown hK hP 0 (mW_0 cI cZ ad M3) rfl 6 (by decide) k0 (fun _ h9 => h9) rfl dX11_isDeep_12 ?_
    refine lv_iconst (v := 0) hx hb dX11_isDeep_15 (by decide) ?_
    obtain ⟨hi16, h⟩ := h
    refine va_iald hx hb hK hP 5 0 (mW_5 cI cZ ad M3) rfl hi16 dX11_isDeep_16 ?_
    refine m_callSi (As := [.int a3, .int 0, .int (M3 5 (0 : Int32).toNatClampNeg)]) (rest := []) ⟨hx, hb, hml, hown, hts⟩ (kX11_in l D cI cZ ad hD M3 a3 0 (M3 5 (0 : Int32).toNatClampNeg) _ h) (va_cwS 3 hts (gdS uS (inA_9 _ (List.mem_of_getElem? (i := 4) rfl)) vX11_in) rfl rfl rfl (by decide +kernel) ⟨Nat.le_of_ble_eq_true rfl, Nat.le_of_ble_eq_true rfl⟩) hP hK hS hl.1 rfl rfl (Nat.le_of_ble_eq_true rfl) dX11_isDeep_17 (fun r17 M17 H locs h hP hS => ?_)
    refine lv_if_eq (tgt := 27) hx hb dX11_isDeep_20 (by decide) (fun q20 => ?_) (fun q20 => ?_)
    · have h := h.1 q20
      refine lv_iconst (v := 0) hx hb dX11_isDeep_27 (by decide) ?_
      exact W.zret (v := 0) hx hb hr rfl (fun t ht hW => ⟨⟨0, M17, rfl, h, mAt_of ht hP⟩, hS.F ht⟩) hS.2.2 dX11_isDeep_28
    · have h := h.2 q20
      refine lv_iconst (v := 1) hx hb dX11_isDeep_23 (by decide) ?_
      refine lv_goto (tgt := 28) hx hb dX11_isDeep_24 (by decide) ?_
      exact W.zret (v := 1) hx hb hr rfl (fun t ht hW => ⟨⟨1, M17, rfl, h, mAt_of ht hP⟩, hS.F ht⟩) hS.2.2 dX11_isDeep_28
set_option maxHeartbeats 4000000 in
set_option maxRecDepth 100000 in
theorem kX11_cost (l : Launch) (D : va_G) (cI cZ : ClassId) (ad : Nat → Nat) (hD : ∀ M : Mem, va_D (mA ad) (mW cI cZ ad M)) (M : Mem) (a1 a2 a3 : Int32) (Q : Int32 → Mem → Prop) (h : wX11_cost M a1 a2 a3 Q) : Met l yX11_cost uX11_cost ({ frames := 4, cells := 0, slots := 0, locals := 100 }) (va_Pc [.ref (ad 0), .int a1, .int a2, .int a3] (mPre D cI cZ ad M)) (va_Qi Q (mAt D cI cZ ad) (mA ad)) 0 0 (mA ad) := by
  refine Met.ofW (cc := cX11_cost) (maxL := 5) (ret := (some .int)) (by decide) rfl ?_
  intro p e s m args below meth c s₁ B hml hv
  obtain ⟨rfl, hP, hK⟩ := hv
  have hx := B.exec
  have hb := B.bytes
  have hr := B.returns
  have hts := atoms_spec (ws := uX11_cost) B.pre
  have hown : s.vm.findClass RX11 = some m.cls := findClass_of_methodNamed B.named
  have hlocks := B.notSynchronized
  have hS : va_S (mA ad) s.heap s.heap [] := va_S.rf
  have hl := lv_entry ([.ref (ad 0), .int a1, .int a2, .int a3]) (n := 5) (Nat.le_of_ble_eq_true rfl)
  rw [lg_entry_eq]
  generalize (lg_sl ([.ref (ad 0), .int a1, .int a2, .int a3]) ++ List.replicate (5 - (lg_sl ([.ref (ad 0), .int a1, .int a2, .int a3])).length) Slot.unset).toArray = ls at hl ⊢
  have hl : lv_has ls 5 [(0, .ref (ad 0)), (1, .int a1), (2, .int a2), (3, .int a3)] := hl
  refine lv_aload_n hx hb dX11_cost_0 rfl (lv_at hl 0 rfl) ?_
  refine lv_iload_n hx hb dX11_cost_1 rfl (lv_at hl 1 rfl) ?_
  refine lv_iload_n hx hb dX11_cost_2 rfl (lv_at hl 2 rfl) ?_
  refine lv_iload_n hx hb dX11_cost_3 rfl (lv_at hl 3 rfl) ?_
  refine m_callVi (As := [.int a1, .int a2, .int a3]) (rest := []) ⟨hx, hb, hml, hown, hts⟩ (kX11_isDeep l D cI cZ ad hD M a1 a2 a3 _ h) (cwV 3 hts (gdV uS (inA_24 _ (List.mem_of_getElem? (i := 20) rfl)) vX11_isDeep) rfl rfl rfl (by decide +kernel) ⟨Nat.le_of_ble_eq_true rfl, Nat.le_of_ble_eq_true rfl⟩) (va_recv hK hP (ci := 11) (q0 := 0) rfl (mW_0 cI cZ ad M)) hP hK hS hl.1 rfl rfl (Nat.le_of_ble_eq_true rfl) dX11_cost_4 (fun r4 M4 H locs h hP hS => ?_)
  refine lv_if_ne (tgt := 12) hx hb dX11_cost_7 (by decide) (fun q7 => ?_) (fun q7 => ?_)
  · have h := h.1 q7
    refine lv_aload_n hx hb dX11_cost_12 rfl (lv_at hl 0 rfl) ?_
    refine lv_iload_n hx hb dX11_cost_13 rfl (lv_at hl 1 rfl) ?_
    refine lv_iload_n hx hb dX11_cost_14 rfl (lv_at hl 2 rfl) ?_
    refine lv_iload_n hx hb dX11_cost_15 rfl (lv_at hl 3 rfl) ?_
    refine m_callVi (As := [.int a1, .int a2, .int a3]) (rest := []) ⟨hx, hb, hml, hown, hts⟩ (kX11_costAt l D cI cZ ad hD M4 a1 a2 a3 _ h) (cwV 3 hts (gdV uS (inA_21 _ (List.mem_of_getElem? (i := 9) rfl)) vX11_costAt) rfl rfl rfl (by decide +kernel) ⟨Nat.le_of_ble_eq_true rfl, Nat.le_of_ble_eq_true rfl⟩) (va_recv hK hP (ci := 11) (q0 := 0) rfl (mW_0 cI cZ ad M4)) hP hK hS hl.1 rfl rfl (Nat.le_of_ble_eq_true rfl) dX11_cost_16 (fun r16 M16 H locs h hP hS => ?_)
    refine lv_istore (lv' := [(4, .int r16), (0, .ref (ad 0)), (1, .int a1), (2, .int a2), (3, .int a3)]) hx hb dX11_cost_19 hl (by decide) rfl (fun ls hl => ?_)
    refine lv_iload hx hb dX11_cost_21 (lv_at hl 0 rfl) ?_
    refine lv_iconst (v := (-1)) hx hb dX11_cost_23 (by decide) ?_
    refine lv_icmp_ne (tgt := 32) hx hb dX11_cost_24 (by decide) (fun q24 => ?_) (fun q24 => ?_)
    · have h := h.1 q24
      refine lv_iload hx hb dX11_cost_32 (lv_at hl 0 rfl) ?_
      exact W.iret (v := r16) hx hb hr (fun t ht hW => ⟨⟨r16, M16, rfl, h, mAt_of ht hP⟩, hS.F ht⟩) hS.2.2 dX11_cost_34
    · have h := h.2 q24
      refine lv_bipush (v := (-4)) hx hb dX11_cost_27 (by decide) ?_
      refine lv_goto (tgt := 34) hx hb dX11_cost_29 (by decide) ?_
      exact W.iret (v := (-4)) hx hb hr (fun t ht hW => ⟨⟨(-4), M16, rfl, h, mAt_of ht hP⟩, hS.F ht⟩) hS.2.2 dX11_cost_34
  · have h := h.2 q7
    refine lv_iconst (v := (-1)) hx hb dX11_cost_10 (by decide) ?_
    exact W.iret (v := (-1)) hx hb hr (fun t ht hW => ⟨⟨(-1), M4, rfl, h, mAt_of ht hP⟩, hS.F ht⟩) hS.2.2 dX11_cost_11
set_option maxHeartbeats 4000000 in
set_option maxRecDepth 100000 in
theorem kX11_payMatch (l : Launch) (D : va_G) (cI cZ : ClassId) (ad : Nat → Nat) (hD : ∀ M : Mem, va_D (mA ad) (mW cI cZ ad M)) (M : Mem) (a1 a2 a3 : Int32) (Q : Int32 → Mem → Prop) (h : wX11_payMatch M a1 a2 a3 Q) : Met l yX11_payMatch uX11_payMatch ({ frames := 4, cells := 0, slots := 0, locals := 100 }) (va_Pc [.ref (ad 0), .int a1, .int a2, .int a3] (mPre D cI cZ ad M)) (va_Qi Q (mAt D cI cZ ad) (mA ad)) 0 0 (mA ad) := by
  refine Met.ofW (cc := cX11_payMatch) (maxL := 5) (ret := (some .int)) (by decide) rfl ?_
  intro p e s m args below meth c s₁ B hml hv
  obtain ⟨rfl, hP, hK⟩ := hv
  have hx := B.exec
  have hb := B.bytes
  have hr := B.returns
  have hts := atoms_spec (ws := uX11_payMatch) B.pre
  have hown : s.vm.findClass RX11 = some m.cls := findClass_of_methodNamed B.named
  have hlocks := B.notSynchronized
  have hS : va_S (mA ad) s.heap s.heap [] := va_S.rf
  have k0 := hts (.fieldLink RX11 7 "TwoEyesModel" "width" "I") (List.mem_cons_of_mem _ (inA_6 _ (List.mem_of_getElem? (i := 18) rfl)))
  have inX11 : ∀ w ∈ wsX110, w ∈ uX11_payMatch := fun w h => List.mem_cons_of_mem _ (inCX11 w h)
  have k2 := hts (.fieldLink RX11 30 "TwoEyesModel" "rules" "[I") (List.mem_cons_of_mem _ (inA_7 _ (List.mem_of_getElem? (i := 0) rfl)))
  have k3 := hts (.fieldLink RX11 66 "TwoEyesModel" "toPay" "[I") (List.mem_cons_of_mem _ (inA_7 _ (List.mem_of_getElem? (i := 12) rfl)))
  have hl := lv_entry ([.ref (ad 0), .int a1, .int a2, .int a3]) (n := 5) (Nat.le_of_ble_eq_true rfl)
  rw [lg_entry_eq]
  generalize (lg_sl ([.ref (ad 0), .int a1, .int a2, .int a3]) ++ List.replicate (5 - (lg_sl ([.ref (ad 0), .int a1, .int a2, .int a3])).length) Slot.unset).toArray = ls at hl ⊢
  have hl : lv_has ls 5 [(0, .ref (ad 0)), (1, .int a1), (2, .int a2), (3, .int a3)] := hl
  refine lv_iload_n hx hb dX11_payMatch_0 rfl (lv_at hl 1 rfl) ?_
  refine lv_aload_n hx hb dX11_payMatch_1 rfl (lv_at hl 0 rfl) ?_
  refine va_get (D := D) (ci := 11) (v := .int (M 0 0)) (C := RX11) (T := TX11) (N := 26) hx hb hts inX11 hown hK hP 0 (mW_0 cI cZ ad M) rfl 0 (by decide) k0 (fun _ h9 => h9) rfl dX11_payMatch_2 ?_
  refine lv_icmp_ge (tgt := 33) hx hb dX11_payMatch_5 (by decide) (fun q5 => ?_) (fun q5 => ?_)
  · have h := h.1 q5
    refine lv_iconst (v := (-1)) hx hb dX11_payMatch_33 (by decide) ?_
    exact W.iret (v := (-1)) hx hb hr (fun t ht hW => ⟨⟨(-1), M, rfl, h, mAt_of ht hP⟩, hS.F ht⟩) hS.2.2 dX11_payMatch_34
  · have h := h.2 q5
    refine lv_iload_n hx hb dX11_payMatch_8 rfl (lv_at hl 2 rfl) ?_
    refine lv_aload_n hx hb dX11_payMatch_9 rfl (lv_at hl 0 rfl) ?_
    refine va_get (D := D) (ci := 11) (v := .int (M 0 0)) (C := RX11) (T := TX11) (N := 26) hx hb hts inX11 hown hK hP 0 (mW_0 cI cZ ad M) rfl 0 (by decide) k0 (fun _ h9 => h9) rfl dX11_payMatch_10 ?_
    refine lv_icmp_ge (tgt := 33) hx hb dX11_payMatch_13 (by decide) (fun q13 => ?_) (fun q13 => ?_)
    · have h := h.1 q13
      refine lv_iconst (v := (-1)) hx hb dX11_payMatch_33 (by decide) ?_
      exact W.iret (v := (-1)) hx hb hr (fun t ht hW => ⟨⟨(-1), M, rfl, h, mAt_of ht hP⟩, hS.F ht⟩) hS.2.2 dX11_payMatch_34
    · have h := h.2 q13
      refine lv_iload_n hx hb dX11_payMatch_16 rfl (lv_at hl 1 rfl) ?_
      refine lv_iload_n hx hb dX11_payMatch_17 rfl (lv_at hl 2 rfl) ?_
      refine lv_icmp_lt (tgt := 33) hx hb dX11_payMatch_18 (by decide) (fun q18 => ?_) (fun q18 => ?_)
      · have h := h.1 q18
        refine lv_iconst (v := (-1)) hx hb dX11_payMatch_33 (by decide) ?_
        exact W.iret (v := (-1)) hx hb hr (fun t ht hW => ⟨⟨(-1), M, rfl, h, mAt_of ht hP⟩, hS.F ht⟩) hS.2.2 dX11_payMatch_34
      · have h := h.2 q18
        refine lv_iload_n hx hb dX11_payMatch_21 rfl (lv_at hl 1 rfl) ?_
        refine lv_iload_n hx hb dX11_payMatch_22 rfl (lv_at hl 2 rfl) ?_
        refine lv_isub hx hb dX11_payMatch_23 ?_
        refine lv_aload_n hx hb dX11_payMatch_24 rfl (lv_at hl 0 rfl) ?_
        refine va_get (D := D) (ci := 11) (v := .ref (ad 5)) (C := RX11) (T := TX11) (N := 26) hx hb hts inX11 hown hK hP 0 (mW_0 cI cZ ad M) rfl 6 (by decide) k2 (fun _ h9 => h9) rfl dX11_payMatch_25 ?_
        refine lv_iconst (v := 0) hx hb dX11_payMatch_28 (by decide) ?_
        obtain ⟨hi29, h⟩ := h
        refine va_iald hx hb hK hP 5 0 (mW_5 cI cZ ad M) rfl hi29 dX11_payMatch_29 ?_
        refine lv_icmp_le (tgt := 35) hx hb dX11_payMatch_30 (by decide) (fun q30 => ?_) (fun q30 => ?_)
        · have h := h.1 q30
          refine lv_aload_n hx hb dX11_payMatch_35 rfl (lv_at hl 0 rfl) ?_
          refine lv_iload_n hx hb dX11_payMatch_36 rfl (lv_at hl 1 rfl) ?_
          refine lv_iload_n hx hb dX11_payMatch_37 rfl (lv_at hl 3 rfl) ?_
          refine lv_iload_n hx hb dX11_payMatch_38 rfl (lv_at hl 1 rfl) ?_
          refine lv_iload_n hx hb dX11_payMatch_39 rfl (lv_at hl 2 rfl) ?_
          refine lv_isub hx hb dX11_payMatch_40 ?_
          refine m_callVi (As := [.int a1, .int a3, .int (a1 - a2)]) (rest := []) ⟨hx, hb, hml, hown, hts⟩ (kX11_costAt l D cI cZ ad hD M a1 a3 (a1 - a2) _ h) (cwV 3 hts (gdV uS (inA_21 _ (List.mem_of_getElem? (i := 9) rfl)) vX11_costAt) rfl rfl rfl (by decide +kernel) ⟨Nat.le_of_ble_eq_true rfl, Nat.le_of_ble_eq_true rfl⟩) (va_recv hK hP (ci := 11) (q0 := 0) rfl (mW_0 cI cZ ad M)) hP hK hS hl.1 rfl rfl (Nat.le_of_ble_eq_true rfl) dX11_payMatch_41 (fun r41 M41 H locs h hP hS => ?_)
          refine lv_istore (lv' := [(4, .int r41), (0, .ref (ad 0)), (1, .int a1), (2, .int a2), (3, .int a3)]) hx hb dX11_payMatch_44 hl (by decide) rfl (fun ls hl => ?_)
          refine lv_iload hx hb dX11_payMatch_46 (lv_at hl 0 rfl) ?_
          refine lv_iconst (v := (-1)) hx hb dX11_payMatch_48 (by decide) ?_
          refine lv_icmp_ne (tgt := 56) hx hb dX11_payMatch_49 (by decide) (fun q49 => ?_) (fun q49 => ?_)
          · have h := h.1 q49
            refine lv_iload hx hb dX11_payMatch_56 (lv_at hl 0 rfl) ?_
            refine lv_aload_n hx hb dX11_payMatch_58 rfl (lv_at hl 1 rfl) ?_
            refine va_get (D := D) (ci := 11) (v := .ref (ad 17)) (C := RX11) (T := TX11) (N := 26) hx hb hts inX11 hown hK hP 0 (mW_0 cI cZ ad M41) rfl 22 (by decide) k3 (fun _ h9 => h9) rfl dX11_payMatch_59 ?_
            refine lv_bipush (v := 21) hx hb dX11_payMatch_62 (by decide) ?_
            refine lv_iload_n hx hb dX11_payMatch_64 rfl (lv_at hl 2 rfl) ?_
            refine lv_iconst (v := 1) hx hb dX11_payMatch_65 (by decide) ?_
            refine lv_iadd hx hb dX11_payMatch_66 ?_
            refine lv_imul hx hb dX11_payMatch_67 ?_
            refine lv_iload_n hx hb dX11_payMatch_68 rfl (lv_at hl 3 rfl) ?_
            refine lv_iadd hx hb dX11_payMatch_69 ?_
            refine lv_iconst (v := 1) hx hb dX11_payMatch_70 (by decide) ?_
            refine lv_iadd hx hb dX11_payMatch_71 ?_
            obtain ⟨hi72, h⟩ := h
            refine va_iald hx hb hK hP 17 0 (mW_17 cI cZ ad M41) rfl hi72 dX11_payMatch_72 ?_
            refine lv_iadd hx hb dX11_payMatch_73 ?_
            exact W.iret (v := (r41 + (M41 17 (((21 * (a1 + 1)) + a2) + 1).toNatClampNeg))) hx hb hr (fun t ht hW => ⟨⟨(r41 + (M41 17 (((21 * (a1 + 1)) + a2) + 1).toNatClampNeg)), M41, rfl, h, mAt_of ht hP⟩, hS.F ht⟩) hS.2.2 dX11_payMatch_74
          · have h := h.2 q49
            refine lv_iconst (v := (-1)) hx hb dX11_payMatch_52 (by decide) ?_
            refine lv_goto (tgt := 74) hx hb dX11_payMatch_53 (by decide) ?_
            exact W.iret (v := (-1)) hx hb hr (fun t ht hW => ⟨⟨(-1), M41, rfl, h, mAt_of ht hP⟩, hS.F ht⟩) hS.2.2 dX11_payMatch_74
        · have h := h.2 q30
          refine lv_iconst (v := (-1)) hx hb dX11_payMatch_33 (by decide) ?_
          exact W.iret (v := (-1)) hx hb hr (fun t ht hW => ⟨⟨(-1), M, rfl, h, mAt_of ht hP⟩, hS.F ht⟩) hS.2.2 dX11_payMatch_34
abbrev GX11_goPath (p : Program) (l : Launch) (e : Env) (s : State) (m : MethodId) (below : List Frame) (meth : Method) (c : Code) (D : va_G) (cI cZ : ClassId) (ad : Nat → Nat) (a1 : Int32) (Q : Mem → Prop) (H : Heap) (locs : List Loc) (g : JFrame) : Prop := W p l e (headSpec uX11_goPath { frames := 5, cells := 0, slots := 0, locals := 124 }).room s m ([.ref (ad 0), .int a1] : List Value).toArray below meth c H locs 0 0 (MQ below (va_Qv Q (mAt D cI cZ ad) (mA ad)) ([.ref (ad 0), .int a1] : List Value).toArray s 0 0 (mA ad)) g
set_option maxHeartbeats 4000000 in
set_option maxRecDepth 100000 in
theorem kX11_goPath (l : Launch) (D : va_G) (cI cZ : ClassId) (ad : Nat → Nat) (hD : ∀ M : Mem, va_D (mA ad) (mW cI cZ ad M)) (M : Mem) (a1 : Int32) (Q : Mem → Prop) (h : wX11_goPath M a1 Q) : Met l yX11_goPath uX11_goPath ({ frames := 5, cells := 0, slots := 0, locals := 124 }) (va_Pc [.ref (ad 0), .int a1] (mPre D cI cZ ad M)) (va_Qv Q (mAt D cI cZ ad) (mA ad)) 0 0 (mA ad) := by
  refine Met.ofW (cc := cX11_goPath) (maxL := 5) (ret := none) (by decide) rfl ?_
  intro p e s m args below meth c s₁ B hml hv
  obtain ⟨rfl, hP, hK⟩ := hv
  have hx := B.exec
  have hb := B.bytes
  have hr := B.returns
  have hts := atoms_spec (ws := uX11_goPath) B.pre
  have hown : s.vm.findClass RX11 = some m.cls := findClass_of_methodNamed B.named
  have hlocks := B.notSynchronized
  have hS : va_S (mA ad) s.heap s.heap [] := va_S.rf
  have k0 := hts (.fieldLink RX11 165 "TwoEyesModel" "hiddenRight" "I") (List.mem_cons_of_mem _ (inA_27 _ (List.mem_of_getElem? (i := 0) rfl)))
  have inX11 : ∀ w ∈ wsX110, w ∈ uX11_goPath := fun w h => List.mem_cons_of_mem _ (inCX11 w h)
  have k2 := hts (.fieldLink RX11 66 "TwoEyesModel" "toPay" "[I") (List.mem_cons_of_mem _ (inA_7 _ (List.mem_of_getElem? (i := 12) rfl)))
  have k3 := hts (.fieldLink RX11 7 "TwoEyesModel" "width" "I") (List.mem_cons_of_mem _ (inA_6 _ (List.mem_of_getElem? (i := 18) rfl)))
  have k4 := hts (.fieldLink RX11 30 "TwoEyesModel" "rules" "[I") (List.mem_cons_of_mem _ (inA_7 _ (List.mem_of_getElem? (i := 0) rfl)))
  have k5 := hts (.fieldLink RX11 69 "TwoEyesModel" "matchOf" "[I") (List.mem_cons_of_mem _ (inA_7 _ (List.mem_of_getElem? (i := 13) rfl)))
  have k6 := hts (.fieldLink RX11 162 "TwoEyesModel" "hiddenLeft" "I") (List.mem_cons_of_mem _ (inA_26 _ (List.mem_of_getElem? (i := 23) rfl)))
  have J130 : ∀ (B : Int32 → Int32 → Int32 → Mem → Prop) (K146 : Mem → Prop), (∀ (x1 x2 x3 : Int32) (M : Mem) (H : Heap) (locs : List Loc) (ls : Array Slot), lv_has ls 5 [(0, .ref (ad 0)), (1, .int x1), (2, .int x2), (3, .int x3)] → va_P D vwCl (mW cI cZ ad M) H → va_S (mA ad) s.heap H locs → B x1 x2 x3 M → GX11_goPath p l e s m below meth c D cI cZ ad a1 Q H locs (F0 m 14 ls [])) → (∀ (M : Mem) (H : Heap) (locs : List Loc) (ls : Array Slot), lv_has ls 5 [] → va_P D vwCl (mW cI cZ ad M) H → va_S (mA ad) s.heap H locs → K146 M → GX11_goPath p l e s m below meth c D cI cZ ad a1 Q H locs (F0 m 146 ls [])) → ∀ (x1 x2 x3 : Int32) (M : Mem) (H : Heap) (locs : List Loc) (ls : Array Slot), lv_has ls 5 [(0, .ref (ad 0)), (1, .int x1), (2, .int x2), (3, .int x3)] → va_P D vwCl (mW cI cZ ad M) H → va_S (mA ad) s.heap H locs → wX11_goPath_J130 B K146 Q x1 x2 x3 M → GX11_goPath p l e s m below meth c D cI cZ ad a1 Q H locs (F0 m 130 ls []) := by
    intro B K146 hB hK146 x1 x2 x3 M H locs ls hl hP hS h
    refine lv_aload_n hx hb dX11_goPath_130 rfl (lv_at hl 0 rfl) ?_
    refine lv_dup hx hb dX11_goPath_131 rfl ?_
    refine va_get (D := D) (ci := 11) (v := .int (M 0 25)) (C := RX11) (T := TX11) (N := 26) hx hb hts inX11 hown hK hP 0 (mW_0 cI cZ ad M) rfl 25 (by decide) k0 (fun _ h9 => h9) rfl dX11_goPath_132 ?_
    refine lv_iconst (v := 1) hx hb dX11_goPath_135 (by decide) ?_
    refine lv_iadd hx hb dX11_goPath_136 ?_
    refine va_put (D := D) (ci := 11) (v := .int ((M 0 25) + 1)) (ty := .int) (C := RX11) (T := TX11) (N := 26) hx hb hts inX11 tyX11 tyX11_ok nmX11 hown hK hP (hD M) hS 0 (mW_0 cI cZ ad M) rfl 25 (by decide) k0 (fun _ h9 => h9) rfl (by decide +kernel) rfl rfl (Nat.le_of_ble_eq_true rfl) dX11_goPath_137 (fun H locs hP _ hS => ?_)
    refine mP_0_25 hP (fun M137 eM137 hP => ?_)
    have h := h M137 eM137
    obtain ⟨x3_140, ex3_140⟩ : ∃ y : Int32, y = x3 + 1 := ⟨_, rfl⟩
    have h := h x3_140 ex3_140
    refine lv_iinc (v := x3_140) (lv' := [(3, .int x3_140), (0, .ref (ad 0)), (1, .int x1), (2, .int x2)]) hx hb dX11_goPath_140 hl (k := 3) rfl (by rw [ex3_140]; rfl) (by decide) rfl (fun ls hl => ?_)
    refine lv_goto (tgt := 14) hx hb dX11_goPath_143 (by decide) ?_
    exact hB x1 x2 x3_140 M137 _ _ _ (lv_sub hl [1, 2, 3, 0] rfl) hP hS h
  have J30 : ∀ (B : Int32 → Int32 → Int32 → Mem → Prop) (K146 : Mem → Prop), (∀ (x1 x2 x3 : Int32) (M : Mem) (H : Heap) (locs : List Loc) (ls : Array Slot), lv_has ls 5 [(0, .ref (ad 0)), (1, .int x1), (2, .int x2), (3, .int x3)] → va_P D vwCl (mW cI cZ ad M) H → va_S (mA ad) s.heap H locs → B x1 x2 x3 M → GX11_goPath p l e s m below meth c D cI cZ ad a1 Q H locs (F0 m 14 ls [])) → (∀ (M : Mem) (H : Heap) (locs : List Loc) (ls : Array Slot), lv_has ls 5 [] → va_P D vwCl (mW cI cZ ad M) H → va_S (mA ad) s.heap H locs → K146 M → GX11_goPath p l e s m below meth c D cI cZ ad a1 Q H locs (F0 m 146 ls [])) → ∀ (x1 x2 x3 : Int32) (M : Mem) (H : Heap) (locs : List Loc) (ls : Array Slot), lv_has ls 5 [(0, .ref (ad 0)), (1, .int x1), (2, .int x2), (3, .int x3)] → va_P D vwCl (mW cI cZ ad M) H → va_S (mA ad) s.heap H locs → wX11_goPath_J30 B K146 Q x1 x2 x3 M → GX11_goPath p l e s m below meth c D cI cZ ad a1 Q H locs (F0 m 30 ls []) := by
    intro B K146 hB hK146 x1 x2 x3 M H locs ls hl hP hS h
    refine lv_aload_n hx hb dX11_goPath_30 rfl (lv_at hl 0 rfl) ?_
    refine va_get (D := D) (ci := 11) (v := .ref (ad 17)) (C := RX11) (T := TX11) (N := 26) hx hb hts inX11 hown hK hP 0 (mW_0 cI cZ ad M) rfl 22 (by decide) k2 (fun _ h9 => h9) rfl dX11_goPath_31 ?_
    refine lv_bipush (v := 21) hx hb dX11_goPath_34 (by decide) ?_
    refine lv_iload_n hx hb dX11_goPath_36 rfl (lv_at hl 2 rfl) ?_
    refine lv_imul hx hb dX11_goPath_37 ?_
    refine lv_iload_n hx hb dX11_goPath_38 rfl (lv_at hl 3 rfl) ?_
    refine lv_iadd hx hb dX11_goPath_39 ?_
    obtain ⟨hi40, h⟩ := h
    refine va_iald hx hb hK hP 17 0 (mW_17 cI cZ ad M) rfl hi40 dX11_goPath_40 ?_
    refine lv_topi (fun x4_41 ex4_41 => ?_)
    have h := h x4_41 ex4_41
    refine lv_istore (lv' := [(4, .int x4_41), (0, .ref (ad 0)), (1, .int x1), (2, .int x2), (3, .int x3)]) hx hb dX11_goPath_41 hl (by decide) rfl (fun ls hl => ?_)
    refine lv_aload_n hx hb dX11_goPath_43 rfl (lv_at hl 1 rfl) ?_
    refine lv_iload_n hx hb dX11_goPath_44 rfl (lv_at hl 3 rfl) ?_
    refine lv_iload_n hx hb dX11_goPath_45 rfl (lv_at hl 4 rfl) ?_
    refine lv_iload_n hx hb dX11_goPath_46 rfl (lv_at hl 2 rfl) ?_
    refine m_callVi (As := [.int x2, .int x3, .int x1]) (rest := []) ⟨hx, hb, hml, hown, hts⟩ (kX11_payMatch l D cI cZ ad hD M x2 x3 x1 _ h) (cwV 3 hts (gdV uS (inA_26 _ (List.mem_of_getElem? (i := 15) rfl)) vX11_payMatch) rfl rfl rfl (by decide +kernel) ⟨Nat.le_of_ble_eq_true rfl, Nat.le_of_ble_eq_true rfl⟩) (va_recv hK hP (ci := 11) (q0 := 0) rfl (mW_0 cI cZ ad M)) hP hK hS hl.1 rfl rfl (Nat.le_of_ble_eq_true rfl) dX11_goPath_47 (fun r47 M47 H locs h hP hS => ?_)
    refine lv_iload hx hb dX11_goPath_50 (lv_at hl 0 rfl) ?_
    refine lv_icmp_ne (tgt := 73) hx hb dX11_goPath_52 (by decide) (fun q52 => ?_) (fun q52 => ?_)
    · have h := h.1 q52
      refine lv_iload_n hx hb dX11_goPath_73 rfl (lv_at hl 3 rfl) ?_
      refine lv_aload_n hx hb dX11_goPath_74 rfl (lv_at hl 1 rfl) ?_
      refine va_get (D := D) (ci := 11) (v := .int (M47 0 0)) (C := RX11) (T := TX11) (N := 26) hx hb hts inX11 hown hK hP 0 (mW_0 cI cZ ad M47) rfl 0 (by decide) k3 (fun _ h9 => h9) rfl dX11_goPath_75 ?_
      refine lv_icmp_ge (tgt := 130) hx hb dX11_goPath_78 (by decide) (fun q78 => ?_) (fun q78 => ?_)
      · have h := h.1 q78
        exact J130 _ K146 hB hK146 x1 x2 x3 M47 _ _ _ (lv_sub hl [1, 2, 3, 4] rfl) hP hS h
      · have h := h.2 q78
        refine lv_aload_n hx hb dX11_goPath_81 rfl (lv_at hl 1 rfl) ?_
        refine va_get (D := D) (ci := 11) (v := .ref (ad 5)) (C := RX11) (T := TX11) (N := 26) hx hb hts inX11 hown hK hP 0 (mW_0 cI cZ ad M47) rfl 6 (by decide) k4 (fun _ h9 => h9) rfl dX11_goPath_82 ?_
        refine lv_iconst (v := 1) hx hb dX11_goPath_85 (by decide) ?_
        obtain ⟨hi86, h⟩ := h
        refine va_iald hx hb hK hP 5 0 (mW_5 cI cZ ad M47) rfl hi86 dX11_goPath_86 ?_
        refine lv_aload_n hx hb dX11_goPath_87 rfl (lv_at hl 1 rfl) ?_
        refine va_get (D := D) (ci := 11) (v := .ref (ad 17)) (C := RX11) (T := TX11) (N := 26) hx hb hts inX11 hown hK hP 0 (mW_0 cI cZ ad M47) rfl 22 (by decide) k2 (fun _ h9 => h9) rfl dX11_goPath_88 ?_
        refine lv_bipush (v := 21) hx hb dX11_goPath_91 (by decide) ?_
        refine lv_iload_n hx hb dX11_goPath_93 rfl (lv_at hl 3 rfl) ?_
        refine lv_iconst (v := 1) hx hb dX11_goPath_94 (by decide) ?_
        refine lv_iadd hx hb dX11_goPath_95 ?_
        refine lv_imul hx hb dX11_goPath_96 ?_
        refine lv_iload_n hx hb dX11_goPath_97 rfl (lv_at hl 4 rfl) ?_
        refine lv_iadd hx hb dX11_goPath_98 ?_
        obtain ⟨hi99, h⟩ := h
        refine va_iald hx hb hK hP 17 0 (mW_17 cI cZ ad M47) rfl hi99 dX11_goPath_99 ?_
        refine lv_iadd hx hb dX11_goPath_100 ?_
        refine lv_iload hx hb dX11_goPath_101 (lv_at hl 0 rfl) ?_
        refine lv_icmp_ne (tgt := 130) hx hb dX11_goPath_103 (by decide) (fun q103 => ?_) (fun q103 => ?_)
        · have h := h.1 q103
          exact J130 _ K146 hB hK146 x1 x2 x3 M47 _ _ _ (lv_sub hl [1, 2, 3, 4] rfl) hP hS h
        · have h := h.2 q103
          refine lv_aload_n hx hb dX11_goPath_106 rfl (lv_at hl 1 rfl) ?_
          refine va_get (D := D) (ci := 11) (v := .ref (ad 18)) (C := RX11) (T := TX11) (N := 26) hx hb hts inX11 hown hK hP 0 (mW_0 cI cZ ad M47) rfl 23 (by decide) k5 (fun _ h9 => h9) rfl dX11_goPath_107 ?_
          refine lv_iload_n hx hb dX11_goPath_110 rfl (lv_at hl 3 rfl) ?_
          refine lv_bipush (v := (-4)) hx hb dX11_goPath_111 (by decide) ?_
          obtain ⟨hi113, h⟩ := h
          refine va_iast hx hb hK hP (hD M47) hS 18 0 (mW_18 cI cZ ad M47) rfl hi113 dX11_goPath_113 (fun H locs hP _ hS => ?_)
          refine mQ_18 hP (fun M113 eM113 hP => ?_)
          have h := h M113 eM113
          refine lv_aload_n hx hb dX11_goPath_114 rfl (lv_at hl 1 rfl) ?_
          refine lv_dup hx hb dX11_goPath_115 rfl ?_
          refine va_get (D := D) (ci := 11) (v := .int (M113 0 24)) (C := RX11) (T := TX11) (N := 26) hx hb hts inX11 hown hK hP 0 (mW_0 cI cZ ad M113) rfl 24 (by decide) k6 (fun _ h9 => h9) rfl dX11_goPath_116 ?_
          refine lv_iconst (v := 1) hx hb dX11_goPath_119 (by decide) ?_
          refine lv_iadd hx hb dX11_goPath_120 ?_
          refine va_put (D := D) (ci := 11) (v := .int ((M113 0 24) + 1)) (ty := .int) (C := RX11) (T := TX11) (N := 26) hx hb hts inX11 tyX11 tyX11_ok nmX11 hown hK hP (hD M113) hS 0 (mW_0 cI cZ ad M113) rfl 24 (by decide) k6 (fun _ h9 => h9) rfl (by decide +kernel) rfl rfl (Nat.le_of_ble_eq_true rfl) dX11_goPath_121 (fun H locs hP _ hS => ?_)
          refine mP_0_24 hP (fun M121 eM121 hP => ?_)
          have h := h M121 eM121
          obtain ⟨x2_124, ex2_124⟩ : ∃ y : Int32, y = x2 + 1 := ⟨_, rfl⟩
          have h := h x2_124 ex2_124
          refine lv_iinc (v := x2_124) (lv' := [(2, .int x2_124), (4, .int x4_41), (0, .ref (ad 0)), (1, .int x1), (3, .int x3)]) hx hb dX11_goPath_124 hl (k := 3) rfl (by rw [ex2_124]; rfl) (by decide) rfl (fun ls hl => ?_)
          refine lv_goto (tgt := 143) hx hb dX11_goPath_127 (by decide) ?_
          refine lv_goto (tgt := 14) hx hb dX11_goPath_143 (by decide) ?_
          exact hB x1 x2_124 x3 M121 _ _ _ (lv_sub hl [2, 3, 0, 4] rfl) hP hS h
    · have h := h.2 q52
      refine lv_aload_n hx hb dX11_goPath_55 rfl (lv_at hl 1 rfl) ?_
      refine va_get (D := D) (ci := 11) (v := .ref (ad 18)) (C := RX11) (T := TX11) (N := 26) hx hb hts inX11 hown hK hP 0 (mW_0 cI cZ ad M47) rfl 23 (by decide) k5 (fun _ h9 => h9) rfl dX11_goPath_56 ?_
      refine lv_iload_n hx hb dX11_goPath_59 rfl (lv_at hl 3 rfl) ?_
      refine lv_iload_n hx hb dX11_goPath_60 rfl (lv_at hl 3 rfl) ?_
      refine lv_iload_n hx hb dX11_goPath_61 rfl (lv_at hl 4 rfl) ?_
      refine lv_isub hx hb dX11_goPath_62 ?_
      obtain ⟨hi63, h⟩ := h
      refine va_iast hx hb hK hP (hD M47) hS 18 0 (mW_18 cI cZ ad M47) rfl hi63 dX11_goPath_63 (fun H locs hP _ hS => ?_)
      refine mQ_18 hP (fun M63 eM63 hP => ?_)
      have h := h M63 eM63
      obtain ⟨x2_64, ex2_64⟩ : ∃ y : Int32, y = x2 + 1 := ⟨_, rfl⟩
      have h := h x2_64 ex2_64
      refine lv_iinc (v := x2_64) (lv' := [(2, .int x2_64), (4, .int x4_41), (0, .ref (ad 0)), (1, .int x1), (3, .int x3)]) hx hb dX11_goPath_64 hl (k := 3) rfl (by rw [ex2_64]; rfl) (by decide) rfl (fun ls hl => ?_)
      obtain ⟨x3_67, ex3_67⟩ : ∃ y : Int32, y = x3 + 1 := ⟨_, rfl⟩
      have h := h x3_67 ex3_67
      refine lv_iinc (v := x3_67) (lv' := [(3, .int x3_67), (2, .int x2_64), (4, .int x4_41), (0, .ref (ad 0)), (1, .int x1)]) hx hb dX11_goPath_67 hl (k := 4) rfl (by rw [ex3_67]; rfl) (by decide) rfl (fun ls hl => ?_)
      refine lv_goto (tgt := 143) hx hb dX11_goPath_70 (by decide) ?_
      refine lv_goto (tgt := 14) hx hb dX11_goPath_143 (by decide) ?_
      exact hB x1 x2_64 x3_67 M63 _ _ _ (lv_sub hl [3, 4, 1, 0] rfl) hP hS h
  have L14 : ∀ (K146 : Mem → Prop), (∀ (M : Mem) (H : Heap) (locs : List Loc) (ls : Array Slot), lv_has ls 5 [] → va_P D vwCl (mW cI cZ ad M) H → va_S (mA ad) s.heap H locs → K146 M → GX11_goPath p l e s m below meth c D cI cZ ad a1 Q H locs (F0 m 146 ls [])) → ∀ n : Nat, ∀ (x1 x2 x3 : Int32) (M : Mem) (H : Heap) (locs : List Loc) (ls : Array Slot), lv_has ls 5 [(0, .ref (ad 0)), (1, .int x1), (2, .int x2), (3, .int x3)] → va_P D vwCl (mW cI cZ ad M) H → va_S (mA ad) s.heap H locs → wX11_goPath_L14 K146 Q n x1 x2 x3 M → GX11_goPath p l e s m below meth c D cI cZ ad a1 Q H locs (F0 m 14 ls []) := by
    intro K146 hK146 n
    induction n with
    | zero => intro x1 x2 x3 M H locs ls hl hP hS h; exact (show False from h).elim
    | succ n hB =>
      intro x1 x2 x3 M H locs ls hl hP hS h
      rw [wX11_goPath_L14_s] at h
      refine lv_iload_n hx hb dX11_goPath_14 rfl (lv_at hl 2 rfl) ?_
      refine lv_aload_n hx hb dX11_goPath_15 rfl (lv_at hl 0 rfl) ?_
      refine va_get (D := D) (ci := 11) (v := .int (M 0 0)) (C := RX11) (T := TX11) (N := 26) hx hb hts inX11 hown hK hP 0 (mW_0 cI cZ ad M) rfl 0 (by decide) k3 (fun _ h9 => h9) rfl dX11_goPath_16 ?_
      refine lv_icmp_lt (tgt := 30) hx hb dX11_goPath_19 (by decide) (fun q19 => ?_) (fun q19 => ?_)
      · have h := h.1 q19
        exact J30 _ K146 hB hK146 x1 x2 x3 M _ _ _ (lv_sub hl [0, 1, 2, 3] rfl) hP hS h
      · have h := h.2 q19
        refine lv_iload_n hx hb dX11_goPath_22 rfl (lv_at hl 3 rfl) ?_
        refine lv_aload_n hx hb dX11_goPath_23 rfl (lv_at hl 0 rfl) ?_
        refine va_get (D := D) (ci := 11) (v := .int (M 0 0)) (C := RX11) (T := TX11) (N := 26) hx hb hts inX11 hown hK hP 0 (mW_0 cI cZ ad M) rfl 0 (by decide) k3 (fun _ h9 => h9) rfl dX11_goPath_24 ?_
        refine lv_icmp_ge (tgt := 146) hx hb dX11_goPath_27 (by decide) (fun q27 => ?_) (fun q27 => ?_)
        · have h := h.1 q27
          exact hK146 M _ _ _ (lv_sub hl [] rfl) hP hS h
        · have h := h.2 q27
          exact J30 _ K146 hB hK146 x1 x2 x3 M _ _ _ (lv_sub hl [0, 1, 2, 3] rfl) hP hS h
  have hl := lv_entry ([.ref (ad 0), .int a1]) (n := 5) (Nat.le_of_ble_eq_true rfl)
  rw [lg_entry_eq]
  generalize (lg_sl ([.ref (ad 0), .int a1]) ++ List.replicate (5 - (lg_sl ([.ref (ad 0), .int a1])).length) Slot.unset).toArray = ls at hl ⊢
  have hl : lv_has ls 5 [(0, .ref (ad 0)), (1, .int a1)] := hl
  refine lv_iconst (v := 0) hx hb dX11_goPath_0 (by decide) ?_
  refine lv_istore_n (lv' := [(2, .int 0), (0, .ref (ad 0)), (1, .int a1)]) hx hb dX11_goPath_1 rfl hl (by decide) rfl (fun ls hl => ?_)
  refine lv_iconst (v := 0) hx hb dX11_goPath_2 (by decide) ?_
  refine lv_istore_n (lv' := [(3, .int 0), (2, .int 0), (0, .ref (ad 0)), (1, .int a1)]) hx hb dX11_goPath_3 rfl hl (by decide) rfl (fun ls hl => ?_)
  refine lv_aload_n hx hb dX11_goPath_4 rfl (lv_at hl 2 rfl) ?_
  refine lv_iconst (v := 0) hx hb dX11_goPath_5 (by decide) ?_
  refine va_put (D := D) (ci := 11) (v := .int 0) (ty := .int) (C := RX11) (T := TX11) (N := 26) hx hb hts inX11 tyX11 tyX11_ok nmX11 hown hK hP (hD M) hS 0 (mW_0 cI cZ ad M) rfl 24 (by decide) k6 (fun _ h9 => h9) rfl (by decide +kernel) rfl rfl (Nat.le_of_ble_eq_true rfl) dX11_goPath_6 (fun H locs hP _ hS => ?_)
  refine mP_0_24 hP (fun M6 eM6 hP => ?_)
  have h := h M6 eM6
  refine lv_aload_n hx hb dX11_goPath_9 rfl (lv_at hl 2 rfl) ?_
  refine lv_iconst (v := 0) hx hb dX11_goPath_10 (by decide) ?_
  refine va_put (D := D) (ci := 11) (v := .int 0) (ty := .int) (C := RX11) (T := TX11) (N := 26) hx hb hts inX11 tyX11 tyX11_ok nmX11 hown hK hP (hD M6) hS 0 (mW_0 cI cZ ad M6) rfl 25 (by decide) k0 (fun _ h9 => h9) rfl (by decide +kernel) rfl rfl (Nat.le_of_ble_eq_true rfl) dX11_goPath_11 (fun H locs hP _ hS => ?_)
  refine mP_0_25 hP (fun M11 eM11 hP => ?_)
  have h := h M11 eM11
  obtain ⟨n, h⟩ := h
  refine L14 _ (fun  M H locs ls hl hP hS h => ?_) n a1 0 0 M11 _ _ _ (lv_sub hl [2, 3, 1, 0] rfl) hP hS h
  exact W.vret hx hb hr (fun t ht hW => ⟨⟨M, rfl, h, mAt_of ht hP⟩, hS.F ht⟩) hS.2.2 dX11_goPath_146
abbrev GX11_layPath (p : Program) (l : Launch) (e : Env) (s : State) (m : MethodId) (below : List Frame) (meth : Method) (c : Code) (D : va_G) (cI cZ : ClassId) (ad : Nat → Nat) (a1 : Int32) (Q : Mem → Prop) (H : Heap) (locs : List Loc) (g : JFrame) : Prop := W p l e (headSpec uX11_layPath { frames := 6, cells := 0, slots := 0, locals := 148 }).room s m ([.ref (ad 0), .int a1] : List Value).toArray below meth c H locs 0 0 (MQ below (va_Qv Q (mAt D cI cZ ad) (mA ad)) ([.ref (ad 0), .int a1] : List Value).toArray s 0 0 (mA ad)) g
set_option maxHeartbeats 4000000 in
set_option maxRecDepth 100000 in
theorem kX11_layPath (l : Launch) (D : va_G) (cI cZ : ClassId) (ad : Nat → Nat) (hD : ∀ M : Mem, va_D (mA ad) (mW cI cZ ad M)) (M : Mem) (a1 : Int32) (Q : Mem → Prop) (h : wX11_layPath M a1 Q) : Met l yX11_layPath uX11_layPath ({ frames := 6, cells := 0, slots := 0, locals := 148 }) (va_Pc [.ref (ad 0), .int a1] (mPre D cI cZ ad M)) (va_Qv Q (mAt D cI cZ ad) (mA ad)) 0 0 (mA ad) := by
  refine Met.ofW (cc := cX11_layPath) (maxL := 7) (ret := none) (by decide) rfl ?_
  intro p e s m args below meth c s₁ B hml hv
  obtain ⟨rfl, hP, hK⟩ := hv
  have hx := B.exec
  have hb := B.bytes
  have hr := B.returns
  have hts := atoms_spec (ws := uX11_layPath) B.pre
  have hown : s.vm.findClass RX11 = some m.cls := findClass_of_methodNamed B.named
  have hlocks := B.notSynchronized
  have hS : va_S (mA ad) s.heap s.heap [] := va_S.rf
  have k0 := hts (.fieldLink RX11 66 "TwoEyesModel" "toPay" "[I") (List.mem_cons_of_mem _ (inA_7 _ (List.mem_of_getElem? (i := 12) rfl)))
  have inX11 : ∀ w ∈ wsX110, w ∈ uX11_layPath := fun w h => List.mem_cons_of_mem _ (inCX11 w h)
  have k2 := hts (.fieldLink RX11 7 "TwoEyesModel" "width" "I") (List.mem_cons_of_mem _ (inA_6 _ (List.mem_of_getElem? (i := 18) rfl)))
  have k3 := hts (.fieldLink RX11 30 "TwoEyesModel" "rules" "[I") (List.mem_cons_of_mem _ (inA_7 _ (List.mem_of_getElem? (i := 0) rfl)))
  have J166 : ∀ (B : Int32 → Int32 → Int32 → Mem → Prop) (K185 : Int32 → Int32 → Mem → Prop), (∀ (x1 x2 x3 : Int32) (M : Mem) (H : Heap) (locs : List Loc) (ls : Array Slot), lv_has ls 7 [(0, .ref (ad 0)), (1, .int x1), (2, .int x2), (3, .int x3)] → va_P D vwCl (mW cI cZ ad M) H → va_S (mA ad) s.heap H locs → B x1 x2 x3 M → GX11_layPath p l e s m below meth c D cI cZ ad a1 Q H locs (F0 m 14 ls [])) → (∀ (x1 x2 : Int32) (M : Mem) (H : Heap) (locs : List Loc) (ls : Array Slot), lv_has ls 7 [(0, .ref (ad 0)), (1, .int x1), (2, .int x2)] → va_P D vwCl (mW cI cZ ad M) H → va_S (mA ad) s.heap H locs → K185 x1 x2 M → GX11_layPath p l e s m below meth c D cI cZ ad a1 Q H locs (F0 m 185 ls [])) → ∀ (x1 x2 x3 x4 : Int32) (M : Mem) (H : Heap) (locs : List Loc) (ls : Array Slot), lv_has ls 7 [(0, .ref (ad 0)), (1, .int x1), (2, .int x2), (3, .int x3), (4, .int x4)] → va_P D vwCl (mW cI cZ ad M) H → va_S (mA ad) s.heap H locs → wX11_layPath_J166 B K185 Q x1 x2 x3 x4 M → GX11_layPath p l e s m below meth c D cI cZ ad a1 Q H locs (F0 m 166 ls []) := by
    intro B K185 hB hK185 x1 x2 x3 x4 M H locs ls hl hP hS h
    refine lv_aload_n hx hb dX11_layPath_166 rfl (lv_at hl 0 rfl) ?_
    refine va_get (D := D) (ci := 11) (v := .ref (ad 17)) (C := RX11) (T := TX11) (N := 26) hx hb hts inX11 hown hK hP 0 (mW_0 cI cZ ad M) rfl 22 (by decide) k0 (fun _ h9 => h9) rfl dX11_layPath_167 ?_
    refine lv_bipush (v := 21) hx hb dX11_layPath_170 (by decide) ?_
    refine lv_iload_n hx hb dX11_layPath_172 rfl (lv_at hl 2 rfl) ?_
    refine lv_imul hx hb dX11_layPath_173 ?_
    refine lv_iload_n hx hb dX11_layPath_174 rfl (lv_at hl 3 rfl) ?_
    refine lv_iadd hx hb dX11_layPath_175 ?_
    refine lv_iload hx hb dX11_layPath_176 (lv_at hl 4 rfl) ?_
    obtain ⟨hi178, h⟩ := h
    refine va_iast hx hb hK hP (hD M) hS 17 0 (mW_17 cI cZ ad M) rfl hi178 dX11_layPath_178 (fun H locs hP _ hS => ?_)
    refine mQ_17 hP (fun M178 eM178 hP => ?_)
    have h := h M178 eM178
    obtain ⟨x3_179, ex3_179⟩ : ∃ y : Int32, y = x3 + (-1) := ⟨_, rfl⟩
    have h := h x3_179 ex3_179
    refine lv_iinc (v := x3_179) (lv' := [(3, .int x3_179), (0, .ref (ad 0)), (1, .int x1), (2, .int x2), (4, .int x4)]) hx hb dX11_layPath_179 hl (k := 3) rfl (by rw [ex3_179]; rfl) (by decide) rfl (fun ls hl => ?_)
    refine lv_goto (tgt := 14) hx hb dX11_layPath_182 (by decide) ?_
    exact hB x1 x2 x3_179 M178 _ _ _ (lv_sub hl [1, 2, 3, 0] rfl) hP hS h
  have J164 : ∀ (B : Int32 → Int32 → Int32 → Mem → Prop) (K185 : Int32 → Int32 → Mem → Prop), (∀ (x1 x2 x3 : Int32) (M : Mem) (H : Heap) (locs : List Loc) (ls : Array Slot), lv_has ls 7 [(0, .ref (ad 0)), (1, .int x1), (2, .int x2), (3, .int x3)] → va_P D vwCl (mW cI cZ ad M) H → va_S (mA ad) s.heap H locs → B x1 x2 x3 M → GX11_layPath p l e s m below meth c D cI cZ ad a1 Q H locs (F0 m 14 ls [])) → (∀ (x1 x2 : Int32) (M : Mem) (H : Heap) (locs : List Loc) (ls : Array Slot), lv_has ls 7 [(0, .ref (ad 0)), (1, .int x1), (2, .int x2)] → va_P D vwCl (mW cI cZ ad M) H → va_S (mA ad) s.heap H locs → K185 x1 x2 M → GX11_layPath p l e s m below meth c D cI cZ ad a1 Q H locs (F0 m 185 ls [])) → ∀ (x1 x2 x3 t0 : Int32) (M : Mem) (H : Heap) (locs : List Loc) (ls : Array Slot), lv_has ls 7 [(0, .ref (ad 0)), (1, .int x1), (2, .int x2), (3, .int x3)] → va_P D vwCl (mW cI cZ ad M) H → va_S (mA ad) s.heap H locs → wX11_layPath_J164 B K185 Q x1 x2 x3 t0 M → GX11_layPath p l e s m below meth c D cI cZ ad a1 Q H locs (F0 m 164 ls [.int t0]) := by
    intro B K185 hB hK185 x1 x2 x3 t0 M H locs ls hl hP hS h
    refine lv_istore (lv' := [(4, .int t0), (0, .ref (ad 0)), (1, .int x1), (2, .int x2), (3, .int x3)]) hx hb dX11_layPath_164 hl (by decide) rfl (fun ls hl => ?_)
    exact J166 _ K185 hB hK185 x1 x2 x3 t0 M _ _ _ (lv_sub hl [1, 2, 3, 4, 0] rfl) hP hS h
  have J157 : ∀ (B : Int32 → Int32 → Int32 → Mem → Prop) (K185 : Int32 → Int32 → Mem → Prop), (∀ (x1 x2 x3 : Int32) (M : Mem) (H : Heap) (locs : List Loc) (ls : Array Slot), lv_has ls 7 [(0, .ref (ad 0)), (1, .int x1), (2, .int x2), (3, .int x3)] → va_P D vwCl (mW cI cZ ad M) H → va_S (mA ad) s.heap H locs → B x1 x2 x3 M → GX11_layPath p l e s m below meth c D cI cZ ad a1 Q H locs (F0 m 14 ls [])) → (∀ (x1 x2 : Int32) (M : Mem) (H : Heap) (locs : List Loc) (ls : Array Slot), lv_has ls 7 [(0, .ref (ad 0)), (1, .int x1), (2, .int x2)] → va_P D vwCl (mW cI cZ ad M) H → va_S (mA ad) s.heap H locs → K185 x1 x2 M → GX11_layPath p l e s m below meth c D cI cZ ad a1 Q H locs (F0 m 185 ls [])) → ∀ (x1 x2 x3 x6 : Int32) (M : Mem) (H : Heap) (locs : List Loc) (ls : Array Slot), lv_has ls 7 [(0, .ref (ad 0)), (1, .int x1), (2, .int x2), (3, .int x3), (6, .int x6)] → va_P D vwCl (mW cI cZ ad M) H → va_S (mA ad) s.heap H locs → wX11_layPath_J157 B K185 Q x1 x2 x3 x6 M → GX11_layPath p l e s m below meth c D cI cZ ad a1 Q H locs (F0 m 157 ls []) := by
    intro B K185 hB hK185 x1 x2 x3 x6 M H locs ls hl hP hS h
    refine lv_iload hx hb dX11_layPath_157 (lv_at hl 4 rfl) ?_
    refine lv_goto (tgt := 164) hx hb dX11_layPath_159 (by decide) ?_
    exact J164 _ K185 hB hK185 x1 x2 x3 x6 M _ _ _ (lv_sub hl [0, 1, 2, 3] rfl) hP hS h
  have J115 : ∀ (B : Int32 → Int32 → Int32 → Mem → Prop) (K185 : Int32 → Int32 → Mem → Prop), (∀ (x1 x2 x3 : Int32) (M : Mem) (H : Heap) (locs : List Loc) (ls : Array Slot), lv_has ls 7 [(0, .ref (ad 0)), (1, .int x1), (2, .int x2), (3, .int x3)] → va_P D vwCl (mW cI cZ ad M) H → va_S (mA ad) s.heap H locs → B x1 x2 x3 M → GX11_layPath p l e s m below meth c D cI cZ ad a1 Q H locs (F0 m 14 ls [])) → (∀ (x1 x2 : Int32) (M : Mem) (H : Heap) (locs : List Loc) (ls : Array Slot), lv_has ls 7 [(0, .ref (ad 0)), (1, .int x1), (2, .int x2)] → va_P D vwCl (mW cI cZ ad M) H → va_S (mA ad) s.heap H locs → K185 x1 x2 M → GX11_layPath p l e s m below meth c D cI cZ ad a1 Q H locs (F0 m 185 ls [])) → ∀ (x1 x2 x3 x4 : Int32) (M : Mem) (H : Heap) (locs : List Loc) (ls : Array Slot), lv_has ls 7 [(0, .ref (ad 0)), (1, .int x1), (2, .int x2), (3, .int x3), (4, .int x4)] → va_P D vwCl (mW cI cZ ad M) H → va_S (mA ad) s.heap H locs → wX11_layPath_J115 B K185 Q x1 x2 x3 x4 M → GX11_layPath p l e s m below meth c D cI cZ ad a1 Q H locs (F0 m 115 ls []) := by
    intro B K185 hB hK185 x1 x2 x3 x4 M H locs ls hl hP hS h
    refine lv_iload_n hx hb dX11_layPath_115 rfl (lv_at hl 3 rfl) ?_
    refine lv_aload_n hx hb dX11_layPath_116 rfl (lv_at hl 0 rfl) ?_
    refine va_get (D := D) (ci := 11) (v := .int (M 0 0)) (C := RX11) (T := TX11) (N := 26) hx hb hts inX11 hown hK hP 0 (mW_0 cI cZ ad M) rfl 0 (by decide) k2 (fun _ h9 => h9) rfl dX11_layPath_117 ?_
    refine lv_icmp_ge (tgt := 166) hx hb dX11_layPath_120 (by decide) (fun q120 => ?_) (fun q120 => ?_)
    · have h := h.1 q120
      exact J166 _ K185 hB hK185 x1 x2 x3 x4 M _ _ _ (lv_sub hl [0, 1, 2, 3, 4] rfl) hP hS h
    · have h := h.2 q120
      refine lv_aload_n hx hb dX11_layPath_123 rfl (lv_at hl 0 rfl) ?_
      refine va_get (D := D) (ci := 11) (v := .ref (ad 5)) (C := RX11) (T := TX11) (N := 26) hx hb hts inX11 hown hK hP 0 (mW_0 cI cZ ad M) rfl 6 (by decide) k3 (fun _ h9 => h9) rfl dX11_layPath_124 ?_
      refine lv_iconst (v := 1) hx hb dX11_layPath_127 (by decide) ?_
      obtain ⟨hi128, h⟩ := h
      refine va_iald hx hb hK hP 5 0 (mW_5 cI cZ ad M) rfl hi128 dX11_layPath_128 ?_
      refine lv_aload_n hx hb dX11_layPath_129 rfl (lv_at hl 0 rfl) ?_
      refine va_get (D := D) (ci := 11) (v := .ref (ad 17)) (C := RX11) (T := TX11) (N := 26) hx hb hts inX11 hown hK hP 0 (mW_0 cI cZ ad M) rfl 22 (by decide) k0 (fun _ h9 => h9) rfl dX11_layPath_130 ?_
      refine lv_bipush (v := 21) hx hb dX11_layPath_133 (by decide) ?_
      refine lv_iload_n hx hb dX11_layPath_135 rfl (lv_at hl 2 rfl) ?_
      refine lv_imul hx hb dX11_layPath_136 ?_
      refine lv_iload_n hx hb dX11_layPath_137 rfl (lv_at hl 3 rfl) ?_
      refine lv_iadd hx hb dX11_layPath_138 ?_
      refine lv_iconst (v := 1) hx hb dX11_layPath_139 (by decide) ?_
      refine lv_iadd hx hb dX11_layPath_140 ?_
      obtain ⟨hi141, h⟩ := h
      refine va_iald hx hb hK hP 17 0 (mW_17 cI cZ ad M) rfl hi141 dX11_layPath_141 ?_
      refine lv_iadd hx hb dX11_layPath_142 ?_
      refine lv_topi (fun x6_143 ex6_143 => ?_)
      have h := h x6_143 ex6_143
      refine lv_istore (lv' := [(6, .int x6_143), (0, .ref (ad 0)), (1, .int x1), (2, .int x2), (3, .int x3), (4, .int x4)]) hx hb dX11_layPath_143 hl (by decide) rfl (fun ls hl => ?_)
      refine lv_iload hx hb dX11_layPath_145 (lv_at hl 5 rfl) ?_
      refine lv_if_lt (tgt := 157) hx hb dX11_layPath_147 (by decide) (fun q147 => ?_) (fun q147 => ?_)
      · have h := h.1 q147
        exact J157 _ K185 hB hK185 x1 x2 x3 x6_143 M _ _ _ (lv_sub hl [1, 2, 3, 4, 0] rfl) hP hS h
      · have h := h.2 q147
        refine lv_iload hx hb dX11_layPath_150 (lv_at hl 0 rfl) ?_
        refine lv_iload hx hb dX11_layPath_152 (lv_at hl 5 rfl) ?_
        refine lv_icmp_ge (tgt := 162) hx hb dX11_layPath_154 (by decide) (fun q154 => ?_) (fun q154 => ?_)
        · have h := h.1 q154
          refine lv_iload hx hb dX11_layPath_162 (lv_at hl 5 rfl) ?_
          exact J164 _ K185 hB hK185 x1 x2 x3 x4 M _ _ _ (lv_sub hl [1, 2, 3, 4] rfl) hP hS h
        · have h := h.2 q154
          exact J157 _ K185 hB hK185 x1 x2 x3 x6_143 M _ _ _ (lv_sub hl [1, 2, 3, 4, 0] rfl) hP hS h
  have J113 : ∀ (B : Int32 → Int32 → Int32 → Mem → Prop) (K185 : Int32 → Int32 → Mem → Prop), (∀ (x1 x2 x3 : Int32) (M : Mem) (H : Heap) (locs : List Loc) (ls : Array Slot), lv_has ls 7 [(0, .ref (ad 0)), (1, .int x1), (2, .int x2), (3, .int x3)] → va_P D vwCl (mW cI cZ ad M) H → va_S (mA ad) s.heap H locs → B x1 x2 x3 M → GX11_layPath p l e s m below meth c D cI cZ ad a1 Q H locs (F0 m 14 ls [])) → (∀ (x1 x2 : Int32) (M : Mem) (H : Heap) (locs : List Loc) (ls : Array Slot), lv_has ls 7 [(0, .ref (ad 0)), (1, .int x1), (2, .int x2)] → va_P D vwCl (mW cI cZ ad M) H → va_S (mA ad) s.heap H locs → K185 x1 x2 M → GX11_layPath p l e s m below meth c D cI cZ ad a1 Q H locs (F0 m 185 ls [])) → ∀ (x1 x2 x3 t0 : Int32) (M : Mem) (H : Heap) (locs : List Loc) (ls : Array Slot), lv_has ls 7 [(0, .ref (ad 0)), (1, .int x1), (2, .int x2), (3, .int x3)] → va_P D vwCl (mW cI cZ ad M) H → va_S (mA ad) s.heap H locs → wX11_layPath_J113 B K185 Q x1 x2 x3 t0 M → GX11_layPath p l e s m below meth c D cI cZ ad a1 Q H locs (F0 m 113 ls [.int t0]) := by
    intro B K185 hB hK185 x1 x2 x3 t0 M H locs ls hl hP hS h
    refine lv_istore (lv' := [(4, .int t0), (0, .ref (ad 0)), (1, .int x1), (2, .int x2), (3, .int x3)]) hx hb dX11_layPath_113 hl (by decide) rfl (fun ls hl => ?_)
    exact J115 _ K185 hB hK185 x1 x2 x3 t0 M _ _ _ (lv_sub hl [1, 2, 3, 4, 0] rfl) hP hS h
  have J106 : ∀ (B : Int32 → Int32 → Int32 → Mem → Prop) (K185 : Int32 → Int32 → Mem → Prop), (∀ (x1 x2 x3 : Int32) (M : Mem) (H : Heap) (locs : List Loc) (ls : Array Slot), lv_has ls 7 [(0, .ref (ad 0)), (1, .int x1), (2, .int x2), (3, .int x3)] → va_P D vwCl (mW cI cZ ad M) H → va_S (mA ad) s.heap H locs → B x1 x2 x3 M → GX11_layPath p l e s m below meth c D cI cZ ad a1 Q H locs (F0 m 14 ls [])) → (∀ (x1 x2 : Int32) (M : Mem) (H : Heap) (locs : List Loc) (ls : Array Slot), lv_has ls 7 [(0, .ref (ad 0)), (1, .int x1), (2, .int x2)] → va_P D vwCl (mW cI cZ ad M) H → va_S (mA ad) s.heap H locs → K185 x1 x2 M → GX11_layPath p l e s m below meth c D cI cZ ad a1 Q H locs (F0 m 185 ls [])) → ∀ (x1 x2 x3 x6 : Int32) (M : Mem) (H : Heap) (locs : List Loc) (ls : Array Slot), lv_has ls 7 [(0, .ref (ad 0)), (1, .int x1), (2, .int x2), (3, .int x3), (6, .int x6)] → va_P D vwCl (mW cI cZ ad M) H → va_S (mA ad) s.heap H locs → wX11_layPath_J106 B K185 Q x1 x2 x3 x6 M → GX11_layPath p l e s m below meth c D cI cZ ad a1 Q H locs (F0 m 106 ls []) := by
    intro B K185 hB hK185 x1 x2 x3 x6 M H locs ls hl hP hS h
    refine lv_iload hx hb dX11_layPath_106 (lv_at hl 4 rfl) ?_
    refine lv_goto (tgt := 113) hx hb dX11_layPath_108 (by decide) ?_
    exact J113 _ K185 hB hK185 x1 x2 x3 x6 M _ _ _ (lv_sub hl [0, 1, 2, 3] rfl) hP hS h
  have J62 : ∀ (B : Int32 → Int32 → Int32 → Mem → Prop) (K185 : Int32 → Int32 → Mem → Prop), (∀ (x1 x2 x3 : Int32) (M : Mem) (H : Heap) (locs : List Loc) (ls : Array Slot), lv_has ls 7 [(0, .ref (ad 0)), (1, .int x1), (2, .int x2), (3, .int x3)] → va_P D vwCl (mW cI cZ ad M) H → va_S (mA ad) s.heap H locs → B x1 x2 x3 M → GX11_layPath p l e s m below meth c D cI cZ ad a1 Q H locs (F0 m 14 ls [])) → (∀ (x1 x2 : Int32) (M : Mem) (H : Heap) (locs : List Loc) (ls : Array Slot), lv_has ls 7 [(0, .ref (ad 0)), (1, .int x1), (2, .int x2)] → va_P D vwCl (mW cI cZ ad M) H → va_S (mA ad) s.heap H locs → K185 x1 x2 M → GX11_layPath p l e s m below meth c D cI cZ ad a1 Q H locs (F0 m 185 ls [])) → ∀ (x1 x2 x3 t0 : Int32) (M : Mem) (H : Heap) (locs : List Loc) (ls : Array Slot), lv_has ls 7 [(0, .ref (ad 0)), (1, .int x1), (2, .int x2), (3, .int x3)] → va_P D vwCl (mW cI cZ ad M) H → va_S (mA ad) s.heap H locs → wX11_layPath_J62 B K185 Q x1 x2 x3 t0 M → GX11_layPath p l e s m below meth c D cI cZ ad a1 Q H locs (F0 m 62 ls [.int t0]) := by
    intro B K185 hB hK185 x1 x2 x3 t0 M H locs ls hl hP hS h
    refine lv_istore (lv' := [(4, .int t0), (0, .ref (ad 0)), (1, .int x1), (2, .int x2), (3, .int x3)]) hx hb dX11_layPath_62 hl (by decide) rfl (fun ls hl => ?_)
    refine lv_iload_n hx hb dX11_layPath_64 rfl (lv_at hl 3 rfl) ?_
    refine lv_aload_n hx hb dX11_layPath_65 rfl (lv_at hl 1 rfl) ?_
    refine va_get (D := D) (ci := 11) (v := .int (M 0 0)) (C := RX11) (T := TX11) (N := 26) hx hb hts inX11 hown hK hP 0 (mW_0 cI cZ ad M) rfl 0 (by decide) k2 (fun _ h9 => h9) rfl dX11_layPath_66 ?_
    refine lv_icmp_ge (tgt := 115) hx hb dX11_layPath_69 (by decide) (fun q69 => ?_) (fun q69 => ?_)
    · have h := h.1 q69
      exact J115 _ K185 hB hK185 x1 x2 x3 t0 M _ _ _ (lv_sub hl [1, 2, 3, 4, 0] rfl) hP hS h
    · have h := h.2 q69
      refine lv_aload_n hx hb dX11_layPath_72 rfl (lv_at hl 1 rfl) ?_
      refine va_get (D := D) (ci := 11) (v := .ref (ad 5)) (C := RX11) (T := TX11) (N := 26) hx hb hts inX11 hown hK hP 0 (mW_0 cI cZ ad M) rfl 6 (by decide) k3 (fun _ h9 => h9) rfl dX11_layPath_73 ?_
      refine lv_iconst (v := 1) hx hb dX11_layPath_76 (by decide) ?_
      obtain ⟨hi77, h⟩ := h
      refine va_iald hx hb hK hP 5 0 (mW_5 cI cZ ad M) rfl hi77 dX11_layPath_77 ?_
      refine lv_aload_n hx hb dX11_layPath_78 rfl (lv_at hl 1 rfl) ?_
      refine va_get (D := D) (ci := 11) (v := .ref (ad 17)) (C := RX11) (T := TX11) (N := 26) hx hb hts inX11 hown hK hP 0 (mW_0 cI cZ ad M) rfl 22 (by decide) k0 (fun _ h9 => h9) rfl dX11_layPath_79 ?_
      refine lv_bipush (v := 21) hx hb dX11_layPath_82 (by decide) ?_
      refine lv_iload_n hx hb dX11_layPath_84 rfl (lv_at hl 3 rfl) ?_
      refine lv_iconst (v := 1) hx hb dX11_layPath_85 (by decide) ?_
      refine lv_iadd hx hb dX11_layPath_86 ?_
      refine lv_imul hx hb dX11_layPath_87 ?_
      refine lv_iload_n hx hb dX11_layPath_88 rfl (lv_at hl 4 rfl) ?_
      refine lv_iadd hx hb dX11_layPath_89 ?_
      obtain ⟨hi90, h⟩ := h
      refine va_iald hx hb hK hP 17 0 (mW_17 cI cZ ad M) rfl hi90 dX11_layPath_90 ?_
      refine lv_iadd hx hb dX11_layPath_91 ?_
      refine lv_topi (fun x6_92 ex6_92 => ?_)
      have h := h x6_92 ex6_92
      refine lv_istore (lv' := [(6, .int x6_92), (4, .int t0), (0, .ref (ad 0)), (1, .int x1), (2, .int x2), (3, .int x3)]) hx hb dX11_layPath_92 hl (by decide) rfl (fun ls hl => ?_)
      refine lv_iload hx hb dX11_layPath_94 (lv_at hl 1 rfl) ?_
      refine lv_if_lt (tgt := 106) hx hb dX11_layPath_96 (by decide) (fun q96 => ?_) (fun q96 => ?_)
      · have h := h.1 q96
        exact J106 _ K185 hB hK185 x1 x2 x3 x6_92 M _ _ _ (lv_sub hl [2, 3, 4, 5, 0] rfl) hP hS h
      · have h := h.2 q96
        refine lv_iload hx hb dX11_layPath_99 (lv_at hl 0 rfl) ?_
        refine lv_iload hx hb dX11_layPath_101 (lv_at hl 1 rfl) ?_
        refine lv_icmp_ge (tgt := 111) hx hb dX11_layPath_103 (by decide) (fun q103 => ?_) (fun q103 => ?_)
        · have h := h.1 q103
          refine lv_iload hx hb dX11_layPath_111 (lv_at hl 1 rfl) ?_
          exact J113 _ K185 hB hK185 x1 x2 x3 t0 M _ _ _ (lv_sub hl [2, 3, 4, 5] rfl) hP hS h
        · have h := h.2 q103
          exact J106 _ K185 hB hK185 x1 x2 x3 x6_92 M _ _ _ (lv_sub hl [2, 3, 4, 5, 0] rfl) hP hS h
  have J39 : ∀ (B : Int32 → Int32 → Int32 → Mem → Prop) (K185 : Int32 → Int32 → Mem → Prop), (∀ (x1 x2 x3 : Int32) (M : Mem) (H : Heap) (locs : List Loc) (ls : Array Slot), lv_has ls 7 [(0, .ref (ad 0)), (1, .int x1), (2, .int x2), (3, .int x3)] → va_P D vwCl (mW cI cZ ad M) H → va_S (mA ad) s.heap H locs → B x1 x2 x3 M → GX11_layPath p l e s m below meth c D cI cZ ad a1 Q H locs (F0 m 14 ls [])) → (∀ (x1 x2 : Int32) (M : Mem) (H : Heap) (locs : List Loc) (ls : Array Slot), lv_has ls 7 [(0, .ref (ad 0)), (1, .int x1), (2, .int x2)] → va_P D vwCl (mW cI cZ ad M) H → va_S (mA ad) s.heap H locs → K185 x1 x2 M → GX11_layPath p l e s m below meth c D cI cZ ad a1 Q H locs (F0 m 185 ls [])) → ∀ (x1 x2 x3 t0 : Int32) (M : Mem) (H : Heap) (locs : List Loc) (ls : Array Slot), lv_has ls 7 [(0, .ref (ad 0)), (1, .int x1), (2, .int x2), (3, .int x3)] → va_P D vwCl (mW cI cZ ad M) H → va_S (mA ad) s.heap H locs → wX11_layPath_J39 B K185 Q x1 x2 x3 t0 M → GX11_layPath p l e s m below meth c D cI cZ ad a1 Q H locs (F0 m 39 ls [.int t0]) := by
    intro B K185 hB hK185 x1 x2 x3 t0 M H locs ls hl hP hS h
    refine lv_istore (lv' := [(4, .int t0), (0, .ref (ad 0)), (1, .int x1), (2, .int x2), (3, .int x3)]) hx hb dX11_layPath_39 hl (by decide) rfl (fun ls hl => ?_)
    refine lv_aload_n hx hb dX11_layPath_41 rfl (lv_at hl 1 rfl) ?_
    refine lv_iload_n hx hb dX11_layPath_42 rfl (lv_at hl 3 rfl) ?_
    refine lv_iload_n hx hb dX11_layPath_43 rfl (lv_at hl 4 rfl) ?_
    refine lv_iload_n hx hb dX11_layPath_44 rfl (lv_at hl 2 rfl) ?_
    refine m_callVi (As := [.int x2, .int x3, .int x1]) (rest := []) ⟨hx, hb, hml, hown, hts⟩ (kX11_payMatch l D cI cZ ad hD M x2 x3 x1 _ h) (cwV 3 hts (gdV uS (inA_26 _ (List.mem_of_getElem? (i := 15) rfl)) vX11_payMatch) rfl rfl rfl (by decide +kernel) ⟨Nat.le_of_ble_eq_true rfl, Nat.le_of_ble_eq_true rfl⟩) (va_recv hK hP (ci := 11) (q0 := 0) rfl (mW_0 cI cZ ad M)) hP hK hS hl.1 rfl rfl (Nat.le_of_ble_eq_true rfl) dX11_layPath_45 (fun r45 M45 H locs h hP hS => ?_)
    refine lv_istore (lv' := [(5, .int r45), (4, .int t0), (0, .ref (ad 0)), (1, .int x1), (2, .int x2), (3, .int x3)]) hx hb dX11_layPath_48 hl (by decide) rfl (fun ls hl => ?_)
    refine lv_iload hx hb dX11_layPath_50 (lv_at hl 0 rfl) ?_
    refine lv_if_lt (tgt := 60) hx hb dX11_layPath_52 (by decide) (fun q52 => ?_) (fun q52 => ?_)
    · have h := h.1 q52
      refine lv_iload hx hb dX11_layPath_60 (lv_at hl 1 rfl) ?_
      exact J62 _ K185 hB hK185 x1 x2 x3 t0 M45 _ _ _ (lv_sub hl [2, 3, 4, 5] rfl) hP hS h
    · have h := h.2 q52
      refine lv_iload hx hb dX11_layPath_55 (lv_at hl 0 rfl) ?_
      refine lv_goto (tgt := 62) hx hb dX11_layPath_57 (by decide) ?_
      exact J62 _ K185 hB hK185 x1 x2 x3 r45 M45 _ _ _ (lv_sub hl [2, 3, 4, 5] rfl) hP hS h
  have J38 : ∀ (B : Int32 → Int32 → Int32 → Mem → Prop) (K185 : Int32 → Int32 → Mem → Prop), (∀ (x1 x2 x3 : Int32) (M : Mem) (H : Heap) (locs : List Loc) (ls : Array Slot), lv_has ls 7 [(0, .ref (ad 0)), (1, .int x1), (2, .int x2), (3, .int x3)] → va_P D vwCl (mW cI cZ ad M) H → va_S (mA ad) s.heap H locs → B x1 x2 x3 M → GX11_layPath p l e s m below meth c D cI cZ ad a1 Q H locs (F0 m 14 ls [])) → (∀ (x1 x2 : Int32) (M : Mem) (H : Heap) (locs : List Loc) (ls : Array Slot), lv_has ls 7 [(0, .ref (ad 0)), (1, .int x1), (2, .int x2)] → va_P D vwCl (mW cI cZ ad M) H → va_S (mA ad) s.heap H locs → K185 x1 x2 M → GX11_layPath p l e s m below meth c D cI cZ ad a1 Q H locs (F0 m 185 ls [])) → ∀ (x1 x2 x3 : Int32) (M : Mem) (H : Heap) (locs : List Loc) (ls : Array Slot), lv_has ls 7 [(0, .ref (ad 0)), (1, .int x1), (2, .int x2), (3, .int x3)] → va_P D vwCl (mW cI cZ ad M) H → va_S (mA ad) s.heap H locs → wX11_layPath_J38 B K185 Q x1 x2 x3 M → GX11_layPath p l e s m below meth c D cI cZ ad a1 Q H locs (F0 m 38 ls []) := by
    intro B K185 hB hK185 x1 x2 x3 M H locs ls hl hP hS h
    refine lv_iconst (v := (-1)) hx hb dX11_layPath_38 (by decide) ?_
    exact J39 _ K185 hB hK185 x1 x2 x3 (-1) M _ _ _ (lv_sub hl [0, 1, 2, 3] rfl) hP hS h
  have L14 : ∀ (K185 : Int32 → Int32 → Mem → Prop), (∀ (x1 x2 : Int32) (M : Mem) (H : Heap) (locs : List Loc) (ls : Array Slot), lv_has ls 7 [(0, .ref (ad 0)), (1, .int x1), (2, .int x2)] → va_P D vwCl (mW cI cZ ad M) H → va_S (mA ad) s.heap H locs → K185 x1 x2 M → GX11_layPath p l e s m below meth c D cI cZ ad a1 Q H locs (F0 m 185 ls [])) → ∀ n : Nat, ∀ (x1 x2 x3 : Int32) (M : Mem) (H : Heap) (locs : List Loc) (ls : Array Slot), lv_has ls 7 [(0, .ref (ad 0)), (1, .int x1), (2, .int x2), (3, .int x3)] → va_P D vwCl (mW cI cZ ad M) H → va_S (mA ad) s.heap H locs → wX11_layPath_L14 K185 Q n x1 x2 x3 M → GX11_layPath p l e s m below meth c D cI cZ ad a1 Q H locs (F0 m 14 ls []) := by
    intro K185 hK185 n
    induction n with
    | zero => intro x1 x2 x3 M H locs ls hl hP hS h; exact (show False from h).elim
    | succ n hB =>
      intro x1 x2 x3 M H locs ls hl hP hS h
      rw [wX11_layPath_L14_s] at h
      refine lv_iload_n hx hb dX11_layPath_14 rfl (lv_at hl 3 rfl) ?_
      refine lv_if_lt (tgt := 185) hx hb dX11_layPath_15 (by decide) (fun q15 => ?_) (fun q15 => ?_)
      · have h := h.1 q15
        exact hK185 x1 x2 M _ _ _ (lv_sub hl [0, 1, 2] rfl) hP hS h
      · have h := h.2 q15
        refine lv_iload_n hx hb dX11_layPath_18 rfl (lv_at hl 2 rfl) ?_
        refine lv_aload_n hx hb dX11_layPath_19 rfl (lv_at hl 0 rfl) ?_
        refine va_get (D := D) (ci := 11) (v := .int (M 0 0)) (C := RX11) (T := TX11) (N := 26) hx hb hts inX11 hown hK hP 0 (mW_0 cI cZ ad M) rfl 0 (by decide) k2 (fun _ h9 => h9) rfl dX11_layPath_20 ?_
        refine lv_icmp_ne (tgt := 38) hx hb dX11_layPath_23 (by decide) (fun q23 => ?_) (fun q23 => ?_)
        · have h := h.1 q23
          exact J38 _ K185 hB hK185 x1 x2 x3 M _ _ _ (lv_sub hl [0, 1, 2, 3] rfl) hP hS h
        · have h := h.2 q23
          refine lv_iload_n hx hb dX11_layPath_26 rfl (lv_at hl 3 rfl) ?_
          refine lv_aload_n hx hb dX11_layPath_27 rfl (lv_at hl 0 rfl) ?_
          refine va_get (D := D) (ci := 11) (v := .int (M 0 0)) (C := RX11) (T := TX11) (N := 26) hx hb hts inX11 hown hK hP 0 (mW_0 cI cZ ad M) rfl 0 (by decide) k2 (fun _ h9 => h9) rfl dX11_layPath_28 ?_
          refine lv_icmp_ne (tgt := 38) hx hb dX11_layPath_31 (by decide) (fun q31 => ?_) (fun q31 => ?_)
          · have h := h.1 q31
            exact J38 _ K185 hB hK185 x1 x2 x3 M _ _ _ (lv_sub hl [0, 1, 2, 3] rfl) hP hS h
          · have h := h.2 q31
            refine lv_iconst (v := 0) hx hb dX11_layPath_34 (by decide) ?_
            refine lv_goto (tgt := 39) hx hb dX11_layPath_35 (by decide) ?_
            exact J39 _ K185 hB hK185 x1 x2 x3 0 M _ _ _ (lv_sub hl [0, 1, 2, 3] rfl) hP hS h
  have L5 : ∀ (K191 : Int32 → Mem → Prop), (∀ (x1 : Int32) (M : Mem) (H : Heap) (locs : List Loc) (ls : Array Slot), lv_has ls 7 [(0, .ref (ad 0)), (1, .int x1)] → va_P D vwCl (mW cI cZ ad M) H → va_S (mA ad) s.heap H locs → K191 x1 M → GX11_layPath p l e s m below meth c D cI cZ ad a1 Q H locs (F0 m 191 ls [])) → ∀ n : Nat, ∀ (x1 x2 : Int32) (M : Mem) (H : Heap) (locs : List Loc) (ls : Array Slot), lv_has ls 7 [(0, .ref (ad 0)), (1, .int x1), (2, .int x2)] → va_P D vwCl (mW cI cZ ad M) H → va_S (mA ad) s.heap H locs → wX11_layPath_L5 K191 Q n x1 x2 M → GX11_layPath p l e s m below meth c D cI cZ ad a1 Q H locs (F0 m 5 ls []) := by
    intro K191 hK191 n
    induction n with
    | zero => intro x1 x2 M H locs ls hl hP hS h; exact (show False from h).elim
    | succ n hB =>
      intro x1 x2 M H locs ls hl hP hS h
      rw [wX11_layPath_L5_s] at h
      refine lv_iload_n hx hb dX11_layPath_5 rfl (lv_at hl 2 rfl) ?_
      refine lv_if_lt (tgt := 191) hx hb dX11_layPath_6 (by decide) (fun q6 => ?_) (fun q6 => ?_)
      · have h := h.1 q6
        exact hK191 x1 M _ _ _ (lv_sub hl [0, 1] rfl) hP hS h
      · have h := h.2 q6
        refine lv_aload_n hx hb dX11_layPath_9 rfl (lv_at hl 0 rfl) ?_
        refine va_get (D := D) (ci := 11) (v := .int (M 0 0)) (C := RX11) (T := TX11) (N := 26) hx hb hts inX11 hown hK hP 0 (mW_0 cI cZ ad M) rfl 0 (by decide) k2 (fun _ h9 => h9) rfl dX11_layPath_10 ?_
        refine lv_topi (fun x3_13 ex3_13 => ?_)
        have h := h x3_13 ex3_13
        refine lv_istore_n (lv' := [(3, .int x3_13), (0, .ref (ad 0)), (1, .int x1), (2, .int x2)]) hx hb dX11_layPath_13 rfl hl (by decide) rfl (fun ls hl => ?_)
        obtain ⟨n, h⟩ := h
        refine L14 _ (fun x1 x2 M H locs ls hl hP hS h => ?_) n x1 x2 x3_13 M _ _ _ (lv_sub hl [1, 2, 3, 0] rfl) hP hS h
        obtain ⟨x2_185, ex2_185⟩ : ∃ y : Int32, y = x2 + (-1) := ⟨_, rfl⟩
        have h := h x2_185 ex2_185
        refine lv_iinc (v := x2_185) (lv' := [(2, .int x2_185), (0, .ref (ad 0)), (1, .int x1)]) hx hb dX11_layPath_185 hl (k := 2) rfl (by rw [ex2_185]; rfl) (by decide) rfl (fun ls hl => ?_)
        refine lv_goto (tgt := 5) hx hb dX11_layPath_188 (by decide) ?_
        exact hB x1 x2_185 M _ _ _ (lv_sub hl [1, 2, 0] rfl) hP hS h
  have hl := lv_entry ([.ref (ad 0), .int a1]) (n := 7) (Nat.le_of_ble_eq_true rfl)
  rw [lg_entry_eq]
  generalize (lg_sl ([.ref (ad 0), .int a1]) ++ List.replicate (7 - (lg_sl ([.ref (ad 0), .int a1])).length) Slot.unset).toArray = ls at hl ⊢
  have hl : lv_has ls 7 [(0, .ref (ad 0)), (1, .int a1)] := hl
  refine lv_aload_n hx hb dX11_layPath_0 rfl (lv_at hl 0 rfl) ?_
  refine va_get (D := D) (ci := 11) (v := .int (M 0 0)) (C := RX11) (T := TX11) (N := 26) hx hb hts inX11 hown hK hP 0 (mW_0 cI cZ ad M) rfl 0 (by decide) k2 (fun _ h9 => h9) rfl dX11_layPath_1 ?_
  refine lv_topi (fun x2_4 ex2_4 => ?_)
  have h := h x2_4 ex2_4
  refine lv_istore_n (lv' := [(2, .int x2_4), (0, .ref (ad 0)), (1, .int a1)]) hx hb dX11_layPath_4 rfl hl (by decide) rfl (fun ls hl => ?_)
  obtain ⟨n, h⟩ := h
  refine L5 _ (fun x1 M H locs ls hl hP hS h => ?_) n a1 x2_4 M _ _ _ (lv_sub hl [1, 2, 0] rfl) hP hS h
  refine lv_aload_n hx hb dX11_layPath_191 rfl (lv_at hl 0 rfl) ?_
  refine lv_iload_n hx hb dX11_layPath_192 rfl (lv_at hl 1 rfl) ?_
  refine m_callVv (As := [.int x1]) (rest := []) ⟨hx, hb, hml, hown, hts⟩ (kX11_goPath l D cI cZ ad hD M x1 _ h) (cwV 1 hts (gdV uS (inA_26 _ (List.mem_of_getElem? (i := 19) rfl)) vX11_goPath) rfl rfl rfl (by decide +kernel) ⟨Nat.le_of_ble_eq_true rfl, Nat.le_of_ble_eq_true rfl⟩) (va_recv hK hP (ci := 11) (q0 := 0) rfl (mW_0 cI cZ ad M)) hP hK hS hl.1 rfl rfl (Nat.le_of_ble_eq_true rfl) dX11_layPath_193 (fun M193 H locs h hP hS => ?_)
  exact W.vret hx hb hr (fun t ht hW => ⟨⟨M193, rfl, h, mAt_of ht hP⟩, hS.F ht⟩) hS.2.2 dX11_layPath_196
set_option maxHeartbeats 4000000 in
set_option maxRecDepth 100000 in
theorem kX11_path (l : Launch) (D : va_G) (cI cZ : ClassId) (ad : Nat → Nat) (hD : ∀ M : Mem, va_D (mA ad) (mW cI cZ ad M)) (M : Mem) (a1 : Int32) (Q : Int32 → Mem → Prop) (h : wX11_path M a1 Q) : Met l yX11_path uX11_path ({ frames := 7, cells := 0, slots := 0, locals := 174 }) (va_Pc [.ref (ad 0), .int a1] (mPre D cI cZ ad M)) (va_Qi Q (mAt D cI cZ ad) (mA ad)) 0 0 (mA ad) := by
  refine Met.ofW (cc := cX11_path) (maxL := 2) (ret := (some .int)) (by decide) rfl ?_
  intro p e s m args below meth c s₁ B hml hv
  obtain ⟨rfl, hP, hK⟩ := hv
  have hx := B.exec
  have hb := B.bytes
  have hr := B.returns
  have hts := atoms_spec (ws := uX11_path) B.pre
  have hown : s.vm.findClass RX11 = some m.cls := findClass_of_methodNamed B.named
  have hlocks := B.notSynchronized
  have hS : va_S (mA ad) s.heap s.heap [] := va_S.rf
  have k0 := hts (.fieldLink RX11 13 "TwoEyesModel" "height" "I") (List.mem_cons_of_mem _ (inA_6 _ (List.mem_of_getElem? (i := 19) rfl)))
  have inX11 : ∀ w ∈ wsX110, w ∈ uX11_path := fun w h => List.mem_cons_of_mem _ (inCX11 w h)
  have k2 := hts (.fieldLink RX11 66 "TwoEyesModel" "toPay" "[I") (List.mem_cons_of_mem _ (inA_7 _ (List.mem_of_getElem? (i := 12) rfl)))
  have hl := lv_entry ([.ref (ad 0), .int a1]) (n := 2) (Nat.le_of_ble_eq_true rfl)
  rw [lg_entry_eq]
  generalize (lg_sl ([.ref (ad 0), .int a1]) ++ List.replicate (2 - (lg_sl ([.ref (ad 0), .int a1])).length) Slot.unset).toArray = ls at hl ⊢
  have hl : lv_has ls 2 [(0, .ref (ad 0)), (1, .int a1)] := hl
  refine lv_iload_n hx hb dX11_path_0 rfl (lv_at hl 1 rfl) ?_
  refine lv_iconst (v := 0) hx hb dX11_path_1 (by decide) ?_
  refine lv_aload_n hx hb dX11_path_2 rfl (lv_at hl 0 rfl) ?_
  refine va_get (D := D) (ci := 11) (v := .int (M 0 1)) (C := RX11) (T := TX11) (N := 26) hx hb hts inX11 hown hK hP 0 (mW_0 cI cZ ad M) rfl 1 (by decide) k0 (fun _ h9 => h9) rfl dX11_path_3 ?_
  refine lv_iconst (v := 1) hx hb dX11_path_6 (by decide) ?_
  refine lv_isub hx hb dX11_path_7 ?_
  refine m_callSi (As := [.int a1, .int 0, .int ((M 0 1) - 1)]) (rest := []) ⟨hx, hb, hml, hown, hts⟩ (kX11_in l D cI cZ ad hD M a1 0 ((M 0 1) - 1) _ h) (va_cwS 3 hts (gdS uS (inA_9 _ (List.mem_of_getElem? (i := 4) rfl)) vX11_in) rfl rfl rfl (by decide +kernel) ⟨Nat.le_of_ble_eq_true rfl, Nat.le_of_ble_eq_true rfl⟩) hP hK hS hl.1 rfl rfl (Nat.le_of_ble_eq_true rfl) dX11_path_8 (fun r8 M8 H locs h hP hS => ?_)
  refine lv_if_ne (tgt := 16) hx hb dX11_path_11 (by decide) (fun q11 => ?_) (fun q11 => ?_)
  · have h := h.1 q11
    refine lv_aload_n hx hb dX11_path_16 rfl (lv_at hl 0 rfl) ?_
    refine lv_iload_n hx hb dX11_path_17 rfl (lv_at hl 1 rfl) ?_
    refine m_callVv (As := [.int a1]) (rest := []) ⟨hx, hb, hml, hown, hts⟩ (kX11_layPath l D cI cZ ad hD M8 a1 _ h) (cwV 1 hts (gdV uS (inA_26 _ (List.mem_of_getElem? (i := 11) rfl)) vX11_layPath) rfl rfl rfl (by decide +kernel) ⟨Nat.le_of_ble_eq_true rfl, Nat.le_of_ble_eq_true rfl⟩) (va_recv hK hP (ci := 11) (q0 := 0) rfl (mW_0 cI cZ ad M8)) hP hK hS hl.1 rfl rfl (Nat.le_of_ble_eq_true rfl) dX11_path_18 (fun M18 H locs h hP hS => ?_)
    refine lv_aload_n hx hb dX11_path_21 rfl (lv_at hl 0 rfl) ?_
    refine va_get (D := D) (ci := 11) (v := .ref (ad 17)) (C := RX11) (T := TX11) (N := 26) hx hb hts inX11 hown hK hP 0 (mW_0 cI cZ ad M18) rfl 22 (by decide) k2 (fun _ h9 => h9) rfl dX11_path_22 ?_
    refine lv_iconst (v := 0) hx hb dX11_path_25 (by decide) ?_
    obtain ⟨hi26, h⟩ := h
    refine va_iald hx hb hK hP 17 0 (mW_17 cI cZ ad M18) rfl hi26 dX11_path_26 ?_
    exact W.iret (v := (M18 17 (0 : Int32).toNatClampNeg)) hx hb hr (fun t ht hW => ⟨⟨(M18 17 (0 : Int32).toNatClampNeg), M18, rfl, h, mAt_of ht hP⟩, hS.F ht⟩) hS.2.2 dX11_path_27
  · have h := h.2 q11
    refine lv_iconst (v := (-1)) hx hb dX11_path_14 (by decide) ?_
    exact W.iret (v := (-1)) hx hb hr (fun t ht hW => ⟨⟨(-1), M8, rfl, h, mAt_of ht hP⟩, hS.F ht⟩) hS.2.2 dX11_path_15
set_option maxHeartbeats 4000000 in
set_option maxRecDepth 100000 in
theorem kX11_matched (l : Launch) (D : va_G) (cI cZ : ClassId) (ad : Nat → Nat) (hD : ∀ M : Mem, va_D (mA ad) (mW cI cZ ad M)) (M : Mem) (a1 a2 : Int32) (Q : Int32 → Mem → Prop) (h : wX11_matched M a1 a2 Q) : Met l yX11_matched uX11_matched ({ frames := 7, cells := 0, slots := 0, locals := 174 }) (va_Pc [.ref (ad 0), .int a1, .int a2] (mPre D cI cZ ad M)) (va_Qi Q (mAt D cI cZ ad) (mA ad)) 0 0 (mA ad) := by
  refine Met.ofW (cc := cX11_matched) (maxL := 3) (ret := (some .int)) (by decide) rfl ?_
  intro p e s m args below meth c s₁ B hml hv
  obtain ⟨rfl, hP, hK⟩ := hv
  have hx := B.exec
  have hb := B.bytes
  have hr := B.returns
  have hts := atoms_spec (ws := uX11_matched) B.pre
  have hown : s.vm.findClass RX11 = some m.cls := findClass_of_methodNamed B.named
  have hlocks := B.notSynchronized
  have hS : va_S (mA ad) s.heap s.heap [] := va_S.rf
  have k0 := hts (.fieldLink RX11 69 "TwoEyesModel" "matchOf" "[I") (List.mem_cons_of_mem _ (inA_7 _ (List.mem_of_getElem? (i := 13) rfl)))
  have inX11 : ∀ w ∈ wsX110, w ∈ uX11_matched := fun w h => List.mem_cons_of_mem _ (inCX11 w h)
  have hl := lv_entry ([.ref (ad 0), .int a1, .int a2]) (n := 3) (Nat.le_of_ble_eq_true rfl)
  rw [lg_entry_eq]
  generalize (lg_sl ([.ref (ad 0), .int a1, .int a2]) ++ List.replicate (3 - (lg_sl ([.ref (ad 0), .int a1, .int a2])).length) Slot.unset).toArray = ls at hl ⊢
  have hl : lv_has ls 3 [(0, .ref (ad 0)), (1, .int a1), (2, .int a2)] := hl
  refine lv_aload_n hx hb dX11_matched_0 rfl (lv_at hl 0 rfl) ?_
  refine lv_iload_n hx hb dX11_matched_1 rfl (lv_at hl 1 rfl) ?_
  refine lv_iload_n hx hb dX11_matched_2 rfl (lv_at hl 2 rfl) ?_
  refine m_callVi (As := [.int a1, .int a2]) (rest := []) ⟨hx, hb, hml, hown, hts⟩ (kX11_isSquare l D cI cZ ad hD M a1 a2 _ h) (cwV 2 hts (gdV uS (inA_13 _ (List.mem_of_getElem? (i := 11) rfl)) vX11_isSquare) rfl rfl rfl (by decide +kernel) ⟨Nat.le_of_ble_eq_true rfl, Nat.le_of_ble_eq_true rfl⟩) (va_recv hK hP (ci := 11) (q0 := 0) rfl (mW_0 cI cZ ad M)) hP hK hS hl.1 rfl rfl (Nat.le_of_ble_eq_true rfl) dX11_matched_3 (fun r3 M3 H locs h hP hS => ?_)
  refine lv_if_ne (tgt := 11) hx hb dX11_matched_6 (by decide) (fun q6 => ?_) (fun q6 => ?_)
  · have h := h.1 q6
    refine lv_aload_n hx hb dX11_matched_11 rfl (lv_at hl 0 rfl) ?_
    refine lv_iload_n hx hb dX11_matched_12 rfl (lv_at hl 2 rfl) ?_
    refine m_callVv (As := [.int a2]) (rest := []) ⟨hx, hb, hml, hown, hts⟩ (kX11_layPath l D cI cZ ad hD M3 a2 _ h) (cwV 1 hts (gdV uS (inA_26 _ (List.mem_of_getElem? (i := 11) rfl)) vX11_layPath) rfl rfl rfl (by decide +kernel) ⟨Nat.le_of_ble_eq_true rfl, Nat.le_of_ble_eq_true rfl⟩) (va_recv hK hP (ci := 11) (q0 := 0) rfl (mW_0 cI cZ ad M3)) hP hK hS hl.1 rfl rfl (Nat.le_of_ble_eq_true rfl) dX11_matched_13 (fun M13 H locs h hP hS => ?_)
    refine lv_aload_n hx hb dX11_matched_16 rfl (lv_at hl 0 rfl) ?_
    refine va_get (D := D) (ci := 11) (v := .ref (ad 18)) (C := RX11) (T := TX11) (N := 26) hx hb hts inX11 hown hK hP 0 (mW_0 cI cZ ad M13) rfl 23 (by decide) k0 (fun _ h9 => h9) rfl dX11_matched_17 ?_
    refine lv_iload_n hx hb dX11_matched_20 rfl (lv_at hl 1 rfl) ?_
    obtain ⟨hi21, h⟩ := h
    refine va_iald hx hb hK hP 18 0 (mW_18 cI cZ ad M13) rfl hi21 dX11_matched_21 ?_
    exact W.iret (v := (M13 18 (a1).toNatClampNeg)) hx hb hr (fun t ht hW => ⟨⟨(M13 18 (a1).toNatClampNeg), M13, rfl, h, mAt_of ht hP⟩, hS.F ht⟩) hS.2.2 dX11_matched_22
  · have h := h.2 q6
    refine lv_iconst (v := (-1)) hx hb dX11_matched_9 (by decide) ?_
    exact W.iret (v := (-1)) hx hb hr (fun t ht hW => ⟨⟨(-1), M3, rfl, h, mAt_of ht hP⟩, hS.F ht⟩) hS.2.2 dX11_matched_10
set_option maxHeartbeats 4000000 in
set_option maxRecDepth 100000 in
theorem kX11_hidden (l : Launch) (D : va_G) (cI cZ : ClassId) (ad : Nat → Nat) (hD : ∀ M : Mem, va_D (mA ad) (mW cI cZ ad M)) (M : Mem) (a1 a2 : Int32) (Q : Int32 → Mem → Prop) (h : wX11_hidden M a1 a2 Q) : Met l yX11_hidden uX11_hidden ({ frames := 7, cells := 0, slots := 0, locals := 174 }) (va_Pc [.ref (ad 0), .int a1, .int a2] (mPre D cI cZ ad M)) (va_Qi Q (mAt D cI cZ ad) (mA ad)) 0 0 (mA ad) := by
  refine Met.ofW (cc := cX11_hidden) (maxL := 3) (ret := (some .int)) (by decide) rfl ?_
  intro p e s m args below meth c s₁ B hml hv
  obtain ⟨rfl, hP, hK⟩ := hv
  have hx := B.exec
  have hb := B.bytes
  have hr := B.returns
  have hts := atoms_spec (ws := uX11_hidden) B.pre
  have hown : s.vm.findClass RX11 = some m.cls := findClass_of_methodNamed B.named
  have hlocks := B.notSynchronized
  have hS : va_S (mA ad) s.heap s.heap [] := va_S.rf
  have k0 := hts (.fieldLink RX11 165 "TwoEyesModel" "hiddenRight" "I") (List.mem_cons_of_mem _ (inA_27 _ (List.mem_of_getElem? (i := 0) rfl)))
  have inX11 : ∀ w ∈ wsX110, w ∈ uX11_hidden := fun w h => List.mem_cons_of_mem _ (inCX11 w h)
  have k2 := hts (.fieldLink RX11 162 "TwoEyesModel" "hiddenLeft" "I") (List.mem_cons_of_mem _ (inA_26 _ (List.mem_of_getElem? (i := 23) rfl)))
  have hl := lv_entry ([.ref (ad 0), .int a1, .int a2]) (n := 3) (Nat.le_of_ble_eq_true rfl)
  rw [lg_entry_eq]
  generalize (lg_sl ([.ref (ad 0), .int a1, .int a2]) ++ List.replicate (3 - (lg_sl ([.ref (ad 0), .int a1, .int a2])).length) Slot.unset).toArray = ls at hl ⊢
  have hl : lv_has ls 3 [(0, .ref (ad 0)), (1, .int a1), (2, .int a2)] := hl
  refine lv_aload_n hx hb dX11_hidden_0 rfl (lv_at hl 0 rfl) ?_
  refine lv_iload_n hx hb dX11_hidden_1 rfl (lv_at hl 1 rfl) ?_
  refine lv_iload_n hx hb dX11_hidden_2 rfl (lv_at hl 2 rfl) ?_
  refine m_callVi (As := [.int a1, .int a2]) (rest := []) ⟨hx, hb, hml, hown, hts⟩ (kX11_isRow l D cI cZ ad hD M a1 a2 _ h) (cwV 2 hts (gdV uS (inA_11 _ (List.mem_of_getElem? (i := 2) rfl)) vX11_isRow) rfl rfl rfl (by decide +kernel) ⟨Nat.le_of_ble_eq_true rfl, Nat.le_of_ble_eq_true rfl⟩) (va_recv hK hP (ci := 11) (q0 := 0) rfl (mW_0 cI cZ ad M)) hP hK hS hl.1 rfl rfl (Nat.le_of_ble_eq_true rfl) dX11_hidden_3 (fun r3 M3 H locs h hP hS => ?_)
  refine lv_if_ne (tgt := 11) hx hb dX11_hidden_6 (by decide) (fun q6 => ?_) (fun q6 => ?_)
  · have h := h.1 q6
    refine lv_aload_n hx hb dX11_hidden_11 rfl (lv_at hl 0 rfl) ?_
    refine lv_iload_n hx hb dX11_hidden_12 rfl (lv_at hl 2 rfl) ?_
    refine m_callVv (As := [.int a2]) (rest := []) ⟨hx, hb, hml, hown, hts⟩ (kX11_layPath l D cI cZ ad hD M3 a2 _ h) (cwV 1 hts (gdV uS (inA_26 _ (List.mem_of_getElem? (i := 11) rfl)) vX11_layPath) rfl rfl rfl (by decide +kernel) ⟨Nat.le_of_ble_eq_true rfl, Nat.le_of_ble_eq_true rfl⟩) (va_recv hK hP (ci := 11) (q0 := 0) rfl (mW_0 cI cZ ad M3)) hP hK hS hl.1 rfl rfl (Nat.le_of_ble_eq_true rfl) dX11_hidden_13 (fun M13 H locs h hP hS => ?_)
    refine lv_iload_n hx hb dX11_hidden_16 rfl (lv_at hl 1 rfl) ?_
    refine lv_if_ne (tgt := 27) hx hb dX11_hidden_17 (by decide) (fun q17 => ?_) (fun q17 => ?_)
    · have h := h.1 q17
      refine lv_aload_n hx hb dX11_hidden_27 rfl (lv_at hl 0 rfl) ?_
      refine va_get (D := D) (ci := 11) (v := .int (M13 0 25)) (C := RX11) (T := TX11) (N := 26) hx hb hts inX11 hown hK hP 0 (mW_0 cI cZ ad M13) rfl 25 (by decide) k0 (fun _ h9 => h9) rfl dX11_hidden_28 ?_
      exact W.iret (v := (M13 0 25)) hx hb hr (fun t ht hW => ⟨⟨(M13 0 25), M13, rfl, h, mAt_of ht hP⟩, hS.F ht⟩) hS.2.2 dX11_hidden_31
    · have h := h.2 q17
      refine lv_aload_n hx hb dX11_hidden_20 rfl (lv_at hl 0 rfl) ?_
      refine va_get (D := D) (ci := 11) (v := .int (M13 0 24)) (C := RX11) (T := TX11) (N := 26) hx hb hts inX11 hown hK hP 0 (mW_0 cI cZ ad M13) rfl 24 (by decide) k2 (fun _ h9 => h9) rfl dX11_hidden_21 ?_
      refine lv_goto (tgt := 31) hx hb dX11_hidden_24 (by decide) ?_
      exact W.iret (v := (M13 0 24)) hx hb hr (fun t ht hW => ⟨⟨(M13 0 24), M13, rfl, h, mAt_of ht hP⟩, hS.F ht⟩) hS.2.2 dX11_hidden_31
  · have h := h.2 q6
    refine lv_iconst (v := (-1)) hx hb dX11_hidden_9 (by decide) ?_
    exact W.iret (v := (-1)) hx hb hr (fun t ht hW => ⟨⟨(-1), M3, rfl, h, mAt_of ht hP⟩, hS.F ht⟩) hS.2.2 dX11_hidden_10
set_option maxHeartbeats 4000000 in
set_option maxRecDepth 100000 in
theorem kX11_run (l : Launch) (D : va_G) (cI cZ : ClassId) (ad : Nat → Nat) (hD : ∀ M : Mem, va_D (mA ad) (mW cI cZ ad M)) (M : Mem) (a1 a2 a3 a4 : Int32) (Q : Int32 → Mem → Prop) (h : wX11_run M a1 a2 a3 a4 Q) : Met l yX11_run uX11_run ({ frames := 5, cells := 0, slots := 0, locals := 124 }) (va_Pc [.ref (ad 0), .int a1, .int a2, .int a3, .int a4] (mPre D cI cZ ad M)) (va_Qi Q (mAt D cI cZ ad) (mA ad)) 0 0 (mA ad) := by
  refine Met.ofW (cc := cX11_run) (maxL := 5) (ret := (some .int)) (by decide) rfl ?_
  intro p e s m args below meth c s₁ B hml hv
  obtain ⟨rfl, hP, hK⟩ := hv
  have hx := B.exec
  have hb := B.bytes
  have hr := B.returns
  have hts := atoms_spec (ws := uX11_run) B.pre
  have hown : s.vm.findClass RX11 = some m.cls := findClass_of_methodNamed B.named
  have hlocks := B.notSynchronized
  have hS : va_S (mA ad) s.heap s.heap [] := va_S.rf
  have k0 := hts (.fieldLink RX11 51 "TwoEyesModel" "runs" "[I") (List.mem_cons_of_mem _ (inA_7 _ (List.mem_of_getElem? (i := 7) rfl)))
  have inX11 : ∀ w ∈ wsX110, w ∈ uX11_run := fun w h => List.mem_cons_of_mem _ (inCX11 w h)
  have k2 := hts (.fieldLink RX11 7 "TwoEyesModel" "width" "I") (List.mem_cons_of_mem _ (inA_6 _ (List.mem_of_getElem? (i := 18) rfl)))
  have hl := lv_entry ([.ref (ad 0), .int a1, .int a2, .int a3, .int a4]) (n := 5) (Nat.le_of_ble_eq_true rfl)
  rw [lg_entry_eq]
  generalize (lg_sl ([.ref (ad 0), .int a1, .int a2, .int a3, .int a4]) ++ List.replicate (5 - (lg_sl ([.ref (ad 0), .int a1, .int a2, .int a3, .int a4])).length) Slot.unset).toArray = ls at hl ⊢
  have hl : lv_has ls 5 [(0, .ref (ad 0)), (1, .int a1), (2, .int a2), (3, .int a3), (4, .int a4)] := hl
  refine lv_aload_n hx hb dX11_run_0 rfl (lv_at hl 0 rfl) ?_
  refine lv_iload_n hx hb dX11_run_1 rfl (lv_at hl 1 rfl) ?_
  refine lv_iload_n hx hb dX11_run_2 rfl (lv_at hl 2 rfl) ?_
  refine lv_iload_n hx hb dX11_run_3 rfl (lv_at hl 3 rfl) ?_
  refine m_callVi (As := [.int a1, .int a2, .int a3]) (rest := []) ⟨hx, hb, hml, hown, hts⟩ (kX11_isDeep l D cI cZ ad hD M a1 a2 a3 _ h) (cwV 3 hts (gdV uS (inA_24 _ (List.mem_of_getElem? (i := 20) rfl)) vX11_isDeep) rfl rfl rfl (by decide +kernel) ⟨Nat.le_of_ble_eq_true rfl, Nat.le_of_ble_eq_true rfl⟩) (va_recv hK hP (ci := 11) (q0 := 0) rfl (mW_0 cI cZ ad M)) hP hK hS hl.1 rfl rfl (Nat.le_of_ble_eq_true rfl) dX11_run_4 (fun r4 M4 H locs h hP hS => ?_)
  refine lv_if_eq (tgt := 21) hx hb dX11_run_7 (by decide) (fun q7 => ?_) (fun q7 => ?_)
  · have h := h.1 q7
    refine lv_iconst (v := (-1)) hx hb dX11_run_21 (by decide) ?_
    exact W.iret (v := (-1)) hx hb hr (fun t ht hW => ⟨⟨(-1), M4, rfl, h, mAt_of ht hP⟩, hS.F ht⟩) hS.2.2 dX11_run_22
  · have h := h.2 q7
    refine lv_iload hx hb dX11_run_10 (lv_at hl 4 rfl) ?_
    refine lv_iconst (v := 0) hx hb dX11_run_12 (by decide) ?_
    refine lv_bipush (v := 7) hx hb dX11_run_13 (by decide) ?_
    refine m_callSi (As := [.int a4, .int 0, .int 7]) (rest := []) ⟨hx, hb, hml, hown, hts⟩ (kX11_in l D cI cZ ad hD M4 a4 0 7 _ h) (va_cwS 3 hts (gdS uS (inA_9 _ (List.mem_of_getElem? (i := 4) rfl)) vX11_in) rfl rfl rfl (by decide +kernel) ⟨Nat.le_of_ble_eq_true rfl, Nat.le_of_ble_eq_true rfl⟩) hP hK hS hl.1 rfl rfl (Nat.le_of_ble_eq_true rfl) dX11_run_15 (fun r15 M15 H locs h hP hS => ?_)
    refine lv_if_ne (tgt := 23) hx hb dX11_run_18 (by decide) (fun q18 => ?_) (fun q18 => ?_)
    · have h := h.1 q18
      refine lv_aload_n hx hb dX11_run_23 rfl (lv_at hl 0 rfl) ?_
      refine m_callVv (As := []) (rest := []) ⟨hx, hb, hml, hown, hts⟩ (kX11_reckon l D cI cZ ad hD M15 _ h) (cwV 0 hts (gdV uS (inA_21 _ (List.mem_of_getElem? (i := 5) rfl)) vX11_reckon) rfl rfl rfl (by decide +kernel) ⟨Nat.le_of_ble_eq_true rfl, Nat.le_of_ble_eq_true rfl⟩) (va_recv hK hP (ci := 11) (q0 := 0) rfl (mW_0 cI cZ ad M15)) hP hK hS hl.1 rfl rfl (Nat.le_of_ble_eq_true rfl) dX11_run_24 (fun M24 H locs h hP hS => ?_)
      refine lv_aload_n hx hb dX11_run_27 rfl (lv_at hl 0 rfl) ?_
      refine va_get (D := D) (ci := 11) (v := .ref (ad 12)) (C := RX11) (T := TX11) (N := 26) hx hb hts inX11 hown hK hP 0 (mW_0 cI cZ ad M24) rfl 17 (by decide) k0 (fun _ h9 => h9) rfl dX11_run_28 ?_
      refine lv_sipush (v := 1800) hx hb dX11_run_31 (by decide) ?_
      refine lv_iload hx hb dX11_run_34 (lv_at hl 4 rfl) ?_
      refine lv_imul hx hb dX11_run_36 ?_
      refine lv_bipush (v := 9) hx hb dX11_run_37 (by decide) ?_
      refine lv_aload_n hx hb dX11_run_39 rfl (lv_at hl 0 rfl) ?_
      refine va_get (D := D) (ci := 11) (v := .int (M24 0 0)) (C := RX11) (T := TX11) (N := 26) hx hb hts inX11 hown hK hP 0 (mW_0 cI cZ ad M24) rfl 0 (by decide) k2 (fun _ h9 => h9) rfl dX11_run_40 ?_
      refine lv_iload_n hx hb dX11_run_43 rfl (lv_at hl 2 rfl) ?_
      refine lv_imul hx hb dX11_run_44 ?_
      refine lv_iload_n hx hb dX11_run_45 rfl (lv_at hl 1 rfl) ?_
      refine lv_iadd hx hb dX11_run_46 ?_
      refine lv_imul hx hb dX11_run_47 ?_
      refine lv_iadd hx hb dX11_run_48 ?_
      refine lv_iload_n hx hb dX11_run_49 rfl (lv_at hl 3 rfl) ?_
      refine lv_iadd hx hb dX11_run_50 ?_
      obtain ⟨hi51, h⟩ := h
      refine va_iald hx hb hK hP 12 0 (mW_12 cI cZ ad M24) rfl hi51 dX11_run_51 ?_
      exact W.iret (v := (M24 12 (((1800 * a4) + (9 * (((M24 0 0) * a2) + a1))) + a3).toNatClampNeg)) hx hb hr (fun t ht hW => ⟨⟨(M24 12 (((1800 * a4) + (9 * (((M24 0 0) * a2) + a1))) + a3).toNatClampNeg), M24, rfl, h, mAt_of ht hP⟩, hS.F ht⟩) hS.2.2 dX11_run_52
    · have h := h.2 q18
      refine lv_iconst (v := (-1)) hx hb dX11_run_21 (by decide) ?_
      exact W.iret (v := (-1)) hx hb hr (fun t ht hW => ⟨⟨(-1), M15, rfl, h, mAt_of ht hP⟩, hS.F ht⟩) hS.2.2 dX11_run_22
set_option maxHeartbeats 4000000 in
set_option maxRecDepth 100000 in
theorem kX11_sum (l : Launch) (D : va_G) (cI cZ : ClassId) (ad : Nat → Nat) (hD : ∀ M : Mem, va_D (mA ad) (mW cI cZ ad M)) (M : Mem) (a1 a2 a3 : Int32) (Q : Int32 → Mem → Prop) (h : wX11_sum M a1 a2 a3 Q) : Met l yX11_sum uX11_sum ({ frames := 5, cells := 0, slots := 0, locals := 124 }) (va_Pc [.ref (ad 0), .int a1, .int a2, .int a3] (mPre D cI cZ ad M)) (va_Qi Q (mAt D cI cZ ad) (mA ad)) 0 0 (mA ad) := by
  refine Met.ofW (cc := cX11_sum) (maxL := 4) (ret := (some .int)) (by decide) rfl ?_
  intro p e s m args below meth c s₁ B hml hv
  obtain ⟨rfl, hP, hK⟩ := hv
  have hx := B.exec
  have hb := B.bytes
  have hr := B.returns
  have hts := atoms_spec (ws := uX11_sum) B.pre
  have hown : s.vm.findClass RX11 = some m.cls := findClass_of_methodNamed B.named
  have hlocks := B.notSynchronized
  have hS : va_S (mA ad) s.heap s.heap [] := va_S.rf
  have k0 := hts (.fieldLink RX11 54 "TwoEyesModel" "sums" "[I") (List.mem_cons_of_mem _ (inA_7 _ (List.mem_of_getElem? (i := 8) rfl)))
  have inX11 : ∀ w ∈ wsX110, w ∈ uX11_sum := fun w h => List.mem_cons_of_mem _ (inCX11 w h)
  have k2 := hts (.fieldLink RX11 7 "TwoEyesModel" "width" "I") (List.mem_cons_of_mem _ (inA_6 _ (List.mem_of_getElem? (i := 18) rfl)))
  have hl := lv_entry ([.ref (ad 0), .int a1, .int a2, .int a3]) (n := 4) (Nat.le_of_ble_eq_true rfl)
  rw [lg_entry_eq]
  generalize (lg_sl ([.ref (ad 0), .int a1, .int a2, .int a3]) ++ List.replicate (4 - (lg_sl ([.ref (ad 0), .int a1, .int a2, .int a3])).length) Slot.unset).toArray = ls at hl ⊢
  have hl : lv_has ls 4 [(0, .ref (ad 0)), (1, .int a1), (2, .int a2), (3, .int a3)] := hl
  refine lv_aload_n hx hb dX11_sum_0 rfl (lv_at hl 0 rfl) ?_
  refine lv_iload_n hx hb dX11_sum_1 rfl (lv_at hl 1 rfl) ?_
  refine lv_iload_n hx hb dX11_sum_2 rfl (lv_at hl 2 rfl) ?_
  refine lv_iload_n hx hb dX11_sum_3 rfl (lv_at hl 3 rfl) ?_
  refine m_callVi (As := [.int a1, .int a2, .int a3]) (rest := []) ⟨hx, hb, hml, hown, hts⟩ (kX11_isDeep l D cI cZ ad hD M a1 a2 a3 _ h) (cwV 3 hts (gdV uS (inA_24 _ (List.mem_of_getElem? (i := 20) rfl)) vX11_isDeep) rfl rfl rfl (by decide +kernel) ⟨Nat.le_of_ble_eq_true rfl, Nat.le_of_ble_eq_true rfl⟩) (va_recv hK hP (ci := 11) (q0 := 0) rfl (mW_0 cI cZ ad M)) hP hK hS hl.1 rfl rfl (Nat.le_of_ble_eq_true rfl) dX11_sum_4 (fun r4 M4 H locs h hP hS => ?_)
  refine lv_if_ne (tgt := 12) hx hb dX11_sum_7 (by decide) (fun q7 => ?_) (fun q7 => ?_)
  · have h := h.1 q7
    refine lv_aload_n hx hb dX11_sum_12 rfl (lv_at hl 0 rfl) ?_
    refine m_callVv (As := []) (rest := []) ⟨hx, hb, hml, hown, hts⟩ (kX11_reckon l D cI cZ ad hD M4 _ h) (cwV 0 hts (gdV uS (inA_21 _ (List.mem_of_getElem? (i := 5) rfl)) vX11_reckon) rfl rfl rfl (by decide +kernel) ⟨Nat.le_of_ble_eq_true rfl, Nat.le_of_ble_eq_true rfl⟩) (va_recv hK hP (ci := 11) (q0 := 0) rfl (mW_0 cI cZ ad M4)) hP hK hS hl.1 rfl rfl (Nat.le_of_ble_eq_true rfl) dX11_sum_13 (fun M13 H locs h hP hS => ?_)
    refine lv_aload_n hx hb dX11_sum_16 rfl (lv_at hl 0 rfl) ?_
    refine va_get (D := D) (ci := 11) (v := .ref (ad 13)) (C := RX11) (T := TX11) (N := 26) hx hb hts inX11 hown hK hP 0 (mW_0 cI cZ ad M13) rfl 18 (by decide) k0 (fun _ h9 => h9) rfl dX11_sum_17 ?_
    refine lv_bipush (v := 9) hx hb dX11_sum_20 (by decide) ?_
    refine lv_aload_n hx hb dX11_sum_22 rfl (lv_at hl 0 rfl) ?_
    refine va_get (D := D) (ci := 11) (v := .int (M13 0 0)) (C := RX11) (T := TX11) (N := 26) hx hb hts inX11 hown hK hP 0 (mW_0 cI cZ ad M13) rfl 0 (by decide) k2 (fun _ h9 => h9) rfl dX11_sum_23 ?_
    refine lv_iload_n hx hb dX11_sum_26 rfl (lv_at hl 2 rfl) ?_
    refine lv_imul hx hb dX11_sum_27 ?_
    refine lv_iload_n hx hb dX11_sum_28 rfl (lv_at hl 1 rfl) ?_
    refine lv_iadd hx hb dX11_sum_29 ?_
    refine lv_imul hx hb dX11_sum_30 ?_
    refine lv_iload_n hx hb dX11_sum_31 rfl (lv_at hl 3 rfl) ?_
    refine lv_iadd hx hb dX11_sum_32 ?_
    obtain ⟨hi33, h⟩ := h
    refine va_iald hx hb hK hP 13 0 (mW_13 cI cZ ad M13) rfl hi33 dX11_sum_33 ?_
    exact W.iret (v := (M13 13 ((9 * (((M13 0 0) * a2) + a1)) + a3).toNatClampNeg)) hx hb hr (fun t ht hW => ⟨⟨(M13 13 ((9 * (((M13 0 0) * a2) + a1)) + a3).toNatClampNeg), M13, rfl, h, mAt_of ht hP⟩, hS.F ht⟩) hS.2.2 dX11_sum_34
  · have h := h.2 q7
    refine lv_iconst (v := (-1)) hx hb dX11_sum_10 (by decide) ?_
    exact W.iret (v := (-1)) hx hb hr (fun t ht hW => ⟨⟨(-1), M4, rfl, h, mAt_of ht hP⟩, hS.F ht⟩) hS.2.2 dX11_sum_11
set_option maxHeartbeats 4000000 in
set_option maxRecDepth 100000 in
theorem kX11_depth (l : Launch) (D : va_G) (cI cZ : ClassId) (ad : Nat → Nat) (hD : ∀ M : Mem, va_D (mA ad) (mW cI cZ ad M)) (M : Mem) (a1 a2 a3 : Int32) (Q : Int32 → Mem → Prop) (h : wX11_depth M a1 a2 a3 Q) : Met l yX11_depth uX11_depth ({ frames := 5, cells := 0, slots := 0, locals := 124 }) (va_Pc [.ref (ad 0), .int a1, .int a2, .int a3] (mPre D cI cZ ad M)) (va_Qi Q (mAt D cI cZ ad) (mA ad)) 0 0 (mA ad) := by
  refine Met.ofW (cc := cX11_depth) (maxL := 4) (ret := (some .int)) (by decide) rfl ?_
  intro p e s m args below meth c s₁ B hml hv
  obtain ⟨rfl, hP, hK⟩ := hv
  have hx := B.exec
  have hb := B.bytes
  have hr := B.returns
  have hts := atoms_spec (ws := uX11_depth) B.pre
  have hown : s.vm.findClass RX11 = some m.cls := findClass_of_methodNamed B.named
  have hlocks := B.notSynchronized
  have hS : va_S (mA ad) s.heap s.heap [] := va_S.rf
  have k0 := hts (.fieldLink RX11 60 "TwoEyesModel" "rightDepth" "[I") (List.mem_cons_of_mem _ (inA_7 _ (List.mem_of_getElem? (i := 10) rfl)))
  have inX11 : ∀ w ∈ wsX110, w ∈ uX11_depth := fun w h => List.mem_cons_of_mem _ (inCX11 w h)
  have k2 := hts (.fieldLink RX11 7 "TwoEyesModel" "width" "I") (List.mem_cons_of_mem _ (inA_6 _ (List.mem_of_getElem? (i := 18) rfl)))
  have k3 := hts (.fieldLink RX11 57 "TwoEyesModel" "leftDepth" "[I") (List.mem_cons_of_mem _ (inA_7 _ (List.mem_of_getElem? (i := 9) rfl)))
  have hl := lv_entry ([.ref (ad 0), .int a1, .int a2, .int a3]) (n := 4) (Nat.le_of_ble_eq_true rfl)
  rw [lg_entry_eq]
  generalize (lg_sl ([.ref (ad 0), .int a1, .int a2, .int a3]) ++ List.replicate (4 - (lg_sl ([.ref (ad 0), .int a1, .int a2, .int a3])).length) Slot.unset).toArray = ls at hl ⊢
  have hl : lv_has ls 4 [(0, .ref (ad 0)), (1, .int a1), (2, .int a2), (3, .int a3)] := hl
  refine lv_iload_n hx hb dX11_depth_0 rfl (lv_at hl 1 rfl) ?_
  refine lv_iconst (v := 0) hx hb dX11_depth_1 (by decide) ?_
  refine lv_iconst (v := 1) hx hb dX11_depth_2 (by decide) ?_
  refine m_callSi (As := [.int a1, .int 0, .int 1]) (rest := []) ⟨hx, hb, hml, hown, hts⟩ (kX11_in l D cI cZ ad hD M a1 0 1 _ h) (va_cwS 3 hts (gdS uS (inA_9 _ (List.mem_of_getElem? (i := 4) rfl)) vX11_in) rfl rfl rfl (by decide +kernel) ⟨Nat.le_of_ble_eq_true rfl, Nat.le_of_ble_eq_true rfl⟩) hP hK hS hl.1 rfl rfl (Nat.le_of_ble_eq_true rfl) dX11_depth_3 (fun r3 M3 H locs h hP hS => ?_)
  refine lv_if_eq (tgt := 18) hx hb dX11_depth_6 (by decide) (fun q6 => ?_) (fun q6 => ?_)
  · have h := h.1 q6
    refine lv_iconst (v := (-1)) hx hb dX11_depth_18 (by decide) ?_
    exact W.iret (v := (-1)) hx hb hr (fun t ht hW => ⟨⟨(-1), M3, rfl, h, mAt_of ht hP⟩, hS.F ht⟩) hS.2.2 dX11_depth_19
  · have h := h.2 q6
    refine lv_aload_n hx hb dX11_depth_9 rfl (lv_at hl 0 rfl) ?_
    refine lv_iload_n hx hb dX11_depth_10 rfl (lv_at hl 2 rfl) ?_
    refine lv_iload_n hx hb dX11_depth_11 rfl (lv_at hl 3 rfl) ?_
    refine m_callVi (As := [.int a2, .int a3]) (rest := []) ⟨hx, hb, hml, hown, hts⟩ (kX11_isSquare l D cI cZ ad hD M3 a2 a3 _ h) (cwV 2 hts (gdV uS (inA_13 _ (List.mem_of_getElem? (i := 11) rfl)) vX11_isSquare) rfl rfl rfl (by decide +kernel) ⟨Nat.le_of_ble_eq_true rfl, Nat.le_of_ble_eq_true rfl⟩) (va_recv hK hP (ci := 11) (q0 := 0) rfl (mW_0 cI cZ ad M3)) hP hK hS hl.1 rfl rfl (Nat.le_of_ble_eq_true rfl) dX11_depth_12 (fun r12 M12 H locs h hP hS => ?_)
    refine lv_if_ne (tgt := 20) hx hb dX11_depth_15 (by decide) (fun q15 => ?_) (fun q15 => ?_)
    · have h := h.1 q15
      refine lv_aload_n hx hb dX11_depth_20 rfl (lv_at hl 0 rfl) ?_
      refine m_callVv (As := []) (rest := []) ⟨hx, hb, hml, hown, hts⟩ (kX11_reckon l D cI cZ ad hD M12 _ h) (cwV 0 hts (gdV uS (inA_21 _ (List.mem_of_getElem? (i := 5) rfl)) vX11_reckon) rfl rfl rfl (by decide +kernel) ⟨Nat.le_of_ble_eq_true rfl, Nat.le_of_ble_eq_true rfl⟩) (va_recv hK hP (ci := 11) (q0 := 0) rfl (mW_0 cI cZ ad M12)) hP hK hS hl.1 rfl rfl (Nat.le_of_ble_eq_true rfl) dX11_depth_21 (fun M21 H locs h hP hS => ?_)
      refine lv_iload_n hx hb dX11_depth_24 rfl (lv_at hl 1 rfl) ?_
      refine lv_if_ne (tgt := 44) hx hb dX11_depth_25 (by decide) (fun q25 => ?_) (fun q25 => ?_)
      · have h := h.1 q25
        refine lv_aload_n hx hb dX11_depth_44 rfl (lv_at hl 0 rfl) ?_
        refine va_get (D := D) (ci := 11) (v := .ref (ad 15)) (C := RX11) (T := TX11) (N := 26) hx hb hts inX11 hown hK hP 0 (mW_0 cI cZ ad M21) rfl 20 (by decide) k0 (fun _ h9 => h9) rfl dX11_depth_45 ?_
        refine lv_aload_n hx hb dX11_depth_48 rfl (lv_at hl 0 rfl) ?_
        refine va_get (D := D) (ci := 11) (v := .int (M21 0 0)) (C := RX11) (T := TX11) (N := 26) hx hb hts inX11 hown hK hP 0 (mW_0 cI cZ ad M21) rfl 0 (by decide) k2 (fun _ h9 => h9) rfl dX11_depth_49 ?_
        refine lv_iload_n hx hb dX11_depth_52 rfl (lv_at hl 3 rfl) ?_
        refine lv_imul hx hb dX11_depth_53 ?_
        refine lv_iload_n hx hb dX11_depth_54 rfl (lv_at hl 2 rfl) ?_
        refine lv_iadd hx hb dX11_depth_55 ?_
        obtain ⟨hi56, h⟩ := h
        refine va_iald hx hb hK hP 15 0 (mW_15 cI cZ ad M21) rfl hi56 dX11_depth_56 ?_
        exact W.iret (v := (M21 15 (((M21 0 0) * a3) + a2).toNatClampNeg)) hx hb hr (fun t ht hW => ⟨⟨(M21 15 (((M21 0 0) * a3) + a2).toNatClampNeg), M21, rfl, h, mAt_of ht hP⟩, hS.F ht⟩) hS.2.2 dX11_depth_57
      · have h := h.2 q25
        refine lv_aload_n hx hb dX11_depth_28 rfl (lv_at hl 0 rfl) ?_
        refine va_get (D := D) (ci := 11) (v := .ref (ad 14)) (C := RX11) (T := TX11) (N := 26) hx hb hts inX11 hown hK hP 0 (mW_0 cI cZ ad M21) rfl 19 (by decide) k3 (fun _ h9 => h9) rfl dX11_depth_29 ?_
        refine lv_aload_n hx hb dX11_depth_32 rfl (lv_at hl 0 rfl) ?_
        refine va_get (D := D) (ci := 11) (v := .int (M21 0 0)) (C := RX11) (T := TX11) (N := 26) hx hb hts inX11 hown hK hP 0 (mW_0 cI cZ ad M21) rfl 0 (by decide) k2 (fun _ h9 => h9) rfl dX11_depth_33 ?_
        refine lv_iload_n hx hb dX11_depth_36 rfl (lv_at hl 3 rfl) ?_
        refine lv_imul hx hb dX11_depth_37 ?_
        refine lv_iload_n hx hb dX11_depth_38 rfl (lv_at hl 2 rfl) ?_
        refine lv_iadd hx hb dX11_depth_39 ?_
        obtain ⟨hi40, h⟩ := h
        refine va_iald hx hb hK hP 14 0 (mW_14 cI cZ ad M21) rfl hi40 dX11_depth_40 ?_
        refine lv_goto (tgt := 57) hx hb dX11_depth_41 (by decide) ?_
        exact W.iret (v := (M21 14 (((M21 0 0) * a3) + a2).toNatClampNeg)) hx hb hr (fun t ht hW => ⟨⟨(M21 14 (((M21 0 0) * a3) + a2).toNatClampNeg), M21, rfl, h, mAt_of ht hP⟩, hS.F ht⟩) hS.2.2 dX11_depth_57
    · have h := h.2 q15
      refine lv_iconst (v := (-1)) hx hb dX11_depth_18 (by decide) ?_
      exact W.iret (v := (-1)) hx hb hr (fun t ht hW => ⟨⟨(-1), M12, rfl, h, mAt_of ht hP⟩, hS.F ht⟩) hS.2.2 dX11_depth_19
set_option maxHeartbeats 4000000 in
set_option maxRecDepth 100000 in
theorem kX11_agreed (l : Launch) (D : va_G) (cI cZ : ClassId) (ad : Nat → Nat) (hD : ∀ M : Mem, va_D (mA ad) (mW cI cZ ad M)) (M : Mem) (a1 a2 : Int32) (Q : Int32 → Mem → Prop) (h : wX11_agreed M a1 a2 Q) : Met l yX11_agreed uX11_agreed ({ frames := 5, cells := 0, slots := 0, locals := 124 }) (va_Pc [.ref (ad 0), .int a1, .int a2] (mPre D cI cZ ad M)) (va_Qi Q (mAt D cI cZ ad) (mA ad)) 0 0 (mA ad) := by
  refine Met.ofW (cc := cX11_agreed) (maxL := 3) (ret := (some .int)) (by decide) rfl ?_
  intro p e s m args below meth c s₁ B hml hv
  obtain ⟨rfl, hP, hK⟩ := hv
  have hx := B.exec
  have hb := B.bytes
  have hr := B.returns
  have hts := atoms_spec (ws := uX11_agreed) B.pre
  have hown : s.vm.findClass RX11 = some m.cls := findClass_of_methodNamed B.named
  have hlocks := B.notSynchronized
  have hS : va_S (mA ad) s.heap s.heap [] := va_S.rf
  have hl := lv_entry ([.ref (ad 0), .int a1, .int a2]) (n := 3) (Nat.le_of_ble_eq_true rfl)
  rw [lg_entry_eq]
  generalize (lg_sl ([.ref (ad 0), .int a1, .int a2]) ++ List.replicate (3 - (lg_sl ([.ref (ad 0), .int a1, .int a2])).length) Slot.unset).toArray = ls at hl ⊢
  have hl : lv_has ls 3 [(0, .ref (ad 0)), (1, .int a1), (2, .int a2)] := hl
  refine lv_aload_n hx hb dX11_agreed_0 rfl (lv_at hl 0 rfl) ?_
  refine lv_iload_n hx hb dX11_agreed_1 rfl (lv_at hl 1 rfl) ?_
  refine lv_iload_n hx hb dX11_agreed_2 rfl (lv_at hl 2 rfl) ?_
  refine m_callVi (As := [.int a1, .int a2]) (rest := []) ⟨hx, hb, hml, hown, hts⟩ (kX11_isSquare l D cI cZ ad hD M a1 a2 _ h) (cwV 2 hts (gdV uS (inA_13 _ (List.mem_of_getElem? (i := 11) rfl)) vX11_isSquare) rfl rfl rfl (by decide +kernel) ⟨Nat.le_of_ble_eq_true rfl, Nat.le_of_ble_eq_true rfl⟩) (va_recv hK hP (ci := 11) (q0 := 0) rfl (mW_0 cI cZ ad M)) hP hK hS hl.1 rfl rfl (Nat.le_of_ble_eq_true rfl) dX11_agreed_3 (fun r3 M3 H locs h hP hS => ?_)
  refine lv_if_ne (tgt := 11) hx hb dX11_agreed_6 (by decide) (fun q6 => ?_) (fun q6 => ?_)
  · have h := h.1 q6
    refine lv_aload_n hx hb dX11_agreed_11 rfl (lv_at hl 0 rfl) ?_
    refine m_callVv (As := []) (rest := []) ⟨hx, hb, hml, hown, hts⟩ (kX11_reckon l D cI cZ ad hD M3 _ h) (cwV 0 hts (gdV uS (inA_21 _ (List.mem_of_getElem? (i := 5) rfl)) vX11_reckon) rfl rfl rfl (by decide +kernel) ⟨Nat.le_of_ble_eq_true rfl, Nat.le_of_ble_eq_true rfl⟩) (va_recv hK hP (ci := 11) (q0 := 0) rfl (mW_0 cI cZ ad M3)) hP hK hS hl.1 rfl rfl (Nat.le_of_ble_eq_true rfl) dX11_agreed_12 (fun M12 H locs h hP hS => ?_)
    refine lv_aload_n hx hb dX11_agreed_15 rfl (lv_at hl 0 rfl) ?_
    refine lv_iload_n hx hb dX11_agreed_16 rfl (lv_at hl 1 rfl) ?_
    refine lv_iload_n hx hb dX11_agreed_17 rfl (lv_at hl 2 rfl) ?_
    refine m_callVi (As := [.int a1, .int a2]) (rest := []) ⟨hx, hb, hml, hown, hts⟩ (kX11_agreedAt l D cI cZ ad hD M12 a1 a2 _ h) (cwV 2 hts (gdV uS (inA_23 _ (List.mem_of_getElem? (i := 11) rfl)) vX11_agreedAt) rfl rfl rfl (by decide +kernel) ⟨Nat.le_of_ble_eq_true rfl, Nat.le_of_ble_eq_true rfl⟩) (va_recv hK hP (ci := 11) (q0 := 0) rfl (mW_0 cI cZ ad M12)) hP hK hS hl.1 rfl rfl (Nat.le_of_ble_eq_true rfl) dX11_agreed_18 (fun r18 M18 H locs h hP hS => ?_)
    exact W.iret (v := r18) hx hb hr (fun t ht hW => ⟨⟨r18, M18, rfl, h, mAt_of ht hP⟩, hS.F ht⟩) hS.2.2 dX11_agreed_21
  · have h := h.2 q6
    refine lv_iconst (v := (-1)) hx hb dX11_agreed_9 (by decide) ?_
    exact W.iret (v := (-1)) hx hb hr (fun t ht hW => ⟨⟨(-1), M3, rfl, h, mAt_of ht hP⟩, hS.F ht⟩) hS.2.2 dX11_agreed_10
set_option maxHeartbeats 4000000 in
set_option maxRecDepth 100000 in
theorem kX11_segment (l : Launch) (D : va_G) (cI cZ : ClassId) (ad : Nat → Nat) (hD : ∀ M : Mem, va_D (mA ad) (mW cI cZ ad M)) (M : Mem) (a1 a2 : Int32) (Q : Int32 → Mem → Prop) (h : wX11_segment M a1 a2 Q) : Met l yX11_segment uX11_segment ({ frames := 5, cells := 0, slots := 0, locals := 124 }) (va_Pc [.ref (ad 0), .int a1, .int a2] (mPre D cI cZ ad M)) (va_Qi Q (mAt D cI cZ ad) (mA ad)) 0 0 (mA ad) := by
  refine Met.ofW (cc := cX11_segment) (maxL := 4) (ret := (some .int)) (by decide) rfl ?_
  intro p e s m args below meth c s₁ B hml hv
  obtain ⟨rfl, hP, hK⟩ := hv
  have hx := B.exec
  have hb := B.bytes
  have hr := B.returns
  have hts := atoms_spec (ws := uX11_segment) B.pre
  have hown : s.vm.findClass RX11 = some m.cls := findClass_of_methodNamed B.named
  have hlocks := B.notSynchronized
  have hS : va_S (mA ad) s.heap s.heap [] := va_S.rf
  have k0 := hts (.fieldLink RX11 63 "TwoEyesModel" "anchorOf" "[I") (List.mem_cons_of_mem _ (inA_7 _ (List.mem_of_getElem? (i := 11) rfl)))
  have inX11 : ∀ w ∈ wsX110, w ∈ uX11_segment := fun w h => List.mem_cons_of_mem _ (inCX11 w h)
  have k2 := hts (.fieldLink RX11 7 "TwoEyesModel" "width" "I") (List.mem_cons_of_mem _ (inA_6 _ (List.mem_of_getElem? (i := 18) rfl)))
  have hl := lv_entry ([.ref (ad 0), .int a1, .int a2]) (n := 4) (Nat.le_of_ble_eq_true rfl)
  rw [lg_entry_eq]
  generalize (lg_sl ([.ref (ad 0), .int a1, .int a2]) ++ List.replicate (4 - (lg_sl ([.ref (ad 0), .int a1, .int a2])).length) Slot.unset).toArray = ls at hl ⊢
  have hl : lv_has ls 4 [(0, .ref (ad 0)), (1, .int a1), (2, .int a2)] := hl
  refine lv_aload_n hx hb dX11_segment_0 rfl (lv_at hl 0 rfl) ?_
  refine lv_iload_n hx hb dX11_segment_1 rfl (lv_at hl 1 rfl) ?_
  refine lv_iload_n hx hb dX11_segment_2 rfl (lv_at hl 2 rfl) ?_
  refine m_callVi (As := [.int a1, .int a2]) (rest := []) ⟨hx, hb, hml, hown, hts⟩ (kX11_isSquare l D cI cZ ad hD M a1 a2 _ h) (cwV 2 hts (gdV uS (inA_13 _ (List.mem_of_getElem? (i := 11) rfl)) vX11_isSquare) rfl rfl rfl (by decide +kernel) ⟨Nat.le_of_ble_eq_true rfl, Nat.le_of_ble_eq_true rfl⟩) (va_recv hK hP (ci := 11) (q0 := 0) rfl (mW_0 cI cZ ad M)) hP hK hS hl.1 rfl rfl (Nat.le_of_ble_eq_true rfl) dX11_segment_3 (fun r3 M3 H locs h hP hS => ?_)
  refine lv_if_ne (tgt := 11) hx hb dX11_segment_6 (by decide) (fun q6 => ?_) (fun q6 => ?_)
  · have h := h.1 q6
    refine lv_aload_n hx hb dX11_segment_11 rfl (lv_at hl 0 rfl) ?_
    refine m_callVv (As := []) (rest := []) ⟨hx, hb, hml, hown, hts⟩ (kX11_reckon l D cI cZ ad hD M3 _ h) (cwV 0 hts (gdV uS (inA_21 _ (List.mem_of_getElem? (i := 5) rfl)) vX11_reckon) rfl rfl rfl (by decide +kernel) ⟨Nat.le_of_ble_eq_true rfl, Nat.le_of_ble_eq_true rfl⟩) (va_recv hK hP (ci := 11) (q0 := 0) rfl (mW_0 cI cZ ad M3)) hP hK hS hl.1 rfl rfl (Nat.le_of_ble_eq_true rfl) dX11_segment_12 (fun M12 H locs h hP hS => ?_)
    refine lv_aload_n hx hb dX11_segment_15 rfl (lv_at hl 0 rfl) ?_
    refine va_get (D := D) (ci := 11) (v := .ref (ad 16)) (C := RX11) (T := TX11) (N := 26) hx hb hts inX11 hown hK hP 0 (mW_0 cI cZ ad M12) rfl 21 (by decide) k0 (fun _ h9 => h9) rfl dX11_segment_16 ?_
    refine lv_aload_n hx hb dX11_segment_19 rfl (lv_at hl 0 rfl) ?_
    refine va_get (D := D) (ci := 11) (v := .int (M12 0 0)) (C := RX11) (T := TX11) (N := 26) hx hb hts inX11 hown hK hP 0 (mW_0 cI cZ ad M12) rfl 0 (by decide) k2 (fun _ h9 => h9) rfl dX11_segment_20 ?_
    refine lv_iload_n hx hb dX11_segment_23 rfl (lv_at hl 2 rfl) ?_
    refine lv_imul hx hb dX11_segment_24 ?_
    refine lv_iload_n hx hb dX11_segment_25 rfl (lv_at hl 1 rfl) ?_
    refine lv_iadd hx hb dX11_segment_26 ?_
    obtain ⟨hi27, h⟩ := h
    refine va_iald hx hb hK hP 16 0 (mW_16 cI cZ ad M12) rfl hi27 dX11_segment_27 ?_
    refine lv_topi (fun x3_28 ex3_28 => ?_)
    have h := h x3_28 ex3_28
    refine lv_istore_n (lv' := [(3, .int x3_28), (0, .ref (ad 0)), (1, .int a1), (2, .int a2)]) hx hb dX11_segment_28 rfl hl (by decide) rfl (fun ls hl => ?_)
    refine lv_iload_n hx hb dX11_segment_29 rfl (lv_at hl 0 rfl) ?_
    refine lv_if_ge (tgt := 38) hx hb dX11_segment_30 (by decide) (fun q30 => ?_) (fun q30 => ?_)
    · have h := h.1 q30
      refine lv_iload_n hx hb dX11_segment_38 rfl (lv_at hl 0 rfl) ?_
      exact W.iret (v := x3_28) hx hb hr (fun t ht hW => ⟨⟨x3_28, M12, rfl, h, mAt_of ht hP⟩, hS.F ht⟩) hS.2.2 dX11_segment_39
    · have h := h.2 q30
      refine lv_bipush (v := (-5)) hx hb dX11_segment_33 (by decide) ?_
      refine lv_goto (tgt := 39) hx hb dX11_segment_35 (by decide) ?_
      exact W.iret (v := (-5)) hx hb hr (fun t ht hW => ⟨⟨(-5), M12, rfl, h, mAt_of ht hP⟩, hS.F ht⟩) hS.2.2 dX11_segment_39
  · have h := h.2 q6
    refine lv_iconst (v := (-1)) hx hb dX11_segment_9 (by decide) ?_
    exact W.iret (v := (-1)) hx hb hr (fun t ht hW => ⟨⟨(-1), M3, rfl, h, mAt_of ht hP⟩, hS.F ht⟩) hS.2.2 dX11_segment_10
abbrev GX11_extent (p : Program) (l : Launch) (e : Env) (s : State) (m : MethodId) (below : List Frame) (meth : Method) (c : Code) (D : va_G) (cI cZ : ClassId) (ad : Nat → Nat) (a1 a2 : Int32) (Q : Int32 → Mem → Prop) (H : Heap) (locs : List Loc) (g : JFrame) : Prop := W p l e (headSpec uX11_extent { frames := 6, cells := 0, slots := 0, locals := 147 }).room s m ([.ref (ad 0), .int a1, .int a2] : List Value).toArray below meth c H locs 0 0 (MQ below (va_Qi Q (mAt D cI cZ ad) (mA ad)) ([.ref (ad 0), .int a1, .int a2] : List Value).toArray s 0 0 (mA ad)) g
set_option maxHeartbeats 4000000 in
set_option maxRecDepth 100000 in
theorem kX11_extent (l : Launch) (D : va_G) (cI cZ : ClassId) (ad : Nat → Nat) (hD : ∀ M : Mem, va_D (mA ad) (mW cI cZ ad M)) (M : Mem) (a1 a2 : Int32) (Q : Int32 → Mem → Prop) (h : wX11_extent M a1 a2 Q) : Met l yX11_extent uX11_extent ({ frames := 6, cells := 0, slots := 0, locals := 147 }) (va_Pc [.ref (ad 0), .int a1, .int a2] (mPre D cI cZ ad M)) (va_Qi Q (mAt D cI cZ ad) (mA ad)) 0 0 (mA ad) := by
  refine Met.ofW (cc := cX11_extent) (maxL := 6) (ret := (some .int)) (by decide) rfl ?_
  intro p e s m args below meth c s₁ B hml hv
  obtain ⟨rfl, hP, hK⟩ := hv
  have hx := B.exec
  have hb := B.bytes
  have hr := B.returns
  have hts := atoms_spec (ws := uX11_extent) B.pre
  have hown : s.vm.findClass RX11 = some m.cls := findClass_of_methodNamed B.named
  have hlocks := B.notSynchronized
  have hS : va_S (mA ad) s.heap s.heap [] := va_S.rf
  have k0 := hts (.fieldLink RX11 7 "TwoEyesModel" "width" "I") (List.mem_cons_of_mem _ (inA_6 _ (List.mem_of_getElem? (i := 18) rfl)))
  have inX11 : ∀ w ∈ wsX110, w ∈ uX11_extent := fun w h => List.mem_cons_of_mem _ (inCX11 w h)
  have k2 := hts (.fieldLink RX11 13 "TwoEyesModel" "height" "I") (List.mem_cons_of_mem _ (inA_6 _ (List.mem_of_getElem? (i := 19) rfl)))
  have k3 := hts (.fieldLink RX11 63 "TwoEyesModel" "anchorOf" "[I") (List.mem_cons_of_mem _ (inA_7 _ (List.mem_of_getElem? (i := 11) rfl)))
  have L19 : ∀ (K60 : Int32 → Mem → Prop), (∀ (x4 : Int32) (M : Mem) (H : Heap) (locs : List Loc) (ls : Array Slot), lv_has ls 6 [(4, .int x4)] → va_P D vwCl (mW cI cZ ad M) H → va_S (mA ad) s.heap H locs → K60 x4 M → GX11_extent p l e s m below meth c D cI cZ ad a1 a2 Q H locs (F0 m 60 ls [])) → ∀ n : Nat, ∀ (x3 x4 x5 : Int32) (M : Mem) (H : Heap) (locs : List Loc) (ls : Array Slot), lv_has ls 6 [(0, .ref (ad 0)), (3, .int x3), (4, .int x4), (5, .int x5)] → va_P D vwCl (mW cI cZ ad M) H → va_S (mA ad) s.heap H locs → wX11_extent_L19 K60 Q n x3 x4 x5 M → GX11_extent p l e s m below meth c D cI cZ ad a1 a2 Q H locs (F0 m 19 ls []) := by
    intro K60 hK60 n
    induction n with
    | zero => intro x3 x4 x5 M H locs ls hl hP hS h; exact (show False from h).elim
    | succ n hB =>
      intro x3 x4 x5 M H locs ls hl hP hS h
      rw [wX11_extent_L19_s] at h
      refine lv_iload hx hb dX11_extent_19 (lv_at hl 3 rfl) ?_
      refine lv_aload_n hx hb dX11_extent_21 rfl (lv_at hl 0 rfl) ?_
      refine va_get (D := D) (ci := 11) (v := .int (M 0 0)) (C := RX11) (T := TX11) (N := 26) hx hb hts inX11 hown hK hP 0 (mW_0 cI cZ ad M) rfl 0 (by decide) k0 (fun _ h9 => h9) rfl dX11_extent_22 ?_
      refine lv_aload_n hx hb dX11_extent_25 rfl (lv_at hl 0 rfl) ?_
      refine va_get (D := D) (ci := 11) (v := .int (M 0 1)) (C := RX11) (T := TX11) (N := 26) hx hb hts inX11 hown hK hP 0 (mW_0 cI cZ ad M) rfl 1 (by decide) k2 (fun _ h9 => h9) rfl dX11_extent_26 ?_
      refine lv_imul hx hb dX11_extent_29 ?_
      refine lv_icmp_ge (tgt := 60) hx hb dX11_extent_30 (by decide) (fun q30 => ?_) (fun q30 => ?_)
      · have h := h.1 q30
        exact hK60 x4 M _ _ _ (lv_sub hl [2] rfl) hP hS h
      · have h := h.2 q30
        refine lv_iload hx hb dX11_extent_33 (lv_at hl 2 rfl) ?_
        refine lv_aload_n hx hb dX11_extent_35 rfl (lv_at hl 0 rfl) ?_
        refine va_get (D := D) (ci := 11) (v := .ref (ad 16)) (C := RX11) (T := TX11) (N := 26) hx hb hts inX11 hown hK hP 0 (mW_0 cI cZ ad M) rfl 21 (by decide) k3 (fun _ h9 => h9) rfl dX11_extent_36 ?_
        refine lv_iload hx hb dX11_extent_39 (lv_at hl 3 rfl) ?_
        obtain ⟨hi41, h⟩ := h
        refine va_iald hx hb hK hP 16 0 (mW_16 cI cZ ad M) rfl hi41 dX11_extent_41 ?_
        refine lv_iload_n hx hb dX11_extent_42 rfl (lv_at hl 1 rfl) ?_
        refine lv_icmp_ne (tgt := 50) hx hb dX11_extent_43 (by decide) (fun q43 => ?_) (fun q43 => ?_)
        · have h := h.1 q43
          refine lv_iconst (v := 0) hx hb dX11_extent_50 (by decide) ?_
          refine lv_iadd hx hb dX11_extent_51 ?_
          refine lv_topi (fun x4_52 ex4_52 => ?_)
          have h := h x4_52 ex4_52
          refine lv_istore (lv' := [(4, .int x4_52), (0, .ref (ad 0)), (3, .int x3), (5, .int x5)]) hx hb dX11_extent_52 hl (by decide) rfl (fun ls hl => ?_)
          obtain ⟨x5_54, ex5_54⟩ : ∃ y : Int32, y = x5 + 1 := ⟨_, rfl⟩
          have h := h x5_54 ex5_54
          refine lv_iinc (v := x5_54) (lv' := [(5, .int x5_54), (4, .int x4_52), (0, .ref (ad 0)), (3, .int x3)]) hx hb dX11_extent_54 hl (k := 3) rfl (by rw [ex5_54]; rfl) (by decide) rfl (fun ls hl => ?_)
          refine lv_goto (tgt := 19) hx hb dX11_extent_57 (by decide) ?_
          exact hB x3 x4_52 x5_54 M _ _ _ (lv_sub hl [2, 3, 1, 0] rfl) hP hS h
        · have h := h.2 q43
          refine lv_iconst (v := 1) hx hb dX11_extent_46 (by decide) ?_
          refine lv_goto (tgt := 51) hx hb dX11_extent_47 (by decide) ?_
          refine lv_iadd hx hb dX11_extent_51 ?_
          refine lv_topi (fun x4_52 ex4_52 => ?_)
          have h := h x4_52 ex4_52
          refine lv_istore (lv' := [(4, .int x4_52), (0, .ref (ad 0)), (3, .int x3), (5, .int x5)]) hx hb dX11_extent_52 hl (by decide) rfl (fun ls hl => ?_)
          obtain ⟨x5_54, ex5_54⟩ : ∃ y : Int32, y = x5 + 1 := ⟨_, rfl⟩
          have h := h x5_54 ex5_54
          refine lv_iinc (v := x5_54) (lv' := [(5, .int x5_54), (4, .int x4_52), (0, .ref (ad 0)), (3, .int x3)]) hx hb dX11_extent_54 hl (k := 3) rfl (by rw [ex5_54]; rfl) (by decide) rfl (fun ls hl => ?_)
          refine lv_goto (tgt := 19) hx hb dX11_extent_57 (by decide) ?_
          exact hB x3 x4_52 x5_54 M _ _ _ (lv_sub hl [2, 3, 1, 0] rfl) hP hS h
  have hl := lv_entry ([.ref (ad 0), .int a1, .int a2]) (n := 6) (Nat.le_of_ble_eq_true rfl)
  rw [lg_entry_eq]
  generalize (lg_sl ([.ref (ad 0), .int a1, .int a2]) ++ List.replicate (6 - (lg_sl ([.ref (ad 0), .int a1, .int a2])).length) Slot.unset).toArray = ls at hl ⊢
  have hl : lv_has ls 6 [(0, .ref (ad 0)), (1, .int a1), (2, .int a2)] := hl
  refine lv_aload_n hx hb dX11_extent_0 rfl (lv_at hl 0 rfl) ?_
  refine lv_iload_n hx hb dX11_extent_1 rfl (lv_at hl 1 rfl) ?_
  refine lv_iload_n hx hb dX11_extent_2 rfl (lv_at hl 2 rfl) ?_
  refine m_callVi (As := [.int a1, .int a2]) (rest := []) ⟨hx, hb, hml, hown, hts⟩ (kX11_segment l D cI cZ ad hD M a1 a2 _ h) (cwV 2 hts (gdV uS (inA_30 _ (List.mem_of_getElem? (i := 10) rfl)) vX11_segment) rfl rfl rfl (by decide +kernel) ⟨Nat.le_of_ble_eq_true rfl, Nat.le_of_ble_eq_true rfl⟩) (va_recv hK hP (ci := 11) (q0 := 0) rfl (mW_0 cI cZ ad M)) hP hK hS hl.1 rfl rfl (Nat.le_of_ble_eq_true rfl) dX11_extent_3 (fun r3 M3 H locs h hP hS => ?_)
  refine lv_istore_n (lv' := [(3, .int r3), (0, .ref (ad 0)), (1, .int a1), (2, .int a2)]) hx hb dX11_extent_6 rfl hl (by decide) rfl (fun ls hl => ?_)
  refine lv_iload_n hx hb dX11_extent_7 rfl (lv_at hl 0 rfl) ?_
  refine lv_if_ge (tgt := 13) hx hb dX11_extent_8 (by decide) (fun q8 => ?_) (fun q8 => ?_)
  · have h := h.1 q8
    refine lv_iconst (v := 0) hx hb dX11_extent_13 (by decide) ?_
    refine lv_istore (lv' := [(4, .int 0), (3, .int r3), (0, .ref (ad 0)), (1, .int a1), (2, .int a2)]) hx hb dX11_extent_14 hl (by decide) rfl (fun ls hl => ?_)
    refine lv_iconst (v := 0) hx hb dX11_extent_16 (by decide) ?_
    refine lv_istore (lv' := [(5, .int 0), (4, .int 0), (3, .int r3), (0, .ref (ad 0)), (1, .int a1), (2, .int a2)]) hx hb dX11_extent_17 hl (by decide) rfl (fun ls hl => ?_)
    obtain ⟨n, h⟩ := h
    refine L19 _ (fun x4 M H locs ls hl hP hS h => ?_) n r3 0 0 M3 _ _ _ (lv_sub hl [3, 2, 1, 0] rfl) hP hS h
    refine lv_iload hx hb dX11_extent_60 (lv_at hl 0 rfl) ?_
    exact W.iret (v := x4) hx hb hr (fun t ht hW => ⟨⟨x4, M, rfl, h, mAt_of ht hP⟩, hS.F ht⟩) hS.2.2 dX11_extent_62
  · have h := h.2 q8
    refine lv_iload_n hx hb dX11_extent_11 rfl (lv_at hl 0 rfl) ?_
    exact W.iret (v := r3) hx hb hr (fun t ht hW => ⟨⟨r3, M3, rfl, h, mAt_of ht hP⟩, hS.F ht⟩) hS.2.2 dX11_extent_12
set_option maxHeartbeats 4000000 in
set_option maxRecDepth 100000 in
theorem kX11_half (l : Launch) (D : va_G) (cI cZ : ClassId) (ad : Nat → Nat) (hD : ∀ M : Mem, va_D (mA ad) (mW cI cZ ad M)) (M : Mem) (a0 : Int32) (Q : Int32 → Mem → Prop) (h : wX11_half M a0 Q) : Met l yX11_half uX11_half ({ frames := 0, cells := 0, slots := 0, locals := 0 }) (va_Pc [.int a0] (mPre D cI cZ ad M)) (va_Qi Q (mAt D cI cZ ad) (mA ad)) 0 0 (mA ad) := by
  refine Met.ofW (cc := cX11_half) (maxL := 1) (ret := (some .int)) (by decide) rfl ?_
  intro p e s m args below meth c s₁ B hml hv
  obtain ⟨rfl, hP, hK⟩ := hv
  have hx := B.exec
  have hb := B.bytes
  have hr := B.returns
  have hts := atoms_spec (ws := uX11_half) B.pre
  have hown : s.vm.findClass RX11 = some m.cls := findClass_of_methodNamed B.named
  have hlocks := B.notSynchronized
  have hS : va_S (mA ad) s.heap s.heap [] := va_S.rf
  have hl := lv_entry ([.int a0]) (n := 1) (Nat.le_of_ble_eq_true rfl)
  rw [lg_entry_eq]
  generalize (lg_sl ([.int a0]) ++ List.replicate (1 - (lg_sl ([.int a0])).length) Slot.unset).toArray = ls at hl ⊢
  have hl : lv_has ls 1 [(0, .int a0)] := hl
  refine lv_iload_n hx hb dX11_half_0 rfl (lv_at hl 0 rfl) ?_
  refine lv_iconst (v := 1) hx hb dX11_half_1 (by decide) ?_
  refine lv_ishr hx hb dX11_half_2 ?_
  exact W.iret (v := (a0 >>> (1 &&& 31))) hx hb hr (fun t ht hW => ⟨⟨(a0 >>> (1 &&& 31)), M, rfl, h, mAt_of ht hP⟩, hS.F ht⟩) hS.2.2 dX11_half_3
set_option maxHeartbeats 4000000 in
set_option maxRecDepth 100000 in
theorem kX11_planeDepth (l : Launch) (D : va_G) (cI cZ : ClassId) (ad : Nat → Nat) (hD : ∀ M : Mem, va_D (mA ad) (mW cI cZ ad M)) (M : Mem) (a1 a2 a3 a4 a5 : Int32) (Q : Int32 → Mem → Prop) (h : wX11_planeDepth M a1 a2 a3 a4 a5 Q) : Met l yX11_planeDepth uX11_planeDepth ({ frames := 1, cells := 0, slots := 0, locals := 20 }) (va_Pc [.ref (ad 0), .int a1, .int a2, .int a3, .int a4, .int a5] (mPre D cI cZ ad M)) (va_Qi Q (mAt D cI cZ ad) (mA ad)) 0 0 (mA ad) := by
  refine Met.ofW (cc := cX11_planeDepth) (maxL := 6) (ret := (some .int)) (by decide) rfl ?_
  intro p e s m args below meth c s₁ B hml hv
  obtain ⟨rfl, hP, hK⟩ := hv
  have hx := B.exec
  have hb := B.bytes
  have hr := B.returns
  have hts := atoms_spec (ws := uX11_planeDepth) B.pre
  have hown : s.vm.findClass RX11 = some m.cls := findClass_of_methodNamed B.named
  have hlocks := B.notSynchronized
  have hS : va_S (mA ad) s.heap s.heap [] := va_S.rf
  have k0 := hts (.fieldLink RX11 7 "TwoEyesModel" "width" "I") (List.mem_cons_of_mem _ (inA_6 _ (List.mem_of_getElem? (i := 18) rfl)))
  have inX11 : ∀ w ∈ wsX110, w ∈ uX11_planeDepth := fun w h => List.mem_cons_of_mem _ (inCX11 w h)
  have hl := lv_entry ([.ref (ad 0), .int a1, .int a2, .int a3, .int a4, .int a5]) (n := 6) (Nat.le_of_ble_eq_true rfl)
  rw [lg_entry_eq]
  generalize (lg_sl ([.ref (ad 0), .int a1, .int a2, .int a3, .int a4, .int a5]) ++ List.replicate (6 - (lg_sl ([.ref (ad 0), .int a1, .int a2, .int a3, .int a4, .int a5])).length) Slot.unset).toArray = ls at hl ⊢
  have hl : lv_has ls 6 [(0, .ref (ad 0)), (1, .int a1), (2, .int a2), (3, .int a3), (4, .int a4), (5, .int a5)] := hl
  refine lv_iload_n hx hb dX11_planeDepth_0 rfl (lv_at hl 3 rfl) ?_
  refine lv_iload hx hb dX11_planeDepth_1 (lv_at hl 4 rfl) ?_
  refine lv_iload_n hx hb dX11_planeDepth_3 rfl (lv_at hl 2 rfl) ?_
  refine lv_aload_n hx hb dX11_planeDepth_4 rfl (lv_at hl 0 rfl) ?_
  refine va_get (D := D) (ci := 11) (v := .int (M 0 0)) (C := RX11) (T := TX11) (N := 26) hx hb hts inX11 hown hK hP 0 (mW_0 cI cZ ad M) rfl 0 (by decide) k0 (fun _ h9 => h9) rfl dX11_planeDepth_5 ?_
  obtain ⟨hn8, h⟩ := h
  refine lv_irem hx hb dX11_planeDepth_8 hn8 ?_
  refine lv_topi (fun v8 ev8 => ?_)
  have h := h v8 ev8
  refine lv_iload_n hx hb dX11_planeDepth_9 rfl (lv_at hl 1 rfl) ?_
  refine lv_aload_n hx hb dX11_planeDepth_10 rfl (lv_at hl 0 rfl) ?_
  refine va_get (D := D) (ci := 11) (v := .int (M 0 0)) (C := RX11) (T := TX11) (N := 26) hx hb hts inX11 hown hK hP 0 (mW_0 cI cZ ad M) rfl 0 (by decide) k0 (fun _ h9 => h9) rfl dX11_planeDepth_11 ?_
  obtain ⟨hn14, h⟩ := h
  refine lv_irem hx hb dX11_planeDepth_14 hn14 ?_
  refine lv_topi (fun v14 ev14 => ?_)
  have h := h v14 ev14
  refine lv_isub hx hb dX11_planeDepth_15 ?_
  refine lv_imul hx hb dX11_planeDepth_16 ?_
  refine lv_iload hx hb dX11_planeDepth_17 (lv_at hl 5 rfl) ?_
  refine lv_iload_n hx hb dX11_planeDepth_19 rfl (lv_at hl 2 rfl) ?_
  refine lv_aload_n hx hb dX11_planeDepth_20 rfl (lv_at hl 0 rfl) ?_
  refine va_get (D := D) (ci := 11) (v := .int (M 0 0)) (C := RX11) (T := TX11) (N := 26) hx hb hts inX11 hown hK hP 0 (mW_0 cI cZ ad M) rfl 0 (by decide) k0 (fun _ h9 => h9) rfl dX11_planeDepth_21 ?_
  obtain ⟨hn24, h⟩ := h
  refine lv_idiv hx hb dX11_planeDepth_24 hn24 ?_
  refine lv_iload_n hx hb dX11_planeDepth_25 rfl (lv_at hl 1 rfl) ?_
  refine lv_aload_n hx hb dX11_planeDepth_26 rfl (lv_at hl 0 rfl) ?_
  refine va_get (D := D) (ci := 11) (v := .int (M 0 0)) (C := RX11) (T := TX11) (N := 26) hx hb hts inX11 hown hK hP 0 (mW_0 cI cZ ad M) rfl 0 (by decide) k0 (fun _ h9 => h9) rfl dX11_planeDepth_27 ?_
  obtain ⟨hn30, h⟩ := h
  refine lv_idiv hx hb dX11_planeDepth_30 hn30 ?_
  refine lv_isub hx hb dX11_planeDepth_31 ?_
  refine lv_imul hx hb dX11_planeDepth_32 ?_
  refine lv_iadd hx hb dX11_planeDepth_33 ?_
  refine m_callSi (As := [.int ((a4 * (v8 - v14)) + (a5 * ((a2 / (M 0 0)) - (a1 / (M 0 0)))))]) (rest := [.int a3]) ⟨hx, hb, hml, hown, hts⟩ (kX11_half l D cI cZ ad hD M ((a4 * (v8 - v14)) + (a5 * ((a2 / (M 0 0)) - (a1 / (M 0 0))))) _ h) (va_cwS 1 hts (gdS uS (inA_32 _ (List.mem_of_getElem? (i := 12) rfl)) vX11_half) rfl rfl rfl (by decide +kernel) ⟨Nat.le_of_ble_eq_true rfl, Nat.le_of_ble_eq_true rfl⟩) hP hK hS hl.1 rfl rfl (Nat.le_of_ble_eq_true rfl) dX11_planeDepth_34 (fun r34 M34 H locs h hP hS => ?_)
  refine lv_iadd hx hb dX11_planeDepth_37 ?_
  exact W.iret (v := (a3 + r34)) hx hb hr (fun t ht hW => ⟨⟨(a3 + r34), M34, rfl, h, mAt_of ht hP⟩, hS.F ht⟩) hS.2.2 dX11_planeDepth_38
abbrev GX11_planeCost (p : Program) (l : Launch) (e : Env) (s : State) (m : MethodId) (below : List Frame) (meth : Method) (c : Code) (D : va_G) (cI cZ : ClassId) (ad : Nat → Nat) (a1 a2 a3 a4 : Int32) (Q : Int32 → Mem → Prop) (H : Heap) (locs : List Loc) (g : JFrame) : Prop := W p l e (headSpec uX11_planeCost { frames := 2, cells := 0, slots := 0, locals := 45 }).room s m ([.ref (ad 0), .int a1, .int a2, .int a3, .int a4] : List Value).toArray below meth c H locs 0 0 (MQ below (va_Qi Q (mAt D cI cZ ad) (mA ad)) ([.ref (ad 0), .int a1, .int a2, .int a3, .int a4] : List Value).toArray s 0 0 (mA ad)) g
set_option maxHeartbeats 4000000 in
set_option maxRecDepth 100000 in
theorem kX11_planeCost (l : Launch) (D : va_G) (cI cZ : ClassId) (ad : Nat → Nat) (hD : ∀ M : Mem, va_D (mA ad) (mW cI cZ ad M)) (M : Mem) (a1 a2 a3 a4 : Int32) (Q : Int32 → Mem → Prop) (h : wX11_planeCost M a1 a2 a3 a4 Q) : Met l yX11_planeCost uX11_planeCost ({ frames := 2, cells := 0, slots := 0, locals := 45 }) (va_Pc [.ref (ad 0), .int a1, .int a2, .int a3, .int a4] (mPre D cI cZ ad M)) (va_Qi Q (mAt D cI cZ ad) (mA ad)) 0 0 (mA ad) := by
  refine Met.ofW (cc := cX11_planeCost) (maxL := 9) (ret := (some .int)) (by decide) rfl ?_
  intro p e s m args below meth c s₁ B hml hv
  obtain ⟨rfl, hP, hK⟩ := hv
  have hx := B.exec
  have hb := B.bytes
  have hr := B.returns
  have hts := atoms_spec (ws := uX11_planeCost) B.pre
  have hown : s.vm.findClass RX11 = some m.cls := findClass_of_methodNamed B.named
  have hlocks := B.notSynchronized
  have hS : va_S (mA ad) s.heap s.heap [] := va_S.rf
  have k0 := hts (.fieldLink RX11 7 "TwoEyesModel" "width" "I") (List.mem_cons_of_mem _ (inA_6 _ (List.mem_of_getElem? (i := 18) rfl)))
  have inX11 : ∀ w ∈ wsX110, w ∈ uX11_planeCost := fun w h => List.mem_cons_of_mem _ (inCX11 w h)
  have k2 := hts (.fieldLink RX11 13 "TwoEyesModel" "height" "I") (List.mem_cons_of_mem _ (inA_6 _ (List.mem_of_getElem? (i := 19) rfl)))
  have k3 := hts (.fieldLink RX11 63 "TwoEyesModel" "anchorOf" "[I") (List.mem_cons_of_mem _ (inA_7 _ (List.mem_of_getElem? (i := 11) rfl)))
  have k4 := hts (.fieldLink RX11 30 "TwoEyesModel" "rules" "[I") (List.mem_cons_of_mem _ (inA_7 _ (List.mem_of_getElem? (i := 0) rfl)))
  have k5 := hts (.fieldLink RX11 48 "TwoEyesModel" "costs" "[I") (List.mem_cons_of_mem _ (inA_7 _ (List.mem_of_getElem? (i := 6) rfl)))
  have J76 : ∀ (B : Int32 → Int32 → Int32 → Int32 → Int32 → Int32 → Mem → Prop) (K102 : Int32 → Mem → Prop), (∀ (x1 x2 x3 x4 x5 x6 : Int32) (M : Mem) (H : Heap) (locs : List Loc) (ls : Array Slot), lv_has ls 9 [(0, .ref (ad 0)), (1, .int x1), (2, .int x2), (3, .int x3), (4, .int x4), (5, .int x5), (6, .int x6)] → va_P D vwCl (mW cI cZ ad M) H → va_S (mA ad) s.heap H locs → B x1 x2 x3 x4 x5 x6 M → GX11_planeCost p l e s m below meth c D cI cZ ad a1 a2 a3 a4 Q H locs (F0 m 6 ls [])) → (∀ (x5 : Int32) (M : Mem) (H : Heap) (locs : List Loc) (ls : Array Slot), lv_has ls 9 [(5, .int x5)] → va_P D vwCl (mW cI cZ ad M) H → va_S (mA ad) s.heap H locs → K102 x5 M → GX11_planeCost p l e s m below meth c D cI cZ ad a1 a2 a3 a4 Q H locs (F0 m 102 ls [])) → ∀ (x1 x2 x3 x4 x5 x6 t0 : Int32) (M : Mem) (H : Heap) (locs : List Loc) (ls : Array Slot), lv_has ls 9 [(0, .ref (ad 0)), (1, .int x1), (2, .int x2), (3, .int x3), (4, .int x4), (5, .int x5), (6, .int x6)] → va_P D vwCl (mW cI cZ ad M) H → va_S (mA ad) s.heap H locs → wX11_planeCost_J76 B K102 Q x1 x2 x3 x4 x5 x6 t0 M → GX11_planeCost p l e s m below meth c D cI cZ ad a1 a2 a3 a4 Q H locs (F0 m 76 ls [.int t0]) := by
    intro B K102 hB hK102 x1 x2 x3 x4 x5 x6 t0 M H locs ls hl hP hS h
    refine lv_istore (lv' := [(8, .int t0), (0, .ref (ad 0)), (1, .int x1), (2, .int x2), (3, .int x3), (4, .int x4), (5, .int x5), (6, .int x6)]) hx hb dX11_planeCost_76 hl (by decide) rfl (fun ls hl => ?_)
    refine lv_iload hx hb dX11_planeCost_78 (lv_at hl 6 rfl) ?_
    refine lv_iload hx hb dX11_planeCost_80 (lv_at hl 0 rfl) ?_
    refine lv_iconst (v := (-1)) hx hb dX11_planeCost_82 (by decide) ?_
    refine lv_icmp_ne (tgt := 91) hx hb dX11_planeCost_83 (by decide) (fun q83 => ?_) (fun q83 => ?_)
    · have h := h.1 q83
      refine lv_iload hx hb dX11_planeCost_91 (lv_at hl 0 rfl) ?_
      refine lv_iadd hx hb dX11_planeCost_93 ?_
      refine lv_topi (fun x5_94 ex5_94 => ?_)
      have h := h x5_94 ex5_94
      refine lv_istore (lv' := [(5, .int x5_94), (8, .int t0), (0, .ref (ad 0)), (1, .int x1), (2, .int x2), (3, .int x3), (4, .int x4), (6, .int x6)]) hx hb dX11_planeCost_94 hl (by decide) rfl (fun ls hl => ?_)
      obtain ⟨x6_96, ex6_96⟩ : ∃ y : Int32, y = x6 + 1 := ⟨_, rfl⟩
      have h := h x6_96 ex6_96
      refine lv_iinc (v := x6_96) (lv' := [(6, .int x6_96), (5, .int x5_94), (8, .int t0), (0, .ref (ad 0)), (1, .int x1), (2, .int x2), (3, .int x3), (4, .int x4)]) hx hb dX11_planeCost_96 hl (k := 7) rfl (by rw [ex6_96]; rfl) (by decide) rfl (fun ls hl => ?_)
      refine lv_goto (tgt := 6) hx hb dX11_planeCost_99 (by decide) ?_
      exact hB x1 x2 x3 x4 x5_94 x6_96 M _ _ _ (lv_sub hl [3, 4, 5, 6, 7, 1, 0] rfl) hP hS h
    · have h := h.2 q83
      refine lv_bipush (v := 9) hx hb dX11_planeCost_86 (by decide) ?_
      refine lv_goto (tgt := 93) hx hb dX11_planeCost_88 (by decide) ?_
      refine lv_iadd hx hb dX11_planeCost_93 ?_
      refine lv_topi (fun x5_94 ex5_94 => ?_)
      have h := h x5_94 ex5_94
      refine lv_istore (lv' := [(5, .int x5_94), (8, .int t0), (0, .ref (ad 0)), (1, .int x1), (2, .int x2), (3, .int x3), (4, .int x4), (6, .int x6)]) hx hb dX11_planeCost_94 hl (by decide) rfl (fun ls hl => ?_)
      obtain ⟨x6_96, ex6_96⟩ : ∃ y : Int32, y = x6 + 1 := ⟨_, rfl⟩
      have h := h x6_96 ex6_96
      refine lv_iinc (v := x6_96) (lv' := [(6, .int x6_96), (5, .int x5_94), (8, .int t0), (0, .ref (ad 0)), (1, .int x1), (2, .int x2), (3, .int x3), (4, .int x4)]) hx hb dX11_planeCost_96 hl (k := 7) rfl (by rw [ex6_96]; rfl) (by decide) rfl (fun ls hl => ?_)
      refine lv_goto (tgt := 6) hx hb dX11_planeCost_99 (by decide) ?_
      exact hB x1 x2 x3 x4 x5_94 x6_96 M _ _ _ (lv_sub hl [3, 4, 5, 6, 7, 1, 0] rfl) hP hS h
  have L6 : ∀ (K102 : Int32 → Mem → Prop), (∀ (x5 : Int32) (M : Mem) (H : Heap) (locs : List Loc) (ls : Array Slot), lv_has ls 9 [(5, .int x5)] → va_P D vwCl (mW cI cZ ad M) H → va_S (mA ad) s.heap H locs → K102 x5 M → GX11_planeCost p l e s m below meth c D cI cZ ad a1 a2 a3 a4 Q H locs (F0 m 102 ls [])) → ∀ n : Nat, ∀ (x1 x2 x3 x4 x5 x6 : Int32) (M : Mem) (H : Heap) (locs : List Loc) (ls : Array Slot), lv_has ls 9 [(0, .ref (ad 0)), (1, .int x1), (2, .int x2), (3, .int x3), (4, .int x4), (5, .int x5), (6, .int x6)] → va_P D vwCl (mW cI cZ ad M) H → va_S (mA ad) s.heap H locs → wX11_planeCost_L6 K102 Q n x1 x2 x3 x4 x5 x6 M → GX11_planeCost p l e s m below meth c D cI cZ ad a1 a2 a3 a4 Q H locs (F0 m 6 ls []) := by
    intro K102 hK102 n
    induction n with
    | zero => intro x1 x2 x3 x4 x5 x6 M H locs ls hl hP hS h; exact (show False from h).elim
    | succ n hB =>
      intro x1 x2 x3 x4 x5 x6 M H locs ls hl hP hS h
      rw [wX11_planeCost_L6_s] at h
      refine lv_iload hx hb dX11_planeCost_6 (lv_at hl 6 rfl) ?_
      refine lv_aload_n hx hb dX11_planeCost_8 rfl (lv_at hl 0 rfl) ?_
      refine va_get (D := D) (ci := 11) (v := .int (M 0 0)) (C := RX11) (T := TX11) (N := 26) hx hb hts inX11 hown hK hP 0 (mW_0 cI cZ ad M) rfl 0 (by decide) k0 (fun _ h9 => h9) rfl dX11_planeCost_9 ?_
      refine lv_aload_n hx hb dX11_planeCost_12 rfl (lv_at hl 0 rfl) ?_
      refine va_get (D := D) (ci := 11) (v := .int (M 0 1)) (C := RX11) (T := TX11) (N := 26) hx hb hts inX11 hown hK hP 0 (mW_0 cI cZ ad M) rfl 1 (by decide) k2 (fun _ h9 => h9) rfl dX11_planeCost_13 ?_
      refine lv_imul hx hb dX11_planeCost_16 ?_
      refine lv_icmp_ge (tgt := 102) hx hb dX11_planeCost_17 (by decide) (fun q17 => ?_) (fun q17 => ?_)
      · have h := h.1 q17
        exact hK102 x5 M _ _ _ (lv_sub hl [5] rfl) hP hS h
      · have h := h.2 q17
        refine lv_aload_n hx hb dX11_planeCost_20 rfl (lv_at hl 0 rfl) ?_
        refine va_get (D := D) (ci := 11) (v := .ref (ad 16)) (C := RX11) (T := TX11) (N := 26) hx hb hts inX11 hown hK hP 0 (mW_0 cI cZ ad M) rfl 21 (by decide) k3 (fun _ h9 => h9) rfl dX11_planeCost_21 ?_
        refine lv_iload hx hb dX11_planeCost_24 (lv_at hl 6 rfl) ?_
        obtain ⟨hi26, h⟩ := h
        refine va_iald hx hb hK hP 16 0 (mW_16 cI cZ ad M) rfl hi26 dX11_planeCost_26 ?_
        refine lv_iload_n hx hb dX11_planeCost_27 rfl (lv_at hl 1 rfl) ?_
        refine lv_icmp_ne (tgt := 96) hx hb dX11_planeCost_28 (by decide) (fun q28 => ?_) (fun q28 => ?_)
        · have h := h.1 q28
          obtain ⟨x6_96, ex6_96⟩ : ∃ y : Int32, y = x6 + 1 := ⟨_, rfl⟩
          have h := h x6_96 ex6_96
          refine lv_iinc (v := x6_96) (lv' := [(6, .int x6_96), (0, .ref (ad 0)), (1, .int x1), (2, .int x2), (3, .int x3), (4, .int x4), (5, .int x5)]) hx hb dX11_planeCost_96 hl (k := 6) rfl (by rw [ex6_96]; rfl) (by decide) rfl (fun ls hl => ?_)
          refine lv_goto (tgt := 6) hx hb dX11_planeCost_99 (by decide) ?_
          exact hB x1 x2 x3 x4 x5 x6_96 M _ _ _ (lv_sub hl [1, 2, 3, 4, 5, 6, 0] rfl) hP hS h
        · have h := h.2 q28
          refine lv_aload_n hx hb dX11_planeCost_31 rfl (lv_at hl 0 rfl) ?_
          refine lv_iload_n hx hb dX11_planeCost_32 rfl (lv_at hl 1 rfl) ?_
          refine lv_iload hx hb dX11_planeCost_33 (lv_at hl 6 rfl) ?_
          refine lv_iload_n hx hb dX11_planeCost_35 rfl (lv_at hl 2 rfl) ?_
          refine lv_iload_n hx hb dX11_planeCost_36 rfl (lv_at hl 3 rfl) ?_
          refine lv_iload hx hb dX11_planeCost_37 (lv_at hl 4 rfl) ?_
          refine m_callVi (As := [.int x1, .int x6, .int x2, .int x3, .int x4]) (rest := []) ⟨hx, hb, hml, hown, hts⟩ (kX11_planeDepth l D cI cZ ad hD M x1 x6 x2 x3 x4 _ h) (cwV 5 hts (gdV uS (inA_32 _ (List.mem_of_getElem? (i := 8) rfl)) vX11_planeDepth) rfl rfl rfl (by decide +kernel) ⟨Nat.le_of_ble_eq_true rfl, Nat.le_of_ble_eq_true rfl⟩) (va_recv hK hP (ci := 11) (q0 := 0) rfl (mW_0 cI cZ ad M)) hP hK hS hl.1 rfl rfl (Nat.le_of_ble_eq_true rfl) dX11_planeCost_39 (fun r39 M39 H locs h hP hS => ?_)
          refine lv_istore (lv' := [(7, .int r39), (0, .ref (ad 0)), (1, .int x1), (2, .int x2), (3, .int x3), (4, .int x4), (5, .int x5), (6, .int x6)]) hx hb dX11_planeCost_42 hl (by decide) rfl (fun ls hl => ?_)
          refine lv_iload hx hb dX11_planeCost_44 (lv_at hl 0 rfl) ?_
          refine lv_iconst (v := 0) hx hb dX11_planeCost_46 (by decide) ?_
          refine lv_aload_n hx hb dX11_planeCost_47 rfl (lv_at hl 1 rfl) ?_
          refine va_get (D := D) (ci := 11) (v := .ref (ad 5)) (C := RX11) (T := TX11) (N := 26) hx hb hts inX11 hown hK hP 0 (mW_0 cI cZ ad M39) rfl 6 (by decide) k4 (fun _ h9 => h9) rfl dX11_planeCost_48 ?_
          refine lv_iconst (v := 0) hx hb dX11_planeCost_51 (by decide) ?_
          obtain ⟨hi52, h⟩ := h
          refine va_iald hx hb hK hP 5 0 (mW_5 cI cZ ad M39) rfl hi52 dX11_planeCost_52 ?_
          refine m_callSi (As := [.int r39, .int 0, .int (M39 5 (0 : Int32).toNatClampNeg)]) (rest := []) ⟨hx, hb, hml, hown, hts⟩ (kX11_in l D cI cZ ad hD M39 r39 0 (M39 5 (0 : Int32).toNatClampNeg) _ h) (va_cwS 3 hts (gdS uS (inA_9 _ (List.mem_of_getElem? (i := 4) rfl)) vX11_in) rfl rfl rfl (by decide +kernel) ⟨Nat.le_of_ble_eq_true rfl, Nat.le_of_ble_eq_true rfl⟩) hP hK hS hl.1 rfl rfl (Nat.le_of_ble_eq_true rfl) dX11_planeCost_53 (fun r53 M53 H locs h hP hS => ?_)
          refine lv_if_eq (tgt := 75) hx hb dX11_planeCost_56 (by decide) (fun q56 => ?_) (fun q56 => ?_)
          · have h := h.1 q56
            refine lv_iconst (v := (-1)) hx hb dX11_planeCost_75 (by decide) ?_
            exact J76 _ K102 hB hK102 x1 x2 x3 x4 x5 x6 (-1) M53 _ _ _ (lv_sub hl [1, 2, 3, 4, 5, 6, 7] rfl) hP hS h
          · have h := h.2 q56
            refine lv_aload_n hx hb dX11_planeCost_59 rfl (lv_at hl 1 rfl) ?_
            refine va_get (D := D) (ci := 11) (v := .ref (ad 11)) (C := RX11) (T := TX11) (N := 26) hx hb hts inX11 hown hK hP 0 (mW_0 cI cZ ad M53) rfl 16 (by decide) k5 (fun _ h9 => h9) rfl dX11_planeCost_60 ?_
            refine lv_bipush (v := 9) hx hb dX11_planeCost_63 (by decide) ?_
            refine lv_iload hx hb dX11_planeCost_65 (lv_at hl 7 rfl) ?_
            refine lv_imul hx hb dX11_planeCost_67 ?_
            refine lv_iload hx hb dX11_planeCost_68 (lv_at hl 0 rfl) ?_
            refine lv_iadd hx hb dX11_planeCost_70 ?_
            obtain ⟨hi71, h⟩ := h
            refine va_iald hx hb hK hP 11 0 (mW_11 cI cZ ad M53) rfl hi71 dX11_planeCost_71 ?_
            refine lv_goto (tgt := 76) hx hb dX11_planeCost_72 (by decide) ?_
            exact J76 _ K102 hB hK102 x1 x2 x3 x4 x5 x6 (M53 11 ((9 * x6) + r39).toNatClampNeg) M53 _ _ _ (lv_sub hl [1, 2, 3, 4, 5, 6, 7] rfl) hP hS h
  have hl := lv_entry ([.ref (ad 0), .int a1, .int a2, .int a3, .int a4]) (n := 9) (Nat.le_of_ble_eq_true rfl)
  rw [lg_entry_eq]
  generalize (lg_sl ([.ref (ad 0), .int a1, .int a2, .int a3, .int a4]) ++ List.replicate (9 - (lg_sl ([.ref (ad 0), .int a1, .int a2, .int a3, .int a4])).length) Slot.unset).toArray = ls at hl ⊢
  have hl : lv_has ls 9 [(0, .ref (ad 0)), (1, .int a1), (2, .int a2), (3, .int a3), (4, .int a4)] := hl
  refine lv_iconst (v := 0) hx hb dX11_planeCost_0 (by decide) ?_
  refine lv_istore (lv' := [(5, .int 0), (0, .ref (ad 0)), (1, .int a1), (2, .int a2), (3, .int a3), (4, .int a4)]) hx hb dX11_planeCost_1 hl (by decide) rfl (fun ls hl => ?_)
  refine lv_iconst (v := 0) hx hb dX11_planeCost_3 (by decide) ?_
  refine lv_istore (lv' := [(6, .int 0), (5, .int 0), (0, .ref (ad 0)), (1, .int a1), (2, .int a2), (3, .int a3), (4, .int a4)]) hx hb dX11_planeCost_4 hl (by decide) rfl (fun ls hl => ?_)
  obtain ⟨n, h⟩ := h
  refine L6 _ (fun x5 M H locs ls hl hP hS h => ?_) n a1 a2 a3 a4 0 0 M _ _ _ (lv_sub hl [2, 3, 4, 5, 6, 1, 0] rfl) hP hS h
  refine lv_iload hx hb dX11_planeCost_102 (lv_at hl 0 rfl) ?_
  exact W.iret (v := x5) hx hb hr (fun t ht hW => ⟨⟨x5, M, rfl, h, mAt_of ht hP⟩, hS.F ht⟩) hS.2.2 dX11_planeCost_104
