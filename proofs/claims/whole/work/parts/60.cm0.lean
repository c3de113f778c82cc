set_option maxHeartbeats 4000000 in
set_option maxRecDepth 100000 in
theorem kX11_in (l : Launch) (D : va_G) (cI cZ : ClassId) (ad : Nat → Nat) (hD : ∀ M : Mem, va_D (mA ad) (mW cI cZ ad M)) (M : Mem) (a0 a1 a2 : Int32) (Q : Int32 → Mem → Prop) (h : wX11_in M a0 a1 a2 Q) : Met l yX11_in uX11_in ({ frames := 0, cells := 0, slots := 0, locals := 0 }) (va_Pc [.int a0, .int a1, .int a2] (mPre D cI cZ ad M)) (va_Qi Q (mAt D cI cZ ad) (mA ad)) 0 0 (mA ad) := by
  refine Met.ofW (cc := cX11_in) (maxL := 3) (ret := (some .boolean)) (by decide) rfl ?_
  intro p e s m args below meth c s₁ B hml hv
  obtain ⟨rfl, hP, hK⟩ := hv
  have hx := B.exec
  have hb := B.bytes
  have hr := B.returns
  have hts := atoms_spec (ws := uX11_in) B.pre
  have hown : s.vm.findClass RX11 = some m.cls := findClass_of_methodNamed B.named
  have hlocks := B.notSynchronized
  have hS : va_S (mA ad) s.heap s.heap [] := va_S.rf
  have hl := lv_entry ([.int a0, .int a1, .int a2]) (n := 3) (Nat.le_of_ble_eq_true rfl)
  rw [lg_entry_eq]
  generalize (lg_sl ([.int a0, .int a1, .int a2]) ++ List.replicate (3 - (lg_sl ([.int a0, .int a1, .int a2])).length) Slot.unset).toArray = ls at hl ⊢
  have hl : lv_has ls 3 [(0, .int a0), (1, .int a1), (2, .int a2)] := hl
  refine lv_iload_n hx hb dX11_in_0 rfl (lv_at hl 0 rfl) ?_
  refine lv_iload_n hx hb dX11_in_1 rfl (lv_at hl 1 rfl) ?_
  refine lv_icmp_lt (tgt := 14) hx hb dX11_in_2 (by decide) (fun q2 => ?_) (fun q2 => ?_)
  · have h := h.1 q2
    refine lv_iconst (v := 0) hx hb dX11_in_14 (by decide) ?_
    exact W.zret (v := 0) hx hb hr rfl (fun t ht hW => ⟨⟨0, M, rfl, h, mAt_of ht hP⟩, hS.F ht⟩) hS.2.2 dX11_in_15
  · have h := h.2 q2
    refine lv_iload_n hx hb dX11_in_5 rfl (lv_at hl 0 rfl) ?_
    refine lv_iload_n hx hb dX11_in_6 rfl (lv_at hl 2 rfl) ?_
    refine lv_icmp_gt (tgt := 14) hx hb dX11_in_7 (by decide) (fun q7 => ?_) (fun q7 => ?_)
    · have h := h.1 q7
      refine lv_iconst (v := 0) hx hb dX11_in_14 (by decide) ?_
      exact W.zret (v := 0) hx hb hr rfl (fun t ht hW => ⟨⟨0, M, rfl, h, mAt_of ht hP⟩, hS.F ht⟩) hS.2.2 dX11_in_15
    · have h := h.2 q7
      refine lv_iconst (v := 1) hx hb dX11_in_10 (by decide) ?_
      refine lv_goto (tgt := 15) hx hb dX11_in_11 (by decide) ?_
      exact W.zret (v := 1) hx hb hr rfl (fun t ht hW => ⟨⟨1, M, rfl, h, mAt_of ht hP⟩, hS.F ht⟩) hS.2.2 dX11_in_15
abbrev GX11_blank (p : Program) (l : Launch) (e : Env) (s : State) (m : MethodId) (below : List Frame) (meth : Method) (c : Code) (D : va_G) (cI cZ : ClassId) (ad : Nat → Nat) (a1 a2 : Int32) (Q : Mem → Prop) (H : Heap) (locs : List Loc) (g : JFrame) : Prop := W p l e (headSpec uX11_blank { frames := 0, cells := 0, slots := 0, locals := 0 }).room s m ([.ref (ad 0), .int a1, .int a2] : List Value).toArray below meth c H locs 0 0 (MQ below (va_Qv Q (mAt D cI cZ ad) (mA ad)) ([.ref (ad 0), .int a1, .int a2] : List Value).toArray s 0 0 (mA ad)) g
set_option maxHeartbeats 4000000 in
set_option maxRecDepth 100000 in
theorem kX11_blank (l : Launch) (D : va_G) (cI cZ : ClassId) (ad : Nat → Nat) (hD : ∀ M : Mem, va_D (mA ad) (mW cI cZ ad M)) (M : Mem) (a1 a2 : Int32) (Q : Mem → Prop) (h : wX11_blank M a1 a2 Q) : Met l yX11_blank uX11_blank ({ frames := 0, cells := 0, slots := 0, locals := 0 }) (va_Pc [.ref (ad 0), .int a1, .int a2] (mPre D cI cZ ad M)) (va_Qv Q (mAt D cI cZ ad) (mA ad)) 0 0 (mA ad) := by
  refine Met.ofW (cc := cX11_blank) (maxL := 4) (ret := none) (by decide) rfl ?_
  intro p e s m args below meth c s₁ B hml hv
  obtain ⟨rfl, hP, hK⟩ := hv
  have hx := B.exec
  have hb := B.bytes
  have hr := B.returns
  have hts := atoms_spec (ws := uX11_blank) B.pre
  have hown : s.vm.findClass RX11 = some m.cls := findClass_of_methodNamed B.named
  have hlocks := B.notSynchronized
  have hS : va_S (mA ad) s.heap s.heap [] := va_S.rf
  have k0 := hts (.fieldLink RX11 24 "TwoEyesModel" "isRowGone" "[Z") (List.mem_cons_of_mem _ (inA_6 _ (List.mem_of_getElem? (i := 22) rfl)))
  have inX11 : ∀ w ∈ wsX110, w ∈ uX11_blank := fun w h => List.mem_cons_of_mem _ (inCX11 w h)
  have k2 := hts (.fieldLink RX11 27 "TwoEyesModel" "truths" "[I") (List.mem_cons_of_mem _ (inA_6 _ (List.mem_of_getElem? (i := 23) rfl)))
  have k3 := hts (.fieldLink RX11 16 "TwoEyesModel" "shades" "[I") (List.mem_cons_of_mem _ (inA_6 _ (List.mem_of_getElem? (i := 20) rfl)))
  have k4 := hts (.fieldLink RX11 20 "TwoEyesModel" "isGone" "[Z") (List.mem_cons_of_mem _ (inA_6 _ (List.mem_of_getElem? (i := 21) rfl)))
  have k5 := hts (.fieldLink RX11 7 "TwoEyesModel" "width" "I") (List.mem_cons_of_mem _ (inA_6 _ (List.mem_of_getElem? (i := 18) rfl)))
  have k6 := hts (.fieldLink RX11 13 "TwoEyesModel" "height" "I") (List.mem_cons_of_mem _ (inA_6 _ (List.mem_of_getElem? (i := 19) rfl)))
  have k7 := hts (.fieldLink RX11 76 "TwoEyesModel" "isReckoned" "Z") (List.mem_cons_of_mem _ (inA_7 _ (List.mem_of_getElem? (i := 18) rfl)))
  have L41 : ∀ (K60 : Mem → Prop), (∀ (M : Mem) (H : Heap) (locs : List Loc) (ls : Array Slot), lv_has ls 4 [(0, .ref (ad 0))] → va_P D vwCl (mW cI cZ ad M) H → va_S (mA ad) s.heap H locs → K60 M → GX11_blank p l e s m below meth c D cI cZ ad a1 a2 Q H locs (F0 m 60 ls [])) → ∀ n : Nat, ∀ (x3 : Int32) (M : Mem) (H : Heap) (locs : List Loc) (ls : Array Slot), lv_has ls 4 [(0, .ref (ad 0)), (3, .int x3)] → va_P D vwCl (mW cI cZ ad M) H → va_S (mA ad) s.heap H locs → wX11_blank_L41 K60 Q n x3 M → GX11_blank p l e s m below meth c D cI cZ ad a1 a2 Q H locs (F0 m 41 ls []) := by
    intro K60 hK60 n
    induction n with
    | zero => intro x3 M H locs ls hl hP hS h; exact (show False from h).elim
    | succ n hB =>
      intro x3 M H locs ls hl hP hS h
      rw [wX11_blank_L41_s] at h
      refine lv_iload_n hx hb dX11_blank_41 rfl (lv_at hl 1 rfl) ?_
      refine lv_bipush (v := 20) hx hb dX11_blank_42 (by decide) ?_
      refine lv_icmp_ge (tgt := 60) hx hb dX11_blank_44 (by decide) (fun q44 => ?_) (fun q44 => ?_)
      · have h := h.1 q44
        exact hK60 M _ _ _ (lv_sub hl [0] rfl) hP hS h
      · have h := h.2 q44
        refine lv_aload_n hx hb dX11_blank_47 rfl (lv_at hl 0 rfl) ?_
        refine va_get (D := D) (ci := 11) (v := .ref (ad 3)) (C := RX11) (T := TX11) (N := 26) hx hb hts inX11 hown hK hP 0 (mW_0 cI cZ ad M) rfl 4 (by decide) k0 (fun _ h9 => h9) rfl dX11_blank_48 ?_
        refine lv_iload_n hx hb dX11_blank_51 rfl (lv_at hl 1 rfl) ?_
        refine lv_iconst (v := 0) hx hb dX11_blank_52 (by decide) ?_
        obtain ⟨hi53, h⟩ := h
        refine va_zast hx hb hK hP (hD M) hS 3 1 (mW_3 cI cZ ad M) rfl hi53 dX11_blank_53 (fun H locs hP _ hS => ?_)
        rw [zst (Or.inl rfl)] at hP
        refine mQ_3 hP (fun M53 eM53 hP => ?_)
        have h := h M53 eM53
        obtain ⟨x3_54, ex3_54⟩ : ∃ y : Int32, y = x3 + 1 := ⟨_, rfl⟩
        have h := h x3_54 ex3_54
        refine lv_iinc (v := x3_54) (lv' := [(3, .int x3_54), (0, .ref (ad 0))]) hx hb dX11_blank_54 hl (k := 1) rfl (by rw [ex3_54]; rfl) (by decide) rfl (fun ls hl => ?_)
        refine lv_goto (tgt := 41) hx hb dX11_blank_57 (by decide) ?_
        exact hB x3_54 M53 _ _ _ (lv_sub hl [1, 0] rfl) hP hS h
  have L62 : ∀ (K83 : Mem → Prop), (∀ (M : Mem) (H : Heap) (locs : List Loc) (ls : Array Slot), lv_has ls 4 [(0, .ref (ad 0))] → va_P D vwCl (mW cI cZ ad M) H → va_S (mA ad) s.heap H locs → K83 M → GX11_blank p l e s m below meth c D cI cZ ad a1 a2 Q H locs (F0 m 83 ls [])) → ∀ n : Nat, ∀ (x3 : Int32) (M : Mem) (H : Heap) (locs : List Loc) (ls : Array Slot), lv_has ls 4 [(0, .ref (ad 0)), (3, .int x3)] → va_P D vwCl (mW cI cZ ad M) H → va_S (mA ad) s.heap H locs → wX11_blank_L62 K83 Q n x3 M → GX11_blank p l e s m below meth c D cI cZ ad a1 a2 Q H locs (F0 m 62 ls []) := by
    intro K83 hK83 n
    induction n with
    | zero => intro x3 M H locs ls hl hP hS h; exact (show False from h).elim
    | succ n hB =>
      intro x3 M H locs ls hl hP hS h
      rw [wX11_blank_L62_s] at h
      refine lv_iload_n hx hb dX11_blank_62 rfl (lv_at hl 1 rfl) ?_
      refine lv_sipush (v := 200) hx hb dX11_blank_63 (by decide) ?_
      refine lv_icmp_ge (tgt := 83) hx hb dX11_blank_66 (by decide) (fun q66 => ?_) (fun q66 => ?_)
      · have h := h.1 q66
        exact hK83 M _ _ _ (lv_sub hl [0] rfl) hP hS h
      · have h := h.2 q66
        refine lv_aload_n hx hb dX11_blank_69 rfl (lv_at hl 0 rfl) ?_
        refine va_get (D := D) (ci := 11) (v := .ref (ad 4)) (C := RX11) (T := TX11) (N := 26) hx hb hts inX11 hown hK hP 0 (mW_0 cI cZ ad M) rfl 5 (by decide) k2 (fun _ h9 => h9) rfl dX11_blank_70 ?_
        refine lv_iload_n hx hb dX11_blank_73 rfl (lv_at hl 1 rfl) ?_
        refine lv_bipush (v := (-4)) hx hb dX11_blank_74 (by decide) ?_
        obtain ⟨hi76, h⟩ := h
        refine va_iast hx hb hK hP (hD M) hS 4 0 (mW_4 cI cZ ad M) rfl hi76 dX11_blank_76 (fun H locs hP _ hS => ?_)
        refine mQ_4 hP (fun M76 eM76 hP => ?_)
        have h := h M76 eM76
        obtain ⟨x3_77, ex3_77⟩ : ∃ y : Int32, y = x3 + 1 := ⟨_, rfl⟩
        have h := h x3_77 ex3_77
        refine lv_iinc (v := x3_77) (lv' := [(3, .int x3_77), (0, .ref (ad 0))]) hx hb dX11_blank_77 hl (k := 1) rfl (by rw [ex3_77]; rfl) (by decide) rfl (fun ls hl => ?_)
        refine lv_goto (tgt := 62) hx hb dX11_blank_80 (by decide) ?_
        exact hB x3_77 M76 _ _ _ (lv_sub hl [1, 0] rfl) hP hS h
  have L12 : ∀ (K39 : Mem → Prop), (∀ (M : Mem) (H : Heap) (locs : List Loc) (ls : Array Slot), lv_has ls 4 [(0, .ref (ad 0))] → va_P D vwCl (mW cI cZ ad M) H → va_S (mA ad) s.heap H locs → K39 M → GX11_blank p l e s m below meth c D cI cZ ad a1 a2 Q H locs (F0 m 39 ls [])) → ∀ n : Nat, ∀ (x3 : Int32) (M : Mem) (H : Heap) (locs : List Loc) (ls : Array Slot), lv_has ls 4 [(0, .ref (ad 0)), (3, .int x3)] → va_P D vwCl (mW cI cZ ad M) H → va_S (mA ad) s.heap H locs → wX11_blank_L12 K39 Q n x3 M → GX11_blank p l e s m below meth c D cI cZ ad a1 a2 Q H locs (F0 m 12 ls []) := by
    intro K39 hK39 n
    induction n with
    | zero => intro x3 M H locs ls hl hP hS h; exact (show False from h).elim
    | succ n hB =>
      intro x3 M H locs ls hl hP hS h
      rw [wX11_blank_L12_s] at h
      refine lv_iload_n hx hb dX11_blank_12 rfl (lv_at hl 1 rfl) ?_
      refine lv_sipush (v := 400) hx hb dX11_blank_13 (by decide) ?_
      refine lv_icmp_ge (tgt := 39) hx hb dX11_blank_16 (by decide) (fun q16 => ?_) (fun q16 => ?_)
      · have h := h.1 q16
        exact hK39 M _ _ _ (lv_sub hl [0] rfl) hP hS h
      · have h := h.2 q16
        refine lv_aload_n hx hb dX11_blank_19 rfl (lv_at hl 0 rfl) ?_
        refine va_get (D := D) (ci := 11) (v := .ref (ad 1)) (C := RX11) (T := TX11) (N := 26) hx hb hts inX11 hown hK hP 0 (mW_0 cI cZ ad M) rfl 2 (by decide) k3 (fun _ h9 => h9) rfl dX11_blank_20 ?_
        refine lv_iload_n hx hb dX11_blank_23 rfl (lv_at hl 1 rfl) ?_
        refine lv_iconst (v := 0) hx hb dX11_blank_24 (by decide) ?_
        obtain ⟨hi25, h⟩ := h
        refine va_iast hx hb hK hP (hD M) hS 1 0 (mW_1 cI cZ ad M) rfl hi25 dX11_blank_25 (fun H locs hP _ hS => ?_)
        refine mQ_1 hP (fun M25 eM25 hP => ?_)
        have h := h M25 eM25
        refine lv_aload_n hx hb dX11_blank_26 rfl (lv_at hl 0 rfl) ?_
        refine va_get (D := D) (ci := 11) (v := .ref (ad 2)) (C := RX11) (T := TX11) (N := 26) hx hb hts inX11 hown hK hP 0 (mW_0 cI cZ ad M25) rfl 3 (by decide) k4 (fun _ h9 => h9) rfl dX11_blank_27 ?_
        refine lv_iload_n hx hb dX11_blank_30 rfl (lv_at hl 1 rfl) ?_
        refine lv_iconst (v := 0) hx hb dX11_blank_31 (by decide) ?_
        obtain ⟨hi32, h⟩ := h
        refine va_zast hx hb hK hP (hD M25) hS 2 1 (mW_2 cI cZ ad M25) rfl hi32 dX11_blank_32 (fun H locs hP _ hS => ?_)
        rw [zst (Or.inl rfl)] at hP
        refine mQ_2 hP (fun M32 eM32 hP => ?_)
        have h := h M32 eM32
        obtain ⟨x3_33, ex3_33⟩ : ∃ y : Int32, y = x3 + 1 := ⟨_, rfl⟩
        have h := h x3_33 ex3_33
        refine lv_iinc (v := x3_33) (lv' := [(3, .int x3_33), (0, .ref (ad 0))]) hx hb dX11_blank_33 hl (k := 1) rfl (by rw [ex3_33]; rfl) (by decide) rfl (fun ls hl => ?_)
        refine lv_goto (tgt := 12) hx hb dX11_blank_36 (by decide) ?_
        exact hB x3_33 M32 _ _ _ (lv_sub hl [1, 0] rfl) hP hS h
  have hl := lv_entry ([.ref (ad 0), .int a1, .int a2]) (n := 4) (Nat.le_of_ble_eq_true rfl)
  rw [lg_entry_eq]
  generalize (lg_sl ([.ref (ad 0), .int a1, .int a2]) ++ List.replicate (4 - (lg_sl ([.ref (ad 0), .int a1, .int a2])).length) Slot.unset).toArray = ls at hl ⊢
  have hl : lv_has ls 4 [(0, .ref (ad 0)), (1, .int a1), (2, .int a2)] := hl
  refine lv_aload_n hx hb dX11_blank_0 rfl (lv_at hl 0 rfl) ?_
  refine lv_iload_n hx hb dX11_blank_1 rfl (lv_at hl 1 rfl) ?_
  refine va_put (D := D) (ci := 11) (v := .int a1) (ty := .int) (C := RX11) (T := TX11) (N := 26) hx hb hts inX11 tyX11 tyX11_ok nmX11 hown hK hP (hD M) hS 0 (mW_0 cI cZ ad M) rfl 0 (by decide) k5 (fun _ h9 => h9) rfl (by decide +kernel) rfl rfl (Nat.le_of_ble_eq_true rfl) dX11_blank_2 (fun H locs hP _ hS => ?_)
  refine mP_0_0 hP (fun M2 eM2 hP => ?_)
  have h := h M2 eM2
  refine lv_aload_n hx hb dX11_blank_5 rfl (lv_at hl 0 rfl) ?_
  refine lv_iload_n hx hb dX11_blank_6 rfl (lv_at hl 2 rfl) ?_
  refine va_put (D := D) (ci := 11) (v := .int a2) (ty := .int) (C := RX11) (T := TX11) (N := 26) hx hb hts inX11 tyX11 tyX11_ok nmX11 hown hK hP (hD M2) hS 0 (mW_0 cI cZ ad M2) rfl 1 (by decide) k6 (fun _ h9 => h9) rfl (by decide +kernel) rfl rfl (Nat.le_of_ble_eq_true rfl) dX11_blank_7 (fun H locs hP _ hS => ?_)
  refine mP_0_1 hP (fun M7 eM7 hP => ?_)
  have h := h M7 eM7
  refine lv_iconst (v := 0) hx hb dX11_blank_10 (by decide) ?_
  refine lv_istore_n (lv' := [(3, .int 0), (0, .ref (ad 0)), (1, .int a1), (2, .int a2)]) hx hb dX11_blank_11 rfl hl (by decide) rfl (fun ls hl => ?_)
  obtain ⟨n, h⟩ := h
  refine L12 _ (fun  M H locs ls hl hP hS h => ?_) n 0 M7 _ _ _ (lv_sub hl [1, 0] rfl) hP hS h
  refine lv_iconst (v := 0) hx hb dX11_blank_39 (by decide) ?_
  refine lv_istore_n (lv' := [(3, .int 0), (0, .ref (ad 0))]) hx hb dX11_blank_40 rfl hl (by decide) rfl (fun ls hl => ?_)
  obtain ⟨n, h⟩ := h
  refine L41 _ (fun  M H locs ls hl hP hS h => ?_) n 0 M _ _ _ (lv_sub hl [1, 0] rfl) hP hS h
  refine lv_iconst (v := 0) hx hb dX11_blank_60 (by decide) ?_
  refine lv_istore_n (lv' := [(3, .int 0), (0, .ref (ad 0))]) hx hb dX11_blank_61 rfl hl (by decide) rfl (fun ls hl => ?_)
  obtain ⟨n, h⟩ := h
  refine L62 _ (fun  M H locs ls hl hP hS h => ?_) n 0 M _ _ _ (lv_sub hl [1, 0] rfl) hP hS h
  refine lv_aload_n hx hb dX11_blank_83 rfl (lv_at hl 0 rfl) ?_
  refine lv_iconst (v := 0) hx hb dX11_blank_84 (by decide) ?_
  refine va_put (D := D) (ci := 11) (v := .int 0) (ty := .boolean) (C := RX11) (T := TX11) (N := 26) hx hb hts inX11 tyX11 tyX11_ok nmX11 hown hK hP (hD M) hS 0 (mW_0 cI cZ ad M) rfl 15 (by decide) k7 (fun _ h9 => h9) rfl (by decide +kernel) rfl rfl (Nat.le_of_ble_eq_true rfl) dX11_blank_85 (fun H locs hP _ hS => ?_)
  refine mP_0_15 hP (fun M85 eM85 hP => ?_)
  have h := h M85 eM85
  exact W.vret hx hb hr (fun t ht hW => ⟨⟨M85, rfl, h, mAt_of ht hP⟩, hS.F ht⟩) hS.2.2 dX11_blank_88
set_option maxHeartbeats 4000000 in
set_option maxRecDepth 100000 in
theorem kX11_size (l : Launch) (D : va_G) (cI cZ : ClassId) (ad : Nat → Nat) (hD : ∀ M : Mem, va_D (mA ad) (mW cI cZ ad M)) (M : Mem) (a1 a2 : Int32) (Q : Int32 → Mem → Prop) (h : wX11_size M a1 a2 Q) : Met l yX11_size uX11_size ({ frames := 1, cells := 0, slots := 0, locals := 23 }) (va_Pc [.ref (ad 0), .int a1, .int a2] (mPre D cI cZ ad M)) (va_Qi Q (mAt D cI cZ ad) (mA ad)) 0 0 (mA ad) := by
  refine Met.ofW (cc := cX11_size) (maxL := 3) (ret := (some .int)) (by decide) rfl ?_
  intro p e s m args below meth c s₁ B hml hv
  obtain ⟨rfl, hP, hK⟩ := hv
  have hx := B.exec
  have hb := B.bytes
  have hr := B.returns
  have hts := atoms_spec (ws := uX11_size) B.pre
  have hown : s.vm.findClass RX11 = some m.cls := findClass_of_methodNamed B.named
  have hlocks := B.notSynchronized
  have hS : va_S (mA ad) s.heap s.heap [] := va_S.rf
  have hl := lv_entry ([.ref (ad 0), .int a1, .int a2]) (n := 3) (Nat.le_of_ble_eq_true rfl)
  rw [lg_entry_eq]
  generalize (lg_sl ([.ref (ad 0), .int a1, .int a2]) ++ List.replicate (3 - (lg_sl ([.ref (ad 0), .int a1, .int a2])).length) Slot.unset).toArray = ls at hl ⊢
  have hl : lv_has ls 3 [(0, .ref (ad 0)), (1, .int a1), (2, .int a2)] := hl
  refine lv_iload_n hx hb dX11_size_0 rfl (lv_at hl 1 rfl) ?_
  refine lv_iconst (v := 1) hx hb dX11_size_1 (by decide) ?_
  refine lv_bipush (v := 20) hx hb dX11_size_2 (by decide) ?_
  refine m_callSi (As := [.int a1, .int 1, .int 20]) (rest := []) ⟨hx, hb, hml, hown, hts⟩ (kX11_in l D cI cZ ad hD M a1 1 20 _ h) (va_cwS 3 hts (gdS uS (inA_9 _ (List.mem_of_getElem? (i := 4) rfl)) vX11_in) rfl rfl rfl (by decide +kernel) ⟨Nat.le_of_ble_eq_true rfl, Nat.le_of_ble_eq_true rfl⟩) hP hK hS hl.1 rfl rfl (Nat.le_of_ble_eq_true rfl) dX11_size_4 (fun r4 M4 H locs h hP hS => ?_)
  refine lv_if_eq (tgt := 20) hx hb dX11_size_7 (by decide) (fun q7 => ?_) (fun q7 => ?_)
  · have h := h.1 q7
    refine lv_iconst (v := (-1)) hx hb dX11_size_20 (by decide) ?_
    exact W.iret (v := (-1)) hx hb hr (fun t ht hW => ⟨⟨(-1), M4, rfl, h, mAt_of ht hP⟩, hS.F ht⟩) hS.2.2 dX11_size_21
  · have h := h.2 q7
    refine lv_iload_n hx hb dX11_size_10 rfl (lv_at hl 2 rfl) ?_
    refine lv_iconst (v := 1) hx hb dX11_size_11 (by decide) ?_
    refine lv_bipush (v := 10) hx hb dX11_size_12 (by decide) ?_
    refine m_callSi (As := [.int a2, .int 1, .int 10]) (rest := []) ⟨hx, hb, hml, hown, hts⟩ (kX11_in l D cI cZ ad hD M4 a2 1 10 _ h) (va_cwS 3 hts (gdS uS (inA_9 _ (List.mem_of_getElem? (i := 4) rfl)) vX11_in) rfl rfl rfl (by decide +kernel) ⟨Nat.le_of_ble_eq_true rfl, Nat.le_of_ble_eq_true rfl⟩) hP hK hS hl.1 rfl rfl (Nat.le_of_ble_eq_true rfl) dX11_size_14 (fun r14 M14 H locs h hP hS => ?_)
    refine lv_if_ne (tgt := 22) hx hb dX11_size_17 (by decide) (fun q17 => ?_) (fun q17 => ?_)
    · have h := h.1 q17
      refine lv_aload_n hx hb dX11_size_22 rfl (lv_at hl 0 rfl) ?_
      refine lv_iload_n hx hb dX11_size_23 rfl (lv_at hl 1 rfl) ?_
      refine lv_iload_n hx hb dX11_size_24 rfl (lv_at hl 2 rfl) ?_
      refine m_callVv (As := [.int a1, .int a2]) (rest := []) ⟨hx, hb, hml, hown, hts⟩ (kX11_blank l D cI cZ ad hD M14 a1 a2 _ h) (cwV 2 hts (gdV uS (inA_7 _ (List.mem_of_getElem? (i := 14) rfl)) vX11_blank) rfl rfl rfl (by decide +kernel) ⟨Nat.le_of_ble_eq_true rfl, Nat.le_of_ble_eq_true rfl⟩) (va_recv hK hP (ci := 11) (q0 := 0) rfl (mW_0 cI cZ ad M14)) hP hK hS hl.1 rfl rfl (Nat.le_of_ble_eq_true rfl) dX11_size_25 (fun M25 H locs h hP hS => ?_)
      refine lv_iload_n hx hb dX11_size_28 rfl (lv_at hl 1 rfl) ?_
      refine lv_iload_n hx hb dX11_size_29 rfl (lv_at hl 2 rfl) ?_
      refine lv_imul hx hb dX11_size_30 ?_
      exact W.iret (v := (a1 * a2)) hx hb hr (fun t ht hW => ⟨⟨(a1 * a2), M25, rfl, h, mAt_of ht hP⟩, hS.F ht⟩) hS.2.2 dX11_size_31
    · have h := h.2 q17
      refine lv_iconst (v := (-1)) hx hb dX11_size_20 (by decide) ?_
      exact W.iret (v := (-1)) hx hb hr (fun t ht hW => ⟨⟨(-1), M14, rfl, h, mAt_of ht hP⟩, hS.F ht⟩) hS.2.2 dX11_size_21
set_option maxHeartbeats 4000000 in
set_option maxRecDepth 100000 in
theorem kX11_isRow (l : Launch) (D : va_G) (cI cZ : ClassId) (ad : Nat → Nat) (hD : ∀ M : Mem, va_D (mA ad) (mW cI cZ ad M)) (M : Mem) (a1 a2 : Int32) (Q : Int32 → Mem → Prop) (h : wX11_isRow M a1 a2 Q) : Met l yX11_isRow uX11_isRow ({ frames := 1, cells := 0, slots := 0, locals := 22 }) (va_Pc [.ref (ad 0), .int a1, .int a2] (mPre D cI cZ ad M)) (va_Qi Q (mAt D cI cZ ad) (mA ad)) 0 0 (mA ad) := by
  refine Met.ofW (cc := cX11_isRow) (maxL := 3) (ret := (some .boolean)) (by decide) rfl ?_
  intro p e s m args below meth c s₁ B hml hv
  obtain ⟨rfl, hP, hK⟩ := hv
  have hx := B.exec
  have hb := B.bytes
  have hr := B.returns
  have hts := atoms_spec (ws := uX11_isRow) B.pre
  have hown : s.vm.findClass RX11 = some m.cls := findClass_of_methodNamed B.named
  have hlocks := B.notSynchronized
  have hS : va_S (mA ad) s.heap s.heap [] := va_S.rf
  have k0 := hts (.fieldLink RX11 13 "TwoEyesModel" "height" "I") (List.mem_cons_of_mem _ (inA_6 _ (List.mem_of_getElem? (i := 19) rfl)))
  have inX11 : ∀ w ∈ wsX110, w ∈ uX11_isRow := fun w h => List.mem_cons_of_mem _ (inCX11 w h)
  have hl := lv_entry ([.ref (ad 0), .int a1, .int a2]) (n := 3) (Nat.le_of_ble_eq_true rfl)
  rw [lg_entry_eq]
  generalize (lg_sl ([.ref (ad 0), .int a1, .int a2]) ++ List.replicate (3 - (lg_sl ([.ref (ad 0), .int a1, .int a2])).length) Slot.unset).toArray = ls at hl ⊢
  have hl : lv_has ls 3 [(0, .ref (ad 0)), (1, .int a1), (2, .int a2)] := hl
  refine lv_iload_n hx hb dX11_isRow_0 rfl (lv_at hl 1 rfl) ?_
  refine lv_iconst (v := 0) hx hb dX11_isRow_1 (by decide) ?_
  refine lv_iconst (v := 1) hx hb dX11_isRow_2 (by decide) ?_
  refine m_callSi (As := [.int a1, .int 0, .int 1]) (rest := []) ⟨hx, hb, hml, hown, hts⟩ (kX11_in l D cI cZ ad hD M a1 0 1 _ h) (va_cwS 3 hts (gdS uS (inA_9 _ (List.mem_of_getElem? (i := 4) rfl)) vX11_in) rfl rfl rfl (by decide +kernel) ⟨Nat.le_of_ble_eq_true rfl, Nat.le_of_ble_eq_true rfl⟩) hP hK hS hl.1 rfl rfl (Nat.le_of_ble_eq_true rfl) dX11_isRow_3 (fun r3 M3 H locs h hP hS => ?_)
  refine lv_if_eq (tgt := 27) hx hb dX11_isRow_6 (by decide) (fun q6 => ?_) (fun q6 => ?_)
  · have h := h.1 q6
    refine lv_iconst (v := 0) hx hb dX11_isRow_27 (by decide) ?_
    exact W.zret (v := 0) hx hb hr rfl (fun t ht hW => ⟨⟨0, M3, rfl, h, mAt_of ht hP⟩, hS.F ht⟩) hS.2.2 dX11_isRow_28
  · have h := h.2 q6
    refine lv_iload_n hx hb dX11_isRow_9 rfl (lv_at hl 2 rfl) ?_
    refine lv_iconst (v := 0) hx hb dX11_isRow_10 (by decide) ?_
    refine lv_aload_n hx hb dX11_isRow_11 rfl (lv_at hl 0 rfl) ?_
    refine va_get (D := D) (ci := 11) (v := .int (M3 0 1)) (C := RX11) (T := TX11) (N := 26) hx hb hts inX11 hown hK hP 0 (mW_0 cI cZ ad M3) rfl 1 (by decide) k0 (fun _ h9 => h9) rfl dX11_isRow_12 ?_
    refine lv_iconst (v := 1) hx hb dX11_isRow_15 (by decide) ?_
    refine lv_isub hx hb dX11_isRow_16 ?_
    refine m_callSi (As := [.int a2, .int 0, .int ((M3 0 1) - 1)]) (rest := []) ⟨hx, hb, hml, hown, hts⟩ (kX11_in l D cI cZ ad hD M3 a2 0 ((M3 0 1) - 1) _ h) (va_cwS 3 hts (gdS uS (inA_9 _ (List.mem_of_getElem? (i := 4) rfl)) vX11_in) rfl rfl rfl (by decide +kernel) ⟨Nat.le_of_ble_eq_true rfl, Nat.le_of_ble_eq_true rfl⟩) hP hK hS hl.1 rfl rfl (Nat.le_of_ble_eq_true rfl) dX11_isRow_17 (fun r17 M17 H locs h hP hS => ?_)
    refine lv_if_eq (tgt := 27) hx hb dX11_isRow_20 (by decide) (fun q20 => ?_) (fun q20 => ?_)
    · have h := h.1 q20
      refine lv_iconst (v := 0) hx hb dX11_isRow_27 (by decide) ?_
      exact W.zret (v := 0) hx hb hr rfl (fun t ht hW => ⟨⟨0, M17, rfl, h, mAt_of ht hP⟩, hS.F ht⟩) hS.2.2 dX11_isRow_28
    · have h := h.2 q20
      refine lv_iconst (v := 1) hx hb dX11_isRow_23 (by decide) ?_
      refine lv_goto (tgt := 28) hx hb dX11_isRow_24 (by decide) ?_
      exact W.zret (v := 1) hx hb hr rfl (fun t ht hW => ⟨⟨1, M17, rfl, h, mAt_of ht hP⟩, hS.F ht⟩) hS.2.2 dX11_isRow_28
set_option maxHeartbeats 4000000 in
set_option maxRecDepth 100000 in
theorem kX11_refuse (l : Launch) (D : va_G) (cI cZ : ClassId) (ad : Nat → Nat) (hD : ∀ M : Mem, va_D (mA ad) (mW cI cZ ad M)) (M : Mem) (a1 a2 a3 : Int32) (Q : Int32 → Mem → Prop) (h : wX11_refuse M a1 a2 a3 Q) : Met l yX11_refuse uX11_refuse ({ frames := 2, cells := 0, slots := 0, locals := 44 }) (va_Pc [.ref (ad 0), .int a1, .int a2, .int a3] (mPre D cI cZ ad M)) (va_Qi Q (mAt D cI cZ ad) (mA ad)) 0 0 (mA ad) := by
  refine Met.ofW (cc := cX11_refuse) (maxL := 4) (ret := (some .int)) (by decide) rfl ?_
  intro p e s m args below meth c s₁ B hml hv
  obtain ⟨rfl, hP, hK⟩ := hv
  have hx := B.exec
  have hb := B.bytes
  have hr := B.returns
  have hts := atoms_spec (ws := uX11_refuse) B.pre
  have hown : s.vm.findClass RX11 = some m.cls := findClass_of_methodNamed B.named
  have hlocks := B.notSynchronized
  have hS : va_S (mA ad) s.heap s.heap [] := va_S.rf
  have k0 := hts (.fieldLink RX11 24 "TwoEyesModel" "isRowGone" "[Z") (List.mem_cons_of_mem _ (inA_6 _ (List.mem_of_getElem? (i := 22) rfl)))
  have inX11 : ∀ w ∈ wsX110, w ∈ uX11_refuse := fun w h => List.mem_cons_of_mem _ (inCX11 w h)
  have k2 := hts (.fieldLink RX11 7 "TwoEyesModel" "width" "I") (List.mem_cons_of_mem _ (inA_6 _ (List.mem_of_getElem? (i := 18) rfl)))
  have hl := lv_entry ([.ref (ad 0), .int a1, .int a2, .int a3]) (n := 4) (Nat.le_of_ble_eq_true rfl)
  rw [lg_entry_eq]
  generalize (lg_sl ([.ref (ad 0), .int a1, .int a2, .int a3]) ++ List.replicate (4 - (lg_sl ([.ref (ad 0), .int a1, .int a2, .int a3])).length) Slot.unset).toArray = ls at hl ⊢
  have hl : lv_has ls 4 [(0, .ref (ad 0)), (1, .int a1), (2, .int a2), (3, .int a3)] := hl
  refine lv_aload_n hx hb dX11_refuse_0 rfl (lv_at hl 0 rfl) ?_
  refine lv_iload_n hx hb dX11_refuse_1 rfl (lv_at hl 1 rfl) ?_
  refine lv_iload_n hx hb dX11_refuse_2 rfl (lv_at hl 3 rfl) ?_
  refine m_callVi (As := [.int a1, .int a3]) (rest := []) ⟨hx, hb, hml, hown, hts⟩ (kX11_isRow l D cI cZ ad hD M a1 a3 _ h) (cwV 2 hts (gdV uS (inA_11 _ (List.mem_of_getElem? (i := 2) rfl)) vX11_isRow) rfl rfl rfl (by decide +kernel) ⟨Nat.le_of_ble_eq_true rfl, Nat.le_of_ble_eq_true rfl⟩) (va_recv hK hP (ci := 11) (q0 := 0) rfl (mW_0 cI cZ ad M)) hP hK hS hl.1 rfl rfl (Nat.le_of_ble_eq_true rfl) dX11_refuse_3 (fun r3 M3 H locs h hP hS => ?_)
  refine lv_if_ne (tgt := 11) hx hb dX11_refuse_6 (by decide) (fun q6 => ?_) (fun q6 => ?_)
  · have h := h.1 q6
    refine lv_aload_n hx hb dX11_refuse_11 rfl (lv_at hl 0 rfl) ?_
    refine va_get (D := D) (ci := 11) (v := .ref (ad 3)) (C := RX11) (T := TX11) (N := 26) hx hb hts inX11 hown hK hP 0 (mW_0 cI cZ ad M3) rfl 4 (by decide) k0 (fun _ h9 => h9) rfl dX11_refuse_12 ?_
    refine lv_bipush (v := 10) hx hb dX11_refuse_15 (by decide) ?_
    refine lv_iload_n hx hb dX11_refuse_17 rfl (lv_at hl 1 rfl) ?_
    refine lv_imul hx hb dX11_refuse_18 ?_
    refine lv_iload_n hx hb dX11_refuse_19 rfl (lv_at hl 3 rfl) ?_
    refine lv_iadd hx hb dX11_refuse_20 ?_
    obtain ⟨hi21, h⟩ := h
    refine va_zald hx hb hK hP 3 1 (mW_3 cI cZ ad M3) rfl hi21 dX11_refuse_21 ?_
    refine lv_if_eq (tgt := 28) hx hb dX11_refuse_22 (by decide) (fun q22 => ?_) (fun q22 => ?_)
    · have h := h.1 q22
      refine lv_iload_n hx hb dX11_refuse_28 rfl (lv_at hl 2 rfl) ?_
      refine lv_iconst (v := 0) hx hb dX11_refuse_29 (by decide) ?_
      refine lv_aload_n hx hb dX11_refuse_30 rfl (lv_at hl 0 rfl) ?_
      refine va_get (D := D) (ci := 11) (v := .int (M3 0 0)) (C := RX11) (T := TX11) (N := 26) hx hb hts inX11 hown hK hP 0 (mW_0 cI cZ ad M3) rfl 0 (by decide) k2 (fun _ h9 => h9) rfl dX11_refuse_31 ?_
      refine lv_iconst (v := 1) hx hb dX11_refuse_34 (by decide) ?_
      refine lv_isub hx hb dX11_refuse_35 ?_
      refine m_callSi (As := [.int a2, .int 0, .int ((M3 0 0) - 1)]) (rest := []) ⟨hx, hb, hml, hown, hts⟩ (kX11_in l D cI cZ ad hD M3 a2 0 ((M3 0 0) - 1) _ h) (va_cwS 3 hts (gdS uS (inA_9 _ (List.mem_of_getElem? (i := 4) rfl)) vX11_in) rfl rfl rfl (by decide +kernel) ⟨Nat.le_of_ble_eq_true rfl, Nat.le_of_ble_eq_true rfl⟩) hP hK hS hl.1 rfl rfl (Nat.le_of_ble_eq_true rfl) dX11_refuse_36 (fun r36 M36 H locs h hP hS => ?_)
      refine lv_if_eq (tgt := 46) hx hb dX11_refuse_39 (by decide) (fun q39 => ?_) (fun q39 => ?_)
      · have h := h.1 q39
        refine lv_iconst (v := (-1)) hx hb dX11_refuse_46 (by decide) ?_
        exact W.iret (v := (-1)) hx hb hr (fun t ht hW => ⟨⟨(-1), M36, rfl, h, mAt_of ht hP⟩, hS.F ht⟩) hS.2.2 dX11_refuse_47
      · have h := h.2 q39
        refine lv_iconst (v := 0) hx hb dX11_refuse_42 (by decide) ?_
        refine lv_goto (tgt := 47) hx hb dX11_refuse_43 (by decide) ?_
        exact W.iret (v := 0) hx hb hr (fun t ht hW => ⟨⟨0, M36, rfl, h, mAt_of ht hP⟩, hS.F ht⟩) hS.2.2 dX11_refuse_47
    · have h := h.2 q22
      refine lv_bipush (v := (-2)) hx hb dX11_refuse_25 (by decide) ?_
      exact W.iret (v := (-2)) hx hb hr (fun t ht hW => ⟨⟨(-2), M3, rfl, h, mAt_of ht hP⟩, hS.F ht⟩) hS.2.2 dX11_refuse_27
  · have h := h.2 q6
    refine lv_iconst (v := (-1)) hx hb dX11_refuse_9 (by decide) ?_
    exact W.iret (v := (-1)) hx hb hr (fun t ht hW => ⟨⟨(-1), M3, rfl, h, mAt_of ht hP⟩, hS.F ht⟩) hS.2.2 dX11_refuse_10
set_option maxHeartbeats 4000000 in
set_option maxRecDepth 100000 in
theorem kX11_at (l : Launch) (D : va_G) (cI cZ : ClassId) (ad : Nat → Nat) (hD : ∀ M : Mem, va_D (mA ad) (mW cI cZ ad M)) (M : Mem) (a1 a2 a3 : Int32) (Q : Int32 → Mem → Prop) (h : wX11_at M a1 a2 a3 Q) : Met l yX11_at uX11_at ({ frames := 0, cells := 0, slots := 0, locals := 0 }) (va_Pc [.ref (ad 0), .int a1, .int a2, .int a3] (mPre D cI cZ ad M)) (va_Qi Q (mAt D cI cZ ad) (mA ad)) 0 0 (mA ad) := by
  refine Met.ofW (cc := cX11_at) (maxL := 4) (ret := (some .int)) (by decide) rfl ?_
  intro p e s m args below meth c s₁ B hml hv
  obtain ⟨rfl, hP, hK⟩ := hv
  have hx := B.exec
  have hb := B.bytes
  have hr := B.returns
  have hts := atoms_spec (ws := uX11_at) B.pre
  have hown : s.vm.findClass RX11 = some m.cls := findClass_of_methodNamed B.named
  have hlocks := B.notSynchronized
  have hS : va_S (mA ad) s.heap s.heap [] := va_S.rf
  have k0 := hts (.fieldLink RX11 7 "TwoEyesModel" "width" "I") (List.mem_cons_of_mem _ (inA_6 _ (List.mem_of_getElem? (i := 18) rfl)))
  have inX11 : ∀ w ∈ wsX110, w ∈ uX11_at := fun w h => List.mem_cons_of_mem _ (inCX11 w h)
  have hl := lv_entry ([.ref (ad 0), .int a1, .int a2, .int a3]) (n := 4) (Nat.le_of_ble_eq_true rfl)
  rw [lg_entry_eq]
  generalize (lg_sl ([.ref (ad 0), .int a1, .int a2, .int a3]) ++ List.replicate (4 - (lg_sl ([.ref (ad 0), .int a1, .int a2, .int a3])).length) Slot.unset).toArray = ls at hl ⊢
  have hl : lv_has ls 4 [(0, .ref (ad 0)), (1, .int a1), (2, .int a2), (3, .int a3)] := hl
  refine lv_sipush (v := 200) hx hb dX11_at_0 (by decide) ?_
  refine lv_iload_n hx hb dX11_at_3 rfl (lv_at hl 1 rfl) ?_
  refine lv_imul hx hb dX11_at_4 ?_
  refine lv_aload_n hx hb dX11_at_5 rfl (lv_at hl 0 rfl) ?_
  refine va_get (D := D) (ci := 11) (v := .int (M 0 0)) (C := RX11) (T := TX11) (N := 26) hx hb hts inX11 hown hK hP 0 (mW_0 cI cZ ad M) rfl 0 (by decide) k0 (fun _ h9 => h9) rfl dX11_at_6 ?_
  refine lv_iload_n hx hb dX11_at_9 rfl (lv_at hl 3 rfl) ?_
  refine lv_imul hx hb dX11_at_10 ?_
  refine lv_iadd hx hb dX11_at_11 ?_
  refine lv_iload_n hx hb dX11_at_12 rfl (lv_at hl 2 rfl) ?_
  refine lv_iadd hx hb dX11_at_13 ?_
  exact W.iret (v := (((200 * a1) + ((M 0 0) * a3)) + a2)) hx hb hr (fun t ht hW => ⟨⟨(((200 * a1) + ((M 0 0) * a3)) + a2), M, rfl, h, mAt_of ht hP⟩, hS.F ht⟩) hS.2.2 dX11_at_14
set_option maxHeartbeats 4000000 in
set_option maxRecDepth 100000 in
theorem kX11_shade (l : Launch) (D : va_G) (cI cZ : ClassId) (ad : Nat → Nat) (hD : ∀ M : Mem, va_D (mA ad) (mW cI cZ ad M)) (M : Mem) (a1 a2 a3 a4 : Int32) (Q : Int32 → Mem → Prop) (h : wX11_shade M a1 a2 a3 a4 Q) : Met l yX11_shade uX11_shade ({ frames := 3, cells := 0, slots := 0, locals := 67 }) (va_Pc [.ref (ad 0), .int a1, .int a2, .int a3, .int a4] (mPre D cI cZ ad M)) (va_Qi Q (mAt D cI cZ ad) (mA ad)) 0 0 (mA ad) := by
  refine Met.ofW (cc := cX11_shade) (maxL := 6) (ret := (some .int)) (by decide) rfl ?_
  intro p e s m args below meth c s₁ B hml hv
  obtain ⟨rfl, hP, hK⟩ := hv
  have hx := B.exec
  have hb := B.bytes
  have hr := B.returns
  have hts := atoms_spec (ws := uX11_shade) B.pre
  have hown : s.vm.findClass RX11 = some m.cls := findClass_of_methodNamed B.named
  have hlocks := B.notSynchronized
  have hS : va_S (mA ad) s.heap s.heap [] := va_S.rf
  have k0 := hts (.fieldLink RX11 16 "TwoEyesModel" "shades" "[I") (List.mem_cons_of_mem _ (inA_6 _ (List.mem_of_getElem? (i := 20) rfl)))
  have inX11 : ∀ w ∈ wsX110, w ∈ uX11_shade := fun w h => List.mem_cons_of_mem _ (inCX11 w h)
  have k2 := hts (.fieldLink RX11 20 "TwoEyesModel" "isGone" "[Z") (List.mem_cons_of_mem _ (inA_6 _ (List.mem_of_getElem? (i := 21) rfl)))
  have k3 := hts (.fieldLink RX11 76 "TwoEyesModel" "isReckoned" "Z") (List.mem_cons_of_mem _ (inA_7 _ (List.mem_of_getElem? (i := 18) rfl)))
  have hl := lv_entry ([.ref (ad 0), .int a1, .int a2, .int a3, .int a4]) (n := 6) (Nat.le_of_ble_eq_true rfl)
  rw [lg_entry_eq]
  generalize (lg_sl ([.ref (ad 0), .int a1, .int a2, .int a3, .int a4]) ++ List.replicate (6 - (lg_sl ([.ref (ad 0), .int a1, .int a2, .int a3, .int a4])).length) Slot.unset).toArray = ls at hl ⊢
  have hl : lv_has ls 6 [(0, .ref (ad 0)), (1, .int a1), (2, .int a2), (3, .int a3), (4, .int a4)] := hl
  refine lv_aload_n hx hb dX11_shade_0 rfl (lv_at hl 0 rfl) ?_
  refine lv_iload_n hx hb dX11_shade_1 rfl (lv_at hl 1 rfl) ?_
  refine lv_iload_n hx hb dX11_shade_2 rfl (lv_at hl 2 rfl) ?_
  refine lv_iload_n hx hb dX11_shade_3 rfl (lv_at hl 3 rfl) ?_
  refine m_callVi (As := [.int a1, .int a2, .int a3]) (rest := []) ⟨hx, hb, hml, hown, hts⟩ (kX11_refuse l D cI cZ ad hD M a1 a2 a3 _ h) (cwV 3 hts (gdV uS (inA_10 _ (List.mem_of_getElem? (i := 22) rfl)) vX11_refuse) rfl rfl rfl (by decide +kernel) ⟨Nat.le_of_ble_eq_true rfl, Nat.le_of_ble_eq_true rfl⟩) (va_recv hK hP (ci := 11) (q0 := 0) rfl (mW_0 cI cZ ad M)) hP hK hS hl.1 rfl rfl (Nat.le_of_ble_eq_true rfl) dX11_shade_4 (fun r4 M4 H locs h hP hS => ?_)
  refine lv_istore (lv' := [(5, .int r4), (0, .ref (ad 0)), (1, .int a1), (2, .int a2), (3, .int a3), (4, .int a4)]) hx hb dX11_shade_7 hl (by decide) rfl (fun ls hl => ?_)
  refine lv_iload hx hb dX11_shade_9 (lv_at hl 0 rfl) ?_
  refine lv_if_eq (tgt := 17) hx hb dX11_shade_11 (by decide) (fun q11 => ?_) (fun q11 => ?_)
  · have h := h.1 q11
    refine lv_aload_n hx hb dX11_shade_17 rfl (lv_at hl 1 rfl) ?_
    refine va_get (D := D) (ci := 11) (v := .ref (ad 1)) (C := RX11) (T := TX11) (N := 26) hx hb hts inX11 hown hK hP 0 (mW_0 cI cZ ad M4) rfl 2 (by decide) k0 (fun _ h9 => h9) rfl dX11_shade_18 ?_
    refine lv_aload_n hx hb dX11_shade_21 rfl (lv_at hl 1 rfl) ?_
    refine lv_iload_n hx hb dX11_shade_22 rfl (lv_at hl 2 rfl) ?_
    refine lv_iload_n hx hb dX11_shade_23 rfl (lv_at hl 3 rfl) ?_
    refine lv_iload_n hx hb dX11_shade_24 rfl (lv_at hl 4 rfl) ?_
    refine m_callVi (As := [.int a1, .int a2, .int a3]) (rest := [.ref (ad 1)]) ⟨hx, hb, hml, hown, hts⟩ (kX11_at l D cI cZ ad hD M4 a1 a2 a3 _ h) (cwV 3 hts (gdV uS (inA_11 _ (List.mem_of_getElem? (i := 6) rfl)) vX11_at) rfl rfl rfl (by decide +kernel) ⟨Nat.le_of_ble_eq_true rfl, Nat.le_of_ble_eq_true rfl⟩) (va_recv hK hP (ci := 11) (q0 := 0) rfl (mW_0 cI cZ ad M4)) hP hK hS hl.1 rfl rfl (Nat.le_of_ble_eq_true rfl) dX11_shade_25 (fun r25 M25 H locs h hP hS => ?_)
    refine lv_iload hx hb dX11_shade_28 (lv_at hl 5 rfl) ?_
    refine lv_sipush (v := 255) hx hb dX11_shade_30 (by decide) ?_
    refine lv_iand hx hb dX11_shade_33 ?_
    obtain ⟨hi34, h⟩ := h
    refine va_iast hx hb hK hP (hD M25) hS 1 0 (mW_1 cI cZ ad M25) rfl hi34 dX11_shade_34 (fun H locs hP _ hS => ?_)
    refine mQ_1 hP (fun M34 eM34 hP => ?_)
    have h := h M34 eM34
    refine lv_aload_n hx hb dX11_shade_35 rfl (lv_at hl 1 rfl) ?_
    refine va_get (D := D) (ci := 11) (v := .ref (ad 2)) (C := RX11) (T := TX11) (N := 26) hx hb hts inX11 hown hK hP 0 (mW_0 cI cZ ad M34) rfl 3 (by decide) k2 (fun _ h9 => h9) rfl dX11_shade_36 ?_
    refine lv_aload_n hx hb dX11_shade_39 rfl (lv_at hl 1 rfl) ?_
    refine lv_iload_n hx hb dX11_shade_40 rfl (lv_at hl 2 rfl) ?_
    refine lv_iload_n hx hb dX11_shade_41 rfl (lv_at hl 3 rfl) ?_
    refine lv_iload_n hx hb dX11_shade_42 rfl (lv_at hl 4 rfl) ?_
    refine m_callVi (As := [.int a1, .int a2, .int a3]) (rest := [.ref (ad 2)]) ⟨hx, hb, hml, hown, hts⟩ (kX11_at l D cI cZ ad hD M34 a1 a2 a3 _ h) (cwV 3 hts (gdV uS (inA_11 _ (List.mem_of_getElem? (i := 6) rfl)) vX11_at) rfl rfl rfl (by decide +kernel) ⟨Nat.le_of_ble_eq_true rfl, Nat.le_of_ble_eq_true rfl⟩) (va_recv hK hP (ci := 11) (q0 := 0) rfl (mW_0 cI cZ ad M34)) hP hK hS hl.1 rfl rfl (Nat.le_of_ble_eq_true rfl) dX11_shade_43 (fun r43 M43 H locs h hP hS => ?_)
    refine lv_iconst (v := 0) hx hb dX11_shade_46 (by decide) ?_
    obtain ⟨hi47, h⟩ := h
    refine va_zast hx hb hK hP (hD M43) hS 2 1 (mW_2 cI cZ ad M43) rfl hi47 dX11_shade_47 (fun H locs hP _ hS => ?_)
    rw [zst (Or.inl rfl)] at hP
    refine mQ_2 hP (fun M47 eM47 hP => ?_)
    have h := h M47 eM47
    refine lv_aload_n hx hb dX11_shade_48 rfl (lv_at hl 1 rfl) ?_
    refine lv_iconst (v := 0) hx hb dX11_shade_49 (by decide) ?_
    refine va_put (D := D) (ci := 11) (v := .int 0) (ty := .boolean) (C := RX11) (T := TX11) (N := 26) hx hb hts inX11 tyX11 tyX11_ok nmX11 hown hK hP (hD M47) hS 0 (mW_0 cI cZ ad M47) rfl 15 (by decide) k3 (fun _ h9 => h9) rfl (by decide +kernel) rfl rfl (Nat.le_of_ble_eq_true rfl) dX11_shade_50 (fun H locs hP _ hS => ?_)
    refine mP_0_15 hP (fun M50 eM50 hP => ?_)
    have h := h M50 eM50
    refine lv_iconst (v := 1) hx hb dX11_shade_53 (by decide) ?_
    exact W.iret (v := 1) hx hb hr (fun t ht hW => ⟨⟨1, M50, rfl, h, mAt_of ht hP⟩, hS.F ht⟩) hS.2.2 dX11_shade_54
  · have h := h.2 q11
    refine lv_iload hx hb dX11_shade_14 (lv_at hl 0 rfl) ?_
    exact W.iret (v := r4) hx hb hr (fun t ht hW => ⟨⟨r4, M4, rfl, h, mAt_of ht hP⟩, hS.F ht⟩) hS.2.2 dX11_shade_16
set_option maxHeartbeats 4000000 in
set_option maxRecDepth 100000 in
theorem kX11_lose (l : Launch) (D : va_G) (cI cZ : ClassId) (ad : Nat → Nat) (hD : ∀ M : Mem, va_D (mA ad) (mW cI cZ ad M)) (M : Mem) (a1 a2 a3 : Int32) (Q : Int32 → Mem → Prop) (h : wX11_lose M a1 a2 a3 Q) : Met l yX11_lose uX11_lose ({ frames := 3, cells := 0, slots := 0, locals := 67 }) (va_Pc [.ref (ad 0), .int a1, .int a2, .int a3] (mPre D cI cZ ad M)) (va_Qi Q (mAt D cI cZ ad) (mA ad)) 0 0 (mA ad) := by
  refine Met.ofW (cc := cX11_lose) (maxL := 6) (ret := (some .int)) (by decide) rfl ?_
  intro p e s m args below meth c s₁ B hml hv
  obtain ⟨rfl, hP, hK⟩ := hv
  have hx := B.exec
  have hb := B.bytes
  have hr := B.returns
  have hts := atoms_spec (ws := uX11_lose) B.pre
  have hown : s.vm.findClass RX11 = some m.cls := findClass_of_methodNamed B.named
  have hlocks := B.notSynchronized
  have hS : va_S (mA ad) s.heap s.heap [] := va_S.rf
  have k0 := hts (.fieldLink RX11 20 "TwoEyesModel" "isGone" "[Z") (List.mem_cons_of_mem _ (inA_6 _ (List.mem_of_getElem? (i := 21) rfl)))
  have inX11 : ∀ w ∈ wsX110, w ∈ uX11_lose := fun w h => List.mem_cons_of_mem _ (inCX11 w h)
  have k2 := hts (.fieldLink RX11 76 "TwoEyesModel" "isReckoned" "Z") (List.mem_cons_of_mem _ (inA_7 _ (List.mem_of_getElem? (i := 18) rfl)))
  have hl := lv_entry ([.ref (ad 0), .int a1, .int a2, .int a3]) (n := 6) (Nat.le_of_ble_eq_true rfl)
  rw [lg_entry_eq]
  generalize (lg_sl ([.ref (ad 0), .int a1, .int a2, .int a3]) ++ List.replicate (6 - (lg_sl ([.ref (ad 0), .int a1, .int a2, .int a3])).length) Slot.unset).toArray = ls at hl ⊢
  have hl : lv_has ls 6 [(0, .ref (ad 0)), (1, .int a1), (2, .int a2), (3, .int a3)] := hl
  refine lv_aload_n hx hb dX11_lose_0 rfl (lv_at hl 0 rfl) ?_
  refine lv_iload_n hx hb dX11_lose_1 rfl (lv_at hl 1 rfl) ?_
  refine lv_iload_n hx hb dX11_lose_2 rfl (lv_at hl 2 rfl) ?_
  refine lv_iload_n hx hb dX11_lose_3 rfl (lv_at hl 3 rfl) ?_
  refine m_callVi (As := [.int a1, .int a2, .int a3]) (rest := []) ⟨hx, hb, hml, hown, hts⟩ (kX11_refuse l D cI cZ ad hD M a1 a2 a3 _ h) (cwV 3 hts (gdV uS (inA_10 _ (List.mem_of_getElem? (i := 22) rfl)) vX11_refuse) rfl rfl rfl (by decide +kernel) ⟨Nat.le_of_ble_eq_true rfl, Nat.le_of_ble_eq_true rfl⟩) (va_recv hK hP (ci := 11) (q0 := 0) rfl (mW_0 cI cZ ad M)) hP hK hS hl.1 rfl rfl (Nat.le_of_ble_eq_true rfl) dX11_lose_4 (fun r4 M4 H locs h hP hS => ?_)
  refine lv_istore (lv' := [(4, .int r4), (0, .ref (ad 0)), (1, .int a1), (2, .int a2), (3, .int a3)]) hx hb dX11_lose_7 hl (by decide) rfl (fun ls hl => ?_)
  refine lv_iload hx hb dX11_lose_9 (lv_at hl 0 rfl) ?_
  refine lv_if_eq (tgt := 17) hx hb dX11_lose_11 (by decide) (fun q11 => ?_) (fun q11 => ?_)
  · have h := h.1 q11
    refine lv_aload_n hx hb dX11_lose_17 rfl (lv_at hl 1 rfl) ?_
    refine va_get (D := D) (ci := 11) (v := .ref (ad 2)) (C := RX11) (T := TX11) (N := 26) hx hb hts inX11 hown hK hP 0 (mW_0 cI cZ ad M4) rfl 3 (by decide) k0 (fun _ h9 => h9) rfl dX11_lose_18 ?_
    refine lv_aload_n hx hb dX11_lose_21 rfl (lv_at hl 1 rfl) ?_
    refine lv_iload_n hx hb dX11_lose_22 rfl (lv_at hl 2 rfl) ?_
    refine lv_iload_n hx hb dX11_lose_23 rfl (lv_at hl 3 rfl) ?_
    refine lv_iload_n hx hb dX11_lose_24 rfl (lv_at hl 4 rfl) ?_
    refine m_callVi (As := [.int a1, .int a2, .int a3]) (rest := [.ref (ad 2)]) ⟨hx, hb, hml, hown, hts⟩ (kX11_at l D cI cZ ad hD M4 a1 a2 a3 _ h) (cwV 3 hts (gdV uS (inA_11 _ (List.mem_of_getElem? (i := 6) rfl)) vX11_at) rfl rfl rfl (by decide +kernel) ⟨Nat.le_of_ble_eq_true rfl, Nat.le_of_ble_eq_true rfl⟩) (va_recv hK hP (ci := 11) (q0 := 0) rfl (mW_0 cI cZ ad M4)) hP hK hS hl.1 rfl rfl (Nat.le_of_ble_eq_true rfl) dX11_lose_25 (fun r25 M25 H locs h hP hS => ?_)
    obtain ⟨hi28, h⟩ := h
    refine va_zald hx hb hK hP 2 1 (mW_2 cI cZ ad M25) rfl hi28 dX11_lose_28 ?_
    refine lv_topi (fun x5_29 ex5_29 => ?_)
    have h := h x5_29 ex5_29
    refine lv_istore (lv' := [(5, .int x5_29), (4, .int r4), (0, .ref (ad 0)), (1, .int a1), (2, .int a2), (3, .int a3)]) hx hb dX11_lose_29 hl (by decide) rfl (fun ls hl => ?_)
    refine lv_aload_n hx hb dX11_lose_31 rfl (lv_at hl 2 rfl) ?_
    refine va_get (D := D) (ci := 11) (v := .ref (ad 2)) (C := RX11) (T := TX11) (N := 26) hx hb hts inX11 hown hK hP 0 (mW_0 cI cZ ad M25) rfl 3 (by decide) k0 (fun _ h9 => h9) rfl dX11_lose_32 ?_
    refine lv_aload_n hx hb dX11_lose_35 rfl (lv_at hl 2 rfl) ?_
    refine lv_iload_n hx hb dX11_lose_36 rfl (lv_at hl 3 rfl) ?_
    refine lv_iload_n hx hb dX11_lose_37 rfl (lv_at hl 4 rfl) ?_
    refine lv_iload_n hx hb dX11_lose_38 rfl (lv_at hl 5 rfl) ?_
    refine m_callVi (As := [.int a1, .int a2, .int a3]) (rest := [.ref (ad 2)]) ⟨hx, hb, hml, hown, hts⟩ (kX11_at l D cI cZ ad hD M25 a1 a2 a3 _ h) (cwV 3 hts (gdV uS (inA_11 _ (List.mem_of_getElem? (i := 6) rfl)) vX11_at) rfl rfl rfl (by decide +kernel) ⟨Nat.le_of_ble_eq_true rfl, Nat.le_of_ble_eq_true rfl⟩) (va_recv hK hP (ci := 11) (q0 := 0) rfl (mW_0 cI cZ ad M25)) hP hK hS hl.1 rfl rfl (Nat.le_of_ble_eq_true rfl) dX11_lose_39 (fun r39 M39 H locs h hP hS => ?_)
    refine lv_iconst (v := 1) hx hb dX11_lose_42 (by decide) ?_
    obtain ⟨hi43, h⟩ := h
    refine va_zast hx hb hK hP (hD M39) hS 2 1 (mW_2 cI cZ ad M39) rfl hi43 dX11_lose_43 (fun H locs hP _ hS => ?_)
    rw [zst (Or.inr rfl)] at hP
    refine mQ_2 hP (fun M43 eM43 hP => ?_)
    have h := h M43 eM43
    refine lv_aload_n hx hb dX11_lose_44 rfl (lv_at hl 2 rfl) ?_
    refine lv_iconst (v := 0) hx hb dX11_lose_45 (by decide) ?_
    refine va_put (D := D) (ci := 11) (v := .int 0) (ty := .boolean) (C := RX11) (T := TX11) (N := 26) hx hb hts inX11 tyX11 tyX11_ok nmX11 hown hK hP (hD M43) hS 0 (mW_0 cI cZ ad M43) rfl 15 (by decide) k2 (fun _ h9 => h9) rfl (by decide +kernel) rfl rfl (Nat.le_of_ble_eq_true rfl) dX11_lose_46 (fun H locs hP _ hS => ?_)
    refine mP_0_15 hP (fun M46 eM46 hP => ?_)
    have h := h M46 eM46
    refine lv_iload hx hb dX11_lose_49 (lv_at hl 0 rfl) ?_
    refine lv_if_eq (tgt := 58) hx hb dX11_lose_51 (by decide) (fun q51 => ?_) (fun q51 => ?_)
    · have h := h.1 q51
      refine lv_iconst (v := 1) hx hb dX11_lose_58 (by decide) ?_
      exact W.iret (v := 1) hx hb hr (fun t ht hW => ⟨⟨1, M46, rfl, h, mAt_of ht hP⟩, hS.F ht⟩) hS.2.2 dX11_lose_59
    · have h := h.2 q51
      refine lv_iconst (v := 0) hx hb dX11_lose_54 (by decide) ?_
      refine lv_goto (tgt := 59) hx hb dX11_lose_55 (by decide) ?_
      exact W.iret (v := 0) hx hb hr (fun t ht hW => ⟨⟨0, M46, rfl, h, mAt_of ht hP⟩, hS.F ht⟩) hS.2.2 dX11_lose_59
  · have h := h.2 q11
    refine lv_iload hx hb dX11_lose_14 (lv_at hl 0 rfl) ?_
    exact W.iret (v := r4) hx hb hr (fun t ht hW => ⟨⟨r4, M4, rfl, h, mAt_of ht hP⟩, hS.F ht⟩) hS.2.2 dX11_lose_16
set_option maxHeartbeats 4000000 in
set_option maxRecDepth 100000 in
theorem kX11_row (l : Launch) (D : va_G) (cI cZ : ClassId) (ad : Nat → Nat) (hD : ∀ M : Mem, va_D (mA ad) (mW cI cZ ad M)) (M : Mem) (a1 a2 a3 : Int32) (Q : Int32 → Mem → Prop) (h : wX11_row M a1 a2 a3 Q) : Met l yX11_row uX11_row ({ frames := 2, cells := 0, slots := 0, locals := 44 }) (va_Pc [.ref (ad 0), .int a1, .int a2, .int a3] (mPre D cI cZ ad M)) (va_Qi Q (mAt D cI cZ ad) (mA ad)) 0 0 (mA ad) := by
  refine Met.ofW (cc := cX11_row) (maxL := 5) (ret := (some .int)) (by decide) rfl ?_
  intro p e s m args below meth c s₁ B hml hv
  obtain ⟨rfl, hP, hK⟩ := hv
  have hx := B.exec
  have hb := B.bytes
  have hr := B.returns
  have hts := atoms_spec (ws := uX11_row) B.pre
  have hown : s.vm.findClass RX11 = some m.cls := findClass_of_methodNamed B.named
  have hlocks := B.notSynchronized
  have hS : va_S (mA ad) s.heap s.heap [] := va_S.rf
  have k0 := hts (.fieldLink RX11 24 "TwoEyesModel" "isRowGone" "[Z") (List.mem_cons_of_mem _ (inA_6 _ (List.mem_of_getElem? (i := 22) rfl)))
  have inX11 : ∀ w ∈ wsX110, w ∈ uX11_row := fun w h => List.mem_cons_of_mem _ (inCX11 w h)
  have k2 := hts (.fieldLink RX11 76 "TwoEyesModel" "isReckoned" "Z") (List.mem_cons_of_mem _ (inA_7 _ (List.mem_of_getElem? (i := 18) rfl)))
  have hl := lv_entry ([.ref (ad 0), .int a1, .int a2, .int a3]) (n := 5) (Nat.le_of_ble_eq_true rfl)
  rw [lg_entry_eq]
  generalize (lg_sl ([.ref (ad 0), .int a1, .int a2, .int a3]) ++ List.replicate (5 - (lg_sl ([.ref (ad 0), .int a1, .int a2, .int a3])).length) Slot.unset).toArray = ls at hl ⊢
  have hl : lv_has ls 5 [(0, .ref (ad 0)), (1, .int a1), (2, .int a2), (3, .int a3)] := hl
  refine lv_aload_n hx hb dX11_row_0 rfl (lv_at hl 0 rfl) ?_
  refine lv_iload_n hx hb dX11_row_1 rfl (lv_at hl 1 rfl) ?_
  refine lv_iload_n hx hb dX11_row_2 rfl (lv_at hl 2 rfl) ?_
  refine m_callVi (As := [.int a1, .int a2]) (rest := []) ⟨hx, hb, hml, hown, hts⟩ (kX11_isRow l D cI cZ ad hD M a1 a2 _ h) (cwV 2 hts (gdV uS (inA_11 _ (List.mem_of_getElem? (i := 2) rfl)) vX11_isRow) rfl rfl rfl (by decide +kernel) ⟨Nat.le_of_ble_eq_true rfl, Nat.le_of_ble_eq_true rfl⟩) (va_recv hK hP (ci := 11) (q0 := 0) rfl (mW_0 cI cZ ad M)) hP hK hS hl.1 rfl rfl (Nat.le_of_ble_eq_true rfl) dX11_row_3 (fun r3 M3 H locs h hP hS => ?_)
  refine lv_if_ne (tgt := 11) hx hb dX11_row_6 (by decide) (fun q6 => ?_) (fun q6 => ?_)
  · have h := h.1 q6
    refine lv_aload_n hx hb dX11_row_11 rfl (lv_at hl 0 rfl) ?_
    refine va_get (D := D) (ci := 11) (v := .ref (ad 3)) (C := RX11) (T := TX11) (N := 26) hx hb hts inX11 hown hK hP 0 (mW_0 cI cZ ad M3) rfl 4 (by decide) k0 (fun _ h9 => h9) rfl dX11_row_12 ?_
    refine lv_bipush (v := 10) hx hb dX11_row_15 (by decide) ?_
    refine lv_iload_n hx hb dX11_row_17 rfl (lv_at hl 1 rfl) ?_
    refine lv_imul hx hb dX11_row_18 ?_
    refine lv_iload_n hx hb dX11_row_19 rfl (lv_at hl 2 rfl) ?_
    refine lv_iadd hx hb dX11_row_20 ?_
    obtain ⟨hi21, h⟩ := h
    refine va_zald hx hb hK hP 3 1 (mW_3 cI cZ ad M3) rfl hi21 dX11_row_21 ?_
    refine lv_topi (fun x4_22 ex4_22 => ?_)
    have h := h x4_22 ex4_22
    refine lv_istore (lv' := [(4, .int x4_22), (0, .ref (ad 0)), (1, .int a1), (2, .int a2), (3, .int a3)]) hx hb dX11_row_22 hl (by decide) rfl (fun ls hl => ?_)
    refine lv_aload_n hx hb dX11_row_24 rfl (lv_at hl 1 rfl) ?_
    refine va_get (D := D) (ci := 11) (v := .ref (ad 3)) (C := RX11) (T := TX11) (N := 26) hx hb hts inX11 hown hK hP 0 (mW_0 cI cZ ad M3) rfl 4 (by decide) k0 (fun _ h9 => h9) rfl dX11_row_25 ?_
    refine lv_bipush (v := 10) hx hb dX11_row_28 (by decide) ?_
    refine lv_iload_n hx hb dX11_row_30 rfl (lv_at hl 2 rfl) ?_
    refine lv_imul hx hb dX11_row_31 ?_
    refine lv_iload_n hx hb dX11_row_32 rfl (lv_at hl 3 rfl) ?_
    refine lv_iadd hx hb dX11_row_33 ?_
    refine lv_iload_n hx hb dX11_row_34 rfl (lv_at hl 4 rfl) ?_
    obtain ⟨hi35, h⟩ := h
    obtain ⟨hz35, h⟩ := h
    refine va_zast hx hb hK hP (hD M3) hS 3 1 (mW_3 cI cZ ad M3) rfl hi35 dX11_row_35 (fun H locs hP _ hS => ?_)
    rw [zst hz35] at hP
    refine mQ_3 hP (fun M35 eM35 hP => ?_)
    have h := h M35 eM35
    refine lv_aload_n hx hb dX11_row_36 rfl (lv_at hl 1 rfl) ?_
    refine lv_iconst (v := 0) hx hb dX11_row_37 (by decide) ?_
    refine va_put (D := D) (ci := 11) (v := .int 0) (ty := .boolean) (C := RX11) (T := TX11) (N := 26) hx hb hts inX11 tyX11 tyX11_ok nmX11 hown hK hP (hD M35) hS 0 (mW_0 cI cZ ad M35) rfl 15 (by decide) k2 (fun _ h9 => h9) rfl (by decide +kernel) rfl rfl (Nat.le_of_ble_eq_true rfl) dX11_row_38 (fun H locs hP _ hS => ?_)
    refine mP_0_15 hP (fun M38 eM38 hP => ?_)
    have h := h M38 eM38
    refine lv_iload hx hb dX11_row_41 (lv_at hl 0 rfl) ?_
    refine lv_iload_n hx hb dX11_row_43 rfl (lv_at hl 4 rfl) ?_
    refine lv_icmp_ne (tgt := 51) hx hb dX11_row_44 (by decide) (fun q44 => ?_) (fun q44 => ?_)
    · have h := h.1 q44
      refine lv_iconst (v := 1) hx hb dX11_row_51 (by decide) ?_
      exact W.iret (v := 1) hx hb hr (fun t ht hW => ⟨⟨1, M38, rfl, h, mAt_of ht hP⟩, hS.F ht⟩) hS.2.2 dX11_row_52
    · have h := h.2 q44
      refine lv_iconst (v := 0) hx hb dX11_row_47 (by decide) ?_
      refine lv_goto (tgt := 52) hx hb dX11_row_48 (by decide) ?_
      exact W.iret (v := 0) hx hb hr (fun t ht hW => ⟨⟨0, M38, rfl, h, mAt_of ht hP⟩, hS.F ht⟩) hS.2.2 dX11_row_52
  · have h := h.2 q6
    refine lv_iconst (v := (-1)) hx hb dX11_row_9 (by decide) ?_
    exact W.iret (v := (-1)) hx hb hr (fun t ht hW => ⟨⟨(-1), M3, rfl, h, mAt_of ht hP⟩, hS.F ht⟩) hS.2.2 dX11_row_10
abbrev GX11_copy (p : Program) (l : Launch) (e : Env) (s : State) (m : MethodId) (below : List Frame) (meth : Method) (c : Code) (D : va_G) (cI cZ : ClassId) (ad : Nat → Nat) (a1 a2 a3 a4 a5 a6 a7 : Int32) (Q : Int32 → Mem → Prop) (H : Heap) (locs : List Loc) (g : JFrame) : Prop := W p l e (headSpec uX11_copy { frames := 2, cells := 0, slots := 0, locals := 44 }).room s m ([.ref (ad 0), .int a1, .int a2, .int a3, .int a4, .int a5, .int a6, .int a7] : List Value).toArray below meth c H locs 0 0 (MQ below (va_Qi Q (mAt D cI cZ ad) (mA ad)) ([.ref (ad 0), .int a1, .int a2, .int a3, .int a4, .int a5, .int a6, .int a7] : List Value).toArray s 0 0 (mA ad)) g
set_option maxHeartbeats 4000000 in
set_option maxRecDepth 100000 in
theorem kX11_copy (l : Launch) (D : va_G) (cI cZ : ClassId) (ad : Nat → Nat) (hD : ∀ M : Mem, va_D (mA ad) (mW cI cZ ad M)) (M : Mem) (a1 a2 a3 a4 a5 a6 a7 : Int32) (Q : Int32 → Mem → Prop) (h : wX11_copy M a1 a2 a3 a4 a5 a6 a7 Q) : Met l yX11_copy uX11_copy ({ frames := 2, cells := 0, slots := 0, locals := 44 }) (va_Pc [.ref (ad 0), .int a1, .int a2, .int a3, .int a4, .int a5, .int a6, .int a7] (mPre D cI cZ ad M)) (va_Qi Q (mAt D cI cZ ad) (mA ad)) 0 0 (mA ad) := by
  refine Met.ofW (cc := cX11_copy) (maxL := 12) (ret := (some .int)) (by decide) rfl ?_
  intro p e s m args below meth c s₁ B hml hv
  obtain ⟨rfl, hP, hK⟩ := hv
  have hx := B.exec
  have hb := B.bytes
  have hr := B.returns
  have hts := atoms_spec (ws := uX11_copy) B.pre
  have hown : s.vm.findClass RX11 = some m.cls := findClass_of_methodNamed B.named
  have hlocks := B.notSynchronized
  have hS : va_S (mA ad) s.heap s.heap [] := va_S.rf
  have k0 := hts (.fieldLink RX11 16 "TwoEyesModel" "shades" "[I") (List.mem_cons_of_mem _ (inA_6 _ (List.mem_of_getElem? (i := 20) rfl)))
  have inX11 : ∀ w ∈ wsX110, w ∈ uX11_copy := fun w h => List.mem_cons_of_mem _ (inCX11 w h)
  have k2 := hts (.fieldLink RX11 20 "TwoEyesModel" "isGone" "[Z") (List.mem_cons_of_mem _ (inA_6 _ (List.mem_of_getElem? (i := 21) rfl)))
  have k3 := hts (.fieldLink RX11 24 "TwoEyesModel" "isRowGone" "[Z") (List.mem_cons_of_mem _ (inA_6 _ (List.mem_of_getElem? (i := 22) rfl)))
  have k4 := hts (.fieldLink RX11 7 "TwoEyesModel" "width" "I") (List.mem_cons_of_mem _ (inA_6 _ (List.mem_of_getElem? (i := 18) rfl)))
  have k5 := hts (.fieldLink RX11 76 "TwoEyesModel" "isReckoned" "Z") (List.mem_cons_of_mem _ (inA_7 _ (List.mem_of_getElem? (i := 18) rfl)))
  have J159 : ∀ (B : Int32 → Int32 → Int32 → Int32 → Mem → Prop) (K207 : Int32 → Mem → Prop), (∀ (x4 x8 x9 x10 : Int32) (M : Mem) (H : Heap) (locs : List Loc) (ls : Array Slot), lv_has ls 12 [(0, .ref (ad 0)), (4, .int x4), (8, .int x8), (9, .int x9), (10, .int x10)] → va_P D vwCl (mW cI cZ ad M) H → va_S (mA ad) s.heap H locs → B x4 x8 x9 x10 M → GX11_copy p l e s m below meth c D cI cZ ad a1 a2 a3 a4 a5 a6 a7 Q H locs (F0 m 133 ls [])) → (∀ (x4 : Int32) (M : Mem) (H : Heap) (locs : List Loc) (ls : Array Slot), lv_has ls 12 [(0, .ref (ad 0)), (4, .int x4)] → va_P D vwCl (mW cI cZ ad M) H → va_S (mA ad) s.heap H locs → K207 x4 M → GX11_copy p l e s m below meth c D cI cZ ad a1 a2 a3 a4 a5 a6 a7 Q H locs (F0 m 207 ls [])) → ∀ (x4 x8 x9 x10 t0 : Int32) (M : Mem) (H : Heap) (locs : List Loc) (ls : Array Slot), lv_has ls 12 [(0, .ref (ad 0)), (4, .int x4), (8, .int x8), (9, .int x9), (10, .int x10)] → va_P D vwCl (mW cI cZ ad M) H → va_S (mA ad) s.heap H locs → wX11_copy_J159 B K207 Q x4 x8 x9 x10 t0 M → GX11_copy p l e s m below meth c D cI cZ ad a1 a2 a3 a4 a5 a6 a7 Q H locs (F0 m 159 ls [.int t0]) := by
    intro B K207 hB hK207 x4 x8 x9 x10 t0 M H locs ls hl hP hS h
    refine lv_istore (lv' := [(11, .int t0), (0, .ref (ad 0)), (4, .int x4), (8, .int x8), (9, .int x9), (10, .int x10)]) hx hb dX11_copy_159 hl (by decide) rfl (fun ls hl => ?_)
    refine lv_aload_n hx hb dX11_copy_161 rfl (lv_at hl 1 rfl) ?_
    refine va_get (D := D) (ci := 11) (v := .ref (ad 1)) (C := RX11) (T := TX11) (N := 26) hx hb hts inX11 hown hK hP 0 (mW_0 cI cZ ad M) rfl 2 (by decide) k0 (fun _ h9 => h9) rfl dX11_copy_162 ?_
    refine lv_iload hx hb dX11_copy_165 (lv_at hl 4 rfl) ?_
    refine lv_iload hx hb dX11_copy_167 (lv_at hl 0 rfl) ?_
    refine lv_iadd hx hb dX11_copy_169 ?_
    refine lv_aload_n hx hb dX11_copy_170 rfl (lv_at hl 1 rfl) ?_
    refine va_get (D := D) (ci := 11) (v := .ref (ad 1)) (C := RX11) (T := TX11) (N := 26) hx hb hts inX11 hown hK hP 0 (mW_0 cI cZ ad M) rfl 2 (by decide) k0 (fun _ h9 => h9) rfl dX11_copy_171 ?_
    refine lv_iload hx hb dX11_copy_174 (lv_at hl 3 rfl) ?_
    refine lv_iload hx hb dX11_copy_176 (lv_at hl 0 rfl) ?_
    refine lv_iadd hx hb dX11_copy_178 ?_
    obtain ⟨hi179, h⟩ := h
    refine va_iald hx hb hK hP 1 0 (mW_1 cI cZ ad M) rfl hi179 dX11_copy_179 ?_
    obtain ⟨hi180, h⟩ := h
    refine va_iast hx hb hK hP (hD M) hS 1 0 (mW_1 cI cZ ad M) rfl hi180 dX11_copy_180 (fun H locs hP _ hS => ?_)
    refine mQ_1 hP (fun M180 eM180 hP => ?_)
    have h := h M180 eM180
    refine lv_aload_n hx hb dX11_copy_181 rfl (lv_at hl 1 rfl) ?_
    refine va_get (D := D) (ci := 11) (v := .ref (ad 2)) (C := RX11) (T := TX11) (N := 26) hx hb hts inX11 hown hK hP 0 (mW_0 cI cZ ad M180) rfl 3 (by decide) k2 (fun _ h9 => h9) rfl dX11_copy_182 ?_
    refine lv_iload hx hb dX11_copy_185 (lv_at hl 4 rfl) ?_
    refine lv_iload hx hb dX11_copy_187 (lv_at hl 0 rfl) ?_
    refine lv_iadd hx hb dX11_copy_189 ?_
    refine lv_aload_n hx hb dX11_copy_190 rfl (lv_at hl 1 rfl) ?_
    refine va_get (D := D) (ci := 11) (v := .ref (ad 2)) (C := RX11) (T := TX11) (N := 26) hx hb hts inX11 hown hK hP 0 (mW_0 cI cZ ad M180) rfl 3 (by decide) k2 (fun _ h9 => h9) rfl dX11_copy_191 ?_
    refine lv_iload hx hb dX11_copy_194 (lv_at hl 3 rfl) ?_
    refine lv_iload hx hb dX11_copy_196 (lv_at hl 0 rfl) ?_
    refine lv_iadd hx hb dX11_copy_198 ?_
    obtain ⟨hi199, h⟩ := h
    refine va_zald hx hb hK hP 2 1 (mW_2 cI cZ ad M180) rfl hi199 dX11_copy_199 ?_
    obtain ⟨hi200, h⟩ := h
    obtain ⟨hz200, h⟩ := h
    refine va_zast hx hb hK hP (hD M180) hS 2 1 (mW_2 cI cZ ad M180) rfl hi200 dX11_copy_200 (fun H locs hP _ hS => ?_)
    rw [zst hz200] at hP
    refine mQ_2 hP (fun M200 eM200 hP => ?_)
    have h := h M200 eM200
    obtain ⟨x10_201, ex10_201⟩ : ∃ y : Int32, y = x10 + 1 := ⟨_, rfl⟩
    have h := h x10_201 ex10_201
    refine lv_iinc (v := x10_201) (lv' := [(10, .int x10_201), (11, .int t0), (0, .ref (ad 0)), (4, .int x4), (8, .int x8), (9, .int x9)]) hx hb dX11_copy_201 hl (k := 5) rfl (by rw [ex10_201]; rfl) (by decide) rfl (fun ls hl => ?_)
    refine lv_goto (tgt := 133) hx hb dX11_copy_204 (by decide) ?_
    exact hB x4 x8 x9 x10_201 M200 _ _ _ (lv_sub hl [2, 3, 4, 5, 0] rfl) hP hS h
  have L133 : ∀ (K207 : Int32 → Mem → Prop), (∀ (x4 : Int32) (M : Mem) (H : Heap) (locs : List Loc) (ls : Array Slot), lv_has ls 12 [(0, .ref (ad 0)), (4, .int x4)] → va_P D vwCl (mW cI cZ ad M) H → va_S (mA ad) s.heap H locs → K207 x4 M → GX11_copy p l e s m below meth c D cI cZ ad a1 a2 a3 a4 a5 a6 a7 Q H locs (F0 m 207 ls [])) → ∀ n : Nat, ∀ (x4 x8 x9 x10 : Int32) (M : Mem) (H : Heap) (locs : List Loc) (ls : Array Slot), lv_has ls 12 [(0, .ref (ad 0)), (4, .int x4), (8, .int x8), (9, .int x9), (10, .int x10)] → va_P D vwCl (mW cI cZ ad M) H → va_S (mA ad) s.heap H locs → wX11_copy_L133 K207 Q n x4 x8 x9 x10 M → GX11_copy p l e s m below meth c D cI cZ ad a1 a2 a3 a4 a5 a6 a7 Q H locs (F0 m 133 ls []) := by
    intro K207 hK207 n
    induction n with
    | zero => intro x4 x8 x9 x10 M H locs ls hl hP hS h; exact (show False from h).elim
    | succ n hB =>
      intro x4 x8 x9 x10 M H locs ls hl hP hS h
      rw [wX11_copy_L133_s] at h
      refine lv_iload hx hb dX11_copy_133 (lv_at hl 4 rfl) ?_
      refine lv_iload hx hb dX11_copy_135 (lv_at hl 1 rfl) ?_
      refine lv_icmp_ge (tgt := 207) hx hb dX11_copy_137 (by decide) (fun q137 => ?_) (fun q137 => ?_)
      · have h := h.1 q137
        exact hK207 x4 M _ _ _ (lv_sub hl [0, 1] rfl) hP hS h
      · have h := h.2 q137
        refine lv_iload hx hb dX11_copy_140 (lv_at hl 3 rfl) ?_
        refine lv_iload hx hb dX11_copy_142 (lv_at hl 2 rfl) ?_
        refine lv_icmp_le (tgt := 157) hx hb dX11_copy_144 (by decide) (fun q144 => ?_) (fun q144 => ?_)
        · have h := h.1 q144
          refine lv_iload hx hb dX11_copy_157 (lv_at hl 4 rfl) ?_
          exact J159 _ K207 hB hK207 x4 x8 x9 x10 x10 M _ _ _ (lv_sub hl [0, 1, 2, 3, 4] rfl) hP hS h
        · have h := h.2 q144
          refine lv_iload hx hb dX11_copy_147 (lv_at hl 1 rfl) ?_
          refine lv_iconst (v := 1) hx hb dX11_copy_149 (by decide) ?_
          refine lv_isub hx hb dX11_copy_150 ?_
          refine lv_iload hx hb dX11_copy_151 (lv_at hl 4 rfl) ?_
          refine lv_isub hx hb dX11_copy_153 ?_
          refine lv_goto (tgt := 159) hx hb dX11_copy_154 (by decide) ?_
          exact J159 _ K207 hB hK207 x4 x8 x9 x10 ((x4 - 1) - x10) M _ _ _ (lv_sub hl [0, 1, 2, 3, 4] rfl) hP hS h
  have hl := lv_entry ([.ref (ad 0), .int a1, .int a2, .int a3, .int a4, .int a5, .int a6, .int a7]) (n := 12) (Nat.le_of_ble_eq_true rfl)
  rw [lg_entry_eq]
  generalize (lg_sl ([.ref (ad 0), .int a1, .int a2, .int a3, .int a4, .int a5, .int a6, .int a7]) ++ List.replicate (12 - (lg_sl ([.ref (ad 0), .int a1, .int a2, .int a3, .int a4, .int a5, .int a6, .int a7])).length) Slot.unset).toArray = ls at hl ⊢
  have hl : lv_has ls 12 [(0, .ref (ad 0)), (1, .int a1), (2, .int a2), (3, .int a3), (4, .int a4), (5, .int a5), (6, .int a6), (7, .int a7)] := hl
  refine lv_aload_n hx hb dX11_copy_0 rfl (lv_at hl 0 rfl) ?_
  refine lv_iload_n hx hb dX11_copy_1 rfl (lv_at hl 1 rfl) ?_
  refine lv_iload_n hx hb dX11_copy_2 rfl (lv_at hl 3 rfl) ?_
  refine m_callVi (As := [.int a1, .int a3]) (rest := []) ⟨hx, hb, hml, hown, hts⟩ (kX11_isRow l D cI cZ ad hD M a1 a3 _ h) (cwV 2 hts (gdV uS (inA_11 _ (List.mem_of_getElem? (i := 2) rfl)) vX11_isRow) rfl rfl rfl (by decide +kernel) ⟨Nat.le_of_ble_eq_true rfl, Nat.le_of_ble_eq_true rfl⟩) (va_recv hK hP (ci := 11) (q0 := 0) rfl (mW_0 cI cZ ad M)) hP hK hS hl.1 rfl rfl (Nat.le_of_ble_eq_true rfl) dX11_copy_3 (fun r3 M3 H locs h hP hS => ?_)
  refine lv_if_eq (tgt := 20) hx hb dX11_copy_6 (by decide) (fun q6 => ?_) (fun q6 => ?_)
  · have h := h.1 q6
    refine lv_iconst (v := (-1)) hx hb dX11_copy_20 (by decide) ?_
    exact W.iret (v := (-1)) hx hb hr (fun t ht hW => ⟨⟨(-1), M3, rfl, h, mAt_of ht hP⟩, hS.F ht⟩) hS.2.2 dX11_copy_21
  · have h := h.2 q6
    refine lv_aload_n hx hb dX11_copy_9 rfl (lv_at hl 0 rfl) ?_
    refine lv_iload hx hb dX11_copy_10 (lv_at hl 5 rfl) ?_
    refine lv_iload hx hb dX11_copy_12 (lv_at hl 7 rfl) ?_
    refine m_callVi (As := [.int a5, .int a7]) (rest := []) ⟨hx, hb, hml, hown, hts⟩ (kX11_isRow l D cI cZ ad hD M3 a5 a7 _ h) (cwV 2 hts (gdV uS (inA_11 _ (List.mem_of_getElem? (i := 2) rfl)) vX11_isRow) rfl rfl rfl (by decide +kernel) ⟨Nat.le_of_ble_eq_true rfl, Nat.le_of_ble_eq_true rfl⟩) (va_recv hK hP (ci := 11) (q0 := 0) rfl (mW_0 cI cZ ad M3)) hP hK hS hl.1 rfl rfl (Nat.le_of_ble_eq_true rfl) dX11_copy_14 (fun r14 M14 H locs h hP hS => ?_)
    refine lv_if_ne (tgt := 22) hx hb dX11_copy_17 (by decide) (fun q17 => ?_) (fun q17 => ?_)
    · have h := h.1 q17
      refine lv_aload_n hx hb dX11_copy_22 rfl (lv_at hl 0 rfl) ?_
      refine va_get (D := D) (ci := 11) (v := .ref (ad 3)) (C := RX11) (T := TX11) (N := 26) hx hb hts inX11 hown hK hP 0 (mW_0 cI cZ ad M14) rfl 4 (by decide) k3 (fun _ h9 => h9) rfl dX11_copy_23 ?_
      refine lv_bipush (v := 10) hx hb dX11_copy_26 (by decide) ?_
      refine lv_iload_n hx hb dX11_copy_28 rfl (lv_at hl 1 rfl) ?_
      refine lv_imul hx hb dX11_copy_29 ?_
      refine lv_iload_n hx hb dX11_copy_30 rfl (lv_at hl 3 rfl) ?_
      refine lv_iadd hx hb dX11_copy_31 ?_
      obtain ⟨hi32, h⟩ := h
      refine va_zald hx hb hK hP 3 1 (mW_3 cI cZ ad M14) rfl hi32 dX11_copy_32 ?_
      refine lv_if_ne (tgt := 52) hx hb dX11_copy_33 (by decide) (fun q33 => ?_) (fun q33 => ?_)
      · have h := h.1 q33
        refine lv_bipush (v := (-2)) hx hb dX11_copy_52 (by decide) ?_
        exact W.iret (v := (-2)) hx hb hr (fun t ht hW => ⟨⟨(-2), M14, rfl, h, mAt_of ht hP⟩, hS.F ht⟩) hS.2.2 dX11_copy_54
      · have h := h.2 q33
        refine lv_aload_n hx hb dX11_copy_36 rfl (lv_at hl 0 rfl) ?_
        refine va_get (D := D) (ci := 11) (v := .ref (ad 3)) (C := RX11) (T := TX11) (N := 26) hx hb hts inX11 hown hK hP 0 (mW_0 cI cZ ad M14) rfl 4 (by decide) k3 (fun _ h9 => h9) rfl dX11_copy_37 ?_
        refine lv_bipush (v := 10) hx hb dX11_copy_40 (by decide) ?_
        refine lv_iload hx hb dX11_copy_42 (lv_at hl 5 rfl) ?_
        refine lv_imul hx hb dX11_copy_44 ?_
        refine lv_iload hx hb dX11_copy_45 (lv_at hl 7 rfl) ?_
        refine lv_iadd hx hb dX11_copy_47 ?_
        obtain ⟨hi48, h⟩ := h
        refine va_zald hx hb hK hP 3 1 (mW_3 cI cZ ad M14) rfl hi48 dX11_copy_48 ?_
        refine lv_if_eq (tgt := 55) hx hb dX11_copy_49 (by decide) (fun q49 => ?_) (fun q49 => ?_)
        · have h := h.1 q49
          refine lv_iload hx hb dX11_copy_55 (lv_at hl 4 rfl) ?_
          refine lv_if_ge (tgt := 63) hx hb dX11_copy_57 (by decide) (fun q57 => ?_) (fun q57 => ?_)
          · have h := h.1 q57
            refine lv_iload hx hb dX11_copy_63 (lv_at hl 4 rfl) ?_
            refine lv_aload_n hx hb dX11_copy_65 rfl (lv_at hl 0 rfl) ?_
            refine va_get (D := D) (ci := 11) (v := .int (M14 0 0)) (C := RX11) (T := TX11) (N := 26) hx hb hts inX11 hown hK hP 0 (mW_0 cI cZ ad M14) rfl 0 (by decide) k4 (fun _ h9 => h9) rfl dX11_copy_66 ?_
            refine lv_icmp_gt (tgt := 103) hx hb dX11_copy_69 (by decide) (fun q69 => ?_) (fun q69 => ?_)
            · have h := h.1 q69
              refine lv_iconst (v := (-1)) hx hb dX11_copy_103 (by decide) ?_
              exact W.iret (v := (-1)) hx hb hr (fun t ht hW => ⟨⟨(-1), M14, rfl, h, mAt_of ht hP⟩, hS.F ht⟩) hS.2.2 dX11_copy_104
            · have h := h.2 q69
              refine lv_iload_n hx hb dX11_copy_72 rfl (lv_at hl 2 rfl) ?_
              refine lv_iconst (v := 0) hx hb dX11_copy_73 (by decide) ?_
              refine lv_aload_n hx hb dX11_copy_74 rfl (lv_at hl 0 rfl) ?_
              refine va_get (D := D) (ci := 11) (v := .int (M14 0 0)) (C := RX11) (T := TX11) (N := 26) hx hb hts inX11 hown hK hP 0 (mW_0 cI cZ ad M14) rfl 0 (by decide) k4 (fun _ h9 => h9) rfl dX11_copy_75 ?_
              refine lv_iload hx hb dX11_copy_78 (lv_at hl 4 rfl) ?_
              refine lv_isub hx hb dX11_copy_80 ?_
              refine m_callSi (As := [.int a2, .int 0, .int ((M14 0 0) - a4)]) (rest := []) ⟨hx, hb, hml, hown, hts⟩ (kX11_in l D cI cZ ad hD M14 a2 0 ((M14 0 0) - a4) _ h) (va_cwS 3 hts (gdS uS (inA_9 _ (List.mem_of_getElem? (i := 4) rfl)) vX11_in) rfl rfl rfl (by decide +kernel) ⟨Nat.le_of_ble_eq_true rfl, Nat.le_of_ble_eq_true rfl⟩) hP hK hS hl.1 rfl rfl (Nat.le_of_ble_eq_true rfl) dX11_copy_81 (fun r81 M81 H locs h hP hS => ?_)
              refine lv_if_eq (tgt := 103) hx hb dX11_copy_84 (by decide) (fun q84 => ?_) (fun q84 => ?_)
              · have h := h.1 q84
                refine lv_iconst (v := (-1)) hx hb dX11_copy_103 (by decide) ?_
                exact W.iret (v := (-1)) hx hb hr (fun t ht hW => ⟨⟨(-1), M81, rfl, h, mAt_of ht hP⟩, hS.F ht⟩) hS.2.2 dX11_copy_104
              · have h := h.2 q84
                refine lv_iload hx hb dX11_copy_87 (lv_at hl 6 rfl) ?_
                refine lv_iconst (v := 0) hx hb dX11_copy_89 (by decide) ?_
                refine lv_aload_n hx hb dX11_copy_90 rfl (lv_at hl 0 rfl) ?_
                refine va_get (D := D) (ci := 11) (v := .int (M81 0 0)) (C := RX11) (T := TX11) (N := 26) hx hb hts inX11 hown hK hP 0 (mW_0 cI cZ ad M81) rfl 0 (by decide) k4 (fun _ h9 => h9) rfl dX11_copy_91 ?_
                refine lv_iload hx hb dX11_copy_94 (lv_at hl 4 rfl) ?_
                refine lv_isub hx hb dX11_copy_96 ?_
                refine m_callSi (As := [.int a6, .int 0, .int ((M81 0 0) - a4)]) (rest := []) ⟨hx, hb, hml, hown, hts⟩ (kX11_in l D cI cZ ad hD M81 a6 0 ((M81 0 0) - a4) _ h) (va_cwS 3 hts (gdS uS (inA_9 _ (List.mem_of_getElem? (i := 4) rfl)) vX11_in) rfl rfl rfl (by decide +kernel) ⟨Nat.le_of_ble_eq_true rfl, Nat.le_of_ble_eq_true rfl⟩) hP hK hS hl.1 rfl rfl (Nat.le_of_ble_eq_true rfl) dX11_copy_97 (fun r97 M97 H locs h hP hS => ?_)
                refine lv_if_ne (tgt := 105) hx hb dX11_copy_100 (by decide) (fun q100 => ?_) (fun q100 => ?_)
                · have h := h.1 q100
                  refine lv_aload_n hx hb dX11_copy_105 rfl (lv_at hl 0 rfl) ?_
                  refine lv_iload_n hx hb dX11_copy_106 rfl (lv_at hl 1 rfl) ?_
                  refine lv_iconst (v := 0) hx hb dX11_copy_107 (by decide) ?_
                  refine lv_iload_n hx hb dX11_copy_108 rfl (lv_at hl 3 rfl) ?_
                  refine m_callVi (As := [.int a1, .int 0, .int a3]) (rest := []) ⟨hx, hb, hml, hown, hts⟩ (kX11_at l D cI cZ ad hD M97 a1 0 a3 _ h) (cwV 3 hts (gdV uS (inA_11 _ (List.mem_of_getElem? (i := 6) rfl)) vX11_at) rfl rfl rfl (by decide +kernel) ⟨Nat.le_of_ble_eq_true rfl, Nat.le_of_ble_eq_true rfl⟩) (va_recv hK hP (ci := 11) (q0 := 0) rfl (mW_0 cI cZ ad M97)) hP hK hS hl.1 rfl rfl (Nat.le_of_ble_eq_true rfl) dX11_copy_109 (fun r109 M109 H locs h hP hS => ?_)
                  refine lv_iload_n hx hb dX11_copy_112 rfl (lv_at hl 2 rfl) ?_
                  refine lv_iadd hx hb dX11_copy_113 ?_
                  refine lv_topi (fun x8_114 ex8_114 => ?_)
                  have h := h x8_114 ex8_114
                  refine lv_istore (lv' := [(8, .int x8_114), (0, .ref (ad 0)), (1, .int a1), (2, .int a2), (3, .int a3), (4, .int a4), (5, .int a5), (6, .int a6), (7, .int a7)]) hx hb dX11_copy_114 hl (by decide) rfl (fun ls hl => ?_)
                  refine lv_aload_n hx hb dX11_copy_116 rfl (lv_at hl 1 rfl) ?_
                  refine lv_iload hx hb dX11_copy_117 (lv_at hl 6 rfl) ?_
                  refine lv_iconst (v := 0) hx hb dX11_copy_119 (by decide) ?_
                  refine lv_iload hx hb dX11_copy_120 (lv_at hl 8 rfl) ?_
                  refine m_callVi (As := [.int a5, .int 0, .int a7]) (rest := []) ⟨hx, hb, hml, hown, hts⟩ (kX11_at l D cI cZ ad hD M109 a5 0 a7 _ h) (cwV 3 hts (gdV uS (inA_11 _ (List.mem_of_getElem? (i := 6) rfl)) vX11_at) rfl rfl rfl (by decide +kernel) ⟨Nat.le_of_ble_eq_true rfl, Nat.le_of_ble_eq_true rfl⟩) (va_recv hK hP (ci := 11) (q0 := 0) rfl (mW_0 cI cZ ad M109)) hP hK hS hl.1 rfl rfl (Nat.le_of_ble_eq_true rfl) dX11_copy_122 (fun r122 M122 H locs h hP hS => ?_)
                  refine lv_iload hx hb dX11_copy_125 (lv_at hl 7 rfl) ?_
                  refine lv_iadd hx hb dX11_copy_127 ?_
                  refine lv_topi (fun x9_128 ex9_128 => ?_)
                  have h := h x9_128 ex9_128
                  refine lv_istore (lv' := [(9, .int x9_128), (8, .int x8_114), (0, .ref (ad 0)), (1, .int a1), (2, .int a2), (3, .int a3), (4, .int a4), (5, .int a5), (6, .int a6), (7, .int a7)]) hx hb dX11_copy_128 hl (by decide) rfl (fun ls hl => ?_)
                  refine lv_iconst (v := 0) hx hb dX11_copy_130 (by decide) ?_
                  refine lv_istore (lv' := [(10, .int 0), (9, .int x9_128), (8, .int x8_114), (0, .ref (ad 0)), (1, .int a1), (2, .int a2), (3, .int a3), (4, .int a4), (5, .int a5), (6, .int a6), (7, .int a7)]) hx hb dX11_copy_131 hl (by decide) rfl (fun ls hl => ?_)
                  obtain ⟨n, h⟩ := h
                  refine L133 _ (fun x4 M H locs ls hl hP hS h => ?_) n a4 x8_114 x9_128 0 M122 _ _ _ (lv_sub hl [3, 7, 2, 1, 0] rfl) hP hS h
                  refine lv_aload_n hx hb dX11_copy_207 rfl (lv_at hl 0 rfl) ?_
                  refine lv_iconst (v := 0) hx hb dX11_copy_208 (by decide) ?_
                  refine va_put (D := D) (ci := 11) (v := .int 0) (ty := .boolean) (C := RX11) (T := TX11) (N := 26) hx hb hts inX11 tyX11 tyX11_ok nmX11 hown hK hP (hD M) hS 0 (mW_0 cI cZ ad M) rfl 15 (by decide) k5 (fun _ h9 => h9) rfl (by decide +kernel) rfl rfl (Nat.le_of_ble_eq_true rfl) dX11_copy_209 (fun H locs hP _ hS => ?_)
                  refine mP_0_15 hP (fun M209 eM209 hP => ?_)
                  have h := h M209 eM209
                  refine lv_iload hx hb dX11_copy_212 (lv_at hl 1 rfl) ?_
                  exact W.iret (v := x4) hx hb hr (fun t ht hW => ⟨⟨x4, M209, rfl, h, mAt_of ht hP⟩, hS.F ht⟩) hS.2.2 dX11_copy_214
                · have h := h.2 q100
                  refine lv_iconst (v := (-1)) hx hb dX11_copy_103 (by decide) ?_
                  exact W.iret (v := (-1)) hx hb hr (fun t ht hW => ⟨⟨(-1), M97, rfl, h, mAt_of ht hP⟩, hS.F ht⟩) hS.2.2 dX11_copy_104
          · have h := h.2 q57
            refine lv_bipush (v := (-3)) hx hb dX11_copy_60 (by decide) ?_
            exact W.iret (v := (-3)) hx hb hr (fun t ht hW => ⟨⟨(-3), M14, rfl, h, mAt_of ht hP⟩, hS.F ht⟩) hS.2.2 dX11_copy_62
        · have h := h.2 q49
          refine lv_bipush (v := (-2)) hx hb dX11_copy_52 (by decide) ?_
          exact W.iret (v := (-2)) hx hb hr (fun t ht hW => ⟨⟨(-2), M14, rfl, h, mAt_of ht hP⟩, hS.F ht⟩) hS.2.2 dX11_copy_54
    · have h := h.2 q17
      refine lv_iconst (v := (-1)) hx hb dX11_copy_20 (by decide) ?_
      exact W.iret (v := (-1)) hx hb hr (fun t ht hW => ⟨⟨(-1), M14, rfl, h, mAt_of ht hP⟩, hS.F ht⟩) hS.2.2 dX11_copy_21
set_option maxHeartbeats 4000000 in
set_option maxRecDepth 100000 in
theorem kX11_isSquare (l : Launch) (D : va_G) (cI cZ : ClassId) (ad : Nat → Nat) (hD : ∀ M : Mem, va_D (mA ad) (mW cI cZ ad M)) (M : Mem) (a1 a2 : Int32) (Q : Int32 → Mem → Prop) (h : wX11_isSquare M a1 a2 Q) : Met l yX11_isSquare uX11_isSquare ({ frames := 1, cells := 0, slots := 0, locals := 22 }) (va_Pc [.ref (ad 0), .int a1, .int a2] (mPre D cI cZ ad M)) (va_Qi Q (mAt D cI cZ ad) (mA ad)) 0 0 (mA ad) := by
  refine Met.ofW (cc := cX11_isSquare) (maxL := 3) (ret := (some .boolean)) (by decide) rfl ?_
  intro p e s m args below meth c s₁ B hml hv
  obtain ⟨rfl, hP, hK⟩ := hv
  have hx := B.exec
  have hb := B.bytes
  have hr := B.returns
  have hts := atoms_spec (ws := uX11_isSquare) B.pre
  have hown : s.vm.findClass RX11 = some m.cls := findClass_of_methodNamed B.named
  have hlocks := B.notSynchronized
  have hS : va_S (mA ad) s.heap s.heap [] := va_S.rf
  have k0 := hts (.fieldLink RX11 7 "TwoEyesModel" "width" "I") (List.mem_cons_of_mem _ (inA_6 _ (List.mem_of_getElem? (i := 18) rfl)))
  have inX11 : ∀ w ∈ wsX110, w ∈ uX11_isSquare := fun w h => List.mem_cons_of_mem _ (inCX11 w h)
  have k2 := hts (.fieldLink RX11 13 "TwoEyesModel" "height" "I") (List.mem_cons_of_mem _ (inA_6 _ (List.mem_of_getElem? (i := 19) rfl)))
  have hl := lv_entry ([.ref (ad 0), .int a1, .int a2]) (n := 3) (Nat.le_of_ble_eq_true rfl)
  rw [lg_entry_eq]
  generalize (lg_sl ([.ref (ad 0), .int a1, .int a2]) ++ List.replicate (3 - (lg_sl ([.ref (ad 0), .int a1, .int a2])).length) Slot.unset).toArray = ls at hl ⊢
  have hl : lv_has ls 3 [(0, .ref (ad 0)), (1, .int a1), (2, .int a2)] := hl
  refine lv_iload_n hx hb dX11_isSquare_0 rfl (lv_at hl 1 rfl) ?_
  refine lv_iconst (v := 0) hx hb dX11_isSquare_1 (by decide) ?_
  refine lv_aload_n hx hb dX11_isSquare_2 rfl (lv_at hl 0 rfl) ?_
  refine va_get (D := D) (ci := 11) (v := .int (M 0 0)) (C := RX11) (T := TX11) (N := 26) hx hb hts inX11 hown hK hP 0 (mW_0 cI cZ ad M) rfl 0 (by decide) k0 (fun _ h9 => h9) rfl dX11_isSquare_3 ?_
  refine lv_iconst (v := 1) hx hb dX11_isSquare_6 (by decide) ?_
  refine lv_isub hx hb dX11_isSquare_7 ?_
  refine m_callSi (As := [.int a1, .int 0, .int ((M 0 0) - 1)]) (rest := []) ⟨hx, hb, hml, hown, hts⟩ (kX11_in l D cI cZ ad hD M a1 0 ((M 0 0) - 1) _ h) (va_cwS 3 hts (gdS uS (inA_9 _ (List.mem_of_getElem? (i := 4) rfl)) vX11_in) rfl rfl rfl (by decide +kernel) ⟨Nat.le_of_ble_eq_true rfl, Nat.le_of_ble_eq_true rfl⟩) hP hK hS hl.1 rfl rfl (Nat.le_of_ble_eq_true rfl) dX11_isSquare_8 (fun r8 M8 H locs h hP hS => ?_)
  refine lv_if_eq (tgt := 32) hx hb dX11_isSquare_11 (by decide) (fun q11 => ?_) (fun q11 => ?_)
  · have h := h.1 q11
    refine lv_iconst (v := 0) hx hb dX11_isSquare_32 (by decide) ?_
    exact W.zret (v := 0) hx hb hr rfl (fun t ht hW => ⟨⟨0, M8, rfl, h, mAt_of ht hP⟩, hS.F ht⟩) hS.2.2 dX11_isSquare_33
  · have h := h.2 q11
    refine lv_iload_n hx hb dX11_isSquare_14 rfl (lv_at hl 2 rfl) ?_
    refine lv_iconst (v := 0) hx hb dX11_isSquare_15 (by decide) ?_
    refine lv_aload_n hx hb dX11_isSquare_16 rfl (lv_at hl 0 rfl) ?_
    refine va_get (D := D) (ci := 11) (v := .int (M8 0 1)) (C := RX11) (T := TX11) (N := 26) hx hb hts inX11 hown hK hP 0 (mW_0 cI cZ ad M8) rfl 1 (by decide) k2 (fun _ h9 => h9) rfl dX11_isSquare_17 ?_
    refine lv_iconst (v := 1) hx hb dX11_isSquare_20 (by decide) ?_
    refine lv_isub hx hb dX11_isSquare_21 ?_
    refine m_callSi (As := [.int a2, .int 0, .int ((M8 0 1) - 1)]) (rest := []) ⟨hx, hb, hml, hown, hts⟩ (kX11_in l D cI cZ ad hD M8 a2 0 ((M8 0 1) - 1) _ h) (va_cwS 3 hts (gdS uS (inA_9 _ (List.mem_of_getElem? (i := 4) rfl)) vX11_in) rfl rfl rfl (by decide +kernel) ⟨Nat.le_of_ble_eq_true rfl, Nat.le_of_ble_eq_true rfl⟩) hP hK hS hl.1 rfl rfl (Nat.le_of_ble_eq_true rfl) dX11_isSquare_22 (fun r22 M22 H locs h hP hS => ?_)
    refine lv_if_eq (tgt := 32) hx hb dX11_isSquare_25 (by decide) (fun q25 => ?_) (fun q25 => ?_)
    · have h := h.1 q25
      refine lv_iconst (v := 0) hx hb dX11_isSquare_32 (by decide) ?_
      exact W.zret (v := 0) hx hb hr rfl (fun t ht hW => ⟨⟨0, M22, rfl, h, mAt_of ht hP⟩, hS.F ht⟩) hS.2.2 dX11_isSquare_33
    · have h := h.2 q25
      refine lv_iconst (v := 1) hx hb dX11_isSquare_28 (by decide) ?_
      refine lv_goto (tgt := 33) hx hb dX11_isSquare_29 (by decide) ?_
      exact W.zret (v := 1) hx hb hr rfl (fun t ht hW => ⟨⟨1, M22, rfl, h, mAt_of ht hP⟩, hS.F ht⟩) hS.2.2 dX11_isSquare_33
set_option maxHeartbeats 4000000 in
set_option maxRecDepth 100000 in
theorem kX11_isLost (l : Launch) (D : va_G) (cI cZ : ClassId) (ad : Nat → Nat) (hD : ∀ M : Mem, va_D (mA ad) (mW cI cZ ad M)) (M : Mem) (a1 a2 a3 : Int32) (Q : Int32 → Mem → Prop) (h : wX11_isLost M a1 a2 a3 Q) : Met l yX11_isLost uX11_isLost ({ frames := 1, cells := 0, slots := 0, locals := 23 }) (va_Pc [.ref (ad 0), .int a1, .int a2, .int a3] (mPre D cI cZ ad M)) (va_Qi Q (mAt D cI cZ ad) (mA ad)) 0 0 (mA ad) := by
  refine Met.ofW (cc := cX11_isLost) (maxL := 4) (ret := (some .boolean)) (by decide) rfl ?_
  intro p e s m args below meth c s₁ B hml hv
  obtain ⟨rfl, hP, hK⟩ := hv
  have hx := B.exec
  have hb := B.bytes
  have hr := B.returns
  have hts := atoms_spec (ws := uX11_isLost) B.pre
  have hown : s.vm.findClass RX11 = some m.cls := findClass_of_methodNamed B.named
  have hlocks := B.notSynchronized
  have hS : va_S (mA ad) s.heap s.heap [] := va_S.rf
  have k0 := hts (.fieldLink RX11 24 "TwoEyesModel" "isRowGone" "[Z") (List.mem_cons_of_mem _ (inA_6 _ (List.mem_of_getElem? (i := 22) rfl)))
  have inX11 : ∀ w ∈ wsX110, w ∈ uX11_isLost := fun w h => List.mem_cons_of_mem _ (inCX11 w h)
  have k2 := hts (.fieldLink RX11 20 "TwoEyesModel" "isGone" "[Z") (List.mem_cons_of_mem _ (inA_6 _ (List.mem_of_getElem? (i := 21) rfl)))
  have hl := lv_entry ([.ref (ad 0), .int a1, .int a2, .int a3]) (n := 4) (Nat.le_of_ble_eq_true rfl)
  rw [lg_entry_eq]
  generalize (lg_sl ([.ref (ad 0), .int a1, .int a2, .int a3]) ++ List.replicate (4 - (lg_sl ([.ref (ad 0), .int a1, .int a2, .int a3])).length) Slot.unset).toArray = ls at hl ⊢
  have hl : lv_has ls 4 [(0, .ref (ad 0)), (1, .int a1), (2, .int a2), (3, .int a3)] := hl
  refine lv_aload_n hx hb dX11_isLost_0 rfl (lv_at hl 0 rfl) ?_
  refine va_get (D := D) (ci := 11) (v := .ref (ad 3)) (C := RX11) (T := TX11) (N := 26) hx hb hts inX11 hown hK hP 0 (mW_0 cI cZ ad M) rfl 4 (by decide) k0 (fun _ h9 => h9) rfl dX11_isLost_1 ?_
  refine lv_bipush (v := 10) hx hb dX11_isLost_4 (by decide) ?_
  refine lv_iload_n hx hb dX11_isLost_6 rfl (lv_at hl 1 rfl) ?_
  refine lv_imul hx hb dX11_isLost_7 ?_
  refine lv_iload_n hx hb dX11_isLost_8 rfl (lv_at hl 3 rfl) ?_
  refine lv_iadd hx hb dX11_isLost_9 ?_
  obtain ⟨hi10, h⟩ := h
  refine va_zald hx hb hK hP 3 1 (mW_3 cI cZ ad M) rfl hi10 dX11_isLost_10 ?_
  refine lv_if_ne (tgt := 29) hx hb dX11_isLost_11 (by decide) (fun q11 => ?_) (fun q11 => ?_)
  · have h := h.1 q11
    refine lv_iconst (v := 1) hx hb dX11_isLost_29 (by decide) ?_
    refine lv_goto (tgt := 34) hx hb dX11_isLost_30 (by decide) ?_
    exact W.zret (v := 1) hx hb hr rfl (fun t ht hW => ⟨⟨1, M, rfl, h, mAt_of ht hP⟩, hS.F ht⟩) hS.2.2 dX11_isLost_34
  · have h := h.2 q11
    refine lv_aload_n hx hb dX11_isLost_14 rfl (lv_at hl 0 rfl) ?_
    refine va_get (D := D) (ci := 11) (v := .ref (ad 2)) (C := RX11) (T := TX11) (N := 26) hx hb hts inX11 hown hK hP 0 (mW_0 cI cZ ad M) rfl 3 (by decide) k2 (fun _ h9 => h9) rfl dX11_isLost_15 ?_
    refine lv_aload_n hx hb dX11_isLost_18 rfl (lv_at hl 0 rfl) ?_
    refine lv_iload_n hx hb dX11_isLost_19 rfl (lv_at hl 1 rfl) ?_
    refine lv_iload_n hx hb dX11_isLost_20 rfl (lv_at hl 2 rfl) ?_
    refine lv_iload_n hx hb dX11_isLost_21 rfl (lv_at hl 3 rfl) ?_
    refine m_callVi (As := [.int a1, .int a2, .int a3]) (rest := [.ref (ad 2)]) ⟨hx, hb, hml, hown, hts⟩ (kX11_at l D cI cZ ad hD M a1 a2 a3 _ h) (cwV 3 hts (gdV uS (inA_11 _ (List.mem_of_getElem? (i := 6) rfl)) vX11_at) rfl rfl rfl (by decide +kernel) ⟨Nat.le_of_ble_eq_true rfl, Nat.le_of_ble_eq_true rfl⟩) (va_recv hK hP (ci := 11) (q0 := 0) rfl (mW_0 cI cZ ad M)) hP hK hS hl.1 rfl rfl (Nat.le_of_ble_eq_true rfl) dX11_isLost_22 (fun r22 M22 H locs h hP hS => ?_)
    obtain ⟨hi25, h⟩ := h
    refine va_zald hx hb hK hP 2 1 (mW_2 cI cZ ad M22) rfl hi25 dX11_isLost_25 ?_
    refine lv_if_eq (tgt := 33) hx hb dX11_isLost_26 (by decide) (fun q26 => ?_) (fun q26 => ?_)
    · have h := h.1 q26
      refine lv_iconst (v := 0) hx hb dX11_isLost_33 (by decide) ?_
      exact W.zret (v := 0) hx hb hr rfl (fun t ht hW => ⟨⟨0, M22, rfl, h, mAt_of ht hP⟩, hS.F ht⟩) hS.2.2 dX11_isLost_34
    · have h := h.2 q26
      refine lv_iconst (v := 1) hx hb dX11_isLost_29 (by decide) ?_
      refine lv_goto (tgt := 34) hx hb dX11_isLost_30 (by decide) ?_
      exact W.zret (v := 1) hx hb hr rfl (fun t ht hW => ⟨⟨1, M22, rfl, h, mAt_of ht hP⟩, hS.F ht⟩) hS.2.2 dX11_isLost_34
set_option maxHeartbeats 4000000 in
set_option maxRecDepth 100000 in
theorem kX11_told (l : Launch) (D : va_G) (cI cZ : ClassId) (ad : Nat → Nat) (hD : ∀ M : Mem, va_D (mA ad) (mW cI cZ ad M)) (M : Mem) (a1 a2 a3 : Int32) (Q : Int32 → Mem → Prop) (h : wX11_told M a1 a2 a3 Q) : Met l yX11_told uX11_told ({ frames := 2, cells := 0, slots := 0, locals := 46 }) (va_Pc [.ref (ad 0), .int a1, .int a2, .int a3] (mPre D cI cZ ad M)) (va_Qi Q (mAt D cI cZ ad) (mA ad)) 0 0 (mA ad) := by
  refine Met.ofW (cc := cX11_told) (maxL := 4) (ret := (some .int)) (by decide) rfl ?_
  intro p e s m args below meth c s₁ B hml hv
  obtain ⟨rfl, hP, hK⟩ := hv
  have hx := B.exec
  have hb := B.bytes
  have hr := B.returns
  have hts := atoms_spec (ws := uX11_told) B.pre
  have hown : s.vm.findClass RX11 = some m.cls := findClass_of_methodNamed B.named
  have hlocks := B.notSynchronized
  have hS : va_S (mA ad) s.heap s.heap [] := va_S.rf
  have k0 := hts (.fieldLink RX11 16 "TwoEyesModel" "shades" "[I") (List.mem_cons_of_mem _ (inA_6 _ (List.mem_of_getElem? (i := 20) rfl)))
  have inX11 : ∀ w ∈ wsX110, w ∈ uX11_told := fun w h => List.mem_cons_of_mem _ (inCX11 w h)
  have hl := lv_entry ([.ref (ad 0), .int a1, .int a2, .int a3]) (n := 4) (Nat.le_of_ble_eq_true rfl)
  rw [lg_entry_eq]
  generalize (lg_sl ([.ref (ad 0), .int a1, .int a2, .int a3]) ++ List.replicate (4 - (lg_sl ([.ref (ad 0), .int a1, .int a2, .int a3])).length) Slot.unset).toArray = ls at hl ⊢
  have hl : lv_has ls 4 [(0, .ref (ad 0)), (1, .int a1), (2, .int a2), (3, .int a3)] := hl
  refine lv_iload_n hx hb dX11_told_0 rfl (lv_at hl 1 rfl) ?_
  refine lv_iconst (v := 0) hx hb dX11_told_1 (by decide) ?_
  refine lv_iconst (v := 1) hx hb dX11_told_2 (by decide) ?_
  refine m_callSi (As := [.int a1, .int 0, .int 1]) (rest := []) ⟨hx, hb, hml, hown, hts⟩ (kX11_in l D cI cZ ad hD M a1 0 1 _ h) (va_cwS 3 hts (gdS uS (inA_9 _ (List.mem_of_getElem? (i := 4) rfl)) vX11_in) rfl rfl rfl (by decide +kernel) ⟨Nat.le_of_ble_eq_true rfl, Nat.le_of_ble_eq_true rfl⟩) hP hK hS hl.1 rfl rfl (Nat.le_of_ble_eq_true rfl) dX11_told_3 (fun r3 M3 H locs h hP hS => ?_)
  refine lv_if_eq (tgt := 18) hx hb dX11_told_6 (by decide) (fun q6 => ?_) (fun q6 => ?_)
  · have h := h.1 q6
    refine lv_iconst (v := (-1)) hx hb dX11_told_18 (by decide) ?_
    exact W.iret (v := (-1)) hx hb hr (fun t ht hW => ⟨⟨(-1), M3, rfl, h, mAt_of ht hP⟩, hS.F ht⟩) hS.2.2 dX11_told_19
  · have h := h.2 q6
    refine lv_aload_n hx hb dX11_told_9 rfl (lv_at hl 0 rfl) ?_
    refine lv_iload_n hx hb dX11_told_10 rfl (lv_at hl 2 rfl) ?_
    refine lv_iload_n hx hb dX11_told_11 rfl (lv_at hl 3 rfl) ?_
    refine m_callVi (As := [.int a2, .int a3]) (rest := []) ⟨hx, hb, hml, hown, hts⟩ (kX11_isSquare l D cI cZ ad hD M3 a2 a3 _ h) (cwV 2 hts (gdV uS (inA_13 _ (List.mem_of_getElem? (i := 11) rfl)) vX11_isSquare) rfl rfl rfl (by decide +kernel) ⟨Nat.le_of_ble_eq_true rfl, Nat.le_of_ble_eq_true rfl⟩) (va_recv hK hP (ci := 11) (q0 := 0) rfl (mW_0 cI cZ ad M3)) hP hK hS hl.1 rfl rfl (Nat.le_of_ble_eq_true rfl) dX11_told_12 (fun r12 M12 H locs h hP hS => ?_)
    refine lv_if_ne (tgt := 20) hx hb dX11_told_15 (by decide) (fun q15 => ?_) (fun q15 => ?_)
    · have h := h.1 q15
      refine lv_aload_n hx hb dX11_told_20 rfl (lv_at hl 0 rfl) ?_
      refine lv_iload_n hx hb dX11_told_21 rfl (lv_at hl 1 rfl) ?_
      refine lv_iload_n hx hb dX11_told_22 rfl (lv_at hl 2 rfl) ?_
      refine lv_iload_n hx hb dX11_told_23 rfl (lv_at hl 3 rfl) ?_
      refine m_callVi (As := [.int a1, .int a2, .int a3]) (rest := []) ⟨hx, hb, hml, hown, hts⟩ (kX11_isLost l D cI cZ ad hD M12 a1 a2 a3 _ h) (cwV 3 hts (gdV uS (inA_13 _ (List.mem_of_getElem? (i := 15) rfl)) vX11_isLost) rfl rfl rfl (by decide +kernel) ⟨Nat.le_of_ble_eq_true rfl, Nat.le_of_ble_eq_true rfl⟩) (va_recv hK hP (ci := 11) (q0 := 0) rfl (mW_0 cI cZ ad M12)) hP hK hS hl.1 rfl rfl (Nat.le_of_ble_eq_true rfl) dX11_told_24 (fun r24 M24 H locs h hP hS => ?_)
      refine lv_if_eq (tgt := 35) hx hb dX11_told_27 (by decide) (fun q27 => ?_) (fun q27 => ?_)
      · have h := h.1 q27
        refine lv_aload_n hx hb dX11_told_35 rfl (lv_at hl 0 rfl) ?_
        refine va_get (D := D) (ci := 11) (v := .ref (ad 1)) (C := RX11) (T := TX11) (N := 26) hx hb hts inX11 hown hK hP 0 (mW_0 cI cZ ad M24) rfl 2 (by decide) k0 (fun _ h9 => h9) rfl dX11_told_36 ?_
        refine lv_aload_n hx hb dX11_told_39 rfl (lv_at hl 0 rfl) ?_
        refine lv_iload_n hx hb dX11_told_40 rfl (lv_at hl 1 rfl) ?_
        refine lv_iload_n hx hb dX11_told_41 rfl (lv_at hl 2 rfl) ?_
        refine lv_iload_n hx hb dX11_told_42 rfl (lv_at hl 3 rfl) ?_
        refine m_callVi (As := [.int a1, .int a2, .int a3]) (rest := [.ref (ad 1)]) ⟨hx, hb, hml, hown, hts⟩ (kX11_at l D cI cZ ad hD M24 a1 a2 a3 _ h) (cwV 3 hts (gdV uS (inA_11 _ (List.mem_of_getElem? (i := 6) rfl)) vX11_at) rfl rfl rfl (by decide +kernel) ⟨Nat.le_of_ble_eq_true rfl, Nat.le_of_ble_eq_true rfl⟩) (va_recv hK hP (ci := 11) (q0 := 0) rfl (mW_0 cI cZ ad M24)) hP hK hS hl.1 rfl rfl (Nat.le_of_ble_eq_true rfl) dX11_told_43 (fun r43 M43 H locs h hP hS => ?_)
        obtain ⟨hi46, h⟩ := h
        refine va_iald hx hb hK hP 1 0 (mW_1 cI cZ ad M43) rfl hi46 dX11_told_46 ?_
        exact W.iret (v := (M43 1 (r43).toNatClampNeg)) hx hb hr (fun t ht hW => ⟨⟨(M43 1 (r43).toNatClampNeg), M43, rfl, h, mAt_of ht hP⟩, hS.F ht⟩) hS.2.2 dX11_told_47
      · have h := h.2 q27
        refine lv_bipush (v := (-5)) hx hb dX11_told_30 (by decide) ?_
        refine lv_goto (tgt := 47) hx hb dX11_told_32 (by decide) ?_
        exact W.iret (v := (-5)) hx hb hr (fun t ht hW => ⟨⟨(-5), M24, rfl, h, mAt_of ht hP⟩, hS.F ht⟩) hS.2.2 dX11_told_47
    · have h := h.2 q15
      refine lv_iconst (v := (-1)) hx hb dX11_told_18 (by decide) ?_
      exact W.iret (v := (-1)) hx hb hr (fun t ht hW => ⟨⟨(-1), M12, rfl, h, mAt_of ht hP⟩, hS.F ht⟩) hS.2.2 dX11_told_19
abbrev GX11_rule (p : Program) (l : Launch) (e : Env) (s : State) (m : MethodId) (below : List Frame) (meth : Method) (c : Code) (D : va_G) (cI cZ : ClassId) (ad : Nat → Nat) (a1 a2 : Int32) (Q : Int32 → Mem → Prop) (H : Heap) (locs : List Loc) (g : JFrame) : Prop := W p l e (headSpec uX11_rule { frames := 1, cells := 0, slots := 0, locals := 22 }).room s m ([.ref (ad 0), .int a1, .int a2] : List Value).toArray below meth c H locs 0 0 (MQ below (va_Qi Q (mAt D cI cZ ad) (mA ad)) ([.ref (ad 0), .int a1, .int a2] : List Value).toArray s 0 0 (mA ad)) g
set_option maxHeartbeats 4000000 in
set_option maxRecDepth 100000 in
theorem kX11_rule (l : Launch) (D : va_G) (cI cZ : ClassId) (ad : Nat → Nat) (hD : ∀ M : Mem, va_D (mA ad) (mW cI cZ ad M)) (M : Mem) (a1 a2 : Int32) (Q : Int32 → Mem → Prop) (h : wX11_rule M a1 a2 Q) : Met l yX11_rule uX11_rule ({ frames := 1, cells := 0, slots := 0, locals := 22 }) (va_Pc [.ref (ad 0), .int a1, .int a2] (mPre D cI cZ ad M)) (va_Qi Q (mAt D cI cZ ad) (mA ad)) 0 0 (mA ad) := by
  refine Met.ofW (cc := cX11_rule) (maxL := 5) (ret := (some .int)) (by decide) rfl ?_
  intro p e s m args below meth c s₁ B hml hv
  obtain ⟨rfl, hP, hK⟩ := hv
  have hx := B.exec
  have hb := B.bytes
  have hr := B.returns
  have hts := atoms_spec (ws := uX11_rule) B.pre
  have hown : s.vm.findClass RX11 = some m.cls := findClass_of_methodNamed B.named
  have hlocks := B.notSynchronized
  have hS : va_S (mA ad) s.heap s.heap [] := va_S.rf
  have k0 := hts (.fieldLink RX11 30 "TwoEyesModel" "rules" "[I") (List.mem_cons_of_mem _ (inA_7 _ (List.mem_of_getElem? (i := 0) rfl)))
  have inX11 : ∀ w ∈ wsX110, w ∈ uX11_rule := fun w h => List.mem_cons_of_mem _ (inCX11 w h)
  have k2 := hts (.fieldLink RX11 76 "TwoEyesModel" "isReckoned" "Z") (List.mem_cons_of_mem _ (inA_7 _ (List.mem_of_getElem? (i := 18) rfl)))
  have J43 : ∀ (x1 x2 t0 : Int32) (M : Mem) (H : Heap) (locs : List Loc) (ls : Array Slot), lv_has ls 5 [(0, .ref (ad 0)), (1, .int x1), (2, .int x2)] → va_P D vwCl (mW cI cZ ad M) H → va_S (mA ad) s.heap H locs → wX11_rule_J43 Q x1 x2 t0 M → GX11_rule p l e s m below meth c D cI cZ ad a1 a2 Q H locs (F0 m 43 ls [.int t0]) := by
    intro x1 x2 t0 M H locs ls hl hP hS h
    refine lv_istore_n (lv' := [(3, .int t0), (0, .ref (ad 0)), (1, .int x1), (2, .int x2)]) hx hb dX11_rule_43 rfl hl (by decide) rfl (fun ls hl => ?_)
    refine lv_iload_n hx hb dX11_rule_44 rfl (lv_at hl 3 rfl) ?_
    refine lv_iconst (v := 0) hx hb dX11_rule_45 (by decide) ?_
    refine lv_iload_n hx hb dX11_rule_46 rfl (lv_at hl 0 rfl) ?_
    refine m_callSi (As := [.int x2, .int 0, .int t0]) (rest := []) ⟨hx, hb, hml, hown, hts⟩ (kX11_in l D cI cZ ad hD M x2 0 t0 _ h) (va_cwS 3 hts (gdS uS (inA_9 _ (List.mem_of_getElem? (i := 4) rfl)) vX11_in) rfl rfl rfl (by decide +kernel) ⟨Nat.le_of_ble_eq_true rfl, Nat.le_of_ble_eq_true rfl⟩) hP hK hS hl.1 rfl rfl (Nat.le_of_ble_eq_true rfl) dX11_rule_47 (fun r47 M47 H locs h hP hS => ?_)
    refine lv_if_ne (tgt := 55) hx hb dX11_rule_50 (by decide) (fun q50 => ?_) (fun q50 => ?_)
    · have h := h.1 q50
      refine lv_aload_n hx hb dX11_rule_55 rfl (lv_at hl 1 rfl) ?_
      refine va_get (D := D) (ci := 11) (v := .ref (ad 5)) (C := RX11) (T := TX11) (N := 26) hx hb hts inX11 hown hK hP 0 (mW_0 cI cZ ad M47) rfl 6 (by decide) k0 (fun _ h9 => h9) rfl dX11_rule_56 ?_
      refine lv_iload_n hx hb dX11_rule_59 rfl (lv_at hl 2 rfl) ?_
      obtain ⟨hi60, h⟩ := h
      refine va_iald hx hb hK hP 5 0 (mW_5 cI cZ ad M47) rfl hi60 dX11_rule_60 ?_
      refine lv_topi (fun x4_61 ex4_61 => ?_)
      have h := h x4_61 ex4_61
      refine lv_istore (lv' := [(4, .int x4_61), (3, .int t0), (0, .ref (ad 0)), (1, .int x1), (2, .int x2)]) hx hb dX11_rule_61 hl (by decide) rfl (fun ls hl => ?_)
      refine lv_aload_n hx hb dX11_rule_63 rfl (lv_at hl 2 rfl) ?_
      refine va_get (D := D) (ci := 11) (v := .ref (ad 5)) (C := RX11) (T := TX11) (N := 26) hx hb hts inX11 hown hK hP 0 (mW_0 cI cZ ad M47) rfl 6 (by decide) k0 (fun _ h9 => h9) rfl dX11_rule_64 ?_
      refine lv_iload_n hx hb dX11_rule_67 rfl (lv_at hl 3 rfl) ?_
      refine lv_iload_n hx hb dX11_rule_68 rfl (lv_at hl 4 rfl) ?_
      obtain ⟨hi69, h⟩ := h
      refine va_iast hx hb hK hP (hD M47) hS 5 0 (mW_5 cI cZ ad M47) rfl hi69 dX11_rule_69 (fun H locs hP _ hS => ?_)
      refine mQ_5 hP (fun M69 eM69 hP => ?_)
      have h := h M69 eM69
      refine lv_aload_n hx hb dX11_rule_70 rfl (lv_at hl 2 rfl) ?_
      refine lv_iconst (v := 0) hx hb dX11_rule_71 (by decide) ?_
      refine va_put (D := D) (ci := 11) (v := .int 0) (ty := .boolean) (C := RX11) (T := TX11) (N := 26) hx hb hts inX11 tyX11 tyX11_ok nmX11 hown hK hP (hD M69) hS 0 (mW_0 cI cZ ad M69) rfl 15 (by decide) k2 (fun _ h9 => h9) rfl (by decide +kernel) rfl rfl (Nat.le_of_ble_eq_true rfl) dX11_rule_72 (fun H locs hP _ hS => ?_)
      refine mP_0_15 hP (fun M72 eM72 hP => ?_)
      have h := h M72 eM72
      refine lv_iload hx hb dX11_rule_75 (lv_at hl 0 rfl) ?_
      exact W.iret (v := x4_61) hx hb hr (fun t ht hW => ⟨⟨x4_61, M72, rfl, h, mAt_of ht hP⟩, hS.F ht⟩) hS.2.2 dX11_rule_77
    · have h := h.2 q50
      refine lv_iconst (v := (-1)) hx hb dX11_rule_53 (by decide) ?_
      exact W.iret (v := (-1)) hx hb hr (fun t ht hW => ⟨⟨(-1), M47, rfl, h, mAt_of ht hP⟩, hS.F ht⟩) hS.2.2 dX11_rule_54
  have hl := lv_entry ([.ref (ad 0), .int a1, .int a2]) (n := 5) (Nat.le_of_ble_eq_true rfl)
  rw [lg_entry_eq]
  generalize (lg_sl ([.ref (ad 0), .int a1, .int a2]) ++ List.replicate (5 - (lg_sl ([.ref (ad 0), .int a1, .int a2])).length) Slot.unset).toArray = ls at hl ⊢
  have hl : lv_has ls 5 [(0, .ref (ad 0)), (1, .int a1), (2, .int a2)] := hl
  refine lv_iload_n hx hb dX11_rule_0 rfl (lv_at hl 1 rfl) ?_
  refine lv_iconst (v := 0) hx hb dX11_rule_1 (by decide) ?_
  refine lv_iconst (v := 4) hx hb dX11_rule_2 (by decide) ?_
  refine m_callSi (As := [.int a1, .int 0, .int 4]) (rest := []) ⟨hx, hb, hml, hown, hts⟩ (kX11_in l D cI cZ ad hD M a1 0 4 _ h) (va_cwS 3 hts (gdS uS (inA_9 _ (List.mem_of_getElem? (i := 4) rfl)) vX11_in) rfl rfl rfl (by decide +kernel) ⟨Nat.le_of_ble_eq_true rfl, Nat.le_of_ble_eq_true rfl⟩) hP hK hS hl.1 rfl rfl (Nat.le_of_ble_eq_true rfl) dX11_rule_3 (fun r3 M3 H locs h hP hS => ?_)
  refine lv_if_ne (tgt := 11) hx hb dX11_rule_6 (by decide) (fun q6 => ?_) (fun q6 => ?_)
  · have h := h.1 q6
    refine lv_iload_n hx hb dX11_rule_11 rfl (lv_at hl 1 rfl) ?_
    refine lv_if_ne (tgt := 20) hx hb dX11_rule_12 (by decide) (fun q12 => ?_) (fun q12 => ?_)
    · have h := h.1 q12
      refine lv_iload_n hx hb dX11_rule_20 rfl (lv_at hl 1 rfl) ?_
      refine lv_iconst (v := 3) hx hb dX11_rule_21 (by decide) ?_
      refine lv_icmp_ge (tgt := 30) hx hb dX11_rule_22 (by decide) (fun q22 => ?_) (fun q22 => ?_)
      · have h := h.1 q22
        refine lv_iload_n hx hb dX11_rule_30 rfl (lv_at hl 1 rfl) ?_
        refine lv_iconst (v := 3) hx hb dX11_rule_31 (by decide) ?_
        refine lv_icmp_ne (tgt := 40) hx hb dX11_rule_32 (by decide) (fun q32 => ?_) (fun q32 => ?_)
        · have h := h.1 q32
          refine lv_sipush (v := 255) hx hb dX11_rule_40 (by decide) ?_
          exact J43 a1 a2 255 M3 _ _ _ (lv_sub hl [0, 1, 2] rfl) hP hS h
        · have h := h.2 q32
          refine lv_bipush (v := 40) hx hb dX11_rule_35 (by decide) ?_
          refine lv_goto (tgt := 43) hx hb dX11_rule_37 (by decide) ?_
          exact J43 a1 a2 40 M3 _ _ _ (lv_sub hl [0, 1, 2] rfl) hP hS h
      · have h := h.2 q22
        refine lv_bipush (v := 20) hx hb dX11_rule_25 (by decide) ?_
        refine lv_goto (tgt := 43) hx hb dX11_rule_27 (by decide) ?_
        exact J43 a1 a2 20 M3 _ _ _ (lv_sub hl [0, 1, 2] rfl) hP hS h
    · have h := h.2 q12
      refine lv_bipush (v := 8) hx hb dX11_rule_15 (by decide) ?_
      refine lv_goto (tgt := 43) hx hb dX11_rule_17 (by decide) ?_
      exact J43 a1 a2 8 M3 _ _ _ (lv_sub hl [0, 1, 2] rfl) hP hS h
  · have h := h.2 q6
    refine lv_iconst (v := (-1)) hx hb dX11_rule_9 (by decide) ?_
    exact W.iret (v := (-1)) hx hb hr (fun t ht hW => ⟨⟨(-1), M3, rfl, h, mAt_of ht hP⟩, hS.F ht⟩) hS.2.2 dX11_rule_10
set_option maxHeartbeats 4000000 in
set_option maxRecDepth 100000 in
theorem kX11_voteAt (l : Launch) (D : va_G) (cI cZ : ClassId) (ad : Nat → Nat) (hD : ∀ M : Mem, va_D (mA ad) (mW cI cZ ad M)) (M : Mem) (a1 a2 a3 : Int32) (Q : Int32 → Mem → Prop) (h : wX11_voteAt M a1 a2 a3 Q) : Met l yX11_voteAt uX11_voteAt ({ frames := 2, cells := 0, slots := 0, locals := 46 }) (va_Pc [.ref (ad 0), .int a1, .int a2, .int a3] (mPre D cI cZ ad M)) (va_Qi Q (mAt D cI cZ ad) (mA ad)) 0 0 (mA ad) := by
  refine Met.ofW (cc := cX11_voteAt) (maxL := 4) (ret := (some .int)) (by decide) rfl ?_
  intro p e s m args below meth c s₁ B hml hv
  obtain ⟨rfl, hP, hK⟩ := hv
  have hx := B.exec
  have hb := B.bytes
  have hr := B.returns
  have hts := atoms_spec (ws := uX11_voteAt) B.pre
  have hown : s.vm.findClass RX11 = some m.cls := findClass_of_methodNamed B.named
  have hlocks := B.notSynchronized
  have hS : va_S (mA ad) s.heap s.heap [] := va_S.rf
  have k0 := hts (.fieldLink RX11 48 "TwoEyesModel" "costs" "[I") (List.mem_cons_of_mem _ (inA_7 _ (List.mem_of_getElem? (i := 6) rfl)))
  have inX11 : ∀ w ∈ wsX110, w ∈ uX11_voteAt := fun w h => List.mem_cons_of_mem _ (inCX11 w h)
  have k2 := hts (.fieldLink RX11 7 "TwoEyesModel" "width" "I") (List.mem_cons_of_mem _ (inA_6 _ (List.mem_of_getElem? (i := 18) rfl)))
  have hl := lv_entry ([.ref (ad 0), .int a1, .int a2, .int a3]) (n := 4) (Nat.le_of_ble_eq_true rfl)
  rw [lg_entry_eq]
  generalize (lg_sl ([.ref (ad 0), .int a1, .int a2, .int a3]) ++ List.replicate (4 - (lg_sl ([.ref (ad 0), .int a1, .int a2, .int a3])).length) Slot.unset).toArray = ls at hl ⊢
  have hl : lv_has ls 4 [(0, .ref (ad 0)), (1, .int a1), (2, .int a2), (3, .int a3)] := hl
  refine lv_aload_n hx hb dX11_voteAt_0 rfl (lv_at hl 0 rfl) ?_
  refine lv_iconst (v := 0) hx hb dX11_voteAt_1 (by decide) ?_
  refine lv_iload_n hx hb dX11_voteAt_2 rfl (lv_at hl 1 rfl) ?_
  refine lv_iload_n hx hb dX11_voteAt_3 rfl (lv_at hl 2 rfl) ?_
  refine m_callVi (As := [.int 0, .int a1, .int a2]) (rest := []) ⟨hx, hb, hml, hown, hts⟩ (kX11_isLost l D cI cZ ad hD M 0 a1 a2 _ h) (cwV 3 hts (gdV uS (inA_13 _ (List.mem_of_getElem? (i := 15) rfl)) vX11_isLost) rfl rfl rfl (by decide +kernel) ⟨Nat.le_of_ble_eq_true rfl, Nat.le_of_ble_eq_true rfl⟩) (va_recv hK hP (ci := 11) (q0 := 0) rfl (mW_0 cI cZ ad M)) hP hK hS hl.1 rfl rfl (Nat.le_of_ble_eq_true rfl) dX11_voteAt_4 (fun r4 M4 H locs h hP hS => ?_)
  refine lv_if_eq (tgt := 12) hx hb dX11_voteAt_7 (by decide) (fun q7 => ?_) (fun q7 => ?_)
  · have h := h.1 q7
    refine lv_iload_n hx hb dX11_voteAt_12 rfl (lv_at hl 1 rfl) ?_
    refine lv_iload_n hx hb dX11_voteAt_13 rfl (lv_at hl 3 rfl) ?_
    refine lv_icmp_ge (tgt := 20) hx hb dX11_voteAt_14 (by decide) (fun q14 => ?_) (fun q14 => ?_)
    · have h := h.1 q14
      refine lv_aload_n hx hb dX11_voteAt_20 rfl (lv_at hl 0 rfl) ?_
      refine lv_iconst (v := 1) hx hb dX11_voteAt_21 (by decide) ?_
      refine lv_iload_n hx hb dX11_voteAt_22 rfl (lv_at hl 1 rfl) ?_
      refine lv_iload_n hx hb dX11_voteAt_23 rfl (lv_at hl 3 rfl) ?_
      refine lv_isub hx hb dX11_voteAt_24 ?_
      refine lv_iload_n hx hb dX11_voteAt_25 rfl (lv_at hl 2 rfl) ?_
      refine m_callVi (As := [.int 1, .int (a1 - a3), .int a2]) (rest := []) ⟨hx, hb, hml, hown, hts⟩ (kX11_isLost l D cI cZ ad hD M4 1 (a1 - a3) a2 _ h) (cwV 3 hts (gdV uS (inA_13 _ (List.mem_of_getElem? (i := 15) rfl)) vX11_isLost) rfl rfl rfl (by decide +kernel) ⟨Nat.le_of_ble_eq_true rfl, Nat.le_of_ble_eq_true rfl⟩) (va_recv hK hP (ci := 11) (q0 := 0) rfl (mW_0 cI cZ ad M4)) hP hK hS hl.1 rfl rfl (Nat.le_of_ble_eq_true rfl) dX11_voteAt_26 (fun r26 M26 H locs h hP hS => ?_)
      refine lv_if_eq (tgt := 36) hx hb dX11_voteAt_29 (by decide) (fun q29 => ?_) (fun q29 => ?_)
      · have h := h.1 q29
        refine lv_aload_n hx hb dX11_voteAt_36 rfl (lv_at hl 0 rfl) ?_
        refine va_get (D := D) (ci := 11) (v := .ref (ad 11)) (C := RX11) (T := TX11) (N := 26) hx hb hts inX11 hown hK hP 0 (mW_0 cI cZ ad M26) rfl 16 (by decide) k0 (fun _ h9 => h9) rfl dX11_voteAt_37 ?_
        refine lv_bipush (v := 9) hx hb dX11_voteAt_40 (by decide) ?_
        refine lv_aload_n hx hb dX11_voteAt_42 rfl (lv_at hl 0 rfl) ?_
        refine va_get (D := D) (ci := 11) (v := .int (M26 0 0)) (C := RX11) (T := TX11) (N := 26) hx hb hts inX11 hown hK hP 0 (mW_0 cI cZ ad M26) rfl 0 (by decide) k2 (fun _ h9 => h9) rfl dX11_voteAt_43 ?_
        refine lv_iload_n hx hb dX11_voteAt_46 rfl (lv_at hl 2 rfl) ?_
        refine lv_imul hx hb dX11_voteAt_47 ?_
        refine lv_iload_n hx hb dX11_voteAt_48 rfl (lv_at hl 1 rfl) ?_
        refine lv_iadd hx hb dX11_voteAt_49 ?_
        refine lv_imul hx hb dX11_voteAt_50 ?_
        refine lv_iload_n hx hb dX11_voteAt_51 rfl (lv_at hl 3 rfl) ?_
        refine lv_iadd hx hb dX11_voteAt_52 ?_
        obtain ⟨hi53, h⟩ := h
        refine va_iald hx hb hK hP 11 0 (mW_11 cI cZ ad M26) rfl hi53 dX11_voteAt_53 ?_
        exact W.iret (v := (M26 11 ((9 * (((M26 0 0) * a2) + a1)) + a3).toNatClampNeg)) hx hb hr (fun t ht hW => ⟨⟨(M26 11 ((9 * (((M26 0 0) * a2) + a1)) + a3).toNatClampNeg), M26, rfl, h, mAt_of ht hP⟩, hS.F ht⟩) hS.2.2 dX11_voteAt_54
      · have h := h.2 q29
        refine lv_iconst (v := 0) hx hb dX11_voteAt_32 (by decide) ?_
        refine lv_goto (tgt := 54) hx hb dX11_voteAt_33 (by decide) ?_
        exact W.iret (v := 0) hx hb hr (fun t ht hW => ⟨⟨0, M26, rfl, h, mAt_of ht hP⟩, hS.F ht⟩) hS.2.2 dX11_voteAt_54
    · have h := h.2 q14
      refine lv_bipush (v := 8) hx hb dX11_voteAt_17 (by decide) ?_
      exact W.iret (v := 8) hx hb hr (fun t ht hW => ⟨⟨8, M4, rfl, h, mAt_of ht hP⟩, hS.F ht⟩) hS.2.2 dX11_voteAt_19
  · have h := h.2 q7
    refine lv_iconst (v := 0) hx hb dX11_voteAt_10 (by decide) ?_
    exact W.iret (v := 0) hx hb hr (fun t ht hW => ⟨⟨0, M4, rfl, h, mAt_of ht hP⟩, hS.F ht⟩) hS.2.2 dX11_voteAt_11
abbrev GX11_goesOn (p : Program) (l : Launch) (e : Env) (s : State) (m : MethodId) (below : List Frame) (meth : Method) (c : Code) (D : va_G) (cI cZ : ClassId) (ad : Nat → Nat) (a1 a2 a3 : Int32) (Q : Int32 → Mem → Prop) (H : Heap) (locs : List Loc) (g : JFrame) : Prop := W p l e (headSpec uX11_goesOn { frames := 0, cells := 0, slots := 0, locals := 0 }).room s m ([.ref (ad 0), .int a1, .int a2, .int a3] : List Value).toArray below meth c H locs 0 0 (MQ below (va_Qi Q (mAt D cI cZ ad) (mA ad)) ([.ref (ad 0), .int a1, .int a2, .int a3] : List Value).toArray s 0 0 (mA ad)) g
set_option maxHeartbeats 4000000 in
set_option maxRecDepth 100000 in
theorem kX11_goesOn (l : Launch) (D : va_G) (cI cZ : ClassId) (ad : Nat → Nat) (hD : ∀ M : Mem, va_D (mA ad) (mW cI cZ ad M)) (M : Mem) (a1 a2 a3 : Int32) (Q : Int32 → Mem → Prop) (h : wX11_goesOn M a1 a2 a3 Q) : Met l yX11_goesOn uX11_goesOn ({ frames := 0, cells := 0, slots := 0, locals := 0 }) (va_Pc [.ref (ad 0), .int a1, .int a2, .int a3] (mPre D cI cZ ad M)) (va_Qi Q (mAt D cI cZ ad) (mA ad)) 0 0 (mA ad) := by
  refine Met.ofW (cc := cX11_goesOn) (maxL := 6) (ret := (some .int)) (by decide) rfl ?_
  intro p e s m args below meth c s₁ B hml hv
  obtain ⟨rfl, hP, hK⟩ := hv
  have hx := B.exec
  have hb := B.bytes
  have hr := B.returns
  have hts := atoms_spec (ws := uX11_goesOn) B.pre
  have hown : s.vm.findClass RX11 = some m.cls := findClass_of_methodNamed B.named
  have hlocks := B.notSynchronized
  have hS : va_S (mA ad) s.heap s.heap [] := va_S.rf
  have k0 := hts (.fieldLink RX11 30 "TwoEyesModel" "rules" "[I") (List.mem_cons_of_mem _ (inA_7 _ (List.mem_of_getElem? (i := 0) rfl)))
  have inX11 : ∀ w ∈ wsX110, w ∈ uX11_goesOn := fun w h => List.mem_cons_of_mem _ (inCX11 w h)
  have k2 := hts (.fieldLink RX11 51 "TwoEyesModel" "runs" "[I") (List.mem_cons_of_mem _ (inA_7 _ (List.mem_of_getElem? (i := 7) rfl)))
  have J118 : ∀ (x3 t0 : Int32) (M : Mem) (H : Heap) (locs : List Loc) (ls : Array Slot), lv_has ls 6 [(0, .ref (ad 0)), (3, .int x3)] → va_P D vwCl (mW cI cZ ad M) H → va_S (mA ad) s.heap H locs → wX11_goesOn_J118 Q x3 t0 M → GX11_goesOn p l e s m below meth c D cI cZ ad a1 a2 a3 Q H locs (F0 m 118 ls [.int t0]) := by
    intro x3 t0 M H locs ls hl hP hS h
    refine lv_istore (lv' := [(5, .int t0), (0, .ref (ad 0)), (3, .int x3)]) hx hb dX11_goesOn_118 hl (by decide) rfl (fun ls hl => ?_)
    refine lv_iload_n hx hb dX11_goesOn_120 rfl (lv_at hl 2 rfl) ?_
    refine lv_aload_n hx hb dX11_goesOn_121 rfl (lv_at hl 1 rfl) ?_
    refine va_get (D := D) (ci := 11) (v := .ref (ad 5)) (C := RX11) (T := TX11) (N := 26) hx hb hts inX11 hown hK hP 0 (mW_0 cI cZ ad M) rfl 6 (by decide) k0 (fun _ h9 => h9) rfl dX11_goesOn_122 ?_
    refine lv_iconst (v := 3) hx hb dX11_goesOn_125 (by decide) ?_
    obtain ⟨hi126, h⟩ := h
    refine va_iald hx hb hK hP 5 0 (mW_5 cI cZ ad M) rfl hi126 dX11_goesOn_126 ?_
    refine lv_iadd hx hb dX11_goesOn_127 ?_
    refine lv_iload hx hb dX11_goesOn_128 (lv_at hl 0 rfl) ?_
    refine lv_icmp_ge (tgt := 144) hx hb dX11_goesOn_130 (by decide) (fun q130 => ?_) (fun q130 => ?_)
    · have h := h.1 q130
      refine lv_iload hx hb dX11_goesOn_144 (lv_at hl 0 rfl) ?_
      exact W.iret (v := t0) hx hb hr (fun t ht hW => ⟨⟨t0, M, rfl, h, mAt_of ht hP⟩, hS.F ht⟩) hS.2.2 dX11_goesOn_146
    · have h := h.2 q130
      refine lv_iload_n hx hb dX11_goesOn_133 rfl (lv_at hl 2 rfl) ?_
      refine lv_aload_n hx hb dX11_goesOn_134 rfl (lv_at hl 1 rfl) ?_
      refine va_get (D := D) (ci := 11) (v := .ref (ad 5)) (C := RX11) (T := TX11) (N := 26) hx hb hts inX11 hown hK hP 0 (mW_0 cI cZ ad M) rfl 6 (by decide) k0 (fun _ h9 => h9) rfl dX11_goesOn_135 ?_
      refine lv_iconst (v := 3) hx hb dX11_goesOn_138 (by decide) ?_
      obtain ⟨hi139, h⟩ := h
      refine va_iald hx hb hK hP 5 0 (mW_5 cI cZ ad M) rfl hi139 dX11_goesOn_139 ?_
      refine lv_iadd hx hb dX11_goesOn_140 ?_
      refine lv_goto (tgt := 146) hx hb dX11_goesOn_141 (by decide) ?_
      exact W.iret (v := (x3 + (M 5 (3 : Int32).toNatClampNeg))) hx hb hr (fun t ht hW => ⟨⟨(x3 + (M 5 (3 : Int32).toNatClampNeg)), M, rfl, h, mAt_of ht hP⟩, hS.F ht⟩) hS.2.2 dX11_goesOn_146
  have J116 : ∀ (x3 x5 : Int32) (M : Mem) (H : Heap) (locs : List Loc) (ls : Array Slot), lv_has ls 6 [(0, .ref (ad 0)), (3, .int x3), (5, .int x5)] → va_P D vwCl (mW cI cZ ad M) H → va_S (mA ad) s.heap H locs → wX11_goesOn_J116 Q x3 x5 M → GX11_goesOn p l e s m below meth c D cI cZ ad a1 a2 a3 Q H locs (F0 m 116 ls []) := by
    intro x3 x5 M H locs ls hl hP hS h
    refine lv_iload hx hb dX11_goesOn_116 (lv_at hl 2 rfl) ?_
    exact J118 x3 x5 M _ _ _ (lv_sub hl [0, 1] rfl) hP hS h
  have J62 : ∀ (x1 x2 x3 t0 : Int32) (M : Mem) (H : Heap) (locs : List Loc) (ls : Array Slot), lv_has ls 6 [(0, .ref (ad 0)), (1, .int x1), (2, .int x2), (3, .int x3)] → va_P D vwCl (mW cI cZ ad M) H → va_S (mA ad) s.heap H locs → wX11_goesOn_J62 Q x1 x2 x3 t0 M → GX11_goesOn p l e s m below meth c D cI cZ ad a1 a2 a3 Q H locs (F0 m 62 ls [.int t0]) := by
    intro x1 x2 x3 t0 M H locs ls hl hP hS h
    refine lv_istore (lv' := [(5, .int t0), (0, .ref (ad 0)), (1, .int x1), (2, .int x2), (3, .int x3)]) hx hb dX11_goesOn_62 hl (by decide) rfl (fun ls hl => ?_)
    refine lv_iload_n hx hb dX11_goesOn_64 rfl (lv_at hl 3 rfl) ?_
    refine lv_aload_n hx hb dX11_goesOn_65 rfl (lv_at hl 1 rfl) ?_
    refine va_get (D := D) (ci := 11) (v := .ref (ad 5)) (C := RX11) (T := TX11) (N := 26) hx hb hts inX11 hown hK hP 0 (mW_0 cI cZ ad M) rfl 6 (by decide) k0 (fun _ h9 => h9) rfl dX11_goesOn_66 ?_
    refine lv_iconst (v := 0) hx hb dX11_goesOn_69 (by decide) ?_
    obtain ⟨hi70, h⟩ := h
    refine va_iald hx hb hK hP 5 0 (mW_5 cI cZ ad M) rfl hi70 dX11_goesOn_70 ?_
    refine lv_icmp_ge (tgt := 116) hx hb dX11_goesOn_71 (by decide) (fun q71 => ?_) (fun q71 => ?_)
    · have h := h.1 q71
      exact J116 x3 t0 M _ _ _ (lv_sub hl [1, 4, 0] rfl) hP hS h
    · have h := h.2 q71
      refine lv_aload_n hx hb dX11_goesOn_74 rfl (lv_at hl 1 rfl) ?_
      refine va_get (D := D) (ci := 11) (v := .ref (ad 12)) (C := RX11) (T := TX11) (N := 26) hx hb hts inX11 hown hK hP 0 (mW_0 cI cZ ad M) rfl 17 (by decide) k2 (fun _ h9 => h9) rfl dX11_goesOn_75 ?_
      refine lv_iload_n hx hb dX11_goesOn_78 rfl (lv_at hl 2 rfl) ?_
      refine lv_iload_n hx hb dX11_goesOn_79 rfl (lv_at hl 3 rfl) ?_
      refine lv_iadd hx hb dX11_goesOn_80 ?_
      refine lv_iconst (v := 1) hx hb dX11_goesOn_81 (by decide) ?_
      refine lv_iadd hx hb dX11_goesOn_82 ?_
      obtain ⟨hi83, h⟩ := h
      refine va_iald hx hb hK hP 12 0 (mW_12 cI cZ ad M) rfl hi83 dX11_goesOn_83 ?_
      refine lv_aload_n hx hb dX11_goesOn_84 rfl (lv_at hl 1 rfl) ?_
      refine va_get (D := D) (ci := 11) (v := .ref (ad 5)) (C := RX11) (T := TX11) (N := 26) hx hb hts inX11 hown hK hP 0 (mW_0 cI cZ ad M) rfl 6 (by decide) k0 (fun _ h9 => h9) rfl dX11_goesOn_85 ?_
      refine lv_iconst (v := 2) hx hb dX11_goesOn_88 (by decide) ?_
      obtain ⟨hi89, h⟩ := h
      refine va_iald hx hb hK hP 5 0 (mW_5 cI cZ ad M) rfl hi89 dX11_goesOn_89 ?_
      refine lv_iadd hx hb dX11_goesOn_90 ?_
      refine lv_iload hx hb dX11_goesOn_91 (lv_at hl 0 rfl) ?_
      refine lv_icmp_ge (tgt := 116) hx hb dX11_goesOn_93 (by decide) (fun q93 => ?_) (fun q93 => ?_)
      · have h := h.1 q93
        exact J116 x3 t0 M _ _ _ (lv_sub hl [1, 4, 0] rfl) hP hS h
      · have h := h.2 q93
        refine lv_aload_n hx hb dX11_goesOn_96 rfl (lv_at hl 1 rfl) ?_
        refine va_get (D := D) (ci := 11) (v := .ref (ad 12)) (C := RX11) (T := TX11) (N := 26) hx hb hts inX11 hown hK hP 0 (mW_0 cI cZ ad M) rfl 17 (by decide) k2 (fun _ h9 => h9) rfl dX11_goesOn_97 ?_
        refine lv_iload_n hx hb dX11_goesOn_100 rfl (lv_at hl 2 rfl) ?_
        refine lv_iload_n hx hb dX11_goesOn_101 rfl (lv_at hl 3 rfl) ?_
        refine lv_iadd hx hb dX11_goesOn_102 ?_
        refine lv_iconst (v := 1) hx hb dX11_goesOn_103 (by decide) ?_
        refine lv_iadd hx hb dX11_goesOn_104 ?_
        obtain ⟨hi105, h⟩ := h
        refine va_iald hx hb hK hP 12 0 (mW_12 cI cZ ad M) rfl hi105 dX11_goesOn_105 ?_
        refine lv_aload_n hx hb dX11_goesOn_106 rfl (lv_at hl 1 rfl) ?_
        refine va_get (D := D) (ci := 11) (v := .ref (ad 5)) (C := RX11) (T := TX11) (N := 26) hx hb hts inX11 hown hK hP 0 (mW_0 cI cZ ad M) rfl 6 (by decide) k0 (fun _ h9 => h9) rfl dX11_goesOn_107 ?_
        refine lv_iconst (v := 2) hx hb dX11_goesOn_110 (by decide) ?_
        obtain ⟨hi111, h⟩ := h
        refine va_iald hx hb hK hP 5 0 (mW_5 cI cZ ad M) rfl hi111 dX11_goesOn_111 ?_
        refine lv_iadd hx hb dX11_goesOn_112 ?_
        refine lv_goto (tgt := 118) hx hb dX11_goesOn_113 (by decide) ?_
        exact J118 x3 ((M 12 ((x1 + x2) + 1).toNatClampNeg) + (M 5 (2 : Int32).toNatClampNeg)) M _ _ _ (lv_sub hl [1, 4] rfl) hP hS h
  have J60 : ∀ (x1 x2 x3 x5 : Int32) (M : Mem) (H : Heap) (locs : List Loc) (ls : Array Slot), lv_has ls 6 [(0, .ref (ad 0)), (1, .int x1), (2, .int x2), (3, .int x3), (5, .int x5)] → va_P D vwCl (mW cI cZ ad M) H → va_S (mA ad) s.heap H locs → wX11_goesOn_J60 Q x1 x2 x3 x5 M → GX11_goesOn p l e s m below meth c D cI cZ ad a1 a2 a3 Q H locs (F0 m 60 ls []) := by
    intro x1 x2 x3 x5 M H locs ls hl hP hS h
    refine lv_iload hx hb dX11_goesOn_60 (lv_at hl 4 rfl) ?_
    exact J62 x1 x2 x3 x5 M _ _ _ (lv_sub hl [0, 1, 2, 3] rfl) hP hS h
  have hl := lv_entry ([.ref (ad 0), .int a1, .int a2, .int a3]) (n := 6) (Nat.le_of_ble_eq_true rfl)
  rw [lg_entry_eq]
  generalize (lg_sl ([.ref (ad 0), .int a1, .int a2, .int a3]) ++ List.replicate (6 - (lg_sl ([.ref (ad 0), .int a1, .int a2, .int a3])).length) Slot.unset).toArray = ls at hl ⊢
  have hl : lv_has ls 6 [(0, .ref (ad 0)), (1, .int a1), (2, .int a2), (3, .int a3)] := hl
  refine lv_aload_n hx hb dX11_goesOn_0 rfl (lv_at hl 0 rfl) ?_
  refine va_get (D := D) (ci := 11) (v := .ref (ad 12)) (C := RX11) (T := TX11) (N := 26) hx hb hts inX11 hown hK hP 0 (mW_0 cI cZ ad M) rfl 17 (by decide) k2 (fun _ h9 => h9) rfl dX11_goesOn_1 ?_
  refine lv_iload_n hx hb dX11_goesOn_4 rfl (lv_at hl 1 rfl) ?_
  refine lv_iload_n hx hb dX11_goesOn_5 rfl (lv_at hl 2 rfl) ?_
  refine lv_iadd hx hb dX11_goesOn_6 ?_
  obtain ⟨hi7, h⟩ := h
  refine va_iald hx hb hK hP 12 0 (mW_12 cI cZ ad M) rfl hi7 dX11_goesOn_7 ?_
  refine lv_topi (fun x4_8 ex4_8 => ?_)
  have h := h x4_8 ex4_8
  refine lv_istore (lv' := [(4, .int x4_8), (0, .ref (ad 0)), (1, .int a1), (2, .int a2), (3, .int a3)]) hx hb dX11_goesOn_8 hl (by decide) rfl (fun ls hl => ?_)
  refine lv_iload hx hb dX11_goesOn_10 (lv_at hl 0 rfl) ?_
  refine lv_istore (lv' := [(5, .int x4_8), (4, .int x4_8), (0, .ref (ad 0)), (1, .int a1), (2, .int a2), (3, .int a3)]) hx hb dX11_goesOn_12 hl (by decide) rfl (fun ls hl => ?_)
  refine lv_iload_n hx hb dX11_goesOn_14 rfl (lv_at hl 4 rfl) ?_
  refine lv_if_le (tgt := 60) hx hb dX11_goesOn_15 (by decide) (fun q15 => ?_) (fun q15 => ?_)
  · have h := h.1 q15
    exact J60 a1 a2 a3 x4_8 M _ _ _ (lv_sub hl [2, 3, 4, 5, 0] rfl) hP hS h
  · have h := h.2 q15
    refine lv_aload_n hx hb dX11_goesOn_18 rfl (lv_at hl 2 rfl) ?_
    refine va_get (D := D) (ci := 11) (v := .ref (ad 12)) (C := RX11) (T := TX11) (N := 26) hx hb hts inX11 hown hK hP 0 (mW_0 cI cZ ad M) rfl 17 (by decide) k2 (fun _ h9 => h9) rfl dX11_goesOn_19 ?_
    refine lv_iload_n hx hb dX11_goesOn_22 rfl (lv_at hl 3 rfl) ?_
    refine lv_iload_n hx hb dX11_goesOn_23 rfl (lv_at hl 4 rfl) ?_
    refine lv_iadd hx hb dX11_goesOn_24 ?_
    refine lv_iconst (v := 1) hx hb dX11_goesOn_25 (by decide) ?_
    refine lv_isub hx hb dX11_goesOn_26 ?_
    obtain ⟨hi27, h⟩ := h
    refine va_iald hx hb hK hP 12 0 (mW_12 cI cZ ad M) rfl hi27 dX11_goesOn_27 ?_
    refine lv_aload_n hx hb dX11_goesOn_28 rfl (lv_at hl 2 rfl) ?_
    refine va_get (D := D) (ci := 11) (v := .ref (ad 5)) (C := RX11) (T := TX11) (N := 26) hx hb hts inX11 hown hK hP 0 (mW_0 cI cZ ad M) rfl 6 (by decide) k0 (fun _ h9 => h9) rfl dX11_goesOn_29 ?_
    refine lv_iconst (v := 2) hx hb dX11_goesOn_32 (by decide) ?_
    obtain ⟨hi33, h⟩ := h
    refine va_iald hx hb hK hP 5 0 (mW_5 cI cZ ad M) rfl hi33 dX11_goesOn_33 ?_
    refine lv_iadd hx hb dX11_goesOn_34 ?_
    refine lv_iload hx hb dX11_goesOn_35 (lv_at hl 0 rfl) ?_
    refine lv_icmp_ge (tgt := 60) hx hb dX11_goesOn_37 (by decide) (fun q37 => ?_) (fun q37 => ?_)
    · have h := h.1 q37
      exact J60 a1 a2 a3 x4_8 M _ _ _ (lv_sub hl [2, 3, 4, 5, 0] rfl) hP hS h
    · have h := h.2 q37
      refine lv_aload_n hx hb dX11_goesOn_40 rfl (lv_at hl 2 rfl) ?_
      refine va_get (D := D) (ci := 11) (v := .ref (ad 12)) (C := RX11) (T := TX11) (N := 26) hx hb hts inX11 hown hK hP 0 (mW_0 cI cZ ad M) rfl 17 (by decide) k2 (fun _ h9 => h9) rfl dX11_goesOn_41 ?_
      refine lv_iload_n hx hb dX11_goesOn_44 rfl (lv_at hl 3 rfl) ?_
      refine lv_iload_n hx hb dX11_goesOn_45 rfl (lv_at hl 4 rfl) ?_
      refine lv_iadd hx hb dX11_goesOn_46 ?_
      refine lv_iconst (v := 1) hx hb dX11_goesOn_47 (by decide) ?_
      refine lv_isub hx hb dX11_goesOn_48 ?_
      obtain ⟨hi49, h⟩ := h
      refine va_iald hx hb hK hP 12 0 (mW_12 cI cZ ad M) rfl hi49 dX11_goesOn_49 ?_
      refine lv_aload_n hx hb dX11_goesOn_50 rfl (lv_at hl 2 rfl) ?_
      refine va_get (D := D) (ci := 11) (v := .ref (ad 5)) (C := RX11) (T := TX11) (N := 26) hx hb hts inX11 hown hK hP 0 (mW_0 cI cZ ad M) rfl 6 (by decide) k0 (fun _ h9 => h9) rfl dX11_goesOn_51 ?_
      refine lv_iconst (v := 2) hx hb dX11_goesOn_54 (by decide) ?_
      obtain ⟨hi55, h⟩ := h
      refine va_iald hx hb hK hP 5 0 (mW_5 cI cZ ad M) rfl hi55 dX11_goesOn_55 ?_
      refine lv_iadd hx hb dX11_goesOn_56 ?_
      refine lv_goto (tgt := 62) hx hb dX11_goesOn_57 (by decide) ?_
      exact J62 a1 a2 a3 ((M 12 ((a1 + a2) - 1).toNatClampNeg) + (M 5 (2 : Int32).toNatClampNeg)) M _ _ _ (lv_sub hl [2, 3, 4, 5] rfl) hP hS h
set_option maxHeartbeats 4000000 in
set_option maxRecDepth 100000 in
theorem kX11_acrossOf (l : Launch) (D : va_G) (cI cZ : ClassId) (ad : Nat → Nat) (hD : ∀ M : Mem, va_D (mA ad) (mW cI cZ ad M)) (M : Mem) (a0 : Int32) (Q : Int32 → Mem → Prop) (h : wX11_acrossOf M a0 Q) : Met l yX11_acrossOf uX11_acrossOf ({ frames := 0, cells := 0, slots := 0, locals := 0 }) (va_Pc [.int a0] (mPre D cI cZ ad M)) (va_Qi Q (mAt D cI cZ ad) (mA ad)) 0 0 (mA ad) := by
  refine Met.ofW (cc := cX11_acrossOf) (maxL := 1) (ret := (some .int)) (by decide) rfl ?_
  intro p e s m args below meth c s₁ B hml hv
  obtain ⟨rfl, hP, hK⟩ := hv
  have hx := B.exec
  have hb := B.bytes
  have hr := B.returns
  have hts := atoms_spec (ws := uX11_acrossOf) B.pre
  have hown : s.vm.findClass RX11 = some m.cls := findClass_of_methodNamed B.named
  have hlocks := B.notSynchronized
  have hS : va_S (mA ad) s.heap s.heap [] := va_S.rf
  have hl := lv_entry ([.int a0]) (n := 1) (Nat.le_of_ble_eq_true rfl)
  rw [lg_entry_eq]
  generalize (lg_sl ([.int a0]) ++ List.replicate (1 - (lg_sl ([.int a0])).length) Slot.unset).toArray = ls at hl ⊢
  have hl : lv_has ls 1 [(0, .int a0)] := hl
  refine lv_iload_n hx hb dX11_acrossOf_0 rfl (lv_at hl 0 rfl) ?_
  refine lv_if_eq (tgt := 14) hx hb dX11_acrossOf_1 (by decide) (fun q1 => ?_) (fun q1 => ?_)
  · have h := h.1 q1
    refine lv_iconst (v := (-1)) hx hb dX11_acrossOf_14 (by decide) ?_
    refine lv_goto (tgt := 34) hx hb dX11_acrossOf_15 (by decide) ?_
    exact W.iret (v := (-1)) hx hb hr (fun t ht hW => ⟨⟨(-1), M, rfl, h, mAt_of ht hP⟩, hS.F ht⟩) hS.2.2 dX11_acrossOf_34
  · have h := h.2 q1
    refine lv_iload_n hx hb dX11_acrossOf_4 rfl (lv_at hl 0 rfl) ?_
    refine lv_iconst (v := 3) hx hb dX11_acrossOf_5 (by decide) ?_
    refine lv_icmp_eq (tgt := 14) hx hb dX11_acrossOf_6 (by decide) (fun q6 => ?_) (fun q6 => ?_)
    · have h := h.1 q6
      refine lv_iconst (v := (-1)) hx hb dX11_acrossOf_14 (by decide) ?_
      refine lv_goto (tgt := 34) hx hb dX11_acrossOf_15 (by decide) ?_
      exact W.iret (v := (-1)) hx hb hr (fun t ht hW => ⟨⟨(-1), M, rfl, h, mAt_of ht hP⟩, hS.F ht⟩) hS.2.2 dX11_acrossOf_34
    · have h := h.2 q6
      refine lv_iload_n hx hb dX11_acrossOf_9 rfl (lv_at hl 0 rfl) ?_
      refine lv_iconst (v := 5) hx hb dX11_acrossOf_10 (by decide) ?_
      refine lv_icmp_ne (tgt := 18) hx hb dX11_acrossOf_11 (by decide) (fun q11 => ?_) (fun q11 => ?_)
      · have h := h.1 q11
        refine lv_iload_n hx hb dX11_acrossOf_18 rfl (lv_at hl 0 rfl) ?_
        refine lv_iconst (v := 1) hx hb dX11_acrossOf_19 (by decide) ?_
        refine lv_icmp_eq (tgt := 29) hx hb dX11_acrossOf_20 (by decide) (fun q20 => ?_) (fun q20 => ?_)
        · have h := h.1 q20
          refine lv_iconst (v := 0) hx hb dX11_acrossOf_29 (by decide) ?_
          refine lv_goto (tgt := 34) hx hb dX11_acrossOf_30 (by decide) ?_
          exact W.iret (v := 0) hx hb hr (fun t ht hW => ⟨⟨0, M, rfl, h, mAt_of ht hP⟩, hS.F ht⟩) hS.2.2 dX11_acrossOf_34
        · have h := h.2 q20
          refine lv_iload_n hx hb dX11_acrossOf_23 rfl (lv_at hl 0 rfl) ?_
          refine lv_bipush (v := 6) hx hb dX11_acrossOf_24 (by decide) ?_
          refine lv_icmp_ne (tgt := 33) hx hb dX11_acrossOf_26 (by decide) (fun q26 => ?_) (fun q26 => ?_)
          · have h := h.1 q26
            refine lv_iconst (v := 1) hx hb dX11_acrossOf_33 (by decide) ?_
            exact W.iret (v := 1) hx hb hr (fun t ht hW => ⟨⟨1, M, rfl, h, mAt_of ht hP⟩, hS.F ht⟩) hS.2.2 dX11_acrossOf_34
          · have h := h.2 q26
            refine lv_iconst (v := 0) hx hb dX11_acrossOf_29 (by decide) ?_
            refine lv_goto (tgt := 34) hx hb dX11_acrossOf_30 (by decide) ?_
            exact W.iret (v := 0) hx hb hr (fun t ht hW => ⟨⟨0, M, rfl, h, mAt_of ht hP⟩, hS.F ht⟩) hS.2.2 dX11_acrossOf_34
      · have h := h.2 q11
        refine lv_iconst (v := (-1)) hx hb dX11_acrossOf_14 (by decide) ?_
        refine lv_goto (tgt := 34) hx hb dX11_acrossOf_15 (by decide) ?_
        exact W.iret (v := (-1)) hx hb hr (fun t ht hW => ⟨⟨(-1), M, rfl, h, mAt_of ht hP⟩, hS.F ht⟩) hS.2.2 dX11_acrossOf_34
set_option maxHeartbeats 4000000 in
set_option maxRecDepth 100000 in
theorem kX11_downOf (l : Launch) (D : va_G) (cI cZ : ClassId) (ad : Nat → Nat) (hD : ∀ M : Mem, va_D (mA ad) (mW cI cZ ad M)) (M : Mem) (a0 : Int32) (Q : Int32 → Mem → Prop) (h : wX11_downOf M a0 Q) : Met l yX11_downOf uX11_downOf ({ frames := 0, cells := 0, slots := 0, locals := 0 }) (va_Pc [.int a0] (mPre D cI cZ ad M)) (va_Qi Q (mAt D cI cZ ad) (mA ad)) 0 0 (mA ad) := by
  refine Met.ofW (cc := cX11_downOf) (maxL := 1) (ret := (some .int)) (by decide) rfl ?_
  intro p e s m args below meth c s₁ B hml hv
  obtain ⟨rfl, hP, hK⟩ := hv
  have hx := B.exec
  have hb := B.bytes
  have hr := B.returns
  have hts := atoms_spec (ws := uX11_downOf) B.pre
  have hown : s.vm.findClass RX11 = some m.cls := findClass_of_methodNamed B.named
  have hlocks := B.notSynchronized
  have hS : va_S (mA ad) s.heap s.heap [] := va_S.rf
  have hl := lv_entry ([.int a0]) (n := 1) (Nat.le_of_ble_eq_true rfl)
  rw [lg_entry_eq]
  generalize (lg_sl ([.int a0]) ++ List.replicate (1 - (lg_sl ([.int a0])).length) Slot.unset).toArray = ls at hl ⊢
  have hl : lv_has ls 1 [(0, .int a0)] := hl
  refine lv_iload_n hx hb dX11_downOf_0 rfl (lv_at hl 0 rfl) ?_
  refine lv_iconst (v := 3) hx hb dX11_downOf_1 (by decide) ?_
  refine lv_icmp_ge (tgt := 9) hx hb dX11_downOf_2 (by decide) (fun q2 => ?_) (fun q2 => ?_)
  · have h := h.1 q2
    refine lv_iload_n hx hb dX11_downOf_9 rfl (lv_at hl 0 rfl) ?_
    refine lv_iconst (v := 5) hx hb dX11_downOf_10 (by decide) ?_
    refine lv_icmp_ge (tgt := 18) hx hb dX11_downOf_11 (by decide) (fun q11 => ?_) (fun q11 => ?_)
    · have h := h.1 q11
      refine lv_iconst (v := 1) hx hb dX11_downOf_18 (by decide) ?_
      exact W.iret (v := 1) hx hb hr (fun t ht hW => ⟨⟨1, M, rfl, h, mAt_of ht hP⟩, hS.F ht⟩) hS.2.2 dX11_downOf_19
    · have h := h.2 q11
      refine lv_iconst (v := 0) hx hb dX11_downOf_14 (by decide) ?_
      refine lv_goto (tgt := 19) hx hb dX11_downOf_15 (by decide) ?_
      exact W.iret (v := 0) hx hb hr (fun t ht hW => ⟨⟨0, M, rfl, h, mAt_of ht hP⟩, hS.F ht⟩) hS.2.2 dX11_downOf_19
  · have h := h.2 q2
    refine lv_iconst (v := (-1)) hx hb dX11_downOf_5 (by decide) ?_
    refine lv_goto (tgt := 19) hx hb dX11_downOf_6 (by decide) ?_
    exact W.iret (v := (-1)) hx hb hr (fun t ht hW => ⟨⟨(-1), M, rfl, h, mAt_of ht hP⟩, hS.F ht⟩) hS.2.2 dX11_downOf_19
abbrev GX11_layRuns (p : Program) (l : Launch) (e : Env) (s : State) (m : MethodId) (below : List Frame) (meth : Method) (c : Code) (D : va_G) (cI cZ : ClassId) (ad : Nat → Nat) (a1 : Int32) (Q : Mem → Prop) (H : Heap) (locs : List Loc) (g : JFrame) : Prop := W p l e (headSpec uX11_layRuns { frames := 3, cells := 0, slots := 0, locals := 69 }).room s m ([.ref (ad 0), .int a1] : List Value).toArray below meth c H locs 0 0 (MQ below (va_Qv Q (mAt D cI cZ ad) (mA ad)) ([.ref (ad 0), .int a1] : List Value).toArray s 0 0 (mA ad)) g
set_option maxHeartbeats 4000000 in
set_option maxRecDepth 100000 in
theorem kX11_layRuns (l : Launch) (D : va_G) (cI cZ : ClassId) (ad : Nat → Nat) (hD : ∀ M : Mem, va_D (mA ad) (mW cI cZ ad M)) (M : Mem) (a1 : Int32) (Q : Mem → Prop) (h : wX11_layRuns M a1 Q) : Met l yX11_layRuns uX11_layRuns ({ frames := 3, cells := 0, slots := 0, locals := 69 }) (va_Pc [.ref (ad 0), .int a1] (mPre D cI cZ ad M)) (va_Qv Q (mAt D cI cZ ad) (mA ad)) 0 0 (mA ad) := by
  refine Met.ofW (cc := cX11_layRuns) (maxL := 14) (ret := none) (by decide) rfl ?_
  intro p e s m args below meth c s₁ B hml hv
  obtain ⟨rfl, hP, hK⟩ := hv
  have hx := B.exec
  have hb := B.bytes
  have hr := B.returns
  have hts := atoms_spec (ws := uX11_layRuns) B.pre
  have hown : s.vm.findClass RX11 = some m.cls := findClass_of_methodNamed B.named
  have hlocks := B.notSynchronized
  have hS : va_S (mA ad) s.heap s.heap [] := va_S.rf
  have k0 := hts (.fieldLink RX11 51 "TwoEyesModel" "runs" "[I") (List.mem_cons_of_mem _ (inA_7 _ (List.mem_of_getElem? (i := 7) rfl)))
  have inX11 : ∀ w ∈ wsX110, w ∈ uX11_layRuns := fun w h => List.mem_cons_of_mem _ (inCX11 w h)
  have k2 := hts (.fieldLink RX11 30 "TwoEyesModel" "rules" "[I") (List.mem_cons_of_mem _ (inA_7 _ (List.mem_of_getElem? (i := 0) rfl)))
  have k3 := hts (.fieldLink RX11 54 "TwoEyesModel" "sums" "[I") (List.mem_cons_of_mem _ (inA_7 _ (List.mem_of_getElem? (i := 8) rfl)))
  have k4 := hts (.fieldLink RX11 7 "TwoEyesModel" "width" "I") (List.mem_cons_of_mem _ (inA_6 _ (List.mem_of_getElem? (i := 18) rfl)))
  have k5 := hts (.fieldLink RX11 13 "TwoEyesModel" "height" "I") (List.mem_cons_of_mem _ (inA_6 _ (List.mem_of_getElem? (i := 19) rfl)))
  have J151 : ∀ (B : Int32 → Int32 → Int32 → Int32 → Int32 → Int32 → Int32 → Int32 → Int32 → Int32 → Mem → Prop) (K174 : Int32 → Int32 → Int32 → Int32 → Int32 → Int32 → Int32 → Int32 → Int32 → Mem → Prop), (∀ (x1 x2 x3 x4 x5 x6 x9 x10 x11 x12 : Int32) (M : Mem) (H : Heap) (locs : List Loc) (ls : Array Slot), lv_has ls 14 [(0, .ref (ad 0)), (1, .int x1), (2, .int x2), (3, .int x3), (4, .int x4), (5, .int x5), (6, .int x6), (9, .int x9), (10, .int x10), (11, .int x11), (12, .int x12)] → va_P D vwCl (mW cI cZ ad M) H → va_S (mA ad) s.heap H locs → B x1 x2 x3 x4 x5 x6 x9 x10 x11 x12 M → GX11_layRuns p l e s m below meth c D cI cZ ad a1 Q H locs (F0 m 115 ls [])) → (∀ (x1 x2 x3 x4 x5 x6 x9 x10 x11 : Int32) (M : Mem) (H : Heap) (locs : List Loc) (ls : Array Slot), lv_has ls 14 [(0, .ref (ad 0)), (1, .int x1), (2, .int x2), (3, .int x3), (4, .int x4), (5, .int x5), (6, .int x6), (9, .int x9), (10, .int x10), (11, .int x11)] → va_P D vwCl (mW cI cZ ad M) H → va_S (mA ad) s.heap H locs → K174 x1 x2 x3 x4 x5 x6 x9 x10 x11 M → GX11_layRuns p l e s m below meth c D cI cZ ad a1 Q H locs (F0 m 174 ls [])) → ∀ (x1 x2 x3 x4 x5 x6 x9 x10 x12 : Int32) (M : Mem) (H : Heap) (locs : List Loc) (ls : Array Slot), lv_has ls 14 [(0, .ref (ad 0)), (1, .int x1), (2, .int x2), (3, .int x3), (4, .int x4), (5, .int x5), (6, .int x6), (9, .int x9), (10, .int x10), (12, .int x12)] → va_P D vwCl (mW cI cZ ad M) H → va_S (mA ad) s.heap H locs → wX11_layRuns_J151 B K174 Q x1 x2 x3 x4 x5 x6 x9 x10 x12 M → GX11_layRuns p l e s m below meth c D cI cZ ad a1 Q H locs (F0 m 151 ls []) := by
    intro B K174 hB hK174 x1 x2 x3 x4 x5 x6 x9 x10 x12 M H locs ls hl hP hS h
    refine lv_aload_n hx hb dX11_layRuns_151 rfl (lv_at hl 0 rfl) ?_
    refine va_get (D := D) (ci := 11) (v := .ref (ad 12)) (C := RX11) (T := TX11) (N := 26) hx hb hts inX11 hown hK hP 0 (mW_0 cI cZ ad M) rfl 17 (by decide) k0 (fun _ h9 => h9) rfl dX11_layRuns_152 ?_
    refine lv_iload hx hb dX11_layRuns_155 (lv_at hl 8 rfl) ?_
    refine lv_iload hx hb dX11_layRuns_157 (lv_at hl 9 rfl) ?_
    refine lv_iadd hx hb dX11_layRuns_159 ?_
    obtain ⟨hi160, h⟩ := h
    refine va_iald hx hb hK hP 12 0 (mW_12 cI cZ ad M) rfl hi160 dX11_layRuns_160 ?_
    refine lv_goto (tgt := 166) hx hb dX11_layRuns_161 (by decide) ?_
    refine lv_topi (fun x11_166 ex11_166 => ?_)
    have h := h x11_166 ex11_166
    refine lv_istore (lv' := [(11, .int x11_166), (0, .ref (ad 0)), (1, .int x1), (2, .int x2), (3, .int x3), (4, .int x4), (5, .int x5), (6, .int x6), (9, .int x9), (10, .int x10), (12, .int x12)]) hx hb dX11_layRuns_166 hl (by decide) rfl (fun ls hl => ?_)
    obtain ⟨x12_168, ex12_168⟩ : ∃ y : Int32, y = x12 + 1 := ⟨_, rfl⟩
    have h := h x12_168 ex12_168
    refine lv_iinc (v := x12_168) (lv' := [(12, .int x12_168), (11, .int x11_166), (0, .ref (ad 0)), (1, .int x1), (2, .int x2), (3, .int x3), (4, .int x4), (5, .int x5), (6, .int x6), (9, .int x9), (10, .int x10)]) hx hb dX11_layRuns_168 hl (k := 10) rfl (by rw [ex12_168]; rfl) (by decide) rfl (fun ls hl => ?_)
    refine lv_goto (tgt := 115) hx hb dX11_layRuns_171 (by decide) ?_
    exact hB x1 x2 x3 x4 x5 x6 x9 x10 x11_166 x12_168 M _ _ _ (lv_sub hl [2, 3, 4, 5, 6, 7, 8, 9, 10, 1, 0] rfl) hP hS h
  have L115 : ∀ (K174 : Int32 → Int32 → Int32 → Int32 → Int32 → Int32 → Int32 → Int32 → Int32 → Mem → Prop), (∀ (x1 x2 x3 x4 x5 x6 x9 x10 x11 : Int32) (M : Mem) (H : Heap) (locs : List Loc) (ls : Array Slot), lv_has ls 14 [(0, .ref (ad 0)), (1, .int x1), (2, .int x2), (3, .int x3), (4, .int x4), (5, .int x5), (6, .int x6), (9, .int x9), (10, .int x10), (11, .int x11)] → va_P D vwCl (mW cI cZ ad M) H → va_S (mA ad) s.heap H locs → K174 x1 x2 x3 x4 x5 x6 x9 x10 x11 M → GX11_layRuns p l e s m below meth c D cI cZ ad a1 Q H locs (F0 m 174 ls [])) → ∀ n : Nat, ∀ (x1 x2 x3 x4 x5 x6 x9 x10 x11 x12 : Int32) (M : Mem) (H : Heap) (locs : List Loc) (ls : Array Slot), lv_has ls 14 [(0, .ref (ad 0)), (1, .int x1), (2, .int x2), (3, .int x3), (4, .int x4), (5, .int x5), (6, .int x6), (9, .int x9), (10, .int x10), (11, .int x11), (12, .int x12)] → va_P D vwCl (mW cI cZ ad M) H → va_S (mA ad) s.heap H locs → wX11_layRuns_L115 K174 Q n x1 x2 x3 x4 x5 x6 x9 x10 x11 x12 M → GX11_layRuns p l e s m below meth c D cI cZ ad a1 Q H locs (F0 m 115 ls []) := by
    intro K174 hK174 n
    induction n with
    | zero => intro x1 x2 x3 x4 x5 x6 x9 x10 x11 x12 M H locs ls hl hP hS h; exact (show False from h).elim
    | succ n hB =>
      intro x1 x2 x3 x4 x5 x6 x9 x10 x11 x12 M H locs ls hl hP hS h
      rw [wX11_layRuns_L115_s] at h
      refine lv_iload hx hb dX11_layRuns_115 (lv_at hl 10 rfl) ?_
      refine lv_aload_n hx hb dX11_layRuns_117 rfl (lv_at hl 0 rfl) ?_
      refine va_get (D := D) (ci := 11) (v := .ref (ad 5)) (C := RX11) (T := TX11) (N := 26) hx hb hts inX11 hown hK hP 0 (mW_0 cI cZ ad M) rfl 6 (by decide) k2 (fun _ h9 => h9) rfl dX11_layRuns_118 ?_
      refine lv_iconst (v := 0) hx hb dX11_layRuns_121 (by decide) ?_
      obtain ⟨hi122, h⟩ := h
      refine va_iald hx hb hK hP 5 0 (mW_5 cI cZ ad M) rfl hi122 dX11_layRuns_122 ?_
      refine lv_icmp_gt (tgt := 174) hx hb dX11_layRuns_123 (by decide) (fun q123 => ?_) (fun q123 => ?_)
      · have h := h.1 q123
        exact hK174 x1 x2 x3 x4 x5 x6 x9 x10 x11 M _ _ _ (lv_sub hl [0, 1, 2, 3, 4, 5, 6, 7, 8, 9] rfl) hP hS h
      · have h := h.2 q123
        refine lv_iload hx hb dX11_layRuns_126 (lv_at hl 7 rfl) ?_
        refine lv_if_eq (tgt := 174) hx hb dX11_layRuns_128 (by decide) (fun q128 => ?_) (fun q128 => ?_)
        · have h := h.1 q128
          exact hK174 x1 x2 x3 x4 x5 x6 x9 x10 x11 M _ _ _ (lv_sub hl [0, 1, 2, 3, 4, 5, 6, 7, 8, 9] rfl) hP hS h
        · have h := h.2 q128
          refine lv_iload hx hb dX11_layRuns_131 (lv_at hl 10 rfl) ?_
          refine lv_if_eq (tgt := 151) hx hb dX11_layRuns_133 (by decide) (fun q133 => ?_) (fun q133 => ?_)
          · have h := h.1 q133
            exact J151 _ K174 hB hK174 x1 x2 x3 x4 x5 x6 x9 x10 x12 M _ _ _ (lv_sub hl [0, 1, 2, 3, 4, 5, 6, 7, 8, 10] rfl) hP hS h
          · have h := h.2 q133
            refine lv_aload_n hx hb dX11_layRuns_136 rfl (lv_at hl 0 rfl) ?_
            refine va_get (D := D) (ci := 11) (v := .ref (ad 12)) (C := RX11) (T := TX11) (N := 26) hx hb hts inX11 hown hK hP 0 (mW_0 cI cZ ad M) rfl 17 (by decide) k0 (fun _ h9 => h9) rfl dX11_layRuns_137 ?_
            refine lv_iload hx hb dX11_layRuns_140 (lv_at hl 8 rfl) ?_
            refine lv_iload hx hb dX11_layRuns_142 (lv_at hl 10 rfl) ?_
            refine lv_iadd hx hb dX11_layRuns_144 ?_
            obtain ⟨hi145, h⟩ := h
            refine va_iald hx hb hK hP 12 0 (mW_12 cI cZ ad M) rfl hi145 dX11_layRuns_145 ?_
            refine lv_iload hx hb dX11_layRuns_146 (lv_at hl 9 rfl) ?_
            refine lv_icmp_ge (tgt := 164) hx hb dX11_layRuns_148 (by decide) (fun q148 => ?_) (fun q148 => ?_)
            · have h := h.1 q148
              refine lv_iload hx hb dX11_layRuns_164 (lv_at hl 9 rfl) ?_
              refine lv_istore (lv' := [(11, .int x11), (0, .ref (ad 0)), (1, .int x1), (2, .int x2), (3, .int x3), (4, .int x4), (5, .int x5), (6, .int x6), (9, .int x9), (10, .int x10), (12, .int x12)]) hx hb dX11_layRuns_166 hl (by decide) rfl (fun ls hl => ?_)
              obtain ⟨x12_168, ex12_168⟩ : ∃ y : Int32, y = x12 + 1 := ⟨_, rfl⟩
              have h := h x12_168 ex12_168
              refine lv_iinc (v := x12_168) (lv' := [(12, .int x12_168), (11, .int x11), (0, .ref (ad 0)), (1, .int x1), (2, .int x2), (3, .int x3), (4, .int x4), (5, .int x5), (6, .int x6), (9, .int x9), (10, .int x10)]) hx hb dX11_layRuns_168 hl (k := 10) rfl (by rw [ex12_168]; rfl) (by decide) rfl (fun ls hl => ?_)
              refine lv_goto (tgt := 115) hx hb dX11_layRuns_171 (by decide) ?_
              exact hB x1 x2 x3 x4 x5 x6 x9 x10 x11 x12_168 M _ _ _ (lv_sub hl [2, 3, 4, 5, 6, 7, 8, 9, 10, 1, 0] rfl) hP hS h
            · have h := h.2 q148
              exact J151 _ K174 hB hK174 x1 x2 x3 x4 x5 x6 x9 x10 x12 M _ _ _ (lv_sub hl [0, 1, 2, 3, 4, 5, 6, 7, 8, 10] rfl) hP hS h
  have J220 : ∀ (B : Int32 → Int32 → Int32 → Int32 → Int32 → Int32 → Int32 → Int32 → Int32 → Int32 → Mem → Prop) (K268 : Int32 → Int32 → Int32 → Mem → Prop), (∀ (x1 x2 x3 x4 x5 x6 x9 x10 x11 x12 : Int32) (M : Mem) (H : Heap) (locs : List Loc) (ls : Array Slot), lv_has ls 14 [(0, .ref (ad 0)), (1, .int x1), (2, .int x2), (3, .int x3), (4, .int x4), (5, .int x5), (6, .int x6), (9, .int x9), (10, .int x10), (11, .int x11), (12, .int x12)] → va_P D vwCl (mW cI cZ ad M) H → va_S (mA ad) s.heap H locs → B x1 x2 x3 x4 x5 x6 x9 x10 x11 x12 M → GX11_layRuns p l e s m below meth c D cI cZ ad a1 Q H locs (F0 m 177 ls [])) → (∀ (x1 x2 x3 : Int32) (M : Mem) (H : Heap) (locs : List Loc) (ls : Array Slot), lv_has ls 14 [(0, .ref (ad 0)), (1, .int x1), (2, .int x2), (3, .int x3)] → va_P D vwCl (mW cI cZ ad M) H → va_S (mA ad) s.heap H locs → K268 x1 x2 x3 M → GX11_layRuns p l e s m below meth c D cI cZ ad a1 Q H locs (F0 m 268 ls [])) → ∀ (x1 x2 x3 x4 x5 x6 x9 x10 x11 x12 t0 t1 : Int32) (M : Mem) (H : Heap) (locs : List Loc) (ls : Array Slot), lv_has ls 14 [(0, .ref (ad 0)), (1, .int x1), (2, .int x2), (3, .int x3), (4, .int x4), (5, .int x5), (6, .int x6), (9, .int x9), (10, .int x10), (11, .int x11), (12, .int x12)] → va_P D vwCl (mW cI cZ ad M) H → va_S (mA ad) s.heap H locs → wX11_layRuns_J220 B K268 Q x1 x2 x3 x4 x5 x6 x9 x10 x11 x12 t0 t1 M → GX11_layRuns p l e s m below meth c D cI cZ ad a1 Q H locs (F0 m 220 ls [.int t1, .int t0]) := by
    intro B K268 hB hK268 x1 x2 x3 x4 x5 x6 x9 x10 x11 x12 t0 t1 M H locs ls hl hP hS h
    refine lv_iadd hx hb dX11_layRuns_220 ?_
    refine lv_topi (fun x13_221 ex13_221 => ?_)
    have h := h x13_221 ex13_221
    refine lv_istore (lv' := [(13, .int x13_221), (0, .ref (ad 0)), (1, .int x1), (2, .int x2), (3, .int x3), (4, .int x4), (5, .int x5), (6, .int x6), (9, .int x9), (10, .int x10), (11, .int x11), (12, .int x12)]) hx hb dX11_layRuns_221 hl (by decide) rfl (fun ls hl => ?_)
    refine lv_aload_n hx hb dX11_layRuns_223 rfl (lv_at hl 1 rfl) ?_
    refine va_get (D := D) (ci := 11) (v := .ref (ad 12)) (C := RX11) (T := TX11) (N := 26) hx hb hts inX11 hown hK hP 0 (mW_0 cI cZ ad M) rfl 17 (by decide) k0 (fun _ h9 => h9) rfl dX11_layRuns_224 ?_
    refine lv_sipush (v := 1800) hx hb dX11_layRuns_227 (by decide) ?_
    refine lv_iload_n hx hb dX11_layRuns_230 rfl (lv_at hl 2 rfl) ?_
    refine lv_imul hx hb dX11_layRuns_231 ?_
    refine lv_bipush (v := 9) hx hb dX11_layRuns_232 (by decide) ?_
    refine lv_iload hx hb dX11_layRuns_234 (lv_at hl 5 rfl) ?_
    refine lv_imul hx hb dX11_layRuns_236 ?_
    refine lv_iadd hx hb dX11_layRuns_237 ?_
    refine lv_iload hx hb dX11_layRuns_238 (lv_at hl 11 rfl) ?_
    refine lv_iadd hx hb dX11_layRuns_240 ?_
    refine lv_iload hx hb dX11_layRuns_241 (lv_at hl 0 rfl) ?_
    obtain ⟨hi243, h⟩ := h
    refine va_iast hx hb hK hP (hD M) hS 12 0 (mW_12 cI cZ ad M) rfl hi243 dX11_layRuns_243 (fun H locs hP _ hS => ?_)
    refine mQ_12 hP (fun M243 eM243 hP => ?_)
    have h := h M243 eM243
    refine lv_aload_n hx hb dX11_layRuns_244 rfl (lv_at hl 1 rfl) ?_
    refine va_get (D := D) (ci := 11) (v := .ref (ad 13)) (C := RX11) (T := TX11) (N := 26) hx hb hts inX11 hown hK hP 0 (mW_0 cI cZ ad M243) rfl 18 (by decide) k3 (fun _ h9 => h9) rfl dX11_layRuns_245 ?_
    refine lv_bipush (v := 9) hx hb dX11_layRuns_248 (by decide) ?_
    refine lv_iload hx hb dX11_layRuns_250 (lv_at hl 5 rfl) ?_
    refine lv_imul hx hb dX11_layRuns_252 ?_
    refine lv_iload hx hb dX11_layRuns_253 (lv_at hl 11 rfl) ?_
    refine lv_iadd hx hb dX11_layRuns_255 ?_
    refine lv_dup2_11 hx hb dX11_layRuns_256 rfl rfl ?_
    obtain ⟨hi257, h⟩ := h
    refine va_iald hx hb hK hP 13 0 (mW_13 cI cZ ad M243) rfl hi257 dX11_layRuns_257 ?_
    refine lv_iload hx hb dX11_layRuns_258 (lv_at hl 0 rfl) ?_
    refine lv_iadd hx hb dX11_layRuns_260 ?_
    obtain ⟨hi261, h⟩ := h
    refine va_iast hx hb hK hP (hD M243) hS 13 0 (mW_13 cI cZ ad M243) rfl hi261 dX11_layRuns_261 (fun H locs hP _ hS => ?_)
    refine mQ_13 hP (fun M261 eM261 hP => ?_)
    have h := h M261 eM261
    obtain ⟨x12_262, ex12_262⟩ : ∃ y : Int32, y = x12 + 1 := ⟨_, rfl⟩
    have h := h x12_262 ex12_262
    refine lv_iinc (v := x12_262) (lv' := [(12, .int x12_262), (13, .int x13_221), (0, .ref (ad 0)), (1, .int x1), (2, .int x2), (3, .int x3), (4, .int x4), (5, .int x5), (6, .int x6), (9, .int x9), (10, .int x10), (11, .int x11)]) hx hb dX11_layRuns_262 hl (k := 11) rfl (by rw [ex12_262]; rfl) (by decide) rfl (fun ls hl => ?_)
    refine lv_goto (tgt := 177) hx hb dX11_layRuns_265 (by decide) ?_
    exact hB x1 x2 x3 x4 x5 x6 x9 x10 x11 x12_262 M261 _ _ _ (lv_sub hl [2, 3, 4, 5, 6, 7, 8, 9, 10, 11, 0] rfl) hP hS h
  have L177 : ∀ (K268 : Int32 → Int32 → Int32 → Mem → Prop), (∀ (x1 x2 x3 : Int32) (M : Mem) (H : Heap) (locs : List Loc) (ls : Array Slot), lv_has ls 14 [(0, .ref (ad 0)), (1, .int x1), (2, .int x2), (3, .int x3)] → va_P D vwCl (mW cI cZ ad M) H → va_S (mA ad) s.heap H locs → K268 x1 x2 x3 M → GX11_layRuns p l e s m below meth c D cI cZ ad a1 Q H locs (F0 m 268 ls [])) → ∀ n : Nat, ∀ (x1 x2 x3 x4 x5 x6 x9 x10 x11 x12 : Int32) (M : Mem) (H : Heap) (locs : List Loc) (ls : Array Slot), lv_has ls 14 [(0, .ref (ad 0)), (1, .int x1), (2, .int x2), (3, .int x3), (4, .int x4), (5, .int x5), (6, .int x6), (9, .int x9), (10, .int x10), (11, .int x11), (12, .int x12)] → va_P D vwCl (mW cI cZ ad M) H → va_S (mA ad) s.heap H locs → wX11_layRuns_L177 K268 Q n x1 x2 x3 x4 x5 x6 x9 x10 x11 x12 M → GX11_layRuns p l e s m below meth c D cI cZ ad a1 Q H locs (F0 m 177 ls []) := by
    intro K268 hK268 n
    induction n with
    | zero => intro x1 x2 x3 x4 x5 x6 x9 x10 x11 x12 M H locs ls hl hP hS h; exact (show False from h).elim
    | succ n hB =>
      intro x1 x2 x3 x4 x5 x6 x9 x10 x11 x12 M H locs ls hl hP hS h
      rw [wX11_layRuns_L177_s] at h
      refine lv_iload hx hb dX11_layRuns_177 (lv_at hl 10 rfl) ?_
      refine lv_aload_n hx hb dX11_layRuns_179 rfl (lv_at hl 0 rfl) ?_
      refine va_get (D := D) (ci := 11) (v := .ref (ad 5)) (C := RX11) (T := TX11) (N := 26) hx hb hts inX11 hown hK hP 0 (mW_0 cI cZ ad M) rfl 6 (by decide) k2 (fun _ h9 => h9) rfl dX11_layRuns_180 ?_
      refine lv_iconst (v := 0) hx hb dX11_layRuns_183 (by decide) ?_
      obtain ⟨hi184, h⟩ := h
      refine va_iald hx hb hK hP 5 0 (mW_5 cI cZ ad M) rfl hi184 dX11_layRuns_184 ?_
      refine lv_icmp_gt (tgt := 268) hx hb dX11_layRuns_185 (by decide) (fun q185 => ?_) (fun q185 => ?_)
      · have h := h.1 q185
        exact hK268 x1 x2 x3 M _ _ _ (lv_sub hl [0, 1, 2, 3] rfl) hP hS h
      · have h := h.2 q185
        refine lv_aload_n hx hb dX11_layRuns_188 rfl (lv_at hl 0 rfl) ?_
        refine lv_iload hx hb dX11_layRuns_189 (lv_at hl 5 rfl) ?_
        refine lv_iload hx hb dX11_layRuns_191 (lv_at hl 6 rfl) ?_
        refine lv_iload hx hb dX11_layRuns_193 (lv_at hl 10 rfl) ?_
        refine m_callVi (As := [.int x5, .int x6, .int x12]) (rest := []) ⟨hx, hb, hml, hown, hts⟩ (kX11_voteAt l D cI cZ ad hD M x5 x6 x12 _ h) (cwV 3 hts (gdV uS (inA_22 _ (List.mem_of_getElem? (i := 3) rfl)) vX11_voteAt) rfl rfl rfl (by decide +kernel) ⟨Nat.le_of_ble_eq_true rfl, Nat.le_of_ble_eq_true rfl⟩) (va_recv hK hP (ci := 11) (q0 := 0) rfl (mW_0 cI cZ ad M)) hP hK hS hl.1 rfl rfl (Nat.le_of_ble_eq_true rfl) dX11_layRuns_195 (fun r195 M195 H locs h hP hS => ?_)
        refine lv_iload hx hb dX11_layRuns_198 (lv_at hl 7 rfl) ?_
        refine lv_if_eq (tgt := 219) hx hb dX11_layRuns_200 (by decide) (fun q200 => ?_) (fun q200 => ?_)
        · have h := h.1 q200
          refine lv_iconst (v := 0) hx hb dX11_layRuns_219 (by decide) ?_
          exact J220 _ K268 hB hK268 x1 x2 x3 x4 x5 x6 x9 x10 x11 x12 r195 0 M195 _ _ _ (lv_sub hl [0, 1, 2, 3, 4, 5, 6, 7, 8, 9, 10] rfl) hP hS h
        · have h := h.2 q200
          refine lv_aload_n hx hb dX11_layRuns_203 rfl (lv_at hl 0 rfl) ?_
          refine lv_iload hx hb dX11_layRuns_204 (lv_at hl 8 rfl) ?_
          refine lv_iload hx hb dX11_layRuns_206 (lv_at hl 10 rfl) ?_
          refine lv_iload hx hb dX11_layRuns_208 (lv_at hl 9 rfl) ?_
          refine m_callVi (As := [.int x10, .int x12, .int x11]) (rest := [.int r195]) ⟨hx, hb, hml, hown, hts⟩ (kX11_goesOn l D cI cZ ad hD M195 x10 x12 x11 _ h) (cwV 3 hts (gdV uS (inA_22 _ (List.mem_of_getElem? (i := 7) rfl)) vX11_goesOn) rfl rfl rfl (by decide +kernel) ⟨Nat.le_of_ble_eq_true rfl, Nat.le_of_ble_eq_true rfl⟩) (va_recv hK hP (ci := 11) (q0 := 0) rfl (mW_0 cI cZ ad M195)) hP hK hS hl.1 rfl rfl (Nat.le_of_ble_eq_true rfl) dX11_layRuns_210 (fun r210 M210 H locs h hP hS => ?_)
          refine lv_iload hx hb dX11_layRuns_213 (lv_at hl 9 rfl) ?_
          refine lv_isub hx hb dX11_layRuns_215 ?_
          refine lv_goto (tgt := 220) hx hb dX11_layRuns_216 (by decide) ?_
          exact J220 _ K268 hB hK268 x1 x2 x3 x4 x5 x6 x9 x10 x11 x12 r195 (r210 - x11) M210 _ _ _ (lv_sub hl [0, 1, 2, 3, 4, 5, 6, 7, 8, 9, 10] rfl) hP hS h
  have J31 : ∀ (B : Int32 → Int32 → Int32 → Mem → Prop) (K274 : Mem → Prop), (∀ (x1 x2 x3 : Int32) (M : Mem) (H : Heap) (locs : List Loc) (ls : Array Slot), lv_has ls 14 [(0, .ref (ad 0)), (1, .int x1), (2, .int x2), (3, .int x3)] → va_P D vwCl (mW cI cZ ad M) H → va_S (mA ad) s.heap H locs → B x1 x2 x3 M → GX11_layRuns p l e s m below meth c D cI cZ ad a1 Q H locs (F0 m 12 ls [])) → (∀ (M : Mem) (H : Heap) (locs : List Loc) (ls : Array Slot), lv_has ls 14 [] → va_P D vwCl (mW cI cZ ad M) H → va_S (mA ad) s.heap H locs → K274 M → GX11_layRuns p l e s m below meth c D cI cZ ad a1 Q H locs (F0 m 274 ls [])) → ∀ (x1 x2 x3 t0 : Int32) (M : Mem) (H : Heap) (locs : List Loc) (ls : Array Slot), lv_has ls 14 [(0, .ref (ad 0)), (1, .int x1), (2, .int x2), (3, .int x3)] → va_P D vwCl (mW cI cZ ad M) H → va_S (mA ad) s.heap H locs → wX11_layRuns_J31 B K274 Q x1 x2 x3 t0 M → GX11_layRuns p l e s m below meth c D cI cZ ad a1 Q H locs (F0 m 31 ls [.int t0]) := by
    intro B K274 hB hK274 x1 x2 x3 t0 M H locs ls hl hP hS h
    refine lv_istore (lv' := [(4, .int t0), (0, .ref (ad 0)), (1, .int x1), (2, .int x2), (3, .int x3)]) hx hb dX11_layRuns_31 hl (by decide) rfl (fun ls hl => ?_)
    refine lv_iload hx hb dX11_layRuns_33 (lv_at hl 0 rfl) ?_
    refine lv_aload_n hx hb dX11_layRuns_35 rfl (lv_at hl 1 rfl) ?_
    refine va_get (D := D) (ci := 11) (v := .int (M 0 0)) (C := RX11) (T := TX11) (N := 26) hx hb hts inX11 hown hK hP 0 (mW_0 cI cZ ad M) rfl 0 (by decide) k4 (fun _ h9 => h9) rfl dX11_layRuns_36 ?_
    obtain ⟨hn39, h⟩ := h
    refine lv_irem hx hb dX11_layRuns_39 hn39 ?_
    refine lv_topi (fun v39 ev39 => ?_)
    have h := h v39 ev39
    refine lv_istore (lv' := [(5, .int v39), (4, .int t0), (0, .ref (ad 0)), (1, .int x1), (2, .int x2), (3, .int x3)]) hx hb dX11_layRuns_40 hl (by decide) rfl (fun ls hl => ?_)
    refine lv_iload hx hb dX11_layRuns_42 (lv_at hl 1 rfl) ?_
    refine lv_aload_n hx hb dX11_layRuns_44 rfl (lv_at hl 2 rfl) ?_
    refine va_get (D := D) (ci := 11) (v := .int (M 0 0)) (C := RX11) (T := TX11) (N := 26) hx hb hts inX11 hown hK hP 0 (mW_0 cI cZ ad M) rfl 0 (by decide) k4 (fun _ h9 => h9) rfl dX11_layRuns_45 ?_
    obtain ⟨hn48, h⟩ := h
    refine lv_idiv hx hb dX11_layRuns_48 hn48 ?_
    refine lv_topi (fun x6_49 ex6_49 => ?_)
    have h := h x6_49 ex6_49
    refine lv_istore (lv' := [(6, .int x6_49), (5, .int v39), (4, .int t0), (0, .ref (ad 0)), (1, .int x1), (2, .int x2), (3, .int x3)]) hx hb dX11_layRuns_49 hl (by decide) rfl (fun ls hl => ?_)
    refine lv_iload hx hb dX11_layRuns_51 (lv_at hl 1 rfl) ?_
    refine lv_iload_n hx hb dX11_layRuns_53 rfl (lv_at hl 4 rfl) ?_
    refine m_callSi (As := [.int x1]) (rest := [.int v39]) ⟨hx, hb, hml, hown, hts⟩ (kX11_acrossOf l D cI cZ ad hD M x1 _ h) (va_cwS 1 hts (gdS uS (inA_21 _ (List.mem_of_getElem? (i := 13) rfl)) vX11_acrossOf) rfl rfl rfl (by decide +kernel) ⟨Nat.le_of_ble_eq_true rfl, Nat.le_of_ble_eq_true rfl⟩) hP hK hS hl.1 rfl rfl (Nat.le_of_ble_eq_true rfl) dX11_layRuns_54 (fun r54 M54 H locs h hP hS => ?_)
    refine lv_iadd hx hb dX11_layRuns_57 ?_
    refine lv_topi (fun x7_58 ex7_58 => ?_)
    have h := h x7_58 ex7_58
    refine lv_istore (lv' := [(7, .int x7_58), (6, .int x6_49), (5, .int v39), (4, .int t0), (0, .ref (ad 0)), (1, .int x1), (2, .int x2), (3, .int x3)]) hx hb dX11_layRuns_58 hl (by decide) rfl (fun ls hl => ?_)
    refine lv_iload hx hb dX11_layRuns_60 (lv_at hl 1 rfl) ?_
    refine lv_iload_n hx hb dX11_layRuns_62 rfl (lv_at hl 5 rfl) ?_
    refine m_callSi (As := [.int x1]) (rest := [.int x6_49]) ⟨hx, hb, hml, hown, hts⟩ (kX11_downOf l D cI cZ ad hD M54 x1 _ h) (va_cwS 1 hts (gdS uS (inA_21 _ (List.mem_of_getElem? (i := 16) rfl)) vX11_downOf) rfl rfl rfl (by decide +kernel) ⟨Nat.le_of_ble_eq_true rfl, Nat.le_of_ble_eq_true rfl⟩) hP hK hS hl.1 rfl rfl (Nat.le_of_ble_eq_true rfl) dX11_layRuns_63 (fun r63 M63 H locs h hP hS => ?_)
    refine lv_iadd hx hb dX11_layRuns_66 ?_
    refine lv_topi (fun x8_67 ex8_67 => ?_)
    have h := h x8_67 ex8_67
    refine lv_istore (lv' := [(8, .int x8_67), (7, .int x7_58), (6, .int x6_49), (5, .int v39), (4, .int t0), (0, .ref (ad 0)), (1, .int x1), (2, .int x2), (3, .int x3)]) hx hb dX11_layRuns_67 hl (by decide) rfl (fun ls hl => ?_)
    refine lv_aload_n hx hb dX11_layRuns_69 rfl (lv_at hl 5 rfl) ?_
    refine lv_iload hx hb dX11_layRuns_70 (lv_at hl 1 rfl) ?_
    refine lv_iload hx hb dX11_layRuns_72 (lv_at hl 0 rfl) ?_
    refine m_callVi (As := [.int x7_58, .int x8_67]) (rest := []) ⟨hx, hb, hml, hown, hts⟩ (kX11_isSquare l D cI cZ ad hD M63 x7_58 x8_67 _ h) (cwV 2 hts (gdV uS (inA_13 _ (List.mem_of_getElem? (i := 11) rfl)) vX11_isSquare) rfl rfl rfl (by decide +kernel) ⟨Nat.le_of_ble_eq_true rfl, Nat.le_of_ble_eq_true rfl⟩) (va_recv hK hP (ci := 11) (q0 := 0) rfl (mW_0 cI cZ ad M63)) hP hK hS hl.1 rfl rfl (Nat.le_of_ble_eq_true rfl) dX11_layRuns_74 (fun r74 M74 H locs h hP hS => ?_)
    refine lv_istore (lv' := [(9, .int r74), (8, .int x8_67), (7, .int x7_58), (6, .int x6_49), (5, .int v39), (4, .int t0), (0, .ref (ad 0)), (1, .int x1), (2, .int x2), (3, .int x3)]) hx hb dX11_layRuns_77 hl (by decide) rfl (fun ls hl => ?_)
    refine lv_iload hx hb dX11_layRuns_79 (lv_at hl 0 rfl) ?_
    refine lv_if_eq (tgt := 106) hx hb dX11_layRuns_81 (by decide) (fun q81 => ?_) (fun q81 => ?_)
    · have h := h.1 q81
      refine lv_iconst (v := 0) hx hb dX11_layRuns_106 (by decide) ?_
      refine lv_istore (lv' := [(10, .int 0), (9, .int r74), (8, .int x8_67), (7, .int x7_58), (6, .int x6_49), (5, .int v39), (4, .int t0), (0, .ref (ad 0)), (1, .int x1), (2, .int x2), (3, .int x3)]) hx hb dX11_layRuns_107 hl (by decide) rfl (fun ls hl => ?_)
      refine lv_iconst (v := 0) hx hb dX11_layRuns_109 (by decide) ?_
      refine lv_istore (lv' := [(11, .int 0), (10, .int 0), (9, .int r74), (8, .int x8_67), (7, .int x7_58), (6, .int x6_49), (5, .int v39), (4, .int t0), (0, .ref (ad 0)), (1, .int x1), (2, .int x2), (3, .int x3)]) hx hb dX11_layRuns_110 hl (by decide) rfl (fun ls hl => ?_)
      refine lv_iconst (v := 0) hx hb dX11_layRuns_112 (by decide) ?_
      refine lv_istore (lv' := [(12, .int 0), (11, .int 0), (10, .int 0), (9, .int r74), (8, .int x8_67), (7, .int x7_58), (6, .int x6_49), (5, .int v39), (4, .int t0), (0, .ref (ad 0)), (1, .int x1), (2, .int x2), (3, .int x3)]) hx hb dX11_layRuns_113 hl (by decide) rfl (fun ls hl => ?_)
      obtain ⟨n, h⟩ := h
      refine L115 _ (fun x1 x2 x3 x4 x5 x6 x9 x10 x11 M H locs ls hl hP hS h => ?_) n x1 x2 x3 t0 v39 x6_49 r74 0 0 0 M74 _ _ _ (lv_sub hl [9, 10, 11, 12, 8, 7, 6, 3, 2, 1, 0] rfl) hP hS h
      refine lv_iconst (v := 0) hx hb dX11_layRuns_174 (by decide) ?_
      refine lv_istore (lv' := [(12, .int 0), (0, .ref (ad 0)), (1, .int x1), (2, .int x2), (3, .int x3), (4, .int x4), (5, .int x5), (6, .int x6), (9, .int x9), (10, .int x10), (11, .int x11)]) hx hb dX11_layRuns_175 hl (by decide) rfl (fun ls hl => ?_)
      obtain ⟨n, h⟩ := h
      refine L177 _ (fun x1 x2 x3 M H locs ls hl hP hS h => ?_) n x1 x2 x3 x4 x5 x6 x9 x10 x11 0 M _ _ _ (lv_sub hl [1, 2, 3, 4, 5, 6, 7, 8, 9, 10, 0] rfl) hP hS h
      obtain ⟨x3_268, ex3_268⟩ : ∃ y : Int32, y = x3 + 1 := ⟨_, rfl⟩
      have h := h x3_268 ex3_268
      refine lv_iinc (v := x3_268) (lv' := [(3, .int x3_268), (0, .ref (ad 0)), (1, .int x1), (2, .int x2)]) hx hb dX11_layRuns_268 hl (k := 3) rfl (by rw [ex3_268]; rfl) (by decide) rfl (fun ls hl => ?_)
      refine lv_goto (tgt := 12) hx hb dX11_layRuns_271 (by decide) ?_
      exact hB x1 x2 x3_268 M _ _ _ (lv_sub hl [1, 2, 3, 0] rfl) hP hS h
    · have h := h.2 q81
      refine lv_sipush (v := 1800) hx hb dX11_layRuns_84 (by decide) ?_
      refine lv_iload_n hx hb dX11_layRuns_87 rfl (lv_at hl 7 rfl) ?_
      refine lv_imul hx hb dX11_layRuns_88 ?_
      refine lv_bipush (v := 9) hx hb dX11_layRuns_89 (by decide) ?_
      refine lv_aload_n hx hb dX11_layRuns_91 rfl (lv_at hl 6 rfl) ?_
      refine va_get (D := D) (ci := 11) (v := .int (M74 0 0)) (C := RX11) (T := TX11) (N := 26) hx hb hts inX11 hown hK hP 0 (mW_0 cI cZ ad M74) rfl 0 (by decide) k4 (fun _ h9 => h9) rfl dX11_layRuns_92 ?_
      refine lv_iload hx hb dX11_layRuns_95 (lv_at hl 1 rfl) ?_
      refine lv_imul hx hb dX11_layRuns_97 ?_
      refine lv_iload hx hb dX11_layRuns_98 (lv_at hl 2 rfl) ?_
      refine lv_iadd hx hb dX11_layRuns_100 ?_
      refine lv_imul hx hb dX11_layRuns_101 ?_
      refine lv_iadd hx hb dX11_layRuns_102 ?_
      refine lv_goto (tgt := 107) hx hb dX11_layRuns_103 (by decide) ?_
      refine lv_topi (fun x10_107 ex10_107 => ?_)
      have h := h x10_107 ex10_107
      refine lv_istore (lv' := [(10, .int x10_107), (9, .int r74), (8, .int x8_67), (7, .int x7_58), (6, .int x6_49), (5, .int v39), (4, .int t0), (0, .ref (ad 0)), (1, .int x1), (2, .int x2), (3, .int x3)]) hx hb dX11_layRuns_107 hl (by decide) rfl (fun ls hl => ?_)
      refine lv_iconst (v := 0) hx hb dX11_layRuns_109 (by decide) ?_
      refine lv_istore (lv' := [(11, .int 0), (10, .int x10_107), (9, .int r74), (8, .int x8_67), (7, .int x7_58), (6, .int x6_49), (5, .int v39), (4, .int t0), (0, .ref (ad 0)), (1, .int x1), (2, .int x2), (3, .int x3)]) hx hb dX11_layRuns_110 hl (by decide) rfl (fun ls hl => ?_)
      refine lv_iconst (v := 0) hx hb dX11_layRuns_112 (by decide) ?_
      refine lv_istore (lv' := [(12, .int 0), (11, .int 0), (10, .int x10_107), (9, .int r74), (8, .int x8_67), (7, .int x7_58), (6, .int x6_49), (5, .int v39), (4, .int t0), (0, .ref (ad 0)), (1, .int x1), (2, .int x2), (3, .int x3)]) hx hb dX11_layRuns_113 hl (by decide) rfl (fun ls hl => ?_)
      obtain ⟨n, h⟩ := h
      refine L115 _ (fun x1 x2 x3 x4 x5 x6 x9 x10 x11 M H locs ls hl hP hS h => ?_) n x1 x2 x3 t0 v39 x6_49 r74 x10_107 0 0 M74 _ _ _ (lv_sub hl [9, 10, 11, 12, 8, 7, 6, 3, 2, 1, 0] rfl) hP hS h
      refine lv_iconst (v := 0) hx hb dX11_layRuns_174 (by decide) ?_
      refine lv_istore (lv' := [(12, .int 0), (0, .ref (ad 0)), (1, .int x1), (2, .int x2), (3, .int x3), (4, .int x4), (5, .int x5), (6, .int x6), (9, .int x9), (10, .int x10), (11, .int x11)]) hx hb dX11_layRuns_175 hl (by decide) rfl (fun ls hl => ?_)
      obtain ⟨n, h⟩ := h
      refine L177 _ (fun x1 x2 x3 M H locs ls hl hP hS h => ?_) n x1 x2 x3 x4 x5 x6 x9 x10 x11 0 M _ _ _ (lv_sub hl [1, 2, 3, 4, 5, 6, 7, 8, 9, 10, 0] rfl) hP hS h
      obtain ⟨x3_268, ex3_268⟩ : ∃ y : Int32, y = x3 + 1 := ⟨_, rfl⟩
      have h := h x3_268 ex3_268
      refine lv_iinc (v := x3_268) (lv' := [(3, .int x3_268), (0, .ref (ad 0)), (1, .int x1), (2, .int x2)]) hx hb dX11_layRuns_268 hl (k := 3) rfl (by rw [ex3_268]; rfl) (by decide) rfl (fun ls hl => ?_)
      refine lv_goto (tgt := 12) hx hb dX11_layRuns_271 (by decide) ?_
      exact hB x1 x2 x3_268 M _ _ _ (lv_sub hl [1, 2, 3, 0] rfl) hP hS h
  have L12 : ∀ (K274 : Mem → Prop), (∀ (M : Mem) (H : Heap) (locs : List Loc) (ls : Array Slot), lv_has ls 14 [] → va_P D vwCl (mW cI cZ ad M) H → va_S (mA ad) s.heap H locs → K274 M → GX11_layRuns p l e s m below meth c D cI cZ ad a1 Q H locs (F0 m 274 ls [])) → ∀ n : Nat, ∀ (x1 x2 x3 : Int32) (M : Mem) (H : Heap) (locs : List Loc) (ls : Array Slot), lv_has ls 14 [(0, .ref (ad 0)), (1, .int x1), (2, .int x2), (3, .int x3)] → va_P D vwCl (mW cI cZ ad M) H → va_S (mA ad) s.heap H locs → wX11_layRuns_L12 K274 Q n x1 x2 x3 M → GX11_layRuns p l e s m below meth c D cI cZ ad a1 Q H locs (F0 m 12 ls []) := by
    intro K274 hK274 n
    induction n with
    | zero => intro x1 x2 x3 M H locs ls hl hP hS h; exact (show False from h).elim
    | succ n hB =>
      intro x1 x2 x3 M H locs ls hl hP hS h
      rw [wX11_layRuns_L12_s] at h
      refine lv_iload_n hx hb dX11_layRuns_12 rfl (lv_at hl 3 rfl) ?_
      refine lv_iload_n hx hb dX11_layRuns_13 rfl (lv_at hl 2 rfl) ?_
      refine lv_icmp_ge (tgt := 274) hx hb dX11_layRuns_14 (by decide) (fun q14 => ?_) (fun q14 => ?_)
      · have h := h.1 q14
        exact hK274 M _ _ _ (lv_sub hl [] rfl) hP hS h
      · have h := h.2 q14
        refine lv_iload_n hx hb dX11_layRuns_17 rfl (lv_at hl 1 rfl) ?_
        refine lv_iconst (v := 4) hx hb dX11_layRuns_18 (by decide) ?_
        refine lv_icmp_ge (tgt := 26) hx hb dX11_layRuns_19 (by decide) (fun q19 => ?_) (fun q19 => ?_)
        · have h := h.1 q19
          refine lv_iload_n hx hb dX11_layRuns_26 rfl (lv_at hl 2 rfl) ?_
          refine lv_iconst (v := 1) hx hb dX11_layRuns_27 (by decide) ?_
          refine lv_isub hx hb dX11_layRuns_28 ?_
          refine lv_iload_n hx hb dX11_layRuns_29 rfl (lv_at hl 3 rfl) ?_
          refine lv_isub hx hb dX11_layRuns_30 ?_
          exact J31 _ K274 hB hK274 x1 x2 x3 ((x2 - 1) - x3) M _ _ _ (lv_sub hl [0, 1, 2, 3] rfl) hP hS h
        · have h := h.2 q19
          refine lv_iload_n hx hb dX11_layRuns_22 rfl (lv_at hl 3 rfl) ?_
          refine lv_goto (tgt := 31) hx hb dX11_layRuns_23 (by decide) ?_
          exact J31 _ K274 hB hK274 x1 x2 x3 x3 M _ _ _ (lv_sub hl [0, 1, 2, 3] rfl) hP hS h
  have hl := lv_entry ([.ref (ad 0), .int a1]) (n := 14) (Nat.le_of_ble_eq_true rfl)
  rw [lg_entry_eq]
  generalize (lg_sl ([.ref (ad 0), .int a1]) ++ List.replicate (14 - (lg_sl ([.ref (ad 0), .int a1])).length) Slot.unset).toArray = ls at hl ⊢
  have hl : lv_has ls 14 [(0, .ref (ad 0)), (1, .int a1)] := hl
  refine lv_aload_n hx hb dX11_layRuns_0 rfl (lv_at hl 0 rfl) ?_
  refine va_get (D := D) (ci := 11) (v := .int (M 0 0)) (C := RX11) (T := TX11) (N := 26) hx hb hts inX11 hown hK hP 0 (mW_0 cI cZ ad M) rfl 0 (by decide) k4 (fun _ h9 => h9) rfl dX11_layRuns_1 ?_
  refine lv_aload_n hx hb dX11_layRuns_4 rfl (lv_at hl 0 rfl) ?_
  refine va_get (D := D) (ci := 11) (v := .int (M 0 1)) (C := RX11) (T := TX11) (N := 26) hx hb hts inX11 hown hK hP 0 (mW_0 cI cZ ad M) rfl 1 (by decide) k5 (fun _ h9 => h9) rfl dX11_layRuns_5 ?_
  refine lv_imul hx hb dX11_layRuns_8 ?_
  refine lv_topi (fun x2_9 ex2_9 => ?_)
  have h := h x2_9 ex2_9
  refine lv_istore_n (lv' := [(2, .int x2_9), (0, .ref (ad 0)), (1, .int a1)]) hx hb dX11_layRuns_9 rfl hl (by decide) rfl (fun ls hl => ?_)
  refine lv_iconst (v := 0) hx hb dX11_layRuns_10 (by decide) ?_
  refine lv_istore_n (lv' := [(3, .int 0), (2, .int x2_9), (0, .ref (ad 0)), (1, .int a1)]) hx hb dX11_layRuns_11 rfl hl (by decide) rfl (fun ls hl => ?_)
  obtain ⟨n, h⟩ := h
  refine L12 _ (fun  M H locs ls hl hP hS h => ?_) n a1 x2_9 0 M _ _ _ (lv_sub hl [2, 3, 1, 0] rfl) hP hS h
  exact W.vret hx hb hr (fun t ht hW => ⟨⟨M, rfl, h, mAt_of ht hP⟩, hS.F ht⟩) hS.2.2 dX11_layRuns_274
abbrev GX11_layDepths (p : Program) (l : Launch) (e : Env) (s : State) (m : MethodId) (below : List Frame) (meth : Method) (c : Code) (D : va_G) (cI cZ : ClassId) (ad : Nat → Nat) (a1 a2 : Int32) (Q : Mem → Prop) (H : Heap) (locs : List Loc) (g : JFrame) : Prop := W p l e (headSpec uX11_layDepths { frames := 0, cells := 0, slots := 0, locals := 0 }).room s m ([.ref (ad 0), .int a1, .int a2] : List Value).toArray below meth c H locs 0 0 (MQ below (va_Qv Q (mAt D cI cZ ad) (mA ad)) ([.ref (ad 0), .int a1, .int a2] : List Value).toArray s 0 0 (mA ad)) g
set_option maxHeartbeats 4000000 in
set_option maxRecDepth 100000 in
theorem kX11_layDepths (l : Launch) (D : va_G) (cI cZ : ClassId) (ad : Nat → Nat) (hD : ∀ M : Mem, va_D (mA ad) (mW cI cZ ad M)) (M : Mem) (a1 a2 : Int32) (Q : Mem → Prop) (h : wX11_layDepths M a1 a2 Q) : Met l yX11_layDepths uX11_layDepths ({ frames := 0, cells := 0, slots := 0, locals := 0 }) (va_Pc [.ref (ad 0), .int a1, .int a2] (mPre D cI cZ ad M)) (va_Qv Q (mAt D cI cZ ad) (mA ad)) 0 0 (mA ad) := by
  refine Met.ofW (cc := cX11_layDepths) (maxL := 7) (ret := none) (by decide) rfl ?_
  intro p e s m args below meth c s₁ B hml hv
  obtain ⟨rfl, hP, hK⟩ := hv
  have hx := B.exec
  have hb := B.bytes
  have hr := B.returns
  have hts := atoms_spec (ws := uX11_layDepths) B.pre
  have hown : s.vm.findClass RX11 = some m.cls := findClass_of_methodNamed B.named
  have hlocks := B.notSynchronized
  have hS : va_S (mA ad) s.heap s.heap [] := va_S.rf
  have k0 := hts (.fieldLink RX11 7 "TwoEyesModel" "width" "I") (List.mem_cons_of_mem _ (inA_6 _ (List.mem_of_getElem? (i := 18) rfl)))
  have inX11 : ∀ w ∈ wsX110, w ∈ uX11_layDepths := fun w h => List.mem_cons_of_mem _ (inCX11 w h)
  have k2 := hts (.fieldLink RX11 54 "TwoEyesModel" "sums" "[I") (List.mem_cons_of_mem _ (inA_7 _ (List.mem_of_getElem? (i := 8) rfl)))
  have k3 := hts (.fieldLink RX11 30 "TwoEyesModel" "rules" "[I") (List.mem_cons_of_mem _ (inA_7 _ (List.mem_of_getElem? (i := 0) rfl)))
  have k4 := hts (.fieldLink RX11 57 "TwoEyesModel" "leftDepth" "[I") (List.mem_cons_of_mem _ (inA_7 _ (List.mem_of_getElem? (i := 9) rfl)))
  have k5 := hts (.fieldLink RX11 60 "TwoEyesModel" "rightDepth" "[I") (List.mem_cons_of_mem _ (inA_7 _ (List.mem_of_getElem? (i := 10) rfl)))
  have J63 : ∀ (B : Int32 → Int32 → Int32 → Int32 → Int32 → Mem → Prop) (K124 : Int32 → Int32 → Int32 → Mem → Prop), (∀ (x1 x3 x4 x5 x6 : Int32) (M : Mem) (H : Heap) (locs : List Loc) (ls : Array Slot), lv_has ls 7 [(0, .ref (ad 0)), (1, .int x1), (3, .int x3), (4, .int x4), (5, .int x5), (6, .int x6)] → va_P D vwCl (mW cI cZ ad M) H → va_S (mA ad) s.heap H locs → B x1 x3 x4 x5 x6 M → GX11_layDepths p l e s m below meth c D cI cZ ad a1 a2 Q H locs (F0 m 18 ls [])) → (∀ (x3 x4 x5 : Int32) (M : Mem) (H : Heap) (locs : List Loc) (ls : Array Slot), lv_has ls 7 [(0, .ref (ad 0)), (3, .int x3), (4, .int x4), (5, .int x5)] → va_P D vwCl (mW cI cZ ad M) H → va_S (mA ad) s.heap H locs → K124 x3 x4 x5 M → GX11_layDepths p l e s m below meth c D cI cZ ad a1 a2 Q H locs (F0 m 124 ls [])) → ∀ (x1 x3 x5 x6 t0 : Int32) (M : Mem) (H : Heap) (locs : List Loc) (ls : Array Slot), lv_has ls 7 [(0, .ref (ad 0)), (1, .int x1), (3, .int x3), (5, .int x5), (6, .int x6)] → va_P D vwCl (mW cI cZ ad M) H → va_S (mA ad) s.heap H locs → wX11_layDepths_J63 B K124 Q x1 x3 x5 x6 t0 M → GX11_layDepths p l e s m below meth c D cI cZ ad a1 a2 Q H locs (F0 m 63 ls [.int t0]) := by
    intro B K124 hB hK124 x1 x3 x5 x6 t0 M H locs ls hl hP hS h
    refine lv_istore (lv' := [(4, .int t0), (0, .ref (ad 0)), (1, .int x1), (3, .int x3), (5, .int x5), (6, .int x6)]) hx hb dX11_layDepths_63 hl (by decide) rfl (fun ls hl => ?_)
    refine lv_iload_n hx hb dX11_layDepths_65 rfl (lv_at hl 2 rfl) ?_
    refine lv_iload hx hb dX11_layDepths_66 (lv_at hl 5 rfl) ?_
    refine lv_iadd hx hb dX11_layDepths_68 ?_
    refine lv_aload_n hx hb dX11_layDepths_69 rfl (lv_at hl 1 rfl) ?_
    refine va_get (D := D) (ci := 11) (v := .int (M 0 0)) (C := RX11) (T := TX11) (N := 26) hx hb hts inX11 hown hK hP 0 (mW_0 cI cZ ad M) rfl 0 (by decide) k0 (fun _ h9 => h9) rfl dX11_layDepths_70 ?_
    refine lv_icmp_ge (tgt := 118) hx hb dX11_layDepths_73 (by decide) (fun q73 => ?_) (fun q73 => ?_)
    · have h := h.1 q73
      obtain ⟨x6_118, ex6_118⟩ : ∃ y : Int32, y = x6 + 1 := ⟨_, rfl⟩
      have h := h x6_118 ex6_118
      refine lv_iinc (v := x6_118) (lv' := [(6, .int x6_118), (4, .int t0), (0, .ref (ad 0)), (1, .int x1), (3, .int x3), (5, .int x5)]) hx hb dX11_layDepths_118 hl (k := 5) rfl (by rw [ex6_118]; rfl) (by decide) rfl (fun ls hl => ?_)
      refine lv_goto (tgt := 18) hx hb dX11_layDepths_121 (by decide) ?_
      exact hB x1 x3 t0 x5 x6_118 M _ _ _ (lv_sub hl [2, 3, 4, 1, 5, 0] rfl) hP hS h
    · have h := h.2 q73
      refine lv_aload_n hx hb dX11_layDepths_76 rfl (lv_at hl 1 rfl) ?_
      refine va_get (D := D) (ci := 11) (v := .ref (ad 13)) (C := RX11) (T := TX11) (N := 26) hx hb hts inX11 hown hK hP 0 (mW_0 cI cZ ad M) rfl 18 (by decide) k2 (fun _ h9 => h9) rfl dX11_layDepths_77 ?_
      refine lv_bipush (v := 9) hx hb dX11_layDepths_80 (by decide) ?_
      refine lv_iload_n hx hb dX11_layDepths_82 rfl (lv_at hl 3 rfl) ?_
      refine lv_iload hx hb dX11_layDepths_83 (lv_at hl 5 rfl) ?_
      refine lv_iadd hx hb dX11_layDepths_85 ?_
      refine lv_imul hx hb dX11_layDepths_86 ?_
      refine lv_iload hx hb dX11_layDepths_87 (lv_at hl 5 rfl) ?_
      refine lv_iadd hx hb dX11_layDepths_89 ?_
      obtain ⟨hi90, h⟩ := h
      refine va_iald hx hb hK hP 13 0 (mW_13 cI cZ ad M) rfl hi90 dX11_layDepths_90 ?_
      refine lv_aload_n hx hb dX11_layDepths_91 rfl (lv_at hl 1 rfl) ?_
      refine va_get (D := D) (ci := 11) (v := .ref (ad 13)) (C := RX11) (T := TX11) (N := 26) hx hb hts inX11 hown hK hP 0 (mW_0 cI cZ ad M) rfl 18 (by decide) k2 (fun _ h9 => h9) rfl dX11_layDepths_92 ?_
      refine lv_bipush (v := 9) hx hb dX11_layDepths_95 (by decide) ?_
      refine lv_iload_n hx hb dX11_layDepths_97 rfl (lv_at hl 3 rfl) ?_
      refine lv_iload hx hb dX11_layDepths_98 (lv_at hl 4 rfl) ?_
      refine lv_iadd hx hb dX11_layDepths_100 ?_
      refine lv_imul hx hb dX11_layDepths_101 ?_
      refine lv_iload hx hb dX11_layDepths_102 (lv_at hl 4 rfl) ?_
      refine lv_iadd hx hb dX11_layDepths_104 ?_
      obtain ⟨hi105, h⟩ := h
      refine va_iald hx hb hK hP 13 0 (mW_13 cI cZ ad M) rfl hi105 dX11_layDepths_105 ?_
      refine lv_icmp_ge (tgt := 114) hx hb dX11_layDepths_106 (by decide) (fun q106 => ?_) (fun q106 => ?_)
      · have h := h.1 q106
        refine lv_iload hx hb dX11_layDepths_114 (lv_at hl 4 rfl) ?_
        refine lv_istore (lv' := [(5, .int x5), (4, .int t0), (0, .ref (ad 0)), (1, .int x1), (3, .int x3), (6, .int x6)]) hx hb dX11_layDepths_116 hl (by decide) rfl (fun ls hl => ?_)
        obtain ⟨x6_118, ex6_118⟩ : ∃ y : Int32, y = x6 + 1 := ⟨_, rfl⟩
        have h := h x6_118 ex6_118
        refine lv_iinc (v := x6_118) (lv' := [(6, .int x6_118), (5, .int x5), (4, .int t0), (0, .ref (ad 0)), (1, .int x1), (3, .int x3)]) hx hb dX11_layDepths_118 hl (k := 5) rfl (by rw [ex6_118]; rfl) (by decide) rfl (fun ls hl => ?_)
        refine lv_goto (tgt := 18) hx hb dX11_layDepths_121 (by decide) ?_
        exact hB x1 x3 t0 x5 x6_118 M _ _ _ (lv_sub hl [3, 4, 5, 2, 1, 0] rfl) hP hS h
      · have h := h.2 q106
        refine lv_iload hx hb dX11_layDepths_109 (lv_at hl 5 rfl) ?_
        refine lv_goto (tgt := 116) hx hb dX11_layDepths_111 (by decide) ?_
        refine lv_istore (lv' := [(5, .int x6), (4, .int t0), (0, .ref (ad 0)), (1, .int x1), (3, .int x3), (6, .int x6)]) hx hb dX11_layDepths_116 hl (by decide) rfl (fun ls hl => ?_)
        obtain ⟨x6_118, ex6_118⟩ : ∃ y : Int32, y = x6 + 1 := ⟨_, rfl⟩
        have h := h x6_118 ex6_118
        refine lv_iinc (v := x6_118) (lv' := [(6, .int x6_118), (5, .int x6), (4, .int t0), (0, .ref (ad 0)), (1, .int x1), (3, .int x3)]) hx hb dX11_layDepths_118 hl (k := 5) rfl (by rw [ex6_118]; rfl) (by decide) rfl (fun ls hl => ?_)
        refine lv_goto (tgt := 18) hx hb dX11_layDepths_121 (by decide) ?_
        exact hB x1 x3 t0 x6 x6_118 M _ _ _ (lv_sub hl [3, 4, 5, 2, 1, 0] rfl) hP hS h
  have L18 : ∀ (K124 : Int32 → Int32 → Int32 → Mem → Prop), (∀ (x3 x4 x5 : Int32) (M : Mem) (H : Heap) (locs : List Loc) (ls : Array Slot), lv_has ls 7 [(0, .ref (ad 0)), (3, .int x3), (4, .int x4), (5, .int x5)] → va_P D vwCl (mW cI cZ ad M) H → va_S (mA ad) s.heap H locs → K124 x3 x4 x5 M → GX11_layDepths p l e s m below meth c D cI cZ ad a1 a2 Q H locs (F0 m 124 ls [])) → ∀ n : Nat, ∀ (x1 x3 x4 x5 x6 : Int32) (M : Mem) (H : Heap) (locs : List Loc) (ls : Array Slot), lv_has ls 7 [(0, .ref (ad 0)), (1, .int x1), (3, .int x3), (4, .int x4), (5, .int x5), (6, .int x6)] → va_P D vwCl (mW cI cZ ad M) H → va_S (mA ad) s.heap H locs → wX11_layDepths_L18 K124 Q n x1 x3 x4 x5 x6 M → GX11_layDepths p l e s m below meth c D cI cZ ad a1 a2 Q H locs (F0 m 18 ls []) := by
    intro K124 hK124 n
    induction n with
    | zero => intro x1 x3 x4 x5 x6 M H locs ls hl hP hS h; exact (show False from h).elim
    | succ n hB =>
      intro x1 x3 x4 x5 x6 M H locs ls hl hP hS h
      rw [wX11_layDepths_L18_s] at h
      refine lv_iload hx hb dX11_layDepths_18 (lv_at hl 5 rfl) ?_
      refine lv_aload_n hx hb dX11_layDepths_20 rfl (lv_at hl 0 rfl) ?_
      refine va_get (D := D) (ci := 11) (v := .ref (ad 5)) (C := RX11) (T := TX11) (N := 26) hx hb hts inX11 hown hK hP 0 (mW_0 cI cZ ad M) rfl 6 (by decide) k3 (fun _ h9 => h9) rfl dX11_layDepths_21 ?_
      refine lv_iconst (v := 0) hx hb dX11_layDepths_24 (by decide) ?_
      obtain ⟨hi25, h⟩ := h
      refine va_iald hx hb hK hP 5 0 (mW_5 cI cZ ad M) rfl hi25 dX11_layDepths_25 ?_
      refine lv_icmp_gt (tgt := 124) hx hb dX11_layDepths_26 (by decide) (fun q26 => ?_) (fun q26 => ?_)
      · have h := h.1 q26
        exact hK124 x3 x4 x5 M _ _ _ (lv_sub hl [0, 2, 3, 4] rfl) hP hS h
      · have h := h.2 q26
        refine lv_aload_n hx hb dX11_layDepths_29 rfl (lv_at hl 0 rfl) ?_
        refine va_get (D := D) (ci := 11) (v := .ref (ad 13)) (C := RX11) (T := TX11) (N := 26) hx hb hts inX11 hown hK hP 0 (mW_0 cI cZ ad M) rfl 18 (by decide) k2 (fun _ h9 => h9) rfl dX11_layDepths_30 ?_
        refine lv_bipush (v := 9) hx hb dX11_layDepths_33 (by decide) ?_
        refine lv_iload_n hx hb dX11_layDepths_35 rfl (lv_at hl 2 rfl) ?_
        refine lv_imul hx hb dX11_layDepths_36 ?_
        refine lv_iload hx hb dX11_layDepths_37 (lv_at hl 5 rfl) ?_
        refine lv_iadd hx hb dX11_layDepths_39 ?_
        obtain ⟨hi40, h⟩ := h
        refine va_iald hx hb hK hP 13 0 (mW_13 cI cZ ad M) rfl hi40 dX11_layDepths_40 ?_
        refine lv_aload_n hx hb dX11_layDepths_41 rfl (lv_at hl 0 rfl) ?_
        refine va_get (D := D) (ci := 11) (v := .ref (ad 13)) (C := RX11) (T := TX11) (N := 26) hx hb hts inX11 hown hK hP 0 (mW_0 cI cZ ad M) rfl 18 (by decide) k2 (fun _ h9 => h9) rfl dX11_layDepths_42 ?_
        refine lv_bipush (v := 9) hx hb dX11_layDepths_45 (by decide) ?_
        refine lv_iload_n hx hb dX11_layDepths_47 rfl (lv_at hl 2 rfl) ?_
        refine lv_imul hx hb dX11_layDepths_48 ?_
        refine lv_iload hx hb dX11_layDepths_49 (lv_at hl 3 rfl) ?_
        refine lv_iadd hx hb dX11_layDepths_51 ?_
        obtain ⟨hi52, h⟩ := h
        refine va_iald hx hb hK hP 13 0 (mW_13 cI cZ ad M) rfl hi52 dX11_layDepths_52 ?_
        refine lv_icmp_ge (tgt := 61) hx hb dX11_layDepths_53 (by decide) (fun q53 => ?_) (fun q53 => ?_)
        · have h := h.1 q53
          refine lv_iload hx hb dX11_layDepths_61 (lv_at hl 3 rfl) ?_
          exact J63 _ K124 hB hK124 x1 x3 x5 x6 x4 M _ _ _ (lv_sub hl [0, 1, 2, 4, 5] rfl) hP hS h
        · have h := h.2 q53
          refine lv_iload hx hb dX11_layDepths_56 (lv_at hl 5 rfl) ?_
          refine lv_goto (tgt := 63) hx hb dX11_layDepths_58 (by decide) ?_
          exact J63 _ K124 hB hK124 x1 x3 x5 x6 x6 M _ _ _ (lv_sub hl [0, 1, 2, 4, 5] rfl) hP hS h
  have hl := lv_entry ([.ref (ad 0), .int a1, .int a2]) (n := 7) (Nat.le_of_ble_eq_true rfl)
  rw [lg_entry_eq]
  generalize (lg_sl ([.ref (ad 0), .int a1, .int a2]) ++ List.replicate (7 - (lg_sl ([.ref (ad 0), .int a1, .int a2])).length) Slot.unset).toArray = ls at hl ⊢
  have hl : lv_has ls 7 [(0, .ref (ad 0)), (1, .int a1), (2, .int a2)] := hl
  refine lv_aload_n hx hb dX11_layDepths_0 rfl (lv_at hl 0 rfl) ?_
  refine va_get (D := D) (ci := 11) (v := .int (M 0 0)) (C := RX11) (T := TX11) (N := 26) hx hb hts inX11 hown hK hP 0 (mW_0 cI cZ ad M) rfl 0 (by decide) k0 (fun _ h9 => h9) rfl dX11_layDepths_1 ?_
  refine lv_iload_n hx hb dX11_layDepths_4 rfl (lv_at hl 2 rfl) ?_
  refine lv_imul hx hb dX11_layDepths_5 ?_
  refine lv_iload_n hx hb dX11_layDepths_6 rfl (lv_at hl 1 rfl) ?_
  refine lv_iadd hx hb dX11_layDepths_7 ?_
  refine lv_topi (fun x3_8 ex3_8 => ?_)
  have h := h x3_8 ex3_8
  refine lv_istore_n (lv' := [(3, .int x3_8), (0, .ref (ad 0)), (1, .int a1), (2, .int a2)]) hx hb dX11_layDepths_8 rfl hl (by decide) rfl (fun ls hl => ?_)
  refine lv_iconst (v := 0) hx hb dX11_layDepths_9 (by decide) ?_
  refine lv_istore (lv' := [(4, .int 0), (3, .int x3_8), (0, .ref (ad 0)), (1, .int a1), (2, .int a2)]) hx hb dX11_layDepths_10 hl (by decide) rfl (fun ls hl => ?_)
  refine lv_iconst (v := 0) hx hb dX11_layDepths_12 (by decide) ?_
  refine lv_istore (lv' := [(5, .int 0), (4, .int 0), (3, .int x3_8), (0, .ref (ad 0)), (1, .int a1), (2, .int a2)]) hx hb dX11_layDepths_13 hl (by decide) rfl (fun ls hl => ?_)
  refine lv_iconst (v := 1) hx hb dX11_layDepths_15 (by decide) ?_
  refine lv_istore (lv' := [(6, .int 1), (5, .int 0), (4, .int 0), (3, .int x3_8), (0, .ref (ad 0)), (1, .int a1), (2, .int a2)]) hx hb dX11_layDepths_16 hl (by decide) rfl (fun ls hl => ?_)
  obtain ⟨n, h⟩ := h
  refine L18 _ (fun x3 x4 x5 M H locs ls hl hP hS h => ?_) n a1 x3_8 0 0 1 M _ _ _ (lv_sub hl [4, 5, 3, 2, 1, 0] rfl) hP hS h
  refine lv_aload_n hx hb dX11_layDepths_124 rfl (lv_at hl 0 rfl) ?_
  refine va_get (D := D) (ci := 11) (v := .ref (ad 14)) (C := RX11) (T := TX11) (N := 26) hx hb hts inX11 hown hK hP 0 (mW_0 cI cZ ad M) rfl 19 (by decide) k4 (fun _ h9 => h9) rfl dX11_layDepths_125 ?_
  refine lv_iload_n hx hb dX11_layDepths_128 rfl (lv_at hl 1 rfl) ?_
  refine lv_iload hx hb dX11_layDepths_129 (lv_at hl 2 rfl) ?_
  obtain ⟨hi131, h⟩ := h
  refine va_iast hx hb hK hP (hD M) hS 14 0 (mW_14 cI cZ ad M) rfl hi131 dX11_layDepths_131 (fun H locs hP _ hS => ?_)
  refine mQ_14 hP (fun M131 eM131 hP => ?_)
  have h := h M131 eM131
  refine lv_aload_n hx hb dX11_layDepths_132 rfl (lv_at hl 0 rfl) ?_
  refine va_get (D := D) (ci := 11) (v := .ref (ad 15)) (C := RX11) (T := TX11) (N := 26) hx hb hts inX11 hown hK hP 0 (mW_0 cI cZ ad M131) rfl 20 (by decide) k5 (fun _ h9 => h9) rfl dX11_layDepths_133 ?_
  refine lv_iload_n hx hb dX11_layDepths_136 rfl (lv_at hl 1 rfl) ?_
  refine lv_iload hx hb dX11_layDepths_137 (lv_at hl 3 rfl) ?_
  obtain ⟨hi139, h⟩ := h
  refine va_iast hx hb hK hP (hD M131) hS 15 0 (mW_15 cI cZ ad M131) rfl hi139 dX11_layDepths_139 (fun H locs hP _ hS => ?_)
  refine mQ_15 hP (fun M139 eM139 hP => ?_)
  have h := h M139 eM139
  exact W.vret hx hb hr (fun t ht hW => ⟨⟨M139, rfl, h, mAt_of ht hP⟩, hS.F ht⟩) hS.2.2 dX11_layDepths_140
set_option maxHeartbeats 4000000 in
set_option maxRecDepth 100000 in
theorem kX11_isKnown (l : Launch) (D : va_G) (cI cZ : ClassId) (ad : Nat → Nat) (hD : ∀ M : Mem, va_D (mA ad) (mW cI cZ ad M)) (M : Mem) (a1 a2 a3 : Int32) (Q : Int32 → Mem → Prop) (h : wX11_isKnown M a1 a2 a3 Q) : Met l yX11_isKnown uX11_isKnown ({ frames := 2, cells := 0, slots := 0, locals := 46 }) (va_Pc [.ref (ad 0), .int a1, .int a2, .int a3] (mPre D cI cZ ad M)) (va_Qi Q (mAt D cI cZ ad) (mA ad)) 0 0 (mA ad) := by
  refine Met.ofW (cc := cX11_isKnown) (maxL := 4) (ret := (some .boolean)) (by decide) rfl ?_
  intro p e s m args below meth c s₁ B hml hv
  obtain ⟨rfl, hP, hK⟩ := hv
  have hx := B.exec
  have hb := B.bytes
  have hr := B.returns
  have hts := atoms_spec (ws := uX11_isKnown) B.pre
  have hown : s.vm.findClass RX11 = some m.cls := findClass_of_methodNamed B.named
  have hlocks := B.notSynchronized
  have hS : va_S (mA ad) s.heap s.heap [] := va_S.rf
  have hl := lv_entry ([.ref (ad 0), .int a1, .int a2, .int a3]) (n := 4) (Nat.le_of_ble_eq_true rfl)
  rw [lg_entry_eq]
  generalize (lg_sl ([.ref (ad 0), .int a1, .int a2, .int a3]) ++ List.replicate (4 - (lg_sl ([.ref (ad 0), .int a1, .int a2, .int a3])).length) Slot.unset).toArray = ls at hl ⊢
  have hl : lv_has ls 4 [(0, .ref (ad 0)), (1, .int a1), (2, .int a2), (3, .int a3)] := hl
  refine lv_aload_n hx hb dX11_isKnown_0 rfl (lv_at hl 0 rfl) ?_
  refine lv_iload_n hx hb dX11_isKnown_1 rfl (lv_at hl 2 rfl) ?_
  refine lv_iload_n hx hb dX11_isKnown_2 rfl (lv_at hl 3 rfl) ?_
  refine m_callVi (As := [.int a2, .int a3]) (rest := []) ⟨hx, hb, hml, hown, hts⟩ (kX11_isSquare l D cI cZ ad hD M a2 a3 _ h) (cwV 2 hts (gdV uS (inA_13 _ (List.mem_of_getElem? (i := 11) rfl)) vX11_isSquare) rfl rfl rfl (by decide +kernel) ⟨Nat.le_of_ble_eq_true rfl, Nat.le_of_ble_eq_true rfl⟩) (va_recv hK hP (ci := 11) (q0 := 0) rfl (mW_0 cI cZ ad M)) hP hK hS hl.1 rfl rfl (Nat.le_of_ble_eq_true rfl) dX11_isKnown_3 (fun r3 M3 H locs h hP hS => ?_)
  refine lv_if_eq (tgt := 23) hx hb dX11_isKnown_6 (by decide) (fun q6 => ?_) (fun q6 => ?_)
  · have h := h.1 q6
    refine lv_iconst (v := 0) hx hb dX11_isKnown_23 (by decide) ?_
    exact W.zret (v := 0) hx hb hr rfl (fun t ht hW => ⟨⟨0, M3, rfl, h, mAt_of ht hP⟩, hS.F ht⟩) hS.2.2 dX11_isKnown_24
  · have h := h.2 q6
    refine lv_aload_n hx hb dX11_isKnown_9 rfl (lv_at hl 0 rfl) ?_
    refine lv_iload_n hx hb dX11_isKnown_10 rfl (lv_at hl 1 rfl) ?_
    refine lv_iload_n hx hb dX11_isKnown_11 rfl (lv_at hl 2 rfl) ?_
    refine lv_iload_n hx hb dX11_isKnown_12 rfl (lv_at hl 3 rfl) ?_
    refine m_callVi (As := [.int a1, .int a2, .int a3]) (rest := []) ⟨hx, hb, hml, hown, hts⟩ (kX11_isLost l D cI cZ ad hD M3 a1 a2 a3 _ h) (cwV 3 hts (gdV uS (inA_13 _ (List.mem_of_getElem? (i := 15) rfl)) vX11_isLost) rfl rfl rfl (by decide +kernel) ⟨Nat.le_of_ble_eq_true rfl, Nat.le_of_ble_eq_true rfl⟩) (va_recv hK hP (ci := 11) (q0 := 0) rfl (mW_0 cI cZ ad M3)) hP hK hS hl.1 rfl rfl (Nat.le_of_ble_eq_true rfl) dX11_isKnown_13 (fun r13 M13 H locs h hP hS => ?_)
    refine lv_if_ne (tgt := 23) hx hb dX11_isKnown_16 (by decide) (fun q16 => ?_) (fun q16 => ?_)
    · have h := h.1 q16
      refine lv_iconst (v := 0) hx hb dX11_isKnown_23 (by decide) ?_
      exact W.zret (v := 0) hx hb hr rfl (fun t ht hW => ⟨⟨0, M13, rfl, h, mAt_of ht hP⟩, hS.F ht⟩) hS.2.2 dX11_isKnown_24
    · have h := h.2 q16
      refine lv_iconst (v := 1) hx hb dX11_isKnown_19 (by decide) ?_
      refine lv_goto (tgt := 24) hx hb dX11_isKnown_20 (by decide) ?_
      exact W.zret (v := 1) hx hb hr rfl (fun t ht hW => ⟨⟨1, M13, rfl, h, mAt_of ht hP⟩, hS.F ht⟩) hS.2.2 dX11_isKnown_24
abbrev GX11_costAt (p : Program) (l : Launch) (e : Env) (s : State) (m : MethodId) (below : List Frame) (meth : Method) (c : Code) (D : va_G) (cI cZ : ClassId) (ad : Nat → Nat) (a1 a2 a3 : Int32) (Q : Int32 → Mem → Prop) (H : Heap) (locs : List Loc) (g : JFrame) : Prop := W p l e (headSpec uX11_costAt { frames := 3, cells := 0, slots := 0, locals := 69 }).room s m ([.ref (ad 0), .int a1, .int a2, .int a3] : List Value).toArray below meth c H locs 0 0 (MQ below (va_Qi Q (mAt D cI cZ ad) (mA ad)) ([.ref (ad 0), .int a1, .int a2, .int a3] : List Value).toArray s 0 0 (mA ad)) g
set_option maxHeartbeats 4000000 in
set_option maxRecDepth 100000 in
theorem kX11_costAt (l : Launch) (D : va_G) (cI cZ : ClassId) (ad : Nat → Nat) (hD : ∀ M : Mem, va_D (mA ad) (mW cI cZ ad M)) (M : Mem) (a1 a2 a3 : Int32) (Q : Int32 → Mem → Prop) (h : wX11_costAt M a1 a2 a3 Q) : Met l yX11_costAt uX11_costAt ({ frames := 3, cells := 0, slots := 0, locals := 69 }) (va_Pc [.ref (ad 0), .int a1, .int a2, .int a3] (mPre D cI cZ ad M)) (va_Qi Q (mAt D cI cZ ad) (mA ad)) 0 0 (mA ad) := by
  refine Met.ofW (cc := cX11_costAt) (maxL := 12) (ret := (some .int)) (by decide) rfl ?_
  intro p e s m args below meth c s₁ B hml hv
  obtain ⟨rfl, hP, hK⟩ := hv
  have hx := B.exec
  have hb := B.bytes
  have hr := B.returns
  have hts := atoms_spec (ws := uX11_costAt) B.pre
  have hown : s.vm.findClass RX11 = some m.cls := findClass_of_methodNamed B.named
  have hlocks := B.notSynchronized
  have hS : va_S (mA ad) s.heap s.heap [] := va_S.rf
  have k0 := hts (.fieldLink RX11 16 "TwoEyesModel" "shades" "[I") (List.mem_cons_of_mem _ (inA_6 _ (List.mem_of_getElem? (i := 20) rfl)))
  have inX11 : ∀ w ∈ wsX110, w ∈ uX11_costAt := fun w h => List.mem_cons_of_mem _ (inCX11 w h)
  have J180 : ∀ (B : Int32 → Int32 → Int32 → Int32 → Int32 → Int32 → Int32 → Mem → Prop) (K205 : Int32 → Mem → Prop), (∀ (x1 x2 x3 x4 x5 x6 x7 : Int32) (M : Mem) (H : Heap) (locs : List Loc) (ls : Array Slot), lv_has ls 12 [(0, .ref (ad 0)), (1, .int x1), (2, .int x2), (3, .int x3), (4, .int x4), (5, .int x5), (6, .int x6), (7, .int x7)] → va_P D vwCl (mW cI cZ ad M) H → va_S (mA ad) s.heap H locs → B x1 x2 x3 x4 x5 x6 x7 M → GX11_costAt p l e s m below meth c D cI cZ ad a1 a2 a3 Q H locs (F0 m 65 ls [])) → (∀ (x4 : Int32) (M : Mem) (H : Heap) (locs : List Loc) (ls : Array Slot), lv_has ls 12 [(4, .int x4)] → va_P D vwCl (mW cI cZ ad M) H → va_S (mA ad) s.heap H locs → K205 x4 M → GX11_costAt p l e s m below meth c D cI cZ ad a1 a2 a3 Q H locs (F0 m 205 ls [])) → ∀ (x1 x2 x3 x4 x5 x6 x7 x10 t0 : Int32) (M : Mem) (H : Heap) (locs : List Loc) (ls : Array Slot), lv_has ls 12 [(0, .ref (ad 0)), (1, .int x1), (2, .int x2), (3, .int x3), (4, .int x4), (5, .int x5), (6, .int x6), (7, .int x7), (10, .int x10)] → va_P D vwCl (mW cI cZ ad M) H → va_S (mA ad) s.heap H locs → wX11_costAt_J180 B K205 Q x1 x2 x3 x4 x5 x6 x7 x10 t0 M → GX11_costAt p l e s m below meth c D cI cZ ad a1 a2 a3 Q H locs (F0 m 180 ls [.int t0]) := by
    intro B K205 hB hK205 x1 x2 x3 x4 x5 x6 x7 x10 t0 M H locs ls hl hP hS h
    refine lv_istore (lv' := [(11, .int t0), (0, .ref (ad 0)), (1, .int x1), (2, .int x2), (3, .int x3), (4, .int x4), (5, .int x5), (6, .int x6), (7, .int x7), (10, .int x10)]) hx hb dX11_costAt_180 hl (by decide) rfl (fun ls hl => ?_)
    refine lv_iload hx hb dX11_costAt_182 (lv_at hl 5 rfl) ?_
    refine lv_iload hx hb dX11_costAt_184 (lv_at hl 9 rfl) ?_
    refine lv_iload hx hb dX11_costAt_186 (lv_at hl 0 rfl) ?_
    refine lv_icmp_eq (tgt := 195) hx hb dX11_costAt_188 (by decide) (fun q188 => ?_) (fun q188 => ?_)
    · have h := h.1 q188
      refine lv_iconst (v := 0) hx hb dX11_costAt_195 (by decide) ?_
      refine lv_iadd hx hb dX11_costAt_196 ?_
      refine lv_topi (fun x4_197 ex4_197 => ?_)
      have h := h x4_197 ex4_197
      refine lv_istore (lv' := [(4, .int x4_197), (11, .int t0), (0, .ref (ad 0)), (1, .int x1), (2, .int x2), (3, .int x3), (5, .int x5), (6, .int x6), (7, .int x7), (10, .int x10)]) hx hb dX11_costAt_197 hl (by decide) rfl (fun ls hl => ?_)
      obtain ⟨x7_199, ex7_199⟩ : ∃ y : Int32, y = x7 + 1 := ⟨_, rfl⟩
      have h := h x7_199 ex7_199
      refine lv_iinc (v := x7_199) (lv' := [(7, .int x7_199), (4, .int x4_197), (11, .int t0), (0, .ref (ad 0)), (1, .int x1), (2, .int x2), (3, .int x3), (5, .int x5), (6, .int x6), (10, .int x10)]) hx hb dX11_costAt_199 hl (k := 8) rfl (by rw [ex7_199]; rfl) (by decide) rfl (fun ls hl => ?_)
      refine lv_goto (tgt := 65) hx hb dX11_costAt_202 (by decide) ?_
      exact hB x1 x2 x3 x4_197 x5 x6 x7_199 M _ _ _ (lv_sub hl [3, 4, 5, 6, 1, 7, 8, 0] rfl) hP hS h
    · have h := h.2 q188
      refine lv_iconst (v := 1) hx hb dX11_costAt_191 (by decide) ?_
      refine lv_goto (tgt := 196) hx hb dX11_costAt_192 (by decide) ?_
      refine lv_iadd hx hb dX11_costAt_196 ?_
      refine lv_topi (fun x4_197 ex4_197 => ?_)
      have h := h x4_197 ex4_197
      refine lv_istore (lv' := [(4, .int x4_197), (11, .int t0), (0, .ref (ad 0)), (1, .int x1), (2, .int x2), (3, .int x3), (5, .int x5), (6, .int x6), (7, .int x7), (10, .int x10)]) hx hb dX11_costAt_197 hl (by decide) rfl (fun ls hl => ?_)
      obtain ⟨x7_199, ex7_199⟩ : ∃ y : Int32, y = x7 + 1 := ⟨_, rfl⟩
      have h := h x7_199 ex7_199
      refine lv_iinc (v := x7_199) (lv' := [(7, .int x7_199), (4, .int x4_197), (11, .int t0), (0, .ref (ad 0)), (1, .int x1), (2, .int x2), (3, .int x3), (5, .int x5), (6, .int x6), (10, .int x10)]) hx hb dX11_costAt_199 hl (k := 8) rfl (by rw [ex7_199]; rfl) (by decide) rfl (fun ls hl => ?_)
      refine lv_goto (tgt := 65) hx hb dX11_costAt_202 (by decide) ?_
      exact hB x1 x2 x3 x4_197 x5 x6 x7_199 M _ _ _ (lv_sub hl [3, 4, 5, 6, 1, 7, 8, 0] rfl) hP hS h
  have J148 : ∀ (B : Int32 → Int32 → Int32 → Int32 → Int32 → Int32 → Int32 → Mem → Prop) (K205 : Int32 → Mem → Prop), (∀ (x1 x2 x3 x4 x5 x6 x7 : Int32) (M : Mem) (H : Heap) (locs : List Loc) (ls : Array Slot), lv_has ls 12 [(0, .ref (ad 0)), (1, .int x1), (2, .int x2), (3, .int x3), (4, .int x4), (5, .int x5), (6, .int x6), (7, .int x7)] → va_P D vwCl (mW cI cZ ad M) H → va_S (mA ad) s.heap H locs → B x1 x2 x3 x4 x5 x6 x7 M → GX11_costAt p l e s m below meth c D cI cZ ad a1 a2 a3 Q H locs (F0 m 65 ls [])) → (∀ (x4 : Int32) (M : Mem) (H : Heap) (locs : List Loc) (ls : Array Slot), lv_has ls 12 [(4, .int x4)] → va_P D vwCl (mW cI cZ ad M) H → va_S (mA ad) s.heap H locs → K205 x4 M → GX11_costAt p l e s m below meth c D cI cZ ad a1 a2 a3 Q H locs (F0 m 205 ls [])) → ∀ (x1 x2 x3 x4 x5 x6 x7 x8 x9 t0 : Int32) (M : Mem) (H : Heap) (locs : List Loc) (ls : Array Slot), lv_has ls 12 [(0, .ref (ad 0)), (1, .int x1), (2, .int x2), (3, .int x3), (4, .int x4), (5, .int x5), (6, .int x6), (7, .int x7), (8, .int x8), (9, .int x9)] → va_P D vwCl (mW cI cZ ad M) H → va_S (mA ad) s.heap H locs → wX11_costAt_J148 B K205 Q x1 x2 x3 x4 x5 x6 x7 x8 x9 t0 M → GX11_costAt p l e s m below meth c D cI cZ ad a1 a2 a3 Q H locs (F0 m 148 ls [.int t0]) := by
    intro B K205 hB hK205 x1 x2 x3 x4 x5 x6 x7 x8 x9 t0 M H locs ls hl hP hS h
    refine lv_istore (lv' := [(10, .int t0), (0, .ref (ad 0)), (1, .int x1), (2, .int x2), (3, .int x3), (4, .int x4), (5, .int x5), (6, .int x6), (7, .int x7), (8, .int x8), (9, .int x9)]) hx hb dX11_costAt_148 hl (by decide) rfl (fun ls hl => ?_)
    refine lv_aload_n hx hb dX11_costAt_150 rfl (lv_at hl 1 rfl) ?_
    refine va_get (D := D) (ci := 11) (v := .ref (ad 1)) (C := RX11) (T := TX11) (N := 26) hx hb hts inX11 hown hK hP 0 (mW_0 cI cZ ad M) rfl 2 (by decide) k0 (fun _ h9 => h9) rfl dX11_costAt_151 ?_
    refine lv_aload_n hx hb dX11_costAt_154 rfl (lv_at hl 1 rfl) ?_
    refine lv_iconst (v := 1) hx hb dX11_costAt_155 (by decide) ?_
    refine lv_iload_n hx hb dX11_costAt_156 rfl (lv_at hl 2 rfl) ?_
    refine lv_iload_n hx hb dX11_costAt_157 rfl (lv_at hl 4 rfl) ?_
    refine lv_isub hx hb dX11_costAt_158 ?_
    refine lv_iload hx hb dX11_costAt_159 (lv_at hl 9 rfl) ?_
    refine lv_iadd hx hb dX11_costAt_161 ?_
    refine lv_iload_n hx hb dX11_costAt_162 rfl (lv_at hl 3 rfl) ?_
    refine lv_iload hx hb dX11_costAt_163 (lv_at hl 10 rfl) ?_
    refine lv_iadd hx hb dX11_costAt_165 ?_
    refine m_callVi (As := [.int 1, .int ((x1 - x3) + x8), .int (x2 + x9)]) (rest := [.ref (ad 1)]) ⟨hx, hb, hml, hown, hts⟩ (kX11_at l D cI cZ ad hD M 1 ((x1 - x3) + x8) (x2 + x9) _ h) (cwV 3 hts (gdV uS (inA_11 _ (List.mem_of_getElem? (i := 6) rfl)) vX11_at) rfl rfl rfl (by decide +kernel) ⟨Nat.le_of_ble_eq_true rfl, Nat.le_of_ble_eq_true rfl⟩) (va_recv hK hP (ci := 11) (q0 := 0) rfl (mW_0 cI cZ ad M)) hP hK hS hl.1 rfl rfl (Nat.le_of_ble_eq_true rfl) dX11_costAt_166 (fun r166 M166 H locs h hP hS => ?_)
    obtain ⟨hi169, h⟩ := h
    refine va_iald hx hb hK hP 1 0 (mW_1 cI cZ ad M166) rfl hi169 dX11_costAt_169 ?_
    refine lv_iload hx hb dX11_costAt_170 (lv_at hl 7 rfl) ?_
    refine lv_icmp_ge (tgt := 179) hx hb dX11_costAt_172 (by decide) (fun q172 => ?_) (fun q172 => ?_)
    · have h := h.1 q172
      refine lv_iconst (v := 0) hx hb dX11_costAt_179 (by decide) ?_
      exact J180 _ K205 hB hK205 x1 x2 x3 x4 x5 x6 x7 t0 0 M166 _ _ _ (lv_sub hl [1, 2, 3, 4, 5, 6, 7, 8, 0] rfl) hP hS h
    · have h := h.2 q172
      refine lv_iconst (v := 1) hx hb dX11_costAt_175 (by decide) ?_
      refine lv_goto (tgt := 180) hx hb dX11_costAt_176 (by decide) ?_
      exact J180 _ K205 hB hK205 x1 x2 x3 x4 x5 x6 x7 t0 1 M166 _ _ _ (lv_sub hl [1, 2, 3, 4, 5, 6, 7, 8, 0] rfl) hP hS h
  have L65 : ∀ (K205 : Int32 → Mem → Prop), (∀ (x4 : Int32) (M : Mem) (H : Heap) (locs : List Loc) (ls : Array Slot), lv_has ls 12 [(4, .int x4)] → va_P D vwCl (mW cI cZ ad M) H → va_S (mA ad) s.heap H locs → K205 x4 M → GX11_costAt p l e s m below meth c D cI cZ ad a1 a2 a3 Q H locs (F0 m 205 ls [])) → ∀ n : Nat, ∀ (x1 x2 x3 x4 x5 x6 x7 : Int32) (M : Mem) (H : Heap) (locs : List Loc) (ls : Array Slot), lv_has ls 12 [(0, .ref (ad 0)), (1, .int x1), (2, .int x2), (3, .int x3), (4, .int x4), (5, .int x5), (6, .int x6), (7, .int x7)] → va_P D vwCl (mW cI cZ ad M) H → va_S (mA ad) s.heap H locs → wX11_costAt_L65 K205 Q n x1 x2 x3 x4 x5 x6 x7 M → GX11_costAt p l e s m below meth c D cI cZ ad a1 a2 a3 Q H locs (F0 m 65 ls []) := by
    intro K205 hK205 n
    induction n with
    | zero => intro x1 x2 x3 x4 x5 x6 x7 M H locs ls hl hP hS h; exact (show False from h).elim
    | succ n hB =>
      intro x1 x2 x3 x4 x5 x6 x7 M H locs ls hl hP hS h
      rw [wX11_costAt_L65_s] at h
      refine lv_iload hx hb dX11_costAt_65 (lv_at hl 7 rfl) ?_
      refine lv_bipush (v := 8) hx hb dX11_costAt_67 (by decide) ?_
      refine lv_icmp_ge (tgt := 205) hx hb dX11_costAt_69 (by decide) (fun q69 => ?_) (fun q69 => ?_)
      · have h := h.1 q69
        exact hK205 x4 M _ _ _ (lv_sub hl [4] rfl) hP hS h
      · have h := h.2 q69
        refine lv_iload hx hb dX11_costAt_72 (lv_at hl 7 rfl) ?_
        refine m_callSi (As := [.int x7]) (rest := []) ⟨hx, hb, hml, hown, hts⟩ (kX11_acrossOf l D cI cZ ad hD M x7 _ h) (va_cwS 1 hts (gdS uS (inA_21 _ (List.mem_of_getElem? (i := 13) rfl)) vX11_acrossOf) rfl rfl rfl (by decide +kernel) ⟨Nat.le_of_ble_eq_true rfl, Nat.le_of_ble_eq_true rfl⟩) hP hK hS hl.1 rfl rfl (Nat.le_of_ble_eq_true rfl) dX11_costAt_74 (fun r74 M74 H locs h hP hS => ?_)
        refine lv_istore (lv' := [(8, .int r74), (0, .ref (ad 0)), (1, .int x1), (2, .int x2), (3, .int x3), (4, .int x4), (5, .int x5), (6, .int x6), (7, .int x7)]) hx hb dX11_costAt_77 hl (by decide) rfl (fun ls hl => ?_)
        refine lv_iload hx hb dX11_costAt_79 (lv_at hl 8 rfl) ?_
        refine m_callSi (As := [.int x7]) (rest := []) ⟨hx, hb, hml, hown, hts⟩ (kX11_downOf l D cI cZ ad hD M74 x7 _ h) (va_cwS 1 hts (gdS uS (inA_21 _ (List.mem_of_getElem? (i := 16) rfl)) vX11_downOf) rfl rfl rfl (by decide +kernel) ⟨Nat.le_of_ble_eq_true rfl, Nat.le_of_ble_eq_true rfl⟩) hP hK hS hl.1 rfl rfl (Nat.le_of_ble_eq_true rfl) dX11_costAt_81 (fun r81 M81 H locs h hP hS => ?_)
        refine lv_istore (lv' := [(9, .int r81), (8, .int r74), (0, .ref (ad 0)), (1, .int x1), (2, .int x2), (3, .int x3), (4, .int x4), (5, .int x5), (6, .int x6), (7, .int x7)]) hx hb dX11_costAt_84 hl (by decide) rfl (fun ls hl => ?_)
        refine lv_aload_n hx hb dX11_costAt_86 rfl (lv_at hl 2 rfl) ?_
        refine lv_iconst (v := 0) hx hb dX11_costAt_87 (by decide) ?_
        refine lv_iload_n hx hb dX11_costAt_88 rfl (lv_at hl 3 rfl) ?_
        refine lv_iload hx hb dX11_costAt_89 (lv_at hl 1 rfl) ?_
        refine lv_iadd hx hb dX11_costAt_91 ?_
        refine lv_iload_n hx hb dX11_costAt_92 rfl (lv_at hl 4 rfl) ?_
        refine lv_iload hx hb dX11_costAt_93 (lv_at hl 0 rfl) ?_
        refine lv_iadd hx hb dX11_costAt_95 ?_
        refine m_callVi (As := [.int 0, .int (x1 + r74), .int (x2 + r81)]) (rest := []) ⟨hx, hb, hml, hown, hts⟩ (kX11_isKnown l D cI cZ ad hD M81 0 (x1 + r74) (x2 + r81) _ h) (cwV 3 hts (gdV uS (inA_21 _ (List.mem_of_getElem? (i := 19) rfl)) vX11_isKnown) rfl rfl rfl (by decide +kernel) ⟨Nat.le_of_ble_eq_true rfl, Nat.le_of_ble_eq_true rfl⟩) (va_recv hK hP (ci := 11) (q0 := 0) rfl (mW_0 cI cZ ad M81)) hP hK hS hl.1 rfl rfl (Nat.le_of_ble_eq_true rfl) dX11_costAt_96 (fun r96 M96 H locs h hP hS => ?_)
        refine lv_if_eq (tgt := 199) hx hb dX11_costAt_99 (by decide) (fun q99 => ?_) (fun q99 => ?_)
        · have h := h.1 q99
          obtain ⟨x7_199, ex7_199⟩ : ∃ y : Int32, y = x7 + 1 := ⟨_, rfl⟩
          have h := h x7_199 ex7_199
          refine lv_iinc (v := x7_199) (lv' := [(7, .int x7_199), (9, .int r81), (8, .int r74), (0, .ref (ad 0)), (1, .int x1), (2, .int x2), (3, .int x3), (4, .int x4), (5, .int x5), (6, .int x6)]) hx hb dX11_costAt_199 hl (k := 9) rfl (by rw [ex7_199]; rfl) (by decide) rfl (fun ls hl => ?_)
          refine lv_goto (tgt := 65) hx hb dX11_costAt_202 (by decide) ?_
          exact hB x1 x2 x3 x4 x5 x6 x7_199 M96 _ _ _ (lv_sub hl [3, 4, 5, 6, 7, 8, 9, 0] rfl) hP hS h
        · have h := h.2 q99
          refine lv_aload_n hx hb dX11_costAt_102 rfl (lv_at hl 2 rfl) ?_
          refine lv_iconst (v := 1) hx hb dX11_costAt_103 (by decide) ?_
          refine lv_iload_n hx hb dX11_costAt_104 rfl (lv_at hl 3 rfl) ?_
          refine lv_iload_n hx hb dX11_costAt_105 rfl (lv_at hl 5 rfl) ?_
          refine lv_isub hx hb dX11_costAt_106 ?_
          refine lv_iload hx hb dX11_costAt_107 (lv_at hl 1 rfl) ?_
          refine lv_iadd hx hb dX11_costAt_109 ?_
          refine lv_iload_n hx hb dX11_costAt_110 rfl (lv_at hl 4 rfl) ?_
          refine lv_iload hx hb dX11_costAt_111 (lv_at hl 0 rfl) ?_
          refine lv_iadd hx hb dX11_costAt_113 ?_
          refine m_callVi (As := [.int 1, .int ((x1 - x3) + r74), .int (x2 + r81)]) (rest := []) ⟨hx, hb, hml, hown, hts⟩ (kX11_isKnown l D cI cZ ad hD M96 1 ((x1 - x3) + r74) (x2 + r81) _ h) (cwV 3 hts (gdV uS (inA_21 _ (List.mem_of_getElem? (i := 19) rfl)) vX11_isKnown) rfl rfl rfl (by decide +kernel) ⟨Nat.le_of_ble_eq_true rfl, Nat.le_of_ble_eq_true rfl⟩) (va_recv hK hP (ci := 11) (q0 := 0) rfl (mW_0 cI cZ ad M96)) hP hK hS hl.1 rfl rfl (Nat.le_of_ble_eq_true rfl) dX11_costAt_114 (fun r114 M114 H locs h hP hS => ?_)
          refine lv_if_eq (tgt := 199) hx hb dX11_costAt_117 (by decide) (fun q117 => ?_) (fun q117 => ?_)
          · have h := h.1 q117
            obtain ⟨x7_199, ex7_199⟩ : ∃ y : Int32, y = x7 + 1 := ⟨_, rfl⟩
            have h := h x7_199 ex7_199
            refine lv_iinc (v := x7_199) (lv' := [(7, .int x7_199), (9, .int r81), (8, .int r74), (0, .ref (ad 0)), (1, .int x1), (2, .int x2), (3, .int x3), (4, .int x4), (5, .int x5), (6, .int x6)]) hx hb dX11_costAt_199 hl (k := 9) rfl (by rw [ex7_199]; rfl) (by decide) rfl (fun ls hl => ?_)
            refine lv_goto (tgt := 65) hx hb dX11_costAt_202 (by decide) ?_
            exact hB x1 x2 x3 x4 x5 x6 x7_199 M114 _ _ _ (lv_sub hl [3, 4, 5, 6, 7, 8, 9, 0] rfl) hP hS h
          · have h := h.2 q117
            refine lv_aload_n hx hb dX11_costAt_120 rfl (lv_at hl 2 rfl) ?_
            refine va_get (D := D) (ci := 11) (v := .ref (ad 1)) (C := RX11) (T := TX11) (N := 26) hx hb hts inX11 hown hK hP 0 (mW_0 cI cZ ad M114) rfl 2 (by decide) k0 (fun _ h9 => h9) rfl dX11_costAt_121 ?_
            refine lv_aload_n hx hb dX11_costAt_124 rfl (lv_at hl 2 rfl) ?_
            refine lv_iconst (v := 0) hx hb dX11_costAt_125 (by decide) ?_
            refine lv_iload_n hx hb dX11_costAt_126 rfl (lv_at hl 3 rfl) ?_
            refine lv_iload hx hb dX11_costAt_127 (lv_at hl 1 rfl) ?_
            refine lv_iadd hx hb dX11_costAt_129 ?_
            refine lv_iload_n hx hb dX11_costAt_130 rfl (lv_at hl 4 rfl) ?_
            refine lv_iload hx hb dX11_costAt_131 (lv_at hl 0 rfl) ?_
            refine lv_iadd hx hb dX11_costAt_133 ?_
            refine m_callVi (As := [.int 0, .int (x1 + r74), .int (x2 + r81)]) (rest := [.ref (ad 1)]) ⟨hx, hb, hml, hown, hts⟩ (kX11_at l D cI cZ ad hD M114 0 (x1 + r74) (x2 + r81) _ h) (cwV 3 hts (gdV uS (inA_11 _ (List.mem_of_getElem? (i := 6) rfl)) vX11_at) rfl rfl rfl (by decide +kernel) ⟨Nat.le_of_ble_eq_true rfl, Nat.le_of_ble_eq_true rfl⟩) (va_recv hK hP (ci := 11) (q0 := 0) rfl (mW_0 cI cZ ad M114)) hP hK hS hl.1 rfl rfl (Nat.le_of_ble_eq_true rfl) dX11_costAt_134 (fun r134 M134 H locs h hP hS => ?_)
            obtain ⟨hi137, h⟩ := h
            refine va_iald hx hb hK hP 1 0 (mW_1 cI cZ ad M134) rfl hi137 dX11_costAt_137 ?_
            refine lv_iload hx hb dX11_costAt_138 (lv_at hl 7 rfl) ?_
            refine lv_icmp_ge (tgt := 147) hx hb dX11_costAt_140 (by decide) (fun q140 => ?_) (fun q140 => ?_)
            · have h := h.1 q140
              refine lv_iconst (v := 0) hx hb dX11_costAt_147 (by decide) ?_
              exact J148 _ K205 hB hK205 x1 x2 x3 x4 x5 x6 x7 r74 r81 0 M134 _ _ _ (lv_sub hl [2, 3, 4, 5, 6, 7, 8, 9, 1, 0] rfl) hP hS h
            · have h := h.2 q140
              refine lv_iconst (v := 1) hx hb dX11_costAt_143 (by decide) ?_
              refine lv_goto (tgt := 148) hx hb dX11_costAt_144 (by decide) ?_
              exact J148 _ K205 hB hK205 x1 x2 x3 x4 x5 x6 x7 r74 r81 1 M134 _ _ _ (lv_sub hl [2, 3, 4, 5, 6, 7, 8, 9, 1, 0] rfl) hP hS h
  have hl := lv_entry ([.ref (ad 0), .int a1, .int a2, .int a3]) (n := 12) (Nat.le_of_ble_eq_true rfl)
  rw [lg_entry_eq]
  generalize (lg_sl ([.ref (ad 0), .int a1, .int a2, .int a3]) ++ List.replicate (12 - (lg_sl ([.ref (ad 0), .int a1, .int a2, .int a3])).length) Slot.unset).toArray = ls at hl ⊢
  have hl : lv_has ls 12 [(0, .ref (ad 0)), (1, .int a1), (2, .int a2), (3, .int a3)] := hl
  refine lv_iload_n hx hb dX11_costAt_0 rfl (lv_at hl 1 rfl) ?_
  refine lv_iload_n hx hb dX11_costAt_1 rfl (lv_at hl 3 rfl) ?_
  refine lv_icmp_lt (tgt := 27) hx hb dX11_costAt_2 (by decide) (fun q2 => ?_) (fun q2 => ?_)
  · have h := h.1 q2
    refine lv_iconst (v := (-1)) hx hb dX11_costAt_27 (by decide) ?_
    exact W.iret (v := (-1)) hx hb hr (fun t ht hW => ⟨⟨(-1), M, rfl, h, mAt_of ht hP⟩, hS.F ht⟩) hS.2.2 dX11_costAt_28
  · have h := h.2 q2
    refine lv_aload_n hx hb dX11_costAt_5 rfl (lv_at hl 0 rfl) ?_
    refine lv_iconst (v := 0) hx hb dX11_costAt_6 (by decide) ?_
    refine lv_iload_n hx hb dX11_costAt_7 rfl (lv_at hl 1 rfl) ?_
    refine lv_iload_n hx hb dX11_costAt_8 rfl (lv_at hl 2 rfl) ?_
    refine m_callVi (As := [.int 0, .int a1, .int a2]) (rest := []) ⟨hx, hb, hml, hown, hts⟩ (kX11_isLost l D cI cZ ad hD M 0 a1 a2 _ h) (cwV 3 hts (gdV uS (inA_13 _ (List.mem_of_getElem? (i := 15) rfl)) vX11_isLost) rfl rfl rfl (by decide +kernel) ⟨Nat.le_of_ble_eq_true rfl, Nat.le_of_ble_eq_true rfl⟩) (va_recv hK hP (ci := 11) (q0 := 0) rfl (mW_0 cI cZ ad M)) hP hK hS hl.1 rfl rfl (Nat.le_of_ble_eq_true rfl) dX11_costAt_9 (fun r9 M9 H locs h hP hS => ?_)
    refine lv_if_ne (tgt := 27) hx hb dX11_costAt_12 (by decide) (fun q12 => ?_) (fun q12 => ?_)
    · have h := h.1 q12
      refine lv_iconst (v := (-1)) hx hb dX11_costAt_27 (by decide) ?_
      exact W.iret (v := (-1)) hx hb hr (fun t ht hW => ⟨⟨(-1), M9, rfl, h, mAt_of ht hP⟩, hS.F ht⟩) hS.2.2 dX11_costAt_28
    · have h := h.2 q12
      refine lv_aload_n hx hb dX11_costAt_15 rfl (lv_at hl 0 rfl) ?_
      refine lv_iconst (v := 1) hx hb dX11_costAt_16 (by decide) ?_
      refine lv_iload_n hx hb dX11_costAt_17 rfl (lv_at hl 1 rfl) ?_
      refine lv_iload_n hx hb dX11_costAt_18 rfl (lv_at hl 3 rfl) ?_
      refine lv_isub hx hb dX11_costAt_19 ?_
      refine lv_iload_n hx hb dX11_costAt_20 rfl (lv_at hl 2 rfl) ?_
      refine m_callVi (As := [.int 1, .int (a1 - a3), .int a2]) (rest := []) ⟨hx, hb, hml, hown, hts⟩ (kX11_isLost l D cI cZ ad hD M9 1 (a1 - a3) a2 _ h) (cwV 3 hts (gdV uS (inA_13 _ (List.mem_of_getElem? (i := 15) rfl)) vX11_isLost) rfl rfl rfl (by decide +kernel) ⟨Nat.le_of_ble_eq_true rfl, Nat.le_of_ble_eq_true rfl⟩) (va_recv hK hP (ci := 11) (q0 := 0) rfl (mW_0 cI cZ ad M9)) hP hK hS hl.1 rfl rfl (Nat.le_of_ble_eq_true rfl) dX11_costAt_21 (fun r21 M21 H locs h hP hS => ?_)
      refine lv_if_eq (tgt := 29) hx hb dX11_costAt_24 (by decide) (fun q24 => ?_) (fun q24 => ?_)
      · have h := h.1 q24
        refine lv_iconst (v := 0) hx hb dX11_costAt_29 (by decide) ?_
        refine lv_istore (lv' := [(4, .int 0), (0, .ref (ad 0)), (1, .int a1), (2, .int a2), (3, .int a3)]) hx hb dX11_costAt_30 hl (by decide) rfl (fun ls hl => ?_)
        refine lv_aload_n hx hb dX11_costAt_32 rfl (lv_at hl 1 rfl) ?_
        refine va_get (D := D) (ci := 11) (v := .ref (ad 1)) (C := RX11) (T := TX11) (N := 26) hx hb hts inX11 hown hK hP 0 (mW_0 cI cZ ad M21) rfl 2 (by decide) k0 (fun _ h9 => h9) rfl dX11_costAt_33 ?_
        refine lv_aload_n hx hb dX11_costAt_36 rfl (lv_at hl 1 rfl) ?_
        refine lv_iconst (v := 0) hx hb dX11_costAt_37 (by decide) ?_
        refine lv_iload_n hx hb dX11_costAt_38 rfl (lv_at hl 2 rfl) ?_
        refine lv_iload_n hx hb dX11_costAt_39 rfl (lv_at hl 3 rfl) ?_
        refine m_callVi (As := [.int 0, .int a1, .int a2]) (rest := [.ref (ad 1)]) ⟨hx, hb, hml, hown, hts⟩ (kX11_at l D cI cZ ad hD M21 0 a1 a2 _ h) (cwV 3 hts (gdV uS (inA_11 _ (List.mem_of_getElem? (i := 6) rfl)) vX11_at) rfl rfl rfl (by decide +kernel) ⟨Nat.le_of_ble_eq_true rfl, Nat.le_of_ble_eq_true rfl⟩) (va_recv hK hP (ci := 11) (q0 := 0) rfl (mW_0 cI cZ ad M21)) hP hK hS hl.1 rfl rfl (Nat.le_of_ble_eq_true rfl) dX11_costAt_40 (fun r40 M40 H locs h hP hS => ?_)
        obtain ⟨hi43, h⟩ := h
        refine va_iald hx hb hK hP 1 0 (mW_1 cI cZ ad M40) rfl hi43 dX11_costAt_43 ?_
        refine lv_topi (fun x5_44 ex5_44 => ?_)
        have h := h x5_44 ex5_44
        refine lv_istore (lv' := [(5, .int x5_44), (4, .int 0), (0, .ref (ad 0)), (1, .int a1), (2, .int a2), (3, .int a3)]) hx hb dX11_costAt_44 hl (by decide) rfl (fun ls hl => ?_)
        refine lv_aload_n hx hb dX11_costAt_46 rfl (lv_at hl 2 rfl) ?_
        refine va_get (D := D) (ci := 11) (v := .ref (ad 1)) (C := RX11) (T := TX11) (N := 26) hx hb hts inX11 hown hK hP 0 (mW_0 cI cZ ad M40) rfl 2 (by decide) k0 (fun _ h9 => h9) rfl dX11_costAt_47 ?_
        refine lv_aload_n hx hb dX11_costAt_50 rfl (lv_at hl 2 rfl) ?_
        refine lv_iconst (v := 1) hx hb dX11_costAt_51 (by decide) ?_
        refine lv_iload_n hx hb dX11_costAt_52 rfl (lv_at hl 3 rfl) ?_
        refine lv_iload_n hx hb dX11_costAt_53 rfl (lv_at hl 5 rfl) ?_
        refine lv_isub hx hb dX11_costAt_54 ?_
        refine lv_iload_n hx hb dX11_costAt_55 rfl (lv_at hl 4 rfl) ?_
        refine m_callVi (As := [.int 1, .int (a1 - a3), .int a2]) (rest := [.ref (ad 1)]) ⟨hx, hb, hml, hown, hts⟩ (kX11_at l D cI cZ ad hD M40 1 (a1 - a3) a2 _ h) (cwV 3 hts (gdV uS (inA_11 _ (List.mem_of_getElem? (i := 6) rfl)) vX11_at) rfl rfl rfl (by decide +kernel) ⟨Nat.le_of_ble_eq_true rfl, Nat.le_of_ble_eq_true rfl⟩) (va_recv hK hP (ci := 11) (q0 := 0) rfl (mW_0 cI cZ ad M40)) hP hK hS hl.1 rfl rfl (Nat.le_of_ble_eq_true rfl) dX11_costAt_56 (fun r56 M56 H locs h hP hS => ?_)
        obtain ⟨hi59, h⟩ := h
        refine va_iald hx hb hK hP 1 0 (mW_1 cI cZ ad M56) rfl hi59 dX11_costAt_59 ?_
        refine lv_topi (fun x6_60 ex6_60 => ?_)
        have h := h x6_60 ex6_60
        refine lv_istore (lv' := [(6, .int x6_60), (5, .int x5_44), (4, .int 0), (0, .ref (ad 0)), (1, .int a1), (2, .int a2), (3, .int a3)]) hx hb dX11_costAt_60 hl (by decide) rfl (fun ls hl => ?_)
        refine lv_iconst (v := 0) hx hb dX11_costAt_62 (by decide) ?_
        refine lv_istore (lv' := [(7, .int 0), (6, .int x6_60), (5, .int x5_44), (4, .int 0), (0, .ref (ad 0)), (1, .int a1), (2, .int a2), (3, .int a3)]) hx hb dX11_costAt_63 hl (by decide) rfl (fun ls hl => ?_)
        obtain ⟨n, h⟩ := h
        refine L65 _ (fun x4 M H locs ls hl hP hS h => ?_) n a1 a2 a3 0 x5_44 x6_60 0 M56 _ _ _ (lv_sub hl [4, 5, 6, 7, 3, 2, 1, 0] rfl) hP hS h
        refine lv_iload hx hb dX11_costAt_205 (lv_at hl 0 rfl) ?_
        exact W.iret (v := x4) hx hb hr (fun t ht hW => ⟨⟨x4, M, rfl, h, mAt_of ht hP⟩, hS.F ht⟩) hS.2.2 dX11_costAt_207
      · have h := h.2 q24
        refine lv_iconst (v := (-1)) hx hb dX11_costAt_27 (by decide) ?_
        exact W.iret (v := (-1)) hx hb hr (fun t ht hW => ⟨⟨(-1), M21, rfl, h, mAt_of ht hP⟩, hS.F ht⟩) hS.2.2 dX11_costAt_28
set_option maxHeartbeats 4000000 in
set_option maxRecDepth 100000 in
theorem kX11_hang (l : Launch) (D : va_G) (cI cZ : ClassId) (ad : Nat → Nat) (hD : ∀ M : Mem, va_D (mA ad) (mW cI cZ ad M)) (M : Mem) (a1 a2 : Int32) (Q : Int32 → Mem → Prop) (h : wX11_hang M a1 a2 Q) : Met l yX11_hang uX11_hang ({ frames := 0, cells := 0, slots := 0, locals := 0 }) (va_Pc [.ref (ad 0), .int a1, .int a2] (mPre D cI cZ ad M)) (va_Qi Q (mAt D cI cZ ad) (mA ad)) 0 0 (mA ad) := by
  refine Met.ofW (cc := cX11_hang) (maxL := 4) (ret := (some .boolean)) (by decide) rfl ?_
  intro p e s m args below meth c s₁ B hml hv
  obtain ⟨rfl, hP, hK⟩ := hv
  have hx := B.exec
  have hb := B.bytes
  have hr := B.returns
  have hts := atoms_spec (ws := uX11_hang) B.pre
  have hown : s.vm.findClass RX11 = some m.cls := findClass_of_methodNamed B.named
  have hlocks := B.notSynchronized
  have hS : va_S (mA ad) s.heap s.heap [] := va_S.rf
  have k0 := hts (.fieldLink RX11 16 "TwoEyesModel" "shades" "[I") (List.mem_cons_of_mem _ (inA_6 _ (List.mem_of_getElem? (i := 20) rfl)))
  have inX11 : ∀ w ∈ wsX110, w ∈ uX11_hang := fun w h => List.mem_cons_of_mem _ (inCX11 w h)
  have k2 := hts (.fieldLink RX11 63 "TwoEyesModel" "anchorOf" "[I") (List.mem_cons_of_mem _ (inA_7 _ (List.mem_of_getElem? (i := 11) rfl)))
  have k3 := hts (.fieldLink RX11 30 "TwoEyesModel" "rules" "[I") (List.mem_cons_of_mem _ (inA_7 _ (List.mem_of_getElem? (i := 0) rfl)))
  have hl := lv_entry ([.ref (ad 0), .int a1, .int a2]) (n := 4) (Nat.le_of_ble_eq_true rfl)
  rw [lg_entry_eq]
  generalize (lg_sl ([.ref (ad 0), .int a1, .int a2]) ++ List.replicate (4 - (lg_sl ([.ref (ad 0), .int a1, .int a2])).length) Slot.unset).toArray = ls at hl ⊢
  have hl : lv_has ls 4 [(0, .ref (ad 0)), (1, .int a1), (2, .int a2)] := hl
  refine lv_aload_n hx hb dX11_hang_0 rfl (lv_at hl 0 rfl) ?_
  refine va_get (D := D) (ci := 11) (v := .ref (ad 1)) (C := RX11) (T := TX11) (N := 26) hx hb hts inX11 hown hK hP 0 (mW_0 cI cZ ad M) rfl 2 (by decide) k0 (fun _ h9 => h9) rfl dX11_hang_1 ?_
  refine lv_iload_n hx hb dX11_hang_4 rfl (lv_at hl 1 rfl) ?_
  obtain ⟨hi5, h⟩ := h
  refine va_iald hx hb hK hP 1 0 (mW_1 cI cZ ad M) rfl hi5 dX11_hang_5 ?_
  refine lv_aload_n hx hb dX11_hang_6 rfl (lv_at hl 0 rfl) ?_
  refine va_get (D := D) (ci := 11) (v := .ref (ad 1)) (C := RX11) (T := TX11) (N := 26) hx hb hts inX11 hown hK hP 0 (mW_0 cI cZ ad M) rfl 2 (by decide) k0 (fun _ h9 => h9) rfl dX11_hang_7 ?_
  refine lv_iload_n hx hb dX11_hang_10 rfl (lv_at hl 2 rfl) ?_
  obtain ⟨hi11, h⟩ := h
  refine va_iald hx hb hK hP 1 0 (mW_1 cI cZ ad M) rfl hi11 dX11_hang_11 ?_
  refine lv_isub hx hb dX11_hang_12 ?_
  refine lv_topi (fun x3_13 ex3_13 => ?_)
  have h := h x3_13 ex3_13
  refine lv_istore_n (lv' := [(3, .int x3_13), (0, .ref (ad 0)), (1, .int a1), (2, .int a2)]) hx hb dX11_hang_13 rfl hl (by decide) rfl (fun ls hl => ?_)
  refine lv_aload_n hx hb dX11_hang_14 rfl (lv_at hl 1 rfl) ?_
  refine va_get (D := D) (ci := 11) (v := .ref (ad 16)) (C := RX11) (T := TX11) (N := 26) hx hb hts inX11 hown hK hP 0 (mW_0 cI cZ ad M) rfl 21 (by decide) k2 (fun _ h9 => h9) rfl dX11_hang_15 ?_
  refine lv_iload_n hx hb dX11_hang_18 rfl (lv_at hl 2 rfl) ?_
  obtain ⟨hi19, h⟩ := h
  refine va_iald hx hb hK hP 16 0 (mW_16 cI cZ ad M) rfl hi19 dX11_hang_19 ?_
  refine lv_if_lt (tgt := 57) hx hb dX11_hang_20 (by decide) (fun q20 => ?_) (fun q20 => ?_)
  · have h := h.1 q20
    refine lv_iconst (v := 0) hx hb dX11_hang_57 (by decide) ?_
    exact W.zret (v := 0) hx hb hr rfl (fun t ht hW => ⟨⟨0, M, rfl, h, mAt_of ht hP⟩, hS.F ht⟩) hS.2.2 dX11_hang_58
  · have h := h.2 q20
    refine lv_aload_n hx hb dX11_hang_23 rfl (lv_at hl 1 rfl) ?_
    refine va_get (D := D) (ci := 11) (v := .ref (ad 16)) (C := RX11) (T := TX11) (N := 26) hx hb hts inX11 hown hK hP 0 (mW_0 cI cZ ad M) rfl 21 (by decide) k2 (fun _ h9 => h9) rfl dX11_hang_24 ?_
    refine lv_iload_n hx hb dX11_hang_27 rfl (lv_at hl 3 rfl) ?_
    obtain ⟨hi28, h⟩ := h
    refine va_iald hx hb hK hP 16 0 (mW_16 cI cZ ad M) rfl hi28 dX11_hang_28 ?_
    refine lv_if_lt (tgt := 57) hx hb dX11_hang_29 (by decide) (fun q29 => ?_) (fun q29 => ?_)
    · have h := h.1 q29
      refine lv_iconst (v := 0) hx hb dX11_hang_57 (by decide) ?_
      exact W.zret (v := 0) hx hb hr rfl (fun t ht hW => ⟨⟨0, M, rfl, h, mAt_of ht hP⟩, hS.F ht⟩) hS.2.2 dX11_hang_58
    · have h := h.2 q29
      refine lv_iload_n hx hb dX11_hang_32 rfl (lv_at hl 0 rfl) ?_
      refine lv_aload_n hx hb dX11_hang_33 rfl (lv_at hl 1 rfl) ?_
      refine va_get (D := D) (ci := 11) (v := .ref (ad 5)) (C := RX11) (T := TX11) (N := 26) hx hb hts inX11 hown hK hP 0 (mW_0 cI cZ ad M) rfl 6 (by decide) k3 (fun _ h9 => h9) rfl dX11_hang_34 ?_
      refine lv_iconst (v := 4) hx hb dX11_hang_37 (by decide) ?_
      obtain ⟨hi38, h⟩ := h
      refine va_iald hx hb hK hP 5 0 (mW_5 cI cZ ad M) rfl hi38 dX11_hang_38 ?_
      refine lv_icmp_gt (tgt := 57) hx hb dX11_hang_39 (by decide) (fun q39 => ?_) (fun q39 => ?_)
      · have h := h.1 q39
        refine lv_iconst (v := 0) hx hb dX11_hang_57 (by decide) ?_
        exact W.zret (v := 0) hx hb hr rfl (fun t ht hW => ⟨⟨0, M, rfl, h, mAt_of ht hP⟩, hS.F ht⟩) hS.2.2 dX11_hang_58
      · have h := h.2 q39
        refine lv_iload_n hx hb dX11_hang_42 rfl (lv_at hl 0 rfl) ?_
        refine lv_ineg hx hb dX11_hang_43 ?_
        refine lv_aload_n hx hb dX11_hang_44 rfl (lv_at hl 1 rfl) ?_
        refine va_get (D := D) (ci := 11) (v := .ref (ad 5)) (C := RX11) (T := TX11) (N := 26) hx hb hts inX11 hown hK hP 0 (mW_0 cI cZ ad M) rfl 6 (by decide) k3 (fun _ h9 => h9) rfl dX11_hang_45 ?_
        refine lv_iconst (v := 4) hx hb dX11_hang_48 (by decide) ?_
        obtain ⟨hi49, h⟩ := h
        refine va_iald hx hb hK hP 5 0 (mW_5 cI cZ ad M) rfl hi49 dX11_hang_49 ?_
        refine lv_icmp_gt (tgt := 57) hx hb dX11_hang_50 (by decide) (fun q50 => ?_) (fun q50 => ?_)
        · have h := h.1 q50
          refine lv_iconst (v := 0) hx hb dX11_hang_57 (by decide) ?_
          exact W.zret (v := 0) hx hb hr rfl (fun t ht hW => ⟨⟨0, M, rfl, h, mAt_of ht hP⟩, hS.F ht⟩) hS.2.2 dX11_hang_58
        · have h := h.2 q50
          refine lv_iconst (v := 1) hx hb dX11_hang_53 (by decide) ?_
          refine lv_goto (tgt := 58) hx hb dX11_hang_54 (by decide) ?_
          exact W.zret (v := 1) hx hb hr rfl (fun t ht hW => ⟨⟨1, M, rfl, h, mAt_of ht hP⟩, hS.F ht⟩) hS.2.2 dX11_hang_58
abbrev GX11_bringTogether (p : Program) (l : Launch) (e : Env) (s : State) (m : MethodId) (below : List Frame) (meth : Method) (c : Code) (D : va_G) (cI cZ : ClassId) (ad : Nat → Nat) (a1 a2 : Int32) (Q : Int32 → Mem → Prop) (H : Heap) (locs : List Loc) (g : JFrame) : Prop := W p l e (headSpec uX11_bringTogether { frames := 1, cells := 0, slots := 0, locals := 23 }).room s m ([.ref (ad 0), .int a1, .int a2] : List Value).toArray below meth c H locs 0 0 (MQ below (va_Qi Q (mAt D cI cZ ad) (mA ad)) ([.ref (ad 0), .int a1, .int a2] : List Value).toArray s 0 0 (mA ad)) g
set_option maxHeartbeats 4000000 in
set_option maxRecDepth 100000 in
theorem kX11_bringTogether (l : Launch) (D : va_G) (cI cZ : ClassId) (ad : Nat → Nat) (hD : ∀ M : Mem, va_D (mA ad) (mW cI cZ ad M)) (M : Mem) (a1 a2 : Int32) (Q : Int32 → Mem → Prop) (h : wX11_bringTogether M a1 a2 Q) : Met l yX11_bringTogether uX11_bringTogether ({ frames := 1, cells := 0, slots := 0, locals := 23 }) (va_Pc [.ref (ad 0), .int a1, .int a2] (mPre D cI cZ ad M)) (va_Qi Q (mAt D cI cZ ad) (mA ad)) 0 0 (mA ad) := by
  refine Met.ofW (cc := cX11_bringTogether) (maxL := 4) (ret := (some .boolean)) (by decide) rfl ?_
  intro p e s m args below meth c s₁ B hml hv
  obtain ⟨rfl, hP, hK⟩ := hv
  have hx := B.exec
  have hb := B.bytes
  have hr := B.returns
  have hts := atoms_spec (ws := uX11_bringTogether) B.pre
  have hown : s.vm.findClass RX11 = some m.cls := findClass_of_methodNamed B.named
  have hlocks := B.notSynchronized
  have hS : va_S (mA ad) s.heap s.heap [] := va_S.rf
  have k0 := hts (.fieldLink RX11 63 "TwoEyesModel" "anchorOf" "[I") (List.mem_cons_of_mem _ (inA_7 _ (List.mem_of_getElem? (i := 11) rfl)))
  have inX11 : ∀ w ∈ wsX110, w ∈ uX11_bringTogether := fun w h => List.mem_cons_of_mem _ (inCX11 w h)
  have J56 : ∀ (x1 x2 t0 : Int32) (M : Mem) (H : Heap) (locs : List Loc) (ls : Array Slot), lv_has ls 4 [(0, .ref (ad 0)), (1, .int x1), (2, .int x2)] → va_P D vwCl (mW cI cZ ad M) H → va_S (mA ad) s.heap H locs → wX11_bringTogether_J56 Q x1 x2 t0 M → GX11_bringTogether p l e s m below meth c D cI cZ ad a1 a2 Q H locs (F0 m 56 ls [.int t0]) := by
    intro x1 x2 t0 M H locs ls hl hP hS h
    refine lv_istore_n (lv' := [(3, .int t0), (0, .ref (ad 0)), (1, .int x1), (2, .int x2)]) hx hb dX11_bringTogether_56 rfl hl (by decide) rfl (fun ls hl => ?_)
    refine lv_aload_n hx hb dX11_bringTogether_57 rfl (lv_at hl 1 rfl) ?_
    refine va_get (D := D) (ci := 11) (v := .ref (ad 16)) (C := RX11) (T := TX11) (N := 26) hx hb hts inX11 hown hK hP 0 (mW_0 cI cZ ad M) rfl 21 (by decide) k0 (fun _ h9 => h9) rfl dX11_bringTogether_58 ?_
    refine lv_iload_n hx hb dX11_bringTogether_61 rfl (lv_at hl 2 rfl) ?_
    refine lv_iload_n hx hb dX11_bringTogether_62 rfl (lv_at hl 0 rfl) ?_
    obtain ⟨hi63, h⟩ := h
    refine va_iast hx hb hK hP (hD M) hS 16 0 (mW_16 cI cZ ad M) rfl hi63 dX11_bringTogether_63 (fun H locs hP _ hS => ?_)
    refine mQ_16 hP (fun M63 eM63 hP => ?_)
    have h := h M63 eM63
    refine lv_aload_n hx hb dX11_bringTogether_64 rfl (lv_at hl 1 rfl) ?_
    refine va_get (D := D) (ci := 11) (v := .ref (ad 16)) (C := RX11) (T := TX11) (N := 26) hx hb hts inX11 hown hK hP 0 (mW_0 cI cZ ad M63) rfl 21 (by decide) k0 (fun _ h9 => h9) rfl dX11_bringTogether_65 ?_
    refine lv_iload_n hx hb dX11_bringTogether_68 rfl (lv_at hl 3 rfl) ?_
    refine lv_iload_n hx hb dX11_bringTogether_69 rfl (lv_at hl 0 rfl) ?_
    obtain ⟨hi70, h⟩ := h
    refine va_iast hx hb hK hP (hD M63) hS 16 0 (mW_16 cI cZ ad M63) rfl hi70 dX11_bringTogether_70 (fun H locs hP _ hS => ?_)
    refine mQ_16 hP (fun M70 eM70 hP => ?_)
    have h := h M70 eM70
    refine lv_iconst (v := 1) hx hb dX11_bringTogether_71 (by decide) ?_
    exact W.zret (v := 1) hx hb hr rfl (fun t ht hW => ⟨⟨1, M70, rfl, h, mAt_of ht hP⟩, hS.F ht⟩) hS.2.2 dX11_bringTogether_72
  have hl := lv_entry ([.ref (ad 0), .int a1, .int a2]) (n := 4) (Nat.le_of_ble_eq_true rfl)
  rw [lg_entry_eq]
  generalize (lg_sl ([.ref (ad 0), .int a1, .int a2]) ++ List.replicate (4 - (lg_sl ([.ref (ad 0), .int a1, .int a2])).length) Slot.unset).toArray = ls at hl ⊢
  have hl : lv_has ls 4 [(0, .ref (ad 0)), (1, .int a1), (2, .int a2)] := hl
  refine lv_aload_n hx hb dX11_bringTogether_0 rfl (lv_at hl 0 rfl) ?_
  refine lv_iload_n hx hb dX11_bringTogether_1 rfl (lv_at hl 1 rfl) ?_
  refine lv_iload_n hx hb dX11_bringTogether_2 rfl (lv_at hl 2 rfl) ?_
  refine m_callVi (As := [.int a1, .int a2]) (rest := []) ⟨hx, hb, hml, hown, hts⟩ (kX11_hang l D cI cZ ad hD M a1 a2 _ h) (cwV 2 hts (gdV uS (inA_22 _ (List.mem_of_getElem? (i := 23) rfl)) vX11_hang) rfl rfl rfl (by decide +kernel) ⟨Nat.le_of_ble_eq_true rfl, Nat.le_of_ble_eq_true rfl⟩) (va_recv hK hP (ci := 11) (q0 := 0) rfl (mW_0 cI cZ ad M)) hP hK hS hl.1 rfl rfl (Nat.le_of_ble_eq_true rfl) dX11_bringTogether_3 (fun r3 M3 H locs h hP hS => ?_)
  refine lv_if_eq (tgt := 24) hx hb dX11_bringTogether_6 (by decide) (fun q6 => ?_) (fun q6 => ?_)
  · have h := h.1 q6
    refine lv_iconst (v := 0) hx hb dX11_bringTogether_24 (by decide) ?_
    exact W.zret (v := 0) hx hb hr rfl (fun t ht hW => ⟨⟨0, M3, rfl, h, mAt_of ht hP⟩, hS.F ht⟩) hS.2.2 dX11_bringTogether_25
  · have h := h.2 q6
    refine lv_aload_n hx hb dX11_bringTogether_9 rfl (lv_at hl 0 rfl) ?_
    refine va_get (D := D) (ci := 11) (v := .ref (ad 16)) (C := RX11) (T := TX11) (N := 26) hx hb hts inX11 hown hK hP 0 (mW_0 cI cZ ad M3) rfl 21 (by decide) k0 (fun _ h9 => h9) rfl dX11_bringTogether_10 ?_
    refine lv_iload_n hx hb dX11_bringTogether_13 rfl (lv_at hl 1 rfl) ?_
    obtain ⟨hi14, h⟩ := h
    refine va_iald hx hb hK hP 16 0 (mW_16 cI cZ ad M3) rfl hi14 dX11_bringTogether_14 ?_
    refine lv_aload_n hx hb dX11_bringTogether_15 rfl (lv_at hl 0 rfl) ?_
    refine va_get (D := D) (ci := 11) (v := .ref (ad 16)) (C := RX11) (T := TX11) (N := 26) hx hb hts inX11 hown hK hP 0 (mW_0 cI cZ ad M3) rfl 21 (by decide) k0 (fun _ h9 => h9) rfl dX11_bringTogether_16 ?_
    refine lv_iload_n hx hb dX11_bringTogether_19 rfl (lv_at hl 2 rfl) ?_
    obtain ⟨hi20, h⟩ := h
    refine va_iald hx hb hK hP 16 0 (mW_16 cI cZ ad M3) rfl hi20 dX11_bringTogether_20 ?_
    refine lv_icmp_ne (tgt := 26) hx hb dX11_bringTogether_21 (by decide) (fun q21 => ?_) (fun q21 => ?_)
    · have h := h.1 q21
      refine lv_aload_n hx hb dX11_bringTogether_26 rfl (lv_at hl 0 rfl) ?_
      refine va_get (D := D) (ci := 11) (v := .ref (ad 16)) (C := RX11) (T := TX11) (N := 26) hx hb hts inX11 hown hK hP 0 (mW_0 cI cZ ad M3) rfl 21 (by decide) k0 (fun _ h9 => h9) rfl dX11_bringTogether_27 ?_
      refine lv_iload_n hx hb dX11_bringTogether_30 rfl (lv_at hl 1 rfl) ?_
      obtain ⟨hi31, h⟩ := h
      refine va_iald hx hb hK hP 16 0 (mW_16 cI cZ ad M3) rfl hi31 dX11_bringTogether_31 ?_
      refine lv_aload_n hx hb dX11_bringTogether_32 rfl (lv_at hl 0 rfl) ?_
      refine va_get (D := D) (ci := 11) (v := .ref (ad 16)) (C := RX11) (T := TX11) (N := 26) hx hb hts inX11 hown hK hP 0 (mW_0 cI cZ ad M3) rfl 21 (by decide) k0 (fun _ h9 => h9) rfl dX11_bringTogether_33 ?_
      refine lv_iload_n hx hb dX11_bringTogether_36 rfl (lv_at hl 2 rfl) ?_
      obtain ⟨hi37, h⟩ := h
      refine va_iald hx hb hK hP 16 0 (mW_16 cI cZ ad M3) rfl hi37 dX11_bringTogether_37 ?_
      refine lv_icmp_ge (tgt := 50) hx hb dX11_bringTogether_38 (by decide) (fun q38 => ?_) (fun q38 => ?_)
      · have h := h.1 q38
        refine lv_aload_n hx hb dX11_bringTogether_50 rfl (lv_at hl 0 rfl) ?_
        refine va_get (D := D) (ci := 11) (v := .ref (ad 16)) (C := RX11) (T := TX11) (N := 26) hx hb hts inX11 hown hK hP 0 (mW_0 cI cZ ad M3) rfl 21 (by decide) k0 (fun _ h9 => h9) rfl dX11_bringTogether_51 ?_
        refine lv_iload_n hx hb dX11_bringTogether_54 rfl (lv_at hl 2 rfl) ?_
        obtain ⟨hi55, h⟩ := h
        refine va_iald hx hb hK hP 16 0 (mW_16 cI cZ ad M3) rfl hi55 dX11_bringTogether_55 ?_
        exact J56 a1 a2 (M3 16 (a2).toNatClampNeg) M3 _ _ _ (lv_sub hl [0, 1, 2] rfl) hP hS h
      · have h := h.2 q38
        refine lv_aload_n hx hb dX11_bringTogether_41 rfl (lv_at hl 0 rfl) ?_
        refine va_get (D := D) (ci := 11) (v := .ref (ad 16)) (C := RX11) (T := TX11) (N := 26) hx hb hts inX11 hown hK hP 0 (mW_0 cI cZ ad M3) rfl 21 (by decide) k0 (fun _ h9 => h9) rfl dX11_bringTogether_42 ?_
        refine lv_iload_n hx hb dX11_bringTogether_45 rfl (lv_at hl 1 rfl) ?_
        obtain ⟨hi46, h⟩ := h
        refine va_iald hx hb hK hP 16 0 (mW_16 cI cZ ad M3) rfl hi46 dX11_bringTogether_46 ?_
        refine lv_goto (tgt := 56) hx hb dX11_bringTogether_47 (by decide) ?_
        exact J56 a1 a2 (M3 16 (a1).toNatClampNeg) M3 _ _ _ (lv_sub hl [0, 1, 2] rfl) hP hS h
    · have h := h.2 q21
      refine lv_iconst (v := 0) hx hb dX11_bringTogether_24 (by decide) ?_
      exact W.zret (v := 0) hx hb hr rfl (fun t ht hW => ⟨⟨0, M3, rfl, h, mAt_of ht hP⟩, hS.F ht⟩) hS.2.2 dX11_bringTogether_25
