/-- the links by which a class of the nest calls another one's private constructor -/
def iN (U : State) : Prop := va_Nw (.methodLinkNest RX6 20 yX4_init "TwoEyes") U ∧ va_Nw (.methodLinkNest RX10 29 yX1_init "TwoEyes") U ∧ va_Nw (.methodLinkNest RX1 11 yX8_init "TwoEyes") U ∧ va_Nw (.methodLinkNest RX10 43 yX9_init "TwoEyes") U ∧ va_Nw (.methodLinkNest RX10 50 yX2_init "TwoEyes") U ∧ va_Nw (.methodLinkNest RX10 57 yX7_init "TwoEyes") U ∧ va_Nw (.methodLinkNest RX10 64 yX5_init "TwoEyes") U
theorem iN.go {s U : State} (hN : iN s) (hW : s.WarmedH U.vm) : iN U := ⟨va_Nw.warmM hW hN.1, va_Nw.warmM hW hN.2.1, va_Nw.warmM hW hN.2.2.1, va_Nw.warmM hW hN.2.2.2.1, va_Nw.warmM hW hN.2.2.2.2.1, va_Nw.warmM hW hN.2.2.2.2.2.1, va_Nw.warmM hW hN.2.2.2.2.2.2⟩
theorem iN.call {U : State} {g : JFrame} {mk : MethodId} {a : Array Value} (hN : iN U) : iN (U.calling g mk a) := ⟨va_Nw.same rfl rfl hN.1, va_Nw.same rfl rfl hN.2.1, va_Nw.same rfl rfl hN.2.2.1, va_Nw.same rfl rfl hN.2.2.2.1, va_Nw.same rfl rfl hN.2.2.2.2.1, va_Nw.same rfl rfl hN.2.2.2.2.2.1, va_Nw.same rfl rfl hN.2.2.2.2.2.2⟩
def iPre (D : va_G) (cI cZ : ClassId) (h0 sz : Nat) (e : va_E) (U : State) : Prop := U.heap.size = sz ∧ va_P D vwCl [(h0, e)] U.heap ∧ va_K D vwCl [(cI, .int), (cZ, .boolean)] U ∧ va_D (fun _ => True) [(h0, e)] ∧ iN U
theorem iPre.call {D : va_G} {cI cZ : ClassId} {h0 sz : Nat} {e : va_E} {av : List Value} : FrameBlind (va_Pc av (iPre D cI cZ h0 sz e)) := by
  intro a U g mk q
  obtain ⟨q0, q1, qP, qK, qD, qN⟩ := q
  exact ⟨q0, q1, qP, va_K.moved (u := U) (U := U.calling g mk a) (Vm.Alike.refl U.vm) qK, qD, qN.call⟩
def iAt (D : va_G) (A : Nat → Prop) (W : va_W) (t : State) : Prop := va_P D vwCl W t.heap ∧ va_D A W
theorem iAt_of {D : va_G} {A : Nat → Prop} {W : va_W} {t : State} {H : Heap} (ht : t.heap = H) (hP : va_P D vwCl W H) (hD : va_D A W) : iAt D A W t := ⟨by rw [ht]; exact hP, hD⟩
theorem new_arr {p : Program} {l : Launch} {e : Env} {R : Room} {s : State} {m : MethodId} {args : Array Value} {below : List Frame} {meth : Method} {c : Code} {H H0 : Heap} {locs : List Loc} {cells slots : Nat} {Q : State → Prop} {cc : ByteArray} {pc : Nat} {ls : Array Slot} {rest : List Value} {D : va_G} {A : Nat → Prop} {ws : va_W} {tys : List (ClassId × FieldType)} (hexec : p.tables.exec = Jvm.exec) (hb : c.code = cc) {atype : ArrayType} (harr : (Cond.arrayClass (newarray.typeOf atype)).before args s = true) {ty : FieldType} (hty : newarray.typeOf atype = ty) (hK : va_K D vwCl tys s) (hP : va_P D vwCl ws H) (hD : va_D A ws) (hS : va_S A H0 H locs) (hA : ∀ q, H0.size ≤ q → A q) (t0 : Nat) {cA : ClassId} (ht : tys[t0]? = some (cA, ty)) (hra : ∀ c1 c2 : ClassId, va_RA s c1 ty → va_RA s c2 ty → c1 = c2) (hdf : defaultValue ty = .int 0) {n : Int32} {N : Nat} (hn : ¬ n < 0) (hN : n.toNatClampNeg = N) (hbytes : N * componentBytes ty ≤ 536870912) (hcells : cells + 1 ≤ R.cells) (hslots : slots + N ≤ R.slots) (hdg : decode cc pc = .ok (.newarray atype, 2))
    (kk : ∀ (q : Nat) (H1 : Heap), va_P D vwCl (ws ++ [(q, .inl (cA, N, .inl (fun _ => 0)))]) H1 → va_D A (ws ++ [(q, .inl (cA, N, .inl (fun _ => 0)))]) → va_S A H0 H1 locs → W p l e R s m args below meth c H1 locs (cells + 1) (slots + N) Q (F0 m (pc + 2) ls (.ref q :: rest))) : W p l e R s m args below meth c H locs cells slots Q (F0 m pc ls (.int n :: rest)) := by
  refine va_newa (a0 := (N, .inl (fun _ => 0))) hexec hb harr hty hK hP hD hS hA (fun cA => by rw [hdf]; rfl) hn hN hbytes hcells hslots hdg (fun q c2 H1 hK1 hP1 hD1 hS1 => ?_)
  have h1 := (hK.2 t0 _ ht).2
  have h2 := (hK1.2 tys.length (c2, ty) (by simp)).2
  have e1 := hra _ _ h1 h2
  subst e1
  exact kk q H1 hP1 hD1 hS1
theorem ra_int {s : State} (c1 c2 : ClassId) (h1 : va_RA s c1 .int) (h2 : va_RA s c2 .int) : c1 = c2 := Option.some.inj (Eq.trans (Eq.symm h1) h2)
theorem ra_bool {s : State} (c1 c2 : ClassId) (h1 : va_RA s c1 .boolean) (h2 : va_RA s c2 .boolean) : c1 = c2 := Option.some.inj (Eq.trans (Eq.symm h1) h2)
def iW_X4 (cI cZ : ClassId) (h0 : Nat) (u : Nat → Nat) : va_W := [(h0, .inr (4, [.ref (u 1), .ref (u 2)])), ((u 1), .inl (cI, 200, .inl (fun _ => 0))), ((u 2), .inl (cZ, 10, .inl (fun _ => 0)))]
set_option maxHeartbeats 4000000 in
set_option maxRecDepth 100000 in
theorem kX4_init (l : Launch) (D : va_G) (cI cZ : ClassId) (h0 sz : Nat) : Met l yX4_init uX4_init ({ frames := 1, cells := 2, slots := 210, locals := 12 }) (va_Pc [.ref h0] (iPre D cI cZ h0 sz (.inr (4, [.null, .null])))) (va_Qv (fun _ : Nat → Nat => True) (fun (u : Nat → Nat) t => iAt D (va_A [(h0, .inr (4, [.null, .null]))] sz) (iW_X4 cI cZ h0 u) t) (va_A [(h0, .inr (4, [.null, .null]))] sz)) 2 210 (va_A [(h0, .inr (4, [.null, .null]))] sz) := by
  refine Met.ofW (cc := cX4_init) (maxL := 1) (ret := none) (by decide) rfl ?_
  intro p e s m args below meth c s₁ B hml hv
  obtain ⟨rfl, hsz, hP, hK, hD0, hN⟩ := hv
  have hx := B.exec
  have hb := B.bytes
  have hr := B.returns
  have hts := atoms_spec (ws := uX4_init) B.pre
  have hown : s.vm.findClass RX4 = some m.cls := findClass_of_methodNamed B.named
  have hlocks := B.notSynchronized
  have hin : meth.name = "<init>" := (name_of_methodNamed B.named B.method).1
  subst hsz
  have hD := hD0.self (sz := s.heap.size)
  generalize hAe : va_A [(h0, .inr (4, [.null, .null]))] s.heap.size = A at hD ⊢
  have hA : ∀ q : Nat, s.heap.size ≤ q → A q := fun q h => by rw [← hAe]; exact Or.inr h
  have hS : va_S A s.heap s.heap [] := va_S.rf
  have hP : va_P D vwCl [(h0, .inr (4, [.null, .null]))] s.heap := hP
  have k0 := hts (.methodLink RX4 3 objectInit) (List.mem_cons_of_mem _ (inA_3 _ (List.mem_of_getElem? (i := 14) rfl)))
  have k1 := hts (.instanceMethod objectInit) (List.mem_cons_of_mem _ (inA_1 _ (List.mem_of_getElem? (i := 10) rfl)))
  have k2 := hts (.code objectInit ⟨#[0xb1]⟩ 1 none) (List.mem_cons_of_mem _ (inA_1 _ (List.mem_of_getElem? (i := 11) rfl)))
  have k3 := hts (.arrayClass .int) (List.mem_cons_of_mem _ (inA_1 _ (List.mem_of_getElem? (i := 18) rfl)))
  have k4 := hts (.fieldLink RX4 9 "TwoEyes$Picture" "squares" "[I") (List.mem_cons_of_mem _ (inA_3 _ (List.mem_of_getElem? (i := 15) rfl)))
  have inX4 : ∀ w ∈ wsX40, w ∈ uX4_init := fun w h => List.mem_cons_of_mem _ (inCX4 w h)
  have k6 := hts (.arrayClass .boolean) (List.mem_cons_of_mem _ (inA_3 _ (List.mem_of_getElem? (i := 16) rfl)))
  have k7 := hts (.fieldLink RX4 15 "TwoEyes$Picture" "missing" "[Z") (List.mem_cons_of_mem _ (inA_3 _ (List.mem_of_getElem? (i := 17) rfl)))
  have hl := lv_entry ([.ref h0]) (n := 1) (Nat.le_of_ble_eq_true rfl)
  rw [lg_entry_eq]
  generalize (lg_sl ([.ref h0]) ++ List.replicate (1 - (lg_sl ([.ref h0])).length) Slot.unset).toArray = ls at hl ⊢
  have hl : lv_has ls 1 [(0, .ref h0)] := hl
  refine lv_aload_n hx hb dX4_init_0 rfl (lv_at hl 0 rfl) ?_
  refine W.objInit hx hb hown k0 k1 k2 rfl (by rw [hml]; exact hl.1) rfl dX4_init_1 (Nat.le_of_ble_eq_true rfl) (Nat.le_of_ble_eq_true rfl) ?_
  refine W.eq (g2 := F0 m 4 ls []) rfl ?_
  refine lv_aload_n hx hb dX4_init_4 rfl (lv_at hl 0 rfl) ?_
  refine lv_sipush (v := 200) hx hb dX4_init_5 (by decide) ?_
  refine new_arr (atype := .int) (ty := .int) (cA := cI) (n := 200) (N := 200) hx hb k3 rfl hK hP hD hS hA 0 rfl ra_int rfl (by decide) (by decide) (by decide) (Nat.le_of_ble_eq_true rfl) (Nat.le_of_ble_eq_true rfl) dX4_init_8 (fun q8 H hP hD hS => ?_)
  have hP : va_P D vwCl [(h0, .inr (4, [.null, .null])), (q8, .inl (cI, 200, .inl (fun _ => 0)))] H := hP
  have hD : va_D A [(h0, .inr (4, [.null, .null])), (q8, .inl (cI, 200, .inl (fun _ => 0)))] := hD
  refine W.widen (k := 1) (n := 200) (by omega) (by omega) ?_
  refine va_putF (D := D) (ci := 4) (v := .ref q8) (ty := (.array .int)) (C := RX4) (T := TX4) (N := 2) hx hb hts inX4 tyX4 tyX4_ok nmX4 hown hK hP hD hS 0 rfl rfl 0 (by decide) k4 (fun _ h9 => h9) rfl hin rfl (by decide +kernel) rfl rfl (Nat.le_of_ble_eq_true rfl) dX4_init_10 (fun H locs hP hD hS => ?_)
  have hP : va_P D vwCl [(h0, .inr (4, [.ref q8, .null])), (q8, .inl (cI, 200, .inl (fun _ => 0)))] H := hP
  have hD : va_D A [(h0, .inr (4, [.ref q8, .null])), (q8, .inl (cI, 200, .inl (fun _ => 0)))] := hD
  refine lv_aload_n hx hb dX4_init_13 rfl (lv_at hl 0 rfl) ?_
  refine lv_bipush (v := 10) hx hb dX4_init_14 (by decide) ?_
  refine new_arr (atype := .boolean) (ty := .boolean) (cA := cZ) (n := 10) (N := 10) hx hb k6 rfl hK hP hD hS hA 1 rfl ra_bool rfl (by decide) (by decide) (by decide) (Nat.le_of_ble_eq_true rfl) (Nat.le_of_ble_eq_true rfl) dX4_init_16 (fun q16 H hP hD hS => ?_)
  have hP : va_P D vwCl [(h0, .inr (4, [.ref q8, .null])), (q8, .inl (cI, 200, .inl (fun _ => 0))), (q16, .inl (cZ, 10, .inl (fun _ => 0)))] H := hP
  have hD : va_D A [(h0, .inr (4, [.ref q8, .null])), (q8, .inl (cI, 200, .inl (fun _ => 0))), (q16, .inl (cZ, 10, .inl (fun _ => 0)))] := hD
  refine W.widen (k := 2) (n := 210) (by omega) (by omega) ?_
  refine va_putF (D := D) (ci := 4) (v := .ref q16) (ty := (.array .boolean)) (C := RX4) (T := TX4) (N := 2) hx hb hts inX4 tyX4 tyX4_ok nmX4 hown hK hP hD hS 0 rfl rfl 1 (by decide) k7 (fun _ h9 => h9) rfl hin rfl (by decide +kernel) rfl rfl (Nat.le_of_ble_eq_true rfl) dX4_init_18 (fun H locs hP hD hS => ?_)
  have hP : va_P D vwCl [(h0, .inr (4, [.ref q8, .ref q16])), (q8, .inl (cI, 200, .inl (fun _ => 0))), (q16, .inl (cZ, 10, .inl (fun _ => 0)))] H := hP
  have hD : va_D A [(h0, .inr (4, [.ref q8, .ref q16])), (q8, .inl (cI, 200, .inl (fun _ => 0))), (q16, .inl (cZ, 10, .inl (fun _ => 0)))] := hD
  have hP9 := hP.sub (ws' := iW_X4 cI cZ h0 (fun k => ([h0, q8, q16] : List Nat).getD k 0)) [0, 1, 2] rfl
  have hD9 := hD.sub (ws' := iW_X4 cI cZ h0 (fun k => ([h0, q8, q16] : List Nat).getD k 0)) [0, 1, 2] (by decide) rfl
  exact W.vret hx hb hr (fun t ht hW => ⟨⟨(fun k => ([h0, q8, q16] : List Nat).getD k 0), rfl, trivial, iAt_of ht hP9 hD9⟩, hS.F ht⟩) hS.2.2 dX4_init_21
def iW_X6 (cI cZ : ClassId) (h0 : Nat) (u : Nat → Nat) : va_W := [(h0, .inr (6, [.int 1, .int 1, .ref (u 1), .ref (u 4), .ref (u 7)])), ((u 1), .inr (4, [.ref (u 2), .ref (u 3)])), ((u 2), .inl (cI, 200, .inl (fun _ => 0))), ((u 3), .inl (cZ, 10, .inl (fun _ => 0))), ((u 4), .inr (4, [.ref (u 5), .ref (u 6)])), ((u 5), .inl (cI, 200, .inl (fun _ => 0))), ((u 6), .inl (cZ, 10, .inl (fun _ => 0))), ((u 7), .inl (cI, 200, .inl (fun j => if j < 200 then (-4) else (fun _ => 0) j)))]
set_option maxHeartbeats 4000000 in
set_option maxRecDepth 100000 in
theorem kX6_init (l : Launch) (D : va_G) (cI cZ : ClassId) (h0 sz : Nat) : Met l yX6_init uX6_init ({ frames := 2, cells := 7, slots := 624, locals := 32 }) (va_Pc [.ref h0] (iPre D cI cZ h0 sz (.inr (6, [.int 0, .int 0, .null, .null, .null])))) (va_Qv (fun _ : Nat → Nat => True) (fun (u : Nat → Nat) t => iAt D (va_A [(h0, .inr (6, [.int 0, .int 0, .null, .null, .null]))] sz) (iW_X6 cI cZ h0 u) t) (va_A [(h0, .inr (6, [.int 0, .int 0, .null, .null, .null]))] sz)) 7 624 (va_A [(h0, .inr (6, [.int 0, .int 0, .null, .null, .null]))] sz) := by
  refine Met.ofW (cc := cX6_init) (maxL := 1) (ret := none) (by decide) rfl ?_
  intro p e s m args below meth c s₁ B hml hv
  obtain ⟨rfl, hsz, hP, hK, hD0, hN⟩ := hv
  have hx := B.exec
  have hb := B.bytes
  have hr := B.returns
  have hts := atoms_spec (ws := uX6_init) B.pre
  have hown : s.vm.findClass RX6 = some m.cls := findClass_of_methodNamed B.named
  have hlocks := B.notSynchronized
  have hin : meth.name = "<init>" := (name_of_methodNamed B.named B.method).1
  subst hsz
  have hD := hD0.self (sz := s.heap.size)
  generalize hAe : va_A [(h0, .inr (6, [.int 0, .int 0, .null, .null, .null]))] s.heap.size = A at hD ⊢
  have hA : ∀ q : Nat, s.heap.size ≤ q → A q := fun q h => by rw [← hAe]; exact Or.inr h
  have hS : va_S A s.heap s.heap [] := va_S.rf
  have hP : va_P D vwCl [(h0, .inr (6, [.int 0, .int 0, .null, .null, .null]))] s.heap := hP
  have k0 := hts (.methodLink RX6 3 objectInit) (List.mem_cons_of_mem _ (inA_3 _ (List.mem_of_getElem? (i := 3) rfl)))
  have k1 := hts (.instanceMethod objectInit) (List.mem_cons_of_mem _ (inA_1 _ (List.mem_of_getElem? (i := 10) rfl)))
  have k2 := hts (.code objectInit ⟨#[0xb1]⟩ 1 none) (List.mem_cons_of_mem _ (inA_1 _ (List.mem_of_getElem? (i := 11) rfl)))
  have k3 := hts (.fieldLink RX6 9 "TwoEyes$Scene" "width" "I") (List.mem_cons_of_mem _ (inA_3 _ (List.mem_of_getElem? (i := 4) rfl)))
  have inX6 : ∀ w ∈ wsX60, w ∈ uX6_init := fun w h => List.mem_cons_of_mem _ (inCX6 w h)
  have k5 := hts (.fieldLink RX6 15 "TwoEyes$Scene" "height" "I") (List.mem_cons_of_mem _ (inA_3 _ (List.mem_of_getElem? (i := 5) rfl)))
  have inX4 : ∀ w ∈ wsX40, w ∈ uX6_init := fun w h => List.mem_cons_of_mem _ (inCX4 w h)
  have k7 := hts (.classLink RX6 18 RX4) (List.mem_cons_of_mem _ (inA_3 _ (List.mem_of_getElem? (i := 6) rfl)))
  have k8 := hts (.instantiable RX4 2) (List.mem_cons_of_mem _ (inA_3 _ (List.mem_of_getElem? (i := 7) rfl)))
  have k9 := hts (.initialized RX4) (List.mem_cons_of_mem _ (inA_3 _ (List.mem_of_getElem? (i := 8) rfl)))
  have k10 := hts (.instanceMethod yX4_init) (List.mem_cons_of_mem _ (inA_3 _ (List.mem_of_getElem? (i := 12) rfl)))
  have k11 := hts (.fieldLink RX6 21 "TwoEyes$Scene" "left" "LTwoEyes$Picture;") (List.mem_cons_of_mem _ (inA_3 _ (List.mem_of_getElem? (i := 9) rfl)))
  have k12 := hts (.fieldLink RX6 25 "TwoEyes$Scene" "right" "LTwoEyes$Picture;") (List.mem_cons_of_mem _ (inA_3 _ (List.mem_of_getElem? (i := 10) rfl)))
  have k13 := hts (.arrayClass .int) (List.mem_cons_of_mem _ (inA_1 _ (List.mem_of_getElem? (i := 18) rfl)))
  have k14 := hts (.fieldLink RX6 28 "TwoEyes$Scene" "truth" "[I") (List.mem_cons_of_mem _ (inA_3 _ (List.mem_of_getElem? (i := 11) rfl)))
  have hl := lv_entry ([.ref h0]) (n := 1) (Nat.le_of_ble_eq_true rfl)
  rw [lg_entry_eq]
  generalize (lg_sl ([.ref h0]) ++ List.replicate (1 - (lg_sl ([.ref h0])).length) Slot.unset).toArray = ls at hl ⊢
  have hl : lv_has ls 1 [(0, .ref h0)] := hl
  refine lv_aload_n hx hb dX6_init_0 rfl (lv_at hl 0 rfl) ?_
  refine W.objInit hx hb hown k0 k1 k2 rfl (by rw [hml]; exact hl.1) rfl dX6_init_1 (Nat.le_of_ble_eq_true rfl) (Nat.le_of_ble_eq_true rfl) ?_
  refine W.eq (g2 := F0 m 4 ls []) rfl ?_
  refine lv_aload_n hx hb dX6_init_4 rfl (lv_at hl 0 rfl) ?_
  refine lv_iconst (v := 1) hx hb dX6_init_5 (by decide) ?_
  refine va_put (D := D) (ci := 6) (v := .int 1) (ty := .int) (C := RX6) (T := TX6) (N := 5) hx hb hts inX6 tyX6 tyX6_ok nmX6 hown hK hP hD hS 0 rfl rfl 0 (by decide) k3 (fun _ h9 => h9) rfl (by decide +kernel) rfl rfl (Nat.le_of_ble_eq_true rfl) dX6_init_6 (fun H locs hP hD hS => ?_)
  have hP : va_P D vwCl [(h0, .inr (6, [.int 1, .int 0, .null, .null, .null]))] H := hP
  have hD : va_D A [(h0, .inr (6, [.int 1, .int 0, .null, .null, .null]))] := hD
  refine lv_aload_n hx hb dX6_init_9 rfl (lv_at hl 0 rfl) ?_
  refine lv_iconst (v := 1) hx hb dX6_init_10 (by decide) ?_
  refine va_put (D := D) (ci := 6) (v := .int 1) (ty := .int) (C := RX6) (T := TX6) (N := 5) hx hb hts inX6 tyX6 tyX6_ok nmX6 hown hK hP hD hS 0 rfl rfl 1 (by decide) k5 (fun _ h9 => h9) rfl (by decide +kernel) rfl rfl (Nat.le_of_ble_eq_true rfl) dX6_init_11 (fun H locs hP hD hS => ?_)
  have hP : va_P D vwCl [(h0, .inr (6, [.int 1, .int 1, .null, .null, .null]))] H := hP
  have hD : va_D A [(h0, .inr (6, [.int 1, .int 1, .null, .null, .null]))] := hD
  refine lv_aload_n hx hb dX6_init_14 rfl (lv_at hl 0 rfl) ?_
  refine va_new (ci := 4) (fs := [.null, .null]) (C := RX4) (T := TX4) (N := 2) hx hb hts inX4 tyX4 tyX4_ok hown k7 k8 k9 hK hP hD hS hA rfl (fun j hj => by rcases (show j = 0 ∨ j = 1 by omega) with rfl | rfl <;> rfl) (Nat.le_of_ble_eq_true rfl) (Nat.le_of_ble_eq_true rfl) dX6_init_15 (fun q15 H hP hD hS => ?_)
  have hP : va_P D vwCl [(h0, .inr (6, [.int 1, .int 1, .null, .null, .null])), (q15, .inr (4, [.null, .null]))] H := hP
  have hD : va_D A [(h0, .inr (6, [.int 1, .int 1, .null, .null, .null])), (q15, .inr (4, [.null, .null]))] := hD
  refine W.widen (k := 1) (n := 2) (by omega) (by omega) ?_
  refine lv_dup hx hb dX6_init_18 rfl ?_
  have hPc := hP.sub (ws' := [(q15, .inr (4, [.null, .null]))]) [1] rfl
  have hDc := hD.sub (ws' := [(q15, .inr (4, [.null, .null]))]) [1] (by decide) rfl
  have hFc := va_free (wc := [(q15, .inr (4, [.null, .null]))]) hD hS hA [1] rfl
  refine va_callv (va_runIN (As := []) (rest := [.ref q15, .ref h0]) ⟨hx, hb, hml, hown, hts⟩ (kX4_init l D cI cZ q15 H.size) ⟨va_cnB 0 hts (gdI uS vX4_init) rfl rfl rfl hN.1 k9 (by decide +kernel) ⟨Nat.le_of_ble_eq_true rfl, Nat.le_of_ble_eq_true rfl⟩, rfl, k10⟩ ⟨iPre.call, fun U hU hW => ⟨rfl, by rw [hU], by rw [hU]; exact hPc, va_K.moved hW.alike hK, hDc.weaken (fun _ _ _ _ => trivial), hN.go hW⟩⟩ rfl rfl hl.1 rfl (lv_room (Nat.le_of_ble_eq_true rfl)) dX6_init_19 ⟨Nat.le_of_ble_eq_true rfl, Nat.le_of_ble_eq_true rfl⟩) hS (fun q _ h => hFc q h) hFc (fun u19 t H1 locs ht hvm hw hB hz1 hk1 hS => ?_)
  obtain ⟨hP1, hD1⟩ := hB
  rw [ht] at hP1
  have hP1 : va_P D vwCl [(q15, .inr (4, [.ref (u19 1), .ref (u19 2)])), ((u19 1), .inl (cI, 200, .inl (fun _ => 0))), ((u19 2), .inl (cZ, 10, .inl (fun _ => 0)))] H1 := hP1
  obtain ⟨hP, hD⟩ := va_join (wr := [(h0, .inr (6, [.int 1, .int 1, .null, .null, .null]))]) (w1 := [(q15, .inr (4, [.ref (u19 1), .ref (u19 2)])), ((u19 1), .inl (cI, 200, .inl (fun _ => 0))), ((u19 2), .inl (cZ, 10, .inl (fun _ => 0)))]) hP hD [1] [0] rfl rfl (by decide) (by decide) hk1 hFc hP1 hD1
  generalize H1 = H at hP hS ⊢
  have hP : va_P D vwCl [(h0, .inr (6, [.int 1, .int 1, .null, .null, .null])), (q15, .inr (4, [.ref (u19 1), .ref (u19 2)])), ((u19 1), .inl (cI, 200, .inl (fun _ => 0))), ((u19 2), .inl (cZ, 10, .inl (fun _ => 0)))] H := hP
  have hD : va_D A [(h0, .inr (6, [.int 1, .int 1, .null, .null, .null])), (q15, .inr (4, [.ref (u19 1), .ref (u19 2)])), ((u19 1), .inl (cI, 200, .inl (fun _ => 0))), ((u19 2), .inl (cZ, 10, .inl (fun _ => 0)))] := hD
  refine W.widen (k := 3) (n := 212) (by omega) (by omega) ?_
  refine va_putF (D := D) (ci := 6) (v := .ref q15) (ty := (.object "TwoEyes$Picture")) (C := RX6) (T := TX6) (N := 5) hx hb hts inX6 tyX6 tyX6_ok nmX6 hown hK hP hD hS 0 rfl rfl 2 (by decide) k11 (fun _ h9 => h9) rfl hin rfl (by decide +kernel) rfl rfl (Nat.le_of_ble_eq_true rfl) dX6_init_22 (fun H locs hP hD hS => ?_)
  have hP : va_P D vwCl [(h0, .inr (6, [.int 1, .int 1, .ref q15, .null, .null])), (q15, .inr (4, [.ref (u19 1), .ref (u19 2)])), ((u19 1), .inl (cI, 200, .inl (fun _ => 0))), ((u19 2), .inl (cZ, 10, .inl (fun _ => 0)))] H := hP
  have hD : va_D A [(h0, .inr (6, [.int 1, .int 1, .ref q15, .null, .null])), (q15, .inr (4, [.ref (u19 1), .ref (u19 2)])), ((u19 1), .inl (cI, 200, .inl (fun _ => 0))), ((u19 2), .inl (cZ, 10, .inl (fun _ => 0)))] := hD
  refine lv_aload_n hx hb dX6_init_25 rfl (lv_at hl 0 rfl) ?_
  refine va_new (ci := 4) (fs := [.null, .null]) (C := RX4) (T := TX4) (N := 2) hx hb hts inX4 tyX4 tyX4_ok hown k7 k8 k9 hK hP hD hS hA rfl (fun j hj => by rcases (show j = 0 ∨ j = 1 by omega) with rfl | rfl <;> rfl) (Nat.le_of_ble_eq_true rfl) (Nat.le_of_ble_eq_true rfl) dX6_init_26 (fun q26 H hP hD hS => ?_)
  have hP : va_P D vwCl [(h0, .inr (6, [.int 1, .int 1, .ref q15, .null, .null])), (q15, .inr (4, [.ref (u19 1), .ref (u19 2)])), ((u19 1), .inl (cI, 200, .inl (fun _ => 0))), ((u19 2), .inl (cZ, 10, .inl (fun _ => 0))), (q26, .inr (4, [.null, .null]))] H := hP
  have hD : va_D A [(h0, .inr (6, [.int 1, .int 1, .ref q15, .null, .null])), (q15, .inr (4, [.ref (u19 1), .ref (u19 2)])), ((u19 1), .inl (cI, 200, .inl (fun _ => 0))), ((u19 2), .inl (cZ, 10, .inl (fun _ => 0))), (q26, .inr (4, [.null, .null]))] := hD
  refine W.widen (k := 4) (n := 214) (by omega) (by omega) ?_
  refine lv_dup hx hb dX6_init_29 rfl ?_
  have hPc := hP.sub (ws' := [(q26, .inr (4, [.null, .null]))]) [4] rfl
  have hDc := hD.sub (ws' := [(q26, .inr (4, [.null, .null]))]) [4] (by decide) rfl
  have hFc := va_free (wc := [(q26, .inr (4, [.null, .null]))]) hD hS hA [4] rfl
  refine va_callv (va_runIN (As := []) (rest := [.ref q26, .ref h0]) ⟨hx, hb, hml, hown, hts⟩ (kX4_init l D cI cZ q26 H.size) ⟨va_cnB 0 hts (gdI uS vX4_init) rfl rfl rfl hN.1 k9 (by decide +kernel) ⟨Nat.le_of_ble_eq_true rfl, Nat.le_of_ble_eq_true rfl⟩, rfl, k10⟩ ⟨iPre.call, fun U hU hW => ⟨rfl, by rw [hU], by rw [hU]; exact hPc, va_K.moved hW.alike hK, hDc.weaken (fun _ _ _ _ => trivial), hN.go hW⟩⟩ rfl rfl hl.1 rfl (lv_room (Nat.le_of_ble_eq_true rfl)) dX6_init_30 ⟨Nat.le_of_ble_eq_true rfl, Nat.le_of_ble_eq_true rfl⟩) hS (fun q _ h => hFc q h) hFc (fun u30 t H1 locs ht hvm hw hB hz1 hk1 hS => ?_)
  obtain ⟨hP1, hD1⟩ := hB
  rw [ht] at hP1
  have hP1 : va_P D vwCl [(q26, .inr (4, [.ref (u30 1), .ref (u30 2)])), ((u30 1), .inl (cI, 200, .inl (fun _ => 0))), ((u30 2), .inl (cZ, 10, .inl (fun _ => 0)))] H1 := hP1
  obtain ⟨hP, hD⟩ := va_join (wr := [(h0, .inr (6, [.int 1, .int 1, .ref q15, .null, .null])), (q15, .inr (4, [.ref (u19 1), .ref (u19 2)])), ((u19 1), .inl (cI, 200, .inl (fun _ => 0))), ((u19 2), .inl (cZ, 10, .inl (fun _ => 0)))]) (w1 := [(q26, .inr (4, [.ref (u30 1), .ref (u30 2)])), ((u30 1), .inl (cI, 200, .inl (fun _ => 0))), ((u30 2), .inl (cZ, 10, .inl (fun _ => 0)))]) hP hD [4] [0, 1, 2, 3] rfl rfl (by decide) (by decide) hk1 hFc hP1 hD1
  generalize H1 = H at hP hS ⊢
  have hP : va_P D vwCl [(h0, .inr (6, [.int 1, .int 1, .ref q15, .null, .null])), (q15, .inr (4, [.ref (u19 1), .ref (u19 2)])), ((u19 1), .inl (cI, 200, .inl (fun _ => 0))), ((u19 2), .inl (cZ, 10, .inl (fun _ => 0))), (q26, .inr (4, [.ref (u30 1), .ref (u30 2)])), ((u30 1), .inl (cI, 200, .inl (fun _ => 0))), ((u30 2), .inl (cZ, 10, .inl (fun _ => 0)))] H := hP
  have hD : va_D A [(h0, .inr (6, [.int 1, .int 1, .ref q15, .null, .null])), (q15, .inr (4, [.ref (u19 1), .ref (u19 2)])), ((u19 1), .inl (cI, 200, .inl (fun _ => 0))), ((u19 2), .inl (cZ, 10, .inl (fun _ => 0))), (q26, .inr (4, [.ref (u30 1), .ref (u30 2)])), ((u30 1), .inl (cI, 200, .inl (fun _ => 0))), ((u30 2), .inl (cZ, 10, .inl (fun _ => 0)))] := hD
  refine W.widen (k := 6) (n := 424) (by omega) (by omega) ?_
  refine va_putF (D := D) (ci := 6) (v := .ref q26) (ty := (.object "TwoEyes$Picture")) (C := RX6) (T := TX6) (N := 5) hx hb hts inX6 tyX6 tyX6_ok nmX6 hown hK hP hD hS 0 rfl rfl 3 (by decide) k12 (fun _ h9 => h9) rfl hin rfl (by decide +kernel) rfl rfl (Nat.le_of_ble_eq_true rfl) dX6_init_33 (fun H locs hP hD hS => ?_)
  have hP : va_P D vwCl [(h0, .inr (6, [.int 1, .int 1, .ref q15, .ref q26, .null])), (q15, .inr (4, [.ref (u19 1), .ref (u19 2)])), ((u19 1), .inl (cI, 200, .inl (fun _ => 0))), ((u19 2), .inl (cZ, 10, .inl (fun _ => 0))), (q26, .inr (4, [.ref (u30 1), .ref (u30 2)])), ((u30 1), .inl (cI, 200, .inl (fun _ => 0))), ((u30 2), .inl (cZ, 10, .inl (fun _ => 0)))] H := hP
  have hD : va_D A [(h0, .inr (6, [.int 1, .int 1, .ref q15, .ref q26, .null])), (q15, .inr (4, [.ref (u19 1), .ref (u19 2)])), ((u19 1), .inl (cI, 200, .inl (fun _ => 0))), ((u19 2), .inl (cZ, 10, .inl (fun _ => 0))), (q26, .inr (4, [.ref (u30 1), .ref (u30 2)])), ((u30 1), .inl (cI, 200, .inl (fun _ => 0))), ((u30 2), .inl (cZ, 10, .inl (fun _ => 0)))] := hD
  refine lv_aload_n hx hb dX6_init_36 rfl (lv_at hl 0 rfl) ?_
  refine lv_sipush (v := 200) hx hb dX6_init_37 (by decide) ?_
  refine new_arr (atype := .int) (ty := .int) (cA := cI) (n := 200) (N := 200) hx hb k13 rfl hK hP hD hS hA 0 rfl ra_int rfl (by decide) (by decide) (by decide) (Nat.le_of_ble_eq_true rfl) (Nat.le_of_ble_eq_true rfl) dX6_init_40 (fun q40 H hP hD hS => ?_)
  have hP : va_P D vwCl [(h0, .inr (6, [.int 1, .int 1, .ref q15, .ref q26, .null])), (q15, .inr (4, [.ref (u19 1), .ref (u19 2)])), ((u19 1), .inl (cI, 200, .inl (fun _ => 0))), ((u19 2), .inl (cZ, 10, .inl (fun _ => 0))), (q26, .inr (4, [.ref (u30 1), .ref (u30 2)])), ((u30 1), .inl (cI, 200, .inl (fun _ => 0))), ((u30 2), .inl (cZ, 10, .inl (fun _ => 0))), (q40, .inl (cI, 200, .inl (fun _ => 0)))] H := hP
  have hD : va_D A [(h0, .inr (6, [.int 1, .int 1, .ref q15, .ref q26, .null])), (q15, .inr (4, [.ref (u19 1), .ref (u19 2)])), ((u19 1), .inl (cI, 200, .inl (fun _ => 0))), ((u19 2), .inl (cZ, 10, .inl (fun _ => 0))), (q26, .inr (4, [.ref (u30 1), .ref (u30 2)])), ((u30 1), .inl (cI, 200, .inl (fun _ => 0))), ((u30 2), .inl (cZ, 10, .inl (fun _ => 0))), (q40, .inl (cI, 200, .inl (fun _ => 0)))] := hD
  refine W.widen (k := 7) (n := 624) (by omega) (by omega) ?_
  refine va_putF (D := D) (ci := 6) (v := .ref q40) (ty := (.array .int)) (C := RX6) (T := TX6) (N := 5) hx hb hts inX6 tyX6 tyX6_ok nmX6 hown hK hP hD hS 0 rfl rfl 4 (by decide) k14 (fun _ h9 => h9) rfl hin rfl (by decide +kernel) rfl rfl (Nat.le_of_ble_eq_true rfl) dX6_init_42 (fun H locs hP hD hS => ?_)
  have hP : va_P D vwCl [(h0, .inr (6, [.int 1, .int 1, .ref q15, .ref q26, .ref q40])), (q15, .inr (4, [.ref (u19 1), .ref (u19 2)])), ((u19 1), .inl (cI, 200, .inl (fun _ => 0))), ((u19 2), .inl (cZ, 10, .inl (fun _ => 0))), (q26, .inr (4, [.ref (u30 1), .ref (u30 2)])), ((u30 1), .inl (cI, 200, .inl (fun _ => 0))), ((u30 2), .inl (cZ, 10, .inl (fun _ => 0))), (q40, .inl (cI, 200, .inl (fun _ => 0)))] H := hP
  have hD : va_D A [(h0, .inr (6, [.int 1, .int 1, .ref q15, .ref q26, .ref q40])), (q15, .inr (4, [.ref (u19 1), .ref (u19 2)])), ((u19 1), .inl (cI, 200, .inl (fun _ => 0))), ((u19 2), .inl (cZ, 10, .inl (fun _ => 0))), (q26, .inr (4, [.ref (u30 1), .ref (u30 2)])), ((u30 1), .inl (cI, 200, .inl (fun _ => 0))), ((u30 2), .inl (cZ, 10, .inl (fun _ => 0))), (q40, .inl (cI, 200, .inl (fun _ => 0)))] := hD
  refine lv_aload_n hx hb dX6_init_45 rfl (lv_at hl 0 rfl) ?_
  refine va_get (D := D) (ci := 6) (v := .ref q40) (C := RX6) (T := TX6) (N := 5) hx hb hts inX6 hown hK hP 0 rfl rfl 4 (by decide) k14 (fun _ h9 => h9) rfl dX6_init_46 ?_
  refine lv_bipush (v := (-4)) hx hb dX6_init_49 (by decide) ?_
  have hk9 : ([(h0, .inr (6, [.int 1, .int 1, .ref q15, .ref q26, .ref q40])), (q15, .inr (4, [.ref (u19 1), .ref (u19 2)])), ((u19 1), .inl (cI, 200, .inl (fun _ => 0))), ((u19 2), .inl (cZ, 10, .inl (fun _ => 0))), (q26, .inr (4, [.ref (u30 1), .ref (u30 2)])), ((u30 1), .inl (cI, 200, .inl (fun _ => 0))), ((u30 2), .inl (cZ, 10, .inl (fun _ => 0))), (q40, .inl (cI, 200, .inl (fun _ => 0)))] : va_W)[7]? = some (q40, .inl (cI, 200, .inl (fun _ => 0))) := rfl
  refine fill_call (k := 7) (rest := []) ⟨hx, hb, hml, hown, hts⟩ (va_cwS 2 hts (gdS uS (inA_3 _ (List.mem_of_getElem? (i := 18) rfl)) vJ7_fill_53178) rfl rfl rfl (by decide +kernel) ⟨Nat.le_of_ble_eq_true rfl, Nat.le_of_ble_eq_true rfl⟩) hK hP hD hS hk9 rfl (by decide) hl.1 (Nat.le_of_ble_eq_true rfl) dX6_init_51 ⟨Nat.le_of_ble_eq_true rfl, Nat.le_of_ble_eq_true rfl⟩ (fun H locs hP hS => ?_)
  have hD := hD.set (e := .inl (cI, 200, .inl (fun j => if j < 200 then (-4) else (fun _ => 0) j))) hk9
  have hP : va_P D vwCl [(h0, .inr (6, [.int 1, .int 1, .ref q15, .ref q26, .ref q40])), (q15, .inr (4, [.ref (u19 1), .ref (u19 2)])), ((u19 1), .inl (cI, 200, .inl (fun _ => 0))), ((u19 2), .inl (cZ, 10, .inl (fun _ => 0))), (q26, .inr (4, [.ref (u30 1), .ref (u30 2)])), ((u30 1), .inl (cI, 200, .inl (fun _ => 0))), ((u30 2), .inl (cZ, 10, .inl (fun _ => 0))), (q40, .inl (cI, 200, .inl (fun j => if j < 200 then (-4) else (fun _ => 0) j)))] H := hP
  have hD : va_D A [(h0, .inr (6, [.int 1, .int 1, .ref q15, .ref q26, .ref q40])), (q15, .inr (4, [.ref (u19 1), .ref (u19 2)])), ((u19 1), .inl (cI, 200, .inl (fun _ => 0))), ((u19 2), .inl (cZ, 10, .inl (fun _ => 0))), (q26, .inr (4, [.ref (u30 1), .ref (u30 2)])), ((u30 1), .inl (cI, 200, .inl (fun _ => 0))), ((u30 2), .inl (cZ, 10, .inl (fun _ => 0))), (q40, .inl (cI, 200, .inl (fun j => if j < 200 then (-4) else (fun _ => 0) j)))] := hD
  have hP9 := hP.sub (ws' := iW_X6 cI cZ h0 (fun k => ([h0, q15, (u19 1), (u19 2), q26, (u30 1), (u30 2), q40] : List Nat).getD k 0)) [0, 1, 2, 3, 4, 5, 6, 7] rfl
  have hD9 := hD.sub (ws' := iW_X6 cI cZ h0 (fun k => ([h0, q15, (u19 1), (u19 2), q26, (u30 1), (u30 2), q40] : List Nat).getD k 0)) [0, 1, 2, 3, 4, 5, 6, 7] (by decide) rfl
  exact W.vret hx hb hr (fun t ht hW => ⟨⟨(fun k => ([h0, q15, (u19 1), (u19 2), q26, (u30 1), (u30 2), q40] : List Nat).getD k 0), rfl, trivial, iAt_of ht hP9 hD9⟩, hS.F ht⟩) hS.2.2 dX6_init_54
def iW_X8 (cI cZ : ClassId) (h0 : Nat) (u : Nat → Nat) : va_W := [(h0, .inr (8, [.ref (u 1), .ref (u 2), .ref (u 3)])), ((u 1), .inl (cI, 200, .inl (fun _ => 0))), ((u 2), .inl (cI, 200, .inl (fun _ => 0))), ((u 3), .inl (cZ, 200, .inl (fun _ => 0)))]
set_option maxHeartbeats 4000000 in
set_option maxRecDepth 100000 in
theorem kX8_init (l : Launch) (D : va_G) (cI cZ : ClassId) (h0 sz : Nat) : Met l yX8_init uX8_init ({ frames := 1, cells := 3, slots := 600, locals := 12 }) (va_Pc [.ref h0] (iPre D cI cZ h0 sz (.inr (8, [.null, .null, .null])))) (va_Qv (fun _ : Nat → Nat => True) (fun (u : Nat → Nat) t => iAt D (va_A [(h0, .inr (8, [.null, .null, .null]))] sz) (iW_X8 cI cZ h0 u) t) (va_A [(h0, .inr (8, [.null, .null, .null]))] sz)) 3 600 (va_A [(h0, .inr (8, [.null, .null, .null]))] sz) := by
  refine Met.ofW (cc := cX8_init) (maxL := 1) (ret := none) (by decide) rfl ?_
  intro p e s m args below meth c s₁ B hml hv
  obtain ⟨rfl, hsz, hP, hK, hD0, hN⟩ := hv
  have hx := B.exec
  have hb := B.bytes
  have hr := B.returns
  have hts := atoms_spec (ws := uX8_init) B.pre
  have hown : s.vm.findClass RX8 = some m.cls := findClass_of_methodNamed B.named
  have hlocks := B.notSynchronized
  have hin : meth.name = "<init>" := (name_of_methodNamed B.named B.method).1
  subst hsz
  have hD := hD0.self (sz := s.heap.size)
  generalize hAe : va_A [(h0, .inr (8, [.null, .null, .null]))] s.heap.size = A at hD ⊢
  have hA : ∀ q : Nat, s.heap.size ≤ q → A q := fun q h => by rw [← hAe]; exact Or.inr h
  have hS : va_S A s.heap s.heap [] := va_S.rf
  have hP : va_P D vwCl [(h0, .inr (8, [.null, .null, .null]))] s.heap := hP
  have k0 := hts (.methodLink RX8 3 objectInit) (List.mem_cons_of_mem _ (inA_4 _ (List.mem_of_getElem? (i := 10) rfl)))
  have k1 := hts (.instanceMethod objectInit) (List.mem_cons_of_mem _ (inA_1 _ (List.mem_of_getElem? (i := 10) rfl)))
  have k2 := hts (.code objectInit ⟨#[0xb1]⟩ 1 none) (List.mem_cons_of_mem _ (inA_1 _ (List.mem_of_getElem? (i := 11) rfl)))
  have k3 := hts (.arrayClass .int) (List.mem_cons_of_mem _ (inA_1 _ (List.mem_of_getElem? (i := 18) rfl)))
  have k4 := hts (.fieldLink RX8 9 "TwoEyes$Stand" "known" "[I") (List.mem_cons_of_mem _ (inA_4 _ (List.mem_of_getElem? (i := 11) rfl)))
  have inX8 : ∀ w ∈ wsX80, w ∈ uX8_init := fun w h => List.mem_cons_of_mem _ (inCX8 w h)
  have k6 := hts (.fieldLink RX8 15 "TwoEyes$Stand" "dark" "[I") (List.mem_cons_of_mem _ (inA_4 _ (List.mem_of_getElem? (i := 12) rfl)))
  have k7 := hts (.arrayClass .boolean) (List.mem_cons_of_mem _ (inA_3 _ (List.mem_of_getElem? (i := 16) rfl)))
  have k8 := hts (.fieldLink RX8 18 "TwoEyes$Stand" "lost" "[Z") (List.mem_cons_of_mem _ (inA_4 _ (List.mem_of_getElem? (i := 13) rfl)))
  have hl := lv_entry ([.ref h0]) (n := 1) (Nat.le_of_ble_eq_true rfl)
  rw [lg_entry_eq]
  generalize (lg_sl ([.ref h0]) ++ List.replicate (1 - (lg_sl ([.ref h0])).length) Slot.unset).toArray = ls at hl ⊢
  have hl : lv_has ls 1 [(0, .ref h0)] := hl
  refine lv_aload_n hx hb dX8_init_0 rfl (lv_at hl 0 rfl) ?_
  refine W.objInit hx hb hown k0 k1 k2 rfl (by rw [hml]; exact hl.1) rfl dX8_init_1 (Nat.le_of_ble_eq_true rfl) (Nat.le_of_ble_eq_true rfl) ?_
  refine W.eq (g2 := F0 m 4 ls []) rfl ?_
  refine lv_aload_n hx hb dX8_init_4 rfl (lv_at hl 0 rfl) ?_
  refine lv_sipush (v := 200) hx hb dX8_init_5 (by decide) ?_
  refine new_arr (atype := .int) (ty := .int) (cA := cI) (n := 200) (N := 200) hx hb k3 rfl hK hP hD hS hA 0 rfl ra_int rfl (by decide) (by decide) (by decide) (Nat.le_of_ble_eq_true rfl) (Nat.le_of_ble_eq_true rfl) dX8_init_8 (fun q8 H hP hD hS => ?_)
  have hP : va_P D vwCl [(h0, .inr (8, [.null, .null, .null])), (q8, .inl (cI, 200, .inl (fun _ => 0)))] H := hP
  have hD : va_D A [(h0, .inr (8, [.null, .null, .null])), (q8, .inl (cI, 200, .inl (fun _ => 0)))] := hD
  refine W.widen (k := 1) (n := 200) (by omega) (by omega) ?_
  refine va_putF (D := D) (ci := 8) (v := .ref q8) (ty := (.array .int)) (C := RX8) (T := TX8) (N := 3) hx hb hts inX8 tyX8 tyX8_ok nmX8 hown hK hP hD hS 0 rfl rfl 0 (by decide) k4 (fun _ h9 => h9) rfl hin rfl (by decide +kernel) rfl rfl (Nat.le_of_ble_eq_true rfl) dX8_init_10 (fun H locs hP hD hS => ?_)
  have hP : va_P D vwCl [(h0, .inr (8, [.ref q8, .null, .null])), (q8, .inl (cI, 200, .inl (fun _ => 0)))] H := hP
  have hD : va_D A [(h0, .inr (8, [.ref q8, .null, .null])), (q8, .inl (cI, 200, .inl (fun _ => 0)))] := hD
  refine lv_aload_n hx hb dX8_init_13 rfl (lv_at hl 0 rfl) ?_
  refine lv_sipush (v := 200) hx hb dX8_init_14 (by decide) ?_
  refine new_arr (atype := .int) (ty := .int) (cA := cI) (n := 200) (N := 200) hx hb k3 rfl hK hP hD hS hA 0 rfl ra_int rfl (by decide) (by decide) (by decide) (Nat.le_of_ble_eq_true rfl) (Nat.le_of_ble_eq_true rfl) dX8_init_17 (fun q17 H hP hD hS => ?_)
  have hP : va_P D vwCl [(h0, .inr (8, [.ref q8, .null, .null])), (q8, .inl (cI, 200, .inl (fun _ => 0))), (q17, .inl (cI, 200, .inl (fun _ => 0)))] H := hP
  have hD : va_D A [(h0, .inr (8, [.ref q8, .null, .null])), (q8, .inl (cI, 200, .inl (fun _ => 0))), (q17, .inl (cI, 200, .inl (fun _ => 0)))] := hD
  refine W.widen (k := 2) (n := 400) (by omega) (by omega) ?_
  refine va_putF (D := D) (ci := 8) (v := .ref q17) (ty := (.array .int)) (C := RX8) (T := TX8) (N := 3) hx hb hts inX8 tyX8 tyX8_ok nmX8 hown hK hP hD hS 0 rfl rfl 1 (by decide) k6 (fun _ h9 => h9) rfl hin rfl (by decide +kernel) rfl rfl (Nat.le_of_ble_eq_true rfl) dX8_init_19 (fun H locs hP hD hS => ?_)
  have hP : va_P D vwCl [(h0, .inr (8, [.ref q8, .ref q17, .null])), (q8, .inl (cI, 200, .inl (fun _ => 0))), (q17, .inl (cI, 200, .inl (fun _ => 0)))] H := hP
  have hD : va_D A [(h0, .inr (8, [.ref q8, .ref q17, .null])), (q8, .inl (cI, 200, .inl (fun _ => 0))), (q17, .inl (cI, 200, .inl (fun _ => 0)))] := hD
  refine lv_aload_n hx hb dX8_init_22 rfl (lv_at hl 0 rfl) ?_
  refine lv_sipush (v := 200) hx hb dX8_init_23 (by decide) ?_
  refine new_arr (atype := .boolean) (ty := .boolean) (cA := cZ) (n := 200) (N := 200) hx hb k7 rfl hK hP hD hS hA 1 rfl ra_bool rfl (by decide) (by decide) (by decide) (Nat.le_of_ble_eq_true rfl) (Nat.le_of_ble_eq_true rfl) dX8_init_26 (fun q26 H hP hD hS => ?_)
  have hP : va_P D vwCl [(h0, .inr (8, [.ref q8, .ref q17, .null])), (q8, .inl (cI, 200, .inl (fun _ => 0))), (q17, .inl (cI, 200, .inl (fun _ => 0))), (q26, .inl (cZ, 200, .inl (fun _ => 0)))] H := hP
  have hD : va_D A [(h0, .inr (8, [.ref q8, .ref q17, .null])), (q8, .inl (cI, 200, .inl (fun _ => 0))), (q17, .inl (cI, 200, .inl (fun _ => 0))), (q26, .inl (cZ, 200, .inl (fun _ => 0)))] := hD
  refine W.widen (k := 3) (n := 600) (by omega) (by omega) ?_
  refine va_putF (D := D) (ci := 8) (v := .ref q26) (ty := (.array .boolean)) (C := RX8) (T := TX8) (N := 3) hx hb hts inX8 tyX8 tyX8_ok nmX8 hown hK hP hD hS 0 rfl rfl 2 (by decide) k8 (fun _ h9 => h9) rfl hin rfl (by decide +kernel) rfl rfl (Nat.le_of_ble_eq_true rfl) dX8_init_28 (fun H locs hP hD hS => ?_)
  have hP : va_P D vwCl [(h0, .inr (8, [.ref q8, .ref q17, .ref q26])), (q8, .inl (cI, 200, .inl (fun _ => 0))), (q17, .inl (cI, 200, .inl (fun _ => 0))), (q26, .inl (cZ, 200, .inl (fun _ => 0)))] H := hP
  have hD : va_D A [(h0, .inr (8, [.ref q8, .ref q17, .ref q26])), (q8, .inl (cI, 200, .inl (fun _ => 0))), (q17, .inl (cI, 200, .inl (fun _ => 0))), (q26, .inl (cZ, 200, .inl (fun _ => 0)))] := hD
  have hP9 := hP.sub (ws' := iW_X8 cI cZ h0 (fun k => ([h0, q8, q17, q26] : List Nat).getD k 0)) [0, 1, 2, 3] rfl
  have hD9 := hD.sub (ws' := iW_X8 cI cZ h0 (fun k => ([h0, q8, q17, q26] : List Nat).getD k 0)) [0, 1, 2, 3] (by decide) rfl
  exact W.vret hx hb hr (fun t ht hW => ⟨⟨(fun k => ([h0, q8, q17, q26] : List Nat).getD k 0), rfl, trivial, iAt_of ht hP9 hD9⟩, hS.F ht⟩) hS.2.2 dX8_init_31
def iW_X1 (cI cZ : ClassId) (h0 : Nat) (u : Nat → Nat) : va_W := [(h0, .inr (1, [.ref (u 1), .ref (u 5), .ref (u 9), .int 0])), ((u 1), .inr (8, [.ref (u 2), .ref (u 3), .ref (u 4)])), ((u 2), .inl (cI, 200, .inl (fun _ => 0))), ((u 3), .inl (cI, 200, .inl (fun _ => 0))), ((u 4), .inl (cZ, 200, .inl (fun _ => 0))), ((u 5), .inr (8, [.ref (u 6), .ref (u 7), .ref (u 8)])), ((u 6), .inl (cI, 200, .inl (fun _ => 0))), ((u 7), .inl (cI, 200, .inl (fun _ => 0))), ((u 8), .inl (cZ, 200, .inl (fun _ => 0))), ((u 9), .inl (cI, 1800, .inl (fun _ => 0)))]
set_option maxHeartbeats 4000000 in
set_option maxRecDepth 100000 in
theorem kX1_init (l : Launch) (D : va_G) (cI cZ : ClassId) (h0 sz : Nat) : Met l yX1_init uX1_init ({ frames := 2, cells := 9, slots := 3006, locals := 32 }) (va_Pc [.ref h0] (iPre D cI cZ h0 sz (.inr (1, [.null, .null, .null, .int 0])))) (va_Qv (fun _ : Nat → Nat => True) (fun (u : Nat → Nat) t => iAt D (va_A [(h0, .inr (1, [.null, .null, .null, .int 0]))] sz) (iW_X1 cI cZ h0 u) t) (va_A [(h0, .inr (1, [.null, .null, .null, .int 0]))] sz)) 9 3006 (va_A [(h0, .inr (1, [.null, .null, .null, .int 0]))] sz) := by
  refine Met.ofW (cc := cX1_init) (maxL := 1) (ret := none) (by decide) rfl ?_
  intro p e s m args below meth c s₁ B hml hv
  obtain ⟨rfl, hsz, hP, hK, hD0, hN⟩ := hv
  have hx := B.exec
  have hb := B.bytes
  have hr := B.returns
  have hts := atoms_spec (ws := uX1_init) B.pre
  have hown : s.vm.findClass RX1 = some m.cls := findClass_of_methodNamed B.named
  have hlocks := B.notSynchronized
  have hin : meth.name = "<init>" := (name_of_methodNamed B.named B.method).1
  subst hsz
  have hD := hD0.self (sz := s.heap.size)
  generalize hAe : va_A [(h0, .inr (1, [.null, .null, .null, .int 0]))] s.heap.size = A at hD ⊢
  have hA : ∀ q : Nat, s.heap.size ≤ q → A q := fun q h => by rw [← hAe]; exact Or.inr h
  have hS : va_S A s.heap s.heap [] := va_S.rf
  have hP : va_P D vwCl [(h0, .inr (1, [.null, .null, .null, .int 0]))] s.heap := hP
  have k0 := hts (.methodLink RX1 3 objectInit) (List.mem_cons_of_mem _ (inA_4 _ (List.mem_of_getElem? (i := 0) rfl)))
  have k1 := hts (.instanceMethod objectInit) (List.mem_cons_of_mem _ (inA_1 _ (List.mem_of_getElem? (i := 10) rfl)))
  have k2 := hts (.code objectInit ⟨#[0xb1]⟩ 1 none) (List.mem_cons_of_mem _ (inA_1 _ (List.mem_of_getElem? (i := 11) rfl)))
  have inX8 : ∀ w ∈ wsX80, w ∈ uX1_init := fun w h => List.mem_cons_of_mem _ (inCX8 w h)
  have k4 := hts (.classLink RX1 9 RX8) (List.mem_cons_of_mem _ (inA_4 _ (List.mem_of_getElem? (i := 1) rfl)))
  have k5 := hts (.instantiable RX8 3) (List.mem_cons_of_mem _ (inA_4 _ (List.mem_of_getElem? (i := 2) rfl)))
  have k6 := hts (.initialized RX8) (List.mem_cons_of_mem _ (inA_4 _ (List.mem_of_getElem? (i := 3) rfl)))
  have k7 := hts (.instanceMethod yX8_init) (List.mem_cons_of_mem _ (inA_4 _ (List.mem_of_getElem? (i := 8) rfl)))
  have k8 := hts (.fieldLink RX1 12 "TwoEyes$Costs" "left" "LTwoEyes$Stand;") (List.mem_cons_of_mem _ (inA_4 _ (List.mem_of_getElem? (i := 4) rfl)))
  have inX1 : ∀ w ∈ wsX10, w ∈ uX1_init := fun w h => List.mem_cons_of_mem _ (inCX1 w h)
  have k10 := hts (.fieldLink RX1 18 "TwoEyes$Costs" "right" "LTwoEyes$Stand;") (List.mem_cons_of_mem _ (inA_4 _ (List.mem_of_getElem? (i := 5) rfl)))
  have k11 := hts (.arrayClass .int) (List.mem_cons_of_mem _ (inA_1 _ (List.mem_of_getElem? (i := 18) rfl)))
  have k12 := hts (.fieldLink RX1 21 "TwoEyes$Costs" "table" "[I") (List.mem_cons_of_mem _ (inA_4 _ (List.mem_of_getElem? (i := 6) rfl)))
  have k13 := hts (.fieldLink RX1 25 "TwoEyes$Costs" "fresh" "Z") (List.mem_cons_of_mem _ (inA_4 _ (List.mem_of_getElem? (i := 7) rfl)))
  have hl := lv_entry ([.ref h0]) (n := 1) (Nat.le_of_ble_eq_true rfl)
  rw [lg_entry_eq]
  generalize (lg_sl ([.ref h0]) ++ List.replicate (1 - (lg_sl ([.ref h0])).length) Slot.unset).toArray = ls at hl ⊢
  have hl : lv_has ls 1 [(0, .ref h0)] := hl
  refine lv_aload_n hx hb dX1_init_0 rfl (lv_at hl 0 rfl) ?_
  refine W.objInit hx hb hown k0 k1 k2 rfl (by rw [hml]; exact hl.1) rfl dX1_init_1 (Nat.le_of_ble_eq_true rfl) (Nat.le_of_ble_eq_true rfl) ?_
  refine W.eq (g2 := F0 m 4 ls []) rfl ?_
  refine lv_aload_n hx hb dX1_init_4 rfl (lv_at hl 0 rfl) ?_
  refine va_new (ci := 8) (fs := [.null, .null, .null]) (C := RX8) (T := TX8) (N := 3) hx hb hts inX8 tyX8 tyX8_ok hown k4 k5 k6 hK hP hD hS hA rfl (fun j hj => by rcases (show j = 0 ∨ j = 1 ∨ j = 2 by omega) with rfl | rfl | rfl <;> rfl) (Nat.le_of_ble_eq_true rfl) (Nat.le_of_ble_eq_true rfl) dX1_init_5 (fun q5 H hP hD hS => ?_)
  have hP : va_P D vwCl [(h0, .inr (1, [.null, .null, .null, .int 0])), (q5, .inr (8, [.null, .null, .null]))] H := hP
  have hD : va_D A [(h0, .inr (1, [.null, .null, .null, .int 0])), (q5, .inr (8, [.null, .null, .null]))] := hD
  refine W.widen (k := 1) (n := 3) (by omega) (by omega) ?_
  refine lv_dup hx hb dX1_init_8 rfl ?_
  have hPc := hP.sub (ws' := [(q5, .inr (8, [.null, .null, .null]))]) [1] rfl
  have hDc := hD.sub (ws' := [(q5, .inr (8, [.null, .null, .null]))]) [1] (by decide) rfl
  have hFc := va_free (wc := [(q5, .inr (8, [.null, .null, .null]))]) hD hS hA [1] rfl
  refine va_callv (va_runIN (As := []) (rest := [.ref q5, .ref h0]) ⟨hx, hb, hml, hown, hts⟩ (kX8_init l D cI cZ q5 H.size) ⟨va_cnB 0 hts (gdI uS vX8_init) rfl rfl rfl hN.2.2.1 k6 (by decide +kernel) ⟨Nat.le_of_ble_eq_true rfl, Nat.le_of_ble_eq_true rfl⟩, rfl, k7⟩ ⟨iPre.call, fun U hU hW => ⟨rfl, by rw [hU], by rw [hU]; exact hPc, va_K.moved hW.alike hK, hDc.weaken (fun _ _ _ _ => trivial), hN.go hW⟩⟩ rfl rfl hl.1 rfl (lv_room (Nat.le_of_ble_eq_true rfl)) dX1_init_9 ⟨Nat.le_of_ble_eq_true rfl, Nat.le_of_ble_eq_true rfl⟩) hS (fun q _ h => hFc q h) hFc (fun u9 t H1 locs ht hvm hw hB hz1 hk1 hS => ?_)
  obtain ⟨hP1, hD1⟩ := hB
  rw [ht] at hP1
  have hP1 : va_P D vwCl [(q5, .inr (8, [.ref (u9 1), .ref (u9 2), .ref (u9 3)])), ((u9 1), .inl (cI, 200, .inl (fun _ => 0))), ((u9 2), .inl (cI, 200, .inl (fun _ => 0))), ((u9 3), .inl (cZ, 200, .inl (fun _ => 0)))] H1 := hP1
  obtain ⟨hP, hD⟩ := va_join (wr := [(h0, .inr (1, [.null, .null, .null, .int 0]))]) (w1 := [(q5, .inr (8, [.ref (u9 1), .ref (u9 2), .ref (u9 3)])), ((u9 1), .inl (cI, 200, .inl (fun _ => 0))), ((u9 2), .inl (cI, 200, .inl (fun _ => 0))), ((u9 3), .inl (cZ, 200, .inl (fun _ => 0)))]) hP hD [1] [0] rfl rfl (by decide) (by decide) hk1 hFc hP1 hD1
  generalize H1 = H at hP hS ⊢
  have hP : va_P D vwCl [(h0, .inr (1, [.null, .null, .null, .int 0])), (q5, .inr (8, [.ref (u9 1), .ref (u9 2), .ref (u9 3)])), ((u9 1), .inl (cI, 200, .inl (fun _ => 0))), ((u9 2), .inl (cI, 200, .inl (fun _ => 0))), ((u9 3), .inl (cZ, 200, .inl (fun _ => 0)))] H := hP
  have hD : va_D A [(h0, .inr (1, [.null, .null, .null, .int 0])), (q5, .inr (8, [.ref (u9 1), .ref (u9 2), .ref (u9 3)])), ((u9 1), .inl (cI, 200, .inl (fun _ => 0))), ((u9 2), .inl (cI, 200, .inl (fun _ => 0))), ((u9 3), .inl (cZ, 200, .inl (fun _ => 0)))] := hD
  refine W.widen (k := 4) (n := 603) (by omega) (by omega) ?_
  refine va_putF (D := D) (ci := 1) (v := .ref q5) (ty := (.object "TwoEyes$Stand")) (C := RX1) (T := TX1) (N := 4) hx hb hts inX1 tyX1 tyX1_ok nmX1 hown hK hP hD hS 0 rfl rfl 0 (by decide) k8 (fun _ h9 => h9) rfl hin rfl (by decide +kernel) rfl rfl (Nat.le_of_ble_eq_true rfl) dX1_init_12 (fun H locs hP hD hS => ?_)
  have hP : va_P D vwCl [(h0, .inr (1, [.ref q5, .null, .null, .int 0])), (q5, .inr (8, [.ref (u9 1), .ref (u9 2), .ref (u9 3)])), ((u9 1), .inl (cI, 200, .inl (fun _ => 0))), ((u9 2), .inl (cI, 200, .inl (fun _ => 0))), ((u9 3), .inl (cZ, 200, .inl (fun _ => 0)))] H := hP
  have hD : va_D A [(h0, .inr (1, [.ref q5, .null, .null, .int 0])), (q5, .inr (8, [.ref (u9 1), .ref (u9 2), .ref (u9 3)])), ((u9 1), .inl (cI, 200, .inl (fun _ => 0))), ((u9 2), .inl (cI, 200, .inl (fun _ => 0))), ((u9 3), .inl (cZ, 200, .inl (fun _ => 0)))] := hD
  refine lv_aload_n hx hb dX1_init_15 rfl (lv_at hl 0 rfl) ?_
  refine va_new (ci := 8) (fs := [.null, .null, .null]) (C := RX8) (T := TX8) (N := 3) hx hb hts inX8 tyX8 tyX8_ok hown k4 k5 k6 hK hP hD hS hA rfl (fun j hj => by rcases (show j = 0 ∨ j = 1 ∨ j = 2 by omega) with rfl | rfl | rfl <;> rfl) (Nat.le_of_ble_eq_true rfl) (Nat.le_of_ble_eq_true rfl) dX1_init_16 (fun q16 H hP hD hS => ?_)
  have hP : va_P D vwCl [(h0, .inr (1, [.ref q5, .null, .null, .int 0])), (q5, .inr (8, [.ref (u9 1), .ref (u9 2), .ref (u9 3)])), ((u9 1), .inl (cI, 200, .inl (fun _ => 0))), ((u9 2), .inl (cI, 200, .inl (fun _ => 0))), ((u9 3), .inl (cZ, 200, .inl (fun _ => 0))), (q16, .inr (8, [.null, .null, .null]))] H := hP
  have hD : va_D A [(h0, .inr (1, [.ref q5, .null, .null, .int 0])), (q5, .inr (8, [.ref (u9 1), .ref (u9 2), .ref (u9 3)])), ((u9 1), .inl (cI, 200, .inl (fun _ => 0))), ((u9 2), .inl (cI, 200, .inl (fun _ => 0))), ((u9 3), .inl (cZ, 200, .inl (fun _ => 0))), (q16, .inr (8, [.null, .null, .null]))] := hD
  refine W.widen (k := 5) (n := 606) (by omega) (by omega) ?_
  refine lv_dup hx hb dX1_init_19 rfl ?_
  have hPc := hP.sub (ws' := [(q16, .inr (8, [.null, .null, .null]))]) [5] rfl
  have hDc := hD.sub (ws' := [(q16, .inr (8, [.null, .null, .null]))]) [5] (by decide) rfl
  have hFc := va_free (wc := [(q16, .inr (8, [.null, .null, .null]))]) hD hS hA [5] rfl
  refine va_callv (va_runIN (As := []) (rest := [.ref q16, .ref h0]) ⟨hx, hb, hml, hown, hts⟩ (kX8_init l D cI cZ q16 H.size) ⟨va_cnB 0 hts (gdI uS vX8_init) rfl rfl rfl hN.2.2.1 k6 (by decide +kernel) ⟨Nat.le_of_ble_eq_true rfl, Nat.le_of_ble_eq_true rfl⟩, rfl, k7⟩ ⟨iPre.call, fun U hU hW => ⟨rfl, by rw [hU], by rw [hU]; exact hPc, va_K.moved hW.alike hK, hDc.weaken (fun _ _ _ _ => trivial), hN.go hW⟩⟩ rfl rfl hl.1 rfl (lv_room (Nat.le_of_ble_eq_true rfl)) dX1_init_20 ⟨Nat.le_of_ble_eq_true rfl, Nat.le_of_ble_eq_true rfl⟩) hS (fun q _ h => hFc q h) hFc (fun u20 t H1 locs ht hvm hw hB hz1 hk1 hS => ?_)
  obtain ⟨hP1, hD1⟩ := hB
  rw [ht] at hP1
  have hP1 : va_P D vwCl [(q16, .inr (8, [.ref (u20 1), .ref (u20 2), .ref (u20 3)])), ((u20 1), .inl (cI, 200, .inl (fun _ => 0))), ((u20 2), .inl (cI, 200, .inl (fun _ => 0))), ((u20 3), .inl (cZ, 200, .inl (fun _ => 0)))] H1 := hP1
  obtain ⟨hP, hD⟩ := va_join (wr := [(h0, .inr (1, [.ref q5, .null, .null, .int 0])), (q5, .inr (8, [.ref (u9 1), .ref (u9 2), .ref (u9 3)])), ((u9 1), .inl (cI, 200, .inl (fun _ => 0))), ((u9 2), .inl (cI, 200, .inl (fun _ => 0))), ((u9 3), .inl (cZ, 200, .inl (fun _ => 0)))]) (w1 := [(q16, .inr (8, [.ref (u20 1), .ref (u20 2), .ref (u20 3)])), ((u20 1), .inl (cI, 200, .inl (fun _ => 0))), ((u20 2), .inl (cI, 200, .inl (fun _ => 0))), ((u20 3), .inl (cZ, 200, .inl (fun _ => 0)))]) hP hD [5] [0, 1, 2, 3, 4] rfl rfl (by decide) (by decide) hk1 hFc hP1 hD1
  generalize H1 = H at hP hS ⊢
  have hP : va_P D vwCl [(h0, .inr (1, [.ref q5, .null, .null, .int 0])), (q5, .inr (8, [.ref (u9 1), .ref (u9 2), .ref (u9 3)])), ((u9 1), .inl (cI, 200, .inl (fun _ => 0))), ((u9 2), .inl (cI, 200, .inl (fun _ => 0))), ((u9 3), .inl (cZ, 200, .inl (fun _ => 0))), (q16, .inr (8, [.ref (u20 1), .ref (u20 2), .ref (u20 3)])), ((u20 1), .inl (cI, 200, .inl (fun _ => 0))), ((u20 2), .inl (cI, 200, .inl (fun _ => 0))), ((u20 3), .inl (cZ, 200, .inl (fun _ => 0)))] H := hP
  have hD : va_D A [(h0, .inr (1, [.ref q5, .null, .null, .int 0])), (q5, .inr (8, [.ref (u9 1), .ref (u9 2), .ref (u9 3)])), ((u9 1), .inl (cI, 200, .inl (fun _ => 0))), ((u9 2), .inl (cI, 200, .inl (fun _ => 0))), ((u9 3), .inl (cZ, 200, .inl (fun _ => 0))), (q16, .inr (8, [.ref (u20 1), .ref (u20 2), .ref (u20 3)])), ((u20 1), .inl (cI, 200, .inl (fun _ => 0))), ((u20 2), .inl (cI, 200, .inl (fun _ => 0))), ((u20 3), .inl (cZ, 200, .inl (fun _ => 0)))] := hD
  refine W.widen (k := 8) (n := 1206) (by omega) (by omega) ?_
  refine va_putF (D := D) (ci := 1) (v := .ref q16) (ty := (.object "TwoEyes$Stand")) (C := RX1) (T := TX1) (N := 4) hx hb hts inX1 tyX1 tyX1_ok nmX1 hown hK hP hD hS 0 rfl rfl 1 (by decide) k10 (fun _ h9 => h9) rfl hin rfl (by decide +kernel) rfl rfl (Nat.le_of_ble_eq_true rfl) dX1_init_23 (fun H locs hP hD hS => ?_)
  have hP : va_P D vwCl [(h0, .inr (1, [.ref q5, .ref q16, .null, .int 0])), (q5, .inr (8, [.ref (u9 1), .ref (u9 2), .ref (u9 3)])), ((u9 1), .inl (cI, 200, .inl (fun _ => 0))), ((u9 2), .inl (cI, 200, .inl (fun _ => 0))), ((u9 3), .inl (cZ, 200, .inl (fun _ => 0))), (q16, .inr (8, [.ref (u20 1), .ref (u20 2), .ref (u20 3)])), ((u20 1), .inl (cI, 200, .inl (fun _ => 0))), ((u20 2), .inl (cI, 200, .inl (fun _ => 0))), ((u20 3), .inl (cZ, 200, .inl (fun _ => 0)))] H := hP
  have hD : va_D A [(h0, .inr (1, [.ref q5, .ref q16, .null, .int 0])), (q5, .inr (8, [.ref (u9 1), .ref (u9 2), .ref (u9 3)])), ((u9 1), .inl (cI, 200, .inl (fun _ => 0))), ((u9 2), .inl (cI, 200, .inl (fun _ => 0))), ((u9 3), .inl (cZ, 200, .inl (fun _ => 0))), (q16, .inr (8, [.ref (u20 1), .ref (u20 2), .ref (u20 3)])), ((u20 1), .inl (cI, 200, .inl (fun _ => 0))), ((u20 2), .inl (cI, 200, .inl (fun _ => 0))), ((u20 3), .inl (cZ, 200, .inl (fun _ => 0)))] := hD
  refine lv_aload_n hx hb dX1_init_26 rfl (lv_at hl 0 rfl) ?_
  refine lv_sipush (v := 1800) hx hb dX1_init_27 (by decide) ?_
  refine new_arr (atype := .int) (ty := .int) (cA := cI) (n := 1800) (N := 1800) hx hb k11 rfl hK hP hD hS hA 0 rfl ra_int rfl (by decide) (by decide) (by decide) (Nat.le_of_ble_eq_true rfl) (Nat.le_of_ble_eq_true rfl) dX1_init_30 (fun q30 H hP hD hS => ?_)
  have hP : va_P D vwCl [(h0, .inr (1, [.ref q5, .ref q16, .null, .int 0])), (q5, .inr (8, [.ref (u9 1), .ref (u9 2), .ref (u9 3)])), ((u9 1), .inl (cI, 200, .inl (fun _ => 0))), ((u9 2), .inl (cI, 200, .inl (fun _ => 0))), ((u9 3), .inl (cZ, 200, .inl (fun _ => 0))), (q16, .inr (8, [.ref (u20 1), .ref (u20 2), .ref (u20 3)])), ((u20 1), .inl (cI, 200, .inl (fun _ => 0))), ((u20 2), .inl (cI, 200, .inl (fun _ => 0))), ((u20 3), .inl (cZ, 200, .inl (fun _ => 0))), (q30, .inl (cI, 1800, .inl (fun _ => 0)))] H := hP
  have hD : va_D A [(h0, .inr (1, [.ref q5, .ref q16, .null, .int 0])), (q5, .inr (8, [.ref (u9 1), .ref (u9 2), .ref (u9 3)])), ((u9 1), .inl (cI, 200, .inl (fun _ => 0))), ((u9 2), .inl (cI, 200, .inl (fun _ => 0))), ((u9 3), .inl (cZ, 200, .inl (fun _ => 0))), (q16, .inr (8, [.ref (u20 1), .ref (u20 2), .ref (u20 3)])), ((u20 1), .inl (cI, 200, .inl (fun _ => 0))), ((u20 2), .inl (cI, 200, .inl (fun _ => 0))), ((u20 3), .inl (cZ, 200, .inl (fun _ => 0))), (q30, .inl (cI, 1800, .inl (fun _ => 0)))] := hD
  refine W.widen (k := 9) (n := 3006) (by omega) (by omega) ?_
  refine va_putF (D := D) (ci := 1) (v := .ref q30) (ty := (.array .int)) (C := RX1) (T := TX1) (N := 4) hx hb hts inX1 tyX1 tyX1_ok nmX1 hown hK hP hD hS 0 rfl rfl 2 (by decide) k12 (fun _ h9 => h9) rfl hin rfl (by decide +kernel) rfl rfl (Nat.le_of_ble_eq_true rfl) dX1_init_32 (fun H locs hP hD hS => ?_)
  have hP : va_P D vwCl [(h0, .inr (1, [.ref q5, .ref q16, .ref q30, .int 0])), (q5, .inr (8, [.ref (u9 1), .ref (u9 2), .ref (u9 3)])), ((u9 1), .inl (cI, 200, .inl (fun _ => 0))), ((u9 2), .inl (cI, 200, .inl (fun _ => 0))), ((u9 3), .inl (cZ, 200, .inl (fun _ => 0))), (q16, .inr (8, [.ref (u20 1), .ref (u20 2), .ref (u20 3)])), ((u20 1), .inl (cI, 200, .inl (fun _ => 0))), ((u20 2), .inl (cI, 200, .inl (fun _ => 0))), ((u20 3), .inl (cZ, 200, .inl (fun _ => 0))), (q30, .inl (cI, 1800, .inl (fun _ => 0)))] H := hP
  have hD : va_D A [(h0, .inr (1, [.ref q5, .ref q16, .ref q30, .int 0])), (q5, .inr (8, [.ref (u9 1), .ref (u9 2), .ref (u9 3)])), ((u9 1), .inl (cI, 200, .inl (fun _ => 0))), ((u9 2), .inl (cI, 200, .inl (fun _ => 0))), ((u9 3), .inl (cZ, 200, .inl (fun _ => 0))), (q16, .inr (8, [.ref (u20 1), .ref (u20 2), .ref (u20 3)])), ((u20 1), .inl (cI, 200, .inl (fun _ => 0))), ((u20 2), .inl (cI, 200, .inl (fun _ => 0))), ((u20 3), .inl (cZ, 200, .inl (fun _ => 0))), (q30, .inl (cI, 1800, .inl (fun _ => 0)))] := hD
  refine lv_aload_n hx hb dX1_init_35 rfl (lv_at hl 0 rfl) ?_
  refine lv_iconst (v := 0) hx hb dX1_init_36 (by decide) ?_
  refine va_put (D := D) (ci := 1) (v := .int 0) (ty := .boolean) (C := RX1) (T := TX1) (N := 4) hx hb hts inX1 tyX1 tyX1_ok nmX1 hown hK hP hD hS 0 rfl rfl 3 (by decide) k13 (fun _ h9 => h9) rfl (by decide +kernel) rfl rfl (Nat.le_of_ble_eq_true rfl) dX1_init_37 (fun H locs hP hD hS => ?_)
  have hP : va_P D vwCl [(h0, .inr (1, [.ref q5, .ref q16, .ref q30, .int 0])), (q5, .inr (8, [.ref (u9 1), .ref (u9 2), .ref (u9 3)])), ((u9 1), .inl (cI, 200, .inl (fun _ => 0))), ((u9 2), .inl (cI, 200, .inl (fun _ => 0))), ((u9 3), .inl (cZ, 200, .inl (fun _ => 0))), (q16, .inr (8, [.ref (u20 1), .ref (u20 2), .ref (u20 3)])), ((u20 1), .inl (cI, 200, .inl (fun _ => 0))), ((u20 2), .inl (cI, 200, .inl (fun _ => 0))), ((u20 3), .inl (cZ, 200, .inl (fun _ => 0))), (q30, .inl (cI, 1800, .inl (fun _ => 0)))] H := hP
  have hD : va_D A [(h0, .inr (1, [.ref q5, .ref q16, .ref q30, .int 0])), (q5, .inr (8, [.ref (u9 1), .ref (u9 2), .ref (u9 3)])), ((u9 1), .inl (cI, 200, .inl (fun _ => 0))), ((u9 2), .inl (cI, 200, .inl (fun _ => 0))), ((u9 3), .inl (cZ, 200, .inl (fun _ => 0))), (q16, .inr (8, [.ref (u20 1), .ref (u20 2), .ref (u20 3)])), ((u20 1), .inl (cI, 200, .inl (fun _ => 0))), ((u20 2), .inl (cI, 200, .inl (fun _ => 0))), ((u20 3), .inl (cZ, 200, .inl (fun _ => 0))), (q30, .inl (cI, 1800, .inl (fun _ => 0)))] := hD
  have hP9 := hP.sub (ws' := iW_X1 cI cZ h0 (fun k => ([h0, q5, (u9 1), (u9 2), (u9 3), q16, (u20 1), (u20 2), (u20 3), q30] : List Nat).getD k 0)) [0, 1, 2, 3, 4, 5, 6, 7, 8, 9] rfl
  have hD9 := hD.sub (ws' := iW_X1 cI cZ h0 (fun k => ([h0, q5, (u9 1), (u9 2), (u9 3), q16, (u20 1), (u20 2), (u20 3), q30] : List Nat).getD k 0)) [0, 1, 2, 3, 4, 5, 6, 7, 8, 9] (by decide) rfl
  exact W.vret hx hb hr (fun t ht hW => ⟨⟨(fun k => ([h0, q5, (u9 1), (u9 2), (u9 3), q16, (u20 1), (u20 2), (u20 3), q30] : List Nat).getD k 0), rfl, trivial, iAt_of ht hP9 hD9⟩, hS.F ht⟩) hS.2.2 dX1_init_40
def iW_X3 (cI cZ : ClassId) (h0 : Nat) (u : Nat → Nat) : va_W := [(h0, .inr (3, [.ref (u 1), .ref (u 2), .ref (u 3)])), ((u 1), .inl (cI, 441, .inl (fun _ => 0))), ((u 2), .inl (cI, 200, .inl (fun _ => 0))), ((u 3), .inl (cI, 10, .inl (fun j => if j < 10 then (-4) else (fun _ => 0) j)))]
set_option maxHeartbeats 4000000 in
set_option maxRecDepth 100000 in
theorem kX3_init (l : Launch) (D : va_G) (cI cZ : ClassId) (h0 sz : Nat) : Met l yX3_init uX3_init ({ frames := 1, cells := 3, slots := 651, locals := 23 }) (va_Pc [.ref h0] (iPre D cI cZ h0 sz (.inr (3, [.null, .null, .null])))) (va_Qv (fun _ : Nat → Nat => True) (fun (u : Nat → Nat) t => iAt D (va_A [(h0, .inr (3, [.null, .null, .null]))] sz) (iW_X3 cI cZ h0 u) t) (va_A [(h0, .inr (3, [.null, .null, .null]))] sz)) 3 651 (va_A [(h0, .inr (3, [.null, .null, .null]))] sz) := by
  refine Met.ofW (cc := cX3_init) (maxL := 1) (ret := none) (by decide) rfl ?_
  intro p e s m args below meth c s₁ B hml hv
  obtain ⟨rfl, hsz, hP, hK, hD0, hN⟩ := hv
  have hx := B.exec
  have hb := B.bytes
  have hr := B.returns
  have hts := atoms_spec (ws := uX3_init) B.pre
  have hown : s.vm.findClass RX3 = some m.cls := findClass_of_methodNamed B.named
  have hlocks := B.notSynchronized
  have hin : meth.name = "<init>" := (name_of_methodNamed B.named B.method).1
  subst hsz
  have hD := hD0.self (sz := s.heap.size)
  generalize hAe : va_A [(h0, .inr (3, [.null, .null, .null]))] s.heap.size = A at hD ⊢
  have hA : ∀ q : Nat, s.heap.size ≤ q → A q := fun q h => by rw [← hAe]; exact Or.inr h
  have hS : va_S A s.heap s.heap [] := va_S.rf
  have hP : va_P D vwCl [(h0, .inr (3, [.null, .null, .null]))] s.heap := hP
  have k0 := hts (.methodLink RX3 3 objectInit) (List.mem_cons_of_mem _ (inA_4 _ (List.mem_of_getElem? (i := 17) rfl)))
  have k1 := hts (.instanceMethod objectInit) (List.mem_cons_of_mem _ (inA_1 _ (List.mem_of_getElem? (i := 10) rfl)))
  have k2 := hts (.code objectInit ⟨#[0xb1]⟩ 1 none) (List.mem_cons_of_mem _ (inA_1 _ (List.mem_of_getElem? (i := 11) rfl)))
  have k3 := hts (.arrayClass .int) (List.mem_cons_of_mem _ (inA_1 _ (List.mem_of_getElem? (i := 18) rfl)))
  have k4 := hts (.fieldLink RX3 11 "TwoEyes$Paths" "rest" "[I") (List.mem_cons_of_mem _ (inA_4 _ (List.mem_of_getElem? (i := 18) rfl)))
  have inX3 : ∀ w ∈ wsX30, w ∈ uX3_init := fun w h => List.mem_cons_of_mem _ (inCX3 w h)
  have k6 := hts (.fieldLink RX3 15 "TwoEyes$Paths" "match" "[I") (List.mem_cons_of_mem _ (inA_4 _ (List.mem_of_getElem? (i := 19) rfl)))
  have k7 := hts (.fieldLink RX3 18 "TwoEyes$Paths" "total" "[I") (List.mem_cons_of_mem _ (inA_4 _ (List.mem_of_getElem? (i := 20) rfl)))
  have hl := lv_entry ([.ref h0]) (n := 1) (Nat.le_of_ble_eq_true rfl)
  rw [lg_entry_eq]
  generalize (lg_sl ([.ref h0]) ++ List.replicate (1 - (lg_sl ([.ref h0])).length) Slot.unset).toArray = ls at hl ⊢
  have hl : lv_has ls 1 [(0, .ref h0)] := hl
  refine lv_aload_n hx hb dX3_init_0 rfl (lv_at hl 0 rfl) ?_
  refine W.objInit hx hb hown k0 k1 k2 rfl (by rw [hml]; exact hl.1) rfl dX3_init_1 (Nat.le_of_ble_eq_true rfl) (Nat.le_of_ble_eq_true rfl) ?_
  refine W.eq (g2 := F0 m 4 ls []) rfl ?_
  refine lv_aload_n hx hb dX3_init_4 rfl (lv_at hl 0 rfl) ?_
  refine lv_sipush (v := 441) hx hb dX3_init_5 (by decide) ?_
  refine new_arr (atype := .int) (ty := .int) (cA := cI) (n := 441) (N := 441) hx hb k3 rfl hK hP hD hS hA 0 rfl ra_int rfl (by decide) (by decide) (by decide) (Nat.le_of_ble_eq_true rfl) (Nat.le_of_ble_eq_true rfl) dX3_init_8 (fun q8 H hP hD hS => ?_)
  have hP : va_P D vwCl [(h0, .inr (3, [.null, .null, .null])), (q8, .inl (cI, 441, .inl (fun _ => 0)))] H := hP
  have hD : va_D A [(h0, .inr (3, [.null, .null, .null])), (q8, .inl (cI, 441, .inl (fun _ => 0)))] := hD
  refine W.widen (k := 1) (n := 441) (by omega) (by omega) ?_
  refine va_putF (D := D) (ci := 3) (v := .ref q8) (ty := (.array .int)) (C := RX3) (T := TX3) (N := 3) hx hb hts inX3 tyX3 tyX3_ok nmX3 hown hK hP hD hS 0 rfl rfl 0 (by decide) k4 (fun _ h9 => h9) rfl hin rfl (by decide +kernel) rfl rfl (Nat.le_of_ble_eq_true rfl) dX3_init_10 (fun H locs hP hD hS => ?_)
  have hP : va_P D vwCl [(h0, .inr (3, [.ref q8, .null, .null])), (q8, .inl (cI, 441, .inl (fun _ => 0)))] H := hP
  have hD : va_D A [(h0, .inr (3, [.ref q8, .null, .null])), (q8, .inl (cI, 441, .inl (fun _ => 0)))] := hD
  refine lv_aload_n hx hb dX3_init_13 rfl (lv_at hl 0 rfl) ?_
  refine lv_sipush (v := 200) hx hb dX3_init_14 (by decide) ?_
  refine new_arr (atype := .int) (ty := .int) (cA := cI) (n := 200) (N := 200) hx hb k3 rfl hK hP hD hS hA 0 rfl ra_int rfl (by decide) (by decide) (by decide) (Nat.le_of_ble_eq_true rfl) (Nat.le_of_ble_eq_true rfl) dX3_init_17 (fun q17 H hP hD hS => ?_)
  have hP : va_P D vwCl [(h0, .inr (3, [.ref q8, .null, .null])), (q8, .inl (cI, 441, .inl (fun _ => 0))), (q17, .inl (cI, 200, .inl (fun _ => 0)))] H := hP
  have hD : va_D A [(h0, .inr (3, [.ref q8, .null, .null])), (q8, .inl (cI, 441, .inl (fun _ => 0))), (q17, .inl (cI, 200, .inl (fun _ => 0)))] := hD
  refine W.widen (k := 2) (n := 641) (by omega) (by omega) ?_
  refine va_putF (D := D) (ci := 3) (v := .ref q17) (ty := (.array .int)) (C := RX3) (T := TX3) (N := 3) hx hb hts inX3 tyX3 tyX3_ok nmX3 hown hK hP hD hS 0 rfl rfl 1 (by decide) k6 (fun _ h9 => h9) rfl hin rfl (by decide +kernel) rfl rfl (Nat.le_of_ble_eq_true rfl) dX3_init_19 (fun H locs hP hD hS => ?_)
  have hP : va_P D vwCl [(h0, .inr (3, [.ref q8, .ref q17, .null])), (q8, .inl (cI, 441, .inl (fun _ => 0))), (q17, .inl (cI, 200, .inl (fun _ => 0)))] H := hP
  have hD : va_D A [(h0, .inr (3, [.ref q8, .ref q17, .null])), (q8, .inl (cI, 441, .inl (fun _ => 0))), (q17, .inl (cI, 200, .inl (fun _ => 0)))] := hD
  refine lv_aload_n hx hb dX3_init_22 rfl (lv_at hl 0 rfl) ?_
  refine lv_bipush (v := 10) hx hb dX3_init_23 (by decide) ?_
  refine new_arr (atype := .int) (ty := .int) (cA := cI) (n := 10) (N := 10) hx hb k3 rfl hK hP hD hS hA 0 rfl ra_int rfl (by decide) (by decide) (by decide) (Nat.le_of_ble_eq_true rfl) (Nat.le_of_ble_eq_true rfl) dX3_init_25 (fun q25 H hP hD hS => ?_)
  have hP : va_P D vwCl [(h0, .inr (3, [.ref q8, .ref q17, .null])), (q8, .inl (cI, 441, .inl (fun _ => 0))), (q17, .inl (cI, 200, .inl (fun _ => 0))), (q25, .inl (cI, 10, .inl (fun _ => 0)))] H := hP
  have hD : va_D A [(h0, .inr (3, [.ref q8, .ref q17, .null])), (q8, .inl (cI, 441, .inl (fun _ => 0))), (q17, .inl (cI, 200, .inl (fun _ => 0))), (q25, .inl (cI, 10, .inl (fun _ => 0)))] := hD
  refine W.widen (k := 3) (n := 651) (by omega) (by omega) ?_
  refine va_putF (D := D) (ci := 3) (v := .ref q25) (ty := (.array .int)) (C := RX3) (T := TX3) (N := 3) hx hb hts inX3 tyX3 tyX3_ok nmX3 hown hK hP hD hS 0 rfl rfl 2 (by decide) k7 (fun _ h9 => h9) rfl hin rfl (by decide +kernel) rfl rfl (Nat.le_of_ble_eq_true rfl) dX3_init_27 (fun H locs hP hD hS => ?_)
  have hP : va_P D vwCl [(h0, .inr (3, [.ref q8, .ref q17, .ref q25])), (q8, .inl (cI, 441, .inl (fun _ => 0))), (q17, .inl (cI, 200, .inl (fun _ => 0))), (q25, .inl (cI, 10, .inl (fun _ => 0)))] H := hP
  have hD : va_D A [(h0, .inr (3, [.ref q8, .ref q17, .ref q25])), (q8, .inl (cI, 441, .inl (fun _ => 0))), (q17, .inl (cI, 200, .inl (fun _ => 0))), (q25, .inl (cI, 10, .inl (fun _ => 0)))] := hD
  refine lv_aload_n hx hb dX3_init_30 rfl (lv_at hl 0 rfl) ?_
  refine va_get (D := D) (ci := 3) (v := .ref q25) (C := RX3) (T := TX3) (N := 3) hx hb hts inX3 hown hK hP 0 rfl rfl 2 (by decide) k7 (fun _ h9 => h9) rfl dX3_init_31 ?_
  refine lv_bipush (v := (-4)) hx hb dX3_init_34 (by decide) ?_
  have hk9 : ([(h0, .inr (3, [.ref q8, .ref q17, .ref q25])), (q8, .inl (cI, 441, .inl (fun _ => 0))), (q17, .inl (cI, 200, .inl (fun _ => 0))), (q25, .inl (cI, 10, .inl (fun _ => 0)))] : va_W)[3]? = some (q25, .inl (cI, 10, .inl (fun _ => 0))) := rfl
  refine fill_call (k := 3) (rest := []) ⟨hx, hb, hml, hown, hts⟩ (va_cwS 2 hts (gdS uS (inA_4 _ (List.mem_of_getElem? (i := 21) rfl)) vJ7_fill_53178) rfl rfl rfl (by decide +kernel) ⟨Nat.le_of_ble_eq_true rfl, Nat.le_of_ble_eq_true rfl⟩) hK hP hD hS hk9 rfl (by decide) hl.1 (Nat.le_of_ble_eq_true rfl) dX3_init_36 ⟨Nat.le_of_ble_eq_true rfl, Nat.le_of_ble_eq_true rfl⟩ (fun H locs hP hS => ?_)
  have hD := hD.set (e := .inl (cI, 10, .inl (fun j => if j < 10 then (-4) else (fun _ => 0) j))) hk9
  have hP : va_P D vwCl [(h0, .inr (3, [.ref q8, .ref q17, .ref q25])), (q8, .inl (cI, 441, .inl (fun _ => 0))), (q17, .inl (cI, 200, .inl (fun _ => 0))), (q25, .inl (cI, 10, .inl (fun j => if j < 10 then (-4) else (fun _ => 0) j)))] H := hP
  have hD : va_D A [(h0, .inr (3, [.ref q8, .ref q17, .ref q25])), (q8, .inl (cI, 441, .inl (fun _ => 0))), (q17, .inl (cI, 200, .inl (fun _ => 0))), (q25, .inl (cI, 10, .inl (fun j => if j < 10 then (-4) else (fun _ => 0) j)))] := hD
  have hP9 := hP.sub (ws' := iW_X3 cI cZ h0 (fun k => ([h0, q8, q17, q25] : List Nat).getD k 0)) [0, 1, 2, 3] rfl
  have hD9 := hD.sub (ws' := iW_X3 cI cZ h0 (fun k => ([h0, q8, q17, q25] : List Nat).getD k 0)) [0, 1, 2, 3] (by decide) rfl
  exact W.vret hx hb hr (fun t ht hW => ⟨⟨(fun k => ([h0, q8, q17, q25] : List Nat).getD k 0), rfl, trivial, iAt_of ht hP9 hD9⟩, hS.F ht⟩) hS.2.2 dX3_init_39
def iW_X9 (cI cZ : ClassId) (h0 : Nat) (u : Nat → Nat) : va_W := [(h0, .inr (9, [.ref (u 1), .ref (u 2), .ref (u 3), .ref (u 4), .int 0, .int 0, .int (-4)])), ((u 1), .inl (cI, 1800, .inl (fun _ => 0))), ((u 2), .inl (cI, 1800, .inl (fun _ => 0))), ((u 3), .inl (cI, 200, .inl (fun _ => 0))), ((u 4), .inl (cI, 1800, .inl (fun _ => 0)))]
set_option maxHeartbeats 4000000 in
set_option maxRecDepth 100000 in
theorem kX9_init (l : Launch) (D : va_G) (cI cZ : ClassId) (h0 sz : Nat) : Met l yX9_init uX9_init ({ frames := 1, cells := 4, slots := 5600, locals := 12 }) (va_Pc [.ref h0] (iPre D cI cZ h0 sz (.inr (9, [.null, .null, .null, .null, .int 0, .int 0, .int 0])))) (va_Qv (fun _ : Nat → Nat => True) (fun (u : Nat → Nat) t => iAt D (va_A [(h0, .inr (9, [.null, .null, .null, .null, .int 0, .int 0, .int 0]))] sz) (iW_X9 cI cZ h0 u) t) (va_A [(h0, .inr (9, [.null, .null, .null, .null, .int 0, .int 0, .int 0]))] sz)) 4 5600 (va_A [(h0, .inr (9, [.null, .null, .null, .null, .int 0, .int 0, .int 0]))] sz) := by
  refine Met.ofW (cc := cX9_init) (maxL := 1) (ret := none) (by decide) rfl ?_
  intro p e s m args below meth c s₁ B hml hv
  obtain ⟨rfl, hsz, hP, hK, hD0, hN⟩ := hv
  have hx := B.exec
  have hb := B.bytes
  have hr := B.returns
  have hts := atoms_spec (ws := uX9_init) B.pre
  have hown : s.vm.findClass RX9 = some m.cls := findClass_of_methodNamed B.named
  have hlocks := B.notSynchronized
  have hin : meth.name = "<init>" := (name_of_methodNamed B.named B.method).1
  subst hsz
  have hD := hD0.self (sz := s.heap.size)
  generalize hAe : va_A [(h0, .inr (9, [.null, .null, .null, .null, .int 0, .int 0, .int 0]))] s.heap.size = A at hD ⊢
  have hA : ∀ q : Nat, s.heap.size ≤ q → A q := fun q h => by rw [← hAe]; exact Or.inr h
  have hS : va_S A s.heap s.heap [] := va_S.rf
  have hP : va_P D vwCl [(h0, .inr (9, [.null, .null, .null, .null, .int 0, .int 0, .int 0]))] s.heap := hP
  have k0 := hts (.methodLink RX9 3 objectInit) (List.mem_cons_of_mem _ (inA_5 _ (List.mem_of_getElem? (i := 0) rfl)))
  have k1 := hts (.instanceMethod objectInit) (List.mem_cons_of_mem _ (inA_1 _ (List.mem_of_getElem? (i := 10) rfl)))
  have k2 := hts (.code objectInit ⟨#[0xb1]⟩ 1 none) (List.mem_cons_of_mem _ (inA_1 _ (List.mem_of_getElem? (i := 11) rfl)))
  have k3 := hts (.arrayClass .int) (List.mem_cons_of_mem _ (inA_1 _ (List.mem_of_getElem? (i := 18) rfl)))
  have k4 := hts (.fieldLink RX9 9 "TwoEyes$Sums" "votes" "[I") (List.mem_cons_of_mem _ (inA_5 _ (List.mem_of_getElem? (i := 1) rfl)))
  have inX9 : ∀ w ∈ wsX90, w ∈ uX9_init := fun w h => List.mem_cons_of_mem _ (inCX9 w h)
  have k6 := hts (.fieldLink RX9 15 "TwoEyes$Sums" "runs" "[I") (List.mem_cons_of_mem _ (inA_5 _ (List.mem_of_getElem? (i := 2) rfl)))
  have k7 := hts (.fieldLink RX9 18 "TwoEyes$Sums" "least" "[I") (List.mem_cons_of_mem _ (inA_5 _ (List.mem_of_getElem? (i := 3) rfl)))
  have k8 := hts (.fieldLink RX9 21 "TwoEyes$Sums" "totals" "[I") (List.mem_cons_of_mem _ (inA_5 _ (List.mem_of_getElem? (i := 4) rfl)))
  have k9 := hts (.fieldLink RX9 24 "TwoEyes$Sums" "voted" "Z") (List.mem_cons_of_mem _ (inA_5 _ (List.mem_of_getElem? (i := 5) rfl)))
  have k10 := hts (.fieldLink RX9 28 "TwoEyes$Sums" "added" "Z") (List.mem_cons_of_mem _ (inA_5 _ (List.mem_of_getElem? (i := 6) rfl)))
  have k11 := hts (.fieldLink RX9 31 "TwoEyes$Sums" "way" "I") (List.mem_cons_of_mem _ (inA_5 _ (List.mem_of_getElem? (i := 7) rfl)))
  have hl := lv_entry ([.ref h0]) (n := 1) (Nat.le_of_ble_eq_true rfl)
  rw [lg_entry_eq]
  generalize (lg_sl ([.ref h0]) ++ List.replicate (1 - (lg_sl ([.ref h0])).length) Slot.unset).toArray = ls at hl ⊢
  have hl : lv_has ls 1 [(0, .ref h0)] := hl
  refine lv_aload_n hx hb dX9_init_0 rfl (lv_at hl 0 rfl) ?_
  refine W.objInit hx hb hown k0 k1 k2 rfl (by rw [hml]; exact hl.1) rfl dX9_init_1 (Nat.le_of_ble_eq_true rfl) (Nat.le_of_ble_eq_true rfl) ?_
  refine W.eq (g2 := F0 m 4 ls []) rfl ?_
  refine lv_aload_n hx hb dX9_init_4 rfl (lv_at hl 0 rfl) ?_
  refine lv_sipush (v := 1800) hx hb dX9_init_5 (by decide) ?_
  refine new_arr (atype := .int) (ty := .int) (cA := cI) (n := 1800) (N := 1800) hx hb k3 rfl hK hP hD hS hA 0 rfl ra_int rfl (by decide) (by decide) (by decide) (Nat.le_of_ble_eq_true rfl) (Nat.le_of_ble_eq_true rfl) dX9_init_8 (fun q8 H hP hD hS => ?_)
  have hP : va_P D vwCl [(h0, .inr (9, [.null, .null, .null, .null, .int 0, .int 0, .int 0])), (q8, .inl (cI, 1800, .inl (fun _ => 0)))] H := hP
  have hD : va_D A [(h0, .inr (9, [.null, .null, .null, .null, .int 0, .int 0, .int 0])), (q8, .inl (cI, 1800, .inl (fun _ => 0)))] := hD
  refine W.widen (k := 1) (n := 1800) (by omega) (by omega) ?_
  refine va_putF (D := D) (ci := 9) (v := .ref q8) (ty := (.array .int)) (C := RX9) (T := TX9) (N := 7) hx hb hts inX9 tyX9 tyX9_ok nmX9 hown hK hP hD hS 0 rfl rfl 0 (by decide) k4 (fun _ h9 => h9) rfl hin rfl (by decide +kernel) rfl rfl (Nat.le_of_ble_eq_true rfl) dX9_init_10 (fun H locs hP hD hS => ?_)
  have hP : va_P D vwCl [(h0, .inr (9, [.ref q8, .null, .null, .null, .int 0, .int 0, .int 0])), (q8, .inl (cI, 1800, .inl (fun _ => 0)))] H := hP
  have hD : va_D A [(h0, .inr (9, [.ref q8, .null, .null, .null, .int 0, .int 0, .int 0])), (q8, .inl (cI, 1800, .inl (fun _ => 0)))] := hD
  refine lv_aload_n hx hb dX9_init_13 rfl (lv_at hl 0 rfl) ?_
  refine lv_sipush (v := 1800) hx hb dX9_init_14 (by decide) ?_
  refine new_arr (atype := .int) (ty := .int) (cA := cI) (n := 1800) (N := 1800) hx hb k3 rfl hK hP hD hS hA 0 rfl ra_int rfl (by decide) (by decide) (by decide) (Nat.le_of_ble_eq_true rfl) (Nat.le_of_ble_eq_true rfl) dX9_init_17 (fun q17 H hP hD hS => ?_)
  have hP : va_P D vwCl [(h0, .inr (9, [.ref q8, .null, .null, .null, .int 0, .int 0, .int 0])), (q8, .inl (cI, 1800, .inl (fun _ => 0))), (q17, .inl (cI, 1800, .inl (fun _ => 0)))] H := hP
  have hD : va_D A [(h0, .inr (9, [.ref q8, .null, .null, .null, .int 0, .int 0, .int 0])), (q8, .inl (cI, 1800, .inl (fun _ => 0))), (q17, .inl (cI, 1800, .inl (fun _ => 0)))] := hD
  refine W.widen (k := 2) (n := 3600) (by omega) (by omega) ?_
  refine va_putF (D := D) (ci := 9) (v := .ref q17) (ty := (.array .int)) (C := RX9) (T := TX9) (N := 7) hx hb hts inX9 tyX9 tyX9_ok nmX9 hown hK hP hD hS 0 rfl rfl 1 (by decide) k6 (fun _ h9 => h9) rfl hin rfl (by decide +kernel) rfl rfl (Nat.le_of_ble_eq_true rfl) dX9_init_19 (fun H locs hP hD hS => ?_)
  have hP : va_P D vwCl [(h0, .inr (9, [.ref q8, .ref q17, .null, .null, .int 0, .int 0, .int 0])), (q8, .inl (cI, 1800, .inl (fun _ => 0))), (q17, .inl (cI, 1800, .inl (fun _ => 0)))] H := hP
  have hD : va_D A [(h0, .inr (9, [.ref q8, .ref q17, .null, .null, .int 0, .int 0, .int 0])), (q8, .inl (cI, 1800, .inl (fun _ => 0))), (q17, .inl (cI, 1800, .inl (fun _ => 0)))] := hD
  refine lv_aload_n hx hb dX9_init_22 rfl (lv_at hl 0 rfl) ?_
  refine lv_sipush (v := 200) hx hb dX9_init_23 (by decide) ?_
  refine new_arr (atype := .int) (ty := .int) (cA := cI) (n := 200) (N := 200) hx hb k3 rfl hK hP hD hS hA 0 rfl ra_int rfl (by decide) (by decide) (by decide) (Nat.le_of_ble_eq_true rfl) (Nat.le_of_ble_eq_true rfl) dX9_init_26 (fun q26 H hP hD hS => ?_)
  have hP : va_P D vwCl [(h0, .inr (9, [.ref q8, .ref q17, .null, .null, .int 0, .int 0, .int 0])), (q8, .inl (cI, 1800, .inl (fun _ => 0))), (q17, .inl (cI, 1800, .inl (fun _ => 0))), (q26, .inl (cI, 200, .inl (fun _ => 0)))] H := hP
  have hD : va_D A [(h0, .inr (9, [.ref q8, .ref q17, .null, .null, .int 0, .int 0, .int 0])), (q8, .inl (cI, 1800, .inl (fun _ => 0))), (q17, .inl (cI, 1800, .inl (fun _ => 0))), (q26, .inl (cI, 200, .inl (fun _ => 0)))] := hD
  refine W.widen (k := 3) (n := 3800) (by omega) (by omega) ?_
  refine va_putF (D := D) (ci := 9) (v := .ref q26) (ty := (.array .int)) (C := RX9) (T := TX9) (N := 7) hx hb hts inX9 tyX9 tyX9_ok nmX9 hown hK hP hD hS 0 rfl rfl 2 (by decide) k7 (fun _ h9 => h9) rfl hin rfl (by decide +kernel) rfl rfl (Nat.le_of_ble_eq_true rfl) dX9_init_28 (fun H locs hP hD hS => ?_)
  have hP : va_P D vwCl [(h0, .inr (9, [.ref q8, .ref q17, .ref q26, .null, .int 0, .int 0, .int 0])), (q8, .inl (cI, 1800, .inl (fun _ => 0))), (q17, .inl (cI, 1800, .inl (fun _ => 0))), (q26, .inl (cI, 200, .inl (fun _ => 0)))] H := hP
  have hD : va_D A [(h0, .inr (9, [.ref q8, .ref q17, .ref q26, .null, .int 0, .int 0, .int 0])), (q8, .inl (cI, 1800, .inl (fun _ => 0))), (q17, .inl (cI, 1800, .inl (fun _ => 0))), (q26, .inl (cI, 200, .inl (fun _ => 0)))] := hD
  refine lv_aload_n hx hb dX9_init_31 rfl (lv_at hl 0 rfl) ?_
  refine lv_sipush (v := 1800) hx hb dX9_init_32 (by decide) ?_
  refine new_arr (atype := .int) (ty := .int) (cA := cI) (n := 1800) (N := 1800) hx hb k3 rfl hK hP hD hS hA 0 rfl ra_int rfl (by decide) (by decide) (by decide) (Nat.le_of_ble_eq_true rfl) (Nat.le_of_ble_eq_true rfl) dX9_init_35 (fun q35 H hP hD hS => ?_)
  have hP : va_P D vwCl [(h0, .inr (9, [.ref q8, .ref q17, .ref q26, .null, .int 0, .int 0, .int 0])), (q8, .inl (cI, 1800, .inl (fun _ => 0))), (q17, .inl (cI, 1800, .inl (fun _ => 0))), (q26, .inl (cI, 200, .inl (fun _ => 0))), (q35, .inl (cI, 1800, .inl (fun _ => 0)))] H := hP
  have hD : va_D A [(h0, .inr (9, [.ref q8, .ref q17, .ref q26, .null, .int 0, .int 0, .int 0])), (q8, .inl (cI, 1800, .inl (fun _ => 0))), (q17, .inl (cI, 1800, .inl (fun _ => 0))), (q26, .inl (cI, 200, .inl (fun _ => 0))), (q35, .inl (cI, 1800, .inl (fun _ => 0)))] := hD
  refine W.widen (k := 4) (n := 5600) (by omega) (by omega) ?_
  refine va_putF (D := D) (ci := 9) (v := .ref q35) (ty := (.array .int)) (C := RX9) (T := TX9) (N := 7) hx hb hts inX9 tyX9 tyX9_ok nmX9 hown hK hP hD hS 0 rfl rfl 3 (by decide) k8 (fun _ h9 => h9) rfl hin rfl (by decide +kernel) rfl rfl (Nat.le_of_ble_eq_true rfl) dX9_init_37 (fun H locs hP hD hS => ?_)
  have hP : va_P D vwCl [(h0, .inr (9, [.ref q8, .ref q17, .ref q26, .ref q35, .int 0, .int 0, .int 0])), (q8, .inl (cI, 1800, .inl (fun _ => 0))), (q17, .inl (cI, 1800, .inl (fun _ => 0))), (q26, .inl (cI, 200, .inl (fun _ => 0))), (q35, .inl (cI, 1800, .inl (fun _ => 0)))] H := hP
  have hD : va_D A [(h0, .inr (9, [.ref q8, .ref q17, .ref q26, .ref q35, .int 0, .int 0, .int 0])), (q8, .inl (cI, 1800, .inl (fun _ => 0))), (q17, .inl (cI, 1800, .inl (fun _ => 0))), (q26, .inl (cI, 200, .inl (fun _ => 0))), (q35, .inl (cI, 1800, .inl (fun _ => 0)))] := hD
  refine lv_aload_n hx hb dX9_init_40 rfl (lv_at hl 0 rfl) ?_
  refine lv_iconst (v := 0) hx hb dX9_init_41 (by decide) ?_
  refine va_put (D := D) (ci := 9) (v := .int 0) (ty := .boolean) (C := RX9) (T := TX9) (N := 7) hx hb hts inX9 tyX9 tyX9_ok nmX9 hown hK hP hD hS 0 rfl rfl 4 (by decide) k9 (fun _ h9 => h9) rfl (by decide +kernel) rfl rfl (Nat.le_of_ble_eq_true rfl) dX9_init_42 (fun H locs hP hD hS => ?_)
  have hP : va_P D vwCl [(h0, .inr (9, [.ref q8, .ref q17, .ref q26, .ref q35, .int 0, .int 0, .int 0])), (q8, .inl (cI, 1800, .inl (fun _ => 0))), (q17, .inl (cI, 1800, .inl (fun _ => 0))), (q26, .inl (cI, 200, .inl (fun _ => 0))), (q35, .inl (cI, 1800, .inl (fun _ => 0)))] H := hP
  have hD : va_D A [(h0, .inr (9, [.ref q8, .ref q17, .ref q26, .ref q35, .int 0, .int 0, .int 0])), (q8, .inl (cI, 1800, .inl (fun _ => 0))), (q17, .inl (cI, 1800, .inl (fun _ => 0))), (q26, .inl (cI, 200, .inl (fun _ => 0))), (q35, .inl (cI, 1800, .inl (fun _ => 0)))] := hD
  refine lv_aload_n hx hb dX9_init_45 rfl (lv_at hl 0 rfl) ?_
  refine lv_iconst (v := 0) hx hb dX9_init_46 (by decide) ?_
  refine va_put (D := D) (ci := 9) (v := .int 0) (ty := .boolean) (C := RX9) (T := TX9) (N := 7) hx hb hts inX9 tyX9 tyX9_ok nmX9 hown hK hP hD hS 0 rfl rfl 5 (by decide) k10 (fun _ h9 => h9) rfl (by decide +kernel) rfl rfl (Nat.le_of_ble_eq_true rfl) dX9_init_47 (fun H locs hP hD hS => ?_)
  have hP : va_P D vwCl [(h0, .inr (9, [.ref q8, .ref q17, .ref q26, .ref q35, .int 0, .int 0, .int 0])), (q8, .inl (cI, 1800, .inl (fun _ => 0))), (q17, .inl (cI, 1800, .inl (fun _ => 0))), (q26, .inl (cI, 200, .inl (fun _ => 0))), (q35, .inl (cI, 1800, .inl (fun _ => 0)))] H := hP
  have hD : va_D A [(h0, .inr (9, [.ref q8, .ref q17, .ref q26, .ref q35, .int 0, .int 0, .int 0])), (q8, .inl (cI, 1800, .inl (fun _ => 0))), (q17, .inl (cI, 1800, .inl (fun _ => 0))), (q26, .inl (cI, 200, .inl (fun _ => 0))), (q35, .inl (cI, 1800, .inl (fun _ => 0)))] := hD
  refine lv_aload_n hx hb dX9_init_50 rfl (lv_at hl 0 rfl) ?_
  refine lv_bipush (v := (-4)) hx hb dX9_init_51 (by decide) ?_
  refine va_put (D := D) (ci := 9) (v := .int (-4)) (ty := .int) (C := RX9) (T := TX9) (N := 7) hx hb hts inX9 tyX9 tyX9_ok nmX9 hown hK hP hD hS 0 rfl rfl 6 (by decide) k11 (fun _ h9 => h9) rfl (by decide +kernel) rfl rfl (Nat.le_of_ble_eq_true rfl) dX9_init_53 (fun H locs hP hD hS => ?_)
  have hP : va_P D vwCl [(h0, .inr (9, [.ref q8, .ref q17, .ref q26, .ref q35, .int 0, .int 0, .int (-4)])), (q8, .inl (cI, 1800, .inl (fun _ => 0))), (q17, .inl (cI, 1800, .inl (fun _ => 0))), (q26, .inl (cI, 200, .inl (fun _ => 0))), (q35, .inl (cI, 1800, .inl (fun _ => 0)))] H := hP
  have hD : va_D A [(h0, .inr (9, [.ref q8, .ref q17, .ref q26, .ref q35, .int 0, .int 0, .int (-4)])), (q8, .inl (cI, 1800, .inl (fun _ => 0))), (q17, .inl (cI, 1800, .inl (fun _ => 0))), (q26, .inl (cI, 200, .inl (fun _ => 0))), (q35, .inl (cI, 1800, .inl (fun _ => 0)))] := hD
  have hP9 := hP.sub (ws' := iW_X9 cI cZ h0 (fun k => ([h0, q8, q17, q26, q35] : List Nat).getD k 0)) [0, 1, 2, 3, 4] rfl
  have hD9 := hD.sub (ws' := iW_X9 cI cZ h0 (fun k => ([h0, q8, q17, q26, q35] : List Nat).getD k 0)) [0, 1, 2, 3, 4] (by decide) rfl
  exact W.vret hx hb hr (fun t ht hW => ⟨⟨(fun k => ([h0, q8, q17, q26, q35] : List Nat).getD k 0), rfl, trivial, iAt_of ht hP9 hD9⟩, hS.F ht⟩) hS.2.2 dX9_init_56
def iW_X2 (cI cZ : ClassId) (h0 : Nat) (u : Nat → Nat) : va_W := [(h0, .inr (2, [.ref (u 1), .int 0])), ((u 1), .inl (cI, 200, .inl (fun _ => 0)))]
set_option maxHeartbeats 4000000 in
set_option maxRecDepth 100000 in
theorem kX2_init (l : Launch) (D : va_G) (cI cZ : ClassId) (h0 sz : Nat) : Met l yX2_init uX2_init ({ frames := 1, cells := 1, slots := 200, locals := 12 }) (va_Pc [.ref h0] (iPre D cI cZ h0 sz (.inr (2, [.null, .int 0])))) (va_Qv (fun _ : Nat → Nat => True) (fun (u : Nat → Nat) t => iAt D (va_A [(h0, .inr (2, [.null, .int 0]))] sz) (iW_X2 cI cZ h0 u) t) (va_A [(h0, .inr (2, [.null, .int 0]))] sz)) 1 200 (va_A [(h0, .inr (2, [.null, .int 0]))] sz) := by
  refine Met.ofW (cc := cX2_init) (maxL := 1) (ret := none) (by decide) rfl ?_
  intro p e s m args below meth c s₁ B hml hv
  obtain ⟨rfl, hsz, hP, hK, hD0, hN⟩ := hv
  have hx := B.exec
  have hb := B.bytes
  have hr := B.returns
  have hts := atoms_spec (ws := uX2_init) B.pre
  have hown : s.vm.findClass RX2 = some m.cls := findClass_of_methodNamed B.named
  have hlocks := B.notSynchronized
  have hin : meth.name = "<init>" := (name_of_methodNamed B.named B.method).1
  subst hsz
  have hD := hD0.self (sz := s.heap.size)
  generalize hAe : va_A [(h0, .inr (2, [.null, .int 0]))] s.heap.size = A at hD ⊢
  have hA : ∀ q : Nat, s.heap.size ≤ q → A q := fun q h => by rw [← hAe]; exact Or.inr h
  have hS : va_S A s.heap s.heap [] := va_S.rf
  have hP : va_P D vwCl [(h0, .inr (2, [.null, .int 0]))] s.heap := hP
  have k0 := hts (.methodLink RX2 3 objectInit) (List.mem_cons_of_mem _ (inA_5 _ (List.mem_of_getElem? (i := 10) rfl)))
  have k1 := hts (.instanceMethod objectInit) (List.mem_cons_of_mem _ (inA_1 _ (List.mem_of_getElem? (i := 10) rfl)))
  have k2 := hts (.code objectInit ⟨#[0xb1]⟩ 1 none) (List.mem_cons_of_mem _ (inA_1 _ (List.mem_of_getElem? (i := 11) rfl)))
  have k3 := hts (.arrayClass .int) (List.mem_cons_of_mem _ (inA_1 _ (List.mem_of_getElem? (i := 18) rfl)))
  have k4 := hts (.fieldLink RX2 9 "TwoEyes$Depths" "told" "[I") (List.mem_cons_of_mem _ (inA_5 _ (List.mem_of_getElem? (i := 11) rfl)))
  have inX2 : ∀ w ∈ wsX20, w ∈ uX2_init := fun w h => List.mem_cons_of_mem _ (inCX2 w h)
  have k6 := hts (.fieldLink RX2 15 "TwoEyes$Depths" "fresh" "Z") (List.mem_cons_of_mem _ (inA_5 _ (List.mem_of_getElem? (i := 12) rfl)))
  have hl := lv_entry ([.ref h0]) (n := 1) (Nat.le_of_ble_eq_true rfl)
  rw [lg_entry_eq]
  generalize (lg_sl ([.ref h0]) ++ List.replicate (1 - (lg_sl ([.ref h0])).length) Slot.unset).toArray = ls at hl ⊢
  have hl : lv_has ls 1 [(0, .ref h0)] := hl
  refine lv_aload_n hx hb dX2_init_0 rfl (lv_at hl 0 rfl) ?_
  refine W.objInit hx hb hown k0 k1 k2 rfl (by rw [hml]; exact hl.1) rfl dX2_init_1 (Nat.le_of_ble_eq_true rfl) (Nat.le_of_ble_eq_true rfl) ?_
  refine W.eq (g2 := F0 m 4 ls []) rfl ?_
  refine lv_aload_n hx hb dX2_init_4 rfl (lv_at hl 0 rfl) ?_
  refine lv_sipush (v := 200) hx hb dX2_init_5 (by decide) ?_
  refine new_arr (atype := .int) (ty := .int) (cA := cI) (n := 200) (N := 200) hx hb k3 rfl hK hP hD hS hA 0 rfl ra_int rfl (by decide) (by decide) (by decide) (Nat.le_of_ble_eq_true rfl) (Nat.le_of_ble_eq_true rfl) dX2_init_8 (fun q8 H hP hD hS => ?_)
  have hP : va_P D vwCl [(h0, .inr (2, [.null, .int 0])), (q8, .inl (cI, 200, .inl (fun _ => 0)))] H := hP
  have hD : va_D A [(h0, .inr (2, [.null, .int 0])), (q8, .inl (cI, 200, .inl (fun _ => 0)))] := hD
  refine W.widen (k := 1) (n := 200) (by omega) (by omega) ?_
  refine va_putF (D := D) (ci := 2) (v := .ref q8) (ty := (.array .int)) (C := RX2) (T := TX2) (N := 2) hx hb hts inX2 tyX2 tyX2_ok nmX2 hown hK hP hD hS 0 rfl rfl 0 (by decide) k4 (fun _ h9 => h9) rfl hin rfl (by decide +kernel) rfl rfl (Nat.le_of_ble_eq_true rfl) dX2_init_10 (fun H locs hP hD hS => ?_)
  have hP : va_P D vwCl [(h0, .inr (2, [.ref q8, .int 0])), (q8, .inl (cI, 200, .inl (fun _ => 0)))] H := hP
  have hD : va_D A [(h0, .inr (2, [.ref q8, .int 0])), (q8, .inl (cI, 200, .inl (fun _ => 0)))] := hD
  refine lv_aload_n hx hb dX2_init_13 rfl (lv_at hl 0 rfl) ?_
  refine lv_iconst (v := 0) hx hb dX2_init_14 (by decide) ?_
  refine va_put (D := D) (ci := 2) (v := .int 0) (ty := .boolean) (C := RX2) (T := TX2) (N := 2) hx hb hts inX2 tyX2 tyX2_ok nmX2 hown hK hP hD hS 0 rfl rfl 1 (by decide) k6 (fun _ h9 => h9) rfl (by decide +kernel) rfl rfl (Nat.le_of_ble_eq_true rfl) dX2_init_15 (fun H locs hP hD hS => ?_)
  have hP : va_P D vwCl [(h0, .inr (2, [.ref q8, .int 0])), (q8, .inl (cI, 200, .inl (fun _ => 0)))] H := hP
  have hD : va_D A [(h0, .inr (2, [.ref q8, .int 0])), (q8, .inl (cI, 200, .inl (fun _ => 0)))] := hD
  have hP9 := hP.sub (ws' := iW_X2 cI cZ h0 (fun k => ([h0, q8] : List Nat).getD k 0)) [0, 1] rfl
  have hD9 := hD.sub (ws' := iW_X2 cI cZ h0 (fun k => ([h0, q8] : List Nat).getD k 0)) [0, 1] (by decide) rfl
  exact W.vret hx hb hr (fun t ht hW => ⟨⟨(fun k => ([h0, q8] : List Nat).getD k 0), rfl, trivial, iAt_of ht hP9 hD9⟩, hS.F ht⟩) hS.2.2 dX2_init_18
def iW_X7 (cI cZ : ClassId) (h0 : Nat) (u : Nat → Nat) : va_W := [(h0, .inr (7, [.ref (u 1), .int 0])), ((u 1), .inl (cI, 200, .inl (fun _ => 0)))]
set_option maxHeartbeats 4000000 in
set_option maxRecDepth 100000 in
theorem kX7_init (l : Launch) (D : va_G) (cI cZ : ClassId) (h0 sz : Nat) : Met l yX7_init uX7_init ({ frames := 1, cells := 1, slots := 200, locals := 12 }) (va_Pc [.ref h0] (iPre D cI cZ h0 sz (.inr (7, [.null, .int 0])))) (va_Qv (fun _ : Nat → Nat => True) (fun (u : Nat → Nat) t => iAt D (va_A [(h0, .inr (7, [.null, .int 0]))] sz) (iW_X7 cI cZ h0 u) t) (va_A [(h0, .inr (7, [.null, .int 0]))] sz)) 1 200 (va_A [(h0, .inr (7, [.null, .int 0]))] sz) := by
  refine Met.ofW (cc := cX7_init) (maxL := 1) (ret := none) (by decide) rfl ?_
  intro p e s m args below meth c s₁ B hml hv
  obtain ⟨rfl, hsz, hP, hK, hD0, hN⟩ := hv
  have hx := B.exec
  have hb := B.bytes
  have hr := B.returns
  have hts := atoms_spec (ws := uX7_init) B.pre
  have hown : s.vm.findClass RX7 = some m.cls := findClass_of_methodNamed B.named
  have hlocks := B.notSynchronized
  have hin : meth.name = "<init>" := (name_of_methodNamed B.named B.method).1
  subst hsz
  have hD := hD0.self (sz := s.heap.size)
  generalize hAe : va_A [(h0, .inr (7, [.null, .int 0]))] s.heap.size = A at hD ⊢
  have hA : ∀ q : Nat, s.heap.size ≤ q → A q := fun q h => by rw [← hAe]; exact Or.inr h
  have hS : va_S A s.heap s.heap [] := va_S.rf
  have hP : va_P D vwCl [(h0, .inr (7, [.null, .int 0]))] s.heap := hP
  have k0 := hts (.methodLink RX7 3 objectInit) (List.mem_cons_of_mem _ (inA_5 _ (List.mem_of_getElem? (i := 15) rfl)))
  have k1 := hts (.instanceMethod objectInit) (List.mem_cons_of_mem _ (inA_1 _ (List.mem_of_getElem? (i := 10) rfl)))
  have k2 := hts (.code objectInit ⟨#[0xb1]⟩ 1 none) (List.mem_cons_of_mem _ (inA_1 _ (List.mem_of_getElem? (i := 11) rfl)))
  have k3 := hts (.arrayClass .int) (List.mem_cons_of_mem _ (inA_1 _ (List.mem_of_getElem? (i := 18) rfl)))
  have k4 := hts (.fieldLink RX7 9 "TwoEyes$Segments" "anchor" "[I") (List.mem_cons_of_mem _ (inA_5 _ (List.mem_of_getElem? (i := 16) rfl)))
  have inX7 : ∀ w ∈ wsX70, w ∈ uX7_init := fun w h => List.mem_cons_of_mem _ (inCX7 w h)
  have k6 := hts (.fieldLink RX7 15 "TwoEyes$Segments" "fresh" "Z") (List.mem_cons_of_mem _ (inA_5 _ (List.mem_of_getElem? (i := 17) rfl)))
  have hl := lv_entry ([.ref h0]) (n := 1) (Nat.le_of_ble_eq_true rfl)
  rw [lg_entry_eq]
  generalize (lg_sl ([.ref h0]) ++ List.replicate (1 - (lg_sl ([.ref h0])).length) Slot.unset).toArray = ls at hl ⊢
  have hl : lv_has ls 1 [(0, .ref h0)] := hl
  refine lv_aload_n hx hb dX7_init_0 rfl (lv_at hl 0 rfl) ?_
  refine W.objInit hx hb hown k0 k1 k2 rfl (by rw [hml]; exact hl.1) rfl dX7_init_1 (Nat.le_of_ble_eq_true rfl) (Nat.le_of_ble_eq_true rfl) ?_
  refine W.eq (g2 := F0 m 4 ls []) rfl ?_
  refine lv_aload_n hx hb dX7_init_4 rfl (lv_at hl 0 rfl) ?_
  refine lv_sipush (v := 200) hx hb dX7_init_5 (by decide) ?_
  refine new_arr (atype := .int) (ty := .int) (cA := cI) (n := 200) (N := 200) hx hb k3 rfl hK hP hD hS hA 0 rfl ra_int rfl (by decide) (by decide) (by decide) (Nat.le_of_ble_eq_true rfl) (Nat.le_of_ble_eq_true rfl) dX7_init_8 (fun q8 H hP hD hS => ?_)
  have hP : va_P D vwCl [(h0, .inr (7, [.null, .int 0])), (q8, .inl (cI, 200, .inl (fun _ => 0)))] H := hP
  have hD : va_D A [(h0, .inr (7, [.null, .int 0])), (q8, .inl (cI, 200, .inl (fun _ => 0)))] := hD
  refine W.widen (k := 1) (n := 200) (by omega) (by omega) ?_
  refine va_putF (D := D) (ci := 7) (v := .ref q8) (ty := (.array .int)) (C := RX7) (T := TX7) (N := 2) hx hb hts inX7 tyX7 tyX7_ok nmX7 hown hK hP hD hS 0 rfl rfl 0 (by decide) k4 (fun _ h9 => h9) rfl hin rfl (by decide +kernel) rfl rfl (Nat.le_of_ble_eq_true rfl) dX7_init_10 (fun H locs hP hD hS => ?_)
  have hP : va_P D vwCl [(h0, .inr (7, [.ref q8, .int 0])), (q8, .inl (cI, 200, .inl (fun _ => 0)))] H := hP
  have hD : va_D A [(h0, .inr (7, [.ref q8, .int 0])), (q8, .inl (cI, 200, .inl (fun _ => 0)))] := hD
  refine lv_aload_n hx hb dX7_init_13 rfl (lv_at hl 0 rfl) ?_
  refine lv_iconst (v := 0) hx hb dX7_init_14 (by decide) ?_
  refine va_put (D := D) (ci := 7) (v := .int 0) (ty := .boolean) (C := RX7) (T := TX7) (N := 2) hx hb hts inX7 tyX7 tyX7_ok nmX7 hown hK hP hD hS 0 rfl rfl 1 (by decide) k6 (fun _ h9 => h9) rfl (by decide +kernel) rfl rfl (Nat.le_of_ble_eq_true rfl) dX7_init_15 (fun H locs hP hD hS => ?_)
  have hP : va_P D vwCl [(h0, .inr (7, [.ref q8, .int 0])), (q8, .inl (cI, 200, .inl (fun _ => 0)))] H := hP
  have hD : va_D A [(h0, .inr (7, [.ref q8, .int 0])), (q8, .inl (cI, 200, .inl (fun _ => 0)))] := hD
  have hP9 := hP.sub (ws' := iW_X7 cI cZ h0 (fun k => ([h0, q8] : List Nat).getD k 0)) [0, 1] rfl
  have hD9 := hD.sub (ws' := iW_X7 cI cZ h0 (fun k => ([h0, q8] : List Nat).getD k 0)) [0, 1] (by decide) rfl
  exact W.vret hx hb hr (fun t ht hW => ⟨⟨(fun k => ([h0, q8] : List Nat).getD k 0), rfl, trivial, iAt_of ht hP9 hD9⟩, hS.F ht⟩) hS.2.2 dX7_init_18
def iW_X5 (cI cZ : ClassId) (h0 : Nat) (u : Nat → Nat) : va_W := [(h0, .inr (5, [.int (-4), .int 0, .int 0, .int 0, .int 0, .int 0, .int 0, .ref (u 1), .ref (u 2), .ref (u 3), .int 0])), ((u 1), .inl (cI, 200, .inl (fun _ => 0))), ((u 2), .inl (cI, 200, .inl (fun _ => 0))), ((u 3), .inl (cI, 200, .inl (fun _ => 0)))]
set_option maxHeartbeats 4000000 in
set_option maxRecDepth 100000 in
theorem kX5_init (l : Launch) (D : va_G) (cI cZ : ClassId) (h0 sz : Nat) : Met l yX5_init uX5_init ({ frames := 1, cells := 3, slots := 600, locals := 12 }) (va_Pc [.ref h0] (iPre D cI cZ h0 sz (.inr (5, [.int 0, .int 0, .int 0, .int 0, .int 0, .int 0, .int 0, .null, .null, .null, .int 0])))) (va_Qv (fun _ : Nat → Nat => True) (fun (u : Nat → Nat) t => iAt D (va_A [(h0, .inr (5, [.int 0, .int 0, .int 0, .int 0, .int 0, .int 0, .int 0, .null, .null, .null, .int 0]))] sz) (iW_X5 cI cZ h0 u) t) (va_A [(h0, .inr (5, [.int 0, .int 0, .int 0, .int 0, .int 0, .int 0, .int 0, .null, .null, .null, .int 0]))] sz)) 3 600 (va_A [(h0, .inr (5, [.int 0, .int 0, .int 0, .int 0, .int 0, .int 0, .int 0, .null, .null, .null, .int 0]))] sz) := by
  refine Met.ofW (cc := cX5_init) (maxL := 1) (ret := none) (by decide) rfl ?_
  intro p e s m args below meth c s₁ B hml hv
  obtain ⟨rfl, hsz, hP, hK, hD0, hN⟩ := hv
  have hx := B.exec
  have hb := B.bytes
  have hr := B.returns
  have hts := atoms_spec (ws := uX5_init) B.pre
  have hown : s.vm.findClass RX5 = some m.cls := findClass_of_methodNamed B.named
  have hlocks := B.notSynchronized
  have hin : meth.name = "<init>" := (name_of_methodNamed B.named B.method).1
  subst hsz
  have hD := hD0.self (sz := s.heap.size)
  generalize hAe : va_A [(h0, .inr (5, [.int 0, .int 0, .int 0, .int 0, .int 0, .int 0, .int 0, .null, .null, .null, .int 0]))] s.heap.size = A at hD ⊢
  have hA : ∀ q : Nat, s.heap.size ≤ q → A q := fun q h => by rw [← hAe]; exact Or.inr h
  have hS : va_S A s.heap s.heap [] := va_S.rf
  have hP : va_P D vwCl [(h0, .inr (5, [.int 0, .int 0, .int 0, .int 0, .int 0, .int 0, .int 0, .null, .null, .null, .int 0]))] s.heap := hP
  have k0 := hts (.methodLink RX5 3 objectInit) (List.mem_cons_of_mem _ (inA_5 _ (List.mem_of_getElem? (i := 20) rfl)))
  have k1 := hts (.instanceMethod objectInit) (List.mem_cons_of_mem _ (inA_1 _ (List.mem_of_getElem? (i := 10) rfl)))
  have k2 := hts (.code objectInit ⟨#[0xb1]⟩ 1 none) (List.mem_cons_of_mem _ (inA_1 _ (List.mem_of_getElem? (i := 11) rfl)))
  have k3 := hts (.fieldLink RX5 9 "TwoEyes$Planes" "anchor" "I") (List.mem_cons_of_mem _ (inA_5 _ (List.mem_of_getElem? (i := 21) rfl)))
  have inX5 : ∀ w ∈ wsX50, w ∈ uX5_init := fun w h => List.mem_cons_of_mem _ (inCX5 w h)
  have k5 := hts (.fieldLink RX5 15 "TwoEyes$Planes" "b" "I") (List.mem_cons_of_mem _ (inA_5 _ (List.mem_of_getElem? (i := 22) rfl)))
  have k6 := hts (.fieldLink RX5 18 "TwoEyes$Planes" "a" "I") (List.mem_cons_of_mem _ (inA_5 _ (List.mem_of_getElem? (i := 23) rfl)))
  have k7 := hts (.fieldLink RX5 21 "TwoEyes$Planes" "c" "I") (List.mem_cons_of_mem _ (inA_6 _ (List.mem_of_getElem? (i := 0) rfl)))
  have k8 := hts (.fieldLink RX5 24 "TwoEyes$Planes" "price" "I") (List.mem_cons_of_mem _ (inA_6 _ (List.mem_of_getElem? (i := 1) rfl)))
  have k9 := hts (.fieldLink RX5 27 "TwoEyes$Planes" "anchorX" "I") (List.mem_cons_of_mem _ (inA_6 _ (List.mem_of_getElem? (i := 2) rfl)))
  have k10 := hts (.fieldLink RX5 30 "TwoEyes$Planes" "anchorY" "I") (List.mem_cons_of_mem _ (inA_6 _ (List.mem_of_getElem? (i := 3) rfl)))
  have k11 := hts (.arrayClass .int) (List.mem_cons_of_mem _ (inA_1 _ (List.mem_of_getElem? (i := 18) rfl)))
  have k12 := hts (.fieldLink RX5 33 "TwoEyes$Planes" "places" "[I") (List.mem_cons_of_mem _ (inA_6 _ (List.mem_of_getElem? (i := 4) rfl)))
  have k13 := hts (.fieldLink RX5 37 "TwoEyes$Planes" "aside" "[I") (List.mem_cons_of_mem _ (inA_6 _ (List.mem_of_getElem? (i := 5) rfl)))
  have k14 := hts (.fieldLink RX5 40 "TwoEyes$Planes" "down" "[I") (List.mem_cons_of_mem _ (inA_6 _ (List.mem_of_getElem? (i := 6) rfl)))
  have k15 := hts (.fieldLink RX5 43 "TwoEyes$Planes" "members" "I") (List.mem_cons_of_mem _ (inA_6 _ (List.mem_of_getElem? (i := 7) rfl)))
  have hl := lv_entry ([.ref h0]) (n := 1) (Nat.le_of_ble_eq_true rfl)
  rw [lg_entry_eq]
  generalize (lg_sl ([.ref h0]) ++ List.replicate (1 - (lg_sl ([.ref h0])).length) Slot.unset).toArray = ls at hl ⊢
  have hl : lv_has ls 1 [(0, .ref h0)] := hl
  refine lv_aload_n hx hb dX5_init_0 rfl (lv_at hl 0 rfl) ?_
  refine W.objInit hx hb hown k0 k1 k2 rfl (by rw [hml]; exact hl.1) rfl dX5_init_1 (Nat.le_of_ble_eq_true rfl) (Nat.le_of_ble_eq_true rfl) ?_
  refine W.eq (g2 := F0 m 4 ls []) rfl ?_
  refine lv_aload_n hx hb dX5_init_4 rfl (lv_at hl 0 rfl) ?_
  refine lv_bipush (v := (-4)) hx hb dX5_init_5 (by decide) ?_
  refine va_put (D := D) (ci := 5) (v := .int (-4)) (ty := .int) (C := RX5) (T := TX5) (N := 11) hx hb hts inX5 tyX5 tyX5_ok nmX5 hown hK hP hD hS 0 rfl rfl 0 (by decide) k3 (fun _ h9 => h9) rfl (by decide +kernel) rfl rfl (Nat.le_of_ble_eq_true rfl) dX5_init_7 (fun H locs hP hD hS => ?_)
  have hP : va_P D vwCl [(h0, .inr (5, [.int (-4), .int 0, .int 0, .int 0, .int 0, .int 0, .int 0, .null, .null, .null, .int 0]))] H := hP
  have hD : va_D A [(h0, .inr (5, [.int (-4), .int 0, .int 0, .int 0, .int 0, .int 0, .int 0, .null, .null, .null, .int 0]))] := hD
  refine lv_aload_n hx hb dX5_init_10 rfl (lv_at hl 0 rfl) ?_
  refine lv_iconst (v := 0) hx hb dX5_init_11 (by decide) ?_
  refine va_put (D := D) (ci := 5) (v := .int 0) (ty := .int) (C := RX5) (T := TX5) (N := 11) hx hb hts inX5 tyX5 tyX5_ok nmX5 hown hK hP hD hS 0 rfl rfl 1 (by decide) k5 (fun _ h9 => h9) rfl (by decide +kernel) rfl rfl (Nat.le_of_ble_eq_true rfl) dX5_init_12 (fun H locs hP hD hS => ?_)
  have hP : va_P D vwCl [(h0, .inr (5, [.int (-4), .int 0, .int 0, .int 0, .int 0, .int 0, .int 0, .null, .null, .null, .int 0]))] H := hP
  have hD : va_D A [(h0, .inr (5, [.int (-4), .int 0, .int 0, .int 0, .int 0, .int 0, .int 0, .null, .null, .null, .int 0]))] := hD
  refine lv_aload_n hx hb dX5_init_15 rfl (lv_at hl 0 rfl) ?_
  refine lv_iconst (v := 0) hx hb dX5_init_16 (by decide) ?_
  refine va_put (D := D) (ci := 5) (v := .int 0) (ty := .int) (C := RX5) (T := TX5) (N := 11) hx hb hts inX5 tyX5 tyX5_ok nmX5 hown hK hP hD hS 0 rfl rfl 2 (by decide) k6 (fun _ h9 => h9) rfl (by decide +kernel) rfl rfl (Nat.le_of_ble_eq_true rfl) dX5_init_17 (fun H locs hP hD hS => ?_)
  have hP : va_P D vwCl [(h0, .inr (5, [.int (-4), .int 0, .int 0, .int 0, .int 0, .int 0, .int 0, .null, .null, .null, .int 0]))] H := hP
  have hD : va_D A [(h0, .inr (5, [.int (-4), .int 0, .int 0, .int 0, .int 0, .int 0, .int 0, .null, .null, .null, .int 0]))] := hD
  refine lv_aload_n hx hb dX5_init_20 rfl (lv_at hl 0 rfl) ?_
  refine lv_iconst (v := 0) hx hb dX5_init_21 (by decide) ?_
  refine va_put (D := D) (ci := 5) (v := .int 0) (ty := .int) (C := RX5) (T := TX5) (N := 11) hx hb hts inX5 tyX5 tyX5_ok nmX5 hown hK hP hD hS 0 rfl rfl 3 (by decide) k7 (fun _ h9 => h9) rfl (by decide +kernel) rfl rfl (Nat.le_of_ble_eq_true rfl) dX5_init_22 (fun H locs hP hD hS => ?_)
  have hP : va_P D vwCl [(h0, .inr (5, [.int (-4), .int 0, .int 0, .int 0, .int 0, .int 0, .int 0, .null, .null, .null, .int 0]))] H := hP
  have hD : va_D A [(h0, .inr (5, [.int (-4), .int 0, .int 0, .int 0, .int 0, .int 0, .int 0, .null, .null, .null, .int 0]))] := hD
  refine lv_aload_n hx hb dX5_init_25 rfl (lv_at hl 0 rfl) ?_
  refine lv_iconst (v := 0) hx hb dX5_init_26 (by decide) ?_
  refine va_put (D := D) (ci := 5) (v := .int 0) (ty := .int) (C := RX5) (T := TX5) (N := 11) hx hb hts inX5 tyX5 tyX5_ok nmX5 hown hK hP hD hS 0 rfl rfl 4 (by decide) k8 (fun _ h9 => h9) rfl (by decide +kernel) rfl rfl (Nat.le_of_ble_eq_true rfl) dX5_init_27 (fun H locs hP hD hS => ?_)
  have hP : va_P D vwCl [(h0, .inr (5, [.int (-4), .int 0, .int 0, .int 0, .int 0, .int 0, .int 0, .null, .null, .null, .int 0]))] H := hP
  have hD : va_D A [(h0, .inr (5, [.int (-4), .int 0, .int 0, .int 0, .int 0, .int 0, .int 0, .null, .null, .null, .int 0]))] := hD
  refine lv_aload_n hx hb dX5_init_30 rfl (lv_at hl 0 rfl) ?_
  refine lv_iconst (v := 0) hx hb dX5_init_31 (by decide) ?_
  refine va_put (D := D) (ci := 5) (v := .int 0) (ty := .int) (C := RX5) (T := TX5) (N := 11) hx hb hts inX5 tyX5 tyX5_ok nmX5 hown hK hP hD hS 0 rfl rfl 5 (by decide) k9 (fun _ h9 => h9) rfl (by decide +kernel) rfl rfl (Nat.le_of_ble_eq_true rfl) dX5_init_32 (fun H locs hP hD hS => ?_)
  have hP : va_P D vwCl [(h0, .inr (5, [.int (-4), .int 0, .int 0, .int 0, .int 0, .int 0, .int 0, .null, .null, .null, .int 0]))] H := hP
  have hD : va_D A [(h0, .inr (5, [.int (-4), .int 0, .int 0, .int 0, .int 0, .int 0, .int 0, .null, .null, .null, .int 0]))] := hD
  refine lv_aload_n hx hb dX5_init_35 rfl (lv_at hl 0 rfl) ?_
  refine lv_iconst (v := 0) hx hb dX5_init_36 (by decide) ?_
  refine va_put (D := D) (ci := 5) (v := .int 0) (ty := .int) (C := RX5) (T := TX5) (N := 11) hx hb hts inX5 tyX5 tyX5_ok nmX5 hown hK hP hD hS 0 rfl rfl 6 (by decide) k10 (fun _ h9 => h9) rfl (by decide +kernel) rfl rfl (Nat.le_of_ble_eq_true rfl) dX5_init_37 (fun H locs hP hD hS => ?_)
  have hP : va_P D vwCl [(h0, .inr (5, [.int (-4), .int 0, .int 0, .int 0, .int 0, .int 0, .int 0, .null, .null, .null, .int 0]))] H := hP
  have hD : va_D A [(h0, .inr (5, [.int (-4), .int 0, .int 0, .int 0, .int 0, .int 0, .int 0, .null, .null, .null, .int 0]))] := hD
  refine lv_aload_n hx hb dX5_init_40 rfl (lv_at hl 0 rfl) ?_
  refine lv_sipush (v := 200) hx hb dX5_init_41 (by decide) ?_
  refine new_arr (atype := .int) (ty := .int) (cA := cI) (n := 200) (N := 200) hx hb k11 rfl hK hP hD hS hA 0 rfl ra_int rfl (by decide) (by decide) (by decide) (Nat.le_of_ble_eq_true rfl) (Nat.le_of_ble_eq_true rfl) dX5_init_44 (fun q44 H hP hD hS => ?_)
  have hP : va_P D vwCl [(h0, .inr (5, [.int (-4), .int 0, .int 0, .int 0, .int 0, .int 0, .int 0, .null, .null, .null, .int 0])), (q44, .inl (cI, 200, .inl (fun _ => 0)))] H := hP
  have hD : va_D A [(h0, .inr (5, [.int (-4), .int 0, .int 0, .int 0, .int 0, .int 0, .int 0, .null, .null, .null, .int 0])), (q44, .inl (cI, 200, .inl (fun _ => 0)))] := hD
  refine W.widen (k := 1) (n := 200) (by omega) (by omega) ?_
  refine va_putF (D := D) (ci := 5) (v := .ref q44) (ty := (.array .int)) (C := RX5) (T := TX5) (N := 11) hx hb hts inX5 tyX5 tyX5_ok nmX5 hown hK hP hD hS 0 rfl rfl 7 (by decide) k12 (fun _ h9 => h9) rfl hin rfl (by decide +kernel) rfl rfl (Nat.le_of_ble_eq_true rfl) dX5_init_46 (fun H locs hP hD hS => ?_)
  have hP : va_P D vwCl [(h0, .inr (5, [.int (-4), .int 0, .int 0, .int 0, .int 0, .int 0, .int 0, .ref q44, .null, .null, .int 0])), (q44, .inl (cI, 200, .inl (fun _ => 0)))] H := hP
  have hD : va_D A [(h0, .inr (5, [.int (-4), .int 0, .int 0, .int 0, .int 0, .int 0, .int 0, .ref q44, .null, .null, .int 0])), (q44, .inl (cI, 200, .inl (fun _ => 0)))] := hD
  refine lv_aload_n hx hb dX5_init_49 rfl (lv_at hl 0 rfl) ?_
  refine lv_sipush (v := 200) hx hb dX5_init_50 (by decide) ?_
  refine new_arr (atype := .int) (ty := .int) (cA := cI) (n := 200) (N := 200) hx hb k11 rfl hK hP hD hS hA 0 rfl ra_int rfl (by decide) (by decide) (by decide) (Nat.le_of_ble_eq_true rfl) (Nat.le_of_ble_eq_true rfl) dX5_init_53 (fun q53 H hP hD hS => ?_)
  have hP : va_P D vwCl [(h0, .inr (5, [.int (-4), .int 0, .int 0, .int 0, .int 0, .int 0, .int 0, .ref q44, .null, .null, .int 0])), (q44, .inl (cI, 200, .inl (fun _ => 0))), (q53, .inl (cI, 200, .inl (fun _ => 0)))] H := hP
  have hD : va_D A [(h0, .inr (5, [.int (-4), .int 0, .int 0, .int 0, .int 0, .int 0, .int 0, .ref q44, .null, .null, .int 0])), (q44, .inl (cI, 200, .inl (fun _ => 0))), (q53, .inl (cI, 200, .inl (fun _ => 0)))] := hD
  refine W.widen (k := 2) (n := 400) (by omega) (by omega) ?_
  refine va_putF (D := D) (ci := 5) (v := .ref q53) (ty := (.array .int)) (C := RX5) (T := TX5) (N := 11) hx hb hts inX5 tyX5 tyX5_ok nmX5 hown hK hP hD hS 0 rfl rfl 8 (by decide) k13 (fun _ h9 => h9) rfl hin rfl (by decide +kernel) rfl rfl (Nat.le_of_ble_eq_true rfl) dX5_init_55 (fun H locs hP hD hS => ?_)
  have hP : va_P D vwCl [(h0, .inr (5, [.int (-4), .int 0, .int 0, .int 0, .int 0, .int 0, .int 0, .ref q44, .ref q53, .null, .int 0])), (q44, .inl (cI, 200, .inl (fun _ => 0))), (q53, .inl (cI, 200, .inl (fun _ => 0)))] H := hP
  have hD : va_D A [(h0, .inr (5, [.int (-4), .int 0, .int 0, .int 0, .int 0, .int 0, .int 0, .ref q44, .ref q53, .null, .int 0])), (q44, .inl (cI, 200, .inl (fun _ => 0))), (q53, .inl (cI, 200, .inl (fun _ => 0)))] := hD
  refine lv_aload_n hx hb dX5_init_58 rfl (lv_at hl 0 rfl) ?_
  refine lv_sipush (v := 200) hx hb dX5_init_59 (by decide) ?_
  refine new_arr (atype := .int) (ty := .int) (cA := cI) (n := 200) (N := 200) hx hb k11 rfl hK hP hD hS hA 0 rfl ra_int rfl (by decide) (by decide) (by decide) (Nat.le_of_ble_eq_true rfl) (Nat.le_of_ble_eq_true rfl) dX5_init_62 (fun q62 H hP hD hS => ?_)
  have hP : va_P D vwCl [(h0, .inr (5, [.int (-4), .int 0, .int 0, .int 0, .int 0, .int 0, .int 0, .ref q44, .ref q53, .null, .int 0])), (q44, .inl (cI, 200, .inl (fun _ => 0))), (q53, .inl (cI, 200, .inl (fun _ => 0))), (q62, .inl (cI, 200, .inl (fun _ => 0)))] H := hP
  have hD : va_D A [(h0, .inr (5, [.int (-4), .int 0, .int 0, .int 0, .int 0, .int 0, .int 0, .ref q44, .ref q53, .null, .int 0])), (q44, .inl (cI, 200, .inl (fun _ => 0))), (q53, .inl (cI, 200, .inl (fun _ => 0))), (q62, .inl (cI, 200, .inl (fun _ => 0)))] := hD
  refine W.widen (k := 3) (n := 600) (by omega) (by omega) ?_
  refine va_putF (D := D) (ci := 5) (v := .ref q62) (ty := (.array .int)) (C := RX5) (T := TX5) (N := 11) hx hb hts inX5 tyX5 tyX5_ok nmX5 hown hK hP hD hS 0 rfl rfl 9 (by decide) k14 (fun _ h9 => h9) rfl hin rfl (by decide +kernel) rfl rfl (Nat.le_of_ble_eq_true rfl) dX5_init_64 (fun H locs hP hD hS => ?_)
  have hP : va_P D vwCl [(h0, .inr (5, [.int (-4), .int 0, .int 0, .int 0, .int 0, .int 0, .int 0, .ref q44, .ref q53, .ref q62, .int 0])), (q44, .inl (cI, 200, .inl (fun _ => 0))), (q53, .inl (cI, 200, .inl (fun _ => 0))), (q62, .inl (cI, 200, .inl (fun _ => 0)))] H := hP
  have hD : va_D A [(h0, .inr (5, [.int (-4), .int 0, .int 0, .int 0, .int 0, .int 0, .int 0, .ref q44, .ref q53, .ref q62, .int 0])), (q44, .inl (cI, 200, .inl (fun _ => 0))), (q53, .inl (cI, 200, .inl (fun _ => 0))), (q62, .inl (cI, 200, .inl (fun _ => 0)))] := hD
  refine lv_aload_n hx hb dX5_init_67 rfl (lv_at hl 0 rfl) ?_
  refine lv_iconst (v := 0) hx hb dX5_init_68 (by decide) ?_
  refine va_put (D := D) (ci := 5) (v := .int 0) (ty := .int) (C := RX5) (T := TX5) (N := 11) hx hb hts inX5 tyX5 tyX5_ok nmX5 hown hK hP hD hS 0 rfl rfl 10 (by decide) k15 (fun _ h9 => h9) rfl (by decide +kernel) rfl rfl (Nat.le_of_ble_eq_true rfl) dX5_init_69 (fun H locs hP hD hS => ?_)
  have hP : va_P D vwCl [(h0, .inr (5, [.int (-4), .int 0, .int 0, .int 0, .int 0, .int 0, .int 0, .ref q44, .ref q53, .ref q62, .int 0])), (q44, .inl (cI, 200, .inl (fun _ => 0))), (q53, .inl (cI, 200, .inl (fun _ => 0))), (q62, .inl (cI, 200, .inl (fun _ => 0)))] H := hP
  have hD : va_D A [(h0, .inr (5, [.int (-4), .int 0, .int 0, .int 0, .int 0, .int 0, .int 0, .ref q44, .ref q53, .ref q62, .int 0])), (q44, .inl (cI, 200, .inl (fun _ => 0))), (q53, .inl (cI, 200, .inl (fun _ => 0))), (q62, .inl (cI, 200, .inl (fun _ => 0)))] := hD
  have hP9 := hP.sub (ws' := iW_X5 cI cZ h0 (fun k => ([h0, q44, q53, q62] : List Nat).getD k 0)) [0, 1, 2, 3] rfl
  have hD9 := hD.sub (ws' := iW_X5 cI cZ h0 (fun k => ([h0, q44, q53, q62] : List Nat).getD k 0)) [0, 1, 2, 3] (by decide) rfl
  exact W.vret hx hb hr (fun t ht hW => ⟨⟨(fun k => ([h0, q44, q53, q62] : List Nat).getD k 0), rfl, trivial, iAt_of ht hP9 hD9⟩, hS.F ht⟩) hS.2.2 dX5_init_72
def iW_X0 (cI cZ : ClassId) (h0 : Nat) (u : Nat → Nat) : va_W := [(h0, .inr (0, [.ref (u 1)])), ((u 1), .inl (cI, 24, .inl (fun j => if j < 24 then 255 else (fun _ => 0) j)))]
set_option maxHeartbeats 4000000 in
set_option maxRecDepth 100000 in
theorem kX0_init (l : Launch) (D : va_G) (cI cZ : ClassId) (h0 sz : Nat) : Met l yX0_init uX0_init ({ frames := 1, cells := 1, slots := 24, locals := 23 }) (va_Pc [.ref h0] (iPre D cI cZ h0 sz (.inr (0, [.null])))) (va_Qv (fun _ : Nat → Nat => True) (fun (u : Nat → Nat) t => iAt D (va_A [(h0, .inr (0, [.null]))] sz) (iW_X0 cI cZ h0 u) t) (va_A [(h0, .inr (0, [.null]))] sz)) 1 24 (va_A [(h0, .inr (0, [.null]))] sz) := by
  refine Met.ofW (cc := cX0_init) (maxL := 1) (ret := none) (by decide) rfl ?_
  intro p e s m args below meth c s₁ B hml hv
  obtain ⟨rfl, hsz, hP, hK, hD0, hN⟩ := hv
  have hx := B.exec
  have hb := B.bytes
  have hr := B.returns
  have hts := atoms_spec (ws := uX0_init) B.pre
  have hown : s.vm.findClass RX0 = some m.cls := findClass_of_methodNamed B.named
  have hlocks := B.notSynchronized
  have hin : meth.name = "<init>" := (name_of_methodNamed B.named B.method).1
  subst hsz
  have hD := hD0.self (sz := s.heap.size)
  generalize hAe : va_A [(h0, .inr (0, [.null]))] s.heap.size = A at hD ⊢
  have hA : ∀ q : Nat, s.heap.size ≤ q → A q := fun q h => by rw [← hAe]; exact Or.inr h
  have hS : va_S A s.heap s.heap [] := va_S.rf
  have hP : va_P D vwCl [(h0, .inr (0, [.null]))] s.heap := hP
  have k0 := hts (.methodLink RX0 1 objectInit) (List.mem_cons_of_mem _ (inA_6 _ (List.mem_of_getElem? (i := 11) rfl)))
  have k1 := hts (.instanceMethod objectInit) (List.mem_cons_of_mem _ (inA_1 _ (List.mem_of_getElem? (i := 10) rfl)))
  have k2 := hts (.code objectInit ⟨#[0xb1]⟩ 1 none) (List.mem_cons_of_mem _ (inA_1 _ (List.mem_of_getElem? (i := 11) rfl)))
  have k3 := hts (.arrayClass .int) (List.mem_cons_of_mem _ (inA_1 _ (List.mem_of_getElem? (i := 18) rfl)))
  have k4 := hts (.fieldLink RX0 9 "TwoEyes$Body" "rows" "[I") (List.mem_cons_of_mem _ (inA_6 _ (List.mem_of_getElem? (i := 12) rfl)))
  have inX0 : ∀ w ∈ wsX00, w ∈ uX0_init := fun w h => List.mem_cons_of_mem _ (inCX0 w h)
  have hl := lv_entry ([.ref h0]) (n := 1) (Nat.le_of_ble_eq_true rfl)
  rw [lg_entry_eq]
  generalize (lg_sl ([.ref h0]) ++ List.replicate (1 - (lg_sl ([.ref h0])).length) Slot.unset).toArray = ls at hl ⊢
  have hl : lv_has ls 1 [(0, .ref h0)] := hl
  refine lv_aload_n hx hb dX0_init_0 rfl (lv_at hl 0 rfl) ?_
  refine W.objInit hx hb hown k0 k1 k2 rfl (by rw [hml]; exact hl.1) rfl dX0_init_1 (Nat.le_of_ble_eq_true rfl) (Nat.le_of_ble_eq_true rfl) ?_
  refine W.eq (g2 := F0 m 4 ls []) rfl ?_
  refine lv_aload_n hx hb dX0_init_4 rfl (lv_at hl 0 rfl) ?_
  refine lv_bipush (v := 24) hx hb dX0_init_5 (by decide) ?_
  refine new_arr (atype := .int) (ty := .int) (cA := cI) (n := 24) (N := 24) hx hb k3 rfl hK hP hD hS hA 0 rfl ra_int rfl (by decide) (by decide) (by decide) (Nat.le_of_ble_eq_true rfl) (Nat.le_of_ble_eq_true rfl) dX0_init_7 (fun q7 H hP hD hS => ?_)
  have hP : va_P D vwCl [(h0, .inr (0, [.null])), (q7, .inl (cI, 24, .inl (fun _ => 0)))] H := hP
  have hD : va_D A [(h0, .inr (0, [.null])), (q7, .inl (cI, 24, .inl (fun _ => 0)))] := hD
  refine W.widen (k := 1) (n := 24) (by omega) (by omega) ?_
  refine va_putF (D := D) (ci := 0) (v := .ref q7) (ty := (.array .int)) (C := RX0) (T := TX0) (N := 1) hx hb hts inX0 tyX0 tyX0_ok nmX0 hown hK hP hD hS 0 rfl rfl 0 (by decide) k4 (fun _ h9 => h9) rfl hin rfl (by decide +kernel) rfl rfl (Nat.le_of_ble_eq_true rfl) dX0_init_9 (fun H locs hP hD hS => ?_)
  have hP : va_P D vwCl [(h0, .inr (0, [.ref q7])), (q7, .inl (cI, 24, .inl (fun _ => 0)))] H := hP
  have hD : va_D A [(h0, .inr (0, [.ref q7])), (q7, .inl (cI, 24, .inl (fun _ => 0)))] := hD
  refine lv_aload_n hx hb dX0_init_12 rfl (lv_at hl 0 rfl) ?_
  refine va_get (D := D) (ci := 0) (v := .ref q7) (C := RX0) (T := TX0) (N := 1) hx hb hts inX0 hown hK hP 0 rfl rfl 0 (by decide) k4 (fun _ h9 => h9) rfl dX0_init_13 ?_
  refine lv_sipush (v := 255) hx hb dX0_init_16 (by decide) ?_
  have hk9 : ([(h0, .inr (0, [.ref q7])), (q7, .inl (cI, 24, .inl (fun _ => 0)))] : va_W)[1]? = some (q7, .inl (cI, 24, .inl (fun _ => 0))) := rfl
  refine fill_call (k := 1) (rest := []) ⟨hx, hb, hml, hown, hts⟩ (va_cwS 2 hts (gdS uS (inA_6 _ (List.mem_of_getElem? (i := 13) rfl)) vJ7_fill_53178) rfl rfl rfl (by decide +kernel) ⟨Nat.le_of_ble_eq_true rfl, Nat.le_of_ble_eq_true rfl⟩) hK hP hD hS hk9 rfl (by decide) hl.1 (Nat.le_of_ble_eq_true rfl) dX0_init_19 ⟨Nat.le_of_ble_eq_true rfl, Nat.le_of_ble_eq_true rfl⟩ (fun H locs hP hS => ?_)
  have hD := hD.set (e := .inl (cI, 24, .inl (fun j => if j < 24 then 255 else (fun _ => 0) j))) hk9
  have hP : va_P D vwCl [(h0, .inr (0, [.ref q7])), (q7, .inl (cI, 24, .inl (fun j => if j < 24 then 255 else (fun _ => 0) j)))] H := hP
  have hD : va_D A [(h0, .inr (0, [.ref q7])), (q7, .inl (cI, 24, .inl (fun j => if j < 24 then 255 else (fun _ => 0) j)))] := hD
  have hP9 := hP.sub (ws' := iW_X0 cI cZ h0 (fun k => ([h0, q7] : List Nat).getD k 0)) [0, 1] rfl
  have hD9 := hD.sub (ws' := iW_X0 cI cZ h0 (fun k => ([h0, q7] : List Nat).getD k 0)) [0, 1] (by decide) rfl
  exact W.vret hx hb hr (fun t ht hW => ⟨⟨(fun k => ([h0, q7] : List Nat).getD k 0), rfl, trivial, iAt_of ht hP9 hD9⟩, hS.F ht⟩) hS.2.2 dX0_init_22
