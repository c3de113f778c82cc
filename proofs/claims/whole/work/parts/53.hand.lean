set_option maxHeartbeats 4000000 in
set_option maxRecDepth 100000 in
theorem cX6_pictureOf_L (l : Launch) (D : va_G) (cI cZ : ClassId) (ad : Nat → Nat) (zA zD zR : Nat) (M : Mem) (a1 : Int32) (hq : a1 = 0) : Met l yX6_pictureOf uX6_pictureOf ({ frames := 0, cells := 0, slots := 0, locals := 0 }) (va_Pc [.ref (ad 1), .int a1] (xPre D cI cZ ad zA zD zR M)) (va_Qr (fun M1 : Mem => M1 = M) (fun M1 a1 t => a1 = ad 2 ∧ xAt D cI cZ ad M1 t) (xA ad)) 0 0 (xA ad) := by
  refine Met.ofW (cc := cX6_pictureOf) (maxL := 2) (ret := (some (.object "TwoEyes$Picture"))) (by decide) rfl ?_
  intro p e s m args below meth c s₁ B hml hv
  obtain ⟨rfl, hP, hK, hZ, hN⟩ := hv
  have hx := B.exec
  have hb := B.bytes
  have hr := B.returns
  have hts := atoms_spec (ws := uX6_pictureOf) B.pre
  have hown : s.vm.findClass RX6 = some m.cls := findClass_of_methodNamed B.named
  have hlocks := B.notSynchronized
  have hS : va_S (xA ad) s.heap s.heap [] := va_S.rf
  have k0 := hts (.fieldLink RX6 21 "TwoEyes$Scene" "left" "LTwoEyes$Picture;") (List.mem_cons_of_mem _ (inA_3 _ (List.mem_of_getElem? (i := 9) rfl)))
  have k1 := hts (.fieldLink RX6 25 "TwoEyes$Scene" "right" "LTwoEyes$Picture;") (List.mem_cons_of_mem _ (inA_3 _ (List.mem_of_getElem? (i := 10) rfl)))
  have inX6 : ∀ w ∈ wsX60, w ∈ uX6_pictureOf := fun w h => List.mem_cons_of_mem _ (inCX6 w h)
  have hl := lv_entry ([.ref (ad 1), .int a1]) (n := 2) (Nat.le_of_ble_eq_true rfl)
  rw [lg_entry_eq]
  generalize (lg_sl ([.ref (ad 1), .int a1]) ++ List.replicate (2 - (lg_sl ([.ref (ad 1), .int a1])).length) Slot.unset).toArray = ls at hl ⊢
  have hl : lv_has ls 2 [(0, .ref (ad 1)), (1, .int a1)] := hl
  refine lv_iload_n hx hb dX6_pictureOf_0 rfl (lv_at hl 1 rfl) ?_
  refine lv_if_ne (tgt := 11) hx hb dX6_pictureOf_1 (by decide) (fun q1 => ?_) (fun q1 => ?_)
  · exact absurd hq q1
  · refine lv_aload_n hx hb dX6_pictureOf_4 rfl (lv_at hl 0 rfl) ?_
    refine va_get (D := D) (ci := 6) (v := .ref (ad 2)) (C := RX6) (T := TX6) (N := 5) hx hb hts inX6 hown hK hP 1 (xW_1 cI cZ ad M) rfl 2 (by decide) k0 (fun _ h9 => h9) rfl dX6_pictureOf_5 ?_
    refine lv_goto (tgt := 15) hx hb dX6_pictureOf_8 (by decide) ?_
    exact W.aret hx hb hr (Or.inl ⟨_, rfl⟩) (Or.inr ⟨_, rfl⟩) (fun t ht hW => ⟨⟨M, ad 2, rfl, rfl, rfl, xAt_of ht hP⟩, hS.F ht⟩) hS.2.2 dX6_pictureOf_15
set_option maxHeartbeats 4000000 in
set_option maxRecDepth 100000 in
theorem cX6_pictureOf_R (l : Launch) (D : va_G) (cI cZ : ClassId) (ad : Nat → Nat) (zA zD zR : Nat) (M : Mem) (a1 : Int32) (hq : ¬ a1 = 0) : Met l yX6_pictureOf uX6_pictureOf ({ frames := 0, cells := 0, slots := 0, locals := 0 }) (va_Pc [.ref (ad 1), .int a1] (xPre D cI cZ ad zA zD zR M)) (va_Qr (fun M1 : Mem => M1 = M) (fun M1 a1 t => a1 = ad 5 ∧ xAt D cI cZ ad M1 t) (xA ad)) 0 0 (xA ad) := by
  refine Met.ofW (cc := cX6_pictureOf) (maxL := 2) (ret := (some (.object "TwoEyes$Picture"))) (by decide) rfl ?_
  intro p e s m args below meth c s₁ B hml hv
  obtain ⟨rfl, hP, hK, hZ, hN⟩ := hv
  have hx := B.exec
  have hb := B.bytes
  have hr := B.returns
  have hts := atoms_spec (ws := uX6_pictureOf) B.pre
  have hown : s.vm.findClass RX6 = some m.cls := findClass_of_methodNamed B.named
  have hlocks := B.notSynchronized
  have hS : va_S (xA ad) s.heap s.heap [] := va_S.rf
  have k0 := hts (.fieldLink RX6 21 "TwoEyes$Scene" "left" "LTwoEyes$Picture;") (List.mem_cons_of_mem _ (inA_3 _ (List.mem_of_getElem? (i := 9) rfl)))
  have k1 := hts (.fieldLink RX6 25 "TwoEyes$Scene" "right" "LTwoEyes$Picture;") (List.mem_cons_of_mem _ (inA_3 _ (List.mem_of_getElem? (i := 10) rfl)))
  have inX6 : ∀ w ∈ wsX60, w ∈ uX6_pictureOf := fun w h => List.mem_cons_of_mem _ (inCX6 w h)
  have hl := lv_entry ([.ref (ad 1), .int a1]) (n := 2) (Nat.le_of_ble_eq_true rfl)
  rw [lg_entry_eq]
  generalize (lg_sl ([.ref (ad 1), .int a1]) ++ List.replicate (2 - (lg_sl ([.ref (ad 1), .int a1])).length) Slot.unset).toArray = ls at hl ⊢
  have hl : lv_has ls 2 [(0, .ref (ad 1)), (1, .int a1)] := hl
  refine lv_iload_n hx hb dX6_pictureOf_0 rfl (lv_at hl 1 rfl) ?_
  refine lv_if_ne (tgt := 11) hx hb dX6_pictureOf_1 (by decide) (fun q1 => ?_) (fun q1 => ?_)
  · refine lv_aload_n hx hb dX6_pictureOf_11 rfl (lv_at hl 0 rfl) ?_
    refine va_get (D := D) (ci := 6) (v := .ref (ad 5)) (C := RX6) (T := TX6) (N := 5) hx hb hts inX6 hown hK hP 1 (xW_1 cI cZ ad M) rfl 3 (by decide) k1 (fun _ h9 => h9) rfl dX6_pictureOf_12 ?_
    exact W.aret hx hb hr (Or.inl ⟨_, rfl⟩) (Or.inr ⟨_, rfl⟩) (fun t ht hW => ⟨⟨M, ad 5, rfl, rfl, rfl, xAt_of ht hP⟩, hS.F ht⟩) hS.2.2 dX6_pictureOf_15
  · exact absurd q1 hq
/-- a world in which one cell is another now -/
theorem P_set {D : va_G} {cl : List vw_C} {A : Nat → Prop} {k : Nat} {ws : va_W} {a : Nat} {e0 e : va_E} {H H1 : Heap} (h : va_P D cl ws H) (hD : va_D A ws) (hp : ws[k]? = some (a, e0)) (he : va_at D cl (a, e) H1) (oq : ∀ q : Nat, q < H.size → q ≠ a → H1[q]? = H[q]?) : va_P D cl (ws.set k (a, e)) H1 := by
  have hl := (List.getElem?_eq_some_iff.mp hp).1
  intro j q hj
  by_cases hjk : j = k
  · subst hjk
    rw [List.getElem?_set_self hl] at hj
    cases hj
    exact he
  · rw [List.getElem?_set_ne (Ne.symm hjk)] at hj
    exact (h j q hj).kept (oq q.1 (h j q hj).lt (fun z => hjk (hD.1 j k q (a, e0) hj hp z)))
def fillPre (D : va_G) (cI : ClassId) (a n : Nat) (f : Nat → Int32) (U : State) : Prop := va_P D vwCl [(a, .inl (cI, n, .inl f))] U.heap ∧ va_K D vwCl [(cI, .int)] U
set_option maxHeartbeats 4000000 in
set_option maxRecDepth 100000 in
theorem c_fill (l : Launch) (D : va_G) (cI : ClassId) (a n : Nat) (hn : n < 2 ^ 31) (f : Nat → Int32) (v : Int32) : Met l yJ7_fill_53178 uJ7_fill_53178 ({ frames := 0, cells := 0, slots := 0, locals := 0 }) (va_Pc [.ref a, .int v] (fillPre D cI a n f)) (va_Qv (fun g : Nat → Int32 => g = fun j => if j < n then v else f j) (fun g t => va_P D vwCl [(a, .inl (cI, n, .inl g))] t.heap) (fun q => q = a)) 0 0 (fun q => q = a) := by
  refine Met.ofW (cc := cJ7_fill_53178) (maxL := 4) (ret := none) (by decide) rfl ?_
  intro p e s m args below meth c s₁ B hml hv
  obtain ⟨rfl, hP, hK⟩ := hv
  have hx := B.exec
  have hb := B.bytes
  have hr := B.returns
  have hlocks := B.notSynchronized
  have hS : va_S (fun q => q = a) s.heap s.heap [] := va_S.rf
  have hD : ∀ f : Nat → Int32, va_D (fun q => q = a) [(a, .inl (cI, n, .inl f))] := fun f => ⟨fun i j p q hi hj _ => by
    have h1 := (List.getElem?_eq_some_iff.mp hi).1
    have h2 := (List.getElem?_eq_some_iff.mp hj).1
    simp at h1 h2
    omega, fun k q hk => by
    have h1 := (List.getElem?_eq_some_iff.mp hk).1
    simp at h1
    subst h1
    simp at hk
    rw [← hk]⟩
  have key : ∀ (d i : Nat) (x2 : Int32) (g : Nat → Int32) (H : Heap) (locs : List Loc) (ls : Array Slot), i + d = n → x2 = nI i → g = (fun j => if j < i then v else f j) → lv_has ls 4 [(0, .ref a), (1, .int v), (2, .int x2), (3, .int (nI n))] → va_P D vwCl [(a, .inl (cI, n, .inl g))] H → va_S (fun q => q = a) s.heap H locs → W p l e (headSpec uJ7_fill_53178 { frames := 0, cells := 0, slots := 0, locals := 0 }).room s m ([.ref a, .int v] : List Value).toArray below meth c H locs 0 0 (MQ below (va_Qv (fun g : Nat → Int32 => g = fun j => if j < n then v else f j) (fun g t => va_P D vwCl [(a, .inl (cI, n, .inl g))] t.heap) (fun q => q = a)) ([.ref a, .int v] : List Value).toArray s 0 0 (fun q => q = a)) (F0 m 5 ls []) := by
    intro d
    induction d with
    | zero =>
      intro i x2 g H locs ls hi hx2 hg hl hP hS
      refine lv_iload_n hx hb dJ7_fill_53178_5 rfl (lv_at hl 2 rfl) ?_
      refine lv_iload_n hx hb dJ7_fill_53178_6 rfl (lv_at hl 3 rfl) ?_
      refine lv_icmp_ge (tgt := 20) hx hb dJ7_fill_53178_7 (by decide) (fun q => ?_) (fun q => ?_)
      · exact W.vret hx hb hr (fun t ht hW => ⟨⟨g, rfl, by rw [hg, show i = n by omega], (show va_P D vwCl [(a, .inl (cI, n, .inl g))] t.heap by rw [ht]; exact hP)⟩, hS.F ht⟩) hS.2.2 dJ7_fill_53178_20
      · exact absurd (by rw [hx2, show i = n by omega]; exact nI_le (Nat.le_refl n) hn) q
    | succ d ih =>
      intro i x2 g H locs ls hi hx2 hg hl hP hS
      refine lv_iload_n hx hb dJ7_fill_53178_5 rfl (lv_at hl 2 rfl) ?_
      refine lv_iload_n hx hb dJ7_fill_53178_6 rfl (lv_at hl 3 rfl) ?_
      refine lv_icmp_ge (tgt := 20) hx hb dJ7_fill_53178_7 (by decide) (fun q => ?_) (fun q => ?_)
      · exact absurd (by rw [hx2] at q; exact q) (nI_ge (show i < n by omega) hn)
      · refine lv_aload_n hx hb dJ7_fill_53178_10 rfl (lv_at hl 0 rfl) ?_
        refine lv_iload_n hx hb dJ7_fill_53178_11 rfl (lv_at hl 2 rfl) ?_
        refine lv_iload_n hx hb dJ7_fill_53178_12 rfl (lv_at hl 1 rfl) ?_
        refine va_iast hx hb hK hP (hD g) hS 0 0 rfl rfl (by rw [hx2]; exact vp_in_nI (show i < n by omega) hn) dJ7_fill_53178_13 (fun H locs hP _ hS => ?_)
        obtain ⟨x3, ex3⟩ : ∃ y : Int32, y = x2 + 1 := ⟨_, rfl⟩
        refine lv_iinc (v := x3) (lv' := [(2, .int x3), (0, .ref a), (1, .int v), (3, .int (nI n))]) hx hb dJ7_fill_53178_14 hl (k := 2) rfl (by rw [ex3]; rfl) (by decide) rfl (fun ls hl => ?_)
        refine lv_goto (tgt := 5) hx hb dJ7_fill_53178_17 (by decide) ?_
        refine ih (i + 1) x3 (upd g x2.toNatClampNeg v) H locs ls (by omega) (by rw [ex3, hx2]; exact nI_1 i) ?_ (lv_sub hl [1, 2, 0, 3] rfl) hP hS
        rw [hx2, nI_clamp (by omega), hg]
        funext j
        simp only [upd]
        by_cases h1 : j = i
        · rw [if_pos h1, if_pos (by omega)]
        · rw [if_neg h1]
          by_cases h2 : j < i
          · rw [if_pos h2, if_pos (by omega)]
          · rw [if_neg h2, if_neg (by omega)]
  have hl := lv_entry ([.ref a, .int v]) (n := 4) (Nat.le_of_ble_eq_true rfl)
  rw [lg_entry_eq]
  generalize (lg_sl ([.ref a, .int v]) ++ List.replicate (4 - (lg_sl ([.ref a, .int v])).length) Slot.unset).toArray = ls at hl ⊢
  have hl : lv_has ls 4 [(0, .ref a), (1, .int v)] := hl
  refine lv_iconst (v := 0) hx hb dJ7_fill_53178_0 (by decide) ?_
  refine lv_istore_n (lv' := [(2, .int 0), (0, .ref a), (1, .int v)]) hx hb dJ7_fill_53178_1 rfl hl (by decide) rfl (fun ls hl => ?_)
  refine lv_aload_n hx hb dJ7_fill_53178_2 rfl (lv_at hl 1 rfl) ?_
  refine va_alen (v := nI n) hx hb hK hP 0 0 rfl rfl rfl dJ7_fill_53178_3 ?_
  refine lv_istore_n (lv' := [(3, .int (nI n)), (2, .int 0), (0, .ref a), (1, .int v)]) hx hb dJ7_fill_53178_4 rfl hl (by decide) rfl (fun ls hl => ?_)
  exact key n 0 0 f _ _ _ (by omega) nI_0.symm (by funext j; simp) (lv_sub hl [2, 3, 1, 0] rfl) hP hS
theorem fill_call {p : Program} {l : Launch} {e : Env} {R : Room} {s : State} {m : MethodId} {args : Array Value} {below : List Frame} {meth : Method} {c : Code} {H : Heap} {locs : List Loc} {cells slots : Nat} {Qf : State → Prop} {cc : ByteArray} {pc nL : Nat} {ls : Array Slot} {rest : List Value} {D : va_G} {cI : ClassId} {A : Nat → Prop} {tys : List (ClassId × FieldType)} {ws : va_W} {k a n index : Nat} {f : Nat → Int32} {v : Int32} {Ts : List Cond} {own : String} (S : CallFix p m c cc nL s args Ts own) (cw : CallB R s args own index yJ7_fill_53178 cJ7_fill_53178 4 none uJ7_fill_53178 { frames := 0, cells := 0, slots := 0, locals := 0 } 0 0 2 ∧ (Cond.static yJ7_fill_53178).before args s = true) (hK : va_K D vwCl tys s) (hP : va_P D vwCl ws H) (hD : va_D A ws) (hS : va_S A s.heap H locs) (hk : ws[k]? = some (a, .inl (cI, n, .inl f))) (ht : tys[0]? = some (cI, .int)) (hn : n < 2 ^ 31) (hl : ls.size = nL) (hroom : (rest.map fun v => v.category).sum ≤ 8) (hdg : decode cc pc = .ok (.invokestatic index, 3)) (hc : cells ≤ R.cells ∧ slots ≤ R.slots) (kk : ∀ (H1 : Heap) (locs1 : List Loc), va_P D vwCl (ws.set k (a, .inl (cI, n, .inl (fun j => if j < n then v else f j)))) H1 → va_S A s.heap H1 locs1 → W p l e R s m args below meth c H1 locs1 cells slots Qf (F0 m (pc + 3) ls rest)) : W p l e R s m args below meth c H locs cells slots Qf (F0 m pc ls (.int v :: .ref a :: rest)) := by
  have hP1 : va_P D vwCl [(a, .inl (cI, n, .inl f))] H := by
    intro j q hj
    have h1 := (List.getElem?_eq_some_iff.mp hj).1
    simp at h1
    subst h1
    simp at hj
    rw [← hj]
    exact hP k _ hk
  have hK1 : va_K D vwCl [(cI, .int)] s := hK.sub [0] (by simp [ht])
  refine va_callv (A1 := fun q => q = a) (va_runS (As := [.ref a, .int v]) (rest := rest) S (c_fill l D cI a n hn f v) cw ⟨fun a U g mk q => ⟨q.1, q.2.1, va_K.moved (u := U) (U := U.calling g mk a) (Vm.Alike.refl U.vm) q.2.2⟩, fun U hU hW => ⟨rfl, by rw [hU]; exact hP1, va_K.moved hW.alike hK1⟩⟩ rfl rfl hl rfl (lv_room (pc := pc) (ls := ls) (rest := rest) (m := m) hroom) hdg ⟨hc.1, hc.2⟩) hS (fun q _ h => by rw [h]; exact hD.2 k _ hk) (fun q h => by rw [h]; exact hD.2 k _ hk) ?_
  intro g t H1 locs1 ht hvm hq hB hz1 hk1 hS1
  subst hq
  rw [ht] at hB
  refine W.cs (Nat.add_zero _) (Nat.add_zero _) (kk H1 locs1 (P_set hP hD hk (hB 0 _ rfl) (fun q h1 h2 => hk1 q h1 h2)) hS1)
