/-! THE CLAIM OUT OF ONE WALK OF THE LAW'S BODY. Your part is whole_start (and what it stands on); all else here is the same for every law, but numbers. -/
def R_law : String := "TwoEyesLaw"
def lw_P (b : Addr) (xs : List Int32) (args : Array Value) (s : State) : Prop := args = #[.ref b] ∧ s.IntsAt b xs ∧ xs.length ≤ 4096 ∧ (Jvm.Cond.and given_1 narrow_1).before args s = true
def lw_Q (_ : Array Value) (s : State) (o : Outcome) (t : State) : Prop := o = .returned (some (.int 1)) ∧ Framed s o t [] 66 32741
def lw_Z (below : List Frame) (a : Array Value) (s : State) : State → Prop := fun t => ∃ o, t.status = .running ∧ Ended t below o ∧ lw_Q a s o t
/-- the law's own end, with 1 on the stack, nothing written that was there before, its room as the claim has it -/
theorem lw_ret {p : Program} {l : Launch} {e : Env} {s : State} {m : MethodId} {below : List Frame} {meth : Method} {c : Code} {b : Nat} (hx : p.tables.exec = Jvm.exec) (hb : c.code = code) (hr : meth.sig.returnType = ret) (hlocks : meth.locks = false) {pc : Nat} {H : Heap} {ls : Array Slot} (hdg : decode code pc = .ok (.ireturn, 1)) : W p l e room_1 s m #[Value.ref b] below meth c H [] 66 32741 (lw_Z below #[Value.ref b] s) (F0 m pc ls [.int 1]) := by
  intro T hT X
  obtain ⟨fs, hret, hrun, hended, hW, hframe⟩ := X.leave (v := some (.int 1)) (hlocks := hlocks) (fun h => by rw [hr] at h; cases h)
  have hmeth' : T.vm.method? m = some meth := X.method'
  refine ⟨T.setFrames fs, ?_, .returned (some (.int 1)), hrun, hended, rfl, ⟨_, rfl⟩, hW, hframe⟩
  jvm_step X.here [X.here.top, hx, hb, hdg, hmeth', hr, ret, narrow_b1]
  (try refine ⟨rfl, ?_⟩); (try refine ⟨rfl, ?_⟩)
  first | (intro acts; rw [hret _ acts rfl rfl rfl]) | rw [hret _ _ rfl rfl rfl]
  exact Steps.refl _
/-- what holds at the law's entry: the machine, the code, the tables' words (any of lw_tbl by 'hts w (by decide +kernel)'), the script of L ints xs at the cell b, what the Statement gives of the start (any of its parts by flat_of_before) -/
def lw_At (p : Program) (s : State) (m : MethodId) (meth : Method) (c : Code) (b L : Nat) (xs : Nat → Int32) : Prop :=
  p.tables.exec = Jvm.exec ∧ c.code = code ∧ meth.sig.returnType = ret ∧ c.maxLocals = 4 ∧ s.vm.findClass R_law = some m.cls ∧ (∀ w ∈ lw_tbl, w.before #[Value.ref b] s = true) ∧ va_X b L xs s s.heap ∧ b < s.heap.size ∧ meth.locks = false ∧ (Jvm.Cond.and given_1 narrow_1).before #[Value.ref b] s = true
def St_size (Inv : Mem → Mem → Prop) : Prop := ∀ (Mx Mm : Mem) (a1 a2 : Int32), Inv Mx Mm → wX10_size Mx a1 a2 (fun r Nx => wX11_size Mm a1 a2 (fun r2 Nm => r = r2 ∧ Inv Nx Nm))
def St_shade (Inv : Mem → Mem → Prop) : Prop := ∀ (Mx Mm : Mem) (a1 a2 a3 a4 : Int32), Inv Mx Mm → wX10_shade Mx a1 a2 a3 a4 (fun r Nx => wX11_shade Mm a1 a2 a3 a4 (fun r2 Nm => r = r2 ∧ Inv Nx Nm))
def St_lose (Inv : Mem → Mem → Prop) : Prop := ∀ (Mx Mm : Mem) (a1 a2 a3 : Int32), Inv Mx Mm → wX10_lose Mx a1 a2 a3 (fun r Nx => wX11_lose Mm a1 a2 a3 (fun r2 Nm => r = r2 ∧ Inv Nx Nm))
def St_row (Inv : Mem → Mem → Prop) : Prop := ∀ (Mx Mm : Mem) (a1 a2 a3 : Int32), (a3 = 0 ∨ a3 = 1) → Inv Mx Mm → wX10_row Mx a1 a2 a3 (fun r Nx => wX11_row Mm a1 a2 a3 (fun r2 Nm => r = r2 ∧ Inv Nx Nm))
def St_copy (Inv : Mem → Mem → Prop) : Prop := ∀ (Mx Mm : Mem) (a1 a2 a3 a4 a5 a6 a7 : Int32), Inv Mx Mm → wX10_copy Mx a1 a2 a3 a4 a5 a6 a7 (fun r Nx => wX11_copy Mm a1 a2 a3 a4 a5 a6 a7 (fun r2 Nm => r = r2 ∧ Inv Nx Nm))
def St_told (Inv : Mem → Mem → Prop) : Prop := ∀ (Mx Mm : Mem) (a1 a2 a3 : Int32), Inv Mx Mm → wX10_told Mx a1 a2 a3 (fun r Nx => wX11_told Mm a1 a2 a3 (fun r2 Nm => r = r2 ∧ Inv Nx Nm))
def St_rule (Inv : Mem → Mem → Prop) : Prop := ∀ (Mx Mm : Mem) (a1 a2 : Int32), Inv Mx Mm → wX10_rule Mx a1 a2 (fun r Nx => wX11_rule Mm a1 a2 (fun r2 Nm => r = r2 ∧ Inv Nx Nm))
def St_many (Inv : Mem → Mem → Prop) : Prop := ∀ (Mx Mm : Mem) (a1 : Int32), Inv Mx Mm → wX10_many Mx a1 (fun r Nx => wX11_many Mm a1 (fun r2 Nm => r = r2 ∧ Inv Nx Nm))
def St_cost (Inv : Mem → Mem → Prop) : Prop := ∀ (Mx Mm : Mem) (a1 a2 a3 : Int32), Inv Mx Mm → wX10_cost Mx a1 a2 a3 (fun r Nx => wX11_cost Mm a1 a2 a3 (fun r2 Nm => r = r2 ∧ Inv Nx Nm))
def St_path (Inv : Mem → Mem → Prop) : Prop := ∀ (Mx Mm : Mem) (a1 : Int32), Inv Mx Mm → wX10_path Mx a1 (fun r Nx => wX11_path Mm a1 (fun r2 Nm => r = r2 ∧ Inv Nx Nm))
def St_matched (Inv : Mem → Mem → Prop) : Prop := ∀ (Mx Mm : Mem) (a1 a2 : Int32), Inv Mx Mm → wX10_matched Mx a1 a2 (fun r Nx => wX11_matched Mm a1 a2 (fun r2 Nm => r = r2 ∧ Inv Nx Nm))
def St_hidden (Inv : Mem → Mem → Prop) : Prop := ∀ (Mx Mm : Mem) (a1 a2 : Int32), Inv Mx Mm → wX10_hidden Mx a1 a2 (fun r Nx => wX11_hidden Mm a1 a2 (fun r2 Nm => r = r2 ∧ Inv Nx Nm))
def St_run (Inv : Mem → Mem → Prop) : Prop := ∀ (Mx Mm : Mem) (a1 a2 a3 a4 : Int32), Inv Mx Mm → wX10_run Mx a1 a2 a3 a4 (fun r Nx => wX11_run Mm a1 a2 a3 a4 (fun r2 Nm => r = r2 ∧ Inv Nx Nm))
def St_sum (Inv : Mem → Mem → Prop) : Prop := ∀ (Mx Mm : Mem) (a1 a2 a3 : Int32), Inv Mx Mm → wX10_sum Mx a1 a2 a3 (fun r Nx => wX11_sum Mm a1 a2 a3 (fun r2 Nm => r = r2 ∧ Inv Nx Nm))
def St_depth (Inv : Mem → Mem → Prop) : Prop := ∀ (Mx Mm : Mem) (a1 a2 a3 : Int32), Inv Mx Mm → wX10_depth Mx a1 a2 a3 (fun r Nx => wX11_depth Mm a1 a2 a3 (fun r2 Nm => r = r2 ∧ Inv Nx Nm))
def St_agreed (Inv : Mem → Mem → Prop) : Prop := ∀ (Mx Mm : Mem) (a1 a2 : Int32), Inv Mx Mm → wX10_agreed Mx a1 a2 (fun r Nx => wX11_agreed Mm a1 a2 (fun r2 Nm => r = r2 ∧ Inv Nx Nm))
def St_segment (Inv : Mem → Mem → Prop) : Prop := ∀ (Mx Mm : Mem) (a1 a2 : Int32), Inv Mx Mm → wX10_segment Mx a1 a2 (fun r Nx => wX11_segment Mm a1 a2 (fun r2 Nm => r = r2 ∧ Inv Nx Nm))
def St_extent (Inv : Mem → Mem → Prop) : Prop := ∀ (Mx Mm : Mem) (a1 a2 : Int32), Inv Mx Mm → wX10_extent Mx a1 a2 (fun r Nx => wX11_extent Mm a1 a2 (fun r2 Nm => r = r2 ∧ Inv Nx Nm))
def St_plane (Inv : Mem → Mem → Prop) : Prop := ∀ (Mx Mm : Mem) (a1 a2 a3 : Int32), Inv Mx Mm → wX10_plane Mx a1 a2 a3 (fun r Nx => wX11_plane Mm a1 a2 a3 (fun r2 Nm => r = r2 ∧ Inv Nx Nm))
def St_view (Inv : Mem → Mem → Prop) : Prop := ∀ (Mx Mm : Mem) (a1 a2 a3 : Int32), Inv Mx Mm → wX10_view Mx a1 a2 a3 (fun r Nx => wX11_view Mm a1 a2 a3 (fun r2 Nm => r = r2 ∧ Inv Nx Nm))
def St_holes (Inv : Mem → Mem → Prop) : Prop := ∀ (Mx Mm : Mem) (a1 : Int32), Inv Mx Mm → wX10_holes Mx a1 (fun r Nx => wX11_holes Mm a1 (fun r2 Nm => r = r2 ∧ Inv Nx Nm))
def St_draw (Inv : Mem → Mem → Prop) : Prop := ∀ (Mx Mm : Mem) (a1 a2 a3 a4 a5 a6 : Int32), Inv Mx Mm → wX10_draw Mx a1 a2 a3 a4 a5 a6 (fun r Nx => wX11_draw Mm a1 a2 a3 a4 a5 a6 (fun r2 Nm => r = r2 ∧ Inv Nx Nm))
def St_truth (Inv : Mem → Mem → Prop) : Prop := ∀ (Mx Mm : Mem) (a1 a2 : Int32), Inv Mx Mm → wX10_truth Mx a1 a2 (fun r Nx => wX11_truth Mm a1 a2 (fun r2 Nm => r = r2 ∧ Inv Nx Nm))
def St_score (Inv : Mem → Mem → Prop) : Prop := ∀ (Mx Mm : Mem) (a1 : Int32), Inv Mx Mm → wX10_score Mx a1 (fun r Nx => wX11_score Mm a1 (fun r2 Nm => r = r2 ∧ Inv Nx Nm))
def St_outline (Inv : Mem → Mem → Prop) : Prop := ∀ (Mx Mm : Mem) (a1 a2 a3 : Int32), Inv Mx Mm → wX10_outline Mx a1 a2 a3 (fun r Nx => wX11_outline Mm a1 a2 a3 (fun r2 Nm => r = r2 ∧ Inv Nx Nm))
def St_cube (Inv : Mem → Mem → Prop) : Prop := ∀ (Mx Mm : Mem) (a1 a2 a3 : Int32), Inv Mx Mm → wX10_cube Mx a1 a2 a3 (fun r Nx => wX11_cube Mm a1 a2 a3 (fun r2 Nm => r = r2 ∧ Inv Nx Nm))
def St_empty (Inv : Mem → Mem → Prop) : Prop := ∀ (Mx Mm : Mem) (a1 : Int32), Inv Mx Mm → wX10_empty Mx a1 (fun r Nx => wX11_empty Mm a1 (fun r2 Nm => r = r2 ∧ Inv Nx Nm))
def St_keep (Inv : Mem → Mem → Prop) : Prop := ∀ (Mx Mm : Mem), Inv Mx Mm → wX10_keep Mx (fun r Nx => wX11_keep Mm (fun r2 Nm => r = r2 ∧ Inv Nx Nm))
def St_back (Inv : Mem → Mem → Prop) : Prop := ∀ (Mx Mm : Mem), Inv Mx Mm → wX10_back Mx (fun r Nx => wX11_back Mm (fun r2 Nm => r = r2 ∧ Inv Nx Nm))
def AllSteps (Inv : Mem → Mem → Prop) : Prop := St_size Inv ∧ St_shade Inv ∧ St_lose Inv ∧ St_row Inv ∧ St_copy Inv ∧ St_told Inv ∧ St_rule Inv ∧ St_many Inv ∧ St_cost Inv ∧ St_path Inv ∧ St_matched Inv ∧ St_hidden Inv ∧ St_run Inv ∧ St_sum Inv ∧ St_depth Inv ∧ St_agreed Inv ∧ St_segment Inv ∧ St_extent Inv ∧ St_plane Inv ∧ St_view Inv ∧ St_holes Inv ∧ St_draw Inv ∧ St_truth Inv ∧ St_score Inv ∧ St_outline Inv ∧ St_cube Inv ∧ St_empty Inv ∧ St_keep Inv ∧ St_back Inv
abbrev lwA (s : State) : Nat → Prop := fun q => s.heap.size ≤ q
def LCx (p : Program) (s : State) (m : MethodId) (meth : Method) (c : Code) (b L : Nat) (xs : Nat → Int32) (D : va_G) (cI cZ : ClassId) (adx adm : Nat → Nat) (zA zD zR : Nat) : Prop :=
  lw_At p s m meth c b L xs ∧ L ≤ 4096 ∧ va_K D vwCl [(cI, .int), (cZ, .boolean)] s ∧ xZ zA zD zR (lwA s) s s.heap ∧ xN s ∧ (∀ M : Mem, va_D (xA adx) (xW cI cZ adx M)) ∧ (∀ M : Mem, va_D (mA adm) (mW cI cZ adm M)) ∧ (∀ q, xA adx q → lwA s q) ∧ (∀ q, mA adm q → lwA s q) ∧ (∀ q, xA adx q → ¬ mA adm q)
abbrev GL (p : Program) (l : Launch) (e : Env) (s : State) (m : MethodId) (below : List Frame) (meth : Method) (c : Code) (b : Nat) (H : Heap) (locs : List Loc) (g : JFrame) : Prop := W p l e room_1 s m #[Value.ref b] below meth c H locs 66 32741 (lw_Z below #[Value.ref b] s) g
theorem vp_off {x3 : Int32} {k L : Nat} (hx3 : x3 = nI k) (hk : k + 8 ≤ L) (hL : L ≤ 4096) (j : Nat) (hj : j < 8) : vp_in (x3 + nI j) L := by rw [hx3, nI_add]; exact vp_in_nI (by omega) (by omega)
theorem P_keptM {D : va_G} {cI cZ : ClassId} {ad adx : Nat → Nat} {M : Mem} {H H1 : Heap} (hP : va_P D vwCl (mW cI cZ ad M) H) (hk : ∀ q : Nat, q < H.size → ¬ xA adx q → H1[q]? = H[q]?) (hd : ∀ q, xA adx q → ¬ mA ad q) : va_P D vwCl (mW cI cZ ad M) H1 := hP.kept (fun k q hq => hk q.1 (hP k q hq).lt (fun z => hd q.1 z ⟨k, (at_fst (mW_fst cI cZ ad M) hq).1, (at_fst (mW_fst cI cZ ad M) hq).2⟩))
theorem P_keptX {D : va_G} {cI cZ : ClassId} {ad adm : Nat → Nat} {M : Mem} {H H1 : Heap} (hP : va_P D vwCl (xW cI cZ ad M) H) (hk : ∀ q : Nat, q < H.size → ¬ mA adm q → H1[q]? = H[q]?) (hd : ∀ q, xA ad q → ¬ mA adm q) : va_P D vwCl (xW cI cZ ad M) H1 := hP.kept (fun k q hq => hk q.1 (hP k q hq).lt (hd q.1 ⟨k, (at_fst (xW_fst cI cZ ad M) hq).1, (at_fst (xW_fst cI cZ ad M) hq).2⟩))
set_option maxHeartbeats 4000000 in
set_option maxRecDepth 100000 in
theorem law_size {p : Program} {e : Env} {s : State} {m : MethodId} {below : List Frame} {meth : Method} {c : Code} (l : Launch) {b L : Nat} {xs : Nat → Int32} {D : va_G} {cI cZ : ClassId} {adx adm : Nat → Nat} {zA zD zR : Nat} (C0 : LCx p s m meth c b L xs D cI cZ adx adm zA zD zR) {Inv : Mem → Mem → Prop} (hst : St_size Inv) (k : Nat) (x3 : Int32) (hx3 : x3 = nI k) (hk : k + 8 ≤ L) (Mx Mm : Mem) (hI : Inv Mx Mm) (H : Heap) (locs : List Loc) (ls : Array Slot) (hl : lv_has ls 4 [(0, .ref b), (1, .ref (adx 0)), (2, .ref (adm 0)), (3, .int x3)]) (hPx : va_P D vwCl (xW cI cZ adx Mx) H) (hPm : va_P D vwCl (mW cI cZ adm Mm) H) (hS : va_S (lwA s) s.heap H locs) (hnext : ∀ (Nx Nm : Mem) (H : Heap) (locs : List Loc), Inv Nx Nm → va_P D vwCl (xW cI cZ adx Nx) H → va_P D vwCl (mW cI cZ adm Nm) H → va_S (lwA s) s.heap H locs → GL p l e s m below meth c b H locs (F0 m 1283 ls [])) : GL p l e s m below meth c b H locs (F0 m 164 ls []) := by
  obtain ⟨⟨hx, hb, hr, hml, hown, hts, hX, hbl, hlocks, hgv⟩, hL, hK, hZ, hN, hDx, hDm, hAx, hAm, hdis⟩ := C0
  have hts : ∀ w ∈ wsL_law, w.before #[Value.ref b] s = true := fun w h => hts w (wsL_law_in w h)
  have hbA : ¬ lwA s b := Nat.not_le.mpr hbl
  refine lv_aload_n hx hb dL_law_164 rfl (lv_at hl 1 rfl) ?_
  refine lv_aload_n hx hb dL_law_165 rfl (lv_at hl 0 rfl) ?_
  refine lv_iload_n hx hb dL_law_166 rfl (lv_at hl 3 rfl) ?_
  refine lv_iconst (v := 1) hx hb dL_law_167 (by decide) ?_
  refine lv_iadd hx hb dL_law_168 ?_
  refine va_sld hx hb hX hbl hbA hS (vp_off hx3 hk hL 1 (by decide)) dL_law_169 ?_
  refine lv_aload_n hx hb dL_law_170 rfl (lv_at hl 0 rfl) ?_
  refine lv_iload_n hx hb dL_law_171 rfl (lv_at hl 3 rfl) ?_
  refine lv_iconst (v := 2) hx hb dL_law_172 (by decide) ?_
  refine lv_iadd hx hb dL_law_173 ?_
  refine va_sld hx hb hX hbl hbA hS (vp_off hx3 hk hL 2 (by decide)) dL_law_174 ?_
  have h := hst Mx Mm (xs (x3 + 1).toNatClampNeg) (xs (x3 + 2).toNatClampNeg) hI
  refine x_callViF (As := [.int (xs (x3 + 1).toNatClampNeg), .int (xs (x3 + 2).toNatClampNeg)]) (rest := []) ⟨hx, hb, hml, hown, hts⟩ (kX10_size l D cI cZ adx zA zD zR hDx Mx (xs (x3 + 1).toNatClampNeg) (xs (x3 + 2).toNatClampNeg) _ h) (cwV 2 hts (gdV (fun w h => h) (inA_7 _ (List.mem_of_getElem? (i := 19) rfl)) vX10_size) rfl rfl rfl (by decide +kernel) ⟨Nat.le_of_ble_eq_true rfl, Nat.le_of_ble_eq_true rfl⟩) (va_recv hK hPx (ci := 10) (q0 := 0) rfl (xW_0 cI cZ adx Mx)) hPx hK hZ hN hS hAx hl.1 rfl rfl (Nat.le_of_ble_eq_true rfl) dL_law_175 ⟨Nat.le_of_ble_eq_true rfl, Nat.le_of_ble_eq_true rfl⟩ (fun rx Nx H locs h hPx hz1 hk1 hS => ?_)
  have hPm := P_keptM hPm hk1 hdis
  refine lv_aload_n hx hb dL_law_178 rfl (lv_at hl 2 rfl) ?_
  refine lv_aload_n hx hb dL_law_179 rfl (lv_at hl 0 rfl) ?_
  refine lv_iload_n hx hb dL_law_180 rfl (lv_at hl 3 rfl) ?_
  refine lv_iconst (v := 1) hx hb dL_law_181 (by decide) ?_
  refine lv_iadd hx hb dL_law_182 ?_
  refine va_sld hx hb hX hbl hbA hS (vp_off hx3 hk hL 1 (by decide)) dL_law_183 ?_
  refine lv_aload_n hx hb dL_law_184 rfl (lv_at hl 0 rfl) ?_
  refine lv_iload_n hx hb dL_law_185 rfl (lv_at hl 3 rfl) ?_
  refine lv_iconst (v := 2) hx hb dL_law_186 (by decide) ?_
  refine lv_iadd hx hb dL_law_187 ?_
  refine va_sld hx hb hX hbl hbA hS (vp_off hx3 hk hL 2 (by decide)) dL_law_188 ?_
  refine m_callViF (As := [.int (xs (x3 + 1).toNatClampNeg), .int (xs (x3 + 2).toNatClampNeg)]) (rest := [.int rx]) ⟨hx, hb, hml, hown, hts⟩ (kX11_size l D cI cZ adm hDm Mm (xs (x3 + 1).toNatClampNeg) (xs (x3 + 2).toNatClampNeg) _ h) (cwV 2 hts (gdV (fun w h => h) (inA_9 _ (List.mem_of_getElem? (i := 0) rfl)) vX11_size) rfl rfl rfl (by decide +kernel) ⟨Nat.le_of_ble_eq_true rfl, Nat.le_of_ble_eq_true rfl⟩) (va_recv hK hPm (ci := 11) (q0 := 0) rfl (mW_0 cI cZ adm Mm)) hPm hK hS hAm hl.1 rfl rfl (Nat.le_of_ble_eq_true rfl) dL_law_189 ⟨Nat.le_of_ble_eq_true rfl, Nat.le_of_ble_eq_true rfl⟩ (fun rm Nm H locs h hPm hz1 hk1 hS => ?_)
  have hPx := P_keptX hPx hk1 hdis
  refine lv_icmp_eq (tgt := 1283) hx hb dL_law_192 (by decide) (fun q192 => ?_) (fun q192 => ?_)
  · exact hnext Nx Nm H locs h.2 hPx hPm hS
  · exact absurd h.1 q192
set_option maxHeartbeats 4000000 in
set_option maxRecDepth 100000 in
theorem law_shade {p : Program} {e : Env} {s : State} {m : MethodId} {below : List Frame} {meth : Method} {c : Code} (l : Launch) {b L : Nat} {xs : Nat → Int32} {D : va_G} {cI cZ : ClassId} {adx adm : Nat → Nat} {zA zD zR : Nat} (C0 : LCx p s m meth c b L xs D cI cZ adx adm zA zD zR) {Inv : Mem → Mem → Prop} (hst : St_shade Inv) (k : Nat) (x3 : Int32) (hx3 : x3 = nI k) (hk : k + 8 ≤ L) (Mx Mm : Mem) (hI : Inv Mx Mm) (H : Heap) (locs : List Loc) (ls : Array Slot) (hl : lv_has ls 4 [(0, .ref b), (1, .ref (adx 0)), (2, .ref (adm 0)), (3, .int x3)]) (hPx : va_P D vwCl (xW cI cZ adx Mx) H) (hPm : va_P D vwCl (mW cI cZ adm Mm) H) (hS : va_S (lwA s) s.heap H locs) (hnext : ∀ (Nx Nm : Mem) (H : Heap) (locs : List Loc), Inv Nx Nm → va_P D vwCl (xW cI cZ adx Nx) H → va_P D vwCl (mW cI cZ adm Nm) H → va_S (lwA s) s.heap H locs → GL p l e s m below meth c b H locs (F0 m 1283 ls [])) : GL p l e s m below meth c b H locs (F0 m 197 ls []) := by
  obtain ⟨⟨hx, hb, hr, hml, hown, hts, hX, hbl, hlocks, hgv⟩, hL, hK, hZ, hN, hDx, hDm, hAx, hAm, hdis⟩ := C0
  have hts : ∀ w ∈ wsL_law, w.before #[Value.ref b] s = true := fun w h => hts w (wsL_law_in w h)
  have hbA : ¬ lwA s b := Nat.not_le.mpr hbl
  refine lv_aload_n hx hb dL_law_197 rfl (lv_at hl 1 rfl) ?_
  refine lv_aload_n hx hb dL_law_198 rfl (lv_at hl 0 rfl) ?_
  refine lv_iload_n hx hb dL_law_199 rfl (lv_at hl 3 rfl) ?_
  refine lv_iconst (v := 1) hx hb dL_law_200 (by decide) ?_
  refine lv_iadd hx hb dL_law_201 ?_
  refine va_sld hx hb hX hbl hbA hS (vp_off hx3 hk hL 1 (by decide)) dL_law_202 ?_
  refine lv_aload_n hx hb dL_law_203 rfl (lv_at hl 0 rfl) ?_
  refine lv_iload_n hx hb dL_law_204 rfl (lv_at hl 3 rfl) ?_
  refine lv_iconst (v := 2) hx hb dL_law_205 (by decide) ?_
  refine lv_iadd hx hb dL_law_206 ?_
  refine va_sld hx hb hX hbl hbA hS (vp_off hx3 hk hL 2 (by decide)) dL_law_207 ?_
  refine lv_aload_n hx hb dL_law_208 rfl (lv_at hl 0 rfl) ?_
  refine lv_iload_n hx hb dL_law_209 rfl (lv_at hl 3 rfl) ?_
  refine lv_iconst (v := 3) hx hb dL_law_210 (by decide) ?_
  refine lv_iadd hx hb dL_law_211 ?_
  refine va_sld hx hb hX hbl hbA hS (vp_off hx3 hk hL 3 (by decide)) dL_law_212 ?_
  refine lv_aload_n hx hb dL_law_213 rfl (lv_at hl 0 rfl) ?_
  refine lv_iload_n hx hb dL_law_214 rfl (lv_at hl 3 rfl) ?_
  refine lv_iconst (v := 4) hx hb dL_law_215 (by decide) ?_
  refine lv_iadd hx hb dL_law_216 ?_
  refine va_sld hx hb hX hbl hbA hS (vp_off hx3 hk hL 4 (by decide)) dL_law_217 ?_
  have h := hst Mx Mm (xs (x3 + 1).toNatClampNeg) (xs (x3 + 2).toNatClampNeg) (xs (x3 + 3).toNatClampNeg) (xs (x3 + 4).toNatClampNeg) hI
  refine x_callViF (As := [.int (xs (x3 + 1).toNatClampNeg), .int (xs (x3 + 2).toNatClampNeg), .int (xs (x3 + 3).toNatClampNeg), .int (xs (x3 + 4).toNatClampNeg)]) (rest := []) ⟨hx, hb, hml, hown, hts⟩ (kX10_shade l D cI cZ adx zA zD zR hDx Mx (xs (x3 + 1).toNatClampNeg) (xs (x3 + 2).toNatClampNeg) (xs (x3 + 3).toNatClampNeg) (xs (x3 + 4).toNatClampNeg) _ h) (cwV 4 hts (gdV (fun w h => h) (inA_9 _ (List.mem_of_getElem? (i := 7) rfl)) vX10_shade) rfl rfl rfl (by decide +kernel) ⟨Nat.le_of_ble_eq_true rfl, Nat.le_of_ble_eq_true rfl⟩) (va_recv hK hPx (ci := 10) (q0 := 0) rfl (xW_0 cI cZ adx Mx)) hPx hK hZ hN hS hAx hl.1 rfl rfl (Nat.le_of_ble_eq_true rfl) dL_law_218 ⟨Nat.le_of_ble_eq_true rfl, Nat.le_of_ble_eq_true rfl⟩ (fun rx Nx H locs h hPx hz1 hk1 hS => ?_)
  have hPm := P_keptM hPm hk1 hdis
  refine lv_aload_n hx hb dL_law_221 rfl (lv_at hl 2 rfl) ?_
  refine lv_aload_n hx hb dL_law_222 rfl (lv_at hl 0 rfl) ?_
  refine lv_iload_n hx hb dL_law_223 rfl (lv_at hl 3 rfl) ?_
  refine lv_iconst (v := 1) hx hb dL_law_224 (by decide) ?_
  refine lv_iadd hx hb dL_law_225 ?_
  refine va_sld hx hb hX hbl hbA hS (vp_off hx3 hk hL 1 (by decide)) dL_law_226 ?_
  refine lv_aload_n hx hb dL_law_227 rfl (lv_at hl 0 rfl) ?_
  refine lv_iload_n hx hb dL_law_228 rfl (lv_at hl 3 rfl) ?_
  refine lv_iconst (v := 2) hx hb dL_law_229 (by decide) ?_
  refine lv_iadd hx hb dL_law_230 ?_
  refine va_sld hx hb hX hbl hbA hS (vp_off hx3 hk hL 2 (by decide)) dL_law_231 ?_
  refine lv_aload_n hx hb dL_law_232 rfl (lv_at hl 0 rfl) ?_
  refine lv_iload_n hx hb dL_law_233 rfl (lv_at hl 3 rfl) ?_
  refine lv_iconst (v := 3) hx hb dL_law_234 (by decide) ?_
  refine lv_iadd hx hb dL_law_235 ?_
  refine va_sld hx hb hX hbl hbA hS (vp_off hx3 hk hL 3 (by decide)) dL_law_236 ?_
  refine lv_aload_n hx hb dL_law_237 rfl (lv_at hl 0 rfl) ?_
  refine lv_iload_n hx hb dL_law_238 rfl (lv_at hl 3 rfl) ?_
  refine lv_iconst (v := 4) hx hb dL_law_239 (by decide) ?_
  refine lv_iadd hx hb dL_law_240 ?_
  refine va_sld hx hb hX hbl hbA hS (vp_off hx3 hk hL 4 (by decide)) dL_law_241 ?_
  refine m_callViF (As := [.int (xs (x3 + 1).toNatClampNeg), .int (xs (x3 + 2).toNatClampNeg), .int (xs (x3 + 3).toNatClampNeg), .int (xs (x3 + 4).toNatClampNeg)]) (rest := [.int rx]) ⟨hx, hb, hml, hown, hts⟩ (kX11_shade l D cI cZ adm hDm Mm (xs (x3 + 1).toNatClampNeg) (xs (x3 + 2).toNatClampNeg) (xs (x3 + 3).toNatClampNeg) (xs (x3 + 4).toNatClampNeg) _ h) (cwV 4 hts (gdV (fun w h => h) (inA_10 _ (List.mem_of_getElem? (i := 18) rfl)) vX11_shade) rfl rfl rfl (by decide +kernel) ⟨Nat.le_of_ble_eq_true rfl, Nat.le_of_ble_eq_true rfl⟩) (va_recv hK hPm (ci := 11) (q0 := 0) rfl (mW_0 cI cZ adm Mm)) hPm hK hS hAm hl.1 rfl rfl (Nat.le_of_ble_eq_true rfl) dL_law_242 ⟨Nat.le_of_ble_eq_true rfl, Nat.le_of_ble_eq_true rfl⟩ (fun rm Nm H locs h hPm hz1 hk1 hS => ?_)
  have hPx := P_keptX hPx hk1 hdis
  refine lv_icmp_eq (tgt := 1283) hx hb dL_law_245 (by decide) (fun q245 => ?_) (fun q245 => ?_)
  · exact hnext Nx Nm H locs h.2 hPx hPm hS
  · exact absurd h.1 q245
set_option maxHeartbeats 4000000 in
set_option maxRecDepth 100000 in
theorem law_lose {p : Program} {e : Env} {s : State} {m : MethodId} {below : List Frame} {meth : Method} {c : Code} (l : Launch) {b L : Nat} {xs : Nat → Int32} {D : va_G} {cI cZ : ClassId} {adx adm : Nat → Nat} {zA zD zR : Nat} (C0 : LCx p s m meth c b L xs D cI cZ adx adm zA zD zR) {Inv : Mem → Mem → Prop} (hst : St_lose Inv) (k : Nat) (x3 : Int32) (hx3 : x3 = nI k) (hk : k + 8 ≤ L) (Mx Mm : Mem) (hI : Inv Mx Mm) (H : Heap) (locs : List Loc) (ls : Array Slot) (hl : lv_has ls 4 [(0, .ref b), (1, .ref (adx 0)), (2, .ref (adm 0)), (3, .int x3)]) (hPx : va_P D vwCl (xW cI cZ adx Mx) H) (hPm : va_P D vwCl (mW cI cZ adm Mm) H) (hS : va_S (lwA s) s.heap H locs) (hnext : ∀ (Nx Nm : Mem) (H : Heap) (locs : List Loc), Inv Nx Nm → va_P D vwCl (xW cI cZ adx Nx) H → va_P D vwCl (mW cI cZ adm Nm) H → va_S (lwA s) s.heap H locs → GL p l e s m below meth c b H locs (F0 m 1283 ls [])) : GL p l e s m below meth c b H locs (F0 m 250 ls []) := by
  obtain ⟨⟨hx, hb, hr, hml, hown, hts, hX, hbl, hlocks, hgv⟩, hL, hK, hZ, hN, hDx, hDm, hAx, hAm, hdis⟩ := C0
  have hts : ∀ w ∈ wsL_law, w.before #[Value.ref b] s = true := fun w h => hts w (wsL_law_in w h)
  have hbA : ¬ lwA s b := Nat.not_le.mpr hbl
  refine lv_aload_n hx hb dL_law_250 rfl (lv_at hl 1 rfl) ?_
  refine lv_aload_n hx hb dL_law_251 rfl (lv_at hl 0 rfl) ?_
  refine lv_iload_n hx hb dL_law_252 rfl (lv_at hl 3 rfl) ?_
  refine lv_iconst (v := 1) hx hb dL_law_253 (by decide) ?_
  refine lv_iadd hx hb dL_law_254 ?_
  refine va_sld hx hb hX hbl hbA hS (vp_off hx3 hk hL 1 (by decide)) dL_law_255 ?_
  refine lv_aload_n hx hb dL_law_256 rfl (lv_at hl 0 rfl) ?_
  refine lv_iload_n hx hb dL_law_257 rfl (lv_at hl 3 rfl) ?_
  refine lv_iconst (v := 2) hx hb dL_law_258 (by decide) ?_
  refine lv_iadd hx hb dL_law_259 ?_
  refine va_sld hx hb hX hbl hbA hS (vp_off hx3 hk hL 2 (by decide)) dL_law_260 ?_
  refine lv_aload_n hx hb dL_law_261 rfl (lv_at hl 0 rfl) ?_
  refine lv_iload_n hx hb dL_law_262 rfl (lv_at hl 3 rfl) ?_
  refine lv_iconst (v := 3) hx hb dL_law_263 (by decide) ?_
  refine lv_iadd hx hb dL_law_264 ?_
  refine va_sld hx hb hX hbl hbA hS (vp_off hx3 hk hL 3 (by decide)) dL_law_265 ?_
  have h := hst Mx Mm (xs (x3 + 1).toNatClampNeg) (xs (x3 + 2).toNatClampNeg) (xs (x3 + 3).toNatClampNeg) hI
  refine x_callViF (As := [.int (xs (x3 + 1).toNatClampNeg), .int (xs (x3 + 2).toNatClampNeg), .int (xs (x3 + 3).toNatClampNeg)]) (rest := []) ⟨hx, hb, hml, hown, hts⟩ (kX10_lose l D cI cZ adx zA zD zR hDx Mx (xs (x3 + 1).toNatClampNeg) (xs (x3 + 2).toNatClampNeg) (xs (x3 + 3).toNatClampNeg) _ h) (cwV 3 hts (gdV (fun w h => h) (inA_11 _ (List.mem_of_getElem? (i := 10) rfl)) vX10_lose) rfl rfl rfl (by decide +kernel) ⟨Nat.le_of_ble_eq_true rfl, Nat.le_of_ble_eq_true rfl⟩) (va_recv hK hPx (ci := 10) (q0 := 0) rfl (xW_0 cI cZ adx Mx)) hPx hK hZ hN hS hAx hl.1 rfl rfl (Nat.le_of_ble_eq_true rfl) dL_law_266 ⟨Nat.le_of_ble_eq_true rfl, Nat.le_of_ble_eq_true rfl⟩ (fun rx Nx H locs h hPx hz1 hk1 hS => ?_)
  have hPm := P_keptM hPm hk1 hdis
  refine lv_aload_n hx hb dL_law_269 rfl (lv_at hl 2 rfl) ?_
  refine lv_aload_n hx hb dL_law_270 rfl (lv_at hl 0 rfl) ?_
  refine lv_iload_n hx hb dL_law_271 rfl (lv_at hl 3 rfl) ?_
  refine lv_iconst (v := 1) hx hb dL_law_272 (by decide) ?_
  refine lv_iadd hx hb dL_law_273 ?_
  refine va_sld hx hb hX hbl hbA hS (vp_off hx3 hk hL 1 (by decide)) dL_law_274 ?_
  refine lv_aload_n hx hb dL_law_275 rfl (lv_at hl 0 rfl) ?_
  refine lv_iload_n hx hb dL_law_276 rfl (lv_at hl 3 rfl) ?_
  refine lv_iconst (v := 2) hx hb dL_law_277 (by decide) ?_
  refine lv_iadd hx hb dL_law_278 ?_
  refine va_sld hx hb hX hbl hbA hS (vp_off hx3 hk hL 2 (by decide)) dL_law_279 ?_
  refine lv_aload_n hx hb dL_law_280 rfl (lv_at hl 0 rfl) ?_
  refine lv_iload_n hx hb dL_law_281 rfl (lv_at hl 3 rfl) ?_
  refine lv_iconst (v := 3) hx hb dL_law_282 (by decide) ?_
  refine lv_iadd hx hb dL_law_283 ?_
  refine va_sld hx hb hX hbl hbA hS (vp_off hx3 hk hL 3 (by decide)) dL_law_284 ?_
  refine m_callViF (As := [.int (xs (x3 + 1).toNatClampNeg), .int (xs (x3 + 2).toNatClampNeg), .int (xs (x3 + 3).toNatClampNeg)]) (rest := [.int rx]) ⟨hx, hb, hml, hown, hts⟩ (kX11_lose l D cI cZ adm hDm Mm (xs (x3 + 1).toNatClampNeg) (xs (x3 + 2).toNatClampNeg) (xs (x3 + 3).toNatClampNeg) _ h) (cwV 3 hts (gdV (fun w h => h) (inA_11 _ (List.mem_of_getElem? (i := 19) rfl)) vX11_lose) rfl rfl rfl (by decide +kernel) ⟨Nat.le_of_ble_eq_true rfl, Nat.le_of_ble_eq_true rfl⟩) (va_recv hK hPm (ci := 11) (q0 := 0) rfl (mW_0 cI cZ adm Mm)) hPm hK hS hAm hl.1 rfl rfl (Nat.le_of_ble_eq_true rfl) dL_law_285 ⟨Nat.le_of_ble_eq_true rfl, Nat.le_of_ble_eq_true rfl⟩ (fun rm Nm H locs h hPm hz1 hk1 hS => ?_)
  have hPx := P_keptX hPx hk1 hdis
  refine lv_icmp_eq (tgt := 1283) hx hb dL_law_288 (by decide) (fun q288 => ?_) (fun q288 => ?_)
  · exact hnext Nx Nm H locs h.2 hPx hPm hS
  · exact absurd h.1 q288
set_option maxHeartbeats 4000000 in
set_option maxRecDepth 100000 in
theorem law_row {p : Program} {e : Env} {s : State} {m : MethodId} {below : List Frame} {meth : Method} {c : Code} (l : Launch) {b L : Nat} {xs : Nat → Int32} {D : va_G} {cI cZ : ClassId} {adx adm : Nat → Nat} {zA zD zR : Nat} (C0 : LCx p s m meth c b L xs D cI cZ adx adm zA zD zR) {Inv : Mem → Mem → Prop} (hst : St_row Inv) (k : Nat) (x3 : Int32) (hx3 : x3 = nI k) (hk : k + 8 ≤ L) (Mx Mm : Mem) (hI : Inv Mx Mm) (H : Heap) (locs : List Loc) (ls : Array Slot) (hl : lv_has ls 4 [(0, .ref b), (1, .ref (adx 0)), (2, .ref (adm 0)), (3, .int x3)]) (hPx : va_P D vwCl (xW cI cZ adx Mx) H) (hPm : va_P D vwCl (mW cI cZ adm Mm) H) (hS : va_S (lwA s) s.heap H locs) (hnext : ∀ (Nx Nm : Mem) (H : Heap) (locs : List Loc), Inv Nx Nm → va_P D vwCl (xW cI cZ adx Nx) H → va_P D vwCl (mW cI cZ adm Nm) H → va_S (lwA s) s.heap H locs → GL p l e s m below meth c b H locs (F0 m 1283 ls [])) : GL p l e s m below meth c b H locs (F0 m 293 ls []) := by
  obtain ⟨⟨hx, hb, hr, hml, hown, hts, hX, hbl, hlocks, hgv⟩, hL, hK, hZ, hN, hDx, hDm, hAx, hAm, hdis⟩ := C0
  have hts : ∀ w ∈ wsL_law, w.before #[Value.ref b] s = true := fun w h => hts w (wsL_law_in w h)
  have hbA : ¬ lwA s b := Nat.not_le.mpr hbl
  refine lv_aload_n hx hb dL_law_293 rfl (lv_at hl 1 rfl) ?_
  refine lv_aload_n hx hb dL_law_294 rfl (lv_at hl 0 rfl) ?_
  refine lv_iload_n hx hb dL_law_295 rfl (lv_at hl 3 rfl) ?_
  refine lv_iconst (v := 1) hx hb dL_law_296 (by decide) ?_
  refine lv_iadd hx hb dL_law_297 ?_
  refine va_sld hx hb hX hbl hbA hS (vp_off hx3 hk hL 1 (by decide)) dL_law_298 ?_
  refine lv_aload_n hx hb dL_law_299 rfl (lv_at hl 0 rfl) ?_
  refine lv_iload_n hx hb dL_law_300 rfl (lv_at hl 3 rfl) ?_
  refine lv_iconst (v := 2) hx hb dL_law_301 (by decide) ?_
  refine lv_iadd hx hb dL_law_302 ?_
  refine va_sld hx hb hX hbl hbA hS (vp_off hx3 hk hL 2 (by decide)) dL_law_303 ?_
  refine lv_aload_n hx hb dL_law_304 rfl (lv_at hl 0 rfl) ?_
  refine lv_iload_n hx hb dL_law_305 rfl (lv_at hl 3 rfl) ?_
  refine lv_iconst (v := 3) hx hb dL_law_306 (by decide) ?_
  refine lv_iadd hx hb dL_law_307 ?_
  refine va_sld hx hb hX hbl hbA hS (vp_off hx3 hk hL 3 (by decide)) dL_law_308 ?_
  refine lv_if_eq (tgt := 316) hx hb dL_law_309 (by decide) (fun q309 => ?_) (fun q309 => ?_)
  · skip
    refine lv_iconst (v := 0) hx hb dL_law_316 (by decide) ?_
    have h := hst Mx Mm (xs (x3 + 1).toNatClampNeg) (xs (x3 + 2).toNatClampNeg) 0 (Or.inl rfl) hI
    refine x_callViF (As := [.int (xs (x3 + 1).toNatClampNeg), .int (xs (x3 + 2).toNatClampNeg), .int 0]) (rest := []) ⟨hx, hb, hml, hown, hts⟩ (kX10_row l D cI cZ adx zA zD zR hDx Mx (xs (x3 + 1).toNatClampNeg) (xs (x3 + 2).toNatClampNeg) 0 _ h) (cwV 3 hts (gdV (fun w h => h) (inA_11 _ (List.mem_of_getElem? (i := 23) rfl)) vX10_row) rfl rfl rfl (by decide +kernel) ⟨Nat.le_of_ble_eq_true rfl, Nat.le_of_ble_eq_true rfl⟩) (va_recv hK hPx (ci := 10) (q0 := 0) rfl (xW_0 cI cZ adx Mx)) hPx hK hZ hN hS hAx hl.1 rfl rfl (Nat.le_of_ble_eq_true rfl) dL_law_317 ⟨Nat.le_of_ble_eq_true rfl, Nat.le_of_ble_eq_true rfl⟩ (fun rx Nx H locs h hPx hz1 hk1 hS => ?_)
    have hPm := P_keptM hPm hk1 hdis
    refine lv_aload_n hx hb dL_law_320 rfl (lv_at hl 2 rfl) ?_
    refine lv_aload_n hx hb dL_law_321 rfl (lv_at hl 0 rfl) ?_
    refine lv_iload_n hx hb dL_law_322 rfl (lv_at hl 3 rfl) ?_
    refine lv_iconst (v := 1) hx hb dL_law_323 (by decide) ?_
    refine lv_iadd hx hb dL_law_324 ?_
    refine va_sld hx hb hX hbl hbA hS (vp_off hx3 hk hL 1 (by decide)) dL_law_325 ?_
    refine lv_aload_n hx hb dL_law_326 rfl (lv_at hl 0 rfl) ?_
    refine lv_iload_n hx hb dL_law_327 rfl (lv_at hl 3 rfl) ?_
    refine lv_iconst (v := 2) hx hb dL_law_328 (by decide) ?_
    refine lv_iadd hx hb dL_law_329 ?_
    refine va_sld hx hb hX hbl hbA hS (vp_off hx3 hk hL 2 (by decide)) dL_law_330 ?_
    refine lv_aload_n hx hb dL_law_331 rfl (lv_at hl 0 rfl) ?_
    refine lv_iload_n hx hb dL_law_332 rfl (lv_at hl 3 rfl) ?_
    refine lv_iconst (v := 3) hx hb dL_law_333 (by decide) ?_
    refine lv_iadd hx hb dL_law_334 ?_
    refine va_sld hx hb hX hbl hbA hS (vp_off hx3 hk hL 3 (by decide)) dL_law_335 ?_
    refine lv_if_eq (tgt := 343) hx hb dL_law_336 (by decide) (fun q336 => ?_) (fun q336 => ?_)
    · skip
      refine lv_iconst (v := 0) hx hb dL_law_343 (by decide) ?_
      refine m_callViF (As := [.int (xs (x3 + 1).toNatClampNeg), .int (xs (x3 + 2).toNatClampNeg), .int 0]) (rest := [.int rx]) ⟨hx, hb, hml, hown, hts⟩ (kX11_row l D cI cZ adm hDm Mm (xs (x3 + 1).toNatClampNeg) (xs (x3 + 2).toNatClampNeg) 0 _ h) (cwV 3 hts (gdV (fun w h => h) (inA_12 _ (List.mem_of_getElem? (i := 5) rfl)) vX11_row) rfl rfl rfl (by decide +kernel) ⟨Nat.le_of_ble_eq_true rfl, Nat.le_of_ble_eq_true rfl⟩) (va_recv hK hPm (ci := 11) (q0 := 0) rfl (mW_0 cI cZ adm Mm)) hPm hK hS hAm hl.1 rfl rfl (Nat.le_of_ble_eq_true rfl) dL_law_344 ⟨Nat.le_of_ble_eq_true rfl, Nat.le_of_ble_eq_true rfl⟩ (fun rm Nm H locs h hPm hz1 hk1 hS => ?_)
      have hPx := P_keptX hPx hk1 hdis
      refine lv_icmp_eq (tgt := 1283) hx hb dL_law_347 (by decide) (fun q347 => ?_) (fun q347 => ?_)
      · exact hnext Nx Nm H locs h.2 hPx hPm hS
      · exact absurd h.1 q347
    · skip
      exact absurd q309 q336
  · skip
    refine lv_iconst (v := 1) hx hb dL_law_312 (by decide) ?_
    refine lv_goto (tgt := 317) hx hb dL_law_313 (by decide) ?_
    have h := hst Mx Mm (xs (x3 + 1).toNatClampNeg) (xs (x3 + 2).toNatClampNeg) 1 (Or.inr rfl) hI
    refine x_callViF (As := [.int (xs (x3 + 1).toNatClampNeg), .int (xs (x3 + 2).toNatClampNeg), .int 1]) (rest := []) ⟨hx, hb, hml, hown, hts⟩ (kX10_row l D cI cZ adx zA zD zR hDx Mx (xs (x3 + 1).toNatClampNeg) (xs (x3 + 2).toNatClampNeg) 1 _ h) (cwV 3 hts (gdV (fun w h => h) (inA_11 _ (List.mem_of_getElem? (i := 23) rfl)) vX10_row) rfl rfl rfl (by decide +kernel) ⟨Nat.le_of_ble_eq_true rfl, Nat.le_of_ble_eq_true rfl⟩) (va_recv hK hPx (ci := 10) (q0 := 0) rfl (xW_0 cI cZ adx Mx)) hPx hK hZ hN hS hAx hl.1 rfl rfl (Nat.le_of_ble_eq_true rfl) dL_law_317 ⟨Nat.le_of_ble_eq_true rfl, Nat.le_of_ble_eq_true rfl⟩ (fun rx Nx H locs h hPx hz1 hk1 hS => ?_)
    have hPm := P_keptM hPm hk1 hdis
    refine lv_aload_n hx hb dL_law_320 rfl (lv_at hl 2 rfl) ?_
    refine lv_aload_n hx hb dL_law_321 rfl (lv_at hl 0 rfl) ?_
    refine lv_iload_n hx hb dL_law_322 rfl (lv_at hl 3 rfl) ?_
    refine lv_iconst (v := 1) hx hb dL_law_323 (by decide) ?_
    refine lv_iadd hx hb dL_law_324 ?_
    refine va_sld hx hb hX hbl hbA hS (vp_off hx3 hk hL 1 (by decide)) dL_law_325 ?_
    refine lv_aload_n hx hb dL_law_326 rfl (lv_at hl 0 rfl) ?_
    refine lv_iload_n hx hb dL_law_327 rfl (lv_at hl 3 rfl) ?_
    refine lv_iconst (v := 2) hx hb dL_law_328 (by decide) ?_
    refine lv_iadd hx hb dL_law_329 ?_
    refine va_sld hx hb hX hbl hbA hS (vp_off hx3 hk hL 2 (by decide)) dL_law_330 ?_
    refine lv_aload_n hx hb dL_law_331 rfl (lv_at hl 0 rfl) ?_
    refine lv_iload_n hx hb dL_law_332 rfl (lv_at hl 3 rfl) ?_
    refine lv_iconst (v := 3) hx hb dL_law_333 (by decide) ?_
    refine lv_iadd hx hb dL_law_334 ?_
    refine va_sld hx hb hX hbl hbA hS (vp_off hx3 hk hL 3 (by decide)) dL_law_335 ?_
    refine lv_if_eq (tgt := 343) hx hb dL_law_336 (by decide) (fun q336 => ?_) (fun q336 => ?_)
    · skip
      exact absurd q336 q309
    · skip
      refine lv_iconst (v := 1) hx hb dL_law_339 (by decide) ?_
      refine lv_goto (tgt := 344) hx hb dL_law_340 (by decide) ?_
      refine m_callViF (As := [.int (xs (x3 + 1).toNatClampNeg), .int (xs (x3 + 2).toNatClampNeg), .int 1]) (rest := [.int rx]) ⟨hx, hb, hml, hown, hts⟩ (kX11_row l D cI cZ adm hDm Mm (xs (x3 + 1).toNatClampNeg) (xs (x3 + 2).toNatClampNeg) 1 _ h) (cwV 3 hts (gdV (fun w h => h) (inA_12 _ (List.mem_of_getElem? (i := 5) rfl)) vX11_row) rfl rfl rfl (by decide +kernel) ⟨Nat.le_of_ble_eq_true rfl, Nat.le_of_ble_eq_true rfl⟩) (va_recv hK hPm (ci := 11) (q0 := 0) rfl (mW_0 cI cZ adm Mm)) hPm hK hS hAm hl.1 rfl rfl (Nat.le_of_ble_eq_true rfl) dL_law_344 ⟨Nat.le_of_ble_eq_true rfl, Nat.le_of_ble_eq_true rfl⟩ (fun rm Nm H locs h hPm hz1 hk1 hS => ?_)
      have hPx := P_keptX hPx hk1 hdis
      refine lv_icmp_eq (tgt := 1283) hx hb dL_law_347 (by decide) (fun q347 => ?_) (fun q347 => ?_)
      · exact hnext Nx Nm H locs h.2 hPx hPm hS
      · exact absurd h.1 q347
set_option maxHeartbeats 4000000 in
set_option maxRecDepth 100000 in
theorem law_copy {p : Program} {e : Env} {s : State} {m : MethodId} {below : List Frame} {meth : Method} {c : Code} (l : Launch) {b L : Nat} {xs : Nat → Int32} {D : va_G} {cI cZ : ClassId} {adx adm : Nat → Nat} {zA zD zR : Nat} (C0 : LCx p s m meth c b L xs D cI cZ adx adm zA zD zR) {Inv : Mem → Mem → Prop} (hst : St_copy Inv) (k : Nat) (x3 : Int32) (hx3 : x3 = nI k) (hk : k + 8 ≤ L) (Mx Mm : Mem) (hI : Inv Mx Mm) (H : Heap) (locs : List Loc) (ls : Array Slot) (hl : lv_has ls 4 [(0, .ref b), (1, .ref (adx 0)), (2, .ref (adm 0)), (3, .int x3)]) (hPx : va_P D vwCl (xW cI cZ adx Mx) H) (hPm : va_P D vwCl (mW cI cZ adm Mm) H) (hS : va_S (lwA s) s.heap H locs) (hnext : ∀ (Nx Nm : Mem) (H : Heap) (locs : List Loc), Inv Nx Nm → va_P D vwCl (xW cI cZ adx Nx) H → va_P D vwCl (mW cI cZ adm Nm) H → va_S (lwA s) s.heap H locs → GL p l e s m below meth c b H locs (F0 m 1283 ls [])) : GL p l e s m below meth c b H locs (F0 m 352 ls []) := by
  obtain ⟨⟨hx, hb, hr, hml, hown, hts, hX, hbl, hlocks, hgv⟩, hL, hK, hZ, hN, hDx, hDm, hAx, hAm, hdis⟩ := C0
  have hts : ∀ w ∈ wsL_law, w.before #[Value.ref b] s = true := fun w h => hts w (wsL_law_in w h)
  have hbA : ¬ lwA s b := Nat.not_le.mpr hbl
  refine lv_aload_n hx hb dL_law_352 rfl (lv_at hl 1 rfl) ?_
  refine lv_aload_n hx hb dL_law_353 rfl (lv_at hl 0 rfl) ?_
  refine lv_iload_n hx hb dL_law_354 rfl (lv_at hl 3 rfl) ?_
  refine lv_iconst (v := 1) hx hb dL_law_355 (by decide) ?_
  refine lv_iadd hx hb dL_law_356 ?_
  refine va_sld hx hb hX hbl hbA hS (vp_off hx3 hk hL 1 (by decide)) dL_law_357 ?_
  refine lv_aload_n hx hb dL_law_358 rfl (lv_at hl 0 rfl) ?_
  refine lv_iload_n hx hb dL_law_359 rfl (lv_at hl 3 rfl) ?_
  refine lv_iconst (v := 2) hx hb dL_law_360 (by decide) ?_
  refine lv_iadd hx hb dL_law_361 ?_
  refine va_sld hx hb hX hbl hbA hS (vp_off hx3 hk hL 2 (by decide)) dL_law_362 ?_
  refine lv_aload_n hx hb dL_law_363 rfl (lv_at hl 0 rfl) ?_
  refine lv_iload_n hx hb dL_law_364 rfl (lv_at hl 3 rfl) ?_
  refine lv_iconst (v := 3) hx hb dL_law_365 (by decide) ?_
  refine lv_iadd hx hb dL_law_366 ?_
  refine va_sld hx hb hX hbl hbA hS (vp_off hx3 hk hL 3 (by decide)) dL_law_367 ?_
  refine lv_aload_n hx hb dL_law_368 rfl (lv_at hl 0 rfl) ?_
  refine lv_iload_n hx hb dL_law_369 rfl (lv_at hl 3 rfl) ?_
  refine lv_iconst (v := 4) hx hb dL_law_370 (by decide) ?_
  refine lv_iadd hx hb dL_law_371 ?_
  refine va_sld hx hb hX hbl hbA hS (vp_off hx3 hk hL 4 (by decide)) dL_law_372 ?_
  refine lv_aload_n hx hb dL_law_373 rfl (lv_at hl 0 rfl) ?_
  refine lv_iload_n hx hb dL_law_374 rfl (lv_at hl 3 rfl) ?_
  refine lv_iconst (v := 5) hx hb dL_law_375 (by decide) ?_
  refine lv_iadd hx hb dL_law_376 ?_
  refine va_sld hx hb hX hbl hbA hS (vp_off hx3 hk hL 5 (by decide)) dL_law_377 ?_
  refine lv_aload_n hx hb dL_law_378 rfl (lv_at hl 0 rfl) ?_
  refine lv_iload_n hx hb dL_law_379 rfl (lv_at hl 3 rfl) ?_
  refine lv_bipush (v := 6) hx hb dL_law_380 (by decide) ?_
  refine lv_iadd hx hb dL_law_382 ?_
  refine va_sld hx hb hX hbl hbA hS (vp_off hx3 hk hL 6 (by decide)) dL_law_383 ?_
  refine lv_aload_n hx hb dL_law_384 rfl (lv_at hl 0 rfl) ?_
  refine lv_iload_n hx hb dL_law_385 rfl (lv_at hl 3 rfl) ?_
  refine lv_bipush (v := 7) hx hb dL_law_386 (by decide) ?_
  refine lv_iadd hx hb dL_law_388 ?_
  refine va_sld hx hb hX hbl hbA hS (vp_off hx3 hk hL 7 (by decide)) dL_law_389 ?_
  have h := hst Mx Mm (xs (x3 + 1).toNatClampNeg) (xs (x3 + 2).toNatClampNeg) (xs (x3 + 3).toNatClampNeg) (xs (x3 + 4).toNatClampNeg) (xs (x3 + 5).toNatClampNeg) (xs (x3 + 6).toNatClampNeg) (xs (x3 + 7).toNatClampNeg) hI
  refine x_callViF (As := [.int (xs (x3 + 1).toNatClampNeg), .int (xs (x3 + 2).toNatClampNeg), .int (xs (x3 + 3).toNatClampNeg), .int (xs (x3 + 4).toNatClampNeg), .int (xs (x3 + 5).toNatClampNeg), .int (xs (x3 + 6).toNatClampNeg), .int (xs (x3 + 7).toNatClampNeg)]) (rest := []) ⟨hx, hb, hml, hown, hts⟩ (kX10_copy l D cI cZ adx zA zD zR hDx Mx (xs (x3 + 1).toNatClampNeg) (xs (x3 + 2).toNatClampNeg) (xs (x3 + 3).toNatClampNeg) (xs (x3 + 4).toNatClampNeg) (xs (x3 + 5).toNatClampNeg) (xs (x3 + 6).toNatClampNeg) (xs (x3 + 7).toNatClampNeg) _ h) (cwV 7 hts (gdV (fun w h => h) (inA_12 _ (List.mem_of_getElem? (i := 9) rfl)) vX10_copy) rfl rfl rfl (by decide +kernel) ⟨Nat.le_of_ble_eq_true rfl, Nat.le_of_ble_eq_true rfl⟩) (va_recv hK hPx (ci := 10) (q0 := 0) rfl (xW_0 cI cZ adx Mx)) hPx hK hZ hN hS hAx hl.1 rfl rfl (Nat.le_of_ble_eq_true rfl) dL_law_390 ⟨Nat.le_of_ble_eq_true rfl, Nat.le_of_ble_eq_true rfl⟩ (fun rx Nx H locs h hPx hz1 hk1 hS => ?_)
  have hPm := P_keptM hPm hk1 hdis
  refine lv_aload_n hx hb dL_law_393 rfl (lv_at hl 2 rfl) ?_
  refine lv_aload_n hx hb dL_law_394 rfl (lv_at hl 0 rfl) ?_
  refine lv_iload_n hx hb dL_law_395 rfl (lv_at hl 3 rfl) ?_
  refine lv_iconst (v := 1) hx hb dL_law_396 (by decide) ?_
  refine lv_iadd hx hb dL_law_397 ?_
  refine va_sld hx hb hX hbl hbA hS (vp_off hx3 hk hL 1 (by decide)) dL_law_398 ?_
  refine lv_aload_n hx hb dL_law_399 rfl (lv_at hl 0 rfl) ?_
  refine lv_iload_n hx hb dL_law_400 rfl (lv_at hl 3 rfl) ?_
  refine lv_iconst (v := 2) hx hb dL_law_401 (by decide) ?_
  refine lv_iadd hx hb dL_law_402 ?_
  refine va_sld hx hb hX hbl hbA hS (vp_off hx3 hk hL 2 (by decide)) dL_law_403 ?_
  refine lv_aload_n hx hb dL_law_404 rfl (lv_at hl 0 rfl) ?_
  refine lv_iload_n hx hb dL_law_405 rfl (lv_at hl 3 rfl) ?_
  refine lv_iconst (v := 3) hx hb dL_law_406 (by decide) ?_
  refine lv_iadd hx hb dL_law_407 ?_
  refine va_sld hx hb hX hbl hbA hS (vp_off hx3 hk hL 3 (by decide)) dL_law_408 ?_
  refine lv_aload_n hx hb dL_law_409 rfl (lv_at hl 0 rfl) ?_
  refine lv_iload_n hx hb dL_law_410 rfl (lv_at hl 3 rfl) ?_
  refine lv_iconst (v := 4) hx hb dL_law_411 (by decide) ?_
  refine lv_iadd hx hb dL_law_412 ?_
  refine va_sld hx hb hX hbl hbA hS (vp_off hx3 hk hL 4 (by decide)) dL_law_413 ?_
  refine lv_aload_n hx hb dL_law_414 rfl (lv_at hl 0 rfl) ?_
  refine lv_iload_n hx hb dL_law_415 rfl (lv_at hl 3 rfl) ?_
  refine lv_iconst (v := 5) hx hb dL_law_416 (by decide) ?_
  refine lv_iadd hx hb dL_law_417 ?_
  refine va_sld hx hb hX hbl hbA hS (vp_off hx3 hk hL 5 (by decide)) dL_law_418 ?_
  refine lv_aload_n hx hb dL_law_419 rfl (lv_at hl 0 rfl) ?_
  refine lv_iload_n hx hb dL_law_420 rfl (lv_at hl 3 rfl) ?_
  refine lv_bipush (v := 6) hx hb dL_law_421 (by decide) ?_
  refine lv_iadd hx hb dL_law_423 ?_
  refine va_sld hx hb hX hbl hbA hS (vp_off hx3 hk hL 6 (by decide)) dL_law_424 ?_
  refine lv_aload_n hx hb dL_law_425 rfl (lv_at hl 0 rfl) ?_
  refine lv_iload_n hx hb dL_law_426 rfl (lv_at hl 3 rfl) ?_
  refine lv_bipush (v := 7) hx hb dL_law_427 (by decide) ?_
  refine lv_iadd hx hb dL_law_429 ?_
  refine va_sld hx hb hX hbl hbA hS (vp_off hx3 hk hL 7 (by decide)) dL_law_430 ?_
  refine m_callViF (As := [.int (xs (x3 + 1).toNatClampNeg), .int (xs (x3 + 2).toNatClampNeg), .int (xs (x3 + 3).toNatClampNeg), .int (xs (x3 + 4).toNatClampNeg), .int (xs (x3 + 5).toNatClampNeg), .int (xs (x3 + 6).toNatClampNeg), .int (xs (x3 + 7).toNatClampNeg)]) (rest := [.int rx]) ⟨hx, hb, hml, hown, hts⟩ (kX11_copy l D cI cZ adm hDm Mm (xs (x3 + 1).toNatClampNeg) (xs (x3 + 2).toNatClampNeg) (xs (x3 + 3).toNatClampNeg) (xs (x3 + 4).toNatClampNeg) (xs (x3 + 5).toNatClampNeg) (xs (x3 + 6).toNatClampNeg) (xs (x3 + 7).toNatClampNeg) _ h) (cwV 7 hts (gdV (fun w h => h) (inA_12 _ (List.mem_of_getElem? (i := 21) rfl)) vX11_copy) rfl rfl rfl (by decide +kernel) ⟨Nat.le_of_ble_eq_true rfl, Nat.le_of_ble_eq_true rfl⟩) (va_recv hK hPm (ci := 11) (q0 := 0) rfl (mW_0 cI cZ adm Mm)) hPm hK hS hAm hl.1 rfl rfl (Nat.le_of_ble_eq_true rfl) dL_law_431 ⟨Nat.le_of_ble_eq_true rfl, Nat.le_of_ble_eq_true rfl⟩ (fun rm Nm H locs h hPm hz1 hk1 hS => ?_)
  have hPx := P_keptX hPx hk1 hdis
  refine lv_icmp_eq (tgt := 1283) hx hb dL_law_434 (by decide) (fun q434 => ?_) (fun q434 => ?_)
  · exact hnext Nx Nm H locs h.2 hPx hPm hS
  · exact absurd h.1 q434
set_option maxHeartbeats 4000000 in
set_option maxRecDepth 100000 in
theorem law_told {p : Program} {e : Env} {s : State} {m : MethodId} {below : List Frame} {meth : Method} {c : Code} (l : Launch) {b L : Nat} {xs : Nat → Int32} {D : va_G} {cI cZ : ClassId} {adx adm : Nat → Nat} {zA zD zR : Nat} (C0 : LCx p s m meth c b L xs D cI cZ adx adm zA zD zR) {Inv : Mem → Mem → Prop} (hst : St_told Inv) (k : Nat) (x3 : Int32) (hx3 : x3 = nI k) (hk : k + 8 ≤ L) (Mx Mm : Mem) (hI : Inv Mx Mm) (H : Heap) (locs : List Loc) (ls : Array Slot) (hl : lv_has ls 4 [(0, .ref b), (1, .ref (adx 0)), (2, .ref (adm 0)), (3, .int x3)]) (hPx : va_P D vwCl (xW cI cZ adx Mx) H) (hPm : va_P D vwCl (mW cI cZ adm Mm) H) (hS : va_S (lwA s) s.heap H locs) (hnext : ∀ (Nx Nm : Mem) (H : Heap) (locs : List Loc), Inv Nx Nm → va_P D vwCl (xW cI cZ adx Nx) H → va_P D vwCl (mW cI cZ adm Nm) H → va_S (lwA s) s.heap H locs → GL p l e s m below meth c b H locs (F0 m 1283 ls [])) : GL p l e s m below meth c b H locs (F0 m 439 ls []) := by
  obtain ⟨⟨hx, hb, hr, hml, hown, hts, hX, hbl, hlocks, hgv⟩, hL, hK, hZ, hN, hDx, hDm, hAx, hAm, hdis⟩ := C0
  have hts : ∀ w ∈ wsL_law, w.before #[Value.ref b] s = true := fun w h => hts w (wsL_law_in w h)
  have hbA : ¬ lwA s b := Nat.not_le.mpr hbl
  refine lv_aload_n hx hb dL_law_439 rfl (lv_at hl 1 rfl) ?_
  refine lv_aload_n hx hb dL_law_440 rfl (lv_at hl 0 rfl) ?_
  refine lv_iload_n hx hb dL_law_441 rfl (lv_at hl 3 rfl) ?_
  refine lv_iconst (v := 1) hx hb dL_law_442 (by decide) ?_
  refine lv_iadd hx hb dL_law_443 ?_
  refine va_sld hx hb hX hbl hbA hS (vp_off hx3 hk hL 1 (by decide)) dL_law_444 ?_
  refine lv_aload_n hx hb dL_law_445 rfl (lv_at hl 0 rfl) ?_
  refine lv_iload_n hx hb dL_law_446 rfl (lv_at hl 3 rfl) ?_
  refine lv_iconst (v := 2) hx hb dL_law_447 (by decide) ?_
  refine lv_iadd hx hb dL_law_448 ?_
  refine va_sld hx hb hX hbl hbA hS (vp_off hx3 hk hL 2 (by decide)) dL_law_449 ?_
  refine lv_aload_n hx hb dL_law_450 rfl (lv_at hl 0 rfl) ?_
  refine lv_iload_n hx hb dL_law_451 rfl (lv_at hl 3 rfl) ?_
  refine lv_iconst (v := 3) hx hb dL_law_452 (by decide) ?_
  refine lv_iadd hx hb dL_law_453 ?_
  refine va_sld hx hb hX hbl hbA hS (vp_off hx3 hk hL 3 (by decide)) dL_law_454 ?_
  have h := hst Mx Mm (xs (x3 + 1).toNatClampNeg) (xs (x3 + 2).toNatClampNeg) (xs (x3 + 3).toNatClampNeg) hI
  refine x_callViF (As := [.int (xs (x3 + 1).toNatClampNeg), .int (xs (x3 + 2).toNatClampNeg), .int (xs (x3 + 3).toNatClampNeg)]) (rest := []) ⟨hx, hb, hml, hown, hts⟩ (kX10_told l D cI cZ adx zA zD zR hDx Mx (xs (x3 + 1).toNatClampNeg) (xs (x3 + 2).toNatClampNeg) (xs (x3 + 3).toNatClampNeg) _ h) (cwV 3 hts (gdV (fun w h => h) (inA_13 _ (List.mem_of_getElem? (i := 1) rfl)) vX10_told) rfl rfl rfl (by decide +kernel) ⟨Nat.le_of_ble_eq_true rfl, Nat.le_of_ble_eq_true rfl⟩) (va_recv hK hPx (ci := 10) (q0 := 0) rfl (xW_0 cI cZ adx Mx)) hPx hK hZ hN hS hAx hl.1 rfl rfl (Nat.le_of_ble_eq_true rfl) dL_law_455 ⟨Nat.le_of_ble_eq_true rfl, Nat.le_of_ble_eq_true rfl⟩ (fun rx Nx H locs h hPx hz1 hk1 hS => ?_)
  have hPm := P_keptM hPm hk1 hdis
  refine lv_aload_n hx hb dL_law_458 rfl (lv_at hl 2 rfl) ?_
  refine lv_aload_n hx hb dL_law_459 rfl (lv_at hl 0 rfl) ?_
  refine lv_iload_n hx hb dL_law_460 rfl (lv_at hl 3 rfl) ?_
  refine lv_iconst (v := 1) hx hb dL_law_461 (by decide) ?_
  refine lv_iadd hx hb dL_law_462 ?_
  refine va_sld hx hb hX hbl hbA hS (vp_off hx3 hk hL 1 (by decide)) dL_law_463 ?_
  refine lv_aload_n hx hb dL_law_464 rfl (lv_at hl 0 rfl) ?_
  refine lv_iload_n hx hb dL_law_465 rfl (lv_at hl 3 rfl) ?_
  refine lv_iconst (v := 2) hx hb dL_law_466 (by decide) ?_
  refine lv_iadd hx hb dL_law_467 ?_
  refine va_sld hx hb hX hbl hbA hS (vp_off hx3 hk hL 2 (by decide)) dL_law_468 ?_
  refine lv_aload_n hx hb dL_law_469 rfl (lv_at hl 0 rfl) ?_
  refine lv_iload_n hx hb dL_law_470 rfl (lv_at hl 3 rfl) ?_
  refine lv_iconst (v := 3) hx hb dL_law_471 (by decide) ?_
  refine lv_iadd hx hb dL_law_472 ?_
  refine va_sld hx hb hX hbl hbA hS (vp_off hx3 hk hL 3 (by decide)) dL_law_473 ?_
  refine m_callViF (As := [.int (xs (x3 + 1).toNatClampNeg), .int (xs (x3 + 2).toNatClampNeg), .int (xs (x3 + 3).toNatClampNeg)]) (rest := [.int rx]) ⟨hx, hb, hml, hown, hts⟩ (kX11_told l D cI cZ adm hDm Mm (xs (x3 + 1).toNatClampNeg) (xs (x3 + 2).toNatClampNeg) (xs (x3 + 3).toNatClampNeg) _ h) (cwV 3 hts (gdV (fun w h => h) (inA_13 _ (List.mem_of_getElem? (i := 7) rfl)) vX11_told) rfl rfl rfl (by decide +kernel) ⟨Nat.le_of_ble_eq_true rfl, Nat.le_of_ble_eq_true rfl⟩) (va_recv hK hPm (ci := 11) (q0 := 0) rfl (mW_0 cI cZ adm Mm)) hPm hK hS hAm hl.1 rfl rfl (Nat.le_of_ble_eq_true rfl) dL_law_474 ⟨Nat.le_of_ble_eq_true rfl, Nat.le_of_ble_eq_true rfl⟩ (fun rm Nm H locs h hPm hz1 hk1 hS => ?_)
  have hPx := P_keptX hPx hk1 hdis
  refine lv_icmp_eq (tgt := 1283) hx hb dL_law_477 (by decide) (fun q477 => ?_) (fun q477 => ?_)
  · exact hnext Nx Nm H locs h.2 hPx hPm hS
  · exact absurd h.1 q477
set_option maxHeartbeats 4000000 in
set_option maxRecDepth 100000 in
theorem law_rule {p : Program} {e : Env} {s : State} {m : MethodId} {below : List Frame} {meth : Method} {c : Code} (l : Launch) {b L : Nat} {xs : Nat → Int32} {D : va_G} {cI cZ : ClassId} {adx adm : Nat → Nat} {zA zD zR : Nat} (C0 : LCx p s m meth c b L xs D cI cZ adx adm zA zD zR) {Inv : Mem → Mem → Prop} (hst : St_rule Inv) (k : Nat) (x3 : Int32) (hx3 : x3 = nI k) (hk : k + 8 ≤ L) (Mx Mm : Mem) (hI : Inv Mx Mm) (H : Heap) (locs : List Loc) (ls : Array Slot) (hl : lv_has ls 4 [(0, .ref b), (1, .ref (adx 0)), (2, .ref (adm 0)), (3, .int x3)]) (hPx : va_P D vwCl (xW cI cZ adx Mx) H) (hPm : va_P D vwCl (mW cI cZ adm Mm) H) (hS : va_S (lwA s) s.heap H locs) (hnext : ∀ (Nx Nm : Mem) (H : Heap) (locs : List Loc), Inv Nx Nm → va_P D vwCl (xW cI cZ adx Nx) H → va_P D vwCl (mW cI cZ adm Nm) H → va_S (lwA s) s.heap H locs → GL p l e s m below meth c b H locs (F0 m 1283 ls [])) : GL p l e s m below meth c b H locs (F0 m 482 ls []) := by
  obtain ⟨⟨hx, hb, hr, hml, hown, hts, hX, hbl, hlocks, hgv⟩, hL, hK, hZ, hN, hDx, hDm, hAx, hAm, hdis⟩ := C0
  have hts : ∀ w ∈ wsL_law, w.before #[Value.ref b] s = true := fun w h => hts w (wsL_law_in w h)
  have hbA : ¬ lwA s b := Nat.not_le.mpr hbl
  refine lv_aload_n hx hb dL_law_482 rfl (lv_at hl 1 rfl) ?_
  refine lv_aload_n hx hb dL_law_483 rfl (lv_at hl 0 rfl) ?_
  refine lv_iload_n hx hb dL_law_484 rfl (lv_at hl 3 rfl) ?_
  refine lv_iconst (v := 1) hx hb dL_law_485 (by decide) ?_
  refine lv_iadd hx hb dL_law_486 ?_
  refine va_sld hx hb hX hbl hbA hS (vp_off hx3 hk hL 1 (by decide)) dL_law_487 ?_
  refine lv_aload_n hx hb dL_law_488 rfl (lv_at hl 0 rfl) ?_
  refine lv_iload_n hx hb dL_law_489 rfl (lv_at hl 3 rfl) ?_
  refine lv_iconst (v := 2) hx hb dL_law_490 (by decide) ?_
  refine lv_iadd hx hb dL_law_491 ?_
  refine va_sld hx hb hX hbl hbA hS (vp_off hx3 hk hL 2 (by decide)) dL_law_492 ?_
  have h := hst Mx Mm (xs (x3 + 1).toNatClampNeg) (xs (x3 + 2).toNatClampNeg) hI
  refine x_callViF (As := [.int (xs (x3 + 1).toNatClampNeg), .int (xs (x3 + 2).toNatClampNeg)]) (rest := []) ⟨hx, hb, hml, hown, hts⟩ (kX10_rule l D cI cZ adx zA zD zR hDx Mx (xs (x3 + 1).toNatClampNeg) (xs (x3 + 2).toNatClampNeg) _ h) (cwV 2 hts (gdV (fun w h => h) (inA_13 _ (List.mem_of_getElem? (i := 19) rfl)) vX10_rule) rfl rfl rfl (by decide +kernel) ⟨Nat.le_of_ble_eq_true rfl, Nat.le_of_ble_eq_true rfl⟩) (va_recv hK hPx (ci := 10) (q0 := 0) rfl (xW_0 cI cZ adx Mx)) hPx hK hZ hN hS hAx hl.1 rfl rfl (Nat.le_of_ble_eq_true rfl) dL_law_493 ⟨Nat.le_of_ble_eq_true rfl, Nat.le_of_ble_eq_true rfl⟩ (fun rx Nx H locs h hPx hz1 hk1 hS => ?_)
  have hPm := P_keptM hPm hk1 hdis
  refine lv_aload_n hx hb dL_law_496 rfl (lv_at hl 2 rfl) ?_
  refine lv_aload_n hx hb dL_law_497 rfl (lv_at hl 0 rfl) ?_
  refine lv_iload_n hx hb dL_law_498 rfl (lv_at hl 3 rfl) ?_
  refine lv_iconst (v := 1) hx hb dL_law_499 (by decide) ?_
  refine lv_iadd hx hb dL_law_500 ?_
  refine va_sld hx hb hX hbl hbA hS (vp_off hx3 hk hL 1 (by decide)) dL_law_501 ?_
  refine lv_aload_n hx hb dL_law_502 rfl (lv_at hl 0 rfl) ?_
  refine lv_iload_n hx hb dL_law_503 rfl (lv_at hl 3 rfl) ?_
  refine lv_iconst (v := 2) hx hb dL_law_504 (by decide) ?_
  refine lv_iadd hx hb dL_law_505 ?_
  refine va_sld hx hb hX hbl hbA hS (vp_off hx3 hk hL 2 (by decide)) dL_law_506 ?_
  refine m_callViF (As := [.int (xs (x3 + 1).toNatClampNeg), .int (xs (x3 + 2).toNatClampNeg)]) (rest := [.int rx]) ⟨hx, hb, hml, hown, hts⟩ (kX11_rule l D cI cZ adm hDm Mm (xs (x3 + 1).toNatClampNeg) (xs (x3 + 2).toNatClampNeg) _ h) (cwV 2 hts (gdV (fun w h => h) (inA_14 _ (List.mem_of_getElem? (i := 0) rfl)) vX11_rule) rfl rfl rfl (by decide +kernel) ⟨Nat.le_of_ble_eq_true rfl, Nat.le_of_ble_eq_true rfl⟩) (va_recv hK hPm (ci := 11) (q0 := 0) rfl (mW_0 cI cZ adm Mm)) hPm hK hS hAm hl.1 rfl rfl (Nat.le_of_ble_eq_true rfl) dL_law_507 ⟨Nat.le_of_ble_eq_true rfl, Nat.le_of_ble_eq_true rfl⟩ (fun rm Nm H locs h hPm hz1 hk1 hS => ?_)
  have hPx := P_keptX hPx hk1 hdis
  refine lv_icmp_eq (tgt := 1283) hx hb dL_law_510 (by decide) (fun q510 => ?_) (fun q510 => ?_)
  · exact hnext Nx Nm H locs h.2 hPx hPm hS
  · exact absurd h.1 q510
set_option maxHeartbeats 4000000 in
set_option maxRecDepth 100000 in
theorem law_many {p : Program} {e : Env} {s : State} {m : MethodId} {below : List Frame} {meth : Method} {c : Code} (l : Launch) {b L : Nat} {xs : Nat → Int32} {D : va_G} {cI cZ : ClassId} {adx adm : Nat → Nat} {zA zD zR : Nat} (C0 : LCx p s m meth c b L xs D cI cZ adx adm zA zD zR) {Inv : Mem → Mem → Prop} (hst : St_many Inv) (k : Nat) (x3 : Int32) (hx3 : x3 = nI k) (hk : k + 8 ≤ L) (Mx Mm : Mem) (hI : Inv Mx Mm) (H : Heap) (locs : List Loc) (ls : Array Slot) (hl : lv_has ls 4 [(0, .ref b), (1, .ref (adx 0)), (2, .ref (adm 0)), (3, .int x3)]) (hPx : va_P D vwCl (xW cI cZ adx Mx) H) (hPm : va_P D vwCl (mW cI cZ adm Mm) H) (hS : va_S (lwA s) s.heap H locs) (hnext : ∀ (Nx Nm : Mem) (H : Heap) (locs : List Loc), Inv Nx Nm → va_P D vwCl (xW cI cZ adx Nx) H → va_P D vwCl (mW cI cZ adm Nm) H → va_S (lwA s) s.heap H locs → GL p l e s m below meth c b H locs (F0 m 1283 ls [])) : GL p l e s m below meth c b H locs (F0 m 515 ls []) := by
  obtain ⟨⟨hx, hb, hr, hml, hown, hts, hX, hbl, hlocks, hgv⟩, hL, hK, hZ, hN, hDx, hDm, hAx, hAm, hdis⟩ := C0
  have hts : ∀ w ∈ wsL_law, w.before #[Value.ref b] s = true := fun w h => hts w (wsL_law_in w h)
  have hbA : ¬ lwA s b := Nat.not_le.mpr hbl
  refine lv_aload_n hx hb dL_law_515 rfl (lv_at hl 1 rfl) ?_
  refine lv_aload_n hx hb dL_law_516 rfl (lv_at hl 0 rfl) ?_
  refine lv_iload_n hx hb dL_law_517 rfl (lv_at hl 3 rfl) ?_
  refine lv_iconst (v := 1) hx hb dL_law_518 (by decide) ?_
  refine lv_iadd hx hb dL_law_519 ?_
  refine va_sld hx hb hX hbl hbA hS (vp_off hx3 hk hL 1 (by decide)) dL_law_520 ?_
  have h := hst Mx Mm (xs (x3 + 1).toNatClampNeg) hI
  refine x_callViF (As := [.int (xs (x3 + 1).toNatClampNeg)]) (rest := []) ⟨hx, hb, hml, hown, hts⟩ (kX10_many l D cI cZ adx zA zD zR hDx Mx (xs (x3 + 1).toNatClampNeg) _ h) (cwV 1 hts (gdV (fun w h => h) (inA_14 _ (List.mem_of_getElem? (i := 4) rfl)) vX10_many) rfl rfl rfl (by decide +kernel) ⟨Nat.le_of_ble_eq_true rfl, Nat.le_of_ble_eq_true rfl⟩) (va_recv hK hPx (ci := 10) (q0 := 0) rfl (xW_0 cI cZ adx Mx)) hPx hK hZ hN hS hAx hl.1 rfl rfl (Nat.le_of_ble_eq_true rfl) dL_law_521 ⟨Nat.le_of_ble_eq_true rfl, Nat.le_of_ble_eq_true rfl⟩ (fun rx Nx H locs h hPx hz1 hk1 hS => ?_)
  have hPm := P_keptM hPm hk1 hdis
  refine lv_aload_n hx hb dL_law_524 rfl (lv_at hl 2 rfl) ?_
  refine lv_aload_n hx hb dL_law_525 rfl (lv_at hl 0 rfl) ?_
  refine lv_iload_n hx hb dL_law_526 rfl (lv_at hl 3 rfl) ?_
  refine lv_iconst (v := 1) hx hb dL_law_527 (by decide) ?_
  refine lv_iadd hx hb dL_law_528 ?_
  refine va_sld hx hb hX hbl hbA hS (vp_off hx3 hk hL 1 (by decide)) dL_law_529 ?_
  refine m_callViF (As := [.int (xs (x3 + 1).toNatClampNeg)]) (rest := [.int rx]) ⟨hx, hb, hml, hown, hts⟩ (kX11_many l D cI cZ adm hDm Mm (xs (x3 + 1).toNatClampNeg) _ h) (cwV 1 hts (gdV (fun w h => h) (inA_21 _ (List.mem_of_getElem? (i := 1) rfl)) vX11_many) rfl rfl rfl (by decide +kernel) ⟨Nat.le_of_ble_eq_true rfl, Nat.le_of_ble_eq_true rfl⟩) (va_recv hK hPm (ci := 11) (q0 := 0) rfl (mW_0 cI cZ adm Mm)) hPm hK hS hAm hl.1 rfl rfl (Nat.le_of_ble_eq_true rfl) dL_law_530 ⟨Nat.le_of_ble_eq_true rfl, Nat.le_of_ble_eq_true rfl⟩ (fun rm Nm H locs h hPm hz1 hk1 hS => ?_)
  have hPx := P_keptX hPx hk1 hdis
  refine lv_icmp_eq (tgt := 1283) hx hb dL_law_533 (by decide) (fun q533 => ?_) (fun q533 => ?_)
  · exact hnext Nx Nm H locs h.2 hPx hPm hS
  · exact absurd h.1 q533
set_option maxHeartbeats 4000000 in
set_option maxRecDepth 100000 in
theorem law_cost {p : Program} {e : Env} {s : State} {m : MethodId} {below : List Frame} {meth : Method} {c : Code} (l : Launch) {b L : Nat} {xs : Nat → Int32} {D : va_G} {cI cZ : ClassId} {adx adm : Nat → Nat} {zA zD zR : Nat} (C0 : LCx p s m meth c b L xs D cI cZ adx adm zA zD zR) {Inv : Mem → Mem → Prop} (hst : St_cost Inv) (k : Nat) (x3 : Int32) (hx3 : x3 = nI k) (hk : k + 8 ≤ L) (Mx Mm : Mem) (hI : Inv Mx Mm) (H : Heap) (locs : List Loc) (ls : Array Slot) (hl : lv_has ls 4 [(0, .ref b), (1, .ref (adx 0)), (2, .ref (adm 0)), (3, .int x3)]) (hPx : va_P D vwCl (xW cI cZ adx Mx) H) (hPm : va_P D vwCl (mW cI cZ adm Mm) H) (hS : va_S (lwA s) s.heap H locs) (hnext : ∀ (Nx Nm : Mem) (H : Heap) (locs : List Loc), Inv Nx Nm → va_P D vwCl (xW cI cZ adx Nx) H → va_P D vwCl (mW cI cZ adm Nm) H → va_S (lwA s) s.heap H locs → GL p l e s m below meth c b H locs (F0 m 1283 ls [])) : GL p l e s m below meth c b H locs (F0 m 538 ls []) := by
  obtain ⟨⟨hx, hb, hr, hml, hown, hts, hX, hbl, hlocks, hgv⟩, hL, hK, hZ, hN, hDx, hDm, hAx, hAm, hdis⟩ := C0
  have hts : ∀ w ∈ wsL_law, w.before #[Value.ref b] s = true := fun w h => hts w (wsL_law_in w h)
  have hbA : ¬ lwA s b := Nat.not_le.mpr hbl
  refine lv_aload_n hx hb dL_law_538 rfl (lv_at hl 1 rfl) ?_
  refine lv_aload_n hx hb dL_law_539 rfl (lv_at hl 0 rfl) ?_
  refine lv_iload_n hx hb dL_law_540 rfl (lv_at hl 3 rfl) ?_
  refine lv_iconst (v := 1) hx hb dL_law_541 (by decide) ?_
  refine lv_iadd hx hb dL_law_542 ?_
  refine va_sld hx hb hX hbl hbA hS (vp_off hx3 hk hL 1 (by decide)) dL_law_543 ?_
  refine lv_aload_n hx hb dL_law_544 rfl (lv_at hl 0 rfl) ?_
  refine lv_iload_n hx hb dL_law_545 rfl (lv_at hl 3 rfl) ?_
  refine lv_iconst (v := 2) hx hb dL_law_546 (by decide) ?_
  refine lv_iadd hx hb dL_law_547 ?_
  refine va_sld hx hb hX hbl hbA hS (vp_off hx3 hk hL 2 (by decide)) dL_law_548 ?_
  refine lv_aload_n hx hb dL_law_549 rfl (lv_at hl 0 rfl) ?_
  refine lv_iload_n hx hb dL_law_550 rfl (lv_at hl 3 rfl) ?_
  refine lv_iconst (v := 3) hx hb dL_law_551 (by decide) ?_
  refine lv_iadd hx hb dL_law_552 ?_
  refine va_sld hx hb hX hbl hbA hS (vp_off hx3 hk hL 3 (by decide)) dL_law_553 ?_
  have h := hst Mx Mm (xs (x3 + 1).toNatClampNeg) (xs (x3 + 2).toNatClampNeg) (xs (x3 + 3).toNatClampNeg) hI
  refine x_callViF (As := [.int (xs (x3 + 1).toNatClampNeg), .int (xs (x3 + 2).toNatClampNeg), .int (xs (x3 + 3).toNatClampNeg)]) (rest := []) ⟨hx, hb, hml, hown, hts⟩ (kX10_cost l D cI cZ adx zA zD zR hDx Mx (xs (x3 + 1).toNatClampNeg) (xs (x3 + 2).toNatClampNeg) (xs (x3 + 3).toNatClampNeg) _ h) (cwV 3 hts (gdV (fun w h => h) (inA_24 _ (List.mem_of_getElem? (i := 7) rfl)) vX10_cost) rfl rfl rfl (by decide +kernel) ⟨Nat.le_of_ble_eq_true rfl, Nat.le_of_ble_eq_true rfl⟩) (va_recv hK hPx (ci := 10) (q0 := 0) rfl (xW_0 cI cZ adx Mx)) hPx hK hZ hN hS hAx hl.1 rfl rfl (Nat.le_of_ble_eq_true rfl) dL_law_554 ⟨Nat.le_of_ble_eq_true rfl, Nat.le_of_ble_eq_true rfl⟩ (fun rx Nx H locs h hPx hz1 hk1 hS => ?_)
  have hPm := P_keptM hPm hk1 hdis
  refine lv_aload_n hx hb dL_law_557 rfl (lv_at hl 2 rfl) ?_
  refine lv_aload_n hx hb dL_law_558 rfl (lv_at hl 0 rfl) ?_
  refine lv_iload_n hx hb dL_law_559 rfl (lv_at hl 3 rfl) ?_
  refine lv_iconst (v := 1) hx hb dL_law_560 (by decide) ?_
  refine lv_iadd hx hb dL_law_561 ?_
  refine va_sld hx hb hX hbl hbA hS (vp_off hx3 hk hL 1 (by decide)) dL_law_562 ?_
  refine lv_aload_n hx hb dL_law_563 rfl (lv_at hl 0 rfl) ?_
  refine lv_iload_n hx hb dL_law_564 rfl (lv_at hl 3 rfl) ?_
  refine lv_iconst (v := 2) hx hb dL_law_565 (by decide) ?_
  refine lv_iadd hx hb dL_law_566 ?_
  refine va_sld hx hb hX hbl hbA hS (vp_off hx3 hk hL 2 (by decide)) dL_law_567 ?_
  refine lv_aload_n hx hb dL_law_568 rfl (lv_at hl 0 rfl) ?_
  refine lv_iload_n hx hb dL_law_569 rfl (lv_at hl 3 rfl) ?_
  refine lv_iconst (v := 3) hx hb dL_law_570 (by decide) ?_
  refine lv_iadd hx hb dL_law_571 ?_
  refine va_sld hx hb hX hbl hbA hS (vp_off hx3 hk hL 3 (by decide)) dL_law_572 ?_
  refine m_callViF (As := [.int (xs (x3 + 1).toNatClampNeg), .int (xs (x3 + 2).toNatClampNeg), .int (xs (x3 + 3).toNatClampNeg)]) (rest := [.int rx]) ⟨hx, hb, hml, hown, hts⟩ (kX11_cost l D cI cZ adm hDm Mm (xs (x3 + 1).toNatClampNeg) (xs (x3 + 2).toNatClampNeg) (xs (x3 + 3).toNatClampNeg) _ h) (cwV 3 hts (gdV (fun w h => h) (inA_24 _ (List.mem_of_getElem? (i := 16) rfl)) vX11_cost) rfl rfl rfl (by decide +kernel) ⟨Nat.le_of_ble_eq_true rfl, Nat.le_of_ble_eq_true rfl⟩) (va_recv hK hPm (ci := 11) (q0 := 0) rfl (mW_0 cI cZ adm Mm)) hPm hK hS hAm hl.1 rfl rfl (Nat.le_of_ble_eq_true rfl) dL_law_573 ⟨Nat.le_of_ble_eq_true rfl, Nat.le_of_ble_eq_true rfl⟩ (fun rm Nm H locs h hPm hz1 hk1 hS => ?_)
  have hPx := P_keptX hPx hk1 hdis
  refine lv_icmp_eq (tgt := 1283) hx hb dL_law_576 (by decide) (fun q576 => ?_) (fun q576 => ?_)
  · exact hnext Nx Nm H locs h.2 hPx hPm hS
  · exact absurd h.1 q576
set_option maxHeartbeats 4000000 in
set_option maxRecDepth 100000 in
theorem law_path {p : Program} {e : Env} {s : State} {m : MethodId} {below : List Frame} {meth : Method} {c : Code} (l : Launch) {b L : Nat} {xs : Nat → Int32} {D : va_G} {cI cZ : ClassId} {adx adm : Nat → Nat} {zA zD zR : Nat} (C0 : LCx p s m meth c b L xs D cI cZ adx adm zA zD zR) {Inv : Mem → Mem → Prop} (hst : St_path Inv) (k : Nat) (x3 : Int32) (hx3 : x3 = nI k) (hk : k + 8 ≤ L) (Mx Mm : Mem) (hI : Inv Mx Mm) (H : Heap) (locs : List Loc) (ls : Array Slot) (hl : lv_has ls 4 [(0, .ref b), (1, .ref (adx 0)), (2, .ref (adm 0)), (3, .int x3)]) (hPx : va_P D vwCl (xW cI cZ adx Mx) H) (hPm : va_P D vwCl (mW cI cZ adm Mm) H) (hS : va_S (lwA s) s.heap H locs) (hnext : ∀ (Nx Nm : Mem) (H : Heap) (locs : List Loc), Inv Nx Nm → va_P D vwCl (xW cI cZ adx Nx) H → va_P D vwCl (mW cI cZ adm Nm) H → va_S (lwA s) s.heap H locs → GL p l e s m below meth c b H locs (F0 m 1283 ls [])) : GL p l e s m below meth c b H locs (F0 m 581 ls []) := by
  obtain ⟨⟨hx, hb, hr, hml, hown, hts, hX, hbl, hlocks, hgv⟩, hL, hK, hZ, hN, hDx, hDm, hAx, hAm, hdis⟩ := C0
  have hts : ∀ w ∈ wsL_law, w.before #[Value.ref b] s = true := fun w h => hts w (wsL_law_in w h)
  have hbA : ¬ lwA s b := Nat.not_le.mpr hbl
  refine lv_aload_n hx hb dL_law_581 rfl (lv_at hl 1 rfl) ?_
  refine lv_aload_n hx hb dL_law_582 rfl (lv_at hl 0 rfl) ?_
  refine lv_iload_n hx hb dL_law_583 rfl (lv_at hl 3 rfl) ?_
  refine lv_iconst (v := 1) hx hb dL_law_584 (by decide) ?_
  refine lv_iadd hx hb dL_law_585 ?_
  refine va_sld hx hb hX hbl hbA hS (vp_off hx3 hk hL 1 (by decide)) dL_law_586 ?_
  have h := hst Mx Mm (xs (x3 + 1).toNatClampNeg) hI
  refine x_callViF (As := [.int (xs (x3 + 1).toNatClampNeg)]) (rest := []) ⟨hx, hb, hml, hown, hts⟩ (kX10_path l D cI cZ adx zA zD zR hDx Mx (xs (x3 + 1).toNatClampNeg) _ h) (cwV 1 hts (gdV (fun w h => h) (inA_25 _ (List.mem_of_getElem? (i := 0) rfl)) vX10_path) rfl rfl rfl (by decide +kernel) ⟨Nat.le_of_ble_eq_true rfl, Nat.le_of_ble_eq_true rfl⟩) (va_recv hK hPx (ci := 10) (q0 := 0) rfl (xW_0 cI cZ adx Mx)) hPx hK hZ hN hS hAx hl.1 rfl rfl (Nat.le_of_ble_eq_true rfl) dL_law_587 ⟨Nat.le_of_ble_eq_true rfl, Nat.le_of_ble_eq_true rfl⟩ (fun rx Nx H locs h hPx hz1 hk1 hS => ?_)
  have hPm := P_keptM hPm hk1 hdis
  refine lv_aload_n hx hb dL_law_590 rfl (lv_at hl 2 rfl) ?_
  refine lv_aload_n hx hb dL_law_591 rfl (lv_at hl 0 rfl) ?_
  refine lv_iload_n hx hb dL_law_592 rfl (lv_at hl 3 rfl) ?_
  refine lv_iconst (v := 1) hx hb dL_law_593 (by decide) ?_
  refine lv_iadd hx hb dL_law_594 ?_
  refine va_sld hx hb hX hbl hbA hS (vp_off hx3 hk hL 1 (by decide)) dL_law_595 ?_
  refine m_callViF (As := [.int (xs (x3 + 1).toNatClampNeg)]) (rest := [.int rx]) ⟨hx, hb, hml, hown, hts⟩ (kX11_path l D cI cZ adm hDm Mm (xs (x3 + 1).toNatClampNeg) _ h) (cwV 1 hts (gdV (fun w h => h) (inA_26 _ (List.mem_of_getElem? (i := 7) rfl)) vX11_path) rfl rfl rfl (by decide +kernel) ⟨Nat.le_of_ble_eq_true rfl, Nat.le_of_ble_eq_true rfl⟩) (va_recv hK hPm (ci := 11) (q0 := 0) rfl (mW_0 cI cZ adm Mm)) hPm hK hS hAm hl.1 rfl rfl (Nat.le_of_ble_eq_true rfl) dL_law_596 ⟨Nat.le_of_ble_eq_true rfl, Nat.le_of_ble_eq_true rfl⟩ (fun rm Nm H locs h hPm hz1 hk1 hS => ?_)
  have hPx := P_keptX hPx hk1 hdis
  refine lv_icmp_eq (tgt := 1283) hx hb dL_law_599 (by decide) (fun q599 => ?_) (fun q599 => ?_)
  · exact hnext Nx Nm H locs h.2 hPx hPm hS
  · exact absurd h.1 q599
set_option maxHeartbeats 4000000 in
set_option maxRecDepth 100000 in
theorem law_matched {p : Program} {e : Env} {s : State} {m : MethodId} {below : List Frame} {meth : Method} {c : Code} (l : Launch) {b L : Nat} {xs : Nat → Int32} {D : va_G} {cI cZ : ClassId} {adx adm : Nat → Nat} {zA zD zR : Nat} (C0 : LCx p s m meth c b L xs D cI cZ adx adm zA zD zR) {Inv : Mem → Mem → Prop} (hst : St_matched Inv) (k : Nat) (x3 : Int32) (hx3 : x3 = nI k) (hk : k + 8 ≤ L) (Mx Mm : Mem) (hI : Inv Mx Mm) (H : Heap) (locs : List Loc) (ls : Array Slot) (hl : lv_has ls 4 [(0, .ref b), (1, .ref (adx 0)), (2, .ref (adm 0)), (3, .int x3)]) (hPx : va_P D vwCl (xW cI cZ adx Mx) H) (hPm : va_P D vwCl (mW cI cZ adm Mm) H) (hS : va_S (lwA s) s.heap H locs) (hnext : ∀ (Nx Nm : Mem) (H : Heap) (locs : List Loc), Inv Nx Nm → va_P D vwCl (xW cI cZ adx Nx) H → va_P D vwCl (mW cI cZ adm Nm) H → va_S (lwA s) s.heap H locs → GL p l e s m below meth c b H locs (F0 m 1283 ls [])) : GL p l e s m below meth c b H locs (F0 m 604 ls []) := by
  obtain ⟨⟨hx, hb, hr, hml, hown, hts, hX, hbl, hlocks, hgv⟩, hL, hK, hZ, hN, hDx, hDm, hAx, hAm, hdis⟩ := C0
  have hts : ∀ w ∈ wsL_law, w.before #[Value.ref b] s = true := fun w h => hts w (wsL_law_in w h)
  have hbA : ¬ lwA s b := Nat.not_le.mpr hbl
  refine lv_aload_n hx hb dL_law_604 rfl (lv_at hl 1 rfl) ?_
  refine lv_aload_n hx hb dL_law_605 rfl (lv_at hl 0 rfl) ?_
  refine lv_iload_n hx hb dL_law_606 rfl (lv_at hl 3 rfl) ?_
  refine lv_iconst (v := 1) hx hb dL_law_607 (by decide) ?_
  refine lv_iadd hx hb dL_law_608 ?_
  refine va_sld hx hb hX hbl hbA hS (vp_off hx3 hk hL 1 (by decide)) dL_law_609 ?_
  refine lv_aload_n hx hb dL_law_610 rfl (lv_at hl 0 rfl) ?_
  refine lv_iload_n hx hb dL_law_611 rfl (lv_at hl 3 rfl) ?_
  refine lv_iconst (v := 2) hx hb dL_law_612 (by decide) ?_
  refine lv_iadd hx hb dL_law_613 ?_
  refine va_sld hx hb hX hbl hbA hS (vp_off hx3 hk hL 2 (by decide)) dL_law_614 ?_
  have h := hst Mx Mm (xs (x3 + 1).toNatClampNeg) (xs (x3 + 2).toNatClampNeg) hI
  refine x_callViF (As := [.int (xs (x3 + 1).toNatClampNeg), .int (xs (x3 + 2).toNatClampNeg)]) (rest := []) ⟨hx, hb, hml, hown, hts⟩ (kX10_matched l D cI cZ adx zA zD zR hDx Mx (xs (x3 + 1).toNatClampNeg) (xs (x3 + 2).toNatClampNeg) _ h) (cwV 2 hts (gdV (fun w h => h) (inA_27 _ (List.mem_of_getElem? (i := 1) rfl)) vX10_matched) rfl rfl rfl (by decide +kernel) ⟨Nat.le_of_ble_eq_true rfl, Nat.le_of_ble_eq_true rfl⟩) (va_recv hK hPx (ci := 10) (q0 := 0) rfl (xW_0 cI cZ adx Mx)) hPx hK hZ hN hS hAx hl.1 rfl rfl (Nat.le_of_ble_eq_true rfl) dL_law_615 ⟨Nat.le_of_ble_eq_true rfl, Nat.le_of_ble_eq_true rfl⟩ (fun rx Nx H locs h hPx hz1 hk1 hS => ?_)
  have hPm := P_keptM hPm hk1 hdis
  refine lv_aload_n hx hb dL_law_618 rfl (lv_at hl 2 rfl) ?_
  refine lv_aload_n hx hb dL_law_619 rfl (lv_at hl 0 rfl) ?_
  refine lv_iload_n hx hb dL_law_620 rfl (lv_at hl 3 rfl) ?_
  refine lv_iconst (v := 1) hx hb dL_law_621 (by decide) ?_
  refine lv_iadd hx hb dL_law_622 ?_
  refine va_sld hx hb hX hbl hbA hS (vp_off hx3 hk hL 1 (by decide)) dL_law_623 ?_
  refine lv_aload_n hx hb dL_law_624 rfl (lv_at hl 0 rfl) ?_
  refine lv_iload_n hx hb dL_law_625 rfl (lv_at hl 3 rfl) ?_
  refine lv_iconst (v := 2) hx hb dL_law_626 (by decide) ?_
  refine lv_iadd hx hb dL_law_627 ?_
  refine va_sld hx hb hX hbl hbA hS (vp_off hx3 hk hL 2 (by decide)) dL_law_628 ?_
  refine m_callViF (As := [.int (xs (x3 + 1).toNatClampNeg), .int (xs (x3 + 2).toNatClampNeg)]) (rest := [.int rx]) ⟨hx, hb, hml, hown, hts⟩ (kX11_matched l D cI cZ adm hDm Mm (xs (x3 + 1).toNatClampNeg) (xs (x3 + 2).toNatClampNeg) _ h) (cwV 2 hts (gdV (fun w h => h) (inA_27 _ (List.mem_of_getElem? (i := 6) rfl)) vX11_matched) rfl rfl rfl (by decide +kernel) ⟨Nat.le_of_ble_eq_true rfl, Nat.le_of_ble_eq_true rfl⟩) (va_recv hK hPm (ci := 11) (q0 := 0) rfl (mW_0 cI cZ adm Mm)) hPm hK hS hAm hl.1 rfl rfl (Nat.le_of_ble_eq_true rfl) dL_law_629 ⟨Nat.le_of_ble_eq_true rfl, Nat.le_of_ble_eq_true rfl⟩ (fun rm Nm H locs h hPm hz1 hk1 hS => ?_)
  have hPx := P_keptX hPx hk1 hdis
  refine lv_icmp_eq (tgt := 1283) hx hb dL_law_632 (by decide) (fun q632 => ?_) (fun q632 => ?_)
  · exact hnext Nx Nm H locs h.2 hPx hPm hS
  · exact absurd h.1 q632
set_option maxHeartbeats 4000000 in
set_option maxRecDepth 100000 in
theorem law_hidden {p : Program} {e : Env} {s : State} {m : MethodId} {below : List Frame} {meth : Method} {c : Code} (l : Launch) {b L : Nat} {xs : Nat → Int32} {D : va_G} {cI cZ : ClassId} {adx adm : Nat → Nat} {zA zD zR : Nat} (C0 : LCx p s m meth c b L xs D cI cZ adx adm zA zD zR) {Inv : Mem → Mem → Prop} (hst : St_hidden Inv) (k : Nat) (x3 : Int32) (hx3 : x3 = nI k) (hk : k + 8 ≤ L) (Mx Mm : Mem) (hI : Inv Mx Mm) (H : Heap) (locs : List Loc) (ls : Array Slot) (hl : lv_has ls 4 [(0, .ref b), (1, .ref (adx 0)), (2, .ref (adm 0)), (3, .int x3)]) (hPx : va_P D vwCl (xW cI cZ adx Mx) H) (hPm : va_P D vwCl (mW cI cZ adm Mm) H) (hS : va_S (lwA s) s.heap H locs) (hnext : ∀ (Nx Nm : Mem) (H : Heap) (locs : List Loc), Inv Nx Nm → va_P D vwCl (xW cI cZ adx Nx) H → va_P D vwCl (mW cI cZ adm Nm) H → va_S (lwA s) s.heap H locs → GL p l e s m below meth c b H locs (F0 m 1283 ls [])) : GL p l e s m below meth c b H locs (F0 m 637 ls []) := by
  obtain ⟨⟨hx, hb, hr, hml, hown, hts, hX, hbl, hlocks, hgv⟩, hL, hK, hZ, hN, hDx, hDm, hAx, hAm, hdis⟩ := C0
  have hts : ∀ w ∈ wsL_law, w.before #[Value.ref b] s = true := fun w h => hts w (wsL_law_in w h)
  have hbA : ¬ lwA s b := Nat.not_le.mpr hbl
  refine lv_aload_n hx hb dL_law_637 rfl (lv_at hl 1 rfl) ?_
  refine lv_aload_n hx hb dL_law_638 rfl (lv_at hl 0 rfl) ?_
  refine lv_iload_n hx hb dL_law_639 rfl (lv_at hl 3 rfl) ?_
  refine lv_iconst (v := 1) hx hb dL_law_640 (by decide) ?_
  refine lv_iadd hx hb dL_law_641 ?_
  refine va_sld hx hb hX hbl hbA hS (vp_off hx3 hk hL 1 (by decide)) dL_law_642 ?_
  refine lv_aload_n hx hb dL_law_643 rfl (lv_at hl 0 rfl) ?_
  refine lv_iload_n hx hb dL_law_644 rfl (lv_at hl 3 rfl) ?_
  refine lv_iconst (v := 2) hx hb dL_law_645 (by decide) ?_
  refine lv_iadd hx hb dL_law_646 ?_
  refine va_sld hx hb hX hbl hbA hS (vp_off hx3 hk hL 2 (by decide)) dL_law_647 ?_
  have h := hst Mx Mm (xs (x3 + 1).toNatClampNeg) (xs (x3 + 2).toNatClampNeg) hI
  refine x_callViF (As := [.int (xs (x3 + 1).toNatClampNeg), .int (xs (x3 + 2).toNatClampNeg)]) (rest := []) ⟨hx, hb, hml, hown, hts⟩ (kX10_hidden l D cI cZ adx zA zD zR hDx Mx (xs (x3 + 1).toNatClampNeg) (xs (x3 + 2).toNatClampNeg) _ h) (cwV 2 hts (gdV (fun w h => h) (inA_27 _ (List.mem_of_getElem? (i := 10) rfl)) vX10_hidden) rfl rfl rfl (by decide +kernel) ⟨Nat.le_of_ble_eq_true rfl, Nat.le_of_ble_eq_true rfl⟩) (va_recv hK hPx (ci := 10) (q0 := 0) rfl (xW_0 cI cZ adx Mx)) hPx hK hZ hN hS hAx hl.1 rfl rfl (Nat.le_of_ble_eq_true rfl) dL_law_648 ⟨Nat.le_of_ble_eq_true rfl, Nat.le_of_ble_eq_true rfl⟩ (fun rx Nx H locs h hPx hz1 hk1 hS => ?_)
  have hPm := P_keptM hPm hk1 hdis
  refine lv_aload_n hx hb dL_law_651 rfl (lv_at hl 2 rfl) ?_
  refine lv_aload_n hx hb dL_law_652 rfl (lv_at hl 0 rfl) ?_
  refine lv_iload_n hx hb dL_law_653 rfl (lv_at hl 3 rfl) ?_
  refine lv_iconst (v := 1) hx hb dL_law_654 (by decide) ?_
  refine lv_iadd hx hb dL_law_655 ?_
  refine va_sld hx hb hX hbl hbA hS (vp_off hx3 hk hL 1 (by decide)) dL_law_656 ?_
  refine lv_aload_n hx hb dL_law_657 rfl (lv_at hl 0 rfl) ?_
  refine lv_iload_n hx hb dL_law_658 rfl (lv_at hl 3 rfl) ?_
  refine lv_iconst (v := 2) hx hb dL_law_659 (by decide) ?_
  refine lv_iadd hx hb dL_law_660 ?_
  refine va_sld hx hb hX hbl hbA hS (vp_off hx3 hk hL 2 (by decide)) dL_law_661 ?_
  refine m_callViF (As := [.int (xs (x3 + 1).toNatClampNeg), .int (xs (x3 + 2).toNatClampNeg)]) (rest := [.int rx]) ⟨hx, hb, hml, hown, hts⟩ (kX11_hidden l D cI cZ adm hDm Mm (xs (x3 + 1).toNatClampNeg) (xs (x3 + 2).toNatClampNeg) _ h) (cwV 2 hts (gdV (fun w h => h) (inA_27 _ (List.mem_of_getElem? (i := 18) rfl)) vX11_hidden) rfl rfl rfl (by decide +kernel) ⟨Nat.le_of_ble_eq_true rfl, Nat.le_of_ble_eq_true rfl⟩) (va_recv hK hPm (ci := 11) (q0 := 0) rfl (mW_0 cI cZ adm Mm)) hPm hK hS hAm hl.1 rfl rfl (Nat.le_of_ble_eq_true rfl) dL_law_662 ⟨Nat.le_of_ble_eq_true rfl, Nat.le_of_ble_eq_true rfl⟩ (fun rm Nm H locs h hPm hz1 hk1 hS => ?_)
  have hPx := P_keptX hPx hk1 hdis
  refine lv_icmp_eq (tgt := 1283) hx hb dL_law_665 (by decide) (fun q665 => ?_) (fun q665 => ?_)
  · exact hnext Nx Nm H locs h.2 hPx hPm hS
  · exact absurd h.1 q665
set_option maxHeartbeats 4000000 in
set_option maxRecDepth 100000 in
theorem law_run {p : Program} {e : Env} {s : State} {m : MethodId} {below : List Frame} {meth : Method} {c : Code} (l : Launch) {b L : Nat} {xs : Nat → Int32} {D : va_G} {cI cZ : ClassId} {adx adm : Nat → Nat} {zA zD zR : Nat} (C0 : LCx p s m meth c b L xs D cI cZ adx adm zA zD zR) {Inv : Mem → Mem → Prop} (hst : St_run Inv) (k : Nat) (x3 : Int32) (hx3 : x3 = nI k) (hk : k + 8 ≤ L) (Mx Mm : Mem) (hI : Inv Mx Mm) (H : Heap) (locs : List Loc) (ls : Array Slot) (hl : lv_has ls 4 [(0, .ref b), (1, .ref (adx 0)), (2, .ref (adm 0)), (3, .int x3)]) (hPx : va_P D vwCl (xW cI cZ adx Mx) H) (hPm : va_P D vwCl (mW cI cZ adm Mm) H) (hS : va_S (lwA s) s.heap H locs) (hnext : ∀ (Nx Nm : Mem) (H : Heap) (locs : List Loc), Inv Nx Nm → va_P D vwCl (xW cI cZ adx Nx) H → va_P D vwCl (mW cI cZ adm Nm) H → va_S (lwA s) s.heap H locs → GL p l e s m below meth c b H locs (F0 m 1283 ls [])) : GL p l e s m below meth c b H locs (F0 m 670 ls []) := by
  obtain ⟨⟨hx, hb, hr, hml, hown, hts, hX, hbl, hlocks, hgv⟩, hL, hK, hZ, hN, hDx, hDm, hAx, hAm, hdis⟩ := C0
  have hts : ∀ w ∈ wsL_law, w.before #[Value.ref b] s = true := fun w h => hts w (wsL_law_in w h)
  have hbA : ¬ lwA s b := Nat.not_le.mpr hbl
  refine lv_aload_n hx hb dL_law_670 rfl (lv_at hl 1 rfl) ?_
  refine lv_aload_n hx hb dL_law_671 rfl (lv_at hl 0 rfl) ?_
  refine lv_iload_n hx hb dL_law_672 rfl (lv_at hl 3 rfl) ?_
  refine lv_iconst (v := 1) hx hb dL_law_673 (by decide) ?_
  refine lv_iadd hx hb dL_law_674 ?_
  refine va_sld hx hb hX hbl hbA hS (vp_off hx3 hk hL 1 (by decide)) dL_law_675 ?_
  refine lv_aload_n hx hb dL_law_676 rfl (lv_at hl 0 rfl) ?_
  refine lv_iload_n hx hb dL_law_677 rfl (lv_at hl 3 rfl) ?_
  refine lv_iconst (v := 2) hx hb dL_law_678 (by decide) ?_
  refine lv_iadd hx hb dL_law_679 ?_
  refine va_sld hx hb hX hbl hbA hS (vp_off hx3 hk hL 2 (by decide)) dL_law_680 ?_
  refine lv_aload_n hx hb dL_law_681 rfl (lv_at hl 0 rfl) ?_
  refine lv_iload_n hx hb dL_law_682 rfl (lv_at hl 3 rfl) ?_
  refine lv_iconst (v := 3) hx hb dL_law_683 (by decide) ?_
  refine lv_iadd hx hb dL_law_684 ?_
  refine va_sld hx hb hX hbl hbA hS (vp_off hx3 hk hL 3 (by decide)) dL_law_685 ?_
  refine lv_aload_n hx hb dL_law_686 rfl (lv_at hl 0 rfl) ?_
  refine lv_iload_n hx hb dL_law_687 rfl (lv_at hl 3 rfl) ?_
  refine lv_iconst (v := 4) hx hb dL_law_688 (by decide) ?_
  refine lv_iadd hx hb dL_law_689 ?_
  refine va_sld hx hb hX hbl hbA hS (vp_off hx3 hk hL 4 (by decide)) dL_law_690 ?_
  have h := hst Mx Mm (xs (x3 + 1).toNatClampNeg) (xs (x3 + 2).toNatClampNeg) (xs (x3 + 3).toNatClampNeg) (xs (x3 + 4).toNatClampNeg) hI
  refine x_callViF (As := [.int (xs (x3 + 1).toNatClampNeg), .int (xs (x3 + 2).toNatClampNeg), .int (xs (x3 + 3).toNatClampNeg), .int (xs (x3 + 4).toNatClampNeg)]) (rest := []) ⟨hx, hb, hml, hown, hts⟩ (kX10_run l D cI cZ adx zA zD zR hDx Mx (xs (x3 + 1).toNatClampNeg) (xs (x3 + 2).toNatClampNeg) (xs (x3 + 3).toNatClampNeg) (xs (x3 + 4).toNatClampNeg) _ h) (cwV 4 hts (gdV (fun w h => h) (inA_27 _ (List.mem_of_getElem? (i := 22) rfl)) vX10_run) rfl rfl rfl (by decide +kernel) ⟨Nat.le_of_ble_eq_true rfl, Nat.le_of_ble_eq_true rfl⟩) (va_recv hK hPx (ci := 10) (q0 := 0) rfl (xW_0 cI cZ adx Mx)) hPx hK hZ hN hS hAx hl.1 rfl rfl (Nat.le_of_ble_eq_true rfl) dL_law_691 ⟨Nat.le_of_ble_eq_true rfl, Nat.le_of_ble_eq_true rfl⟩ (fun rx Nx H locs h hPx hz1 hk1 hS => ?_)
  have hPm := P_keptM hPm hk1 hdis
  refine lv_aload_n hx hb dL_law_694 rfl (lv_at hl 2 rfl) ?_
  refine lv_aload_n hx hb dL_law_695 rfl (lv_at hl 0 rfl) ?_
  refine lv_iload_n hx hb dL_law_696 rfl (lv_at hl 3 rfl) ?_
  refine lv_iconst (v := 1) hx hb dL_law_697 (by decide) ?_
  refine lv_iadd hx hb dL_law_698 ?_
  refine va_sld hx hb hX hbl hbA hS (vp_off hx3 hk hL 1 (by decide)) dL_law_699 ?_
  refine lv_aload_n hx hb dL_law_700 rfl (lv_at hl 0 rfl) ?_
  refine lv_iload_n hx hb dL_law_701 rfl (lv_at hl 3 rfl) ?_
  refine lv_iconst (v := 2) hx hb dL_law_702 (by decide) ?_
  refine lv_iadd hx hb dL_law_703 ?_
  refine va_sld hx hb hX hbl hbA hS (vp_off hx3 hk hL 2 (by decide)) dL_law_704 ?_
  refine lv_aload_n hx hb dL_law_705 rfl (lv_at hl 0 rfl) ?_
  refine lv_iload_n hx hb dL_law_706 rfl (lv_at hl 3 rfl) ?_
  refine lv_iconst (v := 3) hx hb dL_law_707 (by decide) ?_
  refine lv_iadd hx hb dL_law_708 ?_
  refine va_sld hx hb hX hbl hbA hS (vp_off hx3 hk hL 3 (by decide)) dL_law_709 ?_
  refine lv_aload_n hx hb dL_law_710 rfl (lv_at hl 0 rfl) ?_
  refine lv_iload_n hx hb dL_law_711 rfl (lv_at hl 3 rfl) ?_
  refine lv_iconst (v := 4) hx hb dL_law_712 (by decide) ?_
  refine lv_iadd hx hb dL_law_713 ?_
  refine va_sld hx hb hX hbl hbA hS (vp_off hx3 hk hL 4 (by decide)) dL_law_714 ?_
  refine m_callViF (As := [.int (xs (x3 + 1).toNatClampNeg), .int (xs (x3 + 2).toNatClampNeg), .int (xs (x3 + 3).toNatClampNeg), .int (xs (x3 + 4).toNatClampNeg)]) (rest := [.int rx]) ⟨hx, hb, hml, hown, hts⟩ (kX11_run l D cI cZ adm hDm Mm (xs (x3 + 1).toNatClampNeg) (xs (x3 + 2).toNatClampNeg) (xs (x3 + 3).toNatClampNeg) (xs (x3 + 4).toNatClampNeg) _ h) (cwV 4 hts (gdV (fun w h => h) (inA_28 _ (List.mem_of_getElem? (i := 4) rfl)) vX11_run) rfl rfl rfl (by decide +kernel) ⟨Nat.le_of_ble_eq_true rfl, Nat.le_of_ble_eq_true rfl⟩) (va_recv hK hPm (ci := 11) (q0 := 0) rfl (mW_0 cI cZ adm Mm)) hPm hK hS hAm hl.1 rfl rfl (Nat.le_of_ble_eq_true rfl) dL_law_715 ⟨Nat.le_of_ble_eq_true rfl, Nat.le_of_ble_eq_true rfl⟩ (fun rm Nm H locs h hPm hz1 hk1 hS => ?_)
  have hPx := P_keptX hPx hk1 hdis
  refine lv_icmp_eq (tgt := 1283) hx hb dL_law_718 (by decide) (fun q718 => ?_) (fun q718 => ?_)
  · exact hnext Nx Nm H locs h.2 hPx hPm hS
  · exact absurd h.1 q718
set_option maxHeartbeats 4000000 in
set_option maxRecDepth 100000 in
theorem law_sum {p : Program} {e : Env} {s : State} {m : MethodId} {below : List Frame} {meth : Method} {c : Code} (l : Launch) {b L : Nat} {xs : Nat → Int32} {D : va_G} {cI cZ : ClassId} {adx adm : Nat → Nat} {zA zD zR : Nat} (C0 : LCx p s m meth c b L xs D cI cZ adx adm zA zD zR) {Inv : Mem → Mem → Prop} (hst : St_sum Inv) (k : Nat) (x3 : Int32) (hx3 : x3 = nI k) (hk : k + 8 ≤ L) (Mx Mm : Mem) (hI : Inv Mx Mm) (H : Heap) (locs : List Loc) (ls : Array Slot) (hl : lv_has ls 4 [(0, .ref b), (1, .ref (adx 0)), (2, .ref (adm 0)), (3, .int x3)]) (hPx : va_P D vwCl (xW cI cZ adx Mx) H) (hPm : va_P D vwCl (mW cI cZ adm Mm) H) (hS : va_S (lwA s) s.heap H locs) (hnext : ∀ (Nx Nm : Mem) (H : Heap) (locs : List Loc), Inv Nx Nm → va_P D vwCl (xW cI cZ adx Nx) H → va_P D vwCl (mW cI cZ adm Nm) H → va_S (lwA s) s.heap H locs → GL p l e s m below meth c b H locs (F0 m 1283 ls [])) : GL p l e s m below meth c b H locs (F0 m 723 ls []) := by
  obtain ⟨⟨hx, hb, hr, hml, hown, hts, hX, hbl, hlocks, hgv⟩, hL, hK, hZ, hN, hDx, hDm, hAx, hAm, hdis⟩ := C0
  have hts : ∀ w ∈ wsL_law, w.before #[Value.ref b] s = true := fun w h => hts w (wsL_law_in w h)
  have hbA : ¬ lwA s b := Nat.not_le.mpr hbl
  refine lv_aload_n hx hb dL_law_723 rfl (lv_at hl 1 rfl) ?_
  refine lv_aload_n hx hb dL_law_724 rfl (lv_at hl 0 rfl) ?_
  refine lv_iload_n hx hb dL_law_725 rfl (lv_at hl 3 rfl) ?_
  refine lv_iconst (v := 1) hx hb dL_law_726 (by decide) ?_
  refine lv_iadd hx hb dL_law_727 ?_
  refine va_sld hx hb hX hbl hbA hS (vp_off hx3 hk hL 1 (by decide)) dL_law_728 ?_
  refine lv_aload_n hx hb dL_law_729 rfl (lv_at hl 0 rfl) ?_
  refine lv_iload_n hx hb dL_law_730 rfl (lv_at hl 3 rfl) ?_
  refine lv_iconst (v := 2) hx hb dL_law_731 (by decide) ?_
  refine lv_iadd hx hb dL_law_732 ?_
  refine va_sld hx hb hX hbl hbA hS (vp_off hx3 hk hL 2 (by decide)) dL_law_733 ?_
  refine lv_aload_n hx hb dL_law_734 rfl (lv_at hl 0 rfl) ?_
  refine lv_iload_n hx hb dL_law_735 rfl (lv_at hl 3 rfl) ?_
  refine lv_iconst (v := 3) hx hb dL_law_736 (by decide) ?_
  refine lv_iadd hx hb dL_law_737 ?_
  refine va_sld hx hb hX hbl hbA hS (vp_off hx3 hk hL 3 (by decide)) dL_law_738 ?_
  have h := hst Mx Mm (xs (x3 + 1).toNatClampNeg) (xs (x3 + 2).toNatClampNeg) (xs (x3 + 3).toNatClampNeg) hI
  refine x_callViF (As := [.int (xs (x3 + 1).toNatClampNeg), .int (xs (x3 + 2).toNatClampNeg), .int (xs (x3 + 3).toNatClampNeg)]) (rest := []) ⟨hx, hb, hml, hown, hts⟩ (kX10_sum l D cI cZ adx zA zD zR hDx Mx (xs (x3 + 1).toNatClampNeg) (xs (x3 + 2).toNatClampNeg) (xs (x3 + 3).toNatClampNeg) _ h) (cwV 3 hts (gdV (fun w h => h) (inA_28 _ (List.mem_of_getElem? (i := 8) rfl)) vX10_sum) rfl rfl rfl (by decide +kernel) ⟨Nat.le_of_ble_eq_true rfl, Nat.le_of_ble_eq_true rfl⟩) (va_recv hK hPx (ci := 10) (q0 := 0) rfl (xW_0 cI cZ adx Mx)) hPx hK hZ hN hS hAx hl.1 rfl rfl (Nat.le_of_ble_eq_true rfl) dL_law_739 ⟨Nat.le_of_ble_eq_true rfl, Nat.le_of_ble_eq_true rfl⟩ (fun rx Nx H locs h hPx hz1 hk1 hS => ?_)
  have hPm := P_keptM hPm hk1 hdis
  refine lv_aload_n hx hb dL_law_742 rfl (lv_at hl 2 rfl) ?_
  refine lv_aload_n hx hb dL_law_743 rfl (lv_at hl 0 rfl) ?_
  refine lv_iload_n hx hb dL_law_744 rfl (lv_at hl 3 rfl) ?_
  refine lv_iconst (v := 1) hx hb dL_law_745 (by decide) ?_
  refine lv_iadd hx hb dL_law_746 ?_
  refine va_sld hx hb hX hbl hbA hS (vp_off hx3 hk hL 1 (by decide)) dL_law_747 ?_
  refine lv_aload_n hx hb dL_law_748 rfl (lv_at hl 0 rfl) ?_
  refine lv_iload_n hx hb dL_law_749 rfl (lv_at hl 3 rfl) ?_
  refine lv_iconst (v := 2) hx hb dL_law_750 (by decide) ?_
  refine lv_iadd hx hb dL_law_751 ?_
  refine va_sld hx hb hX hbl hbA hS (vp_off hx3 hk hL 2 (by decide)) dL_law_752 ?_
  refine lv_aload_n hx hb dL_law_753 rfl (lv_at hl 0 rfl) ?_
  refine lv_iload_n hx hb dL_law_754 rfl (lv_at hl 3 rfl) ?_
  refine lv_iconst (v := 3) hx hb dL_law_755 (by decide) ?_
  refine lv_iadd hx hb dL_law_756 ?_
  refine va_sld hx hb hX hbl hbA hS (vp_off hx3 hk hL 3 (by decide)) dL_law_757 ?_
  refine m_callViF (As := [.int (xs (x3 + 1).toNatClampNeg), .int (xs (x3 + 2).toNatClampNeg), .int (xs (x3 + 3).toNatClampNeg)]) (rest := [.int rx]) ⟨hx, hb, hml, hown, hts⟩ (kX11_sum l D cI cZ adm hDm Mm (xs (x3 + 1).toNatClampNeg) (xs (x3 + 2).toNatClampNeg) (xs (x3 + 3).toNatClampNeg) _ h) (cwV 3 hts (gdV (fun w h => h) (inA_28 _ (List.mem_of_getElem? (i := 13) rfl)) vX11_sum) rfl rfl rfl (by decide +kernel) ⟨Nat.le_of_ble_eq_true rfl, Nat.le_of_ble_eq_true rfl⟩) (va_recv hK hPm (ci := 11) (q0 := 0) rfl (mW_0 cI cZ adm Mm)) hPm hK hS hAm hl.1 rfl rfl (Nat.le_of_ble_eq_true rfl) dL_law_758 ⟨Nat.le_of_ble_eq_true rfl, Nat.le_of_ble_eq_true rfl⟩ (fun rm Nm H locs h hPm hz1 hk1 hS => ?_)
  have hPx := P_keptX hPx hk1 hdis
  refine lv_icmp_eq (tgt := 1283) hx hb dL_law_761 (by decide) (fun q761 => ?_) (fun q761 => ?_)
  · exact hnext Nx Nm H locs h.2 hPx hPm hS
  · exact absurd h.1 q761
set_option maxHeartbeats 4000000 in
set_option maxRecDepth 100000 in
theorem law_depth {p : Program} {e : Env} {s : State} {m : MethodId} {below : List Frame} {meth : Method} {c : Code} (l : Launch) {b L : Nat} {xs : Nat → Int32} {D : va_G} {cI cZ : ClassId} {adx adm : Nat → Nat} {zA zD zR : Nat} (C0 : LCx p s m meth c b L xs D cI cZ adx adm zA zD zR) {Inv : Mem → Mem → Prop} (hst : St_depth Inv) (k : Nat) (x3 : Int32) (hx3 : x3 = nI k) (hk : k + 8 ≤ L) (Mx Mm : Mem) (hI : Inv Mx Mm) (H : Heap) (locs : List Loc) (ls : Array Slot) (hl : lv_has ls 4 [(0, .ref b), (1, .ref (adx 0)), (2, .ref (adm 0)), (3, .int x3)]) (hPx : va_P D vwCl (xW cI cZ adx Mx) H) (hPm : va_P D vwCl (mW cI cZ adm Mm) H) (hS : va_S (lwA s) s.heap H locs) (hnext : ∀ (Nx Nm : Mem) (H : Heap) (locs : List Loc), Inv Nx Nm → va_P D vwCl (xW cI cZ adx Nx) H → va_P D vwCl (mW cI cZ adm Nm) H → va_S (lwA s) s.heap H locs → GL p l e s m below meth c b H locs (F0 m 1283 ls [])) : GL p l e s m below meth c b H locs (F0 m 766 ls []) := by
  obtain ⟨⟨hx, hb, hr, hml, hown, hts, hX, hbl, hlocks, hgv⟩, hL, hK, hZ, hN, hDx, hDm, hAx, hAm, hdis⟩ := C0
  have hts : ∀ w ∈ wsL_law, w.before #[Value.ref b] s = true := fun w h => hts w (wsL_law_in w h)
  have hbA : ¬ lwA s b := Nat.not_le.mpr hbl
  refine lv_aload_n hx hb dL_law_766 rfl (lv_at hl 1 rfl) ?_
  refine lv_aload_n hx hb dL_law_767 rfl (lv_at hl 0 rfl) ?_
  refine lv_iload_n hx hb dL_law_768 rfl (lv_at hl 3 rfl) ?_
  refine lv_iconst (v := 1) hx hb dL_law_769 (by decide) ?_
  refine lv_iadd hx hb dL_law_770 ?_
  refine va_sld hx hb hX hbl hbA hS (vp_off hx3 hk hL 1 (by decide)) dL_law_771 ?_
  refine lv_aload_n hx hb dL_law_772 rfl (lv_at hl 0 rfl) ?_
  refine lv_iload_n hx hb dL_law_773 rfl (lv_at hl 3 rfl) ?_
  refine lv_iconst (v := 2) hx hb dL_law_774 (by decide) ?_
  refine lv_iadd hx hb dL_law_775 ?_
  refine va_sld hx hb hX hbl hbA hS (vp_off hx3 hk hL 2 (by decide)) dL_law_776 ?_
  refine lv_aload_n hx hb dL_law_777 rfl (lv_at hl 0 rfl) ?_
  refine lv_iload_n hx hb dL_law_778 rfl (lv_at hl 3 rfl) ?_
  refine lv_iconst (v := 3) hx hb dL_law_779 (by decide) ?_
  refine lv_iadd hx hb dL_law_780 ?_
  refine va_sld hx hb hX hbl hbA hS (vp_off hx3 hk hL 3 (by decide)) dL_law_781 ?_
  have h := hst Mx Mm (xs (x3 + 1).toNatClampNeg) (xs (x3 + 2).toNatClampNeg) (xs (x3 + 3).toNatClampNeg) hI
  refine x_callViF (As := [.int (xs (x3 + 1).toNatClampNeg), .int (xs (x3 + 2).toNatClampNeg), .int (xs (x3 + 3).toNatClampNeg)]) (rest := []) ⟨hx, hb, hml, hown, hts⟩ (kX10_depth l D cI cZ adx zA zD zR hDx Mx (xs (x3 + 1).toNatClampNeg) (xs (x3 + 2).toNatClampNeg) (xs (x3 + 3).toNatClampNeg) _ h) (cwV 3 hts (gdV (fun w h => h) (inA_28 _ (List.mem_of_getElem? (i := 17) rfl)) vX10_depth) rfl rfl rfl (by decide +kernel) ⟨Nat.le_of_ble_eq_true rfl, Nat.le_of_ble_eq_true rfl⟩) (va_recv hK hPx (ci := 10) (q0 := 0) rfl (xW_0 cI cZ adx Mx)) hPx hK hZ hN hS hAx hl.1 rfl rfl (Nat.le_of_ble_eq_true rfl) dL_law_782 ⟨Nat.le_of_ble_eq_true rfl, Nat.le_of_ble_eq_true rfl⟩ (fun rx Nx H locs h hPx hz1 hk1 hS => ?_)
  have hPm := P_keptM hPm hk1 hdis
  refine lv_aload_n hx hb dL_law_785 rfl (lv_at hl 2 rfl) ?_
  refine lv_aload_n hx hb dL_law_786 rfl (lv_at hl 0 rfl) ?_
  refine lv_iload_n hx hb dL_law_787 rfl (lv_at hl 3 rfl) ?_
  refine lv_iconst (v := 1) hx hb dL_law_788 (by decide) ?_
  refine lv_iadd hx hb dL_law_789 ?_
  refine va_sld hx hb hX hbl hbA hS (vp_off hx3 hk hL 1 (by decide)) dL_law_790 ?_
  refine lv_aload_n hx hb dL_law_791 rfl (lv_at hl 0 rfl) ?_
  refine lv_iload_n hx hb dL_law_792 rfl (lv_at hl 3 rfl) ?_
  refine lv_iconst (v := 2) hx hb dL_law_793 (by decide) ?_
  refine lv_iadd hx hb dL_law_794 ?_
  refine va_sld hx hb hX hbl hbA hS (vp_off hx3 hk hL 2 (by decide)) dL_law_795 ?_
  refine lv_aload_n hx hb dL_law_796 rfl (lv_at hl 0 rfl) ?_
  refine lv_iload_n hx hb dL_law_797 rfl (lv_at hl 3 rfl) ?_
  refine lv_iconst (v := 3) hx hb dL_law_798 (by decide) ?_
  refine lv_iadd hx hb dL_law_799 ?_
  refine va_sld hx hb hX hbl hbA hS (vp_off hx3 hk hL 3 (by decide)) dL_law_800 ?_
  refine m_callViF (As := [.int (xs (x3 + 1).toNatClampNeg), .int (xs (x3 + 2).toNatClampNeg), .int (xs (x3 + 3).toNatClampNeg)]) (rest := [.int rx]) ⟨hx, hb, hml, hown, hts⟩ (kX11_depth l D cI cZ adm hDm Mm (xs (x3 + 1).toNatClampNeg) (xs (x3 + 2).toNatClampNeg) (xs (x3 + 3).toNatClampNeg) _ h) (cwV 3 hts (gdV (fun w h => h) (inA_29 _ (List.mem_of_getElem? (i := 0) rfl)) vX11_depth) rfl rfl rfl (by decide +kernel) ⟨Nat.le_of_ble_eq_true rfl, Nat.le_of_ble_eq_true rfl⟩) (va_recv hK hPm (ci := 11) (q0 := 0) rfl (mW_0 cI cZ adm Mm)) hPm hK hS hAm hl.1 rfl rfl (Nat.le_of_ble_eq_true rfl) dL_law_801 ⟨Nat.le_of_ble_eq_true rfl, Nat.le_of_ble_eq_true rfl⟩ (fun rm Nm H locs h hPm hz1 hk1 hS => ?_)
  have hPx := P_keptX hPx hk1 hdis
  refine lv_icmp_eq (tgt := 1283) hx hb dL_law_804 (by decide) (fun q804 => ?_) (fun q804 => ?_)
  · exact hnext Nx Nm H locs h.2 hPx hPm hS
  · exact absurd h.1 q804
set_option maxHeartbeats 4000000 in
set_option maxRecDepth 100000 in
theorem law_agreed {p : Program} {e : Env} {s : State} {m : MethodId} {below : List Frame} {meth : Method} {c : Code} (l : Launch) {b L : Nat} {xs : Nat → Int32} {D : va_G} {cI cZ : ClassId} {adx adm : Nat → Nat} {zA zD zR : Nat} (C0 : LCx p s m meth c b L xs D cI cZ adx adm zA zD zR) {Inv : Mem → Mem → Prop} (hst : St_agreed Inv) (k : Nat) (x3 : Int32) (hx3 : x3 = nI k) (hk : k + 8 ≤ L) (Mx Mm : Mem) (hI : Inv Mx Mm) (H : Heap) (locs : List Loc) (ls : Array Slot) (hl : lv_has ls 4 [(0, .ref b), (1, .ref (adx 0)), (2, .ref (adm 0)), (3, .int x3)]) (hPx : va_P D vwCl (xW cI cZ adx Mx) H) (hPm : va_P D vwCl (mW cI cZ adm Mm) H) (hS : va_S (lwA s) s.heap H locs) (hnext : ∀ (Nx Nm : Mem) (H : Heap) (locs : List Loc), Inv Nx Nm → va_P D vwCl (xW cI cZ adx Nx) H → va_P D vwCl (mW cI cZ adm Nm) H → va_S (lwA s) s.heap H locs → GL p l e s m below meth c b H locs (F0 m 1283 ls [])) : GL p l e s m below meth c b H locs (F0 m 809 ls []) := by
  obtain ⟨⟨hx, hb, hr, hml, hown, hts, hX, hbl, hlocks, hgv⟩, hL, hK, hZ, hN, hDx, hDm, hAx, hAm, hdis⟩ := C0
  have hts : ∀ w ∈ wsL_law, w.before #[Value.ref b] s = true := fun w h => hts w (wsL_law_in w h)
  have hbA : ¬ lwA s b := Nat.not_le.mpr hbl
  refine lv_aload_n hx hb dL_law_809 rfl (lv_at hl 1 rfl) ?_
  refine lv_aload_n hx hb dL_law_810 rfl (lv_at hl 0 rfl) ?_
  refine lv_iload_n hx hb dL_law_811 rfl (lv_at hl 3 rfl) ?_
  refine lv_iconst (v := 1) hx hb dL_law_812 (by decide) ?_
  refine lv_iadd hx hb dL_law_813 ?_
  refine va_sld hx hb hX hbl hbA hS (vp_off hx3 hk hL 1 (by decide)) dL_law_814 ?_
  refine lv_aload_n hx hb dL_law_815 rfl (lv_at hl 0 rfl) ?_
  refine lv_iload_n hx hb dL_law_816 rfl (lv_at hl 3 rfl) ?_
  refine lv_iconst (v := 2) hx hb dL_law_817 (by decide) ?_
  refine lv_iadd hx hb dL_law_818 ?_
  refine va_sld hx hb hX hbl hbA hS (vp_off hx3 hk hL 2 (by decide)) dL_law_819 ?_
  have h := hst Mx Mm (xs (x3 + 1).toNatClampNeg) (xs (x3 + 2).toNatClampNeg) hI
  refine x_callViF (As := [.int (xs (x3 + 1).toNatClampNeg), .int (xs (x3 + 2).toNatClampNeg)]) (rest := []) ⟨hx, hb, hml, hown, hts⟩ (kX10_agreed l D cI cZ adx zA zD zR hDx Mx (xs (x3 + 1).toNatClampNeg) (xs (x3 + 2).toNatClampNeg) _ h) (cwV 2 hts (gdV (fun w h => h) (inA_29 _ (List.mem_of_getElem? (i := 4) rfl)) vX10_agreed) rfl rfl rfl (by decide +kernel) ⟨Nat.le_of_ble_eq_true rfl, Nat.le_of_ble_eq_true rfl⟩) (va_recv hK hPx (ci := 10) (q0 := 0) rfl (xW_0 cI cZ adx Mx)) hPx hK hZ hN hS hAx hl.1 rfl rfl (Nat.le_of_ble_eq_true rfl) dL_law_820 ⟨Nat.le_of_ble_eq_true rfl, Nat.le_of_ble_eq_true rfl⟩ (fun rx Nx H locs h hPx hz1 hk1 hS => ?_)
  have hPm := P_keptM hPm hk1 hdis
  refine lv_aload_n hx hb dL_law_823 rfl (lv_at hl 2 rfl) ?_
  refine lv_aload_n hx hb dL_law_824 rfl (lv_at hl 0 rfl) ?_
  refine lv_iload_n hx hb dL_law_825 rfl (lv_at hl 3 rfl) ?_
  refine lv_iconst (v := 1) hx hb dL_law_826 (by decide) ?_
  refine lv_iadd hx hb dL_law_827 ?_
  refine va_sld hx hb hX hbl hbA hS (vp_off hx3 hk hL 1 (by decide)) dL_law_828 ?_
  refine lv_aload_n hx hb dL_law_829 rfl (lv_at hl 0 rfl) ?_
  refine lv_iload_n hx hb dL_law_830 rfl (lv_at hl 3 rfl) ?_
  refine lv_iconst (v := 2) hx hb dL_law_831 (by decide) ?_
  refine lv_iadd hx hb dL_law_832 ?_
  refine va_sld hx hb hX hbl hbA hS (vp_off hx3 hk hL 2 (by decide)) dL_law_833 ?_
  refine m_callViF (As := [.int (xs (x3 + 1).toNatClampNeg), .int (xs (x3 + 2).toNatClampNeg)]) (rest := [.int rx]) ⟨hx, hb, hml, hown, hts⟩ (kX11_agreed l D cI cZ adm hDm Mm (xs (x3 + 1).toNatClampNeg) (xs (x3 + 2).toNatClampNeg) _ h) (cwV 2 hts (gdV (fun w h => h) (inA_29 _ (List.mem_of_getElem? (i := 9) rfl)) vX11_agreed) rfl rfl rfl (by decide +kernel) ⟨Nat.le_of_ble_eq_true rfl, Nat.le_of_ble_eq_true rfl⟩) (va_recv hK hPm (ci := 11) (q0 := 0) rfl (mW_0 cI cZ adm Mm)) hPm hK hS hAm hl.1 rfl rfl (Nat.le_of_ble_eq_true rfl) dL_law_834 ⟨Nat.le_of_ble_eq_true rfl, Nat.le_of_ble_eq_true rfl⟩ (fun rm Nm H locs h hPm hz1 hk1 hS => ?_)
  have hPx := P_keptX hPx hk1 hdis
  refine lv_icmp_eq (tgt := 1283) hx hb dL_law_837 (by decide) (fun q837 => ?_) (fun q837 => ?_)
  · exact hnext Nx Nm H locs h.2 hPx hPm hS
  · exact absurd h.1 q837
set_option maxHeartbeats 4000000 in
set_option maxRecDepth 100000 in
theorem law_segment {p : Program} {e : Env} {s : State} {m : MethodId} {below : List Frame} {meth : Method} {c : Code} (l : Launch) {b L : Nat} {xs : Nat → Int32} {D : va_G} {cI cZ : ClassId} {adx adm : Nat → Nat} {zA zD zR : Nat} (C0 : LCx p s m meth c b L xs D cI cZ adx adm zA zD zR) {Inv : Mem → Mem → Prop} (hst : St_segment Inv) (k : Nat) (x3 : Int32) (hx3 : x3 = nI k) (hk : k + 8 ≤ L) (Mx Mm : Mem) (hI : Inv Mx Mm) (H : Heap) (locs : List Loc) (ls : Array Slot) (hl : lv_has ls 4 [(0, .ref b), (1, .ref (adx 0)), (2, .ref (adm 0)), (3, .int x3)]) (hPx : va_P D vwCl (xW cI cZ adx Mx) H) (hPm : va_P D vwCl (mW cI cZ adm Mm) H) (hS : va_S (lwA s) s.heap H locs) (hnext : ∀ (Nx Nm : Mem) (H : Heap) (locs : List Loc), Inv Nx Nm → va_P D vwCl (xW cI cZ adx Nx) H → va_P D vwCl (mW cI cZ adm Nm) H → va_S (lwA s) s.heap H locs → GL p l e s m below meth c b H locs (F0 m 1283 ls [])) : GL p l e s m below meth c b H locs (F0 m 842 ls []) := by
  obtain ⟨⟨hx, hb, hr, hml, hown, hts, hX, hbl, hlocks, hgv⟩, hL, hK, hZ, hN, hDx, hDm, hAx, hAm, hdis⟩ := C0
  have hts : ∀ w ∈ wsL_law, w.before #[Value.ref b] s = true := fun w h => hts w (wsL_law_in w h)
  have hbA : ¬ lwA s b := Nat.not_le.mpr hbl
  refine lv_aload_n hx hb dL_law_842 rfl (lv_at hl 1 rfl) ?_
  refine lv_aload_n hx hb dL_law_843 rfl (lv_at hl 0 rfl) ?_
  refine lv_iload_n hx hb dL_law_844 rfl (lv_at hl 3 rfl) ?_
  refine lv_iconst (v := 1) hx hb dL_law_845 (by decide) ?_
  refine lv_iadd hx hb dL_law_846 ?_
  refine va_sld hx hb hX hbl hbA hS (vp_off hx3 hk hL 1 (by decide)) dL_law_847 ?_
  refine lv_aload_n hx hb dL_law_848 rfl (lv_at hl 0 rfl) ?_
  refine lv_iload_n hx hb dL_law_849 rfl (lv_at hl 3 rfl) ?_
  refine lv_iconst (v := 2) hx hb dL_law_850 (by decide) ?_
  refine lv_iadd hx hb dL_law_851 ?_
  refine va_sld hx hb hX hbl hbA hS (vp_off hx3 hk hL 2 (by decide)) dL_law_852 ?_
  have h := hst Mx Mm (xs (x3 + 1).toNatClampNeg) (xs (x3 + 2).toNatClampNeg) hI
  refine x_callViF (As := [.int (xs (x3 + 1).toNatClampNeg), .int (xs (x3 + 2).toNatClampNeg)]) (rest := []) ⟨hx, hb, hml, hown, hts⟩ (kX10_segment l D cI cZ adx zA zD zR hDx Mx (xs (x3 + 1).toNatClampNeg) (xs (x3 + 2).toNatClampNeg) _ h) (cwV 2 hts (gdV (fun w h => h) (inA_29 _ (List.mem_of_getElem? (i := 13) rfl)) vX10_segment) rfl rfl rfl (by decide +kernel) ⟨Nat.le_of_ble_eq_true rfl, Nat.le_of_ble_eq_true rfl⟩) (va_recv hK hPx (ci := 10) (q0 := 0) rfl (xW_0 cI cZ adx Mx)) hPx hK hZ hN hS hAx hl.1 rfl rfl (Nat.le_of_ble_eq_true rfl) dL_law_853 ⟨Nat.le_of_ble_eq_true rfl, Nat.le_of_ble_eq_true rfl⟩ (fun rx Nx H locs h hPx hz1 hk1 hS => ?_)
  have hPm := P_keptM hPm hk1 hdis
  refine lv_aload_n hx hb dL_law_856 rfl (lv_at hl 2 rfl) ?_
  refine lv_aload_n hx hb dL_law_857 rfl (lv_at hl 0 rfl) ?_
  refine lv_iload_n hx hb dL_law_858 rfl (lv_at hl 3 rfl) ?_
  refine lv_iconst (v := 1) hx hb dL_law_859 (by decide) ?_
  refine lv_iadd hx hb dL_law_860 ?_
  refine va_sld hx hb hX hbl hbA hS (vp_off hx3 hk hL 1 (by decide)) dL_law_861 ?_
  refine lv_aload_n hx hb dL_law_862 rfl (lv_at hl 0 rfl) ?_
  refine lv_iload_n hx hb dL_law_863 rfl (lv_at hl 3 rfl) ?_
  refine lv_iconst (v := 2) hx hb dL_law_864 (by decide) ?_
  refine lv_iadd hx hb dL_law_865 ?_
  refine va_sld hx hb hX hbl hbA hS (vp_off hx3 hk hL 2 (by decide)) dL_law_866 ?_
  refine m_callViF (As := [.int (xs (x3 + 1).toNatClampNeg), .int (xs (x3 + 2).toNatClampNeg)]) (rest := [.int rx]) ⟨hx, hb, hml, hown, hts⟩ (kX11_segment l D cI cZ adm hDm Mm (xs (x3 + 1).toNatClampNeg) (xs (x3 + 2).toNatClampNeg) _ h) (cwV 2 hts (gdV (fun w h => h) (inA_29 _ (List.mem_of_getElem? (i := 18) rfl)) vX11_segment) rfl rfl rfl (by decide +kernel) ⟨Nat.le_of_ble_eq_true rfl, Nat.le_of_ble_eq_true rfl⟩) (va_recv hK hPm (ci := 11) (q0 := 0) rfl (mW_0 cI cZ adm Mm)) hPm hK hS hAm hl.1 rfl rfl (Nat.le_of_ble_eq_true rfl) dL_law_867 ⟨Nat.le_of_ble_eq_true rfl, Nat.le_of_ble_eq_true rfl⟩ (fun rm Nm H locs h hPm hz1 hk1 hS => ?_)
  have hPx := P_keptX hPx hk1 hdis
  refine lv_icmp_eq (tgt := 1283) hx hb dL_law_870 (by decide) (fun q870 => ?_) (fun q870 => ?_)
  · exact hnext Nx Nm H locs h.2 hPx hPm hS
  · exact absurd h.1 q870
set_option maxHeartbeats 4000000 in
set_option maxRecDepth 100000 in
theorem law_extent {p : Program} {e : Env} {s : State} {m : MethodId} {below : List Frame} {meth : Method} {c : Code} (l : Launch) {b L : Nat} {xs : Nat → Int32} {D : va_G} {cI cZ : ClassId} {adx adm : Nat → Nat} {zA zD zR : Nat} (C0 : LCx p s m meth c b L xs D cI cZ adx adm zA zD zR) {Inv : Mem → Mem → Prop} (hst : St_extent Inv) (k : Nat) (x3 : Int32) (hx3 : x3 = nI k) (hk : k + 8 ≤ L) (Mx Mm : Mem) (hI : Inv Mx Mm) (H : Heap) (locs : List Loc) (ls : Array Slot) (hl : lv_has ls 4 [(0, .ref b), (1, .ref (adx 0)), (2, .ref (adm 0)), (3, .int x3)]) (hPx : va_P D vwCl (xW cI cZ adx Mx) H) (hPm : va_P D vwCl (mW cI cZ adm Mm) H) (hS : va_S (lwA s) s.heap H locs) (hnext : ∀ (Nx Nm : Mem) (H : Heap) (locs : List Loc), Inv Nx Nm → va_P D vwCl (xW cI cZ adx Nx) H → va_P D vwCl (mW cI cZ adm Nm) H → va_S (lwA s) s.heap H locs → GL p l e s m below meth c b H locs (F0 m 1283 ls [])) : GL p l e s m below meth c b H locs (F0 m 875 ls []) := by
  obtain ⟨⟨hx, hb, hr, hml, hown, hts, hX, hbl, hlocks, hgv⟩, hL, hK, hZ, hN, hDx, hDm, hAx, hAm, hdis⟩ := C0
  have hts : ∀ w ∈ wsL_law, w.before #[Value.ref b] s = true := fun w h => hts w (wsL_law_in w h)
  have hbA : ¬ lwA s b := Nat.not_le.mpr hbl
  refine lv_aload_n hx hb dL_law_875 rfl (lv_at hl 1 rfl) ?_
  refine lv_aload_n hx hb dL_law_876 rfl (lv_at hl 0 rfl) ?_
  refine lv_iload_n hx hb dL_law_877 rfl (lv_at hl 3 rfl) ?_
  refine lv_iconst (v := 1) hx hb dL_law_878 (by decide) ?_
  refine lv_iadd hx hb dL_law_879 ?_
  refine va_sld hx hb hX hbl hbA hS (vp_off hx3 hk hL 1 (by decide)) dL_law_880 ?_
  refine lv_aload_n hx hb dL_law_881 rfl (lv_at hl 0 rfl) ?_
  refine lv_iload_n hx hb dL_law_882 rfl (lv_at hl 3 rfl) ?_
  refine lv_iconst (v := 2) hx hb dL_law_883 (by decide) ?_
  refine lv_iadd hx hb dL_law_884 ?_
  refine va_sld hx hb hX hbl hbA hS (vp_off hx3 hk hL 2 (by decide)) dL_law_885 ?_
  have h := hst Mx Mm (xs (x3 + 1).toNatClampNeg) (xs (x3 + 2).toNatClampNeg) hI
  refine x_callViF (As := [.int (xs (x3 + 1).toNatClampNeg), .int (xs (x3 + 2).toNatClampNeg)]) (rest := []) ⟨hx, hb, hml, hown, hts⟩ (kX10_extent l D cI cZ adx zA zD zR hDx Mx (xs (x3 + 1).toNatClampNeg) (xs (x3 + 2).toNatClampNeg) _ h) (cwV 2 hts (gdV (fun w h => h) (inA_29 _ (List.mem_of_getElem? (i := 22) rfl)) vX10_extent) rfl rfl rfl (by decide +kernel) ⟨Nat.le_of_ble_eq_true rfl, Nat.le_of_ble_eq_true rfl⟩) (va_recv hK hPx (ci := 10) (q0 := 0) rfl (xW_0 cI cZ adx Mx)) hPx hK hZ hN hS hAx hl.1 rfl rfl (Nat.le_of_ble_eq_true rfl) dL_law_886 ⟨Nat.le_of_ble_eq_true rfl, Nat.le_of_ble_eq_true rfl⟩ (fun rx Nx H locs h hPx hz1 hk1 hS => ?_)
  have hPm := P_keptM hPm hk1 hdis
  refine lv_aload_n hx hb dL_law_889 rfl (lv_at hl 2 rfl) ?_
  refine lv_aload_n hx hb dL_law_890 rfl (lv_at hl 0 rfl) ?_
  refine lv_iload_n hx hb dL_law_891 rfl (lv_at hl 3 rfl) ?_
  refine lv_iconst (v := 1) hx hb dL_law_892 (by decide) ?_
  refine lv_iadd hx hb dL_law_893 ?_
  refine va_sld hx hb hX hbl hbA hS (vp_off hx3 hk hL 1 (by decide)) dL_law_894 ?_
  refine lv_aload_n hx hb dL_law_895 rfl (lv_at hl 0 rfl) ?_
  refine lv_iload_n hx hb dL_law_896 rfl (lv_at hl 3 rfl) ?_
  refine lv_iconst (v := 2) hx hb dL_law_897 (by decide) ?_
  refine lv_iadd hx hb dL_law_898 ?_
  refine va_sld hx hb hX hbl hbA hS (vp_off hx3 hk hL 2 (by decide)) dL_law_899 ?_
  refine m_callViF (As := [.int (xs (x3 + 1).toNatClampNeg), .int (xs (x3 + 2).toNatClampNeg)]) (rest := [.int rx]) ⟨hx, hb, hml, hown, hts⟩ (kX11_extent l D cI cZ adm hDm Mm (xs (x3 + 1).toNatClampNeg) (xs (x3 + 2).toNatClampNeg) _ h) (cwV 2 hts (gdV (fun w h => h) (inA_30 _ (List.mem_of_getElem? (i := 6) rfl)) vX11_extent) rfl rfl rfl (by decide +kernel) ⟨Nat.le_of_ble_eq_true rfl, Nat.le_of_ble_eq_true rfl⟩) (va_recv hK hPm (ci := 11) (q0 := 0) rfl (mW_0 cI cZ adm Mm)) hPm hK hS hAm hl.1 rfl rfl (Nat.le_of_ble_eq_true rfl) dL_law_900 ⟨Nat.le_of_ble_eq_true rfl, Nat.le_of_ble_eq_true rfl⟩ (fun rm Nm H locs h hPm hz1 hk1 hS => ?_)
  have hPx := P_keptX hPx hk1 hdis
  refine lv_icmp_eq (tgt := 1283) hx hb dL_law_903 (by decide) (fun q903 => ?_) (fun q903 => ?_)
  · exact hnext Nx Nm H locs h.2 hPx hPm hS
  · exact absurd h.1 q903
set_option maxHeartbeats 4000000 in
set_option maxRecDepth 100000 in
theorem law_plane {p : Program} {e : Env} {s : State} {m : MethodId} {below : List Frame} {meth : Method} {c : Code} (l : Launch) {b L : Nat} {xs : Nat → Int32} {D : va_G} {cI cZ : ClassId} {adx adm : Nat → Nat} {zA zD zR : Nat} (C0 : LCx p s m meth c b L xs D cI cZ adx adm zA zD zR) {Inv : Mem → Mem → Prop} (hst : St_plane Inv) (k : Nat) (x3 : Int32) (hx3 : x3 = nI k) (hk : k + 8 ≤ L) (Mx Mm : Mem) (hI : Inv Mx Mm) (H : Heap) (locs : List Loc) (ls : Array Slot) (hl : lv_has ls 4 [(0, .ref b), (1, .ref (adx 0)), (2, .ref (adm 0)), (3, .int x3)]) (hPx : va_P D vwCl (xW cI cZ adx Mx) H) (hPm : va_P D vwCl (mW cI cZ adm Mm) H) (hS : va_S (lwA s) s.heap H locs) (hnext : ∀ (Nx Nm : Mem) (H : Heap) (locs : List Loc), Inv Nx Nm → va_P D vwCl (xW cI cZ adx Nx) H → va_P D vwCl (mW cI cZ adm Nm) H → va_S (lwA s) s.heap H locs → GL p l e s m below meth c b H locs (F0 m 1283 ls [])) : GL p l e s m below meth c b H locs (F0 m 908 ls []) := by
  obtain ⟨⟨hx, hb, hr, hml, hown, hts, hX, hbl, hlocks, hgv⟩, hL, hK, hZ, hN, hDx, hDm, hAx, hAm, hdis⟩ := C0
  have hts : ∀ w ∈ wsL_law, w.before #[Value.ref b] s = true := fun w h => hts w (wsL_law_in w h)
  have hbA : ¬ lwA s b := Nat.not_le.mpr hbl
  refine lv_aload_n hx hb dL_law_908 rfl (lv_at hl 1 rfl) ?_
  refine lv_aload_n hx hb dL_law_909 rfl (lv_at hl 0 rfl) ?_
  refine lv_iload_n hx hb dL_law_910 rfl (lv_at hl 3 rfl) ?_
  refine lv_iconst (v := 1) hx hb dL_law_911 (by decide) ?_
  refine lv_iadd hx hb dL_law_912 ?_
  refine va_sld hx hb hX hbl hbA hS (vp_off hx3 hk hL 1 (by decide)) dL_law_913 ?_
  refine lv_aload_n hx hb dL_law_914 rfl (lv_at hl 0 rfl) ?_
  refine lv_iload_n hx hb dL_law_915 rfl (lv_at hl 3 rfl) ?_
  refine lv_iconst (v := 2) hx hb dL_law_916 (by decide) ?_
  refine lv_iadd hx hb dL_law_917 ?_
  refine va_sld hx hb hX hbl hbA hS (vp_off hx3 hk hL 2 (by decide)) dL_law_918 ?_
  refine lv_aload_n hx hb dL_law_919 rfl (lv_at hl 0 rfl) ?_
  refine lv_iload_n hx hb dL_law_920 rfl (lv_at hl 3 rfl) ?_
  refine lv_iconst (v := 3) hx hb dL_law_921 (by decide) ?_
  refine lv_iadd hx hb dL_law_922 ?_
  refine va_sld hx hb hX hbl hbA hS (vp_off hx3 hk hL 3 (by decide)) dL_law_923 ?_
  have h := hst Mx Mm (xs (x3 + 1).toNatClampNeg) (xs (x3 + 2).toNatClampNeg) (xs (x3 + 3).toNatClampNeg) hI
  refine x_callViF (As := [.int (xs (x3 + 1).toNatClampNeg), .int (xs (x3 + 2).toNatClampNeg), .int (xs (x3 + 3).toNatClampNeg)]) (rest := []) ⟨hx, hb, hml, hown, hts⟩ (kX10_plane l D cI cZ adx zA zD zR hDx Mx (xs (x3 + 1).toNatClampNeg) (xs (x3 + 2).toNatClampNeg) (xs (x3 + 3).toNatClampNeg) _ h) (cwV 3 hts (gdV (fun w h => h) (inA_30 _ (List.mem_of_getElem? (i := 11) rfl)) vX10_plane) rfl rfl rfl (by decide +kernel) ⟨Nat.le_of_ble_eq_true rfl, Nat.le_of_ble_eq_true rfl⟩) (va_recv hK hPx (ci := 10) (q0 := 0) rfl (xW_0 cI cZ adx Mx)) hPx hK hZ hN hS hAx hl.1 rfl rfl (Nat.le_of_ble_eq_true rfl) dL_law_924 ⟨Nat.le_of_ble_eq_true rfl, Nat.le_of_ble_eq_true rfl⟩ (fun rx Nx H locs h hPx hz1 hk1 hS => ?_)
  have hPm := P_keptM hPm hk1 hdis
  refine lv_aload_n hx hb dL_law_927 rfl (lv_at hl 2 rfl) ?_
  refine lv_aload_n hx hb dL_law_928 rfl (lv_at hl 0 rfl) ?_
  refine lv_iload_n hx hb dL_law_929 rfl (lv_at hl 3 rfl) ?_
  refine lv_iconst (v := 1) hx hb dL_law_930 (by decide) ?_
  refine lv_iadd hx hb dL_law_931 ?_
  refine va_sld hx hb hX hbl hbA hS (vp_off hx3 hk hL 1 (by decide)) dL_law_932 ?_
  refine lv_aload_n hx hb dL_law_933 rfl (lv_at hl 0 rfl) ?_
  refine lv_iload_n hx hb dL_law_934 rfl (lv_at hl 3 rfl) ?_
  refine lv_iconst (v := 2) hx hb dL_law_935 (by decide) ?_
  refine lv_iadd hx hb dL_law_936 ?_
  refine va_sld hx hb hX hbl hbA hS (vp_off hx3 hk hL 2 (by decide)) dL_law_937 ?_
  refine lv_aload_n hx hb dL_law_938 rfl (lv_at hl 0 rfl) ?_
  refine lv_iload_n hx hb dL_law_939 rfl (lv_at hl 3 rfl) ?_
  refine lv_iconst (v := 3) hx hb dL_law_940 (by decide) ?_
  refine lv_iadd hx hb dL_law_941 ?_
  refine va_sld hx hb hX hbl hbA hS (vp_off hx3 hk hL 3 (by decide)) dL_law_942 ?_
  refine m_callViF (As := [.int (xs (x3 + 1).toNatClampNeg), .int (xs (x3 + 2).toNatClampNeg), .int (xs (x3 + 3).toNatClampNeg)]) (rest := [.int rx]) ⟨hx, hb, hml, hown, hts⟩ (kX11_plane l D cI cZ adm hDm Mm (xs (x3 + 1).toNatClampNeg) (xs (x3 + 2).toNatClampNeg) (xs (x3 + 3).toNatClampNeg) _ h) (cwV 3 hts (gdV (fun w h => h) (inA_32 _ (List.mem_of_getElem? (i := 0) rfl)) vX11_plane) rfl rfl rfl (by decide +kernel) ⟨Nat.le_of_ble_eq_true rfl, Nat.le_of_ble_eq_true rfl⟩) (va_recv hK hPm (ci := 11) (q0 := 0) rfl (mW_0 cI cZ adm Mm)) hPm hK hS hAm hl.1 rfl rfl (Nat.le_of_ble_eq_true rfl) dL_law_943 ⟨Nat.le_of_ble_eq_true rfl, Nat.le_of_ble_eq_true rfl⟩ (fun rm Nm H locs h hPm hz1 hk1 hS => ?_)
  have hPx := P_keptX hPx hk1 hdis
  refine lv_icmp_eq (tgt := 1283) hx hb dL_law_946 (by decide) (fun q946 => ?_) (fun q946 => ?_)
  · exact hnext Nx Nm H locs h.2 hPx hPm hS
  · exact absurd h.1 q946
set_option maxHeartbeats 4000000 in
set_option maxRecDepth 100000 in
theorem law_view {p : Program} {e : Env} {s : State} {m : MethodId} {below : List Frame} {meth : Method} {c : Code} (l : Launch) {b L : Nat} {xs : Nat → Int32} {D : va_G} {cI cZ : ClassId} {adx adm : Nat → Nat} {zA zD zR : Nat} (C0 : LCx p s m meth c b L xs D cI cZ adx adm zA zD zR) {Inv : Mem → Mem → Prop} (hst : St_view Inv) (k : Nat) (x3 : Int32) (hx3 : x3 = nI k) (hk : k + 8 ≤ L) (Mx Mm : Mem) (hI : Inv Mx Mm) (H : Heap) (locs : List Loc) (ls : Array Slot) (hl : lv_has ls 4 [(0, .ref b), (1, .ref (adx 0)), (2, .ref (adm 0)), (3, .int x3)]) (hPx : va_P D vwCl (xW cI cZ adx Mx) H) (hPm : va_P D vwCl (mW cI cZ adm Mm) H) (hS : va_S (lwA s) s.heap H locs) (hnext : ∀ (Nx Nm : Mem) (H : Heap) (locs : List Loc), Inv Nx Nm → va_P D vwCl (xW cI cZ adx Nx) H → va_P D vwCl (mW cI cZ adm Nm) H → va_S (lwA s) s.heap H locs → GL p l e s m below meth c b H locs (F0 m 1283 ls [])) : GL p l e s m below meth c b H locs (F0 m 951 ls []) := by
  obtain ⟨⟨hx, hb, hr, hml, hown, hts, hX, hbl, hlocks, hgv⟩, hL, hK, hZ, hN, hDx, hDm, hAx, hAm, hdis⟩ := C0
  have hts : ∀ w ∈ wsL_law, w.before #[Value.ref b] s = true := fun w h => hts w (wsL_law_in w h)
  have hbA : ¬ lwA s b := Nat.not_le.mpr hbl
  refine lv_aload_n hx hb dL_law_951 rfl (lv_at hl 1 rfl) ?_
  refine lv_aload_n hx hb dL_law_952 rfl (lv_at hl 0 rfl) ?_
  refine lv_iload_n hx hb dL_law_953 rfl (lv_at hl 3 rfl) ?_
  refine lv_iconst (v := 1) hx hb dL_law_954 (by decide) ?_
  refine lv_iadd hx hb dL_law_955 ?_
  refine va_sld hx hb hX hbl hbA hS (vp_off hx3 hk hL 1 (by decide)) dL_law_956 ?_
  refine lv_aload_n hx hb dL_law_957 rfl (lv_at hl 0 rfl) ?_
  refine lv_iload_n hx hb dL_law_958 rfl (lv_at hl 3 rfl) ?_
  refine lv_iconst (v := 2) hx hb dL_law_959 (by decide) ?_
  refine lv_iadd hx hb dL_law_960 ?_
  refine va_sld hx hb hX hbl hbA hS (vp_off hx3 hk hL 2 (by decide)) dL_law_961 ?_
  refine lv_aload_n hx hb dL_law_962 rfl (lv_at hl 0 rfl) ?_
  refine lv_iload_n hx hb dL_law_963 rfl (lv_at hl 3 rfl) ?_
  refine lv_iconst (v := 3) hx hb dL_law_964 (by decide) ?_
  refine lv_iadd hx hb dL_law_965 ?_
  refine va_sld hx hb hX hbl hbA hS (vp_off hx3 hk hL 3 (by decide)) dL_law_966 ?_
  have h := hst Mx Mm (xs (x3 + 1).toNatClampNeg) (xs (x3 + 2).toNatClampNeg) (xs (x3 + 3).toNatClampNeg) hI
  refine x_callViF (As := [.int (xs (x3 + 1).toNatClampNeg), .int (xs (x3 + 2).toNatClampNeg), .int (xs (x3 + 3).toNatClampNeg)]) (rest := []) ⟨hx, hb, hml, hown, hts⟩ (kX10_view l D cI cZ adx zA zD zR hDx Mx (xs (x3 + 1).toNatClampNeg) (xs (x3 + 2).toNatClampNeg) (xs (x3 + 3).toNatClampNeg) _ h) (cwV 3 hts (gdV (fun w h => h) (inA_32 _ (List.mem_of_getElem? (i := 15) rfl)) vX10_view) rfl rfl rfl (by decide +kernel) ⟨Nat.le_of_ble_eq_true rfl, Nat.le_of_ble_eq_true rfl⟩) (va_recv hK hPx (ci := 10) (q0 := 0) rfl (xW_0 cI cZ adx Mx)) hPx hK hZ hN hS hAx hl.1 rfl rfl (Nat.le_of_ble_eq_true rfl) dL_law_967 ⟨Nat.le_of_ble_eq_true rfl, Nat.le_of_ble_eq_true rfl⟩ (fun rx Nx H locs h hPx hz1 hk1 hS => ?_)
  have hPm := P_keptM hPm hk1 hdis
  refine lv_aload_n hx hb dL_law_970 rfl (lv_at hl 2 rfl) ?_
  refine lv_aload_n hx hb dL_law_971 rfl (lv_at hl 0 rfl) ?_
  refine lv_iload_n hx hb dL_law_972 rfl (lv_at hl 3 rfl) ?_
  refine lv_iconst (v := 1) hx hb dL_law_973 (by decide) ?_
  refine lv_iadd hx hb dL_law_974 ?_
  refine va_sld hx hb hX hbl hbA hS (vp_off hx3 hk hL 1 (by decide)) dL_law_975 ?_
  refine lv_aload_n hx hb dL_law_976 rfl (lv_at hl 0 rfl) ?_
  refine lv_iload_n hx hb dL_law_977 rfl (lv_at hl 3 rfl) ?_
  refine lv_iconst (v := 2) hx hb dL_law_978 (by decide) ?_
  refine lv_iadd hx hb dL_law_979 ?_
  refine va_sld hx hb hX hbl hbA hS (vp_off hx3 hk hL 2 (by decide)) dL_law_980 ?_
  refine lv_aload_n hx hb dL_law_981 rfl (lv_at hl 0 rfl) ?_
  refine lv_iload_n hx hb dL_law_982 rfl (lv_at hl 3 rfl) ?_
  refine lv_iconst (v := 3) hx hb dL_law_983 (by decide) ?_
  refine lv_iadd hx hb dL_law_984 ?_
  refine va_sld hx hb hX hbl hbA hS (vp_off hx3 hk hL 3 (by decide)) dL_law_985 ?_
  refine m_callViF (As := [.int (xs (x3 + 1).toNatClampNeg), .int (xs (x3 + 2).toNatClampNeg), .int (xs (x3 + 3).toNatClampNeg)]) (rest := [.int rx]) ⟨hx, hb, hml, hown, hts⟩ (kX11_view l D cI cZ adm hDm Mm (xs (x3 + 1).toNatClampNeg) (xs (x3 + 2).toNatClampNeg) (xs (x3 + 3).toNatClampNeg) _ h) (cwV 3 hts (gdV (fun w h => h) (inA_32 _ (List.mem_of_getElem? (i := 23) rfl)) vX11_view) rfl rfl rfl (by decide +kernel) ⟨Nat.le_of_ble_eq_true rfl, Nat.le_of_ble_eq_true rfl⟩) (va_recv hK hPm (ci := 11) (q0 := 0) rfl (mW_0 cI cZ adm Mm)) hPm hK hS hAm hl.1 rfl rfl (Nat.le_of_ble_eq_true rfl) dL_law_986 ⟨Nat.le_of_ble_eq_true rfl, Nat.le_of_ble_eq_true rfl⟩ (fun rm Nm H locs h hPm hz1 hk1 hS => ?_)
  have hPx := P_keptX hPx hk1 hdis
  refine lv_icmp_eq (tgt := 1283) hx hb dL_law_989 (by decide) (fun q989 => ?_) (fun q989 => ?_)
  · exact hnext Nx Nm H locs h.2 hPx hPm hS
  · exact absurd h.1 q989
set_option maxHeartbeats 4000000 in
set_option maxRecDepth 100000 in
theorem law_holes {p : Program} {e : Env} {s : State} {m : MethodId} {below : List Frame} {meth : Method} {c : Code} (l : Launch) {b L : Nat} {xs : Nat → Int32} {D : va_G} {cI cZ : ClassId} {adx adm : Nat → Nat} {zA zD zR : Nat} (C0 : LCx p s m meth c b L xs D cI cZ adx adm zA zD zR) {Inv : Mem → Mem → Prop} (hst : St_holes Inv) (k : Nat) (x3 : Int32) (hx3 : x3 = nI k) (hk : k + 8 ≤ L) (Mx Mm : Mem) (hI : Inv Mx Mm) (H : Heap) (locs : List Loc) (ls : Array Slot) (hl : lv_has ls 4 [(0, .ref b), (1, .ref (adx 0)), (2, .ref (adm 0)), (3, .int x3)]) (hPx : va_P D vwCl (xW cI cZ adx Mx) H) (hPm : va_P D vwCl (mW cI cZ adm Mm) H) (hS : va_S (lwA s) s.heap H locs) (hnext : ∀ (Nx Nm : Mem) (H : Heap) (locs : List Loc), Inv Nx Nm → va_P D vwCl (xW cI cZ adx Nx) H → va_P D vwCl (mW cI cZ adm Nm) H → va_S (lwA s) s.heap H locs → GL p l e s m below meth c b H locs (F0 m 1283 ls [])) : GL p l e s m below meth c b H locs (F0 m 994 ls []) := by
  obtain ⟨⟨hx, hb, hr, hml, hown, hts, hX, hbl, hlocks, hgv⟩, hL, hK, hZ, hN, hDx, hDm, hAx, hAm, hdis⟩ := C0
  have hts : ∀ w ∈ wsL_law, w.before #[Value.ref b] s = true := fun w h => hts w (wsL_law_in w h)
  have hbA : ¬ lwA s b := Nat.not_le.mpr hbl
  refine lv_aload_n hx hb dL_law_994 rfl (lv_at hl 1 rfl) ?_
  refine lv_aload_n hx hb dL_law_995 rfl (lv_at hl 0 rfl) ?_
  refine lv_iload_n hx hb dL_law_996 rfl (lv_at hl 3 rfl) ?_
  refine lv_iconst (v := 1) hx hb dL_law_997 (by decide) ?_
  refine lv_iadd hx hb dL_law_998 ?_
  refine va_sld hx hb hX hbl hbA hS (vp_off hx3 hk hL 1 (by decide)) dL_law_999 ?_
  have h := hst Mx Mm (xs (x3 + 1).toNatClampNeg) hI
  refine x_callViF (As := [.int (xs (x3 + 1).toNatClampNeg)]) (rest := []) ⟨hx, hb, hml, hown, hts⟩ (kX10_holes l D cI cZ adx zA zD zR hDx Mx (xs (x3 + 1).toNatClampNeg) _ h) (cwV 1 hts (gdV (fun w h => h) (inA_33 _ (List.mem_of_getElem? (i := 7) rfl)) vX10_holes) rfl rfl rfl (by decide +kernel) ⟨Nat.le_of_ble_eq_true rfl, Nat.le_of_ble_eq_true rfl⟩) (va_recv hK hPx (ci := 10) (q0 := 0) rfl (xW_0 cI cZ adx Mx)) hPx hK hZ hN hS hAx hl.1 rfl rfl (Nat.le_of_ble_eq_true rfl) dL_law_1000 ⟨Nat.le_of_ble_eq_true rfl, Nat.le_of_ble_eq_true rfl⟩ (fun rx Nx H locs h hPx hz1 hk1 hS => ?_)
  have hPm := P_keptM hPm hk1 hdis
  refine lv_aload_n hx hb dL_law_1003 rfl (lv_at hl 2 rfl) ?_
  refine lv_aload_n hx hb dL_law_1004 rfl (lv_at hl 0 rfl) ?_
  refine lv_iload_n hx hb dL_law_1005 rfl (lv_at hl 3 rfl) ?_
  refine lv_iconst (v := 1) hx hb dL_law_1006 (by decide) ?_
  refine lv_iadd hx hb dL_law_1007 ?_
  refine va_sld hx hb hX hbl hbA hS (vp_off hx3 hk hL 1 (by decide)) dL_law_1008 ?_
  refine m_callViF (As := [.int (xs (x3 + 1).toNatClampNeg)]) (rest := [.int rx]) ⟨hx, hb, hml, hown, hts⟩ (kX11_holes l D cI cZ adm hDm Mm (xs (x3 + 1).toNatClampNeg) _ h) (cwV 1 hts (gdV (fun w h => h) (inA_33 _ (List.mem_of_getElem? (i := 11) rfl)) vX11_holes) rfl rfl rfl (by decide +kernel) ⟨Nat.le_of_ble_eq_true rfl, Nat.le_of_ble_eq_true rfl⟩) (va_recv hK hPm (ci := 11) (q0 := 0) rfl (mW_0 cI cZ adm Mm)) hPm hK hS hAm hl.1 rfl rfl (Nat.le_of_ble_eq_true rfl) dL_law_1009 ⟨Nat.le_of_ble_eq_true rfl, Nat.le_of_ble_eq_true rfl⟩ (fun rm Nm H locs h hPm hz1 hk1 hS => ?_)
  have hPx := P_keptX hPx hk1 hdis
  refine lv_icmp_eq (tgt := 1283) hx hb dL_law_1012 (by decide) (fun q1012 => ?_) (fun q1012 => ?_)
  · exact hnext Nx Nm H locs h.2 hPx hPm hS
  · exact absurd h.1 q1012
set_option maxHeartbeats 4000000 in
set_option maxRecDepth 100000 in
theorem law_draw {p : Program} {e : Env} {s : State} {m : MethodId} {below : List Frame} {meth : Method} {c : Code} (l : Launch) {b L : Nat} {xs : Nat → Int32} {D : va_G} {cI cZ : ClassId} {adx adm : Nat → Nat} {zA zD zR : Nat} (C0 : LCx p s m meth c b L xs D cI cZ adx adm zA zD zR) {Inv : Mem → Mem → Prop} (hst : St_draw Inv) (k : Nat) (x3 : Int32) (hx3 : x3 = nI k) (hk : k + 8 ≤ L) (Mx Mm : Mem) (hI : Inv Mx Mm) (H : Heap) (locs : List Loc) (ls : Array Slot) (hl : lv_has ls 4 [(0, .ref b), (1, .ref (adx 0)), (2, .ref (adm 0)), (3, .int x3)]) (hPx : va_P D vwCl (xW cI cZ adx Mx) H) (hPm : va_P D vwCl (mW cI cZ adm Mm) H) (hS : va_S (lwA s) s.heap H locs) (hnext : ∀ (Nx Nm : Mem) (H : Heap) (locs : List Loc), Inv Nx Nm → va_P D vwCl (xW cI cZ adx Nx) H → va_P D vwCl (mW cI cZ adm Nm) H → va_S (lwA s) s.heap H locs → GL p l e s m below meth c b H locs (F0 m 1283 ls [])) : GL p l e s m below meth c b H locs (F0 m 1017 ls []) := by
  obtain ⟨⟨hx, hb, hr, hml, hown, hts, hX, hbl, hlocks, hgv⟩, hL, hK, hZ, hN, hDx, hDm, hAx, hAm, hdis⟩ := C0
  have hts : ∀ w ∈ wsL_law, w.before #[Value.ref b] s = true := fun w h => hts w (wsL_law_in w h)
  have hbA : ¬ lwA s b := Nat.not_le.mpr hbl
  refine lv_aload_n hx hb dL_law_1017 rfl (lv_at hl 1 rfl) ?_
  refine lv_aload_n hx hb dL_law_1018 rfl (lv_at hl 0 rfl) ?_
  refine lv_iload_n hx hb dL_law_1019 rfl (lv_at hl 3 rfl) ?_
  refine lv_iconst (v := 1) hx hb dL_law_1020 (by decide) ?_
  refine lv_iadd hx hb dL_law_1021 ?_
  refine va_sld hx hb hX hbl hbA hS (vp_off hx3 hk hL 1 (by decide)) dL_law_1022 ?_
  refine lv_aload_n hx hb dL_law_1023 rfl (lv_at hl 0 rfl) ?_
  refine lv_iload_n hx hb dL_law_1024 rfl (lv_at hl 3 rfl) ?_
  refine lv_iconst (v := 2) hx hb dL_law_1025 (by decide) ?_
  refine lv_iadd hx hb dL_law_1026 ?_
  refine va_sld hx hb hX hbl hbA hS (vp_off hx3 hk hL 2 (by decide)) dL_law_1027 ?_
  refine lv_aload_n hx hb dL_law_1028 rfl (lv_at hl 0 rfl) ?_
  refine lv_iload_n hx hb dL_law_1029 rfl (lv_at hl 3 rfl) ?_
  refine lv_iconst (v := 3) hx hb dL_law_1030 (by decide) ?_
  refine lv_iadd hx hb dL_law_1031 ?_
  refine va_sld hx hb hX hbl hbA hS (vp_off hx3 hk hL 3 (by decide)) dL_law_1032 ?_
  refine lv_aload_n hx hb dL_law_1033 rfl (lv_at hl 0 rfl) ?_
  refine lv_iload_n hx hb dL_law_1034 rfl (lv_at hl 3 rfl) ?_
  refine lv_iconst (v := 4) hx hb dL_law_1035 (by decide) ?_
  refine lv_iadd hx hb dL_law_1036 ?_
  refine va_sld hx hb hX hbl hbA hS (vp_off hx3 hk hL 4 (by decide)) dL_law_1037 ?_
  refine lv_aload_n hx hb dL_law_1038 rfl (lv_at hl 0 rfl) ?_
  refine lv_iload_n hx hb dL_law_1039 rfl (lv_at hl 3 rfl) ?_
  refine lv_iconst (v := 5) hx hb dL_law_1040 (by decide) ?_
  refine lv_iadd hx hb dL_law_1041 ?_
  refine va_sld hx hb hX hbl hbA hS (vp_off hx3 hk hL 5 (by decide)) dL_law_1042 ?_
  refine lv_aload_n hx hb dL_law_1043 rfl (lv_at hl 0 rfl) ?_
  refine lv_iload_n hx hb dL_law_1044 rfl (lv_at hl 3 rfl) ?_
  refine lv_bipush (v := 6) hx hb dL_law_1045 (by decide) ?_
  refine lv_iadd hx hb dL_law_1047 ?_
  refine va_sld hx hb hX hbl hbA hS (vp_off hx3 hk hL 6 (by decide)) dL_law_1048 ?_
  have h := hst Mx Mm (xs (x3 + 1).toNatClampNeg) (xs (x3 + 2).toNatClampNeg) (xs (x3 + 3).toNatClampNeg) (xs (x3 + 4).toNatClampNeg) (xs (x3 + 5).toNatClampNeg) (xs (x3 + 6).toNatClampNeg) hI
  refine x_callViF (As := [.int (xs (x3 + 1).toNatClampNeg), .int (xs (x3 + 2).toNatClampNeg), .int (xs (x3 + 3).toNatClampNeg), .int (xs (x3 + 4).toNatClampNeg), .int (xs (x3 + 5).toNatClampNeg), .int (xs (x3 + 6).toNatClampNeg)]) (rest := []) ⟨hx, hb, hml, hown, hts⟩ (kX10_draw l D cI cZ adx zA zD zR hDx Mx (xs (x3 + 1).toNatClampNeg) (xs (x3 + 2).toNatClampNeg) (xs (x3 + 3).toNatClampNeg) (xs (x3 + 4).toNatClampNeg) (xs (x3 + 5).toNatClampNeg) (xs (x3 + 6).toNatClampNeg) _ h) (cwV 6 hts (gdV (fun w h => h) (inA_33 _ (List.mem_of_getElem? (i := 15) rfl)) vX10_draw) rfl rfl rfl (by decide +kernel) ⟨Nat.le_of_ble_eq_true rfl, Nat.le_of_ble_eq_true rfl⟩) (va_recv hK hPx (ci := 10) (q0 := 0) rfl (xW_0 cI cZ adx Mx)) hPx hK hZ hN hS hAx hl.1 rfl rfl (Nat.le_of_ble_eq_true rfl) dL_law_1049 ⟨Nat.le_of_ble_eq_true rfl, Nat.le_of_ble_eq_true rfl⟩ (fun rx Nx H locs h hPx hz1 hk1 hS => ?_)
  have hPm := P_keptM hPm hk1 hdis
  refine lv_aload_n hx hb dL_law_1052 rfl (lv_at hl 2 rfl) ?_
  refine lv_aload_n hx hb dL_law_1053 rfl (lv_at hl 0 rfl) ?_
  refine lv_iload_n hx hb dL_law_1054 rfl (lv_at hl 3 rfl) ?_
  refine lv_iconst (v := 1) hx hb dL_law_1055 (by decide) ?_
  refine lv_iadd hx hb dL_law_1056 ?_
  refine va_sld hx hb hX hbl hbA hS (vp_off hx3 hk hL 1 (by decide)) dL_law_1057 ?_
  refine lv_aload_n hx hb dL_law_1058 rfl (lv_at hl 0 rfl) ?_
  refine lv_iload_n hx hb dL_law_1059 rfl (lv_at hl 3 rfl) ?_
  refine lv_iconst (v := 2) hx hb dL_law_1060 (by decide) ?_
  refine lv_iadd hx hb dL_law_1061 ?_
  refine va_sld hx hb hX hbl hbA hS (vp_off hx3 hk hL 2 (by decide)) dL_law_1062 ?_
  refine lv_aload_n hx hb dL_law_1063 rfl (lv_at hl 0 rfl) ?_
  refine lv_iload_n hx hb dL_law_1064 rfl (lv_at hl 3 rfl) ?_
  refine lv_iconst (v := 3) hx hb dL_law_1065 (by decide) ?_
  refine lv_iadd hx hb dL_law_1066 ?_
  refine va_sld hx hb hX hbl hbA hS (vp_off hx3 hk hL 3 (by decide)) dL_law_1067 ?_
  refine lv_aload_n hx hb dL_law_1068 rfl (lv_at hl 0 rfl) ?_
  refine lv_iload_n hx hb dL_law_1069 rfl (lv_at hl 3 rfl) ?_
  refine lv_iconst (v := 4) hx hb dL_law_1070 (by decide) ?_
  refine lv_iadd hx hb dL_law_1071 ?_
  refine va_sld hx hb hX hbl hbA hS (vp_off hx3 hk hL 4 (by decide)) dL_law_1072 ?_
  refine lv_aload_n hx hb dL_law_1073 rfl (lv_at hl 0 rfl) ?_
  refine lv_iload_n hx hb dL_law_1074 rfl (lv_at hl 3 rfl) ?_
  refine lv_iconst (v := 5) hx hb dL_law_1075 (by decide) ?_
  refine lv_iadd hx hb dL_law_1076 ?_
  refine va_sld hx hb hX hbl hbA hS (vp_off hx3 hk hL 5 (by decide)) dL_law_1077 ?_
  refine lv_aload_n hx hb dL_law_1078 rfl (lv_at hl 0 rfl) ?_
  refine lv_iload_n hx hb dL_law_1079 rfl (lv_at hl 3 rfl) ?_
  refine lv_bipush (v := 6) hx hb dL_law_1080 (by decide) ?_
  refine lv_iadd hx hb dL_law_1082 ?_
  refine va_sld hx hb hX hbl hbA hS (vp_off hx3 hk hL 6 (by decide)) dL_law_1083 ?_
  refine m_callViF (As := [.int (xs (x3 + 1).toNatClampNeg), .int (xs (x3 + 2).toNatClampNeg), .int (xs (x3 + 3).toNatClampNeg), .int (xs (x3 + 4).toNatClampNeg), .int (xs (x3 + 5).toNatClampNeg), .int (xs (x3 + 6).toNatClampNeg)]) (rest := [.int rx]) ⟨hx, hb, hml, hown, hts⟩ (kX11_draw l D cI cZ adm hDm Mm (xs (x3 + 1).toNatClampNeg) (xs (x3 + 2).toNatClampNeg) (xs (x3 + 3).toNatClampNeg) (xs (x3 + 4).toNatClampNeg) (xs (x3 + 5).toNatClampNeg) (xs (x3 + 6).toNatClampNeg) _ h) (cwV 6 hts (gdV (fun w h => h) (inA_34 _ (List.mem_of_getElem? (i := 9) rfl)) vX11_draw) rfl rfl rfl (by decide +kernel) ⟨Nat.le_of_ble_eq_true rfl, Nat.le_of_ble_eq_true rfl⟩) (va_recv hK hPm (ci := 11) (q0 := 0) rfl (mW_0 cI cZ adm Mm)) hPm hK hS hAm hl.1 rfl rfl (Nat.le_of_ble_eq_true rfl) dL_law_1084 ⟨Nat.le_of_ble_eq_true rfl, Nat.le_of_ble_eq_true rfl⟩ (fun rm Nm H locs h hPm hz1 hk1 hS => ?_)
  have hPx := P_keptX hPx hk1 hdis
  refine lv_icmp_eq (tgt := 1283) hx hb dL_law_1087 (by decide) (fun q1087 => ?_) (fun q1087 => ?_)
  · exact hnext Nx Nm H locs h.2 hPx hPm hS
  · exact absurd h.1 q1087
set_option maxHeartbeats 4000000 in
set_option maxRecDepth 100000 in
theorem law_truth {p : Program} {e : Env} {s : State} {m : MethodId} {below : List Frame} {meth : Method} {c : Code} (l : Launch) {b L : Nat} {xs : Nat → Int32} {D : va_G} {cI cZ : ClassId} {adx adm : Nat → Nat} {zA zD zR : Nat} (C0 : LCx p s m meth c b L xs D cI cZ adx adm zA zD zR) {Inv : Mem → Mem → Prop} (hst : St_truth Inv) (k : Nat) (x3 : Int32) (hx3 : x3 = nI k) (hk : k + 8 ≤ L) (Mx Mm : Mem) (hI : Inv Mx Mm) (H : Heap) (locs : List Loc) (ls : Array Slot) (hl : lv_has ls 4 [(0, .ref b), (1, .ref (adx 0)), (2, .ref (adm 0)), (3, .int x3)]) (hPx : va_P D vwCl (xW cI cZ adx Mx) H) (hPm : va_P D vwCl (mW cI cZ adm Mm) H) (hS : va_S (lwA s) s.heap H locs) (hnext : ∀ (Nx Nm : Mem) (H : Heap) (locs : List Loc), Inv Nx Nm → va_P D vwCl (xW cI cZ adx Nx) H → va_P D vwCl (mW cI cZ adm Nm) H → va_S (lwA s) s.heap H locs → GL p l e s m below meth c b H locs (F0 m 1283 ls [])) : GL p l e s m below meth c b H locs (F0 m 1092 ls []) := by
  obtain ⟨⟨hx, hb, hr, hml, hown, hts, hX, hbl, hlocks, hgv⟩, hL, hK, hZ, hN, hDx, hDm, hAx, hAm, hdis⟩ := C0
  have hts : ∀ w ∈ wsL_law, w.before #[Value.ref b] s = true := fun w h => hts w (wsL_law_in w h)
  have hbA : ¬ lwA s b := Nat.not_le.mpr hbl
  refine lv_aload_n hx hb dL_law_1092 rfl (lv_at hl 1 rfl) ?_
  refine lv_aload_n hx hb dL_law_1093 rfl (lv_at hl 0 rfl) ?_
  refine lv_iload_n hx hb dL_law_1094 rfl (lv_at hl 3 rfl) ?_
  refine lv_iconst (v := 1) hx hb dL_law_1095 (by decide) ?_
  refine lv_iadd hx hb dL_law_1096 ?_
  refine va_sld hx hb hX hbl hbA hS (vp_off hx3 hk hL 1 (by decide)) dL_law_1097 ?_
  refine lv_aload_n hx hb dL_law_1098 rfl (lv_at hl 0 rfl) ?_
  refine lv_iload_n hx hb dL_law_1099 rfl (lv_at hl 3 rfl) ?_
  refine lv_iconst (v := 2) hx hb dL_law_1100 (by decide) ?_
  refine lv_iadd hx hb dL_law_1101 ?_
  refine va_sld hx hb hX hbl hbA hS (vp_off hx3 hk hL 2 (by decide)) dL_law_1102 ?_
  have h := hst Mx Mm (xs (x3 + 1).toNatClampNeg) (xs (x3 + 2).toNatClampNeg) hI
  refine x_callViF (As := [.int (xs (x3 + 1).toNatClampNeg), .int (xs (x3 + 2).toNatClampNeg)]) (rest := []) ⟨hx, hb, hml, hown, hts⟩ (kX10_truth l D cI cZ adx zA zD zR hDx Mx (xs (x3 + 1).toNatClampNeg) (xs (x3 + 2).toNatClampNeg) _ h) (cwV 2 hts (gdV (fun w h => h) (inA_34 _ (List.mem_of_getElem? (i := 14) rfl)) vX10_truth) rfl rfl rfl (by decide +kernel) ⟨Nat.le_of_ble_eq_true rfl, Nat.le_of_ble_eq_true rfl⟩) (va_recv hK hPx (ci := 10) (q0 := 0) rfl (xW_0 cI cZ adx Mx)) hPx hK hZ hN hS hAx hl.1 rfl rfl (Nat.le_of_ble_eq_true rfl) dL_law_1103 ⟨Nat.le_of_ble_eq_true rfl, Nat.le_of_ble_eq_true rfl⟩ (fun rx Nx H locs h hPx hz1 hk1 hS => ?_)
  have hPm := P_keptM hPm hk1 hdis
  refine lv_aload_n hx hb dL_law_1106 rfl (lv_at hl 2 rfl) ?_
  refine lv_aload_n hx hb dL_law_1107 rfl (lv_at hl 0 rfl) ?_
  refine lv_iload_n hx hb dL_law_1108 rfl (lv_at hl 3 rfl) ?_
  refine lv_iconst (v := 1) hx hb dL_law_1109 (by decide) ?_
  refine lv_iadd hx hb dL_law_1110 ?_
  refine va_sld hx hb hX hbl hbA hS (vp_off hx3 hk hL 1 (by decide)) dL_law_1111 ?_
  refine lv_aload_n hx hb dL_law_1112 rfl (lv_at hl 0 rfl) ?_
  refine lv_iload_n hx hb dL_law_1113 rfl (lv_at hl 3 rfl) ?_
  refine lv_iconst (v := 2) hx hb dL_law_1114 (by decide) ?_
  refine lv_iadd hx hb dL_law_1115 ?_
  refine va_sld hx hb hX hbl hbA hS (vp_off hx3 hk hL 2 (by decide)) dL_law_1116 ?_
  refine m_callViF (As := [.int (xs (x3 + 1).toNatClampNeg), .int (xs (x3 + 2).toNatClampNeg)]) (rest := [.int rx]) ⟨hx, hb, hml, hown, hts⟩ (kX11_truth l D cI cZ adm hDm Mm (xs (x3 + 1).toNatClampNeg) (xs (x3 + 2).toNatClampNeg) _ h) (cwV 2 hts (gdV (fun w h => h) (inA_34 _ (List.mem_of_getElem? (i := 19) rfl)) vX11_truth) rfl rfl rfl (by decide +kernel) ⟨Nat.le_of_ble_eq_true rfl, Nat.le_of_ble_eq_true rfl⟩) (va_recv hK hPm (ci := 11) (q0 := 0) rfl (mW_0 cI cZ adm Mm)) hPm hK hS hAm hl.1 rfl rfl (Nat.le_of_ble_eq_true rfl) dL_law_1117 ⟨Nat.le_of_ble_eq_true rfl, Nat.le_of_ble_eq_true rfl⟩ (fun rm Nm H locs h hPm hz1 hk1 hS => ?_)
  have hPx := P_keptX hPx hk1 hdis
  refine lv_icmp_eq (tgt := 1283) hx hb dL_law_1120 (by decide) (fun q1120 => ?_) (fun q1120 => ?_)
  · exact hnext Nx Nm H locs h.2 hPx hPm hS
  · exact absurd h.1 q1120
set_option maxHeartbeats 4000000 in
set_option maxRecDepth 100000 in
theorem law_score {p : Program} {e : Env} {s : State} {m : MethodId} {below : List Frame} {meth : Method} {c : Code} (l : Launch) {b L : Nat} {xs : Nat → Int32} {D : va_G} {cI cZ : ClassId} {adx adm : Nat → Nat} {zA zD zR : Nat} (C0 : LCx p s m meth c b L xs D cI cZ adx adm zA zD zR) {Inv : Mem → Mem → Prop} (hst : St_score Inv) (k : Nat) (x3 : Int32) (hx3 : x3 = nI k) (hk : k + 8 ≤ L) (Mx Mm : Mem) (hI : Inv Mx Mm) (H : Heap) (locs : List Loc) (ls : Array Slot) (hl : lv_has ls 4 [(0, .ref b), (1, .ref (adx 0)), (2, .ref (adm 0)), (3, .int x3)]) (hPx : va_P D vwCl (xW cI cZ adx Mx) H) (hPm : va_P D vwCl (mW cI cZ adm Mm) H) (hS : va_S (lwA s) s.heap H locs) (hnext : ∀ (Nx Nm : Mem) (H : Heap) (locs : List Loc), Inv Nx Nm → va_P D vwCl (xW cI cZ adx Nx) H → va_P D vwCl (mW cI cZ adm Nm) H → va_S (lwA s) s.heap H locs → GL p l e s m below meth c b H locs (F0 m 1283 ls [])) : GL p l e s m below meth c b H locs (F0 m 1125 ls []) := by
  obtain ⟨⟨hx, hb, hr, hml, hown, hts, hX, hbl, hlocks, hgv⟩, hL, hK, hZ, hN, hDx, hDm, hAx, hAm, hdis⟩ := C0
  have hts : ∀ w ∈ wsL_law, w.before #[Value.ref b] s = true := fun w h => hts w (wsL_law_in w h)
  have hbA : ¬ lwA s b := Nat.not_le.mpr hbl
  refine lv_aload_n hx hb dL_law_1125 rfl (lv_at hl 1 rfl) ?_
  refine lv_aload_n hx hb dL_law_1126 rfl (lv_at hl 0 rfl) ?_
  refine lv_iload_n hx hb dL_law_1127 rfl (lv_at hl 3 rfl) ?_
  refine lv_iconst (v := 1) hx hb dL_law_1128 (by decide) ?_
  refine lv_iadd hx hb dL_law_1129 ?_
  refine va_sld hx hb hX hbl hbA hS (vp_off hx3 hk hL 1 (by decide)) dL_law_1130 ?_
  have h := hst Mx Mm (xs (x3 + 1).toNatClampNeg) hI
  refine x_callViF (As := [.int (xs (x3 + 1).toNatClampNeg)]) (rest := []) ⟨hx, hb, hml, hown, hts⟩ (kX10_score l D cI cZ adx zA zD zR hDx Mx (xs (x3 + 1).toNatClampNeg) _ h) (cwV 1 hts (gdV (fun w h => h) (inA_34 _ (List.mem_of_getElem? (i := 23) rfl)) vX10_score) rfl rfl rfl (by decide +kernel) ⟨Nat.le_of_ble_eq_true rfl, Nat.le_of_ble_eq_true rfl⟩) (va_recv hK hPx (ci := 10) (q0 := 0) rfl (xW_0 cI cZ adx Mx)) hPx hK hZ hN hS hAx hl.1 rfl rfl (Nat.le_of_ble_eq_true rfl) dL_law_1131 ⟨Nat.le_of_ble_eq_true rfl, Nat.le_of_ble_eq_true rfl⟩ (fun rx Nx H locs h hPx hz1 hk1 hS => ?_)
  have hPm := P_keptM hPm hk1 hdis
  refine lv_aload_n hx hb dL_law_1134 rfl (lv_at hl 2 rfl) ?_
  refine lv_aload_n hx hb dL_law_1135 rfl (lv_at hl 0 rfl) ?_
  refine lv_iload_n hx hb dL_law_1136 rfl (lv_at hl 3 rfl) ?_
  refine lv_iconst (v := 1) hx hb dL_law_1137 (by decide) ?_
  refine lv_iadd hx hb dL_law_1138 ?_
  refine va_sld hx hb hX hbl hbA hS (vp_off hx3 hk hL 1 (by decide)) dL_law_1139 ?_
  refine m_callViF (As := [.int (xs (x3 + 1).toNatClampNeg)]) (rest := [.int rx]) ⟨hx, hb, hml, hown, hts⟩ (kX11_score l D cI cZ adm hDm Mm (xs (x3 + 1).toNatClampNeg) _ h) (cwV 1 hts (gdV (fun w h => h) (inA_35 _ (List.mem_of_getElem? (i := 10) rfl)) vX11_score) rfl rfl rfl (by decide +kernel) ⟨Nat.le_of_ble_eq_true rfl, Nat.le_of_ble_eq_true rfl⟩) (va_recv hK hPm (ci := 11) (q0 := 0) rfl (mW_0 cI cZ adm Mm)) hPm hK hS hAm hl.1 rfl rfl (Nat.le_of_ble_eq_true rfl) dL_law_1140 ⟨Nat.le_of_ble_eq_true rfl, Nat.le_of_ble_eq_true rfl⟩ (fun rm Nm H locs h hPm hz1 hk1 hS => ?_)
  have hPx := P_keptX hPx hk1 hdis
  refine lv_icmp_eq (tgt := 1283) hx hb dL_law_1143 (by decide) (fun q1143 => ?_) (fun q1143 => ?_)
  · exact hnext Nx Nm H locs h.2 hPx hPm hS
  · exact absurd h.1 q1143
set_option maxHeartbeats 4000000 in
set_option maxRecDepth 100000 in
theorem law_outline {p : Program} {e : Env} {s : State} {m : MethodId} {below : List Frame} {meth : Method} {c : Code} (l : Launch) {b L : Nat} {xs : Nat → Int32} {D : va_G} {cI cZ : ClassId} {adx adm : Nat → Nat} {zA zD zR : Nat} (C0 : LCx p s m meth c b L xs D cI cZ adx adm zA zD zR) {Inv : Mem → Mem → Prop} (hst : St_outline Inv) (k : Nat) (x3 : Int32) (hx3 : x3 = nI k) (hk : k + 8 ≤ L) (Mx Mm : Mem) (hI : Inv Mx Mm) (H : Heap) (locs : List Loc) (ls : Array Slot) (hl : lv_has ls 4 [(0, .ref b), (1, .ref (adx 0)), (2, .ref (adm 0)), (3, .int x3)]) (hPx : va_P D vwCl (xW cI cZ adx Mx) H) (hPm : va_P D vwCl (mW cI cZ adm Mm) H) (hS : va_S (lwA s) s.heap H locs) (hnext : ∀ (Nx Nm : Mem) (H : Heap) (locs : List Loc), Inv Nx Nm → va_P D vwCl (xW cI cZ adx Nx) H → va_P D vwCl (mW cI cZ adm Nm) H → va_S (lwA s) s.heap H locs → GL p l e s m below meth c b H locs (F0 m 1283 ls [])) : GL p l e s m below meth c b H locs (F0 m 1148 ls []) := by
  obtain ⟨⟨hx, hb, hr, hml, hown, hts, hX, hbl, hlocks, hgv⟩, hL, hK, hZ, hN, hDx, hDm, hAx, hAm, hdis⟩ := C0
  have hts : ∀ w ∈ wsL_law, w.before #[Value.ref b] s = true := fun w h => hts w (wsL_law_in w h)
  have hbA : ¬ lwA s b := Nat.not_le.mpr hbl
  refine lv_aload_n hx hb dL_law_1148 rfl (lv_at hl 1 rfl) ?_
  refine lv_aload_n hx hb dL_law_1149 rfl (lv_at hl 0 rfl) ?_
  refine lv_iload_n hx hb dL_law_1150 rfl (lv_at hl 3 rfl) ?_
  refine lv_iconst (v := 1) hx hb dL_law_1151 (by decide) ?_
  refine lv_iadd hx hb dL_law_1152 ?_
  refine va_sld hx hb hX hbl hbA hS (vp_off hx3 hk hL 1 (by decide)) dL_law_1153 ?_
  refine lv_aload_n hx hb dL_law_1154 rfl (lv_at hl 0 rfl) ?_
  refine lv_iload_n hx hb dL_law_1155 rfl (lv_at hl 3 rfl) ?_
  refine lv_iconst (v := 2) hx hb dL_law_1156 (by decide) ?_
  refine lv_iadd hx hb dL_law_1157 ?_
  refine va_sld hx hb hX hbl hbA hS (vp_off hx3 hk hL 2 (by decide)) dL_law_1158 ?_
  refine lv_aload_n hx hb dL_law_1159 rfl (lv_at hl 0 rfl) ?_
  refine lv_iload_n hx hb dL_law_1160 rfl (lv_at hl 3 rfl) ?_
  refine lv_iconst (v := 3) hx hb dL_law_1161 (by decide) ?_
  refine lv_iadd hx hb dL_law_1162 ?_
  refine va_sld hx hb hX hbl hbA hS (vp_off hx3 hk hL 3 (by decide)) dL_law_1163 ?_
  have h := hst Mx Mm (xs (x3 + 1).toNatClampNeg) (xs (x3 + 2).toNatClampNeg) (xs (x3 + 3).toNatClampNeg) hI
  refine x_callViF (As := [.int (xs (x3 + 1).toNatClampNeg), .int (xs (x3 + 2).toNatClampNeg), .int (xs (x3 + 3).toNatClampNeg)]) (rest := []) ⟨hx, hb, hml, hown, hts⟩ (kX10_outline l D cI cZ adx zA zD zR hDx Mx (xs (x3 + 1).toNatClampNeg) (xs (x3 + 2).toNatClampNeg) (xs (x3 + 3).toNatClampNeg) _ h) (cwV 3 hts (gdV (fun w h => h) (inA_35 _ (List.mem_of_getElem? (i := 18) rfl)) vX10_outline) rfl rfl rfl (by decide +kernel) ⟨Nat.le_of_ble_eq_true rfl, Nat.le_of_ble_eq_true rfl⟩) (va_recv hK hPx (ci := 10) (q0 := 0) rfl (xW_0 cI cZ adx Mx)) hPx hK hZ hN hS hAx hl.1 rfl rfl (Nat.le_of_ble_eq_true rfl) dL_law_1164 ⟨Nat.le_of_ble_eq_true rfl, Nat.le_of_ble_eq_true rfl⟩ (fun rx Nx H locs h hPx hz1 hk1 hS => ?_)
  have hPm := P_keptM hPm hk1 hdis
  refine lv_aload_n hx hb dL_law_1167 rfl (lv_at hl 2 rfl) ?_
  refine lv_aload_n hx hb dL_law_1168 rfl (lv_at hl 0 rfl) ?_
  refine lv_iload_n hx hb dL_law_1169 rfl (lv_at hl 3 rfl) ?_
  refine lv_iconst (v := 1) hx hb dL_law_1170 (by decide) ?_
  refine lv_iadd hx hb dL_law_1171 ?_
  refine va_sld hx hb hX hbl hbA hS (vp_off hx3 hk hL 1 (by decide)) dL_law_1172 ?_
  refine lv_aload_n hx hb dL_law_1173 rfl (lv_at hl 0 rfl) ?_
  refine lv_iload_n hx hb dL_law_1174 rfl (lv_at hl 3 rfl) ?_
  refine lv_iconst (v := 2) hx hb dL_law_1175 (by decide) ?_
  refine lv_iadd hx hb dL_law_1176 ?_
  refine va_sld hx hb hX hbl hbA hS (vp_off hx3 hk hL 2 (by decide)) dL_law_1177 ?_
  refine lv_aload_n hx hb dL_law_1178 rfl (lv_at hl 0 rfl) ?_
  refine lv_iload_n hx hb dL_law_1179 rfl (lv_at hl 3 rfl) ?_
  refine lv_iconst (v := 3) hx hb dL_law_1180 (by decide) ?_
  refine lv_iadd hx hb dL_law_1181 ?_
  refine va_sld hx hb hX hbl hbA hS (vp_off hx3 hk hL 3 (by decide)) dL_law_1182 ?_
  refine m_callViF (As := [.int (xs (x3 + 1).toNatClampNeg), .int (xs (x3 + 2).toNatClampNeg), .int (xs (x3 + 3).toNatClampNeg)]) (rest := [.int rx]) ⟨hx, hb, hml, hown, hts⟩ (kX11_outline l D cI cZ adm hDm Mm (xs (x3 + 1).toNatClampNeg) (xs (x3 + 2).toNatClampNeg) (xs (x3 + 3).toNatClampNeg) _ h) (cwV 3 hts (gdV (fun w h => h) (inA_36 _ (List.mem_of_getElem? (i := 3) rfl)) vX11_outline) rfl rfl rfl (by decide +kernel) ⟨Nat.le_of_ble_eq_true rfl, Nat.le_of_ble_eq_true rfl⟩) (va_recv hK hPm (ci := 11) (q0 := 0) rfl (mW_0 cI cZ adm Mm)) hPm hK hS hAm hl.1 rfl rfl (Nat.le_of_ble_eq_true rfl) dL_law_1183 ⟨Nat.le_of_ble_eq_true rfl, Nat.le_of_ble_eq_true rfl⟩ (fun rm Nm H locs h hPm hz1 hk1 hS => ?_)
  have hPx := P_keptX hPx hk1 hdis
  refine lv_icmp_eq (tgt := 1283) hx hb dL_law_1186 (by decide) (fun q1186 => ?_) (fun q1186 => ?_)
  · exact hnext Nx Nm H locs h.2 hPx hPm hS
  · exact absurd h.1 q1186
set_option maxHeartbeats 4000000 in
set_option maxRecDepth 100000 in
theorem law_cube {p : Program} {e : Env} {s : State} {m : MethodId} {below : List Frame} {meth : Method} {c : Code} (l : Launch) {b L : Nat} {xs : Nat → Int32} {D : va_G} {cI cZ : ClassId} {adx adm : Nat → Nat} {zA zD zR : Nat} (C0 : LCx p s m meth c b L xs D cI cZ adx adm zA zD zR) {Inv : Mem → Mem → Prop} (hst : St_cube Inv) (k : Nat) (x3 : Int32) (hx3 : x3 = nI k) (hk : k + 8 ≤ L) (Mx Mm : Mem) (hI : Inv Mx Mm) (H : Heap) (locs : List Loc) (ls : Array Slot) (hl : lv_has ls 4 [(0, .ref b), (1, .ref (adx 0)), (2, .ref (adm 0)), (3, .int x3)]) (hPx : va_P D vwCl (xW cI cZ adx Mx) H) (hPm : va_P D vwCl (mW cI cZ adm Mm) H) (hS : va_S (lwA s) s.heap H locs) (hnext : ∀ (Nx Nm : Mem) (H : Heap) (locs : List Loc), Inv Nx Nm → va_P D vwCl (xW cI cZ adx Nx) H → va_P D vwCl (mW cI cZ adm Nm) H → va_S (lwA s) s.heap H locs → GL p l e s m below meth c b H locs (F0 m 1283 ls [])) : GL p l e s m below meth c b H locs (F0 m 1191 ls []) := by
  obtain ⟨⟨hx, hb, hr, hml, hown, hts, hX, hbl, hlocks, hgv⟩, hL, hK, hZ, hN, hDx, hDm, hAx, hAm, hdis⟩ := C0
  have hts : ∀ w ∈ wsL_law, w.before #[Value.ref b] s = true := fun w h => hts w (wsL_law_in w h)
  have hbA : ¬ lwA s b := Nat.not_le.mpr hbl
  refine lv_aload_n hx hb dL_law_1191 rfl (lv_at hl 1 rfl) ?_
  refine lv_aload_n hx hb dL_law_1192 rfl (lv_at hl 0 rfl) ?_
  refine lv_iload_n hx hb dL_law_1193 rfl (lv_at hl 3 rfl) ?_
  refine lv_iconst (v := 1) hx hb dL_law_1194 (by decide) ?_
  refine lv_iadd hx hb dL_law_1195 ?_
  refine va_sld hx hb hX hbl hbA hS (vp_off hx3 hk hL 1 (by decide)) dL_law_1196 ?_
  refine lv_aload_n hx hb dL_law_1197 rfl (lv_at hl 0 rfl) ?_
  refine lv_iload_n hx hb dL_law_1198 rfl (lv_at hl 3 rfl) ?_
  refine lv_iconst (v := 2) hx hb dL_law_1199 (by decide) ?_
  refine lv_iadd hx hb dL_law_1200 ?_
  refine va_sld hx hb hX hbl hbA hS (vp_off hx3 hk hL 2 (by decide)) dL_law_1201 ?_
  refine lv_aload_n hx hb dL_law_1202 rfl (lv_at hl 0 rfl) ?_
  refine lv_iload_n hx hb dL_law_1203 rfl (lv_at hl 3 rfl) ?_
  refine lv_iconst (v := 3) hx hb dL_law_1204 (by decide) ?_
  refine lv_iadd hx hb dL_law_1205 ?_
  refine va_sld hx hb hX hbl hbA hS (vp_off hx3 hk hL 3 (by decide)) dL_law_1206 ?_
  have h := hst Mx Mm (xs (x3 + 1).toNatClampNeg) (xs (x3 + 2).toNatClampNeg) (xs (x3 + 3).toNatClampNeg) hI
  refine x_callViF (As := [.int (xs (x3 + 1).toNatClampNeg), .int (xs (x3 + 2).toNatClampNeg), .int (xs (x3 + 3).toNatClampNeg)]) (rest := []) ⟨hx, hb, hml, hown, hts⟩ (kX10_cube l D cI cZ adx zA zD zR hDx Mx (xs (x3 + 1).toNatClampNeg) (xs (x3 + 2).toNatClampNeg) (xs (x3 + 3).toNatClampNeg) _ h) (cwV 3 hts (gdV (fun w h => h) (inA_36 _ (List.mem_of_getElem? (i := 7) rfl)) vX10_cube) rfl rfl rfl (by decide +kernel) ⟨Nat.le_of_ble_eq_true rfl, Nat.le_of_ble_eq_true rfl⟩) (va_recv hK hPx (ci := 10) (q0 := 0) rfl (xW_0 cI cZ adx Mx)) hPx hK hZ hN hS hAx hl.1 rfl rfl (Nat.le_of_ble_eq_true rfl) dL_law_1207 ⟨Nat.le_of_ble_eq_true rfl, Nat.le_of_ble_eq_true rfl⟩ (fun rx Nx H locs h hPx hz1 hk1 hS => ?_)
  have hPm := P_keptM hPm hk1 hdis
  refine lv_aload_n hx hb dL_law_1210 rfl (lv_at hl 2 rfl) ?_
  refine lv_aload_n hx hb dL_law_1211 rfl (lv_at hl 0 rfl) ?_
  refine lv_iload_n hx hb dL_law_1212 rfl (lv_at hl 3 rfl) ?_
  refine lv_iconst (v := 1) hx hb dL_law_1213 (by decide) ?_
  refine lv_iadd hx hb dL_law_1214 ?_
  refine va_sld hx hb hX hbl hbA hS (vp_off hx3 hk hL 1 (by decide)) dL_law_1215 ?_
  refine lv_aload_n hx hb dL_law_1216 rfl (lv_at hl 0 rfl) ?_
  refine lv_iload_n hx hb dL_law_1217 rfl (lv_at hl 3 rfl) ?_
  refine lv_iconst (v := 2) hx hb dL_law_1218 (by decide) ?_
  refine lv_iadd hx hb dL_law_1219 ?_
  refine va_sld hx hb hX hbl hbA hS (vp_off hx3 hk hL 2 (by decide)) dL_law_1220 ?_
  refine lv_aload_n hx hb dL_law_1221 rfl (lv_at hl 0 rfl) ?_
  refine lv_iload_n hx hb dL_law_1222 rfl (lv_at hl 3 rfl) ?_
  refine lv_iconst (v := 3) hx hb dL_law_1223 (by decide) ?_
  refine lv_iadd hx hb dL_law_1224 ?_
  refine va_sld hx hb hX hbl hbA hS (vp_off hx3 hk hL 3 (by decide)) dL_law_1225 ?_
  refine m_callViF (As := [.int (xs (x3 + 1).toNatClampNeg), .int (xs (x3 + 2).toNatClampNeg), .int (xs (x3 + 3).toNatClampNeg)]) (rest := [.int rx]) ⟨hx, hb, hml, hown, hts⟩ (kX11_cube l D cI cZ adm hDm Mm (xs (x3 + 1).toNatClampNeg) (xs (x3 + 2).toNatClampNeg) (xs (x3 + 3).toNatClampNeg) _ h) (cwV 3 hts (gdV (fun w h => h) (inA_36 _ (List.mem_of_getElem? (i := 18) rfl)) vX11_cube) rfl rfl rfl (by decide +kernel) ⟨Nat.le_of_ble_eq_true rfl, Nat.le_of_ble_eq_true rfl⟩) (va_recv hK hPm (ci := 11) (q0 := 0) rfl (mW_0 cI cZ adm Mm)) hPm hK hS hAm hl.1 rfl rfl (Nat.le_of_ble_eq_true rfl) dL_law_1226 ⟨Nat.le_of_ble_eq_true rfl, Nat.le_of_ble_eq_true rfl⟩ (fun rm Nm H locs h hPm hz1 hk1 hS => ?_)
  have hPx := P_keptX hPx hk1 hdis
  refine lv_icmp_eq (tgt := 1283) hx hb dL_law_1229 (by decide) (fun q1229 => ?_) (fun q1229 => ?_)
  · exact hnext Nx Nm H locs h.2 hPx hPm hS
  · exact absurd h.1 q1229
set_option maxHeartbeats 4000000 in
set_option maxRecDepth 100000 in
theorem law_empty {p : Program} {e : Env} {s : State} {m : MethodId} {below : List Frame} {meth : Method} {c : Code} (l : Launch) {b L : Nat} {xs : Nat → Int32} {D : va_G} {cI cZ : ClassId} {adx adm : Nat → Nat} {zA zD zR : Nat} (C0 : LCx p s m meth c b L xs D cI cZ adx adm zA zD zR) {Inv : Mem → Mem → Prop} (hst : St_empty Inv) (k : Nat) (x3 : Int32) (hx3 : x3 = nI k) (hk : k + 8 ≤ L) (Mx Mm : Mem) (hI : Inv Mx Mm) (H : Heap) (locs : List Loc) (ls : Array Slot) (hl : lv_has ls 4 [(0, .ref b), (1, .ref (adx 0)), (2, .ref (adm 0)), (3, .int x3)]) (hPx : va_P D vwCl (xW cI cZ adx Mx) H) (hPm : va_P D vwCl (mW cI cZ adm Mm) H) (hS : va_S (lwA s) s.heap H locs) (hnext : ∀ (Nx Nm : Mem) (H : Heap) (locs : List Loc), Inv Nx Nm → va_P D vwCl (xW cI cZ adx Nx) H → va_P D vwCl (mW cI cZ adm Nm) H → va_S (lwA s) s.heap H locs → GL p l e s m below meth c b H locs (F0 m 1283 ls [])) : GL p l e s m below meth c b H locs (F0 m 1234 ls []) := by
  obtain ⟨⟨hx, hb, hr, hml, hown, hts, hX, hbl, hlocks, hgv⟩, hL, hK, hZ, hN, hDx, hDm, hAx, hAm, hdis⟩ := C0
  have hts : ∀ w ∈ wsL_law, w.before #[Value.ref b] s = true := fun w h => hts w (wsL_law_in w h)
  have hbA : ¬ lwA s b := Nat.not_le.mpr hbl
  refine lv_aload_n hx hb dL_law_1234 rfl (lv_at hl 1 rfl) ?_
  refine lv_aload_n hx hb dL_law_1235 rfl (lv_at hl 0 rfl) ?_
  refine lv_iload_n hx hb dL_law_1236 rfl (lv_at hl 3 rfl) ?_
  refine lv_iconst (v := 1) hx hb dL_law_1237 (by decide) ?_
  refine lv_iadd hx hb dL_law_1238 ?_
  refine va_sld hx hb hX hbl hbA hS (vp_off hx3 hk hL 1 (by decide)) dL_law_1239 ?_
  have h := hst Mx Mm (xs (x3 + 1).toNatClampNeg) hI
  refine x_callViF (As := [.int (xs (x3 + 1).toNatClampNeg)]) (rest := []) ⟨hx, hb, hml, hown, hts⟩ (kX10_empty l D cI cZ adx zA zD zR hDx Mx (xs (x3 + 1).toNatClampNeg) _ h) (cwV 1 hts (gdV (fun w h => h) (inA_36 _ (List.mem_of_getElem? (i := 22) rfl)) vX10_empty) rfl rfl rfl (by decide +kernel) ⟨Nat.le_of_ble_eq_true rfl, Nat.le_of_ble_eq_true rfl⟩) (va_recv hK hPx (ci := 10) (q0 := 0) rfl (xW_0 cI cZ adx Mx)) hPx hK hZ hN hS hAx hl.1 rfl rfl (Nat.le_of_ble_eq_true rfl) dL_law_1240 ⟨Nat.le_of_ble_eq_true rfl, Nat.le_of_ble_eq_true rfl⟩ (fun rx Nx H locs h hPx hz1 hk1 hS => ?_)
  have hPm := P_keptM hPm hk1 hdis
  refine lv_aload_n hx hb dL_law_1243 rfl (lv_at hl 2 rfl) ?_
  refine lv_aload_n hx hb dL_law_1244 rfl (lv_at hl 0 rfl) ?_
  refine lv_iload_n hx hb dL_law_1245 rfl (lv_at hl 3 rfl) ?_
  refine lv_iconst (v := 1) hx hb dL_law_1246 (by decide) ?_
  refine lv_iadd hx hb dL_law_1247 ?_
  refine va_sld hx hb hX hbl hbA hS (vp_off hx3 hk hL 1 (by decide)) dL_law_1248 ?_
  refine m_callViF (As := [.int (xs (x3 + 1).toNatClampNeg)]) (rest := [.int rx]) ⟨hx, hb, hml, hown, hts⟩ (kX11_empty l D cI cZ adm hDm Mm (xs (x3 + 1).toNatClampNeg) _ h) (cwV 1 hts (gdV (fun w h => h) (inA_37 _ (List.mem_of_getElem? (i := 15) rfl)) vX11_empty) rfl rfl rfl (by decide +kernel) ⟨Nat.le_of_ble_eq_true rfl, Nat.le_of_ble_eq_true rfl⟩) (va_recv hK hPm (ci := 11) (q0 := 0) rfl (mW_0 cI cZ adm Mm)) hPm hK hS hAm hl.1 rfl rfl (Nat.le_of_ble_eq_true rfl) dL_law_1249 ⟨Nat.le_of_ble_eq_true rfl, Nat.le_of_ble_eq_true rfl⟩ (fun rm Nm H locs h hPm hz1 hk1 hS => ?_)
  have hPx := P_keptX hPx hk1 hdis
  refine lv_icmp_eq (tgt := 1283) hx hb dL_law_1252 (by decide) (fun q1252 => ?_) (fun q1252 => ?_)
  · exact hnext Nx Nm H locs h.2 hPx hPm hS
  · exact absurd h.1 q1252
set_option maxHeartbeats 4000000 in
set_option maxRecDepth 100000 in
theorem law_keep {p : Program} {e : Env} {s : State} {m : MethodId} {below : List Frame} {meth : Method} {c : Code} (l : Launch) {b L : Nat} {xs : Nat → Int32} {D : va_G} {cI cZ : ClassId} {adx adm : Nat → Nat} {zA zD zR : Nat} (C0 : LCx p s m meth c b L xs D cI cZ adx adm zA zD zR) {Inv : Mem → Mem → Prop} (hst : St_keep Inv) (k : Nat) (x3 : Int32) (hx3 : x3 = nI k) (hk : k + 8 ≤ L) (Mx Mm : Mem) (hI : Inv Mx Mm) (H : Heap) (locs : List Loc) (ls : Array Slot) (hl : lv_has ls 4 [(0, .ref b), (1, .ref (adx 0)), (2, .ref (adm 0)), (3, .int x3)]) (hPx : va_P D vwCl (xW cI cZ adx Mx) H) (hPm : va_P D vwCl (mW cI cZ adm Mm) H) (hS : va_S (lwA s) s.heap H locs) (hnext : ∀ (Nx Nm : Mem) (H : Heap) (locs : List Loc), Inv Nx Nm → va_P D vwCl (xW cI cZ adx Nx) H → va_P D vwCl (mW cI cZ adm Nm) H → va_S (lwA s) s.heap H locs → GL p l e s m below meth c b H locs (F0 m 1283 ls [])) : GL p l e s m below meth c b H locs (F0 m 1257 ls []) := by
  obtain ⟨⟨hx, hb, hr, hml, hown, hts, hX, hbl, hlocks, hgv⟩, hL, hK, hZ, hN, hDx, hDm, hAx, hAm, hdis⟩ := C0
  have hts : ∀ w ∈ wsL_law, w.before #[Value.ref b] s = true := fun w h => hts w (wsL_law_in w h)
  have hbA : ¬ lwA s b := Nat.not_le.mpr hbl
  refine lv_aload_n hx hb dL_law_1257 rfl (lv_at hl 1 rfl) ?_
  have h := hst Mx Mm  hI
  refine x_callViF (As := []) (rest := []) ⟨hx, hb, hml, hown, hts⟩ (kX10_keep l D cI cZ adx zA zD zR hDx Mx  _ h) (cwV 0 hts (gdV (fun w h => h) (inA_37 _ (List.mem_of_getElem? (i := 23) rfl)) vX10_keep) rfl rfl rfl (by decide +kernel) ⟨Nat.le_of_ble_eq_true rfl, Nat.le_of_ble_eq_true rfl⟩) (va_recv hK hPx (ci := 10) (q0 := 0) rfl (xW_0 cI cZ adx Mx)) hPx hK hZ hN hS hAx hl.1 rfl rfl (Nat.le_of_ble_eq_true rfl) dL_law_1258 ⟨Nat.le_of_ble_eq_true rfl, Nat.le_of_ble_eq_true rfl⟩ (fun rx Nx H locs h hPx hz1 hk1 hS => ?_)
  have hPm := P_keptM hPm hk1 hdis
  refine lv_aload_n hx hb dL_law_1261 rfl (lv_at hl 2 rfl) ?_
  refine m_callViF (As := []) (rest := [.int rx]) ⟨hx, hb, hml, hown, hts⟩ (kX11_keep l D cI cZ adm hDm Mm  _ h) (cwV 0 hts (gdV (fun w h => h) (inA_38 _ (List.mem_of_getElem? (i := 13) rfl)) vX11_keep) rfl rfl rfl (by decide +kernel) ⟨Nat.le_of_ble_eq_true rfl, Nat.le_of_ble_eq_true rfl⟩) (va_recv hK hPm (ci := 11) (q0 := 0) rfl (mW_0 cI cZ adm Mm)) hPm hK hS hAm hl.1 rfl rfl (Nat.le_of_ble_eq_true rfl) dL_law_1262 ⟨Nat.le_of_ble_eq_true rfl, Nat.le_of_ble_eq_true rfl⟩ (fun rm Nm H locs h hPm hz1 hk1 hS => ?_)
  have hPx := P_keptX hPx hk1 hdis
  refine lv_icmp_eq (tgt := 1283) hx hb dL_law_1265 (by decide) (fun q1265 => ?_) (fun q1265 => ?_)
  · exact hnext Nx Nm H locs h.2 hPx hPm hS
  · exact absurd h.1 q1265
set_option maxHeartbeats 4000000 in
set_option maxRecDepth 100000 in
theorem law_back {p : Program} {e : Env} {s : State} {m : MethodId} {below : List Frame} {meth : Method} {c : Code} (l : Launch) {b L : Nat} {xs : Nat → Int32} {D : va_G} {cI cZ : ClassId} {adx adm : Nat → Nat} {zA zD zR : Nat} (C0 : LCx p s m meth c b L xs D cI cZ adx adm zA zD zR) {Inv : Mem → Mem → Prop} (hst : St_back Inv) (k : Nat) (x3 : Int32) (hx3 : x3 = nI k) (hk : k + 8 ≤ L) (Mx Mm : Mem) (hI : Inv Mx Mm) (H : Heap) (locs : List Loc) (ls : Array Slot) (hl : lv_has ls 4 [(0, .ref b), (1, .ref (adx 0)), (2, .ref (adm 0)), (3, .int x3)]) (hPx : va_P D vwCl (xW cI cZ adx Mx) H) (hPm : va_P D vwCl (mW cI cZ adm Mm) H) (hS : va_S (lwA s) s.heap H locs) (hnext : ∀ (Nx Nm : Mem) (H : Heap) (locs : List Loc), Inv Nx Nm → va_P D vwCl (xW cI cZ adx Nx) H → va_P D vwCl (mW cI cZ adm Nm) H → va_S (lwA s) s.heap H locs → GL p l e s m below meth c b H locs (F0 m 1283 ls [])) : GL p l e s m below meth c b H locs (F0 m 1270 ls []) := by
  obtain ⟨⟨hx, hb, hr, hml, hown, hts, hX, hbl, hlocks, hgv⟩, hL, hK, hZ, hN, hDx, hDm, hAx, hAm, hdis⟩ := C0
  have hts : ∀ w ∈ wsL_law, w.before #[Value.ref b] s = true := fun w h => hts w (wsL_law_in w h)
  have hbA : ¬ lwA s b := Nat.not_le.mpr hbl
  refine lv_aload_n hx hb dL_law_1270 rfl (lv_at hl 1 rfl) ?_
  have h := hst Mx Mm  hI
  refine x_callViF (As := []) (rest := []) ⟨hx, hb, hml, hown, hts⟩ (kX10_back l D cI cZ adx zA zD zR hDx Mx  _ h) (cwV 0 hts (gdV (fun w h => h) (inA_38 _ (List.mem_of_getElem? (i := 20) rfl)) vX10_back) rfl rfl rfl (by decide +kernel) ⟨Nat.le_of_ble_eq_true rfl, Nat.le_of_ble_eq_true rfl⟩) (va_recv hK hPx (ci := 10) (q0 := 0) rfl (xW_0 cI cZ adx Mx)) hPx hK hZ hN hS hAx hl.1 rfl rfl (Nat.le_of_ble_eq_true rfl) dL_law_1271 ⟨Nat.le_of_ble_eq_true rfl, Nat.le_of_ble_eq_true rfl⟩ (fun rx Nx H locs h hPx hz1 hk1 hS => ?_)
  have hPm := P_keptM hPm hk1 hdis
  refine lv_aload_n hx hb dL_law_1274 rfl (lv_at hl 2 rfl) ?_
  refine m_callViF (As := []) (rest := [.int rx]) ⟨hx, hb, hml, hown, hts⟩ (kX11_back l D cI cZ adm hDm Mm  _ h) (cwV 0 hts (gdV (fun w h => h) (inA_39 _ (List.mem_of_getElem? (i := 0) rfl)) vX11_back) rfl rfl rfl (by decide +kernel) ⟨Nat.le_of_ble_eq_true rfl, Nat.le_of_ble_eq_true rfl⟩) (va_recv hK hPm (ci := 11) (q0 := 0) rfl (mW_0 cI cZ adm Mm)) hPm hK hS hAm hl.1 rfl rfl (Nat.le_of_ble_eq_true rfl) dL_law_1275 ⟨Nat.le_of_ble_eq_true rfl, Nat.le_of_ble_eq_true rfl⟩ (fun rm Nm H locs h hPm hz1 hk1 hS => ?_)
  have hPx := P_keptX hPx hk1 hdis
  refine lv_icmp_eq (tgt := 1283) hx hb dL_law_1278 (by decide) (fun q1278 => ?_) (fun q1278 => ?_)
  · exact hnext Nx Nm H locs h.2 hPx hPm hS
  · exact absurd h.1 q1278
theorem law_lim {x3 : Int32} {k L : Nat} (hx3 : x3 = nI k) (hk : k ≤ 8192) (hL : L ≤ 4096) : (nI L - 8 < x3 ↔ L < k + 8) := by
  rw [hx3, show (8 : Int32) = nI 8 from rfl, Int32.lt_iff_toInt_lt, pk_sub_toInt (by omega) (by omega), nI_toInt (by omega)]
  omega
set_option maxHeartbeats 4000000 in
set_option maxRecDepth 100000 in
theorem law_loop {p : Program} {e : Env} {s : State} {m : MethodId} {below : List Frame} {meth : Method} {c : Code} (l : Launch) {b L : Nat} {xs : Nat → Int32} {D : va_G} {cI cZ : ClassId} {adx adm : Nat → Nat} {zA zD zR : Nat} (C0 : LCx p s m meth c b L xs D cI cZ adx adm zA zD zR) {Inv : Mem → Mem → Prop} (hst : AllSteps Inv) : ∀ (n k : Nat) (x3 : Int32) (Mx Mm : Mem) (H : Heap) (locs : List Loc) (ls : Array Slot), k ≤ 8192 - 8 → L + 8 ≤ k + n → x3 = nI k → Inv Mx Mm → lv_has ls 4 [(0, .ref b), (1, .ref (adx 0)), (2, .ref (adm 0)), (3, .int x3)] → va_P D vwCl (xW cI cZ adx Mx) H → va_P D vwCl (mW cI cZ adm Mm) H → va_S (lwA s) s.heap H locs → GL p l e s m below meth c b H locs (F0 m 18 ls []) := by
  intro n
  induction n with
  | zero =>
    intro k x3 Mx Mm H locs ls hk8 hn hx3 hI hl hPx hPm hS
    have C1 := C0
    obtain ⟨⟨hx, hb, hr, hml, hown, hts, hX, hbl, hlocks, hgv⟩, hL, hK, hZ, hN, hDx, hDm, hAx, hAm, hdis⟩ := C0
    have hbA : ¬ lwA s b := Nat.not_le.mpr hbl
    refine lv_iload_n hx hb dL_law_18 rfl (lv_at hl 3 rfl) ?_
    refine lv_aload_n hx hb dL_law_19 rfl (lv_at hl 0 rfl) ?_
    refine va_slen hx hb hX hbl hbA hS dL_law_20 ?_
    refine lv_bipush (v := 8) hx hb dL_law_21 (by decide) ?_
    refine lv_isub hx hb dL_law_23 ?_
    refine lv_icmp_gt (tgt := 1289) hx hb dL_law_24 (by decide) (fun q => ?_) (fun q => ?_)
    · refine lv_iconst (v := 1) hx hb dL_law_1289 (by decide) ?_
      refine va_forget (fun z hz => hS.2.2 z hz) ?_
      exact lw_ret hx hb hr hlocks dL_law_1290
    · exact absurd ((law_lim hx3 (by omega) hL).mpr (by omega)) q
  | succ n ih =>
    intro k x3 Mx Mm H locs ls hk8 hn hx3 hI hl hPx hPm hS
    have C1 := C0
    obtain ⟨⟨hx, hb, hr, hml, hown, hts, hX, hbl, hlocks, hgv⟩, hL, hK, hZ, hN, hDx, hDm, hAx, hAm, hdis⟩ := C0
    have hbA : ¬ lwA s b := Nat.not_le.mpr hbl
    refine lv_iload_n hx hb dL_law_18 rfl (lv_at hl 3 rfl) ?_
    refine lv_aload_n hx hb dL_law_19 rfl (lv_at hl 0 rfl) ?_
    refine va_slen hx hb hX hbl hbA hS dL_law_20 ?_
    refine lv_bipush (v := 8) hx hb dL_law_21 (by decide) ?_
    refine lv_isub hx hb dL_law_23 ?_
    refine lv_icmp_gt (tgt := 1289) hx hb dL_law_24 (by decide) (fun q => ?_) (fun q => ?_)
    · refine lv_iconst (v := 1) hx hb dL_law_1289 (by decide) ?_
      refine va_forget (fun z hz => hS.2.2 z hz) ?_
      exact lw_ret hx hb hr hlocks dL_law_1290
    · have hk : k + 8 ≤ L := by
        rcases Nat.lt_or_ge L (k + 8) with h | h
        · exact absurd ((law_lim hx3 (by omega) hL).mpr h) q
        · exact h
      have hnext : ∀ (Nx Nm : Mem) (H : Heap) (locs : List Loc), Inv Nx Nm → va_P D vwCl (xW cI cZ adx Nx) H → va_P D vwCl (mW cI cZ adm Nm) H → va_S (lwA s) s.heap H locs → GL p l e s m below meth c b H locs (F0 m 1283 ls []) := by
        intro Nx Nm H locs hI hPx hPm hS
        obtain ⟨x4, ex4⟩ : ∃ y : Int32, y = x3 + 8 := ⟨_, rfl⟩
        refine lv_iinc (v := x4) (lv' := [(3, .int x4), (0, .ref b), (1, .ref (adx 0)), (2, .ref (adm 0))]) hx hb dL_law_1283 hl (k := 3) rfl (by rw [ex4]; rfl) (by decide) rfl (fun ls hl => ?_)
        refine lv_goto (tgt := 18) hx hb dL_law_1286 (by decide) ?_
        exact ih (k + 8) x4 Nx Nm H locs ls (by omega) (by omega) (by rw [ex4, hx3, show (8 : Int32) = nI 8 from rfl, nI_add]) hI (lv_sub hl [1, 2, 3, 0] rfl) hPx hPm hS
      refine lv_aload_n hx hb dL_law_27 rfl (lv_at hl 0 rfl) ?_
      refine lv_iload_n hx hb dL_law_28 rfl (lv_at hl 3 rfl) ?_
      refine va_sld hx hb hX hbl hbA hS (by rw [hx3]; exact vp_in_nI (by omega) (by omega)) dL_law_29 ?_
      refine lv_bipush (v := 31) hx hb dL_law_30 (by decide) ?_
      refine lv_iand hx hb dL_law_32 ?_
      refine lv_topi (fun sel esel => ?_)
      by_cases qd : sel.toInt < 0 ∨ 28 < sel.toInt
      · refine lv_tableOut (tgt := 1283) hx hb dL_law_33 qd (by decide) ?_
        exact hnext Mx Mm H locs hI hPx hPm hS
      · have qn : ¬ sel.toInt < 0 ∧ ¬ 28 < sel.toInt := ⟨fun q => qd (Or.inl q), fun q => qd (Or.inr q)⟩
        have qc : sel.toInt = 0 ∨ sel.toInt = 1 ∨ sel.toInt = 2 ∨ sel.toInt = 3 ∨ sel.toInt = 4 ∨ sel.toInt = 5 ∨ sel.toInt = 6 ∨ sel.toInt = 7 ∨ sel.toInt = 8 ∨ sel.toInt = 9 ∨ sel.toInt = 10 ∨ sel.toInt = 11 ∨ sel.toInt = 12 ∨ sel.toInt = 13 ∨ sel.toInt = 14 ∨ sel.toInt = 15 ∨ sel.toInt = 16 ∨ sel.toInt = 17 ∨ sel.toInt = 18 ∨ sel.toInt = 19 ∨ sel.toInt = 20 ∨ sel.toInt = 21 ∨ sel.toInt = 22 ∨ sel.toInt = 23 ∨ sel.toInt = 24 ∨ sel.toInt = 25 ∨ sel.toInt = 26 ∨ sel.toInt = 27 ∨ sel.toInt = 28 := by omega
        rcases qc with qe | qe | qe | qe | qe | qe | qe | qe | qe | qe | qe | qe | qe | qe | qe | qe | qe | qe | qe | qe | qe | qe | qe | qe | qe | qe | qe | qe | qe
        · refine lv_tableIn (tgt := 164) hx hb dL_law_33 qn.1 qn.2 (by rw [qe]; rfl) (by decide) ?_
          exact law_size l C1 hst.1 k x3 hx3 hk Mx Mm hI H locs ls hl hPx hPm hS hnext
        · refine lv_tableIn (tgt := 197) hx hb dL_law_33 qn.1 qn.2 (by rw [qe]; rfl) (by decide) ?_
          exact law_shade l C1 hst.2.1 k x3 hx3 hk Mx Mm hI H locs ls hl hPx hPm hS hnext
        · refine lv_tableIn (tgt := 250) hx hb dL_law_33 qn.1 qn.2 (by rw [qe]; rfl) (by decide) ?_
          exact law_lose l C1 hst.2.2.1 k x3 hx3 hk Mx Mm hI H locs ls hl hPx hPm hS hnext
        · refine lv_tableIn (tgt := 293) hx hb dL_law_33 qn.1 qn.2 (by rw [qe]; rfl) (by decide) ?_
          exact law_row l C1 hst.2.2.2.1 k x3 hx3 hk Mx Mm hI H locs ls hl hPx hPm hS hnext
        · refine lv_tableIn (tgt := 352) hx hb dL_law_33 qn.1 qn.2 (by rw [qe]; rfl) (by decide) ?_
          exact law_copy l C1 hst.2.2.2.2.1 k x3 hx3 hk Mx Mm hI H locs ls hl hPx hPm hS hnext
        · refine lv_tableIn (tgt := 439) hx hb dL_law_33 qn.1 qn.2 (by rw [qe]; rfl) (by decide) ?_
          exact law_told l C1 hst.2.2.2.2.2.1 k x3 hx3 hk Mx Mm hI H locs ls hl hPx hPm hS hnext
        · refine lv_tableIn (tgt := 482) hx hb dL_law_33 qn.1 qn.2 (by rw [qe]; rfl) (by decide) ?_
          exact law_rule l C1 hst.2.2.2.2.2.2.1 k x3 hx3 hk Mx Mm hI H locs ls hl hPx hPm hS hnext
        · refine lv_tableIn (tgt := 515) hx hb dL_law_33 qn.1 qn.2 (by rw [qe]; rfl) (by decide) ?_
          exact law_many l C1 hst.2.2.2.2.2.2.2.1 k x3 hx3 hk Mx Mm hI H locs ls hl hPx hPm hS hnext
        · refine lv_tableIn (tgt := 538) hx hb dL_law_33 qn.1 qn.2 (by rw [qe]; rfl) (by decide) ?_
          exact law_cost l C1 hst.2.2.2.2.2.2.2.2.1 k x3 hx3 hk Mx Mm hI H locs ls hl hPx hPm hS hnext
        · refine lv_tableIn (tgt := 581) hx hb dL_law_33 qn.1 qn.2 (by rw [qe]; rfl) (by decide) ?_
          exact law_path l C1 hst.2.2.2.2.2.2.2.2.2.1 k x3 hx3 hk Mx Mm hI H locs ls hl hPx hPm hS hnext
        · refine lv_tableIn (tgt := 604) hx hb dL_law_33 qn.1 qn.2 (by rw [qe]; rfl) (by decide) ?_
          exact law_matched l C1 hst.2.2.2.2.2.2.2.2.2.2.1 k x3 hx3 hk Mx Mm hI H locs ls hl hPx hPm hS hnext
        · refine lv_tableIn (tgt := 637) hx hb dL_law_33 qn.1 qn.2 (by rw [qe]; rfl) (by decide) ?_
          exact law_hidden l C1 hst.2.2.2.2.2.2.2.2.2.2.2.1 k x3 hx3 hk Mx Mm hI H locs ls hl hPx hPm hS hnext
        · refine lv_tableIn (tgt := 670) hx hb dL_law_33 qn.1 qn.2 (by rw [qe]; rfl) (by decide) ?_
          exact law_run l C1 hst.2.2.2.2.2.2.2.2.2.2.2.2.1 k x3 hx3 hk Mx Mm hI H locs ls hl hPx hPm hS hnext
        · refine lv_tableIn (tgt := 723) hx hb dL_law_33 qn.1 qn.2 (by rw [qe]; rfl) (by decide) ?_
          exact law_sum l C1 hst.2.2.2.2.2.2.2.2.2.2.2.2.2.1 k x3 hx3 hk Mx Mm hI H locs ls hl hPx hPm hS hnext
        · refine lv_tableIn (tgt := 766) hx hb dL_law_33 qn.1 qn.2 (by rw [qe]; rfl) (by decide) ?_
          exact law_depth l C1 hst.2.2.2.2.2.2.2.2.2.2.2.2.2.2.1 k x3 hx3 hk Mx Mm hI H locs ls hl hPx hPm hS hnext
        · refine lv_tableIn (tgt := 809) hx hb dL_law_33 qn.1 qn.2 (by rw [qe]; rfl) (by decide) ?_
          exact law_agreed l C1 hst.2.2.2.2.2.2.2.2.2.2.2.2.2.2.2.1 k x3 hx3 hk Mx Mm hI H locs ls hl hPx hPm hS hnext
        · refine lv_tableIn (tgt := 842) hx hb dL_law_33 qn.1 qn.2 (by rw [qe]; rfl) (by decide) ?_
          exact law_segment l C1 hst.2.2.2.2.2.2.2.2.2.2.2.2.2.2.2.2.1 k x3 hx3 hk Mx Mm hI H locs ls hl hPx hPm hS hnext
        · refine lv_tableIn (tgt := 875) hx hb dL_law_33 qn.1 qn.2 (by rw [qe]; rfl) (by decide) ?_
          exact law_extent l C1 hst.2.2.2.2.2.2.2.2.2.2.2.2.2.2.2.2.2.1 k x3 hx3 hk Mx Mm hI H locs ls hl hPx hPm hS hnext
        · refine lv_tableIn (tgt := 908) hx hb dL_law_33 qn.1 qn.2 (by rw [qe]; rfl) (by decide) ?_
          exact law_plane l C1 hst.2.2.2.2.2.2.2.2.2.2.2.2.2.2.2.2.2.2.1 k x3 hx3 hk Mx Mm hI H locs ls hl hPx hPm hS hnext
        · refine lv_tableIn (tgt := 951) hx hb dL_law_33 qn.1 qn.2 (by rw [qe]; rfl) (by decide) ?_
          exact law_view l C1 hst.2.2.2.2.2.2.2.2.2.2.2.2.2.2.2.2.2.2.2.1 k x3 hx3 hk Mx Mm hI H locs ls hl hPx hPm hS hnext
        · refine lv_tableIn (tgt := 994) hx hb dL_law_33 qn.1 qn.2 (by rw [qe]; rfl) (by decide) ?_
          exact law_holes l C1 hst.2.2.2.2.2.2.2.2.2.2.2.2.2.2.2.2.2.2.2.2.1 k x3 hx3 hk Mx Mm hI H locs ls hl hPx hPm hS hnext
        · refine lv_tableIn (tgt := 1017) hx hb dL_law_33 qn.1 qn.2 (by rw [qe]; rfl) (by decide) ?_
          exact law_draw l C1 hst.2.2.2.2.2.2.2.2.2.2.2.2.2.2.2.2.2.2.2.2.2.1 k x3 hx3 hk Mx Mm hI H locs ls hl hPx hPm hS hnext
        · refine lv_tableIn (tgt := 1092) hx hb dL_law_33 qn.1 qn.2 (by rw [qe]; rfl) (by decide) ?_
          exact law_truth l C1 hst.2.2.2.2.2.2.2.2.2.2.2.2.2.2.2.2.2.2.2.2.2.2.1 k x3 hx3 hk Mx Mm hI H locs ls hl hPx hPm hS hnext
        · refine lv_tableIn (tgt := 1125) hx hb dL_law_33 qn.1 qn.2 (by rw [qe]; rfl) (by decide) ?_
          exact law_score l C1 hst.2.2.2.2.2.2.2.2.2.2.2.2.2.2.2.2.2.2.2.2.2.2.2.1 k x3 hx3 hk Mx Mm hI H locs ls hl hPx hPm hS hnext
        · refine lv_tableIn (tgt := 1148) hx hb dL_law_33 qn.1 qn.2 (by rw [qe]; rfl) (by decide) ?_
          exact law_outline l C1 hst.2.2.2.2.2.2.2.2.2.2.2.2.2.2.2.2.2.2.2.2.2.2.2.2.1 k x3 hx3 hk Mx Mm hI H locs ls hl hPx hPm hS hnext
        · refine lv_tableIn (tgt := 1191) hx hb dL_law_33 qn.1 qn.2 (by rw [qe]; rfl) (by decide) ?_
          exact law_cube l C1 hst.2.2.2.2.2.2.2.2.2.2.2.2.2.2.2.2.2.2.2.2.2.2.2.2.2.1 k x3 hx3 hk Mx Mm hI H locs ls hl hPx hPm hS hnext
        · refine lv_tableIn (tgt := 1234) hx hb dL_law_33 qn.1 qn.2 (by rw [qe]; rfl) (by decide) ?_
          exact law_empty l C1 hst.2.2.2.2.2.2.2.2.2.2.2.2.2.2.2.2.2.2.2.2.2.2.2.2.2.2.1 k x3 hx3 hk Mx Mm hI H locs ls hl hPx hPm hS hnext
        · refine lv_tableIn (tgt := 1257) hx hb dL_law_33 qn.1 qn.2 (by rw [qe]; rfl) (by decide) ?_
          exact law_keep l C1 hst.2.2.2.2.2.2.2.2.2.2.2.2.2.2.2.2.2.2.2.2.2.2.2.2.2.2.2.1 k x3 hx3 hk Mx Mm hI H locs ls hl hPx hPm hS hnext
        · refine lv_tableIn (tgt := 1270) hx hb dL_law_33 qn.1 qn.2 (by rw [qe]; rfl) (by decide) ?_
          exact law_back l C1 hst.2.2.2.2.2.2.2.2.2.2.2.2.2.2.2.2.2.2.2.2.2.2.2.2.2.2.2.2 k x3 hx3 hk Mx Mm hI H locs ls hl hPx hPm hS hnext
set_option maxHeartbeats 4000000 in
set_option maxRecDepth 100000 in
/-- the law from its entry, over any relation of both memories that every call keeps -/
theorem start_of {p : Program} {e : Env} {s : State} {m : MethodId} {below : List Frame} {meth : Method} {c : Code} (l : Launch) {b L : Nat} {xs : Nat → Int32} {Inv : Mem → Mem → Prop} (hst : AllSteps Inv) (h0 : wX11_blank M1m 1 1 (fun Mm => Inv M0x Mm)) (hL : L ≤ 4096) (C0 : lw_At p s m meth c b L xs) : W p l e room_1 s m #[Value.ref b] below meth c s.heap [] 0 0 (lw_Z below #[Value.ref b] s) (entryFrame m ([Value.ref b] : List Value).toArray 4) := by
  obtain ⟨hx, hb, hr, hml, hown, hts0, hX, hbl, hlocks, hgv⟩ := id C0
  have hts : ∀ w ∈ wsL_law, w.before #[Value.ref b] s = true := fun w h => hts0 w (wsL_law_in w h)
  have hA : ∀ q : Nat, s.heap.size ≤ q → lwA s q := fun _ h => h
  have hbA : ¬ lwA s b := Nat.not_le.mpr hbl
  have hAo : ∀ a : Nat, a < s.heap.size → ¬ lwA s a := fun a h => Nat.not_le.mpr h
  obtain ⟨cX0, iSX0, hKnX0⟩ := u_known (C := RX0) (T := TX0) (N := 1) (n := 1) hts inCX0 (hts (.instantiable RX0 1) (inA_2 _ (List.mem_of_getElem? (i := 21) rfl)))
  obtain ⟨cX1, iSX1, hKnX1⟩ := u_known (C := RX1) (T := TX1) (N := 4) (n := 4) hts inCX1 (hts (.instantiable RX1 4) (inA_1 _ (List.mem_of_getElem? (i := 21) rfl)))
  obtain ⟨cX2, iSX2, hKnX2⟩ := u_known (C := RX2) (T := TX2) (N := 2) (n := 2) hts inCX2 (hts (.instantiable RX2 2) (inA_2 _ (List.mem_of_getElem? (i := 9) rfl)))
  obtain ⟨cX3, iSX3, hKnX3⟩ := u_known (C := RX3) (T := TX3) (N := 3) (n := 3) hts inCX3 (hts (.instantiable RX3 3) (inA_2 _ (List.mem_of_getElem? (i := 1) rfl)))
  obtain ⟨cX4, iSX4, hKnX4⟩ := u_known (C := RX4) (T := TX4) (N := 2) (n := 2) hts inCX4 (hts (.instantiable RX4 2) (inA_3 _ (List.mem_of_getElem? (i := 7) rfl)))
  obtain ⟨cX5, iSX5, hKnX5⟩ := u_known (C := RX5) (T := TX5) (N := 11) (n := 11) hts inCX5 (hts (.instantiable RX5 11) (inA_2 _ (List.mem_of_getElem? (i := 17) rfl)))
  obtain ⟨cX6, iSX6, hKnX6⟩ := u_known (C := RX6) (T := TX6) (N := 5) (n := 5) hts inCX6 (hts (.instantiable RX6 5) (inA_1 _ (List.mem_of_getElem? (i := 13) rfl)))
  obtain ⟨cX7, iSX7, hKnX7⟩ := u_known (C := RX7) (T := TX7) (N := 2) (n := 2) hts inCX7 (hts (.instantiable RX7 2) (inA_2 _ (List.mem_of_getElem? (i := 13) rfl)))
  obtain ⟨cX8, iSX8, hKnX8⟩ := u_known (C := RX8) (T := TX8) (N := 3) (n := 3) hts inCX8 (hts (.instantiable RX8 3) (inA_4 _ (List.mem_of_getElem? (i := 2) rfl)))
  obtain ⟨cX9, iSX9, hKnX9⟩ := u_known (C := RX9) (T := TX9) (N := 7) (n := 7) hts inCX9 (hts (.instantiable RX9 7) (inA_2 _ (List.mem_of_getElem? (i := 5) rfl)))
  obtain ⟨cX10, iSX10, hKnX10⟩ := u_known (C := RX10) (T := TX10) (N := 11) (n := 11) hts inCX10 (hts (.instantiable RX10 11) (inA_1 _ (List.mem_of_getElem? (i := 1) rfl)))
  obtain ⟨cX11, iSX11, hKnX11⟩ := u_known (C := RX11) (T := TX11) (N := 26) (n := 26) hts inCX11 (hts (.instantiable RX11 26) (inA_1 _ (List.mem_of_getElem? (i := 4) rfl)))
  obtain ⟨dC, dI, hKc⟩ : ∃ (dC : Nat → ClassId) (dI : Nat → Nat → Nat), ∀ (k : Nat) (q : vw_C), vwCl[k]? = some q → u_Kn s q.1 q.2.1 q.2.2 (dC k) (dI k) := by
    refine ⟨fun k => if k = 0 then cX0 else if k = 1 then cX1 else if k = 2 then cX2 else if k = 3 then cX3 else if k = 4 then cX4 else if k = 5 then cX5 else if k = 6 then cX6 else if k = 7 then cX7 else if k = 8 then cX8 else if k = 9 then cX9 else if k = 10 then cX10 else cX11, fun k => if k = 0 then iSX0 else if k = 1 then iSX1 else if k = 2 then iSX2 else if k = 3 then iSX3 else if k = 4 then iSX4 else if k = 5 then iSX5 else if k = 6 then iSX6 else if k = 7 then iSX7 else if k = 8 then iSX8 else if k = 9 then iSX9 else if k = 10 then iSX10 else iSX11, ?_⟩
    intro k q hq
    match k, hq with
    | 0, hq => cases hq; exact hKnX0
    | 1, hq => cases hq; exact hKnX1
    | 2, hq => cases hq; exact hKnX2
    | 3, hq => cases hq; exact hKnX3
    | 4, hq => cases hq; exact hKnX4
    | 5, hq => cases hq; exact hKnX5
    | 6, hq => cases hq; exact hKnX6
    | 7, hq => cases hq; exact hKnX7
    | 8, hq => cases hq; exact hKnX8
    | 9, hq => cases hq; exact hKnX9
    | 10, hq => cases hq; exact hKnX10
    | 11, hq => cases hq; exact hKnX11
    | k + 12, hq => simp [vwCl] at hq
  obtain ⟨cI, kI, compI, hI1, hI2, hI3⟩ := Cond.arrayClass_spec (hts (.arrayClass .int) (inA_1 _ (List.mem_of_getElem? (i := 18) rfl)))
  obtain ⟨cZ, kZ, compZ, hZ1, hZ2, hZ3⟩ := Cond.arrayClass_spec (hts (.arrayClass .boolean) (inA_3 _ (List.mem_of_getElem? (i := 16) rfl)))
  have hK : va_K (dC, dI) vwCl [(cI, .int), (cZ, .boolean)] s := by
    refine ⟨hKc, fun k q h => ?_⟩
    match k, h with
    | 0, h => cases h; exact ⟨fun n z => ⟨fun k h => (by cases h), kI, hI2, compI, hI3⟩, hI1⟩
    | 1, h => cases h; exact ⟨fun n z => ⟨fun k h => (by cases h), kZ, hZ2, compZ, hZ3⟩, hZ1⟩
    | k + 2, h => simp at h
  have hs := flat_of_before _ hgv
  have hini := hts (.initialized RX10) (inA_1 _ (List.mem_of_getElem? (i := 2) rfl))
  obtain ⟨zA, ezA, tzA⟩ := va_Tof (tm := (.static "TwoEyes" "ASIDE" "[I")) (ty := .int) (N := 8) (f := fun j => .int (tabA j)) (A := lwA s) (args := #[Value.ref b]) (s := s) (by decide) (hs (.arrayOf (.static "TwoEyes" "ASIDE" "[I") .int) (by decide +kernel)) (va_eqt (hs (.eq (.length (.static "TwoEyes" "ASIDE" "[I")) (.int 8)) (by decide +kernel))) (fun j hj => by
    rcases (show j = 0 ∨ j = 1 ∨ j = 2 ∨ j = 3 ∨ j = 4 ∨ j = 5 ∨ j = 6 ∨ j = 7 by omega) with rfl | rfl | rfl | rfl | rfl | rfl | rfl | rfl
    · exact va_eqt (hs (.eq (.elem (.static "TwoEyes" "ASIDE" "[I") (.int 0)) (.int (-1))) (by decide +kernel))
    · exact va_eqt (hs (.eq (.elem (.static "TwoEyes" "ASIDE" "[I") (.int 1)) (.int 0)) (by decide +kernel))
    · exact va_eqt (hs (.eq (.elem (.static "TwoEyes" "ASIDE" "[I") (.int 2)) (.int 1)) (by decide +kernel))
    · exact va_eqt (hs (.eq (.elem (.static "TwoEyes" "ASIDE" "[I") (.int 3)) (.int (-1))) (by decide +kernel))
    · exact va_eqt (hs (.eq (.elem (.static "TwoEyes" "ASIDE" "[I") (.int 4)) (.int 1)) (by decide +kernel))
    · exact va_eqt (hs (.eq (.elem (.static "TwoEyes" "ASIDE" "[I") (.int 5)) (.int (-1))) (by decide +kernel))
    · exact va_eqt (hs (.eq (.elem (.static "TwoEyes" "ASIDE" "[I") (.int 6)) (.int 0)) (by decide +kernel))
    · exact va_eqt (hs (.eq (.elem (.static "TwoEyes" "ASIDE" "[I") (.int 7)) (.int 1)) (by decide +kernel))) hAo
  have yzA := va_Zof (A := lwA s) (hts0 (.laysStatic "TwoEyes" "ASIDE" "[I") (List.mem_append_right _ (List.mem_of_getElem? (i := 428) (by decide +kernel)))) hini ezA hAo
  obtain ⟨zD, ezD, tzD⟩ := va_Tof (tm := (.static "TwoEyes" "DOWN" "[I")) (ty := .int) (N := 8) (f := fun j => .int (tabD j)) (A := lwA s) (args := #[Value.ref b]) (s := s) (by decide) (hs (.arrayOf (.static "TwoEyes" "DOWN" "[I") .int) (by decide +kernel)) (va_eqt (hs (.eq (.length (.static "TwoEyes" "DOWN" "[I")) (.int 8)) (by decide +kernel))) (fun j hj => by
    rcases (show j = 0 ∨ j = 1 ∨ j = 2 ∨ j = 3 ∨ j = 4 ∨ j = 5 ∨ j = 6 ∨ j = 7 by omega) with rfl | rfl | rfl | rfl | rfl | rfl | rfl | rfl
    · exact va_eqt (hs (.eq (.elem (.static "TwoEyes" "DOWN" "[I") (.int 0)) (.int (-1))) (by decide +kernel))
    · exact va_eqt (hs (.eq (.elem (.static "TwoEyes" "DOWN" "[I") (.int 1)) (.int (-1))) (by decide +kernel))
    · exact va_eqt (hs (.eq (.elem (.static "TwoEyes" "DOWN" "[I") (.int 2)) (.int (-1))) (by decide +kernel))
    · exact va_eqt (hs (.eq (.elem (.static "TwoEyes" "DOWN" "[I") (.int 3)) (.int 0)) (by decide +kernel))
    · exact va_eqt (hs (.eq (.elem (.static "TwoEyes" "DOWN" "[I") (.int 4)) (.int 0)) (by decide +kernel))
    · exact va_eqt (hs (.eq (.elem (.static "TwoEyes" "DOWN" "[I") (.int 5)) (.int 1)) (by decide +kernel))
    · exact va_eqt (hs (.eq (.elem (.static "TwoEyes" "DOWN" "[I") (.int 6)) (.int 1)) (by decide +kernel))
    · exact va_eqt (hs (.eq (.elem (.static "TwoEyes" "DOWN" "[I") (.int 7)) (.int 1)) (by decide +kernel))) hAo
  have yzD := va_Zof (A := lwA s) (hts0 (.laysStatic "TwoEyes" "DOWN" "[I") (List.mem_append_right _ (List.mem_of_getElem? (i := 430) (by decide +kernel)))) hini ezD hAo
  obtain ⟨zR, ezR, tzR⟩ := va_Tof (tm := (.static "TwoEyes" "RULE_MOST" "[I")) (ty := .int) (N := 5) (f := fun j => .int (tabR j)) (A := lwA s) (args := #[Value.ref b]) (s := s) (by decide) (hs (.arrayOf (.static "TwoEyes" "RULE_MOST" "[I") .int) (by decide +kernel)) (va_eqt (hs (.eq (.length (.static "TwoEyes" "RULE_MOST" "[I")) (.int 5)) (by decide +kernel))) (fun j hj => by
    rcases (show j = 0 ∨ j = 1 ∨ j = 2 ∨ j = 3 ∨ j = 4 by omega) with rfl | rfl | rfl | rfl | rfl
    · exact va_eqt (hs (.eq (.elem (.static "TwoEyes" "RULE_MOST" "[I") (.int 0)) (.int 8)) (by decide +kernel))
    · exact va_eqt (hs (.eq (.elem (.static "TwoEyes" "RULE_MOST" "[I") (.int 1)) (.int 20)) (by decide +kernel))
    · exact va_eqt (hs (.eq (.elem (.static "TwoEyes" "RULE_MOST" "[I") (.int 2)) (.int 20)) (by decide +kernel))
    · exact va_eqt (hs (.eq (.elem (.static "TwoEyes" "RULE_MOST" "[I") (.int 3)) (.int 40)) (by decide +kernel))
    · exact va_eqt (hs (.eq (.elem (.static "TwoEyes" "RULE_MOST" "[I") (.int 4)) (.int 255)) (by decide +kernel))) hAo
  have yzR := va_Zof (A := lwA s) (hts0 (.laysStatic "TwoEyes" "RULE_MOST" "[I") (List.mem_append_right _ (List.mem_of_getElem? (i := 396) (by decide +kernel)))) hini ezR hAo
  have hZ : xZ zA zD zR (lwA s) s s.heap := ⟨yzA, tzA, yzD, tzD, yzR, tzR⟩
  have hN : xN s := ⟨va_Nw.of rfl (hts0 (.fieldLinkNest "TwoEyes$Stand" 28 "TwoEyes" "ASIDE" "[I" "TwoEyes") (List.mem_append_right _ (List.mem_of_getElem? (i := 427) (by decide +kernel)))), va_Nw.of rfl (hts0 (.fieldLinkNest "TwoEyes$Stand" 31 "TwoEyes" "DOWN" "[I" "TwoEyes") (List.mem_append_right _ (List.mem_of_getElem? (i := 429) (by decide +kernel)))), va_Nw.of rfl (hts0 (.fieldLinkNest "TwoEyes$Sums" 84 "TwoEyes" "ASIDE" "[I" "TwoEyes") (List.mem_append_right _ (List.mem_of_getElem? (i := 466) (by decide +kernel)))), va_Nw.of rfl (hts0 (.fieldLinkNest "TwoEyes$Sums" 87 "TwoEyes" "DOWN" "[I" "TwoEyes") (List.mem_append_right _ (List.mem_of_getElem? (i := 467) (by decide +kernel)))), va_Nw.of rfl (hts0 (.fieldLink "TwoEyes" 127 "TwoEyes" "RULE_MOST" "[I") (List.mem_append_right _ (List.mem_of_getElem? (i := 395) (by decide +kernel))))⟩
  have hNi : iN s := ⟨va_Nw.of rfl (hts0 (.methodLinkNest RX6 20 yX4_init "TwoEyes") (List.mem_append_right _ (List.mem_of_getElem? (i := 33) (by decide +kernel)))), va_Nw.of rfl (hts0 (.methodLinkNest RX10 29 yX1_init "TwoEyes") (List.mem_append_right _ (List.mem_of_getElem? (i := 85) (by decide +kernel)))), va_Nw.of rfl (hts0 (.methodLinkNest RX1 11 yX8_init "TwoEyes") (List.mem_append_right _ (List.mem_of_getElem? (i := 91) (by decide +kernel)))), va_Nw.of rfl (hts0 (.methodLinkNest RX10 43 yX9_init "TwoEyes") (List.mem_append_right _ (List.mem_of_getElem? (i := 152) (by decide +kernel)))), va_Nw.of rfl (hts0 (.methodLinkNest RX10 50 yX2_init "TwoEyes") (List.mem_append_right _ (List.mem_of_getElem? (i := 183) (by decide +kernel)))), va_Nw.of rfl (hts0 (.methodLinkNest RX10 57 yX7_init "TwoEyes") (List.mem_append_right _ (List.mem_of_getElem? (i := 198) (by decide +kernel)))), va_Nw.of rfl (hts0 (.methodLinkNest RX10 64 yX5_init "TwoEyes") (List.mem_append_right _ (List.mem_of_getElem? (i := 214) (by decide +kernel))))⟩
  have hS : va_S (lwA s) s.heap s.heap [] := va_S.rf
  have hP : va_P (dC, dI) vwCl [] s.heap := fun k q h => by simp at h
  have hD : va_D (lwA s) [] := ⟨fun i j p q h => by simp at h, fun k q h => by simp at h⟩
  have hl := lv_entry ([.ref b]) (n := 4) (Nat.le_of_ble_eq_true rfl)
  rw [lg_entry_eq]
  generalize (lg_sl ([.ref b]) ++ List.replicate (4 - (lg_sl ([.ref b])).length) Slot.unset).toArray = ls at hl ⊢
  have hl : lv_has ls 4 [(0, .ref b)] := hl
  refine va_new (ci := 10) (fs := [.null, .null, .int 0, .null, .null, .null, .null, .null, .null, .null, .null]) (C := RX10) (T := TX10) (N := 11) hx hb hts inCX10 tyX10 tyX10_ok hown (hts (.classLink RL 7 RX10) (inA_1 _ (List.mem_of_getElem? (i := 0) rfl))) (hts (.instantiable RX10 11) (inA_1 _ (List.mem_of_getElem? (i := 1) rfl))) (hts (.initialized RX10) (inA_1 _ (List.mem_of_getElem? (i := 2) rfl))) hK hP hD hS hA rfl (fun j hj => by rcases (show j = 0 ∨ j = 1 ∨ j = 2 ∨ j = 3 ∨ j = 4 ∨ j = 5 ∨ j = 6 ∨ j = 7 ∨ j = 8 ∨ j = 9 ∨ j = 10 by omega) with rfl | rfl | rfl | rfl | rfl | rfl | rfl | rfl | rfl | rfl | rfl <;> rfl) (Nat.le_of_ble_eq_true rfl) (Nat.le_of_ble_eq_true rfl) dL_law_0 (fun qx H hP hD hS => ?_)
  have hP : va_P (dC, dI) vwCl [(qx, .inr (10, [.null, .null, .int 0, .null, .null, .null, .null, .null, .null, .null, .null]))] H := hP
  have hD : va_D (lwA s) [(qx, .inr (10, [.null, .null, .int 0, .null, .null, .null, .null, .null, .null, .null, .null]))] := hD
  refine W.widen (k := 1) (n := 11) (by omega) (by omega) ?_
  refine lv_dup hx hb dL_law_3 rfl ?_
  have hFc := va_free (wc := [(qx, .inr (10, [.null, .null, .int 0, .null, .null, .null, .null, .null, .null, .null, .null]))]) hD hS hA [0] rfl
  refine va_callv (va_runI (As := []) (rest := [.ref qx]) ⟨hx, hb, hml, hown, hts⟩ (kX10_init l (dC, dI) cI cZ qx H.size) (cwI 0 hts (gdI (fun w h => h) vX10_init) rfl rfl rfl (hts (.initialized RX10) (inA_1 _ (List.mem_of_getElem? (i := 2) rfl))) (hts (.methodLink RL 9 yX10_init) (inA_1 _ (List.mem_of_getElem? (i := 6) rfl))) (hts (.instanceMethod yX10_init) (inA_1 _ (List.mem_of_getElem? (i := 7) rfl))) rfl (by decide +kernel) ⟨Nat.le_of_ble_eq_true rfl, Nat.le_of_ble_eq_true rfl⟩) ⟨iPre.call, fun U hU hW => ⟨rfl, by rw [hU], by rw [hU]; exact hP, va_K.moved hW.alike hK, hD.weaken (fun _ _ _ _ => trivial), hNi.go hW⟩⟩ rfl rfl hl.1 rfl (lv_room (Nat.le_of_ble_eq_true rfl)) dL_law_4 ⟨Nat.le_of_ble_eq_true rfl, Nat.le_of_ble_eq_true rfl⟩) hS (fun q _ h => hFc q h) hFc (fun adx t H1 locs ht hvm hw hB hz1 hk1 hS => ?_)
  obtain ⟨hP1, hD1⟩ := hB
  rw [ht] at hP1
  have hDx0 : va_D (lwA s) (xW cI cZ adx M0x) := hD1.weaken (fun k q _ h => hFc q.1 h)
  have hDx := xD_of hDx0
  have hAx := xD_in hDx0
  clear hP hD hFc
  have hPX : va_P (dC, dI) vwCl (xW cI cZ adx M0x) H1 := hP1
  generalize H1 = H at hPX hS ⊢
  try dsimp only at hw
  subst hw
  have hP := hPX
  have hD := hDx0
  refine W.widen (k := 47) (n := 11585) (by omega) (by omega) ?_
  refine lv_astore_n (lv' := [(1, .ref (adx 0)), (0, .ref b)]) hx hb dL_law_7 rfl hl (by decide) rfl (fun ls hl => ?_)
  refine va_new (ci := 11) (fs := [.int 0, .int 0, .null, .null, .null, .null, .null, .null, .int 0, .int 0, .int 0, .null, .null, .null, .null, .int 0, .null, .null, .null, .null, .null, .null, .null, .null, .int 0, .int 0]) (C := RX11) (T := TX11) (N := 26) hx hb hts inCX11 tyX11 tyX11_ok hown (hts (.classLink RL 10 RX11) (inA_1 _ (List.mem_of_getElem? (i := 3) rfl))) (hts (.instantiable RX11 26) (inA_1 _ (List.mem_of_getElem? (i := 4) rfl))) (hts (.initialized RX11) (inA_1 _ (List.mem_of_getElem? (i := 5) rfl))) hK hP hD hS hA rfl (fun j hj => by rcases (show j = 0 ∨ j = 1 ∨ j = 2 ∨ j = 3 ∨ j = 4 ∨ j = 5 ∨ j = 6 ∨ j = 7 ∨ j = 8 ∨ j = 9 ∨ j = 10 ∨ j = 11 ∨ j = 12 ∨ j = 13 ∨ j = 14 ∨ j = 15 ∨ j = 16 ∨ j = 17 ∨ j = 18 ∨ j = 19 ∨ j = 20 ∨ j = 21 ∨ j = 22 ∨ j = 23 ∨ j = 24 ∨ j = 25 by omega) with rfl | rfl | rfl | rfl | rfl | rfl | rfl | rfl | rfl | rfl | rfl | rfl | rfl | rfl | rfl | rfl | rfl | rfl | rfl | rfl | rfl | rfl | rfl | rfl | rfl | rfl <;> rfl) (Nat.le_of_ble_eq_true rfl) (Nat.le_of_ble_eq_true rfl) dL_law_8 (fun qm H hP hD hS => ?_)
  refine W.widen (k := 48) (n := 11611) (by omega) (by omega) ?_
  refine lv_dup hx hb dL_law_11 rfl ?_
  have hkx : ∀ k : Nat, k < 47 → (xW cI cZ adx M0x ++ [(qm, .inr (11, [.int 0, .int 0, .null, .null, .null, .null, .null, .null, .int 0, .int 0, .int 0, .null, .null, .null, .null, .int 0, .null, .null, .null, .null, .null, .null, .null, .null, .int 0, .int 0]))])[k]? = (xW cI cZ adx M0x)[k]? := fun k hk => List.getElem?_append_left (by show k < 47; exact hk)
  have hPx : va_P (dC, dI) vwCl (xW cI cZ adx M0x) H := fun k q hq => hP k q ((hkx k (at_fst (xW_fst cI cZ adx M0x) hq).1).trans hq)
  have hPq : va_P (dC, dI) vwCl [(qm, .inr (11, [.int 0, .int 0, .null, .null, .null, .null, .null, .null, .int 0, .int 0, .int 0, .null, .null, .null, .null, .int 0, .null, .null, .null, .null, .null, .null, .null, .null, .int 0, .int 0]))] H := hP.sub [47] rfl
  have hDq : va_D (lwA s) [(qm, .inr (11, [.int 0, .int 0, .null, .null, .null, .null, .null, .null, .int 0, .int 0, .int 0, .null, .null, .null, .null, .int 0, .null, .null, .null, .null, .null, .null, .null, .null, .int 0, .int 0]))] := hD.sub [47] (by decide) rfl
  have hFc := va_free (wc := [(qm, .inr (11, [.int 0, .int 0, .null, .null, .null, .null, .null, .null, .int 0, .int 0, .int 0, .null, .null, .null, .null, .int 0, .null, .null, .null, .null, .null, .null, .null, .null, .int 0, .int 0]))]) hD hS hA [47] rfl
  have hdq : ∀ q, xA adx q → ¬ va_A [(qm, .inr (11, [.int 0, .int 0, .null, .null, .null, .null, .null, .null, .int 0, .int 0, .int 0, .null, .null, .null, .null, .int 0, .null, .null, .null, .null, .null, .null, .null, .null, .int 0, .int 0]))] H.size q := by
    rintro q ⟨k, hk, rfl⟩ h
    have h1 : ((xW cI cZ adx M0x).map Prod.fst)[k]? = some (adx k) := by rw [xW_fst, List.getElem?_map, List.getElem?_range hk]; rfl
    rw [List.getElem?_map] at h1
    cases h2 : (xW cI cZ adx M0x)[k]? with
    | none => rw [h2] at h1; cases h1
    | some q0 =>
      rw [h2] at h1
      have e1 := Option.some.inj h1
      rcases h with ⟨j, ev, h⟩ | h
      · have hj : j = 0 := by
          have := (List.getElem?_eq_some_iff.mp h).1
          simp at this
          exact this
        subst hj
        have h3 : (adx k, ev) = (qm, .inr (11, [.int 0, .int 0, .null, .null, .null, .null, .null, .null, .int 0, .int 0, .int 0, .null, .null, .null, .null, .int 0, .null, .null, .null, .null, .null, .null, .null, .null, .int 0, .int 0])) := (Option.some.inj h).symm
        have h4 := hD.1 k 47 q0 (qm, .inr (11, [.int 0, .int 0, .null, .null, .null, .null, .null, .null, .int 0, .int 0, .int 0, .null, .null, .null, .null, .int 0, .null, .null, .null, .null, .null, .null, .null, .null, .int 0, .int 0])) ((hkx k hk).trans h2) rfl (by rw [e1]; exact congrArg Prod.fst h3)
        omega
      · have := (hPx k q0 h2).lt
        rw [e1] at this
        omega
  refine va_callv (va_runI (As := []) (rest := [.ref qm]) ⟨hx, hb, hml, hown, hts⟩ (kX11_init l (dC, dI) cI cZ qm H.size (fun Mm => Inv M0x Mm) h0) (cwI 0 hts (gdI (fun w h => h) vX11_init) rfl rfl rfl (hts (.initialized RX11) (inA_1 _ (List.mem_of_getElem? (i := 5) rfl))) (hts (.methodLink RL 12 yX11_init) (inA_6 _ (List.mem_of_getElem? (i := 14) rfl))) (hts (.instanceMethod yX11_init) (inA_6 _ (List.mem_of_getElem? (i := 15) rfl))) rfl (by decide +kernel) ⟨Nat.le_of_ble_eq_true rfl, Nat.le_of_ble_eq_true rfl⟩) ⟨iPre.call, fun U hU hW => ⟨rfl, by rw [hU], by rw [hU]; exact hPq, va_K.moved hW.alike hK, hDq.weaken (fun _ _ _ _ => trivial), hNi.go hW⟩⟩ rfl rfl hl.1 rfl (lv_room (Nat.le_of_ble_eq_true rfl)) dL_law_12 ⟨Nat.le_of_ble_eq_true rfl, Nat.le_of_ble_eq_true rfl⟩) hS (fun q _ h => hFc q h) hFc (fun um t H1 locs ht hvm hw hB hz1 hk1 hS => ?_)
  obtain ⟨adm, Mm⟩ := um
  obtain ⟨hw0, hI⟩ := hw
  obtain ⟨hP1, hD1⟩ := hB
  rw [ht] at hP1
  try dsimp only at hw0 hP1 hD1
  have hDm0 : va_D (lwA s) (mW cI cZ adm Mm) := hD1.weaken (fun k q _ h => hFc q.1 h)
  have hDm := mD_of hDm0
  have hAm := mD_in hDm0
  have hdis : ∀ q, xA adx q → ¬ mA adm q := fun q h1 h2 => hdq q h1 (mD_in hD1 q h2)
  have hPx : va_P (dC, dI) vwCl (xW cI cZ adx M0x) H1 := hPx.kept (fun k q hq => hk1 q.1 (hPx k q hq).lt (hdq q.1 ⟨k, (at_fst (xW_fst cI cZ adx M0x) hq).1, (at_fst (xW_fst cI cZ adx M0x) hq).2⟩))
  refine W.widen (k := 66) (n := 32741) (by omega) (by omega) ?_
  subst hw0
  refine lv_astore_n (lv' := [(2, .ref (adm 0)), (1, .ref (adx 0)), (0, .ref b)]) hx hb dL_law_15 rfl hl (by decide) rfl (fun ls hl => ?_)
  refine lv_iconst (v := 0) hx hb dL_law_16 (by decide) ?_
  refine lv_istore_n (lv' := [(3, .int 0), (2, .ref (adm 0)), (1, .ref (adx 0)), (0, .ref b)]) hx hb dL_law_17 rfl hl (by decide) rfl (fun ls hl => ?_)
  exact law_loop l ⟨C0, hL, hK, hZ, hN, hDx, hDm, hAx, hAm, hdis⟩ hst (L + 8) 0 0 M0x Mm _ _ _ (by omega) (by omega) nI_0.symm hI (lv_sub hl [3, 2, 1, 0] rfl) hPx hP1 hS
