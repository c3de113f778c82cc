/-! all calls, and the start -/
theorem inv_frame {Mx Mm Nx Nm : Mem} {w h D H P Q T : Nat} {L R : Nat → Int32} (hI : InvA Mx Mm w h D H P Q T L R) (hB : Base Nx Nm w h) (ex : ∀ c, (c = 1 ∨ c = 3 ∨ c = 4 ∨ c = 6 ∨ c = 7 ∨ c = 17 ∨ 18 ≤ c ∧ c ≤ 44) → Nx c = Mx c) (em : ∀ c, (c = 1 ∨ c = 2 ∨ c = 3 ∨ c = 5 ∨ 11 ≤ c ∧ c ≤ 16) → Nm c = Mm c) (em0 : ∀ k, (k = 0 ∨ k = 1 ∨ k = 15) → Nm 0 k = Mm 0 k) : Inv Nx Nm :=
  ⟨w, h, D, H, P, Q, T, L, R, hB, hI.2.1.of (ex 17 (by omega)), hI.2.2.1.of (em 5 (by omega)), hI.2.2.2.1.of (ex 1 (by omega)) (ex 3 (by omega)) (ex 4 (by omega)) (ex 6 (by omega)) (ex 7 (by omega)), hI.2.2.2.2.1.of (fun k hk => em0 k (by omega)) (em 1 (by omega)) (em 2 (by omega)) (em 3 (by omega)), hI.2.2.2.2.2.1.of (fun c c1 c2 => ex c (by omega)), hI.2.2.2.2.2.2.of (fun c c1 c2 => em c (by omega)) (em0 15 (by omega))⟩
theorem all_steps : AllSteps Inv := by
  refine ⟨?_, ?_, ?_, ?_, ?_, ?_, ?_, o_many, o_cost, o_path, o_matched, o_hidden, o_run, o_sum, o_depth, o_agreed, o_segment, o_extent, o_plane, o_view, o_holes, ?_, ?_, o_score, ?_, ?_, ?_, ?_, ?_⟩
  · intro Mx Mm a b hI
    have hJ := inv_JC hI
    obtain ⟨w, h, D, H, P, Q, T, L, R, hI⟩ := hI
    exact o_size hI.1 a b hJ
  · intro Mx Mm a b c d hI
    have hJ := inv_JC hI
    obtain ⟨w, h, D, H, P, Q, T, L, R, hI⟩ := hI
    exact o_shade hI.1 a b c d hJ
  · intro Mx Mm a b c hI
    have hJ := inv_JC hI
    obtain ⟨w, h, D, H, P, Q, T, L, R, hI⟩ := hI
    exact o_lose hI.1 a b c hJ
  · intro Mx Mm a b c hc hI
    have hJ := inv_JC hI
    obtain ⟨w, h, D, H, P, Q, T, L, R, hI⟩ := hI
    exact o_row hI.1 a b c hc hJ
  · intro Mx Mm a b c d e f g hI
    have hJ := inv_JC hI
    obtain ⟨w, h, D, H, P, Q, T, L, R, hI⟩ := hI
    exact o_copy hI.1 a b c d e f g hJ
  · intro Mx Mm a b c hI
    have hJ := inv_JC hI
    obtain ⟨w, h, D, H, P, Q, T, L, R, hI⟩ := hI
    exact o_told hI.1 a b c hJ
  · intro Mx Mm a b hI
    have hJ := inv_JC hI
    obtain ⟨w, h, D, H, P, Q, T, L, R, hI⟩ := hI
    exact o_rule hI.1 a b hJ
  · intro Mx Mm a b c d e f hI
    have hJ := inv_JC hI
    obtain ⟨w, h, D, H, P, Q, T, L, R, hI⟩ := hI
    exact o_draw hI.1 a b c d e f hJ
  · intro Mx Mm a b hI
    have hJ := inv_JC hI
    obtain ⟨w, h, D, H, P, Q, T, L, R, hI⟩ := hI
    exact o_truth hI.1 a b hJ
  · intro Mx Mm a b c hI
    have hJ := inv_JC hI
    obtain ⟨w, h, D, H, P, Q, T, L, R, hI⟩ := hI
    exact o_outline hI.1 a b c hJ.1 (fun Nx Nm f1 f2 hB => inv_frame hI hB (fun c hc => f1 c (by omega)) (fun c hc => f2 c (by omega)) (fun k _ => by rw [f2 0 (by decide)]))
  · intro Mx Mm a b c hI
    have hJ := inv_JC hI
    obtain ⟨w, h, D, H, P, Q, T, L, R, hI⟩ := hI
    exact o_cube hI.1 a b c hJ.1
  · intro Mx Mm a hI
    have hJ := inv_JC hI
    obtain ⟨w, h, D, H, P, Q, T, L, R, hI⟩ := hI
    exact o_empty hI.1 a hJ.1
  · intro Mx Mm hI
    obtain ⟨w, h, D, H, P, Q, T, L, R, hI⟩ := hI
    exact o_keep hI.1 (fun Nx Nm f1 f2 f3 hB => inv_frame hI hB (fun c hc => f1 c (by omega) (by omega) (by omega) (by omega) (by omega) (by omega) (by omega)) (fun c hc => f2 c (by omega) (by omega) (by omega) (by omega) (by omega)) (fun k hk => f3 k (by omega) (by omega) (by omega)))
  · intro Mx Mm hI
    have hJ := inv_JC hI
    obtain ⟨w, h, D, H, P, Q, T, L, R, hI⟩ := hI
    exact o_back hI.1 hJ
theorem M0x_c (c : Nat) : M0x c = if c = 1 then (fun k => if k = 0 then 1 else if k = 1 then 1 else 0) else if c = 9 then (fun k => if k = 0 then 1 else if k = 1 then 1 else 0) else if c = 8 then (fun j => if j < 200 then -4 else (fun _ => 0) j) else if c = 16 then (fun j => if j < 200 then -4 else (fun _ => 0) j) else if c = 17 then upd (upd (upd (upd (upd (fun _ => 0) (0 : Int32).toNatClampNeg 4) (1 : Int32).toNatClampNeg 3) (2 : Int32).toNatClampNeg 1) (3 : Int32).toNatClampNeg 3) (4 : Int32).toNatClampNeg 10 else if c = 31 then (fun j => if j < 10 then -4 else (fun _ => 0) j) else if c = 32 then (fun k => if k = 6 then -4 else 0) else if c = 41 then (fun k => if k = 0 then -4 else 0) else if c = 46 then (fun j => if j < 24 then 255 else (fun _ => 0) j) else (fun _ => 0) := rfl
theorem inv_start : wX11_blank M1m 1 1 (fun Mm => Inv M0x Mm) := by
  refine blank_w (fun N f0 e0 e1 e15 z1 z3 z4 fc => ?_)
  have z : ∀ c, (c = 0 ∨ c = 3 ∨ c = 4 ∨ c = 6 ∨ c = 7 ∨ c = 18 ∨ c = 37 ∨ c = 39) → ∀ k, M0x c k = 0 := by
    intro c hc k
    rw [M0x_c, if_neg (by omega), if_neg (by omega), if_neg (by omega), if_neg (by omega), if_neg (by omega), if_neg (by omega), if_neg (by omega), if_neg (by omega), if_neg (by omega)]
  have h8 : ∀ k, k < 200 → M0x 8 k = -4 := fun k hk => if_pos hk
  have h46 : ∀ k, k < 24 → M0x 46 k = 255 := fun k hk => if_pos hk
  have n6 : ∀ k, k < 24 → N 6 k = 255 := fun k hk => by
    rw [fc 6 (by omega)]
    exact if_pos hk
  have r17 : M0x 17 0 = 4 ∧ M0x 17 1 = 3 ∧ M0x 17 2 = 1 ∧ M0x 17 3 = 3 ∧ M0x 17 4 = 10 := by decide +kernel
  have r5 : M1m 5 0 = 4 ∧ M1m 5 1 = 3 ∧ M1m 5 2 = 1 ∧ M1m 5 3 = 3 ∧ M1m 5 4 = 10 := by decide +kernel
  have k8 : N 0 8 = 0 := by rw [f0 8 (by decide) (by decide) (by decide)]; decide +kernel
  have hB : Base M0x N 1 1 := by
    refine ⟨⟨by omega, by omega, by omega, by omega, by decide +kernel, by decide +kernel⟩, ⟨by omega, by omega, by omega, by omega, e0, e1⟩, ?_, ?_, ?_, Or.inl ⟨z 0 (by omega) 2, k8⟩⟩
    · exact pic_zero (fun k _ => z 3 (by omega) k) (fun k _ => z 6 (by omega) k) (fun k _ => z 4 (by omega) k) (fun k _ => z 7 (by omega) k) h8 z1 z3 z4
    · refine ⟨fun i hi => ?_, 4, 3, 1, 3, 10, by omega, by omega, by omega, by omega, by omega, r17.1, r17.2.1, r17.2.2.1, r17.2.2.2.1, r17.2.2.2.2⟩
      rw [fc 5 (by omega)]
      rcases (show i = 0 ∨ i = 1 ∨ i = 2 ∨ i = 3 ∨ i = 4 by omega) with rfl | rfl | rfl | rfl | rfl
      · rw [r17.1, r5.1]
      · rw [r17.2.1, r5.2.1]
      · rw [r17.2.2.1, r5.2.2.1]
      · rw [r17.2.2.2.1, r5.2.2.2.1]
      · rw [r17.2.2.2.2, r5.2.2.2.2]
    · intro i hi
      rw [n6 i hi, h46 i hi]
      exact ⟨rfl, 255, by omega, rfl⟩
  refine inv_cold hB ⟨z 18 (by omega) 3, fun y hy => if_pos hy, by decide +kernel, by decide +kernel, by decide +kernel, z 37 (by omega) 1, z 39 (by omega) 1, by decide +kernel⟩ e15
