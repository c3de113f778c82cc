/-! the reference's search for a plane -/
def SeaM (w h D T : Nat) (L R : Nat → Int32) (a n : Nat) (p : Int32 × Int32 × Int32 × Int32) : Prop := (n = 0 ∧ p.1 = -1) ∨ (0 < n ∧ p.1 = nI (bsT w h D T L R a n).1 ∧ p.2.1 = tB (bsT w h D T L R a n).2 ∧ p.2.2.1 = tA (bsT w h D T L R a n).2 ∧ p.2.2.2 = tC (bsT w h D T L R a n).2)
theorem planeSearch_w {M : Mem} {w h D H P Qr T a : Nat} {L R : Nat → Int32} (hm : VM M w h L R) (hr : RM M D H P Qr T) (hc : MCost w h D L R (M 11)) (hf : ∀ k, k < w * h → (M 16 k = nI a ↔ anc w h T L k = nI a)) (ha : a < w * h) {x1 x2 x3 : Int32} {K : Int32 → Int32 → Int32 → Int32 → Int32 → Int32 → Int32 → Int32 → Mem → Prop} {Q : Int32 → Mem → Prop} (g : K x1 x2 x3 (nI a) (nI (bsT w h D T L R a (25 * (D + 1))).1) (tB (bsT w h D T L R a (25 * (D + 1))).2) (tA (bsT w h D T L R a (25 * (D + 1))).2) (tC (bsT w h D T L R a (25 * (D + 1))).2) M) : ∃ n, wX11_plane_L54 K Q n x1 x2 x3 (nI a) (-1) 0 0 0 0 M := by
  have hd := hm.1
  have hw : w ≤ 20 := hd.2.1
  have hh : h ≤ 10 := hd.2.2.2.1
  have hwh := wh_le hw hh
  have hD : D ≤ 8 := hr.1.1
  have bl := bst_le (f := pT w h D T L R a) (fun n => pT_le hD hwh a n)
  refine forN (fun n z (p : Int32 × Int32 × Int32 × Int32) => wX11_plane_L54 K Q n x1 x2 x3 (nI a) p.1 p.2.1 p.2.2.1 p.2.2.2 z M) (fun b p => SeaM w h D T L R a (25 * b) p) (D + 1) ?_ ?_ 0 (-1, 0, 0, 0) (by omega) (Or.inl ⟨rfl, rfl⟩)
  · rintro n ⟨p1, p2, p3, p4⟩ hS
    rcases hS with ⟨z, -⟩ | ⟨-, q1, q2, q3, q4⟩
    · exact absurd z (by omega)
    · simp only at q1 q2 q3 q4
      show wX11_plane_L54 K Q (n + 1) x1 x2 x3 (nI a) p1 p2 p3 p4 (nI (D + 1)) M
      rw [wX11_plane_L54_s, cl0, hr.2.1]
      refine ⟨pk_in 0 5 (by omega), ?_⟩
      refine pk_lt D (D + 1) (fun _ => ?_) (fun q => absurd q (by omega))
      rw [q1, q2, q3, q4]; exact g
  · rintro n b ⟨p1, p2, p3, p4⟩ hb hS ih
    show wX11_plane_L54 K Q (n + 1) x1 x2 x3 (nI a) p1 p2 p3 p4 (nI b) M
    rw [wX11_plane_L54_s, cl0, hr.2.1]
    refine ⟨pk_in 0 5 (by omega), ?_⟩
    refine pk_lt D b (fun q => absurd q (by omega)) (fun _ => ?_)
    refine for5 (fun n z (p : Int32 × Int32 × Int32 × Int32) => wX11_plane_L69 _ Q n x1 x2 x3 (nI a) p.1 p.2.1 p.2.2.1 p.2.2.2 (nI b) z M) (fun i p => SeaM w h D T L R a (25 * b + 5 * i) p) ?_ ?_ (p1, p2, p3, p4) hS
    · rintro n2 ⟨p1, p2, p3, p4⟩ hS2
      show wX11_plane_L69 _ Q (n2 + 1) x1 x2 x3 (nI a) p1 p2 p3 p4 (nI b) 3 M
      rw [wX11_plane_L69_s]
      refine ⟨fun _ x ex => ?_, fun z => absurd (by decide) z⟩
      rw [ex, nI_1]
      exact ih (p1, p2, p3, p4) hS2
    · rintro n2 i ⟨p1, p2, p3, p4⟩ hi hS2 ih2
      show wX11_plane_L69 _ Q (n2 + 1) x1 x2 x3 (nI a) p1 p2 p3 p4 (nI b) (nI i - 2) M
      rw [wX11_plane_L69_s]
      refine ⟨fun z => absurd z (lt5 i hi), fun _ => ?_⟩
      refine for5 (fun n z (p : Int32 × Int32 × Int32 × Int32) => wX11_plane_L79 _ Q n x1 x2 x3 (nI a) p.1 p.2.1 p.2.2.1 p.2.2.2 (nI b) (nI i - 2) z M) (fun j p => SeaM w h D T L R a (25 * b + 5 * i + j) p) ?_ ?_ (p1, p2, p3, p4) hS2
      · rintro n3 ⟨p1, p2, p3, p4⟩ hS3
        show wX11_plane_L79 _ Q (n3 + 1) x1 x2 x3 (nI a) p1 p2 p3 p4 (nI b) (nI i - 2) 3 M
        rw [wX11_plane_L79_s]
        refine ⟨fun _ x ex => ?_, fun z => absurd (by decide) z⟩
        rw [ex]
        exact ih2 (p1, p2, p3, p4) hS3
      · rintro n3 j ⟨p1, p2, p3, p4⟩ hj hS3 ih3
        show wX11_plane_L79 _ Q (n3 + 1) x1 x2 x3 (nI a) p1 p2 p3 p4 (nI b) (nI i - 2) (nI j - 2) M
        rw [wX11_plane_L79_s]
        refine ⟨fun z => absurd z (lt5 j hj), fun _ => ?_⟩
        obtain ⟨t1, t2, t3⟩ := t_of b i j hi hj
        have pl := pT_le (L := L) (R := R) (T := T) hD hwh a (25 * b + 5 * i + j)
        have bn := bl (25 * b + 5 * i + j)
        have e : bsT w h D T L R a (25 * b + 5 * i + (j + 1)) = if pT w h D T L R a (25 * b + 5 * i + j) < (bsT w h D T L R a (25 * b + 5 * i + j)).1 then (pT w h D T L R a (25 * b + 5 * i + j), 25 * b + 5 * i + j) else bsT w h D T L R a (25 * b + 5 * i + j) := rfl
        have pc := @planeCost_w M w h D H P Qr T a (25 * b + 5 * i + j) L R hm hr hc hf ha
        rw [t1, t2, t3] at pc
        have new : pT w h D T L R a (25 * b + 5 * i + j) < (bsT w h D T L R a (25 * b + 5 * i + j)).1 → SeaM w h D T L R a (25 * b + 5 * i + (j + 1)) (nI (pT w h D T L R a (25 * b + 5 * i + j)), nI b, nI i - 2, nI j - 2) := by
          intro q
          refine Or.inr ⟨by omega, ?_⟩
          rw [e, if_pos q]
          exact ⟨rfl, t1.symm, t2.symm, t3.symm⟩
        refine pc ?_
        rcases hS3 with ⟨z, z1⟩ | ⟨z, q1, q2, q3, q4⟩
        · simp only at z1
          refine ⟨fun _ x ex => ?_, fun q => absurd (by rw [z1]; decide) q⟩
          rw [ex]
          refine ih3 _ (new ?_)
          rw [z]
          rw [z] at pl
          show _ < 2147483647
          omega
        · simp only at q1 q2 q3 q4
          rw [q1]
          have b1 := bn.1
          refine ⟨fun q => absurd q (nI_pos (by show (bst (pT w h D T L R a) (25 * b + 5 * i + j)).1 < _; omega)), fun _ => ?_⟩
          refine pk_le (bsT w h D T L R a (25 * b + 5 * i + j)).1 (pT w h D T L R a (25 * b + 5 * i + j)) (fun q x ex => ?_) (fun q x ex => ?_) rfl rfl (by show (bst (pT w h D T L R a) (25 * b + 5 * i + j)).1 < _; omega) (by omega)
          · rw [ex]
            refine ih3 (_, p2, p3, p4) (Or.inr ⟨by omega, ?_⟩)
            rw [e, if_neg (by omega)]
            exact ⟨rfl, q2, q3, q4⟩
          · rw [ex]
            exact ih3 _ (new q)
