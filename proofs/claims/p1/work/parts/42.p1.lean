theorem end6 (xs : Nat → Int32) (n : Nat) (C : mh) (s : mS) : lx_1064 (lx_18 6 xs 1000 (n + 1)) 0 C s = some () := by
  unfold lx_1064
  rw [lx_18, if_pos (by decide)]
theorem ck0 : ¬ ((0 : Int32) < 0 ∨ 6 ≤ (0 : Int32).toNatClampNeg) := by decide
theorem ck1 : ¬ ((0 : Int32) + (1 : Int32) < 0 ∨ 6 ≤ ((0 : Int32) + (1 : Int32)).toNatClampNeg) := by decide
theorem ck2 : ¬ ((0 : Int32) + (2 : Int32) < 0 ∨ 6 ≤ ((0 : Int32) + (2 : Int32)).toNatClampNeg) := by decide
theorem ck3 : ¬ ((0 : Int32) + (3 : Int32) < 0 ∨ 6 ≤ ((0 : Int32) + (3 : Int32)).toNatClampNeg) := by decide
theorem ck4 : ¬ ((0 : Int32) + (4 : Int32) < 0 ∨ 6 ≤ ((0 : Int32) + (4 : Int32)).toNatClampNeg) := by decide
theorem ck5 : ¬ ((0 : Int32) + (5 : Int32) < 0 ∨ 6 ≤ ((0 : Int32) + (5 : Int32)).toNatClampNeg) := by decide
theorem kO6 : ∃ l, kO (hC cs0) 0 6 = some l := ⟨_, kO_6 s0⟩
set_option maxHeartbeats 4000000 in
set_option maxRecDepth 100000 in
theorem one_call (xs : Nat → Int32) : lx 6 xs 1000 (hC cs0) ms0 = some () := by
  obtain ⟨kl, kk⟩ := kO6
  unfold lx
  rw [lx_18, if_neg (by decide), if_neg ck0]
  by_cases h0 : ((xs (0 : Int32).toNatClampNeg) &&& (31 : Int32)) = (0 : Int32)
  · obtain ⟨C, r, s', e1, hl, e2⟩ := p_tray (xs ((0 : Int32) + (1 : Int32)).toNatClampNeg) (xs ((0 : Int32) + (2 : Int32)).toNatClampNeg)
    rw [if_pos h0, if_neg ck1, if_neg ck2, kk, Option.bind_some, e1, Option.bind_some, if_neg (not_not_intro hl), if_neg ck1, if_neg ck2, e2, Option.bind_some, if_pos rfl]
    exact end6 xs 998 _ _
  rw [if_neg h0]
  by_cases h1 : ((xs (0 : Int32).toNatClampNeg) &&& (31 : Int32)) = (1 : Int32)
  · obtain ⟨C, r, s', e1, hl, e2⟩ := p_point (xs ((0 : Int32) + (1 : Int32)).toNatClampNeg) (xs ((0 : Int32) + (2 : Int32)).toNatClampNeg) (xs ((0 : Int32) + (3 : Int32)).toNatClampNeg) (xs ((0 : Int32) + (4 : Int32)).toNatClampNeg) (xs ((0 : Int32) + (5 : Int32)).toNatClampNeg)
    rw [if_pos h1, if_neg ck1, if_neg ck2, if_neg ck3, if_neg ck4, if_neg ck5, kk, Option.bind_some, e1, Option.bind_some, if_neg (not_not_intro hl), if_neg ck1, if_neg ck2, if_neg ck3, if_neg ck4, if_neg ck5, e2, Option.bind_some, if_pos rfl]
    exact end6 xs 998 _ _
  rw [if_neg h1]
  by_cases h2 : ((xs (0 : Int32).toNatClampNeg) &&& (31 : Int32)) = (2 : Int32)
  · obtain ⟨C, r, s', e1, hl, e2⟩ := p_solid (xs ((0 : Int32) + (1 : Int32)).toNatClampNeg) (xs ((0 : Int32) + (2 : Int32)).toNatClampNeg)
    rw [if_pos h2, if_neg ck1, if_neg ck2, kk, Option.bind_some, e1, Option.bind_some, if_neg (not_not_intro hl), if_neg ck1, if_neg ck2, e2, Option.bind_some, if_pos rfl]
    exact end6 xs 998 _ _
  rw [if_neg h2]
  by_cases h3 : ((xs (0 : Int32).toNatClampNeg) &&& (31 : Int32)) = (3 : Int32)
  · obtain ⟨C, r, s', e1, hl, e2⟩ := p_grow (xs ((0 : Int32) + (1 : Int32)).toNatClampNeg) (xs ((0 : Int32) + (2 : Int32)).toNatClampNeg) (xs ((0 : Int32) + (3 : Int32)).toNatClampNeg) (xs ((0 : Int32) + (4 : Int32)).toNatClampNeg)
    rw [if_pos h3, if_neg ck1, if_neg ck2, if_neg ck3, if_neg ck4, kk, Option.bind_some, e1, Option.bind_some, if_neg (not_not_intro hl), if_neg ck1, if_neg ck2, if_neg ck3, if_neg ck4, e2, Option.bind_some, if_pos rfl]
    exact end6 xs 998 _ _
  rw [if_neg h3]
  by_cases h4 : ((xs (0 : Int32).toNatClampNeg) &&& (31 : Int32)) = (4 : Int32)
  · obtain ⟨C, r, s', e1, hl, e2⟩ := p_count (xs ((0 : Int32) + (1 : Int32)).toNatClampNeg) (xs ((0 : Int32) + (2 : Int32)).toNatClampNeg)
    rw [if_pos h4, if_neg ck1, if_neg ck2, kk, Option.bind_some, e1, Option.bind_some, if_neg (not_not_intro hl), if_neg ck1, if_neg ck2, e2, Option.bind_some, if_pos rfl]
    exact end6 xs 998 _ _
  rw [if_neg h4]
  by_cases h5 : ((xs (0 : Int32).toNatClampNeg) &&& (31 : Int32)) = (5 : Int32)
  · obtain ⟨C, r, s', e1, hl, e2⟩ := p_corner (xs ((0 : Int32) + (1 : Int32)).toNatClampNeg) (xs ((0 : Int32) + (2 : Int32)).toNatClampNeg) (xs ((0 : Int32) + (3 : Int32)).toNatClampNeg)
    rw [if_pos h5, if_neg ck1, if_neg ck2, if_neg ck3, kk, Option.bind_some, e1, Option.bind_some, if_neg (not_not_intro hl), if_neg ck1, if_neg ck2, if_neg ck3, e2, Option.bind_some, if_pos rfl]
    exact end6 xs 998 _ _
  rw [if_neg h5]
  by_cases h6 : ((xs (0 : Int32).toNatClampNeg) &&& (31 : Int32)) = (6 : Int32)
  · obtain ⟨C, r, s', e1, hl, e2⟩ := p_edge (xs ((0 : Int32) + (1 : Int32)).toNatClampNeg) (xs ((0 : Int32) + (2 : Int32)).toNatClampNeg) (xs ((0 : Int32) + (3 : Int32)).toNatClampNeg)
    rw [if_pos h6, if_neg ck1, if_neg ck2, if_neg ck3, kk, Option.bind_some, e1, Option.bind_some, if_neg (not_not_intro hl), if_neg ck1, if_neg ck2, if_neg ck3, e2, Option.bind_some, if_pos rfl]
    exact end6 xs 998 _ _
  rw [if_neg h6]
  by_cases h7 : ((xs (0 : Int32).toNatClampNeg) &&& (31 : Int32)) = (7 : Int32)
  · obtain ⟨C, r, s', e1, hl, e2⟩ := p_face (xs ((0 : Int32) + (1 : Int32)).toNatClampNeg) (xs ((0 : Int32) + (2 : Int32)).toNatClampNeg) (xs ((0 : Int32) + (3 : Int32)).toNatClampNeg)
    rw [if_pos h7, if_neg ck1, if_neg ck2, if_neg ck3, kk, Option.bind_some, e1, Option.bind_some, if_neg (not_not_intro hl), if_neg ck1, if_neg ck2, if_neg ck3, e2, Option.bind_some, if_pos rfl]
    exact end6 xs 998 _ _
  rw [if_neg h7]
  by_cases h8 : ((xs (0 : Int32).toNatClampNeg) &&& (31 : Int32)) = (8 : Int32)
  · obtain ⟨C, r, s', e1, hl, e2⟩ := p_in (xs ((0 : Int32) + (1 : Int32)).toNatClampNeg) (xs ((0 : Int32) + (2 : Int32)).toNatClampNeg) (xs ((0 : Int32) + (3 : Int32)).toNatClampNeg) (xs ((0 : Int32) + (4 : Int32)).toNatClampNeg) (xs ((0 : Int32) + (5 : Int32)).toNatClampNeg)
    rw [if_pos h8, if_neg ck1, if_neg ck2, if_neg ck3, if_neg ck4, if_neg ck5, kk, Option.bind_some, e1, Option.bind_some, if_neg (not_not_intro hl), if_neg ck1, if_neg ck2, if_neg ck3, if_neg ck4, if_neg ck5, e2, Option.bind_some, if_pos rfl]
    exact end6 xs 998 _ _
  rw [if_neg h8]
  by_cases h9 : ((xs (0 : Int32).toNatClampNeg) &&& (31 : Int32)) = (9 : Int32)
  · obtain ⟨C, r, s', e1, hl, e2⟩ := p_side (xs ((0 : Int32) + (1 : Int32)).toNatClampNeg) (xs ((0 : Int32) + (2 : Int32)).toNatClampNeg) (xs ((0 : Int32) + (3 : Int32)).toNatClampNeg) (xs ((0 : Int32) + (4 : Int32)).toNatClampNeg) (xs ((0 : Int32) + (5 : Int32)).toNatClampNeg)
    rw [if_pos h9, if_neg ck1, if_neg ck2, if_neg ck3, if_neg ck4, if_neg ck5, kk, Option.bind_some, e1, Option.bind_some, if_neg (not_not_intro hl), if_neg ck1, if_neg ck2, if_neg ck3, if_neg ck4, if_neg ck5, e2, Option.bind_some, if_pos rfl]
    exact end6 xs 998 _ _
  rw [if_neg h9]
  by_cases h10 : ((xs (0 : Int32).toNatClampNeg) &&& (31 : Int32)) = (10 : Int32)
  · obtain ⟨C, r, s', e1, hl, e2⟩ := p_volume (xs ((0 : Int32) + (1 : Int32)).toNatClampNeg)
    rw [if_pos h10, if_neg ck1, kk, Option.bind_some, e1, Option.bind_some, if_neg (not_not_intro hl), if_neg ck1, e2, Option.bind_some, if_pos rfl]
    exact end6 xs 998 _ _
  rw [if_neg h10]
  by_cases h11 : ((xs (0 : Int32).toNatClampNeg) &&& (31 : Int32)) = (11 : Int32)
  · obtain ⟨C, r, s', e1, hl, e2⟩ := p_middle (xs ((0 : Int32) + (1 : Int32)).toNatClampNeg) (xs ((0 : Int32) + (2 : Int32)).toNatClampNeg) (xs ((0 : Int32) + (3 : Int32)).toNatClampNeg)
    rw [if_pos h11, if_neg ck1, if_neg ck2, if_neg ck3, kk, Option.bind_some, e1, Option.bind_some, if_neg (not_not_intro hl), if_neg ck1, if_neg ck2, if_neg ck3, e2, Option.bind_some, if_pos rfl]
    exact end6 xs 998 _ _
  rw [if_neg h11]
  by_cases h12 : ((xs (0 : Int32).toNatClampNeg) &&& (31 : Int32)) = (12 : Int32)
  · obtain ⟨C, r, s', e1, hl, e2⟩ := p_far (xs ((0 : Int32) + (1 : Int32)).toNatClampNeg) (xs ((0 : Int32) + (2 : Int32)).toNatClampNeg)
    rw [if_pos h12, if_neg ck1, if_neg ck2, kk, Option.bind_some, e1, Option.bind_some, if_neg (not_not_intro hl), if_neg ck1, if_neg ck2, e2, Option.bind_some, if_pos rfl]
    exact end6 xs 998 _ _
  rw [if_neg h12]
  by_cases h13 : ((xs (0 : Int32).toNatClampNeg) &&& (31 : Int32)) = (13 : Int32)
  · obtain ⟨C, r, s', e1, hl, e2⟩ := p_width (xs ((0 : Int32) + (1 : Int32)).toNatClampNeg) (xs ((0 : Int32) + (2 : Int32)).toNatClampNeg)
    rw [if_pos h13, if_neg ck1, if_neg ck2, kk, Option.bind_some, e1, Option.bind_some, if_neg (not_not_intro hl), if_neg ck1, if_neg ck2, e2, Option.bind_some, if_pos rfl]
    exact end6 xs 998 _ _
  rw [if_neg h13]
  by_cases h14 : ((xs (0 : Int32).toNatClampNeg) &&& (31 : Int32)) = (14 : Int32)
  · obtain ⟨C, r, s', e1, hl, e2⟩ := p_sum (xs ((0 : Int32) + (1 : Int32)).toNatClampNeg) (xs ((0 : Int32) + (2 : Int32)).toNatClampNeg) (xs ((0 : Int32) + (3 : Int32)).toNatClampNeg)
    rw [if_pos h14, if_neg ck1, if_neg ck2, if_neg ck3, kk, Option.bind_some, e1, Option.bind_some, if_neg (not_not_intro hl), if_neg ck1, if_neg ck2, if_neg ck3, e2, Option.bind_some, if_pos rfl]
    exact end6 xs 998 _ _
  rw [if_neg h14]
  by_cases h15 : ((xs (0 : Int32).toNatClampNeg) &&& (31 : Int32)) = (15 : Int32)
  · obtain ⟨C, r, s', e1, hl, e2⟩ := p_apart (xs ((0 : Int32) + (1 : Int32)).toNatClampNeg) (xs ((0 : Int32) + (2 : Int32)).toNatClampNeg)
    rw [if_pos h15, if_neg ck1, if_neg ck2, kk, Option.bind_some, e1, Option.bind_some, if_neg (not_not_intro hl), if_neg ck1, if_neg ck2, e2, Option.bind_some, if_pos rfl]
    exact end6 xs 998 _ _
  rw [if_neg h15]
  by_cases h16 : ((xs (0 : Int32).toNatClampNeg) &&& (31 : Int32)) = (16 : Int32)
  · obtain ⟨C, r, s', e1, hl, e2⟩ := p_near (xs ((0 : Int32) + (1 : Int32)).toNatClampNeg) (xs ((0 : Int32) + (2 : Int32)).toNatClampNeg) (xs ((0 : Int32) + (3 : Int32)).toNatClampNeg)
    rw [if_pos h16, if_neg ck1, if_neg ck2, if_neg ck3, kk, Option.bind_some, e1, Option.bind_some, if_neg (not_not_intro hl), if_neg ck1, if_neg ck2, if_neg ck3, e2, Option.bind_some, if_pos rfl]
    exact end6 xs 998 _ _
  rw [if_neg h16]
  by_cases h17 : ((xs (0 : Int32).toNatClampNeg) &&& (31 : Int32)) = (17 : Int32)
  · obtain ⟨C, r, s', e1, hl, e2⟩ := p_same (xs ((0 : Int32) + (1 : Int32)).toNatClampNeg) (xs ((0 : Int32) + (2 : Int32)).toNatClampNeg)
    rw [if_pos h17, if_neg ck1, if_neg ck2, kk, Option.bind_some, e1, Option.bind_some, if_neg (not_not_intro hl), if_neg ck1, if_neg ck2, e2, Option.bind_some, if_pos rfl]
    exact end6 xs 998 _ _
  rw [if_neg h17]
  by_cases h18 : ((xs (0 : Int32).toNatClampNeg) &&& (31 : Int32)) = (18 : Int32)
  · obtain ⟨C, r, s', e1, hl, e2⟩ := p_move (xs ((0 : Int32) + (1 : Int32)).toNatClampNeg) (xs ((0 : Int32) + (2 : Int32)).toNatClampNeg) (xs ((0 : Int32) + (3 : Int32)).toNatClampNeg) (xs ((0 : Int32) + (4 : Int32)).toNatClampNeg)
    rw [if_pos h18, if_neg ck1, if_neg ck2, if_neg ck3, if_neg ck4, kk, Option.bind_some, e1, Option.bind_some, if_neg (not_not_intro hl), if_neg ck1, if_neg ck2, if_neg ck3, if_neg ck4, e2, Option.bind_some, if_pos rfl]
    exact end6 xs 998 _ _
  rw [if_neg h18]
  by_cases h19 : ((xs (0 : Int32).toNatClampNeg) &&& (31 : Int32)) = (19 : Int32)
  · obtain ⟨C, r, s', e1, hl, e2⟩ := p_mirror (xs ((0 : Int32) + (1 : Int32)).toNatClampNeg) (xs ((0 : Int32) + (2 : Int32)).toNatClampNeg)
    rw [if_pos h19, if_neg ck1, if_neg ck2, kk, Option.bind_some, e1, Option.bind_some, if_neg (not_not_intro hl), if_neg ck1, if_neg ck2, e2, Option.bind_some, if_pos rfl]
    exact end6 xs 998 _ _
  rw [if_neg h19]
  by_cases h20 : ((xs (0 : Int32).toNatClampNeg) &&& (31 : Int32)) = (20 : Int32)
  · obtain ⟨C, r, s', e1, hl, e2⟩ := p_turn (xs ((0 : Int32) + (1 : Int32)).toNatClampNeg) (xs ((0 : Int32) + (2 : Int32)).toNatClampNeg)
    rw [if_pos h20, if_neg ck1, if_neg ck2, kk, Option.bind_some, e1, Option.bind_some, if_neg (not_not_intro hl), if_neg ck1, if_neg ck2, e2, Option.bind_some, if_pos rfl]
    exact end6 xs 998 _ _
  rw [if_neg h20]
  by_cases h21 : ((xs (0 : Int32).toNatClampNeg) &&& (31 : Int32)) = (21 : Int32)
  · obtain ⟨C, r, s', e1, hl, e2⟩ := p_copy (xs ((0 : Int32) + (1 : Int32)).toNatClampNeg) (xs ((0 : Int32) + (2 : Int32)).toNatClampNeg)
    rw [if_pos h21, if_neg ck1, if_neg ck2, kk, Option.bind_some, e1, Option.bind_some, if_neg (not_not_intro hl), if_neg ck1, if_neg ck2, e2, Option.bind_some, if_pos rfl]
    exact end6 xs 998 _ _
  rw [if_neg h21]
  by_cases h22 : ((xs (0 : Int32).toNatClampNeg) &&& (31 : Int32)) = (22 : Int32)
  · obtain ⟨C, r, s', e1, hl, e2⟩ := p_undo
    rw [if_pos h22, kk, Option.bind_some, e1, Option.bind_some, if_neg (not_not_intro hl), e2, Option.bind_some, if_pos rfl]
    exact end6 xs 998 _ _
  rw [if_neg h22]
  exact end6 xs 998 _ _
theorem p1_all : ∀ (L : Nat) (xs : Nat → Int32), L ≤ 6 → ∃ N, lx L xs N hpC ms0 = some () := by
  intro L xs hL
  refine ⟨1000, ?_⟩
  rw [hpC_cs0]
  by_cases h6 : L = 6
  · subst h6
    exact one_call xs
  · unfold lx
    rw [lx_18, if_pos]
    have h : L = 0 ∨ L = 1 ∨ L = 2 ∨ L = 3 ∨ L = 4 ∨ L = 5 := by omega
    rcases h with rfl | rfl | rfl | rfl | rfl | rfl <;> decide
