theorem d04 : ((0 : Int32) = 4) = False := by decide
theorem d024 : ((0 : Int32) < 4) = True := by decide
theorem d240 : ((2 : Int32) ≤ 0) = False := by decide
theorem d440 : ((4 : Int32) ≤ 0) = False := by decide
theorem p_middle (a x y : Int32) : okP (fxX6_middle 1000 0 a x y (hC cs0)) (mxX7_middle 1000 a x y ms0) := by
  rcases slot_or a with q | ⟨j, hj, rfl⟩
  · refine ⟨hC cs0, 0, ms0, ?_, hC_len _, ?_⟩
    · simp only [fxX6_middle, slot_no q, Option.bind_some, if_true]
    · simp only [mxX7_middle, solid_no q, Option.bind_some, if_true]
  · obtain ⟨g1, g2, g3, g4, g5, g6⟩ := st_sol j hj
    have bj := i_nb hj (show 8 < 2147483648 by decide)
    have tj : (Int32.ofNat j).toNatClampNeg = j := i_tn (by omega)
    refine ⟨hC cs0, 0, ms0, ?_, hC_len _, ?_⟩
    · simp only [fxX6_middle, slot_in hj, Option.bind_some, o10, if_false, gR_6_2 s0, Nat.zero_add, aR_14 s3 bj, tj, g1, gR_0_1 g2, gI_3_0 g4, g6, gI_0_0 g2, gI_0_2 g2, gI_0_6 g2, g5 0 (by decide), g5 2 (by decide), g5 6 (by decide), d04, d240, if_true]
    · simp only [mxX7_middle, solid_in hj, Option.bind_some, o10, if_false, r_many hj, r_kind hj, d024, d240, d440, if_true]
theorem p_far (a x : Int32) : okP (fxX6_far 1000 0 a x (hC cs0)) (mxX7_far 1000 a x ms0) := by
  rcases slot_or a with q | ⟨j, hj, rfl⟩
  · refine ⟨hC cs0, -1, ms0, ?_, hC_len _, ?_⟩
    · simp only [fxX6_far, slot_no q, Option.bind_some, if_true]
    · simp only [mxX7_far, solid_no q, Option.bind_some, if_true]
  · obtain ⟨g1, g2, g3, g4, g5, g6⟩ := st_sol j hj
    have bj := i_nb hj (show 8 < 2147483648 by decide)
    have tj : (Int32.ofNat j).toNatClampNeg = j := i_tn (by omega)
    refine ⟨hC cs0, -1, ms0, ?_, hC_len _, ?_⟩
    · simp only [fxX6_far, slot_in hj, Option.bind_some, o10, if_false, gR_6_2 s0, Nat.zero_add, aR_14 s3 bj, tj, g1, gR_0_1 g2, gI_3_0 g4, g6, gI_0_0 g2, gI_0_2 g2, gI_0_6 g2, g5 0 (by decide), g5 2 (by decide), g5 6 (by decide), d04, d240, if_true]
    · simp only [mxX7_far, solid_in hj, Option.bind_some, o10, if_false, r_many hj, r_kind hj, d024, d240, d440, if_true]
theorem p_width (a x : Int32) : okP (fxX6_width 1000 0 a x (hC cs0)) (mxX7_width 1000 a x ms0) := by
  rcases slot_or a with q | ⟨j, hj, rfl⟩
  · refine ⟨hC cs0, -1, ms0, ?_, hC_len _, ?_⟩
    · simp only [fxX6_width, slot_no q, Option.bind_some, if_true]
    · simp only [mxX7_width, solid_no q, Option.bind_some, if_true]
  · obtain ⟨g1, g2, g3, g4, g5, g6⟩ := st_sol j hj
    have bj := i_nb hj (show 8 < 2147483648 by decide)
    have tj : (Int32.ofNat j).toNatClampNeg = j := i_tn (by omega)
    refine ⟨hC cs0, -1, ms0, ?_, hC_len _, ?_⟩
    · simp only [fxX6_width, slot_in hj, Option.bind_some, o10, if_false, gR_6_2 s0, Nat.zero_add, aR_14 s3 bj, tj, g1, gR_0_1 g2, gI_3_0 g4, g6, gI_0_0 g2, gI_0_2 g2, gI_0_6 g2, g5 0 (by decide), g5 2 (by decide), g5 6 (by decide), d04, d240, if_true]
    · simp only [mxX7_width, solid_in hj, Option.bind_some, o10, if_false, r_many hj, r_kind hj, d024, d240, d440, if_true]
theorem p_volume (a : Int32) : okP (fxX6_volume 1000 0 a (hC cs0)) (mxX7_volume 1000 a ms0) := by
  rcases slot_or a with q | ⟨j, hj, rfl⟩
  · refine ⟨hC cs0, -1, ms0, ?_, hC_len _, ?_⟩
    · simp only [fxX6_volume, slot_no q, Option.bind_some, if_true]
    · simp only [mxX7_volume, solid_no q, Option.bind_some, if_true]
  · rw [← hpC_cs0]
    exact ckJ_ok (al1 q_volume hj)
theorem p_undo : okP (fxX6_undo 1000 0 (hC cs0)) (mxX7_undo 1000 ms0) := by
  rw [← hpC_cs0]
  exact ckI_ok q_undo
theorem p_apart (a b : Int32) : okP (fxX6_apart 1000 0 a b (hC cs0)) (mxX7_apart 1000 a b ms0) := by
  rcases slot_or a with q | ⟨j, hj, rfl⟩
  · refine ⟨hC cs0, -1, ms0, ?_, hC_len _, ?_⟩
    · simp only [fxX6_apart, slot_no q, Option.bind_some, if_true]
    · simp only [mxX7_apart, solid_no q, Option.bind_some, if_true]
  rcases slot_or b with q | ⟨k, hk, rfl⟩
  · refine ⟨hC cs0, -1, ms0, ?_, hC_len _, ?_⟩
    · simp only [fxX6_apart, slot_in hj, slot_no q, Option.bind_some, o10, if_false, if_true]
    · simp only [mxX7_apart, solid_in hj, solid_no q, Option.bind_some, o10, if_false, if_true]
  · rw [← hpC_cs0]
    exact ckI_ok (al2 q_apart hj hk)
theorem p_same (a b : Int32) : okP (fxX6_same 1000 0 a b (hC cs0)) (mxX7_same 1000 a b ms0) := by
  rcases slot_or a with q | ⟨j, hj, rfl⟩
  · refine ⟨hC cs0, -1, ms0, ?_, hC_len _, ?_⟩
    · simp only [fxX6_same, slot_no q, Option.bind_some, if_true]
    · simp only [mxX7_same, solid_no q, Option.bind_some, if_true]
  rcases slot_or b with q | ⟨k, hk, rfl⟩
  · refine ⟨hC cs0, -1, ms0, ?_, hC_len _, ?_⟩
    · simp only [fxX6_same, slot_in hj, slot_no q, Option.bind_some, o10, if_false, if_true]
    · simp only [mxX7_same, solid_in hj, solid_no q, Option.bind_some, o10, if_false, if_true]
  · rw [← hpC_cs0]
    exact ckI_ok (al2 q_same hj hk)
theorem p_copy (a b : Int32) : okP (fxX6_copy 1000 0 a b (hC cs0)) (mxX7_copy 1000 a b ms0) := by
  rcases slot_or a with q | ⟨j, hj, rfl⟩
  · refine ⟨hC cs0, 0, ms0, ?_, hC_len _, ?_⟩
    · simp only [fxX6_copy, slot_no q, Option.bind_some, if_true]
    · simp only [mxX7_copy, solid_no q, Option.bind_some, if_true]
  rcases slot_or b with q | ⟨k, hk, rfl⟩
  · refine ⟨hC cs0, 0, ms0, ?_, hC_len _, ?_⟩
    · simp only [fxX6_copy, slot_in hj, slot_no q, Option.bind_some, o10, if_false, if_true]
    · simp only [mxX7_copy, solid_in hj, solid_no q, Option.bind_some, o10, if_false, if_true]
  · rw [← hpC_cs0]
    exact ckI_ok (al2 q_copy hj hk)
theorem p_solid (a b : Int32) : okP (fxX6_solid 1000 0 a b (hC cs0)) (mxX7_solid 1000 a b ms0) := by
  rcases slot_or a with q | ⟨j, hj, rfl⟩
  · refine ⟨hC cs0, -1, ms0, ?_, hC_len _, ?_⟩
    · simp only [fxX6_solid, slot_no q, Option.bind_some, if_true]
    · simp only [mxX7_solid, solid_no q, Option.bind_some, if_true]
  rcases slot_or b with q | ⟨k, hk, rfl⟩
  · refine ⟨hC cs0, -1, ms0, ?_, hC_len _, ?_⟩
    · simp only [fxX6_solid, slot_in hj, slot_no q, Option.bind_some, o10, if_false, if_true]
    · simp only [mxX7_solid, solid_in hj, solid_no q, Option.bind_some, o10, if_false, if_true]
  · rw [← hpC_cs0]
    exact ckI_ok (al2 q_solid hj hk)
theorem p_sum (a b t : Int32) : okP (fxX6_sum 1000 0 a b t (hC cs0)) (mxX7_sum 1000 a b t ms0) := by
  rcases slot_or a with q | ⟨j, hj, rfl⟩
  · refine ⟨hC cs0, -1, ms0, ?_, hC_len _, ?_⟩
    · simp only [fxX6_sum, slot_no q, Option.bind_some, if_true]
    · simp only [mxX7_sum, solid_no q, Option.bind_some, if_true]
  rcases slot_or b with q | ⟨k, hk, rfl⟩
  · refine ⟨hC cs0, -1, ms0, ?_, hC_len _, ?_⟩
    · simp only [fxX6_sum, slot_in hj, slot_no q, Option.bind_some, o10, if_false, if_true]
    · simp only [mxX7_sum, solid_in hj, solid_no q, Option.bind_some, o10, if_false, if_true]
  rcases slot_or t with q | ⟨r, hr, rfl⟩
  · refine ⟨hC cs0, -1, ms0, ?_, hC_len _, ?_⟩
    · simp only [fxX6_sum, slot_in hj, slot_in hk, slot_no q, Option.bind_some, o10, if_false, if_true]
    · simp only [mxX7_sum, solid_in hj, solid_in hk, solid_no q, Option.bind_some, o10, if_false, if_true]
  · rw [← hpC_cs0]
    exact ckI_ok (al3 q_sum hj hk hr)
theorem p_near (a b x : Int32) : okP (fxX6_near 1000 0 a b x (hC cs0)) (mxX7_near 1000 a b x ms0) := by
  rcases slot_or a with q | ⟨j, hj, rfl⟩
  · refine ⟨hC cs0, -1, ms0, ?_, hC_len _, ?_⟩
    · simp only [fxX6_near, slot_no q, Option.bind_some, if_true]
    · simp only [mxX7_near, solid_no q, Option.bind_some, if_true]
  rcases slot_or b with q | ⟨k, hk, rfl⟩
  · refine ⟨hC cs0, -1, ms0, ?_, hC_len _, ?_⟩
    · simp only [fxX6_near, slot_in hj, slot_no q, Option.bind_some, o10, if_false, if_true]
    · simp only [mxX7_near, solid_in hj, solid_no q, Option.bind_some, o10, if_false, if_true]
  · obtain ⟨g1, g2, g3, g4, g5, g6⟩ := st_sol j hj
    have bj := i_nb hj (show 8 < 2147483648 by decide)
    have tj : (Int32.ofNat j).toNatClampNeg = j := i_tn (by omega)
    refine ⟨hC cs0, -1, ms0, ?_, hC_len _, ?_⟩
    · have tb : fxX6_isTopOrBottom 1000 x (hC cs0) = some (hC cs0, 0) ∨ fxX6_isTopOrBottom 1000 x (hC cs0) = some (hC cs0, 1) := by
        unfold fxX6_isTopOrBottom
        by_cases h0 : x = 0
        · exact .inr (if_pos h0)
        · rw [if_neg h0]
          by_cases h1 : x = 1
          · exact .inr (if_pos h1)
          · exact .inl (if_neg h1)
      rcases tb with tb | tb
      · simp only [fxX6_near, slot_in hj, slot_in hk, tb, Option.bind_some, o10, if_false, if_true]
      · simp only [fxX6_near, slot_in hk, tb, slot_in hj, Option.bind_some, o10, if_false, gR_6_2 s0, Nat.zero_add, aR_14 s3 bj, tj, g1, gR_0_1 g2, gI_3_0 g4, g6, gI_0_0 g2, gI_0_2 g2, gI_0_6 g2, g5 0 (by decide), g5 2 (by decide), g5 6 (by decide), if_true]
    · simp only [mxX7_near, solid_in hk, solid_in hj, Option.bind_some, o10, if_false, r_many hj, r_kind hj, if_true]
theorem p_mirror (a x : Int32) : okP (fxX6_mirror 1000 0 a x (hC cs0)) (mxX7_mirror 1000 a x ms0) := by
  rcases slot_or a with q | ⟨j, hj, rfl⟩
  · refine ⟨hC cs0, 0, ms0, ?_, hC_len _, ?_⟩
    · simp only [fxX6_mirror, slot_no q, Option.bind_some, if_true]
    · simp only [mxX7_mirror, solid_no q, Option.bind_some, if_true]
  rcases rng_or (n := 4) (by decide) x with q | ⟨k, hk, rfl⟩
  · have q' : x < 0 ∨ (3 : Int32) < x := by
      refine q.imp id fun q => ?_
      have e1 : (Int32.ofNat 4).toInt = 4 := rfl
      have e2 : (3 : Int32).toInt = 3 := rfl
      rw [Int32.le_iff_toInt_le, e1] at q
      rw [Int32.lt_iff_toInt_lt, e2]
      omega
    by_cases h0 : x < 0
    · refine ⟨hC cs0, 0, ms0, ?_, hC_len _, ?_⟩
      · simp only [fxX6_mirror, slot_in hj, Option.bind_some, o10, if_false, h0, if_true]
      · simp only [mxX7_mirror, solid_in hj, Option.bind_some, o10, if_false, h0, if_true]
    · have h3 := q'.resolve_left h0
      have h3' := Int32.not_le.mpr h3
      refine ⟨hC cs0, 0, ms0, ?_, hC_len _, ?_⟩
      · simp only [fxX6_mirror, slot_in hj, Option.bind_some, o10, if_false, h0, h3, h3', if_true]
      · simp only [mxX7_mirror, solid_in hj, Option.bind_some, o10, if_false, h0, h3, h3', if_true]
  · rw [← hpC_cs0]
    exact ckI_ok (al2 q_mirror hj hk)
theorem p_turn (a x : Int32) : okP (fxX6_turn 1000 0 a x (hC cs0)) (mxX7_turn 1000 a x ms0) := by
  rcases slot_or a with q | ⟨j, hj, rfl⟩
  · refine ⟨hC cs0, 0, ms0, ?_, hC_len _, ?_⟩
    · simp only [fxX6_turn, slot_no q, Option.bind_some, if_true]
    · simp only [mxX7_turn, solid_no q, Option.bind_some, if_true]
  rcases rng_or (n := 3) (by decide) x with q | ⟨k, hk, rfl⟩
  · have q' : x < 0 ∨ (2 : Int32) < x := by
      refine q.imp id fun q => ?_
      have e1 : (Int32.ofNat 3).toInt = 3 := rfl
      have e2 : (2 : Int32).toInt = 2 := rfl
      rw [Int32.le_iff_toInt_le, e1] at q
      rw [Int32.lt_iff_toInt_lt, e2]
      omega
    by_cases h0 : x < 0
    · refine ⟨hC cs0, 0, ms0, ?_, hC_len _, ?_⟩
      · simp only [fxX6_turn, slot_in hj, Option.bind_some, o10, if_false, h0, if_true]
      · simp only [mxX7_turn, solid_in hj, Option.bind_some, o10, if_false, h0, if_true]
    · have h3 := q'.resolve_left h0
      have h3' := Int32.not_le.mpr h3
      refine ⟨hC cs0, 0, ms0, ?_, hC_len _, ?_⟩
      · simp only [fxX6_turn, slot_in hj, Option.bind_some, o10, if_false, h0, h3, h3', if_true]
      · simp only [mxX7_turn, solid_in hj, Option.bind_some, o10, if_false, h0, h3, h3', if_true]
  · rw [← hpC_cs0]
    exact ckI_ok (al2 q_turn hj hk)
theorem p_tray (a x : Int32) : okP (fxX6_tray 1000 0 a x (hC cs0)) (mxX7_tray 1000 a x ms0) := by
  rcases slot_or a with q | ⟨j, hj, rfl⟩
  · refine ⟨hC cs0, 0, ms0, ?_, hC_len _, ?_⟩
    · simp only [fxX6_tray, slot_no q, Option.bind_some, if_true]
    · simp only [mxX7_tray, solid_no q, Option.bind_some, if_true]
  by_cases h0 : x < -1
  · refine ⟨hC cs0, 0, ms0, ?_, hC_len _, ?_⟩
    · simp only [fxX6_tray, slot_in hj, Option.bind_some, o10, if_false, h0, if_true]
    · simp only [mxX7_tray, solid_in hj, Option.bind_some, o10, if_false, h0, if_true]
  by_cases h3 : (24 : Int32) < x
  · have h3' := Int32.not_le.mpr h3
    refine ⟨hC cs0, 0, ms0, ?_, hC_len _, ?_⟩
    · simp only [fxX6_tray, slot_in hj, Option.bind_some, o10, if_false, h0, h3, h3', if_true]
    · simp only [mxX7_tray, solid_in hj, Option.bind_some, o10, if_false, h0, h3, h3', if_true]
  · have e1 : (-1 : Int32).toInt = -1 := rfl
    have e2 : (24 : Int32).toInt = 24 := rfl
    rw [Int32.lt_iff_toInt_lt, e1] at h0
    rw [Int32.lt_iff_toInt_lt, e2] at h3
    have hx : x = Int32.ofInt (((x.toInt + 1).toNat : Int) - 1) := by
      have : (((x.toInt + 1).toNat : Int) - 1) = x.toInt := by omega
      rw [this, Int32.ofInt_toInt]
    rw [← hpC_cs0, hx]
    exact ckI_ok (al2 q_tray hj (show (x.toInt + 1).toNat < 26 by omega))
