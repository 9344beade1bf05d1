theorem p_count (a x : Int32) : okP (fxX6_count 1000 0 a x (hC cs0)) (mxX7_count 1000 a x ms0) := by
  rcases slot_or a with q | ⟨j, hj, rfl⟩
  · refine ⟨hC cs0, -1, ms0, ?_, hC_len _, ?_⟩
    · simp only [fxX6_count, slot_no q, Option.bind_some, if_true]
    · simp only [mxX7_count, solid_no q, Option.bind_some, if_true]
  · obtain ⟨g1, g2, g3, g4, g5, g6⟩ := st_sol j hj
    have bj := i_nb hj (show 8 < 2147483648 by decide)
    have tj : (Int32.ofNat j).toNatClampNeg = j := i_tn (by omega)
    obtain ⟨s, e, e34, e27⟩ := k_knows hj
    by_cases h0 : x = 0
    · refine ⟨hC cs0, 0, ms0, ?_, hC_len _, ?_⟩
      · simp only [fxX6_count, slot_in hj, Option.bind_some, o10, if_false, gR_6_2 s0, Nat.zero_add, aR_14 s3 bj, tj, g1, gR_0_1 g2, gI_3_0 g4, g6, gI_0_0 g2, gI_0_2 g2, gI_0_6 g2, g5 0 (by decide), g5 2 (by decide), g5 6 (by decide), h0, if_true]
      · simp only [mxX7_count, solid_in hj, Option.bind_some, o10, if_false, r_many hj, r_kind hj, h0, if_true]
    by_cases h1 : x = 1
    · refine ⟨hC cs0, 0, ms0, ?_, hC_len _, ?_⟩
      · simp only [fxX6_count, slot_in hj, Option.bind_some, o10, if_false, gR_6_2 s0, Nat.zero_add, aR_14 s3 bj, tj, g1, gR_0_1 g2, gI_3_0 g4, g6, gI_0_0 g2, gI_0_2 g2, gI_0_6 g2, g5 0 (by decide), g5 2 (by decide), g5 6 (by decide), h1, if_true]
      · simp only [mxX7_count, solid_in hj, Option.bind_some, o10, if_false, r_many hj, r_kind hj, h1, if_true]
    by_cases h2 : x = 2
    · refine ⟨hC cs0, 0, s, ?_, hC_len _, ?_⟩
      · simp only [fxX6_count, slot_in hj, Option.bind_some, o10, if_false, gR_6_2 s0, Nat.zero_add, aR_14 s3 bj, tj, g1, gR_0_1 g2, gI_3_0 g4, g6, gI_0_0 g2, gI_0_2 g2, gI_0_6 g2, g5 0 (by decide), g5 2 (by decide), g5 6 (by decide), h0, h1, h2, if_true]
        simp
      · simp only [mxX7_count, solid_in hj, Option.bind_some, o10, if_false, r_many hj, r_kind hj, h0, h1, h2, if_true]
        simp [mxX7_count_44, e, rA_0 (show 0 < aN 34 by decide), e34]
    by_cases h3 : x = 3
    · refine ⟨hC cs0, 0, s, ?_, hC_len _, ?_⟩
      · simp only [fxX6_count, slot_in hj, Option.bind_some, o10, if_false, gR_6_2 s0, Nat.zero_add, aR_14 s3 bj, tj, g1, gR_0_1 g2, gI_3_0 g4, g6, gI_0_0 g2, gI_0_2 g2, gI_0_6 g2, g5 0 (by decide), g5 2 (by decide), g5 6 (by decide), h3, if_true]
        simp
      · simp only [mxX7_count, solid_in hj, Option.bind_some, o10, if_false, r_many hj, r_kind hj, h3, if_true]
        simp [mxX7_count_44, e, rA_0 (show 0 < aN 27 by decide), e27]
    · refine ⟨hC cs0, -1, ms0, ?_, hC_len _, ?_⟩
      · simp only [fxX6_count, slot_in hj, Option.bind_some, o10, if_false, gR_6_2 s0, Nat.zero_add, aR_14 s3 bj, tj, g1, gR_0_1 g2, gI_3_0 g4, g6, gI_0_0 g2, gI_0_2 g2, gI_0_6 g2, g5 0 (by decide), g5 2 (by decide), g5 6 (by decide), h0, h1, h2, h3]
      · simp only [mxX7_count, solid_in hj, Option.bind_some, o10, if_false, r_many hj, r_kind hj, h0, h1, h2, h3]
theorem p_in (a x y z d : Int32) : okP (fxX6_in 1000 0 a x y z d (hC cs0)) (mxX7_in 1000 a x y z d ms0) := by
  rcases slot_or a with q | ⟨j, hj, rfl⟩
  · refine ⟨hC cs0, -1, ms0, ?_, hC_len _, ?_⟩
    · simp only [fxX6_in, slot_no q, Option.bind_some, if_true]
    · simp only [mxX7_in, solid_no q, Option.bind_some, if_true]
  · obtain ⟨g1, g2, g3, g4, g5, g6⟩ := st_sol j hj
    have bj := i_nb hj (show 8 < 2147483648 by decide)
    have tj : (Int32.ofNat j).toNatClampNeg = j := i_tn (by omega)
    by_cases h1 : d < 1
    · refine ⟨hC cs0, -1, ms0, ?_, hC_len _, ?_⟩
      · simp only [fxX6_in, slot_in hj, Option.bind_some, o10, if_false, h1, if_true]
      · simp only [mxX7_in, solid_in hj, Option.bind_some, o10, if_false, h1, if_true]
    by_cases h2 : d ≤ 1000
    rotate_left
    · refine ⟨hC cs0, -1, ms0, ?_, hC_len _, ?_⟩
      · simp only [fxX6_in, slot_in hj, Option.bind_some, o10, if_false, h1, h2]
      · simp only [mxX7_in, solid_in hj, Option.bind_some, o10, if_false, h1, Int32.not_le.mp h2, if_true]
    have h2' : ¬ (1000 < d) := Int32.not_lt.mpr h2
    rcases wf x with wx | wx
    · refine ⟨hC cs0, -1, ms0, ?_, hC_len _, ?_⟩
      · simp only [fxX6_in, slot_in hj, Option.bind_some, o10, if_false, h1, h2, if_true, (wx 1000 (hC cs0) ms0).1]
      · simp only [mxX7_in, solid_in hj, Option.bind_some, o10, if_false, h1, h2', (wx 1000 (hC cs0) ms0).2]
    rcases wf y with wy | wy
    · refine ⟨hC cs0, -1, ms0, ?_, hC_len _, ?_⟩
      · simp only [fxX6_in, slot_in hj, Option.bind_some, o10, if_false, h1, h2, if_true, (wx 1000 (hC cs0) ms0).1, (wy 1000 (hC cs0) ms0).1]
      · simp only [mxX7_in, solid_in hj, Option.bind_some, o10, if_false, h1, h2', if_true, (wx 1000 (hC cs0) ms0).2, (wy 1000 (hC cs0) ms0).2]
    rcases wf z with wz | wz
    · refine ⟨hC cs0, -1, ms0, ?_, hC_len _, ?_⟩
      · simp only [fxX6_in, slot_in hj, Option.bind_some, o10, if_false, h1, h2, if_true, (wx 1000 (hC cs0) ms0).1, (wy 1000 (hC cs0) ms0).1, (wz 1000 (hC cs0) ms0).1]
      · simp only [mxX7_in, solid_in hj, Option.bind_some, o10, if_false, h1, h2', if_true, (wx 1000 (hC cs0) ms0).2, (wy 1000 (hC cs0) ms0).2, (wz 1000 (hC cs0) ms0).2]
    · obtain ⟨s, e, ek⟩ := k_owns hj
      have ek' : (pJ (pJ (pJ (pJ s 39 x.toInt64) 40 y.toInt64) 41 z.toInt64) 42 d.toInt64).2.2.1 5 j = 0 := ek
      refine ⟨hC cs0, 0, pJ (pJ (pJ (pJ s 39 x.toInt64) 40 y.toInt64) 41 z.toInt64) 42 d.toInt64, ?_, hC_len _, ?_⟩
      · simp only [fxX6_in, slot_in hj, Option.bind_some, o10, if_false, gR_6_2 s0, Nat.zero_add, aR_14 s3 bj, tj, g1, gR_0_1 g2, gI_3_0 g4, g6, gI_0_0 g2, gI_0_2 g2, gI_0_6 g2, g5 0 (by decide), g5 2 (by decide), g5 6 (by decide), h1, h2, if_true, (wx 1000 (hC cs0) ms0).1, (wy 1000 (hC cs0) ms0).1, (wz 1000 (hC cs0) ms0).1, kO_0 g2, fxX0_locate]
      · simp only [mxX7_in, solid_in hj, Option.bind_some, o10, if_false, h1, h2', if_true, (wx 1000 (hC cs0) ms0).2, (wy 1000 (hC cs0) ms0).2, (wz 1000 (hC cs0) ms0).2, e, mxX7_points, rA_N (k := 5) hj (by decide), ek', mxX7_where]
theorem p_side (a u v t d : Int32) : okP (fxX6_side 1000 0 a u v t d (hC cs0)) (mxX7_side 1000 a u v t d ms0) := by
  rcases slot_or a with q | ⟨j, hj, rfl⟩
  · refine ⟨hC cs0, -1, ms0, ?_, hC_len _, ?_⟩
    · simp only [fxX6_side, slot_no q, Option.bind_some, if_true]
    · simp only [mxX7_side, solid_no q, Option.bind_some, if_true]
  · obtain ⟨g1, g2, g3, g4, g5, g6⟩ := st_sol j hj
    have bj := i_nb hj (show 8 < 2147483648 by decide)
    have tj : (Int32.ofNat j).toNatClampNeg = j := i_tn (by omega)
    have f1 : fxX6_side_82 1000 1000 u v t d (51 + 14 * j + 1) 0 0 (hC cs0) = some (hC cs0, 0) := by
      rw [fxX6_side_82, gI_3_0 g4, Option.bind_some, g6, if_pos (Int32.le_refl (0 : Int32))]
    have f2 : mxX7_side_52 1000 (Int32.ofNat j) u v t d ms0 = some (ms0, 0) := by
      unfold mxX7_side_52
      rw [mxX7_side_58, r_many hj, Option.bind_some, if_pos (Int32.le_refl (0 : Int32))]
    rcases wf d with wd | wd <;> rcases ws u with wu | wu <;> rcases ws v with wv | wv <;> rcases ws t with wt | wt
    all_goals
      by_cases hz : u = 0 ∧ v = 0 ∧ t = 0
      · refine ⟨hC cs0, -1, ms0, ?_, hC_len _, ?_⟩
        · simp only [fxX6_side, slot_in hj, Option.bind_some, o10, if_false, hz, if_true]
        · obtain ⟨rfl, rfl, rfl⟩ := hz
          simp only [mxX7_side, solid_in hj, Option.bind_some, o10, if_false, if_true, (wd 1000 (hC cs0) ms0).2, (wu 1000 (hC cs0) ms0).2, (wv 1000 (hC cs0) ms0).2, (wt 1000 (hC cs0) ms0).2]
      have n1 : ∀ {α : Type} (A B : α), (if u = 0 then (if v = 0 then (if t = 0 then A else B) else B) else B) = B := by
        intro α A B
        by_cases hu : u = 0
        · by_cases hv : v = 0
          · by_cases ht : t = 0
            · exact absurd ⟨hu, hv, ht⟩ hz
            · rw [if_pos hu, if_pos hv, if_neg ht]
          · rw [if_pos hu, if_neg hv]
        · rw [if_neg hu]
      first
        | (refine ⟨hC cs0, 0, ms0, ?_, hC_len _, ?_⟩
           · simp only [fxX6_side, slot_in hj, Option.bind_some, o10, if_false, gR_6_2 s0, Nat.zero_add, aR_14 s3 bj, tj, g1, gR_0_1 g2, gI_3_0 g4, g6, gI_0_0 g2, gI_0_2 g2, gI_0_6 g2, g5 0 (by decide), g5 2 (by decide), g5 6 (by decide), n1, fxX6_side_20, if_true, (wd 1000 (hC cs0) ms0).1, (wu 1000 (hC cs0) ms0).1, (wv 1000 (hC cs0) ms0).1, (wt 1000 (hC cs0) ms0).1, f1]
             done
           · simp only [mxX7_side, solid_in hj, Option.bind_some, o10, if_false, n1, if_true, (wd 1000 (hC cs0) ms0).2, (wu 1000 (hC cs0) ms0).2, (wv 1000 (hC cs0) ms0).2, (wt 1000 (hC cs0) ms0).2, f2]
             done)
        | (refine ⟨hC cs0, -1, ms0, ?_, hC_len _, ?_⟩
           · simp only [fxX6_side, slot_in hj, Option.bind_some, o10, if_false, gR_6_2 s0, Nat.zero_add, aR_14 s3 bj, tj, g1, gR_0_1 g2, gI_3_0 g4, g6, gI_0_0 g2, gI_0_2 g2, gI_0_6 g2, g5 0 (by decide), g5 2 (by decide), g5 6 (by decide), n1, fxX6_side_20, if_true, (wd 1000 (hC cs0) ms0).1, (wu 1000 (hC cs0) ms0).1, (wv 1000 (hC cs0) ms0).1, (wt 1000 (hC cs0) ms0).1]
           · simp only [mxX7_side, solid_in hj, Option.bind_some, o10, if_false, n1, if_true, (wd 1000 (hC cs0) ms0).2, (wu 1000 (hC cs0) ms0).2, (wv 1000 (hC cs0) ms0).2, (wt 1000 (hC cs0) ms0).2])
