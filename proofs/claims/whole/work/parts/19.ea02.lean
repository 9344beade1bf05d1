set_option maxHeartbeats 4000000 in
set_option maxRecDepth 100000 in
theorem eaX1_stepToPoint {N : Nat} {R : mh} {p0 : Nat} {p1 : Int32} {h : mh} {o : (mh × Int32)} (hq : fxX1_stepToPoint N p0 p1 h = some o) : mC mX1_stepToPoint [.ref p0, .int p1] (h ++ R) (o.1 ++ R, some (.int o.2)) := by
  refine mC_of okX1_stepToPoint (Nat.le_of_ble_eq_true rfl) ?_
  unfold fxX1_stepToPoint at hq
  show mB _ mX1_stepToPoint (0, [(0, .ref p0), (1, .int p1)], [], (h ++ R), 0, 0)
  refine mB_run odX1_stepToPoint 2 (g := (2, [(0, .ref p0), (1, .int p1)], [.ref p0, .ref p0], (h ++ R), 0, 0)) rfl ?_
  obtain ⟨v1, e2, hq⟩ := bsm hq
  refine r_gR odX1_stepToPoint rfl rfl (gR_ap e2) ?_
  refine mB_run odX1_stepToPoint 1 (g := (6, [(0, .ref p0), (1, .int p1)], [.int p1, .ref v1, .ref p0], (h ++ R), 0, 0)) rfl ?_
  obtain ⟨v3, e4, hq⟩ := bsm hq
  refine r_aI odX1_stepToPoint rfl (aI_ap e4) ?_
  refine mB_run odX1_stepToPoint 1 (g := (8, [(0, .ref p0), (1, .int p1)], [.long v3.toInt64, .ref p0], (h ++ R), 0, 0)) rfl ?_
  obtain ⟨h5, e6, hq⟩ := bsm hq
  refine r_sV odX1_stepToPoint rfl rfl rfl rfl (sV_ap e6) ?_
  refine mB_run odX1_stepToPoint 2 (g := (13, [(0, .ref p0), (1, .int p1)], [.ref p0, .ref p0], (h5 ++ R), 0, 0)) rfl ?_
  obtain ⟨v7, e8, hq⟩ := bsm hq
  refine r_gR odX1_stepToPoint rfl rfl (gR_ap e8) ?_
  refine mB_run odX1_stepToPoint 1 (g := (17, [(0, .ref p0), (1, .int p1)], [.int p1, .ref v7, .ref p0], (h5 ++ R), 0, 0)) rfl ?_
  obtain ⟨v9, e10, hq⟩ := bsm hq
  refine r_aI odX1_stepToPoint rfl (aI_ap e10) ?_
  refine mB_run odX1_stepToPoint 1 (g := (19, [(0, .ref p0), (1, .int p1)], [.long v9.toInt64, .ref p0], (h5 ++ R), 0, 0)) rfl ?_
  obtain ⟨h11, e12, hq⟩ := bsm hq
  refine r_sV odX1_stepToPoint rfl rfl rfl rfl (sV_ap e12) ?_
  refine mB_run odX1_stepToPoint 2 (g := (24, [(0, .ref p0), (1, .int p1)], [.ref p0, .ref p0], (h11 ++ R), 0, 0)) rfl ?_
  obtain ⟨v13, e14, hq⟩ := bsm hq
  refine r_gR odX1_stepToPoint rfl rfl (gR_ap e14) ?_
  refine mB_run odX1_stepToPoint 1 (g := (28, [(0, .ref p0), (1, .int p1)], [.int p1, .ref v13, .ref p0], (h11 ++ R), 0, 0)) rfl ?_
  obtain ⟨v15, e16, hq⟩ := bsm hq
  refine r_aI odX1_stepToPoint rfl (aI_ap e16) ?_
  refine mB_run odX1_stepToPoint 1 (g := (30, [(0, .ref p0), (1, .int p1)], [.long v15.toInt64, .ref p0], (h11 ++ R), 0, 0)) rfl ?_
  obtain ⟨h17, e18, hq⟩ := bsm hq
  refine r_sV odX1_stepToPoint rfl rfl rfl rfl (sV_ap e18) ?_
  refine mB_run odX1_stepToPoint 3 (g := (36, [(0, .ref p0), (1, .int p1)], [.int p1, .ref p0, .ref p0], (h17 ++ R), 0, 0)) rfl ?_
  obtain ⟨f21, k22, hq⟩ := bsm hq
  obtain ⟨o19, e20, hq⟩ := bsm hq
  refine mB_V (as := [.int p1]) odX1_stepToPoint okX1_along lk_1_59 rfl (eaX1_along e20) (kO_at (kO_ap k22)) rfl rfl rfl ?_
  show mB _ mX1_stepToPoint (39, [(0, .ref p0), (1, .int p1)], [.long o19.2, .ref p0], (o19.1 ++ R), 0, 0)
  obtain ⟨h23, e24, hq⟩ := bsm hq
  refine r_sV odX1_stepToPoint rfl rfl rfl rfl (sV_ap e24) ?_
  refine mB_run odX1_stepToPoint 2 (g := (44, [(0, .ref p0), (1, .int p1)], [.long (1 : Int64), .ref p0], (h23 ++ R), 0, 0)) rfl ?_
  obtain ⟨h25, e26, hq⟩ := bsm hq
  refine r_sV odX1_stepToPoint rfl rfl rfl rfl (sV_ap e26) ?_
  refine mB_run odX1_stepToPoint 1 (g := (48, [(0, .ref p0), (1, .int p1)], [.int (1 : Int32)], (h25 ++ R), 0, 0)) rfl ?_
  cases hq
  exact mB_ret odX1_stepToPoint rfl
set_option maxHeartbeats 4000000 in
set_option maxRecDepth 100000 in
theorem eaX1_stepToLine {N : Nat} {R : mh} {p0 : Nat} {p1 : Int32} {p2 : Int32} {h : mh} {o : (mh × Int32)} (hq : fxX1_stepToLine N p0 p1 p2 h = some o) : mC mX1_stepToLine [.ref p0, .int p1, .int p2] (h ++ R) (o.1 ++ R, some (.int o.2)) := by
  refine mC_of okX1_stepToLine (Nat.le_of_ble_eq_true rfl) ?_
  unfold fxX1_stepToLine at hq
  show mB _ mX1_stepToLine (0, [(0, .ref p0), (1, .int p1), (2, .int p2)], [], (h ++ R), 0, 0)
  refine mB_run odX1_stepToLine 1 (g := (1, [(0, .ref p0), (1, .int p1), (2, .int p2)], [.ref p0], (h ++ R), 0, 0)) rfl ?_
  obtain ⟨v1, e2, hq⟩ := bsm hq
  refine r_gR odX1_stepToLine rfl rfl (gR_ap e2) ?_
  refine mB_run odX1_stepToLine 1 (g := (5, [(0, .ref p0), (1, .int p1), (2, .int p2)], [.int p2, .ref v1], (h ++ R), 0, 0)) rfl ?_
  obtain ⟨v3, e4, hq⟩ := bsm hq
  refine r_aI odX1_stepToLine rfl (aI_ap e4) ?_
  refine mB_run odX1_stepToLine 1 (g := (7, [(0, .ref p0), (1, .int p1), (2, .int p2)], [.ref p0, .int v3], (h ++ R), 0, 0)) rfl ?_
  obtain ⟨v5, e6, hq⟩ := bsm hq
  refine r_gR odX1_stepToLine rfl rfl (gR_ap e6) ?_
  refine mB_run odX1_stepToLine 1 (g := (11, [(0, .ref p0), (1, .int p1), (2, .int p2)], [.int p1, .ref v5, .int v3], (h ++ R), 0, 0)) rfl ?_
  obtain ⟨v7, e8, hq⟩ := bsm hq
  refine r_aI odX1_stepToLine rfl (aI_ap e8) ?_
  refine mB_run odX1_stepToLine 4 (g := (16, [(3, .long (v3 - v7).toInt64), (0, .ref p0), (1, .int p1), (2, .int p2)], [.ref p0], (h ++ R), 0, 0)) rfl ?_
  obtain ⟨v9, e10, hq⟩ := bsm hq
  refine r_gR odX1_stepToLine rfl rfl (gR_ap e10) ?_
  refine mB_run odX1_stepToLine 1 (g := (20, [(3, .long (v3 - v7).toInt64), (0, .ref p0), (1, .int p1), (2, .int p2)], [.int p2, .ref v9], (h ++ R), 0, 0)) rfl ?_
  obtain ⟨v11, e12, hq⟩ := bsm hq
  refine r_aI odX1_stepToLine rfl (aI_ap e12) ?_
  refine mB_run odX1_stepToLine 1 (g := (22, [(3, .long (v3 - v7).toInt64), (0, .ref p0), (1, .int p1), (2, .int p2)], [.ref p0, .int v11], (h ++ R), 0, 0)) rfl ?_
  obtain ⟨v13, e14, hq⟩ := bsm hq
  refine r_gR odX1_stepToLine rfl rfl (gR_ap e14) ?_
  refine mB_run odX1_stepToLine 1 (g := (26, [(3, .long (v3 - v7).toInt64), (0, .ref p0), (1, .int p1), (2, .int p2)], [.int p1, .ref v13, .int v11], (h ++ R), 0, 0)) rfl ?_
  obtain ⟨v15, e16, hq⟩ := bsm hq
  refine r_aI odX1_stepToLine rfl (aI_ap e16) ?_
  refine mB_run odX1_stepToLine 4 (g := (32, [(5, .long (v11 - v15).toInt64), (3, .long (v3 - v7).toInt64), (0, .ref p0), (1, .int p1), (2, .int p2)], [.ref p0], (h ++ R), 0, 0)) rfl ?_
  obtain ⟨v17, e18, hq⟩ := bsm hq
  refine r_gR odX1_stepToLine rfl rfl (gR_ap e18) ?_
  refine mB_run odX1_stepToLine 1 (g := (36, [(5, .long (v11 - v15).toInt64), (3, .long (v3 - v7).toInt64), (0, .ref p0), (1, .int p1), (2, .int p2)], [.int p2, .ref v17], (h ++ R), 0, 0)) rfl ?_
  obtain ⟨v19, e20, hq⟩ := bsm hq
  refine r_aI odX1_stepToLine rfl (aI_ap e20) ?_
  refine mB_run odX1_stepToLine 1 (g := (38, [(5, .long (v11 - v15).toInt64), (3, .long (v3 - v7).toInt64), (0, .ref p0), (1, .int p1), (2, .int p2)], [.ref p0, .int v19], (h ++ R), 0, 0)) rfl ?_
  obtain ⟨v21, e22, hq⟩ := bsm hq
  refine r_gR odX1_stepToLine rfl rfl (gR_ap e22) ?_
  refine mB_run odX1_stepToLine 1 (g := (42, [(5, .long (v11 - v15).toInt64), (3, .long (v3 - v7).toInt64), (0, .ref p0), (1, .int p1), (2, .int p2)], [.int p1, .ref v21, .int v19], (h ++ R), 0, 0)) rfl ?_
  obtain ⟨v23, e24, hq⟩ := bsm hq
  refine r_aI odX1_stepToLine rfl (aI_ap e24) ?_
  refine mB_run odX1_stepToLine 5 (g := (49, [(7, .long (v19 - v23).toInt64), (5, .long (v11 - v15).toInt64), (3, .long (v3 - v7).toInt64), (0, .ref p0), (1, .int p1), (2, .int p2)], [.ref p0, .long (v3 - v7).toInt64], (h ++ R), 0, 0)) rfl ?_
  obtain ⟨v25, e26, hq⟩ := bsm hq
  refine r_gR odX1_stepToLine rfl rfl (gR_ap e26) ?_
  refine mB_run odX1_stepToLine 1 (g := (53, [(7, .long (v19 - v23).toInt64), (5, .long (v11 - v15).toInt64), (3, .long (v3 - v7).toInt64), (0, .ref p0), (1, .int p1), (2, .int p2)], [.int p1, .ref v25, .long (v3 - v7).toInt64], (h ++ R), 0, 0)) rfl ?_
  obtain ⟨v27, e28, hq⟩ := bsm hq
  refine r_aI odX1_stepToLine rfl (aI_ap e28) ?_
  refine mB_run odX1_stepToLine 4 (g := (59, [(7, .long (v19 - v23).toInt64), (5, .long (v11 - v15).toInt64), (3, .long (v3 - v7).toInt64), (0, .ref p0), (1, .int p1), (2, .int p2)], [.ref p0, .long (v11 - v15).toInt64, .long ((v3 - v7).toInt64 * v27.toInt64)], (h ++ R), 0, 0)) rfl ?_
  obtain ⟨v29, e30, hq⟩ := bsm hq
  refine r_gR odX1_stepToLine rfl rfl (gR_ap e30) ?_
  refine mB_run odX1_stepToLine 1 (g := (63, [(7, .long (v19 - v23).toInt64), (5, .long (v11 - v15).toInt64), (3, .long (v3 - v7).toInt64), (0, .ref p0), (1, .int p1), (2, .int p2)], [.int p1, .ref v29, .long (v11 - v15).toInt64, .long ((v3 - v7).toInt64 * v27.toInt64)], (h ++ R), 0, 0)) rfl ?_
  obtain ⟨v31, e32, hq⟩ := bsm hq
  refine r_aI odX1_stepToLine rfl (aI_ap e32) ?_
  refine mB_run odX1_stepToLine 5 (g := (70, [(7, .long (v19 - v23).toInt64), (5, .long (v11 - v15).toInt64), (3, .long (v3 - v7).toInt64), (0, .ref p0), (1, .int p1), (2, .int p2)], [.ref p0, .long (v19 - v23).toInt64, .long (((v3 - v7).toInt64 * v27.toInt64) + ((v11 - v15).toInt64 * v31.toInt64))], (h ++ R), 0, 0)) rfl ?_
  obtain ⟨v33, e34, hq⟩ := bsm hq
  refine r_gR odX1_stepToLine rfl rfl (gR_ap e34) ?_
  refine mB_run odX1_stepToLine 1 (g := (74, [(7, .long (v19 - v23).toInt64), (5, .long (v11 - v15).toInt64), (3, .long (v3 - v7).toInt64), (0, .ref p0), (1, .int p1), (2, .int p2)], [.int p1, .ref v33, .long (v19 - v23).toInt64, .long (((v3 - v7).toInt64 * v27.toInt64) + ((v11 - v15).toInt64 * v31.toInt64))], (h ++ R), 0, 0)) rfl ?_
  obtain ⟨v35, e36, hq⟩ := bsm hq
  refine r_aI odX1_stepToLine rfl (aI_ap e36) ?_
  refine mB_run odX1_stepToLine 7 (g := (83, [(9, .long (-((((v3 - v7).toInt64 * v27.toInt64) + ((v11 - v15).toInt64 * v31.toInt64)) + ((v19 - v23).toInt64 * v35.toInt64)))), (7, .long (v19 - v23).toInt64), (5, .long (v11 - v15).toInt64), (3, .long (v3 - v7).toInt64), (0, .ref p0), (1, .int p1), (2, .int p2)], [.ref p0, .long (v3 - v7).toInt64], (h ++ R), 0, 0)) rfl ?_
  obtain ⟨v37, e38, hq⟩ := bsm hq
  refine r_gR odX1_stepToLine rfl rfl (gR_ap e38) ?_
  refine mB_run odX1_stepToLine 1 (g := (87, [(9, .long (-((((v3 - v7).toInt64 * v27.toInt64) + ((v11 - v15).toInt64 * v31.toInt64)) + ((v19 - v23).toInt64 * v35.toInt64)))), (7, .long (v19 - v23).toInt64), (5, .long (v11 - v15).toInt64), (3, .long (v3 - v7).toInt64), (0, .ref p0), (1, .int p1), (2, .int p2)], [.int p2, .ref v37, .long (v3 - v7).toInt64], (h ++ R), 0, 0)) rfl ?_
  obtain ⟨v39, e40, hq⟩ := bsm hq
  refine r_aI odX1_stepToLine rfl (aI_ap e40) ?_
  refine mB_run odX1_stepToLine 4 (g := (93, [(9, .long (-((((v3 - v7).toInt64 * v27.toInt64) + ((v11 - v15).toInt64 * v31.toInt64)) + ((v19 - v23).toInt64 * v35.toInt64)))), (7, .long (v19 - v23).toInt64), (5, .long (v11 - v15).toInt64), (3, .long (v3 - v7).toInt64), (0, .ref p0), (1, .int p1), (2, .int p2)], [.ref p0, .long (v11 - v15).toInt64, .long ((v3 - v7).toInt64 * v39.toInt64)], (h ++ R), 0, 0)) rfl ?_
  obtain ⟨v41, e42, hq⟩ := bsm hq
  refine r_gR odX1_stepToLine rfl rfl (gR_ap e42) ?_
  refine mB_run odX1_stepToLine 1 (g := (97, [(9, .long (-((((v3 - v7).toInt64 * v27.toInt64) + ((v11 - v15).toInt64 * v31.toInt64)) + ((v19 - v23).toInt64 * v35.toInt64)))), (7, .long (v19 - v23).toInt64), (5, .long (v11 - v15).toInt64), (3, .long (v3 - v7).toInt64), (0, .ref p0), (1, .int p1), (2, .int p2)], [.int p2, .ref v41, .long (v11 - v15).toInt64, .long ((v3 - v7).toInt64 * v39.toInt64)], (h ++ R), 0, 0)) rfl ?_
  obtain ⟨v43, e44, hq⟩ := bsm hq
  refine r_aI odX1_stepToLine rfl (aI_ap e44) ?_
  refine mB_run odX1_stepToLine 5 (g := (104, [(9, .long (-((((v3 - v7).toInt64 * v27.toInt64) + ((v11 - v15).toInt64 * v31.toInt64)) + ((v19 - v23).toInt64 * v35.toInt64)))), (7, .long (v19 - v23).toInt64), (5, .long (v11 - v15).toInt64), (3, .long (v3 - v7).toInt64), (0, .ref p0), (1, .int p1), (2, .int p2)], [.ref p0, .long (v19 - v23).toInt64, .long (((v3 - v7).toInt64 * v39.toInt64) + ((v11 - v15).toInt64 * v43.toInt64))], (h ++ R), 0, 0)) rfl ?_
  obtain ⟨v45, e46, hq⟩ := bsm hq
  refine r_gR odX1_stepToLine rfl rfl (gR_ap e46) ?_
  refine mB_run odX1_stepToLine 1 (g := (108, [(9, .long (-((((v3 - v7).toInt64 * v27.toInt64) + ((v11 - v15).toInt64 * v31.toInt64)) + ((v19 - v23).toInt64 * v35.toInt64)))), (7, .long (v19 - v23).toInt64), (5, .long (v11 - v15).toInt64), (3, .long (v3 - v7).toInt64), (0, .ref p0), (1, .int p1), (2, .int p2)], [.int p2, .ref v45, .long (v19 - v23).toInt64, .long (((v3 - v7).toInt64 * v39.toInt64) + ((v11 - v15).toInt64 * v43.toInt64))], (h ++ R), 0, 0)) rfl ?_
  obtain ⟨v47, e48, hq⟩ := bsm hq
  refine r_aI odX1_stepToLine rfl (aI_ap e48) ?_
  refine mB_run odX1_stepToLine 6 (g := (117, [(11, .long ((((v3 - v7).toInt64 * v39.toInt64) + ((v11 - v15).toInt64 * v43.toInt64)) + ((v19 - v23).toInt64 * v47.toInt64))), (9, .long (-((((v3 - v7).toInt64 * v27.toInt64) + ((v11 - v15).toInt64 * v31.toInt64)) + ((v19 - v23).toInt64 * v35.toInt64)))), (7, .long (v19 - v23).toInt64), (5, .long (v11 - v15).toInt64), (3, .long (v3 - v7).toInt64), (0, .ref p0), (1, .int p1), (2, .int p2)], [.long (0 : Int64), .long (-((((v3 - v7).toInt64 * v27.toInt64) + ((v11 - v15).toInt64 * v31.toInt64)) + ((v19 - v23).toInt64 * v35.toInt64)))], (h ++ R), 0, 0)) rfl ?_
  by_cases c49 : (-((((v3 - v7).toInt64 * v27.toInt64) + ((v11 - v15).toInt64 * v31.toInt64)) + ((v19 - v23).toInt64 * v35.toInt64))) ≤ (0 : Int64)
  · rw [if_pos c49] at hq
    refine lc_le_T (t := 128) odX1_stepToLine rfl rfl rfl c49 ?_
    refine mB_run odX1_stepToLine 1 (g := (129, [(11, .long ((((v3 - v7).toInt64 * v39.toInt64) + ((v11 - v15).toInt64 * v43.toInt64)) + ((v19 - v23).toInt64 * v47.toInt64))), (9, .long (-((((v3 - v7).toInt64 * v27.toInt64) + ((v11 - v15).toInt64 * v31.toInt64)) + ((v19 - v23).toInt64 * v35.toInt64)))), (7, .long (v19 - v23).toInt64), (5, .long (v11 - v15).toInt64), (3, .long (v3 - v7).toInt64), (0, .ref p0), (1, .int p1), (2, .int p2)], [.int (0 : Int32)], (h ++ R), 0, 0)) rfl ?_
    cases hq
    exact mB_ret odX1_stepToLine rfl
  · rw [if_neg c49] at hq
    refine lc_le_F (t := 128) odX1_stepToLine rfl rfl rfl c49 ?_
    refine mB_run odX1_stepToLine 2 (g := (124, [(11, .long ((((v3 - v7).toInt64 * v39.toInt64) + ((v11 - v15).toInt64 * v43.toInt64)) + ((v19 - v23).toInt64 * v47.toInt64))), (9, .long (-((((v3 - v7).toInt64 * v27.toInt64) + ((v11 - v15).toInt64 * v31.toInt64)) + ((v19 - v23).toInt64 * v35.toInt64)))), (7, .long (v19 - v23).toInt64), (5, .long (v11 - v15).toInt64), (3, .long (v3 - v7).toInt64), (0, .ref p0), (1, .int p1), (2, .int p2)], [.long (0 : Int64), .long ((((v3 - v7).toInt64 * v39.toInt64) + ((v11 - v15).toInt64 * v43.toInt64)) + ((v19 - v23).toInt64 * v47.toInt64))], (h ++ R), 0, 0)) rfl ?_
    by_cases c50 : (0 : Int64) < ((((v3 - v7).toInt64 * v39.toInt64) + ((v11 - v15).toInt64 * v43.toInt64)) + ((v19 - v23).toInt64 * v47.toInt64))
    · rw [if_pos c50] at hq
      refine lc_gt_T (t := 130) odX1_stepToLine rfl rfl rfl c50 ?_
      refine mB_run odX1_stepToLine 3 (g := (134, [(11, .long ((((v3 - v7).toInt64 * v39.toInt64) + ((v11 - v15).toInt64 * v43.toInt64)) + ((v19 - v23).toInt64 * v47.toInt64))), (9, .long (-((((v3 - v7).toInt64 * v27.toInt64) + ((v11 - v15).toInt64 * v31.toInt64)) + ((v19 - v23).toInt64 * v35.toInt64)))), (7, .long (v19 - v23).toInt64), (5, .long (v11 - v15).toInt64), (3, .long (v3 - v7).toInt64), (0, .ref p0), (1, .int p1), (2, .int p2)], [.ref p0, .long ((((v3 - v7).toInt64 * v39.toInt64) + ((v11 - v15).toInt64 * v43.toInt64)) + ((v19 - v23).toInt64 * v47.toInt64)), .ref p0], (h ++ R), 0, 0)) rfl ?_
      obtain ⟨v51, e52, hq⟩ := bsm hq
      refine r_gR odX1_stepToLine rfl rfl (gR_ap e52) ?_
      refine mB_run odX1_stepToLine 1 (g := (138, [(11, .long ((((v3 - v7).toInt64 * v39.toInt64) + ((v11 - v15).toInt64 * v43.toInt64)) + ((v19 - v23).toInt64 * v47.toInt64))), (9, .long (-((((v3 - v7).toInt64 * v27.toInt64) + ((v11 - v15).toInt64 * v31.toInt64)) + ((v19 - v23).toInt64 * v35.toInt64)))), (7, .long (v19 - v23).toInt64), (5, .long (v11 - v15).toInt64), (3, .long (v3 - v7).toInt64), (0, .ref p0), (1, .int p1), (2, .int p2)], [.int p1, .ref v51, .long ((((v3 - v7).toInt64 * v39.toInt64) + ((v11 - v15).toInt64 * v43.toInt64)) + ((v19 - v23).toInt64 * v47.toInt64)), .ref p0], (h ++ R), 0, 0)) rfl ?_
      obtain ⟨v53, e54, hq⟩ := bsm hq
      refine r_aI odX1_stepToLine rfl (aI_ap e54) ?_
      refine mB_run odX1_stepToLine 4 (g := (144, [(11, .long ((((v3 - v7).toInt64 * v39.toInt64) + ((v11 - v15).toInt64 * v43.toInt64)) + ((v19 - v23).toInt64 * v47.toInt64))), (9, .long (-((((v3 - v7).toInt64 * v27.toInt64) + ((v11 - v15).toInt64 * v31.toInt64)) + ((v19 - v23).toInt64 * v35.toInt64)))), (7, .long (v19 - v23).toInt64), (5, .long (v11 - v15).toInt64), (3, .long (v3 - v7).toInt64), (0, .ref p0), (1, .int p1), (2, .int p2)], [.ref p0, .long (-((((v3 - v7).toInt64 * v27.toInt64) + ((v11 - v15).toInt64 * v31.toInt64)) + ((v19 - v23).toInt64 * v35.toInt64))), .long (((((v3 - v7).toInt64 * v39.toInt64) + ((v11 - v15).toInt64 * v43.toInt64)) + ((v19 - v23).toInt64 * v47.toInt64)) * v53.toInt64), .ref p0], (h ++ R), 0, 0)) rfl ?_
      obtain ⟨v55, e56, hq⟩ := bsm hq
      refine r_gR odX1_stepToLine rfl rfl (gR_ap e56) ?_
      refine mB_run odX1_stepToLine 1 (g := (148, [(11, .long ((((v3 - v7).toInt64 * v39.toInt64) + ((v11 - v15).toInt64 * v43.toInt64)) + ((v19 - v23).toInt64 * v47.toInt64))), (9, .long (-((((v3 - v7).toInt64 * v27.toInt64) + ((v11 - v15).toInt64 * v31.toInt64)) + ((v19 - v23).toInt64 * v35.toInt64)))), (7, .long (v19 - v23).toInt64), (5, .long (v11 - v15).toInt64), (3, .long (v3 - v7).toInt64), (0, .ref p0), (1, .int p1), (2, .int p2)], [.int p2, .ref v55, .long (-((((v3 - v7).toInt64 * v27.toInt64) + ((v11 - v15).toInt64 * v31.toInt64)) + ((v19 - v23).toInt64 * v35.toInt64))), .long (((((v3 - v7).toInt64 * v39.toInt64) + ((v11 - v15).toInt64 * v43.toInt64)) + ((v19 - v23).toInt64 * v47.toInt64)) * v53.toInt64), .ref p0], (h ++ R), 0, 0)) rfl ?_
      obtain ⟨v57, e58, hq⟩ := bsm hq
      refine r_aI odX1_stepToLine rfl (aI_ap e58) ?_
      refine mB_run odX1_stepToLine 3 (g := (152, [(11, .long ((((v3 - v7).toInt64 * v39.toInt64) + ((v11 - v15).toInt64 * v43.toInt64)) + ((v19 - v23).toInt64 * v47.toInt64))), (9, .long (-((((v3 - v7).toInt64 * v27.toInt64) + ((v11 - v15).toInt64 * v31.toInt64)) + ((v19 - v23).toInt64 * v35.toInt64)))), (7, .long (v19 - v23).toInt64), (5, .long (v11 - v15).toInt64), (3, .long (v3 - v7).toInt64), (0, .ref p0), (1, .int p1), (2, .int p2)], [.long ((((((v3 - v7).toInt64 * v39.toInt64) + ((v11 - v15).toInt64 * v43.toInt64)) + ((v19 - v23).toInt64 * v47.toInt64)) * v53.toInt64) + ((-((((v3 - v7).toInt64 * v27.toInt64) + ((v11 - v15).toInt64 * v31.toInt64)) + ((v19 - v23).toInt64 * v35.toInt64))) * v57.toInt64)), .ref p0], (h ++ R), 0, 0)) rfl ?_
      obtain ⟨h59, e60, hq⟩ := bsm hq
      refine r_sV odX1_stepToLine rfl rfl rfl rfl (sV_ap e60) ?_
      refine mB_run odX1_stepToLine 3 (g := (159, [(11, .long ((((v3 - v7).toInt64 * v39.toInt64) + ((v11 - v15).toInt64 * v43.toInt64)) + ((v19 - v23).toInt64 * v47.toInt64))), (9, .long (-((((v3 - v7).toInt64 * v27.toInt64) + ((v11 - v15).toInt64 * v31.toInt64)) + ((v19 - v23).toInt64 * v35.toInt64)))), (7, .long (v19 - v23).toInt64), (5, .long (v11 - v15).toInt64), (3, .long (v3 - v7).toInt64), (0, .ref p0), (1, .int p1), (2, .int p2)], [.ref p0, .long ((((v3 - v7).toInt64 * v39.toInt64) + ((v11 - v15).toInt64 * v43.toInt64)) + ((v19 - v23).toInt64 * v47.toInt64)), .ref p0], (h59 ++ R), 0, 0)) rfl ?_
      obtain ⟨v61, e62, hq⟩ := bsm hq
      refine r_gR odX1_stepToLine rfl rfl (gR_ap e62) ?_
      refine mB_run odX1_stepToLine 1 (g := (163, [(11, .long ((((v3 - v7).toInt64 * v39.toInt64) + ((v11 - v15).toInt64 * v43.toInt64)) + ((v19 - v23).toInt64 * v47.toInt64))), (9, .long (-((((v3 - v7).toInt64 * v27.toInt64) + ((v11 - v15).toInt64 * v31.toInt64)) + ((v19 - v23).toInt64 * v35.toInt64)))), (7, .long (v19 - v23).toInt64), (5, .long (v11 - v15).toInt64), (3, .long (v3 - v7).toInt64), (0, .ref p0), (1, .int p1), (2, .int p2)], [.int p1, .ref v61, .long ((((v3 - v7).toInt64 * v39.toInt64) + ((v11 - v15).toInt64 * v43.toInt64)) + ((v19 - v23).toInt64 * v47.toInt64)), .ref p0], (h59 ++ R), 0, 0)) rfl ?_
      obtain ⟨v63, e64, hq⟩ := bsm hq
      refine r_aI odX1_stepToLine rfl (aI_ap e64) ?_
      refine mB_run odX1_stepToLine 4 (g := (169, [(11, .long ((((v3 - v7).toInt64 * v39.toInt64) + ((v11 - v15).toInt64 * v43.toInt64)) + ((v19 - v23).toInt64 * v47.toInt64))), (9, .long (-((((v3 - v7).toInt64 * v27.toInt64) + ((v11 - v15).toInt64 * v31.toInt64)) + ((v19 - v23).toInt64 * v35.toInt64)))), (7, .long (v19 - v23).toInt64), (5, .long (v11 - v15).toInt64), (3, .long (v3 - v7).toInt64), (0, .ref p0), (1, .int p1), (2, .int p2)], [.ref p0, .long (-((((v3 - v7).toInt64 * v27.toInt64) + ((v11 - v15).toInt64 * v31.toInt64)) + ((v19 - v23).toInt64 * v35.toInt64))), .long (((((v3 - v7).toInt64 * v39.toInt64) + ((v11 - v15).toInt64 * v43.toInt64)) + ((v19 - v23).toInt64 * v47.toInt64)) * v63.toInt64), .ref p0], (h59 ++ R), 0, 0)) rfl ?_
      obtain ⟨v65, e66, hq⟩ := bsm hq
      refine r_gR odX1_stepToLine rfl rfl (gR_ap e66) ?_
      refine mB_run odX1_stepToLine 1 (g := (173, [(11, .long ((((v3 - v7).toInt64 * v39.toInt64) + ((v11 - v15).toInt64 * v43.toInt64)) + ((v19 - v23).toInt64 * v47.toInt64))), (9, .long (-((((v3 - v7).toInt64 * v27.toInt64) + ((v11 - v15).toInt64 * v31.toInt64)) + ((v19 - v23).toInt64 * v35.toInt64)))), (7, .long (v19 - v23).toInt64), (5, .long (v11 - v15).toInt64), (3, .long (v3 - v7).toInt64), (0, .ref p0), (1, .int p1), (2, .int p2)], [.int p2, .ref v65, .long (-((((v3 - v7).toInt64 * v27.toInt64) + ((v11 - v15).toInt64 * v31.toInt64)) + ((v19 - v23).toInt64 * v35.toInt64))), .long (((((v3 - v7).toInt64 * v39.toInt64) + ((v11 - v15).toInt64 * v43.toInt64)) + ((v19 - v23).toInt64 * v47.toInt64)) * v63.toInt64), .ref p0], (h59 ++ R), 0, 0)) rfl ?_
      obtain ⟨v67, e68, hq⟩ := bsm hq
      refine r_aI odX1_stepToLine rfl (aI_ap e68) ?_
      refine mB_run odX1_stepToLine 3 (g := (177, [(11, .long ((((v3 - v7).toInt64 * v39.toInt64) + ((v11 - v15).toInt64 * v43.toInt64)) + ((v19 - v23).toInt64 * v47.toInt64))), (9, .long (-((((v3 - v7).toInt64 * v27.toInt64) + ((v11 - v15).toInt64 * v31.toInt64)) + ((v19 - v23).toInt64 * v35.toInt64)))), (7, .long (v19 - v23).toInt64), (5, .long (v11 - v15).toInt64), (3, .long (v3 - v7).toInt64), (0, .ref p0), (1, .int p1), (2, .int p2)], [.long ((((((v3 - v7).toInt64 * v39.toInt64) + ((v11 - v15).toInt64 * v43.toInt64)) + ((v19 - v23).toInt64 * v47.toInt64)) * v63.toInt64) + ((-((((v3 - v7).toInt64 * v27.toInt64) + ((v11 - v15).toInt64 * v31.toInt64)) + ((v19 - v23).toInt64 * v35.toInt64))) * v67.toInt64)), .ref p0], (h59 ++ R), 0, 0)) rfl ?_
      obtain ⟨h69, e70, hq⟩ := bsm hq
      refine r_sV odX1_stepToLine rfl rfl rfl rfl (sV_ap e70) ?_
      refine mB_run odX1_stepToLine 3 (g := (184, [(11, .long ((((v3 - v7).toInt64 * v39.toInt64) + ((v11 - v15).toInt64 * v43.toInt64)) + ((v19 - v23).toInt64 * v47.toInt64))), (9, .long (-((((v3 - v7).toInt64 * v27.toInt64) + ((v11 - v15).toInt64 * v31.toInt64)) + ((v19 - v23).toInt64 * v35.toInt64)))), (7, .long (v19 - v23).toInt64), (5, .long (v11 - v15).toInt64), (3, .long (v3 - v7).toInt64), (0, .ref p0), (1, .int p1), (2, .int p2)], [.ref p0, .long ((((v3 - v7).toInt64 * v39.toInt64) + ((v11 - v15).toInt64 * v43.toInt64)) + ((v19 - v23).toInt64 * v47.toInt64)), .ref p0], (h69 ++ R), 0, 0)) rfl ?_
      obtain ⟨v71, e72, hq⟩ := bsm hq
      refine r_gR odX1_stepToLine rfl rfl (gR_ap e72) ?_
      refine mB_run odX1_stepToLine 1 (g := (188, [(11, .long ((((v3 - v7).toInt64 * v39.toInt64) + ((v11 - v15).toInt64 * v43.toInt64)) + ((v19 - v23).toInt64 * v47.toInt64))), (9, .long (-((((v3 - v7).toInt64 * v27.toInt64) + ((v11 - v15).toInt64 * v31.toInt64)) + ((v19 - v23).toInt64 * v35.toInt64)))), (7, .long (v19 - v23).toInt64), (5, .long (v11 - v15).toInt64), (3, .long (v3 - v7).toInt64), (0, .ref p0), (1, .int p1), (2, .int p2)], [.int p1, .ref v71, .long ((((v3 - v7).toInt64 * v39.toInt64) + ((v11 - v15).toInt64 * v43.toInt64)) + ((v19 - v23).toInt64 * v47.toInt64)), .ref p0], (h69 ++ R), 0, 0)) rfl ?_
      obtain ⟨v73, e74, hq⟩ := bsm hq
      refine r_aI odX1_stepToLine rfl (aI_ap e74) ?_
      refine mB_run odX1_stepToLine 4 (g := (194, [(11, .long ((((v3 - v7).toInt64 * v39.toInt64) + ((v11 - v15).toInt64 * v43.toInt64)) + ((v19 - v23).toInt64 * v47.toInt64))), (9, .long (-((((v3 - v7).toInt64 * v27.toInt64) + ((v11 - v15).toInt64 * v31.toInt64)) + ((v19 - v23).toInt64 * v35.toInt64)))), (7, .long (v19 - v23).toInt64), (5, .long (v11 - v15).toInt64), (3, .long (v3 - v7).toInt64), (0, .ref p0), (1, .int p1), (2, .int p2)], [.ref p0, .long (-((((v3 - v7).toInt64 * v27.toInt64) + ((v11 - v15).toInt64 * v31.toInt64)) + ((v19 - v23).toInt64 * v35.toInt64))), .long (((((v3 - v7).toInt64 * v39.toInt64) + ((v11 - v15).toInt64 * v43.toInt64)) + ((v19 - v23).toInt64 * v47.toInt64)) * v73.toInt64), .ref p0], (h69 ++ R), 0, 0)) rfl ?_
      obtain ⟨v75, e76, hq⟩ := bsm hq
      refine r_gR odX1_stepToLine rfl rfl (gR_ap e76) ?_
      refine mB_run odX1_stepToLine 1 (g := (198, [(11, .long ((((v3 - v7).toInt64 * v39.toInt64) + ((v11 - v15).toInt64 * v43.toInt64)) + ((v19 - v23).toInt64 * v47.toInt64))), (9, .long (-((((v3 - v7).toInt64 * v27.toInt64) + ((v11 - v15).toInt64 * v31.toInt64)) + ((v19 - v23).toInt64 * v35.toInt64)))), (7, .long (v19 - v23).toInt64), (5, .long (v11 - v15).toInt64), (3, .long (v3 - v7).toInt64), (0, .ref p0), (1, .int p1), (2, .int p2)], [.int p2, .ref v75, .long (-((((v3 - v7).toInt64 * v27.toInt64) + ((v11 - v15).toInt64 * v31.toInt64)) + ((v19 - v23).toInt64 * v35.toInt64))), .long (((((v3 - v7).toInt64 * v39.toInt64) + ((v11 - v15).toInt64 * v43.toInt64)) + ((v19 - v23).toInt64 * v47.toInt64)) * v73.toInt64), .ref p0], (h69 ++ R), 0, 0)) rfl ?_
      obtain ⟨v77, e78, hq⟩ := bsm hq
      refine r_aI odX1_stepToLine rfl (aI_ap e78) ?_
      refine mB_run odX1_stepToLine 3 (g := (202, [(11, .long ((((v3 - v7).toInt64 * v39.toInt64) + ((v11 - v15).toInt64 * v43.toInt64)) + ((v19 - v23).toInt64 * v47.toInt64))), (9, .long (-((((v3 - v7).toInt64 * v27.toInt64) + ((v11 - v15).toInt64 * v31.toInt64)) + ((v19 - v23).toInt64 * v35.toInt64)))), (7, .long (v19 - v23).toInt64), (5, .long (v11 - v15).toInt64), (3, .long (v3 - v7).toInt64), (0, .ref p0), (1, .int p1), (2, .int p2)], [.long ((((((v3 - v7).toInt64 * v39.toInt64) + ((v11 - v15).toInt64 * v43.toInt64)) + ((v19 - v23).toInt64 * v47.toInt64)) * v73.toInt64) + ((-((((v3 - v7).toInt64 * v27.toInt64) + ((v11 - v15).toInt64 * v31.toInt64)) + ((v19 - v23).toInt64 * v35.toInt64))) * v77.toInt64)), .ref p0], (h69 ++ R), 0, 0)) rfl ?_
      obtain ⟨h79, e80, hq⟩ := bsm hq
      refine r_sV odX1_stepToLine rfl rfl rfl rfl (sV_ap e80) ?_
      refine mB_run odX1_stepToLine 3 (g := (208, [(11, .long ((((v3 - v7).toInt64 * v39.toInt64) + ((v11 - v15).toInt64 * v43.toInt64)) + ((v19 - v23).toInt64 * v47.toInt64))), (9, .long (-((((v3 - v7).toInt64 * v27.toInt64) + ((v11 - v15).toInt64 * v31.toInt64)) + ((v19 - v23).toInt64 * v35.toInt64)))), (7, .long (v19 - v23).toInt64), (5, .long (v11 - v15).toInt64), (3, .long (v3 - v7).toInt64), (0, .ref p0), (1, .int p1), (2, .int p2)], [.int p1, .ref p0, .ref p0], (h79 ++ R), 0, 0)) rfl ?_
      obtain ⟨f83, k84, hq⟩ := bsm hq
      obtain ⟨o81, e82, hq⟩ := bsm hq
      refine mB_V (as := [.int p1]) odX1_stepToLine okX1_along lk_1_59 rfl (eaX1_along e82) (kO_at (kO_ap k84)) rfl rfl rfl ?_
      show mB _ mX1_stepToLine (211, [(11, .long ((((v3 - v7).toInt64 * v39.toInt64) + ((v11 - v15).toInt64 * v43.toInt64)) + ((v19 - v23).toInt64 * v47.toInt64))), (9, .long (-((((v3 - v7).toInt64 * v27.toInt64) + ((v11 - v15).toInt64 * v31.toInt64)) + ((v19 - v23).toInt64 * v35.toInt64)))), (7, .long (v19 - v23).toInt64), (5, .long (v11 - v15).toInt64), (3, .long (v3 - v7).toInt64), (0, .ref p0), (1, .int p1), (2, .int p2)], [.long o81.2, .ref p0], (o81.1 ++ R), 0, 0)
      obtain ⟨h85, e86, hq⟩ := bsm hq
      refine r_sV odX1_stepToLine rfl rfl rfl rfl (sV_ap e86) ?_
      refine mB_run odX1_stepToLine 4 (g := (220, [(11, .long ((((v3 - v7).toInt64 * v39.toInt64) + ((v11 - v15).toInt64 * v43.toInt64)) + ((v19 - v23).toInt64 * v47.toInt64))), (9, .long (-((((v3 - v7).toInt64 * v27.toInt64) + ((v11 - v15).toInt64 * v31.toInt64)) + ((v19 - v23).toInt64 * v35.toInt64)))), (7, .long (v19 - v23).toInt64), (5, .long (v11 - v15).toInt64), (3, .long (v3 - v7).toInt64), (0, .ref p0), (1, .int p1), (2, .int p2)], [.long ((-((((v3 - v7).toInt64 * v27.toInt64) + ((v11 - v15).toInt64 * v31.toInt64)) + ((v19 - v23).toInt64 * v35.toInt64))) + ((((v3 - v7).toInt64 * v39.toInt64) + ((v11 - v15).toInt64 * v43.toInt64)) + ((v19 - v23).toInt64 * v47.toInt64))), .ref p0], (h85 ++ R), 0, 0)) rfl ?_
      obtain ⟨h87, e88, hq⟩ := bsm hq
      refine r_sV odX1_stepToLine rfl rfl rfl rfl (sV_ap e88) ?_
      refine mB_run odX1_stepToLine 1 (g := (224, [(11, .long ((((v3 - v7).toInt64 * v39.toInt64) + ((v11 - v15).toInt64 * v43.toInt64)) + ((v19 - v23).toInt64 * v47.toInt64))), (9, .long (-((((v3 - v7).toInt64 * v27.toInt64) + ((v11 - v15).toInt64 * v31.toInt64)) + ((v19 - v23).toInt64 * v35.toInt64)))), (7, .long (v19 - v23).toInt64), (5, .long (v11 - v15).toInt64), (3, .long (v3 - v7).toInt64), (0, .ref p0), (1, .int p1), (2, .int p2)], [.int (1 : Int32)], (h87 ++ R), 0, 0)) rfl ?_
      cases hq
      exact mB_ret odX1_stepToLine rfl
    · rw [if_neg c50] at hq
      refine lc_gt_F (t := 130) odX1_stepToLine rfl rfl rfl c50 ?_
      refine mB_run odX1_stepToLine 1 (g := (129, [(11, .long ((((v3 - v7).toInt64 * v39.toInt64) + ((v11 - v15).toInt64 * v43.toInt64)) + ((v19 - v23).toInt64 * v47.toInt64))), (9, .long (-((((v3 - v7).toInt64 * v27.toInt64) + ((v11 - v15).toInt64 * v31.toInt64)) + ((v19 - v23).toInt64 * v35.toInt64)))), (7, .long (v19 - v23).toInt64), (5, .long (v11 - v15).toInt64), (3, .long (v3 - v7).toInt64), (0, .ref p0), (1, .int p1), (2, .int p2)], [.int (0 : Int32)], (h ++ R), 0, 0)) rfl ?_
      cases hq
      exact mB_ret odX1_stepToLine rfl
set_option maxHeartbeats 4000000 in
set_option maxRecDepth 100000 in
theorem eaX1_crossX {N : Nat} {R : mh} {p0 : Nat} {p1 : Int32} {p2 : Int32} {h : mh} {o : (mh × Int64)} (hq : fxX1_crossX N p0 p1 p2 h = some o) : mC mX1_crossX [.ref p0, .int p1, .int p2] (h ++ R) (o.1 ++ R, some (.long o.2)) := by
  refine mC_of okX1_crossX (Nat.le_of_ble_eq_true rfl) ?_
  unfold fxX1_crossX at hq
  show mB _ mX1_crossX (0, [(0, .ref p0), (1, .int p1), (2, .int p2)], [], (h ++ R), 0, 0)
  refine mB_run odX1_crossX 1 (g := (1, [(0, .ref p0), (1, .int p1), (2, .int p2)], [.ref p0], (h ++ R), 0, 0)) rfl ?_
  obtain ⟨v1, e2, hq⟩ := bsm hq
  refine r_gR odX1_crossX rfl rfl (gR_ap e2) ?_
  refine mB_run odX1_crossX 1 (g := (5, [(0, .ref p0), (1, .int p1), (2, .int p2)], [.int p1, .ref v1], (h ++ R), 0, 0)) rfl ?_
  obtain ⟨v3, e4, hq⟩ := bsm hq
  refine r_aI odX1_crossX rfl (aI_ap e4) ?_
  refine mB_run odX1_crossX 2 (g := (8, [(0, .ref p0), (1, .int p1), (2, .int p2)], [.ref p0, .long v3.toInt64], (h ++ R), 0, 0)) rfl ?_
  obtain ⟨v5, e6, hq⟩ := bsm hq
  refine r_gR odX1_crossX rfl rfl (gR_ap e6) ?_
  refine mB_run odX1_crossX 1 (g := (12, [(0, .ref p0), (1, .int p1), (2, .int p2)], [.int p2, .ref v5, .long v3.toInt64], (h ++ R), 0, 0)) rfl ?_
  obtain ⟨v7, e8, hq⟩ := bsm hq
  refine r_aI odX1_crossX rfl (aI_ap e8) ?_
  refine mB_run odX1_crossX 3 (g := (16, [(0, .ref p0), (1, .int p1), (2, .int p2)], [.ref p0, .long (v3.toInt64 * v7.toInt64)], (h ++ R), 0, 0)) rfl ?_
  obtain ⟨v9, e10, hq⟩ := bsm hq
  refine r_gR odX1_crossX rfl rfl (gR_ap e10) ?_
  refine mB_run odX1_crossX 1 (g := (20, [(0, .ref p0), (1, .int p1), (2, .int p2)], [.int p1, .ref v9, .long (v3.toInt64 * v7.toInt64)], (h ++ R), 0, 0)) rfl ?_
  obtain ⟨v11, e12, hq⟩ := bsm hq
  refine r_aI odX1_crossX rfl (aI_ap e12) ?_
  refine mB_run odX1_crossX 2 (g := (23, [(0, .ref p0), (1, .int p1), (2, .int p2)], [.ref p0, .long v11.toInt64, .long (v3.toInt64 * v7.toInt64)], (h ++ R), 0, 0)) rfl ?_
  obtain ⟨v13, e14, hq⟩ := bsm hq
  refine r_gR odX1_crossX rfl rfl (gR_ap e14) ?_
  refine mB_run odX1_crossX 1 (g := (27, [(0, .ref p0), (1, .int p1), (2, .int p2)], [.int p2, .ref v13, .long v11.toInt64, .long (v3.toInt64 * v7.toInt64)], (h ++ R), 0, 0)) rfl ?_
  obtain ⟨v15, e16, hq⟩ := bsm hq
  refine r_aI odX1_crossX rfl (aI_ap e16) ?_
  refine mB_run odX1_crossX 3 (g := (31, [(0, .ref p0), (1, .int p1), (2, .int p2)], [.long ((v3.toInt64 * v7.toInt64) - (v11.toInt64 * v15.toInt64))], (h ++ R), 0, 0)) rfl ?_
  cases hq
  exact mB_ret odX1_crossX rfl
set_option maxHeartbeats 4000000 in
set_option maxRecDepth 100000 in
theorem eaX1_crossY {N : Nat} {R : mh} {p0 : Nat} {p1 : Int32} {p2 : Int32} {h : mh} {o : (mh × Int64)} (hq : fxX1_crossY N p0 p1 p2 h = some o) : mC mX1_crossY [.ref p0, .int p1, .int p2] (h ++ R) (o.1 ++ R, some (.long o.2)) := by
  refine mC_of okX1_crossY (Nat.le_of_ble_eq_true rfl) ?_
  unfold fxX1_crossY at hq
  show mB _ mX1_crossY (0, [(0, .ref p0), (1, .int p1), (2, .int p2)], [], (h ++ R), 0, 0)
  refine mB_run odX1_crossY 1 (g := (1, [(0, .ref p0), (1, .int p1), (2, .int p2)], [.ref p0], (h ++ R), 0, 0)) rfl ?_
  obtain ⟨v1, e2, hq⟩ := bsm hq
  refine r_gR odX1_crossY rfl rfl (gR_ap e2) ?_
  refine mB_run odX1_crossY 1 (g := (5, [(0, .ref p0), (1, .int p1), (2, .int p2)], [.int p1, .ref v1], (h ++ R), 0, 0)) rfl ?_
  obtain ⟨v3, e4, hq⟩ := bsm hq
  refine r_aI odX1_crossY rfl (aI_ap e4) ?_
  refine mB_run odX1_crossY 2 (g := (8, [(0, .ref p0), (1, .int p1), (2, .int p2)], [.ref p0, .long v3.toInt64], (h ++ R), 0, 0)) rfl ?_
  obtain ⟨v5, e6, hq⟩ := bsm hq
  refine r_gR odX1_crossY rfl rfl (gR_ap e6) ?_
  refine mB_run odX1_crossY 1 (g := (12, [(0, .ref p0), (1, .int p1), (2, .int p2)], [.int p2, .ref v5, .long v3.toInt64], (h ++ R), 0, 0)) rfl ?_
  obtain ⟨v7, e8, hq⟩ := bsm hq
  refine r_aI odX1_crossY rfl (aI_ap e8) ?_
  refine mB_run odX1_crossY 3 (g := (16, [(0, .ref p0), (1, .int p1), (2, .int p2)], [.ref p0, .long (v3.toInt64 * v7.toInt64)], (h ++ R), 0, 0)) rfl ?_
  obtain ⟨v9, e10, hq⟩ := bsm hq
  refine r_gR odX1_crossY rfl rfl (gR_ap e10) ?_
  refine mB_run odX1_crossY 1 (g := (20, [(0, .ref p0), (1, .int p1), (2, .int p2)], [.int p1, .ref v9, .long (v3.toInt64 * v7.toInt64)], (h ++ R), 0, 0)) rfl ?_
  obtain ⟨v11, e12, hq⟩ := bsm hq
  refine r_aI odX1_crossY rfl (aI_ap e12) ?_
  refine mB_run odX1_crossY 2 (g := (23, [(0, .ref p0), (1, .int p1), (2, .int p2)], [.ref p0, .long v11.toInt64, .long (v3.toInt64 * v7.toInt64)], (h ++ R), 0, 0)) rfl ?_
  obtain ⟨v13, e14, hq⟩ := bsm hq
  refine r_gR odX1_crossY rfl rfl (gR_ap e14) ?_
  refine mB_run odX1_crossY 1 (g := (27, [(0, .ref p0), (1, .int p1), (2, .int p2)], [.int p2, .ref v13, .long v11.toInt64, .long (v3.toInt64 * v7.toInt64)], (h ++ R), 0, 0)) rfl ?_
  obtain ⟨v15, e16, hq⟩ := bsm hq
  refine r_aI odX1_crossY rfl (aI_ap e16) ?_
  refine mB_run odX1_crossY 3 (g := (31, [(0, .ref p0), (1, .int p1), (2, .int p2)], [.long ((v3.toInt64 * v7.toInt64) - (v11.toInt64 * v15.toInt64))], (h ++ R), 0, 0)) rfl ?_
  cases hq
  exact mB_ret odX1_crossY rfl
set_option maxHeartbeats 4000000 in
set_option maxRecDepth 100000 in
theorem eaX1_crossZ {N : Nat} {R : mh} {p0 : Nat} {p1 : Int32} {p2 : Int32} {h : mh} {o : (mh × Int64)} (hq : fxX1_crossZ N p0 p1 p2 h = some o) : mC mX1_crossZ [.ref p0, .int p1, .int p2] (h ++ R) (o.1 ++ R, some (.long o.2)) := by
  refine mC_of okX1_crossZ (Nat.le_of_ble_eq_true rfl) ?_
  unfold fxX1_crossZ at hq
  show mB _ mX1_crossZ (0, [(0, .ref p0), (1, .int p1), (2, .int p2)], [], (h ++ R), 0, 0)
  refine mB_run odX1_crossZ 1 (g := (1, [(0, .ref p0), (1, .int p1), (2, .int p2)], [.ref p0], (h ++ R), 0, 0)) rfl ?_
  obtain ⟨v1, e2, hq⟩ := bsm hq
  refine r_gR odX1_crossZ rfl rfl (gR_ap e2) ?_
  refine mB_run odX1_crossZ 1 (g := (5, [(0, .ref p0), (1, .int p1), (2, .int p2)], [.int p1, .ref v1], (h ++ R), 0, 0)) rfl ?_
  obtain ⟨v3, e4, hq⟩ := bsm hq
  refine r_aI odX1_crossZ rfl (aI_ap e4) ?_
  refine mB_run odX1_crossZ 2 (g := (8, [(0, .ref p0), (1, .int p1), (2, .int p2)], [.ref p0, .long v3.toInt64], (h ++ R), 0, 0)) rfl ?_
  obtain ⟨v5, e6, hq⟩ := bsm hq
  refine r_gR odX1_crossZ rfl rfl (gR_ap e6) ?_
  refine mB_run odX1_crossZ 1 (g := (12, [(0, .ref p0), (1, .int p1), (2, .int p2)], [.int p2, .ref v5, .long v3.toInt64], (h ++ R), 0, 0)) rfl ?_
  obtain ⟨v7, e8, hq⟩ := bsm hq
  refine r_aI odX1_crossZ rfl (aI_ap e8) ?_
  refine mB_run odX1_crossZ 3 (g := (16, [(0, .ref p0), (1, .int p1), (2, .int p2)], [.ref p0, .long (v3.toInt64 * v7.toInt64)], (h ++ R), 0, 0)) rfl ?_
  obtain ⟨v9, e10, hq⟩ := bsm hq
  refine r_gR odX1_crossZ rfl rfl (gR_ap e10) ?_
  refine mB_run odX1_crossZ 1 (g := (20, [(0, .ref p0), (1, .int p1), (2, .int p2)], [.int p1, .ref v9, .long (v3.toInt64 * v7.toInt64)], (h ++ R), 0, 0)) rfl ?_
  obtain ⟨v11, e12, hq⟩ := bsm hq
  refine r_aI odX1_crossZ rfl (aI_ap e12) ?_
  refine mB_run odX1_crossZ 2 (g := (23, [(0, .ref p0), (1, .int p1), (2, .int p2)], [.ref p0, .long v11.toInt64, .long (v3.toInt64 * v7.toInt64)], (h ++ R), 0, 0)) rfl ?_
  obtain ⟨v13, e14, hq⟩ := bsm hq
  refine r_gR odX1_crossZ rfl rfl (gR_ap e14) ?_
  refine mB_run odX1_crossZ 1 (g := (27, [(0, .ref p0), (1, .int p1), (2, .int p2)], [.int p2, .ref v13, .long v11.toInt64, .long (v3.toInt64 * v7.toInt64)], (h ++ R), 0, 0)) rfl ?_
  obtain ⟨v15, e16, hq⟩ := bsm hq
  refine r_aI odX1_crossZ rfl (aI_ap e16) ?_
  refine mB_run odX1_crossZ 3 (g := (31, [(0, .ref p0), (1, .int p1), (2, .int p2)], [.long ((v3.toInt64 * v7.toInt64) - (v11.toInt64 * v15.toInt64))], (h ++ R), 0, 0)) rfl ?_
  cases hq
  exact mB_ret odX1_crossZ rfl
set_option maxHeartbeats 4000000 in
set_option maxRecDepth 100000 in
theorem eaX1_share {N : Nat} {R : mh} {p0 : Nat} {p1 : Int32} {p2 : Int32} {h : mh} {o : (mh × Int64)} (hq : fxX1_share N p0 p1 p2 h = some o) : mC mX1_share [.ref p0, .int p1, .int p2] (h ++ R) (o.1 ++ R, some (.long o.2)) := by
  refine mC_of okX1_share (Nat.le_of_ble_eq_true rfl) ?_
  unfold fxX1_share at hq
  show mB _ mX1_share (0, [(0, .ref p0), (1, .int p1), (2, .int p2)], [], (h ++ R), 0, 0)
  refine mB_run odX1_share 1 (g := (1, [(0, .ref p0), (1, .int p1), (2, .int p2)], [.ref p0], (h ++ R), 0, 0)) rfl ?_
  obtain ⟨v1, e2, hq⟩ := bsm hq
  refine r_gJ odX1_share rfl rfl (gJ_ap e2) ?_
  refine mB_run odX1_share 3 (g := (7, [(0, .ref p0), (1, .int p1), (2, .int p2)], [.int p2, .int p1, .ref p0, .long v1], (h ++ R), 0, 0)) rfl ?_
  obtain ⟨f5, k6, hq⟩ := bsm hq
  obtain ⟨o3, e4, hq⟩ := bsm hq
  refine mB_V (as := [.int p1, .int p2]) odX1_share okX1_crossX lk_1_85 rfl (eaX1_crossX e4) (kO_at (kO_ap k6)) rfl rfl rfl ?_
  show mB _ mX1_share (10, [(0, .ref p0), (1, .int p1), (2, .int p2)], [.long o3.2, .long v1], (o3.1 ++ R), 0, 0)
  refine mB_run odX1_share 2 (g := (12, [(0, .ref p0), (1, .int p1), (2, .int p2)], [.ref p0, .long (v1 * o3.2)], (o3.1 ++ R), 0, 0)) rfl ?_
  obtain ⟨v7, e8, hq⟩ := bsm hq
  refine r_gJ odX1_share rfl rfl (gJ_ap e8) ?_
  refine mB_run odX1_share 3 (g := (18, [(0, .ref p0), (1, .int p1), (2, .int p2)], [.int p2, .int p1, .ref p0, .long v7, .long (v1 * o3.2)], (o3.1 ++ R), 0, 0)) rfl ?_
  obtain ⟨f11, k12, hq⟩ := bsm hq
  obtain ⟨o9, e10, hq⟩ := bsm hq
  refine mB_V (as := [.int p1, .int p2]) odX1_share okX1_crossY lk_1_89 rfl (eaX1_crossY e10) (kO_at (kO_ap k12)) rfl rfl rfl ?_
  show mB _ mX1_share (21, [(0, .ref p0), (1, .int p1), (2, .int p2)], [.long o9.2, .long v7, .long (v1 * o3.2)], (o9.1 ++ R), 0, 0)
  refine mB_run odX1_share 3 (g := (24, [(0, .ref p0), (1, .int p1), (2, .int p2)], [.ref p0, .long ((v1 * o3.2) + (v7 * o9.2))], (o9.1 ++ R), 0, 0)) rfl ?_
  obtain ⟨v13, e14, hq⟩ := bsm hq
  refine r_gJ odX1_share rfl rfl (gJ_ap e14) ?_
  refine mB_run odX1_share 3 (g := (30, [(0, .ref p0), (1, .int p1), (2, .int p2)], [.int p2, .int p1, .ref p0, .long v13, .long ((v1 * o3.2) + (v7 * o9.2))], (o9.1 ++ R), 0, 0)) rfl ?_
  obtain ⟨f17, k18, hq⟩ := bsm hq
  obtain ⟨o15, e16, hq⟩ := bsm hq
  refine mB_V (as := [.int p1, .int p2]) odX1_share okX1_crossZ lk_1_92 rfl (eaX1_crossZ e16) (kO_at (kO_ap k18)) rfl rfl rfl ?_
  show mB _ mX1_share (33, [(0, .ref p0), (1, .int p1), (2, .int p2)], [.long o15.2, .long v13, .long ((v1 * o3.2) + (v7 * o9.2))], (o15.1 ++ R), 0, 0)
  refine mB_run odX1_share 2 (g := (35, [(0, .ref p0), (1, .int p1), (2, .int p2)], [.long (((v1 * o3.2) + (v7 * o9.2)) + (v13 * o15.2))], (o15.1 ++ R), 0, 0)) rfl ?_
  cases hq
  exact mB_ret odX1_share rfl
set_option maxHeartbeats 4000000 in
set_option maxRecDepth 100000 in
theorem eaX1_stepToPlane {N : Nat} {R : mh} {p0 : Nat} {p1 : Int32} {p2 : Int32} {p3 : Int32} {h : mh} {o : (mh × Int32)} (hq : fxX1_stepToPlane N p0 p1 p2 p3 h = some o) : mC mX1_stepToPlane [.ref p0, .int p1, .int p2, .int p3] (h ++ R) (o.1 ++ R, some (.int o.2)) := by
  refine mC_of okX1_stepToPlane (Nat.le_of_ble_eq_true rfl) ?_
  unfold fxX1_stepToPlane at hq
  show mB _ mX1_stepToPlane (0, [(0, .ref p0), (1, .int p1), (2, .int p2), (3, .int p3)], [], (h ++ R), 0, 0)
  refine mB_run odX1_stepToPlane 4 (g := (4, [(0, .ref p0), (1, .int p1), (2, .int p2), (3, .int p3)], [.int p2, .int p1, .ref p0, .ref p0], (h ++ R), 0, 0)) rfl ?_
  obtain ⟨f3, k4, hq⟩ := bsm hq
  obtain ⟨o1, e2, hq⟩ := bsm hq
  refine mB_V (as := [.int p1, .int p2]) odX1_stepToPlane okX1_crossX lk_1_85 rfl (eaX1_crossX e2) (kO_at (kO_ap k4)) rfl rfl rfl ?_
  show mB _ mX1_stepToPlane (7, [(0, .ref p0), (1, .int p1), (2, .int p2), (3, .int p3)], [.long o1.2, .ref p0], (o1.1 ++ R), 0, 0)
  refine mB_run odX1_stepToPlane 3 (g := (10, [(0, .ref p0), (1, .int p1), (2, .int p2), (3, .int p3)], [.int p3, .int p2, .ref p0, .long o1.2, .ref p0], (o1.1 ++ R), 0, 0)) rfl ?_
  obtain ⟨f7, k8, hq⟩ := bsm hq
  obtain ⟨o5, e6, hq⟩ := bsm hq
  refine mB_V (as := [.int p2, .int p3]) odX1_stepToPlane okX1_crossX lk_1_85 rfl (eaX1_crossX e6) (kO_at (kO_ap k8)) rfl rfl rfl ?_
  show mB _ mX1_stepToPlane (13, [(0, .ref p0), (1, .int p1), (2, .int p2), (3, .int p3)], [.long o5.2, .long o1.2, .ref p0], (o5.1 ++ R), 0, 0)
  refine mB_run odX1_stepToPlane 4 (g := (17, [(0, .ref p0), (1, .int p1), (2, .int p2), (3, .int p3)], [.int p1, .int p3, .ref p0, .long (o1.2 + o5.2), .ref p0], (o5.1 ++ R), 0, 0)) rfl ?_
  obtain ⟨f11, k12, hq⟩ := bsm hq
  obtain ⟨o9, e10, hq⟩ := bsm hq
  refine mB_V (as := [.int p3, .int p1]) odX1_stepToPlane okX1_crossX lk_1_85 rfl (eaX1_crossX e10) (kO_at (kO_ap k12)) rfl rfl rfl ?_
  show mB _ mX1_stepToPlane (20, [(0, .ref p0), (1, .int p1), (2, .int p2), (3, .int p3)], [.long o9.2, .long (o1.2 + o5.2), .ref p0], (o9.1 ++ R), 0, 0)
  refine mB_run odX1_stepToPlane 1 (g := (21, [(0, .ref p0), (1, .int p1), (2, .int p2), (3, .int p3)], [.long ((o1.2 + o5.2) + o9.2), .ref p0], (o9.1 ++ R), 0, 0)) rfl ?_
  obtain ⟨h13, e14, hq⟩ := bsm hq
  refine r_sV odX1_stepToPlane rfl rfl rfl rfl (sV_ap e14) ?_
  refine mB_run odX1_stepToPlane 4 (g := (28, [(0, .ref p0), (1, .int p1), (2, .int p2), (3, .int p3)], [.int p2, .int p1, .ref p0, .ref p0], (h13 ++ R), 0, 0)) rfl ?_
  obtain ⟨f17, k18, hq⟩ := bsm hq
  obtain ⟨o15, e16, hq⟩ := bsm hq
  refine mB_V (as := [.int p1, .int p2]) odX1_stepToPlane okX1_crossY lk_1_89 rfl (eaX1_crossY e16) (kO_at (kO_ap k18)) rfl rfl rfl ?_
  show mB _ mX1_stepToPlane (31, [(0, .ref p0), (1, .int p1), (2, .int p2), (3, .int p3)], [.long o15.2, .ref p0], (o15.1 ++ R), 0, 0)
  refine mB_run odX1_stepToPlane 3 (g := (34, [(0, .ref p0), (1, .int p1), (2, .int p2), (3, .int p3)], [.int p3, .int p2, .ref p0, .long o15.2, .ref p0], (o15.1 ++ R), 0, 0)) rfl ?_
  obtain ⟨f21, k22, hq⟩ := bsm hq
  obtain ⟨o19, e20, hq⟩ := bsm hq
  refine mB_V (as := [.int p2, .int p3]) odX1_stepToPlane okX1_crossY lk_1_89 rfl (eaX1_crossY e20) (kO_at (kO_ap k22)) rfl rfl rfl ?_
  show mB _ mX1_stepToPlane (37, [(0, .ref p0), (1, .int p1), (2, .int p2), (3, .int p3)], [.long o19.2, .long o15.2, .ref p0], (o19.1 ++ R), 0, 0)
  refine mB_run odX1_stepToPlane 4 (g := (41, [(0, .ref p0), (1, .int p1), (2, .int p2), (3, .int p3)], [.int p1, .int p3, .ref p0, .long (o15.2 + o19.2), .ref p0], (o19.1 ++ R), 0, 0)) rfl ?_
  obtain ⟨f25, k26, hq⟩ := bsm hq
  obtain ⟨o23, e24, hq⟩ := bsm hq
  refine mB_V (as := [.int p3, .int p1]) odX1_stepToPlane okX1_crossY lk_1_89 rfl (eaX1_crossY e24) (kO_at (kO_ap k26)) rfl rfl rfl ?_
  show mB _ mX1_stepToPlane (44, [(0, .ref p0), (1, .int p1), (2, .int p2), (3, .int p3)], [.long o23.2, .long (o15.2 + o19.2), .ref p0], (o23.1 ++ R), 0, 0)
  refine mB_run odX1_stepToPlane 1 (g := (45, [(0, .ref p0), (1, .int p1), (2, .int p2), (3, .int p3)], [.long ((o15.2 + o19.2) + o23.2), .ref p0], (o23.1 ++ R), 0, 0)) rfl ?_
  obtain ⟨h27, e28, hq⟩ := bsm hq
  refine r_sV odX1_stepToPlane rfl rfl rfl rfl (sV_ap e28) ?_
  refine mB_run odX1_stepToPlane 4 (g := (52, [(0, .ref p0), (1, .int p1), (2, .int p2), (3, .int p3)], [.int p2, .int p1, .ref p0, .ref p0], (h27 ++ R), 0, 0)) rfl ?_
  obtain ⟨f31, k32, hq⟩ := bsm hq
  obtain ⟨o29, e30, hq⟩ := bsm hq
  refine mB_V (as := [.int p1, .int p2]) odX1_stepToPlane okX1_crossZ lk_1_92 rfl (eaX1_crossZ e30) (kO_at (kO_ap k32)) rfl rfl rfl ?_
  show mB _ mX1_stepToPlane (55, [(0, .ref p0), (1, .int p1), (2, .int p2), (3, .int p3)], [.long o29.2, .ref p0], (o29.1 ++ R), 0, 0)
  refine mB_run odX1_stepToPlane 3 (g := (58, [(0, .ref p0), (1, .int p1), (2, .int p2), (3, .int p3)], [.int p3, .int p2, .ref p0, .long o29.2, .ref p0], (o29.1 ++ R), 0, 0)) rfl ?_
  obtain ⟨f35, k36, hq⟩ := bsm hq
  obtain ⟨o33, e34, hq⟩ := bsm hq
  refine mB_V (as := [.int p2, .int p3]) odX1_stepToPlane okX1_crossZ lk_1_92 rfl (eaX1_crossZ e34) (kO_at (kO_ap k36)) rfl rfl rfl ?_
  show mB _ mX1_stepToPlane (61, [(0, .ref p0), (1, .int p1), (2, .int p2), (3, .int p3)], [.long o33.2, .long o29.2, .ref p0], (o33.1 ++ R), 0, 0)
  refine mB_run odX1_stepToPlane 4 (g := (65, [(0, .ref p0), (1, .int p1), (2, .int p2), (3, .int p3)], [.int p1, .int p3, .ref p0, .long (o29.2 + o33.2), .ref p0], (o33.1 ++ R), 0, 0)) rfl ?_
  obtain ⟨f39, k40, hq⟩ := bsm hq
  obtain ⟨o37, e38, hq⟩ := bsm hq
  refine mB_V (as := [.int p3, .int p1]) odX1_stepToPlane okX1_crossZ lk_1_92 rfl (eaX1_crossZ e38) (kO_at (kO_ap k40)) rfl rfl rfl ?_
  show mB _ mX1_stepToPlane (68, [(0, .ref p0), (1, .int p1), (2, .int p2), (3, .int p3)], [.long o37.2, .long (o29.2 + o33.2), .ref p0], (o37.1 ++ R), 0, 0)
  refine mB_run odX1_stepToPlane 1 (g := (69, [(0, .ref p0), (1, .int p1), (2, .int p2), (3, .int p3)], [.long ((o29.2 + o33.2) + o37.2), .ref p0], (o37.1 ++ R), 0, 0)) rfl ?_
  obtain ⟨h41, e42, hq⟩ := bsm hq
  refine r_sV odX1_stepToPlane rfl rfl rfl rfl (sV_ap e42) ?_
  refine mB_run odX1_stepToPlane 3 (g := (75, [(0, .ref p0), (1, .int p1), (2, .int p2), (3, .int p3)], [.int p2, .int p1, .ref p0], (h41 ++ R), 0, 0)) rfl ?_
  obtain ⟨f45, k46, hq⟩ := bsm hq
  obtain ⟨o43, e44, hq⟩ := bsm hq
  refine mB_V (as := [.int p1, .int p2]) odX1_stepToPlane okX1_share lk_1_95 rfl (eaX1_share e44) (kO_at (kO_ap k46)) rfl rfl rfl ?_
  show mB _ mX1_stepToPlane (78, [(0, .ref p0), (1, .int p1), (2, .int p2), (3, .int p3)], [.long o43.2], (o43.1 ++ R), 0, 0)
  refine mB_run odX1_stepToPlane 1 (g := (79, [(0, .ref p0), (1, .int p1), (2, .int p2), (3, .int p3)], [.long (0 : Int64), .long o43.2], (o43.1 ++ R), 0, 0)) rfl ?_
  by_cases c47 : o43.2 ≤ (0 : Int64)
  · rw [if_pos c47] at hq
    refine lc_le_T (t := 105) odX1_stepToPlane rfl rfl rfl c47 ?_
    refine mB_run odX1_stepToPlane 1 (g := (106, [(0, .ref p0), (1, .int p1), (2, .int p2), (3, .int p3)], [.int (0 : Int32)], (o43.1 ++ R), 0, 0)) rfl ?_
    cases hq
    exact mB_ret odX1_stepToPlane rfl
  · rw [if_neg c47] at hq
    refine lc_le_F (t := 105) odX1_stepToPlane rfl rfl rfl c47 ?_
    refine mB_run odX1_stepToPlane 3 (g := (86, [(0, .ref p0), (1, .int p1), (2, .int p2), (3, .int p3)], [.int p3, .int p2, .ref p0], (o43.1 ++ R), 0, 0)) rfl ?_
    obtain ⟨f50, k51, hq⟩ := bsm hq
    obtain ⟨o48, e49, hq⟩ := bsm hq
    refine mB_V (as := [.int p2, .int p3]) odX1_stepToPlane okX1_share lk_1_95 rfl (eaX1_share e49) (kO_at (kO_ap k51)) rfl rfl rfl ?_
    show mB _ mX1_stepToPlane (89, [(0, .ref p0), (1, .int p1), (2, .int p2), (3, .int p3)], [.long o48.2], (o48.1 ++ R), 0, 0)
    refine mB_run odX1_stepToPlane 1 (g := (90, [(0, .ref p0), (1, .int p1), (2, .int p2), (3, .int p3)], [.long (0 : Int64), .long o48.2], (o48.1 ++ R), 0, 0)) rfl ?_
    by_cases c52 : o48.2 ≤ (0 : Int64)
    · rw [if_pos c52] at hq
      refine lc_le_T (t := 105) odX1_stepToPlane rfl rfl rfl c52 ?_
      refine mB_run odX1_stepToPlane 1 (g := (106, [(0, .ref p0), (1, .int p1), (2, .int p2), (3, .int p3)], [.int (0 : Int32)], (o48.1 ++ R), 0, 0)) rfl ?_
      cases hq
      exact mB_ret odX1_stepToPlane rfl
    · rw [if_neg c52] at hq
      refine lc_le_F (t := 105) odX1_stepToPlane rfl rfl rfl c52 ?_
      refine mB_run odX1_stepToPlane 3 (g := (97, [(0, .ref p0), (1, .int p1), (2, .int p2), (3, .int p3)], [.int p1, .int p3, .ref p0], (o48.1 ++ R), 0, 0)) rfl ?_
      obtain ⟨f55, k56, hq⟩ := bsm hq
      obtain ⟨o53, e54, hq⟩ := bsm hq
      refine mB_V (as := [.int p3, .int p1]) odX1_stepToPlane okX1_share lk_1_95 rfl (eaX1_share e54) (kO_at (kO_ap k56)) rfl rfl rfl ?_
      show mB _ mX1_stepToPlane (100, [(0, .ref p0), (1, .int p1), (2, .int p2), (3, .int p3)], [.long o53.2], (o53.1 ++ R), 0, 0)
      refine mB_run odX1_stepToPlane 1 (g := (101, [(0, .ref p0), (1, .int p1), (2, .int p2), (3, .int p3)], [.long (0 : Int64), .long o53.2], (o53.1 ++ R), 0, 0)) rfl ?_
      by_cases c57 : (0 : Int64) < o53.2
      · rw [if_pos c57] at hq
        refine lc_gt_T (t := 107) odX1_stepToPlane rfl rfl rfl c57 ?_
        refine mB_run odX1_stepToPlane 2 (g := (109, [(0, .ref p0), (1, .int p1), (2, .int p2), (3, .int p3)], [.ref p0, .ref p0], (o53.1 ++ R), 0, 0)) rfl ?_
        obtain ⟨v58, e59, hq⟩ := bsm hq
        refine r_gJ odX1_stepToPlane rfl rfl (gJ_ap e59) ?_
        refine mB_run odX1_stepToPlane 1 (g := (113, [(0, .ref p0), (1, .int p1), (2, .int p2), (3, .int p3)], [.ref p0, .long v58, .ref p0], (o53.1 ++ R), 0, 0)) rfl ?_
        obtain ⟨v60, e61, hq⟩ := bsm hq
        refine r_gJ odX1_stepToPlane rfl rfl (gJ_ap e61) ?_
        refine mB_run odX1_stepToPlane 2 (g := (118, [(0, .ref p0), (1, .int p1), (2, .int p2), (3, .int p3)], [.ref p0, .long (v58 * v60), .ref p0], (o53.1 ++ R), 0, 0)) rfl ?_
        obtain ⟨v62, e63, hq⟩ := bsm hq
        refine r_gJ odX1_stepToPlane rfl rfl (gJ_ap e63) ?_
        refine mB_run odX1_stepToPlane 1 (g := (122, [(0, .ref p0), (1, .int p1), (2, .int p2), (3, .int p3)], [.ref p0, .long v62, .long (v58 * v60), .ref p0], (o53.1 ++ R), 0, 0)) rfl ?_
        obtain ⟨v64, e65, hq⟩ := bsm hq
        refine r_gJ odX1_stepToPlane rfl rfl (gJ_ap e65) ?_
        refine mB_run odX1_stepToPlane 3 (g := (128, [(0, .ref p0), (1, .int p1), (2, .int p2), (3, .int p3)], [.ref p0, .long ((v58 * v60) + (v62 * v64)), .ref p0], (o53.1 ++ R), 0, 0)) rfl ?_
        obtain ⟨v66, e67, hq⟩ := bsm hq
        refine r_gJ odX1_stepToPlane rfl rfl (gJ_ap e67) ?_
        refine mB_run odX1_stepToPlane 1 (g := (132, [(0, .ref p0), (1, .int p1), (2, .int p2), (3, .int p3)], [.ref p0, .long v66, .long ((v58 * v60) + (v62 * v64)), .ref p0], (o53.1 ++ R), 0, 0)) rfl ?_
        obtain ⟨v68, e69, hq⟩ := bsm hq
        refine r_gJ odX1_stepToPlane rfl rfl (gJ_ap e69) ?_
        refine mB_run odX1_stepToPlane 2 (g := (137, [(0, .ref p0), (1, .int p1), (2, .int p2), (3, .int p3)], [.long (((v58 * v60) + (v62 * v64)) + (v66 * v68)), .ref p0], (o53.1 ++ R), 0, 0)) rfl ?_
        obtain ⟨h70, e71, hq⟩ := bsm hq
        refine r_sV odX1_stepToPlane rfl rfl rfl rfl (sV_ap e71) ?_
        refine mB_run odX1_stepToPlane 2 (g := (142, [(0, .ref p0), (1, .int p1), (2, .int p2), (3, .int p3)], [.int p1, .ref p0], (h70 ++ R), 0, 0)) rfl ?_
        obtain ⟨f74, k75, hq⟩ := bsm hq
        obtain ⟨o72, e73, hq⟩ := bsm hq
        refine mB_V (as := [.int p1]) odX1_stepToPlane okX1_along lk_1_59 rfl (eaX1_along e73) (kO_at (kO_ap k75)) rfl rfl rfl ?_
        show mB _ mX1_stepToPlane (145, [(0, .ref p0), (1, .int p1), (2, .int p2), (3, .int p3)], [.long o72.2], (o72.1 ++ R), 0, 0)
        refine mB_run odX1_stepToPlane 3 (g := (149, [(4, .long o72.2), (0, .ref p0), (1, .int p1), (2, .int p2), (3, .int p3)], [.ref p0, .ref p0], (o72.1 ++ R), 0, 0)) rfl ?_
        obtain ⟨v76, e77, hq⟩ := bsm hq
        refine r_gJ odX1_stepToPlane rfl rfl (gJ_ap e77) ?_
        refine mB_run odX1_stepToPlane 2 (g := (155, [(4, .long o72.2), (0, .ref p0), (1, .int p1), (2, .int p2), (3, .int p3)], [.long (v76 * o72.2), .ref p0], (o72.1 ++ R), 0, 0)) rfl ?_
        obtain ⟨h78, e79, hq⟩ := bsm hq
        refine r_sV odX1_stepToPlane rfl rfl rfl rfl (sV_ap e79) ?_
        refine mB_run odX1_stepToPlane 2 (g := (160, [(4, .long o72.2), (0, .ref p0), (1, .int p1), (2, .int p2), (3, .int p3)], [.ref p0, .ref p0], (h78 ++ R), 0, 0)) rfl ?_
        obtain ⟨v80, e81, hq⟩ := bsm hq
        refine r_gJ odX1_stepToPlane rfl rfl (gJ_ap e81) ?_
        refine mB_run odX1_stepToPlane 2 (g := (166, [(4, .long o72.2), (0, .ref p0), (1, .int p1), (2, .int p2), (3, .int p3)], [.long (v80 * o72.2), .ref p0], (h78 ++ R), 0, 0)) rfl ?_
        obtain ⟨h82, e83, hq⟩ := bsm hq
        refine r_sV odX1_stepToPlane rfl rfl rfl rfl (sV_ap e83) ?_
        refine mB_run odX1_stepToPlane 2 (g := (171, [(4, .long o72.2), (0, .ref p0), (1, .int p1), (2, .int p2), (3, .int p3)], [.ref p0, .ref p0], (h82 ++ R), 0, 0)) rfl ?_
        obtain ⟨v84, e85, hq⟩ := bsm hq
        refine r_gJ odX1_stepToPlane rfl rfl (gJ_ap e85) ?_
        refine mB_run odX1_stepToPlane 2 (g := (177, [(4, .long o72.2), (0, .ref p0), (1, .int p1), (2, .int p2), (3, .int p3)], [.long (v84 * o72.2), .ref p0], (h82 ++ R), 0, 0)) rfl ?_
        obtain ⟨h86, e87, hq⟩ := bsm hq
        refine r_sV odX1_stepToPlane rfl rfl rfl rfl (sV_ap e87) ?_
        refine mB_run odX1_stepToPlane 3 (g := (183, [(4, .long o72.2), (0, .ref p0), (1, .int p1), (2, .int p2), (3, .int p3)], [.int p1, .ref p0, .ref p0], (h86 ++ R), 0, 0)) rfl ?_
        obtain ⟨f90, k91, hq⟩ := bsm hq
        obtain ⟨o88, e89, hq⟩ := bsm hq
        refine mB_V (as := [.int p1]) odX1_stepToPlane okX1_along lk_1_59 rfl (eaX1_along e89) (kO_at (kO_ap k91)) rfl rfl rfl ?_
        show mB _ mX1_stepToPlane (186, [(4, .long o72.2), (0, .ref p0), (1, .int p1), (2, .int p2), (3, .int p3)], [.long o88.2, .ref p0], (o88.1 ++ R), 0, 0)
        obtain ⟨h92, e93, hq⟩ := bsm hq
        refine r_sV odX1_stepToPlane rfl rfl rfl rfl (sV_ap e93) ?_
        refine mB_run odX1_stepToPlane 1 (g := (190, [(4, .long o72.2), (0, .ref p0), (1, .int p1), (2, .int p2), (3, .int p3)], [.int (1 : Int32)], (h92 ++ R), 0, 0)) rfl ?_
        cases hq
        exact mB_ret odX1_stepToPlane rfl
      · rw [if_neg c57] at hq
        refine lc_gt_F (t := 107) odX1_stepToPlane rfl rfl rfl c57 ?_
        refine mB_run odX1_stepToPlane 1 (g := (106, [(0, .ref p0), (1, .int p1), (2, .int p2), (3, .int p3)], [.int (0 : Int32)], (o53.1 ++ R), 0, 0)) rfl ?_
        cases hq
        exact mB_ret odX1_stepToPlane rfl
set_option maxHeartbeats 4000000 in
set_option maxRecDepth 100000 in
theorem eaX1_holdsNearest_31 {N : Nat} {R : mh} {rec4 : Nat → Int32 → Int32 → Int32 → mh → Option (mh × Int32)} (hrec4 : ∀ (x0 : Nat) (x1 : Int32) (x2 : Int32) (x3 : Int32) (h : mh) {o : (mh × Int32)}, rec4 x0 x1 x2 x3 h = some o → mB (gO mX1_holdsNearest (o.1 ++ R, some (.int o.2))) mX1_holdsNearest (4, [(0, .ref x0), (1, .int x1), (2, .int x2), (3, .int x3)], [], (h ++ R), 0, 0)) (x0 : Nat) (x1 : Int32) (x2 : Int32) (x3 : Int32) (h : mh) {o : (mh × Int32)} (hq : fxX1_holdsNearest_31 N rec4 x0 x1 x2 x3 h = some o) : mB (gO mX1_holdsNearest (o.1 ++ R, some (.int o.2))) mX1_holdsNearest (31, [(0, .ref x0), (1, .int x1), (2, .int x2), (3, .int x3)], [], (h ++ R), 0, 0) := by
  unfold fxX1_holdsNearest_31 at hq
  refine mB_run odX1_holdsNearest 2 (g := (4, [(3, .int (x3 + (1 : Int32))), (0, .ref x0), (1, .int x1), (2, .int x2)], [], (h ++ R), 0, 0)) rfl ?_
  refine mB_lv [1, 2, 3, 0] (lv' := [(0, .ref x0), (1, .int x1), (2, .int x2), (3, .int (x3 + (1 : Int32)))]) rfl ?_
  exact hrec4 _ _ _ _ _ hq
set_option maxHeartbeats 4000000 in
set_option maxRecDepth 100000 in
theorem eaX1_holdsNearest_160 {N : Nat} {R : mh} {rec118 : Nat → Int32 → Int32 → Int32 → mh → Option (mh × Int32)} (hrec118 : ∀ (x0 : Nat) (x1 : Int32) (x3 : Int32) (x4 : Int32) (h : mh) {o : (mh × Int32)}, rec118 x0 x1 x3 x4 h = some o → mB (gO mX1_holdsNearest (o.1 ++ R, some (.int o.2))) mX1_holdsNearest (118, [(0, .ref x0), (1, .int x1), (3, .int x3), (4, .int x4)], [], (h ++ R), 0, 0)) (x0 : Nat) (x1 : Int32) (x4 : Int32) (s0 : Int32) (h : mh) {o : (mh × Int32)} (hq : fxX1_holdsNearest_160 N rec118 x0 x1 x4 s0 h = some o) : mB (gO mX1_holdsNearest (o.1 ++ R, some (.int o.2))) mX1_holdsNearest (160, [(0, .ref x0), (1, .int x1), (4, .int x4)], [.int s0], (h ++ R), 0, 0) := by
  unfold fxX1_holdsNearest_160 at hq
  refine mB_run odX1_holdsNearest 3 (g := (118, [(4, .int (x4 + (1 : Int32))), (3, .int s0), (0, .ref x0), (1, .int x1)], [], (h ++ R), 0, 0)) rfl ?_
  refine mB_lv [2, 3, 1, 0] (lv' := [(0, .ref x0), (1, .int x1), (3, .int s0), (4, .int (x4 + (1 : Int32)))]) rfl ?_
  exact hrec118 _ _ _ _ _ hq
set_option maxHeartbeats 4000000 in
set_option maxRecDepth 100000 in
theorem eaX1_holdsNearest_155 {N : Nat} {R : mh} {rec118 : Nat → Int32 → Int32 → Int32 → mh → Option (mh × Int32)} (hrec118 : ∀ (x0 : Nat) (x1 : Int32) (x3 : Int32) (x4 : Int32) (h : mh) {o : (mh × Int32)}, rec118 x0 x1 x3 x4 h = some o → mB (gO mX1_holdsNearest (o.1 ++ R, some (.int o.2))) mX1_holdsNearest (118, [(0, .ref x0), (1, .int x1), (3, .int x3), (4, .int x4)], [], (h ++ R), 0, 0)) (x0 : Nat) (x1 : Int32) (x4 : Int32) (h : mh) {o : (mh × Int32)} (hq : fxX1_holdsNearest_155 N rec118 x0 x1 x4 h = some o) : mB (gO mX1_holdsNearest (o.1 ++ R, some (.int o.2))) mX1_holdsNearest (155, [(0, .ref x0), (1, .int x1), (4, .int x4)], [], (h ++ R), 0, 0) := by
  unfold fxX1_holdsNearest_155 at hq
  refine mB_run odX1_holdsNearest 2 (g := (160, [(0, .ref x0), (1, .int x1), (4, .int x4)], [.int (1 : Int32)], (h ++ R), 0, 0)) rfl ?_
  refine mB_lv [0, 1, 2] (lv' := [(0, .ref x0), (1, .int x1), (4, .int x4)]) rfl ?_
  exact eaX1_holdsNearest_160 hrec118 _ _ _ _ _ hq
set_option maxHeartbeats 4000000 in
set_option maxRecDepth 100000 in
theorem eaX1_holdsNearest_118 {N : Nat} {R : mh} : ∀ (n : Nat) (x0 : Nat) (x1 : Int32) (x3 : Int32) (x4 : Int32) (h : mh) {o : (mh × Int32)}, fxX1_holdsNearest_118 N n x0 x1 x3 x4 h = some o → mB (gO mX1_holdsNearest (o.1 ++ R, some (.int o.2))) mX1_holdsNearest (118, [(0, .ref x0), (1, .int x1), (3, .int x3), (4, .int x4)], [], (h ++ R), 0, 0) := by
  intro n
  induction n with
  | zero => intro x0 x1 x3 x4 h o hq; cases hq
  | succ n ih =>
    intro x0 x1 x3 x4 h o hq
    unfold fxX1_holdsNearest_118 at hq
    refine mB_run odX1_holdsNearest 2 (g := (121, [(0, .ref x0), (1, .int x1), (3, .int x3), (4, .int x4)], [.ref x0, .int x4], (h ++ R), 0, 0)) rfl ?_
    obtain ⟨v49, e50, hq⟩ := bsm hq
    refine r_gI odX1_holdsNearest rfl rfl (gI_ap e50) ?_
    by_cases c51 : v49 ≤ x4
    · rw [if_pos c51] at hq
      refine ic_ge_T (t := 167) odX1_holdsNearest rfl rfl c51 ?_
      refine mB_run odX1_holdsNearest 1 (g := (168, [(0, .ref x0), (1, .int x1), (3, .int x3), (4, .int x4)], [.int x3], (h ++ R), 0, 0)) rfl ?_
      by_cases c52 : x3 &&& 1 = x3
      · rw [if_pos c52] at hq
        cases hq
        exact mB_retz odX1_holdsNearest rfl rfl c52 rfl
      · rw [if_neg c52] at hq; cases hq
    · rw [if_neg c51] at hq
      refine ic_ge_F (t := 167) odX1_holdsNearest rfl rfl c51 ?_
      refine mB_run odX1_holdsNearest 1 (g := (128, [(0, .ref x0), (1, .int x1), (3, .int x3), (4, .int x4)], [.int x3], (h ++ R), 0, 0)) rfl ?_
      by_cases c53 : x3 = 0
      · rw [if_pos c53] at hq
        refine if_eq_T (t := 167) odX1_holdsNearest rfl rfl c53 ?_
        refine mB_run odX1_holdsNearest 1 (g := (168, [(0, .ref x0), (1, .int x1), (3, .int x3), (4, .int x4)], [.int x3], (h ++ R), 0, 0)) rfl ?_
        by_cases c54 : x3 &&& 1 = x3
        · rw [if_pos c54] at hq
          cases hq
          exact mB_retz odX1_holdsNearest rfl rfl c54 rfl
        · rw [if_neg c54] at hq; cases hq
      · rw [if_neg c53] at hq
        refine if_eq_F (t := 167) odX1_holdsNearest rfl rfl c53 ?_
        refine mB_run odX1_holdsNearest 6 (g := (138, [(0, .ref x0), (1, .int x1), (3, .int x3), (4, .int x4)], [.int (1 : Int32), .int ((x1 >>> (x4 &&& 31)) &&& (1 : Int32))], (h ++ R), 0, 0)) rfl ?_
        by_cases c55 : ((x1 >>> (x4 &&& 31)) &&& (1 : Int32)) = (1 : Int32)
        · rw [if_pos c55] at hq
          refine ic_eq_T (t := 155) odX1_holdsNearest rfl rfl c55 ?_
          refine mB_lv [0, 1, 3] (lv' := [(0, .ref x0), (1, .int x1), (4, .int x4)]) rfl ?_
          exact eaX1_holdsNearest_155 ih _ _ _ _ hq
        · rw [if_neg c55] at hq
          refine ic_eq_F (t := 155) odX1_holdsNearest rfl rfl c55 ?_
          refine mB_run odX1_holdsNearest 2 (g := (144, [(0, .ref x0), (1, .int x1), (3, .int x3), (4, .int x4)], [.int x4, .ref x0], (h ++ R), 0, 0)) rfl ?_
          obtain ⟨f58, k59, hq⟩ := bsm hq
          obtain ⟨o56, e57, hq⟩ := bsm hq
          refine mB_V (as := [.int x4]) odX1_holdsNearest okX1_along lk_1_59 rfl (eaX1_along e57) (kO_at (kO_ap k59)) rfl rfl rfl ?_
          show mB _ mX1_holdsNearest (147, [(0, .ref x0), (1, .int x1), (3, .int x3), (4, .int x4)], [.long o56.2], (o56.1 ++ R), 0, 0)
          refine mB_run odX1_holdsNearest 1 (g := (148, [(0, .ref x0), (1, .int x1), (3, .int x3), (4, .int x4)], [.ref x0, .long o56.2], (o56.1 ++ R), 0, 0)) rfl ?_
          obtain ⟨v60, e61, hq⟩ := bsm hq
          refine r_gJ odX1_holdsNearest rfl rfl (gJ_ap e61) ?_
          by_cases c62 : o56.2 < v60
          · rw [if_pos c62] at hq
            refine lc_lt_T (t := 159) odX1_holdsNearest rfl rfl rfl c62 ?_
            refine mB_run odX1_holdsNearest 1 (g := (160, [(0, .ref x0), (1, .int x1), (3, .int x3), (4, .int x4)], [.int (0 : Int32)], (o56.1 ++ R), 0, 0)) rfl ?_
            refine mB_lv [0, 1, 3] (lv' := [(0, .ref x0), (1, .int x1), (4, .int x4)]) rfl ?_
            exact eaX1_holdsNearest_160 ih _ _ _ _ _ hq
          · rw [if_neg c62] at hq
            refine lc_lt_F (t := 159) odX1_holdsNearest rfl rfl rfl c62 ?_
            refine mB_lv [0, 1, 3] (lv' := [(0, .ref x0), (1, .int x1), (4, .int x4)]) rfl ?_
            exact eaX1_holdsNearest_155 ih _ _ _ _ hq
set_option maxHeartbeats 4000000 in
set_option maxRecDepth 100000 in
theorem eaX1_holdsNearest_114 {N : Nat} {R : mh} (x0 : Nat) (x1 : Int32) (s0 : Int32) (h : mh) {o : (mh × Int32)} (hq : fxX1_holdsNearest_114 N x0 x1 s0 h = some o) : mB (gO mX1_holdsNearest (o.1 ++ R, some (.int o.2))) mX1_holdsNearest (114, [(0, .ref x0), (1, .int x1)], [.int s0], (h ++ R), 0, 0) := by
  unfold fxX1_holdsNearest_114 at hq
  refine mB_run odX1_holdsNearest 3 (g := (118, [(4, .int (0 : Int32)), (3, .int s0), (0, .ref x0), (1, .int x1)], [], (h ++ R), 0, 0)) rfl ?_
  refine mB_lv [2, 3, 1, 0] (lv' := [(0, .ref x0), (1, .int x1), (3, .int s0), (4, .int (0 : Int32))]) rfl ?_
  exact eaX1_holdsNearest_118 N _ _ _ _ _ hq
set_option maxHeartbeats 4000000 in
set_option maxRecDepth 100000 in
theorem eaX1_holdsNearest_113 {N : Nat} {R : mh} (x0 : Nat) (x1 : Int32) (h : mh) {o : (mh × Int32)} (hq : fxX1_holdsNearest_113 N x0 x1 h = some o) : mB (gO mX1_holdsNearest (o.1 ++ R, some (.int o.2))) mX1_holdsNearest (113, [(0, .ref x0), (1, .int x1)], [], (h ++ R), 0, 0) := by
  unfold fxX1_holdsNearest_113 at hq
  refine mB_run odX1_holdsNearest 1 (g := (114, [(0, .ref x0), (1, .int x1)], [.int (0 : Int32)], (h ++ R), 0, 0)) rfl ?_
  refine mB_lv [0, 1] (lv' := [(0, .ref x0), (1, .int x1)]) rfl ?_
  exact eaX1_holdsNearest_114 _ _ _ _ hq
set_option maxHeartbeats 4000000 in
set_option maxRecDepth 100000 in
theorem eaX1_holdsNearest_4 {N : Nat} {R : mh} : ∀ (n : Nat) (x0 : Nat) (x1 : Int32) (x2 : Int32) (x3 : Int32) (h : mh) {o : (mh × Int32)}, fxX1_holdsNearest_4 N n x0 x1 x2 x3 h = some o → mB (gO mX1_holdsNearest (o.1 ++ R, some (.int o.2))) mX1_holdsNearest (4, [(0, .ref x0), (1, .int x1), (2, .int x2), (3, .int x3)], [], (h ++ R), 0, 0) := by
  intro n
  induction n with
  | zero => intro x0 x1 x2 x3 h o hq; cases hq
  | succ n ih =>
    intro x0 x1 x2 x3 h o hq
    unfold fxX1_holdsNearest_4 at hq
    refine mB_run odX1_holdsNearest 2 (g := (6, [(0, .ref x0), (1, .int x1), (2, .int x2), (3, .int x3)], [.ref x0, .int x3], (h ++ R), 0, 0)) rfl ?_
    obtain ⟨v1, e2, hq⟩ := bsm hq
    refine r_gI odX1_holdsNearest rfl rfl (gI_ap e2) ?_
    by_cases c3 : v1 ≤ x3
    · rw [if_pos c3] at hq
      refine ic_ge_T (t := 37) odX1_holdsNearest rfl rfl c3 ?_
      refine mB_run odX1_holdsNearest 2 (g := (39, [(0, .ref x0), (1, .int x1), (2, .int x2), (3, .int x3)], [.int (1 : Int32), .int x2], (h ++ R), 0, 0)) rfl ?_
      by_cases c4 : x2 = (1 : Int32)
      · rw [if_pos c4] at hq
        refine ic_ne_F (t := 55) odX1_holdsNearest rfl rfl c4 ?_
        refine mB_run odX1_holdsNearest 2 (g := (44, [(0, .ref x0), (1, .int x1), (2, .int x2), (3, .int x3)], [.ref x0, .ref x0], (h ++ R), 0, 0)) rfl ?_
        obtain ⟨v5, e6, hq⟩ := bsm hq
        refine r_gR odX1_holdsNearest rfl rfl (gR_ap e6) ?_
        refine mB_run odX1_holdsNearest 1 (g := (48, [(0, .ref x0), (1, .int x1), (2, .int x2), (3, .int x3)], [.int (0 : Int32), .ref v5, .ref x0], (h ++ R), 0, 0)) rfl ?_
        obtain ⟨v7, e8, hq⟩ := bsm hq
        refine r_aI odX1_holdsNearest rfl (aI_ap e8) ?_
        obtain ⟨f11, k12, hq⟩ := bsm hq
        obtain ⟨o9, e10, hq⟩ := bsm hq
        refine mB_V (as := [.int v7]) odX1_holdsNearest okX1_stepToPoint lk_1_74 rfl (eaX1_stepToPoint e10) (kO_at (kO_ap k12)) rfl rfl rfl ?_
        show mB _ mX1_holdsNearest (52, [(0, .ref x0), (1, .int x1), (2, .int x2), (3, .int x3)], [.int o9.2], (o9.1 ++ R), 0, 0)
        refine mB_run odX1_holdsNearest 1 (g := (114, [(0, .ref x0), (1, .int x1), (2, .int x2), (3, .int x3)], [.int o9.2], (o9.1 ++ R), 0, 0)) rfl ?_
        refine mB_lv [0, 1] (lv' := [(0, .ref x0), (1, .int x1)]) rfl ?_
        exact eaX1_holdsNearest_114 _ _ _ _ hq
      · rw [if_neg c4] at hq
        refine ic_ne_T (t := 55) odX1_holdsNearest rfl rfl c4 ?_
        refine mB_run odX1_holdsNearest 2 (g := (57, [(0, .ref x0), (1, .int x1), (2, .int x2), (3, .int x3)], [.int (2 : Int32), .int x2], (h ++ R), 0, 0)) rfl ?_
        by_cases c13 : x2 = (2 : Int32)
        · rw [if_pos c13] at hq
          refine ic_ne_F (t := 79) odX1_holdsNearest rfl rfl c13 ?_
          refine mB_run odX1_holdsNearest 2 (g := (62, [(0, .ref x0), (1, .int x1), (2, .int x2), (3, .int x3)], [.ref x0, .ref x0], (h ++ R), 0, 0)) rfl ?_
          obtain ⟨v14, e15, hq⟩ := bsm hq
          refine r_gR odX1_holdsNearest rfl rfl (gR_ap e15) ?_
          refine mB_run odX1_holdsNearest 1 (g := (66, [(0, .ref x0), (1, .int x1), (2, .int x2), (3, .int x3)], [.int (0 : Int32), .ref v14, .ref x0], (h ++ R), 0, 0)) rfl ?_
          obtain ⟨v16, e17, hq⟩ := bsm hq
          refine r_aI odX1_holdsNearest rfl (aI_ap e17) ?_
          refine mB_run odX1_holdsNearest 1 (g := (68, [(0, .ref x0), (1, .int x1), (2, .int x2), (3, .int x3)], [.ref x0, .int v16, .ref x0], (h ++ R), 0, 0)) rfl ?_
          obtain ⟨v18, e19, hq⟩ := bsm hq
          refine r_gR odX1_holdsNearest rfl rfl (gR_ap e19) ?_
          refine mB_run odX1_holdsNearest 1 (g := (72, [(0, .ref x0), (1, .int x1), (2, .int x2), (3, .int x3)], [.int (1 : Int32), .ref v18, .int v16, .ref x0], (h ++ R), 0, 0)) rfl ?_
          obtain ⟨v20, e21, hq⟩ := bsm hq
          refine r_aI odX1_holdsNearest rfl (aI_ap e21) ?_
          obtain ⟨f24, k25, hq⟩ := bsm hq
          obtain ⟨o22, e23, hq⟩ := bsm hq
          refine mB_V (as := [.int v16, .int v20]) odX1_holdsNearest okX1_stepToLine lk_1_77 rfl (eaX1_stepToLine e23) (kO_at (kO_ap k25)) rfl rfl rfl ?_
          show mB _ mX1_holdsNearest (76, [(0, .ref x0), (1, .int x1), (2, .int x2), (3, .int x3)], [.int o22.2], (o22.1 ++ R), 0, 0)
          refine mB_run odX1_holdsNearest 1 (g := (114, [(0, .ref x0), (1, .int x1), (2, .int x2), (3, .int x3)], [.int o22.2], (o22.1 ++ R), 0, 0)) rfl ?_
          refine mB_lv [0, 1] (lv' := [(0, .ref x0), (1, .int x1)]) rfl ?_
          exact eaX1_holdsNearest_114 _ _ _ _ hq
        · rw [if_neg c13] at hq
          refine ic_ne_T (t := 79) odX1_holdsNearest rfl rfl c13 ?_
          refine mB_run odX1_holdsNearest 2 (g := (81, [(0, .ref x0), (1, .int x1), (2, .int x2), (3, .int x3)], [.int (3 : Int32), .int x2], (h ++ R), 0, 0)) rfl ?_
          by_cases c26 : x2 = (3 : Int32)
          · rw [if_pos c26] at hq
            refine ic_ne_F (t := 113) odX1_holdsNearest rfl rfl c26 ?_
            refine mB_run odX1_holdsNearest 2 (g := (86, [(0, .ref x0), (1, .int x1), (2, .int x2), (3, .int x3)], [.ref x0, .ref x0], (h ++ R), 0, 0)) rfl ?_
            obtain ⟨v27, e28, hq⟩ := bsm hq
            refine r_gR odX1_holdsNearest rfl rfl (gR_ap e28) ?_
            refine mB_run odX1_holdsNearest 1 (g := (90, [(0, .ref x0), (1, .int x1), (2, .int x2), (3, .int x3)], [.int (0 : Int32), .ref v27, .ref x0], (h ++ R), 0, 0)) rfl ?_
            obtain ⟨v29, e30, hq⟩ := bsm hq
            refine r_aI odX1_holdsNearest rfl (aI_ap e30) ?_
            refine mB_run odX1_holdsNearest 1 (g := (92, [(0, .ref x0), (1, .int x1), (2, .int x2), (3, .int x3)], [.ref x0, .int v29, .ref x0], (h ++ R), 0, 0)) rfl ?_
            obtain ⟨v31, e32, hq⟩ := bsm hq
            refine r_gR odX1_holdsNearest rfl rfl (gR_ap e32) ?_
            refine mB_run odX1_holdsNearest 1 (g := (96, [(0, .ref x0), (1, .int x1), (2, .int x2), (3, .int x3)], [.int (1 : Int32), .ref v31, .int v29, .ref x0], (h ++ R), 0, 0)) rfl ?_
            obtain ⟨v33, e34, hq⟩ := bsm hq
            refine r_aI odX1_holdsNearest rfl (aI_ap e34) ?_
            refine mB_run odX1_holdsNearest 1 (g := (98, [(0, .ref x0), (1, .int x1), (2, .int x2), (3, .int x3)], [.ref x0, .int v33, .int v29, .ref x0], (h ++ R), 0, 0)) rfl ?_
            obtain ⟨v35, e36, hq⟩ := bsm hq
            refine r_gR odX1_holdsNearest rfl rfl (gR_ap e36) ?_
            refine mB_run odX1_holdsNearest 1 (g := (102, [(0, .ref x0), (1, .int x1), (2, .int x2), (3, .int x3)], [.int (2 : Int32), .ref v35, .int v33, .int v29, .ref x0], (h ++ R), 0, 0)) rfl ?_
            obtain ⟨v37, e38, hq⟩ := bsm hq
            refine r_aI odX1_holdsNearest rfl (aI_ap e38) ?_
            obtain ⟨f41, k42, hq⟩ := bsm hq
            obtain ⟨o39, e40, hq⟩ := bsm hq
            refine mB_V (as := [.int v29, .int v33, .int v37]) odX1_holdsNearest okX1_stepToPlane lk_1_81 rfl (eaX1_stepToPlane e40) (kO_at (kO_ap k42)) rfl rfl rfl ?_
            show mB _ mX1_holdsNearest (106, [(0, .ref x0), (1, .int x1), (2, .int x2), (3, .int x3)], [.int o39.2], (o39.1 ++ R), 0, 0)
            by_cases c43 : o39.2 = 0
            · rw [if_pos c43] at hq
              refine if_eq_T (t := 113) odX1_holdsNearest rfl rfl c43 ?_
              refine mB_lv [0, 1] (lv' := [(0, .ref x0), (1, .int x1)]) rfl ?_
              exact eaX1_holdsNearest_113 _ _ _ hq
            · rw [if_neg c43] at hq
              refine if_eq_F (t := 113) odX1_holdsNearest rfl rfl c43 ?_
              refine mB_run odX1_holdsNearest 2 (g := (114, [(0, .ref x0), (1, .int x1), (2, .int x2), (3, .int x3)], [.int (1 : Int32)], (o39.1 ++ R), 0, 0)) rfl ?_
              refine mB_lv [0, 1] (lv' := [(0, .ref x0), (1, .int x1)]) rfl ?_
              exact eaX1_holdsNearest_114 _ _ _ _ hq
          · rw [if_neg c26] at hq
            refine ic_ne_T (t := 113) odX1_holdsNearest rfl rfl c26 ?_
            refine mB_lv [0, 1] (lv' := [(0, .ref x0), (1, .int x1)]) rfl ?_
            exact eaX1_holdsNearest_113 _ _ _ hq
    · rw [if_neg c3] at hq
      refine ic_ge_F (t := 37) odX1_holdsNearest rfl rfl c3 ?_
      refine mB_run odX1_holdsNearest 6 (g := (18, [(0, .ref x0), (1, .int x1), (2, .int x2), (3, .int x3)], [.int (1 : Int32), .int ((x1 >>> (x3 &&& 31)) &&& (1 : Int32))], (h ++ R), 0, 0)) rfl ?_
      by_cases c44 : ((x1 >>> (x3 &&& 31)) &&& (1 : Int32)) = (1 : Int32)
      · rw [if_pos c44] at hq
        refine ic_ne_F (t := 31) odX1_holdsNearest rfl rfl c44 ?_
        refine mB_run odX1_holdsNearest 1 (g := (22, [(0, .ref x0), (1, .int x1), (2, .int x2), (3, .int x3)], [.ref x0], (h ++ R), 0, 0)) rfl ?_
        obtain ⟨v45, e46, hq⟩ := bsm hq
        refine r_gR odX1_holdsNearest rfl rfl (gR_ap e46) ?_
        refine mB_run odX1_holdsNearest 2 (g := (27, [(0, .ref x0), (1, .int x1), (2, .int x2), (3, .int x3)], [.int x3, .int x2, .ref v45], (h ++ R), 0, 0)) rfl ?_
        obtain ⟨h47, e48, hq⟩ := bsm hq
        refine r_wI odX1_holdsNearest rfl (wI_ap e48) ?_
        refine mB_run odX1_holdsNearest 1 (g := (31, [(2, .int (x2 + (1 : Int32))), (0, .ref x0), (1, .int x1), (3, .int x3)], [], (h47 ++ R), 0, 0)) rfl ?_
        refine mB_lv [1, 2, 0, 3] (lv' := [(0, .ref x0), (1, .int x1), (2, .int (x2 + (1 : Int32))), (3, .int x3)]) rfl ?_
        exact eaX1_holdsNearest_31 ih _ _ _ _ _ hq
      · rw [if_neg c44] at hq
        refine ic_ne_T (t := 31) odX1_holdsNearest rfl rfl c44 ?_
        refine mB_lv [0, 1, 2, 3] (lv' := [(0, .ref x0), (1, .int x1), (2, .int x2), (3, .int x3)]) rfl ?_
        exact eaX1_holdsNearest_31 ih _ _ _ _ _ hq
set_option maxHeartbeats 4000000 in
set_option maxRecDepth 100000 in
theorem eaX1_holdsNearest {N : Nat} {R : mh} {p0 : Nat} {p1 : Int32} {h : mh} {o : (mh × Int32)} (hq : fxX1_holdsNearest N p0 p1 h = some o) : mC mX1_holdsNearest [.ref p0, .int p1] (h ++ R) (o.1 ++ R, some (.int o.2)) := by
  refine mC_of okX1_holdsNearest (Nat.le_of_ble_eq_true rfl) ?_
  unfold fxX1_holdsNearest at hq
  show mB _ mX1_holdsNearest (0, [(0, .ref p0), (1, .int p1)], [], (h ++ R), 0, 0)
  refine mB_run odX1_holdsNearest 4 (g := (4, [(3, .int (0 : Int32)), (2, .int (0 : Int32)), (0, .ref p0), (1, .int p1)], [], (h ++ R), 0, 0)) rfl ?_
  refine mB_lv [2, 3, 1, 0] (lv' := [(0, .ref p0), (1, .int p1), (2, .int (0 : Int32)), (3, .int (0 : Int32))]) rfl ?_
  exact eaX1_holdsNearest_4 N _ _ _ _ _ hq
set_option maxHeartbeats 4000000 in
set_option maxRecDepth 100000 in
theorem eaX1_keepPicked_60 {N : Nat} {R : mh} {rec4 : Nat → Int32 → Int32 → Int32 → mh → Option mh} (hrec4 : ∀ (x0 : Nat) (x1 : Int32) (x2 : Int32) (x3 : Int32) (h : mh) {o : mh}, rec4 x0 x1 x2 x3 h = some o → mB (gO mX1_keepPicked (o ++ R, none)) mX1_keepPicked (4, [(0, .ref x0), (1, .int x1), (2, .int x2), (3, .int x3)], [], (h ++ R), 0, 0)) (x0 : Nat) (x1 : Int32) (x2 : Int32) (x3 : Int32) (h : mh) {o : mh} (hq : fxX1_keepPicked_60 N rec4 x0 x1 x2 x3 h = some o) : mB (gO mX1_keepPicked (o ++ R, none)) mX1_keepPicked (60, [(0, .ref x0), (1, .int x1), (2, .int x2), (3, .int x3)], [], (h ++ R), 0, 0) := by
  unfold fxX1_keepPicked_60 at hq
  refine mB_run odX1_keepPicked 2 (g := (4, [(3, .int (x3 + (1 : Int32))), (0, .ref x0), (1, .int x1), (2, .int x2)], [], (h ++ R), 0, 0)) rfl ?_
  refine mB_lv [1, 2, 3, 0] (lv' := [(0, .ref x0), (1, .int x1), (2, .int x2), (3, .int (x3 + (1 : Int32)))]) rfl ?_
  exact hrec4 _ _ _ _ _ hq
set_option maxHeartbeats 4000000 in
set_option maxRecDepth 100000 in
theorem eaX1_keepPicked_4 {N : Nat} {R : mh} : ∀ (n : Nat) (x0 : Nat) (x1 : Int32) (x2 : Int32) (x3 : Int32) (h : mh) {o : mh}, fxX1_keepPicked_4 N n x0 x1 x2 x3 h = some o → mB (gO mX1_keepPicked (o ++ R, none)) mX1_keepPicked (4, [(0, .ref x0), (1, .int x1), (2, .int x2), (3, .int x3)], [], (h ++ R), 0, 0) := by
  intro n
  induction n with
  | zero => intro x0 x1 x2 x3 h o hq; cases hq
  | succ n ih =>
    intro x0 x1 x2 x3 h o hq
    unfold fxX1_keepPicked_4 at hq
    refine mB_run odX1_keepPicked 2 (g := (6, [(0, .ref x0), (1, .int x1), (2, .int x2), (3, .int x3)], [.ref x0, .int x3], (h ++ R), 0, 0)) rfl ?_
    obtain ⟨v1, e2, hq⟩ := bsm hq
    refine r_gI odX1_keepPicked rfl rfl (gI_ap e2) ?_
    by_cases c3 : v1 ≤ x3
    · rw [if_pos c3] at hq
      refine ic_ge_T (t := 66) odX1_keepPicked rfl rfl c3 ?_
      refine mB_run odX1_keepPicked 2 (g := (68, [(0, .ref x0), (1, .int x1), (2, .int x2), (3, .int x3)], [.int x2, .ref x0], (h ++ R), 0, 0)) rfl ?_
      obtain ⟨h4, e5, hq⟩ := bsm hq
      refine r_sV odX1_keepPicked rfl rfl rfl rfl (sV_ap e5) ?_
      cases hq
      exact mB_ret odX1_keepPicked rfl
    · rw [if_neg c3] at hq
      refine ic_ge_F (t := 66) odX1_keepPicked rfl rfl c3 ?_
      refine mB_run odX1_keepPicked 6 (g := (18, [(0, .ref x0), (1, .int x1), (2, .int x2), (3, .int x3)], [.int (1 : Int32), .int ((x1 >>> (x3 &&& 31)) &&& (1 : Int32))], (h ++ R), 0, 0)) rfl ?_
      by_cases c6 : ((x1 >>> (x3 &&& 31)) &&& (1 : Int32)) = (1 : Int32)
      · rw [if_pos c6] at hq
        refine ic_ne_F (t := 60) odX1_keepPicked rfl rfl c6 ?_
        refine mB_run odX1_keepPicked 1 (g := (22, [(0, .ref x0), (1, .int x1), (2, .int x2), (3, .int x3)], [.ref x0], (h ++ R), 0, 0)) rfl ?_
        obtain ⟨v7, e8, hq⟩ := bsm hq
        refine r_gR odX1_keepPicked rfl rfl (gR_ap e8) ?_
        refine mB_run odX1_keepPicked 2 (g := (27, [(0, .ref x0), (1, .int x1), (2, .int x2), (3, .int x3)], [.ref x0, .int x2, .ref v7], (h ++ R), 0, 0)) rfl ?_
        obtain ⟨v9, e10, hq⟩ := bsm hq
        refine r_gR odX1_keepPicked rfl rfl (gR_ap e10) ?_
        refine mB_run odX1_keepPicked 1 (g := (31, [(0, .ref x0), (1, .int x1), (2, .int x2), (3, .int x3)], [.int x3, .ref v9, .int x2, .ref v7], (h ++ R), 0, 0)) rfl ?_
        obtain ⟨v11, e12, hq⟩ := bsm hq
        refine r_aI odX1_keepPicked rfl (aI_ap e12) ?_
        obtain ⟨h13, e14, hq⟩ := bsm hq
        refine r_wI odX1_keepPicked rfl (wI_ap e14) ?_
        refine mB_run odX1_keepPicked 1 (g := (34, [(0, .ref x0), (1, .int x1), (2, .int x2), (3, .int x3)], [.ref x0], (h13 ++ R), 0, 0)) rfl ?_
        obtain ⟨v15, e16, hq⟩ := bsm hq
        refine r_gR odX1_keepPicked rfl rfl (gR_ap e16) ?_
        refine mB_run odX1_keepPicked 2 (g := (39, [(0, .ref x0), (1, .int x1), (2, .int x2), (3, .int x3)], [.ref x0, .int x2, .ref v15], (h13 ++ R), 0, 0)) rfl ?_
        obtain ⟨v17, e18, hq⟩ := bsm hq
        refine r_gR odX1_keepPicked rfl rfl (gR_ap e18) ?_
        refine mB_run odX1_keepPicked 1 (g := (43, [(0, .ref x0), (1, .int x1), (2, .int x2), (3, .int x3)], [.int x3, .ref v17, .int x2, .ref v15], (h13 ++ R), 0, 0)) rfl ?_
        obtain ⟨v19, e20, hq⟩ := bsm hq
        refine r_aI odX1_keepPicked rfl (aI_ap e20) ?_
        obtain ⟨h21, e22, hq⟩ := bsm hq
        refine r_wI odX1_keepPicked rfl (wI_ap e22) ?_
        refine mB_run odX1_keepPicked 1 (g := (46, [(0, .ref x0), (1, .int x1), (2, .int x2), (3, .int x3)], [.ref x0], (h21 ++ R), 0, 0)) rfl ?_
        obtain ⟨v23, e24, hq⟩ := bsm hq
        refine r_gR odX1_keepPicked rfl rfl (gR_ap e24) ?_
        refine mB_run odX1_keepPicked 2 (g := (51, [(0, .ref x0), (1, .int x1), (2, .int x2), (3, .int x3)], [.ref x0, .int x2, .ref v23], (h21 ++ R), 0, 0)) rfl ?_
        obtain ⟨v25, e26, hq⟩ := bsm hq
        refine r_gR odX1_keepPicked rfl rfl (gR_ap e26) ?_
        refine mB_run odX1_keepPicked 1 (g := (55, [(0, .ref x0), (1, .int x1), (2, .int x2), (3, .int x3)], [.int x3, .ref v25, .int x2, .ref v23], (h21 ++ R), 0, 0)) rfl ?_
        obtain ⟨v27, e28, hq⟩ := bsm hq
        refine r_aI odX1_keepPicked rfl (aI_ap e28) ?_
        obtain ⟨h29, e30, hq⟩ := bsm hq
        refine r_wI odX1_keepPicked rfl (wI_ap e30) ?_
        refine mB_run odX1_keepPicked 1 (g := (60, [(2, .int (x2 + (1 : Int32))), (0, .ref x0), (1, .int x1), (3, .int x3)], [], (h29 ++ R), 0, 0)) rfl ?_
        refine mB_lv [1, 2, 0, 3] (lv' := [(0, .ref x0), (1, .int x1), (2, .int (x2 + (1 : Int32))), (3, .int x3)]) rfl ?_
        exact eaX1_keepPicked_60 ih _ _ _ _ _ hq
      · rw [if_neg c6] at hq
        refine ic_ne_T (t := 60) odX1_keepPicked rfl rfl c6 ?_
        refine mB_lv [0, 1, 2, 3] (lv' := [(0, .ref x0), (1, .int x1), (2, .int x2), (3, .int x3)]) rfl ?_
        exact eaX1_keepPicked_60 ih _ _ _ _ _ hq
set_option maxHeartbeats 4000000 in
set_option maxRecDepth 100000 in
theorem eaX1_keepPicked {N : Nat} {R : mh} {p0 : Nat} {p1 : Int32} {h : mh} {o : mh} (hq : fxX1_keepPicked N p0 p1 h = some o) : mC mX1_keepPicked [.ref p0, .int p1] (h ++ R) (o ++ R, none) := by
  refine mC_of okX1_keepPicked (Nat.le_of_ble_eq_true rfl) ?_
  unfold fxX1_keepPicked at hq
  show mB _ mX1_keepPicked (0, [(0, .ref p0), (1, .int p1)], [], (h ++ R), 0, 0)
  refine mB_run odX1_keepPicked 4 (g := (4, [(3, .int (0 : Int32)), (2, .int (0 : Int32)), (0, .ref p0), (1, .int p1)], [], (h ++ R), 0, 0)) rfl ?_
  refine mB_lv [2, 3, 1, 0] (lv' := [(0, .ref p0), (1, .int p1), (2, .int (0 : Int32)), (3, .int (0 : Int32))]) rfl ?_
  exact eaX1_keepPicked_4 N _ _ _ _ _ hq
set_option maxHeartbeats 4000000 in
set_option maxRecDepth 100000 in
theorem eaX1_shrink_11 {N : Nat} {R : mh} : ∀ (n : Nat) (x0 : Nat) (x1 : Int32) (x2 : Int32) (h : mh) {o : (mh × Int32)}, fxX1_shrink_11 N n x0 x1 x2 h = some o → mB (gO mX1_shrink (o.1 ++ R, some (.int o.2))) mX1_shrink (11, [(0, .ref x0), (1, .int x1), (2, .int x2)], [], (h ++ R), 0, 0) := by
  intro n
  induction n with
  | zero => intro x0 x1 x2 h o hq; cases hq
  | succ n ih =>
    intro x0 x1 x2 h o hq
    unfold fxX1_shrink_11 at hq
    refine mB_run odX1_shrink 2 (g := (13, [(0, .ref x0), (1, .int x1), (2, .int x2)], [.int x1, .int x2], (h ++ R), 0, 0)) rfl ?_
    by_cases c3 : x1 ≤ x2
    · rw [if_pos c3] at hq
      refine ic_ge_T (t := 41) odX1_shrink rfl rfl c3 ?_
      refine mB_run odX1_shrink 1 (g := (42, [(0, .ref x0), (1, .int x1), (2, .int x2)], [.int (0 : Int32)], (h ++ R), 0, 0)) rfl ?_
      cases hq
      exact mB_ret odX1_shrink rfl
    · rw [if_neg c3] at hq
      refine ic_ge_F (t := 41) odX1_shrink rfl rfl c3 ?_
      refine mB_run odX1_shrink 4 (g := (20, [(0, .ref x0), (1, .int x1), (2, .int x2)], [.int (x1 ||| x2), .ref x0], (h ++ R), 0, 0)) rfl ?_
      obtain ⟨f6, k7, hq⟩ := bsm hq
      obtain ⟨o4, e5, hq⟩ := bsm hq
      refine mB_V (as := [.int (x1 ||| x2)]) odX1_shrink okX1_holdsNearest lk_1_66 rfl (eaX1_holdsNearest e5) (kO_at (kO_ap k7)) rfl rfl rfl ?_
      show mB _ mX1_shrink (23, [(0, .ref x0), (1, .int x1), (2, .int x2)], [.int o4.2], (o4.1 ++ R), 0, 0)
      by_cases c8 : o4.2 = 0
      · rw [if_pos c8] at hq
        refine if_eq_T (t := 35) odX1_shrink rfl rfl c8 ?_
        refine mB_run odX1_shrink 2 (g := (11, [(2, .int (x2 + (1 : Int32))), (0, .ref x0), (1, .int x1)], [], (o4.1 ++ R), 0, 0)) rfl ?_
        refine mB_lv [1, 2, 0] (lv' := [(0, .ref x0), (1, .int x1), (2, .int (x2 + (1 : Int32)))]) rfl ?_
        exact ih _ _ _ _ hq
      · rw [if_neg c8] at hq
        refine if_eq_F (t := 35) odX1_shrink rfl rfl c8 ?_
        refine mB_run odX1_shrink 4 (g := (30, [(0, .ref x0), (1, .int x1), (2, .int x2)], [.int (x1 ||| x2), .ref x0], (o4.1 ++ R), 0, 0)) rfl ?_
        obtain ⟨f11, k12, hq⟩ := bsm hq
        obtain ⟨o9, e10, hq⟩ := bsm hq
        refine mB_V (as := [.int (x1 ||| x2)]) odX1_shrink okX1_keepPicked lk_1_70 rfl (eaX1_keepPicked e10) (kO_at (kO_ap k12)) rfl rfl rfl ?_
        show mB _ mX1_shrink (33, [(0, .ref x0), (1, .int x1), (2, .int x2)], [], (o9 ++ R), 0, 0)
        refine mB_run odX1_shrink 1 (g := (34, [(0, .ref x0), (1, .int x1), (2, .int x2)], [.int (1 : Int32)], (o9 ++ R), 0, 0)) rfl ?_
        cases hq
        exact mB_ret odX1_shrink rfl
set_option maxHeartbeats 4000000 in
set_option maxRecDepth 100000 in
theorem eaX1_shrink {N : Nat} {R : mh} {p0 : Nat} {h : mh} {o : (mh × Int32)} (hq : fxX1_shrink N p0 h = some o) : mC mX1_shrink [.ref p0] (h ++ R) (o.1 ++ R, some (.int o.2)) := by
  refine mC_of okX1_shrink (Nat.le_of_ble_eq_true rfl) ?_
  unfold fxX1_shrink at hq
  show mB _ mX1_shrink (0, [(0, .ref p0)], [], (h ++ R), 0, 0)
  refine mB_run odX1_shrink 2 (g := (2, [(0, .ref p0)], [.ref p0, .int (1 : Int32)], (h ++ R), 0, 0)) rfl ?_
  obtain ⟨v1, e2, hq⟩ := bsm hq
  refine r_gI odX1_shrink rfl rfl (gI_ap e2) ?_
  refine mB_run odX1_shrink 6 (g := (11, [(2, .int (0 : Int32)), (1, .int ((1 : Int32) <<< ((v1 - (1 : Int32)) &&& 31))), (0, .ref p0)], [], (h ++ R), 0, 0)) rfl ?_
  refine mB_lv [2, 1, 0] (lv' := [(0, .ref p0), (1, .int ((1 : Int32) <<< ((v1 - (1 : Int32)) &&& 31))), (2, .int (0 : Int32))]) rfl ?_
  exact eaX1_shrink_11 N _ _ _ _ hq
set_option maxHeartbeats 4000000 in
set_option maxRecDepth 100000 in
theorem eaX1_reckon_37 {N : Nat} {R : mh} (x0 : Nat) (h : mh) {o : mh} (hq : fxX1_reckon_37 N x0 h = some o) : mB (gO mX1_reckon (o ++ R, none)) mX1_reckon (37, [(0, .ref x0)], [], (h ++ R), 0, 0) := by
  unfold fxX1_reckon_37 at hq
  refine mB_run odX1_reckon 2 (g := (39, [(0, .ref x0)], [.long (0 : Int64), .ref x0], (h ++ R), 0, 0)) rfl ?_
  obtain ⟨h49, e50, hq⟩ := bsm hq
  refine r_sV odX1_reckon rfl rfl rfl rfl (sV_ap e50) ?_
  refine mB_run odX1_reckon 2 (g := (44, [(0, .ref x0)], [.long (1 : Int64), .ref x0], (h49 ++ R), 0, 0)) rfl ?_
  obtain ⟨h51, e52, hq⟩ := bsm hq
  refine r_sV odX1_reckon rfl rfl rfl rfl (sV_ap e52) ?_
  cases hq
  exact mB_ret odX1_reckon rfl
set_option maxHeartbeats 4000000 in
set_option maxRecDepth 100000 in
theorem eaX1_reckon_15 {N : Nat} {R : mh} : ∀ (n : Nat) (x0 : Nat) (x1 : Nat) (x2 : Nat) (x3 : Int32) (h : mh) {o : mh}, fxX1_reckon_15 N n x0 x1 x2 x3 h = some o → mB (gO mX1_reckon (o ++ R, none)) mX1_reckon (15, [(0, .ref x0), (1, .ref x1), (2, .ref x2), (3, .int x3)], [], (h ++ R), 0, 0) := by
  intro n
  induction n with
  | zero => intro x0 x1 x2 x3 h o hq; cases hq
  | succ n ih =>
    intro x0 x1 x2 x3 h o hq
    unfold fxX1_reckon_15 at hq
    refine mB_run odX1_reckon 2 (g := (18, [(0, .ref x0), (1, .ref x1), (2, .ref x2), (3, .int x3)], [.int (100000 : Int32), .int x3], (h ++ R), 0, 0)) rfl ?_
    by_cases c7 : (100000 : Int32) ≤ x3
    · rw [if_pos c7] at hq
      refine ic_ge_T (t := 114) odX1_reckon rfl rfl c7 ?_
      cases hq
      exact mB_ret odX1_reckon rfl
    · rw [if_neg c7] at hq
      refine ic_ge_F (t := 114) odX1_reckon rfl rfl c7 ?_
      refine mB_run odX1_reckon 1 (g := (22, [(0, .ref x0), (1, .ref x1), (2, .ref x2), (3, .int x3)], [.ref x0], (h ++ R), 0, 0)) rfl ?_
      obtain ⟨f10, k11, hq⟩ := bsm hq
      obtain ⟨o8, e9, hq⟩ := bsm hq
      refine mB_V (as := []) odX1_reckon okX1_shrink lk_1_49 rfl (eaX1_shrink e9) (kO_at (kO_ap k11)) rfl rfl rfl ?_
      show mB _ mX1_reckon (25, [(0, .ref x0), (1, .ref x1), (2, .ref x2), (3, .int x3)], [.int o8.2], (o8.1 ++ R), 0, 0)
      by_cases c12 : o8.2 = 0
      · rw [if_pos c12] at hq
        refine if_eq_T (t := 37) odX1_reckon rfl rfl c12 ?_
        refine mB_lv [0] (lv' := [(0, .ref x0)]) rfl ?_
        exact eaX1_reckon_37 _ _ hq
      · rw [if_neg c12] at hq
        refine if_eq_F (t := 37) odX1_reckon rfl rfl c12 ?_
        refine mB_run odX1_reckon 1 (g := (29, [(0, .ref x0), (1, .ref x1), (2, .ref x2), (3, .int x3)], [.ref x0], (o8.1 ++ R), 0, 0)) rfl ?_
        obtain ⟨v13, e14, hq⟩ := bsm hq
        refine r_gJ odX1_reckon rfl rfl (gJ_ap e14) ?_
        refine mB_run odX1_reckon 1 (g := (33, [(0, .ref x0), (1, .ref x1), (2, .ref x2), (3, .int x3)], [.long (0 : Int64), .long v13], (o8.1 ++ R), 0, 0)) rfl ?_
        by_cases c15 : v13 = (0 : Int64)
        · rw [if_pos c15] at hq
          refine lc_ne_F (t := 48) odX1_reckon rfl rfl rfl c15 ?_
          refine mB_lv [0] (lv' := [(0, .ref x0)]) rfl ?_
          exact eaX1_reckon_37 _ _ hq
        · rw [if_neg c15] at hq
          refine lc_ne_T (t := 48) odX1_reckon rfl rfl rfl c15 ?_
          refine mB_run odX1_reckon 4 (g := (52, [(0, .ref x0), (1, .ref x1), (2, .ref x2), (3, .int x3)], [.ref x0, .ref x1, .ref x1, .ref x0], (o8.1 ++ R), 0, 0)) rfl ?_
          obtain ⟨v16, e17, hq⟩ := bsm hq
          refine r_gJ odX1_reckon rfl rfl (gJ_ap e17) ?_
          refine mB_run odX1_reckon 2 (g := (57, [(0, .ref x0), (1, .ref x1), (2, .ref x2), (3, .int x3)], [.ref x0, .long (-v16), .ref x1, .ref x1, .ref x0], (o8.1 ++ R), 0, 0)) rfl ?_
          obtain ⟨v18, e19, hq⟩ := bsm hq
          refine r_gJ odX1_reckon rfl rfl (gJ_ap e19) ?_
          refine mB_run odX1_reckon 2 (g := (62, [(0, .ref x0), (1, .ref x1), (2, .ref x2), (3, .int x3)], [.ref x0, .long (-v18), .long (-v16), .ref x1, .ref x1, .ref x0], (o8.1 ++ R), 0, 0)) rfl ?_
          obtain ⟨v20, e21, hq⟩ := bsm hq
          refine r_gJ odX1_reckon rfl rfl (gJ_ap e21) ?_
          refine mB_run odX1_reckon 1 (g := (66, [(0, .ref x0), (1, .ref x1), (2, .ref x2), (3, .int x3)], [.long (-v20), .long (-v18), .long (-v16), .ref x1, .ref x1, .ref x0], (o8.1 ++ R), 0, 0)) rfl ?_
          obtain ⟨f24, k25, hq⟩ := bsm hq
          obtain ⟨o22, e23, hq⟩ := bsm hq
          refine mB_V (as := [.long (-v16), .long (-v18), .long (-v20)]) odX1_reckon okX3_farthest lk_1_53 rfl (eaX3_farthest e23) (kO_at (kO_ap k25)) rfl rfl rfl ?_
          show mB _ mX1_reckon (69, [(0, .ref x0), (1, .ref x1), (2, .ref x2), (3, .int x3)], [.int o22.2, .ref x1, .ref x0], (o22.1 ++ R), 0, 0)
          refine mB_run odX1_reckon 3 (g := (72, [(0, .ref x0), (1, .ref x1), (2, .ref x2), (3, .int x3)], [.ref x0, .ref x2, .ref x2, .int o22.2, .ref x1, .ref x0], (o22.1 ++ R), 0, 0)) rfl ?_
          obtain ⟨v26, e27, hq⟩ := bsm hq
          refine r_gJ odX1_reckon rfl rfl (gJ_ap e27) ?_
          refine mB_run odX1_reckon 1 (g := (76, [(0, .ref x0), (1, .ref x1), (2, .ref x2), (3, .int x3)], [.ref x0, .long v26, .ref x2, .ref x2, .int o22.2, .ref x1, .ref x0], (o22.1 ++ R), 0, 0)) rfl ?_
          obtain ⟨v28, e29, hq⟩ := bsm hq
          refine r_gJ odX1_reckon rfl rfl (gJ_ap e29) ?_
          refine mB_run odX1_reckon 1 (g := (80, [(0, .ref x0), (1, .ref x1), (2, .ref x2), (3, .int x3)], [.ref x0, .long v28, .long v26, .ref x2, .ref x2, .int o22.2, .ref x1, .ref x0], (o22.1 ++ R), 0, 0)) rfl ?_
          obtain ⟨v30, e31, hq⟩ := bsm hq
          refine r_gJ odX1_reckon rfl rfl (gJ_ap e31) ?_
          obtain ⟨f34, k35, hq⟩ := bsm hq
          obtain ⟨o32, e33, hq⟩ := bsm hq
          refine mB_V (as := [.long v26, .long v28, .long v30]) odX1_reckon okX3_farthest lk_1_53 rfl (eaX3_farthest e33) (kO_at (kO_ap k35)) rfl rfl rfl ?_
          show mB _ mX1_reckon (86, [(0, .ref x0), (1, .ref x1), (2, .ref x2), (3, .int x3)], [.int o32.2, .ref x2, .int o22.2, .ref x1, .ref x0], (o32.1 ++ R), 0, 0)
          obtain ⟨f38, k39, hq⟩ := bsm hq
          obtain ⟨o36, e37, hq⟩ := bsm hq
          refine mB_V (as := [.ref x1, .int o22.2, .ref x2, .int o32.2]) odX1_reckon okX1_addDifference lk_1_44 rfl (eaX1_addDifference e37) (kO_at (kO_ap k39)) rfl rfl rfl ?_
          show mB _ mX1_reckon (89, [(0, .ref x0), (1, .ref x1), (2, .ref x2), (3, .int x3)], [], (o36 ++ R), 0, 0)
          refine mB_run odX1_reckon 2 (g := (91, [(0, .ref x0), (1, .ref x1), (2, .ref x2), (3, .int x3)], [.ref x0, .ref x0], (o36 ++ R), 0, 0)) rfl ?_
          obtain ⟨v40, e41, hq⟩ := bsm hq
          refine r_gI odX1_reckon rfl rfl (gI_ap e41) ?_
          refine mB_run odX1_reckon 2 (g := (96, [(0, .ref x0), (1, .ref x1), (2, .ref x2), (3, .int x3)], [.int (v40 - (1 : Int32)), .ref x0], (o36 ++ R), 0, 0)) rfl ?_
          obtain ⟨f44, k45, hq⟩ := bsm hq
          obtain ⟨o42, e43, hq⟩ := bsm hq
          refine mB_V (as := [.int (v40 - (1 : Int32))]) odX1_reckon okX1_along lk_1_59 rfl (eaX1_along e43) (kO_at (kO_ap k45)) rfl rfl rfl ?_
          show mB _ mX1_reckon (99, [(0, .ref x0), (1, .ref x1), (2, .ref x2), (3, .int x3)], [.long o42.2], (o42.1 ++ R), 0, 0)
          refine mB_run odX1_reckon 1 (g := (100, [(0, .ref x0), (1, .ref x1), (2, .ref x2), (3, .int x3)], [.ref x0, .long o42.2], (o42.1 ++ R), 0, 0)) rfl ?_
          obtain ⟨v46, e47, hq⟩ := bsm hq
          refine r_gJ odX1_reckon rfl rfl (gJ_ap e47) ?_
          by_cases c48 : o42.2 < v46
          · rw [if_pos c48] at hq
            refine lc_lt_T (t := 108) odX1_reckon rfl rfl rfl c48 ?_
            refine mB_run odX1_reckon 2 (g := (15, [(3, .int (x3 + (1 : Int32))), (0, .ref x0), (1, .ref x1), (2, .ref x2)], [], (o42.1 ++ R), 0, 0)) rfl ?_
            refine mB_lv [1, 2, 3, 0] (lv' := [(0, .ref x0), (1, .ref x1), (2, .ref x2), (3, .int (x3 + (1 : Int32)))]) rfl ?_
            exact ih _ _ _ _ _ hq
          · rw [if_neg c48] at hq
            refine lc_lt_F (t := 108) odX1_reckon rfl rfl rfl c48 ?_
            cases hq
            exact mB_ret odX1_reckon rfl
set_option maxHeartbeats 4000000 in
set_option maxRecDepth 100000 in
theorem eaX1_reckon {N : Nat} {R : mh} {p0 : Nat} {p1 : Nat} {p2 : Nat} {h : mh} {o : mh} (hq : fxX1_reckon N p0 p1 p2 h = some o) : mC mX1_reckon [.ref p0, .ref p1, .ref p2] (h ++ R) (o ++ R, none) := by
  refine mC_of okX1_reckon (Nat.le_of_ble_eq_true rfl) ?_
  unfold fxX1_reckon at hq
  show mB _ mX1_reckon (0, [(0, .ref p0), (1, .ref p1), (2, .ref p2)], [], (h ++ R), 0, 0)
  refine mB_run odX1_reckon 2 (g := (2, [(0, .ref p0), (1, .ref p1), (2, .ref p2)], [.int (0 : Int32), .ref p0], (h ++ R), 0, 0)) rfl ?_
  obtain ⟨h1, e2, hq⟩ := bsm hq
  refine r_sV odX1_reckon rfl rfl rfl rfl (sV_ap e2) ?_
  refine mB_run odX1_reckon 5 (g := (10, [(0, .ref p0), (1, .ref p1), (2, .ref p2)], [.int (0 : Int32), .ref p2, .int (0 : Int32), .ref p1, .ref p0], (h1 ++ R), 0, 0)) rfl ?_
  obtain ⟨f5, k6, hq⟩ := bsm hq
  obtain ⟨o3, e4, hq⟩ := bsm hq
  refine mB_V (as := [.ref p1, .int (0 : Int32), .ref p2, .int (0 : Int32)]) odX1_reckon okX1_addDifference lk_1_44 rfl (eaX1_addDifference e4) (kO_at (kO_ap k6)) rfl rfl rfl ?_
  show mB _ mX1_reckon (13, [(0, .ref p0), (1, .ref p1), (2, .ref p2)], [], (o3 ++ R), 0, 0)
  refine mB_run odX1_reckon 2 (g := (15, [(3, .int (0 : Int32)), (0, .ref p0), (1, .ref p1), (2, .ref p2)], [], (o3 ++ R), 0, 0)) rfl ?_
  refine mB_lv [1, 2, 3, 0] (lv' := [(0, .ref p0), (1, .ref p1), (2, .ref p2), (3, .int (0 : Int32))]) rfl ?_
  exact eaX1_reckon_15 N _ _ _ _ _ hq
set_option maxHeartbeats 4000000 in
set_option maxRecDepth 100000 in
theorem eaX5_clear {N : Nat} {R : mh} {p0 : Nat} {h : mh} {o : mh} (hq : fxX5_clear N p0 h = some o) : mC mX5_clear [.ref p0] (h ++ R) (o ++ R, none) := by
  refine mC_of okX5_clear (Nat.le_of_ble_eq_true rfl) ?_
  unfold fxX5_clear at hq
  show mB _ mX5_clear (0, [(0, .ref p0)], [], (h ++ R), 0, 0)
  refine mB_run odX5_clear 1 (g := (1, [(0, .ref p0)], [.ref p0], (h ++ R), 0, 0)) rfl ?_
  obtain ⟨v1, e2, hq⟩ := bsm hq
  refine r_gR odX5_clear rfl rfl (gR_ap e2) ?_
  obtain ⟨f5, k6, hq⟩ := bsm hq
  obtain ⟨o3, e4, hq⟩ := bsm hq
  refine mB_V (as := []) odX5_clear okX3_clear lk_5_47 rfl (eaX3_clear e4) (kO_at (kO_ap k6)) rfl rfl rfl ?_
  show mB _ mX5_clear (7, [(0, .ref p0)], [], (o3 ++ R), 0, 0)
  refine mB_run odX5_clear 2 (g := (9, [(0, .ref p0)], [.int (0 : Int32), .ref p0], (o3 ++ R), 0, 0)) rfl ?_
  obtain ⟨h7, e8, hq⟩ := bsm hq
  refine r_sV odX5_clear rfl rfl rfl rfl (sV_ap e8) ?_
  cases hq
  exact mB_ret odX5_clear rfl
set_option maxHeartbeats 4000000 in
set_option maxRecDepth 100000 in
theorem eaX2_seek {N : Nat} {R : mh} {p0 : Nat} {p1 : Nat} {p2 : Nat} {p3 : Int64} {p4 : Int64} {p5 : Int64} {h : mh} {o : mh} (hq : fxX2_seek N p0 p1 p2 p3 p4 p5 h = some o) : mC mX2_seek [.ref p0, .ref p1, .ref p2, .long p3, .long p4, .long p5] (h ++ R) (o ++ R, none) := by
  refine mC_of okX2_seek (Nat.le_of_ble_eq_true rfl) ?_
  unfold fxX2_seek at hq
  show mB _ mX2_seek (0, [(0, .ref p0), (1, .ref p1), (2, .ref p2), (3, .long p3), (5, .long p4), (7, .long p5)], [], (h ++ R), 0, 0)
  refine mB_run odX2_seek 4 (g := (6, [(0, .ref p0), (1, .ref p1), (2, .ref p2), (3, .long p3), (5, .long p4), (7, .long p5)], [.long p5, .long p4, .long p3, .ref p1], (h ++ R), 0, 0)) rfl ?_
  obtain ⟨f3, k4, hq⟩ := bsm hq
  obtain ⟨o1, e2, hq⟩ := bsm hq
  refine mB_V (as := [.long p3, .long p4, .long p5]) odX2_seek okX3_farthest lk_2_107 rfl (eaX3_farthest e2) (kO_at (kO_ap k4)) rfl rfl rfl ?_
  show mB _ mX2_seek (9, [(0, .ref p0), (1, .ref p1), (2, .ref p2), (3, .long p3), (5, .long p4), (7, .long p5)], [.int o1.2], (o1.1 ++ R), 0, 0)
  refine mB_run odX2_seek 5 (g := (17, [(9, .int o1.2), (0, .ref p0), (1, .ref p1), (2, .ref p2), (3, .long p3), (5, .long p4), (7, .long p5)], [.long p5, .long p4, .long p3, .ref p2], (o1.1 ++ R), 0, 0)) rfl ?_
  obtain ⟨f7, k8, hq⟩ := bsm hq
  obtain ⟨o5, e6, hq⟩ := bsm hq
  refine mB_V (as := [.long p3, .long p4, .long p5]) odX2_seek okX3_farthest lk_2_107 rfl (eaX3_farthest e6) (kO_at (kO_ap k8)) rfl rfl rfl ?_
  show mB _ mX2_seek (20, [(9, .int o1.2), (0, .ref p0), (1, .ref p1), (2, .ref p2), (3, .long p3), (5, .long p4), (7, .long p5)], [.int o5.2], (o5.1 ++ R), 0, 0)
  refine mB_run odX2_seek 3 (g := (24, [(10, .int o5.2), (9, .int o1.2), (0, .ref p0), (1, .ref p1), (2, .ref p2), (3, .long p3), (5, .long p4), (7, .long p5)], [.ref p1, .ref p0], (o5.1 ++ R), 0, 0)) rfl ?_
  obtain ⟨v9, e10, hq⟩ := bsm hq
  refine r_gR odX2_seek rfl rfl (gR_ap e10) ?_
  refine mB_run odX2_seek 1 (g := (29, [(10, .int o5.2), (9, .int o1.2), (0, .ref p0), (1, .ref p1), (2, .ref p2), (3, .long p3), (5, .long p4), (7, .long p5)], [.int o1.2, .ref v9, .ref p0], (o5.1 ++ R), 0, 0)) rfl ?_
  obtain ⟨v11, e12, hq⟩ := bsm hq
  refine r_aI odX2_seek rfl (aI_ap e12) ?_
  refine mB_run odX2_seek 1 (g := (31, [(10, .int o5.2), (9, .int o1.2), (0, .ref p0), (1, .ref p1), (2, .ref p2), (3, .long p3), (5, .long p4), (7, .long p5)], [.ref p2, .int v11, .ref p0], (o5.1 ++ R), 0, 0)) rfl ?_
  obtain ⟨v13, e14, hq⟩ := bsm hq
  refine r_gR odX2_seek rfl rfl (gR_ap e14) ?_
  refine mB_run odX2_seek 1 (g := (36, [(10, .int o5.2), (9, .int o1.2), (0, .ref p0), (1, .ref p1), (2, .ref p2), (3, .long p3), (5, .long p4), (7, .long p5)], [.int o5.2, .ref v13, .int v11, .ref p0], (o5.1 ++ R), 0, 0)) rfl ?_
  obtain ⟨v15, e16, hq⟩ := bsm hq
  refine r_aI odX2_seek rfl (aI_ap e16) ?_
  refine mB_run odX2_seek 1 (g := (38, [(10, .int o5.2), (9, .int o1.2), (0, .ref p0), (1, .ref p1), (2, .ref p2), (3, .long p3), (5, .long p4), (7, .long p5)], [.int (v11 + v15), .ref p0], (o5.1 ++ R), 0, 0)) rfl ?_
  obtain ⟨h17, e18, hq⟩ := bsm hq
  refine r_sV odX2_seek rfl rfl rfl rfl (sV_ap e18) ?_
  refine mB_run odX2_seek 2 (g := (43, [(10, .int o5.2), (9, .int o1.2), (0, .ref p0), (1, .ref p1), (2, .ref p2), (3, .long p3), (5, .long p4), (7, .long p5)], [.ref p1, .ref p0], (h17 ++ R), 0, 0)) rfl ?_
  obtain ⟨v19, e20, hq⟩ := bsm hq
  refine r_gR odX2_seek rfl rfl (gR_ap e20) ?_
  refine mB_run odX2_seek 1 (g := (48, [(10, .int o5.2), (9, .int o1.2), (0, .ref p0), (1, .ref p1), (2, .ref p2), (3, .long p3), (5, .long p4), (7, .long p5)], [.int o1.2, .ref v19, .ref p0], (h17 ++ R), 0, 0)) rfl ?_
  obtain ⟨v21, e22, hq⟩ := bsm hq
  refine r_aI odX2_seek rfl (aI_ap e22) ?_
  refine mB_run odX2_seek 1 (g := (50, [(10, .int o5.2), (9, .int o1.2), (0, .ref p0), (1, .ref p1), (2, .ref p2), (3, .long p3), (5, .long p4), (7, .long p5)], [.ref p2, .int v21, .ref p0], (h17 ++ R), 0, 0)) rfl ?_
  obtain ⟨v23, e24, hq⟩ := bsm hq
  refine r_gR odX2_seek rfl rfl (gR_ap e24) ?_
  refine mB_run odX2_seek 1 (g := (55, [(10, .int o5.2), (9, .int o1.2), (0, .ref p0), (1, .ref p1), (2, .ref p2), (3, .long p3), (5, .long p4), (7, .long p5)], [.int o5.2, .ref v23, .int v21, .ref p0], (h17 ++ R), 0, 0)) rfl ?_
  obtain ⟨v25, e26, hq⟩ := bsm hq
  refine r_aI odX2_seek rfl (aI_ap e26) ?_
  refine mB_run odX2_seek 1 (g := (57, [(10, .int o5.2), (9, .int o1.2), (0, .ref p0), (1, .ref p1), (2, .ref p2), (3, .long p3), (5, .long p4), (7, .long p5)], [.int (v21 + v25), .ref p0], (h17 ++ R), 0, 0)) rfl ?_
  obtain ⟨h27, e28, hq⟩ := bsm hq
  refine r_sV odX2_seek rfl rfl rfl rfl (sV_ap e28) ?_
  refine mB_run odX2_seek 2 (g := (62, [(10, .int o5.2), (9, .int o1.2), (0, .ref p0), (1, .ref p1), (2, .ref p2), (3, .long p3), (5, .long p4), (7, .long p5)], [.ref p1, .ref p0], (h27 ++ R), 0, 0)) rfl ?_
  obtain ⟨v29, e30, hq⟩ := bsm hq
  refine r_gR odX2_seek rfl rfl (gR_ap e30) ?_
  refine mB_run odX2_seek 1 (g := (67, [(10, .int o5.2), (9, .int o1.2), (0, .ref p0), (1, .ref p1), (2, .ref p2), (3, .long p3), (5, .long p4), (7, .long p5)], [.int o1.2, .ref v29, .ref p0], (h27 ++ R), 0, 0)) rfl ?_
  obtain ⟨v31, e32, hq⟩ := bsm hq
  refine r_aI odX2_seek rfl (aI_ap e32) ?_
  refine mB_run odX2_seek 1 (g := (69, [(10, .int o5.2), (9, .int o1.2), (0, .ref p0), (1, .ref p1), (2, .ref p2), (3, .long p3), (5, .long p4), (7, .long p5)], [.ref p2, .int v31, .ref p0], (h27 ++ R), 0, 0)) rfl ?_
  obtain ⟨v33, e34, hq⟩ := bsm hq
  refine r_gR odX2_seek rfl rfl (gR_ap e34) ?_
  refine mB_run odX2_seek 1 (g := (74, [(10, .int o5.2), (9, .int o1.2), (0, .ref p0), (1, .ref p1), (2, .ref p2), (3, .long p3), (5, .long p4), (7, .long p5)], [.int o5.2, .ref v33, .int v31, .ref p0], (h27 ++ R), 0, 0)) rfl ?_
  obtain ⟨v35, e36, hq⟩ := bsm hq
  refine r_aI odX2_seek rfl (aI_ap e36) ?_
  refine mB_run odX2_seek 1 (g := (76, [(10, .int o5.2), (9, .int o1.2), (0, .ref p0), (1, .ref p1), (2, .ref p2), (3, .long p3), (5, .long p4), (7, .long p5)], [.int (v31 + v35), .ref p0], (h27 ++ R), 0, 0)) rfl ?_
  obtain ⟨h37, e38, hq⟩ := bsm hq
  refine r_sV odX2_seek rfl rfl rfl rfl (sV_ap e38) ?_
  cases hq
  exact mB_ret odX2_seek rfl
set_option maxHeartbeats 4000000 in
set_option maxRecDepth 100000 in
theorem eaX6_isWithin {N : Nat} {R : mh} {p0 : Int32} {p1 : Int32} {h : mh} {o : (mh × Int32)} (hq : fxX6_isWithin N p0 p1 h = some o) : mC mX6_isWithin [.int p0, .int p1] (h ++ R) (o.1 ++ R, some (.int o.2)) := by
  refine mC_of okX6_isWithin (Nat.le_of_ble_eq_true rfl) ?_
  unfold fxX6_isWithin at hq
  show mB _ mX6_isWithin (0, [(0, .int p0), (1, .int p1)], [], (h ++ R), 0, 0)
  refine mB_run odX6_isWithin 3 (g := (3, [(0, .int p0), (1, .int p1)], [.int (-p1), .int p0], (h ++ R), 0, 0)) rfl ?_
  by_cases c1 : p0 < (-p1)
  · rw [if_pos c1] at hq
    refine ic_lt_T (t := 15) odX6_isWithin rfl rfl c1 ?_
    refine mB_run odX6_isWithin 1 (g := (16, [(0, .int p0), (1, .int p1)], [.int (0 : Int32)], (h ++ R), 0, 0)) rfl ?_
    cases hq
    exact mB_ret odX6_isWithin rfl
  · rw [if_neg c1] at hq
    refine ic_lt_F (t := 15) odX6_isWithin rfl rfl c1 ?_
    refine mB_run odX6_isWithin 2 (g := (8, [(0, .int p0), (1, .int p1)], [.int p1, .int p0], (h ++ R), 0, 0)) rfl ?_
    by_cases c2 : p1 < p0
    · rw [if_pos c2] at hq
      refine ic_gt_T (t := 15) odX6_isWithin rfl rfl c2 ?_
      refine mB_run odX6_isWithin 1 (g := (16, [(0, .int p0), (1, .int p1)], [.int (0 : Int32)], (h ++ R), 0, 0)) rfl ?_
      cases hq
      exact mB_ret odX6_isWithin rfl
    · rw [if_neg c2] at hq
      refine ic_gt_F (t := 15) odX6_isWithin rfl rfl c2 ?_
      refine mB_run odX6_isWithin 2 (g := (16, [(0, .int p0), (1, .int p1)], [.int (1 : Int32)], (h ++ R), 0, 0)) rfl ?_
      cases hq
      exact mB_ret odX6_isWithin rfl
set_option maxHeartbeats 4000000 in
set_option maxRecDepth 100000 in
theorem eaX6_isPoint {N : Nat} {R : mh} {p0 : Int32} {p1 : Int32} {p2 : Int32} {h : mh} {o : (mh × Int32)} (hq : fxX6_isPoint N p0 p1 p2 h = some o) : mC mX6_isPoint [.int p0, .int p1, .int p2] (h ++ R) (o.1 ++ R, some (.int o.2)) := by
  refine mC_of okX6_isPoint (Nat.le_of_ble_eq_true rfl) ?_
  unfold fxX6_isPoint at hq
  show mB _ mX6_isPoint (0, [(0, .int p0), (1, .int p1), (2, .int p2)], [], (h ++ R), 0, 0)
  refine mB_run odX6_isPoint 2 (g := (3, [(0, .int p0), (1, .int p1), (2, .int p2)], [.int (100 : Int32), .int p0], (h ++ R), 0, 0)) rfl ?_
  obtain ⟨o1, e2, hq⟩ := bsm hq
  refine mB_S (as := [.int p0, .int (100 : Int32)]) odX6_isPoint okX6_isWithin lk_6_145 rfl (eaX6_isWithin e2) rfl rfl rfl ?_
  show mB _ mX6_isPoint (6, [(0, .int p0), (1, .int p1), (2, .int p2)], [.int o1.2], (o1.1 ++ R), 0, 0)
  by_cases c3 : o1.2 = 0
  · rw [if_pos c3] at hq
    refine if_eq_T (t := 31) odX6_isPoint rfl rfl c3 ?_
    refine mB_run odX6_isPoint 1 (g := (32, [(0, .int p0), (1, .int p1), (2, .int p2)], [.int (0 : Int32)], (o1.1 ++ R), 0, 0)) rfl ?_
    cases hq
    exact mB_ret odX6_isPoint rfl
  · rw [if_neg c3] at hq
    refine if_eq_F (t := 31) odX6_isPoint rfl rfl c3 ?_
    refine mB_run odX6_isPoint 2 (g := (12, [(0, .int p0), (1, .int p1), (2, .int p2)], [.int (100 : Int32), .int p1], (o1.1 ++ R), 0, 0)) rfl ?_
    obtain ⟨o4, e5, hq⟩ := bsm hq
    refine mB_S (as := [.int p1, .int (100 : Int32)]) odX6_isPoint okX6_isWithin lk_6_145 rfl (eaX6_isWithin e5) rfl rfl rfl ?_
    show mB _ mX6_isPoint (15, [(0, .int p0), (1, .int p1), (2, .int p2)], [.int o4.2], (o4.1 ++ R), 0, 0)
    by_cases c6 : o4.2 = 0
    · rw [if_pos c6] at hq
      refine if_eq_T (t := 31) odX6_isPoint rfl rfl c6 ?_
      refine mB_run odX6_isPoint 1 (g := (32, [(0, .int p0), (1, .int p1), (2, .int p2)], [.int (0 : Int32)], (o4.1 ++ R), 0, 0)) rfl ?_
      cases hq
      exact mB_ret odX6_isPoint rfl
    · rw [if_neg c6] at hq
      refine if_eq_F (t := 31) odX6_isPoint rfl rfl c6 ?_
      refine mB_run odX6_isPoint 2 (g := (21, [(0, .int p0), (1, .int p1), (2, .int p2)], [.int (100 : Int32), .int p2], (o4.1 ++ R), 0, 0)) rfl ?_
      obtain ⟨o7, e8, hq⟩ := bsm hq
      refine mB_S (as := [.int p2, .int (100 : Int32)]) odX6_isPoint okX6_isWithin lk_6_145 rfl (eaX6_isWithin e8) rfl rfl rfl ?_
      show mB _ mX6_isPoint (24, [(0, .int p0), (1, .int p1), (2, .int p2)], [.int o7.2], (o7.1 ++ R), 0, 0)
      by_cases c9 : o7.2 = 0
      · rw [if_pos c9] at hq
        refine if_eq_T (t := 31) odX6_isPoint rfl rfl c9 ?_
        refine mB_run odX6_isPoint 1 (g := (32, [(0, .int p0), (1, .int p1), (2, .int p2)], [.int (0 : Int32)], (o7.1 ++ R), 0, 0)) rfl ?_
        cases hq
        exact mB_ret odX6_isPoint rfl
      · rw [if_neg c9] at hq
        refine if_eq_F (t := 31) odX6_isPoint rfl rfl c9 ?_
        refine mB_run odX6_isPoint 2 (g := (32, [(0, .int p0), (1, .int p1), (2, .int p2)], [.int (1 : Int32)], (o7.1 ++ R), 0, 0)) rfl ?_
        cases hq
        exact mB_ret odX6_isPoint rfl
set_option maxHeartbeats 4000000 in
set_option maxRecDepth 100000 in
theorem eaX3_put {N : Nat} {R : mh} {p0 : Nat} {p1 : Int32} {p2 : Int32} {p3 : Int32} {h : mh} {o : mh} (hq : fxX3_put N p0 p1 p2 p3 h = some o) : mC mX3_put [.ref p0, .int p1, .int p2, .int p3] (h ++ R) (o ++ R, none) := by
  refine mC_of okX3_put (Nat.le_of_ble_eq_true rfl) ?_
  unfold fxX3_put at hq
  show mB _ mX3_put (0, [(0, .ref p0), (1, .int p1), (2, .int p2), (3, .int p3)], [], (h ++ R), 0, 0)
  refine mB_run odX3_put 1 (g := (1, [(0, .ref p0), (1, .int p1), (2, .int p2), (3, .int p3)], [.ref p0], (h ++ R), 0, 0)) rfl ?_
  obtain ⟨v1, e2, hq⟩ := bsm hq
  refine r_gI odX3_put rfl rfl (gI_ap e2) ?_
  refine mB_run odX3_put 1 (g := (5, [(0, .ref p0), (1, .int p1), (2, .int p2), (3, .int p3)], [.ref p0, .int v1], (h ++ R), 0, 0)) rfl ?_
  obtain ⟨v3, e4, hq⟩ := bsm hq
  refine r_gR odX3_put rfl rfl (gR_ap e4) ?_
  obtain ⟨v5, e6, hq⟩ := bsm hq
  refine r_aL odX3_put rfl (aL_ap e6) ?_
  by_cases c7 : v5 ≤ v1
  · rw [if_pos c7] at hq
    refine ic_ge_T (t := 52) odX3_put rfl rfl c7 ?_
    cases hq
    exact mB_ret odX3_put rfl
  · rw [if_neg c7] at hq
    refine ic_ge_F (t := 52) odX3_put rfl rfl c7 ?_
    refine mB_run odX3_put 1 (g := (13, [(0, .ref p0), (1, .int p1), (2, .int p2), (3, .int p3)], [.ref p0], (h ++ R), 0, 0)) rfl ?_
    obtain ⟨v8, e9, hq⟩ := bsm hq
    refine r_gR odX3_put rfl rfl (gR_ap e9) ?_
    refine mB_run odX3_put 1 (g := (17, [(0, .ref p0), (1, .int p1), (2, .int p2), (3, .int p3)], [.ref p0, .ref v8], (h ++ R), 0, 0)) rfl ?_
    obtain ⟨v10, e11, hq⟩ := bsm hq
    refine r_gI odX3_put rfl rfl (gI_ap e11) ?_
    refine mB_run odX3_put 1 (g := (21, [(0, .ref p0), (1, .int p1), (2, .int p2), (3, .int p3)], [.int p1, .int v10, .ref v8], (h ++ R), 0, 0)) rfl ?_
    obtain ⟨h12, e13, hq⟩ := bsm hq
    refine r_wI odX3_put rfl (wI_ap e13) ?_
    refine mB_run odX3_put 1 (g := (23, [(0, .ref p0), (1, .int p1), (2, .int p2), (3, .int p3)], [.ref p0], (h12 ++ R), 0, 0)) rfl ?_
    obtain ⟨v14, e15, hq⟩ := bsm hq
    refine r_gR odX3_put rfl rfl (gR_ap e15) ?_
    refine mB_run odX3_put 1 (g := (27, [(0, .ref p0), (1, .int p1), (2, .int p2), (3, .int p3)], [.ref p0, .ref v14], (h12 ++ R), 0, 0)) rfl ?_
    obtain ⟨v16, e17, hq⟩ := bsm hq
    refine r_gI odX3_put rfl rfl (gI_ap e17) ?_
    refine mB_run odX3_put 1 (g := (31, [(0, .ref p0), (1, .int p1), (2, .int p2), (3, .int p3)], [.int p2, .int v16, .ref v14], (h12 ++ R), 0, 0)) rfl ?_
    obtain ⟨h18, e19, hq⟩ := bsm hq
    refine r_wI odX3_put rfl (wI_ap e19) ?_
    refine mB_run odX3_put 1 (g := (33, [(0, .ref p0), (1, .int p1), (2, .int p2), (3, .int p3)], [.ref p0], (h18 ++ R), 0, 0)) rfl ?_
    obtain ⟨v20, e21, hq⟩ := bsm hq
    refine r_gR odX3_put rfl rfl (gR_ap e21) ?_
    refine mB_run odX3_put 1 (g := (37, [(0, .ref p0), (1, .int p1), (2, .int p2), (3, .int p3)], [.ref p0, .ref v20], (h18 ++ R), 0, 0)) rfl ?_
    obtain ⟨v22, e23, hq⟩ := bsm hq
    refine r_gI odX3_put rfl rfl (gI_ap e23) ?_
    refine mB_run odX3_put 1 (g := (41, [(0, .ref p0), (1, .int p1), (2, .int p2), (3, .int p3)], [.int p3, .int v22, .ref v20], (h18 ++ R), 0, 0)) rfl ?_
    obtain ⟨h24, e25, hq⟩ := bsm hq
    refine r_wI odX3_put rfl (wI_ap e25) ?_
    refine mB_run odX3_put 2 (g := (44, [(0, .ref p0), (1, .int p1), (2, .int p2), (3, .int p3)], [.ref p0, .ref p0], (h24 ++ R), 0, 0)) rfl ?_
    obtain ⟨v26, e27, hq⟩ := bsm hq
    refine r_gI odX3_put rfl rfl (gI_ap e27) ?_
    refine mB_run odX3_put 2 (g := (49, [(0, .ref p0), (1, .int p1), (2, .int p2), (3, .int p3)], [.int (v26 + (1 : Int32)), .ref p0], (h24 ++ R), 0, 0)) rfl ?_
    obtain ⟨h28, e29, hq⟩ := bsm hq
    refine r_sV odX3_put rfl rfl rfl rfl (sV_ap e29) ?_
    cases hq
    exact mB_ret odX3_put rfl
set_option maxHeartbeats 4000000 in
set_option maxRecDepth 100000 in
theorem eaX2_take_32 {N : Nat} {R : mh} (x0 : Nat) (h : mh) {o : mh} (hq : fxX2_take_32 N x0 h = some o) : mB (gO mX2_take (o ++ R, none)) mX2_take (32, [(0, .ref x0)], [], (h ++ R), 0, 0) := by
  unfold fxX2_take_32 at hq
  refine mB_run odX2_take 2 (g := (34, [(0, .ref x0)], [.ref x0, .ref x0], (h ++ R), 0, 0)) rfl ?_
  obtain ⟨v13, e14, hq⟩ := bsm hq
  refine r_gI odX2_take rfl rfl (gI_ap e14) ?_
  refine mB_run odX2_take 2 (g := (39, [(0, .ref x0)], [.int (v13 + (1 : Int32)), .ref x0], (h ++ R), 0, 0)) rfl ?_
  obtain ⟨h15, e16, hq⟩ := bsm hq
  refine r_sV odX2_take rfl rfl rfl rfl (sV_ap e16) ?_
  refine mB_run odX2_take 1 (g := (43, [(0, .ref x0)], [.ref x0], (h15 ++ R), 0, 0)) rfl ?_
  obtain ⟨v17, e18, hq⟩ := bsm hq
  refine r_gR odX2_take rfl rfl (gR_ap e18) ?_
  obtain ⟨v19, e20, hq⟩ := bsm hq
  refine r_gR odX2_take rfl rfl (gR_ap e20) ?_
  refine mB_run odX2_take 1 (g := (50, [(0, .ref x0)], [.ref x0, .ref v19], (h15 ++ R), 0, 0)) rfl ?_
  obtain ⟨v21, e22, hq⟩ := bsm hq
  refine r_gI odX2_take rfl rfl (gI_ap e22) ?_
  refine mB_run odX2_take 1 (g := (54, [(0, .ref x0)], [.ref x0, .int v21, .ref v19], (h15 ++ R), 0, 0)) rfl ?_
  obtain ⟨v23, e24, hq⟩ := bsm hq
  refine r_gI odX2_take rfl rfl (gI_ap e24) ?_
  refine mB_run odX2_take 1 (g := (58, [(0, .ref x0)], [.ref x0, .int v23, .int v21, .ref v19], (h15 ++ R), 0, 0)) rfl ?_
  obtain ⟨v25, e26, hq⟩ := bsm hq
  refine r_gI odX2_take rfl rfl (gI_ap e26) ?_
  obtain ⟨f29, k30, hq⟩ := bsm hq
  obtain ⟨o27, e28, hq⟩ := bsm hq
  refine mB_V (as := [.int v21, .int v23, .int v25]) odX2_take okX3_put lk_2_115 rfl (eaX3_put e28) (kO_at (kO_ap k30)) rfl rfl rfl ?_
  show mB _ mX2_take (64, [(0, .ref x0)], [], (o27 ++ R), 0, 0)
  cases hq
  exact mB_ret odX2_take rfl
set_option maxHeartbeats 4000000 in
set_option maxRecDepth 100000 in
theorem eaX2_take_27 {N : Nat} {R : mh} (x0 : Nat) (h : mh) {o : mh} (hq : fxX2_take_27 N x0 h = some o) : mB (gO mX2_take (o ++ R, none)) mX2_take (27, [(0, .ref x0)], [], (h ++ R), 0, 0) := by
  unfold fxX2_take_27 at hq
  refine mB_run odX2_take 2 (g := (29, [(0, .ref x0)], [.int (1 : Int32), .ref x0], (h ++ R), 0, 0)) rfl ?_
  obtain ⟨h31, e32, hq⟩ := bsm hq
  refine r_sV odX2_take rfl rfl rfl rfl (sV_ap e32) ?_
  refine mB_lv [0] (lv' := [(0, .ref x0)]) rfl ?_
  exact eaX2_take_32 _ _ hq
set_option maxHeartbeats 4000000 in
set_option maxRecDepth 100000 in
theorem eaX2_take {N : Nat} {R : mh} {p0 : Nat} {h : mh} {o : mh} (hq : fxX2_take N p0 h = some o) : mC mX2_take [.ref p0] (h ++ R) (o ++ R, none) := by
  refine mC_of okX2_take (Nat.le_of_ble_eq_true rfl) ?_
  unfold fxX2_take at hq
  show mB _ mX2_take (0, [(0, .ref p0)], [], (h ++ R), 0, 0)
  refine mB_run odX2_take 1 (g := (1, [(0, .ref p0)], [.ref p0], (h ++ R), 0, 0)) rfl ?_
  obtain ⟨v1, e2, hq⟩ := bsm hq
  refine r_gI odX2_take rfl rfl (gI_ap e2) ?_
  refine mB_run odX2_take 1 (g := (5, [(0, .ref p0)], [.ref p0, .int v1], (h ++ R), 0, 0)) rfl ?_
  obtain ⟨v3, e4, hq⟩ := bsm hq
  refine r_gI odX2_take rfl rfl (gI_ap e4) ?_
  refine mB_run odX2_take 1 (g := (9, [(0, .ref p0)], [.ref p0, .int v3, .int v1], (h ++ R), 0, 0)) rfl ?_
  obtain ⟨v5, e6, hq⟩ := bsm hq
  refine r_gI odX2_take rfl rfl (gI_ap e6) ?_
  obtain ⟨o7, e8, hq⟩ := bsm hq
  refine mB_NS (as := [.int v1, .int v3, .int v5]) odX2_take okX6_isPoint lk_2_111 rfl (eaX6_isPoint e8) rfl rfl rfl ?_
  show mB _ mX2_take (15, [(0, .ref p0)], [.int o7.2], (o7.1 ++ R), 0, 0)
  by_cases c9 : o7.2 = 0
  · rw [if_pos c9] at hq
    refine if_eq_T (t := 27) odX2_take rfl rfl c9 ?_
    refine mB_lv [0] (lv' := [(0, .ref p0)]) rfl ?_
    exact eaX2_take_27 _ _ hq
  · rw [if_neg c9] at hq
    refine if_eq_F (t := 27) odX2_take rfl rfl c9 ?_
    refine mB_run odX2_take 1 (g := (19, [(0, .ref p0)], [.ref p0], (o7.1 ++ R), 0, 0)) rfl ?_
    obtain ⟨v10, e11, hq⟩ := bsm hq
    refine r_gI odX2_take rfl rfl (gI_ap e11) ?_
    refine mB_run odX2_take 1 (g := (24, [(0, .ref p0)], [.int (24 : Int32), .int v10], (o7.1 ++ R), 0, 0)) rfl ?_
    by_cases c12 : v10 < (24 : Int32)
    · rw [if_pos c12] at hq
      refine ic_lt_T (t := 32) odX2_take rfl rfl c12 ?_
      refine mB_lv [0] (lv' := [(0, .ref p0)]) rfl ?_
      exact eaX2_take_32 _ _ hq
    · rw [if_neg c12] at hq
      refine ic_lt_F (t := 32) odX2_take rfl rfl c12 ?_
      refine mB_lv [0] (lv' := [(0, .ref p0)]) rfl ?_
      exact eaX2_take_27 _ _ hq
set_option maxHeartbeats 4000000 in
set_option maxRecDepth 100000 in
theorem eaX2_stepOff_74 {N : Nat} {R : mh} (x0 : Nat) (x3 : Int64) (x5 : Int64) (x7 : Int64) (x9 : Int64) (h : mh) {o : (mh × Int32)} (hq : fxX2_stepOff_74 N x0 x3 x5 x7 x9 h = some o) : mB (gO mX2_stepOff (o.1 ++ R, some (.int o.2))) mX2_stepOff (74, [(0, .ref x0), (3, .long x3), (5, .long x5), (7, .long x7), (9, .long x9)], [], (h ++ R), 0, 0) := by
  unfold fxX2_stepOff_74 at hq
  refine mB_run odX2_stepOff 2 (g := (76, [(0, .ref x0), (3, .long x3), (5, .long x5), (7, .long x7), (9, .long x9)], [.ref x0, .long x3], (h ++ R), 0, 0)) rfl ?_
  obtain ⟨v24, e25, hq⟩ := bsm hq
  refine r_gI odX2_stepOff rfl rfl (gI_ap e25) ?_
  refine mB_run odX2_stepOff 4 (g := (84, [(0, .ref x0), (3, .long x3), (5, .long x5), (7, .long x7), (9, .long x9)], [.ref x0, .long x5, .long (x3 * v24.toInt64)], (h ++ R), 0, 0)) rfl ?_
  obtain ⟨v26, e27, hq⟩ := bsm hq
  refine r_gI odX2_stepOff rfl rfl (gI_ap e27) ?_
  refine mB_run odX2_stepOff 5 (g := (93, [(0, .ref x0), (3, .long x3), (5, .long x5), (7, .long x7), (9, .long x9)], [.ref x0, .long x7, .long ((x3 * v24.toInt64) + (x5 * v26.toInt64))], (h ++ R), 0, 0)) rfl ?_
  obtain ⟨v28, e29, hq⟩ := bsm hq
  refine r_gI odX2_stepOff rfl rfl (gI_ap e29) ?_
  refine mB_run odX2_stepOff 4 (g := (101, [(0, .ref x0), (3, .long x3), (5, .long x5), (7, .long x7), (9, .long x9)], [.long x9, .long (((x3 * v24.toInt64) + (x5 * v26.toInt64)) + (x7 * v28.toInt64))], (h ++ R), 0, 0)) rfl ?_
  by_cases c30 : (((x3 * v24.toInt64) + (x5 * v26.toInt64)) + (x7 * v28.toInt64)) = x9
  · rw [if_pos c30] at hq
    refine lc_ne_F (t := 107) odX2_stepOff rfl rfl rfl c30 ?_
    refine mB_run odX2_stepOff 1 (g := (106, [(0, .ref x0), (3, .long x3), (5, .long x5), (7, .long x7), (9, .long x9)], [.int (0 : Int32)], (h ++ R), 0, 0)) rfl ?_
    cases hq
    exact mB_ret odX2_stepOff rfl
  · rw [if_neg c30] at hq
    refine lc_ne_T (t := 107) odX2_stepOff rfl rfl rfl c30 ?_
    refine mB_run odX2_stepOff 1 (g := (108, [(0, .ref x0), (3, .long x3), (5, .long x5), (7, .long x7), (9, .long x9)], [.ref x0], (h ++ R), 0, 0)) rfl ?_
    obtain ⟨f33, k34, hq⟩ := bsm hq
    obtain ⟨o31, e32, hq⟩ := bsm hq
    refine mB_V (as := []) odX2_stepOff okX2_take lk_2_77 rfl (eaX2_take e32) (kO_at (kO_ap k34)) rfl rfl rfl ?_
    show mB _ mX2_stepOff (111, [(0, .ref x0), (3, .long x3), (5, .long x5), (7, .long x7), (9, .long x9)], [], (o31 ++ R), 0, 0)
    refine mB_run odX2_stepOff 1 (g := (112, [(0, .ref x0), (3, .long x3), (5, .long x5), (7, .long x7), (9, .long x9)], [.int (1 : Int32)], (o31 ++ R), 0, 0)) rfl ?_
    cases hq
    exact mB_ret odX2_stepOff rfl
set_option maxHeartbeats 4000000 in
set_option maxRecDepth 100000 in
theorem eaX2_stepOff {N : Nat} {R : mh} {p0 : Nat} {p1 : Nat} {p2 : Nat} {p3 : Int64} {p4 : Int64} {p5 : Int64} {h : mh} {o : (mh × Int32)} (hq : fxX2_stepOff N p0 p1 p2 p3 p4 p5 h = some o) : mC mX2_stepOff [.ref p0, .ref p1, .ref p2, .long p3, .long p4, .long p5] (h ++ R) (o.1 ++ R, some (.int o.2)) := by
  refine mC_of okX2_stepOff (Nat.le_of_ble_eq_true rfl) ?_
  unfold fxX2_stepOff at hq
  show mB _ mX2_stepOff (0, [(0, .ref p0), (1, .ref p1), (2, .ref p2), (3, .long p3), (5, .long p4), (7, .long p5)], [], (h ++ R), 0, 0)
  refine mB_run odX2_stepOff 1 (g := (1, [(0, .ref p0), (1, .ref p1), (2, .ref p2), (3, .long p3), (5, .long p4), (7, .long p5)], [.ref p0], (h ++ R), 0, 0)) rfl ?_
  obtain ⟨v1, e2, hq⟩ := bsm hq
  refine r_gR odX2_stepOff rfl rfl (gR_ap e2) ?_
  obtain ⟨v3, e4, hq⟩ := bsm hq
  refine r_gR odX2_stepOff rfl rfl (gR_ap e4) ?_
  refine mB_run odX2_stepOff 4 (g := (13, [(0, .ref p0), (1, .ref p1), (2, .ref p2), (3, .long p3), (5, .long p4), (7, .long p5)], [.long p5, .long p4, .long p3, .int (0 : Int32), .ref v3], (h ++ R), 0, 0)) rfl ?_
  obtain ⟨f7, k8, hq⟩ := bsm hq
  obtain ⟨o5, e6, hq⟩ := bsm hq
  refine mB_V (as := [.int (0 : Int32), .long p3, .long p4, .long p5]) odX2_stepOff okX3_along lk_2_103 rfl (eaX3_along e6) (kO_at (kO_ap k8)) rfl rfl rfl ?_
  show mB _ mX2_stepOff (16, [(0, .ref p0), (1, .ref p1), (2, .ref p2), (3, .long p3), (5, .long p4), (7, .long p5)], [.long o5.2], (o5.1 ++ R), 0, 0)
  refine mB_run odX2_stepOff 7 (g := (26, [(9, .long o5.2), (0, .ref p0), (1, .ref p1), (2, .ref p2), (3, .long p3), (5, .long p4), (7, .long p5)], [.long p5, .long p4, .long p3, .ref p2, .ref p1, .ref p0], (o5.1 ++ R), 0, 0)) rfl ?_
  obtain ⟨f11, k12, hq⟩ := bsm hq
  obtain ⟨o9, e10, hq⟩ := bsm hq
  refine mB_V (as := [.ref p1, .ref p2, .long p3, .long p4, .long p5]) odX2_stepOff okX2_seek lk_2_73 rfl (eaX2_seek e10) (kO_at (kO_ap k12)) rfl rfl rfl ?_
  show mB _ mX2_stepOff (29, [(9, .long o5.2), (0, .ref p0), (1, .ref p1), (2, .ref p2), (3, .long p3), (5, .long p4), (7, .long p5)], [], (o9 ++ R), 0, 0)
  refine mB_run odX2_stepOff 2 (g := (31, [(9, .long o5.2), (0, .ref p0), (1, .ref p1), (2, .ref p2), (3, .long p3), (5, .long p4), (7, .long p5)], [.ref p0, .long p3], (o9 ++ R), 0, 0)) rfl ?_
  obtain ⟨v13, e14, hq⟩ := bsm hq
  refine r_gI odX2_stepOff rfl rfl (gI_ap e14) ?_
  refine mB_run odX2_stepOff 4 (g := (39, [(9, .long o5.2), (0, .ref p0), (1, .ref p1), (2, .ref p2), (3, .long p3), (5, .long p4), (7, .long p5)], [.ref p0, .long p4, .long (p3 * v13.toInt64)], (o9 ++ R), 0, 0)) rfl ?_
  obtain ⟨v15, e16, hq⟩ := bsm hq
  refine r_gI odX2_stepOff rfl rfl (gI_ap e16) ?_
  refine mB_run odX2_stepOff 5 (g := (48, [(9, .long o5.2), (0, .ref p0), (1, .ref p1), (2, .ref p2), (3, .long p3), (5, .long p4), (7, .long p5)], [.ref p0, .long p5, .long ((p3 * v13.toInt64) + (p4 * v15.toInt64))], (o9 ++ R), 0, 0)) rfl ?_
  obtain ⟨v17, e18, hq⟩ := bsm hq
  refine r_gI odX2_stepOff rfl rfl (gI_ap e18) ?_
  refine mB_run odX2_stepOff 4 (g := (56, [(9, .long o5.2), (0, .ref p0), (1, .ref p1), (2, .ref p2), (3, .long p3), (5, .long p4), (7, .long p5)], [.long o5.2, .long (((p3 * v13.toInt64) + (p4 * v15.toInt64)) + (p5 * v17.toInt64))], (o9 ++ R), 0, 0)) rfl ?_
  by_cases c19 : (((p3 * v13.toInt64) + (p4 * v15.toInt64)) + (p5 * v17.toInt64)) = o5.2
  · rw [if_pos c19] at hq
    refine lc_ne_F (t := 74) odX2_stepOff rfl rfl rfl c19 ?_
    refine mB_run odX2_stepOff 9 (g := (71, [(9, .long o5.2), (0, .ref p0), (1, .ref p1), (2, .ref p2), (3, .long p3), (5, .long p4), (7, .long p5)], [.long (-p5), .long (-p4), .long (-p3), .ref p2, .ref p1, .ref p0], (o9 ++ R), 0, 0)) rfl ?_
    obtain ⟨f22, k23, hq⟩ := bsm hq
    obtain ⟨o20, e21, hq⟩ := bsm hq
    refine mB_V (as := [.ref p1, .ref p2, .long (-p3), .long (-p4), .long (-p5)]) odX2_stepOff okX2_seek lk_2_73 rfl (eaX2_seek e21) (kO_at (kO_ap k23)) rfl rfl rfl ?_
    show mB _ mX2_stepOff (74, [(9, .long o5.2), (0, .ref p0), (1, .ref p1), (2, .ref p2), (3, .long p3), (5, .long p4), (7, .long p5)], [], (o20 ++ R), 0, 0)
    refine mB_lv [1, 4, 5, 6, 0] (lv' := [(0, .ref p0), (3, .long p3), (5, .long p4), (7, .long p5), (9, .long o5.2)]) rfl ?_
    exact eaX2_stepOff_74 _ _ _ _ _ _ hq
  · rw [if_neg c19] at hq
    refine lc_ne_T (t := 74) odX2_stepOff rfl rfl rfl c19 ?_
    refine mB_lv [1, 4, 5, 6, 0] (lv' := [(0, .ref p0), (3, .long p3), (5, .long p4), (7, .long p5), (9, .long o5.2)]) rfl ?_
    exact eaX2_stepOff_74 _ _ _ _ _ _ hq
set_option maxHeartbeats 4000000 in
set_option maxRecDepth 100000 in
theorem eaX2_spread_192 {N : Nat} {R : mh} (s0 : Int32) (h : mh) {o : (mh × Int32)} (hq : fxX2_spread_192 N s0 h = some o) : mB (gO mX2_spread (o.1 ++ R, some (.int o.2))) mX2_spread (192, [], [.int s0], (h ++ R), 0, 0) := by
  unfold fxX2_spread_192 at hq
  refine mB_run odX2_spread 2 (g := (196, [(7, .int s0)], [.int s0], (h ++ R), 0, 0)) rfl ?_
  by_cases c84 : s0 = 0
  · rw [if_pos c84] at hq
    refine if_eq_T (t := 203) odX2_spread rfl rfl c84 ?_
    refine mB_run odX2_spread 1 (g := (204, [(7, .int s0)], [.int (4 : Int32)], (h ++ R), 0, 0)) rfl ?_
    cases hq
    exact mB_ret odX2_spread rfl
  · rw [if_neg c84] at hq
    refine if_eq_F (t := 203) odX2_spread rfl rfl c84 ?_
    refine mB_run odX2_spread 2 (g := (204, [(7, .int s0)], [.int (3 : Int32)], (h ++ R), 0, 0)) rfl ?_
    cases hq
    exact mB_ret odX2_spread rfl
set_option maxHeartbeats 4000000 in
set_option maxRecDepth 100000 in
theorem eaX2_spread_157 {N : Nat} {R : mh} (x0 : Nat) (x1 : Nat) (x2 : Nat) (x3 : Nat) (h : mh) {o : (mh × Int32)} (hq : fxX2_spread_157 N x0 x1 x2 x3 h = some o) : mB (gO mX2_spread (o.1 ++ R, some (.int o.2))) mX2_spread (157, [(0, .ref x0), (1, .ref x1), (2, .ref x2), (3, .ref x3)], [], (h ++ R), 0, 0) := by
  unfold fxX2_spread_157 at hq
  refine mB_run odX2_spread 7 (g := (164, [(0, .ref x0), (1, .ref x1), (2, .ref x2), (3, .ref x3)], [.int (2 : Int32), .int (1 : Int32), .int (0 : Int32), .ref x3, .ref x2, .ref x1, .ref x0], (h ++ R), 0, 0)) rfl ?_
  obtain ⟨f69, k70, hq⟩ := bsm hq
  obtain ⟨o67, e68, hq⟩ := bsm hq
  refine mB_V (as := [.int (0 : Int32), .int (1 : Int32), .int (2 : Int32)]) odX2_spread okX3_acrossX lk_2_93 rfl (eaX3_acrossX e68) (kO_at (kO_ap k70)) rfl rfl rfl ?_
  show mB _ mX2_spread (167, [(0, .ref x0), (1, .ref x1), (2, .ref x2), (3, .ref x3)], [.long o67.2, .ref x2, .ref x1, .ref x0], (o67.1 ++ R), 0, 0)
  refine mB_run odX2_spread 4 (g := (171, [(0, .ref x0), (1, .ref x1), (2, .ref x2), (3, .ref x3)], [.int (2 : Int32), .int (1 : Int32), .int (0 : Int32), .ref x3, .long o67.2, .ref x2, .ref x1, .ref x0], (o67.1 ++ R), 0, 0)) rfl ?_
  obtain ⟨f73, k74, hq⟩ := bsm hq
  obtain ⟨o71, e72, hq⟩ := bsm hq
  refine mB_V (as := [.int (0 : Int32), .int (1 : Int32), .int (2 : Int32)]) odX2_spread okX3_acrossY lk_2_97 rfl (eaX3_acrossY e72) (kO_at (kO_ap k74)) rfl rfl rfl ?_
  show mB _ mX2_spread (174, [(0, .ref x0), (1, .ref x1), (2, .ref x2), (3, .ref x3)], [.long o71.2, .long o67.2, .ref x2, .ref x1, .ref x0], (o71.1 ++ R), 0, 0)
  refine mB_run odX2_spread 4 (g := (178, [(0, .ref x0), (1, .ref x1), (2, .ref x2), (3, .ref x3)], [.int (2 : Int32), .int (1 : Int32), .int (0 : Int32), .ref x3, .long o71.2, .long o67.2, .ref x2, .ref x1, .ref x0], (o71.1 ++ R), 0, 0)) rfl ?_
  obtain ⟨f77, k78, hq⟩ := bsm hq
  obtain ⟨o75, e76, hq⟩ := bsm hq
  refine mB_V (as := [.int (0 : Int32), .int (1 : Int32), .int (2 : Int32)]) odX2_spread okX3_acrossZ lk_2_100 rfl (eaX3_acrossZ e76) (kO_at (kO_ap k78)) rfl rfl rfl ?_
  show mB _ mX2_spread (181, [(0, .ref x0), (1, .ref x1), (2, .ref x2), (3, .ref x3)], [.long o75.2, .long o71.2, .long o67.2, .ref x2, .ref x1, .ref x0], (o75.1 ++ R), 0, 0)
  obtain ⟨f81, k82, hq⟩ := bsm hq
  obtain ⟨o79, e80, hq⟩ := bsm hq
  refine mB_V (as := [.ref x1, .ref x2, .long o67.2, .long o71.2, .long o75.2]) odX2_spread okX2_stepOff lk_2_80 rfl (eaX2_stepOff e80) (kO_at (kO_ap k82)) rfl rfl rfl ?_
  show mB _ mX2_spread (184, [(0, .ref x0), (1, .ref x1), (2, .ref x2), (3, .ref x3)], [.int o79.2], (o79.1 ++ R), 0, 0)
  by_cases c83 : o79.2 = 0
  · rw [if_pos c83] at hq
    refine if_ne_F (t := 191) odX2_spread rfl rfl c83 ?_
    refine mB_run odX2_spread 2 (g := (192, [(0, .ref x0), (1, .ref x1), (2, .ref x2), (3, .ref x3)], [.int (1 : Int32)], (o79.1 ++ R), 0, 0)) rfl ?_
    refine mB_lv [] (lv' := []) rfl ?_
    exact eaX2_spread_192 _ _ hq
  · rw [if_neg c83] at hq
    refine if_ne_T (t := 191) odX2_spread rfl rfl c83 ?_
    refine mB_run odX2_spread 1 (g := (192, [(0, .ref x0), (1, .ref x1), (2, .ref x2), (3, .ref x3)], [.int (0 : Int32)], (o79.1 ++ R), 0, 0)) rfl ?_
    refine mB_lv [] (lv' := []) rfl ?_
    exact eaX2_spread_192 _ _ hq
set_option maxHeartbeats 4000000 in
set_option maxRecDepth 100000 in
theorem eaX2_spread_59 {N : Nat} {R : mh} (x0 : Nat) (x1 : Nat) (x2 : Nat) (x3 : Nat) (h : mh) {o : (mh × Int32)} (hq : fxX2_spread_59 N x0 x1 x2 x3 h = some o) : mB (gO mX2_spread (o.1 ++ R, some (.int o.2))) mX2_spread (59, [(0, .ref x0), (1, .ref x1), (2, .ref x2), (3, .ref x3)], [], (h ++ R), 0, 0) := by
  unfold fxX2_spread_59 at hq
  refine mB_run odX2_spread 1 (g := (60, [(0, .ref x0), (1, .ref x1), (2, .ref x2), (3, .ref x3)], [.ref x3], (h ++ R), 0, 0)) rfl ?_
  obtain ⟨v28, e29, hq⟩ := bsm hq
  refine r_gR odX2_spread rfl rfl (gR_ap e29) ?_
  refine mB_run odX2_spread 1 (g := (64, [(0, .ref x0), (1, .ref x1), (2, .ref x2), (3, .ref x3)], [.int (1 : Int32), .ref v28], (h ++ R), 0, 0)) rfl ?_
  obtain ⟨v30, e31, hq⟩ := bsm hq
  refine r_aI odX2_spread rfl (aI_ap e31) ?_
  refine mB_run odX2_spread 1 (g := (66, [(0, .ref x0), (1, .ref x1), (2, .ref x2), (3, .ref x3)], [.ref x3, .int v30], (h ++ R), 0, 0)) rfl ?_
  obtain ⟨v32, e33, hq⟩ := bsm hq
  refine r_gR odX2_spread rfl rfl (gR_ap e33) ?_
  refine mB_run odX2_spread 1 (g := (70, [(0, .ref x0), (1, .ref x1), (2, .ref x2), (3, .ref x3)], [.int (0 : Int32), .ref v32, .int v30], (h ++ R), 0, 0)) rfl ?_
  obtain ⟨v34, e35, hq⟩ := bsm hq
  refine r_aI odX2_spread rfl (aI_ap e35) ?_
  refine mB_run odX2_spread 3 (g := (75, [(4, .int (v30 - v34)), (0, .ref x0), (1, .ref x1), (2, .ref x2), (3, .ref x3)], [.ref x3], (h ++ R), 0, 0)) rfl ?_
  obtain ⟨v36, e37, hq⟩ := bsm hq
  refine r_gR odX2_spread rfl rfl (gR_ap e37) ?_
  refine mB_run odX2_spread 1 (g := (79, [(4, .int (v30 - v34)), (0, .ref x0), (1, .ref x1), (2, .ref x2), (3, .ref x3)], [.int (1 : Int32), .ref v36], (h ++ R), 0, 0)) rfl ?_
  obtain ⟨v38, e39, hq⟩ := bsm hq
  refine r_aI odX2_spread rfl (aI_ap e39) ?_
  refine mB_run odX2_spread 1 (g := (81, [(4, .int (v30 - v34)), (0, .ref x0), (1, .ref x1), (2, .ref x2), (3, .ref x3)], [.ref x3, .int v38], (h ++ R), 0, 0)) rfl ?_
  obtain ⟨v40, e41, hq⟩ := bsm hq
  refine r_gR odX2_spread rfl rfl (gR_ap e41) ?_
  refine mB_run odX2_spread 1 (g := (85, [(4, .int (v30 - v34)), (0, .ref x0), (1, .ref x1), (2, .ref x2), (3, .ref x3)], [.int (0 : Int32), .ref v40, .int v38], (h ++ R), 0, 0)) rfl ?_
  obtain ⟨v42, e43, hq⟩ := bsm hq
  refine r_aI odX2_spread rfl (aI_ap e43) ?_
  refine mB_run odX2_spread 3 (g := (90, [(5, .int (v38 - v42)), (4, .int (v30 - v34)), (0, .ref x0), (1, .ref x1), (2, .ref x2), (3, .ref x3)], [.ref x3], (h ++ R), 0, 0)) rfl ?_
  obtain ⟨v44, e45, hq⟩ := bsm hq
  refine r_gR odX2_spread rfl rfl (gR_ap e45) ?_
  refine mB_run odX2_spread 1 (g := (94, [(5, .int (v38 - v42)), (4, .int (v30 - v34)), (0, .ref x0), (1, .ref x1), (2, .ref x2), (3, .ref x3)], [.int (1 : Int32), .ref v44], (h ++ R), 0, 0)) rfl ?_
  obtain ⟨v46, e47, hq⟩ := bsm hq
  refine r_aI odX2_spread rfl (aI_ap e47) ?_
  refine mB_run odX2_spread 1 (g := (96, [(5, .int (v38 - v42)), (4, .int (v30 - v34)), (0, .ref x0), (1, .ref x1), (2, .ref x2), (3, .ref x3)], [.ref x3, .int v46], (h ++ R), 0, 0)) rfl ?_
  obtain ⟨v48, e49, hq⟩ := bsm hq
  refine r_gR odX2_spread rfl rfl (gR_ap e49) ?_
  refine mB_run odX2_spread 1 (g := (100, [(5, .int (v38 - v42)), (4, .int (v30 - v34)), (0, .ref x0), (1, .ref x1), (2, .ref x2), (3, .ref x3)], [.int (0 : Int32), .ref v48, .int v46], (h ++ R), 0, 0)) rfl ?_
  obtain ⟨v50, e51, hq⟩ := bsm hq
  refine r_aI odX2_spread rfl (aI_ap e51) ?_
  refine mB_run odX2_spread 11 (g := (115, [(6, .int (v46 - v50)), (5, .int (v38 - v42)), (4, .int (v30 - v34)), (0, .ref x0), (1, .ref x1), (2, .ref x2), (3, .ref x3)], [.long (-(v38 - v42)).toInt64, .long (v46 - v50).toInt64, .long (0 : Int64), .ref x2, .ref x1, .ref x0], (h ++ R), 0, 0)) rfl ?_
  obtain ⟨f54, k55, hq⟩ := bsm hq
  obtain ⟨o52, e53, hq⟩ := bsm hq
  refine mB_V (as := [.ref x1, .ref x2, .long (0 : Int64), .long (v46 - v50).toInt64, .long (-(v38 - v42)).toInt64]) odX2_spread okX2_stepOff lk_2_80 rfl (eaX2_stepOff e53) (kO_at (kO_ap k55)) rfl rfl rfl ?_
  show mB _ mX2_spread (118, [(6, .int (v46 - v50)), (5, .int (v38 - v42)), (4, .int (v30 - v34)), (0, .ref x0), (1, .ref x1), (2, .ref x2), (3, .ref x3)], [.int o52.2], (o52.1 ++ R), 0, 0)
  by_cases c56 : o52.2 = 0
  · rw [if_pos c56] at hq
    refine if_ne_F (t := 157) odX2_spread rfl rfl c56 ?_
    refine mB_run odX2_spread 9 (g := (132, [(6, .int (v46 - v50)), (5, .int (v38 - v42)), (4, .int (v30 - v34)), (0, .ref x0), (1, .ref x1), (2, .ref x2), (3, .ref x3)], [.long (v30 - v34).toInt64, .long (0 : Int64), .long (-(v46 - v50)).toInt64, .ref x2, .ref x1, .ref x0], (o52.1 ++ R), 0, 0)) rfl ?_
    obtain ⟨f59, k60, hq⟩ := bsm hq
    obtain ⟨o57, e58, hq⟩ := bsm hq
    refine mB_V (as := [.ref x1, .ref x2, .long (-(v46 - v50)).toInt64, .long (0 : Int64), .long (v30 - v34).toInt64]) odX2_spread okX2_stepOff lk_2_80 rfl (eaX2_stepOff e58) (kO_at (kO_ap k60)) rfl rfl rfl ?_
    show mB _ mX2_spread (135, [(6, .int (v46 - v50)), (5, .int (v38 - v42)), (4, .int (v30 - v34)), (0, .ref x0), (1, .ref x1), (2, .ref x2), (3, .ref x3)], [.int o57.2], (o57.1 ++ R), 0, 0)
    by_cases c61 : o57.2 = 0
    · rw [if_pos c61] at hq
      refine if_ne_F (t := 157) odX2_spread rfl rfl c61 ?_
      refine mB_run odX2_spread 9 (g := (149, [(6, .int (v46 - v50)), (5, .int (v38 - v42)), (4, .int (v30 - v34)), (0, .ref x0), (1, .ref x1), (2, .ref x2), (3, .ref x3)], [.long (0 : Int64), .long (-(v30 - v34)).toInt64, .long (v38 - v42).toInt64, .ref x2, .ref x1, .ref x0], (o57.1 ++ R), 0, 0)) rfl ?_
      obtain ⟨f64, k65, hq⟩ := bsm hq
      obtain ⟨o62, e63, hq⟩ := bsm hq
      refine mB_V (as := [.ref x1, .ref x2, .long (v38 - v42).toInt64, .long (-(v30 - v34)).toInt64, .long (0 : Int64)]) odX2_spread okX2_stepOff lk_2_80 rfl (eaX2_stepOff e63) (kO_at (kO_ap k65)) rfl rfl rfl ?_
      show mB _ mX2_spread (152, [(6, .int (v46 - v50)), (5, .int (v38 - v42)), (4, .int (v30 - v34)), (0, .ref x0), (1, .ref x1), (2, .ref x2), (3, .ref x3)], [.int o62.2], (o62.1 ++ R), 0, 0)
      by_cases c66 : o62.2 = 0
      · rw [if_pos c66] at hq
        refine if_ne_F (t := 157) odX2_spread rfl rfl c66 ?_
        refine mB_run odX2_spread 1 (g := (156, [(6, .int (v46 - v50)), (5, .int (v38 - v42)), (4, .int (v30 - v34)), (0, .ref x0), (1, .ref x1), (2, .ref x2), (3, .ref x3)], [.int (2 : Int32)], (o62.1 ++ R), 0, 0)) rfl ?_
        cases hq
        exact mB_ret odX2_spread rfl
      · rw [if_neg c66] at hq
        refine if_ne_T (t := 157) odX2_spread rfl rfl c66 ?_
        refine mB_lv [3, 4, 5, 6] (lv' := [(0, .ref x0), (1, .ref x1), (2, .ref x2), (3, .ref x3)]) rfl ?_
        exact eaX2_spread_157 _ _ _ _ _ hq
    · rw [if_neg c61] at hq
      refine if_ne_T (t := 157) odX2_spread rfl rfl c61 ?_
      refine mB_lv [3, 4, 5, 6] (lv' := [(0, .ref x0), (1, .ref x1), (2, .ref x2), (3, .ref x3)]) rfl ?_
      exact eaX2_spread_157 _ _ _ _ _ hq
  · rw [if_neg c56] at hq
    refine if_ne_T (t := 157) odX2_spread rfl rfl c56 ?_
    refine mB_lv [3, 4, 5, 6] (lv' := [(0, .ref x0), (1, .ref x1), (2, .ref x2), (3, .ref x3)]) rfl ?_
    exact eaX2_spread_157 _ _ _ _ _ hq
set_option maxHeartbeats 4000000 in
set_option maxRecDepth 100000 in
theorem eaX2_spread {N : Nat} {R : mh} {p0 : Nat} {p1 : Nat} {p2 : Nat} {h : mh} {o : (mh × Int32)} (hq : fxX2_spread N p0 p1 p2 h = some o) : mC mX2_spread [.ref p0, .ref p1, .ref p2] (h ++ R) (o.1 ++ R, some (.int o.2)) := by
  refine mC_of okX2_spread (Nat.le_of_ble_eq_true rfl) ?_
  unfold fxX2_spread at hq
  show mB _ mX2_spread (0, [(0, .ref p0), (1, .ref p1), (2, .ref p2)], [], (h ++ R), 0, 0)
  refine mB_run odX2_spread 1 (g := (1, [(0, .ref p0), (1, .ref p1), (2, .ref p2)], [.ref p0], (h ++ R), 0, 0)) rfl ?_
  obtain ⟨v1, e2, hq⟩ := bsm hq
  refine r_gR odX2_spread rfl rfl (gR_ap e2) ?_
  obtain ⟨v3, e4, hq⟩ := bsm hq
  refine r_gR odX2_spread rfl rfl (gR_ap e4) ?_
  refine mB_run odX2_spread 7 (g := (14, [(3, .ref v3), (0, .ref p0), (1, .ref p1), (2, .ref p2)], [.long (0 : Int64), .long (0 : Int64), .long (0 : Int64), .ref p2, .ref p1, .ref p0], (h ++ R), 0, 0)) rfl ?_
  obtain ⟨f7, k8, hq⟩ := bsm hq
  obtain ⟨o5, e6, hq⟩ := bsm hq
  refine mB_V (as := [.ref p1, .ref p2, .long (0 : Int64), .long (0 : Int64), .long (0 : Int64)]) odX2_spread okX2_seek lk_2_73 rfl (eaX2_seek e6) (kO_at (kO_ap k8)) rfl rfl rfl ?_
  show mB _ mX2_spread (17, [(3, .ref v3), (0, .ref p0), (1, .ref p1), (2, .ref p2)], [], (o5 ++ R), 0, 0)
  refine mB_run odX2_spread 1 (g := (18, [(3, .ref v3), (0, .ref p0), (1, .ref p1), (2, .ref p2)], [.ref p0], (o5 ++ R), 0, 0)) rfl ?_
  obtain ⟨f11, k12, hq⟩ := bsm hq
  obtain ⟨o9, e10, hq⟩ := bsm hq
  refine mB_V (as := []) odX2_spread okX2_take lk_2_77 rfl (eaX2_take e10) (kO_at (kO_ap k12)) rfl rfl rfl ?_
  show mB _ mX2_spread (21, [(3, .ref v3), (0, .ref p0), (1, .ref p1), (2, .ref p2)], [], (o9 ++ R), 0, 0)
  refine mB_run odX2_spread 6 (g := (27, [(3, .ref v3), (0, .ref p0), (1, .ref p1), (2, .ref p2)], [.long (0 : Int64), .long (0 : Int64), .long (1 : Int64), .ref p2, .ref p1, .ref p0], (o9 ++ R), 0, 0)) rfl ?_
  obtain ⟨f15, k16, hq⟩ := bsm hq
  obtain ⟨o13, e14, hq⟩ := bsm hq
  refine mB_V (as := [.ref p1, .ref p2, .long (1 : Int64), .long (0 : Int64), .long (0 : Int64)]) odX2_spread okX2_stepOff lk_2_80 rfl (eaX2_stepOff e14) (kO_at (kO_ap k16)) rfl rfl rfl ?_
  show mB _ mX2_spread (30, [(3, .ref v3), (0, .ref p0), (1, .ref p1), (2, .ref p2)], [.int o13.2], (o13.1 ++ R), 0, 0)
  by_cases c17 : o13.2 = 0
  · rw [if_pos c17] at hq
    refine if_ne_F (t := 59) odX2_spread rfl rfl c17 ?_
    refine mB_run odX2_spread 6 (g := (39, [(3, .ref v3), (0, .ref p0), (1, .ref p1), (2, .ref p2)], [.long (0 : Int64), .long (1 : Int64), .long (0 : Int64), .ref p2, .ref p1, .ref p0], (o13.1 ++ R), 0, 0)) rfl ?_
    obtain ⟨f20, k21, hq⟩ := bsm hq
    obtain ⟨o18, e19, hq⟩ := bsm hq
    refine mB_V (as := [.ref p1, .ref p2, .long (0 : Int64), .long (1 : Int64), .long (0 : Int64)]) odX2_spread okX2_stepOff lk_2_80 rfl (eaX2_stepOff e19) (kO_at (kO_ap k21)) rfl rfl rfl ?_
    show mB _ mX2_spread (42, [(3, .ref v3), (0, .ref p0), (1, .ref p1), (2, .ref p2)], [.int o18.2], (o18.1 ++ R), 0, 0)
    by_cases c22 : o18.2 = 0
    · rw [if_pos c22] at hq
      refine if_ne_F (t := 59) odX2_spread rfl rfl c22 ?_
      refine mB_run odX2_spread 6 (g := (51, [(3, .ref v3), (0, .ref p0), (1, .ref p1), (2, .ref p2)], [.long (1 : Int64), .long (0 : Int64), .long (0 : Int64), .ref p2, .ref p1, .ref p0], (o18.1 ++ R), 0, 0)) rfl ?_
      obtain ⟨f25, k26, hq⟩ := bsm hq
      obtain ⟨o23, e24, hq⟩ := bsm hq
      refine mB_V (as := [.ref p1, .ref p2, .long (0 : Int64), .long (0 : Int64), .long (1 : Int64)]) odX2_spread okX2_stepOff lk_2_80 rfl (eaX2_stepOff e24) (kO_at (kO_ap k26)) rfl rfl rfl ?_
      show mB _ mX2_spread (54, [(3, .ref v3), (0, .ref p0), (1, .ref p1), (2, .ref p2)], [.int o23.2], (o23.1 ++ R), 0, 0)
      by_cases c27 : o23.2 = 0
      · rw [if_pos c27] at hq
        refine if_ne_F (t := 59) odX2_spread rfl rfl c27 ?_
        refine mB_run odX2_spread 1 (g := (58, [(3, .ref v3), (0, .ref p0), (1, .ref p1), (2, .ref p2)], [.int (1 : Int32)], (o23.1 ++ R), 0, 0)) rfl ?_
        cases hq
        exact mB_ret odX2_spread rfl
      · rw [if_neg c27] at hq
        refine if_ne_T (t := 59) odX2_spread rfl rfl c27 ?_
        refine mB_lv [1, 2, 3, 0] (lv' := [(0, .ref p0), (1, .ref p1), (2, .ref p2), (3, .ref v3)]) rfl ?_
        exact eaX2_spread_59 _ _ _ _ _ hq
    · rw [if_neg c22] at hq
      refine if_ne_T (t := 59) odX2_spread rfl rfl c22 ?_
      refine mB_lv [1, 2, 3, 0] (lv' := [(0, .ref p0), (1, .ref p1), (2, .ref p2), (3, .ref v3)]) rfl ?_
      exact eaX2_spread_59 _ _ _ _ _ hq
  · rw [if_neg c17] at hq
    refine if_ne_T (t := 59) odX2_spread rfl rfl c17 ?_
    refine mB_lv [1, 2, 3, 0] (lv' := [(0, .ref p0), (1, .ref p1), (2, .ref p2), (3, .ref v3)]) rfl ?_
    exact eaX2_spread_59 _ _ _ _ _ hq
