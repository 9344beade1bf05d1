def fxX1_stepToPlane (N : Nat) (p0 : Nat) (p1 : Int32) (p2 : Int32) (p3 : Int32) (h : mh) : Option (mh × Int32) :=
  (kO h p0 1).bind fun f3 =>
  (fxX1_crossX N p0 p1 p2 h).bind fun o1 =>
  (kO o1.1 p0 1).bind fun f7 =>
  (fxX1_crossX N p0 p2 p3 o1.1).bind fun o5 =>
  (kO o5.1 p0 1).bind fun f11 =>
  (fxX1_crossX N p0 p3 p1 o5.1).bind fun o9 =>
  (sV o9.1 p0 1 7 (.long ((o1.2 + o5.2) + o9.2))).bind fun h13 =>
  (kO h13 p0 1).bind fun f17 =>
  (fxX1_crossY N p0 p1 p2 h13).bind fun o15 =>
  (kO o15.1 p0 1).bind fun f21 =>
  (fxX1_crossY N p0 p2 p3 o15.1).bind fun o19 =>
  (kO o19.1 p0 1).bind fun f25 =>
  (fxX1_crossY N p0 p3 p1 o19.1).bind fun o23 =>
  (sV o23.1 p0 1 8 (.long ((o15.2 + o19.2) + o23.2))).bind fun h27 =>
  (kO h27 p0 1).bind fun f31 =>
  (fxX1_crossZ N p0 p1 p2 h27).bind fun o29 =>
  (kO o29.1 p0 1).bind fun f35 =>
  (fxX1_crossZ N p0 p2 p3 o29.1).bind fun o33 =>
  (kO o33.1 p0 1).bind fun f39 =>
  (fxX1_crossZ N p0 p3 p1 o33.1).bind fun o37 =>
  (sV o37.1 p0 1 9 (.long ((o29.2 + o33.2) + o37.2))).bind fun h41 =>
  (kO h41 p0 1).bind fun f45 =>
  (fxX1_share N p0 p1 p2 h41).bind fun o43 =>
  if o43.2 ≤ (0 : Int64) then (
    some (o43.1, (0 : Int32))) else (
    (kO o43.1 p0 1).bind fun f50 =>
    (fxX1_share N p0 p2 p3 o43.1).bind fun o48 =>
    if o48.2 ≤ (0 : Int64) then (
      some (o48.1, (0 : Int32))) else (
      (kO o48.1 p0 1).bind fun f55 =>
      (fxX1_share N p0 p3 p1 o48.1).bind fun o53 =>
      if (0 : Int64) < o53.2 then (
        (gJ o53.1 p0 1 7).bind fun v58 =>
        (gJ o53.1 p0 1 7).bind fun v60 =>
        (gJ o53.1 p0 1 8).bind fun v62 =>
        (gJ o53.1 p0 1 8).bind fun v64 =>
        (gJ o53.1 p0 1 9).bind fun v66 =>
        (gJ o53.1 p0 1 9).bind fun v68 =>
        (sV o53.1 p0 1 1 (.long (((v58 * v60) + (v62 * v64)) + (v66 * v68)))).bind fun h70 =>
        (kO h70 p0 1).bind fun f74 =>
        (fxX1_along N p0 p1 h70).bind fun o72 =>
        (gJ o72.1 p0 1 7).bind fun v76 =>
        (sV o72.1 p0 1 7 (.long (v76 * o72.2))).bind fun h78 =>
        (gJ h78 p0 1 8).bind fun v80 =>
        (sV h78 p0 1 8 (.long (v80 * o72.2))).bind fun h82 =>
        (gJ h82 p0 1 9).bind fun v84 =>
        (sV h82 p0 1 9 (.long (v84 * o72.2))).bind fun h86 =>
        (kO h86 p0 1).bind fun f90 =>
        (fxX1_along N p0 p1 h86).bind fun o88 =>
        (sV o88.1 p0 1 0 (.long o88.2)).bind fun h92 =>
        some (h92, (1 : Int32))) else (
        some (o53.1, (0 : Int32)))))
set_option maxHeartbeats 4000000 in
set_option maxRecDepth 100000 in
theorem eaX1_stepToPlane {N : Nat} {R : mh} {p0 : Nat} {p1 : Int32} {p2 : Int32} {p3 : Int32} {h : mh} {o : (mh × Int32)} (hq : fxX1_stepToPlane N p0 p1 p2 p3 h = some o) : mC mX1_stepToPlane [.ref p0, .int p1, .int p2, .int p3] (h ++ R) (o.1 ++ R, some (.int o.2)) := by
  refine mC_of okX1_stepToPlane (Nat.le_of_ble_eq_true rfl) ?_
  unfold fxX1_stepToPlane at hq
  show mB _ mX1_stepToPlane (0, [(0, .ref p0), (1, .int p1), (2, .int p2), (3, .int p3)], [], (h ++ R), 0, 0)
  refine mB_run odX1_stepToPlane 4 (g := (4, [(0, .ref p0), (1, .int p1), (2, .int p2), (3, .int p3)], [.int p2, .int p1, .ref p0, .ref p0], (h ++ R), 0, 0)) rfl ?_
  obtain ⟨f3, k4, hq⟩ := bsm hq
  obtain ⟨o1, e2, hq⟩ := bsm hq
  refine mB_V (as := [.int p1, .int p2]) odX1_stepToPlane okX1_crossX lk_1_85 rfl (eaX1_crossX e2) (kO_at (kO_ap k4)) rfl rfl rfl ?_
  show mB _ mX1_stepToPlane (7, [(0, .ref p0), (1, .int p1), (2, .int p2), (3, .int p3)], [.long o1.2, .ref p0], (o1.1 ++ R), 0, 0)
  refine mB_run odX1_stepToPlane 3 (g := (10, [(0, .ref p0), (1, .int p1), (2, .int p2), (3, .int p3)], [.int p3, .int p2, .ref p0, .long o1.2, .ref p0], (o1.1 ++ R), 0, 0)) rfl ?_
  obtain ⟨f7, k8, hq⟩ := bsm hq
  obtain ⟨o5, e6, hq⟩ := bsm hq
  refine mB_V (as := [.int p2, .int p3]) odX1_stepToPlane okX1_crossX lk_1_85 rfl (eaX1_crossX e6) (kO_at (kO_ap k8)) rfl rfl rfl ?_
  show mB _ mX1_stepToPlane (13, [(0, .ref p0), (1, .int p1), (2, .int p2), (3, .int p3)], [.long o5.2, .long o1.2, .ref p0], (o5.1 ++ R), 0, 0)
  refine mB_run odX1_stepToPlane 4 (g := (17, [(0, .ref p0), (1, .int p1), (2, .int p2), (3, .int p3)], [.int p1, .int p3, .ref p0, .long (o1.2 + o5.2), .ref p0], (o5.1 ++ R), 0, 0)) rfl ?_
  obtain ⟨f11, k12, hq⟩ := bsm hq
  obtain ⟨o9, e10, hq⟩ := bsm hq
  refine mB_V (as := [.int p3, .int p1]) odX1_stepToPlane okX1_crossX lk_1_85 rfl (eaX1_crossX e10) (kO_at (kO_ap k12)) rfl rfl rfl ?_
  show mB _ mX1_stepToPlane (20, [(0, .ref p0), (1, .int p1), (2, .int p2), (3, .int p3)], [.long o9.2, .long (o1.2 + o5.2), .ref p0], (o9.1 ++ R), 0, 0)
  refine mB_run odX1_stepToPlane 1 (g := (21, [(0, .ref p0), (1, .int p1), (2, .int p2), (3, .int p3)], [.long ((o1.2 + o5.2) + o9.2), .ref p0], (o9.1 ++ R), 0, 0)) rfl ?_
  obtain ⟨h13, e14, hq⟩ := bsm hq
  refine r_sV odX1_stepToPlane rfl rfl rfl rfl (sV_ap e14) ?_
  refine mB_run odX1_stepToPlane 4 (g := (28, [(0, .ref p0), (1, .int p1), (2, .int p2), (3, .int p3)], [.int p2, .int p1, .ref p0, .ref p0], (h13 ++ R), 0, 0)) rfl ?_
  obtain ⟨f17, k18, hq⟩ := bsm hq
  obtain ⟨o15, e16, hq⟩ := bsm hq
  refine mB_V (as := [.int p1, .int p2]) odX1_stepToPlane okX1_crossY lk_1_89 rfl (eaX1_crossY e16) (kO_at (kO_ap k18)) rfl rfl rfl ?_
  show mB _ mX1_stepToPlane (31, [(0, .ref p0), (1, .int p1), (2, .int p2), (3, .int p3)], [.long o15.2, .ref p0], (o15.1 ++ R), 0, 0)
  refine mB_run odX1_stepToPlane 3 (g := (34, [(0, .ref p0), (1, .int p1), (2, .int p2), (3, .int p3)], [.int p3, .int p2, .ref p0, .long o15.2, .ref p0], (o15.1 ++ R), 0, 0)) rfl ?_
  obtain ⟨f21, k22, hq⟩ := bsm hq
  obtain ⟨o19, e20, hq⟩ := bsm hq
  refine mB_V (as := [.int p2, .int p3]) odX1_stepToPlane okX1_crossY lk_1_89 rfl (eaX1_crossY e20) (kO_at (kO_ap k22)) rfl rfl rfl ?_
  show mB _ mX1_stepToPlane (37, [(0, .ref p0), (1, .int p1), (2, .int p2), (3, .int p3)], [.long o19.2, .long o15.2, .ref p0], (o19.1 ++ R), 0, 0)
  refine mB_run odX1_stepToPlane 4 (g := (41, [(0, .ref p0), (1, .int p1), (2, .int p2), (3, .int p3)], [.int p1, .int p3, .ref p0, .long (o15.2 + o19.2), .ref p0], (o19.1 ++ R), 0, 0)) rfl ?_
  obtain ⟨f25, k26, hq⟩ := bsm hq
  obtain ⟨o23, e24, hq⟩ := bsm hq
  refine mB_V (as := [.int p3, .int p1]) odX1_stepToPlane okX1_crossY lk_1_89 rfl (eaX1_crossY e24) (kO_at (kO_ap k26)) rfl rfl rfl ?_
  show mB _ mX1_stepToPlane (44, [(0, .ref p0), (1, .int p1), (2, .int p2), (3, .int p3)], [.long o23.2, .long (o15.2 + o19.2), .ref p0], (o23.1 ++ R), 0, 0)
  refine mB_run odX1_stepToPlane 1 (g := (45, [(0, .ref p0), (1, .int p1), (2, .int p2), (3, .int p3)], [.long ((o15.2 + o19.2) + o23.2), .ref p0], (o23.1 ++ R), 0, 0)) rfl ?_
  obtain ⟨h27, e28, hq⟩ := bsm hq
  refine r_sV odX1_stepToPlane rfl rfl rfl rfl (sV_ap e28) ?_
  refine mB_run odX1_stepToPlane 4 (g := (52, [(0, .ref p0), (1, .int p1), (2, .int p2), (3, .int p3)], [.int p2, .int p1, .ref p0, .ref p0], (h27 ++ R), 0, 0)) rfl ?_
  obtain ⟨f31, k32, hq⟩ := bsm hq
  obtain ⟨o29, e30, hq⟩ := bsm hq
  refine mB_V (as := [.int p1, .int p2]) odX1_stepToPlane okX1_crossZ lk_1_92 rfl (eaX1_crossZ e30) (kO_at (kO_ap k32)) rfl rfl rfl ?_
  show mB _ mX1_stepToPlane (55, [(0, .ref p0), (1, .int p1), (2, .int p2), (3, .int p3)], [.long o29.2, .ref p0], (o29.1 ++ R), 0, 0)
  refine mB_run odX1_stepToPlane 3 (g := (58, [(0, .ref p0), (1, .int p1), (2, .int p2), (3, .int p3)], [.int p3, .int p2, .ref p0, .long o29.2, .ref p0], (o29.1 ++ R), 0, 0)) rfl ?_
  obtain ⟨f35, k36, hq⟩ := bsm hq
  obtain ⟨o33, e34, hq⟩ := bsm hq
  refine mB_V (as := [.int p2, .int p3]) odX1_stepToPlane okX1_crossZ lk_1_92 rfl (eaX1_crossZ e34) (kO_at (kO_ap k36)) rfl rfl rfl ?_
  show mB _ mX1_stepToPlane (61, [(0, .ref p0), (1, .int p1), (2, .int p2), (3, .int p3)], [.long o33.2, .long o29.2, .ref p0], (o33.1 ++ R), 0, 0)
  refine mB_run odX1_stepToPlane 4 (g := (65, [(0, .ref p0), (1, .int p1), (2, .int p2), (3, .int p3)], [.int p1, .int p3, .ref p0, .long (o29.2 + o33.2), .ref p0], (o33.1 ++ R), 0, 0)) rfl ?_
  obtain ⟨f39, k40, hq⟩ := bsm hq
  obtain ⟨o37, e38, hq⟩ := bsm hq
  refine mB_V (as := [.int p3, .int p1]) odX1_stepToPlane okX1_crossZ lk_1_92 rfl (eaX1_crossZ e38) (kO_at (kO_ap k40)) rfl rfl rfl ?_
  show mB _ mX1_stepToPlane (68, [(0, .ref p0), (1, .int p1), (2, .int p2), (3, .int p3)], [.long o37.2, .long (o29.2 + o33.2), .ref p0], (o37.1 ++ R), 0, 0)
  refine mB_run odX1_stepToPlane 1 (g := (69, [(0, .ref p0), (1, .int p1), (2, .int p2), (3, .int p3)], [.long ((o29.2 + o33.2) + o37.2), .ref p0], (o37.1 ++ R), 0, 0)) rfl ?_
  obtain ⟨h41, e42, hq⟩ := bsm hq
  refine r_sV odX1_stepToPlane rfl rfl rfl rfl (sV_ap e42) ?_
  refine mB_run odX1_stepToPlane 3 (g := (75, [(0, .ref p0), (1, .int p1), (2, .int p2), (3, .int p3)], [.int p2, .int p1, .ref p0], (h41 ++ R), 0, 0)) rfl ?_
  obtain ⟨f45, k46, hq⟩ := bsm hq
  obtain ⟨o43, e44, hq⟩ := bsm hq
  refine mB_V (as := [.int p1, .int p2]) odX1_stepToPlane okX1_share lk_1_95 rfl (eaX1_share e44) (kO_at (kO_ap k46)) rfl rfl rfl ?_
  show mB _ mX1_stepToPlane (78, [(0, .ref p0), (1, .int p1), (2, .int p2), (3, .int p3)], [.long o43.2], (o43.1 ++ R), 0, 0)
  refine mB_run odX1_stepToPlane 1 (g := (79, [(0, .ref p0), (1, .int p1), (2, .int p2), (3, .int p3)], [.long (0 : Int64), .long o43.2], (o43.1 ++ R), 0, 0)) rfl ?_
  by_cases c47 : o43.2 ≤ (0 : Int64)
  · rw [if_pos c47] at hq
    refine lc_le_T (t := 105) odX1_stepToPlane rfl rfl rfl c47 ?_
    refine mB_run odX1_stepToPlane 1 (g := (106, [(0, .ref p0), (1, .int p1), (2, .int p2), (3, .int p3)], [.int (0 : Int32)], (o43.1 ++ R), 0, 0)) rfl ?_
    cases hq
    exact mB_ret odX1_stepToPlane rfl
  · rw [if_neg c47] at hq
    refine lc_le_F (t := 105) odX1_stepToPlane rfl rfl rfl c47 ?_
    refine mB_run odX1_stepToPlane 3 (g := (86, [(0, .ref p0), (1, .int p1), (2, .int p2), (3, .int p3)], [.int p3, .int p2, .ref p0], (o43.1 ++ R), 0, 0)) rfl ?_
    obtain ⟨f50, k51, hq⟩ := bsm hq
    obtain ⟨o48, e49, hq⟩ := bsm hq
    refine mB_V (as := [.int p2, .int p3]) odX1_stepToPlane okX1_share lk_1_95 rfl (eaX1_share e49) (kO_at (kO_ap k51)) rfl rfl rfl ?_
    show mB _ mX1_stepToPlane (89, [(0, .ref p0), (1, .int p1), (2, .int p2), (3, .int p3)], [.long o48.2], (o48.1 ++ R), 0, 0)
    refine mB_run odX1_stepToPlane 1 (g := (90, [(0, .ref p0), (1, .int p1), (2, .int p2), (3, .int p3)], [.long (0 : Int64), .long o48.2], (o48.1 ++ R), 0, 0)) rfl ?_
    by_cases c52 : o48.2 ≤ (0 : Int64)
    · rw [if_pos c52] at hq
      refine lc_le_T (t := 105) odX1_stepToPlane rfl rfl rfl c52 ?_
      refine mB_run odX1_stepToPlane 1 (g := (106, [(0, .ref p0), (1, .int p1), (2, .int p2), (3, .int p3)], [.int (0 : Int32)], (o48.1 ++ R), 0, 0)) rfl ?_
      cases hq
      exact mB_ret odX1_stepToPlane rfl
    · rw [if_neg c52] at hq
      refine lc_le_F (t := 105) odX1_stepToPlane rfl rfl rfl c52 ?_
      refine mB_run odX1_stepToPlane 3 (g := (97, [(0, .ref p0), (1, .int p1), (2, .int p2), (3, .int p3)], [.int p1, .int p3, .ref p0], (o48.1 ++ R), 0, 0)) rfl ?_
      obtain ⟨f55, k56, hq⟩ := bsm hq
      obtain ⟨o53, e54, hq⟩ := bsm hq
      refine mB_V (as := [.int p3, .int p1]) odX1_stepToPlane okX1_share lk_1_95 rfl (eaX1_share e54) (kO_at (kO_ap k56)) rfl rfl rfl ?_
      show mB _ mX1_stepToPlane (100, [(0, .ref p0), (1, .int p1), (2, .int p2), (3, .int p3)], [.long o53.2], (o53.1 ++ R), 0, 0)
      refine mB_run odX1_stepToPlane 1 (g := (101, [(0, .ref p0), (1, .int p1), (2, .int p2), (3, .int p3)], [.long (0 : Int64), .long o53.2], (o53.1 ++ R), 0, 0)) rfl ?_
      by_cases c57 : (0 : Int64) < o53.2
      · rw [if_pos c57] at hq
        refine lc_gt_T (t := 107) odX1_stepToPlane rfl rfl rfl c57 ?_
        refine mB_run odX1_stepToPlane 2 (g := (109, [(0, .ref p0), (1, .int p1), (2, .int p2), (3, .int p3)], [.ref p0, .ref p0], (o53.1 ++ R), 0, 0)) rfl ?_
        obtain ⟨v58, e59, hq⟩ := bsm hq
        refine r_gJ odX1_stepToPlane rfl rfl (gJ_ap e59) ?_
        refine mB_run odX1_stepToPlane 1 (g := (113, [(0, .ref p0), (1, .int p1), (2, .int p2), (3, .int p3)], [.ref p0, .long v58, .ref p0], (o53.1 ++ R), 0, 0)) rfl ?_
        obtain ⟨v60, e61, hq⟩ := bsm hq
        refine r_gJ odX1_stepToPlane rfl rfl (gJ_ap e61) ?_
        refine mB_run odX1_stepToPlane 2 (g := (118, [(0, .ref p0), (1, .int p1), (2, .int p2), (3, .int p3)], [.ref p0, .long (v58 * v60), .ref p0], (o53.1 ++ R), 0, 0)) rfl ?_
        obtain ⟨v62, e63, hq⟩ := bsm hq
        refine r_gJ odX1_stepToPlane rfl rfl (gJ_ap e63) ?_
        refine mB_run odX1_stepToPlane 1 (g := (122, [(0, .ref p0), (1, .int p1), (2, .int p2), (3, .int p3)], [.ref p0, .long v62, .long (v58 * v60), .ref p0], (o53.1 ++ R), 0, 0)) rfl ?_
        obtain ⟨v64, e65, hq⟩ := bsm hq
        refine r_gJ odX1_stepToPlane rfl rfl (gJ_ap e65) ?_
        refine mB_run odX1_stepToPlane 3 (g := (128, [(0, .ref p0), (1, .int p1), (2, .int p2), (3, .int p3)], [.ref p0, .long ((v58 * v60) + (v62 * v64)), .ref p0], (o53.1 ++ R), 0, 0)) rfl ?_
        obtain ⟨v66, e67, hq⟩ := bsm hq
        refine r_gJ odX1_stepToPlane rfl rfl (gJ_ap e67) ?_
        refine mB_run odX1_stepToPlane 1 (g := (132, [(0, .ref p0), (1, .int p1), (2, .int p2), (3, .int p3)], [.ref p0, .long v66, .long ((v58 * v60) + (v62 * v64)), .ref p0], (o53.1 ++ R), 0, 0)) rfl ?_
        obtain ⟨v68, e69, hq⟩ := bsm hq
        refine r_gJ odX1_stepToPlane rfl rfl (gJ_ap e69) ?_
        refine mB_run odX1_stepToPlane 2 (g := (137, [(0, .ref p0), (1, .int p1), (2, .int p2), (3, .int p3)], [.long (((v58 * v60) + (v62 * v64)) + (v66 * v68)), .ref p0], (o53.1 ++ R), 0, 0)) rfl ?_
        obtain ⟨h70, e71, hq⟩ := bsm hq
        refine r_sV odX1_stepToPlane rfl rfl rfl rfl (sV_ap e71) ?_
        refine mB_run odX1_stepToPlane 2 (g := (142, [(0, .ref p0), (1, .int p1), (2, .int p2), (3, .int p3)], [.int p1, .ref p0], (h70 ++ R), 0, 0)) rfl ?_
        obtain ⟨f74, k75, hq⟩ := bsm hq
        obtain ⟨o72, e73, hq⟩ := bsm hq
        refine mB_V (as := [.int p1]) odX1_stepToPlane okX1_along lk_1_59 rfl (eaX1_along e73) (kO_at (kO_ap k75)) rfl rfl rfl ?_
        show mB _ mX1_stepToPlane (145, [(0, .ref p0), (1, .int p1), (2, .int p2), (3, .int p3)], [.long o72.2], (o72.1 ++ R), 0, 0)
        refine mB_run odX1_stepToPlane 3 (g := (149, [(4, .long o72.2), (0, .ref p0), (1, .int p1), (2, .int p2), (3, .int p3)], [.ref p0, .ref p0], (o72.1 ++ R), 0, 0)) rfl ?_
        obtain ⟨v76, e77, hq⟩ := bsm hq
        refine r_gJ odX1_stepToPlane rfl rfl (gJ_ap e77) ?_
        refine mB_run odX1_stepToPlane 2 (g := (155, [(4, .long o72.2), (0, .ref p0), (1, .int p1), (2, .int p2), (3, .int p3)], [.long (v76 * o72.2), .ref p0], (o72.1 ++ R), 0, 0)) rfl ?_
        obtain ⟨h78, e79, hq⟩ := bsm hq
        refine r_sV odX1_stepToPlane rfl rfl rfl rfl (sV_ap e79) ?_
        refine mB_run odX1_stepToPlane 2 (g := (160, [(4, .long o72.2), (0, .ref p0), (1, .int p1), (2, .int p2), (3, .int p3)], [.ref p0, .ref p0], (h78 ++ R), 0, 0)) rfl ?_
        obtain ⟨v80, e81, hq⟩ := bsm hq
        refine r_gJ odX1_stepToPlane rfl rfl (gJ_ap e81) ?_
        refine mB_run odX1_stepToPlane 2 (g := (166, [(4, .long o72.2), (0, .ref p0), (1, .int p1), (2, .int p2), (3, .int p3)], [.long (v80 * o72.2), .ref p0], (h78 ++ R), 0, 0)) rfl ?_
        obtain ⟨h82, e83, hq⟩ := bsm hq
        refine r_sV odX1_stepToPlane rfl rfl rfl rfl (sV_ap e83) ?_
        refine mB_run odX1_stepToPlane 2 (g := (171, [(4, .long o72.2), (0, .ref p0), (1, .int p1), (2, .int p2), (3, .int p3)], [.ref p0, .ref p0], (h82 ++ R), 0, 0)) rfl ?_
        obtain ⟨v84, e85, hq⟩ := bsm hq
        refine r_gJ odX1_stepToPlane rfl rfl (gJ_ap e85) ?_
        refine mB_run odX1_stepToPlane 2 (g := (177, [(4, .long o72.2), (0, .ref p0), (1, .int p1), (2, .int p2), (3, .int p3)], [.long (v84 * o72.2), .ref p0], (h82 ++ R), 0, 0)) rfl ?_
        obtain ⟨h86, e87, hq⟩ := bsm hq
        refine r_sV odX1_stepToPlane rfl rfl rfl rfl (sV_ap e87) ?_
        refine mB_run odX1_stepToPlane 3 (g := (183, [(4, .long o72.2), (0, .ref p0), (1, .int p1), (2, .int p2), (3, .int p3)], [.int p1, .ref p0, .ref p0], (h86 ++ R), 0, 0)) rfl ?_
        obtain ⟨f90, k91, hq⟩ := bsm hq
        obtain ⟨o88, e89, hq⟩ := bsm hq
        refine mB_V (as := [.int p1]) odX1_stepToPlane okX1_along lk_1_59 rfl (eaX1_along e89) (kO_at (kO_ap k91)) rfl rfl rfl ?_
        show mB _ mX1_stepToPlane (186, [(4, .long o72.2), (0, .ref p0), (1, .int p1), (2, .int p2), (3, .int p3)], [.long o88.2, .ref p0], (o88.1 ++ R), 0, 0)
        obtain ⟨h92, e93, hq⟩ := bsm hq
        refine r_sV odX1_stepToPlane rfl rfl rfl rfl (sV_ap e93) ?_
        refine mB_run odX1_stepToPlane 1 (g := (190, [(4, .long o72.2), (0, .ref p0), (1, .int p1), (2, .int p2), (3, .int p3)], [.int (1 : Int32)], (h92 ++ R), 0, 0)) rfl ?_
        cases hq
        exact mB_ret odX1_stepToPlane rfl
      · rw [if_neg c57] at hq
        refine lc_gt_F (t := 107) odX1_stepToPlane rfl rfl rfl c57 ?_
        refine mB_run odX1_stepToPlane 1 (g := (106, [(0, .ref p0), (1, .int p1), (2, .int p2), (3, .int p3)], [.int (0 : Int32)], (o53.1 ++ R), 0, 0)) rfl ?_
        cases hq
        exact mB_ret odX1_stepToPlane rfl
def fxX1_holdsNearest_31 (N : Nat) (rec4 : Nat → Int32 → Int32 → Int32 → mh → Option (mh × Int32)) (x0 : Nat) (x1 : Int32) (x2 : Int32) (x3 : Int32) (h : mh) : Option (mh × Int32) :=
  rec4 x0 x1 x2 (x3 + (1 : Int32)) h
set_option maxHeartbeats 4000000 in
set_option maxRecDepth 100000 in
theorem eaX1_holdsNearest_31 {N : Nat} {R : mh} {rec4 : Nat → Int32 → Int32 → Int32 → mh → Option (mh × Int32)} (hrec4 : ∀ (x0 : Nat) (x1 : Int32) (x2 : Int32) (x3 : Int32) (h : mh) {o : (mh × Int32)}, rec4 x0 x1 x2 x3 h = some o → mB (gO mX1_holdsNearest (o.1 ++ R, some (.int o.2))) mX1_holdsNearest (4, [(0, .ref x0), (1, .int x1), (2, .int x2), (3, .int x3)], [], (h ++ R), 0, 0)) (x0 : Nat) (x1 : Int32) (x2 : Int32) (x3 : Int32) (h : mh) {o : (mh × Int32)} (hq : fxX1_holdsNearest_31 N rec4 x0 x1 x2 x3 h = some o) : mB (gO mX1_holdsNearest (o.1 ++ R, some (.int o.2))) mX1_holdsNearest (31, [(0, .ref x0), (1, .int x1), (2, .int x2), (3, .int x3)], [], (h ++ R), 0, 0) := by
  unfold fxX1_holdsNearest_31 at hq
  refine mB_run odX1_holdsNearest 2 (g := (4, [(3, .int (x3 + (1 : Int32))), (0, .ref x0), (1, .int x1), (2, .int x2)], [], (h ++ R), 0, 0)) rfl ?_
  refine mB_lv [1, 2, 3, 0] (lv' := [(0, .ref x0), (1, .int x1), (2, .int x2), (3, .int (x3 + (1 : Int32)))]) rfl ?_
  exact hrec4 _ _ _ _ _ hq
def fxX1_holdsNearest_160 (N : Nat) (rec118 : Nat → Int32 → Int32 → Int32 → mh → Option (mh × Int32)) (x0 : Nat) (x1 : Int32) (x4 : Int32) (s0 : Int32) (h : mh) : Option (mh × Int32) :=
  rec118 x0 x1 s0 (x4 + (1 : Int32)) h
set_option maxHeartbeats 4000000 in
set_option maxRecDepth 100000 in
theorem eaX1_holdsNearest_160 {N : Nat} {R : mh} {rec118 : Nat → Int32 → Int32 → Int32 → mh → Option (mh × Int32)} (hrec118 : ∀ (x0 : Nat) (x1 : Int32) (x3 : Int32) (x4 : Int32) (h : mh) {o : (mh × Int32)}, rec118 x0 x1 x3 x4 h = some o → mB (gO mX1_holdsNearest (o.1 ++ R, some (.int o.2))) mX1_holdsNearest (118, [(0, .ref x0), (1, .int x1), (3, .int x3), (4, .int x4)], [], (h ++ R), 0, 0)) (x0 : Nat) (x1 : Int32) (x4 : Int32) (s0 : Int32) (h : mh) {o : (mh × Int32)} (hq : fxX1_holdsNearest_160 N rec118 x0 x1 x4 s0 h = some o) : mB (gO mX1_holdsNearest (o.1 ++ R, some (.int o.2))) mX1_holdsNearest (160, [(0, .ref x0), (1, .int x1), (4, .int x4)], [.int s0], (h ++ R), 0, 0) := by
  unfold fxX1_holdsNearest_160 at hq
  refine mB_run odX1_holdsNearest 3 (g := (118, [(4, .int (x4 + (1 : Int32))), (3, .int s0), (0, .ref x0), (1, .int x1)], [], (h ++ R), 0, 0)) rfl ?_
  refine mB_lv [2, 3, 1, 0] (lv' := [(0, .ref x0), (1, .int x1), (3, .int s0), (4, .int (x4 + (1 : Int32)))]) rfl ?_
  exact hrec118 _ _ _ _ _ hq
def fxX1_holdsNearest_155 (N : Nat) (rec118 : Nat → Int32 → Int32 → Int32 → mh → Option (mh × Int32)) (x0 : Nat) (x1 : Int32) (x4 : Int32) (h : mh) : Option (mh × Int32) :=
  fxX1_holdsNearest_160 N rec118 x0 x1 x4 (1 : Int32) h
set_option maxHeartbeats 4000000 in
set_option maxRecDepth 100000 in
theorem eaX1_holdsNearest_155 {N : Nat} {R : mh} {rec118 : Nat → Int32 → Int32 → Int32 → mh → Option (mh × Int32)} (hrec118 : ∀ (x0 : Nat) (x1 : Int32) (x3 : Int32) (x4 : Int32) (h : mh) {o : (mh × Int32)}, rec118 x0 x1 x3 x4 h = some o → mB (gO mX1_holdsNearest (o.1 ++ R, some (.int o.2))) mX1_holdsNearest (118, [(0, .ref x0), (1, .int x1), (3, .int x3), (4, .int x4)], [], (h ++ R), 0, 0)) (x0 : Nat) (x1 : Int32) (x4 : Int32) (h : mh) {o : (mh × Int32)} (hq : fxX1_holdsNearest_155 N rec118 x0 x1 x4 h = some o) : mB (gO mX1_holdsNearest (o.1 ++ R, some (.int o.2))) mX1_holdsNearest (155, [(0, .ref x0), (1, .int x1), (4, .int x4)], [], (h ++ R), 0, 0) := by
  unfold fxX1_holdsNearest_155 at hq
  refine mB_run odX1_holdsNearest 2 (g := (160, [(0, .ref x0), (1, .int x1), (4, .int x4)], [.int (1 : Int32)], (h ++ R), 0, 0)) rfl ?_
  refine mB_lv [0, 1, 2] (lv' := [(0, .ref x0), (1, .int x1), (4, .int x4)]) rfl ?_
  exact eaX1_holdsNearest_160 hrec118 _ _ _ _ _ hq
def fxX1_holdsNearest_118 (N : Nat) : Nat → Nat → Int32 → Int32 → Int32 → mh → Option (mh × Int32)
  | 0, _, _, _, _, _ => none
  | n + 1, x0, x1, x3, x4, h =>
    (gI h x0 1 2).bind fun v49 =>
    if v49 ≤ x4 then (
      if x3 &&& 1 = x3 then some (h, x3) else none) else (
      if x3 = 0 then (
        if x3 &&& 1 = x3 then some (h, x3) else none) else (
        if ((x1 >>> (x4 &&& 31)) &&& (1 : Int32)) = (1 : Int32) then (
          fxX1_holdsNearest_155 N (fxX1_holdsNearest_118 N n) x0 x1 x4 h) else (
          (kO h x0 1).bind fun f58 =>
          (fxX1_along N x0 x4 h).bind fun o56 =>
          (gJ o56.1 x0 1 0).bind fun v60 =>
          if o56.2 < v60 then (
            fxX1_holdsNearest_160 N (fxX1_holdsNearest_118 N n) x0 x1 x4 (0 : Int32) o56.1) else (
            fxX1_holdsNearest_155 N (fxX1_holdsNearest_118 N n) x0 x1 x4 o56.1))))
set_option maxHeartbeats 4000000 in
set_option maxRecDepth 100000 in
theorem eaX1_holdsNearest_118 {N : Nat} {R : mh} : ∀ (n : Nat) (x0 : Nat) (x1 : Int32) (x3 : Int32) (x4 : Int32) (h : mh) {o : (mh × Int32)}, fxX1_holdsNearest_118 N n x0 x1 x3 x4 h = some o → mB (gO mX1_holdsNearest (o.1 ++ R, some (.int o.2))) mX1_holdsNearest (118, [(0, .ref x0), (1, .int x1), (3, .int x3), (4, .int x4)], [], (h ++ R), 0, 0) := by
  intro n
  induction n with
  | zero => intro x0 x1 x3 x4 h o hq; cases hq
  | succ n ih =>
    intro x0 x1 x3 x4 h o hq
    unfold fxX1_holdsNearest_118 at hq
    refine mB_run odX1_holdsNearest 2 (g := (121, [(0, .ref x0), (1, .int x1), (3, .int x3), (4, .int x4)], [.ref x0, .int x4], (h ++ R), 0, 0)) rfl ?_
    obtain ⟨v49, e50, hq⟩ := bsm hq
    refine r_gI odX1_holdsNearest rfl rfl (gI_ap e50) ?_
    by_cases c51 : v49 ≤ x4
    · rw [if_pos c51] at hq
      refine ic_ge_T (t := 167) odX1_holdsNearest rfl rfl c51 ?_
      refine mB_run odX1_holdsNearest 1 (g := (168, [(0, .ref x0), (1, .int x1), (3, .int x3), (4, .int x4)], [.int x3], (h ++ R), 0, 0)) rfl ?_
      by_cases c52 : x3 &&& 1 = x3
      · rw [if_pos c52] at hq
        cases hq
        exact mB_retz odX1_holdsNearest rfl rfl c52 rfl
      · rw [if_neg c52] at hq; cases hq
    · rw [if_neg c51] at hq
      refine ic_ge_F (t := 167) odX1_holdsNearest rfl rfl c51 ?_
      refine mB_run odX1_holdsNearest 1 (g := (128, [(0, .ref x0), (1, .int x1), (3, .int x3), (4, .int x4)], [.int x3], (h ++ R), 0, 0)) rfl ?_
      by_cases c53 : x3 = 0
      · rw [if_pos c53] at hq
        refine if_eq_T (t := 167) odX1_holdsNearest rfl rfl c53 ?_
        refine mB_run odX1_holdsNearest 1 (g := (168, [(0, .ref x0), (1, .int x1), (3, .int x3), (4, .int x4)], [.int x3], (h ++ R), 0, 0)) rfl ?_
        by_cases c54 : x3 &&& 1 = x3
        · rw [if_pos c54] at hq
          cases hq
          exact mB_retz odX1_holdsNearest rfl rfl c54 rfl
        · rw [if_neg c54] at hq; cases hq
      · rw [if_neg c53] at hq
        refine if_eq_F (t := 167) odX1_holdsNearest rfl rfl c53 ?_
        refine mB_run odX1_holdsNearest 6 (g := (138, [(0, .ref x0), (1, .int x1), (3, .int x3), (4, .int x4)], [.int (1 : Int32), .int ((x1 >>> (x4 &&& 31)) &&& (1 : Int32))], (h ++ R), 0, 0)) rfl ?_
        by_cases c55 : ((x1 >>> (x4 &&& 31)) &&& (1 : Int32)) = (1 : Int32)
        · rw [if_pos c55] at hq
          refine ic_eq_T (t := 155) odX1_holdsNearest rfl rfl c55 ?_
          refine mB_lv [0, 1, 3] (lv' := [(0, .ref x0), (1, .int x1), (4, .int x4)]) rfl ?_
          exact eaX1_holdsNearest_155 ih _ _ _ _ hq
        · rw [if_neg c55] at hq
          refine ic_eq_F (t := 155) odX1_holdsNearest rfl rfl c55 ?_
          refine mB_run odX1_holdsNearest 2 (g := (144, [(0, .ref x0), (1, .int x1), (3, .int x3), (4, .int x4)], [.int x4, .ref x0], (h ++ R), 0, 0)) rfl ?_
          obtain ⟨f58, k59, hq⟩ := bsm hq
          obtain ⟨o56, e57, hq⟩ := bsm hq
          refine mB_V (as := [.int x4]) odX1_holdsNearest okX1_along lk_1_59 rfl (eaX1_along e57) (kO_at (kO_ap k59)) rfl rfl rfl ?_
          show mB _ mX1_holdsNearest (147, [(0, .ref x0), (1, .int x1), (3, .int x3), (4, .int x4)], [.long o56.2], (o56.1 ++ R), 0, 0)
          refine mB_run odX1_holdsNearest 1 (g := (148, [(0, .ref x0), (1, .int x1), (3, .int x3), (4, .int x4)], [.ref x0, .long o56.2], (o56.1 ++ R), 0, 0)) rfl ?_
          obtain ⟨v60, e61, hq⟩ := bsm hq
          refine r_gJ odX1_holdsNearest rfl rfl (gJ_ap e61) ?_
          by_cases c62 : o56.2 < v60
          · rw [if_pos c62] at hq
            refine lc_lt_T (t := 159) odX1_holdsNearest rfl rfl rfl c62 ?_
            refine mB_run odX1_holdsNearest 1 (g := (160, [(0, .ref x0), (1, .int x1), (3, .int x3), (4, .int x4)], [.int (0 : Int32)], (o56.1 ++ R), 0, 0)) rfl ?_
            refine mB_lv [0, 1, 3] (lv' := [(0, .ref x0), (1, .int x1), (4, .int x4)]) rfl ?_
            exact eaX1_holdsNearest_160 ih _ _ _ _ _ hq
          · rw [if_neg c62] at hq
            refine lc_lt_F (t := 159) odX1_holdsNearest rfl rfl rfl c62 ?_
            refine mB_lv [0, 1, 3] (lv' := [(0, .ref x0), (1, .int x1), (4, .int x4)]) rfl ?_
            exact eaX1_holdsNearest_155 ih _ _ _ _ hq
def fxX1_holdsNearest_114 (N : Nat) (x0 : Nat) (x1 : Int32) (s0 : Int32) (h : mh) : Option (mh × Int32) :=
  fxX1_holdsNearest_118 N N x0 x1 s0 (0 : Int32) h
set_option maxHeartbeats 4000000 in
set_option maxRecDepth 100000 in
theorem eaX1_holdsNearest_114 {N : Nat} {R : mh} (x0 : Nat) (x1 : Int32) (s0 : Int32) (h : mh) {o : (mh × Int32)} (hq : fxX1_holdsNearest_114 N x0 x1 s0 h = some o) : mB (gO mX1_holdsNearest (o.1 ++ R, some (.int o.2))) mX1_holdsNearest (114, [(0, .ref x0), (1, .int x1)], [.int s0], (h ++ R), 0, 0) := by
  unfold fxX1_holdsNearest_114 at hq
  refine mB_run odX1_holdsNearest 3 (g := (118, [(4, .int (0 : Int32)), (3, .int s0), (0, .ref x0), (1, .int x1)], [], (h ++ R), 0, 0)) rfl ?_
  refine mB_lv [2, 3, 1, 0] (lv' := [(0, .ref x0), (1, .int x1), (3, .int s0), (4, .int (0 : Int32))]) rfl ?_
  exact eaX1_holdsNearest_118 N _ _ _ _ _ hq
def fxX1_holdsNearest_113 (N : Nat) (x0 : Nat) (x1 : Int32) (h : mh) : Option (mh × Int32) :=
  fxX1_holdsNearest_114 N x0 x1 (0 : Int32) h
set_option maxHeartbeats 4000000 in
set_option maxRecDepth 100000 in
theorem eaX1_holdsNearest_113 {N : Nat} {R : mh} (x0 : Nat) (x1 : Int32) (h : mh) {o : (mh × Int32)} (hq : fxX1_holdsNearest_113 N x0 x1 h = some o) : mB (gO mX1_holdsNearest (o.1 ++ R, some (.int o.2))) mX1_holdsNearest (113, [(0, .ref x0), (1, .int x1)], [], (h ++ R), 0, 0) := by
  unfold fxX1_holdsNearest_113 at hq
  refine mB_run odX1_holdsNearest 1 (g := (114, [(0, .ref x0), (1, .int x1)], [.int (0 : Int32)], (h ++ R), 0, 0)) rfl ?_
  refine mB_lv [0, 1] (lv' := [(0, .ref x0), (1, .int x1)]) rfl ?_
  exact eaX1_holdsNearest_114 _ _ _ _ hq
def fxX1_holdsNearest_4 (N : Nat) : Nat → Nat → Int32 → Int32 → Int32 → mh → Option (mh × Int32)
  | 0, _, _, _, _, _ => none
  | n + 1, x0, x1, x2, x3, h =>
    (gI h x0 1 2).bind fun v1 =>
    if v1 ≤ x3 then (
      if x2 = (1 : Int32) then (
        (gR h x0 1 6).bind fun v5 =>
        (aI h v5 (0 : Int32)).bind fun v7 =>
        (kO h x0 1).bind fun f11 =>
        (fxX1_stepToPoint N x0 v7 h).bind fun o9 =>
        fxX1_holdsNearest_114 N x0 x1 o9.2 o9.1) else (
        if x2 = (2 : Int32) then (
          (gR h x0 1 6).bind fun v14 =>
          (aI h v14 (0 : Int32)).bind fun v16 =>
          (gR h x0 1 6).bind fun v18 =>
          (aI h v18 (1 : Int32)).bind fun v20 =>
          (kO h x0 1).bind fun f24 =>
          (fxX1_stepToLine N x0 v16 v20 h).bind fun o22 =>
          fxX1_holdsNearest_114 N x0 x1 o22.2 o22.1) else (
          if x2 = (3 : Int32) then (
            (gR h x0 1 6).bind fun v27 =>
            (aI h v27 (0 : Int32)).bind fun v29 =>
            (gR h x0 1 6).bind fun v31 =>
            (aI h v31 (1 : Int32)).bind fun v33 =>
            (gR h x0 1 6).bind fun v35 =>
            (aI h v35 (2 : Int32)).bind fun v37 =>
            (kO h x0 1).bind fun f41 =>
            (fxX1_stepToPlane N x0 v29 v33 v37 h).bind fun o39 =>
            if o39.2 = 0 then (
              fxX1_holdsNearest_113 N x0 x1 o39.1) else (
              fxX1_holdsNearest_114 N x0 x1 (1 : Int32) o39.1)) else (
            fxX1_holdsNearest_113 N x0 x1 h)))) else (
      if ((x1 >>> (x3 &&& 31)) &&& (1 : Int32)) = (1 : Int32) then (
        (gR h x0 1 6).bind fun v45 =>
        (wI h v45 x2 x3).bind fun h47 =>
        fxX1_holdsNearest_31 N (fxX1_holdsNearest_4 N n) x0 x1 (x2 + (1 : Int32)) x3 h47) else (
        fxX1_holdsNearest_31 N (fxX1_holdsNearest_4 N n) x0 x1 x2 x3 h))
set_option maxHeartbeats 4000000 in
set_option maxRecDepth 100000 in
theorem eaX1_holdsNearest_4 {N : Nat} {R : mh} : ∀ (n : Nat) (x0 : Nat) (x1 : Int32) (x2 : Int32) (x3 : Int32) (h : mh) {o : (mh × Int32)}, fxX1_holdsNearest_4 N n x0 x1 x2 x3 h = some o → mB (gO mX1_holdsNearest (o.1 ++ R, some (.int o.2))) mX1_holdsNearest (4, [(0, .ref x0), (1, .int x1), (2, .int x2), (3, .int x3)], [], (h ++ R), 0, 0) := by
  intro n
  induction n with
  | zero => intro x0 x1 x2 x3 h o hq; cases hq
  | succ n ih =>
    intro x0 x1 x2 x3 h o hq
    unfold fxX1_holdsNearest_4 at hq
    refine mB_run odX1_holdsNearest 2 (g := (6, [(0, .ref x0), (1, .int x1), (2, .int x2), (3, .int x3)], [.ref x0, .int x3], (h ++ R), 0, 0)) rfl ?_
    obtain ⟨v1, e2, hq⟩ := bsm hq
    refine r_gI odX1_holdsNearest rfl rfl (gI_ap e2) ?_
    by_cases c3 : v1 ≤ x3
    · rw [if_pos c3] at hq
      refine ic_ge_T (t := 37) odX1_holdsNearest rfl rfl c3 ?_
      refine mB_run odX1_holdsNearest 2 (g := (39, [(0, .ref x0), (1, .int x1), (2, .int x2), (3, .int x3)], [.int (1 : Int32), .int x2], (h ++ R), 0, 0)) rfl ?_
      by_cases c4 : x2 = (1 : Int32)
      · rw [if_pos c4] at hq
        refine ic_ne_F (t := 55) odX1_holdsNearest rfl rfl c4 ?_
        refine mB_run odX1_holdsNearest 2 (g := (44, [(0, .ref x0), (1, .int x1), (2, .int x2), (3, .int x3)], [.ref x0, .ref x0], (h ++ R), 0, 0)) rfl ?_
        obtain ⟨v5, e6, hq⟩ := bsm hq
        refine r_gR odX1_holdsNearest rfl rfl (gR_ap e6) ?_
        refine mB_run odX1_holdsNearest 1 (g := (48, [(0, .ref x0), (1, .int x1), (2, .int x2), (3, .int x3)], [.int (0 : Int32), .ref v5, .ref x0], (h ++ R), 0, 0)) rfl ?_
        obtain ⟨v7, e8, hq⟩ := bsm hq
        refine r_aI odX1_holdsNearest rfl (aI_ap e8) ?_
        obtain ⟨f11, k12, hq⟩ := bsm hq
        obtain ⟨o9, e10, hq⟩ := bsm hq
        refine mB_V (as := [.int v7]) odX1_holdsNearest okX1_stepToPoint lk_1_74 rfl (eaX1_stepToPoint e10) (kO_at (kO_ap k12)) rfl rfl rfl ?_
        show mB _ mX1_holdsNearest (52, [(0, .ref x0), (1, .int x1), (2, .int x2), (3, .int x3)], [.int o9.2], (o9.1 ++ R), 0, 0)
        refine mB_run odX1_holdsNearest 1 (g := (114, [(0, .ref x0), (1, .int x1), (2, .int x2), (3, .int x3)], [.int o9.2], (o9.1 ++ R), 0, 0)) rfl ?_
        refine mB_lv [0, 1] (lv' := [(0, .ref x0), (1, .int x1)]) rfl ?_
        exact eaX1_holdsNearest_114 _ _ _ _ hq
      · rw [if_neg c4] at hq
        refine ic_ne_T (t := 55) odX1_holdsNearest rfl rfl c4 ?_
        refine mB_run odX1_holdsNearest 2 (g := (57, [(0, .ref x0), (1, .int x1), (2, .int x2), (3, .int x3)], [.int (2 : Int32), .int x2], (h ++ R), 0, 0)) rfl ?_
        by_cases c13 : x2 = (2 : Int32)
        · rw [if_pos c13] at hq
          refine ic_ne_F (t := 79) odX1_holdsNearest rfl rfl c13 ?_
          refine mB_run odX1_holdsNearest 2 (g := (62, [(0, .ref x0), (1, .int x1), (2, .int x2), (3, .int x3)], [.ref x0, .ref x0], (h ++ R), 0, 0)) rfl ?_
          obtain ⟨v14, e15, hq⟩ := bsm hq
          refine r_gR odX1_holdsNearest rfl rfl (gR_ap e15) ?_
          refine mB_run odX1_holdsNearest 1 (g := (66, [(0, .ref x0), (1, .int x1), (2, .int x2), (3, .int x3)], [.int (0 : Int32), .ref v14, .ref x0], (h ++ R), 0, 0)) rfl ?_
          obtain ⟨v16, e17, hq⟩ := bsm hq
          refine r_aI odX1_holdsNearest rfl (aI_ap e17) ?_
          refine mB_run odX1_holdsNearest 1 (g := (68, [(0, .ref x0), (1, .int x1), (2, .int x2), (3, .int x3)], [.ref x0, .int v16, .ref x0], (h ++ R), 0, 0)) rfl ?_
          obtain ⟨v18, e19, hq⟩ := bsm hq
          refine r_gR odX1_holdsNearest rfl rfl (gR_ap e19) ?_
          refine mB_run odX1_holdsNearest 1 (g := (72, [(0, .ref x0), (1, .int x1), (2, .int x2), (3, .int x3)], [.int (1 : Int32), .ref v18, .int v16, .ref x0], (h ++ R), 0, 0)) rfl ?_
          obtain ⟨v20, e21, hq⟩ := bsm hq
          refine r_aI odX1_holdsNearest rfl (aI_ap e21) ?_
          obtain ⟨f24, k25, hq⟩ := bsm hq
          obtain ⟨o22, e23, hq⟩ := bsm hq
          refine mB_V (as := [.int v16, .int v20]) odX1_holdsNearest okX1_stepToLine lk_1_77 rfl (eaX1_stepToLine e23) (kO_at (kO_ap k25)) rfl rfl rfl ?_
          show mB _ mX1_holdsNearest (76, [(0, .ref x0), (1, .int x1), (2, .int x2), (3, .int x3)], [.int o22.2], (o22.1 ++ R), 0, 0)
          refine mB_run odX1_holdsNearest 1 (g := (114, [(0, .ref x0), (1, .int x1), (2, .int x2), (3, .int x3)], [.int o22.2], (o22.1 ++ R), 0, 0)) rfl ?_
          refine mB_lv [0, 1] (lv' := [(0, .ref x0), (1, .int x1)]) rfl ?_
          exact eaX1_holdsNearest_114 _ _ _ _ hq
        · rw [if_neg c13] at hq
          refine ic_ne_T (t := 79) odX1_holdsNearest rfl rfl c13 ?_
          refine mB_run odX1_holdsNearest 2 (g := (81, [(0, .ref x0), (1, .int x1), (2, .int x2), (3, .int x3)], [.int (3 : Int32), .int x2], (h ++ R), 0, 0)) rfl ?_
          by_cases c26 : x2 = (3 : Int32)
          · rw [if_pos c26] at hq
            refine ic_ne_F (t := 113) odX1_holdsNearest rfl rfl c26 ?_
            refine mB_run odX1_holdsNearest 2 (g := (86, [(0, .ref x0), (1, .int x1), (2, .int x2), (3, .int x3)], [.ref x0, .ref x0], (h ++ R), 0, 0)) rfl ?_
            obtain ⟨v27, e28, hq⟩ := bsm hq
            refine r_gR odX1_holdsNearest rfl rfl (gR_ap e28) ?_
            refine mB_run odX1_holdsNearest 1 (g := (90, [(0, .ref x0), (1, .int x1), (2, .int x2), (3, .int x3)], [.int (0 : Int32), .ref v27, .ref x0], (h ++ R), 0, 0)) rfl ?_
            obtain ⟨v29, e30, hq⟩ := bsm hq
            refine r_aI odX1_holdsNearest rfl (aI_ap e30) ?_
            refine mB_run odX1_holdsNearest 1 (g := (92, [(0, .ref x0), (1, .int x1), (2, .int x2), (3, .int x3)], [.ref x0, .int v29, .ref x0], (h ++ R), 0, 0)) rfl ?_
            obtain ⟨v31, e32, hq⟩ := bsm hq
            refine r_gR odX1_holdsNearest rfl rfl (gR_ap e32) ?_
            refine mB_run odX1_holdsNearest 1 (g := (96, [(0, .ref x0), (1, .int x1), (2, .int x2), (3, .int x3)], [.int (1 : Int32), .ref v31, .int v29, .ref x0], (h ++ R), 0, 0)) rfl ?_
            obtain ⟨v33, e34, hq⟩ := bsm hq
            refine r_aI odX1_holdsNearest rfl (aI_ap e34) ?_
            refine mB_run odX1_holdsNearest 1 (g := (98, [(0, .ref x0), (1, .int x1), (2, .int x2), (3, .int x3)], [.ref x0, .int v33, .int v29, .ref x0], (h ++ R), 0, 0)) rfl ?_
            obtain ⟨v35, e36, hq⟩ := bsm hq
            refine r_gR odX1_holdsNearest rfl rfl (gR_ap e36) ?_
            refine mB_run odX1_holdsNearest 1 (g := (102, [(0, .ref x0), (1, .int x1), (2, .int x2), (3, .int x3)], [.int (2 : Int32), .ref v35, .int v33, .int v29, .ref x0], (h ++ R), 0, 0)) rfl ?_
            obtain ⟨v37, e38, hq⟩ := bsm hq
            refine r_aI odX1_holdsNearest rfl (aI_ap e38) ?_
            obtain ⟨f41, k42, hq⟩ := bsm hq
            obtain ⟨o39, e40, hq⟩ := bsm hq
            refine mB_V (as := [.int v29, .int v33, .int v37]) odX1_holdsNearest okX1_stepToPlane lk_1_81 rfl (eaX1_stepToPlane e40) (kO_at (kO_ap k42)) rfl rfl rfl ?_
            show mB _ mX1_holdsNearest (106, [(0, .ref x0), (1, .int x1), (2, .int x2), (3, .int x3)], [.int o39.2], (o39.1 ++ R), 0, 0)
            by_cases c43 : o39.2 = 0
            · rw [if_pos c43] at hq
              refine if_eq_T (t := 113) odX1_holdsNearest rfl rfl c43 ?_
              refine mB_lv [0, 1] (lv' := [(0, .ref x0), (1, .int x1)]) rfl ?_
              exact eaX1_holdsNearest_113 _ _ _ hq
            · rw [if_neg c43] at hq
              refine if_eq_F (t := 113) odX1_holdsNearest rfl rfl c43 ?_
              refine mB_run odX1_holdsNearest 2 (g := (114, [(0, .ref x0), (1, .int x1), (2, .int x2), (3, .int x3)], [.int (1 : Int32)], (o39.1 ++ R), 0, 0)) rfl ?_
              refine mB_lv [0, 1] (lv' := [(0, .ref x0), (1, .int x1)]) rfl ?_
              exact eaX1_holdsNearest_114 _ _ _ _ hq
          · rw [if_neg c26] at hq
            refine ic_ne_T (t := 113) odX1_holdsNearest rfl rfl c26 ?_
            refine mB_lv [0, 1] (lv' := [(0, .ref x0), (1, .int x1)]) rfl ?_
            exact eaX1_holdsNearest_113 _ _ _ hq
    · rw [if_neg c3] at hq
      refine ic_ge_F (t := 37) odX1_holdsNearest rfl rfl c3 ?_
      refine mB_run odX1_holdsNearest 6 (g := (18, [(0, .ref x0), (1, .int x1), (2, .int x2), (3, .int x3)], [.int (1 : Int32), .int ((x1 >>> (x3 &&& 31)) &&& (1 : Int32))], (h ++ R), 0, 0)) rfl ?_
      by_cases c44 : ((x1 >>> (x3 &&& 31)) &&& (1 : Int32)) = (1 : Int32)
      · rw [if_pos c44] at hq
        refine ic_ne_F (t := 31) odX1_holdsNearest rfl rfl c44 ?_
        refine mB_run odX1_holdsNearest 1 (g := (22, [(0, .ref x0), (1, .int x1), (2, .int x2), (3, .int x3)], [.ref x0], (h ++ R), 0, 0)) rfl ?_
        obtain ⟨v45, e46, hq⟩ := bsm hq
        refine r_gR odX1_holdsNearest rfl rfl (gR_ap e46) ?_
        refine mB_run odX1_holdsNearest 2 (g := (27, [(0, .ref x0), (1, .int x1), (2, .int x2), (3, .int x3)], [.int x3, .int x2, .ref v45], (h ++ R), 0, 0)) rfl ?_
        obtain ⟨h47, e48, hq⟩ := bsm hq
        refine r_wI odX1_holdsNearest rfl (wI_ap e48) ?_
        refine mB_run odX1_holdsNearest 1 (g := (31, [(2, .int (x2 + (1 : Int32))), (0, .ref x0), (1, .int x1), (3, .int x3)], [], (h47 ++ R), 0, 0)) rfl ?_
        refine mB_lv [1, 2, 0, 3] (lv' := [(0, .ref x0), (1, .int x1), (2, .int (x2 + (1 : Int32))), (3, .int x3)]) rfl ?_
        exact eaX1_holdsNearest_31 ih _ _ _ _ _ hq
      · rw [if_neg c44] at hq
        refine ic_ne_T (t := 31) odX1_holdsNearest rfl rfl c44 ?_
        refine mB_lv [0, 1, 2, 3] (lv' := [(0, .ref x0), (1, .int x1), (2, .int x2), (3, .int x3)]) rfl ?_
        exact eaX1_holdsNearest_31 ih _ _ _ _ _ hq
def fxX1_holdsNearest (N : Nat) (p0 : Nat) (p1 : Int32) (h : mh) : Option (mh × Int32) :=
  fxX1_holdsNearest_4 N N p0 p1 (0 : Int32) (0 : Int32) h
set_option maxHeartbeats 4000000 in
set_option maxRecDepth 100000 in
theorem eaX1_holdsNearest {N : Nat} {R : mh} {p0 : Nat} {p1 : Int32} {h : mh} {o : (mh × Int32)} (hq : fxX1_holdsNearest N p0 p1 h = some o) : mC mX1_holdsNearest [.ref p0, .int p1] (h ++ R) (o.1 ++ R, some (.int o.2)) := by
  refine mC_of okX1_holdsNearest (Nat.le_of_ble_eq_true rfl) ?_
  unfold fxX1_holdsNearest at hq
  show mB _ mX1_holdsNearest (0, [(0, .ref p0), (1, .int p1)], [], (h ++ R), 0, 0)
  refine mB_run odX1_holdsNearest 4 (g := (4, [(3, .int (0 : Int32)), (2, .int (0 : Int32)), (0, .ref p0), (1, .int p1)], [], (h ++ R), 0, 0)) rfl ?_
  refine mB_lv [2, 3, 1, 0] (lv' := [(0, .ref p0), (1, .int p1), (2, .int (0 : Int32)), (3, .int (0 : Int32))]) rfl ?_
  exact eaX1_holdsNearest_4 N _ _ _ _ _ hq
def fxX1_keepPicked_60 (N : Nat) (rec4 : Nat → Int32 → Int32 → Int32 → mh → Option mh) (x0 : Nat) (x1 : Int32) (x2 : Int32) (x3 : Int32) (h : mh) : Option mh :=
  rec4 x0 x1 x2 (x3 + (1 : Int32)) h
set_option maxHeartbeats 4000000 in
set_option maxRecDepth 100000 in
theorem eaX1_keepPicked_60 {N : Nat} {R : mh} {rec4 : Nat → Int32 → Int32 → Int32 → mh → Option mh} (hrec4 : ∀ (x0 : Nat) (x1 : Int32) (x2 : Int32) (x3 : Int32) (h : mh) {o : mh}, rec4 x0 x1 x2 x3 h = some o → mB (gO mX1_keepPicked (o ++ R, none)) mX1_keepPicked (4, [(0, .ref x0), (1, .int x1), (2, .int x2), (3, .int x3)], [], (h ++ R), 0, 0)) (x0 : Nat) (x1 : Int32) (x2 : Int32) (x3 : Int32) (h : mh) {o : mh} (hq : fxX1_keepPicked_60 N rec4 x0 x1 x2 x3 h = some o) : mB (gO mX1_keepPicked (o ++ R, none)) mX1_keepPicked (60, [(0, .ref x0), (1, .int x1), (2, .int x2), (3, .int x3)], [], (h ++ R), 0, 0) := by
  unfold fxX1_keepPicked_60 at hq
  refine mB_run odX1_keepPicked 2 (g := (4, [(3, .int (x3 + (1 : Int32))), (0, .ref x0), (1, .int x1), (2, .int x2)], [], (h ++ R), 0, 0)) rfl ?_
  refine mB_lv [1, 2, 3, 0] (lv' := [(0, .ref x0), (1, .int x1), (2, .int x2), (3, .int (x3 + (1 : Int32)))]) rfl ?_
  exact hrec4 _ _ _ _ _ hq
def fxX1_keepPicked_4 (N : Nat) : Nat → Nat → Int32 → Int32 → Int32 → mh → Option mh
  | 0, _, _, _, _, _ => none
  | n + 1, x0, x1, x2, x3, h =>
    (gI h x0 1 2).bind fun v1 =>
    if v1 ≤ x3 then (
      (sV h x0 1 2 (.int x2)).bind fun h4 =>
      some h4) else (
      if ((x1 >>> (x3 &&& 31)) &&& (1 : Int32)) = (1 : Int32) then (
        (gR h x0 1 3).bind fun v7 =>
        (gR h x0 1 3).bind fun v9 =>
        (aI h v9 x3).bind fun v11 =>
        (wI h v7 x2 v11).bind fun h13 =>
        (gR h13 x0 1 4).bind fun v15 =>
        (gR h13 x0 1 4).bind fun v17 =>
        (aI h13 v17 x3).bind fun v19 =>
        (wI h13 v15 x2 v19).bind fun h21 =>
        (gR h21 x0 1 5).bind fun v23 =>
        (gR h21 x0 1 5).bind fun v25 =>
        (aI h21 v25 x3).bind fun v27 =>
        (wI h21 v23 x2 v27).bind fun h29 =>
        fxX1_keepPicked_60 N (fxX1_keepPicked_4 N n) x0 x1 (x2 + (1 : Int32)) x3 h29) else (
        fxX1_keepPicked_60 N (fxX1_keepPicked_4 N n) x0 x1 x2 x3 h))
set_option maxHeartbeats 4000000 in
set_option maxRecDepth 100000 in
theorem eaX1_keepPicked_4 {N : Nat} {R : mh} : ∀ (n : Nat) (x0 : Nat) (x1 : Int32) (x2 : Int32) (x3 : Int32) (h : mh) {o : mh}, fxX1_keepPicked_4 N n x0 x1 x2 x3 h = some o → mB (gO mX1_keepPicked (o ++ R, none)) mX1_keepPicked (4, [(0, .ref x0), (1, .int x1), (2, .int x2), (3, .int x3)], [], (h ++ R), 0, 0) := by
  intro n
  induction n with
  | zero => intro x0 x1 x2 x3 h o hq; cases hq
  | succ n ih =>
    intro x0 x1 x2 x3 h o hq
    unfold fxX1_keepPicked_4 at hq
    refine mB_run odX1_keepPicked 2 (g := (6, [(0, .ref x0), (1, .int x1), (2, .int x2), (3, .int x3)], [.ref x0, .int x3], (h ++ R), 0, 0)) rfl ?_
    obtain ⟨v1, e2, hq⟩ := bsm hq
    refine r_gI odX1_keepPicked rfl rfl (gI_ap e2) ?_
    by_cases c3 : v1 ≤ x3
    · rw [if_pos c3] at hq
      refine ic_ge_T (t := 66) odX1_keepPicked rfl rfl c3 ?_
      refine mB_run odX1_keepPicked 2 (g := (68, [(0, .ref x0), (1, .int x1), (2, .int x2), (3, .int x3)], [.int x2, .ref x0], (h ++ R), 0, 0)) rfl ?_
      obtain ⟨h4, e5, hq⟩ := bsm hq
      refine r_sV odX1_keepPicked rfl rfl rfl rfl (sV_ap e5) ?_
      cases hq
      exact mB_ret odX1_keepPicked rfl
    · rw [if_neg c3] at hq
      refine ic_ge_F (t := 66) odX1_keepPicked rfl rfl c3 ?_
      refine mB_run odX1_keepPicked 6 (g := (18, [(0, .ref x0), (1, .int x1), (2, .int x2), (3, .int x3)], [.int (1 : Int32), .int ((x1 >>> (x3 &&& 31)) &&& (1 : Int32))], (h ++ R), 0, 0)) rfl ?_
      by_cases c6 : ((x1 >>> (x3 &&& 31)) &&& (1 : Int32)) = (1 : Int32)
      · rw [if_pos c6] at hq
        refine ic_ne_F (t := 60) odX1_keepPicked rfl rfl c6 ?_
        refine mB_run odX1_keepPicked 1 (g := (22, [(0, .ref x0), (1, .int x1), (2, .int x2), (3, .int x3)], [.ref x0], (h ++ R), 0, 0)) rfl ?_
        obtain ⟨v7, e8, hq⟩ := bsm hq
        refine r_gR odX1_keepPicked rfl rfl (gR_ap e8) ?_
        refine mB_run odX1_keepPicked 2 (g := (27, [(0, .ref x0), (1, .int x1), (2, .int x2), (3, .int x3)], [.ref x0, .int x2, .ref v7], (h ++ R), 0, 0)) rfl ?_
        obtain ⟨v9, e10, hq⟩ := bsm hq
        refine r_gR odX1_keepPicked rfl rfl (gR_ap e10) ?_
        refine mB_run odX1_keepPicked 1 (g := (31, [(0, .ref x0), (1, .int x1), (2, .int x2), (3, .int x3)], [.int x3, .ref v9, .int x2, .ref v7], (h ++ R), 0, 0)) rfl ?_
        obtain ⟨v11, e12, hq⟩ := bsm hq
        refine r_aI odX1_keepPicked rfl (aI_ap e12) ?_
        obtain ⟨h13, e14, hq⟩ := bsm hq
        refine r_wI odX1_keepPicked rfl (wI_ap e14) ?_
        refine mB_run odX1_keepPicked 1 (g := (34, [(0, .ref x0), (1, .int x1), (2, .int x2), (3, .int x3)], [.ref x0], (h13 ++ R), 0, 0)) rfl ?_
        obtain ⟨v15, e16, hq⟩ := bsm hq
        refine r_gR odX1_keepPicked rfl rfl (gR_ap e16) ?_
        refine mB_run odX1_keepPicked 2 (g := (39, [(0, .ref x0), (1, .int x1), (2, .int x2), (3, .int x3)], [.ref x0, .int x2, .ref v15], (h13 ++ R), 0, 0)) rfl ?_
        obtain ⟨v17, e18, hq⟩ := bsm hq
        refine r_gR odX1_keepPicked rfl rfl (gR_ap e18) ?_
        refine mB_run odX1_keepPicked 1 (g := (43, [(0, .ref x0), (1, .int x1), (2, .int x2), (3, .int x3)], [.int x3, .ref v17, .int x2, .ref v15], (h13 ++ R), 0, 0)) rfl ?_
        obtain ⟨v19, e20, hq⟩ := bsm hq
        refine r_aI odX1_keepPicked rfl (aI_ap e20) ?_
        obtain ⟨h21, e22, hq⟩ := bsm hq
        refine r_wI odX1_keepPicked rfl (wI_ap e22) ?_
        refine mB_run odX1_keepPicked 1 (g := (46, [(0, .ref x0), (1, .int x1), (2, .int x2), (3, .int x3)], [.ref x0], (h21 ++ R), 0, 0)) rfl ?_
        obtain ⟨v23, e24, hq⟩ := bsm hq
        refine r_gR odX1_keepPicked rfl rfl (gR_ap e24) ?_
        refine mB_run odX1_keepPicked 2 (g := (51, [(0, .ref x0), (1, .int x1), (2, .int x2), (3, .int x3)], [.ref x0, .int x2, .ref v23], (h21 ++ R), 0, 0)) rfl ?_
        obtain ⟨v25, e26, hq⟩ := bsm hq
        refine r_gR odX1_keepPicked rfl rfl (gR_ap e26) ?_
        refine mB_run odX1_keepPicked 1 (g := (55, [(0, .ref x0), (1, .int x1), (2, .int x2), (3, .int x3)], [.int x3, .ref v25, .int x2, .ref v23], (h21 ++ R), 0, 0)) rfl ?_
        obtain ⟨v27, e28, hq⟩ := bsm hq
        refine r_aI odX1_keepPicked rfl (aI_ap e28) ?_
        obtain ⟨h29, e30, hq⟩ := bsm hq
        refine r_wI odX1_keepPicked rfl (wI_ap e30) ?_
        refine mB_run odX1_keepPicked 1 (g := (60, [(2, .int (x2 + (1 : Int32))), (0, .ref x0), (1, .int x1), (3, .int x3)], [], (h29 ++ R), 0, 0)) rfl ?_
        refine mB_lv [1, 2, 0, 3] (lv' := [(0, .ref x0), (1, .int x1), (2, .int (x2 + (1 : Int32))), (3, .int x3)]) rfl ?_
        exact eaX1_keepPicked_60 ih _ _ _ _ _ hq
      · rw [if_neg c6] at hq
        refine ic_ne_T (t := 60) odX1_keepPicked rfl rfl c6 ?_
        refine mB_lv [0, 1, 2, 3] (lv' := [(0, .ref x0), (1, .int x1), (2, .int x2), (3, .int x3)]) rfl ?_
        exact eaX1_keepPicked_60 ih _ _ _ _ _ hq
def fxX1_keepPicked (N : Nat) (p0 : Nat) (p1 : Int32) (h : mh) : Option mh :=
  fxX1_keepPicked_4 N N p0 p1 (0 : Int32) (0 : Int32) h
set_option maxHeartbeats 4000000 in
set_option maxRecDepth 100000 in
theorem eaX1_keepPicked {N : Nat} {R : mh} {p0 : Nat} {p1 : Int32} {h : mh} {o : mh} (hq : fxX1_keepPicked N p0 p1 h = some o) : mC mX1_keepPicked [.ref p0, .int p1] (h ++ R) (o ++ R, none) := by
  refine mC_of okX1_keepPicked (Nat.le_of_ble_eq_true rfl) ?_
  unfold fxX1_keepPicked at hq
  show mB _ mX1_keepPicked (0, [(0, .ref p0), (1, .int p1)], [], (h ++ R), 0, 0)
  refine mB_run odX1_keepPicked 4 (g := (4, [(3, .int (0 : Int32)), (2, .int (0 : Int32)), (0, .ref p0), (1, .int p1)], [], (h ++ R), 0, 0)) rfl ?_
  refine mB_lv [2, 3, 1, 0] (lv' := [(0, .ref p0), (1, .int p1), (2, .int (0 : Int32)), (3, .int (0 : Int32))]) rfl ?_
  exact eaX1_keepPicked_4 N _ _ _ _ _ hq
def fxX1_shrink_11 (N : Nat) : Nat → Nat → Int32 → Int32 → mh → Option (mh × Int32)
  | 0, _, _, _, _ => none
  | n + 1, x0, x1, x2, h =>
    if x1 ≤ x2 then (
      some (h, (0 : Int32))) else (
      (kO h x0 1).bind fun f6 =>
      (fxX1_holdsNearest N x0 (x1 ||| x2) h).bind fun o4 =>
      if o4.2 = 0 then (
        fxX1_shrink_11 N n x0 x1 (x2 + (1 : Int32)) o4.1) else (
        (kO o4.1 x0 1).bind fun f11 =>
        (fxX1_keepPicked N x0 (x1 ||| x2) o4.1).bind fun o9 =>
        some (o9, (1 : Int32))))
set_option maxHeartbeats 4000000 in
set_option maxRecDepth 100000 in
theorem eaX1_shrink_11 {N : Nat} {R : mh} : ∀ (n : Nat) (x0 : Nat) (x1 : Int32) (x2 : Int32) (h : mh) {o : (mh × Int32)}, fxX1_shrink_11 N n x0 x1 x2 h = some o → mB (gO mX1_shrink (o.1 ++ R, some (.int o.2))) mX1_shrink (11, [(0, .ref x0), (1, .int x1), (2, .int x2)], [], (h ++ R), 0, 0) := by
  intro n
  induction n with
  | zero => intro x0 x1 x2 h o hq; cases hq
  | succ n ih =>
    intro x0 x1 x2 h o hq
    unfold fxX1_shrink_11 at hq
    refine mB_run odX1_shrink 2 (g := (13, [(0, .ref x0), (1, .int x1), (2, .int x2)], [.int x1, .int x2], (h ++ R), 0, 0)) rfl ?_
    by_cases c3 : x1 ≤ x2
    · rw [if_pos c3] at hq
      refine ic_ge_T (t := 41) odX1_shrink rfl rfl c3 ?_
      refine mB_run odX1_shrink 1 (g := (42, [(0, .ref x0), (1, .int x1), (2, .int x2)], [.int (0 : Int32)], (h ++ R), 0, 0)) rfl ?_
      cases hq
      exact mB_ret odX1_shrink rfl
    · rw [if_neg c3] at hq
      refine ic_ge_F (t := 41) odX1_shrink rfl rfl c3 ?_
      refine mB_run odX1_shrink 4 (g := (20, [(0, .ref x0), (1, .int x1), (2, .int x2)], [.int (x1 ||| x2), .ref x0], (h ++ R), 0, 0)) rfl ?_
      obtain ⟨f6, k7, hq⟩ := bsm hq
      obtain ⟨o4, e5, hq⟩ := bsm hq
      refine mB_V (as := [.int (x1 ||| x2)]) odX1_shrink okX1_holdsNearest lk_1_66 rfl (eaX1_holdsNearest e5) (kO_at (kO_ap k7)) rfl rfl rfl ?_
      show mB _ mX1_shrink (23, [(0, .ref x0), (1, .int x1), (2, .int x2)], [.int o4.2], (o4.1 ++ R), 0, 0)
      by_cases c8 : o4.2 = 0
      · rw [if_pos c8] at hq
        refine if_eq_T (t := 35) odX1_shrink rfl rfl c8 ?_
        refine mB_run odX1_shrink 2 (g := (11, [(2, .int (x2 + (1 : Int32))), (0, .ref x0), (1, .int x1)], [], (o4.1 ++ R), 0, 0)) rfl ?_
        refine mB_lv [1, 2, 0] (lv' := [(0, .ref x0), (1, .int x1), (2, .int (x2 + (1 : Int32)))]) rfl ?_
        exact ih _ _ _ _ hq
      · rw [if_neg c8] at hq
        refine if_eq_F (t := 35) odX1_shrink rfl rfl c8 ?_
        refine mB_run odX1_shrink 4 (g := (30, [(0, .ref x0), (1, .int x1), (2, .int x2)], [.int (x1 ||| x2), .ref x0], (o4.1 ++ R), 0, 0)) rfl ?_
        obtain ⟨f11, k12, hq⟩ := bsm hq
        obtain ⟨o9, e10, hq⟩ := bsm hq
        refine mB_V (as := [.int (x1 ||| x2)]) odX1_shrink okX1_keepPicked lk_1_70 rfl (eaX1_keepPicked e10) (kO_at (kO_ap k12)) rfl rfl rfl ?_
        show mB _ mX1_shrink (33, [(0, .ref x0), (1, .int x1), (2, .int x2)], [], (o9 ++ R), 0, 0)
        refine mB_run odX1_shrink 1 (g := (34, [(0, .ref x0), (1, .int x1), (2, .int x2)], [.int (1 : Int32)], (o9 ++ R), 0, 0)) rfl ?_
        cases hq
        exact mB_ret odX1_shrink rfl
def fxX1_shrink (N : Nat) (p0 : Nat) (h : mh) : Option (mh × Int32) :=
  (gI h p0 1 2).bind fun v1 =>
  fxX1_shrink_11 N N p0 ((1 : Int32) <<< ((v1 - (1 : Int32)) &&& 31)) (0 : Int32) h
set_option maxHeartbeats 4000000 in
set_option maxRecDepth 100000 in
theorem eaX1_shrink {N : Nat} {R : mh} {p0 : Nat} {h : mh} {o : (mh × Int32)} (hq : fxX1_shrink N p0 h = some o) : mC mX1_shrink [.ref p0] (h ++ R) (o.1 ++ R, some (.int o.2)) := by
  refine mC_of okX1_shrink (Nat.le_of_ble_eq_true rfl) ?_
  unfold fxX1_shrink at hq
  show mB _ mX1_shrink (0, [(0, .ref p0)], [], (h ++ R), 0, 0)
  refine mB_run odX1_shrink 2 (g := (2, [(0, .ref p0)], [.ref p0, .int (1 : Int32)], (h ++ R), 0, 0)) rfl ?_
  obtain ⟨v1, e2, hq⟩ := bsm hq
  refine r_gI odX1_shrink rfl rfl (gI_ap e2) ?_
  refine mB_run odX1_shrink 6 (g := (11, [(2, .int (0 : Int32)), (1, .int ((1 : Int32) <<< ((v1 - (1 : Int32)) &&& 31))), (0, .ref p0)], [], (h ++ R), 0, 0)) rfl ?_
  refine mB_lv [2, 1, 0] (lv' := [(0, .ref p0), (1, .int ((1 : Int32) <<< ((v1 - (1 : Int32)) &&& 31))), (2, .int (0 : Int32))]) rfl ?_
  exact eaX1_shrink_11 N _ _ _ _ hq
def fxX1_reckon_37 (N : Nat) (x0 : Nat) (h : mh) : Option mh :=
  (sV h x0 1 0 (.long (0 : Int64))).bind fun h49 =>
  (sV h49 x0 1 1 (.long (1 : Int64))).bind fun h51 =>
  some h51
set_option maxHeartbeats 4000000 in
set_option maxRecDepth 100000 in
theorem eaX1_reckon_37 {N : Nat} {R : mh} (x0 : Nat) (h : mh) {o : mh} (hq : fxX1_reckon_37 N x0 h = some o) : mB (gO mX1_reckon (o ++ R, none)) mX1_reckon (37, [(0, .ref x0)], [], (h ++ R), 0, 0) := by
  unfold fxX1_reckon_37 at hq
  refine mB_run odX1_reckon 2 (g := (39, [(0, .ref x0)], [.long (0 : Int64), .ref x0], (h ++ R), 0, 0)) rfl ?_
  obtain ⟨h49, e50, hq⟩ := bsm hq
  refine r_sV odX1_reckon rfl rfl rfl rfl (sV_ap e50) ?_
  refine mB_run odX1_reckon 2 (g := (44, [(0, .ref x0)], [.long (1 : Int64), .ref x0], (h49 ++ R), 0, 0)) rfl ?_
  obtain ⟨h51, e52, hq⟩ := bsm hq
  refine r_sV odX1_reckon rfl rfl rfl rfl (sV_ap e52) ?_
  cases hq
  exact mB_ret odX1_reckon rfl
def fxX1_reckon_15 (N : Nat) : Nat → Nat → Nat → Nat → Int32 → mh → Option mh
  | 0, _, _, _, _, _ => none
  | n + 1, x0, x1, x2, x3, h =>
    if (100000 : Int32) ≤ x3 then (
      some h) else (
      (kO h x0 1).bind fun f10 =>
      (fxX1_shrink N x0 h).bind fun o8 =>
      if o8.2 = 0 then (
        fxX1_reckon_37 N x0 o8.1) else (
        (gJ o8.1 x0 1 0).bind fun v13 =>
        if v13 = (0 : Int64) then (
          fxX1_reckon_37 N x0 o8.1) else (
          (gJ o8.1 x0 1 7).bind fun v16 =>
          (gJ o8.1 x0 1 8).bind fun v18 =>
          (gJ o8.1 x0 1 9).bind fun v20 =>
          (kO o8.1 x1 3).bind fun f24 =>
          (fxX3_farthest N x1 (-v16) (-v18) (-v20) o8.1).bind fun o22 =>
          (gJ o22.1 x0 1 7).bind fun v26 =>
          (gJ o22.1 x0 1 8).bind fun v28 =>
          (gJ o22.1 x0 1 9).bind fun v30 =>
          (kO o22.1 x2 3).bind fun f34 =>
          (fxX3_farthest N x2 v26 v28 v30 o22.1).bind fun o32 =>
          (kO o32.1 x0 1).bind fun f38 =>
          (fxX1_addDifference N x0 x1 o22.2 x2 o32.2 o32.1).bind fun o36 =>
          (gI o36 x0 1 2).bind fun v40 =>
          (kO o36 x0 1).bind fun f44 =>
          (fxX1_along N x0 (v40 - (1 : Int32)) o36).bind fun o42 =>
          (gJ o42.1 x0 1 0).bind fun v46 =>
          if o42.2 < v46 then (
            fxX1_reckon_15 N n x0 x1 x2 (x3 + (1 : Int32)) o42.1) else (
            some o42.1))))
set_option maxHeartbeats 4000000 in
set_option maxRecDepth 100000 in
theorem eaX1_reckon_15 {N : Nat} {R : mh} : ∀ (n : Nat) (x0 : Nat) (x1 : Nat) (x2 : Nat) (x3 : Int32) (h : mh) {o : mh}, fxX1_reckon_15 N n x0 x1 x2 x3 h = some o → mB (gO mX1_reckon (o ++ R, none)) mX1_reckon (15, [(0, .ref x0), (1, .ref x1), (2, .ref x2), (3, .int x3)], [], (h ++ R), 0, 0) := by
  intro n
  induction n with
  | zero => intro x0 x1 x2 x3 h o hq; cases hq
  | succ n ih =>
    intro x0 x1 x2 x3 h o hq
    unfold fxX1_reckon_15 at hq
    refine mB_run odX1_reckon 2 (g := (18, [(0, .ref x0), (1, .ref x1), (2, .ref x2), (3, .int x3)], [.int (100000 : Int32), .int x3], (h ++ R), 0, 0)) rfl ?_
    by_cases c7 : (100000 : Int32) ≤ x3
    · rw [if_pos c7] at hq
      refine ic_ge_T (t := 114) odX1_reckon rfl rfl c7 ?_
      cases hq
      exact mB_ret odX1_reckon rfl
    · rw [if_neg c7] at hq
      refine ic_ge_F (t := 114) odX1_reckon rfl rfl c7 ?_
      refine mB_run odX1_reckon 1 (g := (22, [(0, .ref x0), (1, .ref x1), (2, .ref x2), (3, .int x3)], [.ref x0], (h ++ R), 0, 0)) rfl ?_
      obtain ⟨f10, k11, hq⟩ := bsm hq
      obtain ⟨o8, e9, hq⟩ := bsm hq
      refine mB_V (as := []) odX1_reckon okX1_shrink lk_1_49 rfl (eaX1_shrink e9) (kO_at (kO_ap k11)) rfl rfl rfl ?_
      show mB _ mX1_reckon (25, [(0, .ref x0), (1, .ref x1), (2, .ref x2), (3, .int x3)], [.int o8.2], (o8.1 ++ R), 0, 0)
      by_cases c12 : o8.2 = 0
      · rw [if_pos c12] at hq
        refine if_eq_T (t := 37) odX1_reckon rfl rfl c12 ?_
        refine mB_lv [0] (lv' := [(0, .ref x0)]) rfl ?_
        exact eaX1_reckon_37 _ _ hq
      · rw [if_neg c12] at hq
        refine if_eq_F (t := 37) odX1_reckon rfl rfl c12 ?_
        refine mB_run odX1_reckon 1 (g := (29, [(0, .ref x0), (1, .ref x1), (2, .ref x2), (3, .int x3)], [.ref x0], (o8.1 ++ R), 0, 0)) rfl ?_
        obtain ⟨v13, e14, hq⟩ := bsm hq
        refine r_gJ odX1_reckon rfl rfl (gJ_ap e14) ?_
        refine mB_run odX1_reckon 1 (g := (33, [(0, .ref x0), (1, .ref x1), (2, .ref x2), (3, .int x3)], [.long (0 : Int64), .long v13], (o8.1 ++ R), 0, 0)) rfl ?_
        by_cases c15 : v13 = (0 : Int64)
        · rw [if_pos c15] at hq
          refine lc_ne_F (t := 48) odX1_reckon rfl rfl rfl c15 ?_
          refine mB_lv [0] (lv' := [(0, .ref x0)]) rfl ?_
          exact eaX1_reckon_37 _ _ hq
        · rw [if_neg c15] at hq
          refine lc_ne_T (t := 48) odX1_reckon rfl rfl rfl c15 ?_
          refine mB_run odX1_reckon 4 (g := (52, [(0, .ref x0), (1, .ref x1), (2, .ref x2), (3, .int x3)], [.ref x0, .ref x1, .ref x1, .ref x0], (o8.1 ++ R), 0, 0)) rfl ?_
          obtain ⟨v16, e17, hq⟩ := bsm hq
          refine r_gJ odX1_reckon rfl rfl (gJ_ap e17) ?_
          refine mB_run odX1_reckon 2 (g := (57, [(0, .ref x0), (1, .ref x1), (2, .ref x2), (3, .int x3)], [.ref x0, .long (-v16), .ref x1, .ref x1, .ref x0], (o8.1 ++ R), 0, 0)) rfl ?_
          obtain ⟨v18, e19, hq⟩ := bsm hq
          refine r_gJ odX1_reckon rfl rfl (gJ_ap e19) ?_
          refine mB_run odX1_reckon 2 (g := (62, [(0, .ref x0), (1, .ref x1), (2, .ref x2), (3, .int x3)], [.ref x0, .long (-v18), .long (-v16), .ref x1, .ref x1, .ref x0], (o8.1 ++ R), 0, 0)) rfl ?_
          obtain ⟨v20, e21, hq⟩ := bsm hq
          refine r_gJ odX1_reckon rfl rfl (gJ_ap e21) ?_
          refine mB_run odX1_reckon 1 (g := (66, [(0, .ref x0), (1, .ref x1), (2, .ref x2), (3, .int x3)], [.long (-v20), .long (-v18), .long (-v16), .ref x1, .ref x1, .ref x0], (o8.1 ++ R), 0, 0)) rfl ?_
          obtain ⟨f24, k25, hq⟩ := bsm hq
          obtain ⟨o22, e23, hq⟩ := bsm hq
          refine mB_V (as := [.long (-v16), .long (-v18), .long (-v20)]) odX1_reckon okX3_farthest lk_1_53 rfl (eaX3_farthest e23) (kO_at (kO_ap k25)) rfl rfl rfl ?_
          show mB _ mX1_reckon (69, [(0, .ref x0), (1, .ref x1), (2, .ref x2), (3, .int x3)], [.int o22.2, .ref x1, .ref x0], (o22.1 ++ R), 0, 0)
          refine mB_run odX1_reckon 3 (g := (72, [(0, .ref x0), (1, .ref x1), (2, .ref x2), (3, .int x3)], [.ref x0, .ref x2, .ref x2, .int o22.2, .ref x1, .ref x0], (o22.1 ++ R), 0, 0)) rfl ?_
          obtain ⟨v26, e27, hq⟩ := bsm hq
          refine r_gJ odX1_reckon rfl rfl (gJ_ap e27) ?_
          refine mB_run odX1_reckon 1 (g := (76, [(0, .ref x0), (1, .ref x1), (2, .ref x2), (3, .int x3)], [.ref x0, .long v26, .ref x2, .ref x2, .int o22.2, .ref x1, .ref x0], (o22.1 ++ R), 0, 0)) rfl ?_
          obtain ⟨v28, e29, hq⟩ := bsm hq
          refine r_gJ odX1_reckon rfl rfl (gJ_ap e29) ?_
          refine mB_run odX1_reckon 1 (g := (80, [(0, .ref x0), (1, .ref x1), (2, .ref x2), (3, .int x3)], [.ref x0, .long v28, .long v26, .ref x2, .ref x2, .int o22.2, .ref x1, .ref x0], (o22.1 ++ R), 0, 0)) rfl ?_
          obtain ⟨v30, e31, hq⟩ := bsm hq
          refine r_gJ odX1_reckon rfl rfl (gJ_ap e31) ?_
          obtain ⟨f34, k35, hq⟩ := bsm hq
          obtain ⟨o32, e33, hq⟩ := bsm hq
          refine mB_V (as := [.long v26, .long v28, .long v30]) odX1_reckon okX3_farthest lk_1_53 rfl (eaX3_farthest e33) (kO_at (kO_ap k35)) rfl rfl rfl ?_
          show mB _ mX1_reckon (86, [(0, .ref x0), (1, .ref x1), (2, .ref x2), (3, .int x3)], [.int o32.2, .ref x2, .int o22.2, .ref x1, .ref x0], (o32.1 ++ R), 0, 0)
          obtain ⟨f38, k39, hq⟩ := bsm hq
          obtain ⟨o36, e37, hq⟩ := bsm hq
          refine mB_V (as := [.ref x1, .int o22.2, .ref x2, .int o32.2]) odX1_reckon okX1_addDifference lk_1_44 rfl (eaX1_addDifference e37) (kO_at (kO_ap k39)) rfl rfl rfl ?_
          show mB _ mX1_reckon (89, [(0, .ref x0), (1, .ref x1), (2, .ref x2), (3, .int x3)], [], (o36 ++ R), 0, 0)
          refine mB_run odX1_reckon 2 (g := (91, [(0, .ref x0), (1, .ref x1), (2, .ref x2), (3, .int x3)], [.ref x0, .ref x0], (o36 ++ R), 0, 0)) rfl ?_
          obtain ⟨v40, e41, hq⟩ := bsm hq
          refine r_gI odX1_reckon rfl rfl (gI_ap e41) ?_
          refine mB_run odX1_reckon 2 (g := (96, [(0, .ref x0), (1, .ref x1), (2, .ref x2), (3, .int x3)], [.int (v40 - (1 : Int32)), .ref x0], (o36 ++ R), 0, 0)) rfl ?_
          obtain ⟨f44, k45, hq⟩ := bsm hq
          obtain ⟨o42, e43, hq⟩ := bsm hq
          refine mB_V (as := [.int (v40 - (1 : Int32))]) odX1_reckon okX1_along lk_1_59 rfl (eaX1_along e43) (kO_at (kO_ap k45)) rfl rfl rfl ?_
          show mB _ mX1_reckon (99, [(0, .ref x0), (1, .ref x1), (2, .ref x2), (3, .int x3)], [.long o42.2], (o42.1 ++ R), 0, 0)
          refine mB_run odX1_reckon 1 (g := (100, [(0, .ref x0), (1, .ref x1), (2, .ref x2), (3, .int x3)], [.ref x0, .long o42.2], (o42.1 ++ R), 0, 0)) rfl ?_
          obtain ⟨v46, e47, hq⟩ := bsm hq
          refine r_gJ odX1_reckon rfl rfl (gJ_ap e47) ?_
          by_cases c48 : o42.2 < v46
          · rw [if_pos c48] at hq
            refine lc_lt_T (t := 108) odX1_reckon rfl rfl rfl c48 ?_
            refine mB_run odX1_reckon 2 (g := (15, [(3, .int (x3 + (1 : Int32))), (0, .ref x0), (1, .ref x1), (2, .ref x2)], [], (o42.1 ++ R), 0, 0)) rfl ?_
            refine mB_lv [1, 2, 3, 0] (lv' := [(0, .ref x0), (1, .ref x1), (2, .ref x2), (3, .int (x3 + (1 : Int32)))]) rfl ?_
            exact ih _ _ _ _ _ hq
          · rw [if_neg c48] at hq
            refine lc_lt_F (t := 108) odX1_reckon rfl rfl rfl c48 ?_
            cases hq
            exact mB_ret odX1_reckon rfl
def fxX1_reckon (N : Nat) (p0 : Nat) (p1 : Nat) (p2 : Nat) (h : mh) : Option mh :=
  (sV h p0 1 2 (.int (0 : Int32))).bind fun h1 =>
  (kO h1 p0 1).bind fun f5 =>
  (fxX1_addDifference N p0 p1 (0 : Int32) p2 (0 : Int32) h1).bind fun o3 =>
  fxX1_reckon_15 N N p0 p1 p2 (0 : Int32) o3
set_option maxHeartbeats 4000000 in
set_option maxRecDepth 100000 in
theorem eaX1_reckon {N : Nat} {R : mh} {p0 : Nat} {p1 : Nat} {p2 : Nat} {h : mh} {o : mh} (hq : fxX1_reckon N p0 p1 p2 h = some o) : mC mX1_reckon [.ref p0, .ref p1, .ref p2] (h ++ R) (o ++ R, none) := by
  refine mC_of okX1_reckon (Nat.le_of_ble_eq_true rfl) ?_
  unfold fxX1_reckon at hq
  show mB _ mX1_reckon (0, [(0, .ref p0), (1, .ref p1), (2, .ref p2)], [], (h ++ R), 0, 0)
  refine mB_run odX1_reckon 2 (g := (2, [(0, .ref p0), (1, .ref p1), (2, .ref p2)], [.int (0 : Int32), .ref p0], (h ++ R), 0, 0)) rfl ?_
  obtain ⟨h1, e2, hq⟩ := bsm hq
  refine r_sV odX1_reckon rfl rfl rfl rfl (sV_ap e2) ?_
  refine mB_run odX1_reckon 5 (g := (10, [(0, .ref p0), (1, .ref p1), (2, .ref p2)], [.int (0 : Int32), .ref p2, .int (0 : Int32), .ref p1, .ref p0], (h1 ++ R), 0, 0)) rfl ?_
  obtain ⟨f5, k6, hq⟩ := bsm hq
  obtain ⟨o3, e4, hq⟩ := bsm hq
  refine mB_V (as := [.ref p1, .int (0 : Int32), .ref p2, .int (0 : Int32)]) odX1_reckon okX1_addDifference lk_1_44 rfl (eaX1_addDifference e4) (kO_at (kO_ap k6)) rfl rfl rfl ?_
  show mB _ mX1_reckon (13, [(0, .ref p0), (1, .ref p1), (2, .ref p2)], [], (o3 ++ R), 0, 0)
  refine mB_run odX1_reckon 2 (g := (15, [(3, .int (0 : Int32)), (0, .ref p0), (1, .ref p1), (2, .ref p2)], [], (o3 ++ R), 0, 0)) rfl ?_
  refine mB_lv [1, 2, 3, 0] (lv' := [(0, .ref p0), (1, .ref p1), (2, .ref p2), (3, .int (0 : Int32))]) rfl ?_
  exact eaX1_reckon_15 N _ _ _ _ _ hq
def fxX5_clear (N : Nat) (p0 : Nat) (h : mh) : Option mh :=
  (gR h p0 5 0).bind fun v1 =>
  (kO h v1 3).bind fun f5 =>
  (fxX3_clear N v1 h).bind fun o3 =>
  (sV o3 p0 5 1 (.int (0 : Int32))).bind fun h7 =>
  some h7
set_option maxHeartbeats 4000000 in
set_option maxRecDepth 100000 in
theorem eaX5_clear {N : Nat} {R : mh} {p0 : Nat} {h : mh} {o : mh} (hq : fxX5_clear N p0 h = some o) : mC mX5_clear [.ref p0] (h ++ R) (o ++ R, none) := by
  refine mC_of okX5_clear (Nat.le_of_ble_eq_true rfl) ?_
  unfold fxX5_clear at hq
  show mB _ mX5_clear (0, [(0, .ref p0)], [], (h ++ R), 0, 0)
  refine mB_run odX5_clear 1 (g := (1, [(0, .ref p0)], [.ref p0], (h ++ R), 0, 0)) rfl ?_
  obtain ⟨v1, e2, hq⟩ := bsm hq
  refine r_gR odX5_clear rfl rfl (gR_ap e2) ?_
  obtain ⟨f5, k6, hq⟩ := bsm hq
  obtain ⟨o3, e4, hq⟩ := bsm hq
  refine mB_V (as := []) odX5_clear okX3_clear lk_5_47 rfl (eaX3_clear e4) (kO_at (kO_ap k6)) rfl rfl rfl ?_
  show mB _ mX5_clear (7, [(0, .ref p0)], [], (o3 ++ R), 0, 0)
  refine mB_run odX5_clear 2 (g := (9, [(0, .ref p0)], [.int (0 : Int32), .ref p0], (o3 ++ R), 0, 0)) rfl ?_
  obtain ⟨h7, e8, hq⟩ := bsm hq
  refine r_sV odX5_clear rfl rfl rfl rfl (sV_ap e8) ?_
  cases hq
  exact mB_ret odX5_clear rfl
def fxX2_seek (N : Nat) (p0 : Nat) (p1 : Nat) (p2 : Nat) (p3 : Int64) (p4 : Int64) (p5 : Int64) (h : mh) : Option mh :=
  (kO h p1 3).bind fun f3 =>
  (fxX3_farthest N p1 p3 p4 p5 h).bind fun o1 =>
  (kO o1.1 p2 3).bind fun f7 =>
  (fxX3_farthest N p2 p3 p4 p5 o1.1).bind fun o5 =>
  (gR o5.1 p1 3 1).bind fun v9 =>
  (aI o5.1 v9 o1.2).bind fun v11 =>
  (gR o5.1 p2 3 1).bind fun v13 =>
  (aI o5.1 v13 o5.2).bind fun v15 =>
  (sV o5.1 p0 2 4 (.int (v11 + v15))).bind fun h17 =>
  (gR h17 p1 3 2).bind fun v19 =>
  (aI h17 v19 o1.2).bind fun v21 =>
  (gR h17 p2 3 2).bind fun v23 =>
  (aI h17 v23 o5.2).bind fun v25 =>
  (sV h17 p0 2 5 (.int (v21 + v25))).bind fun h27 =>
  (gR h27 p1 3 3).bind fun v29 =>
  (aI h27 v29 o1.2).bind fun v31 =>
  (gR h27 p2 3 3).bind fun v33 =>
  (aI h27 v33 o5.2).bind fun v35 =>
  (sV h27 p0 2 6 (.int (v31 + v35))).bind fun h37 =>
  some h37
set_option maxHeartbeats 4000000 in
set_option maxRecDepth 100000 in
theorem eaX2_seek {N : Nat} {R : mh} {p0 : Nat} {p1 : Nat} {p2 : Nat} {p3 : Int64} {p4 : Int64} {p5 : Int64} {h : mh} {o : mh} (hq : fxX2_seek N p0 p1 p2 p3 p4 p5 h = some o) : mC mX2_seek [.ref p0, .ref p1, .ref p2, .long p3, .long p4, .long p5] (h ++ R) (o ++ R, none) := by
  refine mC_of okX2_seek (Nat.le_of_ble_eq_true rfl) ?_
  unfold fxX2_seek at hq
  show mB _ mX2_seek (0, [(0, .ref p0), (1, .ref p1), (2, .ref p2), (3, .long p3), (5, .long p4), (7, .long p5)], [], (h ++ R), 0, 0)
  refine mB_run odX2_seek 4 (g := (6, [(0, .ref p0), (1, .ref p1), (2, .ref p2), (3, .long p3), (5, .long p4), (7, .long p5)], [.long p5, .long p4, .long p3, .ref p1], (h ++ R), 0, 0)) rfl ?_
  obtain ⟨f3, k4, hq⟩ := bsm hq
  obtain ⟨o1, e2, hq⟩ := bsm hq
  refine mB_V (as := [.long p3, .long p4, .long p5]) odX2_seek okX3_farthest lk_2_107 rfl (eaX3_farthest e2) (kO_at (kO_ap k4)) rfl rfl rfl ?_
  show mB _ mX2_seek (9, [(0, .ref p0), (1, .ref p1), (2, .ref p2), (3, .long p3), (5, .long p4), (7, .long p5)], [.int o1.2], (o1.1 ++ R), 0, 0)
  refine mB_run odX2_seek 5 (g := (17, [(9, .int o1.2), (0, .ref p0), (1, .ref p1), (2, .ref p2), (3, .long p3), (5, .long p4), (7, .long p5)], [.long p5, .long p4, .long p3, .ref p2], (o1.1 ++ R), 0, 0)) rfl ?_
  obtain ⟨f7, k8, hq⟩ := bsm hq
  obtain ⟨o5, e6, hq⟩ := bsm hq
  refine mB_V (as := [.long p3, .long p4, .long p5]) odX2_seek okX3_farthest lk_2_107 rfl (eaX3_farthest e6) (kO_at (kO_ap k8)) rfl rfl rfl ?_
  show mB _ mX2_seek (20, [(9, .int o1.2), (0, .ref p0), (1, .ref p1), (2, .ref p2), (3, .long p3), (5, .long p4), (7, .long p5)], [.int o5.2], (o5.1 ++ R), 0, 0)
  refine mB_run odX2_seek 3 (g := (24, [(10, .int o5.2), (9, .int o1.2), (0, .ref p0), (1, .ref p1), (2, .ref p2), (3, .long p3), (5, .long p4), (7, .long p5)], [.ref p1, .ref p0], (o5.1 ++ R), 0, 0)) rfl ?_
  obtain ⟨v9, e10, hq⟩ := bsm hq
  refine r_gR odX2_seek rfl rfl (gR_ap e10) ?_
  refine mB_run odX2_seek 1 (g := (29, [(10, .int o5.2), (9, .int o1.2), (0, .ref p0), (1, .ref p1), (2, .ref p2), (3, .long p3), (5, .long p4), (7, .long p5)], [.int o1.2, .ref v9, .ref p0], (o5.1 ++ R), 0, 0)) rfl ?_
  obtain ⟨v11, e12, hq⟩ := bsm hq
  refine r_aI odX2_seek rfl (aI_ap e12) ?_
  refine mB_run odX2_seek 1 (g := (31, [(10, .int o5.2), (9, .int o1.2), (0, .ref p0), (1, .ref p1), (2, .ref p2), (3, .long p3), (5, .long p4), (7, .long p5)], [.ref p2, .int v11, .ref p0], (o5.1 ++ R), 0, 0)) rfl ?_
  obtain ⟨v13, e14, hq⟩ := bsm hq
  refine r_gR odX2_seek rfl rfl (gR_ap e14) ?_
  refine mB_run odX2_seek 1 (g := (36, [(10, .int o5.2), (9, .int o1.2), (0, .ref p0), (1, .ref p1), (2, .ref p2), (3, .long p3), (5, .long p4), (7, .long p5)], [.int o5.2, .ref v13, .int v11, .ref p0], (o5.1 ++ R), 0, 0)) rfl ?_
  obtain ⟨v15, e16, hq⟩ := bsm hq
  refine r_aI odX2_seek rfl (aI_ap e16) ?_
  refine mB_run odX2_seek 1 (g := (38, [(10, .int o5.2), (9, .int o1.2), (0, .ref p0), (1, .ref p1), (2, .ref p2), (3, .long p3), (5, .long p4), (7, .long p5)], [.int (v11 + v15), .ref p0], (o5.1 ++ R), 0, 0)) rfl ?_
  obtain ⟨h17, e18, hq⟩ := bsm hq
  refine r_sV odX2_seek rfl rfl rfl rfl (sV_ap e18) ?_
  refine mB_run odX2_seek 2 (g := (43, [(10, .int o5.2), (9, .int o1.2), (0, .ref p0), (1, .ref p1), (2, .ref p2), (3, .long p3), (5, .long p4), (7, .long p5)], [.ref p1, .ref p0], (h17 ++ R), 0, 0)) rfl ?_
  obtain ⟨v19, e20, hq⟩ := bsm hq
  refine r_gR odX2_seek rfl rfl (gR_ap e20) ?_
  refine mB_run odX2_seek 1 (g := (48, [(10, .int o5.2), (9, .int o1.2), (0, .ref p0), (1, .ref p1), (2, .ref p2), (3, .long p3), (5, .long p4), (7, .long p5)], [.int o1.2, .ref v19, .ref p0], (h17 ++ R), 0, 0)) rfl ?_
  obtain ⟨v21, e22, hq⟩ := bsm hq
  refine r_aI odX2_seek rfl (aI_ap e22) ?_
  refine mB_run odX2_seek 1 (g := (50, [(10, .int o5.2), (9, .int o1.2), (0, .ref p0), (1, .ref p1), (2, .ref p2), (3, .long p3), (5, .long p4), (7, .long p5)], [.ref p2, .int v21, .ref p0], (h17 ++ R), 0, 0)) rfl ?_
  obtain ⟨v23, e24, hq⟩ := bsm hq
  refine r_gR odX2_seek rfl rfl (gR_ap e24) ?_
  refine mB_run odX2_seek 1 (g := (55, [(10, .int o5.2), (9, .int o1.2), (0, .ref p0), (1, .ref p1), (2, .ref p2), (3, .long p3), (5, .long p4), (7, .long p5)], [.int o5.2, .ref v23, .int v21, .ref p0], (h17 ++ R), 0, 0)) rfl ?_
  obtain ⟨v25, e26, hq⟩ := bsm hq
  refine r_aI odX2_seek rfl (aI_ap e26) ?_
  refine mB_run odX2_seek 1 (g := (57, [(10, .int o5.2), (9, .int o1.2), (0, .ref p0), (1, .ref p1), (2, .ref p2), (3, .long p3), (5, .long p4), (7, .long p5)], [.int (v21 + v25), .ref p0], (h17 ++ R), 0, 0)) rfl ?_
  obtain ⟨h27, e28, hq⟩ := bsm hq
  refine r_sV odX2_seek rfl rfl rfl rfl (sV_ap e28) ?_
  refine mB_run odX2_seek 2 (g := (62, [(10, .int o5.2), (9, .int o1.2), (0, .ref p0), (1, .ref p1), (2, .ref p2), (3, .long p3), (5, .long p4), (7, .long p5)], [.ref p1, .ref p0], (h27 ++ R), 0, 0)) rfl ?_
  obtain ⟨v29, e30, hq⟩ := bsm hq
  refine r_gR odX2_seek rfl rfl (gR_ap e30) ?_
  refine mB_run odX2_seek 1 (g := (67, [(10, .int o5.2), (9, .int o1.2), (0, .ref p0), (1, .ref p1), (2, .ref p2), (3, .long p3), (5, .long p4), (7, .long p5)], [.int o1.2, .ref v29, .ref p0], (h27 ++ R), 0, 0)) rfl ?_
  obtain ⟨v31, e32, hq⟩ := bsm hq
  refine r_aI odX2_seek rfl (aI_ap e32) ?_
  refine mB_run odX2_seek 1 (g := (69, [(10, .int o5.2), (9, .int o1.2), (0, .ref p0), (1, .ref p1), (2, .ref p2), (3, .long p3), (5, .long p4), (7, .long p5)], [.ref p2, .int v31, .ref p0], (h27 ++ R), 0, 0)) rfl ?_
  obtain ⟨v33, e34, hq⟩ := bsm hq
  refine r_gR odX2_seek rfl rfl (gR_ap e34) ?_
  refine mB_run odX2_seek 1 (g := (74, [(10, .int o5.2), (9, .int o1.2), (0, .ref p0), (1, .ref p1), (2, .ref p2), (3, .long p3), (5, .long p4), (7, .long p5)], [.int o5.2, .ref v33, .int v31, .ref p0], (h27 ++ R), 0, 0)) rfl ?_
  obtain ⟨v35, e36, hq⟩ := bsm hq
  refine r_aI odX2_seek rfl (aI_ap e36) ?_
  refine mB_run odX2_seek 1 (g := (76, [(10, .int o5.2), (9, .int o1.2), (0, .ref p0), (1, .ref p1), (2, .ref p2), (3, .long p3), (5, .long p4), (7, .long p5)], [.int (v31 + v35), .ref p0], (h27 ++ R), 0, 0)) rfl ?_
  obtain ⟨h37, e38, hq⟩ := bsm hq
  refine r_sV odX2_seek rfl rfl rfl rfl (sV_ap e38) ?_
  cases hq
  exact mB_ret odX2_seek rfl
def fxX6_isPoint (N : Nat) (p0 : Int32) (p1 : Int32) (p2 : Int32) (h : mh) : Option (mh × Int32) :=
  if p0 < (-100 : Int32) then (
    some (h, (0 : Int32))) else (
    if (100 : Int32) < p0 then (
      some (h, (0 : Int32))) else (
      if p1 < (-100 : Int32) then (
        some (h, (0 : Int32))) else (
        if (100 : Int32) < p1 then (
          some (h, (0 : Int32))) else (
          if p2 < (-100 : Int32) then (
            some (h, (0 : Int32))) else (
            if (100 : Int32) < p2 then (
              some (h, (0 : Int32))) else (
              some (h, (1 : Int32))))))))
set_option maxHeartbeats 4000000 in
set_option maxRecDepth 100000 in
theorem eaX6_isPoint {N : Nat} {R : mh} {p0 : Int32} {p1 : Int32} {p2 : Int32} {h : mh} {o : (mh × Int32)} (hq : fxX6_isPoint N p0 p1 p2 h = some o) : mC mX6_isPoint [.int p0, .int p1, .int p2] (h ++ R) (o.1 ++ R, some (.int o.2)) := by
  refine mC_of okX6_isPoint (Nat.le_of_ble_eq_true rfl) ?_
  unfold fxX6_isPoint at hq
  show mB _ mX6_isPoint (0, [(0, .int p0), (1, .int p1), (2, .int p2)], [], (h ++ R), 0, 0)
  refine mB_run odX6_isPoint 2 (g := (3, [(0, .int p0), (1, .int p1), (2, .int p2)], [.int (-100 : Int32), .int p0], (h ++ R), 0, 0)) rfl ?_
  by_cases c1 : p0 < (-100 : Int32)
  · rw [if_pos c1] at hq
    refine ic_lt_T (t := 40) odX6_isPoint rfl rfl c1 ?_
    refine mB_run odX6_isPoint 1 (g := (41, [(0, .int p0), (1, .int p1), (2, .int p2)], [.int (0 : Int32)], (h ++ R), 0, 0)) rfl ?_
    cases hq
    exact mB_ret odX6_isPoint rfl
  · rw [if_neg c1] at hq
    refine ic_lt_F (t := 40) odX6_isPoint rfl rfl c1 ?_
    refine mB_run odX6_isPoint 2 (g := (9, [(0, .int p0), (1, .int p1), (2, .int p2)], [.int (100 : Int32), .int p0], (h ++ R), 0, 0)) rfl ?_
    by_cases c2 : (100 : Int32) < p0
    · rw [if_pos c2] at hq
      refine ic_gt_T (t := 40) odX6_isPoint rfl rfl c2 ?_
      refine mB_run odX6_isPoint 1 (g := (41, [(0, .int p0), (1, .int p1), (2, .int p2)], [.int (0 : Int32)], (h ++ R), 0, 0)) rfl ?_
      cases hq
      exact mB_ret odX6_isPoint rfl
    · rw [if_neg c2] at hq
      refine ic_gt_F (t := 40) odX6_isPoint rfl rfl c2 ?_
      refine mB_run odX6_isPoint 2 (g := (15, [(0, .int p0), (1, .int p1), (2, .int p2)], [.int (-100 : Int32), .int p1], (h ++ R), 0, 0)) rfl ?_
      by_cases c3 : p1 < (-100 : Int32)
      · rw [if_pos c3] at hq
        refine ic_lt_T (t := 40) odX6_isPoint rfl rfl c3 ?_
        refine mB_run odX6_isPoint 1 (g := (41, [(0, .int p0), (1, .int p1), (2, .int p2)], [.int (0 : Int32)], (h ++ R), 0, 0)) rfl ?_
        cases hq
        exact mB_ret odX6_isPoint rfl
      · rw [if_neg c3] at hq
        refine ic_lt_F (t := 40) odX6_isPoint rfl rfl c3 ?_
        refine mB_run odX6_isPoint 2 (g := (21, [(0, .int p0), (1, .int p1), (2, .int p2)], [.int (100 : Int32), .int p1], (h ++ R), 0, 0)) rfl ?_
        by_cases c4 : (100 : Int32) < p1
        · rw [if_pos c4] at hq
          refine ic_gt_T (t := 40) odX6_isPoint rfl rfl c4 ?_
          refine mB_run odX6_isPoint 1 (g := (41, [(0, .int p0), (1, .int p1), (2, .int p2)], [.int (0 : Int32)], (h ++ R), 0, 0)) rfl ?_
          cases hq
          exact mB_ret odX6_isPoint rfl
        · rw [if_neg c4] at hq
          refine ic_gt_F (t := 40) odX6_isPoint rfl rfl c4 ?_
          refine mB_run odX6_isPoint 2 (g := (27, [(0, .int p0), (1, .int p1), (2, .int p2)], [.int (-100 : Int32), .int p2], (h ++ R), 0, 0)) rfl ?_
          by_cases c5 : p2 < (-100 : Int32)
          · rw [if_pos c5] at hq
            refine ic_lt_T (t := 40) odX6_isPoint rfl rfl c5 ?_
            refine mB_run odX6_isPoint 1 (g := (41, [(0, .int p0), (1, .int p1), (2, .int p2)], [.int (0 : Int32)], (h ++ R), 0, 0)) rfl ?_
            cases hq
            exact mB_ret odX6_isPoint rfl
          · rw [if_neg c5] at hq
            refine ic_lt_F (t := 40) odX6_isPoint rfl rfl c5 ?_
            refine mB_run odX6_isPoint 2 (g := (33, [(0, .int p0), (1, .int p1), (2, .int p2)], [.int (100 : Int32), .int p2], (h ++ R), 0, 0)) rfl ?_
            by_cases c6 : (100 : Int32) < p2
            · rw [if_pos c6] at hq
              refine ic_gt_T (t := 40) odX6_isPoint rfl rfl c6 ?_
              refine mB_run odX6_isPoint 1 (g := (41, [(0, .int p0), (1, .int p1), (2, .int p2)], [.int (0 : Int32)], (h ++ R), 0, 0)) rfl ?_
              cases hq
              exact mB_ret odX6_isPoint rfl
            · rw [if_neg c6] at hq
              refine ic_gt_F (t := 40) odX6_isPoint rfl rfl c6 ?_
              refine mB_run odX6_isPoint 2 (g := (41, [(0, .int p0), (1, .int p1), (2, .int p2)], [.int (1 : Int32)], (h ++ R), 0, 0)) rfl ?_
              cases hq
              exact mB_ret odX6_isPoint rfl
def fxX3_put (N : Nat) (p0 : Nat) (p1 : Int32) (p2 : Int32) (p3 : Int32) (h : mh) : Option mh :=
  (gI h p0 3 0).bind fun v1 =>
  (gR h p0 3 1).bind fun v3 =>
  (aL h v3).bind fun v5 =>
  if v5 ≤ v1 then (
    some h) else (
    (gR h p0 3 1).bind fun v8 =>
    (gI h p0 3 0).bind fun v10 =>
    (wI h v8 v10 p1).bind fun h12 =>
    (gR h12 p0 3 2).bind fun v14 =>
    (gI h12 p0 3 0).bind fun v16 =>
    (wI h12 v14 v16 p2).bind fun h18 =>
    (gR h18 p0 3 3).bind fun v20 =>
    (gI h18 p0 3 0).bind fun v22 =>
    (wI h18 v20 v22 p3).bind fun h24 =>
    (gI h24 p0 3 0).bind fun v26 =>
    (sV h24 p0 3 0 (.int (v26 + (1 : Int32)))).bind fun h28 =>
    some h28)
set_option maxHeartbeats 4000000 in
set_option maxRecDepth 100000 in
theorem eaX3_put {N : Nat} {R : mh} {p0 : Nat} {p1 : Int32} {p2 : Int32} {p3 : Int32} {h : mh} {o : mh} (hq : fxX3_put N p0 p1 p2 p3 h = some o) : mC mX3_put [.ref p0, .int p1, .int p2, .int p3] (h ++ R) (o ++ R, none) := by
  refine mC_of okX3_put (Nat.le_of_ble_eq_true rfl) ?_
  unfold fxX3_put at hq
  show mB _ mX3_put (0, [(0, .ref p0), (1, .int p1), (2, .int p2), (3, .int p3)], [], (h ++ R), 0, 0)
  refine mB_run odX3_put 1 (g := (1, [(0, .ref p0), (1, .int p1), (2, .int p2), (3, .int p3)], [.ref p0], (h ++ R), 0, 0)) rfl ?_
  obtain ⟨v1, e2, hq⟩ := bsm hq
  refine r_gI odX3_put rfl rfl (gI_ap e2) ?_
  refine mB_run odX3_put 1 (g := (5, [(0, .ref p0), (1, .int p1), (2, .int p2), (3, .int p3)], [.ref p0, .int v1], (h ++ R), 0, 0)) rfl ?_
  obtain ⟨v3, e4, hq⟩ := bsm hq
  refine r_gR odX3_put rfl rfl (gR_ap e4) ?_
  obtain ⟨v5, e6, hq⟩ := bsm hq
  refine r_aL odX3_put rfl (aL_ap e6) ?_
  by_cases c7 : v5 ≤ v1
  · rw [if_pos c7] at hq
    refine ic_ge_T (t := 52) odX3_put rfl rfl c7 ?_
    cases hq
    exact mB_ret odX3_put rfl
  · rw [if_neg c7] at hq
    refine ic_ge_F (t := 52) odX3_put rfl rfl c7 ?_
    refine mB_run odX3_put 1 (g := (13, [(0, .ref p0), (1, .int p1), (2, .int p2), (3, .int p3)], [.ref p0], (h ++ R), 0, 0)) rfl ?_
    obtain ⟨v8, e9, hq⟩ := bsm hq
    refine r_gR odX3_put rfl rfl (gR_ap e9) ?_
    refine mB_run odX3_put 1 (g := (17, [(0, .ref p0), (1, .int p1), (2, .int p2), (3, .int p3)], [.ref p0, .ref v8], (h ++ R), 0, 0)) rfl ?_
    obtain ⟨v10, e11, hq⟩ := bsm hq
    refine r_gI odX3_put rfl rfl (gI_ap e11) ?_
    refine mB_run odX3_put 1 (g := (21, [(0, .ref p0), (1, .int p1), (2, .int p2), (3, .int p3)], [.int p1, .int v10, .ref v8], (h ++ R), 0, 0)) rfl ?_
    obtain ⟨h12, e13, hq⟩ := bsm hq
    refine r_wI odX3_put rfl (wI_ap e13) ?_
    refine mB_run odX3_put 1 (g := (23, [(0, .ref p0), (1, .int p1), (2, .int p2), (3, .int p3)], [.ref p0], (h12 ++ R), 0, 0)) rfl ?_
    obtain ⟨v14, e15, hq⟩ := bsm hq
    refine r_gR odX3_put rfl rfl (gR_ap e15) ?_
    refine mB_run odX3_put 1 (g := (27, [(0, .ref p0), (1, .int p1), (2, .int p2), (3, .int p3)], [.ref p0, .ref v14], (h12 ++ R), 0, 0)) rfl ?_
    obtain ⟨v16, e17, hq⟩ := bsm hq
    refine r_gI odX3_put rfl rfl (gI_ap e17) ?_
    refine mB_run odX3_put 1 (g := (31, [(0, .ref p0), (1, .int p1), (2, .int p2), (3, .int p3)], [.int p2, .int v16, .ref v14], (h12 ++ R), 0, 0)) rfl ?_
    obtain ⟨h18, e19, hq⟩ := bsm hq
    refine r_wI odX3_put rfl (wI_ap e19) ?_
    refine mB_run odX3_put 1 (g := (33, [(0, .ref p0), (1, .int p1), (2, .int p2), (3, .int p3)], [.ref p0], (h18 ++ R), 0, 0)) rfl ?_
    obtain ⟨v20, e21, hq⟩ := bsm hq
    refine r_gR odX3_put rfl rfl (gR_ap e21) ?_
    refine mB_run odX3_put 1 (g := (37, [(0, .ref p0), (1, .int p1), (2, .int p2), (3, .int p3)], [.ref p0, .ref v20], (h18 ++ R), 0, 0)) rfl ?_
    obtain ⟨v22, e23, hq⟩ := bsm hq
    refine r_gI odX3_put rfl rfl (gI_ap e23) ?_
    refine mB_run odX3_put 1 (g := (41, [(0, .ref p0), (1, .int p1), (2, .int p2), (3, .int p3)], [.int p3, .int v22, .ref v20], (h18 ++ R), 0, 0)) rfl ?_
    obtain ⟨h24, e25, hq⟩ := bsm hq
    refine r_wI odX3_put rfl (wI_ap e25) ?_
    refine mB_run odX3_put 2 (g := (44, [(0, .ref p0), (1, .int p1), (2, .int p2), (3, .int p3)], [.ref p0, .ref p0], (h24 ++ R), 0, 0)) rfl ?_
    obtain ⟨v26, e27, hq⟩ := bsm hq
    refine r_gI odX3_put rfl rfl (gI_ap e27) ?_
    refine mB_run odX3_put 2 (g := (49, [(0, .ref p0), (1, .int p1), (2, .int p2), (3, .int p3)], [.int (v26 + (1 : Int32)), .ref p0], (h24 ++ R), 0, 0)) rfl ?_
    obtain ⟨h28, e29, hq⟩ := bsm hq
    refine r_sV odX3_put rfl rfl rfl rfl (sV_ap e29) ?_
    cases hq
    exact mB_ret odX3_put rfl
def fxX2_take_32 (N : Nat) (x0 : Nat) (h : mh) : Option mh :=
  (gI h x0 2 3).bind fun v13 =>
  (sV h x0 2 3 (.int (v13 + (1 : Int32)))).bind fun h15 =>
  (gR h15 x0 2 0).bind fun v17 =>
  (gR h15 v17 5 0).bind fun v19 =>
  (gI h15 x0 2 4).bind fun v21 =>
  (gI h15 x0 2 5).bind fun v23 =>
  (gI h15 x0 2 6).bind fun v25 =>
  (kO h15 v19 3).bind fun f29 =>
  (fxX3_put N v19 v21 v23 v25 h15).bind fun o27 =>
  some o27
set_option maxHeartbeats 4000000 in
set_option maxRecDepth 100000 in
theorem eaX2_take_32 {N : Nat} {R : mh} (x0 : Nat) (h : mh) {o : mh} (hq : fxX2_take_32 N x0 h = some o) : mB (gO mX2_take (o ++ R, none)) mX2_take (32, [(0, .ref x0)], [], (h ++ R), 0, 0) := by
  unfold fxX2_take_32 at hq
  refine mB_run odX2_take 2 (g := (34, [(0, .ref x0)], [.ref x0, .ref x0], (h ++ R), 0, 0)) rfl ?_
  obtain ⟨v13, e14, hq⟩ := bsm hq
  refine r_gI odX2_take rfl rfl (gI_ap e14) ?_
  refine mB_run odX2_take 2 (g := (39, [(0, .ref x0)], [.int (v13 + (1 : Int32)), .ref x0], (h ++ R), 0, 0)) rfl ?_
  obtain ⟨h15, e16, hq⟩ := bsm hq
  refine r_sV odX2_take rfl rfl rfl rfl (sV_ap e16) ?_
  refine mB_run odX2_take 1 (g := (43, [(0, .ref x0)], [.ref x0], (h15 ++ R), 0, 0)) rfl ?_
  obtain ⟨v17, e18, hq⟩ := bsm hq
  refine r_gR odX2_take rfl rfl (gR_ap e18) ?_
  obtain ⟨v19, e20, hq⟩ := bsm hq
  refine r_gR odX2_take rfl rfl (gR_ap e20) ?_
  refine mB_run odX2_take 1 (g := (50, [(0, .ref x0)], [.ref x0, .ref v19], (h15 ++ R), 0, 0)) rfl ?_
  obtain ⟨v21, e22, hq⟩ := bsm hq
  refine r_gI odX2_take rfl rfl (gI_ap e22) ?_
  refine mB_run odX2_take 1 (g := (54, [(0, .ref x0)], [.ref x0, .int v21, .ref v19], (h15 ++ R), 0, 0)) rfl ?_
  obtain ⟨v23, e24, hq⟩ := bsm hq
  refine r_gI odX2_take rfl rfl (gI_ap e24) ?_
  refine mB_run odX2_take 1 (g := (58, [(0, .ref x0)], [.ref x0, .int v23, .int v21, .ref v19], (h15 ++ R), 0, 0)) rfl ?_
  obtain ⟨v25, e26, hq⟩ := bsm hq
  refine r_gI odX2_take rfl rfl (gI_ap e26) ?_
  obtain ⟨f29, k30, hq⟩ := bsm hq
  obtain ⟨o27, e28, hq⟩ := bsm hq
  refine mB_V (as := [.int v21, .int v23, .int v25]) odX2_take okX3_put lk_2_115 rfl (eaX3_put e28) (kO_at (kO_ap k30)) rfl rfl rfl ?_
  show mB _ mX2_take (64, [(0, .ref x0)], [], (o27 ++ R), 0, 0)
  cases hq
  exact mB_ret odX2_take rfl
def fxX2_take_27 (N : Nat) (x0 : Nat) (h : mh) : Option mh :=
  (sV h x0 2 2 (.int (1 : Int32))).bind fun h31 =>
  fxX2_take_32 N x0 h31
set_option maxHeartbeats 4000000 in
set_option maxRecDepth 100000 in
theorem eaX2_take_27 {N : Nat} {R : mh} (x0 : Nat) (h : mh) {o : mh} (hq : fxX2_take_27 N x0 h = some o) : mB (gO mX2_take (o ++ R, none)) mX2_take (27, [(0, .ref x0)], [], (h ++ R), 0, 0) := by
  unfold fxX2_take_27 at hq
  refine mB_run odX2_take 2 (g := (29, [(0, .ref x0)], [.int (1 : Int32), .ref x0], (h ++ R), 0, 0)) rfl ?_
  obtain ⟨h31, e32, hq⟩ := bsm hq
  refine r_sV odX2_take rfl rfl rfl rfl (sV_ap e32) ?_
  refine mB_lv [0] (lv' := [(0, .ref x0)]) rfl ?_
  exact eaX2_take_32 _ _ hq
def fxX2_take (N : Nat) (p0 : Nat) (h : mh) : Option mh :=
  (gI h p0 2 4).bind fun v1 =>
  (gI h p0 2 5).bind fun v3 =>
  (gI h p0 2 6).bind fun v5 =>
  (fxX6_isPoint N v1 v3 v5 h).bind fun o7 =>
  if o7.2 = 0 then (
    fxX2_take_27 N p0 o7.1) else (
    (gI o7.1 p0 2 3).bind fun v10 =>
    if v10 < (24 : Int32) then (
      fxX2_take_32 N p0 o7.1) else (
      fxX2_take_27 N p0 o7.1))
set_option maxHeartbeats 4000000 in
set_option maxRecDepth 100000 in
theorem eaX2_take {N : Nat} {R : mh} {p0 : Nat} {h : mh} {o : mh} (hq : fxX2_take N p0 h = some o) : mC mX2_take [.ref p0] (h ++ R) (o ++ R, none) := by
  refine mC_of okX2_take (Nat.le_of_ble_eq_true rfl) ?_
  unfold fxX2_take at hq
  show mB _ mX2_take (0, [(0, .ref p0)], [], (h ++ R), 0, 0)
  refine mB_run odX2_take 1 (g := (1, [(0, .ref p0)], [.ref p0], (h ++ R), 0, 0)) rfl ?_
  obtain ⟨v1, e2, hq⟩ := bsm hq
  refine r_gI odX2_take rfl rfl (gI_ap e2) ?_
  refine mB_run odX2_take 1 (g := (5, [(0, .ref p0)], [.ref p0, .int v1], (h ++ R), 0, 0)) rfl ?_
  obtain ⟨v3, e4, hq⟩ := bsm hq
  refine r_gI odX2_take rfl rfl (gI_ap e4) ?_
  refine mB_run odX2_take 1 (g := (9, [(0, .ref p0)], [.ref p0, .int v3, .int v1], (h ++ R), 0, 0)) rfl ?_
  obtain ⟨v5, e6, hq⟩ := bsm hq
  refine r_gI odX2_take rfl rfl (gI_ap e6) ?_
  obtain ⟨o7, e8, hq⟩ := bsm hq
  refine mB_NS (as := [.int v1, .int v3, .int v5]) odX2_take okX6_isPoint lk_2_111 rfl (eaX6_isPoint e8) rfl rfl rfl ?_
  show mB _ mX2_take (15, [(0, .ref p0)], [.int o7.2], (o7.1 ++ R), 0, 0)
  by_cases c9 : o7.2 = 0
  · rw [if_pos c9] at hq
    refine if_eq_T (t := 27) odX2_take rfl rfl c9 ?_
    refine mB_lv [0] (lv' := [(0, .ref p0)]) rfl ?_
    exact eaX2_take_27 _ _ hq
  · rw [if_neg c9] at hq
    refine if_eq_F (t := 27) odX2_take rfl rfl c9 ?_
    refine mB_run odX2_take 1 (g := (19, [(0, .ref p0)], [.ref p0], (o7.1 ++ R), 0, 0)) rfl ?_
    obtain ⟨v10, e11, hq⟩ := bsm hq
    refine r_gI odX2_take rfl rfl (gI_ap e11) ?_
    refine mB_run odX2_take 1 (g := (24, [(0, .ref p0)], [.int (24 : Int32), .int v10], (o7.1 ++ R), 0, 0)) rfl ?_
    by_cases c12 : v10 < (24 : Int32)
    · rw [if_pos c12] at hq
      refine ic_lt_T (t := 32) odX2_take rfl rfl c12 ?_
      refine mB_lv [0] (lv' := [(0, .ref p0)]) rfl ?_
      exact eaX2_take_32 _ _ hq
    · rw [if_neg c12] at hq
      refine ic_lt_F (t := 32) odX2_take rfl rfl c12 ?_
      refine mB_lv [0] (lv' := [(0, .ref p0)]) rfl ?_
      exact eaX2_take_27 _ _ hq
def fxX2_stepOff_74 (N : Nat) (x0 : Nat) (x3 : Int64) (x5 : Int64) (x7 : Int64) (x9 : Int64) (h : mh) : Option (mh × Int32) :=
  (gI h x0 2 4).bind fun v24 =>
  (gI h x0 2 5).bind fun v26 =>
  (gI h x0 2 6).bind fun v28 =>
  if (((x3 * v24.toInt64) + (x5 * v26.toInt64)) + (x7 * v28.toInt64)) = x9 then (
    some (h, (0 : Int32))) else (
    (kO h x0 2).bind fun f33 =>
    (fxX2_take N x0 h).bind fun o31 =>
    some (o31, (1 : Int32)))
set_option maxHeartbeats 4000000 in
set_option maxRecDepth 100000 in
theorem eaX2_stepOff_74 {N : Nat} {R : mh} (x0 : Nat) (x3 : Int64) (x5 : Int64) (x7 : Int64) (x9 : Int64) (h : mh) {o : (mh × Int32)} (hq : fxX2_stepOff_74 N x0 x3 x5 x7 x9 h = some o) : mB (gO mX2_stepOff (o.1 ++ R, some (.int o.2))) mX2_stepOff (74, [(0, .ref x0), (3, .long x3), (5, .long x5), (7, .long x7), (9, .long x9)], [], (h ++ R), 0, 0) := by
  unfold fxX2_stepOff_74 at hq
  refine mB_run odX2_stepOff 2 (g := (76, [(0, .ref x0), (3, .long x3), (5, .long x5), (7, .long x7), (9, .long x9)], [.ref x0, .long x3], (h ++ R), 0, 0)) rfl ?_
  obtain ⟨v24, e25, hq⟩ := bsm hq
  refine r_gI odX2_stepOff rfl rfl (gI_ap e25) ?_
  refine mB_run odX2_stepOff 4 (g := (84, [(0, .ref x0), (3, .long x3), (5, .long x5), (7, .long x7), (9, .long x9)], [.ref x0, .long x5, .long (x3 * v24.toInt64)], (h ++ R), 0, 0)) rfl ?_
  obtain ⟨v26, e27, hq⟩ := bsm hq
  refine r_gI odX2_stepOff rfl rfl (gI_ap e27) ?_
  refine mB_run odX2_stepOff 5 (g := (93, [(0, .ref x0), (3, .long x3), (5, .long x5), (7, .long x7), (9, .long x9)], [.ref x0, .long x7, .long ((x3 * v24.toInt64) + (x5 * v26.toInt64))], (h ++ R), 0, 0)) rfl ?_
  obtain ⟨v28, e29, hq⟩ := bsm hq
  refine r_gI odX2_stepOff rfl rfl (gI_ap e29) ?_
  refine mB_run odX2_stepOff 4 (g := (101, [(0, .ref x0), (3, .long x3), (5, .long x5), (7, .long x7), (9, .long x9)], [.long x9, .long (((x3 * v24.toInt64) + (x5 * v26.toInt64)) + (x7 * v28.toInt64))], (h ++ R), 0, 0)) rfl ?_
  by_cases c30 : (((x3 * v24.toInt64) + (x5 * v26.toInt64)) + (x7 * v28.toInt64)) = x9
  · rw [if_pos c30] at hq
    refine lc_ne_F (t := 107) odX2_stepOff rfl rfl rfl c30 ?_
    refine mB_run odX2_stepOff 1 (g := (106, [(0, .ref x0), (3, .long x3), (5, .long x5), (7, .long x7), (9, .long x9)], [.int (0 : Int32)], (h ++ R), 0, 0)) rfl ?_
    cases hq
    exact mB_ret odX2_stepOff rfl
  · rw [if_neg c30] at hq
    refine lc_ne_T (t := 107) odX2_stepOff rfl rfl rfl c30 ?_
    refine mB_run odX2_stepOff 1 (g := (108, [(0, .ref x0), (3, .long x3), (5, .long x5), (7, .long x7), (9, .long x9)], [.ref x0], (h ++ R), 0, 0)) rfl ?_
    obtain ⟨f33, k34, hq⟩ := bsm hq
    obtain ⟨o31, e32, hq⟩ := bsm hq
    refine mB_V (as := []) odX2_stepOff okX2_take lk_2_77 rfl (eaX2_take e32) (kO_at (kO_ap k34)) rfl rfl rfl ?_
    show mB _ mX2_stepOff (111, [(0, .ref x0), (3, .long x3), (5, .long x5), (7, .long x7), (9, .long x9)], [], (o31 ++ R), 0, 0)
    refine mB_run odX2_stepOff 1 (g := (112, [(0, .ref x0), (3, .long x3), (5, .long x5), (7, .long x7), (9, .long x9)], [.int (1 : Int32)], (o31 ++ R), 0, 0)) rfl ?_
    cases hq
    exact mB_ret odX2_stepOff rfl
def fxX2_stepOff (N : Nat) (p0 : Nat) (p1 : Nat) (p2 : Nat) (p3 : Int64) (p4 : Int64) (p5 : Int64) (h : mh) : Option (mh × Int32) :=
  (gR h p0 2 0).bind fun v1 =>
  (gR h v1 5 0).bind fun v3 =>
  (kO h v3 3).bind fun f7 =>
  (fxX3_along N v3 (0 : Int32) p3 p4 p5 h).bind fun o5 =>
  (kO o5.1 p0 2).bind fun f11 =>
  (fxX2_seek N p0 p1 p2 p3 p4 p5 o5.1).bind fun o9 =>
  (gI o9 p0 2 4).bind fun v13 =>
  (gI o9 p0 2 5).bind fun v15 =>
  (gI o9 p0 2 6).bind fun v17 =>
  if (((p3 * v13.toInt64) + (p4 * v15.toInt64)) + (p5 * v17.toInt64)) = o5.2 then (
    (kO o9 p0 2).bind fun f22 =>
    (fxX2_seek N p0 p1 p2 (-p3) (-p4) (-p5) o9).bind fun o20 =>
    fxX2_stepOff_74 N p0 p3 p4 p5 o5.2 o20) else (
    fxX2_stepOff_74 N p0 p3 p4 p5 o5.2 o9)
set_option maxHeartbeats 4000000 in
set_option maxRecDepth 100000 in
theorem eaX2_stepOff {N : Nat} {R : mh} {p0 : Nat} {p1 : Nat} {p2 : Nat} {p3 : Int64} {p4 : Int64} {p5 : Int64} {h : mh} {o : (mh × Int32)} (hq : fxX2_stepOff N p0 p1 p2 p3 p4 p5 h = some o) : mC mX2_stepOff [.ref p0, .ref p1, .ref p2, .long p3, .long p4, .long p5] (h ++ R) (o.1 ++ R, some (.int o.2)) := by
  refine mC_of okX2_stepOff (Nat.le_of_ble_eq_true rfl) ?_
  unfold fxX2_stepOff at hq
  show mB _ mX2_stepOff (0, [(0, .ref p0), (1, .ref p1), (2, .ref p2), (3, .long p3), (5, .long p4), (7, .long p5)], [], (h ++ R), 0, 0)
  refine mB_run odX2_stepOff 1 (g := (1, [(0, .ref p0), (1, .ref p1), (2, .ref p2), (3, .long p3), (5, .long p4), (7, .long p5)], [.ref p0], (h ++ R), 0, 0)) rfl ?_
  obtain ⟨v1, e2, hq⟩ := bsm hq
  refine r_gR odX2_stepOff rfl rfl (gR_ap e2) ?_
  obtain ⟨v3, e4, hq⟩ := bsm hq
  refine r_gR odX2_stepOff rfl rfl (gR_ap e4) ?_
  refine mB_run odX2_stepOff 4 (g := (13, [(0, .ref p0), (1, .ref p1), (2, .ref p2), (3, .long p3), (5, .long p4), (7, .long p5)], [.long p5, .long p4, .long p3, .int (0 : Int32), .ref v3], (h ++ R), 0, 0)) rfl ?_
  obtain ⟨f7, k8, hq⟩ := bsm hq
  obtain ⟨o5, e6, hq⟩ := bsm hq
  refine mB_V (as := [.int (0 : Int32), .long p3, .long p4, .long p5]) odX2_stepOff okX3_along lk_2_103 rfl (eaX3_along e6) (kO_at (kO_ap k8)) rfl rfl rfl ?_
  show mB _ mX2_stepOff (16, [(0, .ref p0), (1, .ref p1), (2, .ref p2), (3, .long p3), (5, .long p4), (7, .long p5)], [.long o5.2], (o5.1 ++ R), 0, 0)
  refine mB_run odX2_stepOff 7 (g := (26, [(9, .long o5.2), (0, .ref p0), (1, .ref p1), (2, .ref p2), (3, .long p3), (5, .long p4), (7, .long p5)], [.long p5, .long p4, .long p3, .ref p2, .ref p1, .ref p0], (o5.1 ++ R), 0, 0)) rfl ?_
  obtain ⟨f11, k12, hq⟩ := bsm hq
  obtain ⟨o9, e10, hq⟩ := bsm hq
  refine mB_V (as := [.ref p1, .ref p2, .long p3, .long p4, .long p5]) odX2_stepOff okX2_seek lk_2_73 rfl (eaX2_seek e10) (kO_at (kO_ap k12)) rfl rfl rfl ?_
  show mB _ mX2_stepOff (29, [(9, .long o5.2), (0, .ref p0), (1, .ref p1), (2, .ref p2), (3, .long p3), (5, .long p4), (7, .long p5)], [], (o9 ++ R), 0, 0)
  refine mB_run odX2_stepOff 2 (g := (31, [(9, .long o5.2), (0, .ref p0), (1, .ref p1), (2, .ref p2), (3, .long p3), (5, .long p4), (7, .long p5)], [.ref p0, .long p3], (o9 ++ R), 0, 0)) rfl ?_
  obtain ⟨v13, e14, hq⟩ := bsm hq
  refine r_gI odX2_stepOff rfl rfl (gI_ap e14) ?_
  refine mB_run odX2_stepOff 4 (g := (39, [(9, .long o5.2), (0, .ref p0), (1, .ref p1), (2, .ref p2), (3, .long p3), (5, .long p4), (7, .long p5)], [.ref p0, .long p4, .long (p3 * v13.toInt64)], (o9 ++ R), 0, 0)) rfl ?_
  obtain ⟨v15, e16, hq⟩ := bsm hq
  refine r_gI odX2_stepOff rfl rfl (gI_ap e16) ?_
  refine mB_run odX2_stepOff 5 (g := (48, [(9, .long o5.2), (0, .ref p0), (1, .ref p1), (2, .ref p2), (3, .long p3), (5, .long p4), (7, .long p5)], [.ref p0, .long p5, .long ((p3 * v13.toInt64) + (p4 * v15.toInt64))], (o9 ++ R), 0, 0)) rfl ?_
  obtain ⟨v17, e18, hq⟩ := bsm hq
  refine r_gI odX2_stepOff rfl rfl (gI_ap e18) ?_
  refine mB_run odX2_stepOff 4 (g := (56, [(9, .long o5.2), (0, .ref p0), (1, .ref p1), (2, .ref p2), (3, .long p3), (5, .long p4), (7, .long p5)], [.long o5.2, .long (((p3 * v13.toInt64) + (p4 * v15.toInt64)) + (p5 * v17.toInt64))], (o9 ++ R), 0, 0)) rfl ?_
  by_cases c19 : (((p3 * v13.toInt64) + (p4 * v15.toInt64)) + (p5 * v17.toInt64)) = o5.2
  · rw [if_pos c19] at hq
    refine lc_ne_F (t := 74) odX2_stepOff rfl rfl rfl c19 ?_
    refine mB_run odX2_stepOff 9 (g := (71, [(9, .long o5.2), (0, .ref p0), (1, .ref p1), (2, .ref p2), (3, .long p3), (5, .long p4), (7, .long p5)], [.long (-p5), .long (-p4), .long (-p3), .ref p2, .ref p1, .ref p0], (o9 ++ R), 0, 0)) rfl ?_
    obtain ⟨f22, k23, hq⟩ := bsm hq
    obtain ⟨o20, e21, hq⟩ := bsm hq
    refine mB_V (as := [.ref p1, .ref p2, .long (-p3), .long (-p4), .long (-p5)]) odX2_stepOff okX2_seek lk_2_73 rfl (eaX2_seek e21) (kO_at (kO_ap k23)) rfl rfl rfl ?_
    show mB _ mX2_stepOff (74, [(9, .long o5.2), (0, .ref p0), (1, .ref p1), (2, .ref p2), (3, .long p3), (5, .long p4), (7, .long p5)], [], (o20 ++ R), 0, 0)
    refine mB_lv [1, 4, 5, 6, 0] (lv' := [(0, .ref p0), (3, .long p3), (5, .long p4), (7, .long p5), (9, .long o5.2)]) rfl ?_
    exact eaX2_stepOff_74 _ _ _ _ _ _ hq
  · rw [if_neg c19] at hq
    refine lc_ne_T (t := 74) odX2_stepOff rfl rfl rfl c19 ?_
    refine mB_lv [1, 4, 5, 6, 0] (lv' := [(0, .ref p0), (3, .long p3), (5, .long p4), (7, .long p5), (9, .long o5.2)]) rfl ?_
    exact eaX2_stepOff_74 _ _ _ _ _ _ hq
def fxX2_spread_192 (N : Nat) (s0 : Int32) (h : mh) : Option (mh × Int32) :=
  if s0 = 0 then (
    some (h, (4 : Int32))) else (
    some (h, (3 : Int32)))
set_option maxHeartbeats 4000000 in
set_option maxRecDepth 100000 in
theorem eaX2_spread_192 {N : Nat} {R : mh} (s0 : Int32) (h : mh) {o : (mh × Int32)} (hq : fxX2_spread_192 N s0 h = some o) : mB (gO mX2_spread (o.1 ++ R, some (.int o.2))) mX2_spread (192, [], [.int s0], (h ++ R), 0, 0) := by
  unfold fxX2_spread_192 at hq
  refine mB_run odX2_spread 2 (g := (196, [(7, .int s0)], [.int s0], (h ++ R), 0, 0)) rfl ?_
  by_cases c84 : s0 = 0
  · rw [if_pos c84] at hq
    refine if_eq_T (t := 203) odX2_spread rfl rfl c84 ?_
    refine mB_run odX2_spread 1 (g := (204, [(7, .int s0)], [.int (4 : Int32)], (h ++ R), 0, 0)) rfl ?_
    cases hq
    exact mB_ret odX2_spread rfl
  · rw [if_neg c84] at hq
    refine if_eq_F (t := 203) odX2_spread rfl rfl c84 ?_
    refine mB_run odX2_spread 2 (g := (204, [(7, .int s0)], [.int (3 : Int32)], (h ++ R), 0, 0)) rfl ?_
    cases hq
    exact mB_ret odX2_spread rfl
def fxX2_spread_157 (N : Nat) (x0 : Nat) (x1 : Nat) (x2 : Nat) (x3 : Nat) (h : mh) : Option (mh × Int32) :=
  (kO h x3 3).bind fun f69 =>
  (fxX3_acrossX N x3 (0 : Int32) (1 : Int32) (2 : Int32) h).bind fun o67 =>
  (kO o67.1 x3 3).bind fun f73 =>
  (fxX3_acrossY N x3 (0 : Int32) (1 : Int32) (2 : Int32) o67.1).bind fun o71 =>
  (kO o71.1 x3 3).bind fun f77 =>
  (fxX3_acrossZ N x3 (0 : Int32) (1 : Int32) (2 : Int32) o71.1).bind fun o75 =>
  (kO o75.1 x0 2).bind fun f81 =>
  (fxX2_stepOff N x0 x1 x2 o67.2 o71.2 o75.2 o75.1).bind fun o79 =>
  if o79.2 = 0 then (
    fxX2_spread_192 N (1 : Int32) o79.1) else (
    fxX2_spread_192 N (0 : Int32) o79.1)
set_option maxHeartbeats 4000000 in
set_option maxRecDepth 100000 in
theorem eaX2_spread_157 {N : Nat} {R : mh} (x0 : Nat) (x1 : Nat) (x2 : Nat) (x3 : Nat) (h : mh) {o : (mh × Int32)} (hq : fxX2_spread_157 N x0 x1 x2 x3 h = some o) : mB (gO mX2_spread (o.1 ++ R, some (.int o.2))) mX2_spread (157, [(0, .ref x0), (1, .ref x1), (2, .ref x2), (3, .ref x3)], [], (h ++ R), 0, 0) := by
  unfold fxX2_spread_157 at hq
  refine mB_run odX2_spread 7 (g := (164, [(0, .ref x0), (1, .ref x1), (2, .ref x2), (3, .ref x3)], [.int (2 : Int32), .int (1 : Int32), .int (0 : Int32), .ref x3, .ref x2, .ref x1, .ref x0], (h ++ R), 0, 0)) rfl ?_
  obtain ⟨f69, k70, hq⟩ := bsm hq
  obtain ⟨o67, e68, hq⟩ := bsm hq
  refine mB_V (as := [.int (0 : Int32), .int (1 : Int32), .int (2 : Int32)]) odX2_spread okX3_acrossX lk_2_93 rfl (eaX3_acrossX e68) (kO_at (kO_ap k70)) rfl rfl rfl ?_
  show mB _ mX2_spread (167, [(0, .ref x0), (1, .ref x1), (2, .ref x2), (3, .ref x3)], [.long o67.2, .ref x2, .ref x1, .ref x0], (o67.1 ++ R), 0, 0)
  refine mB_run odX2_spread 4 (g := (171, [(0, .ref x0), (1, .ref x1), (2, .ref x2), (3, .ref x3)], [.int (2 : Int32), .int (1 : Int32), .int (0 : Int32), .ref x3, .long o67.2, .ref x2, .ref x1, .ref x0], (o67.1 ++ R), 0, 0)) rfl ?_
  obtain ⟨f73, k74, hq⟩ := bsm hq
  obtain ⟨o71, e72, hq⟩ := bsm hq
  refine mB_V (as := [.int (0 : Int32), .int (1 : Int32), .int (2 : Int32)]) odX2_spread okX3_acrossY lk_2_97 rfl (eaX3_acrossY e72) (kO_at (kO_ap k74)) rfl rfl rfl ?_
  show mB _ mX2_spread (174, [(0, .ref x0), (1, .ref x1), (2, .ref x2), (3, .ref x3)], [.long o71.2, .long o67.2, .ref x2, .ref x1, .ref x0], (o71.1 ++ R), 0, 0)
  refine mB_run odX2_spread 4 (g := (178, [(0, .ref x0), (1, .ref x1), (2, .ref x2), (3, .ref x3)], [.int (2 : Int32), .int (1 : Int32), .int (0 : Int32), .ref x3, .long o71.2, .long o67.2, .ref x2, .ref x1, .ref x0], (o71.1 ++ R), 0, 0)) rfl ?_
  obtain ⟨f77, k78, hq⟩ := bsm hq
  obtain ⟨o75, e76, hq⟩ := bsm hq
  refine mB_V (as := [.int (0 : Int32), .int (1 : Int32), .int (2 : Int32)]) odX2_spread okX3_acrossZ lk_2_100 rfl (eaX3_acrossZ e76) (kO_at (kO_ap k78)) rfl rfl rfl ?_
  show mB _ mX2_spread (181, [(0, .ref x0), (1, .ref x1), (2, .ref x2), (3, .ref x3)], [.long o75.2, .long o71.2, .long o67.2, .ref x2, .ref x1, .ref x0], (o75.1 ++ R), 0, 0)
  obtain ⟨f81, k82, hq⟩ := bsm hq
  obtain ⟨o79, e80, hq⟩ := bsm hq
  refine mB_V (as := [.ref x1, .ref x2, .long o67.2, .long o71.2, .long o75.2]) odX2_spread okX2_stepOff lk_2_80 rfl (eaX2_stepOff e80) (kO_at (kO_ap k82)) rfl rfl rfl ?_
  show mB _ mX2_spread (184, [(0, .ref x0), (1, .ref x1), (2, .ref x2), (3, .ref x3)], [.int o79.2], (o79.1 ++ R), 0, 0)
  by_cases c83 : o79.2 = 0
  · rw [if_pos c83] at hq
    refine if_ne_F (t := 191) odX2_spread rfl rfl c83 ?_
    refine mB_run odX2_spread 2 (g := (192, [(0, .ref x0), (1, .ref x1), (2, .ref x2), (3, .ref x3)], [.int (1 : Int32)], (o79.1 ++ R), 0, 0)) rfl ?_
    refine mB_lv [] (lv' := []) rfl ?_
    exact eaX2_spread_192 _ _ hq
  · rw [if_neg c83] at hq
    refine if_ne_T (t := 191) odX2_spread rfl rfl c83 ?_
    refine mB_run odX2_spread 1 (g := (192, [(0, .ref x0), (1, .ref x1), (2, .ref x2), (3, .ref x3)], [.int (0 : Int32)], (o79.1 ++ R), 0, 0)) rfl ?_
    refine mB_lv [] (lv' := []) rfl ?_
    exact eaX2_spread_192 _ _ hq
def fxX2_spread_59 (N : Nat) (x0 : Nat) (x1 : Nat) (x2 : Nat) (x3 : Nat) (h : mh) : Option (mh × Int32) :=
  (gR h x3 3 1).bind fun v28 =>
  (aI h v28 (1 : Int32)).bind fun v30 =>
  (gR h x3 3 1).bind fun v32 =>
  (aI h v32 (0 : Int32)).bind fun v34 =>
  (gR h x3 3 2).bind fun v36 =>
  (aI h v36 (1 : Int32)).bind fun v38 =>
  (gR h x3 3 2).bind fun v40 =>
  (aI h v40 (0 : Int32)).bind fun v42 =>
  (gR h x3 3 3).bind fun v44 =>
  (aI h v44 (1 : Int32)).bind fun v46 =>
  (gR h x3 3 3).bind fun v48 =>
  (aI h v48 (0 : Int32)).bind fun v50 =>
  (kO h x0 2).bind fun f54 =>
  (fxX2_stepOff N x0 x1 x2 (0 : Int64) (v46 - v50).toInt64 (-(v38 - v42)).toInt64 h).bind fun o52 =>
  if o52.2 = 0 then (
    (kO o52.1 x0 2).bind fun f59 =>
    (fxX2_stepOff N x0 x1 x2 (-(v46 - v50)).toInt64 (0 : Int64) (v30 - v34).toInt64 o52.1).bind fun o57 =>
    if o57.2 = 0 then (
      (kO o57.1 x0 2).bind fun f64 =>
      (fxX2_stepOff N x0 x1 x2 (v38 - v42).toInt64 (-(v30 - v34)).toInt64 (0 : Int64) o57.1).bind fun o62 =>
      if o62.2 = 0 then (
        some (o62.1, (2 : Int32))) else (
        fxX2_spread_157 N x0 x1 x2 x3 o62.1)) else (
      fxX2_spread_157 N x0 x1 x2 x3 o57.1)) else (
    fxX2_spread_157 N x0 x1 x2 x3 o52.1)
set_option maxHeartbeats 4000000 in
set_option maxRecDepth 100000 in
theorem eaX2_spread_59 {N : Nat} {R : mh} (x0 : Nat) (x1 : Nat) (x2 : Nat) (x3 : Nat) (h : mh) {o : (mh × Int32)} (hq : fxX2_spread_59 N x0 x1 x2 x3 h = some o) : mB (gO mX2_spread (o.1 ++ R, some (.int o.2))) mX2_spread (59, [(0, .ref x0), (1, .ref x1), (2, .ref x2), (3, .ref x3)], [], (h ++ R), 0, 0) := by
  unfold fxX2_spread_59 at hq
  refine mB_run odX2_spread 1 (g := (60, [(0, .ref x0), (1, .ref x1), (2, .ref x2), (3, .ref x3)], [.ref x3], (h ++ R), 0, 0)) rfl ?_
  obtain ⟨v28, e29, hq⟩ := bsm hq
  refine r_gR odX2_spread rfl rfl (gR_ap e29) ?_
  refine mB_run odX2_spread 1 (g := (64, [(0, .ref x0), (1, .ref x1), (2, .ref x2), (3, .ref x3)], [.int (1 : Int32), .ref v28], (h ++ R), 0, 0)) rfl ?_
  obtain ⟨v30, e31, hq⟩ := bsm hq
  refine r_aI odX2_spread rfl (aI_ap e31) ?_
  refine mB_run odX2_spread 1 (g := (66, [(0, .ref x0), (1, .ref x1), (2, .ref x2), (3, .ref x3)], [.ref x3, .int v30], (h ++ R), 0, 0)) rfl ?_
  obtain ⟨v32, e33, hq⟩ := bsm hq
  refine r_gR odX2_spread rfl rfl (gR_ap e33) ?_
  refine mB_run odX2_spread 1 (g := (70, [(0, .ref x0), (1, .ref x1), (2, .ref x2), (3, .ref x3)], [.int (0 : Int32), .ref v32, .int v30], (h ++ R), 0, 0)) rfl ?_
  obtain ⟨v34, e35, hq⟩ := bsm hq
  refine r_aI odX2_spread rfl (aI_ap e35) ?_
  refine mB_run odX2_spread 3 (g := (75, [(4, .int (v30 - v34)), (0, .ref x0), (1, .ref x1), (2, .ref x2), (3, .ref x3)], [.ref x3], (h ++ R), 0, 0)) rfl ?_
  obtain ⟨v36, e37, hq⟩ := bsm hq
  refine r_gR odX2_spread rfl rfl (gR_ap e37) ?_
  refine mB_run odX2_spread 1 (g := (79, [(4, .int (v30 - v34)), (0, .ref x0), (1, .ref x1), (2, .ref x2), (3, .ref x3)], [.int (1 : Int32), .ref v36], (h ++ R), 0, 0)) rfl ?_
  obtain ⟨v38, e39, hq⟩ := bsm hq
  refine r_aI odX2_spread rfl (aI_ap e39) ?_
  refine mB_run odX2_spread 1 (g := (81, [(4, .int (v30 - v34)), (0, .ref x0), (1, .ref x1), (2, .ref x2), (3, .ref x3)], [.ref x3, .int v38], (h ++ R), 0, 0)) rfl ?_
  obtain ⟨v40, e41, hq⟩ := bsm hq
  refine r_gR odX2_spread rfl rfl (gR_ap e41) ?_
  refine mB_run odX2_spread 1 (g := (85, [(4, .int (v30 - v34)), (0, .ref x0), (1, .ref x1), (2, .ref x2), (3, .ref x3)], [.int (0 : Int32), .ref v40, .int v38], (h ++ R), 0, 0)) rfl ?_
  obtain ⟨v42, e43, hq⟩ := bsm hq
  refine r_aI odX2_spread rfl (aI_ap e43) ?_
  refine mB_run odX2_spread 3 (g := (90, [(5, .int (v38 - v42)), (4, .int (v30 - v34)), (0, .ref x0), (1, .ref x1), (2, .ref x2), (3, .ref x3)], [.ref x3], (h ++ R), 0, 0)) rfl ?_
  obtain ⟨v44, e45, hq⟩ := bsm hq
  refine r_gR odX2_spread rfl rfl (gR_ap e45) ?_
  refine mB_run odX2_spread 1 (g := (94, [(5, .int (v38 - v42)), (4, .int (v30 - v34)), (0, .ref x0), (1, .ref x1), (2, .ref x2), (3, .ref x3)], [.int (1 : Int32), .ref v44], (h ++ R), 0, 0)) rfl ?_
  obtain ⟨v46, e47, hq⟩ := bsm hq
  refine r_aI odX2_spread rfl (aI_ap e47) ?_
  refine mB_run odX2_spread 1 (g := (96, [(5, .int (v38 - v42)), (4, .int (v30 - v34)), (0, .ref x0), (1, .ref x1), (2, .ref x2), (3, .ref x3)], [.ref x3, .int v46], (h ++ R), 0, 0)) rfl ?_
  obtain ⟨v48, e49, hq⟩ := bsm hq
  refine r_gR odX2_spread rfl rfl (gR_ap e49) ?_
  refine mB_run odX2_spread 1 (g := (100, [(5, .int (v38 - v42)), (4, .int (v30 - v34)), (0, .ref x0), (1, .ref x1), (2, .ref x2), (3, .ref x3)], [.int (0 : Int32), .ref v48, .int v46], (h ++ R), 0, 0)) rfl ?_
  obtain ⟨v50, e51, hq⟩ := bsm hq
  refine r_aI odX2_spread rfl (aI_ap e51) ?_
  refine mB_run odX2_spread 11 (g := (115, [(6, .int (v46 - v50)), (5, .int (v38 - v42)), (4, .int (v30 - v34)), (0, .ref x0), (1, .ref x1), (2, .ref x2), (3, .ref x3)], [.long (-(v38 - v42)).toInt64, .long (v46 - v50).toInt64, .long (0 : Int64), .ref x2, .ref x1, .ref x0], (h ++ R), 0, 0)) rfl ?_
  obtain ⟨f54, k55, hq⟩ := bsm hq
  obtain ⟨o52, e53, hq⟩ := bsm hq
  refine mB_V (as := [.ref x1, .ref x2, .long (0 : Int64), .long (v46 - v50).toInt64, .long (-(v38 - v42)).toInt64]) odX2_spread okX2_stepOff lk_2_80 rfl (eaX2_stepOff e53) (kO_at (kO_ap k55)) rfl rfl rfl ?_
  show mB _ mX2_spread (118, [(6, .int (v46 - v50)), (5, .int (v38 - v42)), (4, .int (v30 - v34)), (0, .ref x0), (1, .ref x1), (2, .ref x2), (3, .ref x3)], [.int o52.2], (o52.1 ++ R), 0, 0)
  by_cases c56 : o52.2 = 0
  · rw [if_pos c56] at hq
    refine if_ne_F (t := 157) odX2_spread rfl rfl c56 ?_
    refine mB_run odX2_spread 9 (g := (132, [(6, .int (v46 - v50)), (5, .int (v38 - v42)), (4, .int (v30 - v34)), (0, .ref x0), (1, .ref x1), (2, .ref x2), (3, .ref x3)], [.long (v30 - v34).toInt64, .long (0 : Int64), .long (-(v46 - v50)).toInt64, .ref x2, .ref x1, .ref x0], (o52.1 ++ R), 0, 0)) rfl ?_
    obtain ⟨f59, k60, hq⟩ := bsm hq
    obtain ⟨o57, e58, hq⟩ := bsm hq
    refine mB_V (as := [.ref x1, .ref x2, .long (-(v46 - v50)).toInt64, .long (0 : Int64), .long (v30 - v34).toInt64]) odX2_spread okX2_stepOff lk_2_80 rfl (eaX2_stepOff e58) (kO_at (kO_ap k60)) rfl rfl rfl ?_
    show mB _ mX2_spread (135, [(6, .int (v46 - v50)), (5, .int (v38 - v42)), (4, .int (v30 - v34)), (0, .ref x0), (1, .ref x1), (2, .ref x2), (3, .ref x3)], [.int o57.2], (o57.1 ++ R), 0, 0)
    by_cases c61 : o57.2 = 0
    · rw [if_pos c61] at hq
      refine if_ne_F (t := 157) odX2_spread rfl rfl c61 ?_
      refine mB_run odX2_spread 9 (g := (149, [(6, .int (v46 - v50)), (5, .int (v38 - v42)), (4, .int (v30 - v34)), (0, .ref x0), (1, .ref x1), (2, .ref x2), (3, .ref x3)], [.long (0 : Int64), .long (-(v30 - v34)).toInt64, .long (v38 - v42).toInt64, .ref x2, .ref x1, .ref x0], (o57.1 ++ R), 0, 0)) rfl ?_
      obtain ⟨f64, k65, hq⟩ := bsm hq
      obtain ⟨o62, e63, hq⟩ := bsm hq
      refine mB_V (as := [.ref x1, .ref x2, .long (v38 - v42).toInt64, .long (-(v30 - v34)).toInt64, .long (0 : Int64)]) odX2_spread okX2_stepOff lk_2_80 rfl (eaX2_stepOff e63) (kO_at (kO_ap k65)) rfl rfl rfl ?_
      show mB _ mX2_spread (152, [(6, .int (v46 - v50)), (5, .int (v38 - v42)), (4, .int (v30 - v34)), (0, .ref x0), (1, .ref x1), (2, .ref x2), (3, .ref x3)], [.int o62.2], (o62.1 ++ R), 0, 0)
      by_cases c66 : o62.2 = 0
      · rw [if_pos c66] at hq
        refine if_ne_F (t := 157) odX2_spread rfl rfl c66 ?_
        refine mB_run odX2_spread 1 (g := (156, [(6, .int (v46 - v50)), (5, .int (v38 - v42)), (4, .int (v30 - v34)), (0, .ref x0), (1, .ref x1), (2, .ref x2), (3, .ref x3)], [.int (2 : Int32)], (o62.1 ++ R), 0, 0)) rfl ?_
        cases hq
        exact mB_ret odX2_spread rfl
      · rw [if_neg c66] at hq
        refine if_ne_T (t := 157) odX2_spread rfl rfl c66 ?_
        refine mB_lv [3, 4, 5, 6] (lv' := [(0, .ref x0), (1, .ref x1), (2, .ref x2), (3, .ref x3)]) rfl ?_
        exact eaX2_spread_157 _ _ _ _ _ hq
    · rw [if_neg c61] at hq
      refine if_ne_T (t := 157) odX2_spread rfl rfl c61 ?_
      refine mB_lv [3, 4, 5, 6] (lv' := [(0, .ref x0), (1, .ref x1), (2, .ref x2), (3, .ref x3)]) rfl ?_
      exact eaX2_spread_157 _ _ _ _ _ hq
  · rw [if_neg c56] at hq
    refine if_ne_T (t := 157) odX2_spread rfl rfl c56 ?_
    refine mB_lv [3, 4, 5, 6] (lv' := [(0, .ref x0), (1, .ref x1), (2, .ref x2), (3, .ref x3)]) rfl ?_
    exact eaX2_spread_157 _ _ _ _ _ hq
def fxX2_spread (N : Nat) (p0 : Nat) (p1 : Nat) (p2 : Nat) (h : mh) : Option (mh × Int32) :=
  (gR h p0 2 0).bind fun v1 =>
  (gR h v1 5 0).bind fun v3 =>
  (kO h p0 2).bind fun f7 =>
  (fxX2_seek N p0 p1 p2 (0 : Int64) (0 : Int64) (0 : Int64) h).bind fun o5 =>
  (kO o5 p0 2).bind fun f11 =>
  (fxX2_take N p0 o5).bind fun o9 =>
  (kO o9 p0 2).bind fun f15 =>
  (fxX2_stepOff N p0 p1 p2 (1 : Int64) (0 : Int64) (0 : Int64) o9).bind fun o13 =>
  if o13.2 = 0 then (
    (kO o13.1 p0 2).bind fun f20 =>
    (fxX2_stepOff N p0 p1 p2 (0 : Int64) (1 : Int64) (0 : Int64) o13.1).bind fun o18 =>
    if o18.2 = 0 then (
      (kO o18.1 p0 2).bind fun f25 =>
      (fxX2_stepOff N p0 p1 p2 (0 : Int64) (0 : Int64) (1 : Int64) o18.1).bind fun o23 =>
      if o23.2 = 0 then (
        some (o23.1, (1 : Int32))) else (
        fxX2_spread_59 N p0 p1 p2 v3 o23.1)) else (
      fxX2_spread_59 N p0 p1 p2 v3 o18.1)) else (
    fxX2_spread_59 N p0 p1 p2 v3 o13.1)
set_option maxHeartbeats 4000000 in
set_option maxRecDepth 100000 in
theorem eaX2_spread {N : Nat} {R : mh} {p0 : Nat} {p1 : Nat} {p2 : Nat} {h : mh} {o : (mh × Int32)} (hq : fxX2_spread N p0 p1 p2 h = some o) : mC mX2_spread [.ref p0, .ref p1, .ref p2] (h ++ R) (o.1 ++ R, some (.int o.2)) := by
  refine mC_of okX2_spread (Nat.le_of_ble_eq_true rfl) ?_
  unfold fxX2_spread at hq
  show mB _ mX2_spread (0, [(0, .ref p0), (1, .ref p1), (2, .ref p2)], [], (h ++ R), 0, 0)
  refine mB_run odX2_spread 1 (g := (1, [(0, .ref p0), (1, .ref p1), (2, .ref p2)], [.ref p0], (h ++ R), 0, 0)) rfl ?_
  obtain ⟨v1, e2, hq⟩ := bsm hq
  refine r_gR odX2_spread rfl rfl (gR_ap e2) ?_
  obtain ⟨v3, e4, hq⟩ := bsm hq
  refine r_gR odX2_spread rfl rfl (gR_ap e4) ?_
  refine mB_run odX2_spread 7 (g := (14, [(3, .ref v3), (0, .ref p0), (1, .ref p1), (2, .ref p2)], [.long (0 : Int64), .long (0 : Int64), .long (0 : Int64), .ref p2, .ref p1, .ref p0], (h ++ R), 0, 0)) rfl ?_
  obtain ⟨f7, k8, hq⟩ := bsm hq
  obtain ⟨o5, e6, hq⟩ := bsm hq
  refine mB_V (as := [.ref p1, .ref p2, .long (0 : Int64), .long (0 : Int64), .long (0 : Int64)]) odX2_spread okX2_seek lk_2_73 rfl (eaX2_seek e6) (kO_at (kO_ap k8)) rfl rfl rfl ?_
  show mB _ mX2_spread (17, [(3, .ref v3), (0, .ref p0), (1, .ref p1), (2, .ref p2)], [], (o5 ++ R), 0, 0)
  refine mB_run odX2_spread 1 (g := (18, [(3, .ref v3), (0, .ref p0), (1, .ref p1), (2, .ref p2)], [.ref p0], (o5 ++ R), 0, 0)) rfl ?_
  obtain ⟨f11, k12, hq⟩ := bsm hq
  obtain ⟨o9, e10, hq⟩ := bsm hq
  refine mB_V (as := []) odX2_spread okX2_take lk_2_77 rfl (eaX2_take e10) (kO_at (kO_ap k12)) rfl rfl rfl ?_
  show mB _ mX2_spread (21, [(3, .ref v3), (0, .ref p0), (1, .ref p1), (2, .ref p2)], [], (o9 ++ R), 0, 0)
  refine mB_run odX2_spread 6 (g := (27, [(3, .ref v3), (0, .ref p0), (1, .ref p1), (2, .ref p2)], [.long (0 : Int64), .long (0 : Int64), .long (1 : Int64), .ref p2, .ref p1, .ref p0], (o9 ++ R), 0, 0)) rfl ?_
  obtain ⟨f15, k16, hq⟩ := bsm hq
  obtain ⟨o13, e14, hq⟩ := bsm hq
  refine mB_V (as := [.ref p1, .ref p2, .long (1 : Int64), .long (0 : Int64), .long (0 : Int64)]) odX2_spread okX2_stepOff lk_2_80 rfl (eaX2_stepOff e14) (kO_at (kO_ap k16)) rfl rfl rfl ?_
  show mB _ mX2_spread (30, [(3, .ref v3), (0, .ref p0), (1, .ref p1), (2, .ref p2)], [.int o13.2], (o13.1 ++ R), 0, 0)
  by_cases c17 : o13.2 = 0
  · rw [if_pos c17] at hq
    refine if_ne_F (t := 59) odX2_spread rfl rfl c17 ?_
    refine mB_run odX2_spread 6 (g := (39, [(3, .ref v3), (0, .ref p0), (1, .ref p1), (2, .ref p2)], [.long (0 : Int64), .long (1 : Int64), .long (0 : Int64), .ref p2, .ref p1, .ref p0], (o13.1 ++ R), 0, 0)) rfl ?_
    obtain ⟨f20, k21, hq⟩ := bsm hq
    obtain ⟨o18, e19, hq⟩ := bsm hq
    refine mB_V (as := [.ref p1, .ref p2, .long (0 : Int64), .long (1 : Int64), .long (0 : Int64)]) odX2_spread okX2_stepOff lk_2_80 rfl (eaX2_stepOff e19) (kO_at (kO_ap k21)) rfl rfl rfl ?_
    show mB _ mX2_spread (42, [(3, .ref v3), (0, .ref p0), (1, .ref p1), (2, .ref p2)], [.int o18.2], (o18.1 ++ R), 0, 0)
    by_cases c22 : o18.2 = 0
    · rw [if_pos c22] at hq
      refine if_ne_F (t := 59) odX2_spread rfl rfl c22 ?_
      refine mB_run odX2_spread 6 (g := (51, [(3, .ref v3), (0, .ref p0), (1, .ref p1), (2, .ref p2)], [.long (1 : Int64), .long (0 : Int64), .long (0 : Int64), .ref p2, .ref p1, .ref p0], (o18.1 ++ R), 0, 0)) rfl ?_
      obtain ⟨f25, k26, hq⟩ := bsm hq
      obtain ⟨o23, e24, hq⟩ := bsm hq
      refine mB_V (as := [.ref p1, .ref p2, .long (0 : Int64), .long (0 : Int64), .long (1 : Int64)]) odX2_spread okX2_stepOff lk_2_80 rfl (eaX2_stepOff e24) (kO_at (kO_ap k26)) rfl rfl rfl ?_
      show mB _ mX2_spread (54, [(3, .ref v3), (0, .ref p0), (1, .ref p1), (2, .ref p2)], [.int o23.2], (o23.1 ++ R), 0, 0)
      by_cases c27 : o23.2 = 0
      · rw [if_pos c27] at hq
        refine if_ne_F (t := 59) odX2_spread rfl rfl c27 ?_
        refine mB_run odX2_spread 1 (g := (58, [(3, .ref v3), (0, .ref p0), (1, .ref p1), (2, .ref p2)], [.int (1 : Int32)], (o23.1 ++ R), 0, 0)) rfl ?_
        cases hq
        exact mB_ret odX2_spread rfl
      · rw [if_neg c27] at hq
        refine if_ne_T (t := 59) odX2_spread rfl rfl c27 ?_
        refine mB_lv [1, 2, 3, 0] (lv' := [(0, .ref p0), (1, .ref p1), (2, .ref p2), (3, .ref v3)]) rfl ?_
        exact eaX2_spread_59 _ _ _ _ _ hq
    · rw [if_neg c22] at hq
      refine if_ne_T (t := 59) odX2_spread rfl rfl c22 ?_
      refine mB_lv [1, 2, 3, 0] (lv' := [(0, .ref p0), (1, .ref p1), (2, .ref p2), (3, .ref v3)]) rfl ?_
      exact eaX2_spread_59 _ _ _ _ _ hq
  · rw [if_neg c17] at hq
    refine if_ne_T (t := 59) odX2_spread rfl rfl c17 ?_
    refine mB_lv [1, 2, 3, 0] (lv' := [(0, .ref p0), (1, .ref p1), (2, .ref p2), (3, .ref v3)]) rfl ?_
    exact eaX2_spread_59 _ _ _ _ _ hq
