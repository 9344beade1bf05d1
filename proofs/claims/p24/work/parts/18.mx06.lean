def mxX7_through_87 (N : Nat) (x1 : Int32) (x2 : Int32) (x3 : Int32) (x4 : Int32) (x9 : Int64) (y0 : Int64) (h : mS) : Option mS :=
  (rG h 43 x1).bind fun v15 =>
  (rG h 43 x2).bind fun v17 =>
  (rG h 44 x1).bind fun v19 =>
  (rG h 44 x2).bind fun v21 =>
  (rG h 45 x1).bind fun v23 =>
  (rG h 45 x2).bind fun v25 =>
  (mxX7_points N ((v15 * y0) + (v17 * x9)) ((v19 * y0) + (v21 * x9)) ((v23 * y0) + (v25 * x9)) (x9 + y0) h).bind fun o27 =>
  (mxX7_isOver N x3 x4 o27).bind fun o29 =>
  if o29.2 = 0 then (
    some o29.1) else (
    (mxX7_tries N (0 : Int64) (1 : Int64) o29.1).bind fun o32 =>
    some o32)
set_option maxHeartbeats 4000000 in
set_option maxRecDepth 100000 in
theorem emX7_through_87 {N : Nat} {C : mh} (hC : C.length = 239) (x1 : Int32) (x2 : Int32) (x3 : Int32) (x4 : Int32) (x9 : Int64) (y0 : Int64) (h : mS) {o : mS} (hq : mxX7_through_87 N x1 x2 x3 x4 x9 y0 h = some o) : mB (gO mX7_through (hM C o, none)) mX7_through (87, [(0, .ref 239), (1, .int x1), (2, .int x2), (3, .int x3), (4, .int x4), (9, .long x9)], [.long y0], (hM C h), 0, 0) := by
  unfold mxX7_through_87 at hq
  refine mB_run odX7_through 3 (g := (91, [(11, .long y0), (0, .ref 239), (1, .int x1), (2, .int x2), (3, .int x3), (4, .int x4), (9, .long x9)], [.ref 239, .ref 239], (hM C h), 0, 0)) rfl ?_
  refine r_gR odX7_through rfl rfl (md_43 hC) ?_
  refine mB_run odX7_through 1 (g := (95, [(11, .long y0), (0, .ref 239), (1, .int x1), (2, .int x2), (3, .int x3), (4, .int x4), (9, .long x9)], [.int x1, .ref 272, .ref 239], (hM C h), 0, 0)) rfl ?_
  obtain ⟨v15, e16, hq⟩ := bsm hq
  refine r_aJ odX7_through rfl (ra_43 hC e16) ?_
  refine mB_run odX7_through 3 (g := (100, [(11, .long y0), (0, .ref 239), (1, .int x1), (2, .int x2), (3, .int x3), (4, .int x4), (9, .long x9)], [.ref 239, .long (v15 * y0), .ref 239], (hM C h), 0, 0)) rfl ?_
  refine r_gR odX7_through rfl rfl (md_43 hC) ?_
  refine mB_run odX7_through 1 (g := (104, [(11, .long y0), (0, .ref 239), (1, .int x1), (2, .int x2), (3, .int x3), (4, .int x4), (9, .long x9)], [.int x2, .ref 272, .long (v15 * y0), .ref 239], (hM C h), 0, 0)) rfl ?_
  obtain ⟨v17, e18, hq⟩ := bsm hq
  refine r_aJ odX7_through rfl (ra_43 hC e18) ?_
  refine mB_run odX7_through 4 (g := (110, [(11, .long y0), (0, .ref 239), (1, .int x1), (2, .int x2), (3, .int x3), (4, .int x4), (9, .long x9)], [.ref 239, .long ((v15 * y0) + (v17 * x9)), .ref 239], (hM C h), 0, 0)) rfl ?_
  refine r_gR odX7_through rfl rfl (md_44 hC) ?_
  refine mB_run odX7_through 1 (g := (114, [(11, .long y0), (0, .ref 239), (1, .int x1), (2, .int x2), (3, .int x3), (4, .int x4), (9, .long x9)], [.int x1, .ref 273, .long ((v15 * y0) + (v17 * x9)), .ref 239], (hM C h), 0, 0)) rfl ?_
  obtain ⟨v19, e20, hq⟩ := bsm hq
  refine r_aJ odX7_through rfl (ra_44 hC e20) ?_
  refine mB_run odX7_through 3 (g := (119, [(11, .long y0), (0, .ref 239), (1, .int x1), (2, .int x2), (3, .int x3), (4, .int x4), (9, .long x9)], [.ref 239, .long (v19 * y0), .long ((v15 * y0) + (v17 * x9)), .ref 239], (hM C h), 0, 0)) rfl ?_
  refine r_gR odX7_through rfl rfl (md_44 hC) ?_
  refine mB_run odX7_through 1 (g := (123, [(11, .long y0), (0, .ref 239), (1, .int x1), (2, .int x2), (3, .int x3), (4, .int x4), (9, .long x9)], [.int x2, .ref 273, .long (v19 * y0), .long ((v15 * y0) + (v17 * x9)), .ref 239], (hM C h), 0, 0)) rfl ?_
  obtain ⟨v21, e22, hq⟩ := bsm hq
  refine r_aJ odX7_through rfl (ra_44 hC e22) ?_
  refine mB_run odX7_through 4 (g := (129, [(11, .long y0), (0, .ref 239), (1, .int x1), (2, .int x2), (3, .int x3), (4, .int x4), (9, .long x9)], [.ref 239, .long ((v19 * y0) + (v21 * x9)), .long ((v15 * y0) + (v17 * x9)), .ref 239], (hM C h), 0, 0)) rfl ?_
  refine r_gR odX7_through rfl rfl (md_45 hC) ?_
  refine mB_run odX7_through 1 (g := (133, [(11, .long y0), (0, .ref 239), (1, .int x1), (2, .int x2), (3, .int x3), (4, .int x4), (9, .long x9)], [.int x1, .ref 274, .long ((v19 * y0) + (v21 * x9)), .long ((v15 * y0) + (v17 * x9)), .ref 239], (hM C h), 0, 0)) rfl ?_
  obtain ⟨v23, e24, hq⟩ := bsm hq
  refine r_aJ odX7_through rfl (ra_45 hC e24) ?_
  refine mB_run odX7_through 3 (g := (138, [(11, .long y0), (0, .ref 239), (1, .int x1), (2, .int x2), (3, .int x3), (4, .int x4), (9, .long x9)], [.ref 239, .long (v23 * y0), .long ((v19 * y0) + (v21 * x9)), .long ((v15 * y0) + (v17 * x9)), .ref 239], (hM C h), 0, 0)) rfl ?_
  refine r_gR odX7_through rfl rfl (md_45 hC) ?_
  refine mB_run odX7_through 1 (g := (142, [(11, .long y0), (0, .ref 239), (1, .int x1), (2, .int x2), (3, .int x3), (4, .int x4), (9, .long x9)], [.int x2, .ref 274, .long (v23 * y0), .long ((v19 * y0) + (v21 * x9)), .long ((v15 * y0) + (v17 * x9)), .ref 239], (hM C h), 0, 0)) rfl ?_
  obtain ⟨v25, e26, hq⟩ := bsm hq
  refine r_aJ odX7_through rfl (ra_45 hC e26) ?_
  refine mB_run odX7_through 6 (g := (152, [(11, .long y0), (0, .ref 239), (1, .int x1), (2, .int x2), (3, .int x3), (4, .int x4), (9, .long x9)], [.long (x9 + y0), .long ((v23 * y0) + (v25 * x9)), .long ((v19 * y0) + (v21 * x9)), .long ((v15 * y0) + (v17 * x9)), .ref 239], (hM C h), 0, 0)) rfl ?_
  obtain ⟨o27, e28, hq⟩ := bsm hq
  refine mB_V (as := [.long ((v15 * y0) + (v17 * x9)), .long ((v19 * y0) + (v21 * x9)), .long ((v23 * y0) + (v25 * x9)), .long (x9 + y0)]) odX7_through okX7_points lk_7_281 rfl (emX7_points hC e28) (kO_at (md_O hC)) rfl rfl rfl ?_
  show mB _ mX7_through (155, [(11, .long y0), (0, .ref 239), (1, .int x1), (2, .int x2), (3, .int x3), (4, .int x4), (9, .long x9)], [], (hM C o27), 0, 0)
  refine mB_run odX7_through 3 (g := (159, [(11, .long y0), (0, .ref 239), (1, .int x1), (2, .int x2), (3, .int x3), (4, .int x4), (9, .long x9)], [.int x4, .int x3, .ref 239], (hM C o27), 0, 0)) rfl ?_
  obtain ⟨o29, e30, hq⟩ := bsm hq
  refine mB_V (as := [.int x3, .int x4]) odX7_through okX7_isOver lk_7_271 rfl (emX7_isOver hC e30) (kO_at (md_O hC)) rfl rfl rfl ?_
  show mB _ mX7_through (162, [(11, .long y0), (0, .ref 239), (1, .int x1), (2, .int x2), (3, .int x3), (4, .int x4), (9, .long x9)], [.int o29.2], (hM C o29.1), 0, 0)
  by_cases c31 : o29.2 = 0
  · rw [if_pos c31] at hq
    refine if_eq_T (t := 171) odX7_through rfl rfl c31 ?_
    cases hq
    exact mB_ret odX7_through rfl
  · rw [if_neg c31] at hq
    refine if_eq_F (t := 171) odX7_through rfl rfl c31 ?_
    refine mB_run odX7_through 3 (g := (168, [(11, .long y0), (0, .ref 239), (1, .int x1), (2, .int x2), (3, .int x3), (4, .int x4), (9, .long x9)], [.long (1 : Int64), .long (0 : Int64), .ref 239], (hM C o29.1), 0, 0)) rfl ?_
    obtain ⟨o32, e33, hq⟩ := bsm hq
    refine mB_V (as := [.long (0 : Int64), .long (1 : Int64)]) odX7_through okX7_tries lk_7_327 rfl (emX7_tries hC e33) (kO_at (md_O hC)) rfl rfl rfl ?_
    show mB _ mX7_through (171, [(11, .long y0), (0, .ref 239), (1, .int x1), (2, .int x2), (3, .int x3), (4, .int x4), (9, .long x9)], [], (hM C o32), 0, 0)
    cases hq
    exact mB_ret odX7_through rfl
def mxX7_through_70 (N : Nat) (x1 : Int32) (x2 : Int32) (x3 : Int32) (x4 : Int32) (x7 : Int64) (y0 : Int64) (h : mS) : Option mS :=
  if (0 : Int64) ≤ x7 then (
    mxX7_through_87 N x1 x2 x3 x4 y0 x7 h) else (
    mxX7_through_87 N x1 x2 x3 x4 y0 (-x7) h)
set_option maxHeartbeats 4000000 in
set_option maxRecDepth 100000 in
theorem emX7_through_70 {N : Nat} {C : mh} (hC : C.length = 239) (x1 : Int32) (x2 : Int32) (x3 : Int32) (x4 : Int32) (x7 : Int64) (y0 : Int64) (h : mS) {o : mS} (hq : mxX7_through_70 N x1 x2 x3 x4 x7 y0 h = some o) : mB (gO mX7_through (hM C o, none)) mX7_through (70, [(0, .ref 239), (1, .int x1), (2, .int x2), (3, .int x3), (4, .int x4), (7, .long x7)], [.long y0], (hM C h), 0, 0) := by
  unfold mxX7_through_70 at hq
  refine mB_run odX7_through 3 (g := (75, [(9, .long y0), (0, .ref 239), (1, .int x1), (2, .int x2), (3, .int x3), (4, .int x4), (7, .long x7)], [.long (0 : Int64), .long x7], (hM C h), 0, 0)) rfl ?_
  by_cases c14 : (0 : Int64) ≤ x7
  · rw [if_pos c14] at hq
    refine lc_ge_T (t := 85) odX7_through rfl rfl rfl c14 ?_
    refine mB_run odX7_through 1 (g := (87, [(9, .long y0), (0, .ref 239), (1, .int x1), (2, .int x2), (3, .int x3), (4, .int x4), (7, .long x7)], [.long x7], (hM C h), 0, 0)) rfl ?_
    refine mB_lv [1, 2, 3, 4, 5, 0] (lv' := [(0, .ref 239), (1, .int x1), (2, .int x2), (3, .int x3), (4, .int x4), (9, .long y0)]) rfl ?_
    exact emX7_through_87 hC _ _ _ _ _ _ _ hq
  · rw [if_neg c14] at hq
    refine lc_ge_F (t := 85) odX7_through rfl rfl rfl c14 ?_
    refine mB_run odX7_through 3 (g := (87, [(9, .long y0), (0, .ref 239), (1, .int x1), (2, .int x2), (3, .int x3), (4, .int x4), (7, .long x7)], [.long (-x7)], (hM C h), 0, 0)) rfl ?_
    refine mB_lv [1, 2, 3, 4, 5, 0] (lv' := [(0, .ref 239), (1, .int x1), (2, .int x2), (3, .int x3), (4, .int x4), (9, .long y0)]) rfl ?_
    exact emX7_through_87 hC _ _ _ _ _ _ _ hq
def mxX7_through_55 (N : Nat) (x1 : Int32) (x2 : Int32) (x3 : Int32) (x4 : Int32) (x5 : Int64) (x7 : Int64) (h : mS) : Option mS :=
  if (0 : Int64) ≤ x5 then (
    mxX7_through_70 N x1 x2 x3 x4 x7 x5 h) else (
    mxX7_through_70 N x1 x2 x3 x4 x7 (-x5) h)
set_option maxHeartbeats 4000000 in
set_option maxRecDepth 100000 in
theorem emX7_through_55 {N : Nat} {C : mh} (hC : C.length = 239) (x1 : Int32) (x2 : Int32) (x3 : Int32) (x4 : Int32) (x5 : Int64) (x7 : Int64) (h : mS) {o : mS} (hq : mxX7_through_55 N x1 x2 x3 x4 x5 x7 h = some o) : mB (gO mX7_through (hM C o, none)) mX7_through (55, [(0, .ref 239), (1, .int x1), (2, .int x2), (3, .int x3), (4, .int x4), (5, .long x5), (7, .long x7)], [], (hM C h), 0, 0) := by
  unfold mxX7_through_55 at hq
  refine mB_run odX7_through 2 (g := (58, [(0, .ref 239), (1, .int x1), (2, .int x2), (3, .int x3), (4, .int x4), (5, .long x5), (7, .long x7)], [.long (0 : Int64), .long x5], (hM C h), 0, 0)) rfl ?_
  by_cases c13 : (0 : Int64) ≤ x5
  · rw [if_pos c13] at hq
    refine lc_ge_T (t := 68) odX7_through rfl rfl rfl c13 ?_
    refine mB_run odX7_through 1 (g := (70, [(0, .ref 239), (1, .int x1), (2, .int x2), (3, .int x3), (4, .int x4), (5, .long x5), (7, .long x7)], [.long x5], (hM C h), 0, 0)) rfl ?_
    refine mB_lv [0, 1, 2, 3, 4, 6] (lv' := [(0, .ref 239), (1, .int x1), (2, .int x2), (3, .int x3), (4, .int x4), (7, .long x7)]) rfl ?_
    exact emX7_through_70 hC _ _ _ _ _ _ _ hq
  · rw [if_neg c13] at hq
    refine lc_ge_F (t := 68) odX7_through rfl rfl rfl c13 ?_
    refine mB_run odX7_through 3 (g := (70, [(0, .ref 239), (1, .int x1), (2, .int x2), (3, .int x3), (4, .int x4), (5, .long x5), (7, .long x7)], [.long (-x5)], (hM C h), 0, 0)) rfl ?_
    refine mB_lv [0, 1, 2, 3, 4, 6] (lv' := [(0, .ref 239), (1, .int x1), (2, .int x2), (3, .int x3), (4, .int x4), (7, .long x7)]) rfl ?_
    exact emX7_through_70 hC _ _ _ _ _ _ _ hq
def mxX7_through_40 (N : Nat) (x1 : Int32) (x2 : Int32) (x3 : Int32) (x4 : Int32) (x5 : Int64) (x7 : Int64) (h : mS) : Option mS :=
  if (0 : Int64) < x5 then (
    mxX7_through_55 N x1 x2 x3 x4 x5 x7 h) else (
    if (0 : Int64) < x7 then (
      mxX7_through_55 N x1 x2 x3 x4 x5 x7 h) else (
      some h))
set_option maxHeartbeats 4000000 in
set_option maxRecDepth 100000 in
theorem emX7_through_40 {N : Nat} {C : mh} (hC : C.length = 239) (x1 : Int32) (x2 : Int32) (x3 : Int32) (x4 : Int32) (x5 : Int64) (x7 : Int64) (h : mS) {o : mS} (hq : mxX7_through_40 N x1 x2 x3 x4 x5 x7 h = some o) : mB (gO mX7_through (hM C o, none)) mX7_through (40, [(0, .ref 239), (1, .int x1), (2, .int x2), (3, .int x3), (4, .int x4), (5, .long x5), (7, .long x7)], [], (hM C h), 0, 0) := by
  unfold mxX7_through_40 at hq
  refine mB_run odX7_through 2 (g := (43, [(0, .ref 239), (1, .int x1), (2, .int x2), (3, .int x3), (4, .int x4), (5, .long x5), (7, .long x7)], [.long (0 : Int64), .long x5], (hM C h), 0, 0)) rfl ?_
  by_cases c11 : (0 : Int64) < x5
  · rw [if_pos c11] at hq
    refine lc_gt_T (t := 55) odX7_through rfl rfl rfl c11 ?_
    refine mB_lv [0, 1, 2, 3, 4, 5, 6] (lv' := [(0, .ref 239), (1, .int x1), (2, .int x2), (3, .int x3), (4, .int x4), (5, .long x5), (7, .long x7)]) rfl ?_
    exact emX7_through_55 hC _ _ _ _ _ _ _ hq
  · rw [if_neg c11] at hq
    refine lc_gt_F (t := 55) odX7_through rfl rfl rfl c11 ?_
    refine mB_run odX7_through 2 (g := (50, [(0, .ref 239), (1, .int x1), (2, .int x2), (3, .int x3), (4, .int x4), (5, .long x5), (7, .long x7)], [.long (0 : Int64), .long x7], (hM C h), 0, 0)) rfl ?_
    by_cases c12 : (0 : Int64) < x7
    · rw [if_pos c12] at hq
      refine lc_gt_T (t := 55) odX7_through rfl rfl rfl c12 ?_
      refine mB_lv [0, 1, 2, 3, 4, 5, 6] (lv' := [(0, .ref 239), (1, .int x1), (2, .int x2), (3, .int x3), (4, .int x4), (5, .long x5), (7, .long x7)]) rfl ?_
      exact emX7_through_55 hC _ _ _ _ _ _ _ hq
    · rw [if_neg c12] at hq
      refine lc_gt_F (t := 55) odX7_through rfl rfl rfl c12 ?_
      cases hq
      exact mB_ret odX7_through rfl
def mxX7_through (N : Nat) (p1 : Int32) (p2 : Int32) (p3 : Int32) (p4 : Int32) (h : mS) : Option mS :=
  (mxX7_cornerAt N p1 h).bind fun o1 =>
  (mxX7_overFace N p4 o1).bind fun o3 =>
  (mxX7_cornerAt N p2 o3.1).bind fun o5 =>
  (mxX7_overFace N p4 o5).bind fun o7 =>
  if o3.2 < (0 : Int64) then (
    mxX7_through_40 N p1 p2 p3 p4 o3.2 o7.2 o7.1) else (
    if (0 : Int64) ≤ o7.2 then (
      some o7.1) else (
      mxX7_through_40 N p1 p2 p3 p4 o3.2 o7.2 o7.1))
set_option maxHeartbeats 4000000 in
set_option maxRecDepth 100000 in
theorem emX7_through {N : Nat} {C : mh} (hC : C.length = 239) {p1 : Int32} {p2 : Int32} {p3 : Int32} {p4 : Int32} {h : mS} {o : mS} (hq : mxX7_through N p1 p2 p3 p4 h = some o) : mC mX7_through [.ref 239, .int p1, .int p2, .int p3, .int p4] (hM C h) (hM C o, none) := by
  refine mC_of okX7_through (Nat.le_of_ble_eq_true rfl) ?_
  unfold mxX7_through at hq
  show mB _ mX7_through (0, [(0, .ref 239), (1, .int p1), (2, .int p2), (3, .int p3), (4, .int p4)], [], (hM C h), 0, 0)
  refine mB_run odX7_through 2 (g := (2, [(0, .ref 239), (1, .int p1), (2, .int p2), (3, .int p3), (4, .int p4)], [.int p1, .ref 239], (hM C h), 0, 0)) rfl ?_
  obtain ⟨o1, e2, hq⟩ := bsm hq
  refine mB_V (as := [.int p1]) odX7_through okX7_cornerAt lk_7_365 rfl (emX7_cornerAt hC e2) (kO_at (md_O hC)) rfl rfl rfl ?_
  show mB _ mX7_through (5, [(0, .ref 239), (1, .int p1), (2, .int p2), (3, .int p3), (4, .int p4)], [], (hM C o1), 0, 0)
  refine mB_run odX7_through 2 (g := (8, [(0, .ref 239), (1, .int p1), (2, .int p2), (3, .int p3), (4, .int p4)], [.int p4, .ref 239], (hM C o1), 0, 0)) rfl ?_
  obtain ⟨o3, e4, hq⟩ := bsm hq
  refine mB_V (as := [.int p4]) odX7_through okX7_overFace lk_7_268 rfl (emX7_overFace hC e4) (kO_at (md_O hC)) rfl rfl rfl ?_
  show mB _ mX7_through (11, [(0, .ref 239), (1, .int p1), (2, .int p2), (3, .int p3), (4, .int p4)], [.long o3.2], (hM C o3.1), 0, 0)
  refine mB_run odX7_through 3 (g := (15, [(5, .long o3.2), (0, .ref 239), (1, .int p1), (2, .int p2), (3, .int p3), (4, .int p4)], [.int p2, .ref 239], (hM C o3.1), 0, 0)) rfl ?_
  obtain ⟨o5, e6, hq⟩ := bsm hq
  refine mB_V (as := [.int p2]) odX7_through okX7_cornerAt lk_7_365 rfl (emX7_cornerAt hC e6) (kO_at (md_O hC)) rfl rfl rfl ?_
  show mB _ mX7_through (18, [(5, .long o3.2), (0, .ref 239), (1, .int p1), (2, .int p2), (3, .int p3), (4, .int p4)], [], (hM C o5), 0, 0)
  refine mB_run odX7_through 2 (g := (21, [(5, .long o3.2), (0, .ref 239), (1, .int p1), (2, .int p2), (3, .int p3), (4, .int p4)], [.int p4, .ref 239], (hM C o5), 0, 0)) rfl ?_
  obtain ⟨o7, e8, hq⟩ := bsm hq
  refine mB_V (as := [.int p4]) odX7_through okX7_overFace lk_7_268 rfl (emX7_overFace hC e8) (kO_at (md_O hC)) rfl rfl rfl ?_
  show mB _ mX7_through (24, [(5, .long o3.2), (0, .ref 239), (1, .int p1), (2, .int p2), (3, .int p3), (4, .int p4)], [.long o7.2], (hM C o7.1), 0, 0)
  refine mB_run odX7_through 3 (g := (29, [(7, .long o7.2), (5, .long o3.2), (0, .ref 239), (1, .int p1), (2, .int p2), (3, .int p3), (4, .int p4)], [.long (0 : Int64), .long o3.2], (hM C o7.1), 0, 0)) rfl ?_
  by_cases c9 : o3.2 < (0 : Int64)
  · rw [if_pos c9] at hq
    refine lc_lt_T (t := 40) odX7_through rfl rfl rfl c9 ?_
    refine mB_lv [2, 3, 4, 5, 6, 1, 0] (lv' := [(0, .ref 239), (1, .int p1), (2, .int p2), (3, .int p3), (4, .int p4), (5, .long o3.2), (7, .long o7.2)]) rfl ?_
    exact emX7_through_40 hC _ _ _ _ _ _ _ hq
  · rw [if_neg c9] at hq
    refine lc_lt_F (t := 40) odX7_through rfl rfl rfl c9 ?_
    refine mB_run odX7_through 2 (g := (36, [(7, .long o7.2), (5, .long o3.2), (0, .ref 239), (1, .int p1), (2, .int p2), (3, .int p3), (4, .int p4)], [.long (0 : Int64), .long o7.2], (hM C o7.1), 0, 0)) rfl ?_
    by_cases c10 : (0 : Int64) ≤ o7.2
    · rw [if_pos c10] at hq
      refine lc_ge_T (t := 54) odX7_through rfl rfl rfl c10 ?_
      cases hq
      exact mB_ret odX7_through rfl
    · rw [if_neg c10] at hq
      refine lc_ge_F (t := 54) odX7_through rfl rfl rfl c10 ?_
      refine mB_lv [2, 3, 4, 5, 6, 1, 0] (lv' := [(0, .ref 239), (1, .int p1), (2, .int p2), (3, .int p3), (4, .int p4), (5, .long o3.2), (7, .long o7.2)]) rfl ?_
      exact emX7_through_40 hC _ _ _ _ _ _ _ hq
def mxX7_against_147 (N : Nat) (rec10 : Int32 → Int32 → Int32 → Int32 → mS → Option mS) : Nat → Int32 → Int32 → Int32 → Int32 → Int32 → mS → Option mS
  | 0, _, _, _, _, _, _ => none
  | n + 1, x1, x2, x3, x4, x5, h =>
    (rA h 27 x3).bind fun v25 =>
    if (((64 : Int32) * x3) + v25) ≤ x5 then (
      rec10 x1 x2 x3 (x4 + (1 : Int32)) h) else (
      (mxX7_toFace N x4 x3 x5 h).bind fun o28 =>
      mxX7_against_147 N rec10 n x1 x2 x3 x4 (x5 + (1 : Int32)) o28)
set_option maxHeartbeats 4000000 in
set_option maxRecDepth 100000 in
theorem emX7_against_147 {N : Nat} {C : mh} (hC : C.length = 239) {rec10 : Int32 → Int32 → Int32 → Int32 → mS → Option mS} (hrec10 : ∀ (x1 : Int32) (x2 : Int32) (x3 : Int32) (x4 : Int32) (h : mS) {o : mS}, rec10 x1 x2 x3 x4 h = some o → mB (gO mX7_against (hM C o, none)) mX7_against (10, [(0, .ref 239), (1, .int x1), (2, .int x2), (3, .int x3), (4, .int x4)], [], (hM C h), 0, 0)) : ∀ (n : Nat) (x1 : Int32) (x2 : Int32) (x3 : Int32) (x4 : Int32) (x5 : Int32) (h : mS) {o : mS}, mxX7_against_147 N rec10 n x1 x2 x3 x4 x5 h = some o → mB (gO mX7_against (hM C o, none)) mX7_against (147, [(0, .ref 239), (1, .int x1), (2, .int x2), (3, .int x3), (4, .int x4), (5, .int x5)], [], (hM C h), 0, 0) := by
  intro n
  induction n with
  | zero => intro x1 x2 x3 x4 x5 h o hq; cases hq
  | succ n ih =>
    intro x1 x2 x3 x4 x5 h o hq
    unfold mxX7_against_147 at hq
    refine mB_run odX7_against 5 (g := (154, [(0, .ref 239), (1, .int x1), (2, .int x2), (3, .int x3), (4, .int x4), (5, .int x5)], [.ref 239, .int ((64 : Int32) * x3), .int x5], (hM C h), 0, 0)) rfl ?_
    refine r_gR odX7_against rfl rfl (md_27 hC) ?_
    refine mB_run odX7_against 1 (g := (158, [(0, .ref 239), (1, .int x1), (2, .int x2), (3, .int x3), (4, .int x4), (5, .int x5)], [.int x3, .ref 260, .int ((64 : Int32) * x3), .int x5], (hM C h), 0, 0)) rfl ?_
    obtain ⟨v25, e26, hq⟩ := bsm hq
    refine r_aI odX7_against rfl (ra_27 hC e26) ?_
    refine mB_run odX7_against 1 (g := (160, [(0, .ref 239), (1, .int x1), (2, .int x2), (3, .int x3), (4, .int x4), (5, .int x5)], [.int (((64 : Int32) * x3) + v25), .int x5], (hM C h), 0, 0)) rfl ?_
    by_cases c27 : (((64 : Int32) * x3) + v25) ≤ x5
    · rw [if_pos c27] at hq
      refine ic_ge_T (t := 178) odX7_against rfl rfl c27 ?_
      refine mB_run odX7_against 2 (g := (10, [(4, .int (x4 + (1 : Int32))), (0, .ref 239), (1, .int x1), (2, .int x2), (3, .int x3), (5, .int x5)], [], (hM C h), 0, 0)) rfl ?_
      refine mB_lv [1, 2, 3, 4, 0] (lv' := [(0, .ref 239), (1, .int x1), (2, .int x2), (3, .int x3), (4, .int (x4 + (1 : Int32)))]) rfl ?_
      exact hrec10 _ _ _ _ _ hq
    · rw [if_neg c27] at hq
      refine ic_ge_F (t := 178) odX7_against rfl rfl c27 ?_
      refine mB_run odX7_against 4 (g := (169, [(0, .ref 239), (1, .int x1), (2, .int x2), (3, .int x3), (4, .int x4), (5, .int x5)], [.int x5, .int x3, .int x4, .ref 239], (hM C h), 0, 0)) rfl ?_
      obtain ⟨o28, e29, hq⟩ := bsm hq
      refine mB_V (as := [.int x4, .int x3, .int x5]) odX7_against okX7_toFace lk_7_374 rfl (emX7_toFace hC e29) (kO_at (md_O hC)) rfl rfl rfl ?_
      show mB _ mX7_against (172, [(0, .ref 239), (1, .int x1), (2, .int x2), (3, .int x3), (4, .int x4), (5, .int x5)], [], (hM C o28), 0, 0)
      refine mB_run odX7_against 2 (g := (147, [(5, .int (x5 + (1 : Int32))), (0, .ref 239), (1, .int x1), (2, .int x2), (3, .int x3), (4, .int x4)], [], (hM C o28), 0, 0)) rfl ?_
      refine mB_lv [1, 2, 3, 4, 5, 0] (lv' := [(0, .ref 239), (1, .int x1), (2, .int x2), (3, .int x3), (4, .int x4), (5, .int (x5 + (1 : Int32)))]) rfl ?_
      exact ih _ _ _ _ _ _ hq
def mxX7_against_89 (N : Nat) (rec10 : Int32 → Int32 → Int32 → Int32 → mS → Option mS) : Nat → Int32 → Int32 → Int32 → Int32 → Int32 → mS → Option mS
  | 0, _, _, _, _, _, _ => none
  | n + 1, x1, x2, x3, x4, x5, h =>
    (rA h 34 x3).bind fun v16 =>
    if (((80 : Int32) * x3) + v16) ≤ x5 then (
      mxX7_against_147 N rec10 N x1 x2 x3 x4 ((64 : Int32) * x3) h) else (
      (rA h 35 x5).bind fun v19 =>
      (rA h 36 x5).bind fun v21 =>
      (mxX7_toEdge N x4 (((24 : Int32) * x3) + v19) (((24 : Int32) * x3) + v21) h).bind fun o23 =>
      mxX7_against_89 N rec10 n x1 x2 x3 x4 (x5 + (1 : Int32)) o23)
set_option maxHeartbeats 4000000 in
set_option maxRecDepth 100000 in
theorem emX7_against_89 {N : Nat} {C : mh} (hC : C.length = 239) {rec10 : Int32 → Int32 → Int32 → Int32 → mS → Option mS} (hrec10 : ∀ (x1 : Int32) (x2 : Int32) (x3 : Int32) (x4 : Int32) (h : mS) {o : mS}, rec10 x1 x2 x3 x4 h = some o → mB (gO mX7_against (hM C o, none)) mX7_against (10, [(0, .ref 239), (1, .int x1), (2, .int x2), (3, .int x3), (4, .int x4)], [], (hM C h), 0, 0)) : ∀ (n : Nat) (x1 : Int32) (x2 : Int32) (x3 : Int32) (x4 : Int32) (x5 : Int32) (h : mS) {o : mS}, mxX7_against_89 N rec10 n x1 x2 x3 x4 x5 h = some o → mB (gO mX7_against (hM C o, none)) mX7_against (89, [(0, .ref 239), (1, .int x1), (2, .int x2), (3, .int x3), (4, .int x4), (5, .int x5)], [], (hM C h), 0, 0) := by
  intro n
  induction n with
  | zero => intro x1 x2 x3 x4 x5 h o hq; cases hq
  | succ n ih =>
    intro x1 x2 x3 x4 x5 h o hq
    unfold mxX7_against_89 at hq
    refine mB_run odX7_against 5 (g := (96, [(0, .ref 239), (1, .int x1), (2, .int x2), (3, .int x3), (4, .int x4), (5, .int x5)], [.ref 239, .int ((80 : Int32) * x3), .int x5], (hM C h), 0, 0)) rfl ?_
    refine r_gR odX7_against rfl rfl (md_34 hC) ?_
    refine mB_run odX7_against 1 (g := (100, [(0, .ref 239), (1, .int x1), (2, .int x2), (3, .int x3), (4, .int x4), (5, .int x5)], [.int x3, .ref 267, .int ((80 : Int32) * x3), .int x5], (hM C h), 0, 0)) rfl ?_
    obtain ⟨v16, e17, hq⟩ := bsm hq
    refine r_aI odX7_against rfl (ra_34 hC e17) ?_
    refine mB_run odX7_against 1 (g := (102, [(0, .ref 239), (1, .int x1), (2, .int x2), (3, .int x3), (4, .int x4), (5, .int x5)], [.int (((80 : Int32) * x3) + v16), .int x5], (hM C h), 0, 0)) rfl ?_
    by_cases c18 : (((80 : Int32) * x3) + v16) ≤ x5
    · rw [if_pos c18] at hq
      refine ic_ge_T (t := 141) odX7_against rfl rfl c18 ?_
      refine mB_run odX7_against 4 (g := (147, [(5, .int ((64 : Int32) * x3)), (0, .ref 239), (1, .int x1), (2, .int x2), (3, .int x3), (4, .int x4)], [], (hM C h), 0, 0)) rfl ?_
      refine mB_lv [1, 2, 3, 4, 5, 0] (lv' := [(0, .ref 239), (1, .int x1), (2, .int x2), (3, .int x3), (4, .int x4), (5, .int ((64 : Int32) * x3))]) rfl ?_
      exact emX7_against_147 hC hrec10 N _ _ _ _ _ _ hq
    · rw [if_neg c18] at hq
      refine ic_ge_F (t := 141) odX7_against rfl rfl c18 ?_
      refine mB_run odX7_against 6 (g := (113, [(0, .ref 239), (1, .int x1), (2, .int x2), (3, .int x3), (4, .int x4), (5, .int x5)], [.ref 239, .int ((24 : Int32) * x3), .int x4, .ref 239], (hM C h), 0, 0)) rfl ?_
      refine r_gR odX7_against rfl rfl (md_35 hC) ?_
      refine mB_run odX7_against 1 (g := (118, [(0, .ref 239), (1, .int x1), (2, .int x2), (3, .int x3), (4, .int x4), (5, .int x5)], [.int x5, .ref 268, .int ((24 : Int32) * x3), .int x4, .ref 239], (hM C h), 0, 0)) rfl ?_
      obtain ⟨v19, e20, hq⟩ := bsm hq
      refine r_aI odX7_against rfl (ra_35 hC e20) ?_
      refine mB_run odX7_against 5 (g := (125, [(0, .ref 239), (1, .int x1), (2, .int x2), (3, .int x3), (4, .int x4), (5, .int x5)], [.ref 239, .int ((24 : Int32) * x3), .int (((24 : Int32) * x3) + v19), .int x4, .ref 239], (hM C h), 0, 0)) rfl ?_
      refine r_gR odX7_against rfl rfl (md_36 hC) ?_
      refine mB_run odX7_against 1 (g := (130, [(0, .ref 239), (1, .int x1), (2, .int x2), (3, .int x3), (4, .int x4), (5, .int x5)], [.int x5, .ref 269, .int ((24 : Int32) * x3), .int (((24 : Int32) * x3) + v19), .int x4, .ref 239], (hM C h), 0, 0)) rfl ?_
      obtain ⟨v21, e22, hq⟩ := bsm hq
      refine r_aI odX7_against rfl (ra_36 hC e22) ?_
      refine mB_run odX7_against 1 (g := (132, [(0, .ref 239), (1, .int x1), (2, .int x2), (3, .int x3), (4, .int x4), (5, .int x5)], [.int (((24 : Int32) * x3) + v21), .int (((24 : Int32) * x3) + v19), .int x4, .ref 239], (hM C h), 0, 0)) rfl ?_
      obtain ⟨o23, e24, hq⟩ := bsm hq
      refine mB_V (as := [.int x4, .int (((24 : Int32) * x3) + v19), .int (((24 : Int32) * x3) + v21)]) odX7_against okX7_toEdge lk_7_371 rfl (emX7_toEdge hC e24) (kO_at (md_O hC)) rfl rfl rfl ?_
      show mB _ mX7_against (135, [(0, .ref 239), (1, .int x1), (2, .int x2), (3, .int x3), (4, .int x4), (5, .int x5)], [], (hM C o23), 0, 0)
      refine mB_run odX7_against 2 (g := (89, [(5, .int (x5 + (1 : Int32))), (0, .ref 239), (1, .int x1), (2, .int x2), (3, .int x3), (4, .int x4)], [], (hM C o23), 0, 0)) rfl ?_
      refine mB_lv [1, 2, 3, 4, 5, 0] (lv' := [(0, .ref 239), (1, .int x1), (2, .int x2), (3, .int x3), (4, .int x4), (5, .int (x5 + (1 : Int32)))]) rfl ?_
      exact ih _ _ _ _ _ _ hq
def mxX7_against_53 (N : Nat) (rec10 : Int32 → Int32 → Int32 → Int32 → mS → Option mS) : Nat → Int32 → Int32 → Int32 → Int32 → Int32 → mS → Option mS
  | 0, _, _, _, _, _, _ => none
  | n + 1, x1, x2, x3, x4, x5, h =>
    (rA h 46 x3).bind fun v11 =>
    if (((24 : Int32) * x3) + v11) ≤ x5 then (
      mxX7_against_89 N rec10 N x1 x2 x3 x4 ((80 : Int32) * x3) h) else (
      (mxX7_toCorner N x4 x5 h).bind fun o14 =>
      mxX7_against_53 N rec10 n x1 x2 x3 x4 (x5 + (1 : Int32)) o14)
set_option maxHeartbeats 4000000 in
set_option maxRecDepth 100000 in
theorem emX7_against_53 {N : Nat} {C : mh} (hC : C.length = 239) {rec10 : Int32 → Int32 → Int32 → Int32 → mS → Option mS} (hrec10 : ∀ (x1 : Int32) (x2 : Int32) (x3 : Int32) (x4 : Int32) (h : mS) {o : mS}, rec10 x1 x2 x3 x4 h = some o → mB (gO mX7_against (hM C o, none)) mX7_against (10, [(0, .ref 239), (1, .int x1), (2, .int x2), (3, .int x3), (4, .int x4)], [], (hM C h), 0, 0)) : ∀ (n : Nat) (x1 : Int32) (x2 : Int32) (x3 : Int32) (x4 : Int32) (x5 : Int32) (h : mS) {o : mS}, mxX7_against_53 N rec10 n x1 x2 x3 x4 x5 h = some o → mB (gO mX7_against (hM C o, none)) mX7_against (53, [(0, .ref 239), (1, .int x1), (2, .int x2), (3, .int x3), (4, .int x4), (5, .int x5)], [], (hM C h), 0, 0) := by
  intro n
  induction n with
  | zero => intro x1 x2 x3 x4 x5 h o hq; cases hq
  | succ n ih =>
    intro x1 x2 x3 x4 x5 h o hq
    unfold mxX7_against_53 at hq
    refine mB_run odX7_against 5 (g := (60, [(0, .ref 239), (1, .int x1), (2, .int x2), (3, .int x3), (4, .int x4), (5, .int x5)], [.ref 239, .int ((24 : Int32) * x3), .int x5], (hM C h), 0, 0)) rfl ?_
    refine r_gR odX7_against rfl rfl (md_46 hC) ?_
    refine mB_run odX7_against 1 (g := (64, [(0, .ref 239), (1, .int x1), (2, .int x2), (3, .int x3), (4, .int x4), (5, .int x5)], [.int x3, .ref 275, .int ((24 : Int32) * x3), .int x5], (hM C h), 0, 0)) rfl ?_
    obtain ⟨v11, e12, hq⟩ := bsm hq
    refine r_aI odX7_against rfl (ra_46 hC e12) ?_
    refine mB_run odX7_against 1 (g := (66, [(0, .ref 239), (1, .int x1), (2, .int x2), (3, .int x3), (4, .int x4), (5, .int x5)], [.int (((24 : Int32) * x3) + v11), .int x5], (hM C h), 0, 0)) rfl ?_
    by_cases c13 : (((24 : Int32) * x3) + v11) ≤ x5
    · rw [if_pos c13] at hq
      refine ic_ge_T (t := 83) odX7_against rfl rfl c13 ?_
      refine mB_run odX7_against 4 (g := (89, [(5, .int ((80 : Int32) * x3)), (0, .ref 239), (1, .int x1), (2, .int x2), (3, .int x3), (4, .int x4)], [], (hM C h), 0, 0)) rfl ?_
      refine mB_lv [1, 2, 3, 4, 5, 0] (lv' := [(0, .ref 239), (1, .int x1), (2, .int x2), (3, .int x3), (4, .int x4), (5, .int ((80 : Int32) * x3))]) rfl ?_
      exact emX7_against_89 hC hrec10 N _ _ _ _ _ _ hq
    · rw [if_neg c13] at hq
      refine ic_ge_F (t := 83) odX7_against rfl rfl c13 ?_
      refine mB_run odX7_against 3 (g := (74, [(0, .ref 239), (1, .int x1), (2, .int x2), (3, .int x3), (4, .int x4), (5, .int x5)], [.int x5, .int x4, .ref 239], (hM C h), 0, 0)) rfl ?_
      obtain ⟨o14, e15, hq⟩ := bsm hq
      refine mB_V (as := [.int x4, .int x5]) odX7_against okX7_toCorner lk_7_368 rfl (emX7_toCorner hC e15) (kO_at (md_O hC)) rfl rfl rfl ?_
      show mB _ mX7_against (77, [(0, .ref 239), (1, .int x1), (2, .int x2), (3, .int x3), (4, .int x4), (5, .int x5)], [], (hM C o14), 0, 0)
      refine mB_run odX7_against 2 (g := (53, [(5, .int (x5 + (1 : Int32))), (0, .ref 239), (1, .int x1), (2, .int x2), (3, .int x3), (4, .int x4)], [], (hM C o14), 0, 0)) rfl ?_
      refine mB_lv [1, 2, 3, 4, 5, 0] (lv' := [(0, .ref 239), (1, .int x1), (2, .int x2), (3, .int x3), (4, .int x4), (5, .int (x5 + (1 : Int32)))]) rfl ?_
      exact ih _ _ _ _ _ _ hq
def mxX7_against_47 (N : Nat) (rec10 : Int32 → Int32 → Int32 → Int32 → mS → Option mS) (x1 : Int32) (x2 : Int32) (x3 : Int32) (x4 : Int32) (h : mS) : Option mS :=
  mxX7_against_53 N rec10 N x1 x2 x3 x4 ((24 : Int32) * x3) h
set_option maxHeartbeats 4000000 in
set_option maxRecDepth 100000 in
theorem emX7_against_47 {N : Nat} {C : mh} (hC : C.length = 239) {rec10 : Int32 → Int32 → Int32 → Int32 → mS → Option mS} (hrec10 : ∀ (x1 : Int32) (x2 : Int32) (x3 : Int32) (x4 : Int32) (h : mS) {o : mS}, rec10 x1 x2 x3 x4 h = some o → mB (gO mX7_against (hM C o, none)) mX7_against (10, [(0, .ref 239), (1, .int x1), (2, .int x2), (3, .int x3), (4, .int x4)], [], (hM C h), 0, 0)) (x1 : Int32) (x2 : Int32) (x3 : Int32) (x4 : Int32) (h : mS) {o : mS} (hq : mxX7_against_47 N rec10 x1 x2 x3 x4 h = some o) : mB (gO mX7_against (hM C o, none)) mX7_against (47, [(0, .ref 239), (1, .int x1), (2, .int x2), (3, .int x3), (4, .int x4)], [], (hM C h), 0, 0) := by
  unfold mxX7_against_47 at hq
  refine mB_run odX7_against 4 (g := (53, [(5, .int ((24 : Int32) * x3)), (0, .ref 239), (1, .int x1), (2, .int x2), (3, .int x3), (4, .int x4)], [], (hM C h), 0, 0)) rfl ?_
  refine mB_lv [1, 2, 3, 4, 5, 0] (lv' := [(0, .ref 239), (1, .int x1), (2, .int x2), (3, .int x3), (4, .int x4), (5, .int ((24 : Int32) * x3))]) rfl ?_
  exact emX7_against_53 hC hrec10 N _ _ _ _ _ _ hq
def mxX7_against_279 (N : Nat) (rec190 : Int32 → Int32 → Int32 → mS → Option mS) : Nat → Int32 → Int32 → Int32 → Int32 → Int32 → Int32 → mS → Option mS
  | 0, _, _, _, _, _, _, _ => none
  | n + 1, x1, x3, x4, x5, x6, x7, h =>
    (rA h 34 x3).bind fun v42 =>
    if (((80 : Int32) * x3) + v42) ≤ x7 then (
      rec190 x1 x3 (x4 + (1 : Int32)) h) else (
      (rA h 35 x7).bind fun v45 =>
      (rA h 36 x7).bind fun v47 =>
      (mxX7_toEdges N x5 x6 (((24 : Int32) * x3) + v45) (((24 : Int32) * x3) + v47) h).bind fun o49 =>
      mxX7_against_279 N rec190 n x1 x3 x4 x5 x6 (x7 + (1 : Int32)) o49)
set_option maxHeartbeats 4000000 in
set_option maxRecDepth 100000 in
theorem emX7_against_279 {N : Nat} {C : mh} (hC : C.length = 239) {rec190 : Int32 → Int32 → Int32 → mS → Option mS} (hrec190 : ∀ (x1 : Int32) (x3 : Int32) (x4 : Int32) (h : mS) {o : mS}, rec190 x1 x3 x4 h = some o → mB (gO mX7_against (hM C o, none)) mX7_against (190, [(0, .ref 239), (1, .int x1), (3, .int x3), (4, .int x4)], [], (hM C h), 0, 0)) : ∀ (n : Nat) (x1 : Int32) (x3 : Int32) (x4 : Int32) (x5 : Int32) (x6 : Int32) (x7 : Int32) (h : mS) {o : mS}, mxX7_against_279 N rec190 n x1 x3 x4 x5 x6 x7 h = some o → mB (gO mX7_against (hM C o, none)) mX7_against (279, [(0, .ref 239), (1, .int x1), (3, .int x3), (4, .int x4), (5, .int x5), (6, .int x6), (7, .int x7)], [], (hM C h), 0, 0) := by
  intro n
  induction n with
  | zero => intro x1 x3 x4 x5 x6 x7 h o hq; cases hq
  | succ n ih =>
    intro x1 x3 x4 x5 x6 x7 h o hq
    unfold mxX7_against_279 at hq
    refine mB_run odX7_against 5 (g := (286, [(0, .ref 239), (1, .int x1), (3, .int x3), (4, .int x4), (5, .int x5), (6, .int x6), (7, .int x7)], [.ref 239, .int ((80 : Int32) * x3), .int x7], (hM C h), 0, 0)) rfl ?_
    refine r_gR odX7_against rfl rfl (md_34 hC) ?_
    refine mB_run odX7_against 1 (g := (290, [(0, .ref 239), (1, .int x1), (3, .int x3), (4, .int x4), (5, .int x5), (6, .int x6), (7, .int x7)], [.int x3, .ref 267, .int ((80 : Int32) * x3), .int x7], (hM C h), 0, 0)) rfl ?_
    obtain ⟨v42, e43, hq⟩ := bsm hq
    refine r_aI odX7_against rfl (ra_34 hC e43) ?_
    refine mB_run odX7_against 1 (g := (292, [(0, .ref 239), (1, .int x1), (3, .int x3), (4, .int x4), (5, .int x5), (6, .int x6), (7, .int x7)], [.int (((80 : Int32) * x3) + v42), .int x7], (hM C h), 0, 0)) rfl ?_
    by_cases c44 : (((80 : Int32) * x3) + v42) ≤ x7
    · rw [if_pos c44] at hq
      refine ic_ge_T (t := 333) odX7_against rfl rfl c44 ?_
      refine mB_run odX7_against 2 (g := (190, [(4, .int (x4 + (1 : Int32))), (0, .ref 239), (1, .int x1), (3, .int x3), (5, .int x5), (6, .int x6), (7, .int x7)], [], (hM C h), 0, 0)) rfl ?_
      refine mB_lv [1, 2, 3, 0] (lv' := [(0, .ref 239), (1, .int x1), (3, .int x3), (4, .int (x4 + (1 : Int32)))]) rfl ?_
      exact hrec190 _ _ _ _ hq
    · rw [if_neg c44] at hq
      refine ic_ge_F (t := 333) odX7_against rfl rfl c44 ?_
      refine mB_run odX7_against 7 (g := (305, [(0, .ref 239), (1, .int x1), (3, .int x3), (4, .int x4), (5, .int x5), (6, .int x6), (7, .int x7)], [.ref 239, .int ((24 : Int32) * x3), .int x6, .int x5, .ref 239], (hM C h), 0, 0)) rfl ?_
      refine r_gR odX7_against rfl rfl (md_35 hC) ?_
      refine mB_run odX7_against 1 (g := (310, [(0, .ref 239), (1, .int x1), (3, .int x3), (4, .int x4), (5, .int x5), (6, .int x6), (7, .int x7)], [.int x7, .ref 268, .int ((24 : Int32) * x3), .int x6, .int x5, .ref 239], (hM C h), 0, 0)) rfl ?_
      obtain ⟨v45, e46, hq⟩ := bsm hq
      refine r_aI odX7_against rfl (ra_35 hC e46) ?_
      refine mB_run odX7_against 5 (g := (317, [(0, .ref 239), (1, .int x1), (3, .int x3), (4, .int x4), (5, .int x5), (6, .int x6), (7, .int x7)], [.ref 239, .int ((24 : Int32) * x3), .int (((24 : Int32) * x3) + v45), .int x6, .int x5, .ref 239], (hM C h), 0, 0)) rfl ?_
      refine r_gR odX7_against rfl rfl (md_36 hC) ?_
      refine mB_run odX7_against 1 (g := (322, [(0, .ref 239), (1, .int x1), (3, .int x3), (4, .int x4), (5, .int x5), (6, .int x6), (7, .int x7)], [.int x7, .ref 269, .int ((24 : Int32) * x3), .int (((24 : Int32) * x3) + v45), .int x6, .int x5, .ref 239], (hM C h), 0, 0)) rfl ?_
      obtain ⟨v47, e48, hq⟩ := bsm hq
      refine r_aI odX7_against rfl (ra_36 hC e48) ?_
      refine mB_run odX7_against 1 (g := (324, [(0, .ref 239), (1, .int x1), (3, .int x3), (4, .int x4), (5, .int x5), (6, .int x6), (7, .int x7)], [.int (((24 : Int32) * x3) + v47), .int (((24 : Int32) * x3) + v45), .int x6, .int x5, .ref 239], (hM C h), 0, 0)) rfl ?_
      obtain ⟨o49, e50, hq⟩ := bsm hq
      refine mB_V (as := [.int x5, .int x6, .int (((24 : Int32) * x3) + v45), .int (((24 : Int32) * x3) + v47)]) odX7_against okX7_toEdges lk_7_380 rfl (emX7_toEdges hC e50) (kO_at (md_O hC)) rfl rfl rfl ?_
      show mB _ mX7_against (327, [(0, .ref 239), (1, .int x1), (3, .int x3), (4, .int x4), (5, .int x5), (6, .int x6), (7, .int x7)], [], (hM C o49), 0, 0)
      refine mB_run odX7_against 2 (g := (279, [(7, .int (x7 + (1 : Int32))), (0, .ref 239), (1, .int x1), (3, .int x3), (4, .int x4), (5, .int x5), (6, .int x6)], [], (hM C o49), 0, 0)) rfl ?_
      refine mB_lv [1, 2, 3, 4, 5, 6, 0] (lv' := [(0, .ref 239), (1, .int x1), (3, .int x3), (4, .int x4), (5, .int x5), (6, .int x6), (7, .int (x7 + (1 : Int32)))]) rfl ?_
      exact ih _ _ _ _ _ _ _ hq
def mxX7_against_240 (N : Nat) (rec190 : Int32 → Int32 → Int32 → mS → Option mS) : Nat → Int32 → Int32 → Int32 → Int32 → Int32 → Int32 → mS → Option mS
  | 0, _, _, _, _, _, _, _ => none
  | n + 1, x1, x3, x4, x5, x6, x7, h =>
    (rA h 27 x3).bind fun v37 =>
    if (((64 : Int32) * x3) + v37) ≤ x7 then (
      mxX7_against_279 N rec190 N x1 x3 x4 x5 x6 ((80 : Int32) * x3) h) else (
      (mxX7_through N x5 x6 x3 x7 h).bind fun o40 =>
      mxX7_against_240 N rec190 n x1 x3 x4 x5 x6 (x7 + (1 : Int32)) o40)
set_option maxHeartbeats 4000000 in
set_option maxRecDepth 100000 in
theorem emX7_against_240 {N : Nat} {C : mh} (hC : C.length = 239) {rec190 : Int32 → Int32 → Int32 → mS → Option mS} (hrec190 : ∀ (x1 : Int32) (x3 : Int32) (x4 : Int32) (h : mS) {o : mS}, rec190 x1 x3 x4 h = some o → mB (gO mX7_against (hM C o, none)) mX7_against (190, [(0, .ref 239), (1, .int x1), (3, .int x3), (4, .int x4)], [], (hM C h), 0, 0)) : ∀ (n : Nat) (x1 : Int32) (x3 : Int32) (x4 : Int32) (x5 : Int32) (x6 : Int32) (x7 : Int32) (h : mS) {o : mS}, mxX7_against_240 N rec190 n x1 x3 x4 x5 x6 x7 h = some o → mB (gO mX7_against (hM C o, none)) mX7_against (240, [(0, .ref 239), (1, .int x1), (3, .int x3), (4, .int x4), (5, .int x5), (6, .int x6), (7, .int x7)], [], (hM C h), 0, 0) := by
  intro n
  induction n with
  | zero => intro x1 x3 x4 x5 x6 x7 h o hq; cases hq
  | succ n ih =>
    intro x1 x3 x4 x5 x6 x7 h o hq
    unfold mxX7_against_240 at hq
    refine mB_run odX7_against 5 (g := (247, [(0, .ref 239), (1, .int x1), (3, .int x3), (4, .int x4), (5, .int x5), (6, .int x6), (7, .int x7)], [.ref 239, .int ((64 : Int32) * x3), .int x7], (hM C h), 0, 0)) rfl ?_
    refine r_gR odX7_against rfl rfl (md_27 hC) ?_
    refine mB_run odX7_against 1 (g := (251, [(0, .ref 239), (1, .int x1), (3, .int x3), (4, .int x4), (5, .int x5), (6, .int x6), (7, .int x7)], [.int x3, .ref 260, .int ((64 : Int32) * x3), .int x7], (hM C h), 0, 0)) rfl ?_
    obtain ⟨v37, e38, hq⟩ := bsm hq
    refine r_aI odX7_against rfl (ra_27 hC e38) ?_
    refine mB_run odX7_against 1 (g := (253, [(0, .ref 239), (1, .int x1), (3, .int x3), (4, .int x4), (5, .int x5), (6, .int x6), (7, .int x7)], [.int (((64 : Int32) * x3) + v37), .int x7], (hM C h), 0, 0)) rfl ?_
    by_cases c39 : (((64 : Int32) * x3) + v37) ≤ x7
    · rw [if_pos c39] at hq
      refine ic_ge_T (t := 273) odX7_against rfl rfl c39 ?_
      refine mB_run odX7_against 4 (g := (279, [(7, .int ((80 : Int32) * x3)), (0, .ref 239), (1, .int x1), (3, .int x3), (4, .int x4), (5, .int x5), (6, .int x6)], [], (hM C h), 0, 0)) rfl ?_
      refine mB_lv [1, 2, 3, 4, 5, 6, 0] (lv' := [(0, .ref 239), (1, .int x1), (3, .int x3), (4, .int x4), (5, .int x5), (6, .int x6), (7, .int ((80 : Int32) * x3))]) rfl ?_
      exact emX7_against_279 hC hrec190 N _ _ _ _ _ _ _ hq
    · rw [if_neg c39] at hq
      refine ic_ge_F (t := 273) odX7_against rfl rfl c39 ?_
      refine mB_run odX7_against 5 (g := (264, [(0, .ref 239), (1, .int x1), (3, .int x3), (4, .int x4), (5, .int x5), (6, .int x6), (7, .int x7)], [.int x7, .int x3, .int x6, .int x5, .ref 239], (hM C h), 0, 0)) rfl ?_
      obtain ⟨o40, e41, hq⟩ := bsm hq
      refine mB_V (as := [.int x5, .int x6, .int x3, .int x7]) odX7_against okX7_through lk_7_377 rfl (emX7_through hC e41) (kO_at (md_O hC)) rfl rfl rfl ?_
      show mB _ mX7_against (267, [(0, .ref 239), (1, .int x1), (3, .int x3), (4, .int x4), (5, .int x5), (6, .int x6), (7, .int x7)], [], (hM C o40), 0, 0)
      refine mB_run odX7_against 2 (g := (240, [(7, .int (x7 + (1 : Int32))), (0, .ref 239), (1, .int x1), (3, .int x3), (4, .int x4), (5, .int x5), (6, .int x6)], [], (hM C o40), 0, 0)) rfl ?_
      refine mB_lv [1, 2, 3, 4, 5, 6, 0] (lv' := [(0, .ref 239), (1, .int x1), (3, .int x3), (4, .int x4), (5, .int x5), (6, .int x6), (7, .int (x7 + (1 : Int32)))]) rfl ?_
      exact ih _ _ _ _ _ _ _ hq
def mxX7_against_190 (N : Nat) : Nat → Int32 → Int32 → Int32 → mS → Option mS
  | 0, _, _, _, _ => none
  | n + 1, x1, x3, x4, h =>
    (rA h 34 x1).bind fun v30 =>
    if (((80 : Int32) * x1) + v30) ≤ x4 then (
      some h) else (
      (rA h 35 x4).bind fun v33 =>
      (rA h 36 x4).bind fun v35 =>
      mxX7_against_240 N (mxX7_against_190 N n) N x1 x3 x4 (((24 : Int32) * x1) + v33) (((24 : Int32) * x1) + v35) ((64 : Int32) * x3) h)
set_option maxHeartbeats 4000000 in
set_option maxRecDepth 100000 in
theorem emX7_against_190 {N : Nat} {C : mh} (hC : C.length = 239) : ∀ (n : Nat) (x1 : Int32) (x3 : Int32) (x4 : Int32) (h : mS) {o : mS}, mxX7_against_190 N n x1 x3 x4 h = some o → mB (gO mX7_against (hM C o, none)) mX7_against (190, [(0, .ref 239), (1, .int x1), (3, .int x3), (4, .int x4)], [], (hM C h), 0, 0) := by
  intro n
  induction n with
  | zero => intro x1 x3 x4 h o hq; cases hq
  | succ n ih =>
    intro x1 x3 x4 h o hq
    unfold mxX7_against_190 at hq
    refine mB_run odX7_against 5 (g := (197, [(0, .ref 239), (1, .int x1), (3, .int x3), (4, .int x4)], [.ref 239, .int ((80 : Int32) * x1), .int x4], (hM C h), 0, 0)) rfl ?_
    refine r_gR odX7_against rfl rfl (md_34 hC) ?_
    refine mB_run odX7_against 1 (g := (201, [(0, .ref 239), (1, .int x1), (3, .int x3), (4, .int x4)], [.int x1, .ref 267, .int ((80 : Int32) * x1), .int x4], (hM C h), 0, 0)) rfl ?_
    obtain ⟨v30, e31, hq⟩ := bsm hq
    refine r_aI odX7_against rfl (ra_34 hC e31) ?_
    refine mB_run odX7_against 1 (g := (203, [(0, .ref 239), (1, .int x1), (3, .int x3), (4, .int x4)], [.int (((80 : Int32) * x1) + v30), .int x4], (hM C h), 0, 0)) rfl ?_
    by_cases c32 : (((80 : Int32) * x1) + v30) ≤ x4
    · rw [if_pos c32] at hq
      refine ic_ge_T (t := 339) odX7_against rfl rfl c32 ?_
      cases hq
      exact mB_ret odX7_against rfl
    · rw [if_neg c32] at hq
      refine ic_ge_F (t := 339) odX7_against rfl rfl c32 ?_
      refine mB_run odX7_against 4 (g := (211, [(0, .ref 239), (1, .int x1), (3, .int x3), (4, .int x4)], [.ref 239, .int ((24 : Int32) * x1)], (hM C h), 0, 0)) rfl ?_
      refine r_gR odX7_against rfl rfl (md_35 hC) ?_
      refine mB_run odX7_against 1 (g := (216, [(0, .ref 239), (1, .int x1), (3, .int x3), (4, .int x4)], [.int x4, .ref 268, .int ((24 : Int32) * x1)], (hM C h), 0, 0)) rfl ?_
      obtain ⟨v33, e34, hq⟩ := bsm hq
      refine r_aI odX7_against rfl (ra_35 hC e34) ?_
      refine mB_run odX7_against 6 (g := (225, [(5, .int (((24 : Int32) * x1) + v33)), (0, .ref 239), (1, .int x1), (3, .int x3), (4, .int x4)], [.ref 239, .int ((24 : Int32) * x1)], (hM C h), 0, 0)) rfl ?_
      refine r_gR odX7_against rfl rfl (md_36 hC) ?_
      refine mB_run odX7_against 1 (g := (230, [(5, .int (((24 : Int32) * x1) + v33)), (0, .ref 239), (1, .int x1), (3, .int x3), (4, .int x4)], [.int x4, .ref 269, .int ((24 : Int32) * x1)], (hM C h), 0, 0)) rfl ?_
      obtain ⟨v35, e36, hq⟩ := bsm hq
      refine r_aI odX7_against rfl (ra_36 hC e36) ?_
      refine mB_run odX7_against 6 (g := (240, [(7, .int ((64 : Int32) * x3)), (6, .int (((24 : Int32) * x1) + v35)), (5, .int (((24 : Int32) * x1) + v33)), (0, .ref 239), (1, .int x1), (3, .int x3), (4, .int x4)], [], (hM C h), 0, 0)) rfl ?_
      refine mB_lv [3, 4, 5, 6, 2, 1, 0] (lv' := [(0, .ref 239), (1, .int x1), (3, .int x3), (4, .int x4), (5, .int (((24 : Int32) * x1) + v33)), (6, .int (((24 : Int32) * x1) + v35)), (7, .int ((64 : Int32) * x3))]) rfl ?_
      exact emX7_against_240 hC ih N _ _ _ _ _ _ _ hq
def mxX7_against_10 (N : Nat) : Nat → Int32 → Int32 → Int32 → Int32 → mS → Option mS
  | 0, _, _, _, _, _ => none
  | n + 1, x1, x2, x3, x4, h =>
    (rA h 46 x1).bind fun v1 =>
    if (((24 : Int32) * x1) + v1) ≤ x4 then (
      mxX7_against_190 N N x1 x3 ((80 : Int32) * x1) h) else (
      (mxX7_cornerAt N x4 h).bind fun o4 =>
      (mxX7_where N x2 x3 o4).bind fun o6 =>
      if o6.2 ≤ 0 then (
        mxX7_against_47 N (mxX7_against_10 N n) x1 x2 x3 x4 o6.1) else (
        (mxX7_tries N (0 : Int64) (1 : Int64) o6.1).bind fun o9 =>
        mxX7_against_47 N (mxX7_against_10 N n) x1 x2 x3 x4 o9))
set_option maxHeartbeats 4000000 in
set_option maxRecDepth 100000 in
theorem emX7_against_10 {N : Nat} {C : mh} (hC : C.length = 239) : ∀ (n : Nat) (x1 : Int32) (x2 : Int32) (x3 : Int32) (x4 : Int32) (h : mS) {o : mS}, mxX7_against_10 N n x1 x2 x3 x4 h = some o → mB (gO mX7_against (hM C o, none)) mX7_against (10, [(0, .ref 239), (1, .int x1), (2, .int x2), (3, .int x3), (4, .int x4)], [], (hM C h), 0, 0) := by
  intro n
  induction n with
  | zero => intro x1 x2 x3 x4 h o hq; cases hq
  | succ n ih =>
    intro x1 x2 x3 x4 h o hq
    unfold mxX7_against_10 at hq
    refine mB_run odX7_against 5 (g := (17, [(0, .ref 239), (1, .int x1), (2, .int x2), (3, .int x3), (4, .int x4)], [.ref 239, .int ((24 : Int32) * x1), .int x4], (hM C h), 0, 0)) rfl ?_
    refine r_gR odX7_against rfl rfl (md_46 hC) ?_
    refine mB_run odX7_against 1 (g := (21, [(0, .ref 239), (1, .int x1), (2, .int x2), (3, .int x3), (4, .int x4)], [.int x1, .ref 275, .int ((24 : Int32) * x1), .int x4], (hM C h), 0, 0)) rfl ?_
    obtain ⟨v1, e2, hq⟩ := bsm hq
    refine r_aI odX7_against rfl (ra_46 hC e2) ?_
    refine mB_run odX7_against 1 (g := (23, [(0, .ref 239), (1, .int x1), (2, .int x2), (3, .int x3), (4, .int x4)], [.int (((24 : Int32) * x1) + v1), .int x4], (hM C h), 0, 0)) rfl ?_
    by_cases c3 : (((24 : Int32) * x1) + v1) ≤ x4
    · rw [if_pos c3] at hq
      refine ic_ge_T (t := 184) odX7_against rfl rfl c3 ?_
      refine mB_run odX7_against 4 (g := (190, [(4, .int ((80 : Int32) * x1)), (0, .ref 239), (1, .int x1), (2, .int x2), (3, .int x3)], [], (hM C h), 0, 0)) rfl ?_
      refine mB_lv [1, 2, 4, 0] (lv' := [(0, .ref 239), (1, .int x1), (3, .int x3), (4, .int ((80 : Int32) * x1))]) rfl ?_
      exact emX7_against_190 hC N _ _ _ _ hq
    · rw [if_neg c3] at hq
      refine ic_ge_F (t := 184) odX7_against rfl rfl c3 ?_
      refine mB_run odX7_against 2 (g := (29, [(0, .ref 239), (1, .int x1), (2, .int x2), (3, .int x3), (4, .int x4)], [.int x4, .ref 239], (hM C h), 0, 0)) rfl ?_
      obtain ⟨o4, e5, hq⟩ := bsm hq
      refine mB_V (as := [.int x4]) odX7_against okX7_cornerAt lk_7_365 rfl (emX7_cornerAt hC e5) (kO_at (md_O hC)) rfl rfl rfl ?_
      show mB _ mX7_against (32, [(0, .ref 239), (1, .int x1), (2, .int x2), (3, .int x3), (4, .int x4)], [], (hM C o4), 0, 0)
      refine mB_run odX7_against 3 (g := (35, [(0, .ref 239), (1, .int x1), (2, .int x2), (3, .int x3), (4, .int x4)], [.int x3, .int x2, .ref 239], (hM C o4), 0, 0)) rfl ?_
      obtain ⟨o6, e7, hq⟩ := bsm hq
      refine mB_V (as := [.int x2, .int x3]) odX7_against okX7_where lk_7_285 rfl (emX7_where hC e7) (kO_at (md_O hC)) rfl rfl rfl ?_
      show mB _ mX7_against (38, [(0, .ref 239), (1, .int x1), (2, .int x2), (3, .int x3), (4, .int x4)], [.int o6.2], (hM C o6.1), 0, 0)
      by_cases c8 : o6.2 ≤ 0
      · rw [if_pos c8] at hq
        refine if_le_T (t := 47) odX7_against rfl rfl c8 ?_
        refine mB_lv [0, 1, 2, 3, 4] (lv' := [(0, .ref 239), (1, .int x1), (2, .int x2), (3, .int x3), (4, .int x4)]) rfl ?_
        exact emX7_against_47 hC ih _ _ _ _ _ hq
      · rw [if_neg c8] at hq
        refine if_le_F (t := 47) odX7_against rfl rfl c8 ?_
        refine mB_run odX7_against 3 (g := (44, [(0, .ref 239), (1, .int x1), (2, .int x2), (3, .int x3), (4, .int x4)], [.long (1 : Int64), .long (0 : Int64), .ref 239], (hM C o6.1), 0, 0)) rfl ?_
        obtain ⟨o9, e10, hq⟩ := bsm hq
        refine mB_V (as := [.long (0 : Int64), .long (1 : Int64)]) odX7_against okX7_tries lk_7_327 rfl (emX7_tries hC e10) (kO_at (md_O hC)) rfl rfl rfl ?_
        show mB _ mX7_against (47, [(0, .ref 239), (1, .int x1), (2, .int x2), (3, .int x3), (4, .int x4)], [], (hM C o9), 0, 0)
        refine mB_lv [0, 1, 2, 3, 4] (lv' := [(0, .ref 239), (1, .int x1), (2, .int x2), (3, .int x3), (4, .int x4)]) rfl ?_
        exact emX7_against_47 hC ih _ _ _ _ _ hq
def mxX7_against (N : Nat) (p1 : Int32) (p2 : Int32) (h : mS) : Option mS :=
  mxX7_against_10 N N p1 p2 ((1 : Int32) - p1) ((24 : Int32) * p1) h
set_option maxHeartbeats 4000000 in
set_option maxRecDepth 100000 in
theorem emX7_against {N : Nat} {C : mh} (hC : C.length = 239) {p1 : Int32} {p2 : Int32} {h : mS} {o : mS} (hq : mxX7_against N p1 p2 h = some o) : mC mX7_against [.ref 239, .int p1, .int p2] (hM C h) (hM C o, none) := by
  refine mC_of okX7_against (Nat.le_of_ble_eq_true rfl) ?_
  unfold mxX7_against at hq
  show mB _ mX7_against (0, [(0, .ref 239), (1, .int p1), (2, .int p2)], [], (hM C h), 0, 0)
  refine mB_run odX7_against 8 (g := (10, [(4, .int ((24 : Int32) * p1)), (3, .int ((1 : Int32) - p1)), (0, .ref 239), (1, .int p1), (2, .int p2)], [], (hM C h), 0, 0)) rfl ?_
  refine mB_lv [2, 3, 4, 1, 0] (lv' := [(0, .ref 239), (1, .int p1), (2, .int p2), (3, .int ((1 : Int32) - p1)), (4, .int ((24 : Int32) * p1))]) rfl ?_
  exact emX7_against_10 hC N _ _ _ _ _ hq
def mxX7_nears (N : Nat) (p1 : Int32) (p2 : Int32) (h : mS) : Option mS :=
  (mxX7_owns N p1 (0 : Int32) h).bind fun o1 =>
  (mxX7_owns N p2 (1 : Int32) o1).bind fun o3 =>
  (some (pI o3 51 (0 : Int32))).bind fun s5 =>
  (rA s5 5 p2).bind fun v7 =>
  (mxX7_against N (0 : Int32) v7 s5).bind fun o9 =>
  (rA o9 5 p1).bind fun v11 =>
  (mxX7_against N (1 : Int32) v11 o9).bind fun o13 =>
  some o13
set_option maxHeartbeats 4000000 in
set_option maxRecDepth 100000 in
theorem emX7_nears {N : Nat} {C : mh} (hC : C.length = 239) {p1 : Int32} {p2 : Int32} {h : mS} {o : mS} (hq : mxX7_nears N p1 p2 h = some o) : mC mX7_nears [.ref 239, .int p1, .int p2] (hM C h) (hM C o, none) := by
  refine mC_of okX7_nears (Nat.le_of_ble_eq_true rfl) ?_
  unfold mxX7_nears at hq
  show mB _ mX7_nears (0, [(0, .ref 239), (1, .int p1), (2, .int p2)], [], (hM C h), 0, 0)
  refine mB_run odX7_nears 3 (g := (3, [(0, .ref 239), (1, .int p1), (2, .int p2)], [.int (0 : Int32), .int p1, .ref 239], (hM C h), 0, 0)) rfl ?_
  obtain ⟨o1, e2, hq⟩ := bsm hq
  refine mB_V (as := [.int p1, .int (0 : Int32)]) odX7_nears okX7_owns lk_7_279 rfl (emX7_owns hC e2) (kO_at (md_O hC)) rfl rfl rfl ?_
  show mB _ mX7_nears (6, [(0, .ref 239), (1, .int p1), (2, .int p2)], [], (hM C o1), 0, 0)
  refine mB_run odX7_nears 3 (g := (9, [(0, .ref 239), (1, .int p1), (2, .int p2)], [.int (1 : Int32), .int p2, .ref 239], (hM C o1), 0, 0)) rfl ?_
  obtain ⟨o3, e4, hq⟩ := bsm hq
  refine mB_V (as := [.int p2, .int (1 : Int32)]) odX7_nears okX7_owns lk_7_279 rfl (emX7_owns hC e4) (kO_at (md_O hC)) rfl rfl rfl ?_
  show mB _ mX7_nears (12, [(0, .ref 239), (1, .int p1), (2, .int p2)], [], (hM C o3), 0, 0)
  refine mB_run odX7_nears 2 (g := (14, [(0, .ref 239), (1, .int p1), (2, .int p2)], [.int (0 : Int32), .ref 239], (hM C o3), 0, 0)) rfl ?_
  obtain ⟨s5, e6, hq⟩ := bsm hq
  refine r_sV odX7_nears rfl rfl rfl rfl (pt_51 hC e6) ?_
  refine mB_run odX7_nears 3 (g := (20, [(0, .ref 239), (1, .int p1), (2, .int p2)], [.ref 239, .int (0 : Int32), .ref 239], (hM C s5), 0, 0)) rfl ?_
  refine r_gR odX7_nears rfl rfl (md_5 hC) ?_
  refine mB_run odX7_nears 1 (g := (24, [(0, .ref 239), (1, .int p1), (2, .int p2)], [.int p2, .ref 245, .int (0 : Int32), .ref 239], (hM C s5), 0, 0)) rfl ?_
  obtain ⟨v7, e8, hq⟩ := bsm hq
  refine r_aI odX7_nears rfl (ra_5 hC e8) ?_
  obtain ⟨o9, e10, hq⟩ := bsm hq
  refine mB_V (as := [.int (0 : Int32), .int v7]) odX7_nears okX7_against lk_7_383 rfl (emX7_against hC e10) (kO_at (md_O hC)) rfl rfl rfl ?_
  show mB _ mX7_nears (28, [(0, .ref 239), (1, .int p1), (2, .int p2)], [], (hM C o9), 0, 0)
  refine mB_run odX7_nears 3 (g := (31, [(0, .ref 239), (1, .int p1), (2, .int p2)], [.ref 239, .int (1 : Int32), .ref 239], (hM C o9), 0, 0)) rfl ?_
  refine r_gR odX7_nears rfl rfl (md_5 hC) ?_
  refine mB_run odX7_nears 1 (g := (35, [(0, .ref 239), (1, .int p1), (2, .int p2)], [.int p1, .ref 245, .int (1 : Int32), .ref 239], (hM C o9), 0, 0)) rfl ?_
  obtain ⟨v11, e12, hq⟩ := bsm hq
  refine r_aI odX7_nears rfl (ra_5 hC e12) ?_
  obtain ⟨o13, e14, hq⟩ := bsm hq
  refine mB_V (as := [.int (1 : Int32), .int v11]) odX7_nears okX7_against lk_7_383 rfl (emX7_against hC e14) (kO_at (md_O hC)) rfl rfl rfl ?_
  show mB _ mX7_nears (39, [(0, .ref 239), (1, .int p1), (2, .int p2)], [], (hM C o13), 0, 0)
  cases hq
  exact mB_ret odX7_nears rfl
def mxX7_apart (N : Nat) (p1 : Int32) (p2 : Int32) (h : mS) : Option (mS × Int32) :=
  (mxX7_isSolid N p1 h).bind fun o1 =>
  if o1.2 = 0 then (
    some (o1.1, (-1 : Int32))) else (
    (mxX7_isSolid N p2 o1.1).bind fun o4 =>
    if o4.2 = 0 then (
      some (o4.1, (-1 : Int32))) else (
      (rA o4.1 5 p1).bind fun v7 =>
      if v7 = 0 then (
        some (o4.1, (1 : Int32))) else (
        (rA o4.1 5 p2).bind fun v10 =>
        if v10 = 0 then (
          some (o4.1, (1 : Int32))) else (
          (mxX7_nears N p1 p2 o4.1).bind fun o13 =>
          if (o13.2.1 52) ≤ (0 : Int64) then (
            some (o13, (0 : Int32))) else (
            some (o13, (1 : Int32)))))))
set_option maxHeartbeats 4000000 in
set_option maxRecDepth 100000 in
theorem emX7_apart {N : Nat} {C : mh} (hC : C.length = 239) {p1 : Int32} {p2 : Int32} {h : mS} {o : (mS × Int32)} (hq : mxX7_apart N p1 p2 h = some o) : mC mX7_apart [.ref 239, .int p1, .int p2] (hM C h) (hM C o.1, some (.int o.2)) := by
  refine mC_of okX7_apart (Nat.le_of_ble_eq_true rfl) ?_
  unfold mxX7_apart at hq
  show mB _ mX7_apart (0, [(0, .ref 239), (1, .int p1), (2, .int p2)], [], (hM C h), 0, 0)
  refine mB_run odX7_apart 1 (g := (1, [(0, .ref 239), (1, .int p1), (2, .int p2)], [.int p1], (hM C h), 0, 0)) rfl ?_
  obtain ⟨o1, e2, hq⟩ := bsm hq
  refine mB_S (as := [.int p1]) odX7_apart okX7_isSolid lk_7_133 rfl (emX7_isSolid hC e2) rfl rfl rfl ?_
  show mB _ mX7_apart (4, [(0, .ref 239), (1, .int p1), (2, .int p2)], [.int o1.2], (hM C o1.1), 0, 0)
  by_cases c3 : o1.2 = 0
  · rw [if_pos c3] at hq
    refine if_eq_T (t := 14) odX7_apart rfl rfl c3 ?_
    refine mB_run odX7_apart 1 (g := (15, [(0, .ref 239), (1, .int p1), (2, .int p2)], [.int (-1 : Int32)], (hM C o1.1), 0, 0)) rfl ?_
    cases hq
    exact mB_ret odX7_apart rfl
  · rw [if_neg c3] at hq
    refine if_eq_F (t := 14) odX7_apart rfl rfl c3 ?_
    refine mB_run odX7_apart 1 (g := (8, [(0, .ref 239), (1, .int p1), (2, .int p2)], [.int p2], (hM C o1.1), 0, 0)) rfl ?_
    obtain ⟨o4, e5, hq⟩ := bsm hq
    refine mB_S (as := [.int p2]) odX7_apart okX7_isSolid lk_7_133 rfl (emX7_isSolid hC e5) rfl rfl rfl ?_
    show mB _ mX7_apart (11, [(0, .ref 239), (1, .int p1), (2, .int p2)], [.int o4.2], (hM C o4.1), 0, 0)
    by_cases c6 : o4.2 = 0
    · rw [if_pos c6] at hq
      refine if_ne_F (t := 16) odX7_apart rfl rfl c6 ?_
      refine mB_run odX7_apart 1 (g := (15, [(0, .ref 239), (1, .int p1), (2, .int p2)], [.int (-1 : Int32)], (hM C o4.1), 0, 0)) rfl ?_
      cases hq
      exact mB_ret odX7_apart rfl
    · rw [if_neg c6] at hq
      refine if_ne_T (t := 16) odX7_apart rfl rfl c6 ?_
      refine mB_run odX7_apart 1 (g := (17, [(0, .ref 239), (1, .int p1), (2, .int p2)], [.ref 239], (hM C o4.1), 0, 0)) rfl ?_
      refine r_gR odX7_apart rfl rfl (md_5 hC) ?_
      refine mB_run odX7_apart 1 (g := (21, [(0, .ref 239), (1, .int p1), (2, .int p2)], [.int p1, .ref 245], (hM C o4.1), 0, 0)) rfl ?_
      obtain ⟨v7, e8, hq⟩ := bsm hq
      refine r_aI odX7_apart rfl (ra_5 hC e8) ?_
      by_cases c9 : v7 = 0
      · rw [if_pos c9] at hq
        refine if_eq_T (t := 34) odX7_apart rfl rfl c9 ?_
        refine mB_run odX7_apart 1 (g := (35, [(0, .ref 239), (1, .int p1), (2, .int p2)], [.int (1 : Int32)], (hM C o4.1), 0, 0)) rfl ?_
        cases hq
        exact mB_ret odX7_apart rfl
      · rw [if_neg c9] at hq
        refine if_eq_F (t := 34) odX7_apart rfl rfl c9 ?_
        refine mB_run odX7_apart 1 (g := (26, [(0, .ref 239), (1, .int p1), (2, .int p2)], [.ref 239], (hM C o4.1), 0, 0)) rfl ?_
        refine r_gR odX7_apart rfl rfl (md_5 hC) ?_
        refine mB_run odX7_apart 1 (g := (30, [(0, .ref 239), (1, .int p1), (2, .int p2)], [.int p2, .ref 245], (hM C o4.1), 0, 0)) rfl ?_
        obtain ⟨v10, e11, hq⟩ := bsm hq
        refine r_aI odX7_apart rfl (ra_5 hC e11) ?_
        by_cases c12 : v10 = 0
        · rw [if_pos c12] at hq
          refine if_ne_F (t := 36) odX7_apart rfl rfl c12 ?_
          refine mB_run odX7_apart 1 (g := (35, [(0, .ref 239), (1, .int p1), (2, .int p2)], [.int (1 : Int32)], (hM C o4.1), 0, 0)) rfl ?_
          cases hq
          exact mB_ret odX7_apart rfl
        · rw [if_neg c12] at hq
          refine if_ne_T (t := 36) odX7_apart rfl rfl c12 ?_
          refine mB_run odX7_apart 3 (g := (39, [(0, .ref 239), (1, .int p1), (2, .int p2)], [.int p2, .int p1, .ref 239], (hM C o4.1), 0, 0)) rfl ?_
          obtain ⟨o13, e14, hq⟩ := bsm hq
          refine mB_V (as := [.int p1, .int p2]) odX7_apart okX7_nears lk_7_386 rfl (emX7_nears hC e14) (kO_at (md_O hC)) rfl rfl rfl ?_
          show mB _ mX7_apart (42, [(0, .ref 239), (1, .int p1), (2, .int p2)], [], (hM C o13), 0, 0)
          refine mB_run odX7_apart 1 (g := (43, [(0, .ref 239), (1, .int p1), (2, .int p2)], [.ref 239], (hM C o13), 0, 0)) rfl ?_
          refine r_gJ odX7_apart rfl rfl (md_52 hC) ?_
          refine mB_run odX7_apart 1 (g := (47, [(0, .ref 239), (1, .int p1), (2, .int p2)], [.long (0 : Int64), .long (o13.2.1 52)], (hM C o13), 0, 0)) rfl ?_
          by_cases c15 : (o13.2.1 52) ≤ (0 : Int64)
          · rw [if_pos c15] at hq
            refine lc_le_T (t := 55) odX7_apart rfl rfl rfl c15 ?_
            refine mB_run odX7_apart 1 (g := (56, [(0, .ref 239), (1, .int p1), (2, .int p2)], [.int (0 : Int32)], (hM C o13), 0, 0)) rfl ?_
            cases hq
            exact mB_ret odX7_apart rfl
          · rw [if_neg c15] at hq
            refine lc_le_F (t := 55) odX7_apart rfl rfl rfl c15 ?_
            refine mB_run odX7_apart 2 (g := (56, [(0, .ref 239), (1, .int p1), (2, .int p2)], [.int (1 : Int32)], (hM C o13), 0, 0)) rfl ?_
            cases hq
            exact mB_ret odX7_apart rfl
def mxX7_near (N : Nat) (p1 : Int32) (p2 : Int32) (p3 : Int32) (h : mS) : Option (mS × Int64) :=
  (mxX7_isSolid N p1 h).bind fun o1 =>
  if o1.2 = 0 then (
    some (o1.1, (-1 : Int64))) else (
    (mxX7_isSolid N p2 o1.1).bind fun o4 =>
    if o4.2 = 0 then (
      some (o4.1, (-1 : Int64))) else (
      (rA o4.1 5 p1).bind fun v7 =>
      if v7 = 0 then (
        some (o4.1, (-1 : Int64))) else (
        (rA o4.1 5 p2).bind fun v10 =>
        if v10 = 0 then (
          some (o4.1, (-1 : Int64))) else (
          (mxX7_nears N p1 p2 o4.1).bind fun o13 =>
          (mxX7_told N p3 o13).bind fun o15 =>
          some (o15.1, o15.2)))))
set_option maxHeartbeats 4000000 in
set_option maxRecDepth 100000 in
theorem emX7_near {N : Nat} {C : mh} (hC : C.length = 239) {p1 : Int32} {p2 : Int32} {p3 : Int32} {h : mS} {o : (mS × Int64)} (hq : mxX7_near N p1 p2 p3 h = some o) : mC mX7_near [.ref 239, .int p1, .int p2, .int p3] (hM C h) (hM C o.1, some (.long o.2)) := by
  refine mC_of okX7_near (Nat.le_of_ble_eq_true rfl) ?_
  unfold mxX7_near at hq
  show mB _ mX7_near (0, [(0, .ref 239), (1, .int p1), (2, .int p2), (3, .int p3)], [], (hM C h), 0, 0)
  refine mB_run odX7_near 1 (g := (1, [(0, .ref 239), (1, .int p1), (2, .int p2), (3, .int p3)], [.int p1], (hM C h), 0, 0)) rfl ?_
  obtain ⟨o1, e2, hq⟩ := bsm hq
  refine mB_S (as := [.int p1]) odX7_near okX7_isSolid lk_7_133 rfl (emX7_isSolid hC e2) rfl rfl rfl ?_
  show mB _ mX7_near (4, [(0, .ref 239), (1, .int p1), (2, .int p2), (3, .int p3)], [.int o1.2], (hM C o1.1), 0, 0)
  by_cases c3 : o1.2 = 0
  · rw [if_pos c3] at hq
    refine if_eq_T (t := 32) odX7_near rfl rfl c3 ?_
    refine mB_run odX7_near 1 (g := (35, [(0, .ref 239), (1, .int p1), (2, .int p2), (3, .int p3)], [.long (-1 : Int64)], (hM C o1.1), 0, 0)) rfl ?_
    cases hq
    exact mB_ret odX7_near rfl
  · rw [if_neg c3] at hq
    refine if_eq_F (t := 32) odX7_near rfl rfl c3 ?_
    refine mB_run odX7_near 1 (g := (8, [(0, .ref 239), (1, .int p1), (2, .int p2), (3, .int p3)], [.int p2], (hM C o1.1), 0, 0)) rfl ?_
    obtain ⟨o4, e5, hq⟩ := bsm hq
    refine mB_S (as := [.int p2]) odX7_near okX7_isSolid lk_7_133 rfl (emX7_isSolid hC e5) rfl rfl rfl ?_
    show mB _ mX7_near (11, [(0, .ref 239), (1, .int p1), (2, .int p2), (3, .int p3)], [.int o4.2], (hM C o4.1), 0, 0)
    by_cases c6 : o4.2 = 0
    · rw [if_pos c6] at hq
      refine if_eq_T (t := 32) odX7_near rfl rfl c6 ?_
      refine mB_run odX7_near 1 (g := (35, [(0, .ref 239), (1, .int p1), (2, .int p2), (3, .int p3)], [.long (-1 : Int64)], (hM C o4.1), 0, 0)) rfl ?_
      cases hq
      exact mB_ret odX7_near rfl
    · rw [if_neg c6] at hq
      refine if_eq_F (t := 32) odX7_near rfl rfl c6 ?_
      refine mB_run odX7_near 1 (g := (15, [(0, .ref 239), (1, .int p1), (2, .int p2), (3, .int p3)], [.ref 239], (hM C o4.1), 0, 0)) rfl ?_
      refine r_gR odX7_near rfl rfl (md_5 hC) ?_
      refine mB_run odX7_near 1 (g := (19, [(0, .ref 239), (1, .int p1), (2, .int p2), (3, .int p3)], [.int p1, .ref 245], (hM C o4.1), 0, 0)) rfl ?_
      obtain ⟨v7, e8, hq⟩ := bsm hq
      refine r_aI odX7_near rfl (ra_5 hC e8) ?_
      by_cases c9 : v7 = 0
      · rw [if_pos c9] at hq
        refine if_eq_T (t := 32) odX7_near rfl rfl c9 ?_
        refine mB_run odX7_near 1 (g := (35, [(0, .ref 239), (1, .int p1), (2, .int p2), (3, .int p3)], [.long (-1 : Int64)], (hM C o4.1), 0, 0)) rfl ?_
        cases hq
        exact mB_ret odX7_near rfl
      · rw [if_neg c9] at hq
        refine if_eq_F (t := 32) odX7_near rfl rfl c9 ?_
        refine mB_run odX7_near 1 (g := (24, [(0, .ref 239), (1, .int p1), (2, .int p2), (3, .int p3)], [.ref 239], (hM C o4.1), 0, 0)) rfl ?_
        refine r_gR odX7_near rfl rfl (md_5 hC) ?_
        refine mB_run odX7_near 1 (g := (28, [(0, .ref 239), (1, .int p1), (2, .int p2), (3, .int p3)], [.int p2, .ref 245], (hM C o4.1), 0, 0)) rfl ?_
        obtain ⟨v10, e11, hq⟩ := bsm hq
        refine r_aI odX7_near rfl (ra_5 hC e11) ?_
        by_cases c12 : v10 = 0
        · rw [if_pos c12] at hq
          refine if_ne_F (t := 36) odX7_near rfl rfl c12 ?_
          refine mB_run odX7_near 1 (g := (35, [(0, .ref 239), (1, .int p1), (2, .int p2), (3, .int p3)], [.long (-1 : Int64)], (hM C o4.1), 0, 0)) rfl ?_
          cases hq
          exact mB_ret odX7_near rfl
        · rw [if_neg c12] at hq
          refine if_ne_T (t := 36) odX7_near rfl rfl c12 ?_
          refine mB_run odX7_near 3 (g := (39, [(0, .ref 239), (1, .int p1), (2, .int p2), (3, .int p3)], [.int p2, .int p1, .ref 239], (hM C o4.1), 0, 0)) rfl ?_
          obtain ⟨o13, e14, hq⟩ := bsm hq
          refine mB_V (as := [.int p1, .int p2]) odX7_near okX7_nears lk_7_386 rfl (emX7_nears hC e14) (kO_at (md_O hC)) rfl rfl rfl ?_
          show mB _ mX7_near (42, [(0, .ref 239), (1, .int p1), (2, .int p2), (3, .int p3)], [], (hM C o13), 0, 0)
          refine mB_run odX7_near 2 (g := (44, [(0, .ref 239), (1, .int p1), (2, .int p2), (3, .int p3)], [.int p3, .ref 239], (hM C o13), 0, 0)) rfl ?_
          obtain ⟨o15, e16, hq⟩ := bsm hq
          refine mB_V (as := [.int p3]) odX7_near okX7_told lk_7_338 rfl (emX7_told hC e16) (kO_at (md_O hC)) rfl rfl rfl ?_
          show mB _ mX7_near (47, [(0, .ref 239), (1, .int p1), (2, .int p2), (3, .int p3)], [.long o15.2], (hM C o15.1), 0, 0)
          cases hq
          exact mB_ret odX7_near rfl
def mxX7_same_94 (N : Nat) (rec40 : Int32 → Int32 → Int32 → Int32 → mS → Option (mS × Int32)) (rec58 : Int32 → Int32 → Int32 → Int32 → Int32 → mS → Option (mS × Int32)) (x1 : Int32) (x2 : Int32) (x4 : Int32) (x5 : Int32) (y0 : Int32) (h : mS) : Option (mS × Int32) :=
  rec58 x1 x2 y0 x4 (x5 + (1 : Int32)) h
set_option maxHeartbeats 4000000 in
set_option maxRecDepth 100000 in
theorem emX7_same_94 {N : Nat} {C : mh} (hC : C.length = 239) {rec40 : Int32 → Int32 → Int32 → Int32 → mS → Option (mS × Int32)} {rec58 : Int32 → Int32 → Int32 → Int32 → Int32 → mS → Option (mS × Int32)} (hrec40 : ∀ (x1 : Int32) (x2 : Int32) (x3 : Int32) (x4 : Int32) (h : mS) {o : (mS × Int32)}, rec40 x1 x2 x3 x4 h = some o → mB (gO mX7_same (hM C o.1, some (.int o.2))) mX7_same (40, [(0, .ref 239), (1, .int x1), (2, .int x2), (3, .int x3), (4, .int x4)], [], (hM C h), 0, 0)) (hrec58 : ∀ (x1 : Int32) (x2 : Int32) (x3 : Int32) (x4 : Int32) (x5 : Int32) (h : mS) {o : (mS × Int32)}, rec58 x1 x2 x3 x4 x5 h = some o → mB (gO mX7_same (hM C o.1, some (.int o.2))) mX7_same (58, [(0, .ref 239), (1, .int x1), (2, .int x2), (3, .int x3), (4, .int x4), (5, .int x5)], [], (hM C h), 0, 0)) (x1 : Int32) (x2 : Int32) (x4 : Int32) (x5 : Int32) (y0 : Int32) (h : mS) {o : (mS × Int32)} (hq : mxX7_same_94 N rec40 rec58 x1 x2 x4 x5 y0 h = some o) : mB (gO mX7_same (hM C o.1, some (.int o.2))) mX7_same (94, [(0, .ref 239), (1, .int x1), (2, .int x2), (4, .int x4), (5, .int x5)], [.int y0], (hM C h), 0, 0) := by
  unfold mxX7_same_94 at hq
  refine mB_run odX7_same 3 (g := (58, [(5, .int (x5 + (1 : Int32))), (3, .int y0), (0, .ref 239), (1, .int x1), (2, .int x2), (4, .int x4)], [], (hM C h), 0, 0)) rfl ?_
  refine mB_lv [2, 3, 4, 1, 5, 0] (lv' := [(0, .ref 239), (1, .int x1), (2, .int x2), (3, .int y0), (4, .int x4), (5, .int (x5 + (1 : Int32)))]) rfl ?_
  exact hrec58 _ _ _ _ _ _ hq
def mxX7_same_93 (N : Nat) (rec40 : Int32 → Int32 → Int32 → Int32 → mS → Option (mS × Int32)) (rec58 : Int32 → Int32 → Int32 → Int32 → Int32 → mS → Option (mS × Int32)) (x1 : Int32) (x2 : Int32) (x4 : Int32) (x5 : Int32) (h : mS) : Option (mS × Int32) :=
  mxX7_same_94 N rec40 rec58 x1 x2 x4 x5 (0 : Int32) h
set_option maxHeartbeats 4000000 in
set_option maxRecDepth 100000 in
theorem emX7_same_93 {N : Nat} {C : mh} (hC : C.length = 239) {rec40 : Int32 → Int32 → Int32 → Int32 → mS → Option (mS × Int32)} {rec58 : Int32 → Int32 → Int32 → Int32 → Int32 → mS → Option (mS × Int32)} (hrec40 : ∀ (x1 : Int32) (x2 : Int32) (x3 : Int32) (x4 : Int32) (h : mS) {o : (mS × Int32)}, rec40 x1 x2 x3 x4 h = some o → mB (gO mX7_same (hM C o.1, some (.int o.2))) mX7_same (40, [(0, .ref 239), (1, .int x1), (2, .int x2), (3, .int x3), (4, .int x4)], [], (hM C h), 0, 0)) (hrec58 : ∀ (x1 : Int32) (x2 : Int32) (x3 : Int32) (x4 : Int32) (x5 : Int32) (h : mS) {o : (mS × Int32)}, rec58 x1 x2 x3 x4 x5 h = some o → mB (gO mX7_same (hM C o.1, some (.int o.2))) mX7_same (58, [(0, .ref 239), (1, .int x1), (2, .int x2), (3, .int x3), (4, .int x4), (5, .int x5)], [], (hM C h), 0, 0)) (x1 : Int32) (x2 : Int32) (x4 : Int32) (x5 : Int32) (h : mS) {o : (mS × Int32)} (hq : mxX7_same_93 N rec40 rec58 x1 x2 x4 x5 h = some o) : mB (gO mX7_same (hM C o.1, some (.int o.2))) mX7_same (93, [(0, .ref 239), (1, .int x1), (2, .int x2), (4, .int x4), (5, .int x5)], [], (hM C h), 0, 0) := by
  unfold mxX7_same_93 at hq
  refine mB_run odX7_same 1 (g := (94, [(0, .ref 239), (1, .int x1), (2, .int x2), (4, .int x4), (5, .int x5)], [.int (0 : Int32)], (hM C h), 0, 0)) rfl ?_
  refine mB_lv [0, 1, 2, 3, 4] (lv' := [(0, .ref 239), (1, .int x1), (2, .int x2), (4, .int x4), (5, .int x5)]) rfl ?_
  exact emX7_same_94 hC hrec40 hrec58 _ _ _ _ _ _ hq
def mxX7_same_58 (N : Nat) (rec40 : Int32 → Int32 → Int32 → Int32 → mS → Option (mS × Int32)) : Nat → Int32 → Int32 → Int32 → Int32 → Int32 → mS → Option (mS × Int32)
  | 0, _, _, _, _, _, _ => none
  | n + 1, x1, x2, x3, x4, x5, h =>
    if (3 : Int32) ≤ x5 then (
      rec40 x1 x2 x3 (x4 + (1 : Int32)) h) else (
      if x3 = 0 then (
        mxX7_same_93 N rec40 (mxX7_same_58 N rec40 n) x1 x2 x4 x5 h) else (
        (mxX7_corner N x1 x4 x5 h).bind fun o18 =>
        (mxX7_corner N x2 x4 x5 o18.1).bind fun o20 =>
        if o18.2 = o20.2 then (
          mxX7_same_94 N rec40 (mxX7_same_58 N rec40 n) x1 x2 x4 x5 (1 : Int32) o20.1) else (
          mxX7_same_93 N rec40 (mxX7_same_58 N rec40 n) x1 x2 x4 x5 o20.1)))
set_option maxHeartbeats 4000000 in
set_option maxRecDepth 100000 in
theorem emX7_same_58 {N : Nat} {C : mh} (hC : C.length = 239) {rec40 : Int32 → Int32 → Int32 → Int32 → mS → Option (mS × Int32)} (hrec40 : ∀ (x1 : Int32) (x2 : Int32) (x3 : Int32) (x4 : Int32) (h : mS) {o : (mS × Int32)}, rec40 x1 x2 x3 x4 h = some o → mB (gO mX7_same (hM C o.1, some (.int o.2))) mX7_same (40, [(0, .ref 239), (1, .int x1), (2, .int x2), (3, .int x3), (4, .int x4)], [], (hM C h), 0, 0)) : ∀ (n : Nat) (x1 : Int32) (x2 : Int32) (x3 : Int32) (x4 : Int32) (x5 : Int32) (h : mS) {o : (mS × Int32)}, mxX7_same_58 N rec40 n x1 x2 x3 x4 x5 h = some o → mB (gO mX7_same (hM C o.1, some (.int o.2))) mX7_same (58, [(0, .ref 239), (1, .int x1), (2, .int x2), (3, .int x3), (4, .int x4), (5, .int x5)], [], (hM C h), 0, 0) := by
  intro n
  induction n with
  | zero => intro x1 x2 x3 x4 x5 h o hq; cases hq
  | succ n ih =>
    intro x1 x2 x3 x4 x5 h o hq
    unfold mxX7_same_58 at hq
    refine mB_run odX7_same 2 (g := (61, [(0, .ref 239), (1, .int x1), (2, .int x2), (3, .int x3), (4, .int x4), (5, .int x5)], [.int (3 : Int32), .int x5], (hM C h), 0, 0)) rfl ?_
    by_cases c16 : (3 : Int32) ≤ x5
    · rw [if_pos c16] at hq
      refine ic_ge_T (t := 101) odX7_same rfl rfl c16 ?_
      refine mB_run odX7_same 2 (g := (40, [(4, .int (x4 + (1 : Int32))), (0, .ref 239), (1, .int x1), (2, .int x2), (3, .int x3), (5, .int x5)], [], (hM C h), 0, 0)) rfl ?_
      refine mB_lv [1, 2, 3, 4, 0] (lv' := [(0, .ref 239), (1, .int x1), (2, .int x2), (3, .int x3), (4, .int (x4 + (1 : Int32)))]) rfl ?_
      exact hrec40 _ _ _ _ _ hq
    · rw [if_neg c16] at hq
      refine ic_ge_F (t := 101) odX7_same rfl rfl c16 ?_
      refine mB_run odX7_same 1 (g := (65, [(0, .ref 239), (1, .int x1), (2, .int x2), (3, .int x3), (4, .int x4), (5, .int x5)], [.int x3], (hM C h), 0, 0)) rfl ?_
      by_cases c17 : x3 = 0
      · rw [if_pos c17] at hq
        refine if_eq_T (t := 93) odX7_same rfl rfl c17 ?_
        refine mB_lv [0, 1, 2, 4, 5] (lv' := [(0, .ref 239), (1, .int x1), (2, .int x2), (4, .int x4), (5, .int x5)]) rfl ?_
        exact emX7_same_93 hC hrec40 ih _ _ _ _ _ hq
      · rw [if_neg c17] at hq
        refine if_eq_F (t := 93) odX7_same rfl rfl c17 ?_
        refine mB_run odX7_same 4 (g := (74, [(0, .ref 239), (1, .int x1), (2, .int x2), (3, .int x3), (4, .int x4), (5, .int x5)], [.int x5, .int x4, .int x1, .ref 239], (hM C h), 0, 0)) rfl ?_
        obtain ⟨o18, e19, hq⟩ := bsm hq
        refine mB_V (as := [.int x1, .int x4, .int x5]) odX7_same okX7_corner lk_7_292 rfl (emX7_corner hC e19) (kO_at (md_O hC)) rfl rfl rfl ?_
        show mB _ mX7_same (77, [(0, .ref 239), (1, .int x1), (2, .int x2), (3, .int x3), (4, .int x4), (5, .int x5)], [.int o18.2], (hM C o18.1), 0, 0)
        refine mB_run odX7_same 4 (g := (83, [(0, .ref 239), (1, .int x1), (2, .int x2), (3, .int x3), (4, .int x4), (5, .int x5)], [.int x5, .int x4, .int x2, .ref 239, .int o18.2], (hM C o18.1), 0, 0)) rfl ?_
        obtain ⟨o20, e21, hq⟩ := bsm hq
        refine mB_V (as := [.int x2, .int x4, .int x5]) odX7_same okX7_corner lk_7_292 rfl (emX7_corner hC e21) (kO_at (md_O hC)) rfl rfl rfl ?_
        show mB _ mX7_same (86, [(0, .ref 239), (1, .int x1), (2, .int x2), (3, .int x3), (4, .int x4), (5, .int x5)], [.int o20.2, .int o18.2], (hM C o20.1), 0, 0)
        by_cases c22 : o18.2 = o20.2
        · rw [if_pos c22] at hq
          refine ic_ne_F (t := 93) odX7_same rfl rfl c22 ?_
          refine mB_run odX7_same 2 (g := (94, [(0, .ref 239), (1, .int x1), (2, .int x2), (3, .int x3), (4, .int x4), (5, .int x5)], [.int (1 : Int32)], (hM C o20.1), 0, 0)) rfl ?_
          refine mB_lv [0, 1, 2, 4, 5] (lv' := [(0, .ref 239), (1, .int x1), (2, .int x2), (4, .int x4), (5, .int x5)]) rfl ?_
          exact emX7_same_94 hC hrec40 ih _ _ _ _ _ _ hq
        · rw [if_neg c22] at hq
          refine ic_ne_T (t := 93) odX7_same rfl rfl c22 ?_
          refine mB_lv [0, 1, 2, 4, 5] (lv' := [(0, .ref 239), (1, .int x1), (2, .int x2), (4, .int x4), (5, .int x5)]) rfl ?_
          exact emX7_same_93 hC hrec40 ih _ _ _ _ _ hq
def mxX7_same_107 (N : Nat) (x3 : Int32) (h : mS) : Option (mS × Int32) :=
  if x3 = 0 then (
    some (h, (0 : Int32))) else (
    some (h, (1 : Int32)))
set_option maxHeartbeats 4000000 in
set_option maxRecDepth 100000 in
theorem emX7_same_107 {N : Nat} {C : mh} (hC : C.length = 239) (x3 : Int32) (h : mS) {o : (mS × Int32)} (hq : mxX7_same_107 N x3 h = some o) : mB (gO mX7_same (hM C o.1, some (.int o.2))) mX7_same (107, [(3, .int x3)], [], (hM C h), 0, 0) := by
  unfold mxX7_same_107 at hq
  refine mB_run odX7_same 1 (g := (108, [(3, .int x3)], [.int x3], (hM C h), 0, 0)) rfl ?_
  by_cases c23 : x3 = 0
  · rw [if_pos c23] at hq
    refine if_eq_T (t := 115) odX7_same rfl rfl c23 ?_
    refine mB_run odX7_same 1 (g := (116, [(3, .int x3)], [.int (0 : Int32)], (hM C h), 0, 0)) rfl ?_
    cases hq
    exact mB_ret odX7_same rfl
  · rw [if_neg c23] at hq
    refine if_eq_F (t := 115) odX7_same rfl rfl c23 ?_
    refine mB_run odX7_same 2 (g := (116, [(3, .int x3)], [.int (1 : Int32)], (hM C h), 0, 0)) rfl ?_
    cases hq
    exact mB_ret odX7_same rfl
def mxX7_same_40 (N : Nat) : Nat → Int32 → Int32 → Int32 → Int32 → mS → Option (mS × Int32)
  | 0, _, _, _, _, _ => none
  | n + 1, x1, x2, x3, x4, h =>
    (rA h 4 x1).bind fun v12 =>
    if v12 ≤ x4 then (
      mxX7_same_107 N x3 h) else (
      if x3 = 0 then (
        mxX7_same_107 N x3 h) else (
        mxX7_same_58 N (mxX7_same_40 N n) N x1 x2 x3 x4 (0 : Int32) h))
set_option maxHeartbeats 4000000 in
set_option maxRecDepth 100000 in
theorem emX7_same_40 {N : Nat} {C : mh} (hC : C.length = 239) : ∀ (n : Nat) (x1 : Int32) (x2 : Int32) (x3 : Int32) (x4 : Int32) (h : mS) {o : (mS × Int32)}, mxX7_same_40 N n x1 x2 x3 x4 h = some o → mB (gO mX7_same (hM C o.1, some (.int o.2))) mX7_same (40, [(0, .ref 239), (1, .int x1), (2, .int x2), (3, .int x3), (4, .int x4)], [], (hM C h), 0, 0) := by
  intro n
  induction n with
  | zero => intro x1 x2 x3 x4 h o hq; cases hq
  | succ n ih =>
    intro x1 x2 x3 x4 h o hq
    unfold mxX7_same_40 at hq
    refine mB_run odX7_same 2 (g := (43, [(0, .ref 239), (1, .int x1), (2, .int x2), (3, .int x3), (4, .int x4)], [.ref 239, .int x4], (hM C h), 0, 0)) rfl ?_
    refine r_gR odX7_same rfl rfl (md_4 hC) ?_
    refine mB_run odX7_same 1 (g := (47, [(0, .ref 239), (1, .int x1), (2, .int x2), (3, .int x3), (4, .int x4)], [.int x1, .ref 244, .int x4], (hM C h), 0, 0)) rfl ?_
    obtain ⟨v12, e13, hq⟩ := bsm hq
    refine r_aI odX7_same rfl (ra_4 hC e13) ?_
    by_cases c14 : v12 ≤ x4
    · rw [if_pos c14] at hq
      refine ic_ge_T (t := 107) odX7_same rfl rfl c14 ?_
      refine mB_lv [3] (lv' := [(3, .int x3)]) rfl ?_
      exact emX7_same_107 hC _ _ hq
    · rw [if_neg c14] at hq
      refine ic_ge_F (t := 107) odX7_same rfl rfl c14 ?_
      refine mB_run odX7_same 1 (g := (52, [(0, .ref 239), (1, .int x1), (2, .int x2), (3, .int x3), (4, .int x4)], [.int x3], (hM C h), 0, 0)) rfl ?_
      by_cases c15 : x3 = 0
      · rw [if_pos c15] at hq
        refine if_eq_T (t := 107) odX7_same rfl rfl c15 ?_
        refine mB_lv [3] (lv' := [(3, .int x3)]) rfl ?_
        exact emX7_same_107 hC _ _ hq
      · rw [if_neg c15] at hq
        refine if_eq_F (t := 107) odX7_same rfl rfl c15 ?_
        refine mB_run odX7_same 2 (g := (58, [(5, .int (0 : Int32)), (0, .ref 239), (1, .int x1), (2, .int x2), (3, .int x3), (4, .int x4)], [], (hM C h), 0, 0)) rfl ?_
        refine mB_lv [1, 2, 3, 4, 5, 0] (lv' := [(0, .ref 239), (1, .int x1), (2, .int x2), (3, .int x3), (4, .int x4), (5, .int (0 : Int32))]) rfl ?_
        exact emX7_same_58 hC ih N _ _ _ _ _ _ hq
def mxX7_same_36 (N : Nat) (x1 : Int32) (x2 : Int32) (y0 : Int32) (h : mS) : Option (mS × Int32) :=
  mxX7_same_40 N N x1 x2 y0 (0 : Int32) h
set_option maxHeartbeats 4000000 in
set_option maxRecDepth 100000 in
theorem emX7_same_36 {N : Nat} {C : mh} (hC : C.length = 239) (x1 : Int32) (x2 : Int32) (y0 : Int32) (h : mS) {o : (mS × Int32)} (hq : mxX7_same_36 N x1 x2 y0 h = some o) : mB (gO mX7_same (hM C o.1, some (.int o.2))) mX7_same (36, [(0, .ref 239), (1, .int x1), (2, .int x2)], [.int y0], (hM C h), 0, 0) := by
  unfold mxX7_same_36 at hq
  refine mB_run odX7_same 3 (g := (40, [(4, .int (0 : Int32)), (3, .int y0), (0, .ref 239), (1, .int x1), (2, .int x2)], [], (hM C h), 0, 0)) rfl ?_
  refine mB_lv [2, 3, 4, 1, 0] (lv' := [(0, .ref 239), (1, .int x1), (2, .int x2), (3, .int y0), (4, .int (0 : Int32))]) rfl ?_
  exact emX7_same_40 hC N _ _ _ _ _ hq
def mxX7_same (N : Nat) (p1 : Int32) (p2 : Int32) (h : mS) : Option (mS × Int32) :=
  (mxX7_isSolid N p1 h).bind fun o1 =>
  if o1.2 = 0 then (
    some (o1.1, (-1 : Int32))) else (
    (mxX7_isSolid N p2 o1.1).bind fun o4 =>
    if o4.2 = 0 then (
      some (o4.1, (-1 : Int32))) else (
      (rA o4.1 4 p1).bind fun v7 =>
      (rA o4.1 4 p2).bind fun v9 =>
      if v7 = v9 then (
        mxX7_same_36 N p1 p2 (1 : Int32) o4.1) else (
        mxX7_same_36 N p1 p2 (0 : Int32) o4.1)))
set_option maxHeartbeats 4000000 in
set_option maxRecDepth 100000 in
theorem emX7_same {N : Nat} {C : mh} (hC : C.length = 239) {p1 : Int32} {p2 : Int32} {h : mS} {o : (mS × Int32)} (hq : mxX7_same N p1 p2 h = some o) : mC mX7_same [.ref 239, .int p1, .int p2] (hM C h) (hM C o.1, some (.int o.2)) := by
  refine mC_of okX7_same (Nat.le_of_ble_eq_true rfl) ?_
  unfold mxX7_same at hq
  show mB _ mX7_same (0, [(0, .ref 239), (1, .int p1), (2, .int p2)], [], (hM C h), 0, 0)
  refine mB_run odX7_same 1 (g := (1, [(0, .ref 239), (1, .int p1), (2, .int p2)], [.int p1], (hM C h), 0, 0)) rfl ?_
  obtain ⟨o1, e2, hq⟩ := bsm hq
  refine mB_S (as := [.int p1]) odX7_same okX7_isSolid lk_7_133 rfl (emX7_isSolid hC e2) rfl rfl rfl ?_
  show mB _ mX7_same (4, [(0, .ref 239), (1, .int p1), (2, .int p2)], [.int o1.2], (hM C o1.1), 0, 0)
  by_cases c3 : o1.2 = 0
  · rw [if_pos c3] at hq
    refine if_eq_T (t := 14) odX7_same rfl rfl c3 ?_
    refine mB_run odX7_same 1 (g := (15, [(0, .ref 239), (1, .int p1), (2, .int p2)], [.int (-1 : Int32)], (hM C o1.1), 0, 0)) rfl ?_
    cases hq
    exact mB_ret odX7_same rfl
  · rw [if_neg c3] at hq
    refine if_eq_F (t := 14) odX7_same rfl rfl c3 ?_
    refine mB_run odX7_same 1 (g := (8, [(0, .ref 239), (1, .int p1), (2, .int p2)], [.int p2], (hM C o1.1), 0, 0)) rfl ?_
    obtain ⟨o4, e5, hq⟩ := bsm hq
    refine mB_S (as := [.int p2]) odX7_same okX7_isSolid lk_7_133 rfl (emX7_isSolid hC e5) rfl rfl rfl ?_
    show mB _ mX7_same (11, [(0, .ref 239), (1, .int p1), (2, .int p2)], [.int o4.2], (hM C o4.1), 0, 0)
    by_cases c6 : o4.2 = 0
    · rw [if_pos c6] at hq
      refine if_ne_F (t := 16) odX7_same rfl rfl c6 ?_
      refine mB_run odX7_same 1 (g := (15, [(0, .ref 239), (1, .int p1), (2, .int p2)], [.int (-1 : Int32)], (hM C o4.1), 0, 0)) rfl ?_
      cases hq
      exact mB_ret odX7_same rfl
    · rw [if_neg c6] at hq
      refine if_ne_T (t := 16) odX7_same rfl rfl c6 ?_
      refine mB_run odX7_same 1 (g := (17, [(0, .ref 239), (1, .int p1), (2, .int p2)], [.ref 239], (hM C o4.1), 0, 0)) rfl ?_
      refine r_gR odX7_same rfl rfl (md_4 hC) ?_
      refine mB_run odX7_same 1 (g := (21, [(0, .ref 239), (1, .int p1), (2, .int p2)], [.int p1, .ref 244], (hM C o4.1), 0, 0)) rfl ?_
      obtain ⟨v7, e8, hq⟩ := bsm hq
      refine r_aI odX7_same rfl (ra_4 hC e8) ?_
      refine mB_run odX7_same 1 (g := (23, [(0, .ref 239), (1, .int p1), (2, .int p2)], [.ref 239, .int v7], (hM C o4.1), 0, 0)) rfl ?_
      refine r_gR odX7_same rfl rfl (md_4 hC) ?_
      refine mB_run odX7_same 1 (g := (27, [(0, .ref 239), (1, .int p1), (2, .int p2)], [.int p2, .ref 244, .int v7], (hM C o4.1), 0, 0)) rfl ?_
      obtain ⟨v9, e10, hq⟩ := bsm hq
      refine r_aI odX7_same rfl (ra_4 hC e10) ?_
      by_cases c11 : v7 = v9
      · rw [if_pos c11] at hq
        refine ic_ne_F (t := 35) odX7_same rfl rfl c11 ?_
        refine mB_run odX7_same 2 (g := (36, [(0, .ref 239), (1, .int p1), (2, .int p2)], [.int (1 : Int32)], (hM C o4.1), 0, 0)) rfl ?_
        refine mB_lv [0, 1, 2] (lv' := [(0, .ref 239), (1, .int p1), (2, .int p2)]) rfl ?_
        exact emX7_same_36 hC _ _ _ _ hq
      · rw [if_neg c11] at hq
        refine ic_ne_T (t := 35) odX7_same rfl rfl c11 ?_
        refine mB_run odX7_same 1 (g := (36, [(0, .ref 239), (1, .int p1), (2, .int p2)], [.int (0 : Int32)], (hM C o4.1), 0, 0)) rfl ?_
        refine mB_lv [0, 1, 2] (lv' := [(0, .ref 239), (1, .int p1), (2, .int p2)]) rfl ?_
        exact emX7_same_36 hC _ _ _ _ hq
def mxX7_move_84 (N : Nat) : Nat → Int32 → Int32 → Int32 → Int32 → Int32 → mS → Option (mS × Int32)
  | 0, _, _, _, _, _, _ => none
  | n + 1, x1, x2, x3, x4, x5, h =>
    (rA h 4 x1).bind fun v18 =>
    if (((24 : Int32) * x1) + v18) ≤ x5 then (
      some (h, (1 : Int32))) else (
      (rA h 6 x5).bind fun v21 =>
      (wA h 6 x5 (v21 + x2)).bind fun s23 =>
      (rA s23 7 x5).bind fun v25 =>
      (wA s23 7 x5 (v25 + x3)).bind fun s27 =>
      (rA s27 8 x5).bind fun v29 =>
      (wA s27 8 x5 (v29 + x4)).bind fun s31 =>
      mxX7_move_84 N n x1 x2 x3 x4 (x5 + (1 : Int32)) s31)
set_option maxHeartbeats 4000000 in
set_option maxRecDepth 100000 in
theorem emX7_move_84 {N : Nat} {C : mh} (hC : C.length = 239) : ∀ (n : Nat) (x1 : Int32) (x2 : Int32) (x3 : Int32) (x4 : Int32) (x5 : Int32) (h : mS) {o : (mS × Int32)}, mxX7_move_84 N n x1 x2 x3 x4 x5 h = some o → mB (gO mX7_move (hM C o.1, some (.int o.2))) mX7_move (84, [(0, .ref 239), (1, .int x1), (2, .int x2), (3, .int x3), (4, .int x4), (5, .int x5)], [], (hM C h), 0, 0) := by
  intro n
  induction n with
  | zero => intro x1 x2 x3 x4 x5 h o hq; cases hq
  | succ n ih =>
    intro x1 x2 x3 x4 x5 h o hq
    unfold mxX7_move_84 at hq
    refine mB_run odX7_move 5 (g := (91, [(0, .ref 239), (1, .int x1), (2, .int x2), (3, .int x3), (4, .int x4), (5, .int x5)], [.ref 239, .int ((24 : Int32) * x1), .int x5], (hM C h), 0, 0)) rfl ?_
    refine r_gR odX7_move rfl rfl (md_4 hC) ?_
    refine mB_run odX7_move 1 (g := (95, [(0, .ref 239), (1, .int x1), (2, .int x2), (3, .int x3), (4, .int x4), (5, .int x5)], [.int x1, .ref 244, .int ((24 : Int32) * x1), .int x5], (hM C h), 0, 0)) rfl ?_
    obtain ⟨v18, e19, hq⟩ := bsm hq
    refine r_aI odX7_move rfl (ra_4 hC e19) ?_
    refine mB_run odX7_move 1 (g := (97, [(0, .ref 239), (1, .int x1), (2, .int x2), (3, .int x3), (4, .int x4), (5, .int x5)], [.int (((24 : Int32) * x1) + v18), .int x5], (hM C h), 0, 0)) rfl ?_
    by_cases c20 : (((24 : Int32) * x1) + v18) ≤ x5
    · rw [if_pos c20] at hq
      refine ic_ge_T (t := 140) odX7_move rfl rfl c20 ?_
      refine mB_run odX7_move 1 (g := (141, [(0, .ref 239), (1, .int x1), (2, .int x2), (3, .int x3), (4, .int x4), (5, .int x5)], [.int (1 : Int32)], (hM C h), 0, 0)) rfl ?_
      cases hq
      exact mB_ret odX7_move rfl
    · rw [if_neg c20] at hq
      refine ic_ge_F (t := 140) odX7_move rfl rfl c20 ?_
      refine mB_run odX7_move 1 (g := (101, [(0, .ref 239), (1, .int x1), (2, .int x2), (3, .int x3), (4, .int x4), (5, .int x5)], [.ref 239], (hM C h), 0, 0)) rfl ?_
      refine r_gR odX7_move rfl rfl (md_6 hC) ?_
      refine mB_run odX7_move 2 (g := (107, [(0, .ref 239), (1, .int x1), (2, .int x2), (3, .int x3), (4, .int x4), (5, .int x5)], [.int x5, .ref 246, .int x5, .ref 246], (hM C h), 0, 0)) rfl ?_
      obtain ⟨v21, e22, hq⟩ := bsm hq
      refine r_aI odX7_move rfl (ra_6 hC e22) ?_
      refine mB_run odX7_move 2 (g := (110, [(0, .ref 239), (1, .int x1), (2, .int x2), (3, .int x3), (4, .int x4), (5, .int x5)], [.int (v21 + x2), .int x5, .ref 246], (hM C h), 0, 0)) rfl ?_
      obtain ⟨s23, e24, hq⟩ := bsm hq
      refine r_wI odX7_move rfl (wa_6 hC e24) ?_
      refine mB_run odX7_move 1 (g := (112, [(0, .ref 239), (1, .int x1), (2, .int x2), (3, .int x3), (4, .int x4), (5, .int x5)], [.ref 239], (hM C s23), 0, 0)) rfl ?_
      refine r_gR odX7_move rfl rfl (md_7 hC) ?_
      refine mB_run odX7_move 2 (g := (118, [(0, .ref 239), (1, .int x1), (2, .int x2), (3, .int x3), (4, .int x4), (5, .int x5)], [.int x5, .ref 247, .int x5, .ref 247], (hM C s23), 0, 0)) rfl ?_
      obtain ⟨v25, e26, hq⟩ := bsm hq
      refine r_aI odX7_move rfl (ra_7 hC e26) ?_
      refine mB_run odX7_move 2 (g := (121, [(0, .ref 239), (1, .int x1), (2, .int x2), (3, .int x3), (4, .int x4), (5, .int x5)], [.int (v25 + x3), .int x5, .ref 247], (hM C s23), 0, 0)) rfl ?_
      obtain ⟨s27, e28, hq⟩ := bsm hq
      refine r_wI odX7_move rfl (wa_7 hC e28) ?_
      refine mB_run odX7_move 1 (g := (123, [(0, .ref 239), (1, .int x1), (2, .int x2), (3, .int x3), (4, .int x4), (5, .int x5)], [.ref 239], (hM C s27), 0, 0)) rfl ?_
      refine r_gR odX7_move rfl rfl (md_8 hC) ?_
      refine mB_run odX7_move 2 (g := (129, [(0, .ref 239), (1, .int x1), (2, .int x2), (3, .int x3), (4, .int x4), (5, .int x5)], [.int x5, .ref 248, .int x5, .ref 248], (hM C s27), 0, 0)) rfl ?_
      obtain ⟨v29, e30, hq⟩ := bsm hq
      refine r_aI odX7_move rfl (ra_8 hC e30) ?_
      refine mB_run odX7_move 2 (g := (133, [(0, .ref 239), (1, .int x1), (2, .int x2), (3, .int x3), (4, .int x4), (5, .int x5)], [.int (v29 + x4), .int x5, .ref 248], (hM C s27), 0, 0)) rfl ?_
      obtain ⟨s31, e32, hq⟩ := bsm hq
      refine r_wI odX7_move rfl (wa_8 hC e32) ?_
      refine mB_run odX7_move 2 (g := (84, [(5, .int (x5 + (1 : Int32))), (0, .ref 239), (1, .int x1), (2, .int x2), (3, .int x3), (4, .int x4)], [], (hM C s31), 0, 0)) rfl ?_
      refine mB_lv [1, 2, 3, 4, 5, 0] (lv' := [(0, .ref 239), (1, .int x1), (2, .int x2), (3, .int x3), (4, .int x4), (5, .int (x5 + (1 : Int32)))]) rfl ?_
      exact ih _ _ _ _ _ _ hq
def mxX7_move_12 (N : Nat) : Nat → Int32 → Int32 → Int32 → Int32 → Int32 → mS → Option (mS × Int32)
  | 0, _, _, _, _, _, _ => none
  | n + 1, x1, x2, x3, x4, x5, h =>
    (rA h 4 x1).bind fun v4 =>
    if v4 ≤ x5 then (
      (mxX7_keeps N  h).bind fun o7 =>
      mxX7_move_84 N N x1 x2 x3 x4 ((24 : Int32) * x1) o7) else (
      (mxX7_corner N x1 x5 (0 : Int32) h).bind fun o9 =>
      (mxX7_corner N x1 x5 (1 : Int32) o9.1).bind fun o11 =>
      (mxX7_corner N x1 x5 (2 : Int32) o11.1).bind fun o13 =>
      (mxX7_isPoint N (o9.2.toInt64 + x2.toInt64) (o11.2.toInt64 + x3.toInt64) (o13.2.toInt64 + x4.toInt64) o13.1).bind fun o15 =>
      if o15.2 = 0 then (
        some (o15.1, (0 : Int32))) else (
        mxX7_move_12 N n x1 x2 x3 x4 (x5 + (1 : Int32)) o15.1))
set_option maxHeartbeats 4000000 in
set_option maxRecDepth 100000 in
theorem emX7_move_12 {N : Nat} {C : mh} (hC : C.length = 239) : ∀ (n : Nat) (x1 : Int32) (x2 : Int32) (x3 : Int32) (x4 : Int32) (x5 : Int32) (h : mS) {o : (mS × Int32)}, mxX7_move_12 N n x1 x2 x3 x4 x5 h = some o → mB (gO mX7_move (hM C o.1, some (.int o.2))) mX7_move (12, [(0, .ref 239), (1, .int x1), (2, .int x2), (3, .int x3), (4, .int x4), (5, .int x5)], [], (hM C h), 0, 0) := by
  intro n
  induction n with
  | zero => intro x1 x2 x3 x4 x5 h o hq; cases hq
  | succ n ih =>
    intro x1 x2 x3 x4 x5 h o hq
    unfold mxX7_move_12 at hq
    refine mB_run odX7_move 2 (g := (15, [(0, .ref 239), (1, .int x1), (2, .int x2), (3, .int x3), (4, .int x4), (5, .int x5)], [.ref 239, .int x5], (hM C h), 0, 0)) rfl ?_
    refine r_gR odX7_move rfl rfl (md_4 hC) ?_
    refine mB_run odX7_move 1 (g := (19, [(0, .ref 239), (1, .int x1), (2, .int x2), (3, .int x3), (4, .int x4), (5, .int x5)], [.int x1, .ref 244, .int x5], (hM C h), 0, 0)) rfl ?_
    obtain ⟨v4, e5, hq⟩ := bsm hq
    refine r_aI odX7_move rfl (ra_4 hC e5) ?_
    by_cases c6 : v4 ≤ x5
    · rw [if_pos c6] at hq
      refine ic_ge_T (t := 74) odX7_move rfl rfl c6 ?_
      refine mB_run odX7_move 1 (g := (75, [(0, .ref 239), (1, .int x1), (2, .int x2), (3, .int x3), (4, .int x4), (5, .int x5)], [.ref 239], (hM C h), 0, 0)) rfl ?_
      obtain ⟨o7, e8, hq⟩ := bsm hq
      refine mB_V (as := []) odX7_move okX7_keeps lk_7_237 rfl (emX7_keeps hC e8) (kO_at (md_O hC)) rfl rfl rfl ?_
      show mB _ mX7_move (78, [(0, .ref 239), (1, .int x1), (2, .int x2), (3, .int x3), (4, .int x4), (5, .int x5)], [], (hM C o7), 0, 0)
      refine mB_run odX7_move 4 (g := (84, [(5, .int ((24 : Int32) * x1)), (0, .ref 239), (1, .int x1), (2, .int x2), (3, .int x3), (4, .int x4)], [], (hM C o7), 0, 0)) rfl ?_
      refine mB_lv [1, 2, 3, 4, 5, 0] (lv' := [(0, .ref 239), (1, .int x1), (2, .int x2), (3, .int x3), (4, .int x4), (5, .int ((24 : Int32) * x1))]) rfl ?_
      exact emX7_move_84 hC N _ _ _ _ _ _ hq
    · rw [if_neg c6] at hq
      refine ic_ge_F (t := 74) odX7_move rfl rfl c6 ?_
      refine mB_run odX7_move 4 (g := (28, [(0, .ref 239), (1, .int x1), (2, .int x2), (3, .int x3), (4, .int x4), (5, .int x5)], [.int (0 : Int32), .int x5, .int x1, .ref 239], (hM C h), 0, 0)) rfl ?_
      obtain ⟨o9, e10, hq⟩ := bsm hq
      refine mB_V (as := [.int x1, .int x5, .int (0 : Int32)]) odX7_move okX7_corner lk_7_292 rfl (emX7_corner hC e10) (kO_at (md_O hC)) rfl rfl rfl ?_
      show mB _ mX7_move (31, [(0, .ref 239), (1, .int x1), (2, .int x2), (3, .int x3), (4, .int x4), (5, .int x5)], [.int o9.2], (hM C o9.1), 0, 0)
      refine mB_run odX7_move 8 (g := (40, [(0, .ref 239), (1, .int x1), (2, .int x2), (3, .int x3), (4, .int x4), (5, .int x5)], [.int (1 : Int32), .int x5, .int x1, .ref 239, .long (o9.2.toInt64 + x2.toInt64)], (hM C o9.1), 0, 0)) rfl ?_
      obtain ⟨o11, e12, hq⟩ := bsm hq
      refine mB_V (as := [.int x1, .int x5, .int (1 : Int32)]) odX7_move okX7_corner lk_7_292 rfl (emX7_corner hC e12) (kO_at (md_O hC)) rfl rfl rfl ?_
      show mB _ mX7_move (43, [(0, .ref 239), (1, .int x1), (2, .int x2), (3, .int x3), (4, .int x4), (5, .int x5)], [.int o11.2, .long (o9.2.toInt64 + x2.toInt64)], (hM C o11.1), 0, 0)
      refine mB_run odX7_move 8 (g := (52, [(0, .ref 239), (1, .int x1), (2, .int x2), (3, .int x3), (4, .int x4), (5, .int x5)], [.int (2 : Int32), .int x5, .int x1, .ref 239, .long (o11.2.toInt64 + x3.toInt64), .long (o9.2.toInt64 + x2.toInt64)], (hM C o11.1), 0, 0)) rfl ?_
      obtain ⟨o13, e14, hq⟩ := bsm hq
      refine mB_V (as := [.int x1, .int x5, .int (2 : Int32)]) odX7_move okX7_corner lk_7_292 rfl (emX7_corner hC e14) (kO_at (md_O hC)) rfl rfl rfl ?_
      show mB _ mX7_move (55, [(0, .ref 239), (1, .int x1), (2, .int x2), (3, .int x3), (4, .int x4), (5, .int x5)], [.int o13.2, .long (o11.2.toInt64 + x3.toInt64), .long (o9.2.toInt64 + x2.toInt64)], (hM C o13.1), 0, 0)
      refine mB_run odX7_move 4 (g := (60, [(0, .ref 239), (1, .int x1), (2, .int x2), (3, .int x3), (4, .int x4), (5, .int x5)], [.long (o13.2.toInt64 + x4.toInt64), .long (o11.2.toInt64 + x3.toInt64), .long (o9.2.toInt64 + x2.toInt64)], (hM C o13.1), 0, 0)) rfl ?_
      obtain ⟨o15, e16, hq⟩ := bsm hq
      refine mB_S (as := [.long (o9.2.toInt64 + x2.toInt64), .long (o11.2.toInt64 + x3.toInt64), .long (o13.2.toInt64 + x4.toInt64)]) odX7_move okX7_isPoint lk_7_137 rfl (emX7_isPoint hC e16) rfl rfl rfl ?_
      show mB _ mX7_move (63, [(0, .ref 239), (1, .int x1), (2, .int x2), (3, .int x3), (4, .int x4), (5, .int x5)], [.int o15.2], (hM C o15.1), 0, 0)
      by_cases c17 : o15.2 = 0
      · rw [if_pos c17] at hq
        refine if_ne_F (t := 68) odX7_move rfl rfl c17 ?_
        refine mB_run odX7_move 1 (g := (67, [(0, .ref 239), (1, .int x1), (2, .int x2), (3, .int x3), (4, .int x4), (5, .int x5)], [.int (0 : Int32)], (hM C o15.1), 0, 0)) rfl ?_
        cases hq
        exact mB_ret odX7_move rfl
      · rw [if_neg c17] at hq
        refine if_ne_T (t := 68) odX7_move rfl rfl c17 ?_
        refine mB_run odX7_move 2 (g := (12, [(5, .int (x5 + (1 : Int32))), (0, .ref 239), (1, .int x1), (2, .int x2), (3, .int x3), (4, .int x4)], [], (hM C o15.1), 0, 0)) rfl ?_
        refine mB_lv [1, 2, 3, 4, 5, 0] (lv' := [(0, .ref 239), (1, .int x1), (2, .int x2), (3, .int x3), (4, .int x4), (5, .int (x5 + (1 : Int32)))]) rfl ?_
        exact ih _ _ _ _ _ _ hq
def mxX7_move (N : Nat) (p1 : Int32) (p2 : Int32) (p3 : Int32) (p4 : Int32) (h : mS) : Option (mS × Int32) :=
  (mxX7_isSolid N p1 h).bind fun o1 =>
  if o1.2 = 0 then (
    some (o1.1, (0 : Int32))) else (
    mxX7_move_12 N N p1 p2 p3 p4 (0 : Int32) o1.1)
set_option maxHeartbeats 4000000 in
set_option maxRecDepth 100000 in
theorem emX7_move {N : Nat} {C : mh} (hC : C.length = 239) {p1 : Int32} {p2 : Int32} {p3 : Int32} {p4 : Int32} {h : mS} {o : (mS × Int32)} (hq : mxX7_move N p1 p2 p3 p4 h = some o) : mC mX7_move [.ref 239, .int p1, .int p2, .int p3, .int p4] (hM C h) (hM C o.1, some (.int o.2)) := by
  refine mC_of okX7_move (Nat.le_of_ble_eq_true rfl) ?_
  unfold mxX7_move at hq
  show mB _ mX7_move (0, [(0, .ref 239), (1, .int p1), (2, .int p2), (3, .int p3), (4, .int p4)], [], (hM C h), 0, 0)
  refine mB_run odX7_move 1 (g := (1, [(0, .ref 239), (1, .int p1), (2, .int p2), (3, .int p3), (4, .int p4)], [.int p1], (hM C h), 0, 0)) rfl ?_
  obtain ⟨o1, e2, hq⟩ := bsm hq
  refine mB_S (as := [.int p1]) odX7_move okX7_isSolid lk_7_133 rfl (emX7_isSolid hC e2) rfl rfl rfl ?_
  show mB _ mX7_move (4, [(0, .ref 239), (1, .int p1), (2, .int p2), (3, .int p3), (4, .int p4)], [.int o1.2], (hM C o1.1), 0, 0)
  by_cases c3 : o1.2 = 0
  · rw [if_pos c3] at hq
    refine if_ne_F (t := 9) odX7_move rfl rfl c3 ?_
    refine mB_run odX7_move 1 (g := (8, [(0, .ref 239), (1, .int p1), (2, .int p2), (3, .int p3), (4, .int p4)], [.int (0 : Int32)], (hM C o1.1), 0, 0)) rfl ?_
    cases hq
    exact mB_ret odX7_move rfl
  · rw [if_neg c3] at hq
    refine if_ne_T (t := 9) odX7_move rfl rfl c3 ?_
    refine mB_run odX7_move 2 (g := (12, [(5, .int (0 : Int32)), (0, .ref 239), (1, .int p1), (2, .int p2), (3, .int p3), (4, .int p4)], [], (hM C o1.1), 0, 0)) rfl ?_
    refine mB_lv [1, 2, 3, 4, 5, 0] (lv' := [(0, .ref 239), (1, .int p1), (2, .int p2), (3, .int p3), (4, .int p4), (5, .int (0 : Int32))]) rfl ?_
    exact emX7_move_12 hC N _ _ _ _ _ _ hq
def mxX7_orders_7 (N : Nat) : Nat → Int32 → Int32 → mS → Option mS
  | 0, _, _, _ => none
  | n + 1, x1, x2, h =>
    if (h.1 15) ≤ x2 then (
      some h) else (
      (rG h 16 x2).bind fun v4 =>
      (wA h 6 (((24 : Int32) * x1) + x2) v4.toInt32).bind fun s6 =>
      (rG s6 17 x2).bind fun v8 =>
      (wA s6 7 (((24 : Int32) * x1) + x2) v8.toInt32).bind fun s10 =>
      (rG s10 18 x2).bind fun v12 =>
      (wA s10 8 (((24 : Int32) * x1) + x2) v12.toInt32).bind fun s14 =>
      mxX7_orders_7 N n x1 (x2 + (1 : Int32)) s14)
set_option maxHeartbeats 4000000 in
set_option maxRecDepth 100000 in
theorem emX7_orders_7 {N : Nat} {C : mh} (hC : C.length = 239) : ∀ (n : Nat) (x1 : Int32) (x2 : Int32) (h : mS) {o : mS}, mxX7_orders_7 N n x1 x2 h = some o → mB (gO mX7_orders (hM C o, none)) mX7_orders (7, [(0, .ref 239), (1, .int x1), (2, .int x2)], [], (hM C h), 0, 0) := by
  intro n
  induction n with
  | zero => intro x1 x2 h o hq; cases hq
  | succ n ih =>
    intro x1 x2 h o hq
    unfold mxX7_orders_7 at hq
    refine mB_run odX7_orders 2 (g := (9, [(0, .ref 239), (1, .int x1), (2, .int x2)], [.ref 239, .int x2], (hM C h), 0, 0)) rfl ?_
    refine r_gI odX7_orders rfl rfl (md_15 hC) ?_
    by_cases c3 : (h.1 15) ≤ x2
    · rw [if_pos c3] at hq
      refine ic_ge_T (t := 75) odX7_orders rfl rfl c3 ?_
      cases hq
      exact mB_ret odX7_orders rfl
    · rw [if_neg c3] at hq
      refine ic_ge_F (t := 75) odX7_orders rfl rfl c3 ?_
      refine mB_run odX7_orders 1 (g := (16, [(0, .ref 239), (1, .int x1), (2, .int x2)], [.ref 239], (hM C h), 0, 0)) rfl ?_
      refine r_gR odX7_orders rfl rfl (md_6 hC) ?_
      refine mB_run odX7_orders 6 (g := (26, [(0, .ref 239), (1, .int x1), (2, .int x2)], [.ref 239, .int (((24 : Int32) * x1) + x2), .ref 246], (hM C h), 0, 0)) rfl ?_
      refine r_gR odX7_orders rfl rfl (md_16 hC) ?_
      refine mB_run odX7_orders 1 (g := (30, [(0, .ref 239), (1, .int x1), (2, .int x2)], [.int x2, .ref 254, .int (((24 : Int32) * x1) + x2), .ref 246], (hM C h), 0, 0)) rfl ?_
      obtain ⟨v4, e5, hq⟩ := bsm hq
      refine r_aJ odX7_orders rfl (ra_16 hC e5) ?_
      refine mB_run odX7_orders 1 (g := (32, [(0, .ref 239), (1, .int x1), (2, .int x2)], [.int v4.toInt32, .int (((24 : Int32) * x1) + x2), .ref 246], (hM C h), 0, 0)) rfl ?_
      obtain ⟨s6, e7, hq⟩ := bsm hq
      refine r_wI odX7_orders rfl (wa_6 hC e7) ?_
      refine mB_run odX7_orders 1 (g := (34, [(0, .ref 239), (1, .int x1), (2, .int x2)], [.ref 239], (hM C s6), 0, 0)) rfl ?_
      refine r_gR odX7_orders rfl rfl (md_7 hC) ?_
      refine mB_run odX7_orders 6 (g := (44, [(0, .ref 239), (1, .int x1), (2, .int x2)], [.ref 239, .int (((24 : Int32) * x1) + x2), .ref 247], (hM C s6), 0, 0)) rfl ?_
      refine r_gR odX7_orders rfl rfl (md_17 hC) ?_
      refine mB_run odX7_orders 1 (g := (48, [(0, .ref 239), (1, .int x1), (2, .int x2)], [.int x2, .ref 255, .int (((24 : Int32) * x1) + x2), .ref 247], (hM C s6), 0, 0)) rfl ?_
      obtain ⟨v8, e9, hq⟩ := bsm hq
      refine r_aJ odX7_orders rfl (ra_17 hC e9) ?_
      refine mB_run odX7_orders 1 (g := (50, [(0, .ref 239), (1, .int x1), (2, .int x2)], [.int v8.toInt32, .int (((24 : Int32) * x1) + x2), .ref 247], (hM C s6), 0, 0)) rfl ?_
      obtain ⟨s10, e11, hq⟩ := bsm hq
      refine r_wI odX7_orders rfl (wa_7 hC e11) ?_
      refine mB_run odX7_orders 1 (g := (52, [(0, .ref 239), (1, .int x1), (2, .int x2)], [.ref 239], (hM C s10), 0, 0)) rfl ?_
      refine r_gR odX7_orders rfl rfl (md_8 hC) ?_
      refine mB_run odX7_orders 6 (g := (62, [(0, .ref 239), (1, .int x1), (2, .int x2)], [.ref 239, .int (((24 : Int32) * x1) + x2), .ref 248], (hM C s10), 0, 0)) rfl ?_
      refine r_gR odX7_orders rfl rfl (md_18 hC) ?_
      refine mB_run odX7_orders 1 (g := (66, [(0, .ref 239), (1, .int x1), (2, .int x2)], [.int x2, .ref 256, .int (((24 : Int32) * x1) + x2), .ref 248], (hM C s10), 0, 0)) rfl ?_
      obtain ⟨v12, e13, hq⟩ := bsm hq
      refine r_aJ odX7_orders rfl (ra_18 hC e13) ?_
      refine mB_run odX7_orders 1 (g := (68, [(0, .ref 239), (1, .int x1), (2, .int x2)], [.int v12.toInt32, .int (((24 : Int32) * x1) + x2), .ref 248], (hM C s10), 0, 0)) rfl ?_
      obtain ⟨s14, e15, hq⟩ := bsm hq
      refine r_wI odX7_orders rfl (wa_8 hC e15) ?_
      refine mB_run odX7_orders 2 (g := (7, [(2, .int (x2 + (1 : Int32))), (0, .ref 239), (1, .int x1)], [], (hM C s14), 0, 0)) rfl ?_
      refine mB_lv [1, 2, 0] (lv' := [(0, .ref 239), (1, .int x1), (2, .int (x2 + (1 : Int32)))]) rfl ?_
      exact ih _ _ _ hq
def mxX7_orders (N : Nat) (p1 : Int32) (h : mS) : Option mS :=
  (mxX7_loads N p1 h).bind fun o1 =>
  mxX7_orders_7 N N p1 (0 : Int32) o1
set_option maxHeartbeats 4000000 in
set_option maxRecDepth 100000 in
theorem emX7_orders {N : Nat} {C : mh} (hC : C.length = 239) {p1 : Int32} {h : mS} {o : mS} (hq : mxX7_orders N p1 h = some o) : mC mX7_orders [.ref 239, .int p1] (hM C h) (hM C o, none) := by
  refine mC_of okX7_orders (Nat.le_of_ble_eq_true rfl) ?_
  unfold mxX7_orders at hq
  show mB _ mX7_orders (0, [(0, .ref 239), (1, .int p1)], [], (hM C h), 0, 0)
  refine mB_run odX7_orders 2 (g := (2, [(0, .ref 239), (1, .int p1)], [.int p1, .ref 239], (hM C h), 0, 0)) rfl ?_
  obtain ⟨o1, e2, hq⟩ := bsm hq
  refine mB_V (as := [.int p1]) odX7_orders okX7_loads lk_7_226 rfl (emX7_loads hC e2) (kO_at (md_O hC)) rfl rfl rfl ?_
  show mB _ mX7_orders (5, [(0, .ref 239), (1, .int p1)], [], (hM C o1), 0, 0)
  refine mB_run odX7_orders 2 (g := (7, [(2, .int (0 : Int32)), (0, .ref 239), (1, .int p1)], [], (hM C o1), 0, 0)) rfl ?_
  refine mB_lv [1, 2, 0] (lv' := [(0, .ref 239), (1, .int p1), (2, .int (0 : Int32))]) rfl ?_
  exact emX7_orders_7 hC N _ _ _ hq
def mxX7_mirror_110 (N : Nat) (rec27 : Int32 → Int32 → Int32 → mS → Option (mS × Int32)) (x1 : Int32) (x2 : Int32) (x3 : Int32) (h : mS) : Option (mS × Int32) :=
  rec27 x1 x2 (x3 + (1 : Int32)) h
set_option maxHeartbeats 4000000 in
set_option maxRecDepth 100000 in
theorem emX7_mirror_110 {N : Nat} {C : mh} (hC : C.length = 239) {rec27 : Int32 → Int32 → Int32 → mS → Option (mS × Int32)} (hrec27 : ∀ (x1 : Int32) (x2 : Int32) (x3 : Int32) (h : mS) {o : (mS × Int32)}, rec27 x1 x2 x3 h = some o → mB (gO mX7_mirror (hM C o.1, some (.int o.2))) mX7_mirror (27, [(0, .ref 239), (1, .int x1), (2, .int x2), (3, .int x3)], [], (hM C h), 0, 0)) (x1 : Int32) (x2 : Int32) (x3 : Int32) (h : mS) {o : (mS × Int32)} (hq : mxX7_mirror_110 N rec27 x1 x2 x3 h = some o) : mB (gO mX7_mirror (hM C o.1, some (.int o.2))) mX7_mirror (110, [(0, .ref 239), (1, .int x1), (2, .int x2), (3, .int x3)], [], (hM C h), 0, 0) := by
  unfold mxX7_mirror_110 at hq
  refine mB_run odX7_mirror 2 (g := (27, [(3, .int (x3 + (1 : Int32))), (0, .ref 239), (1, .int x1), (2, .int x2)], [], (hM C h), 0, 0)) rfl ?_
  refine mB_lv [1, 2, 3, 0] (lv' := [(0, .ref 239), (1, .int x1), (2, .int x2), (3, .int (x3 + (1 : Int32)))]) rfl ?_
  exact hrec27 _ _ _ _ hq
def mxX7_mirror_97 (N : Nat) (rec27 : Int32 → Int32 → Int32 → mS → Option (mS × Int32)) (x1 : Int32) (x2 : Int32) (x3 : Int32) (h : mS) : Option (mS × Int32) :=
  (rA h 8 x3).bind fun v19 =>
  (wA h 8 x3 (-v19)).bind fun s21 =>
  mxX7_mirror_110 N rec27 x1 x2 x3 s21
set_option maxHeartbeats 4000000 in
set_option maxRecDepth 100000 in
theorem emX7_mirror_97 {N : Nat} {C : mh} (hC : C.length = 239) {rec27 : Int32 → Int32 → Int32 → mS → Option (mS × Int32)} (hrec27 : ∀ (x1 : Int32) (x2 : Int32) (x3 : Int32) (h : mS) {o : (mS × Int32)}, rec27 x1 x2 x3 h = some o → mB (gO mX7_mirror (hM C o.1, some (.int o.2))) mX7_mirror (27, [(0, .ref 239), (1, .int x1), (2, .int x2), (3, .int x3)], [], (hM C h), 0, 0)) (x1 : Int32) (x2 : Int32) (x3 : Int32) (h : mS) {o : (mS × Int32)} (hq : mxX7_mirror_97 N rec27 x1 x2 x3 h = some o) : mB (gO mX7_mirror (hM C o.1, some (.int o.2))) mX7_mirror (97, [(0, .ref 239), (1, .int x1), (2, .int x2), (3, .int x3)], [], (hM C h), 0, 0) := by
  unfold mxX7_mirror_97 at hq
  refine mB_run odX7_mirror 1 (g := (98, [(0, .ref 239), (1, .int x1), (2, .int x2), (3, .int x3)], [.ref 239], (hM C h), 0, 0)) rfl ?_
  refine r_gR odX7_mirror rfl rfl (md_8 hC) ?_
  refine mB_run odX7_mirror 2 (g := (103, [(0, .ref 239), (1, .int x1), (2, .int x2), (3, .int x3)], [.ref 239, .int x3, .ref 248], (hM C h), 0, 0)) rfl ?_
  refine r_gR odX7_mirror rfl rfl (md_8 hC) ?_
  refine mB_run odX7_mirror 1 (g := (107, [(0, .ref 239), (1, .int x1), (2, .int x2), (3, .int x3)], [.int x3, .ref 248, .int x3, .ref 248], (hM C h), 0, 0)) rfl ?_
  obtain ⟨v19, e20, hq⟩ := bsm hq
  refine r_aI odX7_mirror rfl (ra_8 hC e20) ?_
  refine mB_run odX7_mirror 1 (g := (109, [(0, .ref 239), (1, .int x1), (2, .int x2), (3, .int x3)], [.int (-v19), .int x3, .ref 248], (hM C h), 0, 0)) rfl ?_
  obtain ⟨s21, e22, hq⟩ := bsm hq
  refine r_wI odX7_mirror rfl (wa_8 hC e22) ?_
  refine mB_lv [0, 1, 2, 3] (lv' := [(0, .ref 239), (1, .int x1), (2, .int x2), (3, .int x3)]) rfl ?_
  exact emX7_mirror_110 hC hrec27 _ _ _ _ hq
def mxX7_mirror_87 (N : Nat) (rec27 : Int32 → Int32 → Int32 → mS → Option (mS × Int32)) (x1 : Int32) (x2 : Int32) (x3 : Int32) (h : mS) : Option (mS × Int32) :=
  if x2 = (2 : Int32) then (
    mxX7_mirror_97 N rec27 x1 x2 x3 h) else (
    if x2 = (3 : Int32) then (
      mxX7_mirror_97 N rec27 x1 x2 x3 h) else (
      mxX7_mirror_110 N rec27 x1 x2 x3 h))
set_option maxHeartbeats 4000000 in
set_option maxRecDepth 100000 in
theorem emX7_mirror_87 {N : Nat} {C : mh} (hC : C.length = 239) {rec27 : Int32 → Int32 → Int32 → mS → Option (mS × Int32)} (hrec27 : ∀ (x1 : Int32) (x2 : Int32) (x3 : Int32) (h : mS) {o : (mS × Int32)}, rec27 x1 x2 x3 h = some o → mB (gO mX7_mirror (hM C o.1, some (.int o.2))) mX7_mirror (27, [(0, .ref 239), (1, .int x1), (2, .int x2), (3, .int x3)], [], (hM C h), 0, 0)) (x1 : Int32) (x2 : Int32) (x3 : Int32) (h : mS) {o : (mS × Int32)} (hq : mxX7_mirror_87 N rec27 x1 x2 x3 h = some o) : mB (gO mX7_mirror (hM C o.1, some (.int o.2))) mX7_mirror (87, [(0, .ref 239), (1, .int x1), (2, .int x2), (3, .int x3)], [], (hM C h), 0, 0) := by
  unfold mxX7_mirror_87 at hq
  refine mB_run odX7_mirror 2 (g := (89, [(0, .ref 239), (1, .int x1), (2, .int x2), (3, .int x3)], [.int (2 : Int32), .int x2], (hM C h), 0, 0)) rfl ?_
  by_cases c17 : x2 = (2 : Int32)
  · rw [if_pos c17] at hq
    refine ic_eq_T (t := 97) odX7_mirror rfl rfl c17 ?_
    refine mB_lv [0, 1, 2, 3] (lv' := [(0, .ref 239), (1, .int x1), (2, .int x2), (3, .int x3)]) rfl ?_
    exact emX7_mirror_97 hC hrec27 _ _ _ _ hq
  · rw [if_neg c17] at hq
    refine ic_eq_F (t := 97) odX7_mirror rfl rfl c17 ?_
    refine mB_run odX7_mirror 2 (g := (94, [(0, .ref 239), (1, .int x1), (2, .int x2), (3, .int x3)], [.int (3 : Int32), .int x2], (hM C h), 0, 0)) rfl ?_
    by_cases c18 : x2 = (3 : Int32)
    · rw [if_pos c18] at hq
      refine ic_ne_F (t := 110) odX7_mirror rfl rfl c18 ?_
      refine mB_lv [0, 1, 2, 3] (lv' := [(0, .ref 239), (1, .int x1), (2, .int x2), (3, .int x3)]) rfl ?_
      exact emX7_mirror_97 hC hrec27 _ _ _ _ hq
    · rw [if_neg c18] at hq
      refine ic_ne_T (t := 110) odX7_mirror rfl rfl c18 ?_
      refine mB_lv [0, 1, 2, 3] (lv' := [(0, .ref 239), (1, .int x1), (2, .int x2), (3, .int x3)]) rfl ?_
      exact emX7_mirror_110 hC hrec27 _ _ _ _ hq
def mxX7_mirror_74 (N : Nat) (rec27 : Int32 → Int32 → Int32 → mS → Option (mS × Int32)) (x1 : Int32) (x2 : Int32) (x3 : Int32) (h : mS) : Option (mS × Int32) :=
  (rA h 7 x3).bind fun v23 =>
  (wA h 7 x3 (-v23)).bind fun s25 =>
  mxX7_mirror_87 N rec27 x1 x2 x3 s25
set_option maxHeartbeats 4000000 in
set_option maxRecDepth 100000 in
theorem emX7_mirror_74 {N : Nat} {C : mh} (hC : C.length = 239) {rec27 : Int32 → Int32 → Int32 → mS → Option (mS × Int32)} (hrec27 : ∀ (x1 : Int32) (x2 : Int32) (x3 : Int32) (h : mS) {o : (mS × Int32)}, rec27 x1 x2 x3 h = some o → mB (gO mX7_mirror (hM C o.1, some (.int o.2))) mX7_mirror (27, [(0, .ref 239), (1, .int x1), (2, .int x2), (3, .int x3)], [], (hM C h), 0, 0)) (x1 : Int32) (x2 : Int32) (x3 : Int32) (h : mS) {o : (mS × Int32)} (hq : mxX7_mirror_74 N rec27 x1 x2 x3 h = some o) : mB (gO mX7_mirror (hM C o.1, some (.int o.2))) mX7_mirror (74, [(0, .ref 239), (1, .int x1), (2, .int x2), (3, .int x3)], [], (hM C h), 0, 0) := by
  unfold mxX7_mirror_74 at hq
  refine mB_run odX7_mirror 1 (g := (75, [(0, .ref 239), (1, .int x1), (2, .int x2), (3, .int x3)], [.ref 239], (hM C h), 0, 0)) rfl ?_
  refine r_gR odX7_mirror rfl rfl (md_7 hC) ?_
  refine mB_run odX7_mirror 2 (g := (80, [(0, .ref 239), (1, .int x1), (2, .int x2), (3, .int x3)], [.ref 239, .int x3, .ref 247], (hM C h), 0, 0)) rfl ?_
  refine r_gR odX7_mirror rfl rfl (md_7 hC) ?_
  refine mB_run odX7_mirror 1 (g := (84, [(0, .ref 239), (1, .int x1), (2, .int x2), (3, .int x3)], [.int x3, .ref 247, .int x3, .ref 247], (hM C h), 0, 0)) rfl ?_
  obtain ⟨v23, e24, hq⟩ := bsm hq
  refine r_aI odX7_mirror rfl (ra_7 hC e24) ?_
  refine mB_run odX7_mirror 1 (g := (86, [(0, .ref 239), (1, .int x1), (2, .int x2), (3, .int x3)], [.int (-v23), .int x3, .ref 247], (hM C h), 0, 0)) rfl ?_
  obtain ⟨s25, e26, hq⟩ := bsm hq
  refine r_wI odX7_mirror rfl (wa_7 hC e26) ?_
  refine mB_lv [0, 1, 2, 3] (lv' := [(0, .ref 239), (1, .int x1), (2, .int x2), (3, .int x3)]) rfl ?_
  exact emX7_mirror_87 hC hrec27 _ _ _ _ hq
def mxX7_mirror_64 (N : Nat) (rec27 : Int32 → Int32 → Int32 → mS → Option (mS × Int32)) (x1 : Int32) (x2 : Int32) (x3 : Int32) (h : mS) : Option (mS × Int32) :=
  if x2 = (1 : Int32) then (
    mxX7_mirror_74 N rec27 x1 x2 x3 h) else (
    if x2 = (3 : Int32) then (
      mxX7_mirror_74 N rec27 x1 x2 x3 h) else (
      mxX7_mirror_87 N rec27 x1 x2 x3 h))
set_option maxHeartbeats 4000000 in
set_option maxRecDepth 100000 in
theorem emX7_mirror_64 {N : Nat} {C : mh} (hC : C.length = 239) {rec27 : Int32 → Int32 → Int32 → mS → Option (mS × Int32)} (hrec27 : ∀ (x1 : Int32) (x2 : Int32) (x3 : Int32) (h : mS) {o : (mS × Int32)}, rec27 x1 x2 x3 h = some o → mB (gO mX7_mirror (hM C o.1, some (.int o.2))) mX7_mirror (27, [(0, .ref 239), (1, .int x1), (2, .int x2), (3, .int x3)], [], (hM C h), 0, 0)) (x1 : Int32) (x2 : Int32) (x3 : Int32) (h : mS) {o : (mS × Int32)} (hq : mxX7_mirror_64 N rec27 x1 x2 x3 h = some o) : mB (gO mX7_mirror (hM C o.1, some (.int o.2))) mX7_mirror (64, [(0, .ref 239), (1, .int x1), (2, .int x2), (3, .int x3)], [], (hM C h), 0, 0) := by
  unfold mxX7_mirror_64 at hq
  refine mB_run odX7_mirror 2 (g := (66, [(0, .ref 239), (1, .int x1), (2, .int x2), (3, .int x3)], [.int (1 : Int32), .int x2], (hM C h), 0, 0)) rfl ?_
  by_cases c15 : x2 = (1 : Int32)
  · rw [if_pos c15] at hq
    refine ic_eq_T (t := 74) odX7_mirror rfl rfl c15 ?_
    refine mB_lv [0, 1, 2, 3] (lv' := [(0, .ref 239), (1, .int x1), (2, .int x2), (3, .int x3)]) rfl ?_
    exact emX7_mirror_74 hC hrec27 _ _ _ _ hq
  · rw [if_neg c15] at hq
    refine ic_eq_F (t := 74) odX7_mirror rfl rfl c15 ?_
    refine mB_run odX7_mirror 2 (g := (71, [(0, .ref 239), (1, .int x1), (2, .int x2), (3, .int x3)], [.int (3 : Int32), .int x2], (hM C h), 0, 0)) rfl ?_
    by_cases c16 : x2 = (3 : Int32)
    · rw [if_pos c16] at hq
      refine ic_ne_F (t := 87) odX7_mirror rfl rfl c16 ?_
      refine mB_lv [0, 1, 2, 3] (lv' := [(0, .ref 239), (1, .int x1), (2, .int x2), (3, .int x3)]) rfl ?_
      exact emX7_mirror_74 hC hrec27 _ _ _ _ hq
    · rw [if_neg c16] at hq
      refine ic_ne_T (t := 87) odX7_mirror rfl rfl c16 ?_
      refine mB_lv [0, 1, 2, 3] (lv' := [(0, .ref 239), (1, .int x1), (2, .int x2), (3, .int x3)]) rfl ?_
      exact emX7_mirror_87 hC hrec27 _ _ _ _ hq
def mxX7_mirror_51 (N : Nat) (rec27 : Int32 → Int32 → Int32 → mS → Option (mS × Int32)) (x1 : Int32) (x2 : Int32) (x3 : Int32) (h : mS) : Option (mS × Int32) :=
  (rA h 6 x3).bind fun v27 =>
  (wA h 6 x3 (-v27)).bind fun s29 =>
  mxX7_mirror_64 N rec27 x1 x2 x3 s29
set_option maxHeartbeats 4000000 in
set_option maxRecDepth 100000 in
theorem emX7_mirror_51 {N : Nat} {C : mh} (hC : C.length = 239) {rec27 : Int32 → Int32 → Int32 → mS → Option (mS × Int32)} (hrec27 : ∀ (x1 : Int32) (x2 : Int32) (x3 : Int32) (h : mS) {o : (mS × Int32)}, rec27 x1 x2 x3 h = some o → mB (gO mX7_mirror (hM C o.1, some (.int o.2))) mX7_mirror (27, [(0, .ref 239), (1, .int x1), (2, .int x2), (3, .int x3)], [], (hM C h), 0, 0)) (x1 : Int32) (x2 : Int32) (x3 : Int32) (h : mS) {o : (mS × Int32)} (hq : mxX7_mirror_51 N rec27 x1 x2 x3 h = some o) : mB (gO mX7_mirror (hM C o.1, some (.int o.2))) mX7_mirror (51, [(0, .ref 239), (1, .int x1), (2, .int x2), (3, .int x3)], [], (hM C h), 0, 0) := by
  unfold mxX7_mirror_51 at hq
  refine mB_run odX7_mirror 1 (g := (52, [(0, .ref 239), (1, .int x1), (2, .int x2), (3, .int x3)], [.ref 239], (hM C h), 0, 0)) rfl ?_
  refine r_gR odX7_mirror rfl rfl (md_6 hC) ?_
  refine mB_run odX7_mirror 2 (g := (57, [(0, .ref 239), (1, .int x1), (2, .int x2), (3, .int x3)], [.ref 239, .int x3, .ref 246], (hM C h), 0, 0)) rfl ?_
  refine r_gR odX7_mirror rfl rfl (md_6 hC) ?_
  refine mB_run odX7_mirror 1 (g := (61, [(0, .ref 239), (1, .int x1), (2, .int x2), (3, .int x3)], [.int x3, .ref 246, .int x3, .ref 246], (hM C h), 0, 0)) rfl ?_
  obtain ⟨v27, e28, hq⟩ := bsm hq
  refine r_aI odX7_mirror rfl (ra_6 hC e28) ?_
  refine mB_run odX7_mirror 1 (g := (63, [(0, .ref 239), (1, .int x1), (2, .int x2), (3, .int x3)], [.int (-v27), .int x3, .ref 246], (hM C h), 0, 0)) rfl ?_
  obtain ⟨s29, e30, hq⟩ := bsm hq
  refine r_wI odX7_mirror rfl (wa_6 hC e30) ?_
  refine mB_lv [0, 1, 2, 3] (lv' := [(0, .ref 239), (1, .int x1), (2, .int x2), (3, .int x3)]) rfl ?_
  exact emX7_mirror_64 hC hrec27 _ _ _ _ hq
def mxX7_mirror_27 (N : Nat) : Nat → Int32 → Int32 → Int32 → mS → Option (mS × Int32)
  | 0, _, _, _, _ => none
  | n + 1, x1, x2, x3, h =>
    (rA h 4 x1).bind fun v8 =>
    if (((24 : Int32) * x1) + v8) ≤ x3 then (
      (mxX7_orders N x1 h).bind fun o11 =>
      some (o11, (1 : Int32))) else (
      if x2 = 0 then (
        mxX7_mirror_51 N (mxX7_mirror_27 N n) x1 x2 x3 h) else (
        if x2 = (3 : Int32) then (
          mxX7_mirror_51 N (mxX7_mirror_27 N n) x1 x2 x3 h) else (
          mxX7_mirror_64 N (mxX7_mirror_27 N n) x1 x2 x3 h)))
set_option maxHeartbeats 4000000 in
set_option maxRecDepth 100000 in
theorem emX7_mirror_27 {N : Nat} {C : mh} (hC : C.length = 239) : ∀ (n : Nat) (x1 : Int32) (x2 : Int32) (x3 : Int32) (h : mS) {o : (mS × Int32)}, mxX7_mirror_27 N n x1 x2 x3 h = some o → mB (gO mX7_mirror (hM C o.1, some (.int o.2))) mX7_mirror (27, [(0, .ref 239), (1, .int x1), (2, .int x2), (3, .int x3)], [], (hM C h), 0, 0) := by
  intro n
  induction n with
  | zero => intro x1 x2 x3 h o hq; cases hq
  | succ n ih =>
    intro x1 x2 x3 h o hq
    unfold mxX7_mirror_27 at hq
    refine mB_run odX7_mirror 5 (g := (33, [(0, .ref 239), (1, .int x1), (2, .int x2), (3, .int x3)], [.ref 239, .int ((24 : Int32) * x1), .int x3], (hM C h), 0, 0)) rfl ?_
    refine r_gR odX7_mirror rfl rfl (md_4 hC) ?_
    refine mB_run odX7_mirror 1 (g := (37, [(0, .ref 239), (1, .int x1), (2, .int x2), (3, .int x3)], [.int x1, .ref 244, .int ((24 : Int32) * x1), .int x3], (hM C h), 0, 0)) rfl ?_
    obtain ⟨v8, e9, hq⟩ := bsm hq
    refine r_aI odX7_mirror rfl (ra_4 hC e9) ?_
    refine mB_run odX7_mirror 1 (g := (39, [(0, .ref 239), (1, .int x1), (2, .int x2), (3, .int x3)], [.int (((24 : Int32) * x1) + v8), .int x3], (hM C h), 0, 0)) rfl ?_
    by_cases c10 : (((24 : Int32) * x1) + v8) ≤ x3
    · rw [if_pos c10] at hq
      refine ic_ge_T (t := 116) odX7_mirror rfl rfl c10 ?_
      refine mB_run odX7_mirror 2 (g := (118, [(0, .ref 239), (1, .int x1), (2, .int x2), (3, .int x3)], [.int x1, .ref 239], (hM C h), 0, 0)) rfl ?_
      obtain ⟨o11, e12, hq⟩ := bsm hq
      refine mB_V (as := [.int x1]) odX7_mirror okX7_orders lk_7_389 rfl (emX7_orders hC e12) (kO_at (md_O hC)) rfl rfl rfl ?_
      show mB _ mX7_mirror (121, [(0, .ref 239), (1, .int x1), (2, .int x2), (3, .int x3)], [], (hM C o11), 0, 0)
      refine mB_run odX7_mirror 1 (g := (122, [(0, .ref 239), (1, .int x1), (2, .int x2), (3, .int x3)], [.int (1 : Int32)], (hM C o11), 0, 0)) rfl ?_
      cases hq
      exact mB_ret odX7_mirror rfl
    · rw [if_neg c10] at hq
      refine ic_ge_F (t := 116) odX7_mirror rfl rfl c10 ?_
      refine mB_run odX7_mirror 1 (g := (43, [(0, .ref 239), (1, .int x1), (2, .int x2), (3, .int x3)], [.int x2], (hM C h), 0, 0)) rfl ?_
      by_cases c13 : x2 = 0
      · rw [if_pos c13] at hq
        refine if_eq_T (t := 51) odX7_mirror rfl rfl c13 ?_
        refine mB_lv [0, 1, 2, 3] (lv' := [(0, .ref 239), (1, .int x1), (2, .int x2), (3, .int x3)]) rfl ?_
        exact emX7_mirror_51 hC ih _ _ _ _ hq
      · rw [if_neg c13] at hq
        refine if_eq_F (t := 51) odX7_mirror rfl rfl c13 ?_
        refine mB_run odX7_mirror 2 (g := (48, [(0, .ref 239), (1, .int x1), (2, .int x2), (3, .int x3)], [.int (3 : Int32), .int x2], (hM C h), 0, 0)) rfl ?_
        by_cases c14 : x2 = (3 : Int32)
        · rw [if_pos c14] at hq
          refine ic_ne_F (t := 64) odX7_mirror rfl rfl c14 ?_
          refine mB_lv [0, 1, 2, 3] (lv' := [(0, .ref 239), (1, .int x1), (2, .int x2), (3, .int x3)]) rfl ?_
          exact emX7_mirror_51 hC ih _ _ _ _ hq
        · rw [if_neg c14] at hq
          refine ic_ne_T (t := 64) odX7_mirror rfl rfl c14 ?_
          refine mB_lv [0, 1, 2, 3] (lv' := [(0, .ref 239), (1, .int x1), (2, .int x2), (3, .int x3)]) rfl ?_
          exact emX7_mirror_64 hC ih _ _ _ _ hq
def mxX7_mirror (N : Nat) (p1 : Int32) (p2 : Int32) (h : mS) : Option (mS × Int32) :=
  (mxX7_isSolid N p1 h).bind fun o1 =>
  if o1.2 = 0 then (
    some (o1.1, (0 : Int32))) else (
    if p2 < 0 then (
      some (o1.1, (0 : Int32))) else (
      if p2 ≤ (3 : Int32) then (
        (mxX7_keeps N  o1.1).bind fun o6 =>
        mxX7_mirror_27 N N p1 p2 ((24 : Int32) * p1) o6) else (
        some (o1.1, (0 : Int32)))))
set_option maxHeartbeats 4000000 in
set_option maxRecDepth 100000 in
theorem emX7_mirror {N : Nat} {C : mh} (hC : C.length = 239) {p1 : Int32} {p2 : Int32} {h : mS} {o : (mS × Int32)} (hq : mxX7_mirror N p1 p2 h = some o) : mC mX7_mirror [.ref 239, .int p1, .int p2] (hM C h) (hM C o.1, some (.int o.2)) := by
  refine mC_of okX7_mirror (Nat.le_of_ble_eq_true rfl) ?_
  unfold mxX7_mirror at hq
  show mB _ mX7_mirror (0, [(0, .ref 239), (1, .int p1), (2, .int p2)], [], (hM C h), 0, 0)
  refine mB_run odX7_mirror 1 (g := (1, [(0, .ref 239), (1, .int p1), (2, .int p2)], [.int p1], (hM C h), 0, 0)) rfl ?_
  obtain ⟨o1, e2, hq⟩ := bsm hq
  refine mB_S (as := [.int p1]) odX7_mirror okX7_isSolid lk_7_133 rfl (emX7_isSolid hC e2) rfl rfl rfl ?_
  show mB _ mX7_mirror (4, [(0, .ref 239), (1, .int p1), (2, .int p2)], [.int o1.2], (hM C o1.1), 0, 0)
  by_cases c3 : o1.2 = 0
  · rw [if_pos c3] at hq
    refine if_eq_T (t := 16) odX7_mirror rfl rfl c3 ?_
    refine mB_run odX7_mirror 1 (g := (17, [(0, .ref 239), (1, .int p1), (2, .int p2)], [.int (0 : Int32)], (hM C o1.1), 0, 0)) rfl ?_
    cases hq
    exact mB_ret odX7_mirror rfl
  · rw [if_neg c3] at hq
    refine if_eq_F (t := 16) odX7_mirror rfl rfl c3 ?_
    refine mB_run odX7_mirror 1 (g := (8, [(0, .ref 239), (1, .int p1), (2, .int p2)], [.int p2], (hM C o1.1), 0, 0)) rfl ?_
    by_cases c4 : p2 < 0
    · rw [if_pos c4] at hq
      refine if_lt_T (t := 16) odX7_mirror rfl rfl c4 ?_
      refine mB_run odX7_mirror 1 (g := (17, [(0, .ref 239), (1, .int p1), (2, .int p2)], [.int (0 : Int32)], (hM C o1.1), 0, 0)) rfl ?_
      cases hq
      exact mB_ret odX7_mirror rfl
    · rw [if_neg c4] at hq
      refine if_lt_F (t := 16) odX7_mirror rfl rfl c4 ?_
      refine mB_run odX7_mirror 2 (g := (13, [(0, .ref 239), (1, .int p1), (2, .int p2)], [.int (3 : Int32), .int p2], (hM C o1.1), 0, 0)) rfl ?_
      by_cases c5 : p2 ≤ (3 : Int32)
      · rw [if_pos c5] at hq
        refine ic_le_T (t := 18) odX7_mirror rfl rfl c5 ?_
        refine mB_run odX7_mirror 1 (g := (19, [(0, .ref 239), (1, .int p1), (2, .int p2)], [.ref 239], (hM C o1.1), 0, 0)) rfl ?_
        obtain ⟨o6, e7, hq⟩ := bsm hq
        refine mB_V (as := []) odX7_mirror okX7_keeps lk_7_237 rfl (emX7_keeps hC e7) (kO_at (md_O hC)) rfl rfl rfl ?_
        show mB _ mX7_mirror (22, [(0, .ref 239), (1, .int p1), (2, .int p2)], [], (hM C o6), 0, 0)
        refine mB_run odX7_mirror 4 (g := (27, [(3, .int ((24 : Int32) * p1)), (0, .ref 239), (1, .int p1), (2, .int p2)], [], (hM C o6), 0, 0)) rfl ?_
        refine mB_lv [1, 2, 3, 0] (lv' := [(0, .ref 239), (1, .int p1), (2, .int p2), (3, .int ((24 : Int32) * p1))]) rfl ?_
        exact emX7_mirror_27 hC N _ _ _ _ hq
      · rw [if_neg c5] at hq
        refine ic_le_F (t := 18) odX7_mirror rfl rfl c5 ?_
        refine mB_run odX7_mirror 1 (g := (17, [(0, .ref 239), (1, .int p1), (2, .int p2)], [.int (0 : Int32)], (hM C o1.1), 0, 0)) rfl ?_
        cases hq
        exact mB_ret odX7_mirror rfl
