def fxX7_through_87 (N : Nat) (x0 : Nat) (x1 : Int32) (x2 : Int32) (x3 : Int32) (x4 : Int32) (x9 : Int64) (s0 : Int64) (h : mh) : Option mh :=
  (gR h x0 7 43).bind fun v23 =>
  (aJ h v23 x1).bind fun v25 =>
  (gR h x0 7 43).bind fun v27 =>
  (aJ h v27 x2).bind fun v29 =>
  (gR h x0 7 44).bind fun v31 =>
  (aJ h v31 x1).bind fun v33 =>
  (gR h x0 7 44).bind fun v35 =>
  (aJ h v35 x2).bind fun v37 =>
  (gR h x0 7 45).bind fun v39 =>
  (aJ h v39 x1).bind fun v41 =>
  (gR h x0 7 45).bind fun v43 =>
  (aJ h v43 x2).bind fun v45 =>
  (kO h x0 7).bind fun f49 =>
  (fxX7_points N x0 ((v25 * s0) + (v29 * x9)) ((v33 * s0) + (v37 * x9)) ((v41 * s0) + (v45 * x9)) (x9 + s0) h).bind fun o47 =>
  (kO o47 x0 7).bind fun f53 =>
  (fxX7_isOver N x0 x3 x4 o47).bind fun o51 =>
  if o51.2 = 0 then (
    some o51.1) else (
    (kO o51.1 x0 7).bind fun f58 =>
    (fxX7_tries N x0 (0 : Int64) (1 : Int64) o51.1).bind fun o56 =>
    some o56)
set_option maxHeartbeats 4000000 in
set_option maxRecDepth 100000 in
theorem exX7_through_87 {N : Nat} (x0 : Nat) (x1 : Int32) (x2 : Int32) (x3 : Int32) (x4 : Int32) (x9 : Int64) (s0 : Int64) (h : mh) {o : mh} (hq : fxX7_through_87 N x0 x1 x2 x3 x4 x9 s0 h = some o) : mB (gO mX7_through (o, none)) mX7_through (87, [(0, .ref x0), (1, .int x1), (2, .int x2), (3, .int x3), (4, .int x4), (9, .long x9)], [.long s0], h, 0, 0) := by
  unfold fxX7_through_87 at hq
  refine mB_run odX7_through 3 (g := (91, [(11, .long s0), (0, .ref x0), (1, .int x1), (2, .int x2), (3, .int x3), (4, .int x4), (9, .long x9)], [.ref x0, .ref x0], h, 0, 0)) rfl ?_
  obtain ⟨v23, e24, hq⟩ := bsm hq
  refine r_gR odX7_through rfl rfl e24 ?_
  refine mB_run odX7_through 1 (g := (95, [(11, .long s0), (0, .ref x0), (1, .int x1), (2, .int x2), (3, .int x3), (4, .int x4), (9, .long x9)], [.int x1, .ref v23, .ref x0], h, 0, 0)) rfl ?_
  obtain ⟨v25, e26, hq⟩ := bsm hq
  refine r_aJ odX7_through rfl e26 ?_
  refine mB_run odX7_through 3 (g := (100, [(11, .long s0), (0, .ref x0), (1, .int x1), (2, .int x2), (3, .int x3), (4, .int x4), (9, .long x9)], [.ref x0, .long (v25 * s0), .ref x0], h, 0, 0)) rfl ?_
  obtain ⟨v27, e28, hq⟩ := bsm hq
  refine r_gR odX7_through rfl rfl e28 ?_
  refine mB_run odX7_through 1 (g := (104, [(11, .long s0), (0, .ref x0), (1, .int x1), (2, .int x2), (3, .int x3), (4, .int x4), (9, .long x9)], [.int x2, .ref v27, .long (v25 * s0), .ref x0], h, 0, 0)) rfl ?_
  obtain ⟨v29, e30, hq⟩ := bsm hq
  refine r_aJ odX7_through rfl e30 ?_
  refine mB_run odX7_through 4 (g := (110, [(11, .long s0), (0, .ref x0), (1, .int x1), (2, .int x2), (3, .int x3), (4, .int x4), (9, .long x9)], [.ref x0, .long ((v25 * s0) + (v29 * x9)), .ref x0], h, 0, 0)) rfl ?_
  obtain ⟨v31, e32, hq⟩ := bsm hq
  refine r_gR odX7_through rfl rfl e32 ?_
  refine mB_run odX7_through 1 (g := (114, [(11, .long s0), (0, .ref x0), (1, .int x1), (2, .int x2), (3, .int x3), (4, .int x4), (9, .long x9)], [.int x1, .ref v31, .long ((v25 * s0) + (v29 * x9)), .ref x0], h, 0, 0)) rfl ?_
  obtain ⟨v33, e34, hq⟩ := bsm hq
  refine r_aJ odX7_through rfl e34 ?_
  refine mB_run odX7_through 3 (g := (119, [(11, .long s0), (0, .ref x0), (1, .int x1), (2, .int x2), (3, .int x3), (4, .int x4), (9, .long x9)], [.ref x0, .long (v33 * s0), .long ((v25 * s0) + (v29 * x9)), .ref x0], h, 0, 0)) rfl ?_
  obtain ⟨v35, e36, hq⟩ := bsm hq
  refine r_gR odX7_through rfl rfl e36 ?_
  refine mB_run odX7_through 1 (g := (123, [(11, .long s0), (0, .ref x0), (1, .int x1), (2, .int x2), (3, .int x3), (4, .int x4), (9, .long x9)], [.int x2, .ref v35, .long (v33 * s0), .long ((v25 * s0) + (v29 * x9)), .ref x0], h, 0, 0)) rfl ?_
  obtain ⟨v37, e38, hq⟩ := bsm hq
  refine r_aJ odX7_through rfl e38 ?_
  refine mB_run odX7_through 4 (g := (129, [(11, .long s0), (0, .ref x0), (1, .int x1), (2, .int x2), (3, .int x3), (4, .int x4), (9, .long x9)], [.ref x0, .long ((v33 * s0) + (v37 * x9)), .long ((v25 * s0) + (v29 * x9)), .ref x0], h, 0, 0)) rfl ?_
  obtain ⟨v39, e40, hq⟩ := bsm hq
  refine r_gR odX7_through rfl rfl e40 ?_
  refine mB_run odX7_through 1 (g := (133, [(11, .long s0), (0, .ref x0), (1, .int x1), (2, .int x2), (3, .int x3), (4, .int x4), (9, .long x9)], [.int x1, .ref v39, .long ((v33 * s0) + (v37 * x9)), .long ((v25 * s0) + (v29 * x9)), .ref x0], h, 0, 0)) rfl ?_
  obtain ⟨v41, e42, hq⟩ := bsm hq
  refine r_aJ odX7_through rfl e42 ?_
  refine mB_run odX7_through 3 (g := (138, [(11, .long s0), (0, .ref x0), (1, .int x1), (2, .int x2), (3, .int x3), (4, .int x4), (9, .long x9)], [.ref x0, .long (v41 * s0), .long ((v33 * s0) + (v37 * x9)), .long ((v25 * s0) + (v29 * x9)), .ref x0], h, 0, 0)) rfl ?_
  obtain ⟨v43, e44, hq⟩ := bsm hq
  refine r_gR odX7_through rfl rfl e44 ?_
  refine mB_run odX7_through 1 (g := (142, [(11, .long s0), (0, .ref x0), (1, .int x1), (2, .int x2), (3, .int x3), (4, .int x4), (9, .long x9)], [.int x2, .ref v43, .long (v41 * s0), .long ((v33 * s0) + (v37 * x9)), .long ((v25 * s0) + (v29 * x9)), .ref x0], h, 0, 0)) rfl ?_
  obtain ⟨v45, e46, hq⟩ := bsm hq
  refine r_aJ odX7_through rfl e46 ?_
  refine mB_run odX7_through 6 (g := (152, [(11, .long s0), (0, .ref x0), (1, .int x1), (2, .int x2), (3, .int x3), (4, .int x4), (9, .long x9)], [.long (x9 + s0), .long ((v41 * s0) + (v45 * x9)), .long ((v33 * s0) + (v37 * x9)), .long ((v25 * s0) + (v29 * x9)), .ref x0], h, 0, 0)) rfl ?_
  obtain ⟨f49, k50, hq⟩ := bsm hq
  obtain ⟨o47, e48, hq⟩ := bsm hq
  refine mB_V (as := [.long ((v25 * s0) + (v29 * x9)), .long ((v33 * s0) + (v37 * x9)), .long ((v41 * s0) + (v45 * x9)), .long (x9 + s0)]) odX7_through okX7_points lk_7_281 rfl (exX7_points e48) (kO_at k50) rfl rfl rfl ?_
  show mB _ mX7_through (155, [(11, .long s0), (0, .ref x0), (1, .int x1), (2, .int x2), (3, .int x3), (4, .int x4), (9, .long x9)], [], o47, 0, 0)
  refine mB_run odX7_through 3 (g := (159, [(11, .long s0), (0, .ref x0), (1, .int x1), (2, .int x2), (3, .int x3), (4, .int x4), (9, .long x9)], [.int x4, .int x3, .ref x0], o47, 0, 0)) rfl ?_
  obtain ⟨f53, k54, hq⟩ := bsm hq
  obtain ⟨o51, e52, hq⟩ := bsm hq
  refine mB_V (as := [.int x3, .int x4]) odX7_through okX7_isOver lk_7_271 rfl (exX7_isOver e52) (kO_at k54) rfl rfl rfl ?_
  show mB _ mX7_through (162, [(11, .long s0), (0, .ref x0), (1, .int x1), (2, .int x2), (3, .int x3), (4, .int x4), (9, .long x9)], [.int o51.2], o51.1, 0, 0)
  by_cases c55 : o51.2 = 0
  · rw [if_pos c55] at hq
    refine if_eq_T (t := 171) odX7_through rfl rfl c55 ?_
    cases hq
    exact mB_ret odX7_through rfl
  · rw [if_neg c55] at hq
    refine if_eq_F (t := 171) odX7_through rfl rfl c55 ?_
    refine mB_run odX7_through 3 (g := (168, [(11, .long s0), (0, .ref x0), (1, .int x1), (2, .int x2), (3, .int x3), (4, .int x4), (9, .long x9)], [.long (1 : Int64), .long (0 : Int64), .ref x0], o51.1, 0, 0)) rfl ?_
    obtain ⟨f58, k59, hq⟩ := bsm hq
    obtain ⟨o56, e57, hq⟩ := bsm hq
    refine mB_V (as := [.long (0 : Int64), .long (1 : Int64)]) odX7_through okX7_tries lk_7_327 rfl (exX7_tries e57) (kO_at k59) rfl rfl rfl ?_
    show mB _ mX7_through (171, [(11, .long s0), (0, .ref x0), (1, .int x1), (2, .int x2), (3, .int x3), (4, .int x4), (9, .long x9)], [], o56, 0, 0)
    cases hq
    exact mB_ret odX7_through rfl
def fxX7_through_70 (N : Nat) (x0 : Nat) (x1 : Int32) (x2 : Int32) (x3 : Int32) (x4 : Int32) (x7 : Int64) (s0 : Int64) (h : mh) : Option mh :=
  if (0 : Int64) ≤ x7 then (
    fxX7_through_87 N x0 x1 x2 x3 x4 s0 x7 h) else (
    fxX7_through_87 N x0 x1 x2 x3 x4 s0 (-x7) h)
set_option maxHeartbeats 4000000 in
set_option maxRecDepth 100000 in
theorem exX7_through_70 {N : Nat} (x0 : Nat) (x1 : Int32) (x2 : Int32) (x3 : Int32) (x4 : Int32) (x7 : Int64) (s0 : Int64) (h : mh) {o : mh} (hq : fxX7_through_70 N x0 x1 x2 x3 x4 x7 s0 h = some o) : mB (gO mX7_through (o, none)) mX7_through (70, [(0, .ref x0), (1, .int x1), (2, .int x2), (3, .int x3), (4, .int x4), (7, .long x7)], [.long s0], h, 0, 0) := by
  unfold fxX7_through_70 at hq
  refine mB_run odX7_through 3 (g := (75, [(9, .long s0), (0, .ref x0), (1, .int x1), (2, .int x2), (3, .int x3), (4, .int x4), (7, .long x7)], [.long (0 : Int64), .long x7], h, 0, 0)) rfl ?_
  by_cases c22 : (0 : Int64) ≤ x7
  · rw [if_pos c22] at hq
    refine lc_ge_T (t := 85) odX7_through rfl rfl rfl c22 ?_
    refine mB_run odX7_through 1 (g := (87, [(9, .long s0), (0, .ref x0), (1, .int x1), (2, .int x2), (3, .int x3), (4, .int x4), (7, .long x7)], [.long x7], h, 0, 0)) rfl ?_
    refine mB_lv [1, 2, 3, 4, 5, 0] (lv' := [(0, .ref x0), (1, .int x1), (2, .int x2), (3, .int x3), (4, .int x4), (9, .long s0)]) rfl ?_
    exact exX7_through_87 _ _ _ _ _ _ _ _ hq
  · rw [if_neg c22] at hq
    refine lc_ge_F (t := 85) odX7_through rfl rfl rfl c22 ?_
    refine mB_run odX7_through 3 (g := (87, [(9, .long s0), (0, .ref x0), (1, .int x1), (2, .int x2), (3, .int x3), (4, .int x4), (7, .long x7)], [.long (-x7)], h, 0, 0)) rfl ?_
    refine mB_lv [1, 2, 3, 4, 5, 0] (lv' := [(0, .ref x0), (1, .int x1), (2, .int x2), (3, .int x3), (4, .int x4), (9, .long s0)]) rfl ?_
    exact exX7_through_87 _ _ _ _ _ _ _ _ hq
def fxX7_through_55 (N : Nat) (x0 : Nat) (x1 : Int32) (x2 : Int32) (x3 : Int32) (x4 : Int32) (x5 : Int64) (x7 : Int64) (h : mh) : Option mh :=
  if (0 : Int64) ≤ x5 then (
    fxX7_through_70 N x0 x1 x2 x3 x4 x7 x5 h) else (
    fxX7_through_70 N x0 x1 x2 x3 x4 x7 (-x5) h)
set_option maxHeartbeats 4000000 in
set_option maxRecDepth 100000 in
theorem exX7_through_55 {N : Nat} (x0 : Nat) (x1 : Int32) (x2 : Int32) (x3 : Int32) (x4 : Int32) (x5 : Int64) (x7 : Int64) (h : mh) {o : mh} (hq : fxX7_through_55 N x0 x1 x2 x3 x4 x5 x7 h = some o) : mB (gO mX7_through (o, none)) mX7_through (55, [(0, .ref x0), (1, .int x1), (2, .int x2), (3, .int x3), (4, .int x4), (5, .long x5), (7, .long x7)], [], h, 0, 0) := by
  unfold fxX7_through_55 at hq
  refine mB_run odX7_through 2 (g := (58, [(0, .ref x0), (1, .int x1), (2, .int x2), (3, .int x3), (4, .int x4), (5, .long x5), (7, .long x7)], [.long (0 : Int64), .long x5], h, 0, 0)) rfl ?_
  by_cases c21 : (0 : Int64) ≤ x5
  · rw [if_pos c21] at hq
    refine lc_ge_T (t := 68) odX7_through rfl rfl rfl c21 ?_
    refine mB_run odX7_through 1 (g := (70, [(0, .ref x0), (1, .int x1), (2, .int x2), (3, .int x3), (4, .int x4), (5, .long x5), (7, .long x7)], [.long x5], h, 0, 0)) rfl ?_
    refine mB_lv [0, 1, 2, 3, 4, 6] (lv' := [(0, .ref x0), (1, .int x1), (2, .int x2), (3, .int x3), (4, .int x4), (7, .long x7)]) rfl ?_
    exact exX7_through_70 _ _ _ _ _ _ _ _ hq
  · rw [if_neg c21] at hq
    refine lc_ge_F (t := 68) odX7_through rfl rfl rfl c21 ?_
    refine mB_run odX7_through 3 (g := (70, [(0, .ref x0), (1, .int x1), (2, .int x2), (3, .int x3), (4, .int x4), (5, .long x5), (7, .long x7)], [.long (-x5)], h, 0, 0)) rfl ?_
    refine mB_lv [0, 1, 2, 3, 4, 6] (lv' := [(0, .ref x0), (1, .int x1), (2, .int x2), (3, .int x3), (4, .int x4), (7, .long x7)]) rfl ?_
    exact exX7_through_70 _ _ _ _ _ _ _ _ hq
def fxX7_through_40 (N : Nat) (x0 : Nat) (x1 : Int32) (x2 : Int32) (x3 : Int32) (x4 : Int32) (x5 : Int64) (x7 : Int64) (h : mh) : Option mh :=
  if (0 : Int64) < x5 then (
    fxX7_through_55 N x0 x1 x2 x3 x4 x5 x7 h) else (
    if (0 : Int64) < x7 then (
      fxX7_through_55 N x0 x1 x2 x3 x4 x5 x7 h) else (
      some h))
set_option maxHeartbeats 4000000 in
set_option maxRecDepth 100000 in
theorem exX7_through_40 {N : Nat} (x0 : Nat) (x1 : Int32) (x2 : Int32) (x3 : Int32) (x4 : Int32) (x5 : Int64) (x7 : Int64) (h : mh) {o : mh} (hq : fxX7_through_40 N x0 x1 x2 x3 x4 x5 x7 h = some o) : mB (gO mX7_through (o, none)) mX7_through (40, [(0, .ref x0), (1, .int x1), (2, .int x2), (3, .int x3), (4, .int x4), (5, .long x5), (7, .long x7)], [], h, 0, 0) := by
  unfold fxX7_through_40 at hq
  refine mB_run odX7_through 2 (g := (43, [(0, .ref x0), (1, .int x1), (2, .int x2), (3, .int x3), (4, .int x4), (5, .long x5), (7, .long x7)], [.long (0 : Int64), .long x5], h, 0, 0)) rfl ?_
  by_cases c19 : (0 : Int64) < x5
  · rw [if_pos c19] at hq
    refine lc_gt_T (t := 55) odX7_through rfl rfl rfl c19 ?_
    refine mB_lv [0, 1, 2, 3, 4, 5, 6] (lv' := [(0, .ref x0), (1, .int x1), (2, .int x2), (3, .int x3), (4, .int x4), (5, .long x5), (7, .long x7)]) rfl ?_
    exact exX7_through_55 _ _ _ _ _ _ _ _ hq
  · rw [if_neg c19] at hq
    refine lc_gt_F (t := 55) odX7_through rfl rfl rfl c19 ?_
    refine mB_run odX7_through 2 (g := (50, [(0, .ref x0), (1, .int x1), (2, .int x2), (3, .int x3), (4, .int x4), (5, .long x5), (7, .long x7)], [.long (0 : Int64), .long x7], h, 0, 0)) rfl ?_
    by_cases c20 : (0 : Int64) < x7
    · rw [if_pos c20] at hq
      refine lc_gt_T (t := 55) odX7_through rfl rfl rfl c20 ?_
      refine mB_lv [0, 1, 2, 3, 4, 5, 6] (lv' := [(0, .ref x0), (1, .int x1), (2, .int x2), (3, .int x3), (4, .int x4), (5, .long x5), (7, .long x7)]) rfl ?_
      exact exX7_through_55 _ _ _ _ _ _ _ _ hq
    · rw [if_neg c20] at hq
      refine lc_gt_F (t := 55) odX7_through rfl rfl rfl c20 ?_
      cases hq
      exact mB_ret odX7_through rfl
def fxX7_through (N : Nat) (p0 : Nat) (p1 : Int32) (p2 : Int32) (p3 : Int32) (p4 : Int32) (h : mh) : Option mh :=
  (kO h p0 7).bind fun f3 =>
  (fxX7_cornerAt N p0 p1 h).bind fun o1 =>
  (kO o1 p0 7).bind fun f7 =>
  (fxX7_overFace N p0 p4 o1).bind fun o5 =>
  (kO o5.1 p0 7).bind fun f11 =>
  (fxX7_cornerAt N p0 p2 o5.1).bind fun o9 =>
  (kO o9 p0 7).bind fun f15 =>
  (fxX7_overFace N p0 p4 o9).bind fun o13 =>
  if o5.2 < (0 : Int64) then (
    fxX7_through_40 N p0 p1 p2 p3 p4 o5.2 o13.2 o13.1) else (
    if (0 : Int64) ≤ o13.2 then (
      some o13.1) else (
      fxX7_through_40 N p0 p1 p2 p3 p4 o5.2 o13.2 o13.1))
set_option maxHeartbeats 4000000 in
set_option maxRecDepth 100000 in
theorem exX7_through {N : Nat} {p0 : Nat} {p1 : Int32} {p2 : Int32} {p3 : Int32} {p4 : Int32} {h : mh} {o : mh} (hq : fxX7_through N p0 p1 p2 p3 p4 h = some o) : mC mX7_through [.ref p0, .int p1, .int p2, .int p3, .int p4] h (o, none) := by
  refine mC_of okX7_through (Nat.le_of_ble_eq_true rfl) ?_
  unfold fxX7_through at hq
  show mB _ mX7_through (0, [(0, .ref p0), (1, .int p1), (2, .int p2), (3, .int p3), (4, .int p4)], [], h, 0, 0)
  refine mB_run odX7_through 2 (g := (2, [(0, .ref p0), (1, .int p1), (2, .int p2), (3, .int p3), (4, .int p4)], [.int p1, .ref p0], h, 0, 0)) rfl ?_
  obtain ⟨f3, k4, hq⟩ := bsm hq
  obtain ⟨o1, e2, hq⟩ := bsm hq
  refine mB_V (as := [.int p1]) odX7_through okX7_cornerAt lk_7_365 rfl (exX7_cornerAt e2) (kO_at k4) rfl rfl rfl ?_
  show mB _ mX7_through (5, [(0, .ref p0), (1, .int p1), (2, .int p2), (3, .int p3), (4, .int p4)], [], o1, 0, 0)
  refine mB_run odX7_through 2 (g := (8, [(0, .ref p0), (1, .int p1), (2, .int p2), (3, .int p3), (4, .int p4)], [.int p4, .ref p0], o1, 0, 0)) rfl ?_
  obtain ⟨f7, k8, hq⟩ := bsm hq
  obtain ⟨o5, e6, hq⟩ := bsm hq
  refine mB_V (as := [.int p4]) odX7_through okX7_overFace lk_7_268 rfl (exX7_overFace e6) (kO_at k8) rfl rfl rfl ?_
  show mB _ mX7_through (11, [(0, .ref p0), (1, .int p1), (2, .int p2), (3, .int p3), (4, .int p4)], [.long o5.2], o5.1, 0, 0)
  refine mB_run odX7_through 3 (g := (15, [(5, .long o5.2), (0, .ref p0), (1, .int p1), (2, .int p2), (3, .int p3), (4, .int p4)], [.int p2, .ref p0], o5.1, 0, 0)) rfl ?_
  obtain ⟨f11, k12, hq⟩ := bsm hq
  obtain ⟨o9, e10, hq⟩ := bsm hq
  refine mB_V (as := [.int p2]) odX7_through okX7_cornerAt lk_7_365 rfl (exX7_cornerAt e10) (kO_at k12) rfl rfl rfl ?_
  show mB _ mX7_through (18, [(5, .long o5.2), (0, .ref p0), (1, .int p1), (2, .int p2), (3, .int p3), (4, .int p4)], [], o9, 0, 0)
  refine mB_run odX7_through 2 (g := (21, [(5, .long o5.2), (0, .ref p0), (1, .int p1), (2, .int p2), (3, .int p3), (4, .int p4)], [.int p4, .ref p0], o9, 0, 0)) rfl ?_
  obtain ⟨f15, k16, hq⟩ := bsm hq
  obtain ⟨o13, e14, hq⟩ := bsm hq
  refine mB_V (as := [.int p4]) odX7_through okX7_overFace lk_7_268 rfl (exX7_overFace e14) (kO_at k16) rfl rfl rfl ?_
  show mB _ mX7_through (24, [(5, .long o5.2), (0, .ref p0), (1, .int p1), (2, .int p2), (3, .int p3), (4, .int p4)], [.long o13.2], o13.1, 0, 0)
  refine mB_run odX7_through 3 (g := (29, [(7, .long o13.2), (5, .long o5.2), (0, .ref p0), (1, .int p1), (2, .int p2), (3, .int p3), (4, .int p4)], [.long (0 : Int64), .long o5.2], o13.1, 0, 0)) rfl ?_
  by_cases c17 : o5.2 < (0 : Int64)
  · rw [if_pos c17] at hq
    refine lc_lt_T (t := 40) odX7_through rfl rfl rfl c17 ?_
    refine mB_lv [2, 3, 4, 5, 6, 1, 0] (lv' := [(0, .ref p0), (1, .int p1), (2, .int p2), (3, .int p3), (4, .int p4), (5, .long o5.2), (7, .long o13.2)]) rfl ?_
    exact exX7_through_40 _ _ _ _ _ _ _ _ hq
  · rw [if_neg c17] at hq
    refine lc_lt_F (t := 40) odX7_through rfl rfl rfl c17 ?_
    refine mB_run odX7_through 2 (g := (36, [(7, .long o13.2), (5, .long o5.2), (0, .ref p0), (1, .int p1), (2, .int p2), (3, .int p3), (4, .int p4)], [.long (0 : Int64), .long o13.2], o13.1, 0, 0)) rfl ?_
    by_cases c18 : (0 : Int64) ≤ o13.2
    · rw [if_pos c18] at hq
      refine lc_ge_T (t := 54) odX7_through rfl rfl rfl c18 ?_
      cases hq
      exact mB_ret odX7_through rfl
    · rw [if_neg c18] at hq
      refine lc_ge_F (t := 54) odX7_through rfl rfl rfl c18 ?_
      refine mB_lv [2, 3, 4, 5, 6, 1, 0] (lv' := [(0, .ref p0), (1, .int p1), (2, .int p2), (3, .int p3), (4, .int p4), (5, .long o5.2), (7, .long o13.2)]) rfl ?_
      exact exX7_through_40 _ _ _ _ _ _ _ _ hq
def fxX7_against_147 (N : Nat) (rec10 : Nat → Int32 → Int32 → Int32 → Int32 → mh → Option mh) : Nat → Nat → Int32 → Int32 → Int32 → Int32 → Int32 → mh → Option mh
  | 0, _, _, _, _, _, _, _ => none
  | n + 1, x0, x1, x2, x3, x4, x5, h =>
    (gR h x0 7 27).bind fun v45 =>
    (aI h v45 x3).bind fun v47 =>
    if (((64 : Int32) * x3) + v47) ≤ x5 then (
      rec10 x0 x1 x2 x3 (x4 + (1 : Int32)) h) else (
      (kO h x0 7).bind fun f52 =>
      (fxX7_toFace N x0 x4 x3 x5 h).bind fun o50 =>
      fxX7_against_147 N rec10 n x0 x1 x2 x3 x4 (x5 + (1 : Int32)) o50)
set_option maxHeartbeats 4000000 in
set_option maxRecDepth 100000 in
theorem exX7_against_147 {N : Nat} {rec10 : Nat → Int32 → Int32 → Int32 → Int32 → mh → Option mh} (hrec10 : ∀ (x0 : Nat) (x1 : Int32) (x2 : Int32) (x3 : Int32) (x4 : Int32) (h : mh) {o : mh}, rec10 x0 x1 x2 x3 x4 h = some o → mB (gO mX7_against (o, none)) mX7_against (10, [(0, .ref x0), (1, .int x1), (2, .int x2), (3, .int x3), (4, .int x4)], [], h, 0, 0)) : ∀ (n : Nat) (x0 : Nat) (x1 : Int32) (x2 : Int32) (x3 : Int32) (x4 : Int32) (x5 : Int32) (h : mh) {o : mh}, fxX7_against_147 N rec10 n x0 x1 x2 x3 x4 x5 h = some o → mB (gO mX7_against (o, none)) mX7_against (147, [(0, .ref x0), (1, .int x1), (2, .int x2), (3, .int x3), (4, .int x4), (5, .int x5)], [], h, 0, 0) := by
  intro n
  induction n with
  | zero => intro x0 x1 x2 x3 x4 x5 h o hq; cases hq
  | succ n ih =>
    intro x0 x1 x2 x3 x4 x5 h o hq
    unfold fxX7_against_147 at hq
    refine mB_run odX7_against 5 (g := (154, [(0, .ref x0), (1, .int x1), (2, .int x2), (3, .int x3), (4, .int x4), (5, .int x5)], [.ref x0, .int ((64 : Int32) * x3), .int x5], h, 0, 0)) rfl ?_
    obtain ⟨v45, e46, hq⟩ := bsm hq
    refine r_gR odX7_against rfl rfl e46 ?_
    refine mB_run odX7_against 1 (g := (158, [(0, .ref x0), (1, .int x1), (2, .int x2), (3, .int x3), (4, .int x4), (5, .int x5)], [.int x3, .ref v45, .int ((64 : Int32) * x3), .int x5], h, 0, 0)) rfl ?_
    obtain ⟨v47, e48, hq⟩ := bsm hq
    refine r_aI odX7_against rfl e48 ?_
    refine mB_run odX7_against 1 (g := (160, [(0, .ref x0), (1, .int x1), (2, .int x2), (3, .int x3), (4, .int x4), (5, .int x5)], [.int (((64 : Int32) * x3) + v47), .int x5], h, 0, 0)) rfl ?_
    by_cases c49 : (((64 : Int32) * x3) + v47) ≤ x5
    · rw [if_pos c49] at hq
      refine ic_ge_T (t := 178) odX7_against rfl rfl c49 ?_
      refine mB_run odX7_against 2 (g := (10, [(4, .int (x4 + (1 : Int32))), (0, .ref x0), (1, .int x1), (2, .int x2), (3, .int x3), (5, .int x5)], [], h, 0, 0)) rfl ?_
      refine mB_lv [1, 2, 3, 4, 0] (lv' := [(0, .ref x0), (1, .int x1), (2, .int x2), (3, .int x3), (4, .int (x4 + (1 : Int32)))]) rfl ?_
      exact hrec10 _ _ _ _ _ _ hq
    · rw [if_neg c49] at hq
      refine ic_ge_F (t := 178) odX7_against rfl rfl c49 ?_
      refine mB_run odX7_against 4 (g := (169, [(0, .ref x0), (1, .int x1), (2, .int x2), (3, .int x3), (4, .int x4), (5, .int x5)], [.int x5, .int x3, .int x4, .ref x0], h, 0, 0)) rfl ?_
      obtain ⟨f52, k53, hq⟩ := bsm hq
      obtain ⟨o50, e51, hq⟩ := bsm hq
      refine mB_V (as := [.int x4, .int x3, .int x5]) odX7_against okX7_toFace lk_7_374 rfl (exX7_toFace e51) (kO_at k53) rfl rfl rfl ?_
      show mB _ mX7_against (172, [(0, .ref x0), (1, .int x1), (2, .int x2), (3, .int x3), (4, .int x4), (5, .int x5)], [], o50, 0, 0)
      refine mB_run odX7_against 2 (g := (147, [(5, .int (x5 + (1 : Int32))), (0, .ref x0), (1, .int x1), (2, .int x2), (3, .int x3), (4, .int x4)], [], o50, 0, 0)) rfl ?_
      refine mB_lv [1, 2, 3, 4, 5, 0] (lv' := [(0, .ref x0), (1, .int x1), (2, .int x2), (3, .int x3), (4, .int x4), (5, .int (x5 + (1 : Int32)))]) rfl ?_
      exact ih _ _ _ _ _ _ _ hq
def fxX7_against_89 (N : Nat) (rec10 : Nat → Int32 → Int32 → Int32 → Int32 → mh → Option mh) : Nat → Nat → Int32 → Int32 → Int32 → Int32 → Int32 → mh → Option mh
  | 0, _, _, _, _, _, _, _ => none
  | n + 1, x0, x1, x2, x3, x4, x5, h =>
    (gR h x0 7 34).bind fun v28 =>
    (aI h v28 x3).bind fun v30 =>
    if (((80 : Int32) * x3) + v30) ≤ x5 then (
      fxX7_against_147 N rec10 N x0 x1 x2 x3 x4 ((64 : Int32) * x3) h) else (
      (gR h x0 7 35).bind fun v33 =>
      (aI h v33 x5).bind fun v35 =>
      (gR h x0 7 36).bind fun v37 =>
      (aI h v37 x5).bind fun v39 =>
      (kO h x0 7).bind fun f43 =>
      (fxX7_toEdge N x0 x4 (((24 : Int32) * x3) + v35) (((24 : Int32) * x3) + v39) h).bind fun o41 =>
      fxX7_against_89 N rec10 n x0 x1 x2 x3 x4 (x5 + (1 : Int32)) o41)
set_option maxHeartbeats 4000000 in
set_option maxRecDepth 100000 in
theorem exX7_against_89 {N : Nat} {rec10 : Nat → Int32 → Int32 → Int32 → Int32 → mh → Option mh} (hrec10 : ∀ (x0 : Nat) (x1 : Int32) (x2 : Int32) (x3 : Int32) (x4 : Int32) (h : mh) {o : mh}, rec10 x0 x1 x2 x3 x4 h = some o → mB (gO mX7_against (o, none)) mX7_against (10, [(0, .ref x0), (1, .int x1), (2, .int x2), (3, .int x3), (4, .int x4)], [], h, 0, 0)) : ∀ (n : Nat) (x0 : Nat) (x1 : Int32) (x2 : Int32) (x3 : Int32) (x4 : Int32) (x5 : Int32) (h : mh) {o : mh}, fxX7_against_89 N rec10 n x0 x1 x2 x3 x4 x5 h = some o → mB (gO mX7_against (o, none)) mX7_against (89, [(0, .ref x0), (1, .int x1), (2, .int x2), (3, .int x3), (4, .int x4), (5, .int x5)], [], h, 0, 0) := by
  intro n
  induction n with
  | zero => intro x0 x1 x2 x3 x4 x5 h o hq; cases hq
  | succ n ih =>
    intro x0 x1 x2 x3 x4 x5 h o hq
    unfold fxX7_against_89 at hq
    refine mB_run odX7_against 5 (g := (96, [(0, .ref x0), (1, .int x1), (2, .int x2), (3, .int x3), (4, .int x4), (5, .int x5)], [.ref x0, .int ((80 : Int32) * x3), .int x5], h, 0, 0)) rfl ?_
    obtain ⟨v28, e29, hq⟩ := bsm hq
    refine r_gR odX7_against rfl rfl e29 ?_
    refine mB_run odX7_against 1 (g := (100, [(0, .ref x0), (1, .int x1), (2, .int x2), (3, .int x3), (4, .int x4), (5, .int x5)], [.int x3, .ref v28, .int ((80 : Int32) * x3), .int x5], h, 0, 0)) rfl ?_
    obtain ⟨v30, e31, hq⟩ := bsm hq
    refine r_aI odX7_against rfl e31 ?_
    refine mB_run odX7_against 1 (g := (102, [(0, .ref x0), (1, .int x1), (2, .int x2), (3, .int x3), (4, .int x4), (5, .int x5)], [.int (((80 : Int32) * x3) + v30), .int x5], h, 0, 0)) rfl ?_
    by_cases c32 : (((80 : Int32) * x3) + v30) ≤ x5
    · rw [if_pos c32] at hq
      refine ic_ge_T (t := 141) odX7_against rfl rfl c32 ?_
      refine mB_run odX7_against 4 (g := (147, [(5, .int ((64 : Int32) * x3)), (0, .ref x0), (1, .int x1), (2, .int x2), (3, .int x3), (4, .int x4)], [], h, 0, 0)) rfl ?_
      refine mB_lv [1, 2, 3, 4, 5, 0] (lv' := [(0, .ref x0), (1, .int x1), (2, .int x2), (3, .int x3), (4, .int x4), (5, .int ((64 : Int32) * x3))]) rfl ?_
      exact exX7_against_147 hrec10 N _ _ _ _ _ _ _ hq
    · rw [if_neg c32] at hq
      refine ic_ge_F (t := 141) odX7_against rfl rfl c32 ?_
      refine mB_run odX7_against 6 (g := (113, [(0, .ref x0), (1, .int x1), (2, .int x2), (3, .int x3), (4, .int x4), (5, .int x5)], [.ref x0, .int ((24 : Int32) * x3), .int x4, .ref x0], h, 0, 0)) rfl ?_
      obtain ⟨v33, e34, hq⟩ := bsm hq
      refine r_gR odX7_against rfl rfl e34 ?_
      refine mB_run odX7_against 1 (g := (118, [(0, .ref x0), (1, .int x1), (2, .int x2), (3, .int x3), (4, .int x4), (5, .int x5)], [.int x5, .ref v33, .int ((24 : Int32) * x3), .int x4, .ref x0], h, 0, 0)) rfl ?_
      obtain ⟨v35, e36, hq⟩ := bsm hq
      refine r_aI odX7_against rfl e36 ?_
      refine mB_run odX7_against 5 (g := (125, [(0, .ref x0), (1, .int x1), (2, .int x2), (3, .int x3), (4, .int x4), (5, .int x5)], [.ref x0, .int ((24 : Int32) * x3), .int (((24 : Int32) * x3) + v35), .int x4, .ref x0], h, 0, 0)) rfl ?_
      obtain ⟨v37, e38, hq⟩ := bsm hq
      refine r_gR odX7_against rfl rfl e38 ?_
      refine mB_run odX7_against 1 (g := (130, [(0, .ref x0), (1, .int x1), (2, .int x2), (3, .int x3), (4, .int x4), (5, .int x5)], [.int x5, .ref v37, .int ((24 : Int32) * x3), .int (((24 : Int32) * x3) + v35), .int x4, .ref x0], h, 0, 0)) rfl ?_
      obtain ⟨v39, e40, hq⟩ := bsm hq
      refine r_aI odX7_against rfl e40 ?_
      refine mB_run odX7_against 1 (g := (132, [(0, .ref x0), (1, .int x1), (2, .int x2), (3, .int x3), (4, .int x4), (5, .int x5)], [.int (((24 : Int32) * x3) + v39), .int (((24 : Int32) * x3) + v35), .int x4, .ref x0], h, 0, 0)) rfl ?_
      obtain ⟨f43, k44, hq⟩ := bsm hq
      obtain ⟨o41, e42, hq⟩ := bsm hq
      refine mB_V (as := [.int x4, .int (((24 : Int32) * x3) + v35), .int (((24 : Int32) * x3) + v39)]) odX7_against okX7_toEdge lk_7_371 rfl (exX7_toEdge e42) (kO_at k44) rfl rfl rfl ?_
      show mB _ mX7_against (135, [(0, .ref x0), (1, .int x1), (2, .int x2), (3, .int x3), (4, .int x4), (5, .int x5)], [], o41, 0, 0)
      refine mB_run odX7_against 2 (g := (89, [(5, .int (x5 + (1 : Int32))), (0, .ref x0), (1, .int x1), (2, .int x2), (3, .int x3), (4, .int x4)], [], o41, 0, 0)) rfl ?_
      refine mB_lv [1, 2, 3, 4, 5, 0] (lv' := [(0, .ref x0), (1, .int x1), (2, .int x2), (3, .int x3), (4, .int x4), (5, .int (x5 + (1 : Int32)))]) rfl ?_
      exact ih _ _ _ _ _ _ _ hq
def fxX7_against_53 (N : Nat) (rec10 : Nat → Int32 → Int32 → Int32 → Int32 → mh → Option mh) : Nat → Nat → Int32 → Int32 → Int32 → Int32 → Int32 → mh → Option mh
  | 0, _, _, _, _, _, _, _ => none
  | n + 1, x0, x1, x2, x3, x4, x5, h =>
    (gR h x0 7 46).bind fun v19 =>
    (aI h v19 x3).bind fun v21 =>
    if (((24 : Int32) * x3) + v21) ≤ x5 then (
      fxX7_against_89 N rec10 N x0 x1 x2 x3 x4 ((80 : Int32) * x3) h) else (
      (kO h x0 7).bind fun f26 =>
      (fxX7_toCorner N x0 x4 x5 h).bind fun o24 =>
      fxX7_against_53 N rec10 n x0 x1 x2 x3 x4 (x5 + (1 : Int32)) o24)
set_option maxHeartbeats 4000000 in
set_option maxRecDepth 100000 in
theorem exX7_against_53 {N : Nat} {rec10 : Nat → Int32 → Int32 → Int32 → Int32 → mh → Option mh} (hrec10 : ∀ (x0 : Nat) (x1 : Int32) (x2 : Int32) (x3 : Int32) (x4 : Int32) (h : mh) {o : mh}, rec10 x0 x1 x2 x3 x4 h = some o → mB (gO mX7_against (o, none)) mX7_against (10, [(0, .ref x0), (1, .int x1), (2, .int x2), (3, .int x3), (4, .int x4)], [], h, 0, 0)) : ∀ (n : Nat) (x0 : Nat) (x1 : Int32) (x2 : Int32) (x3 : Int32) (x4 : Int32) (x5 : Int32) (h : mh) {o : mh}, fxX7_against_53 N rec10 n x0 x1 x2 x3 x4 x5 h = some o → mB (gO mX7_against (o, none)) mX7_against (53, [(0, .ref x0), (1, .int x1), (2, .int x2), (3, .int x3), (4, .int x4), (5, .int x5)], [], h, 0, 0) := by
  intro n
  induction n with
  | zero => intro x0 x1 x2 x3 x4 x5 h o hq; cases hq
  | succ n ih =>
    intro x0 x1 x2 x3 x4 x5 h o hq
    unfold fxX7_against_53 at hq
    refine mB_run odX7_against 5 (g := (60, [(0, .ref x0), (1, .int x1), (2, .int x2), (3, .int x3), (4, .int x4), (5, .int x5)], [.ref x0, .int ((24 : Int32) * x3), .int x5], h, 0, 0)) rfl ?_
    obtain ⟨v19, e20, hq⟩ := bsm hq
    refine r_gR odX7_against rfl rfl e20 ?_
    refine mB_run odX7_against 1 (g := (64, [(0, .ref x0), (1, .int x1), (2, .int x2), (3, .int x3), (4, .int x4), (5, .int x5)], [.int x3, .ref v19, .int ((24 : Int32) * x3), .int x5], h, 0, 0)) rfl ?_
    obtain ⟨v21, e22, hq⟩ := bsm hq
    refine r_aI odX7_against rfl e22 ?_
    refine mB_run odX7_against 1 (g := (66, [(0, .ref x0), (1, .int x1), (2, .int x2), (3, .int x3), (4, .int x4), (5, .int x5)], [.int (((24 : Int32) * x3) + v21), .int x5], h, 0, 0)) rfl ?_
    by_cases c23 : (((24 : Int32) * x3) + v21) ≤ x5
    · rw [if_pos c23] at hq
      refine ic_ge_T (t := 83) odX7_against rfl rfl c23 ?_
      refine mB_run odX7_against 4 (g := (89, [(5, .int ((80 : Int32) * x3)), (0, .ref x0), (1, .int x1), (2, .int x2), (3, .int x3), (4, .int x4)], [], h, 0, 0)) rfl ?_
      refine mB_lv [1, 2, 3, 4, 5, 0] (lv' := [(0, .ref x0), (1, .int x1), (2, .int x2), (3, .int x3), (4, .int x4), (5, .int ((80 : Int32) * x3))]) rfl ?_
      exact exX7_against_89 hrec10 N _ _ _ _ _ _ _ hq
    · rw [if_neg c23] at hq
      refine ic_ge_F (t := 83) odX7_against rfl rfl c23 ?_
      refine mB_run odX7_against 3 (g := (74, [(0, .ref x0), (1, .int x1), (2, .int x2), (3, .int x3), (4, .int x4), (5, .int x5)], [.int x5, .int x4, .ref x0], h, 0, 0)) rfl ?_
      obtain ⟨f26, k27, hq⟩ := bsm hq
      obtain ⟨o24, e25, hq⟩ := bsm hq
      refine mB_V (as := [.int x4, .int x5]) odX7_against okX7_toCorner lk_7_368 rfl (exX7_toCorner e25) (kO_at k27) rfl rfl rfl ?_
      show mB _ mX7_against (77, [(0, .ref x0), (1, .int x1), (2, .int x2), (3, .int x3), (4, .int x4), (5, .int x5)], [], o24, 0, 0)
      refine mB_run odX7_against 2 (g := (53, [(5, .int (x5 + (1 : Int32))), (0, .ref x0), (1, .int x1), (2, .int x2), (3, .int x3), (4, .int x4)], [], o24, 0, 0)) rfl ?_
      refine mB_lv [1, 2, 3, 4, 5, 0] (lv' := [(0, .ref x0), (1, .int x1), (2, .int x2), (3, .int x3), (4, .int x4), (5, .int (x5 + (1 : Int32)))]) rfl ?_
      exact ih _ _ _ _ _ _ _ hq
def fxX7_against_47 (N : Nat) (rec10 : Nat → Int32 → Int32 → Int32 → Int32 → mh → Option mh) (x0 : Nat) (x1 : Int32) (x2 : Int32) (x3 : Int32) (x4 : Int32) (h : mh) : Option mh :=
  fxX7_against_53 N rec10 N x0 x1 x2 x3 x4 ((24 : Int32) * x3) h
set_option maxHeartbeats 4000000 in
set_option maxRecDepth 100000 in
theorem exX7_against_47 {N : Nat} {rec10 : Nat → Int32 → Int32 → Int32 → Int32 → mh → Option mh} (hrec10 : ∀ (x0 : Nat) (x1 : Int32) (x2 : Int32) (x3 : Int32) (x4 : Int32) (h : mh) {o : mh}, rec10 x0 x1 x2 x3 x4 h = some o → mB (gO mX7_against (o, none)) mX7_against (10, [(0, .ref x0), (1, .int x1), (2, .int x2), (3, .int x3), (4, .int x4)], [], h, 0, 0)) (x0 : Nat) (x1 : Int32) (x2 : Int32) (x3 : Int32) (x4 : Int32) (h : mh) {o : mh} (hq : fxX7_against_47 N rec10 x0 x1 x2 x3 x4 h = some o) : mB (gO mX7_against (o, none)) mX7_against (47, [(0, .ref x0), (1, .int x1), (2, .int x2), (3, .int x3), (4, .int x4)], [], h, 0, 0) := by
  unfold fxX7_against_47 at hq
  refine mB_run odX7_against 4 (g := (53, [(5, .int ((24 : Int32) * x3)), (0, .ref x0), (1, .int x1), (2, .int x2), (3, .int x3), (4, .int x4)], [], h, 0, 0)) rfl ?_
  refine mB_lv [1, 2, 3, 4, 5, 0] (lv' := [(0, .ref x0), (1, .int x1), (2, .int x2), (3, .int x3), (4, .int x4), (5, .int ((24 : Int32) * x3))]) rfl ?_
  exact exX7_against_53 hrec10 N _ _ _ _ _ _ _ hq
def fxX7_against_279 (N : Nat) (rec190 : Nat → Int32 → Int32 → Int32 → mh → Option mh) : Nat → Nat → Int32 → Int32 → Int32 → Int32 → Int32 → Int32 → mh → Option mh
  | 0, _, _, _, _, _, _, _, _ => none
  | n + 1, x0, x1, x3, x4, x5, x6, x7, h =>
    (gR h x0 7 34).bind fun v76 =>
    (aI h v76 x3).bind fun v78 =>
    if (((80 : Int32) * x3) + v78) ≤ x7 then (
      rec190 x0 x1 x3 (x4 + (1 : Int32)) h) else (
      (gR h x0 7 35).bind fun v81 =>
      (aI h v81 x7).bind fun v83 =>
      (gR h x0 7 36).bind fun v85 =>
      (aI h v85 x7).bind fun v87 =>
      (kO h x0 7).bind fun f91 =>
      (fxX7_toEdges N x0 x5 x6 (((24 : Int32) * x3) + v83) (((24 : Int32) * x3) + v87) h).bind fun o89 =>
      fxX7_against_279 N rec190 n x0 x1 x3 x4 x5 x6 (x7 + (1 : Int32)) o89)
set_option maxHeartbeats 4000000 in
set_option maxRecDepth 100000 in
theorem exX7_against_279 {N : Nat} {rec190 : Nat → Int32 → Int32 → Int32 → mh → Option mh} (hrec190 : ∀ (x0 : Nat) (x1 : Int32) (x3 : Int32) (x4 : Int32) (h : mh) {o : mh}, rec190 x0 x1 x3 x4 h = some o → mB (gO mX7_against (o, none)) mX7_against (190, [(0, .ref x0), (1, .int x1), (3, .int x3), (4, .int x4)], [], h, 0, 0)) : ∀ (n : Nat) (x0 : Nat) (x1 : Int32) (x3 : Int32) (x4 : Int32) (x5 : Int32) (x6 : Int32) (x7 : Int32) (h : mh) {o : mh}, fxX7_against_279 N rec190 n x0 x1 x3 x4 x5 x6 x7 h = some o → mB (gO mX7_against (o, none)) mX7_against (279, [(0, .ref x0), (1, .int x1), (3, .int x3), (4, .int x4), (5, .int x5), (6, .int x6), (7, .int x7)], [], h, 0, 0) := by
  intro n
  induction n with
  | zero => intro x0 x1 x3 x4 x5 x6 x7 h o hq; cases hq
  | succ n ih =>
    intro x0 x1 x3 x4 x5 x6 x7 h o hq
    unfold fxX7_against_279 at hq
    refine mB_run odX7_against 5 (g := (286, [(0, .ref x0), (1, .int x1), (3, .int x3), (4, .int x4), (5, .int x5), (6, .int x6), (7, .int x7)], [.ref x0, .int ((80 : Int32) * x3), .int x7], h, 0, 0)) rfl ?_
    obtain ⟨v76, e77, hq⟩ := bsm hq
    refine r_gR odX7_against rfl rfl e77 ?_
    refine mB_run odX7_against 1 (g := (290, [(0, .ref x0), (1, .int x1), (3, .int x3), (4, .int x4), (5, .int x5), (6, .int x6), (7, .int x7)], [.int x3, .ref v76, .int ((80 : Int32) * x3), .int x7], h, 0, 0)) rfl ?_
    obtain ⟨v78, e79, hq⟩ := bsm hq
    refine r_aI odX7_against rfl e79 ?_
    refine mB_run odX7_against 1 (g := (292, [(0, .ref x0), (1, .int x1), (3, .int x3), (4, .int x4), (5, .int x5), (6, .int x6), (7, .int x7)], [.int (((80 : Int32) * x3) + v78), .int x7], h, 0, 0)) rfl ?_
    by_cases c80 : (((80 : Int32) * x3) + v78) ≤ x7
    · rw [if_pos c80] at hq
      refine ic_ge_T (t := 333) odX7_against rfl rfl c80 ?_
      refine mB_run odX7_against 2 (g := (190, [(4, .int (x4 + (1 : Int32))), (0, .ref x0), (1, .int x1), (3, .int x3), (5, .int x5), (6, .int x6), (7, .int x7)], [], h, 0, 0)) rfl ?_
      refine mB_lv [1, 2, 3, 0] (lv' := [(0, .ref x0), (1, .int x1), (3, .int x3), (4, .int (x4 + (1 : Int32)))]) rfl ?_
      exact hrec190 _ _ _ _ _ hq
    · rw [if_neg c80] at hq
      refine ic_ge_F (t := 333) odX7_against rfl rfl c80 ?_
      refine mB_run odX7_against 7 (g := (305, [(0, .ref x0), (1, .int x1), (3, .int x3), (4, .int x4), (5, .int x5), (6, .int x6), (7, .int x7)], [.ref x0, .int ((24 : Int32) * x3), .int x6, .int x5, .ref x0], h, 0, 0)) rfl ?_
      obtain ⟨v81, e82, hq⟩ := bsm hq
      refine r_gR odX7_against rfl rfl e82 ?_
      refine mB_run odX7_against 1 (g := (310, [(0, .ref x0), (1, .int x1), (3, .int x3), (4, .int x4), (5, .int x5), (6, .int x6), (7, .int x7)], [.int x7, .ref v81, .int ((24 : Int32) * x3), .int x6, .int x5, .ref x0], h, 0, 0)) rfl ?_
      obtain ⟨v83, e84, hq⟩ := bsm hq
      refine r_aI odX7_against rfl e84 ?_
      refine mB_run odX7_against 5 (g := (317, [(0, .ref x0), (1, .int x1), (3, .int x3), (4, .int x4), (5, .int x5), (6, .int x6), (7, .int x7)], [.ref x0, .int ((24 : Int32) * x3), .int (((24 : Int32) * x3) + v83), .int x6, .int x5, .ref x0], h, 0, 0)) rfl ?_
      obtain ⟨v85, e86, hq⟩ := bsm hq
      refine r_gR odX7_against rfl rfl e86 ?_
      refine mB_run odX7_against 1 (g := (322, [(0, .ref x0), (1, .int x1), (3, .int x3), (4, .int x4), (5, .int x5), (6, .int x6), (7, .int x7)], [.int x7, .ref v85, .int ((24 : Int32) * x3), .int (((24 : Int32) * x3) + v83), .int x6, .int x5, .ref x0], h, 0, 0)) rfl ?_
      obtain ⟨v87, e88, hq⟩ := bsm hq
      refine r_aI odX7_against rfl e88 ?_
      refine mB_run odX7_against 1 (g := (324, [(0, .ref x0), (1, .int x1), (3, .int x3), (4, .int x4), (5, .int x5), (6, .int x6), (7, .int x7)], [.int (((24 : Int32) * x3) + v87), .int (((24 : Int32) * x3) + v83), .int x6, .int x5, .ref x0], h, 0, 0)) rfl ?_
      obtain ⟨f91, k92, hq⟩ := bsm hq
      obtain ⟨o89, e90, hq⟩ := bsm hq
      refine mB_V (as := [.int x5, .int x6, .int (((24 : Int32) * x3) + v83), .int (((24 : Int32) * x3) + v87)]) odX7_against okX7_toEdges lk_7_380 rfl (exX7_toEdges e90) (kO_at k92) rfl rfl rfl ?_
      show mB _ mX7_against (327, [(0, .ref x0), (1, .int x1), (3, .int x3), (4, .int x4), (5, .int x5), (6, .int x6), (7, .int x7)], [], o89, 0, 0)
      refine mB_run odX7_against 2 (g := (279, [(7, .int (x7 + (1 : Int32))), (0, .ref x0), (1, .int x1), (3, .int x3), (4, .int x4), (5, .int x5), (6, .int x6)], [], o89, 0, 0)) rfl ?_
      refine mB_lv [1, 2, 3, 4, 5, 6, 0] (lv' := [(0, .ref x0), (1, .int x1), (3, .int x3), (4, .int x4), (5, .int x5), (6, .int x6), (7, .int (x7 + (1 : Int32)))]) rfl ?_
      exact ih _ _ _ _ _ _ _ _ hq
def fxX7_against_240 (N : Nat) (rec190 : Nat → Int32 → Int32 → Int32 → mh → Option mh) : Nat → Nat → Int32 → Int32 → Int32 → Int32 → Int32 → Int32 → mh → Option mh
  | 0, _, _, _, _, _, _, _, _ => none
  | n + 1, x0, x1, x3, x4, x5, x6, x7, h =>
    (gR h x0 7 27).bind fun v67 =>
    (aI h v67 x3).bind fun v69 =>
    if (((64 : Int32) * x3) + v69) ≤ x7 then (
      fxX7_against_279 N rec190 N x0 x1 x3 x4 x5 x6 ((80 : Int32) * x3) h) else (
      (kO h x0 7).bind fun f74 =>
      (fxX7_through N x0 x5 x6 x3 x7 h).bind fun o72 =>
      fxX7_against_240 N rec190 n x0 x1 x3 x4 x5 x6 (x7 + (1 : Int32)) o72)
set_option maxHeartbeats 4000000 in
set_option maxRecDepth 100000 in
theorem exX7_against_240 {N : Nat} {rec190 : Nat → Int32 → Int32 → Int32 → mh → Option mh} (hrec190 : ∀ (x0 : Nat) (x1 : Int32) (x3 : Int32) (x4 : Int32) (h : mh) {o : mh}, rec190 x0 x1 x3 x4 h = some o → mB (gO mX7_against (o, none)) mX7_against (190, [(0, .ref x0), (1, .int x1), (3, .int x3), (4, .int x4)], [], h, 0, 0)) : ∀ (n : Nat) (x0 : Nat) (x1 : Int32) (x3 : Int32) (x4 : Int32) (x5 : Int32) (x6 : Int32) (x7 : Int32) (h : mh) {o : mh}, fxX7_against_240 N rec190 n x0 x1 x3 x4 x5 x6 x7 h = some o → mB (gO mX7_against (o, none)) mX7_against (240, [(0, .ref x0), (1, .int x1), (3, .int x3), (4, .int x4), (5, .int x5), (6, .int x6), (7, .int x7)], [], h, 0, 0) := by
  intro n
  induction n with
  | zero => intro x0 x1 x3 x4 x5 x6 x7 h o hq; cases hq
  | succ n ih =>
    intro x0 x1 x3 x4 x5 x6 x7 h o hq
    unfold fxX7_against_240 at hq
    refine mB_run odX7_against 5 (g := (247, [(0, .ref x0), (1, .int x1), (3, .int x3), (4, .int x4), (5, .int x5), (6, .int x6), (7, .int x7)], [.ref x0, .int ((64 : Int32) * x3), .int x7], h, 0, 0)) rfl ?_
    obtain ⟨v67, e68, hq⟩ := bsm hq
    refine r_gR odX7_against rfl rfl e68 ?_
    refine mB_run odX7_against 1 (g := (251, [(0, .ref x0), (1, .int x1), (3, .int x3), (4, .int x4), (5, .int x5), (6, .int x6), (7, .int x7)], [.int x3, .ref v67, .int ((64 : Int32) * x3), .int x7], h, 0, 0)) rfl ?_
    obtain ⟨v69, e70, hq⟩ := bsm hq
    refine r_aI odX7_against rfl e70 ?_
    refine mB_run odX7_against 1 (g := (253, [(0, .ref x0), (1, .int x1), (3, .int x3), (4, .int x4), (5, .int x5), (6, .int x6), (7, .int x7)], [.int (((64 : Int32) * x3) + v69), .int x7], h, 0, 0)) rfl ?_
    by_cases c71 : (((64 : Int32) * x3) + v69) ≤ x7
    · rw [if_pos c71] at hq
      refine ic_ge_T (t := 273) odX7_against rfl rfl c71 ?_
      refine mB_run odX7_against 4 (g := (279, [(7, .int ((80 : Int32) * x3)), (0, .ref x0), (1, .int x1), (3, .int x3), (4, .int x4), (5, .int x5), (6, .int x6)], [], h, 0, 0)) rfl ?_
      refine mB_lv [1, 2, 3, 4, 5, 6, 0] (lv' := [(0, .ref x0), (1, .int x1), (3, .int x3), (4, .int x4), (5, .int x5), (6, .int x6), (7, .int ((80 : Int32) * x3))]) rfl ?_
      exact exX7_against_279 hrec190 N _ _ _ _ _ _ _ _ hq
    · rw [if_neg c71] at hq
      refine ic_ge_F (t := 273) odX7_against rfl rfl c71 ?_
      refine mB_run odX7_against 5 (g := (264, [(0, .ref x0), (1, .int x1), (3, .int x3), (4, .int x4), (5, .int x5), (6, .int x6), (7, .int x7)], [.int x7, .int x3, .int x6, .int x5, .ref x0], h, 0, 0)) rfl ?_
      obtain ⟨f74, k75, hq⟩ := bsm hq
      obtain ⟨o72, e73, hq⟩ := bsm hq
      refine mB_V (as := [.int x5, .int x6, .int x3, .int x7]) odX7_against okX7_through lk_7_377 rfl (exX7_through e73) (kO_at k75) rfl rfl rfl ?_
      show mB _ mX7_against (267, [(0, .ref x0), (1, .int x1), (3, .int x3), (4, .int x4), (5, .int x5), (6, .int x6), (7, .int x7)], [], o72, 0, 0)
      refine mB_run odX7_against 2 (g := (240, [(7, .int (x7 + (1 : Int32))), (0, .ref x0), (1, .int x1), (3, .int x3), (4, .int x4), (5, .int x5), (6, .int x6)], [], o72, 0, 0)) rfl ?_
      refine mB_lv [1, 2, 3, 4, 5, 6, 0] (lv' := [(0, .ref x0), (1, .int x1), (3, .int x3), (4, .int x4), (5, .int x5), (6, .int x6), (7, .int (x7 + (1 : Int32)))]) rfl ?_
      exact ih _ _ _ _ _ _ _ _ hq
def fxX7_against_190 (N : Nat) : Nat → Nat → Int32 → Int32 → Int32 → mh → Option mh
  | 0, _, _, _, _, _ => none
  | n + 1, x0, x1, x3, x4, h =>
    (gR h x0 7 34).bind fun v54 =>
    (aI h v54 x1).bind fun v56 =>
    if (((80 : Int32) * x1) + v56) ≤ x4 then (
      some h) else (
      (gR h x0 7 35).bind fun v59 =>
      (aI h v59 x4).bind fun v61 =>
      (gR h x0 7 36).bind fun v63 =>
      (aI h v63 x4).bind fun v65 =>
      fxX7_against_240 N (fxX7_against_190 N n) N x0 x1 x3 x4 (((24 : Int32) * x1) + v61) (((24 : Int32) * x1) + v65) ((64 : Int32) * x3) h)
set_option maxHeartbeats 4000000 in
set_option maxRecDepth 100000 in
theorem exX7_against_190 {N : Nat} : ∀ (n : Nat) (x0 : Nat) (x1 : Int32) (x3 : Int32) (x4 : Int32) (h : mh) {o : mh}, fxX7_against_190 N n x0 x1 x3 x4 h = some o → mB (gO mX7_against (o, none)) mX7_against (190, [(0, .ref x0), (1, .int x1), (3, .int x3), (4, .int x4)], [], h, 0, 0) := by
  intro n
  induction n with
  | zero => intro x0 x1 x3 x4 h o hq; cases hq
  | succ n ih =>
    intro x0 x1 x3 x4 h o hq
    unfold fxX7_against_190 at hq
    refine mB_run odX7_against 5 (g := (197, [(0, .ref x0), (1, .int x1), (3, .int x3), (4, .int x4)], [.ref x0, .int ((80 : Int32) * x1), .int x4], h, 0, 0)) rfl ?_
    obtain ⟨v54, e55, hq⟩ := bsm hq
    refine r_gR odX7_against rfl rfl e55 ?_
    refine mB_run odX7_against 1 (g := (201, [(0, .ref x0), (1, .int x1), (3, .int x3), (4, .int x4)], [.int x1, .ref v54, .int ((80 : Int32) * x1), .int x4], h, 0, 0)) rfl ?_
    obtain ⟨v56, e57, hq⟩ := bsm hq
    refine r_aI odX7_against rfl e57 ?_
    refine mB_run odX7_against 1 (g := (203, [(0, .ref x0), (1, .int x1), (3, .int x3), (4, .int x4)], [.int (((80 : Int32) * x1) + v56), .int x4], h, 0, 0)) rfl ?_
    by_cases c58 : (((80 : Int32) * x1) + v56) ≤ x4
    · rw [if_pos c58] at hq
      refine ic_ge_T (t := 339) odX7_against rfl rfl c58 ?_
      cases hq
      exact mB_ret odX7_against rfl
    · rw [if_neg c58] at hq
      refine ic_ge_F (t := 339) odX7_against rfl rfl c58 ?_
      refine mB_run odX7_against 4 (g := (211, [(0, .ref x0), (1, .int x1), (3, .int x3), (4, .int x4)], [.ref x0, .int ((24 : Int32) * x1)], h, 0, 0)) rfl ?_
      obtain ⟨v59, e60, hq⟩ := bsm hq
      refine r_gR odX7_against rfl rfl e60 ?_
      refine mB_run odX7_against 1 (g := (216, [(0, .ref x0), (1, .int x1), (3, .int x3), (4, .int x4)], [.int x4, .ref v59, .int ((24 : Int32) * x1)], h, 0, 0)) rfl ?_
      obtain ⟨v61, e62, hq⟩ := bsm hq
      refine r_aI odX7_against rfl e62 ?_
      refine mB_run odX7_against 6 (g := (225, [(5, .int (((24 : Int32) * x1) + v61)), (0, .ref x0), (1, .int x1), (3, .int x3), (4, .int x4)], [.ref x0, .int ((24 : Int32) * x1)], h, 0, 0)) rfl ?_
      obtain ⟨v63, e64, hq⟩ := bsm hq
      refine r_gR odX7_against rfl rfl e64 ?_
      refine mB_run odX7_against 1 (g := (230, [(5, .int (((24 : Int32) * x1) + v61)), (0, .ref x0), (1, .int x1), (3, .int x3), (4, .int x4)], [.int x4, .ref v63, .int ((24 : Int32) * x1)], h, 0, 0)) rfl ?_
      obtain ⟨v65, e66, hq⟩ := bsm hq
      refine r_aI odX7_against rfl e66 ?_
      refine mB_run odX7_against 6 (g := (240, [(7, .int ((64 : Int32) * x3)), (6, .int (((24 : Int32) * x1) + v65)), (5, .int (((24 : Int32) * x1) + v61)), (0, .ref x0), (1, .int x1), (3, .int x3), (4, .int x4)], [], h, 0, 0)) rfl ?_
      refine mB_lv [3, 4, 5, 6, 2, 1, 0] (lv' := [(0, .ref x0), (1, .int x1), (3, .int x3), (4, .int x4), (5, .int (((24 : Int32) * x1) + v61)), (6, .int (((24 : Int32) * x1) + v65)), (7, .int ((64 : Int32) * x3))]) rfl ?_
      exact exX7_against_240 ih N _ _ _ _ _ _ _ _ hq
def fxX7_against_10 (N : Nat) : Nat → Nat → Int32 → Int32 → Int32 → Int32 → mh → Option mh
  | 0, _, _, _, _, _, _ => none
  | n + 1, x0, x1, x2, x3, x4, h =>
    (gR h x0 7 46).bind fun v1 =>
    (aI h v1 x1).bind fun v3 =>
    if (((24 : Int32) * x1) + v3) ≤ x4 then (
      fxX7_against_190 N N x0 x1 x3 ((80 : Int32) * x1) h) else (
      (kO h x0 7).bind fun f8 =>
      (fxX7_cornerAt N x0 x4 h).bind fun o6 =>
      (kO o6 x0 7).bind fun f12 =>
      (fxX7_where N x0 x2 x3 o6).bind fun o10 =>
      if o10.2 ≤ 0 then (
        fxX7_against_47 N (fxX7_against_10 N n) x0 x1 x2 x3 x4 o10.1) else (
        (kO o10.1 x0 7).bind fun f17 =>
        (fxX7_tries N x0 (0 : Int64) (1 : Int64) o10.1).bind fun o15 =>
        fxX7_against_47 N (fxX7_against_10 N n) x0 x1 x2 x3 x4 o15))
set_option maxHeartbeats 4000000 in
set_option maxRecDepth 100000 in
theorem exX7_against_10 {N : Nat} : ∀ (n : Nat) (x0 : Nat) (x1 : Int32) (x2 : Int32) (x3 : Int32) (x4 : Int32) (h : mh) {o : mh}, fxX7_against_10 N n x0 x1 x2 x3 x4 h = some o → mB (gO mX7_against (o, none)) mX7_against (10, [(0, .ref x0), (1, .int x1), (2, .int x2), (3, .int x3), (4, .int x4)], [], h, 0, 0) := by
  intro n
  induction n with
  | zero => intro x0 x1 x2 x3 x4 h o hq; cases hq
  | succ n ih =>
    intro x0 x1 x2 x3 x4 h o hq
    unfold fxX7_against_10 at hq
    refine mB_run odX7_against 5 (g := (17, [(0, .ref x0), (1, .int x1), (2, .int x2), (3, .int x3), (4, .int x4)], [.ref x0, .int ((24 : Int32) * x1), .int x4], h, 0, 0)) rfl ?_
    obtain ⟨v1, e2, hq⟩ := bsm hq
    refine r_gR odX7_against rfl rfl e2 ?_
    refine mB_run odX7_against 1 (g := (21, [(0, .ref x0), (1, .int x1), (2, .int x2), (3, .int x3), (4, .int x4)], [.int x1, .ref v1, .int ((24 : Int32) * x1), .int x4], h, 0, 0)) rfl ?_
    obtain ⟨v3, e4, hq⟩ := bsm hq
    refine r_aI odX7_against rfl e4 ?_
    refine mB_run odX7_against 1 (g := (23, [(0, .ref x0), (1, .int x1), (2, .int x2), (3, .int x3), (4, .int x4)], [.int (((24 : Int32) * x1) + v3), .int x4], h, 0, 0)) rfl ?_
    by_cases c5 : (((24 : Int32) * x1) + v3) ≤ x4
    · rw [if_pos c5] at hq
      refine ic_ge_T (t := 184) odX7_against rfl rfl c5 ?_
      refine mB_run odX7_against 4 (g := (190, [(4, .int ((80 : Int32) * x1)), (0, .ref x0), (1, .int x1), (2, .int x2), (3, .int x3)], [], h, 0, 0)) rfl ?_
      refine mB_lv [1, 2, 4, 0] (lv' := [(0, .ref x0), (1, .int x1), (3, .int x3), (4, .int ((80 : Int32) * x1))]) rfl ?_
      exact exX7_against_190 N _ _ _ _ _ hq
    · rw [if_neg c5] at hq
      refine ic_ge_F (t := 184) odX7_against rfl rfl c5 ?_
      refine mB_run odX7_against 2 (g := (29, [(0, .ref x0), (1, .int x1), (2, .int x2), (3, .int x3), (4, .int x4)], [.int x4, .ref x0], h, 0, 0)) rfl ?_
      obtain ⟨f8, k9, hq⟩ := bsm hq
      obtain ⟨o6, e7, hq⟩ := bsm hq
      refine mB_V (as := [.int x4]) odX7_against okX7_cornerAt lk_7_365 rfl (exX7_cornerAt e7) (kO_at k9) rfl rfl rfl ?_
      show mB _ mX7_against (32, [(0, .ref x0), (1, .int x1), (2, .int x2), (3, .int x3), (4, .int x4)], [], o6, 0, 0)
      refine mB_run odX7_against 3 (g := (35, [(0, .ref x0), (1, .int x1), (2, .int x2), (3, .int x3), (4, .int x4)], [.int x3, .int x2, .ref x0], o6, 0, 0)) rfl ?_
      obtain ⟨f12, k13, hq⟩ := bsm hq
      obtain ⟨o10, e11, hq⟩ := bsm hq
      refine mB_V (as := [.int x2, .int x3]) odX7_against okX7_where lk_7_285 rfl (exX7_where e11) (kO_at k13) rfl rfl rfl ?_
      show mB _ mX7_against (38, [(0, .ref x0), (1, .int x1), (2, .int x2), (3, .int x3), (4, .int x4)], [.int o10.2], o10.1, 0, 0)
      by_cases c14 : o10.2 ≤ 0
      · rw [if_pos c14] at hq
        refine if_le_T (t := 47) odX7_against rfl rfl c14 ?_
        refine mB_lv [0, 1, 2, 3, 4] (lv' := [(0, .ref x0), (1, .int x1), (2, .int x2), (3, .int x3), (4, .int x4)]) rfl ?_
        exact exX7_against_47 ih _ _ _ _ _ _ hq
      · rw [if_neg c14] at hq
        refine if_le_F (t := 47) odX7_against rfl rfl c14 ?_
        refine mB_run odX7_against 3 (g := (44, [(0, .ref x0), (1, .int x1), (2, .int x2), (3, .int x3), (4, .int x4)], [.long (1 : Int64), .long (0 : Int64), .ref x0], o10.1, 0, 0)) rfl ?_
        obtain ⟨f17, k18, hq⟩ := bsm hq
        obtain ⟨o15, e16, hq⟩ := bsm hq
        refine mB_V (as := [.long (0 : Int64), .long (1 : Int64)]) odX7_against okX7_tries lk_7_327 rfl (exX7_tries e16) (kO_at k18) rfl rfl rfl ?_
        show mB _ mX7_against (47, [(0, .ref x0), (1, .int x1), (2, .int x2), (3, .int x3), (4, .int x4)], [], o15, 0, 0)
        refine mB_lv [0, 1, 2, 3, 4] (lv' := [(0, .ref x0), (1, .int x1), (2, .int x2), (3, .int x3), (4, .int x4)]) rfl ?_
        exact exX7_against_47 ih _ _ _ _ _ _ hq
def fxX7_against (N : Nat) (p0 : Nat) (p1 : Int32) (p2 : Int32) (h : mh) : Option mh :=
  fxX7_against_10 N N p0 p1 p2 ((1 : Int32) - p1) ((24 : Int32) * p1) h
set_option maxHeartbeats 4000000 in
set_option maxRecDepth 100000 in
theorem exX7_against {N : Nat} {p0 : Nat} {p1 : Int32} {p2 : Int32} {h : mh} {o : mh} (hq : fxX7_against N p0 p1 p2 h = some o) : mC mX7_against [.ref p0, .int p1, .int p2] h (o, none) := by
  refine mC_of okX7_against (Nat.le_of_ble_eq_true rfl) ?_
  unfold fxX7_against at hq
  show mB _ mX7_against (0, [(0, .ref p0), (1, .int p1), (2, .int p2)], [], h, 0, 0)
  refine mB_run odX7_against 8 (g := (10, [(4, .int ((24 : Int32) * p1)), (3, .int ((1 : Int32) - p1)), (0, .ref p0), (1, .int p1), (2, .int p2)], [], h, 0, 0)) rfl ?_
  refine mB_lv [2, 3, 4, 1, 0] (lv' := [(0, .ref p0), (1, .int p1), (2, .int p2), (3, .int ((1 : Int32) - p1)), (4, .int ((24 : Int32) * p1))]) rfl ?_
  exact exX7_against_10 N _ _ _ _ _ _ hq
def fxX7_nears (N : Nat) (p0 : Nat) (p1 : Int32) (p2 : Int32) (h : mh) : Option mh :=
  (kO h p0 7).bind fun f3 =>
  (fxX7_owns N p0 p1 (0 : Int32) h).bind fun o1 =>
  (kO o1 p0 7).bind fun f7 =>
  (fxX7_owns N p0 p2 (1 : Int32) o1).bind fun o5 =>
  (sV o5 p0 7 51 (.int (0 : Int32))).bind fun h9 =>
  (gR h9 p0 7 5).bind fun v11 =>
  (aI h9 v11 p2).bind fun v13 =>
  (kO h9 p0 7).bind fun f17 =>
  (fxX7_against N p0 (0 : Int32) v13 h9).bind fun o15 =>
  (gR o15 p0 7 5).bind fun v19 =>
  (aI o15 v19 p1).bind fun v21 =>
  (kO o15 p0 7).bind fun f25 =>
  (fxX7_against N p0 (1 : Int32) v21 o15).bind fun o23 =>
  some o23
set_option maxHeartbeats 4000000 in
set_option maxRecDepth 100000 in
theorem exX7_nears {N : Nat} {p0 : Nat} {p1 : Int32} {p2 : Int32} {h : mh} {o : mh} (hq : fxX7_nears N p0 p1 p2 h = some o) : mC mX7_nears [.ref p0, .int p1, .int p2] h (o, none) := by
  refine mC_of okX7_nears (Nat.le_of_ble_eq_true rfl) ?_
  unfold fxX7_nears at hq
  show mB _ mX7_nears (0, [(0, .ref p0), (1, .int p1), (2, .int p2)], [], h, 0, 0)
  refine mB_run odX7_nears 3 (g := (3, [(0, .ref p0), (1, .int p1), (2, .int p2)], [.int (0 : Int32), .int p1, .ref p0], h, 0, 0)) rfl ?_
  obtain ⟨f3, k4, hq⟩ := bsm hq
  obtain ⟨o1, e2, hq⟩ := bsm hq
  refine mB_V (as := [.int p1, .int (0 : Int32)]) odX7_nears okX7_owns lk_7_279 rfl (exX7_owns e2) (kO_at k4) rfl rfl rfl ?_
  show mB _ mX7_nears (6, [(0, .ref p0), (1, .int p1), (2, .int p2)], [], o1, 0, 0)
  refine mB_run odX7_nears 3 (g := (9, [(0, .ref p0), (1, .int p1), (2, .int p2)], [.int (1 : Int32), .int p2, .ref p0], o1, 0, 0)) rfl ?_
  obtain ⟨f7, k8, hq⟩ := bsm hq
  obtain ⟨o5, e6, hq⟩ := bsm hq
  refine mB_V (as := [.int p2, .int (1 : Int32)]) odX7_nears okX7_owns lk_7_279 rfl (exX7_owns e6) (kO_at k8) rfl rfl rfl ?_
  show mB _ mX7_nears (12, [(0, .ref p0), (1, .int p1), (2, .int p2)], [], o5, 0, 0)
  refine mB_run odX7_nears 2 (g := (14, [(0, .ref p0), (1, .int p1), (2, .int p2)], [.int (0 : Int32), .ref p0], o5, 0, 0)) rfl ?_
  obtain ⟨h9, e10, hq⟩ := bsm hq
  refine r_sV odX7_nears rfl rfl rfl rfl e10 ?_
  refine mB_run odX7_nears 3 (g := (20, [(0, .ref p0), (1, .int p1), (2, .int p2)], [.ref p0, .int (0 : Int32), .ref p0], h9, 0, 0)) rfl ?_
  obtain ⟨v11, e12, hq⟩ := bsm hq
  refine r_gR odX7_nears rfl rfl e12 ?_
  refine mB_run odX7_nears 1 (g := (24, [(0, .ref p0), (1, .int p1), (2, .int p2)], [.int p2, .ref v11, .int (0 : Int32), .ref p0], h9, 0, 0)) rfl ?_
  obtain ⟨v13, e14, hq⟩ := bsm hq
  refine r_aI odX7_nears rfl e14 ?_
  obtain ⟨f17, k18, hq⟩ := bsm hq
  obtain ⟨o15, e16, hq⟩ := bsm hq
  refine mB_V (as := [.int (0 : Int32), .int v13]) odX7_nears okX7_against lk_7_383 rfl (exX7_against e16) (kO_at k18) rfl rfl rfl ?_
  show mB _ mX7_nears (28, [(0, .ref p0), (1, .int p1), (2, .int p2)], [], o15, 0, 0)
  refine mB_run odX7_nears 3 (g := (31, [(0, .ref p0), (1, .int p1), (2, .int p2)], [.ref p0, .int (1 : Int32), .ref p0], o15, 0, 0)) rfl ?_
  obtain ⟨v19, e20, hq⟩ := bsm hq
  refine r_gR odX7_nears rfl rfl e20 ?_
  refine mB_run odX7_nears 1 (g := (35, [(0, .ref p0), (1, .int p1), (2, .int p2)], [.int p1, .ref v19, .int (1 : Int32), .ref p0], o15, 0, 0)) rfl ?_
  obtain ⟨v21, e22, hq⟩ := bsm hq
  refine r_aI odX7_nears rfl e22 ?_
  obtain ⟨f25, k26, hq⟩ := bsm hq
  obtain ⟨o23, e24, hq⟩ := bsm hq
  refine mB_V (as := [.int (1 : Int32), .int v21]) odX7_nears okX7_against lk_7_383 rfl (exX7_against e24) (kO_at k26) rfl rfl rfl ?_
  show mB _ mX7_nears (39, [(0, .ref p0), (1, .int p1), (2, .int p2)], [], o23, 0, 0)
  cases hq
  exact mB_ret odX7_nears rfl
def fxX7_apart (N : Nat) (p0 : Nat) (p1 : Int32) (p2 : Int32) (h : mh) : Option (mh × Int32) :=
  (fxX7_isSolid N p1 h).bind fun o1 =>
  if o1.2 = 0 then (
    some (o1.1, (-1 : Int32))) else (
    (fxX7_isSolid N p2 o1.1).bind fun o4 =>
    if o4.2 = 0 then (
      some (o4.1, (-1 : Int32))) else (
      (gR o4.1 p0 7 5).bind fun v7 =>
      (aI o4.1 v7 p1).bind fun v9 =>
      if v9 = 0 then (
        some (o4.1, (1 : Int32))) else (
        (gR o4.1 p0 7 5).bind fun v12 =>
        (aI o4.1 v12 p2).bind fun v14 =>
        if v14 = 0 then (
          some (o4.1, (1 : Int32))) else (
          (kO o4.1 p0 7).bind fun f19 =>
          (fxX7_nears N p0 p1 p2 o4.1).bind fun o17 =>
          (gJ o17 p0 7 52).bind fun v21 =>
          if v21 ≤ (0 : Int64) then (
            some (o17, (0 : Int32))) else (
            some (o17, (1 : Int32)))))))
set_option maxHeartbeats 4000000 in
set_option maxRecDepth 100000 in
theorem exX7_apart {N : Nat} {p0 : Nat} {p1 : Int32} {p2 : Int32} {h : mh} {o : (mh × Int32)} (hq : fxX7_apart N p0 p1 p2 h = some o) : mC mX7_apart [.ref p0, .int p1, .int p2] h (o.1, some (.int o.2)) := by
  refine mC_of okX7_apart (Nat.le_of_ble_eq_true rfl) ?_
  unfold fxX7_apart at hq
  show mB _ mX7_apart (0, [(0, .ref p0), (1, .int p1), (2, .int p2)], [], h, 0, 0)
  refine mB_run odX7_apart 1 (g := (1, [(0, .ref p0), (1, .int p1), (2, .int p2)], [.int p1], h, 0, 0)) rfl ?_
  obtain ⟨o1, e2, hq⟩ := bsm hq
  refine mB_S (as := [.int p1]) odX7_apart okX7_isSolid lk_7_133 rfl (exX7_isSolid e2) rfl rfl rfl ?_
  show mB _ mX7_apart (4, [(0, .ref p0), (1, .int p1), (2, .int p2)], [.int o1.2], o1.1, 0, 0)
  by_cases c3 : o1.2 = 0
  · rw [if_pos c3] at hq
    refine if_eq_T (t := 14) odX7_apart rfl rfl c3 ?_
    refine mB_run odX7_apart 1 (g := (15, [(0, .ref p0), (1, .int p1), (2, .int p2)], [.int (-1 : Int32)], o1.1, 0, 0)) rfl ?_
    cases hq
    exact mB_ret odX7_apart rfl
  · rw [if_neg c3] at hq
    refine if_eq_F (t := 14) odX7_apart rfl rfl c3 ?_
    refine mB_run odX7_apart 1 (g := (8, [(0, .ref p0), (1, .int p1), (2, .int p2)], [.int p2], o1.1, 0, 0)) rfl ?_
    obtain ⟨o4, e5, hq⟩ := bsm hq
    refine mB_S (as := [.int p2]) odX7_apart okX7_isSolid lk_7_133 rfl (exX7_isSolid e5) rfl rfl rfl ?_
    show mB _ mX7_apart (11, [(0, .ref p0), (1, .int p1), (2, .int p2)], [.int o4.2], o4.1, 0, 0)
    by_cases c6 : o4.2 = 0
    · rw [if_pos c6] at hq
      refine if_ne_F (t := 16) odX7_apart rfl rfl c6 ?_
      refine mB_run odX7_apart 1 (g := (15, [(0, .ref p0), (1, .int p1), (2, .int p2)], [.int (-1 : Int32)], o4.1, 0, 0)) rfl ?_
      cases hq
      exact mB_ret odX7_apart rfl
    · rw [if_neg c6] at hq
      refine if_ne_T (t := 16) odX7_apart rfl rfl c6 ?_
      refine mB_run odX7_apart 1 (g := (17, [(0, .ref p0), (1, .int p1), (2, .int p2)], [.ref p0], o4.1, 0, 0)) rfl ?_
      obtain ⟨v7, e8, hq⟩ := bsm hq
      refine r_gR odX7_apart rfl rfl e8 ?_
      refine mB_run odX7_apart 1 (g := (21, [(0, .ref p0), (1, .int p1), (2, .int p2)], [.int p1, .ref v7], o4.1, 0, 0)) rfl ?_
      obtain ⟨v9, e10, hq⟩ := bsm hq
      refine r_aI odX7_apart rfl e10 ?_
      by_cases c11 : v9 = 0
      · rw [if_pos c11] at hq
        refine if_eq_T (t := 34) odX7_apart rfl rfl c11 ?_
        refine mB_run odX7_apart 1 (g := (35, [(0, .ref p0), (1, .int p1), (2, .int p2)], [.int (1 : Int32)], o4.1, 0, 0)) rfl ?_
        cases hq
        exact mB_ret odX7_apart rfl
      · rw [if_neg c11] at hq
        refine if_eq_F (t := 34) odX7_apart rfl rfl c11 ?_
        refine mB_run odX7_apart 1 (g := (26, [(0, .ref p0), (1, .int p1), (2, .int p2)], [.ref p0], o4.1, 0, 0)) rfl ?_
        obtain ⟨v12, e13, hq⟩ := bsm hq
        refine r_gR odX7_apart rfl rfl e13 ?_
        refine mB_run odX7_apart 1 (g := (30, [(0, .ref p0), (1, .int p1), (2, .int p2)], [.int p2, .ref v12], o4.1, 0, 0)) rfl ?_
        obtain ⟨v14, e15, hq⟩ := bsm hq
        refine r_aI odX7_apart rfl e15 ?_
        by_cases c16 : v14 = 0
        · rw [if_pos c16] at hq
          refine if_ne_F (t := 36) odX7_apart rfl rfl c16 ?_
          refine mB_run odX7_apart 1 (g := (35, [(0, .ref p0), (1, .int p1), (2, .int p2)], [.int (1 : Int32)], o4.1, 0, 0)) rfl ?_
          cases hq
          exact mB_ret odX7_apart rfl
        · rw [if_neg c16] at hq
          refine if_ne_T (t := 36) odX7_apart rfl rfl c16 ?_
          refine mB_run odX7_apart 3 (g := (39, [(0, .ref p0), (1, .int p1), (2, .int p2)], [.int p2, .int p1, .ref p0], o4.1, 0, 0)) rfl ?_
          obtain ⟨f19, k20, hq⟩ := bsm hq
          obtain ⟨o17, e18, hq⟩ := bsm hq
          refine mB_V (as := [.int p1, .int p2]) odX7_apart okX7_nears lk_7_386 rfl (exX7_nears e18) (kO_at k20) rfl rfl rfl ?_
          show mB _ mX7_apart (42, [(0, .ref p0), (1, .int p1), (2, .int p2)], [], o17, 0, 0)
          refine mB_run odX7_apart 1 (g := (43, [(0, .ref p0), (1, .int p1), (2, .int p2)], [.ref p0], o17, 0, 0)) rfl ?_
          obtain ⟨v21, e22, hq⟩ := bsm hq
          refine r_gJ odX7_apart rfl rfl e22 ?_
          refine mB_run odX7_apart 1 (g := (47, [(0, .ref p0), (1, .int p1), (2, .int p2)], [.long (0 : Int64), .long v21], o17, 0, 0)) rfl ?_
          by_cases c23 : v21 ≤ (0 : Int64)
          · rw [if_pos c23] at hq
            refine lc_le_T (t := 55) odX7_apart rfl rfl rfl c23 ?_
            refine mB_run odX7_apart 1 (g := (56, [(0, .ref p0), (1, .int p1), (2, .int p2)], [.int (0 : Int32)], o17, 0, 0)) rfl ?_
            cases hq
            exact mB_ret odX7_apart rfl
          · rw [if_neg c23] at hq
            refine lc_le_F (t := 55) odX7_apart rfl rfl rfl c23 ?_
            refine mB_run odX7_apart 2 (g := (56, [(0, .ref p0), (1, .int p1), (2, .int p2)], [.int (1 : Int32)], o17, 0, 0)) rfl ?_
            cases hq
            exact mB_ret odX7_apart rfl
def fxX7_near (N : Nat) (p0 : Nat) (p1 : Int32) (p2 : Int32) (p3 : Int32) (h : mh) : Option (mh × Int64) :=
  (fxX7_isSolid N p1 h).bind fun o1 =>
  if o1.2 = 0 then (
    some (o1.1, (-1 : Int64))) else (
    (fxX7_isSolid N p2 o1.1).bind fun o4 =>
    if o4.2 = 0 then (
      some (o4.1, (-1 : Int64))) else (
      (gR o4.1 p0 7 5).bind fun v7 =>
      (aI o4.1 v7 p1).bind fun v9 =>
      if v9 = 0 then (
        some (o4.1, (-1 : Int64))) else (
        (gR o4.1 p0 7 5).bind fun v12 =>
        (aI o4.1 v12 p2).bind fun v14 =>
        if v14 = 0 then (
          some (o4.1, (-1 : Int64))) else (
          (kO o4.1 p0 7).bind fun f19 =>
          (fxX7_nears N p0 p1 p2 o4.1).bind fun o17 =>
          (kO o17 p0 7).bind fun f23 =>
          (fxX7_told N p0 p3 o17).bind fun o21 =>
          some (o21.1, o21.2)))))
set_option maxHeartbeats 4000000 in
set_option maxRecDepth 100000 in
theorem exX7_near {N : Nat} {p0 : Nat} {p1 : Int32} {p2 : Int32} {p3 : Int32} {h : mh} {o : (mh × Int64)} (hq : fxX7_near N p0 p1 p2 p3 h = some o) : mC mX7_near [.ref p0, .int p1, .int p2, .int p3] h (o.1, some (.long o.2)) := by
  refine mC_of okX7_near (Nat.le_of_ble_eq_true rfl) ?_
  unfold fxX7_near at hq
  show mB _ mX7_near (0, [(0, .ref p0), (1, .int p1), (2, .int p2), (3, .int p3)], [], h, 0, 0)
  refine mB_run odX7_near 1 (g := (1, [(0, .ref p0), (1, .int p1), (2, .int p2), (3, .int p3)], [.int p1], h, 0, 0)) rfl ?_
  obtain ⟨o1, e2, hq⟩ := bsm hq
  refine mB_S (as := [.int p1]) odX7_near okX7_isSolid lk_7_133 rfl (exX7_isSolid e2) rfl rfl rfl ?_
  show mB _ mX7_near (4, [(0, .ref p0), (1, .int p1), (2, .int p2), (3, .int p3)], [.int o1.2], o1.1, 0, 0)
  by_cases c3 : o1.2 = 0
  · rw [if_pos c3] at hq
    refine if_eq_T (t := 32) odX7_near rfl rfl c3 ?_
    refine mB_run odX7_near 1 (g := (35, [(0, .ref p0), (1, .int p1), (2, .int p2), (3, .int p3)], [.long (-1 : Int64)], o1.1, 0, 0)) rfl ?_
    cases hq
    exact mB_ret odX7_near rfl
  · rw [if_neg c3] at hq
    refine if_eq_F (t := 32) odX7_near rfl rfl c3 ?_
    refine mB_run odX7_near 1 (g := (8, [(0, .ref p0), (1, .int p1), (2, .int p2), (3, .int p3)], [.int p2], o1.1, 0, 0)) rfl ?_
    obtain ⟨o4, e5, hq⟩ := bsm hq
    refine mB_S (as := [.int p2]) odX7_near okX7_isSolid lk_7_133 rfl (exX7_isSolid e5) rfl rfl rfl ?_
    show mB _ mX7_near (11, [(0, .ref p0), (1, .int p1), (2, .int p2), (3, .int p3)], [.int o4.2], o4.1, 0, 0)
    by_cases c6 : o4.2 = 0
    · rw [if_pos c6] at hq
      refine if_eq_T (t := 32) odX7_near rfl rfl c6 ?_
      refine mB_run odX7_near 1 (g := (35, [(0, .ref p0), (1, .int p1), (2, .int p2), (3, .int p3)], [.long (-1 : Int64)], o4.1, 0, 0)) rfl ?_
      cases hq
      exact mB_ret odX7_near rfl
    · rw [if_neg c6] at hq
      refine if_eq_F (t := 32) odX7_near rfl rfl c6 ?_
      refine mB_run odX7_near 1 (g := (15, [(0, .ref p0), (1, .int p1), (2, .int p2), (3, .int p3)], [.ref p0], o4.1, 0, 0)) rfl ?_
      obtain ⟨v7, e8, hq⟩ := bsm hq
      refine r_gR odX7_near rfl rfl e8 ?_
      refine mB_run odX7_near 1 (g := (19, [(0, .ref p0), (1, .int p1), (2, .int p2), (3, .int p3)], [.int p1, .ref v7], o4.1, 0, 0)) rfl ?_
      obtain ⟨v9, e10, hq⟩ := bsm hq
      refine r_aI odX7_near rfl e10 ?_
      by_cases c11 : v9 = 0
      · rw [if_pos c11] at hq
        refine if_eq_T (t := 32) odX7_near rfl rfl c11 ?_
        refine mB_run odX7_near 1 (g := (35, [(0, .ref p0), (1, .int p1), (2, .int p2), (3, .int p3)], [.long (-1 : Int64)], o4.1, 0, 0)) rfl ?_
        cases hq
        exact mB_ret odX7_near rfl
      · rw [if_neg c11] at hq
        refine if_eq_F (t := 32) odX7_near rfl rfl c11 ?_
        refine mB_run odX7_near 1 (g := (24, [(0, .ref p0), (1, .int p1), (2, .int p2), (3, .int p3)], [.ref p0], o4.1, 0, 0)) rfl ?_
        obtain ⟨v12, e13, hq⟩ := bsm hq
        refine r_gR odX7_near rfl rfl e13 ?_
        refine mB_run odX7_near 1 (g := (28, [(0, .ref p0), (1, .int p1), (2, .int p2), (3, .int p3)], [.int p2, .ref v12], o4.1, 0, 0)) rfl ?_
        obtain ⟨v14, e15, hq⟩ := bsm hq
        refine r_aI odX7_near rfl e15 ?_
        by_cases c16 : v14 = 0
        · rw [if_pos c16] at hq
          refine if_ne_F (t := 36) odX7_near rfl rfl c16 ?_
          refine mB_run odX7_near 1 (g := (35, [(0, .ref p0), (1, .int p1), (2, .int p2), (3, .int p3)], [.long (-1 : Int64)], o4.1, 0, 0)) rfl ?_
          cases hq
          exact mB_ret odX7_near rfl
        · rw [if_neg c16] at hq
          refine if_ne_T (t := 36) odX7_near rfl rfl c16 ?_
          refine mB_run odX7_near 3 (g := (39, [(0, .ref p0), (1, .int p1), (2, .int p2), (3, .int p3)], [.int p2, .int p1, .ref p0], o4.1, 0, 0)) rfl ?_
          obtain ⟨f19, k20, hq⟩ := bsm hq
          obtain ⟨o17, e18, hq⟩ := bsm hq
          refine mB_V (as := [.int p1, .int p2]) odX7_near okX7_nears lk_7_386 rfl (exX7_nears e18) (kO_at k20) rfl rfl rfl ?_
          show mB _ mX7_near (42, [(0, .ref p0), (1, .int p1), (2, .int p2), (3, .int p3)], [], o17, 0, 0)
          refine mB_run odX7_near 2 (g := (44, [(0, .ref p0), (1, .int p1), (2, .int p2), (3, .int p3)], [.int p3, .ref p0], o17, 0, 0)) rfl ?_
          obtain ⟨f23, k24, hq⟩ := bsm hq
          obtain ⟨o21, e22, hq⟩ := bsm hq
          refine mB_V (as := [.int p3]) odX7_near okX7_told lk_7_338 rfl (exX7_told e22) (kO_at k24) rfl rfl rfl ?_
          show mB _ mX7_near (47, [(0, .ref p0), (1, .int p1), (2, .int p2), (3, .int p3)], [.long o21.2], o21.1, 0, 0)
          cases hq
          exact mB_ret odX7_near rfl
def fxX7_same_94 (N : Nat) (rec40 : Nat → Int32 → Int32 → Int32 → Int32 → mh → Option (mh × Int32)) (rec58 : Nat → Int32 → Int32 → Int32 → Int32 → Int32 → mh → Option (mh × Int32)) (x0 : Nat) (x1 : Int32) (x2 : Int32) (x4 : Int32) (x5 : Int32) (s0 : Int32) (h : mh) : Option (mh × Int32) :=
  rec58 x0 x1 x2 s0 x4 (x5 + (1 : Int32)) h
set_option maxHeartbeats 4000000 in
set_option maxRecDepth 100000 in
theorem exX7_same_94 {N : Nat} {rec40 : Nat → Int32 → Int32 → Int32 → Int32 → mh → Option (mh × Int32)} {rec58 : Nat → Int32 → Int32 → Int32 → Int32 → Int32 → mh → Option (mh × Int32)} (hrec40 : ∀ (x0 : Nat) (x1 : Int32) (x2 : Int32) (x3 : Int32) (x4 : Int32) (h : mh) {o : (mh × Int32)}, rec40 x0 x1 x2 x3 x4 h = some o → mB (gO mX7_same (o.1, some (.int o.2))) mX7_same (40, [(0, .ref x0), (1, .int x1), (2, .int x2), (3, .int x3), (4, .int x4)], [], h, 0, 0)) (hrec58 : ∀ (x0 : Nat) (x1 : Int32) (x2 : Int32) (x3 : Int32) (x4 : Int32) (x5 : Int32) (h : mh) {o : (mh × Int32)}, rec58 x0 x1 x2 x3 x4 x5 h = some o → mB (gO mX7_same (o.1, some (.int o.2))) mX7_same (58, [(0, .ref x0), (1, .int x1), (2, .int x2), (3, .int x3), (4, .int x4), (5, .int x5)], [], h, 0, 0)) (x0 : Nat) (x1 : Int32) (x2 : Int32) (x4 : Int32) (x5 : Int32) (s0 : Int32) (h : mh) {o : (mh × Int32)} (hq : fxX7_same_94 N rec40 rec58 x0 x1 x2 x4 x5 s0 h = some o) : mB (gO mX7_same (o.1, some (.int o.2))) mX7_same (94, [(0, .ref x0), (1, .int x1), (2, .int x2), (4, .int x4), (5, .int x5)], [.int s0], h, 0, 0) := by
  unfold fxX7_same_94 at hq
  refine mB_run odX7_same 3 (g := (58, [(5, .int (x5 + (1 : Int32))), (3, .int s0), (0, .ref x0), (1, .int x1), (2, .int x2), (4, .int x4)], [], h, 0, 0)) rfl ?_
  refine mB_lv [2, 3, 4, 1, 5, 0] (lv' := [(0, .ref x0), (1, .int x1), (2, .int x2), (3, .int s0), (4, .int x4), (5, .int (x5 + (1 : Int32)))]) rfl ?_
  exact hrec58 _ _ _ _ _ _ _ hq
def fxX7_same_93 (N : Nat) (rec40 : Nat → Int32 → Int32 → Int32 → Int32 → mh → Option (mh × Int32)) (rec58 : Nat → Int32 → Int32 → Int32 → Int32 → Int32 → mh → Option (mh × Int32)) (x0 : Nat) (x1 : Int32) (x2 : Int32) (x4 : Int32) (x5 : Int32) (h : mh) : Option (mh × Int32) :=
  fxX7_same_94 N rec40 rec58 x0 x1 x2 x4 x5 (0 : Int32) h
set_option maxHeartbeats 4000000 in
set_option maxRecDepth 100000 in
theorem exX7_same_93 {N : Nat} {rec40 : Nat → Int32 → Int32 → Int32 → Int32 → mh → Option (mh × Int32)} {rec58 : Nat → Int32 → Int32 → Int32 → Int32 → Int32 → mh → Option (mh × Int32)} (hrec40 : ∀ (x0 : Nat) (x1 : Int32) (x2 : Int32) (x3 : Int32) (x4 : Int32) (h : mh) {o : (mh × Int32)}, rec40 x0 x1 x2 x3 x4 h = some o → mB (gO mX7_same (o.1, some (.int o.2))) mX7_same (40, [(0, .ref x0), (1, .int x1), (2, .int x2), (3, .int x3), (4, .int x4)], [], h, 0, 0)) (hrec58 : ∀ (x0 : Nat) (x1 : Int32) (x2 : Int32) (x3 : Int32) (x4 : Int32) (x5 : Int32) (h : mh) {o : (mh × Int32)}, rec58 x0 x1 x2 x3 x4 x5 h = some o → mB (gO mX7_same (o.1, some (.int o.2))) mX7_same (58, [(0, .ref x0), (1, .int x1), (2, .int x2), (3, .int x3), (4, .int x4), (5, .int x5)], [], h, 0, 0)) (x0 : Nat) (x1 : Int32) (x2 : Int32) (x4 : Int32) (x5 : Int32) (h : mh) {o : (mh × Int32)} (hq : fxX7_same_93 N rec40 rec58 x0 x1 x2 x4 x5 h = some o) : mB (gO mX7_same (o.1, some (.int o.2))) mX7_same (93, [(0, .ref x0), (1, .int x1), (2, .int x2), (4, .int x4), (5, .int x5)], [], h, 0, 0) := by
  unfold fxX7_same_93 at hq
  refine mB_run odX7_same 1 (g := (94, [(0, .ref x0), (1, .int x1), (2, .int x2), (4, .int x4), (5, .int x5)], [.int (0 : Int32)], h, 0, 0)) rfl ?_
  refine mB_lv [0, 1, 2, 3, 4] (lv' := [(0, .ref x0), (1, .int x1), (2, .int x2), (4, .int x4), (5, .int x5)]) rfl ?_
  exact exX7_same_94 hrec40 hrec58 _ _ _ _ _ _ _ hq
def fxX7_same_58 (N : Nat) (rec40 : Nat → Int32 → Int32 → Int32 → Int32 → mh → Option (mh × Int32)) : Nat → Nat → Int32 → Int32 → Int32 → Int32 → Int32 → mh → Option (mh × Int32)
  | 0, _, _, _, _, _, _, _ => none
  | n + 1, x0, x1, x2, x3, x4, x5, h =>
    if (3 : Int32) ≤ x5 then (
      rec40 x0 x1 x2 x3 (x4 + (1 : Int32)) h) else (
      if x3 = 0 then (
        fxX7_same_93 N rec40 (fxX7_same_58 N rec40 n) x0 x1 x2 x4 x5 h) else (
        (kO h x0 7).bind fun f26 =>
        (fxX7_corner N x0 x1 x4 x5 h).bind fun o24 =>
        (kO o24.1 x0 7).bind fun f30 =>
        (fxX7_corner N x0 x2 x4 x5 o24.1).bind fun o28 =>
        if o24.2 = o28.2 then (
          fxX7_same_94 N rec40 (fxX7_same_58 N rec40 n) x0 x1 x2 x4 x5 (1 : Int32) o28.1) else (
          fxX7_same_93 N rec40 (fxX7_same_58 N rec40 n) x0 x1 x2 x4 x5 o28.1)))
set_option maxHeartbeats 4000000 in
set_option maxRecDepth 100000 in
theorem exX7_same_58 {N : Nat} {rec40 : Nat → Int32 → Int32 → Int32 → Int32 → mh → Option (mh × Int32)} (hrec40 : ∀ (x0 : Nat) (x1 : Int32) (x2 : Int32) (x3 : Int32) (x4 : Int32) (h : mh) {o : (mh × Int32)}, rec40 x0 x1 x2 x3 x4 h = some o → mB (gO mX7_same (o.1, some (.int o.2))) mX7_same (40, [(0, .ref x0), (1, .int x1), (2, .int x2), (3, .int x3), (4, .int x4)], [], h, 0, 0)) : ∀ (n : Nat) (x0 : Nat) (x1 : Int32) (x2 : Int32) (x3 : Int32) (x4 : Int32) (x5 : Int32) (h : mh) {o : (mh × Int32)}, fxX7_same_58 N rec40 n x0 x1 x2 x3 x4 x5 h = some o → mB (gO mX7_same (o.1, some (.int o.2))) mX7_same (58, [(0, .ref x0), (1, .int x1), (2, .int x2), (3, .int x3), (4, .int x4), (5, .int x5)], [], h, 0, 0) := by
  intro n
  induction n with
  | zero => intro x0 x1 x2 x3 x4 x5 h o hq; cases hq
  | succ n ih =>
    intro x0 x1 x2 x3 x4 x5 h o hq
    unfold fxX7_same_58 at hq
    refine mB_run odX7_same 2 (g := (61, [(0, .ref x0), (1, .int x1), (2, .int x2), (3, .int x3), (4, .int x4), (5, .int x5)], [.int (3 : Int32), .int x5], h, 0, 0)) rfl ?_
    by_cases c22 : (3 : Int32) ≤ x5
    · rw [if_pos c22] at hq
      refine ic_ge_T (t := 101) odX7_same rfl rfl c22 ?_
      refine mB_run odX7_same 2 (g := (40, [(4, .int (x4 + (1 : Int32))), (0, .ref x0), (1, .int x1), (2, .int x2), (3, .int x3), (5, .int x5)], [], h, 0, 0)) rfl ?_
      refine mB_lv [1, 2, 3, 4, 0] (lv' := [(0, .ref x0), (1, .int x1), (2, .int x2), (3, .int x3), (4, .int (x4 + (1 : Int32)))]) rfl ?_
      exact hrec40 _ _ _ _ _ _ hq
    · rw [if_neg c22] at hq
      refine ic_ge_F (t := 101) odX7_same rfl rfl c22 ?_
      refine mB_run odX7_same 1 (g := (65, [(0, .ref x0), (1, .int x1), (2, .int x2), (3, .int x3), (4, .int x4), (5, .int x5)], [.int x3], h, 0, 0)) rfl ?_
      by_cases c23 : x3 = 0
      · rw [if_pos c23] at hq
        refine if_eq_T (t := 93) odX7_same rfl rfl c23 ?_
        refine mB_lv [0, 1, 2, 4, 5] (lv' := [(0, .ref x0), (1, .int x1), (2, .int x2), (4, .int x4), (5, .int x5)]) rfl ?_
        exact exX7_same_93 hrec40 ih _ _ _ _ _ _ hq
      · rw [if_neg c23] at hq
        refine if_eq_F (t := 93) odX7_same rfl rfl c23 ?_
        refine mB_run odX7_same 4 (g := (74, [(0, .ref x0), (1, .int x1), (2, .int x2), (3, .int x3), (4, .int x4), (5, .int x5)], [.int x5, .int x4, .int x1, .ref x0], h, 0, 0)) rfl ?_
        obtain ⟨f26, k27, hq⟩ := bsm hq
        obtain ⟨o24, e25, hq⟩ := bsm hq
        refine mB_V (as := [.int x1, .int x4, .int x5]) odX7_same okX7_corner lk_7_292 rfl (exX7_corner e25) (kO_at k27) rfl rfl rfl ?_
        show mB _ mX7_same (77, [(0, .ref x0), (1, .int x1), (2, .int x2), (3, .int x3), (4, .int x4), (5, .int x5)], [.int o24.2], o24.1, 0, 0)
        refine mB_run odX7_same 4 (g := (83, [(0, .ref x0), (1, .int x1), (2, .int x2), (3, .int x3), (4, .int x4), (5, .int x5)], [.int x5, .int x4, .int x2, .ref x0, .int o24.2], o24.1, 0, 0)) rfl ?_
        obtain ⟨f30, k31, hq⟩ := bsm hq
        obtain ⟨o28, e29, hq⟩ := bsm hq
        refine mB_V (as := [.int x2, .int x4, .int x5]) odX7_same okX7_corner lk_7_292 rfl (exX7_corner e29) (kO_at k31) rfl rfl rfl ?_
        show mB _ mX7_same (86, [(0, .ref x0), (1, .int x1), (2, .int x2), (3, .int x3), (4, .int x4), (5, .int x5)], [.int o28.2, .int o24.2], o28.1, 0, 0)
        by_cases c32 : o24.2 = o28.2
        · rw [if_pos c32] at hq
          refine ic_ne_F (t := 93) odX7_same rfl rfl c32 ?_
          refine mB_run odX7_same 2 (g := (94, [(0, .ref x0), (1, .int x1), (2, .int x2), (3, .int x3), (4, .int x4), (5, .int x5)], [.int (1 : Int32)], o28.1, 0, 0)) rfl ?_
          refine mB_lv [0, 1, 2, 4, 5] (lv' := [(0, .ref x0), (1, .int x1), (2, .int x2), (4, .int x4), (5, .int x5)]) rfl ?_
          exact exX7_same_94 hrec40 ih _ _ _ _ _ _ _ hq
        · rw [if_neg c32] at hq
          refine ic_ne_T (t := 93) odX7_same rfl rfl c32 ?_
          refine mB_lv [0, 1, 2, 4, 5] (lv' := [(0, .ref x0), (1, .int x1), (2, .int x2), (4, .int x4), (5, .int x5)]) rfl ?_
          exact exX7_same_93 hrec40 ih _ _ _ _ _ _ hq
def fxX7_same_107 (N : Nat) (x3 : Int32) (h : mh) : Option (mh × Int32) :=
  if x3 = 0 then (
    some (h, (0 : Int32))) else (
    some (h, (1 : Int32)))
set_option maxHeartbeats 4000000 in
set_option maxRecDepth 100000 in
theorem exX7_same_107 {N : Nat} (x3 : Int32) (h : mh) {o : (mh × Int32)} (hq : fxX7_same_107 N x3 h = some o) : mB (gO mX7_same (o.1, some (.int o.2))) mX7_same (107, [(3, .int x3)], [], h, 0, 0) := by
  unfold fxX7_same_107 at hq
  refine mB_run odX7_same 1 (g := (108, [(3, .int x3)], [.int x3], h, 0, 0)) rfl ?_
  by_cases c33 : x3 = 0
  · rw [if_pos c33] at hq
    refine if_eq_T (t := 115) odX7_same rfl rfl c33 ?_
    refine mB_run odX7_same 1 (g := (116, [(3, .int x3)], [.int (0 : Int32)], h, 0, 0)) rfl ?_
    cases hq
    exact mB_ret odX7_same rfl
  · rw [if_neg c33] at hq
    refine if_eq_F (t := 115) odX7_same rfl rfl c33 ?_
    refine mB_run odX7_same 2 (g := (116, [(3, .int x3)], [.int (1 : Int32)], h, 0, 0)) rfl ?_
    cases hq
    exact mB_ret odX7_same rfl
def fxX7_same_40 (N : Nat) : Nat → Nat → Int32 → Int32 → Int32 → Int32 → mh → Option (mh × Int32)
  | 0, _, _, _, _, _, _ => none
  | n + 1, x0, x1, x2, x3, x4, h =>
    (gR h x0 7 4).bind fun v16 =>
    (aI h v16 x1).bind fun v18 =>
    if v18 ≤ x4 then (
      fxX7_same_107 N x3 h) else (
      if x3 = 0 then (
        fxX7_same_107 N x3 h) else (
        fxX7_same_58 N (fxX7_same_40 N n) N x0 x1 x2 x3 x4 (0 : Int32) h))
set_option maxHeartbeats 4000000 in
set_option maxRecDepth 100000 in
theorem exX7_same_40 {N : Nat} : ∀ (n : Nat) (x0 : Nat) (x1 : Int32) (x2 : Int32) (x3 : Int32) (x4 : Int32) (h : mh) {o : (mh × Int32)}, fxX7_same_40 N n x0 x1 x2 x3 x4 h = some o → mB (gO mX7_same (o.1, some (.int o.2))) mX7_same (40, [(0, .ref x0), (1, .int x1), (2, .int x2), (3, .int x3), (4, .int x4)], [], h, 0, 0) := by
  intro n
  induction n with
  | zero => intro x0 x1 x2 x3 x4 h o hq; cases hq
  | succ n ih =>
    intro x0 x1 x2 x3 x4 h o hq
    unfold fxX7_same_40 at hq
    refine mB_run odX7_same 2 (g := (43, [(0, .ref x0), (1, .int x1), (2, .int x2), (3, .int x3), (4, .int x4)], [.ref x0, .int x4], h, 0, 0)) rfl ?_
    obtain ⟨v16, e17, hq⟩ := bsm hq
    refine r_gR odX7_same rfl rfl e17 ?_
    refine mB_run odX7_same 1 (g := (47, [(0, .ref x0), (1, .int x1), (2, .int x2), (3, .int x3), (4, .int x4)], [.int x1, .ref v16, .int x4], h, 0, 0)) rfl ?_
    obtain ⟨v18, e19, hq⟩ := bsm hq
    refine r_aI odX7_same rfl e19 ?_
    by_cases c20 : v18 ≤ x4
    · rw [if_pos c20] at hq
      refine ic_ge_T (t := 107) odX7_same rfl rfl c20 ?_
      refine mB_lv [3] (lv' := [(3, .int x3)]) rfl ?_
      exact exX7_same_107 _ _ hq
    · rw [if_neg c20] at hq
      refine ic_ge_F (t := 107) odX7_same rfl rfl c20 ?_
      refine mB_run odX7_same 1 (g := (52, [(0, .ref x0), (1, .int x1), (2, .int x2), (3, .int x3), (4, .int x4)], [.int x3], h, 0, 0)) rfl ?_
      by_cases c21 : x3 = 0
      · rw [if_pos c21] at hq
        refine if_eq_T (t := 107) odX7_same rfl rfl c21 ?_
        refine mB_lv [3] (lv' := [(3, .int x3)]) rfl ?_
        exact exX7_same_107 _ _ hq
      · rw [if_neg c21] at hq
        refine if_eq_F (t := 107) odX7_same rfl rfl c21 ?_
        refine mB_run odX7_same 2 (g := (58, [(5, .int (0 : Int32)), (0, .ref x0), (1, .int x1), (2, .int x2), (3, .int x3), (4, .int x4)], [], h, 0, 0)) rfl ?_
        refine mB_lv [1, 2, 3, 4, 5, 0] (lv' := [(0, .ref x0), (1, .int x1), (2, .int x2), (3, .int x3), (4, .int x4), (5, .int (0 : Int32))]) rfl ?_
        exact exX7_same_58 ih N _ _ _ _ _ _ _ hq
def fxX7_same_36 (N : Nat) (x0 : Nat) (x1 : Int32) (x2 : Int32) (s0 : Int32) (h : mh) : Option (mh × Int32) :=
  fxX7_same_40 N N x0 x1 x2 s0 (0 : Int32) h
set_option maxHeartbeats 4000000 in
set_option maxRecDepth 100000 in
theorem exX7_same_36 {N : Nat} (x0 : Nat) (x1 : Int32) (x2 : Int32) (s0 : Int32) (h : mh) {o : (mh × Int32)} (hq : fxX7_same_36 N x0 x1 x2 s0 h = some o) : mB (gO mX7_same (o.1, some (.int o.2))) mX7_same (36, [(0, .ref x0), (1, .int x1), (2, .int x2)], [.int s0], h, 0, 0) := by
  unfold fxX7_same_36 at hq
  refine mB_run odX7_same 3 (g := (40, [(4, .int (0 : Int32)), (3, .int s0), (0, .ref x0), (1, .int x1), (2, .int x2)], [], h, 0, 0)) rfl ?_
  refine mB_lv [2, 3, 4, 1, 0] (lv' := [(0, .ref x0), (1, .int x1), (2, .int x2), (3, .int s0), (4, .int (0 : Int32))]) rfl ?_
  exact exX7_same_40 N _ _ _ _ _ _ hq
def fxX7_same (N : Nat) (p0 : Nat) (p1 : Int32) (p2 : Int32) (h : mh) : Option (mh × Int32) :=
  (fxX7_isSolid N p1 h).bind fun o1 =>
  if o1.2 = 0 then (
    some (o1.1, (-1 : Int32))) else (
    (fxX7_isSolid N p2 o1.1).bind fun o4 =>
    if o4.2 = 0 then (
      some (o4.1, (-1 : Int32))) else (
      (gR o4.1 p0 7 4).bind fun v7 =>
      (aI o4.1 v7 p1).bind fun v9 =>
      (gR o4.1 p0 7 4).bind fun v11 =>
      (aI o4.1 v11 p2).bind fun v13 =>
      if v9 = v13 then (
        fxX7_same_36 N p0 p1 p2 (1 : Int32) o4.1) else (
        fxX7_same_36 N p0 p1 p2 (0 : Int32) o4.1)))
set_option maxHeartbeats 4000000 in
set_option maxRecDepth 100000 in
theorem exX7_same {N : Nat} {p0 : Nat} {p1 : Int32} {p2 : Int32} {h : mh} {o : (mh × Int32)} (hq : fxX7_same N p0 p1 p2 h = some o) : mC mX7_same [.ref p0, .int p1, .int p2] h (o.1, some (.int o.2)) := by
  refine mC_of okX7_same (Nat.le_of_ble_eq_true rfl) ?_
  unfold fxX7_same at hq
  show mB _ mX7_same (0, [(0, .ref p0), (1, .int p1), (2, .int p2)], [], h, 0, 0)
  refine mB_run odX7_same 1 (g := (1, [(0, .ref p0), (1, .int p1), (2, .int p2)], [.int p1], h, 0, 0)) rfl ?_
  obtain ⟨o1, e2, hq⟩ := bsm hq
  refine mB_S (as := [.int p1]) odX7_same okX7_isSolid lk_7_133 rfl (exX7_isSolid e2) rfl rfl rfl ?_
  show mB _ mX7_same (4, [(0, .ref p0), (1, .int p1), (2, .int p2)], [.int o1.2], o1.1, 0, 0)
  by_cases c3 : o1.2 = 0
  · rw [if_pos c3] at hq
    refine if_eq_T (t := 14) odX7_same rfl rfl c3 ?_
    refine mB_run odX7_same 1 (g := (15, [(0, .ref p0), (1, .int p1), (2, .int p2)], [.int (-1 : Int32)], o1.1, 0, 0)) rfl ?_
    cases hq
    exact mB_ret odX7_same rfl
  · rw [if_neg c3] at hq
    refine if_eq_F (t := 14) odX7_same rfl rfl c3 ?_
    refine mB_run odX7_same 1 (g := (8, [(0, .ref p0), (1, .int p1), (2, .int p2)], [.int p2], o1.1, 0, 0)) rfl ?_
    obtain ⟨o4, e5, hq⟩ := bsm hq
    refine mB_S (as := [.int p2]) odX7_same okX7_isSolid lk_7_133 rfl (exX7_isSolid e5) rfl rfl rfl ?_
    show mB _ mX7_same (11, [(0, .ref p0), (1, .int p1), (2, .int p2)], [.int o4.2], o4.1, 0, 0)
    by_cases c6 : o4.2 = 0
    · rw [if_pos c6] at hq
      refine if_ne_F (t := 16) odX7_same rfl rfl c6 ?_
      refine mB_run odX7_same 1 (g := (15, [(0, .ref p0), (1, .int p1), (2, .int p2)], [.int (-1 : Int32)], o4.1, 0, 0)) rfl ?_
      cases hq
      exact mB_ret odX7_same rfl
    · rw [if_neg c6] at hq
      refine if_ne_T (t := 16) odX7_same rfl rfl c6 ?_
      refine mB_run odX7_same 1 (g := (17, [(0, .ref p0), (1, .int p1), (2, .int p2)], [.ref p0], o4.1, 0, 0)) rfl ?_
      obtain ⟨v7, e8, hq⟩ := bsm hq
      refine r_gR odX7_same rfl rfl e8 ?_
      refine mB_run odX7_same 1 (g := (21, [(0, .ref p0), (1, .int p1), (2, .int p2)], [.int p1, .ref v7], o4.1, 0, 0)) rfl ?_
      obtain ⟨v9, e10, hq⟩ := bsm hq
      refine r_aI odX7_same rfl e10 ?_
      refine mB_run odX7_same 1 (g := (23, [(0, .ref p0), (1, .int p1), (2, .int p2)], [.ref p0, .int v9], o4.1, 0, 0)) rfl ?_
      obtain ⟨v11, e12, hq⟩ := bsm hq
      refine r_gR odX7_same rfl rfl e12 ?_
      refine mB_run odX7_same 1 (g := (27, [(0, .ref p0), (1, .int p1), (2, .int p2)], [.int p2, .ref v11, .int v9], o4.1, 0, 0)) rfl ?_
      obtain ⟨v13, e14, hq⟩ := bsm hq
      refine r_aI odX7_same rfl e14 ?_
      by_cases c15 : v9 = v13
      · rw [if_pos c15] at hq
        refine ic_ne_F (t := 35) odX7_same rfl rfl c15 ?_
        refine mB_run odX7_same 2 (g := (36, [(0, .ref p0), (1, .int p1), (2, .int p2)], [.int (1 : Int32)], o4.1, 0, 0)) rfl ?_
        refine mB_lv [0, 1, 2] (lv' := [(0, .ref p0), (1, .int p1), (2, .int p2)]) rfl ?_
        exact exX7_same_36 _ _ _ _ _ hq
      · rw [if_neg c15] at hq
        refine ic_ne_T (t := 35) odX7_same rfl rfl c15 ?_
        refine mB_run odX7_same 1 (g := (36, [(0, .ref p0), (1, .int p1), (2, .int p2)], [.int (0 : Int32)], o4.1, 0, 0)) rfl ?_
        refine mB_lv [0, 1, 2] (lv' := [(0, .ref p0), (1, .int p1), (2, .int p2)]) rfl ?_
        exact exX7_same_36 _ _ _ _ _ hq
def fxX7_move_84 (N : Nat) : Nat → Nat → Int32 → Int32 → Int32 → Int32 → Int32 → mh → Option (mh × Int32)
  | 0, _, _, _, _, _, _, _ => none
  | n + 1, x0, x1, x2, x3, x4, x5, h =>
    (gR h x0 7 4).bind fun v28 =>
    (aI h v28 x1).bind fun v30 =>
    if (((24 : Int32) * x1) + v30) ≤ x5 then (
      some (h, (1 : Int32))) else (
      (gR h x0 7 6).bind fun v33 =>
      (aI h v33 x5).bind fun v35 =>
      (wI h v33 x5 (v35 + x2)).bind fun h37 =>
      (gR h37 x0 7 7).bind fun v39 =>
      (aI h37 v39 x5).bind fun v41 =>
      (wI h37 v39 x5 (v41 + x3)).bind fun h43 =>
      (gR h43 x0 7 8).bind fun v45 =>
      (aI h43 v45 x5).bind fun v47 =>
      (wI h43 v45 x5 (v47 + x4)).bind fun h49 =>
      fxX7_move_84 N n x0 x1 x2 x3 x4 (x5 + (1 : Int32)) h49)
set_option maxHeartbeats 4000000 in
set_option maxRecDepth 100000 in
theorem exX7_move_84 {N : Nat} : ∀ (n : Nat) (x0 : Nat) (x1 : Int32) (x2 : Int32) (x3 : Int32) (x4 : Int32) (x5 : Int32) (h : mh) {o : (mh × Int32)}, fxX7_move_84 N n x0 x1 x2 x3 x4 x5 h = some o → mB (gO mX7_move (o.1, some (.int o.2))) mX7_move (84, [(0, .ref x0), (1, .int x1), (2, .int x2), (3, .int x3), (4, .int x4), (5, .int x5)], [], h, 0, 0) := by
  intro n
  induction n with
  | zero => intro x0 x1 x2 x3 x4 x5 h o hq; cases hq
  | succ n ih =>
    intro x0 x1 x2 x3 x4 x5 h o hq
    unfold fxX7_move_84 at hq
    refine mB_run odX7_move 5 (g := (91, [(0, .ref x0), (1, .int x1), (2, .int x2), (3, .int x3), (4, .int x4), (5, .int x5)], [.ref x0, .int ((24 : Int32) * x1), .int x5], h, 0, 0)) rfl ?_
    obtain ⟨v28, e29, hq⟩ := bsm hq
    refine r_gR odX7_move rfl rfl e29 ?_
    refine mB_run odX7_move 1 (g := (95, [(0, .ref x0), (1, .int x1), (2, .int x2), (3, .int x3), (4, .int x4), (5, .int x5)], [.int x1, .ref v28, .int ((24 : Int32) * x1), .int x5], h, 0, 0)) rfl ?_
    obtain ⟨v30, e31, hq⟩ := bsm hq
    refine r_aI odX7_move rfl e31 ?_
    refine mB_run odX7_move 1 (g := (97, [(0, .ref x0), (1, .int x1), (2, .int x2), (3, .int x3), (4, .int x4), (5, .int x5)], [.int (((24 : Int32) * x1) + v30), .int x5], h, 0, 0)) rfl ?_
    by_cases c32 : (((24 : Int32) * x1) + v30) ≤ x5
    · rw [if_pos c32] at hq
      refine ic_ge_T (t := 140) odX7_move rfl rfl c32 ?_
      refine mB_run odX7_move 1 (g := (141, [(0, .ref x0), (1, .int x1), (2, .int x2), (3, .int x3), (4, .int x4), (5, .int x5)], [.int (1 : Int32)], h, 0, 0)) rfl ?_
      cases hq
      exact mB_ret odX7_move rfl
    · rw [if_neg c32] at hq
      refine ic_ge_F (t := 140) odX7_move rfl rfl c32 ?_
      refine mB_run odX7_move 1 (g := (101, [(0, .ref x0), (1, .int x1), (2, .int x2), (3, .int x3), (4, .int x4), (5, .int x5)], [.ref x0], h, 0, 0)) rfl ?_
      obtain ⟨v33, e34, hq⟩ := bsm hq
      refine r_gR odX7_move rfl rfl e34 ?_
      refine mB_run odX7_move 2 (g := (107, [(0, .ref x0), (1, .int x1), (2, .int x2), (3, .int x3), (4, .int x4), (5, .int x5)], [.int x5, .ref v33, .int x5, .ref v33], h, 0, 0)) rfl ?_
      obtain ⟨v35, e36, hq⟩ := bsm hq
      refine r_aI odX7_move rfl e36 ?_
      refine mB_run odX7_move 2 (g := (110, [(0, .ref x0), (1, .int x1), (2, .int x2), (3, .int x3), (4, .int x4), (5, .int x5)], [.int (v35 + x2), .int x5, .ref v33], h, 0, 0)) rfl ?_
      obtain ⟨h37, e38, hq⟩ := bsm hq
      refine r_wI odX7_move rfl e38 ?_
      refine mB_run odX7_move 1 (g := (112, [(0, .ref x0), (1, .int x1), (2, .int x2), (3, .int x3), (4, .int x4), (5, .int x5)], [.ref x0], h37, 0, 0)) rfl ?_
      obtain ⟨v39, e40, hq⟩ := bsm hq
      refine r_gR odX7_move rfl rfl e40 ?_
      refine mB_run odX7_move 2 (g := (118, [(0, .ref x0), (1, .int x1), (2, .int x2), (3, .int x3), (4, .int x4), (5, .int x5)], [.int x5, .ref v39, .int x5, .ref v39], h37, 0, 0)) rfl ?_
      obtain ⟨v41, e42, hq⟩ := bsm hq
      refine r_aI odX7_move rfl e42 ?_
      refine mB_run odX7_move 2 (g := (121, [(0, .ref x0), (1, .int x1), (2, .int x2), (3, .int x3), (4, .int x4), (5, .int x5)], [.int (v41 + x3), .int x5, .ref v39], h37, 0, 0)) rfl ?_
      obtain ⟨h43, e44, hq⟩ := bsm hq
      refine r_wI odX7_move rfl e44 ?_
      refine mB_run odX7_move 1 (g := (123, [(0, .ref x0), (1, .int x1), (2, .int x2), (3, .int x3), (4, .int x4), (5, .int x5)], [.ref x0], h43, 0, 0)) rfl ?_
      obtain ⟨v45, e46, hq⟩ := bsm hq
      refine r_gR odX7_move rfl rfl e46 ?_
      refine mB_run odX7_move 2 (g := (129, [(0, .ref x0), (1, .int x1), (2, .int x2), (3, .int x3), (4, .int x4), (5, .int x5)], [.int x5, .ref v45, .int x5, .ref v45], h43, 0, 0)) rfl ?_
      obtain ⟨v47, e48, hq⟩ := bsm hq
      refine r_aI odX7_move rfl e48 ?_
      refine mB_run odX7_move 2 (g := (133, [(0, .ref x0), (1, .int x1), (2, .int x2), (3, .int x3), (4, .int x4), (5, .int x5)], [.int (v47 + x4), .int x5, .ref v45], h43, 0, 0)) rfl ?_
      obtain ⟨h49, e50, hq⟩ := bsm hq
      refine r_wI odX7_move rfl e50 ?_
      refine mB_run odX7_move 2 (g := (84, [(5, .int (x5 + (1 : Int32))), (0, .ref x0), (1, .int x1), (2, .int x2), (3, .int x3), (4, .int x4)], [], h49, 0, 0)) rfl ?_
      refine mB_lv [1, 2, 3, 4, 5, 0] (lv' := [(0, .ref x0), (1, .int x1), (2, .int x2), (3, .int x3), (4, .int x4), (5, .int (x5 + (1 : Int32)))]) rfl ?_
      exact ih _ _ _ _ _ _ _ hq
def fxX7_move_12 (N : Nat) : Nat → Nat → Int32 → Int32 → Int32 → Int32 → Int32 → mh → Option (mh × Int32)
  | 0, _, _, _, _, _, _, _ => none
  | n + 1, x0, x1, x2, x3, x4, x5, h =>
    (gR h x0 7 4).bind fun v4 =>
    (aI h v4 x1).bind fun v6 =>
    if v6 ≤ x5 then (
      (kO h x0 7).bind fun f11 =>
      (fxX7_keeps N x0 h).bind fun o9 =>
      fxX7_move_84 N N x0 x1 x2 x3 x4 ((24 : Int32) * x1) o9) else (
      (kO h x0 7).bind fun f15 =>
      (fxX7_corner N x0 x1 x5 (0 : Int32) h).bind fun o13 =>
      (kO o13.1 x0 7).bind fun f19 =>
      (fxX7_corner N x0 x1 x5 (1 : Int32) o13.1).bind fun o17 =>
      (kO o17.1 x0 7).bind fun f23 =>
      (fxX7_corner N x0 x1 x5 (2 : Int32) o17.1).bind fun o21 =>
      (fxX7_isPoint N (o13.2.toInt64 + x2.toInt64) (o17.2.toInt64 + x3.toInt64) (o21.2.toInt64 + x4.toInt64) o21.1).bind fun o25 =>
      if o25.2 = 0 then (
        some (o25.1, (0 : Int32))) else (
        fxX7_move_12 N n x0 x1 x2 x3 x4 (x5 + (1 : Int32)) o25.1))
set_option maxHeartbeats 4000000 in
set_option maxRecDepth 100000 in
theorem exX7_move_12 {N : Nat} : ∀ (n : Nat) (x0 : Nat) (x1 : Int32) (x2 : Int32) (x3 : Int32) (x4 : Int32) (x5 : Int32) (h : mh) {o : (mh × Int32)}, fxX7_move_12 N n x0 x1 x2 x3 x4 x5 h = some o → mB (gO mX7_move (o.1, some (.int o.2))) mX7_move (12, [(0, .ref x0), (1, .int x1), (2, .int x2), (3, .int x3), (4, .int x4), (5, .int x5)], [], h, 0, 0) := by
  intro n
  induction n with
  | zero => intro x0 x1 x2 x3 x4 x5 h o hq; cases hq
  | succ n ih =>
    intro x0 x1 x2 x3 x4 x5 h o hq
    unfold fxX7_move_12 at hq
    refine mB_run odX7_move 2 (g := (15, [(0, .ref x0), (1, .int x1), (2, .int x2), (3, .int x3), (4, .int x4), (5, .int x5)], [.ref x0, .int x5], h, 0, 0)) rfl ?_
    obtain ⟨v4, e5, hq⟩ := bsm hq
    refine r_gR odX7_move rfl rfl e5 ?_
    refine mB_run odX7_move 1 (g := (19, [(0, .ref x0), (1, .int x1), (2, .int x2), (3, .int x3), (4, .int x4), (5, .int x5)], [.int x1, .ref v4, .int x5], h, 0, 0)) rfl ?_
    obtain ⟨v6, e7, hq⟩ := bsm hq
    refine r_aI odX7_move rfl e7 ?_
    by_cases c8 : v6 ≤ x5
    · rw [if_pos c8] at hq
      refine ic_ge_T (t := 74) odX7_move rfl rfl c8 ?_
      refine mB_run odX7_move 1 (g := (75, [(0, .ref x0), (1, .int x1), (2, .int x2), (3, .int x3), (4, .int x4), (5, .int x5)], [.ref x0], h, 0, 0)) rfl ?_
      obtain ⟨f11, k12, hq⟩ := bsm hq
      obtain ⟨o9, e10, hq⟩ := bsm hq
      refine mB_V (as := []) odX7_move okX7_keeps lk_7_237 rfl (exX7_keeps e10) (kO_at k12) rfl rfl rfl ?_
      show mB _ mX7_move (78, [(0, .ref x0), (1, .int x1), (2, .int x2), (3, .int x3), (4, .int x4), (5, .int x5)], [], o9, 0, 0)
      refine mB_run odX7_move 4 (g := (84, [(5, .int ((24 : Int32) * x1)), (0, .ref x0), (1, .int x1), (2, .int x2), (3, .int x3), (4, .int x4)], [], o9, 0, 0)) rfl ?_
      refine mB_lv [1, 2, 3, 4, 5, 0] (lv' := [(0, .ref x0), (1, .int x1), (2, .int x2), (3, .int x3), (4, .int x4), (5, .int ((24 : Int32) * x1))]) rfl ?_
      exact exX7_move_84 N _ _ _ _ _ _ _ hq
    · rw [if_neg c8] at hq
      refine ic_ge_F (t := 74) odX7_move rfl rfl c8 ?_
      refine mB_run odX7_move 4 (g := (28, [(0, .ref x0), (1, .int x1), (2, .int x2), (3, .int x3), (4, .int x4), (5, .int x5)], [.int (0 : Int32), .int x5, .int x1, .ref x0], h, 0, 0)) rfl ?_
      obtain ⟨f15, k16, hq⟩ := bsm hq
      obtain ⟨o13, e14, hq⟩ := bsm hq
      refine mB_V (as := [.int x1, .int x5, .int (0 : Int32)]) odX7_move okX7_corner lk_7_292 rfl (exX7_corner e14) (kO_at k16) rfl rfl rfl ?_
      show mB _ mX7_move (31, [(0, .ref x0), (1, .int x1), (2, .int x2), (3, .int x3), (4, .int x4), (5, .int x5)], [.int o13.2], o13.1, 0, 0)
      refine mB_run odX7_move 8 (g := (40, [(0, .ref x0), (1, .int x1), (2, .int x2), (3, .int x3), (4, .int x4), (5, .int x5)], [.int (1 : Int32), .int x5, .int x1, .ref x0, .long (o13.2.toInt64 + x2.toInt64)], o13.1, 0, 0)) rfl ?_
      obtain ⟨f19, k20, hq⟩ := bsm hq
      obtain ⟨o17, e18, hq⟩ := bsm hq
      refine mB_V (as := [.int x1, .int x5, .int (1 : Int32)]) odX7_move okX7_corner lk_7_292 rfl (exX7_corner e18) (kO_at k20) rfl rfl rfl ?_
      show mB _ mX7_move (43, [(0, .ref x0), (1, .int x1), (2, .int x2), (3, .int x3), (4, .int x4), (5, .int x5)], [.int o17.2, .long (o13.2.toInt64 + x2.toInt64)], o17.1, 0, 0)
      refine mB_run odX7_move 8 (g := (52, [(0, .ref x0), (1, .int x1), (2, .int x2), (3, .int x3), (4, .int x4), (5, .int x5)], [.int (2 : Int32), .int x5, .int x1, .ref x0, .long (o17.2.toInt64 + x3.toInt64), .long (o13.2.toInt64 + x2.toInt64)], o17.1, 0, 0)) rfl ?_
      obtain ⟨f23, k24, hq⟩ := bsm hq
      obtain ⟨o21, e22, hq⟩ := bsm hq
      refine mB_V (as := [.int x1, .int x5, .int (2 : Int32)]) odX7_move okX7_corner lk_7_292 rfl (exX7_corner e22) (kO_at k24) rfl rfl rfl ?_
      show mB _ mX7_move (55, [(0, .ref x0), (1, .int x1), (2, .int x2), (3, .int x3), (4, .int x4), (5, .int x5)], [.int o21.2, .long (o17.2.toInt64 + x3.toInt64), .long (o13.2.toInt64 + x2.toInt64)], o21.1, 0, 0)
      refine mB_run odX7_move 4 (g := (60, [(0, .ref x0), (1, .int x1), (2, .int x2), (3, .int x3), (4, .int x4), (5, .int x5)], [.long (o21.2.toInt64 + x4.toInt64), .long (o17.2.toInt64 + x3.toInt64), .long (o13.2.toInt64 + x2.toInt64)], o21.1, 0, 0)) rfl ?_
      obtain ⟨o25, e26, hq⟩ := bsm hq
      refine mB_S (as := [.long (o13.2.toInt64 + x2.toInt64), .long (o17.2.toInt64 + x3.toInt64), .long (o21.2.toInt64 + x4.toInt64)]) odX7_move okX7_isPoint lk_7_137 rfl (exX7_isPoint e26) rfl rfl rfl ?_
      show mB _ mX7_move (63, [(0, .ref x0), (1, .int x1), (2, .int x2), (3, .int x3), (4, .int x4), (5, .int x5)], [.int o25.2], o25.1, 0, 0)
      by_cases c27 : o25.2 = 0
      · rw [if_pos c27] at hq
        refine if_ne_F (t := 68) odX7_move rfl rfl c27 ?_
        refine mB_run odX7_move 1 (g := (67, [(0, .ref x0), (1, .int x1), (2, .int x2), (3, .int x3), (4, .int x4), (5, .int x5)], [.int (0 : Int32)], o25.1, 0, 0)) rfl ?_
        cases hq
        exact mB_ret odX7_move rfl
      · rw [if_neg c27] at hq
        refine if_ne_T (t := 68) odX7_move rfl rfl c27 ?_
        refine mB_run odX7_move 2 (g := (12, [(5, .int (x5 + (1 : Int32))), (0, .ref x0), (1, .int x1), (2, .int x2), (3, .int x3), (4, .int x4)], [], o25.1, 0, 0)) rfl ?_
        refine mB_lv [1, 2, 3, 4, 5, 0] (lv' := [(0, .ref x0), (1, .int x1), (2, .int x2), (3, .int x3), (4, .int x4), (5, .int (x5 + (1 : Int32)))]) rfl ?_
        exact ih _ _ _ _ _ _ _ hq
def fxX7_move (N : Nat) (p0 : Nat) (p1 : Int32) (p2 : Int32) (p3 : Int32) (p4 : Int32) (h : mh) : Option (mh × Int32) :=
  (fxX7_isSolid N p1 h).bind fun o1 =>
  if o1.2 = 0 then (
    some (o1.1, (0 : Int32))) else (
    fxX7_move_12 N N p0 p1 p2 p3 p4 (0 : Int32) o1.1)
set_option maxHeartbeats 4000000 in
set_option maxRecDepth 100000 in
theorem exX7_move {N : Nat} {p0 : Nat} {p1 : Int32} {p2 : Int32} {p3 : Int32} {p4 : Int32} {h : mh} {o : (mh × Int32)} (hq : fxX7_move N p0 p1 p2 p3 p4 h = some o) : mC mX7_move [.ref p0, .int p1, .int p2, .int p3, .int p4] h (o.1, some (.int o.2)) := by
  refine mC_of okX7_move (Nat.le_of_ble_eq_true rfl) ?_
  unfold fxX7_move at hq
  show mB _ mX7_move (0, [(0, .ref p0), (1, .int p1), (2, .int p2), (3, .int p3), (4, .int p4)], [], h, 0, 0)
  refine mB_run odX7_move 1 (g := (1, [(0, .ref p0), (1, .int p1), (2, .int p2), (3, .int p3), (4, .int p4)], [.int p1], h, 0, 0)) rfl ?_
  obtain ⟨o1, e2, hq⟩ := bsm hq
  refine mB_S (as := [.int p1]) odX7_move okX7_isSolid lk_7_133 rfl (exX7_isSolid e2) rfl rfl rfl ?_
  show mB _ mX7_move (4, [(0, .ref p0), (1, .int p1), (2, .int p2), (3, .int p3), (4, .int p4)], [.int o1.2], o1.1, 0, 0)
  by_cases c3 : o1.2 = 0
  · rw [if_pos c3] at hq
    refine if_ne_F (t := 9) odX7_move rfl rfl c3 ?_
    refine mB_run odX7_move 1 (g := (8, [(0, .ref p0), (1, .int p1), (2, .int p2), (3, .int p3), (4, .int p4)], [.int (0 : Int32)], o1.1, 0, 0)) rfl ?_
    cases hq
    exact mB_ret odX7_move rfl
  · rw [if_neg c3] at hq
    refine if_ne_T (t := 9) odX7_move rfl rfl c3 ?_
    refine mB_run odX7_move 2 (g := (12, [(5, .int (0 : Int32)), (0, .ref p0), (1, .int p1), (2, .int p2), (3, .int p3), (4, .int p4)], [], o1.1, 0, 0)) rfl ?_
    refine mB_lv [1, 2, 3, 4, 5, 0] (lv' := [(0, .ref p0), (1, .int p1), (2, .int p2), (3, .int p3), (4, .int p4), (5, .int (0 : Int32))]) rfl ?_
    exact exX7_move_12 N _ _ _ _ _ _ _ hq
def fxX7_orders_7 (N : Nat) : Nat → Nat → Int32 → Int32 → mh → Option mh
  | 0, _, _, _, _ => none
  | n + 1, x0, x1, x2, h =>
    (gI h x0 7 15).bind fun v5 =>
    if v5 ≤ x2 then (
      some h) else (
      (gR h x0 7 6).bind fun v8 =>
      (gR h x0 7 16).bind fun v10 =>
      (aJ h v10 x2).bind fun v12 =>
      (wI h v8 (((24 : Int32) * x1) + x2) v12.toInt32).bind fun h14 =>
      (gR h14 x0 7 7).bind fun v16 =>
      (gR h14 x0 7 17).bind fun v18 =>
      (aJ h14 v18 x2).bind fun v20 =>
      (wI h14 v16 (((24 : Int32) * x1) + x2) v20.toInt32).bind fun h22 =>
      (gR h22 x0 7 8).bind fun v24 =>
      (gR h22 x0 7 18).bind fun v26 =>
      (aJ h22 v26 x2).bind fun v28 =>
      (wI h22 v24 (((24 : Int32) * x1) + x2) v28.toInt32).bind fun h30 =>
      fxX7_orders_7 N n x0 x1 (x2 + (1 : Int32)) h30)
set_option maxHeartbeats 4000000 in
set_option maxRecDepth 100000 in
theorem exX7_orders_7 {N : Nat} : ∀ (n : Nat) (x0 : Nat) (x1 : Int32) (x2 : Int32) (h : mh) {o : mh}, fxX7_orders_7 N n x0 x1 x2 h = some o → mB (gO mX7_orders (o, none)) mX7_orders (7, [(0, .ref x0), (1, .int x1), (2, .int x2)], [], h, 0, 0) := by
  intro n
  induction n with
  | zero => intro x0 x1 x2 h o hq; cases hq
  | succ n ih =>
    intro x0 x1 x2 h o hq
    unfold fxX7_orders_7 at hq
    refine mB_run odX7_orders 2 (g := (9, [(0, .ref x0), (1, .int x1), (2, .int x2)], [.ref x0, .int x2], h, 0, 0)) rfl ?_
    obtain ⟨v5, e6, hq⟩ := bsm hq
    refine r_gI odX7_orders rfl rfl e6 ?_
    by_cases c7 : v5 ≤ x2
    · rw [if_pos c7] at hq
      refine ic_ge_T (t := 75) odX7_orders rfl rfl c7 ?_
      cases hq
      exact mB_ret odX7_orders rfl
    · rw [if_neg c7] at hq
      refine ic_ge_F (t := 75) odX7_orders rfl rfl c7 ?_
      refine mB_run odX7_orders 1 (g := (16, [(0, .ref x0), (1, .int x1), (2, .int x2)], [.ref x0], h, 0, 0)) rfl ?_
      obtain ⟨v8, e9, hq⟩ := bsm hq
      refine r_gR odX7_orders rfl rfl e9 ?_
      refine mB_run odX7_orders 6 (g := (26, [(0, .ref x0), (1, .int x1), (2, .int x2)], [.ref x0, .int (((24 : Int32) * x1) + x2), .ref v8], h, 0, 0)) rfl ?_
      obtain ⟨v10, e11, hq⟩ := bsm hq
      refine r_gR odX7_orders rfl rfl e11 ?_
      refine mB_run odX7_orders 1 (g := (30, [(0, .ref x0), (1, .int x1), (2, .int x2)], [.int x2, .ref v10, .int (((24 : Int32) * x1) + x2), .ref v8], h, 0, 0)) rfl ?_
      obtain ⟨v12, e13, hq⟩ := bsm hq
      refine r_aJ odX7_orders rfl e13 ?_
      refine mB_run odX7_orders 1 (g := (32, [(0, .ref x0), (1, .int x1), (2, .int x2)], [.int v12.toInt32, .int (((24 : Int32) * x1) + x2), .ref v8], h, 0, 0)) rfl ?_
      obtain ⟨h14, e15, hq⟩ := bsm hq
      refine r_wI odX7_orders rfl e15 ?_
      refine mB_run odX7_orders 1 (g := (34, [(0, .ref x0), (1, .int x1), (2, .int x2)], [.ref x0], h14, 0, 0)) rfl ?_
      obtain ⟨v16, e17, hq⟩ := bsm hq
      refine r_gR odX7_orders rfl rfl e17 ?_
      refine mB_run odX7_orders 6 (g := (44, [(0, .ref x0), (1, .int x1), (2, .int x2)], [.ref x0, .int (((24 : Int32) * x1) + x2), .ref v16], h14, 0, 0)) rfl ?_
      obtain ⟨v18, e19, hq⟩ := bsm hq
      refine r_gR odX7_orders rfl rfl e19 ?_
      refine mB_run odX7_orders 1 (g := (48, [(0, .ref x0), (1, .int x1), (2, .int x2)], [.int x2, .ref v18, .int (((24 : Int32) * x1) + x2), .ref v16], h14, 0, 0)) rfl ?_
      obtain ⟨v20, e21, hq⟩ := bsm hq
      refine r_aJ odX7_orders rfl e21 ?_
      refine mB_run odX7_orders 1 (g := (50, [(0, .ref x0), (1, .int x1), (2, .int x2)], [.int v20.toInt32, .int (((24 : Int32) * x1) + x2), .ref v16], h14, 0, 0)) rfl ?_
      obtain ⟨h22, e23, hq⟩ := bsm hq
      refine r_wI odX7_orders rfl e23 ?_
      refine mB_run odX7_orders 1 (g := (52, [(0, .ref x0), (1, .int x1), (2, .int x2)], [.ref x0], h22, 0, 0)) rfl ?_
      obtain ⟨v24, e25, hq⟩ := bsm hq
      refine r_gR odX7_orders rfl rfl e25 ?_
      refine mB_run odX7_orders 6 (g := (62, [(0, .ref x0), (1, .int x1), (2, .int x2)], [.ref x0, .int (((24 : Int32) * x1) + x2), .ref v24], h22, 0, 0)) rfl ?_
      obtain ⟨v26, e27, hq⟩ := bsm hq
      refine r_gR odX7_orders rfl rfl e27 ?_
      refine mB_run odX7_orders 1 (g := (66, [(0, .ref x0), (1, .int x1), (2, .int x2)], [.int x2, .ref v26, .int (((24 : Int32) * x1) + x2), .ref v24], h22, 0, 0)) rfl ?_
      obtain ⟨v28, e29, hq⟩ := bsm hq
      refine r_aJ odX7_orders rfl e29 ?_
      refine mB_run odX7_orders 1 (g := (68, [(0, .ref x0), (1, .int x1), (2, .int x2)], [.int v28.toInt32, .int (((24 : Int32) * x1) + x2), .ref v24], h22, 0, 0)) rfl ?_
      obtain ⟨h30, e31, hq⟩ := bsm hq
      refine r_wI odX7_orders rfl e31 ?_
      refine mB_run odX7_orders 2 (g := (7, [(2, .int (x2 + (1 : Int32))), (0, .ref x0), (1, .int x1)], [], h30, 0, 0)) rfl ?_
      refine mB_lv [1, 2, 0] (lv' := [(0, .ref x0), (1, .int x1), (2, .int (x2 + (1 : Int32)))]) rfl ?_
      exact ih _ _ _ _ hq
def fxX7_orders (N : Nat) (p0 : Nat) (p1 : Int32) (h : mh) : Option mh :=
  (kO h p0 7).bind fun f3 =>
  (fxX7_loads N p0 p1 h).bind fun o1 =>
  fxX7_orders_7 N N p0 p1 (0 : Int32) o1
set_option maxHeartbeats 4000000 in
set_option maxRecDepth 100000 in
theorem exX7_orders {N : Nat} {p0 : Nat} {p1 : Int32} {h : mh} {o : mh} (hq : fxX7_orders N p0 p1 h = some o) : mC mX7_orders [.ref p0, .int p1] h (o, none) := by
  refine mC_of okX7_orders (Nat.le_of_ble_eq_true rfl) ?_
  unfold fxX7_orders at hq
  show mB _ mX7_orders (0, [(0, .ref p0), (1, .int p1)], [], h, 0, 0)
  refine mB_run odX7_orders 2 (g := (2, [(0, .ref p0), (1, .int p1)], [.int p1, .ref p0], h, 0, 0)) rfl ?_
  obtain ⟨f3, k4, hq⟩ := bsm hq
  obtain ⟨o1, e2, hq⟩ := bsm hq
  refine mB_V (as := [.int p1]) odX7_orders okX7_loads lk_7_226 rfl (exX7_loads e2) (kO_at k4) rfl rfl rfl ?_
  show mB _ mX7_orders (5, [(0, .ref p0), (1, .int p1)], [], o1, 0, 0)
  refine mB_run odX7_orders 2 (g := (7, [(2, .int (0 : Int32)), (0, .ref p0), (1, .int p1)], [], o1, 0, 0)) rfl ?_
  refine mB_lv [1, 2, 0] (lv' := [(0, .ref p0), (1, .int p1), (2, .int (0 : Int32))]) rfl ?_
  exact exX7_orders_7 N _ _ _ _ hq
def fxX7_mirror_110 (N : Nat) (rec27 : Nat → Int32 → Int32 → Int32 → mh → Option (mh × Int32)) (x0 : Nat) (x1 : Int32) (x2 : Int32) (x3 : Int32) (h : mh) : Option (mh × Int32) :=
  rec27 x0 x1 x2 (x3 + (1 : Int32)) h
set_option maxHeartbeats 4000000 in
set_option maxRecDepth 100000 in
theorem exX7_mirror_110 {N : Nat} {rec27 : Nat → Int32 → Int32 → Int32 → mh → Option (mh × Int32)} (hrec27 : ∀ (x0 : Nat) (x1 : Int32) (x2 : Int32) (x3 : Int32) (h : mh) {o : (mh × Int32)}, rec27 x0 x1 x2 x3 h = some o → mB (gO mX7_mirror (o.1, some (.int o.2))) mX7_mirror (27, [(0, .ref x0), (1, .int x1), (2, .int x2), (3, .int x3)], [], h, 0, 0)) (x0 : Nat) (x1 : Int32) (x2 : Int32) (x3 : Int32) (h : mh) {o : (mh × Int32)} (hq : fxX7_mirror_110 N rec27 x0 x1 x2 x3 h = some o) : mB (gO mX7_mirror (o.1, some (.int o.2))) mX7_mirror (110, [(0, .ref x0), (1, .int x1), (2, .int x2), (3, .int x3)], [], h, 0, 0) := by
  unfold fxX7_mirror_110 at hq
  refine mB_run odX7_mirror 2 (g := (27, [(3, .int (x3 + (1 : Int32))), (0, .ref x0), (1, .int x1), (2, .int x2)], [], h, 0, 0)) rfl ?_
  refine mB_lv [1, 2, 3, 0] (lv' := [(0, .ref x0), (1, .int x1), (2, .int x2), (3, .int (x3 + (1 : Int32)))]) rfl ?_
  exact hrec27 _ _ _ _ _ hq
def fxX7_mirror_97 (N : Nat) (rec27 : Nat → Int32 → Int32 → Int32 → mh → Option (mh × Int32)) (x0 : Nat) (x1 : Int32) (x2 : Int32) (x3 : Int32) (h : mh) : Option (mh × Int32) :=
  (gR h x0 7 8).bind fun v25 =>
  (gR h x0 7 8).bind fun v27 =>
  (aI h v27 x3).bind fun v29 =>
  (wI h v25 x3 (-v29)).bind fun h31 =>
  fxX7_mirror_110 N rec27 x0 x1 x2 x3 h31
set_option maxHeartbeats 4000000 in
set_option maxRecDepth 100000 in
theorem exX7_mirror_97 {N : Nat} {rec27 : Nat → Int32 → Int32 → Int32 → mh → Option (mh × Int32)} (hrec27 : ∀ (x0 : Nat) (x1 : Int32) (x2 : Int32) (x3 : Int32) (h : mh) {o : (mh × Int32)}, rec27 x0 x1 x2 x3 h = some o → mB (gO mX7_mirror (o.1, some (.int o.2))) mX7_mirror (27, [(0, .ref x0), (1, .int x1), (2, .int x2), (3, .int x3)], [], h, 0, 0)) (x0 : Nat) (x1 : Int32) (x2 : Int32) (x3 : Int32) (h : mh) {o : (mh × Int32)} (hq : fxX7_mirror_97 N rec27 x0 x1 x2 x3 h = some o) : mB (gO mX7_mirror (o.1, some (.int o.2))) mX7_mirror (97, [(0, .ref x0), (1, .int x1), (2, .int x2), (3, .int x3)], [], h, 0, 0) := by
  unfold fxX7_mirror_97 at hq
  refine mB_run odX7_mirror 1 (g := (98, [(0, .ref x0), (1, .int x1), (2, .int x2), (3, .int x3)], [.ref x0], h, 0, 0)) rfl ?_
  obtain ⟨v25, e26, hq⟩ := bsm hq
  refine r_gR odX7_mirror rfl rfl e26 ?_
  refine mB_run odX7_mirror 2 (g := (103, [(0, .ref x0), (1, .int x1), (2, .int x2), (3, .int x3)], [.ref x0, .int x3, .ref v25], h, 0, 0)) rfl ?_
  obtain ⟨v27, e28, hq⟩ := bsm hq
  refine r_gR odX7_mirror rfl rfl e28 ?_
  refine mB_run odX7_mirror 1 (g := (107, [(0, .ref x0), (1, .int x1), (2, .int x2), (3, .int x3)], [.int x3, .ref v27, .int x3, .ref v25], h, 0, 0)) rfl ?_
  obtain ⟨v29, e30, hq⟩ := bsm hq
  refine r_aI odX7_mirror rfl e30 ?_
  refine mB_run odX7_mirror 1 (g := (109, [(0, .ref x0), (1, .int x1), (2, .int x2), (3, .int x3)], [.int (-v29), .int x3, .ref v25], h, 0, 0)) rfl ?_
  obtain ⟨h31, e32, hq⟩ := bsm hq
  refine r_wI odX7_mirror rfl e32 ?_
  refine mB_lv [0, 1, 2, 3] (lv' := [(0, .ref x0), (1, .int x1), (2, .int x2), (3, .int x3)]) rfl ?_
  exact exX7_mirror_110 hrec27 _ _ _ _ _ hq
def fxX7_mirror_87 (N : Nat) (rec27 : Nat → Int32 → Int32 → Int32 → mh → Option (mh × Int32)) (x0 : Nat) (x1 : Int32) (x2 : Int32) (x3 : Int32) (h : mh) : Option (mh × Int32) :=
  if x2 = (2 : Int32) then (
    fxX7_mirror_97 N rec27 x0 x1 x2 x3 h) else (
    if x2 = (3 : Int32) then (
      fxX7_mirror_97 N rec27 x0 x1 x2 x3 h) else (
      fxX7_mirror_110 N rec27 x0 x1 x2 x3 h))
set_option maxHeartbeats 4000000 in
set_option maxRecDepth 100000 in
theorem exX7_mirror_87 {N : Nat} {rec27 : Nat → Int32 → Int32 → Int32 → mh → Option (mh × Int32)} (hrec27 : ∀ (x0 : Nat) (x1 : Int32) (x2 : Int32) (x3 : Int32) (h : mh) {o : (mh × Int32)}, rec27 x0 x1 x2 x3 h = some o → mB (gO mX7_mirror (o.1, some (.int o.2))) mX7_mirror (27, [(0, .ref x0), (1, .int x1), (2, .int x2), (3, .int x3)], [], h, 0, 0)) (x0 : Nat) (x1 : Int32) (x2 : Int32) (x3 : Int32) (h : mh) {o : (mh × Int32)} (hq : fxX7_mirror_87 N rec27 x0 x1 x2 x3 h = some o) : mB (gO mX7_mirror (o.1, some (.int o.2))) mX7_mirror (87, [(0, .ref x0), (1, .int x1), (2, .int x2), (3, .int x3)], [], h, 0, 0) := by
  unfold fxX7_mirror_87 at hq
  refine mB_run odX7_mirror 2 (g := (89, [(0, .ref x0), (1, .int x1), (2, .int x2), (3, .int x3)], [.int (2 : Int32), .int x2], h, 0, 0)) rfl ?_
  by_cases c23 : x2 = (2 : Int32)
  · rw [if_pos c23] at hq
    refine ic_eq_T (t := 97) odX7_mirror rfl rfl c23 ?_
    refine mB_lv [0, 1, 2, 3] (lv' := [(0, .ref x0), (1, .int x1), (2, .int x2), (3, .int x3)]) rfl ?_
    exact exX7_mirror_97 hrec27 _ _ _ _ _ hq
  · rw [if_neg c23] at hq
    refine ic_eq_F (t := 97) odX7_mirror rfl rfl c23 ?_
    refine mB_run odX7_mirror 2 (g := (94, [(0, .ref x0), (1, .int x1), (2, .int x2), (3, .int x3)], [.int (3 : Int32), .int x2], h, 0, 0)) rfl ?_
    by_cases c24 : x2 = (3 : Int32)
    · rw [if_pos c24] at hq
      refine ic_ne_F (t := 110) odX7_mirror rfl rfl c24 ?_
      refine mB_lv [0, 1, 2, 3] (lv' := [(0, .ref x0), (1, .int x1), (2, .int x2), (3, .int x3)]) rfl ?_
      exact exX7_mirror_97 hrec27 _ _ _ _ _ hq
    · rw [if_neg c24] at hq
      refine ic_ne_T (t := 110) odX7_mirror rfl rfl c24 ?_
      refine mB_lv [0, 1, 2, 3] (lv' := [(0, .ref x0), (1, .int x1), (2, .int x2), (3, .int x3)]) rfl ?_
      exact exX7_mirror_110 hrec27 _ _ _ _ _ hq
def fxX7_mirror_74 (N : Nat) (rec27 : Nat → Int32 → Int32 → Int32 → mh → Option (mh × Int32)) (x0 : Nat) (x1 : Int32) (x2 : Int32) (x3 : Int32) (h : mh) : Option (mh × Int32) :=
  (gR h x0 7 7).bind fun v33 =>
  (gR h x0 7 7).bind fun v35 =>
  (aI h v35 x3).bind fun v37 =>
  (wI h v33 x3 (-v37)).bind fun h39 =>
  fxX7_mirror_87 N rec27 x0 x1 x2 x3 h39
set_option maxHeartbeats 4000000 in
set_option maxRecDepth 100000 in
theorem exX7_mirror_74 {N : Nat} {rec27 : Nat → Int32 → Int32 → Int32 → mh → Option (mh × Int32)} (hrec27 : ∀ (x0 : Nat) (x1 : Int32) (x2 : Int32) (x3 : Int32) (h : mh) {o : (mh × Int32)}, rec27 x0 x1 x2 x3 h = some o → mB (gO mX7_mirror (o.1, some (.int o.2))) mX7_mirror (27, [(0, .ref x0), (1, .int x1), (2, .int x2), (3, .int x3)], [], h, 0, 0)) (x0 : Nat) (x1 : Int32) (x2 : Int32) (x3 : Int32) (h : mh) {o : (mh × Int32)} (hq : fxX7_mirror_74 N rec27 x0 x1 x2 x3 h = some o) : mB (gO mX7_mirror (o.1, some (.int o.2))) mX7_mirror (74, [(0, .ref x0), (1, .int x1), (2, .int x2), (3, .int x3)], [], h, 0, 0) := by
  unfold fxX7_mirror_74 at hq
  refine mB_run odX7_mirror 1 (g := (75, [(0, .ref x0), (1, .int x1), (2, .int x2), (3, .int x3)], [.ref x0], h, 0, 0)) rfl ?_
  obtain ⟨v33, e34, hq⟩ := bsm hq
  refine r_gR odX7_mirror rfl rfl e34 ?_
  refine mB_run odX7_mirror 2 (g := (80, [(0, .ref x0), (1, .int x1), (2, .int x2), (3, .int x3)], [.ref x0, .int x3, .ref v33], h, 0, 0)) rfl ?_
  obtain ⟨v35, e36, hq⟩ := bsm hq
  refine r_gR odX7_mirror rfl rfl e36 ?_
  refine mB_run odX7_mirror 1 (g := (84, [(0, .ref x0), (1, .int x1), (2, .int x2), (3, .int x3)], [.int x3, .ref v35, .int x3, .ref v33], h, 0, 0)) rfl ?_
  obtain ⟨v37, e38, hq⟩ := bsm hq
  refine r_aI odX7_mirror rfl e38 ?_
  refine mB_run odX7_mirror 1 (g := (86, [(0, .ref x0), (1, .int x1), (2, .int x2), (3, .int x3)], [.int (-v37), .int x3, .ref v33], h, 0, 0)) rfl ?_
  obtain ⟨h39, e40, hq⟩ := bsm hq
  refine r_wI odX7_mirror rfl e40 ?_
  refine mB_lv [0, 1, 2, 3] (lv' := [(0, .ref x0), (1, .int x1), (2, .int x2), (3, .int x3)]) rfl ?_
  exact exX7_mirror_87 hrec27 _ _ _ _ _ hq
def fxX7_mirror_64 (N : Nat) (rec27 : Nat → Int32 → Int32 → Int32 → mh → Option (mh × Int32)) (x0 : Nat) (x1 : Int32) (x2 : Int32) (x3 : Int32) (h : mh) : Option (mh × Int32) :=
  if x2 = (1 : Int32) then (
    fxX7_mirror_74 N rec27 x0 x1 x2 x3 h) else (
    if x2 = (3 : Int32) then (
      fxX7_mirror_74 N rec27 x0 x1 x2 x3 h) else (
      fxX7_mirror_87 N rec27 x0 x1 x2 x3 h))
set_option maxHeartbeats 4000000 in
set_option maxRecDepth 100000 in
theorem exX7_mirror_64 {N : Nat} {rec27 : Nat → Int32 → Int32 → Int32 → mh → Option (mh × Int32)} (hrec27 : ∀ (x0 : Nat) (x1 : Int32) (x2 : Int32) (x3 : Int32) (h : mh) {o : (mh × Int32)}, rec27 x0 x1 x2 x3 h = some o → mB (gO mX7_mirror (o.1, some (.int o.2))) mX7_mirror (27, [(0, .ref x0), (1, .int x1), (2, .int x2), (3, .int x3)], [], h, 0, 0)) (x0 : Nat) (x1 : Int32) (x2 : Int32) (x3 : Int32) (h : mh) {o : (mh × Int32)} (hq : fxX7_mirror_64 N rec27 x0 x1 x2 x3 h = some o) : mB (gO mX7_mirror (o.1, some (.int o.2))) mX7_mirror (64, [(0, .ref x0), (1, .int x1), (2, .int x2), (3, .int x3)], [], h, 0, 0) := by
  unfold fxX7_mirror_64 at hq
  refine mB_run odX7_mirror 2 (g := (66, [(0, .ref x0), (1, .int x1), (2, .int x2), (3, .int x3)], [.int (1 : Int32), .int x2], h, 0, 0)) rfl ?_
  by_cases c21 : x2 = (1 : Int32)
  · rw [if_pos c21] at hq
    refine ic_eq_T (t := 74) odX7_mirror rfl rfl c21 ?_
    refine mB_lv [0, 1, 2, 3] (lv' := [(0, .ref x0), (1, .int x1), (2, .int x2), (3, .int x3)]) rfl ?_
    exact exX7_mirror_74 hrec27 _ _ _ _ _ hq
  · rw [if_neg c21] at hq
    refine ic_eq_F (t := 74) odX7_mirror rfl rfl c21 ?_
    refine mB_run odX7_mirror 2 (g := (71, [(0, .ref x0), (1, .int x1), (2, .int x2), (3, .int x3)], [.int (3 : Int32), .int x2], h, 0, 0)) rfl ?_
    by_cases c22 : x2 = (3 : Int32)
    · rw [if_pos c22] at hq
      refine ic_ne_F (t := 87) odX7_mirror rfl rfl c22 ?_
      refine mB_lv [0, 1, 2, 3] (lv' := [(0, .ref x0), (1, .int x1), (2, .int x2), (3, .int x3)]) rfl ?_
      exact exX7_mirror_74 hrec27 _ _ _ _ _ hq
    · rw [if_neg c22] at hq
      refine ic_ne_T (t := 87) odX7_mirror rfl rfl c22 ?_
      refine mB_lv [0, 1, 2, 3] (lv' := [(0, .ref x0), (1, .int x1), (2, .int x2), (3, .int x3)]) rfl ?_
      exact exX7_mirror_87 hrec27 _ _ _ _ _ hq
def fxX7_mirror_51 (N : Nat) (rec27 : Nat → Int32 → Int32 → Int32 → mh → Option (mh × Int32)) (x0 : Nat) (x1 : Int32) (x2 : Int32) (x3 : Int32) (h : mh) : Option (mh × Int32) :=
  (gR h x0 7 6).bind fun v41 =>
  (gR h x0 7 6).bind fun v43 =>
  (aI h v43 x3).bind fun v45 =>
  (wI h v41 x3 (-v45)).bind fun h47 =>
  fxX7_mirror_64 N rec27 x0 x1 x2 x3 h47
set_option maxHeartbeats 4000000 in
set_option maxRecDepth 100000 in
theorem exX7_mirror_51 {N : Nat} {rec27 : Nat → Int32 → Int32 → Int32 → mh → Option (mh × Int32)} (hrec27 : ∀ (x0 : Nat) (x1 : Int32) (x2 : Int32) (x3 : Int32) (h : mh) {o : (mh × Int32)}, rec27 x0 x1 x2 x3 h = some o → mB (gO mX7_mirror (o.1, some (.int o.2))) mX7_mirror (27, [(0, .ref x0), (1, .int x1), (2, .int x2), (3, .int x3)], [], h, 0, 0)) (x0 : Nat) (x1 : Int32) (x2 : Int32) (x3 : Int32) (h : mh) {o : (mh × Int32)} (hq : fxX7_mirror_51 N rec27 x0 x1 x2 x3 h = some o) : mB (gO mX7_mirror (o.1, some (.int o.2))) mX7_mirror (51, [(0, .ref x0), (1, .int x1), (2, .int x2), (3, .int x3)], [], h, 0, 0) := by
  unfold fxX7_mirror_51 at hq
  refine mB_run odX7_mirror 1 (g := (52, [(0, .ref x0), (1, .int x1), (2, .int x2), (3, .int x3)], [.ref x0], h, 0, 0)) rfl ?_
  obtain ⟨v41, e42, hq⟩ := bsm hq
  refine r_gR odX7_mirror rfl rfl e42 ?_
  refine mB_run odX7_mirror 2 (g := (57, [(0, .ref x0), (1, .int x1), (2, .int x2), (3, .int x3)], [.ref x0, .int x3, .ref v41], h, 0, 0)) rfl ?_
  obtain ⟨v43, e44, hq⟩ := bsm hq
  refine r_gR odX7_mirror rfl rfl e44 ?_
  refine mB_run odX7_mirror 1 (g := (61, [(0, .ref x0), (1, .int x1), (2, .int x2), (3, .int x3)], [.int x3, .ref v43, .int x3, .ref v41], h, 0, 0)) rfl ?_
  obtain ⟨v45, e46, hq⟩ := bsm hq
  refine r_aI odX7_mirror rfl e46 ?_
  refine mB_run odX7_mirror 1 (g := (63, [(0, .ref x0), (1, .int x1), (2, .int x2), (3, .int x3)], [.int (-v45), .int x3, .ref v41], h, 0, 0)) rfl ?_
  obtain ⟨h47, e48, hq⟩ := bsm hq
  refine r_wI odX7_mirror rfl e48 ?_
  refine mB_lv [0, 1, 2, 3] (lv' := [(0, .ref x0), (1, .int x1), (2, .int x2), (3, .int x3)]) rfl ?_
  exact exX7_mirror_64 hrec27 _ _ _ _ _ hq
def fxX7_mirror_27 (N : Nat) : Nat → Nat → Int32 → Int32 → Int32 → mh → Option (mh × Int32)
  | 0, _, _, _, _, _ => none
  | n + 1, x0, x1, x2, x3, h =>
    (gR h x0 7 4).bind fun v10 =>
    (aI h v10 x1).bind fun v12 =>
    if (((24 : Int32) * x1) + v12) ≤ x3 then (
      (kO h x0 7).bind fun f17 =>
      (fxX7_orders N x0 x1 h).bind fun o15 =>
      some (o15, (1 : Int32))) else (
      if x2 = 0 then (
        fxX7_mirror_51 N (fxX7_mirror_27 N n) x0 x1 x2 x3 h) else (
        if x2 = (3 : Int32) then (
          fxX7_mirror_51 N (fxX7_mirror_27 N n) x0 x1 x2 x3 h) else (
          fxX7_mirror_64 N (fxX7_mirror_27 N n) x0 x1 x2 x3 h)))
set_option maxHeartbeats 4000000 in
set_option maxRecDepth 100000 in
theorem exX7_mirror_27 {N : Nat} : ∀ (n : Nat) (x0 : Nat) (x1 : Int32) (x2 : Int32) (x3 : Int32) (h : mh) {o : (mh × Int32)}, fxX7_mirror_27 N n x0 x1 x2 x3 h = some o → mB (gO mX7_mirror (o.1, some (.int o.2))) mX7_mirror (27, [(0, .ref x0), (1, .int x1), (2, .int x2), (3, .int x3)], [], h, 0, 0) := by
  intro n
  induction n with
  | zero => intro x0 x1 x2 x3 h o hq; cases hq
  | succ n ih =>
    intro x0 x1 x2 x3 h o hq
    unfold fxX7_mirror_27 at hq
    refine mB_run odX7_mirror 5 (g := (33, [(0, .ref x0), (1, .int x1), (2, .int x2), (3, .int x3)], [.ref x0, .int ((24 : Int32) * x1), .int x3], h, 0, 0)) rfl ?_
    obtain ⟨v10, e11, hq⟩ := bsm hq
    refine r_gR odX7_mirror rfl rfl e11 ?_
    refine mB_run odX7_mirror 1 (g := (37, [(0, .ref x0), (1, .int x1), (2, .int x2), (3, .int x3)], [.int x1, .ref v10, .int ((24 : Int32) * x1), .int x3], h, 0, 0)) rfl ?_
    obtain ⟨v12, e13, hq⟩ := bsm hq
    refine r_aI odX7_mirror rfl e13 ?_
    refine mB_run odX7_mirror 1 (g := (39, [(0, .ref x0), (1, .int x1), (2, .int x2), (3, .int x3)], [.int (((24 : Int32) * x1) + v12), .int x3], h, 0, 0)) rfl ?_
    by_cases c14 : (((24 : Int32) * x1) + v12) ≤ x3
    · rw [if_pos c14] at hq
      refine ic_ge_T (t := 116) odX7_mirror rfl rfl c14 ?_
      refine mB_run odX7_mirror 2 (g := (118, [(0, .ref x0), (1, .int x1), (2, .int x2), (3, .int x3)], [.int x1, .ref x0], h, 0, 0)) rfl ?_
      obtain ⟨f17, k18, hq⟩ := bsm hq
      obtain ⟨o15, e16, hq⟩ := bsm hq
      refine mB_V (as := [.int x1]) odX7_mirror okX7_orders lk_7_389 rfl (exX7_orders e16) (kO_at k18) rfl rfl rfl ?_
      show mB _ mX7_mirror (121, [(0, .ref x0), (1, .int x1), (2, .int x2), (3, .int x3)], [], o15, 0, 0)
      refine mB_run odX7_mirror 1 (g := (122, [(0, .ref x0), (1, .int x1), (2, .int x2), (3, .int x3)], [.int (1 : Int32)], o15, 0, 0)) rfl ?_
      cases hq
      exact mB_ret odX7_mirror rfl
    · rw [if_neg c14] at hq
      refine ic_ge_F (t := 116) odX7_mirror rfl rfl c14 ?_
      refine mB_run odX7_mirror 1 (g := (43, [(0, .ref x0), (1, .int x1), (2, .int x2), (3, .int x3)], [.int x2], h, 0, 0)) rfl ?_
      by_cases c19 : x2 = 0
      · rw [if_pos c19] at hq
        refine if_eq_T (t := 51) odX7_mirror rfl rfl c19 ?_
        refine mB_lv [0, 1, 2, 3] (lv' := [(0, .ref x0), (1, .int x1), (2, .int x2), (3, .int x3)]) rfl ?_
        exact exX7_mirror_51 ih _ _ _ _ _ hq
      · rw [if_neg c19] at hq
        refine if_eq_F (t := 51) odX7_mirror rfl rfl c19 ?_
        refine mB_run odX7_mirror 2 (g := (48, [(0, .ref x0), (1, .int x1), (2, .int x2), (3, .int x3)], [.int (3 : Int32), .int x2], h, 0, 0)) rfl ?_
        by_cases c20 : x2 = (3 : Int32)
        · rw [if_pos c20] at hq
          refine ic_ne_F (t := 64) odX7_mirror rfl rfl c20 ?_
          refine mB_lv [0, 1, 2, 3] (lv' := [(0, .ref x0), (1, .int x1), (2, .int x2), (3, .int x3)]) rfl ?_
          exact exX7_mirror_51 ih _ _ _ _ _ hq
        · rw [if_neg c20] at hq
          refine ic_ne_T (t := 64) odX7_mirror rfl rfl c20 ?_
          refine mB_lv [0, 1, 2, 3] (lv' := [(0, .ref x0), (1, .int x1), (2, .int x2), (3, .int x3)]) rfl ?_
          exact exX7_mirror_64 ih _ _ _ _ _ hq
def fxX7_mirror (N : Nat) (p0 : Nat) (p1 : Int32) (p2 : Int32) (h : mh) : Option (mh × Int32) :=
  (fxX7_isSolid N p1 h).bind fun o1 =>
  if o1.2 = 0 then (
    some (o1.1, (0 : Int32))) else (
    if p2 < 0 then (
      some (o1.1, (0 : Int32))) else (
      if p2 ≤ (3 : Int32) then (
        (kO o1.1 p0 7).bind fun f8 =>
        (fxX7_keeps N p0 o1.1).bind fun o6 =>
        fxX7_mirror_27 N N p0 p1 p2 ((24 : Int32) * p1) o6) else (
        some (o1.1, (0 : Int32)))))
set_option maxHeartbeats 4000000 in
set_option maxRecDepth 100000 in
theorem exX7_mirror {N : Nat} {p0 : Nat} {p1 : Int32} {p2 : Int32} {h : mh} {o : (mh × Int32)} (hq : fxX7_mirror N p0 p1 p2 h = some o) : mC mX7_mirror [.ref p0, .int p1, .int p2] h (o.1, some (.int o.2)) := by
  refine mC_of okX7_mirror (Nat.le_of_ble_eq_true rfl) ?_
  unfold fxX7_mirror at hq
  show mB _ mX7_mirror (0, [(0, .ref p0), (1, .int p1), (2, .int p2)], [], h, 0, 0)
  refine mB_run odX7_mirror 1 (g := (1, [(0, .ref p0), (1, .int p1), (2, .int p2)], [.int p1], h, 0, 0)) rfl ?_
  obtain ⟨o1, e2, hq⟩ := bsm hq
  refine mB_S (as := [.int p1]) odX7_mirror okX7_isSolid lk_7_133 rfl (exX7_isSolid e2) rfl rfl rfl ?_
  show mB _ mX7_mirror (4, [(0, .ref p0), (1, .int p1), (2, .int p2)], [.int o1.2], o1.1, 0, 0)
  by_cases c3 : o1.2 = 0
  · rw [if_pos c3] at hq
    refine if_eq_T (t := 16) odX7_mirror rfl rfl c3 ?_
    refine mB_run odX7_mirror 1 (g := (17, [(0, .ref p0), (1, .int p1), (2, .int p2)], [.int (0 : Int32)], o1.1, 0, 0)) rfl ?_
    cases hq
    exact mB_ret odX7_mirror rfl
  · rw [if_neg c3] at hq
    refine if_eq_F (t := 16) odX7_mirror rfl rfl c3 ?_
    refine mB_run odX7_mirror 1 (g := (8, [(0, .ref p0), (1, .int p1), (2, .int p2)], [.int p2], o1.1, 0, 0)) rfl ?_
    by_cases c4 : p2 < 0
    · rw [if_pos c4] at hq
      refine if_lt_T (t := 16) odX7_mirror rfl rfl c4 ?_
      refine mB_run odX7_mirror 1 (g := (17, [(0, .ref p0), (1, .int p1), (2, .int p2)], [.int (0 : Int32)], o1.1, 0, 0)) rfl ?_
      cases hq
      exact mB_ret odX7_mirror rfl
    · rw [if_neg c4] at hq
      refine if_lt_F (t := 16) odX7_mirror rfl rfl c4 ?_
      refine mB_run odX7_mirror 2 (g := (13, [(0, .ref p0), (1, .int p1), (2, .int p2)], [.int (3 : Int32), .int p2], o1.1, 0, 0)) rfl ?_
      by_cases c5 : p2 ≤ (3 : Int32)
      · rw [if_pos c5] at hq
        refine ic_le_T (t := 18) odX7_mirror rfl rfl c5 ?_
        refine mB_run odX7_mirror 1 (g := (19, [(0, .ref p0), (1, .int p1), (2, .int p2)], [.ref p0], o1.1, 0, 0)) rfl ?_
        obtain ⟨f8, k9, hq⟩ := bsm hq
        obtain ⟨o6, e7, hq⟩ := bsm hq
        refine mB_V (as := []) odX7_mirror okX7_keeps lk_7_237 rfl (exX7_keeps e7) (kO_at k9) rfl rfl rfl ?_
        show mB _ mX7_mirror (22, [(0, .ref p0), (1, .int p1), (2, .int p2)], [], o6, 0, 0)
        refine mB_run odX7_mirror 4 (g := (27, [(3, .int ((24 : Int32) * p1)), (0, .ref p0), (1, .int p1), (2, .int p2)], [], o6, 0, 0)) rfl ?_
        refine mB_lv [1, 2, 3, 0] (lv' := [(0, .ref p0), (1, .int p1), (2, .int p2), (3, .int ((24 : Int32) * p1))]) rfl ?_
        exact exX7_mirror_27 N _ _ _ _ _ hq
      · rw [if_neg c5] at hq
        refine ic_le_F (t := 18) odX7_mirror rfl rfl c5 ?_
        refine mB_run odX7_mirror 1 (g := (17, [(0, .ref p0), (1, .int p1), (2, .int p2)], [.int (0 : Int32)], o1.1, 0, 0)) rfl ?_
        cases hq
        exact mB_ret odX7_mirror rfl
