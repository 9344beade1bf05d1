def fxX0_wholeArea_16 (N : Nat) : Nat → Nat → Int32 → Int64 → Int32 → Int32 → mh → Option (mh × Int64)
  | 0, _, _, _, _, _, _ => none
  | n + 1, x0, x1, x2, x4, x5, h =>
    (gR h x0 0 4).bind fun v5 =>
    (aI h v5 (x1 + (1 : Int32))).bind fun v7 =>
    if v7 ≤ (x5 + (1 : Int32)) then (
      (gR h x0 0 3).bind fun v10 =>
      (aI h v10 ((4 : Int32) * x1)).bind fun v12 =>
      (gR h x0 0 3).bind fun v14 =>
      (aI h v14 (((4 : Int32) * x1) + (1 : Int32))).bind fun v16 =>
      (gR h x0 0 3).bind fun v18 =>
      (aI h v18 (((4 : Int32) * x1) + (2 : Int32))).bind fun v20 =>
      (fxX0_steepness N v12.toInt64 v16.toInt64 v20.toInt64 h).bind fun o22 =>
      if o22.2 ≤ (0 : Int64) then (
        some (o22.1, (0 : Int64))) else (
        if o22.2 = 0 then none else
        some (o22.1, (x2 / o22.2)))) else (
      (gR h x0 0 5).bind fun v26 =>
      (aI h v26 x4).bind fun v28 =>
      (gR h x0 0 5).bind fun v30 =>
      (aI h v30 x5).bind fun v32 =>
      (gR h x0 0 5).bind fun v34 =>
      (aI h v34 (x5 + (1 : Int32))).bind fun v36 =>
      (kO h x0 0).bind fun f40 =>
      (fxX0_facing N x0 x1 v28 v32 v36 h).bind fun o38 =>
      fxX0_wholeArea_16 N n x0 x1 (x2 + o38.2) x4 (x5 + (1 : Int32)) o38.1)
set_option maxHeartbeats 4000000 in
set_option maxRecDepth 100000 in
theorem eaX0_wholeArea_16 {N : Nat} {R : mh} : ∀ (n : Nat) (x0 : Nat) (x1 : Int32) (x2 : Int64) (x4 : Int32) (x5 : Int32) (h : mh) {o : (mh × Int64)}, fxX0_wholeArea_16 N n x0 x1 x2 x4 x5 h = some o → mB (gO mX0_wholeArea (o.1 ++ R, some (.long o.2))) mX0_wholeArea (16, [(0, .ref x0), (1, .int x1), (2, .long x2), (4, .int x4), (5, .int x5)], [], (h ++ R), 0, 0) := by
  intro n
  induction n with
  | zero => intro x0 x1 x2 x4 x5 h o hq; cases hq
  | succ n ih =>
    intro x0 x1 x2 x4 x5 h o hq
    unfold fxX0_wholeArea_16 at hq
    refine mB_run odX0_wholeArea 4 (g := (21, [(0, .ref x0), (1, .int x1), (2, .long x2), (4, .int x4), (5, .int x5)], [.ref x0, .int (x5 + (1 : Int32))], (h ++ R), 0, 0)) rfl ?_
    obtain ⟨v5, e6, hq⟩ := bsm hq
    refine r_gR odX0_wholeArea rfl rfl (gR_ap e6) ?_
    refine mB_run odX0_wholeArea 3 (g := (27, [(0, .ref x0), (1, .int x1), (2, .long x2), (4, .int x4), (5, .int x5)], [.int (x1 + (1 : Int32)), .ref v5, .int (x5 + (1 : Int32))], (h ++ R), 0, 0)) rfl ?_
    obtain ⟨v7, e8, hq⟩ := bsm hq
    refine r_aI odX0_wholeArea rfl (aI_ap e8) ?_
    by_cases c9 : v7 ≤ (x5 + (1 : Int32))
    · rw [if_pos c9] at hq
      refine ic_ge_T (t := 68) odX0_wholeArea rfl rfl c9 ?_
      refine mB_run odX0_wholeArea 1 (g := (69, [(0, .ref x0), (1, .int x1), (2, .long x2), (4, .int x4), (5, .int x5)], [.ref x0], (h ++ R), 0, 0)) rfl ?_
      obtain ⟨v10, e11, hq⟩ := bsm hq
      refine r_gR odX0_wholeArea rfl rfl (gR_ap e11) ?_
      refine mB_run odX0_wholeArea 3 (g := (75, [(0, .ref x0), (1, .int x1), (2, .long x2), (4, .int x4), (5, .int x5)], [.int ((4 : Int32) * x1), .ref v10], (h ++ R), 0, 0)) rfl ?_
      obtain ⟨v12, e13, hq⟩ := bsm hq
      refine r_aI odX0_wholeArea rfl (aI_ap e13) ?_
      refine mB_run odX0_wholeArea 2 (g := (78, [(0, .ref x0), (1, .int x1), (2, .long x2), (4, .int x4), (5, .int x5)], [.ref x0, .long v12.toInt64], (h ++ R), 0, 0)) rfl ?_
      obtain ⟨v14, e15, hq⟩ := bsm hq
      refine r_gR odX0_wholeArea rfl rfl (gR_ap e15) ?_
      refine mB_run odX0_wholeArea 5 (g := (86, [(0, .ref x0), (1, .int x1), (2, .long x2), (4, .int x4), (5, .int x5)], [.int (((4 : Int32) * x1) + (1 : Int32)), .ref v14, .long v12.toInt64], (h ++ R), 0, 0)) rfl ?_
      obtain ⟨v16, e17, hq⟩ := bsm hq
      refine r_aI odX0_wholeArea rfl (aI_ap e17) ?_
      refine mB_run odX0_wholeArea 2 (g := (89, [(0, .ref x0), (1, .int x1), (2, .long x2), (4, .int x4), (5, .int x5)], [.ref x0, .long v16.toInt64, .long v12.toInt64], (h ++ R), 0, 0)) rfl ?_
      obtain ⟨v18, e19, hq⟩ := bsm hq
      refine r_gR odX0_wholeArea rfl rfl (gR_ap e19) ?_
      refine mB_run odX0_wholeArea 5 (g := (97, [(0, .ref x0), (1, .int x1), (2, .long x2), (4, .int x4), (5, .int x5)], [.int (((4 : Int32) * x1) + (2 : Int32)), .ref v18, .long v16.toInt64, .long v12.toInt64], (h ++ R), 0, 0)) rfl ?_
      obtain ⟨v20, e21, hq⟩ := bsm hq
      refine r_aI odX0_wholeArea rfl (aI_ap e21) ?_
      refine mB_run odX0_wholeArea 1 (g := (99, [(0, .ref x0), (1, .int x1), (2, .long x2), (4, .int x4), (5, .int x5)], [.long v20.toInt64, .long v16.toInt64, .long v12.toInt64], (h ++ R), 0, 0)) rfl ?_
      obtain ⟨o22, e23, hq⟩ := bsm hq
      refine mB_S (as := [.long v12.toInt64, .long v16.toInt64, .long v20.toInt64]) odX0_wholeArea okX0_steepness lk_0_132 rfl (eaX0_steepness e23) rfl rfl rfl ?_
      show mB _ mX0_wholeArea (102, [(0, .ref x0), (1, .int x1), (2, .long x2), (4, .int x4), (5, .int x5)], [.long o22.2], (o22.1 ++ R), 0, 0)
      refine mB_run odX0_wholeArea 3 (g := (107, [(5, .long o22.2), (0, .ref x0), (1, .int x1), (2, .long x2), (4, .int x4)], [.long (0 : Int64), .long o22.2], (o22.1 ++ R), 0, 0)) rfl ?_
      by_cases c24 : o22.2 ≤ (0 : Int64)
      · rw [if_pos c24] at hq
        refine lc_le_T (t := 118) odX0_wholeArea rfl rfl rfl c24 ?_
        refine mB_run odX0_wholeArea 1 (g := (119, [(5, .long o22.2), (0, .ref x0), (1, .int x1), (2, .long x2), (4, .int x4)], [.long (0 : Int64)], (o22.1 ++ R), 0, 0)) rfl ?_
        cases hq
        exact mB_ret odX0_wholeArea rfl
      · rw [if_neg c24] at hq
        refine lc_le_F (t := 118) odX0_wholeArea rfl rfl rfl c24 ?_
        refine mB_run odX0_wholeArea 2 (g := (114, [(5, .long o22.2), (0, .ref x0), (1, .int x1), (2, .long x2), (4, .int x4)], [.long o22.2, .long x2], (o22.1 ++ R), 0, 0)) rfl ?_
        by_cases c25 : o22.2 = 0
        · rw [if_pos c25] at hq; cases hq
        rw [if_neg c25] at hq
        refine r_ldiv odX0_wholeArea rfl c25 ?_
        refine mB_run odX0_wholeArea 1 (g := (119, [(5, .long o22.2), (0, .ref x0), (1, .int x1), (2, .long x2), (4, .int x4)], [.long (x2 / o22.2)], (o22.1 ++ R), 0, 0)) rfl ?_
        cases hq
        exact mB_ret odX0_wholeArea rfl
    · rw [if_neg c9] at hq
      refine ic_ge_F (t := 68) odX0_wholeArea rfl rfl c9 ?_
      refine mB_run odX0_wholeArea 4 (g := (35, [(0, .ref x0), (1, .int x1), (2, .long x2), (4, .int x4), (5, .int x5)], [.ref x0, .int x1, .ref x0, .long x2], (h ++ R), 0, 0)) rfl ?_
      obtain ⟨v26, e27, hq⟩ := bsm hq
      refine r_gR odX0_wholeArea rfl rfl (gR_ap e27) ?_
      refine mB_run odX0_wholeArea 1 (g := (40, [(0, .ref x0), (1, .int x1), (2, .long x2), (4, .int x4), (5, .int x5)], [.int x4, .ref v26, .int x1, .ref x0, .long x2], (h ++ R), 0, 0)) rfl ?_
      obtain ⟨v28, e29, hq⟩ := bsm hq
      refine r_aI odX0_wholeArea rfl (aI_ap e29) ?_
      refine mB_run odX0_wholeArea 1 (g := (42, [(0, .ref x0), (1, .int x1), (2, .long x2), (4, .int x4), (5, .int x5)], [.ref x0, .int v28, .int x1, .ref x0, .long x2], (h ++ R), 0, 0)) rfl ?_
      obtain ⟨v30, e31, hq⟩ := bsm hq
      refine r_gR odX0_wholeArea rfl rfl (gR_ap e31) ?_
      refine mB_run odX0_wholeArea 1 (g := (47, [(0, .ref x0), (1, .int x1), (2, .long x2), (4, .int x4), (5, .int x5)], [.int x5, .ref v30, .int v28, .int x1, .ref x0, .long x2], (h ++ R), 0, 0)) rfl ?_
      obtain ⟨v32, e33, hq⟩ := bsm hq
      refine r_aI odX0_wholeArea rfl (aI_ap e33) ?_
      refine mB_run odX0_wholeArea 1 (g := (49, [(0, .ref x0), (1, .int x1), (2, .long x2), (4, .int x4), (5, .int x5)], [.ref x0, .int v32, .int v28, .int x1, .ref x0, .long x2], (h ++ R), 0, 0)) rfl ?_
      obtain ⟨v34, e35, hq⟩ := bsm hq
      refine r_gR odX0_wholeArea rfl rfl (gR_ap e35) ?_
      refine mB_run odX0_wholeArea 3 (g := (56, [(0, .ref x0), (1, .int x1), (2, .long x2), (4, .int x4), (5, .int x5)], [.int (x5 + (1 : Int32)), .ref v34, .int v32, .int v28, .int x1, .ref x0, .long x2], (h ++ R), 0, 0)) rfl ?_
      obtain ⟨v36, e37, hq⟩ := bsm hq
      refine r_aI odX0_wholeArea rfl (aI_ap e37) ?_
      obtain ⟨f40, k41, hq⟩ := bsm hq
      obtain ⟨o38, e39, hq⟩ := bsm hq
      refine mB_V (as := [.int x1, .int v28, .int v32, .int v36]) odX0_wholeArea okX0_facing lk_0_102 rfl (eaX0_facing e39) (kO_at (kO_ap k41)) rfl rfl rfl ?_
      show mB _ mX0_wholeArea (60, [(0, .ref x0), (1, .int x1), (2, .long x2), (4, .int x4), (5, .int x5)], [.long o38.2, .long x2], (o38.1 ++ R), 0, 0)
      refine mB_run odX0_wholeArea 4 (g := (16, [(5, .int (x5 + (1 : Int32))), (2, .long (x2 + o38.2)), (0, .ref x0), (1, .int x1), (4, .int x4)], [], (o38.1 ++ R), 0, 0)) rfl ?_
      refine mB_lv [2, 3, 1, 4, 0] (lv' := [(0, .ref x0), (1, .int x1), (2, .long (x2 + o38.2)), (4, .int x4), (5, .int (x5 + (1 : Int32)))]) rfl ?_
      exact ih _ _ _ _ _ _ hq
def fxX0_wholeArea (N : Nat) (p0 : Nat) (p1 : Int32) (h : mh) : Option (mh × Int64) :=
  (gR h p0 0 4).bind fun v1 =>
  (aI h v1 p1).bind fun v3 =>
  fxX0_wholeArea_16 N N p0 p1 (0 : Int64) v3 (v3 + (1 : Int32)) h
set_option maxHeartbeats 4000000 in
set_option maxRecDepth 100000 in
theorem eaX0_wholeArea {N : Nat} {R : mh} {p0 : Nat} {p1 : Int32} {h : mh} {o : (mh × Int64)} (hq : fxX0_wholeArea N p0 p1 h = some o) : mC mX0_wholeArea [.ref p0, .int p1] (h ++ R) (o.1 ++ R, some (.long o.2)) := by
  refine mC_of okX0_wholeArea (Nat.le_of_ble_eq_true rfl) ?_
  unfold fxX0_wholeArea at hq
  show mB _ mX0_wholeArea (0, [(0, .ref p0), (1, .int p1)], [], (h ++ R), 0, 0)
  refine mB_run odX0_wholeArea 3 (g := (3, [(2, .long (0 : Int64)), (0, .ref p0), (1, .int p1)], [.ref p0], (h ++ R), 0, 0)) rfl ?_
  obtain ⟨v1, e2, hq⟩ := bsm hq
  refine r_gR odX0_wholeArea rfl rfl (gR_ap e2) ?_
  refine mB_run odX0_wholeArea 1 (g := (7, [(2, .long (0 : Int64)), (0, .ref p0), (1, .int p1)], [.int p1, .ref v1], (h ++ R), 0, 0)) rfl ?_
  obtain ⟨v3, e4, hq⟩ := bsm hq
  refine r_aI odX0_wholeArea rfl (aI_ap e4) ?_
  refine mB_run odX0_wholeArea 5 (g := (16, [(5, .int (v3 + (1 : Int32))), (4, .int v3), (2, .long (0 : Int64)), (0, .ref p0), (1, .int p1)], [], (h ++ R), 0, 0)) rfl ?_
  refine mB_lv [3, 4, 2, 1, 0] (lv' := [(0, .ref p0), (1, .int p1), (2, .long (0 : Int64)), (4, .int v3), (5, .int (v3 + (1 : Int32)))]) rfl ?_
  exact eaX0_wholeArea_16 N _ _ _ _ _ _ hq
def fxX3_boxOf (N : Nat) (p0 : Nat) (p1 : Int32) (p2 : Int32) (p3 : Int32) (p4 : Int32) (h : mh) : Option (mh × Int64) :=
  (kO h p0 3).bind fun f3 =>
  (fxX3_acrossX N p0 p1 p2 p3 h).bind fun o1 =>
  (gR o1.1 p0 3 1).bind fun v5 =>
  (aI o1.1 v5 p4).bind fun v7 =>
  (gR o1.1 p0 3 1).bind fun v9 =>
  (aI o1.1 v9 p1).bind fun v11 =>
  (kO o1.1 p0 3).bind fun f15 =>
  (fxX3_acrossY N p0 p1 p2 p3 o1.1).bind fun o13 =>
  (gR o13.1 p0 3 2).bind fun v17 =>
  (aI o13.1 v17 p4).bind fun v19 =>
  (gR o13.1 p0 3 2).bind fun v21 =>
  (aI o13.1 v21 p1).bind fun v23 =>
  (kO o13.1 p0 3).bind fun f27 =>
  (fxX3_acrossZ N p0 p1 p2 p3 o13.1).bind fun o25 =>
  (gR o25.1 p0 3 3).bind fun v29 =>
  (aI o25.1 v29 p4).bind fun v31 =>
  (gR o25.1 p0 3 3).bind fun v33 =>
  (aI o25.1 v33 p1).bind fun v35 =>
  some (o25.1, (((o1.2 * (v7 - v11).toInt64) + (o13.2 * (v19 - v23).toInt64)) + (o25.2 * (v31 - v35).toInt64)))
set_option maxHeartbeats 4000000 in
set_option maxRecDepth 100000 in
theorem eaX3_boxOf {N : Nat} {R : mh} {p0 : Nat} {p1 : Int32} {p2 : Int32} {p3 : Int32} {p4 : Int32} {h : mh} {o : (mh × Int64)} (hq : fxX3_boxOf N p0 p1 p2 p3 p4 h = some o) : mC mX3_boxOf [.ref p0, .int p1, .int p2, .int p3, .int p4] (h ++ R) (o.1 ++ R, some (.long o.2)) := by
  refine mC_of okX3_boxOf (Nat.le_of_ble_eq_true rfl) ?_
  unfold fxX3_boxOf at hq
  show mB _ mX3_boxOf (0, [(0, .ref p0), (1, .int p1), (2, .int p2), (3, .int p3), (4, .int p4)], [], (h ++ R), 0, 0)
  refine mB_run odX3_boxOf 4 (g := (4, [(0, .ref p0), (1, .int p1), (2, .int p2), (3, .int p3), (4, .int p4)], [.int p3, .int p2, .int p1, .ref p0], (h ++ R), 0, 0)) rfl ?_
  obtain ⟨f3, k4, hq⟩ := bsm hq
  obtain ⟨o1, e2, hq⟩ := bsm hq
  refine mB_V (as := [.int p1, .int p2, .int p3]) odX3_boxOf okX3_acrossX lk_3_37 rfl (eaX3_acrossX e2) (kO_at (kO_ap k4)) rfl rfl rfl ?_
  show mB _ mX3_boxOf (7, [(0, .ref p0), (1, .int p1), (2, .int p2), (3, .int p3), (4, .int p4)], [.long o1.2], (o1.1 ++ R), 0, 0)
  refine mB_run odX3_boxOf 1 (g := (8, [(0, .ref p0), (1, .int p1), (2, .int p2), (3, .int p3), (4, .int p4)], [.ref p0, .long o1.2], (o1.1 ++ R), 0, 0)) rfl ?_
  obtain ⟨v5, e6, hq⟩ := bsm hq
  refine r_gR odX3_boxOf rfl rfl (gR_ap e6) ?_
  refine mB_run odX3_boxOf 1 (g := (13, [(0, .ref p0), (1, .int p1), (2, .int p2), (3, .int p3), (4, .int p4)], [.int p4, .ref v5, .long o1.2], (o1.1 ++ R), 0, 0)) rfl ?_
  obtain ⟨v7, e8, hq⟩ := bsm hq
  refine r_aI odX3_boxOf rfl (aI_ap e8) ?_
  refine mB_run odX3_boxOf 1 (g := (15, [(0, .ref p0), (1, .int p1), (2, .int p2), (3, .int p3), (4, .int p4)], [.ref p0, .int v7, .long o1.2], (o1.1 ++ R), 0, 0)) rfl ?_
  obtain ⟨v9, e10, hq⟩ := bsm hq
  refine r_gR odX3_boxOf rfl rfl (gR_ap e10) ?_
  refine mB_run odX3_boxOf 1 (g := (19, [(0, .ref p0), (1, .int p1), (2, .int p2), (3, .int p3), (4, .int p4)], [.int p1, .ref v9, .int v7, .long o1.2], (o1.1 ++ R), 0, 0)) rfl ?_
  obtain ⟨v11, e12, hq⟩ := bsm hq
  refine r_aI odX3_boxOf rfl (aI_ap e12) ?_
  refine mB_run odX3_boxOf 7 (g := (27, [(0, .ref p0), (1, .int p1), (2, .int p2), (3, .int p3), (4, .int p4)], [.int p3, .int p2, .int p1, .ref p0, .long (o1.2 * (v7 - v11).toInt64)], (o1.1 ++ R), 0, 0)) rfl ?_
  obtain ⟨f15, k16, hq⟩ := bsm hq
  obtain ⟨o13, e14, hq⟩ := bsm hq
  refine mB_V (as := [.int p1, .int p2, .int p3]) odX3_boxOf okX3_acrossY lk_3_41 rfl (eaX3_acrossY e14) (kO_at (kO_ap k16)) rfl rfl rfl ?_
  show mB _ mX3_boxOf (30, [(0, .ref p0), (1, .int p1), (2, .int p2), (3, .int p3), (4, .int p4)], [.long o13.2, .long (o1.2 * (v7 - v11).toInt64)], (o13.1 ++ R), 0, 0)
  refine mB_run odX3_boxOf 1 (g := (31, [(0, .ref p0), (1, .int p1), (2, .int p2), (3, .int p3), (4, .int p4)], [.ref p0, .long o13.2, .long (o1.2 * (v7 - v11).toInt64)], (o13.1 ++ R), 0, 0)) rfl ?_
  obtain ⟨v17, e18, hq⟩ := bsm hq
  refine r_gR odX3_boxOf rfl rfl (gR_ap e18) ?_
  refine mB_run odX3_boxOf 1 (g := (36, [(0, .ref p0), (1, .int p1), (2, .int p2), (3, .int p3), (4, .int p4)], [.int p4, .ref v17, .long o13.2, .long (o1.2 * (v7 - v11).toInt64)], (o13.1 ++ R), 0, 0)) rfl ?_
  obtain ⟨v19, e20, hq⟩ := bsm hq
  refine r_aI odX3_boxOf rfl (aI_ap e20) ?_
  refine mB_run odX3_boxOf 1 (g := (38, [(0, .ref p0), (1, .int p1), (2, .int p2), (3, .int p3), (4, .int p4)], [.ref p0, .int v19, .long o13.2, .long (o1.2 * (v7 - v11).toInt64)], (o13.1 ++ R), 0, 0)) rfl ?_
  obtain ⟨v21, e22, hq⟩ := bsm hq
  refine r_gR odX3_boxOf rfl rfl (gR_ap e22) ?_
  refine mB_run odX3_boxOf 1 (g := (42, [(0, .ref p0), (1, .int p1), (2, .int p2), (3, .int p3), (4, .int p4)], [.int p1, .ref v21, .int v19, .long o13.2, .long (o1.2 * (v7 - v11).toInt64)], (o13.1 ++ R), 0, 0)) rfl ?_
  obtain ⟨v23, e24, hq⟩ := bsm hq
  refine r_aI odX3_boxOf rfl (aI_ap e24) ?_
  refine mB_run odX3_boxOf 8 (g := (51, [(0, .ref p0), (1, .int p1), (2, .int p2), (3, .int p3), (4, .int p4)], [.int p3, .int p2, .int p1, .ref p0, .long ((o1.2 * (v7 - v11).toInt64) + (o13.2 * (v19 - v23).toInt64))], (o13.1 ++ R), 0, 0)) rfl ?_
  obtain ⟨f27, k28, hq⟩ := bsm hq
  obtain ⟨o25, e26, hq⟩ := bsm hq
  refine mB_V (as := [.int p1, .int p2, .int p3]) odX3_boxOf okX3_acrossZ lk_3_44 rfl (eaX3_acrossZ e26) (kO_at (kO_ap k28)) rfl rfl rfl ?_
  show mB _ mX3_boxOf (54, [(0, .ref p0), (1, .int p1), (2, .int p2), (3, .int p3), (4, .int p4)], [.long o25.2, .long ((o1.2 * (v7 - v11).toInt64) + (o13.2 * (v19 - v23).toInt64))], (o25.1 ++ R), 0, 0)
  refine mB_run odX3_boxOf 1 (g := (55, [(0, .ref p0), (1, .int p1), (2, .int p2), (3, .int p3), (4, .int p4)], [.ref p0, .long o25.2, .long ((o1.2 * (v7 - v11).toInt64) + (o13.2 * (v19 - v23).toInt64))], (o25.1 ++ R), 0, 0)) rfl ?_
  obtain ⟨v29, e30, hq⟩ := bsm hq
  refine r_gR odX3_boxOf rfl rfl (gR_ap e30) ?_
  refine mB_run odX3_boxOf 1 (g := (60, [(0, .ref p0), (1, .int p1), (2, .int p2), (3, .int p3), (4, .int p4)], [.int p4, .ref v29, .long o25.2, .long ((o1.2 * (v7 - v11).toInt64) + (o13.2 * (v19 - v23).toInt64))], (o25.1 ++ R), 0, 0)) rfl ?_
  obtain ⟨v31, e32, hq⟩ := bsm hq
  refine r_aI odX3_boxOf rfl (aI_ap e32) ?_
  refine mB_run odX3_boxOf 1 (g := (62, [(0, .ref p0), (1, .int p1), (2, .int p2), (3, .int p3), (4, .int p4)], [.ref p0, .int v31, .long o25.2, .long ((o1.2 * (v7 - v11).toInt64) + (o13.2 * (v19 - v23).toInt64))], (o25.1 ++ R), 0, 0)) rfl ?_
  obtain ⟨v33, e34, hq⟩ := bsm hq
  refine r_gR odX3_boxOf rfl rfl (gR_ap e34) ?_
  refine mB_run odX3_boxOf 1 (g := (66, [(0, .ref p0), (1, .int p1), (2, .int p2), (3, .int p3), (4, .int p4)], [.int p1, .ref v33, .int v31, .long o25.2, .long ((o1.2 * (v7 - v11).toInt64) + (o13.2 * (v19 - v23).toInt64))], (o25.1 ++ R), 0, 0)) rfl ?_
  obtain ⟨v35, e36, hq⟩ := bsm hq
  refine r_aI odX3_boxOf rfl (aI_ap e36) ?_
  refine mB_run odX3_boxOf 4 (g := (71, [(0, .ref p0), (1, .int p1), (2, .int p2), (3, .int p3), (4, .int p4)], [.long (((o1.2 * (v7 - v11).toInt64) + (o13.2 * (v19 - v23).toInt64)) + (o25.2 * (v31 - v35).toInt64))], (o25.1 ++ R), 0, 0)) rfl ?_
  cases hq
  exact mB_ret odX3_boxOf rfl
def fxX0_addUpPieces_153 (N : Nat) (rec52 : Nat → Int32 → Nat → Int64 → Int32 → mh → Option (mh × Int64)) (rec86 : Nat → Int32 → Nat → Int64 → Int32 → Int32 → Int32 → mh → Option (mh × Int64)) (x0 : Nat) (x1 : Int32) (x2 : Nat) (x3 : Int64) (x5 : Int32) (x6 : Int32) (x7 : Int32) (x8 : Int32) (x9 : Int32) (s0 : Int64) (h : mh) : Option (mh × Int64) :=
  (gR h x0 0 1).bind fun v55 =>
  (kO h v55 3).bind fun f59 =>
  (fxX3_boxOf N v55 (0 : Int32) x6 x8 x9 h).bind fun o57 =>
  rec86 x0 x1 x2 (x3 + (s0 * o57.2)) x5 x6 (x7 + (1 : Int32)) o57.1
set_option maxHeartbeats 4000000 in
set_option maxRecDepth 100000 in
theorem eaX0_addUpPieces_153 {N : Nat} {R : mh} {rec52 : Nat → Int32 → Nat → Int64 → Int32 → mh → Option (mh × Int64)} {rec86 : Nat → Int32 → Nat → Int64 → Int32 → Int32 → Int32 → mh → Option (mh × Int64)} (hrec52 : ∀ (x0 : Nat) (x1 : Int32) (x2 : Nat) (x3 : Int64) (x5 : Int32) (h : mh) {o : (mh × Int64)}, rec52 x0 x1 x2 x3 x5 h = some o → mB (gO mX0_addUpPieces (o.1 ++ R, some (.long o.2))) mX0_addUpPieces (52, [(0, .ref x0), (1, .int x1), (2, .ref x2), (3, .long x3), (5, .int x5)], [], (h ++ R), 0, 0)) (hrec86 : ∀ (x0 : Nat) (x1 : Int32) (x2 : Nat) (x3 : Int64) (x5 : Int32) (x6 : Int32) (x7 : Int32) (h : mh) {o : (mh × Int64)}, rec86 x0 x1 x2 x3 x5 x6 x7 h = some o → mB (gO mX0_addUpPieces (o.1 ++ R, some (.long o.2))) mX0_addUpPieces (86, [(0, .ref x0), (1, .int x1), (2, .ref x2), (3, .long x3), (5, .int x5), (6, .int x6), (7, .int x7)], [], (h ++ R), 0, 0)) (x0 : Nat) (x1 : Int32) (x2 : Nat) (x3 : Int64) (x5 : Int32) (x6 : Int32) (x7 : Int32) (x8 : Int32) (x9 : Int32) (s0 : Int64) (h : mh) {o : (mh × Int64)} (hq : fxX0_addUpPieces_153 N rec52 rec86 x0 x1 x2 x3 x5 x6 x7 x8 x9 s0 h = some o) : mB (gO mX0_addUpPieces (o.1 ++ R, some (.long o.2))) mX0_addUpPieces (153, [(0, .ref x0), (1, .int x1), (2, .ref x2), (3, .long x3), (5, .int x5), (6, .int x6), (7, .int x7), (8, .int x8), (9, .int x9)], [.long s0], (h ++ R), 0, 0) := by
  unfold fxX0_addUpPieces_153 at hq
  refine mB_run odX0_addUpPieces 4 (g := (159, [(10, .long s0), (0, .ref x0), (1, .int x1), (2, .ref x2), (3, .long x3), (5, .int x5), (6, .int x6), (7, .int x7), (8, .int x8), (9, .int x9)], [.ref x0, .long s0, .long x3], (h ++ R), 0, 0)) rfl ?_
  obtain ⟨v55, e56, hq⟩ := bsm hq
  refine r_gR odX0_addUpPieces rfl rfl (gR_ap e56) ?_
  refine mB_run odX0_addUpPieces 4 (g := (169, [(10, .long s0), (0, .ref x0), (1, .int x1), (2, .ref x2), (3, .long x3), (5, .int x5), (6, .int x6), (7, .int x7), (8, .int x8), (9, .int x9)], [.int x9, .int x8, .int x6, .int (0 : Int32), .ref v55, .long s0, .long x3], (h ++ R), 0, 0)) rfl ?_
  obtain ⟨f59, k60, hq⟩ := bsm hq
  obtain ⟨o57, e58, hq⟩ := bsm hq
  refine mB_V (as := [.int (0 : Int32), .int x6, .int x8, .int x9]) odX0_addUpPieces okX3_boxOf lk_0_140 rfl (eaX3_boxOf e58) (kO_at (kO_ap k60)) rfl rfl rfl ?_
  show mB _ mX0_addUpPieces (172, [(10, .long s0), (0, .ref x0), (1, .int x1), (2, .ref x2), (3, .long x3), (5, .int x5), (6, .int x6), (7, .int x7), (8, .int x8), (9, .int x9)], [.long o57.2, .long s0, .long x3], (o57.1 ++ R), 0, 0)
  refine mB_run odX0_addUpPieces 5 (g := (86, [(7, .int (x7 + (1 : Int32))), (3, .long (x3 + (s0 * o57.2))), (10, .long s0), (0, .ref x0), (1, .int x1), (2, .ref x2), (5, .int x5), (6, .int x6), (8, .int x8), (9, .int x9)], [], (o57.1 ++ R), 0, 0)) rfl ?_
  refine mB_lv [3, 4, 5, 1, 6, 7, 0] (lv' := [(0, .ref x0), (1, .int x1), (2, .ref x2), (3, .long (x3 + (s0 * o57.2))), (5, .int x5), (6, .int x6), (7, .int (x7 + (1 : Int32)))]) rfl ?_
  exact hrec86 _ _ _ _ _ _ _ _ hq
def fxX0_addUpPieces_86 (N : Nat) (rec52 : Nat → Int32 → Nat → Int64 → Int32 → mh → Option (mh × Int64)) : Nat → Nat → Int32 → Nat → Int64 → Int32 → Int32 → Int32 → mh → Option (mh × Int64)
  | 0, _, _, _, _, _, _, _, _ => none
  | n + 1, x0, x1, x2, x3, x5, x6, x7, h =>
    (gR h x0 0 4).bind fun v33 =>
    (aI h v33 (x5 + (1 : Int32))).bind fun v35 =>
    if v35 ≤ (x7 + (1 : Int32)) then (
      rec52 x0 x1 x2 x3 (x5 + (1 : Int32)) h) else (
      (gR h x0 0 5).bind fun v38 =>
      (aI h v38 x7).bind fun v40 =>
      (gR h x0 0 5).bind fun v42 =>
      (aI h v42 (x7 + (1 : Int32))).bind fun v44 =>
      if x1 = (3 : Int32) then (
        fxX0_addUpPieces_153 N rec52 (fxX0_addUpPieces_86 N rec52 n) x0 x1 x2 x3 x5 x6 x7 v40 v44 (1 : Int64) h) else (
        (aI h x2 (0 : Int32)).bind fun v47 =>
        (aI h x2 x6).bind fun v49 =>
        (aI h x2 v40).bind fun v51 =>
        (aI h x2 v44).bind fun v53 =>
        fxX0_addUpPieces_153 N rec52 (fxX0_addUpPieces_86 N rec52 n) x0 x1 x2 x3 x5 x6 x7 v40 v44 (((v47.toInt64 + v49.toInt64) + v51.toInt64) + v53.toInt64) h))
set_option maxHeartbeats 4000000 in
set_option maxRecDepth 100000 in
theorem eaX0_addUpPieces_86 {N : Nat} {R : mh} {rec52 : Nat → Int32 → Nat → Int64 → Int32 → mh → Option (mh × Int64)} (hrec52 : ∀ (x0 : Nat) (x1 : Int32) (x2 : Nat) (x3 : Int64) (x5 : Int32) (h : mh) {o : (mh × Int64)}, rec52 x0 x1 x2 x3 x5 h = some o → mB (gO mX0_addUpPieces (o.1 ++ R, some (.long o.2))) mX0_addUpPieces (52, [(0, .ref x0), (1, .int x1), (2, .ref x2), (3, .long x3), (5, .int x5)], [], (h ++ R), 0, 0)) : ∀ (n : Nat) (x0 : Nat) (x1 : Int32) (x2 : Nat) (x3 : Int64) (x5 : Int32) (x6 : Int32) (x7 : Int32) (h : mh) {o : (mh × Int64)}, fxX0_addUpPieces_86 N rec52 n x0 x1 x2 x3 x5 x6 x7 h = some o → mB (gO mX0_addUpPieces (o.1 ++ R, some (.long o.2))) mX0_addUpPieces (86, [(0, .ref x0), (1, .int x1), (2, .ref x2), (3, .long x3), (5, .int x5), (6, .int x6), (7, .int x7)], [], (h ++ R), 0, 0) := by
  intro n
  induction n with
  | zero => intro x0 x1 x2 x3 x5 x6 x7 h o hq; cases hq
  | succ n ih =>
    intro x0 x1 x2 x3 x5 x6 x7 h o hq
    unfold fxX0_addUpPieces_86 at hq
    refine mB_run odX0_addUpPieces 4 (g := (91, [(0, .ref x0), (1, .int x1), (2, .ref x2), (3, .long x3), (5, .int x5), (6, .int x6), (7, .int x7)], [.ref x0, .int (x7 + (1 : Int32))], (h ++ R), 0, 0)) rfl ?_
    obtain ⟨v33, e34, hq⟩ := bsm hq
    refine r_gR odX0_addUpPieces rfl rfl (gR_ap e34) ?_
    refine mB_run odX0_addUpPieces 3 (g := (98, [(0, .ref x0), (1, .int x1), (2, .ref x2), (3, .long x3), (5, .int x5), (6, .int x6), (7, .int x7)], [.int (x5 + (1 : Int32)), .ref v33, .int (x7 + (1 : Int32))], (h ++ R), 0, 0)) rfl ?_
    obtain ⟨v35, e36, hq⟩ := bsm hq
    refine r_aI odX0_addUpPieces rfl (aI_ap e36) ?_
    by_cases c37 : v35 ≤ (x7 + (1 : Int32))
    · rw [if_pos c37] at hq
      refine ic_ge_T (t := 181) odX0_addUpPieces rfl rfl c37 ?_
      refine mB_run odX0_addUpPieces 2 (g := (52, [(5, .int (x5 + (1 : Int32))), (0, .ref x0), (1, .int x1), (2, .ref x2), (3, .long x3), (6, .int x6), (7, .int x7)], [], (h ++ R), 0, 0)) rfl ?_
      refine mB_lv [1, 2, 3, 4, 0] (lv' := [(0, .ref x0), (1, .int x1), (2, .ref x2), (3, .long x3), (5, .int (x5 + (1 : Int32)))]) rfl ?_
      exact hrec52 _ _ _ _ _ _ hq
    · rw [if_neg c37] at hq
      refine ic_ge_F (t := 181) odX0_addUpPieces rfl rfl c37 ?_
      refine mB_run odX0_addUpPieces 1 (g := (103, [(0, .ref x0), (1, .int x1), (2, .ref x2), (3, .long x3), (5, .int x5), (6, .int x6), (7, .int x7)], [.ref x0], (h ++ R), 0, 0)) rfl ?_
      obtain ⟨v38, e39, hq⟩ := bsm hq
      refine r_gR odX0_addUpPieces rfl rfl (gR_ap e39) ?_
      refine mB_run odX0_addUpPieces 1 (g := (108, [(0, .ref x0), (1, .int x1), (2, .ref x2), (3, .long x3), (5, .int x5), (6, .int x6), (7, .int x7)], [.int x7, .ref v38], (h ++ R), 0, 0)) rfl ?_
      obtain ⟨v40, e41, hq⟩ := bsm hq
      refine r_aI odX0_addUpPieces rfl (aI_ap e41) ?_
      refine mB_run odX0_addUpPieces 2 (g := (112, [(8, .int v40), (0, .ref x0), (1, .int x1), (2, .ref x2), (3, .long x3), (5, .int x5), (6, .int x6), (7, .int x7)], [.ref x0], (h ++ R), 0, 0)) rfl ?_
      obtain ⟨v42, e43, hq⟩ := bsm hq
      refine r_gR odX0_addUpPieces rfl rfl (gR_ap e43) ?_
      refine mB_run odX0_addUpPieces 3 (g := (119, [(8, .int v40), (0, .ref x0), (1, .int x1), (2, .ref x2), (3, .long x3), (5, .int x5), (6, .int x6), (7, .int x7)], [.int (x7 + (1 : Int32)), .ref v42], (h ++ R), 0, 0)) rfl ?_
      obtain ⟨v44, e45, hq⟩ := bsm hq
      refine r_aI odX0_addUpPieces rfl (aI_ap e45) ?_
      refine mB_run odX0_addUpPieces 3 (g := (124, [(9, .int v44), (8, .int v40), (0, .ref x0), (1, .int x1), (2, .ref x2), (3, .long x3), (5, .int x5), (6, .int x6), (7, .int x7)], [.int (3 : Int32), .int x1], (h ++ R), 0, 0)) rfl ?_
      by_cases c46 : x1 = (3 : Int32)
      · rw [if_pos c46] at hq
        refine ic_ne_F (t := 131) odX0_addUpPieces rfl rfl c46 ?_
        refine mB_run odX0_addUpPieces 2 (g := (153, [(9, .int v44), (8, .int v40), (0, .ref x0), (1, .int x1), (2, .ref x2), (3, .long x3), (5, .int x5), (6, .int x6), (7, .int x7)], [.long (1 : Int64)], (h ++ R), 0, 0)) rfl ?_
        refine mB_lv [2, 3, 4, 5, 6, 7, 8, 1, 0] (lv' := [(0, .ref x0), (1, .int x1), (2, .ref x2), (3, .long x3), (5, .int x5), (6, .int x6), (7, .int x7), (8, .int v40), (9, .int v44)]) rfl ?_
        exact eaX0_addUpPieces_153 hrec52 ih _ _ _ _ _ _ _ _ _ _ _ hq
      · rw [if_neg c46] at hq
        refine ic_ne_T (t := 131) odX0_addUpPieces rfl rfl c46 ?_
        refine mB_run odX0_addUpPieces 2 (g := (133, [(9, .int v44), (8, .int v40), (0, .ref x0), (1, .int x1), (2, .ref x2), (3, .long x3), (5, .int x5), (6, .int x6), (7, .int x7)], [.int (0 : Int32), .ref x2], (h ++ R), 0, 0)) rfl ?_
        obtain ⟨v47, e48, hq⟩ := bsm hq
        refine r_aI odX0_addUpPieces rfl (aI_ap e48) ?_
        refine mB_run odX0_addUpPieces 3 (g := (138, [(9, .int v44), (8, .int v40), (0, .ref x0), (1, .int x1), (2, .ref x2), (3, .long x3), (5, .int x5), (6, .int x6), (7, .int x7)], [.int x6, .ref x2, .long v47.toInt64], (h ++ R), 0, 0)) rfl ?_
        obtain ⟨v49, e50, hq⟩ := bsm hq
        refine r_aI odX0_addUpPieces rfl (aI_ap e50) ?_
        refine mB_run odX0_addUpPieces 4 (g := (144, [(9, .int v44), (8, .int v40), (0, .ref x0), (1, .int x1), (2, .ref x2), (3, .long x3), (5, .int x5), (6, .int x6), (7, .int x7)], [.int v40, .ref x2, .long (v47.toInt64 + v49.toInt64)], (h ++ R), 0, 0)) rfl ?_
        obtain ⟨v51, e52, hq⟩ := bsm hq
        refine r_aI odX0_addUpPieces rfl (aI_ap e52) ?_
        refine mB_run odX0_addUpPieces 4 (g := (150, [(9, .int v44), (8, .int v40), (0, .ref x0), (1, .int x1), (2, .ref x2), (3, .long x3), (5, .int x5), (6, .int x6), (7, .int x7)], [.int v44, .ref x2, .long ((v47.toInt64 + v49.toInt64) + v51.toInt64)], (h ++ R), 0, 0)) rfl ?_
        obtain ⟨v53, e54, hq⟩ := bsm hq
        refine r_aI odX0_addUpPieces rfl (aI_ap e54) ?_
        refine mB_run odX0_addUpPieces 2 (g := (153, [(9, .int v44), (8, .int v40), (0, .ref x0), (1, .int x1), (2, .ref x2), (3, .long x3), (5, .int x5), (6, .int x6), (7, .int x7)], [.long (((v47.toInt64 + v49.toInt64) + v51.toInt64) + v53.toInt64)], (h ++ R), 0, 0)) rfl ?_
        refine mB_lv [2, 3, 4, 5, 6, 7, 8, 1, 0] (lv' := [(0, .ref x0), (1, .int x1), (2, .ref x2), (3, .long x3), (5, .int x5), (6, .int x6), (7, .int x7), (8, .int v40), (9, .int v44)]) rfl ?_
        exact eaX0_addUpPieces_153 hrec52 ih _ _ _ _ _ _ _ _ _ _ _ hq
def fxX0_addUpPieces_52 (N : Nat) : Nat → Nat → Int32 → Nat → Int64 → Int32 → mh → Option (mh × Int64)
  | 0, _, _, _, _, _, _ => none
  | n + 1, x0, x1, x2, x3, x5, h =>
    (gI h x0 0 2).bind fun v18 =>
    if v18 ≤ x5 then (
      some (h, x3)) else (
      (gR h x0 0 5).bind fun v21 =>
      (gR h x0 0 4).bind fun v23 =>
      (aI h v23 x5).bind fun v25 =>
      (aI h v21 v25).bind fun v27 =>
      (gR h x0 0 4).bind fun v29 =>
      (aI h v29 x5).bind fun v31 =>
      fxX0_addUpPieces_86 N (fxX0_addUpPieces_52 N n) N x0 x1 x2 x3 x5 v27 (v31 + (1 : Int32)) h)
set_option maxHeartbeats 4000000 in
set_option maxRecDepth 100000 in
theorem eaX0_addUpPieces_52 {N : Nat} {R : mh} : ∀ (n : Nat) (x0 : Nat) (x1 : Int32) (x2 : Nat) (x3 : Int64) (x5 : Int32) (h : mh) {o : (mh × Int64)}, fxX0_addUpPieces_52 N n x0 x1 x2 x3 x5 h = some o → mB (gO mX0_addUpPieces (o.1 ++ R, some (.long o.2))) mX0_addUpPieces (52, [(0, .ref x0), (1, .int x1), (2, .ref x2), (3, .long x3), (5, .int x5)], [], (h ++ R), 0, 0) := by
  intro n
  induction n with
  | zero => intro x0 x1 x2 x3 x5 h o hq; cases hq
  | succ n ih =>
    intro x0 x1 x2 x3 x5 h o hq
    unfold fxX0_addUpPieces_52 at hq
    refine mB_run odX0_addUpPieces 2 (g := (55, [(0, .ref x0), (1, .int x1), (2, .ref x2), (3, .long x3), (5, .int x5)], [.ref x0, .int x5], (h ++ R), 0, 0)) rfl ?_
    obtain ⟨v18, e19, hq⟩ := bsm hq
    refine r_gI odX0_addUpPieces rfl rfl (gI_ap e19) ?_
    by_cases c20 : v18 ≤ x5
    · rw [if_pos c20] at hq
      refine ic_ge_T (t := 187) odX0_addUpPieces rfl rfl c20 ?_
      refine mB_run odX0_addUpPieces 1 (g := (188, [(0, .ref x0), (1, .int x1), (2, .ref x2), (3, .long x3), (5, .int x5)], [.long x3], (h ++ R), 0, 0)) rfl ?_
      cases hq
      exact mB_ret odX0_addUpPieces rfl
    · rw [if_neg c20] at hq
      refine ic_ge_F (t := 187) odX0_addUpPieces rfl rfl c20 ?_
      refine mB_run odX0_addUpPieces 1 (g := (62, [(0, .ref x0), (1, .int x1), (2, .ref x2), (3, .long x3), (5, .int x5)], [.ref x0], (h ++ R), 0, 0)) rfl ?_
      obtain ⟨v21, e22, hq⟩ := bsm hq
      refine r_gR odX0_addUpPieces rfl rfl (gR_ap e22) ?_
      refine mB_run odX0_addUpPieces 1 (g := (66, [(0, .ref x0), (1, .int x1), (2, .ref x2), (3, .long x3), (5, .int x5)], [.ref x0, .ref v21], (h ++ R), 0, 0)) rfl ?_
      obtain ⟨v23, e24, hq⟩ := bsm hq
      refine r_gR odX0_addUpPieces rfl rfl (gR_ap e24) ?_
      refine mB_run odX0_addUpPieces 1 (g := (71, [(0, .ref x0), (1, .int x1), (2, .ref x2), (3, .long x3), (5, .int x5)], [.int x5, .ref v23, .ref v21], (h ++ R), 0, 0)) rfl ?_
      obtain ⟨v25, e26, hq⟩ := bsm hq
      refine r_aI odX0_addUpPieces rfl (aI_ap e26) ?_
      obtain ⟨v27, e28, hq⟩ := bsm hq
      refine r_aI odX0_addUpPieces rfl (aI_ap e28) ?_
      refine mB_run odX0_addUpPieces 2 (g := (76, [(6, .int v27), (0, .ref x0), (1, .int x1), (2, .ref x2), (3, .long x3), (5, .int x5)], [.ref x0], (h ++ R), 0, 0)) rfl ?_
      obtain ⟨v29, e30, hq⟩ := bsm hq
      refine r_gR odX0_addUpPieces rfl rfl (gR_ap e30) ?_
      refine mB_run odX0_addUpPieces 1 (g := (81, [(6, .int v27), (0, .ref x0), (1, .int x1), (2, .ref x2), (3, .long x3), (5, .int x5)], [.int x5, .ref v29], (h ++ R), 0, 0)) rfl ?_
      obtain ⟨v31, e32, hq⟩ := bsm hq
      refine r_aI odX0_addUpPieces rfl (aI_ap e32) ?_
      refine mB_run odX0_addUpPieces 3 (g := (86, [(7, .int (v31 + (1 : Int32))), (6, .int v27), (0, .ref x0), (1, .int x1), (2, .ref x2), (3, .long x3), (5, .int x5)], [], (h ++ R), 0, 0)) rfl ?_
      refine mB_lv [2, 3, 4, 5, 6, 1, 0] (lv' := [(0, .ref x0), (1, .int x1), (2, .ref x2), (3, .long x3), (5, .int x5), (6, .int v27), (7, .int (v31 + (1 : Int32)))]) rfl ?_
      exact eaX0_addUpPieces_86 ih N _ _ _ _ _ _ _ _ hq
def fxX0_addUpPieces_46 (N : Nat) (x0 : Nat) (x1 : Int32) (s0 : Nat) (h : mh) : Option (mh × Int64) :=
  fxX0_addUpPieces_52 N N x0 x1 s0 (0 : Int64) (0 : Int32) h
set_option maxHeartbeats 4000000 in
set_option maxRecDepth 100000 in
theorem eaX0_addUpPieces_46 {N : Nat} {R : mh} (x0 : Nat) (x1 : Int32) (s0 : Nat) (h : mh) {o : (mh × Int64)} (hq : fxX0_addUpPieces_46 N x0 x1 s0 h = some o) : mB (gO mX0_addUpPieces (o.1 ++ R, some (.long o.2))) mX0_addUpPieces (46, [(0, .ref x0), (1, .int x1)], [.ref s0], (h ++ R), 0, 0) := by
  unfold fxX0_addUpPieces_46 at hq
  refine mB_run odX0_addUpPieces 5 (g := (52, [(5, .int (0 : Int32)), (3, .long (0 : Int64)), (2, .ref s0), (0, .ref x0), (1, .int x1)], [], (h ++ R), 0, 0)) rfl ?_
  refine mB_lv [3, 4, 2, 1, 0] (lv' := [(0, .ref x0), (1, .int x1), (2, .ref s0), (3, .long (0 : Int64)), (5, .int (0 : Int32))]) rfl ?_
  exact eaX0_addUpPieces_52 N _ _ _ _ _ _ hq
def fxX0_addUpPieces (N : Nat) (p0 : Nat) (p1 : Int32) (h : mh) : Option (mh × Int64) :=
  (gI h p0 0 0).bind fun v1 =>
  if v1 = (4 : Int32) then (
    if p1 = 0 then (
      (gR h p0 0 1).bind fun v5 =>
      (gR h v5 3 1).bind fun v7 =>
      fxX0_addUpPieces_46 N p0 p1 v7 h) else (
      if p1 = (1 : Int32) then (
        (gR h p0 0 1).bind fun v10 =>
        (gR h v10 3 2).bind fun v12 =>
        fxX0_addUpPieces_46 N p0 p1 v12 h) else (
        (gR h p0 0 1).bind fun v14 =>
        (gR h v14 3 3).bind fun v16 =>
        fxX0_addUpPieces_46 N p0 p1 v16 h))) else (
    some (h, (0 : Int64)))
set_option maxHeartbeats 4000000 in
set_option maxRecDepth 100000 in
theorem eaX0_addUpPieces {N : Nat} {R : mh} {p0 : Nat} {p1 : Int32} {h : mh} {o : (mh × Int64)} (hq : fxX0_addUpPieces N p0 p1 h = some o) : mC mX0_addUpPieces [.ref p0, .int p1] (h ++ R) (o.1 ++ R, some (.long o.2)) := by
  refine mC_of okX0_addUpPieces (Nat.le_of_ble_eq_true rfl) ?_
  unfold fxX0_addUpPieces at hq
  show mB _ mX0_addUpPieces (0, [(0, .ref p0), (1, .int p1)], [], (h ++ R), 0, 0)
  refine mB_run odX0_addUpPieces 1 (g := (1, [(0, .ref p0), (1, .int p1)], [.ref p0], (h ++ R), 0, 0)) rfl ?_
  obtain ⟨v1, e2, hq⟩ := bsm hq
  refine r_gI odX0_addUpPieces rfl rfl (gI_ap e2) ?_
  refine mB_run odX0_addUpPieces 1 (g := (5, [(0, .ref p0), (1, .int p1)], [.int (4 : Int32), .int v1], (h ++ R), 0, 0)) rfl ?_
  by_cases c3 : v1 = (4 : Int32)
  · rw [if_pos c3] at hq
    refine ic_eq_T (t := 10) odX0_addUpPieces rfl rfl c3 ?_
    refine mB_run odX0_addUpPieces 1 (g := (11, [(0, .ref p0), (1, .int p1)], [.int p1], (h ++ R), 0, 0)) rfl ?_
    by_cases c4 : p1 = 0
    · rw [if_pos c4] at hq
      refine if_ne_F (t := 24) odX0_addUpPieces rfl rfl c4 ?_
      refine mB_run odX0_addUpPieces 1 (g := (15, [(0, .ref p0), (1, .int p1)], [.ref p0], (h ++ R), 0, 0)) rfl ?_
      obtain ⟨v5, e6, hq⟩ := bsm hq
      refine r_gR odX0_addUpPieces rfl rfl (gR_ap e6) ?_
      obtain ⟨v7, e8, hq⟩ := bsm hq
      refine r_gR odX0_addUpPieces rfl rfl (gR_ap e8) ?_
      refine mB_run odX0_addUpPieces 1 (g := (46, [(0, .ref p0), (1, .int p1)], [.ref v7], (h ++ R), 0, 0)) rfl ?_
      refine mB_lv [0, 1] (lv' := [(0, .ref p0), (1, .int p1)]) rfl ?_
      exact eaX0_addUpPieces_46 _ _ _ _ hq
    · rw [if_neg c4] at hq
      refine if_ne_T (t := 24) odX0_addUpPieces rfl rfl c4 ?_
      refine mB_run odX0_addUpPieces 2 (g := (26, [(0, .ref p0), (1, .int p1)], [.int (1 : Int32), .int p1], (h ++ R), 0, 0)) rfl ?_
      by_cases c9 : p1 = (1 : Int32)
      · rw [if_pos c9] at hq
        refine ic_ne_F (t := 39) odX0_addUpPieces rfl rfl c9 ?_
        refine mB_run odX0_addUpPieces 1 (g := (30, [(0, .ref p0), (1, .int p1)], [.ref p0], (h ++ R), 0, 0)) rfl ?_
        obtain ⟨v10, e11, hq⟩ := bsm hq
        refine r_gR odX0_addUpPieces rfl rfl (gR_ap e11) ?_
        obtain ⟨v12, e13, hq⟩ := bsm hq
        refine r_gR odX0_addUpPieces rfl rfl (gR_ap e13) ?_
        refine mB_run odX0_addUpPieces 1 (g := (46, [(0, .ref p0), (1, .int p1)], [.ref v12], (h ++ R), 0, 0)) rfl ?_
        refine mB_lv [0, 1] (lv' := [(0, .ref p0), (1, .int p1)]) rfl ?_
        exact eaX0_addUpPieces_46 _ _ _ _ hq
      · rw [if_neg c9] at hq
        refine ic_ne_T (t := 39) odX0_addUpPieces rfl rfl c9 ?_
        refine mB_run odX0_addUpPieces 1 (g := (40, [(0, .ref p0), (1, .int p1)], [.ref p0], (h ++ R), 0, 0)) rfl ?_
        obtain ⟨v14, e15, hq⟩ := bsm hq
        refine r_gR odX0_addUpPieces rfl rfl (gR_ap e15) ?_
        obtain ⟨v16, e17, hq⟩ := bsm hq
        refine r_gR odX0_addUpPieces rfl rfl (gR_ap e17) ?_
        refine mB_lv [0, 1] (lv' := [(0, .ref p0), (1, .int p1)]) rfl ?_
        exact eaX0_addUpPieces_46 _ _ _ _ hq
  · rw [if_neg c3] at hq
    refine ic_eq_F (t := 10) odX0_addUpPieces rfl rfl c3 ?_
    refine mB_run odX0_addUpPieces 1 (g := (9, [(0, .ref p0), (1, .int p1)], [.long (0 : Int64)], (h ++ R), 0, 0)) rfl ?_
    cases hq
    exact mB_ret odX0_addUpPieces rfl
def fxX0_sixVolumes (N : Nat) (p0 : Nat) (h : mh) : Option (mh × Int64) :=
  (kO h p0 0).bind fun f3 =>
  (fxX0_addUpPieces N p0 (3 : Int32) h).bind fun o1 =>
  some (o1.1, o1.2)
set_option maxHeartbeats 4000000 in
set_option maxRecDepth 100000 in
theorem eaX0_sixVolumes {N : Nat} {R : mh} {p0 : Nat} {h : mh} {o : (mh × Int64)} (hq : fxX0_sixVolumes N p0 h = some o) : mC mX0_sixVolumes [.ref p0] (h ++ R) (o.1 ++ R, some (.long o.2)) := by
  refine mC_of okX0_sixVolumes (Nat.le_of_ble_eq_true rfl) ?_
  unfold fxX0_sixVolumes at hq
  show mB _ mX0_sixVolumes (0, [(0, .ref p0)], [], (h ++ R), 0, 0)
  refine mB_run odX0_sixVolumes 2 (g := (2, [(0, .ref p0)], [.int (3 : Int32), .ref p0], (h ++ R), 0, 0)) rfl ?_
  obtain ⟨f3, k4, hq⟩ := bsm hq
  obtain ⟨o1, e2, hq⟩ := bsm hq
  refine mB_V (as := [.int (3 : Int32)]) odX0_sixVolumes okX0_addUpPieces lk_0_136 rfl (eaX0_addUpPieces e2) (kO_at (kO_ap k4)) rfl rfl rfl ?_
  show mB _ mX0_sixVolumes (5, [(0, .ref p0)], [.long o1.2], (o1.1 ++ R), 0, 0)
  cases hq
  exact mB_ret odX0_sixVolumes rfl
def fxX0_moment (N : Nat) (p0 : Nat) (p1 : Int32) (h : mh) : Option (mh × Int64) :=
  (kO h p0 0).bind fun f3 =>
  (fxX0_addUpPieces N p0 p1 h).bind fun o1 =>
  some (o1.1, o1.2)
set_option maxHeartbeats 4000000 in
set_option maxRecDepth 100000 in
theorem eaX0_moment {N : Nat} {R : mh} {p0 : Nat} {p1 : Int32} {h : mh} {o : (mh × Int64)} (hq : fxX0_moment N p0 p1 h = some o) : mC mX0_moment [.ref p0, .int p1] (h ++ R) (o.1 ++ R, some (.long o.2)) := by
  refine mC_of okX0_moment (Nat.le_of_ble_eq_true rfl) ?_
  unfold fxX0_moment at hq
  show mB _ mX0_moment (0, [(0, .ref p0), (1, .int p1)], [], (h ++ R), 0, 0)
  refine mB_run odX0_moment 2 (g := (2, [(0, .ref p0), (1, .int p1)], [.int p1, .ref p0], (h ++ R), 0, 0)) rfl ?_
  obtain ⟨f3, k4, hq⟩ := bsm hq
  obtain ⟨o1, e2, hq⟩ := bsm hq
  refine mB_V (as := [.int p1]) odX0_moment okX0_addUpPieces lk_0_136 rfl (eaX0_addUpPieces e2) (kO_at (kO_ap k4)) rfl rfl rfl ?_
  show mB _ mX0_moment (5, [(0, .ref p0), (1, .int p1)], [.long o1.2], (o1.1 ++ R), 0, 0)
  cases hq
  exact mB_ret odX0_moment rfl
def fxX0_locateAmongFaces_48 (N : Nat) (rec6 : Nat → Int64 → Int64 → Int64 → Int64 → Int32 → Int32 → mh → Option (mh × Int32)) (x0 : Nat) (x1 : Int64) (x3 : Int64) (x5 : Int64) (x7 : Int64) (x9 : Int32) (x10 : Int32) (h : mh) : Option (mh × Int32) :=
  rec6 x0 x1 x3 x5 x7 x9 (x10 + (1 : Int32)) h
set_option maxHeartbeats 4000000 in
set_option maxRecDepth 100000 in
theorem eaX0_locateAmongFaces_48 {N : Nat} {R : mh} {rec6 : Nat → Int64 → Int64 → Int64 → Int64 → Int32 → Int32 → mh → Option (mh × Int32)} (hrec6 : ∀ (x0 : Nat) (x1 : Int64) (x3 : Int64) (x5 : Int64) (x7 : Int64) (x9 : Int32) (x10 : Int32) (h : mh) {o : (mh × Int32)}, rec6 x0 x1 x3 x5 x7 x9 x10 h = some o → mB (gO mX0_locateAmongFaces (o.1 ++ R, some (.int o.2))) mX0_locateAmongFaces (6, [(0, .ref x0), (1, .long x1), (3, .long x3), (5, .long x5), (7, .long x7), (9, .int x9), (10, .int x10)], [], (h ++ R), 0, 0)) (x0 : Nat) (x1 : Int64) (x3 : Int64) (x5 : Int64) (x7 : Int64) (x9 : Int32) (x10 : Int32) (h : mh) {o : (mh × Int32)} (hq : fxX0_locateAmongFaces_48 N rec6 x0 x1 x3 x5 x7 x9 x10 h = some o) : mB (gO mX0_locateAmongFaces (o.1 ++ R, some (.int o.2))) mX0_locateAmongFaces (48, [(0, .ref x0), (1, .long x1), (3, .long x3), (5, .long x5), (7, .long x7), (9, .int x9), (10, .int x10)], [], (h ++ R), 0, 0) := by
  unfold fxX0_locateAmongFaces_48 at hq
  refine mB_run odX0_locateAmongFaces 2 (g := (6, [(10, .int (x10 + (1 : Int32))), (0, .ref x0), (1, .long x1), (3, .long x3), (5, .long x5), (7, .long x7), (9, .int x9)], [], (h ++ R), 0, 0)) rfl ?_
  refine mB_lv [1, 2, 3, 4, 5, 6, 0] (lv' := [(0, .ref x0), (1, .long x1), (3, .long x3), (5, .long x5), (7, .long x7), (9, .int x9), (10, .int (x10 + (1 : Int32)))]) rfl ?_
  exact hrec6 _ _ _ _ _ _ _ _ hq
def fxX0_locateAmongFaces_6 (N : Nat) : Nat → Nat → Int64 → Int64 → Int64 → Int64 → Int32 → Int32 → mh → Option (mh × Int32)
  | 0, _, _, _, _, _, _, _, _ => none
  | n + 1, x0, x1, x3, x5, x7, x9, x10, h =>
    (gI h x0 0 2).bind fun v1 =>
    if v1 ≤ x10 then (
      some (h, x9)) else (
      (kO h x0 0).bind fun f6 =>
      (fxX0_excess N x0 x10 x1 x3 x5 x7 h).bind fun o4 =>
      if o4.2 ≤ (0 : Int64) then (
        if o4.2 = (0 : Int64) then (
          fxX0_locateAmongFaces_48 N (fxX0_locateAmongFaces_6 N n) x0 x1 x3 x5 x7 (1 : Int32) x10 o4.1) else (
          fxX0_locateAmongFaces_48 N (fxX0_locateAmongFaces_6 N n) x0 x1 x3 x5 x7 x9 x10 o4.1)) else (
        some (o4.1, (0 : Int32))))
set_option maxHeartbeats 4000000 in
set_option maxRecDepth 100000 in
theorem eaX0_locateAmongFaces_6 {N : Nat} {R : mh} : ∀ (n : Nat) (x0 : Nat) (x1 : Int64) (x3 : Int64) (x5 : Int64) (x7 : Int64) (x9 : Int32) (x10 : Int32) (h : mh) {o : (mh × Int32)}, fxX0_locateAmongFaces_6 N n x0 x1 x3 x5 x7 x9 x10 h = some o → mB (gO mX0_locateAmongFaces (o.1 ++ R, some (.int o.2))) mX0_locateAmongFaces (6, [(0, .ref x0), (1, .long x1), (3, .long x3), (5, .long x5), (7, .long x7), (9, .int x9), (10, .int x10)], [], (h ++ R), 0, 0) := by
  intro n
  induction n with
  | zero => intro x0 x1 x3 x5 x7 x9 x10 h o hq; cases hq
  | succ n ih =>
    intro x0 x1 x3 x5 x7 x9 x10 h o hq
    unfold fxX0_locateAmongFaces_6 at hq
    refine mB_run odX0_locateAmongFaces 2 (g := (9, [(0, .ref x0), (1, .long x1), (3, .long x3), (5, .long x5), (7, .long x7), (9, .int x9), (10, .int x10)], [.ref x0, .int x10], (h ++ R), 0, 0)) rfl ?_
    obtain ⟨v1, e2, hq⟩ := bsm hq
    refine r_gI odX0_locateAmongFaces rfl rfl (gI_ap e2) ?_
    by_cases c3 : v1 ≤ x10
    · rw [if_pos c3] at hq
      refine ic_ge_T (t := 54) odX0_locateAmongFaces rfl rfl c3 ?_
      refine mB_run odX0_locateAmongFaces 1 (g := (56, [(0, .ref x0), (1, .long x1), (3, .long x3), (5, .long x5), (7, .long x7), (9, .int x9), (10, .int x10)], [.int x9], (h ++ R), 0, 0)) rfl ?_
      cases hq
      exact mB_ret odX0_locateAmongFaces rfl
    · rw [if_neg c3] at hq
      refine ic_ge_F (t := 54) odX0_locateAmongFaces rfl rfl c3 ?_
      refine mB_run odX0_locateAmongFaces 6 (g := (24, [(0, .ref x0), (1, .long x1), (3, .long x3), (5, .long x5), (7, .long x7), (9, .int x9), (10, .int x10)], [.long x7, .long x5, .long x3, .long x1, .int x10, .ref x0], (h ++ R), 0, 0)) rfl ?_
      obtain ⟨f6, k7, hq⟩ := bsm hq
      obtain ⟨o4, e5, hq⟩ := bsm hq
      refine mB_V (as := [.int x10, .long x1, .long x3, .long x5, .long x7]) odX0_locateAmongFaces okX0_excess lk_0_98 rfl (eaX0_excess e5) (kO_at (kO_ap k7)) rfl rfl rfl ?_
      show mB _ mX0_locateAmongFaces (27, [(0, .ref x0), (1, .long x1), (3, .long x3), (5, .long x5), (7, .long x7), (9, .int x9), (10, .int x10)], [.long o4.2], (o4.1 ++ R), 0, 0)
      refine mB_run odX0_locateAmongFaces 3 (g := (32, [(11, .long o4.2), (0, .ref x0), (1, .long x1), (3, .long x3), (5, .long x5), (7, .long x7), (9, .int x9), (10, .int x10)], [.long (0 : Int64), .long o4.2], (o4.1 ++ R), 0, 0)) rfl ?_
      by_cases c8 : o4.2 ≤ (0 : Int64)
      · rw [if_pos c8] at hq
        refine lc_le_T (t := 38) odX0_locateAmongFaces rfl rfl rfl c8 ?_
        refine mB_run odX0_locateAmongFaces 2 (g := (41, [(11, .long o4.2), (0, .ref x0), (1, .long x1), (3, .long x3), (5, .long x5), (7, .long x7), (9, .int x9), (10, .int x10)], [.long (0 : Int64), .long o4.2], (o4.1 ++ R), 0, 0)) rfl ?_
        by_cases c9 : o4.2 = (0 : Int64)
        · rw [if_pos c9] at hq
          refine lc_ne_F (t := 48) odX0_locateAmongFaces rfl rfl rfl c9 ?_
          refine mB_run odX0_locateAmongFaces 2 (g := (48, [(9, .int (1 : Int32)), (11, .long o4.2), (0, .ref x0), (1, .long x1), (3, .long x3), (5, .long x5), (7, .long x7), (10, .int x10)], [], (o4.1 ++ R), 0, 0)) rfl ?_
          refine mB_lv [2, 3, 4, 5, 6, 0, 7] (lv' := [(0, .ref x0), (1, .long x1), (3, .long x3), (5, .long x5), (7, .long x7), (9, .int (1 : Int32)), (10, .int x10)]) rfl ?_
          exact eaX0_locateAmongFaces_48 ih _ _ _ _ _ _ _ _ hq
        · rw [if_neg c9] at hq
          refine lc_ne_T (t := 48) odX0_locateAmongFaces rfl rfl rfl c9 ?_
          refine mB_lv [1, 2, 3, 4, 5, 6, 7] (lv' := [(0, .ref x0), (1, .long x1), (3, .long x3), (5, .long x5), (7, .long x7), (9, .int x9), (10, .int x10)]) rfl ?_
          exact eaX0_locateAmongFaces_48 ih _ _ _ _ _ _ _ _ hq
      · rw [if_neg c8] at hq
        refine lc_le_F (t := 38) odX0_locateAmongFaces rfl rfl rfl c8 ?_
        refine mB_run odX0_locateAmongFaces 1 (g := (37, [(11, .long o4.2), (0, .ref x0), (1, .long x1), (3, .long x3), (5, .long x5), (7, .long x7), (9, .int x9), (10, .int x10)], [.int (0 : Int32)], (o4.1 ++ R), 0, 0)) rfl ?_
        cases hq
        exact mB_ret odX0_locateAmongFaces rfl
def fxX0_locateAmongFaces (N : Nat) (p0 : Nat) (p1 : Int64) (p2 : Int64) (p3 : Int64) (p4 : Int64) (h : mh) : Option (mh × Int32) :=
  fxX0_locateAmongFaces_6 N N p0 p1 p2 p3 p4 (2 : Int32) (0 : Int32) h
set_option maxHeartbeats 4000000 in
set_option maxRecDepth 100000 in
theorem eaX0_locateAmongFaces {N : Nat} {R : mh} {p0 : Nat} {p1 : Int64} {p2 : Int64} {p3 : Int64} {p4 : Int64} {h : mh} {o : (mh × Int32)} (hq : fxX0_locateAmongFaces N p0 p1 p2 p3 p4 h = some o) : mC mX0_locateAmongFaces [.ref p0, .long p1, .long p2, .long p3, .long p4] (h ++ R) (o.1 ++ R, some (.int o.2)) := by
  refine mC_of okX0_locateAmongFaces (Nat.le_of_ble_eq_true rfl) ?_
  unfold fxX0_locateAmongFaces at hq
  show mB _ mX0_locateAmongFaces (0, [(0, .ref p0), (1, .long p1), (3, .long p2), (5, .long p3), (7, .long p4)], [], (h ++ R), 0, 0)
  refine mB_run odX0_locateAmongFaces 4 (g := (6, [(10, .int (0 : Int32)), (9, .int (2 : Int32)), (0, .ref p0), (1, .long p1), (3, .long p2), (5, .long p3), (7, .long p4)], [], (h ++ R), 0, 0)) rfl ?_
  refine mB_lv [2, 3, 4, 5, 6, 1, 0] (lv' := [(0, .ref p0), (1, .long p1), (3, .long p2), (5, .long p3), (7, .long p4), (9, .int (2 : Int32)), (10, .int (0 : Int32))]) rfl ?_
  exact eaX0_locateAmongFaces_6 N _ _ _ _ _ _ _ _ hq
def fxX0_isInFigure_73 (N : Nat) (rec28 : Nat → Int64 → Int64 → Int64 → Int64 → Int32 → mh → Option (mh × Int32)) (x0 : Nat) (x1 : Int64) (x3 : Int64) (x5 : Int64) (x7 : Int64) (x9 : Int32) (x10 : Int32) (s0 : Int32) (s1 : Nat) (h : mh) : Option (mh × Int32) :=
  (aI h s1 s0).bind fun v25 =>
  (gR h x0 0 1).bind fun v27 =>
  (gR h v27 3 1).bind fun v29 =>
  (aI h v29 v25).bind fun v31 =>
  (gR h x0 0 1).bind fun v33 =>
  (gR h v33 3 1).bind fun v35 =>
  (aI h v35 x10).bind fun v37 =>
  (gR h x0 0 1).bind fun v39 =>
  (gR h v39 3 2).bind fun v41 =>
  (aI h v41 v25).bind fun v43 =>
  (gR h x0 0 1).bind fun v45 =>
  (gR h v45 3 2).bind fun v47 =>
  (aI h v47 x10).bind fun v49 =>
  (gR h x0 0 1).bind fun v51 =>
  (gR h v51 3 3).bind fun v53 =>
  (aI h v53 v25).bind fun v55 =>
  (gR h x0 0 1).bind fun v57 =>
  (gR h v57 3 3).bind fun v59 =>
  (aI h v59 x10).bind fun v61 =>
  (gR h x0 0 3).bind fun v63 =>
  (aI h v63 (2 : Int32)).bind fun v65 =>
  (gR h x0 0 3).bind fun v67 =>
  (aI h v67 (1 : Int32)).bind fun v69 =>
  (gR h x0 0 1).bind fun v71 =>
  (gR h v71 3 1).bind fun v73 =>
  (aI h v73 x10).bind fun v75 =>
  (gR h x0 0 3).bind fun v77 =>
  (aI h v77 (0 : Int32)).bind fun v79 =>
  (gR h x0 0 3).bind fun v81 =>
  (aI h v81 (2 : Int32)).bind fun v83 =>
  (gR h x0 0 1).bind fun v85 =>
  (gR h v85 3 2).bind fun v87 =>
  (aI h v87 x10).bind fun v89 =>
  (gR h x0 0 3).bind fun v91 =>
  (aI h v91 (1 : Int32)).bind fun v93 =>
  (gR h x0 0 3).bind fun v95 =>
  (aI h v95 (0 : Int32)).bind fun v97 =>
  (gR h x0 0 1).bind fun v99 =>
  (gR h v99 3 3).bind fun v101 =>
  (aI h v101 x10).bind fun v103 =>
  if ((((((v43 - v49).toInt64 * v65.toInt64) - ((v55 - v61).toInt64 * v69.toInt64)) * (x1 - (x7 * v75.toInt64))) + ((((v55 - v61).toInt64 * v79.toInt64) - ((v31 - v37).toInt64 * v83.toInt64)) * (x3 - (x7 * v89.toInt64)))) + ((((v31 - v37).toInt64 * v93.toInt64) - ((v43 - v49).toInt64 * v97.toInt64)) * (x5 - (x7 * v103.toInt64)))) ≤ (0 : Int64) then (
    rec28 x0 x1 x3 x5 x7 (x9 + (1 : Int32)) h) else (
    some (h, (0 : Int32)))
set_option maxHeartbeats 4000000 in
set_option maxRecDepth 100000 in
theorem eaX0_isInFigure_73 {N : Nat} {R : mh} {rec28 : Nat → Int64 → Int64 → Int64 → Int64 → Int32 → mh → Option (mh × Int32)} (hrec28 : ∀ (x0 : Nat) (x1 : Int64) (x3 : Int64) (x5 : Int64) (x7 : Int64) (x9 : Int32) (h : mh) {o : (mh × Int32)}, rec28 x0 x1 x3 x5 x7 x9 h = some o → mB (gO mX0_isInFigure (o.1 ++ R, some (.int o.2))) mX0_isInFigure (28, [(0, .ref x0), (1, .long x1), (3, .long x3), (5, .long x5), (7, .long x7), (9, .int x9)], [], (h ++ R), 0, 0)) (x0 : Nat) (x1 : Int64) (x3 : Int64) (x5 : Int64) (x7 : Int64) (x9 : Int32) (x10 : Int32) (s0 : Int32) (s1 : Nat) (h : mh) {o : (mh × Int32)} (hq : fxX0_isInFigure_73 N rec28 x0 x1 x3 x5 x7 x9 x10 s0 s1 h = some o) : mB (gO mX0_isInFigure (o.1 ++ R, some (.int o.2))) mX0_isInFigure (73, [(0, .ref x0), (1, .long x1), (3, .long x3), (5, .long x5), (7, .long x7), (9, .int x9), (10, .int x10)], [.int s0, .ref s1], (h ++ R), 0, 0) := by
  unfold fxX0_isInFigure_73 at hq
  obtain ⟨v25, e26, hq⟩ := bsm hq
  refine r_aI odX0_isInFigure rfl (aI_ap e26) ?_
  refine mB_run odX0_isInFigure 2 (g := (77, [(11, .int v25), (0, .ref x0), (1, .long x1), (3, .long x3), (5, .long x5), (7, .long x7), (9, .int x9), (10, .int x10)], [.ref x0], (h ++ R), 0, 0)) rfl ?_
  obtain ⟨v27, e28, hq⟩ := bsm hq
  refine r_gR odX0_isInFigure rfl rfl (gR_ap e28) ?_
  obtain ⟨v29, e30, hq⟩ := bsm hq
  refine r_gR odX0_isInFigure rfl rfl (gR_ap e30) ?_
  refine mB_run odX0_isInFigure 1 (g := (85, [(11, .int v25), (0, .ref x0), (1, .long x1), (3, .long x3), (5, .long x5), (7, .long x7), (9, .int x9), (10, .int x10)], [.int v25, .ref v29], (h ++ R), 0, 0)) rfl ?_
  obtain ⟨v31, e32, hq⟩ := bsm hq
  refine r_aI odX0_isInFigure rfl (aI_ap e32) ?_
  refine mB_run odX0_isInFigure 1 (g := (87, [(11, .int v25), (0, .ref x0), (1, .long x1), (3, .long x3), (5, .long x5), (7, .long x7), (9, .int x9), (10, .int x10)], [.ref x0, .int v31], (h ++ R), 0, 0)) rfl ?_
  obtain ⟨v33, e34, hq⟩ := bsm hq
  refine r_gR odX0_isInFigure rfl rfl (gR_ap e34) ?_
  obtain ⟨v35, e36, hq⟩ := bsm hq
  refine r_gR odX0_isInFigure rfl rfl (gR_ap e36) ?_
  refine mB_run odX0_isInFigure 1 (g := (95, [(11, .int v25), (0, .ref x0), (1, .long x1), (3, .long x3), (5, .long x5), (7, .long x7), (9, .int x9), (10, .int x10)], [.int x10, .ref v35, .int v31], (h ++ R), 0, 0)) rfl ?_
  obtain ⟨v37, e38, hq⟩ := bsm hq
  refine r_aI odX0_isInFigure rfl (aI_ap e38) ?_
  refine mB_run odX0_isInFigure 4 (g := (101, [(12, .long (v31 - v37).toInt64), (11, .int v25), (0, .ref x0), (1, .long x1), (3, .long x3), (5, .long x5), (7, .long x7), (9, .int x9), (10, .int x10)], [.ref x0], (h ++ R), 0, 0)) rfl ?_
  obtain ⟨v39, e40, hq⟩ := bsm hq
  refine r_gR odX0_isInFigure rfl rfl (gR_ap e40) ?_
  obtain ⟨v41, e42, hq⟩ := bsm hq
  refine r_gR odX0_isInFigure rfl rfl (gR_ap e42) ?_
  refine mB_run odX0_isInFigure 1 (g := (109, [(12, .long (v31 - v37).toInt64), (11, .int v25), (0, .ref x0), (1, .long x1), (3, .long x3), (5, .long x5), (7, .long x7), (9, .int x9), (10, .int x10)], [.int v25, .ref v41], (h ++ R), 0, 0)) rfl ?_
  obtain ⟨v43, e44, hq⟩ := bsm hq
  refine r_aI odX0_isInFigure rfl (aI_ap e44) ?_
  refine mB_run odX0_isInFigure 1 (g := (111, [(12, .long (v31 - v37).toInt64), (11, .int v25), (0, .ref x0), (1, .long x1), (3, .long x3), (5, .long x5), (7, .long x7), (9, .int x9), (10, .int x10)], [.ref x0, .int v43], (h ++ R), 0, 0)) rfl ?_
  obtain ⟨v45, e46, hq⟩ := bsm hq
  refine r_gR odX0_isInFigure rfl rfl (gR_ap e46) ?_
  obtain ⟨v47, e48, hq⟩ := bsm hq
  refine r_gR odX0_isInFigure rfl rfl (gR_ap e48) ?_
  refine mB_run odX0_isInFigure 1 (g := (119, [(12, .long (v31 - v37).toInt64), (11, .int v25), (0, .ref x0), (1, .long x1), (3, .long x3), (5, .long x5), (7, .long x7), (9, .int x9), (10, .int x10)], [.int x10, .ref v47, .int v43], (h ++ R), 0, 0)) rfl ?_
  obtain ⟨v49, e50, hq⟩ := bsm hq
  refine r_aI odX0_isInFigure rfl (aI_ap e50) ?_
  refine mB_run odX0_isInFigure 4 (g := (125, [(14, .long (v43 - v49).toInt64), (12, .long (v31 - v37).toInt64), (11, .int v25), (0, .ref x0), (1, .long x1), (3, .long x3), (5, .long x5), (7, .long x7), (9, .int x9), (10, .int x10)], [.ref x0], (h ++ R), 0, 0)) rfl ?_
  obtain ⟨v51, e52, hq⟩ := bsm hq
  refine r_gR odX0_isInFigure rfl rfl (gR_ap e52) ?_
  obtain ⟨v53, e54, hq⟩ := bsm hq
  refine r_gR odX0_isInFigure rfl rfl (gR_ap e54) ?_
  refine mB_run odX0_isInFigure 1 (g := (133, [(14, .long (v43 - v49).toInt64), (12, .long (v31 - v37).toInt64), (11, .int v25), (0, .ref x0), (1, .long x1), (3, .long x3), (5, .long x5), (7, .long x7), (9, .int x9), (10, .int x10)], [.int v25, .ref v53], (h ++ R), 0, 0)) rfl ?_
  obtain ⟨v55, e56, hq⟩ := bsm hq
  refine r_aI odX0_isInFigure rfl (aI_ap e56) ?_
  refine mB_run odX0_isInFigure 1 (g := (135, [(14, .long (v43 - v49).toInt64), (12, .long (v31 - v37).toInt64), (11, .int v25), (0, .ref x0), (1, .long x1), (3, .long x3), (5, .long x5), (7, .long x7), (9, .int x9), (10, .int x10)], [.ref x0, .int v55], (h ++ R), 0, 0)) rfl ?_
  obtain ⟨v57, e58, hq⟩ := bsm hq
  refine r_gR odX0_isInFigure rfl rfl (gR_ap e58) ?_
  obtain ⟨v59, e60, hq⟩ := bsm hq
  refine r_gR odX0_isInFigure rfl rfl (gR_ap e60) ?_
  refine mB_run odX0_isInFigure 1 (g := (143, [(14, .long (v43 - v49).toInt64), (12, .long (v31 - v37).toInt64), (11, .int v25), (0, .ref x0), (1, .long x1), (3, .long x3), (5, .long x5), (7, .long x7), (9, .int x9), (10, .int x10)], [.int x10, .ref v59, .int v55], (h ++ R), 0, 0)) rfl ?_
  obtain ⟨v61, e62, hq⟩ := bsm hq
  refine r_aI odX0_isInFigure rfl (aI_ap e62) ?_
  refine mB_run odX0_isInFigure 5 (g := (151, [(16, .long (v55 - v61).toInt64), (14, .long (v43 - v49).toInt64), (12, .long (v31 - v37).toInt64), (11, .int v25), (0, .ref x0), (1, .long x1), (3, .long x3), (5, .long x5), (7, .long x7), (9, .int x9), (10, .int x10)], [.ref x0, .long (v43 - v49).toInt64], (h ++ R), 0, 0)) rfl ?_
  obtain ⟨v63, e64, hq⟩ := bsm hq
  refine r_gR odX0_isInFigure rfl rfl (gR_ap e64) ?_
  refine mB_run odX0_isInFigure 1 (g := (155, [(16, .long (v55 - v61).toInt64), (14, .long (v43 - v49).toInt64), (12, .long (v31 - v37).toInt64), (11, .int v25), (0, .ref x0), (1, .long x1), (3, .long x3), (5, .long x5), (7, .long x7), (9, .int x9), (10, .int x10)], [.int (2 : Int32), .ref v63, .long (v43 - v49).toInt64], (h ++ R), 0, 0)) rfl ?_
  obtain ⟨v65, e66, hq⟩ := bsm hq
  refine r_aI odX0_isInFigure rfl (aI_ap e66) ?_
  refine mB_run odX0_isInFigure 4 (g := (161, [(16, .long (v55 - v61).toInt64), (14, .long (v43 - v49).toInt64), (12, .long (v31 - v37).toInt64), (11, .int v25), (0, .ref x0), (1, .long x1), (3, .long x3), (5, .long x5), (7, .long x7), (9, .int x9), (10, .int x10)], [.ref x0, .long (v55 - v61).toInt64, .long ((v43 - v49).toInt64 * v65.toInt64)], (h ++ R), 0, 0)) rfl ?_
  obtain ⟨v67, e68, hq⟩ := bsm hq
  refine r_gR odX0_isInFigure rfl rfl (gR_ap e68) ?_
  refine mB_run odX0_isInFigure 1 (g := (165, [(16, .long (v55 - v61).toInt64), (14, .long (v43 - v49).toInt64), (12, .long (v31 - v37).toInt64), (11, .int v25), (0, .ref x0), (1, .long x1), (3, .long x3), (5, .long x5), (7, .long x7), (9, .int x9), (10, .int x10)], [.int (1 : Int32), .ref v67, .long (v55 - v61).toInt64, .long ((v43 - v49).toInt64 * v65.toInt64)], (h ++ R), 0, 0)) rfl ?_
  obtain ⟨v69, e70, hq⟩ := bsm hq
  refine r_aI odX0_isInFigure rfl (aI_ap e70) ?_
  refine mB_run odX0_isInFigure 6 (g := (173, [(16, .long (v55 - v61).toInt64), (14, .long (v43 - v49).toInt64), (12, .long (v31 - v37).toInt64), (11, .int v25), (0, .ref x0), (1, .long x1), (3, .long x3), (5, .long x5), (7, .long x7), (9, .int x9), (10, .int x10)], [.ref x0, .long x7, .long x1, .long (((v43 - v49).toInt64 * v65.toInt64) - ((v55 - v61).toInt64 * v69.toInt64))], (h ++ R), 0, 0)) rfl ?_
  obtain ⟨v71, e72, hq⟩ := bsm hq
  refine r_gR odX0_isInFigure rfl rfl (gR_ap e72) ?_
  obtain ⟨v73, e74, hq⟩ := bsm hq
  refine r_gR odX0_isInFigure rfl rfl (gR_ap e74) ?_
  refine mB_run odX0_isInFigure 1 (g := (181, [(16, .long (v55 - v61).toInt64), (14, .long (v43 - v49).toInt64), (12, .long (v31 - v37).toInt64), (11, .int v25), (0, .ref x0), (1, .long x1), (3, .long x3), (5, .long x5), (7, .long x7), (9, .int x9), (10, .int x10)], [.int x10, .ref v73, .long x7, .long x1, .long (((v43 - v49).toInt64 * v65.toInt64) - ((v55 - v61).toInt64 * v69.toInt64))], (h ++ R), 0, 0)) rfl ?_
  obtain ⟨v75, e76, hq⟩ := bsm hq
  refine r_aI odX0_isInFigure rfl (aI_ap e76) ?_
  refine mB_run odX0_isInFigure 6 (g := (189, [(16, .long (v55 - v61).toInt64), (14, .long (v43 - v49).toInt64), (12, .long (v31 - v37).toInt64), (11, .int v25), (0, .ref x0), (1, .long x1), (3, .long x3), (5, .long x5), (7, .long x7), (9, .int x9), (10, .int x10)], [.ref x0, .long (v55 - v61).toInt64, .long ((((v43 - v49).toInt64 * v65.toInt64) - ((v55 - v61).toInt64 * v69.toInt64)) * (x1 - (x7 * v75.toInt64)))], (h ++ R), 0, 0)) rfl ?_
  obtain ⟨v77, e78, hq⟩ := bsm hq
  refine r_gR odX0_isInFigure rfl rfl (gR_ap e78) ?_
  refine mB_run odX0_isInFigure 1 (g := (193, [(16, .long (v55 - v61).toInt64), (14, .long (v43 - v49).toInt64), (12, .long (v31 - v37).toInt64), (11, .int v25), (0, .ref x0), (1, .long x1), (3, .long x3), (5, .long x5), (7, .long x7), (9, .int x9), (10, .int x10)], [.int (0 : Int32), .ref v77, .long (v55 - v61).toInt64, .long ((((v43 - v49).toInt64 * v65.toInt64) - ((v55 - v61).toInt64 * v69.toInt64)) * (x1 - (x7 * v75.toInt64)))], (h ++ R), 0, 0)) rfl ?_
  obtain ⟨v79, e80, hq⟩ := bsm hq
  refine r_aI odX0_isInFigure rfl (aI_ap e80) ?_
  refine mB_run odX0_isInFigure 4 (g := (199, [(16, .long (v55 - v61).toInt64), (14, .long (v43 - v49).toInt64), (12, .long (v31 - v37).toInt64), (11, .int v25), (0, .ref x0), (1, .long x1), (3, .long x3), (5, .long x5), (7, .long x7), (9, .int x9), (10, .int x10)], [.ref x0, .long (v31 - v37).toInt64, .long ((v55 - v61).toInt64 * v79.toInt64), .long ((((v43 - v49).toInt64 * v65.toInt64) - ((v55 - v61).toInt64 * v69.toInt64)) * (x1 - (x7 * v75.toInt64)))], (h ++ R), 0, 0)) rfl ?_
  obtain ⟨v81, e82, hq⟩ := bsm hq
  refine r_gR odX0_isInFigure rfl rfl (gR_ap e82) ?_
  refine mB_run odX0_isInFigure 1 (g := (203, [(16, .long (v55 - v61).toInt64), (14, .long (v43 - v49).toInt64), (12, .long (v31 - v37).toInt64), (11, .int v25), (0, .ref x0), (1, .long x1), (3, .long x3), (5, .long x5), (7, .long x7), (9, .int x9), (10, .int x10)], [.int (2 : Int32), .ref v81, .long (v31 - v37).toInt64, .long ((v55 - v61).toInt64 * v79.toInt64), .long ((((v43 - v49).toInt64 * v65.toInt64) - ((v55 - v61).toInt64 * v69.toInt64)) * (x1 - (x7 * v75.toInt64)))], (h ++ R), 0, 0)) rfl ?_
  obtain ⟨v83, e84, hq⟩ := bsm hq
  refine r_aI odX0_isInFigure rfl (aI_ap e84) ?_
  refine mB_run odX0_isInFigure 6 (g := (211, [(16, .long (v55 - v61).toInt64), (14, .long (v43 - v49).toInt64), (12, .long (v31 - v37).toInt64), (11, .int v25), (0, .ref x0), (1, .long x1), (3, .long x3), (5, .long x5), (7, .long x7), (9, .int x9), (10, .int x10)], [.ref x0, .long x7, .long x3, .long (((v55 - v61).toInt64 * v79.toInt64) - ((v31 - v37).toInt64 * v83.toInt64)), .long ((((v43 - v49).toInt64 * v65.toInt64) - ((v55 - v61).toInt64 * v69.toInt64)) * (x1 - (x7 * v75.toInt64)))], (h ++ R), 0, 0)) rfl ?_
  obtain ⟨v85, e86, hq⟩ := bsm hq
  refine r_gR odX0_isInFigure rfl rfl (gR_ap e86) ?_
  obtain ⟨v87, e88, hq⟩ := bsm hq
  refine r_gR odX0_isInFigure rfl rfl (gR_ap e88) ?_
  refine mB_run odX0_isInFigure 1 (g := (219, [(16, .long (v55 - v61).toInt64), (14, .long (v43 - v49).toInt64), (12, .long (v31 - v37).toInt64), (11, .int v25), (0, .ref x0), (1, .long x1), (3, .long x3), (5, .long x5), (7, .long x7), (9, .int x9), (10, .int x10)], [.int x10, .ref v87, .long x7, .long x3, .long (((v55 - v61).toInt64 * v79.toInt64) - ((v31 - v37).toInt64 * v83.toInt64)), .long ((((v43 - v49).toInt64 * v65.toInt64) - ((v55 - v61).toInt64 * v69.toInt64)) * (x1 - (x7 * v75.toInt64)))], (h ++ R), 0, 0)) rfl ?_
  obtain ⟨v89, e90, hq⟩ := bsm hq
  refine r_aI odX0_isInFigure rfl (aI_ap e90) ?_
  refine mB_run odX0_isInFigure 7 (g := (228, [(16, .long (v55 - v61).toInt64), (14, .long (v43 - v49).toInt64), (12, .long (v31 - v37).toInt64), (11, .int v25), (0, .ref x0), (1, .long x1), (3, .long x3), (5, .long x5), (7, .long x7), (9, .int x9), (10, .int x10)], [.ref x0, .long (v31 - v37).toInt64, .long (((((v43 - v49).toInt64 * v65.toInt64) - ((v55 - v61).toInt64 * v69.toInt64)) * (x1 - (x7 * v75.toInt64))) + ((((v55 - v61).toInt64 * v79.toInt64) - ((v31 - v37).toInt64 * v83.toInt64)) * (x3 - (x7 * v89.toInt64))))], (h ++ R), 0, 0)) rfl ?_
  obtain ⟨v91, e92, hq⟩ := bsm hq
  refine r_gR odX0_isInFigure rfl rfl (gR_ap e92) ?_
  refine mB_run odX0_isInFigure 1 (g := (232, [(16, .long (v55 - v61).toInt64), (14, .long (v43 - v49).toInt64), (12, .long (v31 - v37).toInt64), (11, .int v25), (0, .ref x0), (1, .long x1), (3, .long x3), (5, .long x5), (7, .long x7), (9, .int x9), (10, .int x10)], [.int (1 : Int32), .ref v91, .long (v31 - v37).toInt64, .long (((((v43 - v49).toInt64 * v65.toInt64) - ((v55 - v61).toInt64 * v69.toInt64)) * (x1 - (x7 * v75.toInt64))) + ((((v55 - v61).toInt64 * v79.toInt64) - ((v31 - v37).toInt64 * v83.toInt64)) * (x3 - (x7 * v89.toInt64))))], (h ++ R), 0, 0)) rfl ?_
  obtain ⟨v93, e94, hq⟩ := bsm hq
  refine r_aI odX0_isInFigure rfl (aI_ap e94) ?_
  refine mB_run odX0_isInFigure 4 (g := (238, [(16, .long (v55 - v61).toInt64), (14, .long (v43 - v49).toInt64), (12, .long (v31 - v37).toInt64), (11, .int v25), (0, .ref x0), (1, .long x1), (3, .long x3), (5, .long x5), (7, .long x7), (9, .int x9), (10, .int x10)], [.ref x0, .long (v43 - v49).toInt64, .long ((v31 - v37).toInt64 * v93.toInt64), .long (((((v43 - v49).toInt64 * v65.toInt64) - ((v55 - v61).toInt64 * v69.toInt64)) * (x1 - (x7 * v75.toInt64))) + ((((v55 - v61).toInt64 * v79.toInt64) - ((v31 - v37).toInt64 * v83.toInt64)) * (x3 - (x7 * v89.toInt64))))], (h ++ R), 0, 0)) rfl ?_
  obtain ⟨v95, e96, hq⟩ := bsm hq
  refine r_gR odX0_isInFigure rfl rfl (gR_ap e96) ?_
  refine mB_run odX0_isInFigure 1 (g := (242, [(16, .long (v55 - v61).toInt64), (14, .long (v43 - v49).toInt64), (12, .long (v31 - v37).toInt64), (11, .int v25), (0, .ref x0), (1, .long x1), (3, .long x3), (5, .long x5), (7, .long x7), (9, .int x9), (10, .int x10)], [.int (0 : Int32), .ref v95, .long (v43 - v49).toInt64, .long ((v31 - v37).toInt64 * v93.toInt64), .long (((((v43 - v49).toInt64 * v65.toInt64) - ((v55 - v61).toInt64 * v69.toInt64)) * (x1 - (x7 * v75.toInt64))) + ((((v55 - v61).toInt64 * v79.toInt64) - ((v31 - v37).toInt64 * v83.toInt64)) * (x3 - (x7 * v89.toInt64))))], (h ++ R), 0, 0)) rfl ?_
  obtain ⟨v97, e98, hq⟩ := bsm hq
  refine r_aI odX0_isInFigure rfl (aI_ap e98) ?_
  refine mB_run odX0_isInFigure 6 (g := (251, [(16, .long (v55 - v61).toInt64), (14, .long (v43 - v49).toInt64), (12, .long (v31 - v37).toInt64), (11, .int v25), (0, .ref x0), (1, .long x1), (3, .long x3), (5, .long x5), (7, .long x7), (9, .int x9), (10, .int x10)], [.ref x0, .long x7, .long x5, .long (((v31 - v37).toInt64 * v93.toInt64) - ((v43 - v49).toInt64 * v97.toInt64)), .long (((((v43 - v49).toInt64 * v65.toInt64) - ((v55 - v61).toInt64 * v69.toInt64)) * (x1 - (x7 * v75.toInt64))) + ((((v55 - v61).toInt64 * v79.toInt64) - ((v31 - v37).toInt64 * v83.toInt64)) * (x3 - (x7 * v89.toInt64))))], (h ++ R), 0, 0)) rfl ?_
  obtain ⟨v99, e100, hq⟩ := bsm hq
  refine r_gR odX0_isInFigure rfl rfl (gR_ap e100) ?_
  obtain ⟨v101, e102, hq⟩ := bsm hq
  refine r_gR odX0_isInFigure rfl rfl (gR_ap e102) ?_
  refine mB_run odX0_isInFigure 1 (g := (259, [(16, .long (v55 - v61).toInt64), (14, .long (v43 - v49).toInt64), (12, .long (v31 - v37).toInt64), (11, .int v25), (0, .ref x0), (1, .long x1), (3, .long x3), (5, .long x5), (7, .long x7), (9, .int x9), (10, .int x10)], [.int x10, .ref v101, .long x7, .long x5, .long (((v31 - v37).toInt64 * v93.toInt64) - ((v43 - v49).toInt64 * v97.toInt64)), .long (((((v43 - v49).toInt64 * v65.toInt64) - ((v55 - v61).toInt64 * v69.toInt64)) * (x1 - (x7 * v75.toInt64))) + ((((v55 - v61).toInt64 * v79.toInt64) - ((v31 - v37).toInt64 * v83.toInt64)) * (x3 - (x7 * v89.toInt64))))], (h ++ R), 0, 0)) rfl ?_
  obtain ⟨v103, e104, hq⟩ := bsm hq
  refine r_aI odX0_isInFigure rfl (aI_ap e104) ?_
  refine mB_run odX0_isInFigure 8 (g := (270, [(18, .long ((((((v43 - v49).toInt64 * v65.toInt64) - ((v55 - v61).toInt64 * v69.toInt64)) * (x1 - (x7 * v75.toInt64))) + ((((v55 - v61).toInt64 * v79.toInt64) - ((v31 - v37).toInt64 * v83.toInt64)) * (x3 - (x7 * v89.toInt64)))) + ((((v31 - v37).toInt64 * v93.toInt64) - ((v43 - v49).toInt64 * v97.toInt64)) * (x5 - (x7 * v103.toInt64))))), (16, .long (v55 - v61).toInt64), (14, .long (v43 - v49).toInt64), (12, .long (v31 - v37).toInt64), (11, .int v25), (0, .ref x0), (1, .long x1), (3, .long x3), (5, .long x5), (7, .long x7), (9, .int x9), (10, .int x10)], [.long (0 : Int64), .long ((((((v43 - v49).toInt64 * v65.toInt64) - ((v55 - v61).toInt64 * v69.toInt64)) * (x1 - (x7 * v75.toInt64))) + ((((v55 - v61).toInt64 * v79.toInt64) - ((v31 - v37).toInt64 * v83.toInt64)) * (x3 - (x7 * v89.toInt64)))) + ((((v31 - v37).toInt64 * v93.toInt64) - ((v43 - v49).toInt64 * v97.toInt64)) * (x5 - (x7 * v103.toInt64))))], (h ++ R), 0, 0)) rfl ?_
  by_cases c105 : ((((((v43 - v49).toInt64 * v65.toInt64) - ((v55 - v61).toInt64 * v69.toInt64)) * (x1 - (x7 * v75.toInt64))) + ((((v55 - v61).toInt64 * v79.toInt64) - ((v31 - v37).toInt64 * v83.toInt64)) * (x3 - (x7 * v89.toInt64)))) + ((((v31 - v37).toInt64 * v93.toInt64) - ((v43 - v49).toInt64 * v97.toInt64)) * (x5 - (x7 * v103.toInt64)))) ≤ (0 : Int64)
  · rw [if_pos c105] at hq
    refine lc_le_T (t := 276) odX0_isInFigure rfl rfl rfl c105 ?_
    refine mB_run odX0_isInFigure 2 (g := (28, [(9, .int (x9 + (1 : Int32))), (18, .long ((((((v43 - v49).toInt64 * v65.toInt64) - ((v55 - v61).toInt64 * v69.toInt64)) * (x1 - (x7 * v75.toInt64))) + ((((v55 - v61).toInt64 * v79.toInt64) - ((v31 - v37).toInt64 * v83.toInt64)) * (x3 - (x7 * v89.toInt64)))) + ((((v31 - v37).toInt64 * v93.toInt64) - ((v43 - v49).toInt64 * v97.toInt64)) * (x5 - (x7 * v103.toInt64))))), (16, .long (v55 - v61).toInt64), (14, .long (v43 - v49).toInt64), (12, .long (v31 - v37).toInt64), (11, .int v25), (0, .ref x0), (1, .long x1), (3, .long x3), (5, .long x5), (7, .long x7), (10, .int x10)], [], (h ++ R), 0, 0)) rfl ?_
    refine mB_lv [6, 7, 8, 9, 10, 0] (lv' := [(0, .ref x0), (1, .long x1), (3, .long x3), (5, .long x5), (7, .long x7), (9, .int (x9 + (1 : Int32)))]) rfl ?_
    exact hrec28 _ _ _ _ _ _ _ hq
  · rw [if_neg c105] at hq
    refine lc_le_F (t := 276) odX0_isInFigure rfl rfl rfl c105 ?_
    refine mB_run odX0_isInFigure 1 (g := (275, [(18, .long ((((((v43 - v49).toInt64 * v65.toInt64) - ((v55 - v61).toInt64 * v69.toInt64)) * (x1 - (x7 * v75.toInt64))) + ((((v55 - v61).toInt64 * v79.toInt64) - ((v31 - v37).toInt64 * v83.toInt64)) * (x3 - (x7 * v89.toInt64)))) + ((((v31 - v37).toInt64 * v93.toInt64) - ((v43 - v49).toInt64 * v97.toInt64)) * (x5 - (x7 * v103.toInt64))))), (16, .long (v55 - v61).toInt64), (14, .long (v43 - v49).toInt64), (12, .long (v31 - v37).toInt64), (11, .int v25), (0, .ref x0), (1, .long x1), (3, .long x3), (5, .long x5), (7, .long x7), (9, .int x9), (10, .int x10)], [.int (0 : Int32)], (h ++ R), 0, 0)) rfl ?_
    cases hq
    exact mB_ret odX0_isInFigure rfl
def fxX0_isInFigure_28 (N : Nat) : Nat → Nat → Int64 → Int64 → Int64 → Int64 → Int32 → mh → Option (mh × Int32)
  | 0, _, _, _, _, _, _, _ => none
  | n + 1, x0, x1, x3, x5, x7, x9, h =>
    (gR h x0 0 4).bind fun v9 =>
    (aI h v9 (1 : Int32)).bind fun v11 =>
    if v11 ≤ x9 then (
      some (h, (1 : Int32))) else (
      (gR h x0 0 5).bind fun v14 =>
      (aI h v14 x9).bind fun v16 =>
      (gR h x0 0 5).bind fun v18 =>
      (gR h x0 0 4).bind fun v20 =>
      (aI h v20 (1 : Int32)).bind fun v22 =>
      if v22 ≤ (x9 + (1 : Int32)) then (
        fxX0_isInFigure_73 N (fxX0_isInFigure_28 N n) x0 x1 x3 x5 x7 x9 v16 (0 : Int32) v18 h) else (
        fxX0_isInFigure_73 N (fxX0_isInFigure_28 N n) x0 x1 x3 x5 x7 x9 v16 (x9 + (1 : Int32)) v18 h))
set_option maxHeartbeats 4000000 in
set_option maxRecDepth 100000 in
theorem eaX0_isInFigure_28 {N : Nat} {R : mh} : ∀ (n : Nat) (x0 : Nat) (x1 : Int64) (x3 : Int64) (x5 : Int64) (x7 : Int64) (x9 : Int32) (h : mh) {o : (mh × Int32)}, fxX0_isInFigure_28 N n x0 x1 x3 x5 x7 x9 h = some o → mB (gO mX0_isInFigure (o.1 ++ R, some (.int o.2))) mX0_isInFigure (28, [(0, .ref x0), (1, .long x1), (3, .long x3), (5, .long x5), (7, .long x7), (9, .int x9)], [], (h ++ R), 0, 0) := by
  intro n
  induction n with
  | zero => intro x0 x1 x3 x5 x7 x9 h o hq; cases hq
  | succ n ih =>
    intro x0 x1 x3 x5 x7 x9 h o hq
    unfold fxX0_isInFigure_28 at hq
    refine mB_run odX0_isInFigure 2 (g := (31, [(0, .ref x0), (1, .long x1), (3, .long x3), (5, .long x5), (7, .long x7), (9, .int x9)], [.ref x0, .int x9], (h ++ R), 0, 0)) rfl ?_
    obtain ⟨v9, e10, hq⟩ := bsm hq
    refine r_gR odX0_isInFigure rfl rfl (gR_ap e10) ?_
    refine mB_run odX0_isInFigure 1 (g := (35, [(0, .ref x0), (1, .long x1), (3, .long x3), (5, .long x5), (7, .long x7), (9, .int x9)], [.int (1 : Int32), .ref v9, .int x9], (h ++ R), 0, 0)) rfl ?_
    obtain ⟨v11, e12, hq⟩ := bsm hq
    refine r_aI odX0_isInFigure rfl (aI_ap e12) ?_
    by_cases c13 : v11 ≤ x9
    · rw [if_pos c13] at hq
      refine ic_ge_T (t := 282) odX0_isInFigure rfl rfl c13 ?_
      refine mB_run odX0_isInFigure 1 (g := (283, [(0, .ref x0), (1, .long x1), (3, .long x3), (5, .long x5), (7, .long x7), (9, .int x9)], [.int (1 : Int32)], (h ++ R), 0, 0)) rfl ?_
      cases hq
      exact mB_ret odX0_isInFigure rfl
    · rw [if_neg c13] at hq
      refine ic_ge_F (t := 282) odX0_isInFigure rfl rfl c13 ?_
      refine mB_run odX0_isInFigure 1 (g := (40, [(0, .ref x0), (1, .long x1), (3, .long x3), (5, .long x5), (7, .long x7), (9, .int x9)], [.ref x0], (h ++ R), 0, 0)) rfl ?_
      obtain ⟨v14, e15, hq⟩ := bsm hq
      refine r_gR odX0_isInFigure rfl rfl (gR_ap e15) ?_
      refine mB_run odX0_isInFigure 1 (g := (45, [(0, .ref x0), (1, .long x1), (3, .long x3), (5, .long x5), (7, .long x7), (9, .int x9)], [.int x9, .ref v14], (h ++ R), 0, 0)) rfl ?_
      obtain ⟨v16, e17, hq⟩ := bsm hq
      refine r_aI odX0_isInFigure rfl (aI_ap e17) ?_
      refine mB_run odX0_isInFigure 2 (g := (49, [(10, .int v16), (0, .ref x0), (1, .long x1), (3, .long x3), (5, .long x5), (7, .long x7), (9, .int x9)], [.ref x0], (h ++ R), 0, 0)) rfl ?_
      obtain ⟨v18, e19, hq⟩ := bsm hq
      refine r_gR odX0_isInFigure rfl rfl (gR_ap e19) ?_
      refine mB_run odX0_isInFigure 4 (g := (57, [(10, .int v16), (0, .ref x0), (1, .long x1), (3, .long x3), (5, .long x5), (7, .long x7), (9, .int x9)], [.ref x0, .int (x9 + (1 : Int32)), .ref v18], (h ++ R), 0, 0)) rfl ?_
      obtain ⟨v20, e21, hq⟩ := bsm hq
      refine r_gR odX0_isInFigure rfl rfl (gR_ap e21) ?_
      refine mB_run odX0_isInFigure 1 (g := (61, [(10, .int v16), (0, .ref x0), (1, .long x1), (3, .long x3), (5, .long x5), (7, .long x7), (9, .int x9)], [.int (1 : Int32), .ref v20, .int (x9 + (1 : Int32)), .ref v18], (h ++ R), 0, 0)) rfl ?_
      obtain ⟨v22, e23, hq⟩ := bsm hq
      refine r_aI odX0_isInFigure rfl (aI_ap e23) ?_
      by_cases c24 : v22 ≤ (x9 + (1 : Int32))
      · rw [if_pos c24] at hq
        refine ic_ge_T (t := 72) odX0_isInFigure rfl rfl c24 ?_
        refine mB_run odX0_isInFigure 1 (g := (73, [(10, .int v16), (0, .ref x0), (1, .long x1), (3, .long x3), (5, .long x5), (7, .long x7), (9, .int x9)], [.int (0 : Int32), .ref v18], (h ++ R), 0, 0)) rfl ?_
        refine mB_lv [1, 2, 3, 4, 5, 6, 0] (lv' := [(0, .ref x0), (1, .long x1), (3, .long x3), (5, .long x5), (7, .long x7), (9, .int x9), (10, .int v16)]) rfl ?_
        exact eaX0_isInFigure_73 ih _ _ _ _ _ _ _ _ _ _ hq
      · rw [if_neg c24] at hq
        refine ic_ge_F (t := 72) odX0_isInFigure rfl rfl c24 ?_
        refine mB_run odX0_isInFigure 4 (g := (73, [(10, .int v16), (0, .ref x0), (1, .long x1), (3, .long x3), (5, .long x5), (7, .long x7), (9, .int x9)], [.int (x9 + (1 : Int32)), .ref v18], (h ++ R), 0, 0)) rfl ?_
        refine mB_lv [1, 2, 3, 4, 5, 6, 0] (lv' := [(0, .ref x0), (1, .long x1), (3, .long x3), (5, .long x5), (7, .long x7), (9, .int x9), (10, .int v16)]) rfl ?_
        exact eaX0_isInFigure_73 ih _ _ _ _ _ _ _ _ _ _ hq
def fxX0_isInFigure (N : Nat) (p0 : Nat) (p1 : Int64) (p2 : Int64) (p3 : Int64) (p4 : Int64) (h : mh) : Option (mh × Int32) :=
  (gI h p0 0 2).bind fun v1 =>
  if v1 = 0 then (
    some (h, (0 : Int32))) else (
    (kO h p0 0).bind fun f6 =>
    (fxX0_excess N p0 (0 : Int32) p1 p2 p3 p4 h).bind fun o4 =>
    if o4.2 = (0 : Int64) then (
      fxX0_isInFigure_28 N N p0 p1 p2 p3 p4 (0 : Int32) o4.1) else (
      some (o4.1, (0 : Int32))))
set_option maxHeartbeats 4000000 in
set_option maxRecDepth 100000 in
theorem eaX0_isInFigure {N : Nat} {R : mh} {p0 : Nat} {p1 : Int64} {p2 : Int64} {p3 : Int64} {p4 : Int64} {h : mh} {o : (mh × Int32)} (hq : fxX0_isInFigure N p0 p1 p2 p3 p4 h = some o) : mC mX0_isInFigure [.ref p0, .long p1, .long p2, .long p3, .long p4] (h ++ R) (o.1 ++ R, some (.int o.2)) := by
  refine mC_of okX0_isInFigure (Nat.le_of_ble_eq_true rfl) ?_
  unfold fxX0_isInFigure at hq
  show mB _ mX0_isInFigure (0, [(0, .ref p0), (1, .long p1), (3, .long p2), (5, .long p3), (7, .long p4)], [], (h ++ R), 0, 0)
  refine mB_run odX0_isInFigure 1 (g := (1, [(0, .ref p0), (1, .long p1), (3, .long p2), (5, .long p3), (7, .long p4)], [.ref p0], (h ++ R), 0, 0)) rfl ?_
  obtain ⟨v1, e2, hq⟩ := bsm hq
  refine r_gI odX0_isInFigure rfl rfl (gI_ap e2) ?_
  by_cases c3 : v1 = 0
  · rw [if_pos c3] at hq
    refine if_eq_T (t := 23) odX0_isInFigure rfl rfl c3 ?_
    refine mB_run odX0_isInFigure 1 (g := (24, [(0, .ref p0), (1, .long p1), (3, .long p2), (5, .long p3), (7, .long p4)], [.int (0 : Int32)], (h ++ R), 0, 0)) rfl ?_
    cases hq
    exact mB_ret odX0_isInFigure rfl
  · rw [if_neg c3] at hq
    refine if_eq_F (t := 23) odX0_isInFigure rfl rfl c3 ?_
    refine mB_run odX0_isInFigure 6 (g := (15, [(0, .ref p0), (1, .long p1), (3, .long p2), (5, .long p3), (7, .long p4)], [.long p4, .long p3, .long p2, .long p1, .int (0 : Int32), .ref p0], (h ++ R), 0, 0)) rfl ?_
    obtain ⟨f6, k7, hq⟩ := bsm hq
    obtain ⟨o4, e5, hq⟩ := bsm hq
    refine mB_V (as := [.int (0 : Int32), .long p1, .long p2, .long p3, .long p4]) odX0_isInFigure okX0_excess lk_0_98 rfl (eaX0_excess e5) (kO_at (kO_ap k7)) rfl rfl rfl ?_
    show mB _ mX0_isInFigure (18, [(0, .ref p0), (1, .long p1), (3, .long p2), (5, .long p3), (7, .long p4)], [.long o4.2], (o4.1 ++ R), 0, 0)
    refine mB_run odX0_isInFigure 1 (g := (19, [(0, .ref p0), (1, .long p1), (3, .long p2), (5, .long p3), (7, .long p4)], [.long (0 : Int64), .long o4.2], (o4.1 ++ R), 0, 0)) rfl ?_
    by_cases c8 : o4.2 = (0 : Int64)
    · rw [if_pos c8] at hq
      refine lc_eq_T (t := 25) odX0_isInFigure rfl rfl rfl c8 ?_
      refine mB_run odX0_isInFigure 2 (g := (28, [(9, .int (0 : Int32)), (0, .ref p0), (1, .long p1), (3, .long p2), (5, .long p3), (7, .long p4)], [], (o4.1 ++ R), 0, 0)) rfl ?_
      refine mB_lv [1, 2, 3, 4, 5, 0] (lv' := [(0, .ref p0), (1, .long p1), (3, .long p2), (5, .long p3), (7, .long p4), (9, .int (0 : Int32))]) rfl ?_
      exact eaX0_isInFigure_28 N _ _ _ _ _ _ _ hq
    · rw [if_neg c8] at hq
      refine lc_eq_F (t := 25) odX0_isInFigure rfl rfl rfl c8 ?_
      refine mB_run odX0_isInFigure 1 (g := (24, [(0, .ref p0), (1, .long p1), (3, .long p2), (5, .long p3), (7, .long p4)], [.int (0 : Int32)], (o4.1 ++ R), 0, 0)) rfl ?_
      cases hq
      exact mB_ret odX0_isInFigure rfl
def fxX0_isOnLine (N : Nat) (p0 : Nat) (p1 : Int64) (p2 : Int64) (p3 : Int64) (p4 : Int64) (h : mh) : Option (mh × Int32) :=
  (gR h p0 0 1).bind fun v1 =>
  (gI h v1 3 0).bind fun v3 =>
  if 0 ≤ (v3 - (1 : Int32)) then (
    (gR h p0 0 1).bind fun v6 =>
    (gR h v6 3 1).bind fun v8 =>
    (aI h v8 (v3 - (1 : Int32))).bind fun v10 =>
    (gR h p0 0 1).bind fun v12 =>
    (gR h v12 3 1).bind fun v14 =>
    (aI h v14 (0 : Int32)).bind fun v16 =>
    (gR h p0 0 1).bind fun v18 =>
    (gR h v18 3 2).bind fun v20 =>
    (aI h v20 (v3 - (1 : Int32))).bind fun v22 =>
    (gR h p0 0 1).bind fun v24 =>
    (gR h v24 3 2).bind fun v26 =>
    (aI h v26 (0 : Int32)).bind fun v28 =>
    (gR h p0 0 1).bind fun v30 =>
    (gR h v30 3 3).bind fun v32 =>
    (aI h v32 (v3 - (1 : Int32))).bind fun v34 =>
    (gR h p0 0 1).bind fun v36 =>
    (gR h v36 3 3).bind fun v38 =>
    (aI h v38 (0 : Int32)).bind fun v40 =>
    (gR h p0 0 1).bind fun v42 =>
    (gR h v42 3 1).bind fun v44 =>
    (aI h v44 (0 : Int32)).bind fun v46 =>
    (gR h p0 0 1).bind fun v48 =>
    (gR h v48 3 2).bind fun v50 =>
    (aI h v50 (0 : Int32)).bind fun v52 =>
    (gR h p0 0 1).bind fun v54 =>
    (gR h v54 3 3).bind fun v56 =>
    (aI h v56 (0 : Int32)).bind fun v58 =>
    if (v3 - (1 : Int32)) = 0 then (
      if (p1 - (p4 * v46.toInt64)) = (0 : Int64) then (
        if (p2 - (p4 * v52.toInt64)) = (0 : Int64) then (
          if (p3 - (p4 * v58.toInt64)) = (0 : Int64) then (
            some (h, (1 : Int32))) else (
            some (h, (0 : Int32)))) else (
          some (h, (0 : Int32)))) else (
        some (h, (0 : Int32)))) else (
      if ((v22 - v28).toInt64 * (p3 - (p4 * v58.toInt64))) = ((v34 - v40).toInt64 * (p2 - (p4 * v52.toInt64))) then (
        if ((v34 - v40).toInt64 * (p1 - (p4 * v46.toInt64))) = ((v10 - v16).toInt64 * (p3 - (p4 * v58.toInt64))) then (
          if ((v10 - v16).toInt64 * (p2 - (p4 * v52.toInt64))) = ((v22 - v28).toInt64 * (p1 - (p4 * v46.toInt64))) then (
            if ((((v10 - v16).toInt64 * (p1 - (p4 * v46.toInt64))) + ((v22 - v28).toInt64 * (p2 - (p4 * v52.toInt64)))) + ((v34 - v40).toInt64 * (p3 - (p4 * v58.toInt64)))) < (0 : Int64) then (
              some (h, (0 : Int32))) else (
              (fxX0_steepness N (v10 - v16).toInt64 (v22 - v28).toInt64 (v34 - v40).toInt64 h).bind fun o68 =>
              if (p4 * o68.2) < ((((v10 - v16).toInt64 * (p1 - (p4 * v46.toInt64))) + ((v22 - v28).toInt64 * (p2 - (p4 * v52.toInt64)))) + ((v34 - v40).toInt64 * (p3 - (p4 * v58.toInt64)))) then (
                some (o68.1, (0 : Int32))) else (
                some (o68.1, (1 : Int32))))) else (
            some (h, (0 : Int32)))) else (
          some (h, (0 : Int32)))) else (
        some (h, (0 : Int32))))) else (
    some (h, (0 : Int32)))
set_option maxHeartbeats 4000000 in
set_option maxRecDepth 100000 in
theorem eaX0_isOnLine {N : Nat} {R : mh} {p0 : Nat} {p1 : Int64} {p2 : Int64} {p3 : Int64} {p4 : Int64} {h : mh} {o : (mh × Int32)} (hq : fxX0_isOnLine N p0 p1 p2 p3 p4 h = some o) : mC mX0_isOnLine [.ref p0, .long p1, .long p2, .long p3, .long p4] (h ++ R) (o.1 ++ R, some (.int o.2)) := by
  refine mC_of okX0_isOnLine (Nat.le_of_ble_eq_true rfl) ?_
  unfold fxX0_isOnLine at hq
  show mB _ mX0_isOnLine (0, [(0, .ref p0), (1, .long p1), (3, .long p2), (5, .long p3), (7, .long p4)], [], (h ++ R), 0, 0)
  refine mB_run odX0_isOnLine 1 (g := (1, [(0, .ref p0), (1, .long p1), (3, .long p2), (5, .long p3), (7, .long p4)], [.ref p0], (h ++ R), 0, 0)) rfl ?_
  obtain ⟨v1, e2, hq⟩ := bsm hq
  refine r_gR odX0_isOnLine rfl rfl (gR_ap e2) ?_
  obtain ⟨v3, e4, hq⟩ := bsm hq
  refine r_gI odX0_isOnLine rfl rfl (gI_ap e4) ?_
  refine mB_run odX0_isOnLine 4 (g := (13, [(9, .int (v3 - (1 : Int32))), (0, .ref p0), (1, .long p1), (3, .long p2), (5, .long p3), (7, .long p4)], [.int (v3 - (1 : Int32))], (h ++ R), 0, 0)) rfl ?_
  by_cases c5 : 0 ≤ (v3 - (1 : Int32))
  · rw [if_pos c5] at hq
    refine if_ge_T (t := 18) odX0_isOnLine rfl rfl c5 ?_
    refine mB_run odX0_isOnLine 1 (g := (19, [(9, .int (v3 - (1 : Int32))), (0, .ref p0), (1, .long p1), (3, .long p2), (5, .long p3), (7, .long p4)], [.ref p0], (h ++ R), 0, 0)) rfl ?_
    obtain ⟨v6, e7, hq⟩ := bsm hq
    refine r_gR odX0_isOnLine rfl rfl (gR_ap e7) ?_
    obtain ⟨v8, e9, hq⟩ := bsm hq
    refine r_gR odX0_isOnLine rfl rfl (gR_ap e9) ?_
    refine mB_run odX0_isOnLine 1 (g := (27, [(9, .int (v3 - (1 : Int32))), (0, .ref p0), (1, .long p1), (3, .long p2), (5, .long p3), (7, .long p4)], [.int (v3 - (1 : Int32)), .ref v8], (h ++ R), 0, 0)) rfl ?_
    obtain ⟨v10, e11, hq⟩ := bsm hq
    refine r_aI odX0_isOnLine rfl (aI_ap e11) ?_
    refine mB_run odX0_isOnLine 1 (g := (29, [(9, .int (v3 - (1 : Int32))), (0, .ref p0), (1, .long p1), (3, .long p2), (5, .long p3), (7, .long p4)], [.ref p0, .int v10], (h ++ R), 0, 0)) rfl ?_
    obtain ⟨v12, e13, hq⟩ := bsm hq
    refine r_gR odX0_isOnLine rfl rfl (gR_ap e13) ?_
    obtain ⟨v14, e15, hq⟩ := bsm hq
    refine r_gR odX0_isOnLine rfl rfl (gR_ap e15) ?_
    refine mB_run odX0_isOnLine 1 (g := (36, [(9, .int (v3 - (1 : Int32))), (0, .ref p0), (1, .long p1), (3, .long p2), (5, .long p3), (7, .long p4)], [.int (0 : Int32), .ref v14, .int v10], (h ++ R), 0, 0)) rfl ?_
    obtain ⟨v16, e17, hq⟩ := bsm hq
    refine r_aI odX0_isOnLine rfl (aI_ap e17) ?_
    refine mB_run odX0_isOnLine 4 (g := (42, [(10, .long (v10 - v16).toInt64), (9, .int (v3 - (1 : Int32))), (0, .ref p0), (1, .long p1), (3, .long p2), (5, .long p3), (7, .long p4)], [.ref p0], (h ++ R), 0, 0)) rfl ?_
    obtain ⟨v18, e19, hq⟩ := bsm hq
    refine r_gR odX0_isOnLine rfl rfl (gR_ap e19) ?_
    obtain ⟨v20, e21, hq⟩ := bsm hq
    refine r_gR odX0_isOnLine rfl rfl (gR_ap e21) ?_
    refine mB_run odX0_isOnLine 1 (g := (50, [(10, .long (v10 - v16).toInt64), (9, .int (v3 - (1 : Int32))), (0, .ref p0), (1, .long p1), (3, .long p2), (5, .long p3), (7, .long p4)], [.int (v3 - (1 : Int32)), .ref v20], (h ++ R), 0, 0)) rfl ?_
    obtain ⟨v22, e23, hq⟩ := bsm hq
    refine r_aI odX0_isOnLine rfl (aI_ap e23) ?_
    refine mB_run odX0_isOnLine 1 (g := (52, [(10, .long (v10 - v16).toInt64), (9, .int (v3 - (1 : Int32))), (0, .ref p0), (1, .long p1), (3, .long p2), (5, .long p3), (7, .long p4)], [.ref p0, .int v22], (h ++ R), 0, 0)) rfl ?_
    obtain ⟨v24, e25, hq⟩ := bsm hq
    refine r_gR odX0_isOnLine rfl rfl (gR_ap e25) ?_
    obtain ⟨v26, e27, hq⟩ := bsm hq
    refine r_gR odX0_isOnLine rfl rfl (gR_ap e27) ?_
    refine mB_run odX0_isOnLine 1 (g := (59, [(10, .long (v10 - v16).toInt64), (9, .int (v3 - (1 : Int32))), (0, .ref p0), (1, .long p1), (3, .long p2), (5, .long p3), (7, .long p4)], [.int (0 : Int32), .ref v26, .int v22], (h ++ R), 0, 0)) rfl ?_
    obtain ⟨v28, e29, hq⟩ := bsm hq
    refine r_aI odX0_isOnLine rfl (aI_ap e29) ?_
    refine mB_run odX0_isOnLine 4 (g := (65, [(12, .long (v22 - v28).toInt64), (10, .long (v10 - v16).toInt64), (9, .int (v3 - (1 : Int32))), (0, .ref p0), (1, .long p1), (3, .long p2), (5, .long p3), (7, .long p4)], [.ref p0], (h ++ R), 0, 0)) rfl ?_
    obtain ⟨v30, e31, hq⟩ := bsm hq
    refine r_gR odX0_isOnLine rfl rfl (gR_ap e31) ?_
    obtain ⟨v32, e33, hq⟩ := bsm hq
    refine r_gR odX0_isOnLine rfl rfl (gR_ap e33) ?_
    refine mB_run odX0_isOnLine 1 (g := (73, [(12, .long (v22 - v28).toInt64), (10, .long (v10 - v16).toInt64), (9, .int (v3 - (1 : Int32))), (0, .ref p0), (1, .long p1), (3, .long p2), (5, .long p3), (7, .long p4)], [.int (v3 - (1 : Int32)), .ref v32], (h ++ R), 0, 0)) rfl ?_
    obtain ⟨v34, e35, hq⟩ := bsm hq
    refine r_aI odX0_isOnLine rfl (aI_ap e35) ?_
    refine mB_run odX0_isOnLine 1 (g := (75, [(12, .long (v22 - v28).toInt64), (10, .long (v10 - v16).toInt64), (9, .int (v3 - (1 : Int32))), (0, .ref p0), (1, .long p1), (3, .long p2), (5, .long p3), (7, .long p4)], [.ref p0, .int v34], (h ++ R), 0, 0)) rfl ?_
    obtain ⟨v36, e37, hq⟩ := bsm hq
    refine r_gR odX0_isOnLine rfl rfl (gR_ap e37) ?_
    obtain ⟨v38, e39, hq⟩ := bsm hq
    refine r_gR odX0_isOnLine rfl rfl (gR_ap e39) ?_
    refine mB_run odX0_isOnLine 1 (g := (82, [(12, .long (v22 - v28).toInt64), (10, .long (v10 - v16).toInt64), (9, .int (v3 - (1 : Int32))), (0, .ref p0), (1, .long p1), (3, .long p2), (5, .long p3), (7, .long p4)], [.int (0 : Int32), .ref v38, .int v34], (h ++ R), 0, 0)) rfl ?_
    obtain ⟨v40, e41, hq⟩ := bsm hq
    refine r_aI odX0_isOnLine rfl (aI_ap e41) ?_
    refine mB_run odX0_isOnLine 6 (g := (91, [(14, .long (v34 - v40).toInt64), (12, .long (v22 - v28).toInt64), (10, .long (v10 - v16).toInt64), (9, .int (v3 - (1 : Int32))), (0, .ref p0), (1, .long p1), (3, .long p2), (5, .long p3), (7, .long p4)], [.ref p0, .long p4, .long p1], (h ++ R), 0, 0)) rfl ?_
    obtain ⟨v42, e43, hq⟩ := bsm hq
    refine r_gR odX0_isOnLine rfl rfl (gR_ap e43) ?_
    obtain ⟨v44, e45, hq⟩ := bsm hq
    refine r_gR odX0_isOnLine rfl rfl (gR_ap e45) ?_
    refine mB_run odX0_isOnLine 1 (g := (98, [(14, .long (v34 - v40).toInt64), (12, .long (v22 - v28).toInt64), (10, .long (v10 - v16).toInt64), (9, .int (v3 - (1 : Int32))), (0, .ref p0), (1, .long p1), (3, .long p2), (5, .long p3), (7, .long p4)], [.int (0 : Int32), .ref v44, .long p4, .long p1], (h ++ R), 0, 0)) rfl ?_
    obtain ⟨v46, e47, hq⟩ := bsm hq
    refine r_aI odX0_isOnLine rfl (aI_ap e47) ?_
    refine mB_run odX0_isOnLine 7 (g := (108, [(16, .long (p1 - (p4 * v46.toInt64))), (14, .long (v34 - v40).toInt64), (12, .long (v22 - v28).toInt64), (10, .long (v10 - v16).toInt64), (9, .int (v3 - (1 : Int32))), (0, .ref p0), (1, .long p1), (3, .long p2), (5, .long p3), (7, .long p4)], [.ref p0, .long p4, .long p2], (h ++ R), 0, 0)) rfl ?_
    obtain ⟨v48, e49, hq⟩ := bsm hq
    refine r_gR odX0_isOnLine rfl rfl (gR_ap e49) ?_
    obtain ⟨v50, e51, hq⟩ := bsm hq
    refine r_gR odX0_isOnLine rfl rfl (gR_ap e51) ?_
    refine mB_run odX0_isOnLine 1 (g := (115, [(16, .long (p1 - (p4 * v46.toInt64))), (14, .long (v34 - v40).toInt64), (12, .long (v22 - v28).toInt64), (10, .long (v10 - v16).toInt64), (9, .int (v3 - (1 : Int32))), (0, .ref p0), (1, .long p1), (3, .long p2), (5, .long p3), (7, .long p4)], [.int (0 : Int32), .ref v50, .long p4, .long p2], (h ++ R), 0, 0)) rfl ?_
    obtain ⟨v52, e53, hq⟩ := bsm hq
    refine r_aI odX0_isOnLine rfl (aI_ap e53) ?_
    refine mB_run odX0_isOnLine 7 (g := (126, [(18, .long (p2 - (p4 * v52.toInt64))), (16, .long (p1 - (p4 * v46.toInt64))), (14, .long (v34 - v40).toInt64), (12, .long (v22 - v28).toInt64), (10, .long (v10 - v16).toInt64), (9, .int (v3 - (1 : Int32))), (0, .ref p0), (1, .long p1), (3, .long p2), (5, .long p3), (7, .long p4)], [.ref p0, .long p4, .long p3], (h ++ R), 0, 0)) rfl ?_
    obtain ⟨v54, e55, hq⟩ := bsm hq
    refine r_gR odX0_isOnLine rfl rfl (gR_ap e55) ?_
    obtain ⟨v56, e57, hq⟩ := bsm hq
    refine r_gR odX0_isOnLine rfl rfl (gR_ap e57) ?_
    refine mB_run odX0_isOnLine 1 (g := (133, [(18, .long (p2 - (p4 * v52.toInt64))), (16, .long (p1 - (p4 * v46.toInt64))), (14, .long (v34 - v40).toInt64), (12, .long (v22 - v28).toInt64), (10, .long (v10 - v16).toInt64), (9, .int (v3 - (1 : Int32))), (0, .ref p0), (1, .long p1), (3, .long p2), (5, .long p3), (7, .long p4)], [.int (0 : Int32), .ref v56, .long p4, .long p3], (h ++ R), 0, 0)) rfl ?_
    obtain ⟨v58, e59, hq⟩ := bsm hq
    refine r_aI odX0_isOnLine rfl (aI_ap e59) ?_
    refine mB_run odX0_isOnLine 5 (g := (141, [(20, .long (p3 - (p4 * v58.toInt64))), (18, .long (p2 - (p4 * v52.toInt64))), (16, .long (p1 - (p4 * v46.toInt64))), (14, .long (v34 - v40).toInt64), (12, .long (v22 - v28).toInt64), (10, .long (v10 - v16).toInt64), (9, .int (v3 - (1 : Int32))), (0, .ref p0), (1, .long p1), (3, .long p2), (5, .long p3), (7, .long p4)], [.int (v3 - (1 : Int32))], (h ++ R), 0, 0)) rfl ?_
    by_cases c60 : (v3 - (1 : Int32)) = 0
    · rw [if_pos c60] at hq
      refine if_ne_F (t := 171) odX0_isOnLine rfl rfl c60 ?_
      refine mB_run odX0_isOnLine 2 (g := (147, [(20, .long (p3 - (p4 * v58.toInt64))), (18, .long (p2 - (p4 * v52.toInt64))), (16, .long (p1 - (p4 * v46.toInt64))), (14, .long (v34 - v40).toInt64), (12, .long (v22 - v28).toInt64), (10, .long (v10 - v16).toInt64), (9, .int (v3 - (1 : Int32))), (0, .ref p0), (1, .long p1), (3, .long p2), (5, .long p3), (7, .long p4)], [.long (0 : Int64), .long (p1 - (p4 * v46.toInt64))], (h ++ R), 0, 0)) rfl ?_
      by_cases c61 : (p1 - (p4 * v46.toInt64)) = (0 : Int64)
      · rw [if_pos c61] at hq
        refine lc_ne_F (t := 169) odX0_isOnLine rfl rfl rfl c61 ?_
        refine mB_run odX0_isOnLine 2 (g := (154, [(20, .long (p3 - (p4 * v58.toInt64))), (18, .long (p2 - (p4 * v52.toInt64))), (16, .long (p1 - (p4 * v46.toInt64))), (14, .long (v34 - v40).toInt64), (12, .long (v22 - v28).toInt64), (10, .long (v10 - v16).toInt64), (9, .int (v3 - (1 : Int32))), (0, .ref p0), (1, .long p1), (3, .long p2), (5, .long p3), (7, .long p4)], [.long (0 : Int64), .long (p2 - (p4 * v52.toInt64))], (h ++ R), 0, 0)) rfl ?_
        by_cases c62 : (p2 - (p4 * v52.toInt64)) = (0 : Int64)
        · rw [if_pos c62] at hq
          refine lc_ne_F (t := 169) odX0_isOnLine rfl rfl rfl c62 ?_
          refine mB_run odX0_isOnLine 2 (g := (161, [(20, .long (p3 - (p4 * v58.toInt64))), (18, .long (p2 - (p4 * v52.toInt64))), (16, .long (p1 - (p4 * v46.toInt64))), (14, .long (v34 - v40).toInt64), (12, .long (v22 - v28).toInt64), (10, .long (v10 - v16).toInt64), (9, .int (v3 - (1 : Int32))), (0, .ref p0), (1, .long p1), (3, .long p2), (5, .long p3), (7, .long p4)], [.long (0 : Int64), .long (p3 - (p4 * v58.toInt64))], (h ++ R), 0, 0)) rfl ?_
          by_cases c63 : (p3 - (p4 * v58.toInt64)) = (0 : Int64)
          · rw [if_pos c63] at hq
            refine lc_ne_F (t := 169) odX0_isOnLine rfl rfl rfl c63 ?_
            refine mB_run odX0_isOnLine 2 (g := (170, [(20, .long (p3 - (p4 * v58.toInt64))), (18, .long (p2 - (p4 * v52.toInt64))), (16, .long (p1 - (p4 * v46.toInt64))), (14, .long (v34 - v40).toInt64), (12, .long (v22 - v28).toInt64), (10, .long (v10 - v16).toInt64), (9, .int (v3 - (1 : Int32))), (0, .ref p0), (1, .long p1), (3, .long p2), (5, .long p3), (7, .long p4)], [.int (1 : Int32)], (h ++ R), 0, 0)) rfl ?_
            cases hq
            exact mB_ret odX0_isOnLine rfl
          · rw [if_neg c63] at hq
            refine lc_ne_T (t := 169) odX0_isOnLine rfl rfl rfl c63 ?_
            refine mB_run odX0_isOnLine 1 (g := (170, [(20, .long (p3 - (p4 * v58.toInt64))), (18, .long (p2 - (p4 * v52.toInt64))), (16, .long (p1 - (p4 * v46.toInt64))), (14, .long (v34 - v40).toInt64), (12, .long (v22 - v28).toInt64), (10, .long (v10 - v16).toInt64), (9, .int (v3 - (1 : Int32))), (0, .ref p0), (1, .long p1), (3, .long p2), (5, .long p3), (7, .long p4)], [.int (0 : Int32)], (h ++ R), 0, 0)) rfl ?_
            cases hq
            exact mB_ret odX0_isOnLine rfl
        · rw [if_neg c62] at hq
          refine lc_ne_T (t := 169) odX0_isOnLine rfl rfl rfl c62 ?_
          refine mB_run odX0_isOnLine 1 (g := (170, [(20, .long (p3 - (p4 * v58.toInt64))), (18, .long (p2 - (p4 * v52.toInt64))), (16, .long (p1 - (p4 * v46.toInt64))), (14, .long (v34 - v40).toInt64), (12, .long (v22 - v28).toInt64), (10, .long (v10 - v16).toInt64), (9, .int (v3 - (1 : Int32))), (0, .ref p0), (1, .long p1), (3, .long p2), (5, .long p3), (7, .long p4)], [.int (0 : Int32)], (h ++ R), 0, 0)) rfl ?_
          cases hq
          exact mB_ret odX0_isOnLine rfl
      · rw [if_neg c61] at hq
        refine lc_ne_T (t := 169) odX0_isOnLine rfl rfl rfl c61 ?_
        refine mB_run odX0_isOnLine 1 (g := (170, [(20, .long (p3 - (p4 * v58.toInt64))), (18, .long (p2 - (p4 * v52.toInt64))), (16, .long (p1 - (p4 * v46.toInt64))), (14, .long (v34 - v40).toInt64), (12, .long (v22 - v28).toInt64), (10, .long (v10 - v16).toInt64), (9, .int (v3 - (1 : Int32))), (0, .ref p0), (1, .long p1), (3, .long p2), (5, .long p3), (7, .long p4)], [.int (0 : Int32)], (h ++ R), 0, 0)) rfl ?_
        cases hq
        exact mB_ret odX0_isOnLine rfl
    · rw [if_neg c60] at hq
      refine if_ne_T (t := 171) odX0_isOnLine rfl rfl c60 ?_
      refine mB_run odX0_isOnLine 6 (g := (181, [(20, .long (p3 - (p4 * v58.toInt64))), (18, .long (p2 - (p4 * v52.toInt64))), (16, .long (p1 - (p4 * v46.toInt64))), (14, .long (v34 - v40).toInt64), (12, .long (v22 - v28).toInt64), (10, .long (v10 - v16).toInt64), (9, .int (v3 - (1 : Int32))), (0, .ref p0), (1, .long p1), (3, .long p2), (5, .long p3), (7, .long p4)], [.long ((v34 - v40).toInt64 * (p2 - (p4 * v52.toInt64))), .long ((v22 - v28).toInt64 * (p3 - (p4 * v58.toInt64)))], (h ++ R), 0, 0)) rfl ?_
      by_cases c64 : ((v22 - v28).toInt64 * (p3 - (p4 * v58.toInt64))) = ((v34 - v40).toInt64 * (p2 - (p4 * v52.toInt64)))
      · rw [if_pos c64] at hq
        refine lc_ne_F (t := 213) odX0_isOnLine rfl rfl rfl c64 ?_
        refine mB_run odX0_isOnLine 6 (g := (195, [(20, .long (p3 - (p4 * v58.toInt64))), (18, .long (p2 - (p4 * v52.toInt64))), (16, .long (p1 - (p4 * v46.toInt64))), (14, .long (v34 - v40).toInt64), (12, .long (v22 - v28).toInt64), (10, .long (v10 - v16).toInt64), (9, .int (v3 - (1 : Int32))), (0, .ref p0), (1, .long p1), (3, .long p2), (5, .long p3), (7, .long p4)], [.long ((v10 - v16).toInt64 * (p3 - (p4 * v58.toInt64))), .long ((v34 - v40).toInt64 * (p1 - (p4 * v46.toInt64)))], (h ++ R), 0, 0)) rfl ?_
        by_cases c65 : ((v34 - v40).toInt64 * (p1 - (p4 * v46.toInt64))) = ((v10 - v16).toInt64 * (p3 - (p4 * v58.toInt64)))
        · rw [if_pos c65] at hq
          refine lc_ne_F (t := 213) odX0_isOnLine rfl rfl rfl c65 ?_
          refine mB_run odX0_isOnLine 6 (g := (209, [(20, .long (p3 - (p4 * v58.toInt64))), (18, .long (p2 - (p4 * v52.toInt64))), (16, .long (p1 - (p4 * v46.toInt64))), (14, .long (v34 - v40).toInt64), (12, .long (v22 - v28).toInt64), (10, .long (v10 - v16).toInt64), (9, .int (v3 - (1 : Int32))), (0, .ref p0), (1, .long p1), (3, .long p2), (5, .long p3), (7, .long p4)], [.long ((v22 - v28).toInt64 * (p1 - (p4 * v46.toInt64))), .long ((v10 - v16).toInt64 * (p2 - (p4 * v52.toInt64)))], (h ++ R), 0, 0)) rfl ?_
          by_cases c66 : ((v10 - v16).toInt64 * (p2 - (p4 * v52.toInt64))) = ((v22 - v28).toInt64 * (p1 - (p4 * v46.toInt64)))
          · rw [if_pos c66] at hq
            refine lc_eq_T (t := 215) odX0_isOnLine rfl rfl rfl c66 ?_
            refine mB_run odX0_isOnLine 12 (g := (234, [(22, .long ((((v10 - v16).toInt64 * (p1 - (p4 * v46.toInt64))) + ((v22 - v28).toInt64 * (p2 - (p4 * v52.toInt64)))) + ((v34 - v40).toInt64 * (p3 - (p4 * v58.toInt64))))), (20, .long (p3 - (p4 * v58.toInt64))), (18, .long (p2 - (p4 * v52.toInt64))), (16, .long (p1 - (p4 * v46.toInt64))), (14, .long (v34 - v40).toInt64), (12, .long (v22 - v28).toInt64), (10, .long (v10 - v16).toInt64), (9, .int (v3 - (1 : Int32))), (0, .ref p0), (1, .long p1), (3, .long p2), (5, .long p3), (7, .long p4)], [], (h ++ R), 0, 0)) rfl ?_
            refine mB_run odX0_isOnLine 2 (g := (237, [(22, .long ((((v10 - v16).toInt64 * (p1 - (p4 * v46.toInt64))) + ((v22 - v28).toInt64 * (p2 - (p4 * v52.toInt64)))) + ((v34 - v40).toInt64 * (p3 - (p4 * v58.toInt64))))), (20, .long (p3 - (p4 * v58.toInt64))), (18, .long (p2 - (p4 * v52.toInt64))), (16, .long (p1 - (p4 * v46.toInt64))), (14, .long (v34 - v40).toInt64), (12, .long (v22 - v28).toInt64), (10, .long (v10 - v16).toInt64), (9, .int (v3 - (1 : Int32))), (0, .ref p0), (1, .long p1), (3, .long p2), (5, .long p3), (7, .long p4)], [.long (0 : Int64), .long ((((v10 - v16).toInt64 * (p1 - (p4 * v46.toInt64))) + ((v22 - v28).toInt64 * (p2 - (p4 * v52.toInt64)))) + ((v34 - v40).toInt64 * (p3 - (p4 * v58.toInt64))))], (h ++ R), 0, 0)) rfl ?_
            by_cases c67 : ((((v10 - v16).toInt64 * (p1 - (p4 * v46.toInt64))) + ((v22 - v28).toInt64 * (p2 - (p4 * v52.toInt64)))) + ((v34 - v40).toInt64 * (p3 - (p4 * v58.toInt64)))) < (0 : Int64)
            · rw [if_pos c67] at hq
              refine lc_lt_T (t := 263) odX0_isOnLine rfl rfl rfl c67 ?_
              refine mB_run odX0_isOnLine 1 (g := (264, [(22, .long ((((v10 - v16).toInt64 * (p1 - (p4 * v46.toInt64))) + ((v22 - v28).toInt64 * (p2 - (p4 * v52.toInt64)))) + ((v34 - v40).toInt64 * (p3 - (p4 * v58.toInt64))))), (20, .long (p3 - (p4 * v58.toInt64))), (18, .long (p2 - (p4 * v52.toInt64))), (16, .long (p1 - (p4 * v46.toInt64))), (14, .long (v34 - v40).toInt64), (12, .long (v22 - v28).toInt64), (10, .long (v10 - v16).toInt64), (9, .int (v3 - (1 : Int32))), (0, .ref p0), (1, .long p1), (3, .long p2), (5, .long p3), (7, .long p4)], [.int (0 : Int32)], (h ++ R), 0, 0)) rfl ?_
              cases hq
              exact mB_ret odX0_isOnLine rfl
            · rw [if_neg c67] at hq
              refine lc_lt_F (t := 263) odX0_isOnLine rfl rfl rfl c67 ?_
              refine mB_run odX0_isOnLine 5 (g := (251, [(22, .long ((((v10 - v16).toInt64 * (p1 - (p4 * v46.toInt64))) + ((v22 - v28).toInt64 * (p2 - (p4 * v52.toInt64)))) + ((v34 - v40).toInt64 * (p3 - (p4 * v58.toInt64))))), (20, .long (p3 - (p4 * v58.toInt64))), (18, .long (p2 - (p4 * v52.toInt64))), (16, .long (p1 - (p4 * v46.toInt64))), (14, .long (v34 - v40).toInt64), (12, .long (v22 - v28).toInt64), (10, .long (v10 - v16).toInt64), (9, .int (v3 - (1 : Int32))), (0, .ref p0), (1, .long p1), (3, .long p2), (5, .long p3), (7, .long p4)], [.long (v34 - v40).toInt64, .long (v22 - v28).toInt64, .long (v10 - v16).toInt64, .long p4, .long ((((v10 - v16).toInt64 * (p1 - (p4 * v46.toInt64))) + ((v22 - v28).toInt64 * (p2 - (p4 * v52.toInt64)))) + ((v34 - v40).toInt64 * (p3 - (p4 * v58.toInt64))))], (h ++ R), 0, 0)) rfl ?_
              obtain ⟨o68, e69, hq⟩ := bsm hq
              refine mB_S (as := [.long (v10 - v16).toInt64, .long (v22 - v28).toInt64, .long (v34 - v40).toInt64]) odX0_isOnLine okX0_steepness lk_0_132 rfl (eaX0_steepness e69) rfl rfl rfl ?_
              show mB _ mX0_isOnLine (254, [(22, .long ((((v10 - v16).toInt64 * (p1 - (p4 * v46.toInt64))) + ((v22 - v28).toInt64 * (p2 - (p4 * v52.toInt64)))) + ((v34 - v40).toInt64 * (p3 - (p4 * v58.toInt64))))), (20, .long (p3 - (p4 * v58.toInt64))), (18, .long (p2 - (p4 * v52.toInt64))), (16, .long (p1 - (p4 * v46.toInt64))), (14, .long (v34 - v40).toInt64), (12, .long (v22 - v28).toInt64), (10, .long (v10 - v16).toInt64), (9, .int (v3 - (1 : Int32))), (0, .ref p0), (1, .long p1), (3, .long p2), (5, .long p3), (7, .long p4)], [.long o68.2, .long p4, .long ((((v10 - v16).toInt64 * (p1 - (p4 * v46.toInt64))) + ((v22 - v28).toInt64 * (p2 - (p4 * v52.toInt64)))) + ((v34 - v40).toInt64 * (p3 - (p4 * v58.toInt64))))], (o68.1 ++ R), 0, 0)
              refine mB_run odX0_isOnLine 1 (g := (255, [(22, .long ((((v10 - v16).toInt64 * (p1 - (p4 * v46.toInt64))) + ((v22 - v28).toInt64 * (p2 - (p4 * v52.toInt64)))) + ((v34 - v40).toInt64 * (p3 - (p4 * v58.toInt64))))), (20, .long (p3 - (p4 * v58.toInt64))), (18, .long (p2 - (p4 * v52.toInt64))), (16, .long (p1 - (p4 * v46.toInt64))), (14, .long (v34 - v40).toInt64), (12, .long (v22 - v28).toInt64), (10, .long (v10 - v16).toInt64), (9, .int (v3 - (1 : Int32))), (0, .ref p0), (1, .long p1), (3, .long p2), (5, .long p3), (7, .long p4)], [.long (p4 * o68.2), .long ((((v10 - v16).toInt64 * (p1 - (p4 * v46.toInt64))) + ((v22 - v28).toInt64 * (p2 - (p4 * v52.toInt64)))) + ((v34 - v40).toInt64 * (p3 - (p4 * v58.toInt64))))], (o68.1 ++ R), 0, 0)) rfl ?_
              by_cases c70 : (p4 * o68.2) < ((((v10 - v16).toInt64 * (p1 - (p4 * v46.toInt64))) + ((v22 - v28).toInt64 * (p2 - (p4 * v52.toInt64)))) + ((v34 - v40).toInt64 * (p3 - (p4 * v58.toInt64))))
              · rw [if_pos c70] at hq
                refine lc_gt_T (t := 263) odX0_isOnLine rfl rfl rfl c70 ?_
                refine mB_run odX0_isOnLine 1 (g := (264, [(22, .long ((((v10 - v16).toInt64 * (p1 - (p4 * v46.toInt64))) + ((v22 - v28).toInt64 * (p2 - (p4 * v52.toInt64)))) + ((v34 - v40).toInt64 * (p3 - (p4 * v58.toInt64))))), (20, .long (p3 - (p4 * v58.toInt64))), (18, .long (p2 - (p4 * v52.toInt64))), (16, .long (p1 - (p4 * v46.toInt64))), (14, .long (v34 - v40).toInt64), (12, .long (v22 - v28).toInt64), (10, .long (v10 - v16).toInt64), (9, .int (v3 - (1 : Int32))), (0, .ref p0), (1, .long p1), (3, .long p2), (5, .long p3), (7, .long p4)], [.int (0 : Int32)], (o68.1 ++ R), 0, 0)) rfl ?_
                cases hq
                exact mB_ret odX0_isOnLine rfl
              · rw [if_neg c70] at hq
                refine lc_gt_F (t := 263) odX0_isOnLine rfl rfl rfl c70 ?_
                refine mB_run odX0_isOnLine 2 (g := (264, [(22, .long ((((v10 - v16).toInt64 * (p1 - (p4 * v46.toInt64))) + ((v22 - v28).toInt64 * (p2 - (p4 * v52.toInt64)))) + ((v34 - v40).toInt64 * (p3 - (p4 * v58.toInt64))))), (20, .long (p3 - (p4 * v58.toInt64))), (18, .long (p2 - (p4 * v52.toInt64))), (16, .long (p1 - (p4 * v46.toInt64))), (14, .long (v34 - v40).toInt64), (12, .long (v22 - v28).toInt64), (10, .long (v10 - v16).toInt64), (9, .int (v3 - (1 : Int32))), (0, .ref p0), (1, .long p1), (3, .long p2), (5, .long p3), (7, .long p4)], [.int (1 : Int32)], (o68.1 ++ R), 0, 0)) rfl ?_
                cases hq
                exact mB_ret odX0_isOnLine rfl
          · rw [if_neg c66] at hq
            refine lc_eq_F (t := 215) odX0_isOnLine rfl rfl rfl c66 ?_
            refine mB_run odX0_isOnLine 1 (g := (214, [(20, .long (p3 - (p4 * v58.toInt64))), (18, .long (p2 - (p4 * v52.toInt64))), (16, .long (p1 - (p4 * v46.toInt64))), (14, .long (v34 - v40).toInt64), (12, .long (v22 - v28).toInt64), (10, .long (v10 - v16).toInt64), (9, .int (v3 - (1 : Int32))), (0, .ref p0), (1, .long p1), (3, .long p2), (5, .long p3), (7, .long p4)], [.int (0 : Int32)], (h ++ R), 0, 0)) rfl ?_
            cases hq
            exact mB_ret odX0_isOnLine rfl
        · rw [if_neg c65] at hq
          refine lc_ne_T (t := 213) odX0_isOnLine rfl rfl rfl c65 ?_
          refine mB_run odX0_isOnLine 1 (g := (214, [(20, .long (p3 - (p4 * v58.toInt64))), (18, .long (p2 - (p4 * v52.toInt64))), (16, .long (p1 - (p4 * v46.toInt64))), (14, .long (v34 - v40).toInt64), (12, .long (v22 - v28).toInt64), (10, .long (v10 - v16).toInt64), (9, .int (v3 - (1 : Int32))), (0, .ref p0), (1, .long p1), (3, .long p2), (5, .long p3), (7, .long p4)], [.int (0 : Int32)], (h ++ R), 0, 0)) rfl ?_
          cases hq
          exact mB_ret odX0_isOnLine rfl
      · rw [if_neg c64] at hq
        refine lc_ne_T (t := 213) odX0_isOnLine rfl rfl rfl c64 ?_
        refine mB_run odX0_isOnLine 1 (g := (214, [(20, .long (p3 - (p4 * v58.toInt64))), (18, .long (p2 - (p4 * v52.toInt64))), (16, .long (p1 - (p4 * v46.toInt64))), (14, .long (v34 - v40).toInt64), (12, .long (v22 - v28).toInt64), (10, .long (v10 - v16).toInt64), (9, .int (v3 - (1 : Int32))), (0, .ref p0), (1, .long p1), (3, .long p2), (5, .long p3), (7, .long p4)], [.int (0 : Int32)], (h ++ R), 0, 0)) rfl ?_
        cases hq
        exact mB_ret odX0_isOnLine rfl
  · rw [if_neg c5] at hq
    refine if_ge_F (t := 18) odX0_isOnLine rfl rfl c5 ?_
    refine mB_run odX0_isOnLine 1 (g := (17, [(9, .int (v3 - (1 : Int32))), (0, .ref p0), (1, .long p1), (3, .long p2), (5, .long p3), (7, .long p4)], [.int (0 : Int32)], (h ++ R), 0, 0)) rfl ?_
    cases hq
    exact mB_ret odX0_isOnLine rfl
def fxX0_locate_59 (N : Nat) (s0 : Int32) (h : mh) : Option (mh × Int32) :=
  if s0 = 0 then (
    some (h, (0 : Int32))) else (
    some (h, (1 : Int32)))
set_option maxHeartbeats 4000000 in
set_option maxRecDepth 100000 in
theorem eaX0_locate_59 {N : Nat} {R : mh} (s0 : Int32) (h : mh) {o : (mh × Int32)} (hq : fxX0_locate_59 N s0 h = some o) : mB (gO mX0_locate (o.1 ++ R, some (.int o.2))) mX0_locate (59, [], [.int s0], (h ++ R), 0, 0) := by
  unfold fxX0_locate_59 at hq
  refine mB_run odX0_locate 2 (g := (63, [(9, .int s0)], [.int s0], (h ++ R), 0, 0)) rfl ?_
  by_cases c22 : s0 = 0
  · rw [if_pos c22] at hq
    refine if_eq_T (t := 70) odX0_locate rfl rfl c22 ?_
    refine mB_run odX0_locate 1 (g := (71, [(9, .int s0)], [.int (0 : Int32)], (h ++ R), 0, 0)) rfl ?_
    cases hq
    exact mB_ret odX0_locate rfl
  · rw [if_neg c22] at hq
    refine if_eq_F (t := 70) odX0_locate rfl rfl c22 ?_
    refine mB_run odX0_locate 2 (g := (71, [(9, .int s0)], [.int (1 : Int32)], (h ++ R), 0, 0)) rfl ?_
    cases hq
    exact mB_ret odX0_locate rfl
def fxX0_locate (N : Nat) (p0 : Nat) (p1 : Int64) (p2 : Int64) (p3 : Int64) (p4 : Int64) (h : mh) : Option (mh × Int32) :=
  (gI h p0 0 0).bind fun v1 =>
  if v1 = 0 then (
    some (h, (0 : Int32))) else (
    (gI h p0 0 0).bind fun v4 =>
    if v4 = (4 : Int32) then (
      (kO h p0 0).bind fun f9 =>
      (fxX0_locateAmongFaces N p0 p1 p2 p3 p4 h).bind fun o7 =>
      some (o7.1, o7.2)) else (
      (gI h p0 0 0).bind fun v11 =>
      if v11 = (3 : Int32) then (
        (kO h p0 0).bind fun f16 =>
        (fxX0_isInFigure N p0 p1 p2 p3 p4 h).bind fun o14 =>
        fxX0_locate_59 N o14.2 o14.1) else (
        (kO h p0 0).bind fun f20 =>
        (fxX0_isOnLine N p0 p1 p2 p3 p4 h).bind fun o18 =>
        fxX0_locate_59 N o18.2 o18.1)))
set_option maxHeartbeats 4000000 in
set_option maxRecDepth 100000 in
theorem eaX0_locate {N : Nat} {R : mh} {p0 : Nat} {p1 : Int64} {p2 : Int64} {p3 : Int64} {p4 : Int64} {h : mh} {o : (mh × Int32)} (hq : fxX0_locate N p0 p1 p2 p3 p4 h = some o) : mC mX0_locate [.ref p0, .long p1, .long p2, .long p3, .long p4] (h ++ R) (o.1 ++ R, some (.int o.2)) := by
  refine mC_of okX0_locate (Nat.le_of_ble_eq_true rfl) ?_
  unfold fxX0_locate at hq
  show mB _ mX0_locate (0, [(0, .ref p0), (1, .long p1), (3, .long p2), (5, .long p3), (7, .long p4)], [], (h ++ R), 0, 0)
  refine mB_run odX0_locate 1 (g := (1, [(0, .ref p0), (1, .long p1), (3, .long p2), (5, .long p3), (7, .long p4)], [.ref p0], (h ++ R), 0, 0)) rfl ?_
  obtain ⟨v1, e2, hq⟩ := bsm hq
  refine r_gI odX0_locate rfl rfl (gI_ap e2) ?_
  by_cases c3 : v1 = 0
  · rw [if_pos c3] at hq
    refine if_ne_F (t := 9) odX0_locate rfl rfl c3 ?_
    refine mB_run odX0_locate 1 (g := (8, [(0, .ref p0), (1, .long p1), (3, .long p2), (5, .long p3), (7, .long p4)], [.int (0 : Int32)], (h ++ R), 0, 0)) rfl ?_
    cases hq
    exact mB_ret odX0_locate rfl
  · rw [if_neg c3] at hq
    refine if_ne_T (t := 9) odX0_locate rfl rfl c3 ?_
    refine mB_run odX0_locate 1 (g := (10, [(0, .ref p0), (1, .long p1), (3, .long p2), (5, .long p3), (7, .long p4)], [.ref p0], (h ++ R), 0, 0)) rfl ?_
    obtain ⟨v4, e5, hq⟩ := bsm hq
    refine r_gI odX0_locate rfl rfl (gI_ap e5) ?_
    refine mB_run odX0_locate 1 (g := (14, [(0, .ref p0), (1, .long p1), (3, .long p2), (5, .long p3), (7, .long p4)], [.int (4 : Int32), .int v4], (h ++ R), 0, 0)) rfl ?_
    by_cases c6 : v4 = (4 : Int32)
    · rw [if_pos c6] at hq
      refine ic_ne_F (t := 28) odX0_locate rfl rfl c6 ?_
      refine mB_run odX0_locate 5 (g := (24, [(0, .ref p0), (1, .long p1), (3, .long p2), (5, .long p3), (7, .long p4)], [.long p4, .long p3, .long p2, .long p1, .ref p0], (h ++ R), 0, 0)) rfl ?_
      obtain ⟨f9, k10, hq⟩ := bsm hq
      obtain ⟨o7, e8, hq⟩ := bsm hq
      refine mB_V (as := [.long p1, .long p2, .long p3, .long p4]) odX0_locate okX0_locateAmongFaces lk_0_143 rfl (eaX0_locateAmongFaces e8) (kO_at (kO_ap k10)) rfl rfl rfl ?_
      show mB _ mX0_locate (27, [(0, .ref p0), (1, .long p1), (3, .long p2), (5, .long p3), (7, .long p4)], [.int o7.2], (o7.1 ++ R), 0, 0)
      cases hq
      exact mB_ret odX0_locate rfl
    · rw [if_neg c6] at hq
      refine ic_ne_T (t := 28) odX0_locate rfl rfl c6 ?_
      refine mB_run odX0_locate 1 (g := (29, [(0, .ref p0), (1, .long p1), (3, .long p2), (5, .long p3), (7, .long p4)], [.ref p0], (h ++ R), 0, 0)) rfl ?_
      obtain ⟨v11, e12, hq⟩ := bsm hq
      refine r_gI odX0_locate rfl rfl (gI_ap e12) ?_
      refine mB_run odX0_locate 1 (g := (33, [(0, .ref p0), (1, .long p1), (3, .long p2), (5, .long p3), (7, .long p4)], [.int (3 : Int32), .int v11], (h ++ R), 0, 0)) rfl ?_
      by_cases c13 : v11 = (3 : Int32)
      · rw [if_pos c13] at hq
        refine ic_ne_F (t := 49) odX0_locate rfl rfl c13 ?_
        refine mB_run odX0_locate 5 (g := (43, [(0, .ref p0), (1, .long p1), (3, .long p2), (5, .long p3), (7, .long p4)], [.long p4, .long p3, .long p2, .long p1, .ref p0], (h ++ R), 0, 0)) rfl ?_
        obtain ⟨f16, k17, hq⟩ := bsm hq
        obtain ⟨o14, e15, hq⟩ := bsm hq
        refine mB_V (as := [.long p1, .long p2, .long p3, .long p4]) odX0_locate okX0_isInFigure lk_0_147 rfl (eaX0_isInFigure e15) (kO_at (kO_ap k17)) rfl rfl rfl ?_
        show mB _ mX0_locate (46, [(0, .ref p0), (1, .long p1), (3, .long p2), (5, .long p3), (7, .long p4)], [.int o14.2], (o14.1 ++ R), 0, 0)
        refine mB_run odX0_locate 1 (g := (59, [(0, .ref p0), (1, .long p1), (3, .long p2), (5, .long p3), (7, .long p4)], [.int o14.2], (o14.1 ++ R), 0, 0)) rfl ?_
        refine mB_lv [] (lv' := []) rfl ?_
        exact eaX0_locate_59 _ _ hq
      · rw [if_neg c13] at hq
        refine ic_ne_T (t := 49) odX0_locate rfl rfl c13 ?_
        refine mB_run odX0_locate 5 (g := (56, [(0, .ref p0), (1, .long p1), (3, .long p2), (5, .long p3), (7, .long p4)], [.long p4, .long p3, .long p2, .long p1, .ref p0], (h ++ R), 0, 0)) rfl ?_
        obtain ⟨f20, k21, hq⟩ := bsm hq
        obtain ⟨o18, e19, hq⟩ := bsm hq
        refine mB_V (as := [.long p1, .long p2, .long p3, .long p4]) odX0_locate okX0_isOnLine lk_0_151 rfl (eaX0_isOnLine e19) (kO_at (kO_ap k21)) rfl rfl rfl ?_
        show mB _ mX0_locate (59, [(0, .ref p0), (1, .long p1), (3, .long p2), (5, .long p3), (7, .long p4)], [.int o18.2], (o18.1 ++ R), 0, 0)
        refine mB_lv [] (lv' := []) rfl ?_
        exact eaX0_locate_59 _ _ hq
def fxX3_farthest_219 (N : Nat) (rec38 : Nat → Int64 → Int64 → Int64 → Int32 → Int64 → Int32 → mh → Option (mh × Int32)) (x0 : Nat) (x1 : Int64) (x3 : Int64) (x5 : Int64) (x7 : Int32) (x8 : Int64) (x10 : Int32) (h : mh) : Option (mh × Int32) :=
  rec38 x0 x1 x3 x5 x7 x8 (x10 + (1 : Int32)) h
set_option maxHeartbeats 4000000 in
set_option maxRecDepth 100000 in
theorem eaX3_farthest_219 {N : Nat} {R : mh} {rec38 : Nat → Int64 → Int64 → Int64 → Int32 → Int64 → Int32 → mh → Option (mh × Int32)} (hrec38 : ∀ (x0 : Nat) (x1 : Int64) (x3 : Int64) (x5 : Int64) (x7 : Int32) (x8 : Int64) (x10 : Int32) (h : mh) {o : (mh × Int32)}, rec38 x0 x1 x3 x5 x7 x8 x10 h = some o → mB (gO mX3_farthest (o.1 ++ R, some (.int o.2))) mX3_farthest (38, [(0, .ref x0), (1, .long x1), (3, .long x3), (5, .long x5), (7, .int x7), (8, .long x8), (10, .int x10)], [], (h ++ R), 0, 0)) (x0 : Nat) (x1 : Int64) (x3 : Int64) (x5 : Int64) (x7 : Int32) (x8 : Int64) (x10 : Int32) (h : mh) {o : (mh × Int32)} (hq : fxX3_farthest_219 N rec38 x0 x1 x3 x5 x7 x8 x10 h = some o) : mB (gO mX3_farthest (o.1 ++ R, some (.int o.2))) mX3_farthest (219, [(0, .ref x0), (1, .long x1), (3, .long x3), (5, .long x5), (7, .int x7), (8, .long x8), (10, .int x10)], [], (h ++ R), 0, 0) := by
  unfold fxX3_farthest_219 at hq
  refine mB_run odX3_farthest 2 (g := (38, [(10, .int (x10 + (1 : Int32))), (0, .ref x0), (1, .long x1), (3, .long x3), (5, .long x5), (7, .int x7), (8, .long x8)], [], (h ++ R), 0, 0)) rfl ?_
  refine mB_lv [1, 2, 3, 4, 5, 6, 0] (lv' := [(0, .ref x0), (1, .long x1), (3, .long x3), (5, .long x5), (7, .int x7), (8, .long x8), (10, .int (x10 + (1 : Int32)))]) rfl ?_
  exact hrec38 _ _ _ _ _ _ _ _ hq
def fxX3_farthest_211 (N : Nat) (rec38 : Nat → Int64 → Int64 → Int64 → Int32 → Int64 → Int32 → mh → Option (mh × Int32)) (x0 : Nat) (x1 : Int64) (x3 : Int64) (x5 : Int64) (x10 : Int32) (x11 : Int64) (h : mh) : Option (mh × Int32) :=
  fxX3_farthest_219 N rec38 x0 x1 x3 x5 x10 x11 x10 h
set_option maxHeartbeats 4000000 in
set_option maxRecDepth 100000 in
theorem eaX3_farthest_211 {N : Nat} {R : mh} {rec38 : Nat → Int64 → Int64 → Int64 → Int32 → Int64 → Int32 → mh → Option (mh × Int32)} (hrec38 : ∀ (x0 : Nat) (x1 : Int64) (x3 : Int64) (x5 : Int64) (x7 : Int32) (x8 : Int64) (x10 : Int32) (h : mh) {o : (mh × Int32)}, rec38 x0 x1 x3 x5 x7 x8 x10 h = some o → mB (gO mX3_farthest (o.1 ++ R, some (.int o.2))) mX3_farthest (38, [(0, .ref x0), (1, .long x1), (3, .long x3), (5, .long x5), (7, .int x7), (8, .long x8), (10, .int x10)], [], (h ++ R), 0, 0)) (x0 : Nat) (x1 : Int64) (x3 : Int64) (x5 : Int64) (x10 : Int32) (x11 : Int64) (h : mh) {o : (mh × Int32)} (hq : fxX3_farthest_211 N rec38 x0 x1 x3 x5 x10 x11 h = some o) : mB (gO mX3_farthest (o.1 ++ R, some (.int o.2))) mX3_farthest (211, [(0, .ref x0), (1, .long x1), (3, .long x3), (5, .long x5), (10, .int x10), (11, .long x11)], [], (h ++ R), 0, 0) := by
  unfold fxX3_farthest_211 at hq
  refine mB_run odX3_farthest 4 (g := (219, [(8, .long x11), (7, .int x10), (0, .ref x0), (1, .long x1), (3, .long x3), (5, .long x5), (10, .int x10), (11, .long x11)], [], (h ++ R), 0, 0)) rfl ?_
  refine mB_lv [2, 3, 4, 5, 1, 0, 6] (lv' := [(0, .ref x0), (1, .long x1), (3, .long x3), (5, .long x5), (7, .int x10), (8, .long x11), (10, .int x10)]) rfl ?_
  exact eaX3_farthest_219 hrec38 _ _ _ _ _ _ _ _ hq
def fxX3_farthest_188 (N : Nat) (rec38 : Nat → Int64 → Int64 → Int64 → Int32 → Int64 → Int32 → mh → Option (mh × Int32)) (x0 : Nat) (x1 : Int64) (x3 : Int64) (x5 : Int64) (x7 : Int32) (x8 : Int64) (x10 : Int32) (x11 : Int64) (s0 : Int32) (h : mh) : Option (mh × Int32) :=
  if x8 < x11 then (
    fxX3_farthest_211 N rec38 x0 x1 x3 x5 x10 x11 h) else (
    if x11 = x8 then (
      if s0 = 0 then (
        fxX3_farthest_219 N rec38 x0 x1 x3 x5 x7 x8 x10 h) else (
        fxX3_farthest_211 N rec38 x0 x1 x3 x5 x10 x11 h)) else (
      fxX3_farthest_219 N rec38 x0 x1 x3 x5 x7 x8 x10 h))
set_option maxHeartbeats 4000000 in
set_option maxRecDepth 100000 in
theorem eaX3_farthest_188 {N : Nat} {R : mh} {rec38 : Nat → Int64 → Int64 → Int64 → Int32 → Int64 → Int32 → mh → Option (mh × Int32)} (hrec38 : ∀ (x0 : Nat) (x1 : Int64) (x3 : Int64) (x5 : Int64) (x7 : Int32) (x8 : Int64) (x10 : Int32) (h : mh) {o : (mh × Int32)}, rec38 x0 x1 x3 x5 x7 x8 x10 h = some o → mB (gO mX3_farthest (o.1 ++ R, some (.int o.2))) mX3_farthest (38, [(0, .ref x0), (1, .long x1), (3, .long x3), (5, .long x5), (7, .int x7), (8, .long x8), (10, .int x10)], [], (h ++ R), 0, 0)) (x0 : Nat) (x1 : Int64) (x3 : Int64) (x5 : Int64) (x7 : Int32) (x8 : Int64) (x10 : Int32) (x11 : Int64) (s0 : Int32) (h : mh) {o : (mh × Int32)} (hq : fxX3_farthest_188 N rec38 x0 x1 x3 x5 x7 x8 x10 x11 s0 h = some o) : mB (gO mX3_farthest (o.1 ++ R, some (.int o.2))) mX3_farthest (188, [(0, .ref x0), (1, .long x1), (3, .long x3), (5, .long x5), (7, .int x7), (8, .long x8), (10, .int x10), (11, .long x11)], [.int s0], (h ++ R), 0, 0) := by
  unfold fxX3_farthest_188 at hq
  refine mB_run odX3_farthest 3 (g := (194, [(13, .int s0), (0, .ref x0), (1, .long x1), (3, .long x3), (5, .long x5), (7, .int x7), (8, .long x8), (10, .int x10), (11, .long x11)], [.long x8, .long x11], (h ++ R), 0, 0)) rfl ?_
  by_cases c73 : x8 < x11
  · rw [if_pos c73] at hq
    refine lc_gt_T (t := 211) odX3_farthest rfl rfl rfl c73 ?_
    refine mB_lv [1, 2, 3, 4, 7, 8] (lv' := [(0, .ref x0), (1, .long x1), (3, .long x3), (5, .long x5), (10, .int x10), (11, .long x11)]) rfl ?_
    exact eaX3_farthest_211 hrec38 _ _ _ _ _ _ _ hq
  · rw [if_neg c73] at hq
    refine lc_gt_F (t := 211) odX3_farthest rfl rfl rfl c73 ?_
    refine mB_run odX3_farthest 2 (g := (202, [(13, .int s0), (0, .ref x0), (1, .long x1), (3, .long x3), (5, .long x5), (7, .int x7), (8, .long x8), (10, .int x10), (11, .long x11)], [.long x8, .long x11], (h ++ R), 0, 0)) rfl ?_
    by_cases c74 : x11 = x8
    · rw [if_pos c74] at hq
      refine lc_ne_F (t := 219) odX3_farthest rfl rfl rfl c74 ?_
      refine mB_run odX3_farthest 1 (g := (208, [(13, .int s0), (0, .ref x0), (1, .long x1), (3, .long x3), (5, .long x5), (7, .int x7), (8, .long x8), (10, .int x10), (11, .long x11)], [.int s0], (h ++ R), 0, 0)) rfl ?_
      by_cases c75 : s0 = 0
      · rw [if_pos c75] at hq
        refine if_eq_T (t := 219) odX3_farthest rfl rfl c75 ?_
        refine mB_lv [1, 2, 3, 4, 5, 6, 7] (lv' := [(0, .ref x0), (1, .long x1), (3, .long x3), (5, .long x5), (7, .int x7), (8, .long x8), (10, .int x10)]) rfl ?_
        exact eaX3_farthest_219 hrec38 _ _ _ _ _ _ _ _ hq
      · rw [if_neg c75] at hq
        refine if_eq_F (t := 219) odX3_farthest rfl rfl c75 ?_
        refine mB_lv [1, 2, 3, 4, 7, 8] (lv' := [(0, .ref x0), (1, .long x1), (3, .long x3), (5, .long x5), (10, .int x10), (11, .long x11)]) rfl ?_
        exact eaX3_farthest_211 hrec38 _ _ _ _ _ _ _ hq
    · rw [if_neg c74] at hq
      refine lc_ne_T (t := 219) odX3_farthest rfl rfl rfl c74 ?_
      refine mB_lv [1, 2, 3, 4, 5, 6, 7] (lv' := [(0, .ref x0), (1, .long x1), (3, .long x3), (5, .long x5), (7, .int x7), (8, .long x8), (10, .int x10)]) rfl ?_
      exact eaX3_farthest_219 hrec38 _ _ _ _ _ _ _ _ hq
def fxX3_farthest_38 (N : Nat) : Nat → Nat → Int64 → Int64 → Int64 → Int32 → Int64 → Int32 → mh → Option (mh × Int32)
  | 0, _, _, _, _, _, _, _, _ => none
  | n + 1, x0, x1, x3, x5, x7, x8, x10, h =>
    (gI h x0 3 0).bind fun v13 =>
    if v13 ≤ x10 then (
      some (h, x7)) else (
      (gR h x0 3 1).bind fun v16 =>
      (aI h v16 x10).bind fun v18 =>
      (gR h x0 3 2).bind fun v20 =>
      (aI h v20 x10).bind fun v22 =>
      (gR h x0 3 3).bind fun v24 =>
      (aI h v24 x10).bind fun v26 =>
      (gR h x0 3 1).bind fun v28 =>
      (aI h v28 x10).bind fun v30 =>
      (gR h x0 3 1).bind fun v32 =>
      (aI h v32 x7).bind fun v34 =>
      if v30 = v34 then (
        (gR h x0 3 2).bind fun v37 =>
        (aI h v37 x10).bind fun v39 =>
        (gR h x0 3 2).bind fun v41 =>
        (aI h v41 x7).bind fun v43 =>
        if v39 = v43 then (
          (gR h x0 3 3).bind fun v46 =>
          (aI h v46 x10).bind fun v48 =>
          (gR h x0 3 3).bind fun v50 =>
          (aI h v50 x7).bind fun v52 =>
          if v48 ≤ v52 then (
            fxX3_farthest_188 N (fxX3_farthest_38 N n) x0 x1 x3 x5 x7 x8 x10 (((x1 * v18.toInt64) + (x3 * v22.toInt64)) + (x5 * v26.toInt64)) (0 : Int32) h) else (
            fxX3_farthest_188 N (fxX3_farthest_38 N n) x0 x1 x3 x5 x7 x8 x10 (((x1 * v18.toInt64) + (x3 * v22.toInt64)) + (x5 * v26.toInt64)) (1 : Int32) h)) else (
          (gR h x0 3 2).bind fun v55 =>
          (aI h v55 x10).bind fun v57 =>
          (gR h x0 3 2).bind fun v59 =>
          (aI h v59 x7).bind fun v61 =>
          if v57 ≤ v61 then (
            fxX3_farthest_188 N (fxX3_farthest_38 N n) x0 x1 x3 x5 x7 x8 x10 (((x1 * v18.toInt64) + (x3 * v22.toInt64)) + (x5 * v26.toInt64)) (0 : Int32) h) else (
            fxX3_farthest_188 N (fxX3_farthest_38 N n) x0 x1 x3 x5 x7 x8 x10 (((x1 * v18.toInt64) + (x3 * v22.toInt64)) + (x5 * v26.toInt64)) (1 : Int32) h))) else (
        (gR h x0 3 1).bind fun v64 =>
        (aI h v64 x10).bind fun v66 =>
        (gR h x0 3 1).bind fun v68 =>
        (aI h v68 x7).bind fun v70 =>
        if v66 ≤ v70 then (
          fxX3_farthest_188 N (fxX3_farthest_38 N n) x0 x1 x3 x5 x7 x8 x10 (((x1 * v18.toInt64) + (x3 * v22.toInt64)) + (x5 * v26.toInt64)) (0 : Int32) h) else (
          fxX3_farthest_188 N (fxX3_farthest_38 N n) x0 x1 x3 x5 x7 x8 x10 (((x1 * v18.toInt64) + (x3 * v22.toInt64)) + (x5 * v26.toInt64)) (1 : Int32) h)))
set_option maxHeartbeats 4000000 in
set_option maxRecDepth 100000 in
theorem eaX3_farthest_38 {N : Nat} {R : mh} : ∀ (n : Nat) (x0 : Nat) (x1 : Int64) (x3 : Int64) (x5 : Int64) (x7 : Int32) (x8 : Int64) (x10 : Int32) (h : mh) {o : (mh × Int32)}, fxX3_farthest_38 N n x0 x1 x3 x5 x7 x8 x10 h = some o → mB (gO mX3_farthest (o.1 ++ R, some (.int o.2))) mX3_farthest (38, [(0, .ref x0), (1, .long x1), (3, .long x3), (5, .long x5), (7, .int x7), (8, .long x8), (10, .int x10)], [], (h ++ R), 0, 0) := by
  intro n
  induction n with
  | zero => intro x0 x1 x3 x5 x7 x8 x10 h o hq; cases hq
  | succ n ih =>
    intro x0 x1 x3 x5 x7 x8 x10 h o hq
    unfold fxX3_farthest_38 at hq
    refine mB_run odX3_farthest 2 (g := (41, [(0, .ref x0), (1, .long x1), (3, .long x3), (5, .long x5), (7, .int x7), (8, .long x8), (10, .int x10)], [.ref x0, .int x10], (h ++ R), 0, 0)) rfl ?_
    obtain ⟨v13, e14, hq⟩ := bsm hq
    refine r_gI odX3_farthest rfl rfl (gI_ap e14) ?_
    by_cases c15 : v13 ≤ x10
    · rw [if_pos c15] at hq
      refine ic_ge_T (t := 225) odX3_farthest rfl rfl c15 ?_
      refine mB_run odX3_farthest 1 (g := (227, [(0, .ref x0), (1, .long x1), (3, .long x3), (5, .long x5), (7, .int x7), (8, .long x8), (10, .int x10)], [.int x7], (h ++ R), 0, 0)) rfl ?_
      cases hq
      exact mB_ret odX3_farthest rfl
    · rw [if_neg c15] at hq
      refine ic_ge_F (t := 225) odX3_farthest rfl rfl c15 ?_
      refine mB_run odX3_farthest 2 (g := (49, [(0, .ref x0), (1, .long x1), (3, .long x3), (5, .long x5), (7, .int x7), (8, .long x8), (10, .int x10)], [.ref x0, .long x1], (h ++ R), 0, 0)) rfl ?_
      obtain ⟨v16, e17, hq⟩ := bsm hq
      refine r_gR odX3_farthest rfl rfl (gR_ap e17) ?_
      refine mB_run odX3_farthest 1 (g := (54, [(0, .ref x0), (1, .long x1), (3, .long x3), (5, .long x5), (7, .int x7), (8, .long x8), (10, .int x10)], [.int x10, .ref v16, .long x1], (h ++ R), 0, 0)) rfl ?_
      obtain ⟨v18, e19, hq⟩ := bsm hq
      refine r_aI odX3_farthest rfl (aI_ap e19) ?_
      refine mB_run odX3_farthest 4 (g := (59, [(0, .ref x0), (1, .long x1), (3, .long x3), (5, .long x5), (7, .int x7), (8, .long x8), (10, .int x10)], [.ref x0, .long x3, .long (x1 * v18.toInt64)], (h ++ R), 0, 0)) rfl ?_
      obtain ⟨v20, e21, hq⟩ := bsm hq
      refine r_gR odX3_farthest rfl rfl (gR_ap e21) ?_
      refine mB_run odX3_farthest 1 (g := (64, [(0, .ref x0), (1, .long x1), (3, .long x3), (5, .long x5), (7, .int x7), (8, .long x8), (10, .int x10)], [.int x10, .ref v20, .long x3, .long (x1 * v18.toInt64)], (h ++ R), 0, 0)) rfl ?_
      obtain ⟨v22, e23, hq⟩ := bsm hq
      refine r_aI odX3_farthest rfl (aI_ap e23) ?_
      refine mB_run odX3_farthest 5 (g := (71, [(0, .ref x0), (1, .long x1), (3, .long x3), (5, .long x5), (7, .int x7), (8, .long x8), (10, .int x10)], [.ref x0, .long x5, .long ((x1 * v18.toInt64) + (x3 * v22.toInt64))], (h ++ R), 0, 0)) rfl ?_
      obtain ⟨v24, e25, hq⟩ := bsm hq
      refine r_gR odX3_farthest rfl rfl (gR_ap e25) ?_
      refine mB_run odX3_farthest 1 (g := (76, [(0, .ref x0), (1, .long x1), (3, .long x3), (5, .long x5), (7, .int x7), (8, .long x8), (10, .int x10)], [.int x10, .ref v24, .long x5, .long ((x1 * v18.toInt64) + (x3 * v22.toInt64))], (h ++ R), 0, 0)) rfl ?_
      obtain ⟨v26, e27, hq⟩ := bsm hq
      refine r_aI odX3_farthest rfl (aI_ap e27) ?_
      refine mB_run odX3_farthest 5 (g := (83, [(11, .long (((x1 * v18.toInt64) + (x3 * v22.toInt64)) + (x5 * v26.toInt64))), (0, .ref x0), (1, .long x1), (3, .long x3), (5, .long x5), (7, .int x7), (8, .long x8), (10, .int x10)], [.ref x0], (h ++ R), 0, 0)) rfl ?_
      obtain ⟨v28, e29, hq⟩ := bsm hq
      refine r_gR odX3_farthest rfl rfl (gR_ap e29) ?_
      refine mB_run odX3_farthest 1 (g := (88, [(11, .long (((x1 * v18.toInt64) + (x3 * v22.toInt64)) + (x5 * v26.toInt64))), (0, .ref x0), (1, .long x1), (3, .long x3), (5, .long x5), (7, .int x7), (8, .long x8), (10, .int x10)], [.int x10, .ref v28], (h ++ R), 0, 0)) rfl ?_
      obtain ⟨v30, e31, hq⟩ := bsm hq
      refine r_aI odX3_farthest rfl (aI_ap e31) ?_
      refine mB_run odX3_farthest 1 (g := (90, [(11, .long (((x1 * v18.toInt64) + (x3 * v22.toInt64)) + (x5 * v26.toInt64))), (0, .ref x0), (1, .long x1), (3, .long x3), (5, .long x5), (7, .int x7), (8, .long x8), (10, .int x10)], [.ref x0, .int v30], (h ++ R), 0, 0)) rfl ?_
      obtain ⟨v32, e33, hq⟩ := bsm hq
      refine r_gR odX3_farthest rfl rfl (gR_ap e33) ?_
      refine mB_run odX3_farthest 1 (g := (95, [(11, .long (((x1 * v18.toInt64) + (x3 * v22.toInt64)) + (x5 * v26.toInt64))), (0, .ref x0), (1, .long x1), (3, .long x3), (5, .long x5), (7, .int x7), (8, .long x8), (10, .int x10)], [.int x7, .ref v32, .int v30], (h ++ R), 0, 0)) rfl ?_
      obtain ⟨v34, e35, hq⟩ := bsm hq
      refine r_aI odX3_farthest rfl (aI_ap e35) ?_
      by_cases c36 : v30 = v34
      · rw [if_pos c36] at hq
        refine ic_eq_T (t := 124) odX3_farthest rfl rfl c36 ?_
        refine mB_run odX3_farthest 1 (g := (125, [(11, .long (((x1 * v18.toInt64) + (x3 * v22.toInt64)) + (x5 * v26.toInt64))), (0, .ref x0), (1, .long x1), (3, .long x3), (5, .long x5), (7, .int x7), (8, .long x8), (10, .int x10)], [.ref x0], (h ++ R), 0, 0)) rfl ?_
        obtain ⟨v37, e38, hq⟩ := bsm hq
        refine r_gR odX3_farthest rfl rfl (gR_ap e38) ?_
        refine mB_run odX3_farthest 1 (g := (130, [(11, .long (((x1 * v18.toInt64) + (x3 * v22.toInt64)) + (x5 * v26.toInt64))), (0, .ref x0), (1, .long x1), (3, .long x3), (5, .long x5), (7, .int x7), (8, .long x8), (10, .int x10)], [.int x10, .ref v37], (h ++ R), 0, 0)) rfl ?_
        obtain ⟨v39, e40, hq⟩ := bsm hq
        refine r_aI odX3_farthest rfl (aI_ap e40) ?_
        refine mB_run odX3_farthest 1 (g := (132, [(11, .long (((x1 * v18.toInt64) + (x3 * v22.toInt64)) + (x5 * v26.toInt64))), (0, .ref x0), (1, .long x1), (3, .long x3), (5, .long x5), (7, .int x7), (8, .long x8), (10, .int x10)], [.ref x0, .int v39], (h ++ R), 0, 0)) rfl ?_
        obtain ⟨v41, e42, hq⟩ := bsm hq
        refine r_gR odX3_farthest rfl rfl (gR_ap e42) ?_
        refine mB_run odX3_farthest 1 (g := (137, [(11, .long (((x1 * v18.toInt64) + (x3 * v22.toInt64)) + (x5 * v26.toInt64))), (0, .ref x0), (1, .long x1), (3, .long x3), (5, .long x5), (7, .int x7), (8, .long x8), (10, .int x10)], [.int x7, .ref v41, .int v39], (h ++ R), 0, 0)) rfl ?_
        obtain ⟨v43, e44, hq⟩ := bsm hq
        refine r_aI odX3_farthest rfl (aI_ap e44) ?_
        by_cases c45 : v39 = v43
        · rw [if_pos c45] at hq
          refine ic_eq_T (t := 166) odX3_farthest rfl rfl c45 ?_
          refine mB_run odX3_farthest 1 (g := (167, [(11, .long (((x1 * v18.toInt64) + (x3 * v22.toInt64)) + (x5 * v26.toInt64))), (0, .ref x0), (1, .long x1), (3, .long x3), (5, .long x5), (7, .int x7), (8, .long x8), (10, .int x10)], [.ref x0], (h ++ R), 0, 0)) rfl ?_
          obtain ⟨v46, e47, hq⟩ := bsm hq
          refine r_gR odX3_farthest rfl rfl (gR_ap e47) ?_
          refine mB_run odX3_farthest 1 (g := (172, [(11, .long (((x1 * v18.toInt64) + (x3 * v22.toInt64)) + (x5 * v26.toInt64))), (0, .ref x0), (1, .long x1), (3, .long x3), (5, .long x5), (7, .int x7), (8, .long x8), (10, .int x10)], [.int x10, .ref v46], (h ++ R), 0, 0)) rfl ?_
          obtain ⟨v48, e49, hq⟩ := bsm hq
          refine r_aI odX3_farthest rfl (aI_ap e49) ?_
          refine mB_run odX3_farthest 1 (g := (174, [(11, .long (((x1 * v18.toInt64) + (x3 * v22.toInt64)) + (x5 * v26.toInt64))), (0, .ref x0), (1, .long x1), (3, .long x3), (5, .long x5), (7, .int x7), (8, .long x8), (10, .int x10)], [.ref x0, .int v48], (h ++ R), 0, 0)) rfl ?_
          obtain ⟨v50, e51, hq⟩ := bsm hq
          refine r_gR odX3_farthest rfl rfl (gR_ap e51) ?_
          refine mB_run odX3_farthest 1 (g := (179, [(11, .long (((x1 * v18.toInt64) + (x3 * v22.toInt64)) + (x5 * v26.toInt64))), (0, .ref x0), (1, .long x1), (3, .long x3), (5, .long x5), (7, .int x7), (8, .long x8), (10, .int x10)], [.int x7, .ref v50, .int v48], (h ++ R), 0, 0)) rfl ?_
          obtain ⟨v52, e53, hq⟩ := bsm hq
          refine r_aI odX3_farthest rfl (aI_ap e53) ?_
          by_cases c54 : v48 ≤ v52
          · rw [if_pos c54] at hq
            refine ic_le_T (t := 187) odX3_farthest rfl rfl c54 ?_
            refine mB_run odX3_farthest 1 (g := (188, [(11, .long (((x1 * v18.toInt64) + (x3 * v22.toInt64)) + (x5 * v26.toInt64))), (0, .ref x0), (1, .long x1), (3, .long x3), (5, .long x5), (7, .int x7), (8, .long x8), (10, .int x10)], [.int (0 : Int32)], (h ++ R), 0, 0)) rfl ?_
            refine mB_lv [1, 2, 3, 4, 5, 6, 7, 0] (lv' := [(0, .ref x0), (1, .long x1), (3, .long x3), (5, .long x5), (7, .int x7), (8, .long x8), (10, .int x10), (11, .long (((x1 * v18.toInt64) + (x3 * v22.toInt64)) + (x5 * v26.toInt64)))]) rfl ?_
            exact eaX3_farthest_188 ih _ _ _ _ _ _ _ _ _ _ hq
          · rw [if_neg c54] at hq
            refine ic_le_F (t := 187) odX3_farthest rfl rfl c54 ?_
            refine mB_run odX3_farthest 2 (g := (188, [(11, .long (((x1 * v18.toInt64) + (x3 * v22.toInt64)) + (x5 * v26.toInt64))), (0, .ref x0), (1, .long x1), (3, .long x3), (5, .long x5), (7, .int x7), (8, .long x8), (10, .int x10)], [.int (1 : Int32)], (h ++ R), 0, 0)) rfl ?_
            refine mB_lv [1, 2, 3, 4, 5, 6, 7, 0] (lv' := [(0, .ref x0), (1, .long x1), (3, .long x3), (5, .long x5), (7, .int x7), (8, .long x8), (10, .int x10), (11, .long (((x1 * v18.toInt64) + (x3 * v22.toInt64)) + (x5 * v26.toInt64)))]) rfl ?_
            exact eaX3_farthest_188 ih _ _ _ _ _ _ _ _ _ _ hq
        · rw [if_neg c45] at hq
          refine ic_eq_F (t := 166) odX3_farthest rfl rfl c45 ?_
          refine mB_run odX3_farthest 1 (g := (142, [(11, .long (((x1 * v18.toInt64) + (x3 * v22.toInt64)) + (x5 * v26.toInt64))), (0, .ref x0), (1, .long x1), (3, .long x3), (5, .long x5), (7, .int x7), (8, .long x8), (10, .int x10)], [.ref x0], (h ++ R), 0, 0)) rfl ?_
          obtain ⟨v55, e56, hq⟩ := bsm hq
          refine r_gR odX3_farthest rfl rfl (gR_ap e56) ?_
          refine mB_run odX3_farthest 1 (g := (147, [(11, .long (((x1 * v18.toInt64) + (x3 * v22.toInt64)) + (x5 * v26.toInt64))), (0, .ref x0), (1, .long x1), (3, .long x3), (5, .long x5), (7, .int x7), (8, .long x8), (10, .int x10)], [.int x10, .ref v55], (h ++ R), 0, 0)) rfl ?_
          obtain ⟨v57, e58, hq⟩ := bsm hq
          refine r_aI odX3_farthest rfl (aI_ap e58) ?_
          refine mB_run odX3_farthest 1 (g := (149, [(11, .long (((x1 * v18.toInt64) + (x3 * v22.toInt64)) + (x5 * v26.toInt64))), (0, .ref x0), (1, .long x1), (3, .long x3), (5, .long x5), (7, .int x7), (8, .long x8), (10, .int x10)], [.ref x0, .int v57], (h ++ R), 0, 0)) rfl ?_
          obtain ⟨v59, e60, hq⟩ := bsm hq
          refine r_gR odX3_farthest rfl rfl (gR_ap e60) ?_
          refine mB_run odX3_farthest 1 (g := (154, [(11, .long (((x1 * v18.toInt64) + (x3 * v22.toInt64)) + (x5 * v26.toInt64))), (0, .ref x0), (1, .long x1), (3, .long x3), (5, .long x5), (7, .int x7), (8, .long x8), (10, .int x10)], [.int x7, .ref v59, .int v57], (h ++ R), 0, 0)) rfl ?_
          obtain ⟨v61, e62, hq⟩ := bsm hq
          refine r_aI odX3_farthest rfl (aI_ap e62) ?_
          by_cases c63 : v57 ≤ v61
          · rw [if_pos c63] at hq
            refine ic_le_T (t := 162) odX3_farthest rfl rfl c63 ?_
            refine mB_run odX3_farthest 2 (g := (188, [(11, .long (((x1 * v18.toInt64) + (x3 * v22.toInt64)) + (x5 * v26.toInt64))), (0, .ref x0), (1, .long x1), (3, .long x3), (5, .long x5), (7, .int x7), (8, .long x8), (10, .int x10)], [.int (0 : Int32)], (h ++ R), 0, 0)) rfl ?_
            refine mB_lv [1, 2, 3, 4, 5, 6, 7, 0] (lv' := [(0, .ref x0), (1, .long x1), (3, .long x3), (5, .long x5), (7, .int x7), (8, .long x8), (10, .int x10), (11, .long (((x1 * v18.toInt64) + (x3 * v22.toInt64)) + (x5 * v26.toInt64)))]) rfl ?_
            exact eaX3_farthest_188 ih _ _ _ _ _ _ _ _ _ _ hq
          · rw [if_neg c63] at hq
            refine ic_le_F (t := 162) odX3_farthest rfl rfl c63 ?_
            refine mB_run odX3_farthest 2 (g := (188, [(11, .long (((x1 * v18.toInt64) + (x3 * v22.toInt64)) + (x5 * v26.toInt64))), (0, .ref x0), (1, .long x1), (3, .long x3), (5, .long x5), (7, .int x7), (8, .long x8), (10, .int x10)], [.int (1 : Int32)], (h ++ R), 0, 0)) rfl ?_
            refine mB_lv [1, 2, 3, 4, 5, 6, 7, 0] (lv' := [(0, .ref x0), (1, .long x1), (3, .long x3), (5, .long x5), (7, .int x7), (8, .long x8), (10, .int x10), (11, .long (((x1 * v18.toInt64) + (x3 * v22.toInt64)) + (x5 * v26.toInt64)))]) rfl ?_
            exact eaX3_farthest_188 ih _ _ _ _ _ _ _ _ _ _ hq
      · rw [if_neg c36] at hq
        refine ic_eq_F (t := 124) odX3_farthest rfl rfl c36 ?_
        refine mB_run odX3_farthest 1 (g := (100, [(11, .long (((x1 * v18.toInt64) + (x3 * v22.toInt64)) + (x5 * v26.toInt64))), (0, .ref x0), (1, .long x1), (3, .long x3), (5, .long x5), (7, .int x7), (8, .long x8), (10, .int x10)], [.ref x0], (h ++ R), 0, 0)) rfl ?_
        obtain ⟨v64, e65, hq⟩ := bsm hq
        refine r_gR odX3_farthest rfl rfl (gR_ap e65) ?_
        refine mB_run odX3_farthest 1 (g := (105, [(11, .long (((x1 * v18.toInt64) + (x3 * v22.toInt64)) + (x5 * v26.toInt64))), (0, .ref x0), (1, .long x1), (3, .long x3), (5, .long x5), (7, .int x7), (8, .long x8), (10, .int x10)], [.int x10, .ref v64], (h ++ R), 0, 0)) rfl ?_
        obtain ⟨v66, e67, hq⟩ := bsm hq
        refine r_aI odX3_farthest rfl (aI_ap e67) ?_
        refine mB_run odX3_farthest 1 (g := (107, [(11, .long (((x1 * v18.toInt64) + (x3 * v22.toInt64)) + (x5 * v26.toInt64))), (0, .ref x0), (1, .long x1), (3, .long x3), (5, .long x5), (7, .int x7), (8, .long x8), (10, .int x10)], [.ref x0, .int v66], (h ++ R), 0, 0)) rfl ?_
        obtain ⟨v68, e69, hq⟩ := bsm hq
        refine r_gR odX3_farthest rfl rfl (gR_ap e69) ?_
        refine mB_run odX3_farthest 1 (g := (112, [(11, .long (((x1 * v18.toInt64) + (x3 * v22.toInt64)) + (x5 * v26.toInt64))), (0, .ref x0), (1, .long x1), (3, .long x3), (5, .long x5), (7, .int x7), (8, .long x8), (10, .int x10)], [.int x7, .ref v68, .int v66], (h ++ R), 0, 0)) rfl ?_
        obtain ⟨v70, e71, hq⟩ := bsm hq
        refine r_aI odX3_farthest rfl (aI_ap e71) ?_
        by_cases c72 : v66 ≤ v70
        · rw [if_pos c72] at hq
          refine ic_le_T (t := 120) odX3_farthest rfl rfl c72 ?_
          refine mB_run odX3_farthest 2 (g := (188, [(11, .long (((x1 * v18.toInt64) + (x3 * v22.toInt64)) + (x5 * v26.toInt64))), (0, .ref x0), (1, .long x1), (3, .long x3), (5, .long x5), (7, .int x7), (8, .long x8), (10, .int x10)], [.int (0 : Int32)], (h ++ R), 0, 0)) rfl ?_
          refine mB_lv [1, 2, 3, 4, 5, 6, 7, 0] (lv' := [(0, .ref x0), (1, .long x1), (3, .long x3), (5, .long x5), (7, .int x7), (8, .long x8), (10, .int x10), (11, .long (((x1 * v18.toInt64) + (x3 * v22.toInt64)) + (x5 * v26.toInt64)))]) rfl ?_
          exact eaX3_farthest_188 ih _ _ _ _ _ _ _ _ _ _ hq
        · rw [if_neg c72] at hq
          refine ic_le_F (t := 120) odX3_farthest rfl rfl c72 ?_
          refine mB_run odX3_farthest 2 (g := (188, [(11, .long (((x1 * v18.toInt64) + (x3 * v22.toInt64)) + (x5 * v26.toInt64))), (0, .ref x0), (1, .long x1), (3, .long x3), (5, .long x5), (7, .int x7), (8, .long x8), (10, .int x10)], [.int (1 : Int32)], (h ++ R), 0, 0)) rfl ?_
          refine mB_lv [1, 2, 3, 4, 5, 6, 7, 0] (lv' := [(0, .ref x0), (1, .long x1), (3, .long x3), (5, .long x5), (7, .int x7), (8, .long x8), (10, .int x10), (11, .long (((x1 * v18.toInt64) + (x3 * v22.toInt64)) + (x5 * v26.toInt64)))]) rfl ?_
          exact eaX3_farthest_188 ih _ _ _ _ _ _ _ _ _ _ hq
def fxX3_farthest (N : Nat) (p0 : Nat) (p1 : Int64) (p2 : Int64) (p3 : Int64) (h : mh) : Option (mh × Int32) :=
  (gR h p0 3 1).bind fun v1 =>
  (aI h v1 (0 : Int32)).bind fun v3 =>
  (gR h p0 3 2).bind fun v5 =>
  (aI h v5 (0 : Int32)).bind fun v7 =>
  (gR h p0 3 3).bind fun v9 =>
  (aI h v9 (0 : Int32)).bind fun v11 =>
  fxX3_farthest_38 N N p0 p1 p2 p3 (0 : Int32) (((p1 * v3.toInt64) + (p2 * v7.toInt64)) + (p3 * v11.toInt64)) (1 : Int32) h
set_option maxHeartbeats 4000000 in
set_option maxRecDepth 100000 in
theorem eaX3_farthest {N : Nat} {R : mh} {p0 : Nat} {p1 : Int64} {p2 : Int64} {p3 : Int64} {h : mh} {o : (mh × Int32)} (hq : fxX3_farthest N p0 p1 p2 p3 h = some o) : mC mX3_farthest [.ref p0, .long p1, .long p2, .long p3] (h ++ R) (o.1 ++ R, some (.int o.2)) := by
  refine mC_of okX3_farthest (Nat.le_of_ble_eq_true rfl) ?_
  unfold fxX3_farthest at hq
  show mB _ mX3_farthest (0, [(0, .ref p0), (1, .long p1), (3, .long p2), (5, .long p3)], [], (h ++ R), 0, 0)
  refine mB_run odX3_farthest 4 (g := (5, [(7, .int (0 : Int32)), (0, .ref p0), (1, .long p1), (3, .long p2), (5, .long p3)], [.ref p0, .long p1], (h ++ R), 0, 0)) rfl ?_
  obtain ⟨v1, e2, hq⟩ := bsm hq
  refine r_gR odX3_farthest rfl rfl (gR_ap e2) ?_
  refine mB_run odX3_farthest 1 (g := (9, [(7, .int (0 : Int32)), (0, .ref p0), (1, .long p1), (3, .long p2), (5, .long p3)], [.int (0 : Int32), .ref v1, .long p1], (h ++ R), 0, 0)) rfl ?_
  obtain ⟨v3, e4, hq⟩ := bsm hq
  refine r_aI odX3_farthest rfl (aI_ap e4) ?_
  refine mB_run odX3_farthest 4 (g := (14, [(7, .int (0 : Int32)), (0, .ref p0), (1, .long p1), (3, .long p2), (5, .long p3)], [.ref p0, .long p2, .long (p1 * v3.toInt64)], (h ++ R), 0, 0)) rfl ?_
  obtain ⟨v5, e6, hq⟩ := bsm hq
  refine r_gR odX3_farthest rfl rfl (gR_ap e6) ?_
  refine mB_run odX3_farthest 1 (g := (18, [(7, .int (0 : Int32)), (0, .ref p0), (1, .long p1), (3, .long p2), (5, .long p3)], [.int (0 : Int32), .ref v5, .long p2, .long (p1 * v3.toInt64)], (h ++ R), 0, 0)) rfl ?_
  obtain ⟨v7, e8, hq⟩ := bsm hq
  refine r_aI odX3_farthest rfl (aI_ap e8) ?_
  refine mB_run odX3_farthest 5 (g := (25, [(7, .int (0 : Int32)), (0, .ref p0), (1, .long p1), (3, .long p2), (5, .long p3)], [.ref p0, .long p3, .long ((p1 * v3.toInt64) + (p2 * v7.toInt64))], (h ++ R), 0, 0)) rfl ?_
  obtain ⟨v9, e10, hq⟩ := bsm hq
  refine r_gR odX3_farthest rfl rfl (gR_ap e10) ?_
  refine mB_run odX3_farthest 1 (g := (29, [(7, .int (0 : Int32)), (0, .ref p0), (1, .long p1), (3, .long p2), (5, .long p3)], [.int (0 : Int32), .ref v9, .long p3, .long ((p1 * v3.toInt64) + (p2 * v7.toInt64))], (h ++ R), 0, 0)) rfl ?_
  obtain ⟨v11, e12, hq⟩ := bsm hq
  refine r_aI odX3_farthest rfl (aI_ap e12) ?_
  refine mB_run odX3_farthest 6 (g := (38, [(10, .int (1 : Int32)), (8, .long (((p1 * v3.toInt64) + (p2 * v7.toInt64)) + (p3 * v11.toInt64))), (7, .int (0 : Int32)), (0, .ref p0), (1, .long p1), (3, .long p2), (5, .long p3)], [], (h ++ R), 0, 0)) rfl ?_
  refine mB_lv [3, 4, 5, 6, 2, 1, 0] (lv' := [(0, .ref p0), (1, .long p1), (3, .long p2), (5, .long p3), (7, .int (0 : Int32)), (8, .long (((p1 * v3.toInt64) + (p2 * v7.toInt64)) + (p3 * v11.toInt64))), (10, .int (1 : Int32))]) rfl ?_
  exact eaX3_farthest_38 N _ _ _ _ _ _ _ _ hq
def fxX3_along (N : Nat) (p0 : Nat) (p1 : Int32) (p2 : Int64) (p3 : Int64) (p4 : Int64) (h : mh) : Option (mh × Int64) :=
  (gR h p0 3 1).bind fun v1 =>
  (aI h v1 p1).bind fun v3 =>
  (gR h p0 3 2).bind fun v5 =>
  (aI h v5 p1).bind fun v7 =>
  (gR h p0 3 3).bind fun v9 =>
  (aI h v9 p1).bind fun v11 =>
  some (h, (((p2 * v3.toInt64) + (p3 * v7.toInt64)) + (p4 * v11.toInt64)))
set_option maxHeartbeats 4000000 in
set_option maxRecDepth 100000 in
theorem eaX3_along {N : Nat} {R : mh} {p0 : Nat} {p1 : Int32} {p2 : Int64} {p3 : Int64} {p4 : Int64} {h : mh} {o : (mh × Int64)} (hq : fxX3_along N p0 p1 p2 p3 p4 h = some o) : mC mX3_along [.ref p0, .int p1, .long p2, .long p3, .long p4] (h ++ R) (o.1 ++ R, some (.long o.2)) := by
  refine mC_of okX3_along (Nat.le_of_ble_eq_true rfl) ?_
  unfold fxX3_along at hq
  show mB _ mX3_along (0, [(0, .ref p0), (1, .int p1), (2, .long p2), (4, .long p3), (6, .long p4)], [], (h ++ R), 0, 0)
  refine mB_run odX3_along 2 (g := (2, [(0, .ref p0), (1, .int p1), (2, .long p2), (4, .long p3), (6, .long p4)], [.ref p0, .long p2], (h ++ R), 0, 0)) rfl ?_
  obtain ⟨v1, e2, hq⟩ := bsm hq
  refine r_gR odX3_along rfl rfl (gR_ap e2) ?_
  refine mB_run odX3_along 1 (g := (6, [(0, .ref p0), (1, .int p1), (2, .long p2), (4, .long p3), (6, .long p4)], [.int p1, .ref v1, .long p2], (h ++ R), 0, 0)) rfl ?_
  obtain ⟨v3, e4, hq⟩ := bsm hq
  refine r_aI odX3_along rfl (aI_ap e4) ?_
  refine mB_run odX3_along 4 (g := (12, [(0, .ref p0), (1, .int p1), (2, .long p2), (4, .long p3), (6, .long p4)], [.ref p0, .long p3, .long (p2 * v3.toInt64)], (h ++ R), 0, 0)) rfl ?_
  obtain ⟨v5, e6, hq⟩ := bsm hq
  refine r_gR odX3_along rfl rfl (gR_ap e6) ?_
  refine mB_run odX3_along 1 (g := (16, [(0, .ref p0), (1, .int p1), (2, .long p2), (4, .long p3), (6, .long p4)], [.int p1, .ref v5, .long p3, .long (p2 * v3.toInt64)], (h ++ R), 0, 0)) rfl ?_
  obtain ⟨v7, e8, hq⟩ := bsm hq
  refine r_aI odX3_along rfl (aI_ap e8) ?_
  refine mB_run odX3_along 5 (g := (23, [(0, .ref p0), (1, .int p1), (2, .long p2), (4, .long p3), (6, .long p4)], [.ref p0, .long p4, .long ((p2 * v3.toInt64) + (p3 * v7.toInt64))], (h ++ R), 0, 0)) rfl ?_
  obtain ⟨v9, e10, hq⟩ := bsm hq
  refine r_gR odX3_along rfl rfl (gR_ap e10) ?_
  refine mB_run odX3_along 1 (g := (27, [(0, .ref p0), (1, .int p1), (2, .long p2), (4, .long p3), (6, .long p4)], [.int p1, .ref v9, .long p4, .long ((p2 * v3.toInt64) + (p3 * v7.toInt64))], (h ++ R), 0, 0)) rfl ?_
  obtain ⟨v11, e12, hq⟩ := bsm hq
  refine r_aI odX3_along rfl (aI_ap e12) ?_
  refine mB_run odX3_along 3 (g := (31, [(0, .ref p0), (1, .int p1), (2, .long p2), (4, .long p3), (6, .long p4)], [.long (((p2 * v3.toInt64) + (p3 * v7.toInt64)) + (p4 * v11.toInt64))], (h ++ R), 0, 0)) rfl ?_
  cases hq
  exact mB_ret odX3_along rfl
