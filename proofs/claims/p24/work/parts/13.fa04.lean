def fxX5_addProp (N : Nat) (p0 : Nat) (h : mh) : Option mh :=
  (gR h p0 5 0).bind fun v1 =>
  (kO h v1 3).bind fun f5 =>
  (fxX3_acrossX N v1 (0 : Int32) (1 : Int32) (2 : Int32) h).bind fun o3 =>
  if o3.2 = (0 : Int64) then (
    (gR o3.1 p0 5 0).bind fun v8 =>
    (kO o3.1 v8 3).bind fun f12 =>
    (fxX3_acrossY N v8 (0 : Int32) (1 : Int32) (2 : Int32) o3.1).bind fun o10 =>
    if o10.2 = (0 : Int64) then (
      (gR o10.1 p0 5 0).bind fun v15 =>
      (gR o10.1 p0 5 0).bind fun v17 =>
      (gR o10.1 v17 3 1).bind fun v19 =>
      (aI o10.1 v19 (0 : Int32)).bind fun v21 =>
      (gR o10.1 p0 5 0).bind fun v23 =>
      (gR o10.1 v23 3 2).bind fun v25 =>
      (aI o10.1 v25 (0 : Int32)).bind fun v27 =>
      (gR o10.1 p0 5 0).bind fun v29 =>
      (gR o10.1 v29 3 3).bind fun v31 =>
      (aI o10.1 v31 (0 : Int32)).bind fun v33 =>
      (kO o10.1 v15 3).bind fun f37 =>
      (fxX3_put N v15 v21 v27 (v33 + (1 : Int32)) o10.1).bind fun o35 =>
      some o35) else (
      (gR o10.1 p0 5 0).bind fun v39 =>
      (gR o10.1 p0 5 0).bind fun v41 =>
      (gR o10.1 v41 3 1).bind fun v43 =>
      (aI o10.1 v43 (0 : Int32)).bind fun v45 =>
      (gR o10.1 p0 5 0).bind fun v47 =>
      (gR o10.1 v47 3 2).bind fun v49 =>
      (aI o10.1 v49 (0 : Int32)).bind fun v51 =>
      (gR o10.1 p0 5 0).bind fun v53 =>
      (gR o10.1 v53 3 3).bind fun v55 =>
      (aI o10.1 v55 (0 : Int32)).bind fun v57 =>
      (kO o10.1 v39 3).bind fun f61 =>
      (fxX3_put N v39 v45 (v51 + (1 : Int32)) v57 o10.1).bind fun o59 =>
      some o59)) else (
    (gR o3.1 p0 5 0).bind fun v63 =>
    (gR o3.1 p0 5 0).bind fun v65 =>
    (gR o3.1 v65 3 1).bind fun v67 =>
    (aI o3.1 v67 (0 : Int32)).bind fun v69 =>
    (gR o3.1 p0 5 0).bind fun v71 =>
    (gR o3.1 v71 3 2).bind fun v73 =>
    (aI o3.1 v73 (0 : Int32)).bind fun v75 =>
    (gR o3.1 p0 5 0).bind fun v77 =>
    (gR o3.1 v77 3 3).bind fun v79 =>
    (aI o3.1 v79 (0 : Int32)).bind fun v81 =>
    (kO o3.1 v63 3).bind fun f85 =>
    (fxX3_put N v63 (v69 + (1 : Int32)) v75 v81 o3.1).bind fun o83 =>
    some o83)
set_option maxHeartbeats 4000000 in
set_option maxRecDepth 100000 in
theorem eaX5_addProp {N : Nat} {R : mh} {p0 : Nat} {h : mh} {o : mh} (hq : fxX5_addProp N p0 h = some o) : mC mX5_addProp [.ref p0] (h ++ R) (o ++ R, none) := by
  refine mC_of okX5_addProp (Nat.le_of_ble_eq_true rfl) ?_
  unfold fxX5_addProp at hq
  show mB _ mX5_addProp (0, [(0, .ref p0)], [], (h ++ R), 0, 0)
  refine mB_run odX5_addProp 1 (g := (1, [(0, .ref p0)], [.ref p0], (h ++ R), 0, 0)) rfl ?_
  obtain ⟨v1, e2, hq⟩ := bsm hq
  refine r_gR odX5_addProp rfl rfl (gR_ap e2) ?_
  refine mB_run odX5_addProp 3 (g := (7, [(0, .ref p0)], [.int (2 : Int32), .int (1 : Int32), .int (0 : Int32), .ref v1], (h ++ R), 0, 0)) rfl ?_
  obtain ⟨f5, k6, hq⟩ := bsm hq
  obtain ⟨o3, e4, hq⟩ := bsm hq
  refine mB_V (as := [.int (0 : Int32), .int (1 : Int32), .int (2 : Int32)]) odX5_addProp okX3_acrossX lk_5_50 rfl (eaX3_acrossX e4) (kO_at (kO_ap k6)) rfl rfl rfl ?_
  show mB _ mX5_addProp (10, [(0, .ref p0)], [.long o3.2], (o3.1 ++ R), 0, 0)
  refine mB_run odX5_addProp 1 (g := (11, [(0, .ref p0)], [.long (0 : Int64), .long o3.2], (o3.1 ++ R), 0, 0)) rfl ?_
  by_cases c7 : o3.2 = (0 : Int64)
  · rw [if_pos c7] at hq
    refine lc_eq_T (t := 54) odX5_addProp rfl rfl rfl c7 ?_
    refine mB_run odX5_addProp 1 (g := (55, [(0, .ref p0)], [.ref p0], (o3.1 ++ R), 0, 0)) rfl ?_
    obtain ⟨v8, e9, hq⟩ := bsm hq
    refine r_gR odX5_addProp rfl rfl (gR_ap e9) ?_
    refine mB_run odX5_addProp 3 (g := (61, [(0, .ref p0)], [.int (2 : Int32), .int (1 : Int32), .int (0 : Int32), .ref v8], (o3.1 ++ R), 0, 0)) rfl ?_
    obtain ⟨f12, k13, hq⟩ := bsm hq
    obtain ⟨o10, e11, hq⟩ := bsm hq
    refine mB_V (as := [.int (0 : Int32), .int (1 : Int32), .int (2 : Int32)]) odX5_addProp okX3_acrossY lk_5_67 rfl (eaX3_acrossY e11) (kO_at (kO_ap k13)) rfl rfl rfl ?_
    show mB _ mX5_addProp (64, [(0, .ref p0)], [.long o10.2], (o10.1 ++ R), 0, 0)
    refine mB_run odX5_addProp 1 (g := (65, [(0, .ref p0)], [.long (0 : Int64), .long o10.2], (o10.1 ++ R), 0, 0)) rfl ?_
    by_cases c14 : o10.2 = (0 : Int64)
    · rw [if_pos c14] at hq
      refine lc_eq_T (t := 108) odX5_addProp rfl rfl rfl c14 ?_
      refine mB_run odX5_addProp 1 (g := (109, [(0, .ref p0)], [.ref p0], (o10.1 ++ R), 0, 0)) rfl ?_
      obtain ⟨v15, e16, hq⟩ := bsm hq
      refine r_gR odX5_addProp rfl rfl (gR_ap e16) ?_
      refine mB_run odX5_addProp 1 (g := (113, [(0, .ref p0)], [.ref p0, .ref v15], (o10.1 ++ R), 0, 0)) rfl ?_
      obtain ⟨v17, e18, hq⟩ := bsm hq
      refine r_gR odX5_addProp rfl rfl (gR_ap e18) ?_
      obtain ⟨v19, e20, hq⟩ := bsm hq
      refine r_gR odX5_addProp rfl rfl (gR_ap e20) ?_
      refine mB_run odX5_addProp 1 (g := (120, [(0, .ref p0)], [.int (0 : Int32), .ref v19, .ref v15], (o10.1 ++ R), 0, 0)) rfl ?_
      obtain ⟨v21, e22, hq⟩ := bsm hq
      refine r_aI odX5_addProp rfl (aI_ap e22) ?_
      refine mB_run odX5_addProp 1 (g := (122, [(0, .ref p0)], [.ref p0, .int v21, .ref v15], (o10.1 ++ R), 0, 0)) rfl ?_
      obtain ⟨v23, e24, hq⟩ := bsm hq
      refine r_gR odX5_addProp rfl rfl (gR_ap e24) ?_
      obtain ⟨v25, e26, hq⟩ := bsm hq
      refine r_gR odX5_addProp rfl rfl (gR_ap e26) ?_
      refine mB_run odX5_addProp 1 (g := (129, [(0, .ref p0)], [.int (0 : Int32), .ref v25, .int v21, .ref v15], (o10.1 ++ R), 0, 0)) rfl ?_
      obtain ⟨v27, e28, hq⟩ := bsm hq
      refine r_aI odX5_addProp rfl (aI_ap e28) ?_
      refine mB_run odX5_addProp 1 (g := (131, [(0, .ref p0)], [.ref p0, .int v27, .int v21, .ref v15], (o10.1 ++ R), 0, 0)) rfl ?_
      obtain ⟨v29, e30, hq⟩ := bsm hq
      refine r_gR odX5_addProp rfl rfl (gR_ap e30) ?_
      obtain ⟨v31, e32, hq⟩ := bsm hq
      refine r_gR odX5_addProp rfl rfl (gR_ap e32) ?_
      refine mB_run odX5_addProp 1 (g := (138, [(0, .ref p0)], [.int (0 : Int32), .ref v31, .int v27, .int v21, .ref v15], (o10.1 ++ R), 0, 0)) rfl ?_
      obtain ⟨v33, e34, hq⟩ := bsm hq
      refine r_aI odX5_addProp rfl (aI_ap e34) ?_
      refine mB_run odX5_addProp 2 (g := (141, [(0, .ref p0)], [.int (v33 + (1 : Int32)), .int v27, .int v21, .ref v15], (o10.1 ++ R), 0, 0)) rfl ?_
      obtain ⟨f37, k38, hq⟩ := bsm hq
      obtain ⟨o35, e36, hq⟩ := bsm hq
      refine mB_V (as := [.int v21, .int v27, .int (v33 + (1 : Int32))]) odX5_addProp okX3_put lk_5_63 rfl (eaX3_put e36) (kO_at (kO_ap k38)) rfl rfl rfl ?_
      show mB _ mX5_addProp (144, [(0, .ref p0)], [], (o35 ++ R), 0, 0)
      cases hq
      exact mB_ret odX5_addProp rfl
    · rw [if_neg c14] at hq
      refine lc_eq_F (t := 108) odX5_addProp rfl rfl rfl c14 ?_
      refine mB_run odX5_addProp 1 (g := (70, [(0, .ref p0)], [.ref p0], (o10.1 ++ R), 0, 0)) rfl ?_
      obtain ⟨v39, e40, hq⟩ := bsm hq
      refine r_gR odX5_addProp rfl rfl (gR_ap e40) ?_
      refine mB_run odX5_addProp 1 (g := (74, [(0, .ref p0)], [.ref p0, .ref v39], (o10.1 ++ R), 0, 0)) rfl ?_
      obtain ⟨v41, e42, hq⟩ := bsm hq
      refine r_gR odX5_addProp rfl rfl (gR_ap e42) ?_
      obtain ⟨v43, e44, hq⟩ := bsm hq
      refine r_gR odX5_addProp rfl rfl (gR_ap e44) ?_
      refine mB_run odX5_addProp 1 (g := (81, [(0, .ref p0)], [.int (0 : Int32), .ref v43, .ref v39], (o10.1 ++ R), 0, 0)) rfl ?_
      obtain ⟨v45, e46, hq⟩ := bsm hq
      refine r_aI odX5_addProp rfl (aI_ap e46) ?_
      refine mB_run odX5_addProp 1 (g := (83, [(0, .ref p0)], [.ref p0, .int v45, .ref v39], (o10.1 ++ R), 0, 0)) rfl ?_
      obtain ⟨v47, e48, hq⟩ := bsm hq
      refine r_gR odX5_addProp rfl rfl (gR_ap e48) ?_
      obtain ⟨v49, e50, hq⟩ := bsm hq
      refine r_gR odX5_addProp rfl rfl (gR_ap e50) ?_
      refine mB_run odX5_addProp 1 (g := (90, [(0, .ref p0)], [.int (0 : Int32), .ref v49, .int v45, .ref v39], (o10.1 ++ R), 0, 0)) rfl ?_
      obtain ⟨v51, e52, hq⟩ := bsm hq
      refine r_aI odX5_addProp rfl (aI_ap e52) ?_
      refine mB_run odX5_addProp 3 (g := (94, [(0, .ref p0)], [.ref p0, .int (v51 + (1 : Int32)), .int v45, .ref v39], (o10.1 ++ R), 0, 0)) rfl ?_
      obtain ⟨v53, e54, hq⟩ := bsm hq
      refine r_gR odX5_addProp rfl rfl (gR_ap e54) ?_
      obtain ⟨v55, e56, hq⟩ := bsm hq
      refine r_gR odX5_addProp rfl rfl (gR_ap e56) ?_
      refine mB_run odX5_addProp 1 (g := (101, [(0, .ref p0)], [.int (0 : Int32), .ref v55, .int (v51 + (1 : Int32)), .int v45, .ref v39], (o10.1 ++ R), 0, 0)) rfl ?_
      obtain ⟨v57, e58, hq⟩ := bsm hq
      refine r_aI odX5_addProp rfl (aI_ap e58) ?_
      obtain ⟨f61, k62, hq⟩ := bsm hq
      obtain ⟨o59, e60, hq⟩ := bsm hq
      refine mB_V (as := [.int v45, .int (v51 + (1 : Int32)), .int v57]) odX5_addProp okX3_put lk_5_63 rfl (eaX3_put e60) (kO_at (kO_ap k62)) rfl rfl rfl ?_
      show mB _ mX5_addProp (105, [(0, .ref p0)], [], (o59 ++ R), 0, 0)
      refine mB_run odX5_addProp 1 (g := (144, [(0, .ref p0)], [], (o59 ++ R), 0, 0)) rfl ?_
      cases hq
      exact mB_ret odX5_addProp rfl
  · rw [if_neg c7] at hq
    refine lc_eq_F (t := 54) odX5_addProp rfl rfl rfl c7 ?_
    refine mB_run odX5_addProp 1 (g := (16, [(0, .ref p0)], [.ref p0], (o3.1 ++ R), 0, 0)) rfl ?_
    obtain ⟨v63, e64, hq⟩ := bsm hq
    refine r_gR odX5_addProp rfl rfl (gR_ap e64) ?_
    refine mB_run odX5_addProp 1 (g := (20, [(0, .ref p0)], [.ref p0, .ref v63], (o3.1 ++ R), 0, 0)) rfl ?_
    obtain ⟨v65, e66, hq⟩ := bsm hq
    refine r_gR odX5_addProp rfl rfl (gR_ap e66) ?_
    obtain ⟨v67, e68, hq⟩ := bsm hq
    refine r_gR odX5_addProp rfl rfl (gR_ap e68) ?_
    refine mB_run odX5_addProp 1 (g := (27, [(0, .ref p0)], [.int (0 : Int32), .ref v67, .ref v63], (o3.1 ++ R), 0, 0)) rfl ?_
    obtain ⟨v69, e70, hq⟩ := bsm hq
    refine r_aI odX5_addProp rfl (aI_ap e70) ?_
    refine mB_run odX5_addProp 3 (g := (31, [(0, .ref p0)], [.ref p0, .int (v69 + (1 : Int32)), .ref v63], (o3.1 ++ R), 0, 0)) rfl ?_
    obtain ⟨v71, e72, hq⟩ := bsm hq
    refine r_gR odX5_addProp rfl rfl (gR_ap e72) ?_
    obtain ⟨v73, e74, hq⟩ := bsm hq
    refine r_gR odX5_addProp rfl rfl (gR_ap e74) ?_
    refine mB_run odX5_addProp 1 (g := (38, [(0, .ref p0)], [.int (0 : Int32), .ref v73, .int (v69 + (1 : Int32)), .ref v63], (o3.1 ++ R), 0, 0)) rfl ?_
    obtain ⟨v75, e76, hq⟩ := bsm hq
    refine r_aI odX5_addProp rfl (aI_ap e76) ?_
    refine mB_run odX5_addProp 1 (g := (40, [(0, .ref p0)], [.ref p0, .int v75, .int (v69 + (1 : Int32)), .ref v63], (o3.1 ++ R), 0, 0)) rfl ?_
    obtain ⟨v77, e78, hq⟩ := bsm hq
    refine r_gR odX5_addProp rfl rfl (gR_ap e78) ?_
    obtain ⟨v79, e80, hq⟩ := bsm hq
    refine r_gR odX5_addProp rfl rfl (gR_ap e80) ?_
    refine mB_run odX5_addProp 1 (g := (47, [(0, .ref p0)], [.int (0 : Int32), .ref v79, .int v75, .int (v69 + (1 : Int32)), .ref v63], (o3.1 ++ R), 0, 0)) rfl ?_
    obtain ⟨v81, e82, hq⟩ := bsm hq
    refine r_aI odX5_addProp rfl (aI_ap e82) ?_
    obtain ⟨f85, k86, hq⟩ := bsm hq
    obtain ⟨o83, e84, hq⟩ := bsm hq
    refine mB_V (as := [.int (v69 + (1 : Int32)), .int v75, .int v81]) odX5_addProp okX3_put lk_5_63 rfl (eaX3_put e84) (kO_at (kO_ap k86)) rfl rfl rfl ?_
    show mB _ mX5_addProp (51, [(0, .ref p0)], [], (o83 ++ R), 0, 0)
    refine mB_run odX5_addProp 1 (g := (144, [(0, .ref p0)], [], (o83 ++ R), 0, 0)) rfl ?_
    cases hq
    exact mB_ret odX5_addProp rfl
def fxX5_addTriangle (N : Nat) (p0 : Nat) (p1 : Int32) (p2 : Int32) (p3 : Int32) (h : mh) : Option mh :=
  (gI h p0 5 1).bind fun v1 =>
  if v1 < (46 : Int32) then (
    (gR h p0 5 0).bind fun v4 =>
    (kO h v4 3).bind fun f8 =>
    (fxX3_acrossX N v4 p1 p2 p3 h).bind fun o6 =>
    (gR o6.1 p0 5 0).bind fun v10 =>
    (kO o6.1 v10 3).bind fun f14 =>
    (fxX3_acrossY N v10 p1 p2 p3 o6.1).bind fun o12 =>
    (gR o12.1 p0 5 0).bind fun v16 =>
    (kO o12.1 v16 3).bind fun f20 =>
    (fxX3_acrossZ N v16 p1 p2 p3 o12.1).bind fun o18 =>
    (gR o18.1 p0 5 2).bind fun v22 =>
    (gI o18.1 p0 5 1).bind fun v24 =>
    (wI o18.1 v22 ((3 : Int32) * v24) p1).bind fun h26 =>
    (gR h26 p0 5 2).bind fun v28 =>
    (gI h26 p0 5 1).bind fun v30 =>
    (wI h26 v28 (((3 : Int32) * v30) + (1 : Int32)) p2).bind fun h32 =>
    (gR h32 p0 5 2).bind fun v34 =>
    (gI h32 p0 5 1).bind fun v36 =>
    (wI h32 v34 (((3 : Int32) * v36) + (2 : Int32)) p3).bind fun h38 =>
    (gR h38 p0 5 3).bind fun v40 =>
    (gI h38 p0 5 1).bind fun v42 =>
    (wI h38 v40 ((4 : Int32) * v42) o6.2.toInt32).bind fun h44 =>
    (gR h44 p0 5 3).bind fun v46 =>
    (gI h44 p0 5 1).bind fun v48 =>
    (wI h44 v46 (((4 : Int32) * v48) + (1 : Int32)) o12.2.toInt32).bind fun h50 =>
    (gR h50 p0 5 3).bind fun v52 =>
    (gI h50 p0 5 1).bind fun v54 =>
    (wI h50 v52 (((4 : Int32) * v54) + (2 : Int32)) o18.2.toInt32).bind fun h56 =>
    (gR h56 p0 5 3).bind fun v58 =>
    (gI h56 p0 5 1).bind fun v60 =>
    (gR h56 p0 5 0).bind fun v62 =>
    (gR h56 v62 3 1).bind fun v64 =>
    (aI h56 v64 p1).bind fun v66 =>
    (gR h56 p0 5 0).bind fun v68 =>
    (gR h56 v68 3 2).bind fun v70 =>
    (aI h56 v70 p1).bind fun v72 =>
    (gR h56 p0 5 0).bind fun v74 =>
    (gR h56 v74 3 3).bind fun v76 =>
    (aI h56 v76 p1).bind fun v78 =>
    (wI h56 v58 (((4 : Int32) * v60) + (3 : Int32)) (((o6.2.toInt32 * v66) + (o12.2.toInt32 * v72)) + (o18.2.toInt32 * v78))).bind fun h80 =>
    (gR h80 p0 5 4).bind fun v82 =>
    (gI h80 p0 5 1).bind fun v84 =>
    (wZ h80 v82 v84 (0 : Int32)).bind fun h86 =>
    (gI h86 p0 5 1).bind fun v88 =>
    (sV h86 p0 5 1 (.int (v88 + (1 : Int32)))).bind fun h90 =>
    some h90) else (
    some h)
set_option maxHeartbeats 4000000 in
set_option maxRecDepth 100000 in
theorem eaX5_addTriangle {N : Nat} {R : mh} {p0 : Nat} {p1 : Int32} {p2 : Int32} {p3 : Int32} {h : mh} {o : mh} (hq : fxX5_addTriangle N p0 p1 p2 p3 h = some o) : mC mX5_addTriangle [.ref p0, .int p1, .int p2, .int p3] (h ++ R) (o ++ R, none) := by
  refine mC_of okX5_addTriangle (Nat.le_of_ble_eq_true rfl) ?_
  unfold fxX5_addTriangle at hq
  show mB _ mX5_addTriangle (0, [(0, .ref p0), (1, .int p1), (2, .int p2), (3, .int p3)], [], (h ++ R), 0, 0)
  refine mB_run odX5_addTriangle 1 (g := (1, [(0, .ref p0), (1, .int p1), (2, .int p2), (3, .int p3)], [.ref p0], (h ++ R), 0, 0)) rfl ?_
  obtain ⟨v1, e2, hq⟩ := bsm hq
  refine r_gI odX5_addTriangle rfl rfl (gI_ap e2) ?_
  refine mB_run odX5_addTriangle 1 (g := (6, [(0, .ref p0), (1, .int p1), (2, .int p2), (3, .int p3)], [.int (46 : Int32), .int v1], (h ++ R), 0, 0)) rfl ?_
  by_cases c3 : v1 < (46 : Int32)
  · rw [if_pos c3] at hq
    refine ic_lt_T (t := 10) odX5_addTriangle rfl rfl c3 ?_
    refine mB_run odX5_addTriangle 1 (g := (11, [(0, .ref p0), (1, .int p1), (2, .int p2), (3, .int p3)], [.ref p0], (h ++ R), 0, 0)) rfl ?_
    obtain ⟨v4, e5, hq⟩ := bsm hq
    refine r_gR odX5_addTriangle rfl rfl (gR_ap e5) ?_
    refine mB_run odX5_addTriangle 3 (g := (17, [(0, .ref p0), (1, .int p1), (2, .int p2), (3, .int p3)], [.int p3, .int p2, .int p1, .ref v4], (h ++ R), 0, 0)) rfl ?_
    obtain ⟨f8, k9, hq⟩ := bsm hq
    obtain ⟨o6, e7, hq⟩ := bsm hq
    refine mB_V (as := [.int p1, .int p2, .int p3]) odX5_addTriangle okX3_acrossX lk_5_50 rfl (eaX3_acrossX e7) (kO_at (kO_ap k9)) rfl rfl rfl ?_
    show mB _ mX5_addTriangle (20, [(0, .ref p0), (1, .int p1), (2, .int p2), (3, .int p3)], [.long o6.2], (o6.1 ++ R), 0, 0)
    refine mB_run odX5_addTriangle 3 (g := (24, [(4, .int o6.2.toInt32), (0, .ref p0), (1, .int p1), (2, .int p2), (3, .int p3)], [.ref p0], (o6.1 ++ R), 0, 0)) rfl ?_
    obtain ⟨v10, e11, hq⟩ := bsm hq
    refine r_gR odX5_addTriangle rfl rfl (gR_ap e11) ?_
    refine mB_run odX5_addTriangle 3 (g := (30, [(4, .int o6.2.toInt32), (0, .ref p0), (1, .int p1), (2, .int p2), (3, .int p3)], [.int p3, .int p2, .int p1, .ref v10], (o6.1 ++ R), 0, 0)) rfl ?_
    obtain ⟨f14, k15, hq⟩ := bsm hq
    obtain ⟨o12, e13, hq⟩ := bsm hq
    refine mB_V (as := [.int p1, .int p2, .int p3]) odX5_addTriangle okX3_acrossY lk_5_67 rfl (eaX3_acrossY e13) (kO_at (kO_ap k15)) rfl rfl rfl ?_
    show mB _ mX5_addTriangle (33, [(4, .int o6.2.toInt32), (0, .ref p0), (1, .int p1), (2, .int p2), (3, .int p3)], [.long o12.2], (o12.1 ++ R), 0, 0)
    refine mB_run odX5_addTriangle 3 (g := (37, [(5, .int o12.2.toInt32), (4, .int o6.2.toInt32), (0, .ref p0), (1, .int p1), (2, .int p2), (3, .int p3)], [.ref p0], (o12.1 ++ R), 0, 0)) rfl ?_
    obtain ⟨v16, e17, hq⟩ := bsm hq
    refine r_gR odX5_addTriangle rfl rfl (gR_ap e17) ?_
    refine mB_run odX5_addTriangle 3 (g := (43, [(5, .int o12.2.toInt32), (4, .int o6.2.toInt32), (0, .ref p0), (1, .int p1), (2, .int p2), (3, .int p3)], [.int p3, .int p2, .int p1, .ref v16], (o12.1 ++ R), 0, 0)) rfl ?_
    obtain ⟨f20, k21, hq⟩ := bsm hq
    obtain ⟨o18, e19, hq⟩ := bsm hq
    refine mB_V (as := [.int p1, .int p2, .int p3]) odX5_addTriangle okX3_acrossZ lk_5_93 rfl (eaX3_acrossZ e19) (kO_at (kO_ap k21)) rfl rfl rfl ?_
    show mB _ mX5_addTriangle (46, [(5, .int o12.2.toInt32), (4, .int o6.2.toInt32), (0, .ref p0), (1, .int p1), (2, .int p2), (3, .int p3)], [.long o18.2], (o18.1 ++ R), 0, 0)
    refine mB_run odX5_addTriangle 3 (g := (50, [(6, .int o18.2.toInt32), (5, .int o12.2.toInt32), (4, .int o6.2.toInt32), (0, .ref p0), (1, .int p1), (2, .int p2), (3, .int p3)], [.ref p0], (o18.1 ++ R), 0, 0)) rfl ?_
    obtain ⟨v22, e23, hq⟩ := bsm hq
    refine r_gR odX5_addTriangle rfl rfl (gR_ap e23) ?_
    refine mB_run odX5_addTriangle 2 (g := (55, [(6, .int o18.2.toInt32), (5, .int o12.2.toInt32), (4, .int o6.2.toInt32), (0, .ref p0), (1, .int p1), (2, .int p2), (3, .int p3)], [.ref p0, .int (3 : Int32), .ref v22], (o18.1 ++ R), 0, 0)) rfl ?_
    obtain ⟨v24, e25, hq⟩ := bsm hq
    refine r_gI odX5_addTriangle rfl rfl (gI_ap e25) ?_
    refine mB_run odX5_addTriangle 2 (g := (60, [(6, .int o18.2.toInt32), (5, .int o12.2.toInt32), (4, .int o6.2.toInt32), (0, .ref p0), (1, .int p1), (2, .int p2), (3, .int p3)], [.int p1, .int ((3 : Int32) * v24), .ref v22], (o18.1 ++ R), 0, 0)) rfl ?_
    obtain ⟨h26, e27, hq⟩ := bsm hq
    refine r_wI odX5_addTriangle rfl (wI_ap e27) ?_
    refine mB_run odX5_addTriangle 1 (g := (62, [(6, .int o18.2.toInt32), (5, .int o12.2.toInt32), (4, .int o6.2.toInt32), (0, .ref p0), (1, .int p1), (2, .int p2), (3, .int p3)], [.ref p0], (h26 ++ R), 0, 0)) rfl ?_
    obtain ⟨v28, e29, hq⟩ := bsm hq
    refine r_gR odX5_addTriangle rfl rfl (gR_ap e29) ?_
    refine mB_run odX5_addTriangle 2 (g := (67, [(6, .int o18.2.toInt32), (5, .int o12.2.toInt32), (4, .int o6.2.toInt32), (0, .ref p0), (1, .int p1), (2, .int p2), (3, .int p3)], [.ref p0, .int (3 : Int32), .ref v28], (h26 ++ R), 0, 0)) rfl ?_
    obtain ⟨v30, e31, hq⟩ := bsm hq
    refine r_gI odX5_addTriangle rfl rfl (gI_ap e31) ?_
    refine mB_run odX5_addTriangle 4 (g := (74, [(6, .int o18.2.toInt32), (5, .int o12.2.toInt32), (4, .int o6.2.toInt32), (0, .ref p0), (1, .int p1), (2, .int p2), (3, .int p3)], [.int p2, .int (((3 : Int32) * v30) + (1 : Int32)), .ref v28], (h26 ++ R), 0, 0)) rfl ?_
    obtain ⟨h32, e33, hq⟩ := bsm hq
    refine r_wI odX5_addTriangle rfl (wI_ap e33) ?_
    refine mB_run odX5_addTriangle 1 (g := (76, [(6, .int o18.2.toInt32), (5, .int o12.2.toInt32), (4, .int o6.2.toInt32), (0, .ref p0), (1, .int p1), (2, .int p2), (3, .int p3)], [.ref p0], (h32 ++ R), 0, 0)) rfl ?_
    obtain ⟨v34, e35, hq⟩ := bsm hq
    refine r_gR odX5_addTriangle rfl rfl (gR_ap e35) ?_
    refine mB_run odX5_addTriangle 2 (g := (81, [(6, .int o18.2.toInt32), (5, .int o12.2.toInt32), (4, .int o6.2.toInt32), (0, .ref p0), (1, .int p1), (2, .int p2), (3, .int p3)], [.ref p0, .int (3 : Int32), .ref v34], (h32 ++ R), 0, 0)) rfl ?_
    obtain ⟨v36, e37, hq⟩ := bsm hq
    refine r_gI odX5_addTriangle rfl rfl (gI_ap e37) ?_
    refine mB_run odX5_addTriangle 4 (g := (88, [(6, .int o18.2.toInt32), (5, .int o12.2.toInt32), (4, .int o6.2.toInt32), (0, .ref p0), (1, .int p1), (2, .int p2), (3, .int p3)], [.int p3, .int (((3 : Int32) * v36) + (2 : Int32)), .ref v34], (h32 ++ R), 0, 0)) rfl ?_
    obtain ⟨h38, e39, hq⟩ := bsm hq
    refine r_wI odX5_addTriangle rfl (wI_ap e39) ?_
    refine mB_run odX5_addTriangle 1 (g := (90, [(6, .int o18.2.toInt32), (5, .int o12.2.toInt32), (4, .int o6.2.toInt32), (0, .ref p0), (1, .int p1), (2, .int p2), (3, .int p3)], [.ref p0], (h38 ++ R), 0, 0)) rfl ?_
    obtain ⟨v40, e41, hq⟩ := bsm hq
    refine r_gR odX5_addTriangle rfl rfl (gR_ap e41) ?_
    refine mB_run odX5_addTriangle 2 (g := (95, [(6, .int o18.2.toInt32), (5, .int o12.2.toInt32), (4, .int o6.2.toInt32), (0, .ref p0), (1, .int p1), (2, .int p2), (3, .int p3)], [.ref p0, .int (4 : Int32), .ref v40], (h38 ++ R), 0, 0)) rfl ?_
    obtain ⟨v42, e43, hq⟩ := bsm hq
    refine r_gI odX5_addTriangle rfl rfl (gI_ap e43) ?_
    refine mB_run odX5_addTriangle 2 (g := (101, [(6, .int o18.2.toInt32), (5, .int o12.2.toInt32), (4, .int o6.2.toInt32), (0, .ref p0), (1, .int p1), (2, .int p2), (3, .int p3)], [.int o6.2.toInt32, .int ((4 : Int32) * v42), .ref v40], (h38 ++ R), 0, 0)) rfl ?_
    obtain ⟨h44, e45, hq⟩ := bsm hq
    refine r_wI odX5_addTriangle rfl (wI_ap e45) ?_
    refine mB_run odX5_addTriangle 1 (g := (103, [(6, .int o18.2.toInt32), (5, .int o12.2.toInt32), (4, .int o6.2.toInt32), (0, .ref p0), (1, .int p1), (2, .int p2), (3, .int p3)], [.ref p0], (h44 ++ R), 0, 0)) rfl ?_
    obtain ⟨v46, e47, hq⟩ := bsm hq
    refine r_gR odX5_addTriangle rfl rfl (gR_ap e47) ?_
    refine mB_run odX5_addTriangle 2 (g := (108, [(6, .int o18.2.toInt32), (5, .int o12.2.toInt32), (4, .int o6.2.toInt32), (0, .ref p0), (1, .int p1), (2, .int p2), (3, .int p3)], [.ref p0, .int (4 : Int32), .ref v46], (h44 ++ R), 0, 0)) rfl ?_
    obtain ⟨v48, e49, hq⟩ := bsm hq
    refine r_gI odX5_addTriangle rfl rfl (gI_ap e49) ?_
    refine mB_run odX5_addTriangle 4 (g := (116, [(6, .int o18.2.toInt32), (5, .int o12.2.toInt32), (4, .int o6.2.toInt32), (0, .ref p0), (1, .int p1), (2, .int p2), (3, .int p3)], [.int o12.2.toInt32, .int (((4 : Int32) * v48) + (1 : Int32)), .ref v46], (h44 ++ R), 0, 0)) rfl ?_
    obtain ⟨h50, e51, hq⟩ := bsm hq
    refine r_wI odX5_addTriangle rfl (wI_ap e51) ?_
    refine mB_run odX5_addTriangle 1 (g := (118, [(6, .int o18.2.toInt32), (5, .int o12.2.toInt32), (4, .int o6.2.toInt32), (0, .ref p0), (1, .int p1), (2, .int p2), (3, .int p3)], [.ref p0], (h50 ++ R), 0, 0)) rfl ?_
    obtain ⟨v52, e53, hq⟩ := bsm hq
    refine r_gR odX5_addTriangle rfl rfl (gR_ap e53) ?_
    refine mB_run odX5_addTriangle 2 (g := (123, [(6, .int o18.2.toInt32), (5, .int o12.2.toInt32), (4, .int o6.2.toInt32), (0, .ref p0), (1, .int p1), (2, .int p2), (3, .int p3)], [.ref p0, .int (4 : Int32), .ref v52], (h50 ++ R), 0, 0)) rfl ?_
    obtain ⟨v54, e55, hq⟩ := bsm hq
    refine r_gI odX5_addTriangle rfl rfl (gI_ap e55) ?_
    refine mB_run odX5_addTriangle 4 (g := (131, [(6, .int o18.2.toInt32), (5, .int o12.2.toInt32), (4, .int o6.2.toInt32), (0, .ref p0), (1, .int p1), (2, .int p2), (3, .int p3)], [.int o18.2.toInt32, .int (((4 : Int32) * v54) + (2 : Int32)), .ref v52], (h50 ++ R), 0, 0)) rfl ?_
    obtain ⟨h56, e57, hq⟩ := bsm hq
    refine r_wI odX5_addTriangle rfl (wI_ap e57) ?_
    refine mB_run odX5_addTriangle 1 (g := (133, [(6, .int o18.2.toInt32), (5, .int o12.2.toInt32), (4, .int o6.2.toInt32), (0, .ref p0), (1, .int p1), (2, .int p2), (3, .int p3)], [.ref p0], (h56 ++ R), 0, 0)) rfl ?_
    obtain ⟨v58, e59, hq⟩ := bsm hq
    refine r_gR odX5_addTriangle rfl rfl (gR_ap e59) ?_
    refine mB_run odX5_addTriangle 2 (g := (138, [(6, .int o18.2.toInt32), (5, .int o12.2.toInt32), (4, .int o6.2.toInt32), (0, .ref p0), (1, .int p1), (2, .int p2), (3, .int p3)], [.ref p0, .int (4 : Int32), .ref v58], (h56 ++ R), 0, 0)) rfl ?_
    obtain ⟨v60, e61, hq⟩ := bsm hq
    refine r_gI odX5_addTriangle rfl rfl (gI_ap e61) ?_
    refine mB_run odX5_addTriangle 5 (g := (147, [(6, .int o18.2.toInt32), (5, .int o12.2.toInt32), (4, .int o6.2.toInt32), (0, .ref p0), (1, .int p1), (2, .int p2), (3, .int p3)], [.ref p0, .int o6.2.toInt32, .int (((4 : Int32) * v60) + (3 : Int32)), .ref v58], (h56 ++ R), 0, 0)) rfl ?_
    obtain ⟨v62, e63, hq⟩ := bsm hq
    refine r_gR odX5_addTriangle rfl rfl (gR_ap e63) ?_
    obtain ⟨v64, e65, hq⟩ := bsm hq
    refine r_gR odX5_addTriangle rfl rfl (gR_ap e65) ?_
    refine mB_run odX5_addTriangle 1 (g := (154, [(6, .int o18.2.toInt32), (5, .int o12.2.toInt32), (4, .int o6.2.toInt32), (0, .ref p0), (1, .int p1), (2, .int p2), (3, .int p3)], [.int p1, .ref v64, .int o6.2.toInt32, .int (((4 : Int32) * v60) + (3 : Int32)), .ref v58], (h56 ++ R), 0, 0)) rfl ?_
    obtain ⟨v66, e67, hq⟩ := bsm hq
    refine r_aI odX5_addTriangle rfl (aI_ap e67) ?_
    refine mB_run odX5_addTriangle 3 (g := (159, [(6, .int o18.2.toInt32), (5, .int o12.2.toInt32), (4, .int o6.2.toInt32), (0, .ref p0), (1, .int p1), (2, .int p2), (3, .int p3)], [.ref p0, .int o12.2.toInt32, .int (o6.2.toInt32 * v66), .int (((4 : Int32) * v60) + (3 : Int32)), .ref v58], (h56 ++ R), 0, 0)) rfl ?_
    obtain ⟨v68, e69, hq⟩ := bsm hq
    refine r_gR odX5_addTriangle rfl rfl (gR_ap e69) ?_
    obtain ⟨v70, e71, hq⟩ := bsm hq
    refine r_gR odX5_addTriangle rfl rfl (gR_ap e71) ?_
    refine mB_run odX5_addTriangle 1 (g := (166, [(6, .int o18.2.toInt32), (5, .int o12.2.toInt32), (4, .int o6.2.toInt32), (0, .ref p0), (1, .int p1), (2, .int p2), (3, .int p3)], [.int p1, .ref v70, .int o12.2.toInt32, .int (o6.2.toInt32 * v66), .int (((4 : Int32) * v60) + (3 : Int32)), .ref v58], (h56 ++ R), 0, 0)) rfl ?_
    obtain ⟨v72, e73, hq⟩ := bsm hq
    refine r_aI odX5_addTriangle rfl (aI_ap e73) ?_
    refine mB_run odX5_addTriangle 4 (g := (172, [(6, .int o18.2.toInt32), (5, .int o12.2.toInt32), (4, .int o6.2.toInt32), (0, .ref p0), (1, .int p1), (2, .int p2), (3, .int p3)], [.ref p0, .int o18.2.toInt32, .int ((o6.2.toInt32 * v66) + (o12.2.toInt32 * v72)), .int (((4 : Int32) * v60) + (3 : Int32)), .ref v58], (h56 ++ R), 0, 0)) rfl ?_
    obtain ⟨v74, e75, hq⟩ := bsm hq
    refine r_gR odX5_addTriangle rfl rfl (gR_ap e75) ?_
    obtain ⟨v76, e77, hq⟩ := bsm hq
    refine r_gR odX5_addTriangle rfl rfl (gR_ap e77) ?_
    refine mB_run odX5_addTriangle 1 (g := (179, [(6, .int o18.2.toInt32), (5, .int o12.2.toInt32), (4, .int o6.2.toInt32), (0, .ref p0), (1, .int p1), (2, .int p2), (3, .int p3)], [.int p1, .ref v76, .int o18.2.toInt32, .int ((o6.2.toInt32 * v66) + (o12.2.toInt32 * v72)), .int (((4 : Int32) * v60) + (3 : Int32)), .ref v58], (h56 ++ R), 0, 0)) rfl ?_
    obtain ⟨v78, e79, hq⟩ := bsm hq
    refine r_aI odX5_addTriangle rfl (aI_ap e79) ?_
    refine mB_run odX5_addTriangle 2 (g := (182, [(6, .int o18.2.toInt32), (5, .int o12.2.toInt32), (4, .int o6.2.toInt32), (0, .ref p0), (1, .int p1), (2, .int p2), (3, .int p3)], [.int (((o6.2.toInt32 * v66) + (o12.2.toInt32 * v72)) + (o18.2.toInt32 * v78)), .int (((4 : Int32) * v60) + (3 : Int32)), .ref v58], (h56 ++ R), 0, 0)) rfl ?_
    obtain ⟨h80, e81, hq⟩ := bsm hq
    refine r_wI odX5_addTriangle rfl (wI_ap e81) ?_
    refine mB_run odX5_addTriangle 1 (g := (184, [(6, .int o18.2.toInt32), (5, .int o12.2.toInt32), (4, .int o6.2.toInt32), (0, .ref p0), (1, .int p1), (2, .int p2), (3, .int p3)], [.ref p0], (h80 ++ R), 0, 0)) rfl ?_
    obtain ⟨v82, e83, hq⟩ := bsm hq
    refine r_gR odX5_addTriangle rfl rfl (gR_ap e83) ?_
    refine mB_run odX5_addTriangle 1 (g := (188, [(6, .int o18.2.toInt32), (5, .int o12.2.toInt32), (4, .int o6.2.toInt32), (0, .ref p0), (1, .int p1), (2, .int p2), (3, .int p3)], [.ref p0, .ref v82], (h80 ++ R), 0, 0)) rfl ?_
    obtain ⟨v84, e85, hq⟩ := bsm hq
    refine r_gI odX5_addTriangle rfl rfl (gI_ap e85) ?_
    refine mB_run odX5_addTriangle 1 (g := (192, [(6, .int o18.2.toInt32), (5, .int o12.2.toInt32), (4, .int o6.2.toInt32), (0, .ref p0), (1, .int p1), (2, .int p2), (3, .int p3)], [.int (0 : Int32), .int v84, .ref v82], (h80 ++ R), 0, 0)) rfl ?_
    obtain ⟨h86, e87, hq⟩ := bsm hq
    refine r_wZ odX5_addTriangle rfl (wZ_ap e87) ?_
    refine mB_run odX5_addTriangle 2 (g := (195, [(6, .int o18.2.toInt32), (5, .int o12.2.toInt32), (4, .int o6.2.toInt32), (0, .ref p0), (1, .int p1), (2, .int p2), (3, .int p3)], [.ref p0, .ref p0], (h86 ++ R), 0, 0)) rfl ?_
    obtain ⟨v88, e89, hq⟩ := bsm hq
    refine r_gI odX5_addTriangle rfl rfl (gI_ap e89) ?_
    refine mB_run odX5_addTriangle 2 (g := (200, [(6, .int o18.2.toInt32), (5, .int o12.2.toInt32), (4, .int o6.2.toInt32), (0, .ref p0), (1, .int p1), (2, .int p2), (3, .int p3)], [.int (v88 + (1 : Int32)), .ref p0], (h86 ++ R), 0, 0)) rfl ?_
    obtain ⟨h90, e91, hq⟩ := bsm hq
    refine r_sV odX5_addTriangle rfl rfl rfl rfl (sV_ap e91) ?_
    cases hq
    exact mB_ret odX5_addTriangle rfl
  · rw [if_neg c3] at hq
    refine ic_lt_F (t := 10) odX5_addTriangle rfl rfl c3 ?_
    cases hq
    exact mB_ret odX5_addTriangle rfl
def fxX5_beginWithFour_41 (N : Nat) (x0 : Nat) (x2 : Int32) (s0 : Int32) (h : mh) : Option mh :=
  (kO h x0 5).bind fun f12 =>
  (fxX5_addTriangle N x0 (0 : Int32) x2 s0 h).bind fun o10 =>
  (kO o10 x0 5).bind fun f16 =>
  (fxX5_addTriangle N x0 x2 (0 : Int32) (3 : Int32) o10).bind fun o14 =>
  (kO o14 x0 5).bind fun f20 =>
  (fxX5_addTriangle N x0 s0 x2 (3 : Int32) o14).bind fun o18 =>
  (kO o18 x0 5).bind fun f24 =>
  (fxX5_addTriangle N x0 (0 : Int32) s0 (3 : Int32) o18).bind fun o22 =>
  some o22
set_option maxHeartbeats 4000000 in
set_option maxRecDepth 100000 in
theorem eaX5_beginWithFour_41 {N : Nat} {R : mh} (x0 : Nat) (x2 : Int32) (s0 : Int32) (h : mh) {o : mh} (hq : fxX5_beginWithFour_41 N x0 x2 s0 h = some o) : mB (gO mX5_beginWithFour (o ++ R, none)) mX5_beginWithFour (41, [(0, .ref x0), (2, .int x2)], [.int s0], (h ++ R), 0, 0) := by
  unfold fxX5_beginWithFour_41 at hq
  refine mB_run odX5_beginWithFour 5 (g := (46, [(3, .int s0), (0, .ref x0), (2, .int x2)], [.int s0, .int x2, .int (0 : Int32), .ref x0], (h ++ R), 0, 0)) rfl ?_
  obtain ⟨f12, k13, hq⟩ := bsm hq
  obtain ⟨o10, e11, hq⟩ := bsm hq
  refine mB_V (as := [.int (0 : Int32), .int x2, .int s0]) odX5_beginWithFour okX5_addTriangle lk_5_74 rfl (eaX5_addTriangle e11) (kO_at (kO_ap k13)) rfl rfl rfl ?_
  show mB _ mX5_beginWithFour (49, [(3, .int s0), (0, .ref x0), (2, .int x2)], [], (o10 ++ R), 0, 0)
  refine mB_run odX5_beginWithFour 4 (g := (53, [(3, .int s0), (0, .ref x0), (2, .int x2)], [.int (3 : Int32), .int (0 : Int32), .int x2, .ref x0], (o10 ++ R), 0, 0)) rfl ?_
  obtain ⟨f16, k17, hq⟩ := bsm hq
  obtain ⟨o14, e15, hq⟩ := bsm hq
  refine mB_V (as := [.int x2, .int (0 : Int32), .int (3 : Int32)]) odX5_beginWithFour okX5_addTriangle lk_5_74 rfl (eaX5_addTriangle e15) (kO_at (kO_ap k17)) rfl rfl rfl ?_
  show mB _ mX5_beginWithFour (56, [(3, .int s0), (0, .ref x0), (2, .int x2)], [], (o14 ++ R), 0, 0)
  refine mB_run odX5_beginWithFour 4 (g := (60, [(3, .int s0), (0, .ref x0), (2, .int x2)], [.int (3 : Int32), .int x2, .int s0, .ref x0], (o14 ++ R), 0, 0)) rfl ?_
  obtain ⟨f20, k21, hq⟩ := bsm hq
  obtain ⟨o18, e19, hq⟩ := bsm hq
  refine mB_V (as := [.int s0, .int x2, .int (3 : Int32)]) odX5_beginWithFour okX5_addTriangle lk_5_74 rfl (eaX5_addTriangle e19) (kO_at (kO_ap k21)) rfl rfl rfl ?_
  show mB _ mX5_beginWithFour (63, [(3, .int s0), (0, .ref x0), (2, .int x2)], [], (o18 ++ R), 0, 0)
  refine mB_run odX5_beginWithFour 4 (g := (67, [(3, .int s0), (0, .ref x0), (2, .int x2)], [.int (3 : Int32), .int s0, .int (0 : Int32), .ref x0], (o18 ++ R), 0, 0)) rfl ?_
  obtain ⟨f24, k25, hq⟩ := bsm hq
  obtain ⟨o22, e23, hq⟩ := bsm hq
  refine mB_V (as := [.int (0 : Int32), .int s0, .int (3 : Int32)]) odX5_beginWithFour okX5_addTriangle lk_5_74 rfl (eaX5_addTriangle e23) (kO_at (kO_ap k25)) rfl rfl rfl ?_
  show mB _ mX5_beginWithFour (70, [(3, .int s0), (0, .ref x0), (2, .int x2)], [], (o22 ++ R), 0, 0)
  cases hq
  exact mB_ret odX5_beginWithFour rfl
def fxX5_beginWithFour_31 (N : Nat) (x0 : Nat) (x1 : Int32) (s0 : Int32) (h : mh) : Option mh :=
  if x1 = 0 then (
    fxX5_beginWithFour_41 N x0 s0 (1 : Int32) h) else (
    fxX5_beginWithFour_41 N x0 s0 (2 : Int32) h)
set_option maxHeartbeats 4000000 in
set_option maxRecDepth 100000 in
theorem eaX5_beginWithFour_31 {N : Nat} {R : mh} (x0 : Nat) (x1 : Int32) (s0 : Int32) (h : mh) {o : mh} (hq : fxX5_beginWithFour_31 N x0 x1 s0 h = some o) : mB (gO mX5_beginWithFour (o ++ R, none)) mX5_beginWithFour (31, [(0, .ref x0), (1, .int x1)], [.int s0], (h ++ R), 0, 0) := by
  unfold fxX5_beginWithFour_31 at hq
  refine mB_run odX5_beginWithFour 2 (g := (33, [(2, .int s0), (0, .ref x0), (1, .int x1)], [.int x1], (h ++ R), 0, 0)) rfl ?_
  by_cases c9 : x1 = 0
  · rw [if_pos c9] at hq
    refine if_eq_T (t := 40) odX5_beginWithFour rfl rfl c9 ?_
    refine mB_run odX5_beginWithFour 1 (g := (41, [(2, .int s0), (0, .ref x0), (1, .int x1)], [.int (1 : Int32)], (h ++ R), 0, 0)) rfl ?_
    refine mB_lv [1, 0] (lv' := [(0, .ref x0), (2, .int s0)]) rfl ?_
    exact eaX5_beginWithFour_41 _ _ _ _ hq
  · rw [if_neg c9] at hq
    refine if_eq_F (t := 40) odX5_beginWithFour rfl rfl c9 ?_
    refine mB_run odX5_beginWithFour 2 (g := (41, [(2, .int s0), (0, .ref x0), (1, .int x1)], [.int (2 : Int32)], (h ++ R), 0, 0)) rfl ?_
    refine mB_lv [1, 0] (lv' := [(0, .ref x0), (2, .int s0)]) rfl ?_
    exact eaX5_beginWithFour_41 _ _ _ _ hq
def fxX5_beginWithFour_21 (N : Nat) (x0 : Nat) (s0 : Int32) (h : mh) : Option mh :=
  if s0 = 0 then (
    fxX5_beginWithFour_31 N x0 s0 (2 : Int32) h) else (
    fxX5_beginWithFour_31 N x0 s0 (1 : Int32) h)
set_option maxHeartbeats 4000000 in
set_option maxRecDepth 100000 in
theorem eaX5_beginWithFour_21 {N : Nat} {R : mh} (x0 : Nat) (s0 : Int32) (h : mh) {o : mh} (hq : fxX5_beginWithFour_21 N x0 s0 h = some o) : mB (gO mX5_beginWithFour (o ++ R, none)) mX5_beginWithFour (21, [(0, .ref x0)], [.int s0], (h ++ R), 0, 0) := by
  unfold fxX5_beginWithFour_21 at hq
  refine mB_run odX5_beginWithFour 2 (g := (23, [(1, .int s0), (0, .ref x0)], [.int s0], (h ++ R), 0, 0)) rfl ?_
  by_cases c8 : s0 = 0
  · rw [if_pos c8] at hq
    refine if_eq_T (t := 30) odX5_beginWithFour rfl rfl c8 ?_
    refine mB_run odX5_beginWithFour 1 (g := (31, [(1, .int s0), (0, .ref x0)], [.int (2 : Int32)], (h ++ R), 0, 0)) rfl ?_
    refine mB_lv [1, 0] (lv' := [(0, .ref x0), (1, .int s0)]) rfl ?_
    exact eaX5_beginWithFour_31 _ _ _ _ hq
  · rw [if_neg c8] at hq
    refine if_eq_F (t := 30) odX5_beginWithFour rfl rfl c8 ?_
    refine mB_run odX5_beginWithFour 2 (g := (31, [(1, .int s0), (0, .ref x0)], [.int (1 : Int32)], (h ++ R), 0, 0)) rfl ?_
    refine mB_lv [1, 0] (lv' := [(0, .ref x0), (1, .int s0)]) rfl ?_
    exact eaX5_beginWithFour_31 _ _ _ _ hq
def fxX5_beginWithFour (N : Nat) (p0 : Nat) (h : mh) : Option mh :=
  (gR h p0 5 0).bind fun v1 =>
  (kO h v1 3).bind fun f5 =>
  (fxX3_boxOf N v1 (0 : Int32) (1 : Int32) (2 : Int32) (3 : Int32) h).bind fun o3 =>
  if (0 : Int64) ≤ o3.2 then (
    fxX5_beginWithFour_21 N p0 (0 : Int32) o3.1) else (
    fxX5_beginWithFour_21 N p0 (1 : Int32) o3.1)
set_option maxHeartbeats 4000000 in
set_option maxRecDepth 100000 in
theorem eaX5_beginWithFour {N : Nat} {R : mh} {p0 : Nat} {h : mh} {o : mh} (hq : fxX5_beginWithFour N p0 h = some o) : mC mX5_beginWithFour [.ref p0] (h ++ R) (o ++ R, none) := by
  refine mC_of okX5_beginWithFour (Nat.le_of_ble_eq_true rfl) ?_
  unfold fxX5_beginWithFour at hq
  show mB _ mX5_beginWithFour (0, [(0, .ref p0)], [], (h ++ R), 0, 0)
  refine mB_run odX5_beginWithFour 1 (g := (1, [(0, .ref p0)], [.ref p0], (h ++ R), 0, 0)) rfl ?_
  obtain ⟨v1, e2, hq⟩ := bsm hq
  refine r_gR odX5_beginWithFour rfl rfl (gR_ap e2) ?_
  refine mB_run odX5_beginWithFour 4 (g := (8, [(0, .ref p0)], [.int (3 : Int32), .int (2 : Int32), .int (1 : Int32), .int (0 : Int32), .ref v1], (h ++ R), 0, 0)) rfl ?_
  obtain ⟨f5, k6, hq⟩ := bsm hq
  obtain ⟨o3, e4, hq⟩ := bsm hq
  refine mB_V (as := [.int (0 : Int32), .int (1 : Int32), .int (2 : Int32), .int (3 : Int32)]) odX5_beginWithFour okX3_boxOf lk_5_70 rfl (eaX3_boxOf e4) (kO_at (kO_ap k6)) rfl rfl rfl ?_
  show mB _ mX5_beginWithFour (11, [(0, .ref p0)], [.long o3.2], (o3.1 ++ R), 0, 0)
  refine mB_run odX5_beginWithFour 1 (g := (12, [(0, .ref p0)], [.long (0 : Int64), .long o3.2], (o3.1 ++ R), 0, 0)) rfl ?_
  by_cases c7 : (0 : Int64) ≤ o3.2
  · rw [if_pos c7] at hq
    refine lc_ge_T (t := 20) odX5_beginWithFour rfl rfl rfl c7 ?_
    refine mB_run odX5_beginWithFour 1 (g := (21, [(0, .ref p0)], [.int (0 : Int32)], (o3.1 ++ R), 0, 0)) rfl ?_
    refine mB_lv [0] (lv' := [(0, .ref p0)]) rfl ?_
    exact eaX5_beginWithFour_21 _ _ _ hq
  · rw [if_neg c7] at hq
    refine lc_ge_F (t := 20) odX5_beginWithFour rfl rfl rfl c7 ?_
    refine mB_run odX5_beginWithFour 2 (g := (21, [(0, .ref p0)], [.int (1 : Int32)], (o3.1 ++ R), 0, 0)) rfl ?_
    refine mB_lv [0] (lv' := [(0, .ref p0)]) rfl ?_
    exact eaX5_beginWithFour_21 _ _ _ hq
def fxX5_firstOpen_2 (N : Nat) : Nat → Nat → Int32 → mh → Option (mh × Int32)
  | 0, _, _, _ => none
  | n + 1, x0, x1, h =>
    (gI h x0 5 1).bind fun v1 =>
    if v1 ≤ x1 then (
      some (h, (-1 : Int32))) else (
      (gR h x0 5 4).bind fun v4 =>
      (aZ h v4 x1).bind fun v6 =>
      if v6 = 0 then (
        some (h, x1)) else (
        fxX5_firstOpen_2 N n x0 (x1 + (1 : Int32)) h))
set_option maxHeartbeats 4000000 in
set_option maxRecDepth 100000 in
theorem eaX5_firstOpen_2 {N : Nat} {R : mh} : ∀ (n : Nat) (x0 : Nat) (x1 : Int32) (h : mh) {o : (mh × Int32)}, fxX5_firstOpen_2 N n x0 x1 h = some o → mB (gO mX5_firstOpen (o.1 ++ R, some (.int o.2))) mX5_firstOpen (2, [(0, .ref x0), (1, .int x1)], [], (h ++ R), 0, 0) := by
  intro n
  induction n with
  | zero => intro x0 x1 h o hq; cases hq
  | succ n ih =>
    intro x0 x1 h o hq
    unfold fxX5_firstOpen_2 at hq
    refine mB_run odX5_firstOpen 2 (g := (4, [(0, .ref x0), (1, .int x1)], [.ref x0, .int x1], (h ++ R), 0, 0)) rfl ?_
    obtain ⟨v1, e2, hq⟩ := bsm hq
    refine r_gI odX5_firstOpen rfl rfl (gI_ap e2) ?_
    by_cases c3 : v1 ≤ x1
    · rw [if_pos c3] at hq
      refine ic_ge_T (t := 27) odX5_firstOpen rfl rfl c3 ?_
      refine mB_run odX5_firstOpen 1 (g := (28, [(0, .ref x0), (1, .int x1)], [.int (-1 : Int32)], (h ++ R), 0, 0)) rfl ?_
      cases hq
      exact mB_ret odX5_firstOpen rfl
    · rw [if_neg c3] at hq
      refine ic_ge_F (t := 27) odX5_firstOpen rfl rfl c3 ?_
      refine mB_run odX5_firstOpen 1 (g := (11, [(0, .ref x0), (1, .int x1)], [.ref x0], (h ++ R), 0, 0)) rfl ?_
      obtain ⟨v4, e5, hq⟩ := bsm hq
      refine r_gR odX5_firstOpen rfl rfl (gR_ap e5) ?_
      refine mB_run odX5_firstOpen 1 (g := (15, [(0, .ref x0), (1, .int x1)], [.int x1, .ref v4], (h ++ R), 0, 0)) rfl ?_
      obtain ⟨v6, e7, hq⟩ := bsm hq
      refine r_aZ odX5_firstOpen rfl (aZ_ap e7) ?_
      by_cases c8 : v6 = 0
      · rw [if_pos c8] at hq
        refine if_ne_F (t := 21) odX5_firstOpen rfl rfl c8 ?_
        refine mB_run odX5_firstOpen 1 (g := (20, [(0, .ref x0), (1, .int x1)], [.int x1], (h ++ R), 0, 0)) rfl ?_
        cases hq
        exact mB_ret odX5_firstOpen rfl
      · rw [if_neg c8] at hq
        refine if_ne_T (t := 21) odX5_firstOpen rfl rfl c8 ?_
        refine mB_run odX5_firstOpen 2 (g := (2, [(1, .int (x1 + (1 : Int32))), (0, .ref x0)], [], (h ++ R), 0, 0)) rfl ?_
        refine mB_lv [1, 0] (lv' := [(0, .ref x0), (1, .int (x1 + (1 : Int32)))]) rfl ?_
        exact ih _ _ _ hq
def fxX5_firstOpen (N : Nat) (p0 : Nat) (h : mh) : Option (mh × Int32) :=
  fxX5_firstOpen_2 N N p0 (0 : Int32) h
set_option maxHeartbeats 4000000 in
set_option maxRecDepth 100000 in
theorem eaX5_firstOpen {N : Nat} {R : mh} {p0 : Nat} {h : mh} {o : (mh × Int32)} (hq : fxX5_firstOpen N p0 h = some o) : mC mX5_firstOpen [.ref p0] (h ++ R) (o.1 ++ R, some (.int o.2)) := by
  refine mC_of okX5_firstOpen (Nat.le_of_ble_eq_true rfl) ?_
  unfold fxX5_firstOpen at hq
  show mB _ mX5_firstOpen (0, [(0, .ref p0)], [], (h ++ R), 0, 0)
  refine mB_run odX5_firstOpen 2 (g := (2, [(1, .int (0 : Int32)), (0, .ref p0)], [], (h ++ R), 0, 0)) rfl ?_
  refine mB_lv [1, 0] (lv' := [(0, .ref p0), (1, .int (0 : Int32))]) rfl ?_
  exact eaX5_firstOpen_2 N _ _ _ hq
def fxX5_isBeyond (N : Nat) (p0 : Nat) (p1 : Int32) (p2 : Int64) (p3 : Int64) (p4 : Int64) (h : mh) : Option (mh × Int32) :=
  (gR h p0 5 3).bind fun v1 =>
  (aI h v1 ((4 : Int32) * p1)).bind fun v3 =>
  (gR h p0 5 3).bind fun v5 =>
  (aI h v5 (((4 : Int32) * p1) + (1 : Int32))).bind fun v7 =>
  (gR h p0 5 3).bind fun v9 =>
  (aI h v9 (((4 : Int32) * p1) + (2 : Int32))).bind fun v11 =>
  (gR h p0 5 3).bind fun v13 =>
  (aI h v13 (((4 : Int32) * p1) + (3 : Int32))).bind fun v15 =>
  if (((v3.toInt64 * p2) + (v7.toInt64 * p3)) + (v11.toInt64 * p4)) ≤ v15.toInt64 then (
    some (h, (0 : Int32))) else (
    some (h, (1 : Int32)))
set_option maxHeartbeats 4000000 in
set_option maxRecDepth 100000 in
theorem eaX5_isBeyond {N : Nat} {R : mh} {p0 : Nat} {p1 : Int32} {p2 : Int64} {p3 : Int64} {p4 : Int64} {h : mh} {o : (mh × Int32)} (hq : fxX5_isBeyond N p0 p1 p2 p3 p4 h = some o) : mC mX5_isBeyond [.ref p0, .int p1, .long p2, .long p3, .long p4] (h ++ R) (o.1 ++ R, some (.int o.2)) := by
  refine mC_of okX5_isBeyond (Nat.le_of_ble_eq_true rfl) ?_
  unfold fxX5_isBeyond at hq
  show mB _ mX5_isBeyond (0, [(0, .ref p0), (1, .int p1), (2, .long p2), (4, .long p3), (6, .long p4)], [], (h ++ R), 0, 0)
  refine mB_run odX5_isBeyond 1 (g := (1, [(0, .ref p0), (1, .int p1), (2, .long p2), (4, .long p3), (6, .long p4)], [.ref p0], (h ++ R), 0, 0)) rfl ?_
  obtain ⟨v1, e2, hq⟩ := bsm hq
  refine r_gR odX5_isBeyond rfl rfl (gR_ap e2) ?_
  refine mB_run odX5_isBeyond 3 (g := (7, [(0, .ref p0), (1, .int p1), (2, .long p2), (4, .long p3), (6, .long p4)], [.int ((4 : Int32) * p1), .ref v1], (h ++ R), 0, 0)) rfl ?_
  obtain ⟨v3, e4, hq⟩ := bsm hq
  refine r_aI odX5_isBeyond rfl (aI_ap e4) ?_
  refine mB_run odX5_isBeyond 4 (g := (12, [(0, .ref p0), (1, .int p1), (2, .long p2), (4, .long p3), (6, .long p4)], [.ref p0, .long (v3.toInt64 * p2)], (h ++ R), 0, 0)) rfl ?_
  obtain ⟨v5, e6, hq⟩ := bsm hq
  refine r_gR odX5_isBeyond rfl rfl (gR_ap e6) ?_
  refine mB_run odX5_isBeyond 5 (g := (20, [(0, .ref p0), (1, .int p1), (2, .long p2), (4, .long p3), (6, .long p4)], [.int (((4 : Int32) * p1) + (1 : Int32)), .ref v5, .long (v3.toInt64 * p2)], (h ++ R), 0, 0)) rfl ?_
  obtain ⟨v7, e8, hq⟩ := bsm hq
  refine r_aI odX5_isBeyond rfl (aI_ap e8) ?_
  refine mB_run odX5_isBeyond 5 (g := (27, [(0, .ref p0), (1, .int p1), (2, .long p2), (4, .long p3), (6, .long p4)], [.ref p0, .long ((v3.toInt64 * p2) + (v7.toInt64 * p3))], (h ++ R), 0, 0)) rfl ?_
  obtain ⟨v9, e10, hq⟩ := bsm hq
  refine r_gR odX5_isBeyond rfl rfl (gR_ap e10) ?_
  refine mB_run odX5_isBeyond 5 (g := (35, [(0, .ref p0), (1, .int p1), (2, .long p2), (4, .long p3), (6, .long p4)], [.int (((4 : Int32) * p1) + (2 : Int32)), .ref v9, .long ((v3.toInt64 * p2) + (v7.toInt64 * p3))], (h ++ R), 0, 0)) rfl ?_
  obtain ⟨v11, e12, hq⟩ := bsm hq
  refine r_aI odX5_isBeyond rfl (aI_ap e12) ?_
  refine mB_run odX5_isBeyond 5 (g := (42, [(0, .ref p0), (1, .int p1), (2, .long p2), (4, .long p3), (6, .long p4)], [.ref p0, .long (((v3.toInt64 * p2) + (v7.toInt64 * p3)) + (v11.toInt64 * p4))], (h ++ R), 0, 0)) rfl ?_
  obtain ⟨v13, e14, hq⟩ := bsm hq
  refine r_gR odX5_isBeyond rfl rfl (gR_ap e14) ?_
  refine mB_run odX5_isBeyond 5 (g := (50, [(0, .ref p0), (1, .int p1), (2, .long p2), (4, .long p3), (6, .long p4)], [.int (((4 : Int32) * p1) + (3 : Int32)), .ref v13, .long (((v3.toInt64 * p2) + (v7.toInt64 * p3)) + (v11.toInt64 * p4))], (h ++ R), 0, 0)) rfl ?_
  obtain ⟨v15, e16, hq⟩ := bsm hq
  refine r_aI odX5_isBeyond rfl (aI_ap e16) ?_
  refine mB_run odX5_isBeyond 1 (g := (52, [(0, .ref p0), (1, .int p1), (2, .long p2), (4, .long p3), (6, .long p4)], [.long v15.toInt64, .long (((v3.toInt64 * p2) + (v7.toInt64 * p3)) + (v11.toInt64 * p4))], (h ++ R), 0, 0)) rfl ?_
  by_cases c17 : (((v3.toInt64 * p2) + (v7.toInt64 * p3)) + (v11.toInt64 * p4)) ≤ v15.toInt64
  · rw [if_pos c17] at hq
    refine lc_le_T (t := 60) odX5_isBeyond rfl rfl rfl c17 ?_
    refine mB_run odX5_isBeyond 1 (g := (61, [(0, .ref p0), (1, .int p1), (2, .long p2), (4, .long p3), (6, .long p4)], [.int (0 : Int32)], (h ++ R), 0, 0)) rfl ?_
    cases hq
    exact mB_ret odX5_isBeyond rfl
  · rw [if_neg c17] at hq
    refine lc_le_F (t := 60) odX5_isBeyond rfl rfl rfl c17 ?_
    refine mB_run odX5_isBeyond 2 (g := (61, [(0, .ref p0), (1, .int p1), (2, .long p2), (4, .long p3), (6, .long p4)], [.int (1 : Int32)], (h ++ R), 0, 0)) rfl ?_
    cases hq
    exact mB_ret odX5_isBeyond rfl
def fxX5_tearOff_105 (N : Nat) (x0 : Nat) (x1 : Int32) (h : mh) : Option mh :=
  (gI h x0 5 1).bind fun v50 =>
  (sV h x0 5 1 (.int (v50 - (1 : Int32)))).bind fun h52 =>
  (gR h52 x0 5 2).bind fun v54 =>
  (gI h52 x0 5 1).bind fun v56 =>
  (gR h52 x0 5 2).bind fun v58 =>
  (cpI h52 v54 ((3 : Int32) * v56) v58 ((3 : Int32) * x1) (3 : Int32)).bind fun h60 =>
  (gR h60 x0 5 3).bind fun v62 =>
  (gI h60 x0 5 1).bind fun v64 =>
  (gR h60 x0 5 3).bind fun v66 =>
  (cpI h60 v62 ((4 : Int32) * v64) v66 ((4 : Int32) * x1) (4 : Int32)).bind fun h68 =>
  (gR h68 x0 5 4).bind fun v70 =>
  (gR h68 x0 5 4).bind fun v72 =>
  (gI h68 x0 5 1).bind fun v74 =>
  (aZ h68 v72 v74).bind fun v76 =>
  (wZ h68 v70 x1 v76).bind fun h78 =>
  some h78
set_option maxHeartbeats 4000000 in
set_option maxRecDepth 100000 in
theorem eaX5_tearOff_105 {N : Nat} {R : mh} (x0 : Nat) (x1 : Int32) (h : mh) {o : mh} (hq : fxX5_tearOff_105 N x0 x1 h = some o) : mB (gO mX5_tearOff (o ++ R, none)) mX5_tearOff (105, [(0, .ref x0), (1, .int x1)], [], (h ++ R), 0, 0) := by
  unfold fxX5_tearOff_105 at hq
  refine mB_run odX5_tearOff 2 (g := (107, [(0, .ref x0), (1, .int x1)], [.ref x0, .ref x0], (h ++ R), 0, 0)) rfl ?_
  obtain ⟨v50, e51, hq⟩ := bsm hq
  refine r_gI odX5_tearOff rfl rfl (gI_ap e51) ?_
  refine mB_run odX5_tearOff 2 (g := (112, [(0, .ref x0), (1, .int x1)], [.int (v50 - (1 : Int32)), .ref x0], (h ++ R), 0, 0)) rfl ?_
  obtain ⟨h52, e53, hq⟩ := bsm hq
  refine r_sV odX5_tearOff rfl rfl rfl rfl (sV_ap e53) ?_
  refine mB_run odX5_tearOff 1 (g := (116, [(0, .ref x0), (1, .int x1)], [.ref x0], (h52 ++ R), 0, 0)) rfl ?_
  obtain ⟨v54, e55, hq⟩ := bsm hq
  refine r_gR odX5_tearOff rfl rfl (gR_ap e55) ?_
  refine mB_run odX5_tearOff 2 (g := (121, [(0, .ref x0), (1, .int x1)], [.ref x0, .int (3 : Int32), .ref v54], (h52 ++ R), 0, 0)) rfl ?_
  obtain ⟨v56, e57, hq⟩ := bsm hq
  refine r_gI odX5_tearOff rfl rfl (gI_ap e57) ?_
  refine mB_run odX5_tearOff 2 (g := (126, [(0, .ref x0), (1, .int x1)], [.ref x0, .int ((3 : Int32) * v56), .ref v54], (h52 ++ R), 0, 0)) rfl ?_
  obtain ⟨v58, e59, hq⟩ := bsm hq
  refine r_gR odX5_tearOff rfl rfl (gR_ap e59) ?_
  refine mB_run odX5_tearOff 4 (g := (133, [(0, .ref x0), (1, .int x1)], [.int (3 : Int32), .int ((3 : Int32) * x1), .ref v58, .int ((3 : Int32) * v56), .ref v54], (h52 ++ R), 0, 0)) rfl ?_
  obtain ⟨h60, e61, hq⟩ := bsm hq
  refine r_cp odX5_tearOff rfl rfl rfl rfl (cpI_ap e61) ?_
  refine mB_run odX5_tearOff 1 (g := (137, [(0, .ref x0), (1, .int x1)], [.ref x0], (h60 ++ R), 0, 0)) rfl ?_
  obtain ⟨v62, e63, hq⟩ := bsm hq
  refine r_gR odX5_tearOff rfl rfl (gR_ap e63) ?_
  refine mB_run odX5_tearOff 2 (g := (142, [(0, .ref x0), (1, .int x1)], [.ref x0, .int (4 : Int32), .ref v62], (h60 ++ R), 0, 0)) rfl ?_
  obtain ⟨v64, e65, hq⟩ := bsm hq
  refine r_gI odX5_tearOff rfl rfl (gI_ap e65) ?_
  refine mB_run odX5_tearOff 2 (g := (147, [(0, .ref x0), (1, .int x1)], [.ref x0, .int ((4 : Int32) * v64), .ref v62], (h60 ++ R), 0, 0)) rfl ?_
  obtain ⟨v66, e67, hq⟩ := bsm hq
  refine r_gR odX5_tearOff rfl rfl (gR_ap e67) ?_
  refine mB_run odX5_tearOff 4 (g := (154, [(0, .ref x0), (1, .int x1)], [.int (4 : Int32), .int ((4 : Int32) * x1), .ref v66, .int ((4 : Int32) * v64), .ref v62], (h60 ++ R), 0, 0)) rfl ?_
  obtain ⟨h68, e69, hq⟩ := bsm hq
  refine r_cp odX5_tearOff rfl rfl rfl rfl (cpI_ap e69) ?_
  refine mB_run odX5_tearOff 1 (g := (158, [(0, .ref x0), (1, .int x1)], [.ref x0], (h68 ++ R), 0, 0)) rfl ?_
  obtain ⟨v70, e71, hq⟩ := bsm hq
  refine r_gR odX5_tearOff rfl rfl (gR_ap e71) ?_
  refine mB_run odX5_tearOff 2 (g := (163, [(0, .ref x0), (1, .int x1)], [.ref x0, .int x1, .ref v70], (h68 ++ R), 0, 0)) rfl ?_
  obtain ⟨v72, e73, hq⟩ := bsm hq
  refine r_gR odX5_tearOff rfl rfl (gR_ap e73) ?_
  refine mB_run odX5_tearOff 1 (g := (167, [(0, .ref x0), (1, .int x1)], [.ref x0, .ref v72, .int x1, .ref v70], (h68 ++ R), 0, 0)) rfl ?_
  obtain ⟨v74, e75, hq⟩ := bsm hq
  refine r_gI odX5_tearOff rfl rfl (gI_ap e75) ?_
  obtain ⟨v76, e77, hq⟩ := bsm hq
  refine r_aZ odX5_tearOff rfl (aZ_ap e77) ?_
  obtain ⟨h78, e79, hq⟩ := bsm hq
  refine r_wZ odX5_tearOff rfl (wZ_ap e79) ?_
  cases hq
  exact mB_ret odX5_tearOff rfl
def fxX5_tearOff_2 (N : Nat) : Nat → Nat → Int32 → Int32 → mh → Option mh
  | 0, _, _, _, _ => none
  | n + 1, x0, x1, x2, h =>
    if (3 : Int32) ≤ x2 then (
      fxX5_tearOff_105 N x0 x1 h) else (
      (gI h x0 5 5).bind fun v2 =>
      (gR h x0 5 6).bind fun v4 =>
      (aL h v4).bind fun v6 =>
      if v6 ≤ v2 then (
        fxX5_tearOff_105 N x0 x1 h) else (
        (gR h x0 5 6).bind fun v9 =>
        (gI h x0 5 5).bind fun v11 =>
        (gR h x0 5 2).bind fun v13 =>
        (aI h v13 (((3 : Int32) * x1) + x2)).bind fun v15 =>
        (wI h v9 v11 v15).bind fun h17 =>
        (gR h17 x0 5 7).bind fun v19 =>
        (gI h17 x0 5 5).bind fun v21 =>
        (gR h17 x0 5 2).bind fun v23 =>
        if (3 : Int32) = 0 then none else
        (aI h17 v23 (((3 : Int32) * x1) + ((x2 + (1 : Int32)) - (x2 + (1 : Int32)) / (3 : Int32) * (3 : Int32)))).bind fun v26 =>
        (wI h17 v19 v21 v26).bind fun h28 =>
        (gR h28 x0 5 8).bind fun v30 =>
        (gR h28 x0 5 6).bind fun v32 =>
        (gI h28 x0 5 5).bind fun v34 =>
        (aI h28 v32 v34).bind fun v36 =>
        (gR h28 x0 5 7).bind fun v38 =>
        (gI h28 x0 5 5).bind fun v40 =>
        (aI h28 v38 v40).bind fun v42 =>
        (wZ h28 v30 ((v36 * (25 : Int32)) + v42) (1 : Int32)).bind fun h44 =>
        (gI h44 x0 5 5).bind fun v46 =>
        (sV h44 x0 5 5 (.int (v46 + (1 : Int32)))).bind fun h48 =>
        fxX5_tearOff_2 N n x0 x1 (x2 + (1 : Int32)) h48))
set_option maxHeartbeats 4000000 in
set_option maxRecDepth 100000 in
theorem eaX5_tearOff_2 {N : Nat} {R : mh} : ∀ (n : Nat) (x0 : Nat) (x1 : Int32) (x2 : Int32) (h : mh) {o : mh}, fxX5_tearOff_2 N n x0 x1 x2 h = some o → mB (gO mX5_tearOff (o ++ R, none)) mX5_tearOff (2, [(0, .ref x0), (1, .int x1), (2, .int x2)], [], (h ++ R), 0, 0) := by
  intro n
  induction n with
  | zero => intro x0 x1 x2 h o hq; cases hq
  | succ n ih =>
    intro x0 x1 x2 h o hq
    unfold fxX5_tearOff_2 at hq
    refine mB_run odX5_tearOff 2 (g := (4, [(0, .ref x0), (1, .int x1), (2, .int x2)], [.int (3 : Int32), .int x2], (h ++ R), 0, 0)) rfl ?_
    by_cases c1 : (3 : Int32) ≤ x2
    · rw [if_pos c1] at hq
      refine ic_ge_T (t := 105) odX5_tearOff rfl rfl c1 ?_
      refine mB_lv [0, 1] (lv' := [(0, .ref x0), (1, .int x1)]) rfl ?_
      exact eaX5_tearOff_105 _ _ _ hq
    · rw [if_neg c1] at hq
      refine ic_ge_F (t := 105) odX5_tearOff rfl rfl c1 ?_
      refine mB_run odX5_tearOff 1 (g := (8, [(0, .ref x0), (1, .int x1), (2, .int x2)], [.ref x0], (h ++ R), 0, 0)) rfl ?_
      obtain ⟨v2, e3, hq⟩ := bsm hq
      refine r_gI odX5_tearOff rfl rfl (gI_ap e3) ?_
      refine mB_run odX5_tearOff 1 (g := (12, [(0, .ref x0), (1, .int x1), (2, .int x2)], [.ref x0, .int v2], (h ++ R), 0, 0)) rfl ?_
      obtain ⟨v4, e5, hq⟩ := bsm hq
      refine r_gR odX5_tearOff rfl rfl (gR_ap e5) ?_
      obtain ⟨v6, e7, hq⟩ := bsm hq
      refine r_aL odX5_tearOff rfl (aL_ap e7) ?_
      by_cases c8 : v6 ≤ v2
      · rw [if_pos c8] at hq
        refine ic_ge_T (t := 105) odX5_tearOff rfl rfl c8 ?_
        refine mB_lv [0, 1] (lv' := [(0, .ref x0), (1, .int x1)]) rfl ?_
        exact eaX5_tearOff_105 _ _ _ hq
      · rw [if_neg c8] at hq
        refine ic_ge_F (t := 105) odX5_tearOff rfl rfl c8 ?_
        refine mB_run odX5_tearOff 1 (g := (20, [(0, .ref x0), (1, .int x1), (2, .int x2)], [.ref x0], (h ++ R), 0, 0)) rfl ?_
        obtain ⟨v9, e10, hq⟩ := bsm hq
        refine r_gR odX5_tearOff rfl rfl (gR_ap e10) ?_
        refine mB_run odX5_tearOff 1 (g := (24, [(0, .ref x0), (1, .int x1), (2, .int x2)], [.ref x0, .ref v9], (h ++ R), 0, 0)) rfl ?_
        obtain ⟨v11, e12, hq⟩ := bsm hq
        refine r_gI odX5_tearOff rfl rfl (gI_ap e12) ?_
        refine mB_run odX5_tearOff 1 (g := (28, [(0, .ref x0), (1, .int x1), (2, .int x2)], [.ref x0, .int v11, .ref v9], (h ++ R), 0, 0)) rfl ?_
        obtain ⟨v13, e14, hq⟩ := bsm hq
        refine r_gR odX5_tearOff rfl rfl (gR_ap e14) ?_
        refine mB_run odX5_tearOff 5 (g := (36, [(0, .ref x0), (1, .int x1), (2, .int x2)], [.int (((3 : Int32) * x1) + x2), .ref v13, .int v11, .ref v9], (h ++ R), 0, 0)) rfl ?_
        obtain ⟨v15, e16, hq⟩ := bsm hq
        refine r_aI odX5_tearOff rfl (aI_ap e16) ?_
        obtain ⟨h17, e18, hq⟩ := bsm hq
        refine r_wI odX5_tearOff rfl (wI_ap e18) ?_
        refine mB_run odX5_tearOff 1 (g := (39, [(0, .ref x0), (1, .int x1), (2, .int x2)], [.ref x0], (h17 ++ R), 0, 0)) rfl ?_
        obtain ⟨v19, e20, hq⟩ := bsm hq
        refine r_gR odX5_tearOff rfl rfl (gR_ap e20) ?_
        refine mB_run odX5_tearOff 1 (g := (43, [(0, .ref x0), (1, .int x1), (2, .int x2)], [.ref x0, .ref v19], (h17 ++ R), 0, 0)) rfl ?_
        obtain ⟨v21, e22, hq⟩ := bsm hq
        refine r_gI odX5_tearOff rfl rfl (gI_ap e22) ?_
        refine mB_run odX5_tearOff 1 (g := (47, [(0, .ref x0), (1, .int x1), (2, .int x2)], [.ref x0, .int v21, .ref v19], (h17 ++ R), 0, 0)) rfl ?_
        obtain ⟨v23, e24, hq⟩ := bsm hq
        refine r_gR odX5_tearOff rfl rfl (gR_ap e24) ?_
        refine mB_run odX5_tearOff 7 (g := (57, [(0, .ref x0), (1, .int x1), (2, .int x2)], [.int (3 : Int32), .int (x2 + (1 : Int32)), .int ((3 : Int32) * x1), .ref v23, .int v21, .ref v19], (h17 ++ R), 0, 0)) rfl ?_
        by_cases c25 : (3 : Int32) = 0
        · rw [if_pos c25] at hq; cases hq
        rw [if_neg c25] at hq
        refine r_irem odX5_tearOff rfl c25 ?_
        refine mB_run odX5_tearOff 1 (g := (59, [(0, .ref x0), (1, .int x1), (2, .int x2)], [.int (((3 : Int32) * x1) + ((x2 + (1 : Int32)) - (x2 + (1 : Int32)) / (3 : Int32) * (3 : Int32))), .ref v23, .int v21, .ref v19], (h17 ++ R), 0, 0)) rfl ?_
        obtain ⟨v26, e27, hq⟩ := bsm hq
        refine r_aI odX5_tearOff rfl (aI_ap e27) ?_
        obtain ⟨h28, e29, hq⟩ := bsm hq
        refine r_wI odX5_tearOff rfl (wI_ap e29) ?_
        refine mB_run odX5_tearOff 1 (g := (62, [(0, .ref x0), (1, .int x1), (2, .int x2)], [.ref x0], (h28 ++ R), 0, 0)) rfl ?_
        obtain ⟨v30, e31, hq⟩ := bsm hq
        refine r_gR odX5_tearOff rfl rfl (gR_ap e31) ?_
        refine mB_run odX5_tearOff 1 (g := (66, [(0, .ref x0), (1, .int x1), (2, .int x2)], [.ref x0, .ref v30], (h28 ++ R), 0, 0)) rfl ?_
        obtain ⟨v32, e33, hq⟩ := bsm hq
        refine r_gR odX5_tearOff rfl rfl (gR_ap e33) ?_
        refine mB_run odX5_tearOff 1 (g := (70, [(0, .ref x0), (1, .int x1), (2, .int x2)], [.ref x0, .ref v32, .ref v30], (h28 ++ R), 0, 0)) rfl ?_
        obtain ⟨v34, e35, hq⟩ := bsm hq
        refine r_gI odX5_tearOff rfl rfl (gI_ap e35) ?_
        obtain ⟨v36, e37, hq⟩ := bsm hq
        refine r_aI odX5_tearOff rfl (aI_ap e37) ?_
        refine mB_run odX5_tearOff 3 (g := (78, [(0, .ref x0), (1, .int x1), (2, .int x2)], [.ref x0, .int (v36 * (25 : Int32)), .ref v30], (h28 ++ R), 0, 0)) rfl ?_
        obtain ⟨v38, e39, hq⟩ := bsm hq
        refine r_gR odX5_tearOff rfl rfl (gR_ap e39) ?_
        refine mB_run odX5_tearOff 1 (g := (82, [(0, .ref x0), (1, .int x1), (2, .int x2)], [.ref x0, .ref v38, .int (v36 * (25 : Int32)), .ref v30], (h28 ++ R), 0, 0)) rfl ?_
        obtain ⟨v40, e41, hq⟩ := bsm hq
        refine r_gI odX5_tearOff rfl rfl (gI_ap e41) ?_
        obtain ⟨v42, e43, hq⟩ := bsm hq
        refine r_aI odX5_tearOff rfl (aI_ap e43) ?_
        refine mB_run odX5_tearOff 2 (g := (88, [(0, .ref x0), (1, .int x1), (2, .int x2)], [.int (1 : Int32), .int ((v36 * (25 : Int32)) + v42), .ref v30], (h28 ++ R), 0, 0)) rfl ?_
        obtain ⟨h44, e45, hq⟩ := bsm hq
        refine r_wZ odX5_tearOff rfl (wZ_ap e45) ?_
        refine mB_run odX5_tearOff 2 (g := (91, [(0, .ref x0), (1, .int x1), (2, .int x2)], [.ref x0, .ref x0], (h44 ++ R), 0, 0)) rfl ?_
        obtain ⟨v46, e47, hq⟩ := bsm hq
        refine r_gI odX5_tearOff rfl rfl (gI_ap e47) ?_
        refine mB_run odX5_tearOff 2 (g := (96, [(0, .ref x0), (1, .int x1), (2, .int x2)], [.int (v46 + (1 : Int32)), .ref x0], (h44 ++ R), 0, 0)) rfl ?_
        obtain ⟨h48, e49, hq⟩ := bsm hq
        refine r_sV odX5_tearOff rfl rfl rfl rfl (sV_ap e49) ?_
        refine mB_run odX5_tearOff 2 (g := (2, [(2, .int (x2 + (1 : Int32))), (0, .ref x0), (1, .int x1)], [], (h48 ++ R), 0, 0)) rfl ?_
        refine mB_lv [1, 2, 0] (lv' := [(0, .ref x0), (1, .int x1), (2, .int (x2 + (1 : Int32)))]) rfl ?_
        exact ih _ _ _ _ hq
def fxX5_tearOff (N : Nat) (p0 : Nat) (p1 : Int32) (h : mh) : Option mh :=
  fxX5_tearOff_2 N N p0 p1 (0 : Int32) h
set_option maxHeartbeats 4000000 in
set_option maxRecDepth 100000 in
theorem eaX5_tearOff {N : Nat} {R : mh} {p0 : Nat} {p1 : Int32} {h : mh} {o : mh} (hq : fxX5_tearOff N p0 p1 h = some o) : mC mX5_tearOff [.ref p0, .int p1] (h ++ R) (o ++ R, none) := by
  refine mC_of okX5_tearOff (Nat.le_of_ble_eq_true rfl) ?_
  unfold fxX5_tearOff at hq
  show mB _ mX5_tearOff (0, [(0, .ref p0), (1, .int p1)], [], (h ++ R), 0, 0)
  refine mB_run odX5_tearOff 2 (g := (2, [(2, .int (0 : Int32)), (0, .ref p0), (1, .int p1)], [], (h ++ R), 0, 0)) rfl ?_
  refine mB_lv [1, 2, 0] (lv' := [(0, .ref p0), (1, .int p1), (2, .int (0 : Int32))]) rfl ?_
  exact eaX5_tearOff_2 N _ _ _ _ hq
def fxX5_attachLatest_69 (N : Nat) (rec22 : Nat → Int32 → Int32 → mh → Option mh) (x0 : Nat) (x1 : Int32) (x2 : Int32) (h : mh) : Option mh :=
  rec22 x0 x1 (x2 + (-1 : Int32)) h
set_option maxHeartbeats 4000000 in
set_option maxRecDepth 100000 in
theorem eaX5_attachLatest_69 {N : Nat} {R : mh} {rec22 : Nat → Int32 → Int32 → mh → Option mh} (hrec22 : ∀ (x0 : Nat) (x1 : Int32) (x2 : Int32) (h : mh) {o : mh}, rec22 x0 x1 x2 h = some o → mB (gO mX5_attachLatest (o ++ R, none)) mX5_attachLatest (22, [(0, .ref x0), (1, .int x1), (2, .int x2)], [], (h ++ R), 0, 0)) (x0 : Nat) (x1 : Int32) (x2 : Int32) (h : mh) {o : mh} (hq : fxX5_attachLatest_69 N rec22 x0 x1 x2 h = some o) : mB (gO mX5_attachLatest (o ++ R, none)) mX5_attachLatest (69, [(0, .ref x0), (1, .int x1), (2, .int x2)], [], (h ++ R), 0, 0) := by
  unfold fxX5_attachLatest_69 at hq
  refine mB_run odX5_attachLatest 2 (g := (22, [(2, .int (x2 + (-1 : Int32))), (0, .ref x0), (1, .int x1)], [], (h ++ R), 0, 0)) rfl ?_
  refine mB_lv [1, 2, 0] (lv' := [(0, .ref x0), (1, .int x1), (2, .int (x2 + (-1 : Int32)))]) rfl ?_
  exact hrec22 _ _ _ _ hq
def fxX5_attachLatest_126 (N : Nat) (rec77 : Nat → Int32 → Int32 → mh → Option mh) (x0 : Nat) (x1 : Int32) (x2 : Int32) (h : mh) : Option mh :=
  rec77 x0 x1 (x2 + (1 : Int32)) h
set_option maxHeartbeats 4000000 in
set_option maxRecDepth 100000 in
theorem eaX5_attachLatest_126 {N : Nat} {R : mh} {rec77 : Nat → Int32 → Int32 → mh → Option mh} (hrec77 : ∀ (x0 : Nat) (x1 : Int32) (x2 : Int32) (h : mh) {o : mh}, rec77 x0 x1 x2 h = some o → mB (gO mX5_attachLatest (o ++ R, none)) mX5_attachLatest (77, [(0, .ref x0), (1, .int x1), (2, .int x2)], [], (h ++ R), 0, 0)) (x0 : Nat) (x1 : Int32) (x2 : Int32) (h : mh) {o : mh} (hq : fxX5_attachLatest_126 N rec77 x0 x1 x2 h = some o) : mB (gO mX5_attachLatest (o ++ R, none)) mX5_attachLatest (126, [(0, .ref x0), (1, .int x1), (2, .int x2)], [], (h ++ R), 0, 0) := by
  unfold fxX5_attachLatest_126 at hq
  refine mB_run odX5_attachLatest 2 (g := (77, [(2, .int (x2 + (1 : Int32))), (0, .ref x0), (1, .int x1)], [], (h ++ R), 0, 0)) rfl ?_
  refine mB_lv [1, 2, 0] (lv' := [(0, .ref x0), (1, .int x1), (2, .int (x2 + (1 : Int32)))]) rfl ?_
  exact hrec77 _ _ _ _ hq
def fxX5_attachLatest_134 (N : Nat) : Nat → Nat → Int32 → mh → Option mh
  | 0, _, _, _ => none
  | n + 1, x0, x2, h =>
    (gI h x0 5 5).bind fun v65 =>
    if v65 ≤ x2 then (
      some h) else (
      (gR h x0 5 8).bind fun v68 =>
      (gR h x0 5 6).bind fun v70 =>
      (aI h v70 x2).bind fun v72 =>
      (gR h x0 5 7).bind fun v74 =>
      (aI h v74 x2).bind fun v76 =>
      (wZ h v68 ((v72 * (25 : Int32)) + v76) (0 : Int32)).bind fun h78 =>
      fxX5_attachLatest_134 N n x0 (x2 + (1 : Int32)) h78)
set_option maxHeartbeats 4000000 in
set_option maxRecDepth 100000 in
theorem eaX5_attachLatest_134 {N : Nat} {R : mh} : ∀ (n : Nat) (x0 : Nat) (x2 : Int32) (h : mh) {o : mh}, fxX5_attachLatest_134 N n x0 x2 h = some o → mB (gO mX5_attachLatest (o ++ R, none)) mX5_attachLatest (134, [(0, .ref x0), (2, .int x2)], [], (h ++ R), 0, 0) := by
  intro n
  induction n with
  | zero => intro x0 x2 h o hq; cases hq
  | succ n ih =>
    intro x0 x2 h o hq
    unfold fxX5_attachLatest_134 at hq
    refine mB_run odX5_attachLatest 2 (g := (136, [(0, .ref x0), (2, .int x2)], [.ref x0, .int x2], (h ++ R), 0, 0)) rfl ?_
    obtain ⟨v65, e66, hq⟩ := bsm hq
    refine r_gI odX5_attachLatest rfl rfl (gI_ap e66) ?_
    by_cases c67 : v65 ≤ x2
    · rw [if_pos c67] at hq
      refine ic_ge_T (t := 170) odX5_attachLatest rfl rfl c67 ?_
      cases hq
      exact mB_ret odX5_attachLatest rfl
    · rw [if_neg c67] at hq
      refine ic_ge_F (t := 170) odX5_attachLatest rfl rfl c67 ?_
      refine mB_run odX5_attachLatest 1 (g := (143, [(0, .ref x0), (2, .int x2)], [.ref x0], (h ++ R), 0, 0)) rfl ?_
      obtain ⟨v68, e69, hq⟩ := bsm hq
      refine r_gR odX5_attachLatest rfl rfl (gR_ap e69) ?_
      refine mB_run odX5_attachLatest 1 (g := (147, [(0, .ref x0), (2, .int x2)], [.ref x0, .ref v68], (h ++ R), 0, 0)) rfl ?_
      obtain ⟨v70, e71, hq⟩ := bsm hq
      refine r_gR odX5_attachLatest rfl rfl (gR_ap e71) ?_
      refine mB_run odX5_attachLatest 1 (g := (151, [(0, .ref x0), (2, .int x2)], [.int x2, .ref v70, .ref v68], (h ++ R), 0, 0)) rfl ?_
      obtain ⟨v72, e73, hq⟩ := bsm hq
      refine r_aI odX5_attachLatest rfl (aI_ap e73) ?_
      refine mB_run odX5_attachLatest 3 (g := (156, [(0, .ref x0), (2, .int x2)], [.ref x0, .int (v72 * (25 : Int32)), .ref v68], (h ++ R), 0, 0)) rfl ?_
      obtain ⟨v74, e75, hq⟩ := bsm hq
      refine r_gR odX5_attachLatest rfl rfl (gR_ap e75) ?_
      refine mB_run odX5_attachLatest 1 (g := (160, [(0, .ref x0), (2, .int x2)], [.int x2, .ref v74, .int (v72 * (25 : Int32)), .ref v68], (h ++ R), 0, 0)) rfl ?_
      obtain ⟨v76, e77, hq⟩ := bsm hq
      refine r_aI odX5_attachLatest rfl (aI_ap e77) ?_
      refine mB_run odX5_attachLatest 2 (g := (163, [(0, .ref x0), (2, .int x2)], [.int (0 : Int32), .int ((v72 * (25 : Int32)) + v76), .ref v68], (h ++ R), 0, 0)) rfl ?_
      obtain ⟨h78, e79, hq⟩ := bsm hq
      refine r_wZ odX5_attachLatest rfl (wZ_ap e79) ?_
      refine mB_run odX5_attachLatest 2 (g := (134, [(2, .int (x2 + (1 : Int32))), (0, .ref x0)], [], (h78 ++ R), 0, 0)) rfl ?_
      refine mB_lv [1, 0] (lv' := [(0, .ref x0), (2, .int (x2 + (1 : Int32)))]) rfl ?_
      exact ih _ _ _ hq
def fxX5_attachLatest_77 (N : Nat) : Nat → Nat → Int32 → Int32 → mh → Option mh
  | 0, _, _, _, _ => none
  | n + 1, x0, x1, x2, h =>
    (gI h x0 5 5).bind fun v37 =>
    if v37 ≤ x2 then (
      fxX5_attachLatest_134 N N x0 (0 : Int32) h) else (
      (gR h x0 5 8).bind fun v40 =>
      (gR h x0 5 7).bind fun v42 =>
      (aI h v42 x2).bind fun v44 =>
      (gR h x0 5 6).bind fun v46 =>
      (aI h v46 x2).bind fun v48 =>
      (aZ h v40 ((v44 * (25 : Int32)) + v48)).bind fun v50 =>
      if v50 = 0 then (
        (gR h x0 5 6).bind fun v53 =>
        (aI h v53 x2).bind fun v55 =>
        (gR h x0 5 7).bind fun v57 =>
        (aI h v57 x2).bind fun v59 =>
        (kO h x0 5).bind fun f63 =>
        (fxX5_addTriangle N x0 v55 v59 x1 h).bind fun o61 =>
        fxX5_attachLatest_126 N (fxX5_attachLatest_77 N n) x0 x1 x2 o61) else (
        fxX5_attachLatest_126 N (fxX5_attachLatest_77 N n) x0 x1 x2 h))
set_option maxHeartbeats 4000000 in
set_option maxRecDepth 100000 in
theorem eaX5_attachLatest_77 {N : Nat} {R : mh} : ∀ (n : Nat) (x0 : Nat) (x1 : Int32) (x2 : Int32) (h : mh) {o : mh}, fxX5_attachLatest_77 N n x0 x1 x2 h = some o → mB (gO mX5_attachLatest (o ++ R, none)) mX5_attachLatest (77, [(0, .ref x0), (1, .int x1), (2, .int x2)], [], (h ++ R), 0, 0) := by
  intro n
  induction n with
  | zero => intro x0 x1 x2 h o hq; cases hq
  | succ n ih =>
    intro x0 x1 x2 h o hq
    unfold fxX5_attachLatest_77 at hq
    refine mB_run odX5_attachLatest 2 (g := (79, [(0, .ref x0), (1, .int x1), (2, .int x2)], [.ref x0, .int x2], (h ++ R), 0, 0)) rfl ?_
    obtain ⟨v37, e38, hq⟩ := bsm hq
    refine r_gI odX5_attachLatest rfl rfl (gI_ap e38) ?_
    by_cases c39 : v37 ≤ x2
    · rw [if_pos c39] at hq
      refine ic_ge_T (t := 132) odX5_attachLatest rfl rfl c39 ?_
      refine mB_run odX5_attachLatest 2 (g := (134, [(2, .int (0 : Int32)), (0, .ref x0), (1, .int x1)], [], (h ++ R), 0, 0)) rfl ?_
      refine mB_lv [1, 0] (lv' := [(0, .ref x0), (2, .int (0 : Int32))]) rfl ?_
      exact eaX5_attachLatest_134 N _ _ _ hq
    · rw [if_neg c39] at hq
      refine ic_ge_F (t := 132) odX5_attachLatest rfl rfl c39 ?_
      refine mB_run odX5_attachLatest 1 (g := (86, [(0, .ref x0), (1, .int x1), (2, .int x2)], [.ref x0], (h ++ R), 0, 0)) rfl ?_
      obtain ⟨v40, e41, hq⟩ := bsm hq
      refine r_gR odX5_attachLatest rfl rfl (gR_ap e41) ?_
      refine mB_run odX5_attachLatest 1 (g := (90, [(0, .ref x0), (1, .int x1), (2, .int x2)], [.ref x0, .ref v40], (h ++ R), 0, 0)) rfl ?_
      obtain ⟨v42, e43, hq⟩ := bsm hq
      refine r_gR odX5_attachLatest rfl rfl (gR_ap e43) ?_
      refine mB_run odX5_attachLatest 1 (g := (94, [(0, .ref x0), (1, .int x1), (2, .int x2)], [.int x2, .ref v42, .ref v40], (h ++ R), 0, 0)) rfl ?_
      obtain ⟨v44, e45, hq⟩ := bsm hq
      refine r_aI odX5_attachLatest rfl (aI_ap e45) ?_
      refine mB_run odX5_attachLatest 3 (g := (99, [(0, .ref x0), (1, .int x1), (2, .int x2)], [.ref x0, .int (v44 * (25 : Int32)), .ref v40], (h ++ R), 0, 0)) rfl ?_
      obtain ⟨v46, e47, hq⟩ := bsm hq
      refine r_gR odX5_attachLatest rfl rfl (gR_ap e47) ?_
      refine mB_run odX5_attachLatest 1 (g := (103, [(0, .ref x0), (1, .int x1), (2, .int x2)], [.int x2, .ref v46, .int (v44 * (25 : Int32)), .ref v40], (h ++ R), 0, 0)) rfl ?_
      obtain ⟨v48, e49, hq⟩ := bsm hq
      refine r_aI odX5_attachLatest rfl (aI_ap e49) ?_
      refine mB_run odX5_attachLatest 1 (g := (105, [(0, .ref x0), (1, .int x1), (2, .int x2)], [.int ((v44 * (25 : Int32)) + v48), .ref v40], (h ++ R), 0, 0)) rfl ?_
      obtain ⟨v50, e51, hq⟩ := bsm hq
      refine r_aZ odX5_attachLatest rfl (aZ_ap e51) ?_
      by_cases c52 : v50 = 0
      · rw [if_pos c52] at hq
        refine if_ne_F (t := 126) odX5_attachLatest rfl rfl c52 ?_
        refine mB_run odX5_attachLatest 2 (g := (111, [(0, .ref x0), (1, .int x1), (2, .int x2)], [.ref x0, .ref x0], (h ++ R), 0, 0)) rfl ?_
        obtain ⟨v53, e54, hq⟩ := bsm hq
        refine r_gR odX5_attachLatest rfl rfl (gR_ap e54) ?_
        refine mB_run odX5_attachLatest 1 (g := (115, [(0, .ref x0), (1, .int x1), (2, .int x2)], [.int x2, .ref v53, .ref x0], (h ++ R), 0, 0)) rfl ?_
        obtain ⟨v55, e56, hq⟩ := bsm hq
        refine r_aI odX5_attachLatest rfl (aI_ap e56) ?_
        refine mB_run odX5_attachLatest 1 (g := (117, [(0, .ref x0), (1, .int x1), (2, .int x2)], [.ref x0, .int v55, .ref x0], (h ++ R), 0, 0)) rfl ?_
        obtain ⟨v57, e58, hq⟩ := bsm hq
        refine r_gR odX5_attachLatest rfl rfl (gR_ap e58) ?_
        refine mB_run odX5_attachLatest 1 (g := (121, [(0, .ref x0), (1, .int x1), (2, .int x2)], [.int x2, .ref v57, .int v55, .ref x0], (h ++ R), 0, 0)) rfl ?_
        obtain ⟨v59, e60, hq⟩ := bsm hq
        refine r_aI odX5_attachLatest rfl (aI_ap e60) ?_
        refine mB_run odX5_attachLatest 1 (g := (123, [(0, .ref x0), (1, .int x1), (2, .int x2)], [.int x1, .int v59, .int v55, .ref x0], (h ++ R), 0, 0)) rfl ?_
        obtain ⟨f63, k64, hq⟩ := bsm hq
        obtain ⟨o61, e62, hq⟩ := bsm hq
        refine mB_V (as := [.int v55, .int v59, .int x1]) odX5_attachLatest okX5_addTriangle lk_5_74 rfl (eaX5_addTriangle e62) (kO_at (kO_ap k64)) rfl rfl rfl ?_
        show mB _ mX5_attachLatest (126, [(0, .ref x0), (1, .int x1), (2, .int x2)], [], (o61 ++ R), 0, 0)
        refine mB_lv [0, 1, 2] (lv' := [(0, .ref x0), (1, .int x1), (2, .int x2)]) rfl ?_
        exact eaX5_attachLatest_126 ih _ _ _ _ hq
      · rw [if_neg c52] at hq
        refine if_ne_T (t := 126) odX5_attachLatest rfl rfl c52 ?_
        refine mB_lv [0, 1, 2] (lv' := [(0, .ref x0), (1, .int x1), (2, .int x2)]) rfl ?_
        exact eaX5_attachLatest_126 ih _ _ _ _ hq
def fxX5_attachLatest_22 (N : Nat) : Nat → Nat → Int32 → Int32 → mh → Option mh
  | 0, _, _, _, _ => none
  | n + 1, x0, x1, x2, h =>
    if x2 < 0 then (
      fxX5_attachLatest_77 N N x0 x1 (0 : Int32) h) else (
      (gR h x0 5 0).bind fun v10 =>
      (gR h v10 3 1).bind fun v12 =>
      (aI h v12 x1).bind fun v14 =>
      (gR h x0 5 0).bind fun v16 =>
      (gR h v16 3 2).bind fun v18 =>
      (aI h v18 x1).bind fun v20 =>
      (gR h x0 5 0).bind fun v22 =>
      (gR h v22 3 3).bind fun v24 =>
      (aI h v24 x1).bind fun v26 =>
      (kO h x0 5).bind fun f30 =>
      (fxX5_isBeyond N x0 x2 v14.toInt64 v20.toInt64 v26.toInt64 h).bind fun o28 =>
      if o28.2 = 0 then (
        fxX5_attachLatest_69 N (fxX5_attachLatest_22 N n) x0 x1 x2 o28.1) else (
        (kO o28.1 x0 5).bind fun f35 =>
        (fxX5_tearOff N x0 x2 o28.1).bind fun o33 =>
        fxX5_attachLatest_69 N (fxX5_attachLatest_22 N n) x0 x1 x2 o33))
set_option maxHeartbeats 4000000 in
set_option maxRecDepth 100000 in
theorem eaX5_attachLatest_22 {N : Nat} {R : mh} : ∀ (n : Nat) (x0 : Nat) (x1 : Int32) (x2 : Int32) (h : mh) {o : mh}, fxX5_attachLatest_22 N n x0 x1 x2 h = some o → mB (gO mX5_attachLatest (o ++ R, none)) mX5_attachLatest (22, [(0, .ref x0), (1, .int x1), (2, .int x2)], [], (h ++ R), 0, 0) := by
  intro n
  induction n with
  | zero => intro x0 x1 x2 h o hq; cases hq
  | succ n ih =>
    intro x0 x1 x2 h o hq
    unfold fxX5_attachLatest_22 at hq
    refine mB_run odX5_attachLatest 1 (g := (23, [(0, .ref x0), (1, .int x1), (2, .int x2)], [.int x2], (h ++ R), 0, 0)) rfl ?_
    by_cases c9 : x2 < 0
    · rw [if_pos c9] at hq
      refine if_lt_T (t := 75) odX5_attachLatest rfl rfl c9 ?_
      refine mB_run odX5_attachLatest 2 (g := (77, [(2, .int (0 : Int32)), (0, .ref x0), (1, .int x1)], [], (h ++ R), 0, 0)) rfl ?_
      refine mB_lv [1, 2, 0] (lv' := [(0, .ref x0), (1, .int x1), (2, .int (0 : Int32))]) rfl ?_
      exact eaX5_attachLatest_77 N _ _ _ _ hq
    · rw [if_neg c9] at hq
      refine if_lt_F (t := 75) odX5_attachLatest rfl rfl c9 ?_
      refine mB_run odX5_attachLatest 3 (g := (29, [(0, .ref x0), (1, .int x1), (2, .int x2)], [.ref x0, .int x2, .ref x0], (h ++ R), 0, 0)) rfl ?_
      obtain ⟨v10, e11, hq⟩ := bsm hq
      refine r_gR odX5_attachLatest rfl rfl (gR_ap e11) ?_
      obtain ⟨v12, e13, hq⟩ := bsm hq
      refine r_gR odX5_attachLatest rfl rfl (gR_ap e13) ?_
      refine mB_run odX5_attachLatest 1 (g := (36, [(0, .ref x0), (1, .int x1), (2, .int x2)], [.int x1, .ref v12, .int x2, .ref x0], (h ++ R), 0, 0)) rfl ?_
      obtain ⟨v14, e15, hq⟩ := bsm hq
      refine r_aI odX5_attachLatest rfl (aI_ap e15) ?_
      refine mB_run odX5_attachLatest 2 (g := (39, [(0, .ref x0), (1, .int x1), (2, .int x2)], [.ref x0, .long v14.toInt64, .int x2, .ref x0], (h ++ R), 0, 0)) rfl ?_
      obtain ⟨v16, e17, hq⟩ := bsm hq
      refine r_gR odX5_attachLatest rfl rfl (gR_ap e17) ?_
      obtain ⟨v18, e19, hq⟩ := bsm hq
      refine r_gR odX5_attachLatest rfl rfl (gR_ap e19) ?_
      refine mB_run odX5_attachLatest 1 (g := (46, [(0, .ref x0), (1, .int x1), (2, .int x2)], [.int x1, .ref v18, .long v14.toInt64, .int x2, .ref x0], (h ++ R), 0, 0)) rfl ?_
      obtain ⟨v20, e21, hq⟩ := bsm hq
      refine r_aI odX5_attachLatest rfl (aI_ap e21) ?_
      refine mB_run odX5_attachLatest 2 (g := (49, [(0, .ref x0), (1, .int x1), (2, .int x2)], [.ref x0, .long v20.toInt64, .long v14.toInt64, .int x2, .ref x0], (h ++ R), 0, 0)) rfl ?_
      obtain ⟨v22, e23, hq⟩ := bsm hq
      refine r_gR odX5_attachLatest rfl rfl (gR_ap e23) ?_
      obtain ⟨v24, e25, hq⟩ := bsm hq
      refine r_gR odX5_attachLatest rfl rfl (gR_ap e25) ?_
      refine mB_run odX5_attachLatest 1 (g := (56, [(0, .ref x0), (1, .int x1), (2, .int x2)], [.int x1, .ref v24, .long v20.toInt64, .long v14.toInt64, .int x2, .ref x0], (h ++ R), 0, 0)) rfl ?_
      obtain ⟨v26, e27, hq⟩ := bsm hq
      refine r_aI odX5_attachLatest rfl (aI_ap e27) ?_
      refine mB_run odX5_attachLatest 1 (g := (58, [(0, .ref x0), (1, .int x1), (2, .int x2)], [.long v26.toInt64, .long v20.toInt64, .long v14.toInt64, .int x2, .ref x0], (h ++ R), 0, 0)) rfl ?_
      obtain ⟨f30, k31, hq⟩ := bsm hq
      obtain ⟨o28, e29, hq⟩ := bsm hq
      refine mB_V (as := [.int x2, .long v14.toInt64, .long v20.toInt64, .long v26.toInt64]) odX5_attachLatest okX5_isBeyond lk_5_80 rfl (eaX5_isBeyond e29) (kO_at (kO_ap k31)) rfl rfl rfl ?_
      show mB _ mX5_attachLatest (61, [(0, .ref x0), (1, .int x1), (2, .int x2)], [.int o28.2], (o28.1 ++ R), 0, 0)
      by_cases c32 : o28.2 = 0
      · rw [if_pos c32] at hq
        refine if_eq_T (t := 69) odX5_attachLatest rfl rfl c32 ?_
        refine mB_lv [0, 1, 2] (lv' := [(0, .ref x0), (1, .int x1), (2, .int x2)]) rfl ?_
        exact eaX5_attachLatest_69 ih _ _ _ _ hq
      · rw [if_neg c32] at hq
        refine if_eq_F (t := 69) odX5_attachLatest rfl rfl c32 ?_
        refine mB_run odX5_attachLatest 2 (g := (66, [(0, .ref x0), (1, .int x1), (2, .int x2)], [.int x2, .ref x0], (o28.1 ++ R), 0, 0)) rfl ?_
        obtain ⟨f35, k36, hq⟩ := bsm hq
        obtain ⟨o33, e34, hq⟩ := bsm hq
        refine mB_V (as := [.int x2]) odX5_attachLatest okX5_tearOff lk_5_84 rfl (eaX5_tearOff e34) (kO_at (kO_ap k36)) rfl rfl rfl ?_
        show mB _ mX5_attachLatest (69, [(0, .ref x0), (1, .int x1), (2, .int x2)], [], (o33 ++ R), 0, 0)
        refine mB_lv [0, 1, 2] (lv' := [(0, .ref x0), (1, .int x1), (2, .int x2)]) rfl ?_
        exact eaX5_attachLatest_69 ih _ _ _ _ hq
def fxX5_attachLatest (N : Nat) (p0 : Nat) (h : mh) : Option mh :=
  (gR h p0 5 0).bind fun v1 =>
  (gI h v1 3 0).bind fun v3 =>
  (sV h p0 5 5 (.int (0 : Int32))).bind fun h5 =>
  (gI h5 p0 5 1).bind fun v7 =>
  fxX5_attachLatest_22 N N p0 (v3 - (1 : Int32)) (v7 - (1 : Int32)) h5
set_option maxHeartbeats 4000000 in
set_option maxRecDepth 100000 in
theorem eaX5_attachLatest {N : Nat} {R : mh} {p0 : Nat} {h : mh} {o : mh} (hq : fxX5_attachLatest N p0 h = some o) : mC mX5_attachLatest [.ref p0] (h ++ R) (o ++ R, none) := by
  refine mC_of okX5_attachLatest (Nat.le_of_ble_eq_true rfl) ?_
  unfold fxX5_attachLatest at hq
  show mB _ mX5_attachLatest (0, [(0, .ref p0)], [], (h ++ R), 0, 0)
  refine mB_run odX5_attachLatest 1 (g := (1, [(0, .ref p0)], [.ref p0], (h ++ R), 0, 0)) rfl ?_
  obtain ⟨v1, e2, hq⟩ := bsm hq
  refine r_gR odX5_attachLatest rfl rfl (gR_ap e2) ?_
  obtain ⟨v3, e4, hq⟩ := bsm hq
  refine r_gI odX5_attachLatest rfl rfl (gI_ap e4) ?_
  refine mB_run odX5_attachLatest 5 (g := (12, [(1, .int (v3 - (1 : Int32))), (0, .ref p0)], [.int (0 : Int32), .ref p0], (h ++ R), 0, 0)) rfl ?_
  obtain ⟨h5, e6, hq⟩ := bsm hq
  refine r_sV odX5_attachLatest rfl rfl rfl rfl (sV_ap e6) ?_
  refine mB_run odX5_attachLatest 1 (g := (16, [(1, .int (v3 - (1 : Int32))), (0, .ref p0)], [.ref p0], (h5 ++ R), 0, 0)) rfl ?_
  obtain ⟨v7, e8, hq⟩ := bsm hq
  refine r_gI odX5_attachLatest rfl rfl (gI_ap e8) ?_
  refine mB_run odX5_attachLatest 3 (g := (22, [(2, .int (v7 - (1 : Int32))), (1, .int (v3 - (1 : Int32))), (0, .ref p0)], [], (h5 ++ R), 0, 0)) rfl ?_
  refine mB_lv [2, 1, 0] (lv' := [(0, .ref p0), (1, .int (v3 - (1 : Int32))), (2, .int (v7 - (1 : Int32)))]) rfl ?_
  exact eaX5_attachLatest_22 N _ _ _ _ hq
def fxX2_wrap_160 (N : Nat) (rec22 : Nat → Nat → Nat → Int32 → mh → Option mh) (x0 : Nat) (x1 : Nat) (x2 : Nat) (x4 : Int32) (h : mh) : Option mh :=
  rec22 x0 x1 x2 (x4 + (1 : Int32)) h
set_option maxHeartbeats 4000000 in
set_option maxRecDepth 100000 in
theorem eaX2_wrap_160 {N : Nat} {R : mh} {rec22 : Nat → Nat → Nat → Int32 → mh → Option mh} (hrec22 : ∀ (x0 : Nat) (x1 : Nat) (x2 : Nat) (x4 : Int32) (h : mh) {o : mh}, rec22 x0 x1 x2 x4 h = some o → mB (gO mX2_wrap (o ++ R, none)) mX2_wrap (22, [(0, .ref x0), (1, .ref x1), (2, .ref x2), (4, .int x4)], [], (h ++ R), 0, 0)) (x0 : Nat) (x1 : Nat) (x2 : Nat) (x4 : Int32) (h : mh) {o : mh} (hq : fxX2_wrap_160 N rec22 x0 x1 x2 x4 h = some o) : mB (gO mX2_wrap (o ++ R, none)) mX2_wrap (160, [(0, .ref x0), (1, .ref x1), (2, .ref x2), (4, .int x4)], [], (h ++ R), 0, 0) := by
  unfold fxX2_wrap_160 at hq
  refine mB_run odX2_wrap 2 (g := (22, [(4, .int (x4 + (1 : Int32))), (0, .ref x0), (1, .ref x1), (2, .ref x2)], [], (h ++ R), 0, 0)) rfl ?_
  refine mB_lv [1, 2, 3, 0] (lv' := [(0, .ref x0), (1, .ref x1), (2, .ref x2), (4, .int (x4 + (1 : Int32)))]) rfl ?_
  exact hrec22 _ _ _ _ _ hq
def fxX2_wrap_22 (N : Nat) : Nat → Nat → Nat → Nat → Int32 → mh → Option mh
  | 0, _, _, _, _, _ => none
  | n + 1, x0, x1, x2, x4, h =>
    if (100000 : Int32) ≤ x4 then (
      some h) else (
      (gI h x0 2 2).bind fun v15 =>
      if v15 = 0 then (
        (gR h x0 2 0).bind fun v18 =>
        (kO h v18 5).bind fun f22 =>
        (fxX5_firstOpen N v18 h).bind fun o20 =>
        if o20.2 = (-1 : Int32) then (
          some o20.1) else (
          (gR o20.1 x0 2 0).bind fun v25 =>
          (gR o20.1 v25 5 3).bind fun v27 =>
          (aI o20.1 v27 ((4 : Int32) * o20.2)).bind fun v29 =>
          (gR o20.1 x0 2 0).bind fun v31 =>
          (gR o20.1 v31 5 3).bind fun v33 =>
          (aI o20.1 v33 (((4 : Int32) * o20.2) + (1 : Int32))).bind fun v35 =>
          (gR o20.1 x0 2 0).bind fun v37 =>
          (gR o20.1 v37 5 3).bind fun v39 =>
          (aI o20.1 v39 (((4 : Int32) * o20.2) + (2 : Int32))).bind fun v41 =>
          (kO o20.1 x0 2).bind fun f45 =>
          (fxX2_seek N x0 x1 x2 v29.toInt64 v35.toInt64 v41.toInt64 o20.1).bind fun o43 =>
          (gR o43 x0 2 0).bind fun v47 =>
          (gI o43 x0 2 4).bind fun v49 =>
          (gI o43 x0 2 5).bind fun v51 =>
          (gI o43 x0 2 6).bind fun v53 =>
          (kO o43 v47 5).bind fun f57 =>
          (fxX5_isBeyond N v47 o20.2 v49.toInt64 v51.toInt64 v53.toInt64 o43).bind fun o55 =>
          if o55.2 = 0 then (
            (gR o55.1 x0 2 0).bind fun v60 =>
            (gR o55.1 v60 5 4).bind fun v62 =>
            (wZ o55.1 v62 o20.2 (1 : Int32)).bind fun h64 =>
            fxX2_wrap_160 N (fxX2_wrap_22 N n) x0 x1 x2 x4 h64) else (
            (kO o55.1 x0 2).bind fun f68 =>
            (fxX2_take N x0 o55.1).bind fun o66 =>
            (gI o66 x0 2 2).bind fun v70 =>
            if v70 = 0 then (
              (gR o66 x0 2 0).bind fun v73 =>
              (kO o66 v73 5).bind fun f77 =>
              (fxX5_attachLatest N v73 o66).bind fun o75 =>
              fxX2_wrap_160 N (fxX2_wrap_22 N n) x0 x1 x2 x4 o75) else (
              fxX2_wrap_160 N (fxX2_wrap_22 N n) x0 x1 x2 x4 o66)))) else (
        some h))
set_option maxHeartbeats 4000000 in
set_option maxRecDepth 100000 in
theorem eaX2_wrap_22 {N : Nat} {R : mh} : ∀ (n : Nat) (x0 : Nat) (x1 : Nat) (x2 : Nat) (x4 : Int32) (h : mh) {o : mh}, fxX2_wrap_22 N n x0 x1 x2 x4 h = some o → mB (gO mX2_wrap (o ++ R, none)) mX2_wrap (22, [(0, .ref x0), (1, .ref x1), (2, .ref x2), (4, .int x4)], [], (h ++ R), 0, 0) := by
  intro n
  induction n with
  | zero => intro x0 x1 x2 x4 h o hq; cases hq
  | succ n ih =>
    intro x0 x1 x2 x4 h o hq
    unfold fxX2_wrap_22 at hq
    refine mB_run odX2_wrap 2 (g := (26, [(0, .ref x0), (1, .ref x1), (2, .ref x2), (4, .int x4)], [.int (100000 : Int32), .int x4], (h ++ R), 0, 0)) rfl ?_
    by_cases c14 : (100000 : Int32) ≤ x4
    · rw [if_pos c14] at hq
      refine ic_ge_T (t := 166) odX2_wrap rfl rfl c14 ?_
      cases hq
      exact mB_ret odX2_wrap rfl
    · rw [if_neg c14] at hq
      refine ic_ge_F (t := 166) odX2_wrap rfl rfl c14 ?_
      refine mB_run odX2_wrap 1 (g := (30, [(0, .ref x0), (1, .ref x1), (2, .ref x2), (4, .int x4)], [.ref x0], (h ++ R), 0, 0)) rfl ?_
      obtain ⟨v15, e16, hq⟩ := bsm hq
      refine r_gI odX2_wrap rfl rfl (gI_ap e16) ?_
      by_cases c17 : v15 = 0
      · rw [if_pos c17] at hq
        refine if_ne_F (t := 166) odX2_wrap rfl rfl c17 ?_
        refine mB_run odX2_wrap 1 (g := (37, [(0, .ref x0), (1, .ref x1), (2, .ref x2), (4, .int x4)], [.ref x0], (h ++ R), 0, 0)) rfl ?_
        obtain ⟨v18, e19, hq⟩ := bsm hq
        refine r_gR odX2_wrap rfl rfl (gR_ap e19) ?_
        obtain ⟨f22, k23, hq⟩ := bsm hq
        obtain ⟨o20, e21, hq⟩ := bsm hq
        refine mB_V (as := []) odX2_wrap okX5_firstOpen lk_2_126 rfl (eaX5_firstOpen e21) (kO_at (kO_ap k23)) rfl rfl rfl ?_
        show mB _ mX2_wrap (43, [(0, .ref x0), (1, .ref x1), (2, .ref x2), (4, .int x4)], [.int o20.2], (o20.1 ++ R), 0, 0)
        refine mB_run odX2_wrap 3 (g := (48, [(5, .int o20.2), (0, .ref x0), (1, .ref x1), (2, .ref x2), (4, .int x4)], [.int (-1 : Int32), .int o20.2], (o20.1 ++ R), 0, 0)) rfl ?_
        by_cases c24 : o20.2 = (-1 : Int32)
        · rw [if_pos c24] at hq
          refine ic_ne_F (t := 52) odX2_wrap rfl rfl c24 ?_
          cases hq
          exact mB_ret odX2_wrap rfl
        · rw [if_neg c24] at hq
          refine ic_ne_T (t := 52) odX2_wrap rfl rfl c24 ?_
          refine mB_run odX2_wrap 4 (g := (56, [(5, .int o20.2), (0, .ref x0), (1, .ref x1), (2, .ref x2), (4, .int x4)], [.ref x0, .ref x2, .ref x1, .ref x0], (o20.1 ++ R), 0, 0)) rfl ?_
          obtain ⟨v25, e26, hq⟩ := bsm hq
          refine r_gR odX2_wrap rfl rfl (gR_ap e26) ?_
          obtain ⟨v27, e28, hq⟩ := bsm hq
          refine r_gR odX2_wrap rfl rfl (gR_ap e28) ?_
          refine mB_run odX2_wrap 3 (g := (66, [(5, .int o20.2), (0, .ref x0), (1, .ref x1), (2, .ref x2), (4, .int x4)], [.int ((4 : Int32) * o20.2), .ref v27, .ref x2, .ref x1, .ref x0], (o20.1 ++ R), 0, 0)) rfl ?_
          obtain ⟨v29, e30, hq⟩ := bsm hq
          refine r_aI odX2_wrap rfl (aI_ap e30) ?_
          refine mB_run odX2_wrap 2 (g := (69, [(5, .int o20.2), (0, .ref x0), (1, .ref x1), (2, .ref x2), (4, .int x4)], [.ref x0, .long v29.toInt64, .ref x2, .ref x1, .ref x0], (o20.1 ++ R), 0, 0)) rfl ?_
          obtain ⟨v31, e32, hq⟩ := bsm hq
          refine r_gR odX2_wrap rfl rfl (gR_ap e32) ?_
          obtain ⟨v33, e34, hq⟩ := bsm hq
          refine r_gR odX2_wrap rfl rfl (gR_ap e34) ?_
          refine mB_run odX2_wrap 5 (g := (81, [(5, .int o20.2), (0, .ref x0), (1, .ref x1), (2, .ref x2), (4, .int x4)], [.int (((4 : Int32) * o20.2) + (1 : Int32)), .ref v33, .long v29.toInt64, .ref x2, .ref x1, .ref x0], (o20.1 ++ R), 0, 0)) rfl ?_
          obtain ⟨v35, e36, hq⟩ := bsm hq
          refine r_aI odX2_wrap rfl (aI_ap e36) ?_
          refine mB_run odX2_wrap 2 (g := (84, [(5, .int o20.2), (0, .ref x0), (1, .ref x1), (2, .ref x2), (4, .int x4)], [.ref x0, .long v35.toInt64, .long v29.toInt64, .ref x2, .ref x1, .ref x0], (o20.1 ++ R), 0, 0)) rfl ?_
          obtain ⟨v37, e38, hq⟩ := bsm hq
          refine r_gR odX2_wrap rfl rfl (gR_ap e38) ?_
          obtain ⟨v39, e40, hq⟩ := bsm hq
          refine r_gR odX2_wrap rfl rfl (gR_ap e40) ?_
          refine mB_run odX2_wrap 5 (g := (96, [(5, .int o20.2), (0, .ref x0), (1, .ref x1), (2, .ref x2), (4, .int x4)], [.int (((4 : Int32) * o20.2) + (2 : Int32)), .ref v39, .long v35.toInt64, .long v29.toInt64, .ref x2, .ref x1, .ref x0], (o20.1 ++ R), 0, 0)) rfl ?_
          obtain ⟨v41, e42, hq⟩ := bsm hq
          refine r_aI odX2_wrap rfl (aI_ap e42) ?_
          refine mB_run odX2_wrap 1 (g := (98, [(5, .int o20.2), (0, .ref x0), (1, .ref x1), (2, .ref x2), (4, .int x4)], [.long v41.toInt64, .long v35.toInt64, .long v29.toInt64, .ref x2, .ref x1, .ref x0], (o20.1 ++ R), 0, 0)) rfl ?_
          obtain ⟨f45, k46, hq⟩ := bsm hq
          obtain ⟨o43, e44, hq⟩ := bsm hq
          refine mB_V (as := [.ref x1, .ref x2, .long v29.toInt64, .long v35.toInt64, .long v41.toInt64]) odX2_wrap okX2_seek lk_2_73 rfl (eaX2_seek e44) (kO_at (kO_ap k46)) rfl rfl rfl ?_
          show mB _ mX2_wrap (101, [(5, .int o20.2), (0, .ref x0), (1, .ref x1), (2, .ref x2), (4, .int x4)], [], (o43 ++ R), 0, 0)
          refine mB_run odX2_wrap 1 (g := (102, [(5, .int o20.2), (0, .ref x0), (1, .ref x1), (2, .ref x2), (4, .int x4)], [.ref x0], (o43 ++ R), 0, 0)) rfl ?_
          obtain ⟨v47, e48, hq⟩ := bsm hq
          refine r_gR odX2_wrap rfl rfl (gR_ap e48) ?_
          refine mB_run odX2_wrap 2 (g := (108, [(5, .int o20.2), (0, .ref x0), (1, .ref x1), (2, .ref x2), (4, .int x4)], [.ref x0, .int o20.2, .ref v47], (o43 ++ R), 0, 0)) rfl ?_
          obtain ⟨v49, e50, hq⟩ := bsm hq
          refine r_gI odX2_wrap rfl rfl (gI_ap e50) ?_
          refine mB_run odX2_wrap 2 (g := (113, [(5, .int o20.2), (0, .ref x0), (1, .ref x1), (2, .ref x2), (4, .int x4)], [.ref x0, .long v49.toInt64, .int o20.2, .ref v47], (o43 ++ R), 0, 0)) rfl ?_
          obtain ⟨v51, e52, hq⟩ := bsm hq
          refine r_gI odX2_wrap rfl rfl (gI_ap e52) ?_
          refine mB_run odX2_wrap 2 (g := (118, [(5, .int o20.2), (0, .ref x0), (1, .ref x1), (2, .ref x2), (4, .int x4)], [.ref x0, .long v51.toInt64, .long v49.toInt64, .int o20.2, .ref v47], (o43 ++ R), 0, 0)) rfl ?_
          obtain ⟨v53, e54, hq⟩ := bsm hq
          refine r_gI odX2_wrap rfl rfl (gI_ap e54) ?_
          refine mB_run odX2_wrap 1 (g := (122, [(5, .int o20.2), (0, .ref x0), (1, .ref x1), (2, .ref x2), (4, .int x4)], [.long v53.toInt64, .long v51.toInt64, .long v49.toInt64, .int o20.2, .ref v47], (o43 ++ R), 0, 0)) rfl ?_
          obtain ⟨f57, k58, hq⟩ := bsm hq
          obtain ⟨o55, e56, hq⟩ := bsm hq
          refine mB_V (as := [.int o20.2, .long v49.toInt64, .long v51.toInt64, .long v53.toInt64]) odX2_wrap okX5_isBeyond lk_2_133 rfl (eaX5_isBeyond e56) (kO_at (kO_ap k58)) rfl rfl rfl ?_
          show mB _ mX2_wrap (125, [(5, .int o20.2), (0, .ref x0), (1, .ref x1), (2, .ref x2), (4, .int x4)], [.int o55.2], (o55.1 ++ R), 0, 0)
          by_cases c59 : o55.2 = 0
          · rw [if_pos c59] at hq
            refine if_ne_F (t := 142) odX2_wrap rfl rfl c59 ?_
            refine mB_run odX2_wrap 1 (g := (129, [(5, .int o20.2), (0, .ref x0), (1, .ref x1), (2, .ref x2), (4, .int x4)], [.ref x0], (o55.1 ++ R), 0, 0)) rfl ?_
            obtain ⟨v60, e61, hq⟩ := bsm hq
            refine r_gR odX2_wrap rfl rfl (gR_ap e61) ?_
            obtain ⟨v62, e63, hq⟩ := bsm hq
            refine r_gR odX2_wrap rfl rfl (gR_ap e63) ?_
            refine mB_run odX2_wrap 2 (g := (138, [(5, .int o20.2), (0, .ref x0), (1, .ref x1), (2, .ref x2), (4, .int x4)], [.int (1 : Int32), .int o20.2, .ref v62], (o55.1 ++ R), 0, 0)) rfl ?_
            obtain ⟨h64, e65, hq⟩ := bsm hq
            refine r_wZ odX2_wrap rfl (wZ_ap e65) ?_
            refine mB_run odX2_wrap 1 (g := (160, [(5, .int o20.2), (0, .ref x0), (1, .ref x1), (2, .ref x2), (4, .int x4)], [], (h64 ++ R), 0, 0)) rfl ?_
            refine mB_lv [1, 2, 3, 4] (lv' := [(0, .ref x0), (1, .ref x1), (2, .ref x2), (4, .int x4)]) rfl ?_
            exact eaX2_wrap_160 ih _ _ _ _ _ hq
          · rw [if_neg c59] at hq
            refine if_ne_T (t := 142) odX2_wrap rfl rfl c59 ?_
            refine mB_run odX2_wrap 1 (g := (143, [(5, .int o20.2), (0, .ref x0), (1, .ref x1), (2, .ref x2), (4, .int x4)], [.ref x0], (o55.1 ++ R), 0, 0)) rfl ?_
            obtain ⟨f68, k69, hq⟩ := bsm hq
            obtain ⟨o66, e67, hq⟩ := bsm hq
            refine mB_V (as := []) odX2_wrap okX2_take lk_2_77 rfl (eaX2_take e67) (kO_at (kO_ap k69)) rfl rfl rfl ?_
            show mB _ mX2_wrap (146, [(5, .int o20.2), (0, .ref x0), (1, .ref x1), (2, .ref x2), (4, .int x4)], [], (o66 ++ R), 0, 0)
            refine mB_run odX2_wrap 1 (g := (147, [(5, .int o20.2), (0, .ref x0), (1, .ref x1), (2, .ref x2), (4, .int x4)], [.ref x0], (o66 ++ R), 0, 0)) rfl ?_
            obtain ⟨v70, e71, hq⟩ := bsm hq
            refine r_gI odX2_wrap rfl rfl (gI_ap e71) ?_
            by_cases c72 : v70 = 0
            · rw [if_pos c72] at hq
              refine if_ne_F (t := 160) odX2_wrap rfl rfl c72 ?_
              refine mB_run odX2_wrap 1 (g := (154, [(5, .int o20.2), (0, .ref x0), (1, .ref x1), (2, .ref x2), (4, .int x4)], [.ref x0], (o66 ++ R), 0, 0)) rfl ?_
              obtain ⟨v73, e74, hq⟩ := bsm hq
              refine r_gR odX2_wrap rfl rfl (gR_ap e74) ?_
              obtain ⟨f77, k78, hq⟩ := bsm hq
              obtain ⟨o75, e76, hq⟩ := bsm hq
              refine mB_V (as := []) odX2_wrap okX5_attachLatest lk_2_141 rfl (eaX5_attachLatest e76) (kO_at (kO_ap k78)) rfl rfl rfl ?_
              show mB _ mX2_wrap (160, [(5, .int o20.2), (0, .ref x0), (1, .ref x1), (2, .ref x2), (4, .int x4)], [], (o75 ++ R), 0, 0)
              refine mB_lv [1, 2, 3, 4] (lv' := [(0, .ref x0), (1, .ref x1), (2, .ref x2), (4, .int x4)]) rfl ?_
              exact eaX2_wrap_160 ih _ _ _ _ _ hq
            · rw [if_neg c72] at hq
              refine if_ne_T (t := 160) odX2_wrap rfl rfl c72 ?_
              refine mB_lv [1, 2, 3, 4] (lv' := [(0, .ref x0), (1, .ref x1), (2, .ref x2), (4, .int x4)]) rfl ?_
              exact eaX2_wrap_160 ih _ _ _ _ _ hq
      · rw [if_neg c17] at hq
        refine if_ne_T (t := 166) odX2_wrap rfl rfl c17 ?_
        cases hq
        exact mB_ret odX2_wrap rfl
def fxX2_wrap_12 (N : Nat) (x0 : Nat) (x1 : Nat) (x2 : Nat) (h : mh) : Option mh :=
  (gR h x0 2 0).bind fun v8 =>
  (kO h v8 5).bind fun f12 =>
  (fxX5_beginWithFour N v8 h).bind fun o10 =>
  fxX2_wrap_22 N N x0 x1 x2 (0 : Int32) o10
set_option maxHeartbeats 4000000 in
set_option maxRecDepth 100000 in
theorem eaX2_wrap_12 {N : Nat} {R : mh} (x0 : Nat) (x1 : Nat) (x2 : Nat) (h : mh) {o : mh} (hq : fxX2_wrap_12 N x0 x1 x2 h = some o) : mB (gO mX2_wrap (o ++ R, none)) mX2_wrap (12, [(0, .ref x0), (1, .ref x1), (2, .ref x2)], [], (h ++ R), 0, 0) := by
  unfold fxX2_wrap_12 at hq
  refine mB_run odX2_wrap 1 (g := (13, [(0, .ref x0), (1, .ref x1), (2, .ref x2)], [.ref x0], (h ++ R), 0, 0)) rfl ?_
  obtain ⟨v8, e9, hq⟩ := bsm hq
  refine r_gR odX2_wrap rfl rfl (gR_ap e9) ?_
  obtain ⟨f12, k13, hq⟩ := bsm hq
  obtain ⟨o10, e11, hq⟩ := bsm hq
  refine mB_V (as := []) odX2_wrap okX5_beginWithFour lk_2_122 rfl (eaX5_beginWithFour e11) (kO_at (kO_ap k13)) rfl rfl rfl ?_
  show mB _ mX2_wrap (19, [(0, .ref x0), (1, .ref x1), (2, .ref x2)], [], (o10 ++ R), 0, 0)
  refine mB_run odX2_wrap 2 (g := (22, [(4, .int (0 : Int32)), (0, .ref x0), (1, .ref x1), (2, .ref x2)], [], (o10 ++ R), 0, 0)) rfl ?_
  refine mB_lv [1, 2, 3, 0] (lv' := [(0, .ref x0), (1, .ref x1), (2, .ref x2), (4, .int (0 : Int32))]) rfl ?_
  exact eaX2_wrap_22 N _ _ _ _ _ hq
def fxX2_wrap (N : Nat) (p0 : Nat) (p1 : Nat) (p2 : Nat) (p3 : Int32) (h : mh) : Option mh :=
  if p3 = (3 : Int32) then (
    (gR h p0 2 0).bind fun v2 =>
    (kO h v2 5).bind fun f6 =>
    (fxX5_addProp N v2 h).bind fun o4 =>
    fxX2_wrap_12 N p0 p1 p2 o4) else (
    fxX2_wrap_12 N p0 p1 p2 h)
set_option maxHeartbeats 4000000 in
set_option maxRecDepth 100000 in
theorem eaX2_wrap {N : Nat} {R : mh} {p0 : Nat} {p1 : Nat} {p2 : Nat} {p3 : Int32} {h : mh} {o : mh} (hq : fxX2_wrap N p0 p1 p2 p3 h = some o) : mC mX2_wrap [.ref p0, .ref p1, .ref p2, .int p3] (h ++ R) (o ++ R, none) := by
  refine mC_of okX2_wrap (Nat.le_of_ble_eq_true rfl) ?_
  unfold fxX2_wrap at hq
  show mB _ mX2_wrap (0, [(0, .ref p0), (1, .ref p1), (2, .ref p2), (3, .int p3)], [], (h ++ R), 0, 0)
  refine mB_run odX2_wrap 2 (g := (2, [(0, .ref p0), (1, .ref p1), (2, .ref p2), (3, .int p3)], [.int (3 : Int32), .int p3], (h ++ R), 0, 0)) rfl ?_
  by_cases c1 : p3 = (3 : Int32)
  · rw [if_pos c1] at hq
    refine ic_ne_F (t := 12) odX2_wrap rfl rfl c1 ?_
    refine mB_run odX2_wrap 1 (g := (6, [(0, .ref p0), (1, .ref p1), (2, .ref p2), (3, .int p3)], [.ref p0], (h ++ R), 0, 0)) rfl ?_
    obtain ⟨v2, e3, hq⟩ := bsm hq
    refine r_gR odX2_wrap rfl rfl (gR_ap e3) ?_
    obtain ⟨f6, k7, hq⟩ := bsm hq
    obtain ⟨o4, e5, hq⟩ := bsm hq
    refine mB_V (as := []) odX2_wrap okX5_addProp lk_2_119 rfl (eaX5_addProp e5) (kO_at (kO_ap k7)) rfl rfl rfl ?_
    show mB _ mX2_wrap (12, [(0, .ref p0), (1, .ref p1), (2, .ref p2), (3, .int p3)], [], (o4 ++ R), 0, 0)
    refine mB_lv [0, 1, 2] (lv' := [(0, .ref p0), (1, .ref p1), (2, .ref p2)]) rfl ?_
    exact eaX2_wrap_12 _ _ _ _ hq
  · rw [if_neg c1] at hq
    refine ic_ne_T (t := 12) odX2_wrap rfl rfl c1 ?_
    refine mB_lv [0, 1, 2] (lv' := [(0, .ref p0), (1, .ref p1), (2, .ref p2)]) rfl ?_
    exact eaX2_wrap_12 _ _ _ _ hq
def fxX3_isLess (N : Nat) (p0 : Nat) (p1 : Int32) (p2 : Int32) (p3 : Int32) (p4 : Int32) (h : mh) : Option (mh × Int32) :=
  (gR h p0 3 1).bind fun v1 =>
  (aI h v1 p4).bind fun v3 =>
  if p1 = v3 then (
    (gR h p0 3 2).bind fun v6 =>
    (aI h v6 p4).bind fun v8 =>
    if p2 = v8 then (
      (gR h p0 3 3).bind fun v11 =>
      (aI h v11 p4).bind fun v13 =>
      if v13 ≤ p3 then (
        some (h, (0 : Int32))) else (
        some (h, (1 : Int32)))) else (
      (gR h p0 3 2).bind fun v16 =>
      (aI h v16 p4).bind fun v18 =>
      if v18 ≤ p2 then (
        some (h, (0 : Int32))) else (
        some (h, (1 : Int32))))) else (
    (gR h p0 3 1).bind fun v21 =>
    (aI h v21 p4).bind fun v23 =>
    if v23 ≤ p1 then (
      some (h, (0 : Int32))) else (
      some (h, (1 : Int32))))
set_option maxHeartbeats 4000000 in
set_option maxRecDepth 100000 in
theorem eaX3_isLess {N : Nat} {R : mh} {p0 : Nat} {p1 : Int32} {p2 : Int32} {p3 : Int32} {p4 : Int32} {h : mh} {o : (mh × Int32)} (hq : fxX3_isLess N p0 p1 p2 p3 p4 h = some o) : mC mX3_isLess [.ref p0, .int p1, .int p2, .int p3, .int p4] (h ++ R) (o.1 ++ R, some (.int o.2)) := by
  refine mC_of okX3_isLess (Nat.le_of_ble_eq_true rfl) ?_
  unfold fxX3_isLess at hq
  show mB _ mX3_isLess (0, [(0, .ref p0), (1, .int p1), (2, .int p2), (3, .int p3), (4, .int p4)], [], (h ++ R), 0, 0)
  refine mB_run odX3_isLess 2 (g := (2, [(0, .ref p0), (1, .int p1), (2, .int p2), (3, .int p3), (4, .int p4)], [.ref p0, .int p1], (h ++ R), 0, 0)) rfl ?_
  obtain ⟨v1, e2, hq⟩ := bsm hq
  refine r_gR odX3_isLess rfl rfl (gR_ap e2) ?_
  refine mB_run odX3_isLess 1 (g := (7, [(0, .ref p0), (1, .int p1), (2, .int p2), (3, .int p3), (4, .int p4)], [.int p4, .ref v1, .int p1], (h ++ R), 0, 0)) rfl ?_
  obtain ⟨v3, e4, hq⟩ := bsm hq
  refine r_aI odX3_isLess rfl (aI_ap e4) ?_
  by_cases c5 : p1 = v3
  · rw [if_pos c5] at hq
    refine ic_eq_T (t := 28) odX3_isLess rfl rfl c5 ?_
    refine mB_run odX3_isLess 2 (g := (30, [(0, .ref p0), (1, .int p1), (2, .int p2), (3, .int p3), (4, .int p4)], [.ref p0, .int p2], (h ++ R), 0, 0)) rfl ?_
    obtain ⟨v6, e7, hq⟩ := bsm hq
    refine r_gR odX3_isLess rfl rfl (gR_ap e7) ?_
    refine mB_run odX3_isLess 1 (g := (35, [(0, .ref p0), (1, .int p1), (2, .int p2), (3, .int p3), (4, .int p4)], [.int p4, .ref v6, .int p2], (h ++ R), 0, 0)) rfl ?_
    obtain ⟨v8, e9, hq⟩ := bsm hq
    refine r_aI odX3_isLess rfl (aI_ap e9) ?_
    by_cases c10 : p2 = v8
    · rw [if_pos c10] at hq
      refine ic_eq_T (t := 58) odX3_isLess rfl rfl c10 ?_
      refine mB_run odX3_isLess 2 (g := (60, [(0, .ref p0), (1, .int p1), (2, .int p2), (3, .int p3), (4, .int p4)], [.ref p0, .int p3], (h ++ R), 0, 0)) rfl ?_
      obtain ⟨v11, e12, hq⟩ := bsm hq
      refine r_gR odX3_isLess rfl rfl (gR_ap e12) ?_
      refine mB_run odX3_isLess 1 (g := (65, [(0, .ref p0), (1, .int p1), (2, .int p2), (3, .int p3), (4, .int p4)], [.int p4, .ref v11, .int p3], (h ++ R), 0, 0)) rfl ?_
      obtain ⟨v13, e14, hq⟩ := bsm hq
      refine r_aI odX3_isLess rfl (aI_ap e14) ?_
      by_cases c15 : v13 ≤ p3
      · rw [if_pos c15] at hq
        refine ic_ge_T (t := 73) odX3_isLess rfl rfl c15 ?_
        refine mB_run odX3_isLess 1 (g := (74, [(0, .ref p0), (1, .int p1), (2, .int p2), (3, .int p3), (4, .int p4)], [.int (0 : Int32)], (h ++ R), 0, 0)) rfl ?_
        cases hq
        exact mB_ret odX3_isLess rfl
      · rw [if_neg c15] at hq
        refine ic_ge_F (t := 73) odX3_isLess rfl rfl c15 ?_
        refine mB_run odX3_isLess 2 (g := (74, [(0, .ref p0), (1, .int p1), (2, .int p2), (3, .int p3), (4, .int p4)], [.int (1 : Int32)], (h ++ R), 0, 0)) rfl ?_
        cases hq
        exact mB_ret odX3_isLess rfl
    · rw [if_neg c10] at hq
      refine ic_eq_F (t := 58) odX3_isLess rfl rfl c10 ?_
      refine mB_run odX3_isLess 2 (g := (41, [(0, .ref p0), (1, .int p1), (2, .int p2), (3, .int p3), (4, .int p4)], [.ref p0, .int p2], (h ++ R), 0, 0)) rfl ?_
      obtain ⟨v16, e17, hq⟩ := bsm hq
      refine r_gR odX3_isLess rfl rfl (gR_ap e17) ?_
      refine mB_run odX3_isLess 1 (g := (46, [(0, .ref p0), (1, .int p1), (2, .int p2), (3, .int p3), (4, .int p4)], [.int p4, .ref v16, .int p2], (h ++ R), 0, 0)) rfl ?_
      obtain ⟨v18, e19, hq⟩ := bsm hq
      refine r_aI odX3_isLess rfl (aI_ap e19) ?_
      by_cases c20 : v18 ≤ p2
      · rw [if_pos c20] at hq
        refine ic_ge_T (t := 54) odX3_isLess rfl rfl c20 ?_
        refine mB_run odX3_isLess 2 (g := (74, [(0, .ref p0), (1, .int p1), (2, .int p2), (3, .int p3), (4, .int p4)], [.int (0 : Int32)], (h ++ R), 0, 0)) rfl ?_
        cases hq
        exact mB_ret odX3_isLess rfl
      · rw [if_neg c20] at hq
        refine ic_ge_F (t := 54) odX3_isLess rfl rfl c20 ?_
        refine mB_run odX3_isLess 2 (g := (74, [(0, .ref p0), (1, .int p1), (2, .int p2), (3, .int p3), (4, .int p4)], [.int (1 : Int32)], (h ++ R), 0, 0)) rfl ?_
        cases hq
        exact mB_ret odX3_isLess rfl
  · rw [if_neg c5] at hq
    refine ic_eq_F (t := 28) odX3_isLess rfl rfl c5 ?_
    refine mB_run odX3_isLess 2 (g := (13, [(0, .ref p0), (1, .int p1), (2, .int p2), (3, .int p3), (4, .int p4)], [.ref p0, .int p1], (h ++ R), 0, 0)) rfl ?_
    obtain ⟨v21, e22, hq⟩ := bsm hq
    refine r_gR odX3_isLess rfl rfl (gR_ap e22) ?_
    refine mB_run odX3_isLess 1 (g := (18, [(0, .ref p0), (1, .int p1), (2, .int p2), (3, .int p3), (4, .int p4)], [.int p4, .ref v21, .int p1], (h ++ R), 0, 0)) rfl ?_
    obtain ⟨v23, e24, hq⟩ := bsm hq
    refine r_aI odX3_isLess rfl (aI_ap e24) ?_
    by_cases c25 : v23 ≤ p1
    · rw [if_pos c25] at hq
      refine ic_ge_T (t := 26) odX3_isLess rfl rfl c25 ?_
      refine mB_run odX3_isLess 1 (g := (27, [(0, .ref p0), (1, .int p1), (2, .int p2), (3, .int p3), (4, .int p4)], [.int (0 : Int32)], (h ++ R), 0, 0)) rfl ?_
      cases hq
      exact mB_ret odX3_isLess rfl
    · rw [if_neg c25] at hq
      refine ic_ge_F (t := 26) odX3_isLess rfl rfl c25 ?_
      refine mB_run odX3_isLess 2 (g := (27, [(0, .ref p0), (1, .int p1), (2, .int p2), (3, .int p3), (4, .int p4)], [.int (1 : Int32)], (h ++ R), 0, 0)) rfl ?_
      cases hq
      exact mB_ret odX3_isLess rfl
def fxX3_replace (N : Nat) (p0 : Nat) (p1 : Int32) (p2 : Int32) (p3 : Int32) (p4 : Int32) (h : mh) : Option (mh × Int32) :=
  if p1 < 0 then (
    some (h, (0 : Int32))) else (
    (gI h p0 3 0).bind fun v2 =>
    if p1 < v2 then (
      (gR h p0 3 1).bind fun v5 =>
      (wI h v5 p1 p2).bind fun h7 =>
      (gR h7 p0 3 2).bind fun v9 =>
      (wI h7 v9 p1 p3).bind fun h11 =>
      (gR h11 p0 3 3).bind fun v13 =>
      (wI h11 v13 p1 p4).bind fun h15 =>
      some (h15, (1 : Int32))) else (
      some (h, (0 : Int32))))
set_option maxHeartbeats 4000000 in
set_option maxRecDepth 100000 in
theorem eaX3_replace {N : Nat} {R : mh} {p0 : Nat} {p1 : Int32} {p2 : Int32} {p3 : Int32} {p4 : Int32} {h : mh} {o : (mh × Int32)} (hq : fxX3_replace N p0 p1 p2 p3 p4 h = some o) : mC mX3_replace [.ref p0, .int p1, .int p2, .int p3, .int p4] (h ++ R) (o.1 ++ R, some (.int o.2)) := by
  refine mC_of okX3_replace (Nat.le_of_ble_eq_true rfl) ?_
  unfold fxX3_replace at hq
  show mB _ mX3_replace (0, [(0, .ref p0), (1, .int p1), (2, .int p2), (3, .int p3), (4, .int p4)], [], (h ++ R), 0, 0)
  refine mB_run odX3_replace 1 (g := (1, [(0, .ref p0), (1, .int p1), (2, .int p2), (3, .int p3), (4, .int p4)], [.int p1], (h ++ R), 0, 0)) rfl ?_
  by_cases c1 : p1 < 0
  · rw [if_pos c1] at hq
    refine if_lt_T (t := 12) odX3_replace rfl rfl c1 ?_
    refine mB_run odX3_replace 1 (g := (13, [(0, .ref p0), (1, .int p1), (2, .int p2), (3, .int p3), (4, .int p4)], [.int (0 : Int32)], (h ++ R), 0, 0)) rfl ?_
    cases hq
    exact mB_ret odX3_replace rfl
  · rw [if_neg c1] at hq
    refine if_lt_F (t := 12) odX3_replace rfl rfl c1 ?_
    refine mB_run odX3_replace 2 (g := (6, [(0, .ref p0), (1, .int p1), (2, .int p2), (3, .int p3), (4, .int p4)], [.ref p0, .int p1], (h ++ R), 0, 0)) rfl ?_
    obtain ⟨v2, e3, hq⟩ := bsm hq
    refine r_gI odX3_replace rfl rfl (gI_ap e3) ?_
    by_cases c4 : p1 < v2
    · rw [if_pos c4] at hq
      refine ic_lt_T (t := 14) odX3_replace rfl rfl c4 ?_
      refine mB_run odX3_replace 1 (g := (15, [(0, .ref p0), (1, .int p1), (2, .int p2), (3, .int p3), (4, .int p4)], [.ref p0], (h ++ R), 0, 0)) rfl ?_
      obtain ⟨v5, e6, hq⟩ := bsm hq
      refine r_gR odX3_replace rfl rfl (gR_ap e6) ?_
      refine mB_run odX3_replace 2 (g := (20, [(0, .ref p0), (1, .int p1), (2, .int p2), (3, .int p3), (4, .int p4)], [.int p2, .int p1, .ref v5], (h ++ R), 0, 0)) rfl ?_
      obtain ⟨h7, e8, hq⟩ := bsm hq
      refine r_wI odX3_replace rfl (wI_ap e8) ?_
      refine mB_run odX3_replace 1 (g := (22, [(0, .ref p0), (1, .int p1), (2, .int p2), (3, .int p3), (4, .int p4)], [.ref p0], (h7 ++ R), 0, 0)) rfl ?_
      obtain ⟨v9, e10, hq⟩ := bsm hq
      refine r_gR odX3_replace rfl rfl (gR_ap e10) ?_
      refine mB_run odX3_replace 2 (g := (27, [(0, .ref p0), (1, .int p1), (2, .int p2), (3, .int p3), (4, .int p4)], [.int p3, .int p1, .ref v9], (h7 ++ R), 0, 0)) rfl ?_
      obtain ⟨h11, e12, hq⟩ := bsm hq
      refine r_wI odX3_replace rfl (wI_ap e12) ?_
      refine mB_run odX3_replace 1 (g := (29, [(0, .ref p0), (1, .int p1), (2, .int p2), (3, .int p3), (4, .int p4)], [.ref p0], (h11 ++ R), 0, 0)) rfl ?_
      obtain ⟨v13, e14, hq⟩ := bsm hq
      refine r_gR odX3_replace rfl rfl (gR_ap e14) ?_
      refine mB_run odX3_replace 2 (g := (35, [(0, .ref p0), (1, .int p1), (2, .int p2), (3, .int p3), (4, .int p4)], [.int p4, .int p1, .ref v13], (h11 ++ R), 0, 0)) rfl ?_
      obtain ⟨h15, e16, hq⟩ := bsm hq
      refine r_wI odX3_replace rfl (wI_ap e16) ?_
      refine mB_run odX3_replace 1 (g := (37, [(0, .ref p0), (1, .int p1), (2, .int p2), (3, .int p3), (4, .int p4)], [.int (1 : Int32)], (h15 ++ R), 0, 0)) rfl ?_
      cases hq
      exact mB_ret odX3_replace rfl
    · rw [if_neg c4] at hq
      refine ic_lt_F (t := 14) odX3_replace rfl rfl c4 ?_
      refine mB_run odX3_replace 1 (g := (13, [(0, .ref p0), (1, .int p1), (2, .int p2), (3, .int p3), (4, .int p4)], [.int (0 : Int32)], (h ++ R), 0, 0)) rfl ?_
      cases hq
      exact mB_ret odX3_replace rfl
