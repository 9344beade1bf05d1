set_option maxHeartbeats 4000000 in
set_option maxRecDepth 100000 in
theorem eaX0_locateAmongFaces_48 {N : Nat} {R : mh} {rec6 : Nat → Int64 → Int64 → Int64 → Int64 → Int32 → Int32 → mh → Option (mh × Int32)} (hrec6 : ∀ (x0 : Nat) (x1 : Int64) (x3 : Int64) (x5 : Int64) (x7 : Int64) (x9 : Int32) (x10 : Int32) (h : mh) {o : (mh × Int32)}, rec6 x0 x1 x3 x5 x7 x9 x10 h = some o → mB (gO mX0_locateAmongFaces (o.1 ++ R, some (.int o.2))) mX0_locateAmongFaces (6, [(0, .ref x0), (1, .long x1), (3, .long x3), (5, .long x5), (7, .long x7), (9, .int x9), (10, .int x10)], [], (h ++ R), 0, 0)) (x0 : Nat) (x1 : Int64) (x3 : Int64) (x5 : Int64) (x7 : Int64) (x9 : Int32) (x10 : Int32) (h : mh) {o : (mh × Int32)} (hq : fxX0_locateAmongFaces_48 N rec6 x0 x1 x3 x5 x7 x9 x10 h = some o) : mB (gO mX0_locateAmongFaces (o.1 ++ R, some (.int o.2))) mX0_locateAmongFaces (48, [(0, .ref x0), (1, .long x1), (3, .long x3), (5, .long x5), (7, .long x7), (9, .int x9), (10, .int x10)], [], (h ++ R), 0, 0) := by
  unfold fxX0_locateAmongFaces_48 at hq
  refine mB_run odX0_locateAmongFaces 2 (g := (6, [(10, .int (x10 + (1 : Int32))), (0, .ref x0), (1, .long x1), (3, .long x3), (5, .long x5), (7, .long x7), (9, .int x9)], [], (h ++ R), 0, 0)) rfl ?_
  refine mB_lv [1, 2, 3, 4, 5, 6, 0] (lv' := [(0, .ref x0), (1, .long x1), (3, .long x3), (5, .long x5), (7, .long x7), (9, .int x9), (10, .int (x10 + (1 : Int32)))]) rfl ?_
  exact hrec6 _ _ _ _ _ _ _ _ hq
set_option maxHeartbeats 4000000 in
set_option maxRecDepth 100000 in
theorem eaX0_locateAmongFaces_6 {N : Nat} {R : mh} : ∀ (n : Nat) (x0 : Nat) (x1 : Int64) (x3 : Int64) (x5 : Int64) (x7 : Int64) (x9 : Int32) (x10 : Int32) (h : mh) {o : (mh × Int32)}, fxX0_locateAmongFaces_6 N n x0 x1 x3 x5 x7 x9 x10 h = some o → mB (gO mX0_locateAmongFaces (o.1 ++ R, some (.int o.2))) mX0_locateAmongFaces (6, [(0, .ref x0), (1, .long x1), (3, .long x3), (5, .long x5), (7, .long x7), (9, .int x9), (10, .int x10)], [], (h ++ R), 0, 0) := by
  intro n
  induction n with
  | zero => intro x0 x1 x3 x5 x7 x9 x10 h o hq; cases hq
  | succ n ih =>
    intro x0 x1 x3 x5 x7 x9 x10 h o hq
    unfold fxX0_locateAmongFaces_6 at hq
    refine mB_run odX0_locateAmongFaces 2 (g := (9, [(0, .ref x0), (1, .long x1), (3, .long x3), (5, .long x5), (7, .long x7), (9, .int x9), (10, .int x10)], [.ref x0, .int x10], (h ++ R), 0, 0)) rfl ?_
    obtain ⟨v1, e2, hq⟩ := bsm hq
    refine r_gI odX0_locateAmongFaces rfl rfl (gI_ap e2) ?_
    by_cases c3 : v1 ≤ x10
    · rw [if_pos c3] at hq
      refine ic_ge_T (t := 54) odX0_locateAmongFaces rfl rfl c3 ?_
      refine mB_run odX0_locateAmongFaces 1 (g := (56, [(0, .ref x0), (1, .long x1), (3, .long x3), (5, .long x5), (7, .long x7), (9, .int x9), (10, .int x10)], [.int x9], (h ++ R), 0, 0)) rfl ?_
      cases hq
      exact mB_ret odX0_locateAmongFaces rfl
    · rw [if_neg c3] at hq
      refine ic_ge_F (t := 54) odX0_locateAmongFaces rfl rfl c3 ?_
      refine mB_run odX0_locateAmongFaces 6 (g := (24, [(0, .ref x0), (1, .long x1), (3, .long x3), (5, .long x5), (7, .long x7), (9, .int x9), (10, .int x10)], [.long x7, .long x5, .long x3, .long x1, .int x10, .ref x0], (h ++ R), 0, 0)) rfl ?_
      obtain ⟨f6, k7, hq⟩ := bsm hq
      obtain ⟨o4, e5, hq⟩ := bsm hq
      refine mB_V (as := [.int x10, .long x1, .long x3, .long x5, .long x7]) odX0_locateAmongFaces okX0_excess lk_0_98 rfl (eaX0_excess e5) (kO_at (kO_ap k7)) rfl rfl rfl ?_
      show mB _ mX0_locateAmongFaces (27, [(0, .ref x0), (1, .long x1), (3, .long x3), (5, .long x5), (7, .long x7), (9, .int x9), (10, .int x10)], [.long o4.2], (o4.1 ++ R), 0, 0)
      refine mB_run odX0_locateAmongFaces 3 (g := (32, [(11, .long o4.2), (0, .ref x0), (1, .long x1), (3, .long x3), (5, .long x5), (7, .long x7), (9, .int x9), (10, .int x10)], [.long (0 : Int64), .long o4.2], (o4.1 ++ R), 0, 0)) rfl ?_
      by_cases c8 : o4.2 ≤ (0 : Int64)
      · rw [if_pos c8] at hq
        refine lc_le_T (t := 38) odX0_locateAmongFaces rfl rfl rfl c8 ?_
        refine mB_run odX0_locateAmongFaces 2 (g := (41, [(11, .long o4.2), (0, .ref x0), (1, .long x1), (3, .long x3), (5, .long x5), (7, .long x7), (9, .int x9), (10, .int x10)], [.long (0 : Int64), .long o4.2], (o4.1 ++ R), 0, 0)) rfl ?_
        by_cases c9 : o4.2 = (0 : Int64)
        · rw [if_pos c9] at hq
          refine lc_ne_F (t := 48) odX0_locateAmongFaces rfl rfl rfl c9 ?_
          refine mB_run odX0_locateAmongFaces 2 (g := (48, [(9, .int (1 : Int32)), (11, .long o4.2), (0, .ref x0), (1, .long x1), (3, .long x3), (5, .long x5), (7, .long x7), (10, .int x10)], [], (o4.1 ++ R), 0, 0)) rfl ?_
          refine mB_lv [2, 3, 4, 5, 6, 0, 7] (lv' := [(0, .ref x0), (1, .long x1), (3, .long x3), (5, .long x5), (7, .long x7), (9, .int (1 : Int32)), (10, .int x10)]) rfl ?_
          exact eaX0_locateAmongFaces_48 ih _ _ _ _ _ _ _ _ hq
        · rw [if_neg c9] at hq
          refine lc_ne_T (t := 48) odX0_locateAmongFaces rfl rfl rfl c9 ?_
          refine mB_lv [1, 2, 3, 4, 5, 6, 7] (lv' := [(0, .ref x0), (1, .long x1), (3, .long x3), (5, .long x5), (7, .long x7), (9, .int x9), (10, .int x10)]) rfl ?_
          exact eaX0_locateAmongFaces_48 ih _ _ _ _ _ _ _ _ hq
      · rw [if_neg c8] at hq
        refine lc_le_F (t := 38) odX0_locateAmongFaces rfl rfl rfl c8 ?_
        refine mB_run odX0_locateAmongFaces 1 (g := (37, [(11, .long o4.2), (0, .ref x0), (1, .long x1), (3, .long x3), (5, .long x5), (7, .long x7), (9, .int x9), (10, .int x10)], [.int (0 : Int32)], (o4.1 ++ R), 0, 0)) rfl ?_
        cases hq
        exact mB_ret odX0_locateAmongFaces rfl
set_option maxHeartbeats 4000000 in
set_option maxRecDepth 100000 in
theorem eaX0_locateAmongFaces {N : Nat} {R : mh} {p0 : Nat} {p1 : Int64} {p2 : Int64} {p3 : Int64} {p4 : Int64} {h : mh} {o : (mh × Int32)} (hq : fxX0_locateAmongFaces N p0 p1 p2 p3 p4 h = some o) : mC mX0_locateAmongFaces [.ref p0, .long p1, .long p2, .long p3, .long p4] (h ++ R) (o.1 ++ R, some (.int o.2)) := by
  refine mC_of okX0_locateAmongFaces (Nat.le_of_ble_eq_true rfl) ?_
  unfold fxX0_locateAmongFaces at hq
  show mB _ mX0_locateAmongFaces (0, [(0, .ref p0), (1, .long p1), (3, .long p2), (5, .long p3), (7, .long p4)], [], (h ++ R), 0, 0)
  refine mB_run odX0_locateAmongFaces 4 (g := (6, [(10, .int (0 : Int32)), (9, .int (2 : Int32)), (0, .ref p0), (1, .long p1), (3, .long p2), (5, .long p3), (7, .long p4)], [], (h ++ R), 0, 0)) rfl ?_
  refine mB_lv [2, 3, 4, 5, 6, 1, 0] (lv' := [(0, .ref p0), (1, .long p1), (3, .long p2), (5, .long p3), (7, .long p4), (9, .int (2 : Int32)), (10, .int (0 : Int32))]) rfl ?_
  exact eaX0_locateAmongFaces_6 N _ _ _ _ _ _ _ _ hq
set_option maxHeartbeats 4000000 in
set_option maxRecDepth 100000 in
theorem eaX0_isInFigure_73 {N : Nat} {R : mh} {rec28 : Nat → Int64 → Int64 → Int64 → Int64 → Int32 → mh → Option (mh × Int32)} (hrec28 : ∀ (x0 : Nat) (x1 : Int64) (x3 : Int64) (x5 : Int64) (x7 : Int64) (x9 : Int32) (h : mh) {o : (mh × Int32)}, rec28 x0 x1 x3 x5 x7 x9 h = some o → mB (gO mX0_isInFigure (o.1 ++ R, some (.int o.2))) mX0_isInFigure (28, [(0, .ref x0), (1, .long x1), (3, .long x3), (5, .long x5), (7, .long x7), (9, .int x9)], [], (h ++ R), 0, 0)) (x0 : Nat) (x1 : Int64) (x3 : Int64) (x5 : Int64) (x7 : Int64) (x9 : Int32) (x10 : Int32) (s0 : Int32) (s1 : Nat) (h : mh) {o : (mh × Int32)} (hq : fxX0_isInFigure_73 N rec28 x0 x1 x3 x5 x7 x9 x10 s0 s1 h = some o) : mB (gO mX0_isInFigure (o.1 ++ R, some (.int o.2))) mX0_isInFigure (73, [(0, .ref x0), (1, .long x1), (3, .long x3), (5, .long x5), (7, .long x7), (9, .int x9), (10, .int x10)], [.int s0, .ref s1], (h ++ R), 0, 0) := by
  unfold fxX0_isInFigure_73 at hq
  obtain ⟨v25, e26, hq⟩ := bsm hq
  refine r_aI odX0_isInFigure rfl (aI_ap e26) ?_
  refine mB_run odX0_isInFigure 2 (g := (77, [(11, .int v25), (0, .ref x0), (1, .long x1), (3, .long x3), (5, .long x5), (7, .long x7), (9, .int x9), (10, .int x10)], [.ref x0], (h ++ R), 0, 0)) rfl ?_
  obtain ⟨v27, e28, hq⟩ := bsm hq
  refine r_gR odX0_isInFigure rfl rfl (gR_ap e28) ?_
  obtain ⟨v29, e30, hq⟩ := bsm hq
  refine r_gR odX0_isInFigure rfl rfl (gR_ap e30) ?_
  refine mB_run odX0_isInFigure 1 (g := (85, [(11, .int v25), (0, .ref x0), (1, .long x1), (3, .long x3), (5, .long x5), (7, .long x7), (9, .int x9), (10, .int x10)], [.int v25, .ref v29], (h ++ R), 0, 0)) rfl ?_
  obtain ⟨v31, e32, hq⟩ := bsm hq
  refine r_aI odX0_isInFigure rfl (aI_ap e32) ?_
  refine mB_run odX0_isInFigure 1 (g := (87, [(11, .int v25), (0, .ref x0), (1, .long x1), (3, .long x3), (5, .long x5), (7, .long x7), (9, .int x9), (10, .int x10)], [.ref x0, .int v31], (h ++ R), 0, 0)) rfl ?_
  obtain ⟨v33, e34, hq⟩ := bsm hq
  refine r_gR odX0_isInFigure rfl rfl (gR_ap e34) ?_
  obtain ⟨v35, e36, hq⟩ := bsm hq
  refine r_gR odX0_isInFigure rfl rfl (gR_ap e36) ?_
  refine mB_run odX0_isInFigure 1 (g := (95, [(11, .int v25), (0, .ref x0), (1, .long x1), (3, .long x3), (5, .long x5), (7, .long x7), (9, .int x9), (10, .int x10)], [.int x10, .ref v35, .int v31], (h ++ R), 0, 0)) rfl ?_
  obtain ⟨v37, e38, hq⟩ := bsm hq
  refine r_aI odX0_isInFigure rfl (aI_ap e38) ?_
  refine mB_run odX0_isInFigure 4 (g := (101, [(12, .long (v31 - v37).toInt64), (11, .int v25), (0, .ref x0), (1, .long x1), (3, .long x3), (5, .long x5), (7, .long x7), (9, .int x9), (10, .int x10)], [.ref x0], (h ++ R), 0, 0)) rfl ?_
  obtain ⟨v39, e40, hq⟩ := bsm hq
  refine r_gR odX0_isInFigure rfl rfl (gR_ap e40) ?_
  obtain ⟨v41, e42, hq⟩ := bsm hq
  refine r_gR odX0_isInFigure rfl rfl (gR_ap e42) ?_
  refine mB_run odX0_isInFigure 1 (g := (109, [(12, .long (v31 - v37).toInt64), (11, .int v25), (0, .ref x0), (1, .long x1), (3, .long x3), (5, .long x5), (7, .long x7), (9, .int x9), (10, .int x10)], [.int v25, .ref v41], (h ++ R), 0, 0)) rfl ?_
  obtain ⟨v43, e44, hq⟩ := bsm hq
  refine r_aI odX0_isInFigure rfl (aI_ap e44) ?_
  refine mB_run odX0_isInFigure 1 (g := (111, [(12, .long (v31 - v37).toInt64), (11, .int v25), (0, .ref x0), (1, .long x1), (3, .long x3), (5, .long x5), (7, .long x7), (9, .int x9), (10, .int x10)], [.ref x0, .int v43], (h ++ R), 0, 0)) rfl ?_
  obtain ⟨v45, e46, hq⟩ := bsm hq
  refine r_gR odX0_isInFigure rfl rfl (gR_ap e46) ?_
  obtain ⟨v47, e48, hq⟩ := bsm hq
  refine r_gR odX0_isInFigure rfl rfl (gR_ap e48) ?_
  refine mB_run odX0_isInFigure 1 (g := (119, [(12, .long (v31 - v37).toInt64), (11, .int v25), (0, .ref x0), (1, .long x1), (3, .long x3), (5, .long x5), (7, .long x7), (9, .int x9), (10, .int x10)], [.int x10, .ref v47, .int v43], (h ++ R), 0, 0)) rfl ?_
  obtain ⟨v49, e50, hq⟩ := bsm hq
  refine r_aI odX0_isInFigure rfl (aI_ap e50) ?_
  refine mB_run odX0_isInFigure 4 (g := (125, [(14, .long (v43 - v49).toInt64), (12, .long (v31 - v37).toInt64), (11, .int v25), (0, .ref x0), (1, .long x1), (3, .long x3), (5, .long x5), (7, .long x7), (9, .int x9), (10, .int x10)], [.ref x0], (h ++ R), 0, 0)) rfl ?_
  obtain ⟨v51, e52, hq⟩ := bsm hq
  refine r_gR odX0_isInFigure rfl rfl (gR_ap e52) ?_
  obtain ⟨v53, e54, hq⟩ := bsm hq
  refine r_gR odX0_isInFigure rfl rfl (gR_ap e54) ?_
  refine mB_run odX0_isInFigure 1 (g := (133, [(14, .long (v43 - v49).toInt64), (12, .long (v31 - v37).toInt64), (11, .int v25), (0, .ref x0), (1, .long x1), (3, .long x3), (5, .long x5), (7, .long x7), (9, .int x9), (10, .int x10)], [.int v25, .ref v53], (h ++ R), 0, 0)) rfl ?_
  obtain ⟨v55, e56, hq⟩ := bsm hq
  refine r_aI odX0_isInFigure rfl (aI_ap e56) ?_
  refine mB_run odX0_isInFigure 1 (g := (135, [(14, .long (v43 - v49).toInt64), (12, .long (v31 - v37).toInt64), (11, .int v25), (0, .ref x0), (1, .long x1), (3, .long x3), (5, .long x5), (7, .long x7), (9, .int x9), (10, .int x10)], [.ref x0, .int v55], (h ++ R), 0, 0)) rfl ?_
  obtain ⟨v57, e58, hq⟩ := bsm hq
  refine r_gR odX0_isInFigure rfl rfl (gR_ap e58) ?_
  obtain ⟨v59, e60, hq⟩ := bsm hq
  refine r_gR odX0_isInFigure rfl rfl (gR_ap e60) ?_
  refine mB_run odX0_isInFigure 1 (g := (143, [(14, .long (v43 - v49).toInt64), (12, .long (v31 - v37).toInt64), (11, .int v25), (0, .ref x0), (1, .long x1), (3, .long x3), (5, .long x5), (7, .long x7), (9, .int x9), (10, .int x10)], [.int x10, .ref v59, .int v55], (h ++ R), 0, 0)) rfl ?_
  obtain ⟨v61, e62, hq⟩ := bsm hq
  refine r_aI odX0_isInFigure rfl (aI_ap e62) ?_
  refine mB_run odX0_isInFigure 5 (g := (151, [(16, .long (v55 - v61).toInt64), (14, .long (v43 - v49).toInt64), (12, .long (v31 - v37).toInt64), (11, .int v25), (0, .ref x0), (1, .long x1), (3, .long x3), (5, .long x5), (7, .long x7), (9, .int x9), (10, .int x10)], [.ref x0, .long (v43 - v49).toInt64], (h ++ R), 0, 0)) rfl ?_
  obtain ⟨v63, e64, hq⟩ := bsm hq
  refine r_gR odX0_isInFigure rfl rfl (gR_ap e64) ?_
  refine mB_run odX0_isInFigure 1 (g := (155, [(16, .long (v55 - v61).toInt64), (14, .long (v43 - v49).toInt64), (12, .long (v31 - v37).toInt64), (11, .int v25), (0, .ref x0), (1, .long x1), (3, .long x3), (5, .long x5), (7, .long x7), (9, .int x9), (10, .int x10)], [.int (2 : Int32), .ref v63, .long (v43 - v49).toInt64], (h ++ R), 0, 0)) rfl ?_
  obtain ⟨v65, e66, hq⟩ := bsm hq
  refine r_aI odX0_isInFigure rfl (aI_ap e66) ?_
  refine mB_run odX0_isInFigure 4 (g := (161, [(16, .long (v55 - v61).toInt64), (14, .long (v43 - v49).toInt64), (12, .long (v31 - v37).toInt64), (11, .int v25), (0, .ref x0), (1, .long x1), (3, .long x3), (5, .long x5), (7, .long x7), (9, .int x9), (10, .int x10)], [.ref x0, .long (v55 - v61).toInt64, .long ((v43 - v49).toInt64 * v65.toInt64)], (h ++ R), 0, 0)) rfl ?_
  obtain ⟨v67, e68, hq⟩ := bsm hq
  refine r_gR odX0_isInFigure rfl rfl (gR_ap e68) ?_
  refine mB_run odX0_isInFigure 1 (g := (165, [(16, .long (v55 - v61).toInt64), (14, .long (v43 - v49).toInt64), (12, .long (v31 - v37).toInt64), (11, .int v25), (0, .ref x0), (1, .long x1), (3, .long x3), (5, .long x5), (7, .long x7), (9, .int x9), (10, .int x10)], [.int (1 : Int32), .ref v67, .long (v55 - v61).toInt64, .long ((v43 - v49).toInt64 * v65.toInt64)], (h ++ R), 0, 0)) rfl ?_
  obtain ⟨v69, e70, hq⟩ := bsm hq
  refine r_aI odX0_isInFigure rfl (aI_ap e70) ?_
  refine mB_run odX0_isInFigure 6 (g := (173, [(16, .long (v55 - v61).toInt64), (14, .long (v43 - v49).toInt64), (12, .long (v31 - v37).toInt64), (11, .int v25), (0, .ref x0), (1, .long x1), (3, .long x3), (5, .long x5), (7, .long x7), (9, .int x9), (10, .int x10)], [.ref x0, .long x7, .long x1, .long (((v43 - v49).toInt64 * v65.toInt64) - ((v55 - v61).toInt64 * v69.toInt64))], (h ++ R), 0, 0)) rfl ?_
  obtain ⟨v71, e72, hq⟩ := bsm hq
  refine r_gR odX0_isInFigure rfl rfl (gR_ap e72) ?_
  obtain ⟨v73, e74, hq⟩ := bsm hq
  refine r_gR odX0_isInFigure rfl rfl (gR_ap e74) ?_
  refine mB_run odX0_isInFigure 1 (g := (181, [(16, .long (v55 - v61).toInt64), (14, .long (v43 - v49).toInt64), (12, .long (v31 - v37).toInt64), (11, .int v25), (0, .ref x0), (1, .long x1), (3, .long x3), (5, .long x5), (7, .long x7), (9, .int x9), (10, .int x10)], [.int x10, .ref v73, .long x7, .long x1, .long (((v43 - v49).toInt64 * v65.toInt64) - ((v55 - v61).toInt64 * v69.toInt64))], (h ++ R), 0, 0)) rfl ?_
  obtain ⟨v75, e76, hq⟩ := bsm hq
  refine r_aI odX0_isInFigure rfl (aI_ap e76) ?_
  refine mB_run odX0_isInFigure 6 (g := (189, [(16, .long (v55 - v61).toInt64), (14, .long (v43 - v49).toInt64), (12, .long (v31 - v37).toInt64), (11, .int v25), (0, .ref x0), (1, .long x1), (3, .long x3), (5, .long x5), (7, .long x7), (9, .int x9), (10, .int x10)], [.ref x0, .long (v55 - v61).toInt64, .long ((((v43 - v49).toInt64 * v65.toInt64) - ((v55 - v61).toInt64 * v69.toInt64)) * (x1 - (x7 * v75.toInt64)))], (h ++ R), 0, 0)) rfl ?_
  obtain ⟨v77, e78, hq⟩ := bsm hq
  refine r_gR odX0_isInFigure rfl rfl (gR_ap e78) ?_
  refine mB_run odX0_isInFigure 1 (g := (193, [(16, .long (v55 - v61).toInt64), (14, .long (v43 - v49).toInt64), (12, .long (v31 - v37).toInt64), (11, .int v25), (0, .ref x0), (1, .long x1), (3, .long x3), (5, .long x5), (7, .long x7), (9, .int x9), (10, .int x10)], [.int (0 : Int32), .ref v77, .long (v55 - v61).toInt64, .long ((((v43 - v49).toInt64 * v65.toInt64) - ((v55 - v61).toInt64 * v69.toInt64)) * (x1 - (x7 * v75.toInt64)))], (h ++ R), 0, 0)) rfl ?_
  obtain ⟨v79, e80, hq⟩ := bsm hq
  refine r_aI odX0_isInFigure rfl (aI_ap e80) ?_
  refine mB_run odX0_isInFigure 4 (g := (199, [(16, .long (v55 - v61).toInt64), (14, .long (v43 - v49).toInt64), (12, .long (v31 - v37).toInt64), (11, .int v25), (0, .ref x0), (1, .long x1), (3, .long x3), (5, .long x5), (7, .long x7), (9, .int x9), (10, .int x10)], [.ref x0, .long (v31 - v37).toInt64, .long ((v55 - v61).toInt64 * v79.toInt64), .long ((((v43 - v49).toInt64 * v65.toInt64) - ((v55 - v61).toInt64 * v69.toInt64)) * (x1 - (x7 * v75.toInt64)))], (h ++ R), 0, 0)) rfl ?_
  obtain ⟨v81, e82, hq⟩ := bsm hq
  refine r_gR odX0_isInFigure rfl rfl (gR_ap e82) ?_
  refine mB_run odX0_isInFigure 1 (g := (203, [(16, .long (v55 - v61).toInt64), (14, .long (v43 - v49).toInt64), (12, .long (v31 - v37).toInt64), (11, .int v25), (0, .ref x0), (1, .long x1), (3, .long x3), (5, .long x5), (7, .long x7), (9, .int x9), (10, .int x10)], [.int (2 : Int32), .ref v81, .long (v31 - v37).toInt64, .long ((v55 - v61).toInt64 * v79.toInt64), .long ((((v43 - v49).toInt64 * v65.toInt64) - ((v55 - v61).toInt64 * v69.toInt64)) * (x1 - (x7 * v75.toInt64)))], (h ++ R), 0, 0)) rfl ?_
  obtain ⟨v83, e84, hq⟩ := bsm hq
  refine r_aI odX0_isInFigure rfl (aI_ap e84) ?_
  refine mB_run odX0_isInFigure 6 (g := (211, [(16, .long (v55 - v61).toInt64), (14, .long (v43 - v49).toInt64), (12, .long (v31 - v37).toInt64), (11, .int v25), (0, .ref x0), (1, .long x1), (3, .long x3), (5, .long x5), (7, .long x7), (9, .int x9), (10, .int x10)], [.ref x0, .long x7, .long x3, .long (((v55 - v61).toInt64 * v79.toInt64) - ((v31 - v37).toInt64 * v83.toInt64)), .long ((((v43 - v49).toInt64 * v65.toInt64) - ((v55 - v61).toInt64 * v69.toInt64)) * (x1 - (x7 * v75.toInt64)))], (h ++ R), 0, 0)) rfl ?_
  obtain ⟨v85, e86, hq⟩ := bsm hq
  refine r_gR odX0_isInFigure rfl rfl (gR_ap e86) ?_
  obtain ⟨v87, e88, hq⟩ := bsm hq
  refine r_gR odX0_isInFigure rfl rfl (gR_ap e88) ?_
  refine mB_run odX0_isInFigure 1 (g := (219, [(16, .long (v55 - v61).toInt64), (14, .long (v43 - v49).toInt64), (12, .long (v31 - v37).toInt64), (11, .int v25), (0, .ref x0), (1, .long x1), (3, .long x3), (5, .long x5), (7, .long x7), (9, .int x9), (10, .int x10)], [.int x10, .ref v87, .long x7, .long x3, .long (((v55 - v61).toInt64 * v79.toInt64) - ((v31 - v37).toInt64 * v83.toInt64)), .long ((((v43 - v49).toInt64 * v65.toInt64) - ((v55 - v61).toInt64 * v69.toInt64)) * (x1 - (x7 * v75.toInt64)))], (h ++ R), 0, 0)) rfl ?_
  obtain ⟨v89, e90, hq⟩ := bsm hq
  refine r_aI odX0_isInFigure rfl (aI_ap e90) ?_
  refine mB_run odX0_isInFigure 7 (g := (228, [(16, .long (v55 - v61).toInt64), (14, .long (v43 - v49).toInt64), (12, .long (v31 - v37).toInt64), (11, .int v25), (0, .ref x0), (1, .long x1), (3, .long x3), (5, .long x5), (7, .long x7), (9, .int x9), (10, .int x10)], [.ref x0, .long (v31 - v37).toInt64, .long (((((v43 - v49).toInt64 * v65.toInt64) - ((v55 - v61).toInt64 * v69.toInt64)) * (x1 - (x7 * v75.toInt64))) + ((((v55 - v61).toInt64 * v79.toInt64) - ((v31 - v37).toInt64 * v83.toInt64)) * (x3 - (x7 * v89.toInt64))))], (h ++ R), 0, 0)) rfl ?_
  obtain ⟨v91, e92, hq⟩ := bsm hq
  refine r_gR odX0_isInFigure rfl rfl (gR_ap e92) ?_
  refine mB_run odX0_isInFigure 1 (g := (232, [(16, .long (v55 - v61).toInt64), (14, .long (v43 - v49).toInt64), (12, .long (v31 - v37).toInt64), (11, .int v25), (0, .ref x0), (1, .long x1), (3, .long x3), (5, .long x5), (7, .long x7), (9, .int x9), (10, .int x10)], [.int (1 : Int32), .ref v91, .long (v31 - v37).toInt64, .long (((((v43 - v49).toInt64 * v65.toInt64) - ((v55 - v61).toInt64 * v69.toInt64)) * (x1 - (x7 * v75.toInt64))) + ((((v55 - v61).toInt64 * v79.toInt64) - ((v31 - v37).toInt64 * v83.toInt64)) * (x3 - (x7 * v89.toInt64))))], (h ++ R), 0, 0)) rfl ?_
  obtain ⟨v93, e94, hq⟩ := bsm hq
  refine r_aI odX0_isInFigure rfl (aI_ap e94) ?_
  refine mB_run odX0_isInFigure 4 (g := (238, [(16, .long (v55 - v61).toInt64), (14, .long (v43 - v49).toInt64), (12, .long (v31 - v37).toInt64), (11, .int v25), (0, .ref x0), (1, .long x1), (3, .long x3), (5, .long x5), (7, .long x7), (9, .int x9), (10, .int x10)], [.ref x0, .long (v43 - v49).toInt64, .long ((v31 - v37).toInt64 * v93.toInt64), .long (((((v43 - v49).toInt64 * v65.toInt64) - ((v55 - v61).toInt64 * v69.toInt64)) * (x1 - (x7 * v75.toInt64))) + ((((v55 - v61).toInt64 * v79.toInt64) - ((v31 - v37).toInt64 * v83.toInt64)) * (x3 - (x7 * v89.toInt64))))], (h ++ R), 0, 0)) rfl ?_
  obtain ⟨v95, e96, hq⟩ := bsm hq
  refine r_gR odX0_isInFigure rfl rfl (gR_ap e96) ?_
  refine mB_run odX0_isInFigure 1 (g := (242, [(16, .long (v55 - v61).toInt64), (14, .long (v43 - v49).toInt64), (12, .long (v31 - v37).toInt64), (11, .int v25), (0, .ref x0), (1, .long x1), (3, .long x3), (5, .long x5), (7, .long x7), (9, .int x9), (10, .int x10)], [.int (0 : Int32), .ref v95, .long (v43 - v49).toInt64, .long ((v31 - v37).toInt64 * v93.toInt64), .long (((((v43 - v49).toInt64 * v65.toInt64) - ((v55 - v61).toInt64 * v69.toInt64)) * (x1 - (x7 * v75.toInt64))) + ((((v55 - v61).toInt64 * v79.toInt64) - ((v31 - v37).toInt64 * v83.toInt64)) * (x3 - (x7 * v89.toInt64))))], (h ++ R), 0, 0)) rfl ?_
  obtain ⟨v97, e98, hq⟩ := bsm hq
  refine r_aI odX0_isInFigure rfl (aI_ap e98) ?_
  refine mB_run odX0_isInFigure 6 (g := (251, [(16, .long (v55 - v61).toInt64), (14, .long (v43 - v49).toInt64), (12, .long (v31 - v37).toInt64), (11, .int v25), (0, .ref x0), (1, .long x1), (3, .long x3), (5, .long x5), (7, .long x7), (9, .int x9), (10, .int x10)], [.ref x0, .long x7, .long x5, .long (((v31 - v37).toInt64 * v93.toInt64) - ((v43 - v49).toInt64 * v97.toInt64)), .long (((((v43 - v49).toInt64 * v65.toInt64) - ((v55 - v61).toInt64 * v69.toInt64)) * (x1 - (x7 * v75.toInt64))) + ((((v55 - v61).toInt64 * v79.toInt64) - ((v31 - v37).toInt64 * v83.toInt64)) * (x3 - (x7 * v89.toInt64))))], (h ++ R), 0, 0)) rfl ?_
  obtain ⟨v99, e100, hq⟩ := bsm hq
  refine r_gR odX0_isInFigure rfl rfl (gR_ap e100) ?_
  obtain ⟨v101, e102, hq⟩ := bsm hq
  refine r_gR odX0_isInFigure rfl rfl (gR_ap e102) ?_
  refine mB_run odX0_isInFigure 1 (g := (259, [(16, .long (v55 - v61).toInt64), (14, .long (v43 - v49).toInt64), (12, .long (v31 - v37).toInt64), (11, .int v25), (0, .ref x0), (1, .long x1), (3, .long x3), (5, .long x5), (7, .long x7), (9, .int x9), (10, .int x10)], [.int x10, .ref v101, .long x7, .long x5, .long (((v31 - v37).toInt64 * v93.toInt64) - ((v43 - v49).toInt64 * v97.toInt64)), .long (((((v43 - v49).toInt64 * v65.toInt64) - ((v55 - v61).toInt64 * v69.toInt64)) * (x1 - (x7 * v75.toInt64))) + ((((v55 - v61).toInt64 * v79.toInt64) - ((v31 - v37).toInt64 * v83.toInt64)) * (x3 - (x7 * v89.toInt64))))], (h ++ R), 0, 0)) rfl ?_
  obtain ⟨v103, e104, hq⟩ := bsm hq
  refine r_aI odX0_isInFigure rfl (aI_ap e104) ?_
  refine mB_run odX0_isInFigure 8 (g := (270, [(18, .long ((((((v43 - v49).toInt64 * v65.toInt64) - ((v55 - v61).toInt64 * v69.toInt64)) * (x1 - (x7 * v75.toInt64))) + ((((v55 - v61).toInt64 * v79.toInt64) - ((v31 - v37).toInt64 * v83.toInt64)) * (x3 - (x7 * v89.toInt64)))) + ((((v31 - v37).toInt64 * v93.toInt64) - ((v43 - v49).toInt64 * v97.toInt64)) * (x5 - (x7 * v103.toInt64))))), (16, .long (v55 - v61).toInt64), (14, .long (v43 - v49).toInt64), (12, .long (v31 - v37).toInt64), (11, .int v25), (0, .ref x0), (1, .long x1), (3, .long x3), (5, .long x5), (7, .long x7), (9, .int x9), (10, .int x10)], [.long (0 : Int64), .long ((((((v43 - v49).toInt64 * v65.toInt64) - ((v55 - v61).toInt64 * v69.toInt64)) * (x1 - (x7 * v75.toInt64))) + ((((v55 - v61).toInt64 * v79.toInt64) - ((v31 - v37).toInt64 * v83.toInt64)) * (x3 - (x7 * v89.toInt64)))) + ((((v31 - v37).toInt64 * v93.toInt64) - ((v43 - v49).toInt64 * v97.toInt64)) * (x5 - (x7 * v103.toInt64))))], (h ++ R), 0, 0)) rfl ?_
  by_cases c105 : ((((((v43 - v49).toInt64 * v65.toInt64) - ((v55 - v61).toInt64 * v69.toInt64)) * (x1 - (x7 * v75.toInt64))) + ((((v55 - v61).toInt64 * v79.toInt64) - ((v31 - v37).toInt64 * v83.toInt64)) * (x3 - (x7 * v89.toInt64)))) + ((((v31 - v37).toInt64 * v93.toInt64) - ((v43 - v49).toInt64 * v97.toInt64)) * (x5 - (x7 * v103.toInt64)))) ≤ (0 : Int64)
  · rw [if_pos c105] at hq
    refine lc_le_T (t := 276) odX0_isInFigure rfl rfl rfl c105 ?_
    refine mB_run odX0_isInFigure 2 (g := (28, [(9, .int (x9 + (1 : Int32))), (18, .long ((((((v43 - v49).toInt64 * v65.toInt64) - ((v55 - v61).toInt64 * v69.toInt64)) * (x1 - (x7 * v75.toInt64))) + ((((v55 - v61).toInt64 * v79.toInt64) - ((v31 - v37).toInt64 * v83.toInt64)) * (x3 - (x7 * v89.toInt64)))) + ((((v31 - v37).toInt64 * v93.toInt64) - ((v43 - v49).toInt64 * v97.toInt64)) * (x5 - (x7 * v103.toInt64))))), (16, .long (v55 - v61).toInt64), (14, .long (v43 - v49).toInt64), (12, .long (v31 - v37).toInt64), (11, .int v25), (0, .ref x0), (1, .long x1), (3, .long x3), (5, .long x5), (7, .long x7), (10, .int x10)], [], (h ++ R), 0, 0)) rfl ?_
    refine mB_lv [6, 7, 8, 9, 10, 0] (lv' := [(0, .ref x0), (1, .long x1), (3, .long x3), (5, .long x5), (7, .long x7), (9, .int (x9 + (1 : Int32)))]) rfl ?_
    exact hrec28 _ _ _ _ _ _ _ hq
  · rw [if_neg c105] at hq
    refine lc_le_F (t := 276) odX0_isInFigure rfl rfl rfl c105 ?_
    refine mB_run odX0_isInFigure 1 (g := (275, [(18, .long ((((((v43 - v49).toInt64 * v65.toInt64) - ((v55 - v61).toInt64 * v69.toInt64)) * (x1 - (x7 * v75.toInt64))) + ((((v55 - v61).toInt64 * v79.toInt64) - ((v31 - v37).toInt64 * v83.toInt64)) * (x3 - (x7 * v89.toInt64)))) + ((((v31 - v37).toInt64 * v93.toInt64) - ((v43 - v49).toInt64 * v97.toInt64)) * (x5 - (x7 * v103.toInt64))))), (16, .long (v55 - v61).toInt64), (14, .long (v43 - v49).toInt64), (12, .long (v31 - v37).toInt64), (11, .int v25), (0, .ref x0), (1, .long x1), (3, .long x3), (5, .long x5), (7, .long x7), (9, .int x9), (10, .int x10)], [.int (0 : Int32)], (h ++ R), 0, 0)) rfl ?_
    cases hq
    exact mB_ret odX0_isInFigure rfl
set_option maxHeartbeats 4000000 in
set_option maxRecDepth 100000 in
theorem eaX0_isInFigure_28 {N : Nat} {R : mh} : ∀ (n : Nat) (x0 : Nat) (x1 : Int64) (x3 : Int64) (x5 : Int64) (x7 : Int64) (x9 : Int32) (h : mh) {o : (mh × Int32)}, fxX0_isInFigure_28 N n x0 x1 x3 x5 x7 x9 h = some o → mB (gO mX0_isInFigure (o.1 ++ R, some (.int o.2))) mX0_isInFigure (28, [(0, .ref x0), (1, .long x1), (3, .long x3), (5, .long x5), (7, .long x7), (9, .int x9)], [], (h ++ R), 0, 0) := by
  intro n
  induction n with
  | zero => intro x0 x1 x3 x5 x7 x9 h o hq; cases hq
  | succ n ih =>
    intro x0 x1 x3 x5 x7 x9 h o hq
    unfold fxX0_isInFigure_28 at hq
    refine mB_run odX0_isInFigure 2 (g := (31, [(0, .ref x0), (1, .long x1), (3, .long x3), (5, .long x5), (7, .long x7), (9, .int x9)], [.ref x0, .int x9], (h ++ R), 0, 0)) rfl ?_
    obtain ⟨v9, e10, hq⟩ := bsm hq
    refine r_gR odX0_isInFigure rfl rfl (gR_ap e10) ?_
    refine mB_run odX0_isInFigure 1 (g := (35, [(0, .ref x0), (1, .long x1), (3, .long x3), (5, .long x5), (7, .long x7), (9, .int x9)], [.int (1 : Int32), .ref v9, .int x9], (h ++ R), 0, 0)) rfl ?_
    obtain ⟨v11, e12, hq⟩ := bsm hq
    refine r_aI odX0_isInFigure rfl (aI_ap e12) ?_
    by_cases c13 : v11 ≤ x9
    · rw [if_pos c13] at hq
      refine ic_ge_T (t := 282) odX0_isInFigure rfl rfl c13 ?_
      refine mB_run odX0_isInFigure 1 (g := (283, [(0, .ref x0), (1, .long x1), (3, .long x3), (5, .long x5), (7, .long x7), (9, .int x9)], [.int (1 : Int32)], (h ++ R), 0, 0)) rfl ?_
      cases hq
      exact mB_ret odX0_isInFigure rfl
    · rw [if_neg c13] at hq
      refine ic_ge_F (t := 282) odX0_isInFigure rfl rfl c13 ?_
      refine mB_run odX0_isInFigure 1 (g := (40, [(0, .ref x0), (1, .long x1), (3, .long x3), (5, .long x5), (7, .long x7), (9, .int x9)], [.ref x0], (h ++ R), 0, 0)) rfl ?_
      obtain ⟨v14, e15, hq⟩ := bsm hq
      refine r_gR odX0_isInFigure rfl rfl (gR_ap e15) ?_
      refine mB_run odX0_isInFigure 1 (g := (45, [(0, .ref x0), (1, .long x1), (3, .long x3), (5, .long x5), (7, .long x7), (9, .int x9)], [.int x9, .ref v14], (h ++ R), 0, 0)) rfl ?_
      obtain ⟨v16, e17, hq⟩ := bsm hq
      refine r_aI odX0_isInFigure rfl (aI_ap e17) ?_
      refine mB_run odX0_isInFigure 2 (g := (49, [(10, .int v16), (0, .ref x0), (1, .long x1), (3, .long x3), (5, .long x5), (7, .long x7), (9, .int x9)], [.ref x0], (h ++ R), 0, 0)) rfl ?_
      obtain ⟨v18, e19, hq⟩ := bsm hq
      refine r_gR odX0_isInFigure rfl rfl (gR_ap e19) ?_
      refine mB_run odX0_isInFigure 4 (g := (57, [(10, .int v16), (0, .ref x0), (1, .long x1), (3, .long x3), (5, .long x5), (7, .long x7), (9, .int x9)], [.ref x0, .int (x9 + (1 : Int32)), .ref v18], (h ++ R), 0, 0)) rfl ?_
      obtain ⟨v20, e21, hq⟩ := bsm hq
      refine r_gR odX0_isInFigure rfl rfl (gR_ap e21) ?_
      refine mB_run odX0_isInFigure 1 (g := (61, [(10, .int v16), (0, .ref x0), (1, .long x1), (3, .long x3), (5, .long x5), (7, .long x7), (9, .int x9)], [.int (1 : Int32), .ref v20, .int (x9 + (1 : Int32)), .ref v18], (h ++ R), 0, 0)) rfl ?_
      obtain ⟨v22, e23, hq⟩ := bsm hq
      refine r_aI odX0_isInFigure rfl (aI_ap e23) ?_
      by_cases c24 : v22 ≤ (x9 + (1 : Int32))
      · rw [if_pos c24] at hq
        refine ic_ge_T (t := 72) odX0_isInFigure rfl rfl c24 ?_
        refine mB_run odX0_isInFigure 1 (g := (73, [(10, .int v16), (0, .ref x0), (1, .long x1), (3, .long x3), (5, .long x5), (7, .long x7), (9, .int x9)], [.int (0 : Int32), .ref v18], (h ++ R), 0, 0)) rfl ?_
        refine mB_lv [1, 2, 3, 4, 5, 6, 0] (lv' := [(0, .ref x0), (1, .long x1), (3, .long x3), (5, .long x5), (7, .long x7), (9, .int x9), (10, .int v16)]) rfl ?_
        exact eaX0_isInFigure_73 ih _ _ _ _ _ _ _ _ _ _ hq
      · rw [if_neg c24] at hq
        refine ic_ge_F (t := 72) odX0_isInFigure rfl rfl c24 ?_
        refine mB_run odX0_isInFigure 4 (g := (73, [(10, .int v16), (0, .ref x0), (1, .long x1), (3, .long x3), (5, .long x5), (7, .long x7), (9, .int x9)], [.int (x9 + (1 : Int32)), .ref v18], (h ++ R), 0, 0)) rfl ?_
        refine mB_lv [1, 2, 3, 4, 5, 6, 0] (lv' := [(0, .ref x0), (1, .long x1), (3, .long x3), (5, .long x5), (7, .long x7), (9, .int x9), (10, .int v16)]) rfl ?_
        exact eaX0_isInFigure_73 ih _ _ _ _ _ _ _ _ _ _ hq
set_option maxHeartbeats 4000000 in
set_option maxRecDepth 100000 in
theorem eaX0_isInFigure {N : Nat} {R : mh} {p0 : Nat} {p1 : Int64} {p2 : Int64} {p3 : Int64} {p4 : Int64} {h : mh} {o : (mh × Int32)} (hq : fxX0_isInFigure N p0 p1 p2 p3 p4 h = some o) : mC mX0_isInFigure [.ref p0, .long p1, .long p2, .long p3, .long p4] (h ++ R) (o.1 ++ R, some (.int o.2)) := by
  refine mC_of okX0_isInFigure (Nat.le_of_ble_eq_true rfl) ?_
  unfold fxX0_isInFigure at hq
  show mB _ mX0_isInFigure (0, [(0, .ref p0), (1, .long p1), (3, .long p2), (5, .long p3), (7, .long p4)], [], (h ++ R), 0, 0)
  refine mB_run odX0_isInFigure 1 (g := (1, [(0, .ref p0), (1, .long p1), (3, .long p2), (5, .long p3), (7, .long p4)], [.ref p0], (h ++ R), 0, 0)) rfl ?_
  obtain ⟨v1, e2, hq⟩ := bsm hq
  refine r_gI odX0_isInFigure rfl rfl (gI_ap e2) ?_
  by_cases c3 : v1 = 0
  · rw [if_pos c3] at hq
    refine if_eq_T (t := 23) odX0_isInFigure rfl rfl c3 ?_
    refine mB_run odX0_isInFigure 1 (g := (24, [(0, .ref p0), (1, .long p1), (3, .long p2), (5, .long p3), (7, .long p4)], [.int (0 : Int32)], (h ++ R), 0, 0)) rfl ?_
    cases hq
    exact mB_ret odX0_isInFigure rfl
  · rw [if_neg c3] at hq
    refine if_eq_F (t := 23) odX0_isInFigure rfl rfl c3 ?_
    refine mB_run odX0_isInFigure 6 (g := (15, [(0, .ref p0), (1, .long p1), (3, .long p2), (5, .long p3), (7, .long p4)], [.long p4, .long p3, .long p2, .long p1, .int (0 : Int32), .ref p0], (h ++ R), 0, 0)) rfl ?_
    obtain ⟨f6, k7, hq⟩ := bsm hq
    obtain ⟨o4, e5, hq⟩ := bsm hq
    refine mB_V (as := [.int (0 : Int32), .long p1, .long p2, .long p3, .long p4]) odX0_isInFigure okX0_excess lk_0_98 rfl (eaX0_excess e5) (kO_at (kO_ap k7)) rfl rfl rfl ?_
    show mB _ mX0_isInFigure (18, [(0, .ref p0), (1, .long p1), (3, .long p2), (5, .long p3), (7, .long p4)], [.long o4.2], (o4.1 ++ R), 0, 0)
    refine mB_run odX0_isInFigure 1 (g := (19, [(0, .ref p0), (1, .long p1), (3, .long p2), (5, .long p3), (7, .long p4)], [.long (0 : Int64), .long o4.2], (o4.1 ++ R), 0, 0)) rfl ?_
    by_cases c8 : o4.2 = (0 : Int64)
    · rw [if_pos c8] at hq
      refine lc_eq_T (t := 25) odX0_isInFigure rfl rfl rfl c8 ?_
      refine mB_run odX0_isInFigure 2 (g := (28, [(9, .int (0 : Int32)), (0, .ref p0), (1, .long p1), (3, .long p2), (5, .long p3), (7, .long p4)], [], (o4.1 ++ R), 0, 0)) rfl ?_
      refine mB_lv [1, 2, 3, 4, 5, 0] (lv' := [(0, .ref p0), (1, .long p1), (3, .long p2), (5, .long p3), (7, .long p4), (9, .int (0 : Int32))]) rfl ?_
      exact eaX0_isInFigure_28 N _ _ _ _ _ _ _ hq
    · rw [if_neg c8] at hq
      refine lc_eq_F (t := 25) odX0_isInFigure rfl rfl rfl c8 ?_
      refine mB_run odX0_isInFigure 1 (g := (24, [(0, .ref p0), (1, .long p1), (3, .long p2), (5, .long p3), (7, .long p4)], [.int (0 : Int32)], (o4.1 ++ R), 0, 0)) rfl ?_
      cases hq
      exact mB_ret odX0_isInFigure rfl
set_option maxHeartbeats 4000000 in
set_option maxRecDepth 100000 in
theorem eaX0_isOnLine {N : Nat} {R : mh} {p0 : Nat} {p1 : Int64} {p2 : Int64} {p3 : Int64} {p4 : Int64} {h : mh} {o : (mh × Int32)} (hq : fxX0_isOnLine N p0 p1 p2 p3 p4 h = some o) : mC mX0_isOnLine [.ref p0, .long p1, .long p2, .long p3, .long p4] (h ++ R) (o.1 ++ R, some (.int o.2)) := by
  refine mC_of okX0_isOnLine (Nat.le_of_ble_eq_true rfl) ?_
  unfold fxX0_isOnLine at hq
  show mB _ mX0_isOnLine (0, [(0, .ref p0), (1, .long p1), (3, .long p2), (5, .long p3), (7, .long p4)], [], (h ++ R), 0, 0)
  refine mB_run odX0_isOnLine 1 (g := (1, [(0, .ref p0), (1, .long p1), (3, .long p2), (5, .long p3), (7, .long p4)], [.ref p0], (h ++ R), 0, 0)) rfl ?_
  obtain ⟨v1, e2, hq⟩ := bsm hq
  refine r_gR odX0_isOnLine rfl rfl (gR_ap e2) ?_
  obtain ⟨v3, e4, hq⟩ := bsm hq
  refine r_gI odX0_isOnLine rfl rfl (gI_ap e4) ?_
  refine mB_run odX0_isOnLine 4 (g := (13, [(9, .int (v3 - (1 : Int32))), (0, .ref p0), (1, .long p1), (3, .long p2), (5, .long p3), (7, .long p4)], [.int (v3 - (1 : Int32))], (h ++ R), 0, 0)) rfl ?_
  by_cases c5 : 0 ≤ (v3 - (1 : Int32))
  · rw [if_pos c5] at hq
    refine if_ge_T (t := 18) odX0_isOnLine rfl rfl c5 ?_
    refine mB_run odX0_isOnLine 1 (g := (19, [(9, .int (v3 - (1 : Int32))), (0, .ref p0), (1, .long p1), (3, .long p2), (5, .long p3), (7, .long p4)], [.ref p0], (h ++ R), 0, 0)) rfl ?_
    obtain ⟨v6, e7, hq⟩ := bsm hq
    refine r_gR odX0_isOnLine rfl rfl (gR_ap e7) ?_
    obtain ⟨v8, e9, hq⟩ := bsm hq
    refine r_gR odX0_isOnLine rfl rfl (gR_ap e9) ?_
    refine mB_run odX0_isOnLine 1 (g := (27, [(9, .int (v3 - (1 : Int32))), (0, .ref p0), (1, .long p1), (3, .long p2), (5, .long p3), (7, .long p4)], [.int (v3 - (1 : Int32)), .ref v8], (h ++ R), 0, 0)) rfl ?_
    obtain ⟨v10, e11, hq⟩ := bsm hq
    refine r_aI odX0_isOnLine rfl (aI_ap e11) ?_
    refine mB_run odX0_isOnLine 1 (g := (29, [(9, .int (v3 - (1 : Int32))), (0, .ref p0), (1, .long p1), (3, .long p2), (5, .long p3), (7, .long p4)], [.ref p0, .int v10], (h ++ R), 0, 0)) rfl ?_
    obtain ⟨v12, e13, hq⟩ := bsm hq
    refine r_gR odX0_isOnLine rfl rfl (gR_ap e13) ?_
    obtain ⟨v14, e15, hq⟩ := bsm hq
    refine r_gR odX0_isOnLine rfl rfl (gR_ap e15) ?_
    refine mB_run odX0_isOnLine 1 (g := (36, [(9, .int (v3 - (1 : Int32))), (0, .ref p0), (1, .long p1), (3, .long p2), (5, .long p3), (7, .long p4)], [.int (0 : Int32), .ref v14, .int v10], (h ++ R), 0, 0)) rfl ?_
    obtain ⟨v16, e17, hq⟩ := bsm hq
    refine r_aI odX0_isOnLine rfl (aI_ap e17) ?_
    refine mB_run odX0_isOnLine 4 (g := (42, [(10, .long (v10 - v16).toInt64), (9, .int (v3 - (1 : Int32))), (0, .ref p0), (1, .long p1), (3, .long p2), (5, .long p3), (7, .long p4)], [.ref p0], (h ++ R), 0, 0)) rfl ?_
    obtain ⟨v18, e19, hq⟩ := bsm hq
    refine r_gR odX0_isOnLine rfl rfl (gR_ap e19) ?_
    obtain ⟨v20, e21, hq⟩ := bsm hq
    refine r_gR odX0_isOnLine rfl rfl (gR_ap e21) ?_
    refine mB_run odX0_isOnLine 1 (g := (50, [(10, .long (v10 - v16).toInt64), (9, .int (v3 - (1 : Int32))), (0, .ref p0), (1, .long p1), (3, .long p2), (5, .long p3), (7, .long p4)], [.int (v3 - (1 : Int32)), .ref v20], (h ++ R), 0, 0)) rfl ?_
    obtain ⟨v22, e23, hq⟩ := bsm hq
    refine r_aI odX0_isOnLine rfl (aI_ap e23) ?_
    refine mB_run odX0_isOnLine 1 (g := (52, [(10, .long (v10 - v16).toInt64), (9, .int (v3 - (1 : Int32))), (0, .ref p0), (1, .long p1), (3, .long p2), (5, .long p3), (7, .long p4)], [.ref p0, .int v22], (h ++ R), 0, 0)) rfl ?_
    obtain ⟨v24, e25, hq⟩ := bsm hq
    refine r_gR odX0_isOnLine rfl rfl (gR_ap e25) ?_
    obtain ⟨v26, e27, hq⟩ := bsm hq
    refine r_gR odX0_isOnLine rfl rfl (gR_ap e27) ?_
    refine mB_run odX0_isOnLine 1 (g := (59, [(10, .long (v10 - v16).toInt64), (9, .int (v3 - (1 : Int32))), (0, .ref p0), (1, .long p1), (3, .long p2), (5, .long p3), (7, .long p4)], [.int (0 : Int32), .ref v26, .int v22], (h ++ R), 0, 0)) rfl ?_
    obtain ⟨v28, e29, hq⟩ := bsm hq
    refine r_aI odX0_isOnLine rfl (aI_ap e29) ?_
    refine mB_run odX0_isOnLine 4 (g := (65, [(12, .long (v22 - v28).toInt64), (10, .long (v10 - v16).toInt64), (9, .int (v3 - (1 : Int32))), (0, .ref p0), (1, .long p1), (3, .long p2), (5, .long p3), (7, .long p4)], [.ref p0], (h ++ R), 0, 0)) rfl ?_
    obtain ⟨v30, e31, hq⟩ := bsm hq
    refine r_gR odX0_isOnLine rfl rfl (gR_ap e31) ?_
    obtain ⟨v32, e33, hq⟩ := bsm hq
    refine r_gR odX0_isOnLine rfl rfl (gR_ap e33) ?_
    refine mB_run odX0_isOnLine 1 (g := (73, [(12, .long (v22 - v28).toInt64), (10, .long (v10 - v16).toInt64), (9, .int (v3 - (1 : Int32))), (0, .ref p0), (1, .long p1), (3, .long p2), (5, .long p3), (7, .long p4)], [.int (v3 - (1 : Int32)), .ref v32], (h ++ R), 0, 0)) rfl ?_
    obtain ⟨v34, e35, hq⟩ := bsm hq
    refine r_aI odX0_isOnLine rfl (aI_ap e35) ?_
    refine mB_run odX0_isOnLine 1 (g := (75, [(12, .long (v22 - v28).toInt64), (10, .long (v10 - v16).toInt64), (9, .int (v3 - (1 : Int32))), (0, .ref p0), (1, .long p1), (3, .long p2), (5, .long p3), (7, .long p4)], [.ref p0, .int v34], (h ++ R), 0, 0)) rfl ?_
    obtain ⟨v36, e37, hq⟩ := bsm hq
    refine r_gR odX0_isOnLine rfl rfl (gR_ap e37) ?_
    obtain ⟨v38, e39, hq⟩ := bsm hq
    refine r_gR odX0_isOnLine rfl rfl (gR_ap e39) ?_
    refine mB_run odX0_isOnLine 1 (g := (82, [(12, .long (v22 - v28).toInt64), (10, .long (v10 - v16).toInt64), (9, .int (v3 - (1 : Int32))), (0, .ref p0), (1, .long p1), (3, .long p2), (5, .long p3), (7, .long p4)], [.int (0 : Int32), .ref v38, .int v34], (h ++ R), 0, 0)) rfl ?_
    obtain ⟨v40, e41, hq⟩ := bsm hq
    refine r_aI odX0_isOnLine rfl (aI_ap e41) ?_
    refine mB_run odX0_isOnLine 6 (g := (91, [(14, .long (v34 - v40).toInt64), (12, .long (v22 - v28).toInt64), (10, .long (v10 - v16).toInt64), (9, .int (v3 - (1 : Int32))), (0, .ref p0), (1, .long p1), (3, .long p2), (5, .long p3), (7, .long p4)], [.ref p0, .long p4, .long p1], (h ++ R), 0, 0)) rfl ?_
    obtain ⟨v42, e43, hq⟩ := bsm hq
    refine r_gR odX0_isOnLine rfl rfl (gR_ap e43) ?_
    obtain ⟨v44, e45, hq⟩ := bsm hq
    refine r_gR odX0_isOnLine rfl rfl (gR_ap e45) ?_
    refine mB_run odX0_isOnLine 1 (g := (98, [(14, .long (v34 - v40).toInt64), (12, .long (v22 - v28).toInt64), (10, .long (v10 - v16).toInt64), (9, .int (v3 - (1 : Int32))), (0, .ref p0), (1, .long p1), (3, .long p2), (5, .long p3), (7, .long p4)], [.int (0 : Int32), .ref v44, .long p4, .long p1], (h ++ R), 0, 0)) rfl ?_
    obtain ⟨v46, e47, hq⟩ := bsm hq
    refine r_aI odX0_isOnLine rfl (aI_ap e47) ?_
    refine mB_run odX0_isOnLine 7 (g := (108, [(16, .long (p1 - (p4 * v46.toInt64))), (14, .long (v34 - v40).toInt64), (12, .long (v22 - v28).toInt64), (10, .long (v10 - v16).toInt64), (9, .int (v3 - (1 : Int32))), (0, .ref p0), (1, .long p1), (3, .long p2), (5, .long p3), (7, .long p4)], [.ref p0, .long p4, .long p2], (h ++ R), 0, 0)) rfl ?_
    obtain ⟨v48, e49, hq⟩ := bsm hq
    refine r_gR odX0_isOnLine rfl rfl (gR_ap e49) ?_
    obtain ⟨v50, e51, hq⟩ := bsm hq
    refine r_gR odX0_isOnLine rfl rfl (gR_ap e51) ?_
    refine mB_run odX0_isOnLine 1 (g := (115, [(16, .long (p1 - (p4 * v46.toInt64))), (14, .long (v34 - v40).toInt64), (12, .long (v22 - v28).toInt64), (10, .long (v10 - v16).toInt64), (9, .int (v3 - (1 : Int32))), (0, .ref p0), (1, .long p1), (3, .long p2), (5, .long p3), (7, .long p4)], [.int (0 : Int32), .ref v50, .long p4, .long p2], (h ++ R), 0, 0)) rfl ?_
    obtain ⟨v52, e53, hq⟩ := bsm hq
    refine r_aI odX0_isOnLine rfl (aI_ap e53) ?_
    refine mB_run odX0_isOnLine 7 (g := (126, [(18, .long (p2 - (p4 * v52.toInt64))), (16, .long (p1 - (p4 * v46.toInt64))), (14, .long (v34 - v40).toInt64), (12, .long (v22 - v28).toInt64), (10, .long (v10 - v16).toInt64), (9, .int (v3 - (1 : Int32))), (0, .ref p0), (1, .long p1), (3, .long p2), (5, .long p3), (7, .long p4)], [.ref p0, .long p4, .long p3], (h ++ R), 0, 0)) rfl ?_
    obtain ⟨v54, e55, hq⟩ := bsm hq
    refine r_gR odX0_isOnLine rfl rfl (gR_ap e55) ?_
    obtain ⟨v56, e57, hq⟩ := bsm hq
    refine r_gR odX0_isOnLine rfl rfl (gR_ap e57) ?_
    refine mB_run odX0_isOnLine 1 (g := (133, [(18, .long (p2 - (p4 * v52.toInt64))), (16, .long (p1 - (p4 * v46.toInt64))), (14, .long (v34 - v40).toInt64), (12, .long (v22 - v28).toInt64), (10, .long (v10 - v16).toInt64), (9, .int (v3 - (1 : Int32))), (0, .ref p0), (1, .long p1), (3, .long p2), (5, .long p3), (7, .long p4)], [.int (0 : Int32), .ref v56, .long p4, .long p3], (h ++ R), 0, 0)) rfl ?_
    obtain ⟨v58, e59, hq⟩ := bsm hq
    refine r_aI odX0_isOnLine rfl (aI_ap e59) ?_
    refine mB_run odX0_isOnLine 5 (g := (141, [(20, .long (p3 - (p4 * v58.toInt64))), (18, .long (p2 - (p4 * v52.toInt64))), (16, .long (p1 - (p4 * v46.toInt64))), (14, .long (v34 - v40).toInt64), (12, .long (v22 - v28).toInt64), (10, .long (v10 - v16).toInt64), (9, .int (v3 - (1 : Int32))), (0, .ref p0), (1, .long p1), (3, .long p2), (5, .long p3), (7, .long p4)], [.int (v3 - (1 : Int32))], (h ++ R), 0, 0)) rfl ?_
    by_cases c60 : (v3 - (1 : Int32)) = 0
    · rw [if_pos c60] at hq
      refine if_ne_F (t := 171) odX0_isOnLine rfl rfl c60 ?_
      refine mB_run odX0_isOnLine 2 (g := (147, [(20, .long (p3 - (p4 * v58.toInt64))), (18, .long (p2 - (p4 * v52.toInt64))), (16, .long (p1 - (p4 * v46.toInt64))), (14, .long (v34 - v40).toInt64), (12, .long (v22 - v28).toInt64), (10, .long (v10 - v16).toInt64), (9, .int (v3 - (1 : Int32))), (0, .ref p0), (1, .long p1), (3, .long p2), (5, .long p3), (7, .long p4)], [.long (0 : Int64), .long (p1 - (p4 * v46.toInt64))], (h ++ R), 0, 0)) rfl ?_
      by_cases c61 : (p1 - (p4 * v46.toInt64)) = (0 : Int64)
      · rw [if_pos c61] at hq
        refine lc_ne_F (t := 169) odX0_isOnLine rfl rfl rfl c61 ?_
        refine mB_run odX0_isOnLine 2 (g := (154, [(20, .long (p3 - (p4 * v58.toInt64))), (18, .long (p2 - (p4 * v52.toInt64))), (16, .long (p1 - (p4 * v46.toInt64))), (14, .long (v34 - v40).toInt64), (12, .long (v22 - v28).toInt64), (10, .long (v10 - v16).toInt64), (9, .int (v3 - (1 : Int32))), (0, .ref p0), (1, .long p1), (3, .long p2), (5, .long p3), (7, .long p4)], [.long (0 : Int64), .long (p2 - (p4 * v52.toInt64))], (h ++ R), 0, 0)) rfl ?_
        by_cases c62 : (p2 - (p4 * v52.toInt64)) = (0 : Int64)
        · rw [if_pos c62] at hq
          refine lc_ne_F (t := 169) odX0_isOnLine rfl rfl rfl c62 ?_
          refine mB_run odX0_isOnLine 2 (g := (161, [(20, .long (p3 - (p4 * v58.toInt64))), (18, .long (p2 - (p4 * v52.toInt64))), (16, .long (p1 - (p4 * v46.toInt64))), (14, .long (v34 - v40).toInt64), (12, .long (v22 - v28).toInt64), (10, .long (v10 - v16).toInt64), (9, .int (v3 - (1 : Int32))), (0, .ref p0), (1, .long p1), (3, .long p2), (5, .long p3), (7, .long p4)], [.long (0 : Int64), .long (p3 - (p4 * v58.toInt64))], (h ++ R), 0, 0)) rfl ?_
          by_cases c63 : (p3 - (p4 * v58.toInt64)) = (0 : Int64)
          · rw [if_pos c63] at hq
            refine lc_ne_F (t := 169) odX0_isOnLine rfl rfl rfl c63 ?_
            refine mB_run odX0_isOnLine 2 (g := (170, [(20, .long (p3 - (p4 * v58.toInt64))), (18, .long (p2 - (p4 * v52.toInt64))), (16, .long (p1 - (p4 * v46.toInt64))), (14, .long (v34 - v40).toInt64), (12, .long (v22 - v28).toInt64), (10, .long (v10 - v16).toInt64), (9, .int (v3 - (1 : Int32))), (0, .ref p0), (1, .long p1), (3, .long p2), (5, .long p3), (7, .long p4)], [.int (1 : Int32)], (h ++ R), 0, 0)) rfl ?_
            cases hq
            exact mB_ret odX0_isOnLine rfl
          · rw [if_neg c63] at hq
            refine lc_ne_T (t := 169) odX0_isOnLine rfl rfl rfl c63 ?_
            refine mB_run odX0_isOnLine 1 (g := (170, [(20, .long (p3 - (p4 * v58.toInt64))), (18, .long (p2 - (p4 * v52.toInt64))), (16, .long (p1 - (p4 * v46.toInt64))), (14, .long (v34 - v40).toInt64), (12, .long (v22 - v28).toInt64), (10, .long (v10 - v16).toInt64), (9, .int (v3 - (1 : Int32))), (0, .ref p0), (1, .long p1), (3, .long p2), (5, .long p3), (7, .long p4)], [.int (0 : Int32)], (h ++ R), 0, 0)) rfl ?_
            cases hq
            exact mB_ret odX0_isOnLine rfl
        · rw [if_neg c62] at hq
          refine lc_ne_T (t := 169) odX0_isOnLine rfl rfl rfl c62 ?_
          refine mB_run odX0_isOnLine 1 (g := (170, [(20, .long (p3 - (p4 * v58.toInt64))), (18, .long (p2 - (p4 * v52.toInt64))), (16, .long (p1 - (p4 * v46.toInt64))), (14, .long (v34 - v40).toInt64), (12, .long (v22 - v28).toInt64), (10, .long (v10 - v16).toInt64), (9, .int (v3 - (1 : Int32))), (0, .ref p0), (1, .long p1), (3, .long p2), (5, .long p3), (7, .long p4)], [.int (0 : Int32)], (h ++ R), 0, 0)) rfl ?_
          cases hq
          exact mB_ret odX0_isOnLine rfl
      · rw [if_neg c61] at hq
        refine lc_ne_T (t := 169) odX0_isOnLine rfl rfl rfl c61 ?_
        refine mB_run odX0_isOnLine 1 (g := (170, [(20, .long (p3 - (p4 * v58.toInt64))), (18, .long (p2 - (p4 * v52.toInt64))), (16, .long (p1 - (p4 * v46.toInt64))), (14, .long (v34 - v40).toInt64), (12, .long (v22 - v28).toInt64), (10, .long (v10 - v16).toInt64), (9, .int (v3 - (1 : Int32))), (0, .ref p0), (1, .long p1), (3, .long p2), (5, .long p3), (7, .long p4)], [.int (0 : Int32)], (h ++ R), 0, 0)) rfl ?_
        cases hq
        exact mB_ret odX0_isOnLine rfl
    · rw [if_neg c60] at hq
      refine if_ne_T (t := 171) odX0_isOnLine rfl rfl c60 ?_
      refine mB_run odX0_isOnLine 6 (g := (181, [(20, .long (p3 - (p4 * v58.toInt64))), (18, .long (p2 - (p4 * v52.toInt64))), (16, .long (p1 - (p4 * v46.toInt64))), (14, .long (v34 - v40).toInt64), (12, .long (v22 - v28).toInt64), (10, .long (v10 - v16).toInt64), (9, .int (v3 - (1 : Int32))), (0, .ref p0), (1, .long p1), (3, .long p2), (5, .long p3), (7, .long p4)], [.long ((v34 - v40).toInt64 * (p2 - (p4 * v52.toInt64))), .long ((v22 - v28).toInt64 * (p3 - (p4 * v58.toInt64)))], (h ++ R), 0, 0)) rfl ?_
      by_cases c64 : ((v22 - v28).toInt64 * (p3 - (p4 * v58.toInt64))) = ((v34 - v40).toInt64 * (p2 - (p4 * v52.toInt64)))
      · rw [if_pos c64] at hq
        refine lc_ne_F (t := 213) odX0_isOnLine rfl rfl rfl c64 ?_
        refine mB_run odX0_isOnLine 6 (g := (195, [(20, .long (p3 - (p4 * v58.toInt64))), (18, .long (p2 - (p4 * v52.toInt64))), (16, .long (p1 - (p4 * v46.toInt64))), (14, .long (v34 - v40).toInt64), (12, .long (v22 - v28).toInt64), (10, .long (v10 - v16).toInt64), (9, .int (v3 - (1 : Int32))), (0, .ref p0), (1, .long p1), (3, .long p2), (5, .long p3), (7, .long p4)], [.long ((v10 - v16).toInt64 * (p3 - (p4 * v58.toInt64))), .long ((v34 - v40).toInt64 * (p1 - (p4 * v46.toInt64)))], (h ++ R), 0, 0)) rfl ?_
        by_cases c65 : ((v34 - v40).toInt64 * (p1 - (p4 * v46.toInt64))) = ((v10 - v16).toInt64 * (p3 - (p4 * v58.toInt64)))
        · rw [if_pos c65] at hq
          refine lc_ne_F (t := 213) odX0_isOnLine rfl rfl rfl c65 ?_
          refine mB_run odX0_isOnLine 6 (g := (209, [(20, .long (p3 - (p4 * v58.toInt64))), (18, .long (p2 - (p4 * v52.toInt64))), (16, .long (p1 - (p4 * v46.toInt64))), (14, .long (v34 - v40).toInt64), (12, .long (v22 - v28).toInt64), (10, .long (v10 - v16).toInt64), (9, .int (v3 - (1 : Int32))), (0, .ref p0), (1, .long p1), (3, .long p2), (5, .long p3), (7, .long p4)], [.long ((v22 - v28).toInt64 * (p1 - (p4 * v46.toInt64))), .long ((v10 - v16).toInt64 * (p2 - (p4 * v52.toInt64)))], (h ++ R), 0, 0)) rfl ?_
          by_cases c66 : ((v10 - v16).toInt64 * (p2 - (p4 * v52.toInt64))) = ((v22 - v28).toInt64 * (p1 - (p4 * v46.toInt64)))
          · rw [if_pos c66] at hq
            refine lc_eq_T (t := 215) odX0_isOnLine rfl rfl rfl c66 ?_
            refine mB_run odX0_isOnLine 12 (g := (234, [(22, .long ((((v10 - v16).toInt64 * (p1 - (p4 * v46.toInt64))) + ((v22 - v28).toInt64 * (p2 - (p4 * v52.toInt64)))) + ((v34 - v40).toInt64 * (p3 - (p4 * v58.toInt64))))), (20, .long (p3 - (p4 * v58.toInt64))), (18, .long (p2 - (p4 * v52.toInt64))), (16, .long (p1 - (p4 * v46.toInt64))), (14, .long (v34 - v40).toInt64), (12, .long (v22 - v28).toInt64), (10, .long (v10 - v16).toInt64), (9, .int (v3 - (1 : Int32))), (0, .ref p0), (1, .long p1), (3, .long p2), (5, .long p3), (7, .long p4)], [], (h ++ R), 0, 0)) rfl ?_
            refine mB_run odX0_isOnLine 2 (g := (237, [(22, .long ((((v10 - v16).toInt64 * (p1 - (p4 * v46.toInt64))) + ((v22 - v28).toInt64 * (p2 - (p4 * v52.toInt64)))) + ((v34 - v40).toInt64 * (p3 - (p4 * v58.toInt64))))), (20, .long (p3 - (p4 * v58.toInt64))), (18, .long (p2 - (p4 * v52.toInt64))), (16, .long (p1 - (p4 * v46.toInt64))), (14, .long (v34 - v40).toInt64), (12, .long (v22 - v28).toInt64), (10, .long (v10 - v16).toInt64), (9, .int (v3 - (1 : Int32))), (0, .ref p0), (1, .long p1), (3, .long p2), (5, .long p3), (7, .long p4)], [.long (0 : Int64), .long ((((v10 - v16).toInt64 * (p1 - (p4 * v46.toInt64))) + ((v22 - v28).toInt64 * (p2 - (p4 * v52.toInt64)))) + ((v34 - v40).toInt64 * (p3 - (p4 * v58.toInt64))))], (h ++ R), 0, 0)) rfl ?_
            by_cases c67 : ((((v10 - v16).toInt64 * (p1 - (p4 * v46.toInt64))) + ((v22 - v28).toInt64 * (p2 - (p4 * v52.toInt64)))) + ((v34 - v40).toInt64 * (p3 - (p4 * v58.toInt64)))) < (0 : Int64)
            · rw [if_pos c67] at hq
              refine lc_lt_T (t := 263) odX0_isOnLine rfl rfl rfl c67 ?_
              refine mB_run odX0_isOnLine 1 (g := (264, [(22, .long ((((v10 - v16).toInt64 * (p1 - (p4 * v46.toInt64))) + ((v22 - v28).toInt64 * (p2 - (p4 * v52.toInt64)))) + ((v34 - v40).toInt64 * (p3 - (p4 * v58.toInt64))))), (20, .long (p3 - (p4 * v58.toInt64))), (18, .long (p2 - (p4 * v52.toInt64))), (16, .long (p1 - (p4 * v46.toInt64))), (14, .long (v34 - v40).toInt64), (12, .long (v22 - v28).toInt64), (10, .long (v10 - v16).toInt64), (9, .int (v3 - (1 : Int32))), (0, .ref p0), (1, .long p1), (3, .long p2), (5, .long p3), (7, .long p4)], [.int (0 : Int32)], (h ++ R), 0, 0)) rfl ?_
              cases hq
              exact mB_ret odX0_isOnLine rfl
            · rw [if_neg c67] at hq
              refine lc_lt_F (t := 263) odX0_isOnLine rfl rfl rfl c67 ?_
              refine mB_run odX0_isOnLine 5 (g := (251, [(22, .long ((((v10 - v16).toInt64 * (p1 - (p4 * v46.toInt64))) + ((v22 - v28).toInt64 * (p2 - (p4 * v52.toInt64)))) + ((v34 - v40).toInt64 * (p3 - (p4 * v58.toInt64))))), (20, .long (p3 - (p4 * v58.toInt64))), (18, .long (p2 - (p4 * v52.toInt64))), (16, .long (p1 - (p4 * v46.toInt64))), (14, .long (v34 - v40).toInt64), (12, .long (v22 - v28).toInt64), (10, .long (v10 - v16).toInt64), (9, .int (v3 - (1 : Int32))), (0, .ref p0), (1, .long p1), (3, .long p2), (5, .long p3), (7, .long p4)], [.long (v34 - v40).toInt64, .long (v22 - v28).toInt64, .long (v10 - v16).toInt64, .long p4, .long ((((v10 - v16).toInt64 * (p1 - (p4 * v46.toInt64))) + ((v22 - v28).toInt64 * (p2 - (p4 * v52.toInt64)))) + ((v34 - v40).toInt64 * (p3 - (p4 * v58.toInt64))))], (h ++ R), 0, 0)) rfl ?_
              obtain ⟨o68, e69, hq⟩ := bsm hq
              refine mB_S (as := [.long (v10 - v16).toInt64, .long (v22 - v28).toInt64, .long (v34 - v40).toInt64]) odX0_isOnLine okX0_steepness lk_0_132 rfl (eaX0_steepness e69) rfl rfl rfl ?_
              show mB _ mX0_isOnLine (254, [(22, .long ((((v10 - v16).toInt64 * (p1 - (p4 * v46.toInt64))) + ((v22 - v28).toInt64 * (p2 - (p4 * v52.toInt64)))) + ((v34 - v40).toInt64 * (p3 - (p4 * v58.toInt64))))), (20, .long (p3 - (p4 * v58.toInt64))), (18, .long (p2 - (p4 * v52.toInt64))), (16, .long (p1 - (p4 * v46.toInt64))), (14, .long (v34 - v40).toInt64), (12, .long (v22 - v28).toInt64), (10, .long (v10 - v16).toInt64), (9, .int (v3 - (1 : Int32))), (0, .ref p0), (1, .long p1), (3, .long p2), (5, .long p3), (7, .long p4)], [.long o68.2, .long p4, .long ((((v10 - v16).toInt64 * (p1 - (p4 * v46.toInt64))) + ((v22 - v28).toInt64 * (p2 - (p4 * v52.toInt64)))) + ((v34 - v40).toInt64 * (p3 - (p4 * v58.toInt64))))], (o68.1 ++ R), 0, 0)
              refine mB_run odX0_isOnLine 1 (g := (255, [(22, .long ((((v10 - v16).toInt64 * (p1 - (p4 * v46.toInt64))) + ((v22 - v28).toInt64 * (p2 - (p4 * v52.toInt64)))) + ((v34 - v40).toInt64 * (p3 - (p4 * v58.toInt64))))), (20, .long (p3 - (p4 * v58.toInt64))), (18, .long (p2 - (p4 * v52.toInt64))), (16, .long (p1 - (p4 * v46.toInt64))), (14, .long (v34 - v40).toInt64), (12, .long (v22 - v28).toInt64), (10, .long (v10 - v16).toInt64), (9, .int (v3 - (1 : Int32))), (0, .ref p0), (1, .long p1), (3, .long p2), (5, .long p3), (7, .long p4)], [.long (p4 * o68.2), .long ((((v10 - v16).toInt64 * (p1 - (p4 * v46.toInt64))) + ((v22 - v28).toInt64 * (p2 - (p4 * v52.toInt64)))) + ((v34 - v40).toInt64 * (p3 - (p4 * v58.toInt64))))], (o68.1 ++ R), 0, 0)) rfl ?_
              by_cases c70 : (p4 * o68.2) < ((((v10 - v16).toInt64 * (p1 - (p4 * v46.toInt64))) + ((v22 - v28).toInt64 * (p2 - (p4 * v52.toInt64)))) + ((v34 - v40).toInt64 * (p3 - (p4 * v58.toInt64))))
              · rw [if_pos c70] at hq
                refine lc_gt_T (t := 263) odX0_isOnLine rfl rfl rfl c70 ?_
                refine mB_run odX0_isOnLine 1 (g := (264, [(22, .long ((((v10 - v16).toInt64 * (p1 - (p4 * v46.toInt64))) + ((v22 - v28).toInt64 * (p2 - (p4 * v52.toInt64)))) + ((v34 - v40).toInt64 * (p3 - (p4 * v58.toInt64))))), (20, .long (p3 - (p4 * v58.toInt64))), (18, .long (p2 - (p4 * v52.toInt64))), (16, .long (p1 - (p4 * v46.toInt64))), (14, .long (v34 - v40).toInt64), (12, .long (v22 - v28).toInt64), (10, .long (v10 - v16).toInt64), (9, .int (v3 - (1 : Int32))), (0, .ref p0), (1, .long p1), (3, .long p2), (5, .long p3), (7, .long p4)], [.int (0 : Int32)], (o68.1 ++ R), 0, 0)) rfl ?_
                cases hq
                exact mB_ret odX0_isOnLine rfl
              · rw [if_neg c70] at hq
                refine lc_gt_F (t := 263) odX0_isOnLine rfl rfl rfl c70 ?_
                refine mB_run odX0_isOnLine 2 (g := (264, [(22, .long ((((v10 - v16).toInt64 * (p1 - (p4 * v46.toInt64))) + ((v22 - v28).toInt64 * (p2 - (p4 * v52.toInt64)))) + ((v34 - v40).toInt64 * (p3 - (p4 * v58.toInt64))))), (20, .long (p3 - (p4 * v58.toInt64))), (18, .long (p2 - (p4 * v52.toInt64))), (16, .long (p1 - (p4 * v46.toInt64))), (14, .long (v34 - v40).toInt64), (12, .long (v22 - v28).toInt64), (10, .long (v10 - v16).toInt64), (9, .int (v3 - (1 : Int32))), (0, .ref p0), (1, .long p1), (3, .long p2), (5, .long p3), (7, .long p4)], [.int (1 : Int32)], (o68.1 ++ R), 0, 0)) rfl ?_
                cases hq
                exact mB_ret odX0_isOnLine rfl
          · rw [if_neg c66] at hq
            refine lc_eq_F (t := 215) odX0_isOnLine rfl rfl rfl c66 ?_
            refine mB_run odX0_isOnLine 1 (g := (214, [(20, .long (p3 - (p4 * v58.toInt64))), (18, .long (p2 - (p4 * v52.toInt64))), (16, .long (p1 - (p4 * v46.toInt64))), (14, .long (v34 - v40).toInt64), (12, .long (v22 - v28).toInt64), (10, .long (v10 - v16).toInt64), (9, .int (v3 - (1 : Int32))), (0, .ref p0), (1, .long p1), (3, .long p2), (5, .long p3), (7, .long p4)], [.int (0 : Int32)], (h ++ R), 0, 0)) rfl ?_
            cases hq
            exact mB_ret odX0_isOnLine rfl
        · rw [if_neg c65] at hq
          refine lc_ne_T (t := 213) odX0_isOnLine rfl rfl rfl c65 ?_
          refine mB_run odX0_isOnLine 1 (g := (214, [(20, .long (p3 - (p4 * v58.toInt64))), (18, .long (p2 - (p4 * v52.toInt64))), (16, .long (p1 - (p4 * v46.toInt64))), (14, .long (v34 - v40).toInt64), (12, .long (v22 - v28).toInt64), (10, .long (v10 - v16).toInt64), (9, .int (v3 - (1 : Int32))), (0, .ref p0), (1, .long p1), (3, .long p2), (5, .long p3), (7, .long p4)], [.int (0 : Int32)], (h ++ R), 0, 0)) rfl ?_
          cases hq
          exact mB_ret odX0_isOnLine rfl
      · rw [if_neg c64] at hq
        refine lc_ne_T (t := 213) odX0_isOnLine rfl rfl rfl c64 ?_
        refine mB_run odX0_isOnLine 1 (g := (214, [(20, .long (p3 - (p4 * v58.toInt64))), (18, .long (p2 - (p4 * v52.toInt64))), (16, .long (p1 - (p4 * v46.toInt64))), (14, .long (v34 - v40).toInt64), (12, .long (v22 - v28).toInt64), (10, .long (v10 - v16).toInt64), (9, .int (v3 - (1 : Int32))), (0, .ref p0), (1, .long p1), (3, .long p2), (5, .long p3), (7, .long p4)], [.int (0 : Int32)], (h ++ R), 0, 0)) rfl ?_
        cases hq
        exact mB_ret odX0_isOnLine rfl
  · rw [if_neg c5] at hq
    refine if_ge_F (t := 18) odX0_isOnLine rfl rfl c5 ?_
    refine mB_run odX0_isOnLine 1 (g := (17, [(9, .int (v3 - (1 : Int32))), (0, .ref p0), (1, .long p1), (3, .long p2), (5, .long p3), (7, .long p4)], [.int (0 : Int32)], (h ++ R), 0, 0)) rfl ?_
    cases hq
    exact mB_ret odX0_isOnLine rfl
set_option maxHeartbeats 4000000 in
set_option maxRecDepth 100000 in
theorem eaX0_locate_59 {N : Nat} {R : mh} (s0 : Int32) (h : mh) {o : (mh × Int32)} (hq : fxX0_locate_59 N s0 h = some o) : mB (gO mX0_locate (o.1 ++ R, some (.int o.2))) mX0_locate (59, [], [.int s0], (h ++ R), 0, 0) := by
  unfold fxX0_locate_59 at hq
  refine mB_run odX0_locate 2 (g := (63, [(9, .int s0)], [.int s0], (h ++ R), 0, 0)) rfl ?_
  by_cases c22 : s0 = 0
  · rw [if_pos c22] at hq
    refine if_eq_T (t := 70) odX0_locate rfl rfl c22 ?_
    refine mB_run odX0_locate 1 (g := (71, [(9, .int s0)], [.int (0 : Int32)], (h ++ R), 0, 0)) rfl ?_
    cases hq
    exact mB_ret odX0_locate rfl
  · rw [if_neg c22] at hq
    refine if_eq_F (t := 70) odX0_locate rfl rfl c22 ?_
    refine mB_run odX0_locate 2 (g := (71, [(9, .int s0)], [.int (1 : Int32)], (h ++ R), 0, 0)) rfl ?_
    cases hq
    exact mB_ret odX0_locate rfl
set_option maxHeartbeats 4000000 in
set_option maxRecDepth 100000 in
theorem eaX0_locate {N : Nat} {R : mh} {p0 : Nat} {p1 : Int64} {p2 : Int64} {p3 : Int64} {p4 : Int64} {h : mh} {o : (mh × Int32)} (hq : fxX0_locate N p0 p1 p2 p3 p4 h = some o) : mC mX0_locate [.ref p0, .long p1, .long p2, .long p3, .long p4] (h ++ R) (o.1 ++ R, some (.int o.2)) := by
  refine mC_of okX0_locate (Nat.le_of_ble_eq_true rfl) ?_
  unfold fxX0_locate at hq
  show mB _ mX0_locate (0, [(0, .ref p0), (1, .long p1), (3, .long p2), (5, .long p3), (7, .long p4)], [], (h ++ R), 0, 0)
  refine mB_run odX0_locate 1 (g := (1, [(0, .ref p0), (1, .long p1), (3, .long p2), (5, .long p3), (7, .long p4)], [.ref p0], (h ++ R), 0, 0)) rfl ?_
  obtain ⟨v1, e2, hq⟩ := bsm hq
  refine r_gI odX0_locate rfl rfl (gI_ap e2) ?_
  by_cases c3 : v1 = 0
  · rw [if_pos c3] at hq
    refine if_ne_F (t := 9) odX0_locate rfl rfl c3 ?_
    refine mB_run odX0_locate 1 (g := (8, [(0, .ref p0), (1, .long p1), (3, .long p2), (5, .long p3), (7, .long p4)], [.int (0 : Int32)], (h ++ R), 0, 0)) rfl ?_
    cases hq
    exact mB_ret odX0_locate rfl
  · rw [if_neg c3] at hq
    refine if_ne_T (t := 9) odX0_locate rfl rfl c3 ?_
    refine mB_run odX0_locate 1 (g := (10, [(0, .ref p0), (1, .long p1), (3, .long p2), (5, .long p3), (7, .long p4)], [.ref p0], (h ++ R), 0, 0)) rfl ?_
    obtain ⟨v4, e5, hq⟩ := bsm hq
    refine r_gI odX0_locate rfl rfl (gI_ap e5) ?_
    refine mB_run odX0_locate 1 (g := (14, [(0, .ref p0), (1, .long p1), (3, .long p2), (5, .long p3), (7, .long p4)], [.int (4 : Int32), .int v4], (h ++ R), 0, 0)) rfl ?_
    by_cases c6 : v4 = (4 : Int32)
    · rw [if_pos c6] at hq
      refine ic_ne_F (t := 28) odX0_locate rfl rfl c6 ?_
      refine mB_run odX0_locate 5 (g := (24, [(0, .ref p0), (1, .long p1), (3, .long p2), (5, .long p3), (7, .long p4)], [.long p4, .long p3, .long p2, .long p1, .ref p0], (h ++ R), 0, 0)) rfl ?_
      obtain ⟨f9, k10, hq⟩ := bsm hq
      obtain ⟨o7, e8, hq⟩ := bsm hq
      refine mB_V (as := [.long p1, .long p2, .long p3, .long p4]) odX0_locate okX0_locateAmongFaces lk_0_143 rfl (eaX0_locateAmongFaces e8) (kO_at (kO_ap k10)) rfl rfl rfl ?_
      show mB _ mX0_locate (27, [(0, .ref p0), (1, .long p1), (3, .long p2), (5, .long p3), (7, .long p4)], [.int o7.2], (o7.1 ++ R), 0, 0)
      cases hq
      exact mB_ret odX0_locate rfl
    · rw [if_neg c6] at hq
      refine ic_ne_T (t := 28) odX0_locate rfl rfl c6 ?_
      refine mB_run odX0_locate 1 (g := (29, [(0, .ref p0), (1, .long p1), (3, .long p2), (5, .long p3), (7, .long p4)], [.ref p0], (h ++ R), 0, 0)) rfl ?_
      obtain ⟨v11, e12, hq⟩ := bsm hq
      refine r_gI odX0_locate rfl rfl (gI_ap e12) ?_
      refine mB_run odX0_locate 1 (g := (33, [(0, .ref p0), (1, .long p1), (3, .long p2), (5, .long p3), (7, .long p4)], [.int (3 : Int32), .int v11], (h ++ R), 0, 0)) rfl ?_
      by_cases c13 : v11 = (3 : Int32)
      · rw [if_pos c13] at hq
        refine ic_ne_F (t := 49) odX0_locate rfl rfl c13 ?_
        refine mB_run odX0_locate 5 (g := (43, [(0, .ref p0), (1, .long p1), (3, .long p2), (5, .long p3), (7, .long p4)], [.long p4, .long p3, .long p2, .long p1, .ref p0], (h ++ R), 0, 0)) rfl ?_
        obtain ⟨f16, k17, hq⟩ := bsm hq
        obtain ⟨o14, e15, hq⟩ := bsm hq
        refine mB_V (as := [.long p1, .long p2, .long p3, .long p4]) odX0_locate okX0_isInFigure lk_0_147 rfl (eaX0_isInFigure e15) (kO_at (kO_ap k17)) rfl rfl rfl ?_
        show mB _ mX0_locate (46, [(0, .ref p0), (1, .long p1), (3, .long p2), (5, .long p3), (7, .long p4)], [.int o14.2], (o14.1 ++ R), 0, 0)
        refine mB_run odX0_locate 1 (g := (59, [(0, .ref p0), (1, .long p1), (3, .long p2), (5, .long p3), (7, .long p4)], [.int o14.2], (o14.1 ++ R), 0, 0)) rfl ?_
        refine mB_lv [] (lv' := []) rfl ?_
        exact eaX0_locate_59 _ _ hq
      · rw [if_neg c13] at hq
        refine ic_ne_T (t := 49) odX0_locate rfl rfl c13 ?_
        refine mB_run odX0_locate 5 (g := (56, [(0, .ref p0), (1, .long p1), (3, .long p2), (5, .long p3), (7, .long p4)], [.long p4, .long p3, .long p2, .long p1, .ref p0], (h ++ R), 0, 0)) rfl ?_
        obtain ⟨f20, k21, hq⟩ := bsm hq
        obtain ⟨o18, e19, hq⟩ := bsm hq
        refine mB_V (as := [.long p1, .long p2, .long p3, .long p4]) odX0_locate okX0_isOnLine lk_0_151 rfl (eaX0_isOnLine e19) (kO_at (kO_ap k21)) rfl rfl rfl ?_
        show mB _ mX0_locate (59, [(0, .ref p0), (1, .long p1), (3, .long p2), (5, .long p3), (7, .long p4)], [.int o18.2], (o18.1 ++ R), 0, 0)
        refine mB_lv [] (lv' := []) rfl ?_
        exact eaX0_locate_59 _ _ hq
set_option maxHeartbeats 4000000 in
set_option maxRecDepth 100000 in
theorem eaX3_farthest_219 {N : Nat} {R : mh} {rec38 : Nat → Int64 → Int64 → Int64 → Int32 → Int64 → Int32 → mh → Option (mh × Int32)} (hrec38 : ∀ (x0 : Nat) (x1 : Int64) (x3 : Int64) (x5 : Int64) (x7 : Int32) (x8 : Int64) (x10 : Int32) (h : mh) {o : (mh × Int32)}, rec38 x0 x1 x3 x5 x7 x8 x10 h = some o → mB (gO mX3_farthest (o.1 ++ R, some (.int o.2))) mX3_farthest (38, [(0, .ref x0), (1, .long x1), (3, .long x3), (5, .long x5), (7, .int x7), (8, .long x8), (10, .int x10)], [], (h ++ R), 0, 0)) (x0 : Nat) (x1 : Int64) (x3 : Int64) (x5 : Int64) (x7 : Int32) (x8 : Int64) (x10 : Int32) (h : mh) {o : (mh × Int32)} (hq : fxX3_farthest_219 N rec38 x0 x1 x3 x5 x7 x8 x10 h = some o) : mB (gO mX3_farthest (o.1 ++ R, some (.int o.2))) mX3_farthest (219, [(0, .ref x0), (1, .long x1), (3, .long x3), (5, .long x5), (7, .int x7), (8, .long x8), (10, .int x10)], [], (h ++ R), 0, 0) := by
  unfold fxX3_farthest_219 at hq
  refine mB_run odX3_farthest 2 (g := (38, [(10, .int (x10 + (1 : Int32))), (0, .ref x0), (1, .long x1), (3, .long x3), (5, .long x5), (7, .int x7), (8, .long x8)], [], (h ++ R), 0, 0)) rfl ?_
  refine mB_lv [1, 2, 3, 4, 5, 6, 0] (lv' := [(0, .ref x0), (1, .long x1), (3, .long x3), (5, .long x5), (7, .int x7), (8, .long x8), (10, .int (x10 + (1 : Int32)))]) rfl ?_
  exact hrec38 _ _ _ _ _ _ _ _ hq
set_option maxHeartbeats 4000000 in
set_option maxRecDepth 100000 in
theorem eaX3_farthest_211 {N : Nat} {R : mh} {rec38 : Nat → Int64 → Int64 → Int64 → Int32 → Int64 → Int32 → mh → Option (mh × Int32)} (hrec38 : ∀ (x0 : Nat) (x1 : Int64) (x3 : Int64) (x5 : Int64) (x7 : Int32) (x8 : Int64) (x10 : Int32) (h : mh) {o : (mh × Int32)}, rec38 x0 x1 x3 x5 x7 x8 x10 h = some o → mB (gO mX3_farthest (o.1 ++ R, some (.int o.2))) mX3_farthest (38, [(0, .ref x0), (1, .long x1), (3, .long x3), (5, .long x5), (7, .int x7), (8, .long x8), (10, .int x10)], [], (h ++ R), 0, 0)) (x0 : Nat) (x1 : Int64) (x3 : Int64) (x5 : Int64) (x10 : Int32) (x11 : Int64) (h : mh) {o : (mh × Int32)} (hq : fxX3_farthest_211 N rec38 x0 x1 x3 x5 x10 x11 h = some o) : mB (gO mX3_farthest (o.1 ++ R, some (.int o.2))) mX3_farthest (211, [(0, .ref x0), (1, .long x1), (3, .long x3), (5, .long x5), (10, .int x10), (11, .long x11)], [], (h ++ R), 0, 0) := by
  unfold fxX3_farthest_211 at hq
  refine mB_run odX3_farthest 4 (g := (219, [(8, .long x11), (7, .int x10), (0, .ref x0), (1, .long x1), (3, .long x3), (5, .long x5), (10, .int x10), (11, .long x11)], [], (h ++ R), 0, 0)) rfl ?_
  refine mB_lv [2, 3, 4, 5, 1, 0, 6] (lv' := [(0, .ref x0), (1, .long x1), (3, .long x3), (5, .long x5), (7, .int x10), (8, .long x11), (10, .int x10)]) rfl ?_
  exact eaX3_farthest_219 hrec38 _ _ _ _ _ _ _ _ hq
set_option maxHeartbeats 4000000 in
set_option maxRecDepth 100000 in
theorem eaX3_farthest_188 {N : Nat} {R : mh} {rec38 : Nat → Int64 → Int64 → Int64 → Int32 → Int64 → Int32 → mh → Option (mh × Int32)} (hrec38 : ∀ (x0 : Nat) (x1 : Int64) (x3 : Int64) (x5 : Int64) (x7 : Int32) (x8 : Int64) (x10 : Int32) (h : mh) {o : (mh × Int32)}, rec38 x0 x1 x3 x5 x7 x8 x10 h = some o → mB (gO mX3_farthest (o.1 ++ R, some (.int o.2))) mX3_farthest (38, [(0, .ref x0), (1, .long x1), (3, .long x3), (5, .long x5), (7, .int x7), (8, .long x8), (10, .int x10)], [], (h ++ R), 0, 0)) (x0 : Nat) (x1 : Int64) (x3 : Int64) (x5 : Int64) (x7 : Int32) (x8 : Int64) (x10 : Int32) (x11 : Int64) (s0 : Int32) (h : mh) {o : (mh × Int32)} (hq : fxX3_farthest_188 N rec38 x0 x1 x3 x5 x7 x8 x10 x11 s0 h = some o) : mB (gO mX3_farthest (o.1 ++ R, some (.int o.2))) mX3_farthest (188, [(0, .ref x0), (1, .long x1), (3, .long x3), (5, .long x5), (7, .int x7), (8, .long x8), (10, .int x10), (11, .long x11)], [.int s0], (h ++ R), 0, 0) := by
  unfold fxX3_farthest_188 at hq
  refine mB_run odX3_farthest 3 (g := (194, [(13, .int s0), (0, .ref x0), (1, .long x1), (3, .long x3), (5, .long x5), (7, .int x7), (8, .long x8), (10, .int x10), (11, .long x11)], [.long x8, .long x11], (h ++ R), 0, 0)) rfl ?_
  by_cases c73 : x8 < x11
  · rw [if_pos c73] at hq
    refine lc_gt_T (t := 211) odX3_farthest rfl rfl rfl c73 ?_
    refine mB_lv [1, 2, 3, 4, 7, 8] (lv' := [(0, .ref x0), (1, .long x1), (3, .long x3), (5, .long x5), (10, .int x10), (11, .long x11)]) rfl ?_
    exact eaX3_farthest_211 hrec38 _ _ _ _ _ _ _ hq
  · rw [if_neg c73] at hq
    refine lc_gt_F (t := 211) odX3_farthest rfl rfl rfl c73 ?_
    refine mB_run odX3_farthest 2 (g := (202, [(13, .int s0), (0, .ref x0), (1, .long x1), (3, .long x3), (5, .long x5), (7, .int x7), (8, .long x8), (10, .int x10), (11, .long x11)], [.long x8, .long x11], (h ++ R), 0, 0)) rfl ?_
    by_cases c74 : x11 = x8
    · rw [if_pos c74] at hq
      refine lc_ne_F (t := 219) odX3_farthest rfl rfl rfl c74 ?_
      refine mB_run odX3_farthest 1 (g := (208, [(13, .int s0), (0, .ref x0), (1, .long x1), (3, .long x3), (5, .long x5), (7, .int x7), (8, .long x8), (10, .int x10), (11, .long x11)], [.int s0], (h ++ R), 0, 0)) rfl ?_
      by_cases c75 : s0 = 0
      · rw [if_pos c75] at hq
        refine if_eq_T (t := 219) odX3_farthest rfl rfl c75 ?_
        refine mB_lv [1, 2, 3, 4, 5, 6, 7] (lv' := [(0, .ref x0), (1, .long x1), (3, .long x3), (5, .long x5), (7, .int x7), (8, .long x8), (10, .int x10)]) rfl ?_
        exact eaX3_farthest_219 hrec38 _ _ _ _ _ _ _ _ hq
      · rw [if_neg c75] at hq
        refine if_eq_F (t := 219) odX3_farthest rfl rfl c75 ?_
        refine mB_lv [1, 2, 3, 4, 7, 8] (lv' := [(0, .ref x0), (1, .long x1), (3, .long x3), (5, .long x5), (10, .int x10), (11, .long x11)]) rfl ?_
        exact eaX3_farthest_211 hrec38 _ _ _ _ _ _ _ hq
    · rw [if_neg c74] at hq
      refine lc_ne_T (t := 219) odX3_farthest rfl rfl rfl c74 ?_
      refine mB_lv [1, 2, 3, 4, 5, 6, 7] (lv' := [(0, .ref x0), (1, .long x1), (3, .long x3), (5, .long x5), (7, .int x7), (8, .long x8), (10, .int x10)]) rfl ?_
      exact eaX3_farthest_219 hrec38 _ _ _ _ _ _ _ _ hq
set_option maxHeartbeats 4000000 in
set_option maxRecDepth 100000 in
theorem eaX3_farthest_38 {N : Nat} {R : mh} : ∀ (n : Nat) (x0 : Nat) (x1 : Int64) (x3 : Int64) (x5 : Int64) (x7 : Int32) (x8 : Int64) (x10 : Int32) (h : mh) {o : (mh × Int32)}, fxX3_farthest_38 N n x0 x1 x3 x5 x7 x8 x10 h = some o → mB (gO mX3_farthest (o.1 ++ R, some (.int o.2))) mX3_farthest (38, [(0, .ref x0), (1, .long x1), (3, .long x3), (5, .long x5), (7, .int x7), (8, .long x8), (10, .int x10)], [], (h ++ R), 0, 0) := by
  intro n
  induction n with
  | zero => intro x0 x1 x3 x5 x7 x8 x10 h o hq; cases hq
  | succ n ih =>
    intro x0 x1 x3 x5 x7 x8 x10 h o hq
    unfold fxX3_farthest_38 at hq
    refine mB_run odX3_farthest 2 (g := (41, [(0, .ref x0), (1, .long x1), (3, .long x3), (5, .long x5), (7, .int x7), (8, .long x8), (10, .int x10)], [.ref x0, .int x10], (h ++ R), 0, 0)) rfl ?_
    obtain ⟨v13, e14, hq⟩ := bsm hq
    refine r_gI odX3_farthest rfl rfl (gI_ap e14) ?_
    by_cases c15 : v13 ≤ x10
    · rw [if_pos c15] at hq
      refine ic_ge_T (t := 225) odX3_farthest rfl rfl c15 ?_
      refine mB_run odX3_farthest 1 (g := (227, [(0, .ref x0), (1, .long x1), (3, .long x3), (5, .long x5), (7, .int x7), (8, .long x8), (10, .int x10)], [.int x7], (h ++ R), 0, 0)) rfl ?_
      cases hq
      exact mB_ret odX3_farthest rfl
    · rw [if_neg c15] at hq
      refine ic_ge_F (t := 225) odX3_farthest rfl rfl c15 ?_
      refine mB_run odX3_farthest 2 (g := (49, [(0, .ref x0), (1, .long x1), (3, .long x3), (5, .long x5), (7, .int x7), (8, .long x8), (10, .int x10)], [.ref x0, .long x1], (h ++ R), 0, 0)) rfl ?_
      obtain ⟨v16, e17, hq⟩ := bsm hq
      refine r_gR odX3_farthest rfl rfl (gR_ap e17) ?_
      refine mB_run odX3_farthest 1 (g := (54, [(0, .ref x0), (1, .long x1), (3, .long x3), (5, .long x5), (7, .int x7), (8, .long x8), (10, .int x10)], [.int x10, .ref v16, .long x1], (h ++ R), 0, 0)) rfl ?_
      obtain ⟨v18, e19, hq⟩ := bsm hq
      refine r_aI odX3_farthest rfl (aI_ap e19) ?_
      refine mB_run odX3_farthest 4 (g := (59, [(0, .ref x0), (1, .long x1), (3, .long x3), (5, .long x5), (7, .int x7), (8, .long x8), (10, .int x10)], [.ref x0, .long x3, .long (x1 * v18.toInt64)], (h ++ R), 0, 0)) rfl ?_
      obtain ⟨v20, e21, hq⟩ := bsm hq
      refine r_gR odX3_farthest rfl rfl (gR_ap e21) ?_
      refine mB_run odX3_farthest 1 (g := (64, [(0, .ref x0), (1, .long x1), (3, .long x3), (5, .long x5), (7, .int x7), (8, .long x8), (10, .int x10)], [.int x10, .ref v20, .long x3, .long (x1 * v18.toInt64)], (h ++ R), 0, 0)) rfl ?_
      obtain ⟨v22, e23, hq⟩ := bsm hq
      refine r_aI odX3_farthest rfl (aI_ap e23) ?_
      refine mB_run odX3_farthest 5 (g := (71, [(0, .ref x0), (1, .long x1), (3, .long x3), (5, .long x5), (7, .int x7), (8, .long x8), (10, .int x10)], [.ref x0, .long x5, .long ((x1 * v18.toInt64) + (x3 * v22.toInt64))], (h ++ R), 0, 0)) rfl ?_
      obtain ⟨v24, e25, hq⟩ := bsm hq
      refine r_gR odX3_farthest rfl rfl (gR_ap e25) ?_
      refine mB_run odX3_farthest 1 (g := (76, [(0, .ref x0), (1, .long x1), (3, .long x3), (5, .long x5), (7, .int x7), (8, .long x8), (10, .int x10)], [.int x10, .ref v24, .long x5, .long ((x1 * v18.toInt64) + (x3 * v22.toInt64))], (h ++ R), 0, 0)) rfl ?_
      obtain ⟨v26, e27, hq⟩ := bsm hq
      refine r_aI odX3_farthest rfl (aI_ap e27) ?_
      refine mB_run odX3_farthest 5 (g := (83, [(11, .long (((x1 * v18.toInt64) + (x3 * v22.toInt64)) + (x5 * v26.toInt64))), (0, .ref x0), (1, .long x1), (3, .long x3), (5, .long x5), (7, .int x7), (8, .long x8), (10, .int x10)], [.ref x0], (h ++ R), 0, 0)) rfl ?_
      obtain ⟨v28, e29, hq⟩ := bsm hq
      refine r_gR odX3_farthest rfl rfl (gR_ap e29) ?_
      refine mB_run odX3_farthest 1 (g := (88, [(11, .long (((x1 * v18.toInt64) + (x3 * v22.toInt64)) + (x5 * v26.toInt64))), (0, .ref x0), (1, .long x1), (3, .long x3), (5, .long x5), (7, .int x7), (8, .long x8), (10, .int x10)], [.int x10, .ref v28], (h ++ R), 0, 0)) rfl ?_
      obtain ⟨v30, e31, hq⟩ := bsm hq
      refine r_aI odX3_farthest rfl (aI_ap e31) ?_
      refine mB_run odX3_farthest 1 (g := (90, [(11, .long (((x1 * v18.toInt64) + (x3 * v22.toInt64)) + (x5 * v26.toInt64))), (0, .ref x0), (1, .long x1), (3, .long x3), (5, .long x5), (7, .int x7), (8, .long x8), (10, .int x10)], [.ref x0, .int v30], (h ++ R), 0, 0)) rfl ?_
      obtain ⟨v32, e33, hq⟩ := bsm hq
      refine r_gR odX3_farthest rfl rfl (gR_ap e33) ?_
      refine mB_run odX3_farthest 1 (g := (95, [(11, .long (((x1 * v18.toInt64) + (x3 * v22.toInt64)) + (x5 * v26.toInt64))), (0, .ref x0), (1, .long x1), (3, .long x3), (5, .long x5), (7, .int x7), (8, .long x8), (10, .int x10)], [.int x7, .ref v32, .int v30], (h ++ R), 0, 0)) rfl ?_
      obtain ⟨v34, e35, hq⟩ := bsm hq
      refine r_aI odX3_farthest rfl (aI_ap e35) ?_
      by_cases c36 : v30 = v34
      · rw [if_pos c36] at hq
        refine ic_eq_T (t := 124) odX3_farthest rfl rfl c36 ?_
        refine mB_run odX3_farthest 1 (g := (125, [(11, .long (((x1 * v18.toInt64) + (x3 * v22.toInt64)) + (x5 * v26.toInt64))), (0, .ref x0), (1, .long x1), (3, .long x3), (5, .long x5), (7, .int x7), (8, .long x8), (10, .int x10)], [.ref x0], (h ++ R), 0, 0)) rfl ?_
        obtain ⟨v37, e38, hq⟩ := bsm hq
        refine r_gR odX3_farthest rfl rfl (gR_ap e38) ?_
        refine mB_run odX3_farthest 1 (g := (130, [(11, .long (((x1 * v18.toInt64) + (x3 * v22.toInt64)) + (x5 * v26.toInt64))), (0, .ref x0), (1, .long x1), (3, .long x3), (5, .long x5), (7, .int x7), (8, .long x8), (10, .int x10)], [.int x10, .ref v37], (h ++ R), 0, 0)) rfl ?_
        obtain ⟨v39, e40, hq⟩ := bsm hq
        refine r_aI odX3_farthest rfl (aI_ap e40) ?_
        refine mB_run odX3_farthest 1 (g := (132, [(11, .long (((x1 * v18.toInt64) + (x3 * v22.toInt64)) + (x5 * v26.toInt64))), (0, .ref x0), (1, .long x1), (3, .long x3), (5, .long x5), (7, .int x7), (8, .long x8), (10, .int x10)], [.ref x0, .int v39], (h ++ R), 0, 0)) rfl ?_
        obtain ⟨v41, e42, hq⟩ := bsm hq
        refine r_gR odX3_farthest rfl rfl (gR_ap e42) ?_
        refine mB_run odX3_farthest 1 (g := (137, [(11, .long (((x1 * v18.toInt64) + (x3 * v22.toInt64)) + (x5 * v26.toInt64))), (0, .ref x0), (1, .long x1), (3, .long x3), (5, .long x5), (7, .int x7), (8, .long x8), (10, .int x10)], [.int x7, .ref v41, .int v39], (h ++ R), 0, 0)) rfl ?_
        obtain ⟨v43, e44, hq⟩ := bsm hq
        refine r_aI odX3_farthest rfl (aI_ap e44) ?_
        by_cases c45 : v39 = v43
        · rw [if_pos c45] at hq
          refine ic_eq_T (t := 166) odX3_farthest rfl rfl c45 ?_
          refine mB_run odX3_farthest 1 (g := (167, [(11, .long (((x1 * v18.toInt64) + (x3 * v22.toInt64)) + (x5 * v26.toInt64))), (0, .ref x0), (1, .long x1), (3, .long x3), (5, .long x5), (7, .int x7), (8, .long x8), (10, .int x10)], [.ref x0], (h ++ R), 0, 0)) rfl ?_
          obtain ⟨v46, e47, hq⟩ := bsm hq
          refine r_gR odX3_farthest rfl rfl (gR_ap e47) ?_
          refine mB_run odX3_farthest 1 (g := (172, [(11, .long (((x1 * v18.toInt64) + (x3 * v22.toInt64)) + (x5 * v26.toInt64))), (0, .ref x0), (1, .long x1), (3, .long x3), (5, .long x5), (7, .int x7), (8, .long x8), (10, .int x10)], [.int x10, .ref v46], (h ++ R), 0, 0)) rfl ?_
          obtain ⟨v48, e49, hq⟩ := bsm hq
          refine r_aI odX3_farthest rfl (aI_ap e49) ?_
          refine mB_run odX3_farthest 1 (g := (174, [(11, .long (((x1 * v18.toInt64) + (x3 * v22.toInt64)) + (x5 * v26.toInt64))), (0, .ref x0), (1, .long x1), (3, .long x3), (5, .long x5), (7, .int x7), (8, .long x8), (10, .int x10)], [.ref x0, .int v48], (h ++ R), 0, 0)) rfl ?_
          obtain ⟨v50, e51, hq⟩ := bsm hq
          refine r_gR odX3_farthest rfl rfl (gR_ap e51) ?_
          refine mB_run odX3_farthest 1 (g := (179, [(11, .long (((x1 * v18.toInt64) + (x3 * v22.toInt64)) + (x5 * v26.toInt64))), (0, .ref x0), (1, .long x1), (3, .long x3), (5, .long x5), (7, .int x7), (8, .long x8), (10, .int x10)], [.int x7, .ref v50, .int v48], (h ++ R), 0, 0)) rfl ?_
          obtain ⟨v52, e53, hq⟩ := bsm hq
          refine r_aI odX3_farthest rfl (aI_ap e53) ?_
          by_cases c54 : v48 ≤ v52
          · rw [if_pos c54] at hq
            refine ic_le_T (t := 187) odX3_farthest rfl rfl c54 ?_
            refine mB_run odX3_farthest 1 (g := (188, [(11, .long (((x1 * v18.toInt64) + (x3 * v22.toInt64)) + (x5 * v26.toInt64))), (0, .ref x0), (1, .long x1), (3, .long x3), (5, .long x5), (7, .int x7), (8, .long x8), (10, .int x10)], [.int (0 : Int32)], (h ++ R), 0, 0)) rfl ?_
            refine mB_lv [1, 2, 3, 4, 5, 6, 7, 0] (lv' := [(0, .ref x0), (1, .long x1), (3, .long x3), (5, .long x5), (7, .int x7), (8, .long x8), (10, .int x10), (11, .long (((x1 * v18.toInt64) + (x3 * v22.toInt64)) + (x5 * v26.toInt64)))]) rfl ?_
            exact eaX3_farthest_188 ih _ _ _ _ _ _ _ _ _ _ hq
          · rw [if_neg c54] at hq
            refine ic_le_F (t := 187) odX3_farthest rfl rfl c54 ?_
            refine mB_run odX3_farthest 2 (g := (188, [(11, .long (((x1 * v18.toInt64) + (x3 * v22.toInt64)) + (x5 * v26.toInt64))), (0, .ref x0), (1, .long x1), (3, .long x3), (5, .long x5), (7, .int x7), (8, .long x8), (10, .int x10)], [.int (1 : Int32)], (h ++ R), 0, 0)) rfl ?_
            refine mB_lv [1, 2, 3, 4, 5, 6, 7, 0] (lv' := [(0, .ref x0), (1, .long x1), (3, .long x3), (5, .long x5), (7, .int x7), (8, .long x8), (10, .int x10), (11, .long (((x1 * v18.toInt64) + (x3 * v22.toInt64)) + (x5 * v26.toInt64)))]) rfl ?_
            exact eaX3_farthest_188 ih _ _ _ _ _ _ _ _ _ _ hq
        · rw [if_neg c45] at hq
          refine ic_eq_F (t := 166) odX3_farthest rfl rfl c45 ?_
          refine mB_run odX3_farthest 1 (g := (142, [(11, .long (((x1 * v18.toInt64) + (x3 * v22.toInt64)) + (x5 * v26.toInt64))), (0, .ref x0), (1, .long x1), (3, .long x3), (5, .long x5), (7, .int x7), (8, .long x8), (10, .int x10)], [.ref x0], (h ++ R), 0, 0)) rfl ?_
          obtain ⟨v55, e56, hq⟩ := bsm hq
          refine r_gR odX3_farthest rfl rfl (gR_ap e56) ?_
          refine mB_run odX3_farthest 1 (g := (147, [(11, .long (((x1 * v18.toInt64) + (x3 * v22.toInt64)) + (x5 * v26.toInt64))), (0, .ref x0), (1, .long x1), (3, .long x3), (5, .long x5), (7, .int x7), (8, .long x8), (10, .int x10)], [.int x10, .ref v55], (h ++ R), 0, 0)) rfl ?_
          obtain ⟨v57, e58, hq⟩ := bsm hq
          refine r_aI odX3_farthest rfl (aI_ap e58) ?_
          refine mB_run odX3_farthest 1 (g := (149, [(11, .long (((x1 * v18.toInt64) + (x3 * v22.toInt64)) + (x5 * v26.toInt64))), (0, .ref x0), (1, .long x1), (3, .long x3), (5, .long x5), (7, .int x7), (8, .long x8), (10, .int x10)], [.ref x0, .int v57], (h ++ R), 0, 0)) rfl ?_
          obtain ⟨v59, e60, hq⟩ := bsm hq
          refine r_gR odX3_farthest rfl rfl (gR_ap e60) ?_
          refine mB_run odX3_farthest 1 (g := (154, [(11, .long (((x1 * v18.toInt64) + (x3 * v22.toInt64)) + (x5 * v26.toInt64))), (0, .ref x0), (1, .long x1), (3, .long x3), (5, .long x5), (7, .int x7), (8, .long x8), (10, .int x10)], [.int x7, .ref v59, .int v57], (h ++ R), 0, 0)) rfl ?_
          obtain ⟨v61, e62, hq⟩ := bsm hq
          refine r_aI odX3_farthest rfl (aI_ap e62) ?_
          by_cases c63 : v57 ≤ v61
          · rw [if_pos c63] at hq
            refine ic_le_T (t := 162) odX3_farthest rfl rfl c63 ?_
            refine mB_run odX3_farthest 2 (g := (188, [(11, .long (((x1 * v18.toInt64) + (x3 * v22.toInt64)) + (x5 * v26.toInt64))), (0, .ref x0), (1, .long x1), (3, .long x3), (5, .long x5), (7, .int x7), (8, .long x8), (10, .int x10)], [.int (0 : Int32)], (h ++ R), 0, 0)) rfl ?_
            refine mB_lv [1, 2, 3, 4, 5, 6, 7, 0] (lv' := [(0, .ref x0), (1, .long x1), (3, .long x3), (5, .long x5), (7, .int x7), (8, .long x8), (10, .int x10), (11, .long (((x1 * v18.toInt64) + (x3 * v22.toInt64)) + (x5 * v26.toInt64)))]) rfl ?_
            exact eaX3_farthest_188 ih _ _ _ _ _ _ _ _ _ _ hq
          · rw [if_neg c63] at hq
            refine ic_le_F (t := 162) odX3_farthest rfl rfl c63 ?_
            refine mB_run odX3_farthest 2 (g := (188, [(11, .long (((x1 * v18.toInt64) + (x3 * v22.toInt64)) + (x5 * v26.toInt64))), (0, .ref x0), (1, .long x1), (3, .long x3), (5, .long x5), (7, .int x7), (8, .long x8), (10, .int x10)], [.int (1 : Int32)], (h ++ R), 0, 0)) rfl ?_
            refine mB_lv [1, 2, 3, 4, 5, 6, 7, 0] (lv' := [(0, .ref x0), (1, .long x1), (3, .long x3), (5, .long x5), (7, .int x7), (8, .long x8), (10, .int x10), (11, .long (((x1 * v18.toInt64) + (x3 * v22.toInt64)) + (x5 * v26.toInt64)))]) rfl ?_
            exact eaX3_farthest_188 ih _ _ _ _ _ _ _ _ _ _ hq
      · rw [if_neg c36] at hq
        refine ic_eq_F (t := 124) odX3_farthest rfl rfl c36 ?_
        refine mB_run odX3_farthest 1 (g := (100, [(11, .long (((x1 * v18.toInt64) + (x3 * v22.toInt64)) + (x5 * v26.toInt64))), (0, .ref x0), (1, .long x1), (3, .long x3), (5, .long x5), (7, .int x7), (8, .long x8), (10, .int x10)], [.ref x0], (h ++ R), 0, 0)) rfl ?_
        obtain ⟨v64, e65, hq⟩ := bsm hq
        refine r_gR odX3_farthest rfl rfl (gR_ap e65) ?_
        refine mB_run odX3_farthest 1 (g := (105, [(11, .long (((x1 * v18.toInt64) + (x3 * v22.toInt64)) + (x5 * v26.toInt64))), (0, .ref x0), (1, .long x1), (3, .long x3), (5, .long x5), (7, .int x7), (8, .long x8), (10, .int x10)], [.int x10, .ref v64], (h ++ R), 0, 0)) rfl ?_
        obtain ⟨v66, e67, hq⟩ := bsm hq
        refine r_aI odX3_farthest rfl (aI_ap e67) ?_
        refine mB_run odX3_farthest 1 (g := (107, [(11, .long (((x1 * v18.toInt64) + (x3 * v22.toInt64)) + (x5 * v26.toInt64))), (0, .ref x0), (1, .long x1), (3, .long x3), (5, .long x5), (7, .int x7), (8, .long x8), (10, .int x10)], [.ref x0, .int v66], (h ++ R), 0, 0)) rfl ?_
        obtain ⟨v68, e69, hq⟩ := bsm hq
        refine r_gR odX3_farthest rfl rfl (gR_ap e69) ?_
        refine mB_run odX3_farthest 1 (g := (112, [(11, .long (((x1 * v18.toInt64) + (x3 * v22.toInt64)) + (x5 * v26.toInt64))), (0, .ref x0), (1, .long x1), (3, .long x3), (5, .long x5), (7, .int x7), (8, .long x8), (10, .int x10)], [.int x7, .ref v68, .int v66], (h ++ R), 0, 0)) rfl ?_
        obtain ⟨v70, e71, hq⟩ := bsm hq
        refine r_aI odX3_farthest rfl (aI_ap e71) ?_
        by_cases c72 : v66 ≤ v70
        · rw [if_pos c72] at hq
          refine ic_le_T (t := 120) odX3_farthest rfl rfl c72 ?_
          refine mB_run odX3_farthest 2 (g := (188, [(11, .long (((x1 * v18.toInt64) + (x3 * v22.toInt64)) + (x5 * v26.toInt64))), (0, .ref x0), (1, .long x1), (3, .long x3), (5, .long x5), (7, .int x7), (8, .long x8), (10, .int x10)], [.int (0 : Int32)], (h ++ R), 0, 0)) rfl ?_
          refine mB_lv [1, 2, 3, 4, 5, 6, 7, 0] (lv' := [(0, .ref x0), (1, .long x1), (3, .long x3), (5, .long x5), (7, .int x7), (8, .long x8), (10, .int x10), (11, .long (((x1 * v18.toInt64) + (x3 * v22.toInt64)) + (x5 * v26.toInt64)))]) rfl ?_
          exact eaX3_farthest_188 ih _ _ _ _ _ _ _ _ _ _ hq
        · rw [if_neg c72] at hq
          refine ic_le_F (t := 120) odX3_farthest rfl rfl c72 ?_
          refine mB_run odX3_farthest 2 (g := (188, [(11, .long (((x1 * v18.toInt64) + (x3 * v22.toInt64)) + (x5 * v26.toInt64))), (0, .ref x0), (1, .long x1), (3, .long x3), (5, .long x5), (7, .int x7), (8, .long x8), (10, .int x10)], [.int (1 : Int32)], (h ++ R), 0, 0)) rfl ?_
          refine mB_lv [1, 2, 3, 4, 5, 6, 7, 0] (lv' := [(0, .ref x0), (1, .long x1), (3, .long x3), (5, .long x5), (7, .int x7), (8, .long x8), (10, .int x10), (11, .long (((x1 * v18.toInt64) + (x3 * v22.toInt64)) + (x5 * v26.toInt64)))]) rfl ?_
          exact eaX3_farthest_188 ih _ _ _ _ _ _ _ _ _ _ hq
set_option maxHeartbeats 4000000 in
set_option maxRecDepth 100000 in
theorem eaX3_farthest {N : Nat} {R : mh} {p0 : Nat} {p1 : Int64} {p2 : Int64} {p3 : Int64} {h : mh} {o : (mh × Int32)} (hq : fxX3_farthest N p0 p1 p2 p3 h = some o) : mC mX3_farthest [.ref p0, .long p1, .long p2, .long p3] (h ++ R) (o.1 ++ R, some (.int o.2)) := by
  refine mC_of okX3_farthest (Nat.le_of_ble_eq_true rfl) ?_
  unfold fxX3_farthest at hq
  show mB _ mX3_farthest (0, [(0, .ref p0), (1, .long p1), (3, .long p2), (5, .long p3)], [], (h ++ R), 0, 0)
  refine mB_run odX3_farthest 4 (g := (5, [(7, .int (0 : Int32)), (0, .ref p0), (1, .long p1), (3, .long p2), (5, .long p3)], [.ref p0, .long p1], (h ++ R), 0, 0)) rfl ?_
  obtain ⟨v1, e2, hq⟩ := bsm hq
  refine r_gR odX3_farthest rfl rfl (gR_ap e2) ?_
  refine mB_run odX3_farthest 1 (g := (9, [(7, .int (0 : Int32)), (0, .ref p0), (1, .long p1), (3, .long p2), (5, .long p3)], [.int (0 : Int32), .ref v1, .long p1], (h ++ R), 0, 0)) rfl ?_
  obtain ⟨v3, e4, hq⟩ := bsm hq
  refine r_aI odX3_farthest rfl (aI_ap e4) ?_
  refine mB_run odX3_farthest 4 (g := (14, [(7, .int (0 : Int32)), (0, .ref p0), (1, .long p1), (3, .long p2), (5, .long p3)], [.ref p0, .long p2, .long (p1 * v3.toInt64)], (h ++ R), 0, 0)) rfl ?_
  obtain ⟨v5, e6, hq⟩ := bsm hq
  refine r_gR odX3_farthest rfl rfl (gR_ap e6) ?_
  refine mB_run odX3_farthest 1 (g := (18, [(7, .int (0 : Int32)), (0, .ref p0), (1, .long p1), (3, .long p2), (5, .long p3)], [.int (0 : Int32), .ref v5, .long p2, .long (p1 * v3.toInt64)], (h ++ R), 0, 0)) rfl ?_
  obtain ⟨v7, e8, hq⟩ := bsm hq
  refine r_aI odX3_farthest rfl (aI_ap e8) ?_
  refine mB_run odX3_farthest 5 (g := (25, [(7, .int (0 : Int32)), (0, .ref p0), (1, .long p1), (3, .long p2), (5, .long p3)], [.ref p0, .long p3, .long ((p1 * v3.toInt64) + (p2 * v7.toInt64))], (h ++ R), 0, 0)) rfl ?_
  obtain ⟨v9, e10, hq⟩ := bsm hq
  refine r_gR odX3_farthest rfl rfl (gR_ap e10) ?_
  refine mB_run odX3_farthest 1 (g := (29, [(7, .int (0 : Int32)), (0, .ref p0), (1, .long p1), (3, .long p2), (5, .long p3)], [.int (0 : Int32), .ref v9, .long p3, .long ((p1 * v3.toInt64) + (p2 * v7.toInt64))], (h ++ R), 0, 0)) rfl ?_
  obtain ⟨v11, e12, hq⟩ := bsm hq
  refine r_aI odX3_farthest rfl (aI_ap e12) ?_
  refine mB_run odX3_farthest 6 (g := (38, [(10, .int (1 : Int32)), (8, .long (((p1 * v3.toInt64) + (p2 * v7.toInt64)) + (p3 * v11.toInt64))), (7, .int (0 : Int32)), (0, .ref p0), (1, .long p1), (3, .long p2), (5, .long p3)], [], (h ++ R), 0, 0)) rfl ?_
  refine mB_lv [3, 4, 5, 6, 2, 1, 0] (lv' := [(0, .ref p0), (1, .long p1), (3, .long p2), (5, .long p3), (7, .int (0 : Int32)), (8, .long (((p1 * v3.toInt64) + (p2 * v7.toInt64)) + (p3 * v11.toInt64))), (10, .int (1 : Int32))]) rfl ?_
  exact eaX3_farthest_38 N _ _ _ _ _ _ _ _ hq
set_option maxHeartbeats 4000000 in
set_option maxRecDepth 100000 in
theorem eaX3_along {N : Nat} {R : mh} {p0 : Nat} {p1 : Int32} {p2 : Int64} {p3 : Int64} {p4 : Int64} {h : mh} {o : (mh × Int64)} (hq : fxX3_along N p0 p1 p2 p3 p4 h = some o) : mC mX3_along [.ref p0, .int p1, .long p2, .long p3, .long p4] (h ++ R) (o.1 ++ R, some (.long o.2)) := by
  refine mC_of okX3_along (Nat.le_of_ble_eq_true rfl) ?_
  unfold fxX3_along at hq
  show mB _ mX3_along (0, [(0, .ref p0), (1, .int p1), (2, .long p2), (4, .long p3), (6, .long p4)], [], (h ++ R), 0, 0)
  refine mB_run odX3_along 2 (g := (2, [(0, .ref p0), (1, .int p1), (2, .long p2), (4, .long p3), (6, .long p4)], [.ref p0, .long p2], (h ++ R), 0, 0)) rfl ?_
  obtain ⟨v1, e2, hq⟩ := bsm hq
  refine r_gR odX3_along rfl rfl (gR_ap e2) ?_
  refine mB_run odX3_along 1 (g := (6, [(0, .ref p0), (1, .int p1), (2, .long p2), (4, .long p3), (6, .long p4)], [.int p1, .ref v1, .long p2], (h ++ R), 0, 0)) rfl ?_
  obtain ⟨v3, e4, hq⟩ := bsm hq
  refine r_aI odX3_along rfl (aI_ap e4) ?_
  refine mB_run odX3_along 4 (g := (12, [(0, .ref p0), (1, .int p1), (2, .long p2), (4, .long p3), (6, .long p4)], [.ref p0, .long p3, .long (p2 * v3.toInt64)], (h ++ R), 0, 0)) rfl ?_
  obtain ⟨v5, e6, hq⟩ := bsm hq
  refine r_gR odX3_along rfl rfl (gR_ap e6) ?_
  refine mB_run odX3_along 1 (g := (16, [(0, .ref p0), (1, .int p1), (2, .long p2), (4, .long p3), (6, .long p4)], [.int p1, .ref v5, .long p3, .long (p2 * v3.toInt64)], (h ++ R), 0, 0)) rfl ?_
  obtain ⟨v7, e8, hq⟩ := bsm hq
  refine r_aI odX3_along rfl (aI_ap e8) ?_
  refine mB_run odX3_along 5 (g := (23, [(0, .ref p0), (1, .int p1), (2, .long p2), (4, .long p3), (6, .long p4)], [.ref p0, .long p4, .long ((p2 * v3.toInt64) + (p3 * v7.toInt64))], (h ++ R), 0, 0)) rfl ?_
  obtain ⟨v9, e10, hq⟩ := bsm hq
  refine r_gR odX3_along rfl rfl (gR_ap e10) ?_
  refine mB_run odX3_along 1 (g := (27, [(0, .ref p0), (1, .int p1), (2, .long p2), (4, .long p3), (6, .long p4)], [.int p1, .ref v9, .long p4, .long ((p2 * v3.toInt64) + (p3 * v7.toInt64))], (h ++ R), 0, 0)) rfl ?_
  obtain ⟨v11, e12, hq⟩ := bsm hq
  refine r_aI odX3_along rfl (aI_ap e12) ?_
  refine mB_run odX3_along 3 (g := (31, [(0, .ref p0), (1, .int p1), (2, .long p2), (4, .long p3), (6, .long p4)], [.long (((p2 * v3.toInt64) + (p3 * v7.toInt64)) + (p4 * v11.toInt64))], (h ++ R), 0, 0)) rfl ?_
  cases hq
  exact mB_ret odX3_along rfl
set_option maxHeartbeats 4000000 in
set_option maxRecDepth 100000 in
theorem eaX4_isAbove_106 {N : Nat} {R : mh} (x18 : Int64) (x20 : Int64) (h : mh) {o : (mh × Int32)} (hq : fxX4_isAbove_106 N x18 x20 h = some o) : mB (gO mX4_isAbove (o.1 ++ R, some (.int o.2))) mX4_isAbove (106, [(18, .long x18), (20, .long x20)], [], (h ++ R), 0, 0) := by
  unfold fxX4_isAbove_106 at hq
  refine mB_run odX4_isAbove 2 (g := (110, [(18, .long x18), (20, .long x20)], [.long x20, .long x18], (h ++ R), 0, 0)) rfl ?_
  by_cases c16 : x18 ≤ x20
  · rw [if_pos c16] at hq
    refine lc_le_T (t := 118) odX4_isAbove rfl rfl rfl c16 ?_
    refine mB_run odX4_isAbove 1 (g := (119, [(18, .long x18), (20, .long x20)], [.int (0 : Int32)], (h ++ R), 0, 0)) rfl ?_
    cases hq
    exact mB_ret odX4_isAbove rfl
  · rw [if_neg c16] at hq
    refine lc_le_F (t := 118) odX4_isAbove rfl rfl rfl c16 ?_
    refine mB_run odX4_isAbove 2 (g := (119, [(18, .long x18), (20, .long x20)], [.int (1 : Int32)], (h ++ R), 0, 0)) rfl ?_
    cases hq
    exact mB_ret odX4_isAbove rfl
set_option maxHeartbeats 4000000 in
set_option maxRecDepth 100000 in
theorem eaX4_isAbove_21 {N : Nat} {R : mh} : ∀ (n : Nat) (x5 : Int64) (x7 : Int64) (x9 : Int64) (x11 : Int64) (x13 : Int32) (h : mh) {o : (mh × Int32)}, fxX4_isAbove_21 N n x5 x7 x9 x11 x13 h = some o → mB (gO mX4_isAbove (o.1 ++ R, some (.int o.2))) mX4_isAbove (21, [(5, .long x5), (7, .long x7), (9, .long x9), (11, .long x11), (13, .int x13)], [], (h ++ R), 0, 0) := by
  intro n
  induction n with
  | zero => intro x5 x7 x9 x11 x13 h o hq; cases hq
  | succ n ih =>
    intro x5 x7 x9 x11 x13 h o hq
    unfold fxX4_isAbove_21 at hq
    refine mB_run odX4_isAbove 2 (g := (25, [(5, .long x5), (7, .long x7), (9, .long x9), (11, .long x11), (13, .int x13)], [.int (100000 : Int32), .int x13], (h ++ R), 0, 0)) rfl ?_
    by_cases c5 : (100000 : Int32) ≤ x13
    · rw [if_pos c5] at hq
      refine ic_ge_T (t := 142) odX4_isAbove rfl rfl c5 ?_
      refine mB_run odX4_isAbove 1 (g := (143, [(5, .long x5), (7, .long x7), (9, .long x9), (11, .long x11), (13, .int x13)], [.int (0 : Int32)], (h ++ R), 0, 0)) rfl ?_
      cases hq
      exact mB_ret odX4_isAbove rfl
    · rw [if_neg c5] at hq
      refine ic_ge_F (t := 142) odX4_isAbove rfl rfl c5 ?_
      refine mB_run odX4_isAbove 2 (g := (31, [(5, .long x5), (7, .long x7), (9, .long x9), (11, .long x11), (13, .int x13)], [.long (0 : Int64), .long x7], (h ++ R), 0, 0)) rfl ?_
      by_cases c6 : x7 ≤ (0 : Int64)
      · rw [if_pos c6] at hq
        refine lc_le_T (t := 142) odX4_isAbove rfl rfl rfl c6 ?_
        refine mB_run odX4_isAbove 1 (g := (143, [(5, .long x5), (7, .long x7), (9, .long x9), (11, .long x11), (13, .int x13)], [.int (0 : Int32)], (h ++ R), 0, 0)) rfl ?_
        cases hq
        exact mB_ret odX4_isAbove rfl
      · rw [if_neg c6] at hq
        refine lc_le_F (t := 142) odX4_isAbove rfl rfl rfl c6 ?_
        refine mB_run odX4_isAbove 2 (g := (38, [(5, .long x5), (7, .long x7), (9, .long x9), (11, .long x11), (13, .int x13)], [.long (0 : Int64), .long x11], (h ++ R), 0, 0)) rfl ?_
        by_cases c7 : x11 ≤ (0 : Int64)
        · rw [if_pos c7] at hq
          refine lc_le_T (t := 142) odX4_isAbove rfl rfl rfl c7 ?_
          refine mB_run odX4_isAbove 1 (g := (143, [(5, .long x5), (7, .long x7), (9, .long x9), (11, .long x11), (13, .int x13)], [.int (0 : Int32)], (h ++ R), 0, 0)) rfl ?_
          cases hq
          exact mB_ret odX4_isAbove rfl
        · rw [if_neg c7] at hq
          refine lc_le_F (t := 142) odX4_isAbove rfl rfl rfl c7 ?_
          refine mB_run odX4_isAbove 2 (g := (46, [(5, .long x5), (7, .long x7), (9, .long x9), (11, .long x11), (13, .int x13)], [.long x7, .long x5], (h ++ R), 0, 0)) rfl ?_
          by_cases c8 : x7 = 0
          · rw [if_pos c8] at hq; cases hq
          rw [if_neg c8] at hq
          refine r_ldiv odX4_isAbove rfl c8 ?_
          refine mB_run odX4_isAbove 3 (g := (53, [(14, .long (x5 / x7)), (5, .long x5), (7, .long x7), (9, .long x9), (11, .long x11), (13, .int x13)], [.long x11, .long x9], (h ++ R), 0, 0)) rfl ?_
          by_cases c9 : x11 = 0
          · rw [if_pos c9] at hq; cases hq
          rw [if_neg c9] at hq
          refine r_ldiv odX4_isAbove rfl c9 ?_
          refine mB_run odX4_isAbove 3 (g := (60, [(16, .long (x9 / x11)), (14, .long (x5 / x7)), (5, .long x5), (7, .long x7), (9, .long x9), (11, .long x11), (13, .int x13)], [.long (x9 / x11), .long (x5 / x7)], (h ++ R), 0, 0)) rfl ?_
          by_cases c10 : (x5 / x7) = (x9 / x11)
          · rw [if_pos c10] at hq
            refine lc_eq_T (t := 78) odX4_isAbove rfl rfl rfl c10 ?_
            refine mB_run odX4_isAbove 2 (g := (82, [(16, .long (x9 / x11)), (14, .long (x5 / x7)), (5, .long x5), (7, .long x7), (9, .long x9), (11, .long x11), (13, .int x13)], [.long x7, .long x5], (h ++ R), 0, 0)) rfl ?_
            by_cases c11 : x7 = 0
            · rw [if_pos c11] at hq; cases hq
            rw [if_neg c11] at hq
            refine r_lrem odX4_isAbove rfl c11 ?_
            refine mB_run odX4_isAbove 3 (g := (89, [(18, .long (x5 - x5 / x7 * x7)), (16, .long (x9 / x11)), (14, .long (x5 / x7)), (5, .long x5), (7, .long x7), (9, .long x9), (11, .long x11), (13, .int x13)], [.long x11, .long x9], (h ++ R), 0, 0)) rfl ?_
            by_cases c12 : x11 = 0
            · rw [if_pos c12] at hq; cases hq
            rw [if_neg c12] at hq
            refine r_lrem odX4_isAbove rfl c12 ?_
            refine mB_run odX4_isAbove 3 (g := (95, [(20, .long (x9 - x9 / x11 * x11)), (18, .long (x5 - x5 / x7 * x7)), (16, .long (x9 / x11)), (14, .long (x5 / x7)), (5, .long x5), (7, .long x7), (9, .long x9), (11, .long x11), (13, .int x13)], [.long (0 : Int64), .long (x5 - x5 / x7 * x7)], (h ++ R), 0, 0)) rfl ?_
            by_cases c13 : (x5 - x5 / x7 * x7) = (0 : Int64)
            · rw [if_pos c13] at hq
              refine lc_eq_T (t := 106) odX4_isAbove rfl rfl rfl c13 ?_
              refine mB_lv [1, 0] (lv' := [(18, .long (x5 - x5 / x7 * x7)), (20, .long (x9 - x9 / x11 * x11))]) rfl ?_
              exact eaX4_isAbove_106 _ _ _ hq
            · rw [if_neg c13] at hq
              refine lc_eq_F (t := 106) odX4_isAbove rfl rfl rfl c13 ?_
              refine mB_run odX4_isAbove 2 (g := (102, [(20, .long (x9 - x9 / x11 * x11)), (18, .long (x5 - x5 / x7 * x7)), (16, .long (x9 / x11)), (14, .long (x5 / x7)), (5, .long x5), (7, .long x7), (9, .long x9), (11, .long x11), (13, .int x13)], [.long (0 : Int64), .long (x9 - x9 / x11 * x11)], (h ++ R), 0, 0)) rfl ?_
              by_cases c14 : (x9 - x9 / x11 * x11) = (0 : Int64)
              · rw [if_pos c14] at hq
                refine lc_ne_F (t := 120) odX4_isAbove rfl rfl rfl c14 ?_
                refine mB_lv [1, 0] (lv' := [(18, .long (x5 - x5 / x7 * x7)), (20, .long (x9 - x9 / x11 * x11))]) rfl ?_
                exact eaX4_isAbove_106 _ _ _ hq
              · rw [if_neg c14] at hq
                refine lc_ne_T (t := 120) odX4_isAbove rfl rfl rfl c14 ?_
                refine mB_run odX4_isAbove 10 (g := (21, [(13, .int (x13 + (1 : Int32))), (11, .long (x5 - x5 / x7 * x7)), (7, .long (x9 - x9 / x11 * x11)), (9, .long x7), (5, .long x11), (20, .long (x9 - x9 / x11 * x11)), (18, .long (x5 - x5 / x7 * x7)), (16, .long (x9 / x11)), (14, .long (x5 / x7))], [], (h ++ R), 0, 0)) rfl ?_
                refine mB_lv [4, 2, 3, 1, 0] (lv' := [(5, .long x11), (7, .long (x9 - x9 / x11 * x11)), (9, .long x7), (11, .long (x5 - x5 / x7 * x7)), (13, .int (x13 + (1 : Int32)))]) rfl ?_
                exact ih _ _ _ _ _ _ hq
          · rw [if_neg c10] at hq
            refine lc_eq_F (t := 78) odX4_isAbove rfl rfl rfl c10 ?_
            refine mB_run odX4_isAbove 2 (g := (68, [(16, .long (x9 / x11)), (14, .long (x5 / x7)), (5, .long x5), (7, .long x7), (9, .long x9), (11, .long x11), (13, .int x13)], [.long (x9 / x11), .long (x5 / x7)], (h ++ R), 0, 0)) rfl ?_
            by_cases c15 : (x5 / x7) ≤ (x9 / x11)
            · rw [if_pos c15] at hq
              refine lc_le_T (t := 76) odX4_isAbove rfl rfl rfl c15 ?_
              refine mB_run odX4_isAbove 1 (g := (77, [(16, .long (x9 / x11)), (14, .long (x5 / x7)), (5, .long x5), (7, .long x7), (9, .long x9), (11, .long x11), (13, .int x13)], [.int (0 : Int32)], (h ++ R), 0, 0)) rfl ?_
              cases hq
              exact mB_ret odX4_isAbove rfl
            · rw [if_neg c15] at hq
              refine lc_le_F (t := 76) odX4_isAbove rfl rfl rfl c15 ?_
              refine mB_run odX4_isAbove 2 (g := (77, [(16, .long (x9 / x11)), (14, .long (x5 / x7)), (5, .long x5), (7, .long x7), (9, .long x9), (11, .long x11), (13, .int x13)], [.int (1 : Int32)], (h ++ R), 0, 0)) rfl ?_
              cases hq
              exact mB_ret odX4_isAbove rfl
set_option maxHeartbeats 4000000 in
set_option maxRecDepth 100000 in
theorem eaX4_isAbove {N : Nat} {R : mh} {p0 : Nat} {p1 : Int64} {p2 : Int64} {h : mh} {o : (mh × Int32)} (hq : fxX4_isAbove N p0 p1 p2 h = some o) : mC mX4_isAbove [.ref p0, .long p1, .long p2] (h ++ R) (o.1 ++ R, some (.int o.2)) := by
  refine mC_of okX4_isAbove (Nat.le_of_ble_eq_true rfl) ?_
  unfold fxX4_isAbove at hq
  show mB _ mX4_isAbove (0, [(0, .ref p0), (1, .long p1), (3, .long p2)], [], (h ++ R), 0, 0)
  refine mB_run odX4_isAbove 1 (g := (1, [(0, .ref p0), (1, .long p1), (3, .long p2)], [.ref p0], (h ++ R), 0, 0)) rfl ?_
  obtain ⟨v1, e2, hq⟩ := bsm hq
  refine r_gJ odX4_isAbove rfl rfl (gJ_ap e2) ?_
  refine mB_run odX4_isAbove 2 (g := (7, [(5, .long v1), (0, .ref p0), (1, .long p1), (3, .long p2)], [.ref p0], (h ++ R), 0, 0)) rfl ?_
  obtain ⟨v3, e4, hq⟩ := bsm hq
  refine r_gJ odX4_isAbove rfl rfl (gJ_ap e4) ?_
  refine mB_run odX4_isAbove 7 (g := (21, [(13, .int (0 : Int32)), (11, .long p2), (9, .long p1), (7, .long v3), (5, .long v1), (0, .ref p0), (1, .long p1), (3, .long p2)], [], (h ++ R), 0, 0)) rfl ?_
  refine mB_lv [4, 3, 2, 1, 0] (lv' := [(5, .long v1), (7, .long v3), (9, .long p1), (11, .long p2), (13, .int (0 : Int32))]) rfl ?_
  exact eaX4_isAbove_21 N _ _ _ _ _ _ hq
set_option maxHeartbeats 4000000 in
set_option maxRecDepth 100000 in
theorem eaX4_put {N : Nat} {R : mh} {p0 : Nat} {p1 : Int64} {p2 : Int64} {h : mh} {o : mh} (hq : fxX4_put N p0 p1 p2 h = some o) : mC mX4_put [.ref p0, .long p1, .long p2] (h ++ R) (o ++ R, none) := by
  refine mC_of okX4_put (Nat.le_of_ble_eq_true rfl) ?_
  unfold fxX4_put at hq
  show mB _ mX4_put (0, [(0, .ref p0), (1, .long p1), (3, .long p2)], [], (h ++ R), 0, 0)
  refine mB_run odX4_put 3 (g := (5, [(0, .ref p0), (1, .long p1), (3, .long p2)], [.long p2, .long (if 0 < p1 then p1 else -p1)], (h ++ R), 0, 0)) rfl ?_
  obtain ⟨o1, e2, hq⟩ := bsm hq
  refine mB_NS (as := [.long (if 0 < p1 then p1 else -p1), .long p2]) odX4_put okX6_divisor lk_4_24 rfl (eaX6_divisor e2) rfl rfl rfl ?_
  show mB _ mX4_put (8, [(0, .ref p0), (1, .long p1), (3, .long p2)], [.long o1.2], (o1.1 ++ R), 0, 0)
  refine mB_run odX4_put 3 (g := (13, [(5, .long o1.2), (0, .ref p0), (1, .long p1), (3, .long p2)], [.long (0 : Int64), .long o1.2], (o1.1 ++ R), 0, 0)) rfl ?_
  by_cases c3 : o1.2 ≤ (0 : Int64)
  · rw [if_pos c3] at hq
    refine lc_le_T (t := 33) odX4_put rfl rfl rfl c3 ?_
    cases hq
    exact mB_ret odX4_put rfl
  · rw [if_neg c3] at hq
    refine lc_le_F (t := 33) odX4_put rfl rfl rfl c3 ?_
    refine mB_run odX4_put 3 (g := (21, [(5, .long o1.2), (0, .ref p0), (1, .long p1), (3, .long p2)], [.long o1.2, .long p1, .ref p0], (o1.1 ++ R), 0, 0)) rfl ?_
    by_cases c4 : o1.2 = 0
    · rw [if_pos c4] at hq; cases hq
    rw [if_neg c4] at hq
    refine r_ldiv odX4_put rfl c4 ?_
    obtain ⟨h5, e6, hq⟩ := bsm hq
    refine r_sV odX4_put rfl rfl rfl rfl (sV_ap e6) ?_
    refine mB_run odX4_put 3 (g := (29, [(5, .long o1.2), (0, .ref p0), (1, .long p1), (3, .long p2)], [.long o1.2, .long p2, .ref p0], (h5 ++ R), 0, 0)) rfl ?_
    by_cases c7 : o1.2 = 0
    · rw [if_pos c7] at hq; cases hq
    rw [if_neg c7] at hq
    refine r_ldiv odX4_put rfl c7 ?_
    obtain ⟨h8, e9, hq⟩ := bsm hq
    refine r_sV odX4_put rfl rfl rfl rfl (sV_ap e9) ?_
    cases hq
    exact mB_ret odX4_put rfl
set_option maxHeartbeats 4000000 in
set_option maxRecDepth 100000 in
theorem eaX0_offerSlit_26 {N : Nat} {R : mh} (x0 : Nat) (x1 : Int64) (x3 : Int64) (h : mh) {o : mh} (hq : fxX0_offerSlit_26 N x0 x1 x3 h = some o) : mB (gO mX0_offerSlit (o ++ R, none)) mX0_offerSlit (26, [(0, .ref x0), (1, .long x1), (3, .long x3)], [], (h ++ R), 0, 0) := by
  unfold fxX0_offerSlit_26 at hq
  refine mB_run odX0_offerSlit 1 (g := (27, [(0, .ref x0), (1, .long x1), (3, .long x3)], [.ref x0], (h ++ R), 0, 0)) rfl ?_
  obtain ⟨v13, e14, hq⟩ := bsm hq
  refine r_gR odX0_offerSlit rfl rfl (gR_ap e14) ?_
  refine mB_run odX0_offerSlit 4 (g := (34, [(0, .ref x0), (1, .long x1), (3, .long x3)], [.long x3, .long (x1 * x1), .ref v13], (h ++ R), 0, 0)) rfl ?_
  obtain ⟨f17, k18, hq⟩ := bsm hq
  obtain ⟨o15, e16, hq⟩ := bsm hq
  refine mB_V (as := [.long (x1 * x1), .long x3]) odX0_offerSlit okX4_put lk_0_174 rfl (eaX4_put e16) (kO_at (kO_ap k18)) rfl rfl rfl ?_
  show mB _ mX0_offerSlit (37, [(0, .ref x0), (1, .long x1), (3, .long x3)], [], (o15 ++ R), 0, 0)
  cases hq
  exact mB_ret odX0_offerSlit rfl
set_option maxHeartbeats 4000000 in
set_option maxRecDepth 100000 in
theorem eaX0_offerSlit {N : Nat} {R : mh} {p0 : Nat} {p1 : Int64} {p2 : Int64} {h : mh} {o : mh} (hq : fxX0_offerSlit N p0 p1 p2 h = some o) : mC mX0_offerSlit [.ref p0, .long p1, .long p2] (h ++ R) (o ++ R, none) := by
  refine mC_of okX0_offerSlit (Nat.le_of_ble_eq_true rfl) ?_
  unfold fxX0_offerSlit at hq
  show mB _ mX0_offerSlit (0, [(0, .ref p0), (1, .long p1), (3, .long p2)], [], (h ++ R), 0, 0)
  refine mB_run odX0_offerSlit 1 (g := (1, [(0, .ref p0), (1, .long p1), (3, .long p2)], [.ref p0], (h ++ R), 0, 0)) rfl ?_
  obtain ⟨v1, e2, hq⟩ := bsm hq
  refine r_gR odX0_offerSlit rfl rfl (gR_ap e2) ?_
  obtain ⟨v3, e4, hq⟩ := bsm hq
  refine r_gJ odX0_offerSlit rfl rfl (gJ_ap e4) ?_
  refine mB_run odX0_offerSlit 1 (g := (8, [(0, .ref p0), (1, .long p1), (3, .long p2)], [.long (0 : Int64), .long v3], (h ++ R), 0, 0)) rfl ?_
  by_cases c5 : v3 = (0 : Int64)
  · rw [if_pos c5] at hq
    refine lc_eq_T (t := 26) odX0_offerSlit rfl rfl rfl c5 ?_
    refine mB_lv [0, 1, 2] (lv' := [(0, .ref p0), (1, .long p1), (3, .long p2)]) rfl ?_
    exact eaX0_offerSlit_26 _ _ _ _ hq
  · rw [if_neg c5] at hq
    refine lc_eq_F (t := 26) odX0_offerSlit rfl rfl rfl c5 ?_
    refine mB_run odX0_offerSlit 1 (g := (13, [(0, .ref p0), (1, .long p1), (3, .long p2)], [.ref p0], (h ++ R), 0, 0)) rfl ?_
    obtain ⟨v6, e7, hq⟩ := bsm hq
    refine r_gR odX0_offerSlit rfl rfl (gR_ap e7) ?_
    refine mB_run odX0_offerSlit 4 (g := (20, [(0, .ref p0), (1, .long p1), (3, .long p2)], [.long p2, .long (p1 * p1), .ref v6], (h ++ R), 0, 0)) rfl ?_
    obtain ⟨f10, k11, hq⟩ := bsm hq
    obtain ⟨o8, e9, hq⟩ := bsm hq
    refine mB_V (as := [.long (p1 * p1), .long p2]) odX0_offerSlit okX4_isAbove lk_0_170 rfl (eaX4_isAbove e9) (kO_at (kO_ap k11)) rfl rfl rfl ?_
    show mB _ mX0_offerSlit (23, [(0, .ref p0), (1, .long p1), (3, .long p2)], [.int o8.2], (o8.1 ++ R), 0, 0)
    by_cases c12 : o8.2 = 0
    · rw [if_pos c12] at hq
      refine if_eq_T (t := 37) odX0_offerSlit rfl rfl c12 ?_
      cases hq
      exact mB_ret odX0_offerSlit rfl
    · rw [if_neg c12] at hq
      refine if_eq_F (t := 37) odX0_offerSlit rfl rfl c12 ?_
      refine mB_lv [0, 1, 2] (lv' := [(0, .ref p0), (1, .long p1), (3, .long p2)]) rfl ?_
      exact eaX0_offerSlit_26 _ _ _ _ hq
set_option maxHeartbeats 4000000 in
set_option maxRecDepth 100000 in
theorem eaX0_isPassedBy_122 {N : Nat} {R : mh} (x10 : Int64) (x12 : Int64) (h : mh) {o : (mh × Int32)} (hq : fxX0_isPassedBy_122 N x10 x12 h = some o) : mB (gO mX0_isPassedBy (o.1 ++ R, some (.int o.2))) mX0_isPassedBy (122, [(10, .long x10), (12, .long x12)], [], (h ++ R), 0, 0) := by
  unfold fxX0_isPassedBy_122 at hq
  refine mB_run odX0_isPassedBy 2 (g := (125, [(10, .long x10), (12, .long x12)], [.long (0 : Int64), .long x10], (h ++ R), 0, 0)) rfl ?_
  by_cases c35 : x10 < (0 : Int64)
  · rw [if_pos c35] at hq
    refine lc_lt_T (t := 140) odX0_isPassedBy rfl rfl rfl c35 ?_
    refine mB_run odX0_isPassedBy 1 (g := (141, [(10, .long x10), (12, .long x12)], [.int (0 : Int32)], (h ++ R), 0, 0)) rfl ?_
    cases hq
    exact mB_ret odX0_isPassedBy rfl
  · rw [if_neg c35] at hq
    refine lc_lt_F (t := 140) odX0_isPassedBy rfl rfl rfl c35 ?_
    refine mB_run odX0_isPassedBy 2 (g := (132, [(10, .long x10), (12, .long x12)], [.long (0 : Int64), .long x12], (h ++ R), 0, 0)) rfl ?_
    by_cases c36 : (0 : Int64) < x12
    · rw [if_pos c36] at hq
      refine lc_gt_T (t := 140) odX0_isPassedBy rfl rfl rfl c36 ?_
      refine mB_run odX0_isPassedBy 1 (g := (141, [(10, .long x10), (12, .long x12)], [.int (0 : Int32)], (h ++ R), 0, 0)) rfl ?_
      cases hq
      exact mB_ret odX0_isPassedBy rfl
    · rw [if_neg c36] at hq
      refine lc_gt_F (t := 140) odX0_isPassedBy rfl rfl rfl c36 ?_
      refine mB_run odX0_isPassedBy 2 (g := (141, [(10, .long x10), (12, .long x12)], [.int (1 : Int32)], (h ++ R), 0, 0)) rfl ?_
      cases hq
      exact mB_ret odX0_isPassedBy rfl
set_option maxHeartbeats 4000000 in
set_option maxRecDepth 100000 in
theorem eaX0_isPassedBy {N : Nat} {R : mh} {p0 : Nat} {p1 : Int32} {p2 : Int64} {p3 : Int64} {p4 : Int64} {h : mh} {o : (mh × Int32)} (hq : fxX0_isPassedBy N p0 p1 p2 p3 p4 h = some o) : mC mX0_isPassedBy [.ref p0, .int p1, .long p2, .long p3, .long p4] (h ++ R) (o.1 ++ R, some (.int o.2)) := by
  refine mC_of okX0_isPassedBy (Nat.le_of_ble_eq_true rfl) ?_
  unfold fxX0_isPassedBy at hq
  show mB _ mX0_isPassedBy (0, [(0, .ref p0), (1, .int p1), (2, .long p2), (4, .long p3), (6, .long p4)], [], (h ++ R), 0, 0)
  refine mB_run odX0_isPassedBy 2 (g := (2, [(0, .ref p0), (1, .int p1), (2, .long p2), (4, .long p3), (6, .long p4)], [.ref p0, .int (4 : Int32)], (h ++ R), 0, 0)) rfl ?_
  obtain ⟨v1, e2, hq⟩ := bsm hq
  refine r_gR odX0_isPassedBy rfl rfl (gR_ap e2) ?_
  refine mB_run odX0_isPassedBy 5 (g := (10, [(0, .ref p0), (1, .int p1), (2, .long p2), (4, .long p3), (6, .long p4)], [.int (((4 : Int32) * p1) + (2 : Int32)), .ref v1, .int (4 : Int32)], (h ++ R), 0, 0)) rfl ?_
  obtain ⟨v3, e4, hq⟩ := bsm hq
  refine r_aI odX0_isPassedBy rfl (aI_ap e4) ?_
  refine mB_run odX0_isPassedBy 4 (g := (16, [(8, .int ((4 : Int32) * v3)), (0, .ref p0), (1, .int p1), (2, .long p2), (4, .long p3), (6, .long p4)], [.ref p0, .int (4 : Int32)], (h ++ R), 0, 0)) rfl ?_
  obtain ⟨v5, e6, hq⟩ := bsm hq
  refine r_gR odX0_isPassedBy rfl rfl (gR_ap e6) ?_
  refine mB_run odX0_isPassedBy 5 (g := (24, [(8, .int ((4 : Int32) * v3)), (0, .ref p0), (1, .int p1), (2, .long p2), (4, .long p3), (6, .long p4)], [.int (((4 : Int32) * p1) + (3 : Int32)), .ref v5, .int (4 : Int32)], (h ++ R), 0, 0)) rfl ?_
  obtain ⟨v7, e8, hq⟩ := bsm hq
  refine r_aI odX0_isPassedBy rfl (aI_ap e8) ?_
  refine mB_run odX0_isPassedBy 3 (g := (29, [(9, .int ((4 : Int32) * v7)), (8, .int ((4 : Int32) * v3)), (0, .ref p0), (1, .int p1), (2, .long p2), (4, .long p3), (6, .long p4)], [.ref p0], (h ++ R), 0, 0)) rfl ?_
  obtain ⟨v9, e10, hq⟩ := bsm hq
  refine r_gR odX0_isPassedBy rfl rfl (gR_ap e10) ?_
  refine mB_run odX0_isPassedBy 1 (g := (34, [(9, .int ((4 : Int32) * v7)), (8, .int ((4 : Int32) * v3)), (0, .ref p0), (1, .int p1), (2, .long p2), (4, .long p3), (6, .long p4)], [.int ((4 : Int32) * v3), .ref v9], (h ++ R), 0, 0)) rfl ?_
  obtain ⟨v11, e12, hq⟩ := bsm hq
  refine r_aI odX0_isPassedBy rfl (aI_ap e12) ?_
  refine mB_run odX0_isPassedBy 4 (g := (39, [(9, .int ((4 : Int32) * v7)), (8, .int ((4 : Int32) * v3)), (0, .ref p0), (1, .int p1), (2, .long p2), (4, .long p3), (6, .long p4)], [.ref p0, .long (v11.toInt64 * p2)], (h ++ R), 0, 0)) rfl ?_
  obtain ⟨v13, e14, hq⟩ := bsm hq
  refine r_gR odX0_isPassedBy rfl rfl (gR_ap e14) ?_
  refine mB_run odX0_isPassedBy 3 (g := (46, [(9, .int ((4 : Int32) * v7)), (8, .int ((4 : Int32) * v3)), (0, .ref p0), (1, .int p1), (2, .long p2), (4, .long p3), (6, .long p4)], [.int (((4 : Int32) * v3) + (1 : Int32)), .ref v13, .long (v11.toInt64 * p2)], (h ++ R), 0, 0)) rfl ?_
  obtain ⟨v15, e16, hq⟩ := bsm hq
  refine r_aI odX0_isPassedBy rfl (aI_ap e16) ?_
  refine mB_run odX0_isPassedBy 5 (g := (53, [(9, .int ((4 : Int32) * v7)), (8, .int ((4 : Int32) * v3)), (0, .ref p0), (1, .int p1), (2, .long p2), (4, .long p3), (6, .long p4)], [.ref p0, .long ((v11.toInt64 * p2) + (v15.toInt64 * p3))], (h ++ R), 0, 0)) rfl ?_
  obtain ⟨v17, e18, hq⟩ := bsm hq
  refine r_gR odX0_isPassedBy rfl rfl (gR_ap e18) ?_
  refine mB_run odX0_isPassedBy 3 (g := (60, [(9, .int ((4 : Int32) * v7)), (8, .int ((4 : Int32) * v3)), (0, .ref p0), (1, .int p1), (2, .long p2), (4, .long p3), (6, .long p4)], [.int (((4 : Int32) * v3) + (2 : Int32)), .ref v17, .long ((v11.toInt64 * p2) + (v15.toInt64 * p3))], (h ++ R), 0, 0)) rfl ?_
  obtain ⟨v19, e20, hq⟩ := bsm hq
  refine r_aI odX0_isPassedBy rfl (aI_ap e20) ?_
  refine mB_run odX0_isPassedBy 6 (g := (69, [(10, .long (((v11.toInt64 * p2) + (v15.toInt64 * p3)) + (v19.toInt64 * p4))), (9, .int ((4 : Int32) * v7)), (8, .int ((4 : Int32) * v3)), (0, .ref p0), (1, .int p1), (2, .long p2), (4, .long p3), (6, .long p4)], [.ref p0], (h ++ R), 0, 0)) rfl ?_
  obtain ⟨v21, e22, hq⟩ := bsm hq
  refine r_gR odX0_isPassedBy rfl rfl (gR_ap e22) ?_
  refine mB_run odX0_isPassedBy 1 (g := (74, [(10, .long (((v11.toInt64 * p2) + (v15.toInt64 * p3)) + (v19.toInt64 * p4))), (9, .int ((4 : Int32) * v7)), (8, .int ((4 : Int32) * v3)), (0, .ref p0), (1, .int p1), (2, .long p2), (4, .long p3), (6, .long p4)], [.int ((4 : Int32) * v7), .ref v21], (h ++ R), 0, 0)) rfl ?_
  obtain ⟨v23, e24, hq⟩ := bsm hq
  refine r_aI odX0_isPassedBy rfl (aI_ap e24) ?_
  refine mB_run odX0_isPassedBy 4 (g := (79, [(10, .long (((v11.toInt64 * p2) + (v15.toInt64 * p3)) + (v19.toInt64 * p4))), (9, .int ((4 : Int32) * v7)), (8, .int ((4 : Int32) * v3)), (0, .ref p0), (1, .int p1), (2, .long p2), (4, .long p3), (6, .long p4)], [.ref p0, .long (v23.toInt64 * p2)], (h ++ R), 0, 0)) rfl ?_
  obtain ⟨v25, e26, hq⟩ := bsm hq
  refine r_gR odX0_isPassedBy rfl rfl (gR_ap e26) ?_
  refine mB_run odX0_isPassedBy 3 (g := (86, [(10, .long (((v11.toInt64 * p2) + (v15.toInt64 * p3)) + (v19.toInt64 * p4))), (9, .int ((4 : Int32) * v7)), (8, .int ((4 : Int32) * v3)), (0, .ref p0), (1, .int p1), (2, .long p2), (4, .long p3), (6, .long p4)], [.int (((4 : Int32) * v7) + (1 : Int32)), .ref v25, .long (v23.toInt64 * p2)], (h ++ R), 0, 0)) rfl ?_
  obtain ⟨v27, e28, hq⟩ := bsm hq
  refine r_aI odX0_isPassedBy rfl (aI_ap e28) ?_
  refine mB_run odX0_isPassedBy 5 (g := (93, [(10, .long (((v11.toInt64 * p2) + (v15.toInt64 * p3)) + (v19.toInt64 * p4))), (9, .int ((4 : Int32) * v7)), (8, .int ((4 : Int32) * v3)), (0, .ref p0), (1, .int p1), (2, .long p2), (4, .long p3), (6, .long p4)], [.ref p0, .long ((v23.toInt64 * p2) + (v27.toInt64 * p3))], (h ++ R), 0, 0)) rfl ?_
  obtain ⟨v29, e30, hq⟩ := bsm hq
  refine r_gR odX0_isPassedBy rfl rfl (gR_ap e30) ?_
  refine mB_run odX0_isPassedBy 3 (g := (100, [(10, .long (((v11.toInt64 * p2) + (v15.toInt64 * p3)) + (v19.toInt64 * p4))), (9, .int ((4 : Int32) * v7)), (8, .int ((4 : Int32) * v3)), (0, .ref p0), (1, .int p1), (2, .long p2), (4, .long p3), (6, .long p4)], [.int (((4 : Int32) * v7) + (2 : Int32)), .ref v29, .long ((v23.toInt64 * p2) + (v27.toInt64 * p3))], (h ++ R), 0, 0)) rfl ?_
  obtain ⟨v31, e32, hq⟩ := bsm hq
  refine r_aI odX0_isPassedBy rfl (aI_ap e32) ?_
  refine mB_run odX0_isPassedBy 7 (g := (111, [(12, .long (((v23.toInt64 * p2) + (v27.toInt64 * p3)) + (v31.toInt64 * p4))), (10, .long (((v11.toInt64 * p2) + (v15.toInt64 * p3)) + (v19.toInt64 * p4))), (9, .int ((4 : Int32) * v7)), (8, .int ((4 : Int32) * v3)), (0, .ref p0), (1, .int p1), (2, .long p2), (4, .long p3), (6, .long p4)], [.long (0 : Int64), .long (((v11.toInt64 * p2) + (v15.toInt64 * p3)) + (v19.toInt64 * p4))], (h ++ R), 0, 0)) rfl ?_
  by_cases c33 : (0 : Int64) < (((v11.toInt64 * p2) + (v15.toInt64 * p3)) + (v19.toInt64 * p4))
  · rw [if_pos c33] at hq
    refine lc_gt_T (t := 122) odX0_isPassedBy rfl rfl rfl c33 ?_
    refine mB_lv [1, 0] (lv' := [(10, .long (((v11.toInt64 * p2) + (v15.toInt64 * p3)) + (v19.toInt64 * p4))), (12, .long (((v23.toInt64 * p2) + (v27.toInt64 * p3)) + (v31.toInt64 * p4)))]) rfl ?_
    exact eaX0_isPassedBy_122 _ _ _ hq
  · rw [if_neg c33] at hq
    refine lc_gt_F (t := 122) odX0_isPassedBy rfl rfl rfl c33 ?_
    refine mB_run odX0_isPassedBy 2 (g := (118, [(12, .long (((v23.toInt64 * p2) + (v27.toInt64 * p3)) + (v31.toInt64 * p4))), (10, .long (((v11.toInt64 * p2) + (v15.toInt64 * p3)) + (v19.toInt64 * p4))), (9, .int ((4 : Int32) * v7)), (8, .int ((4 : Int32) * v3)), (0, .ref p0), (1, .int p1), (2, .long p2), (4, .long p3), (6, .long p4)], [.long (0 : Int64), .long (((v23.toInt64 * p2) + (v27.toInt64 * p3)) + (v31.toInt64 * p4))], (h ++ R), 0, 0)) rfl ?_
    by_cases c34 : (0 : Int64) ≤ (((v23.toInt64 * p2) + (v27.toInt64 * p3)) + (v31.toInt64 * p4))
    · rw [if_pos c34] at hq
      refine lc_ge_T (t := 136) odX0_isPassedBy rfl rfl rfl c34 ?_
      refine mB_run odX0_isPassedBy 2 (g := (141, [(12, .long (((v23.toInt64 * p2) + (v27.toInt64 * p3)) + (v31.toInt64 * p4))), (10, .long (((v11.toInt64 * p2) + (v15.toInt64 * p3)) + (v19.toInt64 * p4))), (9, .int ((4 : Int32) * v7)), (8, .int ((4 : Int32) * v3)), (0, .ref p0), (1, .int p1), (2, .long p2), (4, .long p3), (6, .long p4)], [.int (1 : Int32)], (h ++ R), 0, 0)) rfl ?_
      cases hq
      exact mB_ret odX0_isPassedBy rfl
    · rw [if_neg c34] at hq
      refine lc_ge_F (t := 136) odX0_isPassedBy rfl rfl rfl c34 ?_
      refine mB_lv [1, 0] (lv' := [(10, .long (((v11.toInt64 * p2) + (v15.toInt64 * p3)) + (v19.toInt64 * p4))), (12, .long (((v23.toInt64 * p2) + (v27.toInt64 * p3)) + (v31.toInt64 * p4)))]) rfl ?_
      exact eaX0_isPassedBy_122 _ _ _ hq
set_option maxHeartbeats 4000000 in
set_option maxRecDepth 100000 in
theorem eaX0_offerEdges {N : Nat} {R : mh} {p0 : Nat} {p1 : Int32} {p2 : Int32} {h : mh} {o : mh} (hq : fxX0_offerEdges N p0 p1 p2 h = some o) : mC mX0_offerEdges [.ref p0, .int p1, .int p2] (h ++ R) (o ++ R, none) := by
  refine mC_of okX0_offerEdges (Nat.le_of_ble_eq_true rfl) ?_
  unfold fxX0_offerEdges at hq
  show mB _ mX0_offerEdges (0, [(0, .ref p0), (1, .int p1), (2, .int p2)], [], (h ++ R), 0, 0)
  refine mB_run odX0_offerEdges 1 (g := (1, [(0, .ref p0), (1, .int p1), (2, .int p2)], [.ref p0], (h ++ R), 0, 0)) rfl ?_
  obtain ⟨v1, e2, hq⟩ := bsm hq
  refine r_gR odX0_offerEdges rfl rfl (gR_ap e2) ?_
  refine mB_run odX0_offerEdges 3 (g := (7, [(0, .ref p0), (1, .int p1), (2, .int p2)], [.int ((4 : Int32) * p1), .ref v1], (h ++ R), 0, 0)) rfl ?_
  obtain ⟨v3, e4, hq⟩ := bsm hq
  refine r_aI odX0_offerEdges rfl (aI_ap e4) ?_
  refine mB_run odX0_offerEdges 2 (g := (10, [(3, .int v3), (0, .ref p0), (1, .int p1), (2, .int p2)], [.ref p0], (h ++ R), 0, 0)) rfl ?_
  obtain ⟨v5, e6, hq⟩ := bsm hq
  refine r_gR odX0_offerEdges rfl rfl (gR_ap e6) ?_
  refine mB_run odX0_offerEdges 5 (g := (18, [(3, .int v3), (0, .ref p0), (1, .int p1), (2, .int p2)], [.int (((4 : Int32) * p1) + (1 : Int32)), .ref v5], (h ++ R), 0, 0)) rfl ?_
  obtain ⟨v7, e8, hq⟩ := bsm hq
  refine r_aI odX0_offerEdges rfl (aI_ap e8) ?_
  refine mB_run odX0_offerEdges 2 (g := (22, [(4, .int v7), (3, .int v3), (0, .ref p0), (1, .int p1), (2, .int p2)], [.ref p0], (h ++ R), 0, 0)) rfl ?_
  obtain ⟨v9, e10, hq⟩ := bsm hq
  refine r_gR odX0_offerEdges rfl rfl (gR_ap e10) ?_
  refine mB_run odX0_offerEdges 3 (g := (28, [(4, .int v7), (3, .int v3), (0, .ref p0), (1, .int p1), (2, .int p2)], [.int ((4 : Int32) * p2), .ref v9], (h ++ R), 0, 0)) rfl ?_
  obtain ⟨v11, e12, hq⟩ := bsm hq
  refine r_aI odX0_offerEdges rfl (aI_ap e12) ?_
  refine mB_run odX0_offerEdges 2 (g := (32, [(5, .int v11), (4, .int v7), (3, .int v3), (0, .ref p0), (1, .int p1), (2, .int p2)], [.ref p0], (h ++ R), 0, 0)) rfl ?_
  obtain ⟨v13, e14, hq⟩ := bsm hq
  refine r_gR odX0_offerEdges rfl rfl (gR_ap e14) ?_
  refine mB_run odX0_offerEdges 5 (g := (40, [(5, .int v11), (4, .int v7), (3, .int v3), (0, .ref p0), (1, .int p1), (2, .int p2)], [.int (((4 : Int32) * p2) + (1 : Int32)), .ref v13], (h ++ R), 0, 0)) rfl ?_
  obtain ⟨v15, e16, hq⟩ := bsm hq
  refine r_aI odX0_offerEdges rfl (aI_ap e16) ?_
  refine mB_run odX0_offerEdges 2 (g := (44, [(6, .int v15), (5, .int v11), (4, .int v7), (3, .int v3), (0, .ref p0), (1, .int p1), (2, .int p2)], [.ref p0], (h ++ R), 0, 0)) rfl ?_
  obtain ⟨v17, e18, hq⟩ := bsm hq
  refine r_gR odX0_offerEdges rfl rfl (gR_ap e18) ?_
  obtain ⟨v19, e20, hq⟩ := bsm hq
  refine r_gR odX0_offerEdges rfl rfl (gR_ap e20) ?_
  refine mB_run odX0_offerEdges 1 (g := (52, [(6, .int v15), (5, .int v11), (4, .int v7), (3, .int v3), (0, .ref p0), (1, .int p1), (2, .int p2)], [.int v7, .ref v19], (h ++ R), 0, 0)) rfl ?_
  obtain ⟨v21, e22, hq⟩ := bsm hq
  refine r_aI odX0_offerEdges rfl (aI_ap e22) ?_
  refine mB_run odX0_offerEdges 1 (g := (54, [(6, .int v15), (5, .int v11), (4, .int v7), (3, .int v3), (0, .ref p0), (1, .int p1), (2, .int p2)], [.ref p0, .int v21], (h ++ R), 0, 0)) rfl ?_
  obtain ⟨v23, e24, hq⟩ := bsm hq
  refine r_gR odX0_offerEdges rfl rfl (gR_ap e24) ?_
  obtain ⟨v25, e26, hq⟩ := bsm hq
  refine r_gR odX0_offerEdges rfl rfl (gR_ap e26) ?_
  refine mB_run odX0_offerEdges 1 (g := (61, [(6, .int v15), (5, .int v11), (4, .int v7), (3, .int v3), (0, .ref p0), (1, .int p1), (2, .int p2)], [.int v3, .ref v25, .int v21], (h ++ R), 0, 0)) rfl ?_
  obtain ⟨v27, e28, hq⟩ := bsm hq
  refine r_aI odX0_offerEdges rfl (aI_ap e28) ?_
  refine mB_run odX0_offerEdges 4 (g := (67, [(7, .long (v21 - v27).toInt64), (6, .int v15), (5, .int v11), (4, .int v7), (3, .int v3), (0, .ref p0), (1, .int p1), (2, .int p2)], [.ref p0], (h ++ R), 0, 0)) rfl ?_
  obtain ⟨v29, e30, hq⟩ := bsm hq
  refine r_gR odX0_offerEdges rfl rfl (gR_ap e30) ?_
  obtain ⟨v31, e32, hq⟩ := bsm hq
  refine r_gR odX0_offerEdges rfl rfl (gR_ap e32) ?_
  refine mB_run odX0_offerEdges 1 (g := (75, [(7, .long (v21 - v27).toInt64), (6, .int v15), (5, .int v11), (4, .int v7), (3, .int v3), (0, .ref p0), (1, .int p1), (2, .int p2)], [.int v7, .ref v31], (h ++ R), 0, 0)) rfl ?_
  obtain ⟨v33, e34, hq⟩ := bsm hq
  refine r_aI odX0_offerEdges rfl (aI_ap e34) ?_
  refine mB_run odX0_offerEdges 1 (g := (77, [(7, .long (v21 - v27).toInt64), (6, .int v15), (5, .int v11), (4, .int v7), (3, .int v3), (0, .ref p0), (1, .int p1), (2, .int p2)], [.ref p0, .int v33], (h ++ R), 0, 0)) rfl ?_
  obtain ⟨v35, e36, hq⟩ := bsm hq
  refine r_gR odX0_offerEdges rfl rfl (gR_ap e36) ?_
  obtain ⟨v37, e38, hq⟩ := bsm hq
  refine r_gR odX0_offerEdges rfl rfl (gR_ap e38) ?_
  refine mB_run odX0_offerEdges 1 (g := (84, [(7, .long (v21 - v27).toInt64), (6, .int v15), (5, .int v11), (4, .int v7), (3, .int v3), (0, .ref p0), (1, .int p1), (2, .int p2)], [.int v3, .ref v37, .int v33], (h ++ R), 0, 0)) rfl ?_
  obtain ⟨v39, e40, hq⟩ := bsm hq
  refine r_aI odX0_offerEdges rfl (aI_ap e40) ?_
  refine mB_run odX0_offerEdges 4 (g := (90, [(9, .long (v33 - v39).toInt64), (7, .long (v21 - v27).toInt64), (6, .int v15), (5, .int v11), (4, .int v7), (3, .int v3), (0, .ref p0), (1, .int p1), (2, .int p2)], [.ref p0], (h ++ R), 0, 0)) rfl ?_
  obtain ⟨v41, e42, hq⟩ := bsm hq
  refine r_gR odX0_offerEdges rfl rfl (gR_ap e42) ?_
  obtain ⟨v43, e44, hq⟩ := bsm hq
  refine r_gR odX0_offerEdges rfl rfl (gR_ap e44) ?_
  refine mB_run odX0_offerEdges 1 (g := (98, [(9, .long (v33 - v39).toInt64), (7, .long (v21 - v27).toInt64), (6, .int v15), (5, .int v11), (4, .int v7), (3, .int v3), (0, .ref p0), (1, .int p1), (2, .int p2)], [.int v7, .ref v43], (h ++ R), 0, 0)) rfl ?_
  obtain ⟨v45, e46, hq⟩ := bsm hq
  refine r_aI odX0_offerEdges rfl (aI_ap e46) ?_
  refine mB_run odX0_offerEdges 1 (g := (100, [(9, .long (v33 - v39).toInt64), (7, .long (v21 - v27).toInt64), (6, .int v15), (5, .int v11), (4, .int v7), (3, .int v3), (0, .ref p0), (1, .int p1), (2, .int p2)], [.ref p0, .int v45], (h ++ R), 0, 0)) rfl ?_
  obtain ⟨v47, e48, hq⟩ := bsm hq
  refine r_gR odX0_offerEdges rfl rfl (gR_ap e48) ?_
  obtain ⟨v49, e50, hq⟩ := bsm hq
  refine r_gR odX0_offerEdges rfl rfl (gR_ap e50) ?_
  refine mB_run odX0_offerEdges 1 (g := (107, [(9, .long (v33 - v39).toInt64), (7, .long (v21 - v27).toInt64), (6, .int v15), (5, .int v11), (4, .int v7), (3, .int v3), (0, .ref p0), (1, .int p1), (2, .int p2)], [.int v3, .ref v49, .int v45], (h ++ R), 0, 0)) rfl ?_
  obtain ⟨v51, e52, hq⟩ := bsm hq
  refine r_aI odX0_offerEdges rfl (aI_ap e52) ?_
  refine mB_run odX0_offerEdges 4 (g := (113, [(11, .long (v45 - v51).toInt64), (9, .long (v33 - v39).toInt64), (7, .long (v21 - v27).toInt64), (6, .int v15), (5, .int v11), (4, .int v7), (3, .int v3), (0, .ref p0), (1, .int p1), (2, .int p2)], [.ref p0], (h ++ R), 0, 0)) rfl ?_
  obtain ⟨v53, e54, hq⟩ := bsm hq
  refine r_gR odX0_offerEdges rfl rfl (gR_ap e54) ?_
  obtain ⟨v55, e56, hq⟩ := bsm hq
  refine r_gR odX0_offerEdges rfl rfl (gR_ap e56) ?_
  refine mB_run odX0_offerEdges 1 (g := (121, [(11, .long (v45 - v51).toInt64), (9, .long (v33 - v39).toInt64), (7, .long (v21 - v27).toInt64), (6, .int v15), (5, .int v11), (4, .int v7), (3, .int v3), (0, .ref p0), (1, .int p1), (2, .int p2)], [.int v15, .ref v55], (h ++ R), 0, 0)) rfl ?_
  obtain ⟨v57, e58, hq⟩ := bsm hq
  refine r_aI odX0_offerEdges rfl (aI_ap e58) ?_
  refine mB_run odX0_offerEdges 1 (g := (123, [(11, .long (v45 - v51).toInt64), (9, .long (v33 - v39).toInt64), (7, .long (v21 - v27).toInt64), (6, .int v15), (5, .int v11), (4, .int v7), (3, .int v3), (0, .ref p0), (1, .int p1), (2, .int p2)], [.ref p0, .int v57], (h ++ R), 0, 0)) rfl ?_
  obtain ⟨v59, e60, hq⟩ := bsm hq
  refine r_gR odX0_offerEdges rfl rfl (gR_ap e60) ?_
  obtain ⟨v61, e62, hq⟩ := bsm hq
  refine r_gR odX0_offerEdges rfl rfl (gR_ap e62) ?_
  refine mB_run odX0_offerEdges 1 (g := (131, [(11, .long (v45 - v51).toInt64), (9, .long (v33 - v39).toInt64), (7, .long (v21 - v27).toInt64), (6, .int v15), (5, .int v11), (4, .int v7), (3, .int v3), (0, .ref p0), (1, .int p1), (2, .int p2)], [.int v11, .ref v61, .int v57], (h ++ R), 0, 0)) rfl ?_
  obtain ⟨v63, e64, hq⟩ := bsm hq
  refine r_aI odX0_offerEdges rfl (aI_ap e64) ?_
  refine mB_run odX0_offerEdges 4 (g := (137, [(13, .long (v57 - v63).toInt64), (11, .long (v45 - v51).toInt64), (9, .long (v33 - v39).toInt64), (7, .long (v21 - v27).toInt64), (6, .int v15), (5, .int v11), (4, .int v7), (3, .int v3), (0, .ref p0), (1, .int p1), (2, .int p2)], [.ref p0], (h ++ R), 0, 0)) rfl ?_
  obtain ⟨v65, e66, hq⟩ := bsm hq
  refine r_gR odX0_offerEdges rfl rfl (gR_ap e66) ?_
  obtain ⟨v67, e68, hq⟩ := bsm hq
  refine r_gR odX0_offerEdges rfl rfl (gR_ap e68) ?_
  refine mB_run odX0_offerEdges 1 (g := (145, [(13, .long (v57 - v63).toInt64), (11, .long (v45 - v51).toInt64), (9, .long (v33 - v39).toInt64), (7, .long (v21 - v27).toInt64), (6, .int v15), (5, .int v11), (4, .int v7), (3, .int v3), (0, .ref p0), (1, .int p1), (2, .int p2)], [.int v15, .ref v67], (h ++ R), 0, 0)) rfl ?_
  obtain ⟨v69, e70, hq⟩ := bsm hq
  refine r_aI odX0_offerEdges rfl (aI_ap e70) ?_
  refine mB_run odX0_offerEdges 1 (g := (147, [(13, .long (v57 - v63).toInt64), (11, .long (v45 - v51).toInt64), (9, .long (v33 - v39).toInt64), (7, .long (v21 - v27).toInt64), (6, .int v15), (5, .int v11), (4, .int v7), (3, .int v3), (0, .ref p0), (1, .int p1), (2, .int p2)], [.ref p0, .int v69], (h ++ R), 0, 0)) rfl ?_
  obtain ⟨v71, e72, hq⟩ := bsm hq
  refine r_gR odX0_offerEdges rfl rfl (gR_ap e72) ?_
  obtain ⟨v73, e74, hq⟩ := bsm hq
  refine r_gR odX0_offerEdges rfl rfl (gR_ap e74) ?_
  refine mB_run odX0_offerEdges 1 (g := (155, [(13, .long (v57 - v63).toInt64), (11, .long (v45 - v51).toInt64), (9, .long (v33 - v39).toInt64), (7, .long (v21 - v27).toInt64), (6, .int v15), (5, .int v11), (4, .int v7), (3, .int v3), (0, .ref p0), (1, .int p1), (2, .int p2)], [.int v11, .ref v73, .int v69], (h ++ R), 0, 0)) rfl ?_
  obtain ⟨v75, e76, hq⟩ := bsm hq
  refine r_aI odX0_offerEdges rfl (aI_ap e76) ?_
  refine mB_run odX0_offerEdges 4 (g := (161, [(15, .long (v69 - v75).toInt64), (13, .long (v57 - v63).toInt64), (11, .long (v45 - v51).toInt64), (9, .long (v33 - v39).toInt64), (7, .long (v21 - v27).toInt64), (6, .int v15), (5, .int v11), (4, .int v7), (3, .int v3), (0, .ref p0), (1, .int p1), (2, .int p2)], [.ref p0], (h ++ R), 0, 0)) rfl ?_
  obtain ⟨v77, e78, hq⟩ := bsm hq
  refine r_gR odX0_offerEdges rfl rfl (gR_ap e78) ?_
  obtain ⟨v79, e80, hq⟩ := bsm hq
  refine r_gR odX0_offerEdges rfl rfl (gR_ap e80) ?_
  refine mB_run odX0_offerEdges 1 (g := (169, [(15, .long (v69 - v75).toInt64), (13, .long (v57 - v63).toInt64), (11, .long (v45 - v51).toInt64), (9, .long (v33 - v39).toInt64), (7, .long (v21 - v27).toInt64), (6, .int v15), (5, .int v11), (4, .int v7), (3, .int v3), (0, .ref p0), (1, .int p1), (2, .int p2)], [.int v15, .ref v79], (h ++ R), 0, 0)) rfl ?_
  obtain ⟨v81, e82, hq⟩ := bsm hq
  refine r_aI odX0_offerEdges rfl (aI_ap e82) ?_
  refine mB_run odX0_offerEdges 1 (g := (171, [(15, .long (v69 - v75).toInt64), (13, .long (v57 - v63).toInt64), (11, .long (v45 - v51).toInt64), (9, .long (v33 - v39).toInt64), (7, .long (v21 - v27).toInt64), (6, .int v15), (5, .int v11), (4, .int v7), (3, .int v3), (0, .ref p0), (1, .int p1), (2, .int p2)], [.ref p0, .int v81], (h ++ R), 0, 0)) rfl ?_
  obtain ⟨v83, e84, hq⟩ := bsm hq
  refine r_gR odX0_offerEdges rfl rfl (gR_ap e84) ?_
  obtain ⟨v85, e86, hq⟩ := bsm hq
  refine r_gR odX0_offerEdges rfl rfl (gR_ap e86) ?_
  refine mB_run odX0_offerEdges 1 (g := (179, [(15, .long (v69 - v75).toInt64), (13, .long (v57 - v63).toInt64), (11, .long (v45 - v51).toInt64), (9, .long (v33 - v39).toInt64), (7, .long (v21 - v27).toInt64), (6, .int v15), (5, .int v11), (4, .int v7), (3, .int v3), (0, .ref p0), (1, .int p1), (2, .int p2)], [.int v11, .ref v85, .int v81], (h ++ R), 0, 0)) rfl ?_
  obtain ⟨v87, e88, hq⟩ := bsm hq
  refine r_aI odX0_offerEdges rfl (aI_ap e88) ?_
  refine mB_run odX0_offerEdges 8 (g := (192, [(17, .long (v81 - v87).toInt64), (15, .long (v69 - v75).toInt64), (13, .long (v57 - v63).toInt64), (11, .long (v45 - v51).toInt64), (9, .long (v33 - v39).toInt64), (7, .long (v21 - v27).toInt64), (6, .int v15), (5, .int v11), (4, .int v7), (3, .int v3), (0, .ref p0), (1, .int p1), (2, .int p2)], [.long (v81 - v87).toInt64, .long (v69 - v75).toInt64, .long (v57 - v63).toInt64, .int p1, .ref p0], (h ++ R), 0, 0)) rfl ?_
  obtain ⟨f91, k92, hq⟩ := bsm hq
  obtain ⟨o89, e90, hq⟩ := bsm hq
  refine mB_V (as := [.int p1, .long (v57 - v63).toInt64, .long (v69 - v75).toInt64, .long (v81 - v87).toInt64]) odX0_offerEdges okX0_isPassedBy lk_0_177 rfl (eaX0_isPassedBy e90) (kO_at (kO_ap k92)) rfl rfl rfl ?_
  show mB _ mX0_offerEdges (195, [(17, .long (v81 - v87).toInt64), (15, .long (v69 - v75).toInt64), (13, .long (v57 - v63).toInt64), (11, .long (v45 - v51).toInt64), (9, .long (v33 - v39).toInt64), (7, .long (v21 - v27).toInt64), (6, .int v15), (5, .int v11), (4, .int v7), (3, .int v3), (0, .ref p0), (1, .int p1), (2, .int p2)], [.int o89.2], (o89.1 ++ R), 0, 0)
  by_cases c93 : o89.2 = 0
  · rw [if_pos c93] at hq
    refine if_eq_T (t := 212) odX0_offerEdges rfl rfl c93 ?_
    cases hq
    exact mB_ret odX0_offerEdges rfl
  · rw [if_neg c93] at hq
    refine if_eq_F (t := 212) odX0_offerEdges rfl rfl c93 ?_
    refine mB_run odX0_offerEdges 5 (g := (206, [(17, .long (v81 - v87).toInt64), (15, .long (v69 - v75).toInt64), (13, .long (v57 - v63).toInt64), (11, .long (v45 - v51).toInt64), (9, .long (v33 - v39).toInt64), (7, .long (v21 - v27).toInt64), (6, .int v15), (5, .int v11), (4, .int v7), (3, .int v3), (0, .ref p0), (1, .int p1), (2, .int p2)], [.long (v45 - v51).toInt64, .long (v33 - v39).toInt64, .long (v21 - v27).toInt64, .int p2, .ref p0], (o89.1 ++ R), 0, 0)) rfl ?_
    obtain ⟨f96, k97, hq⟩ := bsm hq
    obtain ⟨o94, e95, hq⟩ := bsm hq
    refine mB_V (as := [.int p2, .long (v21 - v27).toInt64, .long (v33 - v39).toInt64, .long (v45 - v51).toInt64]) odX0_offerEdges okX0_isPassedBy lk_0_177 rfl (eaX0_isPassedBy e95) (kO_at (kO_ap k97)) rfl rfl rfl ?_
    show mB _ mX0_offerEdges (209, [(17, .long (v81 - v87).toInt64), (15, .long (v69 - v75).toInt64), (13, .long (v57 - v63).toInt64), (11, .long (v45 - v51).toInt64), (9, .long (v33 - v39).toInt64), (7, .long (v21 - v27).toInt64), (6, .int v15), (5, .int v11), (4, .int v7), (3, .int v3), (0, .ref p0), (1, .int p1), (2, .int p2)], [.int o94.2], (o94.1 ++ R), 0, 0)
    by_cases c98 : o94.2 = 0
    · rw [if_pos c98] at hq
      refine if_ne_F (t := 213) odX0_offerEdges rfl rfl c98 ?_
      cases hq
      exact mB_ret odX0_offerEdges rfl
    · rw [if_neg c98] at hq
      refine if_ne_T (t := 213) odX0_offerEdges rfl rfl c98 ?_
      refine mB_run odX0_offerEdges 12 (g := (233, [(19, .long (((v33 - v39).toInt64 * (v81 - v87).toInt64) - ((v45 - v51).toInt64 * (v69 - v75).toInt64))), (17, .long (v81 - v87).toInt64), (15, .long (v69 - v75).toInt64), (13, .long (v57 - v63).toInt64), (11, .long (v45 - v51).toInt64), (9, .long (v33 - v39).toInt64), (7, .long (v21 - v27).toInt64), (6, .int v15), (5, .int v11), (4, .int v7), (3, .int v3), (0, .ref p0), (1, .int p1), (2, .int p2)], [.long (v21 - v27).toInt64, .long ((v45 - v51).toInt64 * (v57 - v63).toInt64)], (o94.1 ++ R), 0, 0)) rfl ?_
      refine mB_run odX0_offerEdges 12 (g := (252, [(23, .long (((v21 - v27).toInt64 * (v69 - v75).toInt64) - ((v33 - v39).toInt64 * (v57 - v63).toInt64))), (21, .long (((v45 - v51).toInt64 * (v57 - v63).toInt64) - ((v21 - v27).toInt64 * (v81 - v87).toInt64))), (19, .long (((v33 - v39).toInt64 * (v81 - v87).toInt64) - ((v45 - v51).toInt64 * (v69 - v75).toInt64))), (17, .long (v81 - v87).toInt64), (15, .long (v69 - v75).toInt64), (13, .long (v57 - v63).toInt64), (11, .long (v45 - v51).toInt64), (9, .long (v33 - v39).toInt64), (7, .long (v21 - v27).toInt64), (6, .int v15), (5, .int v11), (4, .int v7), (3, .int v3), (0, .ref p0), (1, .int p1), (2, .int p2)], [], (o94.1 ++ R), 0, 0)) rfl ?_
      refine mB_run odX0_offerEdges 1 (g := (253, [(23, .long (((v21 - v27).toInt64 * (v69 - v75).toInt64) - ((v33 - v39).toInt64 * (v57 - v63).toInt64))), (21, .long (((v45 - v51).toInt64 * (v57 - v63).toInt64) - ((v21 - v27).toInt64 * (v81 - v87).toInt64))), (19, .long (((v33 - v39).toInt64 * (v81 - v87).toInt64) - ((v45 - v51).toInt64 * (v69 - v75).toInt64))), (17, .long (v81 - v87).toInt64), (15, .long (v69 - v75).toInt64), (13, .long (v57 - v63).toInt64), (11, .long (v45 - v51).toInt64), (9, .long (v33 - v39).toInt64), (7, .long (v21 - v27).toInt64), (6, .int v15), (5, .int v11), (4, .int v7), (3, .int v3), (0, .ref p0), (1, .int p1), (2, .int p2)], [.ref p0], (o94.1 ++ R), 0, 0)) rfl ?_
      obtain ⟨v99, e100, hq⟩ := bsm hq
      refine r_gR odX0_offerEdges rfl rfl (gR_ap e100) ?_
      refine mB_run odX0_offerEdges 4 (g := (263, [(23, .long (((v21 - v27).toInt64 * (v69 - v75).toInt64) - ((v33 - v39).toInt64 * (v57 - v63).toInt64))), (21, .long (((v45 - v51).toInt64 * (v57 - v63).toInt64) - ((v21 - v27).toInt64 * (v81 - v87).toInt64))), (19, .long (((v33 - v39).toInt64 * (v81 - v87).toInt64) - ((v45 - v51).toInt64 * (v69 - v75).toInt64))), (17, .long (v81 - v87).toInt64), (15, .long (v69 - v75).toInt64), (13, .long (v57 - v63).toInt64), (11, .long (v45 - v51).toInt64), (9, .long (v33 - v39).toInt64), (7, .long (v21 - v27).toInt64), (6, .int v15), (5, .int v11), (4, .int v7), (3, .int v3), (0, .ref p0), (1, .int p1), (2, .int p2)], [.long (((v21 - v27).toInt64 * (v69 - v75).toInt64) - ((v33 - v39).toInt64 * (v57 - v63).toInt64)), .long (((v45 - v51).toInt64 * (v57 - v63).toInt64) - ((v21 - v27).toInt64 * (v81 - v87).toInt64)), .long (((v33 - v39).toInt64 * (v81 - v87).toInt64) - ((v45 - v51).toInt64 * (v69 - v75).toInt64)), .int v3, .ref v99], (o94.1 ++ R), 0, 0)) rfl ?_
      obtain ⟨f103, k104, hq⟩ := bsm hq
      obtain ⟨o101, e102, hq⟩ := bsm hq
      refine mB_V (as := [.int v3, .long (((v33 - v39).toInt64 * (v81 - v87).toInt64) - ((v45 - v51).toInt64 * (v69 - v75).toInt64)), .long (((v45 - v51).toInt64 * (v57 - v63).toInt64) - ((v21 - v27).toInt64 * (v81 - v87).toInt64)), .long (((v21 - v27).toInt64 * (v69 - v75).toInt64) - ((v33 - v39).toInt64 * (v57 - v63).toInt64))]) odX0_offerEdges okX3_along lk_0_158 rfl (eaX3_along e102) (kO_at (kO_ap k104)) rfl rfl rfl ?_
      show mB _ mX0_offerEdges (266, [(23, .long (((v21 - v27).toInt64 * (v69 - v75).toInt64) - ((v33 - v39).toInt64 * (v57 - v63).toInt64))), (21, .long (((v45 - v51).toInt64 * (v57 - v63).toInt64) - ((v21 - v27).toInt64 * (v81 - v87).toInt64))), (19, .long (((v33 - v39).toInt64 * (v81 - v87).toInt64) - ((v45 - v51).toInt64 * (v69 - v75).toInt64))), (17, .long (v81 - v87).toInt64), (15, .long (v69 - v75).toInt64), (13, .long (v57 - v63).toInt64), (11, .long (v45 - v51).toInt64), (9, .long (v33 - v39).toInt64), (7, .long (v21 - v27).toInt64), (6, .int v15), (5, .int v11), (4, .int v7), (3, .int v3), (0, .ref p0), (1, .int p1), (2, .int p2)], [.long o101.2], (o101.1 ++ R), 0, 0)
      refine mB_run odX0_offerEdges 1 (g := (267, [(23, .long (((v21 - v27).toInt64 * (v69 - v75).toInt64) - ((v33 - v39).toInt64 * (v57 - v63).toInt64))), (21, .long (((v45 - v51).toInt64 * (v57 - v63).toInt64) - ((v21 - v27).toInt64 * (v81 - v87).toInt64))), (19, .long (((v33 - v39).toInt64 * (v81 - v87).toInt64) - ((v45 - v51).toInt64 * (v69 - v75).toInt64))), (17, .long (v81 - v87).toInt64), (15, .long (v69 - v75).toInt64), (13, .long (v57 - v63).toInt64), (11, .long (v45 - v51).toInt64), (9, .long (v33 - v39).toInt64), (7, .long (v21 - v27).toInt64), (6, .int v15), (5, .int v11), (4, .int v7), (3, .int v3), (0, .ref p0), (1, .int p1), (2, .int p2)], [.ref p0, .long o101.2], (o101.1 ++ R), 0, 0)) rfl ?_
      obtain ⟨v105, e106, hq⟩ := bsm hq
      refine r_gR odX0_offerEdges rfl rfl (gR_ap e106) ?_
      refine mB_run odX0_offerEdges 4 (g := (278, [(23, .long (((v21 - v27).toInt64 * (v69 - v75).toInt64) - ((v33 - v39).toInt64 * (v57 - v63).toInt64))), (21, .long (((v45 - v51).toInt64 * (v57 - v63).toInt64) - ((v21 - v27).toInt64 * (v81 - v87).toInt64))), (19, .long (((v33 - v39).toInt64 * (v81 - v87).toInt64) - ((v45 - v51).toInt64 * (v69 - v75).toInt64))), (17, .long (v81 - v87).toInt64), (15, .long (v69 - v75).toInt64), (13, .long (v57 - v63).toInt64), (11, .long (v45 - v51).toInt64), (9, .long (v33 - v39).toInt64), (7, .long (v21 - v27).toInt64), (6, .int v15), (5, .int v11), (4, .int v7), (3, .int v3), (0, .ref p0), (1, .int p1), (2, .int p2)], [.long (((v21 - v27).toInt64 * (v69 - v75).toInt64) - ((v33 - v39).toInt64 * (v57 - v63).toInt64)), .long (((v45 - v51).toInt64 * (v57 - v63).toInt64) - ((v21 - v27).toInt64 * (v81 - v87).toInt64)), .long (((v33 - v39).toInt64 * (v81 - v87).toInt64) - ((v45 - v51).toInt64 * (v69 - v75).toInt64)), .int v11, .ref v105, .long o101.2], (o101.1 ++ R), 0, 0)) rfl ?_
      obtain ⟨f109, k110, hq⟩ := bsm hq
      obtain ⟨o107, e108, hq⟩ := bsm hq
      refine mB_V (as := [.int v11, .long (((v33 - v39).toInt64 * (v81 - v87).toInt64) - ((v45 - v51).toInt64 * (v69 - v75).toInt64)), .long (((v45 - v51).toInt64 * (v57 - v63).toInt64) - ((v21 - v27).toInt64 * (v81 - v87).toInt64)), .long (((v21 - v27).toInt64 * (v69 - v75).toInt64) - ((v33 - v39).toInt64 * (v57 - v63).toInt64))]) odX0_offerEdges okX3_along lk_0_158 rfl (eaX3_along e108) (kO_at (kO_ap k110)) rfl rfl rfl ?_
      show mB _ mX0_offerEdges (281, [(23, .long (((v21 - v27).toInt64 * (v69 - v75).toInt64) - ((v33 - v39).toInt64 * (v57 - v63).toInt64))), (21, .long (((v45 - v51).toInt64 * (v57 - v63).toInt64) - ((v21 - v27).toInt64 * (v81 - v87).toInt64))), (19, .long (((v33 - v39).toInt64 * (v81 - v87).toInt64) - ((v45 - v51).toInt64 * (v69 - v75).toInt64))), (17, .long (v81 - v87).toInt64), (15, .long (v69 - v75).toInt64), (13, .long (v57 - v63).toInt64), (11, .long (v45 - v51).toInt64), (9, .long (v33 - v39).toInt64), (7, .long (v21 - v27).toInt64), (6, .int v15), (5, .int v11), (4, .int v7), (3, .int v3), (0, .ref p0), (1, .int p1), (2, .int p2)], [.long o107.2, .long o101.2], (o107.1 ++ R), 0, 0)
      refine mB_run odX0_offerEdges 4 (g := (287, [(25, .long (o101.2 - o107.2)), (23, .long (((v21 - v27).toInt64 * (v69 - v75).toInt64) - ((v33 - v39).toInt64 * (v57 - v63).toInt64))), (21, .long (((v45 - v51).toInt64 * (v57 - v63).toInt64) - ((v21 - v27).toInt64 * (v81 - v87).toInt64))), (19, .long (((v33 - v39).toInt64 * (v81 - v87).toInt64) - ((v45 - v51).toInt64 * (v69 - v75).toInt64))), (17, .long (v81 - v87).toInt64), (15, .long (v69 - v75).toInt64), (13, .long (v57 - v63).toInt64), (11, .long (v45 - v51).toInt64), (9, .long (v33 - v39).toInt64), (7, .long (v21 - v27).toInt64), (6, .int v15), (5, .int v11), (4, .int v7), (3, .int v3), (0, .ref p0), (1, .int p1), (2, .int p2)], [.long (0 : Int64), .long (o101.2 - o107.2)], (o107.1 ++ R), 0, 0)) rfl ?_
      by_cases c111 : (o101.2 - o107.2) = (0 : Int64)
      · rw [if_pos c111] at hq
        refine lc_eq_T (t := 306) odX0_offerEdges rfl rfl rfl c111 ?_
        cases hq
        exact mB_ret odX0_offerEdges rfl
      · rw [if_neg c111] at hq
        refine lc_eq_F (t := 306) odX0_offerEdges rfl rfl rfl c111 ?_
        refine mB_run odX0_offerEdges 5 (g := (300, [(25, .long (o101.2 - o107.2)), (23, .long (((v21 - v27).toInt64 * (v69 - v75).toInt64) - ((v33 - v39).toInt64 * (v57 - v63).toInt64))), (21, .long (((v45 - v51).toInt64 * (v57 - v63).toInt64) - ((v21 - v27).toInt64 * (v81 - v87).toInt64))), (19, .long (((v33 - v39).toInt64 * (v81 - v87).toInt64) - ((v45 - v51).toInt64 * (v69 - v75).toInt64))), (17, .long (v81 - v87).toInt64), (15, .long (v69 - v75).toInt64), (13, .long (v57 - v63).toInt64), (11, .long (v45 - v51).toInt64), (9, .long (v33 - v39).toInt64), (7, .long (v21 - v27).toInt64), (6, .int v15), (5, .int v11), (4, .int v7), (3, .int v3), (0, .ref p0), (1, .int p1), (2, .int p2)], [.long (((v21 - v27).toInt64 * (v69 - v75).toInt64) - ((v33 - v39).toInt64 * (v57 - v63).toInt64)), .long (((v45 - v51).toInt64 * (v57 - v63).toInt64) - ((v21 - v27).toInt64 * (v81 - v87).toInt64)), .long (((v33 - v39).toInt64 * (v81 - v87).toInt64) - ((v45 - v51).toInt64 * (v69 - v75).toInt64)), .long (o101.2 - o107.2), .ref p0], (o107.1 ++ R), 0, 0)) rfl ?_
        obtain ⟨o112, e113, hq⟩ := bsm hq
        refine mB_S (as := [.long (((v33 - v39).toInt64 * (v81 - v87).toInt64) - ((v45 - v51).toInt64 * (v69 - v75).toInt64)), .long (((v45 - v51).toInt64 * (v57 - v63).toInt64) - ((v21 - v27).toInt64 * (v81 - v87).toInt64)), .long (((v21 - v27).toInt64 * (v69 - v75).toInt64) - ((v33 - v39).toInt64 * (v57 - v63).toInt64))]) odX0_offerEdges okX0_steepness lk_0_132 rfl (eaX0_steepness e113) rfl rfl rfl ?_
        show mB _ mX0_offerEdges (303, [(25, .long (o101.2 - o107.2)), (23, .long (((v21 - v27).toInt64 * (v69 - v75).toInt64) - ((v33 - v39).toInt64 * (v57 - v63).toInt64))), (21, .long (((v45 - v51).toInt64 * (v57 - v63).toInt64) - ((v21 - v27).toInt64 * (v81 - v87).toInt64))), (19, .long (((v33 - v39).toInt64 * (v81 - v87).toInt64) - ((v45 - v51).toInt64 * (v69 - v75).toInt64))), (17, .long (v81 - v87).toInt64), (15, .long (v69 - v75).toInt64), (13, .long (v57 - v63).toInt64), (11, .long (v45 - v51).toInt64), (9, .long (v33 - v39).toInt64), (7, .long (v21 - v27).toInt64), (6, .int v15), (5, .int v11), (4, .int v7), (3, .int v3), (0, .ref p0), (1, .int p1), (2, .int p2)], [.long o112.2, .long (o101.2 - o107.2), .ref p0], (o112.1 ++ R), 0, 0)
        obtain ⟨f116, k117, hq⟩ := bsm hq
        obtain ⟨o114, e115, hq⟩ := bsm hq
        refine mB_V (as := [.long (o101.2 - o107.2), .long o112.2]) odX0_offerEdges okX0_offerSlit lk_0_162 rfl (eaX0_offerSlit e115) (kO_at (kO_ap k117)) rfl rfl rfl ?_
        show mB _ mX0_offerEdges (306, [(25, .long (o101.2 - o107.2)), (23, .long (((v21 - v27).toInt64 * (v69 - v75).toInt64) - ((v33 - v39).toInt64 * (v57 - v63).toInt64))), (21, .long (((v45 - v51).toInt64 * (v57 - v63).toInt64) - ((v21 - v27).toInt64 * (v81 - v87).toInt64))), (19, .long (((v33 - v39).toInt64 * (v81 - v87).toInt64) - ((v45 - v51).toInt64 * (v69 - v75).toInt64))), (17, .long (v81 - v87).toInt64), (15, .long (v69 - v75).toInt64), (13, .long (v57 - v63).toInt64), (11, .long (v45 - v51).toInt64), (9, .long (v33 - v39).toInt64), (7, .long (v21 - v27).toInt64), (6, .int v15), (5, .int v11), (4, .int v7), (3, .int v3), (0, .ref p0), (1, .int p1), (2, .int p2)], [], (o114 ++ R), 0, 0)
        cases hq
        exact mB_ret odX0_offerEdges rfl
set_option maxHeartbeats 4000000 in
set_option maxRecDepth 100000 in
theorem eaX0_reckonSlit_144 {N : Nat} {R : mh} {rec132 : Nat → Int32 → mh → Option mh} (hrec132 : ∀ (x0 : Nat) (x1 : Int32) (h : mh) {o : mh}, rec132 x0 x1 h = some o → mB (gO mX0_reckonSlit (o ++ R, none)) mX0_reckonSlit (132, [(0, .ref x0), (1, .int x1)], [], (h ++ R), 0, 0)) : ∀ (n : Nat) (x0 : Nat) (x1 : Int32) (x2 : Int32) (h : mh) {o : mh}, fxX0_reckonSlit_144 N rec132 n x0 x1 x2 h = some o → mB (gO mX0_reckonSlit (o ++ R, none)) mX0_reckonSlit (144, [(0, .ref x0), (1, .int x1), (2, .int x2)], [], (h ++ R), 0, 0) := by
  intro n
  induction n with
  | zero => intro x0 x1 x2 h o hq; cases hq
  | succ n ih =>
    intro x0 x1 x2 h o hq
    unfold fxX0_reckonSlit_144 at hq
    refine mB_run odX0_reckonSlit 2 (g := (146, [(0, .ref x0), (1, .int x1), (2, .int x2)], [.ref x0, .int x2], (h ++ R), 0, 0)) rfl ?_
    obtain ⟨v49, e50, hq⟩ := bsm hq
    refine r_gI odX0_reckonSlit rfl rfl (gI_ap e50) ?_
    by_cases c51 : v49 ≤ x2
    · rw [if_pos c51] at hq
      refine ic_ge_T (t := 164) odX0_reckonSlit rfl rfl c51 ?_
      refine mB_run odX0_reckonSlit 2 (g := (132, [(1, .int (x1 + (1 : Int32))), (0, .ref x0), (2, .int x2)], [], (h ++ R), 0, 0)) rfl ?_
      refine mB_lv [1, 0] (lv' := [(0, .ref x0), (1, .int (x1 + (1 : Int32)))]) rfl ?_
      exact hrec132 _ _ _ hq
    · rw [if_neg c51] at hq
      refine ic_ge_F (t := 164) odX0_reckonSlit rfl rfl c51 ?_
      refine mB_run odX0_reckonSlit 3 (g := (155, [(0, .ref x0), (1, .int x1), (2, .int x2)], [.int x2, .int x1, .ref x0], (h ++ R), 0, 0)) rfl ?_
      obtain ⟨f54, k55, hq⟩ := bsm hq
      obtain ⟨o52, e53, hq⟩ := bsm hq
      refine mB_V (as := [.int x1, .int x2]) odX0_reckonSlit okX0_offerEdges lk_0_166 rfl (eaX0_offerEdges e53) (kO_at (kO_ap k55)) rfl rfl rfl ?_
      show mB _ mX0_reckonSlit (158, [(0, .ref x0), (1, .int x1), (2, .int x2)], [], (o52 ++ R), 0, 0)
      refine mB_run odX0_reckonSlit 2 (g := (144, [(2, .int (x2 + (1 : Int32))), (0, .ref x0), (1, .int x1)], [], (o52 ++ R), 0, 0)) rfl ?_
      refine mB_lv [1, 2, 0] (lv' := [(0, .ref x0), (1, .int x1), (2, .int (x2 + (1 : Int32)))]) rfl ?_
      exact ih _ _ _ _ hq
set_option maxHeartbeats 4000000 in
set_option maxRecDepth 100000 in
theorem eaX0_reckonSlit_132 {N : Nat} {R : mh} : ∀ (n : Nat) (x0 : Nat) (x1 : Int32) (h : mh) {o : mh}, fxX0_reckonSlit_132 N n x0 x1 h = some o → mB (gO mX0_reckonSlit (o ++ R, none)) mX0_reckonSlit (132, [(0, .ref x0), (1, .int x1)], [], (h ++ R), 0, 0) := by
  intro n
  induction n with
  | zero => intro x0 x1 h o hq; cases hq
  | succ n ih =>
    intro x0 x1 h o hq
    unfold fxX0_reckonSlit_132 at hq
    refine mB_run odX0_reckonSlit 2 (g := (134, [(0, .ref x0), (1, .int x1)], [.ref x0, .int x1], (h ++ R), 0, 0)) rfl ?_
    obtain ⟨v46, e47, hq⟩ := bsm hq
    refine r_gI odX0_reckonSlit rfl rfl (gI_ap e47) ?_
    by_cases c48 : v46 ≤ x1
    · rw [if_pos c48] at hq
      refine ic_ge_T (t := 170) odX0_reckonSlit rfl rfl c48 ?_
      cases hq
      exact mB_ret odX0_reckonSlit rfl
    · rw [if_neg c48] at hq
      refine ic_ge_F (t := 170) odX0_reckonSlit rfl rfl c48 ?_
      refine mB_run odX0_reckonSlit 4 (g := (144, [(2, .int (x1 + (1 : Int32))), (0, .ref x0), (1, .int x1)], [], (h ++ R), 0, 0)) rfl ?_
      refine mB_lv [1, 2, 0] (lv' := [(0, .ref x0), (1, .int x1), (2, .int (x1 + (1 : Int32)))]) rfl ?_
      exact eaX0_reckonSlit_144 ih N _ _ _ _ hq
set_option maxHeartbeats 4000000 in
set_option maxRecDepth 100000 in
theorem eaX0_reckonSlit_23 {N : Nat} {R : mh} : ∀ (n : Nat) (x0 : Nat) (x1 : Int32) (h : mh) {o : mh}, fxX0_reckonSlit_23 N n x0 x1 h = some o → mB (gO mX0_reckonSlit (o ++ R, none)) mX0_reckonSlit (23, [(0, .ref x0), (1, .int x1)], [], (h ++ R), 0, 0) := by
  intro n
  induction n with
  | zero => intro x0 x1 h o hq; cases hq
  | succ n ih =>
    intro x0 x1 h o hq
    unfold fxX0_reckonSlit_23 at hq
    refine mB_run odX0_reckonSlit 2 (g := (25, [(0, .ref x0), (1, .int x1)], [.ref x0, .int x1], (h ++ R), 0, 0)) rfl ?_
    obtain ⟨v9, e10, hq⟩ := bsm hq
    refine r_gI odX0_reckonSlit rfl rfl (gI_ap e10) ?_
    by_cases c11 : v9 ≤ x1
    · rw [if_pos c11] at hq
      refine ic_ge_T (t := 130) odX0_reckonSlit rfl rfl c11 ?_
      refine mB_run odX0_reckonSlit 2 (g := (132, [(1, .int (0 : Int32)), (0, .ref x0)], [], (h ++ R), 0, 0)) rfl ?_
      refine mB_lv [1, 0] (lv' := [(0, .ref x0), (1, .int (0 : Int32))]) rfl ?_
      exact eaX0_reckonSlit_132 N _ _ _ hq
    · rw [if_neg c11] at hq
      refine ic_ge_F (t := 130) odX0_reckonSlit rfl rfl c11 ?_
      refine mB_run odX0_reckonSlit 1 (g := (32, [(0, .ref x0), (1, .int x1)], [.ref x0], (h ++ R), 0, 0)) rfl ?_
      obtain ⟨v12, e13, hq⟩ := bsm hq
      refine r_gR odX0_reckonSlit rfl rfl (gR_ap e13) ?_
      refine mB_run odX0_reckonSlit 3 (g := (38, [(0, .ref x0), (1, .int x1)], [.int ((4 : Int32) * x1), .ref v12], (h ++ R), 0, 0)) rfl ?_
      obtain ⟨v14, e15, hq⟩ := bsm hq
      refine r_aI odX0_reckonSlit rfl (aI_ap e15) ?_
      refine mB_run odX0_reckonSlit 2 (g := (41, [(2, .int v14), (0, .ref x0), (1, .int x1)], [.ref x0], (h ++ R), 0, 0)) rfl ?_
      obtain ⟨v16, e17, hq⟩ := bsm hq
      refine r_gR odX0_reckonSlit rfl rfl (gR_ap e17) ?_
      refine mB_run odX0_reckonSlit 5 (g := (49, [(2, .int v14), (0, .ref x0), (1, .int x1)], [.int (((4 : Int32) * x1) + (1 : Int32)), .ref v16], (h ++ R), 0, 0)) rfl ?_
      obtain ⟨v18, e19, hq⟩ := bsm hq
      refine r_aI odX0_reckonSlit rfl (aI_ap e19) ?_
      refine mB_run odX0_reckonSlit 2 (g := (52, [(3, .int v18), (2, .int v14), (0, .ref x0), (1, .int x1)], [.ref x0], (h ++ R), 0, 0)) rfl ?_
      obtain ⟨v20, e21, hq⟩ := bsm hq
      refine r_gR odX0_reckonSlit rfl rfl (gR_ap e21) ?_
      refine mB_run odX0_reckonSlit 5 (g := (60, [(3, .int v18), (2, .int v14), (0, .ref x0), (1, .int x1)], [.int (((4 : Int32) * x1) + (2 : Int32)), .ref v20], (h ++ R), 0, 0)) rfl ?_
      obtain ⟨v22, e23, hq⟩ := bsm hq
      refine r_aI odX0_reckonSlit rfl (aI_ap e23) ?_
      refine mB_run odX0_reckonSlit 2 (g := (64, [(4, .int v22), (3, .int v18), (2, .int v14), (0, .ref x0), (1, .int x1)], [.ref x0], (h ++ R), 0, 0)) rfl ?_
      obtain ⟨v24, e25, hq⟩ := bsm hq
      refine r_gR odX0_reckonSlit rfl rfl (gR_ap e25) ?_
      refine mB_run odX0_reckonSlit 9 (g := (77, [(4, .int v22), (3, .int v18), (2, .int v14), (0, .ref x0), (1, .int x1)], [.long (-v22).toInt64, .long (-v18).toInt64, .long (-v14).toInt64, .ref v24], (h ++ R), 0, 0)) rfl ?_
      obtain ⟨f28, k29, hq⟩ := bsm hq
      obtain ⟨o26, e27, hq⟩ := bsm hq
      refine mB_V (as := [.long (-v14).toInt64, .long (-v18).toInt64, .long (-v22).toInt64]) odX0_reckonSlit okX3_farthest lk_0_154 rfl (eaX3_farthest e27) (kO_at (kO_ap k29)) rfl rfl rfl ?_
      show mB _ mX0_reckonSlit (80, [(4, .int v22), (3, .int v18), (2, .int v14), (0, .ref x0), (1, .int x1)], [.int o26.2], (o26.1 ++ R), 0, 0)
      refine mB_run odX0_reckonSlit 3 (g := (84, [(5, .int o26.2), (4, .int v22), (3, .int v18), (2, .int v14), (0, .ref x0), (1, .int x1)], [.ref x0, .ref x0], (o26.1 ++ R), 0, 0)) rfl ?_
      obtain ⟨v30, e31, hq⟩ := bsm hq
      refine r_gR odX0_reckonSlit rfl rfl (gR_ap e31) ?_
      refine mB_run odX0_reckonSlit 5 (g := (92, [(5, .int o26.2), (4, .int v22), (3, .int v18), (2, .int v14), (0, .ref x0), (1, .int x1)], [.int (((4 : Int32) * x1) + (3 : Int32)), .ref v30, .ref x0], (o26.1 ++ R), 0, 0)) rfl ?_
      obtain ⟨v32, e33, hq⟩ := bsm hq
      refine r_aI odX0_reckonSlit rfl (aI_ap e33) ?_
      refine mB_run odX0_reckonSlit 2 (g := (95, [(5, .int o26.2), (4, .int v22), (3, .int v18), (2, .int v14), (0, .ref x0), (1, .int x1)], [.ref x0, .long v32.toInt64, .ref x0], (o26.1 ++ R), 0, 0)) rfl ?_
      obtain ⟨v34, e35, hq⟩ := bsm hq
      refine r_gR odX0_reckonSlit rfl rfl (gR_ap e35) ?_
      refine mB_run odX0_reckonSlit 7 (g := (107, [(5, .int o26.2), (4, .int v22), (3, .int v18), (2, .int v14), (0, .ref x0), (1, .int x1)], [.long v22.toInt64, .long v18.toInt64, .long v14.toInt64, .int o26.2, .ref v34, .long v32.toInt64, .ref x0], (o26.1 ++ R), 0, 0)) rfl ?_
      obtain ⟨f38, k39, hq⟩ := bsm hq
      obtain ⟨o36, e37, hq⟩ := bsm hq
      refine mB_V (as := [.int o26.2, .long v14.toInt64, .long v18.toInt64, .long v22.toInt64]) odX0_reckonSlit okX3_along lk_0_158 rfl (eaX3_along e37) (kO_at (kO_ap k39)) rfl rfl rfl ?_
      show mB _ mX0_reckonSlit (110, [(5, .int o26.2), (4, .int v22), (3, .int v18), (2, .int v14), (0, .ref x0), (1, .int x1)], [.long o36.2, .long v32.toInt64, .ref x0], (o36.1 ++ R), 0, 0)
      refine mB_run odX0_reckonSlit 7 (g := (118, [(5, .int o26.2), (4, .int v22), (3, .int v18), (2, .int v14), (0, .ref x0), (1, .int x1)], [.long v22.toInt64, .long v18.toInt64, .long v14.toInt64, .long (v32.toInt64 - o36.2), .ref x0], (o36.1 ++ R), 0, 0)) rfl ?_
      obtain ⟨o40, e41, hq⟩ := bsm hq
      refine mB_S (as := [.long v14.toInt64, .long v18.toInt64, .long v22.toInt64]) odX0_reckonSlit okX0_steepness lk_0_132 rfl (eaX0_steepness e41) rfl rfl rfl ?_
      show mB _ mX0_reckonSlit (121, [(5, .int o26.2), (4, .int v22), (3, .int v18), (2, .int v14), (0, .ref x0), (1, .int x1)], [.long o40.2, .long (v32.toInt64 - o36.2), .ref x0], (o40.1 ++ R), 0, 0)
      obtain ⟨f44, k45, hq⟩ := bsm hq
      obtain ⟨o42, e43, hq⟩ := bsm hq
      refine mB_V (as := [.long (v32.toInt64 - o36.2), .long o40.2]) odX0_reckonSlit okX0_offerSlit lk_0_162 rfl (eaX0_offerSlit e43) (kO_at (kO_ap k45)) rfl rfl rfl ?_
      show mB _ mX0_reckonSlit (124, [(5, .int o26.2), (4, .int v22), (3, .int v18), (2, .int v14), (0, .ref x0), (1, .int x1)], [], (o42 ++ R), 0, 0)
      refine mB_run odX0_reckonSlit 2 (g := (23, [(1, .int (x1 + (1 : Int32))), (5, .int o26.2), (4, .int v22), (3, .int v18), (2, .int v14), (0, .ref x0)], [], (o42 ++ R), 0, 0)) rfl ?_
      refine mB_lv [5, 0] (lv' := [(0, .ref x0), (1, .int (x1 + (1 : Int32)))]) rfl ?_
      exact ih _ _ _ hq
set_option maxHeartbeats 4000000 in
set_option maxRecDepth 100000 in
theorem eaX0_reckonSlit {N : Nat} {R : mh} {p0 : Nat} {h : mh} {o : mh} (hq : fxX0_reckonSlit N p0 h = some o) : mC mX0_reckonSlit [.ref p0] (h ++ R) (o ++ R, none) := by
  refine mC_of okX0_reckonSlit (Nat.le_of_ble_eq_true rfl) ?_
  unfold fxX0_reckonSlit at hq
  show mB _ mX0_reckonSlit (0, [(0, .ref p0)], [], (h ++ R), 0, 0)
  refine mB_run odX0_reckonSlit 1 (g := (1, [(0, .ref p0)], [.ref p0], (h ++ R), 0, 0)) rfl ?_
  obtain ⟨v1, e2, hq⟩ := bsm hq
  refine r_gI odX0_reckonSlit rfl rfl (gI_ap e2) ?_
  refine mB_run odX0_reckonSlit 1 (g := (5, [(0, .ref p0)], [.int (4 : Int32), .int v1], (h ++ R), 0, 0)) rfl ?_
  by_cases c3 : v1 = (4 : Int32)
  · rw [if_pos c3] at hq
    refine ic_ne_F (t := 20) odX0_reckonSlit rfl rfl c3 ?_
    refine mB_run odX0_reckonSlit 1 (g := (9, [(0, .ref p0)], [.ref p0], (h ++ R), 0, 0)) rfl ?_
    obtain ⟨v4, e5, hq⟩ := bsm hq
    refine r_gR odX0_reckonSlit rfl rfl (gR_ap e5) ?_
    obtain ⟨v6, e7, hq⟩ := bsm hq
    refine r_gJ odX0_reckonSlit rfl rfl (gJ_ap e7) ?_
    refine mB_run odX0_reckonSlit 1 (g := (16, [(0, .ref p0)], [.long (0 : Int64), .long v6], (h ++ R), 0, 0)) rfl ?_
    by_cases c8 : v6 ≤ (0 : Int64)
    · rw [if_pos c8] at hq
      refine lc_le_T (t := 21) odX0_reckonSlit rfl rfl rfl c8 ?_
      refine mB_run odX0_reckonSlit 2 (g := (23, [(1, .int (0 : Int32)), (0, .ref p0)], [], (h ++ R), 0, 0)) rfl ?_
      refine mB_lv [1, 0] (lv' := [(0, .ref p0), (1, .int (0 : Int32))]) rfl ?_
      exact eaX0_reckonSlit_23 N _ _ _ hq
    · rw [if_neg c8] at hq
      refine lc_le_F (t := 21) odX0_reckonSlit rfl rfl rfl c8 ?_
      cases hq
      exact mB_ret odX0_reckonSlit rfl
  · rw [if_neg c3] at hq
    refine ic_ne_T (t := 20) odX0_reckonSlit rfl rfl c3 ?_
    cases hq
    exact mB_ret odX0_reckonSlit rfl
set_option maxHeartbeats 4000000 in
set_option maxRecDepth 100000 in
theorem eaX1_addDifference {N : Nat} {R : mh} {p0 : Nat} {p1 : Nat} {p2 : Int32} {p3 : Nat} {p4 : Int32} {h : mh} {o : mh} (hq : fxX1_addDifference N p0 p1 p2 p3 p4 h = some o) : mC mX1_addDifference [.ref p0, .ref p1, .int p2, .ref p3, .int p4] (h ++ R) (o ++ R, none) := by
  refine mC_of okX1_addDifference (Nat.le_of_ble_eq_true rfl) ?_
  unfold fxX1_addDifference at hq
  show mB _ mX1_addDifference (0, [(0, .ref p0), (1, .ref p1), (2, .int p2), (3, .ref p3), (4, .int p4)], [], (h ++ R), 0, 0)
  refine mB_run odX1_addDifference 1 (g := (1, [(0, .ref p0), (1, .ref p1), (2, .int p2), (3, .ref p3), (4, .int p4)], [.ref p0], (h ++ R), 0, 0)) rfl ?_
  obtain ⟨v1, e2, hq⟩ := bsm hq
  refine r_gI odX1_addDifference rfl rfl (gI_ap e2) ?_
  refine mB_run odX1_addDifference 1 (g := (5, [(0, .ref p0), (1, .ref p1), (2, .int p2), (3, .ref p3), (4, .int p4)], [.ref p0, .int v1], (h ++ R), 0, 0)) rfl ?_
  obtain ⟨v3, e4, hq⟩ := bsm hq
  refine r_gR odX1_addDifference rfl rfl (gR_ap e4) ?_
  obtain ⟨v5, e6, hq⟩ := bsm hq
  refine r_aL odX1_addDifference rfl (aL_ap e6) ?_
  by_cases c7 : v5 ≤ v1
  · rw [if_pos c7] at hq
    refine ic_ge_T (t := 91) odX1_addDifference rfl rfl c7 ?_
    cases hq
    exact mB_ret odX1_addDifference rfl
  · rw [if_neg c7] at hq
    refine ic_ge_F (t := 91) odX1_addDifference rfl rfl c7 ?_
    refine mB_run odX1_addDifference 1 (g := (13, [(0, .ref p0), (1, .ref p1), (2, .int p2), (3, .ref p3), (4, .int p4)], [.ref p0], (h ++ R), 0, 0)) rfl ?_
    obtain ⟨v8, e9, hq⟩ := bsm hq
    refine r_gR odX1_addDifference rfl rfl (gR_ap e9) ?_
    refine mB_run odX1_addDifference 1 (g := (17, [(0, .ref p0), (1, .ref p1), (2, .int p2), (3, .ref p3), (4, .int p4)], [.ref p0, .ref v8], (h ++ R), 0, 0)) rfl ?_
    obtain ⟨v10, e11, hq⟩ := bsm hq
    refine r_gI odX1_addDifference rfl rfl (gI_ap e11) ?_
    refine mB_run odX1_addDifference 1 (g := (21, [(0, .ref p0), (1, .ref p1), (2, .int p2), (3, .ref p3), (4, .int p4)], [.ref p1, .int v10, .ref v8], (h ++ R), 0, 0)) rfl ?_
    obtain ⟨v12, e13, hq⟩ := bsm hq
    refine r_gR odX1_addDifference rfl rfl (gR_ap e13) ?_
    refine mB_run odX1_addDifference 1 (g := (25, [(0, .ref p0), (1, .ref p1), (2, .int p2), (3, .ref p3), (4, .int p4)], [.int p2, .ref v12, .int v10, .ref v8], (h ++ R), 0, 0)) rfl ?_
    obtain ⟨v14, e15, hq⟩ := bsm hq
    refine r_aI odX1_addDifference rfl (aI_ap e15) ?_
    refine mB_run odX1_addDifference 1 (g := (27, [(0, .ref p0), (1, .ref p1), (2, .int p2), (3, .ref p3), (4, .int p4)], [.ref p3, .int v14, .int v10, .ref v8], (h ++ R), 0, 0)) rfl ?_
    obtain ⟨v16, e17, hq⟩ := bsm hq
    refine r_gR odX1_addDifference rfl rfl (gR_ap e17) ?_
    refine mB_run odX1_addDifference 1 (g := (32, [(0, .ref p0), (1, .ref p1), (2, .int p2), (3, .ref p3), (4, .int p4)], [.int p4, .ref v16, .int v14, .int v10, .ref v8], (h ++ R), 0, 0)) rfl ?_
    obtain ⟨v18, e19, hq⟩ := bsm hq
    refine r_aI odX1_addDifference rfl (aI_ap e19) ?_
    refine mB_run odX1_addDifference 1 (g := (34, [(0, .ref p0), (1, .ref p1), (2, .int p2), (3, .ref p3), (4, .int p4)], [.int (v14 - v18), .int v10, .ref v8], (h ++ R), 0, 0)) rfl ?_
    obtain ⟨h20, e21, hq⟩ := bsm hq
    refine r_wI odX1_addDifference rfl (wI_ap e21) ?_
    refine mB_run odX1_addDifference 1 (g := (36, [(0, .ref p0), (1, .ref p1), (2, .int p2), (3, .ref p3), (4, .int p4)], [.ref p0], (h20 ++ R), 0, 0)) rfl ?_
    obtain ⟨v22, e23, hq⟩ := bsm hq
    refine r_gR odX1_addDifference rfl rfl (gR_ap e23) ?_
    refine mB_run odX1_addDifference 1 (g := (40, [(0, .ref p0), (1, .ref p1), (2, .int p2), (3, .ref p3), (4, .int p4)], [.ref p0, .ref v22], (h20 ++ R), 0, 0)) rfl ?_
    obtain ⟨v24, e25, hq⟩ := bsm hq
    refine r_gI odX1_addDifference rfl rfl (gI_ap e25) ?_
    refine mB_run odX1_addDifference 1 (g := (44, [(0, .ref p0), (1, .ref p1), (2, .int p2), (3, .ref p3), (4, .int p4)], [.ref p1, .int v24, .ref v22], (h20 ++ R), 0, 0)) rfl ?_
    obtain ⟨v26, e27, hq⟩ := bsm hq
    refine r_gR odX1_addDifference rfl rfl (gR_ap e27) ?_
    refine mB_run odX1_addDifference 1 (g := (48, [(0, .ref p0), (1, .ref p1), (2, .int p2), (3, .ref p3), (4, .int p4)], [.int p2, .ref v26, .int v24, .ref v22], (h20 ++ R), 0, 0)) rfl ?_
    obtain ⟨v28, e29, hq⟩ := bsm hq
    refine r_aI odX1_addDifference rfl (aI_ap e29) ?_
    refine mB_run odX1_addDifference 1 (g := (50, [(0, .ref p0), (1, .ref p1), (2, .int p2), (3, .ref p3), (4, .int p4)], [.ref p3, .int v28, .int v24, .ref v22], (h20 ++ R), 0, 0)) rfl ?_
    obtain ⟨v30, e31, hq⟩ := bsm hq
    refine r_gR odX1_addDifference rfl rfl (gR_ap e31) ?_
    refine mB_run odX1_addDifference 1 (g := (55, [(0, .ref p0), (1, .ref p1), (2, .int p2), (3, .ref p3), (4, .int p4)], [.int p4, .ref v30, .int v28, .int v24, .ref v22], (h20 ++ R), 0, 0)) rfl ?_
    obtain ⟨v32, e33, hq⟩ := bsm hq
    refine r_aI odX1_addDifference rfl (aI_ap e33) ?_
    refine mB_run odX1_addDifference 1 (g := (57, [(0, .ref p0), (1, .ref p1), (2, .int p2), (3, .ref p3), (4, .int p4)], [.int (v28 - v32), .int v24, .ref v22], (h20 ++ R), 0, 0)) rfl ?_
    obtain ⟨h34, e35, hq⟩ := bsm hq
    refine r_wI odX1_addDifference rfl (wI_ap e35) ?_
    refine mB_run odX1_addDifference 1 (g := (59, [(0, .ref p0), (1, .ref p1), (2, .int p2), (3, .ref p3), (4, .int p4)], [.ref p0], (h34 ++ R), 0, 0)) rfl ?_
    obtain ⟨v36, e37, hq⟩ := bsm hq
    refine r_gR odX1_addDifference rfl rfl (gR_ap e37) ?_
    refine mB_run odX1_addDifference 1 (g := (63, [(0, .ref p0), (1, .ref p1), (2, .int p2), (3, .ref p3), (4, .int p4)], [.ref p0, .ref v36], (h34 ++ R), 0, 0)) rfl ?_
    obtain ⟨v38, e39, hq⟩ := bsm hq
    refine r_gI odX1_addDifference rfl rfl (gI_ap e39) ?_
    refine mB_run odX1_addDifference 1 (g := (67, [(0, .ref p0), (1, .ref p1), (2, .int p2), (3, .ref p3), (4, .int p4)], [.ref p1, .int v38, .ref v36], (h34 ++ R), 0, 0)) rfl ?_
    obtain ⟨v40, e41, hq⟩ := bsm hq
    refine r_gR odX1_addDifference rfl rfl (gR_ap e41) ?_
    refine mB_run odX1_addDifference 1 (g := (71, [(0, .ref p0), (1, .ref p1), (2, .int p2), (3, .ref p3), (4, .int p4)], [.int p2, .ref v40, .int v38, .ref v36], (h34 ++ R), 0, 0)) rfl ?_
    obtain ⟨v42, e43, hq⟩ := bsm hq
    refine r_aI odX1_addDifference rfl (aI_ap e43) ?_
    refine mB_run odX1_addDifference 1 (g := (73, [(0, .ref p0), (1, .ref p1), (2, .int p2), (3, .ref p3), (4, .int p4)], [.ref p3, .int v42, .int v38, .ref v36], (h34 ++ R), 0, 0)) rfl ?_
    obtain ⟨v44, e45, hq⟩ := bsm hq
    refine r_gR odX1_addDifference rfl rfl (gR_ap e45) ?_
    refine mB_run odX1_addDifference 1 (g := (78, [(0, .ref p0), (1, .ref p1), (2, .int p2), (3, .ref p3), (4, .int p4)], [.int p4, .ref v44, .int v42, .int v38, .ref v36], (h34 ++ R), 0, 0)) rfl ?_
    obtain ⟨v46, e47, hq⟩ := bsm hq
    refine r_aI odX1_addDifference rfl (aI_ap e47) ?_
    refine mB_run odX1_addDifference 1 (g := (80, [(0, .ref p0), (1, .ref p1), (2, .int p2), (3, .ref p3), (4, .int p4)], [.int (v42 - v46), .int v38, .ref v36], (h34 ++ R), 0, 0)) rfl ?_
    obtain ⟨h48, e49, hq⟩ := bsm hq
    refine r_wI odX1_addDifference rfl (wI_ap e49) ?_
    refine mB_run odX1_addDifference 2 (g := (83, [(0, .ref p0), (1, .ref p1), (2, .int p2), (3, .ref p3), (4, .int p4)], [.ref p0, .ref p0], (h48 ++ R), 0, 0)) rfl ?_
    obtain ⟨v50, e51, hq⟩ := bsm hq
    refine r_gI odX1_addDifference rfl rfl (gI_ap e51) ?_
    refine mB_run odX1_addDifference 2 (g := (88, [(0, .ref p0), (1, .ref p1), (2, .int p2), (3, .ref p3), (4, .int p4)], [.int (v50 + (1 : Int32)), .ref p0], (h48 ++ R), 0, 0)) rfl ?_
    obtain ⟨h52, e53, hq⟩ := bsm hq
    refine r_sV odX1_addDifference rfl rfl rfl rfl (sV_ap e53) ?_
    cases hq
    exact mB_ret odX1_addDifference rfl
set_option maxHeartbeats 4000000 in
set_option maxRecDepth 100000 in
theorem eaX1_along {N : Nat} {R : mh} {p0 : Nat} {p1 : Int32} {h : mh} {o : (mh × Int64)} (hq : fxX1_along N p0 p1 h = some o) : mC mX1_along [.ref p0, .int p1] (h ++ R) (o.1 ++ R, some (.long o.2)) := by
  refine mC_of okX1_along (Nat.le_of_ble_eq_true rfl) ?_
  unfold fxX1_along at hq
  show mB _ mX1_along (0, [(0, .ref p0), (1, .int p1)], [], (h ++ R), 0, 0)
  refine mB_run odX1_along 1 (g := (1, [(0, .ref p0), (1, .int p1)], [.ref p0], (h ++ R), 0, 0)) rfl ?_
  obtain ⟨v1, e2, hq⟩ := bsm hq
  refine r_gJ odX1_along rfl rfl (gJ_ap e2) ?_
  refine mB_run odX1_along 1 (g := (5, [(0, .ref p0), (1, .int p1)], [.ref p0, .long v1], (h ++ R), 0, 0)) rfl ?_
  obtain ⟨v3, e4, hq⟩ := bsm hq
  refine r_gR odX1_along rfl rfl (gR_ap e4) ?_
  refine mB_run odX1_along 1 (g := (9, [(0, .ref p0), (1, .int p1)], [.int p1, .ref v3, .long v1], (h ++ R), 0, 0)) rfl ?_
  obtain ⟨v5, e6, hq⟩ := bsm hq
  refine r_aI odX1_along rfl (aI_ap e6) ?_
  refine mB_run odX1_along 3 (g := (13, [(0, .ref p0), (1, .int p1)], [.ref p0, .long (v1 * v5.toInt64)], (h ++ R), 0, 0)) rfl ?_
  obtain ⟨v7, e8, hq⟩ := bsm hq
  refine r_gJ odX1_along rfl rfl (gJ_ap e8) ?_
  refine mB_run odX1_along 1 (g := (17, [(0, .ref p0), (1, .int p1)], [.ref p0, .long v7, .long (v1 * v5.toInt64)], (h ++ R), 0, 0)) rfl ?_
  obtain ⟨v9, e10, hq⟩ := bsm hq
  refine r_gR odX1_along rfl rfl (gR_ap e10) ?_
  refine mB_run odX1_along 1 (g := (21, [(0, .ref p0), (1, .int p1)], [.int p1, .ref v9, .long v7, .long (v1 * v5.toInt64)], (h ++ R), 0, 0)) rfl ?_
  obtain ⟨v11, e12, hq⟩ := bsm hq
  refine r_aI odX1_along rfl (aI_ap e12) ?_
  refine mB_run odX1_along 4 (g := (26, [(0, .ref p0), (1, .int p1)], [.ref p0, .long ((v1 * v5.toInt64) + (v7 * v11.toInt64))], (h ++ R), 0, 0)) rfl ?_
  obtain ⟨v13, e14, hq⟩ := bsm hq
  refine r_gJ odX1_along rfl rfl (gJ_ap e14) ?_
  refine mB_run odX1_along 1 (g := (30, [(0, .ref p0), (1, .int p1)], [.ref p0, .long v13, .long ((v1 * v5.toInt64) + (v7 * v11.toInt64))], (h ++ R), 0, 0)) rfl ?_
  obtain ⟨v15, e16, hq⟩ := bsm hq
  refine r_gR odX1_along rfl rfl (gR_ap e16) ?_
  refine mB_run odX1_along 1 (g := (34, [(0, .ref p0), (1, .int p1)], [.int p1, .ref v15, .long v13, .long ((v1 * v5.toInt64) + (v7 * v11.toInt64))], (h ++ R), 0, 0)) rfl ?_
  obtain ⟨v17, e18, hq⟩ := bsm hq
  refine r_aI odX1_along rfl (aI_ap e18) ?_
  refine mB_run odX1_along 3 (g := (38, [(0, .ref p0), (1, .int p1)], [.long (((v1 * v5.toInt64) + (v7 * v11.toInt64)) + (v13 * v17.toInt64))], (h ++ R), 0, 0)) rfl ?_
  cases hq
  exact mB_ret odX1_along rfl
