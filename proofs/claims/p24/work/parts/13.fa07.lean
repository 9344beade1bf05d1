def fxX6_near (N : Nat) (p0 : Nat) (p1 : Int32) (p2 : Int32) (p3 : Int32) (h : mh) : Option (mh × Int64) :=
  (fxX6_isSlot N p1 h).bind fun o1 =>
  if o1.2 = 0 then (
    some (o1.1, (-1 : Int64))) else (
    (fxX6_isSlot N p2 o1.1).bind fun o4 =>
    if o4.2 = 0 then (
      some (o4.1, (-1 : Int64))) else (
      (fxX6_isTopOrBottom N p3 o4.1).bind fun o7 =>
      if o7.2 = 0 then (
        some (o7.1, (-1 : Int64))) else (
        (gR o7.1 p0 6 2).bind fun v10 =>
        (aR o7.1 v10 p1).bind fun v12 =>
        (gI o7.1 v12 0 0).bind fun v14 =>
        if v14 = 0 then (
          some (o7.1, (-1 : Int64))) else (
          (gR o7.1 p0 6 2).bind fun v17 =>
          (aR o7.1 v17 p2).bind fun v19 =>
          (gI o7.1 v19 0 0).bind fun v21 =>
          if v21 = 0 then (
            some (o7.1, (-1 : Int64))) else (
            (gR o7.1 p0 6 11).bind fun v24 =>
            (gR o7.1 p0 6 2).bind fun v26 =>
            (aR o7.1 v26 p1).bind fun v28 =>
            (gR o7.1 v28 0 1).bind fun v30 =>
            (gR o7.1 p0 6 2).bind fun v32 =>
            (aR o7.1 v32 p2).bind fun v34 =>
            (gR o7.1 v34 0 1).bind fun v36 =>
            (kO o7.1 v24 1).bind fun f40 =>
            (fxX1_reckon N v24 v30 v36 o7.1).bind fun o38 =>
            (gR o38 p0 6 12).bind fun v42 =>
            (gR o38 p0 6 11).bind fun v44 =>
            (gJ o38 v44 1 0).bind fun v46 =>
            (gR o38 p0 6 11).bind fun v48 =>
            (gJ o38 v48 1 1).bind fun v50 =>
            (kO o38 v42 4).bind fun f54 =>
            (fxX4_put N v42 v46 v50 o38).bind fun o52 =>
            (gR o52 p0 6 12).bind fun v56 =>
            (kO o52 v56 4).bind fun f60 =>
            (fxX4_part N v56 p3 o52).bind fun o58 =>
            some (o58.1, o58.2))))))
set_option maxHeartbeats 4000000 in
set_option maxRecDepth 100000 in
theorem eaX6_near {N : Nat} {R : mh} {p0 : Nat} {p1 : Int32} {p2 : Int32} {p3 : Int32} {h : mh} {o : (mh × Int64)} (hq : fxX6_near N p0 p1 p2 p3 h = some o) : mC mX6_near [.ref p0, .int p1, .int p2, .int p3] (h ++ R) (o.1 ++ R, some (.long o.2)) := by
  refine mC_of okX6_near (Nat.le_of_ble_eq_true rfl) ?_
  unfold fxX6_near at hq
  show mB _ mX6_near (0, [(0, .ref p0), (1, .int p1), (2, .int p2), (3, .int p3)], [], (h ++ R), 0, 0)
  refine mB_run odX6_near 1 (g := (1, [(0, .ref p0), (1, .int p1), (2, .int p2), (3, .int p3)], [.int p1], (h ++ R), 0, 0)) rfl ?_
  obtain ⟨o1, e2, hq⟩ := bsm hq
  refine mB_S (as := [.int p1]) odX6_near okX6_isSlot lk_6_79 rfl (eaX6_isSlot e2) rfl rfl rfl ?_
  show mB _ mX6_near (4, [(0, .ref p0), (1, .int p1), (2, .int p2), (3, .int p3)], [.int o1.2], (o1.1 ++ R), 0, 0)
  by_cases c3 : o1.2 = 0
  · rw [if_pos c3] at hq
    refine if_eq_T (t := 21) odX6_near rfl rfl c3 ?_
    refine mB_run odX6_near 1 (g := (24, [(0, .ref p0), (1, .int p1), (2, .int p2), (3, .int p3)], [.long (-1 : Int64)], (o1.1 ++ R), 0, 0)) rfl ?_
    cases hq
    exact mB_ret odX6_near rfl
  · rw [if_neg c3] at hq
    refine if_eq_F (t := 21) odX6_near rfl rfl c3 ?_
    refine mB_run odX6_near 1 (g := (8, [(0, .ref p0), (1, .int p1), (2, .int p2), (3, .int p3)], [.int p2], (o1.1 ++ R), 0, 0)) rfl ?_
    obtain ⟨o4, e5, hq⟩ := bsm hq
    refine mB_S (as := [.int p2]) odX6_near okX6_isSlot lk_6_79 rfl (eaX6_isSlot e5) rfl rfl rfl ?_
    show mB _ mX6_near (11, [(0, .ref p0), (1, .int p1), (2, .int p2), (3, .int p3)], [.int o4.2], (o4.1 ++ R), 0, 0)
    by_cases c6 : o4.2 = 0
    · rw [if_pos c6] at hq
      refine if_eq_T (t := 21) odX6_near rfl rfl c6 ?_
      refine mB_run odX6_near 1 (g := (24, [(0, .ref p0), (1, .int p1), (2, .int p2), (3, .int p3)], [.long (-1 : Int64)], (o4.1 ++ R), 0, 0)) rfl ?_
      cases hq
      exact mB_ret odX6_near rfl
    · rw [if_neg c6] at hq
      refine if_eq_F (t := 21) odX6_near rfl rfl c6 ?_
      refine mB_run odX6_near 1 (g := (15, [(0, .ref p0), (1, .int p1), (2, .int p2), (3, .int p3)], [.int p3], (o4.1 ++ R), 0, 0)) rfl ?_
      obtain ⟨o7, e8, hq⟩ := bsm hq
      refine mB_S (as := [.int p3]) odX6_near okX6_isTopOrBottom lk_6_163 rfl (eaX6_isTopOrBottom e8) rfl rfl rfl ?_
      show mB _ mX6_near (18, [(0, .ref p0), (1, .int p1), (2, .int p2), (3, .int p3)], [.int o7.2], (o7.1 ++ R), 0, 0)
      by_cases c9 : o7.2 = 0
      · rw [if_pos c9] at hq
        refine if_ne_F (t := 25) odX6_near rfl rfl c9 ?_
        refine mB_run odX6_near 1 (g := (24, [(0, .ref p0), (1, .int p1), (2, .int p2), (3, .int p3)], [.long (-1 : Int64)], (o7.1 ++ R), 0, 0)) rfl ?_
        cases hq
        exact mB_ret odX6_near rfl
      · rw [if_neg c9] at hq
        refine if_ne_T (t := 25) odX6_near rfl rfl c9 ?_
        refine mB_run odX6_near 1 (g := (26, [(0, .ref p0), (1, .int p1), (2, .int p2), (3, .int p3)], [.ref p0], (o7.1 ++ R), 0, 0)) rfl ?_
        obtain ⟨v10, e11, hq⟩ := bsm hq
        refine r_gR odX6_near rfl rfl (gR_ap e11) ?_
        refine mB_run odX6_near 1 (g := (30, [(0, .ref p0), (1, .int p1), (2, .int p2), (3, .int p3)], [.int p1, .ref v10], (o7.1 ++ R), 0, 0)) rfl ?_
        obtain ⟨v12, e13, hq⟩ := bsm hq
        refine r_aR odX6_near rfl (aR_ap e13) ?_
        obtain ⟨v14, e15, hq⟩ := bsm hq
        refine r_gI odX6_near rfl rfl (gI_ap e15) ?_
        by_cases c16 : v14 = 0
        · rw [if_pos c16] at hq
          refine if_eq_T (t := 49) odX6_near rfl rfl c16 ?_
          refine mB_run odX6_near 1 (g := (52, [(0, .ref p0), (1, .int p1), (2, .int p2), (3, .int p3)], [.long (-1 : Int64)], (o7.1 ++ R), 0, 0)) rfl ?_
          cases hq
          exact mB_ret odX6_near rfl
        · rw [if_neg c16] at hq
          refine if_eq_F (t := 49) odX6_near rfl rfl c16 ?_
          refine mB_run odX6_near 1 (g := (38, [(0, .ref p0), (1, .int p1), (2, .int p2), (3, .int p3)], [.ref p0], (o7.1 ++ R), 0, 0)) rfl ?_
          obtain ⟨v17, e18, hq⟩ := bsm hq
          refine r_gR odX6_near rfl rfl (gR_ap e18) ?_
          refine mB_run odX6_near 1 (g := (42, [(0, .ref p0), (1, .int p1), (2, .int p2), (3, .int p3)], [.int p2, .ref v17], (o7.1 ++ R), 0, 0)) rfl ?_
          obtain ⟨v19, e20, hq⟩ := bsm hq
          refine r_aR odX6_near rfl (aR_ap e20) ?_
          obtain ⟨v21, e22, hq⟩ := bsm hq
          refine r_gI odX6_near rfl rfl (gI_ap e22) ?_
          by_cases c23 : v21 = 0
          · rw [if_pos c23] at hq
            refine if_ne_F (t := 53) odX6_near rfl rfl c23 ?_
            refine mB_run odX6_near 1 (g := (52, [(0, .ref p0), (1, .int p1), (2, .int p2), (3, .int p3)], [.long (-1 : Int64)], (o7.1 ++ R), 0, 0)) rfl ?_
            cases hq
            exact mB_ret odX6_near rfl
          · rw [if_neg c23] at hq
            refine if_ne_T (t := 53) odX6_near rfl rfl c23 ?_
            refine mB_run odX6_near 1 (g := (54, [(0, .ref p0), (1, .int p1), (2, .int p2), (3, .int p3)], [.ref p0], (o7.1 ++ R), 0, 0)) rfl ?_
            obtain ⟨v24, e25, hq⟩ := bsm hq
            refine r_gR odX6_near rfl rfl (gR_ap e25) ?_
            refine mB_run odX6_near 1 (g := (58, [(0, .ref p0), (1, .int p1), (2, .int p2), (3, .int p3)], [.ref p0, .ref v24], (o7.1 ++ R), 0, 0)) rfl ?_
            obtain ⟨v26, e27, hq⟩ := bsm hq
            refine r_gR odX6_near rfl rfl (gR_ap e27) ?_
            refine mB_run odX6_near 1 (g := (62, [(0, .ref p0), (1, .int p1), (2, .int p2), (3, .int p3)], [.int p1, .ref v26, .ref v24], (o7.1 ++ R), 0, 0)) rfl ?_
            obtain ⟨v28, e29, hq⟩ := bsm hq
            refine r_aR odX6_near rfl (aR_ap e29) ?_
            obtain ⟨v30, e31, hq⟩ := bsm hq
            refine r_gR odX6_near rfl rfl (gR_ap e31) ?_
            refine mB_run odX6_near 1 (g := (67, [(0, .ref p0), (1, .int p1), (2, .int p2), (3, .int p3)], [.ref p0, .ref v30, .ref v24], (o7.1 ++ R), 0, 0)) rfl ?_
            obtain ⟨v32, e33, hq⟩ := bsm hq
            refine r_gR odX6_near rfl rfl (gR_ap e33) ?_
            refine mB_run odX6_near 1 (g := (71, [(0, .ref p0), (1, .int p1), (2, .int p2), (3, .int p3)], [.int p2, .ref v32, .ref v30, .ref v24], (o7.1 ++ R), 0, 0)) rfl ?_
            obtain ⟨v34, e35, hq⟩ := bsm hq
            refine r_aR odX6_near rfl (aR_ap e35) ?_
            obtain ⟨v36, e37, hq⟩ := bsm hq
            refine r_gR odX6_near rfl rfl (gR_ap e37) ?_
            obtain ⟨f40, k41, hq⟩ := bsm hq
            obtain ⟨o38, e39, hq⟩ := bsm hq
            refine mB_V (as := [.ref v30, .ref v36]) odX6_near okX1_reckon lk_6_187 rfl (eaX1_reckon e39) (kO_at (kO_ap k41)) rfl rfl rfl ?_
            show mB _ mX6_near (78, [(0, .ref p0), (1, .int p1), (2, .int p2), (3, .int p3)], [], (o38 ++ R), 0, 0)
            refine mB_run odX6_near 1 (g := (79, [(0, .ref p0), (1, .int p1), (2, .int p2), (3, .int p3)], [.ref p0], (o38 ++ R), 0, 0)) rfl ?_
            obtain ⟨v42, e43, hq⟩ := bsm hq
            refine r_gR odX6_near rfl rfl (gR_ap e43) ?_
            refine mB_run odX6_near 1 (g := (83, [(0, .ref p0), (1, .int p1), (2, .int p2), (3, .int p3)], [.ref p0, .ref v42], (o38 ++ R), 0, 0)) rfl ?_
            obtain ⟨v44, e45, hq⟩ := bsm hq
            refine r_gR odX6_near rfl rfl (gR_ap e45) ?_
            obtain ⟨v46, e47, hq⟩ := bsm hq
            refine r_gJ odX6_near rfl rfl (gJ_ap e47) ?_
            refine mB_run odX6_near 1 (g := (90, [(0, .ref p0), (1, .int p1), (2, .int p2), (3, .int p3)], [.ref p0, .long v46, .ref v42], (o38 ++ R), 0, 0)) rfl ?_
            obtain ⟨v48, e49, hq⟩ := bsm hq
            refine r_gR odX6_near rfl rfl (gR_ap e49) ?_
            obtain ⟨v50, e51, hq⟩ := bsm hq
            refine r_gJ odX6_near rfl rfl (gJ_ap e51) ?_
            obtain ⟨f54, k55, hq⟩ := bsm hq
            obtain ⟨o52, e53, hq⟩ := bsm hq
            refine mB_V (as := [.long v46, .long v50]) odX6_near okX4_put lk_6_171 rfl (eaX4_put e53) (kO_at (kO_ap k55)) rfl rfl rfl ?_
            show mB _ mX6_near (99, [(0, .ref p0), (1, .int p1), (2, .int p2), (3, .int p3)], [], (o52 ++ R), 0, 0)
            refine mB_run odX6_near 1 (g := (100, [(0, .ref p0), (1, .int p1), (2, .int p2), (3, .int p3)], [.ref p0], (o52 ++ R), 0, 0)) rfl ?_
            obtain ⟨v56, e57, hq⟩ := bsm hq
            refine r_gR odX6_near rfl rfl (gR_ap e57) ?_
            refine mB_run odX6_near 1 (g := (104, [(0, .ref p0), (1, .int p1), (2, .int p2), (3, .int p3)], [.int p3, .ref v56], (o52 ++ R), 0, 0)) rfl ?_
            obtain ⟨f60, k61, hq⟩ := bsm hq
            obtain ⟨o58, e59, hq⟩ := bsm hq
            refine mB_V (as := [.int p3]) odX6_near okX4_part lk_6_174 rfl (eaX4_part e59) (kO_at (kO_ap k61)) rfl rfl rfl ?_
            show mB _ mX6_near (107, [(0, .ref p0), (1, .int p1), (2, .int p2), (3, .int p3)], [.long o58.2], (o58.1 ++ R), 0, 0)
            cases hq
            exact mB_ret odX6_near rfl
def fxX6_same (N : Nat) (p0 : Nat) (p1 : Int32) (p2 : Int32) (h : mh) : Option (mh × Int32) :=
  (fxX6_isSlot N p1 h).bind fun o1 =>
  if o1.2 = 0 then (
    some (o1.1, (-1 : Int32))) else (
    (fxX6_isSlot N p2 o1.1).bind fun o4 =>
    if o4.2 = 0 then (
      some (o4.1, (-1 : Int32))) else (
      (gR o4.1 p0 6 2).bind fun v7 =>
      (aR o4.1 v7 p1).bind fun v9 =>
      (gR o4.1 v9 0 1).bind fun v11 =>
      (gR o4.1 p0 6 2).bind fun v13 =>
      (aR o4.1 v13 p2).bind fun v15 =>
      (gR o4.1 v15 0 1).bind fun v17 =>
      (kO o4.1 v11 3).bind fun f21 =>
      (fxX3_isLike N v11 v17 o4.1).bind fun o19 =>
      if o19.2 = 0 then (
        some (o19.1, (0 : Int32))) else (
        some (o19.1, (1 : Int32)))))
set_option maxHeartbeats 4000000 in
set_option maxRecDepth 100000 in
theorem eaX6_same {N : Nat} {R : mh} {p0 : Nat} {p1 : Int32} {p2 : Int32} {h : mh} {o : (mh × Int32)} (hq : fxX6_same N p0 p1 p2 h = some o) : mC mX6_same [.ref p0, .int p1, .int p2] (h ++ R) (o.1 ++ R, some (.int o.2)) := by
  refine mC_of okX6_same (Nat.le_of_ble_eq_true rfl) ?_
  unfold fxX6_same at hq
  show mB _ mX6_same (0, [(0, .ref p0), (1, .int p1), (2, .int p2)], [], (h ++ R), 0, 0)
  refine mB_run odX6_same 1 (g := (1, [(0, .ref p0), (1, .int p1), (2, .int p2)], [.int p1], (h ++ R), 0, 0)) rfl ?_
  obtain ⟨o1, e2, hq⟩ := bsm hq
  refine mB_S (as := [.int p1]) odX6_same okX6_isSlot lk_6_79 rfl (eaX6_isSlot e2) rfl rfl rfl ?_
  show mB _ mX6_same (4, [(0, .ref p0), (1, .int p1), (2, .int p2)], [.int o1.2], (o1.1 ++ R), 0, 0)
  by_cases c3 : o1.2 = 0
  · rw [if_pos c3] at hq
    refine if_eq_T (t := 14) odX6_same rfl rfl c3 ?_
    refine mB_run odX6_same 1 (g := (15, [(0, .ref p0), (1, .int p1), (2, .int p2)], [.int (-1 : Int32)], (o1.1 ++ R), 0, 0)) rfl ?_
    cases hq
    exact mB_ret odX6_same rfl
  · rw [if_neg c3] at hq
    refine if_eq_F (t := 14) odX6_same rfl rfl c3 ?_
    refine mB_run odX6_same 1 (g := (8, [(0, .ref p0), (1, .int p1), (2, .int p2)], [.int p2], (o1.1 ++ R), 0, 0)) rfl ?_
    obtain ⟨o4, e5, hq⟩ := bsm hq
    refine mB_S (as := [.int p2]) odX6_same okX6_isSlot lk_6_79 rfl (eaX6_isSlot e5) rfl rfl rfl ?_
    show mB _ mX6_same (11, [(0, .ref p0), (1, .int p1), (2, .int p2)], [.int o4.2], (o4.1 ++ R), 0, 0)
    by_cases c6 : o4.2 = 0
    · rw [if_pos c6] at hq
      refine if_ne_F (t := 16) odX6_same rfl rfl c6 ?_
      refine mB_run odX6_same 1 (g := (15, [(0, .ref p0), (1, .int p1), (2, .int p2)], [.int (-1 : Int32)], (o4.1 ++ R), 0, 0)) rfl ?_
      cases hq
      exact mB_ret odX6_same rfl
    · rw [if_neg c6] at hq
      refine if_ne_T (t := 16) odX6_same rfl rfl c6 ?_
      refine mB_run odX6_same 1 (g := (17, [(0, .ref p0), (1, .int p1), (2, .int p2)], [.ref p0], (o4.1 ++ R), 0, 0)) rfl ?_
      obtain ⟨v7, e8, hq⟩ := bsm hq
      refine r_gR odX6_same rfl rfl (gR_ap e8) ?_
      refine mB_run odX6_same 1 (g := (21, [(0, .ref p0), (1, .int p1), (2, .int p2)], [.int p1, .ref v7], (o4.1 ++ R), 0, 0)) rfl ?_
      obtain ⟨v9, e10, hq⟩ := bsm hq
      refine r_aR odX6_same rfl (aR_ap e10) ?_
      obtain ⟨v11, e12, hq⟩ := bsm hq
      refine r_gR odX6_same rfl rfl (gR_ap e12) ?_
      refine mB_run odX6_same 1 (g := (26, [(0, .ref p0), (1, .int p1), (2, .int p2)], [.ref p0, .ref v11], (o4.1 ++ R), 0, 0)) rfl ?_
      obtain ⟨v13, e14, hq⟩ := bsm hq
      refine r_gR odX6_same rfl rfl (gR_ap e14) ?_
      refine mB_run odX6_same 1 (g := (30, [(0, .ref p0), (1, .int p1), (2, .int p2)], [.int p2, .ref v13, .ref v11], (o4.1 ++ R), 0, 0)) rfl ?_
      obtain ⟨v15, e16, hq⟩ := bsm hq
      refine r_aR odX6_same rfl (aR_ap e16) ?_
      obtain ⟨v17, e18, hq⟩ := bsm hq
      refine r_gR odX6_same rfl rfl (gR_ap e18) ?_
      obtain ⟨f21, k22, hq⟩ := bsm hq
      obtain ⟨o19, e20, hq⟩ := bsm hq
      refine mB_V (as := [.ref v17]) odX6_same okX3_isLike lk_6_198 rfl (eaX3_isLike e20) (kO_at (kO_ap k22)) rfl rfl rfl ?_
      show mB _ mX6_same (37, [(0, .ref p0), (1, .int p1), (2, .int p2)], [.int o19.2], (o19.1 ++ R), 0, 0)
      by_cases c23 : o19.2 = 0
      · rw [if_pos c23] at hq
        refine if_eq_T (t := 44) odX6_same rfl rfl c23 ?_
        refine mB_run odX6_same 1 (g := (45, [(0, .ref p0), (1, .int p1), (2, .int p2)], [.int (0 : Int32)], (o19.1 ++ R), 0, 0)) rfl ?_
        cases hq
        exact mB_ret odX6_same rfl
      · rw [if_neg c23] at hq
        refine if_eq_F (t := 44) odX6_same rfl rfl c23 ?_
        refine mB_run odX6_same 2 (g := (45, [(0, .ref p0), (1, .int p1), (2, .int p2)], [.int (1 : Int32)], (o19.1 ++ R), 0, 0)) rfl ?_
        cases hq
        exact mB_ret odX6_same rfl
def fxX6_move_75 (N : Nat) (x0 : Nat) (x1 : Int32) (x2 : Int32) (x3 : Int32) (x4 : Int32) (x5 : Nat) (h : mh) : Option (mh × Int32) :=
  (gR h x0 6 9).bind fun v23 =>
  (kO h v23 3).bind fun f27 =>
  (fxX3_clear N v23 h).bind fun o25 =>
  (gR o25 x0 6 9).bind fun v29 =>
  (kO o25 v29 3).bind fun f33 =>
  (fxX3_put N v29 x2 x3 x4 o25).bind fun o31 =>
  (gR o31 x0 6 9).bind fun v35 =>
  (kO o31 x0 6).bind fun f39 =>
  (fxX6_become N x0 x1 x5 v35 o31).bind fun o37 =>
  if o37.2 = (-2 : Int32) then (
    some (o37.1, (0 : Int32))) else (
    some (o37.1, (1 : Int32)))
set_option maxHeartbeats 4000000 in
set_option maxRecDepth 100000 in
theorem eaX6_move_75 {N : Nat} {R : mh} (x0 : Nat) (x1 : Int32) (x2 : Int32) (x3 : Int32) (x4 : Int32) (x5 : Nat) (h : mh) {o : (mh × Int32)} (hq : fxX6_move_75 N x0 x1 x2 x3 x4 x5 h = some o) : mB (gO mX6_move (o.1 ++ R, some (.int o.2))) mX6_move (75, [(0, .ref x0), (1, .int x1), (2, .int x2), (3, .int x3), (4, .int x4), (5, .ref x5)], [], (h ++ R), 0, 0) := by
  unfold fxX6_move_75 at hq
  refine mB_run odX6_move 1 (g := (76, [(0, .ref x0), (1, .int x1), (2, .int x2), (3, .int x3), (4, .int x4), (5, .ref x5)], [.ref x0], (h ++ R), 0, 0)) rfl ?_
  obtain ⟨v23, e24, hq⟩ := bsm hq
  refine r_gR odX6_move rfl rfl (gR_ap e24) ?_
  obtain ⟨f27, k28, hq⟩ := bsm hq
  obtain ⟨o25, e26, hq⟩ := bsm hq
  refine mB_V (as := []) odX6_move okX3_clear lk_6_83 rfl (eaX3_clear e26) (kO_at (kO_ap k28)) rfl rfl rfl ?_
  show mB _ mX6_move (82, [(0, .ref x0), (1, .int x1), (2, .int x2), (3, .int x3), (4, .int x4), (5, .ref x5)], [], (o25 ++ R), 0, 0)
  refine mB_run odX6_move 1 (g := (83, [(0, .ref x0), (1, .int x1), (2, .int x2), (3, .int x3), (4, .int x4), (5, .ref x5)], [.ref x0], (o25 ++ R), 0, 0)) rfl ?_
  obtain ⟨v29, e30, hq⟩ := bsm hq
  refine r_gR odX6_move rfl rfl (gR_ap e30) ?_
  refine mB_run odX6_move 3 (g := (90, [(0, .ref x0), (1, .int x1), (2, .int x2), (3, .int x3), (4, .int x4), (5, .ref x5)], [.int x4, .int x3, .int x2, .ref v29], (o25 ++ R), 0, 0)) rfl ?_
  obtain ⟨f33, k34, hq⟩ := bsm hq
  obtain ⟨o31, e32, hq⟩ := bsm hq
  refine mB_V (as := [.int x2, .int x3, .int x4]) odX6_move okX3_put lk_6_75 rfl (eaX3_put e32) (kO_at (kO_ap k34)) rfl rfl rfl ?_
  show mB _ mX6_move (93, [(0, .ref x0), (1, .int x1), (2, .int x2), (3, .int x3), (4, .int x4), (5, .ref x5)], [], (o31 ++ R), 0, 0)
  refine mB_run odX6_move 4 (g := (98, [(0, .ref x0), (1, .int x1), (2, .int x2), (3, .int x3), (4, .int x4), (5, .ref x5)], [.ref x0, .ref x5, .int x1, .ref x0], (o31 ++ R), 0, 0)) rfl ?_
  obtain ⟨v35, e36, hq⟩ := bsm hq
  refine r_gR odX6_move rfl rfl (gR_ap e36) ?_
  obtain ⟨f39, k40, hq⟩ := bsm hq
  obtain ⟨o37, e38, hq⟩ := bsm hq
  refine mB_V (as := [.int x1, .ref x5, .ref v35]) odX6_move okX6_become lk_6_94 rfl (eaX6_become e38) (kO_at (kO_ap k40)) rfl rfl rfl ?_
  show mB _ mX6_move (104, [(0, .ref x0), (1, .int x1), (2, .int x2), (3, .int x3), (4, .int x4), (5, .ref x5)], [.int o37.2], (o37.1 ++ R), 0, 0)
  refine mB_run odX6_move 1 (g := (106, [(0, .ref x0), (1, .int x1), (2, .int x2), (3, .int x3), (4, .int x4), (5, .ref x5)], [.int (-2 : Int32), .int o37.2], (o37.1 ++ R), 0, 0)) rfl ?_
  by_cases c41 : o37.2 = (-2 : Int32)
  · rw [if_pos c41] at hq
    refine ic_eq_T (t := 113) odX6_move rfl rfl c41 ?_
    refine mB_run odX6_move 1 (g := (114, [(0, .ref x0), (1, .int x1), (2, .int x2), (3, .int x3), (4, .int x4), (5, .ref x5)], [.int (0 : Int32)], (o37.1 ++ R), 0, 0)) rfl ?_
    cases hq
    exact mB_ret odX6_move rfl
  · rw [if_neg c41] at hq
    refine ic_eq_F (t := 113) odX6_move rfl rfl c41 ?_
    refine mB_run odX6_move 2 (g := (114, [(0, .ref x0), (1, .int x1), (2, .int x2), (3, .int x3), (4, .int x4), (5, .ref x5)], [.int (1 : Int32)], (o37.1 ++ R), 0, 0)) rfl ?_
    cases hq
    exact mB_ret odX6_move rfl
def fxX6_move_58 (N : Nat) (x0 : Nat) (x1 : Int32) (x2 : Int32) (x3 : Int32) (x4 : Int32) (x5 : Nat) (s0 : Int32) (h : mh) : Option (mh × Int32) :=
  (gI h x5 3 0).bind fun v19 =>
  if v19 ≤ 0 then (
    fxX6_move_75 N x0 x1 x2 x3 x4 x5 h) else (
    if s0 = 0 then (
      some (h, (0 : Int32))) else (
      fxX6_move_75 N x0 x1 x2 x3 x4 x5 h))
set_option maxHeartbeats 4000000 in
set_option maxRecDepth 100000 in
theorem eaX6_move_58 {N : Nat} {R : mh} (x0 : Nat) (x1 : Int32) (x2 : Int32) (x3 : Int32) (x4 : Int32) (x5 : Nat) (s0 : Int32) (h : mh) {o : (mh × Int32)} (hq : fxX6_move_58 N x0 x1 x2 x3 x4 x5 s0 h = some o) : mB (gO mX6_move (o.1 ++ R, some (.int o.2))) mX6_move (58, [(0, .ref x0), (1, .int x1), (2, .int x2), (3, .int x3), (4, .int x4), (5, .ref x5)], [.int s0], (h ++ R), 0, 0) := by
  unfold fxX6_move_58 at hq
  refine mB_run odX6_move 2 (g := (62, [(7, .int s0), (0, .ref x0), (1, .int x1), (2, .int x2), (3, .int x3), (4, .int x4), (5, .ref x5)], [.ref x5], (h ++ R), 0, 0)) rfl ?_
  obtain ⟨v19, e20, hq⟩ := bsm hq
  refine r_gI odX6_move rfl rfl (gI_ap e20) ?_
  by_cases c21 : v19 ≤ 0
  · rw [if_pos c21] at hq
    refine if_le_T (t := 75) odX6_move rfl rfl c21 ?_
    refine mB_lv [1, 2, 3, 4, 5, 6] (lv' := [(0, .ref x0), (1, .int x1), (2, .int x2), (3, .int x3), (4, .int x4), (5, .ref x5)]) rfl ?_
    exact eaX6_move_75 _ _ _ _ _ _ _ hq
  · rw [if_neg c21] at hq
    refine if_le_F (t := 75) odX6_move rfl rfl c21 ?_
    refine mB_run odX6_move 1 (g := (70, [(7, .int s0), (0, .ref x0), (1, .int x1), (2, .int x2), (3, .int x3), (4, .int x4), (5, .ref x5)], [.int s0], (h ++ R), 0, 0)) rfl ?_
    by_cases c22 : s0 = 0
    · rw [if_pos c22] at hq
      refine if_ne_F (t := 75) odX6_move rfl rfl c22 ?_
      refine mB_run odX6_move 1 (g := (74, [(7, .int s0), (0, .ref x0), (1, .int x1), (2, .int x2), (3, .int x3), (4, .int x4), (5, .ref x5)], [.int (0 : Int32)], (h ++ R), 0, 0)) rfl ?_
      cases hq
      exact mB_ret odX6_move rfl
    · rw [if_neg c22] at hq
      refine if_ne_T (t := 75) odX6_move rfl rfl c22 ?_
      refine mB_lv [1, 2, 3, 4, 5, 6] (lv' := [(0, .ref x0), (1, .int x1), (2, .int x2), (3, .int x3), (4, .int x4), (5, .ref x5)]) rfl ?_
      exact eaX6_move_75 _ _ _ _ _ _ _ hq
def fxX6_move_57 (N : Nat) (x0 : Nat) (x1 : Int32) (x2 : Int32) (x3 : Int32) (x4 : Int32) (x5 : Nat) (h : mh) : Option (mh × Int32) :=
  fxX6_move_58 N x0 x1 x2 x3 x4 x5 (0 : Int32) h
set_option maxHeartbeats 4000000 in
set_option maxRecDepth 100000 in
theorem eaX6_move_57 {N : Nat} {R : mh} (x0 : Nat) (x1 : Int32) (x2 : Int32) (x3 : Int32) (x4 : Int32) (x5 : Nat) (h : mh) {o : (mh × Int32)} (hq : fxX6_move_57 N x0 x1 x2 x3 x4 x5 h = some o) : mB (gO mX6_move (o.1 ++ R, some (.int o.2))) mX6_move (57, [(0, .ref x0), (1, .int x1), (2, .int x2), (3, .int x3), (4, .int x4), (5, .ref x5)], [], (h ++ R), 0, 0) := by
  unfold fxX6_move_57 at hq
  refine mB_run odX6_move 1 (g := (58, [(0, .ref x0), (1, .int x1), (2, .int x2), (3, .int x3), (4, .int x4), (5, .ref x5)], [.int (0 : Int32)], (h ++ R), 0, 0)) rfl ?_
  refine mB_lv [0, 1, 2, 3, 4, 5] (lv' := [(0, .ref x0), (1, .int x1), (2, .int x2), (3, .int x3), (4, .int x4), (5, .ref x5)]) rfl ?_
  exact eaX6_move_58 _ _ _ _ _ _ _ _ hq
def fxX6_move (N : Nat) (p0 : Nat) (p1 : Int32) (p2 : Int32) (p3 : Int32) (p4 : Int32) (h : mh) : Option (mh × Int32) :=
  (fxX6_isSlot N p1 h).bind fun o1 =>
  if o1.2 = 0 then (
    some (o1.1, (0 : Int32))) else (
    (gR o1.1 p0 6 2).bind fun v4 =>
    (aR o1.1 v4 p1).bind fun v6 =>
    (gR o1.1 v6 0 1).bind fun v8 =>
    (fxX6_isWithin N p2 (200 : Int32) o1.1).bind fun o10 =>
    if o10.2 = 0 then (
      fxX6_move_57 N p0 p1 p2 p3 p4 v8 o10.1) else (
      (fxX6_isWithin N p3 (200 : Int32) o10.1).bind fun o13 =>
      if o13.2 = 0 then (
        fxX6_move_57 N p0 p1 p2 p3 p4 v8 o13.1) else (
        (fxX6_isWithin N p4 (200 : Int32) o13.1).bind fun o16 =>
        if o16.2 = 0 then (
          fxX6_move_57 N p0 p1 p2 p3 p4 v8 o16.1) else (
          fxX6_move_58 N p0 p1 p2 p3 p4 v8 (1 : Int32) o16.1))))
set_option maxHeartbeats 4000000 in
set_option maxRecDepth 100000 in
theorem eaX6_move {N : Nat} {R : mh} {p0 : Nat} {p1 : Int32} {p2 : Int32} {p3 : Int32} {p4 : Int32} {h : mh} {o : (mh × Int32)} (hq : fxX6_move N p0 p1 p2 p3 p4 h = some o) : mC mX6_move [.ref p0, .int p1, .int p2, .int p3, .int p4] (h ++ R) (o.1 ++ R, some (.int o.2)) := by
  refine mC_of okX6_move (Nat.le_of_ble_eq_true rfl) ?_
  unfold fxX6_move at hq
  show mB _ mX6_move (0, [(0, .ref p0), (1, .int p1), (2, .int p2), (3, .int p3), (4, .int p4)], [], (h ++ R), 0, 0)
  refine mB_run odX6_move 1 (g := (1, [(0, .ref p0), (1, .int p1), (2, .int p2), (3, .int p3), (4, .int p4)], [.int p1], (h ++ R), 0, 0)) rfl ?_
  obtain ⟨o1, e2, hq⟩ := bsm hq
  refine mB_S (as := [.int p1]) odX6_move okX6_isSlot lk_6_79 rfl (eaX6_isSlot e2) rfl rfl rfl ?_
  show mB _ mX6_move (4, [(0, .ref p0), (1, .int p1), (2, .int p2), (3, .int p3), (4, .int p4)], [.int o1.2], (o1.1 ++ R), 0, 0)
  by_cases c3 : o1.2 = 0
  · rw [if_pos c3] at hq
    refine if_ne_F (t := 9) odX6_move rfl rfl c3 ?_
    refine mB_run odX6_move 1 (g := (8, [(0, .ref p0), (1, .int p1), (2, .int p2), (3, .int p3), (4, .int p4)], [.int (0 : Int32)], (o1.1 ++ R), 0, 0)) rfl ?_
    cases hq
    exact mB_ret odX6_move rfl
  · rw [if_neg c3] at hq
    refine if_ne_T (t := 9) odX6_move rfl rfl c3 ?_
    refine mB_run odX6_move 1 (g := (10, [(0, .ref p0), (1, .int p1), (2, .int p2), (3, .int p3), (4, .int p4)], [.ref p0], (o1.1 ++ R), 0, 0)) rfl ?_
    obtain ⟨v4, e5, hq⟩ := bsm hq
    refine r_gR odX6_move rfl rfl (gR_ap e5) ?_
    refine mB_run odX6_move 1 (g := (14, [(0, .ref p0), (1, .int p1), (2, .int p2), (3, .int p3), (4, .int p4)], [.int p1, .ref v4], (o1.1 ++ R), 0, 0)) rfl ?_
    obtain ⟨v6, e7, hq⟩ := bsm hq
    refine r_aR odX6_move rfl (aR_ap e7) ?_
    obtain ⟨v8, e9, hq⟩ := bsm hq
    refine r_gR odX6_move rfl rfl (gR_ap e9) ?_
    refine mB_run odX6_move 5 (g := (28, [(6, .int (200 : Int32)), (5, .ref v8), (0, .ref p0), (1, .int p1), (2, .int p2), (3, .int p3), (4, .int p4)], [.int (200 : Int32), .int p2], (o1.1 ++ R), 0, 0)) rfl ?_
    obtain ⟨o10, e11, hq⟩ := bsm hq
    refine mB_S (as := [.int p2, .int (200 : Int32)]) odX6_move okX6_isWithin lk_6_145 rfl (eaX6_isWithin e11) rfl rfl rfl ?_
    show mB _ mX6_move (31, [(6, .int (200 : Int32)), (5, .ref v8), (0, .ref p0), (1, .int p1), (2, .int p2), (3, .int p3), (4, .int p4)], [.int o10.2], (o10.1 ++ R), 0, 0)
    by_cases c12 : o10.2 = 0
    · rw [if_pos c12] at hq
      refine if_eq_T (t := 57) odX6_move rfl rfl c12 ?_
      refine mB_lv [2, 3, 4, 5, 6, 1] (lv' := [(0, .ref p0), (1, .int p1), (2, .int p2), (3, .int p3), (4, .int p4), (5, .ref v8)]) rfl ?_
      exact eaX6_move_57 _ _ _ _ _ _ _ hq
    · rw [if_neg c12] at hq
      refine if_eq_F (t := 57) odX6_move rfl rfl c12 ?_
      refine mB_run odX6_move 2 (g := (37, [(6, .int (200 : Int32)), (5, .ref v8), (0, .ref p0), (1, .int p1), (2, .int p2), (3, .int p3), (4, .int p4)], [.int (200 : Int32), .int p3], (o10.1 ++ R), 0, 0)) rfl ?_
      obtain ⟨o13, e14, hq⟩ := bsm hq
      refine mB_S (as := [.int p3, .int (200 : Int32)]) odX6_move okX6_isWithin lk_6_145 rfl (eaX6_isWithin e14) rfl rfl rfl ?_
      show mB _ mX6_move (40, [(6, .int (200 : Int32)), (5, .ref v8), (0, .ref p0), (1, .int p1), (2, .int p2), (3, .int p3), (4, .int p4)], [.int o13.2], (o13.1 ++ R), 0, 0)
      by_cases c15 : o13.2 = 0
      · rw [if_pos c15] at hq
        refine if_eq_T (t := 57) odX6_move rfl rfl c15 ?_
        refine mB_lv [2, 3, 4, 5, 6, 1] (lv' := [(0, .ref p0), (1, .int p1), (2, .int p2), (3, .int p3), (4, .int p4), (5, .ref v8)]) rfl ?_
        exact eaX6_move_57 _ _ _ _ _ _ _ hq
      · rw [if_neg c15] at hq
        refine if_eq_F (t := 57) odX6_move rfl rfl c15 ?_
        refine mB_run odX6_move 2 (g := (47, [(6, .int (200 : Int32)), (5, .ref v8), (0, .ref p0), (1, .int p1), (2, .int p2), (3, .int p3), (4, .int p4)], [.int (200 : Int32), .int p4], (o13.1 ++ R), 0, 0)) rfl ?_
        obtain ⟨o16, e17, hq⟩ := bsm hq
        refine mB_S (as := [.int p4, .int (200 : Int32)]) odX6_move okX6_isWithin lk_6_145 rfl (eaX6_isWithin e17) rfl rfl rfl ?_
        show mB _ mX6_move (50, [(6, .int (200 : Int32)), (5, .ref v8), (0, .ref p0), (1, .int p1), (2, .int p2), (3, .int p3), (4, .int p4)], [.int o16.2], (o16.1 ++ R), 0, 0)
        by_cases c18 : o16.2 = 0
        · rw [if_pos c18] at hq
          refine if_eq_T (t := 57) odX6_move rfl rfl c18 ?_
          refine mB_lv [2, 3, 4, 5, 6, 1] (lv' := [(0, .ref p0), (1, .int p1), (2, .int p2), (3, .int p3), (4, .int p4), (5, .ref v8)]) rfl ?_
          exact eaX6_move_57 _ _ _ _ _ _ _ hq
        · rw [if_neg c18] at hq
          refine if_eq_F (t := 57) odX6_move rfl rfl c18 ?_
          refine mB_run odX6_move 2 (g := (58, [(6, .int (200 : Int32)), (5, .ref v8), (0, .ref p0), (1, .int p1), (2, .int p2), (3, .int p3), (4, .int p4)], [.int (1 : Int32)], (o16.1 ++ R), 0, 0)) rfl ?_
          refine mB_lv [2, 3, 4, 5, 6, 1] (lv' := [(0, .ref p0), (1, .int p1), (2, .int p2), (3, .int p3), (4, .int p4), (5, .ref v8)]) rfl ?_
          exact eaX6_move_58 _ _ _ _ _ _ _ _ hq
def fxX6_mirror_88 (N : Nat) : Nat → Nat → Int32 → Nat → Int32 → Int32 → Int32 → Int32 → mh → Option (mh × Int32)
  | 0, _, _, _, _, _, _, _, _ => none
  | n + 1, x0, x1, x3, x4, x5, x6, x7, h =>
    (gI h x3 3 0).bind fun v24 =>
    if v24 ≤ x7 then (
      (gR h x0 6 7).bind fun v27 =>
      (gR h x0 6 8).bind fun v29 =>
      (kO h x0 6).bind fun f33 =>
      (fxX6_become N x0 x1 v27 v29 h).bind fun o31 =>
      some (o31.1, (1 : Int32))) else (
      (gR h x0 6 7).bind fun v35 =>
      (gR h x3 3 1).bind fun v37 =>
      (aI h v37 x7).bind fun v39 =>
      (gR h x3 3 2).bind fun v41 =>
      (aI h v41 x7).bind fun v43 =>
      (gR h x3 3 3).bind fun v45 =>
      (aI h v45 x7).bind fun v47 =>
      (kO h v35 3).bind fun f51 =>
      (fxX3_put N v35 (x4 * v39) (x5 * v43) (x6 * v47) h).bind fun o49 =>
      fxX6_mirror_88 N n x0 x1 x3 x4 x5 x6 (x7 + (1 : Int32)) o49)
set_option maxHeartbeats 4000000 in
set_option maxRecDepth 100000 in
theorem eaX6_mirror_88 {N : Nat} {R : mh} : ∀ (n : Nat) (x0 : Nat) (x1 : Int32) (x3 : Nat) (x4 : Int32) (x5 : Int32) (x6 : Int32) (x7 : Int32) (h : mh) {o : (mh × Int32)}, fxX6_mirror_88 N n x0 x1 x3 x4 x5 x6 x7 h = some o → mB (gO mX6_mirror (o.1 ++ R, some (.int o.2))) mX6_mirror (88, [(0, .ref x0), (1, .int x1), (3, .ref x3), (4, .int x4), (5, .int x5), (6, .int x6), (7, .int x7)], [], (h ++ R), 0, 0) := by
  intro n
  induction n with
  | zero => intro x0 x1 x3 x4 x5 x6 x7 h o hq; cases hq
  | succ n ih =>
    intro x0 x1 x3 x4 x5 x6 x7 h o hq
    unfold fxX6_mirror_88 at hq
    refine mB_run odX6_mirror 2 (g := (91, [(0, .ref x0), (1, .int x1), (3, .ref x3), (4, .int x4), (5, .int x5), (6, .int x6), (7, .int x7)], [.ref x3, .int x7], (h ++ R), 0, 0)) rfl ?_
    obtain ⟨v24, e25, hq⟩ := bsm hq
    refine r_gI odX6_mirror rfl rfl (gI_ap e25) ?_
    by_cases c26 : v24 ≤ x7
    · rw [if_pos c26] at hq
      refine ic_ge_T (t := 140) odX6_mirror rfl rfl c26 ?_
      refine mB_run odX6_mirror 3 (g := (143, [(0, .ref x0), (1, .int x1), (3, .ref x3), (4, .int x4), (5, .int x5), (6, .int x6), (7, .int x7)], [.ref x0, .int x1, .ref x0], (h ++ R), 0, 0)) rfl ?_
      obtain ⟨v27, e28, hq⟩ := bsm hq
      refine r_gR odX6_mirror rfl rfl (gR_ap e28) ?_
      refine mB_run odX6_mirror 1 (g := (147, [(0, .ref x0), (1, .int x1), (3, .ref x3), (4, .int x4), (5, .int x5), (6, .int x6), (7, .int x7)], [.ref x0, .ref v27, .int x1, .ref x0], (h ++ R), 0, 0)) rfl ?_
      obtain ⟨v29, e30, hq⟩ := bsm hq
      refine r_gR odX6_mirror rfl rfl (gR_ap e30) ?_
      obtain ⟨f33, k34, hq⟩ := bsm hq
      obtain ⟨o31, e32, hq⟩ := bsm hq
      refine mB_V (as := [.int x1, .ref v27, .ref v29]) odX6_mirror okX6_become lk_6_94 rfl (eaX6_become e32) (kO_at (kO_ap k34)) rfl rfl rfl ?_
      show mB _ mX6_mirror (153, [(0, .ref x0), (1, .int x1), (3, .ref x3), (4, .int x4), (5, .int x5), (6, .int x6), (7, .int x7)], [.int o31.2], (o31.1 ++ R), 0, 0)
      refine mB_run odX6_mirror 2 (g := (155, [(0, .ref x0), (1, .int x1), (3, .ref x3), (4, .int x4), (5, .int x5), (6, .int x6), (7, .int x7)], [.int (1 : Int32)], (o31.1 ++ R), 0, 0)) rfl ?_
      cases hq
      exact mB_ret odX6_mirror rfl
    · rw [if_neg c26] at hq
      refine ic_ge_F (t := 140) odX6_mirror rfl rfl c26 ?_
      refine mB_run odX6_mirror 1 (g := (98, [(0, .ref x0), (1, .int x1), (3, .ref x3), (4, .int x4), (5, .int x5), (6, .int x6), (7, .int x7)], [.ref x0], (h ++ R), 0, 0)) rfl ?_
      obtain ⟨v35, e36, hq⟩ := bsm hq
      refine r_gR odX6_mirror rfl rfl (gR_ap e36) ?_
      refine mB_run odX6_mirror 2 (g := (104, [(0, .ref x0), (1, .int x1), (3, .ref x3), (4, .int x4), (5, .int x5), (6, .int x6), (7, .int x7)], [.ref x3, .int x4, .ref v35], (h ++ R), 0, 0)) rfl ?_
      obtain ⟨v37, e38, hq⟩ := bsm hq
      refine r_gR odX6_mirror rfl rfl (gR_ap e38) ?_
      refine mB_run odX6_mirror 1 (g := (109, [(0, .ref x0), (1, .int x1), (3, .ref x3), (4, .int x4), (5, .int x5), (6, .int x6), (7, .int x7)], [.int x7, .ref v37, .int x4, .ref v35], (h ++ R), 0, 0)) rfl ?_
      obtain ⟨v39, e40, hq⟩ := bsm hq
      refine r_aI odX6_mirror rfl (aI_ap e40) ?_
      refine mB_run odX6_mirror 3 (g := (114, [(0, .ref x0), (1, .int x1), (3, .ref x3), (4, .int x4), (5, .int x5), (6, .int x6), (7, .int x7)], [.ref x3, .int x5, .int (x4 * v39), .ref v35], (h ++ R), 0, 0)) rfl ?_
      obtain ⟨v41, e42, hq⟩ := bsm hq
      refine r_gR odX6_mirror rfl rfl (gR_ap e42) ?_
      refine mB_run odX6_mirror 1 (g := (119, [(0, .ref x0), (1, .int x1), (3, .ref x3), (4, .int x4), (5, .int x5), (6, .int x6), (7, .int x7)], [.int x7, .ref v41, .int x5, .int (x4 * v39), .ref v35], (h ++ R), 0, 0)) rfl ?_
      obtain ⟨v43, e44, hq⟩ := bsm hq
      refine r_aI odX6_mirror rfl (aI_ap e44) ?_
      refine mB_run odX6_mirror 3 (g := (124, [(0, .ref x0), (1, .int x1), (3, .ref x3), (4, .int x4), (5, .int x5), (6, .int x6), (7, .int x7)], [.ref x3, .int x6, .int (x5 * v43), .int (x4 * v39), .ref v35], (h ++ R), 0, 0)) rfl ?_
      obtain ⟨v45, e46, hq⟩ := bsm hq
      refine r_gR odX6_mirror rfl rfl (gR_ap e46) ?_
      refine mB_run odX6_mirror 1 (g := (129, [(0, .ref x0), (1, .int x1), (3, .ref x3), (4, .int x4), (5, .int x5), (6, .int x6), (7, .int x7)], [.int x7, .ref v45, .int x6, .int (x5 * v43), .int (x4 * v39), .ref v35], (h ++ R), 0, 0)) rfl ?_
      obtain ⟨v47, e48, hq⟩ := bsm hq
      refine r_aI odX6_mirror rfl (aI_ap e48) ?_
      refine mB_run odX6_mirror 1 (g := (131, [(0, .ref x0), (1, .int x1), (3, .ref x3), (4, .int x4), (5, .int x5), (6, .int x6), (7, .int x7)], [.int (x6 * v47), .int (x5 * v43), .int (x4 * v39), .ref v35], (h ++ R), 0, 0)) rfl ?_
      obtain ⟨f51, k52, hq⟩ := bsm hq
      obtain ⟨o49, e50, hq⟩ := bsm hq
      refine mB_V (as := [.int (x4 * v39), .int (x5 * v43), .int (x6 * v47)]) odX6_mirror okX3_put lk_6_75 rfl (eaX3_put e50) (kO_at (kO_ap k52)) rfl rfl rfl ?_
      show mB _ mX6_mirror (134, [(0, .ref x0), (1, .int x1), (3, .ref x3), (4, .int x4), (5, .int x5), (6, .int x6), (7, .int x7)], [], (o49 ++ R), 0, 0)
      refine mB_run odX6_mirror 2 (g := (88, [(7, .int (x7 + (1 : Int32))), (0, .ref x0), (1, .int x1), (3, .ref x3), (4, .int x4), (5, .int x5), (6, .int x6)], [], (o49 ++ R), 0, 0)) rfl ?_
      refine mB_lv [1, 2, 3, 4, 5, 6, 0] (lv' := [(0, .ref x0), (1, .int x1), (3, .ref x3), (4, .int x4), (5, .int x5), (6, .int x6), (7, .int (x7 + (1 : Int32)))]) rfl ?_
      exact ih _ _ _ _ _ _ _ _ hq
def fxX6_mirror_76 (N : Nat) (x0 : Nat) (x1 : Int32) (x3 : Nat) (x4 : Int32) (x5 : Int32) (s0 : Int32) (h : mh) : Option (mh × Int32) :=
  (gR h x0 6 7).bind fun v18 =>
  (kO h v18 3).bind fun f22 =>
  (fxX3_clear N v18 h).bind fun o20 =>
  fxX6_mirror_88 N N x0 x1 x3 x4 x5 s0 (0 : Int32) o20
set_option maxHeartbeats 4000000 in
set_option maxRecDepth 100000 in
theorem eaX6_mirror_76 {N : Nat} {R : mh} (x0 : Nat) (x1 : Int32) (x3 : Nat) (x4 : Int32) (x5 : Int32) (s0 : Int32) (h : mh) {o : (mh × Int32)} (hq : fxX6_mirror_76 N x0 x1 x3 x4 x5 s0 h = some o) : mB (gO mX6_mirror (o.1 ++ R, some (.int o.2))) mX6_mirror (76, [(0, .ref x0), (1, .int x1), (3, .ref x3), (4, .int x4), (5, .int x5)], [.int s0], (h ++ R), 0, 0) := by
  unfold fxX6_mirror_76 at hq
  refine mB_run odX6_mirror 2 (g := (79, [(6, .int s0), (0, .ref x0), (1, .int x1), (3, .ref x3), (4, .int x4), (5, .int x5)], [.ref x0], (h ++ R), 0, 0)) rfl ?_
  obtain ⟨v18, e19, hq⟩ := bsm hq
  refine r_gR odX6_mirror rfl rfl (gR_ap e19) ?_
  obtain ⟨f22, k23, hq⟩ := bsm hq
  obtain ⟨o20, e21, hq⟩ := bsm hq
  refine mB_V (as := []) odX6_mirror okX3_clear lk_6_83 rfl (eaX3_clear e21) (kO_at (kO_ap k23)) rfl rfl rfl ?_
  show mB _ mX6_mirror (85, [(6, .int s0), (0, .ref x0), (1, .int x1), (3, .ref x3), (4, .int x4), (5, .int x5)], [], (o20 ++ R), 0, 0)
  refine mB_run odX6_mirror 2 (g := (88, [(7, .int (0 : Int32)), (6, .int s0), (0, .ref x0), (1, .int x1), (3, .ref x3), (4, .int x4), (5, .int x5)], [], (o20 ++ R), 0, 0)) rfl ?_
  refine mB_lv [2, 3, 4, 5, 6, 1, 0] (lv' := [(0, .ref x0), (1, .int x1), (3, .ref x3), (4, .int x4), (5, .int x5), (6, .int s0), (7, .int (0 : Int32))]) rfl ?_
  exact eaX6_mirror_88 N _ _ _ _ _ _ _ _ hq
def fxX6_mirror_71 (N : Nat) (x0 : Nat) (x1 : Int32) (x3 : Nat) (x4 : Int32) (x5 : Int32) (h : mh) : Option (mh × Int32) :=
  fxX6_mirror_76 N x0 x1 x3 x4 x5 (-1 : Int32) h
set_option maxHeartbeats 4000000 in
set_option maxRecDepth 100000 in
theorem eaX6_mirror_71 {N : Nat} {R : mh} (x0 : Nat) (x1 : Int32) (x3 : Nat) (x4 : Int32) (x5 : Int32) (h : mh) {o : (mh × Int32)} (hq : fxX6_mirror_71 N x0 x1 x3 x4 x5 h = some o) : mB (gO mX6_mirror (o.1 ++ R, some (.int o.2))) mX6_mirror (71, [(0, .ref x0), (1, .int x1), (3, .ref x3), (4, .int x4), (5, .int x5)], [], (h ++ R), 0, 0) := by
  unfold fxX6_mirror_71 at hq
  refine mB_run odX6_mirror 2 (g := (76, [(0, .ref x0), (1, .int x1), (3, .ref x3), (4, .int x4), (5, .int x5)], [.int (-1 : Int32)], (h ++ R), 0, 0)) rfl ?_
  refine mB_lv [0, 1, 2, 3, 4] (lv' := [(0, .ref x0), (1, .int x1), (3, .ref x3), (4, .int x4), (5, .int x5)]) rfl ?_
  exact eaX6_mirror_76 _ _ _ _ _ _ _ hq
def fxX6_mirror_59 (N : Nat) (x0 : Nat) (x1 : Int32) (x2 : Int32) (x3 : Nat) (x4 : Int32) (s0 : Int32) (h : mh) : Option (mh × Int32) :=
  if x2 = (2 : Int32) then (
    fxX6_mirror_71 N x0 x1 x3 x4 s0 h) else (
    if x2 = (3 : Int32) then (
      fxX6_mirror_71 N x0 x1 x3 x4 s0 h) else (
      fxX6_mirror_76 N x0 x1 x3 x4 s0 (1 : Int32) h))
set_option maxHeartbeats 4000000 in
set_option maxRecDepth 100000 in
theorem eaX6_mirror_59 {N : Nat} {R : mh} (x0 : Nat) (x1 : Int32) (x2 : Int32) (x3 : Nat) (x4 : Int32) (s0 : Int32) (h : mh) {o : (mh × Int32)} (hq : fxX6_mirror_59 N x0 x1 x2 x3 x4 s0 h = some o) : mB (gO mX6_mirror (o.1 ++ R, some (.int o.2))) mX6_mirror (59, [(0, .ref x0), (1, .int x1), (2, .int x2), (3, .ref x3), (4, .int x4)], [.int s0], (h ++ R), 0, 0) := by
  unfold fxX6_mirror_59 at hq
  refine mB_run odX6_mirror 3 (g := (63, [(5, .int s0), (0, .ref x0), (1, .int x1), (2, .int x2), (3, .ref x3), (4, .int x4)], [.int (2 : Int32), .int x2], (h ++ R), 0, 0)) rfl ?_
  by_cases c16 : x2 = (2 : Int32)
  · rw [if_pos c16] at hq
    refine ic_eq_T (t := 71) odX6_mirror rfl rfl c16 ?_
    refine mB_lv [1, 2, 4, 5, 0] (lv' := [(0, .ref x0), (1, .int x1), (3, .ref x3), (4, .int x4), (5, .int s0)]) rfl ?_
    exact eaX6_mirror_71 _ _ _ _ _ _ hq
  · rw [if_neg c16] at hq
    refine ic_eq_F (t := 71) odX6_mirror rfl rfl c16 ?_
    refine mB_run odX6_mirror 2 (g := (68, [(5, .int s0), (0, .ref x0), (1, .int x1), (2, .int x2), (3, .ref x3), (4, .int x4)], [.int (3 : Int32), .int x2], (h ++ R), 0, 0)) rfl ?_
    by_cases c17 : x2 = (3 : Int32)
    · rw [if_pos c17] at hq
      refine ic_ne_F (t := 75) odX6_mirror rfl rfl c17 ?_
      refine mB_lv [1, 2, 4, 5, 0] (lv' := [(0, .ref x0), (1, .int x1), (3, .ref x3), (4, .int x4), (5, .int s0)]) rfl ?_
      exact eaX6_mirror_71 _ _ _ _ _ _ hq
    · rw [if_neg c17] at hq
      refine ic_ne_T (t := 75) odX6_mirror rfl rfl c17 ?_
      refine mB_run odX6_mirror 1 (g := (76, [(5, .int s0), (0, .ref x0), (1, .int x1), (2, .int x2), (3, .ref x3), (4, .int x4)], [.int (1 : Int32)], (h ++ R), 0, 0)) rfl ?_
      refine mB_lv [1, 2, 4, 5, 0] (lv' := [(0, .ref x0), (1, .int x1), (3, .ref x3), (4, .int x4), (5, .int s0)]) rfl ?_
      exact eaX6_mirror_76 _ _ _ _ _ _ _ hq
def fxX6_mirror_54 (N : Nat) (x0 : Nat) (x1 : Int32) (x2 : Int32) (x3 : Nat) (x4 : Int32) (h : mh) : Option (mh × Int32) :=
  fxX6_mirror_59 N x0 x1 x2 x3 x4 (-1 : Int32) h
set_option maxHeartbeats 4000000 in
set_option maxRecDepth 100000 in
theorem eaX6_mirror_54 {N : Nat} {R : mh} (x0 : Nat) (x1 : Int32) (x2 : Int32) (x3 : Nat) (x4 : Int32) (h : mh) {o : (mh × Int32)} (hq : fxX6_mirror_54 N x0 x1 x2 x3 x4 h = some o) : mB (gO mX6_mirror (o.1 ++ R, some (.int o.2))) mX6_mirror (54, [(0, .ref x0), (1, .int x1), (2, .int x2), (3, .ref x3), (4, .int x4)], [], (h ++ R), 0, 0) := by
  unfold fxX6_mirror_54 at hq
  refine mB_run odX6_mirror 2 (g := (59, [(0, .ref x0), (1, .int x1), (2, .int x2), (3, .ref x3), (4, .int x4)], [.int (-1 : Int32)], (h ++ R), 0, 0)) rfl ?_
  refine mB_lv [0, 1, 2, 3, 4] (lv' := [(0, .ref x0), (1, .int x1), (2, .int x2), (3, .ref x3), (4, .int x4)]) rfl ?_
  exact eaX6_mirror_59 _ _ _ _ _ _ _ hq
def fxX6_mirror_42 (N : Nat) (x0 : Nat) (x1 : Int32) (x2 : Int32) (x3 : Nat) (s0 : Int32) (h : mh) : Option (mh × Int32) :=
  if x2 = (1 : Int32) then (
    fxX6_mirror_54 N x0 x1 x2 x3 s0 h) else (
    if x2 = (3 : Int32) then (
      fxX6_mirror_54 N x0 x1 x2 x3 s0 h) else (
      fxX6_mirror_59 N x0 x1 x2 x3 s0 (1 : Int32) h))
set_option maxHeartbeats 4000000 in
set_option maxRecDepth 100000 in
theorem eaX6_mirror_42 {N : Nat} {R : mh} (x0 : Nat) (x1 : Int32) (x2 : Int32) (x3 : Nat) (s0 : Int32) (h : mh) {o : (mh × Int32)} (hq : fxX6_mirror_42 N x0 x1 x2 x3 s0 h = some o) : mB (gO mX6_mirror (o.1 ++ R, some (.int o.2))) mX6_mirror (42, [(0, .ref x0), (1, .int x1), (2, .int x2), (3, .ref x3)], [.int s0], (h ++ R), 0, 0) := by
  unfold fxX6_mirror_42 at hq
  refine mB_run odX6_mirror 3 (g := (46, [(4, .int s0), (0, .ref x0), (1, .int x1), (2, .int x2), (3, .ref x3)], [.int (1 : Int32), .int x2], (h ++ R), 0, 0)) rfl ?_
  by_cases c14 : x2 = (1 : Int32)
  · rw [if_pos c14] at hq
    refine ic_eq_T (t := 54) odX6_mirror rfl rfl c14 ?_
    refine mB_lv [1, 2, 3, 4, 0] (lv' := [(0, .ref x0), (1, .int x1), (2, .int x2), (3, .ref x3), (4, .int s0)]) rfl ?_
    exact eaX6_mirror_54 _ _ _ _ _ _ hq
  · rw [if_neg c14] at hq
    refine ic_eq_F (t := 54) odX6_mirror rfl rfl c14 ?_
    refine mB_run odX6_mirror 2 (g := (51, [(4, .int s0), (0, .ref x0), (1, .int x1), (2, .int x2), (3, .ref x3)], [.int (3 : Int32), .int x2], (h ++ R), 0, 0)) rfl ?_
    by_cases c15 : x2 = (3 : Int32)
    · rw [if_pos c15] at hq
      refine ic_ne_F (t := 58) odX6_mirror rfl rfl c15 ?_
      refine mB_lv [1, 2, 3, 4, 0] (lv' := [(0, .ref x0), (1, .int x1), (2, .int x2), (3, .ref x3), (4, .int s0)]) rfl ?_
      exact eaX6_mirror_54 _ _ _ _ _ _ hq
    · rw [if_neg c15] at hq
      refine ic_ne_T (t := 58) odX6_mirror rfl rfl c15 ?_
      refine mB_run odX6_mirror 1 (g := (59, [(4, .int s0), (0, .ref x0), (1, .int x1), (2, .int x2), (3, .ref x3)], [.int (1 : Int32)], (h ++ R), 0, 0)) rfl ?_
      refine mB_lv [1, 2, 3, 4, 0] (lv' := [(0, .ref x0), (1, .int x1), (2, .int x2), (3, .ref x3), (4, .int s0)]) rfl ?_
      exact eaX6_mirror_59 _ _ _ _ _ _ _ hq
def fxX6_mirror_37 (N : Nat) (x0 : Nat) (x1 : Int32) (x2 : Int32) (x3 : Nat) (h : mh) : Option (mh × Int32) :=
  fxX6_mirror_42 N x0 x1 x2 x3 (-1 : Int32) h
set_option maxHeartbeats 4000000 in
set_option maxRecDepth 100000 in
theorem eaX6_mirror_37 {N : Nat} {R : mh} (x0 : Nat) (x1 : Int32) (x2 : Int32) (x3 : Nat) (h : mh) {o : (mh × Int32)} (hq : fxX6_mirror_37 N x0 x1 x2 x3 h = some o) : mB (gO mX6_mirror (o.1 ++ R, some (.int o.2))) mX6_mirror (37, [(0, .ref x0), (1, .int x1), (2, .int x2), (3, .ref x3)], [], (h ++ R), 0, 0) := by
  unfold fxX6_mirror_37 at hq
  refine mB_run odX6_mirror 2 (g := (42, [(0, .ref x0), (1, .int x1), (2, .int x2), (3, .ref x3)], [.int (-1 : Int32)], (h ++ R), 0, 0)) rfl ?_
  refine mB_lv [0, 1, 2, 3] (lv' := [(0, .ref x0), (1, .int x1), (2, .int x2), (3, .ref x3)]) rfl ?_
  exact eaX6_mirror_42 _ _ _ _ _ _ hq
def fxX6_mirror (N : Nat) (p0 : Nat) (p1 : Int32) (p2 : Int32) (h : mh) : Option (mh × Int32) :=
  (fxX6_isSlot N p1 h).bind fun o1 =>
  if o1.2 = 0 then (
    some (o1.1, (0 : Int32))) else (
    if p2 < 0 then (
      some (o1.1, (0 : Int32))) else (
      if p2 ≤ (3 : Int32) then (
        (gR o1.1 p0 6 2).bind fun v6 =>
        (aR o1.1 v6 p1).bind fun v8 =>
        (gR o1.1 v8 0 1).bind fun v10 =>
        if p2 = 0 then (
          fxX6_mirror_37 N p0 p1 p2 v10 o1.1) else (
          if p2 = (3 : Int32) then (
            fxX6_mirror_37 N p0 p1 p2 v10 o1.1) else (
            fxX6_mirror_42 N p0 p1 p2 v10 (1 : Int32) o1.1))) else (
        some (o1.1, (0 : Int32)))))
set_option maxHeartbeats 4000000 in
set_option maxRecDepth 100000 in
theorem eaX6_mirror {N : Nat} {R : mh} {p0 : Nat} {p1 : Int32} {p2 : Int32} {h : mh} {o : (mh × Int32)} (hq : fxX6_mirror N p0 p1 p2 h = some o) : mC mX6_mirror [.ref p0, .int p1, .int p2] (h ++ R) (o.1 ++ R, some (.int o.2)) := by
  refine mC_of okX6_mirror (Nat.le_of_ble_eq_true rfl) ?_
  unfold fxX6_mirror at hq
  show mB _ mX6_mirror (0, [(0, .ref p0), (1, .int p1), (2, .int p2)], [], (h ++ R), 0, 0)
  refine mB_run odX6_mirror 1 (g := (1, [(0, .ref p0), (1, .int p1), (2, .int p2)], [.int p1], (h ++ R), 0, 0)) rfl ?_
  obtain ⟨o1, e2, hq⟩ := bsm hq
  refine mB_S (as := [.int p1]) odX6_mirror okX6_isSlot lk_6_79 rfl (eaX6_isSlot e2) rfl rfl rfl ?_
  show mB _ mX6_mirror (4, [(0, .ref p0), (1, .int p1), (2, .int p2)], [.int o1.2], (o1.1 ++ R), 0, 0)
  by_cases c3 : o1.2 = 0
  · rw [if_pos c3] at hq
    refine if_eq_T (t := 16) odX6_mirror rfl rfl c3 ?_
    refine mB_run odX6_mirror 1 (g := (17, [(0, .ref p0), (1, .int p1), (2, .int p2)], [.int (0 : Int32)], (o1.1 ++ R), 0, 0)) rfl ?_
    cases hq
    exact mB_ret odX6_mirror rfl
  · rw [if_neg c3] at hq
    refine if_eq_F (t := 16) odX6_mirror rfl rfl c3 ?_
    refine mB_run odX6_mirror 1 (g := (8, [(0, .ref p0), (1, .int p1), (2, .int p2)], [.int p2], (o1.1 ++ R), 0, 0)) rfl ?_
    by_cases c4 : p2 < 0
    · rw [if_pos c4] at hq
      refine if_lt_T (t := 16) odX6_mirror rfl rfl c4 ?_
      refine mB_run odX6_mirror 1 (g := (17, [(0, .ref p0), (1, .int p1), (2, .int p2)], [.int (0 : Int32)], (o1.1 ++ R), 0, 0)) rfl ?_
      cases hq
      exact mB_ret odX6_mirror rfl
    · rw [if_neg c4] at hq
      refine if_lt_F (t := 16) odX6_mirror rfl rfl c4 ?_
      refine mB_run odX6_mirror 2 (g := (13, [(0, .ref p0), (1, .int p1), (2, .int p2)], [.int (3 : Int32), .int p2], (o1.1 ++ R), 0, 0)) rfl ?_
      by_cases c5 : p2 ≤ (3 : Int32)
      · rw [if_pos c5] at hq
        refine ic_le_T (t := 18) odX6_mirror rfl rfl c5 ?_
        refine mB_run odX6_mirror 1 (g := (19, [(0, .ref p0), (1, .int p1), (2, .int p2)], [.ref p0], (o1.1 ++ R), 0, 0)) rfl ?_
        obtain ⟨v6, e7, hq⟩ := bsm hq
        refine r_gR odX6_mirror rfl rfl (gR_ap e7) ?_
        refine mB_run odX6_mirror 1 (g := (23, [(0, .ref p0), (1, .int p1), (2, .int p2)], [.int p1, .ref v6], (o1.1 ++ R), 0, 0)) rfl ?_
        obtain ⟨v8, e9, hq⟩ := bsm hq
        refine r_aR odX6_mirror rfl (aR_ap e9) ?_
        obtain ⟨v10, e11, hq⟩ := bsm hq
        refine r_gR odX6_mirror rfl rfl (gR_ap e11) ?_
        refine mB_run odX6_mirror 2 (g := (29, [(3, .ref v10), (0, .ref p0), (1, .int p1), (2, .int p2)], [.int p2], (o1.1 ++ R), 0, 0)) rfl ?_
        by_cases c12 : p2 = 0
        · rw [if_pos c12] at hq
          refine if_eq_T (t := 37) odX6_mirror rfl rfl c12 ?_
          refine mB_lv [1, 2, 3, 0] (lv' := [(0, .ref p0), (1, .int p1), (2, .int p2), (3, .ref v10)]) rfl ?_
          exact eaX6_mirror_37 _ _ _ _ _ hq
        · rw [if_neg c12] at hq
          refine if_eq_F (t := 37) odX6_mirror rfl rfl c12 ?_
          refine mB_run odX6_mirror 2 (g := (34, [(3, .ref v10), (0, .ref p0), (1, .int p1), (2, .int p2)], [.int (3 : Int32), .int p2], (o1.1 ++ R), 0, 0)) rfl ?_
          by_cases c13 : p2 = (3 : Int32)
          · rw [if_pos c13] at hq
            refine ic_ne_F (t := 41) odX6_mirror rfl rfl c13 ?_
            refine mB_lv [1, 2, 3, 0] (lv' := [(0, .ref p0), (1, .int p1), (2, .int p2), (3, .ref v10)]) rfl ?_
            exact eaX6_mirror_37 _ _ _ _ _ hq
          · rw [if_neg c13] at hq
            refine ic_ne_T (t := 41) odX6_mirror rfl rfl c13 ?_
            refine mB_run odX6_mirror 1 (g := (42, [(3, .ref v10), (0, .ref p0), (1, .int p1), (2, .int p2)], [.int (1 : Int32)], (o1.1 ++ R), 0, 0)) rfl ?_
            refine mB_lv [1, 2, 3, 0] (lv' := [(0, .ref p0), (1, .int p1), (2, .int p2), (3, .ref v10)]) rfl ?_
            exact eaX6_mirror_42 _ _ _ _ _ _ hq
      · rw [if_neg c5] at hq
        refine ic_le_F (t := 18) odX6_mirror rfl rfl c5 ?_
        refine mB_run odX6_mirror 1 (g := (17, [(0, .ref p0), (1, .int p1), (2, .int p2)], [.int (0 : Int32)], (o1.1 ++ R), 0, 0)) rfl ?_
        cases hq
        exact mB_ret odX6_mirror rfl
def fxX6_turn_131 (N : Nat) (rec38 : Nat → Int32 → Int32 → Nat → Int32 → mh → Option (mh × Int32)) (x0 : Nat) (x1 : Int32) (x2 : Int32) (x3 : Nat) (x4 : Int32) (h : mh) : Option (mh × Int32) :=
  rec38 x0 x1 x2 x3 (x4 + (1 : Int32)) h
set_option maxHeartbeats 4000000 in
set_option maxRecDepth 100000 in
theorem eaX6_turn_131 {N : Nat} {R : mh} {rec38 : Nat → Int32 → Int32 → Nat → Int32 → mh → Option (mh × Int32)} (hrec38 : ∀ (x0 : Nat) (x1 : Int32) (x2 : Int32) (x3 : Nat) (x4 : Int32) (h : mh) {o : (mh × Int32)}, rec38 x0 x1 x2 x3 x4 h = some o → mB (gO mX6_turn (o.1 ++ R, some (.int o.2))) mX6_turn (38, [(0, .ref x0), (1, .int x1), (2, .int x2), (3, .ref x3), (4, .int x4)], [], (h ++ R), 0, 0)) (x0 : Nat) (x1 : Int32) (x2 : Int32) (x3 : Nat) (x4 : Int32) (h : mh) {o : (mh × Int32)} (hq : fxX6_turn_131 N rec38 x0 x1 x2 x3 x4 h = some o) : mB (gO mX6_turn (o.1 ++ R, some (.int o.2))) mX6_turn (131, [(0, .ref x0), (1, .int x1), (2, .int x2), (3, .ref x3), (4, .int x4)], [], (h ++ R), 0, 0) := by
  unfold fxX6_turn_131 at hq
  refine mB_run odX6_turn 2 (g := (38, [(4, .int (x4 + (1 : Int32))), (0, .ref x0), (1, .int x1), (2, .int x2), (3, .ref x3)], [], (h ++ R), 0, 0)) rfl ?_
  refine mB_lv [1, 2, 3, 4, 0] (lv' := [(0, .ref x0), (1, .int x1), (2, .int x2), (3, .ref x3), (4, .int (x4 + (1 : Int32)))]) rfl ?_
  exact hrec38 _ _ _ _ _ _ hq
def fxX6_turn_38 (N : Nat) : Nat → Nat → Int32 → Int32 → Nat → Int32 → mh → Option (mh × Int32)
  | 0, _, _, _, _, _, _ => none
  | n + 1, x0, x1, x2, x3, x4, h =>
    (gI h x3 3 0).bind fun v18 =>
    if v18 ≤ x4 then (
      (gR h x0 6 7).bind fun v21 =>
      (gR h x0 6 8).bind fun v23 =>
      (kO h x0 6).bind fun f27 =>
      (fxX6_become N x0 x1 v21 v23 h).bind fun o25 =>
      some (o25.1, (1 : Int32))) else (
      (gR h x3 3 1).bind fun v29 =>
      (aI h v29 x4).bind fun v31 =>
      (gR h x3 3 2).bind fun v33 =>
      (aI h v33 x4).bind fun v35 =>
      (gR h x3 3 3).bind fun v37 =>
      (aI h v37 x4).bind fun v39 =>
      if x2 = 0 then (
        (gR h x0 6 7).bind fun v42 =>
        (kO h v42 3).bind fun f46 =>
        (fxX3_put N v42 v31 (-v39) v35 h).bind fun o44 =>
        fxX6_turn_131 N (fxX6_turn_38 N n) x0 x1 x2 x3 x4 o44) else (
        if x2 = (1 : Int32) then (
          (gR h x0 6 7).bind fun v49 =>
          (kO h v49 3).bind fun f53 =>
          (fxX3_put N v49 v39 v35 (-v31) h).bind fun o51 =>
          fxX6_turn_131 N (fxX6_turn_38 N n) x0 x1 x2 x3 x4 o51) else (
          (gR h x0 6 7).bind fun v55 =>
          (kO h v55 3).bind fun f59 =>
          (fxX3_put N v55 (-v35) v31 v39 h).bind fun o57 =>
          fxX6_turn_131 N (fxX6_turn_38 N n) x0 x1 x2 x3 x4 o57)))
set_option maxHeartbeats 4000000 in
set_option maxRecDepth 100000 in
theorem eaX6_turn_38 {N : Nat} {R : mh} : ∀ (n : Nat) (x0 : Nat) (x1 : Int32) (x2 : Int32) (x3 : Nat) (x4 : Int32) (h : mh) {o : (mh × Int32)}, fxX6_turn_38 N n x0 x1 x2 x3 x4 h = some o → mB (gO mX6_turn (o.1 ++ R, some (.int o.2))) mX6_turn (38, [(0, .ref x0), (1, .int x1), (2, .int x2), (3, .ref x3), (4, .int x4)], [], (h ++ R), 0, 0) := by
  intro n
  induction n with
  | zero => intro x0 x1 x2 x3 x4 h o hq; cases hq
  | succ n ih =>
    intro x0 x1 x2 x3 x4 h o hq
    unfold fxX6_turn_38 at hq
    refine mB_run odX6_turn 2 (g := (41, [(0, .ref x0), (1, .int x1), (2, .int x2), (3, .ref x3), (4, .int x4)], [.ref x3, .int x4], (h ++ R), 0, 0)) rfl ?_
    obtain ⟨v18, e19, hq⟩ := bsm hq
    refine r_gI odX6_turn rfl rfl (gI_ap e19) ?_
    by_cases c20 : v18 ≤ x4
    · rw [if_pos c20] at hq
      refine ic_ge_T (t := 137) odX6_turn rfl rfl c20 ?_
      refine mB_run odX6_turn 3 (g := (140, [(0, .ref x0), (1, .int x1), (2, .int x2), (3, .ref x3), (4, .int x4)], [.ref x0, .int x1, .ref x0], (h ++ R), 0, 0)) rfl ?_
      obtain ⟨v21, e22, hq⟩ := bsm hq
      refine r_gR odX6_turn rfl rfl (gR_ap e22) ?_
      refine mB_run odX6_turn 1 (g := (144, [(0, .ref x0), (1, .int x1), (2, .int x2), (3, .ref x3), (4, .int x4)], [.ref x0, .ref v21, .int x1, .ref x0], (h ++ R), 0, 0)) rfl ?_
      obtain ⟨v23, e24, hq⟩ := bsm hq
      refine r_gR odX6_turn rfl rfl (gR_ap e24) ?_
      obtain ⟨f27, k28, hq⟩ := bsm hq
      obtain ⟨o25, e26, hq⟩ := bsm hq
      refine mB_V (as := [.int x1, .ref v21, .ref v23]) odX6_turn okX6_become lk_6_94 rfl (eaX6_become e26) (kO_at (kO_ap k28)) rfl rfl rfl ?_
      show mB _ mX6_turn (150, [(0, .ref x0), (1, .int x1), (2, .int x2), (3, .ref x3), (4, .int x4)], [.int o25.2], (o25.1 ++ R), 0, 0)
      refine mB_run odX6_turn 2 (g := (152, [(0, .ref x0), (1, .int x1), (2, .int x2), (3, .ref x3), (4, .int x4)], [.int (1 : Int32)], (o25.1 ++ R), 0, 0)) rfl ?_
      cases hq
      exact mB_ret odX6_turn rfl
    · rw [if_neg c20] at hq
      refine ic_ge_F (t := 137) odX6_turn rfl rfl c20 ?_
      refine mB_run odX6_turn 1 (g := (48, [(0, .ref x0), (1, .int x1), (2, .int x2), (3, .ref x3), (4, .int x4)], [.ref x3], (h ++ R), 0, 0)) rfl ?_
      obtain ⟨v29, e30, hq⟩ := bsm hq
      refine r_gR odX6_turn rfl rfl (gR_ap e30) ?_
      refine mB_run odX6_turn 1 (g := (53, [(0, .ref x0), (1, .int x1), (2, .int x2), (3, .ref x3), (4, .int x4)], [.int x4, .ref v29], (h ++ R), 0, 0)) rfl ?_
      obtain ⟨v31, e32, hq⟩ := bsm hq
      refine r_aI odX6_turn rfl (aI_ap e32) ?_
      refine mB_run odX6_turn 2 (g := (57, [(5, .int v31), (0, .ref x0), (1, .int x1), (2, .int x2), (3, .ref x3), (4, .int x4)], [.ref x3], (h ++ R), 0, 0)) rfl ?_
      obtain ⟨v33, e34, hq⟩ := bsm hq
      refine r_gR odX6_turn rfl rfl (gR_ap e34) ?_
      refine mB_run odX6_turn 1 (g := (62, [(5, .int v31), (0, .ref x0), (1, .int x1), (2, .int x2), (3, .ref x3), (4, .int x4)], [.int x4, .ref v33], (h ++ R), 0, 0)) rfl ?_
      obtain ⟨v35, e36, hq⟩ := bsm hq
      refine r_aI odX6_turn rfl (aI_ap e36) ?_
      refine mB_run odX6_turn 2 (g := (66, [(6, .int v35), (5, .int v31), (0, .ref x0), (1, .int x1), (2, .int x2), (3, .ref x3), (4, .int x4)], [.ref x3], (h ++ R), 0, 0)) rfl ?_
      obtain ⟨v37, e38, hq⟩ := bsm hq
      refine r_gR odX6_turn rfl rfl (gR_ap e38) ?_
      refine mB_run odX6_turn 1 (g := (71, [(6, .int v35), (5, .int v31), (0, .ref x0), (1, .int x1), (2, .int x2), (3, .ref x3), (4, .int x4)], [.int x4, .ref v37], (h ++ R), 0, 0)) rfl ?_
      obtain ⟨v39, e40, hq⟩ := bsm hq
      refine r_aI odX6_turn rfl (aI_ap e40) ?_
      refine mB_run odX6_turn 2 (g := (75, [(7, .int v39), (6, .int v35), (5, .int v31), (0, .ref x0), (1, .int x1), (2, .int x2), (3, .ref x3), (4, .int x4)], [.int x2], (h ++ R), 0, 0)) rfl ?_
      by_cases c41 : x2 = 0
      · rw [if_pos c41] at hq
        refine if_ne_F (t := 95) odX6_turn rfl rfl c41 ?_
        refine mB_run odX6_turn 1 (g := (79, [(7, .int v39), (6, .int v35), (5, .int v31), (0, .ref x0), (1, .int x1), (2, .int x2), (3, .ref x3), (4, .int x4)], [.ref x0], (h ++ R), 0, 0)) rfl ?_
        obtain ⟨v42, e43, hq⟩ := bsm hq
        refine r_gR odX6_turn rfl rfl (gR_ap e43) ?_
        refine mB_run odX6_turn 4 (g := (89, [(7, .int v39), (6, .int v35), (5, .int v31), (0, .ref x0), (1, .int x1), (2, .int x2), (3, .ref x3), (4, .int x4)], [.int v35, .int (-v39), .int v31, .ref v42], (h ++ R), 0, 0)) rfl ?_
        obtain ⟨f46, k47, hq⟩ := bsm hq
        obtain ⟨o44, e45, hq⟩ := bsm hq
        refine mB_V (as := [.int v31, .int (-v39), .int v35]) odX6_turn okX3_put lk_6_75 rfl (eaX3_put e45) (kO_at (kO_ap k47)) rfl rfl rfl ?_
        show mB _ mX6_turn (92, [(7, .int v39), (6, .int v35), (5, .int v31), (0, .ref x0), (1, .int x1), (2, .int x2), (3, .ref x3), (4, .int x4)], [], (o44 ++ R), 0, 0)
        refine mB_run odX6_turn 1 (g := (131, [(7, .int v39), (6, .int v35), (5, .int v31), (0, .ref x0), (1, .int x1), (2, .int x2), (3, .ref x3), (4, .int x4)], [], (o44 ++ R), 0, 0)) rfl ?_
        refine mB_lv [3, 4, 5, 6, 7] (lv' := [(0, .ref x0), (1, .int x1), (2, .int x2), (3, .ref x3), (4, .int x4)]) rfl ?_
        exact eaX6_turn_131 ih _ _ _ _ _ _ hq
      · rw [if_neg c41] at hq
        refine if_ne_T (t := 95) odX6_turn rfl rfl c41 ?_
        refine mB_run odX6_turn 2 (g := (97, [(7, .int v39), (6, .int v35), (5, .int v31), (0, .ref x0), (1, .int x1), (2, .int x2), (3, .ref x3), (4, .int x4)], [.int (1 : Int32), .int x2], (h ++ R), 0, 0)) rfl ?_
        by_cases c48 : x2 = (1 : Int32)
        · rw [if_pos c48] at hq
          refine ic_ne_F (t := 117) odX6_turn rfl rfl c48 ?_
          refine mB_run odX6_turn 1 (g := (101, [(7, .int v39), (6, .int v35), (5, .int v31), (0, .ref x0), (1, .int x1), (2, .int x2), (3, .ref x3), (4, .int x4)], [.ref x0], (h ++ R), 0, 0)) rfl ?_
          obtain ⟨v49, e50, hq⟩ := bsm hq
          refine r_gR odX6_turn rfl rfl (gR_ap e50) ?_
          refine mB_run odX6_turn 4 (g := (111, [(7, .int v39), (6, .int v35), (5, .int v31), (0, .ref x0), (1, .int x1), (2, .int x2), (3, .ref x3), (4, .int x4)], [.int (-v31), .int v35, .int v39, .ref v49], (h ++ R), 0, 0)) rfl ?_
          obtain ⟨f53, k54, hq⟩ := bsm hq
          obtain ⟨o51, e52, hq⟩ := bsm hq
          refine mB_V (as := [.int v39, .int v35, .int (-v31)]) odX6_turn okX3_put lk_6_75 rfl (eaX3_put e52) (kO_at (kO_ap k54)) rfl rfl rfl ?_
          show mB _ mX6_turn (114, [(7, .int v39), (6, .int v35), (5, .int v31), (0, .ref x0), (1, .int x1), (2, .int x2), (3, .ref x3), (4, .int x4)], [], (o51 ++ R), 0, 0)
          refine mB_run odX6_turn 1 (g := (131, [(7, .int v39), (6, .int v35), (5, .int v31), (0, .ref x0), (1, .int x1), (2, .int x2), (3, .ref x3), (4, .int x4)], [], (o51 ++ R), 0, 0)) rfl ?_
          refine mB_lv [3, 4, 5, 6, 7] (lv' := [(0, .ref x0), (1, .int x1), (2, .int x2), (3, .ref x3), (4, .int x4)]) rfl ?_
          exact eaX6_turn_131 ih _ _ _ _ _ _ hq
        · rw [if_neg c48] at hq
          refine ic_ne_T (t := 117) odX6_turn rfl rfl c48 ?_
          refine mB_run odX6_turn 1 (g := (118, [(7, .int v39), (6, .int v35), (5, .int v31), (0, .ref x0), (1, .int x1), (2, .int x2), (3, .ref x3), (4, .int x4)], [.ref x0], (h ++ R), 0, 0)) rfl ?_
          obtain ⟨v55, e56, hq⟩ := bsm hq
          refine r_gR odX6_turn rfl rfl (gR_ap e56) ?_
          refine mB_run odX6_turn 4 (g := (128, [(7, .int v39), (6, .int v35), (5, .int v31), (0, .ref x0), (1, .int x1), (2, .int x2), (3, .ref x3), (4, .int x4)], [.int v39, .int v31, .int (-v35), .ref v55], (h ++ R), 0, 0)) rfl ?_
          obtain ⟨f59, k60, hq⟩ := bsm hq
          obtain ⟨o57, e58, hq⟩ := bsm hq
          refine mB_V (as := [.int (-v35), .int v31, .int v39]) odX6_turn okX3_put lk_6_75 rfl (eaX3_put e58) (kO_at (kO_ap k60)) rfl rfl rfl ?_
          show mB _ mX6_turn (131, [(7, .int v39), (6, .int v35), (5, .int v31), (0, .ref x0), (1, .int x1), (2, .int x2), (3, .ref x3), (4, .int x4)], [], (o57 ++ R), 0, 0)
          refine mB_lv [3, 4, 5, 6, 7] (lv' := [(0, .ref x0), (1, .int x1), (2, .int x2), (3, .ref x3), (4, .int x4)]) rfl ?_
          exact eaX6_turn_131 ih _ _ _ _ _ _ hq
def fxX6_turn (N : Nat) (p0 : Nat) (p1 : Int32) (p2 : Int32) (h : mh) : Option (mh × Int32) :=
  (fxX6_isSlot N p1 h).bind fun o1 =>
  if o1.2 = 0 then (
    some (o1.1, (0 : Int32))) else (
    if p2 < 0 then (
      some (o1.1, (0 : Int32))) else (
      if p2 ≤ (2 : Int32) then (
        (gR o1.1 p0 6 2).bind fun v6 =>
        (aR o1.1 v6 p1).bind fun v8 =>
        (gR o1.1 v8 0 1).bind fun v10 =>
        (gR o1.1 p0 6 7).bind fun v12 =>
        (kO o1.1 v12 3).bind fun f16 =>
        (fxX3_clear N v12 o1.1).bind fun o14 =>
        fxX6_turn_38 N N p0 p1 p2 v10 (0 : Int32) o14) else (
        some (o1.1, (0 : Int32)))))
set_option maxHeartbeats 4000000 in
set_option maxRecDepth 100000 in
theorem eaX6_turn {N : Nat} {R : mh} {p0 : Nat} {p1 : Int32} {p2 : Int32} {h : mh} {o : (mh × Int32)} (hq : fxX6_turn N p0 p1 p2 h = some o) : mC mX6_turn [.ref p0, .int p1, .int p2] (h ++ R) (o.1 ++ R, some (.int o.2)) := by
  refine mC_of okX6_turn (Nat.le_of_ble_eq_true rfl) ?_
  unfold fxX6_turn at hq
  show mB _ mX6_turn (0, [(0, .ref p0), (1, .int p1), (2, .int p2)], [], (h ++ R), 0, 0)
  refine mB_run odX6_turn 1 (g := (1, [(0, .ref p0), (1, .int p1), (2, .int p2)], [.int p1], (h ++ R), 0, 0)) rfl ?_
  obtain ⟨o1, e2, hq⟩ := bsm hq
  refine mB_S (as := [.int p1]) odX6_turn okX6_isSlot lk_6_79 rfl (eaX6_isSlot e2) rfl rfl rfl ?_
  show mB _ mX6_turn (4, [(0, .ref p0), (1, .int p1), (2, .int p2)], [.int o1.2], (o1.1 ++ R), 0, 0)
  by_cases c3 : o1.2 = 0
  · rw [if_pos c3] at hq
    refine if_eq_T (t := 16) odX6_turn rfl rfl c3 ?_
    refine mB_run odX6_turn 1 (g := (17, [(0, .ref p0), (1, .int p1), (2, .int p2)], [.int (0 : Int32)], (o1.1 ++ R), 0, 0)) rfl ?_
    cases hq
    exact mB_ret odX6_turn rfl
  · rw [if_neg c3] at hq
    refine if_eq_F (t := 16) odX6_turn rfl rfl c3 ?_
    refine mB_run odX6_turn 1 (g := (8, [(0, .ref p0), (1, .int p1), (2, .int p2)], [.int p2], (o1.1 ++ R), 0, 0)) rfl ?_
    by_cases c4 : p2 < 0
    · rw [if_pos c4] at hq
      refine if_lt_T (t := 16) odX6_turn rfl rfl c4 ?_
      refine mB_run odX6_turn 1 (g := (17, [(0, .ref p0), (1, .int p1), (2, .int p2)], [.int (0 : Int32)], (o1.1 ++ R), 0, 0)) rfl ?_
      cases hq
      exact mB_ret odX6_turn rfl
    · rw [if_neg c4] at hq
      refine if_lt_F (t := 16) odX6_turn rfl rfl c4 ?_
      refine mB_run odX6_turn 2 (g := (13, [(0, .ref p0), (1, .int p1), (2, .int p2)], [.int (2 : Int32), .int p2], (o1.1 ++ R), 0, 0)) rfl ?_
      by_cases c5 : p2 ≤ (2 : Int32)
      · rw [if_pos c5] at hq
        refine ic_le_T (t := 18) odX6_turn rfl rfl c5 ?_
        refine mB_run odX6_turn 1 (g := (19, [(0, .ref p0), (1, .int p1), (2, .int p2)], [.ref p0], (o1.1 ++ R), 0, 0)) rfl ?_
        obtain ⟨v6, e7, hq⟩ := bsm hq
        refine r_gR odX6_turn rfl rfl (gR_ap e7) ?_
        refine mB_run odX6_turn 1 (g := (23, [(0, .ref p0), (1, .int p1), (2, .int p2)], [.int p1, .ref v6], (o1.1 ++ R), 0, 0)) rfl ?_
        obtain ⟨v8, e9, hq⟩ := bsm hq
        refine r_aR odX6_turn rfl (aR_ap e9) ?_
        obtain ⟨v10, e11, hq⟩ := bsm hq
        refine r_gR odX6_turn rfl rfl (gR_ap e11) ?_
        refine mB_run odX6_turn 2 (g := (29, [(3, .ref v10), (0, .ref p0), (1, .int p1), (2, .int p2)], [.ref p0], (o1.1 ++ R), 0, 0)) rfl ?_
        obtain ⟨v12, e13, hq⟩ := bsm hq
        refine r_gR odX6_turn rfl rfl (gR_ap e13) ?_
        obtain ⟨f16, k17, hq⟩ := bsm hq
        obtain ⟨o14, e15, hq⟩ := bsm hq
        refine mB_V (as := []) odX6_turn okX3_clear lk_6_83 rfl (eaX3_clear e15) (kO_at (kO_ap k17)) rfl rfl rfl ?_
        show mB _ mX6_turn (35, [(3, .ref v10), (0, .ref p0), (1, .int p1), (2, .int p2)], [], (o14 ++ R), 0, 0)
        refine mB_run odX6_turn 2 (g := (38, [(4, .int (0 : Int32)), (3, .ref v10), (0, .ref p0), (1, .int p1), (2, .int p2)], [], (o14 ++ R), 0, 0)) rfl ?_
        refine mB_lv [2, 3, 4, 1, 0] (lv' := [(0, .ref p0), (1, .int p1), (2, .int p2), (3, .ref v10), (4, .int (0 : Int32))]) rfl ?_
        exact eaX6_turn_38 N _ _ _ _ _ _ hq
      · rw [if_neg c5] at hq
        refine ic_le_F (t := 18) odX6_turn rfl rfl c5 ?_
        refine mB_run odX6_turn 1 (g := (17, [(0, .ref p0), (1, .int p1), (2, .int p2)], [.int (0 : Int32)], (o1.1 ++ R), 0, 0)) rfl ?_
        cases hq
        exact mB_ret odX6_turn rfl
def fxX6_copy (N : Nat) (p0 : Nat) (p1 : Int32) (p2 : Int32) (h : mh) : Option (mh × Int32) :=
  (fxX6_isSlot N p1 h).bind fun o1 =>
  if o1.2 = 0 then (
    some (o1.1, (0 : Int32))) else (
    (fxX6_isSlot N p2 o1.1).bind fun o4 =>
    if o4.2 = 0 then (
      some (o4.1, (0 : Int32))) else (
      (gR o4.1 p0 6 2).bind fun v7 =>
      (aR o4.1 v7 p1).bind fun v9 =>
      (gR o4.1 v9 0 1).bind fun v11 =>
      (gR o4.1 p0 6 8).bind fun v13 =>
      (kO o4.1 p0 6).bind fun f17 =>
      (fxX6_become N p0 p2 v11 v13 o4.1).bind fun o15 =>
      some (o15.1, (1 : Int32))))
set_option maxHeartbeats 4000000 in
set_option maxRecDepth 100000 in
theorem eaX6_copy {N : Nat} {R : mh} {p0 : Nat} {p1 : Int32} {p2 : Int32} {h : mh} {o : (mh × Int32)} (hq : fxX6_copy N p0 p1 p2 h = some o) : mC mX6_copy [.ref p0, .int p1, .int p2] (h ++ R) (o.1 ++ R, some (.int o.2)) := by
  refine mC_of okX6_copy (Nat.le_of_ble_eq_true rfl) ?_
  unfold fxX6_copy at hq
  show mB _ mX6_copy (0, [(0, .ref p0), (1, .int p1), (2, .int p2)], [], (h ++ R), 0, 0)
  refine mB_run odX6_copy 1 (g := (1, [(0, .ref p0), (1, .int p1), (2, .int p2)], [.int p1], (h ++ R), 0, 0)) rfl ?_
  obtain ⟨o1, e2, hq⟩ := bsm hq
  refine mB_S (as := [.int p1]) odX6_copy okX6_isSlot lk_6_79 rfl (eaX6_isSlot e2) rfl rfl rfl ?_
  show mB _ mX6_copy (4, [(0, .ref p0), (1, .int p1), (2, .int p2)], [.int o1.2], (o1.1 ++ R), 0, 0)
  by_cases c3 : o1.2 = 0
  · rw [if_pos c3] at hq
    refine if_eq_T (t := 14) odX6_copy rfl rfl c3 ?_
    refine mB_run odX6_copy 1 (g := (15, [(0, .ref p0), (1, .int p1), (2, .int p2)], [.int (0 : Int32)], (o1.1 ++ R), 0, 0)) rfl ?_
    cases hq
    exact mB_ret odX6_copy rfl
  · rw [if_neg c3] at hq
    refine if_eq_F (t := 14) odX6_copy rfl rfl c3 ?_
    refine mB_run odX6_copy 1 (g := (8, [(0, .ref p0), (1, .int p1), (2, .int p2)], [.int p2], (o1.1 ++ R), 0, 0)) rfl ?_
    obtain ⟨o4, e5, hq⟩ := bsm hq
    refine mB_S (as := [.int p2]) odX6_copy okX6_isSlot lk_6_79 rfl (eaX6_isSlot e5) rfl rfl rfl ?_
    show mB _ mX6_copy (11, [(0, .ref p0), (1, .int p1), (2, .int p2)], [.int o4.2], (o4.1 ++ R), 0, 0)
    by_cases c6 : o4.2 = 0
    · rw [if_pos c6] at hq
      refine if_ne_F (t := 16) odX6_copy rfl rfl c6 ?_
      refine mB_run odX6_copy 1 (g := (15, [(0, .ref p0), (1, .int p1), (2, .int p2)], [.int (0 : Int32)], (o4.1 ++ R), 0, 0)) rfl ?_
      cases hq
      exact mB_ret odX6_copy rfl
    · rw [if_neg c6] at hq
      refine if_ne_T (t := 16) odX6_copy rfl rfl c6 ?_
      refine mB_run odX6_copy 3 (g := (19, [(0, .ref p0), (1, .int p1), (2, .int p2)], [.ref p0, .int p2, .ref p0], (o4.1 ++ R), 0, 0)) rfl ?_
      obtain ⟨v7, e8, hq⟩ := bsm hq
      refine r_gR odX6_copy rfl rfl (gR_ap e8) ?_
      refine mB_run odX6_copy 1 (g := (23, [(0, .ref p0), (1, .int p1), (2, .int p2)], [.int p1, .ref v7, .int p2, .ref p0], (o4.1 ++ R), 0, 0)) rfl ?_
      obtain ⟨v9, e10, hq⟩ := bsm hq
      refine r_aR odX6_copy rfl (aR_ap e10) ?_
      obtain ⟨v11, e12, hq⟩ := bsm hq
      refine r_gR odX6_copy rfl rfl (gR_ap e12) ?_
      refine mB_run odX6_copy 1 (g := (28, [(0, .ref p0), (1, .int p1), (2, .int p2)], [.ref p0, .ref v11, .int p2, .ref p0], (o4.1 ++ R), 0, 0)) rfl ?_
      obtain ⟨v13, e14, hq⟩ := bsm hq
      refine r_gR odX6_copy rfl rfl (gR_ap e14) ?_
      obtain ⟨f17, k18, hq⟩ := bsm hq
      obtain ⟨o15, e16, hq⟩ := bsm hq
      refine mB_V (as := [.int p2, .ref v11, .ref v13]) odX6_copy okX6_become lk_6_94 rfl (eaX6_become e16) (kO_at (kO_ap k18)) rfl rfl rfl ?_
      show mB _ mX6_copy (34, [(0, .ref p0), (1, .int p1), (2, .int p2)], [.int o15.2], (o15.1 ++ R), 0, 0)
      refine mB_run odX6_copy 2 (g := (36, [(0, .ref p0), (1, .int p1), (2, .int p2)], [.int (1 : Int32)], (o15.1 ++ R), 0, 0)) rfl ?_
      cases hq
      exact mB_ret odX6_copy rfl
def fxX6_undo (N : Nat) (p0 : Nat) (h : mh) : Option (mh × Int32) :=
  (gI h p0 6 5).bind fun v1 =>
  if v1 = 0 then (
    some (h, (-1 : Int32))) else (
    (gI h p0 6 5).bind fun v4 =>
    (sV h p0 6 5 (.int (v4 - (1 : Int32)))).bind fun h6 =>
    (gR h6 p0 6 4).bind fun v8 =>
    (gI h6 p0 6 5).bind fun v10 =>
    (aI h6 v8 v10).bind fun v12 =>
    (gR h6 p0 6 2).bind fun v14 =>
    (aR h6 v14 v12).bind fun v16 =>
    (gR h6 p0 6 2).bind fun v18 =>
    (gR h6 p0 6 3).bind fun v20 =>
    (gI h6 p0 6 5).bind fun v22 =>
    (aR h6 v20 v22).bind fun v24 =>
    (wR h6 v18 v12 v24).bind fun h26 =>
    (gR h26 p0 6 3).bind fun v28 =>
    (gI h26 p0 6 5).bind fun v30 =>
    (wR h26 v28 v30 v16).bind fun h32 =>
    (gI h32 p0 6 5).bind fun v34 =>
    some (h32, v34))
set_option maxHeartbeats 4000000 in
set_option maxRecDepth 100000 in
theorem eaX6_undo {N : Nat} {R : mh} {p0 : Nat} {h : mh} {o : (mh × Int32)} (hq : fxX6_undo N p0 h = some o) : mC mX6_undo [.ref p0] (h ++ R) (o.1 ++ R, some (.int o.2)) := by
  refine mC_of okX6_undo (Nat.le_of_ble_eq_true rfl) ?_
  unfold fxX6_undo at hq
  show mB _ mX6_undo (0, [(0, .ref p0)], [], (h ++ R), 0, 0)
  refine mB_run odX6_undo 1 (g := (1, [(0, .ref p0)], [.ref p0], (h ++ R), 0, 0)) rfl ?_
  obtain ⟨v1, e2, hq⟩ := bsm hq
  refine r_gI odX6_undo rfl rfl (gI_ap e2) ?_
  by_cases c3 : v1 = 0
  · rw [if_pos c3] at hq
    refine if_ne_F (t := 9) odX6_undo rfl rfl c3 ?_
    refine mB_run odX6_undo 1 (g := (8, [(0, .ref p0)], [.int (-1 : Int32)], (h ++ R), 0, 0)) rfl ?_
    cases hq
    exact mB_ret odX6_undo rfl
  · rw [if_neg c3] at hq
    refine if_ne_T (t := 9) odX6_undo rfl rfl c3 ?_
    refine mB_run odX6_undo 2 (g := (11, [(0, .ref p0)], [.ref p0, .ref p0], (h ++ R), 0, 0)) rfl ?_
    obtain ⟨v4, e5, hq⟩ := bsm hq
    refine r_gI odX6_undo rfl rfl (gI_ap e5) ?_
    refine mB_run odX6_undo 2 (g := (16, [(0, .ref p0)], [.int (v4 - (1 : Int32)), .ref p0], (h ++ R), 0, 0)) rfl ?_
    obtain ⟨h6, e7, hq⟩ := bsm hq
    refine r_sV odX6_undo rfl rfl rfl rfl (sV_ap e7) ?_
    refine mB_run odX6_undo 1 (g := (20, [(0, .ref p0)], [.ref p0], (h6 ++ R), 0, 0)) rfl ?_
    obtain ⟨v8, e9, hq⟩ := bsm hq
    refine r_gR odX6_undo rfl rfl (gR_ap e9) ?_
    refine mB_run odX6_undo 1 (g := (24, [(0, .ref p0)], [.ref p0, .ref v8], (h6 ++ R), 0, 0)) rfl ?_
    obtain ⟨v10, e11, hq⟩ := bsm hq
    refine r_gI odX6_undo rfl rfl (gI_ap e11) ?_
    obtain ⟨v12, e13, hq⟩ := bsm hq
    refine r_aI odX6_undo rfl (aI_ap e13) ?_
    refine mB_run odX6_undo 2 (g := (30, [(1, .int v12), (0, .ref p0)], [.ref p0], (h6 ++ R), 0, 0)) rfl ?_
    obtain ⟨v14, e15, hq⟩ := bsm hq
    refine r_gR odX6_undo rfl rfl (gR_ap e15) ?_
    refine mB_run odX6_undo 1 (g := (34, [(1, .int v12), (0, .ref p0)], [.int v12, .ref v14], (h6 ++ R), 0, 0)) rfl ?_
    obtain ⟨v16, e17, hq⟩ := bsm hq
    refine r_aR odX6_undo rfl (aR_ap e17) ?_
    refine mB_run odX6_undo 2 (g := (37, [(2, .ref v16), (1, .int v12), (0, .ref p0)], [.ref p0], (h6 ++ R), 0, 0)) rfl ?_
    obtain ⟨v18, e19, hq⟩ := bsm hq
    refine r_gR odX6_undo rfl rfl (gR_ap e19) ?_
    refine mB_run odX6_undo 2 (g := (42, [(2, .ref v16), (1, .int v12), (0, .ref p0)], [.ref p0, .int v12, .ref v18], (h6 ++ R), 0, 0)) rfl ?_
    obtain ⟨v20, e21, hq⟩ := bsm hq
    refine r_gR odX6_undo rfl rfl (gR_ap e21) ?_
    refine mB_run odX6_undo 1 (g := (46, [(2, .ref v16), (1, .int v12), (0, .ref p0)], [.ref p0, .ref v20, .int v12, .ref v18], (h6 ++ R), 0, 0)) rfl ?_
    obtain ⟨v22, e23, hq⟩ := bsm hq
    refine r_gI odX6_undo rfl rfl (gI_ap e23) ?_
    obtain ⟨v24, e25, hq⟩ := bsm hq
    refine r_aR odX6_undo rfl (aR_ap e25) ?_
    obtain ⟨h26, e27, hq⟩ := bsm hq
    refine r_wR odX6_undo rfl (wR_ap e27) ?_
    refine mB_run odX6_undo 1 (g := (52, [(2, .ref v16), (1, .int v12), (0, .ref p0)], [.ref p0], (h26 ++ R), 0, 0)) rfl ?_
    obtain ⟨v28, e29, hq⟩ := bsm hq
    refine r_gR odX6_undo rfl rfl (gR_ap e29) ?_
    refine mB_run odX6_undo 1 (g := (56, [(2, .ref v16), (1, .int v12), (0, .ref p0)], [.ref p0, .ref v28], (h26 ++ R), 0, 0)) rfl ?_
    obtain ⟨v30, e31, hq⟩ := bsm hq
    refine r_gI odX6_undo rfl rfl (gI_ap e31) ?_
    refine mB_run odX6_undo 1 (g := (60, [(2, .ref v16), (1, .int v12), (0, .ref p0)], [.ref v16, .int v30, .ref v28], (h26 ++ R), 0, 0)) rfl ?_
    obtain ⟨h32, e33, hq⟩ := bsm hq
    refine r_wR odX6_undo rfl (wR_ap e33) ?_
    refine mB_run odX6_undo 1 (g := (62, [(2, .ref v16), (1, .int v12), (0, .ref p0)], [.ref p0], (h32 ++ R), 0, 0)) rfl ?_
    obtain ⟨v34, e35, hq⟩ := bsm hq
    refine r_gI odX6_undo rfl rfl (gI_ap e35) ?_
    cases hq
    exact mB_ret odX6_undo rfl
