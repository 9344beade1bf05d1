def fxX6_count (N : Nat) (p0 : Nat) (p1 : Int32) (p2 : Int32) (h : mh) : Option (mh × Int32) :=
  (fxX6_isSlot N p1 h).bind fun o1 =>
  if o1.2 = 0 then (
    some (o1.1, (-1 : Int32))) else (
    (gR o1.1 p0 6 2).bind fun v4 =>
    (aR o1.1 v4 p1).bind fun v6 =>
    if p2 = (0 : Int32) then (
      (gI o1.1 v6 0 0).bind fun v9 =>
      some (o1.1, v9)) else (
      if p2 = (1 : Int32) then (
        (gR o1.1 v6 0 1).bind fun v12 =>
        (gI o1.1 v12 3 0).bind fun v14 =>
        some (o1.1, v14)) else (
        if p2 = (2 : Int32) then (
          (gI o1.1 v6 0 6).bind fun v17 =>
          some (o1.1, v17)) else (
          if p2 = (3 : Int32) then (
            (gI o1.1 v6 0 2).bind fun v20 =>
            some (o1.1, v20)) else (
            some (o1.1, (-1 : Int32)))))))
set_option maxHeartbeats 4000000 in
set_option maxRecDepth 100000 in
theorem eaX6_count {N : Nat} {R : mh} {p0 : Nat} {p1 : Int32} {p2 : Int32} {h : mh} {o : (mh × Int32)} (hq : fxX6_count N p0 p1 p2 h = some o) : mC mX6_count [.ref p0, .int p1, .int p2] (h ++ R) (o.1 ++ R, some (.int o.2)) := by
  refine mC_of okX6_count (Nat.le_of_ble_eq_true rfl) ?_
  unfold fxX6_count at hq
  show mB _ mX6_count (0, [(0, .ref p0), (1, .int p1), (2, .int p2)], [], (h ++ R), 0, 0)
  refine mB_run odX6_count 1 (g := (1, [(0, .ref p0), (1, .int p1), (2, .int p2)], [.int p1], (h ++ R), 0, 0)) rfl ?_
  obtain ⟨o1, e2, hq⟩ := bsm hq
  refine mB_S (as := [.int p1]) odX6_count okX6_isSlot lk_6_79 rfl (eaX6_isSlot e2) rfl rfl rfl ?_
  show mB _ mX6_count (4, [(0, .ref p0), (1, .int p1), (2, .int p2)], [.int o1.2], (o1.1 ++ R), 0, 0)
  by_cases c3 : o1.2 = 0
  · rw [if_pos c3] at hq
    refine if_ne_F (t := 9) odX6_count rfl rfl c3 ?_
    refine mB_run odX6_count 1 (g := (8, [(0, .ref p0), (1, .int p1), (2, .int p2)], [.int (-1 : Int32)], (o1.1 ++ R), 0, 0)) rfl ?_
    cases hq
    exact mB_ret odX6_count rfl
  · rw [if_neg c3] at hq
    refine if_ne_T (t := 9) odX6_count rfl rfl c3 ?_
    refine mB_run odX6_count 1 (g := (10, [(0, .ref p0), (1, .int p1), (2, .int p2)], [.ref p0], (o1.1 ++ R), 0, 0)) rfl ?_
    obtain ⟨v4, e5, hq⟩ := bsm hq
    refine r_gR odX6_count rfl rfl (gR_ap e5) ?_
    refine mB_run odX6_count 1 (g := (14, [(0, .ref p0), (1, .int p1), (2, .int p2)], [.int p1, .ref v4], (o1.1 ++ R), 0, 0)) rfl ?_
    obtain ⟨v6, e7, hq⟩ := bsm hq
    refine r_aR odX6_count rfl (aR_ap e7) ?_
    refine mB_run odX6_count 2 (g := (17, [(3, .ref v6), (0, .ref p0), (1, .int p1), (2, .int p2)], [.int p2], (o1.1 ++ R), 0, 0)) rfl ?_
    by_cases c8 : p2 = (0 : Int32)
    · rw [if_pos c8] at hq
      refine r_tab odX6_count rfl c8 (t := 48) rfl ?_
      refine mB_run odX6_count 1 (g := (49, [(3, .ref v6), (0, .ref p0), (1, .int p1), (2, .int p2)], [.ref v6], (o1.1 ++ R), 0, 0)) rfl ?_
      obtain ⟨v9, e10, hq⟩ := bsm hq
      refine r_gI odX6_count rfl rfl (gI_ap e10) ?_
      cases hq
      exact mB_ret odX6_count rfl
    · rw [if_neg c8] at hq
      by_cases c11 : p2 = (1 : Int32)
      · rw [if_pos c11] at hq
        refine r_tab odX6_count rfl c11 (t := 53) rfl ?_
        refine mB_run odX6_count 1 (g := (54, [(3, .ref v6), (0, .ref p0), (1, .int p1), (2, .int p2)], [.ref v6], (o1.1 ++ R), 0, 0)) rfl ?_
        obtain ⟨v12, e13, hq⟩ := bsm hq
        refine r_gR odX6_count rfl rfl (gR_ap e13) ?_
        obtain ⟨v14, e15, hq⟩ := bsm hq
        refine r_gI odX6_count rfl rfl (gI_ap e15) ?_
        cases hq
        exact mB_ret odX6_count rfl
      · rw [if_neg c11] at hq
        by_cases c16 : p2 = (2 : Int32)
        · rw [if_pos c16] at hq
          refine r_tab odX6_count rfl c16 (t := 61) rfl ?_
          refine mB_run odX6_count 1 (g := (62, [(3, .ref v6), (0, .ref p0), (1, .int p1), (2, .int p2)], [.ref v6], (o1.1 ++ R), 0, 0)) rfl ?_
          obtain ⟨v17, e18, hq⟩ := bsm hq
          refine r_gI odX6_count rfl rfl (gI_ap e18) ?_
          cases hq
          exact mB_ret odX6_count rfl
        · rw [if_neg c16] at hq
          by_cases c19 : p2 = (3 : Int32)
          · rw [if_pos c19] at hq
            refine r_tab odX6_count rfl c19 (t := 66) rfl ?_
            refine mB_run odX6_count 1 (g := (67, [(3, .ref v6), (0, .ref p0), (1, .int p1), (2, .int p2)], [.ref v6], (o1.1 ++ R), 0, 0)) rfl ?_
            obtain ⟨v20, e21, hq⟩ := bsm hq
            refine r_gI odX6_count rfl rfl (gI_ap e21) ?_
            cases hq
            exact mB_ret odX6_count rfl
          · rw [if_neg c19] at hq
            refine r_tabd odX6_count rfl (t := 71) (by omega) (ts_out4 c8 c11 c16 c19) ?_
            refine mB_run odX6_count 1 (g := (72, [(3, .ref v6), (0, .ref p0), (1, .int p1), (2, .int p2)], [.int (-1 : Int32)], (o1.1 ++ R), 0, 0)) rfl ?_
            cases hq
            exact mB_ret odX6_count rfl
def fxX6_corner (N : Nat) (p0 : Nat) (p1 : Int32) (p2 : Int32) (p3 : Int32) (h : mh) : Option (mh × Int32) :=
  (fxX6_isSlot N p1 h).bind fun o1 =>
  if o1.2 = 0 then (
    some (o1.1, (-1000 : Int32))) else (
    if p2 < 0 then (
      some (o1.1, (-1000 : Int32))) else (
      (gR o1.1 p0 6 2).bind fun v5 =>
      (aR o1.1 v5 p1).bind fun v7 =>
      (gR o1.1 v7 0 1).bind fun v9 =>
      (gI o1.1 v9 3 0).bind fun v11 =>
      if p2 < v11 then (
        (gR o1.1 p0 6 2).bind fun v14 =>
        (aR o1.1 v14 p1).bind fun v16 =>
        (gR o1.1 v16 0 1).bind fun v18 =>
        if p3 = (0 : Int32) then (
          (gR o1.1 v18 3 1).bind fun v21 =>
          (aI o1.1 v21 p2).bind fun v23 =>
          some (o1.1, v23)) else (
          if p3 = (1 : Int32) then (
            (gR o1.1 v18 3 2).bind fun v26 =>
            (aI o1.1 v26 p2).bind fun v28 =>
            some (o1.1, v28)) else (
            if p3 = (2 : Int32) then (
              (gR o1.1 v18 3 3).bind fun v31 =>
              (aI o1.1 v31 p2).bind fun v33 =>
              some (o1.1, v33)) else (
              some (o1.1, (-1000 : Int32)))))) else (
        some (o1.1, (-1000 : Int32)))))
set_option maxHeartbeats 4000000 in
set_option maxRecDepth 100000 in
theorem eaX6_corner {N : Nat} {R : mh} {p0 : Nat} {p1 : Int32} {p2 : Int32} {p3 : Int32} {h : mh} {o : (mh × Int32)} (hq : fxX6_corner N p0 p1 p2 p3 h = some o) : mC mX6_corner [.ref p0, .int p1, .int p2, .int p3] (h ++ R) (o.1 ++ R, some (.int o.2)) := by
  refine mC_of okX6_corner (Nat.le_of_ble_eq_true rfl) ?_
  unfold fxX6_corner at hq
  show mB _ mX6_corner (0, [(0, .ref p0), (1, .int p1), (2, .int p2), (3, .int p3)], [], (h ++ R), 0, 0)
  refine mB_run odX6_corner 1 (g := (1, [(0, .ref p0), (1, .int p1), (2, .int p2), (3, .int p3)], [.int p1], (h ++ R), 0, 0)) rfl ?_
  obtain ⟨o1, e2, hq⟩ := bsm hq
  refine mB_S (as := [.int p1]) odX6_corner okX6_isSlot lk_6_79 rfl (eaX6_isSlot e2) rfl rfl rfl ?_
  show mB _ mX6_corner (4, [(0, .ref p0), (1, .int p1), (2, .int p2), (3, .int p3)], [.int o1.2], (o1.1 ++ R), 0, 0)
  by_cases c3 : o1.2 = 0
  · rw [if_pos c3] at hq
    refine if_eq_T (t := 27) odX6_corner rfl rfl c3 ?_
    refine mB_run odX6_corner 1 (g := (30, [(0, .ref p0), (1, .int p1), (2, .int p2), (3, .int p3)], [.int (-1000 : Int32)], (o1.1 ++ R), 0, 0)) rfl ?_
    cases hq
    exact mB_ret odX6_corner rfl
  · rw [if_neg c3] at hq
    refine if_eq_F (t := 27) odX6_corner rfl rfl c3 ?_
    refine mB_run odX6_corner 1 (g := (8, [(0, .ref p0), (1, .int p1), (2, .int p2), (3, .int p3)], [.int p2], (o1.1 ++ R), 0, 0)) rfl ?_
    by_cases c4 : p2 < 0
    · rw [if_pos c4] at hq
      refine if_lt_T (t := 27) odX6_corner rfl rfl c4 ?_
      refine mB_run odX6_corner 1 (g := (30, [(0, .ref p0), (1, .int p1), (2, .int p2), (3, .int p3)], [.int (-1000 : Int32)], (o1.1 ++ R), 0, 0)) rfl ?_
      cases hq
      exact mB_ret odX6_corner rfl
    · rw [if_neg c4] at hq
      refine if_lt_F (t := 27) odX6_corner rfl rfl c4 ?_
      refine mB_run odX6_corner 2 (g := (13, [(0, .ref p0), (1, .int p1), (2, .int p2), (3, .int p3)], [.ref p0, .int p2], (o1.1 ++ R), 0, 0)) rfl ?_
      obtain ⟨v5, e6, hq⟩ := bsm hq
      refine r_gR odX6_corner rfl rfl (gR_ap e6) ?_
      refine mB_run odX6_corner 1 (g := (17, [(0, .ref p0), (1, .int p1), (2, .int p2), (3, .int p3)], [.int p1, .ref v5, .int p2], (o1.1 ++ R), 0, 0)) rfl ?_
      obtain ⟨v7, e8, hq⟩ := bsm hq
      refine r_aR odX6_corner rfl (aR_ap e8) ?_
      obtain ⟨v9, e10, hq⟩ := bsm hq
      refine r_gR odX6_corner rfl rfl (gR_ap e10) ?_
      obtain ⟨v11, e12, hq⟩ := bsm hq
      refine r_gI odX6_corner rfl rfl (gI_ap e12) ?_
      by_cases c13 : p2 < v11
      · rw [if_pos c13] at hq
        refine ic_lt_T (t := 31) odX6_corner rfl rfl c13 ?_
        refine mB_run odX6_corner 1 (g := (32, [(0, .ref p0), (1, .int p1), (2, .int p2), (3, .int p3)], [.ref p0], (o1.1 ++ R), 0, 0)) rfl ?_
        obtain ⟨v14, e15, hq⟩ := bsm hq
        refine r_gR odX6_corner rfl rfl (gR_ap e15) ?_
        refine mB_run odX6_corner 1 (g := (36, [(0, .ref p0), (1, .int p1), (2, .int p2), (3, .int p3)], [.int p1, .ref v14], (o1.1 ++ R), 0, 0)) rfl ?_
        obtain ⟨v16, e17, hq⟩ := bsm hq
        refine r_aR odX6_corner rfl (aR_ap e17) ?_
        obtain ⟨v18, e19, hq⟩ := bsm hq
        refine r_gR odX6_corner rfl rfl (gR_ap e19) ?_
        refine mB_run odX6_corner 2 (g := (43, [(4, .ref v18), (0, .ref p0), (1, .int p1), (2, .int p2), (3, .int p3)], [.int p3], (o1.1 ++ R), 0, 0)) rfl ?_
        by_cases c20 : p3 = (0 : Int32)
        · rw [if_pos c20] at hq
          refine r_tab odX6_corner rfl c20 (t := 68) rfl ?_
          refine mB_run odX6_corner 1 (g := (70, [(4, .ref v18), (0, .ref p0), (1, .int p1), (2, .int p2), (3, .int p3)], [.ref v18], (o1.1 ++ R), 0, 0)) rfl ?_
          obtain ⟨v21, e22, hq⟩ := bsm hq
          refine r_gR odX6_corner rfl rfl (gR_ap e22) ?_
          refine mB_run odX6_corner 1 (g := (74, [(4, .ref v18), (0, .ref p0), (1, .int p1), (2, .int p2), (3, .int p3)], [.int p2, .ref v21], (o1.1 ++ R), 0, 0)) rfl ?_
          obtain ⟨v23, e24, hq⟩ := bsm hq
          refine r_aI odX6_corner rfl (aI_ap e24) ?_
          cases hq
          exact mB_ret odX6_corner rfl
        · rw [if_neg c20] at hq
          by_cases c25 : p3 = (1 : Int32)
          · rw [if_pos c25] at hq
            refine r_tab odX6_corner rfl c25 (t := 76) rfl ?_
            refine mB_run odX6_corner 1 (g := (78, [(4, .ref v18), (0, .ref p0), (1, .int p1), (2, .int p2), (3, .int p3)], [.ref v18], (o1.1 ++ R), 0, 0)) rfl ?_
            obtain ⟨v26, e27, hq⟩ := bsm hq
            refine r_gR odX6_corner rfl rfl (gR_ap e27) ?_
            refine mB_run odX6_corner 1 (g := (82, [(4, .ref v18), (0, .ref p0), (1, .int p1), (2, .int p2), (3, .int p3)], [.int p2, .ref v26], (o1.1 ++ R), 0, 0)) rfl ?_
            obtain ⟨v28, e29, hq⟩ := bsm hq
            refine r_aI odX6_corner rfl (aI_ap e29) ?_
            cases hq
            exact mB_ret odX6_corner rfl
          · rw [if_neg c25] at hq
            by_cases c30 : p3 = (2 : Int32)
            · rw [if_pos c30] at hq
              refine r_tab odX6_corner rfl c30 (t := 84) rfl ?_
              refine mB_run odX6_corner 1 (g := (86, [(4, .ref v18), (0, .ref p0), (1, .int p1), (2, .int p2), (3, .int p3)], [.ref v18], (o1.1 ++ R), 0, 0)) rfl ?_
              obtain ⟨v31, e32, hq⟩ := bsm hq
              refine r_gR odX6_corner rfl rfl (gR_ap e32) ?_
              refine mB_run odX6_corner 1 (g := (90, [(4, .ref v18), (0, .ref p0), (1, .int p1), (2, .int p2), (3, .int p3)], [.int p2, .ref v31], (o1.1 ++ R), 0, 0)) rfl ?_
              obtain ⟨v33, e34, hq⟩ := bsm hq
              refine r_aI odX6_corner rfl (aI_ap e34) ?_
              cases hq
              exact mB_ret odX6_corner rfl
            · rw [if_neg c30] at hq
              refine r_tabd odX6_corner rfl (t := 92) (by omega) (ts_out3 c20 c25 c30) ?_
              refine mB_run odX6_corner 1 (g := (95, [(4, .ref v18), (0, .ref p0), (1, .int p1), (2, .int p2), (3, .int p3)], [.int (-1000 : Int32)], (o1.1 ++ R), 0, 0)) rfl ?_
              cases hq
              exact mB_ret odX6_corner rfl
      · rw [if_neg c13] at hq
        refine ic_lt_F (t := 31) odX6_corner rfl rfl c13 ?_
        refine mB_run odX6_corner 1 (g := (30, [(0, .ref p0), (1, .int p1), (2, .int p2), (3, .int p3)], [.int (-1000 : Int32)], (o1.1 ++ R), 0, 0)) rfl ?_
        cases hq
        exact mB_ret odX6_corner rfl
def fxX6_edge (N : Nat) (p0 : Nat) (p1 : Int32) (p2 : Int32) (p3 : Int32) (h : mh) : Option (mh × Int32) :=
  (fxX6_isSlot N p1 h).bind fun o1 =>
  if o1.2 = 0 then (
    some (o1.1, (-1 : Int32))) else (
    if p2 < 0 then (
      some (o1.1, (-1 : Int32))) else (
      (gR o1.1 p0 6 2).bind fun v5 =>
      (aR o1.1 v5 p1).bind fun v7 =>
      (gI o1.1 v7 0 6).bind fun v9 =>
      if v9 ≤ p2 then (
        some (o1.1, (-1 : Int32))) else (
        if p3 < 0 then (
          some (o1.1, (-1 : Int32))) else (
          if p3 ≤ (3 : Int32) then (
            (gR o1.1 p0 6 2).bind fun v14 =>
            (aR o1.1 v14 p1).bind fun v16 =>
            (gR o1.1 v16 0 7).bind fun v18 =>
            (aI o1.1 v18 (((4 : Int32) * p2) + p3)).bind fun v20 =>
            some (o1.1, v20)) else (
            some (o1.1, (-1 : Int32)))))))
set_option maxHeartbeats 4000000 in
set_option maxRecDepth 100000 in
theorem eaX6_edge {N : Nat} {R : mh} {p0 : Nat} {p1 : Int32} {p2 : Int32} {p3 : Int32} {h : mh} {o : (mh × Int32)} (hq : fxX6_edge N p0 p1 p2 p3 h = some o) : mC mX6_edge [.ref p0, .int p1, .int p2, .int p3] (h ++ R) (o.1 ++ R, some (.int o.2)) := by
  refine mC_of okX6_edge (Nat.le_of_ble_eq_true rfl) ?_
  unfold fxX6_edge at hq
  show mB _ mX6_edge (0, [(0, .ref p0), (1, .int p1), (2, .int p2), (3, .int p3)], [], (h ++ R), 0, 0)
  refine mB_run odX6_edge 1 (g := (1, [(0, .ref p0), (1, .int p1), (2, .int p2), (3, .int p3)], [.int p1], (h ++ R), 0, 0)) rfl ?_
  obtain ⟨o1, e2, hq⟩ := bsm hq
  refine mB_S (as := [.int p1]) odX6_edge okX6_isSlot lk_6_79 rfl (eaX6_isSlot e2) rfl rfl rfl ?_
  show mB _ mX6_edge (4, [(0, .ref p0), (1, .int p1), (2, .int p2), (3, .int p3)], [.int o1.2], (o1.1 ++ R), 0, 0)
  by_cases c3 : o1.2 = 0
  · rw [if_pos c3] at hq
    refine if_eq_T (t := 33) odX6_edge rfl rfl c3 ?_
    refine mB_run odX6_edge 1 (g := (34, [(0, .ref p0), (1, .int p1), (2, .int p2), (3, .int p3)], [.int (-1 : Int32)], (o1.1 ++ R), 0, 0)) rfl ?_
    cases hq
    exact mB_ret odX6_edge rfl
  · rw [if_neg c3] at hq
    refine if_eq_F (t := 33) odX6_edge rfl rfl c3 ?_
    refine mB_run odX6_edge 1 (g := (8, [(0, .ref p0), (1, .int p1), (2, .int p2), (3, .int p3)], [.int p2], (o1.1 ++ R), 0, 0)) rfl ?_
    by_cases c4 : p2 < 0
    · rw [if_pos c4] at hq
      refine if_lt_T (t := 33) odX6_edge rfl rfl c4 ?_
      refine mB_run odX6_edge 1 (g := (34, [(0, .ref p0), (1, .int p1), (2, .int p2), (3, .int p3)], [.int (-1 : Int32)], (o1.1 ++ R), 0, 0)) rfl ?_
      cases hq
      exact mB_ret odX6_edge rfl
    · rw [if_neg c4] at hq
      refine if_lt_F (t := 33) odX6_edge rfl rfl c4 ?_
      refine mB_run odX6_edge 2 (g := (13, [(0, .ref p0), (1, .int p1), (2, .int p2), (3, .int p3)], [.ref p0, .int p2], (o1.1 ++ R), 0, 0)) rfl ?_
      obtain ⟨v5, e6, hq⟩ := bsm hq
      refine r_gR odX6_edge rfl rfl (gR_ap e6) ?_
      refine mB_run odX6_edge 1 (g := (17, [(0, .ref p0), (1, .int p1), (2, .int p2), (3, .int p3)], [.int p1, .ref v5, .int p2], (o1.1 ++ R), 0, 0)) rfl ?_
      obtain ⟨v7, e8, hq⟩ := bsm hq
      refine r_aR odX6_edge rfl (aR_ap e8) ?_
      obtain ⟨v9, e10, hq⟩ := bsm hq
      refine r_gI odX6_edge rfl rfl (gI_ap e10) ?_
      by_cases c11 : v9 ≤ p2
      · rw [if_pos c11] at hq
        refine ic_ge_T (t := 33) odX6_edge rfl rfl c11 ?_
        refine mB_run odX6_edge 1 (g := (34, [(0, .ref p0), (1, .int p1), (2, .int p2), (3, .int p3)], [.int (-1 : Int32)], (o1.1 ++ R), 0, 0)) rfl ?_
        cases hq
        exact mB_ret odX6_edge rfl
      · rw [if_neg c11] at hq
        refine ic_ge_F (t := 33) odX6_edge rfl rfl c11 ?_
        refine mB_run odX6_edge 1 (g := (25, [(0, .ref p0), (1, .int p1), (2, .int p2), (3, .int p3)], [.int p3], (o1.1 ++ R), 0, 0)) rfl ?_
        by_cases c12 : p3 < 0
        · rw [if_pos c12] at hq
          refine if_lt_T (t := 33) odX6_edge rfl rfl c12 ?_
          refine mB_run odX6_edge 1 (g := (34, [(0, .ref p0), (1, .int p1), (2, .int p2), (3, .int p3)], [.int (-1 : Int32)], (o1.1 ++ R), 0, 0)) rfl ?_
          cases hq
          exact mB_ret odX6_edge rfl
        · rw [if_neg c12] at hq
          refine if_lt_F (t := 33) odX6_edge rfl rfl c12 ?_
          refine mB_run odX6_edge 2 (g := (30, [(0, .ref p0), (1, .int p1), (2, .int p2), (3, .int p3)], [.int (3 : Int32), .int p3], (o1.1 ++ R), 0, 0)) rfl ?_
          by_cases c13 : p3 ≤ (3 : Int32)
          · rw [if_pos c13] at hq
            refine ic_le_T (t := 35) odX6_edge rfl rfl c13 ?_
            refine mB_run odX6_edge 1 (g := (36, [(0, .ref p0), (1, .int p1), (2, .int p2), (3, .int p3)], [.ref p0], (o1.1 ++ R), 0, 0)) rfl ?_
            obtain ⟨v14, e15, hq⟩ := bsm hq
            refine r_gR odX6_edge rfl rfl (gR_ap e15) ?_
            refine mB_run odX6_edge 1 (g := (40, [(0, .ref p0), (1, .int p1), (2, .int p2), (3, .int p3)], [.int p1, .ref v14], (o1.1 ++ R), 0, 0)) rfl ?_
            obtain ⟨v16, e17, hq⟩ := bsm hq
            refine r_aR odX6_edge rfl (aR_ap e17) ?_
            obtain ⟨v18, e19, hq⟩ := bsm hq
            refine r_gR odX6_edge rfl rfl (gR_ap e19) ?_
            refine mB_run odX6_edge 5 (g := (49, [(0, .ref p0), (1, .int p1), (2, .int p2), (3, .int p3)], [.int (((4 : Int32) * p2) + p3), .ref v18], (o1.1 ++ R), 0, 0)) rfl ?_
            obtain ⟨v20, e21, hq⟩ := bsm hq
            refine r_aI odX6_edge rfl (aI_ap e21) ?_
            cases hq
            exact mB_ret odX6_edge rfl
          · rw [if_neg c13] at hq
            refine ic_le_F (t := 35) odX6_edge rfl rfl c13 ?_
            refine mB_run odX6_edge 1 (g := (34, [(0, .ref p0), (1, .int p1), (2, .int p2), (3, .int p3)], [.int (-1 : Int32)], (o1.1 ++ R), 0, 0)) rfl ?_
            cases hq
            exact mB_ret odX6_edge rfl
def fxX6_face (N : Nat) (p0 : Nat) (p1 : Int32) (p2 : Int32) (p3 : Int32) (h : mh) : Option (mh × Int64) :=
  (fxX6_isSlot N p1 h).bind fun o1 =>
  if o1.2 = 0 then (
    some (o1.1, (-2000000000 : Int64))) else (
    if p2 < 0 then (
      some (o1.1, (-2000000000 : Int64))) else (
      (gR o1.1 p0 6 2).bind fun v5 =>
      (aR o1.1 v5 p1).bind fun v7 =>
      (gI o1.1 v7 0 2).bind fun v9 =>
      if v9 ≤ p2 then (
        some (o1.1, (-2000000000 : Int64))) else (
        if 0 ≤ p3 then (
          (gR o1.1 p0 6 2).bind fun v13 =>
          (aR o1.1 v13 p1).bind fun v15 =>
          if (3 : Int32) < p3 then (
            (gR o1.1 v15 0 4).bind fun v18 =>
            (aI o1.1 v18 p2).bind fun v20 =>
            (gR o1.1 v15 0 4).bind fun v22 =>
            (aI o1.1 v22 (p2 + (1 : Int32))).bind fun v24 =>
            if p3 = (4 : Int32) then (
              some (o1.1, (v24 - v20).toInt64)) else (
              if p3 = (5 : Int32) then (
                (kO o1.1 v15 0).bind fun f30 =>
                (fxX0_wholeArea N v15 p2 o1.1).bind fun o28 =>
                some (o28.1, o28.2)) else (
                if (v24 - v20) ≤ (p3 - (6 : Int32)) then (
                  some (o1.1, (-2000000000 : Int64))) else (
                  (gR o1.1 v15 0 5).bind fun v33 =>
                  (aI o1.1 v33 ((v20 + p3) - (6 : Int32))).bind fun v35 =>
                  some (o1.1, v35.toInt64))))) else (
            (gR o1.1 v15 0 3).bind fun v37 =>
            (aI o1.1 v37 (((4 : Int32) * p2) + p3)).bind fun v39 =>
            some (o1.1, v39.toInt64))) else (
          some (o1.1, (-2000000000 : Int64))))))
set_option maxHeartbeats 4000000 in
set_option maxRecDepth 100000 in
theorem eaX6_face {N : Nat} {R : mh} {p0 : Nat} {p1 : Int32} {p2 : Int32} {p3 : Int32} {h : mh} {o : (mh × Int64)} (hq : fxX6_face N p0 p1 p2 p3 h = some o) : mC mX6_face [.ref p0, .int p1, .int p2, .int p3] (h ++ R) (o.1 ++ R, some (.long o.2)) := by
  refine mC_of okX6_face (Nat.le_of_ble_eq_true rfl) ?_
  unfold fxX6_face at hq
  show mB _ mX6_face (0, [(0, .ref p0), (1, .int p1), (2, .int p2), (3, .int p3)], [], (h ++ R), 0, 0)
  refine mB_run odX6_face 1 (g := (1, [(0, .ref p0), (1, .int p1), (2, .int p2), (3, .int p3)], [.int p1], (h ++ R), 0, 0)) rfl ?_
  obtain ⟨o1, e2, hq⟩ := bsm hq
  refine mB_S (as := [.int p1]) odX6_face okX6_isSlot lk_6_79 rfl (eaX6_isSlot e2) rfl rfl rfl ?_
  show mB _ mX6_face (4, [(0, .ref p0), (1, .int p1), (2, .int p2), (3, .int p3)], [.int o1.2], (o1.1 ++ R), 0, 0)
  by_cases c3 : o1.2 = 0
  · rw [if_pos c3] at hq
    refine if_eq_T (t := 28) odX6_face rfl rfl c3 ?_
    refine mB_run odX6_face 1 (g := (31, [(0, .ref p0), (1, .int p1), (2, .int p2), (3, .int p3)], [.long (-2000000000 : Int64)], (o1.1 ++ R), 0, 0)) rfl ?_
    cases hq
    exact mB_ret odX6_face rfl
  · rw [if_neg c3] at hq
    refine if_eq_F (t := 28) odX6_face rfl rfl c3 ?_
    refine mB_run odX6_face 1 (g := (8, [(0, .ref p0), (1, .int p1), (2, .int p2), (3, .int p3)], [.int p2], (o1.1 ++ R), 0, 0)) rfl ?_
    by_cases c4 : p2 < 0
    · rw [if_pos c4] at hq
      refine if_lt_T (t := 28) odX6_face rfl rfl c4 ?_
      refine mB_run odX6_face 1 (g := (31, [(0, .ref p0), (1, .int p1), (2, .int p2), (3, .int p3)], [.long (-2000000000 : Int64)], (o1.1 ++ R), 0, 0)) rfl ?_
      cases hq
      exact mB_ret odX6_face rfl
    · rw [if_neg c4] at hq
      refine if_lt_F (t := 28) odX6_face rfl rfl c4 ?_
      refine mB_run odX6_face 2 (g := (13, [(0, .ref p0), (1, .int p1), (2, .int p2), (3, .int p3)], [.ref p0, .int p2], (o1.1 ++ R), 0, 0)) rfl ?_
      obtain ⟨v5, e6, hq⟩ := bsm hq
      refine r_gR odX6_face rfl rfl (gR_ap e6) ?_
      refine mB_run odX6_face 1 (g := (17, [(0, .ref p0), (1, .int p1), (2, .int p2), (3, .int p3)], [.int p1, .ref v5, .int p2], (o1.1 ++ R), 0, 0)) rfl ?_
      obtain ⟨v7, e8, hq⟩ := bsm hq
      refine r_aR odX6_face rfl (aR_ap e8) ?_
      obtain ⟨v9, e10, hq⟩ := bsm hq
      refine r_gI odX6_face rfl rfl (gI_ap e10) ?_
      by_cases c11 : v9 ≤ p2
      · rw [if_pos c11] at hq
        refine ic_ge_T (t := 28) odX6_face rfl rfl c11 ?_
        refine mB_run odX6_face 1 (g := (31, [(0, .ref p0), (1, .int p1), (2, .int p2), (3, .int p3)], [.long (-2000000000 : Int64)], (o1.1 ++ R), 0, 0)) rfl ?_
        cases hq
        exact mB_ret odX6_face rfl
      · rw [if_neg c11] at hq
        refine ic_ge_F (t := 28) odX6_face rfl rfl c11 ?_
        refine mB_run odX6_face 1 (g := (25, [(0, .ref p0), (1, .int p1), (2, .int p2), (3, .int p3)], [.int p3], (o1.1 ++ R), 0, 0)) rfl ?_
        by_cases c12 : 0 ≤ p3
        · rw [if_pos c12] at hq
          refine if_ge_T (t := 32) odX6_face rfl rfl c12 ?_
          refine mB_run odX6_face 1 (g := (33, [(0, .ref p0), (1, .int p1), (2, .int p2), (3, .int p3)], [.ref p0], (o1.1 ++ R), 0, 0)) rfl ?_
          obtain ⟨v13, e14, hq⟩ := bsm hq
          refine r_gR odX6_face rfl rfl (gR_ap e14) ?_
          refine mB_run odX6_face 1 (g := (37, [(0, .ref p0), (1, .int p1), (2, .int p2), (3, .int p3)], [.int p1, .ref v13], (o1.1 ++ R), 0, 0)) rfl ?_
          obtain ⟨v15, e16, hq⟩ := bsm hq
          refine r_aR odX6_face rfl (aR_ap e16) ?_
          refine mB_run odX6_face 3 (g := (42, [(4, .ref v15), (0, .ref p0), (1, .int p1), (2, .int p2), (3, .int p3)], [.int (3 : Int32), .int p3], (o1.1 ++ R), 0, 0)) rfl ?_
          by_cases c17 : (3 : Int32) < p3
          · rw [if_pos c17] at hq
            refine ic_gt_T (t := 58) odX6_face rfl rfl c17 ?_
            refine mB_run odX6_face 1 (g := (60, [(4, .ref v15), (0, .ref p0), (1, .int p1), (2, .int p2), (3, .int p3)], [.ref v15], (o1.1 ++ R), 0, 0)) rfl ?_
            obtain ⟨v18, e19, hq⟩ := bsm hq
            refine r_gR odX6_face rfl rfl (gR_ap e19) ?_
            refine mB_run odX6_face 1 (g := (64, [(4, .ref v15), (0, .ref p0), (1, .int p1), (2, .int p2), (3, .int p3)], [.int p2, .ref v18], (o1.1 ++ R), 0, 0)) rfl ?_
            obtain ⟨v20, e21, hq⟩ := bsm hq
            refine r_aI odX6_face rfl (aI_ap e21) ?_
            refine mB_run odX6_face 2 (g := (69, [(5, .int v20), (4, .ref v15), (0, .ref p0), (1, .int p1), (2, .int p2), (3, .int p3)], [.ref v15], (o1.1 ++ R), 0, 0)) rfl ?_
            obtain ⟨v22, e23, hq⟩ := bsm hq
            refine r_gR odX6_face rfl rfl (gR_ap e23) ?_
            refine mB_run odX6_face 3 (g := (75, [(5, .int v20), (4, .ref v15), (0, .ref p0), (1, .int p1), (2, .int p2), (3, .int p3)], [.int (p2 + (1 : Int32)), .ref v22], (o1.1 ++ R), 0, 0)) rfl ?_
            obtain ⟨v24, e25, hq⟩ := bsm hq
            refine r_aI odX6_face rfl (aI_ap e25) ?_
            refine mB_run odX6_face 5 (g := (83, [(6, .int (v24 - v20)), (5, .int v20), (4, .ref v15), (0, .ref p0), (1, .int p1), (2, .int p2), (3, .int p3)], [.int (4 : Int32), .int p3], (o1.1 ++ R), 0, 0)) rfl ?_
            by_cases c26 : p3 = (4 : Int32)
            · rw [if_pos c26] at hq
              refine ic_ne_F (t := 90) odX6_face rfl rfl c26 ?_
              refine mB_run odX6_face 2 (g := (89, [(6, .int (v24 - v20)), (5, .int v20), (4, .ref v15), (0, .ref p0), (1, .int p1), (2, .int p2), (3, .int p3)], [.long (v24 - v20).toInt64], (o1.1 ++ R), 0, 0)) rfl ?_
              cases hq
              exact mB_ret odX6_face rfl
            · rw [if_neg c26] at hq
              refine ic_ne_T (t := 90) odX6_face rfl rfl c26 ?_
              refine mB_run odX6_face 2 (g := (92, [(6, .int (v24 - v20)), (5, .int v20), (4, .ref v15), (0, .ref p0), (1, .int p1), (2, .int p2), (3, .int p3)], [.int (5 : Int32), .int p3], (o1.1 ++ R), 0, 0)) rfl ?_
              by_cases c27 : p3 = (5 : Int32)
              · rw [if_pos c27] at hq
                refine ic_ne_F (t := 102) odX6_face rfl rfl c27 ?_
                refine mB_run odX6_face 2 (g := (98, [(6, .int (v24 - v20)), (5, .int v20), (4, .ref v15), (0, .ref p0), (1, .int p1), (2, .int p2), (3, .int p3)], [.int p2, .ref v15], (o1.1 ++ R), 0, 0)) rfl ?_
                obtain ⟨f30, k31, hq⟩ := bsm hq
                obtain ⟨o28, e29, hq⟩ := bsm hq
                refine mB_V (as := [.int p2]) odX6_face okX0_wholeArea lk_6_137 rfl (eaX0_wholeArea e29) (kO_at (kO_ap k31)) rfl rfl rfl ?_
                show mB _ mX6_face (101, [(6, .int (v24 - v20)), (5, .int v20), (4, .ref v15), (0, .ref p0), (1, .int p1), (2, .int p2), (3, .int p3)], [.long o28.2], (o28.1 ++ R), 0, 0)
                cases hq
                exact mB_ret odX6_face rfl
              · rw [if_neg c27] at hq
                refine ic_ne_T (t := 102) odX6_face rfl rfl c27 ?_
                refine mB_run odX6_face 4 (g := (108, [(6, .int (v24 - v20)), (5, .int v20), (4, .ref v15), (0, .ref p0), (1, .int p1), (2, .int p2), (3, .int p3)], [.int (v24 - v20), .int (p3 - (6 : Int32))], (o1.1 ++ R), 0, 0)) rfl ?_
                by_cases c32 : (v24 - v20) ≤ (p3 - (6 : Int32))
                · rw [if_pos c32] at hq
                  refine ic_ge_T (t := 128) odX6_face rfl rfl c32 ?_
                  refine mB_run odX6_face 1 (g := (131, [(6, .int (v24 - v20)), (5, .int v20), (4, .ref v15), (0, .ref p0), (1, .int p1), (2, .int p2), (3, .int p3)], [.long (-2000000000 : Int64)], (o1.1 ++ R), 0, 0)) rfl ?_
                  cases hq
                  exact mB_ret odX6_face rfl
                · rw [if_neg c32] at hq
                  refine ic_ge_F (t := 128) odX6_face rfl rfl c32 ?_
                  refine mB_run odX6_face 1 (g := (113, [(6, .int (v24 - v20)), (5, .int v20), (4, .ref v15), (0, .ref p0), (1, .int p1), (2, .int p2), (3, .int p3)], [.ref v15], (o1.1 ++ R), 0, 0)) rfl ?_
                  obtain ⟨v33, e34, hq⟩ := bsm hq
                  refine r_gR odX6_face rfl rfl (gR_ap e34) ?_
                  refine mB_run odX6_face 5 (g := (123, [(6, .int (v24 - v20)), (5, .int v20), (4, .ref v15), (0, .ref p0), (1, .int p1), (2, .int p2), (3, .int p3)], [.int ((v20 + p3) - (6 : Int32)), .ref v33], (o1.1 ++ R), 0, 0)) rfl ?_
                  obtain ⟨v35, e36, hq⟩ := bsm hq
                  refine r_aI odX6_face rfl (aI_ap e36) ?_
                  refine mB_run odX6_face 2 (g := (131, [(6, .int (v24 - v20)), (5, .int v20), (4, .ref v15), (0, .ref p0), (1, .int p1), (2, .int p2), (3, .int p3)], [.long v35.toInt64], (o1.1 ++ R), 0, 0)) rfl ?_
                  cases hq
                  exact mB_ret odX6_face rfl
          · rw [if_neg c17] at hq
            refine ic_gt_F (t := 58) odX6_face rfl rfl c17 ?_
            refine mB_run odX6_face 1 (g := (47, [(4, .ref v15), (0, .ref p0), (1, .int p1), (2, .int p2), (3, .int p3)], [.ref v15], (o1.1 ++ R), 0, 0)) rfl ?_
            obtain ⟨v37, e38, hq⟩ := bsm hq
            refine r_gR odX6_face rfl rfl (gR_ap e38) ?_
            refine mB_run odX6_face 5 (g := (55, [(4, .ref v15), (0, .ref p0), (1, .int p1), (2, .int p2), (3, .int p3)], [.int (((4 : Int32) * p2) + p3), .ref v37], (o1.1 ++ R), 0, 0)) rfl ?_
            obtain ⟨v39, e40, hq⟩ := bsm hq
            refine r_aI odX6_face rfl (aI_ap e40) ?_
            refine mB_run odX6_face 1 (g := (57, [(4, .ref v15), (0, .ref p0), (1, .int p1), (2, .int p2), (3, .int p3)], [.long v39.toInt64], (o1.1 ++ R), 0, 0)) rfl ?_
            cases hq
            exact mB_ret odX6_face rfl
        · rw [if_neg c12] at hq
          refine if_ge_F (t := 32) odX6_face rfl rfl c12 ?_
          refine mB_run odX6_face 1 (g := (31, [(0, .ref p0), (1, .int p1), (2, .int p2), (3, .int p3)], [.long (-2000000000 : Int64)], (o1.1 ++ R), 0, 0)) rfl ?_
          cases hq
          exact mB_ret odX6_face rfl
def fxX6_isWithin (N : Nat) (p0 : Int32) (p1 : Int32) (h : mh) : Option (mh × Int32) :=
  if p0 < (-p1) then (
    some (h, (0 : Int32))) else (
    if p1 < p0 then (
      some (h, (0 : Int32))) else (
      some (h, (1 : Int32))))
set_option maxHeartbeats 4000000 in
set_option maxRecDepth 100000 in
theorem eaX6_isWithin {N : Nat} {R : mh} {p0 : Int32} {p1 : Int32} {h : mh} {o : (mh × Int32)} (hq : fxX6_isWithin N p0 p1 h = some o) : mC mX6_isWithin [.int p0, .int p1] (h ++ R) (o.1 ++ R, some (.int o.2)) := by
  refine mC_of okX6_isWithin (Nat.le_of_ble_eq_true rfl) ?_
  unfold fxX6_isWithin at hq
  show mB _ mX6_isWithin (0, [(0, .int p0), (1, .int p1)], [], (h ++ R), 0, 0)
  refine mB_run odX6_isWithin 3 (g := (3, [(0, .int p0), (1, .int p1)], [.int (-p1), .int p0], (h ++ R), 0, 0)) rfl ?_
  by_cases c1 : p0 < (-p1)
  · rw [if_pos c1] at hq
    refine ic_lt_T (t := 15) odX6_isWithin rfl rfl c1 ?_
    refine mB_run odX6_isWithin 1 (g := (16, [(0, .int p0), (1, .int p1)], [.int (0 : Int32)], (h ++ R), 0, 0)) rfl ?_
    cases hq
    exact mB_ret odX6_isWithin rfl
  · rw [if_neg c1] at hq
    refine ic_lt_F (t := 15) odX6_isWithin rfl rfl c1 ?_
    refine mB_run odX6_isWithin 2 (g := (8, [(0, .int p0), (1, .int p1)], [.int p1, .int p0], (h ++ R), 0, 0)) rfl ?_
    by_cases c2 : p1 < p0
    · rw [if_pos c2] at hq
      refine ic_gt_T (t := 15) odX6_isWithin rfl rfl c2 ?_
      refine mB_run odX6_isWithin 1 (g := (16, [(0, .int p0), (1, .int p1)], [.int (0 : Int32)], (h ++ R), 0, 0)) rfl ?_
      cases hq
      exact mB_ret odX6_isWithin rfl
    · rw [if_neg c2] at hq
      refine ic_gt_F (t := 15) odX6_isWithin rfl rfl c2 ?_
      refine mB_run odX6_isWithin 2 (g := (16, [(0, .int p0), (1, .int p1)], [.int (1 : Int32)], (h ++ R), 0, 0)) rfl ?_
      cases hq
      exact mB_ret odX6_isWithin rfl
def fxX6_in (N : Nat) (p0 : Nat) (p1 : Int32) (p2 : Int32) (p3 : Int32) (p4 : Int32) (p5 : Int32) (h : mh) : Option (mh × Int32) :=
  (fxX6_isSlot N p1 h).bind fun o1 =>
  if o1.2 = 0 then (
    some (o1.1, (-1 : Int32))) else (
    if p5 < (1 : Int32) then (
      some (o1.1, (-1 : Int32))) else (
      if p5 ≤ (1000 : Int32) then (
        (fxX6_isWithin N p2 (1000000 : Int32) o1.1).bind fun o6 =>
        if o6.2 = 0 then (
          some (o6.1, (-1 : Int32))) else (
          (fxX6_isWithin N p3 (1000000 : Int32) o6.1).bind fun o9 =>
          if o9.2 = 0 then (
            some (o9.1, (-1 : Int32))) else (
            (fxX6_isWithin N p4 (1000000 : Int32) o9.1).bind fun o12 =>
            if o12.2 = 0 then (
              some (o12.1, (-1 : Int32))) else (
              (gR o12.1 p0 6 2).bind fun v15 =>
              (aR o12.1 v15 p1).bind fun v17 =>
              (kO o12.1 v17 0).bind fun f21 =>
              (fxX0_locate N v17 p2.toInt64 p3.toInt64 p4.toInt64 p5.toInt64 o12.1).bind fun o19 =>
              some (o19.1, o19.2))))) else (
        some (o1.1, (-1 : Int32)))))
set_option maxHeartbeats 4000000 in
set_option maxRecDepth 100000 in
theorem eaX6_in {N : Nat} {R : mh} {p0 : Nat} {p1 : Int32} {p2 : Int32} {p3 : Int32} {p4 : Int32} {p5 : Int32} {h : mh} {o : (mh × Int32)} (hq : fxX6_in N p0 p1 p2 p3 p4 p5 h = some o) : mC mX6_in [.ref p0, .int p1, .int p2, .int p3, .int p4, .int p5] (h ++ R) (o.1 ++ R, some (.int o.2)) := by
  refine mC_of okX6_in (Nat.le_of_ble_eq_true rfl) ?_
  unfold fxX6_in at hq
  show mB _ mX6_in (0, [(0, .ref p0), (1, .int p1), (2, .int p2), (3, .int p3), (4, .int p4), (5, .int p5)], [], (h ++ R), 0, 0)
  refine mB_run odX6_in 1 (g := (1, [(0, .ref p0), (1, .int p1), (2, .int p2), (3, .int p3), (4, .int p4), (5, .int p5)], [.int p1], (h ++ R), 0, 0)) rfl ?_
  obtain ⟨o1, e2, hq⟩ := bsm hq
  refine mB_S (as := [.int p1]) odX6_in okX6_isSlot lk_6_79 rfl (eaX6_isSlot e2) rfl rfl rfl ?_
  show mB _ mX6_in (4, [(0, .ref p0), (1, .int p1), (2, .int p2), (3, .int p3), (4, .int p4), (5, .int p5)], [.int o1.2], (o1.1 ++ R), 0, 0)
  by_cases c3 : o1.2 = 0
  · rw [if_pos c3] at hq
    refine if_eq_T (t := 21) odX6_in rfl rfl c3 ?_
    refine mB_run odX6_in 1 (g := (22, [(0, .ref p0), (1, .int p1), (2, .int p2), (3, .int p3), (4, .int p4), (5, .int p5)], [.int (-1 : Int32)], (o1.1 ++ R), 0, 0)) rfl ?_
    cases hq
    exact mB_ret odX6_in rfl
  · rw [if_neg c3] at hq
    refine if_eq_F (t := 21) odX6_in rfl rfl c3 ?_
    refine mB_run odX6_in 2 (g := (10, [(0, .ref p0), (1, .int p1), (2, .int p2), (3, .int p3), (4, .int p4), (5, .int p5)], [.int (1 : Int32), .int p5], (o1.1 ++ R), 0, 0)) rfl ?_
    by_cases c4 : p5 < (1 : Int32)
    · rw [if_pos c4] at hq
      refine ic_lt_T (t := 21) odX6_in rfl rfl c4 ?_
      refine mB_run odX6_in 1 (g := (22, [(0, .ref p0), (1, .int p1), (2, .int p2), (3, .int p3), (4, .int p4), (5, .int p5)], [.int (-1 : Int32)], (o1.1 ++ R), 0, 0)) rfl ?_
      cases hq
      exact mB_ret odX6_in rfl
    · rw [if_neg c4] at hq
      refine ic_lt_F (t := 21) odX6_in rfl rfl c4 ?_
      refine mB_run odX6_in 2 (g := (18, [(0, .ref p0), (1, .int p1), (2, .int p2), (3, .int p3), (4, .int p4), (5, .int p5)], [.int (1000 : Int32), .int p5], (o1.1 ++ R), 0, 0)) rfl ?_
      by_cases c5 : p5 ≤ (1000 : Int32)
      · rw [if_pos c5] at hq
        refine ic_le_T (t := 23) odX6_in rfl rfl c5 ?_
        refine mB_run odX6_in 2 (g := (26, [(0, .ref p0), (1, .int p1), (2, .int p2), (3, .int p3), (4, .int p4), (5, .int p5)], [.int (1000000 : Int32), .int p2], (o1.1 ++ R), 0, 0)) rfl ?_
        obtain ⟨o6, e7, hq⟩ := bsm hq
        refine mB_S (as := [.int p2, .int (1000000 : Int32)]) odX6_in okX6_isWithin lk_6_145 rfl (eaX6_isWithin e7) rfl rfl rfl ?_
        show mB _ mX6_in (29, [(0, .ref p0), (1, .int p1), (2, .int p2), (3, .int p3), (4, .int p4), (5, .int p5)], [.int o6.2], (o6.1 ++ R), 0, 0)
        by_cases c8 : o6.2 = 0
        · rw [if_pos c8] at hq
          refine if_eq_T (t := 51) odX6_in rfl rfl c8 ?_
          refine mB_run odX6_in 1 (g := (52, [(0, .ref p0), (1, .int p1), (2, .int p2), (3, .int p3), (4, .int p4), (5, .int p5)], [.int (-1 : Int32)], (o6.1 ++ R), 0, 0)) rfl ?_
          cases hq
          exact mB_ret odX6_in rfl
        · rw [if_neg c8] at hq
          refine if_eq_F (t := 51) odX6_in rfl rfl c8 ?_
          refine mB_run odX6_in 2 (g := (35, [(0, .ref p0), (1, .int p1), (2, .int p2), (3, .int p3), (4, .int p4), (5, .int p5)], [.int (1000000 : Int32), .int p3], (o6.1 ++ R), 0, 0)) rfl ?_
          obtain ⟨o9, e10, hq⟩ := bsm hq
          refine mB_S (as := [.int p3, .int (1000000 : Int32)]) odX6_in okX6_isWithin lk_6_145 rfl (eaX6_isWithin e10) rfl rfl rfl ?_
          show mB _ mX6_in (38, [(0, .ref p0), (1, .int p1), (2, .int p2), (3, .int p3), (4, .int p4), (5, .int p5)], [.int o9.2], (o9.1 ++ R), 0, 0)
          by_cases c11 : o9.2 = 0
          · rw [if_pos c11] at hq
            refine if_eq_T (t := 51) odX6_in rfl rfl c11 ?_
            refine mB_run odX6_in 1 (g := (52, [(0, .ref p0), (1, .int p1), (2, .int p2), (3, .int p3), (4, .int p4), (5, .int p5)], [.int (-1 : Int32)], (o9.1 ++ R), 0, 0)) rfl ?_
            cases hq
            exact mB_ret odX6_in rfl
          · rw [if_neg c11] at hq
            refine if_eq_F (t := 51) odX6_in rfl rfl c11 ?_
            refine mB_run odX6_in 2 (g := (45, [(0, .ref p0), (1, .int p1), (2, .int p2), (3, .int p3), (4, .int p4), (5, .int p5)], [.int (1000000 : Int32), .int p4], (o9.1 ++ R), 0, 0)) rfl ?_
            obtain ⟨o12, e13, hq⟩ := bsm hq
            refine mB_S (as := [.int p4, .int (1000000 : Int32)]) odX6_in okX6_isWithin lk_6_145 rfl (eaX6_isWithin e13) rfl rfl rfl ?_
            show mB _ mX6_in (48, [(0, .ref p0), (1, .int p1), (2, .int p2), (3, .int p3), (4, .int p4), (5, .int p5)], [.int o12.2], (o12.1 ++ R), 0, 0)
            by_cases c14 : o12.2 = 0
            · rw [if_pos c14] at hq
              refine if_ne_F (t := 53) odX6_in rfl rfl c14 ?_
              refine mB_run odX6_in 1 (g := (52, [(0, .ref p0), (1, .int p1), (2, .int p2), (3, .int p3), (4, .int p4), (5, .int p5)], [.int (-1 : Int32)], (o12.1 ++ R), 0, 0)) rfl ?_
              cases hq
              exact mB_ret odX6_in rfl
            · rw [if_neg c14] at hq
              refine if_ne_T (t := 53) odX6_in rfl rfl c14 ?_
              refine mB_run odX6_in 1 (g := (54, [(0, .ref p0), (1, .int p1), (2, .int p2), (3, .int p3), (4, .int p4), (5, .int p5)], [.ref p0], (o12.1 ++ R), 0, 0)) rfl ?_
              obtain ⟨v15, e16, hq⟩ := bsm hq
              refine r_gR odX6_in rfl rfl (gR_ap e16) ?_
              refine mB_run odX6_in 1 (g := (58, [(0, .ref p0), (1, .int p1), (2, .int p2), (3, .int p3), (4, .int p4), (5, .int p5)], [.int p1, .ref v15], (o12.1 ++ R), 0, 0)) rfl ?_
              obtain ⟨v17, e18, hq⟩ := bsm hq
              refine r_aR odX6_in rfl (aR_ap e18) ?_
              refine mB_run odX6_in 8 (g := (69, [(0, .ref p0), (1, .int p1), (2, .int p2), (3, .int p3), (4, .int p4), (5, .int p5)], [.long p5.toInt64, .long p4.toInt64, .long p3.toInt64, .long p2.toInt64, .ref v17], (o12.1 ++ R), 0, 0)) rfl ?_
              obtain ⟨f21, k22, hq⟩ := bsm hq
              obtain ⟨o19, e20, hq⟩ := bsm hq
              refine mB_V (as := [.long p2.toInt64, .long p3.toInt64, .long p4.toInt64, .long p5.toInt64]) odX6_in okX0_locate lk_6_149 rfl (eaX0_locate e20) (kO_at (kO_ap k22)) rfl rfl rfl ?_
              show mB _ mX6_in (72, [(0, .ref p0), (1, .int p1), (2, .int p2), (3, .int p3), (4, .int p4), (5, .int p5)], [.int o19.2], (o19.1 ++ R), 0, 0)
              cases hq
              exact mB_ret odX6_in rfl
      · rw [if_neg c5] at hq
        refine ic_le_F (t := 23) odX6_in rfl rfl c5 ?_
        refine mB_run odX6_in 1 (g := (22, [(0, .ref p0), (1, .int p1), (2, .int p2), (3, .int p3), (4, .int p4), (5, .int p5)], [.int (-1 : Int32)], (o1.1 ++ R), 0, 0)) rfl ?_
        cases hq
        exact mB_ret odX6_in rfl
def fxX6_side_137 (N : Nat) (rec82 : Int32 → Int32 → Int32 → Int32 → Nat → Int32 → Int32 → mh → Option (mh × Int32)) (x2 : Int32) (x3 : Int32) (x4 : Int32) (x5 : Int32) (x6 : Nat) (x8 : Int32) (s0 : Int32) (s1 : Int32) (h : mh) : Option (mh × Int32) :=
  rec82 x2 x3 x4 x5 x6 (s1 ||| s0) (x8 + (1 : Int32)) h
set_option maxHeartbeats 4000000 in
set_option maxRecDepth 100000 in
theorem eaX6_side_137 {N : Nat} {R : mh} {rec82 : Int32 → Int32 → Int32 → Int32 → Nat → Int32 → Int32 → mh → Option (mh × Int32)} (hrec82 : ∀ (x2 : Int32) (x3 : Int32) (x4 : Int32) (x5 : Int32) (x6 : Nat) (x7 : Int32) (x8 : Int32) (h : mh) {o : (mh × Int32)}, rec82 x2 x3 x4 x5 x6 x7 x8 h = some o → mB (gO mX6_side (o.1 ++ R, some (.int o.2))) mX6_side (82, [(2, .int x2), (3, .int x3), (4, .int x4), (5, .int x5), (6, .ref x6), (7, .int x7), (8, .int x8)], [], (h ++ R), 0, 0)) (x2 : Int32) (x3 : Int32) (x4 : Int32) (x5 : Int32) (x6 : Nat) (x8 : Int32) (s0 : Int32) (s1 : Int32) (h : mh) {o : (mh × Int32)} (hq : fxX6_side_137 N rec82 x2 x3 x4 x5 x6 x8 s0 s1 h = some o) : mB (gO mX6_side (o.1 ++ R, some (.int o.2))) mX6_side (137, [(2, .int x2), (3, .int x3), (4, .int x4), (5, .int x5), (6, .ref x6), (8, .int x8)], [.int s0, .int s1], (h ++ R), 0, 0) := by
  unfold fxX6_side_137 at hq
  refine mB_run odX6_side 4 (g := (82, [(8, .int (x8 + (1 : Int32))), (7, .int (s1 ||| s0)), (2, .int x2), (3, .int x3), (4, .int x4), (5, .int x5), (6, .ref x6)], [], (h ++ R), 0, 0)) rfl ?_
  refine mB_lv [2, 3, 4, 5, 6, 1, 0] (lv' := [(2, .int x2), (3, .int x3), (4, .int x4), (5, .int x5), (6, .ref x6), (7, .int (s1 ||| s0)), (8, .int (x8 + (1 : Int32)))]) rfl ?_
  exact hrec82 _ _ _ _ _ _ _ _ hq
def fxX6_side_82 (N : Nat) : Nat → Int32 → Int32 → Int32 → Int32 → Nat → Int32 → Int32 → mh → Option (mh × Int32)
  | 0, _, _, _, _, _, _, _, _ => none
  | n + 1, x2, x3, x4, x5, x6, x7, x8, h =>
    (gI h x6 3 0).bind fun v25 =>
    if v25 ≤ x8 then (
      some (h, x7)) else (
      (kO h x6 3).bind fun f30 =>
      (fxX3_along N x6 x8 x2.toInt64 x3.toInt64 x4.toInt64 h).bind fun o28 =>
      if (0 : Int64) ≤ (o28.2 - x5.toInt64) then (
        if (o28.2 - x5.toInt64) = (0 : Int64) then (
          fxX6_side_137 N (fxX6_side_82 N n) x2 x3 x4 x5 x6 x8 (2 : Int32) x7 o28.1) else (
          fxX6_side_137 N (fxX6_side_82 N n) x2 x3 x4 x5 x6 x8 (4 : Int32) x7 o28.1)) else (
        fxX6_side_137 N (fxX6_side_82 N n) x2 x3 x4 x5 x6 x8 (1 : Int32) x7 o28.1))
set_option maxHeartbeats 4000000 in
set_option maxRecDepth 100000 in
theorem eaX6_side_82 {N : Nat} {R : mh} : ∀ (n : Nat) (x2 : Int32) (x3 : Int32) (x4 : Int32) (x5 : Int32) (x6 : Nat) (x7 : Int32) (x8 : Int32) (h : mh) {o : (mh × Int32)}, fxX6_side_82 N n x2 x3 x4 x5 x6 x7 x8 h = some o → mB (gO mX6_side (o.1 ++ R, some (.int o.2))) mX6_side (82, [(2, .int x2), (3, .int x3), (4, .int x4), (5, .int x5), (6, .ref x6), (7, .int x7), (8, .int x8)], [], (h ++ R), 0, 0) := by
  intro n
  induction n with
  | zero => intro x2 x3 x4 x5 x6 x7 x8 h o hq; cases hq
  | succ n ih =>
    intro x2 x3 x4 x5 x6 x7 x8 h o hq
    unfold fxX6_side_82 at hq
    refine mB_run odX6_side 2 (g := (86, [(2, .int x2), (3, .int x3), (4, .int x4), (5, .int x5), (6, .ref x6), (7, .int x7), (8, .int x8)], [.ref x6, .int x8], (h ++ R), 0, 0)) rfl ?_
    obtain ⟨v25, e26, hq⟩ := bsm hq
    refine r_gI odX6_side rfl rfl (gI_ap e26) ?_
    by_cases c27 : v25 ≤ x8
    · rw [if_pos c27] at hq
      refine ic_ge_T (t := 146) odX6_side rfl rfl c27 ?_
      refine mB_run odX6_side 1 (g := (148, [(2, .int x2), (3, .int x3), (4, .int x4), (5, .int x5), (6, .ref x6), (7, .int x7), (8, .int x8)], [.int x7], (h ++ R), 0, 0)) rfl ?_
      cases hq
      exact mB_ret odX6_side rfl
    · rw [if_neg c27] at hq
      refine ic_ge_F (t := 146) odX6_side rfl rfl c27 ?_
      refine mB_run odX6_side 8 (g := (103, [(2, .int x2), (3, .int x3), (4, .int x4), (5, .int x5), (6, .ref x6), (7, .int x7), (8, .int x8)], [.long x4.toInt64, .long x3.toInt64, .long x2.toInt64, .int x8, .ref x6], (h ++ R), 0, 0)) rfl ?_
      obtain ⟨f30, k31, hq⟩ := bsm hq
      obtain ⟨o28, e29, hq⟩ := bsm hq
      refine mB_V (as := [.int x8, .long x2.toInt64, .long x3.toInt64, .long x4.toInt64]) odX6_side okX3_along lk_6_153 rfl (eaX3_along e29) (kO_at (kO_ap k31)) rfl rfl rfl ?_
      show mB _ mX6_side (106, [(2, .int x2), (3, .int x3), (4, .int x4), (5, .int x5), (6, .ref x6), (7, .int x7), (8, .int x8)], [.long o28.2], (o28.1 ++ R), 0, 0)
      refine mB_run odX6_side 7 (g := (117, [(9, .long (o28.2 - x5.toInt64)), (2, .int x2), (3, .int x3), (4, .int x4), (5, .int x5), (6, .ref x6), (7, .int x7), (8, .int x8)], [.long (0 : Int64), .long (o28.2 - x5.toInt64), .int x7], (o28.1 ++ R), 0, 0)) rfl ?_
      by_cases c32 : (0 : Int64) ≤ (o28.2 - x5.toInt64)
      · rw [if_pos c32] at hq
        refine lc_ge_T (t := 125) odX6_side rfl rfl rfl c32 ?_
        refine mB_run odX6_side 2 (g := (128, [(9, .long (o28.2 - x5.toInt64)), (2, .int x2), (3, .int x3), (4, .int x4), (5, .int x5), (6, .ref x6), (7, .int x7), (8, .int x8)], [.long (0 : Int64), .long (o28.2 - x5.toInt64), .int x7], (o28.1 ++ R), 0, 0)) rfl ?_
        by_cases c33 : (o28.2 - x5.toInt64) = (0 : Int64)
        · rw [if_pos c33] at hq
          refine lc_ne_F (t := 136) odX6_side rfl rfl rfl c33 ?_
          refine mB_run odX6_side 2 (g := (137, [(9, .long (o28.2 - x5.toInt64)), (2, .int x2), (3, .int x3), (4, .int x4), (5, .int x5), (6, .ref x6), (7, .int x7), (8, .int x8)], [.int (2 : Int32), .int x7], (o28.1 ++ R), 0, 0)) rfl ?_
          refine mB_lv [1, 2, 3, 4, 5, 7] (lv' := [(2, .int x2), (3, .int x3), (4, .int x4), (5, .int x5), (6, .ref x6), (8, .int x8)]) rfl ?_
          exact eaX6_side_137 ih _ _ _ _ _ _ _ _ _ hq
        · rw [if_neg c33] at hq
          refine lc_ne_T (t := 136) odX6_side rfl rfl rfl c33 ?_
          refine mB_run odX6_side 1 (g := (137, [(9, .long (o28.2 - x5.toInt64)), (2, .int x2), (3, .int x3), (4, .int x4), (5, .int x5), (6, .ref x6), (7, .int x7), (8, .int x8)], [.int (4 : Int32), .int x7], (o28.1 ++ R), 0, 0)) rfl ?_
          refine mB_lv [1, 2, 3, 4, 5, 7] (lv' := [(2, .int x2), (3, .int x3), (4, .int x4), (5, .int x5), (6, .ref x6), (8, .int x8)]) rfl ?_
          exact eaX6_side_137 ih _ _ _ _ _ _ _ _ _ hq
      · rw [if_neg c32] at hq
        refine lc_ge_F (t := 125) odX6_side rfl rfl rfl c32 ?_
        refine mB_run odX6_side 2 (g := (137, [(9, .long (o28.2 - x5.toInt64)), (2, .int x2), (3, .int x3), (4, .int x4), (5, .int x5), (6, .ref x6), (7, .int x7), (8, .int x8)], [.int (1 : Int32), .int x7], (o28.1 ++ R), 0, 0)) rfl ?_
        refine mB_lv [1, 2, 3, 4, 5, 7] (lv' := [(2, .int x2), (3, .int x3), (4, .int x4), (5, .int x5), (6, .ref x6), (8, .int x8)]) rfl ?_
        exact eaX6_side_137 ih _ _ _ _ _ _ _ _ _ hq
def fxX6_side_20 (N : Nat) (x0 : Nat) (x1 : Int32) (x2 : Int32) (x3 : Int32) (x4 : Int32) (x5 : Int32) (h : mh) : Option (mh × Int32) :=
  (fxX6_isWithin N x5 (1000000 : Int32) h).bind fun o7 =>
  if o7.2 = 0 then (
    some (o7.1, (-1 : Int32))) else (
    (fxX6_isWithin N x2 (1000 : Int32) o7.1).bind fun o10 =>
    if o10.2 = 0 then (
      some (o10.1, (-1 : Int32))) else (
      (fxX6_isWithin N x3 (1000 : Int32) o10.1).bind fun o13 =>
      if o13.2 = 0 then (
        some (o13.1, (-1 : Int32))) else (
        (fxX6_isWithin N x4 (1000 : Int32) o13.1).bind fun o16 =>
        if o16.2 = 0 then (
          some (o16.1, (-1 : Int32))) else (
          (gR o16.1 x0 6 2).bind fun v19 =>
          (aR o16.1 v19 x1).bind fun v21 =>
          (gR o16.1 v21 0 1).bind fun v23 =>
          fxX6_side_82 N N x2 x3 x4 x5 v23 (0 : Int32) (0 : Int32) o16.1))))
set_option maxHeartbeats 4000000 in
set_option maxRecDepth 100000 in
theorem eaX6_side_20 {N : Nat} {R : mh} (x0 : Nat) (x1 : Int32) (x2 : Int32) (x3 : Int32) (x4 : Int32) (x5 : Int32) (h : mh) {o : (mh × Int32)} (hq : fxX6_side_20 N x0 x1 x2 x3 x4 x5 h = some o) : mB (gO mX6_side (o.1 ++ R, some (.int o.2))) mX6_side (20, [(0, .ref x0), (1, .int x1), (2, .int x2), (3, .int x3), (4, .int x4), (5, .int x5)], [], (h ++ R), 0, 0) := by
  unfold fxX6_side_20 at hq
  refine mB_run odX6_side 2 (g := (24, [(0, .ref x0), (1, .int x1), (2, .int x2), (3, .int x3), (4, .int x4), (5, .int x5)], [.int (1000000 : Int32), .int x5], (h ++ R), 0, 0)) rfl ?_
  obtain ⟨o7, e8, hq⟩ := bsm hq
  refine mB_S (as := [.int x5, .int (1000000 : Int32)]) odX6_side okX6_isWithin lk_6_145 rfl (eaX6_isWithin e8) rfl rfl rfl ?_
  show mB _ mX6_side (27, [(0, .ref x0), (1, .int x1), (2, .int x2), (3, .int x3), (4, .int x4), (5, .int x5)], [.int o7.2], (o7.1 ++ R), 0, 0)
  by_cases c9 : o7.2 = 0
  · rw [if_pos c9] at hq
    refine if_ne_F (t := 32) odX6_side rfl rfl c9 ?_
    refine mB_run odX6_side 1 (g := (31, [(0, .ref x0), (1, .int x1), (2, .int x2), (3, .int x3), (4, .int x4), (5, .int x5)], [.int (-1 : Int32)], (o7.1 ++ R), 0, 0)) rfl ?_
    cases hq
    exact mB_ret odX6_side rfl
  · rw [if_neg c9] at hq
    refine if_ne_T (t := 32) odX6_side rfl rfl c9 ?_
    refine mB_run odX6_side 2 (g := (36, [(0, .ref x0), (1, .int x1), (2, .int x2), (3, .int x3), (4, .int x4), (5, .int x5)], [.int (1000 : Int32), .int x2], (o7.1 ++ R), 0, 0)) rfl ?_
    obtain ⟨o10, e11, hq⟩ := bsm hq
    refine mB_S (as := [.int x2, .int (1000 : Int32)]) odX6_side okX6_isWithin lk_6_145 rfl (eaX6_isWithin e11) rfl rfl rfl ?_
    show mB _ mX6_side (39, [(0, .ref x0), (1, .int x1), (2, .int x2), (3, .int x3), (4, .int x4), (5, .int x5)], [.int o10.2], (o10.1 ++ R), 0, 0)
    by_cases c12 : o10.2 = 0
    · rw [if_pos c12] at hq
      refine if_eq_T (t := 63) odX6_side rfl rfl c12 ?_
      refine mB_run odX6_side 1 (g := (64, [(0, .ref x0), (1, .int x1), (2, .int x2), (3, .int x3), (4, .int x4), (5, .int x5)], [.int (-1 : Int32)], (o10.1 ++ R), 0, 0)) rfl ?_
      cases hq
      exact mB_ret odX6_side rfl
    · rw [if_neg c12] at hq
      refine if_eq_F (t := 63) odX6_side rfl rfl c12 ?_
      refine mB_run odX6_side 2 (g := (46, [(0, .ref x0), (1, .int x1), (2, .int x2), (3, .int x3), (4, .int x4), (5, .int x5)], [.int (1000 : Int32), .int x3], (o10.1 ++ R), 0, 0)) rfl ?_
      obtain ⟨o13, e14, hq⟩ := bsm hq
      refine mB_S (as := [.int x3, .int (1000 : Int32)]) odX6_side okX6_isWithin lk_6_145 rfl (eaX6_isWithin e14) rfl rfl rfl ?_
      show mB _ mX6_side (49, [(0, .ref x0), (1, .int x1), (2, .int x2), (3, .int x3), (4, .int x4), (5, .int x5)], [.int o13.2], (o13.1 ++ R), 0, 0)
      by_cases c15 : o13.2 = 0
      · rw [if_pos c15] at hq
        refine if_eq_T (t := 63) odX6_side rfl rfl c15 ?_
        refine mB_run odX6_side 1 (g := (64, [(0, .ref x0), (1, .int x1), (2, .int x2), (3, .int x3), (4, .int x4), (5, .int x5)], [.int (-1 : Int32)], (o13.1 ++ R), 0, 0)) rfl ?_
        cases hq
        exact mB_ret odX6_side rfl
      · rw [if_neg c15] at hq
        refine if_eq_F (t := 63) odX6_side rfl rfl c15 ?_
        refine mB_run odX6_side 2 (g := (57, [(0, .ref x0), (1, .int x1), (2, .int x2), (3, .int x3), (4, .int x4), (5, .int x5)], [.int (1000 : Int32), .int x4], (o13.1 ++ R), 0, 0)) rfl ?_
        obtain ⟨o16, e17, hq⟩ := bsm hq
        refine mB_S (as := [.int x4, .int (1000 : Int32)]) odX6_side okX6_isWithin lk_6_145 rfl (eaX6_isWithin e17) rfl rfl rfl ?_
        show mB _ mX6_side (60, [(0, .ref x0), (1, .int x1), (2, .int x2), (3, .int x3), (4, .int x4), (5, .int x5)], [.int o16.2], (o16.1 ++ R), 0, 0)
        by_cases c18 : o16.2 = 0
        · rw [if_pos c18] at hq
          refine if_ne_F (t := 65) odX6_side rfl rfl c18 ?_
          refine mB_run odX6_side 1 (g := (64, [(0, .ref x0), (1, .int x1), (2, .int x2), (3, .int x3), (4, .int x4), (5, .int x5)], [.int (-1 : Int32)], (o16.1 ++ R), 0, 0)) rfl ?_
          cases hq
          exact mB_ret odX6_side rfl
        · rw [if_neg c18] at hq
          refine if_ne_T (t := 65) odX6_side rfl rfl c18 ?_
          refine mB_run odX6_side 1 (g := (66, [(0, .ref x0), (1, .int x1), (2, .int x2), (3, .int x3), (4, .int x4), (5, .int x5)], [.ref x0], (o16.1 ++ R), 0, 0)) rfl ?_
          obtain ⟨v19, e20, hq⟩ := bsm hq
          refine r_gR odX6_side rfl rfl (gR_ap e20) ?_
          refine mB_run odX6_side 1 (g := (70, [(0, .ref x0), (1, .int x1), (2, .int x2), (3, .int x3), (4, .int x4), (5, .int x5)], [.int x1, .ref v19], (o16.1 ++ R), 0, 0)) rfl ?_
          obtain ⟨v21, e22, hq⟩ := bsm hq
          refine r_aR odX6_side rfl (aR_ap e22) ?_
          obtain ⟨v23, e24, hq⟩ := bsm hq
          refine r_gR odX6_side rfl rfl (gR_ap e24) ?_
          refine mB_run odX6_side 5 (g := (82, [(8, .int (0 : Int32)), (7, .int (0 : Int32)), (6, .ref v23), (0, .ref x0), (1, .int x1), (2, .int x2), (3, .int x3), (4, .int x4), (5, .int x5)], [], (o16.1 ++ R), 0, 0)) rfl ?_
          refine mB_lv [5, 6, 7, 8, 2, 1, 0] (lv' := [(2, .int x2), (3, .int x3), (4, .int x4), (5, .int x5), (6, .ref v23), (7, .int (0 : Int32)), (8, .int (0 : Int32))]) rfl ?_
          exact eaX6_side_82 N _ _ _ _ _ _ _ _ hq
def fxX6_side (N : Nat) (p0 : Nat) (p1 : Int32) (p2 : Int32) (p3 : Int32) (p4 : Int32) (p5 : Int32) (h : mh) : Option (mh × Int32) :=
  (fxX6_isSlot N p1 h).bind fun o1 =>
  if o1.2 = 0 then (
    some (o1.1, (-1 : Int32))) else (
    if p2 = 0 then (
      if p3 = 0 then (
        if p4 = 0 then (
          some (o1.1, (-1 : Int32))) else (
          fxX6_side_20 N p0 p1 p2 p3 p4 p5 o1.1)) else (
        fxX6_side_20 N p0 p1 p2 p3 p4 p5 o1.1)) else (
      fxX6_side_20 N p0 p1 p2 p3 p4 p5 o1.1))
set_option maxHeartbeats 4000000 in
set_option maxRecDepth 100000 in
theorem eaX6_side {N : Nat} {R : mh} {p0 : Nat} {p1 : Int32} {p2 : Int32} {p3 : Int32} {p4 : Int32} {p5 : Int32} {h : mh} {o : (mh × Int32)} (hq : fxX6_side N p0 p1 p2 p3 p4 p5 h = some o) : mC mX6_side [.ref p0, .int p1, .int p2, .int p3, .int p4, .int p5] (h ++ R) (o.1 ++ R, some (.int o.2)) := by
  refine mC_of okX6_side (Nat.le_of_ble_eq_true rfl) ?_
  unfold fxX6_side at hq
  show mB _ mX6_side (0, [(0, .ref p0), (1, .int p1), (2, .int p2), (3, .int p3), (4, .int p4), (5, .int p5)], [], (h ++ R), 0, 0)
  refine mB_run odX6_side 1 (g := (1, [(0, .ref p0), (1, .int p1), (2, .int p2), (3, .int p3), (4, .int p4), (5, .int p5)], [.int p1], (h ++ R), 0, 0)) rfl ?_
  obtain ⟨o1, e2, hq⟩ := bsm hq
  refine mB_S (as := [.int p1]) odX6_side okX6_isSlot lk_6_79 rfl (eaX6_isSlot e2) rfl rfl rfl ?_
  show mB _ mX6_side (4, [(0, .ref p0), (1, .int p1), (2, .int p2), (3, .int p3), (4, .int p4), (5, .int p5)], [.int o1.2], (o1.1 ++ R), 0, 0)
  by_cases c3 : o1.2 = 0
  · rw [if_pos c3] at hq
    refine if_eq_T (t := 30) odX6_side rfl rfl c3 ?_
    refine mB_run odX6_side 1 (g := (31, [(0, .ref p0), (1, .int p1), (2, .int p2), (3, .int p3), (4, .int p4), (5, .int p5)], [.int (-1 : Int32)], (o1.1 ++ R), 0, 0)) rfl ?_
    cases hq
    exact mB_ret odX6_side rfl
  · rw [if_neg c3] at hq
    refine if_eq_F (t := 30) odX6_side rfl rfl c3 ?_
    refine mB_run odX6_side 1 (g := (8, [(0, .ref p0), (1, .int p1), (2, .int p2), (3, .int p3), (4, .int p4), (5, .int p5)], [.int p2], (o1.1 ++ R), 0, 0)) rfl ?_
    by_cases c4 : p2 = 0
    · rw [if_pos c4] at hq
      refine if_ne_F (t := 20) odX6_side rfl rfl c4 ?_
      refine mB_run odX6_side 1 (g := (12, [(0, .ref p0), (1, .int p1), (2, .int p2), (3, .int p3), (4, .int p4), (5, .int p5)], [.int p3], (o1.1 ++ R), 0, 0)) rfl ?_
      by_cases c5 : p3 = 0
      · rw [if_pos c5] at hq
        refine if_ne_F (t := 20) odX6_side rfl rfl c5 ?_
        refine mB_run odX6_side 1 (g := (17, [(0, .ref p0), (1, .int p1), (2, .int p2), (3, .int p3), (4, .int p4), (5, .int p5)], [.int p4], (o1.1 ++ R), 0, 0)) rfl ?_
        by_cases c6 : p4 = 0
        · rw [if_pos c6] at hq
          refine if_eq_T (t := 30) odX6_side rfl rfl c6 ?_
          refine mB_run odX6_side 1 (g := (31, [(0, .ref p0), (1, .int p1), (2, .int p2), (3, .int p3), (4, .int p4), (5, .int p5)], [.int (-1 : Int32)], (o1.1 ++ R), 0, 0)) rfl ?_
          cases hq
          exact mB_ret odX6_side rfl
        · rw [if_neg c6] at hq
          refine if_eq_F (t := 30) odX6_side rfl rfl c6 ?_
          refine mB_lv [0, 1, 2, 3, 4, 5] (lv' := [(0, .ref p0), (1, .int p1), (2, .int p2), (3, .int p3), (4, .int p4), (5, .int p5)]) rfl ?_
          exact eaX6_side_20 _ _ _ _ _ _ _ hq
      · rw [if_neg c5] at hq
        refine if_ne_T (t := 20) odX6_side rfl rfl c5 ?_
        refine mB_lv [0, 1, 2, 3, 4, 5] (lv' := [(0, .ref p0), (1, .int p1), (2, .int p2), (3, .int p3), (4, .int p4), (5, .int p5)]) rfl ?_
        exact eaX6_side_20 _ _ _ _ _ _ _ hq
    · rw [if_neg c4] at hq
      refine if_ne_T (t := 20) odX6_side rfl rfl c4 ?_
      refine mB_lv [0, 1, 2, 3, 4, 5] (lv' := [(0, .ref p0), (1, .int p1), (2, .int p2), (3, .int p3), (4, .int p4), (5, .int p5)]) rfl ?_
      exact eaX6_side_20 _ _ _ _ _ _ _ hq
def fxX6_volume (N : Nat) (p0 : Nat) (p1 : Int32) (h : mh) : Option (mh × Int64) :=
  (fxX6_isSlot N p1 h).bind fun o1 =>
  if o1.2 = 0 then (
    some (o1.1, (-1 : Int64))) else (
    (gR o1.1 p0 6 2).bind fun v4 =>
    (aR o1.1 v4 p1).bind fun v6 =>
    (kO o1.1 v6 0).bind fun f10 =>
    (fxX0_sixVolumes N v6 o1.1).bind fun o8 =>
    some (o8.1, o8.2))
set_option maxHeartbeats 4000000 in
set_option maxRecDepth 100000 in
theorem eaX6_volume {N : Nat} {R : mh} {p0 : Nat} {p1 : Int32} {h : mh} {o : (mh × Int64)} (hq : fxX6_volume N p0 p1 h = some o) : mC mX6_volume [.ref p0, .int p1] (h ++ R) (o.1 ++ R, some (.long o.2)) := by
  refine mC_of okX6_volume (Nat.le_of_ble_eq_true rfl) ?_
  unfold fxX6_volume at hq
  show mB _ mX6_volume (0, [(0, .ref p0), (1, .int p1)], [], (h ++ R), 0, 0)
  refine mB_run odX6_volume 1 (g := (1, [(0, .ref p0), (1, .int p1)], [.int p1], (h ++ R), 0, 0)) rfl ?_
  obtain ⟨o1, e2, hq⟩ := bsm hq
  refine mB_S (as := [.int p1]) odX6_volume okX6_isSlot lk_6_79 rfl (eaX6_isSlot e2) rfl rfl rfl ?_
  show mB _ mX6_volume (4, [(0, .ref p0), (1, .int p1)], [.int o1.2], (o1.1 ++ R), 0, 0)
  by_cases c3 : o1.2 = 0
  · rw [if_pos c3] at hq
    refine if_eq_T (t := 19) odX6_volume rfl rfl c3 ?_
    refine mB_run odX6_volume 1 (g := (22, [(0, .ref p0), (1, .int p1)], [.long (-1 : Int64)], (o1.1 ++ R), 0, 0)) rfl ?_
    cases hq
    exact mB_ret odX6_volume rfl
  · rw [if_neg c3] at hq
    refine if_eq_F (t := 19) odX6_volume rfl rfl c3 ?_
    refine mB_run odX6_volume 1 (g := (8, [(0, .ref p0), (1, .int p1)], [.ref p0], (o1.1 ++ R), 0, 0)) rfl ?_
    obtain ⟨v4, e5, hq⟩ := bsm hq
    refine r_gR odX6_volume rfl rfl (gR_ap e5) ?_
    refine mB_run odX6_volume 1 (g := (12, [(0, .ref p0), (1, .int p1)], [.int p1, .ref v4], (o1.1 ++ R), 0, 0)) rfl ?_
    obtain ⟨v6, e7, hq⟩ := bsm hq
    refine r_aR odX6_volume rfl (aR_ap e7) ?_
    obtain ⟨f10, k11, hq⟩ := bsm hq
    obtain ⟨o8, e9, hq⟩ := bsm hq
    refine mB_V (as := []) odX6_volume okX0_sixVolumes lk_6_157 rfl (eaX0_sixVolumes e9) (kO_at (kO_ap k11)) rfl rfl rfl ?_
    show mB _ mX6_volume (16, [(0, .ref p0), (1, .int p1)], [.long o8.2], (o8.1 ++ R), 0, 0)
    refine mB_run odX6_volume 1 (g := (22, [(0, .ref p0), (1, .int p1)], [.long o8.2], (o8.1 ++ R), 0, 0)) rfl ?_
    cases hq
    exact mB_ret odX6_volume rfl
def fxX6_isTopOrBottom (N : Nat) (p0 : Int32) (h : mh) : Option (mh × Int32) :=
  if p0 = 0 then (
    some (h, (1 : Int32))) else (
    if p0 = (1 : Int32) then (
      some (h, (1 : Int32))) else (
      some (h, (0 : Int32))))
set_option maxHeartbeats 4000000 in
set_option maxRecDepth 100000 in
theorem eaX6_isTopOrBottom {N : Nat} {R : mh} {p0 : Int32} {h : mh} {o : (mh × Int32)} (hq : fxX6_isTopOrBottom N p0 h = some o) : mC mX6_isTopOrBottom [.int p0] (h ++ R) (o.1 ++ R, some (.int o.2)) := by
  refine mC_of okX6_isTopOrBottom (Nat.le_of_ble_eq_true rfl) ?_
  unfold fxX6_isTopOrBottom at hq
  show mB _ mX6_isTopOrBottom (0, [(0, .int p0)], [], (h ++ R), 0, 0)
  refine mB_run odX6_isTopOrBottom 1 (g := (1, [(0, .int p0)], [.int p0], (h ++ R), 0, 0)) rfl ?_
  by_cases c1 : p0 = 0
  · rw [if_pos c1] at hq
    refine if_eq_T (t := 9) odX6_isTopOrBottom rfl rfl c1 ?_
    refine mB_run odX6_isTopOrBottom 2 (g := (14, [(0, .int p0)], [.int (1 : Int32)], (h ++ R), 0, 0)) rfl ?_
    cases hq
    exact mB_ret odX6_isTopOrBottom rfl
  · rw [if_neg c1] at hq
    refine if_eq_F (t := 9) odX6_isTopOrBottom rfl rfl c1 ?_
    refine mB_run odX6_isTopOrBottom 2 (g := (6, [(0, .int p0)], [.int (1 : Int32), .int p0], (h ++ R), 0, 0)) rfl ?_
    by_cases c2 : p0 = (1 : Int32)
    · rw [if_pos c2] at hq
      refine ic_ne_F (t := 13) odX6_isTopOrBottom rfl rfl c2 ?_
      refine mB_run odX6_isTopOrBottom 2 (g := (14, [(0, .int p0)], [.int (1 : Int32)], (h ++ R), 0, 0)) rfl ?_
      cases hq
      exact mB_ret odX6_isTopOrBottom rfl
    · rw [if_neg c2] at hq
      refine ic_ne_T (t := 13) odX6_isTopOrBottom rfl rfl c2 ?_
      refine mB_run odX6_isTopOrBottom 1 (g := (14, [(0, .int p0)], [.int (0 : Int32)], (h ++ R), 0, 0)) rfl ?_
      cases hq
      exact mB_ret odX6_isTopOrBottom rfl
def fxX6_middle (N : Nat) (p0 : Nat) (p1 : Int32) (p2 : Int32) (p3 : Int32) (h : mh) : Option (mh × Int64) :=
  (fxX6_isSlot N p1 h).bind fun o1 =>
  if o1.2 = 0 then (
    some (o1.1, (0 : Int64))) else (
    (gR o1.1 p0 6 2).bind fun v4 =>
    (aR o1.1 v4 p1).bind fun v6 =>
    (gI o1.1 v6 0 0).bind fun v8 =>
    if v8 = (4 : Int32) then (
      if p2 < 0 then (
        some (o1.1, (0 : Int64))) else (
        if (2 : Int32) < p2 then (
          some (o1.1, (0 : Int64))) else (
          (fxX6_isTopOrBottom N p3 o1.1).bind fun o13 =>
          if o13.2 = 0 then (
            some (o13.1, (0 : Int64))) else (
            (gR o13.1 p0 6 12).bind fun v16 =>
            (gR o13.1 p0 6 2).bind fun v18 =>
            (aR o13.1 v18 p1).bind fun v20 =>
            (kO o13.1 v20 0).bind fun f24 =>
            (fxX0_moment N v20 p2 o13.1).bind fun o22 =>
            (gR o22.1 p0 6 2).bind fun v26 =>
            (aR o22.1 v26 p1).bind fun v28 =>
            (kO o22.1 v28 0).bind fun f32 =>
            (fxX0_sixVolumes N v28 o22.1).bind fun o30 =>
            (kO o30.1 v16 4).bind fun f36 =>
            (fxX4_put N v16 o22.2 ((4 : Int64) * o30.2) o30.1).bind fun o34 =>
            (gR o34 p0 6 12).bind fun v38 =>
            (kO o34 v38 4).bind fun f42 =>
            (fxX4_part N v38 p3 o34).bind fun o40 =>
            some (o40.1, o40.2))))) else (
      some (o1.1, (0 : Int64))))
set_option maxHeartbeats 4000000 in
set_option maxRecDepth 100000 in
theorem eaX6_middle {N : Nat} {R : mh} {p0 : Nat} {p1 : Int32} {p2 : Int32} {p3 : Int32} {h : mh} {o : (mh × Int64)} (hq : fxX6_middle N p0 p1 p2 p3 h = some o) : mC mX6_middle [.ref p0, .int p1, .int p2, .int p3] (h ++ R) (o.1 ++ R, some (.long o.2)) := by
  refine mC_of okX6_middle (Nat.le_of_ble_eq_true rfl) ?_
  unfold fxX6_middle at hq
  show mB _ mX6_middle (0, [(0, .ref p0), (1, .int p1), (2, .int p2), (3, .int p3)], [], (h ++ R), 0, 0)
  refine mB_run odX6_middle 1 (g := (1, [(0, .ref p0), (1, .int p1), (2, .int p2), (3, .int p3)], [.int p1], (h ++ R), 0, 0)) rfl ?_
  obtain ⟨o1, e2, hq⟩ := bsm hq
  refine mB_S (as := [.int p1]) odX6_middle okX6_isSlot lk_6_79 rfl (eaX6_isSlot e2) rfl rfl rfl ?_
  show mB _ mX6_middle (4, [(0, .ref p0), (1, .int p1), (2, .int p2), (3, .int p3)], [.int o1.2], (o1.1 ++ R), 0, 0)
  by_cases c3 : o1.2 = 0
  · rw [if_pos c3] at hq
    refine if_eq_T (t := 36) odX6_middle rfl rfl c3 ?_
    refine mB_run odX6_middle 1 (g := (37, [(0, .ref p0), (1, .int p1), (2, .int p2), (3, .int p3)], [.long (0 : Int64)], (o1.1 ++ R), 0, 0)) rfl ?_
    cases hq
    exact mB_ret odX6_middle rfl
  · rw [if_neg c3] at hq
    refine if_eq_F (t := 36) odX6_middle rfl rfl c3 ?_
    refine mB_run odX6_middle 1 (g := (8, [(0, .ref p0), (1, .int p1), (2, .int p2), (3, .int p3)], [.ref p0], (o1.1 ++ R), 0, 0)) rfl ?_
    obtain ⟨v4, e5, hq⟩ := bsm hq
    refine r_gR odX6_middle rfl rfl (gR_ap e5) ?_
    refine mB_run odX6_middle 1 (g := (12, [(0, .ref p0), (1, .int p1), (2, .int p2), (3, .int p3)], [.int p1, .ref v4], (o1.1 ++ R), 0, 0)) rfl ?_
    obtain ⟨v6, e7, hq⟩ := bsm hq
    refine r_aR odX6_middle rfl (aR_ap e7) ?_
    obtain ⟨v8, e9, hq⟩ := bsm hq
    refine r_gI odX6_middle rfl rfl (gI_ap e9) ?_
    refine mB_run odX6_middle 1 (g := (17, [(0, .ref p0), (1, .int p1), (2, .int p2), (3, .int p3)], [.int (4 : Int32), .int v8], (o1.1 ++ R), 0, 0)) rfl ?_
    by_cases c10 : v8 = (4 : Int32)
    · rw [if_pos c10] at hq
      refine ic_ne_F (t := 36) odX6_middle rfl rfl c10 ?_
      refine mB_run odX6_middle 1 (g := (21, [(0, .ref p0), (1, .int p1), (2, .int p2), (3, .int p3)], [.int p2], (o1.1 ++ R), 0, 0)) rfl ?_
      by_cases c11 : p2 < 0
      · rw [if_pos c11] at hq
        refine if_lt_T (t := 36) odX6_middle rfl rfl c11 ?_
        refine mB_run odX6_middle 1 (g := (37, [(0, .ref p0), (1, .int p1), (2, .int p2), (3, .int p3)], [.long (0 : Int64)], (o1.1 ++ R), 0, 0)) rfl ?_
        cases hq
        exact mB_ret odX6_middle rfl
      · rw [if_neg c11] at hq
        refine if_lt_F (t := 36) odX6_middle rfl rfl c11 ?_
        refine mB_run odX6_middle 2 (g := (26, [(0, .ref p0), (1, .int p1), (2, .int p2), (3, .int p3)], [.int (2 : Int32), .int p2], (o1.1 ++ R), 0, 0)) rfl ?_
        by_cases c12 : (2 : Int32) < p2
        · rw [if_pos c12] at hq
          refine ic_gt_T (t := 36) odX6_middle rfl rfl c12 ?_
          refine mB_run odX6_middle 1 (g := (37, [(0, .ref p0), (1, .int p1), (2, .int p2), (3, .int p3)], [.long (0 : Int64)], (o1.1 ++ R), 0, 0)) rfl ?_
          cases hq
          exact mB_ret odX6_middle rfl
        · rw [if_neg c12] at hq
          refine ic_gt_F (t := 36) odX6_middle rfl rfl c12 ?_
          refine mB_run odX6_middle 1 (g := (30, [(0, .ref p0), (1, .int p1), (2, .int p2), (3, .int p3)], [.int p3], (o1.1 ++ R), 0, 0)) rfl ?_
          obtain ⟨o13, e14, hq⟩ := bsm hq
          refine mB_S (as := [.int p3]) odX6_middle okX6_isTopOrBottom lk_6_163 rfl (eaX6_isTopOrBottom e14) rfl rfl rfl ?_
          show mB _ mX6_middle (33, [(0, .ref p0), (1, .int p1), (2, .int p2), (3, .int p3)], [.int o13.2], (o13.1 ++ R), 0, 0)
          by_cases c15 : o13.2 = 0
          · rw [if_pos c15] at hq
            refine if_ne_F (t := 38) odX6_middle rfl rfl c15 ?_
            refine mB_run odX6_middle 1 (g := (37, [(0, .ref p0), (1, .int p1), (2, .int p2), (3, .int p3)], [.long (0 : Int64)], (o13.1 ++ R), 0, 0)) rfl ?_
            cases hq
            exact mB_ret odX6_middle rfl
          · rw [if_neg c15] at hq
            refine if_ne_T (t := 38) odX6_middle rfl rfl c15 ?_
            refine mB_run odX6_middle 1 (g := (39, [(0, .ref p0), (1, .int p1), (2, .int p2), (3, .int p3)], [.ref p0], (o13.1 ++ R), 0, 0)) rfl ?_
            obtain ⟨v16, e17, hq⟩ := bsm hq
            refine r_gR odX6_middle rfl rfl (gR_ap e17) ?_
            refine mB_run odX6_middle 1 (g := (43, [(0, .ref p0), (1, .int p1), (2, .int p2), (3, .int p3)], [.ref p0, .ref v16], (o13.1 ++ R), 0, 0)) rfl ?_
            obtain ⟨v18, e19, hq⟩ := bsm hq
            refine r_gR odX6_middle rfl rfl (gR_ap e19) ?_
            refine mB_run odX6_middle 1 (g := (47, [(0, .ref p0), (1, .int p1), (2, .int p2), (3, .int p3)], [.int p1, .ref v18, .ref v16], (o13.1 ++ R), 0, 0)) rfl ?_
            obtain ⟨v20, e21, hq⟩ := bsm hq
            refine r_aR odX6_middle rfl (aR_ap e21) ?_
            refine mB_run odX6_middle 1 (g := (49, [(0, .ref p0), (1, .int p1), (2, .int p2), (3, .int p3)], [.int p2, .ref v20, .ref v16], (o13.1 ++ R), 0, 0)) rfl ?_
            obtain ⟨f24, k25, hq⟩ := bsm hq
            obtain ⟨o22, e23, hq⟩ := bsm hq
            refine mB_V (as := [.int p2]) odX6_middle okX0_moment lk_6_166 rfl (eaX0_moment e23) (kO_at (kO_ap k25)) rfl rfl rfl ?_
            show mB _ mX6_middle (52, [(0, .ref p0), (1, .int p1), (2, .int p2), (3, .int p3)], [.long o22.2, .ref v16], (o22.1 ++ R), 0, 0)
            refine mB_run odX6_middle 2 (g := (56, [(0, .ref p0), (1, .int p1), (2, .int p2), (3, .int p3)], [.ref p0, .long (4 : Int64), .long o22.2, .ref v16], (o22.1 ++ R), 0, 0)) rfl ?_
            obtain ⟨v26, e27, hq⟩ := bsm hq
            refine r_gR odX6_middle rfl rfl (gR_ap e27) ?_
            refine mB_run odX6_middle 1 (g := (60, [(0, .ref p0), (1, .int p1), (2, .int p2), (3, .int p3)], [.int p1, .ref v26, .long (4 : Int64), .long o22.2, .ref v16], (o22.1 ++ R), 0, 0)) rfl ?_
            obtain ⟨v28, e29, hq⟩ := bsm hq
            refine r_aR odX6_middle rfl (aR_ap e29) ?_
            obtain ⟨f32, k33, hq⟩ := bsm hq
            obtain ⟨o30, e31, hq⟩ := bsm hq
            refine mB_V (as := []) odX6_middle okX0_sixVolumes lk_6_157 rfl (eaX0_sixVolumes e31) (kO_at (kO_ap k33)) rfl rfl rfl ?_
            show mB _ mX6_middle (64, [(0, .ref p0), (1, .int p1), (2, .int p2), (3, .int p3)], [.long o30.2, .long (4 : Int64), .long o22.2, .ref v16], (o30.1 ++ R), 0, 0)
            refine mB_run odX6_middle 1 (g := (65, [(0, .ref p0), (1, .int p1), (2, .int p2), (3, .int p3)], [.long ((4 : Int64) * o30.2), .long o22.2, .ref v16], (o30.1 ++ R), 0, 0)) rfl ?_
            obtain ⟨f36, k37, hq⟩ := bsm hq
            obtain ⟨o34, e35, hq⟩ := bsm hq
            refine mB_V (as := [.long o22.2, .long ((4 : Int64) * o30.2)]) odX6_middle okX4_put lk_6_171 rfl (eaX4_put e35) (kO_at (kO_ap k37)) rfl rfl rfl ?_
            show mB _ mX6_middle (68, [(0, .ref p0), (1, .int p1), (2, .int p2), (3, .int p3)], [], (o34 ++ R), 0, 0)
            refine mB_run odX6_middle 1 (g := (69, [(0, .ref p0), (1, .int p1), (2, .int p2), (3, .int p3)], [.ref p0], (o34 ++ R), 0, 0)) rfl ?_
            obtain ⟨v38, e39, hq⟩ := bsm hq
            refine r_gR odX6_middle rfl rfl (gR_ap e39) ?_
            refine mB_run odX6_middle 1 (g := (73, [(0, .ref p0), (1, .int p1), (2, .int p2), (3, .int p3)], [.int p3, .ref v38], (o34 ++ R), 0, 0)) rfl ?_
            obtain ⟨f42, k43, hq⟩ := bsm hq
            obtain ⟨o40, e41, hq⟩ := bsm hq
            refine mB_V (as := [.int p3]) odX6_middle okX4_part lk_6_174 rfl (eaX4_part e41) (kO_at (kO_ap k43)) rfl rfl rfl ?_
            show mB _ mX6_middle (76, [(0, .ref p0), (1, .int p1), (2, .int p2), (3, .int p3)], [.long o40.2], (o40.1 ++ R), 0, 0)
            cases hq
            exact mB_ret odX6_middle rfl
    · rw [if_neg c10] at hq
      refine ic_ne_T (t := 36) odX6_middle rfl rfl c10 ?_
      refine mB_run odX6_middle 1 (g := (37, [(0, .ref p0), (1, .int p1), (2, .int p2), (3, .int p3)], [.long (0 : Int64)], (o1.1 ++ R), 0, 0)) rfl ?_
      cases hq
      exact mB_ret odX6_middle rfl
def fxX6_far_95 (N : Nat) (rec44 : Int32 → Nat → Int32 → Int32 → Int32 → mh → Option (mh × Int32)) (rec59 : Int32 → Nat → Int32 → Int32 → Int32 → Int32 → mh → Option (mh × Int32)) (x2 : Int32) (x3 : Nat) (x4 : Int32) (x5 : Int32) (x6 : Int32) (x7 : Int32) (h : mh) : Option (mh × Int32) :=
  rec59 x2 x3 x4 x5 x6 (x7 + (1 : Int32)) h
set_option maxHeartbeats 4000000 in
set_option maxRecDepth 100000 in
theorem eaX6_far_95 {N : Nat} {R : mh} {rec44 : Int32 → Nat → Int32 → Int32 → Int32 → mh → Option (mh × Int32)} {rec59 : Int32 → Nat → Int32 → Int32 → Int32 → Int32 → mh → Option (mh × Int32)} (hrec44 : ∀ (x2 : Int32) (x3 : Nat) (x4 : Int32) (x5 : Int32) (x6 : Int32) (h : mh) {o : (mh × Int32)}, rec44 x2 x3 x4 x5 x6 h = some o → mB (gO mX6_far (o.1 ++ R, some (.int o.2))) mX6_far (44, [(2, .int x2), (3, .ref x3), (4, .int x4), (5, .int x5), (6, .int x6)], [], (h ++ R), 0, 0)) (hrec59 : ∀ (x2 : Int32) (x3 : Nat) (x4 : Int32) (x5 : Int32) (x6 : Int32) (x7 : Int32) (h : mh) {o : (mh × Int32)}, rec59 x2 x3 x4 x5 x6 x7 h = some o → mB (gO mX6_far (o.1 ++ R, some (.int o.2))) mX6_far (59, [(2, .int x2), (3, .ref x3), (4, .int x4), (5, .int x5), (6, .int x6), (7, .int x7)], [], (h ++ R), 0, 0)) (x2 : Int32) (x3 : Nat) (x4 : Int32) (x5 : Int32) (x6 : Int32) (x7 : Int32) (h : mh) {o : (mh × Int32)} (hq : fxX6_far_95 N rec44 rec59 x2 x3 x4 x5 x6 x7 h = some o) : mB (gO mX6_far (o.1 ++ R, some (.int o.2))) mX6_far (95, [(2, .int x2), (3, .ref x3), (4, .int x4), (5, .int x5), (6, .int x6), (7, .int x7)], [], (h ++ R), 0, 0) := by
  unfold fxX6_far_95 at hq
  refine mB_run odX6_far 2 (g := (59, [(7, .int (x7 + (1 : Int32))), (2, .int x2), (3, .ref x3), (4, .int x4), (5, .int x5), (6, .int x6)], [], (h ++ R), 0, 0)) rfl ?_
  refine mB_lv [1, 2, 3, 4, 5, 0] (lv' := [(2, .int x2), (3, .ref x3), (4, .int x4), (5, .int x5), (6, .int x6), (7, .int (x7 + (1 : Int32)))]) rfl ?_
  exact hrec59 _ _ _ _ _ _ _ hq
def fxX6_far_59 (N : Nat) (rec44 : Int32 → Nat → Int32 → Int32 → Int32 → mh → Option (mh × Int32)) : Nat → Int32 → Nat → Int32 → Int32 → Int32 → Int32 → mh → Option (mh × Int32)
  | 0, _, _, _, _, _, _, _ => none
  | n + 1, x2, x3, x4, x5, x6, x7, h =>
    (gI h x3 3 0).bind fun v29 =>
    if v29 ≤ x7 then (
      rec44 x2 x3 x4 x5 (x6 + (1 : Int32)) h) else (
      (kO h x3 3).bind fun f34 =>
      (fxX3_squareBetween N x3 x6 x7 h).bind fun o32 =>
      (kO o32.1 x3 3).bind fun f38 =>
      (fxX3_squareBetween N x3 x4 x5 o32.1).bind fun o36 =>
      if o32.2 ≤ o36.2 then (
        fxX6_far_95 N rec44 (fxX6_far_59 N rec44 n) x2 x3 x4 x5 x6 x7 o36.1) else (
        fxX6_far_95 N rec44 (fxX6_far_59 N rec44 n) x2 x3 x6 x7 x6 x7 o36.1))
set_option maxHeartbeats 4000000 in
set_option maxRecDepth 100000 in
theorem eaX6_far_59 {N : Nat} {R : mh} {rec44 : Int32 → Nat → Int32 → Int32 → Int32 → mh → Option (mh × Int32)} (hrec44 : ∀ (x2 : Int32) (x3 : Nat) (x4 : Int32) (x5 : Int32) (x6 : Int32) (h : mh) {o : (mh × Int32)}, rec44 x2 x3 x4 x5 x6 h = some o → mB (gO mX6_far (o.1 ++ R, some (.int o.2))) mX6_far (44, [(2, .int x2), (3, .ref x3), (4, .int x4), (5, .int x5), (6, .int x6)], [], (h ++ R), 0, 0)) : ∀ (n : Nat) (x2 : Int32) (x3 : Nat) (x4 : Int32) (x5 : Int32) (x6 : Int32) (x7 : Int32) (h : mh) {o : (mh × Int32)}, fxX6_far_59 N rec44 n x2 x3 x4 x5 x6 x7 h = some o → mB (gO mX6_far (o.1 ++ R, some (.int o.2))) mX6_far (59, [(2, .int x2), (3, .ref x3), (4, .int x4), (5, .int x5), (6, .int x6), (7, .int x7)], [], (h ++ R), 0, 0) := by
  intro n
  induction n with
  | zero => intro x2 x3 x4 x5 x6 x7 h o hq; cases hq
  | succ n ih =>
    intro x2 x3 x4 x5 x6 x7 h o hq
    unfold fxX6_far_59 at hq
    refine mB_run odX6_far 2 (g := (62, [(2, .int x2), (3, .ref x3), (4, .int x4), (5, .int x5), (6, .int x6), (7, .int x7)], [.ref x3, .int x7], (h ++ R), 0, 0)) rfl ?_
    obtain ⟨v29, e30, hq⟩ := bsm hq
    refine r_gI odX6_far rfl rfl (gI_ap e30) ?_
    by_cases c31 : v29 ≤ x7
    · rw [if_pos c31] at hq
      refine ic_ge_T (t := 101) odX6_far rfl rfl c31 ?_
      refine mB_run odX6_far 2 (g := (44, [(6, .int (x6 + (1 : Int32))), (2, .int x2), (3, .ref x3), (4, .int x4), (5, .int x5), (7, .int x7)], [], (h ++ R), 0, 0)) rfl ?_
      refine mB_lv [1, 2, 3, 4, 0] (lv' := [(2, .int x2), (3, .ref x3), (4, .int x4), (5, .int x5), (6, .int (x6 + (1 : Int32)))]) rfl ?_
      exact hrec44 _ _ _ _ _ _ hq
    · rw [if_neg c31] at hq
      refine ic_ge_F (t := 101) odX6_far rfl rfl c31 ?_
      refine mB_run odX6_far 3 (g := (73, [(2, .int x2), (3, .ref x3), (4, .int x4), (5, .int x5), (6, .int x6), (7, .int x7)], [.int x7, .int x6, .ref x3], (h ++ R), 0, 0)) rfl ?_
      obtain ⟨f34, k35, hq⟩ := bsm hq
      obtain ⟨o32, e33, hq⟩ := bsm hq
      refine mB_V (as := [.int x6, .int x7]) odX6_far okX3_squareBetween lk_6_177 rfl (eaX3_squareBetween e33) (kO_at (kO_ap k35)) rfl rfl rfl ?_
      show mB _ mX6_far (76, [(2, .int x2), (3, .ref x3), (4, .int x4), (5, .int x5), (6, .int x6), (7, .int x7)], [.int o32.2], (o32.1 ++ R), 0, 0)
      refine mB_run odX6_far 3 (g := (81, [(2, .int x2), (3, .ref x3), (4, .int x4), (5, .int x5), (6, .int x6), (7, .int x7)], [.int x5, .int x4, .ref x3, .int o32.2], (o32.1 ++ R), 0, 0)) rfl ?_
      obtain ⟨f38, k39, hq⟩ := bsm hq
      obtain ⟨o36, e37, hq⟩ := bsm hq
      refine mB_V (as := [.int x4, .int x5]) odX6_far okX3_squareBetween lk_6_177 rfl (eaX3_squareBetween e37) (kO_at (kO_ap k39)) rfl rfl rfl ?_
      show mB _ mX6_far (84, [(2, .int x2), (3, .ref x3), (4, .int x4), (5, .int x5), (6, .int x6), (7, .int x7)], [.int o36.2, .int o32.2], (o36.1 ++ R), 0, 0)
      by_cases c40 : o32.2 ≤ o36.2
      · rw [if_pos c40] at hq
        refine ic_le_T (t := 95) odX6_far rfl rfl c40 ?_
        refine mB_lv [0, 1, 2, 3, 4, 5] (lv' := [(2, .int x2), (3, .ref x3), (4, .int x4), (5, .int x5), (6, .int x6), (7, .int x7)]) rfl ?_
        exact eaX6_far_95 hrec44 ih _ _ _ _ _ _ _ hq
      · rw [if_neg c40] at hq
        refine ic_le_F (t := 95) odX6_far rfl rfl c40 ?_
        refine mB_run odX6_far 4 (g := (95, [(5, .int x7), (4, .int x6), (2, .int x2), (3, .ref x3), (6, .int x6), (7, .int x7)], [], (o36.1 ++ R), 0, 0)) rfl ?_
        refine mB_lv [2, 3, 1, 0, 4, 5] (lv' := [(2, .int x2), (3, .ref x3), (4, .int x6), (5, .int x7), (6, .int x6), (7, .int x7)]) rfl ?_
        exact eaX6_far_95 hrec44 ih _ _ _ _ _ _ _ hq
def fxX6_far_44 (N : Nat) : Nat → Int32 → Nat → Int32 → Int32 → Int32 → mh → Option (mh × Int32)
  | 0, _, _, _, _, _, _ => none
  | n + 1, x2, x3, x4, x5, x6, h =>
    (gI h x3 3 0).bind fun v19 =>
    if v19 ≤ x6 then (
      if x2 = (0 : Int32) then (
        some (h, x4)) else (
        if x2 = (1 : Int32) then (
          some (h, x5)) else (
          if x2 = (2 : Int32) then (
            (kO h x3 3).bind fun f27 =>
            (fxX3_squareBetween N x3 x4 x5 h).bind fun o25 =>
            some (o25.1, o25.2)) else (
            some (h, (-1 : Int32)))))) else (
      fxX6_far_59 N (fxX6_far_44 N n) N x2 x3 x4 x5 x6 (x6 + (1 : Int32)) h)
set_option maxHeartbeats 4000000 in
set_option maxRecDepth 100000 in
theorem eaX6_far_44 {N : Nat} {R : mh} : ∀ (n : Nat) (x2 : Int32) (x3 : Nat) (x4 : Int32) (x5 : Int32) (x6 : Int32) (h : mh) {o : (mh × Int32)}, fxX6_far_44 N n x2 x3 x4 x5 x6 h = some o → mB (gO mX6_far (o.1 ++ R, some (.int o.2))) mX6_far (44, [(2, .int x2), (3, .ref x3), (4, .int x4), (5, .int x5), (6, .int x6)], [], (h ++ R), 0, 0) := by
  intro n
  induction n with
  | zero => intro x2 x3 x4 x5 x6 h o hq; cases hq
  | succ n ih =>
    intro x2 x3 x4 x5 x6 h o hq
    unfold fxX6_far_44 at hq
    refine mB_run odX6_far 2 (g := (47, [(2, .int x2), (3, .ref x3), (4, .int x4), (5, .int x5), (6, .int x6)], [.ref x3, .int x6], (h ++ R), 0, 0)) rfl ?_
    obtain ⟨v19, e20, hq⟩ := bsm hq
    refine r_gI odX6_far rfl rfl (gI_ap e20) ?_
    by_cases c21 : v19 ≤ x6
    · rw [if_pos c21] at hq
      refine ic_ge_T (t := 107) odX6_far rfl rfl c21 ?_
      refine mB_run odX6_far 1 (g := (108, [(2, .int x2), (3, .ref x3), (4, .int x4), (5, .int x5), (6, .int x6)], [.int x2], (h ++ R), 0, 0)) rfl ?_
      by_cases c22 : x2 = (0 : Int32)
      · rw [if_pos c22] at hq
        refine r_tab odX6_far rfl c22 (t := 136) rfl ?_
        refine mB_run odX6_far 1 (g := (138, [(2, .int x2), (3, .ref x3), (4, .int x4), (5, .int x5), (6, .int x6)], [.int x4], (h ++ R), 0, 0)) rfl ?_
        cases hq
        exact mB_ret odX6_far rfl
      · rw [if_neg c22] at hq
        by_cases c23 : x2 = (1 : Int32)
        · rw [if_pos c23] at hq
          refine r_tab odX6_far rfl c23 (t := 139) rfl ?_
          refine mB_run odX6_far 1 (g := (141, [(2, .int x2), (3, .ref x3), (4, .int x4), (5, .int x5), (6, .int x6)], [.int x5], (h ++ R), 0, 0)) rfl ?_
          cases hq
          exact mB_ret odX6_far rfl
        · rw [if_neg c23] at hq
          by_cases c24 : x2 = (2 : Int32)
          · rw [if_pos c24] at hq
            refine r_tab odX6_far rfl c24 (t := 142) rfl ?_
            refine mB_run odX6_far 3 (g := (147, [(2, .int x2), (3, .ref x3), (4, .int x4), (5, .int x5), (6, .int x6)], [.int x5, .int x4, .ref x3], (h ++ R), 0, 0)) rfl ?_
            obtain ⟨f27, k28, hq⟩ := bsm hq
            obtain ⟨o25, e26, hq⟩ := bsm hq
            refine mB_V (as := [.int x4, .int x5]) odX6_far okX3_squareBetween lk_6_177 rfl (eaX3_squareBetween e26) (kO_at (kO_ap k28)) rfl rfl rfl ?_
            show mB _ mX6_far (150, [(2, .int x2), (3, .ref x3), (4, .int x4), (5, .int x5), (6, .int x6)], [.int o25.2], (o25.1 ++ R), 0, 0)
            cases hq
            exact mB_ret odX6_far rfl
          · rw [if_neg c24] at hq
            refine r_tabd odX6_far rfl (t := 151) (by omega) (ts_out3 c22 c23 c24) ?_
            refine mB_run odX6_far 1 (g := (152, [(2, .int x2), (3, .ref x3), (4, .int x4), (5, .int x5), (6, .int x6)], [.int (-1 : Int32)], (h ++ R), 0, 0)) rfl ?_
            cases hq
            exact mB_ret odX6_far rfl
    · rw [if_neg c21] at hq
      refine ic_ge_F (t := 107) odX6_far rfl rfl c21 ?_
      refine mB_run odX6_far 4 (g := (59, [(7, .int (x6 + (1 : Int32))), (2, .int x2), (3, .ref x3), (4, .int x4), (5, .int x5), (6, .int x6)], [], (h ++ R), 0, 0)) rfl ?_
      refine mB_lv [1, 2, 3, 4, 5, 0] (lv' := [(2, .int x2), (3, .ref x3), (4, .int x4), (5, .int x5), (6, .int x6), (7, .int (x6 + (1 : Int32)))]) rfl ?_
      exact eaX6_far_59 ih N _ _ _ _ _ _ _ hq
def fxX6_far (N : Nat) (p0 : Nat) (p1 : Int32) (p2 : Int32) (h : mh) : Option (mh × Int32) :=
  (fxX6_isSlot N p1 h).bind fun o1 =>
  if o1.2 = 0 then (
    some (o1.1, (-1 : Int32))) else (
    (gR o1.1 p0 6 2).bind fun v4 =>
    (aR o1.1 v4 p1).bind fun v6 =>
    (gR o1.1 v6 0 1).bind fun v8 =>
    (gI o1.1 v8 3 0).bind fun v10 =>
    if (2 : Int32) ≤ v10 then (
      (gR o1.1 p0 6 2).bind fun v13 =>
      (aR o1.1 v13 p1).bind fun v15 =>
      (gR o1.1 v15 0 1).bind fun v17 =>
      fxX6_far_44 N N p2 v17 (0 : Int32) (1 : Int32) (0 : Int32) o1.1) else (
      some (o1.1, (-1 : Int32))))
set_option maxHeartbeats 4000000 in
set_option maxRecDepth 100000 in
theorem eaX6_far {N : Nat} {R : mh} {p0 : Nat} {p1 : Int32} {p2 : Int32} {h : mh} {o : (mh × Int32)} (hq : fxX6_far N p0 p1 p2 h = some o) : mC mX6_far [.ref p0, .int p1, .int p2] (h ++ R) (o.1 ++ R, some (.int o.2)) := by
  refine mC_of okX6_far (Nat.le_of_ble_eq_true rfl) ?_
  unfold fxX6_far at hq
  show mB _ mX6_far (0, [(0, .ref p0), (1, .int p1), (2, .int p2)], [], (h ++ R), 0, 0)
  refine mB_run odX6_far 1 (g := (1, [(0, .ref p0), (1, .int p1), (2, .int p2)], [.int p1], (h ++ R), 0, 0)) rfl ?_
  obtain ⟨o1, e2, hq⟩ := bsm hq
  refine mB_S (as := [.int p1]) odX6_far okX6_isSlot lk_6_79 rfl (eaX6_isSlot e2) rfl rfl rfl ?_
  show mB _ mX6_far (4, [(0, .ref p0), (1, .int p1), (2, .int p2)], [.int o1.2], (o1.1 ++ R), 0, 0)
  by_cases c3 : o1.2 = 0
  · rw [if_pos c3] at hq
    refine if_eq_T (t := 23) odX6_far rfl rfl c3 ?_
    refine mB_run odX6_far 1 (g := (24, [(0, .ref p0), (1, .int p1), (2, .int p2)], [.int (-1 : Int32)], (o1.1 ++ R), 0, 0)) rfl ?_
    cases hq
    exact mB_ret odX6_far rfl
  · rw [if_neg c3] at hq
    refine if_eq_F (t := 23) odX6_far rfl rfl c3 ?_
    refine mB_run odX6_far 1 (g := (8, [(0, .ref p0), (1, .int p1), (2, .int p2)], [.ref p0], (o1.1 ++ R), 0, 0)) rfl ?_
    obtain ⟨v4, e5, hq⟩ := bsm hq
    refine r_gR odX6_far rfl rfl (gR_ap e5) ?_
    refine mB_run odX6_far 1 (g := (12, [(0, .ref p0), (1, .int p1), (2, .int p2)], [.int p1, .ref v4], (o1.1 ++ R), 0, 0)) rfl ?_
    obtain ⟨v6, e7, hq⟩ := bsm hq
    refine r_aR odX6_far rfl (aR_ap e7) ?_
    obtain ⟨v8, e9, hq⟩ := bsm hq
    refine r_gR odX6_far rfl rfl (gR_ap e9) ?_
    obtain ⟨v10, e11, hq⟩ := bsm hq
    refine r_gI odX6_far rfl rfl (gI_ap e11) ?_
    refine mB_run odX6_far 1 (g := (20, [(0, .ref p0), (1, .int p1), (2, .int p2)], [.int (2 : Int32), .int v10], (o1.1 ++ R), 0, 0)) rfl ?_
    by_cases c12 : (2 : Int32) ≤ v10
    · rw [if_pos c12] at hq
      refine ic_ge_T (t := 25) odX6_far rfl rfl c12 ?_
      refine mB_run odX6_far 1 (g := (26, [(0, .ref p0), (1, .int p1), (2, .int p2)], [.ref p0], (o1.1 ++ R), 0, 0)) rfl ?_
      obtain ⟨v13, e14, hq⟩ := bsm hq
      refine r_gR odX6_far rfl rfl (gR_ap e14) ?_
      refine mB_run odX6_far 1 (g := (30, [(0, .ref p0), (1, .int p1), (2, .int p2)], [.int p1, .ref v13], (o1.1 ++ R), 0, 0)) rfl ?_
      obtain ⟨v15, e16, hq⟩ := bsm hq
      refine r_aR odX6_far rfl (aR_ap e16) ?_
      obtain ⟨v17, e18, hq⟩ := bsm hq
      refine r_gR odX6_far rfl rfl (gR_ap e18) ?_
      refine mB_run odX6_far 7 (g := (44, [(6, .int (0 : Int32)), (5, .int (1 : Int32)), (4, .int (0 : Int32)), (3, .ref v17), (0, .ref p0), (1, .int p1), (2, .int p2)], [], (o1.1 ++ R), 0, 0)) rfl ?_
      refine mB_lv [6, 3, 2, 1, 0] (lv' := [(2, .int p2), (3, .ref v17), (4, .int (0 : Int32)), (5, .int (1 : Int32)), (6, .int (0 : Int32))]) rfl ?_
      exact eaX6_far_44 N _ _ _ _ _ _ hq
    · rw [if_neg c12] at hq
      refine ic_ge_F (t := 25) odX6_far rfl rfl c12 ?_
      refine mB_run odX6_far 1 (g := (24, [(0, .ref p0), (1, .int p1), (2, .int p2)], [.int (-1 : Int32)], (o1.1 ++ R), 0, 0)) rfl ?_
      cases hq
      exact mB_ret odX6_far rfl
def fxX6_width (N : Nat) (p0 : Nat) (p1 : Int32) (p2 : Int32) (h : mh) : Option (mh × Int64) :=
  (fxX6_isSlot N p1 h).bind fun o1 =>
  if o1.2 = 0 then (
    some (o1.1, (-1 : Int64))) else (
    (gR o1.1 p0 6 2).bind fun v4 =>
    (aR o1.1 v4 p1).bind fun v6 =>
    (gI o1.1 v6 0 0).bind fun v8 =>
    if v8 = (4 : Int32) then (
      (fxX6_isTopOrBottom N p2 o1.1).bind fun o11 =>
      if o11.2 = 0 then (
        some (o11.1, (-1 : Int64))) else (
        (gR o11.1 p0 6 2).bind fun v14 =>
        (aR o11.1 v14 p1).bind fun v16 =>
        (kO o11.1 v16 0).bind fun f20 =>
        (fxX0_reckonSlit N v16 o11.1).bind fun o18 =>
        (gR o18 p0 6 2).bind fun v22 =>
        (aR o18 v22 p1).bind fun v24 =>
        (gR o18 v24 0 8).bind fun v26 =>
        (kO o18 v26 4).bind fun f30 =>
        (fxX4_part N v26 p2 o18).bind fun o28 =>
        some (o28.1, o28.2))) else (
      some (o1.1, (-1 : Int64))))
set_option maxHeartbeats 4000000 in
set_option maxRecDepth 100000 in
theorem eaX6_width {N : Nat} {R : mh} {p0 : Nat} {p1 : Int32} {p2 : Int32} {h : mh} {o : (mh × Int64)} (hq : fxX6_width N p0 p1 p2 h = some o) : mC mX6_width [.ref p0, .int p1, .int p2] (h ++ R) (o.1 ++ R, some (.long o.2)) := by
  refine mC_of okX6_width (Nat.le_of_ble_eq_true rfl) ?_
  unfold fxX6_width at hq
  show mB _ mX6_width (0, [(0, .ref p0), (1, .int p1), (2, .int p2)], [], (h ++ R), 0, 0)
  refine mB_run odX6_width 1 (g := (1, [(0, .ref p0), (1, .int p1), (2, .int p2)], [.int p1], (h ++ R), 0, 0)) rfl ?_
  obtain ⟨o1, e2, hq⟩ := bsm hq
  refine mB_S (as := [.int p1]) odX6_width okX6_isSlot lk_6_79 rfl (eaX6_isSlot e2) rfl rfl rfl ?_
  show mB _ mX6_width (4, [(0, .ref p0), (1, .int p1), (2, .int p2)], [.int o1.2], (o1.1 ++ R), 0, 0)
  by_cases c3 : o1.2 = 0
  · rw [if_pos c3] at hq
    refine if_eq_T (t := 27) odX6_width rfl rfl c3 ?_
    refine mB_run odX6_width 1 (g := (30, [(0, .ref p0), (1, .int p1), (2, .int p2)], [.long (-1 : Int64)], (o1.1 ++ R), 0, 0)) rfl ?_
    cases hq
    exact mB_ret odX6_width rfl
  · rw [if_neg c3] at hq
    refine if_eq_F (t := 27) odX6_width rfl rfl c3 ?_
    refine mB_run odX6_width 1 (g := (8, [(0, .ref p0), (1, .int p1), (2, .int p2)], [.ref p0], (o1.1 ++ R), 0, 0)) rfl ?_
    obtain ⟨v4, e5, hq⟩ := bsm hq
    refine r_gR odX6_width rfl rfl (gR_ap e5) ?_
    refine mB_run odX6_width 1 (g := (12, [(0, .ref p0), (1, .int p1), (2, .int p2)], [.int p1, .ref v4], (o1.1 ++ R), 0, 0)) rfl ?_
    obtain ⟨v6, e7, hq⟩ := bsm hq
    refine r_aR odX6_width rfl (aR_ap e7) ?_
    obtain ⟨v8, e9, hq⟩ := bsm hq
    refine r_gI odX6_width rfl rfl (gI_ap e9) ?_
    refine mB_run odX6_width 1 (g := (17, [(0, .ref p0), (1, .int p1), (2, .int p2)], [.int (4 : Int32), .int v8], (o1.1 ++ R), 0, 0)) rfl ?_
    by_cases c10 : v8 = (4 : Int32)
    · rw [if_pos c10] at hq
      refine ic_ne_F (t := 27) odX6_width rfl rfl c10 ?_
      refine mB_run odX6_width 1 (g := (21, [(0, .ref p0), (1, .int p1), (2, .int p2)], [.int p2], (o1.1 ++ R), 0, 0)) rfl ?_
      obtain ⟨o11, e12, hq⟩ := bsm hq
      refine mB_S (as := [.int p2]) odX6_width okX6_isTopOrBottom lk_6_163 rfl (eaX6_isTopOrBottom e12) rfl rfl rfl ?_
      show mB _ mX6_width (24, [(0, .ref p0), (1, .int p1), (2, .int p2)], [.int o11.2], (o11.1 ++ R), 0, 0)
      by_cases c13 : o11.2 = 0
      · rw [if_pos c13] at hq
        refine if_ne_F (t := 31) odX6_width rfl rfl c13 ?_
        refine mB_run odX6_width 1 (g := (30, [(0, .ref p0), (1, .int p1), (2, .int p2)], [.long (-1 : Int64)], (o11.1 ++ R), 0, 0)) rfl ?_
        cases hq
        exact mB_ret odX6_width rfl
      · rw [if_neg c13] at hq
        refine if_ne_T (t := 31) odX6_width rfl rfl c13 ?_
        refine mB_run odX6_width 1 (g := (32, [(0, .ref p0), (1, .int p1), (2, .int p2)], [.ref p0], (o11.1 ++ R), 0, 0)) rfl ?_
        obtain ⟨v14, e15, hq⟩ := bsm hq
        refine r_gR odX6_width rfl rfl (gR_ap e15) ?_
        refine mB_run odX6_width 1 (g := (36, [(0, .ref p0), (1, .int p1), (2, .int p2)], [.int p1, .ref v14], (o11.1 ++ R), 0, 0)) rfl ?_
        obtain ⟨v16, e17, hq⟩ := bsm hq
        refine r_aR odX6_width rfl (aR_ap e17) ?_
        obtain ⟨f20, k21, hq⟩ := bsm hq
        obtain ⟨o18, e19, hq⟩ := bsm hq
        refine mB_V (as := []) odX6_width okX0_reckonSlit lk_6_181 rfl (eaX0_reckonSlit e19) (kO_at (kO_ap k21)) rfl rfl rfl ?_
        show mB _ mX6_width (40, [(0, .ref p0), (1, .int p1), (2, .int p2)], [], (o18 ++ R), 0, 0)
        refine mB_run odX6_width 1 (g := (41, [(0, .ref p0), (1, .int p1), (2, .int p2)], [.ref p0], (o18 ++ R), 0, 0)) rfl ?_
        obtain ⟨v22, e23, hq⟩ := bsm hq
        refine r_gR odX6_width rfl rfl (gR_ap e23) ?_
        refine mB_run odX6_width 1 (g := (45, [(0, .ref p0), (1, .int p1), (2, .int p2)], [.int p1, .ref v22], (o18 ++ R), 0, 0)) rfl ?_
        obtain ⟨v24, e25, hq⟩ := bsm hq
        refine r_aR odX6_width rfl (aR_ap e25) ?_
        obtain ⟨v26, e27, hq⟩ := bsm hq
        refine r_gR odX6_width rfl rfl (gR_ap e27) ?_
        refine mB_run odX6_width 1 (g := (50, [(0, .ref p0), (1, .int p1), (2, .int p2)], [.int p2, .ref v26], (o18 ++ R), 0, 0)) rfl ?_
        obtain ⟨f30, k31, hq⟩ := bsm hq
        obtain ⟨o28, e29, hq⟩ := bsm hq
        refine mB_V (as := [.int p2]) odX6_width okX4_part lk_6_174 rfl (eaX4_part e29) (kO_at (kO_ap k31)) rfl rfl rfl ?_
        show mB _ mX6_width (53, [(0, .ref p0), (1, .int p1), (2, .int p2)], [.long o28.2], (o28.1 ++ R), 0, 0)
        cases hq
        exact mB_ret odX6_width rfl
    · rw [if_neg c10] at hq
      refine ic_ne_T (t := 27) odX6_width rfl rfl c10 ?_
      refine mB_run odX6_width 1 (g := (30, [(0, .ref p0), (1, .int p1), (2, .int p2)], [.long (-1 : Int64)], (o1.1 ++ R), 0, 0)) rfl ?_
      cases hq
      exact mB_ret odX6_width rfl
def fxX6_sum (N : Nat) (p0 : Nat) (p1 : Int32) (p2 : Int32) (p3 : Int32) (h : mh) : Option (mh × Int32) :=
  (fxX6_isSlot N p1 h).bind fun o1 =>
  if o1.2 = 0 then (
    some (o1.1, (-1 : Int32))) else (
    (fxX6_isSlot N p2 o1.1).bind fun o4 =>
    if o4.2 = 0 then (
      some (o4.1, (-1 : Int32))) else (
      (fxX6_isSlot N p3 o4.1).bind fun o7 =>
      if o7.2 = 0 then (
        some (o7.1, (-1 : Int32))) else (
        (gR o7.1 p0 6 2).bind fun v10 =>
        (aR o7.1 v10 p1).bind fun v12 =>
        (gR o7.1 v12 0 1).bind fun v14 =>
        (gR o7.1 p0 6 2).bind fun v16 =>
        (aR o7.1 v16 p2).bind fun v18 =>
        (gR o7.1 v18 0 1).bind fun v20 =>
        (kO o7.1 p0 6).bind fun f24 =>
        (fxX6_become N p0 p3 v14 v20 o7.1).bind fun o22 =>
        some (o22.1, o22.2))))
set_option maxHeartbeats 4000000 in
set_option maxRecDepth 100000 in
theorem eaX6_sum {N : Nat} {R : mh} {p0 : Nat} {p1 : Int32} {p2 : Int32} {p3 : Int32} {h : mh} {o : (mh × Int32)} (hq : fxX6_sum N p0 p1 p2 p3 h = some o) : mC mX6_sum [.ref p0, .int p1, .int p2, .int p3] (h ++ R) (o.1 ++ R, some (.int o.2)) := by
  refine mC_of okX6_sum (Nat.le_of_ble_eq_true rfl) ?_
  unfold fxX6_sum at hq
  show mB _ mX6_sum (0, [(0, .ref p0), (1, .int p1), (2, .int p2), (3, .int p3)], [], (h ++ R), 0, 0)
  refine mB_run odX6_sum 1 (g := (1, [(0, .ref p0), (1, .int p1), (2, .int p2), (3, .int p3)], [.int p1], (h ++ R), 0, 0)) rfl ?_
  obtain ⟨o1, e2, hq⟩ := bsm hq
  refine mB_S (as := [.int p1]) odX6_sum okX6_isSlot lk_6_79 rfl (eaX6_isSlot e2) rfl rfl rfl ?_
  show mB _ mX6_sum (4, [(0, .ref p0), (1, .int p1), (2, .int p2), (3, .int p3)], [.int o1.2], (o1.1 ++ R), 0, 0)
  by_cases c3 : o1.2 = 0
  · rw [if_pos c3] at hq
    refine if_eq_T (t := 21) odX6_sum rfl rfl c3 ?_
    refine mB_run odX6_sum 1 (g := (22, [(0, .ref p0), (1, .int p1), (2, .int p2), (3, .int p3)], [.int (-1 : Int32)], (o1.1 ++ R), 0, 0)) rfl ?_
    cases hq
    exact mB_ret odX6_sum rfl
  · rw [if_neg c3] at hq
    refine if_eq_F (t := 21) odX6_sum rfl rfl c3 ?_
    refine mB_run odX6_sum 1 (g := (8, [(0, .ref p0), (1, .int p1), (2, .int p2), (3, .int p3)], [.int p2], (o1.1 ++ R), 0, 0)) rfl ?_
    obtain ⟨o4, e5, hq⟩ := bsm hq
    refine mB_S (as := [.int p2]) odX6_sum okX6_isSlot lk_6_79 rfl (eaX6_isSlot e5) rfl rfl rfl ?_
    show mB _ mX6_sum (11, [(0, .ref p0), (1, .int p1), (2, .int p2), (3, .int p3)], [.int o4.2], (o4.1 ++ R), 0, 0)
    by_cases c6 : o4.2 = 0
    · rw [if_pos c6] at hq
      refine if_eq_T (t := 21) odX6_sum rfl rfl c6 ?_
      refine mB_run odX6_sum 1 (g := (22, [(0, .ref p0), (1, .int p1), (2, .int p2), (3, .int p3)], [.int (-1 : Int32)], (o4.1 ++ R), 0, 0)) rfl ?_
      cases hq
      exact mB_ret odX6_sum rfl
    · rw [if_neg c6] at hq
      refine if_eq_F (t := 21) odX6_sum rfl rfl c6 ?_
      refine mB_run odX6_sum 1 (g := (15, [(0, .ref p0), (1, .int p1), (2, .int p2), (3, .int p3)], [.int p3], (o4.1 ++ R), 0, 0)) rfl ?_
      obtain ⟨o7, e8, hq⟩ := bsm hq
      refine mB_S (as := [.int p3]) odX6_sum okX6_isSlot lk_6_79 rfl (eaX6_isSlot e8) rfl rfl rfl ?_
      show mB _ mX6_sum (18, [(0, .ref p0), (1, .int p1), (2, .int p2), (3, .int p3)], [.int o7.2], (o7.1 ++ R), 0, 0)
      by_cases c9 : o7.2 = 0
      · rw [if_pos c9] at hq
        refine if_ne_F (t := 23) odX6_sum rfl rfl c9 ?_
        refine mB_run odX6_sum 1 (g := (22, [(0, .ref p0), (1, .int p1), (2, .int p2), (3, .int p3)], [.int (-1 : Int32)], (o7.1 ++ R), 0, 0)) rfl ?_
        cases hq
        exact mB_ret odX6_sum rfl
      · rw [if_neg c9] at hq
        refine if_ne_T (t := 23) odX6_sum rfl rfl c9 ?_
        refine mB_run odX6_sum 3 (g := (26, [(0, .ref p0), (1, .int p1), (2, .int p2), (3, .int p3)], [.ref p0, .int p3, .ref p0], (o7.1 ++ R), 0, 0)) rfl ?_
        obtain ⟨v10, e11, hq⟩ := bsm hq
        refine r_gR odX6_sum rfl rfl (gR_ap e11) ?_
        refine mB_run odX6_sum 1 (g := (30, [(0, .ref p0), (1, .int p1), (2, .int p2), (3, .int p3)], [.int p1, .ref v10, .int p3, .ref p0], (o7.1 ++ R), 0, 0)) rfl ?_
        obtain ⟨v12, e13, hq⟩ := bsm hq
        refine r_aR odX6_sum rfl (aR_ap e13) ?_
        obtain ⟨v14, e15, hq⟩ := bsm hq
        refine r_gR odX6_sum rfl rfl (gR_ap e15) ?_
        refine mB_run odX6_sum 1 (g := (35, [(0, .ref p0), (1, .int p1), (2, .int p2), (3, .int p3)], [.ref p0, .ref v14, .int p3, .ref p0], (o7.1 ++ R), 0, 0)) rfl ?_
        obtain ⟨v16, e17, hq⟩ := bsm hq
        refine r_gR odX6_sum rfl rfl (gR_ap e17) ?_
        refine mB_run odX6_sum 1 (g := (39, [(0, .ref p0), (1, .int p1), (2, .int p2), (3, .int p3)], [.int p2, .ref v16, .ref v14, .int p3, .ref p0], (o7.1 ++ R), 0, 0)) rfl ?_
        obtain ⟨v18, e19, hq⟩ := bsm hq
        refine r_aR odX6_sum rfl (aR_ap e19) ?_
        obtain ⟨v20, e21, hq⟩ := bsm hq
        refine r_gR odX6_sum rfl rfl (gR_ap e21) ?_
        obtain ⟨f24, k25, hq⟩ := bsm hq
        obtain ⟨o22, e23, hq⟩ := bsm hq
        refine mB_V (as := [.int p3, .ref v14, .ref v20]) odX6_sum okX6_become lk_6_94 rfl (eaX6_become e23) (kO_at (kO_ap k25)) rfl rfl rfl ?_
        show mB _ mX6_sum (46, [(0, .ref p0), (1, .int p1), (2, .int p2), (3, .int p3)], [.int o22.2], (o22.1 ++ R), 0, 0)
        cases hq
        exact mB_ret odX6_sum rfl
def fxX6_apart (N : Nat) (p0 : Nat) (p1 : Int32) (p2 : Int32) (h : mh) : Option (mh × Int32) :=
  (fxX6_isSlot N p1 h).bind fun o1 =>
  if o1.2 = 0 then (
    some (o1.1, (-1 : Int32))) else (
    (fxX6_isSlot N p2 o1.1).bind fun o4 =>
    if o4.2 = 0 then (
      some (o4.1, (-1 : Int32))) else (
      (gR o4.1 p0 6 2).bind fun v7 =>
      (aR o4.1 v7 p1).bind fun v9 =>
      (gI o4.1 v9 0 0).bind fun v11 =>
      if v11 = 0 then (
        some (o4.1, (1 : Int32))) else (
        (gR o4.1 p0 6 2).bind fun v14 =>
        (aR o4.1 v14 p2).bind fun v16 =>
        (gI o4.1 v16 0 0).bind fun v18 =>
        if v18 = 0 then (
          some (o4.1, (1 : Int32))) else (
          (gR o4.1 p0 6 11).bind fun v21 =>
          (gR o4.1 p0 6 2).bind fun v23 =>
          (aR o4.1 v23 p1).bind fun v25 =>
          (gR o4.1 v25 0 1).bind fun v27 =>
          (gR o4.1 p0 6 2).bind fun v29 =>
          (aR o4.1 v29 p2).bind fun v31 =>
          (gR o4.1 v31 0 1).bind fun v33 =>
          (kO o4.1 v21 1).bind fun f37 =>
          (fxX1_reckon N v21 v27 v33 o4.1).bind fun o35 =>
          (gR o35 p0 6 11).bind fun v39 =>
          (gJ o35 v39 1 0).bind fun v41 =>
          if v41 ≤ (0 : Int64) then (
            some (o35, (0 : Int32))) else (
            some (o35, (1 : Int32)))))))
set_option maxHeartbeats 4000000 in
set_option maxRecDepth 100000 in
theorem eaX6_apart {N : Nat} {R : mh} {p0 : Nat} {p1 : Int32} {p2 : Int32} {h : mh} {o : (mh × Int32)} (hq : fxX6_apart N p0 p1 p2 h = some o) : mC mX6_apart [.ref p0, .int p1, .int p2] (h ++ R) (o.1 ++ R, some (.int o.2)) := by
  refine mC_of okX6_apart (Nat.le_of_ble_eq_true rfl) ?_
  unfold fxX6_apart at hq
  show mB _ mX6_apart (0, [(0, .ref p0), (1, .int p1), (2, .int p2)], [], (h ++ R), 0, 0)
  refine mB_run odX6_apart 1 (g := (1, [(0, .ref p0), (1, .int p1), (2, .int p2)], [.int p1], (h ++ R), 0, 0)) rfl ?_
  obtain ⟨o1, e2, hq⟩ := bsm hq
  refine mB_S (as := [.int p1]) odX6_apart okX6_isSlot lk_6_79 rfl (eaX6_isSlot e2) rfl rfl rfl ?_
  show mB _ mX6_apart (4, [(0, .ref p0), (1, .int p1), (2, .int p2)], [.int o1.2], (o1.1 ++ R), 0, 0)
  by_cases c3 : o1.2 = 0
  · rw [if_pos c3] at hq
    refine if_eq_T (t := 14) odX6_apart rfl rfl c3 ?_
    refine mB_run odX6_apart 1 (g := (15, [(0, .ref p0), (1, .int p1), (2, .int p2)], [.int (-1 : Int32)], (o1.1 ++ R), 0, 0)) rfl ?_
    cases hq
    exact mB_ret odX6_apart rfl
  · rw [if_neg c3] at hq
    refine if_eq_F (t := 14) odX6_apart rfl rfl c3 ?_
    refine mB_run odX6_apart 1 (g := (8, [(0, .ref p0), (1, .int p1), (2, .int p2)], [.int p2], (o1.1 ++ R), 0, 0)) rfl ?_
    obtain ⟨o4, e5, hq⟩ := bsm hq
    refine mB_S (as := [.int p2]) odX6_apart okX6_isSlot lk_6_79 rfl (eaX6_isSlot e5) rfl rfl rfl ?_
    show mB _ mX6_apart (11, [(0, .ref p0), (1, .int p1), (2, .int p2)], [.int o4.2], (o4.1 ++ R), 0, 0)
    by_cases c6 : o4.2 = 0
    · rw [if_pos c6] at hq
      refine if_ne_F (t := 16) odX6_apart rfl rfl c6 ?_
      refine mB_run odX6_apart 1 (g := (15, [(0, .ref p0), (1, .int p1), (2, .int p2)], [.int (-1 : Int32)], (o4.1 ++ R), 0, 0)) rfl ?_
      cases hq
      exact mB_ret odX6_apart rfl
    · rw [if_neg c6] at hq
      refine if_ne_T (t := 16) odX6_apart rfl rfl c6 ?_
      refine mB_run odX6_apart 1 (g := (17, [(0, .ref p0), (1, .int p1), (2, .int p2)], [.ref p0], (o4.1 ++ R), 0, 0)) rfl ?_
      obtain ⟨v7, e8, hq⟩ := bsm hq
      refine r_gR odX6_apart rfl rfl (gR_ap e8) ?_
      refine mB_run odX6_apart 1 (g := (21, [(0, .ref p0), (1, .int p1), (2, .int p2)], [.int p1, .ref v7], (o4.1 ++ R), 0, 0)) rfl ?_
      obtain ⟨v9, e10, hq⟩ := bsm hq
      refine r_aR odX6_apart rfl (aR_ap e10) ?_
      obtain ⟨v11, e12, hq⟩ := bsm hq
      refine r_gI odX6_apart rfl rfl (gI_ap e12) ?_
      by_cases c13 : v11 = 0
      · rw [if_pos c13] at hq
        refine if_eq_T (t := 40) odX6_apart rfl rfl c13 ?_
        refine mB_run odX6_apart 1 (g := (41, [(0, .ref p0), (1, .int p1), (2, .int p2)], [.int (1 : Int32)], (o4.1 ++ R), 0, 0)) rfl ?_
        cases hq
        exact mB_ret odX6_apart rfl
      · rw [if_neg c13] at hq
        refine if_eq_F (t := 40) odX6_apart rfl rfl c13 ?_
        refine mB_run odX6_apart 1 (g := (29, [(0, .ref p0), (1, .int p1), (2, .int p2)], [.ref p0], (o4.1 ++ R), 0, 0)) rfl ?_
        obtain ⟨v14, e15, hq⟩ := bsm hq
        refine r_gR odX6_apart rfl rfl (gR_ap e15) ?_
        refine mB_run odX6_apart 1 (g := (33, [(0, .ref p0), (1, .int p1), (2, .int p2)], [.int p2, .ref v14], (o4.1 ++ R), 0, 0)) rfl ?_
        obtain ⟨v16, e17, hq⟩ := bsm hq
        refine r_aR odX6_apart rfl (aR_ap e17) ?_
        obtain ⟨v18, e19, hq⟩ := bsm hq
        refine r_gI odX6_apart rfl rfl (gI_ap e19) ?_
        by_cases c20 : v18 = 0
        · rw [if_pos c20] at hq
          refine if_ne_F (t := 42) odX6_apart rfl rfl c20 ?_
          refine mB_run odX6_apart 1 (g := (41, [(0, .ref p0), (1, .int p1), (2, .int p2)], [.int (1 : Int32)], (o4.1 ++ R), 0, 0)) rfl ?_
          cases hq
          exact mB_ret odX6_apart rfl
        · rw [if_neg c20] at hq
          refine if_ne_T (t := 42) odX6_apart rfl rfl c20 ?_
          refine mB_run odX6_apart 1 (g := (43, [(0, .ref p0), (1, .int p1), (2, .int p2)], [.ref p0], (o4.1 ++ R), 0, 0)) rfl ?_
          obtain ⟨v21, e22, hq⟩ := bsm hq
          refine r_gR odX6_apart rfl rfl (gR_ap e22) ?_
          refine mB_run odX6_apart 1 (g := (47, [(0, .ref p0), (1, .int p1), (2, .int p2)], [.ref p0, .ref v21], (o4.1 ++ R), 0, 0)) rfl ?_
          obtain ⟨v23, e24, hq⟩ := bsm hq
          refine r_gR odX6_apart rfl rfl (gR_ap e24) ?_
          refine mB_run odX6_apart 1 (g := (51, [(0, .ref p0), (1, .int p1), (2, .int p2)], [.int p1, .ref v23, .ref v21], (o4.1 ++ R), 0, 0)) rfl ?_
          obtain ⟨v25, e26, hq⟩ := bsm hq
          refine r_aR odX6_apart rfl (aR_ap e26) ?_
          obtain ⟨v27, e28, hq⟩ := bsm hq
          refine r_gR odX6_apart rfl rfl (gR_ap e28) ?_
          refine mB_run odX6_apart 1 (g := (56, [(0, .ref p0), (1, .int p1), (2, .int p2)], [.ref p0, .ref v27, .ref v21], (o4.1 ++ R), 0, 0)) rfl ?_
          obtain ⟨v29, e30, hq⟩ := bsm hq
          refine r_gR odX6_apart rfl rfl (gR_ap e30) ?_
          refine mB_run odX6_apart 1 (g := (60, [(0, .ref p0), (1, .int p1), (2, .int p2)], [.int p2, .ref v29, .ref v27, .ref v21], (o4.1 ++ R), 0, 0)) rfl ?_
          obtain ⟨v31, e32, hq⟩ := bsm hq
          refine r_aR odX6_apart rfl (aR_ap e32) ?_
          obtain ⟨v33, e34, hq⟩ := bsm hq
          refine r_gR odX6_apart rfl rfl (gR_ap e34) ?_
          obtain ⟨f37, k38, hq⟩ := bsm hq
          obtain ⟨o35, e36, hq⟩ := bsm hq
          refine mB_V (as := [.ref v27, .ref v33]) odX6_apart okX1_reckon lk_6_187 rfl (eaX1_reckon e36) (kO_at (kO_ap k38)) rfl rfl rfl ?_
          show mB _ mX6_apart (67, [(0, .ref p0), (1, .int p1), (2, .int p2)], [], (o35 ++ R), 0, 0)
          refine mB_run odX6_apart 1 (g := (68, [(0, .ref p0), (1, .int p1), (2, .int p2)], [.ref p0], (o35 ++ R), 0, 0)) rfl ?_
          obtain ⟨v39, e40, hq⟩ := bsm hq
          refine r_gR odX6_apart rfl rfl (gR_ap e40) ?_
          obtain ⟨v41, e42, hq⟩ := bsm hq
          refine r_gJ odX6_apart rfl rfl (gJ_ap e42) ?_
          refine mB_run odX6_apart 1 (g := (75, [(0, .ref p0), (1, .int p1), (2, .int p2)], [.long (0 : Int64), .long v41], (o35 ++ R), 0, 0)) rfl ?_
          by_cases c43 : v41 ≤ (0 : Int64)
          · rw [if_pos c43] at hq
            refine lc_le_T (t := 83) odX6_apart rfl rfl rfl c43 ?_
            refine mB_run odX6_apart 1 (g := (84, [(0, .ref p0), (1, .int p1), (2, .int p2)], [.int (0 : Int32)], (o35 ++ R), 0, 0)) rfl ?_
            cases hq
            exact mB_ret odX6_apart rfl
          · rw [if_neg c43] at hq
            refine lc_le_F (t := 83) odX6_apart rfl rfl rfl c43 ?_
            refine mB_run odX6_apart 2 (g := (84, [(0, .ref p0), (1, .int p1), (2, .int p2)], [.int (1 : Int32)], (o35 ++ R), 0, 0)) rfl ?_
            cases hq
            exact mB_ret odX6_apart rfl
