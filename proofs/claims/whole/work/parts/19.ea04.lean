set_option maxHeartbeats 4000000 in
set_option maxRecDepth 100000 in
theorem eaX3_takeAll_6 {N : Nat} {R : mh} : ∀ (n : Nat) (x0 : Nat) (x1 : Nat) (x2 : Int32) (h : mh) {o : mh}, fxX3_takeAll_6 N n x0 x1 x2 h = some o → mB (gO mX3_takeAll (o ++ R, none)) mX3_takeAll (6, [(0, .ref x0), (1, .ref x1), (2, .int x2)], [], (h ++ R), 0, 0) := by
  intro n
  induction n with
  | zero => intro x0 x1 x2 h o hq; cases hq
  | succ n ih =>
    intro x0 x1 x2 h o hq
    unfold fxX3_takeAll_6 at hq
    refine mB_run odX3_takeAll 2 (g := (8, [(0, .ref x0), (1, .ref x1), (2, .int x2)], [.ref x1, .int x2], (h ++ R), 0, 0)) rfl ?_
    obtain ⟨v5, e6, hq⟩ := bsm hq
    refine r_gI odX3_takeAll rfl rfl (gI_ap e6) ?_
    by_cases c7 : v5 ≤ x2
    · rw [if_pos c7] at hq
      refine ic_ge_T (t := 42) odX3_takeAll rfl rfl c7 ?_
      cases hq
      exact mB_ret odX3_takeAll rfl
    · rw [if_neg c7] at hq
      refine ic_ge_F (t := 42) odX3_takeAll rfl rfl c7 ?_
      refine mB_run odX3_takeAll 2 (g := (16, [(0, .ref x0), (1, .ref x1), (2, .int x2)], [.ref x1, .ref x0], (h ++ R), 0, 0)) rfl ?_
      obtain ⟨v8, e9, hq⟩ := bsm hq
      refine r_gR odX3_takeAll rfl rfl (gR_ap e9) ?_
      refine mB_run odX3_takeAll 1 (g := (20, [(0, .ref x0), (1, .ref x1), (2, .int x2)], [.int x2, .ref v8, .ref x0], (h ++ R), 0, 0)) rfl ?_
      obtain ⟨v10, e11, hq⟩ := bsm hq
      refine r_aI odX3_takeAll rfl (aI_ap e11) ?_
      refine mB_run odX3_takeAll 1 (g := (22, [(0, .ref x0), (1, .ref x1), (2, .int x2)], [.ref x1, .int v10, .ref x0], (h ++ R), 0, 0)) rfl ?_
      obtain ⟨v12, e13, hq⟩ := bsm hq
      refine r_gR odX3_takeAll rfl rfl (gR_ap e13) ?_
      refine mB_run odX3_takeAll 1 (g := (26, [(0, .ref x0), (1, .ref x1), (2, .int x2)], [.int x2, .ref v12, .int v10, .ref x0], (h ++ R), 0, 0)) rfl ?_
      obtain ⟨v14, e15, hq⟩ := bsm hq
      refine r_aI odX3_takeAll rfl (aI_ap e15) ?_
      refine mB_run odX3_takeAll 1 (g := (28, [(0, .ref x0), (1, .ref x1), (2, .int x2)], [.ref x1, .int v14, .int v10, .ref x0], (h ++ R), 0, 0)) rfl ?_
      obtain ⟨v16, e17, hq⟩ := bsm hq
      refine r_gR odX3_takeAll rfl rfl (gR_ap e17) ?_
      refine mB_run odX3_takeAll 1 (g := (32, [(0, .ref x0), (1, .ref x1), (2, .int x2)], [.int x2, .ref v16, .int v14, .int v10, .ref x0], (h ++ R), 0, 0)) rfl ?_
      obtain ⟨v18, e19, hq⟩ := bsm hq
      refine r_aI odX3_takeAll rfl (aI_ap e19) ?_
      obtain ⟨f22, k23, hq⟩ := bsm hq
      obtain ⟨o20, e21, hq⟩ := bsm hq
      refine mB_V (as := [.int v10, .int v14, .int v18]) odX3_takeAll okX3_put lk_3_26 rfl (eaX3_put e21) (kO_at (kO_ap k23)) rfl rfl rfl ?_
      show mB _ mX3_takeAll (36, [(0, .ref x0), (1, .ref x1), (2, .int x2)], [], (o20 ++ R), 0, 0)
      refine mB_run odX3_takeAll 2 (g := (6, [(2, .int (x2 + (1 : Int32))), (0, .ref x0), (1, .ref x1)], [], (o20 ++ R), 0, 0)) rfl ?_
      refine mB_lv [1, 2, 0] (lv' := [(0, .ref x0), (1, .ref x1), (2, .int (x2 + (1 : Int32)))]) rfl ?_
      exact ih _ _ _ _ hq
set_option maxHeartbeats 4000000 in
set_option maxRecDepth 100000 in
theorem eaX3_takeAll {N : Nat} {R : mh} {p0 : Nat} {p1 : Nat} {h : mh} {o : mh} (hq : fxX3_takeAll N p0 p1 h = some o) : mC mX3_takeAll [.ref p0, .ref p1] (h ++ R) (o ++ R, none) := by
  refine mC_of okX3_takeAll (Nat.le_of_ble_eq_true rfl) ?_
  unfold fxX3_takeAll at hq
  show mB _ mX3_takeAll (0, [(0, .ref p0), (1, .ref p1)], [], (h ++ R), 0, 0)
  refine mB_run odX3_takeAll 1 (g := (1, [(0, .ref p0), (1, .ref p1)], [.ref p0], (h ++ R), 0, 0)) rfl ?_
  obtain ⟨f3, k4, hq⟩ := bsm hq
  obtain ⟨o1, e2, hq⟩ := bsm hq
  refine mB_V (as := []) odX3_takeAll okX3_clear lk_3_23 rfl (eaX3_clear e2) (kO_at (kO_ap k4)) rfl rfl rfl ?_
  show mB _ mX3_takeAll (4, [(0, .ref p0), (1, .ref p1)], [], (o1 ++ R), 0, 0)
  refine mB_run odX3_takeAll 2 (g := (6, [(2, .int (0 : Int32)), (0, .ref p0), (1, .ref p1)], [], (o1 ++ R), 0, 0)) rfl ?_
  refine mB_lv [1, 2, 0] (lv' := [(0, .ref p0), (1, .ref p1), (2, .int (0 : Int32))]) rfl ?_
  exact eaX3_takeAll_6 N _ _ _ _ hq
set_option maxHeartbeats 4000000 in
set_option maxRecDepth 100000 in
theorem eaX3_squareBetween {N : Nat} {R : mh} {p0 : Nat} {p1 : Int32} {p2 : Int32} {h : mh} {o : (mh × Int32)} (hq : fxX3_squareBetween N p0 p1 p2 h = some o) : mC mX3_squareBetween [.ref p0, .int p1, .int p2] (h ++ R) (o.1 ++ R, some (.int o.2)) := by
  refine mC_of okX3_squareBetween (Nat.le_of_ble_eq_true rfl) ?_
  unfold fxX3_squareBetween at hq
  show mB _ mX3_squareBetween (0, [(0, .ref p0), (1, .int p1), (2, .int p2)], [], (h ++ R), 0, 0)
  refine mB_run odX3_squareBetween 1 (g := (1, [(0, .ref p0), (1, .int p1), (2, .int p2)], [.ref p0], (h ++ R), 0, 0)) rfl ?_
  obtain ⟨v1, e2, hq⟩ := bsm hq
  refine r_gR odX3_squareBetween rfl rfl (gR_ap e2) ?_
  refine mB_run odX3_squareBetween 1 (g := (5, [(0, .ref p0), (1, .int p1), (2, .int p2)], [.int p1, .ref v1], (h ++ R), 0, 0)) rfl ?_
  obtain ⟨v3, e4, hq⟩ := bsm hq
  refine r_aI odX3_squareBetween rfl (aI_ap e4) ?_
  refine mB_run odX3_squareBetween 1 (g := (7, [(0, .ref p0), (1, .int p1), (2, .int p2)], [.ref p0, .int v3], (h ++ R), 0, 0)) rfl ?_
  obtain ⟨v5, e6, hq⟩ := bsm hq
  refine r_gR odX3_squareBetween rfl rfl (gR_ap e6) ?_
  refine mB_run odX3_squareBetween 1 (g := (11, [(0, .ref p0), (1, .int p1), (2, .int p2)], [.int p2, .ref v5, .int v3], (h ++ R), 0, 0)) rfl ?_
  obtain ⟨v7, e8, hq⟩ := bsm hq
  refine r_aI odX3_squareBetween rfl (aI_ap e8) ?_
  refine mB_run odX3_squareBetween 3 (g := (15, [(3, .int (v3 - v7)), (0, .ref p0), (1, .int p1), (2, .int p2)], [.ref p0], (h ++ R), 0, 0)) rfl ?_
  obtain ⟨v9, e10, hq⟩ := bsm hq
  refine r_gR odX3_squareBetween rfl rfl (gR_ap e10) ?_
  refine mB_run odX3_squareBetween 1 (g := (19, [(3, .int (v3 - v7)), (0, .ref p0), (1, .int p1), (2, .int p2)], [.int p1, .ref v9], (h ++ R), 0, 0)) rfl ?_
  obtain ⟨v11, e12, hq⟩ := bsm hq
  refine r_aI odX3_squareBetween rfl (aI_ap e12) ?_
  refine mB_run odX3_squareBetween 1 (g := (21, [(3, .int (v3 - v7)), (0, .ref p0), (1, .int p1), (2, .int p2)], [.ref p0, .int v11], (h ++ R), 0, 0)) rfl ?_
  obtain ⟨v13, e14, hq⟩ := bsm hq
  refine r_gR odX3_squareBetween rfl rfl (gR_ap e14) ?_
  refine mB_run odX3_squareBetween 1 (g := (25, [(3, .int (v3 - v7)), (0, .ref p0), (1, .int p1), (2, .int p2)], [.int p2, .ref v13, .int v11], (h ++ R), 0, 0)) rfl ?_
  obtain ⟨v15, e16, hq⟩ := bsm hq
  refine r_aI odX3_squareBetween rfl (aI_ap e16) ?_
  refine mB_run odX3_squareBetween 3 (g := (30, [(4, .int (v11 - v15)), (3, .int (v3 - v7)), (0, .ref p0), (1, .int p1), (2, .int p2)], [.ref p0], (h ++ R), 0, 0)) rfl ?_
  obtain ⟨v17, e18, hq⟩ := bsm hq
  refine r_gR odX3_squareBetween rfl rfl (gR_ap e18) ?_
  refine mB_run odX3_squareBetween 1 (g := (34, [(4, .int (v11 - v15)), (3, .int (v3 - v7)), (0, .ref p0), (1, .int p1), (2, .int p2)], [.int p1, .ref v17], (h ++ R), 0, 0)) rfl ?_
  obtain ⟨v19, e20, hq⟩ := bsm hq
  refine r_aI odX3_squareBetween rfl (aI_ap e20) ?_
  refine mB_run odX3_squareBetween 1 (g := (36, [(4, .int (v11 - v15)), (3, .int (v3 - v7)), (0, .ref p0), (1, .int p1), (2, .int p2)], [.ref p0, .int v19], (h ++ R), 0, 0)) rfl ?_
  obtain ⟨v21, e22, hq⟩ := bsm hq
  refine r_gR odX3_squareBetween rfl rfl (gR_ap e22) ?_
  refine mB_run odX3_squareBetween 1 (g := (40, [(4, .int (v11 - v15)), (3, .int (v3 - v7)), (0, .ref p0), (1, .int p1), (2, .int p2)], [.int p2, .ref v21, .int v19], (h ++ R), 0, 0)) rfl ?_
  obtain ⟨v23, e24, hq⟩ := bsm hq
  refine r_aI odX3_squareBetween rfl (aI_ap e24) ?_
  refine mB_run odX3_squareBetween 12 (g := (58, [(5, .int (v19 - v23)), (4, .int (v11 - v15)), (3, .int (v3 - v7)), (0, .ref p0), (1, .int p1), (2, .int p2)], [.int ((v19 - v23) * (v19 - v23)), .int (((v3 - v7) * (v3 - v7)) + ((v11 - v15) * (v11 - v15)))], (h ++ R), 0, 0)) rfl ?_
  refine mB_run odX3_squareBetween 1 (g := (59, [(5, .int (v19 - v23)), (4, .int (v11 - v15)), (3, .int (v3 - v7)), (0, .ref p0), (1, .int p1), (2, .int p2)], [.int ((((v3 - v7) * (v3 - v7)) + ((v11 - v15) * (v11 - v15))) + ((v19 - v23) * (v19 - v23)))], (h ++ R), 0, 0)) rfl ?_
  cases hq
  exact mB_ret odX3_squareBetween rfl
set_option maxHeartbeats 4000000 in
set_option maxRecDepth 100000 in
theorem eaX3_isLike_15 {N : Nat} {R : mh} : ∀ (n : Nat) (x0 : Nat) (x1 : Nat) (x2 : Int32) (h : mh) {o : (mh × Int32)}, fxX3_isLike_15 N n x0 x1 x2 h = some o → mB (gO mX3_isLike (o.1 ++ R, some (.int o.2))) mX3_isLike (15, [(0, .ref x0), (1, .ref x1), (2, .int x2)], [], (h ++ R), 0, 0) := by
  intro n
  induction n with
  | zero => intro x0 x1 x2 h o hq; cases hq
  | succ n ih =>
    intro x0 x1 x2 h o hq
    unfold fxX3_isLike_15 at hq
    refine mB_run odX3_isLike 2 (g := (17, [(0, .ref x0), (1, .ref x1), (2, .int x2)], [.ref x0, .int x2], (h ++ R), 0, 0)) rfl ?_
    obtain ⟨v6, e7, hq⟩ := bsm hq
    refine r_gI odX3_isLike rfl rfl (gI_ap e7) ?_
    by_cases c8 : v6 ≤ x2
    · rw [if_pos c8] at hq
      refine ic_ge_T (t := 76) odX3_isLike rfl rfl c8 ?_
      refine mB_run odX3_isLike 1 (g := (77, [(0, .ref x0), (1, .ref x1), (2, .int x2)], [.int (1 : Int32)], (h ++ R), 0, 0)) rfl ?_
      cases hq
      exact mB_ret odX3_isLike rfl
    · rw [if_neg c8] at hq
      refine ic_ge_F (t := 76) odX3_isLike rfl rfl c8 ?_
      refine mB_run odX3_isLike 1 (g := (24, [(0, .ref x0), (1, .ref x1), (2, .int x2)], [.ref x0], (h ++ R), 0, 0)) rfl ?_
      obtain ⟨v9, e10, hq⟩ := bsm hq
      refine r_gR odX3_isLike rfl rfl (gR_ap e10) ?_
      refine mB_run odX3_isLike 1 (g := (28, [(0, .ref x0), (1, .ref x1), (2, .int x2)], [.int x2, .ref v9], (h ++ R), 0, 0)) rfl ?_
      obtain ⟨v11, e12, hq⟩ := bsm hq
      refine r_aI odX3_isLike rfl (aI_ap e12) ?_
      refine mB_run odX3_isLike 1 (g := (30, [(0, .ref x0), (1, .ref x1), (2, .int x2)], [.ref x1, .int v11], (h ++ R), 0, 0)) rfl ?_
      obtain ⟨v13, e14, hq⟩ := bsm hq
      refine r_gR odX3_isLike rfl rfl (gR_ap e14) ?_
      refine mB_run odX3_isLike 1 (g := (34, [(0, .ref x0), (1, .ref x1), (2, .int x2)], [.int x2, .ref v13, .int v11], (h ++ R), 0, 0)) rfl ?_
      obtain ⟨v15, e16, hq⟩ := bsm hq
      refine r_aI odX3_isLike rfl (aI_ap e16) ?_
      by_cases c17 : v11 = v15
      · rw [if_pos c17] at hq
        refine ic_ne_F (t := 68) odX3_isLike rfl rfl c17 ?_
        refine mB_run odX3_isLike 1 (g := (39, [(0, .ref x0), (1, .ref x1), (2, .int x2)], [.ref x0], (h ++ R), 0, 0)) rfl ?_
        obtain ⟨v18, e19, hq⟩ := bsm hq
        refine r_gR odX3_isLike rfl rfl (gR_ap e19) ?_
        refine mB_run odX3_isLike 1 (g := (43, [(0, .ref x0), (1, .ref x1), (2, .int x2)], [.int x2, .ref v18], (h ++ R), 0, 0)) rfl ?_
        obtain ⟨v20, e21, hq⟩ := bsm hq
        refine r_aI odX3_isLike rfl (aI_ap e21) ?_
        refine mB_run odX3_isLike 1 (g := (45, [(0, .ref x0), (1, .ref x1), (2, .int x2)], [.ref x1, .int v20], (h ++ R), 0, 0)) rfl ?_
        obtain ⟨v22, e23, hq⟩ := bsm hq
        refine r_gR odX3_isLike rfl rfl (gR_ap e23) ?_
        refine mB_run odX3_isLike 1 (g := (49, [(0, .ref x0), (1, .ref x1), (2, .int x2)], [.int x2, .ref v22, .int v20], (h ++ R), 0, 0)) rfl ?_
        obtain ⟨v24, e25, hq⟩ := bsm hq
        refine r_aI odX3_isLike rfl (aI_ap e25) ?_
        by_cases c26 : v20 = v24
        · rw [if_pos c26] at hq
          refine ic_ne_F (t := 68) odX3_isLike rfl rfl c26 ?_
          refine mB_run odX3_isLike 1 (g := (54, [(0, .ref x0), (1, .ref x1), (2, .int x2)], [.ref x0], (h ++ R), 0, 0)) rfl ?_
          obtain ⟨v27, e28, hq⟩ := bsm hq
          refine r_gR odX3_isLike rfl rfl (gR_ap e28) ?_
          refine mB_run odX3_isLike 1 (g := (58, [(0, .ref x0), (1, .ref x1), (2, .int x2)], [.int x2, .ref v27], (h ++ R), 0, 0)) rfl ?_
          obtain ⟨v29, e30, hq⟩ := bsm hq
          refine r_aI odX3_isLike rfl (aI_ap e30) ?_
          refine mB_run odX3_isLike 1 (g := (60, [(0, .ref x0), (1, .ref x1), (2, .int x2)], [.ref x1, .int v29], (h ++ R), 0, 0)) rfl ?_
          obtain ⟨v31, e32, hq⟩ := bsm hq
          refine r_gR odX3_isLike rfl rfl (gR_ap e32) ?_
          refine mB_run odX3_isLike 1 (g := (64, [(0, .ref x0), (1, .ref x1), (2, .int x2)], [.int x2, .ref v31, .int v29], (h ++ R), 0, 0)) rfl ?_
          obtain ⟨v33, e34, hq⟩ := bsm hq
          refine r_aI odX3_isLike rfl (aI_ap e34) ?_
          by_cases c35 : v29 = v33
          · rw [if_pos c35] at hq
            refine ic_eq_T (t := 70) odX3_isLike rfl rfl c35 ?_
            refine mB_run odX3_isLike 2 (g := (15, [(2, .int (x2 + (1 : Int32))), (0, .ref x0), (1, .ref x1)], [], (h ++ R), 0, 0)) rfl ?_
            refine mB_lv [1, 2, 0] (lv' := [(0, .ref x0), (1, .ref x1), (2, .int (x2 + (1 : Int32)))]) rfl ?_
            exact ih _ _ _ _ hq
          · rw [if_neg c35] at hq
            refine ic_eq_F (t := 70) odX3_isLike rfl rfl c35 ?_
            refine mB_run odX3_isLike 1 (g := (69, [(0, .ref x0), (1, .ref x1), (2, .int x2)], [.int (0 : Int32)], (h ++ R), 0, 0)) rfl ?_
            cases hq
            exact mB_ret odX3_isLike rfl
        · rw [if_neg c26] at hq
          refine ic_ne_T (t := 68) odX3_isLike rfl rfl c26 ?_
          refine mB_run odX3_isLike 1 (g := (69, [(0, .ref x0), (1, .ref x1), (2, .int x2)], [.int (0 : Int32)], (h ++ R), 0, 0)) rfl ?_
          cases hq
          exact mB_ret odX3_isLike rfl
      · rw [if_neg c17] at hq
        refine ic_ne_T (t := 68) odX3_isLike rfl rfl c17 ?_
        refine mB_run odX3_isLike 1 (g := (69, [(0, .ref x0), (1, .ref x1), (2, .int x2)], [.int (0 : Int32)], (h ++ R), 0, 0)) rfl ?_
        cases hq
        exact mB_ret odX3_isLike rfl
set_option maxHeartbeats 4000000 in
set_option maxRecDepth 100000 in
theorem eaX3_isLike {N : Nat} {R : mh} {p0 : Nat} {p1 : Nat} {h : mh} {o : (mh × Int32)} (hq : fxX3_isLike N p0 p1 h = some o) : mC mX3_isLike [.ref p0, .ref p1] (h ++ R) (o.1 ++ R, some (.int o.2)) := by
  refine mC_of okX3_isLike (Nat.le_of_ble_eq_true rfl) ?_
  unfold fxX3_isLike at hq
  show mB _ mX3_isLike (0, [(0, .ref p0), (1, .ref p1)], [], (h ++ R), 0, 0)
  refine mB_run odX3_isLike 1 (g := (1, [(0, .ref p0), (1, .ref p1)], [.ref p0], (h ++ R), 0, 0)) rfl ?_
  obtain ⟨v1, e2, hq⟩ := bsm hq
  refine r_gI odX3_isLike rfl rfl (gI_ap e2) ?_
  refine mB_run odX3_isLike 1 (g := (5, [(0, .ref p0), (1, .ref p1)], [.ref p1, .int v1], (h ++ R), 0, 0)) rfl ?_
  obtain ⟨v3, e4, hq⟩ := bsm hq
  refine r_gI odX3_isLike rfl rfl (gI_ap e4) ?_
  by_cases c5 : v1 = v3
  · rw [if_pos c5] at hq
    refine ic_eq_T (t := 13) odX3_isLike rfl rfl c5 ?_
    refine mB_run odX3_isLike 2 (g := (15, [(2, .int (0 : Int32)), (0, .ref p0), (1, .ref p1)], [], (h ++ R), 0, 0)) rfl ?_
    refine mB_lv [1, 2, 0] (lv' := [(0, .ref p0), (1, .ref p1), (2, .int (0 : Int32))]) rfl ?_
    exact eaX3_isLike_15 N _ _ _ _ hq
  · rw [if_neg c5] at hq
    refine ic_eq_F (t := 13) odX3_isLike rfl rfl c5 ?_
    refine mB_run odX3_isLike 1 (g := (12, [(0, .ref p0), (1, .ref p1)], [.int (0 : Int32)], (h ++ R), 0, 0)) rfl ?_
    cases hq
    exact mB_ret odX3_isLike rfl
set_option maxHeartbeats 4000000 in
set_option maxRecDepth 100000 in
theorem eaX4_part {N : Nat} {R : mh} {p0 : Nat} {p1 : Int32} {h : mh} {o : (mh × Int64)} (hq : fxX4_part N p0 p1 h = some o) : mC mX4_part [.ref p0, .int p1] (h ++ R) (o.1 ++ R, some (.long o.2)) := by
  refine mC_of okX4_part (Nat.le_of_ble_eq_true rfl) ?_
  unfold fxX4_part at hq
  show mB _ mX4_part (0, [(0, .ref p0), (1, .int p1)], [], (h ++ R), 0, 0)
  refine mB_run odX4_part 1 (g := (1, [(0, .ref p0), (1, .int p1)], [.int p1], (h ++ R), 0, 0)) rfl ?_
  by_cases c1 : p1 = 0
  · rw [if_pos c1] at hq
    refine if_ne_F (t := 11) odX4_part rfl rfl c1 ?_
    refine mB_run odX4_part 1 (g := (5, [(0, .ref p0), (1, .int p1)], [.ref p0], (h ++ R), 0, 0)) rfl ?_
    obtain ⟨v2, e3, hq⟩ := bsm hq
    refine r_gJ odX4_part rfl rfl (gJ_ap e3) ?_
    refine mB_run odX4_part 1 (g := (15, [(0, .ref p0), (1, .int p1)], [.long v2], (h ++ R), 0, 0)) rfl ?_
    cases hq
    exact mB_ret odX4_part rfl
  · rw [if_neg c1] at hq
    refine if_ne_T (t := 11) odX4_part rfl rfl c1 ?_
    refine mB_run odX4_part 1 (g := (12, [(0, .ref p0), (1, .int p1)], [.ref p0], (h ++ R), 0, 0)) rfl ?_
    obtain ⟨v4, e5, hq⟩ := bsm hq
    refine r_gJ odX4_part rfl rfl (gJ_ap e5) ?_
    cases hq
    exact mB_ret odX4_part rfl
set_option maxHeartbeats 4000000 in
set_option maxRecDepth 100000 in
theorem eaX6_isSlot {N : Nat} {R : mh} {p0 : Int32} {h : mh} {o : (mh × Int32)} (hq : fxX6_isSlot N p0 h = some o) : mC mX6_isSlot [.int p0] (h ++ R) (o.1 ++ R, some (.int o.2)) := by
  refine mC_of okX6_isSlot (Nat.le_of_ble_eq_true rfl) ?_
  unfold fxX6_isSlot at hq
  show mB _ mX6_isSlot (0, [(0, .int p0)], [], (h ++ R), 0, 0)
  refine mB_run odX6_isSlot 1 (g := (1, [(0, .int p0)], [.int p0], (h ++ R), 0, 0)) rfl ?_
  by_cases c1 : p0 < 0
  · rw [if_pos c1] at hq
    refine if_lt_T (t := 14) odX6_isSlot rfl rfl c1 ?_
    refine mB_run odX6_isSlot 1 (g := (15, [(0, .int p0)], [.int (0 : Int32)], (h ++ R), 0, 0)) rfl ?_
    cases hq
    exact mB_ret odX6_isSlot rfl
  · rw [if_neg c1] at hq
    refine if_lt_F (t := 14) odX6_isSlot rfl rfl c1 ?_
    refine mB_run odX6_isSlot 2 (g := (7, [(0, .int p0)], [.int (8 : Int32), .int p0], (h ++ R), 0, 0)) rfl ?_
    by_cases c2 : (8 : Int32) ≤ p0
    · rw [if_pos c2] at hq
      refine ic_ge_T (t := 14) odX6_isSlot rfl rfl c2 ?_
      refine mB_run odX6_isSlot 1 (g := (15, [(0, .int p0)], [.int (0 : Int32)], (h ++ R), 0, 0)) rfl ?_
      cases hq
      exact mB_ret odX6_isSlot rfl
    · rw [if_neg c2] at hq
      refine ic_ge_F (t := 14) odX6_isSlot rfl rfl c2 ?_
      refine mB_run odX6_isSlot 2 (g := (15, [(0, .int p0)], [.int (1 : Int32)], (h ++ R), 0, 0)) rfl ?_
      cases hq
      exact mB_ret odX6_isSlot rfl
set_option maxHeartbeats 4000000 in
set_option maxRecDepth 100000 in
theorem eaX6_tray_47 {N : Nat} {R : mh} : ∀ (n : Nat) (x0 : Nat) (x1 : Int32) (x2 : Int32) (x3 : Int32) (h : mh) {o : (mh × Int32)}, fxX6_tray_47 N n x0 x1 x2 x3 h = some o → mB (gO mX6_tray (o.1 ++ R, some (.int o.2))) mX6_tray (47, [(0, .ref x0), (1, .int x1), (2, .int x2), (3, .int x3)], [], (h ++ R), 0, 0) := by
  intro n
  induction n with
  | zero => intro x0 x1 x2 x3 h o hq; cases hq
  | succ n ih =>
    intro x0 x1 x2 x3 h o hq
    unfold fxX6_tray_47 at hq
    refine mB_run odX6_tray 2 (g := (49, [(0, .ref x0), (1, .int x1), (2, .int x2), (3, .int x3)], [.int x2, .int x3], (h ++ R), 0, 0)) rfl ?_
    by_cases c19 : x2 ≤ x3
    · rw [if_pos c19] at hq
      refine ic_ge_T (t := 70) odX6_tray rfl rfl c19 ?_
      refine mB_run odX6_tray 1 (g := (71, [(0, .ref x0), (1, .int x1), (2, .int x2), (3, .int x3)], [.int (1 : Int32)], (h ++ R), 0, 0)) rfl ?_
      cases hq
      exact mB_ret odX6_tray rfl
    · rw [if_neg c19] at hq
      refine ic_ge_F (t := 70) odX6_tray rfl rfl c19 ?_
      refine mB_run odX6_tray 1 (g := (53, [(0, .ref x0), (1, .int x1), (2, .int x2), (3, .int x3)], [.ref x0], (h ++ R), 0, 0)) rfl ?_
      obtain ⟨v20, e21, hq⟩ := bsm hq
      refine r_gR odX6_tray rfl rfl (gR_ap e21) ?_
      refine mB_run odX6_tray 1 (g := (57, [(0, .ref x0), (1, .int x1), (2, .int x2), (3, .int x3)], [.int x1, .ref v20], (h ++ R), 0, 0)) rfl ?_
      obtain ⟨v22, e23, hq⟩ := bsm hq
      refine r_aR odX6_tray rfl (aR_ap e23) ?_
      refine mB_run odX6_tray 3 (g := (61, [(0, .ref x0), (1, .int x1), (2, .int x2), (3, .int x3)], [.int (0 : Int32), .int (0 : Int32), .int (0 : Int32), .ref v22], (h ++ R), 0, 0)) rfl ?_
      obtain ⟨f26, k27, hq⟩ := bsm hq
      obtain ⟨o24, e25, hq⟩ := bsm hq
      refine mB_V (as := [.int (0 : Int32), .int (0 : Int32), .int (0 : Int32)]) odX6_tray okX3_put lk_6_75 rfl (eaX3_put e25) (kO_at (kO_ap k27)) rfl rfl rfl ?_
      show mB _ mX6_tray (64, [(0, .ref x0), (1, .int x1), (2, .int x2), (3, .int x3)], [], (o24 ++ R), 0, 0)
      refine mB_run odX6_tray 2 (g := (47, [(3, .int (x3 + (1 : Int32))), (0, .ref x0), (1, .int x1), (2, .int x2)], [], (o24 ++ R), 0, 0)) rfl ?_
      refine mB_lv [1, 2, 3, 0] (lv' := [(0, .ref x0), (1, .int x1), (2, .int x2), (3, .int (x3 + (1 : Int32)))]) rfl ?_
      exact ih _ _ _ _ _ hq
set_option maxHeartbeats 4000000 in
set_option maxRecDepth 100000 in
theorem eaX6_tray_35 {N : Nat} {R : mh} (x0 : Nat) (x1 : Int32) (x2 : Int32) (s0 : Int32) (s1 : Int32) (s2 : Nat) (h : mh) {o : (mh × Int32)} (hq : fxX6_tray_35 N x0 x1 x2 s0 s1 s2 h = some o) : mB (gO mX6_tray (o.1 ++ R, some (.int o.2))) mX6_tray (35, [(0, .ref x0), (1, .int x1), (2, .int x2)], [.int s0, .int s1, .ref s2], (h ++ R), 0, 0) := by
  unfold fxX6_tray_35 at hq
  obtain ⟨h9, e10, hq⟩ := bsm hq
  refine r_wZ odX6_tray rfl (wZ_ap e10) ?_
  refine mB_run odX6_tray 1 (g := (37, [(0, .ref x0), (1, .int x1), (2, .int x2)], [.ref x0], (h9 ++ R), 0, 0)) rfl ?_
  obtain ⟨v11, e12, hq⟩ := bsm hq
  refine r_gR odX6_tray rfl rfl (gR_ap e12) ?_
  refine mB_run odX6_tray 1 (g := (41, [(0, .ref x0), (1, .int x1), (2, .int x2)], [.int x1, .ref v11], (h9 ++ R), 0, 0)) rfl ?_
  obtain ⟨v13, e14, hq⟩ := bsm hq
  refine r_aR odX6_tray rfl (aR_ap e14) ?_
  obtain ⟨f17, k18, hq⟩ := bsm hq
  obtain ⟨o15, e16, hq⟩ := bsm hq
  refine mB_V (as := []) odX6_tray okX3_clear lk_6_83 rfl (eaX3_clear e16) (kO_at (kO_ap k18)) rfl rfl rfl ?_
  show mB _ mX6_tray (45, [(0, .ref x0), (1, .int x1), (2, .int x2)], [], (o15 ++ R), 0, 0)
  refine mB_run odX6_tray 2 (g := (47, [(3, .int (0 : Int32)), (0, .ref x0), (1, .int x1), (2, .int x2)], [], (o15 ++ R), 0, 0)) rfl ?_
  refine mB_lv [1, 2, 3, 0] (lv' := [(0, .ref x0), (1, .int x1), (2, .int x2), (3, .int (0 : Int32))]) rfl ?_
  exact eaX6_tray_47 N _ _ _ _ _ hq
set_option maxHeartbeats 4000000 in
set_option maxRecDepth 100000 in
theorem eaX6_tray {N : Nat} {R : mh} {p0 : Nat} {p1 : Int32} {p2 : Int32} {h : mh} {o : (mh × Int32)} (hq : fxX6_tray N p0 p1 p2 h = some o) : mC mX6_tray [.ref p0, .int p1, .int p2] (h ++ R) (o.1 ++ R, some (.int o.2)) := by
  refine mC_of okX6_tray (Nat.le_of_ble_eq_true rfl) ?_
  unfold fxX6_tray at hq
  show mB _ mX6_tray (0, [(0, .ref p0), (1, .int p1), (2, .int p2)], [], (h ++ R), 0, 0)
  refine mB_run odX6_tray 1 (g := (1, [(0, .ref p0), (1, .int p1), (2, .int p2)], [.int p1], (h ++ R), 0, 0)) rfl ?_
  obtain ⟨o1, e2, hq⟩ := bsm hq
  refine mB_S (as := [.int p1]) odX6_tray okX6_isSlot lk_6_79 rfl (eaX6_isSlot e2) rfl rfl rfl ?_
  show mB _ mX6_tray (4, [(0, .ref p0), (1, .int p1), (2, .int p2)], [.int o1.2], (o1.1 ++ R), 0, 0)
  by_cases c3 : o1.2 = 0
  · rw [if_pos c3] at hq
    refine if_eq_T (t := 18) odX6_tray rfl rfl c3 ?_
    refine mB_run odX6_tray 1 (g := (19, [(0, .ref p0), (1, .int p1), (2, .int p2)], [.int (0 : Int32)], (o1.1 ++ R), 0, 0)) rfl ?_
    cases hq
    exact mB_ret odX6_tray rfl
  · rw [if_neg c3] at hq
    refine if_eq_F (t := 18) odX6_tray rfl rfl c3 ?_
    refine mB_run odX6_tray 2 (g := (9, [(0, .ref p0), (1, .int p1), (2, .int p2)], [.int (-1 : Int32), .int p2], (o1.1 ++ R), 0, 0)) rfl ?_
    by_cases c4 : p2 < (-1 : Int32)
    · rw [if_pos c4] at hq
      refine ic_lt_T (t := 18) odX6_tray rfl rfl c4 ?_
      refine mB_run odX6_tray 1 (g := (19, [(0, .ref p0), (1, .int p1), (2, .int p2)], [.int (0 : Int32)], (o1.1 ++ R), 0, 0)) rfl ?_
      cases hq
      exact mB_ret odX6_tray rfl
    · rw [if_neg c4] at hq
      refine ic_lt_F (t := 18) odX6_tray rfl rfl c4 ?_
      refine mB_run odX6_tray 2 (g := (15, [(0, .ref p0), (1, .int p1), (2, .int p2)], [.int (24 : Int32), .int p2], (o1.1 ++ R), 0, 0)) rfl ?_
      by_cases c5 : p2 ≤ (24 : Int32)
      · rw [if_pos c5] at hq
        refine ic_le_T (t := 20) odX6_tray rfl rfl c5 ?_
        refine mB_run odX6_tray 1 (g := (21, [(0, .ref p0), (1, .int p1), (2, .int p2)], [.ref p0], (o1.1 ++ R), 0, 0)) rfl ?_
        obtain ⟨v6, e7, hq⟩ := bsm hq
        refine r_gR odX6_tray rfl rfl (gR_ap e7) ?_
        refine mB_run odX6_tray 3 (g := (27, [(0, .ref p0), (1, .int p1), (2, .int p2)], [.int (-1 : Int32), .int p2, .int p1, .ref v6], (o1.1 ++ R), 0, 0)) rfl ?_
        by_cases c8 : p2 = (-1 : Int32)
        · rw [if_pos c8] at hq
          refine ic_eq_T (t := 34) odX6_tray rfl rfl c8 ?_
          refine mB_run odX6_tray 1 (g := (35, [(0, .ref p0), (1, .int p1), (2, .int p2)], [.int (0 : Int32), .int p1, .ref v6], (o1.1 ++ R), 0, 0)) rfl ?_
          refine mB_lv [0, 1, 2] (lv' := [(0, .ref p0), (1, .int p1), (2, .int p2)]) rfl ?_
          exact eaX6_tray_35 _ _ _ _ _ _ _ hq
        · rw [if_neg c8] at hq
          refine ic_eq_F (t := 34) odX6_tray rfl rfl c8 ?_
          refine mB_run odX6_tray 2 (g := (35, [(0, .ref p0), (1, .int p1), (2, .int p2)], [.int (1 : Int32), .int p1, .ref v6], (o1.1 ++ R), 0, 0)) rfl ?_
          refine mB_lv [0, 1, 2] (lv' := [(0, .ref p0), (1, .int p1), (2, .int p2)]) rfl ?_
          exact eaX6_tray_35 _ _ _ _ _ _ _ hq
      · rw [if_neg c5] at hq
        refine ic_le_F (t := 20) odX6_tray rfl rfl c5 ?_
        refine mB_run odX6_tray 1 (g := (19, [(0, .ref p0), (1, .int p1), (2, .int p2)], [.int (0 : Int32)], (o1.1 ++ R), 0, 0)) rfl ?_
        cases hq
        exact mB_ret odX6_tray rfl
set_option maxHeartbeats 4000000 in
set_option maxRecDepth 100000 in
theorem eaX6_point {N : Nat} {R : mh} {p0 : Nat} {p1 : Int32} {p2 : Int32} {p3 : Int32} {p4 : Int32} {p5 : Int32} {h : mh} {o : (mh × Int32)} (hq : fxX6_point N p0 p1 p2 p3 p4 p5 h = some o) : mC mX6_point [.ref p0, .int p1, .int p2, .int p3, .int p4, .int p5] (h ++ R) (o.1 ++ R, some (.int o.2)) := by
  refine mC_of okX6_point (Nat.le_of_ble_eq_true rfl) ?_
  unfold fxX6_point at hq
  show mB _ mX6_point (0, [(0, .ref p0), (1, .int p1), (2, .int p2), (3, .int p3), (4, .int p4), (5, .int p5)], [], (h ++ R), 0, 0)
  refine mB_run odX6_point 1 (g := (1, [(0, .ref p0), (1, .int p1), (2, .int p2), (3, .int p3), (4, .int p4), (5, .int p5)], [.int p1], (h ++ R), 0, 0)) rfl ?_
  obtain ⟨o1, e2, hq⟩ := bsm hq
  refine mB_S (as := [.int p1]) odX6_point okX6_isSlot lk_6_79 rfl (eaX6_isSlot e2) rfl rfl rfl ?_
  show mB _ mX6_point (4, [(0, .ref p0), (1, .int p1), (2, .int p2), (3, .int p3), (4, .int p4), (5, .int p5)], [.int o1.2], (o1.1 ++ R), 0, 0)
  by_cases c3 : o1.2 = 0
  · rw [if_pos c3] at hq
    refine if_eq_T (t := 27) odX6_point rfl rfl c3 ?_
    refine mB_run odX6_point 1 (g := (28, [(0, .ref p0), (1, .int p1), (2, .int p2), (3, .int p3), (4, .int p4), (5, .int p5)], [.int (0 : Int32)], (o1.1 ++ R), 0, 0)) rfl ?_
    cases hq
    exact mB_ret odX6_point rfl
  · rw [if_neg c3] at hq
    refine if_eq_F (t := 27) odX6_point rfl rfl c3 ?_
    refine mB_run odX6_point 1 (g := (8, [(0, .ref p0), (1, .int p1), (2, .int p2), (3, .int p3), (4, .int p4), (5, .int p5)], [.ref p0], (o1.1 ++ R), 0, 0)) rfl ?_
    obtain ⟨v4, e5, hq⟩ := bsm hq
    refine r_gR odX6_point rfl rfl (gR_ap e5) ?_
    refine mB_run odX6_point 1 (g := (12, [(0, .ref p0), (1, .int p1), (2, .int p2), (3, .int p3), (4, .int p4), (5, .int p5)], [.int p1, .ref v4], (o1.1 ++ R), 0, 0)) rfl ?_
    obtain ⟨v6, e7, hq⟩ := bsm hq
    refine r_aZ odX6_point rfl (aZ_ap e7) ?_
    by_cases c8 : v6 = 0
    · rw [if_pos c8] at hq
      refine if_eq_T (t := 27) odX6_point rfl rfl c8 ?_
      refine mB_run odX6_point 1 (g := (28, [(0, .ref p0), (1, .int p1), (2, .int p2), (3, .int p3), (4, .int p4), (5, .int p5)], [.int (0 : Int32)], (o1.1 ++ R), 0, 0)) rfl ?_
      cases hq
      exact mB_ret odX6_point rfl
    · rw [if_neg c8] at hq
      refine if_eq_F (t := 27) odX6_point rfl rfl c8 ?_
      refine mB_run odX6_point 3 (g := (21, [(0, .ref p0), (1, .int p1), (2, .int p2), (3, .int p3), (4, .int p4), (5, .int p5)], [.int p5, .int p4, .int p3], (o1.1 ++ R), 0, 0)) rfl ?_
      obtain ⟨o9, e10, hq⟩ := bsm hq
      refine mB_S (as := [.int p3, .int p4, .int p5]) odX6_point okX6_isPoint lk_6_86 rfl (eaX6_isPoint e10) rfl rfl rfl ?_
      show mB _ mX6_point (24, [(0, .ref p0), (1, .int p1), (2, .int p2), (3, .int p3), (4, .int p4), (5, .int p5)], [.int o9.2], (o9.1 ++ R), 0, 0)
      by_cases c11 : o9.2 = 0
      · rw [if_pos c11] at hq
        refine if_ne_F (t := 29) odX6_point rfl rfl c11 ?_
        refine mB_run odX6_point 1 (g := (28, [(0, .ref p0), (1, .int p1), (2, .int p2), (3, .int p3), (4, .int p4), (5, .int p5)], [.int (0 : Int32)], (o9.1 ++ R), 0, 0)) rfl ?_
        cases hq
        exact mB_ret odX6_point rfl
      · rw [if_neg c11] at hq
        refine if_ne_T (t := 29) odX6_point rfl rfl c11 ?_
        refine mB_run odX6_point 1 (g := (30, [(0, .ref p0), (1, .int p1), (2, .int p2), (3, .int p3), (4, .int p4), (5, .int p5)], [.ref p0], (o9.1 ++ R), 0, 0)) rfl ?_
        obtain ⟨v12, e13, hq⟩ := bsm hq
        refine r_gR odX6_point rfl rfl (gR_ap e13) ?_
        refine mB_run odX6_point 1 (g := (34, [(0, .ref p0), (1, .int p1), (2, .int p2), (3, .int p3), (4, .int p4), (5, .int p5)], [.int p1, .ref v12], (o9.1 ++ R), 0, 0)) rfl ?_
        obtain ⟨v14, e15, hq⟩ := bsm hq
        refine r_aR odX6_point rfl (aR_ap e15) ?_
        refine mB_run odX6_point 4 (g := (41, [(0, .ref p0), (1, .int p1), (2, .int p2), (3, .int p3), (4, .int p4), (5, .int p5)], [.int p5, .int p4, .int p3, .int p2, .ref v14], (o9.1 ++ R), 0, 0)) rfl ?_
        obtain ⟨f18, k19, hq⟩ := bsm hq
        obtain ⟨o16, e17, hq⟩ := bsm hq
        refine mB_V (as := [.int p2, .int p3, .int p4, .int p5]) odX6_point okX3_replace lk_6_90 rfl (eaX3_replace e17) (kO_at (kO_ap k19)) rfl rfl rfl ?_
        show mB _ mX6_point (44, [(0, .ref p0), (1, .int p1), (2, .int p2), (3, .int p3), (4, .int p4), (5, .int p5)], [.int o16.2], (o16.1 ++ R), 0, 0)
        by_cases c20 : o16.2 &&& 1 = o16.2
        · rw [if_pos c20] at hq
          cases hq
          exact mB_retz odX6_point rfl rfl c20 rfl
        · rw [if_neg c20] at hq; cases hq
set_option maxHeartbeats 4000000 in
set_option maxRecDepth 100000 in
theorem eaX6_forgetOldest_9 {N : Nat} {R : mh} : ∀ (n : Nat) (x0 : Nat) (x1 : Nat) (x2 : Int32) (h : mh) {o : mh}, fxX6_forgetOldest_9 N n x0 x1 x2 h = some o → mB (gO mX6_forgetOldest (o ++ R, none)) mX6_forgetOldest (9, [(0, .ref x0), (1, .ref x1), (2, .int x2)], [], (h ++ R), 0, 0) := by
  intro n
  induction n with
  | zero => intro x0 x1 x2 h o hq; cases hq
  | succ n ih =>
    intro x0 x1 x2 h o hq
    unfold fxX6_forgetOldest_9 at hq
    refine mB_run odX6_forgetOldest 2 (g := (12, [(0, .ref x0), (1, .ref x1), (2, .int x2)], [.int (8 : Int32), .int x2], (h ++ R), 0, 0)) rfl ?_
    by_cases c5 : (8 : Int32) ≤ x2
    · rw [if_pos c5] at hq
      refine ic_ge_T (t := 49) odX6_forgetOldest rfl rfl c5 ?_
      refine mB_run odX6_forgetOldest 2 (g := (52, [(0, .ref x0), (1, .ref x1), (2, .int x2)], [.int (7 : Int32), .ref x0], (h ++ R), 0, 0)) rfl ?_
      obtain ⟨h6, e7, hq⟩ := bsm hq
      refine r_sV odX6_forgetOldest rfl rfl rfl rfl (sV_ap e7) ?_
      refine mB_run odX6_forgetOldest 1 (g := (56, [(0, .ref x0), (1, .ref x1), (2, .int x2)], [.ref x0], (h6 ++ R), 0, 0)) rfl ?_
      obtain ⟨v8, e9, hq⟩ := bsm hq
      refine r_gR odX6_forgetOldest rfl rfl (gR_ap e9) ?_
      refine mB_run odX6_forgetOldest 1 (g := (60, [(0, .ref x0), (1, .ref x1), (2, .int x2)], [.ref x0, .ref v8], (h6 ++ R), 0, 0)) rfl ?_
      obtain ⟨v10, e11, hq⟩ := bsm hq
      refine r_gI odX6_forgetOldest rfl rfl (gI_ap e11) ?_
      refine mB_run odX6_forgetOldest 1 (g := (64, [(0, .ref x0), (1, .ref x1), (2, .int x2)], [.ref x1, .int v10, .ref v8], (h6 ++ R), 0, 0)) rfl ?_
      obtain ⟨h12, e13, hq⟩ := bsm hq
      refine r_wR odX6_forgetOldest rfl (wR_ap e13) ?_
      cases hq
      exact mB_ret odX6_forgetOldest rfl
    · rw [if_neg c5] at hq
      refine ic_ge_F (t := 49) odX6_forgetOldest rfl rfl c5 ?_
      refine mB_run odX6_forgetOldest 1 (g := (16, [(0, .ref x0), (1, .ref x1), (2, .int x2)], [.ref x0], (h ++ R), 0, 0)) rfl ?_
      obtain ⟨v14, e15, hq⟩ := bsm hq
      refine r_gR odX6_forgetOldest rfl rfl (gR_ap e15) ?_
      refine mB_run odX6_forgetOldest 4 (g := (23, [(0, .ref x0), (1, .ref x1), (2, .int x2)], [.ref x0, .int (x2 - (1 : Int32)), .ref v14], (h ++ R), 0, 0)) rfl ?_
      obtain ⟨v16, e17, hq⟩ := bsm hq
      refine r_gR odX6_forgetOldest rfl rfl (gR_ap e17) ?_
      refine mB_run odX6_forgetOldest 1 (g := (27, [(0, .ref x0), (1, .ref x1), (2, .int x2)], [.int x2, .ref v16, .int (x2 - (1 : Int32)), .ref v14], (h ++ R), 0, 0)) rfl ?_
      obtain ⟨v18, e19, hq⟩ := bsm hq
      refine r_aR odX6_forgetOldest rfl (aR_ap e19) ?_
      obtain ⟨h20, e21, hq⟩ := bsm hq
      refine r_wR odX6_forgetOldest rfl (wR_ap e21) ?_
      refine mB_run odX6_forgetOldest 1 (g := (30, [(0, .ref x0), (1, .ref x1), (2, .int x2)], [.ref x0], (h20 ++ R), 0, 0)) rfl ?_
      obtain ⟨v22, e23, hq⟩ := bsm hq
      refine r_gR odX6_forgetOldest rfl rfl (gR_ap e23) ?_
      refine mB_run odX6_forgetOldest 4 (g := (37, [(0, .ref x0), (1, .ref x1), (2, .int x2)], [.ref x0, .int (x2 - (1 : Int32)), .ref v22], (h20 ++ R), 0, 0)) rfl ?_
      obtain ⟨v24, e25, hq⟩ := bsm hq
      refine r_gR odX6_forgetOldest rfl rfl (gR_ap e25) ?_
      refine mB_run odX6_forgetOldest 1 (g := (41, [(0, .ref x0), (1, .ref x1), (2, .int x2)], [.int x2, .ref v24, .int (x2 - (1 : Int32)), .ref v22], (h20 ++ R), 0, 0)) rfl ?_
      obtain ⟨v26, e27, hq⟩ := bsm hq
      refine r_aI odX6_forgetOldest rfl (aI_ap e27) ?_
      obtain ⟨h28, e29, hq⟩ := bsm hq
      refine r_wI odX6_forgetOldest rfl (wI_ap e29) ?_
      refine mB_run odX6_forgetOldest 2 (g := (9, [(2, .int (x2 + (1 : Int32))), (0, .ref x0), (1, .ref x1)], [], (h28 ++ R), 0, 0)) rfl ?_
      refine mB_lv [1, 2, 0] (lv' := [(0, .ref x0), (1, .ref x1), (2, .int (x2 + (1 : Int32)))]) rfl ?_
      exact ih _ _ _ _ hq
set_option maxHeartbeats 4000000 in
set_option maxRecDepth 100000 in
theorem eaX6_forgetOldest {N : Nat} {R : mh} {p0 : Nat} {h : mh} {o : mh} (hq : fxX6_forgetOldest N p0 h = some o) : mC mX6_forgetOldest [.ref p0] (h ++ R) (o ++ R, none) := by
  refine mC_of okX6_forgetOldest (Nat.le_of_ble_eq_true rfl) ?_
  unfold fxX6_forgetOldest at hq
  show mB _ mX6_forgetOldest (0, [(0, .ref p0)], [], (h ++ R), 0, 0)
  refine mB_run odX6_forgetOldest 1 (g := (1, [(0, .ref p0)], [.ref p0], (h ++ R), 0, 0)) rfl ?_
  obtain ⟨v1, e2, hq⟩ := bsm hq
  refine r_gR odX6_forgetOldest rfl rfl (gR_ap e2) ?_
  refine mB_run odX6_forgetOldest 1 (g := (5, [(0, .ref p0)], [.int (0 : Int32), .ref v1], (h ++ R), 0, 0)) rfl ?_
  obtain ⟨v3, e4, hq⟩ := bsm hq
  refine r_aR odX6_forgetOldest rfl (aR_ap e4) ?_
  refine mB_run odX6_forgetOldest 3 (g := (9, [(2, .int (1 : Int32)), (1, .ref v3), (0, .ref p0)], [], (h ++ R), 0, 0)) rfl ?_
  refine mB_lv [2, 1, 0] (lv' := [(0, .ref p0), (1, .ref v3), (2, .int (1 : Int32))]) rfl ?_
  exact eaX6_forgetOldest_9 N _ _ _ _ hq
set_option maxHeartbeats 4000000 in
set_option maxRecDepth 100000 in
theorem eaX6_keepFresh_13 {N : Nat} {R : mh} (x0 : Nat) (x1 : Int32) (h : mh) {o : mh} (hq : fxX6_keepFresh_13 N x0 x1 h = some o) : mB (gO mX6_keepFresh (o ++ R, none)) mX6_keepFresh (13, [(0, .ref x0), (1, .int x1)], [], (h ++ R), 0, 0) := by
  unfold fxX6_keepFresh_13 at hq
  refine mB_run odX6_keepFresh 1 (g := (14, [(0, .ref x0), (1, .int x1)], [.ref x0], (h ++ R), 0, 0)) rfl ?_
  obtain ⟨v8, e9, hq⟩ := bsm hq
  refine r_gR odX6_keepFresh rfl rfl (gR_ap e9) ?_
  refine mB_run odX6_keepFresh 1 (g := (18, [(0, .ref x0), (1, .int x1)], [.ref x0, .ref v8], (h ++ R), 0, 0)) rfl ?_
  obtain ⟨v10, e11, hq⟩ := bsm hq
  refine r_gI odX6_keepFresh rfl rfl (gI_ap e11) ?_
  obtain ⟨v12, e13, hq⟩ := bsm hq
  refine r_aR odX6_keepFresh rfl (aR_ap e13) ?_
  refine mB_run odX6_keepFresh 2 (g := (24, [(2, .ref v12), (0, .ref x0), (1, .int x1)], [.ref x0], (h ++ R), 0, 0)) rfl ?_
  obtain ⟨v14, e15, hq⟩ := bsm hq
  refine r_gR odX6_keepFresh rfl rfl (gR_ap e15) ?_
  refine mB_run odX6_keepFresh 1 (g := (28, [(2, .ref v12), (0, .ref x0), (1, .int x1)], [.ref x0, .ref v14], (h ++ R), 0, 0)) rfl ?_
  obtain ⟨v16, e17, hq⟩ := bsm hq
  refine r_gI odX6_keepFresh rfl rfl (gI_ap e17) ?_
  refine mB_run odX6_keepFresh 1 (g := (32, [(2, .ref v12), (0, .ref x0), (1, .int x1)], [.ref x0, .int v16, .ref v14], (h ++ R), 0, 0)) rfl ?_
  obtain ⟨v18, e19, hq⟩ := bsm hq
  refine r_gR odX6_keepFresh rfl rfl (gR_ap e19) ?_
  refine mB_run odX6_keepFresh 1 (g := (36, [(2, .ref v12), (0, .ref x0), (1, .int x1)], [.int x1, .ref v18, .int v16, .ref v14], (h ++ R), 0, 0)) rfl ?_
  obtain ⟨v20, e21, hq⟩ := bsm hq
  refine r_aR odX6_keepFresh rfl (aR_ap e21) ?_
  obtain ⟨h22, e23, hq⟩ := bsm hq
  refine r_wR odX6_keepFresh rfl (wR_ap e23) ?_
  refine mB_run odX6_keepFresh 1 (g := (39, [(2, .ref v12), (0, .ref x0), (1, .int x1)], [.ref x0], (h22 ++ R), 0, 0)) rfl ?_
  obtain ⟨v24, e25, hq⟩ := bsm hq
  refine r_gR odX6_keepFresh rfl rfl (gR_ap e25) ?_
  refine mB_run odX6_keepFresh 1 (g := (43, [(2, .ref v12), (0, .ref x0), (1, .int x1)], [.ref x0, .ref v24], (h22 ++ R), 0, 0)) rfl ?_
  obtain ⟨v26, e27, hq⟩ := bsm hq
  refine r_gI odX6_keepFresh rfl rfl (gI_ap e27) ?_
  refine mB_run odX6_keepFresh 1 (g := (47, [(2, .ref v12), (0, .ref x0), (1, .int x1)], [.int x1, .int v26, .ref v24], (h22 ++ R), 0, 0)) rfl ?_
  obtain ⟨h28, e29, hq⟩ := bsm hq
  refine r_wI odX6_keepFresh rfl (wI_ap e29) ?_
  refine mB_run odX6_keepFresh 2 (g := (50, [(2, .ref v12), (0, .ref x0), (1, .int x1)], [.ref x0, .ref x0], (h28 ++ R), 0, 0)) rfl ?_
  obtain ⟨v30, e31, hq⟩ := bsm hq
  refine r_gI odX6_keepFresh rfl rfl (gI_ap e31) ?_
  refine mB_run odX6_keepFresh 2 (g := (55, [(2, .ref v12), (0, .ref x0), (1, .int x1)], [.int (v30 + (1 : Int32)), .ref x0], (h28 ++ R), 0, 0)) rfl ?_
  obtain ⟨h32, e33, hq⟩ := bsm hq
  refine r_sV odX6_keepFresh rfl rfl rfl rfl (sV_ap e33) ?_
  refine mB_run odX6_keepFresh 1 (g := (59, [(2, .ref v12), (0, .ref x0), (1, .int x1)], [.ref x0], (h32 ++ R), 0, 0)) rfl ?_
  obtain ⟨v34, e35, hq⟩ := bsm hq
  refine r_gR odX6_keepFresh rfl rfl (gR_ap e35) ?_
  refine mB_run odX6_keepFresh 2 (g := (64, [(2, .ref v12), (0, .ref x0), (1, .int x1)], [.ref x0, .int x1, .ref v34], (h32 ++ R), 0, 0)) rfl ?_
  obtain ⟨v36, e37, hq⟩ := bsm hq
  refine r_gR odX6_keepFresh rfl rfl (gR_ap e37) ?_
  obtain ⟨h38, e39, hq⟩ := bsm hq
  refine r_wR odX6_keepFresh rfl (wR_ap e39) ?_
  refine mB_run odX6_keepFresh 2 (g := (70, [(2, .ref v12), (0, .ref x0), (1, .int x1)], [.ref v12, .ref x0], (h38 ++ R), 0, 0)) rfl ?_
  obtain ⟨h40, e41, hq⟩ := bsm hq
  refine r_sV odX6_keepFresh rfl rfl rfl rfl (sV_ap e41) ?_
  cases hq
  exact mB_ret odX6_keepFresh rfl
set_option maxHeartbeats 4000000 in
set_option maxRecDepth 100000 in
theorem eaX6_keepFresh {N : Nat} {R : mh} {p0 : Nat} {p1 : Int32} {h : mh} {o : mh} (hq : fxX6_keepFresh N p0 p1 h = some o) : mC mX6_keepFresh [.ref p0, .int p1] (h ++ R) (o ++ R, none) := by
  refine mC_of okX6_keepFresh (Nat.le_of_ble_eq_true rfl) ?_
  unfold fxX6_keepFresh at hq
  show mB _ mX6_keepFresh (0, [(0, .ref p0), (1, .int p1)], [], (h ++ R), 0, 0)
  refine mB_run odX6_keepFresh 1 (g := (1, [(0, .ref p0), (1, .int p1)], [.ref p0], (h ++ R), 0, 0)) rfl ?_
  obtain ⟨v1, e2, hq⟩ := bsm hq
  refine r_gI odX6_keepFresh rfl rfl (gI_ap e2) ?_
  refine mB_run odX6_keepFresh 1 (g := (6, [(0, .ref p0), (1, .int p1)], [.int (8 : Int32), .int v1], (h ++ R), 0, 0)) rfl ?_
  by_cases c3 : v1 = (8 : Int32)
  · rw [if_pos c3] at hq
    refine ic_ne_F (t := 13) odX6_keepFresh rfl rfl c3 ?_
    refine mB_run odX6_keepFresh 1 (g := (10, [(0, .ref p0), (1, .int p1)], [.ref p0], (h ++ R), 0, 0)) rfl ?_
    obtain ⟨f6, k7, hq⟩ := bsm hq
    obtain ⟨o4, e5, hq⟩ := bsm hq
    refine mB_V (as := []) odX6_keepFresh okX6_forgetOldest lk_6_210 rfl (eaX6_forgetOldest e5) (kO_at (kO_ap k7)) rfl rfl rfl ?_
    show mB _ mX6_keepFresh (13, [(0, .ref p0), (1, .int p1)], [], (o4 ++ R), 0, 0)
    refine mB_lv [0, 1] (lv' := [(0, .ref p0), (1, .int p1)]) rfl ?_
    exact eaX6_keepFresh_13 _ _ _ hq
  · rw [if_neg c3] at hq
    refine ic_ne_T (t := 13) odX6_keepFresh rfl rfl c3 ?_
    refine mB_lv [0, 1] (lv' := [(0, .ref p0), (1, .int p1)]) rfl ?_
    exact eaX6_keepFresh_13 _ _ _ hq
set_option maxHeartbeats 4000000 in
set_option maxRecDepth 100000 in
theorem eaX6_become {N : Nat} {R : mh} {p0 : Nat} {p1 : Int32} {p2 : Nat} {p3 : Nat} {h : mh} {o : (mh × Int32)} (hq : fxX6_become N p0 p1 p2 p3 h = some o) : mC mX6_become [.ref p0, .int p1, .ref p2, .ref p3] (h ++ R) (o.1 ++ R, some (.int o.2)) := by
  refine mC_of okX6_become (Nat.le_of_ble_eq_true rfl) ?_
  unfold fxX6_become at hq
  show mB _ mX6_become (0, [(0, .ref p0), (1, .int p1), (2, .ref p2), (3, .ref p3)], [], (h ++ R), 0, 0)
  refine mB_run odX6_become 1 (g := (1, [(0, .ref p0), (1, .int p1), (2, .ref p2), (3, .ref p3)], [.ref p0], (h ++ R), 0, 0)) rfl ?_
  obtain ⟨v1, e2, hq⟩ := bsm hq
  refine r_gR odX6_become rfl rfl (gR_ap e2) ?_
  refine mB_run odX6_become 3 (g := (7, [(0, .ref p0), (1, .int p1), (2, .ref p2), (3, .ref p3)], [.ref p0, .ref p3, .ref p2, .ref v1], (h ++ R), 0, 0)) rfl ?_
  obtain ⟨v3, e4, hq⟩ := bsm hq
  refine r_gR odX6_become rfl rfl (gR_ap e4) ?_
  obtain ⟨f7, k8, hq⟩ := bsm hq
  obtain ⟨o5, e6, hq⟩ := bsm hq
  refine mB_V (as := [.ref p2, .ref p3, .ref v3]) odX6_become okX2_build lk_6_203 rfl (eaX2_build e6) (kO_at (kO_ap k8)) rfl rfl rfl ?_
  show mB _ mX6_become (13, [(0, .ref p0), (1, .int p1), (2, .ref p2), (3, .ref p3)], [.int o5.2], (o5.1 ++ R), 0, 0)
  refine mB_run odX6_become 3 (g := (19, [(4, .int o5.2), (0, .ref p0), (1, .int p1), (2, .ref p2), (3, .ref p3)], [.int (-2 : Int32), .int o5.2], (o5.1 ++ R), 0, 0)) rfl ?_
  by_cases c9 : o5.2 = (-2 : Int32)
  · rw [if_pos c9] at hq
    refine ic_eq_T (t := 27) odX6_become rfl rfl c9 ?_
    refine mB_run odX6_become 1 (g := (29, [(4, .int o5.2), (0, .ref p0), (1, .int p1), (2, .ref p2), (3, .ref p3)], [.int o5.2], (o5.1 ++ R), 0, 0)) rfl ?_
    cases hq
    exact mB_ret odX6_become rfl
  · rw [if_neg c9] at hq
    refine ic_eq_F (t := 27) odX6_become rfl rfl c9 ?_
    refine mB_run odX6_become 2 (g := (24, [(4, .int o5.2), (0, .ref p0), (1, .int p1), (2, .ref p2), (3, .ref p3)], [.int p1, .ref p0], (o5.1 ++ R), 0, 0)) rfl ?_
    obtain ⟨f12, k13, hq⟩ := bsm hq
    obtain ⟨o10, e11, hq⟩ := bsm hq
    refine mB_V (as := [.int p1]) odX6_become okX6_keepFresh lk_6_207 rfl (eaX6_keepFresh e11) (kO_at (kO_ap k13)) rfl rfl rfl ?_
    show mB _ mX6_become (27, [(4, .int o5.2), (0, .ref p0), (1, .int p1), (2, .ref p2), (3, .ref p3)], [], (o10 ++ R), 0, 0)
    refine mB_run odX6_become 1 (g := (29, [(4, .int o5.2), (0, .ref p0), (1, .int p1), (2, .ref p2), (3, .ref p3)], [.int o5.2], (o10 ++ R), 0, 0)) rfl ?_
    cases hq
    exact mB_ret odX6_become rfl
set_option maxHeartbeats 4000000 in
set_option maxRecDepth 100000 in
theorem eaX6_solid {N : Nat} {R : mh} {p0 : Nat} {p1 : Int32} {p2 : Int32} {h : mh} {o : (mh × Int32)} (hq : fxX6_solid N p0 p1 p2 h = some o) : mC mX6_solid [.ref p0, .int p1, .int p2] (h ++ R) (o.1 ++ R, some (.int o.2)) := by
  refine mC_of okX6_solid (Nat.le_of_ble_eq_true rfl) ?_
  unfold fxX6_solid at hq
  show mB _ mX6_solid (0, [(0, .ref p0), (1, .int p1), (2, .int p2)], [], (h ++ R), 0, 0)
  refine mB_run odX6_solid 1 (g := (1, [(0, .ref p0), (1, .int p1), (2, .int p2)], [.int p1], (h ++ R), 0, 0)) rfl ?_
  obtain ⟨o1, e2, hq⟩ := bsm hq
  refine mB_S (as := [.int p1]) odX6_solid okX6_isSlot lk_6_79 rfl (eaX6_isSlot e2) rfl rfl rfl ?_
  show mB _ mX6_solid (4, [(0, .ref p0), (1, .int p1), (2, .int p2)], [.int o1.2], (o1.1 ++ R), 0, 0)
  by_cases c3 : o1.2 = 0
  · rw [if_pos c3] at hq
    refine if_eq_T (t := 23) odX6_solid rfl rfl c3 ?_
    refine mB_run odX6_solid 1 (g := (24, [(0, .ref p0), (1, .int p1), (2, .int p2)], [.int (-1 : Int32)], (o1.1 ++ R), 0, 0)) rfl ?_
    cases hq
    exact mB_ret odX6_solid rfl
  · rw [if_neg c3] at hq
    refine if_eq_F (t := 23) odX6_solid rfl rfl c3 ?_
    refine mB_run odX6_solid 1 (g := (8, [(0, .ref p0), (1, .int p1), (2, .int p2)], [.int p2], (o1.1 ++ R), 0, 0)) rfl ?_
    obtain ⟨o4, e5, hq⟩ := bsm hq
    refine mB_S (as := [.int p2]) odX6_solid okX6_isSlot lk_6_79 rfl (eaX6_isSlot e5) rfl rfl rfl ?_
    show mB _ mX6_solid (11, [(0, .ref p0), (1, .int p1), (2, .int p2)], [.int o4.2], (o4.1 ++ R), 0, 0)
    by_cases c6 : o4.2 = 0
    · rw [if_pos c6] at hq
      refine if_eq_T (t := 23) odX6_solid rfl rfl c6 ?_
      refine mB_run odX6_solid 1 (g := (24, [(0, .ref p0), (1, .int p1), (2, .int p2)], [.int (-1 : Int32)], (o4.1 ++ R), 0, 0)) rfl ?_
      cases hq
      exact mB_ret odX6_solid rfl
    · rw [if_neg c6] at hq
      refine if_eq_F (t := 23) odX6_solid rfl rfl c6 ?_
      refine mB_run odX6_solid 1 (g := (15, [(0, .ref p0), (1, .int p1), (2, .int p2)], [.ref p0], (o4.1 ++ R), 0, 0)) rfl ?_
      obtain ⟨v7, e8, hq⟩ := bsm hq
      refine r_gR odX6_solid rfl rfl (gR_ap e8) ?_
      refine mB_run odX6_solid 1 (g := (19, [(0, .ref p0), (1, .int p1), (2, .int p2)], [.int p2, .ref v7], (o4.1 ++ R), 0, 0)) rfl ?_
      obtain ⟨v9, e10, hq⟩ := bsm hq
      refine r_aZ odX6_solid rfl (aZ_ap e10) ?_
      by_cases c11 : v9 = 0
      · rw [if_pos c11] at hq
        refine if_ne_F (t := 25) odX6_solid rfl rfl c11 ?_
        refine mB_run odX6_solid 1 (g := (24, [(0, .ref p0), (1, .int p1), (2, .int p2)], [.int (-1 : Int32)], (o4.1 ++ R), 0, 0)) rfl ?_
        cases hq
        exact mB_ret odX6_solid rfl
      · rw [if_neg c11] at hq
        refine if_ne_T (t := 25) odX6_solid rfl rfl c11 ?_
        refine mB_run odX6_solid 3 (g := (28, [(0, .ref p0), (1, .int p1), (2, .int p2)], [.ref p0, .int p1, .ref p0], (o4.1 ++ R), 0, 0)) rfl ?_
        obtain ⟨v12, e13, hq⟩ := bsm hq
        refine r_gR odX6_solid rfl rfl (gR_ap e13) ?_
        refine mB_run odX6_solid 1 (g := (32, [(0, .ref p0), (1, .int p1), (2, .int p2)], [.int p2, .ref v12, .int p1, .ref p0], (o4.1 ++ R), 0, 0)) rfl ?_
        obtain ⟨v14, e15, hq⟩ := bsm hq
        refine r_aR odX6_solid rfl (aR_ap e15) ?_
        refine mB_run odX6_solid 1 (g := (34, [(0, .ref p0), (1, .int p1), (2, .int p2)], [.ref p0, .ref v14, .int p1, .ref p0], (o4.1 ++ R), 0, 0)) rfl ?_
        obtain ⟨v16, e17, hq⟩ := bsm hq
        refine r_gR odX6_solid rfl rfl (gR_ap e17) ?_
        obtain ⟨f20, k21, hq⟩ := bsm hq
        obtain ⟨o18, e19, hq⟩ := bsm hq
        refine mB_V (as := [.int p1, .ref v14, .ref v16]) odX6_solid okX6_become lk_6_94 rfl (eaX6_become e19) (kO_at (kO_ap k21)) rfl rfl rfl ?_
        show mB _ mX6_solid (40, [(0, .ref p0), (1, .int p1), (2, .int p2)], [.int o18.2], (o18.1 ++ R), 0, 0)
        cases hq
        exact mB_ret odX6_solid rfl
set_option maxHeartbeats 4000000 in
set_option maxRecDepth 100000 in
theorem eaX6_grow {N : Nat} {R : mh} {p0 : Nat} {p1 : Int32} {p2 : Int32} {p3 : Int32} {p4 : Int32} {h : mh} {o : (mh × Int32)} (hq : fxX6_grow N p0 p1 p2 p3 p4 h = some o) : mC mX6_grow [.ref p0, .int p1, .int p2, .int p3, .int p4] (h ++ R) (o.1 ++ R, some (.int o.2)) := by
  refine mC_of okX6_grow (Nat.le_of_ble_eq_true rfl) ?_
  unfold fxX6_grow at hq
  show mB _ mX6_grow (0, [(0, .ref p0), (1, .int p1), (2, .int p2), (3, .int p3), (4, .int p4)], [], (h ++ R), 0, 0)
  refine mB_run odX6_grow 1 (g := (1, [(0, .ref p0), (1, .int p1), (2, .int p2), (3, .int p3), (4, .int p4)], [.int p1], (h ++ R), 0, 0)) rfl ?_
  obtain ⟨o1, e2, hq⟩ := bsm hq
  refine mB_S (as := [.int p1]) odX6_grow okX6_isSlot lk_6_79 rfl (eaX6_isSlot e2) rfl rfl rfl ?_
  show mB _ mX6_grow (4, [(0, .ref p0), (1, .int p1), (2, .int p2), (3, .int p3), (4, .int p4)], [.int o1.2], (o1.1 ++ R), 0, 0)
  by_cases c3 : o1.2 = 0
  · rw [if_pos c3] at hq
    refine if_eq_T (t := 17) odX6_grow rfl rfl c3 ?_
    refine mB_run odX6_grow 1 (g := (18, [(0, .ref p0), (1, .int p1), (2, .int p2), (3, .int p3), (4, .int p4)], [.int (-1 : Int32)], (o1.1 ++ R), 0, 0)) rfl ?_
    cases hq
    exact mB_ret odX6_grow rfl
  · rw [if_neg c3] at hq
    refine if_eq_F (t := 17) odX6_grow rfl rfl c3 ?_
    refine mB_run odX6_grow 3 (g := (11, [(0, .ref p0), (1, .int p1), (2, .int p2), (3, .int p3), (4, .int p4)], [.int p4, .int p3, .int p2], (o1.1 ++ R), 0, 0)) rfl ?_
    obtain ⟨o4, e5, hq⟩ := bsm hq
    refine mB_S (as := [.int p2, .int p3, .int p4]) odX6_grow okX6_isPoint lk_6_86 rfl (eaX6_isPoint e5) rfl rfl rfl ?_
    show mB _ mX6_grow (14, [(0, .ref p0), (1, .int p1), (2, .int p2), (3, .int p3), (4, .int p4)], [.int o4.2], (o4.1 ++ R), 0, 0)
    by_cases c6 : o4.2 = 0
    · rw [if_pos c6] at hq
      refine if_ne_F (t := 19) odX6_grow rfl rfl c6 ?_
      refine mB_run odX6_grow 1 (g := (18, [(0, .ref p0), (1, .int p1), (2, .int p2), (3, .int p3), (4, .int p4)], [.int (-1 : Int32)], (o4.1 ++ R), 0, 0)) rfl ?_
      cases hq
      exact mB_ret odX6_grow rfl
    · rw [if_neg c6] at hq
      refine if_ne_T (t := 19) odX6_grow rfl rfl c6 ?_
      refine mB_run odX6_grow 1 (g := (20, [(0, .ref p0), (1, .int p1), (2, .int p2), (3, .int p3), (4, .int p4)], [.ref p0], (o4.1 ++ R), 0, 0)) rfl ?_
      obtain ⟨v7, e8, hq⟩ := bsm hq
      refine r_gR odX6_grow rfl rfl (gR_ap e8) ?_
      refine mB_run odX6_grow 1 (g := (24, [(0, .ref p0), (1, .int p1), (2, .int p2), (3, .int p3), (4, .int p4)], [.ref p0, .ref v7], (o4.1 ++ R), 0, 0)) rfl ?_
      obtain ⟨v9, e10, hq⟩ := bsm hq
      refine r_gR odX6_grow rfl rfl (gR_ap e10) ?_
      refine mB_run odX6_grow 1 (g := (28, [(0, .ref p0), (1, .int p1), (2, .int p2), (3, .int p3), (4, .int p4)], [.int p1, .ref v9, .ref v7], (o4.1 ++ R), 0, 0)) rfl ?_
      obtain ⟨v11, e12, hq⟩ := bsm hq
      refine r_aR odX6_grow rfl (aR_ap e12) ?_
      obtain ⟨v13, e14, hq⟩ := bsm hq
      refine r_gR odX6_grow rfl rfl (gR_ap e14) ?_
      obtain ⟨f17, k18, hq⟩ := bsm hq
      obtain ⟨o15, e16, hq⟩ := bsm hq
      refine mB_V (as := [.ref v13]) odX6_grow okX3_takeAll lk_6_101 rfl (eaX3_takeAll e16) (kO_at (kO_ap k18)) rfl rfl rfl ?_
      show mB _ mX6_grow (35, [(0, .ref p0), (1, .int p1), (2, .int p2), (3, .int p3), (4, .int p4)], [], (o15 ++ R), 0, 0)
      refine mB_run odX6_grow 1 (g := (36, [(0, .ref p0), (1, .int p1), (2, .int p2), (3, .int p3), (4, .int p4)], [.ref p0], (o15 ++ R), 0, 0)) rfl ?_
      obtain ⟨v19, e20, hq⟩ := bsm hq
      refine r_gR odX6_grow rfl rfl (gR_ap e20) ?_
      refine mB_run odX6_grow 3 (g := (43, [(0, .ref p0), (1, .int p1), (2, .int p2), (3, .int p3), (4, .int p4)], [.int p4, .int p3, .int p2, .ref v19], (o15 ++ R), 0, 0)) rfl ?_
      obtain ⟨f23, k24, hq⟩ := bsm hq
      obtain ⟨o21, e22, hq⟩ := bsm hq
      refine mB_V (as := [.int p2, .int p3, .int p4]) odX6_grow okX3_put lk_6_75 rfl (eaX3_put e22) (kO_at (kO_ap k24)) rfl rfl rfl ?_
      show mB _ mX6_grow (46, [(0, .ref p0), (1, .int p1), (2, .int p2), (3, .int p3), (4, .int p4)], [], (o21 ++ R), 0, 0)
      refine mB_run odX6_grow 3 (g := (49, [(0, .ref p0), (1, .int p1), (2, .int p2), (3, .int p3), (4, .int p4)], [.ref p0, .int p1, .ref p0], (o21 ++ R), 0, 0)) rfl ?_
      obtain ⟨v25, e26, hq⟩ := bsm hq
      refine r_gR odX6_grow rfl rfl (gR_ap e26) ?_
      refine mB_run odX6_grow 1 (g := (53, [(0, .ref p0), (1, .int p1), (2, .int p2), (3, .int p3), (4, .int p4)], [.ref p0, .ref v25, .int p1, .ref p0], (o21 ++ R), 0, 0)) rfl ?_
      obtain ⟨v27, e28, hq⟩ := bsm hq
      refine r_gR odX6_grow rfl rfl (gR_ap e28) ?_
      obtain ⟨f31, k32, hq⟩ := bsm hq
      obtain ⟨o29, e30, hq⟩ := bsm hq
      refine mB_V (as := [.int p1, .ref v25, .ref v27]) odX6_grow okX6_become lk_6_94 rfl (eaX6_become e30) (kO_at (kO_ap k32)) rfl rfl rfl ?_
      show mB _ mX6_grow (59, [(0, .ref p0), (1, .int p1), (2, .int p2), (3, .int p3), (4, .int p4)], [.int o29.2], (o29.1 ++ R), 0, 0)
      cases hq
      exact mB_ret odX6_grow rfl
set_option maxHeartbeats 4000000 in
set_option maxRecDepth 100000 in
theorem eaX6_count {N : Nat} {R : mh} {p0 : Nat} {p1 : Int32} {p2 : Int32} {h : mh} {o : (mh × Int32)} (hq : fxX6_count N p0 p1 p2 h = some o) : mC mX6_count [.ref p0, .int p1, .int p2] (h ++ R) (o.1 ++ R, some (.int o.2)) := by
  refine mC_of okX6_count (Nat.le_of_ble_eq_true rfl) ?_
  unfold fxX6_count at hq
  show mB _ mX6_count (0, [(0, .ref p0), (1, .int p1), (2, .int p2)], [], (h ++ R), 0, 0)
  refine mB_run odX6_count 1 (g := (1, [(0, .ref p0), (1, .int p1), (2, .int p2)], [.int p1], (h ++ R), 0, 0)) rfl ?_
  obtain ⟨o1, e2, hq⟩ := bsm hq
  refine mB_S (as := [.int p1]) odX6_count okX6_isSlot lk_6_79 rfl (eaX6_isSlot e2) rfl rfl rfl ?_
  show mB _ mX6_count (4, [(0, .ref p0), (1, .int p1), (2, .int p2)], [.int o1.2], (o1.1 ++ R), 0, 0)
  by_cases c3 : o1.2 = 0
  · rw [if_pos c3] at hq
    refine if_ne_F (t := 9) odX6_count rfl rfl c3 ?_
    refine mB_run odX6_count 1 (g := (8, [(0, .ref p0), (1, .int p1), (2, .int p2)], [.int (-1 : Int32)], (o1.1 ++ R), 0, 0)) rfl ?_
    cases hq
    exact mB_ret odX6_count rfl
  · rw [if_neg c3] at hq
    refine if_ne_T (t := 9) odX6_count rfl rfl c3 ?_
    refine mB_run odX6_count 1 (g := (10, [(0, .ref p0), (1, .int p1), (2, .int p2)], [.ref p0], (o1.1 ++ R), 0, 0)) rfl ?_
    obtain ⟨v4, e5, hq⟩ := bsm hq
    refine r_gR odX6_count rfl rfl (gR_ap e5) ?_
    refine mB_run odX6_count 1 (g := (14, [(0, .ref p0), (1, .int p1), (2, .int p2)], [.int p1, .ref v4], (o1.1 ++ R), 0, 0)) rfl ?_
    obtain ⟨v6, e7, hq⟩ := bsm hq
    refine r_aR odX6_count rfl (aR_ap e7) ?_
    refine mB_run odX6_count 2 (g := (17, [(3, .ref v6), (0, .ref p0), (1, .int p1), (2, .int p2)], [.int p2], (o1.1 ++ R), 0, 0)) rfl ?_
    by_cases c8 : p2 = (0 : Int32)
    · rw [if_pos c8] at hq
      refine r_tab odX6_count rfl c8 (t := 48) rfl ?_
      refine mB_run odX6_count 1 (g := (49, [(3, .ref v6), (0, .ref p0), (1, .int p1), (2, .int p2)], [.ref v6], (o1.1 ++ R), 0, 0)) rfl ?_
      obtain ⟨v9, e10, hq⟩ := bsm hq
      refine r_gI odX6_count rfl rfl (gI_ap e10) ?_
      cases hq
      exact mB_ret odX6_count rfl
    · rw [if_neg c8] at hq
      by_cases c11 : p2 = (1 : Int32)
      · rw [if_pos c11] at hq
        refine r_tab odX6_count rfl c11 (t := 53) rfl ?_
        refine mB_run odX6_count 1 (g := (54, [(3, .ref v6), (0, .ref p0), (1, .int p1), (2, .int p2)], [.ref v6], (o1.1 ++ R), 0, 0)) rfl ?_
        obtain ⟨v12, e13, hq⟩ := bsm hq
        refine r_gR odX6_count rfl rfl (gR_ap e13) ?_
        obtain ⟨v14, e15, hq⟩ := bsm hq
        refine r_gI odX6_count rfl rfl (gI_ap e15) ?_
        cases hq
        exact mB_ret odX6_count rfl
      · rw [if_neg c11] at hq
        by_cases c16 : p2 = (2 : Int32)
        · rw [if_pos c16] at hq
          refine r_tab odX6_count rfl c16 (t := 61) rfl ?_
          refine mB_run odX6_count 1 (g := (62, [(3, .ref v6), (0, .ref p0), (1, .int p1), (2, .int p2)], [.ref v6], (o1.1 ++ R), 0, 0)) rfl ?_
          obtain ⟨v17, e18, hq⟩ := bsm hq
          refine r_gI odX6_count rfl rfl (gI_ap e18) ?_
          cases hq
          exact mB_ret odX6_count rfl
        · rw [if_neg c16] at hq
          by_cases c19 : p2 = (3 : Int32)
          · rw [if_pos c19] at hq
            refine r_tab odX6_count rfl c19 (t := 66) rfl ?_
            refine mB_run odX6_count 1 (g := (67, [(3, .ref v6), (0, .ref p0), (1, .int p1), (2, .int p2)], [.ref v6], (o1.1 ++ R), 0, 0)) rfl ?_
            obtain ⟨v20, e21, hq⟩ := bsm hq
            refine r_gI odX6_count rfl rfl (gI_ap e21) ?_
            cases hq
            exact mB_ret odX6_count rfl
          · rw [if_neg c19] at hq
            refine r_tabd odX6_count rfl (t := 71) (by omega) (ts_out4 c8 c11 c16 c19) ?_
            refine mB_run odX6_count 1 (g := (72, [(3, .ref v6), (0, .ref p0), (1, .int p1), (2, .int p2)], [.int (-1 : Int32)], (o1.1 ++ R), 0, 0)) rfl ?_
            cases hq
            exact mB_ret odX6_count rfl
set_option maxHeartbeats 4000000 in
set_option maxRecDepth 100000 in
theorem eaX6_corner {N : Nat} {R : mh} {p0 : Nat} {p1 : Int32} {p2 : Int32} {p3 : Int32} {h : mh} {o : (mh × Int32)} (hq : fxX6_corner N p0 p1 p2 p3 h = some o) : mC mX6_corner [.ref p0, .int p1, .int p2, .int p3] (h ++ R) (o.1 ++ R, some (.int o.2)) := by
  refine mC_of okX6_corner (Nat.le_of_ble_eq_true rfl) ?_
  unfold fxX6_corner at hq
  show mB _ mX6_corner (0, [(0, .ref p0), (1, .int p1), (2, .int p2), (3, .int p3)], [], (h ++ R), 0, 0)
  refine mB_run odX6_corner 1 (g := (1, [(0, .ref p0), (1, .int p1), (2, .int p2), (3, .int p3)], [.int p1], (h ++ R), 0, 0)) rfl ?_
  obtain ⟨o1, e2, hq⟩ := bsm hq
  refine mB_S (as := [.int p1]) odX6_corner okX6_isSlot lk_6_79 rfl (eaX6_isSlot e2) rfl rfl rfl ?_
  show mB _ mX6_corner (4, [(0, .ref p0), (1, .int p1), (2, .int p2), (3, .int p3)], [.int o1.2], (o1.1 ++ R), 0, 0)
  by_cases c3 : o1.2 = 0
  · rw [if_pos c3] at hq
    refine if_eq_T (t := 27) odX6_corner rfl rfl c3 ?_
    refine mB_run odX6_corner 1 (g := (30, [(0, .ref p0), (1, .int p1), (2, .int p2), (3, .int p3)], [.int (-1000 : Int32)], (o1.1 ++ R), 0, 0)) rfl ?_
    cases hq
    exact mB_ret odX6_corner rfl
  · rw [if_neg c3] at hq
    refine if_eq_F (t := 27) odX6_corner rfl rfl c3 ?_
    refine mB_run odX6_corner 1 (g := (8, [(0, .ref p0), (1, .int p1), (2, .int p2), (3, .int p3)], [.int p2], (o1.1 ++ R), 0, 0)) rfl ?_
    by_cases c4 : p2 < 0
    · rw [if_pos c4] at hq
      refine if_lt_T (t := 27) odX6_corner rfl rfl c4 ?_
      refine mB_run odX6_corner 1 (g := (30, [(0, .ref p0), (1, .int p1), (2, .int p2), (3, .int p3)], [.int (-1000 : Int32)], (o1.1 ++ R), 0, 0)) rfl ?_
      cases hq
      exact mB_ret odX6_corner rfl
    · rw [if_neg c4] at hq
      refine if_lt_F (t := 27) odX6_corner rfl rfl c4 ?_
      refine mB_run odX6_corner 2 (g := (13, [(0, .ref p0), (1, .int p1), (2, .int p2), (3, .int p3)], [.ref p0, .int p2], (o1.1 ++ R), 0, 0)) rfl ?_
      obtain ⟨v5, e6, hq⟩ := bsm hq
      refine r_gR odX6_corner rfl rfl (gR_ap e6) ?_
      refine mB_run odX6_corner 1 (g := (17, [(0, .ref p0), (1, .int p1), (2, .int p2), (3, .int p3)], [.int p1, .ref v5, .int p2], (o1.1 ++ R), 0, 0)) rfl ?_
      obtain ⟨v7, e8, hq⟩ := bsm hq
      refine r_aR odX6_corner rfl (aR_ap e8) ?_
      obtain ⟨v9, e10, hq⟩ := bsm hq
      refine r_gR odX6_corner rfl rfl (gR_ap e10) ?_
      obtain ⟨v11, e12, hq⟩ := bsm hq
      refine r_gI odX6_corner rfl rfl (gI_ap e12) ?_
      by_cases c13 : p2 < v11
      · rw [if_pos c13] at hq
        refine ic_lt_T (t := 31) odX6_corner rfl rfl c13 ?_
        refine mB_run odX6_corner 1 (g := (32, [(0, .ref p0), (1, .int p1), (2, .int p2), (3, .int p3)], [.ref p0], (o1.1 ++ R), 0, 0)) rfl ?_
        obtain ⟨v14, e15, hq⟩ := bsm hq
        refine r_gR odX6_corner rfl rfl (gR_ap e15) ?_
        refine mB_run odX6_corner 1 (g := (36, [(0, .ref p0), (1, .int p1), (2, .int p2), (3, .int p3)], [.int p1, .ref v14], (o1.1 ++ R), 0, 0)) rfl ?_
        obtain ⟨v16, e17, hq⟩ := bsm hq
        refine r_aR odX6_corner rfl (aR_ap e17) ?_
        obtain ⟨v18, e19, hq⟩ := bsm hq
        refine r_gR odX6_corner rfl rfl (gR_ap e19) ?_
        refine mB_run odX6_corner 2 (g := (43, [(4, .ref v18), (0, .ref p0), (1, .int p1), (2, .int p2), (3, .int p3)], [.int p3], (o1.1 ++ R), 0, 0)) rfl ?_
        by_cases c20 : p3 = (0 : Int32)
        · rw [if_pos c20] at hq
          refine r_tab odX6_corner rfl c20 (t := 68) rfl ?_
          refine mB_run odX6_corner 1 (g := (70, [(4, .ref v18), (0, .ref p0), (1, .int p1), (2, .int p2), (3, .int p3)], [.ref v18], (o1.1 ++ R), 0, 0)) rfl ?_
          obtain ⟨v21, e22, hq⟩ := bsm hq
          refine r_gR odX6_corner rfl rfl (gR_ap e22) ?_
          refine mB_run odX6_corner 1 (g := (74, [(4, .ref v18), (0, .ref p0), (1, .int p1), (2, .int p2), (3, .int p3)], [.int p2, .ref v21], (o1.1 ++ R), 0, 0)) rfl ?_
          obtain ⟨v23, e24, hq⟩ := bsm hq
          refine r_aI odX6_corner rfl (aI_ap e24) ?_
          cases hq
          exact mB_ret odX6_corner rfl
        · rw [if_neg c20] at hq
          by_cases c25 : p3 = (1 : Int32)
          · rw [if_pos c25] at hq
            refine r_tab odX6_corner rfl c25 (t := 76) rfl ?_
            refine mB_run odX6_corner 1 (g := (78, [(4, .ref v18), (0, .ref p0), (1, .int p1), (2, .int p2), (3, .int p3)], [.ref v18], (o1.1 ++ R), 0, 0)) rfl ?_
            obtain ⟨v26, e27, hq⟩ := bsm hq
            refine r_gR odX6_corner rfl rfl (gR_ap e27) ?_
            refine mB_run odX6_corner 1 (g := (82, [(4, .ref v18), (0, .ref p0), (1, .int p1), (2, .int p2), (3, .int p3)], [.int p2, .ref v26], (o1.1 ++ R), 0, 0)) rfl ?_
            obtain ⟨v28, e29, hq⟩ := bsm hq
            refine r_aI odX6_corner rfl (aI_ap e29) ?_
            cases hq
            exact mB_ret odX6_corner rfl
          · rw [if_neg c25] at hq
            by_cases c30 : p3 = (2 : Int32)
            · rw [if_pos c30] at hq
              refine r_tab odX6_corner rfl c30 (t := 84) rfl ?_
              refine mB_run odX6_corner 1 (g := (86, [(4, .ref v18), (0, .ref p0), (1, .int p1), (2, .int p2), (3, .int p3)], [.ref v18], (o1.1 ++ R), 0, 0)) rfl ?_
              obtain ⟨v31, e32, hq⟩ := bsm hq
              refine r_gR odX6_corner rfl rfl (gR_ap e32) ?_
              refine mB_run odX6_corner 1 (g := (90, [(4, .ref v18), (0, .ref p0), (1, .int p1), (2, .int p2), (3, .int p3)], [.int p2, .ref v31], (o1.1 ++ R), 0, 0)) rfl ?_
              obtain ⟨v33, e34, hq⟩ := bsm hq
              refine r_aI odX6_corner rfl (aI_ap e34) ?_
              cases hq
              exact mB_ret odX6_corner rfl
            · rw [if_neg c30] at hq
              refine r_tabd odX6_corner rfl (t := 92) (by omega) (ts_out3 c20 c25 c30) ?_
              refine mB_run odX6_corner 1 (g := (95, [(4, .ref v18), (0, .ref p0), (1, .int p1), (2, .int p2), (3, .int p3)], [.int (-1000 : Int32)], (o1.1 ++ R), 0, 0)) rfl ?_
              cases hq
              exact mB_ret odX6_corner rfl
      · rw [if_neg c13] at hq
        refine ic_lt_F (t := 31) odX6_corner rfl rfl c13 ?_
        refine mB_run odX6_corner 1 (g := (30, [(0, .ref p0), (1, .int p1), (2, .int p2), (3, .int p3)], [.int (-1000 : Int32)], (o1.1 ++ R), 0, 0)) rfl ?_
        cases hq
        exact mB_ret odX6_corner rfl
set_option maxHeartbeats 4000000 in
set_option maxRecDepth 100000 in
theorem eaX6_edge {N : Nat} {R : mh} {p0 : Nat} {p1 : Int32} {p2 : Int32} {p3 : Int32} {h : mh} {o : (mh × Int32)} (hq : fxX6_edge N p0 p1 p2 p3 h = some o) : mC mX6_edge [.ref p0, .int p1, .int p2, .int p3] (h ++ R) (o.1 ++ R, some (.int o.2)) := by
  refine mC_of okX6_edge (Nat.le_of_ble_eq_true rfl) ?_
  unfold fxX6_edge at hq
  show mB _ mX6_edge (0, [(0, .ref p0), (1, .int p1), (2, .int p2), (3, .int p3)], [], (h ++ R), 0, 0)
  refine mB_run odX6_edge 1 (g := (1, [(0, .ref p0), (1, .int p1), (2, .int p2), (3, .int p3)], [.int p1], (h ++ R), 0, 0)) rfl ?_
  obtain ⟨o1, e2, hq⟩ := bsm hq
  refine mB_S (as := [.int p1]) odX6_edge okX6_isSlot lk_6_79 rfl (eaX6_isSlot e2) rfl rfl rfl ?_
  show mB _ mX6_edge (4, [(0, .ref p0), (1, .int p1), (2, .int p2), (3, .int p3)], [.int o1.2], (o1.1 ++ R), 0, 0)
  by_cases c3 : o1.2 = 0
  · rw [if_pos c3] at hq
    refine if_eq_T (t := 33) odX6_edge rfl rfl c3 ?_
    refine mB_run odX6_edge 1 (g := (34, [(0, .ref p0), (1, .int p1), (2, .int p2), (3, .int p3)], [.int (-1 : Int32)], (o1.1 ++ R), 0, 0)) rfl ?_
    cases hq
    exact mB_ret odX6_edge rfl
  · rw [if_neg c3] at hq
    refine if_eq_F (t := 33) odX6_edge rfl rfl c3 ?_
    refine mB_run odX6_edge 1 (g := (8, [(0, .ref p0), (1, .int p1), (2, .int p2), (3, .int p3)], [.int p2], (o1.1 ++ R), 0, 0)) rfl ?_
    by_cases c4 : p2 < 0
    · rw [if_pos c4] at hq
      refine if_lt_T (t := 33) odX6_edge rfl rfl c4 ?_
      refine mB_run odX6_edge 1 (g := (34, [(0, .ref p0), (1, .int p1), (2, .int p2), (3, .int p3)], [.int (-1 : Int32)], (o1.1 ++ R), 0, 0)) rfl ?_
      cases hq
      exact mB_ret odX6_edge rfl
    · rw [if_neg c4] at hq
      refine if_lt_F (t := 33) odX6_edge rfl rfl c4 ?_
      refine mB_run odX6_edge 2 (g := (13, [(0, .ref p0), (1, .int p1), (2, .int p2), (3, .int p3)], [.ref p0, .int p2], (o1.1 ++ R), 0, 0)) rfl ?_
      obtain ⟨v5, e6, hq⟩ := bsm hq
      refine r_gR odX6_edge rfl rfl (gR_ap e6) ?_
      refine mB_run odX6_edge 1 (g := (17, [(0, .ref p0), (1, .int p1), (2, .int p2), (3, .int p3)], [.int p1, .ref v5, .int p2], (o1.1 ++ R), 0, 0)) rfl ?_
      obtain ⟨v7, e8, hq⟩ := bsm hq
      refine r_aR odX6_edge rfl (aR_ap e8) ?_
      obtain ⟨v9, e10, hq⟩ := bsm hq
      refine r_gI odX6_edge rfl rfl (gI_ap e10) ?_
      by_cases c11 : v9 ≤ p2
      · rw [if_pos c11] at hq
        refine ic_ge_T (t := 33) odX6_edge rfl rfl c11 ?_
        refine mB_run odX6_edge 1 (g := (34, [(0, .ref p0), (1, .int p1), (2, .int p2), (3, .int p3)], [.int (-1 : Int32)], (o1.1 ++ R), 0, 0)) rfl ?_
        cases hq
        exact mB_ret odX6_edge rfl
      · rw [if_neg c11] at hq
        refine ic_ge_F (t := 33) odX6_edge rfl rfl c11 ?_
        refine mB_run odX6_edge 1 (g := (25, [(0, .ref p0), (1, .int p1), (2, .int p2), (3, .int p3)], [.int p3], (o1.1 ++ R), 0, 0)) rfl ?_
        by_cases c12 : p3 < 0
        · rw [if_pos c12] at hq
          refine if_lt_T (t := 33) odX6_edge rfl rfl c12 ?_
          refine mB_run odX6_edge 1 (g := (34, [(0, .ref p0), (1, .int p1), (2, .int p2), (3, .int p3)], [.int (-1 : Int32)], (o1.1 ++ R), 0, 0)) rfl ?_
          cases hq
          exact mB_ret odX6_edge rfl
        · rw [if_neg c12] at hq
          refine if_lt_F (t := 33) odX6_edge rfl rfl c12 ?_
          refine mB_run odX6_edge 2 (g := (30, [(0, .ref p0), (1, .int p1), (2, .int p2), (3, .int p3)], [.int (3 : Int32), .int p3], (o1.1 ++ R), 0, 0)) rfl ?_
          by_cases c13 : p3 ≤ (3 : Int32)
          · rw [if_pos c13] at hq
            refine ic_le_T (t := 35) odX6_edge rfl rfl c13 ?_
            refine mB_run odX6_edge 1 (g := (36, [(0, .ref p0), (1, .int p1), (2, .int p2), (3, .int p3)], [.ref p0], (o1.1 ++ R), 0, 0)) rfl ?_
            obtain ⟨v14, e15, hq⟩ := bsm hq
            refine r_gR odX6_edge rfl rfl (gR_ap e15) ?_
            refine mB_run odX6_edge 1 (g := (40, [(0, .ref p0), (1, .int p1), (2, .int p2), (3, .int p3)], [.int p1, .ref v14], (o1.1 ++ R), 0, 0)) rfl ?_
            obtain ⟨v16, e17, hq⟩ := bsm hq
            refine r_aR odX6_edge rfl (aR_ap e17) ?_
            obtain ⟨v18, e19, hq⟩ := bsm hq
            refine r_gR odX6_edge rfl rfl (gR_ap e19) ?_
            refine mB_run odX6_edge 5 (g := (49, [(0, .ref p0), (1, .int p1), (2, .int p2), (3, .int p3)], [.int (((4 : Int32) * p2) + p3), .ref v18], (o1.1 ++ R), 0, 0)) rfl ?_
            obtain ⟨v20, e21, hq⟩ := bsm hq
            refine r_aI odX6_edge rfl (aI_ap e21) ?_
            cases hq
            exact mB_ret odX6_edge rfl
          · rw [if_neg c13] at hq
            refine ic_le_F (t := 35) odX6_edge rfl rfl c13 ?_
            refine mB_run odX6_edge 1 (g := (34, [(0, .ref p0), (1, .int p1), (2, .int p2), (3, .int p3)], [.int (-1 : Int32)], (o1.1 ++ R), 0, 0)) rfl ?_
            cases hq
            exact mB_ret odX6_edge rfl
set_option maxHeartbeats 4000000 in
set_option maxRecDepth 100000 in
theorem eaX6_face {N : Nat} {R : mh} {p0 : Nat} {p1 : Int32} {p2 : Int32} {p3 : Int32} {h : mh} {o : (mh × Int64)} (hq : fxX6_face N p0 p1 p2 p3 h = some o) : mC mX6_face [.ref p0, .int p1, .int p2, .int p3] (h ++ R) (o.1 ++ R, some (.long o.2)) := by
  refine mC_of okX6_face (Nat.le_of_ble_eq_true rfl) ?_
  unfold fxX6_face at hq
  show mB _ mX6_face (0, [(0, .ref p0), (1, .int p1), (2, .int p2), (3, .int p3)], [], (h ++ R), 0, 0)
  refine mB_run odX6_face 1 (g := (1, [(0, .ref p0), (1, .int p1), (2, .int p2), (3, .int p3)], [.int p1], (h ++ R), 0, 0)) rfl ?_
  obtain ⟨o1, e2, hq⟩ := bsm hq
  refine mB_S (as := [.int p1]) odX6_face okX6_isSlot lk_6_79 rfl (eaX6_isSlot e2) rfl rfl rfl ?_
  show mB _ mX6_face (4, [(0, .ref p0), (1, .int p1), (2, .int p2), (3, .int p3)], [.int o1.2], (o1.1 ++ R), 0, 0)
  by_cases c3 : o1.2 = 0
  · rw [if_pos c3] at hq
    refine if_eq_T (t := 28) odX6_face rfl rfl c3 ?_
    refine mB_run odX6_face 1 (g := (31, [(0, .ref p0), (1, .int p1), (2, .int p2), (3, .int p3)], [.long (-2000000000 : Int64)], (o1.1 ++ R), 0, 0)) rfl ?_
    cases hq
    exact mB_ret odX6_face rfl
  · rw [if_neg c3] at hq
    refine if_eq_F (t := 28) odX6_face rfl rfl c3 ?_
    refine mB_run odX6_face 1 (g := (8, [(0, .ref p0), (1, .int p1), (2, .int p2), (3, .int p3)], [.int p2], (o1.1 ++ R), 0, 0)) rfl ?_
    by_cases c4 : p2 < 0
    · rw [if_pos c4] at hq
      refine if_lt_T (t := 28) odX6_face rfl rfl c4 ?_
      refine mB_run odX6_face 1 (g := (31, [(0, .ref p0), (1, .int p1), (2, .int p2), (3, .int p3)], [.long (-2000000000 : Int64)], (o1.1 ++ R), 0, 0)) rfl ?_
      cases hq
      exact mB_ret odX6_face rfl
    · rw [if_neg c4] at hq
      refine if_lt_F (t := 28) odX6_face rfl rfl c4 ?_
      refine mB_run odX6_face 2 (g := (13, [(0, .ref p0), (1, .int p1), (2, .int p2), (3, .int p3)], [.ref p0, .int p2], (o1.1 ++ R), 0, 0)) rfl ?_
      obtain ⟨v5, e6, hq⟩ := bsm hq
      refine r_gR odX6_face rfl rfl (gR_ap e6) ?_
      refine mB_run odX6_face 1 (g := (17, [(0, .ref p0), (1, .int p1), (2, .int p2), (3, .int p3)], [.int p1, .ref v5, .int p2], (o1.1 ++ R), 0, 0)) rfl ?_
      obtain ⟨v7, e8, hq⟩ := bsm hq
      refine r_aR odX6_face rfl (aR_ap e8) ?_
      obtain ⟨v9, e10, hq⟩ := bsm hq
      refine r_gI odX6_face rfl rfl (gI_ap e10) ?_
      by_cases c11 : v9 ≤ p2
      · rw [if_pos c11] at hq
        refine ic_ge_T (t := 28) odX6_face rfl rfl c11 ?_
        refine mB_run odX6_face 1 (g := (31, [(0, .ref p0), (1, .int p1), (2, .int p2), (3, .int p3)], [.long (-2000000000 : Int64)], (o1.1 ++ R), 0, 0)) rfl ?_
        cases hq
        exact mB_ret odX6_face rfl
      · rw [if_neg c11] at hq
        refine ic_ge_F (t := 28) odX6_face rfl rfl c11 ?_
        refine mB_run odX6_face 1 (g := (25, [(0, .ref p0), (1, .int p1), (2, .int p2), (3, .int p3)], [.int p3], (o1.1 ++ R), 0, 0)) rfl ?_
        by_cases c12 : 0 ≤ p3
        · rw [if_pos c12] at hq
          refine if_ge_T (t := 32) odX6_face rfl rfl c12 ?_
          refine mB_run odX6_face 1 (g := (33, [(0, .ref p0), (1, .int p1), (2, .int p2), (3, .int p3)], [.ref p0], (o1.1 ++ R), 0, 0)) rfl ?_
          obtain ⟨v13, e14, hq⟩ := bsm hq
          refine r_gR odX6_face rfl rfl (gR_ap e14) ?_
          refine mB_run odX6_face 1 (g := (37, [(0, .ref p0), (1, .int p1), (2, .int p2), (3, .int p3)], [.int p1, .ref v13], (o1.1 ++ R), 0, 0)) rfl ?_
          obtain ⟨v15, e16, hq⟩ := bsm hq
          refine r_aR odX6_face rfl (aR_ap e16) ?_
          refine mB_run odX6_face 3 (g := (42, [(4, .ref v15), (0, .ref p0), (1, .int p1), (2, .int p2), (3, .int p3)], [.int (3 : Int32), .int p3], (o1.1 ++ R), 0, 0)) rfl ?_
          by_cases c17 : (3 : Int32) < p3
          · rw [if_pos c17] at hq
            refine ic_gt_T (t := 58) odX6_face rfl rfl c17 ?_
            refine mB_run odX6_face 1 (g := (60, [(4, .ref v15), (0, .ref p0), (1, .int p1), (2, .int p2), (3, .int p3)], [.ref v15], (o1.1 ++ R), 0, 0)) rfl ?_
            obtain ⟨v18, e19, hq⟩ := bsm hq
            refine r_gR odX6_face rfl rfl (gR_ap e19) ?_
            refine mB_run odX6_face 1 (g := (64, [(4, .ref v15), (0, .ref p0), (1, .int p1), (2, .int p2), (3, .int p3)], [.int p2, .ref v18], (o1.1 ++ R), 0, 0)) rfl ?_
            obtain ⟨v20, e21, hq⟩ := bsm hq
            refine r_aI odX6_face rfl (aI_ap e21) ?_
            refine mB_run odX6_face 2 (g := (69, [(5, .int v20), (4, .ref v15), (0, .ref p0), (1, .int p1), (2, .int p2), (3, .int p3)], [.ref v15], (o1.1 ++ R), 0, 0)) rfl ?_
            obtain ⟨v22, e23, hq⟩ := bsm hq
            refine r_gR odX6_face rfl rfl (gR_ap e23) ?_
            refine mB_run odX6_face 3 (g := (75, [(5, .int v20), (4, .ref v15), (0, .ref p0), (1, .int p1), (2, .int p2), (3, .int p3)], [.int (p2 + (1 : Int32)), .ref v22], (o1.1 ++ R), 0, 0)) rfl ?_
            obtain ⟨v24, e25, hq⟩ := bsm hq
            refine r_aI odX6_face rfl (aI_ap e25) ?_
            refine mB_run odX6_face 5 (g := (83, [(6, .int (v24 - v20)), (5, .int v20), (4, .ref v15), (0, .ref p0), (1, .int p1), (2, .int p2), (3, .int p3)], [.int (4 : Int32), .int p3], (o1.1 ++ R), 0, 0)) rfl ?_
            by_cases c26 : p3 = (4 : Int32)
            · rw [if_pos c26] at hq
              refine ic_ne_F (t := 90) odX6_face rfl rfl c26 ?_
              refine mB_run odX6_face 2 (g := (89, [(6, .int (v24 - v20)), (5, .int v20), (4, .ref v15), (0, .ref p0), (1, .int p1), (2, .int p2), (3, .int p3)], [.long (v24 - v20).toInt64], (o1.1 ++ R), 0, 0)) rfl ?_
              cases hq
              exact mB_ret odX6_face rfl
            · rw [if_neg c26] at hq
              refine ic_ne_T (t := 90) odX6_face rfl rfl c26 ?_
              refine mB_run odX6_face 2 (g := (92, [(6, .int (v24 - v20)), (5, .int v20), (4, .ref v15), (0, .ref p0), (1, .int p1), (2, .int p2), (3, .int p3)], [.int (5 : Int32), .int p3], (o1.1 ++ R), 0, 0)) rfl ?_
              by_cases c27 : p3 = (5 : Int32)
              · rw [if_pos c27] at hq
                refine ic_ne_F (t := 102) odX6_face rfl rfl c27 ?_
                refine mB_run odX6_face 2 (g := (98, [(6, .int (v24 - v20)), (5, .int v20), (4, .ref v15), (0, .ref p0), (1, .int p1), (2, .int p2), (3, .int p3)], [.int p2, .ref v15], (o1.1 ++ R), 0, 0)) rfl ?_
                obtain ⟨f30, k31, hq⟩ := bsm hq
                obtain ⟨o28, e29, hq⟩ := bsm hq
                refine mB_V (as := [.int p2]) odX6_face okX0_wholeArea lk_6_137 rfl (eaX0_wholeArea e29) (kO_at (kO_ap k31)) rfl rfl rfl ?_
                show mB _ mX6_face (101, [(6, .int (v24 - v20)), (5, .int v20), (4, .ref v15), (0, .ref p0), (1, .int p1), (2, .int p2), (3, .int p3)], [.long o28.2], (o28.1 ++ R), 0, 0)
                cases hq
                exact mB_ret odX6_face rfl
              · rw [if_neg c27] at hq
                refine ic_ne_T (t := 102) odX6_face rfl rfl c27 ?_
                refine mB_run odX6_face 4 (g := (108, [(6, .int (v24 - v20)), (5, .int v20), (4, .ref v15), (0, .ref p0), (1, .int p1), (2, .int p2), (3, .int p3)], [.int (v24 - v20), .int (p3 - (6 : Int32))], (o1.1 ++ R), 0, 0)) rfl ?_
                by_cases c32 : (v24 - v20) ≤ (p3 - (6 : Int32))
                · rw [if_pos c32] at hq
                  refine ic_ge_T (t := 128) odX6_face rfl rfl c32 ?_
                  refine mB_run odX6_face 1 (g := (131, [(6, .int (v24 - v20)), (5, .int v20), (4, .ref v15), (0, .ref p0), (1, .int p1), (2, .int p2), (3, .int p3)], [.long (-2000000000 : Int64)], (o1.1 ++ R), 0, 0)) rfl ?_
                  cases hq
                  exact mB_ret odX6_face rfl
                · rw [if_neg c32] at hq
                  refine ic_ge_F (t := 128) odX6_face rfl rfl c32 ?_
                  refine mB_run odX6_face 1 (g := (113, [(6, .int (v24 - v20)), (5, .int v20), (4, .ref v15), (0, .ref p0), (1, .int p1), (2, .int p2), (3, .int p3)], [.ref v15], (o1.1 ++ R), 0, 0)) rfl ?_
                  obtain ⟨v33, e34, hq⟩ := bsm hq
                  refine r_gR odX6_face rfl rfl (gR_ap e34) ?_
                  refine mB_run odX6_face 5 (g := (123, [(6, .int (v24 - v20)), (5, .int v20), (4, .ref v15), (0, .ref p0), (1, .int p1), (2, .int p2), (3, .int p3)], [.int ((v20 + p3) - (6 : Int32)), .ref v33], (o1.1 ++ R), 0, 0)) rfl ?_
                  obtain ⟨v35, e36, hq⟩ := bsm hq
                  refine r_aI odX6_face rfl (aI_ap e36) ?_
                  refine mB_run odX6_face 2 (g := (131, [(6, .int (v24 - v20)), (5, .int v20), (4, .ref v15), (0, .ref p0), (1, .int p1), (2, .int p2), (3, .int p3)], [.long v35.toInt64], (o1.1 ++ R), 0, 0)) rfl ?_
                  cases hq
                  exact mB_ret odX6_face rfl
          · rw [if_neg c17] at hq
            refine ic_gt_F (t := 58) odX6_face rfl rfl c17 ?_
            refine mB_run odX6_face 1 (g := (47, [(4, .ref v15), (0, .ref p0), (1, .int p1), (2, .int p2), (3, .int p3)], [.ref v15], (o1.1 ++ R), 0, 0)) rfl ?_
            obtain ⟨v37, e38, hq⟩ := bsm hq
            refine r_gR odX6_face rfl rfl (gR_ap e38) ?_
            refine mB_run odX6_face 5 (g := (55, [(4, .ref v15), (0, .ref p0), (1, .int p1), (2, .int p2), (3, .int p3)], [.int (((4 : Int32) * p2) + p3), .ref v37], (o1.1 ++ R), 0, 0)) rfl ?_
            obtain ⟨v39, e40, hq⟩ := bsm hq
            refine r_aI odX6_face rfl (aI_ap e40) ?_
            refine mB_run odX6_face 1 (g := (57, [(4, .ref v15), (0, .ref p0), (1, .int p1), (2, .int p2), (3, .int p3)], [.long v39.toInt64], (o1.1 ++ R), 0, 0)) rfl ?_
            cases hq
            exact mB_ret odX6_face rfl
        · rw [if_neg c12] at hq
          refine if_ge_F (t := 32) odX6_face rfl rfl c12 ?_
          refine mB_run odX6_face 1 (g := (31, [(0, .ref p0), (1, .int p1), (2, .int p2), (3, .int p3)], [.long (-2000000000 : Int64)], (o1.1 ++ R), 0, 0)) rfl ?_
          cases hq
          exact mB_ret odX6_face rfl
set_option maxHeartbeats 4000000 in
set_option maxRecDepth 100000 in
theorem eaX6_in {N : Nat} {R : mh} {p0 : Nat} {p1 : Int32} {p2 : Int32} {p3 : Int32} {p4 : Int32} {p5 : Int32} {h : mh} {o : (mh × Int32)} (hq : fxX6_in N p0 p1 p2 p3 p4 p5 h = some o) : mC mX6_in [.ref p0, .int p1, .int p2, .int p3, .int p4, .int p5] (h ++ R) (o.1 ++ R, some (.int o.2)) := by
  refine mC_of okX6_in (Nat.le_of_ble_eq_true rfl) ?_
  unfold fxX6_in at hq
  show mB _ mX6_in (0, [(0, .ref p0), (1, .int p1), (2, .int p2), (3, .int p3), (4, .int p4), (5, .int p5)], [], (h ++ R), 0, 0)
  refine mB_run odX6_in 1 (g := (1, [(0, .ref p0), (1, .int p1), (2, .int p2), (3, .int p3), (4, .int p4), (5, .int p5)], [.int p1], (h ++ R), 0, 0)) rfl ?_
  obtain ⟨o1, e2, hq⟩ := bsm hq
  refine mB_S (as := [.int p1]) odX6_in okX6_isSlot lk_6_79 rfl (eaX6_isSlot e2) rfl rfl rfl ?_
  show mB _ mX6_in (4, [(0, .ref p0), (1, .int p1), (2, .int p2), (3, .int p3), (4, .int p4), (5, .int p5)], [.int o1.2], (o1.1 ++ R), 0, 0)
  by_cases c3 : o1.2 = 0
  · rw [if_pos c3] at hq
    refine if_eq_T (t := 21) odX6_in rfl rfl c3 ?_
    refine mB_run odX6_in 1 (g := (22, [(0, .ref p0), (1, .int p1), (2, .int p2), (3, .int p3), (4, .int p4), (5, .int p5)], [.int (-1 : Int32)], (o1.1 ++ R), 0, 0)) rfl ?_
    cases hq
    exact mB_ret odX6_in rfl
  · rw [if_neg c3] at hq
    refine if_eq_F (t := 21) odX6_in rfl rfl c3 ?_
    refine mB_run odX6_in 2 (g := (10, [(0, .ref p0), (1, .int p1), (2, .int p2), (3, .int p3), (4, .int p4), (5, .int p5)], [.int (1 : Int32), .int p5], (o1.1 ++ R), 0, 0)) rfl ?_
    by_cases c4 : p5 < (1 : Int32)
    · rw [if_pos c4] at hq
      refine ic_lt_T (t := 21) odX6_in rfl rfl c4 ?_
      refine mB_run odX6_in 1 (g := (22, [(0, .ref p0), (1, .int p1), (2, .int p2), (3, .int p3), (4, .int p4), (5, .int p5)], [.int (-1 : Int32)], (o1.1 ++ R), 0, 0)) rfl ?_
      cases hq
      exact mB_ret odX6_in rfl
    · rw [if_neg c4] at hq
      refine ic_lt_F (t := 21) odX6_in rfl rfl c4 ?_
      refine mB_run odX6_in 2 (g := (18, [(0, .ref p0), (1, .int p1), (2, .int p2), (3, .int p3), (4, .int p4), (5, .int p5)], [.int (1000 : Int32), .int p5], (o1.1 ++ R), 0, 0)) rfl ?_
      by_cases c5 : p5 ≤ (1000 : Int32)
      · rw [if_pos c5] at hq
        refine ic_le_T (t := 23) odX6_in rfl rfl c5 ?_
        refine mB_run odX6_in 2 (g := (26, [(0, .ref p0), (1, .int p1), (2, .int p2), (3, .int p3), (4, .int p4), (5, .int p5)], [.int (1000000 : Int32), .int p2], (o1.1 ++ R), 0, 0)) rfl ?_
        obtain ⟨o6, e7, hq⟩ := bsm hq
        refine mB_S (as := [.int p2, .int (1000000 : Int32)]) odX6_in okX6_isWithin lk_6_145 rfl (eaX6_isWithin e7) rfl rfl rfl ?_
        show mB _ mX6_in (29, [(0, .ref p0), (1, .int p1), (2, .int p2), (3, .int p3), (4, .int p4), (5, .int p5)], [.int o6.2], (o6.1 ++ R), 0, 0)
        by_cases c8 : o6.2 = 0
        · rw [if_pos c8] at hq
          refine if_eq_T (t := 51) odX6_in rfl rfl c8 ?_
          refine mB_run odX6_in 1 (g := (52, [(0, .ref p0), (1, .int p1), (2, .int p2), (3, .int p3), (4, .int p4), (5, .int p5)], [.int (-1 : Int32)], (o6.1 ++ R), 0, 0)) rfl ?_
          cases hq
          exact mB_ret odX6_in rfl
        · rw [if_neg c8] at hq
          refine if_eq_F (t := 51) odX6_in rfl rfl c8 ?_
          refine mB_run odX6_in 2 (g := (35, [(0, .ref p0), (1, .int p1), (2, .int p2), (3, .int p3), (4, .int p4), (5, .int p5)], [.int (1000000 : Int32), .int p3], (o6.1 ++ R), 0, 0)) rfl ?_
          obtain ⟨o9, e10, hq⟩ := bsm hq
          refine mB_S (as := [.int p3, .int (1000000 : Int32)]) odX6_in okX6_isWithin lk_6_145 rfl (eaX6_isWithin e10) rfl rfl rfl ?_
          show mB _ mX6_in (38, [(0, .ref p0), (1, .int p1), (2, .int p2), (3, .int p3), (4, .int p4), (5, .int p5)], [.int o9.2], (o9.1 ++ R), 0, 0)
          by_cases c11 : o9.2 = 0
          · rw [if_pos c11] at hq
            refine if_eq_T (t := 51) odX6_in rfl rfl c11 ?_
            refine mB_run odX6_in 1 (g := (52, [(0, .ref p0), (1, .int p1), (2, .int p2), (3, .int p3), (4, .int p4), (5, .int p5)], [.int (-1 : Int32)], (o9.1 ++ R), 0, 0)) rfl ?_
            cases hq
            exact mB_ret odX6_in rfl
          · rw [if_neg c11] at hq
            refine if_eq_F (t := 51) odX6_in rfl rfl c11 ?_
            refine mB_run odX6_in 2 (g := (45, [(0, .ref p0), (1, .int p1), (2, .int p2), (3, .int p3), (4, .int p4), (5, .int p5)], [.int (1000000 : Int32), .int p4], (o9.1 ++ R), 0, 0)) rfl ?_
            obtain ⟨o12, e13, hq⟩ := bsm hq
            refine mB_S (as := [.int p4, .int (1000000 : Int32)]) odX6_in okX6_isWithin lk_6_145 rfl (eaX6_isWithin e13) rfl rfl rfl ?_
            show mB _ mX6_in (48, [(0, .ref p0), (1, .int p1), (2, .int p2), (3, .int p3), (4, .int p4), (5, .int p5)], [.int o12.2], (o12.1 ++ R), 0, 0)
            by_cases c14 : o12.2 = 0
            · rw [if_pos c14] at hq
              refine if_ne_F (t := 53) odX6_in rfl rfl c14 ?_
              refine mB_run odX6_in 1 (g := (52, [(0, .ref p0), (1, .int p1), (2, .int p2), (3, .int p3), (4, .int p4), (5, .int p5)], [.int (-1 : Int32)], (o12.1 ++ R), 0, 0)) rfl ?_
              cases hq
              exact mB_ret odX6_in rfl
            · rw [if_neg c14] at hq
              refine if_ne_T (t := 53) odX6_in rfl rfl c14 ?_
              refine mB_run odX6_in 1 (g := (54, [(0, .ref p0), (1, .int p1), (2, .int p2), (3, .int p3), (4, .int p4), (5, .int p5)], [.ref p0], (o12.1 ++ R), 0, 0)) rfl ?_
              obtain ⟨v15, e16, hq⟩ := bsm hq
              refine r_gR odX6_in rfl rfl (gR_ap e16) ?_
              refine mB_run odX6_in 1 (g := (58, [(0, .ref p0), (1, .int p1), (2, .int p2), (3, .int p3), (4, .int p4), (5, .int p5)], [.int p1, .ref v15], (o12.1 ++ R), 0, 0)) rfl ?_
              obtain ⟨v17, e18, hq⟩ := bsm hq
              refine r_aR odX6_in rfl (aR_ap e18) ?_
              refine mB_run odX6_in 8 (g := (69, [(0, .ref p0), (1, .int p1), (2, .int p2), (3, .int p3), (4, .int p4), (5, .int p5)], [.long p5.toInt64, .long p4.toInt64, .long p3.toInt64, .long p2.toInt64, .ref v17], (o12.1 ++ R), 0, 0)) rfl ?_
              obtain ⟨f21, k22, hq⟩ := bsm hq
              obtain ⟨o19, e20, hq⟩ := bsm hq
              refine mB_V (as := [.long p2.toInt64, .long p3.toInt64, .long p4.toInt64, .long p5.toInt64]) odX6_in okX0_locate lk_6_149 rfl (eaX0_locate e20) (kO_at (kO_ap k22)) rfl rfl rfl ?_
              show mB _ mX6_in (72, [(0, .ref p0), (1, .int p1), (2, .int p2), (3, .int p3), (4, .int p4), (5, .int p5)], [.int o19.2], (o19.1 ++ R), 0, 0)
              cases hq
              exact mB_ret odX6_in rfl
      · rw [if_neg c5] at hq
        refine ic_le_F (t := 23) odX6_in rfl rfl c5 ?_
        refine mB_run odX6_in 1 (g := (22, [(0, .ref p0), (1, .int p1), (2, .int p2), (3, .int p3), (4, .int p4), (5, .int p5)], [.int (-1 : Int32)], (o1.1 ++ R), 0, 0)) rfl ?_
        cases hq
        exact mB_ret odX6_in rfl
set_option maxHeartbeats 4000000 in
set_option maxRecDepth 100000 in
theorem eaX6_side_137 {N : Nat} {R : mh} {rec82 : Int32 → Int32 → Int32 → Int32 → Nat → Int32 → Int32 → mh → Option (mh × Int32)} (hrec82 : ∀ (x2 : Int32) (x3 : Int32) (x4 : Int32) (x5 : Int32) (x6 : Nat) (x7 : Int32) (x8 : Int32) (h : mh) {o : (mh × Int32)}, rec82 x2 x3 x4 x5 x6 x7 x8 h = some o → mB (gO mX6_side (o.1 ++ R, some (.int o.2))) mX6_side (82, [(2, .int x2), (3, .int x3), (4, .int x4), (5, .int x5), (6, .ref x6), (7, .int x7), (8, .int x8)], [], (h ++ R), 0, 0)) (x2 : Int32) (x3 : Int32) (x4 : Int32) (x5 : Int32) (x6 : Nat) (x8 : Int32) (s0 : Int32) (s1 : Int32) (h : mh) {o : (mh × Int32)} (hq : fxX6_side_137 N rec82 x2 x3 x4 x5 x6 x8 s0 s1 h = some o) : mB (gO mX6_side (o.1 ++ R, some (.int o.2))) mX6_side (137, [(2, .int x2), (3, .int x3), (4, .int x4), (5, .int x5), (6, .ref x6), (8, .int x8)], [.int s0, .int s1], (h ++ R), 0, 0) := by
  unfold fxX6_side_137 at hq
  refine mB_run odX6_side 4 (g := (82, [(8, .int (x8 + (1 : Int32))), (7, .int (s1 ||| s0)), (2, .int x2), (3, .int x3), (4, .int x4), (5, .int x5), (6, .ref x6)], [], (h ++ R), 0, 0)) rfl ?_
  refine mB_lv [2, 3, 4, 5, 6, 1, 0] (lv' := [(2, .int x2), (3, .int x3), (4, .int x4), (5, .int x5), (6, .ref x6), (7, .int (s1 ||| s0)), (8, .int (x8 + (1 : Int32)))]) rfl ?_
  exact hrec82 _ _ _ _ _ _ _ _ hq
set_option maxHeartbeats 4000000 in
set_option maxRecDepth 100000 in
theorem eaX6_side_82 {N : Nat} {R : mh} : ∀ (n : Nat) (x2 : Int32) (x3 : Int32) (x4 : Int32) (x5 : Int32) (x6 : Nat) (x7 : Int32) (x8 : Int32) (h : mh) {o : (mh × Int32)}, fxX6_side_82 N n x2 x3 x4 x5 x6 x7 x8 h = some o → mB (gO mX6_side (o.1 ++ R, some (.int o.2))) mX6_side (82, [(2, .int x2), (3, .int x3), (4, .int x4), (5, .int x5), (6, .ref x6), (7, .int x7), (8, .int x8)], [], (h ++ R), 0, 0) := by
  intro n
  induction n with
  | zero => intro x2 x3 x4 x5 x6 x7 x8 h o hq; cases hq
  | succ n ih =>
    intro x2 x3 x4 x5 x6 x7 x8 h o hq
    unfold fxX6_side_82 at hq
    refine mB_run odX6_side 2 (g := (86, [(2, .int x2), (3, .int x3), (4, .int x4), (5, .int x5), (6, .ref x6), (7, .int x7), (8, .int x8)], [.ref x6, .int x8], (h ++ R), 0, 0)) rfl ?_
    obtain ⟨v25, e26, hq⟩ := bsm hq
    refine r_gI odX6_side rfl rfl (gI_ap e26) ?_
    by_cases c27 : v25 ≤ x8
    · rw [if_pos c27] at hq
      refine ic_ge_T (t := 146) odX6_side rfl rfl c27 ?_
      refine mB_run odX6_side 1 (g := (148, [(2, .int x2), (3, .int x3), (4, .int x4), (5, .int x5), (6, .ref x6), (7, .int x7), (8, .int x8)], [.int x7], (h ++ R), 0, 0)) rfl ?_
      cases hq
      exact mB_ret odX6_side rfl
    · rw [if_neg c27] at hq
      refine ic_ge_F (t := 146) odX6_side rfl rfl c27 ?_
      refine mB_run odX6_side 8 (g := (103, [(2, .int x2), (3, .int x3), (4, .int x4), (5, .int x5), (6, .ref x6), (7, .int x7), (8, .int x8)], [.long x4.toInt64, .long x3.toInt64, .long x2.toInt64, .int x8, .ref x6], (h ++ R), 0, 0)) rfl ?_
      obtain ⟨f30, k31, hq⟩ := bsm hq
      obtain ⟨o28, e29, hq⟩ := bsm hq
      refine mB_V (as := [.int x8, .long x2.toInt64, .long x3.toInt64, .long x4.toInt64]) odX6_side okX3_along lk_6_153 rfl (eaX3_along e29) (kO_at (kO_ap k31)) rfl rfl rfl ?_
      show mB _ mX6_side (106, [(2, .int x2), (3, .int x3), (4, .int x4), (5, .int x5), (6, .ref x6), (7, .int x7), (8, .int x8)], [.long o28.2], (o28.1 ++ R), 0, 0)
      refine mB_run odX6_side 7 (g := (117, [(9, .long (o28.2 - x5.toInt64)), (2, .int x2), (3, .int x3), (4, .int x4), (5, .int x5), (6, .ref x6), (7, .int x7), (8, .int x8)], [.long (0 : Int64), .long (o28.2 - x5.toInt64), .int x7], (o28.1 ++ R), 0, 0)) rfl ?_
      by_cases c32 : (0 : Int64) ≤ (o28.2 - x5.toInt64)
      · rw [if_pos c32] at hq
        refine lc_ge_T (t := 125) odX6_side rfl rfl rfl c32 ?_
        refine mB_run odX6_side 2 (g := (128, [(9, .long (o28.2 - x5.toInt64)), (2, .int x2), (3, .int x3), (4, .int x4), (5, .int x5), (6, .ref x6), (7, .int x7), (8, .int x8)], [.long (0 : Int64), .long (o28.2 - x5.toInt64), .int x7], (o28.1 ++ R), 0, 0)) rfl ?_
        by_cases c33 : (o28.2 - x5.toInt64) = (0 : Int64)
        · rw [if_pos c33] at hq
          refine lc_ne_F (t := 136) odX6_side rfl rfl rfl c33 ?_
          refine mB_run odX6_side 2 (g := (137, [(9, .long (o28.2 - x5.toInt64)), (2, .int x2), (3, .int x3), (4, .int x4), (5, .int x5), (6, .ref x6), (7, .int x7), (8, .int x8)], [.int (2 : Int32), .int x7], (o28.1 ++ R), 0, 0)) rfl ?_
          refine mB_lv [1, 2, 3, 4, 5, 7] (lv' := [(2, .int x2), (3, .int x3), (4, .int x4), (5, .int x5), (6, .ref x6), (8, .int x8)]) rfl ?_
          exact eaX6_side_137 ih _ _ _ _ _ _ _ _ _ hq
        · rw [if_neg c33] at hq
          refine lc_ne_T (t := 136) odX6_side rfl rfl rfl c33 ?_
          refine mB_run odX6_side 1 (g := (137, [(9, .long (o28.2 - x5.toInt64)), (2, .int x2), (3, .int x3), (4, .int x4), (5, .int x5), (6, .ref x6), (7, .int x7), (8, .int x8)], [.int (4 : Int32), .int x7], (o28.1 ++ R), 0, 0)) rfl ?_
          refine mB_lv [1, 2, 3, 4, 5, 7] (lv' := [(2, .int x2), (3, .int x3), (4, .int x4), (5, .int x5), (6, .ref x6), (8, .int x8)]) rfl ?_
          exact eaX6_side_137 ih _ _ _ _ _ _ _ _ _ hq
      · rw [if_neg c32] at hq
        refine lc_ge_F (t := 125) odX6_side rfl rfl rfl c32 ?_
        refine mB_run odX6_side 2 (g := (137, [(9, .long (o28.2 - x5.toInt64)), (2, .int x2), (3, .int x3), (4, .int x4), (5, .int x5), (6, .ref x6), (7, .int x7), (8, .int x8)], [.int (1 : Int32), .int x7], (o28.1 ++ R), 0, 0)) rfl ?_
        refine mB_lv [1, 2, 3, 4, 5, 7] (lv' := [(2, .int x2), (3, .int x3), (4, .int x4), (5, .int x5), (6, .ref x6), (8, .int x8)]) rfl ?_
        exact eaX6_side_137 ih _ _ _ _ _ _ _ _ _ hq
set_option maxHeartbeats 4000000 in
set_option maxRecDepth 100000 in
theorem eaX6_side_20 {N : Nat} {R : mh} (x0 : Nat) (x1 : Int32) (x2 : Int32) (x3 : Int32) (x4 : Int32) (x5 : Int32) (h : mh) {o : (mh × Int32)} (hq : fxX6_side_20 N x0 x1 x2 x3 x4 x5 h = some o) : mB (gO mX6_side (o.1 ++ R, some (.int o.2))) mX6_side (20, [(0, .ref x0), (1, .int x1), (2, .int x2), (3, .int x3), (4, .int x4), (5, .int x5)], [], (h ++ R), 0, 0) := by
  unfold fxX6_side_20 at hq
  refine mB_run odX6_side 2 (g := (24, [(0, .ref x0), (1, .int x1), (2, .int x2), (3, .int x3), (4, .int x4), (5, .int x5)], [.int (1000000 : Int32), .int x5], (h ++ R), 0, 0)) rfl ?_
  obtain ⟨o7, e8, hq⟩ := bsm hq
  refine mB_S (as := [.int x5, .int (1000000 : Int32)]) odX6_side okX6_isWithin lk_6_145 rfl (eaX6_isWithin e8) rfl rfl rfl ?_
  show mB _ mX6_side (27, [(0, .ref x0), (1, .int x1), (2, .int x2), (3, .int x3), (4, .int x4), (5, .int x5)], [.int o7.2], (o7.1 ++ R), 0, 0)
  by_cases c9 : o7.2 = 0
  · rw [if_pos c9] at hq
    refine if_ne_F (t := 32) odX6_side rfl rfl c9 ?_
    refine mB_run odX6_side 1 (g := (31, [(0, .ref x0), (1, .int x1), (2, .int x2), (3, .int x3), (4, .int x4), (5, .int x5)], [.int (-1 : Int32)], (o7.1 ++ R), 0, 0)) rfl ?_
    cases hq
    exact mB_ret odX6_side rfl
  · rw [if_neg c9] at hq
    refine if_ne_T (t := 32) odX6_side rfl rfl c9 ?_
    refine mB_run odX6_side 2 (g := (36, [(0, .ref x0), (1, .int x1), (2, .int x2), (3, .int x3), (4, .int x4), (5, .int x5)], [.int (1000 : Int32), .int x2], (o7.1 ++ R), 0, 0)) rfl ?_
    obtain ⟨o10, e11, hq⟩ := bsm hq
    refine mB_S (as := [.int x2, .int (1000 : Int32)]) odX6_side okX6_isWithin lk_6_145 rfl (eaX6_isWithin e11) rfl rfl rfl ?_
    show mB _ mX6_side (39, [(0, .ref x0), (1, .int x1), (2, .int x2), (3, .int x3), (4, .int x4), (5, .int x5)], [.int o10.2], (o10.1 ++ R), 0, 0)
    by_cases c12 : o10.2 = 0
    · rw [if_pos c12] at hq
      refine if_eq_T (t := 63) odX6_side rfl rfl c12 ?_
      refine mB_run odX6_side 1 (g := (64, [(0, .ref x0), (1, .int x1), (2, .int x2), (3, .int x3), (4, .int x4), (5, .int x5)], [.int (-1 : Int32)], (o10.1 ++ R), 0, 0)) rfl ?_
      cases hq
      exact mB_ret odX6_side rfl
    · rw [if_neg c12] at hq
      refine if_eq_F (t := 63) odX6_side rfl rfl c12 ?_
      refine mB_run odX6_side 2 (g := (46, [(0, .ref x0), (1, .int x1), (2, .int x2), (3, .int x3), (4, .int x4), (5, .int x5)], [.int (1000 : Int32), .int x3], (o10.1 ++ R), 0, 0)) rfl ?_
      obtain ⟨o13, e14, hq⟩ := bsm hq
      refine mB_S (as := [.int x3, .int (1000 : Int32)]) odX6_side okX6_isWithin lk_6_145 rfl (eaX6_isWithin e14) rfl rfl rfl ?_
      show mB _ mX6_side (49, [(0, .ref x0), (1, .int x1), (2, .int x2), (3, .int x3), (4, .int x4), (5, .int x5)], [.int o13.2], (o13.1 ++ R), 0, 0)
      by_cases c15 : o13.2 = 0
      · rw [if_pos c15] at hq
        refine if_eq_T (t := 63) odX6_side rfl rfl c15 ?_
        refine mB_run odX6_side 1 (g := (64, [(0, .ref x0), (1, .int x1), (2, .int x2), (3, .int x3), (4, .int x4), (5, .int x5)], [.int (-1 : Int32)], (o13.1 ++ R), 0, 0)) rfl ?_
        cases hq
        exact mB_ret odX6_side rfl
      · rw [if_neg c15] at hq
        refine if_eq_F (t := 63) odX6_side rfl rfl c15 ?_
        refine mB_run odX6_side 2 (g := (57, [(0, .ref x0), (1, .int x1), (2, .int x2), (3, .int x3), (4, .int x4), (5, .int x5)], [.int (1000 : Int32), .int x4], (o13.1 ++ R), 0, 0)) rfl ?_
        obtain ⟨o16, e17, hq⟩ := bsm hq
        refine mB_S (as := [.int x4, .int (1000 : Int32)]) odX6_side okX6_isWithin lk_6_145 rfl (eaX6_isWithin e17) rfl rfl rfl ?_
        show mB _ mX6_side (60, [(0, .ref x0), (1, .int x1), (2, .int x2), (3, .int x3), (4, .int x4), (5, .int x5)], [.int o16.2], (o16.1 ++ R), 0, 0)
        by_cases c18 : o16.2 = 0
        · rw [if_pos c18] at hq
          refine if_ne_F (t := 65) odX6_side rfl rfl c18 ?_
          refine mB_run odX6_side 1 (g := (64, [(0, .ref x0), (1, .int x1), (2, .int x2), (3, .int x3), (4, .int x4), (5, .int x5)], [.int (-1 : Int32)], (o16.1 ++ R), 0, 0)) rfl ?_
          cases hq
          exact mB_ret odX6_side rfl
        · rw [if_neg c18] at hq
          refine if_ne_T (t := 65) odX6_side rfl rfl c18 ?_
          refine mB_run odX6_side 1 (g := (66, [(0, .ref x0), (1, .int x1), (2, .int x2), (3, .int x3), (4, .int x4), (5, .int x5)], [.ref x0], (o16.1 ++ R), 0, 0)) rfl ?_
          obtain ⟨v19, e20, hq⟩ := bsm hq
          refine r_gR odX6_side rfl rfl (gR_ap e20) ?_
          refine mB_run odX6_side 1 (g := (70, [(0, .ref x0), (1, .int x1), (2, .int x2), (3, .int x3), (4, .int x4), (5, .int x5)], [.int x1, .ref v19], (o16.1 ++ R), 0, 0)) rfl ?_
          obtain ⟨v21, e22, hq⟩ := bsm hq
          refine r_aR odX6_side rfl (aR_ap e22) ?_
          obtain ⟨v23, e24, hq⟩ := bsm hq
          refine r_gR odX6_side rfl rfl (gR_ap e24) ?_
          refine mB_run odX6_side 5 (g := (82, [(8, .int (0 : Int32)), (7, .int (0 : Int32)), (6, .ref v23), (0, .ref x0), (1, .int x1), (2, .int x2), (3, .int x3), (4, .int x4), (5, .int x5)], [], (o16.1 ++ R), 0, 0)) rfl ?_
          refine mB_lv [5, 6, 7, 8, 2, 1, 0] (lv' := [(2, .int x2), (3, .int x3), (4, .int x4), (5, .int x5), (6, .ref v23), (7, .int (0 : Int32)), (8, .int (0 : Int32))]) rfl ?_
          exact eaX6_side_82 N _ _ _ _ _ _ _ _ hq
set_option maxHeartbeats 4000000 in
set_option maxRecDepth 100000 in
theorem eaX6_side {N : Nat} {R : mh} {p0 : Nat} {p1 : Int32} {p2 : Int32} {p3 : Int32} {p4 : Int32} {p5 : Int32} {h : mh} {o : (mh × Int32)} (hq : fxX6_side N p0 p1 p2 p3 p4 p5 h = some o) : mC mX6_side [.ref p0, .int p1, .int p2, .int p3, .int p4, .int p5] (h ++ R) (o.1 ++ R, some (.int o.2)) := by
  refine mC_of okX6_side (Nat.le_of_ble_eq_true rfl) ?_
  unfold fxX6_side at hq
  show mB _ mX6_side (0, [(0, .ref p0), (1, .int p1), (2, .int p2), (3, .int p3), (4, .int p4), (5, .int p5)], [], (h ++ R), 0, 0)
  refine mB_run odX6_side 1 (g := (1, [(0, .ref p0), (1, .int p1), (2, .int p2), (3, .int p3), (4, .int p4), (5, .int p5)], [.int p1], (h ++ R), 0, 0)) rfl ?_
  obtain ⟨o1, e2, hq⟩ := bsm hq
  refine mB_S (as := [.int p1]) odX6_side okX6_isSlot lk_6_79 rfl (eaX6_isSlot e2) rfl rfl rfl ?_
  show mB _ mX6_side (4, [(0, .ref p0), (1, .int p1), (2, .int p2), (3, .int p3), (4, .int p4), (5, .int p5)], [.int o1.2], (o1.1 ++ R), 0, 0)
  by_cases c3 : o1.2 = 0
  · rw [if_pos c3] at hq
    refine if_eq_T (t := 30) odX6_side rfl rfl c3 ?_
    refine mB_run odX6_side 1 (g := (31, [(0, .ref p0), (1, .int p1), (2, .int p2), (3, .int p3), (4, .int p4), (5, .int p5)], [.int (-1 : Int32)], (o1.1 ++ R), 0, 0)) rfl ?_
    cases hq
    exact mB_ret odX6_side rfl
  · rw [if_neg c3] at hq
    refine if_eq_F (t := 30) odX6_side rfl rfl c3 ?_
    refine mB_run odX6_side 1 (g := (8, [(0, .ref p0), (1, .int p1), (2, .int p2), (3, .int p3), (4, .int p4), (5, .int p5)], [.int p2], (o1.1 ++ R), 0, 0)) rfl ?_
    by_cases c4 : p2 = 0
    · rw [if_pos c4] at hq
      refine if_ne_F (t := 20) odX6_side rfl rfl c4 ?_
      refine mB_run odX6_side 1 (g := (12, [(0, .ref p0), (1, .int p1), (2, .int p2), (3, .int p3), (4, .int p4), (5, .int p5)], [.int p3], (o1.1 ++ R), 0, 0)) rfl ?_
      by_cases c5 : p3 = 0
      · rw [if_pos c5] at hq
        refine if_ne_F (t := 20) odX6_side rfl rfl c5 ?_
        refine mB_run odX6_side 1 (g := (17, [(0, .ref p0), (1, .int p1), (2, .int p2), (3, .int p3), (4, .int p4), (5, .int p5)], [.int p4], (o1.1 ++ R), 0, 0)) rfl ?_
        by_cases c6 : p4 = 0
        · rw [if_pos c6] at hq
          refine if_eq_T (t := 30) odX6_side rfl rfl c6 ?_
          refine mB_run odX6_side 1 (g := (31, [(0, .ref p0), (1, .int p1), (2, .int p2), (3, .int p3), (4, .int p4), (5, .int p5)], [.int (-1 : Int32)], (o1.1 ++ R), 0, 0)) rfl ?_
          cases hq
          exact mB_ret odX6_side rfl
        · rw [if_neg c6] at hq
          refine if_eq_F (t := 30) odX6_side rfl rfl c6 ?_
          refine mB_lv [0, 1, 2, 3, 4, 5] (lv' := [(0, .ref p0), (1, .int p1), (2, .int p2), (3, .int p3), (4, .int p4), (5, .int p5)]) rfl ?_
          exact eaX6_side_20 _ _ _ _ _ _ _ hq
      · rw [if_neg c5] at hq
        refine if_ne_T (t := 20) odX6_side rfl rfl c5 ?_
        refine mB_lv [0, 1, 2, 3, 4, 5] (lv' := [(0, .ref p0), (1, .int p1), (2, .int p2), (3, .int p3), (4, .int p4), (5, .int p5)]) rfl ?_
        exact eaX6_side_20 _ _ _ _ _ _ _ hq
    · rw [if_neg c4] at hq
      refine if_ne_T (t := 20) odX6_side rfl rfl c4 ?_
      refine mB_lv [0, 1, 2, 3, 4, 5] (lv' := [(0, .ref p0), (1, .int p1), (2, .int p2), (3, .int p3), (4, .int p4), (5, .int p5)]) rfl ?_
      exact eaX6_side_20 _ _ _ _ _ _ _ hq
set_option maxHeartbeats 4000000 in
set_option maxRecDepth 100000 in
theorem eaX6_volume {N : Nat} {R : mh} {p0 : Nat} {p1 : Int32} {h : mh} {o : (mh × Int64)} (hq : fxX6_volume N p0 p1 h = some o) : mC mX6_volume [.ref p0, .int p1] (h ++ R) (o.1 ++ R, some (.long o.2)) := by
  refine mC_of okX6_volume (Nat.le_of_ble_eq_true rfl) ?_
  unfold fxX6_volume at hq
  show mB _ mX6_volume (0, [(0, .ref p0), (1, .int p1)], [], (h ++ R), 0, 0)
  refine mB_run odX6_volume 1 (g := (1, [(0, .ref p0), (1, .int p1)], [.int p1], (h ++ R), 0, 0)) rfl ?_
  obtain ⟨o1, e2, hq⟩ := bsm hq
  refine mB_S (as := [.int p1]) odX6_volume okX6_isSlot lk_6_79 rfl (eaX6_isSlot e2) rfl rfl rfl ?_
  show mB _ mX6_volume (4, [(0, .ref p0), (1, .int p1)], [.int o1.2], (o1.1 ++ R), 0, 0)
  by_cases c3 : o1.2 = 0
  · rw [if_pos c3] at hq
    refine if_eq_T (t := 19) odX6_volume rfl rfl c3 ?_
    refine mB_run odX6_volume 1 (g := (22, [(0, .ref p0), (1, .int p1)], [.long (-1 : Int64)], (o1.1 ++ R), 0, 0)) rfl ?_
    cases hq
    exact mB_ret odX6_volume rfl
  · rw [if_neg c3] at hq
    refine if_eq_F (t := 19) odX6_volume rfl rfl c3 ?_
    refine mB_run odX6_volume 1 (g := (8, [(0, .ref p0), (1, .int p1)], [.ref p0], (o1.1 ++ R), 0, 0)) rfl ?_
    obtain ⟨v4, e5, hq⟩ := bsm hq
    refine r_gR odX6_volume rfl rfl (gR_ap e5) ?_
    refine mB_run odX6_volume 1 (g := (12, [(0, .ref p0), (1, .int p1)], [.int p1, .ref v4], (o1.1 ++ R), 0, 0)) rfl ?_
    obtain ⟨v6, e7, hq⟩ := bsm hq
    refine r_aR odX6_volume rfl (aR_ap e7) ?_
    obtain ⟨f10, k11, hq⟩ := bsm hq
    obtain ⟨o8, e9, hq⟩ := bsm hq
    refine mB_V (as := []) odX6_volume okX0_sixVolumes lk_6_157 rfl (eaX0_sixVolumes e9) (kO_at (kO_ap k11)) rfl rfl rfl ?_
    show mB _ mX6_volume (16, [(0, .ref p0), (1, .int p1)], [.long o8.2], (o8.1 ++ R), 0, 0)
    refine mB_run odX6_volume 1 (g := (22, [(0, .ref p0), (1, .int p1)], [.long o8.2], (o8.1 ++ R), 0, 0)) rfl ?_
    cases hq
    exact mB_ret odX6_volume rfl
set_option maxHeartbeats 4000000 in
set_option maxRecDepth 100000 in
theorem eaX6_isTopOrBottom {N : Nat} {R : mh} {p0 : Int32} {h : mh} {o : (mh × Int32)} (hq : fxX6_isTopOrBottom N p0 h = some o) : mC mX6_isTopOrBottom [.int p0] (h ++ R) (o.1 ++ R, some (.int o.2)) := by
  refine mC_of okX6_isTopOrBottom (Nat.le_of_ble_eq_true rfl) ?_
  unfold fxX6_isTopOrBottom at hq
  show mB _ mX6_isTopOrBottom (0, [(0, .int p0)], [], (h ++ R), 0, 0)
  refine mB_run odX6_isTopOrBottom 1 (g := (1, [(0, .int p0)], [.int p0], (h ++ R), 0, 0)) rfl ?_
  by_cases c1 : p0 = 0
  · rw [if_pos c1] at hq
    refine if_eq_T (t := 9) odX6_isTopOrBottom rfl rfl c1 ?_
    refine mB_run odX6_isTopOrBottom 2 (g := (14, [(0, .int p0)], [.int (1 : Int32)], (h ++ R), 0, 0)) rfl ?_
    cases hq
    exact mB_ret odX6_isTopOrBottom rfl
  · rw [if_neg c1] at hq
    refine if_eq_F (t := 9) odX6_isTopOrBottom rfl rfl c1 ?_
    refine mB_run odX6_isTopOrBottom 2 (g := (6, [(0, .int p0)], [.int (1 : Int32), .int p0], (h ++ R), 0, 0)) rfl ?_
    by_cases c2 : p0 = (1 : Int32)
    · rw [if_pos c2] at hq
      refine ic_ne_F (t := 13) odX6_isTopOrBottom rfl rfl c2 ?_
      refine mB_run odX6_isTopOrBottom 2 (g := (14, [(0, .int p0)], [.int (1 : Int32)], (h ++ R), 0, 0)) rfl ?_
      cases hq
      exact mB_ret odX6_isTopOrBottom rfl
    · rw [if_neg c2] at hq
      refine ic_ne_T (t := 13) odX6_isTopOrBottom rfl rfl c2 ?_
      refine mB_run odX6_isTopOrBottom 1 (g := (14, [(0, .int p0)], [.int (0 : Int32)], (h ++ R), 0, 0)) rfl ?_
      cases hq
      exact mB_ret odX6_isTopOrBottom rfl
set_option maxHeartbeats 4000000 in
set_option maxRecDepth 100000 in
theorem eaX6_middle {N : Nat} {R : mh} {p0 : Nat} {p1 : Int32} {p2 : Int32} {p3 : Int32} {h : mh} {o : (mh × Int64)} (hq : fxX6_middle N p0 p1 p2 p3 h = some o) : mC mX6_middle [.ref p0, .int p1, .int p2, .int p3] (h ++ R) (o.1 ++ R, some (.long o.2)) := by
  refine mC_of okX6_middle (Nat.le_of_ble_eq_true rfl) ?_
  unfold fxX6_middle at hq
  show mB _ mX6_middle (0, [(0, .ref p0), (1, .int p1), (2, .int p2), (3, .int p3)], [], (h ++ R), 0, 0)
  refine mB_run odX6_middle 1 (g := (1, [(0, .ref p0), (1, .int p1), (2, .int p2), (3, .int p3)], [.int p1], (h ++ R), 0, 0)) rfl ?_
  obtain ⟨o1, e2, hq⟩ := bsm hq
  refine mB_S (as := [.int p1]) odX6_middle okX6_isSlot lk_6_79 rfl (eaX6_isSlot e2) rfl rfl rfl ?_
  show mB _ mX6_middle (4, [(0, .ref p0), (1, .int p1), (2, .int p2), (3, .int p3)], [.int o1.2], (o1.1 ++ R), 0, 0)
  by_cases c3 : o1.2 = 0
  · rw [if_pos c3] at hq
    refine if_eq_T (t := 36) odX6_middle rfl rfl c3 ?_
    refine mB_run odX6_middle 1 (g := (37, [(0, .ref p0), (1, .int p1), (2, .int p2), (3, .int p3)], [.long (0 : Int64)], (o1.1 ++ R), 0, 0)) rfl ?_
    cases hq
    exact mB_ret odX6_middle rfl
  · rw [if_neg c3] at hq
    refine if_eq_F (t := 36) odX6_middle rfl rfl c3 ?_
    refine mB_run odX6_middle 1 (g := (8, [(0, .ref p0), (1, .int p1), (2, .int p2), (3, .int p3)], [.ref p0], (o1.1 ++ R), 0, 0)) rfl ?_
    obtain ⟨v4, e5, hq⟩ := bsm hq
    refine r_gR odX6_middle rfl rfl (gR_ap e5) ?_
    refine mB_run odX6_middle 1 (g := (12, [(0, .ref p0), (1, .int p1), (2, .int p2), (3, .int p3)], [.int p1, .ref v4], (o1.1 ++ R), 0, 0)) rfl ?_
    obtain ⟨v6, e7, hq⟩ := bsm hq
    refine r_aR odX6_middle rfl (aR_ap e7) ?_
    obtain ⟨v8, e9, hq⟩ := bsm hq
    refine r_gI odX6_middle rfl rfl (gI_ap e9) ?_
    refine mB_run odX6_middle 1 (g := (17, [(0, .ref p0), (1, .int p1), (2, .int p2), (3, .int p3)], [.int (4 : Int32), .int v8], (o1.1 ++ R), 0, 0)) rfl ?_
    by_cases c10 : v8 = (4 : Int32)
    · rw [if_pos c10] at hq
      refine ic_ne_F (t := 36) odX6_middle rfl rfl c10 ?_
      refine mB_run odX6_middle 1 (g := (21, [(0, .ref p0), (1, .int p1), (2, .int p2), (3, .int p3)], [.int p2], (o1.1 ++ R), 0, 0)) rfl ?_
      by_cases c11 : p2 < 0
      · rw [if_pos c11] at hq
        refine if_lt_T (t := 36) odX6_middle rfl rfl c11 ?_
        refine mB_run odX6_middle 1 (g := (37, [(0, .ref p0), (1, .int p1), (2, .int p2), (3, .int p3)], [.long (0 : Int64)], (o1.1 ++ R), 0, 0)) rfl ?_
        cases hq
        exact mB_ret odX6_middle rfl
      · rw [if_neg c11] at hq
        refine if_lt_F (t := 36) odX6_middle rfl rfl c11 ?_
        refine mB_run odX6_middle 2 (g := (26, [(0, .ref p0), (1, .int p1), (2, .int p2), (3, .int p3)], [.int (2 : Int32), .int p2], (o1.1 ++ R), 0, 0)) rfl ?_
        by_cases c12 : (2 : Int32) < p2
        · rw [if_pos c12] at hq
          refine ic_gt_T (t := 36) odX6_middle rfl rfl c12 ?_
          refine mB_run odX6_middle 1 (g := (37, [(0, .ref p0), (1, .int p1), (2, .int p2), (3, .int p3)], [.long (0 : Int64)], (o1.1 ++ R), 0, 0)) rfl ?_
          cases hq
          exact mB_ret odX6_middle rfl
        · rw [if_neg c12] at hq
          refine ic_gt_F (t := 36) odX6_middle rfl rfl c12 ?_
          refine mB_run odX6_middle 1 (g := (30, [(0, .ref p0), (1, .int p1), (2, .int p2), (3, .int p3)], [.int p3], (o1.1 ++ R), 0, 0)) rfl ?_
          obtain ⟨o13, e14, hq⟩ := bsm hq
          refine mB_S (as := [.int p3]) odX6_middle okX6_isTopOrBottom lk_6_163 rfl (eaX6_isTopOrBottom e14) rfl rfl rfl ?_
          show mB _ mX6_middle (33, [(0, .ref p0), (1, .int p1), (2, .int p2), (3, .int p3)], [.int o13.2], (o13.1 ++ R), 0, 0)
          by_cases c15 : o13.2 = 0
          · rw [if_pos c15] at hq
            refine if_ne_F (t := 38) odX6_middle rfl rfl c15 ?_
            refine mB_run odX6_middle 1 (g := (37, [(0, .ref p0), (1, .int p1), (2, .int p2), (3, .int p3)], [.long (0 : Int64)], (o13.1 ++ R), 0, 0)) rfl ?_
            cases hq
            exact mB_ret odX6_middle rfl
          · rw [if_neg c15] at hq
            refine if_ne_T (t := 38) odX6_middle rfl rfl c15 ?_
            refine mB_run odX6_middle 1 (g := (39, [(0, .ref p0), (1, .int p1), (2, .int p2), (3, .int p3)], [.ref p0], (o13.1 ++ R), 0, 0)) rfl ?_
            obtain ⟨v16, e17, hq⟩ := bsm hq
            refine r_gR odX6_middle rfl rfl (gR_ap e17) ?_
            refine mB_run odX6_middle 1 (g := (43, [(0, .ref p0), (1, .int p1), (2, .int p2), (3, .int p3)], [.ref p0, .ref v16], (o13.1 ++ R), 0, 0)) rfl ?_
            obtain ⟨v18, e19, hq⟩ := bsm hq
            refine r_gR odX6_middle rfl rfl (gR_ap e19) ?_
            refine mB_run odX6_middle 1 (g := (47, [(0, .ref p0), (1, .int p1), (2, .int p2), (3, .int p3)], [.int p1, .ref v18, .ref v16], (o13.1 ++ R), 0, 0)) rfl ?_
            obtain ⟨v20, e21, hq⟩ := bsm hq
            refine r_aR odX6_middle rfl (aR_ap e21) ?_
            refine mB_run odX6_middle 1 (g := (49, [(0, .ref p0), (1, .int p1), (2, .int p2), (3, .int p3)], [.int p2, .ref v20, .ref v16], (o13.1 ++ R), 0, 0)) rfl ?_
            obtain ⟨f24, k25, hq⟩ := bsm hq
            obtain ⟨o22, e23, hq⟩ := bsm hq
            refine mB_V (as := [.int p2]) odX6_middle okX0_moment lk_6_166 rfl (eaX0_moment e23) (kO_at (kO_ap k25)) rfl rfl rfl ?_
            show mB _ mX6_middle (52, [(0, .ref p0), (1, .int p1), (2, .int p2), (3, .int p3)], [.long o22.2, .ref v16], (o22.1 ++ R), 0, 0)
            refine mB_run odX6_middle 2 (g := (56, [(0, .ref p0), (1, .int p1), (2, .int p2), (3, .int p3)], [.ref p0, .long (4 : Int64), .long o22.2, .ref v16], (o22.1 ++ R), 0, 0)) rfl ?_
            obtain ⟨v26, e27, hq⟩ := bsm hq
            refine r_gR odX6_middle rfl rfl (gR_ap e27) ?_
            refine mB_run odX6_middle 1 (g := (60, [(0, .ref p0), (1, .int p1), (2, .int p2), (3, .int p3)], [.int p1, .ref v26, .long (4 : Int64), .long o22.2, .ref v16], (o22.1 ++ R), 0, 0)) rfl ?_
            obtain ⟨v28, e29, hq⟩ := bsm hq
            refine r_aR odX6_middle rfl (aR_ap e29) ?_
            obtain ⟨f32, k33, hq⟩ := bsm hq
            obtain ⟨o30, e31, hq⟩ := bsm hq
            refine mB_V (as := []) odX6_middle okX0_sixVolumes lk_6_157 rfl (eaX0_sixVolumes e31) (kO_at (kO_ap k33)) rfl rfl rfl ?_
            show mB _ mX6_middle (64, [(0, .ref p0), (1, .int p1), (2, .int p2), (3, .int p3)], [.long o30.2, .long (4 : Int64), .long o22.2, .ref v16], (o30.1 ++ R), 0, 0)
            refine mB_run odX6_middle 1 (g := (65, [(0, .ref p0), (1, .int p1), (2, .int p2), (3, .int p3)], [.long ((4 : Int64) * o30.2), .long o22.2, .ref v16], (o30.1 ++ R), 0, 0)) rfl ?_
            obtain ⟨f36, k37, hq⟩ := bsm hq
            obtain ⟨o34, e35, hq⟩ := bsm hq
            refine mB_V (as := [.long o22.2, .long ((4 : Int64) * o30.2)]) odX6_middle okX4_put lk_6_171 rfl (eaX4_put e35) (kO_at (kO_ap k37)) rfl rfl rfl ?_
            show mB _ mX6_middle (68, [(0, .ref p0), (1, .int p1), (2, .int p2), (3, .int p3)], [], (o34 ++ R), 0, 0)
            refine mB_run odX6_middle 1 (g := (69, [(0, .ref p0), (1, .int p1), (2, .int p2), (3, .int p3)], [.ref p0], (o34 ++ R), 0, 0)) rfl ?_
            obtain ⟨v38, e39, hq⟩ := bsm hq
            refine r_gR odX6_middle rfl rfl (gR_ap e39) ?_
            refine mB_run odX6_middle 1 (g := (73, [(0, .ref p0), (1, .int p1), (2, .int p2), (3, .int p3)], [.int p3, .ref v38], (o34 ++ R), 0, 0)) rfl ?_
            obtain ⟨f42, k43, hq⟩ := bsm hq
            obtain ⟨o40, e41, hq⟩ := bsm hq
            refine mB_V (as := [.int p3]) odX6_middle okX4_part lk_6_174 rfl (eaX4_part e41) (kO_at (kO_ap k43)) rfl rfl rfl ?_
            show mB _ mX6_middle (76, [(0, .ref p0), (1, .int p1), (2, .int p2), (3, .int p3)], [.long o40.2], (o40.1 ++ R), 0, 0)
            cases hq
            exact mB_ret odX6_middle rfl
    · rw [if_neg c10] at hq
      refine ic_ne_T (t := 36) odX6_middle rfl rfl c10 ?_
      refine mB_run odX6_middle 1 (g := (37, [(0, .ref p0), (1, .int p1), (2, .int p2), (3, .int p3)], [.long (0 : Int64)], (o1.1 ++ R), 0, 0)) rfl ?_
      cases hq
      exact mB_ret odX6_middle rfl
