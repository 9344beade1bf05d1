def fxX7_corner (N : Nat) (p0 : Nat) (p1 : Int32) (p2 : Int32) (p3 : Int32) (h : mh) : Option (mh × Int32) :=
  (fxX7_isSolid N p1 h).bind fun o1 =>
  if o1.2 = 0 then (
    some (o1.1, (-1000 : Int32))) else (
    if p2 < 0 then (
      some (o1.1, (-1000 : Int32))) else (
      (gR o1.1 p0 7 4).bind fun v5 =>
      (aI o1.1 v5 p1).bind fun v7 =>
      if p2 < v7 then (
        if p3 = 0 then (
          (gR o1.1 p0 7 6).bind fun v11 =>
          (aI o1.1 v11 (((24 : Int32) * p1) + p2)).bind fun v13 =>
          some (o1.1, v13)) else (
          if p3 = (1 : Int32) then (
            (gR o1.1 p0 7 7).bind fun v16 =>
            (aI o1.1 v16 (((24 : Int32) * p1) + p2)).bind fun v18 =>
            some (o1.1, v18)) else (
            if p3 = (2 : Int32) then (
              (gR o1.1 p0 7 8).bind fun v21 =>
              (aI o1.1 v21 (((24 : Int32) * p1) + p2)).bind fun v23 =>
              some (o1.1, v23)) else (
              some (o1.1, (-1000 : Int32)))))) else (
        some (o1.1, (-1000 : Int32)))))
set_option maxHeartbeats 4000000 in
set_option maxRecDepth 100000 in
theorem exX7_corner {N : Nat} {p0 : Nat} {p1 : Int32} {p2 : Int32} {p3 : Int32} {h : mh} {o : (mh × Int32)} (hq : fxX7_corner N p0 p1 p2 p3 h = some o) : mC mX7_corner [.ref p0, .int p1, .int p2, .int p3] h (o.1, some (.int o.2)) := by
  refine mC_of okX7_corner (Nat.le_of_ble_eq_true rfl) ?_
  unfold fxX7_corner at hq
  show mB _ mX7_corner (0, [(0, .ref p0), (1, .int p1), (2, .int p2), (3, .int p3)], [], h, 0, 0)
  refine mB_run odX7_corner 1 (g := (1, [(0, .ref p0), (1, .int p1), (2, .int p2), (3, .int p3)], [.int p1], h, 0, 0)) rfl ?_
  obtain ⟨o1, e2, hq⟩ := bsm hq
  refine mB_S (as := [.int p1]) odX7_corner okX7_isSolid lk_7_133 rfl (exX7_isSolid e2) rfl rfl rfl ?_
  show mB _ mX7_corner (4, [(0, .ref p0), (1, .int p1), (2, .int p2), (3, .int p3)], [.int o1.2], o1.1, 0, 0)
  by_cases c3 : o1.2 = 0
  · rw [if_pos c3] at hq
    refine if_eq_T (t := 21) odX7_corner rfl rfl c3 ?_
    refine mB_run odX7_corner 1 (g := (24, [(0, .ref p0), (1, .int p1), (2, .int p2), (3, .int p3)], [.int (-1000 : Int32)], o1.1, 0, 0)) rfl ?_
    cases hq
    exact mB_ret odX7_corner rfl
  · rw [if_neg c3] at hq
    refine if_eq_F (t := 21) odX7_corner rfl rfl c3 ?_
    refine mB_run odX7_corner 1 (g := (8, [(0, .ref p0), (1, .int p1), (2, .int p2), (3, .int p3)], [.int p2], o1.1, 0, 0)) rfl ?_
    by_cases c4 : p2 < 0
    · rw [if_pos c4] at hq
      refine if_lt_T (t := 21) odX7_corner rfl rfl c4 ?_
      refine mB_run odX7_corner 1 (g := (24, [(0, .ref p0), (1, .int p1), (2, .int p2), (3, .int p3)], [.int (-1000 : Int32)], o1.1, 0, 0)) rfl ?_
      cases hq
      exact mB_ret odX7_corner rfl
    · rw [if_neg c4] at hq
      refine if_lt_F (t := 21) odX7_corner rfl rfl c4 ?_
      refine mB_run odX7_corner 2 (g := (13, [(0, .ref p0), (1, .int p1), (2, .int p2), (3, .int p3)], [.ref p0, .int p2], o1.1, 0, 0)) rfl ?_
      obtain ⟨v5, e6, hq⟩ := bsm hq
      refine r_gR odX7_corner rfl rfl e6 ?_
      refine mB_run odX7_corner 1 (g := (17, [(0, .ref p0), (1, .int p1), (2, .int p2), (3, .int p3)], [.int p1, .ref v5, .int p2], o1.1, 0, 0)) rfl ?_
      obtain ⟨v7, e8, hq⟩ := bsm hq
      refine r_aI odX7_corner rfl e8 ?_
      by_cases c9 : p2 < v7
      · rw [if_pos c9] at hq
        refine ic_lt_T (t := 25) odX7_corner rfl rfl c9 ?_
        refine mB_run odX7_corner 1 (g := (26, [(0, .ref p0), (1, .int p1), (2, .int p2), (3, .int p3)], [.int p3], o1.1, 0, 0)) rfl ?_
        by_cases c10 : p3 = 0
        · rw [if_pos c10] at hq
          refine if_ne_F (t := 43) odX7_corner rfl rfl c10 ?_
          refine mB_run odX7_corner 1 (g := (30, [(0, .ref p0), (1, .int p1), (2, .int p2), (3, .int p3)], [.ref p0], o1.1, 0, 0)) rfl ?_
          obtain ⟨v11, e12, hq⟩ := bsm hq
          refine r_gR odX7_corner rfl rfl e12 ?_
          refine mB_run odX7_corner 5 (g := (39, [(0, .ref p0), (1, .int p1), (2, .int p2), (3, .int p3)], [.int (((24 : Int32) * p1) + p2), .ref v11], o1.1, 0, 0)) rfl ?_
          obtain ⟨v13, e14, hq⟩ := bsm hq
          refine r_aI odX7_corner rfl e14 ?_
          refine mB_run odX7_corner 1 (g := (84, [(0, .ref p0), (1, .int p1), (2, .int p2), (3, .int p3)], [.int v13], o1.1, 0, 0)) rfl ?_
          cases hq
          exact mB_ret odX7_corner rfl
        · rw [if_neg c10] at hq
          refine if_ne_T (t := 43) odX7_corner rfl rfl c10 ?_
          refine mB_run odX7_corner 2 (g := (45, [(0, .ref p0), (1, .int p1), (2, .int p2), (3, .int p3)], [.int (1 : Int32), .int p3], o1.1, 0, 0)) rfl ?_
          by_cases c15 : p3 = (1 : Int32)
          · rw [if_pos c15] at hq
            refine ic_ne_F (t := 62) odX7_corner rfl rfl c15 ?_
            refine mB_run odX7_corner 1 (g := (49, [(0, .ref p0), (1, .int p1), (2, .int p2), (3, .int p3)], [.ref p0], o1.1, 0, 0)) rfl ?_
            obtain ⟨v16, e17, hq⟩ := bsm hq
            refine r_gR odX7_corner rfl rfl e17 ?_
            refine mB_run odX7_corner 5 (g := (58, [(0, .ref p0), (1, .int p1), (2, .int p2), (3, .int p3)], [.int (((24 : Int32) * p1) + p2), .ref v16], o1.1, 0, 0)) rfl ?_
            obtain ⟨v18, e19, hq⟩ := bsm hq
            refine r_aI odX7_corner rfl e19 ?_
            refine mB_run odX7_corner 1 (g := (84, [(0, .ref p0), (1, .int p1), (2, .int p2), (3, .int p3)], [.int v18], o1.1, 0, 0)) rfl ?_
            cases hq
            exact mB_ret odX7_corner rfl
          · rw [if_neg c15] at hq
            refine ic_ne_T (t := 62) odX7_corner rfl rfl c15 ?_
            refine mB_run odX7_corner 2 (g := (64, [(0, .ref p0), (1, .int p1), (2, .int p2), (3, .int p3)], [.int (2 : Int32), .int p3], o1.1, 0, 0)) rfl ?_
            by_cases c20 : p3 = (2 : Int32)
            · rw [if_pos c20] at hq
              refine ic_ne_F (t := 81) odX7_corner rfl rfl c20 ?_
              refine mB_run odX7_corner 1 (g := (68, [(0, .ref p0), (1, .int p1), (2, .int p2), (3, .int p3)], [.ref p0], o1.1, 0, 0)) rfl ?_
              obtain ⟨v21, e22, hq⟩ := bsm hq
              refine r_gR odX7_corner rfl rfl e22 ?_
              refine mB_run odX7_corner 5 (g := (77, [(0, .ref p0), (1, .int p1), (2, .int p2), (3, .int p3)], [.int (((24 : Int32) * p1) + p2), .ref v21], o1.1, 0, 0)) rfl ?_
              obtain ⟨v23, e24, hq⟩ := bsm hq
              refine r_aI odX7_corner rfl e24 ?_
              refine mB_run odX7_corner 1 (g := (84, [(0, .ref p0), (1, .int p1), (2, .int p2), (3, .int p3)], [.int v23], o1.1, 0, 0)) rfl ?_
              cases hq
              exact mB_ret odX7_corner rfl
            · rw [if_neg c20] at hq
              refine ic_ne_T (t := 81) odX7_corner rfl rfl c20 ?_
              refine mB_run odX7_corner 1 (g := (84, [(0, .ref p0), (1, .int p1), (2, .int p2), (3, .int p3)], [.int (-1000 : Int32)], o1.1, 0, 0)) rfl ?_
              cases hq
              exact mB_ret odX7_corner rfl
      · rw [if_neg c9] at hq
        refine ic_lt_F (t := 25) odX7_corner rfl rfl c9 ?_
        refine mB_run odX7_corner 1 (g := (24, [(0, .ref p0), (1, .int p1), (2, .int p2), (3, .int p3)], [.int (-1000 : Int32)], o1.1, 0, 0)) rfl ?_
        cases hq
        exact mB_ret odX7_corner rfl
def fxX7_edge (N : Nat) (p0 : Nat) (p1 : Int32) (p2 : Int32) (p3 : Int32) (h : mh) : Option (mh × Int32) :=
  (fxX7_isSolid N p1 h).bind fun o1 =>
  if o1.2 = 0 then (
    some (o1.1, (-1 : Int32))) else (
    if 0 ≤ p2 then (
      (kO o1.1 p0 7).bind fun f7 =>
      (fxX7_knows N p0 p1 (0 : Int32) o1.1).bind fun o5 =>
      (gR o5 p0 7 34).bind fun v9 =>
      (aI o5 v9 (0 : Int32)).bind fun v11 =>
      if p2 < v11 then (
        if p3 = (0 : Int32) then (
          (gR o5 p0 7 35).bind fun v15 =>
          (aI o5 v15 p2).bind fun v17 =>
          some (o5, v17)) else (
          if p3 = (1 : Int32) then (
            (gR o5 p0 7 36).bind fun v20 =>
            (aI o5 v20 p2).bind fun v22 =>
            some (o5, v22)) else (
            if p3 = (2 : Int32) then (
              (gR o5 p0 7 37).bind fun v25 =>
              (aI o5 v25 p2).bind fun v27 =>
              some (o5, v27)) else (
              if p3 = (3 : Int32) then (
                (gR o5 p0 7 38).bind fun v30 =>
                (aI o5 v30 p2).bind fun v32 =>
                some (o5, v32)) else (
                some (o5, (-1 : Int32))))))) else (
        some (o5, (-1 : Int32)))) else (
      some (o1.1, (-1 : Int32))))
set_option maxHeartbeats 4000000 in
set_option maxRecDepth 100000 in
theorem exX7_edge {N : Nat} {p0 : Nat} {p1 : Int32} {p2 : Int32} {p3 : Int32} {h : mh} {o : (mh × Int32)} (hq : fxX7_edge N p0 p1 p2 p3 h = some o) : mC mX7_edge [.ref p0, .int p1, .int p2, .int p3] h (o.1, some (.int o.2)) := by
  refine mC_of okX7_edge (Nat.le_of_ble_eq_true rfl) ?_
  unfold fxX7_edge at hq
  show mB _ mX7_edge (0, [(0, .ref p0), (1, .int p1), (2, .int p2), (3, .int p3)], [], h, 0, 0)
  refine mB_run odX7_edge 1 (g := (1, [(0, .ref p0), (1, .int p1), (2, .int p2), (3, .int p3)], [.int p1], h, 0, 0)) rfl ?_
  obtain ⟨o1, e2, hq⟩ := bsm hq
  refine mB_S (as := [.int p1]) odX7_edge okX7_isSolid lk_7_133 rfl (exX7_isSolid e2) rfl rfl rfl ?_
  show mB _ mX7_edge (4, [(0, .ref p0), (1, .int p1), (2, .int p2), (3, .int p3)], [.int o1.2], o1.1, 0, 0)
  by_cases c3 : o1.2 = 0
  · rw [if_pos c3] at hq
    refine if_eq_T (t := 11) odX7_edge rfl rfl c3 ?_
    refine mB_run odX7_edge 1 (g := (12, [(0, .ref p0), (1, .int p1), (2, .int p2), (3, .int p3)], [.int (-1 : Int32)], o1.1, 0, 0)) rfl ?_
    cases hq
    exact mB_ret odX7_edge rfl
  · rw [if_neg c3] at hq
    refine if_eq_F (t := 11) odX7_edge rfl rfl c3 ?_
    refine mB_run odX7_edge 1 (g := (8, [(0, .ref p0), (1, .int p1), (2, .int p2), (3, .int p3)], [.int p2], o1.1, 0, 0)) rfl ?_
    by_cases c4 : 0 ≤ p2
    · rw [if_pos c4] at hq
      refine if_ge_T (t := 13) odX7_edge rfl rfl c4 ?_
      refine mB_run odX7_edge 3 (g := (16, [(0, .ref p0), (1, .int p1), (2, .int p2), (3, .int p3)], [.int (0 : Int32), .int p1, .ref p0], o1.1, 0, 0)) rfl ?_
      obtain ⟨f7, k8, hq⟩ := bsm hq
      obtain ⟨o5, e6, hq⟩ := bsm hq
      refine mB_V (as := [.int p1, .int (0 : Int32)]) odX7_edge okX7_knows lk_7_244 rfl (exX7_knows e6) (kO_at k8) rfl rfl rfl ?_
      show mB _ mX7_edge (19, [(0, .ref p0), (1, .int p1), (2, .int p2), (3, .int p3)], [], o5, 0, 0)
      refine mB_run odX7_edge 2 (g := (21, [(0, .ref p0), (1, .int p1), (2, .int p2), (3, .int p3)], [.ref p0, .int p2], o5, 0, 0)) rfl ?_
      obtain ⟨v9, e10, hq⟩ := bsm hq
      refine r_gR odX7_edge rfl rfl e10 ?_
      refine mB_run odX7_edge 1 (g := (25, [(0, .ref p0), (1, .int p1), (2, .int p2), (3, .int p3)], [.int (0 : Int32), .ref v9, .int p2], o5, 0, 0)) rfl ?_
      obtain ⟨v11, e12, hq⟩ := bsm hq
      refine r_aI odX7_edge rfl e12 ?_
      by_cases c13 : p2 < v11
      · rw [if_pos c13] at hq
        refine ic_lt_T (t := 31) odX7_edge rfl rfl c13 ?_
        refine mB_run odX7_edge 1 (g := (32, [(0, .ref p0), (1, .int p1), (2, .int p2), (3, .int p3)], [.int p3], o5, 0, 0)) rfl ?_
        by_cases c14 : p3 = (0 : Int32)
        · rw [if_pos c14] at hq
          refine r_tab odX7_edge rfl c14 (t := 64) rfl ?_
          refine mB_run odX7_edge 1 (g := (65, [(0, .ref p0), (1, .int p1), (2, .int p2), (3, .int p3)], [.ref p0], o5, 0, 0)) rfl ?_
          obtain ⟨v15, e16, hq⟩ := bsm hq
          refine r_gR odX7_edge rfl rfl e16 ?_
          refine mB_run odX7_edge 1 (g := (69, [(0, .ref p0), (1, .int p1), (2, .int p2), (3, .int p3)], [.int p2, .ref v15], o5, 0, 0)) rfl ?_
          obtain ⟨v17, e18, hq⟩ := bsm hq
          refine r_aI odX7_edge rfl e18 ?_
          cases hq
          exact mB_ret odX7_edge rfl
        · rw [if_neg c14] at hq
          by_cases c19 : p3 = (1 : Int32)
          · rw [if_pos c19] at hq
            refine r_tab odX7_edge rfl c19 (t := 71) rfl ?_
            refine mB_run odX7_edge 1 (g := (72, [(0, .ref p0), (1, .int p1), (2, .int p2), (3, .int p3)], [.ref p0], o5, 0, 0)) rfl ?_
            obtain ⟨v20, e21, hq⟩ := bsm hq
            refine r_gR odX7_edge rfl rfl e21 ?_
            refine mB_run odX7_edge 1 (g := (76, [(0, .ref p0), (1, .int p1), (2, .int p2), (3, .int p3)], [.int p2, .ref v20], o5, 0, 0)) rfl ?_
            obtain ⟨v22, e23, hq⟩ := bsm hq
            refine r_aI odX7_edge rfl e23 ?_
            cases hq
            exact mB_ret odX7_edge rfl
          · rw [if_neg c19] at hq
            by_cases c24 : p3 = (2 : Int32)
            · rw [if_pos c24] at hq
              refine r_tab odX7_edge rfl c24 (t := 78) rfl ?_
              refine mB_run odX7_edge 1 (g := (79, [(0, .ref p0), (1, .int p1), (2, .int p2), (3, .int p3)], [.ref p0], o5, 0, 0)) rfl ?_
              obtain ⟨v25, e26, hq⟩ := bsm hq
              refine r_gR odX7_edge rfl rfl e26 ?_
              refine mB_run odX7_edge 1 (g := (83, [(0, .ref p0), (1, .int p1), (2, .int p2), (3, .int p3)], [.int p2, .ref v25], o5, 0, 0)) rfl ?_
              obtain ⟨v27, e28, hq⟩ := bsm hq
              refine r_aI odX7_edge rfl e28 ?_
              cases hq
              exact mB_ret odX7_edge rfl
            · rw [if_neg c24] at hq
              by_cases c29 : p3 = (3 : Int32)
              · rw [if_pos c29] at hq
                refine r_tab odX7_edge rfl c29 (t := 85) rfl ?_
                refine mB_run odX7_edge 1 (g := (86, [(0, .ref p0), (1, .int p1), (2, .int p2), (3, .int p3)], [.ref p0], o5, 0, 0)) rfl ?_
                obtain ⟨v30, e31, hq⟩ := bsm hq
                refine r_gR odX7_edge rfl rfl e31 ?_
                refine mB_run odX7_edge 1 (g := (90, [(0, .ref p0), (1, .int p1), (2, .int p2), (3, .int p3)], [.int p2, .ref v30], o5, 0, 0)) rfl ?_
                obtain ⟨v32, e33, hq⟩ := bsm hq
                refine r_aI odX7_edge rfl e33 ?_
                cases hq
                exact mB_ret odX7_edge rfl
              · rw [if_neg c29] at hq
                refine r_tabd odX7_edge rfl (t := 92) (by omega) (ts_out4 c14 c19 c24 c29) ?_
                refine mB_run odX7_edge 1 (g := (93, [(0, .ref p0), (1, .int p1), (2, .int p2), (3, .int p3)], [.int (-1 : Int32)], o5, 0, 0)) rfl ?_
                cases hq
                exact mB_ret odX7_edge rfl
      · rw [if_neg c13] at hq
        refine ic_lt_F (t := 31) odX7_edge rfl rfl c13 ?_
        refine mB_run odX7_edge 1 (g := (30, [(0, .ref p0), (1, .int p1), (2, .int p2), (3, .int p3)], [.int (-1 : Int32)], o5, 0, 0)) rfl ?_
        cases hq
        exact mB_ret odX7_edge rfl
    · rw [if_neg c4] at hq
      refine if_ge_F (t := 13) odX7_edge rfl rfl c4 ?_
      refine mB_run odX7_edge 1 (g := (12, [(0, .ref p0), (1, .int p1), (2, .int p2), (3, .int p3)], [.int (-1 : Int32)], o1.1, 0, 0)) rfl ?_
      cases hq
      exact mB_ret odX7_edge rfl
def fxX7_area_26 (N : Nat) : Nat → Nat → Int32 → Int64 → Int64 → Int64 → Int32 → mh → Option (mh × Int64)
  | 0, _, _, _, _, _, _, _ => none
  | n + 1, x0, x1, x2, x4, x6, x8, h =>
    (gR h x0 7 32).bind fun v7 =>
    (aI h v7 x1).bind fun v9 =>
    if v9 ≤ (x8 + (1 : Int32)) then (
      (gR h x0 7 28).bind fun v12 =>
      (aJ h v12 x1).bind fun v14 =>
      if v14 = (0 : Int64) then (
        (gR h x0 7 29).bind fun v17 =>
        (aJ h v17 x1).bind fun v19 =>
        if v19 = (0 : Int64) then (
          (gR h x0 7 30).bind fun v22 =>
          (aJ h v22 x1).bind fun v24 =>
          if v24 = 0 then none else
          some (h, (x6 / v24))) else (
          (gR h x0 7 29).bind fun v27 =>
          (aJ h v27 x1).bind fun v29 =>
          if v29 = 0 then none else
          some (h, (x4 / v29)))) else (
        (gR h x0 7 28).bind fun v32 =>
        (aJ h v32 x1).bind fun v34 =>
        if v34 = 0 then none else
        some (h, (x2 / v34)))) else (
      (gR h x0 7 33).bind fun v37 =>
      (aI h v37 ((25 : Int32) * x1)).bind fun v39 =>
      (gR h x0 7 33).bind fun v41 =>
      (aI h v41 (((25 : Int32) * x1) + x8)).bind fun v43 =>
      (gR h x0 7 33).bind fun v45 =>
      (aI h v45 ((((25 : Int32) * x1) + x8) + (1 : Int32))).bind fun v47 =>
      (kO h x0 7).bind fun f51 =>
      (fxX7_across N x0 v39 v43 v47 h).bind fun o49 =>
      (gJ o49 x0 7 24).bind fun v53 =>
      (gJ o49 x0 7 25).bind fun v55 =>
      (gJ o49 x0 7 26).bind fun v57 =>
      fxX7_area_26 N n x0 x1 (x2 + v53) (x4 + v55) (x6 + v57) (x8 + (1 : Int32)) o49)
set_option maxHeartbeats 4000000 in
set_option maxRecDepth 100000 in
theorem exX7_area_26 {N : Nat} : ∀ (n : Nat) (x0 : Nat) (x1 : Int32) (x2 : Int64) (x4 : Int64) (x6 : Int64) (x8 : Int32) (h : mh) {o : (mh × Int64)}, fxX7_area_26 N n x0 x1 x2 x4 x6 x8 h = some o → mB (gO mX7_area (o.1, some (.long o.2))) mX7_area (26, [(0, .ref x0), (1, .int x1), (2, .long x2), (4, .long x4), (6, .long x6), (8, .int x8)], [], h, 0, 0) := by
  intro n
  induction n with
  | zero => intro x0 x1 x2 x4 x6 x8 h o hq; cases hq
  | succ n ih =>
    intro x0 x1 x2 x4 x6 x8 h o hq
    unfold fxX7_area_26 at hq
    refine mB_run odX7_area 4 (g := (31, [(0, .ref x0), (1, .int x1), (2, .long x2), (4, .long x4), (6, .long x6), (8, .int x8)], [.ref x0, .int (x8 + (1 : Int32))], h, 0, 0)) rfl ?_
    obtain ⟨v7, e8, hq⟩ := bsm hq
    refine r_gR odX7_area rfl rfl e8 ?_
    refine mB_run odX7_area 1 (g := (35, [(0, .ref x0), (1, .int x1), (2, .long x2), (4, .long x4), (6, .long x6), (8, .int x8)], [.int x1, .ref v7, .int (x8 + (1 : Int32))], h, 0, 0)) rfl ?_
    obtain ⟨v9, e10, hq⟩ := bsm hq
    refine r_aI odX7_area rfl e10 ?_
    by_cases c11 : v9 ≤ (x8 + (1 : Int32))
    · rw [if_pos c11] at hq
      refine ic_ge_T (t := 109) odX7_area rfl rfl c11 ?_
      refine mB_run odX7_area 1 (g := (110, [(0, .ref x0), (1, .int x1), (2, .long x2), (4, .long x4), (6, .long x6), (8, .int x8)], [.ref x0], h, 0, 0)) rfl ?_
      obtain ⟨v12, e13, hq⟩ := bsm hq
      refine r_gR odX7_area rfl rfl e13 ?_
      refine mB_run odX7_area 1 (g := (114, [(0, .ref x0), (1, .int x1), (2, .long x2), (4, .long x4), (6, .long x6), (8, .int x8)], [.int x1, .ref v12], h, 0, 0)) rfl ?_
      obtain ⟨v14, e15, hq⟩ := bsm hq
      refine r_aJ odX7_area rfl e15 ?_
      refine mB_run odX7_area 1 (g := (116, [(0, .ref x0), (1, .int x1), (2, .long x2), (4, .long x4), (6, .long x6), (8, .int x8)], [.long (0 : Int64), .long v14], h, 0, 0)) rfl ?_
      by_cases c16 : v14 = (0 : Int64)
      · rw [if_pos c16] at hq
        refine lc_eq_T (t := 131) odX7_area rfl rfl rfl c16 ?_
        refine mB_run odX7_area 1 (g := (132, [(0, .ref x0), (1, .int x1), (2, .long x2), (4, .long x4), (6, .long x6), (8, .int x8)], [.ref x0], h, 0, 0)) rfl ?_
        obtain ⟨v17, e18, hq⟩ := bsm hq
        refine r_gR odX7_area rfl rfl e18 ?_
        refine mB_run odX7_area 1 (g := (136, [(0, .ref x0), (1, .int x1), (2, .long x2), (4, .long x4), (6, .long x6), (8, .int x8)], [.int x1, .ref v17], h, 0, 0)) rfl ?_
        obtain ⟨v19, e20, hq⟩ := bsm hq
        refine r_aJ odX7_area rfl e20 ?_
        refine mB_run odX7_area 1 (g := (138, [(0, .ref x0), (1, .int x1), (2, .long x2), (4, .long x4), (6, .long x6), (8, .int x8)], [.long (0 : Int64), .long v19], h, 0, 0)) rfl ?_
        by_cases c21 : v19 = (0 : Int64)
        · rw [if_pos c21] at hq
          refine lc_eq_T (t := 154) odX7_area rfl rfl rfl c21 ?_
          refine mB_run odX7_area 2 (g := (157, [(0, .ref x0), (1, .int x1), (2, .long x2), (4, .long x4), (6, .long x6), (8, .int x8)], [.ref x0, .long x6], h, 0, 0)) rfl ?_
          obtain ⟨v22, e23, hq⟩ := bsm hq
          refine r_gR odX7_area rfl rfl e23 ?_
          refine mB_run odX7_area 1 (g := (161, [(0, .ref x0), (1, .int x1), (2, .long x2), (4, .long x4), (6, .long x6), (8, .int x8)], [.int x1, .ref v22, .long x6], h, 0, 0)) rfl ?_
          obtain ⟨v24, e25, hq⟩ := bsm hq
          refine r_aJ odX7_area rfl e25 ?_
          by_cases c26 : v24 = 0
          · rw [if_pos c26] at hq; cases hq
          rw [if_neg c26] at hq
          refine r_ldiv odX7_area rfl c26 ?_
          cases hq
          exact mB_ret odX7_area rfl
        · rw [if_neg c21] at hq
          refine lc_eq_F (t := 154) odX7_area rfl rfl rfl c21 ?_
          refine mB_run odX7_area 2 (g := (145, [(0, .ref x0), (1, .int x1), (2, .long x2), (4, .long x4), (6, .long x6), (8, .int x8)], [.ref x0, .long x4], h, 0, 0)) rfl ?_
          obtain ⟨v27, e28, hq⟩ := bsm hq
          refine r_gR odX7_area rfl rfl e28 ?_
          refine mB_run odX7_area 1 (g := (149, [(0, .ref x0), (1, .int x1), (2, .long x2), (4, .long x4), (6, .long x6), (8, .int x8)], [.int x1, .ref v27, .long x4], h, 0, 0)) rfl ?_
          obtain ⟨v29, e30, hq⟩ := bsm hq
          refine r_aJ odX7_area rfl e30 ?_
          by_cases c31 : v29 = 0
          · rw [if_pos c31] at hq; cases hq
          rw [if_neg c31] at hq
          refine r_ldiv odX7_area rfl c31 ?_
          refine mB_run odX7_area 1 (g := (163, [(0, .ref x0), (1, .int x1), (2, .long x2), (4, .long x4), (6, .long x6), (8, .int x8)], [.long (x4 / v29)], h, 0, 0)) rfl ?_
          cases hq
          exact mB_ret odX7_area rfl
      · rw [if_neg c16] at hq
        refine lc_eq_F (t := 131) odX7_area rfl rfl rfl c16 ?_
        refine mB_run odX7_area 2 (g := (122, [(0, .ref x0), (1, .int x1), (2, .long x2), (4, .long x4), (6, .long x6), (8, .int x8)], [.ref x0, .long x2], h, 0, 0)) rfl ?_
        obtain ⟨v32, e33, hq⟩ := bsm hq
        refine r_gR odX7_area rfl rfl e33 ?_
        refine mB_run odX7_area 1 (g := (126, [(0, .ref x0), (1, .int x1), (2, .long x2), (4, .long x4), (6, .long x6), (8, .int x8)], [.int x1, .ref v32, .long x2], h, 0, 0)) rfl ?_
        obtain ⟨v34, e35, hq⟩ := bsm hq
        refine r_aJ odX7_area rfl e35 ?_
        by_cases c36 : v34 = 0
        · rw [if_pos c36] at hq; cases hq
        rw [if_neg c36] at hq
        refine r_ldiv odX7_area rfl c36 ?_
        refine mB_run odX7_area 1 (g := (163, [(0, .ref x0), (1, .int x1), (2, .long x2), (4, .long x4), (6, .long x6), (8, .int x8)], [.long (x2 / v34)], h, 0, 0)) rfl ?_
        cases hq
        exact mB_ret odX7_area rfl
    · rw [if_neg c11] at hq
      refine ic_ge_F (t := 109) odX7_area rfl rfl c11 ?_
      refine mB_run odX7_area 2 (g := (41, [(0, .ref x0), (1, .int x1), (2, .long x2), (4, .long x4), (6, .long x6), (8, .int x8)], [.ref x0, .ref x0], h, 0, 0)) rfl ?_
      obtain ⟨v37, e38, hq⟩ := bsm hq
      refine r_gR odX7_area rfl rfl e38 ?_
      refine mB_run odX7_area 3 (g := (48, [(0, .ref x0), (1, .int x1), (2, .long x2), (4, .long x4), (6, .long x6), (8, .int x8)], [.int ((25 : Int32) * x1), .ref v37, .ref x0], h, 0, 0)) rfl ?_
      obtain ⟨v39, e40, hq⟩ := bsm hq
      refine r_aI odX7_area rfl e40 ?_
      refine mB_run odX7_area 1 (g := (50, [(0, .ref x0), (1, .int x1), (2, .long x2), (4, .long x4), (6, .long x6), (8, .int x8)], [.ref x0, .int v39, .ref x0], h, 0, 0)) rfl ?_
      obtain ⟨v41, e42, hq⟩ := bsm hq
      refine r_gR odX7_area rfl rfl e42 ?_
      refine mB_run odX7_area 5 (g := (60, [(0, .ref x0), (1, .int x1), (2, .long x2), (4, .long x4), (6, .long x6), (8, .int x8)], [.int (((25 : Int32) * x1) + x8), .ref v41, .int v39, .ref x0], h, 0, 0)) rfl ?_
      obtain ⟨v43, e44, hq⟩ := bsm hq
      refine r_aI odX7_area rfl e44 ?_
      refine mB_run odX7_area 1 (g := (62, [(0, .ref x0), (1, .int x1), (2, .long x2), (4, .long x4), (6, .long x6), (8, .int x8)], [.ref x0, .int v43, .int v39, .ref x0], h, 0, 0)) rfl ?_
      obtain ⟨v45, e46, hq⟩ := bsm hq
      refine r_gR odX7_area rfl rfl e46 ?_
      refine mB_run odX7_area 7 (g := (74, [(0, .ref x0), (1, .int x1), (2, .long x2), (4, .long x4), (6, .long x6), (8, .int x8)], [.int ((((25 : Int32) * x1) + x8) + (1 : Int32)), .ref v45, .int v43, .int v39, .ref x0], h, 0, 0)) rfl ?_
      obtain ⟨v47, e48, hq⟩ := bsm hq
      refine r_aI odX7_area rfl e48 ?_
      obtain ⟨f51, k52, hq⟩ := bsm hq
      obtain ⟨o49, e50, hq⟩ := bsm hq
      refine mB_V (as := [.int v39, .int v43, .int v47]) odX7_area okX7_across lk_7_178 rfl (exX7_across e50) (kO_at k52) rfl rfl rfl ?_
      show mB _ mX7_area (78, [(0, .ref x0), (1, .int x1), (2, .long x2), (4, .long x4), (6, .long x6), (8, .int x8)], [], o49, 0, 0)
      refine mB_run odX7_area 2 (g := (80, [(0, .ref x0), (1, .int x1), (2, .long x2), (4, .long x4), (6, .long x6), (8, .int x8)], [.ref x0, .long x2], o49, 0, 0)) rfl ?_
      obtain ⟨v53, e54, hq⟩ := bsm hq
      refine r_gJ odX7_area rfl rfl e54 ?_
      refine mB_run odX7_area 4 (g := (88, [(2, .long (x2 + v53)), (0, .ref x0), (1, .int x1), (4, .long x4), (6, .long x6), (8, .int x8)], [.ref x0, .long x4], o49, 0, 0)) rfl ?_
      obtain ⟨v55, e56, hq⟩ := bsm hq
      refine r_gJ odX7_area rfl rfl e56 ?_
      refine mB_run odX7_area 4 (g := (97, [(4, .long (x4 + v55)), (2, .long (x2 + v53)), (0, .ref x0), (1, .int x1), (6, .long x6), (8, .int x8)], [.ref x0, .long x6], o49, 0, 0)) rfl ?_
      obtain ⟨v57, e58, hq⟩ := bsm hq
      refine r_gJ odX7_area rfl rfl e58 ?_
      refine mB_run odX7_area 4 (g := (26, [(8, .int (x8 + (1 : Int32))), (6, .long (x6 + v57)), (4, .long (x4 + v55)), (2, .long (x2 + v53)), (0, .ref x0), (1, .int x1)], [], o49, 0, 0)) rfl ?_
      refine mB_lv [4, 5, 3, 2, 1, 0] (lv' := [(0, .ref x0), (1, .int x1), (2, .long (x2 + v53)), (4, .long (x4 + v55)), (6, .long (x6 + v57)), (8, .int (x8 + (1 : Int32)))]) rfl ?_
      exact ih _ _ _ _ _ _ _ hq
def fxX7_area (N : Nat) (p0 : Nat) (p1 : Int32) (h : mh) : Option (mh × Int64) :=
  (sV h p0 7 24 (.long (0 : Int64))).bind fun h1 =>
  (sV h1 p0 7 25 (.long (0 : Int64))).bind fun h3 =>
  (sV h3 p0 7 26 (.long (0 : Int64))).bind fun h5 =>
  fxX7_area_26 N N p0 p1 (0 : Int64) (0 : Int64) (0 : Int64) (1 : Int32) h5
set_option maxHeartbeats 4000000 in
set_option maxRecDepth 100000 in
theorem exX7_area {N : Nat} {p0 : Nat} {p1 : Int32} {h : mh} {o : (mh × Int64)} (hq : fxX7_area N p0 p1 h = some o) : mC mX7_area [.ref p0, .int p1] h (o.1, some (.long o.2)) := by
  refine mC_of okX7_area (Nat.le_of_ble_eq_true rfl) ?_
  unfold fxX7_area at hq
  show mB _ mX7_area (0, [(0, .ref p0), (1, .int p1)], [], h, 0, 0)
  refine mB_run odX7_area 2 (g := (2, [(0, .ref p0), (1, .int p1)], [.long (0 : Int64), .ref p0], h, 0, 0)) rfl ?_
  obtain ⟨h1, e2, hq⟩ := bsm hq
  refine r_sV odX7_area rfl rfl rfl rfl e2 ?_
  refine mB_run odX7_area 2 (g := (7, [(0, .ref p0), (1, .int p1)], [.long (0 : Int64), .ref p0], h1, 0, 0)) rfl ?_
  obtain ⟨h3, e4, hq⟩ := bsm hq
  refine r_sV odX7_area rfl rfl rfl rfl e4 ?_
  refine mB_run odX7_area 2 (g := (12, [(0, .ref p0), (1, .int p1)], [.long (0 : Int64), .ref p0], h3, 0, 0)) rfl ?_
  obtain ⟨h5, e6, hq⟩ := bsm hq
  refine r_sV odX7_area rfl rfl rfl rfl e6 ?_
  refine mB_run odX7_area 8 (g := (26, [(8, .int (1 : Int32)), (6, .long (0 : Int64)), (4, .long (0 : Int64)), (2, .long (0 : Int64)), (0, .ref p0), (1, .int p1)], [], h5, 0, 0)) rfl ?_
  refine mB_lv [4, 5, 3, 2, 1, 0] (lv' := [(0, .ref p0), (1, .int p1), (2, .long (0 : Int64)), (4, .long (0 : Int64)), (6, .long (0 : Int64)), (8, .int (1 : Int32))]) rfl ?_
  exact exX7_area_26 N _ _ _ _ _ _ _ hq
def fxX7_face (N : Nat) (p0 : Nat) (p1 : Int32) (p2 : Int32) (p3 : Int32) (h : mh) : Option (mh × Int64) :=
  (fxX7_isSolid N p1 h).bind fun o1 =>
  if o1.2 = 0 then (
    some (o1.1, (-2000000000 : Int64))) else (
    if 0 ≤ p2 then (
      (kO o1.1 p0 7).bind fun f7 =>
      (fxX7_knows N p0 p1 (0 : Int32) o1.1).bind fun o5 =>
      (gR o5 p0 7 27).bind fun v9 =>
      (aI o5 v9 (0 : Int32)).bind fun v11 =>
      if p2 < v11 then (
        if p3 = (0 : Int32) then (
          (gR o5 p0 7 28).bind fun v15 =>
          (aJ o5 v15 p2).bind fun v17 =>
          some (o5, v17)) else (
          if p3 = (1 : Int32) then (
            (gR o5 p0 7 29).bind fun v20 =>
            (aJ o5 v20 p2).bind fun v22 =>
            some (o5, v22)) else (
            if p3 = (2 : Int32) then (
              (gR o5 p0 7 30).bind fun v25 =>
              (aJ o5 v25 p2).bind fun v27 =>
              some (o5, v27)) else (
              if p3 = (3 : Int32) then (
                (gR o5 p0 7 31).bind fun v30 =>
                (aJ o5 v30 p2).bind fun v32 =>
                some (o5, v32)) else (
                if p3 = (4 : Int32) then (
                  (gR o5 p0 7 32).bind fun v35 =>
                  (aI o5 v35 p2).bind fun v37 =>
                  some (o5, v37.toInt64)) else (
                  if p3 = (5 : Int32) then (
                    (kO o5 p0 7).bind fun f42 =>
                    (fxX7_area N p0 p2 o5).bind fun o40 =>
                    some (o40.1, o40.2)) else (
                    if p3 ≤ (5 : Int32) then (
                      some (o5, (-2000000000 : Int64))) else (
                      (gR o5 p0 7 32).bind fun v45 =>
                      (aI o5 v45 p2).bind fun v47 =>
                      if v47 ≤ (p3 - (6 : Int32)) then (
                        some (o5, (-2000000000 : Int64))) else (
                        (gR o5 p0 7 33).bind fun v50 =>
                        (aI o5 v50 ((((25 : Int32) * p2) + p3) - (6 : Int32))).bind fun v52 =>
                        some (o5, v52.toInt64)))))))))) else (
        some (o5, (-2000000000 : Int64)))) else (
      some (o1.1, (-2000000000 : Int64))))
set_option maxHeartbeats 4000000 in
set_option maxRecDepth 100000 in
theorem exX7_face {N : Nat} {p0 : Nat} {p1 : Int32} {p2 : Int32} {p3 : Int32} {h : mh} {o : (mh × Int64)} (hq : fxX7_face N p0 p1 p2 p3 h = some o) : mC mX7_face [.ref p0, .int p1, .int p2, .int p3] h (o.1, some (.long o.2)) := by
  refine mC_of okX7_face (Nat.le_of_ble_eq_true rfl) ?_
  unfold fxX7_face at hq
  show mB _ mX7_face (0, [(0, .ref p0), (1, .int p1), (2, .int p2), (3, .int p3)], [], h, 0, 0)
  refine mB_run odX7_face 1 (g := (1, [(0, .ref p0), (1, .int p1), (2, .int p2), (3, .int p3)], [.int p1], h, 0, 0)) rfl ?_
  obtain ⟨o1, e2, hq⟩ := bsm hq
  refine mB_S (as := [.int p1]) odX7_face okX7_isSolid lk_7_133 rfl (exX7_isSolid e2) rfl rfl rfl ?_
  show mB _ mX7_face (4, [(0, .ref p0), (1, .int p1), (2, .int p2), (3, .int p3)], [.int o1.2], o1.1, 0, 0)
  by_cases c3 : o1.2 = 0
  · rw [if_pos c3] at hq
    refine if_eq_T (t := 11) odX7_face rfl rfl c3 ?_
    refine mB_run odX7_face 1 (g := (14, [(0, .ref p0), (1, .int p1), (2, .int p2), (3, .int p3)], [.long (-2000000000 : Int64)], o1.1, 0, 0)) rfl ?_
    cases hq
    exact mB_ret odX7_face rfl
  · rw [if_neg c3] at hq
    refine if_eq_F (t := 11) odX7_face rfl rfl c3 ?_
    refine mB_run odX7_face 1 (g := (8, [(0, .ref p0), (1, .int p1), (2, .int p2), (3, .int p3)], [.int p2], o1.1, 0, 0)) rfl ?_
    by_cases c4 : 0 ≤ p2
    · rw [if_pos c4] at hq
      refine if_ge_T (t := 15) odX7_face rfl rfl c4 ?_
      refine mB_run odX7_face 3 (g := (18, [(0, .ref p0), (1, .int p1), (2, .int p2), (3, .int p3)], [.int (0 : Int32), .int p1, .ref p0], o1.1, 0, 0)) rfl ?_
      obtain ⟨f7, k8, hq⟩ := bsm hq
      obtain ⟨o5, e6, hq⟩ := bsm hq
      refine mB_V (as := [.int p1, .int (0 : Int32)]) odX7_face okX7_knows lk_7_244 rfl (exX7_knows e6) (kO_at k8) rfl rfl rfl ?_
      show mB _ mX7_face (21, [(0, .ref p0), (1, .int p1), (2, .int p2), (3, .int p3)], [], o5, 0, 0)
      refine mB_run odX7_face 2 (g := (23, [(0, .ref p0), (1, .int p1), (2, .int p2), (3, .int p3)], [.ref p0, .int p2], o5, 0, 0)) rfl ?_
      obtain ⟨v9, e10, hq⟩ := bsm hq
      refine r_gR odX7_face rfl rfl e10 ?_
      refine mB_run odX7_face 1 (g := (27, [(0, .ref p0), (1, .int p1), (2, .int p2), (3, .int p3)], [.int (0 : Int32), .ref v9, .int p2], o5, 0, 0)) rfl ?_
      obtain ⟨v11, e12, hq⟩ := bsm hq
      refine r_aI odX7_face rfl e12 ?_
      by_cases c13 : p2 < v11
      · rw [if_pos c13] at hq
        refine ic_lt_T (t := 35) odX7_face rfl rfl c13 ?_
        refine mB_run odX7_face 1 (g := (36, [(0, .ref p0), (1, .int p1), (2, .int p2), (3, .int p3)], [.int p3], o5, 0, 0)) rfl ?_
        by_cases c14 : p3 = (0 : Int32)
        · rw [if_pos c14] at hq
          refine r_tab odX7_face rfl c14 (t := 76) rfl ?_
          refine mB_run odX7_face 1 (g := (77, [(0, .ref p0), (1, .int p1), (2, .int p2), (3, .int p3)], [.ref p0], o5, 0, 0)) rfl ?_
          obtain ⟨v15, e16, hq⟩ := bsm hq
          refine r_gR odX7_face rfl rfl e16 ?_
          refine mB_run odX7_face 1 (g := (81, [(0, .ref p0), (1, .int p1), (2, .int p2), (3, .int p3)], [.int p2, .ref v15], o5, 0, 0)) rfl ?_
          obtain ⟨v17, e18, hq⟩ := bsm hq
          refine r_aJ odX7_face rfl e18 ?_
          cases hq
          exact mB_ret odX7_face rfl
        · rw [if_neg c14] at hq
          by_cases c19 : p3 = (1 : Int32)
          · rw [if_pos c19] at hq
            refine r_tab odX7_face rfl c19 (t := 83) rfl ?_
            refine mB_run odX7_face 1 (g := (84, [(0, .ref p0), (1, .int p1), (2, .int p2), (3, .int p3)], [.ref p0], o5, 0, 0)) rfl ?_
            obtain ⟨v20, e21, hq⟩ := bsm hq
            refine r_gR odX7_face rfl rfl e21 ?_
            refine mB_run odX7_face 1 (g := (88, [(0, .ref p0), (1, .int p1), (2, .int p2), (3, .int p3)], [.int p2, .ref v20], o5, 0, 0)) rfl ?_
            obtain ⟨v22, e23, hq⟩ := bsm hq
            refine r_aJ odX7_face rfl e23 ?_
            cases hq
            exact mB_ret odX7_face rfl
          · rw [if_neg c19] at hq
            by_cases c24 : p3 = (2 : Int32)
            · rw [if_pos c24] at hq
              refine r_tab odX7_face rfl c24 (t := 90) rfl ?_
              refine mB_run odX7_face 1 (g := (91, [(0, .ref p0), (1, .int p1), (2, .int p2), (3, .int p3)], [.ref p0], o5, 0, 0)) rfl ?_
              obtain ⟨v25, e26, hq⟩ := bsm hq
              refine r_gR odX7_face rfl rfl e26 ?_
              refine mB_run odX7_face 1 (g := (95, [(0, .ref p0), (1, .int p1), (2, .int p2), (3, .int p3)], [.int p2, .ref v25], o5, 0, 0)) rfl ?_
              obtain ⟨v27, e28, hq⟩ := bsm hq
              refine r_aJ odX7_face rfl e28 ?_
              cases hq
              exact mB_ret odX7_face rfl
            · rw [if_neg c24] at hq
              by_cases c29 : p3 = (3 : Int32)
              · rw [if_pos c29] at hq
                refine r_tab odX7_face rfl c29 (t := 97) rfl ?_
                refine mB_run odX7_face 1 (g := (98, [(0, .ref p0), (1, .int p1), (2, .int p2), (3, .int p3)], [.ref p0], o5, 0, 0)) rfl ?_
                obtain ⟨v30, e31, hq⟩ := bsm hq
                refine r_gR odX7_face rfl rfl e31 ?_
                refine mB_run odX7_face 1 (g := (102, [(0, .ref p0), (1, .int p1), (2, .int p2), (3, .int p3)], [.int p2, .ref v30], o5, 0, 0)) rfl ?_
                obtain ⟨v32, e33, hq⟩ := bsm hq
                refine r_aJ odX7_face rfl e33 ?_
                cases hq
                exact mB_ret odX7_face rfl
              · rw [if_neg c29] at hq
                by_cases c34 : p3 = (4 : Int32)
                · rw [if_pos c34] at hq
                  refine r_tab odX7_face rfl c34 (t := 104) rfl ?_
                  refine mB_run odX7_face 1 (g := (105, [(0, .ref p0), (1, .int p1), (2, .int p2), (3, .int p3)], [.ref p0], o5, 0, 0)) rfl ?_
                  obtain ⟨v35, e36, hq⟩ := bsm hq
                  refine r_gR odX7_face rfl rfl e36 ?_
                  refine mB_run odX7_face 1 (g := (109, [(0, .ref p0), (1, .int p1), (2, .int p2), (3, .int p3)], [.int p2, .ref v35], o5, 0, 0)) rfl ?_
                  obtain ⟨v37, e38, hq⟩ := bsm hq
                  refine r_aI odX7_face rfl e38 ?_
                  refine mB_run odX7_face 1 (g := (111, [(0, .ref p0), (1, .int p1), (2, .int p2), (3, .int p3)], [.long v37.toInt64], o5, 0, 0)) rfl ?_
                  cases hq
                  exact mB_ret odX7_face rfl
                · rw [if_neg c34] at hq
                  by_cases c39 : p3 = (5 : Int32)
                  · rw [if_pos c39] at hq
                    refine r_tab odX7_face rfl c39 (t := 112) rfl ?_
                    refine mB_run odX7_face 2 (g := (114, [(0, .ref p0), (1, .int p1), (2, .int p2), (3, .int p3)], [.int p2, .ref p0], o5, 0, 0)) rfl ?_
                    obtain ⟨f42, k43, hq⟩ := bsm hq
                    obtain ⟨o40, e41, hq⟩ := bsm hq
                    refine mB_V (as := [.int p2]) odX7_face okX7_area lk_7_250 rfl (exX7_area e41) (kO_at k43) rfl rfl rfl ?_
                    show mB _ mX7_face (117, [(0, .ref p0), (1, .int p1), (2, .int p2), (3, .int p3)], [.long o40.2], o40.1, 0, 0)
                    cases hq
                    exact mB_ret odX7_face rfl
                  · rw [if_neg c39] at hq
                    refine r_tabd odX7_face rfl (t := 118) (by omega) (ts_out6 c14 c19 c24 c29 c34 c39) ?_
                    refine mB_run odX7_face 2 (g := (120, [(0, .ref p0), (1, .int p1), (2, .int p2), (3, .int p3)], [.int (5 : Int32), .int p3], o5, 0, 0)) rfl ?_
                    by_cases c44 : p3 ≤ (5 : Int32)
                    · rw [if_pos c44] at hq
                      refine ic_le_T (t := 154) odX7_face rfl rfl c44 ?_
                      refine mB_run odX7_face 1 (g := (157, [(0, .ref p0), (1, .int p1), (2, .int p2), (3, .int p3)], [.long (-2000000000 : Int64)], o5, 0, 0)) rfl ?_
                      cases hq
                      exact mB_ret odX7_face rfl
                    · rw [if_neg c44] at hq
                      refine ic_le_F (t := 154) odX7_face rfl rfl c44 ?_
                      refine mB_run odX7_face 4 (g := (128, [(0, .ref p0), (1, .int p1), (2, .int p2), (3, .int p3)], [.ref p0, .int (p3 - (6 : Int32))], o5, 0, 0)) rfl ?_
                      obtain ⟨v45, e46, hq⟩ := bsm hq
                      refine r_gR odX7_face rfl rfl e46 ?_
                      refine mB_run odX7_face 1 (g := (132, [(0, .ref p0), (1, .int p1), (2, .int p2), (3, .int p3)], [.int p2, .ref v45, .int (p3 - (6 : Int32))], o5, 0, 0)) rfl ?_
                      obtain ⟨v47, e48, hq⟩ := bsm hq
                      refine r_aI odX7_face rfl e48 ?_
                      by_cases c49 : v47 ≤ (p3 - (6 : Int32))
                      · rw [if_pos c49] at hq
                        refine ic_ge_T (t := 154) odX7_face rfl rfl c49 ?_
                        refine mB_run odX7_face 1 (g := (157, [(0, .ref p0), (1, .int p1), (2, .int p2), (3, .int p3)], [.long (-2000000000 : Int64)], o5, 0, 0)) rfl ?_
                        cases hq
                        exact mB_ret odX7_face rfl
                      · rw [if_neg c49] at hq
                        refine ic_ge_F (t := 154) odX7_face rfl rfl c49 ?_
                        refine mB_run odX7_face 1 (g := (137, [(0, .ref p0), (1, .int p1), (2, .int p2), (3, .int p3)], [.ref p0], o5, 0, 0)) rfl ?_
                        obtain ⟨v50, e51, hq⟩ := bsm hq
                        refine r_gR odX7_face rfl rfl e51 ?_
                        refine mB_run odX7_face 7 (g := (149, [(0, .ref p0), (1, .int p1), (2, .int p2), (3, .int p3)], [.int ((((25 : Int32) * p2) + p3) - (6 : Int32)), .ref v50], o5, 0, 0)) rfl ?_
                        obtain ⟨v52, e53, hq⟩ := bsm hq
                        refine r_aI odX7_face rfl e53 ?_
                        refine mB_run odX7_face 2 (g := (157, [(0, .ref p0), (1, .int p1), (2, .int p2), (3, .int p3)], [.long v52.toInt64], o5, 0, 0)) rfl ?_
                        cases hq
                        exact mB_ret odX7_face rfl
      · rw [if_neg c13] at hq
        refine ic_lt_F (t := 35) odX7_face rfl rfl c13 ?_
        refine mB_run odX7_face 1 (g := (34, [(0, .ref p0), (1, .int p1), (2, .int p2), (3, .int p3)], [.long (-2000000000 : Int64)], o5, 0, 0)) rfl ?_
        cases hq
        exact mB_ret odX7_face rfl
    · rw [if_neg c4] at hq
      refine if_ge_F (t := 15) odX7_face rfl rfl c4 ?_
      refine mB_run odX7_face 1 (g := (14, [(0, .ref p0), (1, .int p1), (2, .int p2), (3, .int p3)], [.long (-2000000000 : Int64)], o1.1, 0, 0)) rfl ?_
      cases hq
      exact mB_ret odX7_face rfl
def fxX7_overFace (N : Nat) (p0 : Nat) (p1 : Int32) (h : mh) : Option (mh × Int64) :=
  (gR h p0 7 28).bind fun v1 =>
  (aJ h v1 p1).bind fun v3 =>
  (gJ h p0 7 39).bind fun v5 =>
  (gR h p0 7 29).bind fun v7 =>
  (aJ h v7 p1).bind fun v9 =>
  (gJ h p0 7 40).bind fun v11 =>
  (gR h p0 7 30).bind fun v13 =>
  (aJ h v13 p1).bind fun v15 =>
  (gJ h p0 7 41).bind fun v17 =>
  (gR h p0 7 31).bind fun v19 =>
  (aJ h v19 p1).bind fun v21 =>
  (gJ h p0 7 42).bind fun v23 =>
  some (h, ((((v3 * v5) + (v9 * v11)) + (v15 * v17)) - (v21 * v23)))
set_option maxHeartbeats 4000000 in
set_option maxRecDepth 100000 in
theorem exX7_overFace {N : Nat} {p0 : Nat} {p1 : Int32} {h : mh} {o : (mh × Int64)} (hq : fxX7_overFace N p0 p1 h = some o) : mC mX7_overFace [.ref p0, .int p1] h (o.1, some (.long o.2)) := by
  refine mC_of okX7_overFace (Nat.le_of_ble_eq_true rfl) ?_
  unfold fxX7_overFace at hq
  show mB _ mX7_overFace (0, [(0, .ref p0), (1, .int p1)], [], h, 0, 0)
  refine mB_run odX7_overFace 1 (g := (1, [(0, .ref p0), (1, .int p1)], [.ref p0], h, 0, 0)) rfl ?_
  obtain ⟨v1, e2, hq⟩ := bsm hq
  refine r_gR odX7_overFace rfl rfl e2 ?_
  refine mB_run odX7_overFace 1 (g := (5, [(0, .ref p0), (1, .int p1)], [.int p1, .ref v1], h, 0, 0)) rfl ?_
  obtain ⟨v3, e4, hq⟩ := bsm hq
  refine r_aJ odX7_overFace rfl e4 ?_
  refine mB_run odX7_overFace 1 (g := (7, [(0, .ref p0), (1, .int p1)], [.ref p0, .long v3], h, 0, 0)) rfl ?_
  obtain ⟨v5, e6, hq⟩ := bsm hq
  refine r_gJ odX7_overFace rfl rfl e6 ?_
  refine mB_run odX7_overFace 2 (g := (12, [(0, .ref p0), (1, .int p1)], [.ref p0, .long (v3 * v5)], h, 0, 0)) rfl ?_
  obtain ⟨v7, e8, hq⟩ := bsm hq
  refine r_gR odX7_overFace rfl rfl e8 ?_
  refine mB_run odX7_overFace 1 (g := (16, [(0, .ref p0), (1, .int p1)], [.int p1, .ref v7, .long (v3 * v5)], h, 0, 0)) rfl ?_
  obtain ⟨v9, e10, hq⟩ := bsm hq
  refine r_aJ odX7_overFace rfl e10 ?_
  refine mB_run odX7_overFace 1 (g := (18, [(0, .ref p0), (1, .int p1)], [.ref p0, .long v9, .long (v3 * v5)], h, 0, 0)) rfl ?_
  obtain ⟨v11, e12, hq⟩ := bsm hq
  refine r_gJ odX7_overFace rfl rfl e12 ?_
  refine mB_run odX7_overFace 3 (g := (24, [(0, .ref p0), (1, .int p1)], [.ref p0, .long ((v3 * v5) + (v9 * v11))], h, 0, 0)) rfl ?_
  obtain ⟨v13, e14, hq⟩ := bsm hq
  refine r_gR odX7_overFace rfl rfl e14 ?_
  refine mB_run odX7_overFace 1 (g := (28, [(0, .ref p0), (1, .int p1)], [.int p1, .ref v13, .long ((v3 * v5) + (v9 * v11))], h, 0, 0)) rfl ?_
  obtain ⟨v15, e16, hq⟩ := bsm hq
  refine r_aJ odX7_overFace rfl e16 ?_
  refine mB_run odX7_overFace 1 (g := (30, [(0, .ref p0), (1, .int p1)], [.ref p0, .long v15, .long ((v3 * v5) + (v9 * v11))], h, 0, 0)) rfl ?_
  obtain ⟨v17, e18, hq⟩ := bsm hq
  refine r_gJ odX7_overFace rfl rfl e18 ?_
  refine mB_run odX7_overFace 3 (g := (36, [(0, .ref p0), (1, .int p1)], [.ref p0, .long (((v3 * v5) + (v9 * v11)) + (v15 * v17))], h, 0, 0)) rfl ?_
  obtain ⟨v19, e20, hq⟩ := bsm hq
  refine r_gR odX7_overFace rfl rfl e20 ?_
  refine mB_run odX7_overFace 1 (g := (40, [(0, .ref p0), (1, .int p1)], [.int p1, .ref v19, .long (((v3 * v5) + (v9 * v11)) + (v15 * v17))], h, 0, 0)) rfl ?_
  obtain ⟨v21, e22, hq⟩ := bsm hq
  refine r_aJ odX7_overFace rfl e22 ?_
  refine mB_run odX7_overFace 1 (g := (42, [(0, .ref p0), (1, .int p1)], [.ref p0, .long v21, .long (((v3 * v5) + (v9 * v11)) + (v15 * v17))], h, 0, 0)) rfl ?_
  obtain ⟨v23, e24, hq⟩ := bsm hq
  refine r_gJ odX7_overFace rfl rfl e24 ?_
  refine mB_run odX7_overFace 2 (g := (47, [(0, .ref p0), (1, .int p1)], [.long ((((v3 * v5) + (v9 * v11)) + (v15 * v17)) - (v21 * v23))], h, 0, 0)) rfl ?_
  cases hq
  exact mB_ret odX7_overFace rfl
def fxX7_owns_18 (N : Nat) : Nat → Nat → Int32 → Int32 → mh → Option mh
  | 0, _, _, _, _ => none
  | n + 1, x0, x2, x3, h =>
    (gI h x0 7 15).bind fun v11 =>
    if v11 ≤ x3 then (
      some h) else (
      (gR h x0 7 43).bind fun v14 =>
      (gR h x0 7 16).bind fun v16 =>
      (aJ h v16 x3).bind fun v18 =>
      (wJ h v14 (((24 : Int32) * x2) + x3) v18).bind fun h20 =>
      (gR h20 x0 7 44).bind fun v22 =>
      (gR h20 x0 7 17).bind fun v24 =>
      (aJ h20 v24 x3).bind fun v26 =>
      (wJ h20 v22 (((24 : Int32) * x2) + x3) v26).bind fun h28 =>
      (gR h28 x0 7 45).bind fun v30 =>
      (gR h28 x0 7 18).bind fun v32 =>
      (aJ h28 v32 x3).bind fun v34 =>
      (wJ h28 v30 (((24 : Int32) * x2) + x3) v34).bind fun h36 =>
      fxX7_owns_18 N n x0 x2 (x3 + (1 : Int32)) h36)
set_option maxHeartbeats 4000000 in
set_option maxRecDepth 100000 in
theorem exX7_owns_18 {N : Nat} : ∀ (n : Nat) (x0 : Nat) (x2 : Int32) (x3 : Int32) (h : mh) {o : mh}, fxX7_owns_18 N n x0 x2 x3 h = some o → mB (gO mX7_owns (o, none)) mX7_owns (18, [(0, .ref x0), (2, .int x2), (3, .int x3)], [], h, 0, 0) := by
  intro n
  induction n with
  | zero => intro x0 x2 x3 h o hq; cases hq
  | succ n ih =>
    intro x0 x2 x3 h o hq
    unfold fxX7_owns_18 at hq
    refine mB_run odX7_owns 2 (g := (20, [(0, .ref x0), (2, .int x2), (3, .int x3)], [.ref x0, .int x3], h, 0, 0)) rfl ?_
    obtain ⟨v11, e12, hq⟩ := bsm hq
    refine r_gI odX7_owns rfl rfl e12 ?_
    by_cases c13 : v11 ≤ x3
    · rw [if_pos c13] at hq
      refine ic_ge_T (t := 83) odX7_owns rfl rfl c13 ?_
      cases hq
      exact mB_ret odX7_owns rfl
    · rw [if_neg c13] at hq
      refine ic_ge_F (t := 83) odX7_owns rfl rfl c13 ?_
      refine mB_run odX7_owns 1 (g := (27, [(0, .ref x0), (2, .int x2), (3, .int x3)], [.ref x0], h, 0, 0)) rfl ?_
      obtain ⟨v14, e15, hq⟩ := bsm hq
      refine r_gR odX7_owns rfl rfl e15 ?_
      refine mB_run odX7_owns 6 (g := (37, [(0, .ref x0), (2, .int x2), (3, .int x3)], [.ref x0, .int (((24 : Int32) * x2) + x3), .ref v14], h, 0, 0)) rfl ?_
      obtain ⟨v16, e17, hq⟩ := bsm hq
      refine r_gR odX7_owns rfl rfl e17 ?_
      refine mB_run odX7_owns 1 (g := (41, [(0, .ref x0), (2, .int x2), (3, .int x3)], [.int x3, .ref v16, .int (((24 : Int32) * x2) + x3), .ref v14], h, 0, 0)) rfl ?_
      obtain ⟨v18, e19, hq⟩ := bsm hq
      refine r_aJ odX7_owns rfl e19 ?_
      obtain ⟨h20, e21, hq⟩ := bsm hq
      refine r_wJ odX7_owns rfl e21 ?_
      refine mB_run odX7_owns 1 (g := (44, [(0, .ref x0), (2, .int x2), (3, .int x3)], [.ref x0], h20, 0, 0)) rfl ?_
      obtain ⟨v22, e23, hq⟩ := bsm hq
      refine r_gR odX7_owns rfl rfl e23 ?_
      refine mB_run odX7_owns 6 (g := (54, [(0, .ref x0), (2, .int x2), (3, .int x3)], [.ref x0, .int (((24 : Int32) * x2) + x3), .ref v22], h20, 0, 0)) rfl ?_
      obtain ⟨v24, e25, hq⟩ := bsm hq
      refine r_gR odX7_owns rfl rfl e25 ?_
      refine mB_run odX7_owns 1 (g := (58, [(0, .ref x0), (2, .int x2), (3, .int x3)], [.int x3, .ref v24, .int (((24 : Int32) * x2) + x3), .ref v22], h20, 0, 0)) rfl ?_
      obtain ⟨v26, e27, hq⟩ := bsm hq
      refine r_aJ odX7_owns rfl e27 ?_
      obtain ⟨h28, e29, hq⟩ := bsm hq
      refine r_wJ odX7_owns rfl e29 ?_
      refine mB_run odX7_owns 1 (g := (61, [(0, .ref x0), (2, .int x2), (3, .int x3)], [.ref x0], h28, 0, 0)) rfl ?_
      obtain ⟨v30, e31, hq⟩ := bsm hq
      refine r_gR odX7_owns rfl rfl e31 ?_
      refine mB_run odX7_owns 6 (g := (71, [(0, .ref x0), (2, .int x2), (3, .int x3)], [.ref x0, .int (((24 : Int32) * x2) + x3), .ref v30], h28, 0, 0)) rfl ?_
      obtain ⟨v32, e33, hq⟩ := bsm hq
      refine r_gR odX7_owns rfl rfl e33 ?_
      refine mB_run odX7_owns 1 (g := (75, [(0, .ref x0), (2, .int x2), (3, .int x3)], [.int x3, .ref v32, .int (((24 : Int32) * x2) + x3), .ref v30], h28, 0, 0)) rfl ?_
      obtain ⟨v34, e35, hq⟩ := bsm hq
      refine r_aJ odX7_owns rfl e35 ?_
      obtain ⟨h36, e37, hq⟩ := bsm hq
      refine r_wJ odX7_owns rfl e37 ?_
      refine mB_run odX7_owns 2 (g := (18, [(3, .int (x3 + (1 : Int32))), (0, .ref x0), (2, .int x2)], [], h36, 0, 0)) rfl ?_
      refine mB_lv [1, 2, 0] (lv' := [(0, .ref x0), (2, .int x2), (3, .int (x3 + (1 : Int32)))]) rfl ?_
      exact ih _ _ _ _ hq
def fxX7_owns (N : Nat) (p0 : Nat) (p1 : Int32) (p2 : Int32) (h : mh) : Option mh :=
  (kO h p0 7).bind fun f3 =>
  (fxX7_knows N p0 p1 p2 h).bind fun o1 =>
  (gR o1 p0 7 46).bind fun v5 =>
  (gI o1 p0 7 15).bind fun v7 =>
  (wI o1 v5 p2 v7).bind fun h9 =>
  fxX7_owns_18 N N p0 p2 (0 : Int32) h9
set_option maxHeartbeats 4000000 in
set_option maxRecDepth 100000 in
theorem exX7_owns {N : Nat} {p0 : Nat} {p1 : Int32} {p2 : Int32} {h : mh} {o : mh} (hq : fxX7_owns N p0 p1 p2 h = some o) : mC mX7_owns [.ref p0, .int p1, .int p2] h (o, none) := by
  refine mC_of okX7_owns (Nat.le_of_ble_eq_true rfl) ?_
  unfold fxX7_owns at hq
  show mB _ mX7_owns (0, [(0, .ref p0), (1, .int p1), (2, .int p2)], [], h, 0, 0)
  refine mB_run odX7_owns 3 (g := (3, [(0, .ref p0), (1, .int p1), (2, .int p2)], [.int p2, .int p1, .ref p0], h, 0, 0)) rfl ?_
  obtain ⟨f3, k4, hq⟩ := bsm hq
  obtain ⟨o1, e2, hq⟩ := bsm hq
  refine mB_V (as := [.int p1, .int p2]) odX7_owns okX7_knows lk_7_244 rfl (exX7_knows e2) (kO_at k4) rfl rfl rfl ?_
  show mB _ mX7_owns (6, [(0, .ref p0), (1, .int p1), (2, .int p2)], [], o1, 0, 0)
  refine mB_run odX7_owns 1 (g := (7, [(0, .ref p0), (1, .int p1), (2, .int p2)], [.ref p0], o1, 0, 0)) rfl ?_
  obtain ⟨v5, e6, hq⟩ := bsm hq
  refine r_gR odX7_owns rfl rfl e6 ?_
  refine mB_run odX7_owns 2 (g := (12, [(0, .ref p0), (1, .int p1), (2, .int p2)], [.ref p0, .int p2, .ref v5], o1, 0, 0)) rfl ?_
  obtain ⟨v7, e8, hq⟩ := bsm hq
  refine r_gI odX7_owns rfl rfl e8 ?_
  obtain ⟨h9, e10, hq⟩ := bsm hq
  refine r_wI odX7_owns rfl e10 ?_
  refine mB_run odX7_owns 2 (g := (18, [(3, .int (0 : Int32)), (0, .ref p0), (1, .int p1), (2, .int p2)], [], h9, 0, 0)) rfl ?_
  refine mB_lv [1, 3, 0] (lv' := [(0, .ref p0), (2, .int p2), (3, .int (0 : Int32))]) rfl ?_
  exact exX7_owns_18 N _ _ _ _ hq
def fxX7_isOver_10 (N : Nat) : Nat → Nat → Int32 → Int32 → Int32 → Int32 → mh → Option (mh × Int32)
  | 0, _, _, _, _, _, _ => none
  | n + 1, x0, x1, x2, x3, x4, h =>
    if x3 ≤ x4 then (
      some (h, (1 : Int32))) else (
      (gR h x0 7 33).bind fun v6 =>
      (aI h v6 (((25 : Int32) * x2) + x4)).bind fun v8 =>
      (gR h x0 7 33).bind fun v10 =>
      if x3 = 0 then none else
      (aI h v10 (((25 : Int32) * x2) + ((x4 + (1 : Int32)) - (x4 + (1 : Int32)) / x3 * x3))).bind fun v13 =>
      (gR h x0 7 43).bind fun v15 =>
      (aJ h v15 (((24 : Int32) * x1) + v13)).bind fun v17 =>
      (gR h x0 7 43).bind fun v19 =>
      (aJ h v19 (((24 : Int32) * x1) + v8)).bind fun v21 =>
      (gR h x0 7 44).bind fun v23 =>
      (aJ h v23 (((24 : Int32) * x1) + v13)).bind fun v25 =>
      (gR h x0 7 44).bind fun v27 =>
      (aJ h v27 (((24 : Int32) * x1) + v8)).bind fun v29 =>
      (gR h x0 7 45).bind fun v31 =>
      (aJ h v31 (((24 : Int32) * x1) + v13)).bind fun v33 =>
      (gR h x0 7 45).bind fun v35 =>
      (aJ h v35 (((24 : Int32) * x1) + v8)).bind fun v37 =>
      (gJ h x0 7 39).bind fun v39 =>
      (gJ h x0 7 42).bind fun v41 =>
      (gR h x0 7 43).bind fun v43 =>
      (aJ h v43 (((24 : Int32) * x1) + v8)).bind fun v45 =>
      (gJ h x0 7 40).bind fun v47 =>
      (gJ h x0 7 42).bind fun v49 =>
      (gR h x0 7 44).bind fun v51 =>
      (aJ h v51 (((24 : Int32) * x1) + v8)).bind fun v53 =>
      (gJ h x0 7 41).bind fun v55 =>
      (gJ h x0 7 42).bind fun v57 =>
      (gR h x0 7 45).bind fun v59 =>
      (aJ h v59 (((24 : Int32) * x1) + v8)).bind fun v61 =>
      (gR h x0 7 28).bind fun v63 =>
      (aJ h v63 x2).bind fun v65 =>
      (gR h x0 7 29).bind fun v67 =>
      (aJ h v67 x2).bind fun v69 =>
      (gR h x0 7 30).bind fun v71 =>
      (aJ h v71 x2).bind fun v73 =>
      if (0 : Int64) ≤ ((((((v25 - v29) * (v55 - (v57 * v61))) - ((v33 - v37) * (v47 - (v49 * v53)))) * v65) + ((((v33 - v37) * (v39 - (v41 * v45))) - ((v17 - v21) * (v55 - (v57 * v61)))) * v69)) + ((((v17 - v21) * (v47 - (v49 * v53))) - ((v25 - v29) * (v39 - (v41 * v45)))) * v73)) then (
        fxX7_isOver_10 N n x0 x1 x2 x3 (x4 + (1 : Int32)) h) else (
        some (h, (0 : Int32))))
set_option maxHeartbeats 4000000 in
set_option maxRecDepth 100000 in
theorem exX7_isOver_10 {N : Nat} : ∀ (n : Nat) (x0 : Nat) (x1 : Int32) (x2 : Int32) (x3 : Int32) (x4 : Int32) (h : mh) {o : (mh × Int32)}, fxX7_isOver_10 N n x0 x1 x2 x3 x4 h = some o → mB (gO mX7_isOver (o.1, some (.int o.2))) mX7_isOver (10, [(0, .ref x0), (1, .int x1), (2, .int x2), (3, .int x3), (4, .int x4)], [], h, 0, 0) := by
  intro n
  induction n with
  | zero => intro x0 x1 x2 x3 x4 h o hq; cases hq
  | succ n ih =>
    intro x0 x1 x2 x3 x4 h o hq
    unfold fxX7_isOver_10 at hq
    refine mB_run odX7_isOver 2 (g := (13, [(0, .ref x0), (1, .int x1), (2, .int x2), (3, .int x3), (4, .int x4)], [.int x3, .int x4], h, 0, 0)) rfl ?_
    by_cases c5 : x3 ≤ x4
    · rw [if_pos c5] at hq
      refine ic_ge_T (t := 239) odX7_isOver rfl rfl c5 ?_
      refine mB_run odX7_isOver 1 (g := (240, [(0, .ref x0), (1, .int x1), (2, .int x2), (3, .int x3), (4, .int x4)], [.int (1 : Int32)], h, 0, 0)) rfl ?_
      cases hq
      exact mB_ret odX7_isOver rfl
    · rw [if_neg c5] at hq
      refine ic_ge_F (t := 239) odX7_isOver rfl rfl c5 ?_
      refine mB_run odX7_isOver 4 (g := (21, [(0, .ref x0), (1, .int x1), (2, .int x2), (3, .int x3), (4, .int x4)], [.ref x0, .int ((24 : Int32) * x1)], h, 0, 0)) rfl ?_
      obtain ⟨v6, e7, hq⟩ := bsm hq
      refine r_gR odX7_isOver rfl rfl e7 ?_
      refine mB_run odX7_isOver 5 (g := (31, [(0, .ref x0), (1, .int x1), (2, .int x2), (3, .int x3), (4, .int x4)], [.int (((25 : Int32) * x2) + x4), .ref v6, .int ((24 : Int32) * x1)], h, 0, 0)) rfl ?_
      obtain ⟨v8, e9, hq⟩ := bsm hq
      refine r_aI odX7_isOver rfl e9 ?_
      refine mB_run odX7_isOver 6 (g := (40, [(5, .int (((24 : Int32) * x1) + v8)), (0, .ref x0), (1, .int x1), (2, .int x2), (3, .int x3), (4, .int x4)], [.ref x0, .int ((24 : Int32) * x1)], h, 0, 0)) rfl ?_
      obtain ⟨v10, e11, hq⟩ := bsm hq
      refine r_gR odX7_isOver rfl rfl e11 ?_
      refine mB_run odX7_isOver 7 (g := (52, [(5, .int (((24 : Int32) * x1) + v8)), (0, .ref x0), (1, .int x1), (2, .int x2), (3, .int x3), (4, .int x4)], [.int x3, .int (x4 + (1 : Int32)), .int ((25 : Int32) * x2), .ref v10, .int ((24 : Int32) * x1)], h, 0, 0)) rfl ?_
      by_cases c12 : x3 = 0
      · rw [if_pos c12] at hq; cases hq
      rw [if_neg c12] at hq
      refine r_irem odX7_isOver rfl c12 ?_
      refine mB_run odX7_isOver 1 (g := (54, [(5, .int (((24 : Int32) * x1) + v8)), (0, .ref x0), (1, .int x1), (2, .int x2), (3, .int x3), (4, .int x4)], [.int (((25 : Int32) * x2) + ((x4 + (1 : Int32)) - (x4 + (1 : Int32)) / x3 * x3)), .ref v10, .int ((24 : Int32) * x1)], h, 0, 0)) rfl ?_
      obtain ⟨v13, e14, hq⟩ := bsm hq
      refine r_aI odX7_isOver rfl e14 ?_
      refine mB_run odX7_isOver 3 (g := (59, [(6, .int (((24 : Int32) * x1) + v13)), (5, .int (((24 : Int32) * x1) + v8)), (0, .ref x0), (1, .int x1), (2, .int x2), (3, .int x3), (4, .int x4)], [.ref x0], h, 0, 0)) rfl ?_
      obtain ⟨v15, e16, hq⟩ := bsm hq
      refine r_gR odX7_isOver rfl rfl e16 ?_
      refine mB_run odX7_isOver 1 (g := (64, [(6, .int (((24 : Int32) * x1) + v13)), (5, .int (((24 : Int32) * x1) + v8)), (0, .ref x0), (1, .int x1), (2, .int x2), (3, .int x3), (4, .int x4)], [.int (((24 : Int32) * x1) + v13), .ref v15], h, 0, 0)) rfl ?_
      obtain ⟨v17, e18, hq⟩ := bsm hq
      refine r_aJ odX7_isOver rfl e18 ?_
      refine mB_run odX7_isOver 1 (g := (66, [(6, .int (((24 : Int32) * x1) + v13)), (5, .int (((24 : Int32) * x1) + v8)), (0, .ref x0), (1, .int x1), (2, .int x2), (3, .int x3), (4, .int x4)], [.ref x0, .long v17], h, 0, 0)) rfl ?_
      obtain ⟨v19, e20, hq⟩ := bsm hq
      refine r_gR odX7_isOver rfl rfl e20 ?_
      refine mB_run odX7_isOver 1 (g := (71, [(6, .int (((24 : Int32) * x1) + v13)), (5, .int (((24 : Int32) * x1) + v8)), (0, .ref x0), (1, .int x1), (2, .int x2), (3, .int x3), (4, .int x4)], [.int (((24 : Int32) * x1) + v8), .ref v19, .long v17], h, 0, 0)) rfl ?_
      obtain ⟨v21, e22, hq⟩ := bsm hq
      refine r_aJ odX7_isOver rfl e22 ?_
      refine mB_run odX7_isOver 3 (g := (76, [(7, .long (v17 - v21)), (6, .int (((24 : Int32) * x1) + v13)), (5, .int (((24 : Int32) * x1) + v8)), (0, .ref x0), (1, .int x1), (2, .int x2), (3, .int x3), (4, .int x4)], [.ref x0], h, 0, 0)) rfl ?_
      obtain ⟨v23, e24, hq⟩ := bsm hq
      refine r_gR odX7_isOver rfl rfl e24 ?_
      refine mB_run odX7_isOver 1 (g := (81, [(7, .long (v17 - v21)), (6, .int (((24 : Int32) * x1) + v13)), (5, .int (((24 : Int32) * x1) + v8)), (0, .ref x0), (1, .int x1), (2, .int x2), (3, .int x3), (4, .int x4)], [.int (((24 : Int32) * x1) + v13), .ref v23], h, 0, 0)) rfl ?_
      obtain ⟨v25, e26, hq⟩ := bsm hq
      refine r_aJ odX7_isOver rfl e26 ?_
      refine mB_run odX7_isOver 1 (g := (83, [(7, .long (v17 - v21)), (6, .int (((24 : Int32) * x1) + v13)), (5, .int (((24 : Int32) * x1) + v8)), (0, .ref x0), (1, .int x1), (2, .int x2), (3, .int x3), (4, .int x4)], [.ref x0, .long v25], h, 0, 0)) rfl ?_
      obtain ⟨v27, e28, hq⟩ := bsm hq
      refine r_gR odX7_isOver rfl rfl e28 ?_
      refine mB_run odX7_isOver 1 (g := (88, [(7, .long (v17 - v21)), (6, .int (((24 : Int32) * x1) + v13)), (5, .int (((24 : Int32) * x1) + v8)), (0, .ref x0), (1, .int x1), (2, .int x2), (3, .int x3), (4, .int x4)], [.int (((24 : Int32) * x1) + v8), .ref v27, .long v25], h, 0, 0)) rfl ?_
      obtain ⟨v29, e30, hq⟩ := bsm hq
      refine r_aJ odX7_isOver rfl e30 ?_
      refine mB_run odX7_isOver 3 (g := (93, [(9, .long (v25 - v29)), (7, .long (v17 - v21)), (6, .int (((24 : Int32) * x1) + v13)), (5, .int (((24 : Int32) * x1) + v8)), (0, .ref x0), (1, .int x1), (2, .int x2), (3, .int x3), (4, .int x4)], [.ref x0], h, 0, 0)) rfl ?_
      obtain ⟨v31, e32, hq⟩ := bsm hq
      refine r_gR odX7_isOver rfl rfl e32 ?_
      refine mB_run odX7_isOver 1 (g := (98, [(9, .long (v25 - v29)), (7, .long (v17 - v21)), (6, .int (((24 : Int32) * x1) + v13)), (5, .int (((24 : Int32) * x1) + v8)), (0, .ref x0), (1, .int x1), (2, .int x2), (3, .int x3), (4, .int x4)], [.int (((24 : Int32) * x1) + v13), .ref v31], h, 0, 0)) rfl ?_
      obtain ⟨v33, e34, hq⟩ := bsm hq
      refine r_aJ odX7_isOver rfl e34 ?_
      refine mB_run odX7_isOver 1 (g := (100, [(9, .long (v25 - v29)), (7, .long (v17 - v21)), (6, .int (((24 : Int32) * x1) + v13)), (5, .int (((24 : Int32) * x1) + v8)), (0, .ref x0), (1, .int x1), (2, .int x2), (3, .int x3), (4, .int x4)], [.ref x0, .long v33], h, 0, 0)) rfl ?_
      obtain ⟨v35, e36, hq⟩ := bsm hq
      refine r_gR odX7_isOver rfl rfl e36 ?_
      refine mB_run odX7_isOver 1 (g := (105, [(9, .long (v25 - v29)), (7, .long (v17 - v21)), (6, .int (((24 : Int32) * x1) + v13)), (5, .int (((24 : Int32) * x1) + v8)), (0, .ref x0), (1, .int x1), (2, .int x2), (3, .int x3), (4, .int x4)], [.int (((24 : Int32) * x1) + v8), .ref v35, .long v33], h, 0, 0)) rfl ?_
      obtain ⟨v37, e38, hq⟩ := bsm hq
      refine r_aJ odX7_isOver rfl e38 ?_
      refine mB_run odX7_isOver 3 (g := (110, [(11, .long (v33 - v37)), (9, .long (v25 - v29)), (7, .long (v17 - v21)), (6, .int (((24 : Int32) * x1) + v13)), (5, .int (((24 : Int32) * x1) + v8)), (0, .ref x0), (1, .int x1), (2, .int x2), (3, .int x3), (4, .int x4)], [.ref x0], h, 0, 0)) rfl ?_
      obtain ⟨v39, e40, hq⟩ := bsm hq
      refine r_gJ odX7_isOver rfl rfl e40 ?_
      refine mB_run odX7_isOver 1 (g := (114, [(11, .long (v33 - v37)), (9, .long (v25 - v29)), (7, .long (v17 - v21)), (6, .int (((24 : Int32) * x1) + v13)), (5, .int (((24 : Int32) * x1) + v8)), (0, .ref x0), (1, .int x1), (2, .int x2), (3, .int x3), (4, .int x4)], [.ref x0, .long v39], h, 0, 0)) rfl ?_
      obtain ⟨v41, e42, hq⟩ := bsm hq
      refine r_gJ odX7_isOver rfl rfl e42 ?_
      refine mB_run odX7_isOver 1 (g := (118, [(11, .long (v33 - v37)), (9, .long (v25 - v29)), (7, .long (v17 - v21)), (6, .int (((24 : Int32) * x1) + v13)), (5, .int (((24 : Int32) * x1) + v8)), (0, .ref x0), (1, .int x1), (2, .int x2), (3, .int x3), (4, .int x4)], [.ref x0, .long v41, .long v39], h, 0, 0)) rfl ?_
      obtain ⟨v43, e44, hq⟩ := bsm hq
      refine r_gR odX7_isOver rfl rfl e44 ?_
      refine mB_run odX7_isOver 1 (g := (123, [(11, .long (v33 - v37)), (9, .long (v25 - v29)), (7, .long (v17 - v21)), (6, .int (((24 : Int32) * x1) + v13)), (5, .int (((24 : Int32) * x1) + v8)), (0, .ref x0), (1, .int x1), (2, .int x2), (3, .int x3), (4, .int x4)], [.int (((24 : Int32) * x1) + v8), .ref v43, .long v41, .long v39], h, 0, 0)) rfl ?_
      obtain ⟨v45, e46, hq⟩ := bsm hq
      refine r_aJ odX7_isOver rfl e46 ?_
      refine mB_run odX7_isOver 4 (g := (129, [(13, .long (v39 - (v41 * v45))), (11, .long (v33 - v37)), (9, .long (v25 - v29)), (7, .long (v17 - v21)), (6, .int (((24 : Int32) * x1) + v13)), (5, .int (((24 : Int32) * x1) + v8)), (0, .ref x0), (1, .int x1), (2, .int x2), (3, .int x3), (4, .int x4)], [.ref x0], h, 0, 0)) rfl ?_
      obtain ⟨v47, e48, hq⟩ := bsm hq
      refine r_gJ odX7_isOver rfl rfl e48 ?_
      refine mB_run odX7_isOver 1 (g := (133, [(13, .long (v39 - (v41 * v45))), (11, .long (v33 - v37)), (9, .long (v25 - v29)), (7, .long (v17 - v21)), (6, .int (((24 : Int32) * x1) + v13)), (5, .int (((24 : Int32) * x1) + v8)), (0, .ref x0), (1, .int x1), (2, .int x2), (3, .int x3), (4, .int x4)], [.ref x0, .long v47], h, 0, 0)) rfl ?_
      obtain ⟨v49, e50, hq⟩ := bsm hq
      refine r_gJ odX7_isOver rfl rfl e50 ?_
      refine mB_run odX7_isOver 1 (g := (137, [(13, .long (v39 - (v41 * v45))), (11, .long (v33 - v37)), (9, .long (v25 - v29)), (7, .long (v17 - v21)), (6, .int (((24 : Int32) * x1) + v13)), (5, .int (((24 : Int32) * x1) + v8)), (0, .ref x0), (1, .int x1), (2, .int x2), (3, .int x3), (4, .int x4)], [.ref x0, .long v49, .long v47], h, 0, 0)) rfl ?_
      obtain ⟨v51, e52, hq⟩ := bsm hq
      refine r_gR odX7_isOver rfl rfl e52 ?_
      refine mB_run odX7_isOver 1 (g := (142, [(13, .long (v39 - (v41 * v45))), (11, .long (v33 - v37)), (9, .long (v25 - v29)), (7, .long (v17 - v21)), (6, .int (((24 : Int32) * x1) + v13)), (5, .int (((24 : Int32) * x1) + v8)), (0, .ref x0), (1, .int x1), (2, .int x2), (3, .int x3), (4, .int x4)], [.int (((24 : Int32) * x1) + v8), .ref v51, .long v49, .long v47], h, 0, 0)) rfl ?_
      obtain ⟨v53, e54, hq⟩ := bsm hq
      refine r_aJ odX7_isOver rfl e54 ?_
      refine mB_run odX7_isOver 4 (g := (148, [(15, .long (v47 - (v49 * v53))), (13, .long (v39 - (v41 * v45))), (11, .long (v33 - v37)), (9, .long (v25 - v29)), (7, .long (v17 - v21)), (6, .int (((24 : Int32) * x1) + v13)), (5, .int (((24 : Int32) * x1) + v8)), (0, .ref x0), (1, .int x1), (2, .int x2), (3, .int x3), (4, .int x4)], [.ref x0], h, 0, 0)) rfl ?_
      obtain ⟨v55, e56, hq⟩ := bsm hq
      refine r_gJ odX7_isOver rfl rfl e56 ?_
      refine mB_run odX7_isOver 1 (g := (152, [(15, .long (v47 - (v49 * v53))), (13, .long (v39 - (v41 * v45))), (11, .long (v33 - v37)), (9, .long (v25 - v29)), (7, .long (v17 - v21)), (6, .int (((24 : Int32) * x1) + v13)), (5, .int (((24 : Int32) * x1) + v8)), (0, .ref x0), (1, .int x1), (2, .int x2), (3, .int x3), (4, .int x4)], [.ref x0, .long v55], h, 0, 0)) rfl ?_
      obtain ⟨v57, e58, hq⟩ := bsm hq
      refine r_gJ odX7_isOver rfl rfl e58 ?_
      refine mB_run odX7_isOver 1 (g := (156, [(15, .long (v47 - (v49 * v53))), (13, .long (v39 - (v41 * v45))), (11, .long (v33 - v37)), (9, .long (v25 - v29)), (7, .long (v17 - v21)), (6, .int (((24 : Int32) * x1) + v13)), (5, .int (((24 : Int32) * x1) + v8)), (0, .ref x0), (1, .int x1), (2, .int x2), (3, .int x3), (4, .int x4)], [.ref x0, .long v57, .long v55], h, 0, 0)) rfl ?_
      obtain ⟨v59, e60, hq⟩ := bsm hq
      refine r_gR odX7_isOver rfl rfl e60 ?_
      refine mB_run odX7_isOver 1 (g := (161, [(15, .long (v47 - (v49 * v53))), (13, .long (v39 - (v41 * v45))), (11, .long (v33 - v37)), (9, .long (v25 - v29)), (7, .long (v17 - v21)), (6, .int (((24 : Int32) * x1) + v13)), (5, .int (((24 : Int32) * x1) + v8)), (0, .ref x0), (1, .int x1), (2, .int x2), (3, .int x3), (4, .int x4)], [.int (((24 : Int32) * x1) + v8), .ref v59, .long v57, .long v55], h, 0, 0)) rfl ?_
      obtain ⟨v61, e62, hq⟩ := bsm hq
      refine r_aJ odX7_isOver rfl e62 ?_
      refine mB_run odX7_isOver 11 (g := (178, [(17, .long (v55 - (v57 * v61))), (15, .long (v47 - (v49 * v53))), (13, .long (v39 - (v41 * v45))), (11, .long (v33 - v37)), (9, .long (v25 - v29)), (7, .long (v17 - v21)), (6, .int (((24 : Int32) * x1) + v13)), (5, .int (((24 : Int32) * x1) + v8)), (0, .ref x0), (1, .int x1), (2, .int x2), (3, .int x3), (4, .int x4)], [.ref x0, .long (((v25 - v29) * (v55 - (v57 * v61))) - ((v33 - v37) * (v47 - (v49 * v53))))], h, 0, 0)) rfl ?_
      obtain ⟨v63, e64, hq⟩ := bsm hq
      refine r_gR odX7_isOver rfl rfl e64 ?_
      refine mB_run odX7_isOver 1 (g := (182, [(17, .long (v55 - (v57 * v61))), (15, .long (v47 - (v49 * v53))), (13, .long (v39 - (v41 * v45))), (11, .long (v33 - v37)), (9, .long (v25 - v29)), (7, .long (v17 - v21)), (6, .int (((24 : Int32) * x1) + v13)), (5, .int (((24 : Int32) * x1) + v8)), (0, .ref x0), (1, .int x1), (2, .int x2), (3, .int x3), (4, .int x4)], [.int x2, .ref v63, .long (((v25 - v29) * (v55 - (v57 * v61))) - ((v33 - v37) * (v47 - (v49 * v53))))], h, 0, 0)) rfl ?_
      obtain ⟨v65, e66, hq⟩ := bsm hq
      refine r_aJ odX7_isOver rfl e66 ?_
      refine mB_run odX7_isOver 9 (g := (196, [(17, .long (v55 - (v57 * v61))), (15, .long (v47 - (v49 * v53))), (13, .long (v39 - (v41 * v45))), (11, .long (v33 - v37)), (9, .long (v25 - v29)), (7, .long (v17 - v21)), (6, .int (((24 : Int32) * x1) + v13)), (5, .int (((24 : Int32) * x1) + v8)), (0, .ref x0), (1, .int x1), (2, .int x2), (3, .int x3), (4, .int x4)], [.ref x0, .long (((v33 - v37) * (v39 - (v41 * v45))) - ((v17 - v21) * (v55 - (v57 * v61)))), .long ((((v25 - v29) * (v55 - (v57 * v61))) - ((v33 - v37) * (v47 - (v49 * v53)))) * v65)], h, 0, 0)) rfl ?_
      obtain ⟨v67, e68, hq⟩ := bsm hq
      refine r_gR odX7_isOver rfl rfl e68 ?_
      refine mB_run odX7_isOver 1 (g := (200, [(17, .long (v55 - (v57 * v61))), (15, .long (v47 - (v49 * v53))), (13, .long (v39 - (v41 * v45))), (11, .long (v33 - v37)), (9, .long (v25 - v29)), (7, .long (v17 - v21)), (6, .int (((24 : Int32) * x1) + v13)), (5, .int (((24 : Int32) * x1) + v8)), (0, .ref x0), (1, .int x1), (2, .int x2), (3, .int x3), (4, .int x4)], [.int x2, .ref v67, .long (((v33 - v37) * (v39 - (v41 * v45))) - ((v17 - v21) * (v55 - (v57 * v61)))), .long ((((v25 - v29) * (v55 - (v57 * v61))) - ((v33 - v37) * (v47 - (v49 * v53)))) * v65)], h, 0, 0)) rfl ?_
      obtain ⟨v69, e70, hq⟩ := bsm hq
      refine r_aJ odX7_isOver rfl e70 ?_
      refine mB_run odX7_isOver 10 (g := (215, [(17, .long (v55 - (v57 * v61))), (15, .long (v47 - (v49 * v53))), (13, .long (v39 - (v41 * v45))), (11, .long (v33 - v37)), (9, .long (v25 - v29)), (7, .long (v17 - v21)), (6, .int (((24 : Int32) * x1) + v13)), (5, .int (((24 : Int32) * x1) + v8)), (0, .ref x0), (1, .int x1), (2, .int x2), (3, .int x3), (4, .int x4)], [.ref x0, .long (((v17 - v21) * (v47 - (v49 * v53))) - ((v25 - v29) * (v39 - (v41 * v45)))), .long (((((v25 - v29) * (v55 - (v57 * v61))) - ((v33 - v37) * (v47 - (v49 * v53)))) * v65) + ((((v33 - v37) * (v39 - (v41 * v45))) - ((v17 - v21) * (v55 - (v57 * v61)))) * v69))], h, 0, 0)) rfl ?_
      obtain ⟨v71, e72, hq⟩ := bsm hq
      refine r_gR odX7_isOver rfl rfl e72 ?_
      refine mB_run odX7_isOver 1 (g := (219, [(17, .long (v55 - (v57 * v61))), (15, .long (v47 - (v49 * v53))), (13, .long (v39 - (v41 * v45))), (11, .long (v33 - v37)), (9, .long (v25 - v29)), (7, .long (v17 - v21)), (6, .int (((24 : Int32) * x1) + v13)), (5, .int (((24 : Int32) * x1) + v8)), (0, .ref x0), (1, .int x1), (2, .int x2), (3, .int x3), (4, .int x4)], [.int x2, .ref v71, .long (((v17 - v21) * (v47 - (v49 * v53))) - ((v25 - v29) * (v39 - (v41 * v45)))), .long (((((v25 - v29) * (v55 - (v57 * v61))) - ((v33 - v37) * (v47 - (v49 * v53)))) * v65) + ((((v33 - v37) * (v39 - (v41 * v45))) - ((v17 - v21) * (v55 - (v57 * v61)))) * v69))], h, 0, 0)) rfl ?_
      obtain ⟨v73, e74, hq⟩ := bsm hq
      refine r_aJ odX7_isOver rfl e74 ?_
      refine mB_run odX7_isOver 5 (g := (227, [(19, .long ((((((v25 - v29) * (v55 - (v57 * v61))) - ((v33 - v37) * (v47 - (v49 * v53)))) * v65) + ((((v33 - v37) * (v39 - (v41 * v45))) - ((v17 - v21) * (v55 - (v57 * v61)))) * v69)) + ((((v17 - v21) * (v47 - (v49 * v53))) - ((v25 - v29) * (v39 - (v41 * v45)))) * v73))), (17, .long (v55 - (v57 * v61))), (15, .long (v47 - (v49 * v53))), (13, .long (v39 - (v41 * v45))), (11, .long (v33 - v37)), (9, .long (v25 - v29)), (7, .long (v17 - v21)), (6, .int (((24 : Int32) * x1) + v13)), (5, .int (((24 : Int32) * x1) + v8)), (0, .ref x0), (1, .int x1), (2, .int x2), (3, .int x3), (4, .int x4)], [.long (0 : Int64), .long ((((((v25 - v29) * (v55 - (v57 * v61))) - ((v33 - v37) * (v47 - (v49 * v53)))) * v65) + ((((v33 - v37) * (v39 - (v41 * v45))) - ((v17 - v21) * (v55 - (v57 * v61)))) * v69)) + ((((v17 - v21) * (v47 - (v49 * v53))) - ((v25 - v29) * (v39 - (v41 * v45)))) * v73))], h, 0, 0)) rfl ?_
      by_cases c75 : (0 : Int64) ≤ ((((((v25 - v29) * (v55 - (v57 * v61))) - ((v33 - v37) * (v47 - (v49 * v53)))) * v65) + ((((v33 - v37) * (v39 - (v41 * v45))) - ((v17 - v21) * (v55 - (v57 * v61)))) * v69)) + ((((v17 - v21) * (v47 - (v49 * v53))) - ((v25 - v29) * (v39 - (v41 * v45)))) * v73))
      · rw [if_pos c75] at hq
        refine lc_ge_T (t := 233) odX7_isOver rfl rfl rfl c75 ?_
        refine mB_run odX7_isOver 2 (g := (10, [(4, .int (x4 + (1 : Int32))), (19, .long ((((((v25 - v29) * (v55 - (v57 * v61))) - ((v33 - v37) * (v47 - (v49 * v53)))) * v65) + ((((v33 - v37) * (v39 - (v41 * v45))) - ((v17 - v21) * (v55 - (v57 * v61)))) * v69)) + ((((v17 - v21) * (v47 - (v49 * v53))) - ((v25 - v29) * (v39 - (v41 * v45)))) * v73))), (17, .long (v55 - (v57 * v61))), (15, .long (v47 - (v49 * v53))), (13, .long (v39 - (v41 * v45))), (11, .long (v33 - v37)), (9, .long (v25 - v29)), (7, .long (v17 - v21)), (6, .int (((24 : Int32) * x1) + v13)), (5, .int (((24 : Int32) * x1) + v8)), (0, .ref x0), (1, .int x1), (2, .int x2), (3, .int x3)], [], h, 0, 0)) rfl ?_
        refine mB_lv [10, 11, 12, 13, 0] (lv' := [(0, .ref x0), (1, .int x1), (2, .int x2), (3, .int x3), (4, .int (x4 + (1 : Int32)))]) rfl ?_
        exact ih _ _ _ _ _ _ hq
      · rw [if_neg c75] at hq
        refine lc_ge_F (t := 233) odX7_isOver rfl rfl rfl c75 ?_
        refine mB_run odX7_isOver 1 (g := (232, [(19, .long ((((((v25 - v29) * (v55 - (v57 * v61))) - ((v33 - v37) * (v47 - (v49 * v53)))) * v65) + ((((v33 - v37) * (v39 - (v41 * v45))) - ((v17 - v21) * (v55 - (v57 * v61)))) * v69)) + ((((v17 - v21) * (v47 - (v49 * v53))) - ((v25 - v29) * (v39 - (v41 * v45)))) * v73))), (17, .long (v55 - (v57 * v61))), (15, .long (v47 - (v49 * v53))), (13, .long (v39 - (v41 * v45))), (11, .long (v33 - v37)), (9, .long (v25 - v29)), (7, .long (v17 - v21)), (6, .int (((24 : Int32) * x1) + v13)), (5, .int (((24 : Int32) * x1) + v8)), (0, .ref x0), (1, .int x1), (2, .int x2), (3, .int x3), (4, .int x4)], [.int (0 : Int32)], h, 0, 0)) rfl ?_
        cases hq
        exact mB_ret odX7_isOver rfl
def fxX7_isOver (N : Nat) (p0 : Nat) (p1 : Int32) (p2 : Int32) (h : mh) : Option (mh × Int32) :=
  (gR h p0 7 32).bind fun v1 =>
  (aI h v1 p2).bind fun v3 =>
  fxX7_isOver_10 N N p0 p1 p2 v3 (0 : Int32) h
set_option maxHeartbeats 4000000 in
set_option maxRecDepth 100000 in
theorem exX7_isOver {N : Nat} {p0 : Nat} {p1 : Int32} {p2 : Int32} {h : mh} {o : (mh × Int32)} (hq : fxX7_isOver N p0 p1 p2 h = some o) : mC mX7_isOver [.ref p0, .int p1, .int p2] h (o.1, some (.int o.2)) := by
  refine mC_of okX7_isOver (Nat.le_of_ble_eq_true rfl) ?_
  unfold fxX7_isOver at hq
  show mB _ mX7_isOver (0, [(0, .ref p0), (1, .int p1), (2, .int p2)], [], h, 0, 0)
  refine mB_run odX7_isOver 1 (g := (1, [(0, .ref p0), (1, .int p1), (2, .int p2)], [.ref p0], h, 0, 0)) rfl ?_
  obtain ⟨v1, e2, hq⟩ := bsm hq
  refine r_gR odX7_isOver rfl rfl e2 ?_
  refine mB_run odX7_isOver 1 (g := (5, [(0, .ref p0), (1, .int p1), (2, .int p2)], [.int p2, .ref v1], h, 0, 0)) rfl ?_
  obtain ⟨v3, e4, hq⟩ := bsm hq
  refine r_aI odX7_isOver rfl e4 ?_
  refine mB_run odX7_isOver 3 (g := (10, [(4, .int (0 : Int32)), (3, .int v3), (0, .ref p0), (1, .int p1), (2, .int p2)], [], h, 0, 0)) rfl ?_
  refine mB_lv [2, 3, 4, 1, 0] (lv' := [(0, .ref p0), (1, .int p1), (2, .int p2), (3, .int v3), (4, .int (0 : Int32))]) rfl ?_
  exact exX7_isOver_10 N _ _ _ _ _ _ hq
def fxX7_onLine (N : Nat) (p0 : Nat) (p1 : Int32) (p2 : Int32) (h : mh) : Option (mh × Int32) :=
  (gR h p0 7 43).bind fun v1 =>
  (aJ h v1 p2).bind fun v3 =>
  (gR h p0 7 43).bind fun v5 =>
  (aJ h v5 p1).bind fun v7 =>
  (gR h p0 7 44).bind fun v9 =>
  (aJ h v9 p2).bind fun v11 =>
  (gR h p0 7 44).bind fun v13 =>
  (aJ h v13 p1).bind fun v15 =>
  (gR h p0 7 45).bind fun v17 =>
  (aJ h v17 p2).bind fun v19 =>
  (gR h p0 7 45).bind fun v21 =>
  (aJ h v21 p1).bind fun v23 =>
  (gJ h p0 7 39).bind fun v25 =>
  (gJ h p0 7 42).bind fun v27 =>
  (gR h p0 7 43).bind fun v29 =>
  (aJ h v29 p1).bind fun v31 =>
  (gJ h p0 7 40).bind fun v33 =>
  (gJ h p0 7 42).bind fun v35 =>
  (gR h p0 7 44).bind fun v37 =>
  (aJ h v37 p1).bind fun v39 =>
  (gJ h p0 7 41).bind fun v41 =>
  (gJ h p0 7 42).bind fun v43 =>
  (gR h p0 7 45).bind fun v45 =>
  (aJ h v45 p1).bind fun v47 =>
  if ((v11 - v15) * (v41 - (v43 * v47))) = ((v19 - v23) * (v33 - (v35 * v39))) then (
    if ((v19 - v23) * (v25 - (v27 * v31))) = ((v3 - v7) * (v41 - (v43 * v47))) then (
      if ((v3 - v7) * (v33 - (v35 * v39))) = ((v11 - v15) * (v25 - (v27 * v31))) then (
        if ((((v3 - v7) * (v25 - (v27 * v31))) + ((v11 - v15) * (v33 - (v35 * v39)))) + ((v19 - v23) * (v41 - (v43 * v47)))) < (0 : Int64) then (
          some (h, (0 : Int32))) else (
          (gJ h p0 7 42).bind fun v53 =>
          if (v53 * ((((v3 - v7) * (v3 - v7)) + ((v11 - v15) * (v11 - v15))) + ((v19 - v23) * (v19 - v23)))) < ((((v3 - v7) * (v25 - (v27 * v31))) + ((v11 - v15) * (v33 - (v35 * v39)))) + ((v19 - v23) * (v41 - (v43 * v47)))) then (
            some (h, (0 : Int32))) else (
            some (h, (1 : Int32))))) else (
        some (h, (0 : Int32)))) else (
      some (h, (0 : Int32)))) else (
    some (h, (0 : Int32)))
set_option maxHeartbeats 4000000 in
set_option maxRecDepth 100000 in
theorem exX7_onLine {N : Nat} {p0 : Nat} {p1 : Int32} {p2 : Int32} {h : mh} {o : (mh × Int32)} (hq : fxX7_onLine N p0 p1 p2 h = some o) : mC mX7_onLine [.ref p0, .int p1, .int p2] h (o.1, some (.int o.2)) := by
  refine mC_of okX7_onLine (Nat.le_of_ble_eq_true rfl) ?_
  unfold fxX7_onLine at hq
  show mB _ mX7_onLine (0, [(0, .ref p0), (1, .int p1), (2, .int p2)], [], h, 0, 0)
  refine mB_run odX7_onLine 1 (g := (1, [(0, .ref p0), (1, .int p1), (2, .int p2)], [.ref p0], h, 0, 0)) rfl ?_
  obtain ⟨v1, e2, hq⟩ := bsm hq
  refine r_gR odX7_onLine rfl rfl e2 ?_
  refine mB_run odX7_onLine 1 (g := (5, [(0, .ref p0), (1, .int p1), (2, .int p2)], [.int p2, .ref v1], h, 0, 0)) rfl ?_
  obtain ⟨v3, e4, hq⟩ := bsm hq
  refine r_aJ odX7_onLine rfl e4 ?_
  refine mB_run odX7_onLine 1 (g := (7, [(0, .ref p0), (1, .int p1), (2, .int p2)], [.ref p0, .long v3], h, 0, 0)) rfl ?_
  obtain ⟨v5, e6, hq⟩ := bsm hq
  refine r_gR odX7_onLine rfl rfl e6 ?_
  refine mB_run odX7_onLine 1 (g := (11, [(0, .ref p0), (1, .int p1), (2, .int p2)], [.int p1, .ref v5, .long v3], h, 0, 0)) rfl ?_
  obtain ⟨v7, e8, hq⟩ := bsm hq
  refine r_aJ odX7_onLine rfl e8 ?_
  refine mB_run odX7_onLine 3 (g := (15, [(3, .long (v3 - v7)), (0, .ref p0), (1, .int p1), (2, .int p2)], [.ref p0], h, 0, 0)) rfl ?_
  obtain ⟨v9, e10, hq⟩ := bsm hq
  refine r_gR odX7_onLine rfl rfl e10 ?_
  refine mB_run odX7_onLine 1 (g := (19, [(3, .long (v3 - v7)), (0, .ref p0), (1, .int p1), (2, .int p2)], [.int p2, .ref v9], h, 0, 0)) rfl ?_
  obtain ⟨v11, e12, hq⟩ := bsm hq
  refine r_aJ odX7_onLine rfl e12 ?_
  refine mB_run odX7_onLine 1 (g := (21, [(3, .long (v3 - v7)), (0, .ref p0), (1, .int p1), (2, .int p2)], [.ref p0, .long v11], h, 0, 0)) rfl ?_
  obtain ⟨v13, e14, hq⟩ := bsm hq
  refine r_gR odX7_onLine rfl rfl e14 ?_
  refine mB_run odX7_onLine 1 (g := (25, [(3, .long (v3 - v7)), (0, .ref p0), (1, .int p1), (2, .int p2)], [.int p1, .ref v13, .long v11], h, 0, 0)) rfl ?_
  obtain ⟨v15, e16, hq⟩ := bsm hq
  refine r_aJ odX7_onLine rfl e16 ?_
  refine mB_run odX7_onLine 3 (g := (30, [(5, .long (v11 - v15)), (3, .long (v3 - v7)), (0, .ref p0), (1, .int p1), (2, .int p2)], [.ref p0], h, 0, 0)) rfl ?_
  obtain ⟨v17, e18, hq⟩ := bsm hq
  refine r_gR odX7_onLine rfl rfl e18 ?_
  refine mB_run odX7_onLine 1 (g := (34, [(5, .long (v11 - v15)), (3, .long (v3 - v7)), (0, .ref p0), (1, .int p1), (2, .int p2)], [.int p2, .ref v17], h, 0, 0)) rfl ?_
  obtain ⟨v19, e20, hq⟩ := bsm hq
  refine r_aJ odX7_onLine rfl e20 ?_
  refine mB_run odX7_onLine 1 (g := (36, [(5, .long (v11 - v15)), (3, .long (v3 - v7)), (0, .ref p0), (1, .int p1), (2, .int p2)], [.ref p0, .long v19], h, 0, 0)) rfl ?_
  obtain ⟨v21, e22, hq⟩ := bsm hq
  refine r_gR odX7_onLine rfl rfl e22 ?_
  refine mB_run odX7_onLine 1 (g := (40, [(5, .long (v11 - v15)), (3, .long (v3 - v7)), (0, .ref p0), (1, .int p1), (2, .int p2)], [.int p1, .ref v21, .long v19], h, 0, 0)) rfl ?_
  obtain ⟨v23, e24, hq⟩ := bsm hq
  refine r_aJ odX7_onLine rfl e24 ?_
  refine mB_run odX7_onLine 3 (g := (45, [(7, .long (v19 - v23)), (5, .long (v11 - v15)), (3, .long (v3 - v7)), (0, .ref p0), (1, .int p1), (2, .int p2)], [.ref p0], h, 0, 0)) rfl ?_
  obtain ⟨v25, e26, hq⟩ := bsm hq
  refine r_gJ odX7_onLine rfl rfl e26 ?_
  refine mB_run odX7_onLine 1 (g := (49, [(7, .long (v19 - v23)), (5, .long (v11 - v15)), (3, .long (v3 - v7)), (0, .ref p0), (1, .int p1), (2, .int p2)], [.ref p0, .long v25], h, 0, 0)) rfl ?_
  obtain ⟨v27, e28, hq⟩ := bsm hq
  refine r_gJ odX7_onLine rfl rfl e28 ?_
  refine mB_run odX7_onLine 1 (g := (53, [(7, .long (v19 - v23)), (5, .long (v11 - v15)), (3, .long (v3 - v7)), (0, .ref p0), (1, .int p1), (2, .int p2)], [.ref p0, .long v27, .long v25], h, 0, 0)) rfl ?_
  obtain ⟨v29, e30, hq⟩ := bsm hq
  refine r_gR odX7_onLine rfl rfl e30 ?_
  refine mB_run odX7_onLine 1 (g := (57, [(7, .long (v19 - v23)), (5, .long (v11 - v15)), (3, .long (v3 - v7)), (0, .ref p0), (1, .int p1), (2, .int p2)], [.int p1, .ref v29, .long v27, .long v25], h, 0, 0)) rfl ?_
  obtain ⟨v31, e32, hq⟩ := bsm hq
  refine r_aJ odX7_onLine rfl e32 ?_
  refine mB_run odX7_onLine 4 (g := (63, [(9, .long (v25 - (v27 * v31))), (7, .long (v19 - v23)), (5, .long (v11 - v15)), (3, .long (v3 - v7)), (0, .ref p0), (1, .int p1), (2, .int p2)], [.ref p0], h, 0, 0)) rfl ?_
  obtain ⟨v33, e34, hq⟩ := bsm hq
  refine r_gJ odX7_onLine rfl rfl e34 ?_
  refine mB_run odX7_onLine 1 (g := (67, [(9, .long (v25 - (v27 * v31))), (7, .long (v19 - v23)), (5, .long (v11 - v15)), (3, .long (v3 - v7)), (0, .ref p0), (1, .int p1), (2, .int p2)], [.ref p0, .long v33], h, 0, 0)) rfl ?_
  obtain ⟨v35, e36, hq⟩ := bsm hq
  refine r_gJ odX7_onLine rfl rfl e36 ?_
  refine mB_run odX7_onLine 1 (g := (71, [(9, .long (v25 - (v27 * v31))), (7, .long (v19 - v23)), (5, .long (v11 - v15)), (3, .long (v3 - v7)), (0, .ref p0), (1, .int p1), (2, .int p2)], [.ref p0, .long v35, .long v33], h, 0, 0)) rfl ?_
  obtain ⟨v37, e38, hq⟩ := bsm hq
  refine r_gR odX7_onLine rfl rfl e38 ?_
  refine mB_run odX7_onLine 1 (g := (75, [(9, .long (v25 - (v27 * v31))), (7, .long (v19 - v23)), (5, .long (v11 - v15)), (3, .long (v3 - v7)), (0, .ref p0), (1, .int p1), (2, .int p2)], [.int p1, .ref v37, .long v35, .long v33], h, 0, 0)) rfl ?_
  obtain ⟨v39, e40, hq⟩ := bsm hq
  refine r_aJ odX7_onLine rfl e40 ?_
  refine mB_run odX7_onLine 4 (g := (81, [(11, .long (v33 - (v35 * v39))), (9, .long (v25 - (v27 * v31))), (7, .long (v19 - v23)), (5, .long (v11 - v15)), (3, .long (v3 - v7)), (0, .ref p0), (1, .int p1), (2, .int p2)], [.ref p0], h, 0, 0)) rfl ?_
  obtain ⟨v41, e42, hq⟩ := bsm hq
  refine r_gJ odX7_onLine rfl rfl e42 ?_
  refine mB_run odX7_onLine 1 (g := (85, [(11, .long (v33 - (v35 * v39))), (9, .long (v25 - (v27 * v31))), (7, .long (v19 - v23)), (5, .long (v11 - v15)), (3, .long (v3 - v7)), (0, .ref p0), (1, .int p1), (2, .int p2)], [.ref p0, .long v41], h, 0, 0)) rfl ?_
  obtain ⟨v43, e44, hq⟩ := bsm hq
  refine r_gJ odX7_onLine rfl rfl e44 ?_
  refine mB_run odX7_onLine 1 (g := (89, [(11, .long (v33 - (v35 * v39))), (9, .long (v25 - (v27 * v31))), (7, .long (v19 - v23)), (5, .long (v11 - v15)), (3, .long (v3 - v7)), (0, .ref p0), (1, .int p1), (2, .int p2)], [.ref p0, .long v43, .long v41], h, 0, 0)) rfl ?_
  obtain ⟨v45, e46, hq⟩ := bsm hq
  refine r_gR odX7_onLine rfl rfl e46 ?_
  refine mB_run odX7_onLine 1 (g := (93, [(11, .long (v33 - (v35 * v39))), (9, .long (v25 - (v27 * v31))), (7, .long (v19 - v23)), (5, .long (v11 - v15)), (3, .long (v3 - v7)), (0, .ref p0), (1, .int p1), (2, .int p2)], [.int p1, .ref v45, .long v43, .long v41], h, 0, 0)) rfl ?_
  obtain ⟨v47, e48, hq⟩ := bsm hq
  refine r_aJ odX7_onLine rfl e48 ?_
  refine mB_run odX7_onLine 9 (g := (108, [(13, .long (v41 - (v43 * v47))), (11, .long (v33 - (v35 * v39))), (9, .long (v25 - (v27 * v31))), (7, .long (v19 - v23)), (5, .long (v11 - v15)), (3, .long (v3 - v7)), (0, .ref p0), (1, .int p1), (2, .int p2)], [.long ((v19 - v23) * (v33 - (v35 * v39))), .long ((v11 - v15) * (v41 - (v43 * v47)))], h, 0, 0)) rfl ?_
  by_cases c49 : ((v11 - v15) * (v41 - (v43 * v47))) = ((v19 - v23) * (v33 - (v35 * v39)))
  · rw [if_pos c49] at hq
    refine lc_ne_F (t := 138) odX7_onLine rfl rfl rfl c49 ?_
    refine mB_run odX7_onLine 6 (g := (121, [(13, .long (v41 - (v43 * v47))), (11, .long (v33 - (v35 * v39))), (9, .long (v25 - (v27 * v31))), (7, .long (v19 - v23)), (5, .long (v11 - v15)), (3, .long (v3 - v7)), (0, .ref p0), (1, .int p1), (2, .int p2)], [.long ((v3 - v7) * (v41 - (v43 * v47))), .long ((v19 - v23) * (v25 - (v27 * v31)))], h, 0, 0)) rfl ?_
    by_cases c50 : ((v19 - v23) * (v25 - (v27 * v31))) = ((v3 - v7) * (v41 - (v43 * v47)))
    · rw [if_pos c50] at hq
      refine lc_ne_F (t := 138) odX7_onLine rfl rfl rfl c50 ?_
      refine mB_run odX7_onLine 6 (g := (134, [(13, .long (v41 - (v43 * v47))), (11, .long (v33 - (v35 * v39))), (9, .long (v25 - (v27 * v31))), (7, .long (v19 - v23)), (5, .long (v11 - v15)), (3, .long (v3 - v7)), (0, .ref p0), (1, .int p1), (2, .int p2)], [.long ((v11 - v15) * (v25 - (v27 * v31))), .long ((v3 - v7) * (v33 - (v35 * v39)))], h, 0, 0)) rfl ?_
      by_cases c51 : ((v3 - v7) * (v33 - (v35 * v39))) = ((v11 - v15) * (v25 - (v27 * v31)))
      · rw [if_pos c51] at hq
        refine lc_eq_T (t := 140) odX7_onLine rfl rfl rfl c51 ?_
        refine mB_run odX7_onLine 12 (g := (158, [(15, .long ((((v3 - v7) * (v25 - (v27 * v31))) + ((v11 - v15) * (v33 - (v35 * v39)))) + ((v19 - v23) * (v41 - (v43 * v47))))), (13, .long (v41 - (v43 * v47))), (11, .long (v33 - (v35 * v39))), (9, .long (v25 - (v27 * v31))), (7, .long (v19 - v23)), (5, .long (v11 - v15)), (3, .long (v3 - v7)), (0, .ref p0), (1, .int p1), (2, .int p2)], [], h, 0, 0)) rfl ?_
        refine mB_run odX7_onLine 2 (g := (161, [(15, .long ((((v3 - v7) * (v25 - (v27 * v31))) + ((v11 - v15) * (v33 - (v35 * v39)))) + ((v19 - v23) * (v41 - (v43 * v47))))), (13, .long (v41 - (v43 * v47))), (11, .long (v33 - (v35 * v39))), (9, .long (v25 - (v27 * v31))), (7, .long (v19 - v23)), (5, .long (v11 - v15)), (3, .long (v3 - v7)), (0, .ref p0), (1, .int p1), (2, .int p2)], [.long (0 : Int64), .long ((((v3 - v7) * (v25 - (v27 * v31))) + ((v11 - v15) * (v33 - (v35 * v39)))) + ((v19 - v23) * (v41 - (v43 * v47))))], h, 0, 0)) rfl ?_
        by_cases c52 : ((((v3 - v7) * (v25 - (v27 * v31))) + ((v11 - v15) * (v33 - (v35 * v39)))) + ((v19 - v23) * (v41 - (v43 * v47)))) < (0 : Int64)
        · rw [if_pos c52] at hq
          refine lc_lt_T (t := 195) odX7_onLine rfl rfl rfl c52 ?_
          refine mB_run odX7_onLine 1 (g := (196, [(15, .long ((((v3 - v7) * (v25 - (v27 * v31))) + ((v11 - v15) * (v33 - (v35 * v39)))) + ((v19 - v23) * (v41 - (v43 * v47))))), (13, .long (v41 - (v43 * v47))), (11, .long (v33 - (v35 * v39))), (9, .long (v25 - (v27 * v31))), (7, .long (v19 - v23)), (5, .long (v11 - v15)), (3, .long (v3 - v7)), (0, .ref p0), (1, .int p1), (2, .int p2)], [.int (0 : Int32)], h, 0, 0)) rfl ?_
          cases hq
          exact mB_ret odX7_onLine rfl
        · rw [if_neg c52] at hq
          refine lc_lt_F (t := 195) odX7_onLine rfl rfl rfl c52 ?_
          refine mB_run odX7_onLine 2 (g := (168, [(15, .long ((((v3 - v7) * (v25 - (v27 * v31))) + ((v11 - v15) * (v33 - (v35 * v39)))) + ((v19 - v23) * (v41 - (v43 * v47))))), (13, .long (v41 - (v43 * v47))), (11, .long (v33 - (v35 * v39))), (9, .long (v25 - (v27 * v31))), (7, .long (v19 - v23)), (5, .long (v11 - v15)), (3, .long (v3 - v7)), (0, .ref p0), (1, .int p1), (2, .int p2)], [.ref p0, .long ((((v3 - v7) * (v25 - (v27 * v31))) + ((v11 - v15) * (v33 - (v35 * v39)))) + ((v19 - v23) * (v41 - (v43 * v47))))], h, 0, 0)) rfl ?_
          obtain ⟨v53, e54, hq⟩ := bsm hq
          refine r_gJ odX7_onLine rfl rfl e54 ?_
          refine mB_run odX7_onLine 12 (g := (187, [(15, .long ((((v3 - v7) * (v25 - (v27 * v31))) + ((v11 - v15) * (v33 - (v35 * v39)))) + ((v19 - v23) * (v41 - (v43 * v47))))), (13, .long (v41 - (v43 * v47))), (11, .long (v33 - (v35 * v39))), (9, .long (v25 - (v27 * v31))), (7, .long (v19 - v23)), (5, .long (v11 - v15)), (3, .long (v3 - v7)), (0, .ref p0), (1, .int p1), (2, .int p2)], [.long (v53 * ((((v3 - v7) * (v3 - v7)) + ((v11 - v15) * (v11 - v15))) + ((v19 - v23) * (v19 - v23)))), .long ((((v3 - v7) * (v25 - (v27 * v31))) + ((v11 - v15) * (v33 - (v35 * v39)))) + ((v19 - v23) * (v41 - (v43 * v47))))], h, 0, 0)) rfl ?_
          by_cases c55 : (v53 * ((((v3 - v7) * (v3 - v7)) + ((v11 - v15) * (v11 - v15))) + ((v19 - v23) * (v19 - v23)))) < ((((v3 - v7) * (v25 - (v27 * v31))) + ((v11 - v15) * (v33 - (v35 * v39)))) + ((v19 - v23) * (v41 - (v43 * v47))))
          · rw [if_pos c55] at hq
            refine lc_gt_T (t := 195) odX7_onLine rfl rfl rfl c55 ?_
            refine mB_run odX7_onLine 1 (g := (196, [(15, .long ((((v3 - v7) * (v25 - (v27 * v31))) + ((v11 - v15) * (v33 - (v35 * v39)))) + ((v19 - v23) * (v41 - (v43 * v47))))), (13, .long (v41 - (v43 * v47))), (11, .long (v33 - (v35 * v39))), (9, .long (v25 - (v27 * v31))), (7, .long (v19 - v23)), (5, .long (v11 - v15)), (3, .long (v3 - v7)), (0, .ref p0), (1, .int p1), (2, .int p2)], [.int (0 : Int32)], h, 0, 0)) rfl ?_
            cases hq
            exact mB_ret odX7_onLine rfl
          · rw [if_neg c55] at hq
            refine lc_gt_F (t := 195) odX7_onLine rfl rfl rfl c55 ?_
            refine mB_run odX7_onLine 2 (g := (196, [(15, .long ((((v3 - v7) * (v25 - (v27 * v31))) + ((v11 - v15) * (v33 - (v35 * v39)))) + ((v19 - v23) * (v41 - (v43 * v47))))), (13, .long (v41 - (v43 * v47))), (11, .long (v33 - (v35 * v39))), (9, .long (v25 - (v27 * v31))), (7, .long (v19 - v23)), (5, .long (v11 - v15)), (3, .long (v3 - v7)), (0, .ref p0), (1, .int p1), (2, .int p2)], [.int (1 : Int32)], h, 0, 0)) rfl ?_
            cases hq
            exact mB_ret odX7_onLine rfl
      · rw [if_neg c51] at hq
        refine lc_eq_F (t := 140) odX7_onLine rfl rfl rfl c51 ?_
        refine mB_run odX7_onLine 1 (g := (139, [(13, .long (v41 - (v43 * v47))), (11, .long (v33 - (v35 * v39))), (9, .long (v25 - (v27 * v31))), (7, .long (v19 - v23)), (5, .long (v11 - v15)), (3, .long (v3 - v7)), (0, .ref p0), (1, .int p1), (2, .int p2)], [.int (0 : Int32)], h, 0, 0)) rfl ?_
        cases hq
        exact mB_ret odX7_onLine rfl
    · rw [if_neg c50] at hq
      refine lc_ne_T (t := 138) odX7_onLine rfl rfl rfl c50 ?_
      refine mB_run odX7_onLine 1 (g := (139, [(13, .long (v41 - (v43 * v47))), (11, .long (v33 - (v35 * v39))), (9, .long (v25 - (v27 * v31))), (7, .long (v19 - v23)), (5, .long (v11 - v15)), (3, .long (v3 - v7)), (0, .ref p0), (1, .int p1), (2, .int p2)], [.int (0 : Int32)], h, 0, 0)) rfl ?_
      cases hq
      exact mB_ret odX7_onLine rfl
  · rw [if_neg c49] at hq
    refine lc_ne_T (t := 138) odX7_onLine rfl rfl rfl c49 ?_
    refine mB_run odX7_onLine 1 (g := (139, [(13, .long (v41 - (v43 * v47))), (11, .long (v33 - (v35 * v39))), (9, .long (v25 - (v27 * v31))), (7, .long (v19 - v23)), (5, .long (v11 - v15)), (3, .long (v3 - v7)), (0, .ref p0), (1, .int p1), (2, .int p2)], [.int (0 : Int32)], h, 0, 0)) rfl ?_
    cases hq
    exact mB_ret odX7_onLine rfl
def fxX7_where_189 (N : Nat) (rec146 : Nat → Int32 → Int32 → Int32 → mh → Option (mh × Int32)) (x0 : Nat) (x2 : Int32) (x4 : Int32) (x5 : Int32) (h : mh) : Option (mh × Int32) :=
  rec146 x0 x2 x4 (x5 + (1 : Int32)) h
set_option maxHeartbeats 4000000 in
set_option maxRecDepth 100000 in
theorem exX7_where_189 {N : Nat} {rec146 : Nat → Int32 → Int32 → Int32 → mh → Option (mh × Int32)} (hrec146 : ∀ (x0 : Nat) (x2 : Int32) (x4 : Int32) (x5 : Int32) (h : mh) {o : (mh × Int32)}, rec146 x0 x2 x4 x5 h = some o → mB (gO mX7_where (o.1, some (.int o.2))) mX7_where (146, [(0, .ref x0), (2, .int x2), (4, .int x4), (5, .int x5)], [], h, 0, 0)) (x0 : Nat) (x2 : Int32) (x4 : Int32) (x5 : Int32) (h : mh) {o : (mh × Int32)} (hq : fxX7_where_189 N rec146 x0 x2 x4 x5 h = some o) : mB (gO mX7_where (o.1, some (.int o.2))) mX7_where (189, [(0, .ref x0), (2, .int x2), (4, .int x4), (5, .int x5)], [], h, 0, 0) := by
  unfold fxX7_where_189 at hq
  refine mB_run odX7_where 2 (g := (146, [(5, .int (x5 + (1 : Int32))), (0, .ref x0), (2, .int x2), (4, .int x4)], [], h, 0, 0)) rfl ?_
  refine mB_lv [1, 2, 3, 0] (lv' := [(0, .ref x0), (2, .int x2), (4, .int x4), (5, .int (x5 + (1 : Int32)))]) rfl ?_
  exact hrec146 _ _ _ _ _ hq
def fxX7_where_146 (N : Nat) : Nat → Nat → Int32 → Int32 → Int32 → mh → Option (mh × Int32)
  | 0, _, _, _, _, _ => none
  | n + 1, x0, x2, x4, x5, h =>
    (gR h x0 7 27).bind fun v47 =>
    (aI h v47 x2).bind fun v49 =>
    if (((64 : Int32) * x2) + v49) ≤ x5 then (
      some (h, x4)) else (
      (kO h x0 7).bind fun f54 =>
      (fxX7_overFace N x0 x5 h).bind fun o52 =>
      if o52.2 ≤ (0 : Int64) then (
        if o52.2 = (0 : Int64) then (
          fxX7_where_189 N (fxX7_where_146 N n) x0 x2 (1 : Int32) x5 o52.1) else (
          fxX7_where_189 N (fxX7_where_146 N n) x0 x2 x4 x5 o52.1)) else (
        some (o52.1, (0 : Int32))))
set_option maxHeartbeats 4000000 in
set_option maxRecDepth 100000 in
theorem exX7_where_146 {N : Nat} : ∀ (n : Nat) (x0 : Nat) (x2 : Int32) (x4 : Int32) (x5 : Int32) (h : mh) {o : (mh × Int32)}, fxX7_where_146 N n x0 x2 x4 x5 h = some o → mB (gO mX7_where (o.1, some (.int o.2))) mX7_where (146, [(0, .ref x0), (2, .int x2), (4, .int x4), (5, .int x5)], [], h, 0, 0) := by
  intro n
  induction n with
  | zero => intro x0 x2 x4 x5 h o hq; cases hq
  | succ n ih =>
    intro x0 x2 x4 x5 h o hq
    unfold fxX7_where_146 at hq
    refine mB_run odX7_where 5 (g := (153, [(0, .ref x0), (2, .int x2), (4, .int x4), (5, .int x5)], [.ref x0, .int ((64 : Int32) * x2), .int x5], h, 0, 0)) rfl ?_
    obtain ⟨v47, e48, hq⟩ := bsm hq
    refine r_gR odX7_where rfl rfl e48 ?_
    refine mB_run odX7_where 1 (g := (157, [(0, .ref x0), (2, .int x2), (4, .int x4), (5, .int x5)], [.int x2, .ref v47, .int ((64 : Int32) * x2), .int x5], h, 0, 0)) rfl ?_
    obtain ⟨v49, e50, hq⟩ := bsm hq
    refine r_aI odX7_where rfl e50 ?_
    refine mB_run odX7_where 1 (g := (159, [(0, .ref x0), (2, .int x2), (4, .int x4), (5, .int x5)], [.int (((64 : Int32) * x2) + v49), .int x5], h, 0, 0)) rfl ?_
    by_cases c51 : (((64 : Int32) * x2) + v49) ≤ x5
    · rw [if_pos c51] at hq
      refine ic_ge_T (t := 195) odX7_where rfl rfl c51 ?_
      refine mB_run odX7_where 1 (g := (197, [(0, .ref x0), (2, .int x2), (4, .int x4), (5, .int x5)], [.int x4], h, 0, 0)) rfl ?_
      cases hq
      exact mB_ret odX7_where rfl
    · rw [if_neg c51] at hq
      refine ic_ge_F (t := 195) odX7_where rfl rfl c51 ?_
      refine mB_run odX7_where 2 (g := (165, [(0, .ref x0), (2, .int x2), (4, .int x4), (5, .int x5)], [.int x5, .ref x0], h, 0, 0)) rfl ?_
      obtain ⟨f54, k55, hq⟩ := bsm hq
      obtain ⟨o52, e53, hq⟩ := bsm hq
      refine mB_V (as := [.int x5]) odX7_where okX7_overFace lk_7_268 rfl (exX7_overFace e53) (kO_at k55) rfl rfl rfl ?_
      show mB _ mX7_where (168, [(0, .ref x0), (2, .int x2), (4, .int x4), (5, .int x5)], [.long o52.2], o52.1, 0, 0)
      refine mB_run odX7_where 3 (g := (173, [(6, .long o52.2), (0, .ref x0), (2, .int x2), (4, .int x4), (5, .int x5)], [.long (0 : Int64), .long o52.2], o52.1, 0, 0)) rfl ?_
      by_cases c56 : o52.2 ≤ (0 : Int64)
      · rw [if_pos c56] at hq
        refine lc_le_T (t := 179) odX7_where rfl rfl rfl c56 ?_
        refine mB_run odX7_where 2 (g := (182, [(6, .long o52.2), (0, .ref x0), (2, .int x2), (4, .int x4), (5, .int x5)], [.long (0 : Int64), .long o52.2], o52.1, 0, 0)) rfl ?_
        by_cases c57 : o52.2 = (0 : Int64)
        · rw [if_pos c57] at hq
          refine lc_ne_F (t := 189) odX7_where rfl rfl rfl c57 ?_
          refine mB_run odX7_where 2 (g := (189, [(4, .int (1 : Int32)), (6, .long o52.2), (0, .ref x0), (2, .int x2), (5, .int x5)], [], o52.1, 0, 0)) rfl ?_
          refine mB_lv [2, 3, 0, 4] (lv' := [(0, .ref x0), (2, .int x2), (4, .int (1 : Int32)), (5, .int x5)]) rfl ?_
          exact exX7_where_189 ih _ _ _ _ _ hq
        · rw [if_neg c57] at hq
          refine lc_ne_T (t := 189) odX7_where rfl rfl rfl c57 ?_
          refine mB_lv [1, 2, 3, 4] (lv' := [(0, .ref x0), (2, .int x2), (4, .int x4), (5, .int x5)]) rfl ?_
          exact exX7_where_189 ih _ _ _ _ _ hq
      · rw [if_neg c56] at hq
        refine lc_le_F (t := 179) odX7_where rfl rfl rfl c56 ?_
        refine mB_run odX7_where 1 (g := (178, [(6, .long o52.2), (0, .ref x0), (2, .int x2), (4, .int x4), (5, .int x5)], [.int (0 : Int32)], o52.1, 0, 0)) rfl ?_
        cases hq
        exact mB_ret odX7_where rfl
def fxX7_where (N : Nat) (p0 : Nat) (p1 : Int32) (p2 : Int32) (h : mh) : Option (mh × Int32) :=
  if p1 = 0 then (
    some (h, (0 : Int32))) else (
    if p1 = (1 : Int32) then (
      (gJ h p0 7 39).bind fun v3 =>
      (gJ h p0 7 42).bind fun v5 =>
      (gR h p0 7 43).bind fun v7 =>
      (aJ h v7 ((24 : Int32) * p2)).bind fun v9 =>
      if v3 = (v5 * v9) then (
        (gJ h p0 7 40).bind fun v12 =>
        (gJ h p0 7 42).bind fun v14 =>
        (gR h p0 7 44).bind fun v16 =>
        (aJ h v16 ((24 : Int32) * p2)).bind fun v18 =>
        if v12 = (v14 * v18) then (
          (gJ h p0 7 41).bind fun v21 =>
          (gJ h p0 7 42).bind fun v23 =>
          (gR h p0 7 45).bind fun v25 =>
          (aJ h v25 ((24 : Int32) * p2)).bind fun v27 =>
          if v21 = (v23 * v27) then (
            some (h, (1 : Int32))) else (
            some (h, (0 : Int32)))) else (
          some (h, (0 : Int32)))) else (
        some (h, (0 : Int32)))) else (
      if p1 = (2 : Int32) then (
        (kO h p0 7).bind fun f33 =>
        (fxX7_onLine N p0 ((24 : Int32) * p2) (((24 : Int32) * p2) + (1 : Int32)) h).bind fun o31 =>
        if o31.2 = 0 then (
          some (o31.1, (0 : Int32))) else (
          some (o31.1, (1 : Int32)))) else (
        if p1 = (3 : Int32) then (
          (kO h p0 7).bind fun f39 =>
          (fxX7_overFace N p0 ((64 : Int32) * p2) h).bind fun o37 =>
          if o37.2 = (0 : Int64) then (
            (kO o37.1 p0 7).bind fun f44 =>
            (fxX7_isOver N p0 p2 ((64 : Int32) * p2) o37.1).bind fun o42 =>
            if o42.2 = 0 then (
              some (o42.1, (0 : Int32))) else (
              some (o42.1, (1 : Int32)))) else (
            some (o37.1, (0 : Int32)))) else (
          fxX7_where_146 N N p0 p2 (2 : Int32) ((64 : Int32) * p2) h))))
set_option maxHeartbeats 4000000 in
set_option maxRecDepth 100000 in
theorem exX7_where {N : Nat} {p0 : Nat} {p1 : Int32} {p2 : Int32} {h : mh} {o : (mh × Int32)} (hq : fxX7_where N p0 p1 p2 h = some o) : mC mX7_where [.ref p0, .int p1, .int p2] h (o.1, some (.int o.2)) := by
  refine mC_of okX7_where (Nat.le_of_ble_eq_true rfl) ?_
  unfold fxX7_where at hq
  show mB _ mX7_where (0, [(0, .ref p0), (1, .int p1), (2, .int p2)], [], h, 0, 0)
  refine mB_run odX7_where 5 (g := (6, [(3, .int ((24 : Int32) * p2)), (0, .ref p0), (1, .int p1), (2, .int p2)], [.int p1], h, 0, 0)) rfl ?_
  by_cases c1 : p1 = 0
  · rw [if_pos c1] at hq
    refine if_ne_F (t := 11) odX7_where rfl rfl c1 ?_
    refine mB_run odX7_where 1 (g := (10, [(3, .int ((24 : Int32) * p2)), (0, .ref p0), (1, .int p1), (2, .int p2)], [.int (0 : Int32)], h, 0, 0)) rfl ?_
    cases hq
    exact mB_ret odX7_where rfl
  · rw [if_neg c1] at hq
    refine if_ne_T (t := 11) odX7_where rfl rfl c1 ?_
    refine mB_run odX7_where 2 (g := (13, [(3, .int ((24 : Int32) * p2)), (0, .ref p0), (1, .int p1), (2, .int p2)], [.int (1 : Int32), .int p1], h, 0, 0)) rfl ?_
    by_cases c2 : p1 = (1 : Int32)
    · rw [if_pos c2] at hq
      refine ic_ne_F (t := 79) odX7_where rfl rfl c2 ?_
      refine mB_run odX7_where 1 (g := (17, [(3, .int ((24 : Int32) * p2)), (0, .ref p0), (1, .int p1), (2, .int p2)], [.ref p0], h, 0, 0)) rfl ?_
      obtain ⟨v3, e4, hq⟩ := bsm hq
      refine r_gJ odX7_where rfl rfl e4 ?_
      refine mB_run odX7_where 1 (g := (21, [(3, .int ((24 : Int32) * p2)), (0, .ref p0), (1, .int p1), (2, .int p2)], [.ref p0, .long v3], h, 0, 0)) rfl ?_
      obtain ⟨v5, e6, hq⟩ := bsm hq
      refine r_gJ odX7_where rfl rfl e6 ?_
      refine mB_run odX7_where 1 (g := (25, [(3, .int ((24 : Int32) * p2)), (0, .ref p0), (1, .int p1), (2, .int p2)], [.ref p0, .long v5, .long v3], h, 0, 0)) rfl ?_
      obtain ⟨v7, e8, hq⟩ := bsm hq
      refine r_gR odX7_where rfl rfl e8 ?_
      refine mB_run odX7_where 1 (g := (29, [(3, .int ((24 : Int32) * p2)), (0, .ref p0), (1, .int p1), (2, .int p2)], [.int ((24 : Int32) * p2), .ref v7, .long v5, .long v3], h, 0, 0)) rfl ?_
      obtain ⟨v9, e10, hq⟩ := bsm hq
      refine r_aJ odX7_where rfl e10 ?_
      refine mB_run odX7_where 1 (g := (31, [(3, .int ((24 : Int32) * p2)), (0, .ref p0), (1, .int p1), (2, .int p2)], [.long (v5 * v9), .long v3], h, 0, 0)) rfl ?_
      by_cases c11 : v3 = (v5 * v9)
      · rw [if_pos c11] at hq
        refine lc_ne_F (t := 77) odX7_where rfl rfl rfl c11 ?_
        refine mB_run odX7_where 1 (g := (36, [(3, .int ((24 : Int32) * p2)), (0, .ref p0), (1, .int p1), (2, .int p2)], [.ref p0], h, 0, 0)) rfl ?_
        obtain ⟨v12, e13, hq⟩ := bsm hq
        refine r_gJ odX7_where rfl rfl e13 ?_
        refine mB_run odX7_where 1 (g := (40, [(3, .int ((24 : Int32) * p2)), (0, .ref p0), (1, .int p1), (2, .int p2)], [.ref p0, .long v12], h, 0, 0)) rfl ?_
        obtain ⟨v14, e15, hq⟩ := bsm hq
        refine r_gJ odX7_where rfl rfl e15 ?_
        refine mB_run odX7_where 1 (g := (44, [(3, .int ((24 : Int32) * p2)), (0, .ref p0), (1, .int p1), (2, .int p2)], [.ref p0, .long v14, .long v12], h, 0, 0)) rfl ?_
        obtain ⟨v16, e17, hq⟩ := bsm hq
        refine r_gR odX7_where rfl rfl e17 ?_
        refine mB_run odX7_where 1 (g := (48, [(3, .int ((24 : Int32) * p2)), (0, .ref p0), (1, .int p1), (2, .int p2)], [.int ((24 : Int32) * p2), .ref v16, .long v14, .long v12], h, 0, 0)) rfl ?_
        obtain ⟨v18, e19, hq⟩ := bsm hq
        refine r_aJ odX7_where rfl e19 ?_
        refine mB_run odX7_where 1 (g := (50, [(3, .int ((24 : Int32) * p2)), (0, .ref p0), (1, .int p1), (2, .int p2)], [.long (v14 * v18), .long v12], h, 0, 0)) rfl ?_
        by_cases c20 : v12 = (v14 * v18)
        · rw [if_pos c20] at hq
          refine lc_ne_F (t := 77) odX7_where rfl rfl rfl c20 ?_
          refine mB_run odX7_where 1 (g := (55, [(3, .int ((24 : Int32) * p2)), (0, .ref p0), (1, .int p1), (2, .int p2)], [.ref p0], h, 0, 0)) rfl ?_
          obtain ⟨v21, e22, hq⟩ := bsm hq
          refine r_gJ odX7_where rfl rfl e22 ?_
          refine mB_run odX7_where 1 (g := (59, [(3, .int ((24 : Int32) * p2)), (0, .ref p0), (1, .int p1), (2, .int p2)], [.ref p0, .long v21], h, 0, 0)) rfl ?_
          obtain ⟨v23, e24, hq⟩ := bsm hq
          refine r_gJ odX7_where rfl rfl e24 ?_
          refine mB_run odX7_where 1 (g := (63, [(3, .int ((24 : Int32) * p2)), (0, .ref p0), (1, .int p1), (2, .int p2)], [.ref p0, .long v23, .long v21], h, 0, 0)) rfl ?_
          obtain ⟨v25, e26, hq⟩ := bsm hq
          refine r_gR odX7_where rfl rfl e26 ?_
          refine mB_run odX7_where 1 (g := (67, [(3, .int ((24 : Int32) * p2)), (0, .ref p0), (1, .int p1), (2, .int p2)], [.int ((24 : Int32) * p2), .ref v25, .long v23, .long v21], h, 0, 0)) rfl ?_
          obtain ⟨v27, e28, hq⟩ := bsm hq
          refine r_aJ odX7_where rfl e28 ?_
          refine mB_run odX7_where 1 (g := (69, [(3, .int ((24 : Int32) * p2)), (0, .ref p0), (1, .int p1), (2, .int p2)], [.long (v23 * v27), .long v21], h, 0, 0)) rfl ?_
          by_cases c29 : v21 = (v23 * v27)
          · rw [if_pos c29] at hq
            refine lc_ne_F (t := 77) odX7_where rfl rfl rfl c29 ?_
            refine mB_run odX7_where 2 (g := (78, [(3, .int ((24 : Int32) * p2)), (0, .ref p0), (1, .int p1), (2, .int p2)], [.int (1 : Int32)], h, 0, 0)) rfl ?_
            cases hq
            exact mB_ret odX7_where rfl
          · rw [if_neg c29] at hq
            refine lc_ne_T (t := 77) odX7_where rfl rfl rfl c29 ?_
            refine mB_run odX7_where 1 (g := (78, [(3, .int ((24 : Int32) * p2)), (0, .ref p0), (1, .int p1), (2, .int p2)], [.int (0 : Int32)], h, 0, 0)) rfl ?_
            cases hq
            exact mB_ret odX7_where rfl
        · rw [if_neg c20] at hq
          refine lc_ne_T (t := 77) odX7_where rfl rfl rfl c20 ?_
          refine mB_run odX7_where 1 (g := (78, [(3, .int ((24 : Int32) * p2)), (0, .ref p0), (1, .int p1), (2, .int p2)], [.int (0 : Int32)], h, 0, 0)) rfl ?_
          cases hq
          exact mB_ret odX7_where rfl
      · rw [if_neg c11] at hq
        refine lc_ne_T (t := 77) odX7_where rfl rfl rfl c11 ?_
        refine mB_run odX7_where 1 (g := (78, [(3, .int ((24 : Int32) * p2)), (0, .ref p0), (1, .int p1), (2, .int p2)], [.int (0 : Int32)], h, 0, 0)) rfl ?_
        cases hq
        exact mB_ret odX7_where rfl
    · rw [if_neg c2] at hq
      refine ic_ne_T (t := 79) odX7_where rfl rfl c2 ?_
      refine mB_run odX7_where 2 (g := (81, [(3, .int ((24 : Int32) * p2)), (0, .ref p0), (1, .int p1), (2, .int p2)], [.int (2 : Int32), .int p1], h, 0, 0)) rfl ?_
      by_cases c30 : p1 = (2 : Int32)
      · rw [if_pos c30] at hq
        refine ic_ne_F (t := 101) odX7_where rfl rfl c30 ?_
        refine mB_run odX7_where 5 (g := (89, [(3, .int ((24 : Int32) * p2)), (0, .ref p0), (1, .int p1), (2, .int p2)], [.int (((24 : Int32) * p2) + (1 : Int32)), .int ((24 : Int32) * p2), .ref p0], h, 0, 0)) rfl ?_
        obtain ⟨f33, k34, hq⟩ := bsm hq
        obtain ⟨o31, e32, hq⟩ := bsm hq
        refine mB_V (as := [.int ((24 : Int32) * p2), .int (((24 : Int32) * p2) + (1 : Int32))]) odX7_where okX7_onLine lk_7_265 rfl (exX7_onLine e32) (kO_at k34) rfl rfl rfl ?_
        show mB _ mX7_where (92, [(3, .int ((24 : Int32) * p2)), (0, .ref p0), (1, .int p1), (2, .int p2)], [.int o31.2], o31.1, 0, 0)
        by_cases c35 : o31.2 = 0
        · rw [if_pos c35] at hq
          refine if_eq_T (t := 99) odX7_where rfl rfl c35 ?_
          refine mB_run odX7_where 1 (g := (100, [(3, .int ((24 : Int32) * p2)), (0, .ref p0), (1, .int p1), (2, .int p2)], [.int (0 : Int32)], o31.1, 0, 0)) rfl ?_
          cases hq
          exact mB_ret odX7_where rfl
        · rw [if_neg c35] at hq
          refine if_eq_F (t := 99) odX7_where rfl rfl c35 ?_
          refine mB_run odX7_where 2 (g := (100, [(3, .int ((24 : Int32) * p2)), (0, .ref p0), (1, .int p1), (2, .int p2)], [.int (1 : Int32)], o31.1, 0, 0)) rfl ?_
          cases hq
          exact mB_ret odX7_where rfl
      · rw [if_neg c30] at hq
        refine ic_ne_T (t := 101) odX7_where rfl rfl c30 ?_
        refine mB_run odX7_where 2 (g := (103, [(3, .int ((24 : Int32) * p2)), (0, .ref p0), (1, .int p1), (2, .int p2)], [.int (3 : Int32), .int p1], h, 0, 0)) rfl ?_
        by_cases c36 : p1 = (3 : Int32)
        · rw [if_pos c36] at hq
          refine ic_ne_F (t := 137) odX7_where rfl rfl c36 ?_
          refine mB_run odX7_where 4 (g := (111, [(3, .int ((24 : Int32) * p2)), (0, .ref p0), (1, .int p1), (2, .int p2)], [.int ((64 : Int32) * p2), .ref p0], h, 0, 0)) rfl ?_
          obtain ⟨f39, k40, hq⟩ := bsm hq
          obtain ⟨o37, e38, hq⟩ := bsm hq
          refine mB_V (as := [.int ((64 : Int32) * p2)]) odX7_where okX7_overFace lk_7_268 rfl (exX7_overFace e38) (kO_at k40) rfl rfl rfl ?_
          show mB _ mX7_where (114, [(3, .int ((24 : Int32) * p2)), (0, .ref p0), (1, .int p1), (2, .int p2)], [.long o37.2], o37.1, 0, 0)
          refine mB_run odX7_where 1 (g := (115, [(3, .int ((24 : Int32) * p2)), (0, .ref p0), (1, .int p1), (2, .int p2)], [.long (0 : Int64), .long o37.2], o37.1, 0, 0)) rfl ?_
          by_cases c41 : o37.2 = (0 : Int64)
          · rw [if_pos c41] at hq
            refine lc_ne_F (t := 135) odX7_where rfl rfl rfl c41 ?_
            refine mB_run odX7_where 5 (g := (125, [(3, .int ((24 : Int32) * p2)), (0, .ref p0), (1, .int p1), (2, .int p2)], [.int ((64 : Int32) * p2), .int p2, .ref p0], o37.1, 0, 0)) rfl ?_
            obtain ⟨f44, k45, hq⟩ := bsm hq
            obtain ⟨o42, e43, hq⟩ := bsm hq
            refine mB_V (as := [.int p2, .int ((64 : Int32) * p2)]) odX7_where okX7_isOver lk_7_271 rfl (exX7_isOver e43) (kO_at k45) rfl rfl rfl ?_
            show mB _ mX7_where (128, [(3, .int ((24 : Int32) * p2)), (0, .ref p0), (1, .int p1), (2, .int p2)], [.int o42.2], o42.1, 0, 0)
            by_cases c46 : o42.2 = 0
            · rw [if_pos c46] at hq
              refine if_eq_T (t := 135) odX7_where rfl rfl c46 ?_
              refine mB_run odX7_where 1 (g := (136, [(3, .int ((24 : Int32) * p2)), (0, .ref p0), (1, .int p1), (2, .int p2)], [.int (0 : Int32)], o42.1, 0, 0)) rfl ?_
              cases hq
              exact mB_ret odX7_where rfl
            · rw [if_neg c46] at hq
              refine if_eq_F (t := 135) odX7_where rfl rfl c46 ?_
              refine mB_run odX7_where 2 (g := (136, [(3, .int ((24 : Int32) * p2)), (0, .ref p0), (1, .int p1), (2, .int p2)], [.int (1 : Int32)], o42.1, 0, 0)) rfl ?_
              cases hq
              exact mB_ret odX7_where rfl
          · rw [if_neg c41] at hq
            refine lc_ne_T (t := 135) odX7_where rfl rfl rfl c41 ?_
            refine mB_run odX7_where 1 (g := (136, [(3, .int ((24 : Int32) * p2)), (0, .ref p0), (1, .int p1), (2, .int p2)], [.int (0 : Int32)], o37.1, 0, 0)) rfl ?_
            cases hq
            exact mB_ret odX7_where rfl
        · rw [if_neg c36] at hq
          refine ic_ne_T (t := 137) odX7_where rfl rfl c36 ?_
          refine mB_run odX7_where 6 (g := (146, [(5, .int ((64 : Int32) * p2)), (4, .int (2 : Int32)), (3, .int ((24 : Int32) * p2)), (0, .ref p0), (1, .int p1), (2, .int p2)], [], h, 0, 0)) rfl ?_
          refine mB_lv [3, 5, 1, 0] (lv' := [(0, .ref p0), (2, .int p2), (4, .int (2 : Int32)), (5, .int ((64 : Int32) * p2))]) rfl ?_
          exact exX7_where_146 N _ _ _ _ _ hq
def fxX7_isFar (N : Nat) (p0 : Int32) (h : mh) : Option (mh × Int32) :=
  if p0 < (-1000000 : Int32) then (
    some (h, (1 : Int32))) else (
    if p0 ≤ (1000000 : Int32) then (
      some (h, (0 : Int32))) else (
      some (h, (1 : Int32))))
set_option maxHeartbeats 4000000 in
set_option maxRecDepth 100000 in
theorem exX7_isFar {N : Nat} {p0 : Int32} {h : mh} {o : (mh × Int32)} (hq : fxX7_isFar N p0 h = some o) : mC mX7_isFar [.int p0] h (o.1, some (.int o.2)) := by
  refine mC_of okX7_isFar (Nat.le_of_ble_eq_true rfl) ?_
  unfold fxX7_isFar at hq
  show mB _ mX7_isFar (0, [(0, .int p0)], [], h, 0, 0)
  refine mB_run odX7_isFar 2 (g := (4, [(0, .int p0)], [.int (-1000000 : Int32), .int p0], h, 0, 0)) rfl ?_
  by_cases c1 : p0 < (-1000000 : Int32)
  · rw [if_pos c1] at hq
    refine ic_lt_T (t := 14) odX7_isFar rfl rfl c1 ?_
    refine mB_run odX7_isFar 2 (g := (19, [(0, .int p0)], [.int (1 : Int32)], h, 0, 0)) rfl ?_
    cases hq
    exact mB_ret odX7_isFar rfl
  · rw [if_neg c1] at hq
    refine ic_lt_F (t := 14) odX7_isFar rfl rfl c1 ?_
    refine mB_run odX7_isFar 2 (g := (11, [(0, .int p0)], [.int (1000000 : Int32), .int p0], h, 0, 0)) rfl ?_
    by_cases c2 : p0 ≤ (1000000 : Int32)
    · rw [if_pos c2] at hq
      refine ic_le_T (t := 18) odX7_isFar rfl rfl c2 ?_
      refine mB_run odX7_isFar 1 (g := (19, [(0, .int p0)], [.int (0 : Int32)], h, 0, 0)) rfl ?_
      cases hq
      exact mB_ret odX7_isFar rfl
    · rw [if_neg c2] at hq
      refine ic_le_F (t := 18) odX7_isFar rfl rfl c2 ?_
      refine mB_run odX7_isFar 2 (g := (19, [(0, .int p0)], [.int (1 : Int32)], h, 0, 0)) rfl ?_
      cases hq
      exact mB_ret odX7_isFar rfl
def fxX7_points (N : Nat) (p0 : Nat) (p1 : Int64) (p2 : Int64) (p3 : Int64) (p4 : Int64) (h : mh) : Option mh :=
  (sV h p0 7 39 (.long p1)).bind fun h1 =>
  (sV h1 p0 7 40 (.long p2)).bind fun h3 =>
  (sV h3 p0 7 41 (.long p3)).bind fun h5 =>
  (sV h5 p0 7 42 (.long p4)).bind fun h7 =>
  some h7
set_option maxHeartbeats 4000000 in
set_option maxRecDepth 100000 in
theorem exX7_points {N : Nat} {p0 : Nat} {p1 : Int64} {p2 : Int64} {p3 : Int64} {p4 : Int64} {h : mh} {o : mh} (hq : fxX7_points N p0 p1 p2 p3 p4 h = some o) : mC mX7_points [.ref p0, .long p1, .long p2, .long p3, .long p4] h (o, none) := by
  refine mC_of okX7_points (Nat.le_of_ble_eq_true rfl) ?_
  unfold fxX7_points at hq
  show mB _ mX7_points (0, [(0, .ref p0), (1, .long p1), (3, .long p2), (5, .long p3), (7, .long p4)], [], h, 0, 0)
  refine mB_run odX7_points 2 (g := (2, [(0, .ref p0), (1, .long p1), (3, .long p2), (5, .long p3), (7, .long p4)], [.long p1, .ref p0], h, 0, 0)) rfl ?_
  obtain ⟨h1, e2, hq⟩ := bsm hq
  refine r_sV odX7_points rfl rfl rfl rfl e2 ?_
  refine mB_run odX7_points 2 (g := (7, [(0, .ref p0), (1, .long p1), (3, .long p2), (5, .long p3), (7, .long p4)], [.long p2, .ref p0], h1, 0, 0)) rfl ?_
  obtain ⟨h3, e4, hq⟩ := bsm hq
  refine r_sV odX7_points rfl rfl rfl rfl e4 ?_
  refine mB_run odX7_points 2 (g := (13, [(0, .ref p0), (1, .long p1), (3, .long p2), (5, .long p3), (7, .long p4)], [.long p3, .ref p0], h3, 0, 0)) rfl ?_
  obtain ⟨h5, e6, hq⟩ := bsm hq
  refine r_sV odX7_points rfl rfl rfl rfl e6 ?_
  refine mB_run odX7_points 2 (g := (19, [(0, .ref p0), (1, .long p1), (3, .long p2), (5, .long p3), (7, .long p4)], [.long p4, .ref p0], h5, 0, 0)) rfl ?_
  obtain ⟨h7, e8, hq⟩ := bsm hq
  refine r_sV odX7_points rfl rfl rfl rfl e8 ?_
  cases hq
  exact mB_ret odX7_points rfl
