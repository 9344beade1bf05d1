def mxX7_volume (N : Nat) (p1 : Int32) (h : mS) : Option (mS × Int64) :=
  (mxX7_isSolid N p1 h).bind fun o1 =>
  if o1.2 = 0 then (
    some (o1.1, (-1 : Int64))) else (
    (rA o1.1 5 p1).bind fun v4 =>
    if (4 : Int32) ≤ v4 then (
      (mxX7_knows N p1 (0 : Int32) o1.1).bind fun o7 =>
      (mxX7_adds N  o7).bind fun o9 =>
      some (o9, (o9.2.1 47))) else (
      some (o1.1, (0 : Int64))))
set_option maxHeartbeats 4000000 in
set_option maxRecDepth 100000 in
theorem emX7_volume {N : Nat} {C : mh} (hC : C.length = 239) {p1 : Int32} {h : mS} {o : (mS × Int64)} (hq : mxX7_volume N p1 h = some o) : mC mX7_volume [.ref 239, .int p1] (hM C h) (hM C o.1, some (.long o.2)) := by
  refine mC_of okX7_volume (Nat.le_of_ble_eq_true rfl) ?_
  unfold mxX7_volume at hq
  show mB _ mX7_volume (0, [(0, .ref 239), (1, .int p1)], [], (hM C h), 0, 0)
  refine mB_run odX7_volume 1 (g := (1, [(0, .ref 239), (1, .int p1)], [.int p1], (hM C h), 0, 0)) rfl ?_
  obtain ⟨o1, e2, hq⟩ := bsm hq
  refine mB_S (as := [.int p1]) odX7_volume okX7_isSolid lk_7_133 rfl (emX7_isSolid hC e2) rfl rfl rfl ?_
  show mB _ mX7_volume (4, [(0, .ref 239), (1, .int p1)], [.int o1.2], (hM C o1.1), 0, 0)
  by_cases c3 : o1.2 = 0
  · rw [if_pos c3] at hq
    refine if_ne_F (t := 11) odX7_volume rfl rfl c3 ?_
    refine mB_run odX7_volume 1 (g := (10, [(0, .ref 239), (1, .int p1)], [.long (-1 : Int64)], (hM C o1.1), 0, 0)) rfl ?_
    cases hq
    exact mB_ret odX7_volume rfl
  · rw [if_neg c3] at hq
    refine if_ne_T (t := 11) odX7_volume rfl rfl c3 ?_
    refine mB_run odX7_volume 1 (g := (12, [(0, .ref 239), (1, .int p1)], [.ref 239], (hM C o1.1), 0, 0)) rfl ?_
    refine r_gR odX7_volume rfl rfl (md_5 hC) ?_
    refine mB_run odX7_volume 1 (g := (16, [(0, .ref 239), (1, .int p1)], [.int p1, .ref 245], (hM C o1.1), 0, 0)) rfl ?_
    obtain ⟨v4, e5, hq⟩ := bsm hq
    refine r_aI odX7_volume rfl (ra_5 hC e5) ?_
    refine mB_run odX7_volume 1 (g := (18, [(0, .ref 239), (1, .int p1)], [.int (4 : Int32), .int v4], (hM C o1.1), 0, 0)) rfl ?_
    by_cases c6 : (4 : Int32) ≤ v4
    · rw [if_pos c6] at hq
      refine ic_ge_T (t := 23) odX7_volume rfl rfl c6 ?_
      refine mB_run odX7_volume 3 (g := (26, [(0, .ref 239), (1, .int p1)], [.int (0 : Int32), .int p1, .ref 239], (hM C o1.1), 0, 0)) rfl ?_
      obtain ⟨o7, e8, hq⟩ := bsm hq
      refine mB_V (as := [.int p1, .int (0 : Int32)]) odX7_volume okX7_knows lk_7_244 rfl (emX7_knows hC e8) (kO_at (md_O hC)) rfl rfl rfl ?_
      show mB _ mX7_volume (29, [(0, .ref 239), (1, .int p1)], [], (hM C o7), 0, 0)
      refine mB_run odX7_volume 1 (g := (30, [(0, .ref 239), (1, .int p1)], [.ref 239], (hM C o7), 0, 0)) rfl ?_
      obtain ⟨o9, e10, hq⟩ := bsm hq
      refine mB_V (as := []) odX7_volume okX7_adds lk_7_308 rfl (emX7_adds hC e10) (kO_at (md_O hC)) rfl rfl rfl ?_
      show mB _ mX7_volume (33, [(0, .ref 239), (1, .int p1)], [], (hM C o9), 0, 0)
      refine mB_run odX7_volume 1 (g := (34, [(0, .ref 239), (1, .int p1)], [.ref 239], (hM C o9), 0, 0)) rfl ?_
      refine r_gJ odX7_volume rfl rfl (md_47 hC) ?_
      cases hq
      exact mB_ret odX7_volume rfl
    · rw [if_neg c6] at hq
      refine ic_ge_F (t := 23) odX7_volume rfl rfl c6 ?_
      refine mB_run odX7_volume 1 (g := (22, [(0, .ref 239), (1, .int p1)], [.long (0 : Int64)], (hM C o1.1), 0, 0)) rfl ?_
      cases hq
      exact mB_ret odX7_volume rfl
def mxX7_middle_74 (N : Nat) (x3 : Int32) (y0 : Int64) (h : mS) : Option (mS × Int64) :=
  (mxX7_common N y0 ((4 : Int64) * (h.2.1 47)) h).bind fun o17 =>
  if x3 = 0 then (
    if o17.2 = 0 then none else
    some (o17.1, (y0 / o17.2))) else (
    if o17.2 = 0 then none else
    some (o17.1, (((4 : Int64) * (o17.1.2.1 47)) / o17.2)))
set_option maxHeartbeats 4000000 in
set_option maxRecDepth 100000 in
theorem emX7_middle_74 {N : Nat} {C : mh} (hC : C.length = 239) (x3 : Int32) (y0 : Int64) (h : mS) {o : (mS × Int64)} (hq : mxX7_middle_74 N x3 y0 h = some o) : mB (gO mX7_middle (hM C o.1, some (.long o.2))) mX7_middle (74, [(0, .ref 239), (3, .int x3)], [.long y0], (hM C h), 0, 0) := by
  unfold mxX7_middle_74 at hq
  refine mB_run odX7_middle 4 (g := (82, [(4, .long y0), (0, .ref 239), (3, .int x3)], [.ref 239, .long (4 : Int64), .long y0], (hM C h), 0, 0)) rfl ?_
  refine r_gJ odX7_middle rfl rfl (md_47 hC) ?_
  refine mB_run odX7_middle 1 (g := (86, [(4, .long y0), (0, .ref 239), (3, .int x3)], [.long ((4 : Int64) * (h.2.1 47)), .long y0], (hM C h), 0, 0)) rfl ?_
  obtain ⟨o17, e18, hq⟩ := bsm hq
  refine mB_S (as := [.long y0, .long ((4 : Int64) * (h.2.1 47))]) odX7_middle okX7_common lk_7_158 rfl (emX7_common hC e18) rfl rfl rfl ?_
  show mB _ mX7_middle (89, [(4, .long y0), (0, .ref 239), (3, .int x3)], [.long o17.2], (hM C o17.1), 0, 0)
  refine mB_run odX7_middle 2 (g := (92, [(6, .long o17.2), (4, .long y0), (0, .ref 239), (3, .int x3)], [.int x3], (hM C o17.1), 0, 0)) rfl ?_
  by_cases c19 : x3 = 0
  · rw [if_pos c19] at hq
    refine if_ne_F (t := 103) odX7_middle rfl rfl c19 ?_
    refine mB_run odX7_middle 2 (g := (99, [(6, .long o17.2), (4, .long y0), (0, .ref 239), (3, .int x3)], [.long o17.2, .long y0], (hM C o17.1), 0, 0)) rfl ?_
    by_cases c20 : o17.2 = 0
    · rw [if_pos c20] at hq; cases hq
    rw [if_neg c20] at hq
    refine r_ldiv odX7_middle rfl c20 ?_
    refine mB_run odX7_middle 1 (g := (114, [(6, .long o17.2), (4, .long y0), (0, .ref 239), (3, .int x3)], [.long (y0 / o17.2)], (hM C o17.1), 0, 0)) rfl ?_
    cases hq
    exact mB_ret odX7_middle rfl
  · rw [if_neg c19] at hq
    refine if_ne_T (t := 103) odX7_middle rfl rfl c19 ?_
    refine mB_run odX7_middle 2 (g := (107, [(6, .long o17.2), (4, .long y0), (0, .ref 239), (3, .int x3)], [.ref 239, .long (4 : Int64)], (hM C o17.1), 0, 0)) rfl ?_
    refine r_gJ odX7_middle rfl rfl (md_47 hC) ?_
    refine mB_run odX7_middle 2 (g := (113, [(6, .long o17.2), (4, .long y0), (0, .ref 239), (3, .int x3)], [.long o17.2, .long ((4 : Int64) * (o17.1.2.1 47))], (hM C o17.1), 0, 0)) rfl ?_
    by_cases c21 : o17.2 = 0
    · rw [if_pos c21] at hq; cases hq
    rw [if_neg c21] at hq
    refine r_ldiv odX7_middle rfl c21 ?_
    cases hq
    exact mB_ret odX7_middle rfl
def mxX7_middle_37 (N : Nat) (x1 : Int32) (x2 : Int32) (x3 : Int32) (h : mS) : Option (mS × Int64) :=
  (mxX7_knows N x1 (0 : Int32) h).bind fun o11 =>
  (mxX7_adds N  o11).bind fun o13 =>
  if x2 = 0 then (
    mxX7_middle_74 N x3 (o13.2.1 48) o13) else (
    if x2 = (1 : Int32) then (
      mxX7_middle_74 N x3 (o13.2.1 49) o13) else (
      mxX7_middle_74 N x3 (o13.2.1 50) o13))
set_option maxHeartbeats 4000000 in
set_option maxRecDepth 100000 in
theorem emX7_middle_37 {N : Nat} {C : mh} (hC : C.length = 239) (x1 : Int32) (x2 : Int32) (x3 : Int32) (h : mS) {o : (mS × Int64)} (hq : mxX7_middle_37 N x1 x2 x3 h = some o) : mB (gO mX7_middle (hM C o.1, some (.long o.2))) mX7_middle (37, [(0, .ref 239), (1, .int x1), (2, .int x2), (3, .int x3)], [], (hM C h), 0, 0) := by
  unfold mxX7_middle_37 at hq
  refine mB_run odX7_middle 3 (g := (40, [(0, .ref 239), (1, .int x1), (2, .int x2), (3, .int x3)], [.int (0 : Int32), .int x1, .ref 239], (hM C h), 0, 0)) rfl ?_
  obtain ⟨o11, e12, hq⟩ := bsm hq
  refine mB_V (as := [.int x1, .int (0 : Int32)]) odX7_middle okX7_knows lk_7_244 rfl (emX7_knows hC e12) (kO_at (md_O hC)) rfl rfl rfl ?_
  show mB _ mX7_middle (43, [(0, .ref 239), (1, .int x1), (2, .int x2), (3, .int x3)], [], (hM C o11), 0, 0)
  refine mB_run odX7_middle 1 (g := (44, [(0, .ref 239), (1, .int x1), (2, .int x2), (3, .int x3)], [.ref 239], (hM C o11), 0, 0)) rfl ?_
  obtain ⟨o13, e14, hq⟩ := bsm hq
  refine mB_V (as := []) odX7_middle okX7_adds lk_7_308 rfl (emX7_adds hC e14) (kO_at (md_O hC)) rfl rfl rfl ?_
  show mB _ mX7_middle (47, [(0, .ref 239), (1, .int x1), (2, .int x2), (3, .int x3)], [], (hM C o13), 0, 0)
  refine mB_run odX7_middle 1 (g := (48, [(0, .ref 239), (1, .int x1), (2, .int x2), (3, .int x3)], [.int x2], (hM C o13), 0, 0)) rfl ?_
  by_cases c15 : x2 = 0
  · rw [if_pos c15] at hq
    refine if_ne_F (t := 58) odX7_middle rfl rfl c15 ?_
    refine mB_run odX7_middle 1 (g := (52, [(0, .ref 239), (1, .int x1), (2, .int x2), (3, .int x3)], [.ref 239], (hM C o13), 0, 0)) rfl ?_
    refine r_gJ odX7_middle rfl rfl (md_48 hC) ?_
    refine mB_run odX7_middle 1 (g := (74, [(0, .ref 239), (1, .int x1), (2, .int x2), (3, .int x3)], [.long (o13.2.1 48)], (hM C o13), 0, 0)) rfl ?_
    refine mB_lv [0, 3] (lv' := [(0, .ref 239), (3, .int x3)]) rfl ?_
    exact emX7_middle_74 hC _ _ _ hq
  · rw [if_neg c15] at hq
    refine if_ne_T (t := 58) odX7_middle rfl rfl c15 ?_
    refine mB_run odX7_middle 2 (g := (60, [(0, .ref 239), (1, .int x1), (2, .int x2), (3, .int x3)], [.int (1 : Int32), .int x2], (hM C o13), 0, 0)) rfl ?_
    by_cases c16 : x2 = (1 : Int32)
    · rw [if_pos c16] at hq
      refine ic_ne_F (t := 70) odX7_middle rfl rfl c16 ?_
      refine mB_run odX7_middle 1 (g := (64, [(0, .ref 239), (1, .int x1), (2, .int x2), (3, .int x3)], [.ref 239], (hM C o13), 0, 0)) rfl ?_
      refine r_gJ odX7_middle rfl rfl (md_49 hC) ?_
      refine mB_run odX7_middle 1 (g := (74, [(0, .ref 239), (1, .int x1), (2, .int x2), (3, .int x3)], [.long (o13.2.1 49)], (hM C o13), 0, 0)) rfl ?_
      refine mB_lv [0, 3] (lv' := [(0, .ref 239), (3, .int x3)]) rfl ?_
      exact emX7_middle_74 hC _ _ _ hq
    · rw [if_neg c16] at hq
      refine ic_ne_T (t := 70) odX7_middle rfl rfl c16 ?_
      refine mB_run odX7_middle 1 (g := (71, [(0, .ref 239), (1, .int x1), (2, .int x2), (3, .int x3)], [.ref 239], (hM C o13), 0, 0)) rfl ?_
      refine r_gJ odX7_middle rfl rfl (md_50 hC) ?_
      refine mB_lv [0, 3] (lv' := [(0, .ref 239), (3, .int x3)]) rfl ?_
      exact emX7_middle_74 hC _ _ _ hq
def mxX7_middle (N : Nat) (p1 : Int32) (p2 : Int32) (p3 : Int32) (h : mS) : Option (mS × Int64) :=
  (mxX7_isSolid N p1 h).bind fun o1 =>
  if o1.2 = 0 then (
    some (o1.1, (0 : Int64))) else (
    (rA o1.1 5 p1).bind fun v4 =>
    if v4 < (4 : Int32) then (
      some (o1.1, (0 : Int64))) else (
      if p2 < 0 then (
        some (o1.1, (0 : Int64))) else (
        if (2 : Int32) < p2 then (
          some (o1.1, (0 : Int64))) else (
          if p3 = 0 then (
            mxX7_middle_37 N p1 p2 p3 o1.1) else (
            if p3 = (1 : Int32) then (
              mxX7_middle_37 N p1 p2 p3 o1.1) else (
              some (o1.1, (0 : Int64))))))))
set_option maxHeartbeats 4000000 in
set_option maxRecDepth 100000 in
theorem emX7_middle {N : Nat} {C : mh} (hC : C.length = 239) {p1 : Int32} {p2 : Int32} {p3 : Int32} {h : mS} {o : (mS × Int64)} (hq : mxX7_middle N p1 p2 p3 h = some o) : mC mX7_middle [.ref 239, .int p1, .int p2, .int p3] (hM C h) (hM C o.1, some (.long o.2)) := by
  refine mC_of okX7_middle (Nat.le_of_ble_eq_true rfl) ?_
  unfold mxX7_middle at hq
  show mB _ mX7_middle (0, [(0, .ref 239), (1, .int p1), (2, .int p2), (3, .int p3)], [], (hM C h), 0, 0)
  refine mB_run odX7_middle 1 (g := (1, [(0, .ref 239), (1, .int p1), (2, .int p2), (3, .int p3)], [.int p1], (hM C h), 0, 0)) rfl ?_
  obtain ⟨o1, e2, hq⟩ := bsm hq
  refine mB_S (as := [.int p1]) odX7_middle okX7_isSolid lk_7_133 rfl (emX7_isSolid hC e2) rfl rfl rfl ?_
  show mB _ mX7_middle (4, [(0, .ref 239), (1, .int p1), (2, .int p2), (3, .int p3)], [.int o1.2], (hM C o1.1), 0, 0)
  by_cases c3 : o1.2 = 0
  · rw [if_pos c3] at hq
    refine if_eq_T (t := 35) odX7_middle rfl rfl c3 ?_
    refine mB_run odX7_middle 1 (g := (36, [(0, .ref 239), (1, .int p1), (2, .int p2), (3, .int p3)], [.long (0 : Int64)], (hM C o1.1), 0, 0)) rfl ?_
    cases hq
    exact mB_ret odX7_middle rfl
  · rw [if_neg c3] at hq
    refine if_eq_F (t := 35) odX7_middle rfl rfl c3 ?_
    refine mB_run odX7_middle 1 (g := (8, [(0, .ref 239), (1, .int p1), (2, .int p2), (3, .int p3)], [.ref 239], (hM C o1.1), 0, 0)) rfl ?_
    refine r_gR odX7_middle rfl rfl (md_5 hC) ?_
    refine mB_run odX7_middle 1 (g := (12, [(0, .ref 239), (1, .int p1), (2, .int p2), (3, .int p3)], [.int p1, .ref 245], (hM C o1.1), 0, 0)) rfl ?_
    obtain ⟨v4, e5, hq⟩ := bsm hq
    refine r_aI odX7_middle rfl (ra_5 hC e5) ?_
    refine mB_run odX7_middle 1 (g := (14, [(0, .ref 239), (1, .int p1), (2, .int p2), (3, .int p3)], [.int (4 : Int32), .int v4], (hM C o1.1), 0, 0)) rfl ?_
    by_cases c6 : v4 < (4 : Int32)
    · rw [if_pos c6] at hq
      refine ic_lt_T (t := 35) odX7_middle rfl rfl c6 ?_
      refine mB_run odX7_middle 1 (g := (36, [(0, .ref 239), (1, .int p1), (2, .int p2), (3, .int p3)], [.long (0 : Int64)], (hM C o1.1), 0, 0)) rfl ?_
      cases hq
      exact mB_ret odX7_middle rfl
    · rw [if_neg c6] at hq
      refine ic_lt_F (t := 35) odX7_middle rfl rfl c6 ?_
      refine mB_run odX7_middle 1 (g := (18, [(0, .ref 239), (1, .int p1), (2, .int p2), (3, .int p3)], [.int p2], (hM C o1.1), 0, 0)) rfl ?_
      by_cases c7 : p2 < 0
      · rw [if_pos c7] at hq
        refine if_lt_T (t := 35) odX7_middle rfl rfl c7 ?_
        refine mB_run odX7_middle 1 (g := (36, [(0, .ref 239), (1, .int p1), (2, .int p2), (3, .int p3)], [.long (0 : Int64)], (hM C o1.1), 0, 0)) rfl ?_
        cases hq
        exact mB_ret odX7_middle rfl
      · rw [if_neg c7] at hq
        refine if_lt_F (t := 35) odX7_middle rfl rfl c7 ?_
        refine mB_run odX7_middle 2 (g := (23, [(0, .ref 239), (1, .int p1), (2, .int p2), (3, .int p3)], [.int (2 : Int32), .int p2], (hM C o1.1), 0, 0)) rfl ?_
        by_cases c8 : (2 : Int32) < p2
        · rw [if_pos c8] at hq
          refine ic_gt_T (t := 35) odX7_middle rfl rfl c8 ?_
          refine mB_run odX7_middle 1 (g := (36, [(0, .ref 239), (1, .int p1), (2, .int p2), (3, .int p3)], [.long (0 : Int64)], (hM C o1.1), 0, 0)) rfl ?_
          cases hq
          exact mB_ret odX7_middle rfl
        · rw [if_neg c8] at hq
          refine ic_gt_F (t := 35) odX7_middle rfl rfl c8 ?_
          refine mB_run odX7_middle 1 (g := (27, [(0, .ref 239), (1, .int p1), (2, .int p2), (3, .int p3)], [.int p3], (hM C o1.1), 0, 0)) rfl ?_
          by_cases c9 : p3 = 0
          · rw [if_pos c9] at hq
            refine if_eq_T (t := 37) odX7_middle rfl rfl c9 ?_
            refine mB_lv [0, 1, 2, 3] (lv' := [(0, .ref 239), (1, .int p1), (2, .int p2), (3, .int p3)]) rfl ?_
            exact emX7_middle_37 hC _ _ _ _ hq
          · rw [if_neg c9] at hq
            refine if_eq_F (t := 37) odX7_middle rfl rfl c9 ?_
            refine mB_run odX7_middle 2 (g := (32, [(0, .ref 239), (1, .int p1), (2, .int p2), (3, .int p3)], [.int (1 : Int32), .int p3], (hM C o1.1), 0, 0)) rfl ?_
            by_cases c10 : p3 = (1 : Int32)
            · rw [if_pos c10] at hq
              refine ic_eq_T (t := 37) odX7_middle rfl rfl c10 ?_
              refine mB_lv [0, 1, 2, 3] (lv' := [(0, .ref 239), (1, .int p1), (2, .int p2), (3, .int p3)]) rfl ?_
              exact emX7_middle_37 hC _ _ _ _ hq
            · rw [if_neg c10] at hq
              refine ic_eq_F (t := 37) odX7_middle rfl rfl c10 ?_
              refine mB_run odX7_middle 1 (g := (36, [(0, .ref 239), (1, .int p1), (2, .int p2), (3, .int p3)], [.long (0 : Int64)], (hM C o1.1), 0, 0)) rfl ?_
              cases hq
              exact mB_ret odX7_middle rfl
def mxX7_far_85 (N : Nat) (rec32 : Int32 → Int32 → Int32 → Int32 → mS → Option (mS × Int32)) (rec47 : Int32 → Int32 → Int32 → Int32 → Int32 → mS → Option (mS × Int32)) (x2 : Int32) (x3 : Int32) (x4 : Int32) (x5 : Int32) (x6 : Int32) (h : mS) : Option (mS × Int32) :=
  rec47 x2 x3 x4 x5 (x6 + (1 : Int32)) h
set_option maxHeartbeats 4000000 in
set_option maxRecDepth 100000 in
theorem emX7_far_85 {N : Nat} {C : mh} (hC : C.length = 239) {rec32 : Int32 → Int32 → Int32 → Int32 → mS → Option (mS × Int32)} {rec47 : Int32 → Int32 → Int32 → Int32 → Int32 → mS → Option (mS × Int32)} (hrec32 : ∀ (x2 : Int32) (x3 : Int32) (x4 : Int32) (x5 : Int32) (h : mS) {o : (mS × Int32)}, rec32 x2 x3 x4 x5 h = some o → mB (gO mX7_far (hM C o.1, some (.int o.2))) mX7_far (32, [(0, .ref 239), (2, .int x2), (3, .int x3), (4, .int x4), (5, .int x5)], [], (hM C h), 0, 0)) (hrec47 : ∀ (x2 : Int32) (x3 : Int32) (x4 : Int32) (x5 : Int32) (x6 : Int32) (h : mS) {o : (mS × Int32)}, rec47 x2 x3 x4 x5 x6 h = some o → mB (gO mX7_far (hM C o.1, some (.int o.2))) mX7_far (47, [(0, .ref 239), (2, .int x2), (3, .int x3), (4, .int x4), (5, .int x5), (6, .int x6)], [], (hM C h), 0, 0)) (x2 : Int32) (x3 : Int32) (x4 : Int32) (x5 : Int32) (x6 : Int32) (h : mS) {o : (mS × Int32)} (hq : mxX7_far_85 N rec32 rec47 x2 x3 x4 x5 x6 h = some o) : mB (gO mX7_far (hM C o.1, some (.int o.2))) mX7_far (85, [(0, .ref 239), (2, .int x2), (3, .int x3), (4, .int x4), (5, .int x5), (6, .int x6)], [], (hM C h), 0, 0) := by
  unfold mxX7_far_85 at hq
  refine mB_run odX7_far 2 (g := (47, [(6, .int (x6 + (1 : Int32))), (0, .ref 239), (2, .int x2), (3, .int x3), (4, .int x4), (5, .int x5)], [], (hM C h), 0, 0)) rfl ?_
  refine mB_lv [1, 2, 3, 4, 5, 0] (lv' := [(0, .ref 239), (2, .int x2), (3, .int x3), (4, .int x4), (5, .int x5), (6, .int (x6 + (1 : Int32)))]) rfl ?_
  exact hrec47 _ _ _ _ _ _ hq
def mxX7_far_47 (N : Nat) (rec32 : Int32 → Int32 → Int32 → Int32 → mS → Option (mS × Int32)) : Nat → Int32 → Int32 → Int32 → Int32 → Int32 → mS → Option (mS × Int32)
  | 0, _, _, _, _, _, _ => none
  | n + 1, x2, x3, x4, x5, x6, h =>
    if (h.1 15) ≤ x6 then (
      rec32 x2 x3 x4 (x5 + (1 : Int32)) h) else (
      (mxX7_apartOf N x5 x6 h).bind fun o16 =>
      (mxX7_apartOf N x3 x4 o16.1).bind fun o18 =>
      if o18.2 < o16.2 then (
        mxX7_far_85 N rec32 (mxX7_far_47 N rec32 n) x2 x5 x6 x5 x6 o18.1) else (
        mxX7_far_85 N rec32 (mxX7_far_47 N rec32 n) x2 x3 x4 x5 x6 o18.1))
set_option maxHeartbeats 4000000 in
set_option maxRecDepth 100000 in
theorem emX7_far_47 {N : Nat} {C : mh} (hC : C.length = 239) {rec32 : Int32 → Int32 → Int32 → Int32 → mS → Option (mS × Int32)} (hrec32 : ∀ (x2 : Int32) (x3 : Int32) (x4 : Int32) (x5 : Int32) (h : mS) {o : (mS × Int32)}, rec32 x2 x3 x4 x5 h = some o → mB (gO mX7_far (hM C o.1, some (.int o.2))) mX7_far (32, [(0, .ref 239), (2, .int x2), (3, .int x3), (4, .int x4), (5, .int x5)], [], (hM C h), 0, 0)) : ∀ (n : Nat) (x2 : Int32) (x3 : Int32) (x4 : Int32) (x5 : Int32) (x6 : Int32) (h : mS) {o : (mS × Int32)}, mxX7_far_47 N rec32 n x2 x3 x4 x5 x6 h = some o → mB (gO mX7_far (hM C o.1, some (.int o.2))) mX7_far (47, [(0, .ref 239), (2, .int x2), (3, .int x3), (4, .int x4), (5, .int x5), (6, .int x6)], [], (hM C h), 0, 0) := by
  intro n
  induction n with
  | zero => intro x2 x3 x4 x5 x6 h o hq; cases hq
  | succ n ih =>
    intro x2 x3 x4 x5 x6 h o hq
    unfold mxX7_far_47 at hq
    refine mB_run odX7_far 2 (g := (50, [(0, .ref 239), (2, .int x2), (3, .int x3), (4, .int x4), (5, .int x5), (6, .int x6)], [.ref 239, .int x6], (hM C h), 0, 0)) rfl ?_
    refine r_gI odX7_far rfl rfl (md_15 hC) ?_
    by_cases c15 : (h.1 15) ≤ x6
    · rw [if_pos c15] at hq
      refine ic_ge_T (t := 91) odX7_far rfl rfl c15 ?_
      refine mB_run odX7_far 2 (g := (32, [(5, .int (x5 + (1 : Int32))), (0, .ref 239), (2, .int x2), (3, .int x3), (4, .int x4), (6, .int x6)], [], (hM C h), 0, 0)) rfl ?_
      refine mB_lv [1, 2, 3, 4, 0] (lv' := [(0, .ref 239), (2, .int x2), (3, .int x3), (4, .int x4), (5, .int (x5 + (1 : Int32)))]) rfl ?_
      exact hrec32 _ _ _ _ _ hq
    · rw [if_neg c15] at hq
      refine ic_ge_F (t := 91) odX7_far rfl rfl c15 ?_
      refine mB_run odX7_far 3 (g := (61, [(0, .ref 239), (2, .int x2), (3, .int x3), (4, .int x4), (5, .int x5), (6, .int x6)], [.int x6, .int x5, .ref 239], (hM C h), 0, 0)) rfl ?_
      obtain ⟨o16, e17, hq⟩ := bsm hq
      refine mB_V (as := [.int x5, .int x6]) odX7_far okX7_apartOf lk_7_174 rfl (emX7_apartOf hC e17) (kO_at (md_O hC)) rfl rfl rfl ?_
      show mB _ mX7_far (64, [(0, .ref 239), (2, .int x2), (3, .int x3), (4, .int x4), (5, .int x5), (6, .int x6)], [.long o16.2], (hM C o16.1), 0, 0)
      refine mB_run odX7_far 3 (g := (68, [(0, .ref 239), (2, .int x2), (3, .int x3), (4, .int x4), (5, .int x5), (6, .int x6)], [.int x4, .int x3, .ref 239, .long o16.2], (hM C o16.1), 0, 0)) rfl ?_
      obtain ⟨o18, e19, hq⟩ := bsm hq
      refine mB_V (as := [.int x3, .int x4]) odX7_far okX7_apartOf lk_7_174 rfl (emX7_apartOf hC e19) (kO_at (md_O hC)) rfl rfl rfl ?_
      show mB _ mX7_far (71, [(0, .ref 239), (2, .int x2), (3, .int x3), (4, .int x4), (5, .int x5), (6, .int x6)], [.long o18.2, .long o16.2], (hM C o18.1), 0, 0)
      by_cases c20 : o18.2 < o16.2
      · rw [if_pos c20] at hq
        refine lc_gt_T (t := 78) odX7_far rfl rfl rfl c20 ?_
        refine mB_run odX7_far 4 (g := (85, [(4, .int x6), (3, .int x5), (0, .ref 239), (2, .int x2), (5, .int x5), (6, .int x6)], [], (hM C o18.1), 0, 0)) rfl ?_
        refine mB_lv [2, 3, 1, 0, 4, 5] (lv' := [(0, .ref 239), (2, .int x2), (3, .int x5), (4, .int x6), (5, .int x5), (6, .int x6)]) rfl ?_
        exact emX7_far_85 hC hrec32 ih _ _ _ _ _ _ hq
      · rw [if_neg c20] at hq
        refine lc_gt_F (t := 78) odX7_far rfl rfl rfl c20 ?_
        refine mB_run odX7_far 1 (g := (85, [(0, .ref 239), (2, .int x2), (3, .int x3), (4, .int x4), (5, .int x5), (6, .int x6)], [], (hM C o18.1), 0, 0)) rfl ?_
        refine mB_lv [0, 1, 2, 3, 4, 5] (lv' := [(0, .ref 239), (2, .int x2), (3, .int x3), (4, .int x4), (5, .int x5), (6, .int x6)]) rfl ?_
        exact emX7_far_85 hC hrec32 ih _ _ _ _ _ _ hq
def mxX7_far_32 (N : Nat) : Nat → Int32 → Int32 → Int32 → Int32 → mS → Option (mS × Int32)
  | 0, _, _, _, _, _ => none
  | n + 1, x2, x3, x4, x5, h =>
    if (h.1 15) ≤ x5 then (
      if x2 = 0 then (
        some (h, x3)) else (
        if x2 = (1 : Int32) then (
          some (h, x4)) else (
          if x2 = (2 : Int32) then (
            (mxX7_apartOf N x3 x4 h).bind fun o13 =>
            some (o13.1, o13.2.toInt32)) else (
            some (h, (-1 : Int32)))))) else (
      mxX7_far_47 N (mxX7_far_32 N n) N x2 x3 x4 x5 (x5 + (1 : Int32)) h)
set_option maxHeartbeats 4000000 in
set_option maxRecDepth 100000 in
theorem emX7_far_32 {N : Nat} {C : mh} (hC : C.length = 239) : ∀ (n : Nat) (x2 : Int32) (x3 : Int32) (x4 : Int32) (x5 : Int32) (h : mS) {o : (mS × Int32)}, mxX7_far_32 N n x2 x3 x4 x5 h = some o → mB (gO mX7_far (hM C o.1, some (.int o.2))) mX7_far (32, [(0, .ref 239), (2, .int x2), (3, .int x3), (4, .int x4), (5, .int x5)], [], (hM C h), 0, 0) := by
  intro n
  induction n with
  | zero => intro x2 x3 x4 x5 h o hq; cases hq
  | succ n ih =>
    intro x2 x3 x4 x5 h o hq
    unfold mxX7_far_32 at hq
    refine mB_run odX7_far 2 (g := (35, [(0, .ref 239), (2, .int x2), (3, .int x3), (4, .int x4), (5, .int x5)], [.ref 239, .int x5], (hM C h), 0, 0)) rfl ?_
    refine r_gI odX7_far rfl rfl (md_15 hC) ?_
    by_cases c9 : (h.1 15) ≤ x5
    · rw [if_pos c9] at hq
      refine ic_ge_T (t := 97) odX7_far rfl rfl c9 ?_
      refine mB_run odX7_far 1 (g := (98, [(0, .ref 239), (2, .int x2), (3, .int x3), (4, .int x4), (5, .int x5)], [.int x2], (hM C h), 0, 0)) rfl ?_
      by_cases c10 : x2 = 0
      · rw [if_pos c10] at hq
        refine if_ne_F (t := 105) odX7_far rfl rfl c10 ?_
        refine mB_run odX7_far 2 (g := (132, [(0, .ref 239), (2, .int x2), (3, .int x3), (4, .int x4), (5, .int x5)], [.int x3], (hM C h), 0, 0)) rfl ?_
        cases hq
        exact mB_ret odX7_far rfl
      · rw [if_neg c10] at hq
        refine if_ne_T (t := 105) odX7_far rfl rfl c10 ?_
        refine mB_run odX7_far 2 (g := (107, [(0, .ref 239), (2, .int x2), (3, .int x3), (4, .int x4), (5, .int x5)], [.int (1 : Int32), .int x2], (hM C h), 0, 0)) rfl ?_
        by_cases c11 : x2 = (1 : Int32)
        · rw [if_pos c11] at hq
          refine ic_ne_F (t := 115) odX7_far rfl rfl c11 ?_
          refine mB_run odX7_far 2 (g := (132, [(0, .ref 239), (2, .int x2), (3, .int x3), (4, .int x4), (5, .int x5)], [.int x4], (hM C h), 0, 0)) rfl ?_
          cases hq
          exact mB_ret odX7_far rfl
        · rw [if_neg c11] at hq
          refine ic_ne_T (t := 115) odX7_far rfl rfl c11 ?_
          refine mB_run odX7_far 2 (g := (117, [(0, .ref 239), (2, .int x2), (3, .int x3), (4, .int x4), (5, .int x5)], [.int (2 : Int32), .int x2], (hM C h), 0, 0)) rfl ?_
          by_cases c12 : x2 = (2 : Int32)
          · rw [if_pos c12] at hq
            refine ic_ne_F (t := 131) odX7_far rfl rfl c12 ?_
            refine mB_run odX7_far 3 (g := (124, [(0, .ref 239), (2, .int x2), (3, .int x3), (4, .int x4), (5, .int x5)], [.int x4, .int x3, .ref 239], (hM C h), 0, 0)) rfl ?_
            obtain ⟨o13, e14, hq⟩ := bsm hq
            refine mB_V (as := [.int x3, .int x4]) odX7_far okX7_apartOf lk_7_174 rfl (emX7_apartOf hC e14) (kO_at (md_O hC)) rfl rfl rfl ?_
            show mB _ mX7_far (127, [(0, .ref 239), (2, .int x2), (3, .int x3), (4, .int x4), (5, .int x5)], [.long o13.2], (hM C o13.1), 0, 0)
            refine mB_run odX7_far 2 (g := (132, [(0, .ref 239), (2, .int x2), (3, .int x3), (4, .int x4), (5, .int x5)], [.int o13.2.toInt32], (hM C o13.1), 0, 0)) rfl ?_
            cases hq
            exact mB_ret odX7_far rfl
          · rw [if_neg c12] at hq
            refine ic_ne_T (t := 131) odX7_far rfl rfl c12 ?_
            refine mB_run odX7_far 1 (g := (132, [(0, .ref 239), (2, .int x2), (3, .int x3), (4, .int x4), (5, .int x5)], [.int (-1 : Int32)], (hM C h), 0, 0)) rfl ?_
            cases hq
            exact mB_ret odX7_far rfl
    · rw [if_neg c9] at hq
      refine ic_ge_F (t := 97) odX7_far rfl rfl c9 ?_
      refine mB_run odX7_far 4 (g := (47, [(6, .int (x5 + (1 : Int32))), (0, .ref 239), (2, .int x2), (3, .int x3), (4, .int x4), (5, .int x5)], [], (hM C h), 0, 0)) rfl ?_
      refine mB_lv [1, 2, 3, 4, 5, 0] (lv' := [(0, .ref 239), (2, .int x2), (3, .int x3), (4, .int x4), (5, .int x5), (6, .int (x5 + (1 : Int32)))]) rfl ?_
      exact emX7_far_47 hC ih N _ _ _ _ _ _ hq
def mxX7_far (N : Nat) (p1 : Int32) (p2 : Int32) (h : mS) : Option (mS × Int32) :=
  (mxX7_isSolid N p1 h).bind fun o1 =>
  if o1.2 = 0 then (
    some (o1.1, (-1 : Int32))) else (
    (rA o1.1 4 p1).bind fun v4 =>
    if (2 : Int32) ≤ v4 then (
      (mxX7_loads N p1 o1.1).bind fun o7 =>
      mxX7_far_32 N N p2 (0 : Int32) (1 : Int32) (0 : Int32) o7) else (
      some (o1.1, (-1 : Int32))))
set_option maxHeartbeats 4000000 in
set_option maxRecDepth 100000 in
theorem emX7_far {N : Nat} {C : mh} (hC : C.length = 239) {p1 : Int32} {p2 : Int32} {h : mS} {o : (mS × Int32)} (hq : mxX7_far N p1 p2 h = some o) : mC mX7_far [.ref 239, .int p1, .int p2] (hM C h) (hM C o.1, some (.int o.2)) := by
  refine mC_of okX7_far (Nat.le_of_ble_eq_true rfl) ?_
  unfold mxX7_far at hq
  show mB _ mX7_far (0, [(0, .ref 239), (1, .int p1), (2, .int p2)], [], (hM C h), 0, 0)
  refine mB_run odX7_far 1 (g := (1, [(0, .ref 239), (1, .int p1), (2, .int p2)], [.int p1], (hM C h), 0, 0)) rfl ?_
  obtain ⟨o1, e2, hq⟩ := bsm hq
  refine mB_S (as := [.int p1]) odX7_far okX7_isSolid lk_7_133 rfl (emX7_isSolid hC e2) rfl rfl rfl ?_
  show mB _ mX7_far (4, [(0, .ref 239), (1, .int p1), (2, .int p2)], [.int o1.2], (hM C o1.1), 0, 0)
  by_cases c3 : o1.2 = 0
  · rw [if_pos c3] at hq
    refine if_eq_T (t := 17) odX7_far rfl rfl c3 ?_
    refine mB_run odX7_far 1 (g := (18, [(0, .ref 239), (1, .int p1), (2, .int p2)], [.int (-1 : Int32)], (hM C o1.1), 0, 0)) rfl ?_
    cases hq
    exact mB_ret odX7_far rfl
  · rw [if_neg c3] at hq
    refine if_eq_F (t := 17) odX7_far rfl rfl c3 ?_
    refine mB_run odX7_far 1 (g := (8, [(0, .ref 239), (1, .int p1), (2, .int p2)], [.ref 239], (hM C o1.1), 0, 0)) rfl ?_
    refine r_gR odX7_far rfl rfl (md_4 hC) ?_
    refine mB_run odX7_far 1 (g := (12, [(0, .ref 239), (1, .int p1), (2, .int p2)], [.int p1, .ref 244], (hM C o1.1), 0, 0)) rfl ?_
    obtain ⟨v4, e5, hq⟩ := bsm hq
    refine r_aI odX7_far rfl (ra_4 hC e5) ?_
    refine mB_run odX7_far 1 (g := (14, [(0, .ref 239), (1, .int p1), (2, .int p2)], [.int (2 : Int32), .int v4], (hM C o1.1), 0, 0)) rfl ?_
    by_cases c6 : (2 : Int32) ≤ v4
    · rw [if_pos c6] at hq
      refine ic_ge_T (t := 19) odX7_far rfl rfl c6 ?_
      refine mB_run odX7_far 2 (g := (21, [(0, .ref 239), (1, .int p1), (2, .int p2)], [.int p1, .ref 239], (hM C o1.1), 0, 0)) rfl ?_
      obtain ⟨o7, e8, hq⟩ := bsm hq
      refine mB_V (as := [.int p1]) odX7_far okX7_loads lk_7_226 rfl (emX7_loads hC e8) (kO_at (md_O hC)) rfl rfl rfl ?_
      show mB _ mX7_far (24, [(0, .ref 239), (1, .int p1), (2, .int p2)], [], (hM C o7), 0, 0)
      refine mB_run odX7_far 6 (g := (32, [(5, .int (0 : Int32)), (4, .int (1 : Int32)), (3, .int (0 : Int32)), (0, .ref 239), (1, .int p1), (2, .int p2)], [], (hM C o7), 0, 0)) rfl ?_
      refine mB_lv [3, 5, 2, 1, 0] (lv' := [(0, .ref 239), (2, .int p2), (3, .int (0 : Int32)), (4, .int (1 : Int32)), (5, .int (0 : Int32))]) rfl ?_
      exact emX7_far_32 hC N _ _ _ _ _ hq
    · rw [if_neg c6] at hq
      refine ic_ge_F (t := 19) odX7_far rfl rfl c6 ?_
      refine mB_run odX7_far 1 (g := (18, [(0, .ref 239), (1, .int p1), (2, .int p2)], [.int (-1 : Int32)], (hM C o1.1), 0, 0)) rfl ?_
      cases hq
      exact mB_ret odX7_far rfl
def mxX7_fractions_90 (N : Nat) (x8 : Int64) (x12 : Int64) (x16 : Int32) (h : mS) : Option (mS × Int32) :=
  if x8 = x12 then (
    some (h, (0 : Int32))) else (
    if x8 = (0 : Int64) then (
      some (h, (-x16))) else (
      some (h, x16)))
set_option maxHeartbeats 4000000 in
set_option maxRecDepth 100000 in
theorem emX7_fractions_90 {N : Nat} {C : mh} (hC : C.length = 239) (x8 : Int64) (x12 : Int64) (x16 : Int32) (h : mS) {o : (mS × Int32)} (hq : mxX7_fractions_90 N x8 x12 x16 h = some o) : mB (gO mX7_fractions (hM C o.1, some (.int o.2))) mX7_fractions (90, [(8, .long x8), (12, .long x12), (16, .int x16)], [], (hM C h), 0, 0) := by
  unfold mxX7_fractions_90 at hq
  refine mB_run odX7_fractions 2 (g := (94, [(8, .long x8), (12, .long x12), (16, .int x16)], [.long x12, .long x8], (hM C h), 0, 0)) rfl ?_
  by_cases c7 : x8 = x12
  · rw [if_pos c7] at hq
    refine lc_ne_F (t := 102) odX7_fractions rfl rfl rfl c7 ?_
    refine mB_run odX7_fractions 2 (g := (117, [(8, .long x8), (12, .long x12), (16, .int x16)], [.int (0 : Int32)], (hM C h), 0, 0)) rfl ?_
    cases hq
    exact mB_ret odX7_fractions rfl
  · rw [if_neg c7] at hq
    refine lc_ne_T (t := 102) odX7_fractions rfl rfl rfl c7 ?_
    refine mB_run odX7_fractions 2 (g := (105, [(8, .long x8), (12, .long x12), (16, .int x16)], [.long (0 : Int64), .long x8], (hM C h), 0, 0)) rfl ?_
    by_cases c8 : x8 = (0 : Int64)
    · rw [if_pos c8] at hq
      refine lc_ne_F (t := 115) odX7_fractions rfl rfl rfl c8 ?_
      refine mB_run odX7_fractions 3 (g := (117, [(8, .long x8), (12, .long x12), (16, .int x16)], [.int (-x16)], (hM C h), 0, 0)) rfl ?_
      cases hq
      exact mB_ret odX7_fractions rfl
    · rw [if_neg c8] at hq
      refine lc_ne_T (t := 115) odX7_fractions rfl rfl rfl c8 ?_
      refine mB_run odX7_fractions 1 (g := (117, [(8, .long x8), (12, .long x12), (16, .int x16)], [.int x16], (hM C h), 0, 0)) rfl ?_
      cases hq
      exact mB_ret odX7_fractions rfl
def mxX7_fractions_17 (N : Nat) : Nat → Int64 → Int64 → Int64 → Int64 → Int32 → mS → Option (mS × Int32)
  | 0, _, _, _, _, _, _ => none
  | n + 1, x8, x10, x12, x14, x16, h =>
    if x10 = 0 then none else
    if x14 = 0 then none else
    if (x8 / x10) = (x12 / x14) then (
      if (x8 - ((x8 / x10) * x10)) = (0 : Int64) then (
        mxX7_fractions_90 N (x8 - ((x8 / x10) * x10)) (x12 - ((x12 / x14) * x14)) x16 h) else (
        if (x12 - ((x12 / x14) * x14)) = (0 : Int64) then (
          mxX7_fractions_90 N (x8 - ((x8 / x10) * x10)) (x12 - ((x12 / x14) * x14)) x16 h) else (
          mxX7_fractions_17 N n x10 (x8 - ((x8 / x10) * x10)) x14 (x12 - ((x12 / x14) * x14)) (-x16) h))) else (
      if (x8 / x10) ≤ (x12 / x14) then (
        some (h, (-x16))) else (
        some (h, x16)))
set_option maxHeartbeats 4000000 in
set_option maxRecDepth 100000 in
theorem emX7_fractions_17 {N : Nat} {C : mh} (hC : C.length = 239) : ∀ (n : Nat) (x8 : Int64) (x10 : Int64) (x12 : Int64) (x14 : Int64) (x16 : Int32) (h : mS) {o : (mS × Int32)}, mxX7_fractions_17 N n x8 x10 x12 x14 x16 h = some o → mB (gO mX7_fractions (hM C o.1, some (.int o.2))) mX7_fractions (17, [(8, .long x8), (10, .long x10), (12, .long x12), (14, .long x14), (16, .int x16)], [], (hM C h), 0, 0) := by
  intro n
  induction n with
  | zero => intro x8 x10 x12 x14 x16 h o hq; cases hq
  | succ n ih =>
    intro x8 x10 x12 x14 x16 h o hq
    unfold mxX7_fractions_17 at hq
    refine mB_run odX7_fractions 2 (g := (21, [(8, .long x8), (10, .long x10), (12, .long x12), (14, .long x14), (16, .int x16)], [.long x10, .long x8], (hM C h), 0, 0)) rfl ?_
    by_cases c1 : x10 = 0
    · rw [if_pos c1] at hq; cases hq
    rw [if_neg c1] at hq
    refine r_ldiv odX7_fractions rfl c1 ?_
    refine mB_run odX7_fractions 3 (g := (28, [(17, .long (x8 / x10)), (8, .long x8), (10, .long x10), (12, .long x12), (14, .long x14), (16, .int x16)], [.long x14, .long x12], (hM C h), 0, 0)) rfl ?_
    by_cases c2 : x14 = 0
    · rw [if_pos c2] at hq; cases hq
    rw [if_neg c2] at hq
    refine r_ldiv odX7_fractions rfl c2 ?_
    refine mB_run odX7_fractions 3 (g := (35, [(19, .long (x12 / x14)), (17, .long (x8 / x10)), (8, .long x8), (10, .long x10), (12, .long x12), (14, .long x14), (16, .int x16)], [.long (x12 / x14), .long (x8 / x10)], (hM C h), 0, 0)) rfl ?_
    by_cases c3 : (x8 / x10) = (x12 / x14)
    · rw [if_pos c3] at hq
      refine lc_eq_T (t := 56) odX7_fractions rfl rfl rfl c3 ?_
      refine mB_run odX7_fractions 12 (g := (76, [(12, .long (x12 - ((x12 / x14) * x14))), (8, .long (x8 - ((x8 / x10) * x10))), (19, .long (x12 / x14)), (17, .long (x8 / x10)), (10, .long x10), (14, .long x14), (16, .int x16)], [], (hM C h), 0, 0)) rfl ?_
      refine mB_run odX7_fractions 2 (g := (79, [(12, .long (x12 - ((x12 / x14) * x14))), (8, .long (x8 - ((x8 / x10) * x10))), (19, .long (x12 / x14)), (17, .long (x8 / x10)), (10, .long x10), (14, .long x14), (16, .int x16)], [.long (0 : Int64), .long (x8 - ((x8 / x10) * x10))], (hM C h), 0, 0)) rfl ?_
      by_cases c4 : (x8 - ((x8 / x10) * x10)) = (0 : Int64)
      · rw [if_pos c4] at hq
        refine lc_eq_T (t := 90) odX7_fractions rfl rfl rfl c4 ?_
        refine mB_lv [1, 0, 6] (lv' := [(8, .long (x8 - ((x8 / x10) * x10))), (12, .long (x12 - ((x12 / x14) * x14))), (16, .int x16)]) rfl ?_
        exact emX7_fractions_90 hC _ _ _ _ hq
      · rw [if_neg c4] at hq
        refine lc_eq_F (t := 90) odX7_fractions rfl rfl rfl c4 ?_
        refine mB_run odX7_fractions 2 (g := (86, [(12, .long (x12 - ((x12 / x14) * x14))), (8, .long (x8 - ((x8 / x10) * x10))), (19, .long (x12 / x14)), (17, .long (x8 / x10)), (10, .long x10), (14, .long x14), (16, .int x16)], [.long (0 : Int64), .long (x12 - ((x12 / x14) * x14))], (hM C h), 0, 0)) rfl ?_
        by_cases c5 : (x12 - ((x12 / x14) * x14)) = (0 : Int64)
        · rw [if_pos c5] at hq
          refine lc_ne_F (t := 118) odX7_fractions rfl rfl rfl c5 ?_
          refine mB_lv [1, 0, 6] (lv' := [(8, .long (x8 - ((x8 / x10) * x10))), (12, .long (x12 - ((x12 / x14) * x14))), (16, .int x16)]) rfl ?_
          exact emX7_fractions_90 hC _ _ _ _ hq
        · rw [if_neg c5] at hq
          refine lc_ne_T (t := 118) odX7_fractions rfl rfl rfl c5 ?_
          refine mB_run odX7_fractions 12 (g := (142, [(14, .long (x12 - ((x12 / x14) * x14))), (12, .long x14), (21, .long (x12 - ((x12 / x14) * x14))), (10, .long (x8 - ((x8 / x10) * x10))), (8, .long x10), (19, .long (x12 / x14)), (17, .long (x8 / x10)), (16, .int x16)], [], (hM C h), 0, 0)) rfl ?_
          refine mB_run odX7_fractions 4 (g := (17, [(16, .int (-x16)), (14, .long (x12 - ((x12 / x14) * x14))), (12, .long x14), (21, .long (x12 - ((x12 / x14) * x14))), (10, .long (x8 - ((x8 / x10) * x10))), (8, .long x10), (19, .long (x12 / x14)), (17, .long (x8 / x10))], [], (hM C h), 0, 0)) rfl ?_
          refine mB_lv [5, 4, 2, 1, 0] (lv' := [(8, .long x10), (10, .long (x8 - ((x8 / x10) * x10))), (12, .long x14), (14, .long (x12 - ((x12 / x14) * x14))), (16, .int (-x16))]) rfl ?_
          exact ih _ _ _ _ _ _ hq
    · rw [if_neg c3] at hq
      refine lc_eq_F (t := 56) odX7_fractions rfl rfl rfl c3 ?_
      refine mB_run odX7_fractions 2 (g := (43, [(19, .long (x12 / x14)), (17, .long (x8 / x10)), (8, .long x8), (10, .long x10), (12, .long x12), (14, .long x14), (16, .int x16)], [.long (x12 / x14), .long (x8 / x10)], (hM C h), 0, 0)) rfl ?_
      by_cases c6 : (x8 / x10) ≤ (x12 / x14)
      · rw [if_pos c6] at hq
        refine lc_le_T (t := 52) odX7_fractions rfl rfl rfl c6 ?_
        refine mB_run odX7_fractions 2 (g := (55, [(19, .long (x12 / x14)), (17, .long (x8 / x10)), (8, .long x8), (10, .long x10), (12, .long x12), (14, .long x14), (16, .int x16)], [.int (-x16)], (hM C h), 0, 0)) rfl ?_
        cases hq
        exact mB_ret odX7_fractions rfl
      · rw [if_neg c6] at hq
        refine lc_le_F (t := 52) odX7_fractions rfl rfl rfl c6 ?_
        refine mB_run odX7_fractions 2 (g := (55, [(19, .long (x12 / x14)), (17, .long (x8 / x10)), (8, .long x8), (10, .long x10), (12, .long x12), (14, .long x14), (16, .int x16)], [.int x16], (hM C h), 0, 0)) rfl ?_
        cases hq
        exact mB_ret odX7_fractions rfl
def mxX7_fractions (N : Nat) (p0 : Int64) (p1 : Int64) (p2 : Int64) (p3 : Int64) (h : mS) : Option (mS × Int32) :=
  mxX7_fractions_17 N N p0 p1 p2 p3 (1 : Int32) h
set_option maxHeartbeats 4000000 in
set_option maxRecDepth 100000 in
theorem emX7_fractions {N : Nat} {C : mh} (hC : C.length = 239) {p0 : Int64} {p1 : Int64} {p2 : Int64} {p3 : Int64} {h : mS} {o : (mS × Int32)} (hq : mxX7_fractions N p0 p1 p2 p3 h = some o) : mC mX7_fractions [.long p0, .long p1, .long p2, .long p3] (hM C h) (hM C o.1, some (.int o.2)) := by
  refine mC_of okX7_fractions (Nat.le_of_ble_eq_true rfl) ?_
  unfold mxX7_fractions at hq
  show mB _ mX7_fractions (0, [(0, .long p0), (2, .long p1), (4, .long p2), (6, .long p3)], [], (hM C h), 0, 0)
  refine mB_run odX7_fractions 10 (g := (17, [(16, .int (1 : Int32)), (14, .long p3), (12, .long p2), (10, .long p1), (8, .long p0), (0, .long p0), (2, .long p1), (4, .long p2), (6, .long p3)], [], (hM C h), 0, 0)) rfl ?_
  refine mB_lv [4, 3, 2, 1, 0] (lv' := [(8, .long p0), (10, .long p1), (12, .long p2), (14, .long p3), (16, .int (1 : Int32))]) rfl ?_
  exact emX7_fractions_17 hC N _ _ _ _ _ _ hq
def mxX7_tries_24 (N : Nat) (x1 : Int64) (x3 : Int64) (h : mS) : Option mS :=
  (some (pI h 51 (1 : Int32))).bind fun s5 =>
  (some (pJ s5 52 x1)).bind fun s7 =>
  (some (pJ s7 53 x3)).bind fun s9 =>
  some s9
set_option maxHeartbeats 4000000 in
set_option maxRecDepth 100000 in
theorem emX7_tries_24 {N : Nat} {C : mh} (hC : C.length = 239) (x1 : Int64) (x3 : Int64) (h : mS) {o : mS} (hq : mxX7_tries_24 N x1 x3 h = some o) : mB (gO mX7_tries (hM C o, none)) mX7_tries (24, [(0, .ref 239), (1, .long x1), (3, .long x3)], [], (hM C h), 0, 0) := by
  unfold mxX7_tries_24 at hq
  refine mB_run odX7_tries 2 (g := (26, [(0, .ref 239), (1, .long x1), (3, .long x3)], [.int (1 : Int32), .ref 239], (hM C h), 0, 0)) rfl ?_
  obtain ⟨s5, e6, hq⟩ := bsm hq
  refine r_sV odX7_tries rfl rfl rfl rfl (pt_51 hC e6) ?_
  refine mB_run odX7_tries 2 (g := (31, [(0, .ref 239), (1, .long x1), (3, .long x3)], [.long x1, .ref 239], (hM C s5), 0, 0)) rfl ?_
  obtain ⟨s7, e8, hq⟩ := bsm hq
  refine r_sV odX7_tries rfl rfl rfl rfl (pt_52 hC e8) ?_
  refine mB_run odX7_tries 2 (g := (36, [(0, .ref 239), (1, .long x1), (3, .long x3)], [.long x3, .ref 239], (hM C s7), 0, 0)) rfl ?_
  obtain ⟨s9, e10, hq⟩ := bsm hq
  refine r_sV odX7_tries rfl rfl rfl rfl (pt_53 hC e10) ?_
  cases hq
  exact mB_ret odX7_tries rfl
def mxX7_tries (N : Nat) (p1 : Int64) (p2 : Int64) (h : mS) : Option mS :=
  if (h.1 51) = 0 then (
    mxX7_tries_24 N p1 p2 h) else (
    (mxX7_fractions N p1 p2 (h.2.1 52) (h.2.1 53) h).bind fun o2 =>
    if o2.2 < 0 then (
      mxX7_tries_24 N p1 p2 o2.1) else (
      some o2.1))
set_option maxHeartbeats 4000000 in
set_option maxRecDepth 100000 in
theorem emX7_tries {N : Nat} {C : mh} (hC : C.length = 239) {p1 : Int64} {p2 : Int64} {h : mS} {o : mS} (hq : mxX7_tries N p1 p2 h = some o) : mC mX7_tries [.ref 239, .long p1, .long p2] (hM C h) (hM C o, none) := by
  refine mC_of okX7_tries (Nat.le_of_ble_eq_true rfl) ?_
  unfold mxX7_tries at hq
  show mB _ mX7_tries (0, [(0, .ref 239), (1, .long p1), (3, .long p2)], [], (hM C h), 0, 0)
  refine mB_run odX7_tries 1 (g := (1, [(0, .ref 239), (1, .long p1), (3, .long p2)], [.ref 239], (hM C h), 0, 0)) rfl ?_
  refine r_gI odX7_tries rfl rfl (md_51 hC) ?_
  by_cases c1 : (h.1 51) = 0
  · rw [if_pos c1] at hq
    refine if_eq_T (t := 24) odX7_tries rfl rfl c1 ?_
    refine mB_lv [0, 1, 2] (lv' := [(0, .ref 239), (1, .long p1), (3, .long p2)]) rfl ?_
    exact emX7_tries_24 hC _ _ _ hq
  · rw [if_neg c1] at hq
    refine if_eq_F (t := 24) odX7_tries rfl rfl c1 ?_
    refine mB_run odX7_tries 3 (g := (10, [(0, .ref 239), (1, .long p1), (3, .long p2)], [.ref 239, .long p2, .long p1], (hM C h), 0, 0)) rfl ?_
    refine r_gJ odX7_tries rfl rfl (md_52 hC) ?_
    refine mB_run odX7_tries 1 (g := (14, [(0, .ref 239), (1, .long p1), (3, .long p2)], [.ref 239, .long (h.2.1 52), .long p2, .long p1], (hM C h), 0, 0)) rfl ?_
    refine r_gJ odX7_tries rfl rfl (md_53 hC) ?_
    obtain ⟨o2, e3, hq⟩ := bsm hq
    refine mB_S (as := [.long p1, .long p2, .long (h.2.1 52), .long (h.2.1 53)]) odX7_tries okX7_fractions lk_7_323 rfl (emX7_fractions hC e3) rfl rfl rfl ?_
    show mB _ mX7_tries (20, [(0, .ref 239), (1, .long p1), (3, .long p2)], [.int o2.2], (hM C o2.1), 0, 0)
    by_cases c4 : o2.2 < 0
    · rw [if_pos c4] at hq
      refine if_lt_T (t := 24) odX7_tries rfl rfl c4 ?_
      refine mB_lv [0, 1, 2] (lv' := [(0, .ref 239), (1, .long p1), (3, .long p2)]) rfl ?_
      exact emX7_tries_24 hC _ _ _ hq
    · rw [if_neg c4] at hq
      refine if_lt_F (t := 24) odX7_tries rfl rfl c4 ?_
      cases hq
      exact mB_ret odX7_tries rfl
def mxX7_told (N : Nat) (p1 : Int32) (h : mS) : Option (mS × Int64) :=
  (mxX7_common N (h.2.1 52) (h.2.1 53) h).bind fun o1 =>
  if p1 = 0 then (
    if o1.2 = 0 then none else
    some (o1.1, ((o1.1.2.1 52) / o1.2))) else (
    if p1 = (1 : Int32) then (
      if o1.2 = 0 then none else
      some (o1.1, ((o1.1.2.1 53) / o1.2))) else (
      some (o1.1, (-1 : Int64))))
set_option maxHeartbeats 4000000 in
set_option maxRecDepth 100000 in
theorem emX7_told {N : Nat} {C : mh} (hC : C.length = 239) {p1 : Int32} {h : mS} {o : (mS × Int64)} (hq : mxX7_told N p1 h = some o) : mC mX7_told [.ref 239, .int p1] (hM C h) (hM C o.1, some (.long o.2)) := by
  refine mC_of okX7_told (Nat.le_of_ble_eq_true rfl) ?_
  unfold mxX7_told at hq
  show mB _ mX7_told (0, [(0, .ref 239), (1, .int p1)], [], (hM C h), 0, 0)
  refine mB_run odX7_told 1 (g := (1, [(0, .ref 239), (1, .int p1)], [.ref 239], (hM C h), 0, 0)) rfl ?_
  refine r_gJ odX7_told rfl rfl (md_52 hC) ?_
  refine mB_run odX7_told 1 (g := (5, [(0, .ref 239), (1, .int p1)], [.ref 239, .long (h.2.1 52)], (hM C h), 0, 0)) rfl ?_
  refine r_gJ odX7_told rfl rfl (md_53 hC) ?_
  obtain ⟨o1, e2, hq⟩ := bsm hq
  refine mB_S (as := [.long (h.2.1 52), .long (h.2.1 53)]) odX7_told okX7_common lk_7_158 rfl (emX7_common hC e2) rfl rfl rfl ?_
  show mB _ mX7_told (11, [(0, .ref 239), (1, .int p1)], [.long o1.2], (hM C o1.1), 0, 0)
  refine mB_run odX7_told 2 (g := (13, [(2, .long o1.2), (0, .ref 239), (1, .int p1)], [.int p1], (hM C o1.1), 0, 0)) rfl ?_
  by_cases c3 : p1 = 0
  · rw [if_pos c3] at hq
    refine if_ne_F (t := 25) odX7_told rfl rfl c3 ?_
    refine mB_run odX7_told 1 (g := (17, [(2, .long o1.2), (0, .ref 239), (1, .int p1)], [.ref 239], (hM C o1.1), 0, 0)) rfl ?_
    refine r_gJ odX7_told rfl rfl (md_52 hC) ?_
    refine mB_run odX7_told 1 (g := (21, [(2, .long o1.2), (0, .ref 239), (1, .int p1)], [.long o1.2, .long (o1.1.2.1 52)], (hM C o1.1), 0, 0)) rfl ?_
    by_cases c4 : o1.2 = 0
    · rw [if_pos c4] at hq; cases hq
    rw [if_neg c4] at hq
    refine r_ldiv odX7_told rfl c4 ?_
    refine mB_run odX7_told 1 (g := (42, [(2, .long o1.2), (0, .ref 239), (1, .int p1)], [.long ((o1.1.2.1 52) / o1.2)], (hM C o1.1), 0, 0)) rfl ?_
    cases hq
    exact mB_ret odX7_told rfl
  · rw [if_neg c3] at hq
    refine if_ne_T (t := 25) odX7_told rfl rfl c3 ?_
    refine mB_run odX7_told 2 (g := (27, [(2, .long o1.2), (0, .ref 239), (1, .int p1)], [.int (1 : Int32), .int p1], (hM C o1.1), 0, 0)) rfl ?_
    by_cases c5 : p1 = (1 : Int32)
    · rw [if_pos c5] at hq
      refine ic_ne_F (t := 39) odX7_told rfl rfl c5 ?_
      refine mB_run odX7_told 1 (g := (31, [(2, .long o1.2), (0, .ref 239), (1, .int p1)], [.ref 239], (hM C o1.1), 0, 0)) rfl ?_
      refine r_gJ odX7_told rfl rfl (md_53 hC) ?_
      refine mB_run odX7_told 1 (g := (35, [(2, .long o1.2), (0, .ref 239), (1, .int p1)], [.long o1.2, .long (o1.1.2.1 53)], (hM C o1.1), 0, 0)) rfl ?_
      by_cases c6 : o1.2 = 0
      · rw [if_pos c6] at hq; cases hq
      rw [if_neg c6] at hq
      refine r_ldiv odX7_told rfl c6 ?_
      refine mB_run odX7_told 1 (g := (42, [(2, .long o1.2), (0, .ref 239), (1, .int p1)], [.long ((o1.1.2.1 53) / o1.2)], (hM C o1.1), 0, 0)) rfl ?_
      cases hq
      exact mB_ret odX7_told rfl
    · rw [if_neg c5] at hq
      refine ic_ne_T (t := 39) odX7_told rfl rfl c5 ?_
      refine mB_run odX7_told 1 (g := (42, [(2, .long o1.2), (0, .ref 239), (1, .int p1)], [.long (-1 : Int64)], (hM C o1.1), 0, 0)) rfl ?_
      cases hq
      exact mB_ret odX7_told rfl
def mxX7_thick_60 (N : Nat) (rec23 : Int64 → Int64 → Int32 → mS → Option mS) (x1 : Int64) (x3 : Int64) (x5 : Int32) (h : mS) : Option mS :=
  rec23 x1 x3 (x5 + (1 : Int32)) h
set_option maxHeartbeats 4000000 in
set_option maxRecDepth 100000 in
theorem emX7_thick_60 {N : Nat} {C : mh} (hC : C.length = 239) {rec23 : Int64 → Int64 → Int32 → mS → Option mS} (hrec23 : ∀ (x1 : Int64) (x3 : Int64) (x5 : Int32) (h : mS) {o : mS}, rec23 x1 x3 x5 h = some o → mB (gO mX7_thick (hM C o, none)) mX7_thick (23, [(0, .ref 239), (1, .long x1), (3, .long x3), (5, .int x5)], [], (hM C h), 0, 0)) (x1 : Int64) (x3 : Int64) (x5 : Int32) (h : mS) {o : mS} (hq : mxX7_thick_60 N rec23 x1 x3 x5 h = some o) : mB (gO mX7_thick (hM C o, none)) mX7_thick (60, [(0, .ref 239), (1, .long x1), (3, .long x3), (5, .int x5)], [], (hM C h), 0, 0) := by
  unfold mxX7_thick_60 at hq
  refine mB_run odX7_thick 2 (g := (23, [(5, .int (x5 + (1 : Int32))), (0, .ref 239), (1, .long x1), (3, .long x3)], [], (hM C h), 0, 0)) rfl ?_
  refine mB_lv [1, 2, 3, 0] (lv' := [(0, .ref 239), (1, .long x1), (3, .long x3), (5, .int (x5 + (1 : Int32)))]) rfl ?_
  exact hrec23 _ _ _ _ hq
def mxX7_thick_50 (N : Nat) (rec23 : Int64 → Int64 → Int32 → mS → Option mS) (x1 : Int64) (x3 : Int64) (x5 : Int32) (x6 : Int64) (h : mS) : Option mS :=
  if x6 ≤ x3 then (
    mxX7_thick_60 N rec23 x1 x3 x5 h) else (
    mxX7_thick_60 N rec23 x1 x6 x5 h)
set_option maxHeartbeats 4000000 in
set_option maxRecDepth 100000 in
theorem emX7_thick_50 {N : Nat} {C : mh} (hC : C.length = 239) {rec23 : Int64 → Int64 → Int32 → mS → Option mS} (hrec23 : ∀ (x1 : Int64) (x3 : Int64) (x5 : Int32) (h : mS) {o : mS}, rec23 x1 x3 x5 h = some o → mB (gO mX7_thick (hM C o, none)) mX7_thick (23, [(0, .ref 239), (1, .long x1), (3, .long x3), (5, .int x5)], [], (hM C h), 0, 0)) (x1 : Int64) (x3 : Int64) (x5 : Int32) (x6 : Int64) (h : mS) {o : mS} (hq : mxX7_thick_50 N rec23 x1 x3 x5 x6 h = some o) : mB (gO mX7_thick (hM C o, none)) mX7_thick (50, [(0, .ref 239), (1, .long x1), (3, .long x3), (5, .int x5), (6, .long x6)], [], (hM C h), 0, 0) := by
  unfold mxX7_thick_50 at hq
  refine mB_run odX7_thick 2 (g := (53, [(0, .ref 239), (1, .long x1), (3, .long x3), (5, .int x5), (6, .long x6)], [.long x3, .long x6], (hM C h), 0, 0)) rfl ?_
  by_cases c14 : x6 ≤ x3
  · rw [if_pos c14] at hq
    refine lc_le_T (t := 60) odX7_thick rfl rfl rfl c14 ?_
    refine mB_lv [0, 1, 2, 3] (lv' := [(0, .ref 239), (1, .long x1), (3, .long x3), (5, .int x5)]) rfl ?_
    exact emX7_thick_60 hC hrec23 _ _ _ _ hq
  · rw [if_neg c14] at hq
    refine lc_le_F (t := 60) odX7_thick rfl rfl rfl c14 ?_
    refine mB_run odX7_thick 2 (g := (60, [(3, .long x6), (0, .ref 239), (1, .long x1), (5, .int x5), (6, .long x6)], [], (hM C h), 0, 0)) rfl ?_
    refine mB_lv [1, 2, 0, 3] (lv' := [(0, .ref 239), (1, .long x1), (3, .long x6), (5, .int x5)]) rfl ?_
    exact emX7_thick_60 hC hrec23 _ _ _ _ hq
def mxX7_thick_23 (N : Nat) : Nat → Int64 → Int64 → Int32 → mS → Option mS
  | 0, _, _, _, _ => none
  | n + 1, x1, x3, x5, h =>
    if (h.1 15) ≤ x5 then (
      (mxX7_tries N ((x3 - x1) * (x3 - x1)) ((((h.2.1 24) * (h.2.1 24)) + ((h.2.1 25) * (h.2.1 25))) + ((h.2.1 26) * (h.2.1 26))) h).bind fun o9 =>
      some o9) else (
      (mxX7_height N x5 h).bind fun o11 =>
      if x1 ≤ o11.2 then (
        mxX7_thick_50 N (mxX7_thick_23 N n) x1 x3 x5 o11.2 o11.1) else (
        mxX7_thick_50 N (mxX7_thick_23 N n) o11.2 x3 x5 o11.2 o11.1))
set_option maxHeartbeats 4000000 in
set_option maxRecDepth 100000 in
theorem emX7_thick_23 {N : Nat} {C : mh} (hC : C.length = 239) : ∀ (n : Nat) (x1 : Int64) (x3 : Int64) (x5 : Int32) (h : mS) {o : mS}, mxX7_thick_23 N n x1 x3 x5 h = some o → mB (gO mX7_thick (hM C o, none)) mX7_thick (23, [(0, .ref 239), (1, .long x1), (3, .long x3), (5, .int x5)], [], (hM C h), 0, 0) := by
  intro n
  induction n with
  | zero => intro x1 x3 x5 h o hq; cases hq
  | succ n ih =>
    intro x1 x3 x5 h o hq
    unfold mxX7_thick_23 at hq
    refine mB_run odX7_thick 2 (g := (26, [(0, .ref 239), (1, .long x1), (3, .long x3), (5, .int x5)], [.ref 239, .int x5], (hM C h), 0, 0)) rfl ?_
    refine r_gI odX7_thick rfl rfl (md_15 hC) ?_
    by_cases c8 : (h.1 15) ≤ x5
    · rw [if_pos c8] at hq
      refine ic_ge_T (t := 66) odX7_thick rfl rfl c8 ?_
      refine mB_run odX7_thick 9 (g := (75, [(0, .ref 239), (1, .long x1), (3, .long x3), (5, .int x5)], [.ref 239, .long ((x3 - x1) * (x3 - x1)), .ref 239], (hM C h), 0, 0)) rfl ?_
      refine r_gJ odX7_thick rfl rfl (md_24 hC) ?_
      refine mB_run odX7_thick 1 (g := (79, [(0, .ref 239), (1, .long x1), (3, .long x3), (5, .int x5)], [.ref 239, .long (h.2.1 24), .long ((x3 - x1) * (x3 - x1)), .ref 239], (hM C h), 0, 0)) rfl ?_
      refine r_gJ odX7_thick rfl rfl (md_24 hC) ?_
      refine mB_run odX7_thick 2 (g := (84, [(0, .ref 239), (1, .long x1), (3, .long x3), (5, .int x5)], [.ref 239, .long ((h.2.1 24) * (h.2.1 24)), .long ((x3 - x1) * (x3 - x1)), .ref 239], (hM C h), 0, 0)) rfl ?_
      refine r_gJ odX7_thick rfl rfl (md_25 hC) ?_
      refine mB_run odX7_thick 1 (g := (88, [(0, .ref 239), (1, .long x1), (3, .long x3), (5, .int x5)], [.ref 239, .long (h.2.1 25), .long ((h.2.1 24) * (h.2.1 24)), .long ((x3 - x1) * (x3 - x1)), .ref 239], (hM C h), 0, 0)) rfl ?_
      refine r_gJ odX7_thick rfl rfl (md_25 hC) ?_
      refine mB_run odX7_thick 3 (g := (94, [(0, .ref 239), (1, .long x1), (3, .long x3), (5, .int x5)], [.ref 239, .long (((h.2.1 24) * (h.2.1 24)) + ((h.2.1 25) * (h.2.1 25))), .long ((x3 - x1) * (x3 - x1)), .ref 239], (hM C h), 0, 0)) rfl ?_
      refine r_gJ odX7_thick rfl rfl (md_26 hC) ?_
      refine mB_run odX7_thick 1 (g := (98, [(0, .ref 239), (1, .long x1), (3, .long x3), (5, .int x5)], [.ref 239, .long (h.2.1 26), .long (((h.2.1 24) * (h.2.1 24)) + ((h.2.1 25) * (h.2.1 25))), .long ((x3 - x1) * (x3 - x1)), .ref 239], (hM C h), 0, 0)) rfl ?_
      refine r_gJ odX7_thick rfl rfl (md_26 hC) ?_
      refine mB_run odX7_thick 2 (g := (103, [(0, .ref 239), (1, .long x1), (3, .long x3), (5, .int x5)], [.long ((((h.2.1 24) * (h.2.1 24)) + ((h.2.1 25) * (h.2.1 25))) + ((h.2.1 26) * (h.2.1 26))), .long ((x3 - x1) * (x3 - x1)), .ref 239], (hM C h), 0, 0)) rfl ?_
      obtain ⟨o9, e10, hq⟩ := bsm hq
      refine mB_V (as := [.long ((x3 - x1) * (x3 - x1)), .long ((((h.2.1 24) * (h.2.1 24)) + ((h.2.1 25) * (h.2.1 25))) + ((h.2.1 26) * (h.2.1 26)))]) odX7_thick okX7_tries lk_7_327 rfl (emX7_tries hC e10) (kO_at (md_O hC)) rfl rfl rfl ?_
      show mB _ mX7_thick (106, [(0, .ref 239), (1, .long x1), (3, .long x3), (5, .int x5)], [], (hM C o9), 0, 0)
      cases hq
      exact mB_ret odX7_thick rfl
    · rw [if_neg c8] at hq
      refine ic_ge_F (t := 66) odX7_thick rfl rfl c8 ?_
      refine mB_run odX7_thick 2 (g := (35, [(0, .ref 239), (1, .long x1), (3, .long x3), (5, .int x5)], [.int x5, .ref 239], (hM C h), 0, 0)) rfl ?_
      obtain ⟨o11, e12, hq⟩ := bsm hq
      refine mB_V (as := [.int x5]) odX7_thick okX7_height lk_7_189 rfl (emX7_height hC e12) (kO_at (md_O hC)) rfl rfl rfl ?_
      show mB _ mX7_thick (38, [(0, .ref 239), (1, .long x1), (3, .long x3), (5, .int x5)], [.long o11.2], (hM C o11.1), 0, 0)
      refine mB_run odX7_thick 3 (g := (43, [(6, .long o11.2), (0, .ref 239), (1, .long x1), (3, .long x3), (5, .int x5)], [.long x1, .long o11.2], (hM C o11.1), 0, 0)) rfl ?_
      by_cases c13 : x1 ≤ o11.2
      · rw [if_pos c13] at hq
        refine lc_ge_T (t := 50) odX7_thick rfl rfl rfl c13 ?_
        refine mB_lv [1, 2, 3, 4, 0] (lv' := [(0, .ref 239), (1, .long x1), (3, .long x3), (5, .int x5), (6, .long o11.2)]) rfl ?_
        exact emX7_thick_50 hC ih _ _ _ _ _ hq
      · rw [if_neg c13] at hq
        refine lc_ge_F (t := 50) odX7_thick rfl rfl rfl c13 ?_
        refine mB_run odX7_thick 2 (g := (50, [(1, .long o11.2), (6, .long o11.2), (0, .ref 239), (3, .long x3), (5, .int x5)], [], (hM C o11.1), 0, 0)) rfl ?_
        refine mB_lv [2, 0, 3, 4, 1] (lv' := [(0, .ref 239), (1, .long o11.2), (3, .long x3), (5, .int x5), (6, .long o11.2)]) rfl ?_
        exact emX7_thick_50 hC ih _ _ _ _ _ hq
def mxX7_thick (N : Nat)  (h : mS) : Option mS :=
  (mxX7_isFlat N  h).bind fun o1 =>
  if o1.2 = 0 then (
    (mxX7_plain N  o1.1).bind fun o4 =>
    (mxX7_height N (0 : Int32) o4).bind fun o6 =>
    mxX7_thick_23 N N o6.2 o6.2 (1 : Int32) o6.1) else (
    some o1.1)
set_option maxHeartbeats 4000000 in
set_option maxRecDepth 100000 in
theorem emX7_thick {N : Nat} {C : mh} (hC : C.length = 239)  {h : mS} {o : mS} (hq : mxX7_thick N  h = some o) : mC mX7_thick [.ref 239] (hM C h) (hM C o, none) := by
  refine mC_of okX7_thick (Nat.le_of_ble_eq_true rfl) ?_
  unfold mxX7_thick at hq
  show mB _ mX7_thick (0, [(0, .ref 239)], [], (hM C h), 0, 0)
  refine mB_run odX7_thick 1 (g := (1, [(0, .ref 239)], [.ref 239], (hM C h), 0, 0)) rfl ?_
  obtain ⟨o1, e2, hq⟩ := bsm hq
  refine mB_V (as := []) odX7_thick okX7_isFlat lk_7_182 rfl (emX7_isFlat hC e2) (kO_at (md_O hC)) rfl rfl rfl ?_
  show mB _ mX7_thick (4, [(0, .ref 239)], [.int o1.2], (hM C o1.1), 0, 0)
  by_cases c3 : o1.2 = 0
  · rw [if_pos c3] at hq
    refine if_eq_T (t := 8) odX7_thick rfl rfl c3 ?_
    refine mB_run odX7_thick 1 (g := (9, [(0, .ref 239)], [.ref 239], (hM C o1.1), 0, 0)) rfl ?_
    obtain ⟨o4, e5, hq⟩ := bsm hq
    refine mB_V (as := []) odX7_thick okX7_plain lk_7_186 rfl (emX7_plain hC e5) (kO_at (md_O hC)) rfl rfl rfl ?_
    show mB _ mX7_thick (12, [(0, .ref 239)], [], (hM C o4), 0, 0)
    refine mB_run odX7_thick 2 (g := (14, [(0, .ref 239)], [.int (0 : Int32), .ref 239], (hM C o4), 0, 0)) rfl ?_
    obtain ⟨o6, e7, hq⟩ := bsm hq
    refine mB_V (as := [.int (0 : Int32)]) odX7_thick okX7_height lk_7_189 rfl (emX7_height hC e7) (kO_at (md_O hC)) rfl rfl rfl ?_
    show mB _ mX7_thick (17, [(0, .ref 239)], [.long o6.2], (hM C o6.1), 0, 0)
    refine mB_run odX7_thick 5 (g := (23, [(5, .int (1 : Int32)), (3, .long o6.2), (1, .long o6.2), (0, .ref 239)], [], (hM C o6.1), 0, 0)) rfl ?_
    refine mB_lv [3, 2, 1, 0] (lv' := [(0, .ref 239), (1, .long o6.2), (3, .long o6.2), (5, .int (1 : Int32))]) rfl ?_
    exact emX7_thick_23 hC N _ _ _ _ hq
  · rw [if_neg c3] at hq
    refine if_eq_F (t := 8) odX7_thick rfl rfl c3 ?_
    cases hq
    exact mB_ret odX7_thick rfl
def mxX7_crosses (N : Nat) (p1 : Int64) (p2 : Int64) (p3 : Int64) (p4 : Int64) (p5 : Int64) (p6 : Int64) (h : mS) : Option mS :=
  (some (pJ h 24 ((p2 * p6) - (p3 * p5)))).bind fun s1 =>
  (some (pJ s1 25 ((p3 * p4) - (p1 * p6)))).bind fun s3 =>
  (some (pJ s3 26 ((p1 * p5) - (p2 * p4)))).bind fun s5 =>
  some s5
set_option maxHeartbeats 4000000 in
set_option maxRecDepth 100000 in
theorem emX7_crosses {N : Nat} {C : mh} (hC : C.length = 239) {p1 : Int64} {p2 : Int64} {p3 : Int64} {p4 : Int64} {p5 : Int64} {p6 : Int64} {h : mS} {o : mS} (hq : mxX7_crosses N p1 p2 p3 p4 p5 p6 h = some o) : mC mX7_crosses [.ref 239, .long p1, .long p2, .long p3, .long p4, .long p5, .long p6] (hM C h) (hM C o, none) := by
  refine mC_of okX7_crosses (Nat.le_of_ble_eq_true rfl) ?_
  unfold mxX7_crosses at hq
  show mB _ mX7_crosses (0, [(0, .ref 239), (1, .long p1), (3, .long p2), (5, .long p3), (7, .long p4), (9, .long p5), (11, .long p6)], [], (hM C h), 0, 0)
  refine mB_run odX7_crosses 8 (g := (11, [(0, .ref 239), (1, .long p1), (3, .long p2), (5, .long p3), (7, .long p4), (9, .long p5), (11, .long p6)], [.long ((p2 * p6) - (p3 * p5)), .ref 239], (hM C h), 0, 0)) rfl ?_
  obtain ⟨s1, e2, hq⟩ := bsm hq
  refine r_sV odX7_crosses rfl rfl rfl rfl (pt_24 hC e2) ?_
  refine mB_run odX7_crosses 8 (g := (25, [(0, .ref 239), (1, .long p1), (3, .long p2), (5, .long p3), (7, .long p4), (9, .long p5), (11, .long p6)], [.long ((p3 * p4) - (p1 * p6)), .ref 239], (hM C s1), 0, 0)) rfl ?_
  obtain ⟨s3, e4, hq⟩ := bsm hq
  refine r_sV odX7_crosses rfl rfl rfl rfl (pt_25 hC e4) ?_
  refine mB_run odX7_crosses 8 (g := (38, [(0, .ref 239), (1, .long p1), (3, .long p2), (5, .long p3), (7, .long p4), (9, .long p5), (11, .long p6)], [.long ((p1 * p5) - (p2 * p4)), .ref 239], (hM C s3), 0, 0)) rfl ?_
  obtain ⟨s5, e6, hq⟩ := bsm hq
  refine r_sV odX7_crosses rfl rfl rfl rfl (pt_26 hC e6) ?_
  cases hq
  exact mB_ret odX7_crosses rfl
def mxX7_width_101 (N : Nat) (rec86 : Int32 → Int32 → mS → Option (mS × Int64)) : Nat → Int32 → Int32 → Int32 → mS → Option (mS × Int64)
  | 0, _, _, _, _ => none
  | n + 1, x2, x3, x4, h =>
    (rA h 34 (0 : Int32)).bind fun v33 =>
    if v33 ≤ x4 then (
      rec86 x2 (x3 + (1 : Int32)) h) else (
      (rA h 36 x3).bind fun v36 =>
      (rG h 16 v36).bind fun v38 =>
      (rA h 35 x3).bind fun v40 =>
      (rG h 16 v40).bind fun v42 =>
      (rA h 36 x3).bind fun v44 =>
      (rG h 17 v44).bind fun v46 =>
      (rA h 35 x3).bind fun v48 =>
      (rG h 17 v48).bind fun v50 =>
      (rA h 36 x3).bind fun v52 =>
      (rG h 18 v52).bind fun v54 =>
      (rA h 35 x3).bind fun v56 =>
      (rG h 18 v56).bind fun v58 =>
      (rA h 36 x4).bind fun v60 =>
      (rG h 16 v60).bind fun v62 =>
      (rA h 35 x4).bind fun v64 =>
      (rG h 16 v64).bind fun v66 =>
      (rA h 36 x4).bind fun v68 =>
      (rG h 17 v68).bind fun v70 =>
      (rA h 35 x4).bind fun v72 =>
      (rG h 17 v72).bind fun v74 =>
      (rA h 36 x4).bind fun v76 =>
      (rG h 18 v76).bind fun v78 =>
      (rA h 35 x4).bind fun v80 =>
      (rG h 18 v80).bind fun v82 =>
      (mxX7_crosses N (v38 - v42) (v46 - v50) (v54 - v58) (v62 - v66) (v70 - v74) (v78 - v82) h).bind fun o84 =>
      (mxX7_thick N  o84).bind fun o86 =>
      mxX7_width_101 N rec86 n x2 x3 (x4 + (1 : Int32)) o86)
set_option maxHeartbeats 4000000 in
set_option maxRecDepth 100000 in
theorem emX7_width_101 {N : Nat} {C : mh} (hC : C.length = 239) {rec86 : Int32 → Int32 → mS → Option (mS × Int64)} (hrec86 : ∀ (x2 : Int32) (x3 : Int32) (h : mS) {o : (mS × Int64)}, rec86 x2 x3 h = some o → mB (gO mX7_width (hM C o.1, some (.long o.2))) mX7_width (86, [(0, .ref 239), (2, .int x2), (3, .int x3)], [], (hM C h), 0, 0)) : ∀ (n : Nat) (x2 : Int32) (x3 : Int32) (x4 : Int32) (h : mS) {o : (mS × Int64)}, mxX7_width_101 N rec86 n x2 x3 x4 h = some o → mB (gO mX7_width (hM C o.1, some (.long o.2))) mX7_width (101, [(0, .ref 239), (2, .int x2), (3, .int x3), (4, .int x4)], [], (hM C h), 0, 0) := by
  intro n
  induction n with
  | zero => intro x2 x3 x4 h o hq; cases hq
  | succ n ih =>
    intro x2 x3 x4 h o hq
    unfold mxX7_width_101 at hq
    refine mB_run odX7_width 2 (g := (104, [(0, .ref 239), (2, .int x2), (3, .int x3), (4, .int x4)], [.ref 239, .int x4], (hM C h), 0, 0)) rfl ?_
    refine r_gR odX7_width rfl rfl (md_34 hC) ?_
    refine mB_run odX7_width 1 (g := (108, [(0, .ref 239), (2, .int x2), (3, .int x3), (4, .int x4)], [.int (0 : Int32), .ref 267, .int x4], (hM C h), 0, 0)) rfl ?_
    obtain ⟨v33, e34, hq⟩ := bsm hq
    refine r_aI odX7_width rfl (ra_34 hC e34) ?_
    by_cases c35 : v33 ≤ x4
    · rw [if_pos c35] at hq
      refine ic_ge_T (t := 270) odX7_width rfl rfl c35 ?_
      refine mB_run odX7_width 2 (g := (86, [(3, .int (x3 + (1 : Int32))), (0, .ref 239), (2, .int x2), (4, .int x4)], [], (hM C h), 0, 0)) rfl ?_
      refine mB_lv [1, 2, 0] (lv' := [(0, .ref 239), (2, .int x2), (3, .int (x3 + (1 : Int32)))]) rfl ?_
      exact hrec86 _ _ _ hq
    · rw [if_neg c35] at hq
      refine ic_ge_F (t := 270) odX7_width rfl rfl c35 ?_
      refine mB_run odX7_width 2 (g := (114, [(0, .ref 239), (2, .int x2), (3, .int x3), (4, .int x4)], [.ref 239, .ref 239], (hM C h), 0, 0)) rfl ?_
      refine r_gR odX7_width rfl rfl (md_16 hC) ?_
      refine mB_run odX7_width 1 (g := (118, [(0, .ref 239), (2, .int x2), (3, .int x3), (4, .int x4)], [.ref 239, .ref 254, .ref 239], (hM C h), 0, 0)) rfl ?_
      refine r_gR odX7_width rfl rfl (md_36 hC) ?_
      refine mB_run odX7_width 1 (g := (122, [(0, .ref 239), (2, .int x2), (3, .int x3), (4, .int x4)], [.int x3, .ref 269, .ref 254, .ref 239], (hM C h), 0, 0)) rfl ?_
      obtain ⟨v36, e37, hq⟩ := bsm hq
      refine r_aI odX7_width rfl (ra_36 hC e37) ?_
      obtain ⟨v38, e39, hq⟩ := bsm hq
      refine r_aJ odX7_width rfl (ra_16 hC e39) ?_
      refine mB_run odX7_width 1 (g := (125, [(0, .ref 239), (2, .int x2), (3, .int x3), (4, .int x4)], [.ref 239, .long v38, .ref 239], (hM C h), 0, 0)) rfl ?_
      refine r_gR odX7_width rfl rfl (md_16 hC) ?_
      refine mB_run odX7_width 1 (g := (129, [(0, .ref 239), (2, .int x2), (3, .int x3), (4, .int x4)], [.ref 239, .ref 254, .long v38, .ref 239], (hM C h), 0, 0)) rfl ?_
      refine r_gR odX7_width rfl rfl (md_35 hC) ?_
      refine mB_run odX7_width 1 (g := (133, [(0, .ref 239), (2, .int x2), (3, .int x3), (4, .int x4)], [.int x3, .ref 268, .ref 254, .long v38, .ref 239], (hM C h), 0, 0)) rfl ?_
      obtain ⟨v40, e41, hq⟩ := bsm hq
      refine r_aI odX7_width rfl (ra_35 hC e41) ?_
      obtain ⟨v42, e43, hq⟩ := bsm hq
      refine r_aJ odX7_width rfl (ra_16 hC e43) ?_
      refine mB_run odX7_width 2 (g := (137, [(0, .ref 239), (2, .int x2), (3, .int x3), (4, .int x4)], [.ref 239, .long (v38 - v42), .ref 239], (hM C h), 0, 0)) rfl ?_
      refine r_gR odX7_width rfl rfl (md_17 hC) ?_
      refine mB_run odX7_width 1 (g := (141, [(0, .ref 239), (2, .int x2), (3, .int x3), (4, .int x4)], [.ref 239, .ref 255, .long (v38 - v42), .ref 239], (hM C h), 0, 0)) rfl ?_
      refine r_gR odX7_width rfl rfl (md_36 hC) ?_
      refine mB_run odX7_width 1 (g := (145, [(0, .ref 239), (2, .int x2), (3, .int x3), (4, .int x4)], [.int x3, .ref 269, .ref 255, .long (v38 - v42), .ref 239], (hM C h), 0, 0)) rfl ?_
      obtain ⟨v44, e45, hq⟩ := bsm hq
      refine r_aI odX7_width rfl (ra_36 hC e45) ?_
      obtain ⟨v46, e47, hq⟩ := bsm hq
      refine r_aJ odX7_width rfl (ra_17 hC e47) ?_
      refine mB_run odX7_width 1 (g := (148, [(0, .ref 239), (2, .int x2), (3, .int x3), (4, .int x4)], [.ref 239, .long v46, .long (v38 - v42), .ref 239], (hM C h), 0, 0)) rfl ?_
      refine r_gR odX7_width rfl rfl (md_17 hC) ?_
      refine mB_run odX7_width 1 (g := (152, [(0, .ref 239), (2, .int x2), (3, .int x3), (4, .int x4)], [.ref 239, .ref 255, .long v46, .long (v38 - v42), .ref 239], (hM C h), 0, 0)) rfl ?_
      refine r_gR odX7_width rfl rfl (md_35 hC) ?_
      refine mB_run odX7_width 1 (g := (156, [(0, .ref 239), (2, .int x2), (3, .int x3), (4, .int x4)], [.int x3, .ref 268, .ref 255, .long v46, .long (v38 - v42), .ref 239], (hM C h), 0, 0)) rfl ?_
      obtain ⟨v48, e49, hq⟩ := bsm hq
      refine r_aI odX7_width rfl (ra_35 hC e49) ?_
      obtain ⟨v50, e51, hq⟩ := bsm hq
      refine r_aJ odX7_width rfl (ra_17 hC e51) ?_
      refine mB_run odX7_width 2 (g := (160, [(0, .ref 239), (2, .int x2), (3, .int x3), (4, .int x4)], [.ref 239, .long (v46 - v50), .long (v38 - v42), .ref 239], (hM C h), 0, 0)) rfl ?_
      refine r_gR odX7_width rfl rfl (md_18 hC) ?_
      refine mB_run odX7_width 1 (g := (164, [(0, .ref 239), (2, .int x2), (3, .int x3), (4, .int x4)], [.ref 239, .ref 256, .long (v46 - v50), .long (v38 - v42), .ref 239], (hM C h), 0, 0)) rfl ?_
      refine r_gR odX7_width rfl rfl (md_36 hC) ?_
      refine mB_run odX7_width 1 (g := (168, [(0, .ref 239), (2, .int x2), (3, .int x3), (4, .int x4)], [.int x3, .ref 269, .ref 256, .long (v46 - v50), .long (v38 - v42), .ref 239], (hM C h), 0, 0)) rfl ?_
      obtain ⟨v52, e53, hq⟩ := bsm hq
      refine r_aI odX7_width rfl (ra_36 hC e53) ?_
      obtain ⟨v54, e55, hq⟩ := bsm hq
      refine r_aJ odX7_width rfl (ra_18 hC e55) ?_
      refine mB_run odX7_width 1 (g := (171, [(0, .ref 239), (2, .int x2), (3, .int x3), (4, .int x4)], [.ref 239, .long v54, .long (v46 - v50), .long (v38 - v42), .ref 239], (hM C h), 0, 0)) rfl ?_
      refine r_gR odX7_width rfl rfl (md_18 hC) ?_
      refine mB_run odX7_width 1 (g := (175, [(0, .ref 239), (2, .int x2), (3, .int x3), (4, .int x4)], [.ref 239, .ref 256, .long v54, .long (v46 - v50), .long (v38 - v42), .ref 239], (hM C h), 0, 0)) rfl ?_
      refine r_gR odX7_width rfl rfl (md_35 hC) ?_
      refine mB_run odX7_width 1 (g := (179, [(0, .ref 239), (2, .int x2), (3, .int x3), (4, .int x4)], [.int x3, .ref 268, .ref 256, .long v54, .long (v46 - v50), .long (v38 - v42), .ref 239], (hM C h), 0, 0)) rfl ?_
      obtain ⟨v56, e57, hq⟩ := bsm hq
      refine r_aI odX7_width rfl (ra_35 hC e57) ?_
      obtain ⟨v58, e59, hq⟩ := bsm hq
      refine r_aJ odX7_width rfl (ra_18 hC e59) ?_
      refine mB_run odX7_width 2 (g := (183, [(0, .ref 239), (2, .int x2), (3, .int x3), (4, .int x4)], [.ref 239, .long (v54 - v58), .long (v46 - v50), .long (v38 - v42), .ref 239], (hM C h), 0, 0)) rfl ?_
      refine r_gR odX7_width rfl rfl (md_16 hC) ?_
      refine mB_run odX7_width 1 (g := (187, [(0, .ref 239), (2, .int x2), (3, .int x3), (4, .int x4)], [.ref 239, .ref 254, .long (v54 - v58), .long (v46 - v50), .long (v38 - v42), .ref 239], (hM C h), 0, 0)) rfl ?_
      refine r_gR odX7_width rfl rfl (md_36 hC) ?_
      refine mB_run odX7_width 1 (g := (192, [(0, .ref 239), (2, .int x2), (3, .int x3), (4, .int x4)], [.int x4, .ref 269, .ref 254, .long (v54 - v58), .long (v46 - v50), .long (v38 - v42), .ref 239], (hM C h), 0, 0)) rfl ?_
      obtain ⟨v60, e61, hq⟩ := bsm hq
      refine r_aI odX7_width rfl (ra_36 hC e61) ?_
      obtain ⟨v62, e63, hq⟩ := bsm hq
      refine r_aJ odX7_width rfl (ra_16 hC e63) ?_
      refine mB_run odX7_width 1 (g := (195, [(0, .ref 239), (2, .int x2), (3, .int x3), (4, .int x4)], [.ref 239, .long v62, .long (v54 - v58), .long (v46 - v50), .long (v38 - v42), .ref 239], (hM C h), 0, 0)) rfl ?_
      refine r_gR odX7_width rfl rfl (md_16 hC) ?_
      refine mB_run odX7_width 1 (g := (199, [(0, .ref 239), (2, .int x2), (3, .int x3), (4, .int x4)], [.ref 239, .ref 254, .long v62, .long (v54 - v58), .long (v46 - v50), .long (v38 - v42), .ref 239], (hM C h), 0, 0)) rfl ?_
      refine r_gR odX7_width rfl rfl (md_35 hC) ?_
      refine mB_run odX7_width 1 (g := (204, [(0, .ref 239), (2, .int x2), (3, .int x3), (4, .int x4)], [.int x4, .ref 268, .ref 254, .long v62, .long (v54 - v58), .long (v46 - v50), .long (v38 - v42), .ref 239], (hM C h), 0, 0)) rfl ?_
      obtain ⟨v64, e65, hq⟩ := bsm hq
      refine r_aI odX7_width rfl (ra_35 hC e65) ?_
      obtain ⟨v66, e67, hq⟩ := bsm hq
      refine r_aJ odX7_width rfl (ra_16 hC e67) ?_
      refine mB_run odX7_width 2 (g := (208, [(0, .ref 239), (2, .int x2), (3, .int x3), (4, .int x4)], [.ref 239, .long (v62 - v66), .long (v54 - v58), .long (v46 - v50), .long (v38 - v42), .ref 239], (hM C h), 0, 0)) rfl ?_
      refine r_gR odX7_width rfl rfl (md_17 hC) ?_
      refine mB_run odX7_width 1 (g := (212, [(0, .ref 239), (2, .int x2), (3, .int x3), (4, .int x4)], [.ref 239, .ref 255, .long (v62 - v66), .long (v54 - v58), .long (v46 - v50), .long (v38 - v42), .ref 239], (hM C h), 0, 0)) rfl ?_
      refine r_gR odX7_width rfl rfl (md_36 hC) ?_
      refine mB_run odX7_width 1 (g := (217, [(0, .ref 239), (2, .int x2), (3, .int x3), (4, .int x4)], [.int x4, .ref 269, .ref 255, .long (v62 - v66), .long (v54 - v58), .long (v46 - v50), .long (v38 - v42), .ref 239], (hM C h), 0, 0)) rfl ?_
      obtain ⟨v68, e69, hq⟩ := bsm hq
      refine r_aI odX7_width rfl (ra_36 hC e69) ?_
      obtain ⟨v70, e71, hq⟩ := bsm hq
      refine r_aJ odX7_width rfl (ra_17 hC e71) ?_
      refine mB_run odX7_width 1 (g := (220, [(0, .ref 239), (2, .int x2), (3, .int x3), (4, .int x4)], [.ref 239, .long v70, .long (v62 - v66), .long (v54 - v58), .long (v46 - v50), .long (v38 - v42), .ref 239], (hM C h), 0, 0)) rfl ?_
      refine r_gR odX7_width rfl rfl (md_17 hC) ?_
      refine mB_run odX7_width 1 (g := (224, [(0, .ref 239), (2, .int x2), (3, .int x3), (4, .int x4)], [.ref 239, .ref 255, .long v70, .long (v62 - v66), .long (v54 - v58), .long (v46 - v50), .long (v38 - v42), .ref 239], (hM C h), 0, 0)) rfl ?_
      refine r_gR odX7_width rfl rfl (md_35 hC) ?_
      refine mB_run odX7_width 1 (g := (229, [(0, .ref 239), (2, .int x2), (3, .int x3), (4, .int x4)], [.int x4, .ref 268, .ref 255, .long v70, .long (v62 - v66), .long (v54 - v58), .long (v46 - v50), .long (v38 - v42), .ref 239], (hM C h), 0, 0)) rfl ?_
      obtain ⟨v72, e73, hq⟩ := bsm hq
      refine r_aI odX7_width rfl (ra_35 hC e73) ?_
      obtain ⟨v74, e75, hq⟩ := bsm hq
      refine r_aJ odX7_width rfl (ra_17 hC e75) ?_
      refine mB_run odX7_width 2 (g := (233, [(0, .ref 239), (2, .int x2), (3, .int x3), (4, .int x4)], [.ref 239, .long (v70 - v74), .long (v62 - v66), .long (v54 - v58), .long (v46 - v50), .long (v38 - v42), .ref 239], (hM C h), 0, 0)) rfl ?_
      refine r_gR odX7_width rfl rfl (md_18 hC) ?_
      refine mB_run odX7_width 1 (g := (237, [(0, .ref 239), (2, .int x2), (3, .int x3), (4, .int x4)], [.ref 239, .ref 256, .long (v70 - v74), .long (v62 - v66), .long (v54 - v58), .long (v46 - v50), .long (v38 - v42), .ref 239], (hM C h), 0, 0)) rfl ?_
      refine r_gR odX7_width rfl rfl (md_36 hC) ?_
      refine mB_run odX7_width 1 (g := (242, [(0, .ref 239), (2, .int x2), (3, .int x3), (4, .int x4)], [.int x4, .ref 269, .ref 256, .long (v70 - v74), .long (v62 - v66), .long (v54 - v58), .long (v46 - v50), .long (v38 - v42), .ref 239], (hM C h), 0, 0)) rfl ?_
      obtain ⟨v76, e77, hq⟩ := bsm hq
      refine r_aI odX7_width rfl (ra_36 hC e77) ?_
      obtain ⟨v78, e79, hq⟩ := bsm hq
      refine r_aJ odX7_width rfl (ra_18 hC e79) ?_
      refine mB_run odX7_width 1 (g := (245, [(0, .ref 239), (2, .int x2), (3, .int x3), (4, .int x4)], [.ref 239, .long v78, .long (v70 - v74), .long (v62 - v66), .long (v54 - v58), .long (v46 - v50), .long (v38 - v42), .ref 239], (hM C h), 0, 0)) rfl ?_
      refine r_gR odX7_width rfl rfl (md_18 hC) ?_
      refine mB_run odX7_width 1 (g := (249, [(0, .ref 239), (2, .int x2), (3, .int x3), (4, .int x4)], [.ref 239, .ref 256, .long v78, .long (v70 - v74), .long (v62 - v66), .long (v54 - v58), .long (v46 - v50), .long (v38 - v42), .ref 239], (hM C h), 0, 0)) rfl ?_
      refine r_gR odX7_width rfl rfl (md_35 hC) ?_
      refine mB_run odX7_width 1 (g := (254, [(0, .ref 239), (2, .int x2), (3, .int x3), (4, .int x4)], [.int x4, .ref 268, .ref 256, .long v78, .long (v70 - v74), .long (v62 - v66), .long (v54 - v58), .long (v46 - v50), .long (v38 - v42), .ref 239], (hM C h), 0, 0)) rfl ?_
      obtain ⟨v80, e81, hq⟩ := bsm hq
      refine r_aI odX7_width rfl (ra_35 hC e81) ?_
      obtain ⟨v82, e83, hq⟩ := bsm hq
      refine r_aJ odX7_width rfl (ra_18 hC e83) ?_
      refine mB_run odX7_width 1 (g := (257, [(0, .ref 239), (2, .int x2), (3, .int x3), (4, .int x4)], [.long (v78 - v82), .long (v70 - v74), .long (v62 - v66), .long (v54 - v58), .long (v46 - v50), .long (v38 - v42), .ref 239], (hM C h), 0, 0)) rfl ?_
      obtain ⟨o84, e85, hq⟩ := bsm hq
      refine mB_V (as := [.long (v38 - v42), .long (v46 - v50), .long (v54 - v58), .long (v62 - v66), .long (v70 - v74), .long (v78 - v82)]) odX7_width okX7_crosses lk_7_334 rfl (emX7_crosses hC e85) (kO_at (md_O hC)) rfl rfl rfl ?_
      show mB _ mX7_width (260, [(0, .ref 239), (2, .int x2), (3, .int x3), (4, .int x4)], [], (hM C o84), 0, 0)
      refine mB_run odX7_width 1 (g := (261, [(0, .ref 239), (2, .int x2), (3, .int x3), (4, .int x4)], [.ref 239], (hM C o84), 0, 0)) rfl ?_
      obtain ⟨o86, e87, hq⟩ := bsm hq
      refine mB_V (as := []) odX7_width okX7_thick lk_7_331 rfl (emX7_thick hC e87) (kO_at (md_O hC)) rfl rfl rfl ?_
      show mB _ mX7_width (264, [(0, .ref 239), (2, .int x2), (3, .int x3), (4, .int x4)], [], (hM C o86), 0, 0)
      refine mB_run odX7_width 2 (g := (101, [(4, .int (x4 + (1 : Int32))), (0, .ref 239), (2, .int x2), (3, .int x3)], [], (hM C o86), 0, 0)) rfl ?_
      refine mB_lv [1, 2, 3, 0] (lv' := [(0, .ref 239), (2, .int x2), (3, .int x3), (4, .int (x4 + (1 : Int32)))]) rfl ?_
      exact ih _ _ _ _ hq
def mxX7_width_86 (N : Nat) : Nat → Int32 → Int32 → mS → Option (mS × Int64)
  | 0, _, _, _ => none
  | n + 1, x2, x3, h =>
    (rA h 34 (0 : Int32)).bind fun v28 =>
    if v28 ≤ x3 then (
      (mxX7_told N x2 h).bind fun o31 =>
      some (o31.1, o31.2)) else (
      mxX7_width_101 N (mxX7_width_86 N n) N x2 x3 (x3 + (1 : Int32)) h)
set_option maxHeartbeats 4000000 in
set_option maxRecDepth 100000 in
theorem emX7_width_86 {N : Nat} {C : mh} (hC : C.length = 239) : ∀ (n : Nat) (x2 : Int32) (x3 : Int32) (h : mS) {o : (mS × Int64)}, mxX7_width_86 N n x2 x3 h = some o → mB (gO mX7_width (hM C o.1, some (.long o.2))) mX7_width (86, [(0, .ref 239), (2, .int x2), (3, .int x3)], [], (hM C h), 0, 0) := by
  intro n
  induction n with
  | zero => intro x2 x3 h o hq; cases hq
  | succ n ih =>
    intro x2 x3 h o hq
    unfold mxX7_width_86 at hq
    refine mB_run odX7_width 2 (g := (88, [(0, .ref 239), (2, .int x2), (3, .int x3)], [.ref 239, .int x3], (hM C h), 0, 0)) rfl ?_
    refine r_gR odX7_width rfl rfl (md_34 hC) ?_
    refine mB_run odX7_width 1 (g := (92, [(0, .ref 239), (2, .int x2), (3, .int x3)], [.int (0 : Int32), .ref 267, .int x3], (hM C h), 0, 0)) rfl ?_
    obtain ⟨v28, e29, hq⟩ := bsm hq
    refine r_aI odX7_width rfl (ra_34 hC e29) ?_
    by_cases c30 : v28 ≤ x3
    · rw [if_pos c30] at hq
      refine ic_ge_T (t := 276) odX7_width rfl rfl c30 ?_
      refine mB_run odX7_width 2 (g := (278, [(0, .ref 239), (2, .int x2), (3, .int x3)], [.int x2, .ref 239], (hM C h), 0, 0)) rfl ?_
      obtain ⟨o31, e32, hq⟩ := bsm hq
      refine mB_V (as := [.int x2]) odX7_width okX7_told lk_7_338 rfl (emX7_told hC e32) (kO_at (md_O hC)) rfl rfl rfl ?_
      show mB _ mX7_width (281, [(0, .ref 239), (2, .int x2), (3, .int x3)], [.long o31.2], (hM C o31.1), 0, 0)
      cases hq
      exact mB_ret odX7_width rfl
    · rw [if_neg c30] at hq
      refine ic_ge_F (t := 276) odX7_width rfl rfl c30 ?_
      refine mB_run odX7_width 4 (g := (101, [(4, .int (x3 + (1 : Int32))), (0, .ref 239), (2, .int x2), (3, .int x3)], [], (hM C h), 0, 0)) rfl ?_
      refine mB_lv [1, 2, 3, 0] (lv' := [(0, .ref 239), (2, .int x2), (3, .int x3), (4, .int (x3 + (1 : Int32)))]) rfl ?_
      exact emX7_width_101 hC ih N _ _ _ _ hq
def mxX7_width_34 (N : Nat) : Nat → Int32 → Int32 → mS → Option (mS × Int64)
  | 0, _, _, _ => none
  | n + 1, x2, x3, h =>
    (rA h 27 (0 : Int32)).bind fun v11 =>
    if v11 ≤ x3 then (
      mxX7_width_86 N N x2 (0 : Int32) h) else (
      (rG h 28 x3).bind fun v14 =>
      (some (pJ h 24 v14)).bind fun s16 =>
      (rG s16 29 x3).bind fun v18 =>
      (some (pJ s16 25 v18)).bind fun s20 =>
      (rG s20 30 x3).bind fun v22 =>
      (some (pJ s20 26 v22)).bind fun s24 =>
      (mxX7_thick N  s24).bind fun o26 =>
      mxX7_width_34 N n x2 (x3 + (1 : Int32)) o26)
set_option maxHeartbeats 4000000 in
set_option maxRecDepth 100000 in
theorem emX7_width_34 {N : Nat} {C : mh} (hC : C.length = 239) : ∀ (n : Nat) (x2 : Int32) (x3 : Int32) (h : mS) {o : (mS × Int64)}, mxX7_width_34 N n x2 x3 h = some o → mB (gO mX7_width (hM C o.1, some (.long o.2))) mX7_width (34, [(0, .ref 239), (2, .int x2), (3, .int x3)], [], (hM C h), 0, 0) := by
  intro n
  induction n with
  | zero => intro x2 x3 h o hq; cases hq
  | succ n ih =>
    intro x2 x3 h o hq
    unfold mxX7_width_34 at hq
    refine mB_run odX7_width 2 (g := (36, [(0, .ref 239), (2, .int x2), (3, .int x3)], [.ref 239, .int x3], (hM C h), 0, 0)) rfl ?_
    refine r_gR odX7_width rfl rfl (md_27 hC) ?_
    refine mB_run odX7_width 1 (g := (40, [(0, .ref 239), (2, .int x2), (3, .int x3)], [.int (0 : Int32), .ref 260, .int x3], (hM C h), 0, 0)) rfl ?_
    obtain ⟨v11, e12, hq⟩ := bsm hq
    refine r_aI odX7_width rfl (ra_27 hC e12) ?_
    by_cases c13 : v11 ≤ x3
    · rw [if_pos c13] at hq
      refine ic_ge_T (t := 84) odX7_width rfl rfl c13 ?_
      refine mB_run odX7_width 2 (g := (86, [(3, .int (0 : Int32)), (0, .ref 239), (2, .int x2)], [], (hM C h), 0, 0)) rfl ?_
      refine mB_lv [1, 2, 0] (lv' := [(0, .ref 239), (2, .int x2), (3, .int (0 : Int32))]) rfl ?_
      exact emX7_width_86 hC N _ _ _ hq
    · rw [if_neg c13] at hq
      refine ic_ge_F (t := 84) odX7_width rfl rfl c13 ?_
      refine mB_run odX7_width 2 (g := (46, [(0, .ref 239), (2, .int x2), (3, .int x3)], [.ref 239, .ref 239], (hM C h), 0, 0)) rfl ?_
      refine r_gR odX7_width rfl rfl (md_28 hC) ?_
      refine mB_run odX7_width 1 (g := (50, [(0, .ref 239), (2, .int x2), (3, .int x3)], [.int x3, .ref 261, .ref 239], (hM C h), 0, 0)) rfl ?_
      obtain ⟨v14, e15, hq⟩ := bsm hq
      refine r_aJ odX7_width rfl (ra_28 hC e15) ?_
      obtain ⟨s16, e17, hq⟩ := bsm hq
      refine r_sV odX7_width rfl rfl rfl rfl (pt_24 hC e17) ?_
      refine mB_run odX7_width 2 (g := (56, [(0, .ref 239), (2, .int x2), (3, .int x3)], [.ref 239, .ref 239], (hM C s16), 0, 0)) rfl ?_
      refine r_gR odX7_width rfl rfl (md_29 hC) ?_
      refine mB_run odX7_width 1 (g := (60, [(0, .ref 239), (2, .int x2), (3, .int x3)], [.int x3, .ref 262, .ref 239], (hM C s16), 0, 0)) rfl ?_
      obtain ⟨v18, e19, hq⟩ := bsm hq
      refine r_aJ odX7_width rfl (ra_29 hC e19) ?_
      obtain ⟨s20, e21, hq⟩ := bsm hq
      refine r_sV odX7_width rfl rfl rfl rfl (pt_25 hC e21) ?_
      refine mB_run odX7_width 2 (g := (66, [(0, .ref 239), (2, .int x2), (3, .int x3)], [.ref 239, .ref 239], (hM C s20), 0, 0)) rfl ?_
      refine r_gR odX7_width rfl rfl (md_30 hC) ?_
      refine mB_run odX7_width 1 (g := (70, [(0, .ref 239), (2, .int x2), (3, .int x3)], [.int x3, .ref 263, .ref 239], (hM C s20), 0, 0)) rfl ?_
      obtain ⟨v22, e23, hq⟩ := bsm hq
      refine r_aJ odX7_width rfl (ra_30 hC e23) ?_
      obtain ⟨s24, e25, hq⟩ := bsm hq
      refine r_sV odX7_width rfl rfl rfl rfl (pt_26 hC e25) ?_
      refine mB_run odX7_width 1 (g := (75, [(0, .ref 239), (2, .int x2), (3, .int x3)], [.ref 239], (hM C s24), 0, 0)) rfl ?_
      obtain ⟨o26, e27, hq⟩ := bsm hq
      refine mB_V (as := []) odX7_width okX7_thick lk_7_331 rfl (emX7_thick hC e27) (kO_at (md_O hC)) rfl rfl rfl ?_
      show mB _ mX7_width (78, [(0, .ref 239), (2, .int x2), (3, .int x3)], [], (hM C o26), 0, 0)
      refine mB_run odX7_width 2 (g := (34, [(3, .int (x3 + (1 : Int32))), (0, .ref 239), (2, .int x2)], [], (hM C o26), 0, 0)) rfl ?_
      refine mB_lv [1, 2, 0] (lv' := [(0, .ref 239), (2, .int x2), (3, .int (x3 + (1 : Int32)))]) rfl ?_
      exact ih _ _ _ hq
def mxX7_width (N : Nat) (p1 : Int32) (p2 : Int32) (h : mS) : Option (mS × Int64) :=
  (mxX7_isSolid N p1 h).bind fun o1 =>
  if o1.2 = 0 then (
    some (o1.1, (-1 : Int64))) else (
    (rA o1.1 5 p1).bind fun v4 =>
    if (4 : Int32) ≤ v4 then (
      (mxX7_knows N p1 (0 : Int32) o1.1).bind fun o7 =>
      (some (pI o7 51 (0 : Int32))).bind fun s9 =>
      mxX7_width_34 N N p2 (0 : Int32) s9) else (
      some (o1.1, (-1 : Int64))))
set_option maxHeartbeats 4000000 in
set_option maxRecDepth 100000 in
theorem emX7_width {N : Nat} {C : mh} (hC : C.length = 239) {p1 : Int32} {p2 : Int32} {h : mS} {o : (mS × Int64)} (hq : mxX7_width N p1 p2 h = some o) : mC mX7_width [.ref 239, .int p1, .int p2] (hM C h) (hM C o.1, some (.long o.2)) := by
  refine mC_of okX7_width (Nat.le_of_ble_eq_true rfl) ?_
  unfold mxX7_width at hq
  show mB _ mX7_width (0, [(0, .ref 239), (1, .int p1), (2, .int p2)], [], (hM C h), 0, 0)
  refine mB_run odX7_width 1 (g := (1, [(0, .ref 239), (1, .int p1), (2, .int p2)], [.int p1], (hM C h), 0, 0)) rfl ?_
  obtain ⟨o1, e2, hq⟩ := bsm hq
  refine mB_S (as := [.int p1]) odX7_width okX7_isSolid lk_7_133 rfl (emX7_isSolid hC e2) rfl rfl rfl ?_
  show mB _ mX7_width (4, [(0, .ref 239), (1, .int p1), (2, .int p2)], [.int o1.2], (hM C o1.1), 0, 0)
  by_cases c3 : o1.2 = 0
  · rw [if_pos c3] at hq
    refine if_eq_T (t := 17) odX7_width rfl rfl c3 ?_
    refine mB_run odX7_width 1 (g := (20, [(0, .ref 239), (1, .int p1), (2, .int p2)], [.long (-1 : Int64)], (hM C o1.1), 0, 0)) rfl ?_
    cases hq
    exact mB_ret odX7_width rfl
  · rw [if_neg c3] at hq
    refine if_eq_F (t := 17) odX7_width rfl rfl c3 ?_
    refine mB_run odX7_width 1 (g := (8, [(0, .ref 239), (1, .int p1), (2, .int p2)], [.ref 239], (hM C o1.1), 0, 0)) rfl ?_
    refine r_gR odX7_width rfl rfl (md_5 hC) ?_
    refine mB_run odX7_width 1 (g := (12, [(0, .ref 239), (1, .int p1), (2, .int p2)], [.int p1, .ref 245], (hM C o1.1), 0, 0)) rfl ?_
    obtain ⟨v4, e5, hq⟩ := bsm hq
    refine r_aI odX7_width rfl (ra_5 hC e5) ?_
    refine mB_run odX7_width 1 (g := (14, [(0, .ref 239), (1, .int p1), (2, .int p2)], [.int (4 : Int32), .int v4], (hM C o1.1), 0, 0)) rfl ?_
    by_cases c6 : (4 : Int32) ≤ v4
    · rw [if_pos c6] at hq
      refine ic_ge_T (t := 21) odX7_width rfl rfl c6 ?_
      refine mB_run odX7_width 3 (g := (24, [(0, .ref 239), (1, .int p1), (2, .int p2)], [.int (0 : Int32), .int p1, .ref 239], (hM C o1.1), 0, 0)) rfl ?_
      obtain ⟨o7, e8, hq⟩ := bsm hq
      refine mB_V (as := [.int p1, .int (0 : Int32)]) odX7_width okX7_knows lk_7_244 rfl (emX7_knows hC e8) (kO_at (md_O hC)) rfl rfl rfl ?_
      show mB _ mX7_width (27, [(0, .ref 239), (1, .int p1), (2, .int p2)], [], (hM C o7), 0, 0)
      refine mB_run odX7_width 2 (g := (29, [(0, .ref 239), (1, .int p1), (2, .int p2)], [.int (0 : Int32), .ref 239], (hM C o7), 0, 0)) rfl ?_
      obtain ⟨s9, e10, hq⟩ := bsm hq
      refine r_sV odX7_width rfl rfl rfl rfl (pt_51 hC e10) ?_
      refine mB_run odX7_width 2 (g := (34, [(3, .int (0 : Int32)), (0, .ref 239), (1, .int p1), (2, .int p2)], [], (hM C s9), 0, 0)) rfl ?_
      refine mB_lv [1, 3, 0] (lv' := [(0, .ref 239), (2, .int p2), (3, .int (0 : Int32))]) rfl ?_
      exact emX7_width_34 hC N _ _ _ hq
    · rw [if_neg c6] at hq
      refine ic_ge_F (t := 21) odX7_width rfl rfl c6 ?_
      refine mB_run odX7_width 1 (g := (20, [(0, .ref 239), (1, .int p1), (2, .int p2)], [.long (-1 : Int64)], (hM C o1.1), 0, 0)) rfl ?_
      cases hq
      exact mB_ret odX7_width rfl
def mxX7_along (N : Nat) (p1 : Int32) (h : mS) : Option (mS × Int64) :=
  (rG h 43 p1).bind fun v1 =>
  (rG h 44 p1).bind fun v3 =>
  (rG h 45 p1).bind fun v5 =>
  some (h, ((((h.2.1 24) * v1) + ((h.2.1 25) * v3)) + ((h.2.1 26) * v5)))
set_option maxHeartbeats 4000000 in
set_option maxRecDepth 100000 in
theorem emX7_along {N : Nat} {C : mh} (hC : C.length = 239) {p1 : Int32} {h : mS} {o : (mS × Int64)} (hq : mxX7_along N p1 h = some o) : mC mX7_along [.ref 239, .int p1] (hM C h) (hM C o.1, some (.long o.2)) := by
  refine mC_of okX7_along (Nat.le_of_ble_eq_true rfl) ?_
  unfold mxX7_along at hq
  show mB _ mX7_along (0, [(0, .ref 239), (1, .int p1)], [], (hM C h), 0, 0)
  refine mB_run odX7_along 1 (g := (1, [(0, .ref 239), (1, .int p1)], [.ref 239], (hM C h), 0, 0)) rfl ?_
  refine r_gJ odX7_along rfl rfl (md_24 hC) ?_
  refine mB_run odX7_along 1 (g := (5, [(0, .ref 239), (1, .int p1)], [.ref 239, .long (h.2.1 24)], (hM C h), 0, 0)) rfl ?_
  refine r_gR odX7_along rfl rfl (md_43 hC) ?_
  refine mB_run odX7_along 1 (g := (9, [(0, .ref 239), (1, .int p1)], [.int p1, .ref 272, .long (h.2.1 24)], (hM C h), 0, 0)) rfl ?_
  obtain ⟨v1, e2, hq⟩ := bsm hq
  refine r_aJ odX7_along rfl (ra_43 hC e2) ?_
  refine mB_run odX7_along 2 (g := (12, [(0, .ref 239), (1, .int p1)], [.ref 239, .long ((h.2.1 24) * v1)], (hM C h), 0, 0)) rfl ?_
  refine r_gJ odX7_along rfl rfl (md_25 hC) ?_
  refine mB_run odX7_along 1 (g := (16, [(0, .ref 239), (1, .int p1)], [.ref 239, .long (h.2.1 25), .long ((h.2.1 24) * v1)], (hM C h), 0, 0)) rfl ?_
  refine r_gR odX7_along rfl rfl (md_44 hC) ?_
  refine mB_run odX7_along 1 (g := (20, [(0, .ref 239), (1, .int p1)], [.int p1, .ref 273, .long (h.2.1 25), .long ((h.2.1 24) * v1)], (hM C h), 0, 0)) rfl ?_
  obtain ⟨v3, e4, hq⟩ := bsm hq
  refine r_aJ odX7_along rfl (ra_44 hC e4) ?_
  refine mB_run odX7_along 3 (g := (24, [(0, .ref 239), (1, .int p1)], [.ref 239, .long (((h.2.1 24) * v1) + ((h.2.1 25) * v3))], (hM C h), 0, 0)) rfl ?_
  refine r_gJ odX7_along rfl rfl (md_26 hC) ?_
  refine mB_run odX7_along 1 (g := (28, [(0, .ref 239), (1, .int p1)], [.ref 239, .long (h.2.1 26), .long (((h.2.1 24) * v1) + ((h.2.1 25) * v3))], (hM C h), 0, 0)) rfl ?_
  refine r_gR odX7_along rfl rfl (md_45 hC) ?_
  refine mB_run odX7_along 1 (g := (32, [(0, .ref 239), (1, .int p1)], [.int p1, .ref 274, .long (h.2.1 26), .long (((h.2.1 24) * v1) + ((h.2.1 25) * v3))], (hM C h), 0, 0)) rfl ?_
  obtain ⟨v5, e6, hq⟩ := bsm hq
  refine r_aJ odX7_along rfl (ra_45 hC e6) ?_
  refine mB_run odX7_along 2 (g := (35, [(0, .ref 239), (1, .int p1)], [.long ((((h.2.1 24) * v1) + ((h.2.1 25) * v3)) + ((h.2.1 26) * v5))], (hM C h), 0, 0)) rfl ?_
  cases hq
  exact mB_ret odX7_along rfl
def mxX7_highest_51 (N : Nat) (rec12 : Int32 → Int64 → Int32 → mS → Option (mS × Int64)) (x1 : Int32) (x2 : Int64) (x4 : Int32) (h : mS) : Option (mS × Int64) :=
  rec12 x1 x2 (x4 + (1 : Int32)) h
set_option maxHeartbeats 4000000 in
set_option maxRecDepth 100000 in
theorem emX7_highest_51 {N : Nat} {C : mh} (hC : C.length = 239) {rec12 : Int32 → Int64 → Int32 → mS → Option (mS × Int64)} (hrec12 : ∀ (x1 : Int32) (x2 : Int64) (x4 : Int32) (h : mS) {o : (mS × Int64)}, rec12 x1 x2 x4 h = some o → mB (gO mX7_highest (hM C o.1, some (.long o.2))) mX7_highest (12, [(0, .ref 239), (1, .int x1), (2, .long x2), (4, .int x4)], [], (hM C h), 0, 0)) (x1 : Int32) (x2 : Int64) (x4 : Int32) (h : mS) {o : (mS × Int64)} (hq : mxX7_highest_51 N rec12 x1 x2 x4 h = some o) : mB (gO mX7_highest (hM C o.1, some (.long o.2))) mX7_highest (51, [(0, .ref 239), (1, .int x1), (2, .long x2), (4, .int x4)], [], (hM C h), 0, 0) := by
  unfold mxX7_highest_51 at hq
  refine mB_run odX7_highest 2 (g := (12, [(4, .int (x4 + (1 : Int32))), (0, .ref 239), (1, .int x1), (2, .long x2)], [], (hM C h), 0, 0)) rfl ?_
  refine mB_lv [1, 2, 3, 0] (lv' := [(0, .ref 239), (1, .int x1), (2, .long x2), (4, .int (x4 + (1 : Int32)))]) rfl ?_
  exact hrec12 _ _ _ _ hq
def mxX7_highest_12 (N : Nat) : Nat → Int32 → Int64 → Int32 → mS → Option (mS × Int64)
  | 0, _, _, _, _ => none
  | n + 1, x1, x2, x4, h =>
    (rA h 46 x1).bind fun v3 =>
    if v3 ≤ x4 then (
      some (h, x2)) else (
      (mxX7_along N (((24 : Int32) * x1) + x4) h).bind fun o6 =>
      if o6.2 ≤ x2 then (
        mxX7_highest_51 N (mxX7_highest_12 N n) x1 x2 x4 o6.1) else (
        (mxX7_along N (((24 : Int32) * x1) + x4) o6.1).bind fun o9 =>
        mxX7_highest_51 N (mxX7_highest_12 N n) x1 o9.2 x4 o9.1))
set_option maxHeartbeats 4000000 in
set_option maxRecDepth 100000 in
theorem emX7_highest_12 {N : Nat} {C : mh} (hC : C.length = 239) : ∀ (n : Nat) (x1 : Int32) (x2 : Int64) (x4 : Int32) (h : mS) {o : (mS × Int64)}, mxX7_highest_12 N n x1 x2 x4 h = some o → mB (gO mX7_highest (hM C o.1, some (.long o.2))) mX7_highest (12, [(0, .ref 239), (1, .int x1), (2, .long x2), (4, .int x4)], [], (hM C h), 0, 0) := by
  intro n
  induction n with
  | zero => intro x1 x2 x4 h o hq; cases hq
  | succ n ih =>
    intro x1 x2 x4 h o hq
    unfold mxX7_highest_12 at hq
    refine mB_run odX7_highest 2 (g := (15, [(0, .ref 239), (1, .int x1), (2, .long x2), (4, .int x4)], [.ref 239, .int x4], (hM C h), 0, 0)) rfl ?_
    refine r_gR odX7_highest rfl rfl (md_46 hC) ?_
    refine mB_run odX7_highest 1 (g := (19, [(0, .ref 239), (1, .int x1), (2, .long x2), (4, .int x4)], [.int x1, .ref 275, .int x4], (hM C h), 0, 0)) rfl ?_
    obtain ⟨v3, e4, hq⟩ := bsm hq
    refine r_aI odX7_highest rfl (ra_46 hC e4) ?_
    by_cases c5 : v3 ≤ x4
    · rw [if_pos c5] at hq
      refine ic_ge_T (t := 57) odX7_highest rfl rfl c5 ?_
      refine mB_run odX7_highest 1 (g := (58, [(0, .ref 239), (1, .int x1), (2, .long x2), (4, .int x4)], [.long x2], (hM C h), 0, 0)) rfl ?_
      cases hq
      exact mB_ret odX7_highest rfl
    · rw [if_neg c5] at hq
      refine ic_ge_F (t := 57) odX7_highest rfl rfl c5 ?_
      refine mB_run odX7_highest 6 (g := (31, [(0, .ref 239), (1, .int x1), (2, .long x2), (4, .int x4)], [.int (((24 : Int32) * x1) + x4), .ref 239], (hM C h), 0, 0)) rfl ?_
      obtain ⟨o6, e7, hq⟩ := bsm hq
      refine mB_V (as := [.int (((24 : Int32) * x1) + x4)]) odX7_highest okX7_along lk_7_341 rfl (emX7_along hC e7) (kO_at (md_O hC)) rfl rfl rfl ?_
      show mB _ mX7_highest (34, [(0, .ref 239), (1, .int x1), (2, .long x2), (4, .int x4)], [.long o6.2], (hM C o6.1), 0, 0)
      refine mB_run odX7_highest 1 (g := (35, [(0, .ref 239), (1, .int x1), (2, .long x2), (4, .int x4)], [.long x2, .long o6.2], (hM C o6.1), 0, 0)) rfl ?_
      by_cases c8 : o6.2 ≤ x2
      · rw [if_pos c8] at hq
        refine lc_le_T (t := 51) odX7_highest rfl rfl rfl c8 ?_
        refine mB_lv [0, 1, 2, 3] (lv' := [(0, .ref 239), (1, .int x1), (2, .long x2), (4, .int x4)]) rfl ?_
        exact emX7_highest_51 hC ih _ _ _ _ hq
      · rw [if_neg c8] at hq
        refine lc_le_F (t := 51) odX7_highest rfl rfl rfl c8 ?_
        refine mB_run odX7_highest 6 (g := (47, [(0, .ref 239), (1, .int x1), (2, .long x2), (4, .int x4)], [.int (((24 : Int32) * x1) + x4), .ref 239], (hM C o6.1), 0, 0)) rfl ?_
        obtain ⟨o9, e10, hq⟩ := bsm hq
        refine mB_V (as := [.int (((24 : Int32) * x1) + x4)]) odX7_highest okX7_along lk_7_341 rfl (emX7_along hC e10) (kO_at (md_O hC)) rfl rfl rfl ?_
        show mB _ mX7_highest (50, [(0, .ref 239), (1, .int x1), (2, .long x2), (4, .int x4)], [.long o9.2], (hM C o9.1), 0, 0)
        refine mB_run odX7_highest 1 (g := (51, [(2, .long o9.2), (0, .ref 239), (1, .int x1), (4, .int x4)], [], (hM C o9.1), 0, 0)) rfl ?_
        refine mB_lv [1, 2, 0, 3] (lv' := [(0, .ref 239), (1, .int x1), (2, .long o9.2), (4, .int x4)]) rfl ?_
        exact emX7_highest_51 hC ih _ _ _ _ hq
def mxX7_highest (N : Nat) (p1 : Int32) (h : mS) : Option (mS × Int64) :=
  (mxX7_along N ((24 : Int32) * p1) h).bind fun o1 =>
  mxX7_highest_12 N N p1 o1.2 (1 : Int32) o1.1
set_option maxHeartbeats 4000000 in
set_option maxRecDepth 100000 in
theorem emX7_highest {N : Nat} {C : mh} (hC : C.length = 239) {p1 : Int32} {h : mS} {o : (mS × Int64)} (hq : mxX7_highest N p1 h = some o) : mC mX7_highest [.ref 239, .int p1] (hM C h) (hM C o.1, some (.long o.2)) := by
  refine mC_of okX7_highest (Nat.le_of_ble_eq_true rfl) ?_
  unfold mxX7_highest at hq
  show mB _ mX7_highest (0, [(0, .ref 239), (1, .int p1)], [], (hM C h), 0, 0)
  refine mB_run odX7_highest 4 (g := (5, [(0, .ref 239), (1, .int p1)], [.int ((24 : Int32) * p1), .ref 239], (hM C h), 0, 0)) rfl ?_
  obtain ⟨o1, e2, hq⟩ := bsm hq
  refine mB_V (as := [.int ((24 : Int32) * p1)]) odX7_highest okX7_along lk_7_341 rfl (emX7_along hC e2) (kO_at (md_O hC)) rfl rfl rfl ?_
  show mB _ mX7_highest (8, [(0, .ref 239), (1, .int p1)], [.long o1.2], (hM C o1.1), 0, 0)
  refine mB_run odX7_highest 3 (g := (12, [(4, .int (1 : Int32)), (2, .long o1.2), (0, .ref 239), (1, .int p1)], [], (hM C o1.1), 0, 0)) rfl ?_
  refine mB_lv [2, 3, 1, 0] (lv' := [(0, .ref 239), (1, .int p1), (2, .long o1.2), (4, .int (1 : Int32))]) rfl ?_
  exact emX7_highest_12 hC N _ _ _ _ hq
def mxX7_finds_50 (N : Nat) (rec3 : Int64 → Int64 → Int64 → Int32 → mS → Option mS) (x1 : Int64) (x3 : Int64) (x5 : Int64) (x7 : Int32) (h : mS) : Option mS :=
  rec3 x1 x3 x5 (x7 + (1 : Int32)) h
set_option maxHeartbeats 4000000 in
set_option maxRecDepth 100000 in
theorem emX7_finds_50 {N : Nat} {C : mh} (hC : C.length = 239) {rec3 : Int64 → Int64 → Int64 → Int32 → mS → Option mS} (hrec3 : ∀ (x1 : Int64) (x3 : Int64) (x5 : Int64) (x7 : Int32) (h : mS) {o : mS}, rec3 x1 x3 x5 x7 h = some o → mB (gO mX7_finds (hM C o, none)) mX7_finds (3, [(0, .ref 239), (1, .long x1), (3, .long x3), (5, .long x5), (7, .int x7)], [], (hM C h), 0, 0)) (x1 : Int64) (x3 : Int64) (x5 : Int64) (x7 : Int32) (h : mS) {o : mS} (hq : mxX7_finds_50 N rec3 x1 x3 x5 x7 h = some o) : mB (gO mX7_finds (hM C o, none)) mX7_finds (50, [(0, .ref 239), (1, .long x1), (3, .long x3), (5, .long x5), (7, .int x7)], [], (hM C h), 0, 0) := by
  unfold mxX7_finds_50 at hq
  refine mB_run odX7_finds 2 (g := (3, [(7, .int (x7 + (1 : Int32))), (0, .ref 239), (1, .long x1), (3, .long x3), (5, .long x5)], [], (hM C h), 0, 0)) rfl ?_
  refine mB_lv [1, 2, 3, 4, 0] (lv' := [(0, .ref 239), (1, .long x1), (3, .long x3), (5, .long x5), (7, .int (x7 + (1 : Int32)))]) rfl ?_
  exact hrec3 _ _ _ _ _ hq
def mxX7_finds_3 (N : Nat) : Nat → Int64 → Int64 → Int64 → Int32 → mS → Option mS
  | 0, _, _, _, _, _ => none
  | n + 1, x1, x3, x5, x7, h =>
    if (h.1 55) ≤ x7 then (
      if (h.1 55) = (24 : Int32) then (
        (some (pI h 54 (1 : Int32))).bind fun s3 =>
        some s3) else (
        (mxX7_isPoint N x1 x3 x5 h).bind fun o5 =>
        if o5.2 = 0 then (
          (some (pI o5.1 54 (1 : Int32))).bind fun s8 =>
          some s8) else (
          (wG o5.1 56 (o5.1.1 55) x1).bind fun s10 =>
          (wG s10 57 (s10.1 55) x3).bind fun s12 =>
          (wG s12 58 (s12.1 55) x5).bind fun s14 =>
          (some (pI s14 55 ((s14.1 55) + (1 : Int32)))).bind fun s16 =>
          some s16))) else (
      (rG h 56 x7).bind fun v18 =>
      if v18 = x1 then (
        (rG h 57 x7).bind fun v21 =>
        if v21 = x3 then (
          (rG h 58 x7).bind fun v24 =>
          if v24 = x5 then (
            some h) else (
            mxX7_finds_50 N (mxX7_finds_3 N n) x1 x3 x5 x7 h)) else (
          mxX7_finds_50 N (mxX7_finds_3 N n) x1 x3 x5 x7 h)) else (
        mxX7_finds_50 N (mxX7_finds_3 N n) x1 x3 x5 x7 h))
set_option maxHeartbeats 4000000 in
set_option maxRecDepth 100000 in
theorem emX7_finds_3 {N : Nat} {C : mh} (hC : C.length = 239) : ∀ (n : Nat) (x1 : Int64) (x3 : Int64) (x5 : Int64) (x7 : Int32) (h : mS) {o : mS}, mxX7_finds_3 N n x1 x3 x5 x7 h = some o → mB (gO mX7_finds (hM C o, none)) mX7_finds (3, [(0, .ref 239), (1, .long x1), (3, .long x3), (5, .long x5), (7, .int x7)], [], (hM C h), 0, 0) := by
  intro n
  induction n with
  | zero => intro x1 x3 x5 x7 h o hq; cases hq
  | succ n ih =>
    intro x1 x3 x5 x7 h o hq
    unfold mxX7_finds_3 at hq
    refine mB_run odX7_finds 2 (g := (6, [(0, .ref 239), (1, .long x1), (3, .long x3), (5, .long x5), (7, .int x7)], [.ref 239, .int x7], (hM C h), 0, 0)) rfl ?_
    refine r_gI odX7_finds rfl rfl (md_55 hC) ?_
    by_cases c1 : (h.1 55) ≤ x7
    · rw [if_pos c1] at hq
      refine ic_ge_T (t := 56) odX7_finds rfl rfl c1 ?_
      refine mB_run odX7_finds 1 (g := (57, [(0, .ref 239), (1, .long x1), (3, .long x3), (5, .long x5), (7, .int x7)], [.ref 239], (hM C h), 0, 0)) rfl ?_
      refine r_gI odX7_finds rfl rfl (md_55 hC) ?_
      refine mB_run odX7_finds 1 (g := (62, [(0, .ref 239), (1, .long x1), (3, .long x3), (5, .long x5), (7, .int x7)], [.int (24 : Int32), .int (h.1 55)], (hM C h), 0, 0)) rfl ?_
      by_cases c2 : (h.1 55) = (24 : Int32)
      · rw [if_pos c2] at hq
        refine ic_eq_T (t := 75) odX7_finds rfl rfl c2 ?_
        refine mB_run odX7_finds 2 (g := (77, [(0, .ref 239), (1, .long x1), (3, .long x3), (5, .long x5), (7, .int x7)], [.int (1 : Int32), .ref 239], (hM C h), 0, 0)) rfl ?_
        obtain ⟨s3, e4, hq⟩ := bsm hq
        refine r_sV odX7_finds rfl rfl rfl rfl (pt_54 hC e4) ?_
        cases hq
        exact mB_ret odX7_finds rfl
      · rw [if_neg c2] at hq
        refine ic_eq_F (t := 75) odX7_finds rfl rfl c2 ?_
        refine mB_run odX7_finds 3 (g := (69, [(0, .ref 239), (1, .long x1), (3, .long x3), (5, .long x5), (7, .int x7)], [.long x5, .long x3, .long x1], (hM C h), 0, 0)) rfl ?_
        obtain ⟨o5, e6, hq⟩ := bsm hq
        refine mB_S (as := [.long x1, .long x3, .long x5]) odX7_finds okX7_isPoint lk_7_137 rfl (emX7_isPoint hC e6) rfl rfl rfl ?_
        show mB _ mX7_finds (72, [(0, .ref 239), (1, .long x1), (3, .long x3), (5, .long x5), (7, .int x7)], [.int o5.2], (hM C o5.1), 0, 0)
        by_cases c7 : o5.2 = 0
        · rw [if_pos c7] at hq
          refine if_ne_F (t := 81) odX7_finds rfl rfl c7 ?_
          refine mB_run odX7_finds 2 (g := (77, [(0, .ref 239), (1, .long x1), (3, .long x3), (5, .long x5), (7, .int x7)], [.int (1 : Int32), .ref 239], (hM C o5.1), 0, 0)) rfl ?_
          obtain ⟨s8, e9, hq⟩ := bsm hq
          refine r_sV odX7_finds rfl rfl rfl rfl (pt_54 hC e9) ?_
          cases hq
          exact mB_ret odX7_finds rfl
        · rw [if_neg c7] at hq
          refine if_ne_T (t := 81) odX7_finds rfl rfl c7 ?_
          refine mB_run odX7_finds 1 (g := (82, [(0, .ref 239), (1, .long x1), (3, .long x3), (5, .long x5), (7, .int x7)], [.ref 239], (hM C o5.1), 0, 0)) rfl ?_
          refine r_gR odX7_finds rfl rfl (md_56 hC) ?_
          refine mB_run odX7_finds 1 (g := (86, [(0, .ref 239), (1, .long x1), (3, .long x3), (5, .long x5), (7, .int x7)], [.ref 239, .ref 276], (hM C o5.1), 0, 0)) rfl ?_
          refine r_gI odX7_finds rfl rfl (md_55 hC) ?_
          refine mB_run odX7_finds 1 (g := (90, [(0, .ref 239), (1, .long x1), (3, .long x3), (5, .long x5), (7, .int x7)], [.long x1, .int (o5.1.1 55), .ref 276], (hM C o5.1), 0, 0)) rfl ?_
          obtain ⟨s10, e11, hq⟩ := bsm hq
          refine r_wJ odX7_finds rfl (wa_56 hC e11) ?_
          refine mB_run odX7_finds 1 (g := (92, [(0, .ref 239), (1, .long x1), (3, .long x3), (5, .long x5), (7, .int x7)], [.ref 239], (hM C s10), 0, 0)) rfl ?_
          refine r_gR odX7_finds rfl rfl (md_57 hC) ?_
          refine mB_run odX7_finds 1 (g := (96, [(0, .ref 239), (1, .long x1), (3, .long x3), (5, .long x5), (7, .int x7)], [.ref 239, .ref 277], (hM C s10), 0, 0)) rfl ?_
          refine r_gI odX7_finds rfl rfl (md_55 hC) ?_
          refine mB_run odX7_finds 1 (g := (100, [(0, .ref 239), (1, .long x1), (3, .long x3), (5, .long x5), (7, .int x7)], [.long x3, .int (s10.1 55), .ref 277], (hM C s10), 0, 0)) rfl ?_
          obtain ⟨s12, e13, hq⟩ := bsm hq
          refine r_wJ odX7_finds rfl (wa_57 hC e13) ?_
          refine mB_run odX7_finds 1 (g := (102, [(0, .ref 239), (1, .long x1), (3, .long x3), (5, .long x5), (7, .int x7)], [.ref 239], (hM C s12), 0, 0)) rfl ?_
          refine r_gR odX7_finds rfl rfl (md_58 hC) ?_
          refine mB_run odX7_finds 1 (g := (106, [(0, .ref 239), (1, .long x1), (3, .long x3), (5, .long x5), (7, .int x7)], [.ref 239, .ref 278], (hM C s12), 0, 0)) rfl ?_
          refine r_gI odX7_finds rfl rfl (md_55 hC) ?_
          refine mB_run odX7_finds 1 (g := (111, [(0, .ref 239), (1, .long x1), (3, .long x3), (5, .long x5), (7, .int x7)], [.long x5, .int (s12.1 55), .ref 278], (hM C s12), 0, 0)) rfl ?_
          obtain ⟨s14, e15, hq⟩ := bsm hq
          refine r_wJ odX7_finds rfl (wa_58 hC e15) ?_
          refine mB_run odX7_finds 2 (g := (114, [(0, .ref 239), (1, .long x1), (3, .long x3), (5, .long x5), (7, .int x7)], [.ref 239, .ref 239], (hM C s14), 0, 0)) rfl ?_
          refine r_gI odX7_finds rfl rfl (md_55 hC) ?_
          refine mB_run odX7_finds 2 (g := (119, [(0, .ref 239), (1, .long x1), (3, .long x3), (5, .long x5), (7, .int x7)], [.int ((s14.1 55) + (1 : Int32)), .ref 239], (hM C s14), 0, 0)) rfl ?_
          obtain ⟨s16, e17, hq⟩ := bsm hq
          refine r_sV odX7_finds rfl rfl rfl rfl (pt_55 hC e17) ?_
          cases hq
          exact mB_ret odX7_finds rfl
    · rw [if_neg c1] at hq
      refine ic_ge_F (t := 56) odX7_finds rfl rfl c1 ?_
      refine mB_run odX7_finds 1 (g := (13, [(0, .ref 239), (1, .long x1), (3, .long x3), (5, .long x5), (7, .int x7)], [.ref 239], (hM C h), 0, 0)) rfl ?_
      refine r_gR odX7_finds rfl rfl (md_56 hC) ?_
      refine mB_run odX7_finds 1 (g := (18, [(0, .ref 239), (1, .long x1), (3, .long x3), (5, .long x5), (7, .int x7)], [.int x7, .ref 276], (hM C h), 0, 0)) rfl ?_
      obtain ⟨v18, e19, hq⟩ := bsm hq
      refine r_aJ odX7_finds rfl (ra_56 hC e19) ?_
      refine mB_run odX7_finds 1 (g := (20, [(0, .ref 239), (1, .long x1), (3, .long x3), (5, .long x5), (7, .int x7)], [.long x1, .long v18], (hM C h), 0, 0)) rfl ?_
      by_cases c20 : v18 = x1
      · rw [if_pos c20] at hq
        refine lc_ne_F (t := 50) odX7_finds rfl rfl rfl c20 ?_
        refine mB_run odX7_finds 1 (g := (25, [(0, .ref 239), (1, .long x1), (3, .long x3), (5, .long x5), (7, .int x7)], [.ref 239], (hM C h), 0, 0)) rfl ?_
        refine r_gR odX7_finds rfl rfl (md_57 hC) ?_
        refine mB_run odX7_finds 1 (g := (30, [(0, .ref 239), (1, .long x1), (3, .long x3), (5, .long x5), (7, .int x7)], [.int x7, .ref 277], (hM C h), 0, 0)) rfl ?_
        obtain ⟨v21, e22, hq⟩ := bsm hq
        refine r_aJ odX7_finds rfl (ra_57 hC e22) ?_
        refine mB_run odX7_finds 1 (g := (32, [(0, .ref 239), (1, .long x1), (3, .long x3), (5, .long x5), (7, .int x7)], [.long x3, .long v21], (hM C h), 0, 0)) rfl ?_
        by_cases c23 : v21 = x3
        · rw [if_pos c23] at hq
          refine lc_ne_F (t := 50) odX7_finds rfl rfl rfl c23 ?_
          refine mB_run odX7_finds 1 (g := (37, [(0, .ref 239), (1, .long x1), (3, .long x3), (5, .long x5), (7, .int x7)], [.ref 239], (hM C h), 0, 0)) rfl ?_
          refine r_gR odX7_finds rfl rfl (md_58 hC) ?_
          refine mB_run odX7_finds 1 (g := (42, [(0, .ref 239), (1, .long x1), (3, .long x3), (5, .long x5), (7, .int x7)], [.int x7, .ref 278], (hM C h), 0, 0)) rfl ?_
          obtain ⟨v24, e25, hq⟩ := bsm hq
          refine r_aJ odX7_finds rfl (ra_58 hC e25) ?_
          refine mB_run odX7_finds 1 (g := (45, [(0, .ref 239), (1, .long x1), (3, .long x3), (5, .long x5), (7, .int x7)], [.long x5, .long v24], (hM C h), 0, 0)) rfl ?_
          by_cases c26 : v24 = x5
          · rw [if_pos c26] at hq
            refine lc_ne_F (t := 50) odX7_finds rfl rfl rfl c26 ?_
            cases hq
            exact mB_ret odX7_finds rfl
          · rw [if_neg c26] at hq
            refine lc_ne_T (t := 50) odX7_finds rfl rfl rfl c26 ?_
            refine mB_lv [0, 1, 2, 3, 4] (lv' := [(0, .ref 239), (1, .long x1), (3, .long x3), (5, .long x5), (7, .int x7)]) rfl ?_
            exact emX7_finds_50 hC ih _ _ _ _ _ hq
        · rw [if_neg c23] at hq
          refine lc_ne_T (t := 50) odX7_finds rfl rfl rfl c23 ?_
          refine mB_lv [0, 1, 2, 3, 4] (lv' := [(0, .ref 239), (1, .long x1), (3, .long x3), (5, .long x5), (7, .int x7)]) rfl ?_
          exact emX7_finds_50 hC ih _ _ _ _ _ hq
      · rw [if_neg c20] at hq
        refine lc_ne_T (t := 50) odX7_finds rfl rfl rfl c20 ?_
        refine mB_lv [0, 1, 2, 3, 4] (lv' := [(0, .ref 239), (1, .long x1), (3, .long x3), (5, .long x5), (7, .int x7)]) rfl ?_
        exact emX7_finds_50 hC ih _ _ _ _ _ hq
def mxX7_finds (N : Nat) (p1 : Int64) (p2 : Int64) (p3 : Int64) (h : mS) : Option mS :=
  mxX7_finds_3 N N p1 p2 p3 (0 : Int32) h
set_option maxHeartbeats 4000000 in
set_option maxRecDepth 100000 in
theorem emX7_finds {N : Nat} {C : mh} (hC : C.length = 239) {p1 : Int64} {p2 : Int64} {p3 : Int64} {h : mS} {o : mS} (hq : mxX7_finds N p1 p2 p3 h = some o) : mC mX7_finds [.ref 239, .long p1, .long p2, .long p3] (hM C h) (hM C o, none) := by
  refine mC_of okX7_finds (Nat.le_of_ble_eq_true rfl) ?_
  unfold mxX7_finds at hq
  show mB _ mX7_finds (0, [(0, .ref 239), (1, .long p1), (3, .long p2), (5, .long p3)], [], (hM C h), 0, 0)
  refine mB_run odX7_finds 2 (g := (3, [(7, .int (0 : Int32)), (0, .ref 239), (1, .long p1), (3, .long p2), (5, .long p3)], [], (hM C h), 0, 0)) rfl ?_
  refine mB_lv [1, 2, 3, 4, 0] (lv' := [(0, .ref 239), (1, .long p1), (3, .long p2), (5, .long p3), (7, .int (0 : Int32))]) rfl ?_
  exact emX7_finds_3 hC N _ _ _ _ _ hq
