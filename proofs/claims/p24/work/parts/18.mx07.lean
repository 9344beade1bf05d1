def mxX7_turn_149 (N : Nat) (rec27 : Int32 → Int32 → Int32 → mS → Option (mS × Int32)) (x1 : Int32) (x2 : Int32) (x3 : Int32) (y0 : Int32) (y1 : Int32) (h : mS) : Option (mS × Int32) :=
  (wA h 8 y1 y0).bind fun s29 =>
  rec27 x1 x2 (x3 + (1 : Int32)) s29
set_option maxHeartbeats 4000000 in
set_option maxRecDepth 100000 in
theorem emX7_turn_149 {N : Nat} {C : mh} (hC : C.length = 239) {rec27 : Int32 → Int32 → Int32 → mS → Option (mS × Int32)} (hrec27 : ∀ (x1 : Int32) (x2 : Int32) (x3 : Int32) (h : mS) {o : (mS × Int32)}, rec27 x1 x2 x3 h = some o → mB (gO mX7_turn (hM C o.1, some (.int o.2))) mX7_turn (27, [(0, .ref 239), (1, .int x1), (2, .int x2), (3, .int x3)], [], (hM C h), 0, 0)) (x1 : Int32) (x2 : Int32) (x3 : Int32) (y0 : Int32) (y1 : Int32) (h : mS) {o : (mS × Int32)} (hq : mxX7_turn_149 N rec27 x1 x2 x3 y0 y1 h = some o) : mB (gO mX7_turn (hM C o.1, some (.int o.2))) mX7_turn (149, [(0, .ref 239), (1, .int x1), (2, .int x2), (3, .int x3)], [.int y0, .int y1, .ref 248], (hM C h), 0, 0) := by
  unfold mxX7_turn_149 at hq
  obtain ⟨s29, e30, hq⟩ := bsm hq
  refine r_wI odX7_turn rfl (wa_8 hC e30) ?_
  refine mB_run odX7_turn 2 (g := (27, [(3, .int (x3 + (1 : Int32))), (0, .ref 239), (1, .int x1), (2, .int x2)], [], (hM C s29), 0, 0)) rfl ?_
  refine mB_lv [1, 2, 3, 0] (lv' := [(0, .ref 239), (1, .int x1), (2, .int x2), (3, .int (x3 + (1 : Int32)))]) rfl ?_
  exact hrec27 _ _ _ _ hq
def mxX7_turn_121 (N : Nat) (rec27 : Int32 → Int32 → Int32 → mS → Option (mS × Int32)) (x1 : Int32) (x2 : Int32) (x3 : Int32) (x4 : Int32) (x5 : Int32) (x6 : Int32) (y0 : Int32) (y1 : Int32) (h : mS) : Option (mS × Int32) :=
  (wA h 7 y1 y0).bind fun s25 =>
  if x2 = 0 then (
    mxX7_turn_149 N rec27 x1 x2 x3 x5 x3 s25) else (
    if x2 = (1 : Int32) then (
      mxX7_turn_149 N rec27 x1 x2 x3 (-x4) x3 s25) else (
      mxX7_turn_149 N rec27 x1 x2 x3 x6 x3 s25))
set_option maxHeartbeats 4000000 in
set_option maxRecDepth 100000 in
theorem emX7_turn_121 {N : Nat} {C : mh} (hC : C.length = 239) {rec27 : Int32 → Int32 → Int32 → mS → Option (mS × Int32)} (hrec27 : ∀ (x1 : Int32) (x2 : Int32) (x3 : Int32) (h : mS) {o : (mS × Int32)}, rec27 x1 x2 x3 h = some o → mB (gO mX7_turn (hM C o.1, some (.int o.2))) mX7_turn (27, [(0, .ref 239), (1, .int x1), (2, .int x2), (3, .int x3)], [], (hM C h), 0, 0)) (x1 : Int32) (x2 : Int32) (x3 : Int32) (x4 : Int32) (x5 : Int32) (x6 : Int32) (y0 : Int32) (y1 : Int32) (h : mS) {o : (mS × Int32)} (hq : mxX7_turn_121 N rec27 x1 x2 x3 x4 x5 x6 y0 y1 h = some o) : mB (gO mX7_turn (hM C o.1, some (.int o.2))) mX7_turn (121, [(0, .ref 239), (1, .int x1), (2, .int x2), (3, .int x3), (4, .int x4), (5, .int x5), (6, .int x6)], [.int y0, .int y1, .ref 247], (hM C h), 0, 0) := by
  unfold mxX7_turn_121 at hq
  obtain ⟨s25, e26, hq⟩ := bsm hq
  refine r_wI odX7_turn rfl (wa_7 hC e26) ?_
  refine mB_run odX7_turn 1 (g := (123, [(0, .ref 239), (1, .int x1), (2, .int x2), (3, .int x3), (4, .int x4), (5, .int x5), (6, .int x6)], [.ref 239], (hM C s25), 0, 0)) rfl ?_
  refine r_gR odX7_turn rfl rfl (md_8 hC) ?_
  refine mB_run odX7_turn 2 (g := (128, [(0, .ref 239), (1, .int x1), (2, .int x2), (3, .int x3), (4, .int x4), (5, .int x5), (6, .int x6)], [.int x2, .int x3, .ref 248], (hM C s25), 0, 0)) rfl ?_
  by_cases c27 : x2 = 0
  · rw [if_pos c27] at hq
    refine if_ne_F (t := 136) odX7_turn rfl rfl c27 ?_
    refine mB_run odX7_turn 2 (g := (149, [(0, .ref 239), (1, .int x1), (2, .int x2), (3, .int x3), (4, .int x4), (5, .int x5), (6, .int x6)], [.int x5, .int x3, .ref 248], (hM C s25), 0, 0)) rfl ?_
    refine mB_lv [0, 1, 2, 3] (lv' := [(0, .ref 239), (1, .int x1), (2, .int x2), (3, .int x3)]) rfl ?_
    exact emX7_turn_149 hC hrec27 _ _ _ _ _ _ hq
  · rw [if_neg c27] at hq
    refine if_ne_T (t := 136) odX7_turn rfl rfl c27 ?_
    refine mB_run odX7_turn 2 (g := (138, [(0, .ref 239), (1, .int x1), (2, .int x2), (3, .int x3), (4, .int x4), (5, .int x5), (6, .int x6)], [.int (1 : Int32), .int x2, .int x3, .ref 248], (hM C s25), 0, 0)) rfl ?_
    by_cases c28 : x2 = (1 : Int32)
    · rw [if_pos c28] at hq
      refine ic_ne_F (t := 147) odX7_turn rfl rfl c28 ?_
      refine mB_run odX7_turn 3 (g := (149, [(0, .ref 239), (1, .int x1), (2, .int x2), (3, .int x3), (4, .int x4), (5, .int x5), (6, .int x6)], [.int (-x4), .int x3, .ref 248], (hM C s25), 0, 0)) rfl ?_
      refine mB_lv [0, 1, 2, 3] (lv' := [(0, .ref 239), (1, .int x1), (2, .int x2), (3, .int x3)]) rfl ?_
      exact emX7_turn_149 hC hrec27 _ _ _ _ _ _ hq
    · rw [if_neg c28] at hq
      refine ic_ne_T (t := 147) odX7_turn rfl rfl c28 ?_
      refine mB_run odX7_turn 1 (g := (149, [(0, .ref 239), (1, .int x1), (2, .int x2), (3, .int x3), (4, .int x4), (5, .int x5), (6, .int x6)], [.int x6, .int x3, .ref 248], (hM C s25), 0, 0)) rfl ?_
      refine mB_lv [0, 1, 2, 3] (lv' := [(0, .ref 239), (1, .int x1), (2, .int x2), (3, .int x3)]) rfl ?_
      exact emX7_turn_149 hC hrec27 _ _ _ _ _ _ hq
def mxX7_turn_93 (N : Nat) (rec27 : Int32 → Int32 → Int32 → mS → Option (mS × Int32)) (x1 : Int32) (x2 : Int32) (x3 : Int32) (x4 : Int32) (x5 : Int32) (x6 : Int32) (y0 : Int32) (y1 : Int32) (h : mS) : Option (mS × Int32) :=
  (wA h 6 y1 y0).bind fun s21 =>
  if x2 = 0 then (
    mxX7_turn_121 N rec27 x1 x2 x3 x4 x5 x6 (-x6) x3 s21) else (
    if x2 = (1 : Int32) then (
      mxX7_turn_121 N rec27 x1 x2 x3 x4 x5 x6 x5 x3 s21) else (
      mxX7_turn_121 N rec27 x1 x2 x3 x4 x5 x6 x4 x3 s21))
set_option maxHeartbeats 4000000 in
set_option maxRecDepth 100000 in
theorem emX7_turn_93 {N : Nat} {C : mh} (hC : C.length = 239) {rec27 : Int32 → Int32 → Int32 → mS → Option (mS × Int32)} (hrec27 : ∀ (x1 : Int32) (x2 : Int32) (x3 : Int32) (h : mS) {o : (mS × Int32)}, rec27 x1 x2 x3 h = some o → mB (gO mX7_turn (hM C o.1, some (.int o.2))) mX7_turn (27, [(0, .ref 239), (1, .int x1), (2, .int x2), (3, .int x3)], [], (hM C h), 0, 0)) (x1 : Int32) (x2 : Int32) (x3 : Int32) (x4 : Int32) (x5 : Int32) (x6 : Int32) (y0 : Int32) (y1 : Int32) (h : mS) {o : (mS × Int32)} (hq : mxX7_turn_93 N rec27 x1 x2 x3 x4 x5 x6 y0 y1 h = some o) : mB (gO mX7_turn (hM C o.1, some (.int o.2))) mX7_turn (93, [(0, .ref 239), (1, .int x1), (2, .int x2), (3, .int x3), (4, .int x4), (5, .int x5), (6, .int x6)], [.int y0, .int y1, .ref 246], (hM C h), 0, 0) := by
  unfold mxX7_turn_93 at hq
  obtain ⟨s21, e22, hq⟩ := bsm hq
  refine r_wI odX7_turn rfl (wa_6 hC e22) ?_
  refine mB_run odX7_turn 1 (g := (95, [(0, .ref 239), (1, .int x1), (2, .int x2), (3, .int x3), (4, .int x4), (5, .int x5), (6, .int x6)], [.ref 239], (hM C s21), 0, 0)) rfl ?_
  refine r_gR odX7_turn rfl rfl (md_7 hC) ?_
  refine mB_run odX7_turn 2 (g := (100, [(0, .ref 239), (1, .int x1), (2, .int x2), (3, .int x3), (4, .int x4), (5, .int x5), (6, .int x6)], [.int x2, .int x3, .ref 247], (hM C s21), 0, 0)) rfl ?_
  by_cases c23 : x2 = 0
  · rw [if_pos c23] at hq
    refine if_ne_F (t := 109) odX7_turn rfl rfl c23 ?_
    refine mB_run odX7_turn 3 (g := (121, [(0, .ref 239), (1, .int x1), (2, .int x2), (3, .int x3), (4, .int x4), (5, .int x5), (6, .int x6)], [.int (-x6), .int x3, .ref 247], (hM C s21), 0, 0)) rfl ?_
    refine mB_lv [0, 1, 2, 3, 4, 5, 6] (lv' := [(0, .ref 239), (1, .int x1), (2, .int x2), (3, .int x3), (4, .int x4), (5, .int x5), (6, .int x6)]) rfl ?_
    exact emX7_turn_121 hC hrec27 _ _ _ _ _ _ _ _ _ hq
  · rw [if_neg c23] at hq
    refine if_ne_T (t := 109) odX7_turn rfl rfl c23 ?_
    refine mB_run odX7_turn 2 (g := (111, [(0, .ref 239), (1, .int x1), (2, .int x2), (3, .int x3), (4, .int x4), (5, .int x5), (6, .int x6)], [.int (1 : Int32), .int x2, .int x3, .ref 247], (hM C s21), 0, 0)) rfl ?_
    by_cases c24 : x2 = (1 : Int32)
    · rw [if_pos c24] at hq
      refine ic_ne_F (t := 119) odX7_turn rfl rfl c24 ?_
      refine mB_run odX7_turn 2 (g := (121, [(0, .ref 239), (1, .int x1), (2, .int x2), (3, .int x3), (4, .int x4), (5, .int x5), (6, .int x6)], [.int x5, .int x3, .ref 247], (hM C s21), 0, 0)) rfl ?_
      refine mB_lv [0, 1, 2, 3, 4, 5, 6] (lv' := [(0, .ref 239), (1, .int x1), (2, .int x2), (3, .int x3), (4, .int x4), (5, .int x5), (6, .int x6)]) rfl ?_
      exact emX7_turn_121 hC hrec27 _ _ _ _ _ _ _ _ _ hq
    · rw [if_neg c24] at hq
      refine ic_ne_T (t := 119) odX7_turn rfl rfl c24 ?_
      refine mB_run odX7_turn 1 (g := (121, [(0, .ref 239), (1, .int x1), (2, .int x2), (3, .int x3), (4, .int x4), (5, .int x5), (6, .int x6)], [.int x4, .int x3, .ref 247], (hM C s21), 0, 0)) rfl ?_
      refine mB_lv [0, 1, 2, 3, 4, 5, 6] (lv' := [(0, .ref 239), (1, .int x1), (2, .int x2), (3, .int x3), (4, .int x4), (5, .int x5), (6, .int x6)]) rfl ?_
      exact emX7_turn_121 hC hrec27 _ _ _ _ _ _ _ _ _ hq
def mxX7_turn_27 (N : Nat) : Nat → Int32 → Int32 → Int32 → mS → Option (mS × Int32)
  | 0, _, _, _, _ => none
  | n + 1, x1, x2, x3, h =>
    (rA h 4 x1).bind fun v8 =>
    if (((24 : Int32) * x1) + v8) ≤ x3 then (
      (mxX7_orders N x1 h).bind fun o11 =>
      some (o11, (1 : Int32))) else (
      (rA h 6 x3).bind fun v13 =>
      (rA h 7 x3).bind fun v15 =>
      (rA h 8 x3).bind fun v17 =>
      if x2 = 0 then (
        mxX7_turn_93 N (mxX7_turn_27 N n) x1 x2 x3 v13 v15 v17 v13 x3 h) else (
        if x2 = (1 : Int32) then (
          mxX7_turn_93 N (mxX7_turn_27 N n) x1 x2 x3 v13 v15 v17 v17 x3 h) else (
          mxX7_turn_93 N (mxX7_turn_27 N n) x1 x2 x3 v13 v15 v17 (-v15) x3 h)))
set_option maxHeartbeats 4000000 in
set_option maxRecDepth 100000 in
theorem emX7_turn_27 {N : Nat} {C : mh} (hC : C.length = 239) : ∀ (n : Nat) (x1 : Int32) (x2 : Int32) (x3 : Int32) (h : mS) {o : (mS × Int32)}, mxX7_turn_27 N n x1 x2 x3 h = some o → mB (gO mX7_turn (hM C o.1, some (.int o.2))) mX7_turn (27, [(0, .ref 239), (1, .int x1), (2, .int x2), (3, .int x3)], [], (hM C h), 0, 0) := by
  intro n
  induction n with
  | zero => intro x1 x2 x3 h o hq; cases hq
  | succ n ih =>
    intro x1 x2 x3 h o hq
    unfold mxX7_turn_27 at hq
    refine mB_run odX7_turn 5 (g := (33, [(0, .ref 239), (1, .int x1), (2, .int x2), (3, .int x3)], [.ref 239, .int ((24 : Int32) * x1), .int x3], (hM C h), 0, 0)) rfl ?_
    refine r_gR odX7_turn rfl rfl (md_4 hC) ?_
    refine mB_run odX7_turn 1 (g := (37, [(0, .ref 239), (1, .int x1), (2, .int x2), (3, .int x3)], [.int x1, .ref 244, .int ((24 : Int32) * x1), .int x3], (hM C h), 0, 0)) rfl ?_
    obtain ⟨v8, e9, hq⟩ := bsm hq
    refine r_aI odX7_turn rfl (ra_4 hC e9) ?_
    refine mB_run odX7_turn 1 (g := (39, [(0, .ref 239), (1, .int x1), (2, .int x2), (3, .int x3)], [.int (((24 : Int32) * x1) + v8), .int x3], (hM C h), 0, 0)) rfl ?_
    by_cases c10 : (((24 : Int32) * x1) + v8) ≤ x3
    · rw [if_pos c10] at hq
      refine ic_ge_T (t := 156) odX7_turn rfl rfl c10 ?_
      refine mB_run odX7_turn 2 (g := (158, [(0, .ref 239), (1, .int x1), (2, .int x2), (3, .int x3)], [.int x1, .ref 239], (hM C h), 0, 0)) rfl ?_
      obtain ⟨o11, e12, hq⟩ := bsm hq
      refine mB_V (as := [.int x1]) odX7_turn okX7_orders lk_7_389 rfl (emX7_orders hC e12) (kO_at (md_O hC)) rfl rfl rfl ?_
      show mB _ mX7_turn (161, [(0, .ref 239), (1, .int x1), (2, .int x2), (3, .int x3)], [], (hM C o11), 0, 0)
      refine mB_run odX7_turn 1 (g := (162, [(0, .ref 239), (1, .int x1), (2, .int x2), (3, .int x3)], [.int (1 : Int32)], (hM C o11), 0, 0)) rfl ?_
      cases hq
      exact mB_ret odX7_turn rfl
    · rw [if_neg c10] at hq
      refine ic_ge_F (t := 156) odX7_turn rfl rfl c10 ?_
      refine mB_run odX7_turn 1 (g := (43, [(0, .ref 239), (1, .int x1), (2, .int x2), (3, .int x3)], [.ref 239], (hM C h), 0, 0)) rfl ?_
      refine r_gR odX7_turn rfl rfl (md_6 hC) ?_
      refine mB_run odX7_turn 1 (g := (47, [(0, .ref 239), (1, .int x1), (2, .int x2), (3, .int x3)], [.int x3, .ref 246], (hM C h), 0, 0)) rfl ?_
      obtain ⟨v13, e14, hq⟩ := bsm hq
      refine r_aI odX7_turn rfl (ra_6 hC e14) ?_
      refine mB_run odX7_turn 2 (g := (51, [(4, .int v13), (0, .ref 239), (1, .int x1), (2, .int x2), (3, .int x3)], [.ref 239], (hM C h), 0, 0)) rfl ?_
      refine r_gR odX7_turn rfl rfl (md_7 hC) ?_
      refine mB_run odX7_turn 1 (g := (55, [(4, .int v13), (0, .ref 239), (1, .int x1), (2, .int x2), (3, .int x3)], [.int x3, .ref 247], (hM C h), 0, 0)) rfl ?_
      obtain ⟨v15, e16, hq⟩ := bsm hq
      refine r_aI odX7_turn rfl (ra_7 hC e16) ?_
      refine mB_run odX7_turn 2 (g := (59, [(5, .int v15), (4, .int v13), (0, .ref 239), (1, .int x1), (2, .int x2), (3, .int x3)], [.ref 239], (hM C h), 0, 0)) rfl ?_
      refine r_gR odX7_turn rfl rfl (md_8 hC) ?_
      refine mB_run odX7_turn 1 (g := (63, [(5, .int v15), (4, .int v13), (0, .ref 239), (1, .int x1), (2, .int x2), (3, .int x3)], [.int x3, .ref 248], (hM C h), 0, 0)) rfl ?_
      obtain ⟨v17, e18, hq⟩ := bsm hq
      refine r_aI odX7_turn rfl (ra_8 hC e18) ?_
      refine mB_run odX7_turn 2 (g := (67, [(6, .int v17), (5, .int v15), (4, .int v13), (0, .ref 239), (1, .int x1), (2, .int x2), (3, .int x3)], [.ref 239], (hM C h), 0, 0)) rfl ?_
      refine r_gR odX7_turn rfl rfl (md_6 hC) ?_
      refine mB_run odX7_turn 2 (g := (72, [(6, .int v17), (5, .int v15), (4, .int v13), (0, .ref 239), (1, .int x1), (2, .int x2), (3, .int x3)], [.int x2, .int x3, .ref 246], (hM C h), 0, 0)) rfl ?_
      by_cases c19 : x2 = 0
      · rw [if_pos c19] at hq
        refine if_ne_F (t := 80) odX7_turn rfl rfl c19 ?_
        refine mB_run odX7_turn 2 (g := (93, [(6, .int v17), (5, .int v15), (4, .int v13), (0, .ref 239), (1, .int x1), (2, .int x2), (3, .int x3)], [.int v13, .int x3, .ref 246], (hM C h), 0, 0)) rfl ?_
        refine mB_lv [3, 4, 5, 6, 2, 1, 0] (lv' := [(0, .ref 239), (1, .int x1), (2, .int x2), (3, .int x3), (4, .int v13), (5, .int v15), (6, .int v17)]) rfl ?_
        exact emX7_turn_93 hC ih _ _ _ _ _ _ _ _ _ hq
      · rw [if_neg c19] at hq
        refine if_ne_T (t := 80) odX7_turn rfl rfl c19 ?_
        refine mB_run odX7_turn 2 (g := (82, [(6, .int v17), (5, .int v15), (4, .int v13), (0, .ref 239), (1, .int x1), (2, .int x2), (3, .int x3)], [.int (1 : Int32), .int x2, .int x3, .ref 246], (hM C h), 0, 0)) rfl ?_
        by_cases c20 : x2 = (1 : Int32)
        · rw [if_pos c20] at hq
          refine ic_ne_F (t := 90) odX7_turn rfl rfl c20 ?_
          refine mB_run odX7_turn 2 (g := (93, [(6, .int v17), (5, .int v15), (4, .int v13), (0, .ref 239), (1, .int x1), (2, .int x2), (3, .int x3)], [.int v17, .int x3, .ref 246], (hM C h), 0, 0)) rfl ?_
          refine mB_lv [3, 4, 5, 6, 2, 1, 0] (lv' := [(0, .ref 239), (1, .int x1), (2, .int x2), (3, .int x3), (4, .int v13), (5, .int v15), (6, .int v17)]) rfl ?_
          exact emX7_turn_93 hC ih _ _ _ _ _ _ _ _ _ hq
        · rw [if_neg c20] at hq
          refine ic_ne_T (t := 90) odX7_turn rfl rfl c20 ?_
          refine mB_run odX7_turn 2 (g := (93, [(6, .int v17), (5, .int v15), (4, .int v13), (0, .ref 239), (1, .int x1), (2, .int x2), (3, .int x3)], [.int (-v15), .int x3, .ref 246], (hM C h), 0, 0)) rfl ?_
          refine mB_lv [3, 4, 5, 6, 2, 1, 0] (lv' := [(0, .ref 239), (1, .int x1), (2, .int x2), (3, .int x3), (4, .int v13), (5, .int v15), (6, .int v17)]) rfl ?_
          exact emX7_turn_93 hC ih _ _ _ _ _ _ _ _ _ hq
def mxX7_turn (N : Nat) (p1 : Int32) (p2 : Int32) (h : mS) : Option (mS × Int32) :=
  (mxX7_isSolid N p1 h).bind fun o1 =>
  if o1.2 = 0 then (
    some (o1.1, (0 : Int32))) else (
    if p2 < 0 then (
      some (o1.1, (0 : Int32))) else (
      if p2 ≤ (2 : Int32) then (
        (mxX7_keeps N  o1.1).bind fun o6 =>
        mxX7_turn_27 N N p1 p2 ((24 : Int32) * p1) o6) else (
        some (o1.1, (0 : Int32)))))
set_option maxHeartbeats 4000000 in
set_option maxRecDepth 100000 in
theorem emX7_turn {N : Nat} {C : mh} (hC : C.length = 239) {p1 : Int32} {p2 : Int32} {h : mS} {o : (mS × Int32)} (hq : mxX7_turn N p1 p2 h = some o) : mC mX7_turn [.ref 239, .int p1, .int p2] (hM C h) (hM C o.1, some (.int o.2)) := by
  refine mC_of okX7_turn (Nat.le_of_ble_eq_true rfl) ?_
  unfold mxX7_turn at hq
  show mB _ mX7_turn (0, [(0, .ref 239), (1, .int p1), (2, .int p2)], [], (hM C h), 0, 0)
  refine mB_run odX7_turn 1 (g := (1, [(0, .ref 239), (1, .int p1), (2, .int p2)], [.int p1], (hM C h), 0, 0)) rfl ?_
  obtain ⟨o1, e2, hq⟩ := bsm hq
  refine mB_S (as := [.int p1]) odX7_turn okX7_isSolid lk_7_133 rfl (emX7_isSolid hC e2) rfl rfl rfl ?_
  show mB _ mX7_turn (4, [(0, .ref 239), (1, .int p1), (2, .int p2)], [.int o1.2], (hM C o1.1), 0, 0)
  by_cases c3 : o1.2 = 0
  · rw [if_pos c3] at hq
    refine if_eq_T (t := 16) odX7_turn rfl rfl c3 ?_
    refine mB_run odX7_turn 1 (g := (17, [(0, .ref 239), (1, .int p1), (2, .int p2)], [.int (0 : Int32)], (hM C o1.1), 0, 0)) rfl ?_
    cases hq
    exact mB_ret odX7_turn rfl
  · rw [if_neg c3] at hq
    refine if_eq_F (t := 16) odX7_turn rfl rfl c3 ?_
    refine mB_run odX7_turn 1 (g := (8, [(0, .ref 239), (1, .int p1), (2, .int p2)], [.int p2], (hM C o1.1), 0, 0)) rfl ?_
    by_cases c4 : p2 < 0
    · rw [if_pos c4] at hq
      refine if_lt_T (t := 16) odX7_turn rfl rfl c4 ?_
      refine mB_run odX7_turn 1 (g := (17, [(0, .ref 239), (1, .int p1), (2, .int p2)], [.int (0 : Int32)], (hM C o1.1), 0, 0)) rfl ?_
      cases hq
      exact mB_ret odX7_turn rfl
    · rw [if_neg c4] at hq
      refine if_lt_F (t := 16) odX7_turn rfl rfl c4 ?_
      refine mB_run odX7_turn 2 (g := (13, [(0, .ref 239), (1, .int p1), (2, .int p2)], [.int (2 : Int32), .int p2], (hM C o1.1), 0, 0)) rfl ?_
      by_cases c5 : p2 ≤ (2 : Int32)
      · rw [if_pos c5] at hq
        refine ic_le_T (t := 18) odX7_turn rfl rfl c5 ?_
        refine mB_run odX7_turn 1 (g := (19, [(0, .ref 239), (1, .int p1), (2, .int p2)], [.ref 239], (hM C o1.1), 0, 0)) rfl ?_
        obtain ⟨o6, e7, hq⟩ := bsm hq
        refine mB_V (as := []) odX7_turn okX7_keeps lk_7_237 rfl (emX7_keeps hC e7) (kO_at (md_O hC)) rfl rfl rfl ?_
        show mB _ mX7_turn (22, [(0, .ref 239), (1, .int p1), (2, .int p2)], [], (hM C o6), 0, 0)
        refine mB_run odX7_turn 4 (g := (27, [(3, .int ((24 : Int32) * p1)), (0, .ref 239), (1, .int p1), (2, .int p2)], [], (hM C o6), 0, 0)) rfl ?_
        refine mB_lv [1, 2, 3, 0] (lv' := [(0, .ref 239), (1, .int p1), (2, .int p2), (3, .int ((24 : Int32) * p1))]) rfl ?_
        exact emX7_turn_27 hC N _ _ _ _ hq
      · rw [if_neg c5] at hq
        refine ic_le_F (t := 18) odX7_turn rfl rfl c5 ?_
        refine mB_run odX7_turn 1 (g := (17, [(0, .ref 239), (1, .int p1), (2, .int p2)], [.int (0 : Int32)], (hM C o1.1), 0, 0)) rfl ?_
        cases hq
        exact mB_ret odX7_turn rfl
def mxX7_copy_22 (N : Nat) : Nat → Int32 → Int32 → Int32 → mS → Option (mS × Int32)
  | 0, _, _, _, _ => none
  | n + 1, x1, x2, x3, h =>
    if (24 : Int32) ≤ x3 then (
      (rA h 4 x1).bind fun v10 =>
      (wA h 4 x2 v10).bind fun s12 =>
      (rA s12 5 x1).bind fun v14 =>
      (wA s12 5 x2 v14).bind fun s16 =>
      some (s16, (1 : Int32))) else (
      (rA h 6 (((24 : Int32) * x1) + x3)).bind fun v18 =>
      (wA h 6 (((24 : Int32) * x2) + x3) v18).bind fun s20 =>
      (rA s20 7 (((24 : Int32) * x1) + x3)).bind fun v22 =>
      (wA s20 7 (((24 : Int32) * x2) + x3) v22).bind fun s24 =>
      (rA s24 8 (((24 : Int32) * x1) + x3)).bind fun v26 =>
      (wA s24 8 (((24 : Int32) * x2) + x3) v26).bind fun s28 =>
      mxX7_copy_22 N n x1 x2 (x3 + (1 : Int32)) s28)
set_option maxHeartbeats 4000000 in
set_option maxRecDepth 100000 in
theorem emX7_copy_22 {N : Nat} {C : mh} (hC : C.length = 239) : ∀ (n : Nat) (x1 : Int32) (x2 : Int32) (x3 : Int32) (h : mS) {o : (mS × Int32)}, mxX7_copy_22 N n x1 x2 x3 h = some o → mB (gO mX7_copy (hM C o.1, some (.int o.2))) mX7_copy (22, [(0, .ref 239), (1, .int x1), (2, .int x2), (3, .int x3)], [], (hM C h), 0, 0) := by
  intro n
  induction n with
  | zero => intro x1 x2 x3 h o hq; cases hq
  | succ n ih =>
    intro x1 x2 x3 h o hq
    unfold mxX7_copy_22 at hq
    refine mB_run odX7_copy 2 (g := (25, [(0, .ref 239), (1, .int x1), (2, .int x2), (3, .int x3)], [.int (24 : Int32), .int x3], (hM C h), 0, 0)) rfl ?_
    by_cases c9 : (24 : Int32) ≤ x3
    · rw [if_pos c9] at hq
      refine ic_ge_T (t := 100) odX7_copy rfl rfl c9 ?_
      refine mB_run odX7_copy 1 (g := (101, [(0, .ref 239), (1, .int x1), (2, .int x2), (3, .int x3)], [.ref 239], (hM C h), 0, 0)) rfl ?_
      refine r_gR odX7_copy rfl rfl (md_4 hC) ?_
      refine mB_run odX7_copy 2 (g := (106, [(0, .ref 239), (1, .int x1), (2, .int x2), (3, .int x3)], [.ref 239, .int x2, .ref 244], (hM C h), 0, 0)) rfl ?_
      refine r_gR odX7_copy rfl rfl (md_4 hC) ?_
      refine mB_run odX7_copy 1 (g := (110, [(0, .ref 239), (1, .int x1), (2, .int x2), (3, .int x3)], [.int x1, .ref 244, .int x2, .ref 244], (hM C h), 0, 0)) rfl ?_
      obtain ⟨v10, e11, hq⟩ := bsm hq
      refine r_aI odX7_copy rfl (ra_4 hC e11) ?_
      obtain ⟨s12, e13, hq⟩ := bsm hq
      refine r_wI odX7_copy rfl (wa_4 hC e13) ?_
      refine mB_run odX7_copy 1 (g := (113, [(0, .ref 239), (1, .int x1), (2, .int x2), (3, .int x3)], [.ref 239], (hM C s12), 0, 0)) rfl ?_
      refine r_gR odX7_copy rfl rfl (md_5 hC) ?_
      refine mB_run odX7_copy 2 (g := (118, [(0, .ref 239), (1, .int x1), (2, .int x2), (3, .int x3)], [.ref 239, .int x2, .ref 245], (hM C s12), 0, 0)) rfl ?_
      refine r_gR odX7_copy rfl rfl (md_5 hC) ?_
      refine mB_run odX7_copy 1 (g := (122, [(0, .ref 239), (1, .int x1), (2, .int x2), (3, .int x3)], [.int x1, .ref 245, .int x2, .ref 245], (hM C s12), 0, 0)) rfl ?_
      obtain ⟨v14, e15, hq⟩ := bsm hq
      refine r_aI odX7_copy rfl (ra_5 hC e15) ?_
      obtain ⟨s16, e17, hq⟩ := bsm hq
      refine r_wI odX7_copy rfl (wa_5 hC e17) ?_
      refine mB_run odX7_copy 1 (g := (125, [(0, .ref 239), (1, .int x1), (2, .int x2), (3, .int x3)], [.int (1 : Int32)], (hM C s16), 0, 0)) rfl ?_
      cases hq
      exact mB_ret odX7_copy rfl
    · rw [if_neg c9] at hq
      refine ic_ge_F (t := 100) odX7_copy rfl rfl c9 ?_
      refine mB_run odX7_copy 1 (g := (29, [(0, .ref 239), (1, .int x1), (2, .int x2), (3, .int x3)], [.ref 239], (hM C h), 0, 0)) rfl ?_
      refine r_gR odX7_copy rfl rfl (md_6 hC) ?_
      refine mB_run odX7_copy 6 (g := (39, [(0, .ref 239), (1, .int x1), (2, .int x2), (3, .int x3)], [.ref 239, .int (((24 : Int32) * x2) + x3), .ref 246], (hM C h), 0, 0)) rfl ?_
      refine r_gR odX7_copy rfl rfl (md_6 hC) ?_
      refine mB_run odX7_copy 5 (g := (48, [(0, .ref 239), (1, .int x1), (2, .int x2), (3, .int x3)], [.int (((24 : Int32) * x1) + x3), .ref 246, .int (((24 : Int32) * x2) + x3), .ref 246], (hM C h), 0, 0)) rfl ?_
      obtain ⟨v18, e19, hq⟩ := bsm hq
      refine r_aI odX7_copy rfl (ra_6 hC e19) ?_
      obtain ⟨s20, e21, hq⟩ := bsm hq
      refine r_wI odX7_copy rfl (wa_6 hC e21) ?_
      refine mB_run odX7_copy 1 (g := (51, [(0, .ref 239), (1, .int x1), (2, .int x2), (3, .int x3)], [.ref 239], (hM C s20), 0, 0)) rfl ?_
      refine r_gR odX7_copy rfl rfl (md_7 hC) ?_
      refine mB_run odX7_copy 6 (g := (61, [(0, .ref 239), (1, .int x1), (2, .int x2), (3, .int x3)], [.ref 239, .int (((24 : Int32) * x2) + x3), .ref 247], (hM C s20), 0, 0)) rfl ?_
      refine r_gR odX7_copy rfl rfl (md_7 hC) ?_
      refine mB_run odX7_copy 5 (g := (70, [(0, .ref 239), (1, .int x1), (2, .int x2), (3, .int x3)], [.int (((24 : Int32) * x1) + x3), .ref 247, .int (((24 : Int32) * x2) + x3), .ref 247], (hM C s20), 0, 0)) rfl ?_
      obtain ⟨v22, e23, hq⟩ := bsm hq
      refine r_aI odX7_copy rfl (ra_7 hC e23) ?_
      obtain ⟨s24, e25, hq⟩ := bsm hq
      refine r_wI odX7_copy rfl (wa_7 hC e25) ?_
      refine mB_run odX7_copy 1 (g := (73, [(0, .ref 239), (1, .int x1), (2, .int x2), (3, .int x3)], [.ref 239], (hM C s24), 0, 0)) rfl ?_
      refine r_gR odX7_copy rfl rfl (md_8 hC) ?_
      refine mB_run odX7_copy 6 (g := (83, [(0, .ref 239), (1, .int x1), (2, .int x2), (3, .int x3)], [.ref 239, .int (((24 : Int32) * x2) + x3), .ref 248], (hM C s24), 0, 0)) rfl ?_
      refine r_gR odX7_copy rfl rfl (md_8 hC) ?_
      refine mB_run odX7_copy 5 (g := (92, [(0, .ref 239), (1, .int x1), (2, .int x2), (3, .int x3)], [.int (((24 : Int32) * x1) + x3), .ref 248, .int (((24 : Int32) * x2) + x3), .ref 248], (hM C s24), 0, 0)) rfl ?_
      obtain ⟨v26, e27, hq⟩ := bsm hq
      refine r_aI odX7_copy rfl (ra_8 hC e27) ?_
      obtain ⟨s28, e29, hq⟩ := bsm hq
      refine r_wI odX7_copy rfl (wa_8 hC e29) ?_
      refine mB_run odX7_copy 2 (g := (22, [(3, .int (x3 + (1 : Int32))), (0, .ref 239), (1, .int x1), (2, .int x2)], [], (hM C s28), 0, 0)) rfl ?_
      refine mB_lv [1, 2, 3, 0] (lv' := [(0, .ref 239), (1, .int x1), (2, .int x2), (3, .int (x3 + (1 : Int32)))]) rfl ?_
      exact ih _ _ _ _ hq
def mxX7_copy (N : Nat) (p1 : Int32) (p2 : Int32) (h : mS) : Option (mS × Int32) :=
  (mxX7_isSolid N p1 h).bind fun o1 =>
  if o1.2 = 0 then (
    some (o1.1, (0 : Int32))) else (
    (mxX7_isSolid N p2 o1.1).bind fun o4 =>
    if o4.2 = 0 then (
      some (o4.1, (0 : Int32))) else (
      (mxX7_keeps N  o4.1).bind fun o7 =>
      mxX7_copy_22 N N p1 p2 (0 : Int32) o7))
set_option maxHeartbeats 4000000 in
set_option maxRecDepth 100000 in
theorem emX7_copy {N : Nat} {C : mh} (hC : C.length = 239) {p1 : Int32} {p2 : Int32} {h : mS} {o : (mS × Int32)} (hq : mxX7_copy N p1 p2 h = some o) : mC mX7_copy [.ref 239, .int p1, .int p2] (hM C h) (hM C o.1, some (.int o.2)) := by
  refine mC_of okX7_copy (Nat.le_of_ble_eq_true rfl) ?_
  unfold mxX7_copy at hq
  show mB _ mX7_copy (0, [(0, .ref 239), (1, .int p1), (2, .int p2)], [], (hM C h), 0, 0)
  refine mB_run odX7_copy 1 (g := (1, [(0, .ref 239), (1, .int p1), (2, .int p2)], [.int p1], (hM C h), 0, 0)) rfl ?_
  obtain ⟨o1, e2, hq⟩ := bsm hq
  refine mB_S (as := [.int p1]) odX7_copy okX7_isSolid lk_7_133 rfl (emX7_isSolid hC e2) rfl rfl rfl ?_
  show mB _ mX7_copy (4, [(0, .ref 239), (1, .int p1), (2, .int p2)], [.int o1.2], (hM C o1.1), 0, 0)
  by_cases c3 : o1.2 = 0
  · rw [if_pos c3] at hq
    refine if_eq_T (t := 14) odX7_copy rfl rfl c3 ?_
    refine mB_run odX7_copy 1 (g := (15, [(0, .ref 239), (1, .int p1), (2, .int p2)], [.int (0 : Int32)], (hM C o1.1), 0, 0)) rfl ?_
    cases hq
    exact mB_ret odX7_copy rfl
  · rw [if_neg c3] at hq
    refine if_eq_F (t := 14) odX7_copy rfl rfl c3 ?_
    refine mB_run odX7_copy 1 (g := (8, [(0, .ref 239), (1, .int p1), (2, .int p2)], [.int p2], (hM C o1.1), 0, 0)) rfl ?_
    obtain ⟨o4, e5, hq⟩ := bsm hq
    refine mB_S (as := [.int p2]) odX7_copy okX7_isSolid lk_7_133 rfl (emX7_isSolid hC e5) rfl rfl rfl ?_
    show mB _ mX7_copy (11, [(0, .ref 239), (1, .int p1), (2, .int p2)], [.int o4.2], (hM C o4.1), 0, 0)
    by_cases c6 : o4.2 = 0
    · rw [if_pos c6] at hq
      refine if_ne_F (t := 16) odX7_copy rfl rfl c6 ?_
      refine mB_run odX7_copy 1 (g := (15, [(0, .ref 239), (1, .int p1), (2, .int p2)], [.int (0 : Int32)], (hM C o4.1), 0, 0)) rfl ?_
      cases hq
      exact mB_ret odX7_copy rfl
    · rw [if_neg c6] at hq
      refine if_ne_T (t := 16) odX7_copy rfl rfl c6 ?_
      refine mB_run odX7_copy 1 (g := (17, [(0, .ref 239), (1, .int p1), (2, .int p2)], [.ref 239], (hM C o4.1), 0, 0)) rfl ?_
      obtain ⟨o7, e8, hq⟩ := bsm hq
      refine mB_V (as := []) odX7_copy okX7_keeps lk_7_237 rfl (emX7_keeps hC e8) (kO_at (md_O hC)) rfl rfl rfl ?_
      show mB _ mX7_copy (20, [(0, .ref 239), (1, .int p1), (2, .int p2)], [], (hM C o7), 0, 0)
      refine mB_run odX7_copy 2 (g := (22, [(3, .int (0 : Int32)), (0, .ref 239), (1, .int p1), (2, .int p2)], [], (hM C o7), 0, 0)) rfl ?_
      refine mB_lv [1, 2, 3, 0] (lv' := [(0, .ref 239), (1, .int p1), (2, .int p2), (3, .int (0 : Int32))]) rfl ?_
      exact emX7_copy_22 hC N _ _ _ _ hq
