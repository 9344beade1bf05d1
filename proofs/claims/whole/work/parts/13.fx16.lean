def fxX7_turn_149 (N : Nat) (rec27 : Nat → Int32 → Int32 → Int32 → mh → Option (mh × Int32)) (x0 : Nat) (x1 : Int32) (x2 : Int32) (x3 : Int32) (s0 : Int32) (s1 : Int32) (s2 : Nat) (h : mh) : Option (mh × Int32) :=
  (wI h s2 s1 s0).bind fun h47 =>
  rec27 x0 x1 x2 (x3 + (1 : Int32)) h47
set_option maxHeartbeats 4000000 in
set_option maxRecDepth 100000 in
theorem exX7_turn_149 {N : Nat} {rec27 : Nat → Int32 → Int32 → Int32 → mh → Option (mh × Int32)} (hrec27 : ∀ (x0 : Nat) (x1 : Int32) (x2 : Int32) (x3 : Int32) (h : mh) {o : (mh × Int32)}, rec27 x0 x1 x2 x3 h = some o → mB (gO mX7_turn (o.1, some (.int o.2))) mX7_turn (27, [(0, .ref x0), (1, .int x1), (2, .int x2), (3, .int x3)], [], h, 0, 0)) (x0 : Nat) (x1 : Int32) (x2 : Int32) (x3 : Int32) (s0 : Int32) (s1 : Int32) (s2 : Nat) (h : mh) {o : (mh × Int32)} (hq : fxX7_turn_149 N rec27 x0 x1 x2 x3 s0 s1 s2 h = some o) : mB (gO mX7_turn (o.1, some (.int o.2))) mX7_turn (149, [(0, .ref x0), (1, .int x1), (2, .int x2), (3, .int x3)], [.int s0, .int s1, .ref s2], h, 0, 0) := by
  unfold fxX7_turn_149 at hq
  obtain ⟨h47, e48, hq⟩ := bsm hq
  refine r_wI odX7_turn rfl e48 ?_
  refine mB_run odX7_turn 2 (g := (27, [(3, .int (x3 + (1 : Int32))), (0, .ref x0), (1, .int x1), (2, .int x2)], [], h47, 0, 0)) rfl ?_
  refine mB_lv [1, 2, 3, 0] (lv' := [(0, .ref x0), (1, .int x1), (2, .int x2), (3, .int (x3 + (1 : Int32)))]) rfl ?_
  exact hrec27 _ _ _ _ _ hq
def fxX7_turn_121 (N : Nat) (rec27 : Nat → Int32 → Int32 → Int32 → mh → Option (mh × Int32)) (x0 : Nat) (x1 : Int32) (x2 : Int32) (x3 : Int32) (x4 : Int32) (x5 : Int32) (x6 : Int32) (s0 : Int32) (s1 : Int32) (s2 : Nat) (h : mh) : Option (mh × Int32) :=
  (wI h s2 s1 s0).bind fun h41 =>
  (gR h41 x0 7 8).bind fun v43 =>
  if x2 = 0 then (
    fxX7_turn_149 N rec27 x0 x1 x2 x3 x5 x3 v43 h41) else (
    if x2 = (1 : Int32) then (
      fxX7_turn_149 N rec27 x0 x1 x2 x3 (-x4) x3 v43 h41) else (
      fxX7_turn_149 N rec27 x0 x1 x2 x3 x6 x3 v43 h41))
set_option maxHeartbeats 4000000 in
set_option maxRecDepth 100000 in
theorem exX7_turn_121 {N : Nat} {rec27 : Nat → Int32 → Int32 → Int32 → mh → Option (mh × Int32)} (hrec27 : ∀ (x0 : Nat) (x1 : Int32) (x2 : Int32) (x3 : Int32) (h : mh) {o : (mh × Int32)}, rec27 x0 x1 x2 x3 h = some o → mB (gO mX7_turn (o.1, some (.int o.2))) mX7_turn (27, [(0, .ref x0), (1, .int x1), (2, .int x2), (3, .int x3)], [], h, 0, 0)) (x0 : Nat) (x1 : Int32) (x2 : Int32) (x3 : Int32) (x4 : Int32) (x5 : Int32) (x6 : Int32) (s0 : Int32) (s1 : Int32) (s2 : Nat) (h : mh) {o : (mh × Int32)} (hq : fxX7_turn_121 N rec27 x0 x1 x2 x3 x4 x5 x6 s0 s1 s2 h = some o) : mB (gO mX7_turn (o.1, some (.int o.2))) mX7_turn (121, [(0, .ref x0), (1, .int x1), (2, .int x2), (3, .int x3), (4, .int x4), (5, .int x5), (6, .int x6)], [.int s0, .int s1, .ref s2], h, 0, 0) := by
  unfold fxX7_turn_121 at hq
  obtain ⟨h41, e42, hq⟩ := bsm hq
  refine r_wI odX7_turn rfl e42 ?_
  refine mB_run odX7_turn 1 (g := (123, [(0, .ref x0), (1, .int x1), (2, .int x2), (3, .int x3), (4, .int x4), (5, .int x5), (6, .int x6)], [.ref x0], h41, 0, 0)) rfl ?_
  obtain ⟨v43, e44, hq⟩ := bsm hq
  refine r_gR odX7_turn rfl rfl e44 ?_
  refine mB_run odX7_turn 2 (g := (128, [(0, .ref x0), (1, .int x1), (2, .int x2), (3, .int x3), (4, .int x4), (5, .int x5), (6, .int x6)], [.int x2, .int x3, .ref v43], h41, 0, 0)) rfl ?_
  by_cases c45 : x2 = 0
  · rw [if_pos c45] at hq
    refine if_ne_F (t := 136) odX7_turn rfl rfl c45 ?_
    refine mB_run odX7_turn 2 (g := (149, [(0, .ref x0), (1, .int x1), (2, .int x2), (3, .int x3), (4, .int x4), (5, .int x5), (6, .int x6)], [.int x5, .int x3, .ref v43], h41, 0, 0)) rfl ?_
    refine mB_lv [0, 1, 2, 3] (lv' := [(0, .ref x0), (1, .int x1), (2, .int x2), (3, .int x3)]) rfl ?_
    exact exX7_turn_149 hrec27 _ _ _ _ _ _ _ _ hq
  · rw [if_neg c45] at hq
    refine if_ne_T (t := 136) odX7_turn rfl rfl c45 ?_
    refine mB_run odX7_turn 2 (g := (138, [(0, .ref x0), (1, .int x1), (2, .int x2), (3, .int x3), (4, .int x4), (5, .int x5), (6, .int x6)], [.int (1 : Int32), .int x2, .int x3, .ref v43], h41, 0, 0)) rfl ?_
    by_cases c46 : x2 = (1 : Int32)
    · rw [if_pos c46] at hq
      refine ic_ne_F (t := 147) odX7_turn rfl rfl c46 ?_
      refine mB_run odX7_turn 3 (g := (149, [(0, .ref x0), (1, .int x1), (2, .int x2), (3, .int x3), (4, .int x4), (5, .int x5), (6, .int x6)], [.int (-x4), .int x3, .ref v43], h41, 0, 0)) rfl ?_
      refine mB_lv [0, 1, 2, 3] (lv' := [(0, .ref x0), (1, .int x1), (2, .int x2), (3, .int x3)]) rfl ?_
      exact exX7_turn_149 hrec27 _ _ _ _ _ _ _ _ hq
    · rw [if_neg c46] at hq
      refine ic_ne_T (t := 147) odX7_turn rfl rfl c46 ?_
      refine mB_run odX7_turn 1 (g := (149, [(0, .ref x0), (1, .int x1), (2, .int x2), (3, .int x3), (4, .int x4), (5, .int x5), (6, .int x6)], [.int x6, .int x3, .ref v43], h41, 0, 0)) rfl ?_
      refine mB_lv [0, 1, 2, 3] (lv' := [(0, .ref x0), (1, .int x1), (2, .int x2), (3, .int x3)]) rfl ?_
      exact exX7_turn_149 hrec27 _ _ _ _ _ _ _ _ hq
def fxX7_turn_93 (N : Nat) (rec27 : Nat → Int32 → Int32 → Int32 → mh → Option (mh × Int32)) (x0 : Nat) (x1 : Int32) (x2 : Int32) (x3 : Int32) (x4 : Int32) (x5 : Int32) (x6 : Int32) (s0 : Int32) (s1 : Int32) (s2 : Nat) (h : mh) : Option (mh × Int32) :=
  (wI h s2 s1 s0).bind fun h35 =>
  (gR h35 x0 7 7).bind fun v37 =>
  if x2 = 0 then (
    fxX7_turn_121 N rec27 x0 x1 x2 x3 x4 x5 x6 (-x6) x3 v37 h35) else (
    if x2 = (1 : Int32) then (
      fxX7_turn_121 N rec27 x0 x1 x2 x3 x4 x5 x6 x5 x3 v37 h35) else (
      fxX7_turn_121 N rec27 x0 x1 x2 x3 x4 x5 x6 x4 x3 v37 h35))
set_option maxHeartbeats 4000000 in
set_option maxRecDepth 100000 in
theorem exX7_turn_93 {N : Nat} {rec27 : Nat → Int32 → Int32 → Int32 → mh → Option (mh × Int32)} (hrec27 : ∀ (x0 : Nat) (x1 : Int32) (x2 : Int32) (x3 : Int32) (h : mh) {o : (mh × Int32)}, rec27 x0 x1 x2 x3 h = some o → mB (gO mX7_turn (o.1, some (.int o.2))) mX7_turn (27, [(0, .ref x0), (1, .int x1), (2, .int x2), (3, .int x3)], [], h, 0, 0)) (x0 : Nat) (x1 : Int32) (x2 : Int32) (x3 : Int32) (x4 : Int32) (x5 : Int32) (x6 : Int32) (s0 : Int32) (s1 : Int32) (s2 : Nat) (h : mh) {o : (mh × Int32)} (hq : fxX7_turn_93 N rec27 x0 x1 x2 x3 x4 x5 x6 s0 s1 s2 h = some o) : mB (gO mX7_turn (o.1, some (.int o.2))) mX7_turn (93, [(0, .ref x0), (1, .int x1), (2, .int x2), (3, .int x3), (4, .int x4), (5, .int x5), (6, .int x6)], [.int s0, .int s1, .ref s2], h, 0, 0) := by
  unfold fxX7_turn_93 at hq
  obtain ⟨h35, e36, hq⟩ := bsm hq
  refine r_wI odX7_turn rfl e36 ?_
  refine mB_run odX7_turn 1 (g := (95, [(0, .ref x0), (1, .int x1), (2, .int x2), (3, .int x3), (4, .int x4), (5, .int x5), (6, .int x6)], [.ref x0], h35, 0, 0)) rfl ?_
  obtain ⟨v37, e38, hq⟩ := bsm hq
  refine r_gR odX7_turn rfl rfl e38 ?_
  refine mB_run odX7_turn 2 (g := (100, [(0, .ref x0), (1, .int x1), (2, .int x2), (3, .int x3), (4, .int x4), (5, .int x5), (6, .int x6)], [.int x2, .int x3, .ref v37], h35, 0, 0)) rfl ?_
  by_cases c39 : x2 = 0
  · rw [if_pos c39] at hq
    refine if_ne_F (t := 109) odX7_turn rfl rfl c39 ?_
    refine mB_run odX7_turn 3 (g := (121, [(0, .ref x0), (1, .int x1), (2, .int x2), (3, .int x3), (4, .int x4), (5, .int x5), (6, .int x6)], [.int (-x6), .int x3, .ref v37], h35, 0, 0)) rfl ?_
    refine mB_lv [0, 1, 2, 3, 4, 5, 6] (lv' := [(0, .ref x0), (1, .int x1), (2, .int x2), (3, .int x3), (4, .int x4), (5, .int x5), (6, .int x6)]) rfl ?_
    exact exX7_turn_121 hrec27 _ _ _ _ _ _ _ _ _ _ _ hq
  · rw [if_neg c39] at hq
    refine if_ne_T (t := 109) odX7_turn rfl rfl c39 ?_
    refine mB_run odX7_turn 2 (g := (111, [(0, .ref x0), (1, .int x1), (2, .int x2), (3, .int x3), (4, .int x4), (5, .int x5), (6, .int x6)], [.int (1 : Int32), .int x2, .int x3, .ref v37], h35, 0, 0)) rfl ?_
    by_cases c40 : x2 = (1 : Int32)
    · rw [if_pos c40] at hq
      refine ic_ne_F (t := 119) odX7_turn rfl rfl c40 ?_
      refine mB_run odX7_turn 2 (g := (121, [(0, .ref x0), (1, .int x1), (2, .int x2), (3, .int x3), (4, .int x4), (5, .int x5), (6, .int x6)], [.int x5, .int x3, .ref v37], h35, 0, 0)) rfl ?_
      refine mB_lv [0, 1, 2, 3, 4, 5, 6] (lv' := [(0, .ref x0), (1, .int x1), (2, .int x2), (3, .int x3), (4, .int x4), (5, .int x5), (6, .int x6)]) rfl ?_
      exact exX7_turn_121 hrec27 _ _ _ _ _ _ _ _ _ _ _ hq
    · rw [if_neg c40] at hq
      refine ic_ne_T (t := 119) odX7_turn rfl rfl c40 ?_
      refine mB_run odX7_turn 1 (g := (121, [(0, .ref x0), (1, .int x1), (2, .int x2), (3, .int x3), (4, .int x4), (5, .int x5), (6, .int x6)], [.int x4, .int x3, .ref v37], h35, 0, 0)) rfl ?_
      refine mB_lv [0, 1, 2, 3, 4, 5, 6] (lv' := [(0, .ref x0), (1, .int x1), (2, .int x2), (3, .int x3), (4, .int x4), (5, .int x5), (6, .int x6)]) rfl ?_
      exact exX7_turn_121 hrec27 _ _ _ _ _ _ _ _ _ _ _ hq
def fxX7_turn_27 (N : Nat) : Nat → Nat → Int32 → Int32 → Int32 → mh → Option (mh × Int32)
  | 0, _, _, _, _, _ => none
  | n + 1, x0, x1, x2, x3, h =>
    (gR h x0 7 4).bind fun v10 =>
    (aI h v10 x1).bind fun v12 =>
    if (((24 : Int32) * x1) + v12) ≤ x3 then (
      (kO h x0 7).bind fun f17 =>
      (fxX7_orders N x0 x1 h).bind fun o15 =>
      some (o15, (1 : Int32))) else (
      (gR h x0 7 6).bind fun v19 =>
      (aI h v19 x3).bind fun v21 =>
      (gR h x0 7 7).bind fun v23 =>
      (aI h v23 x3).bind fun v25 =>
      (gR h x0 7 8).bind fun v27 =>
      (aI h v27 x3).bind fun v29 =>
      (gR h x0 7 6).bind fun v31 =>
      if x2 = 0 then (
        fxX7_turn_93 N (fxX7_turn_27 N n) x0 x1 x2 x3 v21 v25 v29 v21 x3 v31 h) else (
        if x2 = (1 : Int32) then (
          fxX7_turn_93 N (fxX7_turn_27 N n) x0 x1 x2 x3 v21 v25 v29 v29 x3 v31 h) else (
          fxX7_turn_93 N (fxX7_turn_27 N n) x0 x1 x2 x3 v21 v25 v29 (-v25) x3 v31 h)))
set_option maxHeartbeats 4000000 in
set_option maxRecDepth 100000 in
theorem exX7_turn_27 {N : Nat} : ∀ (n : Nat) (x0 : Nat) (x1 : Int32) (x2 : Int32) (x3 : Int32) (h : mh) {o : (mh × Int32)}, fxX7_turn_27 N n x0 x1 x2 x3 h = some o → mB (gO mX7_turn (o.1, some (.int o.2))) mX7_turn (27, [(0, .ref x0), (1, .int x1), (2, .int x2), (3, .int x3)], [], h, 0, 0) := by
  intro n
  induction n with
  | zero => intro x0 x1 x2 x3 h o hq; cases hq
  | succ n ih =>
    intro x0 x1 x2 x3 h o hq
    unfold fxX7_turn_27 at hq
    refine mB_run odX7_turn 5 (g := (33, [(0, .ref x0), (1, .int x1), (2, .int x2), (3, .int x3)], [.ref x0, .int ((24 : Int32) * x1), .int x3], h, 0, 0)) rfl ?_
    obtain ⟨v10, e11, hq⟩ := bsm hq
    refine r_gR odX7_turn rfl rfl e11 ?_
    refine mB_run odX7_turn 1 (g := (37, [(0, .ref x0), (1, .int x1), (2, .int x2), (3, .int x3)], [.int x1, .ref v10, .int ((24 : Int32) * x1), .int x3], h, 0, 0)) rfl ?_
    obtain ⟨v12, e13, hq⟩ := bsm hq
    refine r_aI odX7_turn rfl e13 ?_
    refine mB_run odX7_turn 1 (g := (39, [(0, .ref x0), (1, .int x1), (2, .int x2), (3, .int x3)], [.int (((24 : Int32) * x1) + v12), .int x3], h, 0, 0)) rfl ?_
    by_cases c14 : (((24 : Int32) * x1) + v12) ≤ x3
    · rw [if_pos c14] at hq
      refine ic_ge_T (t := 156) odX7_turn rfl rfl c14 ?_
      refine mB_run odX7_turn 2 (g := (158, [(0, .ref x0), (1, .int x1), (2, .int x2), (3, .int x3)], [.int x1, .ref x0], h, 0, 0)) rfl ?_
      obtain ⟨f17, k18, hq⟩ := bsm hq
      obtain ⟨o15, e16, hq⟩ := bsm hq
      refine mB_V (as := [.int x1]) odX7_turn okX7_orders lk_7_389 rfl (exX7_orders e16) (kO_at k18) rfl rfl rfl ?_
      show mB _ mX7_turn (161, [(0, .ref x0), (1, .int x1), (2, .int x2), (3, .int x3)], [], o15, 0, 0)
      refine mB_run odX7_turn 1 (g := (162, [(0, .ref x0), (1, .int x1), (2, .int x2), (3, .int x3)], [.int (1 : Int32)], o15, 0, 0)) rfl ?_
      cases hq
      exact mB_ret odX7_turn rfl
    · rw [if_neg c14] at hq
      refine ic_ge_F (t := 156) odX7_turn rfl rfl c14 ?_
      refine mB_run odX7_turn 1 (g := (43, [(0, .ref x0), (1, .int x1), (2, .int x2), (3, .int x3)], [.ref x0], h, 0, 0)) rfl ?_
      obtain ⟨v19, e20, hq⟩ := bsm hq
      refine r_gR odX7_turn rfl rfl e20 ?_
      refine mB_run odX7_turn 1 (g := (47, [(0, .ref x0), (1, .int x1), (2, .int x2), (3, .int x3)], [.int x3, .ref v19], h, 0, 0)) rfl ?_
      obtain ⟨v21, e22, hq⟩ := bsm hq
      refine r_aI odX7_turn rfl e22 ?_
      refine mB_run odX7_turn 2 (g := (51, [(4, .int v21), (0, .ref x0), (1, .int x1), (2, .int x2), (3, .int x3)], [.ref x0], h, 0, 0)) rfl ?_
      obtain ⟨v23, e24, hq⟩ := bsm hq
      refine r_gR odX7_turn rfl rfl e24 ?_
      refine mB_run odX7_turn 1 (g := (55, [(4, .int v21), (0, .ref x0), (1, .int x1), (2, .int x2), (3, .int x3)], [.int x3, .ref v23], h, 0, 0)) rfl ?_
      obtain ⟨v25, e26, hq⟩ := bsm hq
      refine r_aI odX7_turn rfl e26 ?_
      refine mB_run odX7_turn 2 (g := (59, [(5, .int v25), (4, .int v21), (0, .ref x0), (1, .int x1), (2, .int x2), (3, .int x3)], [.ref x0], h, 0, 0)) rfl ?_
      obtain ⟨v27, e28, hq⟩ := bsm hq
      refine r_gR odX7_turn rfl rfl e28 ?_
      refine mB_run odX7_turn 1 (g := (63, [(5, .int v25), (4, .int v21), (0, .ref x0), (1, .int x1), (2, .int x2), (3, .int x3)], [.int x3, .ref v27], h, 0, 0)) rfl ?_
      obtain ⟨v29, e30, hq⟩ := bsm hq
      refine r_aI odX7_turn rfl e30 ?_
      refine mB_run odX7_turn 2 (g := (67, [(6, .int v29), (5, .int v25), (4, .int v21), (0, .ref x0), (1, .int x1), (2, .int x2), (3, .int x3)], [.ref x0], h, 0, 0)) rfl ?_
      obtain ⟨v31, e32, hq⟩ := bsm hq
      refine r_gR odX7_turn rfl rfl e32 ?_
      refine mB_run odX7_turn 2 (g := (72, [(6, .int v29), (5, .int v25), (4, .int v21), (0, .ref x0), (1, .int x1), (2, .int x2), (3, .int x3)], [.int x2, .int x3, .ref v31], h, 0, 0)) rfl ?_
      by_cases c33 : x2 = 0
      · rw [if_pos c33] at hq
        refine if_ne_F (t := 80) odX7_turn rfl rfl c33 ?_
        refine mB_run odX7_turn 2 (g := (93, [(6, .int v29), (5, .int v25), (4, .int v21), (0, .ref x0), (1, .int x1), (2, .int x2), (3, .int x3)], [.int v21, .int x3, .ref v31], h, 0, 0)) rfl ?_
        refine mB_lv [3, 4, 5, 6, 2, 1, 0] (lv' := [(0, .ref x0), (1, .int x1), (2, .int x2), (3, .int x3), (4, .int v21), (5, .int v25), (6, .int v29)]) rfl ?_
        exact exX7_turn_93 ih _ _ _ _ _ _ _ _ _ _ _ hq
      · rw [if_neg c33] at hq
        refine if_ne_T (t := 80) odX7_turn rfl rfl c33 ?_
        refine mB_run odX7_turn 2 (g := (82, [(6, .int v29), (5, .int v25), (4, .int v21), (0, .ref x0), (1, .int x1), (2, .int x2), (3, .int x3)], [.int (1 : Int32), .int x2, .int x3, .ref v31], h, 0, 0)) rfl ?_
        by_cases c34 : x2 = (1 : Int32)
        · rw [if_pos c34] at hq
          refine ic_ne_F (t := 90) odX7_turn rfl rfl c34 ?_
          refine mB_run odX7_turn 2 (g := (93, [(6, .int v29), (5, .int v25), (4, .int v21), (0, .ref x0), (1, .int x1), (2, .int x2), (3, .int x3)], [.int v29, .int x3, .ref v31], h, 0, 0)) rfl ?_
          refine mB_lv [3, 4, 5, 6, 2, 1, 0] (lv' := [(0, .ref x0), (1, .int x1), (2, .int x2), (3, .int x3), (4, .int v21), (5, .int v25), (6, .int v29)]) rfl ?_
          exact exX7_turn_93 ih _ _ _ _ _ _ _ _ _ _ _ hq
        · rw [if_neg c34] at hq
          refine ic_ne_T (t := 90) odX7_turn rfl rfl c34 ?_
          refine mB_run odX7_turn 2 (g := (93, [(6, .int v29), (5, .int v25), (4, .int v21), (0, .ref x0), (1, .int x1), (2, .int x2), (3, .int x3)], [.int (-v25), .int x3, .ref v31], h, 0, 0)) rfl ?_
          refine mB_lv [3, 4, 5, 6, 2, 1, 0] (lv' := [(0, .ref x0), (1, .int x1), (2, .int x2), (3, .int x3), (4, .int v21), (5, .int v25), (6, .int v29)]) rfl ?_
          exact exX7_turn_93 ih _ _ _ _ _ _ _ _ _ _ _ hq
def fxX7_turn (N : Nat) (p0 : Nat) (p1 : Int32) (p2 : Int32) (h : mh) : Option (mh × Int32) :=
  (fxX7_isSolid N p1 h).bind fun o1 =>
  if o1.2 = 0 then (
    some (o1.1, (0 : Int32))) else (
    if p2 < 0 then (
      some (o1.1, (0 : Int32))) else (
      if p2 ≤ (2 : Int32) then (
        (kO o1.1 p0 7).bind fun f8 =>
        (fxX7_keeps N p0 o1.1).bind fun o6 =>
        fxX7_turn_27 N N p0 p1 p2 ((24 : Int32) * p1) o6) else (
        some (o1.1, (0 : Int32)))))
set_option maxHeartbeats 4000000 in
set_option maxRecDepth 100000 in
theorem exX7_turn {N : Nat} {p0 : Nat} {p1 : Int32} {p2 : Int32} {h : mh} {o : (mh × Int32)} (hq : fxX7_turn N p0 p1 p2 h = some o) : mC mX7_turn [.ref p0, .int p1, .int p2] h (o.1, some (.int o.2)) := by
  refine mC_of okX7_turn (Nat.le_of_ble_eq_true rfl) ?_
  unfold fxX7_turn at hq
  show mB _ mX7_turn (0, [(0, .ref p0), (1, .int p1), (2, .int p2)], [], h, 0, 0)
  refine mB_run odX7_turn 1 (g := (1, [(0, .ref p0), (1, .int p1), (2, .int p2)], [.int p1], h, 0, 0)) rfl ?_
  obtain ⟨o1, e2, hq⟩ := bsm hq
  refine mB_S (as := [.int p1]) odX7_turn okX7_isSolid lk_7_133 rfl (exX7_isSolid e2) rfl rfl rfl ?_
  show mB _ mX7_turn (4, [(0, .ref p0), (1, .int p1), (2, .int p2)], [.int o1.2], o1.1, 0, 0)
  by_cases c3 : o1.2 = 0
  · rw [if_pos c3] at hq
    refine if_eq_T (t := 16) odX7_turn rfl rfl c3 ?_
    refine mB_run odX7_turn 1 (g := (17, [(0, .ref p0), (1, .int p1), (2, .int p2)], [.int (0 : Int32)], o1.1, 0, 0)) rfl ?_
    cases hq
    exact mB_ret odX7_turn rfl
  · rw [if_neg c3] at hq
    refine if_eq_F (t := 16) odX7_turn rfl rfl c3 ?_
    refine mB_run odX7_turn 1 (g := (8, [(0, .ref p0), (1, .int p1), (2, .int p2)], [.int p2], o1.1, 0, 0)) rfl ?_
    by_cases c4 : p2 < 0
    · rw [if_pos c4] at hq
      refine if_lt_T (t := 16) odX7_turn rfl rfl c4 ?_
      refine mB_run odX7_turn 1 (g := (17, [(0, .ref p0), (1, .int p1), (2, .int p2)], [.int (0 : Int32)], o1.1, 0, 0)) rfl ?_
      cases hq
      exact mB_ret odX7_turn rfl
    · rw [if_neg c4] at hq
      refine if_lt_F (t := 16) odX7_turn rfl rfl c4 ?_
      refine mB_run odX7_turn 2 (g := (13, [(0, .ref p0), (1, .int p1), (2, .int p2)], [.int (2 : Int32), .int p2], o1.1, 0, 0)) rfl ?_
      by_cases c5 : p2 ≤ (2 : Int32)
      · rw [if_pos c5] at hq
        refine ic_le_T (t := 18) odX7_turn rfl rfl c5 ?_
        refine mB_run odX7_turn 1 (g := (19, [(0, .ref p0), (1, .int p1), (2, .int p2)], [.ref p0], o1.1, 0, 0)) rfl ?_
        obtain ⟨f8, k9, hq⟩ := bsm hq
        obtain ⟨o6, e7, hq⟩ := bsm hq
        refine mB_V (as := []) odX7_turn okX7_keeps lk_7_237 rfl (exX7_keeps e7) (kO_at k9) rfl rfl rfl ?_
        show mB _ mX7_turn (22, [(0, .ref p0), (1, .int p1), (2, .int p2)], [], o6, 0, 0)
        refine mB_run odX7_turn 4 (g := (27, [(3, .int ((24 : Int32) * p1)), (0, .ref p0), (1, .int p1), (2, .int p2)], [], o6, 0, 0)) rfl ?_
        refine mB_lv [1, 2, 3, 0] (lv' := [(0, .ref p0), (1, .int p1), (2, .int p2), (3, .int ((24 : Int32) * p1))]) rfl ?_
        exact exX7_turn_27 N _ _ _ _ _ hq
      · rw [if_neg c5] at hq
        refine ic_le_F (t := 18) odX7_turn rfl rfl c5 ?_
        refine mB_run odX7_turn 1 (g := (17, [(0, .ref p0), (1, .int p1), (2, .int p2)], [.int (0 : Int32)], o1.1, 0, 0)) rfl ?_
        cases hq
        exact mB_ret odX7_turn rfl
def fxX7_copy_22 (N : Nat) : Nat → Nat → Int32 → Int32 → Int32 → mh → Option (mh × Int32)
  | 0, _, _, _, _, _ => none
  | n + 1, x0, x1, x2, x3, h =>
    if (24 : Int32) ≤ x3 then (
      (gR h x0 7 4).bind fun v12 =>
      (gR h x0 7 4).bind fun v14 =>
      (aI h v14 x1).bind fun v16 =>
      (wI h v12 x2 v16).bind fun h18 =>
      (gR h18 x0 7 5).bind fun v20 =>
      (gR h18 x0 7 5).bind fun v22 =>
      (aI h18 v22 x1).bind fun v24 =>
      (wI h18 v20 x2 v24).bind fun h26 =>
      some (h26, (1 : Int32))) else (
      (gR h x0 7 6).bind fun v28 =>
      (gR h x0 7 6).bind fun v30 =>
      (aI h v30 (((24 : Int32) * x1) + x3)).bind fun v32 =>
      (wI h v28 (((24 : Int32) * x2) + x3) v32).bind fun h34 =>
      (gR h34 x0 7 7).bind fun v36 =>
      (gR h34 x0 7 7).bind fun v38 =>
      (aI h34 v38 (((24 : Int32) * x1) + x3)).bind fun v40 =>
      (wI h34 v36 (((24 : Int32) * x2) + x3) v40).bind fun h42 =>
      (gR h42 x0 7 8).bind fun v44 =>
      (gR h42 x0 7 8).bind fun v46 =>
      (aI h42 v46 (((24 : Int32) * x1) + x3)).bind fun v48 =>
      (wI h42 v44 (((24 : Int32) * x2) + x3) v48).bind fun h50 =>
      fxX7_copy_22 N n x0 x1 x2 (x3 + (1 : Int32)) h50)
set_option maxHeartbeats 4000000 in
set_option maxRecDepth 100000 in
theorem exX7_copy_22 {N : Nat} : ∀ (n : Nat) (x0 : Nat) (x1 : Int32) (x2 : Int32) (x3 : Int32) (h : mh) {o : (mh × Int32)}, fxX7_copy_22 N n x0 x1 x2 x3 h = some o → mB (gO mX7_copy (o.1, some (.int o.2))) mX7_copy (22, [(0, .ref x0), (1, .int x1), (2, .int x2), (3, .int x3)], [], h, 0, 0) := by
  intro n
  induction n with
  | zero => intro x0 x1 x2 x3 h o hq; cases hq
  | succ n ih =>
    intro x0 x1 x2 x3 h o hq
    unfold fxX7_copy_22 at hq
    refine mB_run odX7_copy 2 (g := (25, [(0, .ref x0), (1, .int x1), (2, .int x2), (3, .int x3)], [.int (24 : Int32), .int x3], h, 0, 0)) rfl ?_
    by_cases c11 : (24 : Int32) ≤ x3
    · rw [if_pos c11] at hq
      refine ic_ge_T (t := 100) odX7_copy rfl rfl c11 ?_
      refine mB_run odX7_copy 1 (g := (101, [(0, .ref x0), (1, .int x1), (2, .int x2), (3, .int x3)], [.ref x0], h, 0, 0)) rfl ?_
      obtain ⟨v12, e13, hq⟩ := bsm hq
      refine r_gR odX7_copy rfl rfl e13 ?_
      refine mB_run odX7_copy 2 (g := (106, [(0, .ref x0), (1, .int x1), (2, .int x2), (3, .int x3)], [.ref x0, .int x2, .ref v12], h, 0, 0)) rfl ?_
      obtain ⟨v14, e15, hq⟩ := bsm hq
      refine r_gR odX7_copy rfl rfl e15 ?_
      refine mB_run odX7_copy 1 (g := (110, [(0, .ref x0), (1, .int x1), (2, .int x2), (3, .int x3)], [.int x1, .ref v14, .int x2, .ref v12], h, 0, 0)) rfl ?_
      obtain ⟨v16, e17, hq⟩ := bsm hq
      refine r_aI odX7_copy rfl e17 ?_
      obtain ⟨h18, e19, hq⟩ := bsm hq
      refine r_wI odX7_copy rfl e19 ?_
      refine mB_run odX7_copy 1 (g := (113, [(0, .ref x0), (1, .int x1), (2, .int x2), (3, .int x3)], [.ref x0], h18, 0, 0)) rfl ?_
      obtain ⟨v20, e21, hq⟩ := bsm hq
      refine r_gR odX7_copy rfl rfl e21 ?_
      refine mB_run odX7_copy 2 (g := (118, [(0, .ref x0), (1, .int x1), (2, .int x2), (3, .int x3)], [.ref x0, .int x2, .ref v20], h18, 0, 0)) rfl ?_
      obtain ⟨v22, e23, hq⟩ := bsm hq
      refine r_gR odX7_copy rfl rfl e23 ?_
      refine mB_run odX7_copy 1 (g := (122, [(0, .ref x0), (1, .int x1), (2, .int x2), (3, .int x3)], [.int x1, .ref v22, .int x2, .ref v20], h18, 0, 0)) rfl ?_
      obtain ⟨v24, e25, hq⟩ := bsm hq
      refine r_aI odX7_copy rfl e25 ?_
      obtain ⟨h26, e27, hq⟩ := bsm hq
      refine r_wI odX7_copy rfl e27 ?_
      refine mB_run odX7_copy 1 (g := (125, [(0, .ref x0), (1, .int x1), (2, .int x2), (3, .int x3)], [.int (1 : Int32)], h26, 0, 0)) rfl ?_
      cases hq
      exact mB_ret odX7_copy rfl
    · rw [if_neg c11] at hq
      refine ic_ge_F (t := 100) odX7_copy rfl rfl c11 ?_
      refine mB_run odX7_copy 1 (g := (29, [(0, .ref x0), (1, .int x1), (2, .int x2), (3, .int x3)], [.ref x0], h, 0, 0)) rfl ?_
      obtain ⟨v28, e29, hq⟩ := bsm hq
      refine r_gR odX7_copy rfl rfl e29 ?_
      refine mB_run odX7_copy 6 (g := (39, [(0, .ref x0), (1, .int x1), (2, .int x2), (3, .int x3)], [.ref x0, .int (((24 : Int32) * x2) + x3), .ref v28], h, 0, 0)) rfl ?_
      obtain ⟨v30, e31, hq⟩ := bsm hq
      refine r_gR odX7_copy rfl rfl e31 ?_
      refine mB_run odX7_copy 5 (g := (48, [(0, .ref x0), (1, .int x1), (2, .int x2), (3, .int x3)], [.int (((24 : Int32) * x1) + x3), .ref v30, .int (((24 : Int32) * x2) + x3), .ref v28], h, 0, 0)) rfl ?_
      obtain ⟨v32, e33, hq⟩ := bsm hq
      refine r_aI odX7_copy rfl e33 ?_
      obtain ⟨h34, e35, hq⟩ := bsm hq
      refine r_wI odX7_copy rfl e35 ?_
      refine mB_run odX7_copy 1 (g := (51, [(0, .ref x0), (1, .int x1), (2, .int x2), (3, .int x3)], [.ref x0], h34, 0, 0)) rfl ?_
      obtain ⟨v36, e37, hq⟩ := bsm hq
      refine r_gR odX7_copy rfl rfl e37 ?_
      refine mB_run odX7_copy 6 (g := (61, [(0, .ref x0), (1, .int x1), (2, .int x2), (3, .int x3)], [.ref x0, .int (((24 : Int32) * x2) + x3), .ref v36], h34, 0, 0)) rfl ?_
      obtain ⟨v38, e39, hq⟩ := bsm hq
      refine r_gR odX7_copy rfl rfl e39 ?_
      refine mB_run odX7_copy 5 (g := (70, [(0, .ref x0), (1, .int x1), (2, .int x2), (3, .int x3)], [.int (((24 : Int32) * x1) + x3), .ref v38, .int (((24 : Int32) * x2) + x3), .ref v36], h34, 0, 0)) rfl ?_
      obtain ⟨v40, e41, hq⟩ := bsm hq
      refine r_aI odX7_copy rfl e41 ?_
      obtain ⟨h42, e43, hq⟩ := bsm hq
      refine r_wI odX7_copy rfl e43 ?_
      refine mB_run odX7_copy 1 (g := (73, [(0, .ref x0), (1, .int x1), (2, .int x2), (3, .int x3)], [.ref x0], h42, 0, 0)) rfl ?_
      obtain ⟨v44, e45, hq⟩ := bsm hq
      refine r_gR odX7_copy rfl rfl e45 ?_
      refine mB_run odX7_copy 6 (g := (83, [(0, .ref x0), (1, .int x1), (2, .int x2), (3, .int x3)], [.ref x0, .int (((24 : Int32) * x2) + x3), .ref v44], h42, 0, 0)) rfl ?_
      obtain ⟨v46, e47, hq⟩ := bsm hq
      refine r_gR odX7_copy rfl rfl e47 ?_
      refine mB_run odX7_copy 5 (g := (92, [(0, .ref x0), (1, .int x1), (2, .int x2), (3, .int x3)], [.int (((24 : Int32) * x1) + x3), .ref v46, .int (((24 : Int32) * x2) + x3), .ref v44], h42, 0, 0)) rfl ?_
      obtain ⟨v48, e49, hq⟩ := bsm hq
      refine r_aI odX7_copy rfl e49 ?_
      obtain ⟨h50, e51, hq⟩ := bsm hq
      refine r_wI odX7_copy rfl e51 ?_
      refine mB_run odX7_copy 2 (g := (22, [(3, .int (x3 + (1 : Int32))), (0, .ref x0), (1, .int x1), (2, .int x2)], [], h50, 0, 0)) rfl ?_
      refine mB_lv [1, 2, 3, 0] (lv' := [(0, .ref x0), (1, .int x1), (2, .int x2), (3, .int (x3 + (1 : Int32)))]) rfl ?_
      exact ih _ _ _ _ _ hq
def fxX7_copy (N : Nat) (p0 : Nat) (p1 : Int32) (p2 : Int32) (h : mh) : Option (mh × Int32) :=
  (fxX7_isSolid N p1 h).bind fun o1 =>
  if o1.2 = 0 then (
    some (o1.1, (0 : Int32))) else (
    (fxX7_isSolid N p2 o1.1).bind fun o4 =>
    if o4.2 = 0 then (
      some (o4.1, (0 : Int32))) else (
      (kO o4.1 p0 7).bind fun f9 =>
      (fxX7_keeps N p0 o4.1).bind fun o7 =>
      fxX7_copy_22 N N p0 p1 p2 (0 : Int32) o7))
set_option maxHeartbeats 4000000 in
set_option maxRecDepth 100000 in
theorem exX7_copy {N : Nat} {p0 : Nat} {p1 : Int32} {p2 : Int32} {h : mh} {o : (mh × Int32)} (hq : fxX7_copy N p0 p1 p2 h = some o) : mC mX7_copy [.ref p0, .int p1, .int p2] h (o.1, some (.int o.2)) := by
  refine mC_of okX7_copy (Nat.le_of_ble_eq_true rfl) ?_
  unfold fxX7_copy at hq
  show mB _ mX7_copy (0, [(0, .ref p0), (1, .int p1), (2, .int p2)], [], h, 0, 0)
  refine mB_run odX7_copy 1 (g := (1, [(0, .ref p0), (1, .int p1), (2, .int p2)], [.int p1], h, 0, 0)) rfl ?_
  obtain ⟨o1, e2, hq⟩ := bsm hq
  refine mB_S (as := [.int p1]) odX7_copy okX7_isSolid lk_7_133 rfl (exX7_isSolid e2) rfl rfl rfl ?_
  show mB _ mX7_copy (4, [(0, .ref p0), (1, .int p1), (2, .int p2)], [.int o1.2], o1.1, 0, 0)
  by_cases c3 : o1.2 = 0
  · rw [if_pos c3] at hq
    refine if_eq_T (t := 14) odX7_copy rfl rfl c3 ?_
    refine mB_run odX7_copy 1 (g := (15, [(0, .ref p0), (1, .int p1), (2, .int p2)], [.int (0 : Int32)], o1.1, 0, 0)) rfl ?_
    cases hq
    exact mB_ret odX7_copy rfl
  · rw [if_neg c3] at hq
    refine if_eq_F (t := 14) odX7_copy rfl rfl c3 ?_
    refine mB_run odX7_copy 1 (g := (8, [(0, .ref p0), (1, .int p1), (2, .int p2)], [.int p2], o1.1, 0, 0)) rfl ?_
    obtain ⟨o4, e5, hq⟩ := bsm hq
    refine mB_S (as := [.int p2]) odX7_copy okX7_isSolid lk_7_133 rfl (exX7_isSolid e5) rfl rfl rfl ?_
    show mB _ mX7_copy (11, [(0, .ref p0), (1, .int p1), (2, .int p2)], [.int o4.2], o4.1, 0, 0)
    by_cases c6 : o4.2 = 0
    · rw [if_pos c6] at hq
      refine if_ne_F (t := 16) odX7_copy rfl rfl c6 ?_
      refine mB_run odX7_copy 1 (g := (15, [(0, .ref p0), (1, .int p1), (2, .int p2)], [.int (0 : Int32)], o4.1, 0, 0)) rfl ?_
      cases hq
      exact mB_ret odX7_copy rfl
    · rw [if_neg c6] at hq
      refine if_ne_T (t := 16) odX7_copy rfl rfl c6 ?_
      refine mB_run odX7_copy 1 (g := (17, [(0, .ref p0), (1, .int p1), (2, .int p2)], [.ref p0], o4.1, 0, 0)) rfl ?_
      obtain ⟨f9, k10, hq⟩ := bsm hq
      obtain ⟨o7, e8, hq⟩ := bsm hq
      refine mB_V (as := []) odX7_copy okX7_keeps lk_7_237 rfl (exX7_keeps e8) (kO_at k10) rfl rfl rfl ?_
      show mB _ mX7_copy (20, [(0, .ref p0), (1, .int p1), (2, .int p2)], [], o7, 0, 0)
      refine mB_run odX7_copy 2 (g := (22, [(3, .int (0 : Int32)), (0, .ref p0), (1, .int p1), (2, .int p2)], [], o7, 0, 0)) rfl ?_
      refine mB_lv [1, 2, 3, 0] (lv' := [(0, .ref p0), (1, .int p1), (2, .int p2), (3, .int (0 : Int32))]) rfl ?_
      exact exX7_copy_22 N _ _ _ _ _ hq
