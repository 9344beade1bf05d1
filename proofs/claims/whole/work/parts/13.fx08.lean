def fxX7_keeps_178 (N : Nat) : Nat → Nat → Int32 → mh → Option mh
  | 0, _, _, _ => none
  | n + 1, x0, x1, h =>
    if (192 : Int32) ≤ x1 then (
      (gI h x0 7 9).bind fun v26 =>
      (sV h x0 7 9 (.int (v26 + (1 : Int32)))).bind fun h28 =>
      some h28) else (
      (gR h x0 7 12).bind fun v30 =>
      (gI h x0 7 9).bind fun v32 =>
      (gR h x0 7 6).bind fun v34 =>
      (aI h v34 x1).bind fun v36 =>
      (wI h v30 (((192 : Int32) * v32) + x1) v36).bind fun h38 =>
      (gR h38 x0 7 13).bind fun v40 =>
      (gI h38 x0 7 9).bind fun v42 =>
      (gR h38 x0 7 7).bind fun v44 =>
      (aI h38 v44 x1).bind fun v46 =>
      (wI h38 v40 (((192 : Int32) * v42) + x1) v46).bind fun h48 =>
      (gR h48 x0 7 14).bind fun v50 =>
      (gI h48 x0 7 9).bind fun v52 =>
      (gR h48 x0 7 8).bind fun v54 =>
      (aI h48 v54 x1).bind fun v56 =>
      (wI h48 v50 (((192 : Int32) * v52) + x1) v56).bind fun h58 =>
      fxX7_keeps_178 N n x0 (x1 + (1 : Int32)) h58)
set_option maxHeartbeats 4000000 in
set_option maxRecDepth 100000 in
theorem exX7_keeps_178 {N : Nat} : ∀ (n : Nat) (x0 : Nat) (x1 : Int32) (h : mh) {o : mh}, fxX7_keeps_178 N n x0 x1 h = some o → mB (gO mX7_keeps (o, none)) mX7_keeps (178, [(0, .ref x0), (1, .int x1)], [], h, 0, 0) := by
  intro n
  induction n with
  | zero => intro x0 x1 h o hq; cases hq
  | succ n ih =>
    intro x0 x1 h o hq
    unfold fxX7_keeps_178 at hq
    refine mB_run odX7_keeps 2 (g := (182, [(0, .ref x0), (1, .int x1)], [.int (192 : Int32), .int x1], h, 0, 0)) rfl ?_
    by_cases c25 : (192 : Int32) ≤ x1
    · rw [if_pos c25] at hq
      refine ic_ge_T (t := 254) odX7_keeps rfl rfl c25 ?_
      refine mB_run odX7_keeps 2 (g := (256, [(0, .ref x0), (1, .int x1)], [.ref x0, .ref x0], h, 0, 0)) rfl ?_
      obtain ⟨v26, e27, hq⟩ := bsm hq
      refine r_gI odX7_keeps rfl rfl e27 ?_
      refine mB_run odX7_keeps 2 (g := (261, [(0, .ref x0), (1, .int x1)], [.int (v26 + (1 : Int32)), .ref x0], h, 0, 0)) rfl ?_
      obtain ⟨h28, e29, hq⟩ := bsm hq
      refine r_sV odX7_keeps rfl rfl rfl rfl e29 ?_
      cases hq
      exact mB_ret odX7_keeps rfl
    · rw [if_neg c25] at hq
      refine ic_ge_F (t := 254) odX7_keeps rfl rfl c25 ?_
      refine mB_run odX7_keeps 1 (g := (186, [(0, .ref x0), (1, .int x1)], [.ref x0], h, 0, 0)) rfl ?_
      obtain ⟨v30, e31, hq⟩ := bsm hq
      refine r_gR odX7_keeps rfl rfl e31 ?_
      refine mB_run odX7_keeps 2 (g := (193, [(0, .ref x0), (1, .int x1)], [.ref x0, .int (192 : Int32), .ref v30], h, 0, 0)) rfl ?_
      obtain ⟨v32, e33, hq⟩ := bsm hq
      refine r_gI odX7_keeps rfl rfl e33 ?_
      refine mB_run odX7_keeps 4 (g := (200, [(0, .ref x0), (1, .int x1)], [.ref x0, .int (((192 : Int32) * v32) + x1), .ref v30], h, 0, 0)) rfl ?_
      obtain ⟨v34, e35, hq⟩ := bsm hq
      refine r_gR odX7_keeps rfl rfl e35 ?_
      refine mB_run odX7_keeps 1 (g := (204, [(0, .ref x0), (1, .int x1)], [.int x1, .ref v34, .int (((192 : Int32) * v32) + x1), .ref v30], h, 0, 0)) rfl ?_
      obtain ⟨v36, e37, hq⟩ := bsm hq
      refine r_aI odX7_keeps rfl e37 ?_
      obtain ⟨h38, e39, hq⟩ := bsm hq
      refine r_wI odX7_keeps rfl e39 ?_
      refine mB_run odX7_keeps 1 (g := (207, [(0, .ref x0), (1, .int x1)], [.ref x0], h38, 0, 0)) rfl ?_
      obtain ⟨v40, e41, hq⟩ := bsm hq
      refine r_gR odX7_keeps rfl rfl e41 ?_
      refine mB_run odX7_keeps 2 (g := (214, [(0, .ref x0), (1, .int x1)], [.ref x0, .int (192 : Int32), .ref v40], h38, 0, 0)) rfl ?_
      obtain ⟨v42, e43, hq⟩ := bsm hq
      refine r_gI odX7_keeps rfl rfl e43 ?_
      refine mB_run odX7_keeps 4 (g := (221, [(0, .ref x0), (1, .int x1)], [.ref x0, .int (((192 : Int32) * v42) + x1), .ref v40], h38, 0, 0)) rfl ?_
      obtain ⟨v44, e45, hq⟩ := bsm hq
      refine r_gR odX7_keeps rfl rfl e45 ?_
      refine mB_run odX7_keeps 1 (g := (225, [(0, .ref x0), (1, .int x1)], [.int x1, .ref v44, .int (((192 : Int32) * v42) + x1), .ref v40], h38, 0, 0)) rfl ?_
      obtain ⟨v46, e47, hq⟩ := bsm hq
      refine r_aI odX7_keeps rfl e47 ?_
      obtain ⟨h48, e49, hq⟩ := bsm hq
      refine r_wI odX7_keeps rfl e49 ?_
      refine mB_run odX7_keeps 1 (g := (228, [(0, .ref x0), (1, .int x1)], [.ref x0], h48, 0, 0)) rfl ?_
      obtain ⟨v50, e51, hq⟩ := bsm hq
      refine r_gR odX7_keeps rfl rfl e51 ?_
      refine mB_run odX7_keeps 2 (g := (235, [(0, .ref x0), (1, .int x1)], [.ref x0, .int (192 : Int32), .ref v50], h48, 0, 0)) rfl ?_
      obtain ⟨v52, e53, hq⟩ := bsm hq
      refine r_gI odX7_keeps rfl rfl e53 ?_
      refine mB_run odX7_keeps 4 (g := (242, [(0, .ref x0), (1, .int x1)], [.ref x0, .int (((192 : Int32) * v52) + x1), .ref v50], h48, 0, 0)) rfl ?_
      obtain ⟨v54, e55, hq⟩ := bsm hq
      refine r_gR odX7_keeps rfl rfl e55 ?_
      refine mB_run odX7_keeps 1 (g := (246, [(0, .ref x0), (1, .int x1)], [.int x1, .ref v54, .int (((192 : Int32) * v52) + x1), .ref v50], h48, 0, 0)) rfl ?_
      obtain ⟨v56, e57, hq⟩ := bsm hq
      refine r_aI odX7_keeps rfl e57 ?_
      obtain ⟨h58, e59, hq⟩ := bsm hq
      refine r_wI odX7_keeps rfl e59 ?_
      refine mB_run odX7_keeps 2 (g := (178, [(1, .int (x1 + (1 : Int32))), (0, .ref x0)], [], h58, 0, 0)) rfl ?_
      refine mB_lv [1, 0] (lv' := [(0, .ref x0), (1, .int (x1 + (1 : Int32)))]) rfl ?_
      exact ih _ _ _ hq
def fxX7_keeps_124 (N : Nat) : Nat → Nat → Int32 → mh → Option mh
  | 0, _, _, _ => none
  | n + 1, x0, x1, h =>
    if (8 : Int32) ≤ x1 then (
      fxX7_keeps_178 N N x0 (0 : Int32) h) else (
      (gR h x0 7 10).bind fun v5 =>
      (gI h x0 7 9).bind fun v7 =>
      (gR h x0 7 4).bind fun v9 =>
      (aI h v9 x1).bind fun v11 =>
      (wI h v5 (((8 : Int32) * v7) + x1) v11).bind fun h13 =>
      (gR h13 x0 7 11).bind fun v15 =>
      (gI h13 x0 7 9).bind fun v17 =>
      (gR h13 x0 7 5).bind fun v19 =>
      (aI h13 v19 x1).bind fun v21 =>
      (wI h13 v15 (((8 : Int32) * v17) + x1) v21).bind fun h23 =>
      fxX7_keeps_124 N n x0 (x1 + (1 : Int32)) h23)
set_option maxHeartbeats 4000000 in
set_option maxRecDepth 100000 in
theorem exX7_keeps_124 {N : Nat} : ∀ (n : Nat) (x0 : Nat) (x1 : Int32) (h : mh) {o : mh}, fxX7_keeps_124 N n x0 x1 h = some o → mB (gO mX7_keeps (o, none)) mX7_keeps (124, [(0, .ref x0), (1, .int x1)], [], h, 0, 0) := by
  intro n
  induction n with
  | zero => intro x0 x1 h o hq; cases hq
  | succ n ih =>
    intro x0 x1 h o hq
    unfold fxX7_keeps_124 at hq
    refine mB_run odX7_keeps 2 (g := (127, [(0, .ref x0), (1, .int x1)], [.int (8 : Int32), .int x1], h, 0, 0)) rfl ?_
    by_cases c4 : (8 : Int32) ≤ x1
    · rw [if_pos c4] at hq
      refine ic_ge_T (t := 176) odX7_keeps rfl rfl c4 ?_
      refine mB_run odX7_keeps 2 (g := (178, [(1, .int (0 : Int32)), (0, .ref x0)], [], h, 0, 0)) rfl ?_
      refine mB_lv [1, 0] (lv' := [(0, .ref x0), (1, .int (0 : Int32))]) rfl ?_
      exact exX7_keeps_178 N _ _ _ hq
    · rw [if_neg c4] at hq
      refine ic_ge_F (t := 176) odX7_keeps rfl rfl c4 ?_
      refine mB_run odX7_keeps 1 (g := (131, [(0, .ref x0), (1, .int x1)], [.ref x0], h, 0, 0)) rfl ?_
      obtain ⟨v5, e6, hq⟩ := bsm hq
      refine r_gR odX7_keeps rfl rfl e6 ?_
      refine mB_run odX7_keeps 2 (g := (137, [(0, .ref x0), (1, .int x1)], [.ref x0, .int (8 : Int32), .ref v5], h, 0, 0)) rfl ?_
      obtain ⟨v7, e8, hq⟩ := bsm hq
      refine r_gI odX7_keeps rfl rfl e8 ?_
      refine mB_run odX7_keeps 4 (g := (144, [(0, .ref x0), (1, .int x1)], [.ref x0, .int (((8 : Int32) * v7) + x1), .ref v5], h, 0, 0)) rfl ?_
      obtain ⟨v9, e10, hq⟩ := bsm hq
      refine r_gR odX7_keeps rfl rfl e10 ?_
      refine mB_run odX7_keeps 1 (g := (148, [(0, .ref x0), (1, .int x1)], [.int x1, .ref v9, .int (((8 : Int32) * v7) + x1), .ref v5], h, 0, 0)) rfl ?_
      obtain ⟨v11, e12, hq⟩ := bsm hq
      refine r_aI odX7_keeps rfl e12 ?_
      obtain ⟨h13, e14, hq⟩ := bsm hq
      refine r_wI odX7_keeps rfl e14 ?_
      refine mB_run odX7_keeps 1 (g := (151, [(0, .ref x0), (1, .int x1)], [.ref x0], h13, 0, 0)) rfl ?_
      obtain ⟨v15, e16, hq⟩ := bsm hq
      refine r_gR odX7_keeps rfl rfl e16 ?_
      refine mB_run odX7_keeps 2 (g := (157, [(0, .ref x0), (1, .int x1)], [.ref x0, .int (8 : Int32), .ref v15], h13, 0, 0)) rfl ?_
      obtain ⟨v17, e18, hq⟩ := bsm hq
      refine r_gI odX7_keeps rfl rfl e18 ?_
      refine mB_run odX7_keeps 4 (g := (164, [(0, .ref x0), (1, .int x1)], [.ref x0, .int (((8 : Int32) * v17) + x1), .ref v15], h13, 0, 0)) rfl ?_
      obtain ⟨v19, e20, hq⟩ := bsm hq
      refine r_gR odX7_keeps rfl rfl e20 ?_
      refine mB_run odX7_keeps 1 (g := (168, [(0, .ref x0), (1, .int x1)], [.int x1, .ref v19, .int (((8 : Int32) * v17) + x1), .ref v15], h13, 0, 0)) rfl ?_
      obtain ⟨v21, e22, hq⟩ := bsm hq
      refine r_aI odX7_keeps rfl e22 ?_
      obtain ⟨h23, e24, hq⟩ := bsm hq
      refine r_wI odX7_keeps rfl e24 ?_
      refine mB_run odX7_keeps 2 (g := (124, [(1, .int (x1 + (1 : Int32))), (0, .ref x0)], [], h23, 0, 0)) rfl ?_
      refine mB_lv [1, 0] (lv' := [(0, .ref x0), (1, .int (x1 + (1 : Int32)))]) rfl ?_
      exact ih _ _ _ hq
def fxX7_keeps_122 (N : Nat) (x0 : Nat) (h : mh) : Option mh :=
  fxX7_keeps_124 N N x0 (0 : Int32) h
set_option maxHeartbeats 4000000 in
set_option maxRecDepth 100000 in
theorem exX7_keeps_122 {N : Nat} (x0 : Nat) (h : mh) {o : mh} (hq : fxX7_keeps_122 N x0 h = some o) : mB (gO mX7_keeps (o, none)) mX7_keeps (122, [(0, .ref x0)], [], h, 0, 0) := by
  unfold fxX7_keeps_122 at hq
  refine mB_run odX7_keeps 2 (g := (124, [(1, .int (0 : Int32)), (0, .ref x0)], [], h, 0, 0)) rfl ?_
  refine mB_lv [1, 0] (lv' := [(0, .ref x0), (1, .int (0 : Int32))]) rfl ?_
  exact exX7_keeps_124 N _ _ _ hq
def fxX7_keeps_55 (N : Nat) : Nat → Nat → Int32 → mh → Option mh
  | 0, _, _, _ => none
  | n + 1, x0, x1, h =>
    if (1344 : Int32) ≤ x1 then (
      (sV h x0 7 9 (.int (7 : Int32))).bind fun h78 =>
      fxX7_keeps_122 N x0 h78) else (
      (gR h x0 7 12).bind fun v80 =>
      (gR h x0 7 12).bind fun v82 =>
      (aI h v82 (x1 + (192 : Int32))).bind fun v84 =>
      (wI h v80 x1 v84).bind fun h86 =>
      (gR h86 x0 7 13).bind fun v88 =>
      (gR h86 x0 7 13).bind fun v90 =>
      (aI h86 v90 (x1 + (192 : Int32))).bind fun v92 =>
      (wI h86 v88 x1 v92).bind fun h94 =>
      (gR h94 x0 7 14).bind fun v96 =>
      (gR h94 x0 7 14).bind fun v98 =>
      (aI h94 v98 (x1 + (192 : Int32))).bind fun v100 =>
      (wI h94 v96 x1 v100).bind fun h102 =>
      fxX7_keeps_55 N n x0 (x1 + (1 : Int32)) h102)
set_option maxHeartbeats 4000000 in
set_option maxRecDepth 100000 in
theorem exX7_keeps_55 {N : Nat} : ∀ (n : Nat) (x0 : Nat) (x1 : Int32) (h : mh) {o : mh}, fxX7_keeps_55 N n x0 x1 h = some o → mB (gO mX7_keeps (o, none)) mX7_keeps (55, [(0, .ref x0), (1, .int x1)], [], h, 0, 0) := by
  intro n
  induction n with
  | zero => intro x0 x1 h o hq; cases hq
  | succ n ih =>
    intro x0 x1 h o hq
    unfold fxX7_keeps_55 at hq
    refine mB_run odX7_keeps 2 (g := (59, [(0, .ref x0), (1, .int x1)], [.int (1344 : Int32), .int x1], h, 0, 0)) rfl ?_
    by_cases c77 : (1344 : Int32) ≤ x1
    · rw [if_pos c77] at hq
      refine ic_ge_T (t := 116) odX7_keeps rfl rfl c77 ?_
      refine mB_run odX7_keeps 2 (g := (119, [(0, .ref x0), (1, .int x1)], [.int (7 : Int32), .ref x0], h, 0, 0)) rfl ?_
      obtain ⟨h78, e79, hq⟩ := bsm hq
      refine r_sV odX7_keeps rfl rfl rfl rfl e79 ?_
      refine mB_lv [0] (lv' := [(0, .ref x0)]) rfl ?_
      exact exX7_keeps_122 _ _ hq
    · rw [if_neg c77] at hq
      refine ic_ge_F (t := 116) odX7_keeps rfl rfl c77 ?_
      refine mB_run odX7_keeps 1 (g := (63, [(0, .ref x0), (1, .int x1)], [.ref x0], h, 0, 0)) rfl ?_
      obtain ⟨v80, e81, hq⟩ := bsm hq
      refine r_gR odX7_keeps rfl rfl e81 ?_
      refine mB_run odX7_keeps 2 (g := (68, [(0, .ref x0), (1, .int x1)], [.ref x0, .int x1, .ref v80], h, 0, 0)) rfl ?_
      obtain ⟨v82, e83, hq⟩ := bsm hq
      refine r_gR odX7_keeps rfl rfl e83 ?_
      refine mB_run odX7_keeps 3 (g := (76, [(0, .ref x0), (1, .int x1)], [.int (x1 + (192 : Int32)), .ref v82, .int x1, .ref v80], h, 0, 0)) rfl ?_
      obtain ⟨v84, e85, hq⟩ := bsm hq
      refine r_aI odX7_keeps rfl e85 ?_
      obtain ⟨h86, e87, hq⟩ := bsm hq
      refine r_wI odX7_keeps rfl e87 ?_
      refine mB_run odX7_keeps 1 (g := (79, [(0, .ref x0), (1, .int x1)], [.ref x0], h86, 0, 0)) rfl ?_
      obtain ⟨v88, e89, hq⟩ := bsm hq
      refine r_gR odX7_keeps rfl rfl e89 ?_
      refine mB_run odX7_keeps 2 (g := (84, [(0, .ref x0), (1, .int x1)], [.ref x0, .int x1, .ref v88], h86, 0, 0)) rfl ?_
      obtain ⟨v90, e91, hq⟩ := bsm hq
      refine r_gR odX7_keeps rfl rfl e91 ?_
      refine mB_run odX7_keeps 3 (g := (92, [(0, .ref x0), (1, .int x1)], [.int (x1 + (192 : Int32)), .ref v90, .int x1, .ref v88], h86, 0, 0)) rfl ?_
      obtain ⟨v92, e93, hq⟩ := bsm hq
      refine r_aI odX7_keeps rfl e93 ?_
      obtain ⟨h94, e95, hq⟩ := bsm hq
      refine r_wI odX7_keeps rfl e95 ?_
      refine mB_run odX7_keeps 1 (g := (95, [(0, .ref x0), (1, .int x1)], [.ref x0], h94, 0, 0)) rfl ?_
      obtain ⟨v96, e97, hq⟩ := bsm hq
      refine r_gR odX7_keeps rfl rfl e97 ?_
      refine mB_run odX7_keeps 2 (g := (100, [(0, .ref x0), (1, .int x1)], [.ref x0, .int x1, .ref v96], h94, 0, 0)) rfl ?_
      obtain ⟨v98, e99, hq⟩ := bsm hq
      refine r_gR odX7_keeps rfl rfl e99 ?_
      refine mB_run odX7_keeps 3 (g := (108, [(0, .ref x0), (1, .int x1)], [.int (x1 + (192 : Int32)), .ref v98, .int x1, .ref v96], h94, 0, 0)) rfl ?_
      obtain ⟨v100, e101, hq⟩ := bsm hq
      refine r_aI odX7_keeps rfl e101 ?_
      obtain ⟨h102, e103, hq⟩ := bsm hq
      refine r_wI odX7_keeps rfl e103 ?_
      refine mB_run odX7_keeps 2 (g := (55, [(1, .int (x1 + (1 : Int32))), (0, .ref x0)], [], h102, 0, 0)) rfl ?_
      refine mB_lv [1, 0] (lv' := [(0, .ref x0), (1, .int (x1 + (1 : Int32)))]) rfl ?_
      exact ih _ _ _ hq
def fxX7_keeps_11 (N : Nat) : Nat → Nat → Int32 → mh → Option mh
  | 0, _, _, _ => none
  | n + 1, x0, x1, h =>
    if (56 : Int32) ≤ x1 then (
      fxX7_keeps_55 N N x0 (0 : Int32) h) else (
      (gR h x0 7 10).bind fun v61 =>
      (gR h x0 7 10).bind fun v63 =>
      (aI h v63 (x1 + (8 : Int32))).bind fun v65 =>
      (wI h v61 x1 v65).bind fun h67 =>
      (gR h67 x0 7 11).bind fun v69 =>
      (gR h67 x0 7 11).bind fun v71 =>
      (aI h67 v71 (x1 + (8 : Int32))).bind fun v73 =>
      (wI h67 v69 x1 v73).bind fun h75 =>
      fxX7_keeps_11 N n x0 (x1 + (1 : Int32)) h75)
set_option maxHeartbeats 4000000 in
set_option maxRecDepth 100000 in
theorem exX7_keeps_11 {N : Nat} : ∀ (n : Nat) (x0 : Nat) (x1 : Int32) (h : mh) {o : mh}, fxX7_keeps_11 N n x0 x1 h = some o → mB (gO mX7_keeps (o, none)) mX7_keeps (11, [(0, .ref x0), (1, .int x1)], [], h, 0, 0) := by
  intro n
  induction n with
  | zero => intro x0 x1 h o hq; cases hq
  | succ n ih =>
    intro x0 x1 h o hq
    unfold fxX7_keeps_11 at hq
    refine mB_run odX7_keeps 2 (g := (14, [(0, .ref x0), (1, .int x1)], [.int (56 : Int32), .int x1], h, 0, 0)) rfl ?_
    by_cases c60 : (56 : Int32) ≤ x1
    · rw [if_pos c60] at hq
      refine ic_ge_T (t := 53) odX7_keeps rfl rfl c60 ?_
      refine mB_run odX7_keeps 2 (g := (55, [(1, .int (0 : Int32)), (0, .ref x0)], [], h, 0, 0)) rfl ?_
      refine mB_lv [1, 0] (lv' := [(0, .ref x0), (1, .int (0 : Int32))]) rfl ?_
      exact exX7_keeps_55 N _ _ _ hq
    · rw [if_neg c60] at hq
      refine ic_ge_F (t := 53) odX7_keeps rfl rfl c60 ?_
      refine mB_run odX7_keeps 1 (g := (18, [(0, .ref x0), (1, .int x1)], [.ref x0], h, 0, 0)) rfl ?_
      obtain ⟨v61, e62, hq⟩ := bsm hq
      refine r_gR odX7_keeps rfl rfl e62 ?_
      refine mB_run odX7_keeps 2 (g := (23, [(0, .ref x0), (1, .int x1)], [.ref x0, .int x1, .ref v61], h, 0, 0)) rfl ?_
      obtain ⟨v63, e64, hq⟩ := bsm hq
      refine r_gR odX7_keeps rfl rfl e64 ?_
      refine mB_run odX7_keeps 3 (g := (30, [(0, .ref x0), (1, .int x1)], [.int (x1 + (8 : Int32)), .ref v63, .int x1, .ref v61], h, 0, 0)) rfl ?_
      obtain ⟨v65, e66, hq⟩ := bsm hq
      refine r_aI odX7_keeps rfl e66 ?_
      obtain ⟨h67, e68, hq⟩ := bsm hq
      refine r_wI odX7_keeps rfl e68 ?_
      refine mB_run odX7_keeps 1 (g := (33, [(0, .ref x0), (1, .int x1)], [.ref x0], h67, 0, 0)) rfl ?_
      obtain ⟨v69, e70, hq⟩ := bsm hq
      refine r_gR odX7_keeps rfl rfl e70 ?_
      refine mB_run odX7_keeps 2 (g := (38, [(0, .ref x0), (1, .int x1)], [.ref x0, .int x1, .ref v69], h67, 0, 0)) rfl ?_
      obtain ⟨v71, e72, hq⟩ := bsm hq
      refine r_gR odX7_keeps rfl rfl e72 ?_
      refine mB_run odX7_keeps 3 (g := (45, [(0, .ref x0), (1, .int x1)], [.int (x1 + (8 : Int32)), .ref v71, .int x1, .ref v69], h67, 0, 0)) rfl ?_
      obtain ⟨v73, e74, hq⟩ := bsm hq
      refine r_aI odX7_keeps rfl e74 ?_
      obtain ⟨h75, e76, hq⟩ := bsm hq
      refine r_wI odX7_keeps rfl e76 ?_
      refine mB_run odX7_keeps 2 (g := (11, [(1, .int (x1 + (1 : Int32))), (0, .ref x0)], [], h75, 0, 0)) rfl ?_
      refine mB_lv [1, 0] (lv' := [(0, .ref x0), (1, .int (x1 + (1 : Int32)))]) rfl ?_
      exact ih _ _ _ hq
def fxX7_keeps (N : Nat) (p0 : Nat) (h : mh) : Option mh :=
  (gI h p0 7 9).bind fun v1 =>
  if v1 = (8 : Int32) then (
    fxX7_keeps_11 N N p0 (0 : Int32) h) else (
    fxX7_keeps_122 N p0 h)
set_option maxHeartbeats 4000000 in
set_option maxRecDepth 100000 in
theorem exX7_keeps {N : Nat} {p0 : Nat} {h : mh} {o : mh} (hq : fxX7_keeps N p0 h = some o) : mC mX7_keeps [.ref p0] h (o, none) := by
  refine mC_of okX7_keeps (Nat.le_of_ble_eq_true rfl) ?_
  unfold fxX7_keeps at hq
  show mB _ mX7_keeps (0, [(0, .ref p0)], [], h, 0, 0)
  refine mB_run odX7_keeps 1 (g := (1, [(0, .ref p0)], [.ref p0], h, 0, 0)) rfl ?_
  obtain ⟨v1, e2, hq⟩ := bsm hq
  refine r_gI odX7_keeps rfl rfl e2 ?_
  refine mB_run odX7_keeps 1 (g := (6, [(0, .ref p0)], [.int (8 : Int32), .int v1], h, 0, 0)) rfl ?_
  by_cases c3 : v1 = (8 : Int32)
  · rw [if_pos c3] at hq
    refine ic_ne_F (t := 122) odX7_keeps rfl rfl c3 ?_
    refine mB_run odX7_keeps 2 (g := (11, [(1, .int (0 : Int32)), (0, .ref p0)], [], h, 0, 0)) rfl ?_
    refine mB_lv [1, 0] (lv' := [(0, .ref p0), (1, .int (0 : Int32))]) rfl ?_
    exact exX7_keeps_11 N _ _ _ hq
  · rw [if_neg c3] at hq
    refine ic_ne_T (t := 122) odX7_keeps rfl rfl c3 ?_
    refine mB_lv [0] (lv' := [(0, .ref p0)]) rfl ?_
    exact exX7_keeps_122 _ _ hq
def fxX7_undo_75 (N : Nat) : Nat → Nat → Int32 → mh → Option (mh × Int32)
  | 0, _, _, _ => none
  | n + 1, x0, x1, h =>
    if (192 : Int32) ≤ x1 then (
      (gI h x0 7 9).bind fun v30 =>
      some (h, v30)) else (
      (gR h x0 7 6).bind fun v32 =>
      (gR h x0 7 12).bind fun v34 =>
      (gI h x0 7 9).bind fun v36 =>
      (aI h v34 (((192 : Int32) * v36) + x1)).bind fun v38 =>
      (wI h v32 x1 v38).bind fun h40 =>
      (gR h40 x0 7 7).bind fun v42 =>
      (gR h40 x0 7 13).bind fun v44 =>
      (gI h40 x0 7 9).bind fun v46 =>
      (aI h40 v44 (((192 : Int32) * v46) + x1)).bind fun v48 =>
      (wI h40 v42 x1 v48).bind fun h50 =>
      (gR h50 x0 7 8).bind fun v52 =>
      (gR h50 x0 7 14).bind fun v54 =>
      (gI h50 x0 7 9).bind fun v56 =>
      (aI h50 v54 (((192 : Int32) * v56) + x1)).bind fun v58 =>
      (wI h50 v52 x1 v58).bind fun h60 =>
      fxX7_undo_75 N n x0 (x1 + (1 : Int32)) h60)
set_option maxHeartbeats 4000000 in
set_option maxRecDepth 100000 in
theorem exX7_undo_75 {N : Nat} : ∀ (n : Nat) (x0 : Nat) (x1 : Int32) (h : mh) {o : (mh × Int32)}, fxX7_undo_75 N n x0 x1 h = some o → mB (gO mX7_undo (o.1, some (.int o.2))) mX7_undo (75, [(0, .ref x0), (1, .int x1)], [], h, 0, 0) := by
  intro n
  induction n with
  | zero => intro x0 x1 h o hq; cases hq
  | succ n ih =>
    intro x0 x1 h o hq
    unfold fxX7_undo_75 at hq
    refine mB_run odX7_undo 2 (g := (79, [(0, .ref x0), (1, .int x1)], [.int (192 : Int32), .int x1], h, 0, 0)) rfl ?_
    by_cases c29 : (192 : Int32) ≤ x1
    · rw [if_pos c29] at hq
      refine ic_ge_T (t := 151) odX7_undo rfl rfl c29 ?_
      refine mB_run odX7_undo 1 (g := (152, [(0, .ref x0), (1, .int x1)], [.ref x0], h, 0, 0)) rfl ?_
      obtain ⟨v30, e31, hq⟩ := bsm hq
      refine r_gI odX7_undo rfl rfl e31 ?_
      cases hq
      exact mB_ret odX7_undo rfl
    · rw [if_neg c29] at hq
      refine ic_ge_F (t := 151) odX7_undo rfl rfl c29 ?_
      refine mB_run odX7_undo 1 (g := (83, [(0, .ref x0), (1, .int x1)], [.ref x0], h, 0, 0)) rfl ?_
      obtain ⟨v32, e33, hq⟩ := bsm hq
      refine r_gR odX7_undo rfl rfl e33 ?_
      refine mB_run odX7_undo 2 (g := (88, [(0, .ref x0), (1, .int x1)], [.ref x0, .int x1, .ref v32], h, 0, 0)) rfl ?_
      obtain ⟨v34, e35, hq⟩ := bsm hq
      refine r_gR odX7_undo rfl rfl e35 ?_
      refine mB_run odX7_undo 2 (g := (95, [(0, .ref x0), (1, .int x1)], [.ref x0, .int (192 : Int32), .ref v34, .int x1, .ref v32], h, 0, 0)) rfl ?_
      obtain ⟨v36, e37, hq⟩ := bsm hq
      refine r_gI odX7_undo rfl rfl e37 ?_
      refine mB_run odX7_undo 3 (g := (101, [(0, .ref x0), (1, .int x1)], [.int (((192 : Int32) * v36) + x1), .ref v34, .int x1, .ref v32], h, 0, 0)) rfl ?_
      obtain ⟨v38, e39, hq⟩ := bsm hq
      refine r_aI odX7_undo rfl e39 ?_
      obtain ⟨h40, e41, hq⟩ := bsm hq
      refine r_wI odX7_undo rfl e41 ?_
      refine mB_run odX7_undo 1 (g := (104, [(0, .ref x0), (1, .int x1)], [.ref x0], h40, 0, 0)) rfl ?_
      obtain ⟨v42, e43, hq⟩ := bsm hq
      refine r_gR odX7_undo rfl rfl e43 ?_
      refine mB_run odX7_undo 2 (g := (109, [(0, .ref x0), (1, .int x1)], [.ref x0, .int x1, .ref v42], h40, 0, 0)) rfl ?_
      obtain ⟨v44, e45, hq⟩ := bsm hq
      refine r_gR odX7_undo rfl rfl e45 ?_
      refine mB_run odX7_undo 2 (g := (116, [(0, .ref x0), (1, .int x1)], [.ref x0, .int (192 : Int32), .ref v44, .int x1, .ref v42], h40, 0, 0)) rfl ?_
      obtain ⟨v46, e47, hq⟩ := bsm hq
      refine r_gI odX7_undo rfl rfl e47 ?_
      refine mB_run odX7_undo 3 (g := (122, [(0, .ref x0), (1, .int x1)], [.int (((192 : Int32) * v46) + x1), .ref v44, .int x1, .ref v42], h40, 0, 0)) rfl ?_
      obtain ⟨v48, e49, hq⟩ := bsm hq
      refine r_aI odX7_undo rfl e49 ?_
      obtain ⟨h50, e51, hq⟩ := bsm hq
      refine r_wI odX7_undo rfl e51 ?_
      refine mB_run odX7_undo 1 (g := (125, [(0, .ref x0), (1, .int x1)], [.ref x0], h50, 0, 0)) rfl ?_
      obtain ⟨v52, e53, hq⟩ := bsm hq
      refine r_gR odX7_undo rfl rfl e53 ?_
      refine mB_run odX7_undo 2 (g := (130, [(0, .ref x0), (1, .int x1)], [.ref x0, .int x1, .ref v52], h50, 0, 0)) rfl ?_
      obtain ⟨v54, e55, hq⟩ := bsm hq
      refine r_gR odX7_undo rfl rfl e55 ?_
      refine mB_run odX7_undo 2 (g := (137, [(0, .ref x0), (1, .int x1)], [.ref x0, .int (192 : Int32), .ref v54, .int x1, .ref v52], h50, 0, 0)) rfl ?_
      obtain ⟨v56, e57, hq⟩ := bsm hq
      refine r_gI odX7_undo rfl rfl e57 ?_
      refine mB_run odX7_undo 3 (g := (143, [(0, .ref x0), (1, .int x1)], [.int (((192 : Int32) * v56) + x1), .ref v54, .int x1, .ref v52], h50, 0, 0)) rfl ?_
      obtain ⟨v58, e59, hq⟩ := bsm hq
      refine r_aI odX7_undo rfl e59 ?_
      obtain ⟨h60, e61, hq⟩ := bsm hq
      refine r_wI odX7_undo rfl e61 ?_
      refine mB_run odX7_undo 2 (g := (75, [(1, .int (x1 + (1 : Int32))), (0, .ref x0)], [], h60, 0, 0)) rfl ?_
      refine mB_lv [1, 0] (lv' := [(0, .ref x0), (1, .int (x1 + (1 : Int32)))]) rfl ?_
      exact ih _ _ _ hq
def fxX7_undo_21 (N : Nat) : Nat → Nat → Int32 → mh → Option (mh × Int32)
  | 0, _, _, _ => none
  | n + 1, x0, x1, h =>
    if (8 : Int32) ≤ x1 then (
      fxX7_undo_75 N N x0 (0 : Int32) h) else (
      (gR h x0 7 4).bind fun v9 =>
      (gR h x0 7 10).bind fun v11 =>
      (gI h x0 7 9).bind fun v13 =>
      (aI h v11 (((8 : Int32) * v13) + x1)).bind fun v15 =>
      (wI h v9 x1 v15).bind fun h17 =>
      (gR h17 x0 7 5).bind fun v19 =>
      (gR h17 x0 7 11).bind fun v21 =>
      (gI h17 x0 7 9).bind fun v23 =>
      (aI h17 v21 (((8 : Int32) * v23) + x1)).bind fun v25 =>
      (wI h17 v19 x1 v25).bind fun h27 =>
      fxX7_undo_21 N n x0 (x1 + (1 : Int32)) h27)
set_option maxHeartbeats 4000000 in
set_option maxRecDepth 100000 in
theorem exX7_undo_21 {N : Nat} : ∀ (n : Nat) (x0 : Nat) (x1 : Int32) (h : mh) {o : (mh × Int32)}, fxX7_undo_21 N n x0 x1 h = some o → mB (gO mX7_undo (o.1, some (.int o.2))) mX7_undo (21, [(0, .ref x0), (1, .int x1)], [], h, 0, 0) := by
  intro n
  induction n with
  | zero => intro x0 x1 h o hq; cases hq
  | succ n ih =>
    intro x0 x1 h o hq
    unfold fxX7_undo_21 at hq
    refine mB_run odX7_undo 2 (g := (24, [(0, .ref x0), (1, .int x1)], [.int (8 : Int32), .int x1], h, 0, 0)) rfl ?_
    by_cases c8 : (8 : Int32) ≤ x1
    · rw [if_pos c8] at hq
      refine ic_ge_T (t := 73) odX7_undo rfl rfl c8 ?_
      refine mB_run odX7_undo 2 (g := (75, [(1, .int (0 : Int32)), (0, .ref x0)], [], h, 0, 0)) rfl ?_
      refine mB_lv [1, 0] (lv' := [(0, .ref x0), (1, .int (0 : Int32))]) rfl ?_
      exact exX7_undo_75 N _ _ _ hq
    · rw [if_neg c8] at hq
      refine ic_ge_F (t := 73) odX7_undo rfl rfl c8 ?_
      refine mB_run odX7_undo 1 (g := (28, [(0, .ref x0), (1, .int x1)], [.ref x0], h, 0, 0)) rfl ?_
      obtain ⟨v9, e10, hq⟩ := bsm hq
      refine r_gR odX7_undo rfl rfl e10 ?_
      refine mB_run odX7_undo 2 (g := (33, [(0, .ref x0), (1, .int x1)], [.ref x0, .int x1, .ref v9], h, 0, 0)) rfl ?_
      obtain ⟨v11, e12, hq⟩ := bsm hq
      refine r_gR odX7_undo rfl rfl e12 ?_
      refine mB_run odX7_undo 2 (g := (39, [(0, .ref x0), (1, .int x1)], [.ref x0, .int (8 : Int32), .ref v11, .int x1, .ref v9], h, 0, 0)) rfl ?_
      obtain ⟨v13, e14, hq⟩ := bsm hq
      refine r_gI odX7_undo rfl rfl e14 ?_
      refine mB_run odX7_undo 3 (g := (45, [(0, .ref x0), (1, .int x1)], [.int (((8 : Int32) * v13) + x1), .ref v11, .int x1, .ref v9], h, 0, 0)) rfl ?_
      obtain ⟨v15, e16, hq⟩ := bsm hq
      refine r_aI odX7_undo rfl e16 ?_
      obtain ⟨h17, e18, hq⟩ := bsm hq
      refine r_wI odX7_undo rfl e18 ?_
      refine mB_run odX7_undo 1 (g := (48, [(0, .ref x0), (1, .int x1)], [.ref x0], h17, 0, 0)) rfl ?_
      obtain ⟨v19, e20, hq⟩ := bsm hq
      refine r_gR odX7_undo rfl rfl e20 ?_
      refine mB_run odX7_undo 2 (g := (53, [(0, .ref x0), (1, .int x1)], [.ref x0, .int x1, .ref v19], h17, 0, 0)) rfl ?_
      obtain ⟨v21, e22, hq⟩ := bsm hq
      refine r_gR odX7_undo rfl rfl e22 ?_
      refine mB_run odX7_undo 2 (g := (59, [(0, .ref x0), (1, .int x1)], [.ref x0, .int (8 : Int32), .ref v21, .int x1, .ref v19], h17, 0, 0)) rfl ?_
      obtain ⟨v23, e24, hq⟩ := bsm hq
      refine r_gI odX7_undo rfl rfl e24 ?_
      refine mB_run odX7_undo 3 (g := (65, [(0, .ref x0), (1, .int x1)], [.int (((8 : Int32) * v23) + x1), .ref v21, .int x1, .ref v19], h17, 0, 0)) rfl ?_
      obtain ⟨v25, e26, hq⟩ := bsm hq
      refine r_aI odX7_undo rfl e26 ?_
      obtain ⟨h27, e28, hq⟩ := bsm hq
      refine r_wI odX7_undo rfl e28 ?_
      refine mB_run odX7_undo 2 (g := (21, [(1, .int (x1 + (1 : Int32))), (0, .ref x0)], [], h27, 0, 0)) rfl ?_
      refine mB_lv [1, 0] (lv' := [(0, .ref x0), (1, .int (x1 + (1 : Int32)))]) rfl ?_
      exact ih _ _ _ hq
def fxX7_undo (N : Nat) (p0 : Nat) (h : mh) : Option (mh × Int32) :=
  (gI h p0 7 9).bind fun v1 =>
  if v1 = 0 then (
    some (h, (-1 : Int32))) else (
    (gI h p0 7 9).bind fun v4 =>
    (sV h p0 7 9 (.int (v4 - (1 : Int32)))).bind fun h6 =>
    fxX7_undo_21 N N p0 (0 : Int32) h6)
set_option maxHeartbeats 4000000 in
set_option maxRecDepth 100000 in
theorem exX7_undo {N : Nat} {p0 : Nat} {h : mh} {o : (mh × Int32)} (hq : fxX7_undo N p0 h = some o) : mC mX7_undo [.ref p0] h (o.1, some (.int o.2)) := by
  refine mC_of okX7_undo (Nat.le_of_ble_eq_true rfl) ?_
  unfold fxX7_undo at hq
  show mB _ mX7_undo (0, [(0, .ref p0)], [], h, 0, 0)
  refine mB_run odX7_undo 1 (g := (1, [(0, .ref p0)], [.ref p0], h, 0, 0)) rfl ?_
  obtain ⟨v1, e2, hq⟩ := bsm hq
  refine r_gI odX7_undo rfl rfl e2 ?_
  by_cases c3 : v1 = 0
  · rw [if_pos c3] at hq
    refine if_ne_F (t := 9) odX7_undo rfl rfl c3 ?_
    refine mB_run odX7_undo 1 (g := (8, [(0, .ref p0)], [.int (-1 : Int32)], h, 0, 0)) rfl ?_
    cases hq
    exact mB_ret odX7_undo rfl
  · rw [if_neg c3] at hq
    refine if_ne_T (t := 9) odX7_undo rfl rfl c3 ?_
    refine mB_run odX7_undo 2 (g := (11, [(0, .ref p0)], [.ref p0, .ref p0], h, 0, 0)) rfl ?_
    obtain ⟨v4, e5, hq⟩ := bsm hq
    refine r_gI odX7_undo rfl rfl e5 ?_
    refine mB_run odX7_undo 2 (g := (16, [(0, .ref p0)], [.int (v4 - (1 : Int32)), .ref p0], h, 0, 0)) rfl ?_
    obtain ⟨h6, e7, hq⟩ := bsm hq
    refine r_sV odX7_undo rfl rfl rfl rfl e7 ?_
    refine mB_run odX7_undo 2 (g := (21, [(1, .int (0 : Int32)), (0, .ref p0)], [], h6, 0, 0)) rfl ?_
    refine mB_lv [1, 0] (lv' := [(0, .ref p0), (1, .int (0 : Int32))]) rfl ?_
    exact exX7_undo_21 N _ _ _ hq
def fxX7_heaps_73 (N : Nat) (rec3 : Nat → Int64 → Int64 → Int64 → Int32 → mh → Option mh) (x0 : Nat) (x1 : Int64) (x3 : Int64) (x5 : Int64) (x7 : Int32) (h : mh) : Option mh :=
  rec3 x0 x1 x3 x5 (x7 + (1 : Int32)) h
set_option maxHeartbeats 4000000 in
set_option maxRecDepth 100000 in
theorem exX7_heaps_73 {N : Nat} {rec3 : Nat → Int64 → Int64 → Int64 → Int32 → mh → Option mh} (hrec3 : ∀ (x0 : Nat) (x1 : Int64) (x3 : Int64) (x5 : Int64) (x7 : Int32) (h : mh) {o : mh}, rec3 x0 x1 x3 x5 x7 h = some o → mB (gO mX7_heaps (o, none)) mX7_heaps (3, [(0, .ref x0), (1, .long x1), (3, .long x3), (5, .long x5), (7, .int x7)], [], h, 0, 0)) (x0 : Nat) (x1 : Int64) (x3 : Int64) (x5 : Int64) (x7 : Int32) (h : mh) {o : mh} (hq : fxX7_heaps_73 N rec3 x0 x1 x3 x5 x7 h = some o) : mB (gO mX7_heaps (o, none)) mX7_heaps (73, [(0, .ref x0), (1, .long x1), (3, .long x3), (5, .long x5), (7, .int x7)], [], h, 0, 0) := by
  unfold fxX7_heaps_73 at hq
  refine mB_run odX7_heaps 2 (g := (3, [(7, .int (x7 + (1 : Int32))), (0, .ref x0), (1, .long x1), (3, .long x3), (5, .long x5)], [], h, 0, 0)) rfl ?_
  refine mB_lv [1, 2, 3, 4, 0] (lv' := [(0, .ref x0), (1, .long x1), (3, .long x3), (5, .long x5), (7, .int (x7 + (1 : Int32)))]) rfl ?_
  exact hrec3 _ _ _ _ _ _ hq
def fxX7_heaps_132 (N : Nat) : Nat → Nat → Int64 → Int64 → Int64 → Int32 → Int32 → mh → Option mh
  | 0, _, _, _, _, _, _, _ => none
  | n + 1, x0, x1, x3, x5, x7, x8, h =>
    if x8 ≤ x7 then (
      (gR h x0 7 16).bind fun v50 =>
      (wJ h v50 x7 x1).bind fun h52 =>
      (gR h52 x0 7 17).bind fun v54 =>
      (wJ h52 v54 x7 x3).bind fun h56 =>
      (gR h56 x0 7 18).bind fun v58 =>
      (wJ h56 v58 x7 x5).bind fun h60 =>
      (gI h60 x0 7 15).bind fun v62 =>
      (sV h60 x0 7 15 (.int (v62 + (1 : Int32)))).bind fun h64 =>
      some h64) else (
      (gR h x0 7 16).bind fun v66 =>
      (gR h x0 7 16).bind fun v68 =>
      (aJ h v68 (x8 - (1 : Int32))).bind fun v70 =>
      (wJ h v66 x8 v70).bind fun h72 =>
      (gR h72 x0 7 17).bind fun v74 =>
      (gR h72 x0 7 17).bind fun v76 =>
      (aJ h72 v76 (x8 - (1 : Int32))).bind fun v78 =>
      (wJ h72 v74 x8 v78).bind fun h80 =>
      (gR h80 x0 7 18).bind fun v82 =>
      (gR h80 x0 7 18).bind fun v84 =>
      (aJ h80 v84 (x8 - (1 : Int32))).bind fun v86 =>
      (wJ h80 v82 x8 v86).bind fun h88 =>
      fxX7_heaps_132 N n x0 x1 x3 x5 x7 (x8 + (-1 : Int32)) h88)
set_option maxHeartbeats 4000000 in
set_option maxRecDepth 100000 in
theorem exX7_heaps_132 {N : Nat} : ∀ (n : Nat) (x0 : Nat) (x1 : Int64) (x3 : Int64) (x5 : Int64) (x7 : Int32) (x8 : Int32) (h : mh) {o : mh}, fxX7_heaps_132 N n x0 x1 x3 x5 x7 x8 h = some o → mB (gO mX7_heaps (o, none)) mX7_heaps (132, [(0, .ref x0), (1, .long x1), (3, .long x3), (5, .long x5), (7, .int x7), (8, .int x8)], [], h, 0, 0) := by
  intro n
  induction n with
  | zero => intro x0 x1 x3 x5 x7 x8 h o hq; cases hq
  | succ n ih =>
    intro x0 x1 x3 x5 x7 x8 h o hq
    unfold fxX7_heaps_132 at hq
    refine mB_run odX7_heaps 2 (g := (136, [(0, .ref x0), (1, .long x1), (3, .long x3), (5, .long x5), (7, .int x7), (8, .int x8)], [.int x7, .int x8], h, 0, 0)) rfl ?_
    by_cases c49 : x8 ≤ x7
    · rw [if_pos c49] at hq
      refine ic_le_T (t := 193) odX7_heaps rfl rfl c49 ?_
      refine mB_run odX7_heaps 1 (g := (194, [(0, .ref x0), (1, .long x1), (3, .long x3), (5, .long x5), (7, .int x7), (8, .int x8)], [.ref x0], h, 0, 0)) rfl ?_
      obtain ⟨v50, e51, hq⟩ := bsm hq
      refine r_gR odX7_heaps rfl rfl e51 ?_
      refine mB_run odX7_heaps 2 (g := (200, [(0, .ref x0), (1, .long x1), (3, .long x3), (5, .long x5), (7, .int x7), (8, .int x8)], [.long x1, .int x7, .ref v50], h, 0, 0)) rfl ?_
      obtain ⟨h52, e53, hq⟩ := bsm hq
      refine r_wJ odX7_heaps rfl e53 ?_
      refine mB_run odX7_heaps 1 (g := (202, [(0, .ref x0), (1, .long x1), (3, .long x3), (5, .long x5), (7, .int x7), (8, .int x8)], [.ref x0], h52, 0, 0)) rfl ?_
      obtain ⟨v54, e55, hq⟩ := bsm hq
      refine r_gR odX7_heaps rfl rfl e55 ?_
      refine mB_run odX7_heaps 2 (g := (208, [(0, .ref x0), (1, .long x1), (3, .long x3), (5, .long x5), (7, .int x7), (8, .int x8)], [.long x3, .int x7, .ref v54], h52, 0, 0)) rfl ?_
      obtain ⟨h56, e57, hq⟩ := bsm hq
      refine r_wJ odX7_heaps rfl e57 ?_
      refine mB_run odX7_heaps 1 (g := (210, [(0, .ref x0), (1, .long x1), (3, .long x3), (5, .long x5), (7, .int x7), (8, .int x8)], [.ref x0], h56, 0, 0)) rfl ?_
      obtain ⟨v58, e59, hq⟩ := bsm hq
      refine r_gR odX7_heaps rfl rfl e59 ?_
      refine mB_run odX7_heaps 2 (g := (217, [(0, .ref x0), (1, .long x1), (3, .long x3), (5, .long x5), (7, .int x7), (8, .int x8)], [.long x5, .int x7, .ref v58], h56, 0, 0)) rfl ?_
      obtain ⟨h60, e61, hq⟩ := bsm hq
      refine r_wJ odX7_heaps rfl e61 ?_
      refine mB_run odX7_heaps 2 (g := (220, [(0, .ref x0), (1, .long x1), (3, .long x3), (5, .long x5), (7, .int x7), (8, .int x8)], [.ref x0, .ref x0], h60, 0, 0)) rfl ?_
      obtain ⟨v62, e63, hq⟩ := bsm hq
      refine r_gI odX7_heaps rfl rfl e63 ?_
      refine mB_run odX7_heaps 2 (g := (225, [(0, .ref x0), (1, .long x1), (3, .long x3), (5, .long x5), (7, .int x7), (8, .int x8)], [.int (v62 + (1 : Int32)), .ref x0], h60, 0, 0)) rfl ?_
      obtain ⟨h64, e65, hq⟩ := bsm hq
      refine r_sV odX7_heaps rfl rfl rfl rfl e65 ?_
      cases hq
      exact mB_ret odX7_heaps rfl
    · rw [if_neg c49] at hq
      refine ic_le_F (t := 193) odX7_heaps rfl rfl c49 ?_
      refine mB_run odX7_heaps 1 (g := (140, [(0, .ref x0), (1, .long x1), (3, .long x3), (5, .long x5), (7, .int x7), (8, .int x8)], [.ref x0], h, 0, 0)) rfl ?_
      obtain ⟨v66, e67, hq⟩ := bsm hq
      refine r_gR odX7_heaps rfl rfl e67 ?_
      refine mB_run odX7_heaps 2 (g := (146, [(0, .ref x0), (1, .long x1), (3, .long x3), (5, .long x5), (7, .int x7), (8, .int x8)], [.ref x0, .int x8, .ref v66], h, 0, 0)) rfl ?_
      obtain ⟨v68, e69, hq⟩ := bsm hq
      refine r_gR odX7_heaps rfl rfl e69 ?_
      refine mB_run odX7_heaps 3 (g := (153, [(0, .ref x0), (1, .long x1), (3, .long x3), (5, .long x5), (7, .int x7), (8, .int x8)], [.int (x8 - (1 : Int32)), .ref v68, .int x8, .ref v66], h, 0, 0)) rfl ?_
      obtain ⟨v70, e71, hq⟩ := bsm hq
      refine r_aJ odX7_heaps rfl e71 ?_
      obtain ⟨h72, e73, hq⟩ := bsm hq
      refine r_wJ odX7_heaps rfl e73 ?_
      refine mB_run odX7_heaps 1 (g := (156, [(0, .ref x0), (1, .long x1), (3, .long x3), (5, .long x5), (7, .int x7), (8, .int x8)], [.ref x0], h72, 0, 0)) rfl ?_
      obtain ⟨v74, e75, hq⟩ := bsm hq
      refine r_gR odX7_heaps rfl rfl e75 ?_
      refine mB_run odX7_heaps 2 (g := (162, [(0, .ref x0), (1, .long x1), (3, .long x3), (5, .long x5), (7, .int x7), (8, .int x8)], [.ref x0, .int x8, .ref v74], h72, 0, 0)) rfl ?_
      obtain ⟨v76, e77, hq⟩ := bsm hq
      refine r_gR odX7_heaps rfl rfl e77 ?_
      refine mB_run odX7_heaps 3 (g := (169, [(0, .ref x0), (1, .long x1), (3, .long x3), (5, .long x5), (7, .int x7), (8, .int x8)], [.int (x8 - (1 : Int32)), .ref v76, .int x8, .ref v74], h72, 0, 0)) rfl ?_
      obtain ⟨v78, e79, hq⟩ := bsm hq
      refine r_aJ odX7_heaps rfl e79 ?_
      obtain ⟨h80, e81, hq⟩ := bsm hq
      refine r_wJ odX7_heaps rfl e81 ?_
      refine mB_run odX7_heaps 1 (g := (172, [(0, .ref x0), (1, .long x1), (3, .long x3), (5, .long x5), (7, .int x7), (8, .int x8)], [.ref x0], h80, 0, 0)) rfl ?_
      obtain ⟨v82, e83, hq⟩ := bsm hq
      refine r_gR odX7_heaps rfl rfl e83 ?_
      refine mB_run odX7_heaps 2 (g := (178, [(0, .ref x0), (1, .long x1), (3, .long x3), (5, .long x5), (7, .int x7), (8, .int x8)], [.ref x0, .int x8, .ref v82], h80, 0, 0)) rfl ?_
      obtain ⟨v84, e85, hq⟩ := bsm hq
      refine r_gR odX7_heaps rfl rfl e85 ?_
      refine mB_run odX7_heaps 3 (g := (185, [(0, .ref x0), (1, .long x1), (3, .long x3), (5, .long x5), (7, .int x7), (8, .int x8)], [.int (x8 - (1 : Int32)), .ref v84, .int x8, .ref v82], h80, 0, 0)) rfl ?_
      obtain ⟨v86, e87, hq⟩ := bsm hq
      refine r_aJ odX7_heaps rfl e87 ?_
      obtain ⟨h88, e89, hq⟩ := bsm hq
      refine r_wJ odX7_heaps rfl e89 ?_
      refine mB_run odX7_heaps 2 (g := (132, [(8, .int (x8 + (-1 : Int32))), (0, .ref x0), (1, .long x1), (3, .long x3), (5, .long x5), (7, .int x7)], [], h88, 0, 0)) rfl ?_
      refine mB_lv [1, 2, 3, 4, 5, 0] (lv' := [(0, .ref x0), (1, .long x1), (3, .long x3), (5, .long x5), (7, .int x7), (8, .int (x8 + (-1 : Int32)))]) rfl ?_
      exact ih _ _ _ _ _ _ _ hq
def fxX7_heaps_126 (N : Nat) (x0 : Nat) (x1 : Int64) (x3 : Int64) (x5 : Int64) (x7 : Int32) (h : mh) : Option mh :=
  (gI h x0 7 15).bind fun v47 =>
  fxX7_heaps_132 N N x0 x1 x3 x5 x7 v47 h
set_option maxHeartbeats 4000000 in
set_option maxRecDepth 100000 in
theorem exX7_heaps_126 {N : Nat} (x0 : Nat) (x1 : Int64) (x3 : Int64) (x5 : Int64) (x7 : Int32) (h : mh) {o : mh} (hq : fxX7_heaps_126 N x0 x1 x3 x5 x7 h = some o) : mB (gO mX7_heaps (o, none)) mX7_heaps (126, [(0, .ref x0), (1, .long x1), (3, .long x3), (5, .long x5), (7, .int x7)], [], h, 0, 0) := by
  unfold fxX7_heaps_126 at hq
  refine mB_run odX7_heaps 1 (g := (127, [(0, .ref x0), (1, .long x1), (3, .long x3), (5, .long x5), (7, .int x7)], [.ref x0], h, 0, 0)) rfl ?_
  obtain ⟨v47, e48, hq⟩ := bsm hq
  refine r_gI odX7_heaps rfl rfl e48 ?_
  refine mB_run odX7_heaps 1 (g := (132, [(8, .int v47), (0, .ref x0), (1, .long x1), (3, .long x3), (5, .long x5), (7, .int x7)], [], h, 0, 0)) rfl ?_
  refine mB_lv [1, 2, 3, 4, 5, 0] (lv' := [(0, .ref x0), (1, .long x1), (3, .long x3), (5, .long x5), (7, .int x7), (8, .int v47)]) rfl ?_
  exact exX7_heaps_132 N _ _ _ _ _ _ _ hq
def fxX7_heaps_79 (N : Nat) (x0 : Nat) (x1 : Int64) (x3 : Int64) (x5 : Int64) (x7 : Int32) (h : mh) : Option mh :=
  (gI h x0 7 15).bind fun v29 =>
  if v29 ≤ x7 then (
    fxX7_heaps_126 N x0 x1 x3 x5 x7 h) else (
    (gR h x0 7 16).bind fun v32 =>
    (aJ h v32 x7).bind fun v34 =>
    if v34 = x1 then (
      (gR h x0 7 17).bind fun v37 =>
      (aJ h v37 x7).bind fun v39 =>
      if v39 = x3 then (
        (gR h x0 7 18).bind fun v42 =>
        (aJ h v42 x7).bind fun v44 =>
        if v44 = x5 then (
          some h) else (
          fxX7_heaps_126 N x0 x1 x3 x5 x7 h)) else (
        fxX7_heaps_126 N x0 x1 x3 x5 x7 h)) else (
      fxX7_heaps_126 N x0 x1 x3 x5 x7 h))
set_option maxHeartbeats 4000000 in
set_option maxRecDepth 100000 in
theorem exX7_heaps_79 {N : Nat} (x0 : Nat) (x1 : Int64) (x3 : Int64) (x5 : Int64) (x7 : Int32) (h : mh) {o : mh} (hq : fxX7_heaps_79 N x0 x1 x3 x5 x7 h = some o) : mB (gO mX7_heaps (o, none)) mX7_heaps (79, [(0, .ref x0), (1, .long x1), (3, .long x3), (5, .long x5), (7, .int x7)], [], h, 0, 0) := by
  unfold fxX7_heaps_79 at hq
  refine mB_run odX7_heaps 2 (g := (82, [(0, .ref x0), (1, .long x1), (3, .long x3), (5, .long x5), (7, .int x7)], [.ref x0, .int x7], h, 0, 0)) rfl ?_
  obtain ⟨v29, e30, hq⟩ := bsm hq
  refine r_gI odX7_heaps rfl rfl e30 ?_
  by_cases c31 : v29 ≤ x7
  · rw [if_pos c31] at hq
    refine ic_ge_T (t := 126) odX7_heaps rfl rfl c31 ?_
    refine mB_lv [0, 1, 2, 3, 4] (lv' := [(0, .ref x0), (1, .long x1), (3, .long x3), (5, .long x5), (7, .int x7)]) rfl ?_
    exact exX7_heaps_126 _ _ _ _ _ _ hq
  · rw [if_neg c31] at hq
    refine ic_ge_F (t := 126) odX7_heaps rfl rfl c31 ?_
    refine mB_run odX7_heaps 1 (g := (89, [(0, .ref x0), (1, .long x1), (3, .long x3), (5, .long x5), (7, .int x7)], [.ref x0], h, 0, 0)) rfl ?_
    obtain ⟨v32, e33, hq⟩ := bsm hq
    refine r_gR odX7_heaps rfl rfl e33 ?_
    refine mB_run odX7_heaps 1 (g := (94, [(0, .ref x0), (1, .long x1), (3, .long x3), (5, .long x5), (7, .int x7)], [.int x7, .ref v32], h, 0, 0)) rfl ?_
    obtain ⟨v34, e35, hq⟩ := bsm hq
    refine r_aJ odX7_heaps rfl e35 ?_
    refine mB_run odX7_heaps 1 (g := (96, [(0, .ref x0), (1, .long x1), (3, .long x3), (5, .long x5), (7, .int x7)], [.long x1, .long v34], h, 0, 0)) rfl ?_
    by_cases c36 : v34 = x1
    · rw [if_pos c36] at hq
      refine lc_ne_F (t := 126) odX7_heaps rfl rfl rfl c36 ?_
      refine mB_run odX7_heaps 1 (g := (101, [(0, .ref x0), (1, .long x1), (3, .long x3), (5, .long x5), (7, .int x7)], [.ref x0], h, 0, 0)) rfl ?_
      obtain ⟨v37, e38, hq⟩ := bsm hq
      refine r_gR odX7_heaps rfl rfl e38 ?_
      refine mB_run odX7_heaps 1 (g := (106, [(0, .ref x0), (1, .long x1), (3, .long x3), (5, .long x5), (7, .int x7)], [.int x7, .ref v37], h, 0, 0)) rfl ?_
      obtain ⟨v39, e40, hq⟩ := bsm hq
      refine r_aJ odX7_heaps rfl e40 ?_
      refine mB_run odX7_heaps 1 (g := (108, [(0, .ref x0), (1, .long x1), (3, .long x3), (5, .long x5), (7, .int x7)], [.long x3, .long v39], h, 0, 0)) rfl ?_
      by_cases c41 : v39 = x3
      · rw [if_pos c41] at hq
        refine lc_ne_F (t := 126) odX7_heaps rfl rfl rfl c41 ?_
        refine mB_run odX7_heaps 1 (g := (113, [(0, .ref x0), (1, .long x1), (3, .long x3), (5, .long x5), (7, .int x7)], [.ref x0], h, 0, 0)) rfl ?_
        obtain ⟨v42, e43, hq⟩ := bsm hq
        refine r_gR odX7_heaps rfl rfl e43 ?_
        refine mB_run odX7_heaps 1 (g := (118, [(0, .ref x0), (1, .long x1), (3, .long x3), (5, .long x5), (7, .int x7)], [.int x7, .ref v42], h, 0, 0)) rfl ?_
        obtain ⟨v44, e45, hq⟩ := bsm hq
        refine r_aJ odX7_heaps rfl e45 ?_
        refine mB_run odX7_heaps 1 (g := (121, [(0, .ref x0), (1, .long x1), (3, .long x3), (5, .long x5), (7, .int x7)], [.long x5, .long v44], h, 0, 0)) rfl ?_
        by_cases c46 : v44 = x5
        · rw [if_pos c46] at hq
          refine lc_ne_F (t := 126) odX7_heaps rfl rfl rfl c46 ?_
          cases hq
          exact mB_ret odX7_heaps rfl
        · rw [if_neg c46] at hq
          refine lc_ne_T (t := 126) odX7_heaps rfl rfl rfl c46 ?_
          refine mB_lv [0, 1, 2, 3, 4] (lv' := [(0, .ref x0), (1, .long x1), (3, .long x3), (5, .long x5), (7, .int x7)]) rfl ?_
          exact exX7_heaps_126 _ _ _ _ _ _ hq
      · rw [if_neg c41] at hq
        refine lc_ne_T (t := 126) odX7_heaps rfl rfl rfl c41 ?_
        refine mB_lv [0, 1, 2, 3, 4] (lv' := [(0, .ref x0), (1, .long x1), (3, .long x3), (5, .long x5), (7, .int x7)]) rfl ?_
        exact exX7_heaps_126 _ _ _ _ _ _ hq
    · rw [if_neg c36] at hq
      refine lc_ne_T (t := 126) odX7_heaps rfl rfl rfl c36 ?_
      refine mB_lv [0, 1, 2, 3, 4] (lv' := [(0, .ref x0), (1, .long x1), (3, .long x3), (5, .long x5), (7, .int x7)]) rfl ?_
      exact exX7_heaps_126 _ _ _ _ _ _ hq
def fxX7_heaps_3 (N : Nat) : Nat → Nat → Int64 → Int64 → Int64 → Int32 → mh → Option mh
  | 0, _, _, _, _, _, _ => none
  | n + 1, x0, x1, x3, x5, x7, h =>
    (gI h x0 7 15).bind fun v1 =>
    if v1 ≤ x7 then (
      fxX7_heaps_79 N x0 x1 x3 x5 x7 h) else (
      (gR h x0 7 16).bind fun v4 =>
      (aJ h v4 x7).bind fun v6 =>
      if v6 < x1 then (
        fxX7_heaps_73 N (fxX7_heaps_3 N n) x0 x1 x3 x5 x7 h) else (
        (gR h x0 7 16).bind fun v9 =>
        (aJ h v9 x7).bind fun v11 =>
        if v11 = x1 then (
          (gR h x0 7 17).bind fun v14 =>
          (aJ h v14 x7).bind fun v16 =>
          if v16 < x3 then (
            fxX7_heaps_73 N (fxX7_heaps_3 N n) x0 x1 x3 x5 x7 h) else (
            (gR h x0 7 17).bind fun v19 =>
            (aJ h v19 x7).bind fun v21 =>
            if v21 = x3 then (
              (gR h x0 7 18).bind fun v24 =>
              (aJ h v24 x7).bind fun v26 =>
              if x5 ≤ v26 then (
                fxX7_heaps_79 N x0 x1 x3 x5 x7 h) else (
                fxX7_heaps_73 N (fxX7_heaps_3 N n) x0 x1 x3 x5 x7 h)) else (
              fxX7_heaps_79 N x0 x1 x3 x5 x7 h))) else (
          fxX7_heaps_79 N x0 x1 x3 x5 x7 h)))
set_option maxHeartbeats 4000000 in
set_option maxRecDepth 100000 in
theorem exX7_heaps_3 {N : Nat} : ∀ (n : Nat) (x0 : Nat) (x1 : Int64) (x3 : Int64) (x5 : Int64) (x7 : Int32) (h : mh) {o : mh}, fxX7_heaps_3 N n x0 x1 x3 x5 x7 h = some o → mB (gO mX7_heaps (o, none)) mX7_heaps (3, [(0, .ref x0), (1, .long x1), (3, .long x3), (5, .long x5), (7, .int x7)], [], h, 0, 0) := by
  intro n
  induction n with
  | zero => intro x0 x1 x3 x5 x7 h o hq; cases hq
  | succ n ih =>
    intro x0 x1 x3 x5 x7 h o hq
    unfold fxX7_heaps_3 at hq
    refine mB_run odX7_heaps 2 (g := (6, [(0, .ref x0), (1, .long x1), (3, .long x3), (5, .long x5), (7, .int x7)], [.ref x0, .int x7], h, 0, 0)) rfl ?_
    obtain ⟨v1, e2, hq⟩ := bsm hq
    refine r_gI odX7_heaps rfl rfl e2 ?_
    by_cases c3 : v1 ≤ x7
    · rw [if_pos c3] at hq
      refine ic_ge_T (t := 79) odX7_heaps rfl rfl c3 ?_
      refine mB_lv [0, 1, 2, 3, 4] (lv' := [(0, .ref x0), (1, .long x1), (3, .long x3), (5, .long x5), (7, .int x7)]) rfl ?_
      exact exX7_heaps_79 _ _ _ _ _ _ hq
    · rw [if_neg c3] at hq
      refine ic_ge_F (t := 79) odX7_heaps rfl rfl c3 ?_
      refine mB_run odX7_heaps 1 (g := (13, [(0, .ref x0), (1, .long x1), (3, .long x3), (5, .long x5), (7, .int x7)], [.ref x0], h, 0, 0)) rfl ?_
      obtain ⟨v4, e5, hq⟩ := bsm hq
      refine r_gR odX7_heaps rfl rfl e5 ?_
      refine mB_run odX7_heaps 1 (g := (18, [(0, .ref x0), (1, .long x1), (3, .long x3), (5, .long x5), (7, .int x7)], [.int x7, .ref v4], h, 0, 0)) rfl ?_
      obtain ⟨v6, e7, hq⟩ := bsm hq
      refine r_aJ odX7_heaps rfl e7 ?_
      refine mB_run odX7_heaps 1 (g := (20, [(0, .ref x0), (1, .long x1), (3, .long x3), (5, .long x5), (7, .int x7)], [.long x1, .long v6], h, 0, 0)) rfl ?_
      by_cases c8 : v6 < x1
      · rw [if_pos c8] at hq
        refine lc_lt_T (t := 73) odX7_heaps rfl rfl rfl c8 ?_
        refine mB_lv [0, 1, 2, 3, 4] (lv' := [(0, .ref x0), (1, .long x1), (3, .long x3), (5, .long x5), (7, .int x7)]) rfl ?_
        exact exX7_heaps_73 ih _ _ _ _ _ _ hq
      · rw [if_neg c8] at hq
        refine lc_lt_F (t := 73) odX7_heaps rfl rfl rfl c8 ?_
        refine mB_run odX7_heaps 1 (g := (25, [(0, .ref x0), (1, .long x1), (3, .long x3), (5, .long x5), (7, .int x7)], [.ref x0], h, 0, 0)) rfl ?_
        obtain ⟨v9, e10, hq⟩ := bsm hq
        refine r_gR odX7_heaps rfl rfl e10 ?_
        refine mB_run odX7_heaps 1 (g := (30, [(0, .ref x0), (1, .long x1), (3, .long x3), (5, .long x5), (7, .int x7)], [.int x7, .ref v9], h, 0, 0)) rfl ?_
        obtain ⟨v11, e12, hq⟩ := bsm hq
        refine r_aJ odX7_heaps rfl e12 ?_
        refine mB_run odX7_heaps 1 (g := (32, [(0, .ref x0), (1, .long x1), (3, .long x3), (5, .long x5), (7, .int x7)], [.long x1, .long v11], h, 0, 0)) rfl ?_
        by_cases c13 : v11 = x1
        · rw [if_pos c13] at hq
          refine lc_ne_F (t := 79) odX7_heaps rfl rfl rfl c13 ?_
          refine mB_run odX7_heaps 1 (g := (37, [(0, .ref x0), (1, .long x1), (3, .long x3), (5, .long x5), (7, .int x7)], [.ref x0], h, 0, 0)) rfl ?_
          obtain ⟨v14, e15, hq⟩ := bsm hq
          refine r_gR odX7_heaps rfl rfl e15 ?_
          refine mB_run odX7_heaps 1 (g := (42, [(0, .ref x0), (1, .long x1), (3, .long x3), (5, .long x5), (7, .int x7)], [.int x7, .ref v14], h, 0, 0)) rfl ?_
          obtain ⟨v16, e17, hq⟩ := bsm hq
          refine r_aJ odX7_heaps rfl e17 ?_
          refine mB_run odX7_heaps 1 (g := (44, [(0, .ref x0), (1, .long x1), (3, .long x3), (5, .long x5), (7, .int x7)], [.long x3, .long v16], h, 0, 0)) rfl ?_
          by_cases c18 : v16 < x3
          · rw [if_pos c18] at hq
            refine lc_lt_T (t := 73) odX7_heaps rfl rfl rfl c18 ?_
            refine mB_lv [0, 1, 2, 3, 4] (lv' := [(0, .ref x0), (1, .long x1), (3, .long x3), (5, .long x5), (7, .int x7)]) rfl ?_
            exact exX7_heaps_73 ih _ _ _ _ _ _ hq
          · rw [if_neg c18] at hq
            refine lc_lt_F (t := 73) odX7_heaps rfl rfl rfl c18 ?_
            refine mB_run odX7_heaps 1 (g := (49, [(0, .ref x0), (1, .long x1), (3, .long x3), (5, .long x5), (7, .int x7)], [.ref x0], h, 0, 0)) rfl ?_
            obtain ⟨v19, e20, hq⟩ := bsm hq
            refine r_gR odX7_heaps rfl rfl e20 ?_
            refine mB_run odX7_heaps 1 (g := (54, [(0, .ref x0), (1, .long x1), (3, .long x3), (5, .long x5), (7, .int x7)], [.int x7, .ref v19], h, 0, 0)) rfl ?_
            obtain ⟨v21, e22, hq⟩ := bsm hq
            refine r_aJ odX7_heaps rfl e22 ?_
            refine mB_run odX7_heaps 1 (g := (56, [(0, .ref x0), (1, .long x1), (3, .long x3), (5, .long x5), (7, .int x7)], [.long x3, .long v21], h, 0, 0)) rfl ?_
            by_cases c23 : v21 = x3
            · rw [if_pos c23] at hq
              refine lc_ne_F (t := 79) odX7_heaps rfl rfl rfl c23 ?_
              refine mB_run odX7_heaps 1 (g := (61, [(0, .ref x0), (1, .long x1), (3, .long x3), (5, .long x5), (7, .int x7)], [.ref x0], h, 0, 0)) rfl ?_
              obtain ⟨v24, e25, hq⟩ := bsm hq
              refine r_gR odX7_heaps rfl rfl e25 ?_
              refine mB_run odX7_heaps 1 (g := (66, [(0, .ref x0), (1, .long x1), (3, .long x3), (5, .long x5), (7, .int x7)], [.int x7, .ref v24], h, 0, 0)) rfl ?_
              obtain ⟨v26, e27, hq⟩ := bsm hq
              refine r_aJ odX7_heaps rfl e27 ?_
              refine mB_run odX7_heaps 1 (g := (69, [(0, .ref x0), (1, .long x1), (3, .long x3), (5, .long x5), (7, .int x7)], [.long x5, .long v26], h, 0, 0)) rfl ?_
              by_cases c28 : x5 ≤ v26
              · rw [if_pos c28] at hq
                refine lc_ge_T (t := 79) odX7_heaps rfl rfl rfl c28 ?_
                refine mB_lv [0, 1, 2, 3, 4] (lv' := [(0, .ref x0), (1, .long x1), (3, .long x3), (5, .long x5), (7, .int x7)]) rfl ?_
                exact exX7_heaps_79 _ _ _ _ _ _ hq
              · rw [if_neg c28] at hq
                refine lc_ge_F (t := 79) odX7_heaps rfl rfl rfl c28 ?_
                refine mB_lv [0, 1, 2, 3, 4] (lv' := [(0, .ref x0), (1, .long x1), (3, .long x3), (5, .long x5), (7, .int x7)]) rfl ?_
                exact exX7_heaps_73 ih _ _ _ _ _ _ hq
            · rw [if_neg c23] at hq
              refine lc_ne_T (t := 79) odX7_heaps rfl rfl rfl c23 ?_
              refine mB_lv [0, 1, 2, 3, 4] (lv' := [(0, .ref x0), (1, .long x1), (3, .long x3), (5, .long x5), (7, .int x7)]) rfl ?_
              exact exX7_heaps_79 _ _ _ _ _ _ hq
        · rw [if_neg c13] at hq
          refine lc_ne_T (t := 79) odX7_heaps rfl rfl rfl c13 ?_
          refine mB_lv [0, 1, 2, 3, 4] (lv' := [(0, .ref x0), (1, .long x1), (3, .long x3), (5, .long x5), (7, .int x7)]) rfl ?_
          exact exX7_heaps_79 _ _ _ _ _ _ hq
def fxX7_heaps (N : Nat) (p0 : Nat) (p1 : Int64) (p2 : Int64) (p3 : Int64) (h : mh) : Option mh :=
  fxX7_heaps_3 N N p0 p1 p2 p3 (0 : Int32) h
set_option maxHeartbeats 4000000 in
set_option maxRecDepth 100000 in
theorem exX7_heaps {N : Nat} {p0 : Nat} {p1 : Int64} {p2 : Int64} {p3 : Int64} {h : mh} {o : mh} (hq : fxX7_heaps N p0 p1 p2 p3 h = some o) : mC mX7_heaps [.ref p0, .long p1, .long p2, .long p3] h (o, none) := by
  refine mC_of okX7_heaps (Nat.le_of_ble_eq_true rfl) ?_
  unfold fxX7_heaps at hq
  show mB _ mX7_heaps (0, [(0, .ref p0), (1, .long p1), (3, .long p2), (5, .long p3)], [], h, 0, 0)
  refine mB_run odX7_heaps 2 (g := (3, [(7, .int (0 : Int32)), (0, .ref p0), (1, .long p1), (3, .long p2), (5, .long p3)], [], h, 0, 0)) rfl ?_
  refine mB_lv [1, 2, 3, 4, 0] (lv' := [(0, .ref p0), (1, .long p1), (3, .long p2), (5, .long p3), (7, .int (0 : Int32))]) rfl ?_
  exact exX7_heaps_3 N _ _ _ _ _ _ hq
def fxX7_across (N : Nat) (p0 : Nat) (p1 : Int32) (p2 : Int32) (p3 : Int32) (h : mh) : Option mh :=
  (gR h p0 7 16).bind fun v1 =>
  (aJ h v1 p2).bind fun v3 =>
  (gR h p0 7 16).bind fun v5 =>
  (aJ h v5 p1).bind fun v7 =>
  (gR h p0 7 17).bind fun v9 =>
  (aJ h v9 p2).bind fun v11 =>
  (gR h p0 7 17).bind fun v13 =>
  (aJ h v13 p1).bind fun v15 =>
  (gR h p0 7 18).bind fun v17 =>
  (aJ h v17 p2).bind fun v19 =>
  (gR h p0 7 18).bind fun v21 =>
  (aJ h v21 p1).bind fun v23 =>
  (gR h p0 7 16).bind fun v25 =>
  (aJ h v25 p3).bind fun v27 =>
  (gR h p0 7 16).bind fun v29 =>
  (aJ h v29 p1).bind fun v31 =>
  (gR h p0 7 17).bind fun v33 =>
  (aJ h v33 p3).bind fun v35 =>
  (gR h p0 7 17).bind fun v37 =>
  (aJ h v37 p1).bind fun v39 =>
  (gR h p0 7 18).bind fun v41 =>
  (aJ h v41 p3).bind fun v43 =>
  (gR h p0 7 18).bind fun v45 =>
  (aJ h v45 p1).bind fun v47 =>
  (sV h p0 7 24 (.long (((v11 - v15) * (v43 - v47)) - ((v19 - v23) * (v35 - v39))))).bind fun h49 =>
  (sV h49 p0 7 25 (.long (((v19 - v23) * (v27 - v31)) - ((v3 - v7) * (v43 - v47))))).bind fun h51 =>
  (sV h51 p0 7 26 (.long (((v3 - v7) * (v35 - v39)) - ((v11 - v15) * (v27 - v31))))).bind fun h53 =>
  some h53
set_option maxHeartbeats 4000000 in
set_option maxRecDepth 100000 in
theorem exX7_across {N : Nat} {p0 : Nat} {p1 : Int32} {p2 : Int32} {p3 : Int32} {h : mh} {o : mh} (hq : fxX7_across N p0 p1 p2 p3 h = some o) : mC mX7_across [.ref p0, .int p1, .int p2, .int p3] h (o, none) := by
  refine mC_of okX7_across (Nat.le_of_ble_eq_true rfl) ?_
  unfold fxX7_across at hq
  show mB _ mX7_across (0, [(0, .ref p0), (1, .int p1), (2, .int p2), (3, .int p3)], [], h, 0, 0)
  refine mB_run odX7_across 1 (g := (1, [(0, .ref p0), (1, .int p1), (2, .int p2), (3, .int p3)], [.ref p0], h, 0, 0)) rfl ?_
  obtain ⟨v1, e2, hq⟩ := bsm hq
  refine r_gR odX7_across rfl rfl e2 ?_
  refine mB_run odX7_across 1 (g := (5, [(0, .ref p0), (1, .int p1), (2, .int p2), (3, .int p3)], [.int p2, .ref v1], h, 0, 0)) rfl ?_
  obtain ⟨v3, e4, hq⟩ := bsm hq
  refine r_aJ odX7_across rfl e4 ?_
  refine mB_run odX7_across 1 (g := (7, [(0, .ref p0), (1, .int p1), (2, .int p2), (3, .int p3)], [.ref p0, .long v3], h, 0, 0)) rfl ?_
  obtain ⟨v5, e6, hq⟩ := bsm hq
  refine r_gR odX7_across rfl rfl e6 ?_
  refine mB_run odX7_across 1 (g := (11, [(0, .ref p0), (1, .int p1), (2, .int p2), (3, .int p3)], [.int p1, .ref v5, .long v3], h, 0, 0)) rfl ?_
  obtain ⟨v7, e8, hq⟩ := bsm hq
  refine r_aJ odX7_across rfl e8 ?_
  refine mB_run odX7_across 3 (g := (16, [(4, .long (v3 - v7)), (0, .ref p0), (1, .int p1), (2, .int p2), (3, .int p3)], [.ref p0], h, 0, 0)) rfl ?_
  obtain ⟨v9, e10, hq⟩ := bsm hq
  refine r_gR odX7_across rfl rfl e10 ?_
  refine mB_run odX7_across 1 (g := (20, [(4, .long (v3 - v7)), (0, .ref p0), (1, .int p1), (2, .int p2), (3, .int p3)], [.int p2, .ref v9], h, 0, 0)) rfl ?_
  obtain ⟨v11, e12, hq⟩ := bsm hq
  refine r_aJ odX7_across rfl e12 ?_
  refine mB_run odX7_across 1 (g := (22, [(4, .long (v3 - v7)), (0, .ref p0), (1, .int p1), (2, .int p2), (3, .int p3)], [.ref p0, .long v11], h, 0, 0)) rfl ?_
  obtain ⟨v13, e14, hq⟩ := bsm hq
  refine r_gR odX7_across rfl rfl e14 ?_
  refine mB_run odX7_across 1 (g := (26, [(4, .long (v3 - v7)), (0, .ref p0), (1, .int p1), (2, .int p2), (3, .int p3)], [.int p1, .ref v13, .long v11], h, 0, 0)) rfl ?_
  obtain ⟨v15, e16, hq⟩ := bsm hq
  refine r_aJ odX7_across rfl e16 ?_
  refine mB_run odX7_across 3 (g := (31, [(6, .long (v11 - v15)), (4, .long (v3 - v7)), (0, .ref p0), (1, .int p1), (2, .int p2), (3, .int p3)], [.ref p0], h, 0, 0)) rfl ?_
  obtain ⟨v17, e18, hq⟩ := bsm hq
  refine r_gR odX7_across rfl rfl e18 ?_
  refine mB_run odX7_across 1 (g := (35, [(6, .long (v11 - v15)), (4, .long (v3 - v7)), (0, .ref p0), (1, .int p1), (2, .int p2), (3, .int p3)], [.int p2, .ref v17], h, 0, 0)) rfl ?_
  obtain ⟨v19, e20, hq⟩ := bsm hq
  refine r_aJ odX7_across rfl e20 ?_
  refine mB_run odX7_across 1 (g := (37, [(6, .long (v11 - v15)), (4, .long (v3 - v7)), (0, .ref p0), (1, .int p1), (2, .int p2), (3, .int p3)], [.ref p0, .long v19], h, 0, 0)) rfl ?_
  obtain ⟨v21, e22, hq⟩ := bsm hq
  refine r_gR odX7_across rfl rfl e22 ?_
  refine mB_run odX7_across 1 (g := (41, [(6, .long (v11 - v15)), (4, .long (v3 - v7)), (0, .ref p0), (1, .int p1), (2, .int p2), (3, .int p3)], [.int p1, .ref v21, .long v19], h, 0, 0)) rfl ?_
  obtain ⟨v23, e24, hq⟩ := bsm hq
  refine r_aJ odX7_across rfl e24 ?_
  refine mB_run odX7_across 3 (g := (46, [(8, .long (v19 - v23)), (6, .long (v11 - v15)), (4, .long (v3 - v7)), (0, .ref p0), (1, .int p1), (2, .int p2), (3, .int p3)], [.ref p0], h, 0, 0)) rfl ?_
  obtain ⟨v25, e26, hq⟩ := bsm hq
  refine r_gR odX7_across rfl rfl e26 ?_
  refine mB_run odX7_across 1 (g := (50, [(8, .long (v19 - v23)), (6, .long (v11 - v15)), (4, .long (v3 - v7)), (0, .ref p0), (1, .int p1), (2, .int p2), (3, .int p3)], [.int p3, .ref v25], h, 0, 0)) rfl ?_
  obtain ⟨v27, e28, hq⟩ := bsm hq
  refine r_aJ odX7_across rfl e28 ?_
  refine mB_run odX7_across 1 (g := (52, [(8, .long (v19 - v23)), (6, .long (v11 - v15)), (4, .long (v3 - v7)), (0, .ref p0), (1, .int p1), (2, .int p2), (3, .int p3)], [.ref p0, .long v27], h, 0, 0)) rfl ?_
  obtain ⟨v29, e30, hq⟩ := bsm hq
  refine r_gR odX7_across rfl rfl e30 ?_
  refine mB_run odX7_across 1 (g := (56, [(8, .long (v19 - v23)), (6, .long (v11 - v15)), (4, .long (v3 - v7)), (0, .ref p0), (1, .int p1), (2, .int p2), (3, .int p3)], [.int p1, .ref v29, .long v27], h, 0, 0)) rfl ?_
  obtain ⟨v31, e32, hq⟩ := bsm hq
  refine r_aJ odX7_across rfl e32 ?_
  refine mB_run odX7_across 3 (g := (61, [(10, .long (v27 - v31)), (8, .long (v19 - v23)), (6, .long (v11 - v15)), (4, .long (v3 - v7)), (0, .ref p0), (1, .int p1), (2, .int p2), (3, .int p3)], [.ref p0], h, 0, 0)) rfl ?_
  obtain ⟨v33, e34, hq⟩ := bsm hq
  refine r_gR odX7_across rfl rfl e34 ?_
  refine mB_run odX7_across 1 (g := (65, [(10, .long (v27 - v31)), (8, .long (v19 - v23)), (6, .long (v11 - v15)), (4, .long (v3 - v7)), (0, .ref p0), (1, .int p1), (2, .int p2), (3, .int p3)], [.int p3, .ref v33], h, 0, 0)) rfl ?_
  obtain ⟨v35, e36, hq⟩ := bsm hq
  refine r_aJ odX7_across rfl e36 ?_
  refine mB_run odX7_across 1 (g := (67, [(10, .long (v27 - v31)), (8, .long (v19 - v23)), (6, .long (v11 - v15)), (4, .long (v3 - v7)), (0, .ref p0), (1, .int p1), (2, .int p2), (3, .int p3)], [.ref p0, .long v35], h, 0, 0)) rfl ?_
  obtain ⟨v37, e38, hq⟩ := bsm hq
  refine r_gR odX7_across rfl rfl e38 ?_
  refine mB_run odX7_across 1 (g := (71, [(10, .long (v27 - v31)), (8, .long (v19 - v23)), (6, .long (v11 - v15)), (4, .long (v3 - v7)), (0, .ref p0), (1, .int p1), (2, .int p2), (3, .int p3)], [.int p1, .ref v37, .long v35], h, 0, 0)) rfl ?_
  obtain ⟨v39, e40, hq⟩ := bsm hq
  refine r_aJ odX7_across rfl e40 ?_
  refine mB_run odX7_across 3 (g := (76, [(12, .long (v35 - v39)), (10, .long (v27 - v31)), (8, .long (v19 - v23)), (6, .long (v11 - v15)), (4, .long (v3 - v7)), (0, .ref p0), (1, .int p1), (2, .int p2), (3, .int p3)], [.ref p0], h, 0, 0)) rfl ?_
  obtain ⟨v41, e42, hq⟩ := bsm hq
  refine r_gR odX7_across rfl rfl e42 ?_
  refine mB_run odX7_across 1 (g := (80, [(12, .long (v35 - v39)), (10, .long (v27 - v31)), (8, .long (v19 - v23)), (6, .long (v11 - v15)), (4, .long (v3 - v7)), (0, .ref p0), (1, .int p1), (2, .int p2), (3, .int p3)], [.int p3, .ref v41], h, 0, 0)) rfl ?_
  obtain ⟨v43, e44, hq⟩ := bsm hq
  refine r_aJ odX7_across rfl e44 ?_
  refine mB_run odX7_across 1 (g := (82, [(12, .long (v35 - v39)), (10, .long (v27 - v31)), (8, .long (v19 - v23)), (6, .long (v11 - v15)), (4, .long (v3 - v7)), (0, .ref p0), (1, .int p1), (2, .int p2), (3, .int p3)], [.ref p0, .long v43], h, 0, 0)) rfl ?_
  obtain ⟨v45, e46, hq⟩ := bsm hq
  refine r_gR odX7_across rfl rfl e46 ?_
  refine mB_run odX7_across 1 (g := (86, [(12, .long (v35 - v39)), (10, .long (v27 - v31)), (8, .long (v19 - v23)), (6, .long (v11 - v15)), (4, .long (v3 - v7)), (0, .ref p0), (1, .int p1), (2, .int p2), (3, .int p3)], [.int p1, .ref v45, .long v43], h, 0, 0)) rfl ?_
  obtain ⟨v47, e48, hq⟩ := bsm hq
  refine r_aJ odX7_across rfl e48 ?_
  refine mB_run odX7_across 10 (g := (102, [(14, .long (v43 - v47)), (12, .long (v35 - v39)), (10, .long (v27 - v31)), (8, .long (v19 - v23)), (6, .long (v11 - v15)), (4, .long (v3 - v7)), (0, .ref p0), (1, .int p1), (2, .int p2), (3, .int p3)], [.long (((v11 - v15) * (v43 - v47)) - ((v19 - v23) * (v35 - v39))), .ref p0], h, 0, 0)) rfl ?_
  obtain ⟨h49, e50, hq⟩ := bsm hq
  refine r_sV odX7_across rfl rfl rfl rfl e50 ?_
  refine mB_run odX7_across 8 (g := (117, [(14, .long (v43 - v47)), (12, .long (v35 - v39)), (10, .long (v27 - v31)), (8, .long (v19 - v23)), (6, .long (v11 - v15)), (4, .long (v3 - v7)), (0, .ref p0), (1, .int p1), (2, .int p2), (3, .int p3)], [.long (((v19 - v23) * (v27 - v31)) - ((v3 - v7) * (v43 - v47))), .ref p0], h49, 0, 0)) rfl ?_
  obtain ⟨h51, e52, hq⟩ := bsm hq
  refine r_sV odX7_across rfl rfl rfl rfl e52 ?_
  refine mB_run odX7_across 8 (g := (132, [(14, .long (v43 - v47)), (12, .long (v35 - v39)), (10, .long (v27 - v31)), (8, .long (v19 - v23)), (6, .long (v11 - v15)), (4, .long (v3 - v7)), (0, .ref p0), (1, .int p1), (2, .int p2), (3, .int p3)], [.long (((v3 - v7) * (v35 - v39)) - ((v11 - v15) * (v27 - v31))), .ref p0], h51, 0, 0)) rfl ?_
  obtain ⟨h53, e54, hq⟩ := bsm hq
  refine r_sV odX7_across rfl rfl rfl rfl e54 ?_
  cases hq
  exact mB_ret odX7_across rfl
def fxX7_common_28 (N : Nat) : Nat → Int64 → Int64 → mh → Option (mh × Int64)
  | 0, _, _, _ => none
  | n + 1, x4, x6, h =>
    if x6 = (0 : Int64) then (
      some (h, x4)) else (
      if x6 = 0 then none else
      fxX7_common_28 N n x6 (x4 - x4 / x6 * x6) h)
set_option maxHeartbeats 4000000 in
set_option maxRecDepth 100000 in
theorem exX7_common_28 {N : Nat} : ∀ (n : Nat) (x4 : Int64) (x6 : Int64) (h : mh) {o : (mh × Int64)}, fxX7_common_28 N n x4 x6 h = some o → mB (gO mX7_common (o.1, some (.long o.2))) mX7_common (28, [(4, .long x4), (6, .long x6)], [], h, 0, 0) := by
  intro n
  induction n with
  | zero => intro x4 x6 h o hq; cases hq
  | succ n ih =>
    intro x4 x6 h o hq
    unfold fxX7_common_28 at hq
    refine mB_run odX7_common 2 (g := (31, [(4, .long x4), (6, .long x6)], [.long (0 : Int64), .long x6], h, 0, 0)) rfl ?_
    by_cases c3 : x6 = (0 : Int64)
    · rw [if_pos c3] at hq
      refine lc_eq_T (t := 53) odX7_common rfl rfl rfl c3 ?_
      refine mB_run odX7_common 1 (g := (55, [(4, .long x4), (6, .long x6)], [.long x4], h, 0, 0)) rfl ?_
      cases hq
      exact mB_ret odX7_common rfl
    · rw [if_neg c3] at hq
      refine lc_eq_F (t := 53) odX7_common rfl rfl rfl c3 ?_
      refine mB_run odX7_common 2 (g := (39, [(4, .long x4), (6, .long x6)], [.long x6, .long x4], h, 0, 0)) rfl ?_
      by_cases c4 : x6 = 0
      · rw [if_pos c4] at hq; cases hq
      rw [if_neg c4] at hq
      refine r_lrem odX7_common rfl c4 ?_
      refine mB_run odX7_common 6 (g := (28, [(6, .long (x4 - x4 / x6 * x6)), (4, .long x6), (8, .long (x4 - x4 / x6 * x6))], [], h, 0, 0)) rfl ?_
      refine mB_lv [1, 0] (lv' := [(4, .long x6), (6, .long (x4 - x4 / x6 * x6))]) rfl ?_
      exact ih _ _ _ hq
def fxX7_common_26 (N : Nat) (x4 : Int64) (s0 : Int64) (h : mh) : Option (mh × Int64) :=
  fxX7_common_28 N N x4 s0 h
set_option maxHeartbeats 4000000 in
set_option maxRecDepth 100000 in
theorem exX7_common_26 {N : Nat} (x4 : Int64) (s0 : Int64) (h : mh) {o : (mh × Int64)} (hq : fxX7_common_26 N x4 s0 h = some o) : mB (gO mX7_common (o.1, some (.long o.2))) mX7_common (26, [(4, .long x4)], [.long s0], h, 0, 0) := by
  unfold fxX7_common_26 at hq
  refine mB_run odX7_common 1 (g := (28, [(6, .long s0), (4, .long x4)], [], h, 0, 0)) rfl ?_
  refine mB_lv [1, 0] (lv' := [(4, .long x4), (6, .long s0)]) rfl ?_
  exact exX7_common_28 N _ _ _ hq
def fxX7_common_12 (N : Nat) (x2 : Int64) (s0 : Int64) (h : mh) : Option (mh × Int64) :=
  if (0 : Int64) ≤ x2 then (
    fxX7_common_26 N s0 x2 h) else (
    fxX7_common_26 N s0 (-x2) h)
set_option maxHeartbeats 4000000 in
set_option maxRecDepth 100000 in
theorem exX7_common_12 {N : Nat} (x2 : Int64) (s0 : Int64) (h : mh) {o : (mh × Int64)} (hq : fxX7_common_12 N x2 s0 h = some o) : mB (gO mX7_common (o.1, some (.long o.2))) mX7_common (12, [(2, .long x2)], [.long s0], h, 0, 0) := by
  unfold fxX7_common_12 at hq
  refine mB_run odX7_common 3 (g := (16, [(4, .long s0), (2, .long x2)], [.long (0 : Int64), .long x2], h, 0, 0)) rfl ?_
  by_cases c2 : (0 : Int64) ≤ x2
  · rw [if_pos c2] at hq
    refine lc_ge_T (t := 25) odX7_common rfl rfl rfl c2 ?_
    refine mB_run odX7_common 1 (g := (26, [(4, .long s0), (2, .long x2)], [.long x2], h, 0, 0)) rfl ?_
    refine mB_lv [0] (lv' := [(4, .long s0)]) rfl ?_
    exact exX7_common_26 _ _ _ hq
  · rw [if_neg c2] at hq
    refine lc_ge_F (t := 25) odX7_common rfl rfl rfl c2 ?_
    refine mB_run odX7_common 3 (g := (26, [(4, .long s0), (2, .long x2)], [.long (-x2)], h, 0, 0)) rfl ?_
    refine mB_lv [0] (lv' := [(4, .long s0)]) rfl ?_
    exact exX7_common_26 _ _ _ hq
def fxX7_common (N : Nat) (p0 : Int64) (p1 : Int64) (h : mh) : Option (mh × Int64) :=
  if (0 : Int64) ≤ p0 then (
    fxX7_common_12 N p1 p0 h) else (
    fxX7_common_12 N p1 (-p0) h)
set_option maxHeartbeats 4000000 in
set_option maxRecDepth 100000 in
theorem exX7_common {N : Nat} {p0 : Int64} {p1 : Int64} {h : mh} {o : (mh × Int64)} (hq : fxX7_common N p0 p1 h = some o) : mC mX7_common [.long p0, .long p1] h (o.1, some (.long o.2)) := by
  refine mC_of okX7_common (Nat.le_of_ble_eq_true rfl) ?_
  unfold fxX7_common at hq
  show mB _ mX7_common (0, [(0, .long p0), (2, .long p1)], [], h, 0, 0)
  refine mB_run odX7_common 2 (g := (2, [(0, .long p0), (2, .long p1)], [.long (0 : Int64), .long p0], h, 0, 0)) rfl ?_
  by_cases c1 : (0 : Int64) ≤ p0
  · rw [if_pos c1] at hq
    refine lc_ge_T (t := 11) odX7_common rfl rfl rfl c1 ?_
    refine mB_run odX7_common 1 (g := (12, [(0, .long p0), (2, .long p1)], [.long p0], h, 0, 0)) rfl ?_
    refine mB_lv [1] (lv' := [(2, .long p1)]) rfl ?_
    exact exX7_common_12 _ _ _ hq
  · rw [if_neg c1] at hq
    refine lc_ge_F (t := 11) odX7_common rfl rfl rfl c1 ?_
    refine mB_run odX7_common 3 (g := (12, [(0, .long p0), (2, .long p1)], [.long (-p0)], h, 0, 0)) rfl ?_
    refine mB_lv [1] (lv' := [(2, .long p1)]) rfl ?_
    exact exX7_common_12 _ _ _ hq
def fxX7_isFlat (N : Nat) (p0 : Nat) (h : mh) : Option (mh × Int32) :=
  (gJ h p0 7 24).bind fun v1 =>
  if v1 = (0 : Int64) then (
    (gJ h p0 7 25).bind fun v4 =>
    if v4 = (0 : Int64) then (
      (gJ h p0 7 26).bind fun v7 =>
      if v7 = (0 : Int64) then (
        some (h, (1 : Int32))) else (
        some (h, (0 : Int32)))) else (
      some (h, (0 : Int32)))) else (
    some (h, (0 : Int32)))
set_option maxHeartbeats 4000000 in
set_option maxRecDepth 100000 in
theorem exX7_isFlat {N : Nat} {p0 : Nat} {h : mh} {o : (mh × Int32)} (hq : fxX7_isFlat N p0 h = some o) : mC mX7_isFlat [.ref p0] h (o.1, some (.int o.2)) := by
  refine mC_of okX7_isFlat (Nat.le_of_ble_eq_true rfl) ?_
  unfold fxX7_isFlat at hq
  show mB _ mX7_isFlat (0, [(0, .ref p0)], [], h, 0, 0)
  refine mB_run odX7_isFlat 1 (g := (1, [(0, .ref p0)], [.ref p0], h, 0, 0)) rfl ?_
  obtain ⟨v1, e2, hq⟩ := bsm hq
  refine r_gJ odX7_isFlat rfl rfl e2 ?_
  refine mB_run odX7_isFlat 1 (g := (5, [(0, .ref p0)], [.long (0 : Int64), .long v1], h, 0, 0)) rfl ?_
  by_cases c3 : v1 = (0 : Int64)
  · rw [if_pos c3] at hq
    refine lc_ne_F (t := 31) odX7_isFlat rfl rfl rfl c3 ?_
    refine mB_run odX7_isFlat 1 (g := (10, [(0, .ref p0)], [.ref p0], h, 0, 0)) rfl ?_
    obtain ⟨v4, e5, hq⟩ := bsm hq
    refine r_gJ odX7_isFlat rfl rfl e5 ?_
    refine mB_run odX7_isFlat 1 (g := (14, [(0, .ref p0)], [.long (0 : Int64), .long v4], h, 0, 0)) rfl ?_
    by_cases c6 : v4 = (0 : Int64)
    · rw [if_pos c6] at hq
      refine lc_ne_F (t := 31) odX7_isFlat rfl rfl rfl c6 ?_
      refine mB_run odX7_isFlat 1 (g := (19, [(0, .ref p0)], [.ref p0], h, 0, 0)) rfl ?_
      obtain ⟨v7, e8, hq⟩ := bsm hq
      refine r_gJ odX7_isFlat rfl rfl e8 ?_
      refine mB_run odX7_isFlat 1 (g := (23, [(0, .ref p0)], [.long (0 : Int64), .long v7], h, 0, 0)) rfl ?_
      by_cases c9 : v7 = (0 : Int64)
      · rw [if_pos c9] at hq
        refine lc_ne_F (t := 31) odX7_isFlat rfl rfl rfl c9 ?_
        refine mB_run odX7_isFlat 2 (g := (32, [(0, .ref p0)], [.int (1 : Int32)], h, 0, 0)) rfl ?_
        cases hq
        exact mB_ret odX7_isFlat rfl
      · rw [if_neg c9] at hq
        refine lc_ne_T (t := 31) odX7_isFlat rfl rfl rfl c9 ?_
        refine mB_run odX7_isFlat 1 (g := (32, [(0, .ref p0)], [.int (0 : Int32)], h, 0, 0)) rfl ?_
        cases hq
        exact mB_ret odX7_isFlat rfl
    · rw [if_neg c6] at hq
      refine lc_ne_T (t := 31) odX7_isFlat rfl rfl rfl c6 ?_
      refine mB_run odX7_isFlat 1 (g := (32, [(0, .ref p0)], [.int (0 : Int32)], h, 0, 0)) rfl ?_
      cases hq
      exact mB_ret odX7_isFlat rfl
  · rw [if_neg c3] at hq
    refine lc_ne_T (t := 31) odX7_isFlat rfl rfl rfl c3 ?_
    refine mB_run odX7_isFlat 1 (g := (32, [(0, .ref p0)], [.int (0 : Int32)], h, 0, 0)) rfl ?_
    cases hq
    exact mB_ret odX7_isFlat rfl
def fxX7_plain (N : Nat) (p0 : Nat) (h : mh) : Option mh :=
  (gJ h p0 7 24).bind fun v1 =>
  (gJ h p0 7 25).bind fun v3 =>
  (fxX7_common N v1 v3 h).bind fun o5 =>
  (gJ o5.1 p0 7 26).bind fun v7 =>
  (fxX7_common N o5.2 v7 o5.1).bind fun o9 =>
  (gJ o9.1 p0 7 24).bind fun v11 =>
  if o9.2 = 0 then none else
  (sV o9.1 p0 7 24 (.long (v11 / o9.2))).bind fun h14 =>
  (gJ h14 p0 7 25).bind fun v16 =>
  if o9.2 = 0 then none else
  (sV h14 p0 7 25 (.long (v16 / o9.2))).bind fun h19 =>
  (gJ h19 p0 7 26).bind fun v21 =>
  if o9.2 = 0 then none else
  (sV h19 p0 7 26 (.long (v21 / o9.2))).bind fun h24 =>
  some h24
set_option maxHeartbeats 4000000 in
set_option maxRecDepth 100000 in
theorem exX7_plain {N : Nat} {p0 : Nat} {h : mh} {o : mh} (hq : fxX7_plain N p0 h = some o) : mC mX7_plain [.ref p0] h (o, none) := by
  refine mC_of okX7_plain (Nat.le_of_ble_eq_true rfl) ?_
  unfold fxX7_plain at hq
  show mB _ mX7_plain (0, [(0, .ref p0)], [], h, 0, 0)
  refine mB_run odX7_plain 1 (g := (1, [(0, .ref p0)], [.ref p0], h, 0, 0)) rfl ?_
  obtain ⟨v1, e2, hq⟩ := bsm hq
  refine r_gJ odX7_plain rfl rfl e2 ?_
  refine mB_run odX7_plain 1 (g := (5, [(0, .ref p0)], [.ref p0, .long v1], h, 0, 0)) rfl ?_
  obtain ⟨v3, e4, hq⟩ := bsm hq
  refine r_gJ odX7_plain rfl rfl e4 ?_
  obtain ⟨o5, e6, hq⟩ := bsm hq
  refine mB_S (as := [.long v1, .long v3]) odX7_plain okX7_common lk_7_158 rfl (exX7_common e6) rfl rfl rfl ?_
  show mB _ mX7_plain (11, [(0, .ref p0)], [.long o5.2], o5.1, 0, 0)
  refine mB_run odX7_plain 1 (g := (12, [(0, .ref p0)], [.ref p0, .long o5.2], o5.1, 0, 0)) rfl ?_
  obtain ⟨v7, e8, hq⟩ := bsm hq
  refine r_gJ odX7_plain rfl rfl e8 ?_
  obtain ⟨o9, e10, hq⟩ := bsm hq
  refine mB_S (as := [.long o5.2, .long v7]) odX7_plain okX7_common lk_7_158 rfl (exX7_common e10) rfl rfl rfl ?_
  show mB _ mX7_plain (18, [(0, .ref p0)], [.long o9.2], o9.1, 0, 0)
  refine mB_run odX7_plain 3 (g := (21, [(1, .long o9.2), (0, .ref p0)], [.ref p0, .ref p0], o9.1, 0, 0)) rfl ?_
  obtain ⟨v11, e12, hq⟩ := bsm hq
  refine r_gJ odX7_plain rfl rfl e12 ?_
  refine mB_run odX7_plain 1 (g := (25, [(1, .long o9.2), (0, .ref p0)], [.long o9.2, .long v11, .ref p0], o9.1, 0, 0)) rfl ?_
  by_cases c13 : o9.2 = 0
  · rw [if_pos c13] at hq; cases hq
  rw [if_neg c13] at hq
  refine r_ldiv odX7_plain rfl c13 ?_
  obtain ⟨h14, e15, hq⟩ := bsm hq
  refine r_sV odX7_plain rfl rfl rfl rfl e15 ?_
  refine mB_run odX7_plain 2 (g := (31, [(1, .long o9.2), (0, .ref p0)], [.ref p0, .ref p0], h14, 0, 0)) rfl ?_
  obtain ⟨v16, e17, hq⟩ := bsm hq
  refine r_gJ odX7_plain rfl rfl e17 ?_
  refine mB_run odX7_plain 1 (g := (35, [(1, .long o9.2), (0, .ref p0)], [.long o9.2, .long v16, .ref p0], h14, 0, 0)) rfl ?_
  by_cases c18 : o9.2 = 0
  · rw [if_pos c18] at hq; cases hq
  rw [if_neg c18] at hq
  refine r_ldiv odX7_plain rfl c18 ?_
  obtain ⟨h19, e20, hq⟩ := bsm hq
  refine r_sV odX7_plain rfl rfl rfl rfl e20 ?_
  refine mB_run odX7_plain 2 (g := (41, [(1, .long o9.2), (0, .ref p0)], [.ref p0, .ref p0], h19, 0, 0)) rfl ?_
  obtain ⟨v21, e22, hq⟩ := bsm hq
  refine r_gJ odX7_plain rfl rfl e22 ?_
  refine mB_run odX7_plain 1 (g := (45, [(1, .long o9.2), (0, .ref p0)], [.long o9.2, .long v21, .ref p0], h19, 0, 0)) rfl ?_
  by_cases c23 : o9.2 = 0
  · rw [if_pos c23] at hq; cases hq
  rw [if_neg c23] at hq
  refine r_ldiv odX7_plain rfl c23 ?_
  obtain ⟨h24, e25, hq⟩ := bsm hq
  refine r_sV odX7_plain rfl rfl rfl rfl e25 ?_
  cases hq
  exact mB_ret odX7_plain rfl
def fxX7_height (N : Nat) (p0 : Nat) (p1 : Int32) (h : mh) : Option (mh × Int64) :=
  (gJ h p0 7 24).bind fun v1 =>
  (gR h p0 7 16).bind fun v3 =>
  (aJ h v3 p1).bind fun v5 =>
  (gJ h p0 7 25).bind fun v7 =>
  (gR h p0 7 17).bind fun v9 =>
  (aJ h v9 p1).bind fun v11 =>
  (gJ h p0 7 26).bind fun v13 =>
  (gR h p0 7 18).bind fun v15 =>
  (aJ h v15 p1).bind fun v17 =>
  some (h, (((v1 * v5) + (v7 * v11)) + (v13 * v17)))
set_option maxHeartbeats 4000000 in
set_option maxRecDepth 100000 in
theorem exX7_height {N : Nat} {p0 : Nat} {p1 : Int32} {h : mh} {o : (mh × Int64)} (hq : fxX7_height N p0 p1 h = some o) : mC mX7_height [.ref p0, .int p1] h (o.1, some (.long o.2)) := by
  refine mC_of okX7_height (Nat.le_of_ble_eq_true rfl) ?_
  unfold fxX7_height at hq
  show mB _ mX7_height (0, [(0, .ref p0), (1, .int p1)], [], h, 0, 0)
  refine mB_run odX7_height 1 (g := (1, [(0, .ref p0), (1, .int p1)], [.ref p0], h, 0, 0)) rfl ?_
  obtain ⟨v1, e2, hq⟩ := bsm hq
  refine r_gJ odX7_height rfl rfl e2 ?_
  refine mB_run odX7_height 1 (g := (5, [(0, .ref p0), (1, .int p1)], [.ref p0, .long v1], h, 0, 0)) rfl ?_
  obtain ⟨v3, e4, hq⟩ := bsm hq
  refine r_gR odX7_height rfl rfl e4 ?_
  refine mB_run odX7_height 1 (g := (9, [(0, .ref p0), (1, .int p1)], [.int p1, .ref v3, .long v1], h, 0, 0)) rfl ?_
  obtain ⟨v5, e6, hq⟩ := bsm hq
  refine r_aJ odX7_height rfl e6 ?_
  refine mB_run odX7_height 2 (g := (12, [(0, .ref p0), (1, .int p1)], [.ref p0, .long (v1 * v5)], h, 0, 0)) rfl ?_
  obtain ⟨v7, e8, hq⟩ := bsm hq
  refine r_gJ odX7_height rfl rfl e8 ?_
  refine mB_run odX7_height 1 (g := (16, [(0, .ref p0), (1, .int p1)], [.ref p0, .long v7, .long (v1 * v5)], h, 0, 0)) rfl ?_
  obtain ⟨v9, e10, hq⟩ := bsm hq
  refine r_gR odX7_height rfl rfl e10 ?_
  refine mB_run odX7_height 1 (g := (20, [(0, .ref p0), (1, .int p1)], [.int p1, .ref v9, .long v7, .long (v1 * v5)], h, 0, 0)) rfl ?_
  obtain ⟨v11, e12, hq⟩ := bsm hq
  refine r_aJ odX7_height rfl e12 ?_
  refine mB_run odX7_height 3 (g := (24, [(0, .ref p0), (1, .int p1)], [.ref p0, .long ((v1 * v5) + (v7 * v11))], h, 0, 0)) rfl ?_
  obtain ⟨v13, e14, hq⟩ := bsm hq
  refine r_gJ odX7_height rfl rfl e14 ?_
  refine mB_run odX7_height 1 (g := (28, [(0, .ref p0), (1, .int p1)], [.ref p0, .long v13, .long ((v1 * v5) + (v7 * v11))], h, 0, 0)) rfl ?_
  obtain ⟨v15, e16, hq⟩ := bsm hq
  refine r_gR odX7_height rfl rfl e16 ?_
  refine mB_run odX7_height 1 (g := (32, [(0, .ref p0), (1, .int p1)], [.int p1, .ref v15, .long v13, .long ((v1 * v5) + (v7 * v11))], h, 0, 0)) rfl ?_
  obtain ⟨v17, e18, hq⟩ := bsm hq
  refine r_aJ odX7_height rfl e18 ?_
  refine mB_run odX7_height 2 (g := (35, [(0, .ref p0), (1, .int p1)], [.long (((v1 * v5) + (v7 * v11)) + (v13 * v17))], h, 0, 0)) rfl ?_
  cases hq
  exact mB_ret odX7_height rfl
def fxX7_leftOf (N : Nat) (p0 : Nat) (p1 : Int32) (p2 : Int32) (p3 : Int32) (h : mh) : Option (mh × Int64) :=
  (gR h p0 7 16).bind fun v1 =>
  (aJ h v1 p2).bind fun v3 =>
  (gR h p0 7 16).bind fun v5 =>
  (aJ h v5 p1).bind fun v7 =>
  (gR h p0 7 17).bind fun v9 =>
  (aJ h v9 p2).bind fun v11 =>
  (gR h p0 7 17).bind fun v13 =>
  (aJ h v13 p1).bind fun v15 =>
  (gR h p0 7 18).bind fun v17 =>
  (aJ h v17 p2).bind fun v19 =>
  (gR h p0 7 18).bind fun v21 =>
  (aJ h v21 p1).bind fun v23 =>
  (gR h p0 7 16).bind fun v25 =>
  (aJ h v25 p3).bind fun v27 =>
  (gR h p0 7 16).bind fun v29 =>
  (aJ h v29 p1).bind fun v31 =>
  (gR h p0 7 17).bind fun v33 =>
  (aJ h v33 p3).bind fun v35 =>
  (gR h p0 7 17).bind fun v37 =>
  (aJ h v37 p1).bind fun v39 =>
  (gR h p0 7 18).bind fun v41 =>
  (aJ h v41 p3).bind fun v43 =>
  (gR h p0 7 18).bind fun v45 =>
  (aJ h v45 p1).bind fun v47 =>
  (gJ h p0 7 24).bind fun v49 =>
  (gJ h p0 7 25).bind fun v51 =>
  (gJ h p0 7 26).bind fun v53 =>
  some (h, ((((((v11 - v15) * (v43 - v47)) - ((v19 - v23) * (v35 - v39))) * v49) + ((((v19 - v23) * (v27 - v31)) - ((v3 - v7) * (v43 - v47))) * v51)) + ((((v3 - v7) * (v35 - v39)) - ((v11 - v15) * (v27 - v31))) * v53)))
set_option maxHeartbeats 4000000 in
set_option maxRecDepth 100000 in
theorem exX7_leftOf {N : Nat} {p0 : Nat} {p1 : Int32} {p2 : Int32} {p3 : Int32} {h : mh} {o : (mh × Int64)} (hq : fxX7_leftOf N p0 p1 p2 p3 h = some o) : mC mX7_leftOf [.ref p0, .int p1, .int p2, .int p3] h (o.1, some (.long o.2)) := by
  refine mC_of okX7_leftOf (Nat.le_of_ble_eq_true rfl) ?_
  unfold fxX7_leftOf at hq
  show mB _ mX7_leftOf (0, [(0, .ref p0), (1, .int p1), (2, .int p2), (3, .int p3)], [], h, 0, 0)
  refine mB_run odX7_leftOf 1 (g := (1, [(0, .ref p0), (1, .int p1), (2, .int p2), (3, .int p3)], [.ref p0], h, 0, 0)) rfl ?_
  obtain ⟨v1, e2, hq⟩ := bsm hq
  refine r_gR odX7_leftOf rfl rfl e2 ?_
  refine mB_run odX7_leftOf 1 (g := (5, [(0, .ref p0), (1, .int p1), (2, .int p2), (3, .int p3)], [.int p2, .ref v1], h, 0, 0)) rfl ?_
  obtain ⟨v3, e4, hq⟩ := bsm hq
  refine r_aJ odX7_leftOf rfl e4 ?_
  refine mB_run odX7_leftOf 1 (g := (7, [(0, .ref p0), (1, .int p1), (2, .int p2), (3, .int p3)], [.ref p0, .long v3], h, 0, 0)) rfl ?_
  obtain ⟨v5, e6, hq⟩ := bsm hq
  refine r_gR odX7_leftOf rfl rfl e6 ?_
  refine mB_run odX7_leftOf 1 (g := (11, [(0, .ref p0), (1, .int p1), (2, .int p2), (3, .int p3)], [.int p1, .ref v5, .long v3], h, 0, 0)) rfl ?_
  obtain ⟨v7, e8, hq⟩ := bsm hq
  refine r_aJ odX7_leftOf rfl e8 ?_
  refine mB_run odX7_leftOf 3 (g := (16, [(4, .long (v3 - v7)), (0, .ref p0), (1, .int p1), (2, .int p2), (3, .int p3)], [.ref p0], h, 0, 0)) rfl ?_
  obtain ⟨v9, e10, hq⟩ := bsm hq
  refine r_gR odX7_leftOf rfl rfl e10 ?_
  refine mB_run odX7_leftOf 1 (g := (20, [(4, .long (v3 - v7)), (0, .ref p0), (1, .int p1), (2, .int p2), (3, .int p3)], [.int p2, .ref v9], h, 0, 0)) rfl ?_
  obtain ⟨v11, e12, hq⟩ := bsm hq
  refine r_aJ odX7_leftOf rfl e12 ?_
  refine mB_run odX7_leftOf 1 (g := (22, [(4, .long (v3 - v7)), (0, .ref p0), (1, .int p1), (2, .int p2), (3, .int p3)], [.ref p0, .long v11], h, 0, 0)) rfl ?_
  obtain ⟨v13, e14, hq⟩ := bsm hq
  refine r_gR odX7_leftOf rfl rfl e14 ?_
  refine mB_run odX7_leftOf 1 (g := (26, [(4, .long (v3 - v7)), (0, .ref p0), (1, .int p1), (2, .int p2), (3, .int p3)], [.int p1, .ref v13, .long v11], h, 0, 0)) rfl ?_
  obtain ⟨v15, e16, hq⟩ := bsm hq
  refine r_aJ odX7_leftOf rfl e16 ?_
  refine mB_run odX7_leftOf 3 (g := (31, [(6, .long (v11 - v15)), (4, .long (v3 - v7)), (0, .ref p0), (1, .int p1), (2, .int p2), (3, .int p3)], [.ref p0], h, 0, 0)) rfl ?_
  obtain ⟨v17, e18, hq⟩ := bsm hq
  refine r_gR odX7_leftOf rfl rfl e18 ?_
  refine mB_run odX7_leftOf 1 (g := (35, [(6, .long (v11 - v15)), (4, .long (v3 - v7)), (0, .ref p0), (1, .int p1), (2, .int p2), (3, .int p3)], [.int p2, .ref v17], h, 0, 0)) rfl ?_
  obtain ⟨v19, e20, hq⟩ := bsm hq
  refine r_aJ odX7_leftOf rfl e20 ?_
  refine mB_run odX7_leftOf 1 (g := (37, [(6, .long (v11 - v15)), (4, .long (v3 - v7)), (0, .ref p0), (1, .int p1), (2, .int p2), (3, .int p3)], [.ref p0, .long v19], h, 0, 0)) rfl ?_
  obtain ⟨v21, e22, hq⟩ := bsm hq
  refine r_gR odX7_leftOf rfl rfl e22 ?_
  refine mB_run odX7_leftOf 1 (g := (41, [(6, .long (v11 - v15)), (4, .long (v3 - v7)), (0, .ref p0), (1, .int p1), (2, .int p2), (3, .int p3)], [.int p1, .ref v21, .long v19], h, 0, 0)) rfl ?_
  obtain ⟨v23, e24, hq⟩ := bsm hq
  refine r_aJ odX7_leftOf rfl e24 ?_
  refine mB_run odX7_leftOf 3 (g := (46, [(8, .long (v19 - v23)), (6, .long (v11 - v15)), (4, .long (v3 - v7)), (0, .ref p0), (1, .int p1), (2, .int p2), (3, .int p3)], [.ref p0], h, 0, 0)) rfl ?_
  obtain ⟨v25, e26, hq⟩ := bsm hq
  refine r_gR odX7_leftOf rfl rfl e26 ?_
  refine mB_run odX7_leftOf 1 (g := (50, [(8, .long (v19 - v23)), (6, .long (v11 - v15)), (4, .long (v3 - v7)), (0, .ref p0), (1, .int p1), (2, .int p2), (3, .int p3)], [.int p3, .ref v25], h, 0, 0)) rfl ?_
  obtain ⟨v27, e28, hq⟩ := bsm hq
  refine r_aJ odX7_leftOf rfl e28 ?_
  refine mB_run odX7_leftOf 1 (g := (52, [(8, .long (v19 - v23)), (6, .long (v11 - v15)), (4, .long (v3 - v7)), (0, .ref p0), (1, .int p1), (2, .int p2), (3, .int p3)], [.ref p0, .long v27], h, 0, 0)) rfl ?_
  obtain ⟨v29, e30, hq⟩ := bsm hq
  refine r_gR odX7_leftOf rfl rfl e30 ?_
  refine mB_run odX7_leftOf 1 (g := (56, [(8, .long (v19 - v23)), (6, .long (v11 - v15)), (4, .long (v3 - v7)), (0, .ref p0), (1, .int p1), (2, .int p2), (3, .int p3)], [.int p1, .ref v29, .long v27], h, 0, 0)) rfl ?_
  obtain ⟨v31, e32, hq⟩ := bsm hq
  refine r_aJ odX7_leftOf rfl e32 ?_
  refine mB_run odX7_leftOf 3 (g := (61, [(10, .long (v27 - v31)), (8, .long (v19 - v23)), (6, .long (v11 - v15)), (4, .long (v3 - v7)), (0, .ref p0), (1, .int p1), (2, .int p2), (3, .int p3)], [.ref p0], h, 0, 0)) rfl ?_
  obtain ⟨v33, e34, hq⟩ := bsm hq
  refine r_gR odX7_leftOf rfl rfl e34 ?_
  refine mB_run odX7_leftOf 1 (g := (65, [(10, .long (v27 - v31)), (8, .long (v19 - v23)), (6, .long (v11 - v15)), (4, .long (v3 - v7)), (0, .ref p0), (1, .int p1), (2, .int p2), (3, .int p3)], [.int p3, .ref v33], h, 0, 0)) rfl ?_
  obtain ⟨v35, e36, hq⟩ := bsm hq
  refine r_aJ odX7_leftOf rfl e36 ?_
  refine mB_run odX7_leftOf 1 (g := (67, [(10, .long (v27 - v31)), (8, .long (v19 - v23)), (6, .long (v11 - v15)), (4, .long (v3 - v7)), (0, .ref p0), (1, .int p1), (2, .int p2), (3, .int p3)], [.ref p0, .long v35], h, 0, 0)) rfl ?_
  obtain ⟨v37, e38, hq⟩ := bsm hq
  refine r_gR odX7_leftOf rfl rfl e38 ?_
  refine mB_run odX7_leftOf 1 (g := (71, [(10, .long (v27 - v31)), (8, .long (v19 - v23)), (6, .long (v11 - v15)), (4, .long (v3 - v7)), (0, .ref p0), (1, .int p1), (2, .int p2), (3, .int p3)], [.int p1, .ref v37, .long v35], h, 0, 0)) rfl ?_
  obtain ⟨v39, e40, hq⟩ := bsm hq
  refine r_aJ odX7_leftOf rfl e40 ?_
  refine mB_run odX7_leftOf 3 (g := (76, [(12, .long (v35 - v39)), (10, .long (v27 - v31)), (8, .long (v19 - v23)), (6, .long (v11 - v15)), (4, .long (v3 - v7)), (0, .ref p0), (1, .int p1), (2, .int p2), (3, .int p3)], [.ref p0], h, 0, 0)) rfl ?_
  obtain ⟨v41, e42, hq⟩ := bsm hq
  refine r_gR odX7_leftOf rfl rfl e42 ?_
  refine mB_run odX7_leftOf 1 (g := (80, [(12, .long (v35 - v39)), (10, .long (v27 - v31)), (8, .long (v19 - v23)), (6, .long (v11 - v15)), (4, .long (v3 - v7)), (0, .ref p0), (1, .int p1), (2, .int p2), (3, .int p3)], [.int p3, .ref v41], h, 0, 0)) rfl ?_
  obtain ⟨v43, e44, hq⟩ := bsm hq
  refine r_aJ odX7_leftOf rfl e44 ?_
  refine mB_run odX7_leftOf 1 (g := (82, [(12, .long (v35 - v39)), (10, .long (v27 - v31)), (8, .long (v19 - v23)), (6, .long (v11 - v15)), (4, .long (v3 - v7)), (0, .ref p0), (1, .int p1), (2, .int p2), (3, .int p3)], [.ref p0, .long v43], h, 0, 0)) rfl ?_
  obtain ⟨v45, e46, hq⟩ := bsm hq
  refine r_gR odX7_leftOf rfl rfl e46 ?_
  refine mB_run odX7_leftOf 1 (g := (86, [(12, .long (v35 - v39)), (10, .long (v27 - v31)), (8, .long (v19 - v23)), (6, .long (v11 - v15)), (4, .long (v3 - v7)), (0, .ref p0), (1, .int p1), (2, .int p2), (3, .int p3)], [.int p1, .ref v45, .long v43], h, 0, 0)) rfl ?_
  obtain ⟨v47, e48, hq⟩ := bsm hq
  refine r_aJ odX7_leftOf rfl e48 ?_
  refine mB_run odX7_leftOf 10 (g := (102, [(14, .long (v43 - v47)), (12, .long (v35 - v39)), (10, .long (v27 - v31)), (8, .long (v19 - v23)), (6, .long (v11 - v15)), (4, .long (v3 - v7)), (0, .ref p0), (1, .int p1), (2, .int p2), (3, .int p3)], [.ref p0, .long (((v11 - v15) * (v43 - v47)) - ((v19 - v23) * (v35 - v39)))], h, 0, 0)) rfl ?_
  obtain ⟨v49, e50, hq⟩ := bsm hq
  refine r_gJ odX7_leftOf rfl rfl e50 ?_
  refine mB_run odX7_leftOf 9 (g := (118, [(14, .long (v43 - v47)), (12, .long (v35 - v39)), (10, .long (v27 - v31)), (8, .long (v19 - v23)), (6, .long (v11 - v15)), (4, .long (v3 - v7)), (0, .ref p0), (1, .int p1), (2, .int p2), (3, .int p3)], [.ref p0, .long (((v19 - v23) * (v27 - v31)) - ((v3 - v7) * (v43 - v47))), .long ((((v11 - v15) * (v43 - v47)) - ((v19 - v23) * (v35 - v39))) * v49)], h, 0, 0)) rfl ?_
  obtain ⟨v51, e52, hq⟩ := bsm hq
  refine r_gJ odX7_leftOf rfl rfl e52 ?_
  refine mB_run odX7_leftOf 10 (g := (135, [(14, .long (v43 - v47)), (12, .long (v35 - v39)), (10, .long (v27 - v31)), (8, .long (v19 - v23)), (6, .long (v11 - v15)), (4, .long (v3 - v7)), (0, .ref p0), (1, .int p1), (2, .int p2), (3, .int p3)], [.ref p0, .long (((v3 - v7) * (v35 - v39)) - ((v11 - v15) * (v27 - v31))), .long (((((v11 - v15) * (v43 - v47)) - ((v19 - v23) * (v35 - v39))) * v49) + ((((v19 - v23) * (v27 - v31)) - ((v3 - v7) * (v43 - v47))) * v51))], h, 0, 0)) rfl ?_
  obtain ⟨v53, e54, hq⟩ := bsm hq
  refine r_gJ odX7_leftOf rfl rfl e54 ?_
  refine mB_run odX7_leftOf 2 (g := (140, [(14, .long (v43 - v47)), (12, .long (v35 - v39)), (10, .long (v27 - v31)), (8, .long (v19 - v23)), (6, .long (v11 - v15)), (4, .long (v3 - v7)), (0, .ref p0), (1, .int p1), (2, .int p2), (3, .int p3)], [.long ((((((v11 - v15) * (v43 - v47)) - ((v19 - v23) * (v35 - v39))) * v49) + ((((v19 - v23) * (v27 - v31)) - ((v3 - v7) * (v43 - v47))) * v51)) + ((((v3 - v7) * (v35 - v39)) - ((v11 - v15) * (v27 - v31))) * v53))], h, 0, 0)) rfl ?_
  cases hq
  exact mB_ret odX7_leftOf rfl
def fxX7_apartOf (N : Nat) (p0 : Nat) (p1 : Int32) (p2 : Int32) (h : mh) : Option (mh × Int64) :=
  (gR h p0 7 16).bind fun v1 =>
  (aJ h v1 p1).bind fun v3 =>
  (gR h p0 7 16).bind fun v5 =>
  (aJ h v5 p2).bind fun v7 =>
  (gR h p0 7 16).bind fun v9 =>
  (aJ h v9 p1).bind fun v11 =>
  (gR h p0 7 16).bind fun v13 =>
  (aJ h v13 p2).bind fun v15 =>
  (gR h p0 7 17).bind fun v17 =>
  (aJ h v17 p1).bind fun v19 =>
  (gR h p0 7 17).bind fun v21 =>
  (aJ h v21 p2).bind fun v23 =>
  (gR h p0 7 17).bind fun v25 =>
  (aJ h v25 p1).bind fun v27 =>
  (gR h p0 7 17).bind fun v29 =>
  (aJ h v29 p2).bind fun v31 =>
  (gR h p0 7 18).bind fun v33 =>
  (aJ h v33 p1).bind fun v35 =>
  (gR h p0 7 18).bind fun v37 =>
  (aJ h v37 p2).bind fun v39 =>
  (gR h p0 7 18).bind fun v41 =>
  (aJ h v41 p1).bind fun v43 =>
  (gR h p0 7 18).bind fun v45 =>
  (aJ h v45 p2).bind fun v47 =>
  some (h, ((((v3 - v7) * (v11 - v15)) + ((v19 - v23) * (v27 - v31))) + ((v35 - v39) * (v43 - v47))))
set_option maxHeartbeats 4000000 in
set_option maxRecDepth 100000 in
theorem exX7_apartOf {N : Nat} {p0 : Nat} {p1 : Int32} {p2 : Int32} {h : mh} {o : (mh × Int64)} (hq : fxX7_apartOf N p0 p1 p2 h = some o) : mC mX7_apartOf [.ref p0, .int p1, .int p2] h (o.1, some (.long o.2)) := by
  refine mC_of okX7_apartOf (Nat.le_of_ble_eq_true rfl) ?_
  unfold fxX7_apartOf at hq
  show mB _ mX7_apartOf (0, [(0, .ref p0), (1, .int p1), (2, .int p2)], [], h, 0, 0)
  refine mB_run odX7_apartOf 1 (g := (1, [(0, .ref p0), (1, .int p1), (2, .int p2)], [.ref p0], h, 0, 0)) rfl ?_
  obtain ⟨v1, e2, hq⟩ := bsm hq
  refine r_gR odX7_apartOf rfl rfl e2 ?_
  refine mB_run odX7_apartOf 1 (g := (5, [(0, .ref p0), (1, .int p1), (2, .int p2)], [.int p1, .ref v1], h, 0, 0)) rfl ?_
  obtain ⟨v3, e4, hq⟩ := bsm hq
  refine r_aJ odX7_apartOf rfl e4 ?_
  refine mB_run odX7_apartOf 1 (g := (7, [(0, .ref p0), (1, .int p1), (2, .int p2)], [.ref p0, .long v3], h, 0, 0)) rfl ?_
  obtain ⟨v5, e6, hq⟩ := bsm hq
  refine r_gR odX7_apartOf rfl rfl e6 ?_
  refine mB_run odX7_apartOf 1 (g := (11, [(0, .ref p0), (1, .int p1), (2, .int p2)], [.int p2, .ref v5, .long v3], h, 0, 0)) rfl ?_
  obtain ⟨v7, e8, hq⟩ := bsm hq
  refine r_aJ odX7_apartOf rfl e8 ?_
  refine mB_run odX7_apartOf 2 (g := (14, [(0, .ref p0), (1, .int p1), (2, .int p2)], [.ref p0, .long (v3 - v7)], h, 0, 0)) rfl ?_
  obtain ⟨v9, e10, hq⟩ := bsm hq
  refine r_gR odX7_apartOf rfl rfl e10 ?_
  refine mB_run odX7_apartOf 1 (g := (18, [(0, .ref p0), (1, .int p1), (2, .int p2)], [.int p1, .ref v9, .long (v3 - v7)], h, 0, 0)) rfl ?_
  obtain ⟨v11, e12, hq⟩ := bsm hq
  refine r_aJ odX7_apartOf rfl e12 ?_
  refine mB_run odX7_apartOf 1 (g := (20, [(0, .ref p0), (1, .int p1), (2, .int p2)], [.ref p0, .long v11, .long (v3 - v7)], h, 0, 0)) rfl ?_
  obtain ⟨v13, e14, hq⟩ := bsm hq
  refine r_gR odX7_apartOf rfl rfl e14 ?_
  refine mB_run odX7_apartOf 1 (g := (24, [(0, .ref p0), (1, .int p1), (2, .int p2)], [.int p2, .ref v13, .long v11, .long (v3 - v7)], h, 0, 0)) rfl ?_
  obtain ⟨v15, e16, hq⟩ := bsm hq
  refine r_aJ odX7_apartOf rfl e16 ?_
  refine mB_run odX7_apartOf 3 (g := (28, [(0, .ref p0), (1, .int p1), (2, .int p2)], [.ref p0, .long ((v3 - v7) * (v11 - v15))], h, 0, 0)) rfl ?_
  obtain ⟨v17, e18, hq⟩ := bsm hq
  refine r_gR odX7_apartOf rfl rfl e18 ?_
  refine mB_run odX7_apartOf 1 (g := (32, [(0, .ref p0), (1, .int p1), (2, .int p2)], [.int p1, .ref v17, .long ((v3 - v7) * (v11 - v15))], h, 0, 0)) rfl ?_
  obtain ⟨v19, e20, hq⟩ := bsm hq
  refine r_aJ odX7_apartOf rfl e20 ?_
  refine mB_run odX7_apartOf 1 (g := (34, [(0, .ref p0), (1, .int p1), (2, .int p2)], [.ref p0, .long v19, .long ((v3 - v7) * (v11 - v15))], h, 0, 0)) rfl ?_
  obtain ⟨v21, e22, hq⟩ := bsm hq
  refine r_gR odX7_apartOf rfl rfl e22 ?_
  refine mB_run odX7_apartOf 1 (g := (38, [(0, .ref p0), (1, .int p1), (2, .int p2)], [.int p2, .ref v21, .long v19, .long ((v3 - v7) * (v11 - v15))], h, 0, 0)) rfl ?_
  obtain ⟨v23, e24, hq⟩ := bsm hq
  refine r_aJ odX7_apartOf rfl e24 ?_
  refine mB_run odX7_apartOf 2 (g := (41, [(0, .ref p0), (1, .int p1), (2, .int p2)], [.ref p0, .long (v19 - v23), .long ((v3 - v7) * (v11 - v15))], h, 0, 0)) rfl ?_
  obtain ⟨v25, e26, hq⟩ := bsm hq
  refine r_gR odX7_apartOf rfl rfl e26 ?_
  refine mB_run odX7_apartOf 1 (g := (45, [(0, .ref p0), (1, .int p1), (2, .int p2)], [.int p1, .ref v25, .long (v19 - v23), .long ((v3 - v7) * (v11 - v15))], h, 0, 0)) rfl ?_
  obtain ⟨v27, e28, hq⟩ := bsm hq
  refine r_aJ odX7_apartOf rfl e28 ?_
  refine mB_run odX7_apartOf 1 (g := (47, [(0, .ref p0), (1, .int p1), (2, .int p2)], [.ref p0, .long v27, .long (v19 - v23), .long ((v3 - v7) * (v11 - v15))], h, 0, 0)) rfl ?_
  obtain ⟨v29, e30, hq⟩ := bsm hq
  refine r_gR odX7_apartOf rfl rfl e30 ?_
  refine mB_run odX7_apartOf 1 (g := (51, [(0, .ref p0), (1, .int p1), (2, .int p2)], [.int p2, .ref v29, .long v27, .long (v19 - v23), .long ((v3 - v7) * (v11 - v15))], h, 0, 0)) rfl ?_
  obtain ⟨v31, e32, hq⟩ := bsm hq
  refine r_aJ odX7_apartOf rfl e32 ?_
  refine mB_run odX7_apartOf 4 (g := (56, [(0, .ref p0), (1, .int p1), (2, .int p2)], [.ref p0, .long (((v3 - v7) * (v11 - v15)) + ((v19 - v23) * (v27 - v31)))], h, 0, 0)) rfl ?_
  obtain ⟨v33, e34, hq⟩ := bsm hq
  refine r_gR odX7_apartOf rfl rfl e34 ?_
  refine mB_run odX7_apartOf 1 (g := (60, [(0, .ref p0), (1, .int p1), (2, .int p2)], [.int p1, .ref v33, .long (((v3 - v7) * (v11 - v15)) + ((v19 - v23) * (v27 - v31)))], h, 0, 0)) rfl ?_
  obtain ⟨v35, e36, hq⟩ := bsm hq
  refine r_aJ odX7_apartOf rfl e36 ?_
  refine mB_run odX7_apartOf 1 (g := (62, [(0, .ref p0), (1, .int p1), (2, .int p2)], [.ref p0, .long v35, .long (((v3 - v7) * (v11 - v15)) + ((v19 - v23) * (v27 - v31)))], h, 0, 0)) rfl ?_
  obtain ⟨v37, e38, hq⟩ := bsm hq
  refine r_gR odX7_apartOf rfl rfl e38 ?_
  refine mB_run odX7_apartOf 1 (g := (66, [(0, .ref p0), (1, .int p1), (2, .int p2)], [.int p2, .ref v37, .long v35, .long (((v3 - v7) * (v11 - v15)) + ((v19 - v23) * (v27 - v31)))], h, 0, 0)) rfl ?_
  obtain ⟨v39, e40, hq⟩ := bsm hq
  refine r_aJ odX7_apartOf rfl e40 ?_
  refine mB_run odX7_apartOf 2 (g := (69, [(0, .ref p0), (1, .int p1), (2, .int p2)], [.ref p0, .long (v35 - v39), .long (((v3 - v7) * (v11 - v15)) + ((v19 - v23) * (v27 - v31)))], h, 0, 0)) rfl ?_
  obtain ⟨v41, e42, hq⟩ := bsm hq
  refine r_gR odX7_apartOf rfl rfl e42 ?_
  refine mB_run odX7_apartOf 1 (g := (73, [(0, .ref p0), (1, .int p1), (2, .int p2)], [.int p1, .ref v41, .long (v35 - v39), .long (((v3 - v7) * (v11 - v15)) + ((v19 - v23) * (v27 - v31)))], h, 0, 0)) rfl ?_
  obtain ⟨v43, e44, hq⟩ := bsm hq
  refine r_aJ odX7_apartOf rfl e44 ?_
  refine mB_run odX7_apartOf 1 (g := (75, [(0, .ref p0), (1, .int p1), (2, .int p2)], [.ref p0, .long v43, .long (v35 - v39), .long (((v3 - v7) * (v11 - v15)) + ((v19 - v23) * (v27 - v31)))], h, 0, 0)) rfl ?_
  obtain ⟨v45, e46, hq⟩ := bsm hq
  refine r_gR odX7_apartOf rfl rfl e46 ?_
  refine mB_run odX7_apartOf 1 (g := (79, [(0, .ref p0), (1, .int p1), (2, .int p2)], [.int p2, .ref v45, .long v43, .long (v35 - v39), .long (((v3 - v7) * (v11 - v15)) + ((v19 - v23) * (v27 - v31)))], h, 0, 0)) rfl ?_
  obtain ⟨v47, e48, hq⟩ := bsm hq
  refine r_aJ odX7_apartOf rfl e48 ?_
  refine mB_run odX7_apartOf 3 (g := (83, [(0, .ref p0), (1, .int p1), (2, .int p2)], [.long ((((v3 - v7) * (v11 - v15)) + ((v19 - v23) * (v27 - v31))) + ((v35 - v39) * (v43 - v47)))], h, 0, 0)) rfl ?_
  cases hq
  exact mB_ret odX7_apartOf rfl
