def fxX7_looksAll_22 (N : Nat) (rec12 : Nat → Int32 → mh → Option mh) : Nat → Nat → Int32 → Int32 → mh → Option mh
  | 0, _, _, _, _ => none
  | n + 1, x0, x1, x2, h =>
    (gR h x0 7 27).bind fun v6 =>
    (aI h v6 x1).bind fun v8 =>
    if (((64 : Int32) * x1) + v8) ≤ x2 then (
      rec12 x0 (x1 + (1 : Int32)) h) else (
      (gR h x0 7 28).bind fun v11 =>
      (aJ h v11 x2).bind fun v13 =>
      (sV h x0 7 24 (.long v13)).bind fun h15 =>
      (gR h15 x0 7 29).bind fun v17 =>
      (aJ h15 v17 x2).bind fun v19 =>
      (sV h15 x0 7 25 (.long v19)).bind fun h21 =>
      (gR h21 x0 7 30).bind fun v23 =>
      (aJ h21 v23 x2).bind fun v25 =>
      (sV h21 x0 7 26 (.long v25)).bind fun h27 =>
      (kO h27 x0 7).bind fun f31 =>
      (fxX7_looks N x0 h27).bind fun o29 =>
      fxX7_looksAll_22 N rec12 n x0 x1 (x2 + (1 : Int32)) o29)
set_option maxHeartbeats 4000000 in
set_option maxRecDepth 100000 in
theorem exX7_looksAll_22 {N : Nat} {rec12 : Nat → Int32 → mh → Option mh} (hrec12 : ∀ (x0 : Nat) (x1 : Int32) (h : mh) {o : mh}, rec12 x0 x1 h = some o → mB (gO mX7_looksAll (o, none)) mX7_looksAll (12, [(0, .ref x0), (1, .int x1)], [], h, 0, 0)) : ∀ (n : Nat) (x0 : Nat) (x1 : Int32) (x2 : Int32) (h : mh) {o : mh}, fxX7_looksAll_22 N rec12 n x0 x1 x2 h = some o → mB (gO mX7_looksAll (o, none)) mX7_looksAll (22, [(0, .ref x0), (1, .int x1), (2, .int x2)], [], h, 0, 0) := by
  intro n
  induction n with
  | zero => intro x0 x1 x2 h o hq; cases hq
  | succ n ih =>
    intro x0 x1 x2 h o hq
    unfold fxX7_looksAll_22 at hq
    refine mB_run odX7_looksAll 5 (g := (28, [(0, .ref x0), (1, .int x1), (2, .int x2)], [.ref x0, .int ((64 : Int32) * x1), .int x2], h, 0, 0)) rfl ?_
    obtain ⟨v6, e7, hq⟩ := bsm hq
    refine r_gR odX7_looksAll rfl rfl e7 ?_
    refine mB_run odX7_looksAll 1 (g := (32, [(0, .ref x0), (1, .int x1), (2, .int x2)], [.int x1, .ref v6, .int ((64 : Int32) * x1), .int x2], h, 0, 0)) rfl ?_
    obtain ⟨v8, e9, hq⟩ := bsm hq
    refine r_aI odX7_looksAll rfl e9 ?_
    refine mB_run odX7_looksAll 1 (g := (34, [(0, .ref x0), (1, .int x1), (2, .int x2)], [.int (((64 : Int32) * x1) + v8), .int x2], h, 0, 0)) rfl ?_
    by_cases c10 : (((64 : Int32) * x1) + v8) ≤ x2
    · rw [if_pos c10] at hq
      refine ic_ge_T (t := 77) odX7_looksAll rfl rfl c10 ?_
      refine mB_run odX7_looksAll 2 (g := (12, [(1, .int (x1 + (1 : Int32))), (0, .ref x0), (2, .int x2)], [], h, 0, 0)) rfl ?_
      refine mB_lv [1, 0] (lv' := [(0, .ref x0), (1, .int (x1 + (1 : Int32)))]) rfl ?_
      exact hrec12 _ _ _ hq
    · rw [if_neg c10] at hq
      refine ic_ge_F (t := 77) odX7_looksAll rfl rfl c10 ?_
      refine mB_run odX7_looksAll 2 (g := (39, [(0, .ref x0), (1, .int x1), (2, .int x2)], [.ref x0, .ref x0], h, 0, 0)) rfl ?_
      obtain ⟨v11, e12, hq⟩ := bsm hq
      refine r_gR odX7_looksAll rfl rfl e12 ?_
      refine mB_run odX7_looksAll 1 (g := (43, [(0, .ref x0), (1, .int x1), (2, .int x2)], [.int x2, .ref v11, .ref x0], h, 0, 0)) rfl ?_
      obtain ⟨v13, e14, hq⟩ := bsm hq
      refine r_aJ odX7_looksAll rfl e14 ?_
      obtain ⟨h15, e16, hq⟩ := bsm hq
      refine r_sV odX7_looksAll rfl rfl rfl rfl e16 ?_
      refine mB_run odX7_looksAll 2 (g := (49, [(0, .ref x0), (1, .int x1), (2, .int x2)], [.ref x0, .ref x0], h15, 0, 0)) rfl ?_
      obtain ⟨v17, e18, hq⟩ := bsm hq
      refine r_gR odX7_looksAll rfl rfl e18 ?_
      refine mB_run odX7_looksAll 1 (g := (53, [(0, .ref x0), (1, .int x1), (2, .int x2)], [.int x2, .ref v17, .ref x0], h15, 0, 0)) rfl ?_
      obtain ⟨v19, e20, hq⟩ := bsm hq
      refine r_aJ odX7_looksAll rfl e20 ?_
      obtain ⟨h21, e22, hq⟩ := bsm hq
      refine r_sV odX7_looksAll rfl rfl rfl rfl e22 ?_
      refine mB_run odX7_looksAll 2 (g := (59, [(0, .ref x0), (1, .int x1), (2, .int x2)], [.ref x0, .ref x0], h21, 0, 0)) rfl ?_
      obtain ⟨v23, e24, hq⟩ := bsm hq
      refine r_gR odX7_looksAll rfl rfl e24 ?_
      refine mB_run odX7_looksAll 1 (g := (63, [(0, .ref x0), (1, .int x1), (2, .int x2)], [.int x2, .ref v23, .ref x0], h21, 0, 0)) rfl ?_
      obtain ⟨v25, e26, hq⟩ := bsm hq
      refine r_aJ odX7_looksAll rfl e26 ?_
      obtain ⟨h27, e28, hq⟩ := bsm hq
      refine r_sV odX7_looksAll rfl rfl rfl rfl e28 ?_
      refine mB_run odX7_looksAll 1 (g := (68, [(0, .ref x0), (1, .int x1), (2, .int x2)], [.ref x0], h27, 0, 0)) rfl ?_
      obtain ⟨f31, k32, hq⟩ := bsm hq
      obtain ⟨o29, e30, hq⟩ := bsm hq
      refine mB_V (as := []) odX7_looksAll okX7_looks lk_7_356 rfl (exX7_looks e30) (kO_at k32) rfl rfl rfl ?_
      show mB _ mX7_looksAll (71, [(0, .ref x0), (1, .int x1), (2, .int x2)], [], o29, 0, 0)
      refine mB_run odX7_looksAll 2 (g := (22, [(2, .int (x2 + (1 : Int32))), (0, .ref x0), (1, .int x1)], [], o29, 0, 0)) rfl ?_
      refine mB_lv [1, 2, 0] (lv' := [(0, .ref x0), (1, .int x1), (2, .int (x2 + (1 : Int32)))]) rfl ?_
      exact ih _ _ _ _ hq
def fxX7_looksAll_263 (N : Nat) (rec85 : Nat → Int32 → mh → Option mh) (x0 : Nat) (x1 : Int32) (h : mh) : Option mh :=
  rec85 x0 (x1 + (1 : Int32)) h
set_option maxHeartbeats 4000000 in
set_option maxRecDepth 100000 in
theorem exX7_looksAll_263 {N : Nat} {rec85 : Nat → Int32 → mh → Option mh} (hrec85 : ∀ (x0 : Nat) (x1 : Int32) (h : mh) {o : mh}, rec85 x0 x1 h = some o → mB (gO mX7_looksAll (o, none)) mX7_looksAll (85, [(0, .ref x0), (1, .int x1)], [], h, 0, 0)) (x0 : Nat) (x1 : Int32) (h : mh) {o : mh} (hq : fxX7_looksAll_263 N rec85 x0 x1 h = some o) : mB (gO mX7_looksAll (o, none)) mX7_looksAll (263, [(0, .ref x0), (1, .int x1)], [], h, 0, 0) := by
  unfold fxX7_looksAll_263 at hq
  refine mB_run odX7_looksAll 2 (g := (85, [(1, .int (x1 + (1 : Int32))), (0, .ref x0)], [], h, 0, 0)) rfl ?_
  refine mB_lv [1, 0] (lv' := [(0, .ref x0), (1, .int (x1 + (1 : Int32)))]) rfl ?_
  exact hrec85 _ _ _ hq
def fxX7_looksAll_105 (N : Nat) (rec85 : Nat → Int32 → mh → Option mh) : Nat → Nat → Int32 → Int32 → mh → Option mh
  | 0, _, _, _, _ => none
  | n + 1, x0, x1, x2, h =>
    (gR h x0 7 34).bind fun v41 =>
    (aI h v41 (1 : Int32)).bind fun v43 =>
    if ((80 : Int32) + v43) ≤ x2 then (
      fxX7_looksAll_263 N rec85 x0 x1 h) else (
      (gI h x0 7 54).bind fun v46 =>
      if v46 = 0 then (
        (gR h x0 7 35).bind fun v49 =>
        (aI h v49 x1).bind fun v51 =>
        (gR h x0 7 36).bind fun v53 =>
        (aI h v53 x1).bind fun v55 =>
        (gR h x0 7 35).bind fun v57 =>
        (aI h v57 x2).bind fun v59 =>
        (gR h x0 7 36).bind fun v61 =>
        (aI h v61 x2).bind fun v63 =>
        (gR h x0 7 43).bind fun v65 =>
        (aJ h v65 v55).bind fun v67 =>
        (gR h x0 7 43).bind fun v69 =>
        (aJ h v69 v51).bind fun v71 =>
        (gR h x0 7 44).bind fun v73 =>
        (aJ h v73 v55).bind fun v75 =>
        (gR h x0 7 44).bind fun v77 =>
        (aJ h v77 v51).bind fun v79 =>
        (gR h x0 7 45).bind fun v81 =>
        (aJ h v81 v55).bind fun v83 =>
        (gR h x0 7 45).bind fun v85 =>
        (aJ h v85 v51).bind fun v87 =>
        (gR h x0 7 43).bind fun v89 =>
        (aJ h v89 ((24 : Int32) + v63)).bind fun v91 =>
        (gR h x0 7 43).bind fun v93 =>
        (aJ h v93 ((24 : Int32) + v59)).bind fun v95 =>
        (gR h x0 7 44).bind fun v97 =>
        (aJ h v97 ((24 : Int32) + v63)).bind fun v99 =>
        (gR h x0 7 44).bind fun v101 =>
        (aJ h v101 ((24 : Int32) + v59)).bind fun v103 =>
        (gR h x0 7 45).bind fun v105 =>
        (aJ h v105 ((24 : Int32) + v63)).bind fun v107 =>
        (gR h x0 7 45).bind fun v109 =>
        (aJ h v109 ((24 : Int32) + v59)).bind fun v111 =>
        (kO h x0 7).bind fun f115 =>
        (fxX7_crosses N x0 (v67 - v71) (v75 - v79) (v83 - v87) (v91 - v95) (v99 - v103) (v107 - v111) h).bind fun o113 =>
        (kO o113 x0 7).bind fun f119 =>
        (fxX7_looksBothWays N x0 o113).bind fun o117 =>
        fxX7_looksAll_105 N rec85 n x0 x1 (x2 + (1 : Int32)) o117) else (
        fxX7_looksAll_263 N rec85 x0 x1 h))
set_option maxHeartbeats 4000000 in
set_option maxRecDepth 100000 in
theorem exX7_looksAll_105 {N : Nat} {rec85 : Nat → Int32 → mh → Option mh} (hrec85 : ∀ (x0 : Nat) (x1 : Int32) (h : mh) {o : mh}, rec85 x0 x1 h = some o → mB (gO mX7_looksAll (o, none)) mX7_looksAll (85, [(0, .ref x0), (1, .int x1)], [], h, 0, 0)) : ∀ (n : Nat) (x0 : Nat) (x1 : Int32) (x2 : Int32) (h : mh) {o : mh}, fxX7_looksAll_105 N rec85 n x0 x1 x2 h = some o → mB (gO mX7_looksAll (o, none)) mX7_looksAll (105, [(0, .ref x0), (1, .int x1), (2, .int x2)], [], h, 0, 0) := by
  intro n
  induction n with
  | zero => intro x0 x1 x2 h o hq; cases hq
  | succ n ih =>
    intro x0 x1 x2 h o hq
    unfold fxX7_looksAll_105 at hq
    refine mB_run odX7_looksAll 3 (g := (109, [(0, .ref x0), (1, .int x1), (2, .int x2)], [.ref x0, .int (80 : Int32), .int x2], h, 0, 0)) rfl ?_
    obtain ⟨v41, e42, hq⟩ := bsm hq
    refine r_gR odX7_looksAll rfl rfl e42 ?_
    refine mB_run odX7_looksAll 1 (g := (113, [(0, .ref x0), (1, .int x1), (2, .int x2)], [.int (1 : Int32), .ref v41, .int (80 : Int32), .int x2], h, 0, 0)) rfl ?_
    obtain ⟨v43, e44, hq⟩ := bsm hq
    refine r_aI odX7_looksAll rfl e44 ?_
    refine mB_run odX7_looksAll 1 (g := (115, [(0, .ref x0), (1, .int x1), (2, .int x2)], [.int ((80 : Int32) + v43), .int x2], h, 0, 0)) rfl ?_
    by_cases c45 : ((80 : Int32) + v43) ≤ x2
    · rw [if_pos c45] at hq
      refine ic_ge_T (t := 263) odX7_looksAll rfl rfl c45 ?_
      refine mB_lv [0, 1] (lv' := [(0, .ref x0), (1, .int x1)]) rfl ?_
      exact exX7_looksAll_263 hrec85 _ _ _ hq
    · rw [if_neg c45] at hq
      refine ic_ge_F (t := 263) odX7_looksAll rfl rfl c45 ?_
      refine mB_run odX7_looksAll 1 (g := (119, [(0, .ref x0), (1, .int x1), (2, .int x2)], [.ref x0], h, 0, 0)) rfl ?_
      obtain ⟨v46, e47, hq⟩ := bsm hq
      refine r_gI odX7_looksAll rfl rfl e47 ?_
      by_cases c48 : v46 = 0
      · rw [if_pos c48] at hq
        refine if_ne_F (t := 263) odX7_looksAll rfl rfl c48 ?_
        refine mB_run odX7_looksAll 1 (g := (126, [(0, .ref x0), (1, .int x1), (2, .int x2)], [.ref x0], h, 0, 0)) rfl ?_
        obtain ⟨v49, e50, hq⟩ := bsm hq
        refine r_gR odX7_looksAll rfl rfl e50 ?_
        refine mB_run odX7_looksAll 1 (g := (130, [(0, .ref x0), (1, .int x1), (2, .int x2)], [.int x1, .ref v49], h, 0, 0)) rfl ?_
        obtain ⟨v51, e52, hq⟩ := bsm hq
        refine r_aI odX7_looksAll rfl e52 ?_
        refine mB_run odX7_looksAll 2 (g := (133, [(3, .int v51), (0, .ref x0), (1, .int x1), (2, .int x2)], [.ref x0], h, 0, 0)) rfl ?_
        obtain ⟨v53, e54, hq⟩ := bsm hq
        refine r_gR odX7_looksAll rfl rfl e54 ?_
        refine mB_run odX7_looksAll 1 (g := (137, [(3, .int v51), (0, .ref x0), (1, .int x1), (2, .int x2)], [.int x1, .ref v53], h, 0, 0)) rfl ?_
        obtain ⟨v55, e56, hq⟩ := bsm hq
        refine r_aI odX7_looksAll rfl e56 ?_
        refine mB_run odX7_looksAll 3 (g := (143, [(4, .int v55), (3, .int v51), (0, .ref x0), (1, .int x1), (2, .int x2)], [.ref x0, .int (24 : Int32)], h, 0, 0)) rfl ?_
        obtain ⟨v57, e58, hq⟩ := bsm hq
        refine r_gR odX7_looksAll rfl rfl e58 ?_
        refine mB_run odX7_looksAll 1 (g := (147, [(4, .int v55), (3, .int v51), (0, .ref x0), (1, .int x1), (2, .int x2)], [.int x2, .ref v57, .int (24 : Int32)], h, 0, 0)) rfl ?_
        obtain ⟨v59, e60, hq⟩ := bsm hq
        refine r_aI odX7_looksAll rfl e60 ?_
        refine mB_run odX7_looksAll 4 (g := (154, [(5, .int ((24 : Int32) + v59)), (4, .int v55), (3, .int v51), (0, .ref x0), (1, .int x1), (2, .int x2)], [.ref x0, .int (24 : Int32)], h, 0, 0)) rfl ?_
        obtain ⟨v61, e62, hq⟩ := bsm hq
        refine r_gR odX7_looksAll rfl rfl e62 ?_
        refine mB_run odX7_looksAll 1 (g := (158, [(5, .int ((24 : Int32) + v59)), (4, .int v55), (3, .int v51), (0, .ref x0), (1, .int x1), (2, .int x2)], [.int x2, .ref v61, .int (24 : Int32)], h, 0, 0)) rfl ?_
        obtain ⟨v63, e64, hq⟩ := bsm hq
        refine r_aI odX7_looksAll rfl e64 ?_
        refine mB_run odX7_looksAll 4 (g := (164, [(6, .int ((24 : Int32) + v63)), (5, .int ((24 : Int32) + v59)), (4, .int v55), (3, .int v51), (0, .ref x0), (1, .int x1), (2, .int x2)], [.ref x0, .ref x0], h, 0, 0)) rfl ?_
        obtain ⟨v65, e66, hq⟩ := bsm hq
        refine r_gR odX7_looksAll rfl rfl e66 ?_
        refine mB_run odX7_looksAll 1 (g := (169, [(6, .int ((24 : Int32) + v63)), (5, .int ((24 : Int32) + v59)), (4, .int v55), (3, .int v51), (0, .ref x0), (1, .int x1), (2, .int x2)], [.int v55, .ref v65, .ref x0], h, 0, 0)) rfl ?_
        obtain ⟨v67, e68, hq⟩ := bsm hq
        refine r_aJ odX7_looksAll rfl e68 ?_
        refine mB_run odX7_looksAll 1 (g := (171, [(6, .int ((24 : Int32) + v63)), (5, .int ((24 : Int32) + v59)), (4, .int v55), (3, .int v51), (0, .ref x0), (1, .int x1), (2, .int x2)], [.ref x0, .long v67, .ref x0], h, 0, 0)) rfl ?_
        obtain ⟨v69, e70, hq⟩ := bsm hq
        refine r_gR odX7_looksAll rfl rfl e70 ?_
        refine mB_run odX7_looksAll 1 (g := (175, [(6, .int ((24 : Int32) + v63)), (5, .int ((24 : Int32) + v59)), (4, .int v55), (3, .int v51), (0, .ref x0), (1, .int x1), (2, .int x2)], [.int v51, .ref v69, .long v67, .ref x0], h, 0, 0)) rfl ?_
        obtain ⟨v71, e72, hq⟩ := bsm hq
        refine r_aJ odX7_looksAll rfl e72 ?_
        refine mB_run odX7_looksAll 2 (g := (178, [(6, .int ((24 : Int32) + v63)), (5, .int ((24 : Int32) + v59)), (4, .int v55), (3, .int v51), (0, .ref x0), (1, .int x1), (2, .int x2)], [.ref x0, .long (v67 - v71), .ref x0], h, 0, 0)) rfl ?_
        obtain ⟨v73, e74, hq⟩ := bsm hq
        refine r_gR odX7_looksAll rfl rfl e74 ?_
        refine mB_run odX7_looksAll 1 (g := (183, [(6, .int ((24 : Int32) + v63)), (5, .int ((24 : Int32) + v59)), (4, .int v55), (3, .int v51), (0, .ref x0), (1, .int x1), (2, .int x2)], [.int v55, .ref v73, .long (v67 - v71), .ref x0], h, 0, 0)) rfl ?_
        obtain ⟨v75, e76, hq⟩ := bsm hq
        refine r_aJ odX7_looksAll rfl e76 ?_
        refine mB_run odX7_looksAll 1 (g := (185, [(6, .int ((24 : Int32) + v63)), (5, .int ((24 : Int32) + v59)), (4, .int v55), (3, .int v51), (0, .ref x0), (1, .int x1), (2, .int x2)], [.ref x0, .long v75, .long (v67 - v71), .ref x0], h, 0, 0)) rfl ?_
        obtain ⟨v77, e78, hq⟩ := bsm hq
        refine r_gR odX7_looksAll rfl rfl e78 ?_
        refine mB_run odX7_looksAll 1 (g := (189, [(6, .int ((24 : Int32) + v63)), (5, .int ((24 : Int32) + v59)), (4, .int v55), (3, .int v51), (0, .ref x0), (1, .int x1), (2, .int x2)], [.int v51, .ref v77, .long v75, .long (v67 - v71), .ref x0], h, 0, 0)) rfl ?_
        obtain ⟨v79, e80, hq⟩ := bsm hq
        refine r_aJ odX7_looksAll rfl e80 ?_
        refine mB_run odX7_looksAll 2 (g := (192, [(6, .int ((24 : Int32) + v63)), (5, .int ((24 : Int32) + v59)), (4, .int v55), (3, .int v51), (0, .ref x0), (1, .int x1), (2, .int x2)], [.ref x0, .long (v75 - v79), .long (v67 - v71), .ref x0], h, 0, 0)) rfl ?_
        obtain ⟨v81, e82, hq⟩ := bsm hq
        refine r_gR odX7_looksAll rfl rfl e82 ?_
        refine mB_run odX7_looksAll 1 (g := (197, [(6, .int ((24 : Int32) + v63)), (5, .int ((24 : Int32) + v59)), (4, .int v55), (3, .int v51), (0, .ref x0), (1, .int x1), (2, .int x2)], [.int v55, .ref v81, .long (v75 - v79), .long (v67 - v71), .ref x0], h, 0, 0)) rfl ?_
        obtain ⟨v83, e84, hq⟩ := bsm hq
        refine r_aJ odX7_looksAll rfl e84 ?_
        refine mB_run odX7_looksAll 1 (g := (199, [(6, .int ((24 : Int32) + v63)), (5, .int ((24 : Int32) + v59)), (4, .int v55), (3, .int v51), (0, .ref x0), (1, .int x1), (2, .int x2)], [.ref x0, .long v83, .long (v75 - v79), .long (v67 - v71), .ref x0], h, 0, 0)) rfl ?_
        obtain ⟨v85, e86, hq⟩ := bsm hq
        refine r_gR odX7_looksAll rfl rfl e86 ?_
        refine mB_run odX7_looksAll 1 (g := (203, [(6, .int ((24 : Int32) + v63)), (5, .int ((24 : Int32) + v59)), (4, .int v55), (3, .int v51), (0, .ref x0), (1, .int x1), (2, .int x2)], [.int v51, .ref v85, .long v83, .long (v75 - v79), .long (v67 - v71), .ref x0], h, 0, 0)) rfl ?_
        obtain ⟨v87, e88, hq⟩ := bsm hq
        refine r_aJ odX7_looksAll rfl e88 ?_
        refine mB_run odX7_looksAll 2 (g := (206, [(6, .int ((24 : Int32) + v63)), (5, .int ((24 : Int32) + v59)), (4, .int v55), (3, .int v51), (0, .ref x0), (1, .int x1), (2, .int x2)], [.ref x0, .long (v83 - v87), .long (v75 - v79), .long (v67 - v71), .ref x0], h, 0, 0)) rfl ?_
        obtain ⟨v89, e90, hq⟩ := bsm hq
        refine r_gR odX7_looksAll rfl rfl e90 ?_
        refine mB_run odX7_looksAll 1 (g := (211, [(6, .int ((24 : Int32) + v63)), (5, .int ((24 : Int32) + v59)), (4, .int v55), (3, .int v51), (0, .ref x0), (1, .int x1), (2, .int x2)], [.int ((24 : Int32) + v63), .ref v89, .long (v83 - v87), .long (v75 - v79), .long (v67 - v71), .ref x0], h, 0, 0)) rfl ?_
        obtain ⟨v91, e92, hq⟩ := bsm hq
        refine r_aJ odX7_looksAll rfl e92 ?_
        refine mB_run odX7_looksAll 1 (g := (213, [(6, .int ((24 : Int32) + v63)), (5, .int ((24 : Int32) + v59)), (4, .int v55), (3, .int v51), (0, .ref x0), (1, .int x1), (2, .int x2)], [.ref x0, .long v91, .long (v83 - v87), .long (v75 - v79), .long (v67 - v71), .ref x0], h, 0, 0)) rfl ?_
        obtain ⟨v93, e94, hq⟩ := bsm hq
        refine r_gR odX7_looksAll rfl rfl e94 ?_
        refine mB_run odX7_looksAll 1 (g := (218, [(6, .int ((24 : Int32) + v63)), (5, .int ((24 : Int32) + v59)), (4, .int v55), (3, .int v51), (0, .ref x0), (1, .int x1), (2, .int x2)], [.int ((24 : Int32) + v59), .ref v93, .long v91, .long (v83 - v87), .long (v75 - v79), .long (v67 - v71), .ref x0], h, 0, 0)) rfl ?_
        obtain ⟨v95, e96, hq⟩ := bsm hq
        refine r_aJ odX7_looksAll rfl e96 ?_
        refine mB_run odX7_looksAll 2 (g := (221, [(6, .int ((24 : Int32) + v63)), (5, .int ((24 : Int32) + v59)), (4, .int v55), (3, .int v51), (0, .ref x0), (1, .int x1), (2, .int x2)], [.ref x0, .long (v91 - v95), .long (v83 - v87), .long (v75 - v79), .long (v67 - v71), .ref x0], h, 0, 0)) rfl ?_
        obtain ⟨v97, e98, hq⟩ := bsm hq
        refine r_gR odX7_looksAll rfl rfl e98 ?_
        refine mB_run odX7_looksAll 1 (g := (226, [(6, .int ((24 : Int32) + v63)), (5, .int ((24 : Int32) + v59)), (4, .int v55), (3, .int v51), (0, .ref x0), (1, .int x1), (2, .int x2)], [.int ((24 : Int32) + v63), .ref v97, .long (v91 - v95), .long (v83 - v87), .long (v75 - v79), .long (v67 - v71), .ref x0], h, 0, 0)) rfl ?_
        obtain ⟨v99, e100, hq⟩ := bsm hq
        refine r_aJ odX7_looksAll rfl e100 ?_
        refine mB_run odX7_looksAll 1 (g := (228, [(6, .int ((24 : Int32) + v63)), (5, .int ((24 : Int32) + v59)), (4, .int v55), (3, .int v51), (0, .ref x0), (1, .int x1), (2, .int x2)], [.ref x0, .long v99, .long (v91 - v95), .long (v83 - v87), .long (v75 - v79), .long (v67 - v71), .ref x0], h, 0, 0)) rfl ?_
        obtain ⟨v101, e102, hq⟩ := bsm hq
        refine r_gR odX7_looksAll rfl rfl e102 ?_
        refine mB_run odX7_looksAll 1 (g := (233, [(6, .int ((24 : Int32) + v63)), (5, .int ((24 : Int32) + v59)), (4, .int v55), (3, .int v51), (0, .ref x0), (1, .int x1), (2, .int x2)], [.int ((24 : Int32) + v59), .ref v101, .long v99, .long (v91 - v95), .long (v83 - v87), .long (v75 - v79), .long (v67 - v71), .ref x0], h, 0, 0)) rfl ?_
        obtain ⟨v103, e104, hq⟩ := bsm hq
        refine r_aJ odX7_looksAll rfl e104 ?_
        refine mB_run odX7_looksAll 2 (g := (236, [(6, .int ((24 : Int32) + v63)), (5, .int ((24 : Int32) + v59)), (4, .int v55), (3, .int v51), (0, .ref x0), (1, .int x1), (2, .int x2)], [.ref x0, .long (v99 - v103), .long (v91 - v95), .long (v83 - v87), .long (v75 - v79), .long (v67 - v71), .ref x0], h, 0, 0)) rfl ?_
        obtain ⟨v105, e106, hq⟩ := bsm hq
        refine r_gR odX7_looksAll rfl rfl e106 ?_
        refine mB_run odX7_looksAll 1 (g := (241, [(6, .int ((24 : Int32) + v63)), (5, .int ((24 : Int32) + v59)), (4, .int v55), (3, .int v51), (0, .ref x0), (1, .int x1), (2, .int x2)], [.int ((24 : Int32) + v63), .ref v105, .long (v99 - v103), .long (v91 - v95), .long (v83 - v87), .long (v75 - v79), .long (v67 - v71), .ref x0], h, 0, 0)) rfl ?_
        obtain ⟨v107, e108, hq⟩ := bsm hq
        refine r_aJ odX7_looksAll rfl e108 ?_
        refine mB_run odX7_looksAll 1 (g := (243, [(6, .int ((24 : Int32) + v63)), (5, .int ((24 : Int32) + v59)), (4, .int v55), (3, .int v51), (0, .ref x0), (1, .int x1), (2, .int x2)], [.ref x0, .long v107, .long (v99 - v103), .long (v91 - v95), .long (v83 - v87), .long (v75 - v79), .long (v67 - v71), .ref x0], h, 0, 0)) rfl ?_
        obtain ⟨v109, e110, hq⟩ := bsm hq
        refine r_gR odX7_looksAll rfl rfl e110 ?_
        refine mB_run odX7_looksAll 1 (g := (248, [(6, .int ((24 : Int32) + v63)), (5, .int ((24 : Int32) + v59)), (4, .int v55), (3, .int v51), (0, .ref x0), (1, .int x1), (2, .int x2)], [.int ((24 : Int32) + v59), .ref v109, .long v107, .long (v99 - v103), .long (v91 - v95), .long (v83 - v87), .long (v75 - v79), .long (v67 - v71), .ref x0], h, 0, 0)) rfl ?_
        obtain ⟨v111, e112, hq⟩ := bsm hq
        refine r_aJ odX7_looksAll rfl e112 ?_
        refine mB_run odX7_looksAll 1 (g := (250, [(6, .int ((24 : Int32) + v63)), (5, .int ((24 : Int32) + v59)), (4, .int v55), (3, .int v51), (0, .ref x0), (1, .int x1), (2, .int x2)], [.long (v107 - v111), .long (v99 - v103), .long (v91 - v95), .long (v83 - v87), .long (v75 - v79), .long (v67 - v71), .ref x0], h, 0, 0)) rfl ?_
        obtain ⟨f115, k116, hq⟩ := bsm hq
        obtain ⟨o113, e114, hq⟩ := bsm hq
        refine mB_V (as := [.long (v67 - v71), .long (v75 - v79), .long (v83 - v87), .long (v91 - v95), .long (v99 - v103), .long (v107 - v111)]) odX7_looksAll okX7_crosses lk_7_334 rfl (exX7_crosses e114) (kO_at k116) rfl rfl rfl ?_
        show mB _ mX7_looksAll (253, [(6, .int ((24 : Int32) + v63)), (5, .int ((24 : Int32) + v59)), (4, .int v55), (3, .int v51), (0, .ref x0), (1, .int x1), (2, .int x2)], [], o113, 0, 0)
        refine mB_run odX7_looksAll 1 (g := (254, [(6, .int ((24 : Int32) + v63)), (5, .int ((24 : Int32) + v59)), (4, .int v55), (3, .int v51), (0, .ref x0), (1, .int x1), (2, .int x2)], [.ref x0], o113, 0, 0)) rfl ?_
        obtain ⟨f119, k120, hq⟩ := bsm hq
        obtain ⟨o117, e118, hq⟩ := bsm hq
        refine mB_V (as := []) odX7_looksAll okX7_looksBothWays lk_7_359 rfl (exX7_looksBothWays e118) (kO_at k120) rfl rfl rfl ?_
        show mB _ mX7_looksAll (257, [(6, .int ((24 : Int32) + v63)), (5, .int ((24 : Int32) + v59)), (4, .int v55), (3, .int v51), (0, .ref x0), (1, .int x1), (2, .int x2)], [], o117, 0, 0)
        refine mB_run odX7_looksAll 2 (g := (105, [(2, .int (x2 + (1 : Int32))), (6, .int ((24 : Int32) + v63)), (5, .int ((24 : Int32) + v59)), (4, .int v55), (3, .int v51), (0, .ref x0), (1, .int x1)], [], o117, 0, 0)) rfl ?_
        refine mB_lv [5, 6, 0] (lv' := [(0, .ref x0), (1, .int x1), (2, .int (x2 + (1 : Int32)))]) rfl ?_
        exact ih _ _ _ _ hq
      · rw [if_neg c48] at hq
        refine if_ne_T (t := 263) odX7_looksAll rfl rfl c48 ?_
        refine mB_lv [0, 1] (lv' := [(0, .ref x0), (1, .int x1)]) rfl ?_
        exact exX7_looksAll_263 hrec85 _ _ _ hq
def fxX7_looksAll_85 (N : Nat) : Nat → Nat → Int32 → mh → Option mh
  | 0, _, _, _ => none
  | n + 1, x0, x1, h =>
    (gR h x0 7 34).bind fun v33 =>
    (aI h v33 (0 : Int32)).bind fun v35 =>
    if v35 ≤ x1 then (
      some h) else (
      (gI h x0 7 54).bind fun v38 =>
      if v38 = 0 then (
        fxX7_looksAll_105 N (fxX7_looksAll_85 N n) N x0 x1 (80 : Int32) h) else (
        some h))
set_option maxHeartbeats 4000000 in
set_option maxRecDepth 100000 in
theorem exX7_looksAll_85 {N : Nat} : ∀ (n : Nat) (x0 : Nat) (x1 : Int32) (h : mh) {o : mh}, fxX7_looksAll_85 N n x0 x1 h = some o → mB (gO mX7_looksAll (o, none)) mX7_looksAll (85, [(0, .ref x0), (1, .int x1)], [], h, 0, 0) := by
  intro n
  induction n with
  | zero => intro x0 x1 h o hq; cases hq
  | succ n ih =>
    intro x0 x1 h o hq
    unfold fxX7_looksAll_85 at hq
    refine mB_run odX7_looksAll 2 (g := (87, [(0, .ref x0), (1, .int x1)], [.ref x0, .int x1], h, 0, 0)) rfl ?_
    obtain ⟨v33, e34, hq⟩ := bsm hq
    refine r_gR odX7_looksAll rfl rfl e34 ?_
    refine mB_run odX7_looksAll 1 (g := (91, [(0, .ref x0), (1, .int x1)], [.int (0 : Int32), .ref v33, .int x1], h, 0, 0)) rfl ?_
    obtain ⟨v35, e36, hq⟩ := bsm hq
    refine r_aI odX7_looksAll rfl e36 ?_
    by_cases c37 : v35 ≤ x1
    · rw [if_pos c37] at hq
      refine ic_ge_T (t := 269) odX7_looksAll rfl rfl c37 ?_
      cases hq
      exact mB_ret odX7_looksAll rfl
    · rw [if_neg c37] at hq
      refine ic_ge_F (t := 269) odX7_looksAll rfl rfl c37 ?_
      refine mB_run odX7_looksAll 1 (g := (96, [(0, .ref x0), (1, .int x1)], [.ref x0], h, 0, 0)) rfl ?_
      obtain ⟨v38, e39, hq⟩ := bsm hq
      refine r_gI odX7_looksAll rfl rfl e39 ?_
      by_cases c40 : v38 = 0
      · rw [if_pos c40] at hq
        refine if_ne_F (t := 269) odX7_looksAll rfl rfl c40 ?_
        refine mB_run odX7_looksAll 2 (g := (105, [(2, .int (80 : Int32)), (0, .ref x0), (1, .int x1)], [], h, 0, 0)) rfl ?_
        refine mB_lv [1, 2, 0] (lv' := [(0, .ref x0), (1, .int x1), (2, .int (80 : Int32))]) rfl ?_
        exact exX7_looksAll_105 ih N _ _ _ _ hq
      · rw [if_neg c40] at hq
        refine if_ne_T (t := 269) odX7_looksAll rfl rfl c40 ?_
        cases hq
        exact mB_ret odX7_looksAll rfl
def fxX7_looksAll_12 (N : Nat) : Nat → Nat → Int32 → mh → Option mh
  | 0, _, _, _ => none
  | n + 1, x0, x1, h =>
    if (2 : Int32) ≤ x1 then (
      fxX7_looksAll_85 N N x0 (0 : Int32) h) else (
      fxX7_looksAll_22 N (fxX7_looksAll_12 N n) N x0 x1 ((64 : Int32) * x1) h)
set_option maxHeartbeats 4000000 in
set_option maxRecDepth 100000 in
theorem exX7_looksAll_12 {N : Nat} : ∀ (n : Nat) (x0 : Nat) (x1 : Int32) (h : mh) {o : mh}, fxX7_looksAll_12 N n x0 x1 h = some o → mB (gO mX7_looksAll (o, none)) mX7_looksAll (12, [(0, .ref x0), (1, .int x1)], [], h, 0, 0) := by
  intro n
  induction n with
  | zero => intro x0 x1 h o hq; cases hq
  | succ n ih =>
    intro x0 x1 h o hq
    unfold fxX7_looksAll_12 at hq
    refine mB_run odX7_looksAll 2 (g := (14, [(0, .ref x0), (1, .int x1)], [.int (2 : Int32), .int x1], h, 0, 0)) rfl ?_
    by_cases c5 : (2 : Int32) ≤ x1
    · rw [if_pos c5] at hq
      refine ic_ge_T (t := 83) odX7_looksAll rfl rfl c5 ?_
      refine mB_run odX7_looksAll 2 (g := (85, [(1, .int (0 : Int32)), (0, .ref x0)], [], h, 0, 0)) rfl ?_
      refine mB_lv [1, 0] (lv' := [(0, .ref x0), (1, .int (0 : Int32))]) rfl ?_
      exact exX7_looksAll_85 N _ _ _ hq
    · rw [if_neg c5] at hq
      refine ic_ge_F (t := 83) odX7_looksAll rfl rfl c5 ?_
      refine mB_run odX7_looksAll 4 (g := (22, [(2, .int ((64 : Int32) * x1)), (0, .ref x0), (1, .int x1)], [], h, 0, 0)) rfl ?_
      refine mB_lv [1, 2, 0] (lv' := [(0, .ref x0), (1, .int x1), (2, .int ((64 : Int32) * x1))]) rfl ?_
      exact exX7_looksAll_22 ih N _ _ _ _ hq
def fxX7_looksAll (N : Nat) (p0 : Nat) (h : mh) : Option mh :=
  (sV h p0 7 55 (.int (0 : Int32))).bind fun h1 =>
  (sV h1 p0 7 54 (.int (0 : Int32))).bind fun h3 =>
  fxX7_looksAll_12 N N p0 (0 : Int32) h3
set_option maxHeartbeats 4000000 in
set_option maxRecDepth 100000 in
theorem exX7_looksAll {N : Nat} {p0 : Nat} {h : mh} {o : mh} (hq : fxX7_looksAll N p0 h = some o) : mC mX7_looksAll [.ref p0] h (o, none) := by
  refine mC_of okX7_looksAll (Nat.le_of_ble_eq_true rfl) ?_
  unfold fxX7_looksAll at hq
  show mB _ mX7_looksAll (0, [(0, .ref p0)], [], h, 0, 0)
  refine mB_run odX7_looksAll 2 (g := (2, [(0, .ref p0)], [.int (0 : Int32), .ref p0], h, 0, 0)) rfl ?_
  obtain ⟨h1, e2, hq⟩ := bsm hq
  refine r_sV odX7_looksAll rfl rfl rfl rfl e2 ?_
  refine mB_run odX7_looksAll 2 (g := (7, [(0, .ref p0)], [.int (0 : Int32), .ref p0], h1, 0, 0)) rfl ?_
  obtain ⟨h3, e4, hq⟩ := bsm hq
  refine r_sV odX7_looksAll rfl rfl rfl rfl e4 ?_
  refine mB_run odX7_looksAll 2 (g := (12, [(1, .int (0 : Int32)), (0, .ref p0)], [], h3, 0, 0)) rfl ?_
  refine mB_lv [1, 0] (lv' := [(0, .ref p0), (1, .int (0 : Int32))]) rfl ?_
  exact exX7_looksAll_12 N _ _ _ hq
def fxX7_sum_57 (N : Nat) (rec43 : Nat → Int32 → Int32 → mh → Option (mh × Int32)) : Nat → Nat → Int32 → Int32 → Int32 → mh → Option (mh × Int32)
  | 0, _, _, _, _, _ => none
  | n + 1, x0, x3, x4, x5, h =>
    (gR h x0 7 46).bind fun v43 =>
    (aI h v43 (1 : Int32)).bind fun v45 =>
    if v45 ≤ x5 then (
      rec43 x0 x3 (x4 + (1 : Int32)) h) else (
      (gR h x0 7 43).bind fun v48 =>
      (aJ h v48 x4).bind fun v50 =>
      (gR h x0 7 43).bind fun v52 =>
      (aJ h v52 ((24 : Int32) + x5)).bind fun v54 =>
      (gR h x0 7 44).bind fun v56 =>
      (aJ h v56 x4).bind fun v58 =>
      (gR h x0 7 44).bind fun v60 =>
      (aJ h v60 ((24 : Int32) + x5)).bind fun v62 =>
      (gR h x0 7 45).bind fun v64 =>
      (aJ h v64 x4).bind fun v66 =>
      (gR h x0 7 45).bind fun v68 =>
      (aJ h v68 ((24 : Int32) + x5)).bind fun v70 =>
      (kO h x0 7).bind fun f74 =>
      (fxX7_heaps N x0 (v50 + v54) (v58 + v62) (v66 + v70) h).bind fun o72 =>
      fxX7_sum_57 N rec43 n x0 x3 x4 (x5 + (1 : Int32)) o72)
set_option maxHeartbeats 4000000 in
set_option maxRecDepth 100000 in
theorem exX7_sum_57 {N : Nat} {rec43 : Nat → Int32 → Int32 → mh → Option (mh × Int32)} (hrec43 : ∀ (x0 : Nat) (x3 : Int32) (x4 : Int32) (h : mh) {o : (mh × Int32)}, rec43 x0 x3 x4 h = some o → mB (gO mX7_sum (o.1, some (.int o.2))) mX7_sum (43, [(0, .ref x0), (3, .int x3), (4, .int x4)], [], h, 0, 0)) : ∀ (n : Nat) (x0 : Nat) (x3 : Int32) (x4 : Int32) (x5 : Int32) (h : mh) {o : (mh × Int32)}, fxX7_sum_57 N rec43 n x0 x3 x4 x5 h = some o → mB (gO mX7_sum (o.1, some (.int o.2))) mX7_sum (57, [(0, .ref x0), (3, .int x3), (4, .int x4), (5, .int x5)], [], h, 0, 0) := by
  intro n
  induction n with
  | zero => intro x0 x3 x4 x5 h o hq; cases hq
  | succ n ih =>
    intro x0 x3 x4 x5 h o hq
    unfold fxX7_sum_57 at hq
    refine mB_run odX7_sum 2 (g := (60, [(0, .ref x0), (3, .int x3), (4, .int x4), (5, .int x5)], [.ref x0, .int x5], h, 0, 0)) rfl ?_
    obtain ⟨v43, e44, hq⟩ := bsm hq
    refine r_gR odX7_sum rfl rfl e44 ?_
    refine mB_run odX7_sum 1 (g := (64, [(0, .ref x0), (3, .int x3), (4, .int x4), (5, .int x5)], [.int (1 : Int32), .ref v43, .int x5], h, 0, 0)) rfl ?_
    obtain ⟨v45, e46, hq⟩ := bsm hq
    refine r_aI odX7_sum rfl e46 ?_
    by_cases c47 : v45 ≤ x5
    · rw [if_pos c47] at hq
      refine ic_ge_T (t := 132) odX7_sum rfl rfl c47 ?_
      refine mB_run odX7_sum 2 (g := (43, [(4, .int (x4 + (1 : Int32))), (0, .ref x0), (3, .int x3), (5, .int x5)], [], h, 0, 0)) rfl ?_
      refine mB_lv [1, 2, 0] (lv' := [(0, .ref x0), (3, .int x3), (4, .int (x4 + (1 : Int32)))]) rfl ?_
      exact hrec43 _ _ _ _ hq
    · rw [if_neg c47] at hq
      refine ic_ge_F (t := 132) odX7_sum rfl rfl c47 ?_
      refine mB_run odX7_sum 2 (g := (70, [(0, .ref x0), (3, .int x3), (4, .int x4), (5, .int x5)], [.ref x0, .ref x0], h, 0, 0)) rfl ?_
      obtain ⟨v48, e49, hq⟩ := bsm hq
      refine r_gR odX7_sum rfl rfl e49 ?_
      refine mB_run odX7_sum 1 (g := (75, [(0, .ref x0), (3, .int x3), (4, .int x4), (5, .int x5)], [.int x4, .ref v48, .ref x0], h, 0, 0)) rfl ?_
      obtain ⟨v50, e51, hq⟩ := bsm hq
      refine r_aJ odX7_sum rfl e51 ?_
      refine mB_run odX7_sum 1 (g := (77, [(0, .ref x0), (3, .int x3), (4, .int x4), (5, .int x5)], [.ref x0, .long v50, .ref x0], h, 0, 0)) rfl ?_
      obtain ⟨v52, e53, hq⟩ := bsm hq
      refine r_gR odX7_sum rfl rfl e53 ?_
      refine mB_run odX7_sum 3 (g := (85, [(0, .ref x0), (3, .int x3), (4, .int x4), (5, .int x5)], [.int ((24 : Int32) + x5), .ref v52, .long v50, .ref x0], h, 0, 0)) rfl ?_
      obtain ⟨v54, e55, hq⟩ := bsm hq
      refine r_aJ odX7_sum rfl e55 ?_
      refine mB_run odX7_sum 2 (g := (88, [(0, .ref x0), (3, .int x3), (4, .int x4), (5, .int x5)], [.ref x0, .long (v50 + v54), .ref x0], h, 0, 0)) rfl ?_
      obtain ⟨v56, e57, hq⟩ := bsm hq
      refine r_gR odX7_sum rfl rfl e57 ?_
      refine mB_run odX7_sum 1 (g := (93, [(0, .ref x0), (3, .int x3), (4, .int x4), (5, .int x5)], [.int x4, .ref v56, .long (v50 + v54), .ref x0], h, 0, 0)) rfl ?_
      obtain ⟨v58, e59, hq⟩ := bsm hq
      refine r_aJ odX7_sum rfl e59 ?_
      refine mB_run odX7_sum 1 (g := (95, [(0, .ref x0), (3, .int x3), (4, .int x4), (5, .int x5)], [.ref x0, .long v58, .long (v50 + v54), .ref x0], h, 0, 0)) rfl ?_
      obtain ⟨v60, e61, hq⟩ := bsm hq
      refine r_gR odX7_sum rfl rfl e61 ?_
      refine mB_run odX7_sum 3 (g := (103, [(0, .ref x0), (3, .int x3), (4, .int x4), (5, .int x5)], [.int ((24 : Int32) + x5), .ref v60, .long v58, .long (v50 + v54), .ref x0], h, 0, 0)) rfl ?_
      obtain ⟨v62, e63, hq⟩ := bsm hq
      refine r_aJ odX7_sum rfl e63 ?_
      refine mB_run odX7_sum 2 (g := (106, [(0, .ref x0), (3, .int x3), (4, .int x4), (5, .int x5)], [.ref x0, .long (v58 + v62), .long (v50 + v54), .ref x0], h, 0, 0)) rfl ?_
      obtain ⟨v64, e65, hq⟩ := bsm hq
      refine r_gR odX7_sum rfl rfl e65 ?_
      refine mB_run odX7_sum 1 (g := (111, [(0, .ref x0), (3, .int x3), (4, .int x4), (5, .int x5)], [.int x4, .ref v64, .long (v58 + v62), .long (v50 + v54), .ref x0], h, 0, 0)) rfl ?_
      obtain ⟨v66, e67, hq⟩ := bsm hq
      refine r_aJ odX7_sum rfl e67 ?_
      refine mB_run odX7_sum 1 (g := (113, [(0, .ref x0), (3, .int x3), (4, .int x4), (5, .int x5)], [.ref x0, .long v66, .long (v58 + v62), .long (v50 + v54), .ref x0], h, 0, 0)) rfl ?_
      obtain ⟨v68, e69, hq⟩ := bsm hq
      refine r_gR odX7_sum rfl rfl e69 ?_
      refine mB_run odX7_sum 3 (g := (121, [(0, .ref x0), (3, .int x3), (4, .int x4), (5, .int x5)], [.int ((24 : Int32) + x5), .ref v68, .long v66, .long (v58 + v62), .long (v50 + v54), .ref x0], h, 0, 0)) rfl ?_
      obtain ⟨v70, e71, hq⟩ := bsm hq
      refine r_aJ odX7_sum rfl e71 ?_
      refine mB_run odX7_sum 1 (g := (123, [(0, .ref x0), (3, .int x3), (4, .int x4), (5, .int x5)], [.long (v66 + v70), .long (v58 + v62), .long (v50 + v54), .ref x0], h, 0, 0)) rfl ?_
      obtain ⟨f74, k75, hq⟩ := bsm hq
      obtain ⟨o72, e73, hq⟩ := bsm hq
      refine mB_V (as := [.long (v50 + v54), .long (v58 + v62), .long (v66 + v70)]) odX7_sum okX7_heaps lk_7_222 rfl (exX7_heaps e73) (kO_at k75) rfl rfl rfl ?_
      show mB _ mX7_sum (126, [(0, .ref x0), (3, .int x3), (4, .int x4), (5, .int x5)], [], o72, 0, 0)
      refine mB_run odX7_sum 2 (g := (57, [(5, .int (x5 + (1 : Int32))), (0, .ref x0), (3, .int x3), (4, .int x4)], [], o72, 0, 0)) rfl ?_
      refine mB_lv [1, 2, 3, 0] (lv' := [(0, .ref x0), (3, .int x3), (4, .int x4), (5, .int (x5 + (1 : Int32)))]) rfl ?_
      exact ih _ _ _ _ _ hq
def fxX7_sum_247 (N : Nat) (x0 : Nat) (x3 : Int32) (x4 : Int32) (h : mh) : Option (mh × Int32) :=
  (kO h x0 7).bind fun f78 =>
  (fxX7_becomes N x0 x3 x4 h).bind fun o76 =>
  if o76.2 = 0 then (
    some (o76.1, (-2 : Int32))) else (
    some (o76.1, x4))
set_option maxHeartbeats 4000000 in
set_option maxRecDepth 100000 in
theorem exX7_sum_247 {N : Nat} (x0 : Nat) (x3 : Int32) (x4 : Int32) (h : mh) {o : (mh × Int32)} (hq : fxX7_sum_247 N x0 x3 x4 h = some o) : mB (gO mX7_sum (o.1, some (.int o.2))) mX7_sum (247, [(0, .ref x0), (3, .int x3), (4, .int x4)], [], h, 0, 0) := by
  unfold fxX7_sum_247 at hq
  refine mB_run odX7_sum 3 (g := (251, [(0, .ref x0), (3, .int x3), (4, .int x4)], [.int x4, .int x3, .ref x0], h, 0, 0)) rfl ?_
  obtain ⟨f78, k79, hq⟩ := bsm hq
  obtain ⟨o76, e77, hq⟩ := bsm hq
  refine mB_V (as := [.int x3, .int x4]) odX7_sum okX7_becomes lk_7_240 rfl (exX7_becomes e77) (kO_at k79) rfl rfl rfl ?_
  show mB _ mX7_sum (254, [(0, .ref x0), (3, .int x3), (4, .int x4)], [.int o76.2], o76.1, 0, 0)
  by_cases c80 : o76.2 = 0
  · rw [if_pos c80] at hq
    refine if_eq_T (t := 262) odX7_sum rfl rfl c80 ?_
    refine mB_run odX7_sum 1 (g := (264, [(0, .ref x0), (3, .int x3), (4, .int x4)], [.int (-2 : Int32)], o76.1, 0, 0)) rfl ?_
    cases hq
    exact mB_ret odX7_sum rfl
  · rw [if_neg c80] at hq
    refine if_eq_F (t := 262) odX7_sum rfl rfl c80 ?_
    refine mB_run odX7_sum 2 (g := (264, [(0, .ref x0), (3, .int x3), (4, .int x4)], [.int x4], o76.1, 0, 0)) rfl ?_
    cases hq
    exact mB_ret odX7_sum rfl
def fxX7_sum_215 (N : Nat) : Nat → Nat → Int32 → Int32 → Int32 → mh → Option (mh × Int32)
  | 0, _, _, _, _, _ => none
  | n + 1, x0, x3, x4, x5, h =>
    (gI h x0 7 15).bind fun v100 =>
    if v100 ≤ x5 then (
      fxX7_sum_247 N x0 x3 x4 h) else (
      (gR h x0 7 19).bind fun v103 =>
      (wZ h v103 x5 (1 : Int32)).bind fun h105 =>
      fxX7_sum_215 N n x0 x3 x4 (x5 + (1 : Int32)) h105)
set_option maxHeartbeats 4000000 in
set_option maxRecDepth 100000 in
theorem exX7_sum_215 {N : Nat} : ∀ (n : Nat) (x0 : Nat) (x3 : Int32) (x4 : Int32) (x5 : Int32) (h : mh) {o : (mh × Int32)}, fxX7_sum_215 N n x0 x3 x4 x5 h = some o → mB (gO mX7_sum (o.1, some (.int o.2))) mX7_sum (215, [(0, .ref x0), (3, .int x3), (4, .int x4), (5, .int x5)], [], h, 0, 0) := by
  intro n
  induction n with
  | zero => intro x0 x3 x4 x5 h o hq; cases hq
  | succ n ih =>
    intro x0 x3 x4 x5 h o hq
    unfold fxX7_sum_215 at hq
    refine mB_run odX7_sum 2 (g := (218, [(0, .ref x0), (3, .int x3), (4, .int x4), (5, .int x5)], [.ref x0, .int x5], h, 0, 0)) rfl ?_
    obtain ⟨v100, e101, hq⟩ := bsm hq
    refine r_gI odX7_sum rfl rfl e101 ?_
    by_cases c102 : v100 ≤ x5
    · rw [if_pos c102] at hq
      refine ic_ge_T (t := 238) odX7_sum rfl rfl c102 ?_
      refine mB_run odX7_sum 1 (g := (247, [(0, .ref x0), (3, .int x3), (4, .int x4), (5, .int x5)], [], h, 0, 0)) rfl ?_
      refine mB_lv [0, 1, 2] (lv' := [(0, .ref x0), (3, .int x3), (4, .int x4)]) rfl ?_
      exact exX7_sum_247 _ _ _ _ hq
    · rw [if_neg c102] at hq
      refine ic_ge_F (t := 238) odX7_sum rfl rfl c102 ?_
      refine mB_run odX7_sum 1 (g := (225, [(0, .ref x0), (3, .int x3), (4, .int x4), (5, .int x5)], [.ref x0], h, 0, 0)) rfl ?_
      obtain ⟨v103, e104, hq⟩ := bsm hq
      refine r_gR odX7_sum rfl rfl e104 ?_
      refine mB_run odX7_sum 2 (g := (231, [(0, .ref x0), (3, .int x3), (4, .int x4), (5, .int x5)], [.int (1 : Int32), .int x5, .ref v103], h, 0, 0)) rfl ?_
      obtain ⟨h105, e106, hq⟩ := bsm hq
      refine r_wZ odX7_sum rfl e106 ?_
      refine mB_run odX7_sum 2 (g := (215, [(5, .int (x5 + (1 : Int32))), (0, .ref x0), (3, .int x3), (4, .int x4)], [], h105, 0, 0)) rfl ?_
      refine mB_lv [1, 2, 3, 0] (lv' := [(0, .ref x0), (3, .int x3), (4, .int x4), (5, .int (x5 + (1 : Int32)))]) rfl ?_
      exact ih _ _ _ _ _ hq
def fxX7_sum_172 (N : Nat) : Nat → Nat → Int32 → Int32 → Int32 → mh → Option (mh × Int32)
  | 0, _, _, _, _, _ => none
  | n + 1, x0, x3, x4, x5, h =>
    (gI h x0 7 55).bind fun v81 =>
    if v81 ≤ x5 then (
      fxX7_sum_215 N N x0 x3 x4 (0 : Int32) h) else (
      (gR h x0 7 56).bind fun v84 =>
      (aJ h v84 x5).bind fun v86 =>
      (gR h x0 7 57).bind fun v88 =>
      (aJ h v88 x5).bind fun v90 =>
      (gR h x0 7 58).bind fun v92 =>
      (aJ h v92 x5).bind fun v94 =>
      (kO h x0 7).bind fun f98 =>
      (fxX7_heaps N x0 v86 v90 v94 h).bind fun o96 =>
      fxX7_sum_172 N n x0 x3 x4 (x5 + (1 : Int32)) o96)
set_option maxHeartbeats 4000000 in
set_option maxRecDepth 100000 in
theorem exX7_sum_172 {N : Nat} : ∀ (n : Nat) (x0 : Nat) (x3 : Int32) (x4 : Int32) (x5 : Int32) (h : mh) {o : (mh × Int32)}, fxX7_sum_172 N n x0 x3 x4 x5 h = some o → mB (gO mX7_sum (o.1, some (.int o.2))) mX7_sum (172, [(0, .ref x0), (3, .int x3), (4, .int x4), (5, .int x5)], [], h, 0, 0) := by
  intro n
  induction n with
  | zero => intro x0 x3 x4 x5 h o hq; cases hq
  | succ n ih =>
    intro x0 x3 x4 x5 h o hq
    unfold fxX7_sum_172 at hq
    refine mB_run odX7_sum 2 (g := (175, [(0, .ref x0), (3, .int x3), (4, .int x4), (5, .int x5)], [.ref x0, .int x5], h, 0, 0)) rfl ?_
    obtain ⟨v81, e82, hq⟩ := bsm hq
    refine r_gI odX7_sum rfl rfl e82 ?_
    by_cases c83 : v81 ≤ x5
    · rw [if_pos c83] at hq
      refine ic_ge_T (t := 212) odX7_sum rfl rfl c83 ?_
      refine mB_run odX7_sum 2 (g := (215, [(5, .int (0 : Int32)), (0, .ref x0), (3, .int x3), (4, .int x4)], [], h, 0, 0)) rfl ?_
      refine mB_lv [1, 2, 3, 0] (lv' := [(0, .ref x0), (3, .int x3), (4, .int x4), (5, .int (0 : Int32))]) rfl ?_
      exact exX7_sum_215 N _ _ _ _ _ hq
    · rw [if_neg c83] at hq
      refine ic_ge_F (t := 212) odX7_sum rfl rfl c83 ?_
      refine mB_run odX7_sum 2 (g := (183, [(0, .ref x0), (3, .int x3), (4, .int x4), (5, .int x5)], [.ref x0, .ref x0], h, 0, 0)) rfl ?_
      obtain ⟨v84, e85, hq⟩ := bsm hq
      refine r_gR odX7_sum rfl rfl e85 ?_
      refine mB_run odX7_sum 1 (g := (188, [(0, .ref x0), (3, .int x3), (4, .int x4), (5, .int x5)], [.int x5, .ref v84, .ref x0], h, 0, 0)) rfl ?_
      obtain ⟨v86, e87, hq⟩ := bsm hq
      refine r_aJ odX7_sum rfl e87 ?_
      refine mB_run odX7_sum 1 (g := (190, [(0, .ref x0), (3, .int x3), (4, .int x4), (5, .int x5)], [.ref x0, .long v86, .ref x0], h, 0, 0)) rfl ?_
      obtain ⟨v88, e89, hq⟩ := bsm hq
      refine r_gR odX7_sum rfl rfl e89 ?_
      refine mB_run odX7_sum 1 (g := (195, [(0, .ref x0), (3, .int x3), (4, .int x4), (5, .int x5)], [.int x5, .ref v88, .long v86, .ref x0], h, 0, 0)) rfl ?_
      obtain ⟨v90, e91, hq⟩ := bsm hq
      refine r_aJ odX7_sum rfl e91 ?_
      refine mB_run odX7_sum 1 (g := (197, [(0, .ref x0), (3, .int x3), (4, .int x4), (5, .int x5)], [.ref x0, .long v90, .long v86, .ref x0], h, 0, 0)) rfl ?_
      obtain ⟨v92, e93, hq⟩ := bsm hq
      refine r_gR odX7_sum rfl rfl e93 ?_
      refine mB_run odX7_sum 1 (g := (202, [(0, .ref x0), (3, .int x3), (4, .int x4), (5, .int x5)], [.int x5, .ref v92, .long v90, .long v86, .ref x0], h, 0, 0)) rfl ?_
      obtain ⟨v94, e95, hq⟩ := bsm hq
      refine r_aJ odX7_sum rfl e95 ?_
      obtain ⟨f98, k99, hq⟩ := bsm hq
      obtain ⟨o96, e97, hq⟩ := bsm hq
      refine mB_V (as := [.long v86, .long v90, .long v94]) odX7_sum okX7_heaps lk_7_222 rfl (exX7_heaps e97) (kO_at k99) rfl rfl rfl ?_
      show mB _ mX7_sum (206, [(0, .ref x0), (3, .int x3), (4, .int x4), (5, .int x5)], [], o96, 0, 0)
      refine mB_run odX7_sum 2 (g := (172, [(5, .int (x5 + (1 : Int32))), (0, .ref x0), (3, .int x3), (4, .int x4)], [], o96, 0, 0)) rfl ?_
      refine mB_lv [1, 2, 3, 0] (lv' := [(0, .ref x0), (3, .int x3), (4, .int x4), (5, .int (x5 + (1 : Int32)))]) rfl ?_
      exact ih _ _ _ _ _ hq
def fxX7_sum_43 (N : Nat) : Nat → Nat → Int32 → Int32 → mh → Option (mh × Int32)
  | 0, _, _, _, _ => none
  | n + 1, x0, x3, x4, h =>
    (gR h x0 7 46).bind fun v20 =>
    (aI h v20 (0 : Int32)).bind fun v22 =>
    if v22 ≤ x4 then (
      (kO h x0 7).bind fun f27 =>
      (fxX7_kindOfHeap N x0 h).bind fun o25 =>
      if o25.2 = (4 : Int32) then (
        (kO o25.1 x0 7).bind fun f32 =>
        (fxX7_looksAll N x0 o25.1).bind fun o30 =>
        (gI o30 x0 7 54).bind fun v34 =>
        if v34 = 0 then (
          (sV o30 x0 7 15 (.int (0 : Int32))).bind fun h37 =>
          fxX7_sum_172 N N x0 x3 o25.2 (0 : Int32) h37) else (
          some (o30, (-2 : Int32)))) else (
        (kO o25.1 x0 7).bind fun f41 =>
        (fxX7_hulls N x0 (0 : Int32) o25.1).bind fun o39 =>
        fxX7_sum_247 N x0 x3 o25.2 o39.1)) else (
      fxX7_sum_57 N (fxX7_sum_43 N n) N x0 x3 x4 (0 : Int32) h)
set_option maxHeartbeats 4000000 in
set_option maxRecDepth 100000 in
theorem exX7_sum_43 {N : Nat} : ∀ (n : Nat) (x0 : Nat) (x3 : Int32) (x4 : Int32) (h : mh) {o : (mh × Int32)}, fxX7_sum_43 N n x0 x3 x4 h = some o → mB (gO mX7_sum (o.1, some (.int o.2))) mX7_sum (43, [(0, .ref x0), (3, .int x3), (4, .int x4)], [], h, 0, 0) := by
  intro n
  induction n with
  | zero => intro x0 x3 x4 h o hq; cases hq
  | succ n ih =>
    intro x0 x3 x4 h o hq
    unfold fxX7_sum_43 at hq
    refine mB_run odX7_sum 2 (g := (46, [(0, .ref x0), (3, .int x3), (4, .int x4)], [.ref x0, .int x4], h, 0, 0)) rfl ?_
    obtain ⟨v20, e21, hq⟩ := bsm hq
    refine r_gR odX7_sum rfl rfl e21 ?_
    refine mB_run odX7_sum 1 (g := (50, [(0, .ref x0), (3, .int x3), (4, .int x4)], [.int (0 : Int32), .ref v20, .int x4], h, 0, 0)) rfl ?_
    obtain ⟨v22, e23, hq⟩ := bsm hq
    refine r_aI odX7_sum rfl e23 ?_
    by_cases c24 : v22 ≤ x4
    · rw [if_pos c24] at hq
      refine ic_ge_T (t := 138) odX7_sum rfl rfl c24 ?_
      refine mB_run odX7_sum 1 (g := (139, [(0, .ref x0), (3, .int x3), (4, .int x4)], [.ref x0], h, 0, 0)) rfl ?_
      obtain ⟨f27, k28, hq⟩ := bsm hq
      obtain ⟨o25, e26, hq⟩ := bsm hq
      refine mB_V (as := []) odX7_sum okX7_kindOfHeap lk_7_197 rfl (exX7_kindOfHeap e26) (kO_at k28) rfl rfl rfl ?_
      show mB _ mX7_sum (142, [(0, .ref x0), (3, .int x3), (4, .int x4)], [.int o25.2], o25.1, 0, 0)
      refine mB_run odX7_sum 3 (g := (147, [(4, .int o25.2), (0, .ref x0), (3, .int x3)], [.int (4 : Int32), .int o25.2], o25.1, 0, 0)) rfl ?_
      by_cases c29 : o25.2 = (4 : Int32)
      · rw [if_pos c29] at hq
        refine ic_ne_F (t := 241) odX7_sum rfl rfl c29 ?_
        refine mB_run odX7_sum 1 (g := (151, [(4, .int o25.2), (0, .ref x0), (3, .int x3)], [.ref x0], o25.1, 0, 0)) rfl ?_
        obtain ⟨f32, k33, hq⟩ := bsm hq
        obtain ⟨o30, e31, hq⟩ := bsm hq
        refine mB_V (as := []) odX7_sum okX7_looksAll lk_7_362 rfl (exX7_looksAll e31) (kO_at k33) rfl rfl rfl ?_
        show mB _ mX7_sum (154, [(4, .int o25.2), (0, .ref x0), (3, .int x3)], [], o30, 0, 0)
        refine mB_run odX7_sum 1 (g := (155, [(4, .int o25.2), (0, .ref x0), (3, .int x3)], [.ref x0], o30, 0, 0)) rfl ?_
        obtain ⟨v34, e35, hq⟩ := bsm hq
        refine r_gI odX7_sum rfl rfl e35 ?_
        by_cases c36 : v34 = 0
        · rw [if_pos c36] at hq
          refine if_eq_T (t := 164) odX7_sum rfl rfl c36 ?_
          refine mB_run odX7_sum 2 (g := (166, [(4, .int o25.2), (0, .ref x0), (3, .int x3)], [.int (0 : Int32), .ref x0], o30, 0, 0)) rfl ?_
          obtain ⟨h37, e38, hq⟩ := bsm hq
          refine r_sV odX7_sum rfl rfl rfl rfl e38 ?_
          refine mB_run odX7_sum 2 (g := (172, [(5, .int (0 : Int32)), (4, .int o25.2), (0, .ref x0), (3, .int x3)], [], h37, 0, 0)) rfl ?_
          refine mB_lv [2, 3, 1, 0] (lv' := [(0, .ref x0), (3, .int x3), (4, .int o25.2), (5, .int (0 : Int32))]) rfl ?_
          exact exX7_sum_172 N _ _ _ _ _ hq
        · rw [if_neg c36] at hq
          refine if_eq_F (t := 164) odX7_sum rfl rfl c36 ?_
          refine mB_run odX7_sum 1 (g := (163, [(4, .int o25.2), (0, .ref x0), (3, .int x3)], [.int (-2 : Int32)], o30, 0, 0)) rfl ?_
          cases hq
          exact mB_ret odX7_sum rfl
      · rw [if_neg c29] at hq
        refine ic_ne_T (t := 241) odX7_sum rfl rfl c29 ?_
        refine mB_run odX7_sum 2 (g := (243, [(4, .int o25.2), (0, .ref x0), (3, .int x3)], [.int (0 : Int32), .ref x0], o25.1, 0, 0)) rfl ?_
        obtain ⟨f41, k42, hq⟩ := bsm hq
        obtain ⟨o39, e40, hq⟩ := bsm hq
        refine mB_V (as := [.int (0 : Int32)]) odX7_sum okX7_hulls lk_7_229 rfl (exX7_hulls e40) (kO_at k42) rfl rfl rfl ?_
        show mB _ mX7_sum (246, [(4, .int o25.2), (0, .ref x0), (3, .int x3)], [.int o39.2], o39.1, 0, 0)
        refine mB_run odX7_sum 1 (g := (247, [(4, .int o25.2), (0, .ref x0), (3, .int x3)], [], o39.1, 0, 0)) rfl ?_
        refine mB_lv [1, 2, 0] (lv' := [(0, .ref x0), (3, .int x3), (4, .int o25.2)]) rfl ?_
        exact exX7_sum_247 _ _ _ _ hq
    · rw [if_neg c24] at hq
      refine ic_ge_F (t := 138) odX7_sum rfl rfl c24 ?_
      refine mB_run odX7_sum 2 (g := (57, [(5, .int (0 : Int32)), (0, .ref x0), (3, .int x3), (4, .int x4)], [], h, 0, 0)) rfl ?_
      refine mB_lv [1, 2, 3, 0] (lv' := [(0, .ref x0), (3, .int x3), (4, .int x4), (5, .int (0 : Int32))]) rfl ?_
      exact exX7_sum_57 ih N _ _ _ _ _ hq
def fxX7_sum (N : Nat) (p0 : Nat) (p1 : Int32) (p2 : Int32) (p3 : Int32) (h : mh) : Option (mh × Int32) :=
  (fxX7_isSolid N p1 h).bind fun o1 =>
  if o1.2 = 0 then (
    some (o1.1, (-1 : Int32))) else (
    (fxX7_isSolid N p2 o1.1).bind fun o4 =>
    if o4.2 = 0 then (
      some (o4.1, (-1 : Int32))) else (
      (fxX7_isSolid N p3 o4.1).bind fun o7 =>
      if o7.2 = 0 then (
        some (o7.1, (-1 : Int32))) else (
        (kO o7.1 p0 7).bind fun f12 =>
        (fxX7_owns N p0 p1 (0 : Int32) o7.1).bind fun o10 =>
        (kO o10 p0 7).bind fun f16 =>
        (fxX7_owns N p0 p2 (1 : Int32) o10).bind fun o14 =>
        (sV o14 p0 7 15 (.int (0 : Int32))).bind fun h18 =>
        fxX7_sum_43 N N p0 p3 (0 : Int32) h18)))
set_option maxHeartbeats 4000000 in
set_option maxRecDepth 100000 in
theorem exX7_sum {N : Nat} {p0 : Nat} {p1 : Int32} {p2 : Int32} {p3 : Int32} {h : mh} {o : (mh × Int32)} (hq : fxX7_sum N p0 p1 p2 p3 h = some o) : mC mX7_sum [.ref p0, .int p1, .int p2, .int p3] h (o.1, some (.int o.2)) := by
  refine mC_of okX7_sum (Nat.le_of_ble_eq_true rfl) ?_
  unfold fxX7_sum at hq
  show mB _ mX7_sum (0, [(0, .ref p0), (1, .int p1), (2, .int p2), (3, .int p3)], [], h, 0, 0)
  refine mB_run odX7_sum 1 (g := (1, [(0, .ref p0), (1, .int p1), (2, .int p2), (3, .int p3)], [.int p1], h, 0, 0)) rfl ?_
  obtain ⟨o1, e2, hq⟩ := bsm hq
  refine mB_S (as := [.int p1]) odX7_sum okX7_isSolid lk_7_133 rfl (exX7_isSolid e2) rfl rfl rfl ?_
  show mB _ mX7_sum (4, [(0, .ref p0), (1, .int p1), (2, .int p2), (3, .int p3)], [.int o1.2], o1.1, 0, 0)
  by_cases c3 : o1.2 = 0
  · rw [if_pos c3] at hq
    refine if_eq_T (t := 21) odX7_sum rfl rfl c3 ?_
    refine mB_run odX7_sum 1 (g := (22, [(0, .ref p0), (1, .int p1), (2, .int p2), (3, .int p3)], [.int (-1 : Int32)], o1.1, 0, 0)) rfl ?_
    cases hq
    exact mB_ret odX7_sum rfl
  · rw [if_neg c3] at hq
    refine if_eq_F (t := 21) odX7_sum rfl rfl c3 ?_
    refine mB_run odX7_sum 1 (g := (8, [(0, .ref p0), (1, .int p1), (2, .int p2), (3, .int p3)], [.int p2], o1.1, 0, 0)) rfl ?_
    obtain ⟨o4, e5, hq⟩ := bsm hq
    refine mB_S (as := [.int p2]) odX7_sum okX7_isSolid lk_7_133 rfl (exX7_isSolid e5) rfl rfl rfl ?_
    show mB _ mX7_sum (11, [(0, .ref p0), (1, .int p1), (2, .int p2), (3, .int p3)], [.int o4.2], o4.1, 0, 0)
    by_cases c6 : o4.2 = 0
    · rw [if_pos c6] at hq
      refine if_eq_T (t := 21) odX7_sum rfl rfl c6 ?_
      refine mB_run odX7_sum 1 (g := (22, [(0, .ref p0), (1, .int p1), (2, .int p2), (3, .int p3)], [.int (-1 : Int32)], o4.1, 0, 0)) rfl ?_
      cases hq
      exact mB_ret odX7_sum rfl
    · rw [if_neg c6] at hq
      refine if_eq_F (t := 21) odX7_sum rfl rfl c6 ?_
      refine mB_run odX7_sum 1 (g := (15, [(0, .ref p0), (1, .int p1), (2, .int p2), (3, .int p3)], [.int p3], o4.1, 0, 0)) rfl ?_
      obtain ⟨o7, e8, hq⟩ := bsm hq
      refine mB_S (as := [.int p3]) odX7_sum okX7_isSolid lk_7_133 rfl (exX7_isSolid e8) rfl rfl rfl ?_
      show mB _ mX7_sum (18, [(0, .ref p0), (1, .int p1), (2, .int p2), (3, .int p3)], [.int o7.2], o7.1, 0, 0)
      by_cases c9 : o7.2 = 0
      · rw [if_pos c9] at hq
        refine if_ne_F (t := 23) odX7_sum rfl rfl c9 ?_
        refine mB_run odX7_sum 1 (g := (22, [(0, .ref p0), (1, .int p1), (2, .int p2), (3, .int p3)], [.int (-1 : Int32)], o7.1, 0, 0)) rfl ?_
        cases hq
        exact mB_ret odX7_sum rfl
      · rw [if_neg c9] at hq
        refine if_ne_T (t := 23) odX7_sum rfl rfl c9 ?_
        refine mB_run odX7_sum 3 (g := (26, [(0, .ref p0), (1, .int p1), (2, .int p2), (3, .int p3)], [.int (0 : Int32), .int p1, .ref p0], o7.1, 0, 0)) rfl ?_
        obtain ⟨f12, k13, hq⟩ := bsm hq
        obtain ⟨o10, e11, hq⟩ := bsm hq
        refine mB_V (as := [.int p1, .int (0 : Int32)]) odX7_sum okX7_owns lk_7_279 rfl (exX7_owns e11) (kO_at k13) rfl rfl rfl ?_
        show mB _ mX7_sum (29, [(0, .ref p0), (1, .int p1), (2, .int p2), (3, .int p3)], [], o10, 0, 0)
        refine mB_run odX7_sum 3 (g := (32, [(0, .ref p0), (1, .int p1), (2, .int p2), (3, .int p3)], [.int (1 : Int32), .int p2, .ref p0], o10, 0, 0)) rfl ?_
        obtain ⟨f16, k17, hq⟩ := bsm hq
        obtain ⟨o14, e15, hq⟩ := bsm hq
        refine mB_V (as := [.int p2, .int (1 : Int32)]) odX7_sum okX7_owns lk_7_279 rfl (exX7_owns e15) (kO_at k17) rfl rfl rfl ?_
        show mB _ mX7_sum (35, [(0, .ref p0), (1, .int p1), (2, .int p2), (3, .int p3)], [], o14, 0, 0)
        refine mB_run odX7_sum 2 (g := (37, [(0, .ref p0), (1, .int p1), (2, .int p2), (3, .int p3)], [.int (0 : Int32), .ref p0], o14, 0, 0)) rfl ?_
        obtain ⟨h18, e19, hq⟩ := bsm hq
        refine r_sV odX7_sum rfl rfl rfl rfl e19 ?_
        refine mB_run odX7_sum 2 (g := (43, [(4, .int (0 : Int32)), (0, .ref p0), (1, .int p1), (2, .int p2), (3, .int p3)], [], h18, 0, 0)) rfl ?_
        refine mB_lv [1, 4, 0] (lv' := [(0, .ref p0), (3, .int p3), (4, .int (0 : Int32))]) rfl ?_
        exact exX7_sum_43 N _ _ _ _ hq
def fxX7_cornerAt (N : Nat) (p0 : Nat) (p1 : Int32) (h : mh) : Option mh :=
  (gR h p0 7 43).bind fun v1 =>
  (aJ h v1 p1).bind fun v3 =>
  (gR h p0 7 44).bind fun v5 =>
  (aJ h v5 p1).bind fun v7 =>
  (gR h p0 7 45).bind fun v9 =>
  (aJ h v9 p1).bind fun v11 =>
  (kO h p0 7).bind fun f15 =>
  (fxX7_points N p0 v3 v7 v11 (1 : Int64) h).bind fun o13 =>
  some o13
set_option maxHeartbeats 4000000 in
set_option maxRecDepth 100000 in
theorem exX7_cornerAt {N : Nat} {p0 : Nat} {p1 : Int32} {h : mh} {o : mh} (hq : fxX7_cornerAt N p0 p1 h = some o) : mC mX7_cornerAt [.ref p0, .int p1] h (o, none) := by
  refine mC_of okX7_cornerAt (Nat.le_of_ble_eq_true rfl) ?_
  unfold fxX7_cornerAt at hq
  show mB _ mX7_cornerAt (0, [(0, .ref p0), (1, .int p1)], [], h, 0, 0)
  refine mB_run odX7_cornerAt 2 (g := (2, [(0, .ref p0), (1, .int p1)], [.ref p0, .ref p0], h, 0, 0)) rfl ?_
  obtain ⟨v1, e2, hq⟩ := bsm hq
  refine r_gR odX7_cornerAt rfl rfl e2 ?_
  refine mB_run odX7_cornerAt 1 (g := (6, [(0, .ref p0), (1, .int p1)], [.int p1, .ref v1, .ref p0], h, 0, 0)) rfl ?_
  obtain ⟨v3, e4, hq⟩ := bsm hq
  refine r_aJ odX7_cornerAt rfl e4 ?_
  refine mB_run odX7_cornerAt 1 (g := (8, [(0, .ref p0), (1, .int p1)], [.ref p0, .long v3, .ref p0], h, 0, 0)) rfl ?_
  obtain ⟨v5, e6, hq⟩ := bsm hq
  refine r_gR odX7_cornerAt rfl rfl e6 ?_
  refine mB_run odX7_cornerAt 1 (g := (12, [(0, .ref p0), (1, .int p1)], [.int p1, .ref v5, .long v3, .ref p0], h, 0, 0)) rfl ?_
  obtain ⟨v7, e8, hq⟩ := bsm hq
  refine r_aJ odX7_cornerAt rfl e8 ?_
  refine mB_run odX7_cornerAt 1 (g := (14, [(0, .ref p0), (1, .int p1)], [.ref p0, .long v7, .long v3, .ref p0], h, 0, 0)) rfl ?_
  obtain ⟨v9, e10, hq⟩ := bsm hq
  refine r_gR odX7_cornerAt rfl rfl e10 ?_
  refine mB_run odX7_cornerAt 1 (g := (18, [(0, .ref p0), (1, .int p1)], [.int p1, .ref v9, .long v7, .long v3, .ref p0], h, 0, 0)) rfl ?_
  obtain ⟨v11, e12, hq⟩ := bsm hq
  refine r_aJ odX7_cornerAt rfl e12 ?_
  refine mB_run odX7_cornerAt 1 (g := (20, [(0, .ref p0), (1, .int p1)], [.long (1 : Int64), .long v11, .long v7, .long v3, .ref p0], h, 0, 0)) rfl ?_
  obtain ⟨f15, k16, hq⟩ := bsm hq
  obtain ⟨o13, e14, hq⟩ := bsm hq
  refine mB_V (as := [.long v3, .long v7, .long v11, .long (1 : Int64)]) odX7_cornerAt okX7_points lk_7_281 rfl (exX7_points e14) (kO_at k16) rfl rfl rfl ?_
  show mB _ mX7_cornerAt (23, [(0, .ref p0), (1, .int p1)], [], o13, 0, 0)
  cases hq
  exact mB_ret odX7_cornerAt rfl
def fxX7_toEdge (N : Nat) (p0 : Nat) (p1 : Int32) (p2 : Int32) (p3 : Int32) (h : mh) : Option mh :=
  (gR h p0 7 43).bind fun v1 =>
  (aJ h v1 p3).bind fun v3 =>
  (gR h p0 7 43).bind fun v5 =>
  (aJ h v5 p2).bind fun v7 =>
  (gR h p0 7 44).bind fun v9 =>
  (aJ h v9 p3).bind fun v11 =>
  (gR h p0 7 44).bind fun v13 =>
  (aJ h v13 p2).bind fun v15 =>
  (gR h p0 7 45).bind fun v17 =>
  (aJ h v17 p3).bind fun v19 =>
  (gR h p0 7 45).bind fun v21 =>
  (aJ h v21 p2).bind fun v23 =>
  (gR h p0 7 43).bind fun v25 =>
  (aJ h v25 p1).bind fun v27 =>
  (gR h p0 7 43).bind fun v29 =>
  (aJ h v29 p2).bind fun v31 =>
  (gR h p0 7 44).bind fun v33 =>
  (aJ h v33 p1).bind fun v35 =>
  (gR h p0 7 44).bind fun v37 =>
  (aJ h v37 p2).bind fun v39 =>
  (gR h p0 7 45).bind fun v41 =>
  (aJ h v41 p1).bind fun v43 =>
  (gR h p0 7 45).bind fun v45 =>
  (aJ h v45 p2).bind fun v47 =>
  if ((((v3 - v7) * (v27 - v31)) + ((v11 - v15) * (v35 - v39))) + ((v19 - v23) * (v43 - v47))) < (0 : Int64) then (
    some h) else (
    if ((((v3 - v7) * (v27 - v31)) + ((v11 - v15) * (v35 - v39))) + ((v19 - v23) * (v43 - v47))) ≤ ((((v3 - v7) * (v3 - v7)) + ((v11 - v15) * (v11 - v15))) + ((v19 - v23) * (v19 - v23))) then (
      (kO h p0 7).bind fun f53 =>
      (fxX7_tries N p0 ((((((v27 - v31) * (v27 - v31)) + ((v35 - v39) * (v35 - v39))) + ((v43 - v47) * (v43 - v47))) * ((((v3 - v7) * (v3 - v7)) + ((v11 - v15) * (v11 - v15))) + ((v19 - v23) * (v19 - v23)))) - (((((v3 - v7) * (v27 - v31)) + ((v11 - v15) * (v35 - v39))) + ((v19 - v23) * (v43 - v47))) * ((((v3 - v7) * (v27 - v31)) + ((v11 - v15) * (v35 - v39))) + ((v19 - v23) * (v43 - v47))))) ((((v3 - v7) * (v3 - v7)) + ((v11 - v15) * (v11 - v15))) + ((v19 - v23) * (v19 - v23))) h).bind fun o51 =>
      some o51) else (
      some h))
set_option maxHeartbeats 4000000 in
set_option maxRecDepth 100000 in
theorem exX7_toEdge {N : Nat} {p0 : Nat} {p1 : Int32} {p2 : Int32} {p3 : Int32} {h : mh} {o : mh} (hq : fxX7_toEdge N p0 p1 p2 p3 h = some o) : mC mX7_toEdge [.ref p0, .int p1, .int p2, .int p3] h (o, none) := by
  refine mC_of okX7_toEdge (Nat.le_of_ble_eq_true rfl) ?_
  unfold fxX7_toEdge at hq
  show mB _ mX7_toEdge (0, [(0, .ref p0), (1, .int p1), (2, .int p2), (3, .int p3)], [], h, 0, 0)
  refine mB_run odX7_toEdge 1 (g := (1, [(0, .ref p0), (1, .int p1), (2, .int p2), (3, .int p3)], [.ref p0], h, 0, 0)) rfl ?_
  obtain ⟨v1, e2, hq⟩ := bsm hq
  refine r_gR odX7_toEdge rfl rfl e2 ?_
  refine mB_run odX7_toEdge 1 (g := (5, [(0, .ref p0), (1, .int p1), (2, .int p2), (3, .int p3)], [.int p3, .ref v1], h, 0, 0)) rfl ?_
  obtain ⟨v3, e4, hq⟩ := bsm hq
  refine r_aJ odX7_toEdge rfl e4 ?_
  refine mB_run odX7_toEdge 1 (g := (7, [(0, .ref p0), (1, .int p1), (2, .int p2), (3, .int p3)], [.ref p0, .long v3], h, 0, 0)) rfl ?_
  obtain ⟨v5, e6, hq⟩ := bsm hq
  refine r_gR odX7_toEdge rfl rfl e6 ?_
  refine mB_run odX7_toEdge 1 (g := (11, [(0, .ref p0), (1, .int p1), (2, .int p2), (3, .int p3)], [.int p2, .ref v5, .long v3], h, 0, 0)) rfl ?_
  obtain ⟨v7, e8, hq⟩ := bsm hq
  refine r_aJ odX7_toEdge rfl e8 ?_
  refine mB_run odX7_toEdge 3 (g := (16, [(4, .long (v3 - v7)), (0, .ref p0), (1, .int p1), (2, .int p2), (3, .int p3)], [.ref p0], h, 0, 0)) rfl ?_
  obtain ⟨v9, e10, hq⟩ := bsm hq
  refine r_gR odX7_toEdge rfl rfl e10 ?_
  refine mB_run odX7_toEdge 1 (g := (20, [(4, .long (v3 - v7)), (0, .ref p0), (1, .int p1), (2, .int p2), (3, .int p3)], [.int p3, .ref v9], h, 0, 0)) rfl ?_
  obtain ⟨v11, e12, hq⟩ := bsm hq
  refine r_aJ odX7_toEdge rfl e12 ?_
  refine mB_run odX7_toEdge 1 (g := (22, [(4, .long (v3 - v7)), (0, .ref p0), (1, .int p1), (2, .int p2), (3, .int p3)], [.ref p0, .long v11], h, 0, 0)) rfl ?_
  obtain ⟨v13, e14, hq⟩ := bsm hq
  refine r_gR odX7_toEdge rfl rfl e14 ?_
  refine mB_run odX7_toEdge 1 (g := (26, [(4, .long (v3 - v7)), (0, .ref p0), (1, .int p1), (2, .int p2), (3, .int p3)], [.int p2, .ref v13, .long v11], h, 0, 0)) rfl ?_
  obtain ⟨v15, e16, hq⟩ := bsm hq
  refine r_aJ odX7_toEdge rfl e16 ?_
  refine mB_run odX7_toEdge 3 (g := (31, [(6, .long (v11 - v15)), (4, .long (v3 - v7)), (0, .ref p0), (1, .int p1), (2, .int p2), (3, .int p3)], [.ref p0], h, 0, 0)) rfl ?_
  obtain ⟨v17, e18, hq⟩ := bsm hq
  refine r_gR odX7_toEdge rfl rfl e18 ?_
  refine mB_run odX7_toEdge 1 (g := (35, [(6, .long (v11 - v15)), (4, .long (v3 - v7)), (0, .ref p0), (1, .int p1), (2, .int p2), (3, .int p3)], [.int p3, .ref v17], h, 0, 0)) rfl ?_
  obtain ⟨v19, e20, hq⟩ := bsm hq
  refine r_aJ odX7_toEdge rfl e20 ?_
  refine mB_run odX7_toEdge 1 (g := (37, [(6, .long (v11 - v15)), (4, .long (v3 - v7)), (0, .ref p0), (1, .int p1), (2, .int p2), (3, .int p3)], [.ref p0, .long v19], h, 0, 0)) rfl ?_
  obtain ⟨v21, e22, hq⟩ := bsm hq
  refine r_gR odX7_toEdge rfl rfl e22 ?_
  refine mB_run odX7_toEdge 1 (g := (41, [(6, .long (v11 - v15)), (4, .long (v3 - v7)), (0, .ref p0), (1, .int p1), (2, .int p2), (3, .int p3)], [.int p2, .ref v21, .long v19], h, 0, 0)) rfl ?_
  obtain ⟨v23, e24, hq⟩ := bsm hq
  refine r_aJ odX7_toEdge rfl e24 ?_
  refine mB_run odX7_toEdge 3 (g := (46, [(8, .long (v19 - v23)), (6, .long (v11 - v15)), (4, .long (v3 - v7)), (0, .ref p0), (1, .int p1), (2, .int p2), (3, .int p3)], [.ref p0], h, 0, 0)) rfl ?_
  obtain ⟨v25, e26, hq⟩ := bsm hq
  refine r_gR odX7_toEdge rfl rfl e26 ?_
  refine mB_run odX7_toEdge 1 (g := (50, [(8, .long (v19 - v23)), (6, .long (v11 - v15)), (4, .long (v3 - v7)), (0, .ref p0), (1, .int p1), (2, .int p2), (3, .int p3)], [.int p1, .ref v25], h, 0, 0)) rfl ?_
  obtain ⟨v27, e28, hq⟩ := bsm hq
  refine r_aJ odX7_toEdge rfl e28 ?_
  refine mB_run odX7_toEdge 1 (g := (52, [(8, .long (v19 - v23)), (6, .long (v11 - v15)), (4, .long (v3 - v7)), (0, .ref p0), (1, .int p1), (2, .int p2), (3, .int p3)], [.ref p0, .long v27], h, 0, 0)) rfl ?_
  obtain ⟨v29, e30, hq⟩ := bsm hq
  refine r_gR odX7_toEdge rfl rfl e30 ?_
  refine mB_run odX7_toEdge 1 (g := (56, [(8, .long (v19 - v23)), (6, .long (v11 - v15)), (4, .long (v3 - v7)), (0, .ref p0), (1, .int p1), (2, .int p2), (3, .int p3)], [.int p2, .ref v29, .long v27], h, 0, 0)) rfl ?_
  obtain ⟨v31, e32, hq⟩ := bsm hq
  refine r_aJ odX7_toEdge rfl e32 ?_
  refine mB_run odX7_toEdge 3 (g := (61, [(10, .long (v27 - v31)), (8, .long (v19 - v23)), (6, .long (v11 - v15)), (4, .long (v3 - v7)), (0, .ref p0), (1, .int p1), (2, .int p2), (3, .int p3)], [.ref p0], h, 0, 0)) rfl ?_
  obtain ⟨v33, e34, hq⟩ := bsm hq
  refine r_gR odX7_toEdge rfl rfl e34 ?_
  refine mB_run odX7_toEdge 1 (g := (65, [(10, .long (v27 - v31)), (8, .long (v19 - v23)), (6, .long (v11 - v15)), (4, .long (v3 - v7)), (0, .ref p0), (1, .int p1), (2, .int p2), (3, .int p3)], [.int p1, .ref v33], h, 0, 0)) rfl ?_
  obtain ⟨v35, e36, hq⟩ := bsm hq
  refine r_aJ odX7_toEdge rfl e36 ?_
  refine mB_run odX7_toEdge 1 (g := (67, [(10, .long (v27 - v31)), (8, .long (v19 - v23)), (6, .long (v11 - v15)), (4, .long (v3 - v7)), (0, .ref p0), (1, .int p1), (2, .int p2), (3, .int p3)], [.ref p0, .long v35], h, 0, 0)) rfl ?_
  obtain ⟨v37, e38, hq⟩ := bsm hq
  refine r_gR odX7_toEdge rfl rfl e38 ?_
  refine mB_run odX7_toEdge 1 (g := (71, [(10, .long (v27 - v31)), (8, .long (v19 - v23)), (6, .long (v11 - v15)), (4, .long (v3 - v7)), (0, .ref p0), (1, .int p1), (2, .int p2), (3, .int p3)], [.int p2, .ref v37, .long v35], h, 0, 0)) rfl ?_
  obtain ⟨v39, e40, hq⟩ := bsm hq
  refine r_aJ odX7_toEdge rfl e40 ?_
  refine mB_run odX7_toEdge 3 (g := (76, [(12, .long (v35 - v39)), (10, .long (v27 - v31)), (8, .long (v19 - v23)), (6, .long (v11 - v15)), (4, .long (v3 - v7)), (0, .ref p0), (1, .int p1), (2, .int p2), (3, .int p3)], [.ref p0], h, 0, 0)) rfl ?_
  obtain ⟨v41, e42, hq⟩ := bsm hq
  refine r_gR odX7_toEdge rfl rfl e42 ?_
  refine mB_run odX7_toEdge 1 (g := (80, [(12, .long (v35 - v39)), (10, .long (v27 - v31)), (8, .long (v19 - v23)), (6, .long (v11 - v15)), (4, .long (v3 - v7)), (0, .ref p0), (1, .int p1), (2, .int p2), (3, .int p3)], [.int p1, .ref v41], h, 0, 0)) rfl ?_
  obtain ⟨v43, e44, hq⟩ := bsm hq
  refine r_aJ odX7_toEdge rfl e44 ?_
  refine mB_run odX7_toEdge 1 (g := (82, [(12, .long (v35 - v39)), (10, .long (v27 - v31)), (8, .long (v19 - v23)), (6, .long (v11 - v15)), (4, .long (v3 - v7)), (0, .ref p0), (1, .int p1), (2, .int p2), (3, .int p3)], [.ref p0, .long v43], h, 0, 0)) rfl ?_
  obtain ⟨v45, e46, hq⟩ := bsm hq
  refine r_gR odX7_toEdge rfl rfl e46 ?_
  refine mB_run odX7_toEdge 1 (g := (86, [(12, .long (v35 - v39)), (10, .long (v27 - v31)), (8, .long (v19 - v23)), (6, .long (v11 - v15)), (4, .long (v3 - v7)), (0, .ref p0), (1, .int p1), (2, .int p2), (3, .int p3)], [.int p2, .ref v45, .long v43], h, 0, 0)) rfl ?_
  obtain ⟨v47, e48, hq⟩ := bsm hq
  refine r_aJ odX7_toEdge rfl e48 ?_
  refine mB_run odX7_toEdge 12 (g := (106, [(14, .long (v43 - v47)), (12, .long (v35 - v39)), (10, .long (v27 - v31)), (8, .long (v19 - v23)), (6, .long (v11 - v15)), (4, .long (v3 - v7)), (0, .ref p0), (1, .int p1), (2, .int p2), (3, .int p3)], [.long ((v19 - v23) * (v43 - v47)), .long (((v3 - v7) * (v27 - v31)) + ((v11 - v15) * (v35 - v39)))], h, 0, 0)) rfl ?_
  refine mB_run odX7_toEdge 12 (g := (125, [(16, .long ((((v3 - v7) * (v27 - v31)) + ((v11 - v15) * (v35 - v39))) + ((v19 - v23) * (v43 - v47)))), (14, .long (v43 - v47)), (12, .long (v35 - v39)), (10, .long (v27 - v31)), (8, .long (v19 - v23)), (6, .long (v11 - v15)), (4, .long (v3 - v7)), (0, .ref p0), (1, .int p1), (2, .int p2), (3, .int p3)], [.long ((v19 - v23) * (v19 - v23)), .long (((v3 - v7) * (v3 - v7)) + ((v11 - v15) * (v11 - v15)))], h, 0, 0)) rfl ?_
  refine mB_run odX7_toEdge 4 (g := (131, [(18, .long ((((v3 - v7) * (v3 - v7)) + ((v11 - v15) * (v11 - v15))) + ((v19 - v23) * (v19 - v23)))), (16, .long ((((v3 - v7) * (v27 - v31)) + ((v11 - v15) * (v35 - v39))) + ((v19 - v23) * (v43 - v47)))), (14, .long (v43 - v47)), (12, .long (v35 - v39)), (10, .long (v27 - v31)), (8, .long (v19 - v23)), (6, .long (v11 - v15)), (4, .long (v3 - v7)), (0, .ref p0), (1, .int p1), (2, .int p2), (3, .int p3)], [.long (0 : Int64), .long ((((v3 - v7) * (v27 - v31)) + ((v11 - v15) * (v35 - v39))) + ((v19 - v23) * (v43 - v47)))], h, 0, 0)) rfl ?_
  by_cases c49 : ((((v3 - v7) * (v27 - v31)) + ((v11 - v15) * (v35 - v39))) + ((v19 - v23) * (v43 - v47))) < (0 : Int64)
  · rw [if_pos c49] at hq
    refine lc_lt_T (t := 143) odX7_toEdge rfl rfl rfl c49 ?_
    cases hq
    exact mB_ret odX7_toEdge rfl
  · rw [if_neg c49] at hq
    refine lc_lt_F (t := 143) odX7_toEdge rfl rfl rfl c49 ?_
    refine mB_run odX7_toEdge 2 (g := (139, [(18, .long ((((v3 - v7) * (v3 - v7)) + ((v11 - v15) * (v11 - v15))) + ((v19 - v23) * (v19 - v23)))), (16, .long ((((v3 - v7) * (v27 - v31)) + ((v11 - v15) * (v35 - v39))) + ((v19 - v23) * (v43 - v47)))), (14, .long (v43 - v47)), (12, .long (v35 - v39)), (10, .long (v27 - v31)), (8, .long (v19 - v23)), (6, .long (v11 - v15)), (4, .long (v3 - v7)), (0, .ref p0), (1, .int p1), (2, .int p2), (3, .int p3)], [.long ((((v3 - v7) * (v3 - v7)) + ((v11 - v15) * (v11 - v15))) + ((v19 - v23) * (v19 - v23))), .long ((((v3 - v7) * (v27 - v31)) + ((v11 - v15) * (v35 - v39))) + ((v19 - v23) * (v43 - v47)))], h, 0, 0)) rfl ?_
    by_cases c50 : ((((v3 - v7) * (v27 - v31)) + ((v11 - v15) * (v35 - v39))) + ((v19 - v23) * (v43 - v47))) ≤ ((((v3 - v7) * (v3 - v7)) + ((v11 - v15) * (v11 - v15))) + ((v19 - v23) * (v19 - v23)))
    · rw [if_pos c50] at hq
      refine lc_le_T (t := 144) odX7_toEdge rfl rfl rfl c50 ?_
      refine mB_run odX7_toEdge 12 (g := (162, [(18, .long ((((v3 - v7) * (v3 - v7)) + ((v11 - v15) * (v11 - v15))) + ((v19 - v23) * (v19 - v23)))), (16, .long ((((v3 - v7) * (v27 - v31)) + ((v11 - v15) * (v35 - v39))) + ((v19 - v23) * (v43 - v47)))), (14, .long (v43 - v47)), (12, .long (v35 - v39)), (10, .long (v27 - v31)), (8, .long (v19 - v23)), (6, .long (v11 - v15)), (4, .long (v3 - v7)), (0, .ref p0), (1, .int p1), (2, .int p2), (3, .int p3)], [.long ((((v27 - v31) * (v27 - v31)) + ((v35 - v39) * (v35 - v39))) + ((v43 - v47) * (v43 - v47))), .ref p0], h, 0, 0)) rfl ?_
      refine mB_run odX7_toEdge 7 (g := (173, [(18, .long ((((v3 - v7) * (v3 - v7)) + ((v11 - v15) * (v11 - v15))) + ((v19 - v23) * (v19 - v23)))), (16, .long ((((v3 - v7) * (v27 - v31)) + ((v11 - v15) * (v35 - v39))) + ((v19 - v23) * (v43 - v47)))), (14, .long (v43 - v47)), (12, .long (v35 - v39)), (10, .long (v27 - v31)), (8, .long (v19 - v23)), (6, .long (v11 - v15)), (4, .long (v3 - v7)), (0, .ref p0), (1, .int p1), (2, .int p2), (3, .int p3)], [.long ((((v3 - v7) * (v3 - v7)) + ((v11 - v15) * (v11 - v15))) + ((v19 - v23) * (v19 - v23))), .long ((((((v27 - v31) * (v27 - v31)) + ((v35 - v39) * (v35 - v39))) + ((v43 - v47) * (v43 - v47))) * ((((v3 - v7) * (v3 - v7)) + ((v11 - v15) * (v11 - v15))) + ((v19 - v23) * (v19 - v23)))) - (((((v3 - v7) * (v27 - v31)) + ((v11 - v15) * (v35 - v39))) + ((v19 - v23) * (v43 - v47))) * ((((v3 - v7) * (v27 - v31)) + ((v11 - v15) * (v35 - v39))) + ((v19 - v23) * (v43 - v47))))), .ref p0], h, 0, 0)) rfl ?_
      obtain ⟨f53, k54, hq⟩ := bsm hq
      obtain ⟨o51, e52, hq⟩ := bsm hq
      refine mB_V (as := [.long ((((((v27 - v31) * (v27 - v31)) + ((v35 - v39) * (v35 - v39))) + ((v43 - v47) * (v43 - v47))) * ((((v3 - v7) * (v3 - v7)) + ((v11 - v15) * (v11 - v15))) + ((v19 - v23) * (v19 - v23)))) - (((((v3 - v7) * (v27 - v31)) + ((v11 - v15) * (v35 - v39))) + ((v19 - v23) * (v43 - v47))) * ((((v3 - v7) * (v27 - v31)) + ((v11 - v15) * (v35 - v39))) + ((v19 - v23) * (v43 - v47))))), .long ((((v3 - v7) * (v3 - v7)) + ((v11 - v15) * (v11 - v15))) + ((v19 - v23) * (v19 - v23)))]) odX7_toEdge okX7_tries lk_7_327 rfl (exX7_tries e52) (kO_at k54) rfl rfl rfl ?_
      show mB _ mX7_toEdge (176, [(18, .long ((((v3 - v7) * (v3 - v7)) + ((v11 - v15) * (v11 - v15))) + ((v19 - v23) * (v19 - v23)))), (16, .long ((((v3 - v7) * (v27 - v31)) + ((v11 - v15) * (v35 - v39))) + ((v19 - v23) * (v43 - v47)))), (14, .long (v43 - v47)), (12, .long (v35 - v39)), (10, .long (v27 - v31)), (8, .long (v19 - v23)), (6, .long (v11 - v15)), (4, .long (v3 - v7)), (0, .ref p0), (1, .int p1), (2, .int p2), (3, .int p3)], [], o51, 0, 0)
      cases hq
      exact mB_ret odX7_toEdge rfl
    · rw [if_neg c50] at hq
      refine lc_le_F (t := 144) odX7_toEdge rfl rfl rfl c50 ?_
      cases hq
      exact mB_ret odX7_toEdge rfl
def fxX7_toCorner (N : Nat) (p0 : Nat) (p1 : Int32) (p2 : Int32) (h : mh) : Option mh :=
  (gR h p0 7 43).bind fun v1 =>
  (aJ h v1 p1).bind fun v3 =>
  (gR h p0 7 43).bind fun v5 =>
  (aJ h v5 p2).bind fun v7 =>
  (gR h p0 7 44).bind fun v9 =>
  (aJ h v9 p1).bind fun v11 =>
  (gR h p0 7 44).bind fun v13 =>
  (aJ h v13 p2).bind fun v15 =>
  (gR h p0 7 45).bind fun v17 =>
  (aJ h v17 p1).bind fun v19 =>
  (gR h p0 7 45).bind fun v21 =>
  (aJ h v21 p2).bind fun v23 =>
  (kO h p0 7).bind fun f27 =>
  (fxX7_tries N p0 ((((v3 - v7) * (v3 - v7)) + ((v11 - v15) * (v11 - v15))) + ((v19 - v23) * (v19 - v23))) (1 : Int64) h).bind fun o25 =>
  some o25
set_option maxHeartbeats 4000000 in
set_option maxRecDepth 100000 in
theorem exX7_toCorner {N : Nat} {p0 : Nat} {p1 : Int32} {p2 : Int32} {h : mh} {o : mh} (hq : fxX7_toCorner N p0 p1 p2 h = some o) : mC mX7_toCorner [.ref p0, .int p1, .int p2] h (o, none) := by
  refine mC_of okX7_toCorner (Nat.le_of_ble_eq_true rfl) ?_
  unfold fxX7_toCorner at hq
  show mB _ mX7_toCorner (0, [(0, .ref p0), (1, .int p1), (2, .int p2)], [], h, 0, 0)
  refine mB_run odX7_toCorner 1 (g := (1, [(0, .ref p0), (1, .int p1), (2, .int p2)], [.ref p0], h, 0, 0)) rfl ?_
  obtain ⟨v1, e2, hq⟩ := bsm hq
  refine r_gR odX7_toCorner rfl rfl e2 ?_
  refine mB_run odX7_toCorner 1 (g := (5, [(0, .ref p0), (1, .int p1), (2, .int p2)], [.int p1, .ref v1], h, 0, 0)) rfl ?_
  obtain ⟨v3, e4, hq⟩ := bsm hq
  refine r_aJ odX7_toCorner rfl e4 ?_
  refine mB_run odX7_toCorner 1 (g := (7, [(0, .ref p0), (1, .int p1), (2, .int p2)], [.ref p0, .long v3], h, 0, 0)) rfl ?_
  obtain ⟨v5, e6, hq⟩ := bsm hq
  refine r_gR odX7_toCorner rfl rfl e6 ?_
  refine mB_run odX7_toCorner 1 (g := (11, [(0, .ref p0), (1, .int p1), (2, .int p2)], [.int p2, .ref v5, .long v3], h, 0, 0)) rfl ?_
  obtain ⟨v7, e8, hq⟩ := bsm hq
  refine r_aJ odX7_toCorner rfl e8 ?_
  refine mB_run odX7_toCorner 3 (g := (15, [(3, .long (v3 - v7)), (0, .ref p0), (1, .int p1), (2, .int p2)], [.ref p0], h, 0, 0)) rfl ?_
  obtain ⟨v9, e10, hq⟩ := bsm hq
  refine r_gR odX7_toCorner rfl rfl e10 ?_
  refine mB_run odX7_toCorner 1 (g := (19, [(3, .long (v3 - v7)), (0, .ref p0), (1, .int p1), (2, .int p2)], [.int p1, .ref v9], h, 0, 0)) rfl ?_
  obtain ⟨v11, e12, hq⟩ := bsm hq
  refine r_aJ odX7_toCorner rfl e12 ?_
  refine mB_run odX7_toCorner 1 (g := (21, [(3, .long (v3 - v7)), (0, .ref p0), (1, .int p1), (2, .int p2)], [.ref p0, .long v11], h, 0, 0)) rfl ?_
  obtain ⟨v13, e14, hq⟩ := bsm hq
  refine r_gR odX7_toCorner rfl rfl e14 ?_
  refine mB_run odX7_toCorner 1 (g := (25, [(3, .long (v3 - v7)), (0, .ref p0), (1, .int p1), (2, .int p2)], [.int p2, .ref v13, .long v11], h, 0, 0)) rfl ?_
  obtain ⟨v15, e16, hq⟩ := bsm hq
  refine r_aJ odX7_toCorner rfl e16 ?_
  refine mB_run odX7_toCorner 3 (g := (30, [(5, .long (v11 - v15)), (3, .long (v3 - v7)), (0, .ref p0), (1, .int p1), (2, .int p2)], [.ref p0], h, 0, 0)) rfl ?_
  obtain ⟨v17, e18, hq⟩ := bsm hq
  refine r_gR odX7_toCorner rfl rfl e18 ?_
  refine mB_run odX7_toCorner 1 (g := (34, [(5, .long (v11 - v15)), (3, .long (v3 - v7)), (0, .ref p0), (1, .int p1), (2, .int p2)], [.int p1, .ref v17], h, 0, 0)) rfl ?_
  obtain ⟨v19, e20, hq⟩ := bsm hq
  refine r_aJ odX7_toCorner rfl e20 ?_
  refine mB_run odX7_toCorner 1 (g := (36, [(5, .long (v11 - v15)), (3, .long (v3 - v7)), (0, .ref p0), (1, .int p1), (2, .int p2)], [.ref p0, .long v19], h, 0, 0)) rfl ?_
  obtain ⟨v21, e22, hq⟩ := bsm hq
  refine r_gR odX7_toCorner rfl rfl e22 ?_
  refine mB_run odX7_toCorner 1 (g := (40, [(5, .long (v11 - v15)), (3, .long (v3 - v7)), (0, .ref p0), (1, .int p1), (2, .int p2)], [.int p2, .ref v21, .long v19], h, 0, 0)) rfl ?_
  obtain ⟨v23, e24, hq⟩ := bsm hq
  refine r_aJ odX7_toCorner rfl e24 ?_
  refine mB_run odX7_toCorner 12 (g := (58, [(7, .long (v19 - v23)), (5, .long (v11 - v15)), (3, .long (v3 - v7)), (0, .ref p0), (1, .int p1), (2, .int p2)], [.long (v19 - v23), .long (v19 - v23), .long (((v3 - v7) * (v3 - v7)) + ((v11 - v15) * (v11 - v15))), .ref p0], h, 0, 0)) rfl ?_
  refine mB_run odX7_toCorner 3 (g := (61, [(7, .long (v19 - v23)), (5, .long (v11 - v15)), (3, .long (v3 - v7)), (0, .ref p0), (1, .int p1), (2, .int p2)], [.long (1 : Int64), .long ((((v3 - v7) * (v3 - v7)) + ((v11 - v15) * (v11 - v15))) + ((v19 - v23) * (v19 - v23))), .ref p0], h, 0, 0)) rfl ?_
  obtain ⟨f27, k28, hq⟩ := bsm hq
  obtain ⟨o25, e26, hq⟩ := bsm hq
  refine mB_V (as := [.long ((((v3 - v7) * (v3 - v7)) + ((v11 - v15) * (v11 - v15))) + ((v19 - v23) * (v19 - v23))), .long (1 : Int64)]) odX7_toCorner okX7_tries lk_7_327 rfl (exX7_tries e26) (kO_at k28) rfl rfl rfl ?_
  show mB _ mX7_toCorner (64, [(7, .long (v19 - v23)), (5, .long (v11 - v15)), (3, .long (v3 - v7)), (0, .ref p0), (1, .int p1), (2, .int p2)], [], o25, 0, 0)
  cases hq
  exact mB_ret odX7_toCorner rfl
def fxX7_toFace (N : Nat) (p0 : Nat) (p1 : Int32) (p2 : Int32) (p3 : Int32) (h : mh) : Option mh :=
  (kO h p0 7).bind fun f3 =>
  (fxX7_cornerAt N p0 p1 h).bind fun o1 =>
  (kO o1 p0 7).bind fun f7 =>
  (fxX7_isOver N p0 p2 p3 o1).bind fun o5 =>
  if o5.2 = 0 then (
    some o5.1) else (
    (kO o5.1 p0 7).bind fun f12 =>
    (fxX7_overFace N p0 p3 o5.1).bind fun o10 =>
    (gR o10.1 p0 7 28).bind fun v14 =>
    (aJ o10.1 v14 p3).bind fun v16 =>
    (gR o10.1 p0 7 28).bind fun v18 =>
    (aJ o10.1 v18 p3).bind fun v20 =>
    (gR o10.1 p0 7 29).bind fun v22 =>
    (aJ o10.1 v22 p3).bind fun v24 =>
    (gR o10.1 p0 7 29).bind fun v26 =>
    (aJ o10.1 v26 p3).bind fun v28 =>
    (gR o10.1 p0 7 30).bind fun v30 =>
    (aJ o10.1 v30 p3).bind fun v32 =>
    (gR o10.1 p0 7 30).bind fun v34 =>
    (aJ o10.1 v34 p3).bind fun v36 =>
    (kO o10.1 p0 7).bind fun f40 =>
    (fxX7_tries N p0 (o10.2 * o10.2) (((v16 * v20) + (v24 * v28)) + (v32 * v36)) o10.1).bind fun o38 =>
    some o38)
set_option maxHeartbeats 4000000 in
set_option maxRecDepth 100000 in
theorem exX7_toFace {N : Nat} {p0 : Nat} {p1 : Int32} {p2 : Int32} {p3 : Int32} {h : mh} {o : mh} (hq : fxX7_toFace N p0 p1 p2 p3 h = some o) : mC mX7_toFace [.ref p0, .int p1, .int p2, .int p3] h (o, none) := by
  refine mC_of okX7_toFace (Nat.le_of_ble_eq_true rfl) ?_
  unfold fxX7_toFace at hq
  show mB _ mX7_toFace (0, [(0, .ref p0), (1, .int p1), (2, .int p2), (3, .int p3)], [], h, 0, 0)
  refine mB_run odX7_toFace 2 (g := (2, [(0, .ref p0), (1, .int p1), (2, .int p2), (3, .int p3)], [.int p1, .ref p0], h, 0, 0)) rfl ?_
  obtain ⟨f3, k4, hq⟩ := bsm hq
  obtain ⟨o1, e2, hq⟩ := bsm hq
  refine mB_V (as := [.int p1]) odX7_toFace okX7_cornerAt lk_7_365 rfl (exX7_cornerAt e2) (kO_at k4) rfl rfl rfl ?_
  show mB _ mX7_toFace (5, [(0, .ref p0), (1, .int p1), (2, .int p2), (3, .int p3)], [], o1, 0, 0)
  refine mB_run odX7_toFace 3 (g := (8, [(0, .ref p0), (1, .int p1), (2, .int p2), (3, .int p3)], [.int p3, .int p2, .ref p0], o1, 0, 0)) rfl ?_
  obtain ⟨f7, k8, hq⟩ := bsm hq
  obtain ⟨o5, e6, hq⟩ := bsm hq
  refine mB_V (as := [.int p2, .int p3]) odX7_toFace okX7_isOver lk_7_271 rfl (exX7_isOver e6) (kO_at k8) rfl rfl rfl ?_
  show mB _ mX7_toFace (11, [(0, .ref p0), (1, .int p1), (2, .int p2), (3, .int p3)], [.int o5.2], o5.1, 0, 0)
  by_cases c9 : o5.2 = 0
  · rw [if_pos c9] at hq
    refine if_ne_F (t := 15) odX7_toFace rfl rfl c9 ?_
    cases hq
    exact mB_ret odX7_toFace rfl
  · rw [if_neg c9] at hq
    refine if_ne_T (t := 15) odX7_toFace rfl rfl c9 ?_
    refine mB_run odX7_toFace 2 (g := (17, [(0, .ref p0), (1, .int p1), (2, .int p2), (3, .int p3)], [.int p3, .ref p0], o5.1, 0, 0)) rfl ?_
    obtain ⟨f12, k13, hq⟩ := bsm hq
    obtain ⟨o10, e11, hq⟩ := bsm hq
    refine mB_V (as := [.int p3]) odX7_toFace okX7_overFace lk_7_268 rfl (exX7_overFace e11) (kO_at k13) rfl rfl rfl ?_
    show mB _ mX7_toFace (20, [(0, .ref p0), (1, .int p1), (2, .int p2), (3, .int p3)], [.long o10.2], o10.1, 0, 0)
    refine mB_run odX7_toFace 6 (g := (29, [(4, .long o10.2), (0, .ref p0), (1, .int p1), (2, .int p2), (3, .int p3)], [.ref p0, .long (o10.2 * o10.2), .ref p0], o10.1, 0, 0)) rfl ?_
    obtain ⟨v14, e15, hq⟩ := bsm hq
    refine r_gR odX7_toFace rfl rfl e15 ?_
    refine mB_run odX7_toFace 1 (g := (33, [(4, .long o10.2), (0, .ref p0), (1, .int p1), (2, .int p2), (3, .int p3)], [.int p3, .ref v14, .long (o10.2 * o10.2), .ref p0], o10.1, 0, 0)) rfl ?_
    obtain ⟨v16, e17, hq⟩ := bsm hq
    refine r_aJ odX7_toFace rfl e17 ?_
    refine mB_run odX7_toFace 1 (g := (35, [(4, .long o10.2), (0, .ref p0), (1, .int p1), (2, .int p2), (3, .int p3)], [.ref p0, .long v16, .long (o10.2 * o10.2), .ref p0], o10.1, 0, 0)) rfl ?_
    obtain ⟨v18, e19, hq⟩ := bsm hq
    refine r_gR odX7_toFace rfl rfl e19 ?_
    refine mB_run odX7_toFace 1 (g := (39, [(4, .long o10.2), (0, .ref p0), (1, .int p1), (2, .int p2), (3, .int p3)], [.int p3, .ref v18, .long v16, .long (o10.2 * o10.2), .ref p0], o10.1, 0, 0)) rfl ?_
    obtain ⟨v20, e21, hq⟩ := bsm hq
    refine r_aJ odX7_toFace rfl e21 ?_
    refine mB_run odX7_toFace 2 (g := (42, [(4, .long o10.2), (0, .ref p0), (1, .int p1), (2, .int p2), (3, .int p3)], [.ref p0, .long (v16 * v20), .long (o10.2 * o10.2), .ref p0], o10.1, 0, 0)) rfl ?_
    obtain ⟨v22, e23, hq⟩ := bsm hq
    refine r_gR odX7_toFace rfl rfl e23 ?_
    refine mB_run odX7_toFace 1 (g := (46, [(4, .long o10.2), (0, .ref p0), (1, .int p1), (2, .int p2), (3, .int p3)], [.int p3, .ref v22, .long (v16 * v20), .long (o10.2 * o10.2), .ref p0], o10.1, 0, 0)) rfl ?_
    obtain ⟨v24, e25, hq⟩ := bsm hq
    refine r_aJ odX7_toFace rfl e25 ?_
    refine mB_run odX7_toFace 1 (g := (48, [(4, .long o10.2), (0, .ref p0), (1, .int p1), (2, .int p2), (3, .int p3)], [.ref p0, .long v24, .long (v16 * v20), .long (o10.2 * o10.2), .ref p0], o10.1, 0, 0)) rfl ?_
    obtain ⟨v26, e27, hq⟩ := bsm hq
    refine r_gR odX7_toFace rfl rfl e27 ?_
    refine mB_run odX7_toFace 1 (g := (52, [(4, .long o10.2), (0, .ref p0), (1, .int p1), (2, .int p2), (3, .int p3)], [.int p3, .ref v26, .long v24, .long (v16 * v20), .long (o10.2 * o10.2), .ref p0], o10.1, 0, 0)) rfl ?_
    obtain ⟨v28, e29, hq⟩ := bsm hq
    refine r_aJ odX7_toFace rfl e29 ?_
    refine mB_run odX7_toFace 3 (g := (56, [(4, .long o10.2), (0, .ref p0), (1, .int p1), (2, .int p2), (3, .int p3)], [.ref p0, .long ((v16 * v20) + (v24 * v28)), .long (o10.2 * o10.2), .ref p0], o10.1, 0, 0)) rfl ?_
    obtain ⟨v30, e31, hq⟩ := bsm hq
    refine r_gR odX7_toFace rfl rfl e31 ?_
    refine mB_run odX7_toFace 1 (g := (60, [(4, .long o10.2), (0, .ref p0), (1, .int p1), (2, .int p2), (3, .int p3)], [.int p3, .ref v30, .long ((v16 * v20) + (v24 * v28)), .long (o10.2 * o10.2), .ref p0], o10.1, 0, 0)) rfl ?_
    obtain ⟨v32, e33, hq⟩ := bsm hq
    refine r_aJ odX7_toFace rfl e33 ?_
    refine mB_run odX7_toFace 1 (g := (62, [(4, .long o10.2), (0, .ref p0), (1, .int p1), (2, .int p2), (3, .int p3)], [.ref p0, .long v32, .long ((v16 * v20) + (v24 * v28)), .long (o10.2 * o10.2), .ref p0], o10.1, 0, 0)) rfl ?_
    obtain ⟨v34, e35, hq⟩ := bsm hq
    refine r_gR odX7_toFace rfl rfl e35 ?_
    refine mB_run odX7_toFace 1 (g := (66, [(4, .long o10.2), (0, .ref p0), (1, .int p1), (2, .int p2), (3, .int p3)], [.int p3, .ref v34, .long v32, .long ((v16 * v20) + (v24 * v28)), .long (o10.2 * o10.2), .ref p0], o10.1, 0, 0)) rfl ?_
    obtain ⟨v36, e37, hq⟩ := bsm hq
    refine r_aJ odX7_toFace rfl e37 ?_
    refine mB_run odX7_toFace 2 (g := (69, [(4, .long o10.2), (0, .ref p0), (1, .int p1), (2, .int p2), (3, .int p3)], [.long (((v16 * v20) + (v24 * v28)) + (v32 * v36)), .long (o10.2 * o10.2), .ref p0], o10.1, 0, 0)) rfl ?_
    obtain ⟨f40, k41, hq⟩ := bsm hq
    obtain ⟨o38, e39, hq⟩ := bsm hq
    refine mB_V (as := [.long (o10.2 * o10.2), .long (((v16 * v20) + (v24 * v28)) + (v32 * v36))]) odX7_toFace okX7_tries lk_7_327 rfl (exX7_tries e39) (kO_at k41) rfl rfl rfl ?_
    show mB _ mX7_toFace (72, [(4, .long o10.2), (0, .ref p0), (1, .int p1), (2, .int p2), (3, .int p3)], [], o38, 0, 0)
    cases hq
    exact mB_ret odX7_toFace rfl
def fxX7_toEdges (N : Nat) (p0 : Nat) (p1 : Int32) (p2 : Int32) (p3 : Int32) (p4 : Int32) (h : mh) : Option mh :=
  (gR h p0 7 43).bind fun v1 =>
  (aJ h v1 p2).bind fun v3 =>
  (gR h p0 7 43).bind fun v5 =>
  (aJ h v5 p1).bind fun v7 =>
  (gR h p0 7 44).bind fun v9 =>
  (aJ h v9 p2).bind fun v11 =>
  (gR h p0 7 44).bind fun v13 =>
  (aJ h v13 p1).bind fun v15 =>
  (gR h p0 7 45).bind fun v17 =>
  (aJ h v17 p2).bind fun v19 =>
  (gR h p0 7 45).bind fun v21 =>
  (aJ h v21 p1).bind fun v23 =>
  (gR h p0 7 43).bind fun v25 =>
  (aJ h v25 p4).bind fun v27 =>
  (gR h p0 7 43).bind fun v29 =>
  (aJ h v29 p3).bind fun v31 =>
  (gR h p0 7 44).bind fun v33 =>
  (aJ h v33 p4).bind fun v35 =>
  (gR h p0 7 44).bind fun v37 =>
  (aJ h v37 p3).bind fun v39 =>
  (gR h p0 7 45).bind fun v41 =>
  (aJ h v41 p4).bind fun v43 =>
  (gR h p0 7 45).bind fun v45 =>
  (aJ h v45 p3).bind fun v47 =>
  (gR h p0 7 43).bind fun v49 =>
  (aJ h v49 p3).bind fun v51 =>
  (gR h p0 7 43).bind fun v53 =>
  (aJ h v53 p1).bind fun v55 =>
  (gR h p0 7 44).bind fun v57 =>
  (aJ h v57 p3).bind fun v59 =>
  (gR h p0 7 44).bind fun v61 =>
  (aJ h v61 p1).bind fun v63 =>
  (gR h p0 7 45).bind fun v65 =>
  (aJ h v65 p3).bind fun v67 =>
  (gR h p0 7 45).bind fun v69 =>
  (aJ h v69 p1).bind fun v71 =>
  (kO h p0 7).bind fun f75 =>
  (fxX7_crosses N p0 (v3 - v7) (v11 - v15) (v19 - v23) (v27 - v31) (v35 - v39) (v43 - v47) h).bind fun o73 =>
  (kO o73 p0 7).bind fun f79 =>
  (fxX7_isFlat N p0 o73).bind fun o77 =>
  if o77.2 = 0 then (
    (gJ o77.1 p0 7 24).bind fun v82 =>
    (gJ o77.1 p0 7 24).bind fun v84 =>
    (gJ o77.1 p0 7 25).bind fun v86 =>
    (gJ o77.1 p0 7 25).bind fun v88 =>
    (gJ o77.1 p0 7 26).bind fun v90 =>
    (gJ o77.1 p0 7 26).bind fun v92 =>
    (gJ o77.1 p0 7 24).bind fun v94 =>
    (gJ o77.1 p0 7 25).bind fun v96 =>
    (gJ o77.1 p0 7 26).bind fun v98 =>
    (gJ o77.1 p0 7 24).bind fun v100 =>
    (gJ o77.1 p0 7 25).bind fun v102 =>
    (gJ o77.1 p0 7 26).bind fun v104 =>
    if ((((((v59 - v63) * (v43 - v47)) - ((v67 - v71) * (v35 - v39))) * v94) + ((((v67 - v71) * (v27 - v31)) - ((v51 - v55) * (v43 - v47))) * v96)) + ((((v51 - v55) * (v35 - v39)) - ((v59 - v63) * (v27 - v31))) * v98)) < (0 : Int64) then (
      some o77.1) else (
      if (((v82 * v84) + (v86 * v88)) + (v90 * v92)) < ((((((v59 - v63) * (v43 - v47)) - ((v67 - v71) * (v35 - v39))) * v94) + ((((v67 - v71) * (v27 - v31)) - ((v51 - v55) * (v43 - v47))) * v96)) + ((((v51 - v55) * (v35 - v39)) - ((v59 - v63) * (v27 - v31))) * v98)) then (
        some o77.1) else (
        if ((((((v59 - v63) * (v19 - v23)) - ((v67 - v71) * (v11 - v15))) * v100) + ((((v67 - v71) * (v3 - v7)) - ((v51 - v55) * (v19 - v23))) * v102)) + ((((v51 - v55) * (v11 - v15)) - ((v59 - v63) * (v3 - v7))) * v104)) < (0 : Int64) then (
          some o77.1) else (
          if ((((((v59 - v63) * (v19 - v23)) - ((v67 - v71) * (v11 - v15))) * v100) + ((((v67 - v71) * (v3 - v7)) - ((v51 - v55) * (v19 - v23))) * v102)) + ((((v51 - v55) * (v11 - v15)) - ((v59 - v63) * (v3 - v7))) * v104)) ≤ (((v82 * v84) + (v86 * v88)) + (v90 * v92)) then (
            (gJ o77.1 p0 7 24).bind fun v110 =>
            (gJ o77.1 p0 7 25).bind fun v112 =>
            (gJ o77.1 p0 7 26).bind fun v114 =>
            (kO o77.1 p0 7).bind fun f118 =>
            (fxX7_tries N p0 (((((v51 - v55) * v110) + ((v59 - v63) * v112)) + ((v67 - v71) * v114)) * ((((v51 - v55) * v110) + ((v59 - v63) * v112)) + ((v67 - v71) * v114))) (((v82 * v84) + (v86 * v88)) + (v90 * v92)) o77.1).bind fun o116 =>
            some o116) else (
            some o77.1))))) else (
    some o77.1)
set_option maxHeartbeats 4000000 in
set_option maxRecDepth 100000 in
theorem exX7_toEdges {N : Nat} {p0 : Nat} {p1 : Int32} {p2 : Int32} {p3 : Int32} {p4 : Int32} {h : mh} {o : mh} (hq : fxX7_toEdges N p0 p1 p2 p3 p4 h = some o) : mC mX7_toEdges [.ref p0, .int p1, .int p2, .int p3, .int p4] h (o, none) := by
  refine mC_of okX7_toEdges (Nat.le_of_ble_eq_true rfl) ?_
  unfold fxX7_toEdges at hq
  show mB _ mX7_toEdges (0, [(0, .ref p0), (1, .int p1), (2, .int p2), (3, .int p3), (4, .int p4)], [], h, 0, 0)
  refine mB_run odX7_toEdges 1 (g := (1, [(0, .ref p0), (1, .int p1), (2, .int p2), (3, .int p3), (4, .int p4)], [.ref p0], h, 0, 0)) rfl ?_
  obtain ⟨v1, e2, hq⟩ := bsm hq
  refine r_gR odX7_toEdges rfl rfl e2 ?_
  refine mB_run odX7_toEdges 1 (g := (5, [(0, .ref p0), (1, .int p1), (2, .int p2), (3, .int p3), (4, .int p4)], [.int p2, .ref v1], h, 0, 0)) rfl ?_
  obtain ⟨v3, e4, hq⟩ := bsm hq
  refine r_aJ odX7_toEdges rfl e4 ?_
  refine mB_run odX7_toEdges 1 (g := (7, [(0, .ref p0), (1, .int p1), (2, .int p2), (3, .int p3), (4, .int p4)], [.ref p0, .long v3], h, 0, 0)) rfl ?_
  obtain ⟨v5, e6, hq⟩ := bsm hq
  refine r_gR odX7_toEdges rfl rfl e6 ?_
  refine mB_run odX7_toEdges 1 (g := (11, [(0, .ref p0), (1, .int p1), (2, .int p2), (3, .int p3), (4, .int p4)], [.int p1, .ref v5, .long v3], h, 0, 0)) rfl ?_
  obtain ⟨v7, e8, hq⟩ := bsm hq
  refine r_aJ odX7_toEdges rfl e8 ?_
  refine mB_run odX7_toEdges 3 (g := (16, [(5, .long (v3 - v7)), (0, .ref p0), (1, .int p1), (2, .int p2), (3, .int p3), (4, .int p4)], [.ref p0], h, 0, 0)) rfl ?_
  obtain ⟨v9, e10, hq⟩ := bsm hq
  refine r_gR odX7_toEdges rfl rfl e10 ?_
  refine mB_run odX7_toEdges 1 (g := (20, [(5, .long (v3 - v7)), (0, .ref p0), (1, .int p1), (2, .int p2), (3, .int p3), (4, .int p4)], [.int p2, .ref v9], h, 0, 0)) rfl ?_
  obtain ⟨v11, e12, hq⟩ := bsm hq
  refine r_aJ odX7_toEdges rfl e12 ?_
  refine mB_run odX7_toEdges 1 (g := (22, [(5, .long (v3 - v7)), (0, .ref p0), (1, .int p1), (2, .int p2), (3, .int p3), (4, .int p4)], [.ref p0, .long v11], h, 0, 0)) rfl ?_
  obtain ⟨v13, e14, hq⟩ := bsm hq
  refine r_gR odX7_toEdges rfl rfl e14 ?_
  refine mB_run odX7_toEdges 1 (g := (26, [(5, .long (v3 - v7)), (0, .ref p0), (1, .int p1), (2, .int p2), (3, .int p3), (4, .int p4)], [.int p1, .ref v13, .long v11], h, 0, 0)) rfl ?_
  obtain ⟨v15, e16, hq⟩ := bsm hq
  refine r_aJ odX7_toEdges rfl e16 ?_
  refine mB_run odX7_toEdges 3 (g := (31, [(7, .long (v11 - v15)), (5, .long (v3 - v7)), (0, .ref p0), (1, .int p1), (2, .int p2), (3, .int p3), (4, .int p4)], [.ref p0], h, 0, 0)) rfl ?_
  obtain ⟨v17, e18, hq⟩ := bsm hq
  refine r_gR odX7_toEdges rfl rfl e18 ?_
  refine mB_run odX7_toEdges 1 (g := (35, [(7, .long (v11 - v15)), (5, .long (v3 - v7)), (0, .ref p0), (1, .int p1), (2, .int p2), (3, .int p3), (4, .int p4)], [.int p2, .ref v17], h, 0, 0)) rfl ?_
  obtain ⟨v19, e20, hq⟩ := bsm hq
  refine r_aJ odX7_toEdges rfl e20 ?_
  refine mB_run odX7_toEdges 1 (g := (37, [(7, .long (v11 - v15)), (5, .long (v3 - v7)), (0, .ref p0), (1, .int p1), (2, .int p2), (3, .int p3), (4, .int p4)], [.ref p0, .long v19], h, 0, 0)) rfl ?_
  obtain ⟨v21, e22, hq⟩ := bsm hq
  refine r_gR odX7_toEdges rfl rfl e22 ?_
  refine mB_run odX7_toEdges 1 (g := (41, [(7, .long (v11 - v15)), (5, .long (v3 - v7)), (0, .ref p0), (1, .int p1), (2, .int p2), (3, .int p3), (4, .int p4)], [.int p1, .ref v21, .long v19], h, 0, 0)) rfl ?_
  obtain ⟨v23, e24, hq⟩ := bsm hq
  refine r_aJ odX7_toEdges rfl e24 ?_
  refine mB_run odX7_toEdges 3 (g := (46, [(9, .long (v19 - v23)), (7, .long (v11 - v15)), (5, .long (v3 - v7)), (0, .ref p0), (1, .int p1), (2, .int p2), (3, .int p3), (4, .int p4)], [.ref p0], h, 0, 0)) rfl ?_
  obtain ⟨v25, e26, hq⟩ := bsm hq
  refine r_gR odX7_toEdges rfl rfl e26 ?_
  refine mB_run odX7_toEdges 1 (g := (51, [(9, .long (v19 - v23)), (7, .long (v11 - v15)), (5, .long (v3 - v7)), (0, .ref p0), (1, .int p1), (2, .int p2), (3, .int p3), (4, .int p4)], [.int p4, .ref v25], h, 0, 0)) rfl ?_
  obtain ⟨v27, e28, hq⟩ := bsm hq
  refine r_aJ odX7_toEdges rfl e28 ?_
  refine mB_run odX7_toEdges 1 (g := (53, [(9, .long (v19 - v23)), (7, .long (v11 - v15)), (5, .long (v3 - v7)), (0, .ref p0), (1, .int p1), (2, .int p2), (3, .int p3), (4, .int p4)], [.ref p0, .long v27], h, 0, 0)) rfl ?_
  obtain ⟨v29, e30, hq⟩ := bsm hq
  refine r_gR odX7_toEdges rfl rfl e30 ?_
  refine mB_run odX7_toEdges 1 (g := (57, [(9, .long (v19 - v23)), (7, .long (v11 - v15)), (5, .long (v3 - v7)), (0, .ref p0), (1, .int p1), (2, .int p2), (3, .int p3), (4, .int p4)], [.int p3, .ref v29, .long v27], h, 0, 0)) rfl ?_
  obtain ⟨v31, e32, hq⟩ := bsm hq
  refine r_aJ odX7_toEdges rfl e32 ?_
  refine mB_run odX7_toEdges 3 (g := (62, [(11, .long (v27 - v31)), (9, .long (v19 - v23)), (7, .long (v11 - v15)), (5, .long (v3 - v7)), (0, .ref p0), (1, .int p1), (2, .int p2), (3, .int p3), (4, .int p4)], [.ref p0], h, 0, 0)) rfl ?_
  obtain ⟨v33, e34, hq⟩ := bsm hq
  refine r_gR odX7_toEdges rfl rfl e34 ?_
  refine mB_run odX7_toEdges 1 (g := (67, [(11, .long (v27 - v31)), (9, .long (v19 - v23)), (7, .long (v11 - v15)), (5, .long (v3 - v7)), (0, .ref p0), (1, .int p1), (2, .int p2), (3, .int p3), (4, .int p4)], [.int p4, .ref v33], h, 0, 0)) rfl ?_
  obtain ⟨v35, e36, hq⟩ := bsm hq
  refine r_aJ odX7_toEdges rfl e36 ?_
  refine mB_run odX7_toEdges 1 (g := (69, [(11, .long (v27 - v31)), (9, .long (v19 - v23)), (7, .long (v11 - v15)), (5, .long (v3 - v7)), (0, .ref p0), (1, .int p1), (2, .int p2), (3, .int p3), (4, .int p4)], [.ref p0, .long v35], h, 0, 0)) rfl ?_
  obtain ⟨v37, e38, hq⟩ := bsm hq
  refine r_gR odX7_toEdges rfl rfl e38 ?_
  refine mB_run odX7_toEdges 1 (g := (73, [(11, .long (v27 - v31)), (9, .long (v19 - v23)), (7, .long (v11 - v15)), (5, .long (v3 - v7)), (0, .ref p0), (1, .int p1), (2, .int p2), (3, .int p3), (4, .int p4)], [.int p3, .ref v37, .long v35], h, 0, 0)) rfl ?_
  obtain ⟨v39, e40, hq⟩ := bsm hq
  refine r_aJ odX7_toEdges rfl e40 ?_
  refine mB_run odX7_toEdges 3 (g := (78, [(13, .long (v35 - v39)), (11, .long (v27 - v31)), (9, .long (v19 - v23)), (7, .long (v11 - v15)), (5, .long (v3 - v7)), (0, .ref p0), (1, .int p1), (2, .int p2), (3, .int p3), (4, .int p4)], [.ref p0], h, 0, 0)) rfl ?_
  obtain ⟨v41, e42, hq⟩ := bsm hq
  refine r_gR odX7_toEdges rfl rfl e42 ?_
  refine mB_run odX7_toEdges 1 (g := (83, [(13, .long (v35 - v39)), (11, .long (v27 - v31)), (9, .long (v19 - v23)), (7, .long (v11 - v15)), (5, .long (v3 - v7)), (0, .ref p0), (1, .int p1), (2, .int p2), (3, .int p3), (4, .int p4)], [.int p4, .ref v41], h, 0, 0)) rfl ?_
  obtain ⟨v43, e44, hq⟩ := bsm hq
  refine r_aJ odX7_toEdges rfl e44 ?_
  refine mB_run odX7_toEdges 1 (g := (85, [(13, .long (v35 - v39)), (11, .long (v27 - v31)), (9, .long (v19 - v23)), (7, .long (v11 - v15)), (5, .long (v3 - v7)), (0, .ref p0), (1, .int p1), (2, .int p2), (3, .int p3), (4, .int p4)], [.ref p0, .long v43], h, 0, 0)) rfl ?_
  obtain ⟨v45, e46, hq⟩ := bsm hq
  refine r_gR odX7_toEdges rfl rfl e46 ?_
  refine mB_run odX7_toEdges 1 (g := (89, [(13, .long (v35 - v39)), (11, .long (v27 - v31)), (9, .long (v19 - v23)), (7, .long (v11 - v15)), (5, .long (v3 - v7)), (0, .ref p0), (1, .int p1), (2, .int p2), (3, .int p3), (4, .int p4)], [.int p3, .ref v45, .long v43], h, 0, 0)) rfl ?_
  obtain ⟨v47, e48, hq⟩ := bsm hq
  refine r_aJ odX7_toEdges rfl e48 ?_
  refine mB_run odX7_toEdges 3 (g := (94, [(15, .long (v43 - v47)), (13, .long (v35 - v39)), (11, .long (v27 - v31)), (9, .long (v19 - v23)), (7, .long (v11 - v15)), (5, .long (v3 - v7)), (0, .ref p0), (1, .int p1), (2, .int p2), (3, .int p3), (4, .int p4)], [.ref p0], h, 0, 0)) rfl ?_
  obtain ⟨v49, e50, hq⟩ := bsm hq
  refine r_gR odX7_toEdges rfl rfl e50 ?_
  refine mB_run odX7_toEdges 1 (g := (98, [(15, .long (v43 - v47)), (13, .long (v35 - v39)), (11, .long (v27 - v31)), (9, .long (v19 - v23)), (7, .long (v11 - v15)), (5, .long (v3 - v7)), (0, .ref p0), (1, .int p1), (2, .int p2), (3, .int p3), (4, .int p4)], [.int p3, .ref v49], h, 0, 0)) rfl ?_
  obtain ⟨v51, e52, hq⟩ := bsm hq
  refine r_aJ odX7_toEdges rfl e52 ?_
  refine mB_run odX7_toEdges 1 (g := (100, [(15, .long (v43 - v47)), (13, .long (v35 - v39)), (11, .long (v27 - v31)), (9, .long (v19 - v23)), (7, .long (v11 - v15)), (5, .long (v3 - v7)), (0, .ref p0), (1, .int p1), (2, .int p2), (3, .int p3), (4, .int p4)], [.ref p0, .long v51], h, 0, 0)) rfl ?_
  obtain ⟨v53, e54, hq⟩ := bsm hq
  refine r_gR odX7_toEdges rfl rfl e54 ?_
  refine mB_run odX7_toEdges 1 (g := (104, [(15, .long (v43 - v47)), (13, .long (v35 - v39)), (11, .long (v27 - v31)), (9, .long (v19 - v23)), (7, .long (v11 - v15)), (5, .long (v3 - v7)), (0, .ref p0), (1, .int p1), (2, .int p2), (3, .int p3), (4, .int p4)], [.int p1, .ref v53, .long v51], h, 0, 0)) rfl ?_
  obtain ⟨v55, e56, hq⟩ := bsm hq
  refine r_aJ odX7_toEdges rfl e56 ?_
  refine mB_run odX7_toEdges 3 (g := (109, [(17, .long (v51 - v55)), (15, .long (v43 - v47)), (13, .long (v35 - v39)), (11, .long (v27 - v31)), (9, .long (v19 - v23)), (7, .long (v11 - v15)), (5, .long (v3 - v7)), (0, .ref p0), (1, .int p1), (2, .int p2), (3, .int p3), (4, .int p4)], [.ref p0], h, 0, 0)) rfl ?_
  obtain ⟨v57, e58, hq⟩ := bsm hq
  refine r_gR odX7_toEdges rfl rfl e58 ?_
  refine mB_run odX7_toEdges 1 (g := (113, [(17, .long (v51 - v55)), (15, .long (v43 - v47)), (13, .long (v35 - v39)), (11, .long (v27 - v31)), (9, .long (v19 - v23)), (7, .long (v11 - v15)), (5, .long (v3 - v7)), (0, .ref p0), (1, .int p1), (2, .int p2), (3, .int p3), (4, .int p4)], [.int p3, .ref v57], h, 0, 0)) rfl ?_
  obtain ⟨v59, e60, hq⟩ := bsm hq
  refine r_aJ odX7_toEdges rfl e60 ?_
  refine mB_run odX7_toEdges 1 (g := (115, [(17, .long (v51 - v55)), (15, .long (v43 - v47)), (13, .long (v35 - v39)), (11, .long (v27 - v31)), (9, .long (v19 - v23)), (7, .long (v11 - v15)), (5, .long (v3 - v7)), (0, .ref p0), (1, .int p1), (2, .int p2), (3, .int p3), (4, .int p4)], [.ref p0, .long v59], h, 0, 0)) rfl ?_
  obtain ⟨v61, e62, hq⟩ := bsm hq
  refine r_gR odX7_toEdges rfl rfl e62 ?_
  refine mB_run odX7_toEdges 1 (g := (119, [(17, .long (v51 - v55)), (15, .long (v43 - v47)), (13, .long (v35 - v39)), (11, .long (v27 - v31)), (9, .long (v19 - v23)), (7, .long (v11 - v15)), (5, .long (v3 - v7)), (0, .ref p0), (1, .int p1), (2, .int p2), (3, .int p3), (4, .int p4)], [.int p1, .ref v61, .long v59], h, 0, 0)) rfl ?_
  obtain ⟨v63, e64, hq⟩ := bsm hq
  refine r_aJ odX7_toEdges rfl e64 ?_
  refine mB_run odX7_toEdges 3 (g := (124, [(19, .long (v59 - v63)), (17, .long (v51 - v55)), (15, .long (v43 - v47)), (13, .long (v35 - v39)), (11, .long (v27 - v31)), (9, .long (v19 - v23)), (7, .long (v11 - v15)), (5, .long (v3 - v7)), (0, .ref p0), (1, .int p1), (2, .int p2), (3, .int p3), (4, .int p4)], [.ref p0], h, 0, 0)) rfl ?_
  obtain ⟨v65, e66, hq⟩ := bsm hq
  refine r_gR odX7_toEdges rfl rfl e66 ?_
  refine mB_run odX7_toEdges 1 (g := (128, [(19, .long (v59 - v63)), (17, .long (v51 - v55)), (15, .long (v43 - v47)), (13, .long (v35 - v39)), (11, .long (v27 - v31)), (9, .long (v19 - v23)), (7, .long (v11 - v15)), (5, .long (v3 - v7)), (0, .ref p0), (1, .int p1), (2, .int p2), (3, .int p3), (4, .int p4)], [.int p3, .ref v65], h, 0, 0)) rfl ?_
  obtain ⟨v67, e68, hq⟩ := bsm hq
  refine r_aJ odX7_toEdges rfl e68 ?_
  refine mB_run odX7_toEdges 1 (g := (130, [(19, .long (v59 - v63)), (17, .long (v51 - v55)), (15, .long (v43 - v47)), (13, .long (v35 - v39)), (11, .long (v27 - v31)), (9, .long (v19 - v23)), (7, .long (v11 - v15)), (5, .long (v3 - v7)), (0, .ref p0), (1, .int p1), (2, .int p2), (3, .int p3), (4, .int p4)], [.ref p0, .long v67], h, 0, 0)) rfl ?_
  obtain ⟨v69, e70, hq⟩ := bsm hq
  refine r_gR odX7_toEdges rfl rfl e70 ?_
  refine mB_run odX7_toEdges 1 (g := (134, [(19, .long (v59 - v63)), (17, .long (v51 - v55)), (15, .long (v43 - v47)), (13, .long (v35 - v39)), (11, .long (v27 - v31)), (9, .long (v19 - v23)), (7, .long (v11 - v15)), (5, .long (v3 - v7)), (0, .ref p0), (1, .int p1), (2, .int p2), (3, .int p3), (4, .int p4)], [.int p1, .ref v69, .long v67], h, 0, 0)) rfl ?_
  obtain ⟨v71, e72, hq⟩ := bsm hq
  refine r_aJ odX7_toEdges rfl e72 ?_
  refine mB_run odX7_toEdges 9 (g := (151, [(21, .long (v67 - v71)), (19, .long (v59 - v63)), (17, .long (v51 - v55)), (15, .long (v43 - v47)), (13, .long (v35 - v39)), (11, .long (v27 - v31)), (9, .long (v19 - v23)), (7, .long (v11 - v15)), (5, .long (v3 - v7)), (0, .ref p0), (1, .int p1), (2, .int p2), (3, .int p3), (4, .int p4)], [.long (v43 - v47), .long (v35 - v39), .long (v27 - v31), .long (v19 - v23), .long (v11 - v15), .long (v3 - v7), .ref p0], h, 0, 0)) rfl ?_
  obtain ⟨f75, k76, hq⟩ := bsm hq
  obtain ⟨o73, e74, hq⟩ := bsm hq
  refine mB_V (as := [.long (v3 - v7), .long (v11 - v15), .long (v19 - v23), .long (v27 - v31), .long (v35 - v39), .long (v43 - v47)]) odX7_toEdges okX7_crosses lk_7_334 rfl (exX7_crosses e74) (kO_at k76) rfl rfl rfl ?_
  show mB _ mX7_toEdges (154, [(21, .long (v67 - v71)), (19, .long (v59 - v63)), (17, .long (v51 - v55)), (15, .long (v43 - v47)), (13, .long (v35 - v39)), (11, .long (v27 - v31)), (9, .long (v19 - v23)), (7, .long (v11 - v15)), (5, .long (v3 - v7)), (0, .ref p0), (1, .int p1), (2, .int p2), (3, .int p3), (4, .int p4)], [], o73, 0, 0)
  refine mB_run odX7_toEdges 1 (g := (155, [(21, .long (v67 - v71)), (19, .long (v59 - v63)), (17, .long (v51 - v55)), (15, .long (v43 - v47)), (13, .long (v35 - v39)), (11, .long (v27 - v31)), (9, .long (v19 - v23)), (7, .long (v11 - v15)), (5, .long (v3 - v7)), (0, .ref p0), (1, .int p1), (2, .int p2), (3, .int p3), (4, .int p4)], [.ref p0], o73, 0, 0)) rfl ?_
  obtain ⟨f79, k80, hq⟩ := bsm hq
  obtain ⟨o77, e78, hq⟩ := bsm hq
  refine mB_V (as := []) odX7_toEdges okX7_isFlat lk_7_182 rfl (exX7_isFlat e78) (kO_at k80) rfl rfl rfl ?_
  show mB _ mX7_toEdges (158, [(21, .long (v67 - v71)), (19, .long (v59 - v63)), (17, .long (v51 - v55)), (15, .long (v43 - v47)), (13, .long (v35 - v39)), (11, .long (v27 - v31)), (9, .long (v19 - v23)), (7, .long (v11 - v15)), (5, .long (v3 - v7)), (0, .ref p0), (1, .int p1), (2, .int p2), (3, .int p3), (4, .int p4)], [.int o77.2], o77.1, 0, 0)
  by_cases c81 : o77.2 = 0
  · rw [if_pos c81] at hq
    refine if_eq_T (t := 162) odX7_toEdges rfl rfl c81 ?_
    refine mB_run odX7_toEdges 1 (g := (163, [(21, .long (v67 - v71)), (19, .long (v59 - v63)), (17, .long (v51 - v55)), (15, .long (v43 - v47)), (13, .long (v35 - v39)), (11, .long (v27 - v31)), (9, .long (v19 - v23)), (7, .long (v11 - v15)), (5, .long (v3 - v7)), (0, .ref p0), (1, .int p1), (2, .int p2), (3, .int p3), (4, .int p4)], [.ref p0], o77.1, 0, 0)) rfl ?_
    obtain ⟨v82, e83, hq⟩ := bsm hq
    refine r_gJ odX7_toEdges rfl rfl e83 ?_
    refine mB_run odX7_toEdges 1 (g := (167, [(21, .long (v67 - v71)), (19, .long (v59 - v63)), (17, .long (v51 - v55)), (15, .long (v43 - v47)), (13, .long (v35 - v39)), (11, .long (v27 - v31)), (9, .long (v19 - v23)), (7, .long (v11 - v15)), (5, .long (v3 - v7)), (0, .ref p0), (1, .int p1), (2, .int p2), (3, .int p3), (4, .int p4)], [.ref p0, .long v82], o77.1, 0, 0)) rfl ?_
    obtain ⟨v84, e85, hq⟩ := bsm hq
    refine r_gJ odX7_toEdges rfl rfl e85 ?_
    refine mB_run odX7_toEdges 2 (g := (172, [(21, .long (v67 - v71)), (19, .long (v59 - v63)), (17, .long (v51 - v55)), (15, .long (v43 - v47)), (13, .long (v35 - v39)), (11, .long (v27 - v31)), (9, .long (v19 - v23)), (7, .long (v11 - v15)), (5, .long (v3 - v7)), (0, .ref p0), (1, .int p1), (2, .int p2), (3, .int p3), (4, .int p4)], [.ref p0, .long (v82 * v84)], o77.1, 0, 0)) rfl ?_
    obtain ⟨v86, e87, hq⟩ := bsm hq
    refine r_gJ odX7_toEdges rfl rfl e87 ?_
    refine mB_run odX7_toEdges 1 (g := (176, [(21, .long (v67 - v71)), (19, .long (v59 - v63)), (17, .long (v51 - v55)), (15, .long (v43 - v47)), (13, .long (v35 - v39)), (11, .long (v27 - v31)), (9, .long (v19 - v23)), (7, .long (v11 - v15)), (5, .long (v3 - v7)), (0, .ref p0), (1, .int p1), (2, .int p2), (3, .int p3), (4, .int p4)], [.ref p0, .long v86, .long (v82 * v84)], o77.1, 0, 0)) rfl ?_
    obtain ⟨v88, e89, hq⟩ := bsm hq
    refine r_gJ odX7_toEdges rfl rfl e89 ?_
    refine mB_run odX7_toEdges 3 (g := (182, [(21, .long (v67 - v71)), (19, .long (v59 - v63)), (17, .long (v51 - v55)), (15, .long (v43 - v47)), (13, .long (v35 - v39)), (11, .long (v27 - v31)), (9, .long (v19 - v23)), (7, .long (v11 - v15)), (5, .long (v3 - v7)), (0, .ref p0), (1, .int p1), (2, .int p2), (3, .int p3), (4, .int p4)], [.ref p0, .long ((v82 * v84) + (v86 * v88))], o77.1, 0, 0)) rfl ?_
    obtain ⟨v90, e91, hq⟩ := bsm hq
    refine r_gJ odX7_toEdges rfl rfl e91 ?_
    refine mB_run odX7_toEdges 1 (g := (186, [(21, .long (v67 - v71)), (19, .long (v59 - v63)), (17, .long (v51 - v55)), (15, .long (v43 - v47)), (13, .long (v35 - v39)), (11, .long (v27 - v31)), (9, .long (v19 - v23)), (7, .long (v11 - v15)), (5, .long (v3 - v7)), (0, .ref p0), (1, .int p1), (2, .int p2), (3, .int p3), (4, .int p4)], [.ref p0, .long v90, .long ((v82 * v84) + (v86 * v88))], o77.1, 0, 0)) rfl ?_
    obtain ⟨v92, e93, hq⟩ := bsm hq
    refine r_gJ odX7_toEdges rfl rfl e93 ?_
    refine mB_run odX7_toEdges 11 (g := (205, [(23, .long (((v82 * v84) + (v86 * v88)) + (v90 * v92))), (21, .long (v67 - v71)), (19, .long (v59 - v63)), (17, .long (v51 - v55)), (15, .long (v43 - v47)), (13, .long (v35 - v39)), (11, .long (v27 - v31)), (9, .long (v19 - v23)), (7, .long (v11 - v15)), (5, .long (v3 - v7)), (0, .ref p0), (1, .int p1), (2, .int p2), (3, .int p3), (4, .int p4)], [.ref p0, .long (((v59 - v63) * (v43 - v47)) - ((v67 - v71) * (v35 - v39)))], o77.1, 0, 0)) rfl ?_
    obtain ⟨v94, e95, hq⟩ := bsm hq
    refine r_gJ odX7_toEdges rfl rfl e95 ?_
    refine mB_run odX7_toEdges 9 (g := (221, [(23, .long (((v82 * v84) + (v86 * v88)) + (v90 * v92))), (21, .long (v67 - v71)), (19, .long (v59 - v63)), (17, .long (v51 - v55)), (15, .long (v43 - v47)), (13, .long (v35 - v39)), (11, .long (v27 - v31)), (9, .long (v19 - v23)), (7, .long (v11 - v15)), (5, .long (v3 - v7)), (0, .ref p0), (1, .int p1), (2, .int p2), (3, .int p3), (4, .int p4)], [.ref p0, .long (((v67 - v71) * (v27 - v31)) - ((v51 - v55) * (v43 - v47))), .long ((((v59 - v63) * (v43 - v47)) - ((v67 - v71) * (v35 - v39))) * v94)], o77.1, 0, 0)) rfl ?_
    obtain ⟨v96, e97, hq⟩ := bsm hq
    refine r_gJ odX7_toEdges rfl rfl e97 ?_
    refine mB_run odX7_toEdges 10 (g := (238, [(23, .long (((v82 * v84) + (v86 * v88)) + (v90 * v92))), (21, .long (v67 - v71)), (19, .long (v59 - v63)), (17, .long (v51 - v55)), (15, .long (v43 - v47)), (13, .long (v35 - v39)), (11, .long (v27 - v31)), (9, .long (v19 - v23)), (7, .long (v11 - v15)), (5, .long (v3 - v7)), (0, .ref p0), (1, .int p1), (2, .int p2), (3, .int p3), (4, .int p4)], [.ref p0, .long (((v51 - v55) * (v35 - v39)) - ((v59 - v63) * (v27 - v31))), .long (((((v59 - v63) * (v43 - v47)) - ((v67 - v71) * (v35 - v39))) * v94) + ((((v67 - v71) * (v27 - v31)) - ((v51 - v55) * (v43 - v47))) * v96))], o77.1, 0, 0)) rfl ?_
    obtain ⟨v98, e99, hq⟩ := bsm hq
    refine r_gJ odX7_toEdges rfl rfl e99 ?_
    refine mB_run odX7_toEdges 11 (g := (257, [(25, .long ((((((v59 - v63) * (v43 - v47)) - ((v67 - v71) * (v35 - v39))) * v94) + ((((v67 - v71) * (v27 - v31)) - ((v51 - v55) * (v43 - v47))) * v96)) + ((((v51 - v55) * (v35 - v39)) - ((v59 - v63) * (v27 - v31))) * v98))), (23, .long (((v82 * v84) + (v86 * v88)) + (v90 * v92))), (21, .long (v67 - v71)), (19, .long (v59 - v63)), (17, .long (v51 - v55)), (15, .long (v43 - v47)), (13, .long (v35 - v39)), (11, .long (v27 - v31)), (9, .long (v19 - v23)), (7, .long (v11 - v15)), (5, .long (v3 - v7)), (0, .ref p0), (1, .int p1), (2, .int p2), (3, .int p3), (4, .int p4)], [.ref p0, .long (((v59 - v63) * (v19 - v23)) - ((v67 - v71) * (v11 - v15)))], o77.1, 0, 0)) rfl ?_
    obtain ⟨v100, e101, hq⟩ := bsm hq
    refine r_gJ odX7_toEdges rfl rfl e101 ?_
    refine mB_run odX7_toEdges 9 (g := (273, [(25, .long ((((((v59 - v63) * (v43 - v47)) - ((v67 - v71) * (v35 - v39))) * v94) + ((((v67 - v71) * (v27 - v31)) - ((v51 - v55) * (v43 - v47))) * v96)) + ((((v51 - v55) * (v35 - v39)) - ((v59 - v63) * (v27 - v31))) * v98))), (23, .long (((v82 * v84) + (v86 * v88)) + (v90 * v92))), (21, .long (v67 - v71)), (19, .long (v59 - v63)), (17, .long (v51 - v55)), (15, .long (v43 - v47)), (13, .long (v35 - v39)), (11, .long (v27 - v31)), (9, .long (v19 - v23)), (7, .long (v11 - v15)), (5, .long (v3 - v7)), (0, .ref p0), (1, .int p1), (2, .int p2), (3, .int p3), (4, .int p4)], [.ref p0, .long (((v67 - v71) * (v3 - v7)) - ((v51 - v55) * (v19 - v23))), .long ((((v59 - v63) * (v19 - v23)) - ((v67 - v71) * (v11 - v15))) * v100)], o77.1, 0, 0)) rfl ?_
    obtain ⟨v102, e103, hq⟩ := bsm hq
    refine r_gJ odX7_toEdges rfl rfl e103 ?_
    refine mB_run odX7_toEdges 10 (g := (290, [(25, .long ((((((v59 - v63) * (v43 - v47)) - ((v67 - v71) * (v35 - v39))) * v94) + ((((v67 - v71) * (v27 - v31)) - ((v51 - v55) * (v43 - v47))) * v96)) + ((((v51 - v55) * (v35 - v39)) - ((v59 - v63) * (v27 - v31))) * v98))), (23, .long (((v82 * v84) + (v86 * v88)) + (v90 * v92))), (21, .long (v67 - v71)), (19, .long (v59 - v63)), (17, .long (v51 - v55)), (15, .long (v43 - v47)), (13, .long (v35 - v39)), (11, .long (v27 - v31)), (9, .long (v19 - v23)), (7, .long (v11 - v15)), (5, .long (v3 - v7)), (0, .ref p0), (1, .int p1), (2, .int p2), (3, .int p3), (4, .int p4)], [.ref p0, .long (((v51 - v55) * (v11 - v15)) - ((v59 - v63) * (v3 - v7))), .long (((((v59 - v63) * (v19 - v23)) - ((v67 - v71) * (v11 - v15))) * v100) + ((((v67 - v71) * (v3 - v7)) - ((v51 - v55) * (v19 - v23))) * v102))], o77.1, 0, 0)) rfl ?_
    obtain ⟨v104, e105, hq⟩ := bsm hq
    refine r_gJ odX7_toEdges rfl rfl e105 ?_
    refine mB_run odX7_toEdges 5 (g := (300, [(27, .long ((((((v59 - v63) * (v19 - v23)) - ((v67 - v71) * (v11 - v15))) * v100) + ((((v67 - v71) * (v3 - v7)) - ((v51 - v55) * (v19 - v23))) * v102)) + ((((v51 - v55) * (v11 - v15)) - ((v59 - v63) * (v3 - v7))) * v104))), (25, .long ((((((v59 - v63) * (v43 - v47)) - ((v67 - v71) * (v35 - v39))) * v94) + ((((v67 - v71) * (v27 - v31)) - ((v51 - v55) * (v43 - v47))) * v96)) + ((((v51 - v55) * (v35 - v39)) - ((v59 - v63) * (v27 - v31))) * v98))), (23, .long (((v82 * v84) + (v86 * v88)) + (v90 * v92))), (21, .long (v67 - v71)), (19, .long (v59 - v63)), (17, .long (v51 - v55)), (15, .long (v43 - v47)), (13, .long (v35 - v39)), (11, .long (v27 - v31)), (9, .long (v19 - v23)), (7, .long (v11 - v15)), (5, .long (v3 - v7)), (0, .ref p0), (1, .int p1), (2, .int p2), (3, .int p3), (4, .int p4)], [.long (0 : Int64), .long ((((((v59 - v63) * (v43 - v47)) - ((v67 - v71) * (v35 - v39))) * v94) + ((((v67 - v71) * (v27 - v31)) - ((v51 - v55) * (v43 - v47))) * v96)) + ((((v51 - v55) * (v35 - v39)) - ((v59 - v63) * (v27 - v31))) * v98))], o77.1, 0, 0)) rfl ?_
    by_cases c106 : ((((((v59 - v63) * (v43 - v47)) - ((v67 - v71) * (v35 - v39))) * v94) + ((((v67 - v71) * (v27 - v31)) - ((v51 - v55) * (v43 - v47))) * v96)) + ((((v51 - v55) * (v35 - v39)) - ((v59 - v63) * (v27 - v31))) * v98)) < (0 : Int64)
    · rw [if_pos c106] at hq
      refine lc_lt_T (t := 327) odX7_toEdges rfl rfl rfl c106 ?_
      cases hq
      exact mB_ret odX7_toEdges rfl
    · rw [if_neg c106] at hq
      refine lc_lt_F (t := 327) odX7_toEdges rfl rfl rfl c106 ?_
      refine mB_run odX7_toEdges 2 (g := (308, [(27, .long ((((((v59 - v63) * (v19 - v23)) - ((v67 - v71) * (v11 - v15))) * v100) + ((((v67 - v71) * (v3 - v7)) - ((v51 - v55) * (v19 - v23))) * v102)) + ((((v51 - v55) * (v11 - v15)) - ((v59 - v63) * (v3 - v7))) * v104))), (25, .long ((((((v59 - v63) * (v43 - v47)) - ((v67 - v71) * (v35 - v39))) * v94) + ((((v67 - v71) * (v27 - v31)) - ((v51 - v55) * (v43 - v47))) * v96)) + ((((v51 - v55) * (v35 - v39)) - ((v59 - v63) * (v27 - v31))) * v98))), (23, .long (((v82 * v84) + (v86 * v88)) + (v90 * v92))), (21, .long (v67 - v71)), (19, .long (v59 - v63)), (17, .long (v51 - v55)), (15, .long (v43 - v47)), (13, .long (v35 - v39)), (11, .long (v27 - v31)), (9, .long (v19 - v23)), (7, .long (v11 - v15)), (5, .long (v3 - v7)), (0, .ref p0), (1, .int p1), (2, .int p2), (3, .int p3), (4, .int p4)], [.long (((v82 * v84) + (v86 * v88)) + (v90 * v92)), .long ((((((v59 - v63) * (v43 - v47)) - ((v67 - v71) * (v35 - v39))) * v94) + ((((v67 - v71) * (v27 - v31)) - ((v51 - v55) * (v43 - v47))) * v96)) + ((((v51 - v55) * (v35 - v39)) - ((v59 - v63) * (v27 - v31))) * v98))], o77.1, 0, 0)) rfl ?_
      by_cases c107 : (((v82 * v84) + (v86 * v88)) + (v90 * v92)) < ((((((v59 - v63) * (v43 - v47)) - ((v67 - v71) * (v35 - v39))) * v94) + ((((v67 - v71) * (v27 - v31)) - ((v51 - v55) * (v43 - v47))) * v96)) + ((((v51 - v55) * (v35 - v39)) - ((v59 - v63) * (v27 - v31))) * v98))
      · rw [if_pos c107] at hq
        refine lc_gt_T (t := 327) odX7_toEdges rfl rfl rfl c107 ?_
        cases hq
        exact mB_ret odX7_toEdges rfl
      · rw [if_neg c107] at hq
        refine lc_gt_F (t := 327) odX7_toEdges rfl rfl rfl c107 ?_
        refine mB_run odX7_toEdges 2 (g := (315, [(27, .long ((((((v59 - v63) * (v19 - v23)) - ((v67 - v71) * (v11 - v15))) * v100) + ((((v67 - v71) * (v3 - v7)) - ((v51 - v55) * (v19 - v23))) * v102)) + ((((v51 - v55) * (v11 - v15)) - ((v59 - v63) * (v3 - v7))) * v104))), (25, .long ((((((v59 - v63) * (v43 - v47)) - ((v67 - v71) * (v35 - v39))) * v94) + ((((v67 - v71) * (v27 - v31)) - ((v51 - v55) * (v43 - v47))) * v96)) + ((((v51 - v55) * (v35 - v39)) - ((v59 - v63) * (v27 - v31))) * v98))), (23, .long (((v82 * v84) + (v86 * v88)) + (v90 * v92))), (21, .long (v67 - v71)), (19, .long (v59 - v63)), (17, .long (v51 - v55)), (15, .long (v43 - v47)), (13, .long (v35 - v39)), (11, .long (v27 - v31)), (9, .long (v19 - v23)), (7, .long (v11 - v15)), (5, .long (v3 - v7)), (0, .ref p0), (1, .int p1), (2, .int p2), (3, .int p3), (4, .int p4)], [.long (0 : Int64), .long ((((((v59 - v63) * (v19 - v23)) - ((v67 - v71) * (v11 - v15))) * v100) + ((((v67 - v71) * (v3 - v7)) - ((v51 - v55) * (v19 - v23))) * v102)) + ((((v51 - v55) * (v11 - v15)) - ((v59 - v63) * (v3 - v7))) * v104))], o77.1, 0, 0)) rfl ?_
        by_cases c108 : ((((((v59 - v63) * (v19 - v23)) - ((v67 - v71) * (v11 - v15))) * v100) + ((((v67 - v71) * (v3 - v7)) - ((v51 - v55) * (v19 - v23))) * v102)) + ((((v51 - v55) * (v11 - v15)) - ((v59 - v63) * (v3 - v7))) * v104)) < (0 : Int64)
        · rw [if_pos c108] at hq
          refine lc_lt_T (t := 327) odX7_toEdges rfl rfl rfl c108 ?_
          cases hq
          exact mB_ret odX7_toEdges rfl
        · rw [if_neg c108] at hq
          refine lc_lt_F (t := 327) odX7_toEdges rfl rfl rfl c108 ?_
          refine mB_run odX7_toEdges 2 (g := (323, [(27, .long ((((((v59 - v63) * (v19 - v23)) - ((v67 - v71) * (v11 - v15))) * v100) + ((((v67 - v71) * (v3 - v7)) - ((v51 - v55) * (v19 - v23))) * v102)) + ((((v51 - v55) * (v11 - v15)) - ((v59 - v63) * (v3 - v7))) * v104))), (25, .long ((((((v59 - v63) * (v43 - v47)) - ((v67 - v71) * (v35 - v39))) * v94) + ((((v67 - v71) * (v27 - v31)) - ((v51 - v55) * (v43 - v47))) * v96)) + ((((v51 - v55) * (v35 - v39)) - ((v59 - v63) * (v27 - v31))) * v98))), (23, .long (((v82 * v84) + (v86 * v88)) + (v90 * v92))), (21, .long (v67 - v71)), (19, .long (v59 - v63)), (17, .long (v51 - v55)), (15, .long (v43 - v47)), (13, .long (v35 - v39)), (11, .long (v27 - v31)), (9, .long (v19 - v23)), (7, .long (v11 - v15)), (5, .long (v3 - v7)), (0, .ref p0), (1, .int p1), (2, .int p2), (3, .int p3), (4, .int p4)], [.long (((v82 * v84) + (v86 * v88)) + (v90 * v92)), .long ((((((v59 - v63) * (v19 - v23)) - ((v67 - v71) * (v11 - v15))) * v100) + ((((v67 - v71) * (v3 - v7)) - ((v51 - v55) * (v19 - v23))) * v102)) + ((((v51 - v55) * (v11 - v15)) - ((v59 - v63) * (v3 - v7))) * v104))], o77.1, 0, 0)) rfl ?_
          by_cases c109 : ((((((v59 - v63) * (v19 - v23)) - ((v67 - v71) * (v11 - v15))) * v100) + ((((v67 - v71) * (v3 - v7)) - ((v51 - v55) * (v19 - v23))) * v102)) + ((((v51 - v55) * (v11 - v15)) - ((v59 - v63) * (v3 - v7))) * v104)) ≤ (((v82 * v84) + (v86 * v88)) + (v90 * v92))
          · rw [if_pos c109] at hq
            refine lc_le_T (t := 328) odX7_toEdges rfl rfl rfl c109 ?_
            refine mB_run odX7_toEdges 2 (g := (331, [(27, .long ((((((v59 - v63) * (v19 - v23)) - ((v67 - v71) * (v11 - v15))) * v100) + ((((v67 - v71) * (v3 - v7)) - ((v51 - v55) * (v19 - v23))) * v102)) + ((((v51 - v55) * (v11 - v15)) - ((v59 - v63) * (v3 - v7))) * v104))), (25, .long ((((((v59 - v63) * (v43 - v47)) - ((v67 - v71) * (v35 - v39))) * v94) + ((((v67 - v71) * (v27 - v31)) - ((v51 - v55) * (v43 - v47))) * v96)) + ((((v51 - v55) * (v35 - v39)) - ((v59 - v63) * (v27 - v31))) * v98))), (23, .long (((v82 * v84) + (v86 * v88)) + (v90 * v92))), (21, .long (v67 - v71)), (19, .long (v59 - v63)), (17, .long (v51 - v55)), (15, .long (v43 - v47)), (13, .long (v35 - v39)), (11, .long (v27 - v31)), (9, .long (v19 - v23)), (7, .long (v11 - v15)), (5, .long (v3 - v7)), (0, .ref p0), (1, .int p1), (2, .int p2), (3, .int p3), (4, .int p4)], [.ref p0, .long (v51 - v55)], o77.1, 0, 0)) rfl ?_
            obtain ⟨v110, e111, hq⟩ := bsm hq
            refine r_gJ odX7_toEdges rfl rfl e111 ?_
            refine mB_run odX7_toEdges 3 (g := (338, [(27, .long ((((((v59 - v63) * (v19 - v23)) - ((v67 - v71) * (v11 - v15))) * v100) + ((((v67 - v71) * (v3 - v7)) - ((v51 - v55) * (v19 - v23))) * v102)) + ((((v51 - v55) * (v11 - v15)) - ((v59 - v63) * (v3 - v7))) * v104))), (25, .long ((((((v59 - v63) * (v43 - v47)) - ((v67 - v71) * (v35 - v39))) * v94) + ((((v67 - v71) * (v27 - v31)) - ((v51 - v55) * (v43 - v47))) * v96)) + ((((v51 - v55) * (v35 - v39)) - ((v59 - v63) * (v27 - v31))) * v98))), (23, .long (((v82 * v84) + (v86 * v88)) + (v90 * v92))), (21, .long (v67 - v71)), (19, .long (v59 - v63)), (17, .long (v51 - v55)), (15, .long (v43 - v47)), (13, .long (v35 - v39)), (11, .long (v27 - v31)), (9, .long (v19 - v23)), (7, .long (v11 - v15)), (5, .long (v3 - v7)), (0, .ref p0), (1, .int p1), (2, .int p2), (3, .int p3), (4, .int p4)], [.ref p0, .long (v59 - v63), .long ((v51 - v55) * v110)], o77.1, 0, 0)) rfl ?_
            obtain ⟨v112, e113, hq⟩ := bsm hq
            refine r_gJ odX7_toEdges rfl rfl e113 ?_
            refine mB_run odX7_toEdges 4 (g := (346, [(27, .long ((((((v59 - v63) * (v19 - v23)) - ((v67 - v71) * (v11 - v15))) * v100) + ((((v67 - v71) * (v3 - v7)) - ((v51 - v55) * (v19 - v23))) * v102)) + ((((v51 - v55) * (v11 - v15)) - ((v59 - v63) * (v3 - v7))) * v104))), (25, .long ((((((v59 - v63) * (v43 - v47)) - ((v67 - v71) * (v35 - v39))) * v94) + ((((v67 - v71) * (v27 - v31)) - ((v51 - v55) * (v43 - v47))) * v96)) + ((((v51 - v55) * (v35 - v39)) - ((v59 - v63) * (v27 - v31))) * v98))), (23, .long (((v82 * v84) + (v86 * v88)) + (v90 * v92))), (21, .long (v67 - v71)), (19, .long (v59 - v63)), (17, .long (v51 - v55)), (15, .long (v43 - v47)), (13, .long (v35 - v39)), (11, .long (v27 - v31)), (9, .long (v19 - v23)), (7, .long (v11 - v15)), (5, .long (v3 - v7)), (0, .ref p0), (1, .int p1), (2, .int p2), (3, .int p3), (4, .int p4)], [.ref p0, .long (v67 - v71), .long (((v51 - v55) * v110) + ((v59 - v63) * v112))], o77.1, 0, 0)) rfl ?_
            obtain ⟨v114, e115, hq⟩ := bsm hq
            refine r_gJ odX7_toEdges rfl rfl e115 ?_
            refine mB_run odX7_toEdges 8 (g := (361, [(29, .long ((((v51 - v55) * v110) + ((v59 - v63) * v112)) + ((v67 - v71) * v114))), (27, .long ((((((v59 - v63) * (v19 - v23)) - ((v67 - v71) * (v11 - v15))) * v100) + ((((v67 - v71) * (v3 - v7)) - ((v51 - v55) * (v19 - v23))) * v102)) + ((((v51 - v55) * (v11 - v15)) - ((v59 - v63) * (v3 - v7))) * v104))), (25, .long ((((((v59 - v63) * (v43 - v47)) - ((v67 - v71) * (v35 - v39))) * v94) + ((((v67 - v71) * (v27 - v31)) - ((v51 - v55) * (v43 - v47))) * v96)) + ((((v51 - v55) * (v35 - v39)) - ((v59 - v63) * (v27 - v31))) * v98))), (23, .long (((v82 * v84) + (v86 * v88)) + (v90 * v92))), (21, .long (v67 - v71)), (19, .long (v59 - v63)), (17, .long (v51 - v55)), (15, .long (v43 - v47)), (13, .long (v35 - v39)), (11, .long (v27 - v31)), (9, .long (v19 - v23)), (7, .long (v11 - v15)), (5, .long (v3 - v7)), (0, .ref p0), (1, .int p1), (2, .int p2), (3, .int p3), (4, .int p4)], [.long (((v82 * v84) + (v86 * v88)) + (v90 * v92)), .long (((((v51 - v55) * v110) + ((v59 - v63) * v112)) + ((v67 - v71) * v114)) * ((((v51 - v55) * v110) + ((v59 - v63) * v112)) + ((v67 - v71) * v114))), .ref p0], o77.1, 0, 0)) rfl ?_
            obtain ⟨f118, k119, hq⟩ := bsm hq
            obtain ⟨o116, e117, hq⟩ := bsm hq
            refine mB_V (as := [.long (((((v51 - v55) * v110) + ((v59 - v63) * v112)) + ((v67 - v71) * v114)) * ((((v51 - v55) * v110) + ((v59 - v63) * v112)) + ((v67 - v71) * v114))), .long (((v82 * v84) + (v86 * v88)) + (v90 * v92))]) odX7_toEdges okX7_tries lk_7_327 rfl (exX7_tries e117) (kO_at k119) rfl rfl rfl ?_
            show mB _ mX7_toEdges (364, [(29, .long ((((v51 - v55) * v110) + ((v59 - v63) * v112)) + ((v67 - v71) * v114))), (27, .long ((((((v59 - v63) * (v19 - v23)) - ((v67 - v71) * (v11 - v15))) * v100) + ((((v67 - v71) * (v3 - v7)) - ((v51 - v55) * (v19 - v23))) * v102)) + ((((v51 - v55) * (v11 - v15)) - ((v59 - v63) * (v3 - v7))) * v104))), (25, .long ((((((v59 - v63) * (v43 - v47)) - ((v67 - v71) * (v35 - v39))) * v94) + ((((v67 - v71) * (v27 - v31)) - ((v51 - v55) * (v43 - v47))) * v96)) + ((((v51 - v55) * (v35 - v39)) - ((v59 - v63) * (v27 - v31))) * v98))), (23, .long (((v82 * v84) + (v86 * v88)) + (v90 * v92))), (21, .long (v67 - v71)), (19, .long (v59 - v63)), (17, .long (v51 - v55)), (15, .long (v43 - v47)), (13, .long (v35 - v39)), (11, .long (v27 - v31)), (9, .long (v19 - v23)), (7, .long (v11 - v15)), (5, .long (v3 - v7)), (0, .ref p0), (1, .int p1), (2, .int p2), (3, .int p3), (4, .int p4)], [], o116, 0, 0)
            cases hq
            exact mB_ret odX7_toEdges rfl
          · rw [if_neg c109] at hq
            refine lc_le_F (t := 328) odX7_toEdges rfl rfl rfl c109 ?_
            cases hq
            exact mB_ret odX7_toEdges rfl
  · rw [if_neg c81] at hq
    refine if_eq_F (t := 162) odX7_toEdges rfl rfl c81 ?_
    cases hq
    exact mB_ret odX7_toEdges rfl
