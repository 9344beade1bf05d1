def fxX7_width_101 (N : Nat) (rec86 : Nat → Int32 → Int32 → mh → Option (mh × Int64)) : Nat → Nat → Int32 → Int32 → Int32 → mh → Option (mh × Int64)
  | 0, _, _, _, _, _ => none
  | n + 1, x0, x2, x3, x4, h =>
    (gR h x0 7 34).bind fun v51 =>
    (aI h v51 (0 : Int32)).bind fun v53 =>
    if v53 ≤ x4 then (
      rec86 x0 x2 (x3 + (1 : Int32)) h) else (
      (gR h x0 7 16).bind fun v56 =>
      (gR h x0 7 36).bind fun v58 =>
      (aI h v58 x3).bind fun v60 =>
      (aJ h v56 v60).bind fun v62 =>
      (gR h x0 7 16).bind fun v64 =>
      (gR h x0 7 35).bind fun v66 =>
      (aI h v66 x3).bind fun v68 =>
      (aJ h v64 v68).bind fun v70 =>
      (gR h x0 7 17).bind fun v72 =>
      (gR h x0 7 36).bind fun v74 =>
      (aI h v74 x3).bind fun v76 =>
      (aJ h v72 v76).bind fun v78 =>
      (gR h x0 7 17).bind fun v80 =>
      (gR h x0 7 35).bind fun v82 =>
      (aI h v82 x3).bind fun v84 =>
      (aJ h v80 v84).bind fun v86 =>
      (gR h x0 7 18).bind fun v88 =>
      (gR h x0 7 36).bind fun v90 =>
      (aI h v90 x3).bind fun v92 =>
      (aJ h v88 v92).bind fun v94 =>
      (gR h x0 7 18).bind fun v96 =>
      (gR h x0 7 35).bind fun v98 =>
      (aI h v98 x3).bind fun v100 =>
      (aJ h v96 v100).bind fun v102 =>
      (gR h x0 7 16).bind fun v104 =>
      (gR h x0 7 36).bind fun v106 =>
      (aI h v106 x4).bind fun v108 =>
      (aJ h v104 v108).bind fun v110 =>
      (gR h x0 7 16).bind fun v112 =>
      (gR h x0 7 35).bind fun v114 =>
      (aI h v114 x4).bind fun v116 =>
      (aJ h v112 v116).bind fun v118 =>
      (gR h x0 7 17).bind fun v120 =>
      (gR h x0 7 36).bind fun v122 =>
      (aI h v122 x4).bind fun v124 =>
      (aJ h v120 v124).bind fun v126 =>
      (gR h x0 7 17).bind fun v128 =>
      (gR h x0 7 35).bind fun v130 =>
      (aI h v130 x4).bind fun v132 =>
      (aJ h v128 v132).bind fun v134 =>
      (gR h x0 7 18).bind fun v136 =>
      (gR h x0 7 36).bind fun v138 =>
      (aI h v138 x4).bind fun v140 =>
      (aJ h v136 v140).bind fun v142 =>
      (gR h x0 7 18).bind fun v144 =>
      (gR h x0 7 35).bind fun v146 =>
      (aI h v146 x4).bind fun v148 =>
      (aJ h v144 v148).bind fun v150 =>
      (kO h x0 7).bind fun f154 =>
      (fxX7_crosses N x0 (v62 - v70) (v78 - v86) (v94 - v102) (v110 - v118) (v126 - v134) (v142 - v150) h).bind fun o152 =>
      (kO o152 x0 7).bind fun f158 =>
      (fxX7_thick N x0 o152).bind fun o156 =>
      fxX7_width_101 N rec86 n x0 x2 x3 (x4 + (1 : Int32)) o156)
set_option maxHeartbeats 4000000 in
set_option maxRecDepth 100000 in
theorem exX7_width_101 {N : Nat} {rec86 : Nat → Int32 → Int32 → mh → Option (mh × Int64)} (hrec86 : ∀ (x0 : Nat) (x2 : Int32) (x3 : Int32) (h : mh) {o : (mh × Int64)}, rec86 x0 x2 x3 h = some o → mB (gO mX7_width (o.1, some (.long o.2))) mX7_width (86, [(0, .ref x0), (2, .int x2), (3, .int x3)], [], h, 0, 0)) : ∀ (n : Nat) (x0 : Nat) (x2 : Int32) (x3 : Int32) (x4 : Int32) (h : mh) {o : (mh × Int64)}, fxX7_width_101 N rec86 n x0 x2 x3 x4 h = some o → mB (gO mX7_width (o.1, some (.long o.2))) mX7_width (101, [(0, .ref x0), (2, .int x2), (3, .int x3), (4, .int x4)], [], h, 0, 0) := by
  intro n
  induction n with
  | zero => intro x0 x2 x3 x4 h o hq; cases hq
  | succ n ih =>
    intro x0 x2 x3 x4 h o hq
    unfold fxX7_width_101 at hq
    refine mB_run odX7_width 2 (g := (104, [(0, .ref x0), (2, .int x2), (3, .int x3), (4, .int x4)], [.ref x0, .int x4], h, 0, 0)) rfl ?_
    obtain ⟨v51, e52, hq⟩ := bsm hq
    refine r_gR odX7_width rfl rfl e52 ?_
    refine mB_run odX7_width 1 (g := (108, [(0, .ref x0), (2, .int x2), (3, .int x3), (4, .int x4)], [.int (0 : Int32), .ref v51, .int x4], h, 0, 0)) rfl ?_
    obtain ⟨v53, e54, hq⟩ := bsm hq
    refine r_aI odX7_width rfl e54 ?_
    by_cases c55 : v53 ≤ x4
    · rw [if_pos c55] at hq
      refine ic_ge_T (t := 270) odX7_width rfl rfl c55 ?_
      refine mB_run odX7_width 2 (g := (86, [(3, .int (x3 + (1 : Int32))), (0, .ref x0), (2, .int x2), (4, .int x4)], [], h, 0, 0)) rfl ?_
      refine mB_lv [1, 2, 0] (lv' := [(0, .ref x0), (2, .int x2), (3, .int (x3 + (1 : Int32)))]) rfl ?_
      exact hrec86 _ _ _ _ hq
    · rw [if_neg c55] at hq
      refine ic_ge_F (t := 270) odX7_width rfl rfl c55 ?_
      refine mB_run odX7_width 2 (g := (114, [(0, .ref x0), (2, .int x2), (3, .int x3), (4, .int x4)], [.ref x0, .ref x0], h, 0, 0)) rfl ?_
      obtain ⟨v56, e57, hq⟩ := bsm hq
      refine r_gR odX7_width rfl rfl e57 ?_
      refine mB_run odX7_width 1 (g := (118, [(0, .ref x0), (2, .int x2), (3, .int x3), (4, .int x4)], [.ref x0, .ref v56, .ref x0], h, 0, 0)) rfl ?_
      obtain ⟨v58, e59, hq⟩ := bsm hq
      refine r_gR odX7_width rfl rfl e59 ?_
      refine mB_run odX7_width 1 (g := (122, [(0, .ref x0), (2, .int x2), (3, .int x3), (4, .int x4)], [.int x3, .ref v58, .ref v56, .ref x0], h, 0, 0)) rfl ?_
      obtain ⟨v60, e61, hq⟩ := bsm hq
      refine r_aI odX7_width rfl e61 ?_
      obtain ⟨v62, e63, hq⟩ := bsm hq
      refine r_aJ odX7_width rfl e63 ?_
      refine mB_run odX7_width 1 (g := (125, [(0, .ref x0), (2, .int x2), (3, .int x3), (4, .int x4)], [.ref x0, .long v62, .ref x0], h, 0, 0)) rfl ?_
      obtain ⟨v64, e65, hq⟩ := bsm hq
      refine r_gR odX7_width rfl rfl e65 ?_
      refine mB_run odX7_width 1 (g := (129, [(0, .ref x0), (2, .int x2), (3, .int x3), (4, .int x4)], [.ref x0, .ref v64, .long v62, .ref x0], h, 0, 0)) rfl ?_
      obtain ⟨v66, e67, hq⟩ := bsm hq
      refine r_gR odX7_width rfl rfl e67 ?_
      refine mB_run odX7_width 1 (g := (133, [(0, .ref x0), (2, .int x2), (3, .int x3), (4, .int x4)], [.int x3, .ref v66, .ref v64, .long v62, .ref x0], h, 0, 0)) rfl ?_
      obtain ⟨v68, e69, hq⟩ := bsm hq
      refine r_aI odX7_width rfl e69 ?_
      obtain ⟨v70, e71, hq⟩ := bsm hq
      refine r_aJ odX7_width rfl e71 ?_
      refine mB_run odX7_width 2 (g := (137, [(0, .ref x0), (2, .int x2), (3, .int x3), (4, .int x4)], [.ref x0, .long (v62 - v70), .ref x0], h, 0, 0)) rfl ?_
      obtain ⟨v72, e73, hq⟩ := bsm hq
      refine r_gR odX7_width rfl rfl e73 ?_
      refine mB_run odX7_width 1 (g := (141, [(0, .ref x0), (2, .int x2), (3, .int x3), (4, .int x4)], [.ref x0, .ref v72, .long (v62 - v70), .ref x0], h, 0, 0)) rfl ?_
      obtain ⟨v74, e75, hq⟩ := bsm hq
      refine r_gR odX7_width rfl rfl e75 ?_
      refine mB_run odX7_width 1 (g := (145, [(0, .ref x0), (2, .int x2), (3, .int x3), (4, .int x4)], [.int x3, .ref v74, .ref v72, .long (v62 - v70), .ref x0], h, 0, 0)) rfl ?_
      obtain ⟨v76, e77, hq⟩ := bsm hq
      refine r_aI odX7_width rfl e77 ?_
      obtain ⟨v78, e79, hq⟩ := bsm hq
      refine r_aJ odX7_width rfl e79 ?_
      refine mB_run odX7_width 1 (g := (148, [(0, .ref x0), (2, .int x2), (3, .int x3), (4, .int x4)], [.ref x0, .long v78, .long (v62 - v70), .ref x0], h, 0, 0)) rfl ?_
      obtain ⟨v80, e81, hq⟩ := bsm hq
      refine r_gR odX7_width rfl rfl e81 ?_
      refine mB_run odX7_width 1 (g := (152, [(0, .ref x0), (2, .int x2), (3, .int x3), (4, .int x4)], [.ref x0, .ref v80, .long v78, .long (v62 - v70), .ref x0], h, 0, 0)) rfl ?_
      obtain ⟨v82, e83, hq⟩ := bsm hq
      refine r_gR odX7_width rfl rfl e83 ?_
      refine mB_run odX7_width 1 (g := (156, [(0, .ref x0), (2, .int x2), (3, .int x3), (4, .int x4)], [.int x3, .ref v82, .ref v80, .long v78, .long (v62 - v70), .ref x0], h, 0, 0)) rfl ?_
      obtain ⟨v84, e85, hq⟩ := bsm hq
      refine r_aI odX7_width rfl e85 ?_
      obtain ⟨v86, e87, hq⟩ := bsm hq
      refine r_aJ odX7_width rfl e87 ?_
      refine mB_run odX7_width 2 (g := (160, [(0, .ref x0), (2, .int x2), (3, .int x3), (4, .int x4)], [.ref x0, .long (v78 - v86), .long (v62 - v70), .ref x0], h, 0, 0)) rfl ?_
      obtain ⟨v88, e89, hq⟩ := bsm hq
      refine r_gR odX7_width rfl rfl e89 ?_
      refine mB_run odX7_width 1 (g := (164, [(0, .ref x0), (2, .int x2), (3, .int x3), (4, .int x4)], [.ref x0, .ref v88, .long (v78 - v86), .long (v62 - v70), .ref x0], h, 0, 0)) rfl ?_
      obtain ⟨v90, e91, hq⟩ := bsm hq
      refine r_gR odX7_width rfl rfl e91 ?_
      refine mB_run odX7_width 1 (g := (168, [(0, .ref x0), (2, .int x2), (3, .int x3), (4, .int x4)], [.int x3, .ref v90, .ref v88, .long (v78 - v86), .long (v62 - v70), .ref x0], h, 0, 0)) rfl ?_
      obtain ⟨v92, e93, hq⟩ := bsm hq
      refine r_aI odX7_width rfl e93 ?_
      obtain ⟨v94, e95, hq⟩ := bsm hq
      refine r_aJ odX7_width rfl e95 ?_
      refine mB_run odX7_width 1 (g := (171, [(0, .ref x0), (2, .int x2), (3, .int x3), (4, .int x4)], [.ref x0, .long v94, .long (v78 - v86), .long (v62 - v70), .ref x0], h, 0, 0)) rfl ?_
      obtain ⟨v96, e97, hq⟩ := bsm hq
      refine r_gR odX7_width rfl rfl e97 ?_
      refine mB_run odX7_width 1 (g := (175, [(0, .ref x0), (2, .int x2), (3, .int x3), (4, .int x4)], [.ref x0, .ref v96, .long v94, .long (v78 - v86), .long (v62 - v70), .ref x0], h, 0, 0)) rfl ?_
      obtain ⟨v98, e99, hq⟩ := bsm hq
      refine r_gR odX7_width rfl rfl e99 ?_
      refine mB_run odX7_width 1 (g := (179, [(0, .ref x0), (2, .int x2), (3, .int x3), (4, .int x4)], [.int x3, .ref v98, .ref v96, .long v94, .long (v78 - v86), .long (v62 - v70), .ref x0], h, 0, 0)) rfl ?_
      obtain ⟨v100, e101, hq⟩ := bsm hq
      refine r_aI odX7_width rfl e101 ?_
      obtain ⟨v102, e103, hq⟩ := bsm hq
      refine r_aJ odX7_width rfl e103 ?_
      refine mB_run odX7_width 2 (g := (183, [(0, .ref x0), (2, .int x2), (3, .int x3), (4, .int x4)], [.ref x0, .long (v94 - v102), .long (v78 - v86), .long (v62 - v70), .ref x0], h, 0, 0)) rfl ?_
      obtain ⟨v104, e105, hq⟩ := bsm hq
      refine r_gR odX7_width rfl rfl e105 ?_
      refine mB_run odX7_width 1 (g := (187, [(0, .ref x0), (2, .int x2), (3, .int x3), (4, .int x4)], [.ref x0, .ref v104, .long (v94 - v102), .long (v78 - v86), .long (v62 - v70), .ref x0], h, 0, 0)) rfl ?_
      obtain ⟨v106, e107, hq⟩ := bsm hq
      refine r_gR odX7_width rfl rfl e107 ?_
      refine mB_run odX7_width 1 (g := (192, [(0, .ref x0), (2, .int x2), (3, .int x3), (4, .int x4)], [.int x4, .ref v106, .ref v104, .long (v94 - v102), .long (v78 - v86), .long (v62 - v70), .ref x0], h, 0, 0)) rfl ?_
      obtain ⟨v108, e109, hq⟩ := bsm hq
      refine r_aI odX7_width rfl e109 ?_
      obtain ⟨v110, e111, hq⟩ := bsm hq
      refine r_aJ odX7_width rfl e111 ?_
      refine mB_run odX7_width 1 (g := (195, [(0, .ref x0), (2, .int x2), (3, .int x3), (4, .int x4)], [.ref x0, .long v110, .long (v94 - v102), .long (v78 - v86), .long (v62 - v70), .ref x0], h, 0, 0)) rfl ?_
      obtain ⟨v112, e113, hq⟩ := bsm hq
      refine r_gR odX7_width rfl rfl e113 ?_
      refine mB_run odX7_width 1 (g := (199, [(0, .ref x0), (2, .int x2), (3, .int x3), (4, .int x4)], [.ref x0, .ref v112, .long v110, .long (v94 - v102), .long (v78 - v86), .long (v62 - v70), .ref x0], h, 0, 0)) rfl ?_
      obtain ⟨v114, e115, hq⟩ := bsm hq
      refine r_gR odX7_width rfl rfl e115 ?_
      refine mB_run odX7_width 1 (g := (204, [(0, .ref x0), (2, .int x2), (3, .int x3), (4, .int x4)], [.int x4, .ref v114, .ref v112, .long v110, .long (v94 - v102), .long (v78 - v86), .long (v62 - v70), .ref x0], h, 0, 0)) rfl ?_
      obtain ⟨v116, e117, hq⟩ := bsm hq
      refine r_aI odX7_width rfl e117 ?_
      obtain ⟨v118, e119, hq⟩ := bsm hq
      refine r_aJ odX7_width rfl e119 ?_
      refine mB_run odX7_width 2 (g := (208, [(0, .ref x0), (2, .int x2), (3, .int x3), (4, .int x4)], [.ref x0, .long (v110 - v118), .long (v94 - v102), .long (v78 - v86), .long (v62 - v70), .ref x0], h, 0, 0)) rfl ?_
      obtain ⟨v120, e121, hq⟩ := bsm hq
      refine r_gR odX7_width rfl rfl e121 ?_
      refine mB_run odX7_width 1 (g := (212, [(0, .ref x0), (2, .int x2), (3, .int x3), (4, .int x4)], [.ref x0, .ref v120, .long (v110 - v118), .long (v94 - v102), .long (v78 - v86), .long (v62 - v70), .ref x0], h, 0, 0)) rfl ?_
      obtain ⟨v122, e123, hq⟩ := bsm hq
      refine r_gR odX7_width rfl rfl e123 ?_
      refine mB_run odX7_width 1 (g := (217, [(0, .ref x0), (2, .int x2), (3, .int x3), (4, .int x4)], [.int x4, .ref v122, .ref v120, .long (v110 - v118), .long (v94 - v102), .long (v78 - v86), .long (v62 - v70), .ref x0], h, 0, 0)) rfl ?_
      obtain ⟨v124, e125, hq⟩ := bsm hq
      refine r_aI odX7_width rfl e125 ?_
      obtain ⟨v126, e127, hq⟩ := bsm hq
      refine r_aJ odX7_width rfl e127 ?_
      refine mB_run odX7_width 1 (g := (220, [(0, .ref x0), (2, .int x2), (3, .int x3), (4, .int x4)], [.ref x0, .long v126, .long (v110 - v118), .long (v94 - v102), .long (v78 - v86), .long (v62 - v70), .ref x0], h, 0, 0)) rfl ?_
      obtain ⟨v128, e129, hq⟩ := bsm hq
      refine r_gR odX7_width rfl rfl e129 ?_
      refine mB_run odX7_width 1 (g := (224, [(0, .ref x0), (2, .int x2), (3, .int x3), (4, .int x4)], [.ref x0, .ref v128, .long v126, .long (v110 - v118), .long (v94 - v102), .long (v78 - v86), .long (v62 - v70), .ref x0], h, 0, 0)) rfl ?_
      obtain ⟨v130, e131, hq⟩ := bsm hq
      refine r_gR odX7_width rfl rfl e131 ?_
      refine mB_run odX7_width 1 (g := (229, [(0, .ref x0), (2, .int x2), (3, .int x3), (4, .int x4)], [.int x4, .ref v130, .ref v128, .long v126, .long (v110 - v118), .long (v94 - v102), .long (v78 - v86), .long (v62 - v70), .ref x0], h, 0, 0)) rfl ?_
      obtain ⟨v132, e133, hq⟩ := bsm hq
      refine r_aI odX7_width rfl e133 ?_
      obtain ⟨v134, e135, hq⟩ := bsm hq
      refine r_aJ odX7_width rfl e135 ?_
      refine mB_run odX7_width 2 (g := (233, [(0, .ref x0), (2, .int x2), (3, .int x3), (4, .int x4)], [.ref x0, .long (v126 - v134), .long (v110 - v118), .long (v94 - v102), .long (v78 - v86), .long (v62 - v70), .ref x0], h, 0, 0)) rfl ?_
      obtain ⟨v136, e137, hq⟩ := bsm hq
      refine r_gR odX7_width rfl rfl e137 ?_
      refine mB_run odX7_width 1 (g := (237, [(0, .ref x0), (2, .int x2), (3, .int x3), (4, .int x4)], [.ref x0, .ref v136, .long (v126 - v134), .long (v110 - v118), .long (v94 - v102), .long (v78 - v86), .long (v62 - v70), .ref x0], h, 0, 0)) rfl ?_
      obtain ⟨v138, e139, hq⟩ := bsm hq
      refine r_gR odX7_width rfl rfl e139 ?_
      refine mB_run odX7_width 1 (g := (242, [(0, .ref x0), (2, .int x2), (3, .int x3), (4, .int x4)], [.int x4, .ref v138, .ref v136, .long (v126 - v134), .long (v110 - v118), .long (v94 - v102), .long (v78 - v86), .long (v62 - v70), .ref x0], h, 0, 0)) rfl ?_
      obtain ⟨v140, e141, hq⟩ := bsm hq
      refine r_aI odX7_width rfl e141 ?_
      obtain ⟨v142, e143, hq⟩ := bsm hq
      refine r_aJ odX7_width rfl e143 ?_
      refine mB_run odX7_width 1 (g := (245, [(0, .ref x0), (2, .int x2), (3, .int x3), (4, .int x4)], [.ref x0, .long v142, .long (v126 - v134), .long (v110 - v118), .long (v94 - v102), .long (v78 - v86), .long (v62 - v70), .ref x0], h, 0, 0)) rfl ?_
      obtain ⟨v144, e145, hq⟩ := bsm hq
      refine r_gR odX7_width rfl rfl e145 ?_
      refine mB_run odX7_width 1 (g := (249, [(0, .ref x0), (2, .int x2), (3, .int x3), (4, .int x4)], [.ref x0, .ref v144, .long v142, .long (v126 - v134), .long (v110 - v118), .long (v94 - v102), .long (v78 - v86), .long (v62 - v70), .ref x0], h, 0, 0)) rfl ?_
      obtain ⟨v146, e147, hq⟩ := bsm hq
      refine r_gR odX7_width rfl rfl e147 ?_
      refine mB_run odX7_width 1 (g := (254, [(0, .ref x0), (2, .int x2), (3, .int x3), (4, .int x4)], [.int x4, .ref v146, .ref v144, .long v142, .long (v126 - v134), .long (v110 - v118), .long (v94 - v102), .long (v78 - v86), .long (v62 - v70), .ref x0], h, 0, 0)) rfl ?_
      obtain ⟨v148, e149, hq⟩ := bsm hq
      refine r_aI odX7_width rfl e149 ?_
      obtain ⟨v150, e151, hq⟩ := bsm hq
      refine r_aJ odX7_width rfl e151 ?_
      refine mB_run odX7_width 1 (g := (257, [(0, .ref x0), (2, .int x2), (3, .int x3), (4, .int x4)], [.long (v142 - v150), .long (v126 - v134), .long (v110 - v118), .long (v94 - v102), .long (v78 - v86), .long (v62 - v70), .ref x0], h, 0, 0)) rfl ?_
      obtain ⟨f154, k155, hq⟩ := bsm hq
      obtain ⟨o152, e153, hq⟩ := bsm hq
      refine mB_V (as := [.long (v62 - v70), .long (v78 - v86), .long (v94 - v102), .long (v110 - v118), .long (v126 - v134), .long (v142 - v150)]) odX7_width okX7_crosses lk_7_334 rfl (exX7_crosses e153) (kO_at k155) rfl rfl rfl ?_
      show mB _ mX7_width (260, [(0, .ref x0), (2, .int x2), (3, .int x3), (4, .int x4)], [], o152, 0, 0)
      refine mB_run odX7_width 1 (g := (261, [(0, .ref x0), (2, .int x2), (3, .int x3), (4, .int x4)], [.ref x0], o152, 0, 0)) rfl ?_
      obtain ⟨f158, k159, hq⟩ := bsm hq
      obtain ⟨o156, e157, hq⟩ := bsm hq
      refine mB_V (as := []) odX7_width okX7_thick lk_7_331 rfl (exX7_thick e157) (kO_at k159) rfl rfl rfl ?_
      show mB _ mX7_width (264, [(0, .ref x0), (2, .int x2), (3, .int x3), (4, .int x4)], [], o156, 0, 0)
      refine mB_run odX7_width 2 (g := (101, [(4, .int (x4 + (1 : Int32))), (0, .ref x0), (2, .int x2), (3, .int x3)], [], o156, 0, 0)) rfl ?_
      refine mB_lv [1, 2, 3, 0] (lv' := [(0, .ref x0), (2, .int x2), (3, .int x3), (4, .int (x4 + (1 : Int32)))]) rfl ?_
      exact ih _ _ _ _ _ hq
def fxX7_width_86 (N : Nat) : Nat → Nat → Int32 → Int32 → mh → Option (mh × Int64)
  | 0, _, _, _, _ => none
  | n + 1, x0, x2, x3, h =>
    (gR h x0 7 34).bind fun v42 =>
    (aI h v42 (0 : Int32)).bind fun v44 =>
    if v44 ≤ x3 then (
      (kO h x0 7).bind fun f49 =>
      (fxX7_told N x0 x2 h).bind fun o47 =>
      some (o47.1, o47.2)) else (
      fxX7_width_101 N (fxX7_width_86 N n) N x0 x2 x3 (x3 + (1 : Int32)) h)
set_option maxHeartbeats 4000000 in
set_option maxRecDepth 100000 in
theorem exX7_width_86 {N : Nat} : ∀ (n : Nat) (x0 : Nat) (x2 : Int32) (x3 : Int32) (h : mh) {o : (mh × Int64)}, fxX7_width_86 N n x0 x2 x3 h = some o → mB (gO mX7_width (o.1, some (.long o.2))) mX7_width (86, [(0, .ref x0), (2, .int x2), (3, .int x3)], [], h, 0, 0) := by
  intro n
  induction n with
  | zero => intro x0 x2 x3 h o hq; cases hq
  | succ n ih =>
    intro x0 x2 x3 h o hq
    unfold fxX7_width_86 at hq
    refine mB_run odX7_width 2 (g := (88, [(0, .ref x0), (2, .int x2), (3, .int x3)], [.ref x0, .int x3], h, 0, 0)) rfl ?_
    obtain ⟨v42, e43, hq⟩ := bsm hq
    refine r_gR odX7_width rfl rfl e43 ?_
    refine mB_run odX7_width 1 (g := (92, [(0, .ref x0), (2, .int x2), (3, .int x3)], [.int (0 : Int32), .ref v42, .int x3], h, 0, 0)) rfl ?_
    obtain ⟨v44, e45, hq⟩ := bsm hq
    refine r_aI odX7_width rfl e45 ?_
    by_cases c46 : v44 ≤ x3
    · rw [if_pos c46] at hq
      refine ic_ge_T (t := 276) odX7_width rfl rfl c46 ?_
      refine mB_run odX7_width 2 (g := (278, [(0, .ref x0), (2, .int x2), (3, .int x3)], [.int x2, .ref x0], h, 0, 0)) rfl ?_
      obtain ⟨f49, k50, hq⟩ := bsm hq
      obtain ⟨o47, e48, hq⟩ := bsm hq
      refine mB_V (as := [.int x2]) odX7_width okX7_told lk_7_338 rfl (exX7_told e48) (kO_at k50) rfl rfl rfl ?_
      show mB _ mX7_width (281, [(0, .ref x0), (2, .int x2), (3, .int x3)], [.long o47.2], o47.1, 0, 0)
      cases hq
      exact mB_ret odX7_width rfl
    · rw [if_neg c46] at hq
      refine ic_ge_F (t := 276) odX7_width rfl rfl c46 ?_
      refine mB_run odX7_width 4 (g := (101, [(4, .int (x3 + (1 : Int32))), (0, .ref x0), (2, .int x2), (3, .int x3)], [], h, 0, 0)) rfl ?_
      refine mB_lv [1, 2, 3, 0] (lv' := [(0, .ref x0), (2, .int x2), (3, .int x3), (4, .int (x3 + (1 : Int32)))]) rfl ?_
      exact exX7_width_101 ih N _ _ _ _ _ hq
def fxX7_width_34 (N : Nat) : Nat → Nat → Int32 → Int32 → mh → Option (mh × Int64)
  | 0, _, _, _, _ => none
  | n + 1, x0, x2, x3, h =>
    (gR h x0 7 27).bind fun v15 =>
    (aI h v15 (0 : Int32)).bind fun v17 =>
    if v17 ≤ x3 then (
      fxX7_width_86 N N x0 x2 (0 : Int32) h) else (
      (gR h x0 7 28).bind fun v20 =>
      (aJ h v20 x3).bind fun v22 =>
      (sV h x0 7 24 (.long v22)).bind fun h24 =>
      (gR h24 x0 7 29).bind fun v26 =>
      (aJ h24 v26 x3).bind fun v28 =>
      (sV h24 x0 7 25 (.long v28)).bind fun h30 =>
      (gR h30 x0 7 30).bind fun v32 =>
      (aJ h30 v32 x3).bind fun v34 =>
      (sV h30 x0 7 26 (.long v34)).bind fun h36 =>
      (kO h36 x0 7).bind fun f40 =>
      (fxX7_thick N x0 h36).bind fun o38 =>
      fxX7_width_34 N n x0 x2 (x3 + (1 : Int32)) o38)
set_option maxHeartbeats 4000000 in
set_option maxRecDepth 100000 in
theorem exX7_width_34 {N : Nat} : ∀ (n : Nat) (x0 : Nat) (x2 : Int32) (x3 : Int32) (h : mh) {o : (mh × Int64)}, fxX7_width_34 N n x0 x2 x3 h = some o → mB (gO mX7_width (o.1, some (.long o.2))) mX7_width (34, [(0, .ref x0), (2, .int x2), (3, .int x3)], [], h, 0, 0) := by
  intro n
  induction n with
  | zero => intro x0 x2 x3 h o hq; cases hq
  | succ n ih =>
    intro x0 x2 x3 h o hq
    unfold fxX7_width_34 at hq
    refine mB_run odX7_width 2 (g := (36, [(0, .ref x0), (2, .int x2), (3, .int x3)], [.ref x0, .int x3], h, 0, 0)) rfl ?_
    obtain ⟨v15, e16, hq⟩ := bsm hq
    refine r_gR odX7_width rfl rfl e16 ?_
    refine mB_run odX7_width 1 (g := (40, [(0, .ref x0), (2, .int x2), (3, .int x3)], [.int (0 : Int32), .ref v15, .int x3], h, 0, 0)) rfl ?_
    obtain ⟨v17, e18, hq⟩ := bsm hq
    refine r_aI odX7_width rfl e18 ?_
    by_cases c19 : v17 ≤ x3
    · rw [if_pos c19] at hq
      refine ic_ge_T (t := 84) odX7_width rfl rfl c19 ?_
      refine mB_run odX7_width 2 (g := (86, [(3, .int (0 : Int32)), (0, .ref x0), (2, .int x2)], [], h, 0, 0)) rfl ?_
      refine mB_lv [1, 2, 0] (lv' := [(0, .ref x0), (2, .int x2), (3, .int (0 : Int32))]) rfl ?_
      exact exX7_width_86 N _ _ _ _ hq
    · rw [if_neg c19] at hq
      refine ic_ge_F (t := 84) odX7_width rfl rfl c19 ?_
      refine mB_run odX7_width 2 (g := (46, [(0, .ref x0), (2, .int x2), (3, .int x3)], [.ref x0, .ref x0], h, 0, 0)) rfl ?_
      obtain ⟨v20, e21, hq⟩ := bsm hq
      refine r_gR odX7_width rfl rfl e21 ?_
      refine mB_run odX7_width 1 (g := (50, [(0, .ref x0), (2, .int x2), (3, .int x3)], [.int x3, .ref v20, .ref x0], h, 0, 0)) rfl ?_
      obtain ⟨v22, e23, hq⟩ := bsm hq
      refine r_aJ odX7_width rfl e23 ?_
      obtain ⟨h24, e25, hq⟩ := bsm hq
      refine r_sV odX7_width rfl rfl rfl rfl e25 ?_
      refine mB_run odX7_width 2 (g := (56, [(0, .ref x0), (2, .int x2), (3, .int x3)], [.ref x0, .ref x0], h24, 0, 0)) rfl ?_
      obtain ⟨v26, e27, hq⟩ := bsm hq
      refine r_gR odX7_width rfl rfl e27 ?_
      refine mB_run odX7_width 1 (g := (60, [(0, .ref x0), (2, .int x2), (3, .int x3)], [.int x3, .ref v26, .ref x0], h24, 0, 0)) rfl ?_
      obtain ⟨v28, e29, hq⟩ := bsm hq
      refine r_aJ odX7_width rfl e29 ?_
      obtain ⟨h30, e31, hq⟩ := bsm hq
      refine r_sV odX7_width rfl rfl rfl rfl e31 ?_
      refine mB_run odX7_width 2 (g := (66, [(0, .ref x0), (2, .int x2), (3, .int x3)], [.ref x0, .ref x0], h30, 0, 0)) rfl ?_
      obtain ⟨v32, e33, hq⟩ := bsm hq
      refine r_gR odX7_width rfl rfl e33 ?_
      refine mB_run odX7_width 1 (g := (70, [(0, .ref x0), (2, .int x2), (3, .int x3)], [.int x3, .ref v32, .ref x0], h30, 0, 0)) rfl ?_
      obtain ⟨v34, e35, hq⟩ := bsm hq
      refine r_aJ odX7_width rfl e35 ?_
      obtain ⟨h36, e37, hq⟩ := bsm hq
      refine r_sV odX7_width rfl rfl rfl rfl e37 ?_
      refine mB_run odX7_width 1 (g := (75, [(0, .ref x0), (2, .int x2), (3, .int x3)], [.ref x0], h36, 0, 0)) rfl ?_
      obtain ⟨f40, k41, hq⟩ := bsm hq
      obtain ⟨o38, e39, hq⟩ := bsm hq
      refine mB_V (as := []) odX7_width okX7_thick lk_7_331 rfl (exX7_thick e39) (kO_at k41) rfl rfl rfl ?_
      show mB _ mX7_width (78, [(0, .ref x0), (2, .int x2), (3, .int x3)], [], o38, 0, 0)
      refine mB_run odX7_width 2 (g := (34, [(3, .int (x3 + (1 : Int32))), (0, .ref x0), (2, .int x2)], [], o38, 0, 0)) rfl ?_
      refine mB_lv [1, 2, 0] (lv' := [(0, .ref x0), (2, .int x2), (3, .int (x3 + (1 : Int32)))]) rfl ?_
      exact ih _ _ _ _ hq
def fxX7_width (N : Nat) (p0 : Nat) (p1 : Int32) (p2 : Int32) (h : mh) : Option (mh × Int64) :=
  (fxX7_isSolid N p1 h).bind fun o1 =>
  if o1.2 = 0 then (
    some (o1.1, (-1 : Int64))) else (
    (gR o1.1 p0 7 5).bind fun v4 =>
    (aI o1.1 v4 p1).bind fun v6 =>
    if (4 : Int32) ≤ v6 then (
      (kO o1.1 p0 7).bind fun f11 =>
      (fxX7_knows N p0 p1 (0 : Int32) o1.1).bind fun o9 =>
      (sV o9 p0 7 51 (.int (0 : Int32))).bind fun h13 =>
      fxX7_width_34 N N p0 p2 (0 : Int32) h13) else (
      some (o1.1, (-1 : Int64))))
set_option maxHeartbeats 4000000 in
set_option maxRecDepth 100000 in
theorem exX7_width {N : Nat} {p0 : Nat} {p1 : Int32} {p2 : Int32} {h : mh} {o : (mh × Int64)} (hq : fxX7_width N p0 p1 p2 h = some o) : mC mX7_width [.ref p0, .int p1, .int p2] h (o.1, some (.long o.2)) := by
  refine mC_of okX7_width (Nat.le_of_ble_eq_true rfl) ?_
  unfold fxX7_width at hq
  show mB _ mX7_width (0, [(0, .ref p0), (1, .int p1), (2, .int p2)], [], h, 0, 0)
  refine mB_run odX7_width 1 (g := (1, [(0, .ref p0), (1, .int p1), (2, .int p2)], [.int p1], h, 0, 0)) rfl ?_
  obtain ⟨o1, e2, hq⟩ := bsm hq
  refine mB_S (as := [.int p1]) odX7_width okX7_isSolid lk_7_133 rfl (exX7_isSolid e2) rfl rfl rfl ?_
  show mB _ mX7_width (4, [(0, .ref p0), (1, .int p1), (2, .int p2)], [.int o1.2], o1.1, 0, 0)
  by_cases c3 : o1.2 = 0
  · rw [if_pos c3] at hq
    refine if_eq_T (t := 17) odX7_width rfl rfl c3 ?_
    refine mB_run odX7_width 1 (g := (20, [(0, .ref p0), (1, .int p1), (2, .int p2)], [.long (-1 : Int64)], o1.1, 0, 0)) rfl ?_
    cases hq
    exact mB_ret odX7_width rfl
  · rw [if_neg c3] at hq
    refine if_eq_F (t := 17) odX7_width rfl rfl c3 ?_
    refine mB_run odX7_width 1 (g := (8, [(0, .ref p0), (1, .int p1), (2, .int p2)], [.ref p0], o1.1, 0, 0)) rfl ?_
    obtain ⟨v4, e5, hq⟩ := bsm hq
    refine r_gR odX7_width rfl rfl e5 ?_
    refine mB_run odX7_width 1 (g := (12, [(0, .ref p0), (1, .int p1), (2, .int p2)], [.int p1, .ref v4], o1.1, 0, 0)) rfl ?_
    obtain ⟨v6, e7, hq⟩ := bsm hq
    refine r_aI odX7_width rfl e7 ?_
    refine mB_run odX7_width 1 (g := (14, [(0, .ref p0), (1, .int p1), (2, .int p2)], [.int (4 : Int32), .int v6], o1.1, 0, 0)) rfl ?_
    by_cases c8 : (4 : Int32) ≤ v6
    · rw [if_pos c8] at hq
      refine ic_ge_T (t := 21) odX7_width rfl rfl c8 ?_
      refine mB_run odX7_width 3 (g := (24, [(0, .ref p0), (1, .int p1), (2, .int p2)], [.int (0 : Int32), .int p1, .ref p0], o1.1, 0, 0)) rfl ?_
      obtain ⟨f11, k12, hq⟩ := bsm hq
      obtain ⟨o9, e10, hq⟩ := bsm hq
      refine mB_V (as := [.int p1, .int (0 : Int32)]) odX7_width okX7_knows lk_7_244 rfl (exX7_knows e10) (kO_at k12) rfl rfl rfl ?_
      show mB _ mX7_width (27, [(0, .ref p0), (1, .int p1), (2, .int p2)], [], o9, 0, 0)
      refine mB_run odX7_width 2 (g := (29, [(0, .ref p0), (1, .int p1), (2, .int p2)], [.int (0 : Int32), .ref p0], o9, 0, 0)) rfl ?_
      obtain ⟨h13, e14, hq⟩ := bsm hq
      refine r_sV odX7_width rfl rfl rfl rfl e14 ?_
      refine mB_run odX7_width 2 (g := (34, [(3, .int (0 : Int32)), (0, .ref p0), (1, .int p1), (2, .int p2)], [], h13, 0, 0)) rfl ?_
      refine mB_lv [1, 3, 0] (lv' := [(0, .ref p0), (2, .int p2), (3, .int (0 : Int32))]) rfl ?_
      exact exX7_width_34 N _ _ _ _ hq
    · rw [if_neg c8] at hq
      refine ic_ge_F (t := 21) odX7_width rfl rfl c8 ?_
      refine mB_run odX7_width 1 (g := (20, [(0, .ref p0), (1, .int p1), (2, .int p2)], [.long (-1 : Int64)], o1.1, 0, 0)) rfl ?_
      cases hq
      exact mB_ret odX7_width rfl
def fxX7_along (N : Nat) (p0 : Nat) (p1 : Int32) (h : mh) : Option (mh × Int64) :=
  (gJ h p0 7 24).bind fun v1 =>
  (gR h p0 7 43).bind fun v3 =>
  (aJ h v3 p1).bind fun v5 =>
  (gJ h p0 7 25).bind fun v7 =>
  (gR h p0 7 44).bind fun v9 =>
  (aJ h v9 p1).bind fun v11 =>
  (gJ h p0 7 26).bind fun v13 =>
  (gR h p0 7 45).bind fun v15 =>
  (aJ h v15 p1).bind fun v17 =>
  some (h, (((v1 * v5) + (v7 * v11)) + (v13 * v17)))
set_option maxHeartbeats 4000000 in
set_option maxRecDepth 100000 in
theorem exX7_along {N : Nat} {p0 : Nat} {p1 : Int32} {h : mh} {o : (mh × Int64)} (hq : fxX7_along N p0 p1 h = some o) : mC mX7_along [.ref p0, .int p1] h (o.1, some (.long o.2)) := by
  refine mC_of okX7_along (Nat.le_of_ble_eq_true rfl) ?_
  unfold fxX7_along at hq
  show mB _ mX7_along (0, [(0, .ref p0), (1, .int p1)], [], h, 0, 0)
  refine mB_run odX7_along 1 (g := (1, [(0, .ref p0), (1, .int p1)], [.ref p0], h, 0, 0)) rfl ?_
  obtain ⟨v1, e2, hq⟩ := bsm hq
  refine r_gJ odX7_along rfl rfl e2 ?_
  refine mB_run odX7_along 1 (g := (5, [(0, .ref p0), (1, .int p1)], [.ref p0, .long v1], h, 0, 0)) rfl ?_
  obtain ⟨v3, e4, hq⟩ := bsm hq
  refine r_gR odX7_along rfl rfl e4 ?_
  refine mB_run odX7_along 1 (g := (9, [(0, .ref p0), (1, .int p1)], [.int p1, .ref v3, .long v1], h, 0, 0)) rfl ?_
  obtain ⟨v5, e6, hq⟩ := bsm hq
  refine r_aJ odX7_along rfl e6 ?_
  refine mB_run odX7_along 2 (g := (12, [(0, .ref p0), (1, .int p1)], [.ref p0, .long (v1 * v5)], h, 0, 0)) rfl ?_
  obtain ⟨v7, e8, hq⟩ := bsm hq
  refine r_gJ odX7_along rfl rfl e8 ?_
  refine mB_run odX7_along 1 (g := (16, [(0, .ref p0), (1, .int p1)], [.ref p0, .long v7, .long (v1 * v5)], h, 0, 0)) rfl ?_
  obtain ⟨v9, e10, hq⟩ := bsm hq
  refine r_gR odX7_along rfl rfl e10 ?_
  refine mB_run odX7_along 1 (g := (20, [(0, .ref p0), (1, .int p1)], [.int p1, .ref v9, .long v7, .long (v1 * v5)], h, 0, 0)) rfl ?_
  obtain ⟨v11, e12, hq⟩ := bsm hq
  refine r_aJ odX7_along rfl e12 ?_
  refine mB_run odX7_along 3 (g := (24, [(0, .ref p0), (1, .int p1)], [.ref p0, .long ((v1 * v5) + (v7 * v11))], h, 0, 0)) rfl ?_
  obtain ⟨v13, e14, hq⟩ := bsm hq
  refine r_gJ odX7_along rfl rfl e14 ?_
  refine mB_run odX7_along 1 (g := (28, [(0, .ref p0), (1, .int p1)], [.ref p0, .long v13, .long ((v1 * v5) + (v7 * v11))], h, 0, 0)) rfl ?_
  obtain ⟨v15, e16, hq⟩ := bsm hq
  refine r_gR odX7_along rfl rfl e16 ?_
  refine mB_run odX7_along 1 (g := (32, [(0, .ref p0), (1, .int p1)], [.int p1, .ref v15, .long v13, .long ((v1 * v5) + (v7 * v11))], h, 0, 0)) rfl ?_
  obtain ⟨v17, e18, hq⟩ := bsm hq
  refine r_aJ odX7_along rfl e18 ?_
  refine mB_run odX7_along 2 (g := (35, [(0, .ref p0), (1, .int p1)], [.long (((v1 * v5) + (v7 * v11)) + (v13 * v17))], h, 0, 0)) rfl ?_
  cases hq
  exact mB_ret odX7_along rfl
def fxX7_highest_51 (N : Nat) (rec12 : Nat → Int32 → Int64 → Int32 → mh → Option (mh × Int64)) (x0 : Nat) (x1 : Int32) (x2 : Int64) (x4 : Int32) (h : mh) : Option (mh × Int64) :=
  rec12 x0 x1 x2 (x4 + (1 : Int32)) h
set_option maxHeartbeats 4000000 in
set_option maxRecDepth 100000 in
theorem exX7_highest_51 {N : Nat} {rec12 : Nat → Int32 → Int64 → Int32 → mh → Option (mh × Int64)} (hrec12 : ∀ (x0 : Nat) (x1 : Int32) (x2 : Int64) (x4 : Int32) (h : mh) {o : (mh × Int64)}, rec12 x0 x1 x2 x4 h = some o → mB (gO mX7_highest (o.1, some (.long o.2))) mX7_highest (12, [(0, .ref x0), (1, .int x1), (2, .long x2), (4, .int x4)], [], h, 0, 0)) (x0 : Nat) (x1 : Int32) (x2 : Int64) (x4 : Int32) (h : mh) {o : (mh × Int64)} (hq : fxX7_highest_51 N rec12 x0 x1 x2 x4 h = some o) : mB (gO mX7_highest (o.1, some (.long o.2))) mX7_highest (51, [(0, .ref x0), (1, .int x1), (2, .long x2), (4, .int x4)], [], h, 0, 0) := by
  unfold fxX7_highest_51 at hq
  refine mB_run odX7_highest 2 (g := (12, [(4, .int (x4 + (1 : Int32))), (0, .ref x0), (1, .int x1), (2, .long x2)], [], h, 0, 0)) rfl ?_
  refine mB_lv [1, 2, 3, 0] (lv' := [(0, .ref x0), (1, .int x1), (2, .long x2), (4, .int (x4 + (1 : Int32)))]) rfl ?_
  exact hrec12 _ _ _ _ _ hq
def fxX7_highest_12 (N : Nat) : Nat → Nat → Int32 → Int64 → Int32 → mh → Option (mh × Int64)
  | 0, _, _, _, _, _ => none
  | n + 1, x0, x1, x2, x4, h =>
    (gR h x0 7 46).bind fun v5 =>
    (aI h v5 x1).bind fun v7 =>
    if v7 ≤ x4 then (
      some (h, x2)) else (
      (kO h x0 7).bind fun f12 =>
      (fxX7_along N x0 (((24 : Int32) * x1) + x4) h).bind fun o10 =>
      if o10.2 ≤ x2 then (
        fxX7_highest_51 N (fxX7_highest_12 N n) x0 x1 x2 x4 o10.1) else (
        (kO o10.1 x0 7).bind fun f17 =>
        (fxX7_along N x0 (((24 : Int32) * x1) + x4) o10.1).bind fun o15 =>
        fxX7_highest_51 N (fxX7_highest_12 N n) x0 x1 o15.2 x4 o15.1))
set_option maxHeartbeats 4000000 in
set_option maxRecDepth 100000 in
theorem exX7_highest_12 {N : Nat} : ∀ (n : Nat) (x0 : Nat) (x1 : Int32) (x2 : Int64) (x4 : Int32) (h : mh) {o : (mh × Int64)}, fxX7_highest_12 N n x0 x1 x2 x4 h = some o → mB (gO mX7_highest (o.1, some (.long o.2))) mX7_highest (12, [(0, .ref x0), (1, .int x1), (2, .long x2), (4, .int x4)], [], h, 0, 0) := by
  intro n
  induction n with
  | zero => intro x0 x1 x2 x4 h o hq; cases hq
  | succ n ih =>
    intro x0 x1 x2 x4 h o hq
    unfold fxX7_highest_12 at hq
    refine mB_run odX7_highest 2 (g := (15, [(0, .ref x0), (1, .int x1), (2, .long x2), (4, .int x4)], [.ref x0, .int x4], h, 0, 0)) rfl ?_
    obtain ⟨v5, e6, hq⟩ := bsm hq
    refine r_gR odX7_highest rfl rfl e6 ?_
    refine mB_run odX7_highest 1 (g := (19, [(0, .ref x0), (1, .int x1), (2, .long x2), (4, .int x4)], [.int x1, .ref v5, .int x4], h, 0, 0)) rfl ?_
    obtain ⟨v7, e8, hq⟩ := bsm hq
    refine r_aI odX7_highest rfl e8 ?_
    by_cases c9 : v7 ≤ x4
    · rw [if_pos c9] at hq
      refine ic_ge_T (t := 57) odX7_highest rfl rfl c9 ?_
      refine mB_run odX7_highest 1 (g := (58, [(0, .ref x0), (1, .int x1), (2, .long x2), (4, .int x4)], [.long x2], h, 0, 0)) rfl ?_
      cases hq
      exact mB_ret odX7_highest rfl
    · rw [if_neg c9] at hq
      refine ic_ge_F (t := 57) odX7_highest rfl rfl c9 ?_
      refine mB_run odX7_highest 6 (g := (31, [(0, .ref x0), (1, .int x1), (2, .long x2), (4, .int x4)], [.int (((24 : Int32) * x1) + x4), .ref x0], h, 0, 0)) rfl ?_
      obtain ⟨f12, k13, hq⟩ := bsm hq
      obtain ⟨o10, e11, hq⟩ := bsm hq
      refine mB_V (as := [.int (((24 : Int32) * x1) + x4)]) odX7_highest okX7_along lk_7_341 rfl (exX7_along e11) (kO_at k13) rfl rfl rfl ?_
      show mB _ mX7_highest (34, [(0, .ref x0), (1, .int x1), (2, .long x2), (4, .int x4)], [.long o10.2], o10.1, 0, 0)
      refine mB_run odX7_highest 1 (g := (35, [(0, .ref x0), (1, .int x1), (2, .long x2), (4, .int x4)], [.long x2, .long o10.2], o10.1, 0, 0)) rfl ?_
      by_cases c14 : o10.2 ≤ x2
      · rw [if_pos c14] at hq
        refine lc_le_T (t := 51) odX7_highest rfl rfl rfl c14 ?_
        refine mB_lv [0, 1, 2, 3] (lv' := [(0, .ref x0), (1, .int x1), (2, .long x2), (4, .int x4)]) rfl ?_
        exact exX7_highest_51 ih _ _ _ _ _ hq
      · rw [if_neg c14] at hq
        refine lc_le_F (t := 51) odX7_highest rfl rfl rfl c14 ?_
        refine mB_run odX7_highest 6 (g := (47, [(0, .ref x0), (1, .int x1), (2, .long x2), (4, .int x4)], [.int (((24 : Int32) * x1) + x4), .ref x0], o10.1, 0, 0)) rfl ?_
        obtain ⟨f17, k18, hq⟩ := bsm hq
        obtain ⟨o15, e16, hq⟩ := bsm hq
        refine mB_V (as := [.int (((24 : Int32) * x1) + x4)]) odX7_highest okX7_along lk_7_341 rfl (exX7_along e16) (kO_at k18) rfl rfl rfl ?_
        show mB _ mX7_highest (50, [(0, .ref x0), (1, .int x1), (2, .long x2), (4, .int x4)], [.long o15.2], o15.1, 0, 0)
        refine mB_run odX7_highest 1 (g := (51, [(2, .long o15.2), (0, .ref x0), (1, .int x1), (4, .int x4)], [], o15.1, 0, 0)) rfl ?_
        refine mB_lv [1, 2, 0, 3] (lv' := [(0, .ref x0), (1, .int x1), (2, .long o15.2), (4, .int x4)]) rfl ?_
        exact exX7_highest_51 ih _ _ _ _ _ hq
def fxX7_highest (N : Nat) (p0 : Nat) (p1 : Int32) (h : mh) : Option (mh × Int64) :=
  (kO h p0 7).bind fun f3 =>
  (fxX7_along N p0 ((24 : Int32) * p1) h).bind fun o1 =>
  fxX7_highest_12 N N p0 p1 o1.2 (1 : Int32) o1.1
set_option maxHeartbeats 4000000 in
set_option maxRecDepth 100000 in
theorem exX7_highest {N : Nat} {p0 : Nat} {p1 : Int32} {h : mh} {o : (mh × Int64)} (hq : fxX7_highest N p0 p1 h = some o) : mC mX7_highest [.ref p0, .int p1] h (o.1, some (.long o.2)) := by
  refine mC_of okX7_highest (Nat.le_of_ble_eq_true rfl) ?_
  unfold fxX7_highest at hq
  show mB _ mX7_highest (0, [(0, .ref p0), (1, .int p1)], [], h, 0, 0)
  refine mB_run odX7_highest 4 (g := (5, [(0, .ref p0), (1, .int p1)], [.int ((24 : Int32) * p1), .ref p0], h, 0, 0)) rfl ?_
  obtain ⟨f3, k4, hq⟩ := bsm hq
  obtain ⟨o1, e2, hq⟩ := bsm hq
  refine mB_V (as := [.int ((24 : Int32) * p1)]) odX7_highest okX7_along lk_7_341 rfl (exX7_along e2) (kO_at k4) rfl rfl rfl ?_
  show mB _ mX7_highest (8, [(0, .ref p0), (1, .int p1)], [.long o1.2], o1.1, 0, 0)
  refine mB_run odX7_highest 3 (g := (12, [(4, .int (1 : Int32)), (2, .long o1.2), (0, .ref p0), (1, .int p1)], [], o1.1, 0, 0)) rfl ?_
  refine mB_lv [2, 3, 1, 0] (lv' := [(0, .ref p0), (1, .int p1), (2, .long o1.2), (4, .int (1 : Int32))]) rfl ?_
  exact exX7_highest_12 N _ _ _ _ _ hq
def fxX7_finds_50 (N : Nat) (rec3 : Nat → Int64 → Int64 → Int64 → Int32 → mh → Option mh) (x0 : Nat) (x1 : Int64) (x3 : Int64) (x5 : Int64) (x7 : Int32) (h : mh) : Option mh :=
  rec3 x0 x1 x3 x5 (x7 + (1 : Int32)) h
set_option maxHeartbeats 4000000 in
set_option maxRecDepth 100000 in
theorem exX7_finds_50 {N : Nat} {rec3 : Nat → Int64 → Int64 → Int64 → Int32 → mh → Option mh} (hrec3 : ∀ (x0 : Nat) (x1 : Int64) (x3 : Int64) (x5 : Int64) (x7 : Int32) (h : mh) {o : mh}, rec3 x0 x1 x3 x5 x7 h = some o → mB (gO mX7_finds (o, none)) mX7_finds (3, [(0, .ref x0), (1, .long x1), (3, .long x3), (5, .long x5), (7, .int x7)], [], h, 0, 0)) (x0 : Nat) (x1 : Int64) (x3 : Int64) (x5 : Int64) (x7 : Int32) (h : mh) {o : mh} (hq : fxX7_finds_50 N rec3 x0 x1 x3 x5 x7 h = some o) : mB (gO mX7_finds (o, none)) mX7_finds (50, [(0, .ref x0), (1, .long x1), (3, .long x3), (5, .long x5), (7, .int x7)], [], h, 0, 0) := by
  unfold fxX7_finds_50 at hq
  refine mB_run odX7_finds 2 (g := (3, [(7, .int (x7 + (1 : Int32))), (0, .ref x0), (1, .long x1), (3, .long x3), (5, .long x5)], [], h, 0, 0)) rfl ?_
  refine mB_lv [1, 2, 3, 4, 0] (lv' := [(0, .ref x0), (1, .long x1), (3, .long x3), (5, .long x5), (7, .int (x7 + (1 : Int32)))]) rfl ?_
  exact hrec3 _ _ _ _ _ _ hq
def fxX7_finds_3 (N : Nat) : Nat → Nat → Int64 → Int64 → Int64 → Int32 → mh → Option mh
  | 0, _, _, _, _, _, _ => none
  | n + 1, x0, x1, x3, x5, x7, h =>
    (gI h x0 7 55).bind fun v1 =>
    if v1 ≤ x7 then (
      (gI h x0 7 55).bind fun v4 =>
      if v4 = (24 : Int32) then (
        (sV h x0 7 54 (.int (1 : Int32))).bind fun h7 =>
        some h7) else (
        (fxX7_isPoint N x1 x3 x5 h).bind fun o9 =>
        if o9.2 = 0 then (
          (sV o9.1 x0 7 54 (.int (1 : Int32))).bind fun h12 =>
          some h12) else (
          (gR o9.1 x0 7 56).bind fun v14 =>
          (gI o9.1 x0 7 55).bind fun v16 =>
          (wJ o9.1 v14 v16 x1).bind fun h18 =>
          (gR h18 x0 7 57).bind fun v20 =>
          (gI h18 x0 7 55).bind fun v22 =>
          (wJ h18 v20 v22 x3).bind fun h24 =>
          (gR h24 x0 7 58).bind fun v26 =>
          (gI h24 x0 7 55).bind fun v28 =>
          (wJ h24 v26 v28 x5).bind fun h30 =>
          (gI h30 x0 7 55).bind fun v32 =>
          (sV h30 x0 7 55 (.int (v32 + (1 : Int32)))).bind fun h34 =>
          some h34))) else (
      (gR h x0 7 56).bind fun v36 =>
      (aJ h v36 x7).bind fun v38 =>
      if v38 = x1 then (
        (gR h x0 7 57).bind fun v41 =>
        (aJ h v41 x7).bind fun v43 =>
        if v43 = x3 then (
          (gR h x0 7 58).bind fun v46 =>
          (aJ h v46 x7).bind fun v48 =>
          if v48 = x5 then (
            some h) else (
            fxX7_finds_50 N (fxX7_finds_3 N n) x0 x1 x3 x5 x7 h)) else (
          fxX7_finds_50 N (fxX7_finds_3 N n) x0 x1 x3 x5 x7 h)) else (
        fxX7_finds_50 N (fxX7_finds_3 N n) x0 x1 x3 x5 x7 h))
set_option maxHeartbeats 4000000 in
set_option maxRecDepth 100000 in
theorem exX7_finds_3 {N : Nat} : ∀ (n : Nat) (x0 : Nat) (x1 : Int64) (x3 : Int64) (x5 : Int64) (x7 : Int32) (h : mh) {o : mh}, fxX7_finds_3 N n x0 x1 x3 x5 x7 h = some o → mB (gO mX7_finds (o, none)) mX7_finds (3, [(0, .ref x0), (1, .long x1), (3, .long x3), (5, .long x5), (7, .int x7)], [], h, 0, 0) := by
  intro n
  induction n with
  | zero => intro x0 x1 x3 x5 x7 h o hq; cases hq
  | succ n ih =>
    intro x0 x1 x3 x5 x7 h o hq
    unfold fxX7_finds_3 at hq
    refine mB_run odX7_finds 2 (g := (6, [(0, .ref x0), (1, .long x1), (3, .long x3), (5, .long x5), (7, .int x7)], [.ref x0, .int x7], h, 0, 0)) rfl ?_
    obtain ⟨v1, e2, hq⟩ := bsm hq
    refine r_gI odX7_finds rfl rfl e2 ?_
    by_cases c3 : v1 ≤ x7
    · rw [if_pos c3] at hq
      refine ic_ge_T (t := 56) odX7_finds rfl rfl c3 ?_
      refine mB_run odX7_finds 1 (g := (57, [(0, .ref x0), (1, .long x1), (3, .long x3), (5, .long x5), (7, .int x7)], [.ref x0], h, 0, 0)) rfl ?_
      obtain ⟨v4, e5, hq⟩ := bsm hq
      refine r_gI odX7_finds rfl rfl e5 ?_
      refine mB_run odX7_finds 1 (g := (62, [(0, .ref x0), (1, .long x1), (3, .long x3), (5, .long x5), (7, .int x7)], [.int (24 : Int32), .int v4], h, 0, 0)) rfl ?_
      by_cases c6 : v4 = (24 : Int32)
      · rw [if_pos c6] at hq
        refine ic_eq_T (t := 75) odX7_finds rfl rfl c6 ?_
        refine mB_run odX7_finds 2 (g := (77, [(0, .ref x0), (1, .long x1), (3, .long x3), (5, .long x5), (7, .int x7)], [.int (1 : Int32), .ref x0], h, 0, 0)) rfl ?_
        obtain ⟨h7, e8, hq⟩ := bsm hq
        refine r_sV odX7_finds rfl rfl rfl rfl e8 ?_
        cases hq
        exact mB_ret odX7_finds rfl
      · rw [if_neg c6] at hq
        refine ic_eq_F (t := 75) odX7_finds rfl rfl c6 ?_
        refine mB_run odX7_finds 3 (g := (69, [(0, .ref x0), (1, .long x1), (3, .long x3), (5, .long x5), (7, .int x7)], [.long x5, .long x3, .long x1], h, 0, 0)) rfl ?_
        obtain ⟨o9, e10, hq⟩ := bsm hq
        refine mB_S (as := [.long x1, .long x3, .long x5]) odX7_finds okX7_isPoint lk_7_137 rfl (exX7_isPoint e10) rfl rfl rfl ?_
        show mB _ mX7_finds (72, [(0, .ref x0), (1, .long x1), (3, .long x3), (5, .long x5), (7, .int x7)], [.int o9.2], o9.1, 0, 0)
        by_cases c11 : o9.2 = 0
        · rw [if_pos c11] at hq
          refine if_ne_F (t := 81) odX7_finds rfl rfl c11 ?_
          refine mB_run odX7_finds 2 (g := (77, [(0, .ref x0), (1, .long x1), (3, .long x3), (5, .long x5), (7, .int x7)], [.int (1 : Int32), .ref x0], o9.1, 0, 0)) rfl ?_
          obtain ⟨h12, e13, hq⟩ := bsm hq
          refine r_sV odX7_finds rfl rfl rfl rfl e13 ?_
          cases hq
          exact mB_ret odX7_finds rfl
        · rw [if_neg c11] at hq
          refine if_ne_T (t := 81) odX7_finds rfl rfl c11 ?_
          refine mB_run odX7_finds 1 (g := (82, [(0, .ref x0), (1, .long x1), (3, .long x3), (5, .long x5), (7, .int x7)], [.ref x0], o9.1, 0, 0)) rfl ?_
          obtain ⟨v14, e15, hq⟩ := bsm hq
          refine r_gR odX7_finds rfl rfl e15 ?_
          refine mB_run odX7_finds 1 (g := (86, [(0, .ref x0), (1, .long x1), (3, .long x3), (5, .long x5), (7, .int x7)], [.ref x0, .ref v14], o9.1, 0, 0)) rfl ?_
          obtain ⟨v16, e17, hq⟩ := bsm hq
          refine r_gI odX7_finds rfl rfl e17 ?_
          refine mB_run odX7_finds 1 (g := (90, [(0, .ref x0), (1, .long x1), (3, .long x3), (5, .long x5), (7, .int x7)], [.long x1, .int v16, .ref v14], o9.1, 0, 0)) rfl ?_
          obtain ⟨h18, e19, hq⟩ := bsm hq
          refine r_wJ odX7_finds rfl e19 ?_
          refine mB_run odX7_finds 1 (g := (92, [(0, .ref x0), (1, .long x1), (3, .long x3), (5, .long x5), (7, .int x7)], [.ref x0], h18, 0, 0)) rfl ?_
          obtain ⟨v20, e21, hq⟩ := bsm hq
          refine r_gR odX7_finds rfl rfl e21 ?_
          refine mB_run odX7_finds 1 (g := (96, [(0, .ref x0), (1, .long x1), (3, .long x3), (5, .long x5), (7, .int x7)], [.ref x0, .ref v20], h18, 0, 0)) rfl ?_
          obtain ⟨v22, e23, hq⟩ := bsm hq
          refine r_gI odX7_finds rfl rfl e23 ?_
          refine mB_run odX7_finds 1 (g := (100, [(0, .ref x0), (1, .long x1), (3, .long x3), (5, .long x5), (7, .int x7)], [.long x3, .int v22, .ref v20], h18, 0, 0)) rfl ?_
          obtain ⟨h24, e25, hq⟩ := bsm hq
          refine r_wJ odX7_finds rfl e25 ?_
          refine mB_run odX7_finds 1 (g := (102, [(0, .ref x0), (1, .long x1), (3, .long x3), (5, .long x5), (7, .int x7)], [.ref x0], h24, 0, 0)) rfl ?_
          obtain ⟨v26, e27, hq⟩ := bsm hq
          refine r_gR odX7_finds rfl rfl e27 ?_
          refine mB_run odX7_finds 1 (g := (106, [(0, .ref x0), (1, .long x1), (3, .long x3), (5, .long x5), (7, .int x7)], [.ref x0, .ref v26], h24, 0, 0)) rfl ?_
          obtain ⟨v28, e29, hq⟩ := bsm hq
          refine r_gI odX7_finds rfl rfl e29 ?_
          refine mB_run odX7_finds 1 (g := (111, [(0, .ref x0), (1, .long x1), (3, .long x3), (5, .long x5), (7, .int x7)], [.long x5, .int v28, .ref v26], h24, 0, 0)) rfl ?_
          obtain ⟨h30, e31, hq⟩ := bsm hq
          refine r_wJ odX7_finds rfl e31 ?_
          refine mB_run odX7_finds 2 (g := (114, [(0, .ref x0), (1, .long x1), (3, .long x3), (5, .long x5), (7, .int x7)], [.ref x0, .ref x0], h30, 0, 0)) rfl ?_
          obtain ⟨v32, e33, hq⟩ := bsm hq
          refine r_gI odX7_finds rfl rfl e33 ?_
          refine mB_run odX7_finds 2 (g := (119, [(0, .ref x0), (1, .long x1), (3, .long x3), (5, .long x5), (7, .int x7)], [.int (v32 + (1 : Int32)), .ref x0], h30, 0, 0)) rfl ?_
          obtain ⟨h34, e35, hq⟩ := bsm hq
          refine r_sV odX7_finds rfl rfl rfl rfl e35 ?_
          cases hq
          exact mB_ret odX7_finds rfl
    · rw [if_neg c3] at hq
      refine ic_ge_F (t := 56) odX7_finds rfl rfl c3 ?_
      refine mB_run odX7_finds 1 (g := (13, [(0, .ref x0), (1, .long x1), (3, .long x3), (5, .long x5), (7, .int x7)], [.ref x0], h, 0, 0)) rfl ?_
      obtain ⟨v36, e37, hq⟩ := bsm hq
      refine r_gR odX7_finds rfl rfl e37 ?_
      refine mB_run odX7_finds 1 (g := (18, [(0, .ref x0), (1, .long x1), (3, .long x3), (5, .long x5), (7, .int x7)], [.int x7, .ref v36], h, 0, 0)) rfl ?_
      obtain ⟨v38, e39, hq⟩ := bsm hq
      refine r_aJ odX7_finds rfl e39 ?_
      refine mB_run odX7_finds 1 (g := (20, [(0, .ref x0), (1, .long x1), (3, .long x3), (5, .long x5), (7, .int x7)], [.long x1, .long v38], h, 0, 0)) rfl ?_
      by_cases c40 : v38 = x1
      · rw [if_pos c40] at hq
        refine lc_ne_F (t := 50) odX7_finds rfl rfl rfl c40 ?_
        refine mB_run odX7_finds 1 (g := (25, [(0, .ref x0), (1, .long x1), (3, .long x3), (5, .long x5), (7, .int x7)], [.ref x0], h, 0, 0)) rfl ?_
        obtain ⟨v41, e42, hq⟩ := bsm hq
        refine r_gR odX7_finds rfl rfl e42 ?_
        refine mB_run odX7_finds 1 (g := (30, [(0, .ref x0), (1, .long x1), (3, .long x3), (5, .long x5), (7, .int x7)], [.int x7, .ref v41], h, 0, 0)) rfl ?_
        obtain ⟨v43, e44, hq⟩ := bsm hq
        refine r_aJ odX7_finds rfl e44 ?_
        refine mB_run odX7_finds 1 (g := (32, [(0, .ref x0), (1, .long x1), (3, .long x3), (5, .long x5), (7, .int x7)], [.long x3, .long v43], h, 0, 0)) rfl ?_
        by_cases c45 : v43 = x3
        · rw [if_pos c45] at hq
          refine lc_ne_F (t := 50) odX7_finds rfl rfl rfl c45 ?_
          refine mB_run odX7_finds 1 (g := (37, [(0, .ref x0), (1, .long x1), (3, .long x3), (5, .long x5), (7, .int x7)], [.ref x0], h, 0, 0)) rfl ?_
          obtain ⟨v46, e47, hq⟩ := bsm hq
          refine r_gR odX7_finds rfl rfl e47 ?_
          refine mB_run odX7_finds 1 (g := (42, [(0, .ref x0), (1, .long x1), (3, .long x3), (5, .long x5), (7, .int x7)], [.int x7, .ref v46], h, 0, 0)) rfl ?_
          obtain ⟨v48, e49, hq⟩ := bsm hq
          refine r_aJ odX7_finds rfl e49 ?_
          refine mB_run odX7_finds 1 (g := (45, [(0, .ref x0), (1, .long x1), (3, .long x3), (5, .long x5), (7, .int x7)], [.long x5, .long v48], h, 0, 0)) rfl ?_
          by_cases c50 : v48 = x5
          · rw [if_pos c50] at hq
            refine lc_ne_F (t := 50) odX7_finds rfl rfl rfl c50 ?_
            cases hq
            exact mB_ret odX7_finds rfl
          · rw [if_neg c50] at hq
            refine lc_ne_T (t := 50) odX7_finds rfl rfl rfl c50 ?_
            refine mB_lv [0, 1, 2, 3, 4] (lv' := [(0, .ref x0), (1, .long x1), (3, .long x3), (5, .long x5), (7, .int x7)]) rfl ?_
            exact exX7_finds_50 ih _ _ _ _ _ _ hq
        · rw [if_neg c45] at hq
          refine lc_ne_T (t := 50) odX7_finds rfl rfl rfl c45 ?_
          refine mB_lv [0, 1, 2, 3, 4] (lv' := [(0, .ref x0), (1, .long x1), (3, .long x3), (5, .long x5), (7, .int x7)]) rfl ?_
          exact exX7_finds_50 ih _ _ _ _ _ _ hq
      · rw [if_neg c40] at hq
        refine lc_ne_T (t := 50) odX7_finds rfl rfl rfl c40 ?_
        refine mB_lv [0, 1, 2, 3, 4] (lv' := [(0, .ref x0), (1, .long x1), (3, .long x3), (5, .long x5), (7, .int x7)]) rfl ?_
        exact exX7_finds_50 ih _ _ _ _ _ _ hq
def fxX7_finds (N : Nat) (p0 : Nat) (p1 : Int64) (p2 : Int64) (p3 : Int64) (h : mh) : Option mh :=
  fxX7_finds_3 N N p0 p1 p2 p3 (0 : Int32) h
set_option maxHeartbeats 4000000 in
set_option maxRecDepth 100000 in
theorem exX7_finds {N : Nat} {p0 : Nat} {p1 : Int64} {p2 : Int64} {p3 : Int64} {h : mh} {o : mh} (hq : fxX7_finds N p0 p1 p2 p3 h = some o) : mC mX7_finds [.ref p0, .long p1, .long p2, .long p3] h (o, none) := by
  refine mC_of okX7_finds (Nat.le_of_ble_eq_true rfl) ?_
  unfold fxX7_finds at hq
  show mB _ mX7_finds (0, [(0, .ref p0), (1, .long p1), (3, .long p2), (5, .long p3)], [], h, 0, 0)
  refine mB_run odX7_finds 2 (g := (3, [(7, .int (0 : Int32)), (0, .ref p0), (1, .long p1), (3, .long p2), (5, .long p3)], [], h, 0, 0)) rfl ?_
  refine mB_lv [1, 2, 3, 4, 0] (lv' := [(0, .ref p0), (1, .long p1), (3, .long p2), (5, .long p3), (7, .int (0 : Int32))]) rfl ?_
  exact exX7_finds_3 N _ _ _ _ _ _ hq
def fxX7_looks_156 (N : Nat) (rec39 : Nat → Int64 → Int64 → Int32 → mh → Option mh) (x0 : Nat) (x1 : Int64) (x3 : Int64) (x5 : Int32) (h : mh) : Option mh :=
  rec39 x0 x1 x3 (x5 + (1 : Int32)) h
set_option maxHeartbeats 4000000 in
set_option maxRecDepth 100000 in
theorem exX7_looks_156 {N : Nat} {rec39 : Nat → Int64 → Int64 → Int32 → mh → Option mh} (hrec39 : ∀ (x0 : Nat) (x1 : Int64) (x3 : Int64) (x5 : Int32) (h : mh) {o : mh}, rec39 x0 x1 x3 x5 h = some o → mB (gO mX7_looks (o, none)) mX7_looks (39, [(0, .ref x0), (1, .long x1), (3, .long x3), (5, .int x5)], [], h, 0, 0)) (x0 : Nat) (x1 : Int64) (x3 : Int64) (x5 : Int32) (h : mh) {o : mh} (hq : fxX7_looks_156 N rec39 x0 x1 x3 x5 h = some o) : mB (gO mX7_looks (o, none)) mX7_looks (156, [(0, .ref x0), (1, .long x1), (3, .long x3), (5, .int x5)], [], h, 0, 0) := by
  unfold fxX7_looks_156 at hq
  refine mB_run odX7_looks 2 (g := (39, [(5, .int (x5 + (1 : Int32))), (0, .ref x0), (1, .long x1), (3, .long x3)], [], h, 0, 0)) rfl ?_
  refine mB_lv [1, 2, 3, 0] (lv' := [(0, .ref x0), (1, .long x1), (3, .long x3), (5, .int (x5 + (1 : Int32)))]) rfl ?_
  exact hrec39 _ _ _ _ _ hq
def fxX7_looks_150 (N : Nat) (rec39 : Nat → Int64 → Int64 → Int32 → mh → Option mh) (rec67 : Nat → Int64 → Int64 → Int32 → Int32 → mh → Option mh) (x0 : Nat) (x1 : Int64) (x3 : Int64) (x5 : Int32) (x6 : Int32) (h : mh) : Option mh :=
  rec67 x0 x1 x3 x5 (x6 + (1 : Int32)) h
set_option maxHeartbeats 4000000 in
set_option maxRecDepth 100000 in
theorem exX7_looks_150 {N : Nat} {rec39 : Nat → Int64 → Int64 → Int32 → mh → Option mh} {rec67 : Nat → Int64 → Int64 → Int32 → Int32 → mh → Option mh} (hrec39 : ∀ (x0 : Nat) (x1 : Int64) (x3 : Int64) (x5 : Int32) (h : mh) {o : mh}, rec39 x0 x1 x3 x5 h = some o → mB (gO mX7_looks (o, none)) mX7_looks (39, [(0, .ref x0), (1, .long x1), (3, .long x3), (5, .int x5)], [], h, 0, 0)) (hrec67 : ∀ (x0 : Nat) (x1 : Int64) (x3 : Int64) (x5 : Int32) (x6 : Int32) (h : mh) {o : mh}, rec67 x0 x1 x3 x5 x6 h = some o → mB (gO mX7_looks (o, none)) mX7_looks (67, [(0, .ref x0), (1, .long x1), (3, .long x3), (5, .int x5), (6, .int x6)], [], h, 0, 0)) (x0 : Nat) (x1 : Int64) (x3 : Int64) (x5 : Int32) (x6 : Int32) (h : mh) {o : mh} (hq : fxX7_looks_150 N rec39 rec67 x0 x1 x3 x5 x6 h = some o) : mB (gO mX7_looks (o, none)) mX7_looks (150, [(0, .ref x0), (1, .long x1), (3, .long x3), (5, .int x5), (6, .int x6)], [], h, 0, 0) := by
  unfold fxX7_looks_150 at hq
  refine mB_run odX7_looks 2 (g := (67, [(6, .int (x6 + (1 : Int32))), (0, .ref x0), (1, .long x1), (3, .long x3), (5, .int x5)], [], h, 0, 0)) rfl ?_
  refine mB_lv [1, 2, 3, 4, 0] (lv' := [(0, .ref x0), (1, .long x1), (3, .long x3), (5, .int x5), (6, .int (x6 + (1 : Int32)))]) rfl ?_
  exact hrec67 _ _ _ _ _ _ hq
def fxX7_looks_67 (N : Nat) (rec39 : Nat → Int64 → Int64 → Int32 → mh → Option mh) : Nat → Nat → Int64 → Int64 → Int32 → Int32 → mh → Option mh
  | 0, _, _, _, _, _, _ => none
  | n + 1, x0, x1, x3, x5, x6, h =>
    (gR h x0 7 46).bind fun v44 =>
    (aI h v44 (1 : Int32)).bind fun v46 =>
    if v46 ≤ x6 then (
      fxX7_looks_156 N rec39 x0 x1 x3 x5 h) else (
      (kO h x0 7).bind fun f51 =>
      (fxX7_along N x0 ((24 : Int32) + x6) h).bind fun o49 =>
      if o49.2 = x3 then (
        (gR o49.1 x0 7 43).bind fun v54 =>
        (aJ o49.1 v54 x5).bind fun v56 =>
        (gR o49.1 x0 7 43).bind fun v58 =>
        (aJ o49.1 v58 ((24 : Int32) + x6)).bind fun v60 =>
        (gR o49.1 x0 7 44).bind fun v62 =>
        (aJ o49.1 v62 x5).bind fun v64 =>
        (gR o49.1 x0 7 44).bind fun v66 =>
        (aJ o49.1 v66 ((24 : Int32) + x6)).bind fun v68 =>
        (gR o49.1 x0 7 45).bind fun v70 =>
        (aJ o49.1 v70 x5).bind fun v72 =>
        (gR o49.1 x0 7 45).bind fun v74 =>
        (aJ o49.1 v74 ((24 : Int32) + x6)).bind fun v76 =>
        (kO o49.1 x0 7).bind fun f80 =>
        (fxX7_heaps N x0 (v56 + v60) (v64 + v68) (v72 + v76) o49.1).bind fun o78 =>
        fxX7_looks_150 N rec39 (fxX7_looks_67 N rec39 n) x0 x1 x3 x5 x6 o78) else (
        fxX7_looks_150 N rec39 (fxX7_looks_67 N rec39 n) x0 x1 x3 x5 x6 o49.1))
set_option maxHeartbeats 4000000 in
set_option maxRecDepth 100000 in
theorem exX7_looks_67 {N : Nat} {rec39 : Nat → Int64 → Int64 → Int32 → mh → Option mh} (hrec39 : ∀ (x0 : Nat) (x1 : Int64) (x3 : Int64) (x5 : Int32) (h : mh) {o : mh}, rec39 x0 x1 x3 x5 h = some o → mB (gO mX7_looks (o, none)) mX7_looks (39, [(0, .ref x0), (1, .long x1), (3, .long x3), (5, .int x5)], [], h, 0, 0)) : ∀ (n : Nat) (x0 : Nat) (x1 : Int64) (x3 : Int64) (x5 : Int32) (x6 : Int32) (h : mh) {o : mh}, fxX7_looks_67 N rec39 n x0 x1 x3 x5 x6 h = some o → mB (gO mX7_looks (o, none)) mX7_looks (67, [(0, .ref x0), (1, .long x1), (3, .long x3), (5, .int x5), (6, .int x6)], [], h, 0, 0) := by
  intro n
  induction n with
  | zero => intro x0 x1 x3 x5 x6 h o hq; cases hq
  | succ n ih =>
    intro x0 x1 x3 x5 x6 h o hq
    unfold fxX7_looks_67 at hq
    refine mB_run odX7_looks 2 (g := (70, [(0, .ref x0), (1, .long x1), (3, .long x3), (5, .int x5), (6, .int x6)], [.ref x0, .int x6], h, 0, 0)) rfl ?_
    obtain ⟨v44, e45, hq⟩ := bsm hq
    refine r_gR odX7_looks rfl rfl e45 ?_
    refine mB_run odX7_looks 1 (g := (74, [(0, .ref x0), (1, .long x1), (3, .long x3), (5, .int x5), (6, .int x6)], [.int (1 : Int32), .ref v44, .int x6], h, 0, 0)) rfl ?_
    obtain ⟨v46, e47, hq⟩ := bsm hq
    refine r_aI odX7_looks rfl e47 ?_
    by_cases c48 : v46 ≤ x6
    · rw [if_pos c48] at hq
      refine ic_ge_T (t := 156) odX7_looks rfl rfl c48 ?_
      refine mB_lv [0, 1, 2, 3] (lv' := [(0, .ref x0), (1, .long x1), (3, .long x3), (5, .int x5)]) rfl ?_
      exact exX7_looks_156 hrec39 _ _ _ _ _ hq
    · rw [if_neg c48] at hq
      refine ic_ge_F (t := 156) odX7_looks rfl rfl c48 ?_
      refine mB_run odX7_looks 4 (g := (84, [(0, .ref x0), (1, .long x1), (3, .long x3), (5, .int x5), (6, .int x6)], [.int ((24 : Int32) + x6), .ref x0], h, 0, 0)) rfl ?_
      obtain ⟨f51, k52, hq⟩ := bsm hq
      obtain ⟨o49, e50, hq⟩ := bsm hq
      refine mB_V (as := [.int ((24 : Int32) + x6)]) odX7_looks okX7_along lk_7_341 rfl (exX7_along e50) (kO_at k52) rfl rfl rfl ?_
      show mB _ mX7_looks (87, [(0, .ref x0), (1, .long x1), (3, .long x3), (5, .int x5), (6, .int x6)], [.long o49.2], o49.1, 0, 0)
      refine mB_run odX7_looks 1 (g := (88, [(0, .ref x0), (1, .long x1), (3, .long x3), (5, .int x5), (6, .int x6)], [.long x3, .long o49.2], o49.1, 0, 0)) rfl ?_
      by_cases c53 : o49.2 = x3
      · rw [if_pos c53] at hq
        refine lc_ne_F (t := 150) odX7_looks rfl rfl rfl c53 ?_
        refine mB_run odX7_looks 2 (g := (94, [(0, .ref x0), (1, .long x1), (3, .long x3), (5, .int x5), (6, .int x6)], [.ref x0, .ref x0], o49.1, 0, 0)) rfl ?_
        obtain ⟨v54, e55, hq⟩ := bsm hq
        refine r_gR odX7_looks rfl rfl e55 ?_
        refine mB_run odX7_looks 1 (g := (99, [(0, .ref x0), (1, .long x1), (3, .long x3), (5, .int x5), (6, .int x6)], [.int x5, .ref v54, .ref x0], o49.1, 0, 0)) rfl ?_
        obtain ⟨v56, e57, hq⟩ := bsm hq
        refine r_aJ odX7_looks rfl e57 ?_
        refine mB_run odX7_looks 1 (g := (101, [(0, .ref x0), (1, .long x1), (3, .long x3), (5, .int x5), (6, .int x6)], [.ref x0, .long v56, .ref x0], o49.1, 0, 0)) rfl ?_
        obtain ⟨v58, e59, hq⟩ := bsm hq
        refine r_gR odX7_looks rfl rfl e59 ?_
        refine mB_run odX7_looks 3 (g := (109, [(0, .ref x0), (1, .long x1), (3, .long x3), (5, .int x5), (6, .int x6)], [.int ((24 : Int32) + x6), .ref v58, .long v56, .ref x0], o49.1, 0, 0)) rfl ?_
        obtain ⟨v60, e61, hq⟩ := bsm hq
        refine r_aJ odX7_looks rfl e61 ?_
        refine mB_run odX7_looks 2 (g := (112, [(0, .ref x0), (1, .long x1), (3, .long x3), (5, .int x5), (6, .int x6)], [.ref x0, .long (v56 + v60), .ref x0], o49.1, 0, 0)) rfl ?_
        obtain ⟨v62, e63, hq⟩ := bsm hq
        refine r_gR odX7_looks rfl rfl e63 ?_
        refine mB_run odX7_looks 1 (g := (117, [(0, .ref x0), (1, .long x1), (3, .long x3), (5, .int x5), (6, .int x6)], [.int x5, .ref v62, .long (v56 + v60), .ref x0], o49.1, 0, 0)) rfl ?_
        obtain ⟨v64, e65, hq⟩ := bsm hq
        refine r_aJ odX7_looks rfl e65 ?_
        refine mB_run odX7_looks 1 (g := (119, [(0, .ref x0), (1, .long x1), (3, .long x3), (5, .int x5), (6, .int x6)], [.ref x0, .long v64, .long (v56 + v60), .ref x0], o49.1, 0, 0)) rfl ?_
        obtain ⟨v66, e67, hq⟩ := bsm hq
        refine r_gR odX7_looks rfl rfl e67 ?_
        refine mB_run odX7_looks 3 (g := (127, [(0, .ref x0), (1, .long x1), (3, .long x3), (5, .int x5), (6, .int x6)], [.int ((24 : Int32) + x6), .ref v66, .long v64, .long (v56 + v60), .ref x0], o49.1, 0, 0)) rfl ?_
        obtain ⟨v68, e69, hq⟩ := bsm hq
        refine r_aJ odX7_looks rfl e69 ?_
        refine mB_run odX7_looks 2 (g := (130, [(0, .ref x0), (1, .long x1), (3, .long x3), (5, .int x5), (6, .int x6)], [.ref x0, .long (v64 + v68), .long (v56 + v60), .ref x0], o49.1, 0, 0)) rfl ?_
        obtain ⟨v70, e71, hq⟩ := bsm hq
        refine r_gR odX7_looks rfl rfl e71 ?_
        refine mB_run odX7_looks 1 (g := (135, [(0, .ref x0), (1, .long x1), (3, .long x3), (5, .int x5), (6, .int x6)], [.int x5, .ref v70, .long (v64 + v68), .long (v56 + v60), .ref x0], o49.1, 0, 0)) rfl ?_
        obtain ⟨v72, e73, hq⟩ := bsm hq
        refine r_aJ odX7_looks rfl e73 ?_
        refine mB_run odX7_looks 1 (g := (137, [(0, .ref x0), (1, .long x1), (3, .long x3), (5, .int x5), (6, .int x6)], [.ref x0, .long v72, .long (v64 + v68), .long (v56 + v60), .ref x0], o49.1, 0, 0)) rfl ?_
        obtain ⟨v74, e75, hq⟩ := bsm hq
        refine r_gR odX7_looks rfl rfl e75 ?_
        refine mB_run odX7_looks 3 (g := (145, [(0, .ref x0), (1, .long x1), (3, .long x3), (5, .int x5), (6, .int x6)], [.int ((24 : Int32) + x6), .ref v74, .long v72, .long (v64 + v68), .long (v56 + v60), .ref x0], o49.1, 0, 0)) rfl ?_
        obtain ⟨v76, e77, hq⟩ := bsm hq
        refine r_aJ odX7_looks rfl e77 ?_
        refine mB_run odX7_looks 1 (g := (147, [(0, .ref x0), (1, .long x1), (3, .long x3), (5, .int x5), (6, .int x6)], [.long (v72 + v76), .long (v64 + v68), .long (v56 + v60), .ref x0], o49.1, 0, 0)) rfl ?_
        obtain ⟨f80, k81, hq⟩ := bsm hq
        obtain ⟨o78, e79, hq⟩ := bsm hq
        refine mB_V (as := [.long (v56 + v60), .long (v64 + v68), .long (v72 + v76)]) odX7_looks okX7_heaps lk_7_222 rfl (exX7_heaps e79) (kO_at k81) rfl rfl rfl ?_
        show mB _ mX7_looks (150, [(0, .ref x0), (1, .long x1), (3, .long x3), (5, .int x5), (6, .int x6)], [], o78, 0, 0)
        refine mB_lv [0, 1, 2, 3, 4] (lv' := [(0, .ref x0), (1, .long x1), (3, .long x3), (5, .int x5), (6, .int x6)]) rfl ?_
        exact exX7_looks_150 hrec39 ih _ _ _ _ _ _ hq
      · rw [if_neg c53] at hq
        refine lc_ne_T (t := 150) odX7_looks rfl rfl rfl c53 ?_
        refine mB_lv [0, 1, 2, 3, 4] (lv' := [(0, .ref x0), (1, .long x1), (3, .long x3), (5, .int x5), (6, .int x6)]) rfl ?_
        exact exX7_looks_150 hrec39 ih _ _ _ _ _ _ hq
def fxX7_looks_261 (N : Nat) : Nat → Nat → Int32 → mh → Option mh
  | 0, _, _, _ => none
  | n + 1, x0, x12, h =>
    (gI h x0 7 23).bind fun v104 =>
    if v104 ≤ x12 then (
      some h) else (
      (gI h x0 7 54).bind fun v107 =>
      if v107 = 0 then (
        (gR h x0 7 16).bind fun v110 =>
        (gR h x0 7 22).bind fun v112 =>
        (aI h v112 x12).bind fun v114 =>
        (aJ h v110 v114).bind fun v116 =>
        (gR h x0 7 17).bind fun v118 =>
        (gR h x0 7 22).bind fun v120 =>
        (aI h v120 x12).bind fun v122 =>
        (aJ h v118 v122).bind fun v124 =>
        (gR h x0 7 18).bind fun v126 =>
        (gR h x0 7 22).bind fun v128 =>
        (aI h v128 x12).bind fun v130 =>
        (aJ h v126 v130).bind fun v132 =>
        (kO h x0 7).bind fun f136 =>
        (fxX7_finds N x0 v116 v124 v132 h).bind fun o134 =>
        fxX7_looks_261 N n x0 (x12 + (1 : Int32)) o134) else (
        some h))
set_option maxHeartbeats 4000000 in
set_option maxRecDepth 100000 in
theorem exX7_looks_261 {N : Nat} : ∀ (n : Nat) (x0 : Nat) (x12 : Int32) (h : mh) {o : mh}, fxX7_looks_261 N n x0 x12 h = some o → mB (gO mX7_looks (o, none)) mX7_looks (261, [(0, .ref x0), (12, .int x12)], [], h, 0, 0) := by
  intro n
  induction n with
  | zero => intro x0 x12 h o hq; cases hq
  | succ n ih =>
    intro x0 x12 h o hq
    unfold fxX7_looks_261 at hq
    refine mB_run odX7_looks 2 (g := (264, [(0, .ref x0), (12, .int x12)], [.ref x0, .int x12], h, 0, 0)) rfl ?_
    obtain ⟨v104, e105, hq⟩ := bsm hq
    refine r_gI odX7_looks rfl rfl e105 ?_
    by_cases c106 : v104 ≤ x12
    · rw [if_pos c106] at hq
      refine ic_ge_T (t := 323) odX7_looks rfl rfl c106 ?_
      cases hq
      exact mB_ret odX7_looks rfl
    · rw [if_neg c106] at hq
      refine ic_ge_F (t := 323) odX7_looks rfl rfl c106 ?_
      refine mB_run odX7_looks 1 (g := (271, [(0, .ref x0), (12, .int x12)], [.ref x0], h, 0, 0)) rfl ?_
      obtain ⟨v107, e108, hq⟩ := bsm hq
      refine r_gI odX7_looks rfl rfl e108 ?_
      by_cases c109 : v107 = 0
      · rw [if_pos c109] at hq
        refine if_ne_F (t := 323) odX7_looks rfl rfl c109 ?_
        refine mB_run odX7_looks 2 (g := (279, [(0, .ref x0), (12, .int x12)], [.ref x0, .ref x0], h, 0, 0)) rfl ?_
        obtain ⟨v110, e111, hq⟩ := bsm hq
        refine r_gR odX7_looks rfl rfl e111 ?_
        refine mB_run odX7_looks 1 (g := (283, [(0, .ref x0), (12, .int x12)], [.ref x0, .ref v110, .ref x0], h, 0, 0)) rfl ?_
        obtain ⟨v112, e113, hq⟩ := bsm hq
        refine r_gR odX7_looks rfl rfl e113 ?_
        refine mB_run odX7_looks 1 (g := (288, [(0, .ref x0), (12, .int x12)], [.int x12, .ref v112, .ref v110, .ref x0], h, 0, 0)) rfl ?_
        obtain ⟨v114, e115, hq⟩ := bsm hq
        refine r_aI odX7_looks rfl e115 ?_
        obtain ⟨v116, e117, hq⟩ := bsm hq
        refine r_aJ odX7_looks rfl e117 ?_
        refine mB_run odX7_looks 1 (g := (291, [(0, .ref x0), (12, .int x12)], [.ref x0, .long v116, .ref x0], h, 0, 0)) rfl ?_
        obtain ⟨v118, e119, hq⟩ := bsm hq
        refine r_gR odX7_looks rfl rfl e119 ?_
        refine mB_run odX7_looks 1 (g := (295, [(0, .ref x0), (12, .int x12)], [.ref x0, .ref v118, .long v116, .ref x0], h, 0, 0)) rfl ?_
        obtain ⟨v120, e121, hq⟩ := bsm hq
        refine r_gR odX7_looks rfl rfl e121 ?_
        refine mB_run odX7_looks 1 (g := (300, [(0, .ref x0), (12, .int x12)], [.int x12, .ref v120, .ref v118, .long v116, .ref x0], h, 0, 0)) rfl ?_
        obtain ⟨v122, e123, hq⟩ := bsm hq
        refine r_aI odX7_looks rfl e123 ?_
        obtain ⟨v124, e125, hq⟩ := bsm hq
        refine r_aJ odX7_looks rfl e125 ?_
        refine mB_run odX7_looks 1 (g := (303, [(0, .ref x0), (12, .int x12)], [.ref x0, .long v124, .long v116, .ref x0], h, 0, 0)) rfl ?_
        obtain ⟨v126, e127, hq⟩ := bsm hq
        refine r_gR odX7_looks rfl rfl e127 ?_
        refine mB_run odX7_looks 1 (g := (307, [(0, .ref x0), (12, .int x12)], [.ref x0, .ref v126, .long v124, .long v116, .ref x0], h, 0, 0)) rfl ?_
        obtain ⟨v128, e129, hq⟩ := bsm hq
        refine r_gR odX7_looks rfl rfl e129 ?_
        refine mB_run odX7_looks 1 (g := (312, [(0, .ref x0), (12, .int x12)], [.int x12, .ref v128, .ref v126, .long v124, .long v116, .ref x0], h, 0, 0)) rfl ?_
        obtain ⟨v130, e131, hq⟩ := bsm hq
        refine r_aI odX7_looks rfl e131 ?_
        obtain ⟨v132, e133, hq⟩ := bsm hq
        refine r_aJ odX7_looks rfl e133 ?_
        obtain ⟨f136, k137, hq⟩ := bsm hq
        obtain ⟨o134, e135, hq⟩ := bsm hq
        refine mB_V (as := [.long v116, .long v124, .long v132]) odX7_looks okX7_finds lk_7_350 rfl (exX7_finds e135) (kO_at k137) rfl rfl rfl ?_
        show mB _ mX7_looks (317, [(0, .ref x0), (12, .int x12)], [], o134, 0, 0)
        refine mB_run odX7_looks 2 (g := (261, [(12, .int (x12 + (1 : Int32))), (0, .ref x0)], [], o134, 0, 0)) rfl ?_
        refine mB_lv [1, 0] (lv' := [(0, .ref x0), (12, .int (x12 + (1 : Int32)))]) rfl ?_
        exact ih _ _ _ hq
      · rw [if_neg c109] at hq
        refine if_ne_T (t := 323) odX7_looks rfl rfl c109 ?_
        cases hq
        exact mB_ret odX7_looks rfl
def fxX7_looks_230 (N : Nat) : Nat → Nat → Int32 → mh → Option mh
  | 0, _, _, _ => none
  | n + 1, x0, x12, h =>
    (gI h x0 7 15).bind fun v93 =>
    if v93 ≤ x12 then (
      (kO h x0 7).bind fun f98 =>
      (fxX7_rings N x0 h).bind fun o96 =>
      fxX7_looks_261 N N x0 (0 : Int32) o96) else (
      (gR h x0 7 20).bind fun v100 =>
      (wI h v100 x12 x12).bind fun h102 =>
      fxX7_looks_230 N n x0 (x12 + (1 : Int32)) h102)
set_option maxHeartbeats 4000000 in
set_option maxRecDepth 100000 in
theorem exX7_looks_230 {N : Nat} : ∀ (n : Nat) (x0 : Nat) (x12 : Int32) (h : mh) {o : mh}, fxX7_looks_230 N n x0 x12 h = some o → mB (gO mX7_looks (o, none)) mX7_looks (230, [(0, .ref x0), (12, .int x12)], [], h, 0, 0) := by
  intro n
  induction n with
  | zero => intro x0 x12 h o hq; cases hq
  | succ n ih =>
    intro x0 x12 h o hq
    unfold fxX7_looks_230 at hq
    refine mB_run odX7_looks 2 (g := (233, [(0, .ref x0), (12, .int x12)], [.ref x0, .int x12], h, 0, 0)) rfl ?_
    obtain ⟨v93, e94, hq⟩ := bsm hq
    refine r_gI odX7_looks rfl rfl e94 ?_
    by_cases c95 : v93 ≤ x12
    · rw [if_pos c95] at hq
      refine ic_ge_T (t := 254) odX7_looks rfl rfl c95 ?_
      refine mB_run odX7_looks 1 (g := (255, [(0, .ref x0), (12, .int x12)], [.ref x0], h, 0, 0)) rfl ?_
      obtain ⟨f98, k99, hq⟩ := bsm hq
      obtain ⟨o96, e97, hq⟩ := bsm hq
      refine mB_V (as := []) odX7_looks okX7_rings lk_7_205 rfl (exX7_rings e97) (kO_at k99) rfl rfl rfl ?_
      show mB _ mX7_looks (258, [(0, .ref x0), (12, .int x12)], [], o96, 0, 0)
      refine mB_run odX7_looks 2 (g := (261, [(12, .int (0 : Int32)), (0, .ref x0)], [], o96, 0, 0)) rfl ?_
      refine mB_lv [1, 0] (lv' := [(0, .ref x0), (12, .int (0 : Int32))]) rfl ?_
      exact exX7_looks_261 N _ _ _ hq
    · rw [if_neg c95] at hq
      refine ic_ge_F (t := 254) odX7_looks rfl rfl c95 ?_
      refine mB_run odX7_looks 1 (g := (240, [(0, .ref x0), (12, .int x12)], [.ref x0], h, 0, 0)) rfl ?_
      obtain ⟨v100, e101, hq⟩ := bsm hq
      refine r_gR odX7_looks rfl rfl e101 ?_
      refine mB_run odX7_looks 2 (g := (247, [(0, .ref x0), (12, .int x12)], [.int x12, .int x12, .ref v100], h, 0, 0)) rfl ?_
      obtain ⟨h102, e103, hq⟩ := bsm hq
      refine r_wI odX7_looks rfl e103 ?_
      refine mB_run odX7_looks 2 (g := (230, [(12, .int (x12 + (1 : Int32))), (0, .ref x0)], [], h102, 0, 0)) rfl ?_
      refine mB_lv [1, 0] (lv' := [(0, .ref x0), (12, .int (x12 + (1 : Int32)))]) rfl ?_
      exact ih _ _ _ hq
def fxX7_looks_193 (N : Nat) (x0 : Nat) (x5 : Int64) (x7 : Int64) (x9 : Int64) (s0 : Int32) (h : mh) : Option mh :=
  (sV h x0 7 24 (.long x5)).bind fun h82 =>
  (sV h82 x0 7 25 (.long x7)).bind fun h84 =>
  (sV h84 x0 7 26 (.long x9)).bind fun h86 =>
  if s0 = 0 then (
    some h86) else (
    (gI h86 x0 7 15).bind fun v89 =>
    (sV h86 x0 7 21 (.int v89)).bind fun h91 =>
    fxX7_looks_230 N N x0 (0 : Int32) h91)
set_option maxHeartbeats 4000000 in
set_option maxRecDepth 100000 in
theorem exX7_looks_193 {N : Nat} (x0 : Nat) (x5 : Int64) (x7 : Int64) (x9 : Int64) (s0 : Int32) (h : mh) {o : mh} (hq : fxX7_looks_193 N x0 x5 x7 x9 s0 h = some o) : mB (gO mX7_looks (o, none)) mX7_looks (193, [(0, .ref x0), (5, .long x5), (7, .long x7), (9, .long x9)], [.int s0], h, 0, 0) := by
  unfold fxX7_looks_193 at hq
  refine mB_run odX7_looks 3 (g := (198, [(11, .int s0), (0, .ref x0), (5, .long x5), (7, .long x7), (9, .long x9)], [.long x5, .ref x0], h, 0, 0)) rfl ?_
  obtain ⟨h82, e83, hq⟩ := bsm hq
  refine r_sV odX7_looks rfl rfl rfl rfl e83 ?_
  refine mB_run odX7_looks 2 (g := (204, [(11, .int s0), (0, .ref x0), (5, .long x5), (7, .long x7), (9, .long x9)], [.long x7, .ref x0], h82, 0, 0)) rfl ?_
  obtain ⟨h84, e85, hq⟩ := bsm hq
  refine r_sV odX7_looks rfl rfl rfl rfl e85 ?_
  refine mB_run odX7_looks 2 (g := (210, [(11, .int s0), (0, .ref x0), (5, .long x5), (7, .long x7), (9, .long x9)], [.long x9, .ref x0], h84, 0, 0)) rfl ?_
  obtain ⟨h86, e87, hq⟩ := bsm hq
  refine r_sV odX7_looks rfl rfl rfl rfl e87 ?_
  refine mB_run odX7_looks 1 (g := (215, [(11, .int s0), (0, .ref x0), (5, .long x5), (7, .long x7), (9, .long x9)], [.int s0], h86, 0, 0)) rfl ?_
  by_cases c88 : s0 = 0
  · rw [if_pos c88] at hq
    refine if_ne_F (t := 219) odX7_looks rfl rfl c88 ?_
    cases hq
    exact mB_ret odX7_looks rfl
  · rw [if_neg c88] at hq
    refine if_ne_T (t := 219) odX7_looks rfl rfl c88 ?_
    refine mB_run odX7_looks 2 (g := (221, [(11, .int s0), (0, .ref x0), (5, .long x5), (7, .long x7), (9, .long x9)], [.ref x0, .ref x0], h86, 0, 0)) rfl ?_
    obtain ⟨v89, e90, hq⟩ := bsm hq
    refine r_gI odX7_looks rfl rfl e90 ?_
    obtain ⟨h91, e92, hq⟩ := bsm hq
    refine r_sV odX7_looks rfl rfl rfl rfl e92 ?_
    refine mB_run odX7_looks 2 (g := (230, [(12, .int (0 : Int32)), (11, .int s0), (0, .ref x0), (5, .long x5), (7, .long x7), (9, .long x9)], [], h91, 0, 0)) rfl ?_
    refine mB_lv [2, 0] (lv' := [(0, .ref x0), (12, .int (0 : Int32))]) rfl ?_
    exact exX7_looks_230 N _ _ _ hq
def fxX7_looks_39 (N : Nat) : Nat → Nat → Int64 → Int64 → Int32 → mh → Option mh
  | 0, _, _, _, _, _ => none
  | n + 1, x0, x1, x3, x5, h =>
    (gR h x0 7 46).bind fun v23 =>
    (aI h v23 (0 : Int32)).bind fun v25 =>
    if v25 ≤ x5 then (
      (gJ h x0 7 24).bind fun v28 =>
      (gJ h x0 7 25).bind fun v30 =>
      (gJ h x0 7 26).bind fun v32 =>
      (kO h x0 7).bind fun f36 =>
      (fxX7_kindOfHeap N x0 h).bind fun o34 =>
      if o34.2 = (3 : Int32) then (
        fxX7_looks_193 N x0 v28 v30 v32 (1 : Int32) o34.1) else (
        fxX7_looks_193 N x0 v28 v30 v32 (0 : Int32) o34.1)) else (
      (kO h x0 7).bind fun f41 =>
      (fxX7_along N x0 x5 h).bind fun o39 =>
      if o39.2 = x1 then (
        fxX7_looks_67 N (fxX7_looks_39 N n) N x0 x1 x3 x5 (0 : Int32) o39.1) else (
        fxX7_looks_156 N (fxX7_looks_39 N n) x0 x1 x3 x5 o39.1))
set_option maxHeartbeats 4000000 in
set_option maxRecDepth 100000 in
theorem exX7_looks_39 {N : Nat} : ∀ (n : Nat) (x0 : Nat) (x1 : Int64) (x3 : Int64) (x5 : Int32) (h : mh) {o : mh}, fxX7_looks_39 N n x0 x1 x3 x5 h = some o → mB (gO mX7_looks (o, none)) mX7_looks (39, [(0, .ref x0), (1, .long x1), (3, .long x3), (5, .int x5)], [], h, 0, 0) := by
  intro n
  induction n with
  | zero => intro x0 x1 x3 x5 h o hq; cases hq
  | succ n ih =>
    intro x0 x1 x3 x5 h o hq
    unfold fxX7_looks_39 at hq
    refine mB_run odX7_looks 2 (g := (42, [(0, .ref x0), (1, .long x1), (3, .long x3), (5, .int x5)], [.ref x0, .int x5], h, 0, 0)) rfl ?_
    obtain ⟨v23, e24, hq⟩ := bsm hq
    refine r_gR odX7_looks rfl rfl e24 ?_
    refine mB_run odX7_looks 1 (g := (46, [(0, .ref x0), (1, .long x1), (3, .long x3), (5, .int x5)], [.int (0 : Int32), .ref v23, .int x5], h, 0, 0)) rfl ?_
    obtain ⟨v25, e26, hq⟩ := bsm hq
    refine r_aI odX7_looks rfl e26 ?_
    by_cases c27 : v25 ≤ x5
    · rw [if_pos c27] at hq
      refine ic_ge_T (t := 162) odX7_looks rfl rfl c27 ?_
      refine mB_run odX7_looks 1 (g := (163, [(0, .ref x0), (1, .long x1), (3, .long x3), (5, .int x5)], [.ref x0], h, 0, 0)) rfl ?_
      obtain ⟨v28, e29, hq⟩ := bsm hq
      refine r_gJ odX7_looks rfl rfl e29 ?_
      refine mB_run odX7_looks 2 (g := (169, [(5, .long v28), (0, .ref x0), (1, .long x1), (3, .long x3)], [.ref x0], h, 0, 0)) rfl ?_
      obtain ⟨v30, e31, hq⟩ := bsm hq
      refine r_gJ odX7_looks rfl rfl e31 ?_
      refine mB_run odX7_looks 2 (g := (175, [(7, .long v30), (5, .long v28), (0, .ref x0), (1, .long x1), (3, .long x3)], [.ref x0], h, 0, 0)) rfl ?_
      obtain ⟨v32, e33, hq⟩ := bsm hq
      refine r_gJ odX7_looks rfl rfl e33 ?_
      refine mB_run odX7_looks 2 (g := (181, [(9, .long v32), (7, .long v30), (5, .long v28), (0, .ref x0), (1, .long x1), (3, .long x3)], [.ref x0], h, 0, 0)) rfl ?_
      obtain ⟨f36, k37, hq⟩ := bsm hq
      obtain ⟨o34, e35, hq⟩ := bsm hq
      refine mB_V (as := []) odX7_looks okX7_kindOfHeap lk_7_197 rfl (exX7_kindOfHeap e35) (kO_at k37) rfl rfl rfl ?_
      show mB _ mX7_looks (184, [(9, .long v32), (7, .long v30), (5, .long v28), (0, .ref x0), (1, .long x1), (3, .long x3)], [.int o34.2], o34.1, 0, 0)
      refine mB_run odX7_looks 1 (g := (185, [(9, .long v32), (7, .long v30), (5, .long v28), (0, .ref x0), (1, .long x1), (3, .long x3)], [.int (3 : Int32), .int o34.2], o34.1, 0, 0)) rfl ?_
      by_cases c38 : o34.2 = (3 : Int32)
      · rw [if_pos c38] at hq
        refine ic_ne_F (t := 192) odX7_looks rfl rfl c38 ?_
        refine mB_run odX7_looks 2 (g := (193, [(9, .long v32), (7, .long v30), (5, .long v28), (0, .ref x0), (1, .long x1), (3, .long x3)], [.int (1 : Int32)], o34.1, 0, 0)) rfl ?_
        refine mB_lv [3, 2, 1, 0] (lv' := [(0, .ref x0), (5, .long v28), (7, .long v30), (9, .long v32)]) rfl ?_
        exact exX7_looks_193 _ _ _ _ _ _ hq
      · rw [if_neg c38] at hq
        refine ic_ne_T (t := 192) odX7_looks rfl rfl c38 ?_
        refine mB_run odX7_looks 1 (g := (193, [(9, .long v32), (7, .long v30), (5, .long v28), (0, .ref x0), (1, .long x1), (3, .long x3)], [.int (0 : Int32)], o34.1, 0, 0)) rfl ?_
        refine mB_lv [3, 2, 1, 0] (lv' := [(0, .ref x0), (5, .long v28), (7, .long v30), (9, .long v32)]) rfl ?_
        exact exX7_looks_193 _ _ _ _ _ _ hq
    · rw [if_neg c27] at hq
      refine ic_ge_F (t := 162) odX7_looks rfl rfl c27 ?_
      refine mB_run odX7_looks 2 (g := (53, [(0, .ref x0), (1, .long x1), (3, .long x3), (5, .int x5)], [.int x5, .ref x0], h, 0, 0)) rfl ?_
      obtain ⟨f41, k42, hq⟩ := bsm hq
      obtain ⟨o39, e40, hq⟩ := bsm hq
      refine mB_V (as := [.int x5]) odX7_looks okX7_along lk_7_341 rfl (exX7_along e40) (kO_at k42) rfl rfl rfl ?_
      show mB _ mX7_looks (56, [(0, .ref x0), (1, .long x1), (3, .long x3), (5, .int x5)], [.long o39.2], o39.1, 0, 0)
      refine mB_run odX7_looks 1 (g := (57, [(0, .ref x0), (1, .long x1), (3, .long x3), (5, .int x5)], [.long x1, .long o39.2], o39.1, 0, 0)) rfl ?_
      by_cases c43 : o39.2 = x1
      · rw [if_pos c43] at hq
        refine lc_eq_T (t := 64) odX7_looks rfl rfl rfl c43 ?_
        refine mB_run odX7_looks 2 (g := (67, [(6, .int (0 : Int32)), (0, .ref x0), (1, .long x1), (3, .long x3), (5, .int x5)], [], o39.1, 0, 0)) rfl ?_
        refine mB_lv [1, 2, 3, 4, 0] (lv' := [(0, .ref x0), (1, .long x1), (3, .long x3), (5, .int x5), (6, .int (0 : Int32))]) rfl ?_
        exact exX7_looks_67 ih N _ _ _ _ _ _ hq
      · rw [if_neg c43] at hq
        refine lc_eq_F (t := 64) odX7_looks rfl rfl rfl c43 ?_
        refine mB_run odX7_looks 1 (g := (156, [(0, .ref x0), (1, .long x1), (3, .long x3), (5, .int x5)], [], o39.1, 0, 0)) rfl ?_
        refine mB_lv [0, 1, 2, 3] (lv' := [(0, .ref x0), (1, .long x1), (3, .long x3), (5, .int x5)]) rfl ?_
        exact exX7_looks_156 ih _ _ _ _ _ hq
def fxX7_looks (N : Nat) (p0 : Nat) (h : mh) : Option mh :=
  (kO h p0 7).bind fun f3 =>
  (fxX7_isFlat N p0 h).bind fun o1 =>
  if o1.2 = 0 then (
    (gI o1.1 p0 7 54).bind fun v6 =>
    if v6 = 0 then (
      (kO o1.1 p0 7).bind fun f11 =>
      (fxX7_plain N p0 o1.1).bind fun o9 =>
      (kO o9 p0 7).bind fun f15 =>
      (fxX7_highest N p0 (0 : Int32) o9).bind fun o13 =>
      (kO o13.1 p0 7).bind fun f19 =>
      (fxX7_highest N p0 (1 : Int32) o13.1).bind fun o17 =>
      (sV o17.1 p0 7 15 (.int (0 : Int32))).bind fun h21 =>
      fxX7_looks_39 N N p0 o13.2 o17.2 (0 : Int32) h21) else (
      some o1.1)) else (
    some o1.1)
set_option maxHeartbeats 4000000 in
set_option maxRecDepth 100000 in
theorem exX7_looks {N : Nat} {p0 : Nat} {h : mh} {o : mh} (hq : fxX7_looks N p0 h = some o) : mC mX7_looks [.ref p0] h (o, none) := by
  refine mC_of okX7_looks (Nat.le_of_ble_eq_true rfl) ?_
  unfold fxX7_looks at hq
  show mB _ mX7_looks (0, [(0, .ref p0)], [], h, 0, 0)
  refine mB_run odX7_looks 1 (g := (1, [(0, .ref p0)], [.ref p0], h, 0, 0)) rfl ?_
  obtain ⟨f3, k4, hq⟩ := bsm hq
  obtain ⟨o1, e2, hq⟩ := bsm hq
  refine mB_V (as := []) odX7_looks okX7_isFlat lk_7_182 rfl (exX7_isFlat e2) (kO_at k4) rfl rfl rfl ?_
  show mB _ mX7_looks (4, [(0, .ref p0)], [.int o1.2], o1.1, 0, 0)
  by_cases c5 : o1.2 = 0
  · rw [if_pos c5] at hq
    refine if_ne_F (t := 14) odX7_looks rfl rfl c5 ?_
    refine mB_run odX7_looks 1 (g := (8, [(0, .ref p0)], [.ref p0], o1.1, 0, 0)) rfl ?_
    obtain ⟨v6, e7, hq⟩ := bsm hq
    refine r_gI odX7_looks rfl rfl e7 ?_
    by_cases c8 : v6 = 0
    · rw [if_pos c8] at hq
      refine if_eq_T (t := 15) odX7_looks rfl rfl c8 ?_
      refine mB_run odX7_looks 1 (g := (16, [(0, .ref p0)], [.ref p0], o1.1, 0, 0)) rfl ?_
      obtain ⟨f11, k12, hq⟩ := bsm hq
      obtain ⟨o9, e10, hq⟩ := bsm hq
      refine mB_V (as := []) odX7_looks okX7_plain lk_7_186 rfl (exX7_plain e10) (kO_at k12) rfl rfl rfl ?_
      show mB _ mX7_looks (19, [(0, .ref p0)], [], o9, 0, 0)
      refine mB_run odX7_looks 2 (g := (21, [(0, .ref p0)], [.int (0 : Int32), .ref p0], o9, 0, 0)) rfl ?_
      obtain ⟨f15, k16, hq⟩ := bsm hq
      obtain ⟨o13, e14, hq⟩ := bsm hq
      refine mB_V (as := [.int (0 : Int32)]) odX7_looks okX7_highest lk_7_347 rfl (exX7_highest e14) (kO_at k16) rfl rfl rfl ?_
      show mB _ mX7_looks (24, [(0, .ref p0)], [.long o13.2], o13.1, 0, 0)
      refine mB_run odX7_looks 3 (g := (27, [(1, .long o13.2), (0, .ref p0)], [.int (1 : Int32), .ref p0], o13.1, 0, 0)) rfl ?_
      obtain ⟨f19, k20, hq⟩ := bsm hq
      obtain ⟨o17, e18, hq⟩ := bsm hq
      refine mB_V (as := [.int (1 : Int32)]) odX7_looks okX7_highest lk_7_347 rfl (exX7_highest e18) (kO_at k20) rfl rfl rfl ?_
      show mB _ mX7_looks (30, [(1, .long o13.2), (0, .ref p0)], [.long o17.2], o17.1, 0, 0)
      refine mB_run odX7_looks 3 (g := (33, [(3, .long o17.2), (1, .long o13.2), (0, .ref p0)], [.int (0 : Int32), .ref p0], o17.1, 0, 0)) rfl ?_
      obtain ⟨h21, e22, hq⟩ := bsm hq
      refine r_sV odX7_looks rfl rfl rfl rfl e22 ?_
      refine mB_run odX7_looks 2 (g := (39, [(5, .int (0 : Int32)), (3, .long o17.2), (1, .long o13.2), (0, .ref p0)], [], h21, 0, 0)) rfl ?_
      refine mB_lv [3, 2, 1, 0] (lv' := [(0, .ref p0), (1, .long o13.2), (3, .long o17.2), (5, .int (0 : Int32))]) rfl ?_
      exact exX7_looks_39 N _ _ _ _ _ hq
    · rw [if_neg c8] at hq
      refine if_eq_F (t := 15) odX7_looks rfl rfl c8 ?_
      cases hq
      exact mB_ret odX7_looks rfl
  · rw [if_neg c5] at hq
    refine if_ne_T (t := 14) odX7_looks rfl rfl c5 ?_
    cases hq
    exact mB_ret odX7_looks rfl
def fxX7_looksBothWays (N : Nat) (p0 : Nat) (h : mh) : Option mh :=
  (kO h p0 7).bind fun f3 =>
  (fxX7_looks N p0 h).bind fun o1 =>
  (kO o1 p0 7).bind fun f7 =>
  (fxX7_turnsAbout N p0 o1).bind fun o5 =>
  (kO o5 p0 7).bind fun f11 =>
  (fxX7_looks N p0 o5).bind fun o9 =>
  some o9
set_option maxHeartbeats 4000000 in
set_option maxRecDepth 100000 in
theorem exX7_looksBothWays {N : Nat} {p0 : Nat} {h : mh} {o : mh} (hq : fxX7_looksBothWays N p0 h = some o) : mC mX7_looksBothWays [.ref p0] h (o, none) := by
  refine mC_of okX7_looksBothWays (Nat.le_of_ble_eq_true rfl) ?_
  unfold fxX7_looksBothWays at hq
  show mB _ mX7_looksBothWays (0, [(0, .ref p0)], [], h, 0, 0)
  refine mB_run odX7_looksBothWays 1 (g := (1, [(0, .ref p0)], [.ref p0], h, 0, 0)) rfl ?_
  obtain ⟨f3, k4, hq⟩ := bsm hq
  obtain ⟨o1, e2, hq⟩ := bsm hq
  refine mB_V (as := []) odX7_looksBothWays okX7_looks lk_7_356 rfl (exX7_looks e2) (kO_at k4) rfl rfl rfl ?_
  show mB _ mX7_looksBothWays (4, [(0, .ref p0)], [], o1, 0, 0)
  refine mB_run odX7_looksBothWays 1 (g := (5, [(0, .ref p0)], [.ref p0], o1, 0, 0)) rfl ?_
  obtain ⟨f7, k8, hq⟩ := bsm hq
  obtain ⟨o5, e6, hq⟩ := bsm hq
  refine mB_V (as := []) odX7_looksBothWays okX7_turnsAbout lk_7_212 rfl (exX7_turnsAbout e6) (kO_at k8) rfl rfl rfl ?_
  show mB _ mX7_looksBothWays (8, [(0, .ref p0)], [], o5, 0, 0)
  refine mB_run odX7_looksBothWays 1 (g := (9, [(0, .ref p0)], [.ref p0], o5, 0, 0)) rfl ?_
  obtain ⟨f11, k12, hq⟩ := bsm hq
  obtain ⟨o9, e10, hq⟩ := bsm hq
  refine mB_V (as := []) odX7_looksBothWays okX7_looks lk_7_356 rfl (exX7_looks e10) (kO_at k12) rfl rfl rfl ?_
  show mB _ mX7_looksBothWays (12, [(0, .ref p0)], [], o9, 0, 0)
  cases hq
  exact mB_ret odX7_looksBothWays rfl
