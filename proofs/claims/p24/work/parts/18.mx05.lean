def mxX7_looks_156 (N : Nat) (rec39 : Int64 → Int64 → Int32 → mS → Option mS) (x1 : Int64) (x3 : Int64) (x5 : Int32) (h : mS) : Option mS :=
  rec39 x1 x3 (x5 + (1 : Int32)) h
set_option maxHeartbeats 4000000 in
set_option maxRecDepth 100000 in
theorem emX7_looks_156 {N : Nat} {C : mh} (hC : C.length = 239) {rec39 : Int64 → Int64 → Int32 → mS → Option mS} (hrec39 : ∀ (x1 : Int64) (x3 : Int64) (x5 : Int32) (h : mS) {o : mS}, rec39 x1 x3 x5 h = some o → mB (gO mX7_looks (hM C o, none)) mX7_looks (39, [(0, .ref 239), (1, .long x1), (3, .long x3), (5, .int x5)], [], (hM C h), 0, 0)) (x1 : Int64) (x3 : Int64) (x5 : Int32) (h : mS) {o : mS} (hq : mxX7_looks_156 N rec39 x1 x3 x5 h = some o) : mB (gO mX7_looks (hM C o, none)) mX7_looks (156, [(0, .ref 239), (1, .long x1), (3, .long x3), (5, .int x5)], [], (hM C h), 0, 0) := by
  unfold mxX7_looks_156 at hq
  refine mB_run odX7_looks 2 (g := (39, [(5, .int (x5 + (1 : Int32))), (0, .ref 239), (1, .long x1), (3, .long x3)], [], (hM C h), 0, 0)) rfl ?_
  refine mB_lv [1, 2, 3, 0] (lv' := [(0, .ref 239), (1, .long x1), (3, .long x3), (5, .int (x5 + (1 : Int32)))]) rfl ?_
  exact hrec39 _ _ _ _ hq
def mxX7_looks_150 (N : Nat) (rec39 : Int64 → Int64 → Int32 → mS → Option mS) (rec67 : Int64 → Int64 → Int32 → Int32 → mS → Option mS) (x1 : Int64) (x3 : Int64) (x5 : Int32) (x6 : Int32) (h : mS) : Option mS :=
  rec67 x1 x3 x5 (x6 + (1 : Int32)) h
set_option maxHeartbeats 4000000 in
set_option maxRecDepth 100000 in
theorem emX7_looks_150 {N : Nat} {C : mh} (hC : C.length = 239) {rec39 : Int64 → Int64 → Int32 → mS → Option mS} {rec67 : Int64 → Int64 → Int32 → Int32 → mS → Option mS} (hrec39 : ∀ (x1 : Int64) (x3 : Int64) (x5 : Int32) (h : mS) {o : mS}, rec39 x1 x3 x5 h = some o → mB (gO mX7_looks (hM C o, none)) mX7_looks (39, [(0, .ref 239), (1, .long x1), (3, .long x3), (5, .int x5)], [], (hM C h), 0, 0)) (hrec67 : ∀ (x1 : Int64) (x3 : Int64) (x5 : Int32) (x6 : Int32) (h : mS) {o : mS}, rec67 x1 x3 x5 x6 h = some o → mB (gO mX7_looks (hM C o, none)) mX7_looks (67, [(0, .ref 239), (1, .long x1), (3, .long x3), (5, .int x5), (6, .int x6)], [], (hM C h), 0, 0)) (x1 : Int64) (x3 : Int64) (x5 : Int32) (x6 : Int32) (h : mS) {o : mS} (hq : mxX7_looks_150 N rec39 rec67 x1 x3 x5 x6 h = some o) : mB (gO mX7_looks (hM C o, none)) mX7_looks (150, [(0, .ref 239), (1, .long x1), (3, .long x3), (5, .int x5), (6, .int x6)], [], (hM C h), 0, 0) := by
  unfold mxX7_looks_150 at hq
  refine mB_run odX7_looks 2 (g := (67, [(6, .int (x6 + (1 : Int32))), (0, .ref 239), (1, .long x1), (3, .long x3), (5, .int x5)], [], (hM C h), 0, 0)) rfl ?_
  refine mB_lv [1, 2, 3, 4, 0] (lv' := [(0, .ref 239), (1, .long x1), (3, .long x3), (5, .int x5), (6, .int (x6 + (1 : Int32)))]) rfl ?_
  exact hrec67 _ _ _ _ _ hq
def mxX7_looks_67 (N : Nat) (rec39 : Int64 → Int64 → Int32 → mS → Option mS) : Nat → Int64 → Int64 → Int32 → Int32 → mS → Option mS
  | 0, _, _, _, _, _ => none
  | n + 1, x1, x3, x5, x6, h =>
    (rA h 46 (1 : Int32)).bind fun v22 =>
    if v22 ≤ x6 then (
      mxX7_looks_156 N rec39 x1 x3 x5 h) else (
      (mxX7_along N ((24 : Int32) + x6) h).bind fun o25 =>
      if o25.2 = x3 then (
        (rG o25.1 43 x5).bind fun v28 =>
        (rG o25.1 43 ((24 : Int32) + x6)).bind fun v30 =>
        (rG o25.1 44 x5).bind fun v32 =>
        (rG o25.1 44 ((24 : Int32) + x6)).bind fun v34 =>
        (rG o25.1 45 x5).bind fun v36 =>
        (rG o25.1 45 ((24 : Int32) + x6)).bind fun v38 =>
        (mxX7_heaps N (v28 + v30) (v32 + v34) (v36 + v38) o25.1).bind fun o40 =>
        mxX7_looks_150 N rec39 (mxX7_looks_67 N rec39 n) x1 x3 x5 x6 o40) else (
        mxX7_looks_150 N rec39 (mxX7_looks_67 N rec39 n) x1 x3 x5 x6 o25.1))
set_option maxHeartbeats 4000000 in
set_option maxRecDepth 100000 in
theorem emX7_looks_67 {N : Nat} {C : mh} (hC : C.length = 239) {rec39 : Int64 → Int64 → Int32 → mS → Option mS} (hrec39 : ∀ (x1 : Int64) (x3 : Int64) (x5 : Int32) (h : mS) {o : mS}, rec39 x1 x3 x5 h = some o → mB (gO mX7_looks (hM C o, none)) mX7_looks (39, [(0, .ref 239), (1, .long x1), (3, .long x3), (5, .int x5)], [], (hM C h), 0, 0)) : ∀ (n : Nat) (x1 : Int64) (x3 : Int64) (x5 : Int32) (x6 : Int32) (h : mS) {o : mS}, mxX7_looks_67 N rec39 n x1 x3 x5 x6 h = some o → mB (gO mX7_looks (hM C o, none)) mX7_looks (67, [(0, .ref 239), (1, .long x1), (3, .long x3), (5, .int x5), (6, .int x6)], [], (hM C h), 0, 0) := by
  intro n
  induction n with
  | zero => intro x1 x3 x5 x6 h o hq; cases hq
  | succ n ih =>
    intro x1 x3 x5 x6 h o hq
    unfold mxX7_looks_67 at hq
    refine mB_run odX7_looks 2 (g := (70, [(0, .ref 239), (1, .long x1), (3, .long x3), (5, .int x5), (6, .int x6)], [.ref 239, .int x6], (hM C h), 0, 0)) rfl ?_
    refine r_gR odX7_looks rfl rfl (md_46 hC) ?_
    refine mB_run odX7_looks 1 (g := (74, [(0, .ref 239), (1, .long x1), (3, .long x3), (5, .int x5), (6, .int x6)], [.int (1 : Int32), .ref 275, .int x6], (hM C h), 0, 0)) rfl ?_
    obtain ⟨v22, e23, hq⟩ := bsm hq
    refine r_aI odX7_looks rfl (ra_46 hC e23) ?_
    by_cases c24 : v22 ≤ x6
    · rw [if_pos c24] at hq
      refine ic_ge_T (t := 156) odX7_looks rfl rfl c24 ?_
      refine mB_lv [0, 1, 2, 3] (lv' := [(0, .ref 239), (1, .long x1), (3, .long x3), (5, .int x5)]) rfl ?_
      exact emX7_looks_156 hC hrec39 _ _ _ _ hq
    · rw [if_neg c24] at hq
      refine ic_ge_F (t := 156) odX7_looks rfl rfl c24 ?_
      refine mB_run odX7_looks 4 (g := (84, [(0, .ref 239), (1, .long x1), (3, .long x3), (5, .int x5), (6, .int x6)], [.int ((24 : Int32) + x6), .ref 239], (hM C h), 0, 0)) rfl ?_
      obtain ⟨o25, e26, hq⟩ := bsm hq
      refine mB_V (as := [.int ((24 : Int32) + x6)]) odX7_looks okX7_along lk_7_341 rfl (emX7_along hC e26) (kO_at (md_O hC)) rfl rfl rfl ?_
      show mB _ mX7_looks (87, [(0, .ref 239), (1, .long x1), (3, .long x3), (5, .int x5), (6, .int x6)], [.long o25.2], (hM C o25.1), 0, 0)
      refine mB_run odX7_looks 1 (g := (88, [(0, .ref 239), (1, .long x1), (3, .long x3), (5, .int x5), (6, .int x6)], [.long x3, .long o25.2], (hM C o25.1), 0, 0)) rfl ?_
      by_cases c27 : o25.2 = x3
      · rw [if_pos c27] at hq
        refine lc_ne_F (t := 150) odX7_looks rfl rfl rfl c27 ?_
        refine mB_run odX7_looks 2 (g := (94, [(0, .ref 239), (1, .long x1), (3, .long x3), (5, .int x5), (6, .int x6)], [.ref 239, .ref 239], (hM C o25.1), 0, 0)) rfl ?_
        refine r_gR odX7_looks rfl rfl (md_43 hC) ?_
        refine mB_run odX7_looks 1 (g := (99, [(0, .ref 239), (1, .long x1), (3, .long x3), (5, .int x5), (6, .int x6)], [.int x5, .ref 272, .ref 239], (hM C o25.1), 0, 0)) rfl ?_
        obtain ⟨v28, e29, hq⟩ := bsm hq
        refine r_aJ odX7_looks rfl (ra_43 hC e29) ?_
        refine mB_run odX7_looks 1 (g := (101, [(0, .ref 239), (1, .long x1), (3, .long x3), (5, .int x5), (6, .int x6)], [.ref 239, .long v28, .ref 239], (hM C o25.1), 0, 0)) rfl ?_
        refine r_gR odX7_looks rfl rfl (md_43 hC) ?_
        refine mB_run odX7_looks 3 (g := (109, [(0, .ref 239), (1, .long x1), (3, .long x3), (5, .int x5), (6, .int x6)], [.int ((24 : Int32) + x6), .ref 272, .long v28, .ref 239], (hM C o25.1), 0, 0)) rfl ?_
        obtain ⟨v30, e31, hq⟩ := bsm hq
        refine r_aJ odX7_looks rfl (ra_43 hC e31) ?_
        refine mB_run odX7_looks 2 (g := (112, [(0, .ref 239), (1, .long x1), (3, .long x3), (5, .int x5), (6, .int x6)], [.ref 239, .long (v28 + v30), .ref 239], (hM C o25.1), 0, 0)) rfl ?_
        refine r_gR odX7_looks rfl rfl (md_44 hC) ?_
        refine mB_run odX7_looks 1 (g := (117, [(0, .ref 239), (1, .long x1), (3, .long x3), (5, .int x5), (6, .int x6)], [.int x5, .ref 273, .long (v28 + v30), .ref 239], (hM C o25.1), 0, 0)) rfl ?_
        obtain ⟨v32, e33, hq⟩ := bsm hq
        refine r_aJ odX7_looks rfl (ra_44 hC e33) ?_
        refine mB_run odX7_looks 1 (g := (119, [(0, .ref 239), (1, .long x1), (3, .long x3), (5, .int x5), (6, .int x6)], [.ref 239, .long v32, .long (v28 + v30), .ref 239], (hM C o25.1), 0, 0)) rfl ?_
        refine r_gR odX7_looks rfl rfl (md_44 hC) ?_
        refine mB_run odX7_looks 3 (g := (127, [(0, .ref 239), (1, .long x1), (3, .long x3), (5, .int x5), (6, .int x6)], [.int ((24 : Int32) + x6), .ref 273, .long v32, .long (v28 + v30), .ref 239], (hM C o25.1), 0, 0)) rfl ?_
        obtain ⟨v34, e35, hq⟩ := bsm hq
        refine r_aJ odX7_looks rfl (ra_44 hC e35) ?_
        refine mB_run odX7_looks 2 (g := (130, [(0, .ref 239), (1, .long x1), (3, .long x3), (5, .int x5), (6, .int x6)], [.ref 239, .long (v32 + v34), .long (v28 + v30), .ref 239], (hM C o25.1), 0, 0)) rfl ?_
        refine r_gR odX7_looks rfl rfl (md_45 hC) ?_
        refine mB_run odX7_looks 1 (g := (135, [(0, .ref 239), (1, .long x1), (3, .long x3), (5, .int x5), (6, .int x6)], [.int x5, .ref 274, .long (v32 + v34), .long (v28 + v30), .ref 239], (hM C o25.1), 0, 0)) rfl ?_
        obtain ⟨v36, e37, hq⟩ := bsm hq
        refine r_aJ odX7_looks rfl (ra_45 hC e37) ?_
        refine mB_run odX7_looks 1 (g := (137, [(0, .ref 239), (1, .long x1), (3, .long x3), (5, .int x5), (6, .int x6)], [.ref 239, .long v36, .long (v32 + v34), .long (v28 + v30), .ref 239], (hM C o25.1), 0, 0)) rfl ?_
        refine r_gR odX7_looks rfl rfl (md_45 hC) ?_
        refine mB_run odX7_looks 3 (g := (145, [(0, .ref 239), (1, .long x1), (3, .long x3), (5, .int x5), (6, .int x6)], [.int ((24 : Int32) + x6), .ref 274, .long v36, .long (v32 + v34), .long (v28 + v30), .ref 239], (hM C o25.1), 0, 0)) rfl ?_
        obtain ⟨v38, e39, hq⟩ := bsm hq
        refine r_aJ odX7_looks rfl (ra_45 hC e39) ?_
        refine mB_run odX7_looks 1 (g := (147, [(0, .ref 239), (1, .long x1), (3, .long x3), (5, .int x5), (6, .int x6)], [.long (v36 + v38), .long (v32 + v34), .long (v28 + v30), .ref 239], (hM C o25.1), 0, 0)) rfl ?_
        obtain ⟨o40, e41, hq⟩ := bsm hq
        refine mB_V (as := [.long (v28 + v30), .long (v32 + v34), .long (v36 + v38)]) odX7_looks okX7_heaps lk_7_222 rfl (emX7_heaps hC e41) (kO_at (md_O hC)) rfl rfl rfl ?_
        show mB _ mX7_looks (150, [(0, .ref 239), (1, .long x1), (3, .long x3), (5, .int x5), (6, .int x6)], [], (hM C o40), 0, 0)
        refine mB_lv [0, 1, 2, 3, 4] (lv' := [(0, .ref 239), (1, .long x1), (3, .long x3), (5, .int x5), (6, .int x6)]) rfl ?_
        exact emX7_looks_150 hC hrec39 ih _ _ _ _ _ hq
      · rw [if_neg c27] at hq
        refine lc_ne_T (t := 150) odX7_looks rfl rfl rfl c27 ?_
        refine mB_lv [0, 1, 2, 3, 4] (lv' := [(0, .ref 239), (1, .long x1), (3, .long x3), (5, .int x5), (6, .int x6)]) rfl ?_
        exact emX7_looks_150 hC hrec39 ih _ _ _ _ _ hq
def mxX7_looks_261 (N : Nat) : Nat → Int32 → mS → Option mS
  | 0, _, _ => none
  | n + 1, x12, h =>
    if (h.1 23) ≤ x12 then (
      some h) else (
      if (h.1 54) = 0 then (
        (rA h 22 x12).bind fun v58 =>
        (rG h 16 v58).bind fun v60 =>
        (rA h 22 x12).bind fun v62 =>
        (rG h 17 v62).bind fun v64 =>
        (rA h 22 x12).bind fun v66 =>
        (rG h 18 v66).bind fun v68 =>
        (mxX7_finds N v60 v64 v68 h).bind fun o70 =>
        mxX7_looks_261 N n (x12 + (1 : Int32)) o70) else (
        some h))
set_option maxHeartbeats 4000000 in
set_option maxRecDepth 100000 in
theorem emX7_looks_261 {N : Nat} {C : mh} (hC : C.length = 239) : ∀ (n : Nat) (x12 : Int32) (h : mS) {o : mS}, mxX7_looks_261 N n x12 h = some o → mB (gO mX7_looks (hM C o, none)) mX7_looks (261, [(0, .ref 239), (12, .int x12)], [], (hM C h), 0, 0) := by
  intro n
  induction n with
  | zero => intro x12 h o hq; cases hq
  | succ n ih =>
    intro x12 h o hq
    unfold mxX7_looks_261 at hq
    refine mB_run odX7_looks 2 (g := (264, [(0, .ref 239), (12, .int x12)], [.ref 239, .int x12], (hM C h), 0, 0)) rfl ?_
    refine r_gI odX7_looks rfl rfl (md_23 hC) ?_
    by_cases c56 : (h.1 23) ≤ x12
    · rw [if_pos c56] at hq
      refine ic_ge_T (t := 323) odX7_looks rfl rfl c56 ?_
      cases hq
      exact mB_ret odX7_looks rfl
    · rw [if_neg c56] at hq
      refine ic_ge_F (t := 323) odX7_looks rfl rfl c56 ?_
      refine mB_run odX7_looks 1 (g := (271, [(0, .ref 239), (12, .int x12)], [.ref 239], (hM C h), 0, 0)) rfl ?_
      refine r_gI odX7_looks rfl rfl (md_54 hC) ?_
      by_cases c57 : (h.1 54) = 0
      · rw [if_pos c57] at hq
        refine if_ne_F (t := 323) odX7_looks rfl rfl c57 ?_
        refine mB_run odX7_looks 2 (g := (279, [(0, .ref 239), (12, .int x12)], [.ref 239, .ref 239], (hM C h), 0, 0)) rfl ?_
        refine r_gR odX7_looks rfl rfl (md_16 hC) ?_
        refine mB_run odX7_looks 1 (g := (283, [(0, .ref 239), (12, .int x12)], [.ref 239, .ref 254, .ref 239], (hM C h), 0, 0)) rfl ?_
        refine r_gR odX7_looks rfl rfl (md_22 hC) ?_
        refine mB_run odX7_looks 1 (g := (288, [(0, .ref 239), (12, .int x12)], [.int x12, .ref 259, .ref 254, .ref 239], (hM C h), 0, 0)) rfl ?_
        obtain ⟨v58, e59, hq⟩ := bsm hq
        refine r_aI odX7_looks rfl (ra_22 hC e59) ?_
        obtain ⟨v60, e61, hq⟩ := bsm hq
        refine r_aJ odX7_looks rfl (ra_16 hC e61) ?_
        refine mB_run odX7_looks 1 (g := (291, [(0, .ref 239), (12, .int x12)], [.ref 239, .long v60, .ref 239], (hM C h), 0, 0)) rfl ?_
        refine r_gR odX7_looks rfl rfl (md_17 hC) ?_
        refine mB_run odX7_looks 1 (g := (295, [(0, .ref 239), (12, .int x12)], [.ref 239, .ref 255, .long v60, .ref 239], (hM C h), 0, 0)) rfl ?_
        refine r_gR odX7_looks rfl rfl (md_22 hC) ?_
        refine mB_run odX7_looks 1 (g := (300, [(0, .ref 239), (12, .int x12)], [.int x12, .ref 259, .ref 255, .long v60, .ref 239], (hM C h), 0, 0)) rfl ?_
        obtain ⟨v62, e63, hq⟩ := bsm hq
        refine r_aI odX7_looks rfl (ra_22 hC e63) ?_
        obtain ⟨v64, e65, hq⟩ := bsm hq
        refine r_aJ odX7_looks rfl (ra_17 hC e65) ?_
        refine mB_run odX7_looks 1 (g := (303, [(0, .ref 239), (12, .int x12)], [.ref 239, .long v64, .long v60, .ref 239], (hM C h), 0, 0)) rfl ?_
        refine r_gR odX7_looks rfl rfl (md_18 hC) ?_
        refine mB_run odX7_looks 1 (g := (307, [(0, .ref 239), (12, .int x12)], [.ref 239, .ref 256, .long v64, .long v60, .ref 239], (hM C h), 0, 0)) rfl ?_
        refine r_gR odX7_looks rfl rfl (md_22 hC) ?_
        refine mB_run odX7_looks 1 (g := (312, [(0, .ref 239), (12, .int x12)], [.int x12, .ref 259, .ref 256, .long v64, .long v60, .ref 239], (hM C h), 0, 0)) rfl ?_
        obtain ⟨v66, e67, hq⟩ := bsm hq
        refine r_aI odX7_looks rfl (ra_22 hC e67) ?_
        obtain ⟨v68, e69, hq⟩ := bsm hq
        refine r_aJ odX7_looks rfl (ra_18 hC e69) ?_
        obtain ⟨o70, e71, hq⟩ := bsm hq
        refine mB_V (as := [.long v60, .long v64, .long v68]) odX7_looks okX7_finds lk_7_350 rfl (emX7_finds hC e71) (kO_at (md_O hC)) rfl rfl rfl ?_
        show mB _ mX7_looks (317, [(0, .ref 239), (12, .int x12)], [], (hM C o70), 0, 0)
        refine mB_run odX7_looks 2 (g := (261, [(12, .int (x12 + (1 : Int32))), (0, .ref 239)], [], (hM C o70), 0, 0)) rfl ?_
        refine mB_lv [1, 0] (lv' := [(0, .ref 239), (12, .int (x12 + (1 : Int32)))]) rfl ?_
        exact ih _ _ hq
      · rw [if_neg c57] at hq
        refine if_ne_T (t := 323) odX7_looks rfl rfl c57 ?_
        cases hq
        exact mB_ret odX7_looks rfl
def mxX7_looks_230 (N : Nat) : Nat → Int32 → mS → Option mS
  | 0, _, _ => none
  | n + 1, x12, h =>
    if (h.1 15) ≤ x12 then (
      (mxX7_rings N  h).bind fun o52 =>
      mxX7_looks_261 N N (0 : Int32) o52) else (
      (wA h 20 x12 x12).bind fun s54 =>
      mxX7_looks_230 N n (x12 + (1 : Int32)) s54)
set_option maxHeartbeats 4000000 in
set_option maxRecDepth 100000 in
theorem emX7_looks_230 {N : Nat} {C : mh} (hC : C.length = 239) : ∀ (n : Nat) (x12 : Int32) (h : mS) {o : mS}, mxX7_looks_230 N n x12 h = some o → mB (gO mX7_looks (hM C o, none)) mX7_looks (230, [(0, .ref 239), (12, .int x12)], [], (hM C h), 0, 0) := by
  intro n
  induction n with
  | zero => intro x12 h o hq; cases hq
  | succ n ih =>
    intro x12 h o hq
    unfold mxX7_looks_230 at hq
    refine mB_run odX7_looks 2 (g := (233, [(0, .ref 239), (12, .int x12)], [.ref 239, .int x12], (hM C h), 0, 0)) rfl ?_
    refine r_gI odX7_looks rfl rfl (md_15 hC) ?_
    by_cases c51 : (h.1 15) ≤ x12
    · rw [if_pos c51] at hq
      refine ic_ge_T (t := 254) odX7_looks rfl rfl c51 ?_
      refine mB_run odX7_looks 1 (g := (255, [(0, .ref 239), (12, .int x12)], [.ref 239], (hM C h), 0, 0)) rfl ?_
      obtain ⟨o52, e53, hq⟩ := bsm hq
      refine mB_V (as := []) odX7_looks okX7_rings lk_7_205 rfl (emX7_rings hC e53) (kO_at (md_O hC)) rfl rfl rfl ?_
      show mB _ mX7_looks (258, [(0, .ref 239), (12, .int x12)], [], (hM C o52), 0, 0)
      refine mB_run odX7_looks 2 (g := (261, [(12, .int (0 : Int32)), (0, .ref 239)], [], (hM C o52), 0, 0)) rfl ?_
      refine mB_lv [1, 0] (lv' := [(0, .ref 239), (12, .int (0 : Int32))]) rfl ?_
      exact emX7_looks_261 hC N _ _ hq
    · rw [if_neg c51] at hq
      refine ic_ge_F (t := 254) odX7_looks rfl rfl c51 ?_
      refine mB_run odX7_looks 1 (g := (240, [(0, .ref 239), (12, .int x12)], [.ref 239], (hM C h), 0, 0)) rfl ?_
      refine r_gR odX7_looks rfl rfl (md_20 hC) ?_
      refine mB_run odX7_looks 2 (g := (247, [(0, .ref 239), (12, .int x12)], [.int x12, .int x12, .ref 258], (hM C h), 0, 0)) rfl ?_
      obtain ⟨s54, e55, hq⟩ := bsm hq
      refine r_wI odX7_looks rfl (wa_20 hC e55) ?_
      refine mB_run odX7_looks 2 (g := (230, [(12, .int (x12 + (1 : Int32))), (0, .ref 239)], [], (hM C s54), 0, 0)) rfl ?_
      refine mB_lv [1, 0] (lv' := [(0, .ref 239), (12, .int (x12 + (1 : Int32)))]) rfl ?_
      exact ih _ _ hq
def mxX7_looks_193 (N : Nat) (x5 : Int64) (x7 : Int64) (x9 : Int64) (y0 : Int32) (h : mS) : Option mS :=
  (some (pJ h 24 x5)).bind fun s42 =>
  (some (pJ s42 25 x7)).bind fun s44 =>
  (some (pJ s44 26 x9)).bind fun s46 =>
  if y0 = 0 then (
    some s46) else (
    (some (pI s46 21 (s46.1 15))).bind fun s49 =>
    mxX7_looks_230 N N (0 : Int32) s49)
set_option maxHeartbeats 4000000 in
set_option maxRecDepth 100000 in
theorem emX7_looks_193 {N : Nat} {C : mh} (hC : C.length = 239) (x5 : Int64) (x7 : Int64) (x9 : Int64) (y0 : Int32) (h : mS) {o : mS} (hq : mxX7_looks_193 N x5 x7 x9 y0 h = some o) : mB (gO mX7_looks (hM C o, none)) mX7_looks (193, [(0, .ref 239), (5, .long x5), (7, .long x7), (9, .long x9)], [.int y0], (hM C h), 0, 0) := by
  unfold mxX7_looks_193 at hq
  refine mB_run odX7_looks 3 (g := (198, [(11, .int y0), (0, .ref 239), (5, .long x5), (7, .long x7), (9, .long x9)], [.long x5, .ref 239], (hM C h), 0, 0)) rfl ?_
  obtain ⟨s42, e43, hq⟩ := bsm hq
  refine r_sV odX7_looks rfl rfl rfl rfl (pt_24 hC e43) ?_
  refine mB_run odX7_looks 2 (g := (204, [(11, .int y0), (0, .ref 239), (5, .long x5), (7, .long x7), (9, .long x9)], [.long x7, .ref 239], (hM C s42), 0, 0)) rfl ?_
  obtain ⟨s44, e45, hq⟩ := bsm hq
  refine r_sV odX7_looks rfl rfl rfl rfl (pt_25 hC e45) ?_
  refine mB_run odX7_looks 2 (g := (210, [(11, .int y0), (0, .ref 239), (5, .long x5), (7, .long x7), (9, .long x9)], [.long x9, .ref 239], (hM C s44), 0, 0)) rfl ?_
  obtain ⟨s46, e47, hq⟩ := bsm hq
  refine r_sV odX7_looks rfl rfl rfl rfl (pt_26 hC e47) ?_
  refine mB_run odX7_looks 1 (g := (215, [(11, .int y0), (0, .ref 239), (5, .long x5), (7, .long x7), (9, .long x9)], [.int y0], (hM C s46), 0, 0)) rfl ?_
  by_cases c48 : y0 = 0
  · rw [if_pos c48] at hq
    refine if_ne_F (t := 219) odX7_looks rfl rfl c48 ?_
    cases hq
    exact mB_ret odX7_looks rfl
  · rw [if_neg c48] at hq
    refine if_ne_T (t := 219) odX7_looks rfl rfl c48 ?_
    refine mB_run odX7_looks 2 (g := (221, [(11, .int y0), (0, .ref 239), (5, .long x5), (7, .long x7), (9, .long x9)], [.ref 239, .ref 239], (hM C s46), 0, 0)) rfl ?_
    refine r_gI odX7_looks rfl rfl (md_15 hC) ?_
    obtain ⟨s49, e50, hq⟩ := bsm hq
    refine r_sV odX7_looks rfl rfl rfl rfl (pt_21 hC e50) ?_
    refine mB_run odX7_looks 2 (g := (230, [(12, .int (0 : Int32)), (11, .int y0), (0, .ref 239), (5, .long x5), (7, .long x7), (9, .long x9)], [], (hM C s49), 0, 0)) rfl ?_
    refine mB_lv [2, 0] (lv' := [(0, .ref 239), (12, .int (0 : Int32))]) rfl ?_
    exact emX7_looks_230 hC N _ _ hq
def mxX7_looks_39 (N : Nat) : Nat → Int64 → Int64 → Int32 → mS → Option mS
  | 0, _, _, _, _ => none
  | n + 1, x1, x3, x5, h =>
    (rA h 46 (0 : Int32)).bind fun v13 =>
    if v13 ≤ x5 then (
      (mxX7_kindOfHeap N  h).bind fun o16 =>
      if o16.2 = (3 : Int32) then (
        mxX7_looks_193 N (h.2.1 24) (h.2.1 25) (h.2.1 26) (1 : Int32) o16.1) else (
        mxX7_looks_193 N (h.2.1 24) (h.2.1 25) (h.2.1 26) (0 : Int32) o16.1)) else (
      (mxX7_along N x5 h).bind fun o19 =>
      if o19.2 = x1 then (
        mxX7_looks_67 N (mxX7_looks_39 N n) N x1 x3 x5 (0 : Int32) o19.1) else (
        mxX7_looks_156 N (mxX7_looks_39 N n) x1 x3 x5 o19.1))
set_option maxHeartbeats 4000000 in
set_option maxRecDepth 100000 in
theorem emX7_looks_39 {N : Nat} {C : mh} (hC : C.length = 239) : ∀ (n : Nat) (x1 : Int64) (x3 : Int64) (x5 : Int32) (h : mS) {o : mS}, mxX7_looks_39 N n x1 x3 x5 h = some o → mB (gO mX7_looks (hM C o, none)) mX7_looks (39, [(0, .ref 239), (1, .long x1), (3, .long x3), (5, .int x5)], [], (hM C h), 0, 0) := by
  intro n
  induction n with
  | zero => intro x1 x3 x5 h o hq; cases hq
  | succ n ih =>
    intro x1 x3 x5 h o hq
    unfold mxX7_looks_39 at hq
    refine mB_run odX7_looks 2 (g := (42, [(0, .ref 239), (1, .long x1), (3, .long x3), (5, .int x5)], [.ref 239, .int x5], (hM C h), 0, 0)) rfl ?_
    refine r_gR odX7_looks rfl rfl (md_46 hC) ?_
    refine mB_run odX7_looks 1 (g := (46, [(0, .ref 239), (1, .long x1), (3, .long x3), (5, .int x5)], [.int (0 : Int32), .ref 275, .int x5], (hM C h), 0, 0)) rfl ?_
    obtain ⟨v13, e14, hq⟩ := bsm hq
    refine r_aI odX7_looks rfl (ra_46 hC e14) ?_
    by_cases c15 : v13 ≤ x5
    · rw [if_pos c15] at hq
      refine ic_ge_T (t := 162) odX7_looks rfl rfl c15 ?_
      refine mB_run odX7_looks 1 (g := (163, [(0, .ref 239), (1, .long x1), (3, .long x3), (5, .int x5)], [.ref 239], (hM C h), 0, 0)) rfl ?_
      refine r_gJ odX7_looks rfl rfl (md_24 hC) ?_
      refine mB_run odX7_looks 2 (g := (169, [(5, .long (h.2.1 24)), (0, .ref 239), (1, .long x1), (3, .long x3)], [.ref 239], (hM C h), 0, 0)) rfl ?_
      refine r_gJ odX7_looks rfl rfl (md_25 hC) ?_
      refine mB_run odX7_looks 2 (g := (175, [(7, .long (h.2.1 25)), (5, .long (h.2.1 24)), (0, .ref 239), (1, .long x1), (3, .long x3)], [.ref 239], (hM C h), 0, 0)) rfl ?_
      refine r_gJ odX7_looks rfl rfl (md_26 hC) ?_
      refine mB_run odX7_looks 2 (g := (181, [(9, .long (h.2.1 26)), (7, .long (h.2.1 25)), (5, .long (h.2.1 24)), (0, .ref 239), (1, .long x1), (3, .long x3)], [.ref 239], (hM C h), 0, 0)) rfl ?_
      obtain ⟨o16, e17, hq⟩ := bsm hq
      refine mB_V (as := []) odX7_looks okX7_kindOfHeap lk_7_197 rfl (emX7_kindOfHeap hC e17) (kO_at (md_O hC)) rfl rfl rfl ?_
      show mB _ mX7_looks (184, [(9, .long (h.2.1 26)), (7, .long (h.2.1 25)), (5, .long (h.2.1 24)), (0, .ref 239), (1, .long x1), (3, .long x3)], [.int o16.2], (hM C o16.1), 0, 0)
      refine mB_run odX7_looks 1 (g := (185, [(9, .long (h.2.1 26)), (7, .long (h.2.1 25)), (5, .long (h.2.1 24)), (0, .ref 239), (1, .long x1), (3, .long x3)], [.int (3 : Int32), .int o16.2], (hM C o16.1), 0, 0)) rfl ?_
      by_cases c18 : o16.2 = (3 : Int32)
      · rw [if_pos c18] at hq
        refine ic_ne_F (t := 192) odX7_looks rfl rfl c18 ?_
        refine mB_run odX7_looks 2 (g := (193, [(9, .long (h.2.1 26)), (7, .long (h.2.1 25)), (5, .long (h.2.1 24)), (0, .ref 239), (1, .long x1), (3, .long x3)], [.int (1 : Int32)], (hM C o16.1), 0, 0)) rfl ?_
        refine mB_lv [3, 2, 1, 0] (lv' := [(0, .ref 239), (5, .long (h.2.1 24)), (7, .long (h.2.1 25)), (9, .long (h.2.1 26))]) rfl ?_
        exact emX7_looks_193 hC _ _ _ _ _ hq
      · rw [if_neg c18] at hq
        refine ic_ne_T (t := 192) odX7_looks rfl rfl c18 ?_
        refine mB_run odX7_looks 1 (g := (193, [(9, .long (h.2.1 26)), (7, .long (h.2.1 25)), (5, .long (h.2.1 24)), (0, .ref 239), (1, .long x1), (3, .long x3)], [.int (0 : Int32)], (hM C o16.1), 0, 0)) rfl ?_
        refine mB_lv [3, 2, 1, 0] (lv' := [(0, .ref 239), (5, .long (h.2.1 24)), (7, .long (h.2.1 25)), (9, .long (h.2.1 26))]) rfl ?_
        exact emX7_looks_193 hC _ _ _ _ _ hq
    · rw [if_neg c15] at hq
      refine ic_ge_F (t := 162) odX7_looks rfl rfl c15 ?_
      refine mB_run odX7_looks 2 (g := (53, [(0, .ref 239), (1, .long x1), (3, .long x3), (5, .int x5)], [.int x5, .ref 239], (hM C h), 0, 0)) rfl ?_
      obtain ⟨o19, e20, hq⟩ := bsm hq
      refine mB_V (as := [.int x5]) odX7_looks okX7_along lk_7_341 rfl (emX7_along hC e20) (kO_at (md_O hC)) rfl rfl rfl ?_
      show mB _ mX7_looks (56, [(0, .ref 239), (1, .long x1), (3, .long x3), (5, .int x5)], [.long o19.2], (hM C o19.1), 0, 0)
      refine mB_run odX7_looks 1 (g := (57, [(0, .ref 239), (1, .long x1), (3, .long x3), (5, .int x5)], [.long x1, .long o19.2], (hM C o19.1), 0, 0)) rfl ?_
      by_cases c21 : o19.2 = x1
      · rw [if_pos c21] at hq
        refine lc_eq_T (t := 64) odX7_looks rfl rfl rfl c21 ?_
        refine mB_run odX7_looks 2 (g := (67, [(6, .int (0 : Int32)), (0, .ref 239), (1, .long x1), (3, .long x3), (5, .int x5)], [], (hM C o19.1), 0, 0)) rfl ?_
        refine mB_lv [1, 2, 3, 4, 0] (lv' := [(0, .ref 239), (1, .long x1), (3, .long x3), (5, .int x5), (6, .int (0 : Int32))]) rfl ?_
        exact emX7_looks_67 hC ih N _ _ _ _ _ hq
      · rw [if_neg c21] at hq
        refine lc_eq_F (t := 64) odX7_looks rfl rfl rfl c21 ?_
        refine mB_run odX7_looks 1 (g := (156, [(0, .ref 239), (1, .long x1), (3, .long x3), (5, .int x5)], [], (hM C o19.1), 0, 0)) rfl ?_
        refine mB_lv [0, 1, 2, 3] (lv' := [(0, .ref 239), (1, .long x1), (3, .long x3), (5, .int x5)]) rfl ?_
        exact emX7_looks_156 hC ih _ _ _ _ hq
def mxX7_looks (N : Nat)  (h : mS) : Option mS :=
  (mxX7_isFlat N  h).bind fun o1 =>
  if o1.2 = 0 then (
    if (o1.1.1 54) = 0 then (
      (mxX7_plain N  o1.1).bind fun o5 =>
      (mxX7_highest N (0 : Int32) o5).bind fun o7 =>
      (mxX7_highest N (1 : Int32) o7.1).bind fun o9 =>
      (some (pI o9.1 15 (0 : Int32))).bind fun s11 =>
      mxX7_looks_39 N N o7.2 o9.2 (0 : Int32) s11) else (
      some o1.1)) else (
    some o1.1)
set_option maxHeartbeats 4000000 in
set_option maxRecDepth 100000 in
theorem emX7_looks {N : Nat} {C : mh} (hC : C.length = 239)  {h : mS} {o : mS} (hq : mxX7_looks N  h = some o) : mC mX7_looks [.ref 239] (hM C h) (hM C o, none) := by
  refine mC_of okX7_looks (Nat.le_of_ble_eq_true rfl) ?_
  unfold mxX7_looks at hq
  show mB _ mX7_looks (0, [(0, .ref 239)], [], (hM C h), 0, 0)
  refine mB_run odX7_looks 1 (g := (1, [(0, .ref 239)], [.ref 239], (hM C h), 0, 0)) rfl ?_
  obtain ⟨o1, e2, hq⟩ := bsm hq
  refine mB_V (as := []) odX7_looks okX7_isFlat lk_7_182 rfl (emX7_isFlat hC e2) (kO_at (md_O hC)) rfl rfl rfl ?_
  show mB _ mX7_looks (4, [(0, .ref 239)], [.int o1.2], (hM C o1.1), 0, 0)
  by_cases c3 : o1.2 = 0
  · rw [if_pos c3] at hq
    refine if_ne_F (t := 14) odX7_looks rfl rfl c3 ?_
    refine mB_run odX7_looks 1 (g := (8, [(0, .ref 239)], [.ref 239], (hM C o1.1), 0, 0)) rfl ?_
    refine r_gI odX7_looks rfl rfl (md_54 hC) ?_
    by_cases c4 : (o1.1.1 54) = 0
    · rw [if_pos c4] at hq
      refine if_eq_T (t := 15) odX7_looks rfl rfl c4 ?_
      refine mB_run odX7_looks 1 (g := (16, [(0, .ref 239)], [.ref 239], (hM C o1.1), 0, 0)) rfl ?_
      obtain ⟨o5, e6, hq⟩ := bsm hq
      refine mB_V (as := []) odX7_looks okX7_plain lk_7_186 rfl (emX7_plain hC e6) (kO_at (md_O hC)) rfl rfl rfl ?_
      show mB _ mX7_looks (19, [(0, .ref 239)], [], (hM C o5), 0, 0)
      refine mB_run odX7_looks 2 (g := (21, [(0, .ref 239)], [.int (0 : Int32), .ref 239], (hM C o5), 0, 0)) rfl ?_
      obtain ⟨o7, e8, hq⟩ := bsm hq
      refine mB_V (as := [.int (0 : Int32)]) odX7_looks okX7_highest lk_7_347 rfl (emX7_highest hC e8) (kO_at (md_O hC)) rfl rfl rfl ?_
      show mB _ mX7_looks (24, [(0, .ref 239)], [.long o7.2], (hM C o7.1), 0, 0)
      refine mB_run odX7_looks 3 (g := (27, [(1, .long o7.2), (0, .ref 239)], [.int (1 : Int32), .ref 239], (hM C o7.1), 0, 0)) rfl ?_
      obtain ⟨o9, e10, hq⟩ := bsm hq
      refine mB_V (as := [.int (1 : Int32)]) odX7_looks okX7_highest lk_7_347 rfl (emX7_highest hC e10) (kO_at (md_O hC)) rfl rfl rfl ?_
      show mB _ mX7_looks (30, [(1, .long o7.2), (0, .ref 239)], [.long o9.2], (hM C o9.1), 0, 0)
      refine mB_run odX7_looks 3 (g := (33, [(3, .long o9.2), (1, .long o7.2), (0, .ref 239)], [.int (0 : Int32), .ref 239], (hM C o9.1), 0, 0)) rfl ?_
      obtain ⟨s11, e12, hq⟩ := bsm hq
      refine r_sV odX7_looks rfl rfl rfl rfl (pt_15 hC e12) ?_
      refine mB_run odX7_looks 2 (g := (39, [(5, .int (0 : Int32)), (3, .long o9.2), (1, .long o7.2), (0, .ref 239)], [], (hM C s11), 0, 0)) rfl ?_
      refine mB_lv [3, 2, 1, 0] (lv' := [(0, .ref 239), (1, .long o7.2), (3, .long o9.2), (5, .int (0 : Int32))]) rfl ?_
      exact emX7_looks_39 hC N _ _ _ _ hq
    · rw [if_neg c4] at hq
      refine if_eq_F (t := 15) odX7_looks rfl rfl c4 ?_
      cases hq
      exact mB_ret odX7_looks rfl
  · rw [if_neg c3] at hq
    refine if_ne_T (t := 14) odX7_looks rfl rfl c3 ?_
    cases hq
    exact mB_ret odX7_looks rfl
def mxX7_looksBothWays (N : Nat)  (h : mS) : Option mS :=
  (mxX7_looks N  h).bind fun o1 =>
  (mxX7_turnsAbout N  o1).bind fun o3 =>
  (mxX7_looks N  o3).bind fun o5 =>
  some o5
set_option maxHeartbeats 4000000 in
set_option maxRecDepth 100000 in
theorem emX7_looksBothWays {N : Nat} {C : mh} (hC : C.length = 239)  {h : mS} {o : mS} (hq : mxX7_looksBothWays N  h = some o) : mC mX7_looksBothWays [.ref 239] (hM C h) (hM C o, none) := by
  refine mC_of okX7_looksBothWays (Nat.le_of_ble_eq_true rfl) ?_
  unfold mxX7_looksBothWays at hq
  show mB _ mX7_looksBothWays (0, [(0, .ref 239)], [], (hM C h), 0, 0)
  refine mB_run odX7_looksBothWays 1 (g := (1, [(0, .ref 239)], [.ref 239], (hM C h), 0, 0)) rfl ?_
  obtain ⟨o1, e2, hq⟩ := bsm hq
  refine mB_V (as := []) odX7_looksBothWays okX7_looks lk_7_356 rfl (emX7_looks hC e2) (kO_at (md_O hC)) rfl rfl rfl ?_
  show mB _ mX7_looksBothWays (4, [(0, .ref 239)], [], (hM C o1), 0, 0)
  refine mB_run odX7_looksBothWays 1 (g := (5, [(0, .ref 239)], [.ref 239], (hM C o1), 0, 0)) rfl ?_
  obtain ⟨o3, e4, hq⟩ := bsm hq
  refine mB_V (as := []) odX7_looksBothWays okX7_turnsAbout lk_7_212 rfl (emX7_turnsAbout hC e4) (kO_at (md_O hC)) rfl rfl rfl ?_
  show mB _ mX7_looksBothWays (8, [(0, .ref 239)], [], (hM C o3), 0, 0)
  refine mB_run odX7_looksBothWays 1 (g := (9, [(0, .ref 239)], [.ref 239], (hM C o3), 0, 0)) rfl ?_
  obtain ⟨o5, e6, hq⟩ := bsm hq
  refine mB_V (as := []) odX7_looksBothWays okX7_looks lk_7_356 rfl (emX7_looks hC e6) (kO_at (md_O hC)) rfl rfl rfl ?_
  show mB _ mX7_looksBothWays (12, [(0, .ref 239)], [], (hM C o5), 0, 0)
  cases hq
  exact mB_ret odX7_looksBothWays rfl
def mxX7_looksAll_22 (N : Nat) (rec12 : Int32 → mS → Option mS) : Nat → Int32 → Int32 → mS → Option mS
  | 0, _, _, _ => none
  | n + 1, x1, x2, h =>
    (rA h 27 x1).bind fun v6 =>
    if (((64 : Int32) * x1) + v6) ≤ x2 then (
      rec12 (x1 + (1 : Int32)) h) else (
      (rG h 28 x2).bind fun v9 =>
      (some (pJ h 24 v9)).bind fun s11 =>
      (rG s11 29 x2).bind fun v13 =>
      (some (pJ s11 25 v13)).bind fun s15 =>
      (rG s15 30 x2).bind fun v17 =>
      (some (pJ s15 26 v17)).bind fun s19 =>
      (mxX7_looks N  s19).bind fun o21 =>
      mxX7_looksAll_22 N rec12 n x1 (x2 + (1 : Int32)) o21)
set_option maxHeartbeats 4000000 in
set_option maxRecDepth 100000 in
theorem emX7_looksAll_22 {N : Nat} {C : mh} (hC : C.length = 239) {rec12 : Int32 → mS → Option mS} (hrec12 : ∀ (x1 : Int32) (h : mS) {o : mS}, rec12 x1 h = some o → mB (gO mX7_looksAll (hM C o, none)) mX7_looksAll (12, [(0, .ref 239), (1, .int x1)], [], (hM C h), 0, 0)) : ∀ (n : Nat) (x1 : Int32) (x2 : Int32) (h : mS) {o : mS}, mxX7_looksAll_22 N rec12 n x1 x2 h = some o → mB (gO mX7_looksAll (hM C o, none)) mX7_looksAll (22, [(0, .ref 239), (1, .int x1), (2, .int x2)], [], (hM C h), 0, 0) := by
  intro n
  induction n with
  | zero => intro x1 x2 h o hq; cases hq
  | succ n ih =>
    intro x1 x2 h o hq
    unfold mxX7_looksAll_22 at hq
    refine mB_run odX7_looksAll 5 (g := (28, [(0, .ref 239), (1, .int x1), (2, .int x2)], [.ref 239, .int ((64 : Int32) * x1), .int x2], (hM C h), 0, 0)) rfl ?_
    refine r_gR odX7_looksAll rfl rfl (md_27 hC) ?_
    refine mB_run odX7_looksAll 1 (g := (32, [(0, .ref 239), (1, .int x1), (2, .int x2)], [.int x1, .ref 260, .int ((64 : Int32) * x1), .int x2], (hM C h), 0, 0)) rfl ?_
    obtain ⟨v6, e7, hq⟩ := bsm hq
    refine r_aI odX7_looksAll rfl (ra_27 hC e7) ?_
    refine mB_run odX7_looksAll 1 (g := (34, [(0, .ref 239), (1, .int x1), (2, .int x2)], [.int (((64 : Int32) * x1) + v6), .int x2], (hM C h), 0, 0)) rfl ?_
    by_cases c8 : (((64 : Int32) * x1) + v6) ≤ x2
    · rw [if_pos c8] at hq
      refine ic_ge_T (t := 77) odX7_looksAll rfl rfl c8 ?_
      refine mB_run odX7_looksAll 2 (g := (12, [(1, .int (x1 + (1 : Int32))), (0, .ref 239), (2, .int x2)], [], (hM C h), 0, 0)) rfl ?_
      refine mB_lv [1, 0] (lv' := [(0, .ref 239), (1, .int (x1 + (1 : Int32)))]) rfl ?_
      exact hrec12 _ _ hq
    · rw [if_neg c8] at hq
      refine ic_ge_F (t := 77) odX7_looksAll rfl rfl c8 ?_
      refine mB_run odX7_looksAll 2 (g := (39, [(0, .ref 239), (1, .int x1), (2, .int x2)], [.ref 239, .ref 239], (hM C h), 0, 0)) rfl ?_
      refine r_gR odX7_looksAll rfl rfl (md_28 hC) ?_
      refine mB_run odX7_looksAll 1 (g := (43, [(0, .ref 239), (1, .int x1), (2, .int x2)], [.int x2, .ref 261, .ref 239], (hM C h), 0, 0)) rfl ?_
      obtain ⟨v9, e10, hq⟩ := bsm hq
      refine r_aJ odX7_looksAll rfl (ra_28 hC e10) ?_
      obtain ⟨s11, e12, hq⟩ := bsm hq
      refine r_sV odX7_looksAll rfl rfl rfl rfl (pt_24 hC e12) ?_
      refine mB_run odX7_looksAll 2 (g := (49, [(0, .ref 239), (1, .int x1), (2, .int x2)], [.ref 239, .ref 239], (hM C s11), 0, 0)) rfl ?_
      refine r_gR odX7_looksAll rfl rfl (md_29 hC) ?_
      refine mB_run odX7_looksAll 1 (g := (53, [(0, .ref 239), (1, .int x1), (2, .int x2)], [.int x2, .ref 262, .ref 239], (hM C s11), 0, 0)) rfl ?_
      obtain ⟨v13, e14, hq⟩ := bsm hq
      refine r_aJ odX7_looksAll rfl (ra_29 hC e14) ?_
      obtain ⟨s15, e16, hq⟩ := bsm hq
      refine r_sV odX7_looksAll rfl rfl rfl rfl (pt_25 hC e16) ?_
      refine mB_run odX7_looksAll 2 (g := (59, [(0, .ref 239), (1, .int x1), (2, .int x2)], [.ref 239, .ref 239], (hM C s15), 0, 0)) rfl ?_
      refine r_gR odX7_looksAll rfl rfl (md_30 hC) ?_
      refine mB_run odX7_looksAll 1 (g := (63, [(0, .ref 239), (1, .int x1), (2, .int x2)], [.int x2, .ref 263, .ref 239], (hM C s15), 0, 0)) rfl ?_
      obtain ⟨v17, e18, hq⟩ := bsm hq
      refine r_aJ odX7_looksAll rfl (ra_30 hC e18) ?_
      obtain ⟨s19, e20, hq⟩ := bsm hq
      refine r_sV odX7_looksAll rfl rfl rfl rfl (pt_26 hC e20) ?_
      refine mB_run odX7_looksAll 1 (g := (68, [(0, .ref 239), (1, .int x1), (2, .int x2)], [.ref 239], (hM C s19), 0, 0)) rfl ?_
      obtain ⟨o21, e22, hq⟩ := bsm hq
      refine mB_V (as := []) odX7_looksAll okX7_looks lk_7_356 rfl (emX7_looks hC e22) (kO_at (md_O hC)) rfl rfl rfl ?_
      show mB _ mX7_looksAll (71, [(0, .ref 239), (1, .int x1), (2, .int x2)], [], (hM C o21), 0, 0)
      refine mB_run odX7_looksAll 2 (g := (22, [(2, .int (x2 + (1 : Int32))), (0, .ref 239), (1, .int x1)], [], (hM C o21), 0, 0)) rfl ?_
      refine mB_lv [1, 2, 0] (lv' := [(0, .ref 239), (1, .int x1), (2, .int (x2 + (1 : Int32)))]) rfl ?_
      exact ih _ _ _ hq
def mxX7_looksAll_263 (N : Nat) (rec85 : Int32 → mS → Option mS) (x1 : Int32) (h : mS) : Option mS :=
  rec85 (x1 + (1 : Int32)) h
set_option maxHeartbeats 4000000 in
set_option maxRecDepth 100000 in
theorem emX7_looksAll_263 {N : Nat} {C : mh} (hC : C.length = 239) {rec85 : Int32 → mS → Option mS} (hrec85 : ∀ (x1 : Int32) (h : mS) {o : mS}, rec85 x1 h = some o → mB (gO mX7_looksAll (hM C o, none)) mX7_looksAll (85, [(0, .ref 239), (1, .int x1)], [], (hM C h), 0, 0)) (x1 : Int32) (h : mS) {o : mS} (hq : mxX7_looksAll_263 N rec85 x1 h = some o) : mB (gO mX7_looksAll (hM C o, none)) mX7_looksAll (263, [(0, .ref 239), (1, .int x1)], [], (hM C h), 0, 0) := by
  unfold mxX7_looksAll_263 at hq
  refine mB_run odX7_looksAll 2 (g := (85, [(1, .int (x1 + (1 : Int32))), (0, .ref 239)], [], (hM C h), 0, 0)) rfl ?_
  refine mB_lv [1, 0] (lv' := [(0, .ref 239), (1, .int (x1 + (1 : Int32)))]) rfl ?_
  exact hrec85 _ _ hq
def mxX7_looksAll_105 (N : Nat) (rec85 : Int32 → mS → Option mS) : Nat → Int32 → Int32 → mS → Option mS
  | 0, _, _, _ => none
  | n + 1, x1, x2, h =>
    (rA h 34 (1 : Int32)).bind fun v27 =>
    if ((80 : Int32) + v27) ≤ x2 then (
      mxX7_looksAll_263 N rec85 x1 h) else (
      if (h.1 54) = 0 then (
        (rA h 35 x1).bind fun v31 =>
        (rA h 36 x1).bind fun v33 =>
        (rA h 35 x2).bind fun v35 =>
        (rA h 36 x2).bind fun v37 =>
        (rG h 43 v33).bind fun v39 =>
        (rG h 43 v31).bind fun v41 =>
        (rG h 44 v33).bind fun v43 =>
        (rG h 44 v31).bind fun v45 =>
        (rG h 45 v33).bind fun v47 =>
        (rG h 45 v31).bind fun v49 =>
        (rG h 43 ((24 : Int32) + v37)).bind fun v51 =>
        (rG h 43 ((24 : Int32) + v35)).bind fun v53 =>
        (rG h 44 ((24 : Int32) + v37)).bind fun v55 =>
        (rG h 44 ((24 : Int32) + v35)).bind fun v57 =>
        (rG h 45 ((24 : Int32) + v37)).bind fun v59 =>
        (rG h 45 ((24 : Int32) + v35)).bind fun v61 =>
        (mxX7_crosses N (v39 - v41) (v43 - v45) (v47 - v49) (v51 - v53) (v55 - v57) (v59 - v61) h).bind fun o63 =>
        (mxX7_looksBothWays N  o63).bind fun o65 =>
        mxX7_looksAll_105 N rec85 n x1 (x2 + (1 : Int32)) o65) else (
        mxX7_looksAll_263 N rec85 x1 h))
set_option maxHeartbeats 4000000 in
set_option maxRecDepth 100000 in
theorem emX7_looksAll_105 {N : Nat} {C : mh} (hC : C.length = 239) {rec85 : Int32 → mS → Option mS} (hrec85 : ∀ (x1 : Int32) (h : mS) {o : mS}, rec85 x1 h = some o → mB (gO mX7_looksAll (hM C o, none)) mX7_looksAll (85, [(0, .ref 239), (1, .int x1)], [], (hM C h), 0, 0)) : ∀ (n : Nat) (x1 : Int32) (x2 : Int32) (h : mS) {o : mS}, mxX7_looksAll_105 N rec85 n x1 x2 h = some o → mB (gO mX7_looksAll (hM C o, none)) mX7_looksAll (105, [(0, .ref 239), (1, .int x1), (2, .int x2)], [], (hM C h), 0, 0) := by
  intro n
  induction n with
  | zero => intro x1 x2 h o hq; cases hq
  | succ n ih =>
    intro x1 x2 h o hq
    unfold mxX7_looksAll_105 at hq
    refine mB_run odX7_looksAll 3 (g := (109, [(0, .ref 239), (1, .int x1), (2, .int x2)], [.ref 239, .int (80 : Int32), .int x2], (hM C h), 0, 0)) rfl ?_
    refine r_gR odX7_looksAll rfl rfl (md_34 hC) ?_
    refine mB_run odX7_looksAll 1 (g := (113, [(0, .ref 239), (1, .int x1), (2, .int x2)], [.int (1 : Int32), .ref 267, .int (80 : Int32), .int x2], (hM C h), 0, 0)) rfl ?_
    obtain ⟨v27, e28, hq⟩ := bsm hq
    refine r_aI odX7_looksAll rfl (ra_34 hC e28) ?_
    refine mB_run odX7_looksAll 1 (g := (115, [(0, .ref 239), (1, .int x1), (2, .int x2)], [.int ((80 : Int32) + v27), .int x2], (hM C h), 0, 0)) rfl ?_
    by_cases c29 : ((80 : Int32) + v27) ≤ x2
    · rw [if_pos c29] at hq
      refine ic_ge_T (t := 263) odX7_looksAll rfl rfl c29 ?_
      refine mB_lv [0, 1] (lv' := [(0, .ref 239), (1, .int x1)]) rfl ?_
      exact emX7_looksAll_263 hC hrec85 _ _ hq
    · rw [if_neg c29] at hq
      refine ic_ge_F (t := 263) odX7_looksAll rfl rfl c29 ?_
      refine mB_run odX7_looksAll 1 (g := (119, [(0, .ref 239), (1, .int x1), (2, .int x2)], [.ref 239], (hM C h), 0, 0)) rfl ?_
      refine r_gI odX7_looksAll rfl rfl (md_54 hC) ?_
      by_cases c30 : (h.1 54) = 0
      · rw [if_pos c30] at hq
        refine if_ne_F (t := 263) odX7_looksAll rfl rfl c30 ?_
        refine mB_run odX7_looksAll 1 (g := (126, [(0, .ref 239), (1, .int x1), (2, .int x2)], [.ref 239], (hM C h), 0, 0)) rfl ?_
        refine r_gR odX7_looksAll rfl rfl (md_35 hC) ?_
        refine mB_run odX7_looksAll 1 (g := (130, [(0, .ref 239), (1, .int x1), (2, .int x2)], [.int x1, .ref 268], (hM C h), 0, 0)) rfl ?_
        obtain ⟨v31, e32, hq⟩ := bsm hq
        refine r_aI odX7_looksAll rfl (ra_35 hC e32) ?_
        refine mB_run odX7_looksAll 2 (g := (133, [(3, .int v31), (0, .ref 239), (1, .int x1), (2, .int x2)], [.ref 239], (hM C h), 0, 0)) rfl ?_
        refine r_gR odX7_looksAll rfl rfl (md_36 hC) ?_
        refine mB_run odX7_looksAll 1 (g := (137, [(3, .int v31), (0, .ref 239), (1, .int x1), (2, .int x2)], [.int x1, .ref 269], (hM C h), 0, 0)) rfl ?_
        obtain ⟨v33, e34, hq⟩ := bsm hq
        refine r_aI odX7_looksAll rfl (ra_36 hC e34) ?_
        refine mB_run odX7_looksAll 3 (g := (143, [(4, .int v33), (3, .int v31), (0, .ref 239), (1, .int x1), (2, .int x2)], [.ref 239, .int (24 : Int32)], (hM C h), 0, 0)) rfl ?_
        refine r_gR odX7_looksAll rfl rfl (md_35 hC) ?_
        refine mB_run odX7_looksAll 1 (g := (147, [(4, .int v33), (3, .int v31), (0, .ref 239), (1, .int x1), (2, .int x2)], [.int x2, .ref 268, .int (24 : Int32)], (hM C h), 0, 0)) rfl ?_
        obtain ⟨v35, e36, hq⟩ := bsm hq
        refine r_aI odX7_looksAll rfl (ra_35 hC e36) ?_
        refine mB_run odX7_looksAll 4 (g := (154, [(5, .int ((24 : Int32) + v35)), (4, .int v33), (3, .int v31), (0, .ref 239), (1, .int x1), (2, .int x2)], [.ref 239, .int (24 : Int32)], (hM C h), 0, 0)) rfl ?_
        refine r_gR odX7_looksAll rfl rfl (md_36 hC) ?_
        refine mB_run odX7_looksAll 1 (g := (158, [(5, .int ((24 : Int32) + v35)), (4, .int v33), (3, .int v31), (0, .ref 239), (1, .int x1), (2, .int x2)], [.int x2, .ref 269, .int (24 : Int32)], (hM C h), 0, 0)) rfl ?_
        obtain ⟨v37, e38, hq⟩ := bsm hq
        refine r_aI odX7_looksAll rfl (ra_36 hC e38) ?_
        refine mB_run odX7_looksAll 4 (g := (164, [(6, .int ((24 : Int32) + v37)), (5, .int ((24 : Int32) + v35)), (4, .int v33), (3, .int v31), (0, .ref 239), (1, .int x1), (2, .int x2)], [.ref 239, .ref 239], (hM C h), 0, 0)) rfl ?_
        refine r_gR odX7_looksAll rfl rfl (md_43 hC) ?_
        refine mB_run odX7_looksAll 1 (g := (169, [(6, .int ((24 : Int32) + v37)), (5, .int ((24 : Int32) + v35)), (4, .int v33), (3, .int v31), (0, .ref 239), (1, .int x1), (2, .int x2)], [.int v33, .ref 272, .ref 239], (hM C h), 0, 0)) rfl ?_
        obtain ⟨v39, e40, hq⟩ := bsm hq
        refine r_aJ odX7_looksAll rfl (ra_43 hC e40) ?_
        refine mB_run odX7_looksAll 1 (g := (171, [(6, .int ((24 : Int32) + v37)), (5, .int ((24 : Int32) + v35)), (4, .int v33), (3, .int v31), (0, .ref 239), (1, .int x1), (2, .int x2)], [.ref 239, .long v39, .ref 239], (hM C h), 0, 0)) rfl ?_
        refine r_gR odX7_looksAll rfl rfl (md_43 hC) ?_
        refine mB_run odX7_looksAll 1 (g := (175, [(6, .int ((24 : Int32) + v37)), (5, .int ((24 : Int32) + v35)), (4, .int v33), (3, .int v31), (0, .ref 239), (1, .int x1), (2, .int x2)], [.int v31, .ref 272, .long v39, .ref 239], (hM C h), 0, 0)) rfl ?_
        obtain ⟨v41, e42, hq⟩ := bsm hq
        refine r_aJ odX7_looksAll rfl (ra_43 hC e42) ?_
        refine mB_run odX7_looksAll 2 (g := (178, [(6, .int ((24 : Int32) + v37)), (5, .int ((24 : Int32) + v35)), (4, .int v33), (3, .int v31), (0, .ref 239), (1, .int x1), (2, .int x2)], [.ref 239, .long (v39 - v41), .ref 239], (hM C h), 0, 0)) rfl ?_
        refine r_gR odX7_looksAll rfl rfl (md_44 hC) ?_
        refine mB_run odX7_looksAll 1 (g := (183, [(6, .int ((24 : Int32) + v37)), (5, .int ((24 : Int32) + v35)), (4, .int v33), (3, .int v31), (0, .ref 239), (1, .int x1), (2, .int x2)], [.int v33, .ref 273, .long (v39 - v41), .ref 239], (hM C h), 0, 0)) rfl ?_
        obtain ⟨v43, e44, hq⟩ := bsm hq
        refine r_aJ odX7_looksAll rfl (ra_44 hC e44) ?_
        refine mB_run odX7_looksAll 1 (g := (185, [(6, .int ((24 : Int32) + v37)), (5, .int ((24 : Int32) + v35)), (4, .int v33), (3, .int v31), (0, .ref 239), (1, .int x1), (2, .int x2)], [.ref 239, .long v43, .long (v39 - v41), .ref 239], (hM C h), 0, 0)) rfl ?_
        refine r_gR odX7_looksAll rfl rfl (md_44 hC) ?_
        refine mB_run odX7_looksAll 1 (g := (189, [(6, .int ((24 : Int32) + v37)), (5, .int ((24 : Int32) + v35)), (4, .int v33), (3, .int v31), (0, .ref 239), (1, .int x1), (2, .int x2)], [.int v31, .ref 273, .long v43, .long (v39 - v41), .ref 239], (hM C h), 0, 0)) rfl ?_
        obtain ⟨v45, e46, hq⟩ := bsm hq
        refine r_aJ odX7_looksAll rfl (ra_44 hC e46) ?_
        refine mB_run odX7_looksAll 2 (g := (192, [(6, .int ((24 : Int32) + v37)), (5, .int ((24 : Int32) + v35)), (4, .int v33), (3, .int v31), (0, .ref 239), (1, .int x1), (2, .int x2)], [.ref 239, .long (v43 - v45), .long (v39 - v41), .ref 239], (hM C h), 0, 0)) rfl ?_
        refine r_gR odX7_looksAll rfl rfl (md_45 hC) ?_
        refine mB_run odX7_looksAll 1 (g := (197, [(6, .int ((24 : Int32) + v37)), (5, .int ((24 : Int32) + v35)), (4, .int v33), (3, .int v31), (0, .ref 239), (1, .int x1), (2, .int x2)], [.int v33, .ref 274, .long (v43 - v45), .long (v39 - v41), .ref 239], (hM C h), 0, 0)) rfl ?_
        obtain ⟨v47, e48, hq⟩ := bsm hq
        refine r_aJ odX7_looksAll rfl (ra_45 hC e48) ?_
        refine mB_run odX7_looksAll 1 (g := (199, [(6, .int ((24 : Int32) + v37)), (5, .int ((24 : Int32) + v35)), (4, .int v33), (3, .int v31), (0, .ref 239), (1, .int x1), (2, .int x2)], [.ref 239, .long v47, .long (v43 - v45), .long (v39 - v41), .ref 239], (hM C h), 0, 0)) rfl ?_
        refine r_gR odX7_looksAll rfl rfl (md_45 hC) ?_
        refine mB_run odX7_looksAll 1 (g := (203, [(6, .int ((24 : Int32) + v37)), (5, .int ((24 : Int32) + v35)), (4, .int v33), (3, .int v31), (0, .ref 239), (1, .int x1), (2, .int x2)], [.int v31, .ref 274, .long v47, .long (v43 - v45), .long (v39 - v41), .ref 239], (hM C h), 0, 0)) rfl ?_
        obtain ⟨v49, e50, hq⟩ := bsm hq
        refine r_aJ odX7_looksAll rfl (ra_45 hC e50) ?_
        refine mB_run odX7_looksAll 2 (g := (206, [(6, .int ((24 : Int32) + v37)), (5, .int ((24 : Int32) + v35)), (4, .int v33), (3, .int v31), (0, .ref 239), (1, .int x1), (2, .int x2)], [.ref 239, .long (v47 - v49), .long (v43 - v45), .long (v39 - v41), .ref 239], (hM C h), 0, 0)) rfl ?_
        refine r_gR odX7_looksAll rfl rfl (md_43 hC) ?_
        refine mB_run odX7_looksAll 1 (g := (211, [(6, .int ((24 : Int32) + v37)), (5, .int ((24 : Int32) + v35)), (4, .int v33), (3, .int v31), (0, .ref 239), (1, .int x1), (2, .int x2)], [.int ((24 : Int32) + v37), .ref 272, .long (v47 - v49), .long (v43 - v45), .long (v39 - v41), .ref 239], (hM C h), 0, 0)) rfl ?_
        obtain ⟨v51, e52, hq⟩ := bsm hq
        refine r_aJ odX7_looksAll rfl (ra_43 hC e52) ?_
        refine mB_run odX7_looksAll 1 (g := (213, [(6, .int ((24 : Int32) + v37)), (5, .int ((24 : Int32) + v35)), (4, .int v33), (3, .int v31), (0, .ref 239), (1, .int x1), (2, .int x2)], [.ref 239, .long v51, .long (v47 - v49), .long (v43 - v45), .long (v39 - v41), .ref 239], (hM C h), 0, 0)) rfl ?_
        refine r_gR odX7_looksAll rfl rfl (md_43 hC) ?_
        refine mB_run odX7_looksAll 1 (g := (218, [(6, .int ((24 : Int32) + v37)), (5, .int ((24 : Int32) + v35)), (4, .int v33), (3, .int v31), (0, .ref 239), (1, .int x1), (2, .int x2)], [.int ((24 : Int32) + v35), .ref 272, .long v51, .long (v47 - v49), .long (v43 - v45), .long (v39 - v41), .ref 239], (hM C h), 0, 0)) rfl ?_
        obtain ⟨v53, e54, hq⟩ := bsm hq
        refine r_aJ odX7_looksAll rfl (ra_43 hC e54) ?_
        refine mB_run odX7_looksAll 2 (g := (221, [(6, .int ((24 : Int32) + v37)), (5, .int ((24 : Int32) + v35)), (4, .int v33), (3, .int v31), (0, .ref 239), (1, .int x1), (2, .int x2)], [.ref 239, .long (v51 - v53), .long (v47 - v49), .long (v43 - v45), .long (v39 - v41), .ref 239], (hM C h), 0, 0)) rfl ?_
        refine r_gR odX7_looksAll rfl rfl (md_44 hC) ?_
        refine mB_run odX7_looksAll 1 (g := (226, [(6, .int ((24 : Int32) + v37)), (5, .int ((24 : Int32) + v35)), (4, .int v33), (3, .int v31), (0, .ref 239), (1, .int x1), (2, .int x2)], [.int ((24 : Int32) + v37), .ref 273, .long (v51 - v53), .long (v47 - v49), .long (v43 - v45), .long (v39 - v41), .ref 239], (hM C h), 0, 0)) rfl ?_
        obtain ⟨v55, e56, hq⟩ := bsm hq
        refine r_aJ odX7_looksAll rfl (ra_44 hC e56) ?_
        refine mB_run odX7_looksAll 1 (g := (228, [(6, .int ((24 : Int32) + v37)), (5, .int ((24 : Int32) + v35)), (4, .int v33), (3, .int v31), (0, .ref 239), (1, .int x1), (2, .int x2)], [.ref 239, .long v55, .long (v51 - v53), .long (v47 - v49), .long (v43 - v45), .long (v39 - v41), .ref 239], (hM C h), 0, 0)) rfl ?_
        refine r_gR odX7_looksAll rfl rfl (md_44 hC) ?_
        refine mB_run odX7_looksAll 1 (g := (233, [(6, .int ((24 : Int32) + v37)), (5, .int ((24 : Int32) + v35)), (4, .int v33), (3, .int v31), (0, .ref 239), (1, .int x1), (2, .int x2)], [.int ((24 : Int32) + v35), .ref 273, .long v55, .long (v51 - v53), .long (v47 - v49), .long (v43 - v45), .long (v39 - v41), .ref 239], (hM C h), 0, 0)) rfl ?_
        obtain ⟨v57, e58, hq⟩ := bsm hq
        refine r_aJ odX7_looksAll rfl (ra_44 hC e58) ?_
        refine mB_run odX7_looksAll 2 (g := (236, [(6, .int ((24 : Int32) + v37)), (5, .int ((24 : Int32) + v35)), (4, .int v33), (3, .int v31), (0, .ref 239), (1, .int x1), (2, .int x2)], [.ref 239, .long (v55 - v57), .long (v51 - v53), .long (v47 - v49), .long (v43 - v45), .long (v39 - v41), .ref 239], (hM C h), 0, 0)) rfl ?_
        refine r_gR odX7_looksAll rfl rfl (md_45 hC) ?_
        refine mB_run odX7_looksAll 1 (g := (241, [(6, .int ((24 : Int32) + v37)), (5, .int ((24 : Int32) + v35)), (4, .int v33), (3, .int v31), (0, .ref 239), (1, .int x1), (2, .int x2)], [.int ((24 : Int32) + v37), .ref 274, .long (v55 - v57), .long (v51 - v53), .long (v47 - v49), .long (v43 - v45), .long (v39 - v41), .ref 239], (hM C h), 0, 0)) rfl ?_
        obtain ⟨v59, e60, hq⟩ := bsm hq
        refine r_aJ odX7_looksAll rfl (ra_45 hC e60) ?_
        refine mB_run odX7_looksAll 1 (g := (243, [(6, .int ((24 : Int32) + v37)), (5, .int ((24 : Int32) + v35)), (4, .int v33), (3, .int v31), (0, .ref 239), (1, .int x1), (2, .int x2)], [.ref 239, .long v59, .long (v55 - v57), .long (v51 - v53), .long (v47 - v49), .long (v43 - v45), .long (v39 - v41), .ref 239], (hM C h), 0, 0)) rfl ?_
        refine r_gR odX7_looksAll rfl rfl (md_45 hC) ?_
        refine mB_run odX7_looksAll 1 (g := (248, [(6, .int ((24 : Int32) + v37)), (5, .int ((24 : Int32) + v35)), (4, .int v33), (3, .int v31), (0, .ref 239), (1, .int x1), (2, .int x2)], [.int ((24 : Int32) + v35), .ref 274, .long v59, .long (v55 - v57), .long (v51 - v53), .long (v47 - v49), .long (v43 - v45), .long (v39 - v41), .ref 239], (hM C h), 0, 0)) rfl ?_
        obtain ⟨v61, e62, hq⟩ := bsm hq
        refine r_aJ odX7_looksAll rfl (ra_45 hC e62) ?_
        refine mB_run odX7_looksAll 1 (g := (250, [(6, .int ((24 : Int32) + v37)), (5, .int ((24 : Int32) + v35)), (4, .int v33), (3, .int v31), (0, .ref 239), (1, .int x1), (2, .int x2)], [.long (v59 - v61), .long (v55 - v57), .long (v51 - v53), .long (v47 - v49), .long (v43 - v45), .long (v39 - v41), .ref 239], (hM C h), 0, 0)) rfl ?_
        obtain ⟨o63, e64, hq⟩ := bsm hq
        refine mB_V (as := [.long (v39 - v41), .long (v43 - v45), .long (v47 - v49), .long (v51 - v53), .long (v55 - v57), .long (v59 - v61)]) odX7_looksAll okX7_crosses lk_7_334 rfl (emX7_crosses hC e64) (kO_at (md_O hC)) rfl rfl rfl ?_
        show mB _ mX7_looksAll (253, [(6, .int ((24 : Int32) + v37)), (5, .int ((24 : Int32) + v35)), (4, .int v33), (3, .int v31), (0, .ref 239), (1, .int x1), (2, .int x2)], [], (hM C o63), 0, 0)
        refine mB_run odX7_looksAll 1 (g := (254, [(6, .int ((24 : Int32) + v37)), (5, .int ((24 : Int32) + v35)), (4, .int v33), (3, .int v31), (0, .ref 239), (1, .int x1), (2, .int x2)], [.ref 239], (hM C o63), 0, 0)) rfl ?_
        obtain ⟨o65, e66, hq⟩ := bsm hq
        refine mB_V (as := []) odX7_looksAll okX7_looksBothWays lk_7_359 rfl (emX7_looksBothWays hC e66) (kO_at (md_O hC)) rfl rfl rfl ?_
        show mB _ mX7_looksAll (257, [(6, .int ((24 : Int32) + v37)), (5, .int ((24 : Int32) + v35)), (4, .int v33), (3, .int v31), (0, .ref 239), (1, .int x1), (2, .int x2)], [], (hM C o65), 0, 0)
        refine mB_run odX7_looksAll 2 (g := (105, [(2, .int (x2 + (1 : Int32))), (6, .int ((24 : Int32) + v37)), (5, .int ((24 : Int32) + v35)), (4, .int v33), (3, .int v31), (0, .ref 239), (1, .int x1)], [], (hM C o65), 0, 0)) rfl ?_
        refine mB_lv [5, 6, 0] (lv' := [(0, .ref 239), (1, .int x1), (2, .int (x2 + (1 : Int32)))]) rfl ?_
        exact ih _ _ _ hq
      · rw [if_neg c30] at hq
        refine if_ne_T (t := 263) odX7_looksAll rfl rfl c30 ?_
        refine mB_lv [0, 1] (lv' := [(0, .ref 239), (1, .int x1)]) rfl ?_
        exact emX7_looksAll_263 hC hrec85 _ _ hq
def mxX7_looksAll_85 (N : Nat) : Nat → Int32 → mS → Option mS
  | 0, _, _ => none
  | n + 1, x1, h =>
    (rA h 34 (0 : Int32)).bind fun v23 =>
    if v23 ≤ x1 then (
      some h) else (
      if (h.1 54) = 0 then (
        mxX7_looksAll_105 N (mxX7_looksAll_85 N n) N x1 (80 : Int32) h) else (
        some h))
set_option maxHeartbeats 4000000 in
set_option maxRecDepth 100000 in
theorem emX7_looksAll_85 {N : Nat} {C : mh} (hC : C.length = 239) : ∀ (n : Nat) (x1 : Int32) (h : mS) {o : mS}, mxX7_looksAll_85 N n x1 h = some o → mB (gO mX7_looksAll (hM C o, none)) mX7_looksAll (85, [(0, .ref 239), (1, .int x1)], [], (hM C h), 0, 0) := by
  intro n
  induction n with
  | zero => intro x1 h o hq; cases hq
  | succ n ih =>
    intro x1 h o hq
    unfold mxX7_looksAll_85 at hq
    refine mB_run odX7_looksAll 2 (g := (87, [(0, .ref 239), (1, .int x1)], [.ref 239, .int x1], (hM C h), 0, 0)) rfl ?_
    refine r_gR odX7_looksAll rfl rfl (md_34 hC) ?_
    refine mB_run odX7_looksAll 1 (g := (91, [(0, .ref 239), (1, .int x1)], [.int (0 : Int32), .ref 267, .int x1], (hM C h), 0, 0)) rfl ?_
    obtain ⟨v23, e24, hq⟩ := bsm hq
    refine r_aI odX7_looksAll rfl (ra_34 hC e24) ?_
    by_cases c25 : v23 ≤ x1
    · rw [if_pos c25] at hq
      refine ic_ge_T (t := 269) odX7_looksAll rfl rfl c25 ?_
      cases hq
      exact mB_ret odX7_looksAll rfl
    · rw [if_neg c25] at hq
      refine ic_ge_F (t := 269) odX7_looksAll rfl rfl c25 ?_
      refine mB_run odX7_looksAll 1 (g := (96, [(0, .ref 239), (1, .int x1)], [.ref 239], (hM C h), 0, 0)) rfl ?_
      refine r_gI odX7_looksAll rfl rfl (md_54 hC) ?_
      by_cases c26 : (h.1 54) = 0
      · rw [if_pos c26] at hq
        refine if_ne_F (t := 269) odX7_looksAll rfl rfl c26 ?_
        refine mB_run odX7_looksAll 2 (g := (105, [(2, .int (80 : Int32)), (0, .ref 239), (1, .int x1)], [], (hM C h), 0, 0)) rfl ?_
        refine mB_lv [1, 2, 0] (lv' := [(0, .ref 239), (1, .int x1), (2, .int (80 : Int32))]) rfl ?_
        exact emX7_looksAll_105 hC ih N _ _ _ hq
      · rw [if_neg c26] at hq
        refine if_ne_T (t := 269) odX7_looksAll rfl rfl c26 ?_
        cases hq
        exact mB_ret odX7_looksAll rfl
def mxX7_looksAll_12 (N : Nat) : Nat → Int32 → mS → Option mS
  | 0, _, _ => none
  | n + 1, x1, h =>
    if (2 : Int32) ≤ x1 then (
      mxX7_looksAll_85 N N (0 : Int32) h) else (
      mxX7_looksAll_22 N (mxX7_looksAll_12 N n) N x1 ((64 : Int32) * x1) h)
set_option maxHeartbeats 4000000 in
set_option maxRecDepth 100000 in
theorem emX7_looksAll_12 {N : Nat} {C : mh} (hC : C.length = 239) : ∀ (n : Nat) (x1 : Int32) (h : mS) {o : mS}, mxX7_looksAll_12 N n x1 h = some o → mB (gO mX7_looksAll (hM C o, none)) mX7_looksAll (12, [(0, .ref 239), (1, .int x1)], [], (hM C h), 0, 0) := by
  intro n
  induction n with
  | zero => intro x1 h o hq; cases hq
  | succ n ih =>
    intro x1 h o hq
    unfold mxX7_looksAll_12 at hq
    refine mB_run odX7_looksAll 2 (g := (14, [(0, .ref 239), (1, .int x1)], [.int (2 : Int32), .int x1], (hM C h), 0, 0)) rfl ?_
    by_cases c5 : (2 : Int32) ≤ x1
    · rw [if_pos c5] at hq
      refine ic_ge_T (t := 83) odX7_looksAll rfl rfl c5 ?_
      refine mB_run odX7_looksAll 2 (g := (85, [(1, .int (0 : Int32)), (0, .ref 239)], [], (hM C h), 0, 0)) rfl ?_
      refine mB_lv [1, 0] (lv' := [(0, .ref 239), (1, .int (0 : Int32))]) rfl ?_
      exact emX7_looksAll_85 hC N _ _ hq
    · rw [if_neg c5] at hq
      refine ic_ge_F (t := 83) odX7_looksAll rfl rfl c5 ?_
      refine mB_run odX7_looksAll 4 (g := (22, [(2, .int ((64 : Int32) * x1)), (0, .ref 239), (1, .int x1)], [], (hM C h), 0, 0)) rfl ?_
      refine mB_lv [1, 2, 0] (lv' := [(0, .ref 239), (1, .int x1), (2, .int ((64 : Int32) * x1))]) rfl ?_
      exact emX7_looksAll_22 hC ih N _ _ _ hq
def mxX7_looksAll (N : Nat)  (h : mS) : Option mS :=
  (some (pI h 55 (0 : Int32))).bind fun s1 =>
  (some (pI s1 54 (0 : Int32))).bind fun s3 =>
  mxX7_looksAll_12 N N (0 : Int32) s3
set_option maxHeartbeats 4000000 in
set_option maxRecDepth 100000 in
theorem emX7_looksAll {N : Nat} {C : mh} (hC : C.length = 239)  {h : mS} {o : mS} (hq : mxX7_looksAll N  h = some o) : mC mX7_looksAll [.ref 239] (hM C h) (hM C o, none) := by
  refine mC_of okX7_looksAll (Nat.le_of_ble_eq_true rfl) ?_
  unfold mxX7_looksAll at hq
  show mB _ mX7_looksAll (0, [(0, .ref 239)], [], (hM C h), 0, 0)
  refine mB_run odX7_looksAll 2 (g := (2, [(0, .ref 239)], [.int (0 : Int32), .ref 239], (hM C h), 0, 0)) rfl ?_
  obtain ⟨s1, e2, hq⟩ := bsm hq
  refine r_sV odX7_looksAll rfl rfl rfl rfl (pt_55 hC e2) ?_
  refine mB_run odX7_looksAll 2 (g := (7, [(0, .ref 239)], [.int (0 : Int32), .ref 239], (hM C s1), 0, 0)) rfl ?_
  obtain ⟨s3, e4, hq⟩ := bsm hq
  refine r_sV odX7_looksAll rfl rfl rfl rfl (pt_54 hC e4) ?_
  refine mB_run odX7_looksAll 2 (g := (12, [(1, .int (0 : Int32)), (0, .ref 239)], [], (hM C s3), 0, 0)) rfl ?_
  refine mB_lv [1, 0] (lv' := [(0, .ref 239), (1, .int (0 : Int32))]) rfl ?_
  exact emX7_looksAll_12 hC N _ _ hq
def mxX7_sum_57 (N : Nat) (rec43 : Int32 → Int32 → mS → Option (mS × Int32)) : Nat → Int32 → Int32 → Int32 → mS → Option (mS × Int32)
  | 0, _, _, _, _ => none
  | n + 1, x3, x4, x5, h =>
    (rA h 46 (1 : Int32)).bind fun v29 =>
    if v29 ≤ x5 then (
      rec43 x3 (x4 + (1 : Int32)) h) else (
      (rG h 43 x4).bind fun v32 =>
      (rG h 43 ((24 : Int32) + x5)).bind fun v34 =>
      (rG h 44 x4).bind fun v36 =>
      (rG h 44 ((24 : Int32) + x5)).bind fun v38 =>
      (rG h 45 x4).bind fun v40 =>
      (rG h 45 ((24 : Int32) + x5)).bind fun v42 =>
      (mxX7_heaps N (v32 + v34) (v36 + v38) (v40 + v42) h).bind fun o44 =>
      mxX7_sum_57 N rec43 n x3 x4 (x5 + (1 : Int32)) o44)
set_option maxHeartbeats 4000000 in
set_option maxRecDepth 100000 in
theorem emX7_sum_57 {N : Nat} {C : mh} (hC : C.length = 239) {rec43 : Int32 → Int32 → mS → Option (mS × Int32)} (hrec43 : ∀ (x3 : Int32) (x4 : Int32) (h : mS) {o : (mS × Int32)}, rec43 x3 x4 h = some o → mB (gO mX7_sum (hM C o.1, some (.int o.2))) mX7_sum (43, [(0, .ref 239), (3, .int x3), (4, .int x4)], [], (hM C h), 0, 0)) : ∀ (n : Nat) (x3 : Int32) (x4 : Int32) (x5 : Int32) (h : mS) {o : (mS × Int32)}, mxX7_sum_57 N rec43 n x3 x4 x5 h = some o → mB (gO mX7_sum (hM C o.1, some (.int o.2))) mX7_sum (57, [(0, .ref 239), (3, .int x3), (4, .int x4), (5, .int x5)], [], (hM C h), 0, 0) := by
  intro n
  induction n with
  | zero => intro x3 x4 x5 h o hq; cases hq
  | succ n ih =>
    intro x3 x4 x5 h o hq
    unfold mxX7_sum_57 at hq
    refine mB_run odX7_sum 2 (g := (60, [(0, .ref 239), (3, .int x3), (4, .int x4), (5, .int x5)], [.ref 239, .int x5], (hM C h), 0, 0)) rfl ?_
    refine r_gR odX7_sum rfl rfl (md_46 hC) ?_
    refine mB_run odX7_sum 1 (g := (64, [(0, .ref 239), (3, .int x3), (4, .int x4), (5, .int x5)], [.int (1 : Int32), .ref 275, .int x5], (hM C h), 0, 0)) rfl ?_
    obtain ⟨v29, e30, hq⟩ := bsm hq
    refine r_aI odX7_sum rfl (ra_46 hC e30) ?_
    by_cases c31 : v29 ≤ x5
    · rw [if_pos c31] at hq
      refine ic_ge_T (t := 132) odX7_sum rfl rfl c31 ?_
      refine mB_run odX7_sum 2 (g := (43, [(4, .int (x4 + (1 : Int32))), (0, .ref 239), (3, .int x3), (5, .int x5)], [], (hM C h), 0, 0)) rfl ?_
      refine mB_lv [1, 2, 0] (lv' := [(0, .ref 239), (3, .int x3), (4, .int (x4 + (1 : Int32)))]) rfl ?_
      exact hrec43 _ _ _ hq
    · rw [if_neg c31] at hq
      refine ic_ge_F (t := 132) odX7_sum rfl rfl c31 ?_
      refine mB_run odX7_sum 2 (g := (70, [(0, .ref 239), (3, .int x3), (4, .int x4), (5, .int x5)], [.ref 239, .ref 239], (hM C h), 0, 0)) rfl ?_
      refine r_gR odX7_sum rfl rfl (md_43 hC) ?_
      refine mB_run odX7_sum 1 (g := (75, [(0, .ref 239), (3, .int x3), (4, .int x4), (5, .int x5)], [.int x4, .ref 272, .ref 239], (hM C h), 0, 0)) rfl ?_
      obtain ⟨v32, e33, hq⟩ := bsm hq
      refine r_aJ odX7_sum rfl (ra_43 hC e33) ?_
      refine mB_run odX7_sum 1 (g := (77, [(0, .ref 239), (3, .int x3), (4, .int x4), (5, .int x5)], [.ref 239, .long v32, .ref 239], (hM C h), 0, 0)) rfl ?_
      refine r_gR odX7_sum rfl rfl (md_43 hC) ?_
      refine mB_run odX7_sum 3 (g := (85, [(0, .ref 239), (3, .int x3), (4, .int x4), (5, .int x5)], [.int ((24 : Int32) + x5), .ref 272, .long v32, .ref 239], (hM C h), 0, 0)) rfl ?_
      obtain ⟨v34, e35, hq⟩ := bsm hq
      refine r_aJ odX7_sum rfl (ra_43 hC e35) ?_
      refine mB_run odX7_sum 2 (g := (88, [(0, .ref 239), (3, .int x3), (4, .int x4), (5, .int x5)], [.ref 239, .long (v32 + v34), .ref 239], (hM C h), 0, 0)) rfl ?_
      refine r_gR odX7_sum rfl rfl (md_44 hC) ?_
      refine mB_run odX7_sum 1 (g := (93, [(0, .ref 239), (3, .int x3), (4, .int x4), (5, .int x5)], [.int x4, .ref 273, .long (v32 + v34), .ref 239], (hM C h), 0, 0)) rfl ?_
      obtain ⟨v36, e37, hq⟩ := bsm hq
      refine r_aJ odX7_sum rfl (ra_44 hC e37) ?_
      refine mB_run odX7_sum 1 (g := (95, [(0, .ref 239), (3, .int x3), (4, .int x4), (5, .int x5)], [.ref 239, .long v36, .long (v32 + v34), .ref 239], (hM C h), 0, 0)) rfl ?_
      refine r_gR odX7_sum rfl rfl (md_44 hC) ?_
      refine mB_run odX7_sum 3 (g := (103, [(0, .ref 239), (3, .int x3), (4, .int x4), (5, .int x5)], [.int ((24 : Int32) + x5), .ref 273, .long v36, .long (v32 + v34), .ref 239], (hM C h), 0, 0)) rfl ?_
      obtain ⟨v38, e39, hq⟩ := bsm hq
      refine r_aJ odX7_sum rfl (ra_44 hC e39) ?_
      refine mB_run odX7_sum 2 (g := (106, [(0, .ref 239), (3, .int x3), (4, .int x4), (5, .int x5)], [.ref 239, .long (v36 + v38), .long (v32 + v34), .ref 239], (hM C h), 0, 0)) rfl ?_
      refine r_gR odX7_sum rfl rfl (md_45 hC) ?_
      refine mB_run odX7_sum 1 (g := (111, [(0, .ref 239), (3, .int x3), (4, .int x4), (5, .int x5)], [.int x4, .ref 274, .long (v36 + v38), .long (v32 + v34), .ref 239], (hM C h), 0, 0)) rfl ?_
      obtain ⟨v40, e41, hq⟩ := bsm hq
      refine r_aJ odX7_sum rfl (ra_45 hC e41) ?_
      refine mB_run odX7_sum 1 (g := (113, [(0, .ref 239), (3, .int x3), (4, .int x4), (5, .int x5)], [.ref 239, .long v40, .long (v36 + v38), .long (v32 + v34), .ref 239], (hM C h), 0, 0)) rfl ?_
      refine r_gR odX7_sum rfl rfl (md_45 hC) ?_
      refine mB_run odX7_sum 3 (g := (121, [(0, .ref 239), (3, .int x3), (4, .int x4), (5, .int x5)], [.int ((24 : Int32) + x5), .ref 274, .long v40, .long (v36 + v38), .long (v32 + v34), .ref 239], (hM C h), 0, 0)) rfl ?_
      obtain ⟨v42, e43, hq⟩ := bsm hq
      refine r_aJ odX7_sum rfl (ra_45 hC e43) ?_
      refine mB_run odX7_sum 1 (g := (123, [(0, .ref 239), (3, .int x3), (4, .int x4), (5, .int x5)], [.long (v40 + v42), .long (v36 + v38), .long (v32 + v34), .ref 239], (hM C h), 0, 0)) rfl ?_
      obtain ⟨o44, e45, hq⟩ := bsm hq
      refine mB_V (as := [.long (v32 + v34), .long (v36 + v38), .long (v40 + v42)]) odX7_sum okX7_heaps lk_7_222 rfl (emX7_heaps hC e45) (kO_at (md_O hC)) rfl rfl rfl ?_
      show mB _ mX7_sum (126, [(0, .ref 239), (3, .int x3), (4, .int x4), (5, .int x5)], [], (hM C o44), 0, 0)
      refine mB_run odX7_sum 2 (g := (57, [(5, .int (x5 + (1 : Int32))), (0, .ref 239), (3, .int x3), (4, .int x4)], [], (hM C o44), 0, 0)) rfl ?_
      refine mB_lv [1, 2, 3, 0] (lv' := [(0, .ref 239), (3, .int x3), (4, .int x4), (5, .int (x5 + (1 : Int32)))]) rfl ?_
      exact ih _ _ _ _ hq
def mxX7_sum_247 (N : Nat) (x3 : Int32) (x4 : Int32) (h : mS) : Option (mS × Int32) :=
  (mxX7_becomes N x3 x4 h).bind fun o46 =>
  if o46.2 = 0 then (
    some (o46.1, (-2 : Int32))) else (
    some (o46.1, x4))
set_option maxHeartbeats 4000000 in
set_option maxRecDepth 100000 in
theorem emX7_sum_247 {N : Nat} {C : mh} (hC : C.length = 239) (x3 : Int32) (x4 : Int32) (h : mS) {o : (mS × Int32)} (hq : mxX7_sum_247 N x3 x4 h = some o) : mB (gO mX7_sum (hM C o.1, some (.int o.2))) mX7_sum (247, [(0, .ref 239), (3, .int x3), (4, .int x4)], [], (hM C h), 0, 0) := by
  unfold mxX7_sum_247 at hq
  refine mB_run odX7_sum 3 (g := (251, [(0, .ref 239), (3, .int x3), (4, .int x4)], [.int x4, .int x3, .ref 239], (hM C h), 0, 0)) rfl ?_
  obtain ⟨o46, e47, hq⟩ := bsm hq
  refine mB_V (as := [.int x3, .int x4]) odX7_sum okX7_becomes lk_7_240 rfl (emX7_becomes hC e47) (kO_at (md_O hC)) rfl rfl rfl ?_
  show mB _ mX7_sum (254, [(0, .ref 239), (3, .int x3), (4, .int x4)], [.int o46.2], (hM C o46.1), 0, 0)
  by_cases c48 : o46.2 = 0
  · rw [if_pos c48] at hq
    refine if_eq_T (t := 262) odX7_sum rfl rfl c48 ?_
    refine mB_run odX7_sum 1 (g := (264, [(0, .ref 239), (3, .int x3), (4, .int x4)], [.int (-2 : Int32)], (hM C o46.1), 0, 0)) rfl ?_
    cases hq
    exact mB_ret odX7_sum rfl
  · rw [if_neg c48] at hq
    refine if_eq_F (t := 262) odX7_sum rfl rfl c48 ?_
    refine mB_run odX7_sum 2 (g := (264, [(0, .ref 239), (3, .int x3), (4, .int x4)], [.int x4], (hM C o46.1), 0, 0)) rfl ?_
    cases hq
    exact mB_ret odX7_sum rfl
def mxX7_sum_215 (N : Nat) : Nat → Int32 → Int32 → Int32 → mS → Option (mS × Int32)
  | 0, _, _, _, _ => none
  | n + 1, x3, x4, x5, h =>
    if (h.1 15) ≤ x5 then (
      mxX7_sum_247 N x3 x4 h) else (
      (wB h 19 x5 (1 : Int32)).bind fun s59 =>
      mxX7_sum_215 N n x3 x4 (x5 + (1 : Int32)) s59)
set_option maxHeartbeats 4000000 in
set_option maxRecDepth 100000 in
theorem emX7_sum_215 {N : Nat} {C : mh} (hC : C.length = 239) : ∀ (n : Nat) (x3 : Int32) (x4 : Int32) (x5 : Int32) (h : mS) {o : (mS × Int32)}, mxX7_sum_215 N n x3 x4 x5 h = some o → mB (gO mX7_sum (hM C o.1, some (.int o.2))) mX7_sum (215, [(0, .ref 239), (3, .int x3), (4, .int x4), (5, .int x5)], [], (hM C h), 0, 0) := by
  intro n
  induction n with
  | zero => intro x3 x4 x5 h o hq; cases hq
  | succ n ih =>
    intro x3 x4 x5 h o hq
    unfold mxX7_sum_215 at hq
    refine mB_run odX7_sum 2 (g := (218, [(0, .ref 239), (3, .int x3), (4, .int x4), (5, .int x5)], [.ref 239, .int x5], (hM C h), 0, 0)) rfl ?_
    refine r_gI odX7_sum rfl rfl (md_15 hC) ?_
    by_cases c58 : (h.1 15) ≤ x5
    · rw [if_pos c58] at hq
      refine ic_ge_T (t := 238) odX7_sum rfl rfl c58 ?_
      refine mB_run odX7_sum 1 (g := (247, [(0, .ref 239), (3, .int x3), (4, .int x4), (5, .int x5)], [], (hM C h), 0, 0)) rfl ?_
      refine mB_lv [0, 1, 2] (lv' := [(0, .ref 239), (3, .int x3), (4, .int x4)]) rfl ?_
      exact emX7_sum_247 hC _ _ _ hq
    · rw [if_neg c58] at hq
      refine ic_ge_F (t := 238) odX7_sum rfl rfl c58 ?_
      refine mB_run odX7_sum 1 (g := (225, [(0, .ref 239), (3, .int x3), (4, .int x4), (5, .int x5)], [.ref 239], (hM C h), 0, 0)) rfl ?_
      refine r_gR odX7_sum rfl rfl (md_19 hC) ?_
      refine mB_run odX7_sum 2 (g := (231, [(0, .ref 239), (3, .int x3), (4, .int x4), (5, .int x5)], [.int (1 : Int32), .int x5, .ref 257], (hM C h), 0, 0)) rfl ?_
      obtain ⟨s59, e60, hq⟩ := bsm hq
      refine r_wZ odX7_sum rfl (wa_19 hC e60) ?_
      refine mB_run odX7_sum 2 (g := (215, [(5, .int (x5 + (1 : Int32))), (0, .ref 239), (3, .int x3), (4, .int x4)], [], (hM C s59), 0, 0)) rfl ?_
      refine mB_lv [1, 2, 3, 0] (lv' := [(0, .ref 239), (3, .int x3), (4, .int x4), (5, .int (x5 + (1 : Int32)))]) rfl ?_
      exact ih _ _ _ _ hq
def mxX7_sum_172 (N : Nat) : Nat → Int32 → Int32 → Int32 → mS → Option (mS × Int32)
  | 0, _, _, _, _ => none
  | n + 1, x3, x4, x5, h =>
    if (h.1 55) ≤ x5 then (
      mxX7_sum_215 N N x3 x4 (0 : Int32) h) else (
      (rG h 56 x5).bind fun v50 =>
      (rG h 57 x5).bind fun v52 =>
      (rG h 58 x5).bind fun v54 =>
      (mxX7_heaps N v50 v52 v54 h).bind fun o56 =>
      mxX7_sum_172 N n x3 x4 (x5 + (1 : Int32)) o56)
set_option maxHeartbeats 4000000 in
set_option maxRecDepth 100000 in
theorem emX7_sum_172 {N : Nat} {C : mh} (hC : C.length = 239) : ∀ (n : Nat) (x3 : Int32) (x4 : Int32) (x5 : Int32) (h : mS) {o : (mS × Int32)}, mxX7_sum_172 N n x3 x4 x5 h = some o → mB (gO mX7_sum (hM C o.1, some (.int o.2))) mX7_sum (172, [(0, .ref 239), (3, .int x3), (4, .int x4), (5, .int x5)], [], (hM C h), 0, 0) := by
  intro n
  induction n with
  | zero => intro x3 x4 x5 h o hq; cases hq
  | succ n ih =>
    intro x3 x4 x5 h o hq
    unfold mxX7_sum_172 at hq
    refine mB_run odX7_sum 2 (g := (175, [(0, .ref 239), (3, .int x3), (4, .int x4), (5, .int x5)], [.ref 239, .int x5], (hM C h), 0, 0)) rfl ?_
    refine r_gI odX7_sum rfl rfl (md_55 hC) ?_
    by_cases c49 : (h.1 55) ≤ x5
    · rw [if_pos c49] at hq
      refine ic_ge_T (t := 212) odX7_sum rfl rfl c49 ?_
      refine mB_run odX7_sum 2 (g := (215, [(5, .int (0 : Int32)), (0, .ref 239), (3, .int x3), (4, .int x4)], [], (hM C h), 0, 0)) rfl ?_
      refine mB_lv [1, 2, 3, 0] (lv' := [(0, .ref 239), (3, .int x3), (4, .int x4), (5, .int (0 : Int32))]) rfl ?_
      exact emX7_sum_215 hC N _ _ _ _ hq
    · rw [if_neg c49] at hq
      refine ic_ge_F (t := 212) odX7_sum rfl rfl c49 ?_
      refine mB_run odX7_sum 2 (g := (183, [(0, .ref 239), (3, .int x3), (4, .int x4), (5, .int x5)], [.ref 239, .ref 239], (hM C h), 0, 0)) rfl ?_
      refine r_gR odX7_sum rfl rfl (md_56 hC) ?_
      refine mB_run odX7_sum 1 (g := (188, [(0, .ref 239), (3, .int x3), (4, .int x4), (5, .int x5)], [.int x5, .ref 276, .ref 239], (hM C h), 0, 0)) rfl ?_
      obtain ⟨v50, e51, hq⟩ := bsm hq
      refine r_aJ odX7_sum rfl (ra_56 hC e51) ?_
      refine mB_run odX7_sum 1 (g := (190, [(0, .ref 239), (3, .int x3), (4, .int x4), (5, .int x5)], [.ref 239, .long v50, .ref 239], (hM C h), 0, 0)) rfl ?_
      refine r_gR odX7_sum rfl rfl (md_57 hC) ?_
      refine mB_run odX7_sum 1 (g := (195, [(0, .ref 239), (3, .int x3), (4, .int x4), (5, .int x5)], [.int x5, .ref 277, .long v50, .ref 239], (hM C h), 0, 0)) rfl ?_
      obtain ⟨v52, e53, hq⟩ := bsm hq
      refine r_aJ odX7_sum rfl (ra_57 hC e53) ?_
      refine mB_run odX7_sum 1 (g := (197, [(0, .ref 239), (3, .int x3), (4, .int x4), (5, .int x5)], [.ref 239, .long v52, .long v50, .ref 239], (hM C h), 0, 0)) rfl ?_
      refine r_gR odX7_sum rfl rfl (md_58 hC) ?_
      refine mB_run odX7_sum 1 (g := (202, [(0, .ref 239), (3, .int x3), (4, .int x4), (5, .int x5)], [.int x5, .ref 278, .long v52, .long v50, .ref 239], (hM C h), 0, 0)) rfl ?_
      obtain ⟨v54, e55, hq⟩ := bsm hq
      refine r_aJ odX7_sum rfl (ra_58 hC e55) ?_
      obtain ⟨o56, e57, hq⟩ := bsm hq
      refine mB_V (as := [.long v50, .long v52, .long v54]) odX7_sum okX7_heaps lk_7_222 rfl (emX7_heaps hC e57) (kO_at (md_O hC)) rfl rfl rfl ?_
      show mB _ mX7_sum (206, [(0, .ref 239), (3, .int x3), (4, .int x4), (5, .int x5)], [], (hM C o56), 0, 0)
      refine mB_run odX7_sum 2 (g := (172, [(5, .int (x5 + (1 : Int32))), (0, .ref 239), (3, .int x3), (4, .int x4)], [], (hM C o56), 0, 0)) rfl ?_
      refine mB_lv [1, 2, 3, 0] (lv' := [(0, .ref 239), (3, .int x3), (4, .int x4), (5, .int (x5 + (1 : Int32)))]) rfl ?_
      exact ih _ _ _ _ hq
def mxX7_sum_43 (N : Nat) : Nat → Int32 → Int32 → mS → Option (mS × Int32)
  | 0, _, _, _ => none
  | n + 1, x3, x4, h =>
    (rA h 46 (0 : Int32)).bind fun v16 =>
    if v16 ≤ x4 then (
      (mxX7_kindOfHeap N  h).bind fun o19 =>
      if o19.2 = (4 : Int32) then (
        (mxX7_looksAll N  o19.1).bind fun o22 =>
        if (o22.1 54) = 0 then (
          (some (pI o22 15 (0 : Int32))).bind fun s25 =>
          mxX7_sum_172 N N x3 o19.2 (0 : Int32) s25) else (
          some (o22, (-2 : Int32)))) else (
        (mxX7_hulls N (0 : Int32) o19.1).bind fun o27 =>
        mxX7_sum_247 N x3 o19.2 o27.1)) else (
      mxX7_sum_57 N (mxX7_sum_43 N n) N x3 x4 (0 : Int32) h)
set_option maxHeartbeats 4000000 in
set_option maxRecDepth 100000 in
theorem emX7_sum_43 {N : Nat} {C : mh} (hC : C.length = 239) : ∀ (n : Nat) (x3 : Int32) (x4 : Int32) (h : mS) {o : (mS × Int32)}, mxX7_sum_43 N n x3 x4 h = some o → mB (gO mX7_sum (hM C o.1, some (.int o.2))) mX7_sum (43, [(0, .ref 239), (3, .int x3), (4, .int x4)], [], (hM C h), 0, 0) := by
  intro n
  induction n with
  | zero => intro x3 x4 h o hq; cases hq
  | succ n ih =>
    intro x3 x4 h o hq
    unfold mxX7_sum_43 at hq
    refine mB_run odX7_sum 2 (g := (46, [(0, .ref 239), (3, .int x3), (4, .int x4)], [.ref 239, .int x4], (hM C h), 0, 0)) rfl ?_
    refine r_gR odX7_sum rfl rfl (md_46 hC) ?_
    refine mB_run odX7_sum 1 (g := (50, [(0, .ref 239), (3, .int x3), (4, .int x4)], [.int (0 : Int32), .ref 275, .int x4], (hM C h), 0, 0)) rfl ?_
    obtain ⟨v16, e17, hq⟩ := bsm hq
    refine r_aI odX7_sum rfl (ra_46 hC e17) ?_
    by_cases c18 : v16 ≤ x4
    · rw [if_pos c18] at hq
      refine ic_ge_T (t := 138) odX7_sum rfl rfl c18 ?_
      refine mB_run odX7_sum 1 (g := (139, [(0, .ref 239), (3, .int x3), (4, .int x4)], [.ref 239], (hM C h), 0, 0)) rfl ?_
      obtain ⟨o19, e20, hq⟩ := bsm hq
      refine mB_V (as := []) odX7_sum okX7_kindOfHeap lk_7_197 rfl (emX7_kindOfHeap hC e20) (kO_at (md_O hC)) rfl rfl rfl ?_
      show mB _ mX7_sum (142, [(0, .ref 239), (3, .int x3), (4, .int x4)], [.int o19.2], (hM C o19.1), 0, 0)
      refine mB_run odX7_sum 3 (g := (147, [(4, .int o19.2), (0, .ref 239), (3, .int x3)], [.int (4 : Int32), .int o19.2], (hM C o19.1), 0, 0)) rfl ?_
      by_cases c21 : o19.2 = (4 : Int32)
      · rw [if_pos c21] at hq
        refine ic_ne_F (t := 241) odX7_sum rfl rfl c21 ?_
        refine mB_run odX7_sum 1 (g := (151, [(4, .int o19.2), (0, .ref 239), (3, .int x3)], [.ref 239], (hM C o19.1), 0, 0)) rfl ?_
        obtain ⟨o22, e23, hq⟩ := bsm hq
        refine mB_V (as := []) odX7_sum okX7_looksAll lk_7_362 rfl (emX7_looksAll hC e23) (kO_at (md_O hC)) rfl rfl rfl ?_
        show mB _ mX7_sum (154, [(4, .int o19.2), (0, .ref 239), (3, .int x3)], [], (hM C o22), 0, 0)
        refine mB_run odX7_sum 1 (g := (155, [(4, .int o19.2), (0, .ref 239), (3, .int x3)], [.ref 239], (hM C o22), 0, 0)) rfl ?_
        refine r_gI odX7_sum rfl rfl (md_54 hC) ?_
        by_cases c24 : (o22.1 54) = 0
        · rw [if_pos c24] at hq
          refine if_eq_T (t := 164) odX7_sum rfl rfl c24 ?_
          refine mB_run odX7_sum 2 (g := (166, [(4, .int o19.2), (0, .ref 239), (3, .int x3)], [.int (0 : Int32), .ref 239], (hM C o22), 0, 0)) rfl ?_
          obtain ⟨s25, e26, hq⟩ := bsm hq
          refine r_sV odX7_sum rfl rfl rfl rfl (pt_15 hC e26) ?_
          refine mB_run odX7_sum 2 (g := (172, [(5, .int (0 : Int32)), (4, .int o19.2), (0, .ref 239), (3, .int x3)], [], (hM C s25), 0, 0)) rfl ?_
          refine mB_lv [2, 3, 1, 0] (lv' := [(0, .ref 239), (3, .int x3), (4, .int o19.2), (5, .int (0 : Int32))]) rfl ?_
          exact emX7_sum_172 hC N _ _ _ _ hq
        · rw [if_neg c24] at hq
          refine if_eq_F (t := 164) odX7_sum rfl rfl c24 ?_
          refine mB_run odX7_sum 1 (g := (163, [(4, .int o19.2), (0, .ref 239), (3, .int x3)], [.int (-2 : Int32)], (hM C o22), 0, 0)) rfl ?_
          cases hq
          exact mB_ret odX7_sum rfl
      · rw [if_neg c21] at hq
        refine ic_ne_T (t := 241) odX7_sum rfl rfl c21 ?_
        refine mB_run odX7_sum 2 (g := (243, [(4, .int o19.2), (0, .ref 239), (3, .int x3)], [.int (0 : Int32), .ref 239], (hM C o19.1), 0, 0)) rfl ?_
        obtain ⟨o27, e28, hq⟩ := bsm hq
        refine mB_V (as := [.int (0 : Int32)]) odX7_sum okX7_hulls lk_7_229 rfl (emX7_hulls hC e28) (kO_at (md_O hC)) rfl rfl rfl ?_
        show mB _ mX7_sum (246, [(4, .int o19.2), (0, .ref 239), (3, .int x3)], [.int o27.2], (hM C o27.1), 0, 0)
        refine mB_run odX7_sum 1 (g := (247, [(4, .int o19.2), (0, .ref 239), (3, .int x3)], [], (hM C o27.1), 0, 0)) rfl ?_
        refine mB_lv [1, 2, 0] (lv' := [(0, .ref 239), (3, .int x3), (4, .int o19.2)]) rfl ?_
        exact emX7_sum_247 hC _ _ _ hq
    · rw [if_neg c18] at hq
      refine ic_ge_F (t := 138) odX7_sum rfl rfl c18 ?_
      refine mB_run odX7_sum 2 (g := (57, [(5, .int (0 : Int32)), (0, .ref 239), (3, .int x3), (4, .int x4)], [], (hM C h), 0, 0)) rfl ?_
      refine mB_lv [1, 2, 3, 0] (lv' := [(0, .ref 239), (3, .int x3), (4, .int x4), (5, .int (0 : Int32))]) rfl ?_
      exact emX7_sum_57 hC ih N _ _ _ _ hq
def mxX7_sum (N : Nat) (p1 : Int32) (p2 : Int32) (p3 : Int32) (h : mS) : Option (mS × Int32) :=
  (mxX7_isSolid N p1 h).bind fun o1 =>
  if o1.2 = 0 then (
    some (o1.1, (-1 : Int32))) else (
    (mxX7_isSolid N p2 o1.1).bind fun o4 =>
    if o4.2 = 0 then (
      some (o4.1, (-1 : Int32))) else (
      (mxX7_isSolid N p3 o4.1).bind fun o7 =>
      if o7.2 = 0 then (
        some (o7.1, (-1 : Int32))) else (
        (mxX7_owns N p1 (0 : Int32) o7.1).bind fun o10 =>
        (mxX7_owns N p2 (1 : Int32) o10).bind fun o12 =>
        (some (pI o12 15 (0 : Int32))).bind fun s14 =>
        mxX7_sum_43 N N p3 (0 : Int32) s14)))
set_option maxHeartbeats 4000000 in
set_option maxRecDepth 100000 in
theorem emX7_sum {N : Nat} {C : mh} (hC : C.length = 239) {p1 : Int32} {p2 : Int32} {p3 : Int32} {h : mS} {o : (mS × Int32)} (hq : mxX7_sum N p1 p2 p3 h = some o) : mC mX7_sum [.ref 239, .int p1, .int p2, .int p3] (hM C h) (hM C o.1, some (.int o.2)) := by
  refine mC_of okX7_sum (Nat.le_of_ble_eq_true rfl) ?_
  unfold mxX7_sum at hq
  show mB _ mX7_sum (0, [(0, .ref 239), (1, .int p1), (2, .int p2), (3, .int p3)], [], (hM C h), 0, 0)
  refine mB_run odX7_sum 1 (g := (1, [(0, .ref 239), (1, .int p1), (2, .int p2), (3, .int p3)], [.int p1], (hM C h), 0, 0)) rfl ?_
  obtain ⟨o1, e2, hq⟩ := bsm hq
  refine mB_S (as := [.int p1]) odX7_sum okX7_isSolid lk_7_133 rfl (emX7_isSolid hC e2) rfl rfl rfl ?_
  show mB _ mX7_sum (4, [(0, .ref 239), (1, .int p1), (2, .int p2), (3, .int p3)], [.int o1.2], (hM C o1.1), 0, 0)
  by_cases c3 : o1.2 = 0
  · rw [if_pos c3] at hq
    refine if_eq_T (t := 21) odX7_sum rfl rfl c3 ?_
    refine mB_run odX7_sum 1 (g := (22, [(0, .ref 239), (1, .int p1), (2, .int p2), (3, .int p3)], [.int (-1 : Int32)], (hM C o1.1), 0, 0)) rfl ?_
    cases hq
    exact mB_ret odX7_sum rfl
  · rw [if_neg c3] at hq
    refine if_eq_F (t := 21) odX7_sum rfl rfl c3 ?_
    refine mB_run odX7_sum 1 (g := (8, [(0, .ref 239), (1, .int p1), (2, .int p2), (3, .int p3)], [.int p2], (hM C o1.1), 0, 0)) rfl ?_
    obtain ⟨o4, e5, hq⟩ := bsm hq
    refine mB_S (as := [.int p2]) odX7_sum okX7_isSolid lk_7_133 rfl (emX7_isSolid hC e5) rfl rfl rfl ?_
    show mB _ mX7_sum (11, [(0, .ref 239), (1, .int p1), (2, .int p2), (3, .int p3)], [.int o4.2], (hM C o4.1), 0, 0)
    by_cases c6 : o4.2 = 0
    · rw [if_pos c6] at hq
      refine if_eq_T (t := 21) odX7_sum rfl rfl c6 ?_
      refine mB_run odX7_sum 1 (g := (22, [(0, .ref 239), (1, .int p1), (2, .int p2), (3, .int p3)], [.int (-1 : Int32)], (hM C o4.1), 0, 0)) rfl ?_
      cases hq
      exact mB_ret odX7_sum rfl
    · rw [if_neg c6] at hq
      refine if_eq_F (t := 21) odX7_sum rfl rfl c6 ?_
      refine mB_run odX7_sum 1 (g := (15, [(0, .ref 239), (1, .int p1), (2, .int p2), (3, .int p3)], [.int p3], (hM C o4.1), 0, 0)) rfl ?_
      obtain ⟨o7, e8, hq⟩ := bsm hq
      refine mB_S (as := [.int p3]) odX7_sum okX7_isSolid lk_7_133 rfl (emX7_isSolid hC e8) rfl rfl rfl ?_
      show mB _ mX7_sum (18, [(0, .ref 239), (1, .int p1), (2, .int p2), (3, .int p3)], [.int o7.2], (hM C o7.1), 0, 0)
      by_cases c9 : o7.2 = 0
      · rw [if_pos c9] at hq
        refine if_ne_F (t := 23) odX7_sum rfl rfl c9 ?_
        refine mB_run odX7_sum 1 (g := (22, [(0, .ref 239), (1, .int p1), (2, .int p2), (3, .int p3)], [.int (-1 : Int32)], (hM C o7.1), 0, 0)) rfl ?_
        cases hq
        exact mB_ret odX7_sum rfl
      · rw [if_neg c9] at hq
        refine if_ne_T (t := 23) odX7_sum rfl rfl c9 ?_
        refine mB_run odX7_sum 3 (g := (26, [(0, .ref 239), (1, .int p1), (2, .int p2), (3, .int p3)], [.int (0 : Int32), .int p1, .ref 239], (hM C o7.1), 0, 0)) rfl ?_
        obtain ⟨o10, e11, hq⟩ := bsm hq
        refine mB_V (as := [.int p1, .int (0 : Int32)]) odX7_sum okX7_owns lk_7_279 rfl (emX7_owns hC e11) (kO_at (md_O hC)) rfl rfl rfl ?_
        show mB _ mX7_sum (29, [(0, .ref 239), (1, .int p1), (2, .int p2), (3, .int p3)], [], (hM C o10), 0, 0)
        refine mB_run odX7_sum 3 (g := (32, [(0, .ref 239), (1, .int p1), (2, .int p2), (3, .int p3)], [.int (1 : Int32), .int p2, .ref 239], (hM C o10), 0, 0)) rfl ?_
        obtain ⟨o12, e13, hq⟩ := bsm hq
        refine mB_V (as := [.int p2, .int (1 : Int32)]) odX7_sum okX7_owns lk_7_279 rfl (emX7_owns hC e13) (kO_at (md_O hC)) rfl rfl rfl ?_
        show mB _ mX7_sum (35, [(0, .ref 239), (1, .int p1), (2, .int p2), (3, .int p3)], [], (hM C o12), 0, 0)
        refine mB_run odX7_sum 2 (g := (37, [(0, .ref 239), (1, .int p1), (2, .int p2), (3, .int p3)], [.int (0 : Int32), .ref 239], (hM C o12), 0, 0)) rfl ?_
        obtain ⟨s14, e15, hq⟩ := bsm hq
        refine r_sV odX7_sum rfl rfl rfl rfl (pt_15 hC e15) ?_
        refine mB_run odX7_sum 2 (g := (43, [(4, .int (0 : Int32)), (0, .ref 239), (1, .int p1), (2, .int p2), (3, .int p3)], [], (hM C s14), 0, 0)) rfl ?_
        refine mB_lv [1, 4, 0] (lv' := [(0, .ref 239), (3, .int p3), (4, .int (0 : Int32))]) rfl ?_
        exact emX7_sum_43 hC N _ _ _ hq
def mxX7_cornerAt (N : Nat) (p1 : Int32) (h : mS) : Option mS :=
  (rG h 43 p1).bind fun v1 =>
  (rG h 44 p1).bind fun v3 =>
  (rG h 45 p1).bind fun v5 =>
  (mxX7_points N v1 v3 v5 (1 : Int64) h).bind fun o7 =>
  some o7
set_option maxHeartbeats 4000000 in
set_option maxRecDepth 100000 in
theorem emX7_cornerAt {N : Nat} {C : mh} (hC : C.length = 239) {p1 : Int32} {h : mS} {o : mS} (hq : mxX7_cornerAt N p1 h = some o) : mC mX7_cornerAt [.ref 239, .int p1] (hM C h) (hM C o, none) := by
  refine mC_of okX7_cornerAt (Nat.le_of_ble_eq_true rfl) ?_
  unfold mxX7_cornerAt at hq
  show mB _ mX7_cornerAt (0, [(0, .ref 239), (1, .int p1)], [], (hM C h), 0, 0)
  refine mB_run odX7_cornerAt 2 (g := (2, [(0, .ref 239), (1, .int p1)], [.ref 239, .ref 239], (hM C h), 0, 0)) rfl ?_
  refine r_gR odX7_cornerAt rfl rfl (md_43 hC) ?_
  refine mB_run odX7_cornerAt 1 (g := (6, [(0, .ref 239), (1, .int p1)], [.int p1, .ref 272, .ref 239], (hM C h), 0, 0)) rfl ?_
  obtain ⟨v1, e2, hq⟩ := bsm hq
  refine r_aJ odX7_cornerAt rfl (ra_43 hC e2) ?_
  refine mB_run odX7_cornerAt 1 (g := (8, [(0, .ref 239), (1, .int p1)], [.ref 239, .long v1, .ref 239], (hM C h), 0, 0)) rfl ?_
  refine r_gR odX7_cornerAt rfl rfl (md_44 hC) ?_
  refine mB_run odX7_cornerAt 1 (g := (12, [(0, .ref 239), (1, .int p1)], [.int p1, .ref 273, .long v1, .ref 239], (hM C h), 0, 0)) rfl ?_
  obtain ⟨v3, e4, hq⟩ := bsm hq
  refine r_aJ odX7_cornerAt rfl (ra_44 hC e4) ?_
  refine mB_run odX7_cornerAt 1 (g := (14, [(0, .ref 239), (1, .int p1)], [.ref 239, .long v3, .long v1, .ref 239], (hM C h), 0, 0)) rfl ?_
  refine r_gR odX7_cornerAt rfl rfl (md_45 hC) ?_
  refine mB_run odX7_cornerAt 1 (g := (18, [(0, .ref 239), (1, .int p1)], [.int p1, .ref 274, .long v3, .long v1, .ref 239], (hM C h), 0, 0)) rfl ?_
  obtain ⟨v5, e6, hq⟩ := bsm hq
  refine r_aJ odX7_cornerAt rfl (ra_45 hC e6) ?_
  refine mB_run odX7_cornerAt 1 (g := (20, [(0, .ref 239), (1, .int p1)], [.long (1 : Int64), .long v5, .long v3, .long v1, .ref 239], (hM C h), 0, 0)) rfl ?_
  obtain ⟨o7, e8, hq⟩ := bsm hq
  refine mB_V (as := [.long v1, .long v3, .long v5, .long (1 : Int64)]) odX7_cornerAt okX7_points lk_7_281 rfl (emX7_points hC e8) (kO_at (md_O hC)) rfl rfl rfl ?_
  show mB _ mX7_cornerAt (23, [(0, .ref 239), (1, .int p1)], [], (hM C o7), 0, 0)
  cases hq
  exact mB_ret odX7_cornerAt rfl
def mxX7_toEdge (N : Nat) (p1 : Int32) (p2 : Int32) (p3 : Int32) (h : mS) : Option mS :=
  (rG h 43 p3).bind fun v1 =>
  (rG h 43 p2).bind fun v3 =>
  (rG h 44 p3).bind fun v5 =>
  (rG h 44 p2).bind fun v7 =>
  (rG h 45 p3).bind fun v9 =>
  (rG h 45 p2).bind fun v11 =>
  (rG h 43 p1).bind fun v13 =>
  (rG h 43 p2).bind fun v15 =>
  (rG h 44 p1).bind fun v17 =>
  (rG h 44 p2).bind fun v19 =>
  (rG h 45 p1).bind fun v21 =>
  (rG h 45 p2).bind fun v23 =>
  if ((((v1 - v3) * (v13 - v15)) + ((v5 - v7) * (v17 - v19))) + ((v9 - v11) * (v21 - v23))) < (0 : Int64) then (
    some h) else (
    if ((((v1 - v3) * (v13 - v15)) + ((v5 - v7) * (v17 - v19))) + ((v9 - v11) * (v21 - v23))) ≤ ((((v1 - v3) * (v1 - v3)) + ((v5 - v7) * (v5 - v7))) + ((v9 - v11) * (v9 - v11))) then (
      (mxX7_tries N ((((((v13 - v15) * (v13 - v15)) + ((v17 - v19) * (v17 - v19))) + ((v21 - v23) * (v21 - v23))) * ((((v1 - v3) * (v1 - v3)) + ((v5 - v7) * (v5 - v7))) + ((v9 - v11) * (v9 - v11)))) - (((((v1 - v3) * (v13 - v15)) + ((v5 - v7) * (v17 - v19))) + ((v9 - v11) * (v21 - v23))) * ((((v1 - v3) * (v13 - v15)) + ((v5 - v7) * (v17 - v19))) + ((v9 - v11) * (v21 - v23))))) ((((v1 - v3) * (v1 - v3)) + ((v5 - v7) * (v5 - v7))) + ((v9 - v11) * (v9 - v11))) h).bind fun o27 =>
      some o27) else (
      some h))
set_option maxHeartbeats 4000000 in
set_option maxRecDepth 100000 in
theorem emX7_toEdge {N : Nat} {C : mh} (hC : C.length = 239) {p1 : Int32} {p2 : Int32} {p3 : Int32} {h : mS} {o : mS} (hq : mxX7_toEdge N p1 p2 p3 h = some o) : mC mX7_toEdge [.ref 239, .int p1, .int p2, .int p3] (hM C h) (hM C o, none) := by
  refine mC_of okX7_toEdge (Nat.le_of_ble_eq_true rfl) ?_
  unfold mxX7_toEdge at hq
  show mB _ mX7_toEdge (0, [(0, .ref 239), (1, .int p1), (2, .int p2), (3, .int p3)], [], (hM C h), 0, 0)
  refine mB_run odX7_toEdge 1 (g := (1, [(0, .ref 239), (1, .int p1), (2, .int p2), (3, .int p3)], [.ref 239], (hM C h), 0, 0)) rfl ?_
  refine r_gR odX7_toEdge rfl rfl (md_43 hC) ?_
  refine mB_run odX7_toEdge 1 (g := (5, [(0, .ref 239), (1, .int p1), (2, .int p2), (3, .int p3)], [.int p3, .ref 272], (hM C h), 0, 0)) rfl ?_
  obtain ⟨v1, e2, hq⟩ := bsm hq
  refine r_aJ odX7_toEdge rfl (ra_43 hC e2) ?_
  refine mB_run odX7_toEdge 1 (g := (7, [(0, .ref 239), (1, .int p1), (2, .int p2), (3, .int p3)], [.ref 239, .long v1], (hM C h), 0, 0)) rfl ?_
  refine r_gR odX7_toEdge rfl rfl (md_43 hC) ?_
  refine mB_run odX7_toEdge 1 (g := (11, [(0, .ref 239), (1, .int p1), (2, .int p2), (3, .int p3)], [.int p2, .ref 272, .long v1], (hM C h), 0, 0)) rfl ?_
  obtain ⟨v3, e4, hq⟩ := bsm hq
  refine r_aJ odX7_toEdge rfl (ra_43 hC e4) ?_
  refine mB_run odX7_toEdge 3 (g := (16, [(4, .long (v1 - v3)), (0, .ref 239), (1, .int p1), (2, .int p2), (3, .int p3)], [.ref 239], (hM C h), 0, 0)) rfl ?_
  refine r_gR odX7_toEdge rfl rfl (md_44 hC) ?_
  refine mB_run odX7_toEdge 1 (g := (20, [(4, .long (v1 - v3)), (0, .ref 239), (1, .int p1), (2, .int p2), (3, .int p3)], [.int p3, .ref 273], (hM C h), 0, 0)) rfl ?_
  obtain ⟨v5, e6, hq⟩ := bsm hq
  refine r_aJ odX7_toEdge rfl (ra_44 hC e6) ?_
  refine mB_run odX7_toEdge 1 (g := (22, [(4, .long (v1 - v3)), (0, .ref 239), (1, .int p1), (2, .int p2), (3, .int p3)], [.ref 239, .long v5], (hM C h), 0, 0)) rfl ?_
  refine r_gR odX7_toEdge rfl rfl (md_44 hC) ?_
  refine mB_run odX7_toEdge 1 (g := (26, [(4, .long (v1 - v3)), (0, .ref 239), (1, .int p1), (2, .int p2), (3, .int p3)], [.int p2, .ref 273, .long v5], (hM C h), 0, 0)) rfl ?_
  obtain ⟨v7, e8, hq⟩ := bsm hq
  refine r_aJ odX7_toEdge rfl (ra_44 hC e8) ?_
  refine mB_run odX7_toEdge 3 (g := (31, [(6, .long (v5 - v7)), (4, .long (v1 - v3)), (0, .ref 239), (1, .int p1), (2, .int p2), (3, .int p3)], [.ref 239], (hM C h), 0, 0)) rfl ?_
  refine r_gR odX7_toEdge rfl rfl (md_45 hC) ?_
  refine mB_run odX7_toEdge 1 (g := (35, [(6, .long (v5 - v7)), (4, .long (v1 - v3)), (0, .ref 239), (1, .int p1), (2, .int p2), (3, .int p3)], [.int p3, .ref 274], (hM C h), 0, 0)) rfl ?_
  obtain ⟨v9, e10, hq⟩ := bsm hq
  refine r_aJ odX7_toEdge rfl (ra_45 hC e10) ?_
  refine mB_run odX7_toEdge 1 (g := (37, [(6, .long (v5 - v7)), (4, .long (v1 - v3)), (0, .ref 239), (1, .int p1), (2, .int p2), (3, .int p3)], [.ref 239, .long v9], (hM C h), 0, 0)) rfl ?_
  refine r_gR odX7_toEdge rfl rfl (md_45 hC) ?_
  refine mB_run odX7_toEdge 1 (g := (41, [(6, .long (v5 - v7)), (4, .long (v1 - v3)), (0, .ref 239), (1, .int p1), (2, .int p2), (3, .int p3)], [.int p2, .ref 274, .long v9], (hM C h), 0, 0)) rfl ?_
  obtain ⟨v11, e12, hq⟩ := bsm hq
  refine r_aJ odX7_toEdge rfl (ra_45 hC e12) ?_
  refine mB_run odX7_toEdge 3 (g := (46, [(8, .long (v9 - v11)), (6, .long (v5 - v7)), (4, .long (v1 - v3)), (0, .ref 239), (1, .int p1), (2, .int p2), (3, .int p3)], [.ref 239], (hM C h), 0, 0)) rfl ?_
  refine r_gR odX7_toEdge rfl rfl (md_43 hC) ?_
  refine mB_run odX7_toEdge 1 (g := (50, [(8, .long (v9 - v11)), (6, .long (v5 - v7)), (4, .long (v1 - v3)), (0, .ref 239), (1, .int p1), (2, .int p2), (3, .int p3)], [.int p1, .ref 272], (hM C h), 0, 0)) rfl ?_
  obtain ⟨v13, e14, hq⟩ := bsm hq
  refine r_aJ odX7_toEdge rfl (ra_43 hC e14) ?_
  refine mB_run odX7_toEdge 1 (g := (52, [(8, .long (v9 - v11)), (6, .long (v5 - v7)), (4, .long (v1 - v3)), (0, .ref 239), (1, .int p1), (2, .int p2), (3, .int p3)], [.ref 239, .long v13], (hM C h), 0, 0)) rfl ?_
  refine r_gR odX7_toEdge rfl rfl (md_43 hC) ?_
  refine mB_run odX7_toEdge 1 (g := (56, [(8, .long (v9 - v11)), (6, .long (v5 - v7)), (4, .long (v1 - v3)), (0, .ref 239), (1, .int p1), (2, .int p2), (3, .int p3)], [.int p2, .ref 272, .long v13], (hM C h), 0, 0)) rfl ?_
  obtain ⟨v15, e16, hq⟩ := bsm hq
  refine r_aJ odX7_toEdge rfl (ra_43 hC e16) ?_
  refine mB_run odX7_toEdge 3 (g := (61, [(10, .long (v13 - v15)), (8, .long (v9 - v11)), (6, .long (v5 - v7)), (4, .long (v1 - v3)), (0, .ref 239), (1, .int p1), (2, .int p2), (3, .int p3)], [.ref 239], (hM C h), 0, 0)) rfl ?_
  refine r_gR odX7_toEdge rfl rfl (md_44 hC) ?_
  refine mB_run odX7_toEdge 1 (g := (65, [(10, .long (v13 - v15)), (8, .long (v9 - v11)), (6, .long (v5 - v7)), (4, .long (v1 - v3)), (0, .ref 239), (1, .int p1), (2, .int p2), (3, .int p3)], [.int p1, .ref 273], (hM C h), 0, 0)) rfl ?_
  obtain ⟨v17, e18, hq⟩ := bsm hq
  refine r_aJ odX7_toEdge rfl (ra_44 hC e18) ?_
  refine mB_run odX7_toEdge 1 (g := (67, [(10, .long (v13 - v15)), (8, .long (v9 - v11)), (6, .long (v5 - v7)), (4, .long (v1 - v3)), (0, .ref 239), (1, .int p1), (2, .int p2), (3, .int p3)], [.ref 239, .long v17], (hM C h), 0, 0)) rfl ?_
  refine r_gR odX7_toEdge rfl rfl (md_44 hC) ?_
  refine mB_run odX7_toEdge 1 (g := (71, [(10, .long (v13 - v15)), (8, .long (v9 - v11)), (6, .long (v5 - v7)), (4, .long (v1 - v3)), (0, .ref 239), (1, .int p1), (2, .int p2), (3, .int p3)], [.int p2, .ref 273, .long v17], (hM C h), 0, 0)) rfl ?_
  obtain ⟨v19, e20, hq⟩ := bsm hq
  refine r_aJ odX7_toEdge rfl (ra_44 hC e20) ?_
  refine mB_run odX7_toEdge 3 (g := (76, [(12, .long (v17 - v19)), (10, .long (v13 - v15)), (8, .long (v9 - v11)), (6, .long (v5 - v7)), (4, .long (v1 - v3)), (0, .ref 239), (1, .int p1), (2, .int p2), (3, .int p3)], [.ref 239], (hM C h), 0, 0)) rfl ?_
  refine r_gR odX7_toEdge rfl rfl (md_45 hC) ?_
  refine mB_run odX7_toEdge 1 (g := (80, [(12, .long (v17 - v19)), (10, .long (v13 - v15)), (8, .long (v9 - v11)), (6, .long (v5 - v7)), (4, .long (v1 - v3)), (0, .ref 239), (1, .int p1), (2, .int p2), (3, .int p3)], [.int p1, .ref 274], (hM C h), 0, 0)) rfl ?_
  obtain ⟨v21, e22, hq⟩ := bsm hq
  refine r_aJ odX7_toEdge rfl (ra_45 hC e22) ?_
  refine mB_run odX7_toEdge 1 (g := (82, [(12, .long (v17 - v19)), (10, .long (v13 - v15)), (8, .long (v9 - v11)), (6, .long (v5 - v7)), (4, .long (v1 - v3)), (0, .ref 239), (1, .int p1), (2, .int p2), (3, .int p3)], [.ref 239, .long v21], (hM C h), 0, 0)) rfl ?_
  refine r_gR odX7_toEdge rfl rfl (md_45 hC) ?_
  refine mB_run odX7_toEdge 1 (g := (86, [(12, .long (v17 - v19)), (10, .long (v13 - v15)), (8, .long (v9 - v11)), (6, .long (v5 - v7)), (4, .long (v1 - v3)), (0, .ref 239), (1, .int p1), (2, .int p2), (3, .int p3)], [.int p2, .ref 274, .long v21], (hM C h), 0, 0)) rfl ?_
  obtain ⟨v23, e24, hq⟩ := bsm hq
  refine r_aJ odX7_toEdge rfl (ra_45 hC e24) ?_
  refine mB_run odX7_toEdge 12 (g := (106, [(14, .long (v21 - v23)), (12, .long (v17 - v19)), (10, .long (v13 - v15)), (8, .long (v9 - v11)), (6, .long (v5 - v7)), (4, .long (v1 - v3)), (0, .ref 239), (1, .int p1), (2, .int p2), (3, .int p3)], [.long ((v9 - v11) * (v21 - v23)), .long (((v1 - v3) * (v13 - v15)) + ((v5 - v7) * (v17 - v19)))], (hM C h), 0, 0)) rfl ?_
  refine mB_run odX7_toEdge 12 (g := (125, [(16, .long ((((v1 - v3) * (v13 - v15)) + ((v5 - v7) * (v17 - v19))) + ((v9 - v11) * (v21 - v23)))), (14, .long (v21 - v23)), (12, .long (v17 - v19)), (10, .long (v13 - v15)), (8, .long (v9 - v11)), (6, .long (v5 - v7)), (4, .long (v1 - v3)), (0, .ref 239), (1, .int p1), (2, .int p2), (3, .int p3)], [.long ((v9 - v11) * (v9 - v11)), .long (((v1 - v3) * (v1 - v3)) + ((v5 - v7) * (v5 - v7)))], (hM C h), 0, 0)) rfl ?_
  refine mB_run odX7_toEdge 4 (g := (131, [(18, .long ((((v1 - v3) * (v1 - v3)) + ((v5 - v7) * (v5 - v7))) + ((v9 - v11) * (v9 - v11)))), (16, .long ((((v1 - v3) * (v13 - v15)) + ((v5 - v7) * (v17 - v19))) + ((v9 - v11) * (v21 - v23)))), (14, .long (v21 - v23)), (12, .long (v17 - v19)), (10, .long (v13 - v15)), (8, .long (v9 - v11)), (6, .long (v5 - v7)), (4, .long (v1 - v3)), (0, .ref 239), (1, .int p1), (2, .int p2), (3, .int p3)], [.long (0 : Int64), .long ((((v1 - v3) * (v13 - v15)) + ((v5 - v7) * (v17 - v19))) + ((v9 - v11) * (v21 - v23)))], (hM C h), 0, 0)) rfl ?_
  by_cases c25 : ((((v1 - v3) * (v13 - v15)) + ((v5 - v7) * (v17 - v19))) + ((v9 - v11) * (v21 - v23))) < (0 : Int64)
  · rw [if_pos c25] at hq
    refine lc_lt_T (t := 143) odX7_toEdge rfl rfl rfl c25 ?_
    cases hq
    exact mB_ret odX7_toEdge rfl
  · rw [if_neg c25] at hq
    refine lc_lt_F (t := 143) odX7_toEdge rfl rfl rfl c25 ?_
    refine mB_run odX7_toEdge 2 (g := (139, [(18, .long ((((v1 - v3) * (v1 - v3)) + ((v5 - v7) * (v5 - v7))) + ((v9 - v11) * (v9 - v11)))), (16, .long ((((v1 - v3) * (v13 - v15)) + ((v5 - v7) * (v17 - v19))) + ((v9 - v11) * (v21 - v23)))), (14, .long (v21 - v23)), (12, .long (v17 - v19)), (10, .long (v13 - v15)), (8, .long (v9 - v11)), (6, .long (v5 - v7)), (4, .long (v1 - v3)), (0, .ref 239), (1, .int p1), (2, .int p2), (3, .int p3)], [.long ((((v1 - v3) * (v1 - v3)) + ((v5 - v7) * (v5 - v7))) + ((v9 - v11) * (v9 - v11))), .long ((((v1 - v3) * (v13 - v15)) + ((v5 - v7) * (v17 - v19))) + ((v9 - v11) * (v21 - v23)))], (hM C h), 0, 0)) rfl ?_
    by_cases c26 : ((((v1 - v3) * (v13 - v15)) + ((v5 - v7) * (v17 - v19))) + ((v9 - v11) * (v21 - v23))) ≤ ((((v1 - v3) * (v1 - v3)) + ((v5 - v7) * (v5 - v7))) + ((v9 - v11) * (v9 - v11)))
    · rw [if_pos c26] at hq
      refine lc_le_T (t := 144) odX7_toEdge rfl rfl rfl c26 ?_
      refine mB_run odX7_toEdge 12 (g := (162, [(18, .long ((((v1 - v3) * (v1 - v3)) + ((v5 - v7) * (v5 - v7))) + ((v9 - v11) * (v9 - v11)))), (16, .long ((((v1 - v3) * (v13 - v15)) + ((v5 - v7) * (v17 - v19))) + ((v9 - v11) * (v21 - v23)))), (14, .long (v21 - v23)), (12, .long (v17 - v19)), (10, .long (v13 - v15)), (8, .long (v9 - v11)), (6, .long (v5 - v7)), (4, .long (v1 - v3)), (0, .ref 239), (1, .int p1), (2, .int p2), (3, .int p3)], [.long ((((v13 - v15) * (v13 - v15)) + ((v17 - v19) * (v17 - v19))) + ((v21 - v23) * (v21 - v23))), .ref 239], (hM C h), 0, 0)) rfl ?_
      refine mB_run odX7_toEdge 7 (g := (173, [(18, .long ((((v1 - v3) * (v1 - v3)) + ((v5 - v7) * (v5 - v7))) + ((v9 - v11) * (v9 - v11)))), (16, .long ((((v1 - v3) * (v13 - v15)) + ((v5 - v7) * (v17 - v19))) + ((v9 - v11) * (v21 - v23)))), (14, .long (v21 - v23)), (12, .long (v17 - v19)), (10, .long (v13 - v15)), (8, .long (v9 - v11)), (6, .long (v5 - v7)), (4, .long (v1 - v3)), (0, .ref 239), (1, .int p1), (2, .int p2), (3, .int p3)], [.long ((((v1 - v3) * (v1 - v3)) + ((v5 - v7) * (v5 - v7))) + ((v9 - v11) * (v9 - v11))), .long ((((((v13 - v15) * (v13 - v15)) + ((v17 - v19) * (v17 - v19))) + ((v21 - v23) * (v21 - v23))) * ((((v1 - v3) * (v1 - v3)) + ((v5 - v7) * (v5 - v7))) + ((v9 - v11) * (v9 - v11)))) - (((((v1 - v3) * (v13 - v15)) + ((v5 - v7) * (v17 - v19))) + ((v9 - v11) * (v21 - v23))) * ((((v1 - v3) * (v13 - v15)) + ((v5 - v7) * (v17 - v19))) + ((v9 - v11) * (v21 - v23))))), .ref 239], (hM C h), 0, 0)) rfl ?_
      obtain ⟨o27, e28, hq⟩ := bsm hq
      refine mB_V (as := [.long ((((((v13 - v15) * (v13 - v15)) + ((v17 - v19) * (v17 - v19))) + ((v21 - v23) * (v21 - v23))) * ((((v1 - v3) * (v1 - v3)) + ((v5 - v7) * (v5 - v7))) + ((v9 - v11) * (v9 - v11)))) - (((((v1 - v3) * (v13 - v15)) + ((v5 - v7) * (v17 - v19))) + ((v9 - v11) * (v21 - v23))) * ((((v1 - v3) * (v13 - v15)) + ((v5 - v7) * (v17 - v19))) + ((v9 - v11) * (v21 - v23))))), .long ((((v1 - v3) * (v1 - v3)) + ((v5 - v7) * (v5 - v7))) + ((v9 - v11) * (v9 - v11)))]) odX7_toEdge okX7_tries lk_7_327 rfl (emX7_tries hC e28) (kO_at (md_O hC)) rfl rfl rfl ?_
      show mB _ mX7_toEdge (176, [(18, .long ((((v1 - v3) * (v1 - v3)) + ((v5 - v7) * (v5 - v7))) + ((v9 - v11) * (v9 - v11)))), (16, .long ((((v1 - v3) * (v13 - v15)) + ((v5 - v7) * (v17 - v19))) + ((v9 - v11) * (v21 - v23)))), (14, .long (v21 - v23)), (12, .long (v17 - v19)), (10, .long (v13 - v15)), (8, .long (v9 - v11)), (6, .long (v5 - v7)), (4, .long (v1 - v3)), (0, .ref 239), (1, .int p1), (2, .int p2), (3, .int p3)], [], (hM C o27), 0, 0)
      cases hq
      exact mB_ret odX7_toEdge rfl
    · rw [if_neg c26] at hq
      refine lc_le_F (t := 144) odX7_toEdge rfl rfl rfl c26 ?_
      cases hq
      exact mB_ret odX7_toEdge rfl
def mxX7_toCorner (N : Nat) (p1 : Int32) (p2 : Int32) (h : mS) : Option mS :=
  (rG h 43 p1).bind fun v1 =>
  (rG h 43 p2).bind fun v3 =>
  (rG h 44 p1).bind fun v5 =>
  (rG h 44 p2).bind fun v7 =>
  (rG h 45 p1).bind fun v9 =>
  (rG h 45 p2).bind fun v11 =>
  (mxX7_tries N ((((v1 - v3) * (v1 - v3)) + ((v5 - v7) * (v5 - v7))) + ((v9 - v11) * (v9 - v11))) (1 : Int64) h).bind fun o13 =>
  some o13
set_option maxHeartbeats 4000000 in
set_option maxRecDepth 100000 in
theorem emX7_toCorner {N : Nat} {C : mh} (hC : C.length = 239) {p1 : Int32} {p2 : Int32} {h : mS} {o : mS} (hq : mxX7_toCorner N p1 p2 h = some o) : mC mX7_toCorner [.ref 239, .int p1, .int p2] (hM C h) (hM C o, none) := by
  refine mC_of okX7_toCorner (Nat.le_of_ble_eq_true rfl) ?_
  unfold mxX7_toCorner at hq
  show mB _ mX7_toCorner (0, [(0, .ref 239), (1, .int p1), (2, .int p2)], [], (hM C h), 0, 0)
  refine mB_run odX7_toCorner 1 (g := (1, [(0, .ref 239), (1, .int p1), (2, .int p2)], [.ref 239], (hM C h), 0, 0)) rfl ?_
  refine r_gR odX7_toCorner rfl rfl (md_43 hC) ?_
  refine mB_run odX7_toCorner 1 (g := (5, [(0, .ref 239), (1, .int p1), (2, .int p2)], [.int p1, .ref 272], (hM C h), 0, 0)) rfl ?_
  obtain ⟨v1, e2, hq⟩ := bsm hq
  refine r_aJ odX7_toCorner rfl (ra_43 hC e2) ?_
  refine mB_run odX7_toCorner 1 (g := (7, [(0, .ref 239), (1, .int p1), (2, .int p2)], [.ref 239, .long v1], (hM C h), 0, 0)) rfl ?_
  refine r_gR odX7_toCorner rfl rfl (md_43 hC) ?_
  refine mB_run odX7_toCorner 1 (g := (11, [(0, .ref 239), (1, .int p1), (2, .int p2)], [.int p2, .ref 272, .long v1], (hM C h), 0, 0)) rfl ?_
  obtain ⟨v3, e4, hq⟩ := bsm hq
  refine r_aJ odX7_toCorner rfl (ra_43 hC e4) ?_
  refine mB_run odX7_toCorner 3 (g := (15, [(3, .long (v1 - v3)), (0, .ref 239), (1, .int p1), (2, .int p2)], [.ref 239], (hM C h), 0, 0)) rfl ?_
  refine r_gR odX7_toCorner rfl rfl (md_44 hC) ?_
  refine mB_run odX7_toCorner 1 (g := (19, [(3, .long (v1 - v3)), (0, .ref 239), (1, .int p1), (2, .int p2)], [.int p1, .ref 273], (hM C h), 0, 0)) rfl ?_
  obtain ⟨v5, e6, hq⟩ := bsm hq
  refine r_aJ odX7_toCorner rfl (ra_44 hC e6) ?_
  refine mB_run odX7_toCorner 1 (g := (21, [(3, .long (v1 - v3)), (0, .ref 239), (1, .int p1), (2, .int p2)], [.ref 239, .long v5], (hM C h), 0, 0)) rfl ?_
  refine r_gR odX7_toCorner rfl rfl (md_44 hC) ?_
  refine mB_run odX7_toCorner 1 (g := (25, [(3, .long (v1 - v3)), (0, .ref 239), (1, .int p1), (2, .int p2)], [.int p2, .ref 273, .long v5], (hM C h), 0, 0)) rfl ?_
  obtain ⟨v7, e8, hq⟩ := bsm hq
  refine r_aJ odX7_toCorner rfl (ra_44 hC e8) ?_
  refine mB_run odX7_toCorner 3 (g := (30, [(5, .long (v5 - v7)), (3, .long (v1 - v3)), (0, .ref 239), (1, .int p1), (2, .int p2)], [.ref 239], (hM C h), 0, 0)) rfl ?_
  refine r_gR odX7_toCorner rfl rfl (md_45 hC) ?_
  refine mB_run odX7_toCorner 1 (g := (34, [(5, .long (v5 - v7)), (3, .long (v1 - v3)), (0, .ref 239), (1, .int p1), (2, .int p2)], [.int p1, .ref 274], (hM C h), 0, 0)) rfl ?_
  obtain ⟨v9, e10, hq⟩ := bsm hq
  refine r_aJ odX7_toCorner rfl (ra_45 hC e10) ?_
  refine mB_run odX7_toCorner 1 (g := (36, [(5, .long (v5 - v7)), (3, .long (v1 - v3)), (0, .ref 239), (1, .int p1), (2, .int p2)], [.ref 239, .long v9], (hM C h), 0, 0)) rfl ?_
  refine r_gR odX7_toCorner rfl rfl (md_45 hC) ?_
  refine mB_run odX7_toCorner 1 (g := (40, [(5, .long (v5 - v7)), (3, .long (v1 - v3)), (0, .ref 239), (1, .int p1), (2, .int p2)], [.int p2, .ref 274, .long v9], (hM C h), 0, 0)) rfl ?_
  obtain ⟨v11, e12, hq⟩ := bsm hq
  refine r_aJ odX7_toCorner rfl (ra_45 hC e12) ?_
  refine mB_run odX7_toCorner 12 (g := (58, [(7, .long (v9 - v11)), (5, .long (v5 - v7)), (3, .long (v1 - v3)), (0, .ref 239), (1, .int p1), (2, .int p2)], [.long (v9 - v11), .long (v9 - v11), .long (((v1 - v3) * (v1 - v3)) + ((v5 - v7) * (v5 - v7))), .ref 239], (hM C h), 0, 0)) rfl ?_
  refine mB_run odX7_toCorner 3 (g := (61, [(7, .long (v9 - v11)), (5, .long (v5 - v7)), (3, .long (v1 - v3)), (0, .ref 239), (1, .int p1), (2, .int p2)], [.long (1 : Int64), .long ((((v1 - v3) * (v1 - v3)) + ((v5 - v7) * (v5 - v7))) + ((v9 - v11) * (v9 - v11))), .ref 239], (hM C h), 0, 0)) rfl ?_
  obtain ⟨o13, e14, hq⟩ := bsm hq
  refine mB_V (as := [.long ((((v1 - v3) * (v1 - v3)) + ((v5 - v7) * (v5 - v7))) + ((v9 - v11) * (v9 - v11))), .long (1 : Int64)]) odX7_toCorner okX7_tries lk_7_327 rfl (emX7_tries hC e14) (kO_at (md_O hC)) rfl rfl rfl ?_
  show mB _ mX7_toCorner (64, [(7, .long (v9 - v11)), (5, .long (v5 - v7)), (3, .long (v1 - v3)), (0, .ref 239), (1, .int p1), (2, .int p2)], [], (hM C o13), 0, 0)
  cases hq
  exact mB_ret odX7_toCorner rfl
def mxX7_toFace (N : Nat) (p1 : Int32) (p2 : Int32) (p3 : Int32) (h : mS) : Option mS :=
  (mxX7_cornerAt N p1 h).bind fun o1 =>
  (mxX7_isOver N p2 p3 o1).bind fun o3 =>
  if o3.2 = 0 then (
    some o3.1) else (
    (mxX7_overFace N p3 o3.1).bind fun o6 =>
    (rG o6.1 28 p3).bind fun v8 =>
    (rG o6.1 28 p3).bind fun v10 =>
    (rG o6.1 29 p3).bind fun v12 =>
    (rG o6.1 29 p3).bind fun v14 =>
    (rG o6.1 30 p3).bind fun v16 =>
    (rG o6.1 30 p3).bind fun v18 =>
    (mxX7_tries N (o6.2 * o6.2) (((v8 * v10) + (v12 * v14)) + (v16 * v18)) o6.1).bind fun o20 =>
    some o20)
set_option maxHeartbeats 4000000 in
set_option maxRecDepth 100000 in
theorem emX7_toFace {N : Nat} {C : mh} (hC : C.length = 239) {p1 : Int32} {p2 : Int32} {p3 : Int32} {h : mS} {o : mS} (hq : mxX7_toFace N p1 p2 p3 h = some o) : mC mX7_toFace [.ref 239, .int p1, .int p2, .int p3] (hM C h) (hM C o, none) := by
  refine mC_of okX7_toFace (Nat.le_of_ble_eq_true rfl) ?_
  unfold mxX7_toFace at hq
  show mB _ mX7_toFace (0, [(0, .ref 239), (1, .int p1), (2, .int p2), (3, .int p3)], [], (hM C h), 0, 0)
  refine mB_run odX7_toFace 2 (g := (2, [(0, .ref 239), (1, .int p1), (2, .int p2), (3, .int p3)], [.int p1, .ref 239], (hM C h), 0, 0)) rfl ?_
  obtain ⟨o1, e2, hq⟩ := bsm hq
  refine mB_V (as := [.int p1]) odX7_toFace okX7_cornerAt lk_7_365 rfl (emX7_cornerAt hC e2) (kO_at (md_O hC)) rfl rfl rfl ?_
  show mB _ mX7_toFace (5, [(0, .ref 239), (1, .int p1), (2, .int p2), (3, .int p3)], [], (hM C o1), 0, 0)
  refine mB_run odX7_toFace 3 (g := (8, [(0, .ref 239), (1, .int p1), (2, .int p2), (3, .int p3)], [.int p3, .int p2, .ref 239], (hM C o1), 0, 0)) rfl ?_
  obtain ⟨o3, e4, hq⟩ := bsm hq
  refine mB_V (as := [.int p2, .int p3]) odX7_toFace okX7_isOver lk_7_271 rfl (emX7_isOver hC e4) (kO_at (md_O hC)) rfl rfl rfl ?_
  show mB _ mX7_toFace (11, [(0, .ref 239), (1, .int p1), (2, .int p2), (3, .int p3)], [.int o3.2], (hM C o3.1), 0, 0)
  by_cases c5 : o3.2 = 0
  · rw [if_pos c5] at hq
    refine if_ne_F (t := 15) odX7_toFace rfl rfl c5 ?_
    cases hq
    exact mB_ret odX7_toFace rfl
  · rw [if_neg c5] at hq
    refine if_ne_T (t := 15) odX7_toFace rfl rfl c5 ?_
    refine mB_run odX7_toFace 2 (g := (17, [(0, .ref 239), (1, .int p1), (2, .int p2), (3, .int p3)], [.int p3, .ref 239], (hM C o3.1), 0, 0)) rfl ?_
    obtain ⟨o6, e7, hq⟩ := bsm hq
    refine mB_V (as := [.int p3]) odX7_toFace okX7_overFace lk_7_268 rfl (emX7_overFace hC e7) (kO_at (md_O hC)) rfl rfl rfl ?_
    show mB _ mX7_toFace (20, [(0, .ref 239), (1, .int p1), (2, .int p2), (3, .int p3)], [.long o6.2], (hM C o6.1), 0, 0)
    refine mB_run odX7_toFace 6 (g := (29, [(4, .long o6.2), (0, .ref 239), (1, .int p1), (2, .int p2), (3, .int p3)], [.ref 239, .long (o6.2 * o6.2), .ref 239], (hM C o6.1), 0, 0)) rfl ?_
    refine r_gR odX7_toFace rfl rfl (md_28 hC) ?_
    refine mB_run odX7_toFace 1 (g := (33, [(4, .long o6.2), (0, .ref 239), (1, .int p1), (2, .int p2), (3, .int p3)], [.int p3, .ref 261, .long (o6.2 * o6.2), .ref 239], (hM C o6.1), 0, 0)) rfl ?_
    obtain ⟨v8, e9, hq⟩ := bsm hq
    refine r_aJ odX7_toFace rfl (ra_28 hC e9) ?_
    refine mB_run odX7_toFace 1 (g := (35, [(4, .long o6.2), (0, .ref 239), (1, .int p1), (2, .int p2), (3, .int p3)], [.ref 239, .long v8, .long (o6.2 * o6.2), .ref 239], (hM C o6.1), 0, 0)) rfl ?_
    refine r_gR odX7_toFace rfl rfl (md_28 hC) ?_
    refine mB_run odX7_toFace 1 (g := (39, [(4, .long o6.2), (0, .ref 239), (1, .int p1), (2, .int p2), (3, .int p3)], [.int p3, .ref 261, .long v8, .long (o6.2 * o6.2), .ref 239], (hM C o6.1), 0, 0)) rfl ?_
    obtain ⟨v10, e11, hq⟩ := bsm hq
    refine r_aJ odX7_toFace rfl (ra_28 hC e11) ?_
    refine mB_run odX7_toFace 2 (g := (42, [(4, .long o6.2), (0, .ref 239), (1, .int p1), (2, .int p2), (3, .int p3)], [.ref 239, .long (v8 * v10), .long (o6.2 * o6.2), .ref 239], (hM C o6.1), 0, 0)) rfl ?_
    refine r_gR odX7_toFace rfl rfl (md_29 hC) ?_
    refine mB_run odX7_toFace 1 (g := (46, [(4, .long o6.2), (0, .ref 239), (1, .int p1), (2, .int p2), (3, .int p3)], [.int p3, .ref 262, .long (v8 * v10), .long (o6.2 * o6.2), .ref 239], (hM C o6.1), 0, 0)) rfl ?_
    obtain ⟨v12, e13, hq⟩ := bsm hq
    refine r_aJ odX7_toFace rfl (ra_29 hC e13) ?_
    refine mB_run odX7_toFace 1 (g := (48, [(4, .long o6.2), (0, .ref 239), (1, .int p1), (2, .int p2), (3, .int p3)], [.ref 239, .long v12, .long (v8 * v10), .long (o6.2 * o6.2), .ref 239], (hM C o6.1), 0, 0)) rfl ?_
    refine r_gR odX7_toFace rfl rfl (md_29 hC) ?_
    refine mB_run odX7_toFace 1 (g := (52, [(4, .long o6.2), (0, .ref 239), (1, .int p1), (2, .int p2), (3, .int p3)], [.int p3, .ref 262, .long v12, .long (v8 * v10), .long (o6.2 * o6.2), .ref 239], (hM C o6.1), 0, 0)) rfl ?_
    obtain ⟨v14, e15, hq⟩ := bsm hq
    refine r_aJ odX7_toFace rfl (ra_29 hC e15) ?_
    refine mB_run odX7_toFace 3 (g := (56, [(4, .long o6.2), (0, .ref 239), (1, .int p1), (2, .int p2), (3, .int p3)], [.ref 239, .long ((v8 * v10) + (v12 * v14)), .long (o6.2 * o6.2), .ref 239], (hM C o6.1), 0, 0)) rfl ?_
    refine r_gR odX7_toFace rfl rfl (md_30 hC) ?_
    refine mB_run odX7_toFace 1 (g := (60, [(4, .long o6.2), (0, .ref 239), (1, .int p1), (2, .int p2), (3, .int p3)], [.int p3, .ref 263, .long ((v8 * v10) + (v12 * v14)), .long (o6.2 * o6.2), .ref 239], (hM C o6.1), 0, 0)) rfl ?_
    obtain ⟨v16, e17, hq⟩ := bsm hq
    refine r_aJ odX7_toFace rfl (ra_30 hC e17) ?_
    refine mB_run odX7_toFace 1 (g := (62, [(4, .long o6.2), (0, .ref 239), (1, .int p1), (2, .int p2), (3, .int p3)], [.ref 239, .long v16, .long ((v8 * v10) + (v12 * v14)), .long (o6.2 * o6.2), .ref 239], (hM C o6.1), 0, 0)) rfl ?_
    refine r_gR odX7_toFace rfl rfl (md_30 hC) ?_
    refine mB_run odX7_toFace 1 (g := (66, [(4, .long o6.2), (0, .ref 239), (1, .int p1), (2, .int p2), (3, .int p3)], [.int p3, .ref 263, .long v16, .long ((v8 * v10) + (v12 * v14)), .long (o6.2 * o6.2), .ref 239], (hM C o6.1), 0, 0)) rfl ?_
    obtain ⟨v18, e19, hq⟩ := bsm hq
    refine r_aJ odX7_toFace rfl (ra_30 hC e19) ?_
    refine mB_run odX7_toFace 2 (g := (69, [(4, .long o6.2), (0, .ref 239), (1, .int p1), (2, .int p2), (3, .int p3)], [.long (((v8 * v10) + (v12 * v14)) + (v16 * v18)), .long (o6.2 * o6.2), .ref 239], (hM C o6.1), 0, 0)) rfl ?_
    obtain ⟨o20, e21, hq⟩ := bsm hq
    refine mB_V (as := [.long (o6.2 * o6.2), .long (((v8 * v10) + (v12 * v14)) + (v16 * v18))]) odX7_toFace okX7_tries lk_7_327 rfl (emX7_tries hC e21) (kO_at (md_O hC)) rfl rfl rfl ?_
    show mB _ mX7_toFace (72, [(4, .long o6.2), (0, .ref 239), (1, .int p1), (2, .int p2), (3, .int p3)], [], (hM C o20), 0, 0)
    cases hq
    exact mB_ret odX7_toFace rfl
def mxX7_toEdges (N : Nat) (p1 : Int32) (p2 : Int32) (p3 : Int32) (p4 : Int32) (h : mS) : Option mS :=
  (rG h 43 p2).bind fun v1 =>
  (rG h 43 p1).bind fun v3 =>
  (rG h 44 p2).bind fun v5 =>
  (rG h 44 p1).bind fun v7 =>
  (rG h 45 p2).bind fun v9 =>
  (rG h 45 p1).bind fun v11 =>
  (rG h 43 p4).bind fun v13 =>
  (rG h 43 p3).bind fun v15 =>
  (rG h 44 p4).bind fun v17 =>
  (rG h 44 p3).bind fun v19 =>
  (rG h 45 p4).bind fun v21 =>
  (rG h 45 p3).bind fun v23 =>
  (rG h 43 p3).bind fun v25 =>
  (rG h 43 p1).bind fun v27 =>
  (rG h 44 p3).bind fun v29 =>
  (rG h 44 p1).bind fun v31 =>
  (rG h 45 p3).bind fun v33 =>
  (rG h 45 p1).bind fun v35 =>
  (mxX7_crosses N (v1 - v3) (v5 - v7) (v9 - v11) (v13 - v15) (v17 - v19) (v21 - v23) h).bind fun o37 =>
  (mxX7_isFlat N  o37).bind fun o39 =>
  if o39.2 = 0 then (
    if ((((((v29 - v31) * (v21 - v23)) - ((v33 - v35) * (v17 - v19))) * (o39.1.2.1 24)) + ((((v33 - v35) * (v13 - v15)) - ((v25 - v27) * (v21 - v23))) * (o39.1.2.1 25))) + ((((v25 - v27) * (v17 - v19)) - ((v29 - v31) * (v13 - v15))) * (o39.1.2.1 26))) < (0 : Int64) then (
      some o39.1) else (
      if ((((o39.1.2.1 24) * (o39.1.2.1 24)) + ((o39.1.2.1 25) * (o39.1.2.1 25))) + ((o39.1.2.1 26) * (o39.1.2.1 26))) < ((((((v29 - v31) * (v21 - v23)) - ((v33 - v35) * (v17 - v19))) * (o39.1.2.1 24)) + ((((v33 - v35) * (v13 - v15)) - ((v25 - v27) * (v21 - v23))) * (o39.1.2.1 25))) + ((((v25 - v27) * (v17 - v19)) - ((v29 - v31) * (v13 - v15))) * (o39.1.2.1 26))) then (
        some o39.1) else (
        if ((((((v29 - v31) * (v9 - v11)) - ((v33 - v35) * (v5 - v7))) * (o39.1.2.1 24)) + ((((v33 - v35) * (v1 - v3)) - ((v25 - v27) * (v9 - v11))) * (o39.1.2.1 25))) + ((((v25 - v27) * (v5 - v7)) - ((v29 - v31) * (v1 - v3))) * (o39.1.2.1 26))) < (0 : Int64) then (
          some o39.1) else (
          if ((((((v29 - v31) * (v9 - v11)) - ((v33 - v35) * (v5 - v7))) * (o39.1.2.1 24)) + ((((v33 - v35) * (v1 - v3)) - ((v25 - v27) * (v9 - v11))) * (o39.1.2.1 25))) + ((((v25 - v27) * (v5 - v7)) - ((v29 - v31) * (v1 - v3))) * (o39.1.2.1 26))) ≤ ((((o39.1.2.1 24) * (o39.1.2.1 24)) + ((o39.1.2.1 25) * (o39.1.2.1 25))) + ((o39.1.2.1 26) * (o39.1.2.1 26))) then (
            (mxX7_tries N (((((v25 - v27) * (o39.1.2.1 24)) + ((v29 - v31) * (o39.1.2.1 25))) + ((v33 - v35) * (o39.1.2.1 26))) * ((((v25 - v27) * (o39.1.2.1 24)) + ((v29 - v31) * (o39.1.2.1 25))) + ((v33 - v35) * (o39.1.2.1 26)))) ((((o39.1.2.1 24) * (o39.1.2.1 24)) + ((o39.1.2.1 25) * (o39.1.2.1 25))) + ((o39.1.2.1 26) * (o39.1.2.1 26))) o39.1).bind fun o46 =>
            some o46) else (
            some o39.1))))) else (
    some o39.1)
set_option maxHeartbeats 4000000 in
set_option maxRecDepth 100000 in
theorem emX7_toEdges {N : Nat} {C : mh} (hC : C.length = 239) {p1 : Int32} {p2 : Int32} {p3 : Int32} {p4 : Int32} {h : mS} {o : mS} (hq : mxX7_toEdges N p1 p2 p3 p4 h = some o) : mC mX7_toEdges [.ref 239, .int p1, .int p2, .int p3, .int p4] (hM C h) (hM C o, none) := by
  refine mC_of okX7_toEdges (Nat.le_of_ble_eq_true rfl) ?_
  unfold mxX7_toEdges at hq
  show mB _ mX7_toEdges (0, [(0, .ref 239), (1, .int p1), (2, .int p2), (3, .int p3), (4, .int p4)], [], (hM C h), 0, 0)
  refine mB_run odX7_toEdges 1 (g := (1, [(0, .ref 239), (1, .int p1), (2, .int p2), (3, .int p3), (4, .int p4)], [.ref 239], (hM C h), 0, 0)) rfl ?_
  refine r_gR odX7_toEdges rfl rfl (md_43 hC) ?_
  refine mB_run odX7_toEdges 1 (g := (5, [(0, .ref 239), (1, .int p1), (2, .int p2), (3, .int p3), (4, .int p4)], [.int p2, .ref 272], (hM C h), 0, 0)) rfl ?_
  obtain ⟨v1, e2, hq⟩ := bsm hq
  refine r_aJ odX7_toEdges rfl (ra_43 hC e2) ?_
  refine mB_run odX7_toEdges 1 (g := (7, [(0, .ref 239), (1, .int p1), (2, .int p2), (3, .int p3), (4, .int p4)], [.ref 239, .long v1], (hM C h), 0, 0)) rfl ?_
  refine r_gR odX7_toEdges rfl rfl (md_43 hC) ?_
  refine mB_run odX7_toEdges 1 (g := (11, [(0, .ref 239), (1, .int p1), (2, .int p2), (3, .int p3), (4, .int p4)], [.int p1, .ref 272, .long v1], (hM C h), 0, 0)) rfl ?_
  obtain ⟨v3, e4, hq⟩ := bsm hq
  refine r_aJ odX7_toEdges rfl (ra_43 hC e4) ?_
  refine mB_run odX7_toEdges 3 (g := (16, [(5, .long (v1 - v3)), (0, .ref 239), (1, .int p1), (2, .int p2), (3, .int p3), (4, .int p4)], [.ref 239], (hM C h), 0, 0)) rfl ?_
  refine r_gR odX7_toEdges rfl rfl (md_44 hC) ?_
  refine mB_run odX7_toEdges 1 (g := (20, [(5, .long (v1 - v3)), (0, .ref 239), (1, .int p1), (2, .int p2), (3, .int p3), (4, .int p4)], [.int p2, .ref 273], (hM C h), 0, 0)) rfl ?_
  obtain ⟨v5, e6, hq⟩ := bsm hq
  refine r_aJ odX7_toEdges rfl (ra_44 hC e6) ?_
  refine mB_run odX7_toEdges 1 (g := (22, [(5, .long (v1 - v3)), (0, .ref 239), (1, .int p1), (2, .int p2), (3, .int p3), (4, .int p4)], [.ref 239, .long v5], (hM C h), 0, 0)) rfl ?_
  refine r_gR odX7_toEdges rfl rfl (md_44 hC) ?_
  refine mB_run odX7_toEdges 1 (g := (26, [(5, .long (v1 - v3)), (0, .ref 239), (1, .int p1), (2, .int p2), (3, .int p3), (4, .int p4)], [.int p1, .ref 273, .long v5], (hM C h), 0, 0)) rfl ?_
  obtain ⟨v7, e8, hq⟩ := bsm hq
  refine r_aJ odX7_toEdges rfl (ra_44 hC e8) ?_
  refine mB_run odX7_toEdges 3 (g := (31, [(7, .long (v5 - v7)), (5, .long (v1 - v3)), (0, .ref 239), (1, .int p1), (2, .int p2), (3, .int p3), (4, .int p4)], [.ref 239], (hM C h), 0, 0)) rfl ?_
  refine r_gR odX7_toEdges rfl rfl (md_45 hC) ?_
  refine mB_run odX7_toEdges 1 (g := (35, [(7, .long (v5 - v7)), (5, .long (v1 - v3)), (0, .ref 239), (1, .int p1), (2, .int p2), (3, .int p3), (4, .int p4)], [.int p2, .ref 274], (hM C h), 0, 0)) rfl ?_
  obtain ⟨v9, e10, hq⟩ := bsm hq
  refine r_aJ odX7_toEdges rfl (ra_45 hC e10) ?_
  refine mB_run odX7_toEdges 1 (g := (37, [(7, .long (v5 - v7)), (5, .long (v1 - v3)), (0, .ref 239), (1, .int p1), (2, .int p2), (3, .int p3), (4, .int p4)], [.ref 239, .long v9], (hM C h), 0, 0)) rfl ?_
  refine r_gR odX7_toEdges rfl rfl (md_45 hC) ?_
  refine mB_run odX7_toEdges 1 (g := (41, [(7, .long (v5 - v7)), (5, .long (v1 - v3)), (0, .ref 239), (1, .int p1), (2, .int p2), (3, .int p3), (4, .int p4)], [.int p1, .ref 274, .long v9], (hM C h), 0, 0)) rfl ?_
  obtain ⟨v11, e12, hq⟩ := bsm hq
  refine r_aJ odX7_toEdges rfl (ra_45 hC e12) ?_
  refine mB_run odX7_toEdges 3 (g := (46, [(9, .long (v9 - v11)), (7, .long (v5 - v7)), (5, .long (v1 - v3)), (0, .ref 239), (1, .int p1), (2, .int p2), (3, .int p3), (4, .int p4)], [.ref 239], (hM C h), 0, 0)) rfl ?_
  refine r_gR odX7_toEdges rfl rfl (md_43 hC) ?_
  refine mB_run odX7_toEdges 1 (g := (51, [(9, .long (v9 - v11)), (7, .long (v5 - v7)), (5, .long (v1 - v3)), (0, .ref 239), (1, .int p1), (2, .int p2), (3, .int p3), (4, .int p4)], [.int p4, .ref 272], (hM C h), 0, 0)) rfl ?_
  obtain ⟨v13, e14, hq⟩ := bsm hq
  refine r_aJ odX7_toEdges rfl (ra_43 hC e14) ?_
  refine mB_run odX7_toEdges 1 (g := (53, [(9, .long (v9 - v11)), (7, .long (v5 - v7)), (5, .long (v1 - v3)), (0, .ref 239), (1, .int p1), (2, .int p2), (3, .int p3), (4, .int p4)], [.ref 239, .long v13], (hM C h), 0, 0)) rfl ?_
  refine r_gR odX7_toEdges rfl rfl (md_43 hC) ?_
  refine mB_run odX7_toEdges 1 (g := (57, [(9, .long (v9 - v11)), (7, .long (v5 - v7)), (5, .long (v1 - v3)), (0, .ref 239), (1, .int p1), (2, .int p2), (3, .int p3), (4, .int p4)], [.int p3, .ref 272, .long v13], (hM C h), 0, 0)) rfl ?_
  obtain ⟨v15, e16, hq⟩ := bsm hq
  refine r_aJ odX7_toEdges rfl (ra_43 hC e16) ?_
  refine mB_run odX7_toEdges 3 (g := (62, [(11, .long (v13 - v15)), (9, .long (v9 - v11)), (7, .long (v5 - v7)), (5, .long (v1 - v3)), (0, .ref 239), (1, .int p1), (2, .int p2), (3, .int p3), (4, .int p4)], [.ref 239], (hM C h), 0, 0)) rfl ?_
  refine r_gR odX7_toEdges rfl rfl (md_44 hC) ?_
  refine mB_run odX7_toEdges 1 (g := (67, [(11, .long (v13 - v15)), (9, .long (v9 - v11)), (7, .long (v5 - v7)), (5, .long (v1 - v3)), (0, .ref 239), (1, .int p1), (2, .int p2), (3, .int p3), (4, .int p4)], [.int p4, .ref 273], (hM C h), 0, 0)) rfl ?_
  obtain ⟨v17, e18, hq⟩ := bsm hq
  refine r_aJ odX7_toEdges rfl (ra_44 hC e18) ?_
  refine mB_run odX7_toEdges 1 (g := (69, [(11, .long (v13 - v15)), (9, .long (v9 - v11)), (7, .long (v5 - v7)), (5, .long (v1 - v3)), (0, .ref 239), (1, .int p1), (2, .int p2), (3, .int p3), (4, .int p4)], [.ref 239, .long v17], (hM C h), 0, 0)) rfl ?_
  refine r_gR odX7_toEdges rfl rfl (md_44 hC) ?_
  refine mB_run odX7_toEdges 1 (g := (73, [(11, .long (v13 - v15)), (9, .long (v9 - v11)), (7, .long (v5 - v7)), (5, .long (v1 - v3)), (0, .ref 239), (1, .int p1), (2, .int p2), (3, .int p3), (4, .int p4)], [.int p3, .ref 273, .long v17], (hM C h), 0, 0)) rfl ?_
  obtain ⟨v19, e20, hq⟩ := bsm hq
  refine r_aJ odX7_toEdges rfl (ra_44 hC e20) ?_
  refine mB_run odX7_toEdges 3 (g := (78, [(13, .long (v17 - v19)), (11, .long (v13 - v15)), (9, .long (v9 - v11)), (7, .long (v5 - v7)), (5, .long (v1 - v3)), (0, .ref 239), (1, .int p1), (2, .int p2), (3, .int p3), (4, .int p4)], [.ref 239], (hM C h), 0, 0)) rfl ?_
  refine r_gR odX7_toEdges rfl rfl (md_45 hC) ?_
  refine mB_run odX7_toEdges 1 (g := (83, [(13, .long (v17 - v19)), (11, .long (v13 - v15)), (9, .long (v9 - v11)), (7, .long (v5 - v7)), (5, .long (v1 - v3)), (0, .ref 239), (1, .int p1), (2, .int p2), (3, .int p3), (4, .int p4)], [.int p4, .ref 274], (hM C h), 0, 0)) rfl ?_
  obtain ⟨v21, e22, hq⟩ := bsm hq
  refine r_aJ odX7_toEdges rfl (ra_45 hC e22) ?_
  refine mB_run odX7_toEdges 1 (g := (85, [(13, .long (v17 - v19)), (11, .long (v13 - v15)), (9, .long (v9 - v11)), (7, .long (v5 - v7)), (5, .long (v1 - v3)), (0, .ref 239), (1, .int p1), (2, .int p2), (3, .int p3), (4, .int p4)], [.ref 239, .long v21], (hM C h), 0, 0)) rfl ?_
  refine r_gR odX7_toEdges rfl rfl (md_45 hC) ?_
  refine mB_run odX7_toEdges 1 (g := (89, [(13, .long (v17 - v19)), (11, .long (v13 - v15)), (9, .long (v9 - v11)), (7, .long (v5 - v7)), (5, .long (v1 - v3)), (0, .ref 239), (1, .int p1), (2, .int p2), (3, .int p3), (4, .int p4)], [.int p3, .ref 274, .long v21], (hM C h), 0, 0)) rfl ?_
  obtain ⟨v23, e24, hq⟩ := bsm hq
  refine r_aJ odX7_toEdges rfl (ra_45 hC e24) ?_
  refine mB_run odX7_toEdges 3 (g := (94, [(15, .long (v21 - v23)), (13, .long (v17 - v19)), (11, .long (v13 - v15)), (9, .long (v9 - v11)), (7, .long (v5 - v7)), (5, .long (v1 - v3)), (0, .ref 239), (1, .int p1), (2, .int p2), (3, .int p3), (4, .int p4)], [.ref 239], (hM C h), 0, 0)) rfl ?_
  refine r_gR odX7_toEdges rfl rfl (md_43 hC) ?_
  refine mB_run odX7_toEdges 1 (g := (98, [(15, .long (v21 - v23)), (13, .long (v17 - v19)), (11, .long (v13 - v15)), (9, .long (v9 - v11)), (7, .long (v5 - v7)), (5, .long (v1 - v3)), (0, .ref 239), (1, .int p1), (2, .int p2), (3, .int p3), (4, .int p4)], [.int p3, .ref 272], (hM C h), 0, 0)) rfl ?_
  obtain ⟨v25, e26, hq⟩ := bsm hq
  refine r_aJ odX7_toEdges rfl (ra_43 hC e26) ?_
  refine mB_run odX7_toEdges 1 (g := (100, [(15, .long (v21 - v23)), (13, .long (v17 - v19)), (11, .long (v13 - v15)), (9, .long (v9 - v11)), (7, .long (v5 - v7)), (5, .long (v1 - v3)), (0, .ref 239), (1, .int p1), (2, .int p2), (3, .int p3), (4, .int p4)], [.ref 239, .long v25], (hM C h), 0, 0)) rfl ?_
  refine r_gR odX7_toEdges rfl rfl (md_43 hC) ?_
  refine mB_run odX7_toEdges 1 (g := (104, [(15, .long (v21 - v23)), (13, .long (v17 - v19)), (11, .long (v13 - v15)), (9, .long (v9 - v11)), (7, .long (v5 - v7)), (5, .long (v1 - v3)), (0, .ref 239), (1, .int p1), (2, .int p2), (3, .int p3), (4, .int p4)], [.int p1, .ref 272, .long v25], (hM C h), 0, 0)) rfl ?_
  obtain ⟨v27, e28, hq⟩ := bsm hq
  refine r_aJ odX7_toEdges rfl (ra_43 hC e28) ?_
  refine mB_run odX7_toEdges 3 (g := (109, [(17, .long (v25 - v27)), (15, .long (v21 - v23)), (13, .long (v17 - v19)), (11, .long (v13 - v15)), (9, .long (v9 - v11)), (7, .long (v5 - v7)), (5, .long (v1 - v3)), (0, .ref 239), (1, .int p1), (2, .int p2), (3, .int p3), (4, .int p4)], [.ref 239], (hM C h), 0, 0)) rfl ?_
  refine r_gR odX7_toEdges rfl rfl (md_44 hC) ?_
  refine mB_run odX7_toEdges 1 (g := (113, [(17, .long (v25 - v27)), (15, .long (v21 - v23)), (13, .long (v17 - v19)), (11, .long (v13 - v15)), (9, .long (v9 - v11)), (7, .long (v5 - v7)), (5, .long (v1 - v3)), (0, .ref 239), (1, .int p1), (2, .int p2), (3, .int p3), (4, .int p4)], [.int p3, .ref 273], (hM C h), 0, 0)) rfl ?_
  obtain ⟨v29, e30, hq⟩ := bsm hq
  refine r_aJ odX7_toEdges rfl (ra_44 hC e30) ?_
  refine mB_run odX7_toEdges 1 (g := (115, [(17, .long (v25 - v27)), (15, .long (v21 - v23)), (13, .long (v17 - v19)), (11, .long (v13 - v15)), (9, .long (v9 - v11)), (7, .long (v5 - v7)), (5, .long (v1 - v3)), (0, .ref 239), (1, .int p1), (2, .int p2), (3, .int p3), (4, .int p4)], [.ref 239, .long v29], (hM C h), 0, 0)) rfl ?_
  refine r_gR odX7_toEdges rfl rfl (md_44 hC) ?_
  refine mB_run odX7_toEdges 1 (g := (119, [(17, .long (v25 - v27)), (15, .long (v21 - v23)), (13, .long (v17 - v19)), (11, .long (v13 - v15)), (9, .long (v9 - v11)), (7, .long (v5 - v7)), (5, .long (v1 - v3)), (0, .ref 239), (1, .int p1), (2, .int p2), (3, .int p3), (4, .int p4)], [.int p1, .ref 273, .long v29], (hM C h), 0, 0)) rfl ?_
  obtain ⟨v31, e32, hq⟩ := bsm hq
  refine r_aJ odX7_toEdges rfl (ra_44 hC e32) ?_
  refine mB_run odX7_toEdges 3 (g := (124, [(19, .long (v29 - v31)), (17, .long (v25 - v27)), (15, .long (v21 - v23)), (13, .long (v17 - v19)), (11, .long (v13 - v15)), (9, .long (v9 - v11)), (7, .long (v5 - v7)), (5, .long (v1 - v3)), (0, .ref 239), (1, .int p1), (2, .int p2), (3, .int p3), (4, .int p4)], [.ref 239], (hM C h), 0, 0)) rfl ?_
  refine r_gR odX7_toEdges rfl rfl (md_45 hC) ?_
  refine mB_run odX7_toEdges 1 (g := (128, [(19, .long (v29 - v31)), (17, .long (v25 - v27)), (15, .long (v21 - v23)), (13, .long (v17 - v19)), (11, .long (v13 - v15)), (9, .long (v9 - v11)), (7, .long (v5 - v7)), (5, .long (v1 - v3)), (0, .ref 239), (1, .int p1), (2, .int p2), (3, .int p3), (4, .int p4)], [.int p3, .ref 274], (hM C h), 0, 0)) rfl ?_
  obtain ⟨v33, e34, hq⟩ := bsm hq
  refine r_aJ odX7_toEdges rfl (ra_45 hC e34) ?_
  refine mB_run odX7_toEdges 1 (g := (130, [(19, .long (v29 - v31)), (17, .long (v25 - v27)), (15, .long (v21 - v23)), (13, .long (v17 - v19)), (11, .long (v13 - v15)), (9, .long (v9 - v11)), (7, .long (v5 - v7)), (5, .long (v1 - v3)), (0, .ref 239), (1, .int p1), (2, .int p2), (3, .int p3), (4, .int p4)], [.ref 239, .long v33], (hM C h), 0, 0)) rfl ?_
  refine r_gR odX7_toEdges rfl rfl (md_45 hC) ?_
  refine mB_run odX7_toEdges 1 (g := (134, [(19, .long (v29 - v31)), (17, .long (v25 - v27)), (15, .long (v21 - v23)), (13, .long (v17 - v19)), (11, .long (v13 - v15)), (9, .long (v9 - v11)), (7, .long (v5 - v7)), (5, .long (v1 - v3)), (0, .ref 239), (1, .int p1), (2, .int p2), (3, .int p3), (4, .int p4)], [.int p1, .ref 274, .long v33], (hM C h), 0, 0)) rfl ?_
  obtain ⟨v35, e36, hq⟩ := bsm hq
  refine r_aJ odX7_toEdges rfl (ra_45 hC e36) ?_
  refine mB_run odX7_toEdges 9 (g := (151, [(21, .long (v33 - v35)), (19, .long (v29 - v31)), (17, .long (v25 - v27)), (15, .long (v21 - v23)), (13, .long (v17 - v19)), (11, .long (v13 - v15)), (9, .long (v9 - v11)), (7, .long (v5 - v7)), (5, .long (v1 - v3)), (0, .ref 239), (1, .int p1), (2, .int p2), (3, .int p3), (4, .int p4)], [.long (v21 - v23), .long (v17 - v19), .long (v13 - v15), .long (v9 - v11), .long (v5 - v7), .long (v1 - v3), .ref 239], (hM C h), 0, 0)) rfl ?_
  obtain ⟨o37, e38, hq⟩ := bsm hq
  refine mB_V (as := [.long (v1 - v3), .long (v5 - v7), .long (v9 - v11), .long (v13 - v15), .long (v17 - v19), .long (v21 - v23)]) odX7_toEdges okX7_crosses lk_7_334 rfl (emX7_crosses hC e38) (kO_at (md_O hC)) rfl rfl rfl ?_
  show mB _ mX7_toEdges (154, [(21, .long (v33 - v35)), (19, .long (v29 - v31)), (17, .long (v25 - v27)), (15, .long (v21 - v23)), (13, .long (v17 - v19)), (11, .long (v13 - v15)), (9, .long (v9 - v11)), (7, .long (v5 - v7)), (5, .long (v1 - v3)), (0, .ref 239), (1, .int p1), (2, .int p2), (3, .int p3), (4, .int p4)], [], (hM C o37), 0, 0)
  refine mB_run odX7_toEdges 1 (g := (155, [(21, .long (v33 - v35)), (19, .long (v29 - v31)), (17, .long (v25 - v27)), (15, .long (v21 - v23)), (13, .long (v17 - v19)), (11, .long (v13 - v15)), (9, .long (v9 - v11)), (7, .long (v5 - v7)), (5, .long (v1 - v3)), (0, .ref 239), (1, .int p1), (2, .int p2), (3, .int p3), (4, .int p4)], [.ref 239], (hM C o37), 0, 0)) rfl ?_
  obtain ⟨o39, e40, hq⟩ := bsm hq
  refine mB_V (as := []) odX7_toEdges okX7_isFlat lk_7_182 rfl (emX7_isFlat hC e40) (kO_at (md_O hC)) rfl rfl rfl ?_
  show mB _ mX7_toEdges (158, [(21, .long (v33 - v35)), (19, .long (v29 - v31)), (17, .long (v25 - v27)), (15, .long (v21 - v23)), (13, .long (v17 - v19)), (11, .long (v13 - v15)), (9, .long (v9 - v11)), (7, .long (v5 - v7)), (5, .long (v1 - v3)), (0, .ref 239), (1, .int p1), (2, .int p2), (3, .int p3), (4, .int p4)], [.int o39.2], (hM C o39.1), 0, 0)
  by_cases c41 : o39.2 = 0
  · rw [if_pos c41] at hq
    refine if_eq_T (t := 162) odX7_toEdges rfl rfl c41 ?_
    refine mB_run odX7_toEdges 1 (g := (163, [(21, .long (v33 - v35)), (19, .long (v29 - v31)), (17, .long (v25 - v27)), (15, .long (v21 - v23)), (13, .long (v17 - v19)), (11, .long (v13 - v15)), (9, .long (v9 - v11)), (7, .long (v5 - v7)), (5, .long (v1 - v3)), (0, .ref 239), (1, .int p1), (2, .int p2), (3, .int p3), (4, .int p4)], [.ref 239], (hM C o39.1), 0, 0)) rfl ?_
    refine r_gJ odX7_toEdges rfl rfl (md_24 hC) ?_
    refine mB_run odX7_toEdges 1 (g := (167, [(21, .long (v33 - v35)), (19, .long (v29 - v31)), (17, .long (v25 - v27)), (15, .long (v21 - v23)), (13, .long (v17 - v19)), (11, .long (v13 - v15)), (9, .long (v9 - v11)), (7, .long (v5 - v7)), (5, .long (v1 - v3)), (0, .ref 239), (1, .int p1), (2, .int p2), (3, .int p3), (4, .int p4)], [.ref 239, .long (o39.1.2.1 24)], (hM C o39.1), 0, 0)) rfl ?_
    refine r_gJ odX7_toEdges rfl rfl (md_24 hC) ?_
    refine mB_run odX7_toEdges 2 (g := (172, [(21, .long (v33 - v35)), (19, .long (v29 - v31)), (17, .long (v25 - v27)), (15, .long (v21 - v23)), (13, .long (v17 - v19)), (11, .long (v13 - v15)), (9, .long (v9 - v11)), (7, .long (v5 - v7)), (5, .long (v1 - v3)), (0, .ref 239), (1, .int p1), (2, .int p2), (3, .int p3), (4, .int p4)], [.ref 239, .long ((o39.1.2.1 24) * (o39.1.2.1 24))], (hM C o39.1), 0, 0)) rfl ?_
    refine r_gJ odX7_toEdges rfl rfl (md_25 hC) ?_
    refine mB_run odX7_toEdges 1 (g := (176, [(21, .long (v33 - v35)), (19, .long (v29 - v31)), (17, .long (v25 - v27)), (15, .long (v21 - v23)), (13, .long (v17 - v19)), (11, .long (v13 - v15)), (9, .long (v9 - v11)), (7, .long (v5 - v7)), (5, .long (v1 - v3)), (0, .ref 239), (1, .int p1), (2, .int p2), (3, .int p3), (4, .int p4)], [.ref 239, .long (o39.1.2.1 25), .long ((o39.1.2.1 24) * (o39.1.2.1 24))], (hM C o39.1), 0, 0)) rfl ?_
    refine r_gJ odX7_toEdges rfl rfl (md_25 hC) ?_
    refine mB_run odX7_toEdges 3 (g := (182, [(21, .long (v33 - v35)), (19, .long (v29 - v31)), (17, .long (v25 - v27)), (15, .long (v21 - v23)), (13, .long (v17 - v19)), (11, .long (v13 - v15)), (9, .long (v9 - v11)), (7, .long (v5 - v7)), (5, .long (v1 - v3)), (0, .ref 239), (1, .int p1), (2, .int p2), (3, .int p3), (4, .int p4)], [.ref 239, .long (((o39.1.2.1 24) * (o39.1.2.1 24)) + ((o39.1.2.1 25) * (o39.1.2.1 25)))], (hM C o39.1), 0, 0)) rfl ?_
    refine r_gJ odX7_toEdges rfl rfl (md_26 hC) ?_
    refine mB_run odX7_toEdges 1 (g := (186, [(21, .long (v33 - v35)), (19, .long (v29 - v31)), (17, .long (v25 - v27)), (15, .long (v21 - v23)), (13, .long (v17 - v19)), (11, .long (v13 - v15)), (9, .long (v9 - v11)), (7, .long (v5 - v7)), (5, .long (v1 - v3)), (0, .ref 239), (1, .int p1), (2, .int p2), (3, .int p3), (4, .int p4)], [.ref 239, .long (o39.1.2.1 26), .long (((o39.1.2.1 24) * (o39.1.2.1 24)) + ((o39.1.2.1 25) * (o39.1.2.1 25)))], (hM C o39.1), 0, 0)) rfl ?_
    refine r_gJ odX7_toEdges rfl rfl (md_26 hC) ?_
    refine mB_run odX7_toEdges 11 (g := (205, [(23, .long ((((o39.1.2.1 24) * (o39.1.2.1 24)) + ((o39.1.2.1 25) * (o39.1.2.1 25))) + ((o39.1.2.1 26) * (o39.1.2.1 26)))), (21, .long (v33 - v35)), (19, .long (v29 - v31)), (17, .long (v25 - v27)), (15, .long (v21 - v23)), (13, .long (v17 - v19)), (11, .long (v13 - v15)), (9, .long (v9 - v11)), (7, .long (v5 - v7)), (5, .long (v1 - v3)), (0, .ref 239), (1, .int p1), (2, .int p2), (3, .int p3), (4, .int p4)], [.ref 239, .long (((v29 - v31) * (v21 - v23)) - ((v33 - v35) * (v17 - v19)))], (hM C o39.1), 0, 0)) rfl ?_
    refine r_gJ odX7_toEdges rfl rfl (md_24 hC) ?_
    refine mB_run odX7_toEdges 9 (g := (221, [(23, .long ((((o39.1.2.1 24) * (o39.1.2.1 24)) + ((o39.1.2.1 25) * (o39.1.2.1 25))) + ((o39.1.2.1 26) * (o39.1.2.1 26)))), (21, .long (v33 - v35)), (19, .long (v29 - v31)), (17, .long (v25 - v27)), (15, .long (v21 - v23)), (13, .long (v17 - v19)), (11, .long (v13 - v15)), (9, .long (v9 - v11)), (7, .long (v5 - v7)), (5, .long (v1 - v3)), (0, .ref 239), (1, .int p1), (2, .int p2), (3, .int p3), (4, .int p4)], [.ref 239, .long (((v33 - v35) * (v13 - v15)) - ((v25 - v27) * (v21 - v23))), .long ((((v29 - v31) * (v21 - v23)) - ((v33 - v35) * (v17 - v19))) * (o39.1.2.1 24))], (hM C o39.1), 0, 0)) rfl ?_
    refine r_gJ odX7_toEdges rfl rfl (md_25 hC) ?_
    refine mB_run odX7_toEdges 10 (g := (238, [(23, .long ((((o39.1.2.1 24) * (o39.1.2.1 24)) + ((o39.1.2.1 25) * (o39.1.2.1 25))) + ((o39.1.2.1 26) * (o39.1.2.1 26)))), (21, .long (v33 - v35)), (19, .long (v29 - v31)), (17, .long (v25 - v27)), (15, .long (v21 - v23)), (13, .long (v17 - v19)), (11, .long (v13 - v15)), (9, .long (v9 - v11)), (7, .long (v5 - v7)), (5, .long (v1 - v3)), (0, .ref 239), (1, .int p1), (2, .int p2), (3, .int p3), (4, .int p4)], [.ref 239, .long (((v25 - v27) * (v17 - v19)) - ((v29 - v31) * (v13 - v15))), .long (((((v29 - v31) * (v21 - v23)) - ((v33 - v35) * (v17 - v19))) * (o39.1.2.1 24)) + ((((v33 - v35) * (v13 - v15)) - ((v25 - v27) * (v21 - v23))) * (o39.1.2.1 25)))], (hM C o39.1), 0, 0)) rfl ?_
    refine r_gJ odX7_toEdges rfl rfl (md_26 hC) ?_
    refine mB_run odX7_toEdges 11 (g := (257, [(25, .long ((((((v29 - v31) * (v21 - v23)) - ((v33 - v35) * (v17 - v19))) * (o39.1.2.1 24)) + ((((v33 - v35) * (v13 - v15)) - ((v25 - v27) * (v21 - v23))) * (o39.1.2.1 25))) + ((((v25 - v27) * (v17 - v19)) - ((v29 - v31) * (v13 - v15))) * (o39.1.2.1 26)))), (23, .long ((((o39.1.2.1 24) * (o39.1.2.1 24)) + ((o39.1.2.1 25) * (o39.1.2.1 25))) + ((o39.1.2.1 26) * (o39.1.2.1 26)))), (21, .long (v33 - v35)), (19, .long (v29 - v31)), (17, .long (v25 - v27)), (15, .long (v21 - v23)), (13, .long (v17 - v19)), (11, .long (v13 - v15)), (9, .long (v9 - v11)), (7, .long (v5 - v7)), (5, .long (v1 - v3)), (0, .ref 239), (1, .int p1), (2, .int p2), (3, .int p3), (4, .int p4)], [.ref 239, .long (((v29 - v31) * (v9 - v11)) - ((v33 - v35) * (v5 - v7)))], (hM C o39.1), 0, 0)) rfl ?_
    refine r_gJ odX7_toEdges rfl rfl (md_24 hC) ?_
    refine mB_run odX7_toEdges 9 (g := (273, [(25, .long ((((((v29 - v31) * (v21 - v23)) - ((v33 - v35) * (v17 - v19))) * (o39.1.2.1 24)) + ((((v33 - v35) * (v13 - v15)) - ((v25 - v27) * (v21 - v23))) * (o39.1.2.1 25))) + ((((v25 - v27) * (v17 - v19)) - ((v29 - v31) * (v13 - v15))) * (o39.1.2.1 26)))), (23, .long ((((o39.1.2.1 24) * (o39.1.2.1 24)) + ((o39.1.2.1 25) * (o39.1.2.1 25))) + ((o39.1.2.1 26) * (o39.1.2.1 26)))), (21, .long (v33 - v35)), (19, .long (v29 - v31)), (17, .long (v25 - v27)), (15, .long (v21 - v23)), (13, .long (v17 - v19)), (11, .long (v13 - v15)), (9, .long (v9 - v11)), (7, .long (v5 - v7)), (5, .long (v1 - v3)), (0, .ref 239), (1, .int p1), (2, .int p2), (3, .int p3), (4, .int p4)], [.ref 239, .long (((v33 - v35) * (v1 - v3)) - ((v25 - v27) * (v9 - v11))), .long ((((v29 - v31) * (v9 - v11)) - ((v33 - v35) * (v5 - v7))) * (o39.1.2.1 24))], (hM C o39.1), 0, 0)) rfl ?_
    refine r_gJ odX7_toEdges rfl rfl (md_25 hC) ?_
    refine mB_run odX7_toEdges 10 (g := (290, [(25, .long ((((((v29 - v31) * (v21 - v23)) - ((v33 - v35) * (v17 - v19))) * (o39.1.2.1 24)) + ((((v33 - v35) * (v13 - v15)) - ((v25 - v27) * (v21 - v23))) * (o39.1.2.1 25))) + ((((v25 - v27) * (v17 - v19)) - ((v29 - v31) * (v13 - v15))) * (o39.1.2.1 26)))), (23, .long ((((o39.1.2.1 24) * (o39.1.2.1 24)) + ((o39.1.2.1 25) * (o39.1.2.1 25))) + ((o39.1.2.1 26) * (o39.1.2.1 26)))), (21, .long (v33 - v35)), (19, .long (v29 - v31)), (17, .long (v25 - v27)), (15, .long (v21 - v23)), (13, .long (v17 - v19)), (11, .long (v13 - v15)), (9, .long (v9 - v11)), (7, .long (v5 - v7)), (5, .long (v1 - v3)), (0, .ref 239), (1, .int p1), (2, .int p2), (3, .int p3), (4, .int p4)], [.ref 239, .long (((v25 - v27) * (v5 - v7)) - ((v29 - v31) * (v1 - v3))), .long (((((v29 - v31) * (v9 - v11)) - ((v33 - v35) * (v5 - v7))) * (o39.1.2.1 24)) + ((((v33 - v35) * (v1 - v3)) - ((v25 - v27) * (v9 - v11))) * (o39.1.2.1 25)))], (hM C o39.1), 0, 0)) rfl ?_
    refine r_gJ odX7_toEdges rfl rfl (md_26 hC) ?_
    refine mB_run odX7_toEdges 5 (g := (300, [(27, .long ((((((v29 - v31) * (v9 - v11)) - ((v33 - v35) * (v5 - v7))) * (o39.1.2.1 24)) + ((((v33 - v35) * (v1 - v3)) - ((v25 - v27) * (v9 - v11))) * (o39.1.2.1 25))) + ((((v25 - v27) * (v5 - v7)) - ((v29 - v31) * (v1 - v3))) * (o39.1.2.1 26)))), (25, .long ((((((v29 - v31) * (v21 - v23)) - ((v33 - v35) * (v17 - v19))) * (o39.1.2.1 24)) + ((((v33 - v35) * (v13 - v15)) - ((v25 - v27) * (v21 - v23))) * (o39.1.2.1 25))) + ((((v25 - v27) * (v17 - v19)) - ((v29 - v31) * (v13 - v15))) * (o39.1.2.1 26)))), (23, .long ((((o39.1.2.1 24) * (o39.1.2.1 24)) + ((o39.1.2.1 25) * (o39.1.2.1 25))) + ((o39.1.2.1 26) * (o39.1.2.1 26)))), (21, .long (v33 - v35)), (19, .long (v29 - v31)), (17, .long (v25 - v27)), (15, .long (v21 - v23)), (13, .long (v17 - v19)), (11, .long (v13 - v15)), (9, .long (v9 - v11)), (7, .long (v5 - v7)), (5, .long (v1 - v3)), (0, .ref 239), (1, .int p1), (2, .int p2), (3, .int p3), (4, .int p4)], [.long (0 : Int64), .long ((((((v29 - v31) * (v21 - v23)) - ((v33 - v35) * (v17 - v19))) * (o39.1.2.1 24)) + ((((v33 - v35) * (v13 - v15)) - ((v25 - v27) * (v21 - v23))) * (o39.1.2.1 25))) + ((((v25 - v27) * (v17 - v19)) - ((v29 - v31) * (v13 - v15))) * (o39.1.2.1 26)))], (hM C o39.1), 0, 0)) rfl ?_
    by_cases c42 : ((((((v29 - v31) * (v21 - v23)) - ((v33 - v35) * (v17 - v19))) * (o39.1.2.1 24)) + ((((v33 - v35) * (v13 - v15)) - ((v25 - v27) * (v21 - v23))) * (o39.1.2.1 25))) + ((((v25 - v27) * (v17 - v19)) - ((v29 - v31) * (v13 - v15))) * (o39.1.2.1 26))) < (0 : Int64)
    · rw [if_pos c42] at hq
      refine lc_lt_T (t := 327) odX7_toEdges rfl rfl rfl c42 ?_
      cases hq
      exact mB_ret odX7_toEdges rfl
    · rw [if_neg c42] at hq
      refine lc_lt_F (t := 327) odX7_toEdges rfl rfl rfl c42 ?_
      refine mB_run odX7_toEdges 2 (g := (308, [(27, .long ((((((v29 - v31) * (v9 - v11)) - ((v33 - v35) * (v5 - v7))) * (o39.1.2.1 24)) + ((((v33 - v35) * (v1 - v3)) - ((v25 - v27) * (v9 - v11))) * (o39.1.2.1 25))) + ((((v25 - v27) * (v5 - v7)) - ((v29 - v31) * (v1 - v3))) * (o39.1.2.1 26)))), (25, .long ((((((v29 - v31) * (v21 - v23)) - ((v33 - v35) * (v17 - v19))) * (o39.1.2.1 24)) + ((((v33 - v35) * (v13 - v15)) - ((v25 - v27) * (v21 - v23))) * (o39.1.2.1 25))) + ((((v25 - v27) * (v17 - v19)) - ((v29 - v31) * (v13 - v15))) * (o39.1.2.1 26)))), (23, .long ((((o39.1.2.1 24) * (o39.1.2.1 24)) + ((o39.1.2.1 25) * (o39.1.2.1 25))) + ((o39.1.2.1 26) * (o39.1.2.1 26)))), (21, .long (v33 - v35)), (19, .long (v29 - v31)), (17, .long (v25 - v27)), (15, .long (v21 - v23)), (13, .long (v17 - v19)), (11, .long (v13 - v15)), (9, .long (v9 - v11)), (7, .long (v5 - v7)), (5, .long (v1 - v3)), (0, .ref 239), (1, .int p1), (2, .int p2), (3, .int p3), (4, .int p4)], [.long ((((o39.1.2.1 24) * (o39.1.2.1 24)) + ((o39.1.2.1 25) * (o39.1.2.1 25))) + ((o39.1.2.1 26) * (o39.1.2.1 26))), .long ((((((v29 - v31) * (v21 - v23)) - ((v33 - v35) * (v17 - v19))) * (o39.1.2.1 24)) + ((((v33 - v35) * (v13 - v15)) - ((v25 - v27) * (v21 - v23))) * (o39.1.2.1 25))) + ((((v25 - v27) * (v17 - v19)) - ((v29 - v31) * (v13 - v15))) * (o39.1.2.1 26)))], (hM C o39.1), 0, 0)) rfl ?_
      by_cases c43 : ((((o39.1.2.1 24) * (o39.1.2.1 24)) + ((o39.1.2.1 25) * (o39.1.2.1 25))) + ((o39.1.2.1 26) * (o39.1.2.1 26))) < ((((((v29 - v31) * (v21 - v23)) - ((v33 - v35) * (v17 - v19))) * (o39.1.2.1 24)) + ((((v33 - v35) * (v13 - v15)) - ((v25 - v27) * (v21 - v23))) * (o39.1.2.1 25))) + ((((v25 - v27) * (v17 - v19)) - ((v29 - v31) * (v13 - v15))) * (o39.1.2.1 26)))
      · rw [if_pos c43] at hq
        refine lc_gt_T (t := 327) odX7_toEdges rfl rfl rfl c43 ?_
        cases hq
        exact mB_ret odX7_toEdges rfl
      · rw [if_neg c43] at hq
        refine lc_gt_F (t := 327) odX7_toEdges rfl rfl rfl c43 ?_
        refine mB_run odX7_toEdges 2 (g := (315, [(27, .long ((((((v29 - v31) * (v9 - v11)) - ((v33 - v35) * (v5 - v7))) * (o39.1.2.1 24)) + ((((v33 - v35) * (v1 - v3)) - ((v25 - v27) * (v9 - v11))) * (o39.1.2.1 25))) + ((((v25 - v27) * (v5 - v7)) - ((v29 - v31) * (v1 - v3))) * (o39.1.2.1 26)))), (25, .long ((((((v29 - v31) * (v21 - v23)) - ((v33 - v35) * (v17 - v19))) * (o39.1.2.1 24)) + ((((v33 - v35) * (v13 - v15)) - ((v25 - v27) * (v21 - v23))) * (o39.1.2.1 25))) + ((((v25 - v27) * (v17 - v19)) - ((v29 - v31) * (v13 - v15))) * (o39.1.2.1 26)))), (23, .long ((((o39.1.2.1 24) * (o39.1.2.1 24)) + ((o39.1.2.1 25) * (o39.1.2.1 25))) + ((o39.1.2.1 26) * (o39.1.2.1 26)))), (21, .long (v33 - v35)), (19, .long (v29 - v31)), (17, .long (v25 - v27)), (15, .long (v21 - v23)), (13, .long (v17 - v19)), (11, .long (v13 - v15)), (9, .long (v9 - v11)), (7, .long (v5 - v7)), (5, .long (v1 - v3)), (0, .ref 239), (1, .int p1), (2, .int p2), (3, .int p3), (4, .int p4)], [.long (0 : Int64), .long ((((((v29 - v31) * (v9 - v11)) - ((v33 - v35) * (v5 - v7))) * (o39.1.2.1 24)) + ((((v33 - v35) * (v1 - v3)) - ((v25 - v27) * (v9 - v11))) * (o39.1.2.1 25))) + ((((v25 - v27) * (v5 - v7)) - ((v29 - v31) * (v1 - v3))) * (o39.1.2.1 26)))], (hM C o39.1), 0, 0)) rfl ?_
        by_cases c44 : ((((((v29 - v31) * (v9 - v11)) - ((v33 - v35) * (v5 - v7))) * (o39.1.2.1 24)) + ((((v33 - v35) * (v1 - v3)) - ((v25 - v27) * (v9 - v11))) * (o39.1.2.1 25))) + ((((v25 - v27) * (v5 - v7)) - ((v29 - v31) * (v1 - v3))) * (o39.1.2.1 26))) < (0 : Int64)
        · rw [if_pos c44] at hq
          refine lc_lt_T (t := 327) odX7_toEdges rfl rfl rfl c44 ?_
          cases hq
          exact mB_ret odX7_toEdges rfl
        · rw [if_neg c44] at hq
          refine lc_lt_F (t := 327) odX7_toEdges rfl rfl rfl c44 ?_
          refine mB_run odX7_toEdges 2 (g := (323, [(27, .long ((((((v29 - v31) * (v9 - v11)) - ((v33 - v35) * (v5 - v7))) * (o39.1.2.1 24)) + ((((v33 - v35) * (v1 - v3)) - ((v25 - v27) * (v9 - v11))) * (o39.1.2.1 25))) + ((((v25 - v27) * (v5 - v7)) - ((v29 - v31) * (v1 - v3))) * (o39.1.2.1 26)))), (25, .long ((((((v29 - v31) * (v21 - v23)) - ((v33 - v35) * (v17 - v19))) * (o39.1.2.1 24)) + ((((v33 - v35) * (v13 - v15)) - ((v25 - v27) * (v21 - v23))) * (o39.1.2.1 25))) + ((((v25 - v27) * (v17 - v19)) - ((v29 - v31) * (v13 - v15))) * (o39.1.2.1 26)))), (23, .long ((((o39.1.2.1 24) * (o39.1.2.1 24)) + ((o39.1.2.1 25) * (o39.1.2.1 25))) + ((o39.1.2.1 26) * (o39.1.2.1 26)))), (21, .long (v33 - v35)), (19, .long (v29 - v31)), (17, .long (v25 - v27)), (15, .long (v21 - v23)), (13, .long (v17 - v19)), (11, .long (v13 - v15)), (9, .long (v9 - v11)), (7, .long (v5 - v7)), (5, .long (v1 - v3)), (0, .ref 239), (1, .int p1), (2, .int p2), (3, .int p3), (4, .int p4)], [.long ((((o39.1.2.1 24) * (o39.1.2.1 24)) + ((o39.1.2.1 25) * (o39.1.2.1 25))) + ((o39.1.2.1 26) * (o39.1.2.1 26))), .long ((((((v29 - v31) * (v9 - v11)) - ((v33 - v35) * (v5 - v7))) * (o39.1.2.1 24)) + ((((v33 - v35) * (v1 - v3)) - ((v25 - v27) * (v9 - v11))) * (o39.1.2.1 25))) + ((((v25 - v27) * (v5 - v7)) - ((v29 - v31) * (v1 - v3))) * (o39.1.2.1 26)))], (hM C o39.1), 0, 0)) rfl ?_
          by_cases c45 : ((((((v29 - v31) * (v9 - v11)) - ((v33 - v35) * (v5 - v7))) * (o39.1.2.1 24)) + ((((v33 - v35) * (v1 - v3)) - ((v25 - v27) * (v9 - v11))) * (o39.1.2.1 25))) + ((((v25 - v27) * (v5 - v7)) - ((v29 - v31) * (v1 - v3))) * (o39.1.2.1 26))) ≤ ((((o39.1.2.1 24) * (o39.1.2.1 24)) + ((o39.1.2.1 25) * (o39.1.2.1 25))) + ((o39.1.2.1 26) * (o39.1.2.1 26)))
          · rw [if_pos c45] at hq
            refine lc_le_T (t := 328) odX7_toEdges rfl rfl rfl c45 ?_
            refine mB_run odX7_toEdges 2 (g := (331, [(27, .long ((((((v29 - v31) * (v9 - v11)) - ((v33 - v35) * (v5 - v7))) * (o39.1.2.1 24)) + ((((v33 - v35) * (v1 - v3)) - ((v25 - v27) * (v9 - v11))) * (o39.1.2.1 25))) + ((((v25 - v27) * (v5 - v7)) - ((v29 - v31) * (v1 - v3))) * (o39.1.2.1 26)))), (25, .long ((((((v29 - v31) * (v21 - v23)) - ((v33 - v35) * (v17 - v19))) * (o39.1.2.1 24)) + ((((v33 - v35) * (v13 - v15)) - ((v25 - v27) * (v21 - v23))) * (o39.1.2.1 25))) + ((((v25 - v27) * (v17 - v19)) - ((v29 - v31) * (v13 - v15))) * (o39.1.2.1 26)))), (23, .long ((((o39.1.2.1 24) * (o39.1.2.1 24)) + ((o39.1.2.1 25) * (o39.1.2.1 25))) + ((o39.1.2.1 26) * (o39.1.2.1 26)))), (21, .long (v33 - v35)), (19, .long (v29 - v31)), (17, .long (v25 - v27)), (15, .long (v21 - v23)), (13, .long (v17 - v19)), (11, .long (v13 - v15)), (9, .long (v9 - v11)), (7, .long (v5 - v7)), (5, .long (v1 - v3)), (0, .ref 239), (1, .int p1), (2, .int p2), (3, .int p3), (4, .int p4)], [.ref 239, .long (v25 - v27)], (hM C o39.1), 0, 0)) rfl ?_
            refine r_gJ odX7_toEdges rfl rfl (md_24 hC) ?_
            refine mB_run odX7_toEdges 3 (g := (338, [(27, .long ((((((v29 - v31) * (v9 - v11)) - ((v33 - v35) * (v5 - v7))) * (o39.1.2.1 24)) + ((((v33 - v35) * (v1 - v3)) - ((v25 - v27) * (v9 - v11))) * (o39.1.2.1 25))) + ((((v25 - v27) * (v5 - v7)) - ((v29 - v31) * (v1 - v3))) * (o39.1.2.1 26)))), (25, .long ((((((v29 - v31) * (v21 - v23)) - ((v33 - v35) * (v17 - v19))) * (o39.1.2.1 24)) + ((((v33 - v35) * (v13 - v15)) - ((v25 - v27) * (v21 - v23))) * (o39.1.2.1 25))) + ((((v25 - v27) * (v17 - v19)) - ((v29 - v31) * (v13 - v15))) * (o39.1.2.1 26)))), (23, .long ((((o39.1.2.1 24) * (o39.1.2.1 24)) + ((o39.1.2.1 25) * (o39.1.2.1 25))) + ((o39.1.2.1 26) * (o39.1.2.1 26)))), (21, .long (v33 - v35)), (19, .long (v29 - v31)), (17, .long (v25 - v27)), (15, .long (v21 - v23)), (13, .long (v17 - v19)), (11, .long (v13 - v15)), (9, .long (v9 - v11)), (7, .long (v5 - v7)), (5, .long (v1 - v3)), (0, .ref 239), (1, .int p1), (2, .int p2), (3, .int p3), (4, .int p4)], [.ref 239, .long (v29 - v31), .long ((v25 - v27) * (o39.1.2.1 24))], (hM C o39.1), 0, 0)) rfl ?_
            refine r_gJ odX7_toEdges rfl rfl (md_25 hC) ?_
            refine mB_run odX7_toEdges 4 (g := (346, [(27, .long ((((((v29 - v31) * (v9 - v11)) - ((v33 - v35) * (v5 - v7))) * (o39.1.2.1 24)) + ((((v33 - v35) * (v1 - v3)) - ((v25 - v27) * (v9 - v11))) * (o39.1.2.1 25))) + ((((v25 - v27) * (v5 - v7)) - ((v29 - v31) * (v1 - v3))) * (o39.1.2.1 26)))), (25, .long ((((((v29 - v31) * (v21 - v23)) - ((v33 - v35) * (v17 - v19))) * (o39.1.2.1 24)) + ((((v33 - v35) * (v13 - v15)) - ((v25 - v27) * (v21 - v23))) * (o39.1.2.1 25))) + ((((v25 - v27) * (v17 - v19)) - ((v29 - v31) * (v13 - v15))) * (o39.1.2.1 26)))), (23, .long ((((o39.1.2.1 24) * (o39.1.2.1 24)) + ((o39.1.2.1 25) * (o39.1.2.1 25))) + ((o39.1.2.1 26) * (o39.1.2.1 26)))), (21, .long (v33 - v35)), (19, .long (v29 - v31)), (17, .long (v25 - v27)), (15, .long (v21 - v23)), (13, .long (v17 - v19)), (11, .long (v13 - v15)), (9, .long (v9 - v11)), (7, .long (v5 - v7)), (5, .long (v1 - v3)), (0, .ref 239), (1, .int p1), (2, .int p2), (3, .int p3), (4, .int p4)], [.ref 239, .long (v33 - v35), .long (((v25 - v27) * (o39.1.2.1 24)) + ((v29 - v31) * (o39.1.2.1 25)))], (hM C o39.1), 0, 0)) rfl ?_
            refine r_gJ odX7_toEdges rfl rfl (md_26 hC) ?_
            refine mB_run odX7_toEdges 8 (g := (361, [(29, .long ((((v25 - v27) * (o39.1.2.1 24)) + ((v29 - v31) * (o39.1.2.1 25))) + ((v33 - v35) * (o39.1.2.1 26)))), (27, .long ((((((v29 - v31) * (v9 - v11)) - ((v33 - v35) * (v5 - v7))) * (o39.1.2.1 24)) + ((((v33 - v35) * (v1 - v3)) - ((v25 - v27) * (v9 - v11))) * (o39.1.2.1 25))) + ((((v25 - v27) * (v5 - v7)) - ((v29 - v31) * (v1 - v3))) * (o39.1.2.1 26)))), (25, .long ((((((v29 - v31) * (v21 - v23)) - ((v33 - v35) * (v17 - v19))) * (o39.1.2.1 24)) + ((((v33 - v35) * (v13 - v15)) - ((v25 - v27) * (v21 - v23))) * (o39.1.2.1 25))) + ((((v25 - v27) * (v17 - v19)) - ((v29 - v31) * (v13 - v15))) * (o39.1.2.1 26)))), (23, .long ((((o39.1.2.1 24) * (o39.1.2.1 24)) + ((o39.1.2.1 25) * (o39.1.2.1 25))) + ((o39.1.2.1 26) * (o39.1.2.1 26)))), (21, .long (v33 - v35)), (19, .long (v29 - v31)), (17, .long (v25 - v27)), (15, .long (v21 - v23)), (13, .long (v17 - v19)), (11, .long (v13 - v15)), (9, .long (v9 - v11)), (7, .long (v5 - v7)), (5, .long (v1 - v3)), (0, .ref 239), (1, .int p1), (2, .int p2), (3, .int p3), (4, .int p4)], [.long ((((o39.1.2.1 24) * (o39.1.2.1 24)) + ((o39.1.2.1 25) * (o39.1.2.1 25))) + ((o39.1.2.1 26) * (o39.1.2.1 26))), .long (((((v25 - v27) * (o39.1.2.1 24)) + ((v29 - v31) * (o39.1.2.1 25))) + ((v33 - v35) * (o39.1.2.1 26))) * ((((v25 - v27) * (o39.1.2.1 24)) + ((v29 - v31) * (o39.1.2.1 25))) + ((v33 - v35) * (o39.1.2.1 26)))), .ref 239], (hM C o39.1), 0, 0)) rfl ?_
            obtain ⟨o46, e47, hq⟩ := bsm hq
            refine mB_V (as := [.long (((((v25 - v27) * (o39.1.2.1 24)) + ((v29 - v31) * (o39.1.2.1 25))) + ((v33 - v35) * (o39.1.2.1 26))) * ((((v25 - v27) * (o39.1.2.1 24)) + ((v29 - v31) * (o39.1.2.1 25))) + ((v33 - v35) * (o39.1.2.1 26)))), .long ((((o39.1.2.1 24) * (o39.1.2.1 24)) + ((o39.1.2.1 25) * (o39.1.2.1 25))) + ((o39.1.2.1 26) * (o39.1.2.1 26)))]) odX7_toEdges okX7_tries lk_7_327 rfl (emX7_tries hC e47) (kO_at (md_O hC)) rfl rfl rfl ?_
            show mB _ mX7_toEdges (364, [(29, .long ((((v25 - v27) * (o39.1.2.1 24)) + ((v29 - v31) * (o39.1.2.1 25))) + ((v33 - v35) * (o39.1.2.1 26)))), (27, .long ((((((v29 - v31) * (v9 - v11)) - ((v33 - v35) * (v5 - v7))) * (o39.1.2.1 24)) + ((((v33 - v35) * (v1 - v3)) - ((v25 - v27) * (v9 - v11))) * (o39.1.2.1 25))) + ((((v25 - v27) * (v5 - v7)) - ((v29 - v31) * (v1 - v3))) * (o39.1.2.1 26)))), (25, .long ((((((v29 - v31) * (v21 - v23)) - ((v33 - v35) * (v17 - v19))) * (o39.1.2.1 24)) + ((((v33 - v35) * (v13 - v15)) - ((v25 - v27) * (v21 - v23))) * (o39.1.2.1 25))) + ((((v25 - v27) * (v17 - v19)) - ((v29 - v31) * (v13 - v15))) * (o39.1.2.1 26)))), (23, .long ((((o39.1.2.1 24) * (o39.1.2.1 24)) + ((o39.1.2.1 25) * (o39.1.2.1 25))) + ((o39.1.2.1 26) * (o39.1.2.1 26)))), (21, .long (v33 - v35)), (19, .long (v29 - v31)), (17, .long (v25 - v27)), (15, .long (v21 - v23)), (13, .long (v17 - v19)), (11, .long (v13 - v15)), (9, .long (v9 - v11)), (7, .long (v5 - v7)), (5, .long (v1 - v3)), (0, .ref 239), (1, .int p1), (2, .int p2), (3, .int p3), (4, .int p4)], [], (hM C o46), 0, 0)
            cases hq
            exact mB_ret odX7_toEdges rfl
          · rw [if_neg c45] at hq
            refine lc_le_F (t := 328) odX7_toEdges rfl rfl rfl c45 ?_
            cases hq
            exact mB_ret odX7_toEdges rfl
  · rw [if_neg c41] at hq
    refine if_eq_F (t := 162) odX7_toEdges rfl rfl c41 ?_
    cases hq
    exact mB_ret odX7_toEdges rfl
