def mxX7_rings_116 (N : Nat) (rec12 : Int32 → mS → Option mS) (rec36 : Int32 → Int32 → Int32 → mS → Option mS) (x1 : Int32) (x2 : Int32) (x3 : Int32) (h : mS) : Option mS :=
  rec36 x1 x2 (x3 + (1 : Int32)) h
set_option maxHeartbeats 4000000 in
set_option maxRecDepth 100000 in
theorem emX7_rings_116 {N : Nat} {C : mh} (hC : C.length = 239) {rec12 : Int32 → mS → Option mS} {rec36 : Int32 → Int32 → Int32 → mS → Option mS} (hrec12 : ∀ (x1 : Int32) (h : mS) {o : mS}, rec12 x1 h = some o → mB (gO mX7_rings (hM C o, none)) mX7_rings (12, [(0, .ref 239), (1, .int x1)], [], (hM C h), 0, 0)) (hrec36 : ∀ (x1 : Int32) (x2 : Int32) (x3 : Int32) (h : mS) {o : mS}, rec36 x1 x2 x3 h = some o → mB (gO mX7_rings (hM C o, none)) mX7_rings (36, [(0, .ref 239), (1, .int x1), (2, .int x2), (3, .int x3)], [], (hM C h), 0, 0)) (x1 : Int32) (x2 : Int32) (x3 : Int32) (h : mS) {o : mS} (hq : mxX7_rings_116 N rec12 rec36 x1 x2 x3 h = some o) : mB (gO mX7_rings (hM C o, none)) mX7_rings (116, [(0, .ref 239), (1, .int x1), (2, .int x2), (3, .int x3)], [], (hM C h), 0, 0) := by
  unfold mxX7_rings_116 at hq
  refine mB_run odX7_rings 2 (g := (36, [(3, .int (x3 + (1 : Int32))), (0, .ref 239), (1, .int x1), (2, .int x2)], [], (hM C h), 0, 0)) rfl ?_
  refine mB_lv [1, 2, 3, 0] (lv' := [(0, .ref 239), (1, .int x1), (2, .int x2), (3, .int (x3 + (1 : Int32)))]) rfl ?_
  exact hrec36 _ _ _ _ hq
def mxX7_rings_113 (N : Nat) (rec12 : Int32 → mS → Option mS) (rec36 : Int32 → Int32 → Int32 → mS → Option mS) (x1 : Int32) (x3 : Int32) (x4 : Int32) (h : mS) : Option mS :=
  mxX7_rings_116 N rec12 rec36 x1 x4 x3 h
set_option maxHeartbeats 4000000 in
set_option maxRecDepth 100000 in
theorem emX7_rings_113 {N : Nat} {C : mh} (hC : C.length = 239) {rec12 : Int32 → mS → Option mS} {rec36 : Int32 → Int32 → Int32 → mS → Option mS} (hrec12 : ∀ (x1 : Int32) (h : mS) {o : mS}, rec12 x1 h = some o → mB (gO mX7_rings (hM C o, none)) mX7_rings (12, [(0, .ref 239), (1, .int x1)], [], (hM C h), 0, 0)) (hrec36 : ∀ (x1 : Int32) (x2 : Int32) (x3 : Int32) (h : mS) {o : mS}, rec36 x1 x2 x3 h = some o → mB (gO mX7_rings (hM C o, none)) mX7_rings (36, [(0, .ref 239), (1, .int x1), (2, .int x2), (3, .int x3)], [], (hM C h), 0, 0)) (x1 : Int32) (x3 : Int32) (x4 : Int32) (h : mS) {o : mS} (hq : mxX7_rings_113 N rec12 rec36 x1 x3 x4 h = some o) : mB (gO mX7_rings (hM C o, none)) mX7_rings (113, [(0, .ref 239), (1, .int x1), (3, .int x3), (4, .int x4)], [], (hM C h), 0, 0) := by
  unfold mxX7_rings_113 at hq
  refine mB_run odX7_rings 2 (g := (116, [(2, .int x4), (0, .ref 239), (1, .int x1), (3, .int x3), (4, .int x4)], [], (hM C h), 0, 0)) rfl ?_
  refine mB_lv [1, 2, 0, 3] (lv' := [(0, .ref 239), (1, .int x1), (2, .int x4), (3, .int x3)]) rfl ?_
  exact emX7_rings_116 hC hrec12 hrec36 _ _ _ _ hq
def mxX7_rings_80 (N : Nat) (rec12 : Int32 → mS → Option mS) (rec36 : Int32 → Int32 → Int32 → mS → Option mS) (x1 : Int32) (x2 : Int32) (x3 : Int32) (x4 : Int32) (y0 : Int64) (h : mS) : Option mS :=
  if y0 < (0 : Int64) then (
    mxX7_rings_113 N rec12 rec36 x1 x3 x4 h) else (
    if y0 = (0 : Int64) then (
      (mxX7_apartOf N x1 x4 h).bind fun o22 =>
      (mxX7_apartOf N x1 x2 o22.1).bind fun o24 =>
      if o22.2 ≤ o24.2 then (
        mxX7_rings_116 N rec12 rec36 x1 x2 x3 o24.1) else (
        mxX7_rings_113 N rec12 rec36 x1 x3 x4 o24.1)) else (
      mxX7_rings_116 N rec12 rec36 x1 x2 x3 h))
set_option maxHeartbeats 4000000 in
set_option maxRecDepth 100000 in
theorem emX7_rings_80 {N : Nat} {C : mh} (hC : C.length = 239) {rec12 : Int32 → mS → Option mS} {rec36 : Int32 → Int32 → Int32 → mS → Option mS} (hrec12 : ∀ (x1 : Int32) (h : mS) {o : mS}, rec12 x1 h = some o → mB (gO mX7_rings (hM C o, none)) mX7_rings (12, [(0, .ref 239), (1, .int x1)], [], (hM C h), 0, 0)) (hrec36 : ∀ (x1 : Int32) (x2 : Int32) (x3 : Int32) (h : mS) {o : mS}, rec36 x1 x2 x3 h = some o → mB (gO mX7_rings (hM C o, none)) mX7_rings (36, [(0, .ref 239), (1, .int x1), (2, .int x2), (3, .int x3)], [], (hM C h), 0, 0)) (x1 : Int32) (x2 : Int32) (x3 : Int32) (x4 : Int32) (y0 : Int64) (h : mS) {o : mS} (hq : mxX7_rings_80 N rec12 rec36 x1 x2 x3 x4 y0 h = some o) : mB (gO mX7_rings (hM C o, none)) mX7_rings (80, [(0, .ref 239), (1, .int x1), (2, .int x2), (3, .int x3), (4, .int x4)], [.long y0], (hM C h), 0, 0) := by
  unfold mxX7_rings_80 at hq
  refine mB_run odX7_rings 3 (g := (85, [(5, .long y0), (0, .ref 239), (1, .int x1), (2, .int x2), (3, .int x3), (4, .int x4)], [.long (0 : Int64), .long y0], (hM C h), 0, 0)) rfl ?_
  by_cases c20 : y0 < (0 : Int64)
  · rw [if_pos c20] at hq
    refine lc_lt_T (t := 113) odX7_rings rfl rfl rfl c20 ?_
    refine mB_lv [1, 2, 4, 5] (lv' := [(0, .ref 239), (1, .int x1), (3, .int x3), (4, .int x4)]) rfl ?_
    exact emX7_rings_113 hC hrec12 hrec36 _ _ _ _ hq
  · rw [if_neg c20] at hq
    refine lc_lt_F (t := 113) odX7_rings rfl rfl rfl c20 ?_
    refine mB_run odX7_rings 2 (g := (92, [(5, .long y0), (0, .ref 239), (1, .int x1), (2, .int x2), (3, .int x3), (4, .int x4)], [.long (0 : Int64), .long y0], (hM C h), 0, 0)) rfl ?_
    by_cases c21 : y0 = (0 : Int64)
    · rw [if_pos c21] at hq
      refine lc_ne_F (t := 116) odX7_rings rfl rfl rfl c21 ?_
      refine mB_run odX7_rings 3 (g := (100, [(5, .long y0), (0, .ref 239), (1, .int x1), (2, .int x2), (3, .int x3), (4, .int x4)], [.int x4, .int x1, .ref 239], (hM C h), 0, 0)) rfl ?_
      obtain ⟨o22, e23, hq⟩ := bsm hq
      refine mB_V (as := [.int x1, .int x4]) odX7_rings okX7_apartOf lk_7_174 rfl (emX7_apartOf hC e23) (kO_at (md_O hC)) rfl rfl rfl ?_
      show mB _ mX7_rings (103, [(5, .long y0), (0, .ref 239), (1, .int x1), (2, .int x2), (3, .int x3), (4, .int x4)], [.long o22.2], (hM C o22.1), 0, 0)
      refine mB_run odX7_rings 3 (g := (106, [(5, .long y0), (0, .ref 239), (1, .int x1), (2, .int x2), (3, .int x3), (4, .int x4)], [.int x2, .int x1, .ref 239, .long o22.2], (hM C o22.1), 0, 0)) rfl ?_
      obtain ⟨o24, e25, hq⟩ := bsm hq
      refine mB_V (as := [.int x1, .int x2]) odX7_rings okX7_apartOf lk_7_174 rfl (emX7_apartOf hC e25) (kO_at (md_O hC)) rfl rfl rfl ?_
      show mB _ mX7_rings (109, [(5, .long y0), (0, .ref 239), (1, .int x1), (2, .int x2), (3, .int x3), (4, .int x4)], [.long o24.2, .long o22.2], (hM C o24.1), 0, 0)
      by_cases c26 : o22.2 ≤ o24.2
      · rw [if_pos c26] at hq
        refine lc_le_T (t := 116) odX7_rings rfl rfl rfl c26 ?_
        refine mB_lv [1, 2, 3, 4] (lv' := [(0, .ref 239), (1, .int x1), (2, .int x2), (3, .int x3)]) rfl ?_
        exact emX7_rings_116 hC hrec12 hrec36 _ _ _ _ hq
      · rw [if_neg c26] at hq
        refine lc_le_F (t := 116) odX7_rings rfl rfl rfl c26 ?_
        refine mB_lv [1, 2, 4, 5] (lv' := [(0, .ref 239), (1, .int x1), (3, .int x3), (4, .int x4)]) rfl ?_
        exact emX7_rings_113 hC hrec12 hrec36 _ _ _ _ hq
    · rw [if_neg c21] at hq
      refine lc_ne_T (t := 116) odX7_rings rfl rfl rfl c21 ?_
      refine mB_lv [1, 2, 3, 4] (lv' := [(0, .ref 239), (1, .int x1), (2, .int x2), (3, .int x3)]) rfl ?_
      exact emX7_rings_116 hC hrec12 hrec36 _ _ _ _ hq
def mxX7_rings_36 (N : Nat) (rec12 : Int32 → mS → Option mS) : Nat → Int32 → Int32 → Int32 → mS → Option mS
  | 0, _, _, _, _ => none
  | n + 1, x1, x2, x3, h =>
    if (h.1 21) ≤ x3 then (
      (rA h 20 (0 : Int32)).bind fun v10 =>
      if x2 = v10 then (
        some h) else (
        if x2 = (-1 : Int32) then (
          some h) else (
          rec12 x2 h))) else (
      (rA h 20 x3).bind fun v14 =>
      if v14 = x1 then (
        mxX7_rings_116 N rec12 (mxX7_rings_36 N rec12 n) x1 x2 x3 h) else (
        if x2 = (-1 : Int32) then (
          mxX7_rings_80 N rec12 (mxX7_rings_36 N rec12 n) x1 x2 x3 v14 (-1 : Int64) h) else (
          (mxX7_leftOf N x1 x2 v14 h).bind fun o18 =>
          mxX7_rings_80 N rec12 (mxX7_rings_36 N rec12 n) x1 x2 x3 v14 o18.2 o18.1)))
set_option maxHeartbeats 4000000 in
set_option maxRecDepth 100000 in
theorem emX7_rings_36 {N : Nat} {C : mh} (hC : C.length = 239) {rec12 : Int32 → mS → Option mS} (hrec12 : ∀ (x1 : Int32) (h : mS) {o : mS}, rec12 x1 h = some o → mB (gO mX7_rings (hM C o, none)) mX7_rings (12, [(0, .ref 239), (1, .int x1)], [], (hM C h), 0, 0)) : ∀ (n : Nat) (x1 : Int32) (x2 : Int32) (x3 : Int32) (h : mS) {o : mS}, mxX7_rings_36 N rec12 n x1 x2 x3 h = some o → mB (gO mX7_rings (hM C o, none)) mX7_rings (36, [(0, .ref 239), (1, .int x1), (2, .int x2), (3, .int x3)], [], (hM C h), 0, 0) := by
  intro n
  induction n with
  | zero => intro x1 x2 x3 h o hq; cases hq
  | succ n ih =>
    intro x1 x2 x3 h o hq
    unfold mxX7_rings_36 at hq
    refine mB_run odX7_rings 2 (g := (38, [(0, .ref 239), (1, .int x1), (2, .int x2), (3, .int x3)], [.ref 239, .int x3], (hM C h), 0, 0)) rfl ?_
    refine r_gI odX7_rings rfl rfl (md_21 hC) ?_
    by_cases c9 : (h.1 21) ≤ x3
    · rw [if_pos c9] at hq
      refine ic_ge_T (t := 122) odX7_rings rfl rfl c9 ?_
      refine mB_run odX7_rings 4 (g := (126, [(1, .int x2), (0, .ref 239), (2, .int x2), (3, .int x3)], [.ref 239, .int x2], (hM C h), 0, 0)) rfl ?_
      refine r_gR odX7_rings rfl rfl (md_20 hC) ?_
      refine mB_run odX7_rings 1 (g := (130, [(1, .int x2), (0, .ref 239), (2, .int x2), (3, .int x3)], [.int (0 : Int32), .ref 258, .int x2], (hM C h), 0, 0)) rfl ?_
      obtain ⟨v10, e11, hq⟩ := bsm hq
      refine r_aI odX7_rings rfl (ra_20 hC e11) ?_
      by_cases c12 : x2 = v10
      · rw [if_pos c12] at hq
        refine ic_eq_T (t := 139) odX7_rings rfl rfl c12 ?_
        cases hq
        exact mB_ret odX7_rings rfl
      · rw [if_neg c12] at hq
        refine ic_eq_F (t := 139) odX7_rings rfl rfl c12 ?_
        refine mB_run odX7_rings 2 (g := (136, [(1, .int x2), (0, .ref 239), (2, .int x2), (3, .int x3)], [.int (-1 : Int32), .int x2], (hM C h), 0, 0)) rfl ?_
        by_cases c13 : x2 = (-1 : Int32)
        · rw [if_pos c13] at hq
          refine ic_ne_F (t := 12) odX7_rings rfl rfl c13 ?_
          cases hq
          exact mB_ret odX7_rings rfl
        · rw [if_neg c13] at hq
          refine ic_ne_T (t := 12) odX7_rings rfl rfl c13 ?_
          refine mB_lv [1, 0] (lv' := [(0, .ref 239), (1, .int x2)]) rfl ?_
          exact hrec12 _ _ hq
    · rw [if_neg c9] at hq
      refine ic_ge_F (t := 122) odX7_rings rfl rfl c9 ?_
      refine mB_run odX7_rings 1 (g := (45, [(0, .ref 239), (1, .int x1), (2, .int x2), (3, .int x3)], [.ref 239], (hM C h), 0, 0)) rfl ?_
      refine r_gR odX7_rings rfl rfl (md_20 hC) ?_
      refine mB_run odX7_rings 1 (g := (49, [(0, .ref 239), (1, .int x1), (2, .int x2), (3, .int x3)], [.int x3, .ref 258], (hM C h), 0, 0)) rfl ?_
      obtain ⟨v14, e15, hq⟩ := bsm hq
      refine r_aI odX7_rings rfl (ra_20 hC e15) ?_
      refine mB_run odX7_rings 3 (g := (55, [(4, .int v14), (0, .ref 239), (1, .int x1), (2, .int x2), (3, .int x3)], [.int x1, .int v14], (hM C h), 0, 0)) rfl ?_
      by_cases c16 : v14 = x1
      · rw [if_pos c16] at hq
        refine ic_ne_F (t := 61) odX7_rings rfl rfl c16 ?_
        refine mB_run odX7_rings 1 (g := (116, [(4, .int v14), (0, .ref 239), (1, .int x1), (2, .int x2), (3, .int x3)], [], (hM C h), 0, 0)) rfl ?_
        refine mB_lv [1, 2, 3, 4] (lv' := [(0, .ref 239), (1, .int x1), (2, .int x2), (3, .int x3)]) rfl ?_
        exact emX7_rings_116 hC hrec12 ih _ _ _ _ hq
      · rw [if_neg c16] at hq
        refine ic_ne_T (t := 61) odX7_rings rfl rfl c16 ?_
        refine mB_run odX7_rings 2 (g := (63, [(4, .int v14), (0, .ref 239), (1, .int x1), (2, .int x2), (3, .int x3)], [.int (-1 : Int32), .int x2], (hM C h), 0, 0)) rfl ?_
        by_cases c17 : x2 = (-1 : Int32)
        · rw [if_pos c17] at hq
          refine ic_ne_F (t := 72) odX7_rings rfl rfl c17 ?_
          refine mB_run odX7_rings 2 (g := (80, [(4, .int v14), (0, .ref 239), (1, .int x1), (2, .int x2), (3, .int x3)], [.long (-1 : Int64)], (hM C h), 0, 0)) rfl ?_
          refine mB_lv [1, 2, 3, 4, 0] (lv' := [(0, .ref 239), (1, .int x1), (2, .int x2), (3, .int x3), (4, .int v14)]) rfl ?_
          exact emX7_rings_80 hC hrec12 ih _ _ _ _ _ _ hq
        · rw [if_neg c17] at hq
          refine ic_ne_T (t := 72) odX7_rings rfl rfl c17 ?_
          refine mB_run odX7_rings 4 (g := (77, [(4, .int v14), (0, .ref 239), (1, .int x1), (2, .int x2), (3, .int x3)], [.int v14, .int x2, .int x1, .ref 239], (hM C h), 0, 0)) rfl ?_
          obtain ⟨o18, e19, hq⟩ := bsm hq
          refine mB_V (as := [.int x1, .int x2, .int v14]) odX7_rings okX7_leftOf lk_7_170 rfl (emX7_leftOf hC e19) (kO_at (md_O hC)) rfl rfl rfl ?_
          show mB _ mX7_rings (80, [(4, .int v14), (0, .ref 239), (1, .int x1), (2, .int x2), (3, .int x3)], [.long o18.2], (hM C o18.1), 0, 0)
          refine mB_lv [1, 2, 3, 4, 0] (lv' := [(0, .ref 239), (1, .int x1), (2, .int x2), (3, .int x3), (4, .int v14)]) rfl ?_
          exact emX7_rings_80 hC hrec12 ih _ _ _ _ _ _ hq
def mxX7_rings_12 (N : Nat) : Nat → Int32 → mS → Option mS
  | 0, _, _ => none
  | n + 1, x1, h =>
    (wA h 22 (h.1 23) x1).bind fun s5 =>
    (some (pI s5 23 ((s5.1 23) + (1 : Int32)))).bind fun s7 =>
    mxX7_rings_36 N (mxX7_rings_12 N n) N x1 (-1 : Int32) (0 : Int32) s7
set_option maxHeartbeats 4000000 in
set_option maxRecDepth 100000 in
theorem emX7_rings_12 {N : Nat} {C : mh} (hC : C.length = 239) : ∀ (n : Nat) (x1 : Int32) (h : mS) {o : mS}, mxX7_rings_12 N n x1 h = some o → mB (gO mX7_rings (hM C o, none)) mX7_rings (12, [(0, .ref 239), (1, .int x1)], [], (hM C h), 0, 0) := by
  intro n
  induction n with
  | zero => intro x1 h o hq; cases hq
  | succ n ih =>
    intro x1 h o hq
    unfold mxX7_rings_12 at hq
    refine mB_run odX7_rings 1 (g := (13, [(0, .ref 239), (1, .int x1)], [.ref 239], (hM C h), 0, 0)) rfl ?_
    refine r_gR odX7_rings rfl rfl (md_22 hC) ?_
    refine mB_run odX7_rings 1 (g := (17, [(0, .ref 239), (1, .int x1)], [.ref 239, .ref 259], (hM C h), 0, 0)) rfl ?_
    refine r_gI odX7_rings rfl rfl (md_23 hC) ?_
    refine mB_run odX7_rings 1 (g := (21, [(0, .ref 239), (1, .int x1)], [.int x1, .int (h.1 23), .ref 259], (hM C h), 0, 0)) rfl ?_
    obtain ⟨s5, e6, hq⟩ := bsm hq
    refine r_wI odX7_rings rfl (wa_22 hC e6) ?_
    refine mB_run odX7_rings 2 (g := (24, [(0, .ref 239), (1, .int x1)], [.ref 239, .ref 239], (hM C s5), 0, 0)) rfl ?_
    refine r_gI odX7_rings rfl rfl (md_23 hC) ?_
    refine mB_run odX7_rings 2 (g := (29, [(0, .ref 239), (1, .int x1)], [.int ((s5.1 23) + (1 : Int32)), .ref 239], (hM C s5), 0, 0)) rfl ?_
    obtain ⟨s7, e8, hq⟩ := bsm hq
    refine r_sV odX7_rings rfl rfl rfl rfl (pt_23 hC e8) ?_
    refine mB_run odX7_rings 4 (g := (36, [(3, .int (0 : Int32)), (2, .int (-1 : Int32)), (0, .ref 239), (1, .int x1)], [], (hM C s7), 0, 0)) rfl ?_
    refine mB_lv [2, 3, 1, 0] (lv' := [(0, .ref 239), (1, .int x1), (2, .int (-1 : Int32)), (3, .int (0 : Int32))]) rfl ?_
    exact emX7_rings_36 hC ih N _ _ _ _ hq
def mxX7_rings (N : Nat)  (h : mS) : Option mS :=
  (some (pI h 23 (0 : Int32))).bind fun s1 =>
  (rA s1 20 (0 : Int32)).bind fun v3 =>
  mxX7_rings_12 N N v3 s1
set_option maxHeartbeats 4000000 in
set_option maxRecDepth 100000 in
theorem emX7_rings {N : Nat} {C : mh} (hC : C.length = 239)  {h : mS} {o : mS} (hq : mxX7_rings N  h = some o) : mC mX7_rings [.ref 239] (hM C h) (hM C o, none) := by
  refine mC_of okX7_rings (Nat.le_of_ble_eq_true rfl) ?_
  unfold mxX7_rings at hq
  show mB _ mX7_rings (0, [(0, .ref 239)], [], (hM C h), 0, 0)
  refine mB_run odX7_rings 2 (g := (2, [(0, .ref 239)], [.int (0 : Int32), .ref 239], (hM C h), 0, 0)) rfl ?_
  obtain ⟨s1, e2, hq⟩ := bsm hq
  refine r_sV odX7_rings rfl rfl rfl rfl (pt_23 hC e2) ?_
  refine mB_run odX7_rings 1 (g := (6, [(0, .ref 239)], [.ref 239], (hM C s1), 0, 0)) rfl ?_
  refine r_gR odX7_rings rfl rfl (md_20 hC) ?_
  refine mB_run odX7_rings 1 (g := (10, [(0, .ref 239)], [.int (0 : Int32), .ref 258], (hM C s1), 0, 0)) rfl ?_
  obtain ⟨v3, e4, hq⟩ := bsm hq
  refine r_aI odX7_rings rfl (ra_20 hC e4) ?_
  refine mB_run odX7_rings 1 (g := (12, [(1, .int v3), (0, .ref 239)], [], (hM C s1), 0, 0)) rfl ?_
  refine mB_lv [1, 0] (lv' := [(0, .ref 239), (1, .int v3)]) rfl ?_
  exact emX7_rings_12 hC N _ _ hq
def mxX7_kindOfHeap_67 (N : Nat) : Nat → Int32 → mS → Option (mS × Int32)
  | 0, _, _ => none
  | n + 1, x2, h =>
    if (h.1 15) ≤ x2 then (
      some (h, (3 : Int32))) else (
      (mxX7_height N x2 h).bind fun o16 =>
      (mxX7_height N (0 : Int32) o16.1).bind fun o18 =>
      if o16.2 = o18.2 then (
        mxX7_kindOfHeap_67 N n (x2 + (1 : Int32)) o18.1) else (
        some (o18.1, (4 : Int32))))
set_option maxHeartbeats 4000000 in
set_option maxRecDepth 100000 in
theorem emX7_kindOfHeap_67 {N : Nat} {C : mh} (hC : C.length = 239) : ∀ (n : Nat) (x2 : Int32) (h : mS) {o : (mS × Int32)}, mxX7_kindOfHeap_67 N n x2 h = some o → mB (gO mX7_kindOfHeap (hM C o.1, some (.int o.2))) mX7_kindOfHeap (67, [(0, .ref 239), (2, .int x2)], [], (hM C h), 0, 0) := by
  intro n
  induction n with
  | zero => intro x2 h o hq; cases hq
  | succ n ih =>
    intro x2 h o hq
    unfold mxX7_kindOfHeap_67 at hq
    refine mB_run odX7_kindOfHeap 2 (g := (69, [(0, .ref 239), (2, .int x2)], [.ref 239, .int x2], (hM C h), 0, 0)) rfl ?_
    refine r_gI odX7_kindOfHeap rfl rfl (md_15 hC) ?_
    by_cases c15 : (h.1 15) ≤ x2
    · rw [if_pos c15] at hq
      refine ic_ge_T (t := 97) odX7_kindOfHeap rfl rfl c15 ?_
      refine mB_run odX7_kindOfHeap 1 (g := (98, [(0, .ref 239), (2, .int x2)], [.int (3 : Int32)], (hM C h), 0, 0)) rfl ?_
      cases hq
      exact mB_ret odX7_kindOfHeap rfl
    · rw [if_neg c15] at hq
      refine ic_ge_F (t := 97) odX7_kindOfHeap rfl rfl c15 ?_
      refine mB_run odX7_kindOfHeap 2 (g := (77, [(0, .ref 239), (2, .int x2)], [.int x2, .ref 239], (hM C h), 0, 0)) rfl ?_
      obtain ⟨o16, e17, hq⟩ := bsm hq
      refine mB_V (as := [.int x2]) odX7_kindOfHeap okX7_height lk_7_189 rfl (emX7_height hC e17) (kO_at (md_O hC)) rfl rfl rfl ?_
      show mB _ mX7_kindOfHeap (80, [(0, .ref 239), (2, .int x2)], [.long o16.2], (hM C o16.1), 0, 0)
      refine mB_run odX7_kindOfHeap 2 (g := (82, [(0, .ref 239), (2, .int x2)], [.int (0 : Int32), .ref 239, .long o16.2], (hM C o16.1), 0, 0)) rfl ?_
      obtain ⟨o18, e19, hq⟩ := bsm hq
      refine mB_V (as := [.int (0 : Int32)]) odX7_kindOfHeap okX7_height lk_7_189 rfl (emX7_height hC e19) (kO_at (md_O hC)) rfl rfl rfl ?_
      show mB _ mX7_kindOfHeap (85, [(0, .ref 239), (2, .int x2)], [.long o18.2, .long o16.2], (hM C o18.1), 0, 0)
      by_cases c20 : o16.2 = o18.2
      · rw [if_pos c20] at hq
        refine lc_eq_T (t := 91) odX7_kindOfHeap rfl rfl rfl c20 ?_
        refine mB_run odX7_kindOfHeap 2 (g := (67, [(2, .int (x2 + (1 : Int32))), (0, .ref 239)], [], (hM C o18.1), 0, 0)) rfl ?_
        refine mB_lv [1, 0] (lv' := [(0, .ref 239), (2, .int (x2 + (1 : Int32)))]) rfl ?_
        exact ih _ _ hq
      · rw [if_neg c20] at hq
        refine lc_eq_F (t := 91) odX7_kindOfHeap rfl rfl rfl c20 ?_
        refine mB_run odX7_kindOfHeap 1 (g := (90, [(0, .ref 239), (2, .int x2)], [.int (4 : Int32)], (hM C o18.1), 0, 0)) rfl ?_
        cases hq
        exact mB_ret odX7_kindOfHeap rfl
def mxX7_kindOfHeap_52 (N : Nat)  (h : mS) : Option (mS × Int32) :=
  (mxX7_isFlat N  h).bind fun o10 =>
  if o10.2 = 0 then (
    (mxX7_plain N  o10.1).bind fun o13 =>
    mxX7_kindOfHeap_67 N N (0 : Int32) o13) else (
    some (o10.1, (2 : Int32)))
set_option maxHeartbeats 4000000 in
set_option maxRecDepth 100000 in
theorem emX7_kindOfHeap_52 {N : Nat} {C : mh} (hC : C.length = 239)  (h : mS) {o : (mS × Int32)} (hq : mxX7_kindOfHeap_52 N  h = some o) : mB (gO mX7_kindOfHeap (hM C o.1, some (.int o.2))) mX7_kindOfHeap (52, [(0, .ref 239)], [], (hM C h), 0, 0) := by
  unfold mxX7_kindOfHeap_52 at hq
  refine mB_run odX7_kindOfHeap 1 (g := (53, [(0, .ref 239)], [.ref 239], (hM C h), 0, 0)) rfl ?_
  obtain ⟨o10, e11, hq⟩ := bsm hq
  refine mB_V (as := []) odX7_kindOfHeap okX7_isFlat lk_7_182 rfl (emX7_isFlat hC e11) (kO_at (md_O hC)) rfl rfl rfl ?_
  show mB _ mX7_kindOfHeap (56, [(0, .ref 239)], [.int o10.2], (hM C o10.1), 0, 0)
  by_cases c12 : o10.2 = 0
  · rw [if_pos c12] at hq
    refine if_eq_T (t := 61) odX7_kindOfHeap rfl rfl c12 ?_
    refine mB_run odX7_kindOfHeap 1 (g := (62, [(0, .ref 239)], [.ref 239], (hM C o10.1), 0, 0)) rfl ?_
    obtain ⟨o13, e14, hq⟩ := bsm hq
    refine mB_V (as := []) odX7_kindOfHeap okX7_plain lk_7_186 rfl (emX7_plain hC e14) (kO_at (md_O hC)) rfl rfl rfl ?_
    show mB _ mX7_kindOfHeap (65, [(0, .ref 239)], [], (hM C o13), 0, 0)
    refine mB_run odX7_kindOfHeap 2 (g := (67, [(2, .int (0 : Int32)), (0, .ref 239)], [], (hM C o13), 0, 0)) rfl ?_
    refine mB_lv [1, 0] (lv' := [(0, .ref 239), (2, .int (0 : Int32))]) rfl ?_
    exact emX7_kindOfHeap_67 hC N _ _ hq
  · rw [if_neg c12] at hq
    refine if_eq_F (t := 61) odX7_kindOfHeap rfl rfl c12 ?_
    refine mB_run odX7_kindOfHeap 1 (g := (60, [(0, .ref 239)], [.int (2 : Int32)], (hM C o10.1), 0, 0)) rfl ?_
    cases hq
    exact mB_ret odX7_kindOfHeap rfl
def mxX7_kindOfHeap_22 (N : Nat) : Nat → Int32 → mS → Option (mS × Int32)
  | 0, _, _ => none
  | n + 1, x1, h =>
    (mxX7_isFlat N  h).bind fun o4 =>
    if o4.2 = 0 then (
      mxX7_kindOfHeap_52 N  o4.1) else (
      if (o4.1.1 15) ≤ (x1 + (1 : Int32)) then (
        mxX7_kindOfHeap_52 N  o4.1) else (
        (mxX7_across N (0 : Int32) (1 : Int32) (x1 + (1 : Int32)) o4.1).bind fun o8 =>
        mxX7_kindOfHeap_22 N n (x1 + (1 : Int32)) o8))
set_option maxHeartbeats 4000000 in
set_option maxRecDepth 100000 in
theorem emX7_kindOfHeap_22 {N : Nat} {C : mh} (hC : C.length = 239) : ∀ (n : Nat) (x1 : Int32) (h : mS) {o : (mS × Int32)}, mxX7_kindOfHeap_22 N n x1 h = some o → mB (gO mX7_kindOfHeap (hM C o.1, some (.int o.2))) mX7_kindOfHeap (22, [(0, .ref 239), (1, .int x1)], [], (hM C h), 0, 0) := by
  intro n
  induction n with
  | zero => intro x1 h o hq; cases hq
  | succ n ih =>
    intro x1 h o hq
    unfold mxX7_kindOfHeap_22 at hq
    refine mB_run odX7_kindOfHeap 1 (g := (23, [(0, .ref 239), (1, .int x1)], [.ref 239], (hM C h), 0, 0)) rfl ?_
    obtain ⟨o4, e5, hq⟩ := bsm hq
    refine mB_V (as := []) odX7_kindOfHeap okX7_isFlat lk_7_182 rfl (emX7_isFlat hC e5) (kO_at (md_O hC)) rfl rfl rfl ?_
    show mB _ mX7_kindOfHeap (26, [(0, .ref 239), (1, .int x1)], [.int o4.2], (hM C o4.1), 0, 0)
    by_cases c6 : o4.2 = 0
    · rw [if_pos c6] at hq
      refine if_eq_T (t := 52) odX7_kindOfHeap rfl rfl c6 ?_
      refine mB_lv [0] (lv' := [(0, .ref 239)]) rfl ?_
      exact emX7_kindOfHeap_52 hC _ hq
    · rw [if_neg c6] at hq
      refine if_eq_F (t := 52) odX7_kindOfHeap rfl rfl c6 ?_
      refine mB_run odX7_kindOfHeap 4 (g := (33, [(0, .ref 239), (1, .int x1)], [.ref 239, .int (x1 + (1 : Int32))], (hM C o4.1), 0, 0)) rfl ?_
      refine r_gI odX7_kindOfHeap rfl rfl (md_15 hC) ?_
      by_cases c7 : (o4.1.1 15) ≤ (x1 + (1 : Int32))
      · rw [if_pos c7] at hq
        refine ic_ge_T (t := 52) odX7_kindOfHeap rfl rfl c7 ?_
        refine mB_lv [0] (lv' := [(0, .ref 239)]) rfl ?_
        exact emX7_kindOfHeap_52 hC _ hq
      · rw [if_neg c7] at hq
        refine ic_ge_F (t := 52) odX7_kindOfHeap rfl rfl c7 ?_
        refine mB_run odX7_kindOfHeap 5 (g := (46, [(1, .int (x1 + (1 : Int32))), (0, .ref 239)], [.int (x1 + (1 : Int32)), .int (1 : Int32), .int (0 : Int32), .ref 239], (hM C o4.1), 0, 0)) rfl ?_
        obtain ⟨o8, e9, hq⟩ := bsm hq
        refine mB_V (as := [.int (0 : Int32), .int (1 : Int32), .int (x1 + (1 : Int32))]) odX7_kindOfHeap okX7_across lk_7_178 rfl (emX7_across hC e9) (kO_at (md_O hC)) rfl rfl rfl ?_
        show mB _ mX7_kindOfHeap (49, [(1, .int (x1 + (1 : Int32))), (0, .ref 239)], [], (hM C o8), 0, 0)
        refine mB_run odX7_kindOfHeap 1 (g := (22, [(1, .int (x1 + (1 : Int32))), (0, .ref 239)], [], (hM C o8), 0, 0)) rfl ?_
        refine mB_lv [1, 0] (lv' := [(0, .ref 239), (1, .int (x1 + (1 : Int32)))]) rfl ?_
        exact ih _ _ hq
def mxX7_kindOfHeap (N : Nat)  (h : mS) : Option (mS × Int32) :=
  if (3 : Int32) ≤ (h.1 15) then (
    (mxX7_across N (0 : Int32) (1 : Int32) (2 : Int32) h).bind fun o2 =>
    mxX7_kindOfHeap_22 N N (2 : Int32) o2) else (
    some (h, (h.1 15)))
set_option maxHeartbeats 4000000 in
set_option maxRecDepth 100000 in
theorem emX7_kindOfHeap {N : Nat} {C : mh} (hC : C.length = 239)  {h : mS} {o : (mS × Int32)} (hq : mxX7_kindOfHeap N  h = some o) : mC mX7_kindOfHeap [.ref 239] (hM C h) (hM C o.1, some (.int o.2)) := by
  refine mC_of okX7_kindOfHeap (Nat.le_of_ble_eq_true rfl) ?_
  unfold mxX7_kindOfHeap at hq
  show mB _ mX7_kindOfHeap (0, [(0, .ref 239)], [], (hM C h), 0, 0)
  refine mB_run odX7_kindOfHeap 1 (g := (1, [(0, .ref 239)], [.ref 239], (hM C h), 0, 0)) rfl ?_
  refine r_gI odX7_kindOfHeap rfl rfl (md_15 hC) ?_
  refine mB_run odX7_kindOfHeap 1 (g := (5, [(0, .ref 239)], [.int (3 : Int32), .int (h.1 15)], (hM C h), 0, 0)) rfl ?_
  by_cases c1 : (3 : Int32) ≤ (h.1 15)
  · rw [if_pos c1] at hq
    refine ic_ge_T (t := 13) odX7_kindOfHeap rfl rfl c1 ?_
    refine mB_run odX7_kindOfHeap 6 (g := (19, [(1, .int (2 : Int32)), (0, .ref 239)], [.int (2 : Int32), .int (1 : Int32), .int (0 : Int32), .ref 239], (hM C h), 0, 0)) rfl ?_
    obtain ⟨o2, e3, hq⟩ := bsm hq
    refine mB_V (as := [.int (0 : Int32), .int (1 : Int32), .int (2 : Int32)]) odX7_kindOfHeap okX7_across lk_7_178 rfl (emX7_across hC e3) (kO_at (md_O hC)) rfl rfl rfl ?_
    show mB _ mX7_kindOfHeap (22, [(1, .int (2 : Int32)), (0, .ref 239)], [], (hM C o2), 0, 0)
    refine mB_lv [1, 0] (lv' := [(0, .ref 239), (1, .int (2 : Int32))]) rfl ?_
    exact emX7_kindOfHeap_22 hC N _ _ hq
  · rw [if_neg c1] at hq
    refine ic_ge_F (t := 13) odX7_kindOfHeap rfl rfl c1 ?_
    refine mB_run odX7_kindOfHeap 1 (g := (9, [(0, .ref 239)], [.ref 239], (hM C h), 0, 0)) rfl ?_
    refine r_gI odX7_kindOfHeap rfl rfl (md_15 hC) ?_
    cases hq
    exact mB_ret odX7_kindOfHeap rfl
def mxX7_isKnown_81 (N : Nat) (rec6 : Int32 → Int64 → Int32 → mS → Option (mS × Int32)) (x1 : Int32) (x2 : Int64) (x4 : Int32) (h : mS) : Option (mS × Int32) :=
  rec6 x1 x2 (x4 + (1 : Int32)) h
set_option maxHeartbeats 4000000 in
set_option maxRecDepth 100000 in
theorem emX7_isKnown_81 {N : Nat} {C : mh} (hC : C.length = 239) {rec6 : Int32 → Int64 → Int32 → mS → Option (mS × Int32)} (hrec6 : ∀ (x1 : Int32) (x2 : Int64) (x4 : Int32) (h : mS) {o : (mS × Int32)}, rec6 x1 x2 x4 h = some o → mB (gO mX7_isKnown (hM C o.1, some (.int o.2))) mX7_isKnown (6, [(0, .ref 239), (1, .int x1), (2, .long x2), (4, .int x4)], [], (hM C h), 0, 0)) (x1 : Int32) (x2 : Int64) (x4 : Int32) (h : mS) {o : (mS × Int32)} (hq : mxX7_isKnown_81 N rec6 x1 x2 x4 h = some o) : mB (gO mX7_isKnown (hM C o.1, some (.int o.2))) mX7_isKnown (81, [(0, .ref 239), (1, .int x1), (2, .long x2), (4, .int x4)], [], (hM C h), 0, 0) := by
  unfold mxX7_isKnown_81 at hq
  refine mB_run odX7_isKnown 2 (g := (6, [(4, .int (x4 + (1 : Int32))), (0, .ref 239), (1, .int x1), (2, .long x2)], [], (hM C h), 0, 0)) rfl ?_
  refine mB_lv [1, 2, 3, 0] (lv' := [(0, .ref 239), (1, .int x1), (2, .long x2), (4, .int (x4 + (1 : Int32)))]) rfl ?_
  exact hrec6 _ _ _ _ hq
def mxX7_isKnown_6 (N : Nat) : Nat → Int32 → Int64 → Int32 → mS → Option (mS × Int32)
  | 0, _, _, _, _ => none
  | n + 1, x1, x2, x4, h =>
    (rA h 27 x1).bind fun v1 =>
    if (((64 : Int32) * x1) + v1) ≤ x4 then (
      some (h, (0 : Int32))) else (
      (rG h 28 x4).bind fun v4 =>
      if v4 = (h.2.1 24) then (
        (rG h 29 x4).bind fun v7 =>
        if v7 = (h.2.1 25) then (
          (rG h 30 x4).bind fun v10 =>
          if v10 = (h.2.1 26) then (
            (rG h 31 x4).bind fun v13 =>
            if v13 = x2 then (
              some (h, (1 : Int32))) else (
              mxX7_isKnown_81 N (mxX7_isKnown_6 N n) x1 x2 x4 h)) else (
            mxX7_isKnown_81 N (mxX7_isKnown_6 N n) x1 x2 x4 h)) else (
          mxX7_isKnown_81 N (mxX7_isKnown_6 N n) x1 x2 x4 h)) else (
        mxX7_isKnown_81 N (mxX7_isKnown_6 N n) x1 x2 x4 h))
set_option maxHeartbeats 4000000 in
set_option maxRecDepth 100000 in
theorem emX7_isKnown_6 {N : Nat} {C : mh} (hC : C.length = 239) : ∀ (n : Nat) (x1 : Int32) (x2 : Int64) (x4 : Int32) (h : mS) {o : (mS × Int32)}, mxX7_isKnown_6 N n x1 x2 x4 h = some o → mB (gO mX7_isKnown (hM C o.1, some (.int o.2))) mX7_isKnown (6, [(0, .ref 239), (1, .int x1), (2, .long x2), (4, .int x4)], [], (hM C h), 0, 0) := by
  intro n
  induction n with
  | zero => intro x1 x2 x4 h o hq; cases hq
  | succ n ih =>
    intro x1 x2 x4 h o hq
    unfold mxX7_isKnown_6 at hq
    refine mB_run odX7_isKnown 5 (g := (13, [(0, .ref 239), (1, .int x1), (2, .long x2), (4, .int x4)], [.ref 239, .int ((64 : Int32) * x1), .int x4], (hM C h), 0, 0)) rfl ?_
    refine r_gR odX7_isKnown rfl rfl (md_27 hC) ?_
    refine mB_run odX7_isKnown 1 (g := (17, [(0, .ref 239), (1, .int x1), (2, .long x2), (4, .int x4)], [.int x1, .ref 260, .int ((64 : Int32) * x1), .int x4], (hM C h), 0, 0)) rfl ?_
    obtain ⟨v1, e2, hq⟩ := bsm hq
    refine r_aI odX7_isKnown rfl (ra_27 hC e2) ?_
    refine mB_run odX7_isKnown 1 (g := (19, [(0, .ref 239), (1, .int x1), (2, .long x2), (4, .int x4)], [.int (((64 : Int32) * x1) + v1), .int x4], (hM C h), 0, 0)) rfl ?_
    by_cases c3 : (((64 : Int32) * x1) + v1) ≤ x4
    · rw [if_pos c3] at hq
      refine ic_ge_T (t := 87) odX7_isKnown rfl rfl c3 ?_
      refine mB_run odX7_isKnown 1 (g := (88, [(0, .ref 239), (1, .int x1), (2, .long x2), (4, .int x4)], [.int (0 : Int32)], (hM C h), 0, 0)) rfl ?_
      cases hq
      exact mB_ret odX7_isKnown rfl
    · rw [if_neg c3] at hq
      refine ic_ge_F (t := 87) odX7_isKnown rfl rfl c3 ?_
      refine mB_run odX7_isKnown 1 (g := (23, [(0, .ref 239), (1, .int x1), (2, .long x2), (4, .int x4)], [.ref 239], (hM C h), 0, 0)) rfl ?_
      refine r_gR odX7_isKnown rfl rfl (md_28 hC) ?_
      refine mB_run odX7_isKnown 1 (g := (28, [(0, .ref 239), (1, .int x1), (2, .long x2), (4, .int x4)], [.int x4, .ref 261], (hM C h), 0, 0)) rfl ?_
      obtain ⟨v4, e5, hq⟩ := bsm hq
      refine r_aJ odX7_isKnown rfl (ra_28 hC e5) ?_
      refine mB_run odX7_isKnown 1 (g := (30, [(0, .ref 239), (1, .int x1), (2, .long x2), (4, .int x4)], [.ref 239, .long v4], (hM C h), 0, 0)) rfl ?_
      refine r_gJ odX7_isKnown rfl rfl (md_24 hC) ?_
      by_cases c6 : v4 = (h.2.1 24)
      · rw [if_pos c6] at hq
        refine lc_ne_F (t := 81) odX7_isKnown rfl rfl rfl c6 ?_
        refine mB_run odX7_isKnown 1 (g := (38, [(0, .ref 239), (1, .int x1), (2, .long x2), (4, .int x4)], [.ref 239], (hM C h), 0, 0)) rfl ?_
        refine r_gR odX7_isKnown rfl rfl (md_29 hC) ?_
        refine mB_run odX7_isKnown 1 (g := (43, [(0, .ref 239), (1, .int x1), (2, .long x2), (4, .int x4)], [.int x4, .ref 262], (hM C h), 0, 0)) rfl ?_
        obtain ⟨v7, e8, hq⟩ := bsm hq
        refine r_aJ odX7_isKnown rfl (ra_29 hC e8) ?_
        refine mB_run odX7_isKnown 1 (g := (45, [(0, .ref 239), (1, .int x1), (2, .long x2), (4, .int x4)], [.ref 239, .long v7], (hM C h), 0, 0)) rfl ?_
        refine r_gJ odX7_isKnown rfl rfl (md_25 hC) ?_
        by_cases c9 : v7 = (h.2.1 25)
        · rw [if_pos c9] at hq
          refine lc_ne_F (t := 81) odX7_isKnown rfl rfl rfl c9 ?_
          refine mB_run odX7_isKnown 1 (g := (53, [(0, .ref 239), (1, .int x1), (2, .long x2), (4, .int x4)], [.ref 239], (hM C h), 0, 0)) rfl ?_
          refine r_gR odX7_isKnown rfl rfl (md_30 hC) ?_
          refine mB_run odX7_isKnown 1 (g := (58, [(0, .ref 239), (1, .int x1), (2, .long x2), (4, .int x4)], [.int x4, .ref 263], (hM C h), 0, 0)) rfl ?_
          obtain ⟨v10, e11, hq⟩ := bsm hq
          refine r_aJ odX7_isKnown rfl (ra_30 hC e11) ?_
          refine mB_run odX7_isKnown 1 (g := (60, [(0, .ref 239), (1, .int x1), (2, .long x2), (4, .int x4)], [.ref 239, .long v10], (hM C h), 0, 0)) rfl ?_
          refine r_gJ odX7_isKnown rfl rfl (md_26 hC) ?_
          by_cases c12 : v10 = (h.2.1 26)
          · rw [if_pos c12] at hq
            refine lc_ne_F (t := 81) odX7_isKnown rfl rfl rfl c12 ?_
            refine mB_run odX7_isKnown 1 (g := (68, [(0, .ref 239), (1, .int x1), (2, .long x2), (4, .int x4)], [.ref 239], (hM C h), 0, 0)) rfl ?_
            refine r_gR odX7_isKnown rfl rfl (md_31 hC) ?_
            refine mB_run odX7_isKnown 1 (g := (73, [(0, .ref 239), (1, .int x1), (2, .long x2), (4, .int x4)], [.int x4, .ref 264], (hM C h), 0, 0)) rfl ?_
            obtain ⟨v13, e14, hq⟩ := bsm hq
            refine r_aJ odX7_isKnown rfl (ra_31 hC e14) ?_
            refine mB_run odX7_isKnown 1 (g := (75, [(0, .ref 239), (1, .int x1), (2, .long x2), (4, .int x4)], [.long x2, .long v13], (hM C h), 0, 0)) rfl ?_
            by_cases c15 : v13 = x2
            · rw [if_pos c15] at hq
              refine lc_ne_F (t := 81) odX7_isKnown rfl rfl rfl c15 ?_
              refine mB_run odX7_isKnown 1 (g := (80, [(0, .ref 239), (1, .int x1), (2, .long x2), (4, .int x4)], [.int (1 : Int32)], (hM C h), 0, 0)) rfl ?_
              cases hq
              exact mB_ret odX7_isKnown rfl
            · rw [if_neg c15] at hq
              refine lc_ne_T (t := 81) odX7_isKnown rfl rfl rfl c15 ?_
              refine mB_lv [0, 1, 2, 3] (lv' := [(0, .ref 239), (1, .int x1), (2, .long x2), (4, .int x4)]) rfl ?_
              exact emX7_isKnown_81 hC ih _ _ _ _ hq
          · rw [if_neg c12] at hq
            refine lc_ne_T (t := 81) odX7_isKnown rfl rfl rfl c12 ?_
            refine mB_lv [0, 1, 2, 3] (lv' := [(0, .ref 239), (1, .int x1), (2, .long x2), (4, .int x4)]) rfl ?_
            exact emX7_isKnown_81 hC ih _ _ _ _ hq
        · rw [if_neg c9] at hq
          refine lc_ne_T (t := 81) odX7_isKnown rfl rfl rfl c9 ?_
          refine mB_lv [0, 1, 2, 3] (lv' := [(0, .ref 239), (1, .int x1), (2, .long x2), (4, .int x4)]) rfl ?_
          exact emX7_isKnown_81 hC ih _ _ _ _ hq
      · rw [if_neg c6] at hq
        refine lc_ne_T (t := 81) odX7_isKnown rfl rfl rfl c6 ?_
        refine mB_lv [0, 1, 2, 3] (lv' := [(0, .ref 239), (1, .int x1), (2, .long x2), (4, .int x4)]) rfl ?_
        exact emX7_isKnown_81 hC ih _ _ _ _ hq
def mxX7_isKnown (N : Nat) (p1 : Int32) (p2 : Int64) (h : mS) : Option (mS × Int32) :=
  mxX7_isKnown_6 N N p1 p2 ((64 : Int32) * p1) h
set_option maxHeartbeats 4000000 in
set_option maxRecDepth 100000 in
theorem emX7_isKnown {N : Nat} {C : mh} (hC : C.length = 239) {p1 : Int32} {p2 : Int64} {h : mS} {o : (mS × Int32)} (hq : mxX7_isKnown N p1 p2 h = some o) : mC mX7_isKnown [.ref 239, .int p1, .long p2] (hM C h) (hM C o.1, some (.int o.2)) := by
  refine mC_of okX7_isKnown (Nat.le_of_ble_eq_true rfl) ?_
  unfold mxX7_isKnown at hq
  show mB _ mX7_isKnown (0, [(0, .ref 239), (1, .int p1), (2, .long p2)], [], (hM C h), 0, 0)
  refine mB_run odX7_isKnown 4 (g := (6, [(4, .int ((64 : Int32) * p1)), (0, .ref 239), (1, .int p1), (2, .long p2)], [], (hM C h), 0, 0)) rfl ?_
  refine mB_lv [1, 2, 3, 0] (lv' := [(0, .ref 239), (1, .int p1), (2, .long p2), (4, .int ((64 : Int32) * p1))]) rfl ?_
  exact emX7_isKnown_6 hC N _ _ _ _ hq
def mxX7_isAhead (N : Nat) (p1 : Int32) (p2 : Int64) (h : mS) : Option (mS × Int32) :=
  (rG h 28 p1).bind fun v1 =>
  if v1 = (h.2.1 24) then (
    (rG h 29 p1).bind fun v4 =>
    if v4 = (h.2.1 25) then (
      (rG h 30 p1).bind fun v7 =>
      if v7 = (h.2.1 26) then (
        (rG h 31 p1).bind fun v10 =>
        if p2 ≤ v10 then (
          some (h, (0 : Int32))) else (
          some (h, (1 : Int32)))) else (
        (rG h 30 p1).bind fun v13 =>
        if (h.2.1 26) ≤ v13 then (
          some (h, (0 : Int32))) else (
          some (h, (1 : Int32))))) else (
      (rG h 29 p1).bind fun v16 =>
      if (h.2.1 25) ≤ v16 then (
        some (h, (0 : Int32))) else (
        some (h, (1 : Int32))))) else (
    (rG h 28 p1).bind fun v19 =>
    if (h.2.1 24) ≤ v19 then (
      some (h, (0 : Int32))) else (
      some (h, (1 : Int32))))
set_option maxHeartbeats 4000000 in
set_option maxRecDepth 100000 in
theorem emX7_isAhead {N : Nat} {C : mh} (hC : C.length = 239) {p1 : Int32} {p2 : Int64} {h : mS} {o : (mS × Int32)} (hq : mxX7_isAhead N p1 p2 h = some o) : mC mX7_isAhead [.ref 239, .int p1, .long p2] (hM C h) (hM C o.1, some (.int o.2)) := by
  refine mC_of okX7_isAhead (Nat.le_of_ble_eq_true rfl) ?_
  unfold mxX7_isAhead at hq
  show mB _ mX7_isAhead (0, [(0, .ref 239), (1, .int p1), (2, .long p2)], [], (hM C h), 0, 0)
  refine mB_run odX7_isAhead 1 (g := (1, [(0, .ref 239), (1, .int p1), (2, .long p2)], [.ref 239], (hM C h), 0, 0)) rfl ?_
  refine r_gR odX7_isAhead rfl rfl (md_28 hC) ?_
  refine mB_run odX7_isAhead 1 (g := (5, [(0, .ref 239), (1, .int p1), (2, .long p2)], [.int p1, .ref 261], (hM C h), 0, 0)) rfl ?_
  obtain ⟨v1, e2, hq⟩ := bsm hq
  refine r_aJ odX7_isAhead rfl (ra_28 hC e2) ?_
  refine mB_run odX7_isAhead 1 (g := (7, [(0, .ref 239), (1, .int p1), (2, .long p2)], [.ref 239, .long v1], (hM C h), 0, 0)) rfl ?_
  refine r_gJ odX7_isAhead rfl rfl (md_24 hC) ?_
  by_cases c3 : v1 = (h.2.1 24)
  · rw [if_pos c3] at hq
    refine lc_eq_T (t := 34) odX7_isAhead rfl rfl rfl c3 ?_
    refine mB_run odX7_isAhead 1 (g := (35, [(0, .ref 239), (1, .int p1), (2, .long p2)], [.ref 239], (hM C h), 0, 0)) rfl ?_
    refine r_gR odX7_isAhead rfl rfl (md_29 hC) ?_
    refine mB_run odX7_isAhead 1 (g := (39, [(0, .ref 239), (1, .int p1), (2, .long p2)], [.int p1, .ref 262], (hM C h), 0, 0)) rfl ?_
    obtain ⟨v4, e5, hq⟩ := bsm hq
    refine r_aJ odX7_isAhead rfl (ra_29 hC e5) ?_
    refine mB_run odX7_isAhead 1 (g := (41, [(0, .ref 239), (1, .int p1), (2, .long p2)], [.ref 239, .long v4], (hM C h), 0, 0)) rfl ?_
    refine r_gJ odX7_isAhead rfl rfl (md_25 hC) ?_
    by_cases c6 : v4 = (h.2.1 25)
    · rw [if_pos c6] at hq
      refine lc_eq_T (t := 68) odX7_isAhead rfl rfl rfl c6 ?_
      refine mB_run odX7_isAhead 1 (g := (69, [(0, .ref 239), (1, .int p1), (2, .long p2)], [.ref 239], (hM C h), 0, 0)) rfl ?_
      refine r_gR odX7_isAhead rfl rfl (md_30 hC) ?_
      refine mB_run odX7_isAhead 1 (g := (73, [(0, .ref 239), (1, .int p1), (2, .long p2)], [.int p1, .ref 263], (hM C h), 0, 0)) rfl ?_
      obtain ⟨v7, e8, hq⟩ := bsm hq
      refine r_aJ odX7_isAhead rfl (ra_30 hC e8) ?_
      refine mB_run odX7_isAhead 1 (g := (75, [(0, .ref 239), (1, .int p1), (2, .long p2)], [.ref 239, .long v7], (hM C h), 0, 0)) rfl ?_
      refine r_gJ odX7_isAhead rfl rfl (md_26 hC) ?_
      by_cases c9 : v7 = (h.2.1 26)
      · rw [if_pos c9] at hq
        refine lc_eq_T (t := 102) odX7_isAhead rfl rfl rfl c9 ?_
        refine mB_run odX7_isAhead 1 (g := (103, [(0, .ref 239), (1, .int p1), (2, .long p2)], [.ref 239], (hM C h), 0, 0)) rfl ?_
        refine r_gR odX7_isAhead rfl rfl (md_31 hC) ?_
        refine mB_run odX7_isAhead 1 (g := (107, [(0, .ref 239), (1, .int p1), (2, .long p2)], [.int p1, .ref 264], (hM C h), 0, 0)) rfl ?_
        obtain ⟨v10, e11, hq⟩ := bsm hq
        refine r_aJ odX7_isAhead rfl (ra_31 hC e11) ?_
        refine mB_run odX7_isAhead 1 (g := (109, [(0, .ref 239), (1, .int p1), (2, .long p2)], [.long p2, .long v10], (hM C h), 0, 0)) rfl ?_
        by_cases c12 : p2 ≤ v10
        · rw [if_pos c12] at hq
          refine lc_ge_T (t := 117) odX7_isAhead rfl rfl rfl c12 ?_
          refine mB_run odX7_isAhead 1 (g := (118, [(0, .ref 239), (1, .int p1), (2, .long p2)], [.int (0 : Int32)], (hM C h), 0, 0)) rfl ?_
          cases hq
          exact mB_ret odX7_isAhead rfl
        · rw [if_neg c12] at hq
          refine lc_ge_F (t := 117) odX7_isAhead rfl rfl rfl c12 ?_
          refine mB_run odX7_isAhead 2 (g := (118, [(0, .ref 239), (1, .int p1), (2, .long p2)], [.int (1 : Int32)], (hM C h), 0, 0)) rfl ?_
          cases hq
          exact mB_ret odX7_isAhead rfl
      · rw [if_neg c9] at hq
        refine lc_eq_F (t := 102) odX7_isAhead rfl rfl rfl c9 ?_
        refine mB_run odX7_isAhead 1 (g := (83, [(0, .ref 239), (1, .int p1), (2, .long p2)], [.ref 239], (hM C h), 0, 0)) rfl ?_
        refine r_gR odX7_isAhead rfl rfl (md_30 hC) ?_
        refine mB_run odX7_isAhead 1 (g := (87, [(0, .ref 239), (1, .int p1), (2, .long p2)], [.int p1, .ref 263], (hM C h), 0, 0)) rfl ?_
        obtain ⟨v13, e14, hq⟩ := bsm hq
        refine r_aJ odX7_isAhead rfl (ra_30 hC e14) ?_
        refine mB_run odX7_isAhead 1 (g := (89, [(0, .ref 239), (1, .int p1), (2, .long p2)], [.ref 239, .long v13], (hM C h), 0, 0)) rfl ?_
        refine r_gJ odX7_isAhead rfl rfl (md_26 hC) ?_
        by_cases c15 : (h.2.1 26) ≤ v13
        · rw [if_pos c15] at hq
          refine lc_ge_T (t := 100) odX7_isAhead rfl rfl rfl c15 ?_
          refine mB_run odX7_isAhead 1 (g := (101, [(0, .ref 239), (1, .int p1), (2, .long p2)], [.int (0 : Int32)], (hM C h), 0, 0)) rfl ?_
          cases hq
          exact mB_ret odX7_isAhead rfl
        · rw [if_neg c15] at hq
          refine lc_ge_F (t := 100) odX7_isAhead rfl rfl rfl c15 ?_
          refine mB_run odX7_isAhead 2 (g := (101, [(0, .ref 239), (1, .int p1), (2, .long p2)], [.int (1 : Int32)], (hM C h), 0, 0)) rfl ?_
          cases hq
          exact mB_ret odX7_isAhead rfl
    · rw [if_neg c6] at hq
      refine lc_eq_F (t := 68) odX7_isAhead rfl rfl rfl c6 ?_
      refine mB_run odX7_isAhead 1 (g := (49, [(0, .ref 239), (1, .int p1), (2, .long p2)], [.ref 239], (hM C h), 0, 0)) rfl ?_
      refine r_gR odX7_isAhead rfl rfl (md_29 hC) ?_
      refine mB_run odX7_isAhead 1 (g := (53, [(0, .ref 239), (1, .int p1), (2, .long p2)], [.int p1, .ref 262], (hM C h), 0, 0)) rfl ?_
      obtain ⟨v16, e17, hq⟩ := bsm hq
      refine r_aJ odX7_isAhead rfl (ra_29 hC e17) ?_
      refine mB_run odX7_isAhead 1 (g := (55, [(0, .ref 239), (1, .int p1), (2, .long p2)], [.ref 239, .long v16], (hM C h), 0, 0)) rfl ?_
      refine r_gJ odX7_isAhead rfl rfl (md_25 hC) ?_
      by_cases c18 : (h.2.1 25) ≤ v16
      · rw [if_pos c18] at hq
        refine lc_ge_T (t := 66) odX7_isAhead rfl rfl rfl c18 ?_
        refine mB_run odX7_isAhead 1 (g := (67, [(0, .ref 239), (1, .int p1), (2, .long p2)], [.int (0 : Int32)], (hM C h), 0, 0)) rfl ?_
        cases hq
        exact mB_ret odX7_isAhead rfl
      · rw [if_neg c18] at hq
        refine lc_ge_F (t := 66) odX7_isAhead rfl rfl rfl c18 ?_
        refine mB_run odX7_isAhead 2 (g := (67, [(0, .ref 239), (1, .int p1), (2, .long p2)], [.int (1 : Int32)], (hM C h), 0, 0)) rfl ?_
        cases hq
        exact mB_ret odX7_isAhead rfl
  · rw [if_neg c3] at hq
    refine lc_eq_F (t := 34) odX7_isAhead rfl rfl rfl c3 ?_
    refine mB_run odX7_isAhead 1 (g := (15, [(0, .ref 239), (1, .int p1), (2, .long p2)], [.ref 239], (hM C h), 0, 0)) rfl ?_
    refine r_gR odX7_isAhead rfl rfl (md_28 hC) ?_
    refine mB_run odX7_isAhead 1 (g := (19, [(0, .ref 239), (1, .int p1), (2, .long p2)], [.int p1, .ref 261], (hM C h), 0, 0)) rfl ?_
    obtain ⟨v19, e20, hq⟩ := bsm hq
    refine r_aJ odX7_isAhead rfl (ra_28 hC e20) ?_
    refine mB_run odX7_isAhead 1 (g := (21, [(0, .ref 239), (1, .int p1), (2, .long p2)], [.ref 239, .long v19], (hM C h), 0, 0)) rfl ?_
    refine r_gJ odX7_isAhead rfl rfl (md_24 hC) ?_
    by_cases c21 : (h.2.1 24) ≤ v19
    · rw [if_pos c21] at hq
      refine lc_ge_T (t := 32) odX7_isAhead rfl rfl rfl c21 ?_
      refine mB_run odX7_isAhead 1 (g := (33, [(0, .ref 239), (1, .int p1), (2, .long p2)], [.int (0 : Int32)], (hM C h), 0, 0)) rfl ?_
      cases hq
      exact mB_ret odX7_isAhead rfl
    · rw [if_neg c21] at hq
      refine lc_ge_F (t := 32) odX7_isAhead rfl rfl rfl c21 ?_
      refine mB_run odX7_isAhead 2 (g := (33, [(0, .ref 239), (1, .int p1), (2, .long p2)], [.int (1 : Int32)], (hM C h), 0, 0)) rfl ?_
      cases hq
      exact mB_ret odX7_isAhead rfl
def mxX7_faceHere_141 (N : Nat) (rec51 : Int32 → Int64 → Int32 → Int32 → mS → Option mS) : Nat → Int32 → Int64 → Int32 → Int32 → Int32 → mS → Option mS
  | 0, _, _, _, _, _, _ => none
  | n + 1, x1, x2, x4, x5, x6, h =>
    if (25 : Int32) ≤ x6 then (
      rec51 x1 x2 x4 (x5 + (-1 : Int32)) h) else (
      (rA h 33 ((((25 : Int32) * x5) - (25 : Int32)) + x6)).bind fun v41 =>
      (wA h 33 (((25 : Int32) * x5) + x6) v41).bind fun s43 =>
      mxX7_faceHere_141 N rec51 n x1 x2 x4 x5 (x6 + (1 : Int32)) s43)
set_option maxHeartbeats 4000000 in
set_option maxRecDepth 100000 in
theorem emX7_faceHere_141 {N : Nat} {C : mh} (hC : C.length = 239) {rec51 : Int32 → Int64 → Int32 → Int32 → mS → Option mS} (hrec51 : ∀ (x1 : Int32) (x2 : Int64) (x4 : Int32) (x5 : Int32) (h : mS) {o : mS}, rec51 x1 x2 x4 x5 h = some o → mB (gO mX7_faceHere (hM C o, none)) mX7_faceHere (51, [(0, .ref 239), (1, .int x1), (2, .long x2), (4, .int x4), (5, .int x5)], [], (hM C h), 0, 0)) : ∀ (n : Nat) (x1 : Int32) (x2 : Int64) (x4 : Int32) (x5 : Int32) (x6 : Int32) (h : mS) {o : mS}, mxX7_faceHere_141 N rec51 n x1 x2 x4 x5 x6 h = some o → mB (gO mX7_faceHere (hM C o, none)) mX7_faceHere (141, [(0, .ref 239), (1, .int x1), (2, .long x2), (4, .int x4), (5, .int x5), (6, .int x6)], [], (hM C h), 0, 0) := by
  intro n
  induction n with
  | zero => intro x1 x2 x4 x5 x6 h o hq; cases hq
  | succ n ih =>
    intro x1 x2 x4 x5 x6 h o hq
    unfold mxX7_faceHere_141 at hq
    refine mB_run odX7_faceHere 2 (g := (145, [(0, .ref 239), (1, .int x1), (2, .long x2), (4, .int x4), (5, .int x5), (6, .int x6)], [.int (25 : Int32), .int x6], (hM C h), 0, 0)) rfl ?_
    by_cases c40 : (25 : Int32) ≤ x6
    · rw [if_pos c40] at hq
      refine ic_ge_T (t := 183) odX7_faceHere rfl rfl c40 ?_
      refine mB_run odX7_faceHere 2 (g := (51, [(5, .int (x5 + (-1 : Int32))), (0, .ref 239), (1, .int x1), (2, .long x2), (4, .int x4), (6, .int x6)], [], (hM C h), 0, 0)) rfl ?_
      refine mB_lv [1, 2, 3, 4, 0] (lv' := [(0, .ref 239), (1, .int x1), (2, .long x2), (4, .int x4), (5, .int (x5 + (-1 : Int32)))]) rfl ?_
      exact hrec51 _ _ _ _ _ hq
    · rw [if_neg c40] at hq
      refine ic_ge_F (t := 183) odX7_faceHere rfl rfl c40 ?_
      refine mB_run odX7_faceHere 1 (g := (149, [(0, .ref 239), (1, .int x1), (2, .long x2), (4, .int x4), (5, .int x5), (6, .int x6)], [.ref 239], (hM C h), 0, 0)) rfl ?_
      refine r_gR odX7_faceHere rfl rfl (md_33 hC) ?_
      refine mB_run odX7_faceHere 6 (g := (161, [(0, .ref 239), (1, .int x1), (2, .long x2), (4, .int x4), (5, .int x5), (6, .int x6)], [.ref 239, .int (((25 : Int32) * x5) + x6), .ref 266], (hM C h), 0, 0)) rfl ?_
      refine r_gR odX7_faceHere rfl rfl (md_33 hC) ?_
      refine mB_run odX7_faceHere 7 (g := (175, [(0, .ref 239), (1, .int x1), (2, .long x2), (4, .int x4), (5, .int x5), (6, .int x6)], [.int ((((25 : Int32) * x5) - (25 : Int32)) + x6), .ref 266, .int (((25 : Int32) * x5) + x6), .ref 266], (hM C h), 0, 0)) rfl ?_
      obtain ⟨v41, e42, hq⟩ := bsm hq
      refine r_aI odX7_faceHere rfl (ra_33 hC e42) ?_
      obtain ⟨s43, e44, hq⟩ := bsm hq
      refine r_wI odX7_faceHere rfl (wa_33 hC e44) ?_
      refine mB_run odX7_faceHere 2 (g := (141, [(6, .int (x6 + (1 : Int32))), (0, .ref 239), (1, .int x1), (2, .long x2), (4, .int x4), (5, .int x5)], [], (hM C s43), 0, 0)) rfl ?_
      refine mB_lv [1, 2, 3, 4, 5, 0] (lv' := [(0, .ref 239), (1, .int x1), (2, .long x2), (4, .int x4), (5, .int x5), (6, .int (x6 + (1 : Int32)))]) rfl ?_
      exact ih _ _ _ _ _ _ hq
def mxX7_faceHere_244 (N : Nat) : Nat → Int32 → Int32 → Int32 → mS → Option mS
  | 0, _, _, _, _ => none
  | n + 1, x1, x4, x5, h =>
    if (h.1 23) ≤ x5 then (
      (rA h 27 x1).bind fun v46 =>
      (wA h 27 x1 (v46 + (1 : Int32))).bind fun s48 =>
      some s48) else (
      (rA h 22 x5).bind fun v50 =>
      (wA h 33 (((25 : Int32) * x4) + x5) v50).bind fun s52 =>
      mxX7_faceHere_244 N n x1 x4 (x5 + (1 : Int32)) s52)
set_option maxHeartbeats 4000000 in
set_option maxRecDepth 100000 in
theorem emX7_faceHere_244 {N : Nat} {C : mh} (hC : C.length = 239) : ∀ (n : Nat) (x1 : Int32) (x4 : Int32) (x5 : Int32) (h : mS) {o : mS}, mxX7_faceHere_244 N n x1 x4 x5 h = some o → mB (gO mX7_faceHere (hM C o, none)) mX7_faceHere (244, [(0, .ref 239), (1, .int x1), (4, .int x4), (5, .int x5)], [], (hM C h), 0, 0) := by
  intro n
  induction n with
  | zero => intro x1 x4 x5 h o hq; cases hq
  | succ n ih =>
    intro x1 x4 x5 h o hq
    unfold mxX7_faceHere_244 at hq
    refine mB_run odX7_faceHere 2 (g := (247, [(0, .ref 239), (1, .int x1), (4, .int x4), (5, .int x5)], [.ref 239, .int x5], (hM C h), 0, 0)) rfl ?_
    refine r_gI odX7_faceHere rfl rfl (md_23 hC) ?_
    by_cases c45 : (h.1 23) ≤ x5
    · rw [if_pos c45] at hq
      refine ic_ge_T (t := 279) odX7_faceHere rfl rfl c45 ?_
      refine mB_run odX7_faceHere 1 (g := (280, [(0, .ref 239), (1, .int x1), (4, .int x4), (5, .int x5)], [.ref 239], (hM C h), 0, 0)) rfl ?_
      refine r_gR odX7_faceHere rfl rfl (md_27 hC) ?_
      refine mB_run odX7_faceHere 2 (g := (285, [(0, .ref 239), (1, .int x1), (4, .int x4), (5, .int x5)], [.int x1, .ref 260, .int x1, .ref 260], (hM C h), 0, 0)) rfl ?_
      obtain ⟨v46, e47, hq⟩ := bsm hq
      refine r_aI odX7_faceHere rfl (ra_27 hC e47) ?_
      refine mB_run odX7_faceHere 2 (g := (288, [(0, .ref 239), (1, .int x1), (4, .int x4), (5, .int x5)], [.int (v46 + (1 : Int32)), .int x1, .ref 260], (hM C h), 0, 0)) rfl ?_
      obtain ⟨s48, e49, hq⟩ := bsm hq
      refine r_wI odX7_faceHere rfl (wa_27 hC e49) ?_
      cases hq
      exact mB_ret odX7_faceHere rfl
    · rw [if_neg c45] at hq
      refine ic_ge_F (t := 279) odX7_faceHere rfl rfl c45 ?_
      refine mB_run odX7_faceHere 1 (g := (254, [(0, .ref 239), (1, .int x1), (4, .int x4), (5, .int x5)], [.ref 239], (hM C h), 0, 0)) rfl ?_
      refine r_gR odX7_faceHere rfl rfl (md_33 hC) ?_
      refine mB_run odX7_faceHere 6 (g := (266, [(0, .ref 239), (1, .int x1), (4, .int x4), (5, .int x5)], [.ref 239, .int (((25 : Int32) * x4) + x5), .ref 266], (hM C h), 0, 0)) rfl ?_
      refine r_gR odX7_faceHere rfl rfl (md_22 hC) ?_
      refine mB_run odX7_faceHere 1 (g := (271, [(0, .ref 239), (1, .int x1), (4, .int x4), (5, .int x5)], [.int x5, .ref 259, .int (((25 : Int32) * x4) + x5), .ref 266], (hM C h), 0, 0)) rfl ?_
      obtain ⟨v50, e51, hq⟩ := bsm hq
      refine r_aI odX7_faceHere rfl (ra_22 hC e51) ?_
      obtain ⟨s52, e53, hq⟩ := bsm hq
      refine r_wI odX7_faceHere rfl (wa_33 hC e53) ?_
      refine mB_run odX7_faceHere 2 (g := (244, [(5, .int (x5 + (1 : Int32))), (0, .ref 239), (1, .int x1), (4, .int x4)], [], (hM C s52), 0, 0)) rfl ?_
      refine mB_lv [1, 2, 3, 0] (lv' := [(0, .ref 239), (1, .int x1), (4, .int x4), (5, .int (x5 + (1 : Int32)))]) rfl ?_
      exact ih _ _ _ _ hq
def mxX7_faceHere_51 (N : Nat) : Nat → Int32 → Int64 → Int32 → Int32 → mS → Option mS
  | 0, _, _, _, _, _ => none
  | n + 1, x1, x2, x4, x5, h =>
    if x5 ≤ x4 then (
      (wG h 28 x4 (h.2.1 24)).bind fun s10 =>
      (wG s10 29 x4 (s10.2.1 25)).bind fun s12 =>
      (wG s12 30 x4 (s12.2.1 26)).bind fun s14 =>
      (wG s14 31 x4 x2).bind fun s16 =>
      (wA s16 32 x4 (s16.1 23)).bind fun s18 =>
      mxX7_faceHere_244 N N x1 x4 (0 : Int32) s18) else (
      (rG h 28 (x5 - (1 : Int32))).bind fun v20 =>
      (wG h 28 x5 v20).bind fun s22 =>
      (rG s22 29 (x5 - (1 : Int32))).bind fun v24 =>
      (wG s22 29 x5 v24).bind fun s26 =>
      (rG s26 30 (x5 - (1 : Int32))).bind fun v28 =>
      (wG s26 30 x5 v28).bind fun s30 =>
      (rG s30 31 (x5 - (1 : Int32))).bind fun v32 =>
      (wG s30 31 x5 v32).bind fun s34 =>
      (rA s34 32 (x5 - (1 : Int32))).bind fun v36 =>
      (wA s34 32 x5 v36).bind fun s38 =>
      mxX7_faceHere_141 N (mxX7_faceHere_51 N n) N x1 x2 x4 x5 (0 : Int32) s38)
set_option maxHeartbeats 4000000 in
set_option maxRecDepth 100000 in
theorem emX7_faceHere_51 {N : Nat} {C : mh} (hC : C.length = 239) : ∀ (n : Nat) (x1 : Int32) (x2 : Int64) (x4 : Int32) (x5 : Int32) (h : mS) {o : mS}, mxX7_faceHere_51 N n x1 x2 x4 x5 h = some o → mB (gO mX7_faceHere (hM C o, none)) mX7_faceHere (51, [(0, .ref 239), (1, .int x1), (2, .long x2), (4, .int x4), (5, .int x5)], [], (hM C h), 0, 0) := by
  intro n
  induction n with
  | zero => intro x1 x2 x4 x5 h o hq; cases hq
  | succ n ih =>
    intro x1 x2 x4 x5 h o hq
    unfold mxX7_faceHere_51 at hq
    refine mB_run odX7_faceHere 2 (g := (55, [(0, .ref 239), (1, .int x1), (2, .long x2), (4, .int x4), (5, .int x5)], [.int x4, .int x5], (hM C h), 0, 0)) rfl ?_
    by_cases c9 : x5 ≤ x4
    · rw [if_pos c9] at hq
      refine ic_le_T (t := 189) odX7_faceHere rfl rfl c9 ?_
      refine mB_run odX7_faceHere 1 (g := (190, [(0, .ref 239), (1, .int x1), (2, .long x2), (4, .int x4), (5, .int x5)], [.ref 239], (hM C h), 0, 0)) rfl ?_
      refine r_gR odX7_faceHere rfl rfl (md_28 hC) ?_
      refine mB_run odX7_faceHere 2 (g := (196, [(0, .ref 239), (1, .int x1), (2, .long x2), (4, .int x4), (5, .int x5)], [.ref 239, .int x4, .ref 261], (hM C h), 0, 0)) rfl ?_
      refine r_gJ odX7_faceHere rfl rfl (md_24 hC) ?_
      obtain ⟨s10, e11, hq⟩ := bsm hq
      refine r_wJ odX7_faceHere rfl (wa_28 hC e11) ?_
      refine mB_run odX7_faceHere 1 (g := (201, [(0, .ref 239), (1, .int x1), (2, .long x2), (4, .int x4), (5, .int x5)], [.ref 239], (hM C s10), 0, 0)) rfl ?_
      refine r_gR odX7_faceHere rfl rfl (md_29 hC) ?_
      refine mB_run odX7_faceHere 2 (g := (207, [(0, .ref 239), (1, .int x1), (2, .long x2), (4, .int x4), (5, .int x5)], [.ref 239, .int x4, .ref 262], (hM C s10), 0, 0)) rfl ?_
      refine r_gJ odX7_faceHere rfl rfl (md_25 hC) ?_
      obtain ⟨s12, e13, hq⟩ := bsm hq
      refine r_wJ odX7_faceHere rfl (wa_29 hC e13) ?_
      refine mB_run odX7_faceHere 1 (g := (212, [(0, .ref 239), (1, .int x1), (2, .long x2), (4, .int x4), (5, .int x5)], [.ref 239], (hM C s12), 0, 0)) rfl ?_
      refine r_gR odX7_faceHere rfl rfl (md_30 hC) ?_
      refine mB_run odX7_faceHere 2 (g := (218, [(0, .ref 239), (1, .int x1), (2, .long x2), (4, .int x4), (5, .int x5)], [.ref 239, .int x4, .ref 263], (hM C s12), 0, 0)) rfl ?_
      refine r_gJ odX7_faceHere rfl rfl (md_26 hC) ?_
      obtain ⟨s14, e15, hq⟩ := bsm hq
      refine r_wJ odX7_faceHere rfl (wa_30 hC e15) ?_
      refine mB_run odX7_faceHere 1 (g := (223, [(0, .ref 239), (1, .int x1), (2, .long x2), (4, .int x4), (5, .int x5)], [.ref 239], (hM C s14), 0, 0)) rfl ?_
      refine r_gR odX7_faceHere rfl rfl (md_31 hC) ?_
      refine mB_run odX7_faceHere 2 (g := (229, [(0, .ref 239), (1, .int x1), (2, .long x2), (4, .int x4), (5, .int x5)], [.long x2, .int x4, .ref 264], (hM C s14), 0, 0)) rfl ?_
      obtain ⟨s16, e17, hq⟩ := bsm hq
      refine r_wJ odX7_faceHere rfl (wa_31 hC e17) ?_
      refine mB_run odX7_faceHere 1 (g := (231, [(0, .ref 239), (1, .int x1), (2, .long x2), (4, .int x4), (5, .int x5)], [.ref 239], (hM C s16), 0, 0)) rfl ?_
      refine r_gR odX7_faceHere rfl rfl (md_32 hC) ?_
      refine mB_run odX7_faceHere 2 (g := (237, [(0, .ref 239), (1, .int x1), (2, .long x2), (4, .int x4), (5, .int x5)], [.ref 239, .int x4, .ref 265], (hM C s16), 0, 0)) rfl ?_
      refine r_gI odX7_faceHere rfl rfl (md_23 hC) ?_
      obtain ⟨s18, e19, hq⟩ := bsm hq
      refine r_wI odX7_faceHere rfl (wa_32 hC e19) ?_
      refine mB_run odX7_faceHere 2 (g := (244, [(5, .int (0 : Int32)), (0, .ref 239), (1, .int x1), (2, .long x2), (4, .int x4)], [], (hM C s18), 0, 0)) rfl ?_
      refine mB_lv [1, 2, 4, 0] (lv' := [(0, .ref 239), (1, .int x1), (4, .int x4), (5, .int (0 : Int32))]) rfl ?_
      exact emX7_faceHere_244 hC N _ _ _ _ hq
    · rw [if_neg c9] at hq
      refine ic_le_F (t := 189) odX7_faceHere rfl rfl c9 ?_
      refine mB_run odX7_faceHere 1 (g := (59, [(0, .ref 239), (1, .int x1), (2, .long x2), (4, .int x4), (5, .int x5)], [.ref 239], (hM C h), 0, 0)) rfl ?_
      refine r_gR odX7_faceHere rfl rfl (md_28 hC) ?_
      refine mB_run odX7_faceHere 2 (g := (65, [(0, .ref 239), (1, .int x1), (2, .long x2), (4, .int x4), (5, .int x5)], [.ref 239, .int x5, .ref 261], (hM C h), 0, 0)) rfl ?_
      refine r_gR odX7_faceHere rfl rfl (md_28 hC) ?_
      refine mB_run odX7_faceHere 3 (g := (72, [(0, .ref 239), (1, .int x1), (2, .long x2), (4, .int x4), (5, .int x5)], [.int (x5 - (1 : Int32)), .ref 261, .int x5, .ref 261], (hM C h), 0, 0)) rfl ?_
      obtain ⟨v20, e21, hq⟩ := bsm hq
      refine r_aJ odX7_faceHere rfl (ra_28 hC e21) ?_
      obtain ⟨s22, e23, hq⟩ := bsm hq
      refine r_wJ odX7_faceHere rfl (wa_28 hC e23) ?_
      refine mB_run odX7_faceHere 1 (g := (75, [(0, .ref 239), (1, .int x1), (2, .long x2), (4, .int x4), (5, .int x5)], [.ref 239], (hM C s22), 0, 0)) rfl ?_
      refine r_gR odX7_faceHere rfl rfl (md_29 hC) ?_
      refine mB_run odX7_faceHere 2 (g := (81, [(0, .ref 239), (1, .int x1), (2, .long x2), (4, .int x4), (5, .int x5)], [.ref 239, .int x5, .ref 262], (hM C s22), 0, 0)) rfl ?_
      refine r_gR odX7_faceHere rfl rfl (md_29 hC) ?_
      refine mB_run odX7_faceHere 3 (g := (88, [(0, .ref 239), (1, .int x1), (2, .long x2), (4, .int x4), (5, .int x5)], [.int (x5 - (1 : Int32)), .ref 262, .int x5, .ref 262], (hM C s22), 0, 0)) rfl ?_
      obtain ⟨v24, e25, hq⟩ := bsm hq
      refine r_aJ odX7_faceHere rfl (ra_29 hC e25) ?_
      obtain ⟨s26, e27, hq⟩ := bsm hq
      refine r_wJ odX7_faceHere rfl (wa_29 hC e27) ?_
      refine mB_run odX7_faceHere 1 (g := (91, [(0, .ref 239), (1, .int x1), (2, .long x2), (4, .int x4), (5, .int x5)], [.ref 239], (hM C s26), 0, 0)) rfl ?_
      refine r_gR odX7_faceHere rfl rfl (md_30 hC) ?_
      refine mB_run odX7_faceHere 2 (g := (97, [(0, .ref 239), (1, .int x1), (2, .long x2), (4, .int x4), (5, .int x5)], [.ref 239, .int x5, .ref 263], (hM C s26), 0, 0)) rfl ?_
      refine r_gR odX7_faceHere rfl rfl (md_30 hC) ?_
      refine mB_run odX7_faceHere 3 (g := (104, [(0, .ref 239), (1, .int x1), (2, .long x2), (4, .int x4), (5, .int x5)], [.int (x5 - (1 : Int32)), .ref 263, .int x5, .ref 263], (hM C s26), 0, 0)) rfl ?_
      obtain ⟨v28, e29, hq⟩ := bsm hq
      refine r_aJ odX7_faceHere rfl (ra_30 hC e29) ?_
      obtain ⟨s30, e31, hq⟩ := bsm hq
      refine r_wJ odX7_faceHere rfl (wa_30 hC e31) ?_
      refine mB_run odX7_faceHere 1 (g := (107, [(0, .ref 239), (1, .int x1), (2, .long x2), (4, .int x4), (5, .int x5)], [.ref 239], (hM C s30), 0, 0)) rfl ?_
      refine r_gR odX7_faceHere rfl rfl (md_31 hC) ?_
      refine mB_run odX7_faceHere 2 (g := (113, [(0, .ref 239), (1, .int x1), (2, .long x2), (4, .int x4), (5, .int x5)], [.ref 239, .int x5, .ref 264], (hM C s30), 0, 0)) rfl ?_
      refine r_gR odX7_faceHere rfl rfl (md_31 hC) ?_
      refine mB_run odX7_faceHere 3 (g := (120, [(0, .ref 239), (1, .int x1), (2, .long x2), (4, .int x4), (5, .int x5)], [.int (x5 - (1 : Int32)), .ref 264, .int x5, .ref 264], (hM C s30), 0, 0)) rfl ?_
      obtain ⟨v32, e33, hq⟩ := bsm hq
      refine r_aJ odX7_faceHere rfl (ra_31 hC e33) ?_
      obtain ⟨s34, e35, hq⟩ := bsm hq
      refine r_wJ odX7_faceHere rfl (wa_31 hC e35) ?_
      refine mB_run odX7_faceHere 1 (g := (123, [(0, .ref 239), (1, .int x1), (2, .long x2), (4, .int x4), (5, .int x5)], [.ref 239], (hM C s34), 0, 0)) rfl ?_
      refine r_gR odX7_faceHere rfl rfl (md_32 hC) ?_
      refine mB_run odX7_faceHere 2 (g := (129, [(0, .ref 239), (1, .int x1), (2, .long x2), (4, .int x4), (5, .int x5)], [.ref 239, .int x5, .ref 265], (hM C s34), 0, 0)) rfl ?_
      refine r_gR odX7_faceHere rfl rfl (md_32 hC) ?_
      refine mB_run odX7_faceHere 3 (g := (136, [(0, .ref 239), (1, .int x1), (2, .long x2), (4, .int x4), (5, .int x5)], [.int (x5 - (1 : Int32)), .ref 265, .int x5, .ref 265], (hM C s34), 0, 0)) rfl ?_
      obtain ⟨v36, e37, hq⟩ := bsm hq
      refine r_aI odX7_faceHere rfl (ra_32 hC e37) ?_
      obtain ⟨s38, e39, hq⟩ := bsm hq
      refine r_wI odX7_faceHere rfl (wa_32 hC e39) ?_
      refine mB_run odX7_faceHere 2 (g := (141, [(6, .int (0 : Int32)), (0, .ref 239), (1, .int x1), (2, .long x2), (4, .int x4), (5, .int x5)], [], (hM C s38), 0, 0)) rfl ?_
      refine mB_lv [1, 2, 3, 4, 5, 0] (lv' := [(0, .ref 239), (1, .int x1), (2, .long x2), (4, .int x4), (5, .int x5), (6, .int (0 : Int32))]) rfl ?_
      exact emX7_faceHere_141 hC ih N _ _ _ _ _ _ hq
def mxX7_faceHere_38 (N : Nat) (x1 : Int32) (x2 : Int64) (x4 : Int32) (h : mS) : Option mS :=
  (rA h 27 x1).bind fun v7 =>
  mxX7_faceHere_51 N N x1 x2 x4 (((64 : Int32) * x1) + v7) h
set_option maxHeartbeats 4000000 in
set_option maxRecDepth 100000 in
theorem emX7_faceHere_38 {N : Nat} {C : mh} (hC : C.length = 239) (x1 : Int32) (x2 : Int64) (x4 : Int32) (h : mS) {o : mS} (hq : mxX7_faceHere_38 N x1 x2 x4 h = some o) : mB (gO mX7_faceHere (hM C o, none)) mX7_faceHere (38, [(0, .ref 239), (1, .int x1), (2, .long x2), (4, .int x4)], [], (hM C h), 0, 0) := by
  unfold mxX7_faceHere_38 at hq
  refine mB_run odX7_faceHere 4 (g := (43, [(0, .ref 239), (1, .int x1), (2, .long x2), (4, .int x4)], [.ref 239, .int ((64 : Int32) * x1)], (hM C h), 0, 0)) rfl ?_
  refine r_gR odX7_faceHere rfl rfl (md_27 hC) ?_
  refine mB_run odX7_faceHere 1 (g := (47, [(0, .ref 239), (1, .int x1), (2, .long x2), (4, .int x4)], [.int x1, .ref 260, .int ((64 : Int32) * x1)], (hM C h), 0, 0)) rfl ?_
  obtain ⟨v7, e8, hq⟩ := bsm hq
  refine r_aI odX7_faceHere rfl (ra_27 hC e8) ?_
  refine mB_run odX7_faceHere 2 (g := (51, [(5, .int (((64 : Int32) * x1) + v7)), (0, .ref 239), (1, .int x1), (2, .long x2), (4, .int x4)], [], (hM C h), 0, 0)) rfl ?_
  refine mB_lv [1, 2, 3, 4, 0] (lv' := [(0, .ref 239), (1, .int x1), (2, .long x2), (4, .int x4), (5, .int (((64 : Int32) * x1) + v7))]) rfl ?_
  exact emX7_faceHere_51 hC N _ _ _ _ _ hq
def mxX7_faceHere_6 (N : Nat) : Nat → Int32 → Int64 → Int32 → mS → Option mS
  | 0, _, _, _, _ => none
  | n + 1, x1, x2, x4, h =>
    (rA h 27 x1).bind fun v1 =>
    if (((64 : Int32) * x1) + v1) ≤ x4 then (
      mxX7_faceHere_38 N x1 x2 x4 h) else (
      (mxX7_isAhead N x4 x2 h).bind fun o4 =>
      if o4.2 = 0 then (
        mxX7_faceHere_38 N x1 x2 x4 o4.1) else (
        mxX7_faceHere_6 N n x1 x2 (x4 + (1 : Int32)) o4.1))
set_option maxHeartbeats 4000000 in
set_option maxRecDepth 100000 in
theorem emX7_faceHere_6 {N : Nat} {C : mh} (hC : C.length = 239) : ∀ (n : Nat) (x1 : Int32) (x2 : Int64) (x4 : Int32) (h : mS) {o : mS}, mxX7_faceHere_6 N n x1 x2 x4 h = some o → mB (gO mX7_faceHere (hM C o, none)) mX7_faceHere (6, [(0, .ref 239), (1, .int x1), (2, .long x2), (4, .int x4)], [], (hM C h), 0, 0) := by
  intro n
  induction n with
  | zero => intro x1 x2 x4 h o hq; cases hq
  | succ n ih =>
    intro x1 x2 x4 h o hq
    unfold mxX7_faceHere_6 at hq
    refine mB_run odX7_faceHere 5 (g := (13, [(0, .ref 239), (1, .int x1), (2, .long x2), (4, .int x4)], [.ref 239, .int ((64 : Int32) * x1), .int x4], (hM C h), 0, 0)) rfl ?_
    refine r_gR odX7_faceHere rfl rfl (md_27 hC) ?_
    refine mB_run odX7_faceHere 1 (g := (17, [(0, .ref 239), (1, .int x1), (2, .long x2), (4, .int x4)], [.int x1, .ref 260, .int ((64 : Int32) * x1), .int x4], (hM C h), 0, 0)) rfl ?_
    obtain ⟨v1, e2, hq⟩ := bsm hq
    refine r_aI odX7_faceHere rfl (ra_27 hC e2) ?_
    refine mB_run odX7_faceHere 1 (g := (19, [(0, .ref 239), (1, .int x1), (2, .long x2), (4, .int x4)], [.int (((64 : Int32) * x1) + v1), .int x4], (hM C h), 0, 0)) rfl ?_
    by_cases c3 : (((64 : Int32) * x1) + v1) ≤ x4
    · rw [if_pos c3] at hq
      refine ic_ge_T (t := 38) odX7_faceHere rfl rfl c3 ?_
      refine mB_lv [0, 1, 2, 3] (lv' := [(0, .ref 239), (1, .int x1), (2, .long x2), (4, .int x4)]) rfl ?_
      exact emX7_faceHere_38 hC _ _ _ _ hq
    · rw [if_neg c3] at hq
      refine ic_ge_F (t := 38) odX7_faceHere rfl rfl c3 ?_
      refine mB_run odX7_faceHere 3 (g := (26, [(0, .ref 239), (1, .int x1), (2, .long x2), (4, .int x4)], [.long x2, .int x4, .ref 239], (hM C h), 0, 0)) rfl ?_
      obtain ⟨o4, e5, hq⟩ := bsm hq
      refine mB_V (as := [.int x4, .long x2]) odX7_faceHere okX7_isAhead lk_7_193 rfl (emX7_isAhead hC e5) (kO_at (md_O hC)) rfl rfl rfl ?_
      show mB _ mX7_faceHere (29, [(0, .ref 239), (1, .int x1), (2, .long x2), (4, .int x4)], [.int o4.2], (hM C o4.1), 0, 0)
      by_cases c6 : o4.2 = 0
      · rw [if_pos c6] at hq
        refine if_eq_T (t := 38) odX7_faceHere rfl rfl c6 ?_
        refine mB_lv [0, 1, 2, 3] (lv' := [(0, .ref 239), (1, .int x1), (2, .long x2), (4, .int x4)]) rfl ?_
        exact emX7_faceHere_38 hC _ _ _ _ hq
      · rw [if_neg c6] at hq
        refine if_eq_F (t := 38) odX7_faceHere rfl rfl c6 ?_
        refine mB_run odX7_faceHere 2 (g := (6, [(4, .int (x4 + (1 : Int32))), (0, .ref 239), (1, .int x1), (2, .long x2)], [], (hM C o4.1), 0, 0)) rfl ?_
        refine mB_lv [1, 2, 3, 0] (lv' := [(0, .ref 239), (1, .int x1), (2, .long x2), (4, .int (x4 + (1 : Int32)))]) rfl ?_
        exact ih _ _ _ _ hq
def mxX7_faceHere (N : Nat) (p1 : Int32) (p2 : Int64) (h : mS) : Option mS :=
  mxX7_faceHere_6 N N p1 p2 ((64 : Int32) * p1) h
set_option maxHeartbeats 4000000 in
set_option maxRecDepth 100000 in
theorem emX7_faceHere {N : Nat} {C : mh} (hC : C.length = 239) {p1 : Int32} {p2 : Int64} {h : mS} {o : mS} (hq : mxX7_faceHere N p1 p2 h = some o) : mC mX7_faceHere [.ref 239, .int p1, .long p2] (hM C h) (hM C o, none) := by
  refine mC_of okX7_faceHere (Nat.le_of_ble_eq_true rfl) ?_
  unfold mxX7_faceHere at hq
  show mB _ mX7_faceHere (0, [(0, .ref 239), (1, .int p1), (2, .long p2)], [], (hM C h), 0, 0)
  refine mB_run odX7_faceHere 4 (g := (6, [(4, .int ((64 : Int32) * p1)), (0, .ref 239), (1, .int p1), (2, .long p2)], [], (hM C h), 0, 0)) rfl ?_
  refine mB_lv [1, 2, 3, 0] (lv' := [(0, .ref 239), (1, .int p1), (2, .long p2), (4, .int ((64 : Int32) * p1))]) rfl ?_
  exact emX7_faceHere_6 hC N _ _ _ _ hq
def mxX7_turnsAbout (N : Nat)  (h : mS) : Option mS :=
  (some (pJ h 24 (-(h.2.1 24)))).bind fun s1 =>
  (some (pJ s1 25 (-(s1.2.1 25)))).bind fun s3 =>
  (some (pJ s3 26 (-(s3.2.1 26)))).bind fun s5 =>
  some s5
set_option maxHeartbeats 4000000 in
set_option maxRecDepth 100000 in
theorem emX7_turnsAbout {N : Nat} {C : mh} (hC : C.length = 239)  {h : mS} {o : mS} (hq : mxX7_turnsAbout N  h = some o) : mC mX7_turnsAbout [.ref 239] (hM C h) (hM C o, none) := by
  refine mC_of okX7_turnsAbout (Nat.le_of_ble_eq_true rfl) ?_
  unfold mxX7_turnsAbout at hq
  show mB _ mX7_turnsAbout (0, [(0, .ref 239)], [], (hM C h), 0, 0)
  refine mB_run odX7_turnsAbout 2 (g := (2, [(0, .ref 239)], [.ref 239, .ref 239], (hM C h), 0, 0)) rfl ?_
  refine r_gJ odX7_turnsAbout rfl rfl (md_24 hC) ?_
  refine mB_run odX7_turnsAbout 1 (g := (6, [(0, .ref 239)], [.long (-(h.2.1 24)), .ref 239], (hM C h), 0, 0)) rfl ?_
  obtain ⟨s1, e2, hq⟩ := bsm hq
  refine r_sV odX7_turnsAbout rfl rfl rfl rfl (pt_24 hC e2) ?_
  refine mB_run odX7_turnsAbout 2 (g := (11, [(0, .ref 239)], [.ref 239, .ref 239], (hM C s1), 0, 0)) rfl ?_
  refine r_gJ odX7_turnsAbout rfl rfl (md_25 hC) ?_
  refine mB_run odX7_turnsAbout 1 (g := (15, [(0, .ref 239)], [.long (-(s1.2.1 25)), .ref 239], (hM C s1), 0, 0)) rfl ?_
  obtain ⟨s3, e4, hq⟩ := bsm hq
  refine r_sV odX7_turnsAbout rfl rfl rfl rfl (pt_25 hC e4) ?_
  refine mB_run odX7_turnsAbout 2 (g := (20, [(0, .ref 239)], [.ref 239, .ref 239], (hM C s3), 0, 0)) rfl ?_
  refine r_gJ odX7_turnsAbout rfl rfl (md_26 hC) ?_
  refine mB_run odX7_turnsAbout 1 (g := (24, [(0, .ref 239)], [.long (-(s3.2.1 26)), .ref 239], (hM C s3), 0, 0)) rfl ?_
  obtain ⟨s5, e6, hq⟩ := bsm hq
  refine r_sV odX7_turnsAbout rfl rfl rfl rfl (pt_26 hC e6) ?_
  cases hq
  exact mB_ret odX7_turnsAbout rfl
def mxX7_lists_61 (N : Nat) (rec7 : Int64 → Int32 → mS → Option (mS × Int32)) (x1 : Int64) (x3 : Int32) (h : mS) : Option (mS × Int32) :=
  rec7 x1 (x3 + (1 : Int32)) h
set_option maxHeartbeats 4000000 in
set_option maxRecDepth 100000 in
theorem emX7_lists_61 {N : Nat} {C : mh} (hC : C.length = 239) {rec7 : Int64 → Int32 → mS → Option (mS × Int32)} (hrec7 : ∀ (x1 : Int64) (x3 : Int32) (h : mS) {o : (mS × Int32)}, rec7 x1 x3 h = some o → mB (gO mX7_lists (hM C o.1, some (.int o.2))) mX7_lists (7, [(0, .ref 239), (1, .long x1), (3, .int x3)], [], (hM C h), 0, 0)) (x1 : Int64) (x3 : Int32) (h : mS) {o : (mS × Int32)} (hq : mxX7_lists_61 N rec7 x1 x3 h = some o) : mB (gO mX7_lists (hM C o.1, some (.int o.2))) mX7_lists (61, [(0, .ref 239), (1, .long x1), (3, .int x3)], [], (hM C h), 0, 0) := by
  unfold mxX7_lists_61 at hq
  refine mB_run odX7_lists 2 (g := (7, [(3, .int (x3 + (1 : Int32))), (0, .ref 239), (1, .long x1)], [], (hM C h), 0, 0)) rfl ?_
  refine mB_lv [1, 2, 0] (lv' := [(0, .ref 239), (1, .long x1), (3, .int (x3 + (1 : Int32)))]) rfl ?_
  exact hrec7 _ _ _ hq
def mxX7_lists_7 (N : Nat) : Nat → Int64 → Int32 → mS → Option (mS × Int32)
  | 0, _, _, _ => none
  | n + 1, x1, x3, h =>
    if (h.1 15) ≤ x3 then (
      some (h, (1 : Int32))) else (
      (mxX7_height N x3 h).bind fun o4 =>
      if o4.2 ≤ x1 then (
        if o4.2 = x1 then (
          (wA o4.1 20 (o4.1.1 21) x3).bind fun s8 =>
          (some (pI s8 21 ((s8.1 21) + (1 : Int32)))).bind fun s10 =>
          mxX7_lists_61 N (mxX7_lists_7 N n) x1 x3 s10) else (
          mxX7_lists_61 N (mxX7_lists_7 N n) x1 x3 o4.1)) else (
        some (o4.1, (0 : Int32))))
set_option maxHeartbeats 4000000 in
set_option maxRecDepth 100000 in
theorem emX7_lists_7 {N : Nat} {C : mh} (hC : C.length = 239) : ∀ (n : Nat) (x1 : Int64) (x3 : Int32) (h : mS) {o : (mS × Int32)}, mxX7_lists_7 N n x1 x3 h = some o → mB (gO mX7_lists (hM C o.1, some (.int o.2))) mX7_lists (7, [(0, .ref 239), (1, .long x1), (3, .int x3)], [], (hM C h), 0, 0) := by
  intro n
  induction n with
  | zero => intro x1 x3 h o hq; cases hq
  | succ n ih =>
    intro x1 x3 h o hq
    unfold mxX7_lists_7 at hq
    refine mB_run odX7_lists 2 (g := (9, [(0, .ref 239), (1, .long x1), (3, .int x3)], [.ref 239, .int x3], (hM C h), 0, 0)) rfl ?_
    refine r_gI odX7_lists rfl rfl (md_15 hC) ?_
    by_cases c3 : (h.1 15) ≤ x3
    · rw [if_pos c3] at hq
      refine ic_ge_T (t := 67) odX7_lists rfl rfl c3 ?_
      refine mB_run odX7_lists 1 (g := (68, [(0, .ref 239), (1, .long x1), (3, .int x3)], [.int (1 : Int32)], (hM C h), 0, 0)) rfl ?_
      cases hq
      exact mB_ret odX7_lists rfl
    · rw [if_neg c3] at hq
      refine ic_ge_F (t := 67) odX7_lists rfl rfl c3 ?_
      refine mB_run odX7_lists 2 (g := (17, [(0, .ref 239), (1, .long x1), (3, .int x3)], [.int x3, .ref 239], (hM C h), 0, 0)) rfl ?_
      obtain ⟨o4, e5, hq⟩ := bsm hq
      refine mB_V (as := [.int x3]) odX7_lists okX7_height lk_7_189 rfl (emX7_height hC e5) (kO_at (md_O hC)) rfl rfl rfl ?_
      show mB _ mX7_lists (20, [(0, .ref 239), (1, .long x1), (3, .int x3)], [.long o4.2], (hM C o4.1), 0, 0)
      refine mB_run odX7_lists 3 (g := (25, [(4, .long o4.2), (0, .ref 239), (1, .long x1), (3, .int x3)], [.long x1, .long o4.2], (hM C o4.1), 0, 0)) rfl ?_
      by_cases c6 : o4.2 ≤ x1
      · rw [if_pos c6] at hq
        refine lc_le_T (t := 31) odX7_lists rfl rfl rfl c6 ?_
        refine mB_run odX7_lists 2 (g := (34, [(4, .long o4.2), (0, .ref 239), (1, .long x1), (3, .int x3)], [.long x1, .long o4.2], (hM C o4.1), 0, 0)) rfl ?_
        by_cases c7 : o4.2 = x1
        · rw [if_pos c7] at hq
          refine lc_eq_T (t := 41) odX7_lists rfl rfl rfl c7 ?_
          refine mB_run odX7_lists 1 (g := (42, [(4, .long o4.2), (0, .ref 239), (1, .long x1), (3, .int x3)], [.ref 239], (hM C o4.1), 0, 0)) rfl ?_
          refine r_gR odX7_lists rfl rfl (md_20 hC) ?_
          refine mB_run odX7_lists 1 (g := (46, [(4, .long o4.2), (0, .ref 239), (1, .long x1), (3, .int x3)], [.ref 239, .ref 258], (hM C o4.1), 0, 0)) rfl ?_
          refine r_gI odX7_lists rfl rfl (md_21 hC) ?_
          refine mB_run odX7_lists 1 (g := (50, [(4, .long o4.2), (0, .ref 239), (1, .long x1), (3, .int x3)], [.int x3, .int (o4.1.1 21), .ref 258], (hM C o4.1), 0, 0)) rfl ?_
          obtain ⟨s8, e9, hq⟩ := bsm hq
          refine r_wI odX7_lists rfl (wa_20 hC e9) ?_
          refine mB_run odX7_lists 2 (g := (53, [(4, .long o4.2), (0, .ref 239), (1, .long x1), (3, .int x3)], [.ref 239, .ref 239], (hM C s8), 0, 0)) rfl ?_
          refine r_gI odX7_lists rfl rfl (md_21 hC) ?_
          refine mB_run odX7_lists 2 (g := (58, [(4, .long o4.2), (0, .ref 239), (1, .long x1), (3, .int x3)], [.int ((s8.1 21) + (1 : Int32)), .ref 239], (hM C s8), 0, 0)) rfl ?_
          obtain ⟨s10, e11, hq⟩ := bsm hq
          refine r_sV odX7_lists rfl rfl rfl rfl (pt_21 hC e11) ?_
          refine mB_lv [1, 2, 3] (lv' := [(0, .ref 239), (1, .long x1), (3, .int x3)]) rfl ?_
          exact emX7_lists_61 hC ih _ _ _ hq
        · rw [if_neg c7] at hq
          refine lc_eq_F (t := 41) odX7_lists rfl rfl rfl c7 ?_
          refine mB_run odX7_lists 1 (g := (61, [(4, .long o4.2), (0, .ref 239), (1, .long x1), (3, .int x3)], [], (hM C o4.1), 0, 0)) rfl ?_
          refine mB_lv [1, 2, 3] (lv' := [(0, .ref 239), (1, .long x1), (3, .int x3)]) rfl ?_
          exact emX7_lists_61 hC ih _ _ _ hq
      · rw [if_neg c6] at hq
        refine lc_le_F (t := 31) odX7_lists rfl rfl rfl c6 ?_
        refine mB_run odX7_lists 1 (g := (30, [(4, .long o4.2), (0, .ref 239), (1, .long x1), (3, .int x3)], [.int (0 : Int32)], (hM C o4.1), 0, 0)) rfl ?_
        cases hq
        exact mB_ret odX7_lists rfl
def mxX7_lists (N : Nat) (p1 : Int64) (h : mS) : Option (mS × Int32) :=
  (some (pI h 21 (0 : Int32))).bind fun s1 =>
  mxX7_lists_7 N N p1 (0 : Int32) s1
set_option maxHeartbeats 4000000 in
set_option maxRecDepth 100000 in
theorem emX7_lists {N : Nat} {C : mh} (hC : C.length = 239) {p1 : Int64} {h : mS} {o : (mS × Int32)} (hq : mxX7_lists N p1 h = some o) : mC mX7_lists [.ref 239, .long p1] (hM C h) (hM C o.1, some (.int o.2)) := by
  refine mC_of okX7_lists (Nat.le_of_ble_eq_true rfl) ?_
  unfold mxX7_lists at hq
  show mB _ mX7_lists (0, [(0, .ref 239), (1, .long p1)], [], (hM C h), 0, 0)
  refine mB_run odX7_lists 2 (g := (2, [(0, .ref 239), (1, .long p1)], [.int (0 : Int32), .ref 239], (hM C h), 0, 0)) rfl ?_
  obtain ⟨s1, e2, hq⟩ := bsm hq
  refine r_sV odX7_lists rfl rfl rfl rfl (pt_21 hC e2) ?_
  refine mB_run odX7_lists 2 (g := (7, [(3, .int (0 : Int32)), (0, .ref 239), (1, .long p1)], [], (hM C s1), 0, 0)) rfl ?_
  refine mB_lv [1, 2, 0] (lv' := [(0, .ref 239), (1, .long p1), (3, .int (0 : Int32))]) rfl ?_
  exact emX7_lists_7 hC N _ _ _ hq
def mxX7_planes_145 (N : Nat) (rec2 : Int32 → Int32 → mS → Option mS) (rec14 : Int32 → Int32 → Int32 → mS → Option mS) (rec27 : Int32 → Int32 → Int32 → Int32 → mS → Option mS) (x1 : Int32) (x2 : Int32) (x3 : Int32) (x4 : Int32) (h : mS) : Option mS :=
  rec27 x1 x2 x3 (x4 + (1 : Int32)) h
set_option maxHeartbeats 4000000 in
set_option maxRecDepth 100000 in
theorem emX7_planes_145 {N : Nat} {C : mh} (hC : C.length = 239) {rec2 : Int32 → Int32 → mS → Option mS} {rec14 : Int32 → Int32 → Int32 → mS → Option mS} {rec27 : Int32 → Int32 → Int32 → Int32 → mS → Option mS} (hrec2 : ∀ (x1 : Int32) (x2 : Int32) (h : mS) {o : mS}, rec2 x1 x2 h = some o → mB (gO mX7_planes (hM C o, none)) mX7_planes (2, [(0, .ref 239), (1, .int x1), (2, .int x2)], [], (hM C h), 0, 0)) (hrec14 : ∀ (x1 : Int32) (x2 : Int32) (x3 : Int32) (h : mS) {o : mS}, rec14 x1 x2 x3 h = some o → mB (gO mX7_planes (hM C o, none)) mX7_planes (14, [(0, .ref 239), (1, .int x1), (2, .int x2), (3, .int x3)], [], (hM C h), 0, 0)) (hrec27 : ∀ (x1 : Int32) (x2 : Int32) (x3 : Int32) (x4 : Int32) (h : mS) {o : mS}, rec27 x1 x2 x3 x4 h = some o → mB (gO mX7_planes (hM C o, none)) mX7_planes (27, [(0, .ref 239), (1, .int x1), (2, .int x2), (3, .int x3), (4, .int x4)], [], (hM C h), 0, 0)) (x1 : Int32) (x2 : Int32) (x3 : Int32) (x4 : Int32) (h : mS) {o : mS} (hq : mxX7_planes_145 N rec2 rec14 rec27 x1 x2 x3 x4 h = some o) : mB (gO mX7_planes (hM C o, none)) mX7_planes (145, [(0, .ref 239), (1, .int x1), (2, .int x2), (3, .int x3), (4, .int x4)], [], (hM C h), 0, 0) := by
  unfold mxX7_planes_145 at hq
  refine mB_run odX7_planes 2 (g := (27, [(4, .int (x4 + (1 : Int32))), (0, .ref 239), (1, .int x1), (2, .int x2), (3, .int x3)], [], (hM C h), 0, 0)) rfl ?_
  refine mB_lv [1, 2, 3, 4, 0] (lv' := [(0, .ref 239), (1, .int x1), (2, .int x2), (3, .int x3), (4, .int (x4 + (1 : Int32)))]) rfl ?_
  exact hrec27 _ _ _ _ _ hq
def mxX7_planes_135 (N : Nat) (rec2 : Int32 → Int32 → mS → Option mS) (rec14 : Int32 → Int32 → Int32 → mS → Option mS) (rec27 : Int32 → Int32 → Int32 → Int32 → mS → Option mS) (rec61 : Int32 → Int32 → Int32 → Int32 → Int32 → mS → Option mS) (x1 : Int32) (x2 : Int32) (x3 : Int32) (x4 : Int32) (x5 : Int32) (h : mS) : Option mS :=
  (mxX7_turnsAbout N  h).bind fun o29 =>
  rec61 x1 x2 x3 x4 (x5 + (1 : Int32)) o29
set_option maxHeartbeats 4000000 in
set_option maxRecDepth 100000 in
theorem emX7_planes_135 {N : Nat} {C : mh} (hC : C.length = 239) {rec2 : Int32 → Int32 → mS → Option mS} {rec14 : Int32 → Int32 → Int32 → mS → Option mS} {rec27 : Int32 → Int32 → Int32 → Int32 → mS → Option mS} {rec61 : Int32 → Int32 → Int32 → Int32 → Int32 → mS → Option mS} (hrec2 : ∀ (x1 : Int32) (x2 : Int32) (h : mS) {o : mS}, rec2 x1 x2 h = some o → mB (gO mX7_planes (hM C o, none)) mX7_planes (2, [(0, .ref 239), (1, .int x1), (2, .int x2)], [], (hM C h), 0, 0)) (hrec14 : ∀ (x1 : Int32) (x2 : Int32) (x3 : Int32) (h : mS) {o : mS}, rec14 x1 x2 x3 h = some o → mB (gO mX7_planes (hM C o, none)) mX7_planes (14, [(0, .ref 239), (1, .int x1), (2, .int x2), (3, .int x3)], [], (hM C h), 0, 0)) (hrec27 : ∀ (x1 : Int32) (x2 : Int32) (x3 : Int32) (x4 : Int32) (h : mS) {o : mS}, rec27 x1 x2 x3 x4 h = some o → mB (gO mX7_planes (hM C o, none)) mX7_planes (27, [(0, .ref 239), (1, .int x1), (2, .int x2), (3, .int x3), (4, .int x4)], [], (hM C h), 0, 0)) (hrec61 : ∀ (x1 : Int32) (x2 : Int32) (x3 : Int32) (x4 : Int32) (x5 : Int32) (h : mS) {o : mS}, rec61 x1 x2 x3 x4 x5 h = some o → mB (gO mX7_planes (hM C o, none)) mX7_planes (61, [(0, .ref 239), (1, .int x1), (2, .int x2), (3, .int x3), (4, .int x4), (5, .int x5)], [], (hM C h), 0, 0)) (x1 : Int32) (x2 : Int32) (x3 : Int32) (x4 : Int32) (x5 : Int32) (h : mS) {o : mS} (hq : mxX7_planes_135 N rec2 rec14 rec27 rec61 x1 x2 x3 x4 x5 h = some o) : mB (gO mX7_planes (hM C o, none)) mX7_planes (135, [(0, .ref 239), (1, .int x1), (2, .int x2), (3, .int x3), (4, .int x4), (5, .int x5)], [], (hM C h), 0, 0) := by
  unfold mxX7_planes_135 at hq
  refine mB_run odX7_planes 1 (g := (136, [(0, .ref 239), (1, .int x1), (2, .int x2), (3, .int x3), (4, .int x4), (5, .int x5)], [.ref 239], (hM C h), 0, 0)) rfl ?_
  obtain ⟨o29, e30, hq⟩ := bsm hq
  refine mB_V (as := []) odX7_planes okX7_turnsAbout lk_7_212 rfl (emX7_turnsAbout hC e30) (kO_at (md_O hC)) rfl rfl rfl ?_
  show mB _ mX7_planes (139, [(0, .ref 239), (1, .int x1), (2, .int x2), (3, .int x3), (4, .int x4), (5, .int x5)], [], (hM C o29), 0, 0)
  refine mB_run odX7_planes 2 (g := (61, [(5, .int (x5 + (1 : Int32))), (0, .ref 239), (1, .int x1), (2, .int x2), (3, .int x3), (4, .int x4)], [], (hM C o29), 0, 0)) rfl ?_
  refine mB_lv [1, 2, 3, 4, 5, 0] (lv' := [(0, .ref 239), (1, .int x1), (2, .int x2), (3, .int x3), (4, .int x4), (5, .int (x5 + (1 : Int32)))]) rfl ?_
  exact hrec61 _ _ _ _ _ _ hq
def mxX7_planes_100 (N : Nat) (rec2 : Int32 → Int32 → mS → Option mS) (rec14 : Int32 → Int32 → Int32 → mS → Option mS) (rec27 : Int32 → Int32 → Int32 → Int32 → mS → Option mS) (rec61 : Int32 → Int32 → Int32 → Int32 → Int32 → mS → Option mS) : Nat → Int32 → Int32 → Int32 → Int32 → Int32 → Int64 → Int32 → mS → Option mS
  | 0, _, _, _, _, _, _, _, _ => none
  | n + 1, x1, x2, x3, x4, x5, x6, x8, h =>
    if (h.1 23) ≤ x8 then (
      (mxX7_faceHere N x1 x6 h).bind fun o23 =>
      mxX7_planes_135 N rec2 rec14 rec27 rec61 x1 x2 x3 x4 x5 o23) else (
      (rA h 22 x8).bind fun v25 =>
      (wB h 19 v25 (1 : Int32)).bind fun s27 =>
      mxX7_planes_100 N rec2 rec14 rec27 rec61 n x1 x2 x3 x4 x5 x6 (x8 + (1 : Int32)) s27)
set_option maxHeartbeats 4000000 in
set_option maxRecDepth 100000 in
theorem emX7_planes_100 {N : Nat} {C : mh} (hC : C.length = 239) {rec2 : Int32 → Int32 → mS → Option mS} {rec14 : Int32 → Int32 → Int32 → mS → Option mS} {rec27 : Int32 → Int32 → Int32 → Int32 → mS → Option mS} {rec61 : Int32 → Int32 → Int32 → Int32 → Int32 → mS → Option mS} (hrec2 : ∀ (x1 : Int32) (x2 : Int32) (h : mS) {o : mS}, rec2 x1 x2 h = some o → mB (gO mX7_planes (hM C o, none)) mX7_planes (2, [(0, .ref 239), (1, .int x1), (2, .int x2)], [], (hM C h), 0, 0)) (hrec14 : ∀ (x1 : Int32) (x2 : Int32) (x3 : Int32) (h : mS) {o : mS}, rec14 x1 x2 x3 h = some o → mB (gO mX7_planes (hM C o, none)) mX7_planes (14, [(0, .ref 239), (1, .int x1), (2, .int x2), (3, .int x3)], [], (hM C h), 0, 0)) (hrec27 : ∀ (x1 : Int32) (x2 : Int32) (x3 : Int32) (x4 : Int32) (h : mS) {o : mS}, rec27 x1 x2 x3 x4 h = some o → mB (gO mX7_planes (hM C o, none)) mX7_planes (27, [(0, .ref 239), (1, .int x1), (2, .int x2), (3, .int x3), (4, .int x4)], [], (hM C h), 0, 0)) (hrec61 : ∀ (x1 : Int32) (x2 : Int32) (x3 : Int32) (x4 : Int32) (x5 : Int32) (h : mS) {o : mS}, rec61 x1 x2 x3 x4 x5 h = some o → mB (gO mX7_planes (hM C o, none)) mX7_planes (61, [(0, .ref 239), (1, .int x1), (2, .int x2), (3, .int x3), (4, .int x4), (5, .int x5)], [], (hM C h), 0, 0)) : ∀ (n : Nat) (x1 : Int32) (x2 : Int32) (x3 : Int32) (x4 : Int32) (x5 : Int32) (x6 : Int64) (x8 : Int32) (h : mS) {o : mS}, mxX7_planes_100 N rec2 rec14 rec27 rec61 n x1 x2 x3 x4 x5 x6 x8 h = some o → mB (gO mX7_planes (hM C o, none)) mX7_planes (100, [(0, .ref 239), (1, .int x1), (2, .int x2), (3, .int x3), (4, .int x4), (5, .int x5), (6, .long x6), (8, .int x8)], [], (hM C h), 0, 0) := by
  intro n
  induction n with
  | zero => intro x1 x2 x3 x4 x5 x6 x8 h o hq; cases hq
  | succ n ih =>
    intro x1 x2 x3 x4 x5 x6 x8 h o hq
    unfold mxX7_planes_100 at hq
    refine mB_run odX7_planes 2 (g := (103, [(0, .ref 239), (1, .int x1), (2, .int x2), (3, .int x3), (4, .int x4), (5, .int x5), (6, .long x6), (8, .int x8)], [.ref 239, .int x8], (hM C h), 0, 0)) rfl ?_
    refine r_gI odX7_planes rfl rfl (md_23 hC) ?_
    by_cases c22 : (h.1 23) ≤ x8
    · rw [if_pos c22] at hq
      refine ic_ge_T (t := 128) odX7_planes rfl rfl c22 ?_
      refine mB_run odX7_planes 3 (g := (132, [(0, .ref 239), (1, .int x1), (2, .int x2), (3, .int x3), (4, .int x4), (5, .int x5), (6, .long x6), (8, .int x8)], [.long x6, .int x1, .ref 239], (hM C h), 0, 0)) rfl ?_
      obtain ⟨o23, e24, hq⟩ := bsm hq
      refine mB_V (as := [.int x1, .long x6]) odX7_planes okX7_faceHere lk_7_208 rfl (emX7_faceHere hC e24) (kO_at (md_O hC)) rfl rfl rfl ?_
      show mB _ mX7_planes (135, [(0, .ref 239), (1, .int x1), (2, .int x2), (3, .int x3), (4, .int x4), (5, .int x5), (6, .long x6), (8, .int x8)], [], (hM C o23), 0, 0)
      refine mB_lv [0, 1, 2, 3, 4, 5] (lv' := [(0, .ref 239), (1, .int x1), (2, .int x2), (3, .int x3), (4, .int x4), (5, .int x5)]) rfl ?_
      exact emX7_planes_135 hC hrec2 hrec14 hrec27 hrec61 _ _ _ _ _ _ hq
    · rw [if_neg c22] at hq
      refine ic_ge_F (t := 128) odX7_planes rfl rfl c22 ?_
      refine mB_run odX7_planes 1 (g := (110, [(0, .ref 239), (1, .int x1), (2, .int x2), (3, .int x3), (4, .int x4), (5, .int x5), (6, .long x6), (8, .int x8)], [.ref 239], (hM C h), 0, 0)) rfl ?_
      refine r_gR odX7_planes rfl rfl (md_19 hC) ?_
      refine mB_run odX7_planes 1 (g := (114, [(0, .ref 239), (1, .int x1), (2, .int x2), (3, .int x3), (4, .int x4), (5, .int x5), (6, .long x6), (8, .int x8)], [.ref 239, .ref 257], (hM C h), 0, 0)) rfl ?_
      refine r_gR odX7_planes rfl rfl (md_22 hC) ?_
      refine mB_run odX7_planes 1 (g := (119, [(0, .ref 239), (1, .int x1), (2, .int x2), (3, .int x3), (4, .int x4), (5, .int x5), (6, .long x6), (8, .int x8)], [.int x8, .ref 259, .ref 257], (hM C h), 0, 0)) rfl ?_
      obtain ⟨v25, e26, hq⟩ := bsm hq
      refine r_aI odX7_planes rfl (ra_22 hC e26) ?_
      refine mB_run odX7_planes 1 (g := (121, [(0, .ref 239), (1, .int x1), (2, .int x2), (3, .int x3), (4, .int x4), (5, .int x5), (6, .long x6), (8, .int x8)], [.int (1 : Int32), .int v25, .ref 257], (hM C h), 0, 0)) rfl ?_
      obtain ⟨s27, e28, hq⟩ := bsm hq
      refine r_wZ odX7_planes rfl (wa_19 hC e28) ?_
      refine mB_run odX7_planes 2 (g := (100, [(8, .int (x8 + (1 : Int32))), (0, .ref 239), (1, .int x1), (2, .int x2), (3, .int x3), (4, .int x4), (5, .int x5), (6, .long x6)], [], (hM C s27), 0, 0)) rfl ?_
      refine mB_lv [1, 2, 3, 4, 5, 6, 7, 0] (lv' := [(0, .ref 239), (1, .int x1), (2, .int x2), (3, .int x3), (4, .int x4), (5, .int x5), (6, .long x6), (8, .int (x8 + (1 : Int32)))]) rfl ?_
      exact ih _ _ _ _ _ _ _ _ hq
def mxX7_planes_61 (N : Nat) (rec2 : Int32 → Int32 → mS → Option mS) (rec14 : Int32 → Int32 → Int32 → mS → Option mS) (rec27 : Int32 → Int32 → Int32 → Int32 → mS → Option mS) : Nat → Int32 → Int32 → Int32 → Int32 → Int32 → mS → Option mS
  | 0, _, _, _, _, _, _ => none
  | n + 1, x1, x2, x3, x4, x5, h =>
    if (2 : Int32) ≤ x5 then (
      mxX7_planes_145 N rec2 rec14 rec27 x1 x2 x3 x4 h) else (
      (mxX7_height N x2 h).bind fun o12 =>
      (mxX7_isKnown N x1 o12.2 o12.1).bind fun o14 =>
      if o14.2 = 0 then (
        (mxX7_lists N o12.2 o14.1).bind fun o17 =>
        if o17.2 = 0 then (
          mxX7_planes_135 N rec2 rec14 rec27 (mxX7_planes_61 N rec2 rec14 rec27 n) x1 x2 x3 x4 x5 o17.1) else (
          (mxX7_rings N  o17.1).bind fun o20 =>
          mxX7_planes_100 N rec2 rec14 rec27 (mxX7_planes_61 N rec2 rec14 rec27 n) N x1 x2 x3 x4 x5 o12.2 (0 : Int32) o20)) else (
        mxX7_planes_135 N rec2 rec14 rec27 (mxX7_planes_61 N rec2 rec14 rec27 n) x1 x2 x3 x4 x5 o14.1))
set_option maxHeartbeats 4000000 in
set_option maxRecDepth 100000 in
theorem emX7_planes_61 {N : Nat} {C : mh} (hC : C.length = 239) {rec2 : Int32 → Int32 → mS → Option mS} {rec14 : Int32 → Int32 → Int32 → mS → Option mS} {rec27 : Int32 → Int32 → Int32 → Int32 → mS → Option mS} (hrec2 : ∀ (x1 : Int32) (x2 : Int32) (h : mS) {o : mS}, rec2 x1 x2 h = some o → mB (gO mX7_planes (hM C o, none)) mX7_planes (2, [(0, .ref 239), (1, .int x1), (2, .int x2)], [], (hM C h), 0, 0)) (hrec14 : ∀ (x1 : Int32) (x2 : Int32) (x3 : Int32) (h : mS) {o : mS}, rec14 x1 x2 x3 h = some o → mB (gO mX7_planes (hM C o, none)) mX7_planes (14, [(0, .ref 239), (1, .int x1), (2, .int x2), (3, .int x3)], [], (hM C h), 0, 0)) (hrec27 : ∀ (x1 : Int32) (x2 : Int32) (x3 : Int32) (x4 : Int32) (h : mS) {o : mS}, rec27 x1 x2 x3 x4 h = some o → mB (gO mX7_planes (hM C o, none)) mX7_planes (27, [(0, .ref 239), (1, .int x1), (2, .int x2), (3, .int x3), (4, .int x4)], [], (hM C h), 0, 0)) : ∀ (n : Nat) (x1 : Int32) (x2 : Int32) (x3 : Int32) (x4 : Int32) (x5 : Int32) (h : mS) {o : mS}, mxX7_planes_61 N rec2 rec14 rec27 n x1 x2 x3 x4 x5 h = some o → mB (gO mX7_planes (hM C o, none)) mX7_planes (61, [(0, .ref 239), (1, .int x1), (2, .int x2), (3, .int x3), (4, .int x4), (5, .int x5)], [], (hM C h), 0, 0) := by
  intro n
  induction n with
  | zero => intro x1 x2 x3 x4 x5 h o hq; cases hq
  | succ n ih =>
    intro x1 x2 x3 x4 x5 h o hq
    unfold mxX7_planes_61 at hq
    refine mB_run odX7_planes 2 (g := (64, [(0, .ref 239), (1, .int x1), (2, .int x2), (3, .int x3), (4, .int x4), (5, .int x5)], [.int (2 : Int32), .int x5], (hM C h), 0, 0)) rfl ?_
    by_cases c11 : (2 : Int32) ≤ x5
    · rw [if_pos c11] at hq
      refine ic_ge_T (t := 145) odX7_planes rfl rfl c11 ?_
      refine mB_lv [0, 1, 2, 3, 4] (lv' := [(0, .ref 239), (1, .int x1), (2, .int x2), (3, .int x3), (4, .int x4)]) rfl ?_
      exact emX7_planes_145 hC hrec2 hrec14 hrec27 _ _ _ _ _ hq
    · rw [if_neg c11] at hq
      refine ic_ge_F (t := 145) odX7_planes rfl rfl c11 ?_
      refine mB_run odX7_planes 2 (g := (69, [(0, .ref 239), (1, .int x1), (2, .int x2), (3, .int x3), (4, .int x4), (5, .int x5)], [.int x2, .ref 239], (hM C h), 0, 0)) rfl ?_
      obtain ⟨o12, e13, hq⟩ := bsm hq
      refine mB_V (as := [.int x2]) odX7_planes okX7_height lk_7_189 rfl (emX7_height hC e13) (kO_at (md_O hC)) rfl rfl rfl ?_
      show mB _ mX7_planes (72, [(0, .ref 239), (1, .int x1), (2, .int x2), (3, .int x3), (4, .int x4), (5, .int x5)], [.long o12.2], (hM C o12.1), 0, 0)
      refine mB_run odX7_planes 4 (g := (78, [(6, .long o12.2), (0, .ref 239), (1, .int x1), (2, .int x2), (3, .int x3), (4, .int x4), (5, .int x5)], [.long o12.2, .int x1, .ref 239], (hM C o12.1), 0, 0)) rfl ?_
      obtain ⟨o14, e15, hq⟩ := bsm hq
      refine mB_V (as := [.int x1, .long o12.2]) odX7_planes okX7_isKnown lk_7_219 rfl (emX7_isKnown hC e15) (kO_at (md_O hC)) rfl rfl rfl ?_
      show mB _ mX7_planes (81, [(6, .long o12.2), (0, .ref 239), (1, .int x1), (2, .int x2), (3, .int x3), (4, .int x4), (5, .int x5)], [.int o14.2], (hM C o14.1), 0, 0)
      by_cases c16 : o14.2 = 0
      · rw [if_pos c16] at hq
        refine if_ne_F (t := 135) odX7_planes rfl rfl c16 ?_
        refine mB_run odX7_planes 2 (g := (87, [(6, .long o12.2), (0, .ref 239), (1, .int x1), (2, .int x2), (3, .int x3), (4, .int x4), (5, .int x5)], [.long o12.2, .ref 239], (hM C o14.1), 0, 0)) rfl ?_
        obtain ⟨o17, e18, hq⟩ := bsm hq
        refine mB_V (as := [.long o12.2]) odX7_planes okX7_lists lk_7_201 rfl (emX7_lists hC e18) (kO_at (md_O hC)) rfl rfl rfl ?_
        show mB _ mX7_planes (90, [(6, .long o12.2), (0, .ref 239), (1, .int x1), (2, .int x2), (3, .int x3), (4, .int x4), (5, .int x5)], [.int o17.2], (hM C o17.1), 0, 0)
        by_cases c19 : o17.2 = 0
        · rw [if_pos c19] at hq
          refine if_eq_T (t := 135) odX7_planes rfl rfl c19 ?_
          refine mB_lv [1, 2, 3, 4, 5, 6] (lv' := [(0, .ref 239), (1, .int x1), (2, .int x2), (3, .int x3), (4, .int x4), (5, .int x5)]) rfl ?_
          exact emX7_planes_135 hC hrec2 hrec14 hrec27 ih _ _ _ _ _ _ hq
        · rw [if_neg c19] at hq
          refine if_eq_F (t := 135) odX7_planes rfl rfl c19 ?_
          refine mB_run odX7_planes 1 (g := (94, [(6, .long o12.2), (0, .ref 239), (1, .int x1), (2, .int x2), (3, .int x3), (4, .int x4), (5, .int x5)], [.ref 239], (hM C o17.1), 0, 0)) rfl ?_
          obtain ⟨o20, e21, hq⟩ := bsm hq
          refine mB_V (as := []) odX7_planes okX7_rings lk_7_205 rfl (emX7_rings hC e21) (kO_at (md_O hC)) rfl rfl rfl ?_
          show mB _ mX7_planes (97, [(6, .long o12.2), (0, .ref 239), (1, .int x1), (2, .int x2), (3, .int x3), (4, .int x4), (5, .int x5)], [], (hM C o20), 0, 0)
          refine mB_run odX7_planes 2 (g := (100, [(8, .int (0 : Int32)), (6, .long o12.2), (0, .ref 239), (1, .int x1), (2, .int x2), (3, .int x3), (4, .int x4), (5, .int x5)], [], (hM C o20), 0, 0)) rfl ?_
          refine mB_lv [2, 3, 4, 5, 6, 7, 1, 0] (lv' := [(0, .ref 239), (1, .int x1), (2, .int x2), (3, .int x3), (4, .int x4), (5, .int x5), (6, .long o12.2), (8, .int (0 : Int32))]) rfl ?_
          exact emX7_planes_100 hC hrec2 hrec14 hrec27 ih N _ _ _ _ _ _ _ _ hq
      · rw [if_neg c16] at hq
        refine if_ne_T (t := 135) odX7_planes rfl rfl c16 ?_
        refine mB_lv [1, 2, 3, 4, 5, 6] (lv' := [(0, .ref 239), (1, .int x1), (2, .int x2), (3, .int x3), (4, .int x4), (5, .int x5)]) rfl ?_
        exact emX7_planes_135 hC hrec2 hrec14 hrec27 ih _ _ _ _ _ _ hq
def mxX7_planes_27 (N : Nat) (rec2 : Int32 → Int32 → mS → Option mS) (rec14 : Int32 → Int32 → Int32 → mS → Option mS) : Nat → Int32 → Int32 → Int32 → Int32 → mS → Option mS
  | 0, _, _, _, _, _ => none
  | n + 1, x1, x2, x3, x4, h =>
    if (h.1 15) ≤ x4 then (
      rec14 x1 x2 (x3 + (1 : Int32)) h) else (
      (mxX7_across N x2 x3 x4 h).bind fun o4 =>
      (mxX7_isFlat N  o4).bind fun o6 =>
      if o6.2 = 0 then (
        (mxX7_plain N  o6.1).bind fun o9 =>
        mxX7_planes_61 N rec2 rec14 (mxX7_planes_27 N rec2 rec14 n) N x1 x2 x3 x4 (0 : Int32) o9) else (
        mxX7_planes_145 N rec2 rec14 (mxX7_planes_27 N rec2 rec14 n) x1 x2 x3 x4 o6.1))
set_option maxHeartbeats 4000000 in
set_option maxRecDepth 100000 in
theorem emX7_planes_27 {N : Nat} {C : mh} (hC : C.length = 239) {rec2 : Int32 → Int32 → mS → Option mS} {rec14 : Int32 → Int32 → Int32 → mS → Option mS} (hrec2 : ∀ (x1 : Int32) (x2 : Int32) (h : mS) {o : mS}, rec2 x1 x2 h = some o → mB (gO mX7_planes (hM C o, none)) mX7_planes (2, [(0, .ref 239), (1, .int x1), (2, .int x2)], [], (hM C h), 0, 0)) (hrec14 : ∀ (x1 : Int32) (x2 : Int32) (x3 : Int32) (h : mS) {o : mS}, rec14 x1 x2 x3 h = some o → mB (gO mX7_planes (hM C o, none)) mX7_planes (14, [(0, .ref 239), (1, .int x1), (2, .int x2), (3, .int x3)], [], (hM C h), 0, 0)) : ∀ (n : Nat) (x1 : Int32) (x2 : Int32) (x3 : Int32) (x4 : Int32) (h : mS) {o : mS}, mxX7_planes_27 N rec2 rec14 n x1 x2 x3 x4 h = some o → mB (gO mX7_planes (hM C o, none)) mX7_planes (27, [(0, .ref 239), (1, .int x1), (2, .int x2), (3, .int x3), (4, .int x4)], [], (hM C h), 0, 0) := by
  intro n
  induction n with
  | zero => intro x1 x2 x3 x4 h o hq; cases hq
  | succ n ih =>
    intro x1 x2 x3 x4 h o hq
    unfold mxX7_planes_27 at hq
    refine mB_run odX7_planes 2 (g := (30, [(0, .ref 239), (1, .int x1), (2, .int x2), (3, .int x3), (4, .int x4)], [.ref 239, .int x4], (hM C h), 0, 0)) rfl ?_
    refine r_gI odX7_planes rfl rfl (md_15 hC) ?_
    by_cases c3 : (h.1 15) ≤ x4
    · rw [if_pos c3] at hq
      refine ic_ge_T (t := 151) odX7_planes rfl rfl c3 ?_
      refine mB_run odX7_planes 2 (g := (14, [(3, .int (x3 + (1 : Int32))), (0, .ref 239), (1, .int x1), (2, .int x2), (4, .int x4)], [], (hM C h), 0, 0)) rfl ?_
      refine mB_lv [1, 2, 3, 0] (lv' := [(0, .ref 239), (1, .int x1), (2, .int x2), (3, .int (x3 + (1 : Int32)))]) rfl ?_
      exact hrec14 _ _ _ _ hq
    · rw [if_neg c3] at hq
      refine ic_ge_F (t := 151) odX7_planes rfl rfl c3 ?_
      refine mB_run odX7_planes 4 (g := (41, [(0, .ref 239), (1, .int x1), (2, .int x2), (3, .int x3), (4, .int x4)], [.int x4, .int x3, .int x2, .ref 239], (hM C h), 0, 0)) rfl ?_
      obtain ⟨o4, e5, hq⟩ := bsm hq
      refine mB_V (as := [.int x2, .int x3, .int x4]) odX7_planes okX7_across lk_7_178 rfl (emX7_across hC e5) (kO_at (md_O hC)) rfl rfl rfl ?_
      show mB _ mX7_planes (44, [(0, .ref 239), (1, .int x1), (2, .int x2), (3, .int x3), (4, .int x4)], [], (hM C o4), 0, 0)
      refine mB_run odX7_planes 1 (g := (45, [(0, .ref 239), (1, .int x1), (2, .int x2), (3, .int x3), (4, .int x4)], [.ref 239], (hM C o4), 0, 0)) rfl ?_
      obtain ⟨o6, e7, hq⟩ := bsm hq
      refine mB_V (as := []) odX7_planes okX7_isFlat lk_7_182 rfl (emX7_isFlat hC e7) (kO_at (md_O hC)) rfl rfl rfl ?_
      show mB _ mX7_planes (48, [(0, .ref 239), (1, .int x1), (2, .int x2), (3, .int x3), (4, .int x4)], [.int o6.2], (hM C o6.1), 0, 0)
      by_cases c8 : o6.2 = 0
      · rw [if_pos c8] at hq
        refine if_eq_T (t := 54) odX7_planes rfl rfl c8 ?_
        refine mB_run odX7_planes 1 (g := (55, [(0, .ref 239), (1, .int x1), (2, .int x2), (3, .int x3), (4, .int x4)], [.ref 239], (hM C o6.1), 0, 0)) rfl ?_
        obtain ⟨o9, e10, hq⟩ := bsm hq
        refine mB_V (as := []) odX7_planes okX7_plain lk_7_186 rfl (emX7_plain hC e10) (kO_at (md_O hC)) rfl rfl rfl ?_
        show mB _ mX7_planes (58, [(0, .ref 239), (1, .int x1), (2, .int x2), (3, .int x3), (4, .int x4)], [], (hM C o9), 0, 0)
        refine mB_run odX7_planes 2 (g := (61, [(5, .int (0 : Int32)), (0, .ref 239), (1, .int x1), (2, .int x2), (3, .int x3), (4, .int x4)], [], (hM C o9), 0, 0)) rfl ?_
        refine mB_lv [1, 2, 3, 4, 5, 0] (lv' := [(0, .ref 239), (1, .int x1), (2, .int x2), (3, .int x3), (4, .int x4), (5, .int (0 : Int32))]) rfl ?_
        exact emX7_planes_61 hC hrec2 hrec14 ih N _ _ _ _ _ _ hq
      · rw [if_neg c8] at hq
        refine if_eq_F (t := 54) odX7_planes rfl rfl c8 ?_
        refine mB_run odX7_planes 1 (g := (145, [(0, .ref 239), (1, .int x1), (2, .int x2), (3, .int x3), (4, .int x4)], [], (hM C o6.1), 0, 0)) rfl ?_
        refine mB_lv [0, 1, 2, 3, 4] (lv' := [(0, .ref 239), (1, .int x1), (2, .int x2), (3, .int x3), (4, .int x4)]) rfl ?_
        exact emX7_planes_145 hC hrec2 hrec14 ih _ _ _ _ _ hq
def mxX7_planes_14 (N : Nat) (rec2 : Int32 → Int32 → mS → Option mS) : Nat → Int32 → Int32 → Int32 → mS → Option mS
  | 0, _, _, _, _ => none
  | n + 1, x1, x2, x3, h =>
    if (h.1 15) ≤ x3 then (
      rec2 x1 (x2 + (1 : Int32)) h) else (
      mxX7_planes_27 N rec2 (mxX7_planes_14 N rec2 n) N x1 x2 x3 (x3 + (1 : Int32)) h)
set_option maxHeartbeats 4000000 in
set_option maxRecDepth 100000 in
theorem emX7_planes_14 {N : Nat} {C : mh} (hC : C.length = 239) {rec2 : Int32 → Int32 → mS → Option mS} (hrec2 : ∀ (x1 : Int32) (x2 : Int32) (h : mS) {o : mS}, rec2 x1 x2 h = some o → mB (gO mX7_planes (hM C o, none)) mX7_planes (2, [(0, .ref 239), (1, .int x1), (2, .int x2)], [], (hM C h), 0, 0)) : ∀ (n : Nat) (x1 : Int32) (x2 : Int32) (x3 : Int32) (h : mS) {o : mS}, mxX7_planes_14 N rec2 n x1 x2 x3 h = some o → mB (gO mX7_planes (hM C o, none)) mX7_planes (14, [(0, .ref 239), (1, .int x1), (2, .int x2), (3, .int x3)], [], (hM C h), 0, 0) := by
  intro n
  induction n with
  | zero => intro x1 x2 x3 h o hq; cases hq
  | succ n ih =>
    intro x1 x2 x3 h o hq
    unfold mxX7_planes_14 at hq
    refine mB_run odX7_planes 2 (g := (16, [(0, .ref 239), (1, .int x1), (2, .int x2), (3, .int x3)], [.ref 239, .int x3], (hM C h), 0, 0)) rfl ?_
    refine r_gI odX7_planes rfl rfl (md_15 hC) ?_
    by_cases c2 : (h.1 15) ≤ x3
    · rw [if_pos c2] at hq
      refine ic_ge_T (t := 157) odX7_planes rfl rfl c2 ?_
      refine mB_run odX7_planes 2 (g := (2, [(2, .int (x2 + (1 : Int32))), (0, .ref 239), (1, .int x1), (3, .int x3)], [], (hM C h), 0, 0)) rfl ?_
      refine mB_lv [1, 2, 0] (lv' := [(0, .ref 239), (1, .int x1), (2, .int (x2 + (1 : Int32)))]) rfl ?_
      exact hrec2 _ _ _ hq
    · rw [if_neg c2] at hq
      refine ic_ge_F (t := 157) odX7_planes rfl rfl c2 ?_
      refine mB_run odX7_planes 4 (g := (27, [(4, .int (x3 + (1 : Int32))), (0, .ref 239), (1, .int x1), (2, .int x2), (3, .int x3)], [], (hM C h), 0, 0)) rfl ?_
      refine mB_lv [1, 2, 3, 4, 0] (lv' := [(0, .ref 239), (1, .int x1), (2, .int x2), (3, .int x3), (4, .int (x3 + (1 : Int32)))]) rfl ?_
      exact emX7_planes_27 hC hrec2 ih N _ _ _ _ _ hq
def mxX7_planes_2 (N : Nat) : Nat → Int32 → Int32 → mS → Option mS
  | 0, _, _, _ => none
  | n + 1, x1, x2, h =>
    if (h.1 15) ≤ x2 then (
      some h) else (
      mxX7_planes_14 N (mxX7_planes_2 N n) N x1 x2 (x2 + (1 : Int32)) h)
set_option maxHeartbeats 4000000 in
set_option maxRecDepth 100000 in
theorem emX7_planes_2 {N : Nat} {C : mh} (hC : C.length = 239) : ∀ (n : Nat) (x1 : Int32) (x2 : Int32) (h : mS) {o : mS}, mxX7_planes_2 N n x1 x2 h = some o → mB (gO mX7_planes (hM C o, none)) mX7_planes (2, [(0, .ref 239), (1, .int x1), (2, .int x2)], [], (hM C h), 0, 0) := by
  intro n
  induction n with
  | zero => intro x1 x2 h o hq; cases hq
  | succ n ih =>
    intro x1 x2 h o hq
    unfold mxX7_planes_2 at hq
    refine mB_run odX7_planes 2 (g := (4, [(0, .ref 239), (1, .int x1), (2, .int x2)], [.ref 239, .int x2], (hM C h), 0, 0)) rfl ?_
    refine r_gI odX7_planes rfl rfl (md_15 hC) ?_
    by_cases c1 : (h.1 15) ≤ x2
    · rw [if_pos c1] at hq
      refine ic_ge_T (t := 163) odX7_planes rfl rfl c1 ?_
      cases hq
      exact mB_ret odX7_planes rfl
    · rw [if_neg c1] at hq
      refine ic_ge_F (t := 163) odX7_planes rfl rfl c1 ?_
      refine mB_run odX7_planes 4 (g := (14, [(3, .int (x2 + (1 : Int32))), (0, .ref 239), (1, .int x1), (2, .int x2)], [], (hM C h), 0, 0)) rfl ?_
      refine mB_lv [1, 2, 3, 0] (lv' := [(0, .ref 239), (1, .int x1), (2, .int x2), (3, .int (x2 + (1 : Int32)))]) rfl ?_
      exact emX7_planes_14 hC ih N _ _ _ _ hq
def mxX7_planes (N : Nat) (p1 : Int32) (h : mS) : Option mS :=
  mxX7_planes_2 N N p1 (0 : Int32) h
set_option maxHeartbeats 4000000 in
set_option maxRecDepth 100000 in
theorem emX7_planes {N : Nat} {C : mh} (hC : C.length = 239) {p1 : Int32} {h : mS} {o : mS} (hq : mxX7_planes N p1 h = some o) : mC mX7_planes [.ref 239, .int p1] (hM C h) (hM C o, none) := by
  refine mC_of okX7_planes (Nat.le_of_ble_eq_true rfl) ?_
  unfold mxX7_planes at hq
  show mB _ mX7_planes (0, [(0, .ref 239), (1, .int p1)], [], (hM C h), 0, 0)
  refine mB_run odX7_planes 2 (g := (2, [(2, .int (0 : Int32)), (0, .ref 239), (1, .int p1)], [], (hM C h), 0, 0)) rfl ?_
  refine mB_lv [1, 2, 0] (lv' := [(0, .ref 239), (1, .int p1), (2, .int (0 : Int32))]) rfl ?_
  exact emX7_planes_2 hC N _ _ _ hq
def mxX7_hulls_56 (N : Nat) (rec14 : Int32 → Int32 → Int32 → mS → Option (mS × Int32)) (x1 : Int32) (x2 : Int32) (x3 : Int32) (y0 : Int32) (y1 : Int32) (h : mS) : Option (mS × Int32) :=
  (wB h 19 y1 y0).bind fun s11 =>
  rec14 x1 x2 (x3 + (1 : Int32)) s11
set_option maxHeartbeats 4000000 in
set_option maxRecDepth 100000 in
theorem emX7_hulls_56 {N : Nat} {C : mh} (hC : C.length = 239) {rec14 : Int32 → Int32 → Int32 → mS → Option (mS × Int32)} (hrec14 : ∀ (x1 : Int32) (x2 : Int32) (x3 : Int32) (h : mS) {o : (mS × Int32)}, rec14 x1 x2 x3 h = some o → mB (gO mX7_hulls (hM C o.1, some (.int o.2))) mX7_hulls (14, [(0, .ref 239), (1, .int x1), (2, .int x2), (3, .int x3)], [], (hM C h), 0, 0)) (x1 : Int32) (x2 : Int32) (x3 : Int32) (y0 : Int32) (y1 : Int32) (h : mS) {o : (mS × Int32)} (hq : mxX7_hulls_56 N rec14 x1 x2 x3 y0 y1 h = some o) : mB (gO mX7_hulls (hM C o.1, some (.int o.2))) mX7_hulls (56, [(0, .ref 239), (1, .int x1), (2, .int x2), (3, .int x3)], [.int y0, .int y1, .ref 257], (hM C h), 0, 0) := by
  unfold mxX7_hulls_56 at hq
  obtain ⟨s11, e12, hq⟩ := bsm hq
  refine r_wZ odX7_hulls rfl (wa_19 hC e12) ?_
  refine mB_run odX7_hulls 2 (g := (14, [(3, .int (x3 + (1 : Int32))), (0, .ref 239), (1, .int x1), (2, .int x2)], [], (hM C s11), 0, 0)) rfl ?_
  refine mB_lv [1, 2, 3, 0] (lv' := [(0, .ref 239), (1, .int x1), (2, .int x2), (3, .int (x3 + (1 : Int32)))]) rfl ?_
  exact hrec14 _ _ _ _ hq
def mxX7_hulls_51 (N : Nat) (rec14 : Int32 → Int32 → Int32 → mS → Option (mS × Int32)) (x1 : Int32) (x2 : Int32) (x3 : Int32) (y0 : Int32) (h : mS) : Option (mS × Int32) :=
  mxX7_hulls_56 N rec14 x1 x2 x3 (1 : Int32) y0 h
set_option maxHeartbeats 4000000 in
set_option maxRecDepth 100000 in
theorem emX7_hulls_51 {N : Nat} {C : mh} (hC : C.length = 239) {rec14 : Int32 → Int32 → Int32 → mS → Option (mS × Int32)} (hrec14 : ∀ (x1 : Int32) (x2 : Int32) (x3 : Int32) (h : mS) {o : (mS × Int32)}, rec14 x1 x2 x3 h = some o → mB (gO mX7_hulls (hM C o.1, some (.int o.2))) mX7_hulls (14, [(0, .ref 239), (1, .int x1), (2, .int x2), (3, .int x3)], [], (hM C h), 0, 0)) (x1 : Int32) (x2 : Int32) (x3 : Int32) (y0 : Int32) (h : mS) {o : (mS × Int32)} (hq : mxX7_hulls_51 N rec14 x1 x2 x3 y0 h = some o) : mB (gO mX7_hulls (hM C o.1, some (.int o.2))) mX7_hulls (51, [(0, .ref 239), (1, .int x1), (2, .int x2), (3, .int x3)], [.int y0, .ref 257], (hM C h), 0, 0) := by
  unfold mxX7_hulls_51 at hq
  refine mB_run odX7_hulls 2 (g := (56, [(0, .ref 239), (1, .int x1), (2, .int x2), (3, .int x3)], [.int (1 : Int32), .int y0, .ref 257], (hM C h), 0, 0)) rfl ?_
  refine mB_lv [0, 1, 2, 3] (lv' := [(0, .ref 239), (1, .int x1), (2, .int x2), (3, .int x3)]) rfl ?_
  exact emX7_hulls_56 hC hrec14 _ _ _ _ _ _ hq
def mxX7_hulls_55 (N : Nat) (rec14 : Int32 → Int32 → Int32 → mS → Option (mS × Int32)) (x1 : Int32) (x2 : Int32) (x3 : Int32) (y0 : Int32) (h : mS) : Option (mS × Int32) :=
  mxX7_hulls_56 N rec14 x1 x2 x3 (0 : Int32) y0 h
set_option maxHeartbeats 4000000 in
set_option maxRecDepth 100000 in
theorem emX7_hulls_55 {N : Nat} {C : mh} (hC : C.length = 239) {rec14 : Int32 → Int32 → Int32 → mS → Option (mS × Int32)} (hrec14 : ∀ (x1 : Int32) (x2 : Int32) (x3 : Int32) (h : mS) {o : (mS × Int32)}, rec14 x1 x2 x3 h = some o → mB (gO mX7_hulls (hM C o.1, some (.int o.2))) mX7_hulls (14, [(0, .ref 239), (1, .int x1), (2, .int x2), (3, .int x3)], [], (hM C h), 0, 0)) (x1 : Int32) (x2 : Int32) (x3 : Int32) (y0 : Int32) (h : mS) {o : (mS × Int32)} (hq : mxX7_hulls_55 N rec14 x1 x2 x3 y0 h = some o) : mB (gO mX7_hulls (hM C o.1, some (.int o.2))) mX7_hulls (55, [(0, .ref 239), (1, .int x1), (2, .int x2), (3, .int x3)], [.int y0, .ref 257], (hM C h), 0, 0) := by
  unfold mxX7_hulls_55 at hq
  refine mB_run odX7_hulls 1 (g := (56, [(0, .ref 239), (1, .int x1), (2, .int x2), (3, .int x3)], [.int (0 : Int32), .int y0, .ref 257], (hM C h), 0, 0)) rfl ?_
  refine mB_lv [0, 1, 2, 3] (lv' := [(0, .ref 239), (1, .int x1), (2, .int x2), (3, .int x3)]) rfl ?_
  exact emX7_hulls_56 hC hrec14 _ _ _ _ _ _ hq
def mxX7_hulls_139 (N : Nat) (rec70 : Int32 → Int32 → Int32 → mS → Option (mS × Int32)) (x1 : Int32) (x2 : Int32) (x3 : Int32) (h : mS) : Option (mS × Int32) :=
  (mxX7_turnsAbout N  h).bind fun o33 =>
  rec70 x1 x2 (x3 + (1 : Int32)) o33
set_option maxHeartbeats 4000000 in
set_option maxRecDepth 100000 in
theorem emX7_hulls_139 {N : Nat} {C : mh} (hC : C.length = 239) {rec70 : Int32 → Int32 → Int32 → mS → Option (mS × Int32)} (hrec70 : ∀ (x1 : Int32) (x2 : Int32) (x3 : Int32) (h : mS) {o : (mS × Int32)}, rec70 x1 x2 x3 h = some o → mB (gO mX7_hulls (hM C o.1, some (.int o.2))) mX7_hulls (70, [(0, .ref 239), (1, .int x1), (2, .int x2), (3, .int x3)], [], (hM C h), 0, 0)) (x1 : Int32) (x2 : Int32) (x3 : Int32) (h : mS) {o : (mS × Int32)} (hq : mxX7_hulls_139 N rec70 x1 x2 x3 h = some o) : mB (gO mX7_hulls (hM C o.1, some (.int o.2))) mX7_hulls (139, [(0, .ref 239), (1, .int x1), (2, .int x2), (3, .int x3)], [], (hM C h), 0, 0) := by
  unfold mxX7_hulls_139 at hq
  refine mB_run odX7_hulls 1 (g := (140, [(0, .ref 239), (1, .int x1), (2, .int x2), (3, .int x3)], [.ref 239], (hM C h), 0, 0)) rfl ?_
  obtain ⟨o33, e34, hq⟩ := bsm hq
  refine mB_V (as := []) odX7_hulls okX7_turnsAbout lk_7_212 rfl (emX7_turnsAbout hC e34) (kO_at (md_O hC)) rfl rfl rfl ?_
  show mB _ mX7_hulls (143, [(0, .ref 239), (1, .int x1), (2, .int x2), (3, .int x3)], [], (hM C o33), 0, 0)
  refine mB_run odX7_hulls 2 (g := (70, [(3, .int (x3 + (1 : Int32))), (0, .ref 239), (1, .int x1), (2, .int x2)], [], (hM C o33), 0, 0)) rfl ?_
  refine mB_lv [1, 2, 3, 0] (lv' := [(0, .ref 239), (1, .int x1), (2, .int x2), (3, .int (x3 + (1 : Int32)))]) rfl ?_
  exact hrec70 _ _ _ _ hq
def mxX7_hulls_92 (N : Nat) (rec70 : Int32 → Int32 → Int32 → mS → Option (mS × Int32)) : Nat → Int32 → Int32 → Int32 → Int32 → mS → Option (mS × Int32)
  | 0, _, _, _, _, _ => none
  | n + 1, x1, x2, x3, x4, h =>
    if (h.1 23) ≤ x4 then (
      if (24 : Int32) < (h.1 23) then (
        mxX7_hulls_139 N rec70 x1 x2 x3 h) else (
        (mxX7_height N (0 : Int32) h).bind fun o25 =>
        (mxX7_faceHere N x1 o25.2 o25.1).bind fun o27 =>
        mxX7_hulls_139 N rec70 x1 x2 x3 o27)) else (
      (rA h 22 x4).bind fun v29 =>
      (wB h 19 v29 (1 : Int32)).bind fun s31 =>
      mxX7_hulls_92 N rec70 n x1 x2 x3 (x4 + (1 : Int32)) s31)
set_option maxHeartbeats 4000000 in
set_option maxRecDepth 100000 in
theorem emX7_hulls_92 {N : Nat} {C : mh} (hC : C.length = 239) {rec70 : Int32 → Int32 → Int32 → mS → Option (mS × Int32)} (hrec70 : ∀ (x1 : Int32) (x2 : Int32) (x3 : Int32) (h : mS) {o : (mS × Int32)}, rec70 x1 x2 x3 h = some o → mB (gO mX7_hulls (hM C o.1, some (.int o.2))) mX7_hulls (70, [(0, .ref 239), (1, .int x1), (2, .int x2), (3, .int x3)], [], (hM C h), 0, 0)) : ∀ (n : Nat) (x1 : Int32) (x2 : Int32) (x3 : Int32) (x4 : Int32) (h : mS) {o : (mS × Int32)}, mxX7_hulls_92 N rec70 n x1 x2 x3 x4 h = some o → mB (gO mX7_hulls (hM C o.1, some (.int o.2))) mX7_hulls (92, [(0, .ref 239), (1, .int x1), (2, .int x2), (3, .int x3), (4, .int x4)], [], (hM C h), 0, 0) := by
  intro n
  induction n with
  | zero => intro x1 x2 x3 x4 h o hq; cases hq
  | succ n ih =>
    intro x1 x2 x3 x4 h o hq
    unfold mxX7_hulls_92 at hq
    refine mB_run odX7_hulls 2 (g := (95, [(0, .ref 239), (1, .int x1), (2, .int x2), (3, .int x3), (4, .int x4)], [.ref 239, .int x4], (hM C h), 0, 0)) rfl ?_
    refine r_gI odX7_hulls rfl rfl (md_23 hC) ?_
    by_cases c23 : (h.1 23) ≤ x4
    · rw [if_pos c23] at hq
      refine ic_ge_T (t := 120) odX7_hulls rfl rfl c23 ?_
      refine mB_run odX7_hulls 1 (g := (121, [(0, .ref 239), (1, .int x1), (2, .int x2), (3, .int x3), (4, .int x4)], [.ref 239], (hM C h), 0, 0)) rfl ?_
      refine r_gI odX7_hulls rfl rfl (md_23 hC) ?_
      refine mB_run odX7_hulls 1 (g := (126, [(0, .ref 239), (1, .int x1), (2, .int x2), (3, .int x3), (4, .int x4)], [.int (24 : Int32), .int (h.1 23)], (hM C h), 0, 0)) rfl ?_
      by_cases c24 : (24 : Int32) < (h.1 23)
      · rw [if_pos c24] at hq
        refine ic_gt_T (t := 139) odX7_hulls rfl rfl c24 ?_
        refine mB_lv [0, 1, 2, 3] (lv' := [(0, .ref 239), (1, .int x1), (2, .int x2), (3, .int x3)]) rfl ?_
        exact emX7_hulls_139 hC hrec70 _ _ _ _ hq
      · rw [if_neg c24] at hq
        refine ic_gt_F (t := 139) odX7_hulls rfl rfl c24 ?_
        refine mB_run odX7_hulls 4 (g := (133, [(0, .ref 239), (1, .int x1), (2, .int x2), (3, .int x3), (4, .int x4)], [.int (0 : Int32), .ref 239, .int x1, .ref 239], (hM C h), 0, 0)) rfl ?_
        obtain ⟨o25, e26, hq⟩ := bsm hq
        refine mB_V (as := [.int (0 : Int32)]) odX7_hulls okX7_height lk_7_189 rfl (emX7_height hC e26) (kO_at (md_O hC)) rfl rfl rfl ?_
        show mB _ mX7_hulls (136, [(0, .ref 239), (1, .int x1), (2, .int x2), (3, .int x3), (4, .int x4)], [.long o25.2, .int x1, .ref 239], (hM C o25.1), 0, 0)
        obtain ⟨o27, e28, hq⟩ := bsm hq
        refine mB_V (as := [.int x1, .long o25.2]) odX7_hulls okX7_faceHere lk_7_208 rfl (emX7_faceHere hC e28) (kO_at (md_O hC)) rfl rfl rfl ?_
        show mB _ mX7_hulls (139, [(0, .ref 239), (1, .int x1), (2, .int x2), (3, .int x3), (4, .int x4)], [], (hM C o27), 0, 0)
        refine mB_lv [0, 1, 2, 3] (lv' := [(0, .ref 239), (1, .int x1), (2, .int x2), (3, .int x3)]) rfl ?_
        exact emX7_hulls_139 hC hrec70 _ _ _ _ hq
    · rw [if_neg c23] at hq
      refine ic_ge_F (t := 120) odX7_hulls rfl rfl c23 ?_
      refine mB_run odX7_hulls 1 (g := (102, [(0, .ref 239), (1, .int x1), (2, .int x2), (3, .int x3), (4, .int x4)], [.ref 239], (hM C h), 0, 0)) rfl ?_
      refine r_gR odX7_hulls rfl rfl (md_19 hC) ?_
      refine mB_run odX7_hulls 1 (g := (106, [(0, .ref 239), (1, .int x1), (2, .int x2), (3, .int x3), (4, .int x4)], [.ref 239, .ref 257], (hM C h), 0, 0)) rfl ?_
      refine r_gR odX7_hulls rfl rfl (md_22 hC) ?_
      refine mB_run odX7_hulls 1 (g := (111, [(0, .ref 239), (1, .int x1), (2, .int x2), (3, .int x3), (4, .int x4)], [.int x4, .ref 259, .ref 257], (hM C h), 0, 0)) rfl ?_
      obtain ⟨v29, e30, hq⟩ := bsm hq
      refine r_aI odX7_hulls rfl (ra_22 hC e30) ?_
      refine mB_run odX7_hulls 1 (g := (113, [(0, .ref 239), (1, .int x1), (2, .int x2), (3, .int x3), (4, .int x4)], [.int (1 : Int32), .int v29, .ref 257], (hM C h), 0, 0)) rfl ?_
      obtain ⟨s31, e32, hq⟩ := bsm hq
      refine r_wZ odX7_hulls rfl (wa_19 hC e32) ?_
      refine mB_run odX7_hulls 2 (g := (92, [(4, .int (x4 + (1 : Int32))), (0, .ref 239), (1, .int x1), (2, .int x2), (3, .int x3)], [], (hM C s31), 0, 0)) rfl ?_
      refine mB_lv [1, 2, 3, 4, 0] (lv' := [(0, .ref 239), (1, .int x1), (2, .int x2), (3, .int x3), (4, .int (x4 + (1 : Int32)))]) rfl ?_
      exact ih _ _ _ _ _ hq
def mxX7_hulls_149 (N : Nat) (x1 : Int32) (x2 : Int32) (h : mS) : Option (mS × Int32) :=
  if x2 = (4 : Int32) then (
    (mxX7_planes N x1 h).bind fun o14 =>
    some (o14, x2)) else (
    some (h, x2))
set_option maxHeartbeats 4000000 in
set_option maxRecDepth 100000 in
theorem emX7_hulls_149 {N : Nat} {C : mh} (hC : C.length = 239) (x1 : Int32) (x2 : Int32) (h : mS) {o : (mS × Int32)} (hq : mxX7_hulls_149 N x1 x2 h = some o) : mB (gO mX7_hulls (hM C o.1, some (.int o.2))) mX7_hulls (149, [(0, .ref 239), (1, .int x1), (2, .int x2)], [], (hM C h), 0, 0) := by
  unfold mxX7_hulls_149 at hq
  refine mB_run odX7_hulls 2 (g := (151, [(0, .ref 239), (1, .int x1), (2, .int x2)], [.int (4 : Int32), .int x2], (hM C h), 0, 0)) rfl ?_
  by_cases c13 : x2 = (4 : Int32)
  · rw [if_pos c13] at hq
    refine ic_ne_F (t := 159) odX7_hulls rfl rfl c13 ?_
    refine mB_run odX7_hulls 2 (g := (156, [(0, .ref 239), (1, .int x1), (2, .int x2)], [.int x1, .ref 239], (hM C h), 0, 0)) rfl ?_
    obtain ⟨o14, e15, hq⟩ := bsm hq
    refine mB_V (as := [.int x1]) odX7_hulls okX7_planes lk_7_215 rfl (emX7_planes hC e15) (kO_at (md_O hC)) rfl rfl rfl ?_
    show mB _ mX7_hulls (159, [(0, .ref 239), (1, .int x1), (2, .int x2)], [], (hM C o14), 0, 0)
    refine mB_run odX7_hulls 1 (g := (160, [(0, .ref 239), (1, .int x1), (2, .int x2)], [.int x2], (hM C o14), 0, 0)) rfl ?_
    cases hq
    exact mB_ret odX7_hulls rfl
  · rw [if_neg c13] at hq
    refine ic_ne_T (t := 159) odX7_hulls rfl rfl c13 ?_
    refine mB_run odX7_hulls 1 (g := (160, [(0, .ref 239), (1, .int x1), (2, .int x2)], [.int x2], (hM C h), 0, 0)) rfl ?_
    cases hq
    exact mB_ret odX7_hulls rfl
def mxX7_hulls_70 (N : Nat) : Nat → Int32 → Int32 → Int32 → mS → Option (mS × Int32)
  | 0, _, _, _, _ => none
  | n + 1, x1, x2, x3, h =>
    if (2 : Int32) ≤ x3 then (
      mxX7_hulls_149 N x1 x2 h) else (
      (mxX7_height N (0 : Int32) h).bind fun o17 =>
      (mxX7_lists N o17.2 o17.1).bind fun o19 =>
      (mxX7_rings N  o19.1).bind fun o21 =>
      mxX7_hulls_92 N (mxX7_hulls_70 N n) N x1 x2 x3 (0 : Int32) o21)
set_option maxHeartbeats 4000000 in
set_option maxRecDepth 100000 in
theorem emX7_hulls_70 {N : Nat} {C : mh} (hC : C.length = 239) : ∀ (n : Nat) (x1 : Int32) (x2 : Int32) (x3 : Int32) (h : mS) {o : (mS × Int32)}, mxX7_hulls_70 N n x1 x2 x3 h = some o → mB (gO mX7_hulls (hM C o.1, some (.int o.2))) mX7_hulls (70, [(0, .ref 239), (1, .int x1), (2, .int x2), (3, .int x3)], [], (hM C h), 0, 0) := by
  intro n
  induction n with
  | zero => intro x1 x2 x3 h o hq; cases hq
  | succ n ih =>
    intro x1 x2 x3 h o hq
    unfold mxX7_hulls_70 at hq
    refine mB_run odX7_hulls 2 (g := (72, [(0, .ref 239), (1, .int x1), (2, .int x2), (3, .int x3)], [.int (2 : Int32), .int x3], (hM C h), 0, 0)) rfl ?_
    by_cases c16 : (2 : Int32) ≤ x3
    · rw [if_pos c16] at hq
      refine ic_ge_T (t := 149) odX7_hulls rfl rfl c16 ?_
      refine mB_lv [0, 1, 2] (lv' := [(0, .ref 239), (1, .int x1), (2, .int x2)]) rfl ?_
      exact emX7_hulls_149 hC _ _ _ hq
    · rw [if_neg c16] at hq
      refine ic_ge_F (t := 149) odX7_hulls rfl rfl c16 ?_
      refine mB_run odX7_hulls 3 (g := (78, [(0, .ref 239), (1, .int x1), (2, .int x2), (3, .int x3)], [.int (0 : Int32), .ref 239, .ref 239], (hM C h), 0, 0)) rfl ?_
      obtain ⟨o17, e18, hq⟩ := bsm hq
      refine mB_V (as := [.int (0 : Int32)]) odX7_hulls okX7_height lk_7_189 rfl (emX7_height hC e18) (kO_at (md_O hC)) rfl rfl rfl ?_
      show mB _ mX7_hulls (81, [(0, .ref 239), (1, .int x1), (2, .int x2), (3, .int x3)], [.long o17.2, .ref 239], (hM C o17.1), 0, 0)
      obtain ⟨o19, e20, hq⟩ := bsm hq
      refine mB_V (as := [.long o17.2]) odX7_hulls okX7_lists lk_7_201 rfl (emX7_lists hC e20) (kO_at (md_O hC)) rfl rfl rfl ?_
      show mB _ mX7_hulls (84, [(0, .ref 239), (1, .int x1), (2, .int x2), (3, .int x3)], [.int o19.2], (hM C o19.1), 0, 0)
      refine mB_run odX7_hulls 2 (g := (86, [(0, .ref 239), (1, .int x1), (2, .int x2), (3, .int x3)], [.ref 239], (hM C o19.1), 0, 0)) rfl ?_
      obtain ⟨o21, e22, hq⟩ := bsm hq
      refine mB_V (as := []) odX7_hulls okX7_rings lk_7_205 rfl (emX7_rings hC e22) (kO_at (md_O hC)) rfl rfl rfl ?_
      show mB _ mX7_hulls (89, [(0, .ref 239), (1, .int x1), (2, .int x2), (3, .int x3)], [], (hM C o21), 0, 0)
      refine mB_run odX7_hulls 2 (g := (92, [(4, .int (0 : Int32)), (0, .ref 239), (1, .int x1), (2, .int x2), (3, .int x3)], [], (hM C o21), 0, 0)) rfl ?_
      refine mB_lv [1, 2, 3, 4, 0] (lv' := [(0, .ref 239), (1, .int x1), (2, .int x2), (3, .int x3), (4, .int (0 : Int32))]) rfl ?_
      exact emX7_hulls_92 hC ih N _ _ _ _ _ hq
def mxX7_hulls_14 (N : Nat) : Nat → Int32 → Int32 → Int32 → mS → Option (mS × Int32)
  | 0, _, _, _, _ => none
  | n + 1, x1, x2, x3, h =>
    if (h.1 15) ≤ x3 then (
      if x2 = (3 : Int32) then (
        mxX7_hulls_70 N N x1 x2 (0 : Int32) h) else (
        mxX7_hulls_149 N x1 x2 h)) else (
      if x2 < (2 : Int32) then (
        mxX7_hulls_51 N (mxX7_hulls_14 N n) x1 x2 x3 x3 h) else (
        if x2 = (2 : Int32) then (
          if x3 = 0 then (
            mxX7_hulls_51 N (mxX7_hulls_14 N n) x1 x2 x3 x3 h) else (
            if x3 = ((h.1 15) - (1 : Int32)) then (
              mxX7_hulls_51 N (mxX7_hulls_14 N n) x1 x2 x3 x3 h) else (
              mxX7_hulls_55 N (mxX7_hulls_14 N n) x1 x2 x3 x3 h))) else (
          mxX7_hulls_55 N (mxX7_hulls_14 N n) x1 x2 x3 x3 h)))
set_option maxHeartbeats 4000000 in
set_option maxRecDepth 100000 in
theorem emX7_hulls_14 {N : Nat} {C : mh} (hC : C.length = 239) : ∀ (n : Nat) (x1 : Int32) (x2 : Int32) (x3 : Int32) (h : mS) {o : (mS × Int32)}, mxX7_hulls_14 N n x1 x2 x3 h = some o → mB (gO mX7_hulls (hM C o.1, some (.int o.2))) mX7_hulls (14, [(0, .ref 239), (1, .int x1), (2, .int x2), (3, .int x3)], [], (hM C h), 0, 0) := by
  intro n
  induction n with
  | zero => intro x1 x2 x3 h o hq; cases hq
  | succ n ih =>
    intro x1 x2 x3 h o hq
    unfold mxX7_hulls_14 at hq
    refine mB_run odX7_hulls 2 (g := (16, [(0, .ref 239), (1, .int x1), (2, .int x2), (3, .int x3)], [.ref 239, .int x3], (hM C h), 0, 0)) rfl ?_
    refine r_gI odX7_hulls rfl rfl (md_15 hC) ?_
    by_cases c5 : (h.1 15) ≤ x3
    · rw [if_pos c5] at hq
      refine ic_ge_T (t := 63) odX7_hulls rfl rfl c5 ?_
      refine mB_run odX7_hulls 2 (g := (65, [(0, .ref 239), (1, .int x1), (2, .int x2), (3, .int x3)], [.int (3 : Int32), .int x2], (hM C h), 0, 0)) rfl ?_
      by_cases c6 : x2 = (3 : Int32)
      · rw [if_pos c6] at hq
        refine ic_ne_F (t := 149) odX7_hulls rfl rfl c6 ?_
        refine mB_run odX7_hulls 2 (g := (70, [(3, .int (0 : Int32)), (0, .ref 239), (1, .int x1), (2, .int x2)], [], (hM C h), 0, 0)) rfl ?_
        refine mB_lv [1, 2, 3, 0] (lv' := [(0, .ref 239), (1, .int x1), (2, .int x2), (3, .int (0 : Int32))]) rfl ?_
        exact emX7_hulls_70 hC N _ _ _ _ hq
      · rw [if_neg c6] at hq
        refine ic_ne_T (t := 149) odX7_hulls rfl rfl c6 ?_
        refine mB_lv [0, 1, 2] (lv' := [(0, .ref 239), (1, .int x1), (2, .int x2)]) rfl ?_
        exact emX7_hulls_149 hC _ _ _ hq
    · rw [if_neg c5] at hq
      refine ic_ge_F (t := 63) odX7_hulls rfl rfl c5 ?_
      refine mB_run odX7_hulls 1 (g := (23, [(0, .ref 239), (1, .int x1), (2, .int x2), (3, .int x3)], [.ref 239], (hM C h), 0, 0)) rfl ?_
      refine r_gR odX7_hulls rfl rfl (md_19 hC) ?_
      refine mB_run odX7_hulls 3 (g := (29, [(0, .ref 239), (1, .int x1), (2, .int x2), (3, .int x3)], [.int (2 : Int32), .int x2, .int x3, .ref 257], (hM C h), 0, 0)) rfl ?_
      by_cases c7 : x2 < (2 : Int32)
      · rw [if_pos c7] at hq
        refine ic_lt_T (t := 51) odX7_hulls rfl rfl c7 ?_
        refine mB_lv [0, 1, 2, 3] (lv' := [(0, .ref 239), (1, .int x1), (2, .int x2), (3, .int x3)]) rfl ?_
        exact emX7_hulls_51 hC ih _ _ _ _ _ hq
      · rw [if_neg c7] at hq
        refine ic_lt_F (t := 51) odX7_hulls rfl rfl c7 ?_
        refine mB_run odX7_hulls 2 (g := (34, [(0, .ref 239), (1, .int x1), (2, .int x2), (3, .int x3)], [.int (2 : Int32), .int x2, .int x3, .ref 257], (hM C h), 0, 0)) rfl ?_
        by_cases c8 : x2 = (2 : Int32)
        · rw [if_pos c8] at hq
          refine ic_ne_F (t := 55) odX7_hulls rfl rfl c8 ?_
          refine mB_run odX7_hulls 1 (g := (38, [(0, .ref 239), (1, .int x1), (2, .int x2), (3, .int x3)], [.int x3, .int x3, .ref 257], (hM C h), 0, 0)) rfl ?_
          by_cases c9 : x3 = 0
          · rw [if_pos c9] at hq
            refine if_eq_T (t := 51) odX7_hulls rfl rfl c9 ?_
            refine mB_lv [0, 1, 2, 3] (lv' := [(0, .ref 239), (1, .int x1), (2, .int x2), (3, .int x3)]) rfl ?_
            exact emX7_hulls_51 hC ih _ _ _ _ _ hq
          · rw [if_neg c9] at hq
            refine if_eq_F (t := 51) odX7_hulls rfl rfl c9 ?_
            refine mB_run odX7_hulls 2 (g := (43, [(0, .ref 239), (1, .int x1), (2, .int x2), (3, .int x3)], [.ref 239, .int x3, .int x3, .ref 257], (hM C h), 0, 0)) rfl ?_
            refine r_gI odX7_hulls rfl rfl (md_15 hC) ?_
            refine mB_run odX7_hulls 2 (g := (48, [(0, .ref 239), (1, .int x1), (2, .int x2), (3, .int x3)], [.int ((h.1 15) - (1 : Int32)), .int x3, .int x3, .ref 257], (hM C h), 0, 0)) rfl ?_
            by_cases c10 : x3 = ((h.1 15) - (1 : Int32))
            · rw [if_pos c10] at hq
              refine ic_ne_F (t := 55) odX7_hulls rfl rfl c10 ?_
              refine mB_lv [0, 1, 2, 3] (lv' := [(0, .ref 239), (1, .int x1), (2, .int x2), (3, .int x3)]) rfl ?_
              exact emX7_hulls_51 hC ih _ _ _ _ _ hq
            · rw [if_neg c10] at hq
              refine ic_ne_T (t := 55) odX7_hulls rfl rfl c10 ?_
              refine mB_lv [0, 1, 2, 3] (lv' := [(0, .ref 239), (1, .int x1), (2, .int x2), (3, .int x3)]) rfl ?_
              exact emX7_hulls_55 hC ih _ _ _ _ _ hq
        · rw [if_neg c8] at hq
          refine ic_ne_T (t := 55) odX7_hulls rfl rfl c8 ?_
          refine mB_lv [0, 1, 2, 3] (lv' := [(0, .ref 239), (1, .int x1), (2, .int x2), (3, .int x3)]) rfl ?_
          exact emX7_hulls_55 hC ih _ _ _ _ _ hq
def mxX7_hulls (N : Nat) (p1 : Int32) (h : mS) : Option (mS × Int32) :=
  (wA h 27 p1 (0 : Int32)).bind fun s1 =>
  (mxX7_kindOfHeap N  s1).bind fun o3 =>
  mxX7_hulls_14 N N p1 o3.2 (0 : Int32) o3.1
set_option maxHeartbeats 4000000 in
set_option maxRecDepth 100000 in
theorem emX7_hulls {N : Nat} {C : mh} (hC : C.length = 239) {p1 : Int32} {h : mS} {o : (mS × Int32)} (hq : mxX7_hulls N p1 h = some o) : mC mX7_hulls [.ref 239, .int p1] (hM C h) (hM C o.1, some (.int o.2)) := by
  refine mC_of okX7_hulls (Nat.le_of_ble_eq_true rfl) ?_
  unfold mxX7_hulls at hq
  show mB _ mX7_hulls (0, [(0, .ref 239), (1, .int p1)], [], (hM C h), 0, 0)
  refine mB_run odX7_hulls 1 (g := (1, [(0, .ref 239), (1, .int p1)], [.ref 239], (hM C h), 0, 0)) rfl ?_
  refine r_gR odX7_hulls rfl rfl (md_27 hC) ?_
  refine mB_run odX7_hulls 2 (g := (6, [(0, .ref 239), (1, .int p1)], [.int (0 : Int32), .int p1, .ref 260], (hM C h), 0, 0)) rfl ?_
  obtain ⟨s1, e2, hq⟩ := bsm hq
  refine r_wI odX7_hulls rfl (wa_27 hC e2) ?_
  refine mB_run odX7_hulls 1 (g := (8, [(0, .ref 239), (1, .int p1)], [.ref 239], (hM C s1), 0, 0)) rfl ?_
  obtain ⟨o3, e4, hq⟩ := bsm hq
  refine mB_V (as := []) odX7_hulls okX7_kindOfHeap lk_7_197 rfl (emX7_kindOfHeap hC e4) (kO_at (md_O hC)) rfl rfl rfl ?_
  show mB _ mX7_hulls (11, [(0, .ref 239), (1, .int p1)], [.int o3.2], (hM C o3.1), 0, 0)
  refine mB_run odX7_hulls 3 (g := (14, [(3, .int (0 : Int32)), (2, .int o3.2), (0, .ref 239), (1, .int p1)], [], (hM C o3.1), 0, 0)) rfl ?_
  refine mB_lv [2, 3, 1, 0] (lv' := [(0, .ref 239), (1, .int p1), (2, .int o3.2), (3, .int (0 : Int32))]) rfl ?_
  exact emX7_hulls_14 hC N _ _ _ _ hq
