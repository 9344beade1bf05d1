def fxX7_rings_116 (N : Nat) (rec12 : Nat → Int32 → mh → Option mh) (rec36 : Nat → Int32 → Int32 → Int32 → mh → Option mh) (x0 : Nat) (x1 : Int32) (x2 : Int32) (x3 : Int32) (h : mh) : Option mh :=
  rec36 x0 x1 x2 (x3 + (1 : Int32)) h
set_option maxHeartbeats 4000000 in
set_option maxRecDepth 100000 in
theorem exX7_rings_116 {N : Nat} {rec12 : Nat → Int32 → mh → Option mh} {rec36 : Nat → Int32 → Int32 → Int32 → mh → Option mh} (hrec12 : ∀ (x0 : Nat) (x1 : Int32) (h : mh) {o : mh}, rec12 x0 x1 h = some o → mB (gO mX7_rings (o, none)) mX7_rings (12, [(0, .ref x0), (1, .int x1)], [], h, 0, 0)) (hrec36 : ∀ (x0 : Nat) (x1 : Int32) (x2 : Int32) (x3 : Int32) (h : mh) {o : mh}, rec36 x0 x1 x2 x3 h = some o → mB (gO mX7_rings (o, none)) mX7_rings (36, [(0, .ref x0), (1, .int x1), (2, .int x2), (3, .int x3)], [], h, 0, 0)) (x0 : Nat) (x1 : Int32) (x2 : Int32) (x3 : Int32) (h : mh) {o : mh} (hq : fxX7_rings_116 N rec12 rec36 x0 x1 x2 x3 h = some o) : mB (gO mX7_rings (o, none)) mX7_rings (116, [(0, .ref x0), (1, .int x1), (2, .int x2), (3, .int x3)], [], h, 0, 0) := by
  unfold fxX7_rings_116 at hq
  refine mB_run odX7_rings 2 (g := (36, [(3, .int (x3 + (1 : Int32))), (0, .ref x0), (1, .int x1), (2, .int x2)], [], h, 0, 0)) rfl ?_
  refine mB_lv [1, 2, 3, 0] (lv' := [(0, .ref x0), (1, .int x1), (2, .int x2), (3, .int (x3 + (1 : Int32)))]) rfl ?_
  exact hrec36 _ _ _ _ _ hq
def fxX7_rings_113 (N : Nat) (rec12 : Nat → Int32 → mh → Option mh) (rec36 : Nat → Int32 → Int32 → Int32 → mh → Option mh) (x0 : Nat) (x1 : Int32) (x3 : Int32) (x4 : Int32) (h : mh) : Option mh :=
  fxX7_rings_116 N rec12 rec36 x0 x1 x4 x3 h
set_option maxHeartbeats 4000000 in
set_option maxRecDepth 100000 in
theorem exX7_rings_113 {N : Nat} {rec12 : Nat → Int32 → mh → Option mh} {rec36 : Nat → Int32 → Int32 → Int32 → mh → Option mh} (hrec12 : ∀ (x0 : Nat) (x1 : Int32) (h : mh) {o : mh}, rec12 x0 x1 h = some o → mB (gO mX7_rings (o, none)) mX7_rings (12, [(0, .ref x0), (1, .int x1)], [], h, 0, 0)) (hrec36 : ∀ (x0 : Nat) (x1 : Int32) (x2 : Int32) (x3 : Int32) (h : mh) {o : mh}, rec36 x0 x1 x2 x3 h = some o → mB (gO mX7_rings (o, none)) mX7_rings (36, [(0, .ref x0), (1, .int x1), (2, .int x2), (3, .int x3)], [], h, 0, 0)) (x0 : Nat) (x1 : Int32) (x3 : Int32) (x4 : Int32) (h : mh) {o : mh} (hq : fxX7_rings_113 N rec12 rec36 x0 x1 x3 x4 h = some o) : mB (gO mX7_rings (o, none)) mX7_rings (113, [(0, .ref x0), (1, .int x1), (3, .int x3), (4, .int x4)], [], h, 0, 0) := by
  unfold fxX7_rings_113 at hq
  refine mB_run odX7_rings 2 (g := (116, [(2, .int x4), (0, .ref x0), (1, .int x1), (3, .int x3), (4, .int x4)], [], h, 0, 0)) rfl ?_
  refine mB_lv [1, 2, 0, 3] (lv' := [(0, .ref x0), (1, .int x1), (2, .int x4), (3, .int x3)]) rfl ?_
  exact exX7_rings_116 hrec12 hrec36 _ _ _ _ _ hq
def fxX7_rings_80 (N : Nat) (rec12 : Nat → Int32 → mh → Option mh) (rec36 : Nat → Int32 → Int32 → Int32 → mh → Option mh) (x0 : Nat) (x1 : Int32) (x2 : Int32) (x3 : Int32) (x4 : Int32) (s0 : Int64) (h : mh) : Option mh :=
  if s0 < (0 : Int64) then (
    fxX7_rings_113 N rec12 rec36 x0 x1 x3 x4 h) else (
    if s0 = (0 : Int64) then (
      (kO h x0 7).bind fun f40 =>
      (fxX7_apartOf N x0 x1 x4 h).bind fun o38 =>
      (kO o38.1 x0 7).bind fun f44 =>
      (fxX7_apartOf N x0 x1 x2 o38.1).bind fun o42 =>
      if o38.2 ≤ o42.2 then (
        fxX7_rings_116 N rec12 rec36 x0 x1 x2 x3 o42.1) else (
        fxX7_rings_113 N rec12 rec36 x0 x1 x3 x4 o42.1)) else (
      fxX7_rings_116 N rec12 rec36 x0 x1 x2 x3 h))
set_option maxHeartbeats 4000000 in
set_option maxRecDepth 100000 in
theorem exX7_rings_80 {N : Nat} {rec12 : Nat → Int32 → mh → Option mh} {rec36 : Nat → Int32 → Int32 → Int32 → mh → Option mh} (hrec12 : ∀ (x0 : Nat) (x1 : Int32) (h : mh) {o : mh}, rec12 x0 x1 h = some o → mB (gO mX7_rings (o, none)) mX7_rings (12, [(0, .ref x0), (1, .int x1)], [], h, 0, 0)) (hrec36 : ∀ (x0 : Nat) (x1 : Int32) (x2 : Int32) (x3 : Int32) (h : mh) {o : mh}, rec36 x0 x1 x2 x3 h = some o → mB (gO mX7_rings (o, none)) mX7_rings (36, [(0, .ref x0), (1, .int x1), (2, .int x2), (3, .int x3)], [], h, 0, 0)) (x0 : Nat) (x1 : Int32) (x2 : Int32) (x3 : Int32) (x4 : Int32) (s0 : Int64) (h : mh) {o : mh} (hq : fxX7_rings_80 N rec12 rec36 x0 x1 x2 x3 x4 s0 h = some o) : mB (gO mX7_rings (o, none)) mX7_rings (80, [(0, .ref x0), (1, .int x1), (2, .int x2), (3, .int x3), (4, .int x4)], [.long s0], h, 0, 0) := by
  unfold fxX7_rings_80 at hq
  refine mB_run odX7_rings 3 (g := (85, [(5, .long s0), (0, .ref x0), (1, .int x1), (2, .int x2), (3, .int x3), (4, .int x4)], [.long (0 : Int64), .long s0], h, 0, 0)) rfl ?_
  by_cases c36 : s0 < (0 : Int64)
  · rw [if_pos c36] at hq
    refine lc_lt_T (t := 113) odX7_rings rfl rfl rfl c36 ?_
    refine mB_lv [1, 2, 4, 5] (lv' := [(0, .ref x0), (1, .int x1), (3, .int x3), (4, .int x4)]) rfl ?_
    exact exX7_rings_113 hrec12 hrec36 _ _ _ _ _ hq
  · rw [if_neg c36] at hq
    refine lc_lt_F (t := 113) odX7_rings rfl rfl rfl c36 ?_
    refine mB_run odX7_rings 2 (g := (92, [(5, .long s0), (0, .ref x0), (1, .int x1), (2, .int x2), (3, .int x3), (4, .int x4)], [.long (0 : Int64), .long s0], h, 0, 0)) rfl ?_
    by_cases c37 : s0 = (0 : Int64)
    · rw [if_pos c37] at hq
      refine lc_ne_F (t := 116) odX7_rings rfl rfl rfl c37 ?_
      refine mB_run odX7_rings 3 (g := (100, [(5, .long s0), (0, .ref x0), (1, .int x1), (2, .int x2), (3, .int x3), (4, .int x4)], [.int x4, .int x1, .ref x0], h, 0, 0)) rfl ?_
      obtain ⟨f40, k41, hq⟩ := bsm hq
      obtain ⟨o38, e39, hq⟩ := bsm hq
      refine mB_V (as := [.int x1, .int x4]) odX7_rings okX7_apartOf lk_7_174 rfl (exX7_apartOf e39) (kO_at k41) rfl rfl rfl ?_
      show mB _ mX7_rings (103, [(5, .long s0), (0, .ref x0), (1, .int x1), (2, .int x2), (3, .int x3), (4, .int x4)], [.long o38.2], o38.1, 0, 0)
      refine mB_run odX7_rings 3 (g := (106, [(5, .long s0), (0, .ref x0), (1, .int x1), (2, .int x2), (3, .int x3), (4, .int x4)], [.int x2, .int x1, .ref x0, .long o38.2], o38.1, 0, 0)) rfl ?_
      obtain ⟨f44, k45, hq⟩ := bsm hq
      obtain ⟨o42, e43, hq⟩ := bsm hq
      refine mB_V (as := [.int x1, .int x2]) odX7_rings okX7_apartOf lk_7_174 rfl (exX7_apartOf e43) (kO_at k45) rfl rfl rfl ?_
      show mB _ mX7_rings (109, [(5, .long s0), (0, .ref x0), (1, .int x1), (2, .int x2), (3, .int x3), (4, .int x4)], [.long o42.2, .long o38.2], o42.1, 0, 0)
      by_cases c46 : o38.2 ≤ o42.2
      · rw [if_pos c46] at hq
        refine lc_le_T (t := 116) odX7_rings rfl rfl rfl c46 ?_
        refine mB_lv [1, 2, 3, 4] (lv' := [(0, .ref x0), (1, .int x1), (2, .int x2), (3, .int x3)]) rfl ?_
        exact exX7_rings_116 hrec12 hrec36 _ _ _ _ _ hq
      · rw [if_neg c46] at hq
        refine lc_le_F (t := 116) odX7_rings rfl rfl rfl c46 ?_
        refine mB_lv [1, 2, 4, 5] (lv' := [(0, .ref x0), (1, .int x1), (3, .int x3), (4, .int x4)]) rfl ?_
        exact exX7_rings_113 hrec12 hrec36 _ _ _ _ _ hq
    · rw [if_neg c37] at hq
      refine lc_ne_T (t := 116) odX7_rings rfl rfl rfl c37 ?_
      refine mB_lv [1, 2, 3, 4] (lv' := [(0, .ref x0), (1, .int x1), (2, .int x2), (3, .int x3)]) rfl ?_
      exact exX7_rings_116 hrec12 hrec36 _ _ _ _ _ hq
def fxX7_rings_36 (N : Nat) (rec12 : Nat → Int32 → mh → Option mh) : Nat → Nat → Int32 → Int32 → Int32 → mh → Option mh
  | 0, _, _, _, _, _ => none
  | n + 1, x0, x1, x2, x3, h =>
    (gI h x0 7 21).bind fun v17 =>
    if v17 ≤ x3 then (
      (gR h x0 7 20).bind fun v20 =>
      (aI h v20 (0 : Int32)).bind fun v22 =>
      if x2 = v22 then (
        some h) else (
        if x2 = (-1 : Int32) then (
          some h) else (
          rec12 x0 x2 h))) else (
      (gR h x0 7 20).bind fun v26 =>
      (aI h v26 x3).bind fun v28 =>
      if v28 = x1 then (
        fxX7_rings_116 N rec12 (fxX7_rings_36 N rec12 n) x0 x1 x2 x3 h) else (
        if x2 = (-1 : Int32) then (
          fxX7_rings_80 N rec12 (fxX7_rings_36 N rec12 n) x0 x1 x2 x3 v28 (-1 : Int64) h) else (
          (kO h x0 7).bind fun f34 =>
          (fxX7_leftOf N x0 x1 x2 v28 h).bind fun o32 =>
          fxX7_rings_80 N rec12 (fxX7_rings_36 N rec12 n) x0 x1 x2 x3 v28 o32.2 o32.1)))
set_option maxHeartbeats 4000000 in
set_option maxRecDepth 100000 in
theorem exX7_rings_36 {N : Nat} {rec12 : Nat → Int32 → mh → Option mh} (hrec12 : ∀ (x0 : Nat) (x1 : Int32) (h : mh) {o : mh}, rec12 x0 x1 h = some o → mB (gO mX7_rings (o, none)) mX7_rings (12, [(0, .ref x0), (1, .int x1)], [], h, 0, 0)) : ∀ (n : Nat) (x0 : Nat) (x1 : Int32) (x2 : Int32) (x3 : Int32) (h : mh) {o : mh}, fxX7_rings_36 N rec12 n x0 x1 x2 x3 h = some o → mB (gO mX7_rings (o, none)) mX7_rings (36, [(0, .ref x0), (1, .int x1), (2, .int x2), (3, .int x3)], [], h, 0, 0) := by
  intro n
  induction n with
  | zero => intro x0 x1 x2 x3 h o hq; cases hq
  | succ n ih =>
    intro x0 x1 x2 x3 h o hq
    unfold fxX7_rings_36 at hq
    refine mB_run odX7_rings 2 (g := (38, [(0, .ref x0), (1, .int x1), (2, .int x2), (3, .int x3)], [.ref x0, .int x3], h, 0, 0)) rfl ?_
    obtain ⟨v17, e18, hq⟩ := bsm hq
    refine r_gI odX7_rings rfl rfl e18 ?_
    by_cases c19 : v17 ≤ x3
    · rw [if_pos c19] at hq
      refine ic_ge_T (t := 122) odX7_rings rfl rfl c19 ?_
      refine mB_run odX7_rings 4 (g := (126, [(1, .int x2), (0, .ref x0), (2, .int x2), (3, .int x3)], [.ref x0, .int x2], h, 0, 0)) rfl ?_
      obtain ⟨v20, e21, hq⟩ := bsm hq
      refine r_gR odX7_rings rfl rfl e21 ?_
      refine mB_run odX7_rings 1 (g := (130, [(1, .int x2), (0, .ref x0), (2, .int x2), (3, .int x3)], [.int (0 : Int32), .ref v20, .int x2], h, 0, 0)) rfl ?_
      obtain ⟨v22, e23, hq⟩ := bsm hq
      refine r_aI odX7_rings rfl e23 ?_
      by_cases c24 : x2 = v22
      · rw [if_pos c24] at hq
        refine ic_eq_T (t := 139) odX7_rings rfl rfl c24 ?_
        cases hq
        exact mB_ret odX7_rings rfl
      · rw [if_neg c24] at hq
        refine ic_eq_F (t := 139) odX7_rings rfl rfl c24 ?_
        refine mB_run odX7_rings 2 (g := (136, [(1, .int x2), (0, .ref x0), (2, .int x2), (3, .int x3)], [.int (-1 : Int32), .int x2], h, 0, 0)) rfl ?_
        by_cases c25 : x2 = (-1 : Int32)
        · rw [if_pos c25] at hq
          refine ic_ne_F (t := 12) odX7_rings rfl rfl c25 ?_
          cases hq
          exact mB_ret odX7_rings rfl
        · rw [if_neg c25] at hq
          refine ic_ne_T (t := 12) odX7_rings rfl rfl c25 ?_
          refine mB_lv [1, 0] (lv' := [(0, .ref x0), (1, .int x2)]) rfl ?_
          exact hrec12 _ _ _ hq
    · rw [if_neg c19] at hq
      refine ic_ge_F (t := 122) odX7_rings rfl rfl c19 ?_
      refine mB_run odX7_rings 1 (g := (45, [(0, .ref x0), (1, .int x1), (2, .int x2), (3, .int x3)], [.ref x0], h, 0, 0)) rfl ?_
      obtain ⟨v26, e27, hq⟩ := bsm hq
      refine r_gR odX7_rings rfl rfl e27 ?_
      refine mB_run odX7_rings 1 (g := (49, [(0, .ref x0), (1, .int x1), (2, .int x2), (3, .int x3)], [.int x3, .ref v26], h, 0, 0)) rfl ?_
      obtain ⟨v28, e29, hq⟩ := bsm hq
      refine r_aI odX7_rings rfl e29 ?_
      refine mB_run odX7_rings 3 (g := (55, [(4, .int v28), (0, .ref x0), (1, .int x1), (2, .int x2), (3, .int x3)], [.int x1, .int v28], h, 0, 0)) rfl ?_
      by_cases c30 : v28 = x1
      · rw [if_pos c30] at hq
        refine ic_ne_F (t := 61) odX7_rings rfl rfl c30 ?_
        refine mB_run odX7_rings 1 (g := (116, [(4, .int v28), (0, .ref x0), (1, .int x1), (2, .int x2), (3, .int x3)], [], h, 0, 0)) rfl ?_
        refine mB_lv [1, 2, 3, 4] (lv' := [(0, .ref x0), (1, .int x1), (2, .int x2), (3, .int x3)]) rfl ?_
        exact exX7_rings_116 hrec12 ih _ _ _ _ _ hq
      · rw [if_neg c30] at hq
        refine ic_ne_T (t := 61) odX7_rings rfl rfl c30 ?_
        refine mB_run odX7_rings 2 (g := (63, [(4, .int v28), (0, .ref x0), (1, .int x1), (2, .int x2), (3, .int x3)], [.int (-1 : Int32), .int x2], h, 0, 0)) rfl ?_
        by_cases c31 : x2 = (-1 : Int32)
        · rw [if_pos c31] at hq
          refine ic_ne_F (t := 72) odX7_rings rfl rfl c31 ?_
          refine mB_run odX7_rings 2 (g := (80, [(4, .int v28), (0, .ref x0), (1, .int x1), (2, .int x2), (3, .int x3)], [.long (-1 : Int64)], h, 0, 0)) rfl ?_
          refine mB_lv [1, 2, 3, 4, 0] (lv' := [(0, .ref x0), (1, .int x1), (2, .int x2), (3, .int x3), (4, .int v28)]) rfl ?_
          exact exX7_rings_80 hrec12 ih _ _ _ _ _ _ _ hq
        · rw [if_neg c31] at hq
          refine ic_ne_T (t := 72) odX7_rings rfl rfl c31 ?_
          refine mB_run odX7_rings 4 (g := (77, [(4, .int v28), (0, .ref x0), (1, .int x1), (2, .int x2), (3, .int x3)], [.int v28, .int x2, .int x1, .ref x0], h, 0, 0)) rfl ?_
          obtain ⟨f34, k35, hq⟩ := bsm hq
          obtain ⟨o32, e33, hq⟩ := bsm hq
          refine mB_V (as := [.int x1, .int x2, .int v28]) odX7_rings okX7_leftOf lk_7_170 rfl (exX7_leftOf e33) (kO_at k35) rfl rfl rfl ?_
          show mB _ mX7_rings (80, [(4, .int v28), (0, .ref x0), (1, .int x1), (2, .int x2), (3, .int x3)], [.long o32.2], o32.1, 0, 0)
          refine mB_lv [1, 2, 3, 4, 0] (lv' := [(0, .ref x0), (1, .int x1), (2, .int x2), (3, .int x3), (4, .int v28)]) rfl ?_
          exact exX7_rings_80 hrec12 ih _ _ _ _ _ _ _ hq
def fxX7_rings_12 (N : Nat) : Nat → Nat → Int32 → mh → Option mh
  | 0, _, _, _ => none
  | n + 1, x0, x1, h =>
    (gR h x0 7 22).bind fun v7 =>
    (gI h x0 7 23).bind fun v9 =>
    (wI h v7 v9 x1).bind fun h11 =>
    (gI h11 x0 7 23).bind fun v13 =>
    (sV h11 x0 7 23 (.int (v13 + (1 : Int32)))).bind fun h15 =>
    fxX7_rings_36 N (fxX7_rings_12 N n) N x0 x1 (-1 : Int32) (0 : Int32) h15
set_option maxHeartbeats 4000000 in
set_option maxRecDepth 100000 in
theorem exX7_rings_12 {N : Nat} : ∀ (n : Nat) (x0 : Nat) (x1 : Int32) (h : mh) {o : mh}, fxX7_rings_12 N n x0 x1 h = some o → mB (gO mX7_rings (o, none)) mX7_rings (12, [(0, .ref x0), (1, .int x1)], [], h, 0, 0) := by
  intro n
  induction n with
  | zero => intro x0 x1 h o hq; cases hq
  | succ n ih =>
    intro x0 x1 h o hq
    unfold fxX7_rings_12 at hq
    refine mB_run odX7_rings 1 (g := (13, [(0, .ref x0), (1, .int x1)], [.ref x0], h, 0, 0)) rfl ?_
    obtain ⟨v7, e8, hq⟩ := bsm hq
    refine r_gR odX7_rings rfl rfl e8 ?_
    refine mB_run odX7_rings 1 (g := (17, [(0, .ref x0), (1, .int x1)], [.ref x0, .ref v7], h, 0, 0)) rfl ?_
    obtain ⟨v9, e10, hq⟩ := bsm hq
    refine r_gI odX7_rings rfl rfl e10 ?_
    refine mB_run odX7_rings 1 (g := (21, [(0, .ref x0), (1, .int x1)], [.int x1, .int v9, .ref v7], h, 0, 0)) rfl ?_
    obtain ⟨h11, e12, hq⟩ := bsm hq
    refine r_wI odX7_rings rfl e12 ?_
    refine mB_run odX7_rings 2 (g := (24, [(0, .ref x0), (1, .int x1)], [.ref x0, .ref x0], h11, 0, 0)) rfl ?_
    obtain ⟨v13, e14, hq⟩ := bsm hq
    refine r_gI odX7_rings rfl rfl e14 ?_
    refine mB_run odX7_rings 2 (g := (29, [(0, .ref x0), (1, .int x1)], [.int (v13 + (1 : Int32)), .ref x0], h11, 0, 0)) rfl ?_
    obtain ⟨h15, e16, hq⟩ := bsm hq
    refine r_sV odX7_rings rfl rfl rfl rfl e16 ?_
    refine mB_run odX7_rings 4 (g := (36, [(3, .int (0 : Int32)), (2, .int (-1 : Int32)), (0, .ref x0), (1, .int x1)], [], h15, 0, 0)) rfl ?_
    refine mB_lv [2, 3, 1, 0] (lv' := [(0, .ref x0), (1, .int x1), (2, .int (-1 : Int32)), (3, .int (0 : Int32))]) rfl ?_
    exact exX7_rings_36 ih N _ _ _ _ _ hq
def fxX7_rings (N : Nat) (p0 : Nat) (h : mh) : Option mh :=
  (sV h p0 7 23 (.int (0 : Int32))).bind fun h1 =>
  (gR h1 p0 7 20).bind fun v3 =>
  (aI h1 v3 (0 : Int32)).bind fun v5 =>
  fxX7_rings_12 N N p0 v5 h1
set_option maxHeartbeats 4000000 in
set_option maxRecDepth 100000 in
theorem exX7_rings {N : Nat} {p0 : Nat} {h : mh} {o : mh} (hq : fxX7_rings N p0 h = some o) : mC mX7_rings [.ref p0] h (o, none) := by
  refine mC_of okX7_rings (Nat.le_of_ble_eq_true rfl) ?_
  unfold fxX7_rings at hq
  show mB _ mX7_rings (0, [(0, .ref p0)], [], h, 0, 0)
  refine mB_run odX7_rings 2 (g := (2, [(0, .ref p0)], [.int (0 : Int32), .ref p0], h, 0, 0)) rfl ?_
  obtain ⟨h1, e2, hq⟩ := bsm hq
  refine r_sV odX7_rings rfl rfl rfl rfl e2 ?_
  refine mB_run odX7_rings 1 (g := (6, [(0, .ref p0)], [.ref p0], h1, 0, 0)) rfl ?_
  obtain ⟨v3, e4, hq⟩ := bsm hq
  refine r_gR odX7_rings rfl rfl e4 ?_
  refine mB_run odX7_rings 1 (g := (10, [(0, .ref p0)], [.int (0 : Int32), .ref v3], h1, 0, 0)) rfl ?_
  obtain ⟨v5, e6, hq⟩ := bsm hq
  refine r_aI odX7_rings rfl e6 ?_
  refine mB_run odX7_rings 1 (g := (12, [(1, .int v5), (0, .ref p0)], [], h1, 0, 0)) rfl ?_
  refine mB_lv [1, 0] (lv' := [(0, .ref p0), (1, .int v5)]) rfl ?_
  exact exX7_rings_12 N _ _ _ hq
def fxX7_kindOfHeap_67 (N : Nat) : Nat → Nat → Int32 → mh → Option (mh × Int32)
  | 0, _, _, _ => none
  | n + 1, x0, x2, h =>
    (gI h x0 7 15).bind fun v31 =>
    if v31 ≤ x2 then (
      some (h, (3 : Int32))) else (
      (kO h x0 7).bind fun f36 =>
      (fxX7_height N x0 x2 h).bind fun o34 =>
      (kO o34.1 x0 7).bind fun f40 =>
      (fxX7_height N x0 (0 : Int32) o34.1).bind fun o38 =>
      if o34.2 = o38.2 then (
        fxX7_kindOfHeap_67 N n x0 (x2 + (1 : Int32)) o38.1) else (
        some (o38.1, (4 : Int32))))
set_option maxHeartbeats 4000000 in
set_option maxRecDepth 100000 in
theorem exX7_kindOfHeap_67 {N : Nat} : ∀ (n : Nat) (x0 : Nat) (x2 : Int32) (h : mh) {o : (mh × Int32)}, fxX7_kindOfHeap_67 N n x0 x2 h = some o → mB (gO mX7_kindOfHeap (o.1, some (.int o.2))) mX7_kindOfHeap (67, [(0, .ref x0), (2, .int x2)], [], h, 0, 0) := by
  intro n
  induction n with
  | zero => intro x0 x2 h o hq; cases hq
  | succ n ih =>
    intro x0 x2 h o hq
    unfold fxX7_kindOfHeap_67 at hq
    refine mB_run odX7_kindOfHeap 2 (g := (69, [(0, .ref x0), (2, .int x2)], [.ref x0, .int x2], h, 0, 0)) rfl ?_
    obtain ⟨v31, e32, hq⟩ := bsm hq
    refine r_gI odX7_kindOfHeap rfl rfl e32 ?_
    by_cases c33 : v31 ≤ x2
    · rw [if_pos c33] at hq
      refine ic_ge_T (t := 97) odX7_kindOfHeap rfl rfl c33 ?_
      refine mB_run odX7_kindOfHeap 1 (g := (98, [(0, .ref x0), (2, .int x2)], [.int (3 : Int32)], h, 0, 0)) rfl ?_
      cases hq
      exact mB_ret odX7_kindOfHeap rfl
    · rw [if_neg c33] at hq
      refine ic_ge_F (t := 97) odX7_kindOfHeap rfl rfl c33 ?_
      refine mB_run odX7_kindOfHeap 2 (g := (77, [(0, .ref x0), (2, .int x2)], [.int x2, .ref x0], h, 0, 0)) rfl ?_
      obtain ⟨f36, k37, hq⟩ := bsm hq
      obtain ⟨o34, e35, hq⟩ := bsm hq
      refine mB_V (as := [.int x2]) odX7_kindOfHeap okX7_height lk_7_189 rfl (exX7_height e35) (kO_at k37) rfl rfl rfl ?_
      show mB _ mX7_kindOfHeap (80, [(0, .ref x0), (2, .int x2)], [.long o34.2], o34.1, 0, 0)
      refine mB_run odX7_kindOfHeap 2 (g := (82, [(0, .ref x0), (2, .int x2)], [.int (0 : Int32), .ref x0, .long o34.2], o34.1, 0, 0)) rfl ?_
      obtain ⟨f40, k41, hq⟩ := bsm hq
      obtain ⟨o38, e39, hq⟩ := bsm hq
      refine mB_V (as := [.int (0 : Int32)]) odX7_kindOfHeap okX7_height lk_7_189 rfl (exX7_height e39) (kO_at k41) rfl rfl rfl ?_
      show mB _ mX7_kindOfHeap (85, [(0, .ref x0), (2, .int x2)], [.long o38.2, .long o34.2], o38.1, 0, 0)
      by_cases c42 : o34.2 = o38.2
      · rw [if_pos c42] at hq
        refine lc_eq_T (t := 91) odX7_kindOfHeap rfl rfl rfl c42 ?_
        refine mB_run odX7_kindOfHeap 2 (g := (67, [(2, .int (x2 + (1 : Int32))), (0, .ref x0)], [], o38.1, 0, 0)) rfl ?_
        refine mB_lv [1, 0] (lv' := [(0, .ref x0), (2, .int (x2 + (1 : Int32)))]) rfl ?_
        exact ih _ _ _ hq
      · rw [if_neg c42] at hq
        refine lc_eq_F (t := 91) odX7_kindOfHeap rfl rfl rfl c42 ?_
        refine mB_run odX7_kindOfHeap 1 (g := (90, [(0, .ref x0), (2, .int x2)], [.int (4 : Int32)], o38.1, 0, 0)) rfl ?_
        cases hq
        exact mB_ret odX7_kindOfHeap rfl
def fxX7_kindOfHeap_52 (N : Nat) (x0 : Nat) (h : mh) : Option (mh × Int32) :=
  (kO h x0 7).bind fun f24 =>
  (fxX7_isFlat N x0 h).bind fun o22 =>
  if o22.2 = 0 then (
    (kO o22.1 x0 7).bind fun f29 =>
    (fxX7_plain N x0 o22.1).bind fun o27 =>
    fxX7_kindOfHeap_67 N N x0 (0 : Int32) o27) else (
    some (o22.1, (2 : Int32)))
set_option maxHeartbeats 4000000 in
set_option maxRecDepth 100000 in
theorem exX7_kindOfHeap_52 {N : Nat} (x0 : Nat) (h : mh) {o : (mh × Int32)} (hq : fxX7_kindOfHeap_52 N x0 h = some o) : mB (gO mX7_kindOfHeap (o.1, some (.int o.2))) mX7_kindOfHeap (52, [(0, .ref x0)], [], h, 0, 0) := by
  unfold fxX7_kindOfHeap_52 at hq
  refine mB_run odX7_kindOfHeap 1 (g := (53, [(0, .ref x0)], [.ref x0], h, 0, 0)) rfl ?_
  obtain ⟨f24, k25, hq⟩ := bsm hq
  obtain ⟨o22, e23, hq⟩ := bsm hq
  refine mB_V (as := []) odX7_kindOfHeap okX7_isFlat lk_7_182 rfl (exX7_isFlat e23) (kO_at k25) rfl rfl rfl ?_
  show mB _ mX7_kindOfHeap (56, [(0, .ref x0)], [.int o22.2], o22.1, 0, 0)
  by_cases c26 : o22.2 = 0
  · rw [if_pos c26] at hq
    refine if_eq_T (t := 61) odX7_kindOfHeap rfl rfl c26 ?_
    refine mB_run odX7_kindOfHeap 1 (g := (62, [(0, .ref x0)], [.ref x0], o22.1, 0, 0)) rfl ?_
    obtain ⟨f29, k30, hq⟩ := bsm hq
    obtain ⟨o27, e28, hq⟩ := bsm hq
    refine mB_V (as := []) odX7_kindOfHeap okX7_plain lk_7_186 rfl (exX7_plain e28) (kO_at k30) rfl rfl rfl ?_
    show mB _ mX7_kindOfHeap (65, [(0, .ref x0)], [], o27, 0, 0)
    refine mB_run odX7_kindOfHeap 2 (g := (67, [(2, .int (0 : Int32)), (0, .ref x0)], [], o27, 0, 0)) rfl ?_
    refine mB_lv [1, 0] (lv' := [(0, .ref x0), (2, .int (0 : Int32))]) rfl ?_
    exact exX7_kindOfHeap_67 N _ _ _ hq
  · rw [if_neg c26] at hq
    refine if_eq_F (t := 61) odX7_kindOfHeap rfl rfl c26 ?_
    refine mB_run odX7_kindOfHeap 1 (g := (60, [(0, .ref x0)], [.int (2 : Int32)], o22.1, 0, 0)) rfl ?_
    cases hq
    exact mB_ret odX7_kindOfHeap rfl
def fxX7_kindOfHeap_22 (N : Nat) : Nat → Nat → Int32 → mh → Option (mh × Int32)
  | 0, _, _, _ => none
  | n + 1, x0, x1, h =>
    (kO h x0 7).bind fun f12 =>
    (fxX7_isFlat N x0 h).bind fun o10 =>
    if o10.2 = 0 then (
      fxX7_kindOfHeap_52 N x0 o10.1) else (
      (gI o10.1 x0 7 15).bind fun v15 =>
      if v15 ≤ (x1 + (1 : Int32)) then (
        fxX7_kindOfHeap_52 N x0 o10.1) else (
        (kO o10.1 x0 7).bind fun f20 =>
        (fxX7_across N x0 (0 : Int32) (1 : Int32) (x1 + (1 : Int32)) o10.1).bind fun o18 =>
        fxX7_kindOfHeap_22 N n x0 (x1 + (1 : Int32)) o18))
set_option maxHeartbeats 4000000 in
set_option maxRecDepth 100000 in
theorem exX7_kindOfHeap_22 {N : Nat} : ∀ (n : Nat) (x0 : Nat) (x1 : Int32) (h : mh) {o : (mh × Int32)}, fxX7_kindOfHeap_22 N n x0 x1 h = some o → mB (gO mX7_kindOfHeap (o.1, some (.int o.2))) mX7_kindOfHeap (22, [(0, .ref x0), (1, .int x1)], [], h, 0, 0) := by
  intro n
  induction n with
  | zero => intro x0 x1 h o hq; cases hq
  | succ n ih =>
    intro x0 x1 h o hq
    unfold fxX7_kindOfHeap_22 at hq
    refine mB_run odX7_kindOfHeap 1 (g := (23, [(0, .ref x0), (1, .int x1)], [.ref x0], h, 0, 0)) rfl ?_
    obtain ⟨f12, k13, hq⟩ := bsm hq
    obtain ⟨o10, e11, hq⟩ := bsm hq
    refine mB_V (as := []) odX7_kindOfHeap okX7_isFlat lk_7_182 rfl (exX7_isFlat e11) (kO_at k13) rfl rfl rfl ?_
    show mB _ mX7_kindOfHeap (26, [(0, .ref x0), (1, .int x1)], [.int o10.2], o10.1, 0, 0)
    by_cases c14 : o10.2 = 0
    · rw [if_pos c14] at hq
      refine if_eq_T (t := 52) odX7_kindOfHeap rfl rfl c14 ?_
      refine mB_lv [0] (lv' := [(0, .ref x0)]) rfl ?_
      exact exX7_kindOfHeap_52 _ _ hq
    · rw [if_neg c14] at hq
      refine if_eq_F (t := 52) odX7_kindOfHeap rfl rfl c14 ?_
      refine mB_run odX7_kindOfHeap 4 (g := (33, [(0, .ref x0), (1, .int x1)], [.ref x0, .int (x1 + (1 : Int32))], o10.1, 0, 0)) rfl ?_
      obtain ⟨v15, e16, hq⟩ := bsm hq
      refine r_gI odX7_kindOfHeap rfl rfl e16 ?_
      by_cases c17 : v15 ≤ (x1 + (1 : Int32))
      · rw [if_pos c17] at hq
        refine ic_ge_T (t := 52) odX7_kindOfHeap rfl rfl c17 ?_
        refine mB_lv [0] (lv' := [(0, .ref x0)]) rfl ?_
        exact exX7_kindOfHeap_52 _ _ hq
      · rw [if_neg c17] at hq
        refine ic_ge_F (t := 52) odX7_kindOfHeap rfl rfl c17 ?_
        refine mB_run odX7_kindOfHeap 5 (g := (46, [(1, .int (x1 + (1 : Int32))), (0, .ref x0)], [.int (x1 + (1 : Int32)), .int (1 : Int32), .int (0 : Int32), .ref x0], o10.1, 0, 0)) rfl ?_
        obtain ⟨f20, k21, hq⟩ := bsm hq
        obtain ⟨o18, e19, hq⟩ := bsm hq
        refine mB_V (as := [.int (0 : Int32), .int (1 : Int32), .int (x1 + (1 : Int32))]) odX7_kindOfHeap okX7_across lk_7_178 rfl (exX7_across e19) (kO_at k21) rfl rfl rfl ?_
        show mB _ mX7_kindOfHeap (49, [(1, .int (x1 + (1 : Int32))), (0, .ref x0)], [], o18, 0, 0)
        refine mB_run odX7_kindOfHeap 1 (g := (22, [(1, .int (x1 + (1 : Int32))), (0, .ref x0)], [], o18, 0, 0)) rfl ?_
        refine mB_lv [1, 0] (lv' := [(0, .ref x0), (1, .int (x1 + (1 : Int32)))]) rfl ?_
        exact ih _ _ _ hq
def fxX7_kindOfHeap (N : Nat) (p0 : Nat) (h : mh) : Option (mh × Int32) :=
  (gI h p0 7 15).bind fun v1 =>
  if (3 : Int32) ≤ v1 then (
    (kO h p0 7).bind fun f6 =>
    (fxX7_across N p0 (0 : Int32) (1 : Int32) (2 : Int32) h).bind fun o4 =>
    fxX7_kindOfHeap_22 N N p0 (2 : Int32) o4) else (
    (gI h p0 7 15).bind fun v8 =>
    some (h, v8))
set_option maxHeartbeats 4000000 in
set_option maxRecDepth 100000 in
theorem exX7_kindOfHeap {N : Nat} {p0 : Nat} {h : mh} {o : (mh × Int32)} (hq : fxX7_kindOfHeap N p0 h = some o) : mC mX7_kindOfHeap [.ref p0] h (o.1, some (.int o.2)) := by
  refine mC_of okX7_kindOfHeap (Nat.le_of_ble_eq_true rfl) ?_
  unfold fxX7_kindOfHeap at hq
  show mB _ mX7_kindOfHeap (0, [(0, .ref p0)], [], h, 0, 0)
  refine mB_run odX7_kindOfHeap 1 (g := (1, [(0, .ref p0)], [.ref p0], h, 0, 0)) rfl ?_
  obtain ⟨v1, e2, hq⟩ := bsm hq
  refine r_gI odX7_kindOfHeap rfl rfl e2 ?_
  refine mB_run odX7_kindOfHeap 1 (g := (5, [(0, .ref p0)], [.int (3 : Int32), .int v1], h, 0, 0)) rfl ?_
  by_cases c3 : (3 : Int32) ≤ v1
  · rw [if_pos c3] at hq
    refine ic_ge_T (t := 13) odX7_kindOfHeap rfl rfl c3 ?_
    refine mB_run odX7_kindOfHeap 6 (g := (19, [(1, .int (2 : Int32)), (0, .ref p0)], [.int (2 : Int32), .int (1 : Int32), .int (0 : Int32), .ref p0], h, 0, 0)) rfl ?_
    obtain ⟨f6, k7, hq⟩ := bsm hq
    obtain ⟨o4, e5, hq⟩ := bsm hq
    refine mB_V (as := [.int (0 : Int32), .int (1 : Int32), .int (2 : Int32)]) odX7_kindOfHeap okX7_across lk_7_178 rfl (exX7_across e5) (kO_at k7) rfl rfl rfl ?_
    show mB _ mX7_kindOfHeap (22, [(1, .int (2 : Int32)), (0, .ref p0)], [], o4, 0, 0)
    refine mB_lv [1, 0] (lv' := [(0, .ref p0), (1, .int (2 : Int32))]) rfl ?_
    exact exX7_kindOfHeap_22 N _ _ _ hq
  · rw [if_neg c3] at hq
    refine ic_ge_F (t := 13) odX7_kindOfHeap rfl rfl c3 ?_
    refine mB_run odX7_kindOfHeap 1 (g := (9, [(0, .ref p0)], [.ref p0], h, 0, 0)) rfl ?_
    obtain ⟨v8, e9, hq⟩ := bsm hq
    refine r_gI odX7_kindOfHeap rfl rfl e9 ?_
    cases hq
    exact mB_ret odX7_kindOfHeap rfl
def fxX7_isKnown_81 (N : Nat) (rec6 : Nat → Int32 → Int64 → Int32 → mh → Option (mh × Int32)) (x0 : Nat) (x1 : Int32) (x2 : Int64) (x4 : Int32) (h : mh) : Option (mh × Int32) :=
  rec6 x0 x1 x2 (x4 + (1 : Int32)) h
set_option maxHeartbeats 4000000 in
set_option maxRecDepth 100000 in
theorem exX7_isKnown_81 {N : Nat} {rec6 : Nat → Int32 → Int64 → Int32 → mh → Option (mh × Int32)} (hrec6 : ∀ (x0 : Nat) (x1 : Int32) (x2 : Int64) (x4 : Int32) (h : mh) {o : (mh × Int32)}, rec6 x0 x1 x2 x4 h = some o → mB (gO mX7_isKnown (o.1, some (.int o.2))) mX7_isKnown (6, [(0, .ref x0), (1, .int x1), (2, .long x2), (4, .int x4)], [], h, 0, 0)) (x0 : Nat) (x1 : Int32) (x2 : Int64) (x4 : Int32) (h : mh) {o : (mh × Int32)} (hq : fxX7_isKnown_81 N rec6 x0 x1 x2 x4 h = some o) : mB (gO mX7_isKnown (o.1, some (.int o.2))) mX7_isKnown (81, [(0, .ref x0), (1, .int x1), (2, .long x2), (4, .int x4)], [], h, 0, 0) := by
  unfold fxX7_isKnown_81 at hq
  refine mB_run odX7_isKnown 2 (g := (6, [(4, .int (x4 + (1 : Int32))), (0, .ref x0), (1, .int x1), (2, .long x2)], [], h, 0, 0)) rfl ?_
  refine mB_lv [1, 2, 3, 0] (lv' := [(0, .ref x0), (1, .int x1), (2, .long x2), (4, .int (x4 + (1 : Int32)))]) rfl ?_
  exact hrec6 _ _ _ _ _ hq
def fxX7_isKnown_6 (N : Nat) : Nat → Nat → Int32 → Int64 → Int32 → mh → Option (mh × Int32)
  | 0, _, _, _, _, _ => none
  | n + 1, x0, x1, x2, x4, h =>
    (gR h x0 7 27).bind fun v1 =>
    (aI h v1 x1).bind fun v3 =>
    if (((64 : Int32) * x1) + v3) ≤ x4 then (
      some (h, (0 : Int32))) else (
      (gR h x0 7 28).bind fun v6 =>
      (aJ h v6 x4).bind fun v8 =>
      (gJ h x0 7 24).bind fun v10 =>
      if v8 = v10 then (
        (gR h x0 7 29).bind fun v13 =>
        (aJ h v13 x4).bind fun v15 =>
        (gJ h x0 7 25).bind fun v17 =>
        if v15 = v17 then (
          (gR h x0 7 30).bind fun v20 =>
          (aJ h v20 x4).bind fun v22 =>
          (gJ h x0 7 26).bind fun v24 =>
          if v22 = v24 then (
            (gR h x0 7 31).bind fun v27 =>
            (aJ h v27 x4).bind fun v29 =>
            if v29 = x2 then (
              some (h, (1 : Int32))) else (
              fxX7_isKnown_81 N (fxX7_isKnown_6 N n) x0 x1 x2 x4 h)) else (
            fxX7_isKnown_81 N (fxX7_isKnown_6 N n) x0 x1 x2 x4 h)) else (
          fxX7_isKnown_81 N (fxX7_isKnown_6 N n) x0 x1 x2 x4 h)) else (
        fxX7_isKnown_81 N (fxX7_isKnown_6 N n) x0 x1 x2 x4 h))
set_option maxHeartbeats 4000000 in
set_option maxRecDepth 100000 in
theorem exX7_isKnown_6 {N : Nat} : ∀ (n : Nat) (x0 : Nat) (x1 : Int32) (x2 : Int64) (x4 : Int32) (h : mh) {o : (mh × Int32)}, fxX7_isKnown_6 N n x0 x1 x2 x4 h = some o → mB (gO mX7_isKnown (o.1, some (.int o.2))) mX7_isKnown (6, [(0, .ref x0), (1, .int x1), (2, .long x2), (4, .int x4)], [], h, 0, 0) := by
  intro n
  induction n with
  | zero => intro x0 x1 x2 x4 h o hq; cases hq
  | succ n ih =>
    intro x0 x1 x2 x4 h o hq
    unfold fxX7_isKnown_6 at hq
    refine mB_run odX7_isKnown 5 (g := (13, [(0, .ref x0), (1, .int x1), (2, .long x2), (4, .int x4)], [.ref x0, .int ((64 : Int32) * x1), .int x4], h, 0, 0)) rfl ?_
    obtain ⟨v1, e2, hq⟩ := bsm hq
    refine r_gR odX7_isKnown rfl rfl e2 ?_
    refine mB_run odX7_isKnown 1 (g := (17, [(0, .ref x0), (1, .int x1), (2, .long x2), (4, .int x4)], [.int x1, .ref v1, .int ((64 : Int32) * x1), .int x4], h, 0, 0)) rfl ?_
    obtain ⟨v3, e4, hq⟩ := bsm hq
    refine r_aI odX7_isKnown rfl e4 ?_
    refine mB_run odX7_isKnown 1 (g := (19, [(0, .ref x0), (1, .int x1), (2, .long x2), (4, .int x4)], [.int (((64 : Int32) * x1) + v3), .int x4], h, 0, 0)) rfl ?_
    by_cases c5 : (((64 : Int32) * x1) + v3) ≤ x4
    · rw [if_pos c5] at hq
      refine ic_ge_T (t := 87) odX7_isKnown rfl rfl c5 ?_
      refine mB_run odX7_isKnown 1 (g := (88, [(0, .ref x0), (1, .int x1), (2, .long x2), (4, .int x4)], [.int (0 : Int32)], h, 0, 0)) rfl ?_
      cases hq
      exact mB_ret odX7_isKnown rfl
    · rw [if_neg c5] at hq
      refine ic_ge_F (t := 87) odX7_isKnown rfl rfl c5 ?_
      refine mB_run odX7_isKnown 1 (g := (23, [(0, .ref x0), (1, .int x1), (2, .long x2), (4, .int x4)], [.ref x0], h, 0, 0)) rfl ?_
      obtain ⟨v6, e7, hq⟩ := bsm hq
      refine r_gR odX7_isKnown rfl rfl e7 ?_
      refine mB_run odX7_isKnown 1 (g := (28, [(0, .ref x0), (1, .int x1), (2, .long x2), (4, .int x4)], [.int x4, .ref v6], h, 0, 0)) rfl ?_
      obtain ⟨v8, e9, hq⟩ := bsm hq
      refine r_aJ odX7_isKnown rfl e9 ?_
      refine mB_run odX7_isKnown 1 (g := (30, [(0, .ref x0), (1, .int x1), (2, .long x2), (4, .int x4)], [.ref x0, .long v8], h, 0, 0)) rfl ?_
      obtain ⟨v10, e11, hq⟩ := bsm hq
      refine r_gJ odX7_isKnown rfl rfl e11 ?_
      by_cases c12 : v8 = v10
      · rw [if_pos c12] at hq
        refine lc_ne_F (t := 81) odX7_isKnown rfl rfl rfl c12 ?_
        refine mB_run odX7_isKnown 1 (g := (38, [(0, .ref x0), (1, .int x1), (2, .long x2), (4, .int x4)], [.ref x0], h, 0, 0)) rfl ?_
        obtain ⟨v13, e14, hq⟩ := bsm hq
        refine r_gR odX7_isKnown rfl rfl e14 ?_
        refine mB_run odX7_isKnown 1 (g := (43, [(0, .ref x0), (1, .int x1), (2, .long x2), (4, .int x4)], [.int x4, .ref v13], h, 0, 0)) rfl ?_
        obtain ⟨v15, e16, hq⟩ := bsm hq
        refine r_aJ odX7_isKnown rfl e16 ?_
        refine mB_run odX7_isKnown 1 (g := (45, [(0, .ref x0), (1, .int x1), (2, .long x2), (4, .int x4)], [.ref x0, .long v15], h, 0, 0)) rfl ?_
        obtain ⟨v17, e18, hq⟩ := bsm hq
        refine r_gJ odX7_isKnown rfl rfl e18 ?_
        by_cases c19 : v15 = v17
        · rw [if_pos c19] at hq
          refine lc_ne_F (t := 81) odX7_isKnown rfl rfl rfl c19 ?_
          refine mB_run odX7_isKnown 1 (g := (53, [(0, .ref x0), (1, .int x1), (2, .long x2), (4, .int x4)], [.ref x0], h, 0, 0)) rfl ?_
          obtain ⟨v20, e21, hq⟩ := bsm hq
          refine r_gR odX7_isKnown rfl rfl e21 ?_
          refine mB_run odX7_isKnown 1 (g := (58, [(0, .ref x0), (1, .int x1), (2, .long x2), (4, .int x4)], [.int x4, .ref v20], h, 0, 0)) rfl ?_
          obtain ⟨v22, e23, hq⟩ := bsm hq
          refine r_aJ odX7_isKnown rfl e23 ?_
          refine mB_run odX7_isKnown 1 (g := (60, [(0, .ref x0), (1, .int x1), (2, .long x2), (4, .int x4)], [.ref x0, .long v22], h, 0, 0)) rfl ?_
          obtain ⟨v24, e25, hq⟩ := bsm hq
          refine r_gJ odX7_isKnown rfl rfl e25 ?_
          by_cases c26 : v22 = v24
          · rw [if_pos c26] at hq
            refine lc_ne_F (t := 81) odX7_isKnown rfl rfl rfl c26 ?_
            refine mB_run odX7_isKnown 1 (g := (68, [(0, .ref x0), (1, .int x1), (2, .long x2), (4, .int x4)], [.ref x0], h, 0, 0)) rfl ?_
            obtain ⟨v27, e28, hq⟩ := bsm hq
            refine r_gR odX7_isKnown rfl rfl e28 ?_
            refine mB_run odX7_isKnown 1 (g := (73, [(0, .ref x0), (1, .int x1), (2, .long x2), (4, .int x4)], [.int x4, .ref v27], h, 0, 0)) rfl ?_
            obtain ⟨v29, e30, hq⟩ := bsm hq
            refine r_aJ odX7_isKnown rfl e30 ?_
            refine mB_run odX7_isKnown 1 (g := (75, [(0, .ref x0), (1, .int x1), (2, .long x2), (4, .int x4)], [.long x2, .long v29], h, 0, 0)) rfl ?_
            by_cases c31 : v29 = x2
            · rw [if_pos c31] at hq
              refine lc_ne_F (t := 81) odX7_isKnown rfl rfl rfl c31 ?_
              refine mB_run odX7_isKnown 1 (g := (80, [(0, .ref x0), (1, .int x1), (2, .long x2), (4, .int x4)], [.int (1 : Int32)], h, 0, 0)) rfl ?_
              cases hq
              exact mB_ret odX7_isKnown rfl
            · rw [if_neg c31] at hq
              refine lc_ne_T (t := 81) odX7_isKnown rfl rfl rfl c31 ?_
              refine mB_lv [0, 1, 2, 3] (lv' := [(0, .ref x0), (1, .int x1), (2, .long x2), (4, .int x4)]) rfl ?_
              exact exX7_isKnown_81 ih _ _ _ _ _ hq
          · rw [if_neg c26] at hq
            refine lc_ne_T (t := 81) odX7_isKnown rfl rfl rfl c26 ?_
            refine mB_lv [0, 1, 2, 3] (lv' := [(0, .ref x0), (1, .int x1), (2, .long x2), (4, .int x4)]) rfl ?_
            exact exX7_isKnown_81 ih _ _ _ _ _ hq
        · rw [if_neg c19] at hq
          refine lc_ne_T (t := 81) odX7_isKnown rfl rfl rfl c19 ?_
          refine mB_lv [0, 1, 2, 3] (lv' := [(0, .ref x0), (1, .int x1), (2, .long x2), (4, .int x4)]) rfl ?_
          exact exX7_isKnown_81 ih _ _ _ _ _ hq
      · rw [if_neg c12] at hq
        refine lc_ne_T (t := 81) odX7_isKnown rfl rfl rfl c12 ?_
        refine mB_lv [0, 1, 2, 3] (lv' := [(0, .ref x0), (1, .int x1), (2, .long x2), (4, .int x4)]) rfl ?_
        exact exX7_isKnown_81 ih _ _ _ _ _ hq
def fxX7_isKnown (N : Nat) (p0 : Nat) (p1 : Int32) (p2 : Int64) (h : mh) : Option (mh × Int32) :=
  fxX7_isKnown_6 N N p0 p1 p2 ((64 : Int32) * p1) h
set_option maxHeartbeats 4000000 in
set_option maxRecDepth 100000 in
theorem exX7_isKnown {N : Nat} {p0 : Nat} {p1 : Int32} {p2 : Int64} {h : mh} {o : (mh × Int32)} (hq : fxX7_isKnown N p0 p1 p2 h = some o) : mC mX7_isKnown [.ref p0, .int p1, .long p2] h (o.1, some (.int o.2)) := by
  refine mC_of okX7_isKnown (Nat.le_of_ble_eq_true rfl) ?_
  unfold fxX7_isKnown at hq
  show mB _ mX7_isKnown (0, [(0, .ref p0), (1, .int p1), (2, .long p2)], [], h, 0, 0)
  refine mB_run odX7_isKnown 4 (g := (6, [(4, .int ((64 : Int32) * p1)), (0, .ref p0), (1, .int p1), (2, .long p2)], [], h, 0, 0)) rfl ?_
  refine mB_lv [1, 2, 3, 0] (lv' := [(0, .ref p0), (1, .int p1), (2, .long p2), (4, .int ((64 : Int32) * p1))]) rfl ?_
  exact exX7_isKnown_6 N _ _ _ _ _ hq
def fxX7_isAhead (N : Nat) (p0 : Nat) (p1 : Int32) (p2 : Int64) (h : mh) : Option (mh × Int32) :=
  (gR h p0 7 28).bind fun v1 =>
  (aJ h v1 p1).bind fun v3 =>
  (gJ h p0 7 24).bind fun v5 =>
  if v3 = v5 then (
    (gR h p0 7 29).bind fun v8 =>
    (aJ h v8 p1).bind fun v10 =>
    (gJ h p0 7 25).bind fun v12 =>
    if v10 = v12 then (
      (gR h p0 7 30).bind fun v15 =>
      (aJ h v15 p1).bind fun v17 =>
      (gJ h p0 7 26).bind fun v19 =>
      if v17 = v19 then (
        (gR h p0 7 31).bind fun v22 =>
        (aJ h v22 p1).bind fun v24 =>
        if p2 ≤ v24 then (
          some (h, (0 : Int32))) else (
          some (h, (1 : Int32)))) else (
        (gR h p0 7 30).bind fun v27 =>
        (aJ h v27 p1).bind fun v29 =>
        (gJ h p0 7 26).bind fun v31 =>
        if v31 ≤ v29 then (
          some (h, (0 : Int32))) else (
          some (h, (1 : Int32))))) else (
      (gR h p0 7 29).bind fun v34 =>
      (aJ h v34 p1).bind fun v36 =>
      (gJ h p0 7 25).bind fun v38 =>
      if v38 ≤ v36 then (
        some (h, (0 : Int32))) else (
        some (h, (1 : Int32))))) else (
    (gR h p0 7 28).bind fun v41 =>
    (aJ h v41 p1).bind fun v43 =>
    (gJ h p0 7 24).bind fun v45 =>
    if v45 ≤ v43 then (
      some (h, (0 : Int32))) else (
      some (h, (1 : Int32))))
set_option maxHeartbeats 4000000 in
set_option maxRecDepth 100000 in
theorem exX7_isAhead {N : Nat} {p0 : Nat} {p1 : Int32} {p2 : Int64} {h : mh} {o : (mh × Int32)} (hq : fxX7_isAhead N p0 p1 p2 h = some o) : mC mX7_isAhead [.ref p0, .int p1, .long p2] h (o.1, some (.int o.2)) := by
  refine mC_of okX7_isAhead (Nat.le_of_ble_eq_true rfl) ?_
  unfold fxX7_isAhead at hq
  show mB _ mX7_isAhead (0, [(0, .ref p0), (1, .int p1), (2, .long p2)], [], h, 0, 0)
  refine mB_run odX7_isAhead 1 (g := (1, [(0, .ref p0), (1, .int p1), (2, .long p2)], [.ref p0], h, 0, 0)) rfl ?_
  obtain ⟨v1, e2, hq⟩ := bsm hq
  refine r_gR odX7_isAhead rfl rfl e2 ?_
  refine mB_run odX7_isAhead 1 (g := (5, [(0, .ref p0), (1, .int p1), (2, .long p2)], [.int p1, .ref v1], h, 0, 0)) rfl ?_
  obtain ⟨v3, e4, hq⟩ := bsm hq
  refine r_aJ odX7_isAhead rfl e4 ?_
  refine mB_run odX7_isAhead 1 (g := (7, [(0, .ref p0), (1, .int p1), (2, .long p2)], [.ref p0, .long v3], h, 0, 0)) rfl ?_
  obtain ⟨v5, e6, hq⟩ := bsm hq
  refine r_gJ odX7_isAhead rfl rfl e6 ?_
  by_cases c7 : v3 = v5
  · rw [if_pos c7] at hq
    refine lc_eq_T (t := 34) odX7_isAhead rfl rfl rfl c7 ?_
    refine mB_run odX7_isAhead 1 (g := (35, [(0, .ref p0), (1, .int p1), (2, .long p2)], [.ref p0], h, 0, 0)) rfl ?_
    obtain ⟨v8, e9, hq⟩ := bsm hq
    refine r_gR odX7_isAhead rfl rfl e9 ?_
    refine mB_run odX7_isAhead 1 (g := (39, [(0, .ref p0), (1, .int p1), (2, .long p2)], [.int p1, .ref v8], h, 0, 0)) rfl ?_
    obtain ⟨v10, e11, hq⟩ := bsm hq
    refine r_aJ odX7_isAhead rfl e11 ?_
    refine mB_run odX7_isAhead 1 (g := (41, [(0, .ref p0), (1, .int p1), (2, .long p2)], [.ref p0, .long v10], h, 0, 0)) rfl ?_
    obtain ⟨v12, e13, hq⟩ := bsm hq
    refine r_gJ odX7_isAhead rfl rfl e13 ?_
    by_cases c14 : v10 = v12
    · rw [if_pos c14] at hq
      refine lc_eq_T (t := 68) odX7_isAhead rfl rfl rfl c14 ?_
      refine mB_run odX7_isAhead 1 (g := (69, [(0, .ref p0), (1, .int p1), (2, .long p2)], [.ref p0], h, 0, 0)) rfl ?_
      obtain ⟨v15, e16, hq⟩ := bsm hq
      refine r_gR odX7_isAhead rfl rfl e16 ?_
      refine mB_run odX7_isAhead 1 (g := (73, [(0, .ref p0), (1, .int p1), (2, .long p2)], [.int p1, .ref v15], h, 0, 0)) rfl ?_
      obtain ⟨v17, e18, hq⟩ := bsm hq
      refine r_aJ odX7_isAhead rfl e18 ?_
      refine mB_run odX7_isAhead 1 (g := (75, [(0, .ref p0), (1, .int p1), (2, .long p2)], [.ref p0, .long v17], h, 0, 0)) rfl ?_
      obtain ⟨v19, e20, hq⟩ := bsm hq
      refine r_gJ odX7_isAhead rfl rfl e20 ?_
      by_cases c21 : v17 = v19
      · rw [if_pos c21] at hq
        refine lc_eq_T (t := 102) odX7_isAhead rfl rfl rfl c21 ?_
        refine mB_run odX7_isAhead 1 (g := (103, [(0, .ref p0), (1, .int p1), (2, .long p2)], [.ref p0], h, 0, 0)) rfl ?_
        obtain ⟨v22, e23, hq⟩ := bsm hq
        refine r_gR odX7_isAhead rfl rfl e23 ?_
        refine mB_run odX7_isAhead 1 (g := (107, [(0, .ref p0), (1, .int p1), (2, .long p2)], [.int p1, .ref v22], h, 0, 0)) rfl ?_
        obtain ⟨v24, e25, hq⟩ := bsm hq
        refine r_aJ odX7_isAhead rfl e25 ?_
        refine mB_run odX7_isAhead 1 (g := (109, [(0, .ref p0), (1, .int p1), (2, .long p2)], [.long p2, .long v24], h, 0, 0)) rfl ?_
        by_cases c26 : p2 ≤ v24
        · rw [if_pos c26] at hq
          refine lc_ge_T (t := 117) odX7_isAhead rfl rfl rfl c26 ?_
          refine mB_run odX7_isAhead 1 (g := (118, [(0, .ref p0), (1, .int p1), (2, .long p2)], [.int (0 : Int32)], h, 0, 0)) rfl ?_
          cases hq
          exact mB_ret odX7_isAhead rfl
        · rw [if_neg c26] at hq
          refine lc_ge_F (t := 117) odX7_isAhead rfl rfl rfl c26 ?_
          refine mB_run odX7_isAhead 2 (g := (118, [(0, .ref p0), (1, .int p1), (2, .long p2)], [.int (1 : Int32)], h, 0, 0)) rfl ?_
          cases hq
          exact mB_ret odX7_isAhead rfl
      · rw [if_neg c21] at hq
        refine lc_eq_F (t := 102) odX7_isAhead rfl rfl rfl c21 ?_
        refine mB_run odX7_isAhead 1 (g := (83, [(0, .ref p0), (1, .int p1), (2, .long p2)], [.ref p0], h, 0, 0)) rfl ?_
        obtain ⟨v27, e28, hq⟩ := bsm hq
        refine r_gR odX7_isAhead rfl rfl e28 ?_
        refine mB_run odX7_isAhead 1 (g := (87, [(0, .ref p0), (1, .int p1), (2, .long p2)], [.int p1, .ref v27], h, 0, 0)) rfl ?_
        obtain ⟨v29, e30, hq⟩ := bsm hq
        refine r_aJ odX7_isAhead rfl e30 ?_
        refine mB_run odX7_isAhead 1 (g := (89, [(0, .ref p0), (1, .int p1), (2, .long p2)], [.ref p0, .long v29], h, 0, 0)) rfl ?_
        obtain ⟨v31, e32, hq⟩ := bsm hq
        refine r_gJ odX7_isAhead rfl rfl e32 ?_
        by_cases c33 : v31 ≤ v29
        · rw [if_pos c33] at hq
          refine lc_ge_T (t := 100) odX7_isAhead rfl rfl rfl c33 ?_
          refine mB_run odX7_isAhead 1 (g := (101, [(0, .ref p0), (1, .int p1), (2, .long p2)], [.int (0 : Int32)], h, 0, 0)) rfl ?_
          cases hq
          exact mB_ret odX7_isAhead rfl
        · rw [if_neg c33] at hq
          refine lc_ge_F (t := 100) odX7_isAhead rfl rfl rfl c33 ?_
          refine mB_run odX7_isAhead 2 (g := (101, [(0, .ref p0), (1, .int p1), (2, .long p2)], [.int (1 : Int32)], h, 0, 0)) rfl ?_
          cases hq
          exact mB_ret odX7_isAhead rfl
    · rw [if_neg c14] at hq
      refine lc_eq_F (t := 68) odX7_isAhead rfl rfl rfl c14 ?_
      refine mB_run odX7_isAhead 1 (g := (49, [(0, .ref p0), (1, .int p1), (2, .long p2)], [.ref p0], h, 0, 0)) rfl ?_
      obtain ⟨v34, e35, hq⟩ := bsm hq
      refine r_gR odX7_isAhead rfl rfl e35 ?_
      refine mB_run odX7_isAhead 1 (g := (53, [(0, .ref p0), (1, .int p1), (2, .long p2)], [.int p1, .ref v34], h, 0, 0)) rfl ?_
      obtain ⟨v36, e37, hq⟩ := bsm hq
      refine r_aJ odX7_isAhead rfl e37 ?_
      refine mB_run odX7_isAhead 1 (g := (55, [(0, .ref p0), (1, .int p1), (2, .long p2)], [.ref p0, .long v36], h, 0, 0)) rfl ?_
      obtain ⟨v38, e39, hq⟩ := bsm hq
      refine r_gJ odX7_isAhead rfl rfl e39 ?_
      by_cases c40 : v38 ≤ v36
      · rw [if_pos c40] at hq
        refine lc_ge_T (t := 66) odX7_isAhead rfl rfl rfl c40 ?_
        refine mB_run odX7_isAhead 1 (g := (67, [(0, .ref p0), (1, .int p1), (2, .long p2)], [.int (0 : Int32)], h, 0, 0)) rfl ?_
        cases hq
        exact mB_ret odX7_isAhead rfl
      · rw [if_neg c40] at hq
        refine lc_ge_F (t := 66) odX7_isAhead rfl rfl rfl c40 ?_
        refine mB_run odX7_isAhead 2 (g := (67, [(0, .ref p0), (1, .int p1), (2, .long p2)], [.int (1 : Int32)], h, 0, 0)) rfl ?_
        cases hq
        exact mB_ret odX7_isAhead rfl
  · rw [if_neg c7] at hq
    refine lc_eq_F (t := 34) odX7_isAhead rfl rfl rfl c7 ?_
    refine mB_run odX7_isAhead 1 (g := (15, [(0, .ref p0), (1, .int p1), (2, .long p2)], [.ref p0], h, 0, 0)) rfl ?_
    obtain ⟨v41, e42, hq⟩ := bsm hq
    refine r_gR odX7_isAhead rfl rfl e42 ?_
    refine mB_run odX7_isAhead 1 (g := (19, [(0, .ref p0), (1, .int p1), (2, .long p2)], [.int p1, .ref v41], h, 0, 0)) rfl ?_
    obtain ⟨v43, e44, hq⟩ := bsm hq
    refine r_aJ odX7_isAhead rfl e44 ?_
    refine mB_run odX7_isAhead 1 (g := (21, [(0, .ref p0), (1, .int p1), (2, .long p2)], [.ref p0, .long v43], h, 0, 0)) rfl ?_
    obtain ⟨v45, e46, hq⟩ := bsm hq
    refine r_gJ odX7_isAhead rfl rfl e46 ?_
    by_cases c47 : v45 ≤ v43
    · rw [if_pos c47] at hq
      refine lc_ge_T (t := 32) odX7_isAhead rfl rfl rfl c47 ?_
      refine mB_run odX7_isAhead 1 (g := (33, [(0, .ref p0), (1, .int p1), (2, .long p2)], [.int (0 : Int32)], h, 0, 0)) rfl ?_
      cases hq
      exact mB_ret odX7_isAhead rfl
    · rw [if_neg c47] at hq
      refine lc_ge_F (t := 32) odX7_isAhead rfl rfl rfl c47 ?_
      refine mB_run odX7_isAhead 2 (g := (33, [(0, .ref p0), (1, .int p1), (2, .long p2)], [.int (1 : Int32)], h, 0, 0)) rfl ?_
      cases hq
      exact mB_ret odX7_isAhead rfl
def fxX7_faceHere_141 (N : Nat) (rec51 : Nat → Int32 → Int64 → Int32 → Int32 → mh → Option mh) : Nat → Nat → Int32 → Int64 → Int32 → Int32 → Int32 → mh → Option mh
  | 0, _, _, _, _, _, _, _ => none
  | n + 1, x0, x1, x2, x4, x5, x6, h =>
    if (25 : Int32) ≤ x6 then (
      rec51 x0 x1 x2 x4 (x5 + (-1 : Int32)) h) else (
      (gR h x0 7 33).bind fun v85 =>
      (gR h x0 7 33).bind fun v87 =>
      (aI h v87 ((((25 : Int32) * x5) - (25 : Int32)) + x6)).bind fun v89 =>
      (wI h v85 (((25 : Int32) * x5) + x6) v89).bind fun h91 =>
      fxX7_faceHere_141 N rec51 n x0 x1 x2 x4 x5 (x6 + (1 : Int32)) h91)
set_option maxHeartbeats 4000000 in
set_option maxRecDepth 100000 in
theorem exX7_faceHere_141 {N : Nat} {rec51 : Nat → Int32 → Int64 → Int32 → Int32 → mh → Option mh} (hrec51 : ∀ (x0 : Nat) (x1 : Int32) (x2 : Int64) (x4 : Int32) (x5 : Int32) (h : mh) {o : mh}, rec51 x0 x1 x2 x4 x5 h = some o → mB (gO mX7_faceHere (o, none)) mX7_faceHere (51, [(0, .ref x0), (1, .int x1), (2, .long x2), (4, .int x4), (5, .int x5)], [], h, 0, 0)) : ∀ (n : Nat) (x0 : Nat) (x1 : Int32) (x2 : Int64) (x4 : Int32) (x5 : Int32) (x6 : Int32) (h : mh) {o : mh}, fxX7_faceHere_141 N rec51 n x0 x1 x2 x4 x5 x6 h = some o → mB (gO mX7_faceHere (o, none)) mX7_faceHere (141, [(0, .ref x0), (1, .int x1), (2, .long x2), (4, .int x4), (5, .int x5), (6, .int x6)], [], h, 0, 0) := by
  intro n
  induction n with
  | zero => intro x0 x1 x2 x4 x5 x6 h o hq; cases hq
  | succ n ih =>
    intro x0 x1 x2 x4 x5 x6 h o hq
    unfold fxX7_faceHere_141 at hq
    refine mB_run odX7_faceHere 2 (g := (145, [(0, .ref x0), (1, .int x1), (2, .long x2), (4, .int x4), (5, .int x5), (6, .int x6)], [.int (25 : Int32), .int x6], h, 0, 0)) rfl ?_
    by_cases c84 : (25 : Int32) ≤ x6
    · rw [if_pos c84] at hq
      refine ic_ge_T (t := 183) odX7_faceHere rfl rfl c84 ?_
      refine mB_run odX7_faceHere 2 (g := (51, [(5, .int (x5 + (-1 : Int32))), (0, .ref x0), (1, .int x1), (2, .long x2), (4, .int x4), (6, .int x6)], [], h, 0, 0)) rfl ?_
      refine mB_lv [1, 2, 3, 4, 0] (lv' := [(0, .ref x0), (1, .int x1), (2, .long x2), (4, .int x4), (5, .int (x5 + (-1 : Int32)))]) rfl ?_
      exact hrec51 _ _ _ _ _ _ hq
    · rw [if_neg c84] at hq
      refine ic_ge_F (t := 183) odX7_faceHere rfl rfl c84 ?_
      refine mB_run odX7_faceHere 1 (g := (149, [(0, .ref x0), (1, .int x1), (2, .long x2), (4, .int x4), (5, .int x5), (6, .int x6)], [.ref x0], h, 0, 0)) rfl ?_
      obtain ⟨v85, e86, hq⟩ := bsm hq
      refine r_gR odX7_faceHere rfl rfl e86 ?_
      refine mB_run odX7_faceHere 6 (g := (161, [(0, .ref x0), (1, .int x1), (2, .long x2), (4, .int x4), (5, .int x5), (6, .int x6)], [.ref x0, .int (((25 : Int32) * x5) + x6), .ref v85], h, 0, 0)) rfl ?_
      obtain ⟨v87, e88, hq⟩ := bsm hq
      refine r_gR odX7_faceHere rfl rfl e88 ?_
      refine mB_run odX7_faceHere 7 (g := (175, [(0, .ref x0), (1, .int x1), (2, .long x2), (4, .int x4), (5, .int x5), (6, .int x6)], [.int ((((25 : Int32) * x5) - (25 : Int32)) + x6), .ref v87, .int (((25 : Int32) * x5) + x6), .ref v85], h, 0, 0)) rfl ?_
      obtain ⟨v89, e90, hq⟩ := bsm hq
      refine r_aI odX7_faceHere rfl e90 ?_
      obtain ⟨h91, e92, hq⟩ := bsm hq
      refine r_wI odX7_faceHere rfl e92 ?_
      refine mB_run odX7_faceHere 2 (g := (141, [(6, .int (x6 + (1 : Int32))), (0, .ref x0), (1, .int x1), (2, .long x2), (4, .int x4), (5, .int x5)], [], h91, 0, 0)) rfl ?_
      refine mB_lv [1, 2, 3, 4, 5, 0] (lv' := [(0, .ref x0), (1, .int x1), (2, .long x2), (4, .int x4), (5, .int x5), (6, .int (x6 + (1 : Int32)))]) rfl ?_
      exact ih _ _ _ _ _ _ _ hq
def fxX7_faceHere_244 (N : Nat) : Nat → Nat → Int32 → Int32 → Int32 → mh → Option mh
  | 0, _, _, _, _, _ => none
  | n + 1, x0, x1, x4, x5, h =>
    (gI h x0 7 23).bind fun v93 =>
    if v93 ≤ x5 then (
      (gR h x0 7 27).bind fun v96 =>
      (aI h v96 x1).bind fun v98 =>
      (wI h v96 x1 (v98 + (1 : Int32))).bind fun h100 =>
      some h100) else (
      (gR h x0 7 33).bind fun v102 =>
      (gR h x0 7 22).bind fun v104 =>
      (aI h v104 x5).bind fun v106 =>
      (wI h v102 (((25 : Int32) * x4) + x5) v106).bind fun h108 =>
      fxX7_faceHere_244 N n x0 x1 x4 (x5 + (1 : Int32)) h108)
set_option maxHeartbeats 4000000 in
set_option maxRecDepth 100000 in
theorem exX7_faceHere_244 {N : Nat} : ∀ (n : Nat) (x0 : Nat) (x1 : Int32) (x4 : Int32) (x5 : Int32) (h : mh) {o : mh}, fxX7_faceHere_244 N n x0 x1 x4 x5 h = some o → mB (gO mX7_faceHere (o, none)) mX7_faceHere (244, [(0, .ref x0), (1, .int x1), (4, .int x4), (5, .int x5)], [], h, 0, 0) := by
  intro n
  induction n with
  | zero => intro x0 x1 x4 x5 h o hq; cases hq
  | succ n ih =>
    intro x0 x1 x4 x5 h o hq
    unfold fxX7_faceHere_244 at hq
    refine mB_run odX7_faceHere 2 (g := (247, [(0, .ref x0), (1, .int x1), (4, .int x4), (5, .int x5)], [.ref x0, .int x5], h, 0, 0)) rfl ?_
    obtain ⟨v93, e94, hq⟩ := bsm hq
    refine r_gI odX7_faceHere rfl rfl e94 ?_
    by_cases c95 : v93 ≤ x5
    · rw [if_pos c95] at hq
      refine ic_ge_T (t := 279) odX7_faceHere rfl rfl c95 ?_
      refine mB_run odX7_faceHere 1 (g := (280, [(0, .ref x0), (1, .int x1), (4, .int x4), (5, .int x5)], [.ref x0], h, 0, 0)) rfl ?_
      obtain ⟨v96, e97, hq⟩ := bsm hq
      refine r_gR odX7_faceHere rfl rfl e97 ?_
      refine mB_run odX7_faceHere 2 (g := (285, [(0, .ref x0), (1, .int x1), (4, .int x4), (5, .int x5)], [.int x1, .ref v96, .int x1, .ref v96], h, 0, 0)) rfl ?_
      obtain ⟨v98, e99, hq⟩ := bsm hq
      refine r_aI odX7_faceHere rfl e99 ?_
      refine mB_run odX7_faceHere 2 (g := (288, [(0, .ref x0), (1, .int x1), (4, .int x4), (5, .int x5)], [.int (v98 + (1 : Int32)), .int x1, .ref v96], h, 0, 0)) rfl ?_
      obtain ⟨h100, e101, hq⟩ := bsm hq
      refine r_wI odX7_faceHere rfl e101 ?_
      cases hq
      exact mB_ret odX7_faceHere rfl
    · rw [if_neg c95] at hq
      refine ic_ge_F (t := 279) odX7_faceHere rfl rfl c95 ?_
      refine mB_run odX7_faceHere 1 (g := (254, [(0, .ref x0), (1, .int x1), (4, .int x4), (5, .int x5)], [.ref x0], h, 0, 0)) rfl ?_
      obtain ⟨v102, e103, hq⟩ := bsm hq
      refine r_gR odX7_faceHere rfl rfl e103 ?_
      refine mB_run odX7_faceHere 6 (g := (266, [(0, .ref x0), (1, .int x1), (4, .int x4), (5, .int x5)], [.ref x0, .int (((25 : Int32) * x4) + x5), .ref v102], h, 0, 0)) rfl ?_
      obtain ⟨v104, e105, hq⟩ := bsm hq
      refine r_gR odX7_faceHere rfl rfl e105 ?_
      refine mB_run odX7_faceHere 1 (g := (271, [(0, .ref x0), (1, .int x1), (4, .int x4), (5, .int x5)], [.int x5, .ref v104, .int (((25 : Int32) * x4) + x5), .ref v102], h, 0, 0)) rfl ?_
      obtain ⟨v106, e107, hq⟩ := bsm hq
      refine r_aI odX7_faceHere rfl e107 ?_
      obtain ⟨h108, e109, hq⟩ := bsm hq
      refine r_wI odX7_faceHere rfl e109 ?_
      refine mB_run odX7_faceHere 2 (g := (244, [(5, .int (x5 + (1 : Int32))), (0, .ref x0), (1, .int x1), (4, .int x4)], [], h108, 0, 0)) rfl ?_
      refine mB_lv [1, 2, 3, 0] (lv' := [(0, .ref x0), (1, .int x1), (4, .int x4), (5, .int (x5 + (1 : Int32)))]) rfl ?_
      exact ih _ _ _ _ _ hq
def fxX7_faceHere_51 (N : Nat) : Nat → Nat → Int32 → Int64 → Int32 → Int32 → mh → Option mh
  | 0, _, _, _, _, _, _ => none
  | n + 1, x0, x1, x2, x4, x5, h =>
    if x5 ≤ x4 then (
      (gR h x0 7 28).bind fun v16 =>
      (gJ h x0 7 24).bind fun v18 =>
      (wJ h v16 x4 v18).bind fun h20 =>
      (gR h20 x0 7 29).bind fun v22 =>
      (gJ h20 x0 7 25).bind fun v24 =>
      (wJ h20 v22 x4 v24).bind fun h26 =>
      (gR h26 x0 7 30).bind fun v28 =>
      (gJ h26 x0 7 26).bind fun v30 =>
      (wJ h26 v28 x4 v30).bind fun h32 =>
      (gR h32 x0 7 31).bind fun v34 =>
      (wJ h32 v34 x4 x2).bind fun h36 =>
      (gR h36 x0 7 32).bind fun v38 =>
      (gI h36 x0 7 23).bind fun v40 =>
      (wI h36 v38 x4 v40).bind fun h42 =>
      fxX7_faceHere_244 N N x0 x1 x4 (0 : Int32) h42) else (
      (gR h x0 7 28).bind fun v44 =>
      (gR h x0 7 28).bind fun v46 =>
      (aJ h v46 (x5 - (1 : Int32))).bind fun v48 =>
      (wJ h v44 x5 v48).bind fun h50 =>
      (gR h50 x0 7 29).bind fun v52 =>
      (gR h50 x0 7 29).bind fun v54 =>
      (aJ h50 v54 (x5 - (1 : Int32))).bind fun v56 =>
      (wJ h50 v52 x5 v56).bind fun h58 =>
      (gR h58 x0 7 30).bind fun v60 =>
      (gR h58 x0 7 30).bind fun v62 =>
      (aJ h58 v62 (x5 - (1 : Int32))).bind fun v64 =>
      (wJ h58 v60 x5 v64).bind fun h66 =>
      (gR h66 x0 7 31).bind fun v68 =>
      (gR h66 x0 7 31).bind fun v70 =>
      (aJ h66 v70 (x5 - (1 : Int32))).bind fun v72 =>
      (wJ h66 v68 x5 v72).bind fun h74 =>
      (gR h74 x0 7 32).bind fun v76 =>
      (gR h74 x0 7 32).bind fun v78 =>
      (aI h74 v78 (x5 - (1 : Int32))).bind fun v80 =>
      (wI h74 v76 x5 v80).bind fun h82 =>
      fxX7_faceHere_141 N (fxX7_faceHere_51 N n) N x0 x1 x2 x4 x5 (0 : Int32) h82)
set_option maxHeartbeats 4000000 in
set_option maxRecDepth 100000 in
theorem exX7_faceHere_51 {N : Nat} : ∀ (n : Nat) (x0 : Nat) (x1 : Int32) (x2 : Int64) (x4 : Int32) (x5 : Int32) (h : mh) {o : mh}, fxX7_faceHere_51 N n x0 x1 x2 x4 x5 h = some o → mB (gO mX7_faceHere (o, none)) mX7_faceHere (51, [(0, .ref x0), (1, .int x1), (2, .long x2), (4, .int x4), (5, .int x5)], [], h, 0, 0) := by
  intro n
  induction n with
  | zero => intro x0 x1 x2 x4 x5 h o hq; cases hq
  | succ n ih =>
    intro x0 x1 x2 x4 x5 h o hq
    unfold fxX7_faceHere_51 at hq
    refine mB_run odX7_faceHere 2 (g := (55, [(0, .ref x0), (1, .int x1), (2, .long x2), (4, .int x4), (5, .int x5)], [.int x4, .int x5], h, 0, 0)) rfl ?_
    by_cases c15 : x5 ≤ x4
    · rw [if_pos c15] at hq
      refine ic_le_T (t := 189) odX7_faceHere rfl rfl c15 ?_
      refine mB_run odX7_faceHere 1 (g := (190, [(0, .ref x0), (1, .int x1), (2, .long x2), (4, .int x4), (5, .int x5)], [.ref x0], h, 0, 0)) rfl ?_
      obtain ⟨v16, e17, hq⟩ := bsm hq
      refine r_gR odX7_faceHere rfl rfl e17 ?_
      refine mB_run odX7_faceHere 2 (g := (196, [(0, .ref x0), (1, .int x1), (2, .long x2), (4, .int x4), (5, .int x5)], [.ref x0, .int x4, .ref v16], h, 0, 0)) rfl ?_
      obtain ⟨v18, e19, hq⟩ := bsm hq
      refine r_gJ odX7_faceHere rfl rfl e19 ?_
      obtain ⟨h20, e21, hq⟩ := bsm hq
      refine r_wJ odX7_faceHere rfl e21 ?_
      refine mB_run odX7_faceHere 1 (g := (201, [(0, .ref x0), (1, .int x1), (2, .long x2), (4, .int x4), (5, .int x5)], [.ref x0], h20, 0, 0)) rfl ?_
      obtain ⟨v22, e23, hq⟩ := bsm hq
      refine r_gR odX7_faceHere rfl rfl e23 ?_
      refine mB_run odX7_faceHere 2 (g := (207, [(0, .ref x0), (1, .int x1), (2, .long x2), (4, .int x4), (5, .int x5)], [.ref x0, .int x4, .ref v22], h20, 0, 0)) rfl ?_
      obtain ⟨v24, e25, hq⟩ := bsm hq
      refine r_gJ odX7_faceHere rfl rfl e25 ?_
      obtain ⟨h26, e27, hq⟩ := bsm hq
      refine r_wJ odX7_faceHere rfl e27 ?_
      refine mB_run odX7_faceHere 1 (g := (212, [(0, .ref x0), (1, .int x1), (2, .long x2), (4, .int x4), (5, .int x5)], [.ref x0], h26, 0, 0)) rfl ?_
      obtain ⟨v28, e29, hq⟩ := bsm hq
      refine r_gR odX7_faceHere rfl rfl e29 ?_
      refine mB_run odX7_faceHere 2 (g := (218, [(0, .ref x0), (1, .int x1), (2, .long x2), (4, .int x4), (5, .int x5)], [.ref x0, .int x4, .ref v28], h26, 0, 0)) rfl ?_
      obtain ⟨v30, e31, hq⟩ := bsm hq
      refine r_gJ odX7_faceHere rfl rfl e31 ?_
      obtain ⟨h32, e33, hq⟩ := bsm hq
      refine r_wJ odX7_faceHere rfl e33 ?_
      refine mB_run odX7_faceHere 1 (g := (223, [(0, .ref x0), (1, .int x1), (2, .long x2), (4, .int x4), (5, .int x5)], [.ref x0], h32, 0, 0)) rfl ?_
      obtain ⟨v34, e35, hq⟩ := bsm hq
      refine r_gR odX7_faceHere rfl rfl e35 ?_
      refine mB_run odX7_faceHere 2 (g := (229, [(0, .ref x0), (1, .int x1), (2, .long x2), (4, .int x4), (5, .int x5)], [.long x2, .int x4, .ref v34], h32, 0, 0)) rfl ?_
      obtain ⟨h36, e37, hq⟩ := bsm hq
      refine r_wJ odX7_faceHere rfl e37 ?_
      refine mB_run odX7_faceHere 1 (g := (231, [(0, .ref x0), (1, .int x1), (2, .long x2), (4, .int x4), (5, .int x5)], [.ref x0], h36, 0, 0)) rfl ?_
      obtain ⟨v38, e39, hq⟩ := bsm hq
      refine r_gR odX7_faceHere rfl rfl e39 ?_
      refine mB_run odX7_faceHere 2 (g := (237, [(0, .ref x0), (1, .int x1), (2, .long x2), (4, .int x4), (5, .int x5)], [.ref x0, .int x4, .ref v38], h36, 0, 0)) rfl ?_
      obtain ⟨v40, e41, hq⟩ := bsm hq
      refine r_gI odX7_faceHere rfl rfl e41 ?_
      obtain ⟨h42, e43, hq⟩ := bsm hq
      refine r_wI odX7_faceHere rfl e43 ?_
      refine mB_run odX7_faceHere 2 (g := (244, [(5, .int (0 : Int32)), (0, .ref x0), (1, .int x1), (2, .long x2), (4, .int x4)], [], h42, 0, 0)) rfl ?_
      refine mB_lv [1, 2, 4, 0] (lv' := [(0, .ref x0), (1, .int x1), (4, .int x4), (5, .int (0 : Int32))]) rfl ?_
      exact exX7_faceHere_244 N _ _ _ _ _ hq
    · rw [if_neg c15] at hq
      refine ic_le_F (t := 189) odX7_faceHere rfl rfl c15 ?_
      refine mB_run odX7_faceHere 1 (g := (59, [(0, .ref x0), (1, .int x1), (2, .long x2), (4, .int x4), (5, .int x5)], [.ref x0], h, 0, 0)) rfl ?_
      obtain ⟨v44, e45, hq⟩ := bsm hq
      refine r_gR odX7_faceHere rfl rfl e45 ?_
      refine mB_run odX7_faceHere 2 (g := (65, [(0, .ref x0), (1, .int x1), (2, .long x2), (4, .int x4), (5, .int x5)], [.ref x0, .int x5, .ref v44], h, 0, 0)) rfl ?_
      obtain ⟨v46, e47, hq⟩ := bsm hq
      refine r_gR odX7_faceHere rfl rfl e47 ?_
      refine mB_run odX7_faceHere 3 (g := (72, [(0, .ref x0), (1, .int x1), (2, .long x2), (4, .int x4), (5, .int x5)], [.int (x5 - (1 : Int32)), .ref v46, .int x5, .ref v44], h, 0, 0)) rfl ?_
      obtain ⟨v48, e49, hq⟩ := bsm hq
      refine r_aJ odX7_faceHere rfl e49 ?_
      obtain ⟨h50, e51, hq⟩ := bsm hq
      refine r_wJ odX7_faceHere rfl e51 ?_
      refine mB_run odX7_faceHere 1 (g := (75, [(0, .ref x0), (1, .int x1), (2, .long x2), (4, .int x4), (5, .int x5)], [.ref x0], h50, 0, 0)) rfl ?_
      obtain ⟨v52, e53, hq⟩ := bsm hq
      refine r_gR odX7_faceHere rfl rfl e53 ?_
      refine mB_run odX7_faceHere 2 (g := (81, [(0, .ref x0), (1, .int x1), (2, .long x2), (4, .int x4), (5, .int x5)], [.ref x0, .int x5, .ref v52], h50, 0, 0)) rfl ?_
      obtain ⟨v54, e55, hq⟩ := bsm hq
      refine r_gR odX7_faceHere rfl rfl e55 ?_
      refine mB_run odX7_faceHere 3 (g := (88, [(0, .ref x0), (1, .int x1), (2, .long x2), (4, .int x4), (5, .int x5)], [.int (x5 - (1 : Int32)), .ref v54, .int x5, .ref v52], h50, 0, 0)) rfl ?_
      obtain ⟨v56, e57, hq⟩ := bsm hq
      refine r_aJ odX7_faceHere rfl e57 ?_
      obtain ⟨h58, e59, hq⟩ := bsm hq
      refine r_wJ odX7_faceHere rfl e59 ?_
      refine mB_run odX7_faceHere 1 (g := (91, [(0, .ref x0), (1, .int x1), (2, .long x2), (4, .int x4), (5, .int x5)], [.ref x0], h58, 0, 0)) rfl ?_
      obtain ⟨v60, e61, hq⟩ := bsm hq
      refine r_gR odX7_faceHere rfl rfl e61 ?_
      refine mB_run odX7_faceHere 2 (g := (97, [(0, .ref x0), (1, .int x1), (2, .long x2), (4, .int x4), (5, .int x5)], [.ref x0, .int x5, .ref v60], h58, 0, 0)) rfl ?_
      obtain ⟨v62, e63, hq⟩ := bsm hq
      refine r_gR odX7_faceHere rfl rfl e63 ?_
      refine mB_run odX7_faceHere 3 (g := (104, [(0, .ref x0), (1, .int x1), (2, .long x2), (4, .int x4), (5, .int x5)], [.int (x5 - (1 : Int32)), .ref v62, .int x5, .ref v60], h58, 0, 0)) rfl ?_
      obtain ⟨v64, e65, hq⟩ := bsm hq
      refine r_aJ odX7_faceHere rfl e65 ?_
      obtain ⟨h66, e67, hq⟩ := bsm hq
      refine r_wJ odX7_faceHere rfl e67 ?_
      refine mB_run odX7_faceHere 1 (g := (107, [(0, .ref x0), (1, .int x1), (2, .long x2), (4, .int x4), (5, .int x5)], [.ref x0], h66, 0, 0)) rfl ?_
      obtain ⟨v68, e69, hq⟩ := bsm hq
      refine r_gR odX7_faceHere rfl rfl e69 ?_
      refine mB_run odX7_faceHere 2 (g := (113, [(0, .ref x0), (1, .int x1), (2, .long x2), (4, .int x4), (5, .int x5)], [.ref x0, .int x5, .ref v68], h66, 0, 0)) rfl ?_
      obtain ⟨v70, e71, hq⟩ := bsm hq
      refine r_gR odX7_faceHere rfl rfl e71 ?_
      refine mB_run odX7_faceHere 3 (g := (120, [(0, .ref x0), (1, .int x1), (2, .long x2), (4, .int x4), (5, .int x5)], [.int (x5 - (1 : Int32)), .ref v70, .int x5, .ref v68], h66, 0, 0)) rfl ?_
      obtain ⟨v72, e73, hq⟩ := bsm hq
      refine r_aJ odX7_faceHere rfl e73 ?_
      obtain ⟨h74, e75, hq⟩ := bsm hq
      refine r_wJ odX7_faceHere rfl e75 ?_
      refine mB_run odX7_faceHere 1 (g := (123, [(0, .ref x0), (1, .int x1), (2, .long x2), (4, .int x4), (5, .int x5)], [.ref x0], h74, 0, 0)) rfl ?_
      obtain ⟨v76, e77, hq⟩ := bsm hq
      refine r_gR odX7_faceHere rfl rfl e77 ?_
      refine mB_run odX7_faceHere 2 (g := (129, [(0, .ref x0), (1, .int x1), (2, .long x2), (4, .int x4), (5, .int x5)], [.ref x0, .int x5, .ref v76], h74, 0, 0)) rfl ?_
      obtain ⟨v78, e79, hq⟩ := bsm hq
      refine r_gR odX7_faceHere rfl rfl e79 ?_
      refine mB_run odX7_faceHere 3 (g := (136, [(0, .ref x0), (1, .int x1), (2, .long x2), (4, .int x4), (5, .int x5)], [.int (x5 - (1 : Int32)), .ref v78, .int x5, .ref v76], h74, 0, 0)) rfl ?_
      obtain ⟨v80, e81, hq⟩ := bsm hq
      refine r_aI odX7_faceHere rfl e81 ?_
      obtain ⟨h82, e83, hq⟩ := bsm hq
      refine r_wI odX7_faceHere rfl e83 ?_
      refine mB_run odX7_faceHere 2 (g := (141, [(6, .int (0 : Int32)), (0, .ref x0), (1, .int x1), (2, .long x2), (4, .int x4), (5, .int x5)], [], h82, 0, 0)) rfl ?_
      refine mB_lv [1, 2, 3, 4, 5, 0] (lv' := [(0, .ref x0), (1, .int x1), (2, .long x2), (4, .int x4), (5, .int x5), (6, .int (0 : Int32))]) rfl ?_
      exact exX7_faceHere_141 ih N _ _ _ _ _ _ _ hq
def fxX7_faceHere_38 (N : Nat) (x0 : Nat) (x1 : Int32) (x2 : Int64) (x4 : Int32) (h : mh) : Option mh :=
  (gR h x0 7 27).bind fun v11 =>
  (aI h v11 x1).bind fun v13 =>
  fxX7_faceHere_51 N N x0 x1 x2 x4 (((64 : Int32) * x1) + v13) h
set_option maxHeartbeats 4000000 in
set_option maxRecDepth 100000 in
theorem exX7_faceHere_38 {N : Nat} (x0 : Nat) (x1 : Int32) (x2 : Int64) (x4 : Int32) (h : mh) {o : mh} (hq : fxX7_faceHere_38 N x0 x1 x2 x4 h = some o) : mB (gO mX7_faceHere (o, none)) mX7_faceHere (38, [(0, .ref x0), (1, .int x1), (2, .long x2), (4, .int x4)], [], h, 0, 0) := by
  unfold fxX7_faceHere_38 at hq
  refine mB_run odX7_faceHere 4 (g := (43, [(0, .ref x0), (1, .int x1), (2, .long x2), (4, .int x4)], [.ref x0, .int ((64 : Int32) * x1)], h, 0, 0)) rfl ?_
  obtain ⟨v11, e12, hq⟩ := bsm hq
  refine r_gR odX7_faceHere rfl rfl e12 ?_
  refine mB_run odX7_faceHere 1 (g := (47, [(0, .ref x0), (1, .int x1), (2, .long x2), (4, .int x4)], [.int x1, .ref v11, .int ((64 : Int32) * x1)], h, 0, 0)) rfl ?_
  obtain ⟨v13, e14, hq⟩ := bsm hq
  refine r_aI odX7_faceHere rfl e14 ?_
  refine mB_run odX7_faceHere 2 (g := (51, [(5, .int (((64 : Int32) * x1) + v13)), (0, .ref x0), (1, .int x1), (2, .long x2), (4, .int x4)], [], h, 0, 0)) rfl ?_
  refine mB_lv [1, 2, 3, 4, 0] (lv' := [(0, .ref x0), (1, .int x1), (2, .long x2), (4, .int x4), (5, .int (((64 : Int32) * x1) + v13))]) rfl ?_
  exact exX7_faceHere_51 N _ _ _ _ _ _ hq
def fxX7_faceHere_6 (N : Nat) : Nat → Nat → Int32 → Int64 → Int32 → mh → Option mh
  | 0, _, _, _, _, _ => none
  | n + 1, x0, x1, x2, x4, h =>
    (gR h x0 7 27).bind fun v1 =>
    (aI h v1 x1).bind fun v3 =>
    if (((64 : Int32) * x1) + v3) ≤ x4 then (
      fxX7_faceHere_38 N x0 x1 x2 x4 h) else (
      (kO h x0 7).bind fun f8 =>
      (fxX7_isAhead N x0 x4 x2 h).bind fun o6 =>
      if o6.2 = 0 then (
        fxX7_faceHere_38 N x0 x1 x2 x4 o6.1) else (
        fxX7_faceHere_6 N n x0 x1 x2 (x4 + (1 : Int32)) o6.1))
set_option maxHeartbeats 4000000 in
set_option maxRecDepth 100000 in
theorem exX7_faceHere_6 {N : Nat} : ∀ (n : Nat) (x0 : Nat) (x1 : Int32) (x2 : Int64) (x4 : Int32) (h : mh) {o : mh}, fxX7_faceHere_6 N n x0 x1 x2 x4 h = some o → mB (gO mX7_faceHere (o, none)) mX7_faceHere (6, [(0, .ref x0), (1, .int x1), (2, .long x2), (4, .int x4)], [], h, 0, 0) := by
  intro n
  induction n with
  | zero => intro x0 x1 x2 x4 h o hq; cases hq
  | succ n ih =>
    intro x0 x1 x2 x4 h o hq
    unfold fxX7_faceHere_6 at hq
    refine mB_run odX7_faceHere 5 (g := (13, [(0, .ref x0), (1, .int x1), (2, .long x2), (4, .int x4)], [.ref x0, .int ((64 : Int32) * x1), .int x4], h, 0, 0)) rfl ?_
    obtain ⟨v1, e2, hq⟩ := bsm hq
    refine r_gR odX7_faceHere rfl rfl e2 ?_
    refine mB_run odX7_faceHere 1 (g := (17, [(0, .ref x0), (1, .int x1), (2, .long x2), (4, .int x4)], [.int x1, .ref v1, .int ((64 : Int32) * x1), .int x4], h, 0, 0)) rfl ?_
    obtain ⟨v3, e4, hq⟩ := bsm hq
    refine r_aI odX7_faceHere rfl e4 ?_
    refine mB_run odX7_faceHere 1 (g := (19, [(0, .ref x0), (1, .int x1), (2, .long x2), (4, .int x4)], [.int (((64 : Int32) * x1) + v3), .int x4], h, 0, 0)) rfl ?_
    by_cases c5 : (((64 : Int32) * x1) + v3) ≤ x4
    · rw [if_pos c5] at hq
      refine ic_ge_T (t := 38) odX7_faceHere rfl rfl c5 ?_
      refine mB_lv [0, 1, 2, 3] (lv' := [(0, .ref x0), (1, .int x1), (2, .long x2), (4, .int x4)]) rfl ?_
      exact exX7_faceHere_38 _ _ _ _ _ hq
    · rw [if_neg c5] at hq
      refine ic_ge_F (t := 38) odX7_faceHere rfl rfl c5 ?_
      refine mB_run odX7_faceHere 3 (g := (26, [(0, .ref x0), (1, .int x1), (2, .long x2), (4, .int x4)], [.long x2, .int x4, .ref x0], h, 0, 0)) rfl ?_
      obtain ⟨f8, k9, hq⟩ := bsm hq
      obtain ⟨o6, e7, hq⟩ := bsm hq
      refine mB_V (as := [.int x4, .long x2]) odX7_faceHere okX7_isAhead lk_7_193 rfl (exX7_isAhead e7) (kO_at k9) rfl rfl rfl ?_
      show mB _ mX7_faceHere (29, [(0, .ref x0), (1, .int x1), (2, .long x2), (4, .int x4)], [.int o6.2], o6.1, 0, 0)
      by_cases c10 : o6.2 = 0
      · rw [if_pos c10] at hq
        refine if_eq_T (t := 38) odX7_faceHere rfl rfl c10 ?_
        refine mB_lv [0, 1, 2, 3] (lv' := [(0, .ref x0), (1, .int x1), (2, .long x2), (4, .int x4)]) rfl ?_
        exact exX7_faceHere_38 _ _ _ _ _ hq
      · rw [if_neg c10] at hq
        refine if_eq_F (t := 38) odX7_faceHere rfl rfl c10 ?_
        refine mB_run odX7_faceHere 2 (g := (6, [(4, .int (x4 + (1 : Int32))), (0, .ref x0), (1, .int x1), (2, .long x2)], [], o6.1, 0, 0)) rfl ?_
        refine mB_lv [1, 2, 3, 0] (lv' := [(0, .ref x0), (1, .int x1), (2, .long x2), (4, .int (x4 + (1 : Int32)))]) rfl ?_
        exact ih _ _ _ _ _ hq
def fxX7_faceHere (N : Nat) (p0 : Nat) (p1 : Int32) (p2 : Int64) (h : mh) : Option mh :=
  fxX7_faceHere_6 N N p0 p1 p2 ((64 : Int32) * p1) h
set_option maxHeartbeats 4000000 in
set_option maxRecDepth 100000 in
theorem exX7_faceHere {N : Nat} {p0 : Nat} {p1 : Int32} {p2 : Int64} {h : mh} {o : mh} (hq : fxX7_faceHere N p0 p1 p2 h = some o) : mC mX7_faceHere [.ref p0, .int p1, .long p2] h (o, none) := by
  refine mC_of okX7_faceHere (Nat.le_of_ble_eq_true rfl) ?_
  unfold fxX7_faceHere at hq
  show mB _ mX7_faceHere (0, [(0, .ref p0), (1, .int p1), (2, .long p2)], [], h, 0, 0)
  refine mB_run odX7_faceHere 4 (g := (6, [(4, .int ((64 : Int32) * p1)), (0, .ref p0), (1, .int p1), (2, .long p2)], [], h, 0, 0)) rfl ?_
  refine mB_lv [1, 2, 3, 0] (lv' := [(0, .ref p0), (1, .int p1), (2, .long p2), (4, .int ((64 : Int32) * p1))]) rfl ?_
  exact exX7_faceHere_6 N _ _ _ _ _ hq
def fxX7_turnsAbout (N : Nat) (p0 : Nat) (h : mh) : Option mh :=
  (gJ h p0 7 24).bind fun v1 =>
  (sV h p0 7 24 (.long (-v1))).bind fun h3 =>
  (gJ h3 p0 7 25).bind fun v5 =>
  (sV h3 p0 7 25 (.long (-v5))).bind fun h7 =>
  (gJ h7 p0 7 26).bind fun v9 =>
  (sV h7 p0 7 26 (.long (-v9))).bind fun h11 =>
  some h11
set_option maxHeartbeats 4000000 in
set_option maxRecDepth 100000 in
theorem exX7_turnsAbout {N : Nat} {p0 : Nat} {h : mh} {o : mh} (hq : fxX7_turnsAbout N p0 h = some o) : mC mX7_turnsAbout [.ref p0] h (o, none) := by
  refine mC_of okX7_turnsAbout (Nat.le_of_ble_eq_true rfl) ?_
  unfold fxX7_turnsAbout at hq
  show mB _ mX7_turnsAbout (0, [(0, .ref p0)], [], h, 0, 0)
  refine mB_run odX7_turnsAbout 2 (g := (2, [(0, .ref p0)], [.ref p0, .ref p0], h, 0, 0)) rfl ?_
  obtain ⟨v1, e2, hq⟩ := bsm hq
  refine r_gJ odX7_turnsAbout rfl rfl e2 ?_
  refine mB_run odX7_turnsAbout 1 (g := (6, [(0, .ref p0)], [.long (-v1), .ref p0], h, 0, 0)) rfl ?_
  obtain ⟨h3, e4, hq⟩ := bsm hq
  refine r_sV odX7_turnsAbout rfl rfl rfl rfl e4 ?_
  refine mB_run odX7_turnsAbout 2 (g := (11, [(0, .ref p0)], [.ref p0, .ref p0], h3, 0, 0)) rfl ?_
  obtain ⟨v5, e6, hq⟩ := bsm hq
  refine r_gJ odX7_turnsAbout rfl rfl e6 ?_
  refine mB_run odX7_turnsAbout 1 (g := (15, [(0, .ref p0)], [.long (-v5), .ref p0], h3, 0, 0)) rfl ?_
  obtain ⟨h7, e8, hq⟩ := bsm hq
  refine r_sV odX7_turnsAbout rfl rfl rfl rfl e8 ?_
  refine mB_run odX7_turnsAbout 2 (g := (20, [(0, .ref p0)], [.ref p0, .ref p0], h7, 0, 0)) rfl ?_
  obtain ⟨v9, e10, hq⟩ := bsm hq
  refine r_gJ odX7_turnsAbout rfl rfl e10 ?_
  refine mB_run odX7_turnsAbout 1 (g := (24, [(0, .ref p0)], [.long (-v9), .ref p0], h7, 0, 0)) rfl ?_
  obtain ⟨h11, e12, hq⟩ := bsm hq
  refine r_sV odX7_turnsAbout rfl rfl rfl rfl e12 ?_
  cases hq
  exact mB_ret odX7_turnsAbout rfl
def fxX7_lists_61 (N : Nat) (rec7 : Nat → Int64 → Int32 → mh → Option (mh × Int32)) (x0 : Nat) (x1 : Int64) (x3 : Int32) (h : mh) : Option (mh × Int32) :=
  rec7 x0 x1 (x3 + (1 : Int32)) h
set_option maxHeartbeats 4000000 in
set_option maxRecDepth 100000 in
theorem exX7_lists_61 {N : Nat} {rec7 : Nat → Int64 → Int32 → mh → Option (mh × Int32)} (hrec7 : ∀ (x0 : Nat) (x1 : Int64) (x3 : Int32) (h : mh) {o : (mh × Int32)}, rec7 x0 x1 x3 h = some o → mB (gO mX7_lists (o.1, some (.int o.2))) mX7_lists (7, [(0, .ref x0), (1, .long x1), (3, .int x3)], [], h, 0, 0)) (x0 : Nat) (x1 : Int64) (x3 : Int32) (h : mh) {o : (mh × Int32)} (hq : fxX7_lists_61 N rec7 x0 x1 x3 h = some o) : mB (gO mX7_lists (o.1, some (.int o.2))) mX7_lists (61, [(0, .ref x0), (1, .long x1), (3, .int x3)], [], h, 0, 0) := by
  unfold fxX7_lists_61 at hq
  refine mB_run odX7_lists 2 (g := (7, [(3, .int (x3 + (1 : Int32))), (0, .ref x0), (1, .long x1)], [], h, 0, 0)) rfl ?_
  refine mB_lv [1, 2, 0] (lv' := [(0, .ref x0), (1, .long x1), (3, .int (x3 + (1 : Int32)))]) rfl ?_
  exact hrec7 _ _ _ _ hq
def fxX7_lists_7 (N : Nat) : Nat → Nat → Int64 → Int32 → mh → Option (mh × Int32)
  | 0, _, _, _, _ => none
  | n + 1, x0, x1, x3, h =>
    (gI h x0 7 15).bind fun v3 =>
    if v3 ≤ x3 then (
      some (h, (1 : Int32))) else (
      (kO h x0 7).bind fun f8 =>
      (fxX7_height N x0 x3 h).bind fun o6 =>
      if o6.2 ≤ x1 then (
        if o6.2 = x1 then (
          (gR o6.1 x0 7 20).bind fun v12 =>
          (gI o6.1 x0 7 21).bind fun v14 =>
          (wI o6.1 v12 v14 x3).bind fun h16 =>
          (gI h16 x0 7 21).bind fun v18 =>
          (sV h16 x0 7 21 (.int (v18 + (1 : Int32)))).bind fun h20 =>
          fxX7_lists_61 N (fxX7_lists_7 N n) x0 x1 x3 h20) else (
          fxX7_lists_61 N (fxX7_lists_7 N n) x0 x1 x3 o6.1)) else (
        some (o6.1, (0 : Int32))))
set_option maxHeartbeats 4000000 in
set_option maxRecDepth 100000 in
theorem exX7_lists_7 {N : Nat} : ∀ (n : Nat) (x0 : Nat) (x1 : Int64) (x3 : Int32) (h : mh) {o : (mh × Int32)}, fxX7_lists_7 N n x0 x1 x3 h = some o → mB (gO mX7_lists (o.1, some (.int o.2))) mX7_lists (7, [(0, .ref x0), (1, .long x1), (3, .int x3)], [], h, 0, 0) := by
  intro n
  induction n with
  | zero => intro x0 x1 x3 h o hq; cases hq
  | succ n ih =>
    intro x0 x1 x3 h o hq
    unfold fxX7_lists_7 at hq
    refine mB_run odX7_lists 2 (g := (9, [(0, .ref x0), (1, .long x1), (3, .int x3)], [.ref x0, .int x3], h, 0, 0)) rfl ?_
    obtain ⟨v3, e4, hq⟩ := bsm hq
    refine r_gI odX7_lists rfl rfl e4 ?_
    by_cases c5 : v3 ≤ x3
    · rw [if_pos c5] at hq
      refine ic_ge_T (t := 67) odX7_lists rfl rfl c5 ?_
      refine mB_run odX7_lists 1 (g := (68, [(0, .ref x0), (1, .long x1), (3, .int x3)], [.int (1 : Int32)], h, 0, 0)) rfl ?_
      cases hq
      exact mB_ret odX7_lists rfl
    · rw [if_neg c5] at hq
      refine ic_ge_F (t := 67) odX7_lists rfl rfl c5 ?_
      refine mB_run odX7_lists 2 (g := (17, [(0, .ref x0), (1, .long x1), (3, .int x3)], [.int x3, .ref x0], h, 0, 0)) rfl ?_
      obtain ⟨f8, k9, hq⟩ := bsm hq
      obtain ⟨o6, e7, hq⟩ := bsm hq
      refine mB_V (as := [.int x3]) odX7_lists okX7_height lk_7_189 rfl (exX7_height e7) (kO_at k9) rfl rfl rfl ?_
      show mB _ mX7_lists (20, [(0, .ref x0), (1, .long x1), (3, .int x3)], [.long o6.2], o6.1, 0, 0)
      refine mB_run odX7_lists 3 (g := (25, [(4, .long o6.2), (0, .ref x0), (1, .long x1), (3, .int x3)], [.long x1, .long o6.2], o6.1, 0, 0)) rfl ?_
      by_cases c10 : o6.2 ≤ x1
      · rw [if_pos c10] at hq
        refine lc_le_T (t := 31) odX7_lists rfl rfl rfl c10 ?_
        refine mB_run odX7_lists 2 (g := (34, [(4, .long o6.2), (0, .ref x0), (1, .long x1), (3, .int x3)], [.long x1, .long o6.2], o6.1, 0, 0)) rfl ?_
        by_cases c11 : o6.2 = x1
        · rw [if_pos c11] at hq
          refine lc_eq_T (t := 41) odX7_lists rfl rfl rfl c11 ?_
          refine mB_run odX7_lists 1 (g := (42, [(4, .long o6.2), (0, .ref x0), (1, .long x1), (3, .int x3)], [.ref x0], o6.1, 0, 0)) rfl ?_
          obtain ⟨v12, e13, hq⟩ := bsm hq
          refine r_gR odX7_lists rfl rfl e13 ?_
          refine mB_run odX7_lists 1 (g := (46, [(4, .long o6.2), (0, .ref x0), (1, .long x1), (3, .int x3)], [.ref x0, .ref v12], o6.1, 0, 0)) rfl ?_
          obtain ⟨v14, e15, hq⟩ := bsm hq
          refine r_gI odX7_lists rfl rfl e15 ?_
          refine mB_run odX7_lists 1 (g := (50, [(4, .long o6.2), (0, .ref x0), (1, .long x1), (3, .int x3)], [.int x3, .int v14, .ref v12], o6.1, 0, 0)) rfl ?_
          obtain ⟨h16, e17, hq⟩ := bsm hq
          refine r_wI odX7_lists rfl e17 ?_
          refine mB_run odX7_lists 2 (g := (53, [(4, .long o6.2), (0, .ref x0), (1, .long x1), (3, .int x3)], [.ref x0, .ref x0], h16, 0, 0)) rfl ?_
          obtain ⟨v18, e19, hq⟩ := bsm hq
          refine r_gI odX7_lists rfl rfl e19 ?_
          refine mB_run odX7_lists 2 (g := (58, [(4, .long o6.2), (0, .ref x0), (1, .long x1), (3, .int x3)], [.int (v18 + (1 : Int32)), .ref x0], h16, 0, 0)) rfl ?_
          obtain ⟨h20, e21, hq⟩ := bsm hq
          refine r_sV odX7_lists rfl rfl rfl rfl e21 ?_
          refine mB_lv [1, 2, 3] (lv' := [(0, .ref x0), (1, .long x1), (3, .int x3)]) rfl ?_
          exact exX7_lists_61 ih _ _ _ _ hq
        · rw [if_neg c11] at hq
          refine lc_eq_F (t := 41) odX7_lists rfl rfl rfl c11 ?_
          refine mB_run odX7_lists 1 (g := (61, [(4, .long o6.2), (0, .ref x0), (1, .long x1), (3, .int x3)], [], o6.1, 0, 0)) rfl ?_
          refine mB_lv [1, 2, 3] (lv' := [(0, .ref x0), (1, .long x1), (3, .int x3)]) rfl ?_
          exact exX7_lists_61 ih _ _ _ _ hq
      · rw [if_neg c10] at hq
        refine lc_le_F (t := 31) odX7_lists rfl rfl rfl c10 ?_
        refine mB_run odX7_lists 1 (g := (30, [(4, .long o6.2), (0, .ref x0), (1, .long x1), (3, .int x3)], [.int (0 : Int32)], o6.1, 0, 0)) rfl ?_
        cases hq
        exact mB_ret odX7_lists rfl
def fxX7_lists (N : Nat) (p0 : Nat) (p1 : Int64) (h : mh) : Option (mh × Int32) :=
  (sV h p0 7 21 (.int (0 : Int32))).bind fun h1 =>
  fxX7_lists_7 N N p0 p1 (0 : Int32) h1
set_option maxHeartbeats 4000000 in
set_option maxRecDepth 100000 in
theorem exX7_lists {N : Nat} {p0 : Nat} {p1 : Int64} {h : mh} {o : (mh × Int32)} (hq : fxX7_lists N p0 p1 h = some o) : mC mX7_lists [.ref p0, .long p1] h (o.1, some (.int o.2)) := by
  refine mC_of okX7_lists (Nat.le_of_ble_eq_true rfl) ?_
  unfold fxX7_lists at hq
  show mB _ mX7_lists (0, [(0, .ref p0), (1, .long p1)], [], h, 0, 0)
  refine mB_run odX7_lists 2 (g := (2, [(0, .ref p0), (1, .long p1)], [.int (0 : Int32), .ref p0], h, 0, 0)) rfl ?_
  obtain ⟨h1, e2, hq⟩ := bsm hq
  refine r_sV odX7_lists rfl rfl rfl rfl e2 ?_
  refine mB_run odX7_lists 2 (g := (7, [(3, .int (0 : Int32)), (0, .ref p0), (1, .long p1)], [], h1, 0, 0)) rfl ?_
  refine mB_lv [1, 2, 0] (lv' := [(0, .ref p0), (1, .long p1), (3, .int (0 : Int32))]) rfl ?_
  exact exX7_lists_7 N _ _ _ _ hq
def fxX7_planes_145 (N : Nat) (rec2 : Nat → Int32 → Int32 → mh → Option mh) (rec14 : Nat → Int32 → Int32 → Int32 → mh → Option mh) (rec27 : Nat → Int32 → Int32 → Int32 → Int32 → mh → Option mh) (x0 : Nat) (x1 : Int32) (x2 : Int32) (x3 : Int32) (x4 : Int32) (h : mh) : Option mh :=
  rec27 x0 x1 x2 x3 (x4 + (1 : Int32)) h
set_option maxHeartbeats 4000000 in
set_option maxRecDepth 100000 in
theorem exX7_planes_145 {N : Nat} {rec2 : Nat → Int32 → Int32 → mh → Option mh} {rec14 : Nat → Int32 → Int32 → Int32 → mh → Option mh} {rec27 : Nat → Int32 → Int32 → Int32 → Int32 → mh → Option mh} (hrec2 : ∀ (x0 : Nat) (x1 : Int32) (x2 : Int32) (h : mh) {o : mh}, rec2 x0 x1 x2 h = some o → mB (gO mX7_planes (o, none)) mX7_planes (2, [(0, .ref x0), (1, .int x1), (2, .int x2)], [], h, 0, 0)) (hrec14 : ∀ (x0 : Nat) (x1 : Int32) (x2 : Int32) (x3 : Int32) (h : mh) {o : mh}, rec14 x0 x1 x2 x3 h = some o → mB (gO mX7_planes (o, none)) mX7_planes (14, [(0, .ref x0), (1, .int x1), (2, .int x2), (3, .int x3)], [], h, 0, 0)) (hrec27 : ∀ (x0 : Nat) (x1 : Int32) (x2 : Int32) (x3 : Int32) (x4 : Int32) (h : mh) {o : mh}, rec27 x0 x1 x2 x3 x4 h = some o → mB (gO mX7_planes (o, none)) mX7_planes (27, [(0, .ref x0), (1, .int x1), (2, .int x2), (3, .int x3), (4, .int x4)], [], h, 0, 0)) (x0 : Nat) (x1 : Int32) (x2 : Int32) (x3 : Int32) (x4 : Int32) (h : mh) {o : mh} (hq : fxX7_planes_145 N rec2 rec14 rec27 x0 x1 x2 x3 x4 h = some o) : mB (gO mX7_planes (o, none)) mX7_planes (145, [(0, .ref x0), (1, .int x1), (2, .int x2), (3, .int x3), (4, .int x4)], [], h, 0, 0) := by
  unfold fxX7_planes_145 at hq
  refine mB_run odX7_planes 2 (g := (27, [(4, .int (x4 + (1 : Int32))), (0, .ref x0), (1, .int x1), (2, .int x2), (3, .int x3)], [], h, 0, 0)) rfl ?_
  refine mB_lv [1, 2, 3, 4, 0] (lv' := [(0, .ref x0), (1, .int x1), (2, .int x2), (3, .int x3), (4, .int (x4 + (1 : Int32)))]) rfl ?_
  exact hrec27 _ _ _ _ _ _ hq
def fxX7_planes_135 (N : Nat) (rec2 : Nat → Int32 → Int32 → mh → Option mh) (rec14 : Nat → Int32 → Int32 → Int32 → mh → Option mh) (rec27 : Nat → Int32 → Int32 → Int32 → Int32 → mh → Option mh) (rec61 : Nat → Int32 → Int32 → Int32 → Int32 → Int32 → mh → Option mh) (x0 : Nat) (x1 : Int32) (x2 : Int32) (x3 : Int32) (x4 : Int32) (x5 : Int32) (h : mh) : Option mh :=
  (kO h x0 7).bind fun f59 =>
  (fxX7_turnsAbout N x0 h).bind fun o57 =>
  rec61 x0 x1 x2 x3 x4 (x5 + (1 : Int32)) o57
set_option maxHeartbeats 4000000 in
set_option maxRecDepth 100000 in
theorem exX7_planes_135 {N : Nat} {rec2 : Nat → Int32 → Int32 → mh → Option mh} {rec14 : Nat → Int32 → Int32 → Int32 → mh → Option mh} {rec27 : Nat → Int32 → Int32 → Int32 → Int32 → mh → Option mh} {rec61 : Nat → Int32 → Int32 → Int32 → Int32 → Int32 → mh → Option mh} (hrec2 : ∀ (x0 : Nat) (x1 : Int32) (x2 : Int32) (h : mh) {o : mh}, rec2 x0 x1 x2 h = some o → mB (gO mX7_planes (o, none)) mX7_planes (2, [(0, .ref x0), (1, .int x1), (2, .int x2)], [], h, 0, 0)) (hrec14 : ∀ (x0 : Nat) (x1 : Int32) (x2 : Int32) (x3 : Int32) (h : mh) {o : mh}, rec14 x0 x1 x2 x3 h = some o → mB (gO mX7_planes (o, none)) mX7_planes (14, [(0, .ref x0), (1, .int x1), (2, .int x2), (3, .int x3)], [], h, 0, 0)) (hrec27 : ∀ (x0 : Nat) (x1 : Int32) (x2 : Int32) (x3 : Int32) (x4 : Int32) (h : mh) {o : mh}, rec27 x0 x1 x2 x3 x4 h = some o → mB (gO mX7_planes (o, none)) mX7_planes (27, [(0, .ref x0), (1, .int x1), (2, .int x2), (3, .int x3), (4, .int x4)], [], h, 0, 0)) (hrec61 : ∀ (x0 : Nat) (x1 : Int32) (x2 : Int32) (x3 : Int32) (x4 : Int32) (x5 : Int32) (h : mh) {o : mh}, rec61 x0 x1 x2 x3 x4 x5 h = some o → mB (gO mX7_planes (o, none)) mX7_planes (61, [(0, .ref x0), (1, .int x1), (2, .int x2), (3, .int x3), (4, .int x4), (5, .int x5)], [], h, 0, 0)) (x0 : Nat) (x1 : Int32) (x2 : Int32) (x3 : Int32) (x4 : Int32) (x5 : Int32) (h : mh) {o : mh} (hq : fxX7_planes_135 N rec2 rec14 rec27 rec61 x0 x1 x2 x3 x4 x5 h = some o) : mB (gO mX7_planes (o, none)) mX7_planes (135, [(0, .ref x0), (1, .int x1), (2, .int x2), (3, .int x3), (4, .int x4), (5, .int x5)], [], h, 0, 0) := by
  unfold fxX7_planes_135 at hq
  refine mB_run odX7_planes 1 (g := (136, [(0, .ref x0), (1, .int x1), (2, .int x2), (3, .int x3), (4, .int x4), (5, .int x5)], [.ref x0], h, 0, 0)) rfl ?_
  obtain ⟨f59, k60, hq⟩ := bsm hq
  obtain ⟨o57, e58, hq⟩ := bsm hq
  refine mB_V (as := []) odX7_planes okX7_turnsAbout lk_7_212 rfl (exX7_turnsAbout e58) (kO_at k60) rfl rfl rfl ?_
  show mB _ mX7_planes (139, [(0, .ref x0), (1, .int x1), (2, .int x2), (3, .int x3), (4, .int x4), (5, .int x5)], [], o57, 0, 0)
  refine mB_run odX7_planes 2 (g := (61, [(5, .int (x5 + (1 : Int32))), (0, .ref x0), (1, .int x1), (2, .int x2), (3, .int x3), (4, .int x4)], [], o57, 0, 0)) rfl ?_
  refine mB_lv [1, 2, 3, 4, 5, 0] (lv' := [(0, .ref x0), (1, .int x1), (2, .int x2), (3, .int x3), (4, .int x4), (5, .int (x5 + (1 : Int32)))]) rfl ?_
  exact hrec61 _ _ _ _ _ _ _ hq
def fxX7_planes_100 (N : Nat) (rec2 : Nat → Int32 → Int32 → mh → Option mh) (rec14 : Nat → Int32 → Int32 → Int32 → mh → Option mh) (rec27 : Nat → Int32 → Int32 → Int32 → Int32 → mh → Option mh) (rec61 : Nat → Int32 → Int32 → Int32 → Int32 → Int32 → mh → Option mh) : Nat → Nat → Int32 → Int32 → Int32 → Int32 → Int32 → Int64 → Int32 → mh → Option mh
  | 0, _, _, _, _, _, _, _, _, _ => none
  | n + 1, x0, x1, x2, x3, x4, x5, x6, x8, h =>
    (gI h x0 7 23).bind fun v42 =>
    if v42 ≤ x8 then (
      (kO h x0 7).bind fun f47 =>
      (fxX7_faceHere N x0 x1 x6 h).bind fun o45 =>
      fxX7_planes_135 N rec2 rec14 rec27 rec61 x0 x1 x2 x3 x4 x5 o45) else (
      (gR h x0 7 19).bind fun v49 =>
      (gR h x0 7 22).bind fun v51 =>
      (aI h v51 x8).bind fun v53 =>
      (wZ h v49 v53 (1 : Int32)).bind fun h55 =>
      fxX7_planes_100 N rec2 rec14 rec27 rec61 n x0 x1 x2 x3 x4 x5 x6 (x8 + (1 : Int32)) h55)
set_option maxHeartbeats 4000000 in
set_option maxRecDepth 100000 in
theorem exX7_planes_100 {N : Nat} {rec2 : Nat → Int32 → Int32 → mh → Option mh} {rec14 : Nat → Int32 → Int32 → Int32 → mh → Option mh} {rec27 : Nat → Int32 → Int32 → Int32 → Int32 → mh → Option mh} {rec61 : Nat → Int32 → Int32 → Int32 → Int32 → Int32 → mh → Option mh} (hrec2 : ∀ (x0 : Nat) (x1 : Int32) (x2 : Int32) (h : mh) {o : mh}, rec2 x0 x1 x2 h = some o → mB (gO mX7_planes (o, none)) mX7_planes (2, [(0, .ref x0), (1, .int x1), (2, .int x2)], [], h, 0, 0)) (hrec14 : ∀ (x0 : Nat) (x1 : Int32) (x2 : Int32) (x3 : Int32) (h : mh) {o : mh}, rec14 x0 x1 x2 x3 h = some o → mB (gO mX7_planes (o, none)) mX7_planes (14, [(0, .ref x0), (1, .int x1), (2, .int x2), (3, .int x3)], [], h, 0, 0)) (hrec27 : ∀ (x0 : Nat) (x1 : Int32) (x2 : Int32) (x3 : Int32) (x4 : Int32) (h : mh) {o : mh}, rec27 x0 x1 x2 x3 x4 h = some o → mB (gO mX7_planes (o, none)) mX7_planes (27, [(0, .ref x0), (1, .int x1), (2, .int x2), (3, .int x3), (4, .int x4)], [], h, 0, 0)) (hrec61 : ∀ (x0 : Nat) (x1 : Int32) (x2 : Int32) (x3 : Int32) (x4 : Int32) (x5 : Int32) (h : mh) {o : mh}, rec61 x0 x1 x2 x3 x4 x5 h = some o → mB (gO mX7_planes (o, none)) mX7_planes (61, [(0, .ref x0), (1, .int x1), (2, .int x2), (3, .int x3), (4, .int x4), (5, .int x5)], [], h, 0, 0)) : ∀ (n : Nat) (x0 : Nat) (x1 : Int32) (x2 : Int32) (x3 : Int32) (x4 : Int32) (x5 : Int32) (x6 : Int64) (x8 : Int32) (h : mh) {o : mh}, fxX7_planes_100 N rec2 rec14 rec27 rec61 n x0 x1 x2 x3 x4 x5 x6 x8 h = some o → mB (gO mX7_planes (o, none)) mX7_planes (100, [(0, .ref x0), (1, .int x1), (2, .int x2), (3, .int x3), (4, .int x4), (5, .int x5), (6, .long x6), (8, .int x8)], [], h, 0, 0) := by
  intro n
  induction n with
  | zero => intro x0 x1 x2 x3 x4 x5 x6 x8 h o hq; cases hq
  | succ n ih =>
    intro x0 x1 x2 x3 x4 x5 x6 x8 h o hq
    unfold fxX7_planes_100 at hq
    refine mB_run odX7_planes 2 (g := (103, [(0, .ref x0), (1, .int x1), (2, .int x2), (3, .int x3), (4, .int x4), (5, .int x5), (6, .long x6), (8, .int x8)], [.ref x0, .int x8], h, 0, 0)) rfl ?_
    obtain ⟨v42, e43, hq⟩ := bsm hq
    refine r_gI odX7_planes rfl rfl e43 ?_
    by_cases c44 : v42 ≤ x8
    · rw [if_pos c44] at hq
      refine ic_ge_T (t := 128) odX7_planes rfl rfl c44 ?_
      refine mB_run odX7_planes 3 (g := (132, [(0, .ref x0), (1, .int x1), (2, .int x2), (3, .int x3), (4, .int x4), (5, .int x5), (6, .long x6), (8, .int x8)], [.long x6, .int x1, .ref x0], h, 0, 0)) rfl ?_
      obtain ⟨f47, k48, hq⟩ := bsm hq
      obtain ⟨o45, e46, hq⟩ := bsm hq
      refine mB_V (as := [.int x1, .long x6]) odX7_planes okX7_faceHere lk_7_208 rfl (exX7_faceHere e46) (kO_at k48) rfl rfl rfl ?_
      show mB _ mX7_planes (135, [(0, .ref x0), (1, .int x1), (2, .int x2), (3, .int x3), (4, .int x4), (5, .int x5), (6, .long x6), (8, .int x8)], [], o45, 0, 0)
      refine mB_lv [0, 1, 2, 3, 4, 5] (lv' := [(0, .ref x0), (1, .int x1), (2, .int x2), (3, .int x3), (4, .int x4), (5, .int x5)]) rfl ?_
      exact exX7_planes_135 hrec2 hrec14 hrec27 hrec61 _ _ _ _ _ _ _ hq
    · rw [if_neg c44] at hq
      refine ic_ge_F (t := 128) odX7_planes rfl rfl c44 ?_
      refine mB_run odX7_planes 1 (g := (110, [(0, .ref x0), (1, .int x1), (2, .int x2), (3, .int x3), (4, .int x4), (5, .int x5), (6, .long x6), (8, .int x8)], [.ref x0], h, 0, 0)) rfl ?_
      obtain ⟨v49, e50, hq⟩ := bsm hq
      refine r_gR odX7_planes rfl rfl e50 ?_
      refine mB_run odX7_planes 1 (g := (114, [(0, .ref x0), (1, .int x1), (2, .int x2), (3, .int x3), (4, .int x4), (5, .int x5), (6, .long x6), (8, .int x8)], [.ref x0, .ref v49], h, 0, 0)) rfl ?_
      obtain ⟨v51, e52, hq⟩ := bsm hq
      refine r_gR odX7_planes rfl rfl e52 ?_
      refine mB_run odX7_planes 1 (g := (119, [(0, .ref x0), (1, .int x1), (2, .int x2), (3, .int x3), (4, .int x4), (5, .int x5), (6, .long x6), (8, .int x8)], [.int x8, .ref v51, .ref v49], h, 0, 0)) rfl ?_
      obtain ⟨v53, e54, hq⟩ := bsm hq
      refine r_aI odX7_planes rfl e54 ?_
      refine mB_run odX7_planes 1 (g := (121, [(0, .ref x0), (1, .int x1), (2, .int x2), (3, .int x3), (4, .int x4), (5, .int x5), (6, .long x6), (8, .int x8)], [.int (1 : Int32), .int v53, .ref v49], h, 0, 0)) rfl ?_
      obtain ⟨h55, e56, hq⟩ := bsm hq
      refine r_wZ odX7_planes rfl e56 ?_
      refine mB_run odX7_planes 2 (g := (100, [(8, .int (x8 + (1 : Int32))), (0, .ref x0), (1, .int x1), (2, .int x2), (3, .int x3), (4, .int x4), (5, .int x5), (6, .long x6)], [], h55, 0, 0)) rfl ?_
      refine mB_lv [1, 2, 3, 4, 5, 6, 7, 0] (lv' := [(0, .ref x0), (1, .int x1), (2, .int x2), (3, .int x3), (4, .int x4), (5, .int x5), (6, .long x6), (8, .int (x8 + (1 : Int32)))]) rfl ?_
      exact ih _ _ _ _ _ _ _ _ _ hq
def fxX7_planes_61 (N : Nat) (rec2 : Nat → Int32 → Int32 → mh → Option mh) (rec14 : Nat → Int32 → Int32 → Int32 → mh → Option mh) (rec27 : Nat → Int32 → Int32 → Int32 → Int32 → mh → Option mh) : Nat → Nat → Int32 → Int32 → Int32 → Int32 → Int32 → mh → Option mh
  | 0, _, _, _, _, _, _, _ => none
  | n + 1, x0, x1, x2, x3, x4, x5, h =>
    if (2 : Int32) ≤ x5 then (
      fxX7_planes_145 N rec2 rec14 rec27 x0 x1 x2 x3 x4 h) else (
      (kO h x0 7).bind fun f26 =>
      (fxX7_height N x0 x2 h).bind fun o24 =>
      (kO o24.1 x0 7).bind fun f30 =>
      (fxX7_isKnown N x0 x1 o24.2 o24.1).bind fun o28 =>
      if o28.2 = 0 then (
        (kO o28.1 x0 7).bind fun f35 =>
        (fxX7_lists N x0 o24.2 o28.1).bind fun o33 =>
        if o33.2 = 0 then (
          fxX7_planes_135 N rec2 rec14 rec27 (fxX7_planes_61 N rec2 rec14 rec27 n) x0 x1 x2 x3 x4 x5 o33.1) else (
          (kO o33.1 x0 7).bind fun f40 =>
          (fxX7_rings N x0 o33.1).bind fun o38 =>
          fxX7_planes_100 N rec2 rec14 rec27 (fxX7_planes_61 N rec2 rec14 rec27 n) N x0 x1 x2 x3 x4 x5 o24.2 (0 : Int32) o38)) else (
        fxX7_planes_135 N rec2 rec14 rec27 (fxX7_planes_61 N rec2 rec14 rec27 n) x0 x1 x2 x3 x4 x5 o28.1))
set_option maxHeartbeats 4000000 in
set_option maxRecDepth 100000 in
theorem exX7_planes_61 {N : Nat} {rec2 : Nat → Int32 → Int32 → mh → Option mh} {rec14 : Nat → Int32 → Int32 → Int32 → mh → Option mh} {rec27 : Nat → Int32 → Int32 → Int32 → Int32 → mh → Option mh} (hrec2 : ∀ (x0 : Nat) (x1 : Int32) (x2 : Int32) (h : mh) {o : mh}, rec2 x0 x1 x2 h = some o → mB (gO mX7_planes (o, none)) mX7_planes (2, [(0, .ref x0), (1, .int x1), (2, .int x2)], [], h, 0, 0)) (hrec14 : ∀ (x0 : Nat) (x1 : Int32) (x2 : Int32) (x3 : Int32) (h : mh) {o : mh}, rec14 x0 x1 x2 x3 h = some o → mB (gO mX7_planes (o, none)) mX7_planes (14, [(0, .ref x0), (1, .int x1), (2, .int x2), (3, .int x3)], [], h, 0, 0)) (hrec27 : ∀ (x0 : Nat) (x1 : Int32) (x2 : Int32) (x3 : Int32) (x4 : Int32) (h : mh) {o : mh}, rec27 x0 x1 x2 x3 x4 h = some o → mB (gO mX7_planes (o, none)) mX7_planes (27, [(0, .ref x0), (1, .int x1), (2, .int x2), (3, .int x3), (4, .int x4)], [], h, 0, 0)) : ∀ (n : Nat) (x0 : Nat) (x1 : Int32) (x2 : Int32) (x3 : Int32) (x4 : Int32) (x5 : Int32) (h : mh) {o : mh}, fxX7_planes_61 N rec2 rec14 rec27 n x0 x1 x2 x3 x4 x5 h = some o → mB (gO mX7_planes (o, none)) mX7_planes (61, [(0, .ref x0), (1, .int x1), (2, .int x2), (3, .int x3), (4, .int x4), (5, .int x5)], [], h, 0, 0) := by
  intro n
  induction n with
  | zero => intro x0 x1 x2 x3 x4 x5 h o hq; cases hq
  | succ n ih =>
    intro x0 x1 x2 x3 x4 x5 h o hq
    unfold fxX7_planes_61 at hq
    refine mB_run odX7_planes 2 (g := (64, [(0, .ref x0), (1, .int x1), (2, .int x2), (3, .int x3), (4, .int x4), (5, .int x5)], [.int (2 : Int32), .int x5], h, 0, 0)) rfl ?_
    by_cases c23 : (2 : Int32) ≤ x5
    · rw [if_pos c23] at hq
      refine ic_ge_T (t := 145) odX7_planes rfl rfl c23 ?_
      refine mB_lv [0, 1, 2, 3, 4] (lv' := [(0, .ref x0), (1, .int x1), (2, .int x2), (3, .int x3), (4, .int x4)]) rfl ?_
      exact exX7_planes_145 hrec2 hrec14 hrec27 _ _ _ _ _ _ hq
    · rw [if_neg c23] at hq
      refine ic_ge_F (t := 145) odX7_planes rfl rfl c23 ?_
      refine mB_run odX7_planes 2 (g := (69, [(0, .ref x0), (1, .int x1), (2, .int x2), (3, .int x3), (4, .int x4), (5, .int x5)], [.int x2, .ref x0], h, 0, 0)) rfl ?_
      obtain ⟨f26, k27, hq⟩ := bsm hq
      obtain ⟨o24, e25, hq⟩ := bsm hq
      refine mB_V (as := [.int x2]) odX7_planes okX7_height lk_7_189 rfl (exX7_height e25) (kO_at k27) rfl rfl rfl ?_
      show mB _ mX7_planes (72, [(0, .ref x0), (1, .int x1), (2, .int x2), (3, .int x3), (4, .int x4), (5, .int x5)], [.long o24.2], o24.1, 0, 0)
      refine mB_run odX7_planes 4 (g := (78, [(6, .long o24.2), (0, .ref x0), (1, .int x1), (2, .int x2), (3, .int x3), (4, .int x4), (5, .int x5)], [.long o24.2, .int x1, .ref x0], o24.1, 0, 0)) rfl ?_
      obtain ⟨f30, k31, hq⟩ := bsm hq
      obtain ⟨o28, e29, hq⟩ := bsm hq
      refine mB_V (as := [.int x1, .long o24.2]) odX7_planes okX7_isKnown lk_7_219 rfl (exX7_isKnown e29) (kO_at k31) rfl rfl rfl ?_
      show mB _ mX7_planes (81, [(6, .long o24.2), (0, .ref x0), (1, .int x1), (2, .int x2), (3, .int x3), (4, .int x4), (5, .int x5)], [.int o28.2], o28.1, 0, 0)
      by_cases c32 : o28.2 = 0
      · rw [if_pos c32] at hq
        refine if_ne_F (t := 135) odX7_planes rfl rfl c32 ?_
        refine mB_run odX7_planes 2 (g := (87, [(6, .long o24.2), (0, .ref x0), (1, .int x1), (2, .int x2), (3, .int x3), (4, .int x4), (5, .int x5)], [.long o24.2, .ref x0], o28.1, 0, 0)) rfl ?_
        obtain ⟨f35, k36, hq⟩ := bsm hq
        obtain ⟨o33, e34, hq⟩ := bsm hq
        refine mB_V (as := [.long o24.2]) odX7_planes okX7_lists lk_7_201 rfl (exX7_lists e34) (kO_at k36) rfl rfl rfl ?_
        show mB _ mX7_planes (90, [(6, .long o24.2), (0, .ref x0), (1, .int x1), (2, .int x2), (3, .int x3), (4, .int x4), (5, .int x5)], [.int o33.2], o33.1, 0, 0)
        by_cases c37 : o33.2 = 0
        · rw [if_pos c37] at hq
          refine if_eq_T (t := 135) odX7_planes rfl rfl c37 ?_
          refine mB_lv [1, 2, 3, 4, 5, 6] (lv' := [(0, .ref x0), (1, .int x1), (2, .int x2), (3, .int x3), (4, .int x4), (5, .int x5)]) rfl ?_
          exact exX7_planes_135 hrec2 hrec14 hrec27 ih _ _ _ _ _ _ _ hq
        · rw [if_neg c37] at hq
          refine if_eq_F (t := 135) odX7_planes rfl rfl c37 ?_
          refine mB_run odX7_planes 1 (g := (94, [(6, .long o24.2), (0, .ref x0), (1, .int x1), (2, .int x2), (3, .int x3), (4, .int x4), (5, .int x5)], [.ref x0], o33.1, 0, 0)) rfl ?_
          obtain ⟨f40, k41, hq⟩ := bsm hq
          obtain ⟨o38, e39, hq⟩ := bsm hq
          refine mB_V (as := []) odX7_planes okX7_rings lk_7_205 rfl (exX7_rings e39) (kO_at k41) rfl rfl rfl ?_
          show mB _ mX7_planes (97, [(6, .long o24.2), (0, .ref x0), (1, .int x1), (2, .int x2), (3, .int x3), (4, .int x4), (5, .int x5)], [], o38, 0, 0)
          refine mB_run odX7_planes 2 (g := (100, [(8, .int (0 : Int32)), (6, .long o24.2), (0, .ref x0), (1, .int x1), (2, .int x2), (3, .int x3), (4, .int x4), (5, .int x5)], [], o38, 0, 0)) rfl ?_
          refine mB_lv [2, 3, 4, 5, 6, 7, 1, 0] (lv' := [(0, .ref x0), (1, .int x1), (2, .int x2), (3, .int x3), (4, .int x4), (5, .int x5), (6, .long o24.2), (8, .int (0 : Int32))]) rfl ?_
          exact exX7_planes_100 hrec2 hrec14 hrec27 ih N _ _ _ _ _ _ _ _ _ hq
      · rw [if_neg c32] at hq
        refine if_ne_T (t := 135) odX7_planes rfl rfl c32 ?_
        refine mB_lv [1, 2, 3, 4, 5, 6] (lv' := [(0, .ref x0), (1, .int x1), (2, .int x2), (3, .int x3), (4, .int x4), (5, .int x5)]) rfl ?_
        exact exX7_planes_135 hrec2 hrec14 hrec27 ih _ _ _ _ _ _ _ hq
def fxX7_planes_27 (N : Nat) (rec2 : Nat → Int32 → Int32 → mh → Option mh) (rec14 : Nat → Int32 → Int32 → Int32 → mh → Option mh) : Nat → Nat → Int32 → Int32 → Int32 → Int32 → mh → Option mh
  | 0, _, _, _, _, _, _ => none
  | n + 1, x0, x1, x2, x3, x4, h =>
    (gI h x0 7 15).bind fun v7 =>
    if v7 ≤ x4 then (
      rec14 x0 x1 x2 (x3 + (1 : Int32)) h) else (
      (kO h x0 7).bind fun f12 =>
      (fxX7_across N x0 x2 x3 x4 h).bind fun o10 =>
      (kO o10 x0 7).bind fun f16 =>
      (fxX7_isFlat N x0 o10).bind fun o14 =>
      if o14.2 = 0 then (
        (kO o14.1 x0 7).bind fun f21 =>
        (fxX7_plain N x0 o14.1).bind fun o19 =>
        fxX7_planes_61 N rec2 rec14 (fxX7_planes_27 N rec2 rec14 n) N x0 x1 x2 x3 x4 (0 : Int32) o19) else (
        fxX7_planes_145 N rec2 rec14 (fxX7_planes_27 N rec2 rec14 n) x0 x1 x2 x3 x4 o14.1))
set_option maxHeartbeats 4000000 in
set_option maxRecDepth 100000 in
theorem exX7_planes_27 {N : Nat} {rec2 : Nat → Int32 → Int32 → mh → Option mh} {rec14 : Nat → Int32 → Int32 → Int32 → mh → Option mh} (hrec2 : ∀ (x0 : Nat) (x1 : Int32) (x2 : Int32) (h : mh) {o : mh}, rec2 x0 x1 x2 h = some o → mB (gO mX7_planes (o, none)) mX7_planes (2, [(0, .ref x0), (1, .int x1), (2, .int x2)], [], h, 0, 0)) (hrec14 : ∀ (x0 : Nat) (x1 : Int32) (x2 : Int32) (x3 : Int32) (h : mh) {o : mh}, rec14 x0 x1 x2 x3 h = some o → mB (gO mX7_planes (o, none)) mX7_planes (14, [(0, .ref x0), (1, .int x1), (2, .int x2), (3, .int x3)], [], h, 0, 0)) : ∀ (n : Nat) (x0 : Nat) (x1 : Int32) (x2 : Int32) (x3 : Int32) (x4 : Int32) (h : mh) {o : mh}, fxX7_planes_27 N rec2 rec14 n x0 x1 x2 x3 x4 h = some o → mB (gO mX7_planes (o, none)) mX7_planes (27, [(0, .ref x0), (1, .int x1), (2, .int x2), (3, .int x3), (4, .int x4)], [], h, 0, 0) := by
  intro n
  induction n with
  | zero => intro x0 x1 x2 x3 x4 h o hq; cases hq
  | succ n ih =>
    intro x0 x1 x2 x3 x4 h o hq
    unfold fxX7_planes_27 at hq
    refine mB_run odX7_planes 2 (g := (30, [(0, .ref x0), (1, .int x1), (2, .int x2), (3, .int x3), (4, .int x4)], [.ref x0, .int x4], h, 0, 0)) rfl ?_
    obtain ⟨v7, e8, hq⟩ := bsm hq
    refine r_gI odX7_planes rfl rfl e8 ?_
    by_cases c9 : v7 ≤ x4
    · rw [if_pos c9] at hq
      refine ic_ge_T (t := 151) odX7_planes rfl rfl c9 ?_
      refine mB_run odX7_planes 2 (g := (14, [(3, .int (x3 + (1 : Int32))), (0, .ref x0), (1, .int x1), (2, .int x2), (4, .int x4)], [], h, 0, 0)) rfl ?_
      refine mB_lv [1, 2, 3, 0] (lv' := [(0, .ref x0), (1, .int x1), (2, .int x2), (3, .int (x3 + (1 : Int32)))]) rfl ?_
      exact hrec14 _ _ _ _ _ hq
    · rw [if_neg c9] at hq
      refine ic_ge_F (t := 151) odX7_planes rfl rfl c9 ?_
      refine mB_run odX7_planes 4 (g := (41, [(0, .ref x0), (1, .int x1), (2, .int x2), (3, .int x3), (4, .int x4)], [.int x4, .int x3, .int x2, .ref x0], h, 0, 0)) rfl ?_
      obtain ⟨f12, k13, hq⟩ := bsm hq
      obtain ⟨o10, e11, hq⟩ := bsm hq
      refine mB_V (as := [.int x2, .int x3, .int x4]) odX7_planes okX7_across lk_7_178 rfl (exX7_across e11) (kO_at k13) rfl rfl rfl ?_
      show mB _ mX7_planes (44, [(0, .ref x0), (1, .int x1), (2, .int x2), (3, .int x3), (4, .int x4)], [], o10, 0, 0)
      refine mB_run odX7_planes 1 (g := (45, [(0, .ref x0), (1, .int x1), (2, .int x2), (3, .int x3), (4, .int x4)], [.ref x0], o10, 0, 0)) rfl ?_
      obtain ⟨f16, k17, hq⟩ := bsm hq
      obtain ⟨o14, e15, hq⟩ := bsm hq
      refine mB_V (as := []) odX7_planes okX7_isFlat lk_7_182 rfl (exX7_isFlat e15) (kO_at k17) rfl rfl rfl ?_
      show mB _ mX7_planes (48, [(0, .ref x0), (1, .int x1), (2, .int x2), (3, .int x3), (4, .int x4)], [.int o14.2], o14.1, 0, 0)
      by_cases c18 : o14.2 = 0
      · rw [if_pos c18] at hq
        refine if_eq_T (t := 54) odX7_planes rfl rfl c18 ?_
        refine mB_run odX7_planes 1 (g := (55, [(0, .ref x0), (1, .int x1), (2, .int x2), (3, .int x3), (4, .int x4)], [.ref x0], o14.1, 0, 0)) rfl ?_
        obtain ⟨f21, k22, hq⟩ := bsm hq
        obtain ⟨o19, e20, hq⟩ := bsm hq
        refine mB_V (as := []) odX7_planes okX7_plain lk_7_186 rfl (exX7_plain e20) (kO_at k22) rfl rfl rfl ?_
        show mB _ mX7_planes (58, [(0, .ref x0), (1, .int x1), (2, .int x2), (3, .int x3), (4, .int x4)], [], o19, 0, 0)
        refine mB_run odX7_planes 2 (g := (61, [(5, .int (0 : Int32)), (0, .ref x0), (1, .int x1), (2, .int x2), (3, .int x3), (4, .int x4)], [], o19, 0, 0)) rfl ?_
        refine mB_lv [1, 2, 3, 4, 5, 0] (lv' := [(0, .ref x0), (1, .int x1), (2, .int x2), (3, .int x3), (4, .int x4), (5, .int (0 : Int32))]) rfl ?_
        exact exX7_planes_61 hrec2 hrec14 ih N _ _ _ _ _ _ _ hq
      · rw [if_neg c18] at hq
        refine if_eq_F (t := 54) odX7_planes rfl rfl c18 ?_
        refine mB_run odX7_planes 1 (g := (145, [(0, .ref x0), (1, .int x1), (2, .int x2), (3, .int x3), (4, .int x4)], [], o14.1, 0, 0)) rfl ?_
        refine mB_lv [0, 1, 2, 3, 4] (lv' := [(0, .ref x0), (1, .int x1), (2, .int x2), (3, .int x3), (4, .int x4)]) rfl ?_
        exact exX7_planes_145 hrec2 hrec14 ih _ _ _ _ _ _ hq
def fxX7_planes_14 (N : Nat) (rec2 : Nat → Int32 → Int32 → mh → Option mh) : Nat → Nat → Int32 → Int32 → Int32 → mh → Option mh
  | 0, _, _, _, _, _ => none
  | n + 1, x0, x1, x2, x3, h =>
    (gI h x0 7 15).bind fun v4 =>
    if v4 ≤ x3 then (
      rec2 x0 x1 (x2 + (1 : Int32)) h) else (
      fxX7_planes_27 N rec2 (fxX7_planes_14 N rec2 n) N x0 x1 x2 x3 (x3 + (1 : Int32)) h)
set_option maxHeartbeats 4000000 in
set_option maxRecDepth 100000 in
theorem exX7_planes_14 {N : Nat} {rec2 : Nat → Int32 → Int32 → mh → Option mh} (hrec2 : ∀ (x0 : Nat) (x1 : Int32) (x2 : Int32) (h : mh) {o : mh}, rec2 x0 x1 x2 h = some o → mB (gO mX7_planes (o, none)) mX7_planes (2, [(0, .ref x0), (1, .int x1), (2, .int x2)], [], h, 0, 0)) : ∀ (n : Nat) (x0 : Nat) (x1 : Int32) (x2 : Int32) (x3 : Int32) (h : mh) {o : mh}, fxX7_planes_14 N rec2 n x0 x1 x2 x3 h = some o → mB (gO mX7_planes (o, none)) mX7_planes (14, [(0, .ref x0), (1, .int x1), (2, .int x2), (3, .int x3)], [], h, 0, 0) := by
  intro n
  induction n with
  | zero => intro x0 x1 x2 x3 h o hq; cases hq
  | succ n ih =>
    intro x0 x1 x2 x3 h o hq
    unfold fxX7_planes_14 at hq
    refine mB_run odX7_planes 2 (g := (16, [(0, .ref x0), (1, .int x1), (2, .int x2), (3, .int x3)], [.ref x0, .int x3], h, 0, 0)) rfl ?_
    obtain ⟨v4, e5, hq⟩ := bsm hq
    refine r_gI odX7_planes rfl rfl e5 ?_
    by_cases c6 : v4 ≤ x3
    · rw [if_pos c6] at hq
      refine ic_ge_T (t := 157) odX7_planes rfl rfl c6 ?_
      refine mB_run odX7_planes 2 (g := (2, [(2, .int (x2 + (1 : Int32))), (0, .ref x0), (1, .int x1), (3, .int x3)], [], h, 0, 0)) rfl ?_
      refine mB_lv [1, 2, 0] (lv' := [(0, .ref x0), (1, .int x1), (2, .int (x2 + (1 : Int32)))]) rfl ?_
      exact hrec2 _ _ _ _ hq
    · rw [if_neg c6] at hq
      refine ic_ge_F (t := 157) odX7_planes rfl rfl c6 ?_
      refine mB_run odX7_planes 4 (g := (27, [(4, .int (x3 + (1 : Int32))), (0, .ref x0), (1, .int x1), (2, .int x2), (3, .int x3)], [], h, 0, 0)) rfl ?_
      refine mB_lv [1, 2, 3, 4, 0] (lv' := [(0, .ref x0), (1, .int x1), (2, .int x2), (3, .int x3), (4, .int (x3 + (1 : Int32)))]) rfl ?_
      exact exX7_planes_27 hrec2 ih N _ _ _ _ _ _ hq
def fxX7_planes_2 (N : Nat) : Nat → Nat → Int32 → Int32 → mh → Option mh
  | 0, _, _, _, _ => none
  | n + 1, x0, x1, x2, h =>
    (gI h x0 7 15).bind fun v1 =>
    if v1 ≤ x2 then (
      some h) else (
      fxX7_planes_14 N (fxX7_planes_2 N n) N x0 x1 x2 (x2 + (1 : Int32)) h)
set_option maxHeartbeats 4000000 in
set_option maxRecDepth 100000 in
theorem exX7_planes_2 {N : Nat} : ∀ (n : Nat) (x0 : Nat) (x1 : Int32) (x2 : Int32) (h : mh) {o : mh}, fxX7_planes_2 N n x0 x1 x2 h = some o → mB (gO mX7_planes (o, none)) mX7_planes (2, [(0, .ref x0), (1, .int x1), (2, .int x2)], [], h, 0, 0) := by
  intro n
  induction n with
  | zero => intro x0 x1 x2 h o hq; cases hq
  | succ n ih =>
    intro x0 x1 x2 h o hq
    unfold fxX7_planes_2 at hq
    refine mB_run odX7_planes 2 (g := (4, [(0, .ref x0), (1, .int x1), (2, .int x2)], [.ref x0, .int x2], h, 0, 0)) rfl ?_
    obtain ⟨v1, e2, hq⟩ := bsm hq
    refine r_gI odX7_planes rfl rfl e2 ?_
    by_cases c3 : v1 ≤ x2
    · rw [if_pos c3] at hq
      refine ic_ge_T (t := 163) odX7_planes rfl rfl c3 ?_
      cases hq
      exact mB_ret odX7_planes rfl
    · rw [if_neg c3] at hq
      refine ic_ge_F (t := 163) odX7_planes rfl rfl c3 ?_
      refine mB_run odX7_planes 4 (g := (14, [(3, .int (x2 + (1 : Int32))), (0, .ref x0), (1, .int x1), (2, .int x2)], [], h, 0, 0)) rfl ?_
      refine mB_lv [1, 2, 3, 0] (lv' := [(0, .ref x0), (1, .int x1), (2, .int x2), (3, .int (x2 + (1 : Int32)))]) rfl ?_
      exact exX7_planes_14 ih N _ _ _ _ _ hq
def fxX7_planes (N : Nat) (p0 : Nat) (p1 : Int32) (h : mh) : Option mh :=
  fxX7_planes_2 N N p0 p1 (0 : Int32) h
set_option maxHeartbeats 4000000 in
set_option maxRecDepth 100000 in
theorem exX7_planes {N : Nat} {p0 : Nat} {p1 : Int32} {h : mh} {o : mh} (hq : fxX7_planes N p0 p1 h = some o) : mC mX7_planes [.ref p0, .int p1] h (o, none) := by
  refine mC_of okX7_planes (Nat.le_of_ble_eq_true rfl) ?_
  unfold fxX7_planes at hq
  show mB _ mX7_planes (0, [(0, .ref p0), (1, .int p1)], [], h, 0, 0)
  refine mB_run odX7_planes 2 (g := (2, [(2, .int (0 : Int32)), (0, .ref p0), (1, .int p1)], [], h, 0, 0)) rfl ?_
  refine mB_lv [1, 2, 0] (lv' := [(0, .ref p0), (1, .int p1), (2, .int (0 : Int32))]) rfl ?_
  exact exX7_planes_2 N _ _ _ _ hq
