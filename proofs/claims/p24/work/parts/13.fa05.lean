def fxX3_putInOrder_88 (N : Nat) (x0 : Nat) (x1 : Int32) (x2 : Int32) (x3 : Int32) (x4 : Int32) (h : mh) : Option mh :=
  (kO h x0 3).bind fun f38 =>
  (fxX3_replace N x0 x4 x1 x2 x3 h).bind fun o36 =>
  some o36.1
set_option maxHeartbeats 4000000 in
set_option maxRecDepth 100000 in
theorem eaX3_putInOrder_88 {N : Nat} {R : mh} (x0 : Nat) (x1 : Int32) (x2 : Int32) (x3 : Int32) (x4 : Int32) (h : mh) {o : mh} (hq : fxX3_putInOrder_88 N x0 x1 x2 x3 x4 h = some o) : mB (gO mX3_putInOrder (o ++ R, none)) mX3_putInOrder (88, [(0, .ref x0), (1, .int x1), (2, .int x2), (3, .int x3), (4, .int x4)], [], (h ++ R), 0, 0) := by
  unfold fxX3_putInOrder_88 at hq
  refine mB_run odX3_putInOrder 5 (g := (94, [(0, .ref x0), (1, .int x1), (2, .int x2), (3, .int x3), (4, .int x4)], [.int x3, .int x2, .int x1, .int x4, .ref x0], (h ++ R), 0, 0)) rfl ?_
  obtain ⟨f38, k39, hq⟩ := bsm hq
  obtain ⟨o36, e37, hq⟩ := bsm hq
  refine mB_V (as := [.int x4, .int x1, .int x2, .int x3]) odX3_putInOrder okX3_replace lk_3_34 rfl (eaX3_replace e37) (kO_at (kO_ap k39)) rfl rfl rfl ?_
  show mB _ mX3_putInOrder (97, [(0, .ref x0), (1, .int x1), (2, .int x2), (3, .int x3), (4, .int x4)], [.int o36.2], (o36.1 ++ R), 0, 0)
  refine mB_run odX3_putInOrder 1 (g := (98, [(0, .ref x0), (1, .int x1), (2, .int x2), (3, .int x3), (4, .int x4)], [], (o36.1 ++ R), 0, 0)) rfl ?_
  cases hq
  exact mB_ret odX3_putInOrder rfl
def fxX3_putInOrder_29 (N : Nat) : Nat → Nat → Int32 → Int32 → Int32 → Int32 → mh → Option mh
  | 0, _, _, _, _, _, _ => none
  | n + 1, x0, x1, x2, x3, x4, h =>
    if x4 ≤ 0 then (
      fxX3_putInOrder_88 N x0 x1 x2 x3 x4 h) else (
      (kO h x0 3).bind fun f17 =>
      (fxX3_isLess N x0 x1 x2 x3 (x4 - (1 : Int32)) h).bind fun o15 =>
      if o15.2 = 0 then (
        fxX3_putInOrder_88 N x0 x1 x2 x3 x4 o15.1) else (
        (gR o15.1 x0 3 1).bind fun v20 =>
        (aI o15.1 v20 (x4 - (1 : Int32))).bind fun v22 =>
        (gR o15.1 x0 3 2).bind fun v24 =>
        (aI o15.1 v24 (x4 - (1 : Int32))).bind fun v26 =>
        (gR o15.1 x0 3 3).bind fun v28 =>
        (aI o15.1 v28 (x4 - (1 : Int32))).bind fun v30 =>
        (kO o15.1 x0 3).bind fun f34 =>
        (fxX3_replace N x0 x4 v22 v26 v30 o15.1).bind fun o32 =>
        fxX3_putInOrder_29 N n x0 x1 x2 x3 (x4 + (-1 : Int32)) o32.1))
set_option maxHeartbeats 4000000 in
set_option maxRecDepth 100000 in
theorem eaX3_putInOrder_29 {N : Nat} {R : mh} : ∀ (n : Nat) (x0 : Nat) (x1 : Int32) (x2 : Int32) (x3 : Int32) (x4 : Int32) (h : mh) {o : mh}, fxX3_putInOrder_29 N n x0 x1 x2 x3 x4 h = some o → mB (gO mX3_putInOrder (o ++ R, none)) mX3_putInOrder (29, [(0, .ref x0), (1, .int x1), (2, .int x2), (3, .int x3), (4, .int x4)], [], (h ++ R), 0, 0) := by
  intro n
  induction n with
  | zero => intro x0 x1 x2 x3 x4 h o hq; cases hq
  | succ n ih =>
    intro x0 x1 x2 x3 x4 h o hq
    unfold fxX3_putInOrder_29 at hq
    refine mB_run odX3_putInOrder 1 (g := (31, [(0, .ref x0), (1, .int x1), (2, .int x2), (3, .int x3), (4, .int x4)], [.int x4], (h ++ R), 0, 0)) rfl ?_
    by_cases c14 : x4 ≤ 0
    · rw [if_pos c14] at hq
      refine if_le_T (t := 88) odX3_putInOrder rfl rfl c14 ?_
      refine mB_lv [0, 1, 2, 3, 4] (lv' := [(0, .ref x0), (1, .int x1), (2, .int x2), (3, .int x3), (4, .int x4)]) rfl ?_
      exact eaX3_putInOrder_88 _ _ _ _ _ _ hq
    · rw [if_neg c14] at hq
      refine if_le_F (t := 88) odX3_putInOrder rfl rfl c14 ?_
      refine mB_run odX3_putInOrder 7 (g := (42, [(0, .ref x0), (1, .int x1), (2, .int x2), (3, .int x3), (4, .int x4)], [.int (x4 - (1 : Int32)), .int x3, .int x2, .int x1, .ref x0], (h ++ R), 0, 0)) rfl ?_
      obtain ⟨f17, k18, hq⟩ := bsm hq
      obtain ⟨o15, e16, hq⟩ := bsm hq
      refine mB_V (as := [.int x1, .int x2, .int x3, .int (x4 - (1 : Int32))]) odX3_putInOrder okX3_isLess lk_3_30 rfl (eaX3_isLess e16) (kO_at (kO_ap k18)) rfl rfl rfl ?_
      show mB _ mX3_putInOrder (45, [(0, .ref x0), (1, .int x1), (2, .int x2), (3, .int x3), (4, .int x4)], [.int o15.2], (o15.1 ++ R), 0, 0)
      by_cases c19 : o15.2 = 0
      · rw [if_pos c19] at hq
        refine if_eq_T (t := 88) odX3_putInOrder rfl rfl c19 ?_
        refine mB_lv [0, 1, 2, 3, 4] (lv' := [(0, .ref x0), (1, .int x1), (2, .int x2), (3, .int x3), (4, .int x4)]) rfl ?_
        exact eaX3_putInOrder_88 _ _ _ _ _ _ hq
      · rw [if_neg c19] at hq
        refine if_eq_F (t := 88) odX3_putInOrder rfl rfl c19 ?_
        refine mB_run odX3_putInOrder 3 (g := (52, [(0, .ref x0), (1, .int x1), (2, .int x2), (3, .int x3), (4, .int x4)], [.ref x0, .int x4, .ref x0], (o15.1 ++ R), 0, 0)) rfl ?_
        obtain ⟨v20, e21, hq⟩ := bsm hq
        refine r_gR odX3_putInOrder rfl rfl (gR_ap e21) ?_
        refine mB_run odX3_putInOrder 3 (g := (59, [(0, .ref x0), (1, .int x1), (2, .int x2), (3, .int x3), (4, .int x4)], [.int (x4 - (1 : Int32)), .ref v20, .int x4, .ref x0], (o15.1 ++ R), 0, 0)) rfl ?_
        obtain ⟨v22, e23, hq⟩ := bsm hq
        refine r_aI odX3_putInOrder rfl (aI_ap e23) ?_
        refine mB_run odX3_putInOrder 1 (g := (61, [(0, .ref x0), (1, .int x1), (2, .int x2), (3, .int x3), (4, .int x4)], [.ref x0, .int v22, .int x4, .ref x0], (o15.1 ++ R), 0, 0)) rfl ?_
        obtain ⟨v24, e25, hq⟩ := bsm hq
        refine r_gR odX3_putInOrder rfl rfl (gR_ap e25) ?_
        refine mB_run odX3_putInOrder 3 (g := (68, [(0, .ref x0), (1, .int x1), (2, .int x2), (3, .int x3), (4, .int x4)], [.int (x4 - (1 : Int32)), .ref v24, .int v22, .int x4, .ref x0], (o15.1 ++ R), 0, 0)) rfl ?_
        obtain ⟨v26, e27, hq⟩ := bsm hq
        refine r_aI odX3_putInOrder rfl (aI_ap e27) ?_
        refine mB_run odX3_putInOrder 1 (g := (70, [(0, .ref x0), (1, .int x1), (2, .int x2), (3, .int x3), (4, .int x4)], [.ref x0, .int v26, .int v22, .int x4, .ref x0], (o15.1 ++ R), 0, 0)) rfl ?_
        obtain ⟨v28, e29, hq⟩ := bsm hq
        refine r_gR odX3_putInOrder rfl rfl (gR_ap e29) ?_
        refine mB_run odX3_putInOrder 3 (g := (77, [(0, .ref x0), (1, .int x1), (2, .int x2), (3, .int x3), (4, .int x4)], [.int (x4 - (1 : Int32)), .ref v28, .int v26, .int v22, .int x4, .ref x0], (o15.1 ++ R), 0, 0)) rfl ?_
        obtain ⟨v30, e31, hq⟩ := bsm hq
        refine r_aI odX3_putInOrder rfl (aI_ap e31) ?_
        obtain ⟨f34, k35, hq⟩ := bsm hq
        obtain ⟨o32, e33, hq⟩ := bsm hq
        refine mB_V (as := [.int x4, .int v22, .int v26, .int v30]) odX3_putInOrder okX3_replace lk_3_34 rfl (eaX3_replace e33) (kO_at (kO_ap k35)) rfl rfl rfl ?_
        show mB _ mX3_putInOrder (81, [(0, .ref x0), (1, .int x1), (2, .int x2), (3, .int x3), (4, .int x4)], [.int o32.2], (o32.1 ++ R), 0, 0)
        refine mB_run odX3_putInOrder 3 (g := (29, [(4, .int (x4 + (-1 : Int32))), (0, .ref x0), (1, .int x1), (2, .int x2), (3, .int x3)], [], (o32.1 ++ R), 0, 0)) rfl ?_
        refine mB_lv [1, 2, 3, 4, 0] (lv' := [(0, .ref x0), (1, .int x1), (2, .int x2), (3, .int x3), (4, .int (x4 + (-1 : Int32)))]) rfl ?_
        exact ih _ _ _ _ _ _ hq
def fxX3_putInOrder (N : Nat) (p0 : Nat) (p1 : Int32) (p2 : Int32) (p3 : Int32) (h : mh) : Option mh :=
  (gI h p0 3 0).bind fun v1 =>
  (gR h p0 3 1).bind fun v3 =>
  (aL h v3).bind fun v5 =>
  if v1 < v5 then (
    (gI h p0 3 0).bind fun v8 =>
    (gI h p0 3 0).bind fun v10 =>
    (sV h p0 3 0 (.int (v10 + (1 : Int32)))).bind fun h12 =>
    fxX3_putInOrder_29 N N p0 p1 p2 p3 v8 h12) else (
    some h)
set_option maxHeartbeats 4000000 in
set_option maxRecDepth 100000 in
theorem eaX3_putInOrder {N : Nat} {R : mh} {p0 : Nat} {p1 : Int32} {p2 : Int32} {p3 : Int32} {h : mh} {o : mh} (hq : fxX3_putInOrder N p0 p1 p2 p3 h = some o) : mC mX3_putInOrder [.ref p0, .int p1, .int p2, .int p3] (h ++ R) (o ++ R, none) := by
  refine mC_of okX3_putInOrder (Nat.le_of_ble_eq_true rfl) ?_
  unfold fxX3_putInOrder at hq
  show mB _ mX3_putInOrder (0, [(0, .ref p0), (1, .int p1), (2, .int p2), (3, .int p3)], [], (h ++ R), 0, 0)
  refine mB_run odX3_putInOrder 1 (g := (1, [(0, .ref p0), (1, .int p1), (2, .int p2), (3, .int p3)], [.ref p0], (h ++ R), 0, 0)) rfl ?_
  obtain ⟨v1, e2, hq⟩ := bsm hq
  refine r_gI odX3_putInOrder rfl rfl (gI_ap e2) ?_
  refine mB_run odX3_putInOrder 1 (g := (5, [(0, .ref p0), (1, .int p1), (2, .int p2), (3, .int p3)], [.ref p0, .int v1], (h ++ R), 0, 0)) rfl ?_
  obtain ⟨v3, e4, hq⟩ := bsm hq
  refine r_gR odX3_putInOrder rfl rfl (gR_ap e4) ?_
  obtain ⟨v5, e6, hq⟩ := bsm hq
  refine r_aL odX3_putInOrder rfl (aL_ap e6) ?_
  by_cases c7 : v1 < v5
  · rw [if_pos c7] at hq
    refine ic_lt_T (t := 13) odX3_putInOrder rfl rfl c7 ?_
    refine mB_run odX3_putInOrder 1 (g := (14, [(0, .ref p0), (1, .int p1), (2, .int p2), (3, .int p3)], [.ref p0], (h ++ R), 0, 0)) rfl ?_
    obtain ⟨v8, e9, hq⟩ := bsm hq
    refine r_gI odX3_putInOrder rfl rfl (gI_ap e9) ?_
    refine mB_run odX3_putInOrder 3 (g := (21, [(4, .int v8), (0, .ref p0), (1, .int p1), (2, .int p2), (3, .int p3)], [.ref p0, .ref p0], (h ++ R), 0, 0)) rfl ?_
    obtain ⟨v10, e11, hq⟩ := bsm hq
    refine r_gI odX3_putInOrder rfl rfl (gI_ap e11) ?_
    refine mB_run odX3_putInOrder 2 (g := (26, [(4, .int v8), (0, .ref p0), (1, .int p1), (2, .int p2), (3, .int p3)], [.int (v10 + (1 : Int32)), .ref p0], (h ++ R), 0, 0)) rfl ?_
    obtain ⟨h12, e13, hq⟩ := bsm hq
    refine r_sV odX3_putInOrder rfl rfl rfl rfl (sV_ap e13) ?_
    refine mB_lv [1, 2, 3, 4, 0] (lv' := [(0, .ref p0), (1, .int p1), (2, .int p2), (3, .int p3), (4, .int v8)]) rfl ?_
    exact eaX3_putInOrder_29 N _ _ _ _ _ _ hq
  · rw [if_neg c7] at hq
    refine ic_lt_F (t := 13) odX3_putInOrder rfl rfl c7 ?_
    cases hq
    exact mB_ret odX3_putInOrder rfl
def fxX5_touches (N : Nat) (p0 : Nat) (p1 : Int32) (p2 : Int32) (h : mh) : Option (mh × Int32) :=
  (gR h p0 5 2).bind fun v1 =>
  (aI h v1 ((3 : Int32) * p1)).bind fun v3 =>
  if v3 = p2 then (
    some (h, (1 : Int32))) else (
    (gR h p0 5 2).bind fun v6 =>
    (aI h v6 (((3 : Int32) * p1) + (1 : Int32))).bind fun v8 =>
    if v8 = p2 then (
      some (h, (1 : Int32))) else (
      (gR h p0 5 2).bind fun v11 =>
      (aI h v11 (((3 : Int32) * p1) + (2 : Int32))).bind fun v13 =>
      if v13 = p2 then (
        some (h, (1 : Int32))) else (
        some (h, (0 : Int32)))))
set_option maxHeartbeats 4000000 in
set_option maxRecDepth 100000 in
theorem eaX5_touches {N : Nat} {R : mh} {p0 : Nat} {p1 : Int32} {p2 : Int32} {h : mh} {o : (mh × Int32)} (hq : fxX5_touches N p0 p1 p2 h = some o) : mC mX5_touches [.ref p0, .int p1, .int p2] (h ++ R) (o.1 ++ R, some (.int o.2)) := by
  refine mC_of okX5_touches (Nat.le_of_ble_eq_true rfl) ?_
  unfold fxX5_touches at hq
  show mB _ mX5_touches (0, [(0, .ref p0), (1, .int p1), (2, .int p2)], [], (h ++ R), 0, 0)
  refine mB_run odX5_touches 1 (g := (1, [(0, .ref p0), (1, .int p1), (2, .int p2)], [.ref p0], (h ++ R), 0, 0)) rfl ?_
  obtain ⟨v1, e2, hq⟩ := bsm hq
  refine r_gR odX5_touches rfl rfl (gR_ap e2) ?_
  refine mB_run odX5_touches 3 (g := (7, [(0, .ref p0), (1, .int p1), (2, .int p2)], [.int ((3 : Int32) * p1), .ref v1], (h ++ R), 0, 0)) rfl ?_
  obtain ⟨v3, e4, hq⟩ := bsm hq
  refine r_aI odX5_touches rfl (aI_ap e4) ?_
  refine mB_run odX5_touches 1 (g := (9, [(0, .ref p0), (1, .int p1), (2, .int p2)], [.int p2, .int v3], (h ++ R), 0, 0)) rfl ?_
  by_cases c5 : v3 = p2
  · rw [if_pos c5] at hq
    refine ic_eq_T (t := 40) odX5_touches rfl rfl c5 ?_
    refine mB_run odX5_touches 2 (g := (45, [(0, .ref p0), (1, .int p1), (2, .int p2)], [.int (1 : Int32)], (h ++ R), 0, 0)) rfl ?_
    cases hq
    exact mB_ret odX5_touches rfl
  · rw [if_neg c5] at hq
    refine ic_eq_F (t := 40) odX5_touches rfl rfl c5 ?_
    refine mB_run odX5_touches 1 (g := (13, [(0, .ref p0), (1, .int p1), (2, .int p2)], [.ref p0], (h ++ R), 0, 0)) rfl ?_
    obtain ⟨v6, e7, hq⟩ := bsm hq
    refine r_gR odX5_touches rfl rfl (gR_ap e7) ?_
    refine mB_run odX5_touches 5 (g := (21, [(0, .ref p0), (1, .int p1), (2, .int p2)], [.int (((3 : Int32) * p1) + (1 : Int32)), .ref v6], (h ++ R), 0, 0)) rfl ?_
    obtain ⟨v8, e9, hq⟩ := bsm hq
    refine r_aI odX5_touches rfl (aI_ap e9) ?_
    refine mB_run odX5_touches 1 (g := (23, [(0, .ref p0), (1, .int p1), (2, .int p2)], [.int p2, .int v8], (h ++ R), 0, 0)) rfl ?_
    by_cases c10 : v8 = p2
    · rw [if_pos c10] at hq
      refine ic_eq_T (t := 40) odX5_touches rfl rfl c10 ?_
      refine mB_run odX5_touches 2 (g := (45, [(0, .ref p0), (1, .int p1), (2, .int p2)], [.int (1 : Int32)], (h ++ R), 0, 0)) rfl ?_
      cases hq
      exact mB_ret odX5_touches rfl
    · rw [if_neg c10] at hq
      refine ic_eq_F (t := 40) odX5_touches rfl rfl c10 ?_
      refine mB_run odX5_touches 1 (g := (27, [(0, .ref p0), (1, .int p1), (2, .int p2)], [.ref p0], (h ++ R), 0, 0)) rfl ?_
      obtain ⟨v11, e12, hq⟩ := bsm hq
      refine r_gR odX5_touches rfl rfl (gR_ap e12) ?_
      refine mB_run odX5_touches 5 (g := (35, [(0, .ref p0), (1, .int p1), (2, .int p2)], [.int (((3 : Int32) * p1) + (2 : Int32)), .ref v11], (h ++ R), 0, 0)) rfl ?_
      obtain ⟨v13, e14, hq⟩ := bsm hq
      refine r_aI odX5_touches rfl (aI_ap e14) ?_
      refine mB_run odX5_touches 1 (g := (37, [(0, .ref p0), (1, .int p1), (2, .int p2)], [.int p2, .int v13], (h ++ R), 0, 0)) rfl ?_
      by_cases c15 : v13 = p2
      · rw [if_pos c15] at hq
        refine ic_ne_F (t := 44) odX5_touches rfl rfl c15 ?_
        refine mB_run odX5_touches 2 (g := (45, [(0, .ref p0), (1, .int p1), (2, .int p2)], [.int (1 : Int32)], (h ++ R), 0, 0)) rfl ?_
        cases hq
        exact mB_ret odX5_touches rfl
      · rw [if_neg c15] at hq
        refine ic_ne_T (t := 44) odX5_touches rfl rfl c15 ?_
        refine mB_run odX5_touches 1 (g := (45, [(0, .ref p0), (1, .int p1), (2, .int p2)], [.int (0 : Int32)], (h ++ R), 0, 0)) rfl ?_
        cases hq
        exact mB_ret odX5_touches rfl
def fxX2_fill_64 (N : Nat) (rec16 : Nat → Nat → Int32 → Nat → Int32 → mh → Option mh) (x0 : Nat) (x1 : Nat) (x2 : Int32) (x3 : Nat) (x4 : Int32) (h : mh) : Option mh :=
  rec16 x0 x1 x2 x3 (x4 + (1 : Int32)) h
set_option maxHeartbeats 4000000 in
set_option maxRecDepth 100000 in
theorem eaX2_fill_64 {N : Nat} {R : mh} {rec16 : Nat → Nat → Int32 → Nat → Int32 → mh → Option mh} (hrec16 : ∀ (x0 : Nat) (x1 : Nat) (x2 : Int32) (x3 : Nat) (x4 : Int32) (h : mh) {o : mh}, rec16 x0 x1 x2 x3 x4 h = some o → mB (gO mX2_fill (o ++ R, none)) mX2_fill (16, [(0, .ref x0), (1, .ref x1), (2, .int x2), (3, .ref x3), (4, .int x4)], [], (h ++ R), 0, 0)) (x0 : Nat) (x1 : Nat) (x2 : Int32) (x3 : Nat) (x4 : Int32) (h : mh) {o : mh} (hq : fxX2_fill_64 N rec16 x0 x1 x2 x3 x4 h = some o) : mB (gO mX2_fill (o ++ R, none)) mX2_fill (64, [(0, .ref x0), (1, .ref x1), (2, .int x2), (3, .ref x3), (4, .int x4)], [], (h ++ R), 0, 0) := by
  unfold fxX2_fill_64 at hq
  refine mB_run odX2_fill 2 (g := (16, [(4, .int (x4 + (1 : Int32))), (0, .ref x0), (1, .ref x1), (2, .int x2), (3, .ref x3)], [], (h ++ R), 0, 0)) rfl ?_
  refine mB_lv [1, 2, 3, 4, 0] (lv' := [(0, .ref x0), (1, .ref x1), (2, .int x2), (3, .ref x3), (4, .int (x4 + (1 : Int32)))]) rfl ?_
  exact hrec16 _ _ _ _ _ _ hq
def fxX2_fill_36 (N : Nat) (rec16 : Nat → Nat → Int32 → Nat → Int32 → mh → Option mh) (x0 : Nat) (x1 : Nat) (x2 : Int32) (x3 : Nat) (x4 : Int32) (h : mh) : Option mh :=
  (gR h x1 0 1).bind fun v12 =>
  (gR h x3 3 1).bind fun v14 =>
  (aI h v14 x4).bind fun v16 =>
  (gR h x3 3 2).bind fun v18 =>
  (aI h v18 x4).bind fun v20 =>
  (gR h x3 3 3).bind fun v22 =>
  (aI h v22 x4).bind fun v24 =>
  (kO h v12 3).bind fun f28 =>
  (fxX3_putInOrder N v12 v16 v20 v24 h).bind fun o26 =>
  fxX2_fill_64 N rec16 x0 x1 x2 x3 x4 o26
set_option maxHeartbeats 4000000 in
set_option maxRecDepth 100000 in
theorem eaX2_fill_36 {N : Nat} {R : mh} {rec16 : Nat → Nat → Int32 → Nat → Int32 → mh → Option mh} (hrec16 : ∀ (x0 : Nat) (x1 : Nat) (x2 : Int32) (x3 : Nat) (x4 : Int32) (h : mh) {o : mh}, rec16 x0 x1 x2 x3 x4 h = some o → mB (gO mX2_fill (o ++ R, none)) mX2_fill (16, [(0, .ref x0), (1, .ref x1), (2, .int x2), (3, .ref x3), (4, .int x4)], [], (h ++ R), 0, 0)) (x0 : Nat) (x1 : Nat) (x2 : Int32) (x3 : Nat) (x4 : Int32) (h : mh) {o : mh} (hq : fxX2_fill_36 N rec16 x0 x1 x2 x3 x4 h = some o) : mB (gO mX2_fill (o ++ R, none)) mX2_fill (36, [(0, .ref x0), (1, .ref x1), (2, .int x2), (3, .ref x3), (4, .int x4)], [], (h ++ R), 0, 0) := by
  unfold fxX2_fill_36 at hq
  refine mB_run odX2_fill 1 (g := (37, [(0, .ref x0), (1, .ref x1), (2, .int x2), (3, .ref x3), (4, .int x4)], [.ref x1], (h ++ R), 0, 0)) rfl ?_
  obtain ⟨v12, e13, hq⟩ := bsm hq
  refine r_gR odX2_fill rfl rfl (gR_ap e13) ?_
  refine mB_run odX2_fill 1 (g := (41, [(0, .ref x0), (1, .ref x1), (2, .int x2), (3, .ref x3), (4, .int x4)], [.ref x3, .ref v12], (h ++ R), 0, 0)) rfl ?_
  obtain ⟨v14, e15, hq⟩ := bsm hq
  refine r_gR odX2_fill rfl rfl (gR_ap e15) ?_
  refine mB_run odX2_fill 1 (g := (46, [(0, .ref x0), (1, .ref x1), (2, .int x2), (3, .ref x3), (4, .int x4)], [.int x4, .ref v14, .ref v12], (h ++ R), 0, 0)) rfl ?_
  obtain ⟨v16, e17, hq⟩ := bsm hq
  refine r_aI odX2_fill rfl (aI_ap e17) ?_
  refine mB_run odX2_fill 1 (g := (48, [(0, .ref x0), (1, .ref x1), (2, .int x2), (3, .ref x3), (4, .int x4)], [.ref x3, .int v16, .ref v12], (h ++ R), 0, 0)) rfl ?_
  obtain ⟨v18, e19, hq⟩ := bsm hq
  refine r_gR odX2_fill rfl rfl (gR_ap e19) ?_
  refine mB_run odX2_fill 1 (g := (53, [(0, .ref x0), (1, .ref x1), (2, .int x2), (3, .ref x3), (4, .int x4)], [.int x4, .ref v18, .int v16, .ref v12], (h ++ R), 0, 0)) rfl ?_
  obtain ⟨v20, e21, hq⟩ := bsm hq
  refine r_aI odX2_fill rfl (aI_ap e21) ?_
  refine mB_run odX2_fill 1 (g := (55, [(0, .ref x0), (1, .ref x1), (2, .int x2), (3, .ref x3), (4, .int x4)], [.ref x3, .int v20, .int v16, .ref v12], (h ++ R), 0, 0)) rfl ?_
  obtain ⟨v22, e23, hq⟩ := bsm hq
  refine r_gR odX2_fill rfl rfl (gR_ap e23) ?_
  refine mB_run odX2_fill 1 (g := (60, [(0, .ref x0), (1, .ref x1), (2, .int x2), (3, .ref x3), (4, .int x4)], [.int x4, .ref v22, .int v20, .int v16, .ref v12], (h ++ R), 0, 0)) rfl ?_
  obtain ⟨v24, e25, hq⟩ := bsm hq
  refine r_aI odX2_fill rfl (aI_ap e25) ?_
  obtain ⟨f28, k29, hq⟩ := bsm hq
  obtain ⟨o26, e27, hq⟩ := bsm hq
  refine mB_V (as := [.int v16, .int v20, .int v24]) odX2_fill okX3_putInOrder lk_2_149 rfl (eaX3_putInOrder e27) (kO_at (kO_ap k29)) rfl rfl rfl ?_
  show mB _ mX2_fill (64, [(0, .ref x0), (1, .ref x1), (2, .int x2), (3, .ref x3), (4, .int x4)], [], (o26 ++ R), 0, 0)
  refine mB_lv [0, 1, 2, 3, 4] (lv' := [(0, .ref x0), (1, .ref x1), (2, .int x2), (3, .ref x3), (4, .int x4)]) rfl ?_
  exact eaX2_fill_64 hrec16 _ _ _ _ _ _ hq
def fxX2_fill_208 (N : Nat) (rec73 : Nat → Nat → Int32 → Int32 → mh → Option mh) (x0 : Nat) (x1 : Nat) (x2 : Int32) (x4 : Int32) (h : mh) : Option mh :=
  rec73 x0 x1 x2 (x4 + (1 : Int32)) h
set_option maxHeartbeats 4000000 in
set_option maxRecDepth 100000 in
theorem eaX2_fill_208 {N : Nat} {R : mh} {rec73 : Nat → Nat → Int32 → Int32 → mh → Option mh} (hrec73 : ∀ (x0 : Nat) (x1 : Nat) (x2 : Int32) (x4 : Int32) (h : mh) {o : mh}, rec73 x0 x1 x2 x4 h = some o → mB (gO mX2_fill (o ++ R, none)) mX2_fill (73, [(0, .ref x0), (1, .ref x1), (2, .int x2), (4, .int x4)], [], (h ++ R), 0, 0)) (x0 : Nat) (x1 : Nat) (x2 : Int32) (x4 : Int32) (h : mh) {o : mh} (hq : fxX2_fill_208 N rec73 x0 x1 x2 x4 h = some o) : mB (gO mX2_fill (o ++ R, none)) mX2_fill (208, [(0, .ref x0), (1, .ref x1), (2, .int x2), (4, .int x4)], [], (h ++ R), 0, 0) := by
  unfold fxX2_fill_208 at hq
  refine mB_run odX2_fill 2 (g := (73, [(4, .int (x4 + (1 : Int32))), (0, .ref x0), (1, .ref x1), (2, .int x2)], [], (h ++ R), 0, 0)) rfl ?_
  refine mB_lv [1, 2, 3, 0] (lv' := [(0, .ref x0), (1, .ref x1), (2, .int x2), (4, .int (x4 + (1 : Int32)))]) rfl ?_
  exact hrec73 _ _ _ _ _ hq
def fxX2_fill_73 (N : Nat) : Nat → Nat → Nat → Int32 → Int32 → mh → Option mh
  | 0, _, _, _, _, _ => none
  | n + 1, x0, x1, x2, x4, h =>
    (gR h x0 2 0).bind fun v30 =>
    (gI h v30 5 1).bind fun v32 =>
    if v32 ≤ x4 then (
      some h) else (
      (gR h x0 2 0).bind fun v35 =>
      (gR h v35 5 3).bind fun v37 =>
      (aI h v37 ((4 : Int32) * x4)).bind fun v39 =>
      (gR h x0 2 0).bind fun v41 =>
      (gR h v41 5 3).bind fun v43 =>
      (aI h v43 (((4 : Int32) * x4) + (1 : Int32))).bind fun v45 =>
      (gR h x0 2 0).bind fun v47 =>
      (gR h v47 5 3).bind fun v49 =>
      (aI h v49 (((4 : Int32) * x4) + (2 : Int32))).bind fun v51 =>
      (gR h x0 2 0).bind fun v53 =>
      (gR h v53 5 3).bind fun v55 =>
      (aI h v55 (((4 : Int32) * x4) + (3 : Int32))).bind fun v57 =>
      if x2 = (4 : Int32) then (
        (kO h x1 0).bind fun f62 =>
        (fxX0_addPlane N x1 v39 v45 v51 v57 h).bind fun o60 =>
        fxX2_fill_208 N (fxX2_fill_73 N n) x0 x1 x2 x4 o60) else (
        (gR h x0 2 0).bind fun v64 =>
        (kO h v64 5).bind fun f68 =>
        (fxX5_touches N v64 x4 (3 : Int32) h).bind fun o66 =>
        if o66.2 = 0 then (
          (kO o66.1 x1 0).bind fun f73 =>
          (fxX0_addPlane N x1 v39 v45 v51 v57 o66.1).bind fun o71 =>
          (kO o71 x1 0).bind fun f77 =>
          (fxX0_addPlane N x1 (-v39) (-v45) (-v51) (-v57) o71).bind fun o75 =>
          fxX2_fill_208 N (fxX2_fill_73 N n) x0 x1 x2 x4 o75) else (
          fxX2_fill_208 N (fxX2_fill_73 N n) x0 x1 x2 x4 o66.1)))
set_option maxHeartbeats 4000000 in
set_option maxRecDepth 100000 in
theorem eaX2_fill_73 {N : Nat} {R : mh} : ∀ (n : Nat) (x0 : Nat) (x1 : Nat) (x2 : Int32) (x4 : Int32) (h : mh) {o : mh}, fxX2_fill_73 N n x0 x1 x2 x4 h = some o → mB (gO mX2_fill (o ++ R, none)) mX2_fill (73, [(0, .ref x0), (1, .ref x1), (2, .int x2), (4, .int x4)], [], (h ++ R), 0, 0) := by
  intro n
  induction n with
  | zero => intro x0 x1 x2 x4 h o hq; cases hq
  | succ n ih =>
    intro x0 x1 x2 x4 h o hq
    unfold fxX2_fill_73 at hq
    refine mB_run odX2_fill 2 (g := (76, [(0, .ref x0), (1, .ref x1), (2, .int x2), (4, .int x4)], [.ref x0, .int x4], (h ++ R), 0, 0)) rfl ?_
    obtain ⟨v30, e31, hq⟩ := bsm hq
    refine r_gR odX2_fill rfl rfl (gR_ap e31) ?_
    obtain ⟨v32, e33, hq⟩ := bsm hq
    refine r_gI odX2_fill rfl rfl (gI_ap e33) ?_
    by_cases c34 : v32 ≤ x4
    · rw [if_pos c34] at hq
      refine ic_ge_T (t := 214) odX2_fill rfl rfl c34 ?_
      cases hq
      exact mB_ret odX2_fill rfl
    · rw [if_neg c34] at hq
      refine ic_ge_F (t := 214) odX2_fill rfl rfl c34 ?_
      refine mB_run odX2_fill 1 (g := (86, [(0, .ref x0), (1, .ref x1), (2, .int x2), (4, .int x4)], [.ref x0], (h ++ R), 0, 0)) rfl ?_
      obtain ⟨v35, e36, hq⟩ := bsm hq
      refine r_gR odX2_fill rfl rfl (gR_ap e36) ?_
      obtain ⟨v37, e38, hq⟩ := bsm hq
      refine r_gR odX2_fill rfl rfl (gR_ap e38) ?_
      refine mB_run odX2_fill 3 (g := (96, [(0, .ref x0), (1, .ref x1), (2, .int x2), (4, .int x4)], [.int ((4 : Int32) * x4), .ref v37], (h ++ R), 0, 0)) rfl ?_
      obtain ⟨v39, e40, hq⟩ := bsm hq
      refine r_aI odX2_fill rfl (aI_ap e40) ?_
      refine mB_run odX2_fill 2 (g := (100, [(5, .int v39), (0, .ref x0), (1, .ref x1), (2, .int x2), (4, .int x4)], [.ref x0], (h ++ R), 0, 0)) rfl ?_
      obtain ⟨v41, e42, hq⟩ := bsm hq
      refine r_gR odX2_fill rfl rfl (gR_ap e42) ?_
      obtain ⟨v43, e44, hq⟩ := bsm hq
      refine r_gR odX2_fill rfl rfl (gR_ap e44) ?_
      refine mB_run odX2_fill 5 (g := (112, [(5, .int v39), (0, .ref x0), (1, .ref x1), (2, .int x2), (4, .int x4)], [.int (((4 : Int32) * x4) + (1 : Int32)), .ref v43], (h ++ R), 0, 0)) rfl ?_
      obtain ⟨v45, e46, hq⟩ := bsm hq
      refine r_aI odX2_fill rfl (aI_ap e46) ?_
      refine mB_run odX2_fill 2 (g := (116, [(6, .int v45), (5, .int v39), (0, .ref x0), (1, .ref x1), (2, .int x2), (4, .int x4)], [.ref x0], (h ++ R), 0, 0)) rfl ?_
      obtain ⟨v47, e48, hq⟩ := bsm hq
      refine r_gR odX2_fill rfl rfl (gR_ap e48) ?_
      obtain ⟨v49, e50, hq⟩ := bsm hq
      refine r_gR odX2_fill rfl rfl (gR_ap e50) ?_
      refine mB_run odX2_fill 5 (g := (128, [(6, .int v45), (5, .int v39), (0, .ref x0), (1, .ref x1), (2, .int x2), (4, .int x4)], [.int (((4 : Int32) * x4) + (2 : Int32)), .ref v49], (h ++ R), 0, 0)) rfl ?_
      obtain ⟨v51, e52, hq⟩ := bsm hq
      refine r_aI odX2_fill rfl (aI_ap e52) ?_
      refine mB_run odX2_fill 2 (g := (132, [(7, .int v51), (6, .int v45), (5, .int v39), (0, .ref x0), (1, .ref x1), (2, .int x2), (4, .int x4)], [.ref x0], (h ++ R), 0, 0)) rfl ?_
      obtain ⟨v53, e54, hq⟩ := bsm hq
      refine r_gR odX2_fill rfl rfl (gR_ap e54) ?_
      obtain ⟨v55, e56, hq⟩ := bsm hq
      refine r_gR odX2_fill rfl rfl (gR_ap e56) ?_
      refine mB_run odX2_fill 5 (g := (144, [(7, .int v51), (6, .int v45), (5, .int v39), (0, .ref x0), (1, .ref x1), (2, .int x2), (4, .int x4)], [.int (((4 : Int32) * x4) + (3 : Int32)), .ref v55], (h ++ R), 0, 0)) rfl ?_
      obtain ⟨v57, e58, hq⟩ := bsm hq
      refine r_aI odX2_fill rfl (aI_ap e58) ?_
      refine mB_run odX2_fill 3 (g := (149, [(8, .int v57), (7, .int v51), (6, .int v45), (5, .int v39), (0, .ref x0), (1, .ref x1), (2, .int x2), (4, .int x4)], [.int (4 : Int32), .int x2], (h ++ R), 0, 0)) rfl ?_
      by_cases c59 : x2 = (4 : Int32)
      · rw [if_pos c59] at hq
        refine ic_ne_F (t := 167) odX2_fill rfl rfl c59 ?_
        refine mB_run odX2_fill 5 (g := (161, [(8, .int v57), (7, .int v51), (6, .int v45), (5, .int v39), (0, .ref x0), (1, .ref x1), (2, .int x2), (4, .int x4)], [.int v57, .int v51, .int v45, .int v39, .ref x1], (h ++ R), 0, 0)) rfl ?_
        obtain ⟨f62, k63, hq⟩ := bsm hq
        obtain ⟨o60, e61, hq⟩ := bsm hq
        refine mB_V (as := [.int v39, .int v45, .int v51, .int v57]) odX2_fill okX0_addPlane lk_2_155 rfl (eaX0_addPlane e61) (kO_at (kO_ap k63)) rfl rfl rfl ?_
        show mB _ mX2_fill (164, [(8, .int v57), (7, .int v51), (6, .int v45), (5, .int v39), (0, .ref x0), (1, .ref x1), (2, .int x2), (4, .int x4)], [], (o60 ++ R), 0, 0)
        refine mB_run odX2_fill 1 (g := (208, [(8, .int v57), (7, .int v51), (6, .int v45), (5, .int v39), (0, .ref x0), (1, .ref x1), (2, .int x2), (4, .int x4)], [], (o60 ++ R), 0, 0)) rfl ?_
        refine mB_lv [4, 5, 6, 7] (lv' := [(0, .ref x0), (1, .ref x1), (2, .int x2), (4, .int x4)]) rfl ?_
        exact eaX2_fill_208 ih _ _ _ _ _ hq
      · rw [if_neg c59] at hq
        refine ic_ne_T (t := 167) odX2_fill rfl rfl c59 ?_
        refine mB_run odX2_fill 1 (g := (168, [(8, .int v57), (7, .int v51), (6, .int v45), (5, .int v39), (0, .ref x0), (1, .ref x1), (2, .int x2), (4, .int x4)], [.ref x0], (h ++ R), 0, 0)) rfl ?_
        obtain ⟨v64, e65, hq⟩ := bsm hq
        refine r_gR odX2_fill rfl rfl (gR_ap e65) ?_
        refine mB_run odX2_fill 2 (g := (174, [(8, .int v57), (7, .int v51), (6, .int v45), (5, .int v39), (0, .ref x0), (1, .ref x1), (2, .int x2), (4, .int x4)], [.int (3 : Int32), .int x4, .ref v64], (h ++ R), 0, 0)) rfl ?_
        obtain ⟨f68, k69, hq⟩ := bsm hq
        obtain ⟨o66, e67, hq⟩ := bsm hq
        refine mB_V (as := [.int x4, .int (3 : Int32)]) odX2_fill okX5_touches lk_2_159 rfl (eaX5_touches e67) (kO_at (kO_ap k69)) rfl rfl rfl ?_
        show mB _ mX2_fill (177, [(8, .int v57), (7, .int v51), (6, .int v45), (5, .int v39), (0, .ref x0), (1, .ref x1), (2, .int x2), (4, .int x4)], [.int o66.2], (o66.1 ++ R), 0, 0)
        by_cases c70 : o66.2 = 0
        · rw [if_pos c70] at hq
          refine if_ne_F (t := 208) odX2_fill rfl rfl c70 ?_
          refine mB_run odX2_fill 5 (g := (189, [(8, .int v57), (7, .int v51), (6, .int v45), (5, .int v39), (0, .ref x0), (1, .ref x1), (2, .int x2), (4, .int x4)], [.int v57, .int v51, .int v45, .int v39, .ref x1], (o66.1 ++ R), 0, 0)) rfl ?_
          obtain ⟨f73, k74, hq⟩ := bsm hq
          obtain ⟨o71, e72, hq⟩ := bsm hq
          refine mB_V (as := [.int v39, .int v45, .int v51, .int v57]) odX2_fill okX0_addPlane lk_2_155 rfl (eaX0_addPlane e72) (kO_at (kO_ap k74)) rfl rfl rfl ?_
          show mB _ mX2_fill (192, [(8, .int v57), (7, .int v51), (6, .int v45), (5, .int v39), (0, .ref x0), (1, .ref x1), (2, .int x2), (4, .int x4)], [], (o71 ++ R), 0, 0)
          refine mB_run odX2_fill 9 (g := (205, [(8, .int v57), (7, .int v51), (6, .int v45), (5, .int v39), (0, .ref x0), (1, .ref x1), (2, .int x2), (4, .int x4)], [.int (-v57), .int (-v51), .int (-v45), .int (-v39), .ref x1], (o71 ++ R), 0, 0)) rfl ?_
          obtain ⟨f77, k78, hq⟩ := bsm hq
          obtain ⟨o75, e76, hq⟩ := bsm hq
          refine mB_V (as := [.int (-v39), .int (-v45), .int (-v51), .int (-v57)]) odX2_fill okX0_addPlane lk_2_155 rfl (eaX0_addPlane e76) (kO_at (kO_ap k78)) rfl rfl rfl ?_
          show mB _ mX2_fill (208, [(8, .int v57), (7, .int v51), (6, .int v45), (5, .int v39), (0, .ref x0), (1, .ref x1), (2, .int x2), (4, .int x4)], [], (o75 ++ R), 0, 0)
          refine mB_lv [4, 5, 6, 7] (lv' := [(0, .ref x0), (1, .ref x1), (2, .int x2), (4, .int x4)]) rfl ?_
          exact eaX2_fill_208 ih _ _ _ _ _ hq
        · rw [if_neg c70] at hq
          refine if_ne_T (t := 208) odX2_fill rfl rfl c70 ?_
          refine mB_lv [4, 5, 6, 7] (lv' := [(0, .ref x0), (1, .ref x1), (2, .int x2), (4, .int x4)]) rfl ?_
          exact eaX2_fill_208 ih _ _ _ _ _ hq
def fxX2_fill_16 (N : Nat) : Nat → Nat → Nat → Int32 → Nat → Int32 → mh → Option mh
  | 0, _, _, _, _, _, _ => none
  | n + 1, x0, x1, x2, x3, x4, h =>
    (gI h x3 3 0).bind fun v7 =>
    if v7 ≤ x4 then (
      fxX2_fill_73 N N x0 x1 x2 (0 : Int32) h) else (
      if x2 = (3 : Int32) then (
        if x4 = (3 : Int32) then (
          fxX2_fill_64 N (fxX2_fill_16 N n) x0 x1 x2 x3 x4 h) else (
          fxX2_fill_36 N (fxX2_fill_16 N n) x0 x1 x2 x3 x4 h)) else (
        fxX2_fill_36 N (fxX2_fill_16 N n) x0 x1 x2 x3 x4 h))
set_option maxHeartbeats 4000000 in
set_option maxRecDepth 100000 in
theorem eaX2_fill_16 {N : Nat} {R : mh} : ∀ (n : Nat) (x0 : Nat) (x1 : Nat) (x2 : Int32) (x3 : Nat) (x4 : Int32) (h : mh) {o : mh}, fxX2_fill_16 N n x0 x1 x2 x3 x4 h = some o → mB (gO mX2_fill (o ++ R, none)) mX2_fill (16, [(0, .ref x0), (1, .ref x1), (2, .int x2), (3, .ref x3), (4, .int x4)], [], (h ++ R), 0, 0) := by
  intro n
  induction n with
  | zero => intro x0 x1 x2 x3 x4 h o hq; cases hq
  | succ n ih =>
    intro x0 x1 x2 x3 x4 h o hq
    unfold fxX2_fill_16 at hq
    refine mB_run odX2_fill 2 (g := (19, [(0, .ref x0), (1, .ref x1), (2, .int x2), (3, .ref x3), (4, .int x4)], [.ref x3, .int x4], (h ++ R), 0, 0)) rfl ?_
    obtain ⟨v7, e8, hq⟩ := bsm hq
    refine r_gI odX2_fill rfl rfl (gI_ap e8) ?_
    by_cases c9 : v7 ≤ x4
    · rw [if_pos c9] at hq
      refine ic_ge_T (t := 70) odX2_fill rfl rfl c9 ?_
      refine mB_run odX2_fill 2 (g := (73, [(4, .int (0 : Int32)), (0, .ref x0), (1, .ref x1), (2, .int x2), (3, .ref x3)], [], (h ++ R), 0, 0)) rfl ?_
      refine mB_lv [1, 2, 3, 0] (lv' := [(0, .ref x0), (1, .ref x1), (2, .int x2), (4, .int (0 : Int32))]) rfl ?_
      exact eaX2_fill_73 N _ _ _ _ _ hq
    · rw [if_neg c9] at hq
      refine ic_ge_F (t := 70) odX2_fill rfl rfl c9 ?_
      refine mB_run odX2_fill 2 (g := (27, [(0, .ref x0), (1, .ref x1), (2, .int x2), (3, .ref x3), (4, .int x4)], [.int (3 : Int32), .int x2], (h ++ R), 0, 0)) rfl ?_
      by_cases c10 : x2 = (3 : Int32)
      · rw [if_pos c10] at hq
        refine ic_ne_F (t := 36) odX2_fill rfl rfl c10 ?_
        refine mB_run odX2_fill 2 (g := (33, [(0, .ref x0), (1, .ref x1), (2, .int x2), (3, .ref x3), (4, .int x4)], [.int (3 : Int32), .int x4], (h ++ R), 0, 0)) rfl ?_
        by_cases c11 : x4 = (3 : Int32)
        · rw [if_pos c11] at hq
          refine ic_eq_T (t := 64) odX2_fill rfl rfl c11 ?_
          refine mB_lv [0, 1, 2, 3, 4] (lv' := [(0, .ref x0), (1, .ref x1), (2, .int x2), (3, .ref x3), (4, .int x4)]) rfl ?_
          exact eaX2_fill_64 ih _ _ _ _ _ _ hq
        · rw [if_neg c11] at hq
          refine ic_eq_F (t := 64) odX2_fill rfl rfl c11 ?_
          refine mB_lv [0, 1, 2, 3, 4] (lv' := [(0, .ref x0), (1, .ref x1), (2, .int x2), (3, .ref x3), (4, .int x4)]) rfl ?_
          exact eaX2_fill_36 ih _ _ _ _ _ _ hq
      · rw [if_neg c10] at hq
        refine ic_ne_T (t := 36) odX2_fill rfl rfl c10 ?_
        refine mB_lv [0, 1, 2, 3, 4] (lv' := [(0, .ref x0), (1, .ref x1), (2, .int x2), (3, .ref x3), (4, .int x4)]) rfl ?_
        exact eaX2_fill_36 ih _ _ _ _ _ _ hq
def fxX2_fill (N : Nat) (p0 : Nat) (p1 : Nat) (p2 : Int32) (h : mh) : Option mh :=
  (gR h p0 2 0).bind fun v1 =>
  (gR h v1 5 0).bind fun v3 =>
  (sV h p1 0 0 (.int p2)).bind fun h5 =>
  fxX2_fill_16 N N p0 p1 p2 v3 (0 : Int32) h5
set_option maxHeartbeats 4000000 in
set_option maxRecDepth 100000 in
theorem eaX2_fill {N : Nat} {R : mh} {p0 : Nat} {p1 : Nat} {p2 : Int32} {h : mh} {o : mh} (hq : fxX2_fill N p0 p1 p2 h = some o) : mC mX2_fill [.ref p0, .ref p1, .int p2] (h ++ R) (o ++ R, none) := by
  refine mC_of okX2_fill (Nat.le_of_ble_eq_true rfl) ?_
  unfold fxX2_fill at hq
  show mB _ mX2_fill (0, [(0, .ref p0), (1, .ref p1), (2, .int p2)], [], (h ++ R), 0, 0)
  refine mB_run odX2_fill 1 (g := (1, [(0, .ref p0), (1, .ref p1), (2, .int p2)], [.ref p0], (h ++ R), 0, 0)) rfl ?_
  obtain ⟨v1, e2, hq⟩ := bsm hq
  refine r_gR odX2_fill rfl rfl (gR_ap e2) ?_
  obtain ⟨v3, e4, hq⟩ := bsm hq
  refine r_gR odX2_fill rfl rfl (gR_ap e4) ?_
  refine mB_run odX2_fill 3 (g := (10, [(3, .ref v3), (0, .ref p0), (1, .ref p1), (2, .int p2)], [.int p2, .ref p1], (h ++ R), 0, 0)) rfl ?_
  obtain ⟨h5, e6, hq⟩ := bsm hq
  refine r_sV odX2_fill rfl rfl rfl rfl (sV_ap e6) ?_
  refine mB_run odX2_fill 2 (g := (16, [(4, .int (0 : Int32)), (3, .ref v3), (0, .ref p0), (1, .ref p1), (2, .int p2)], [], (h5 ++ R), 0, 0)) rfl ?_
  refine mB_lv [2, 3, 4, 1, 0] (lv' := [(0, .ref p0), (1, .ref p1), (2, .int p2), (3, .ref v3), (4, .int (0 : Int32))]) rfl ?_
  exact eaX2_fill_16 N _ _ _ _ _ _ hq
def fxX2_build_66 (N : Nat) (x0 : Nat) (x3 : Nat) (x4 : Int32) (h : mh) : Option (mh × Int32) :=
  (gI h x0 2 2).bind fun v33 =>
  if v33 = 0 then (
    (kO h x0 2).bind fun f38 =>
    (fxX2_fill N x0 x3 x4 h).bind fun o36 =>
    (kO o36 x3 0).bind fun f42 =>
    (fxX0_layRings N x3 o36).bind fun o40 =>
    (gR o40 x0 2 1).bind fun v44 =>
    (kO o40 x3 0).bind fun f48 =>
    (fxX0_layEdges N x3 v44 o40).bind fun o46 =>
    some (o46, x4)) else (
    some (h, (-2 : Int32)))
set_option maxHeartbeats 4000000 in
set_option maxRecDepth 100000 in
theorem eaX2_build_66 {N : Nat} {R : mh} (x0 : Nat) (x3 : Nat) (x4 : Int32) (h : mh) {o : (mh × Int32)} (hq : fxX2_build_66 N x0 x3 x4 h = some o) : mB (gO mX2_build (o.1 ++ R, some (.int o.2))) mX2_build (66, [(0, .ref x0), (3, .ref x3), (4, .int x4)], [], (h ++ R), 0, 0) := by
  unfold fxX2_build_66 at hq
  refine mB_run odX2_build 1 (g := (67, [(0, .ref x0), (3, .ref x3), (4, .int x4)], [.ref x0], (h ++ R), 0, 0)) rfl ?_
  obtain ⟨v33, e34, hq⟩ := bsm hq
  refine r_gI odX2_build rfl rfl (gI_ap e34) ?_
  by_cases c35 : v33 = 0
  · rw [if_pos c35] at hq
    refine if_eq_T (t := 76) odX2_build rfl rfl c35 ?_
    refine mB_run odX2_build 3 (g := (80, [(0, .ref x0), (3, .ref x3), (4, .int x4)], [.int x4, .ref x3, .ref x0], (h ++ R), 0, 0)) rfl ?_
    obtain ⟨f38, k39, hq⟩ := bsm hq
    obtain ⟨o36, e37, hq⟩ := bsm hq
    refine mB_V (as := [.ref x3, .int x4]) odX2_build okX2_fill lk_2_58 rfl (eaX2_fill e37) (kO_at (kO_ap k39)) rfl rfl rfl ?_
    show mB _ mX2_build (83, [(0, .ref x0), (3, .ref x3), (4, .int x4)], [], (o36 ++ R), 0, 0)
    refine mB_run odX2_build 1 (g := (84, [(0, .ref x0), (3, .ref x3), (4, .int x4)], [.ref x3], (o36 ++ R), 0, 0)) rfl ?_
    obtain ⟨f42, k43, hq⟩ := bsm hq
    obtain ⟨o40, e41, hq⟩ := bsm hq
    refine mB_V (as := []) odX2_build okX0_layRings lk_2_62 rfl (eaX0_layRings e41) (kO_at (kO_ap k43)) rfl rfl rfl ?_
    show mB _ mX2_build (87, [(0, .ref x0), (3, .ref x3), (4, .int x4)], [], (o40 ++ R), 0, 0)
    refine mB_run odX2_build 2 (g := (89, [(0, .ref x0), (3, .ref x3), (4, .int x4)], [.ref x0, .ref x3], (o40 ++ R), 0, 0)) rfl ?_
    obtain ⟨v44, e45, hq⟩ := bsm hq
    refine r_gR odX2_build rfl rfl (gR_ap e45) ?_
    obtain ⟨f48, k49, hq⟩ := bsm hq
    obtain ⟨o46, e47, hq⟩ := bsm hq
    refine mB_V (as := [.ref v44]) odX2_build okX0_layEdges lk_2_65 rfl (eaX0_layEdges e47) (kO_at (kO_ap k49)) rfl rfl rfl ?_
    show mB _ mX2_build (95, [(0, .ref x0), (3, .ref x3), (4, .int x4)], [], (o46 ++ R), 0, 0)
    refine mB_run odX2_build 1 (g := (97, [(0, .ref x0), (3, .ref x3), (4, .int x4)], [.int x4], (o46 ++ R), 0, 0)) rfl ?_
    cases hq
    exact mB_ret odX2_build rfl
  · rw [if_neg c35] at hq
    refine if_eq_F (t := 76) odX2_build rfl rfl c35 ?_
    refine mB_run odX2_build 1 (g := (75, [(0, .ref x0), (3, .ref x3), (4, .int x4)], [.int (-2 : Int32)], (h ++ R), 0, 0)) rfl ?_
    cases hq
    exact mB_ret odX2_build rfl
def fxX2_build (N : Nat) (p0 : Nat) (p1 : Nat) (p2 : Nat) (p3 : Nat) (h : mh) : Option (mh × Int32) :=
  (kO h p3 0).bind fun f3 =>
  (fxX0_clear N p3 h).bind fun o1 =>
  (gI o1 p1 3 0).bind fun v5 =>
  if v5 = 0 then (
    some (o1, (0 : Int32))) else (
    (gI o1 p2 3 0).bind fun v8 =>
    if v8 = 0 then (
      some (o1, (0 : Int32))) else (
      (gR o1 p0 2 0).bind fun v11 =>
      (kO o1 v11 5).bind fun f15 =>
      (fxX5_clear N v11 o1).bind fun o13 =>
      (sV o13 p0 2 2 (.int (0 : Int32))).bind fun h17 =>
      (sV h17 p0 2 3 (.int (0 : Int32))).bind fun h19 =>
      (kO h19 p0 2).bind fun f23 =>
      (fxX2_spread N p0 p1 p2 h19).bind fun o21 =>
      if o21.2 < (3 : Int32) then (
        fxX2_build_66 N p0 p3 o21.2 o21.1) else (
        (gI o21.1 p0 2 2).bind fun v26 =>
        if v26 = 0 then (
          (kO o21.1 p0 2).bind fun f31 =>
          (fxX2_wrap N p0 p1 p2 o21.2 o21.1).bind fun o29 =>
          fxX2_build_66 N p0 p3 o21.2 o29) else (
          fxX2_build_66 N p0 p3 o21.2 o21.1))))
set_option maxHeartbeats 4000000 in
set_option maxRecDepth 100000 in
theorem eaX2_build {N : Nat} {R : mh} {p0 : Nat} {p1 : Nat} {p2 : Nat} {p3 : Nat} {h : mh} {o : (mh × Int32)} (hq : fxX2_build N p0 p1 p2 p3 h = some o) : mC mX2_build [.ref p0, .ref p1, .ref p2, .ref p3] (h ++ R) (o.1 ++ R, some (.int o.2)) := by
  refine mC_of okX2_build (Nat.le_of_ble_eq_true rfl) ?_
  unfold fxX2_build at hq
  show mB _ mX2_build (0, [(0, .ref p0), (1, .ref p1), (2, .ref p2), (3, .ref p3)], [], (h ++ R), 0, 0)
  refine mB_run odX2_build 1 (g := (1, [(0, .ref p0), (1, .ref p1), (2, .ref p2), (3, .ref p3)], [.ref p3], (h ++ R), 0, 0)) rfl ?_
  obtain ⟨f3, k4, hq⟩ := bsm hq
  obtain ⟨o1, e2, hq⟩ := bsm hq
  refine mB_V (as := []) odX2_build okX0_clear lk_2_39 rfl (eaX0_clear e2) (kO_at (kO_ap k4)) rfl rfl rfl ?_
  show mB _ mX2_build (4, [(0, .ref p0), (1, .ref p1), (2, .ref p2), (3, .ref p3)], [], (o1 ++ R), 0, 0)
  refine mB_run odX2_build 1 (g := (5, [(0, .ref p0), (1, .ref p1), (2, .ref p2), (3, .ref p3)], [.ref p1], (o1 ++ R), 0, 0)) rfl ?_
  obtain ⟨v5, e6, hq⟩ := bsm hq
  refine r_gI odX2_build rfl rfl (gI_ap e6) ?_
  by_cases c7 : v5 = 0
  · rw [if_pos c7] at hq
    refine if_eq_T (t := 18) odX2_build rfl rfl c7 ?_
    refine mB_run odX2_build 1 (g := (19, [(0, .ref p0), (1, .ref p1), (2, .ref p2), (3, .ref p3)], [.int (0 : Int32)], (o1 ++ R), 0, 0)) rfl ?_
    cases hq
    exact mB_ret odX2_build rfl
  · rw [if_neg c7] at hq
    refine if_eq_F (t := 18) odX2_build rfl rfl c7 ?_
    refine mB_run odX2_build 1 (g := (12, [(0, .ref p0), (1, .ref p1), (2, .ref p2), (3, .ref p3)], [.ref p2], (o1 ++ R), 0, 0)) rfl ?_
    obtain ⟨v8, e9, hq⟩ := bsm hq
    refine r_gI odX2_build rfl rfl (gI_ap e9) ?_
    by_cases c10 : v8 = 0
    · rw [if_pos c10] at hq
      refine if_ne_F (t := 20) odX2_build rfl rfl c10 ?_
      refine mB_run odX2_build 1 (g := (19, [(0, .ref p0), (1, .ref p1), (2, .ref p2), (3, .ref p3)], [.int (0 : Int32)], (o1 ++ R), 0, 0)) rfl ?_
      cases hq
      exact mB_ret odX2_build rfl
    · rw [if_neg c10] at hq
      refine if_ne_T (t := 20) odX2_build rfl rfl c10 ?_
      refine mB_run odX2_build 1 (g := (21, [(0, .ref p0), (1, .ref p1), (2, .ref p2), (3, .ref p3)], [.ref p0], (o1 ++ R), 0, 0)) rfl ?_
      obtain ⟨v11, e12, hq⟩ := bsm hq
      refine r_gR odX2_build rfl rfl (gR_ap e12) ?_
      obtain ⟨f15, k16, hq⟩ := bsm hq
      obtain ⟨o13, e14, hq⟩ := bsm hq
      refine mB_V (as := []) odX2_build okX5_clear lk_2_49 rfl (eaX5_clear e14) (kO_at (kO_ap k16)) rfl rfl rfl ?_
      show mB _ mX2_build (27, [(0, .ref p0), (1, .ref p1), (2, .ref p2), (3, .ref p3)], [], (o13 ++ R), 0, 0)
      refine mB_run odX2_build 2 (g := (29, [(0, .ref p0), (1, .ref p1), (2, .ref p2), (3, .ref p3)], [.int (0 : Int32), .ref p0], (o13 ++ R), 0, 0)) rfl ?_
      obtain ⟨h17, e18, hq⟩ := bsm hq
      refine r_sV odX2_build rfl rfl rfl rfl (sV_ap e18) ?_
      refine mB_run odX2_build 2 (g := (34, [(0, .ref p0), (1, .ref p1), (2, .ref p2), (3, .ref p3)], [.int (0 : Int32), .ref p0], (h17 ++ R), 0, 0)) rfl ?_
      obtain ⟨h19, e20, hq⟩ := bsm hq
      refine r_sV odX2_build rfl rfl rfl rfl (sV_ap e20) ?_
      refine mB_run odX2_build 3 (g := (40, [(0, .ref p0), (1, .ref p1), (2, .ref p2), (3, .ref p3)], [.ref p2, .ref p1, .ref p0], (h19 ++ R), 0, 0)) rfl ?_
      obtain ⟨f23, k24, hq⟩ := bsm hq
      obtain ⟨o21, e22, hq⟩ := bsm hq
      refine mB_V (as := [.ref p1, .ref p2]) odX2_build okX2_spread lk_2_50 rfl (eaX2_spread e22) (kO_at (kO_ap k24)) rfl rfl rfl ?_
      show mB _ mX2_build (43, [(0, .ref p0), (1, .ref p1), (2, .ref p2), (3, .ref p3)], [.int o21.2], (o21.1 ++ R), 0, 0)
      refine mB_run odX2_build 3 (g := (48, [(4, .int o21.2), (0, .ref p0), (1, .ref p1), (2, .ref p2), (3, .ref p3)], [.int (3 : Int32), .int o21.2], (o21.1 ++ R), 0, 0)) rfl ?_
      by_cases c25 : o21.2 < (3 : Int32)
      · rw [if_pos c25] at hq
        refine ic_lt_T (t := 66) odX2_build rfl rfl c25 ?_
        refine mB_lv [1, 4, 0] (lv' := [(0, .ref p0), (3, .ref p3), (4, .int o21.2)]) rfl ?_
        exact eaX2_build_66 _ _ _ _ hq
      · rw [if_neg c25] at hq
        refine ic_lt_F (t := 66) odX2_build rfl rfl c25 ?_
        refine mB_run odX2_build 1 (g := (52, [(4, .int o21.2), (0, .ref p0), (1, .ref p1), (2, .ref p2), (3, .ref p3)], [.ref p0], (o21.1 ++ R), 0, 0)) rfl ?_
        obtain ⟨v26, e27, hq⟩ := bsm hq
        refine r_gI odX2_build rfl rfl (gI_ap e27) ?_
        by_cases c28 : v26 = 0
        · rw [if_pos c28] at hq
          refine if_ne_F (t := 66) odX2_build rfl rfl c28 ?_
          refine mB_run odX2_build 4 (g := (63, [(4, .int o21.2), (0, .ref p0), (1, .ref p1), (2, .ref p2), (3, .ref p3)], [.int o21.2, .ref p2, .ref p1, .ref p0], (o21.1 ++ R), 0, 0)) rfl ?_
          obtain ⟨f31, k32, hq⟩ := bsm hq
          obtain ⟨o29, e30, hq⟩ := bsm hq
          refine mB_V (as := [.ref p1, .ref p2, .int o21.2]) odX2_build okX2_wrap lk_2_54 rfl (eaX2_wrap e30) (kO_at (kO_ap k32)) rfl rfl rfl ?_
          show mB _ mX2_build (66, [(4, .int o21.2), (0, .ref p0), (1, .ref p1), (2, .ref p2), (3, .ref p3)], [], (o29 ++ R), 0, 0)
          refine mB_lv [1, 4, 0] (lv' := [(0, .ref p0), (3, .ref p3), (4, .int o21.2)]) rfl ?_
          exact eaX2_build_66 _ _ _ _ hq
        · rw [if_neg c28] at hq
          refine if_ne_T (t := 66) odX2_build rfl rfl c28 ?_
          refine mB_lv [1, 4, 0] (lv' := [(0, .ref p0), (3, .ref p3), (4, .int o21.2)]) rfl ?_
          exact eaX2_build_66 _ _ _ _ hq
def fxX3_takeAll_6 (N : Nat) : Nat → Nat → Nat → Int32 → mh → Option mh
  | 0, _, _, _, _ => none
  | n + 1, x0, x1, x2, h =>
    (gI h x1 3 0).bind fun v5 =>
    if v5 ≤ x2 then (
      some h) else (
      (gR h x1 3 1).bind fun v8 =>
      (aI h v8 x2).bind fun v10 =>
      (gR h x1 3 2).bind fun v12 =>
      (aI h v12 x2).bind fun v14 =>
      (gR h x1 3 3).bind fun v16 =>
      (aI h v16 x2).bind fun v18 =>
      (kO h x0 3).bind fun f22 =>
      (fxX3_put N x0 v10 v14 v18 h).bind fun o20 =>
      fxX3_takeAll_6 N n x0 x1 (x2 + (1 : Int32)) o20)
set_option maxHeartbeats 4000000 in
set_option maxRecDepth 100000 in
theorem eaX3_takeAll_6 {N : Nat} {R : mh} : ∀ (n : Nat) (x0 : Nat) (x1 : Nat) (x2 : Int32) (h : mh) {o : mh}, fxX3_takeAll_6 N n x0 x1 x2 h = some o → mB (gO mX3_takeAll (o ++ R, none)) mX3_takeAll (6, [(0, .ref x0), (1, .ref x1), (2, .int x2)], [], (h ++ R), 0, 0) := by
  intro n
  induction n with
  | zero => intro x0 x1 x2 h o hq; cases hq
  | succ n ih =>
    intro x0 x1 x2 h o hq
    unfold fxX3_takeAll_6 at hq
    refine mB_run odX3_takeAll 2 (g := (8, [(0, .ref x0), (1, .ref x1), (2, .int x2)], [.ref x1, .int x2], (h ++ R), 0, 0)) rfl ?_
    obtain ⟨v5, e6, hq⟩ := bsm hq
    refine r_gI odX3_takeAll rfl rfl (gI_ap e6) ?_
    by_cases c7 : v5 ≤ x2
    · rw [if_pos c7] at hq
      refine ic_ge_T (t := 42) odX3_takeAll rfl rfl c7 ?_
      cases hq
      exact mB_ret odX3_takeAll rfl
    · rw [if_neg c7] at hq
      refine ic_ge_F (t := 42) odX3_takeAll rfl rfl c7 ?_
      refine mB_run odX3_takeAll 2 (g := (16, [(0, .ref x0), (1, .ref x1), (2, .int x2)], [.ref x1, .ref x0], (h ++ R), 0, 0)) rfl ?_
      obtain ⟨v8, e9, hq⟩ := bsm hq
      refine r_gR odX3_takeAll rfl rfl (gR_ap e9) ?_
      refine mB_run odX3_takeAll 1 (g := (20, [(0, .ref x0), (1, .ref x1), (2, .int x2)], [.int x2, .ref v8, .ref x0], (h ++ R), 0, 0)) rfl ?_
      obtain ⟨v10, e11, hq⟩ := bsm hq
      refine r_aI odX3_takeAll rfl (aI_ap e11) ?_
      refine mB_run odX3_takeAll 1 (g := (22, [(0, .ref x0), (1, .ref x1), (2, .int x2)], [.ref x1, .int v10, .ref x0], (h ++ R), 0, 0)) rfl ?_
      obtain ⟨v12, e13, hq⟩ := bsm hq
      refine r_gR odX3_takeAll rfl rfl (gR_ap e13) ?_
      refine mB_run odX3_takeAll 1 (g := (26, [(0, .ref x0), (1, .ref x1), (2, .int x2)], [.int x2, .ref v12, .int v10, .ref x0], (h ++ R), 0, 0)) rfl ?_
      obtain ⟨v14, e15, hq⟩ := bsm hq
      refine r_aI odX3_takeAll rfl (aI_ap e15) ?_
      refine mB_run odX3_takeAll 1 (g := (28, [(0, .ref x0), (1, .ref x1), (2, .int x2)], [.ref x1, .int v14, .int v10, .ref x0], (h ++ R), 0, 0)) rfl ?_
      obtain ⟨v16, e17, hq⟩ := bsm hq
      refine r_gR odX3_takeAll rfl rfl (gR_ap e17) ?_
      refine mB_run odX3_takeAll 1 (g := (32, [(0, .ref x0), (1, .ref x1), (2, .int x2)], [.int x2, .ref v16, .int v14, .int v10, .ref x0], (h ++ R), 0, 0)) rfl ?_
      obtain ⟨v18, e19, hq⟩ := bsm hq
      refine r_aI odX3_takeAll rfl (aI_ap e19) ?_
      obtain ⟨f22, k23, hq⟩ := bsm hq
      obtain ⟨o20, e21, hq⟩ := bsm hq
      refine mB_V (as := [.int v10, .int v14, .int v18]) odX3_takeAll okX3_put lk_3_26 rfl (eaX3_put e21) (kO_at (kO_ap k23)) rfl rfl rfl ?_
      show mB _ mX3_takeAll (36, [(0, .ref x0), (1, .ref x1), (2, .int x2)], [], (o20 ++ R), 0, 0)
      refine mB_run odX3_takeAll 2 (g := (6, [(2, .int (x2 + (1 : Int32))), (0, .ref x0), (1, .ref x1)], [], (o20 ++ R), 0, 0)) rfl ?_
      refine mB_lv [1, 2, 0] (lv' := [(0, .ref x0), (1, .ref x1), (2, .int (x2 + (1 : Int32)))]) rfl ?_
      exact ih _ _ _ _ hq
def fxX3_takeAll (N : Nat) (p0 : Nat) (p1 : Nat) (h : mh) : Option mh :=
  (kO h p0 3).bind fun f3 =>
  (fxX3_clear N p0 h).bind fun o1 =>
  fxX3_takeAll_6 N N p0 p1 (0 : Int32) o1
set_option maxHeartbeats 4000000 in
set_option maxRecDepth 100000 in
theorem eaX3_takeAll {N : Nat} {R : mh} {p0 : Nat} {p1 : Nat} {h : mh} {o : mh} (hq : fxX3_takeAll N p0 p1 h = some o) : mC mX3_takeAll [.ref p0, .ref p1] (h ++ R) (o ++ R, none) := by
  refine mC_of okX3_takeAll (Nat.le_of_ble_eq_true rfl) ?_
  unfold fxX3_takeAll at hq
  show mB _ mX3_takeAll (0, [(0, .ref p0), (1, .ref p1)], [], (h ++ R), 0, 0)
  refine mB_run odX3_takeAll 1 (g := (1, [(0, .ref p0), (1, .ref p1)], [.ref p0], (h ++ R), 0, 0)) rfl ?_
  obtain ⟨f3, k4, hq⟩ := bsm hq
  obtain ⟨o1, e2, hq⟩ := bsm hq
  refine mB_V (as := []) odX3_takeAll okX3_clear lk_3_23 rfl (eaX3_clear e2) (kO_at (kO_ap k4)) rfl rfl rfl ?_
  show mB _ mX3_takeAll (4, [(0, .ref p0), (1, .ref p1)], [], (o1 ++ R), 0, 0)
  refine mB_run odX3_takeAll 2 (g := (6, [(2, .int (0 : Int32)), (0, .ref p0), (1, .ref p1)], [], (o1 ++ R), 0, 0)) rfl ?_
  refine mB_lv [1, 2, 0] (lv' := [(0, .ref p0), (1, .ref p1), (2, .int (0 : Int32))]) rfl ?_
  exact eaX3_takeAll_6 N _ _ _ _ hq
def fxX3_squareBetween (N : Nat) (p0 : Nat) (p1 : Int32) (p2 : Int32) (h : mh) : Option (mh × Int32) :=
  (gR h p0 3 1).bind fun v1 =>
  (aI h v1 p1).bind fun v3 =>
  (gR h p0 3 1).bind fun v5 =>
  (aI h v5 p2).bind fun v7 =>
  (gR h p0 3 2).bind fun v9 =>
  (aI h v9 p1).bind fun v11 =>
  (gR h p0 3 2).bind fun v13 =>
  (aI h v13 p2).bind fun v15 =>
  (gR h p0 3 3).bind fun v17 =>
  (aI h v17 p1).bind fun v19 =>
  (gR h p0 3 3).bind fun v21 =>
  (aI h v21 p2).bind fun v23 =>
  some (h, ((((v3 - v7) * (v3 - v7)) + ((v11 - v15) * (v11 - v15))) + ((v19 - v23) * (v19 - v23))))
set_option maxHeartbeats 4000000 in
set_option maxRecDepth 100000 in
theorem eaX3_squareBetween {N : Nat} {R : mh} {p0 : Nat} {p1 : Int32} {p2 : Int32} {h : mh} {o : (mh × Int32)} (hq : fxX3_squareBetween N p0 p1 p2 h = some o) : mC mX3_squareBetween [.ref p0, .int p1, .int p2] (h ++ R) (o.1 ++ R, some (.int o.2)) := by
  refine mC_of okX3_squareBetween (Nat.le_of_ble_eq_true rfl) ?_
  unfold fxX3_squareBetween at hq
  show mB _ mX3_squareBetween (0, [(0, .ref p0), (1, .int p1), (2, .int p2)], [], (h ++ R), 0, 0)
  refine mB_run odX3_squareBetween 1 (g := (1, [(0, .ref p0), (1, .int p1), (2, .int p2)], [.ref p0], (h ++ R), 0, 0)) rfl ?_
  obtain ⟨v1, e2, hq⟩ := bsm hq
  refine r_gR odX3_squareBetween rfl rfl (gR_ap e2) ?_
  refine mB_run odX3_squareBetween 1 (g := (5, [(0, .ref p0), (1, .int p1), (2, .int p2)], [.int p1, .ref v1], (h ++ R), 0, 0)) rfl ?_
  obtain ⟨v3, e4, hq⟩ := bsm hq
  refine r_aI odX3_squareBetween rfl (aI_ap e4) ?_
  refine mB_run odX3_squareBetween 1 (g := (7, [(0, .ref p0), (1, .int p1), (2, .int p2)], [.ref p0, .int v3], (h ++ R), 0, 0)) rfl ?_
  obtain ⟨v5, e6, hq⟩ := bsm hq
  refine r_gR odX3_squareBetween rfl rfl (gR_ap e6) ?_
  refine mB_run odX3_squareBetween 1 (g := (11, [(0, .ref p0), (1, .int p1), (2, .int p2)], [.int p2, .ref v5, .int v3], (h ++ R), 0, 0)) rfl ?_
  obtain ⟨v7, e8, hq⟩ := bsm hq
  refine r_aI odX3_squareBetween rfl (aI_ap e8) ?_
  refine mB_run odX3_squareBetween 3 (g := (15, [(3, .int (v3 - v7)), (0, .ref p0), (1, .int p1), (2, .int p2)], [.ref p0], (h ++ R), 0, 0)) rfl ?_
  obtain ⟨v9, e10, hq⟩ := bsm hq
  refine r_gR odX3_squareBetween rfl rfl (gR_ap e10) ?_
  refine mB_run odX3_squareBetween 1 (g := (19, [(3, .int (v3 - v7)), (0, .ref p0), (1, .int p1), (2, .int p2)], [.int p1, .ref v9], (h ++ R), 0, 0)) rfl ?_
  obtain ⟨v11, e12, hq⟩ := bsm hq
  refine r_aI odX3_squareBetween rfl (aI_ap e12) ?_
  refine mB_run odX3_squareBetween 1 (g := (21, [(3, .int (v3 - v7)), (0, .ref p0), (1, .int p1), (2, .int p2)], [.ref p0, .int v11], (h ++ R), 0, 0)) rfl ?_
  obtain ⟨v13, e14, hq⟩ := bsm hq
  refine r_gR odX3_squareBetween rfl rfl (gR_ap e14) ?_
  refine mB_run odX3_squareBetween 1 (g := (25, [(3, .int (v3 - v7)), (0, .ref p0), (1, .int p1), (2, .int p2)], [.int p2, .ref v13, .int v11], (h ++ R), 0, 0)) rfl ?_
  obtain ⟨v15, e16, hq⟩ := bsm hq
  refine r_aI odX3_squareBetween rfl (aI_ap e16) ?_
  refine mB_run odX3_squareBetween 3 (g := (30, [(4, .int (v11 - v15)), (3, .int (v3 - v7)), (0, .ref p0), (1, .int p1), (2, .int p2)], [.ref p0], (h ++ R), 0, 0)) rfl ?_
  obtain ⟨v17, e18, hq⟩ := bsm hq
  refine r_gR odX3_squareBetween rfl rfl (gR_ap e18) ?_
  refine mB_run odX3_squareBetween 1 (g := (34, [(4, .int (v11 - v15)), (3, .int (v3 - v7)), (0, .ref p0), (1, .int p1), (2, .int p2)], [.int p1, .ref v17], (h ++ R), 0, 0)) rfl ?_
  obtain ⟨v19, e20, hq⟩ := bsm hq
  refine r_aI odX3_squareBetween rfl (aI_ap e20) ?_
  refine mB_run odX3_squareBetween 1 (g := (36, [(4, .int (v11 - v15)), (3, .int (v3 - v7)), (0, .ref p0), (1, .int p1), (2, .int p2)], [.ref p0, .int v19], (h ++ R), 0, 0)) rfl ?_
  obtain ⟨v21, e22, hq⟩ := bsm hq
  refine r_gR odX3_squareBetween rfl rfl (gR_ap e22) ?_
  refine mB_run odX3_squareBetween 1 (g := (40, [(4, .int (v11 - v15)), (3, .int (v3 - v7)), (0, .ref p0), (1, .int p1), (2, .int p2)], [.int p2, .ref v21, .int v19], (h ++ R), 0, 0)) rfl ?_
  obtain ⟨v23, e24, hq⟩ := bsm hq
  refine r_aI odX3_squareBetween rfl (aI_ap e24) ?_
  refine mB_run odX3_squareBetween 12 (g := (58, [(5, .int (v19 - v23)), (4, .int (v11 - v15)), (3, .int (v3 - v7)), (0, .ref p0), (1, .int p1), (2, .int p2)], [.int ((v19 - v23) * (v19 - v23)), .int (((v3 - v7) * (v3 - v7)) + ((v11 - v15) * (v11 - v15)))], (h ++ R), 0, 0)) rfl ?_
  refine mB_run odX3_squareBetween 1 (g := (59, [(5, .int (v19 - v23)), (4, .int (v11 - v15)), (3, .int (v3 - v7)), (0, .ref p0), (1, .int p1), (2, .int p2)], [.int ((((v3 - v7) * (v3 - v7)) + ((v11 - v15) * (v11 - v15))) + ((v19 - v23) * (v19 - v23)))], (h ++ R), 0, 0)) rfl ?_
  cases hq
  exact mB_ret odX3_squareBetween rfl
def fxX3_isLike_15 (N : Nat) : Nat → Nat → Nat → Int32 → mh → Option (mh × Int32)
  | 0, _, _, _, _ => none
  | n + 1, x0, x1, x2, h =>
    (gI h x0 3 0).bind fun v6 =>
    if v6 ≤ x2 then (
      some (h, (1 : Int32))) else (
      (gR h x0 3 1).bind fun v9 =>
      (aI h v9 x2).bind fun v11 =>
      (gR h x1 3 1).bind fun v13 =>
      (aI h v13 x2).bind fun v15 =>
      if v11 = v15 then (
        (gR h x0 3 2).bind fun v18 =>
        (aI h v18 x2).bind fun v20 =>
        (gR h x1 3 2).bind fun v22 =>
        (aI h v22 x2).bind fun v24 =>
        if v20 = v24 then (
          (gR h x0 3 3).bind fun v27 =>
          (aI h v27 x2).bind fun v29 =>
          (gR h x1 3 3).bind fun v31 =>
          (aI h v31 x2).bind fun v33 =>
          if v29 = v33 then (
            fxX3_isLike_15 N n x0 x1 (x2 + (1 : Int32)) h) else (
            some (h, (0 : Int32)))) else (
          some (h, (0 : Int32)))) else (
        some (h, (0 : Int32))))
set_option maxHeartbeats 4000000 in
set_option maxRecDepth 100000 in
theorem eaX3_isLike_15 {N : Nat} {R : mh} : ∀ (n : Nat) (x0 : Nat) (x1 : Nat) (x2 : Int32) (h : mh) {o : (mh × Int32)}, fxX3_isLike_15 N n x0 x1 x2 h = some o → mB (gO mX3_isLike (o.1 ++ R, some (.int o.2))) mX3_isLike (15, [(0, .ref x0), (1, .ref x1), (2, .int x2)], [], (h ++ R), 0, 0) := by
  intro n
  induction n with
  | zero => intro x0 x1 x2 h o hq; cases hq
  | succ n ih =>
    intro x0 x1 x2 h o hq
    unfold fxX3_isLike_15 at hq
    refine mB_run odX3_isLike 2 (g := (17, [(0, .ref x0), (1, .ref x1), (2, .int x2)], [.ref x0, .int x2], (h ++ R), 0, 0)) rfl ?_
    obtain ⟨v6, e7, hq⟩ := bsm hq
    refine r_gI odX3_isLike rfl rfl (gI_ap e7) ?_
    by_cases c8 : v6 ≤ x2
    · rw [if_pos c8] at hq
      refine ic_ge_T (t := 76) odX3_isLike rfl rfl c8 ?_
      refine mB_run odX3_isLike 1 (g := (77, [(0, .ref x0), (1, .ref x1), (2, .int x2)], [.int (1 : Int32)], (h ++ R), 0, 0)) rfl ?_
      cases hq
      exact mB_ret odX3_isLike rfl
    · rw [if_neg c8] at hq
      refine ic_ge_F (t := 76) odX3_isLike rfl rfl c8 ?_
      refine mB_run odX3_isLike 1 (g := (24, [(0, .ref x0), (1, .ref x1), (2, .int x2)], [.ref x0], (h ++ R), 0, 0)) rfl ?_
      obtain ⟨v9, e10, hq⟩ := bsm hq
      refine r_gR odX3_isLike rfl rfl (gR_ap e10) ?_
      refine mB_run odX3_isLike 1 (g := (28, [(0, .ref x0), (1, .ref x1), (2, .int x2)], [.int x2, .ref v9], (h ++ R), 0, 0)) rfl ?_
      obtain ⟨v11, e12, hq⟩ := bsm hq
      refine r_aI odX3_isLike rfl (aI_ap e12) ?_
      refine mB_run odX3_isLike 1 (g := (30, [(0, .ref x0), (1, .ref x1), (2, .int x2)], [.ref x1, .int v11], (h ++ R), 0, 0)) rfl ?_
      obtain ⟨v13, e14, hq⟩ := bsm hq
      refine r_gR odX3_isLike rfl rfl (gR_ap e14) ?_
      refine mB_run odX3_isLike 1 (g := (34, [(0, .ref x0), (1, .ref x1), (2, .int x2)], [.int x2, .ref v13, .int v11], (h ++ R), 0, 0)) rfl ?_
      obtain ⟨v15, e16, hq⟩ := bsm hq
      refine r_aI odX3_isLike rfl (aI_ap e16) ?_
      by_cases c17 : v11 = v15
      · rw [if_pos c17] at hq
        refine ic_ne_F (t := 68) odX3_isLike rfl rfl c17 ?_
        refine mB_run odX3_isLike 1 (g := (39, [(0, .ref x0), (1, .ref x1), (2, .int x2)], [.ref x0], (h ++ R), 0, 0)) rfl ?_
        obtain ⟨v18, e19, hq⟩ := bsm hq
        refine r_gR odX3_isLike rfl rfl (gR_ap e19) ?_
        refine mB_run odX3_isLike 1 (g := (43, [(0, .ref x0), (1, .ref x1), (2, .int x2)], [.int x2, .ref v18], (h ++ R), 0, 0)) rfl ?_
        obtain ⟨v20, e21, hq⟩ := bsm hq
        refine r_aI odX3_isLike rfl (aI_ap e21) ?_
        refine mB_run odX3_isLike 1 (g := (45, [(0, .ref x0), (1, .ref x1), (2, .int x2)], [.ref x1, .int v20], (h ++ R), 0, 0)) rfl ?_
        obtain ⟨v22, e23, hq⟩ := bsm hq
        refine r_gR odX3_isLike rfl rfl (gR_ap e23) ?_
        refine mB_run odX3_isLike 1 (g := (49, [(0, .ref x0), (1, .ref x1), (2, .int x2)], [.int x2, .ref v22, .int v20], (h ++ R), 0, 0)) rfl ?_
        obtain ⟨v24, e25, hq⟩ := bsm hq
        refine r_aI odX3_isLike rfl (aI_ap e25) ?_
        by_cases c26 : v20 = v24
        · rw [if_pos c26] at hq
          refine ic_ne_F (t := 68) odX3_isLike rfl rfl c26 ?_
          refine mB_run odX3_isLike 1 (g := (54, [(0, .ref x0), (1, .ref x1), (2, .int x2)], [.ref x0], (h ++ R), 0, 0)) rfl ?_
          obtain ⟨v27, e28, hq⟩ := bsm hq
          refine r_gR odX3_isLike rfl rfl (gR_ap e28) ?_
          refine mB_run odX3_isLike 1 (g := (58, [(0, .ref x0), (1, .ref x1), (2, .int x2)], [.int x2, .ref v27], (h ++ R), 0, 0)) rfl ?_
          obtain ⟨v29, e30, hq⟩ := bsm hq
          refine r_aI odX3_isLike rfl (aI_ap e30) ?_
          refine mB_run odX3_isLike 1 (g := (60, [(0, .ref x0), (1, .ref x1), (2, .int x2)], [.ref x1, .int v29], (h ++ R), 0, 0)) rfl ?_
          obtain ⟨v31, e32, hq⟩ := bsm hq
          refine r_gR odX3_isLike rfl rfl (gR_ap e32) ?_
          refine mB_run odX3_isLike 1 (g := (64, [(0, .ref x0), (1, .ref x1), (2, .int x2)], [.int x2, .ref v31, .int v29], (h ++ R), 0, 0)) rfl ?_
          obtain ⟨v33, e34, hq⟩ := bsm hq
          refine r_aI odX3_isLike rfl (aI_ap e34) ?_
          by_cases c35 : v29 = v33
          · rw [if_pos c35] at hq
            refine ic_eq_T (t := 70) odX3_isLike rfl rfl c35 ?_
            refine mB_run odX3_isLike 2 (g := (15, [(2, .int (x2 + (1 : Int32))), (0, .ref x0), (1, .ref x1)], [], (h ++ R), 0, 0)) rfl ?_
            refine mB_lv [1, 2, 0] (lv' := [(0, .ref x0), (1, .ref x1), (2, .int (x2 + (1 : Int32)))]) rfl ?_
            exact ih _ _ _ _ hq
          · rw [if_neg c35] at hq
            refine ic_eq_F (t := 70) odX3_isLike rfl rfl c35 ?_
            refine mB_run odX3_isLike 1 (g := (69, [(0, .ref x0), (1, .ref x1), (2, .int x2)], [.int (0 : Int32)], (h ++ R), 0, 0)) rfl ?_
            cases hq
            exact mB_ret odX3_isLike rfl
        · rw [if_neg c26] at hq
          refine ic_ne_T (t := 68) odX3_isLike rfl rfl c26 ?_
          refine mB_run odX3_isLike 1 (g := (69, [(0, .ref x0), (1, .ref x1), (2, .int x2)], [.int (0 : Int32)], (h ++ R), 0, 0)) rfl ?_
          cases hq
          exact mB_ret odX3_isLike rfl
      · rw [if_neg c17] at hq
        refine ic_ne_T (t := 68) odX3_isLike rfl rfl c17 ?_
        refine mB_run odX3_isLike 1 (g := (69, [(0, .ref x0), (1, .ref x1), (2, .int x2)], [.int (0 : Int32)], (h ++ R), 0, 0)) rfl ?_
        cases hq
        exact mB_ret odX3_isLike rfl
def fxX3_isLike (N : Nat) (p0 : Nat) (p1 : Nat) (h : mh) : Option (mh × Int32) :=
  (gI h p0 3 0).bind fun v1 =>
  (gI h p1 3 0).bind fun v3 =>
  if v1 = v3 then (
    fxX3_isLike_15 N N p0 p1 (0 : Int32) h) else (
    some (h, (0 : Int32)))
set_option maxHeartbeats 4000000 in
set_option maxRecDepth 100000 in
theorem eaX3_isLike {N : Nat} {R : mh} {p0 : Nat} {p1 : Nat} {h : mh} {o : (mh × Int32)} (hq : fxX3_isLike N p0 p1 h = some o) : mC mX3_isLike [.ref p0, .ref p1] (h ++ R) (o.1 ++ R, some (.int o.2)) := by
  refine mC_of okX3_isLike (Nat.le_of_ble_eq_true rfl) ?_
  unfold fxX3_isLike at hq
  show mB _ mX3_isLike (0, [(0, .ref p0), (1, .ref p1)], [], (h ++ R), 0, 0)
  refine mB_run odX3_isLike 1 (g := (1, [(0, .ref p0), (1, .ref p1)], [.ref p0], (h ++ R), 0, 0)) rfl ?_
  obtain ⟨v1, e2, hq⟩ := bsm hq
  refine r_gI odX3_isLike rfl rfl (gI_ap e2) ?_
  refine mB_run odX3_isLike 1 (g := (5, [(0, .ref p0), (1, .ref p1)], [.ref p1, .int v1], (h ++ R), 0, 0)) rfl ?_
  obtain ⟨v3, e4, hq⟩ := bsm hq
  refine r_gI odX3_isLike rfl rfl (gI_ap e4) ?_
  by_cases c5 : v1 = v3
  · rw [if_pos c5] at hq
    refine ic_eq_T (t := 13) odX3_isLike rfl rfl c5 ?_
    refine mB_run odX3_isLike 2 (g := (15, [(2, .int (0 : Int32)), (0, .ref p0), (1, .ref p1)], [], (h ++ R), 0, 0)) rfl ?_
    refine mB_lv [1, 2, 0] (lv' := [(0, .ref p0), (1, .ref p1), (2, .int (0 : Int32))]) rfl ?_
    exact eaX3_isLike_15 N _ _ _ _ hq
  · rw [if_neg c5] at hq
    refine ic_eq_F (t := 13) odX3_isLike rfl rfl c5 ?_
    refine mB_run odX3_isLike 1 (g := (12, [(0, .ref p0), (1, .ref p1)], [.int (0 : Int32)], (h ++ R), 0, 0)) rfl ?_
    cases hq
    exact mB_ret odX3_isLike rfl
def fxX4_part (N : Nat) (p0 : Nat) (p1 : Int32) (h : mh) : Option (mh × Int64) :=
  if p1 = 0 then (
    (gJ h p0 4 0).bind fun v2 =>
    some (h, v2)) else (
    (gJ h p0 4 1).bind fun v4 =>
    some (h, v4))
set_option maxHeartbeats 4000000 in
set_option maxRecDepth 100000 in
theorem eaX4_part {N : Nat} {R : mh} {p0 : Nat} {p1 : Int32} {h : mh} {o : (mh × Int64)} (hq : fxX4_part N p0 p1 h = some o) : mC mX4_part [.ref p0, .int p1] (h ++ R) (o.1 ++ R, some (.long o.2)) := by
  refine mC_of okX4_part (Nat.le_of_ble_eq_true rfl) ?_
  unfold fxX4_part at hq
  show mB _ mX4_part (0, [(0, .ref p0), (1, .int p1)], [], (h ++ R), 0, 0)
  refine mB_run odX4_part 1 (g := (1, [(0, .ref p0), (1, .int p1)], [.int p1], (h ++ R), 0, 0)) rfl ?_
  by_cases c1 : p1 = 0
  · rw [if_pos c1] at hq
    refine if_ne_F (t := 11) odX4_part rfl rfl c1 ?_
    refine mB_run odX4_part 1 (g := (5, [(0, .ref p0), (1, .int p1)], [.ref p0], (h ++ R), 0, 0)) rfl ?_
    obtain ⟨v2, e3, hq⟩ := bsm hq
    refine r_gJ odX4_part rfl rfl (gJ_ap e3) ?_
    refine mB_run odX4_part 1 (g := (15, [(0, .ref p0), (1, .int p1)], [.long v2], (h ++ R), 0, 0)) rfl ?_
    cases hq
    exact mB_ret odX4_part rfl
  · rw [if_neg c1] at hq
    refine if_ne_T (t := 11) odX4_part rfl rfl c1 ?_
    refine mB_run odX4_part 1 (g := (12, [(0, .ref p0), (1, .int p1)], [.ref p0], (h ++ R), 0, 0)) rfl ?_
    obtain ⟨v4, e5, hq⟩ := bsm hq
    refine r_gJ odX4_part rfl rfl (gJ_ap e5) ?_
    cases hq
    exact mB_ret odX4_part rfl
def fxX6_isSlot (N : Nat) (p0 : Int32) (h : mh) : Option (mh × Int32) :=
  if p0 < 0 then (
    some (h, (0 : Int32))) else (
    if (8 : Int32) ≤ p0 then (
      some (h, (0 : Int32))) else (
      some (h, (1 : Int32))))
set_option maxHeartbeats 4000000 in
set_option maxRecDepth 100000 in
theorem eaX6_isSlot {N : Nat} {R : mh} {p0 : Int32} {h : mh} {o : (mh × Int32)} (hq : fxX6_isSlot N p0 h = some o) : mC mX6_isSlot [.int p0] (h ++ R) (o.1 ++ R, some (.int o.2)) := by
  refine mC_of okX6_isSlot (Nat.le_of_ble_eq_true rfl) ?_
  unfold fxX6_isSlot at hq
  show mB _ mX6_isSlot (0, [(0, .int p0)], [], (h ++ R), 0, 0)
  refine mB_run odX6_isSlot 1 (g := (1, [(0, .int p0)], [.int p0], (h ++ R), 0, 0)) rfl ?_
  by_cases c1 : p0 < 0
  · rw [if_pos c1] at hq
    refine if_lt_T (t := 14) odX6_isSlot rfl rfl c1 ?_
    refine mB_run odX6_isSlot 1 (g := (15, [(0, .int p0)], [.int (0 : Int32)], (h ++ R), 0, 0)) rfl ?_
    cases hq
    exact mB_ret odX6_isSlot rfl
  · rw [if_neg c1] at hq
    refine if_lt_F (t := 14) odX6_isSlot rfl rfl c1 ?_
    refine mB_run odX6_isSlot 2 (g := (7, [(0, .int p0)], [.int (8 : Int32), .int p0], (h ++ R), 0, 0)) rfl ?_
    by_cases c2 : (8 : Int32) ≤ p0
    · rw [if_pos c2] at hq
      refine ic_ge_T (t := 14) odX6_isSlot rfl rfl c2 ?_
      refine mB_run odX6_isSlot 1 (g := (15, [(0, .int p0)], [.int (0 : Int32)], (h ++ R), 0, 0)) rfl ?_
      cases hq
      exact mB_ret odX6_isSlot rfl
    · rw [if_neg c2] at hq
      refine ic_ge_F (t := 14) odX6_isSlot rfl rfl c2 ?_
      refine mB_run odX6_isSlot 2 (g := (15, [(0, .int p0)], [.int (1 : Int32)], (h ++ R), 0, 0)) rfl ?_
      cases hq
      exact mB_ret odX6_isSlot rfl
def fxX6_tray_47 (N : Nat) : Nat → Nat → Int32 → Int32 → Int32 → mh → Option (mh × Int32)
  | 0, _, _, _, _, _ => none
  | n + 1, x0, x1, x2, x3, h =>
    if x2 ≤ x3 then (
      some (h, (1 : Int32))) else (
      (gR h x0 6 0).bind fun v20 =>
      (aR h v20 x1).bind fun v22 =>
      (kO h v22 3).bind fun f26 =>
      (fxX3_put N v22 (0 : Int32) (0 : Int32) (0 : Int32) h).bind fun o24 =>
      fxX6_tray_47 N n x0 x1 x2 (x3 + (1 : Int32)) o24)
set_option maxHeartbeats 4000000 in
set_option maxRecDepth 100000 in
theorem eaX6_tray_47 {N : Nat} {R : mh} : ∀ (n : Nat) (x0 : Nat) (x1 : Int32) (x2 : Int32) (x3 : Int32) (h : mh) {o : (mh × Int32)}, fxX6_tray_47 N n x0 x1 x2 x3 h = some o → mB (gO mX6_tray (o.1 ++ R, some (.int o.2))) mX6_tray (47, [(0, .ref x0), (1, .int x1), (2, .int x2), (3, .int x3)], [], (h ++ R), 0, 0) := by
  intro n
  induction n with
  | zero => intro x0 x1 x2 x3 h o hq; cases hq
  | succ n ih =>
    intro x0 x1 x2 x3 h o hq
    unfold fxX6_tray_47 at hq
    refine mB_run odX6_tray 2 (g := (49, [(0, .ref x0), (1, .int x1), (2, .int x2), (3, .int x3)], [.int x2, .int x3], (h ++ R), 0, 0)) rfl ?_
    by_cases c19 : x2 ≤ x3
    · rw [if_pos c19] at hq
      refine ic_ge_T (t := 70) odX6_tray rfl rfl c19 ?_
      refine mB_run odX6_tray 1 (g := (71, [(0, .ref x0), (1, .int x1), (2, .int x2), (3, .int x3)], [.int (1 : Int32)], (h ++ R), 0, 0)) rfl ?_
      cases hq
      exact mB_ret odX6_tray rfl
    · rw [if_neg c19] at hq
      refine ic_ge_F (t := 70) odX6_tray rfl rfl c19 ?_
      refine mB_run odX6_tray 1 (g := (53, [(0, .ref x0), (1, .int x1), (2, .int x2), (3, .int x3)], [.ref x0], (h ++ R), 0, 0)) rfl ?_
      obtain ⟨v20, e21, hq⟩ := bsm hq
      refine r_gR odX6_tray rfl rfl (gR_ap e21) ?_
      refine mB_run odX6_tray 1 (g := (57, [(0, .ref x0), (1, .int x1), (2, .int x2), (3, .int x3)], [.int x1, .ref v20], (h ++ R), 0, 0)) rfl ?_
      obtain ⟨v22, e23, hq⟩ := bsm hq
      refine r_aR odX6_tray rfl (aR_ap e23) ?_
      refine mB_run odX6_tray 3 (g := (61, [(0, .ref x0), (1, .int x1), (2, .int x2), (3, .int x3)], [.int (0 : Int32), .int (0 : Int32), .int (0 : Int32), .ref v22], (h ++ R), 0, 0)) rfl ?_
      obtain ⟨f26, k27, hq⟩ := bsm hq
      obtain ⟨o24, e25, hq⟩ := bsm hq
      refine mB_V (as := [.int (0 : Int32), .int (0 : Int32), .int (0 : Int32)]) odX6_tray okX3_put lk_6_75 rfl (eaX3_put e25) (kO_at (kO_ap k27)) rfl rfl rfl ?_
      show mB _ mX6_tray (64, [(0, .ref x0), (1, .int x1), (2, .int x2), (3, .int x3)], [], (o24 ++ R), 0, 0)
      refine mB_run odX6_tray 2 (g := (47, [(3, .int (x3 + (1 : Int32))), (0, .ref x0), (1, .int x1), (2, .int x2)], [], (o24 ++ R), 0, 0)) rfl ?_
      refine mB_lv [1, 2, 3, 0] (lv' := [(0, .ref x0), (1, .int x1), (2, .int x2), (3, .int (x3 + (1 : Int32)))]) rfl ?_
      exact ih _ _ _ _ _ hq
def fxX6_tray_35 (N : Nat) (x0 : Nat) (x1 : Int32) (x2 : Int32) (s0 : Int32) (s1 : Int32) (s2 : Nat) (h : mh) : Option (mh × Int32) :=
  (wZ h s2 s1 s0).bind fun h9 =>
  (gR h9 x0 6 0).bind fun v11 =>
  (aR h9 v11 x1).bind fun v13 =>
  (kO h9 v13 3).bind fun f17 =>
  (fxX3_clear N v13 h9).bind fun o15 =>
  fxX6_tray_47 N N x0 x1 x2 (0 : Int32) o15
set_option maxHeartbeats 4000000 in
set_option maxRecDepth 100000 in
theorem eaX6_tray_35 {N : Nat} {R : mh} (x0 : Nat) (x1 : Int32) (x2 : Int32) (s0 : Int32) (s1 : Int32) (s2 : Nat) (h : mh) {o : (mh × Int32)} (hq : fxX6_tray_35 N x0 x1 x2 s0 s1 s2 h = some o) : mB (gO mX6_tray (o.1 ++ R, some (.int o.2))) mX6_tray (35, [(0, .ref x0), (1, .int x1), (2, .int x2)], [.int s0, .int s1, .ref s2], (h ++ R), 0, 0) := by
  unfold fxX6_tray_35 at hq
  obtain ⟨h9, e10, hq⟩ := bsm hq
  refine r_wZ odX6_tray rfl (wZ_ap e10) ?_
  refine mB_run odX6_tray 1 (g := (37, [(0, .ref x0), (1, .int x1), (2, .int x2)], [.ref x0], (h9 ++ R), 0, 0)) rfl ?_
  obtain ⟨v11, e12, hq⟩ := bsm hq
  refine r_gR odX6_tray rfl rfl (gR_ap e12) ?_
  refine mB_run odX6_tray 1 (g := (41, [(0, .ref x0), (1, .int x1), (2, .int x2)], [.int x1, .ref v11], (h9 ++ R), 0, 0)) rfl ?_
  obtain ⟨v13, e14, hq⟩ := bsm hq
  refine r_aR odX6_tray rfl (aR_ap e14) ?_
  obtain ⟨f17, k18, hq⟩ := bsm hq
  obtain ⟨o15, e16, hq⟩ := bsm hq
  refine mB_V (as := []) odX6_tray okX3_clear lk_6_83 rfl (eaX3_clear e16) (kO_at (kO_ap k18)) rfl rfl rfl ?_
  show mB _ mX6_tray (45, [(0, .ref x0), (1, .int x1), (2, .int x2)], [], (o15 ++ R), 0, 0)
  refine mB_run odX6_tray 2 (g := (47, [(3, .int (0 : Int32)), (0, .ref x0), (1, .int x1), (2, .int x2)], [], (o15 ++ R), 0, 0)) rfl ?_
  refine mB_lv [1, 2, 3, 0] (lv' := [(0, .ref x0), (1, .int x1), (2, .int x2), (3, .int (0 : Int32))]) rfl ?_
  exact eaX6_tray_47 N _ _ _ _ _ hq
def fxX6_tray (N : Nat) (p0 : Nat) (p1 : Int32) (p2 : Int32) (h : mh) : Option (mh × Int32) :=
  (fxX6_isSlot N p1 h).bind fun o1 =>
  if o1.2 = 0 then (
    some (o1.1, (0 : Int32))) else (
    if p2 < (-1 : Int32) then (
      some (o1.1, (0 : Int32))) else (
      if p2 ≤ (24 : Int32) then (
        (gR o1.1 p0 6 1).bind fun v6 =>
        if p2 = (-1 : Int32) then (
          fxX6_tray_35 N p0 p1 p2 (0 : Int32) p1 v6 o1.1) else (
          fxX6_tray_35 N p0 p1 p2 (1 : Int32) p1 v6 o1.1)) else (
        some (o1.1, (0 : Int32)))))
set_option maxHeartbeats 4000000 in
set_option maxRecDepth 100000 in
theorem eaX6_tray {N : Nat} {R : mh} {p0 : Nat} {p1 : Int32} {p2 : Int32} {h : mh} {o : (mh × Int32)} (hq : fxX6_tray N p0 p1 p2 h = some o) : mC mX6_tray [.ref p0, .int p1, .int p2] (h ++ R) (o.1 ++ R, some (.int o.2)) := by
  refine mC_of okX6_tray (Nat.le_of_ble_eq_true rfl) ?_
  unfold fxX6_tray at hq
  show mB _ mX6_tray (0, [(0, .ref p0), (1, .int p1), (2, .int p2)], [], (h ++ R), 0, 0)
  refine mB_run odX6_tray 1 (g := (1, [(0, .ref p0), (1, .int p1), (2, .int p2)], [.int p1], (h ++ R), 0, 0)) rfl ?_
  obtain ⟨o1, e2, hq⟩ := bsm hq
  refine mB_S (as := [.int p1]) odX6_tray okX6_isSlot lk_6_79 rfl (eaX6_isSlot e2) rfl rfl rfl ?_
  show mB _ mX6_tray (4, [(0, .ref p0), (1, .int p1), (2, .int p2)], [.int o1.2], (o1.1 ++ R), 0, 0)
  by_cases c3 : o1.2 = 0
  · rw [if_pos c3] at hq
    refine if_eq_T (t := 18) odX6_tray rfl rfl c3 ?_
    refine mB_run odX6_tray 1 (g := (19, [(0, .ref p0), (1, .int p1), (2, .int p2)], [.int (0 : Int32)], (o1.1 ++ R), 0, 0)) rfl ?_
    cases hq
    exact mB_ret odX6_tray rfl
  · rw [if_neg c3] at hq
    refine if_eq_F (t := 18) odX6_tray rfl rfl c3 ?_
    refine mB_run odX6_tray 2 (g := (9, [(0, .ref p0), (1, .int p1), (2, .int p2)], [.int (-1 : Int32), .int p2], (o1.1 ++ R), 0, 0)) rfl ?_
    by_cases c4 : p2 < (-1 : Int32)
    · rw [if_pos c4] at hq
      refine ic_lt_T (t := 18) odX6_tray rfl rfl c4 ?_
      refine mB_run odX6_tray 1 (g := (19, [(0, .ref p0), (1, .int p1), (2, .int p2)], [.int (0 : Int32)], (o1.1 ++ R), 0, 0)) rfl ?_
      cases hq
      exact mB_ret odX6_tray rfl
    · rw [if_neg c4] at hq
      refine ic_lt_F (t := 18) odX6_tray rfl rfl c4 ?_
      refine mB_run odX6_tray 2 (g := (15, [(0, .ref p0), (1, .int p1), (2, .int p2)], [.int (24 : Int32), .int p2], (o1.1 ++ R), 0, 0)) rfl ?_
      by_cases c5 : p2 ≤ (24 : Int32)
      · rw [if_pos c5] at hq
        refine ic_le_T (t := 20) odX6_tray rfl rfl c5 ?_
        refine mB_run odX6_tray 1 (g := (21, [(0, .ref p0), (1, .int p1), (2, .int p2)], [.ref p0], (o1.1 ++ R), 0, 0)) rfl ?_
        obtain ⟨v6, e7, hq⟩ := bsm hq
        refine r_gR odX6_tray rfl rfl (gR_ap e7) ?_
        refine mB_run odX6_tray 3 (g := (27, [(0, .ref p0), (1, .int p1), (2, .int p2)], [.int (-1 : Int32), .int p2, .int p1, .ref v6], (o1.1 ++ R), 0, 0)) rfl ?_
        by_cases c8 : p2 = (-1 : Int32)
        · rw [if_pos c8] at hq
          refine ic_eq_T (t := 34) odX6_tray rfl rfl c8 ?_
          refine mB_run odX6_tray 1 (g := (35, [(0, .ref p0), (1, .int p1), (2, .int p2)], [.int (0 : Int32), .int p1, .ref v6], (o1.1 ++ R), 0, 0)) rfl ?_
          refine mB_lv [0, 1, 2] (lv' := [(0, .ref p0), (1, .int p1), (2, .int p2)]) rfl ?_
          exact eaX6_tray_35 _ _ _ _ _ _ _ hq
        · rw [if_neg c8] at hq
          refine ic_eq_F (t := 34) odX6_tray rfl rfl c8 ?_
          refine mB_run odX6_tray 2 (g := (35, [(0, .ref p0), (1, .int p1), (2, .int p2)], [.int (1 : Int32), .int p1, .ref v6], (o1.1 ++ R), 0, 0)) rfl ?_
          refine mB_lv [0, 1, 2] (lv' := [(0, .ref p0), (1, .int p1), (2, .int p2)]) rfl ?_
          exact eaX6_tray_35 _ _ _ _ _ _ _ hq
      · rw [if_neg c5] at hq
        refine ic_le_F (t := 20) odX6_tray rfl rfl c5 ?_
        refine mB_run odX6_tray 1 (g := (19, [(0, .ref p0), (1, .int p1), (2, .int p2)], [.int (0 : Int32)], (o1.1 ++ R), 0, 0)) rfl ?_
        cases hq
        exact mB_ret odX6_tray rfl
def fxX6_point (N : Nat) (p0 : Nat) (p1 : Int32) (p2 : Int32) (p3 : Int32) (p4 : Int32) (p5 : Int32) (h : mh) : Option (mh × Int32) :=
  (fxX6_isSlot N p1 h).bind fun o1 =>
  if o1.2 = 0 then (
    some (o1.1, (0 : Int32))) else (
    (gR o1.1 p0 6 1).bind fun v4 =>
    (aZ o1.1 v4 p1).bind fun v6 =>
    if v6 = 0 then (
      some (o1.1, (0 : Int32))) else (
      (fxX6_isPoint N p3 p4 p5 o1.1).bind fun o9 =>
      if o9.2 = 0 then (
        some (o9.1, (0 : Int32))) else (
        (gR o9.1 p0 6 0).bind fun v12 =>
        (aR o9.1 v12 p1).bind fun v14 =>
        (kO o9.1 v14 3).bind fun f18 =>
        (fxX3_replace N v14 p2 p3 p4 p5 o9.1).bind fun o16 =>
        if o16.2 &&& 1 = o16.2 then some (o16.1, o16.2) else none)))
set_option maxHeartbeats 4000000 in
set_option maxRecDepth 100000 in
theorem eaX6_point {N : Nat} {R : mh} {p0 : Nat} {p1 : Int32} {p2 : Int32} {p3 : Int32} {p4 : Int32} {p5 : Int32} {h : mh} {o : (mh × Int32)} (hq : fxX6_point N p0 p1 p2 p3 p4 p5 h = some o) : mC mX6_point [.ref p0, .int p1, .int p2, .int p3, .int p4, .int p5] (h ++ R) (o.1 ++ R, some (.int o.2)) := by
  refine mC_of okX6_point (Nat.le_of_ble_eq_true rfl) ?_
  unfold fxX6_point at hq
  show mB _ mX6_point (0, [(0, .ref p0), (1, .int p1), (2, .int p2), (3, .int p3), (4, .int p4), (5, .int p5)], [], (h ++ R), 0, 0)
  refine mB_run odX6_point 1 (g := (1, [(0, .ref p0), (1, .int p1), (2, .int p2), (3, .int p3), (4, .int p4), (5, .int p5)], [.int p1], (h ++ R), 0, 0)) rfl ?_
  obtain ⟨o1, e2, hq⟩ := bsm hq
  refine mB_S (as := [.int p1]) odX6_point okX6_isSlot lk_6_79 rfl (eaX6_isSlot e2) rfl rfl rfl ?_
  show mB _ mX6_point (4, [(0, .ref p0), (1, .int p1), (2, .int p2), (3, .int p3), (4, .int p4), (5, .int p5)], [.int o1.2], (o1.1 ++ R), 0, 0)
  by_cases c3 : o1.2 = 0
  · rw [if_pos c3] at hq
    refine if_eq_T (t := 27) odX6_point rfl rfl c3 ?_
    refine mB_run odX6_point 1 (g := (28, [(0, .ref p0), (1, .int p1), (2, .int p2), (3, .int p3), (4, .int p4), (5, .int p5)], [.int (0 : Int32)], (o1.1 ++ R), 0, 0)) rfl ?_
    cases hq
    exact mB_ret odX6_point rfl
  · rw [if_neg c3] at hq
    refine if_eq_F (t := 27) odX6_point rfl rfl c3 ?_
    refine mB_run odX6_point 1 (g := (8, [(0, .ref p0), (1, .int p1), (2, .int p2), (3, .int p3), (4, .int p4), (5, .int p5)], [.ref p0], (o1.1 ++ R), 0, 0)) rfl ?_
    obtain ⟨v4, e5, hq⟩ := bsm hq
    refine r_gR odX6_point rfl rfl (gR_ap e5) ?_
    refine mB_run odX6_point 1 (g := (12, [(0, .ref p0), (1, .int p1), (2, .int p2), (3, .int p3), (4, .int p4), (5, .int p5)], [.int p1, .ref v4], (o1.1 ++ R), 0, 0)) rfl ?_
    obtain ⟨v6, e7, hq⟩ := bsm hq
    refine r_aZ odX6_point rfl (aZ_ap e7) ?_
    by_cases c8 : v6 = 0
    · rw [if_pos c8] at hq
      refine if_eq_T (t := 27) odX6_point rfl rfl c8 ?_
      refine mB_run odX6_point 1 (g := (28, [(0, .ref p0), (1, .int p1), (2, .int p2), (3, .int p3), (4, .int p4), (5, .int p5)], [.int (0 : Int32)], (o1.1 ++ R), 0, 0)) rfl ?_
      cases hq
      exact mB_ret odX6_point rfl
    · rw [if_neg c8] at hq
      refine if_eq_F (t := 27) odX6_point rfl rfl c8 ?_
      refine mB_run odX6_point 3 (g := (21, [(0, .ref p0), (1, .int p1), (2, .int p2), (3, .int p3), (4, .int p4), (5, .int p5)], [.int p5, .int p4, .int p3], (o1.1 ++ R), 0, 0)) rfl ?_
      obtain ⟨o9, e10, hq⟩ := bsm hq
      refine mB_S (as := [.int p3, .int p4, .int p5]) odX6_point okX6_isPoint lk_6_86 rfl (eaX6_isPoint e10) rfl rfl rfl ?_
      show mB _ mX6_point (24, [(0, .ref p0), (1, .int p1), (2, .int p2), (3, .int p3), (4, .int p4), (5, .int p5)], [.int o9.2], (o9.1 ++ R), 0, 0)
      by_cases c11 : o9.2 = 0
      · rw [if_pos c11] at hq
        refine if_ne_F (t := 29) odX6_point rfl rfl c11 ?_
        refine mB_run odX6_point 1 (g := (28, [(0, .ref p0), (1, .int p1), (2, .int p2), (3, .int p3), (4, .int p4), (5, .int p5)], [.int (0 : Int32)], (o9.1 ++ R), 0, 0)) rfl ?_
        cases hq
        exact mB_ret odX6_point rfl
      · rw [if_neg c11] at hq
        refine if_ne_T (t := 29) odX6_point rfl rfl c11 ?_
        refine mB_run odX6_point 1 (g := (30, [(0, .ref p0), (1, .int p1), (2, .int p2), (3, .int p3), (4, .int p4), (5, .int p5)], [.ref p0], (o9.1 ++ R), 0, 0)) rfl ?_
        obtain ⟨v12, e13, hq⟩ := bsm hq
        refine r_gR odX6_point rfl rfl (gR_ap e13) ?_
        refine mB_run odX6_point 1 (g := (34, [(0, .ref p0), (1, .int p1), (2, .int p2), (3, .int p3), (4, .int p4), (5, .int p5)], [.int p1, .ref v12], (o9.1 ++ R), 0, 0)) rfl ?_
        obtain ⟨v14, e15, hq⟩ := bsm hq
        refine r_aR odX6_point rfl (aR_ap e15) ?_
        refine mB_run odX6_point 4 (g := (41, [(0, .ref p0), (1, .int p1), (2, .int p2), (3, .int p3), (4, .int p4), (5, .int p5)], [.int p5, .int p4, .int p3, .int p2, .ref v14], (o9.1 ++ R), 0, 0)) rfl ?_
        obtain ⟨f18, k19, hq⟩ := bsm hq
        obtain ⟨o16, e17, hq⟩ := bsm hq
        refine mB_V (as := [.int p2, .int p3, .int p4, .int p5]) odX6_point okX3_replace lk_6_90 rfl (eaX3_replace e17) (kO_at (kO_ap k19)) rfl rfl rfl ?_
        show mB _ mX6_point (44, [(0, .ref p0), (1, .int p1), (2, .int p2), (3, .int p3), (4, .int p4), (5, .int p5)], [.int o16.2], (o16.1 ++ R), 0, 0)
        by_cases c20 : o16.2 &&& 1 = o16.2
        · rw [if_pos c20] at hq
          cases hq
          exact mB_retz odX6_point rfl rfl c20 rfl
        · rw [if_neg c20] at hq; cases hq
def fxX6_forgetOldest_9 (N : Nat) : Nat → Nat → Nat → Int32 → mh → Option mh
  | 0, _, _, _, _ => none
  | n + 1, x0, x1, x2, h =>
    if (8 : Int32) ≤ x2 then (
      (sV h x0 6 5 (.int (7 : Int32))).bind fun h6 =>
      (gR h6 x0 6 3).bind fun v8 =>
      (gI h6 x0 6 5).bind fun v10 =>
      (wR h6 v8 v10 x1).bind fun h12 =>
      some h12) else (
      (gR h x0 6 3).bind fun v14 =>
      (gR h x0 6 3).bind fun v16 =>
      (aR h v16 x2).bind fun v18 =>
      (wR h v14 (x2 - (1 : Int32)) v18).bind fun h20 =>
      (gR h20 x0 6 4).bind fun v22 =>
      (gR h20 x0 6 4).bind fun v24 =>
      (aI h20 v24 x2).bind fun v26 =>
      (wI h20 v22 (x2 - (1 : Int32)) v26).bind fun h28 =>
      fxX6_forgetOldest_9 N n x0 x1 (x2 + (1 : Int32)) h28)
set_option maxHeartbeats 4000000 in
set_option maxRecDepth 100000 in
theorem eaX6_forgetOldest_9 {N : Nat} {R : mh} : ∀ (n : Nat) (x0 : Nat) (x1 : Nat) (x2 : Int32) (h : mh) {o : mh}, fxX6_forgetOldest_9 N n x0 x1 x2 h = some o → mB (gO mX6_forgetOldest (o ++ R, none)) mX6_forgetOldest (9, [(0, .ref x0), (1, .ref x1), (2, .int x2)], [], (h ++ R), 0, 0) := by
  intro n
  induction n with
  | zero => intro x0 x1 x2 h o hq; cases hq
  | succ n ih =>
    intro x0 x1 x2 h o hq
    unfold fxX6_forgetOldest_9 at hq
    refine mB_run odX6_forgetOldest 2 (g := (12, [(0, .ref x0), (1, .ref x1), (2, .int x2)], [.int (8 : Int32), .int x2], (h ++ R), 0, 0)) rfl ?_
    by_cases c5 : (8 : Int32) ≤ x2
    · rw [if_pos c5] at hq
      refine ic_ge_T (t := 49) odX6_forgetOldest rfl rfl c5 ?_
      refine mB_run odX6_forgetOldest 2 (g := (52, [(0, .ref x0), (1, .ref x1), (2, .int x2)], [.int (7 : Int32), .ref x0], (h ++ R), 0, 0)) rfl ?_
      obtain ⟨h6, e7, hq⟩ := bsm hq
      refine r_sV odX6_forgetOldest rfl rfl rfl rfl (sV_ap e7) ?_
      refine mB_run odX6_forgetOldest 1 (g := (56, [(0, .ref x0), (1, .ref x1), (2, .int x2)], [.ref x0], (h6 ++ R), 0, 0)) rfl ?_
      obtain ⟨v8, e9, hq⟩ := bsm hq
      refine r_gR odX6_forgetOldest rfl rfl (gR_ap e9) ?_
      refine mB_run odX6_forgetOldest 1 (g := (60, [(0, .ref x0), (1, .ref x1), (2, .int x2)], [.ref x0, .ref v8], (h6 ++ R), 0, 0)) rfl ?_
      obtain ⟨v10, e11, hq⟩ := bsm hq
      refine r_gI odX6_forgetOldest rfl rfl (gI_ap e11) ?_
      refine mB_run odX6_forgetOldest 1 (g := (64, [(0, .ref x0), (1, .ref x1), (2, .int x2)], [.ref x1, .int v10, .ref v8], (h6 ++ R), 0, 0)) rfl ?_
      obtain ⟨h12, e13, hq⟩ := bsm hq
      refine r_wR odX6_forgetOldest rfl (wR_ap e13) ?_
      cases hq
      exact mB_ret odX6_forgetOldest rfl
    · rw [if_neg c5] at hq
      refine ic_ge_F (t := 49) odX6_forgetOldest rfl rfl c5 ?_
      refine mB_run odX6_forgetOldest 1 (g := (16, [(0, .ref x0), (1, .ref x1), (2, .int x2)], [.ref x0], (h ++ R), 0, 0)) rfl ?_
      obtain ⟨v14, e15, hq⟩ := bsm hq
      refine r_gR odX6_forgetOldest rfl rfl (gR_ap e15) ?_
      refine mB_run odX6_forgetOldest 4 (g := (23, [(0, .ref x0), (1, .ref x1), (2, .int x2)], [.ref x0, .int (x2 - (1 : Int32)), .ref v14], (h ++ R), 0, 0)) rfl ?_
      obtain ⟨v16, e17, hq⟩ := bsm hq
      refine r_gR odX6_forgetOldest rfl rfl (gR_ap e17) ?_
      refine mB_run odX6_forgetOldest 1 (g := (27, [(0, .ref x0), (1, .ref x1), (2, .int x2)], [.int x2, .ref v16, .int (x2 - (1 : Int32)), .ref v14], (h ++ R), 0, 0)) rfl ?_
      obtain ⟨v18, e19, hq⟩ := bsm hq
      refine r_aR odX6_forgetOldest rfl (aR_ap e19) ?_
      obtain ⟨h20, e21, hq⟩ := bsm hq
      refine r_wR odX6_forgetOldest rfl (wR_ap e21) ?_
      refine mB_run odX6_forgetOldest 1 (g := (30, [(0, .ref x0), (1, .ref x1), (2, .int x2)], [.ref x0], (h20 ++ R), 0, 0)) rfl ?_
      obtain ⟨v22, e23, hq⟩ := bsm hq
      refine r_gR odX6_forgetOldest rfl rfl (gR_ap e23) ?_
      refine mB_run odX6_forgetOldest 4 (g := (37, [(0, .ref x0), (1, .ref x1), (2, .int x2)], [.ref x0, .int (x2 - (1 : Int32)), .ref v22], (h20 ++ R), 0, 0)) rfl ?_
      obtain ⟨v24, e25, hq⟩ := bsm hq
      refine r_gR odX6_forgetOldest rfl rfl (gR_ap e25) ?_
      refine mB_run odX6_forgetOldest 1 (g := (41, [(0, .ref x0), (1, .ref x1), (2, .int x2)], [.int x2, .ref v24, .int (x2 - (1 : Int32)), .ref v22], (h20 ++ R), 0, 0)) rfl ?_
      obtain ⟨v26, e27, hq⟩ := bsm hq
      refine r_aI odX6_forgetOldest rfl (aI_ap e27) ?_
      obtain ⟨h28, e29, hq⟩ := bsm hq
      refine r_wI odX6_forgetOldest rfl (wI_ap e29) ?_
      refine mB_run odX6_forgetOldest 2 (g := (9, [(2, .int (x2 + (1 : Int32))), (0, .ref x0), (1, .ref x1)], [], (h28 ++ R), 0, 0)) rfl ?_
      refine mB_lv [1, 2, 0] (lv' := [(0, .ref x0), (1, .ref x1), (2, .int (x2 + (1 : Int32)))]) rfl ?_
      exact ih _ _ _ _ hq
def fxX6_forgetOldest (N : Nat) (p0 : Nat) (h : mh) : Option mh :=
  (gR h p0 6 3).bind fun v1 =>
  (aR h v1 (0 : Int32)).bind fun v3 =>
  fxX6_forgetOldest_9 N N p0 v3 (1 : Int32) h
set_option maxHeartbeats 4000000 in
set_option maxRecDepth 100000 in
theorem eaX6_forgetOldest {N : Nat} {R : mh} {p0 : Nat} {h : mh} {o : mh} (hq : fxX6_forgetOldest N p0 h = some o) : mC mX6_forgetOldest [.ref p0] (h ++ R) (o ++ R, none) := by
  refine mC_of okX6_forgetOldest (Nat.le_of_ble_eq_true rfl) ?_
  unfold fxX6_forgetOldest at hq
  show mB _ mX6_forgetOldest (0, [(0, .ref p0)], [], (h ++ R), 0, 0)
  refine mB_run odX6_forgetOldest 1 (g := (1, [(0, .ref p0)], [.ref p0], (h ++ R), 0, 0)) rfl ?_
  obtain ⟨v1, e2, hq⟩ := bsm hq
  refine r_gR odX6_forgetOldest rfl rfl (gR_ap e2) ?_
  refine mB_run odX6_forgetOldest 1 (g := (5, [(0, .ref p0)], [.int (0 : Int32), .ref v1], (h ++ R), 0, 0)) rfl ?_
  obtain ⟨v3, e4, hq⟩ := bsm hq
  refine r_aR odX6_forgetOldest rfl (aR_ap e4) ?_
  refine mB_run odX6_forgetOldest 3 (g := (9, [(2, .int (1 : Int32)), (1, .ref v3), (0, .ref p0)], [], (h ++ R), 0, 0)) rfl ?_
  refine mB_lv [2, 1, 0] (lv' := [(0, .ref p0), (1, .ref v3), (2, .int (1 : Int32))]) rfl ?_
  exact eaX6_forgetOldest_9 N _ _ _ _ hq
def fxX6_keepFresh_13 (N : Nat) (x0 : Nat) (x1 : Int32) (h : mh) : Option mh :=
  (gR h x0 6 3).bind fun v8 =>
  (gI h x0 6 5).bind fun v10 =>
  (aR h v8 v10).bind fun v12 =>
  (gR h x0 6 3).bind fun v14 =>
  (gI h x0 6 5).bind fun v16 =>
  (gR h x0 6 2).bind fun v18 =>
  (aR h v18 x1).bind fun v20 =>
  (wR h v14 v16 v20).bind fun h22 =>
  (gR h22 x0 6 4).bind fun v24 =>
  (gI h22 x0 6 5).bind fun v26 =>
  (wI h22 v24 v26 x1).bind fun h28 =>
  (gI h28 x0 6 5).bind fun v30 =>
  (sV h28 x0 6 5 (.int (v30 + (1 : Int32)))).bind fun h32 =>
  (gR h32 x0 6 2).bind fun v34 =>
  (gR h32 x0 6 6).bind fun v36 =>
  (wR h32 v34 x1 v36).bind fun h38 =>
  (sV h38 x0 6 6 (.ref v12)).bind fun h40 =>
  some h40
set_option maxHeartbeats 4000000 in
set_option maxRecDepth 100000 in
theorem eaX6_keepFresh_13 {N : Nat} {R : mh} (x0 : Nat) (x1 : Int32) (h : mh) {o : mh} (hq : fxX6_keepFresh_13 N x0 x1 h = some o) : mB (gO mX6_keepFresh (o ++ R, none)) mX6_keepFresh (13, [(0, .ref x0), (1, .int x1)], [], (h ++ R), 0, 0) := by
  unfold fxX6_keepFresh_13 at hq
  refine mB_run odX6_keepFresh 1 (g := (14, [(0, .ref x0), (1, .int x1)], [.ref x0], (h ++ R), 0, 0)) rfl ?_
  obtain ⟨v8, e9, hq⟩ := bsm hq
  refine r_gR odX6_keepFresh rfl rfl (gR_ap e9) ?_
  refine mB_run odX6_keepFresh 1 (g := (18, [(0, .ref x0), (1, .int x1)], [.ref x0, .ref v8], (h ++ R), 0, 0)) rfl ?_
  obtain ⟨v10, e11, hq⟩ := bsm hq
  refine r_gI odX6_keepFresh rfl rfl (gI_ap e11) ?_
  obtain ⟨v12, e13, hq⟩ := bsm hq
  refine r_aR odX6_keepFresh rfl (aR_ap e13) ?_
  refine mB_run odX6_keepFresh 2 (g := (24, [(2, .ref v12), (0, .ref x0), (1, .int x1)], [.ref x0], (h ++ R), 0, 0)) rfl ?_
  obtain ⟨v14, e15, hq⟩ := bsm hq
  refine r_gR odX6_keepFresh rfl rfl (gR_ap e15) ?_
  refine mB_run odX6_keepFresh 1 (g := (28, [(2, .ref v12), (0, .ref x0), (1, .int x1)], [.ref x0, .ref v14], (h ++ R), 0, 0)) rfl ?_
  obtain ⟨v16, e17, hq⟩ := bsm hq
  refine r_gI odX6_keepFresh rfl rfl (gI_ap e17) ?_
  refine mB_run odX6_keepFresh 1 (g := (32, [(2, .ref v12), (0, .ref x0), (1, .int x1)], [.ref x0, .int v16, .ref v14], (h ++ R), 0, 0)) rfl ?_
  obtain ⟨v18, e19, hq⟩ := bsm hq
  refine r_gR odX6_keepFresh rfl rfl (gR_ap e19) ?_
  refine mB_run odX6_keepFresh 1 (g := (36, [(2, .ref v12), (0, .ref x0), (1, .int x1)], [.int x1, .ref v18, .int v16, .ref v14], (h ++ R), 0, 0)) rfl ?_
  obtain ⟨v20, e21, hq⟩ := bsm hq
  refine r_aR odX6_keepFresh rfl (aR_ap e21) ?_
  obtain ⟨h22, e23, hq⟩ := bsm hq
  refine r_wR odX6_keepFresh rfl (wR_ap e23) ?_
  refine mB_run odX6_keepFresh 1 (g := (39, [(2, .ref v12), (0, .ref x0), (1, .int x1)], [.ref x0], (h22 ++ R), 0, 0)) rfl ?_
  obtain ⟨v24, e25, hq⟩ := bsm hq
  refine r_gR odX6_keepFresh rfl rfl (gR_ap e25) ?_
  refine mB_run odX6_keepFresh 1 (g := (43, [(2, .ref v12), (0, .ref x0), (1, .int x1)], [.ref x0, .ref v24], (h22 ++ R), 0, 0)) rfl ?_
  obtain ⟨v26, e27, hq⟩ := bsm hq
  refine r_gI odX6_keepFresh rfl rfl (gI_ap e27) ?_
  refine mB_run odX6_keepFresh 1 (g := (47, [(2, .ref v12), (0, .ref x0), (1, .int x1)], [.int x1, .int v26, .ref v24], (h22 ++ R), 0, 0)) rfl ?_
  obtain ⟨h28, e29, hq⟩ := bsm hq
  refine r_wI odX6_keepFresh rfl (wI_ap e29) ?_
  refine mB_run odX6_keepFresh 2 (g := (50, [(2, .ref v12), (0, .ref x0), (1, .int x1)], [.ref x0, .ref x0], (h28 ++ R), 0, 0)) rfl ?_
  obtain ⟨v30, e31, hq⟩ := bsm hq
  refine r_gI odX6_keepFresh rfl rfl (gI_ap e31) ?_
  refine mB_run odX6_keepFresh 2 (g := (55, [(2, .ref v12), (0, .ref x0), (1, .int x1)], [.int (v30 + (1 : Int32)), .ref x0], (h28 ++ R), 0, 0)) rfl ?_
  obtain ⟨h32, e33, hq⟩ := bsm hq
  refine r_sV odX6_keepFresh rfl rfl rfl rfl (sV_ap e33) ?_
  refine mB_run odX6_keepFresh 1 (g := (59, [(2, .ref v12), (0, .ref x0), (1, .int x1)], [.ref x0], (h32 ++ R), 0, 0)) rfl ?_
  obtain ⟨v34, e35, hq⟩ := bsm hq
  refine r_gR odX6_keepFresh rfl rfl (gR_ap e35) ?_
  refine mB_run odX6_keepFresh 2 (g := (64, [(2, .ref v12), (0, .ref x0), (1, .int x1)], [.ref x0, .int x1, .ref v34], (h32 ++ R), 0, 0)) rfl ?_
  obtain ⟨v36, e37, hq⟩ := bsm hq
  refine r_gR odX6_keepFresh rfl rfl (gR_ap e37) ?_
  obtain ⟨h38, e39, hq⟩ := bsm hq
  refine r_wR odX6_keepFresh rfl (wR_ap e39) ?_
  refine mB_run odX6_keepFresh 2 (g := (70, [(2, .ref v12), (0, .ref x0), (1, .int x1)], [.ref v12, .ref x0], (h38 ++ R), 0, 0)) rfl ?_
  obtain ⟨h40, e41, hq⟩ := bsm hq
  refine r_sV odX6_keepFresh rfl rfl rfl rfl (sV_ap e41) ?_
  cases hq
  exact mB_ret odX6_keepFresh rfl
def fxX6_keepFresh (N : Nat) (p0 : Nat) (p1 : Int32) (h : mh) : Option mh :=
  (gI h p0 6 5).bind fun v1 =>
  if v1 = (8 : Int32) then (
    (kO h p0 6).bind fun f6 =>
    (fxX6_forgetOldest N p0 h).bind fun o4 =>
    fxX6_keepFresh_13 N p0 p1 o4) else (
    fxX6_keepFresh_13 N p0 p1 h)
set_option maxHeartbeats 4000000 in
set_option maxRecDepth 100000 in
theorem eaX6_keepFresh {N : Nat} {R : mh} {p0 : Nat} {p1 : Int32} {h : mh} {o : mh} (hq : fxX6_keepFresh N p0 p1 h = some o) : mC mX6_keepFresh [.ref p0, .int p1] (h ++ R) (o ++ R, none) := by
  refine mC_of okX6_keepFresh (Nat.le_of_ble_eq_true rfl) ?_
  unfold fxX6_keepFresh at hq
  show mB _ mX6_keepFresh (0, [(0, .ref p0), (1, .int p1)], [], (h ++ R), 0, 0)
  refine mB_run odX6_keepFresh 1 (g := (1, [(0, .ref p0), (1, .int p1)], [.ref p0], (h ++ R), 0, 0)) rfl ?_
  obtain ⟨v1, e2, hq⟩ := bsm hq
  refine r_gI odX6_keepFresh rfl rfl (gI_ap e2) ?_
  refine mB_run odX6_keepFresh 1 (g := (6, [(0, .ref p0), (1, .int p1)], [.int (8 : Int32), .int v1], (h ++ R), 0, 0)) rfl ?_
  by_cases c3 : v1 = (8 : Int32)
  · rw [if_pos c3] at hq
    refine ic_ne_F (t := 13) odX6_keepFresh rfl rfl c3 ?_
    refine mB_run odX6_keepFresh 1 (g := (10, [(0, .ref p0), (1, .int p1)], [.ref p0], (h ++ R), 0, 0)) rfl ?_
    obtain ⟨f6, k7, hq⟩ := bsm hq
    obtain ⟨o4, e5, hq⟩ := bsm hq
    refine mB_V (as := []) odX6_keepFresh okX6_forgetOldest lk_6_210 rfl (eaX6_forgetOldest e5) (kO_at (kO_ap k7)) rfl rfl rfl ?_
    show mB _ mX6_keepFresh (13, [(0, .ref p0), (1, .int p1)], [], (o4 ++ R), 0, 0)
    refine mB_lv [0, 1] (lv' := [(0, .ref p0), (1, .int p1)]) rfl ?_
    exact eaX6_keepFresh_13 _ _ _ hq
  · rw [if_neg c3] at hq
    refine ic_ne_T (t := 13) odX6_keepFresh rfl rfl c3 ?_
    refine mB_lv [0, 1] (lv' := [(0, .ref p0), (1, .int p1)]) rfl ?_
    exact eaX6_keepFresh_13 _ _ _ hq
def fxX6_become (N : Nat) (p0 : Nat) (p1 : Int32) (p2 : Nat) (p3 : Nat) (h : mh) : Option (mh × Int32) :=
  (gR h p0 6 10).bind fun v1 =>
  (gR h p0 6 6).bind fun v3 =>
  (kO h v1 2).bind fun f7 =>
  (fxX2_build N v1 p2 p3 v3 h).bind fun o5 =>
  if o5.2 = (-2 : Int32) then (
    some (o5.1, o5.2)) else (
    (kO o5.1 p0 6).bind fun f12 =>
    (fxX6_keepFresh N p0 p1 o5.1).bind fun o10 =>
    some (o10, o5.2))
set_option maxHeartbeats 4000000 in
set_option maxRecDepth 100000 in
theorem eaX6_become {N : Nat} {R : mh} {p0 : Nat} {p1 : Int32} {p2 : Nat} {p3 : Nat} {h : mh} {o : (mh × Int32)} (hq : fxX6_become N p0 p1 p2 p3 h = some o) : mC mX6_become [.ref p0, .int p1, .ref p2, .ref p3] (h ++ R) (o.1 ++ R, some (.int o.2)) := by
  refine mC_of okX6_become (Nat.le_of_ble_eq_true rfl) ?_
  unfold fxX6_become at hq
  show mB _ mX6_become (0, [(0, .ref p0), (1, .int p1), (2, .ref p2), (3, .ref p3)], [], (h ++ R), 0, 0)
  refine mB_run odX6_become 1 (g := (1, [(0, .ref p0), (1, .int p1), (2, .ref p2), (3, .ref p3)], [.ref p0], (h ++ R), 0, 0)) rfl ?_
  obtain ⟨v1, e2, hq⟩ := bsm hq
  refine r_gR odX6_become rfl rfl (gR_ap e2) ?_
  refine mB_run odX6_become 3 (g := (7, [(0, .ref p0), (1, .int p1), (2, .ref p2), (3, .ref p3)], [.ref p0, .ref p3, .ref p2, .ref v1], (h ++ R), 0, 0)) rfl ?_
  obtain ⟨v3, e4, hq⟩ := bsm hq
  refine r_gR odX6_become rfl rfl (gR_ap e4) ?_
  obtain ⟨f7, k8, hq⟩ := bsm hq
  obtain ⟨o5, e6, hq⟩ := bsm hq
  refine mB_V (as := [.ref p2, .ref p3, .ref v3]) odX6_become okX2_build lk_6_203 rfl (eaX2_build e6) (kO_at (kO_ap k8)) rfl rfl rfl ?_
  show mB _ mX6_become (13, [(0, .ref p0), (1, .int p1), (2, .ref p2), (3, .ref p3)], [.int o5.2], (o5.1 ++ R), 0, 0)
  refine mB_run odX6_become 3 (g := (19, [(4, .int o5.2), (0, .ref p0), (1, .int p1), (2, .ref p2), (3, .ref p3)], [.int (-2 : Int32), .int o5.2], (o5.1 ++ R), 0, 0)) rfl ?_
  by_cases c9 : o5.2 = (-2 : Int32)
  · rw [if_pos c9] at hq
    refine ic_eq_T (t := 27) odX6_become rfl rfl c9 ?_
    refine mB_run odX6_become 1 (g := (29, [(4, .int o5.2), (0, .ref p0), (1, .int p1), (2, .ref p2), (3, .ref p3)], [.int o5.2], (o5.1 ++ R), 0, 0)) rfl ?_
    cases hq
    exact mB_ret odX6_become rfl
  · rw [if_neg c9] at hq
    refine ic_eq_F (t := 27) odX6_become rfl rfl c9 ?_
    refine mB_run odX6_become 2 (g := (24, [(4, .int o5.2), (0, .ref p0), (1, .int p1), (2, .ref p2), (3, .ref p3)], [.int p1, .ref p0], (o5.1 ++ R), 0, 0)) rfl ?_
    obtain ⟨f12, k13, hq⟩ := bsm hq
    obtain ⟨o10, e11, hq⟩ := bsm hq
    refine mB_V (as := [.int p1]) odX6_become okX6_keepFresh lk_6_207 rfl (eaX6_keepFresh e11) (kO_at (kO_ap k13)) rfl rfl rfl ?_
    show mB _ mX6_become (27, [(4, .int o5.2), (0, .ref p0), (1, .int p1), (2, .ref p2), (3, .ref p3)], [], (o10 ++ R), 0, 0)
    refine mB_run odX6_become 1 (g := (29, [(4, .int o5.2), (0, .ref p0), (1, .int p1), (2, .ref p2), (3, .ref p3)], [.int o5.2], (o10 ++ R), 0, 0)) rfl ?_
    cases hq
    exact mB_ret odX6_become rfl
def fxX6_solid (N : Nat) (p0 : Nat) (p1 : Int32) (p2 : Int32) (h : mh) : Option (mh × Int32) :=
  (fxX6_isSlot N p1 h).bind fun o1 =>
  if o1.2 = 0 then (
    some (o1.1, (-1 : Int32))) else (
    (fxX6_isSlot N p2 o1.1).bind fun o4 =>
    if o4.2 = 0 then (
      some (o4.1, (-1 : Int32))) else (
      (gR o4.1 p0 6 1).bind fun v7 =>
      (aZ o4.1 v7 p2).bind fun v9 =>
      if v9 = 0 then (
        some (o4.1, (-1 : Int32))) else (
        (gR o4.1 p0 6 0).bind fun v12 =>
        (aR o4.1 v12 p2).bind fun v14 =>
        (gR o4.1 p0 6 8).bind fun v16 =>
        (kO o4.1 p0 6).bind fun f20 =>
        (fxX6_become N p0 p1 v14 v16 o4.1).bind fun o18 =>
        some (o18.1, o18.2))))
set_option maxHeartbeats 4000000 in
set_option maxRecDepth 100000 in
theorem eaX6_solid {N : Nat} {R : mh} {p0 : Nat} {p1 : Int32} {p2 : Int32} {h : mh} {o : (mh × Int32)} (hq : fxX6_solid N p0 p1 p2 h = some o) : mC mX6_solid [.ref p0, .int p1, .int p2] (h ++ R) (o.1 ++ R, some (.int o.2)) := by
  refine mC_of okX6_solid (Nat.le_of_ble_eq_true rfl) ?_
  unfold fxX6_solid at hq
  show mB _ mX6_solid (0, [(0, .ref p0), (1, .int p1), (2, .int p2)], [], (h ++ R), 0, 0)
  refine mB_run odX6_solid 1 (g := (1, [(0, .ref p0), (1, .int p1), (2, .int p2)], [.int p1], (h ++ R), 0, 0)) rfl ?_
  obtain ⟨o1, e2, hq⟩ := bsm hq
  refine mB_S (as := [.int p1]) odX6_solid okX6_isSlot lk_6_79 rfl (eaX6_isSlot e2) rfl rfl rfl ?_
  show mB _ mX6_solid (4, [(0, .ref p0), (1, .int p1), (2, .int p2)], [.int o1.2], (o1.1 ++ R), 0, 0)
  by_cases c3 : o1.2 = 0
  · rw [if_pos c3] at hq
    refine if_eq_T (t := 23) odX6_solid rfl rfl c3 ?_
    refine mB_run odX6_solid 1 (g := (24, [(0, .ref p0), (1, .int p1), (2, .int p2)], [.int (-1 : Int32)], (o1.1 ++ R), 0, 0)) rfl ?_
    cases hq
    exact mB_ret odX6_solid rfl
  · rw [if_neg c3] at hq
    refine if_eq_F (t := 23) odX6_solid rfl rfl c3 ?_
    refine mB_run odX6_solid 1 (g := (8, [(0, .ref p0), (1, .int p1), (2, .int p2)], [.int p2], (o1.1 ++ R), 0, 0)) rfl ?_
    obtain ⟨o4, e5, hq⟩ := bsm hq
    refine mB_S (as := [.int p2]) odX6_solid okX6_isSlot lk_6_79 rfl (eaX6_isSlot e5) rfl rfl rfl ?_
    show mB _ mX6_solid (11, [(0, .ref p0), (1, .int p1), (2, .int p2)], [.int o4.2], (o4.1 ++ R), 0, 0)
    by_cases c6 : o4.2 = 0
    · rw [if_pos c6] at hq
      refine if_eq_T (t := 23) odX6_solid rfl rfl c6 ?_
      refine mB_run odX6_solid 1 (g := (24, [(0, .ref p0), (1, .int p1), (2, .int p2)], [.int (-1 : Int32)], (o4.1 ++ R), 0, 0)) rfl ?_
      cases hq
      exact mB_ret odX6_solid rfl
    · rw [if_neg c6] at hq
      refine if_eq_F (t := 23) odX6_solid rfl rfl c6 ?_
      refine mB_run odX6_solid 1 (g := (15, [(0, .ref p0), (1, .int p1), (2, .int p2)], [.ref p0], (o4.1 ++ R), 0, 0)) rfl ?_
      obtain ⟨v7, e8, hq⟩ := bsm hq
      refine r_gR odX6_solid rfl rfl (gR_ap e8) ?_
      refine mB_run odX6_solid 1 (g := (19, [(0, .ref p0), (1, .int p1), (2, .int p2)], [.int p2, .ref v7], (o4.1 ++ R), 0, 0)) rfl ?_
      obtain ⟨v9, e10, hq⟩ := bsm hq
      refine r_aZ odX6_solid rfl (aZ_ap e10) ?_
      by_cases c11 : v9 = 0
      · rw [if_pos c11] at hq
        refine if_ne_F (t := 25) odX6_solid rfl rfl c11 ?_
        refine mB_run odX6_solid 1 (g := (24, [(0, .ref p0), (1, .int p1), (2, .int p2)], [.int (-1 : Int32)], (o4.1 ++ R), 0, 0)) rfl ?_
        cases hq
        exact mB_ret odX6_solid rfl
      · rw [if_neg c11] at hq
        refine if_ne_T (t := 25) odX6_solid rfl rfl c11 ?_
        refine mB_run odX6_solid 3 (g := (28, [(0, .ref p0), (1, .int p1), (2, .int p2)], [.ref p0, .int p1, .ref p0], (o4.1 ++ R), 0, 0)) rfl ?_
        obtain ⟨v12, e13, hq⟩ := bsm hq
        refine r_gR odX6_solid rfl rfl (gR_ap e13) ?_
        refine mB_run odX6_solid 1 (g := (32, [(0, .ref p0), (1, .int p1), (2, .int p2)], [.int p2, .ref v12, .int p1, .ref p0], (o4.1 ++ R), 0, 0)) rfl ?_
        obtain ⟨v14, e15, hq⟩ := bsm hq
        refine r_aR odX6_solid rfl (aR_ap e15) ?_
        refine mB_run odX6_solid 1 (g := (34, [(0, .ref p0), (1, .int p1), (2, .int p2)], [.ref p0, .ref v14, .int p1, .ref p0], (o4.1 ++ R), 0, 0)) rfl ?_
        obtain ⟨v16, e17, hq⟩ := bsm hq
        refine r_gR odX6_solid rfl rfl (gR_ap e17) ?_
        obtain ⟨f20, k21, hq⟩ := bsm hq
        obtain ⟨o18, e19, hq⟩ := bsm hq
        refine mB_V (as := [.int p1, .ref v14, .ref v16]) odX6_solid okX6_become lk_6_94 rfl (eaX6_become e19) (kO_at (kO_ap k21)) rfl rfl rfl ?_
        show mB _ mX6_solid (40, [(0, .ref p0), (1, .int p1), (2, .int p2)], [.int o18.2], (o18.1 ++ R), 0, 0)
        cases hq
        exact mB_ret odX6_solid rfl
def fxX6_grow (N : Nat) (p0 : Nat) (p1 : Int32) (p2 : Int32) (p3 : Int32) (p4 : Int32) (h : mh) : Option (mh × Int32) :=
  (fxX6_isSlot N p1 h).bind fun o1 =>
  if o1.2 = 0 then (
    some (o1.1, (-1 : Int32))) else (
    (fxX6_isPoint N p2 p3 p4 o1.1).bind fun o4 =>
    if o4.2 = 0 then (
      some (o4.1, (-1 : Int32))) else (
      (gR o4.1 p0 6 7).bind fun v7 =>
      (gR o4.1 p0 6 2).bind fun v9 =>
      (aR o4.1 v9 p1).bind fun v11 =>
      (gR o4.1 v11 0 1).bind fun v13 =>
      (kO o4.1 v7 3).bind fun f17 =>
      (fxX3_takeAll N v7 v13 o4.1).bind fun o15 =>
      (gR o15 p0 6 7).bind fun v19 =>
      (kO o15 v19 3).bind fun f23 =>
      (fxX3_put N v19 p2 p3 p4 o15).bind fun o21 =>
      (gR o21 p0 6 7).bind fun v25 =>
      (gR o21 p0 6 8).bind fun v27 =>
      (kO o21 p0 6).bind fun f31 =>
      (fxX6_become N p0 p1 v25 v27 o21).bind fun o29 =>
      some (o29.1, o29.2)))
set_option maxHeartbeats 4000000 in
set_option maxRecDepth 100000 in
theorem eaX6_grow {N : Nat} {R : mh} {p0 : Nat} {p1 : Int32} {p2 : Int32} {p3 : Int32} {p4 : Int32} {h : mh} {o : (mh × Int32)} (hq : fxX6_grow N p0 p1 p2 p3 p4 h = some o) : mC mX6_grow [.ref p0, .int p1, .int p2, .int p3, .int p4] (h ++ R) (o.1 ++ R, some (.int o.2)) := by
  refine mC_of okX6_grow (Nat.le_of_ble_eq_true rfl) ?_
  unfold fxX6_grow at hq
  show mB _ mX6_grow (0, [(0, .ref p0), (1, .int p1), (2, .int p2), (3, .int p3), (4, .int p4)], [], (h ++ R), 0, 0)
  refine mB_run odX6_grow 1 (g := (1, [(0, .ref p0), (1, .int p1), (2, .int p2), (3, .int p3), (4, .int p4)], [.int p1], (h ++ R), 0, 0)) rfl ?_
  obtain ⟨o1, e2, hq⟩ := bsm hq
  refine mB_S (as := [.int p1]) odX6_grow okX6_isSlot lk_6_79 rfl (eaX6_isSlot e2) rfl rfl rfl ?_
  show mB _ mX6_grow (4, [(0, .ref p0), (1, .int p1), (2, .int p2), (3, .int p3), (4, .int p4)], [.int o1.2], (o1.1 ++ R), 0, 0)
  by_cases c3 : o1.2 = 0
  · rw [if_pos c3] at hq
    refine if_eq_T (t := 17) odX6_grow rfl rfl c3 ?_
    refine mB_run odX6_grow 1 (g := (18, [(0, .ref p0), (1, .int p1), (2, .int p2), (3, .int p3), (4, .int p4)], [.int (-1 : Int32)], (o1.1 ++ R), 0, 0)) rfl ?_
    cases hq
    exact mB_ret odX6_grow rfl
  · rw [if_neg c3] at hq
    refine if_eq_F (t := 17) odX6_grow rfl rfl c3 ?_
    refine mB_run odX6_grow 3 (g := (11, [(0, .ref p0), (1, .int p1), (2, .int p2), (3, .int p3), (4, .int p4)], [.int p4, .int p3, .int p2], (o1.1 ++ R), 0, 0)) rfl ?_
    obtain ⟨o4, e5, hq⟩ := bsm hq
    refine mB_S (as := [.int p2, .int p3, .int p4]) odX6_grow okX6_isPoint lk_6_86 rfl (eaX6_isPoint e5) rfl rfl rfl ?_
    show mB _ mX6_grow (14, [(0, .ref p0), (1, .int p1), (2, .int p2), (3, .int p3), (4, .int p4)], [.int o4.2], (o4.1 ++ R), 0, 0)
    by_cases c6 : o4.2 = 0
    · rw [if_pos c6] at hq
      refine if_ne_F (t := 19) odX6_grow rfl rfl c6 ?_
      refine mB_run odX6_grow 1 (g := (18, [(0, .ref p0), (1, .int p1), (2, .int p2), (3, .int p3), (4, .int p4)], [.int (-1 : Int32)], (o4.1 ++ R), 0, 0)) rfl ?_
      cases hq
      exact mB_ret odX6_grow rfl
    · rw [if_neg c6] at hq
      refine if_ne_T (t := 19) odX6_grow rfl rfl c6 ?_
      refine mB_run odX6_grow 1 (g := (20, [(0, .ref p0), (1, .int p1), (2, .int p2), (3, .int p3), (4, .int p4)], [.ref p0], (o4.1 ++ R), 0, 0)) rfl ?_
      obtain ⟨v7, e8, hq⟩ := bsm hq
      refine r_gR odX6_grow rfl rfl (gR_ap e8) ?_
      refine mB_run odX6_grow 1 (g := (24, [(0, .ref p0), (1, .int p1), (2, .int p2), (3, .int p3), (4, .int p4)], [.ref p0, .ref v7], (o4.1 ++ R), 0, 0)) rfl ?_
      obtain ⟨v9, e10, hq⟩ := bsm hq
      refine r_gR odX6_grow rfl rfl (gR_ap e10) ?_
      refine mB_run odX6_grow 1 (g := (28, [(0, .ref p0), (1, .int p1), (2, .int p2), (3, .int p3), (4, .int p4)], [.int p1, .ref v9, .ref v7], (o4.1 ++ R), 0, 0)) rfl ?_
      obtain ⟨v11, e12, hq⟩ := bsm hq
      refine r_aR odX6_grow rfl (aR_ap e12) ?_
      obtain ⟨v13, e14, hq⟩ := bsm hq
      refine r_gR odX6_grow rfl rfl (gR_ap e14) ?_
      obtain ⟨f17, k18, hq⟩ := bsm hq
      obtain ⟨o15, e16, hq⟩ := bsm hq
      refine mB_V (as := [.ref v13]) odX6_grow okX3_takeAll lk_6_101 rfl (eaX3_takeAll e16) (kO_at (kO_ap k18)) rfl rfl rfl ?_
      show mB _ mX6_grow (35, [(0, .ref p0), (1, .int p1), (2, .int p2), (3, .int p3), (4, .int p4)], [], (o15 ++ R), 0, 0)
      refine mB_run odX6_grow 1 (g := (36, [(0, .ref p0), (1, .int p1), (2, .int p2), (3, .int p3), (4, .int p4)], [.ref p0], (o15 ++ R), 0, 0)) rfl ?_
      obtain ⟨v19, e20, hq⟩ := bsm hq
      refine r_gR odX6_grow rfl rfl (gR_ap e20) ?_
      refine mB_run odX6_grow 3 (g := (43, [(0, .ref p0), (1, .int p1), (2, .int p2), (3, .int p3), (4, .int p4)], [.int p4, .int p3, .int p2, .ref v19], (o15 ++ R), 0, 0)) rfl ?_
      obtain ⟨f23, k24, hq⟩ := bsm hq
      obtain ⟨o21, e22, hq⟩ := bsm hq
      refine mB_V (as := [.int p2, .int p3, .int p4]) odX6_grow okX3_put lk_6_75 rfl (eaX3_put e22) (kO_at (kO_ap k24)) rfl rfl rfl ?_
      show mB _ mX6_grow (46, [(0, .ref p0), (1, .int p1), (2, .int p2), (3, .int p3), (4, .int p4)], [], (o21 ++ R), 0, 0)
      refine mB_run odX6_grow 3 (g := (49, [(0, .ref p0), (1, .int p1), (2, .int p2), (3, .int p3), (4, .int p4)], [.ref p0, .int p1, .ref p0], (o21 ++ R), 0, 0)) rfl ?_
      obtain ⟨v25, e26, hq⟩ := bsm hq
      refine r_gR odX6_grow rfl rfl (gR_ap e26) ?_
      refine mB_run odX6_grow 1 (g := (53, [(0, .ref p0), (1, .int p1), (2, .int p2), (3, .int p3), (4, .int p4)], [.ref p0, .ref v25, .int p1, .ref p0], (o21 ++ R), 0, 0)) rfl ?_
      obtain ⟨v27, e28, hq⟩ := bsm hq
      refine r_gR odX6_grow rfl rfl (gR_ap e28) ?_
      obtain ⟨f31, k32, hq⟩ := bsm hq
      obtain ⟨o29, e30, hq⟩ := bsm hq
      refine mB_V (as := [.int p1, .ref v25, .ref v27]) odX6_grow okX6_become lk_6_94 rfl (eaX6_become e30) (kO_at (kO_ap k32)) rfl rfl rfl ?_
      show mB _ mX6_grow (59, [(0, .ref p0), (1, .int p1), (2, .int p2), (3, .int p3), (4, .int p4)], [.int o29.2], (o29.1 ++ R), 0, 0)
      cases hq
      exact mB_ret odX6_grow rfl
