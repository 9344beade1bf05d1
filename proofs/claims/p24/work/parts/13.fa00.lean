def fxX3_clear (N : Nat) (p0 : Nat) (h : mh) : Option mh :=
  (sV h p0 3 0 (.int (0 : Int32))).bind fun h1 =>
  some h1
set_option maxHeartbeats 4000000 in
set_option maxRecDepth 100000 in
theorem eaX3_clear {N : Nat} {R : mh} {p0 : Nat} {h : mh} {o : mh} (hq : fxX3_clear N p0 h = some o) : mC mX3_clear [.ref p0] (h ++ R) (o ++ R, none) := by
  refine mC_of okX3_clear (Nat.le_of_ble_eq_true rfl) ?_
  unfold fxX3_clear at hq
  show mB _ mX3_clear (0, [(0, .ref p0)], [], (h ++ R), 0, 0)
  refine mB_run odX3_clear 2 (g := (2, [(0, .ref p0)], [.int (0 : Int32), .ref p0], (h ++ R), 0, 0)) rfl ?_
  obtain ⟨h1, e2, hq⟩ := bsm hq
  refine r_sV odX3_clear rfl rfl rfl rfl (sV_ap e2) ?_
  cases hq
  exact mB_ret odX3_clear rfl
def fxX0_clear (N : Nat) (p0 : Nat) (h : mh) : Option mh :=
  (sV h p0 0 0 (.int (0 : Int32))).bind fun h1 =>
  (gR h1 p0 0 1).bind fun v3 =>
  (kO h1 v3 3).bind fun f7 =>
  (fxX3_clear N v3 h1).bind fun o5 =>
  (sV o5 p0 0 2 (.int (0 : Int32))).bind fun h9 =>
  (sV h9 p0 0 6 (.int (0 : Int32))).bind fun h11 =>
  (gR h11 p0 0 8).bind fun v13 =>
  (sV h11 v13 4 1 (.long (0 : Int64))).bind fun h15 =>
  some h15
set_option maxHeartbeats 4000000 in
set_option maxRecDepth 100000 in
theorem eaX0_clear {N : Nat} {R : mh} {p0 : Nat} {h : mh} {o : mh} (hq : fxX0_clear N p0 h = some o) : mC mX0_clear [.ref p0] (h ++ R) (o ++ R, none) := by
  refine mC_of okX0_clear (Nat.le_of_ble_eq_true rfl) ?_
  unfold fxX0_clear at hq
  show mB _ mX0_clear (0, [(0, .ref p0)], [], (h ++ R), 0, 0)
  refine mB_run odX0_clear 2 (g := (2, [(0, .ref p0)], [.int (0 : Int32), .ref p0], (h ++ R), 0, 0)) rfl ?_
  obtain ⟨h1, e2, hq⟩ := bsm hq
  refine r_sV odX0_clear rfl rfl rfl rfl (sV_ap e2) ?_
  refine mB_run odX0_clear 1 (g := (6, [(0, .ref p0)], [.ref p0], (h1 ++ R), 0, 0)) rfl ?_
  obtain ⟨v3, e4, hq⟩ := bsm hq
  refine r_gR odX0_clear rfl rfl (gR_ap e4) ?_
  obtain ⟨f7, k8, hq⟩ := bsm hq
  obtain ⟨o5, e6, hq⟩ := bsm hq
  refine mB_V (as := []) odX0_clear okX3_clear lk_0_50 rfl (eaX3_clear e6) (kO_at (kO_ap k8)) rfl rfl rfl ?_
  show mB _ mX0_clear (12, [(0, .ref p0)], [], (o5 ++ R), 0, 0)
  refine mB_run odX0_clear 2 (g := (14, [(0, .ref p0)], [.int (0 : Int32), .ref p0], (o5 ++ R), 0, 0)) rfl ?_
  obtain ⟨h9, e10, hq⟩ := bsm hq
  refine r_sV odX0_clear rfl rfl rfl rfl (sV_ap e10) ?_
  refine mB_run odX0_clear 2 (g := (19, [(0, .ref p0)], [.int (0 : Int32), .ref p0], (h9 ++ R), 0, 0)) rfl ?_
  obtain ⟨h11, e12, hq⟩ := bsm hq
  refine r_sV odX0_clear rfl rfl rfl rfl (sV_ap e12) ?_
  refine mB_run odX0_clear 1 (g := (23, [(0, .ref p0)], [.ref p0], (h11 ++ R), 0, 0)) rfl ?_
  obtain ⟨v13, e14, hq⟩ := bsm hq
  refine r_gR odX0_clear rfl rfl (gR_ap e14) ?_
  refine mB_run odX0_clear 1 (g := (27, [(0, .ref p0)], [.long (0 : Int64), .ref v13], (h11 ++ R), 0, 0)) rfl ?_
  obtain ⟨h15, e16, hq⟩ := bsm hq
  refine r_sV odX0_clear rfl rfl rfl rfl (sV_ap e16) ?_
  cases hq
  exact mB_ret odX0_clear rfl
def fxX6_divisor_9 (N : Nat) : Nat → Int64 → Int64 → Int32 → mh → Option (mh × Int64)
  | 0, _, _, _, _ => none
  | n + 1, x4, x6, x8, h =>
    if (100000 : Int32) ≤ x8 then (
      some (h, x4)) else (
      if x6 ≤ (0 : Int64) then (
        some (h, x4)) else (
        if x6 = 0 then none else
        fxX6_divisor_9 N n x6 (x4 - x4 / x6 * x6) (x8 + (1 : Int32)) h))
set_option maxHeartbeats 4000000 in
set_option maxRecDepth 100000 in
theorem eaX6_divisor_9 {N : Nat} {R : mh} : ∀ (n : Nat) (x4 : Int64) (x6 : Int64) (x8 : Int32) (h : mh) {o : (mh × Int64)}, fxX6_divisor_9 N n x4 x6 x8 h = some o → mB (gO mX6_divisor (o.1 ++ R, some (.long o.2))) mX6_divisor (9, [(4, .long x4), (6, .long x6), (8, .int x8)], [], (h ++ R), 0, 0) := by
  intro n
  induction n with
  | zero => intro x4 x6 x8 h o hq; cases hq
  | succ n ih =>
    intro x4 x6 x8 h o hq
    unfold fxX6_divisor_9 at hq
    refine mB_run odX6_divisor 2 (g := (13, [(4, .long x4), (6, .long x6), (8, .int x8)], [.int (100000 : Int32), .int x8], (h ++ R), 0, 0)) rfl ?_
    by_cases c1 : (100000 : Int32) ≤ x8
    · rw [if_pos c1] at hq
      refine ic_ge_T (t := 44) odX6_divisor rfl rfl c1 ?_
      refine mB_run odX6_divisor 1 (g := (46, [(4, .long x4), (6, .long x6), (8, .int x8)], [.long x4], (h ++ R), 0, 0)) rfl ?_
      cases hq
      exact mB_ret odX6_divisor rfl
    · rw [if_neg c1] at hq
      refine ic_ge_F (t := 44) odX6_divisor rfl rfl c1 ?_
      refine mB_run odX6_divisor 2 (g := (19, [(4, .long x4), (6, .long x6), (8, .int x8)], [.long (0 : Int64), .long x6], (h ++ R), 0, 0)) rfl ?_
      by_cases c2 : x6 ≤ (0 : Int64)
      · rw [if_pos c2] at hq
        refine lc_le_T (t := 44) odX6_divisor rfl rfl rfl c2 ?_
        refine mB_run odX6_divisor 1 (g := (46, [(4, .long x4), (6, .long x6), (8, .int x8)], [.long x4], (h ++ R), 0, 0)) rfl ?_
        cases hq
        exact mB_ret odX6_divisor rfl
      · rw [if_neg c2] at hq
        refine lc_le_F (t := 44) odX6_divisor rfl rfl rfl c2 ?_
        refine mB_run odX6_divisor 2 (g := (27, [(4, .long x4), (6, .long x6), (8, .int x8)], [.long x6, .long x4], (h ++ R), 0, 0)) rfl ?_
        by_cases c3 : x6 = 0
        · rw [if_pos c3] at hq; cases hq
        rw [if_neg c3] at hq
        refine r_lrem odX6_divisor rfl c3 ?_
        refine mB_run odX6_divisor 7 (g := (9, [(8, .int (x8 + (1 : Int32))), (6, .long (x4 - x4 / x6 * x6)), (4, .long x6), (9, .long (x4 - x4 / x6 * x6))], [], (h ++ R), 0, 0)) rfl ?_
        refine mB_lv [2, 1, 0] (lv' := [(4, .long x6), (6, .long (x4 - x4 / x6 * x6)), (8, .int (x8 + (1 : Int32)))]) rfl ?_
        exact ih _ _ _ _ hq
def fxX6_divisor (N : Nat) (p0 : Int64) (p1 : Int64) (h : mh) : Option (mh × Int64) :=
  fxX6_divisor_9 N N p0 p1 (0 : Int32) h
set_option maxHeartbeats 4000000 in
set_option maxRecDepth 100000 in
theorem eaX6_divisor {N : Nat} {R : mh} {p0 : Int64} {p1 : Int64} {h : mh} {o : (mh × Int64)} (hq : fxX6_divisor N p0 p1 h = some o) : mC mX6_divisor [.long p0, .long p1] (h ++ R) (o.1 ++ R, some (.long o.2)) := by
  refine mC_of okX6_divisor (Nat.le_of_ble_eq_true rfl) ?_
  unfold fxX6_divisor at hq
  show mB _ mX6_divisor (0, [(0, .long p0), (2, .long p1)], [], (h ++ R), 0, 0)
  refine mB_run odX6_divisor 6 (g := (9, [(8, .int (0 : Int32)), (6, .long p1), (4, .long p0), (0, .long p0), (2, .long p1)], [], (h ++ R), 0, 0)) rfl ?_
  refine mB_lv [2, 1, 0] (lv' := [(4, .long p0), (6, .long p1), (8, .int (0 : Int32))]) rfl ?_
  exact eaX6_divisor_9 N _ _ _ _ hq
def fxJ6_compare_7cf53 (N : Nat) (p0 : Int32) (p1 : Int32) (h : mh) : Option (mh × Int32) :=
  if p1 ≤ p0 then (
    if p0 = p1 then (
      some (h, (0 : Int32))) else (
      some (h, (1 : Int32)))) else (
    some (h, (-1 : Int32)))
set_option maxHeartbeats 4000000 in
set_option maxRecDepth 100000 in
theorem eaJ6_compare_7cf53 {N : Nat} {R : mh} {p0 : Int32} {p1 : Int32} {h : mh} {o : (mh × Int32)} (hq : fxJ6_compare_7cf53 N p0 p1 h = some o) : mC mJ6_compare_7cf53 [.int p0, .int p1] (h ++ R) (o.1 ++ R, some (.int o.2)) := by
  refine mC_of okJ6_compare_7cf53 (Nat.le_of_ble_eq_true rfl) ?_
  unfold fxJ6_compare_7cf53 at hq
  show mB _ mJ6_compare_7cf53 (0, [(0, .int p0), (1, .int p1)], [], (h ++ R), 0, 0)
  refine mB_run odJ6_compare_7cf53 2 (g := (2, [(0, .int p0), (1, .int p1)], [.int p1, .int p0], (h ++ R), 0, 0)) rfl ?_
  by_cases c1 : p1 ≤ p0
  · rw [if_pos c1] at hq
    refine ic_ge_T (t := 9) odJ6_compare_7cf53 rfl rfl c1 ?_
    refine mB_run odJ6_compare_7cf53 2 (g := (11, [(0, .int p0), (1, .int p1)], [.int p1, .int p0], (h ++ R), 0, 0)) rfl ?_
    by_cases c2 : p0 = p1
    · rw [if_pos c2] at hq
      refine ic_ne_F (t := 18) odJ6_compare_7cf53 rfl rfl c2 ?_
      refine mB_run odJ6_compare_7cf53 2 (g := (19, [(0, .int p0), (1, .int p1)], [.int (0 : Int32)], (h ++ R), 0, 0)) rfl ?_
      cases hq
      exact mB_ret odJ6_compare_7cf53 rfl
    · rw [if_neg c2] at hq
      refine ic_ne_T (t := 18) odJ6_compare_7cf53 rfl rfl c2 ?_
      refine mB_run odJ6_compare_7cf53 1 (g := (19, [(0, .int p0), (1, .int p1)], [.int (1 : Int32)], (h ++ R), 0, 0)) rfl ?_
      cases hq
      exact mB_ret odJ6_compare_7cf53 rfl
  · rw [if_neg c1] at hq
    refine ic_ge_F (t := 9) odJ6_compare_7cf53 rfl rfl c1 ?_
    refine mB_run odJ6_compare_7cf53 2 (g := (19, [(0, .int p0), (1, .int p1)], [.int (-1 : Int32)], (h ++ R), 0, 0)) rfl ?_
    cases hq
    exact mB_ret odJ6_compare_7cf53 rfl
def fxX0_comparePlane (N : Nat) (p0 : Nat) (p1 : Int32) (p2 : Int32) (p3 : Int32) (p4 : Int32) (h : mh) : Option (mh × Int32) :=
  (gR h p0 0 3).bind fun v1 =>
  (aI h v1 ((4 : Int32) * p1)).bind fun v3 =>
  if v3 = p2 then (
    (gR h p0 0 3).bind fun v6 =>
    (aI h v6 (((4 : Int32) * p1) + (1 : Int32))).bind fun v8 =>
    if v8 = p3 then (
      (gR h p0 0 3).bind fun v11 =>
      (aI h v11 (((4 : Int32) * p1) + (2 : Int32))).bind fun v13 =>
      (fxJ6_compare_7cf53 N v13 p4 h).bind fun o15 =>
      some (o15.1, o15.2)) else (
      (gR h p0 0 3).bind fun v17 =>
      (aI h v17 (((4 : Int32) * p1) + (1 : Int32))).bind fun v19 =>
      (fxJ6_compare_7cf53 N v19 p3 h).bind fun o21 =>
      some (o21.1, o21.2))) else (
    (gR h p0 0 3).bind fun v23 =>
    (aI h v23 ((4 : Int32) * p1)).bind fun v25 =>
    (fxJ6_compare_7cf53 N v25 p2 h).bind fun o27 =>
    some (o27.1, o27.2))
set_option maxHeartbeats 4000000 in
set_option maxRecDepth 100000 in
theorem eaX0_comparePlane {N : Nat} {R : mh} {p0 : Nat} {p1 : Int32} {p2 : Int32} {p3 : Int32} {p4 : Int32} {h : mh} {o : (mh × Int32)} (hq : fxX0_comparePlane N p0 p1 p2 p3 p4 h = some o) : mC mX0_comparePlane [.ref p0, .int p1, .int p2, .int p3, .int p4] (h ++ R) (o.1 ++ R, some (.int o.2)) := by
  refine mC_of okX0_comparePlane (Nat.le_of_ble_eq_true rfl) ?_
  unfold fxX0_comparePlane at hq
  show mB _ mX0_comparePlane (0, [(0, .ref p0), (1, .int p1), (2, .int p2), (3, .int p3), (4, .int p4)], [], (h ++ R), 0, 0)
  refine mB_run odX0_comparePlane 1 (g := (1, [(0, .ref p0), (1, .int p1), (2, .int p2), (3, .int p3), (4, .int p4)], [.ref p0], (h ++ R), 0, 0)) rfl ?_
  obtain ⟨v1, e2, hq⟩ := bsm hq
  refine r_gR odX0_comparePlane rfl rfl (gR_ap e2) ?_
  refine mB_run odX0_comparePlane 3 (g := (7, [(0, .ref p0), (1, .int p1), (2, .int p2), (3, .int p3), (4, .int p4)], [.int ((4 : Int32) * p1), .ref v1], (h ++ R), 0, 0)) rfl ?_
  obtain ⟨v3, e4, hq⟩ := bsm hq
  refine r_aI odX0_comparePlane rfl (aI_ap e4) ?_
  refine mB_run odX0_comparePlane 1 (g := (9, [(0, .ref p0), (1, .int p1), (2, .int p2), (3, .int p3), (4, .int p4)], [.int p2, .int v3], (h ++ R), 0, 0)) rfl ?_
  by_cases c5 : v3 = p2
  · rw [if_pos c5] at hq
    refine ic_eq_T (t := 25) odX0_comparePlane rfl rfl c5 ?_
    refine mB_run odX0_comparePlane 1 (g := (26, [(0, .ref p0), (1, .int p1), (2, .int p2), (3, .int p3), (4, .int p4)], [.ref p0], (h ++ R), 0, 0)) rfl ?_
    obtain ⟨v6, e7, hq⟩ := bsm hq
    refine r_gR odX0_comparePlane rfl rfl (gR_ap e7) ?_
    refine mB_run odX0_comparePlane 5 (g := (34, [(0, .ref p0), (1, .int p1), (2, .int p2), (3, .int p3), (4, .int p4)], [.int (((4 : Int32) * p1) + (1 : Int32)), .ref v6], (h ++ R), 0, 0)) rfl ?_
    obtain ⟨v8, e9, hq⟩ := bsm hq
    refine r_aI odX0_comparePlane rfl (aI_ap e9) ?_
    refine mB_run odX0_comparePlane 1 (g := (36, [(0, .ref p0), (1, .int p1), (2, .int p2), (3, .int p3), (4, .int p4)], [.int p3, .int v8], (h ++ R), 0, 0)) rfl ?_
    by_cases c10 : v8 = p3
    · rw [if_pos c10] at hq
      refine ic_eq_T (t := 54) odX0_comparePlane rfl rfl c10 ?_
      refine mB_run odX0_comparePlane 1 (g := (55, [(0, .ref p0), (1, .int p1), (2, .int p2), (3, .int p3), (4, .int p4)], [.ref p0], (h ++ R), 0, 0)) rfl ?_
      obtain ⟨v11, e12, hq⟩ := bsm hq
      refine r_gR odX0_comparePlane rfl rfl (gR_ap e12) ?_
      refine mB_run odX0_comparePlane 5 (g := (63, [(0, .ref p0), (1, .int p1), (2, .int p2), (3, .int p3), (4, .int p4)], [.int (((4 : Int32) * p1) + (2 : Int32)), .ref v11], (h ++ R), 0, 0)) rfl ?_
      obtain ⟨v13, e14, hq⟩ := bsm hq
      refine r_aI odX0_comparePlane rfl (aI_ap e14) ?_
      refine mB_run odX0_comparePlane 1 (g := (66, [(0, .ref p0), (1, .int p1), (2, .int p2), (3, .int p3), (4, .int p4)], [.int p4, .int v13], (h ++ R), 0, 0)) rfl ?_
      obtain ⟨o15, e16, hq⟩ := bsm hq
      refine mB_S (as := [.int v13, .int p4]) odX0_comparePlane okJ6_compare_7cf53 lk_0_77 rfl (eaJ6_compare_7cf53 e16) rfl rfl rfl ?_
      show mB _ mX0_comparePlane (69, [(0, .ref p0), (1, .int p1), (2, .int p2), (3, .int p3), (4, .int p4)], [.int o15.2], (o15.1 ++ R), 0, 0)
      cases hq
      exact mB_ret odX0_comparePlane rfl
    · rw [if_neg c10] at hq
      refine ic_eq_F (t := 54) odX0_comparePlane rfl rfl c10 ?_
      refine mB_run odX0_comparePlane 1 (g := (40, [(0, .ref p0), (1, .int p1), (2, .int p2), (3, .int p3), (4, .int p4)], [.ref p0], (h ++ R), 0, 0)) rfl ?_
      obtain ⟨v17, e18, hq⟩ := bsm hq
      refine r_gR odX0_comparePlane rfl rfl (gR_ap e18) ?_
      refine mB_run odX0_comparePlane 5 (g := (48, [(0, .ref p0), (1, .int p1), (2, .int p2), (3, .int p3), (4, .int p4)], [.int (((4 : Int32) * p1) + (1 : Int32)), .ref v17], (h ++ R), 0, 0)) rfl ?_
      obtain ⟨v19, e20, hq⟩ := bsm hq
      refine r_aI odX0_comparePlane rfl (aI_ap e20) ?_
      refine mB_run odX0_comparePlane 1 (g := (50, [(0, .ref p0), (1, .int p1), (2, .int p2), (3, .int p3), (4, .int p4)], [.int p3, .int v19], (h ++ R), 0, 0)) rfl ?_
      obtain ⟨o21, e22, hq⟩ := bsm hq
      refine mB_S (as := [.int v19, .int p3]) odX0_comparePlane okJ6_compare_7cf53 lk_0_77 rfl (eaJ6_compare_7cf53 e22) rfl rfl rfl ?_
      show mB _ mX0_comparePlane (53, [(0, .ref p0), (1, .int p1), (2, .int p2), (3, .int p3), (4, .int p4)], [.int o21.2], (o21.1 ++ R), 0, 0)
      cases hq
      exact mB_ret odX0_comparePlane rfl
  · rw [if_neg c5] at hq
    refine ic_eq_F (t := 25) odX0_comparePlane rfl rfl c5 ?_
    refine mB_run odX0_comparePlane 1 (g := (13, [(0, .ref p0), (1, .int p1), (2, .int p2), (3, .int p3), (4, .int p4)], [.ref p0], (h ++ R), 0, 0)) rfl ?_
    obtain ⟨v23, e24, hq⟩ := bsm hq
    refine r_gR odX0_comparePlane rfl rfl (gR_ap e24) ?_
    refine mB_run odX0_comparePlane 3 (g := (19, [(0, .ref p0), (1, .int p1), (2, .int p2), (3, .int p3), (4, .int p4)], [.int ((4 : Int32) * p1), .ref v23], (h ++ R), 0, 0)) rfl ?_
    obtain ⟨v25, e26, hq⟩ := bsm hq
    refine r_aI odX0_comparePlane rfl (aI_ap e26) ?_
    refine mB_run odX0_comparePlane 1 (g := (21, [(0, .ref p0), (1, .int p1), (2, .int p2), (3, .int p3), (4, .int p4)], [.int p2, .int v25], (h ++ R), 0, 0)) rfl ?_
    obtain ⟨o27, e28, hq⟩ := bsm hq
    refine mB_S (as := [.int v25, .int p2]) odX0_comparePlane okJ6_compare_7cf53 lk_0_77 rfl (eaJ6_compare_7cf53 e28) rfl rfl rfl ?_
    show mB _ mX0_comparePlane (24, [(0, .ref p0), (1, .int p1), (2, .int p2), (3, .int p3), (4, .int p4)], [.int o27.2], (o27.1 ++ R), 0, 0)
    cases hq
    exact mB_ret odX0_comparePlane rfl
def fxX0_addPlane_109 (N : Nat) (x0 : Nat) (x1 : Int32) (x2 : Int32) (x3 : Int32) (x4 : Int32) (x5 : Int32) (x6 : Int32) (h : mh) : Option mh :=
  (gR h x0 0 3).bind fun v31 =>
  (gR h x0 0 3).bind fun v33 =>
  (gI h x0 0 2).bind fun v35 =>
  (cpI h v31 ((4 : Int32) * x6) v33 (((4 : Int32) * x6) + (4 : Int32)) ((4 : Int32) * (v35 - x6))).bind fun h37 =>
  (gR h37 x0 0 3).bind fun v39 =>
  if x5 = 0 then none else
  (wI h37 v39 ((4 : Int32) * x6) (x1 / x5)).bind fun h42 =>
  (gR h42 x0 0 3).bind fun v44 =>
  if x5 = 0 then none else
  (wI h42 v44 (((4 : Int32) * x6) + (1 : Int32)) (x2 / x5)).bind fun h47 =>
  (gR h47 x0 0 3).bind fun v49 =>
  if x5 = 0 then none else
  (wI h47 v49 (((4 : Int32) * x6) + (2 : Int32)) (x3 / x5)).bind fun h52 =>
  (gR h52 x0 0 3).bind fun v54 =>
  if x5 = 0 then none else
  (wI h52 v54 (((4 : Int32) * x6) + (3 : Int32)) (x4 / x5)).bind fun h57 =>
  (gI h57 x0 0 2).bind fun v59 =>
  (sV h57 x0 0 2 (.int (v59 + (1 : Int32)))).bind fun h61 =>
  some h61
set_option maxHeartbeats 4000000 in
set_option maxRecDepth 100000 in
theorem eaX0_addPlane_109 {N : Nat} {R : mh} (x0 : Nat) (x1 : Int32) (x2 : Int32) (x3 : Int32) (x4 : Int32) (x5 : Int32) (x6 : Int32) (h : mh) {o : mh} (hq : fxX0_addPlane_109 N x0 x1 x2 x3 x4 x5 x6 h = some o) : mB (gO mX0_addPlane (o ++ R, none)) mX0_addPlane (109, [(0, .ref x0), (1, .int x1), (2, .int x2), (3, .int x3), (4, .int x4), (5, .int x5), (6, .int x6)], [], (h ++ R), 0, 0) := by
  unfold fxX0_addPlane_109 at hq
  refine mB_run odX0_addPlane 1 (g := (110, [(0, .ref x0), (1, .int x1), (2, .int x2), (3, .int x3), (4, .int x4), (5, .int x5), (6, .int x6)], [.ref x0], (h ++ R), 0, 0)) rfl ?_
  obtain ⟨v31, e32, hq⟩ := bsm hq
  refine r_gR odX0_addPlane rfl rfl (gR_ap e32) ?_
  refine mB_run odX0_addPlane 4 (g := (118, [(0, .ref x0), (1, .int x1), (2, .int x2), (3, .int x3), (4, .int x4), (5, .int x5), (6, .int x6)], [.ref x0, .int ((4 : Int32) * x6), .ref v31], (h ++ R), 0, 0)) rfl ?_
  obtain ⟨v33, e34, hq⟩ := bsm hq
  refine r_gR odX0_addPlane rfl rfl (gR_ap e34) ?_
  refine mB_run odX0_addPlane 7 (g := (129, [(0, .ref x0), (1, .int x1), (2, .int x2), (3, .int x3), (4, .int x4), (5, .int x5), (6, .int x6)], [.ref x0, .int (4 : Int32), .int (((4 : Int32) * x6) + (4 : Int32)), .ref v33, .int ((4 : Int32) * x6), .ref v31], (h ++ R), 0, 0)) rfl ?_
  obtain ⟨v35, e36, hq⟩ := bsm hq
  refine r_gI odX0_addPlane rfl rfl (gI_ap e36) ?_
  refine mB_run odX0_addPlane 3 (g := (136, [(0, .ref x0), (1, .int x1), (2, .int x2), (3, .int x3), (4, .int x4), (5, .int x5), (6, .int x6)], [.int ((4 : Int32) * (v35 - x6)), .int (((4 : Int32) * x6) + (4 : Int32)), .ref v33, .int ((4 : Int32) * x6), .ref v31], (h ++ R), 0, 0)) rfl ?_
  obtain ⟨h37, e38, hq⟩ := bsm hq
  refine r_cp odX0_addPlane rfl rfl rfl rfl (cpI_ap e38) ?_
  refine mB_run odX0_addPlane 1 (g := (140, [(0, .ref x0), (1, .int x1), (2, .int x2), (3, .int x3), (4, .int x4), (5, .int x5), (6, .int x6)], [.ref x0], (h37 ++ R), 0, 0)) rfl ?_
  obtain ⟨v39, e40, hq⟩ := bsm hq
  refine r_gR odX0_addPlane rfl rfl (gR_ap e40) ?_
  refine mB_run odX0_addPlane 5 (g := (150, [(0, .ref x0), (1, .int x1), (2, .int x2), (3, .int x3), (4, .int x4), (5, .int x5), (6, .int x6)], [.int x5, .int x1, .int ((4 : Int32) * x6), .ref v39], (h37 ++ R), 0, 0)) rfl ?_
  by_cases c41 : x5 = 0
  · rw [if_pos c41] at hq; cases hq
  rw [if_neg c41] at hq
  refine r_idiv odX0_addPlane rfl c41 ?_
  obtain ⟨h42, e43, hq⟩ := bsm hq
  refine r_wI odX0_addPlane rfl (wI_ap e43) ?_
  refine mB_run odX0_addPlane 1 (g := (153, [(0, .ref x0), (1, .int x1), (2, .int x2), (3, .int x3), (4, .int x4), (5, .int x5), (6, .int x6)], [.ref x0], (h42 ++ R), 0, 0)) rfl ?_
  obtain ⟨v44, e45, hq⟩ := bsm hq
  refine r_gR odX0_addPlane rfl rfl (gR_ap e45) ?_
  refine mB_run odX0_addPlane 7 (g := (165, [(0, .ref x0), (1, .int x1), (2, .int x2), (3, .int x3), (4, .int x4), (5, .int x5), (6, .int x6)], [.int x5, .int x2, .int (((4 : Int32) * x6) + (1 : Int32)), .ref v44], (h42 ++ R), 0, 0)) rfl ?_
  by_cases c46 : x5 = 0
  · rw [if_pos c46] at hq; cases hq
  rw [if_neg c46] at hq
  refine r_idiv odX0_addPlane rfl c46 ?_
  obtain ⟨h47, e48, hq⟩ := bsm hq
  refine r_wI odX0_addPlane rfl (wI_ap e48) ?_
  refine mB_run odX0_addPlane 1 (g := (168, [(0, .ref x0), (1, .int x1), (2, .int x2), (3, .int x3), (4, .int x4), (5, .int x5), (6, .int x6)], [.ref x0], (h47 ++ R), 0, 0)) rfl ?_
  obtain ⟨v49, e50, hq⟩ := bsm hq
  refine r_gR odX0_addPlane rfl rfl (gR_ap e50) ?_
  refine mB_run odX0_addPlane 7 (g := (180, [(0, .ref x0), (1, .int x1), (2, .int x2), (3, .int x3), (4, .int x4), (5, .int x5), (6, .int x6)], [.int x5, .int x3, .int (((4 : Int32) * x6) + (2 : Int32)), .ref v49], (h47 ++ R), 0, 0)) rfl ?_
  by_cases c51 : x5 = 0
  · rw [if_pos c51] at hq; cases hq
  rw [if_neg c51] at hq
  refine r_idiv odX0_addPlane rfl c51 ?_
  obtain ⟨h52, e53, hq⟩ := bsm hq
  refine r_wI odX0_addPlane rfl (wI_ap e53) ?_
  refine mB_run odX0_addPlane 1 (g := (183, [(0, .ref x0), (1, .int x1), (2, .int x2), (3, .int x3), (4, .int x4), (5, .int x5), (6, .int x6)], [.ref x0], (h52 ++ R), 0, 0)) rfl ?_
  obtain ⟨v54, e55, hq⟩ := bsm hq
  refine r_gR odX0_addPlane rfl rfl (gR_ap e55) ?_
  refine mB_run odX0_addPlane 7 (g := (196, [(0, .ref x0), (1, .int x1), (2, .int x2), (3, .int x3), (4, .int x4), (5, .int x5), (6, .int x6)], [.int x5, .int x4, .int (((4 : Int32) * x6) + (3 : Int32)), .ref v54], (h52 ++ R), 0, 0)) rfl ?_
  by_cases c56 : x5 = 0
  · rw [if_pos c56] at hq; cases hq
  rw [if_neg c56] at hq
  refine r_idiv odX0_addPlane rfl c56 ?_
  obtain ⟨h57, e58, hq⟩ := bsm hq
  refine r_wI odX0_addPlane rfl (wI_ap e58) ?_
  refine mB_run odX0_addPlane 2 (g := (200, [(0, .ref x0), (1, .int x1), (2, .int x2), (3, .int x3), (4, .int x4), (5, .int x5), (6, .int x6)], [.ref x0, .ref x0], (h57 ++ R), 0, 0)) rfl ?_
  obtain ⟨v59, e60, hq⟩ := bsm hq
  refine r_gI odX0_addPlane rfl rfl (gI_ap e60) ?_
  refine mB_run odX0_addPlane 2 (g := (205, [(0, .ref x0), (1, .int x1), (2, .int x2), (3, .int x3), (4, .int x4), (5, .int x5), (6, .int x6)], [.int (v59 + (1 : Int32)), .ref x0], (h57 ++ R), 0, 0)) rfl ?_
  obtain ⟨h61, e62, hq⟩ := bsm hq
  refine r_sV odX0_addPlane rfl rfl rfl rfl (sV_ap e62) ?_
  cases hq
  exact mB_ret odX0_addPlane rfl
def fxX0_addPlane_78 (N : Nat) (x0 : Nat) (x1 : Int32) (x2 : Int32) (x3 : Int32) (x4 : Int32) (x5 : Int32) (x6 : Int32) (h : mh) : Option mh :=
  (gI h x0 0 2).bind fun v20 =>
  if v20 ≤ x6 then (
    fxX0_addPlane_109 N x0 x1 x2 x3 x4 x5 x6 h) else (
    if x5 = 0 then none else
    if x5 = 0 then none else
    if x5 = 0 then none else
    (kO h x0 0).bind fun f28 =>
    (fxX0_comparePlane N x0 x6 (x1 / x5) (x2 / x5) (x3 / x5) h).bind fun o26 =>
    if o26.2 = 0 then (
      some o26.1) else (
      fxX0_addPlane_109 N x0 x1 x2 x3 x4 x5 x6 o26.1))
set_option maxHeartbeats 4000000 in
set_option maxRecDepth 100000 in
theorem eaX0_addPlane_78 {N : Nat} {R : mh} (x0 : Nat) (x1 : Int32) (x2 : Int32) (x3 : Int32) (x4 : Int32) (x5 : Int32) (x6 : Int32) (h : mh) {o : mh} (hq : fxX0_addPlane_78 N x0 x1 x2 x3 x4 x5 x6 h = some o) : mB (gO mX0_addPlane (o ++ R, none)) mX0_addPlane (78, [(0, .ref x0), (1, .int x1), (2, .int x2), (3, .int x3), (4, .int x4), (5, .int x5), (6, .int x6)], [], (h ++ R), 0, 0) := by
  unfold fxX0_addPlane_78 at hq
  refine mB_run odX0_addPlane 2 (g := (81, [(0, .ref x0), (1, .int x1), (2, .int x2), (3, .int x3), (4, .int x4), (5, .int x5), (6, .int x6)], [.ref x0, .int x6], (h ++ R), 0, 0)) rfl ?_
  obtain ⟨v20, e21, hq⟩ := bsm hq
  refine r_gI odX0_addPlane rfl rfl (gI_ap e21) ?_
  by_cases c22 : v20 ≤ x6
  · rw [if_pos c22] at hq
    refine ic_ge_T (t := 109) odX0_addPlane rfl rfl c22 ?_
    refine mB_lv [0, 1, 2, 3, 4, 5, 6] (lv' := [(0, .ref x0), (1, .int x1), (2, .int x2), (3, .int x3), (4, .int x4), (5, .int x5), (6, .int x6)]) rfl ?_
    exact eaX0_addPlane_109 _ _ _ _ _ _ _ _ hq
  · rw [if_neg c22] at hq
    refine ic_ge_F (t := 109) odX0_addPlane rfl rfl c22 ?_
    refine mB_run odX0_addPlane 4 (g := (93, [(0, .ref x0), (1, .int x1), (2, .int x2), (3, .int x3), (4, .int x4), (5, .int x5), (6, .int x6)], [.int x5, .int x1, .int x6, .ref x0], (h ++ R), 0, 0)) rfl ?_
    by_cases c23 : x5 = 0
    · rw [if_pos c23] at hq; cases hq
    rw [if_neg c23] at hq
    refine r_idiv odX0_addPlane rfl c23 ?_
    refine mB_run odX0_addPlane 2 (g := (97, [(0, .ref x0), (1, .int x1), (2, .int x2), (3, .int x3), (4, .int x4), (5, .int x5), (6, .int x6)], [.int x5, .int x2, .int (x1 / x5), .int x6, .ref x0], (h ++ R), 0, 0)) rfl ?_
    by_cases c24 : x5 = 0
    · rw [if_pos c24] at hq; cases hq
    rw [if_neg c24] at hq
    refine r_idiv odX0_addPlane rfl c24 ?_
    refine mB_run odX0_addPlane 2 (g := (101, [(0, .ref x0), (1, .int x1), (2, .int x2), (3, .int x3), (4, .int x4), (5, .int x5), (6, .int x6)], [.int x5, .int x3, .int (x2 / x5), .int (x1 / x5), .int x6, .ref x0], (h ++ R), 0, 0)) rfl ?_
    by_cases c25 : x5 = 0
    · rw [if_pos c25] at hq; cases hq
    rw [if_neg c25] at hq
    refine r_idiv odX0_addPlane rfl c25 ?_
    obtain ⟨f28, k29, hq⟩ := bsm hq
    obtain ⟨o26, e27, hq⟩ := bsm hq
    refine mB_V (as := [.int x6, .int (x1 / x5), .int (x2 / x5), .int (x3 / x5)]) odX0_addPlane okX0_comparePlane lk_0_67 rfl (eaX0_comparePlane e27) (kO_at (kO_ap k29)) rfl rfl rfl ?_
    show mB _ mX0_addPlane (105, [(0, .ref x0), (1, .int x1), (2, .int x2), (3, .int x3), (4, .int x4), (5, .int x5), (6, .int x6)], [.int o26.2], (o26.1 ++ R), 0, 0)
    by_cases c30 : o26.2 = 0
    · rw [if_pos c30] at hq
      refine if_ne_F (t := 109) odX0_addPlane rfl rfl c30 ?_
      cases hq
      exact mB_ret odX0_addPlane rfl
    · rw [if_neg c30] at hq
      refine if_ne_T (t := 109) odX0_addPlane rfl rfl c30 ?_
      refine mB_lv [0, 1, 2, 3, 4, 5, 6] (lv' := [(0, .ref x0), (1, .int x1), (2, .int x2), (3, .int x3), (4, .int x4), (5, .int x5), (6, .int x6)]) rfl ?_
      exact eaX0_addPlane_109 _ _ _ _ _ _ _ _ hq
def fxX0_addPlane_42 (N : Nat) : Nat → Nat → Int32 → Int32 → Int32 → Int32 → Int32 → Int32 → mh → Option mh
  | 0, _, _, _, _, _, _, _, _ => none
  | n + 1, x0, x1, x2, x3, x4, x5, x6, h =>
    (gI h x0 0 2).bind fun v9 =>
    if v9 ≤ x6 then (
      fxX0_addPlane_78 N x0 x1 x2 x3 x4 x5 x6 h) else (
      if x5 = 0 then none else
      if x5 = 0 then none else
      if x5 = 0 then none else
      (kO h x0 0).bind fun f17 =>
      (fxX0_comparePlane N x0 x6 (x1 / x5) (x2 / x5) (x3 / x5) h).bind fun o15 =>
      if 0 ≤ o15.2 then (
        fxX0_addPlane_78 N x0 x1 x2 x3 x4 x5 x6 o15.1) else (
        fxX0_addPlane_42 N n x0 x1 x2 x3 x4 x5 (x6 + (1 : Int32)) o15.1))
set_option maxHeartbeats 4000000 in
set_option maxRecDepth 100000 in
theorem eaX0_addPlane_42 {N : Nat} {R : mh} : ∀ (n : Nat) (x0 : Nat) (x1 : Int32) (x2 : Int32) (x3 : Int32) (x4 : Int32) (x5 : Int32) (x6 : Int32) (h : mh) {o : mh}, fxX0_addPlane_42 N n x0 x1 x2 x3 x4 x5 x6 h = some o → mB (gO mX0_addPlane (o ++ R, none)) mX0_addPlane (42, [(0, .ref x0), (1, .int x1), (2, .int x2), (3, .int x3), (4, .int x4), (5, .int x5), (6, .int x6)], [], (h ++ R), 0, 0) := by
  intro n
  induction n with
  | zero => intro x0 x1 x2 x3 x4 x5 x6 h o hq; cases hq
  | succ n ih =>
    intro x0 x1 x2 x3 x4 x5 x6 h o hq
    unfold fxX0_addPlane_42 at hq
    refine mB_run odX0_addPlane 2 (g := (45, [(0, .ref x0), (1, .int x1), (2, .int x2), (3, .int x3), (4, .int x4), (5, .int x5), (6, .int x6)], [.ref x0, .int x6], (h ++ R), 0, 0)) rfl ?_
    obtain ⟨v9, e10, hq⟩ := bsm hq
    refine r_gI odX0_addPlane rfl rfl (gI_ap e10) ?_
    by_cases c11 : v9 ≤ x6
    · rw [if_pos c11] at hq
      refine ic_ge_T (t := 78) odX0_addPlane rfl rfl c11 ?_
      refine mB_lv [0, 1, 2, 3, 4, 5, 6] (lv' := [(0, .ref x0), (1, .int x1), (2, .int x2), (3, .int x3), (4, .int x4), (5, .int x5), (6, .int x6)]) rfl ?_
      exact eaX0_addPlane_78 _ _ _ _ _ _ _ _ hq
    · rw [if_neg c11] at hq
      refine ic_ge_F (t := 78) odX0_addPlane rfl rfl c11 ?_
      refine mB_run odX0_addPlane 4 (g := (57, [(0, .ref x0), (1, .int x1), (2, .int x2), (3, .int x3), (4, .int x4), (5, .int x5), (6, .int x6)], [.int x5, .int x1, .int x6, .ref x0], (h ++ R), 0, 0)) rfl ?_
      by_cases c12 : x5 = 0
      · rw [if_pos c12] at hq; cases hq
      rw [if_neg c12] at hq
      refine r_idiv odX0_addPlane rfl c12 ?_
      refine mB_run odX0_addPlane 2 (g := (61, [(0, .ref x0), (1, .int x1), (2, .int x2), (3, .int x3), (4, .int x4), (5, .int x5), (6, .int x6)], [.int x5, .int x2, .int (x1 / x5), .int x6, .ref x0], (h ++ R), 0, 0)) rfl ?_
      by_cases c13 : x5 = 0
      · rw [if_pos c13] at hq; cases hq
      rw [if_neg c13] at hq
      refine r_idiv odX0_addPlane rfl c13 ?_
      refine mB_run odX0_addPlane 2 (g := (65, [(0, .ref x0), (1, .int x1), (2, .int x2), (3, .int x3), (4, .int x4), (5, .int x5), (6, .int x6)], [.int x5, .int x3, .int (x2 / x5), .int (x1 / x5), .int x6, .ref x0], (h ++ R), 0, 0)) rfl ?_
      by_cases c14 : x5 = 0
      · rw [if_pos c14] at hq; cases hq
      rw [if_neg c14] at hq
      refine r_idiv odX0_addPlane rfl c14 ?_
      obtain ⟨f17, k18, hq⟩ := bsm hq
      obtain ⟨o15, e16, hq⟩ := bsm hq
      refine mB_V (as := [.int x6, .int (x1 / x5), .int (x2 / x5), .int (x3 / x5)]) odX0_addPlane okX0_comparePlane lk_0_67 rfl (eaX0_comparePlane e16) (kO_at (kO_ap k18)) rfl rfl rfl ?_
      show mB _ mX0_addPlane (69, [(0, .ref x0), (1, .int x1), (2, .int x2), (3, .int x3), (4, .int x4), (5, .int x5), (6, .int x6)], [.int o15.2], (o15.1 ++ R), 0, 0)
      by_cases c19 : 0 ≤ o15.2
      · rw [if_pos c19] at hq
        refine if_ge_T (t := 78) odX0_addPlane rfl rfl c19 ?_
        refine mB_lv [0, 1, 2, 3, 4, 5, 6] (lv' := [(0, .ref x0), (1, .int x1), (2, .int x2), (3, .int x3), (4, .int x4), (5, .int x5), (6, .int x6)]) rfl ?_
        exact eaX0_addPlane_78 _ _ _ _ _ _ _ _ hq
      · rw [if_neg c19] at hq
        refine if_ge_F (t := 78) odX0_addPlane rfl rfl c19 ?_
        refine mB_run odX0_addPlane 2 (g := (42, [(6, .int (x6 + (1 : Int32))), (0, .ref x0), (1, .int x1), (2, .int x2), (3, .int x3), (4, .int x4), (5, .int x5)], [], (o15.1 ++ R), 0, 0)) rfl ?_
        refine mB_lv [1, 2, 3, 4, 5, 6, 0] (lv' := [(0, .ref x0), (1, .int x1), (2, .int x2), (3, .int x3), (4, .int x4), (5, .int x5), (6, .int (x6 + (1 : Int32)))]) rfl ?_
        exact ih _ _ _ _ _ _ _ _ hq
def fxX0_addPlane (N : Nat) (p0 : Nat) (p1 : Int32) (p2 : Int32) (p3 : Int32) (p4 : Int32) (h : mh) : Option mh :=
  (fxX6_divisor N (if 0 ≤ p1 then p1 else 0 - p1).toInt64 (if 0 ≤ p2 then p2 else 0 - p2).toInt64 h).bind fun o1 =>
  (fxX6_divisor N o1.2 (if 0 ≤ p3 then p3 else 0 - p3).toInt64 o1.1).bind fun o3 =>
  if o3.2.toInt32 = 0 then (
    some o3.1) else (
    (gI o3.1 p0 0 2).bind fun v6 =>
    if v6 < (44 : Int32) then (
      fxX0_addPlane_42 N N p0 p1 p2 p3 p4 o3.2.toInt32 (0 : Int32) o3.1) else (
      some o3.1))
set_option maxHeartbeats 4000000 in
set_option maxRecDepth 100000 in
theorem eaX0_addPlane {N : Nat} {R : mh} {p0 : Nat} {p1 : Int32} {p2 : Int32} {p3 : Int32} {p4 : Int32} {h : mh} {o : mh} (hq : fxX0_addPlane N p0 p1 p2 p3 p4 h = some o) : mC mX0_addPlane [.ref p0, .int p1, .int p2, .int p3, .int p4] (h ++ R) (o ++ R, none) := by
  refine mC_of okX0_addPlane (Nat.le_of_ble_eq_true rfl) ?_
  unfold fxX0_addPlane at hq
  show mB _ mX0_addPlane (0, [(0, .ref p0), (1, .int p1), (2, .int p2), (3, .int p3), (4, .int p4)], [], (h ++ R), 0, 0)
  refine mB_run odX0_addPlane 6 (g := (10, [(0, .ref p0), (1, .int p1), (2, .int p2), (3, .int p3), (4, .int p4)], [.long (if 0 ≤ p2 then p2 else 0 - p2).toInt64, .long (if 0 ≤ p1 then p1 else 0 - p1).toInt64], (h ++ R), 0, 0)) rfl ?_
  obtain ⟨o1, e2, hq⟩ := bsm hq
  refine mB_NS (as := [.long (if 0 ≤ p1 then p1 else 0 - p1).toInt64, .long (if 0 ≤ p2 then p2 else 0 - p2).toInt64]) odX0_addPlane okX6_divisor lk_0_63 rfl (eaX6_divisor e2) rfl rfl rfl ?_
  show mB _ mX0_addPlane (13, [(0, .ref p0), (1, .int p1), (2, .int p2), (3, .int p3), (4, .int p4)], [.long o1.2], (o1.1 ++ R), 0, 0)
  refine mB_run odX0_addPlane 3 (g := (18, [(0, .ref p0), (1, .int p1), (2, .int p2), (3, .int p3), (4, .int p4)], [.long (if 0 ≤ p3 then p3 else 0 - p3).toInt64, .long o1.2], (o1.1 ++ R), 0, 0)) rfl ?_
  obtain ⟨o3, e4, hq⟩ := bsm hq
  refine mB_NS (as := [.long o1.2, .long (if 0 ≤ p3 then p3 else 0 - p3).toInt64]) odX0_addPlane okX6_divisor lk_0_63 rfl (eaX6_divisor e4) rfl rfl rfl ?_
  show mB _ mX0_addPlane (21, [(0, .ref p0), (1, .int p1), (2, .int p2), (3, .int p3), (4, .int p4)], [.long o3.2], (o3.1 ++ R), 0, 0)
  refine mB_run odX0_addPlane 3 (g := (26, [(5, .int o3.2.toInt32), (0, .ref p0), (1, .int p1), (2, .int p2), (3, .int p3), (4, .int p4)], [.int o3.2.toInt32], (o3.1 ++ R), 0, 0)) rfl ?_
  by_cases c5 : o3.2.toInt32 = 0
  · rw [if_pos c5] at hq
    refine if_eq_T (t := 38) odX0_addPlane rfl rfl c5 ?_
    cases hq
    exact mB_ret odX0_addPlane rfl
  · rw [if_neg c5] at hq
    refine if_eq_F (t := 38) odX0_addPlane rfl rfl c5 ?_
    refine mB_run odX0_addPlane 1 (g := (30, [(5, .int o3.2.toInt32), (0, .ref p0), (1, .int p1), (2, .int p2), (3, .int p3), (4, .int p4)], [.ref p0], (o3.1 ++ R), 0, 0)) rfl ?_
    obtain ⟨v6, e7, hq⟩ := bsm hq
    refine r_gI odX0_addPlane rfl rfl (gI_ap e7) ?_
    refine mB_run odX0_addPlane 1 (g := (35, [(5, .int o3.2.toInt32), (0, .ref p0), (1, .int p1), (2, .int p2), (3, .int p3), (4, .int p4)], [.int (44 : Int32), .int v6], (o3.1 ++ R), 0, 0)) rfl ?_
    by_cases c8 : v6 < (44 : Int32)
    · rw [if_pos c8] at hq
      refine ic_lt_T (t := 39) odX0_addPlane rfl rfl c8 ?_
      refine mB_run odX0_addPlane 2 (g := (42, [(6, .int (0 : Int32)), (5, .int o3.2.toInt32), (0, .ref p0), (1, .int p1), (2, .int p2), (3, .int p3), (4, .int p4)], [], (o3.1 ++ R), 0, 0)) rfl ?_
      refine mB_lv [2, 3, 4, 5, 6, 1, 0] (lv' := [(0, .ref p0), (1, .int p1), (2, .int p2), (3, .int p3), (4, .int p4), (5, .int o3.2.toInt32), (6, .int (0 : Int32))]) rfl ?_
      exact eaX0_addPlane_42 N _ _ _ _ _ _ _ _ hq
    · rw [if_neg c8] at hq
      refine ic_lt_F (t := 39) odX0_addPlane rfl rfl c8 ?_
      cases hq
      exact mB_ret odX0_addPlane rfl
def fxX0_excess (N : Nat) (p0 : Nat) (p1 : Int32) (p2 : Int64) (p3 : Int64) (p4 : Int64) (p5 : Int64) (h : mh) : Option (mh × Int64) :=
  (gR h p0 0 3).bind fun v1 =>
  (aI h v1 ((4 : Int32) * p1)).bind fun v3 =>
  (gR h p0 0 3).bind fun v5 =>
  (aI h v5 (((4 : Int32) * p1) + (1 : Int32))).bind fun v7 =>
  (gR h p0 0 3).bind fun v9 =>
  (aI h v9 (((4 : Int32) * p1) + (2 : Int32))).bind fun v11 =>
  (gR h p0 0 3).bind fun v13 =>
  (aI h v13 (((4 : Int32) * p1) + (3 : Int32))).bind fun v15 =>
  some (h, ((((v3.toInt64 * p2) + (v7.toInt64 * p3)) + (v11.toInt64 * p4)) - (v15.toInt64 * p5)))
set_option maxHeartbeats 4000000 in
set_option maxRecDepth 100000 in
theorem eaX0_excess {N : Nat} {R : mh} {p0 : Nat} {p1 : Int32} {p2 : Int64} {p3 : Int64} {p4 : Int64} {p5 : Int64} {h : mh} {o : (mh × Int64)} (hq : fxX0_excess N p0 p1 p2 p3 p4 p5 h = some o) : mC mX0_excess [.ref p0, .int p1, .long p2, .long p3, .long p4, .long p5] (h ++ R) (o.1 ++ R, some (.long o.2)) := by
  refine mC_of okX0_excess (Nat.le_of_ble_eq_true rfl) ?_
  unfold fxX0_excess at hq
  show mB _ mX0_excess (0, [(0, .ref p0), (1, .int p1), (2, .long p2), (4, .long p3), (6, .long p4), (8, .long p5)], [], (h ++ R), 0, 0)
  refine mB_run odX0_excess 1 (g := (1, [(0, .ref p0), (1, .int p1), (2, .long p2), (4, .long p3), (6, .long p4), (8, .long p5)], [.ref p0], (h ++ R), 0, 0)) rfl ?_
  obtain ⟨v1, e2, hq⟩ := bsm hq
  refine r_gR odX0_excess rfl rfl (gR_ap e2) ?_
  refine mB_run odX0_excess 3 (g := (7, [(0, .ref p0), (1, .int p1), (2, .long p2), (4, .long p3), (6, .long p4), (8, .long p5)], [.int ((4 : Int32) * p1), .ref v1], (h ++ R), 0, 0)) rfl ?_
  obtain ⟨v3, e4, hq⟩ := bsm hq
  refine r_aI odX0_excess rfl (aI_ap e4) ?_
  refine mB_run odX0_excess 4 (g := (12, [(0, .ref p0), (1, .int p1), (2, .long p2), (4, .long p3), (6, .long p4), (8, .long p5)], [.ref p0, .long (v3.toInt64 * p2)], (h ++ R), 0, 0)) rfl ?_
  obtain ⟨v5, e6, hq⟩ := bsm hq
  refine r_gR odX0_excess rfl rfl (gR_ap e6) ?_
  refine mB_run odX0_excess 5 (g := (20, [(0, .ref p0), (1, .int p1), (2, .long p2), (4, .long p3), (6, .long p4), (8, .long p5)], [.int (((4 : Int32) * p1) + (1 : Int32)), .ref v5, .long (v3.toInt64 * p2)], (h ++ R), 0, 0)) rfl ?_
  obtain ⟨v7, e8, hq⟩ := bsm hq
  refine r_aI odX0_excess rfl (aI_ap e8) ?_
  refine mB_run odX0_excess 5 (g := (27, [(0, .ref p0), (1, .int p1), (2, .long p2), (4, .long p3), (6, .long p4), (8, .long p5)], [.ref p0, .long ((v3.toInt64 * p2) + (v7.toInt64 * p3))], (h ++ R), 0, 0)) rfl ?_
  obtain ⟨v9, e10, hq⟩ := bsm hq
  refine r_gR odX0_excess rfl rfl (gR_ap e10) ?_
  refine mB_run odX0_excess 5 (g := (35, [(0, .ref p0), (1, .int p1), (2, .long p2), (4, .long p3), (6, .long p4), (8, .long p5)], [.int (((4 : Int32) * p1) + (2 : Int32)), .ref v9, .long ((v3.toInt64 * p2) + (v7.toInt64 * p3))], (h ++ R), 0, 0)) rfl ?_
  obtain ⟨v11, e12, hq⟩ := bsm hq
  refine r_aI odX0_excess rfl (aI_ap e12) ?_
  refine mB_run odX0_excess 5 (g := (42, [(0, .ref p0), (1, .int p1), (2, .long p2), (4, .long p3), (6, .long p4), (8, .long p5)], [.ref p0, .long (((v3.toInt64 * p2) + (v7.toInt64 * p3)) + (v11.toInt64 * p4))], (h ++ R), 0, 0)) rfl ?_
  obtain ⟨v13, e14, hq⟩ := bsm hq
  refine r_gR odX0_excess rfl rfl (gR_ap e14) ?_
  refine mB_run odX0_excess 5 (g := (50, [(0, .ref p0), (1, .int p1), (2, .long p2), (4, .long p3), (6, .long p4), (8, .long p5)], [.int (((4 : Int32) * p1) + (3 : Int32)), .ref v13, .long (((v3.toInt64 * p2) + (v7.toInt64 * p3)) + (v11.toInt64 * p4))], (h ++ R), 0, 0)) rfl ?_
  obtain ⟨v15, e16, hq⟩ := bsm hq
  refine r_aI odX0_excess rfl (aI_ap e16) ?_
  refine mB_run odX0_excess 4 (g := (56, [(0, .ref p0), (1, .int p1), (2, .long p2), (4, .long p3), (6, .long p4), (8, .long p5)], [.long ((((v3.toInt64 * p2) + (v7.toInt64 * p3)) + (v11.toInt64 * p4)) - (v15.toInt64 * p5))], (h ++ R), 0, 0)) rfl ?_
  cases hq
  exact mB_ret odX0_excess rfl
def fxX3_acrossX (N : Nat) (p0 : Nat) (p1 : Int32) (p2 : Int32) (p3 : Int32) (h : mh) : Option (mh × Int64) :=
  (gR h p0 3 2).bind fun v1 =>
  (aI h v1 p2).bind fun v3 =>
  (gR h p0 3 2).bind fun v5 =>
  (aI h v5 p1).bind fun v7 =>
  (gR h p0 3 3).bind fun v9 =>
  (aI h v9 p3).bind fun v11 =>
  (gR h p0 3 3).bind fun v13 =>
  (aI h v13 p1).bind fun v15 =>
  (gR h p0 3 3).bind fun v17 =>
  (aI h v17 p2).bind fun v19 =>
  (gR h p0 3 3).bind fun v21 =>
  (aI h v21 p1).bind fun v23 =>
  (gR h p0 3 2).bind fun v25 =>
  (aI h v25 p3).bind fun v27 =>
  (gR h p0 3 2).bind fun v29 =>
  (aI h v29 p1).bind fun v31 =>
  some (h, (((v3 - v7).toInt64 * (v11 - v15).toInt64) - ((v19 - v23).toInt64 * (v27 - v31).toInt64)))
set_option maxHeartbeats 4000000 in
set_option maxRecDepth 100000 in
theorem eaX3_acrossX {N : Nat} {R : mh} {p0 : Nat} {p1 : Int32} {p2 : Int32} {p3 : Int32} {h : mh} {o : (mh × Int64)} (hq : fxX3_acrossX N p0 p1 p2 p3 h = some o) : mC mX3_acrossX [.ref p0, .int p1, .int p2, .int p3] (h ++ R) (o.1 ++ R, some (.long o.2)) := by
  refine mC_of okX3_acrossX (Nat.le_of_ble_eq_true rfl) ?_
  unfold fxX3_acrossX at hq
  show mB _ mX3_acrossX (0, [(0, .ref p0), (1, .int p1), (2, .int p2), (3, .int p3)], [], (h ++ R), 0, 0)
  refine mB_run odX3_acrossX 1 (g := (1, [(0, .ref p0), (1, .int p1), (2, .int p2), (3, .int p3)], [.ref p0], (h ++ R), 0, 0)) rfl ?_
  obtain ⟨v1, e2, hq⟩ := bsm hq
  refine r_gR odX3_acrossX rfl rfl (gR_ap e2) ?_
  refine mB_run odX3_acrossX 1 (g := (5, [(0, .ref p0), (1, .int p1), (2, .int p2), (3, .int p3)], [.int p2, .ref v1], (h ++ R), 0, 0)) rfl ?_
  obtain ⟨v3, e4, hq⟩ := bsm hq
  refine r_aI odX3_acrossX rfl (aI_ap e4) ?_
  refine mB_run odX3_acrossX 1 (g := (7, [(0, .ref p0), (1, .int p1), (2, .int p2), (3, .int p3)], [.ref p0, .int v3], (h ++ R), 0, 0)) rfl ?_
  obtain ⟨v5, e6, hq⟩ := bsm hq
  refine r_gR odX3_acrossX rfl rfl (gR_ap e6) ?_
  refine mB_run odX3_acrossX 1 (g := (11, [(0, .ref p0), (1, .int p1), (2, .int p2), (3, .int p3)], [.int p1, .ref v5, .int v3], (h ++ R), 0, 0)) rfl ?_
  obtain ⟨v7, e8, hq⟩ := bsm hq
  refine r_aI odX3_acrossX rfl (aI_ap e8) ?_
  refine mB_run odX3_acrossX 3 (g := (15, [(0, .ref p0), (1, .int p1), (2, .int p2), (3, .int p3)], [.ref p0, .long (v3 - v7).toInt64], (h ++ R), 0, 0)) rfl ?_
  obtain ⟨v9, e10, hq⟩ := bsm hq
  refine r_gR odX3_acrossX rfl rfl (gR_ap e10) ?_
  refine mB_run odX3_acrossX 1 (g := (19, [(0, .ref p0), (1, .int p1), (2, .int p2), (3, .int p3)], [.int p3, .ref v9, .long (v3 - v7).toInt64], (h ++ R), 0, 0)) rfl ?_
  obtain ⟨v11, e12, hq⟩ := bsm hq
  refine r_aI odX3_acrossX rfl (aI_ap e12) ?_
  refine mB_run odX3_acrossX 1 (g := (21, [(0, .ref p0), (1, .int p1), (2, .int p2), (3, .int p3)], [.ref p0, .int v11, .long (v3 - v7).toInt64], (h ++ R), 0, 0)) rfl ?_
  obtain ⟨v13, e14, hq⟩ := bsm hq
  refine r_gR odX3_acrossX rfl rfl (gR_ap e14) ?_
  refine mB_run odX3_acrossX 1 (g := (25, [(0, .ref p0), (1, .int p1), (2, .int p2), (3, .int p3)], [.int p1, .ref v13, .int v11, .long (v3 - v7).toInt64], (h ++ R), 0, 0)) rfl ?_
  obtain ⟨v15, e16, hq⟩ := bsm hq
  refine r_aI odX3_acrossX rfl (aI_ap e16) ?_
  refine mB_run odX3_acrossX 4 (g := (30, [(0, .ref p0), (1, .int p1), (2, .int p2), (3, .int p3)], [.ref p0, .long ((v3 - v7).toInt64 * (v11 - v15).toInt64)], (h ++ R), 0, 0)) rfl ?_
  obtain ⟨v17, e18, hq⟩ := bsm hq
  refine r_gR odX3_acrossX rfl rfl (gR_ap e18) ?_
  refine mB_run odX3_acrossX 1 (g := (34, [(0, .ref p0), (1, .int p1), (2, .int p2), (3, .int p3)], [.int p2, .ref v17, .long ((v3 - v7).toInt64 * (v11 - v15).toInt64)], (h ++ R), 0, 0)) rfl ?_
  obtain ⟨v19, e20, hq⟩ := bsm hq
  refine r_aI odX3_acrossX rfl (aI_ap e20) ?_
  refine mB_run odX3_acrossX 1 (g := (36, [(0, .ref p0), (1, .int p1), (2, .int p2), (3, .int p3)], [.ref p0, .int v19, .long ((v3 - v7).toInt64 * (v11 - v15).toInt64)], (h ++ R), 0, 0)) rfl ?_
  obtain ⟨v21, e22, hq⟩ := bsm hq
  refine r_gR odX3_acrossX rfl rfl (gR_ap e22) ?_
  refine mB_run odX3_acrossX 1 (g := (40, [(0, .ref p0), (1, .int p1), (2, .int p2), (3, .int p3)], [.int p1, .ref v21, .int v19, .long ((v3 - v7).toInt64 * (v11 - v15).toInt64)], (h ++ R), 0, 0)) rfl ?_
  obtain ⟨v23, e24, hq⟩ := bsm hq
  refine r_aI odX3_acrossX rfl (aI_ap e24) ?_
  refine mB_run odX3_acrossX 3 (g := (44, [(0, .ref p0), (1, .int p1), (2, .int p2), (3, .int p3)], [.ref p0, .long (v19 - v23).toInt64, .long ((v3 - v7).toInt64 * (v11 - v15).toInt64)], (h ++ R), 0, 0)) rfl ?_
  obtain ⟨v25, e26, hq⟩ := bsm hq
  refine r_gR odX3_acrossX rfl rfl (gR_ap e26) ?_
  refine mB_run odX3_acrossX 1 (g := (48, [(0, .ref p0), (1, .int p1), (2, .int p2), (3, .int p3)], [.int p3, .ref v25, .long (v19 - v23).toInt64, .long ((v3 - v7).toInt64 * (v11 - v15).toInt64)], (h ++ R), 0, 0)) rfl ?_
  obtain ⟨v27, e28, hq⟩ := bsm hq
  refine r_aI odX3_acrossX rfl (aI_ap e28) ?_
  refine mB_run odX3_acrossX 1 (g := (50, [(0, .ref p0), (1, .int p1), (2, .int p2), (3, .int p3)], [.ref p0, .int v27, .long (v19 - v23).toInt64, .long ((v3 - v7).toInt64 * (v11 - v15).toInt64)], (h ++ R), 0, 0)) rfl ?_
  obtain ⟨v29, e30, hq⟩ := bsm hq
  refine r_gR odX3_acrossX rfl rfl (gR_ap e30) ?_
  refine mB_run odX3_acrossX 1 (g := (54, [(0, .ref p0), (1, .int p1), (2, .int p2), (3, .int p3)], [.int p1, .ref v29, .int v27, .long (v19 - v23).toInt64, .long ((v3 - v7).toInt64 * (v11 - v15).toInt64)], (h ++ R), 0, 0)) rfl ?_
  obtain ⟨v31, e32, hq⟩ := bsm hq
  refine r_aI odX3_acrossX rfl (aI_ap e32) ?_
  refine mB_run odX3_acrossX 4 (g := (59, [(0, .ref p0), (1, .int p1), (2, .int p2), (3, .int p3)], [.long (((v3 - v7).toInt64 * (v11 - v15).toInt64) - ((v19 - v23).toInt64 * (v27 - v31).toInt64))], (h ++ R), 0, 0)) rfl ?_
  cases hq
  exact mB_ret odX3_acrossX rfl
def fxX3_acrossY (N : Nat) (p0 : Nat) (p1 : Int32) (p2 : Int32) (p3 : Int32) (h : mh) : Option (mh × Int64) :=
  (gR h p0 3 3).bind fun v1 =>
  (aI h v1 p2).bind fun v3 =>
  (gR h p0 3 3).bind fun v5 =>
  (aI h v5 p1).bind fun v7 =>
  (gR h p0 3 1).bind fun v9 =>
  (aI h v9 p3).bind fun v11 =>
  (gR h p0 3 1).bind fun v13 =>
  (aI h v13 p1).bind fun v15 =>
  (gR h p0 3 1).bind fun v17 =>
  (aI h v17 p2).bind fun v19 =>
  (gR h p0 3 1).bind fun v21 =>
  (aI h v21 p1).bind fun v23 =>
  (gR h p0 3 3).bind fun v25 =>
  (aI h v25 p3).bind fun v27 =>
  (gR h p0 3 3).bind fun v29 =>
  (aI h v29 p1).bind fun v31 =>
  some (h, (((v3 - v7).toInt64 * (v11 - v15).toInt64) - ((v19 - v23).toInt64 * (v27 - v31).toInt64)))
set_option maxHeartbeats 4000000 in
set_option maxRecDepth 100000 in
theorem eaX3_acrossY {N : Nat} {R : mh} {p0 : Nat} {p1 : Int32} {p2 : Int32} {p3 : Int32} {h : mh} {o : (mh × Int64)} (hq : fxX3_acrossY N p0 p1 p2 p3 h = some o) : mC mX3_acrossY [.ref p0, .int p1, .int p2, .int p3] (h ++ R) (o.1 ++ R, some (.long o.2)) := by
  refine mC_of okX3_acrossY (Nat.le_of_ble_eq_true rfl) ?_
  unfold fxX3_acrossY at hq
  show mB _ mX3_acrossY (0, [(0, .ref p0), (1, .int p1), (2, .int p2), (3, .int p3)], [], (h ++ R), 0, 0)
  refine mB_run odX3_acrossY 1 (g := (1, [(0, .ref p0), (1, .int p1), (2, .int p2), (3, .int p3)], [.ref p0], (h ++ R), 0, 0)) rfl ?_
  obtain ⟨v1, e2, hq⟩ := bsm hq
  refine r_gR odX3_acrossY rfl rfl (gR_ap e2) ?_
  refine mB_run odX3_acrossY 1 (g := (5, [(0, .ref p0), (1, .int p1), (2, .int p2), (3, .int p3)], [.int p2, .ref v1], (h ++ R), 0, 0)) rfl ?_
  obtain ⟨v3, e4, hq⟩ := bsm hq
  refine r_aI odX3_acrossY rfl (aI_ap e4) ?_
  refine mB_run odX3_acrossY 1 (g := (7, [(0, .ref p0), (1, .int p1), (2, .int p2), (3, .int p3)], [.ref p0, .int v3], (h ++ R), 0, 0)) rfl ?_
  obtain ⟨v5, e6, hq⟩ := bsm hq
  refine r_gR odX3_acrossY rfl rfl (gR_ap e6) ?_
  refine mB_run odX3_acrossY 1 (g := (11, [(0, .ref p0), (1, .int p1), (2, .int p2), (3, .int p3)], [.int p1, .ref v5, .int v3], (h ++ R), 0, 0)) rfl ?_
  obtain ⟨v7, e8, hq⟩ := bsm hq
  refine r_aI odX3_acrossY rfl (aI_ap e8) ?_
  refine mB_run odX3_acrossY 3 (g := (15, [(0, .ref p0), (1, .int p1), (2, .int p2), (3, .int p3)], [.ref p0, .long (v3 - v7).toInt64], (h ++ R), 0, 0)) rfl ?_
  obtain ⟨v9, e10, hq⟩ := bsm hq
  refine r_gR odX3_acrossY rfl rfl (gR_ap e10) ?_
  refine mB_run odX3_acrossY 1 (g := (19, [(0, .ref p0), (1, .int p1), (2, .int p2), (3, .int p3)], [.int p3, .ref v9, .long (v3 - v7).toInt64], (h ++ R), 0, 0)) rfl ?_
  obtain ⟨v11, e12, hq⟩ := bsm hq
  refine r_aI odX3_acrossY rfl (aI_ap e12) ?_
  refine mB_run odX3_acrossY 1 (g := (21, [(0, .ref p0), (1, .int p1), (2, .int p2), (3, .int p3)], [.ref p0, .int v11, .long (v3 - v7).toInt64], (h ++ R), 0, 0)) rfl ?_
  obtain ⟨v13, e14, hq⟩ := bsm hq
  refine r_gR odX3_acrossY rfl rfl (gR_ap e14) ?_
  refine mB_run odX3_acrossY 1 (g := (25, [(0, .ref p0), (1, .int p1), (2, .int p2), (3, .int p3)], [.int p1, .ref v13, .int v11, .long (v3 - v7).toInt64], (h ++ R), 0, 0)) rfl ?_
  obtain ⟨v15, e16, hq⟩ := bsm hq
  refine r_aI odX3_acrossY rfl (aI_ap e16) ?_
  refine mB_run odX3_acrossY 4 (g := (30, [(0, .ref p0), (1, .int p1), (2, .int p2), (3, .int p3)], [.ref p0, .long ((v3 - v7).toInt64 * (v11 - v15).toInt64)], (h ++ R), 0, 0)) rfl ?_
  obtain ⟨v17, e18, hq⟩ := bsm hq
  refine r_gR odX3_acrossY rfl rfl (gR_ap e18) ?_
  refine mB_run odX3_acrossY 1 (g := (34, [(0, .ref p0), (1, .int p1), (2, .int p2), (3, .int p3)], [.int p2, .ref v17, .long ((v3 - v7).toInt64 * (v11 - v15).toInt64)], (h ++ R), 0, 0)) rfl ?_
  obtain ⟨v19, e20, hq⟩ := bsm hq
  refine r_aI odX3_acrossY rfl (aI_ap e20) ?_
  refine mB_run odX3_acrossY 1 (g := (36, [(0, .ref p0), (1, .int p1), (2, .int p2), (3, .int p3)], [.ref p0, .int v19, .long ((v3 - v7).toInt64 * (v11 - v15).toInt64)], (h ++ R), 0, 0)) rfl ?_
  obtain ⟨v21, e22, hq⟩ := bsm hq
  refine r_gR odX3_acrossY rfl rfl (gR_ap e22) ?_
  refine mB_run odX3_acrossY 1 (g := (40, [(0, .ref p0), (1, .int p1), (2, .int p2), (3, .int p3)], [.int p1, .ref v21, .int v19, .long ((v3 - v7).toInt64 * (v11 - v15).toInt64)], (h ++ R), 0, 0)) rfl ?_
  obtain ⟨v23, e24, hq⟩ := bsm hq
  refine r_aI odX3_acrossY rfl (aI_ap e24) ?_
  refine mB_run odX3_acrossY 3 (g := (44, [(0, .ref p0), (1, .int p1), (2, .int p2), (3, .int p3)], [.ref p0, .long (v19 - v23).toInt64, .long ((v3 - v7).toInt64 * (v11 - v15).toInt64)], (h ++ R), 0, 0)) rfl ?_
  obtain ⟨v25, e26, hq⟩ := bsm hq
  refine r_gR odX3_acrossY rfl rfl (gR_ap e26) ?_
  refine mB_run odX3_acrossY 1 (g := (48, [(0, .ref p0), (1, .int p1), (2, .int p2), (3, .int p3)], [.int p3, .ref v25, .long (v19 - v23).toInt64, .long ((v3 - v7).toInt64 * (v11 - v15).toInt64)], (h ++ R), 0, 0)) rfl ?_
  obtain ⟨v27, e28, hq⟩ := bsm hq
  refine r_aI odX3_acrossY rfl (aI_ap e28) ?_
  refine mB_run odX3_acrossY 1 (g := (50, [(0, .ref p0), (1, .int p1), (2, .int p2), (3, .int p3)], [.ref p0, .int v27, .long (v19 - v23).toInt64, .long ((v3 - v7).toInt64 * (v11 - v15).toInt64)], (h ++ R), 0, 0)) rfl ?_
  obtain ⟨v29, e30, hq⟩ := bsm hq
  refine r_gR odX3_acrossY rfl rfl (gR_ap e30) ?_
  refine mB_run odX3_acrossY 1 (g := (54, [(0, .ref p0), (1, .int p1), (2, .int p2), (3, .int p3)], [.int p1, .ref v29, .int v27, .long (v19 - v23).toInt64, .long ((v3 - v7).toInt64 * (v11 - v15).toInt64)], (h ++ R), 0, 0)) rfl ?_
  obtain ⟨v31, e32, hq⟩ := bsm hq
  refine r_aI odX3_acrossY rfl (aI_ap e32) ?_
  refine mB_run odX3_acrossY 4 (g := (59, [(0, .ref p0), (1, .int p1), (2, .int p2), (3, .int p3)], [.long (((v3 - v7).toInt64 * (v11 - v15).toInt64) - ((v19 - v23).toInt64 * (v27 - v31).toInt64))], (h ++ R), 0, 0)) rfl ?_
  cases hq
  exact mB_ret odX3_acrossY rfl
def fxX3_acrossZ (N : Nat) (p0 : Nat) (p1 : Int32) (p2 : Int32) (p3 : Int32) (h : mh) : Option (mh × Int64) :=
  (gR h p0 3 1).bind fun v1 =>
  (aI h v1 p2).bind fun v3 =>
  (gR h p0 3 1).bind fun v5 =>
  (aI h v5 p1).bind fun v7 =>
  (gR h p0 3 2).bind fun v9 =>
  (aI h v9 p3).bind fun v11 =>
  (gR h p0 3 2).bind fun v13 =>
  (aI h v13 p1).bind fun v15 =>
  (gR h p0 3 2).bind fun v17 =>
  (aI h v17 p2).bind fun v19 =>
  (gR h p0 3 2).bind fun v21 =>
  (aI h v21 p1).bind fun v23 =>
  (gR h p0 3 1).bind fun v25 =>
  (aI h v25 p3).bind fun v27 =>
  (gR h p0 3 1).bind fun v29 =>
  (aI h v29 p1).bind fun v31 =>
  some (h, (((v3 - v7).toInt64 * (v11 - v15).toInt64) - ((v19 - v23).toInt64 * (v27 - v31).toInt64)))
set_option maxHeartbeats 4000000 in
set_option maxRecDepth 100000 in
theorem eaX3_acrossZ {N : Nat} {R : mh} {p0 : Nat} {p1 : Int32} {p2 : Int32} {p3 : Int32} {h : mh} {o : (mh × Int64)} (hq : fxX3_acrossZ N p0 p1 p2 p3 h = some o) : mC mX3_acrossZ [.ref p0, .int p1, .int p2, .int p3] (h ++ R) (o.1 ++ R, some (.long o.2)) := by
  refine mC_of okX3_acrossZ (Nat.le_of_ble_eq_true rfl) ?_
  unfold fxX3_acrossZ at hq
  show mB _ mX3_acrossZ (0, [(0, .ref p0), (1, .int p1), (2, .int p2), (3, .int p3)], [], (h ++ R), 0, 0)
  refine mB_run odX3_acrossZ 1 (g := (1, [(0, .ref p0), (1, .int p1), (2, .int p2), (3, .int p3)], [.ref p0], (h ++ R), 0, 0)) rfl ?_
  obtain ⟨v1, e2, hq⟩ := bsm hq
  refine r_gR odX3_acrossZ rfl rfl (gR_ap e2) ?_
  refine mB_run odX3_acrossZ 1 (g := (5, [(0, .ref p0), (1, .int p1), (2, .int p2), (3, .int p3)], [.int p2, .ref v1], (h ++ R), 0, 0)) rfl ?_
  obtain ⟨v3, e4, hq⟩ := bsm hq
  refine r_aI odX3_acrossZ rfl (aI_ap e4) ?_
  refine mB_run odX3_acrossZ 1 (g := (7, [(0, .ref p0), (1, .int p1), (2, .int p2), (3, .int p3)], [.ref p0, .int v3], (h ++ R), 0, 0)) rfl ?_
  obtain ⟨v5, e6, hq⟩ := bsm hq
  refine r_gR odX3_acrossZ rfl rfl (gR_ap e6) ?_
  refine mB_run odX3_acrossZ 1 (g := (11, [(0, .ref p0), (1, .int p1), (2, .int p2), (3, .int p3)], [.int p1, .ref v5, .int v3], (h ++ R), 0, 0)) rfl ?_
  obtain ⟨v7, e8, hq⟩ := bsm hq
  refine r_aI odX3_acrossZ rfl (aI_ap e8) ?_
  refine mB_run odX3_acrossZ 3 (g := (15, [(0, .ref p0), (1, .int p1), (2, .int p2), (3, .int p3)], [.ref p0, .long (v3 - v7).toInt64], (h ++ R), 0, 0)) rfl ?_
  obtain ⟨v9, e10, hq⟩ := bsm hq
  refine r_gR odX3_acrossZ rfl rfl (gR_ap e10) ?_
  refine mB_run odX3_acrossZ 1 (g := (19, [(0, .ref p0), (1, .int p1), (2, .int p2), (3, .int p3)], [.int p3, .ref v9, .long (v3 - v7).toInt64], (h ++ R), 0, 0)) rfl ?_
  obtain ⟨v11, e12, hq⟩ := bsm hq
  refine r_aI odX3_acrossZ rfl (aI_ap e12) ?_
  refine mB_run odX3_acrossZ 1 (g := (21, [(0, .ref p0), (1, .int p1), (2, .int p2), (3, .int p3)], [.ref p0, .int v11, .long (v3 - v7).toInt64], (h ++ R), 0, 0)) rfl ?_
  obtain ⟨v13, e14, hq⟩ := bsm hq
  refine r_gR odX3_acrossZ rfl rfl (gR_ap e14) ?_
  refine mB_run odX3_acrossZ 1 (g := (25, [(0, .ref p0), (1, .int p1), (2, .int p2), (3, .int p3)], [.int p1, .ref v13, .int v11, .long (v3 - v7).toInt64], (h ++ R), 0, 0)) rfl ?_
  obtain ⟨v15, e16, hq⟩ := bsm hq
  refine r_aI odX3_acrossZ rfl (aI_ap e16) ?_
  refine mB_run odX3_acrossZ 4 (g := (30, [(0, .ref p0), (1, .int p1), (2, .int p2), (3, .int p3)], [.ref p0, .long ((v3 - v7).toInt64 * (v11 - v15).toInt64)], (h ++ R), 0, 0)) rfl ?_
  obtain ⟨v17, e18, hq⟩ := bsm hq
  refine r_gR odX3_acrossZ rfl rfl (gR_ap e18) ?_
  refine mB_run odX3_acrossZ 1 (g := (34, [(0, .ref p0), (1, .int p1), (2, .int p2), (3, .int p3)], [.int p2, .ref v17, .long ((v3 - v7).toInt64 * (v11 - v15).toInt64)], (h ++ R), 0, 0)) rfl ?_
  obtain ⟨v19, e20, hq⟩ := bsm hq
  refine r_aI odX3_acrossZ rfl (aI_ap e20) ?_
  refine mB_run odX3_acrossZ 1 (g := (36, [(0, .ref p0), (1, .int p1), (2, .int p2), (3, .int p3)], [.ref p0, .int v19, .long ((v3 - v7).toInt64 * (v11 - v15).toInt64)], (h ++ R), 0, 0)) rfl ?_
  obtain ⟨v21, e22, hq⟩ := bsm hq
  refine r_gR odX3_acrossZ rfl rfl (gR_ap e22) ?_
  refine mB_run odX3_acrossZ 1 (g := (40, [(0, .ref p0), (1, .int p1), (2, .int p2), (3, .int p3)], [.int p1, .ref v21, .int v19, .long ((v3 - v7).toInt64 * (v11 - v15).toInt64)], (h ++ R), 0, 0)) rfl ?_
  obtain ⟨v23, e24, hq⟩ := bsm hq
  refine r_aI odX3_acrossZ rfl (aI_ap e24) ?_
  refine mB_run odX3_acrossZ 3 (g := (44, [(0, .ref p0), (1, .int p1), (2, .int p2), (3, .int p3)], [.ref p0, .long (v19 - v23).toInt64, .long ((v3 - v7).toInt64 * (v11 - v15).toInt64)], (h ++ R), 0, 0)) rfl ?_
  obtain ⟨v25, e26, hq⟩ := bsm hq
  refine r_gR odX3_acrossZ rfl rfl (gR_ap e26) ?_
  refine mB_run odX3_acrossZ 1 (g := (48, [(0, .ref p0), (1, .int p1), (2, .int p2), (3, .int p3)], [.int p3, .ref v25, .long (v19 - v23).toInt64, .long ((v3 - v7).toInt64 * (v11 - v15).toInt64)], (h ++ R), 0, 0)) rfl ?_
  obtain ⟨v27, e28, hq⟩ := bsm hq
  refine r_aI odX3_acrossZ rfl (aI_ap e28) ?_
  refine mB_run odX3_acrossZ 1 (g := (50, [(0, .ref p0), (1, .int p1), (2, .int p2), (3, .int p3)], [.ref p0, .int v27, .long (v19 - v23).toInt64, .long ((v3 - v7).toInt64 * (v11 - v15).toInt64)], (h ++ R), 0, 0)) rfl ?_
  obtain ⟨v29, e30, hq⟩ := bsm hq
  refine r_gR odX3_acrossZ rfl rfl (gR_ap e30) ?_
  refine mB_run odX3_acrossZ 1 (g := (54, [(0, .ref p0), (1, .int p1), (2, .int p2), (3, .int p3)], [.int p1, .ref v29, .int v27, .long (v19 - v23).toInt64, .long ((v3 - v7).toInt64 * (v11 - v15).toInt64)], (h ++ R), 0, 0)) rfl ?_
  obtain ⟨v31, e32, hq⟩ := bsm hq
  refine r_aI odX3_acrossZ rfl (aI_ap e32) ?_
  refine mB_run odX3_acrossZ 4 (g := (59, [(0, .ref p0), (1, .int p1), (2, .int p2), (3, .int p3)], [.long (((v3 - v7).toInt64 * (v11 - v15).toInt64) - ((v19 - v23).toInt64 * (v27 - v31).toInt64))], (h ++ R), 0, 0)) rfl ?_
  cases hq
  exact mB_ret odX3_acrossZ rfl
def fxX0_facing (N : Nat) (p0 : Nat) (p1 : Int32) (p2 : Int32) (p3 : Int32) (p4 : Int32) (h : mh) : Option (mh × Int64) :=
  (gR h p0 0 3).bind fun v1 =>
  (aI h v1 ((4 : Int32) * p1)).bind fun v3 =>
  (gR h p0 0 1).bind fun v5 =>
  (kO h v5 3).bind fun f9 =>
  (fxX3_acrossX N v5 p2 p3 p4 h).bind fun o7 =>
  (gR o7.1 p0 0 3).bind fun v11 =>
  (aI o7.1 v11 (((4 : Int32) * p1) + (1 : Int32))).bind fun v13 =>
  (gR o7.1 p0 0 1).bind fun v15 =>
  (kO o7.1 v15 3).bind fun f19 =>
  (fxX3_acrossY N v15 p2 p3 p4 o7.1).bind fun o17 =>
  (gR o17.1 p0 0 3).bind fun v21 =>
  (aI o17.1 v21 (((4 : Int32) * p1) + (2 : Int32))).bind fun v23 =>
  (gR o17.1 p0 0 1).bind fun v25 =>
  (kO o17.1 v25 3).bind fun f29 =>
  (fxX3_acrossZ N v25 p2 p3 p4 o17.1).bind fun o27 =>
  some (o27.1, (((v3.toInt64 * o7.2) + (v13.toInt64 * o17.2)) + (v23.toInt64 * o27.2)))
set_option maxHeartbeats 4000000 in
set_option maxRecDepth 100000 in
theorem eaX0_facing {N : Nat} {R : mh} {p0 : Nat} {p1 : Int32} {p2 : Int32} {p3 : Int32} {p4 : Int32} {h : mh} {o : (mh × Int64)} (hq : fxX0_facing N p0 p1 p2 p3 p4 h = some o) : mC mX0_facing [.ref p0, .int p1, .int p2, .int p3, .int p4] (h ++ R) (o.1 ++ R, some (.long o.2)) := by
  refine mC_of okX0_facing (Nat.le_of_ble_eq_true rfl) ?_
  unfold fxX0_facing at hq
  show mB _ mX0_facing (0, [(0, .ref p0), (1, .int p1), (2, .int p2), (3, .int p3), (4, .int p4)], [], (h ++ R), 0, 0)
  refine mB_run odX0_facing 1 (g := (1, [(0, .ref p0), (1, .int p1), (2, .int p2), (3, .int p3), (4, .int p4)], [.ref p0], (h ++ R), 0, 0)) rfl ?_
  obtain ⟨v1, e2, hq⟩ := bsm hq
  refine r_gR odX0_facing rfl rfl (gR_ap e2) ?_
  refine mB_run odX0_facing 3 (g := (7, [(0, .ref p0), (1, .int p1), (2, .int p2), (3, .int p3), (4, .int p4)], [.int ((4 : Int32) * p1), .ref v1], (h ++ R), 0, 0)) rfl ?_
  obtain ⟨v3, e4, hq⟩ := bsm hq
  refine r_aI odX0_facing rfl (aI_ap e4) ?_
  refine mB_run odX0_facing 2 (g := (10, [(0, .ref p0), (1, .int p1), (2, .int p2), (3, .int p3), (4, .int p4)], [.ref p0, .long v3.toInt64], (h ++ R), 0, 0)) rfl ?_
  obtain ⟨v5, e6, hq⟩ := bsm hq
  refine r_gR odX0_facing rfl rfl (gR_ap e6) ?_
  refine mB_run odX0_facing 3 (g := (17, [(0, .ref p0), (1, .int p1), (2, .int p2), (3, .int p3), (4, .int p4)], [.int p4, .int p3, .int p2, .ref v5, .long v3.toInt64], (h ++ R), 0, 0)) rfl ?_
  obtain ⟨f9, k10, hq⟩ := bsm hq
  obtain ⟨o7, e8, hq⟩ := bsm hq
  refine mB_V (as := [.int p2, .int p3, .int p4]) odX0_facing okX3_acrossX lk_0_106 rfl (eaX3_acrossX e8) (kO_at (kO_ap k10)) rfl rfl rfl ?_
  show mB _ mX0_facing (20, [(0, .ref p0), (1, .int p1), (2, .int p2), (3, .int p3), (4, .int p4)], [.long o7.2, .long v3.toInt64], (o7.1 ++ R), 0, 0)
  refine mB_run odX0_facing 2 (g := (22, [(0, .ref p0), (1, .int p1), (2, .int p2), (3, .int p3), (4, .int p4)], [.ref p0, .long (v3.toInt64 * o7.2)], (o7.1 ++ R), 0, 0)) rfl ?_
  obtain ⟨v11, e12, hq⟩ := bsm hq
  refine r_gR odX0_facing rfl rfl (gR_ap e12) ?_
  refine mB_run odX0_facing 5 (g := (30, [(0, .ref p0), (1, .int p1), (2, .int p2), (3, .int p3), (4, .int p4)], [.int (((4 : Int32) * p1) + (1 : Int32)), .ref v11, .long (v3.toInt64 * o7.2)], (o7.1 ++ R), 0, 0)) rfl ?_
  obtain ⟨v13, e14, hq⟩ := bsm hq
  refine r_aI odX0_facing rfl (aI_ap e14) ?_
  refine mB_run odX0_facing 2 (g := (33, [(0, .ref p0), (1, .int p1), (2, .int p2), (3, .int p3), (4, .int p4)], [.ref p0, .long v13.toInt64, .long (v3.toInt64 * o7.2)], (o7.1 ++ R), 0, 0)) rfl ?_
  obtain ⟨v15, e16, hq⟩ := bsm hq
  refine r_gR odX0_facing rfl rfl (gR_ap e16) ?_
  refine mB_run odX0_facing 3 (g := (40, [(0, .ref p0), (1, .int p1), (2, .int p2), (3, .int p3), (4, .int p4)], [.int p4, .int p3, .int p2, .ref v15, .long v13.toInt64, .long (v3.toInt64 * o7.2)], (o7.1 ++ R), 0, 0)) rfl ?_
  obtain ⟨f19, k20, hq⟩ := bsm hq
  obtain ⟨o17, e18, hq⟩ := bsm hq
  refine mB_V (as := [.int p2, .int p3, .int p4]) odX0_facing okX3_acrossY lk_0_110 rfl (eaX3_acrossY e18) (kO_at (kO_ap k20)) rfl rfl rfl ?_
  show mB _ mX0_facing (43, [(0, .ref p0), (1, .int p1), (2, .int p2), (3, .int p3), (4, .int p4)], [.long o17.2, .long v13.toInt64, .long (v3.toInt64 * o7.2)], (o17.1 ++ R), 0, 0)
  refine mB_run odX0_facing 3 (g := (46, [(0, .ref p0), (1, .int p1), (2, .int p2), (3, .int p3), (4, .int p4)], [.ref p0, .long ((v3.toInt64 * o7.2) + (v13.toInt64 * o17.2))], (o17.1 ++ R), 0, 0)) rfl ?_
  obtain ⟨v21, e22, hq⟩ := bsm hq
  refine r_gR odX0_facing rfl rfl (gR_ap e22) ?_
  refine mB_run odX0_facing 5 (g := (54, [(0, .ref p0), (1, .int p1), (2, .int p2), (3, .int p3), (4, .int p4)], [.int (((4 : Int32) * p1) + (2 : Int32)), .ref v21, .long ((v3.toInt64 * o7.2) + (v13.toInt64 * o17.2))], (o17.1 ++ R), 0, 0)) rfl ?_
  obtain ⟨v23, e24, hq⟩ := bsm hq
  refine r_aI odX0_facing rfl (aI_ap e24) ?_
  refine mB_run odX0_facing 2 (g := (57, [(0, .ref p0), (1, .int p1), (2, .int p2), (3, .int p3), (4, .int p4)], [.ref p0, .long v23.toInt64, .long ((v3.toInt64 * o7.2) + (v13.toInt64 * o17.2))], (o17.1 ++ R), 0, 0)) rfl ?_
  obtain ⟨v25, e26, hq⟩ := bsm hq
  refine r_gR odX0_facing rfl rfl (gR_ap e26) ?_
  refine mB_run odX0_facing 3 (g := (64, [(0, .ref p0), (1, .int p1), (2, .int p2), (3, .int p3), (4, .int p4)], [.int p4, .int p3, .int p2, .ref v25, .long v23.toInt64, .long ((v3.toInt64 * o7.2) + (v13.toInt64 * o17.2))], (o17.1 ++ R), 0, 0)) rfl ?_
  obtain ⟨f29, k30, hq⟩ := bsm hq
  obtain ⟨o27, e28, hq⟩ := bsm hq
  refine mB_V (as := [.int p2, .int p3, .int p4]) odX0_facing okX3_acrossZ lk_0_113 rfl (eaX3_acrossZ e28) (kO_at (kO_ap k30)) rfl rfl rfl ?_
  show mB _ mX0_facing (67, [(0, .ref p0), (1, .int p1), (2, .int p2), (3, .int p3), (4, .int p4)], [.long o27.2, .long v23.toInt64, .long ((v3.toInt64 * o7.2) + (v13.toInt64 * o17.2))], (o27.1 ++ R), 0, 0)
  refine mB_run odX0_facing 2 (g := (69, [(0, .ref p0), (1, .int p1), (2, .int p2), (3, .int p3), (4, .int p4)], [.long (((v3.toInt64 * o7.2) + (v13.toInt64 * o17.2)) + (v23.toInt64 * o27.2))], (o27.1 ++ R), 0, 0)) rfl ?_
  cases hq
  exact mB_ret odX0_facing rfl
def fxX0_layRing_81 (N : Nat) (rec5 : Nat → Int32 → Int32 → Int32 → Int32 → mh → Option (mh × Int32)) (x0 : Nat) (x1 : Int32) (x2 : Int32) (x3 : Int32) (x4 : Int32) (h : mh) : Option (mh × Int32) :=
  rec5 x0 x1 x2 x3 (x4 + (1 : Int32)) h
set_option maxHeartbeats 4000000 in
set_option maxRecDepth 100000 in
theorem eaX0_layRing_81 {N : Nat} {R : mh} {rec5 : Nat → Int32 → Int32 → Int32 → Int32 → mh → Option (mh × Int32)} (hrec5 : ∀ (x0 : Nat) (x1 : Int32) (x2 : Int32) (x3 : Int32) (x4 : Int32) (h : mh) {o : (mh × Int32)}, rec5 x0 x1 x2 x3 x4 h = some o → mB (gO mX0_layRing (o.1 ++ R, some (.int o.2))) mX0_layRing (5, [(0, .ref x0), (1, .int x1), (2, .int x2), (3, .int x3), (4, .int x4)], [], (h ++ R), 0, 0)) (x0 : Nat) (x1 : Int32) (x2 : Int32) (x3 : Int32) (x4 : Int32) (h : mh) {o : (mh × Int32)} (hq : fxX0_layRing_81 N rec5 x0 x1 x2 x3 x4 h = some o) : mB (gO mX0_layRing (o.1 ++ R, some (.int o.2))) mX0_layRing (81, [(0, .ref x0), (1, .int x1), (2, .int x2), (3, .int x3), (4, .int x4)], [], (h ++ R), 0, 0) := by
  unfold fxX0_layRing_81 at hq
  refine mB_run odX0_layRing 2 (g := (5, [(4, .int (x4 + (1 : Int32))), (0, .ref x0), (1, .int x1), (2, .int x2), (3, .int x3)], [], (h ++ R), 0, 0)) rfl ?_
  refine mB_lv [1, 2, 3, 4, 0] (lv' := [(0, .ref x0), (1, .int x1), (2, .int x2), (3, .int x3), (4, .int (x4 + (1 : Int32)))]) rfl ?_
  exact hrec5 _ _ _ _ _ _ hq
def fxX0_layRing_151 (N : Nat) (rec90 : Nat → Int32 → Int32 → Int32 → mh → Option (mh × Int32)) (rec110 : Nat → Int32 → Int32 → Int32 → Int32 → Int32 → mh → Option (mh × Int32)) (x0 : Nat) (x1 : Int32) (x3 : Int32) (x4 : Int32) (x5 : Int32) (x6 : Int32) (h : mh) : Option (mh × Int32) :=
  rec110 x0 x1 x3 x4 x5 (x6 + (1 : Int32)) h
set_option maxHeartbeats 4000000 in
set_option maxRecDepth 100000 in
theorem eaX0_layRing_151 {N : Nat} {R : mh} {rec90 : Nat → Int32 → Int32 → Int32 → mh → Option (mh × Int32)} {rec110 : Nat → Int32 → Int32 → Int32 → Int32 → Int32 → mh → Option (mh × Int32)} (hrec90 : ∀ (x0 : Nat) (x1 : Int32) (x3 : Int32) (x4 : Int32) (h : mh) {o : (mh × Int32)}, rec90 x0 x1 x3 x4 h = some o → mB (gO mX0_layRing (o.1 ++ R, some (.int o.2))) mX0_layRing (90, [(0, .ref x0), (1, .int x1), (3, .int x3), (4, .int x4)], [], (h ++ R), 0, 0)) (hrec110 : ∀ (x0 : Nat) (x1 : Int32) (x3 : Int32) (x4 : Int32) (x5 : Int32) (x6 : Int32) (h : mh) {o : (mh × Int32)}, rec110 x0 x1 x3 x4 x5 x6 h = some o → mB (gO mX0_layRing (o.1 ++ R, some (.int o.2))) mX0_layRing (110, [(0, .ref x0), (1, .int x1), (3, .int x3), (4, .int x4), (5, .int x5), (6, .int x6)], [], (h ++ R), 0, 0)) (x0 : Nat) (x1 : Int32) (x3 : Int32) (x4 : Int32) (x5 : Int32) (x6 : Int32) (h : mh) {o : (mh × Int32)} (hq : fxX0_layRing_151 N rec90 rec110 x0 x1 x3 x4 x5 x6 h = some o) : mB (gO mX0_layRing (o.1 ++ R, some (.int o.2))) mX0_layRing (151, [(0, .ref x0), (1, .int x1), (3, .int x3), (4, .int x4), (5, .int x5), (6, .int x6)], [], (h ++ R), 0, 0) := by
  unfold fxX0_layRing_151 at hq
  refine mB_run odX0_layRing 2 (g := (110, [(6, .int (x6 + (1 : Int32))), (0, .ref x0), (1, .int x1), (3, .int x3), (4, .int x4), (5, .int x5)], [], (h ++ R), 0, 0)) rfl ?_
  refine mB_lv [1, 2, 3, 4, 5, 0] (lv' := [(0, .ref x0), (1, .int x1), (3, .int x3), (4, .int x4), (5, .int x5), (6, .int (x6 + (1 : Int32)))]) rfl ?_
  exact hrec110 _ _ _ _ _ _ _ hq
def fxX0_layRing_110 (N : Nat) (rec90 : Nat → Int32 → Int32 → Int32 → mh → Option (mh × Int32)) : Nat → Nat → Int32 → Int32 → Int32 → Int32 → Int32 → mh → Option (mh × Int32)
  | 0, _, _, _, _, _, _, _ => none
  | n + 1, x0, x1, x3, x4, x5, x6, h =>
    if x3 ≤ x6 then (
      (gR h x0 0 5).bind fun v40 =>
      (aI h v40 (x4 + (1 : Int32))).bind fun v42 =>
      (gR h x0 0 5).bind fun v44 =>
      (gR h x0 0 5).bind fun v46 =>
      (aI h v46 x5).bind fun v48 =>
      (wI h v44 (x4 + (1 : Int32)) v48).bind fun h50 =>
      (gR h50 x0 0 5).bind fun v52 =>
      (wI h50 v52 x5 v42).bind fun h54 =>
      rec90 x0 x1 x3 (x4 + (1 : Int32)) h54) else (
      (gR h x0 0 5).bind fun v56 =>
      (aI h v56 x4).bind fun v58 =>
      (gR h x0 0 5).bind fun v60 =>
      (aI h v60 x5).bind fun v62 =>
      (gR h x0 0 5).bind fun v64 =>
      (aI h v64 x6).bind fun v66 =>
      (kO h x0 0).bind fun f70 =>
      (fxX0_facing N x0 x1 v58 v62 v66 h).bind fun o68 =>
      if (0 : Int64) ≤ o68.2 then (
        fxX0_layRing_151 N rec90 (fxX0_layRing_110 N rec90 n) x0 x1 x3 x4 x5 x6 o68.1) else (
        fxX0_layRing_151 N rec90 (fxX0_layRing_110 N rec90 n) x0 x1 x3 x4 x6 x6 o68.1))
set_option maxHeartbeats 4000000 in
set_option maxRecDepth 100000 in
theorem eaX0_layRing_110 {N : Nat} {R : mh} {rec90 : Nat → Int32 → Int32 → Int32 → mh → Option (mh × Int32)} (hrec90 : ∀ (x0 : Nat) (x1 : Int32) (x3 : Int32) (x4 : Int32) (h : mh) {o : (mh × Int32)}, rec90 x0 x1 x3 x4 h = some o → mB (gO mX0_layRing (o.1 ++ R, some (.int o.2))) mX0_layRing (90, [(0, .ref x0), (1, .int x1), (3, .int x3), (4, .int x4)], [], (h ++ R), 0, 0)) : ∀ (n : Nat) (x0 : Nat) (x1 : Int32) (x3 : Int32) (x4 : Int32) (x5 : Int32) (x6 : Int32) (h : mh) {o : (mh × Int32)}, fxX0_layRing_110 N rec90 n x0 x1 x3 x4 x5 x6 h = some o → mB (gO mX0_layRing (o.1 ++ R, some (.int o.2))) mX0_layRing (110, [(0, .ref x0), (1, .int x1), (3, .int x3), (4, .int x4), (5, .int x5), (6, .int x6)], [], (h ++ R), 0, 0) := by
  intro n
  induction n with
  | zero => intro x0 x1 x3 x4 x5 x6 h o hq; cases hq
  | succ n ih =>
    intro x0 x1 x3 x4 x5 x6 h o hq
    unfold fxX0_layRing_110 at hq
    refine mB_run odX0_layRing 2 (g := (113, [(0, .ref x0), (1, .int x1), (3, .int x3), (4, .int x4), (5, .int x5), (6, .int x6)], [.int x3, .int x6], (h ++ R), 0, 0)) rfl ?_
    by_cases c39 : x3 ≤ x6
    · rw [if_pos c39] at hq
      refine ic_ge_T (t := 157) odX0_layRing rfl rfl c39 ?_
      refine mB_run odX0_layRing 1 (g := (158, [(0, .ref x0), (1, .int x1), (3, .int x3), (4, .int x4), (5, .int x5), (6, .int x6)], [.ref x0], (h ++ R), 0, 0)) rfl ?_
      obtain ⟨v40, e41, hq⟩ := bsm hq
      refine r_gR odX0_layRing rfl rfl (gR_ap e41) ?_
      refine mB_run odX0_layRing 3 (g := (165, [(0, .ref x0), (1, .int x1), (3, .int x3), (4, .int x4), (5, .int x5), (6, .int x6)], [.int (x4 + (1 : Int32)), .ref v40], (h ++ R), 0, 0)) rfl ?_
      obtain ⟨v42, e43, hq⟩ := bsm hq
      refine r_aI odX0_layRing rfl (aI_ap e43) ?_
      refine mB_run odX0_layRing 2 (g := (169, [(6, .int v42), (0, .ref x0), (1, .int x1), (3, .int x3), (4, .int x4), (5, .int x5)], [.ref x0], (h ++ R), 0, 0)) rfl ?_
      obtain ⟨v44, e45, hq⟩ := bsm hq
      refine r_gR odX0_layRing rfl rfl (gR_ap e45) ?_
      refine mB_run odX0_layRing 4 (g := (177, [(6, .int v42), (0, .ref x0), (1, .int x1), (3, .int x3), (4, .int x4), (5, .int x5)], [.ref x0, .int (x4 + (1 : Int32)), .ref v44], (h ++ R), 0, 0)) rfl ?_
      obtain ⟨v46, e47, hq⟩ := bsm hq
      refine r_gR odX0_layRing rfl rfl (gR_ap e47) ?_
      refine mB_run odX0_layRing 1 (g := (182, [(6, .int v42), (0, .ref x0), (1, .int x1), (3, .int x3), (4, .int x4), (5, .int x5)], [.int x5, .ref v46, .int (x4 + (1 : Int32)), .ref v44], (h ++ R), 0, 0)) rfl ?_
      obtain ⟨v48, e49, hq⟩ := bsm hq
      refine r_aI odX0_layRing rfl (aI_ap e49) ?_
      obtain ⟨h50, e51, hq⟩ := bsm hq
      refine r_wI odX0_layRing rfl (wI_ap e51) ?_
      refine mB_run odX0_layRing 1 (g := (185, [(6, .int v42), (0, .ref x0), (1, .int x1), (3, .int x3), (4, .int x4), (5, .int x5)], [.ref x0], (h50 ++ R), 0, 0)) rfl ?_
      obtain ⟨v52, e53, hq⟩ := bsm hq
      refine r_gR odX0_layRing rfl rfl (gR_ap e53) ?_
      refine mB_run odX0_layRing 2 (g := (192, [(6, .int v42), (0, .ref x0), (1, .int x1), (3, .int x3), (4, .int x4), (5, .int x5)], [.int v42, .int x5, .ref v52], (h50 ++ R), 0, 0)) rfl ?_
      obtain ⟨h54, e55, hq⟩ := bsm hq
      refine r_wI odX0_layRing rfl (wI_ap e55) ?_
      refine mB_run odX0_layRing 2 (g := (90, [(4, .int (x4 + (1 : Int32))), (6, .int v42), (0, .ref x0), (1, .int x1), (3, .int x3), (5, .int x5)], [], (h54 ++ R), 0, 0)) rfl ?_
      refine mB_lv [2, 3, 4, 0] (lv' := [(0, .ref x0), (1, .int x1), (3, .int x3), (4, .int (x4 + (1 : Int32)))]) rfl ?_
      exact hrec90 _ _ _ _ _ hq
    · rw [if_neg c39] at hq
      refine ic_ge_F (t := 157) odX0_layRing rfl rfl c39 ?_
      refine mB_run odX0_layRing 3 (g := (119, [(0, .ref x0), (1, .int x1), (3, .int x3), (4, .int x4), (5, .int x5), (6, .int x6)], [.ref x0, .int x1, .ref x0], (h ++ R), 0, 0)) rfl ?_
      obtain ⟨v56, e57, hq⟩ := bsm hq
      refine r_gR odX0_layRing rfl rfl (gR_ap e57) ?_
      refine mB_run odX0_layRing 1 (g := (124, [(0, .ref x0), (1, .int x1), (3, .int x3), (4, .int x4), (5, .int x5), (6, .int x6)], [.int x4, .ref v56, .int x1, .ref x0], (h ++ R), 0, 0)) rfl ?_
      obtain ⟨v58, e59, hq⟩ := bsm hq
      refine r_aI odX0_layRing rfl (aI_ap e59) ?_
      refine mB_run odX0_layRing 1 (g := (126, [(0, .ref x0), (1, .int x1), (3, .int x3), (4, .int x4), (5, .int x5), (6, .int x6)], [.ref x0, .int v58, .int x1, .ref x0], (h ++ R), 0, 0)) rfl ?_
      obtain ⟨v60, e61, hq⟩ := bsm hq
      refine r_gR odX0_layRing rfl rfl (gR_ap e61) ?_
      refine mB_run odX0_layRing 1 (g := (131, [(0, .ref x0), (1, .int x1), (3, .int x3), (4, .int x4), (5, .int x5), (6, .int x6)], [.int x5, .ref v60, .int v58, .int x1, .ref x0], (h ++ R), 0, 0)) rfl ?_
      obtain ⟨v62, e63, hq⟩ := bsm hq
      refine r_aI odX0_layRing rfl (aI_ap e63) ?_
      refine mB_run odX0_layRing 1 (g := (133, [(0, .ref x0), (1, .int x1), (3, .int x3), (4, .int x4), (5, .int x5), (6, .int x6)], [.ref x0, .int v62, .int v58, .int x1, .ref x0], (h ++ R), 0, 0)) rfl ?_
      obtain ⟨v64, e65, hq⟩ := bsm hq
      refine r_gR odX0_layRing rfl rfl (gR_ap e65) ?_
      refine mB_run odX0_layRing 1 (g := (138, [(0, .ref x0), (1, .int x1), (3, .int x3), (4, .int x4), (5, .int x5), (6, .int x6)], [.int x6, .ref v64, .int v62, .int v58, .int x1, .ref x0], (h ++ R), 0, 0)) rfl ?_
      obtain ⟨v66, e67, hq⟩ := bsm hq
      refine r_aI odX0_layRing rfl (aI_ap e67) ?_
      obtain ⟨f70, k71, hq⟩ := bsm hq
      obtain ⟨o68, e69, hq⟩ := bsm hq
      refine mB_V (as := [.int x1, .int v58, .int v62, .int v66]) odX0_layRing okX0_facing lk_0_102 rfl (eaX0_facing e69) (kO_at (kO_ap k71)) rfl rfl rfl ?_
      show mB _ mX0_layRing (142, [(0, .ref x0), (1, .int x1), (3, .int x3), (4, .int x4), (5, .int x5), (6, .int x6)], [.long o68.2], (o68.1 ++ R), 0, 0)
      refine mB_run odX0_layRing 1 (g := (143, [(0, .ref x0), (1, .int x1), (3, .int x3), (4, .int x4), (5, .int x5), (6, .int x6)], [.long (0 : Int64), .long o68.2], (o68.1 ++ R), 0, 0)) rfl ?_
      by_cases c72 : (0 : Int64) ≤ o68.2
      · rw [if_pos c72] at hq
        refine lc_ge_T (t := 151) odX0_layRing rfl rfl rfl c72 ?_
        refine mB_lv [0, 1, 2, 3, 4, 5] (lv' := [(0, .ref x0), (1, .int x1), (3, .int x3), (4, .int x4), (5, .int x5), (6, .int x6)]) rfl ?_
        exact eaX0_layRing_151 hrec90 ih _ _ _ _ _ _ _ hq
      · rw [if_neg c72] at hq
        refine lc_ge_F (t := 151) odX0_layRing rfl rfl rfl c72 ?_
        refine mB_run odX0_layRing 2 (g := (151, [(5, .int x6), (0, .ref x0), (1, .int x1), (3, .int x3), (4, .int x4), (6, .int x6)], [], (o68.1 ++ R), 0, 0)) rfl ?_
        refine mB_lv [1, 2, 3, 4, 0, 5] (lv' := [(0, .ref x0), (1, .int x1), (3, .int x3), (4, .int x4), (5, .int x6), (6, .int x6)]) rfl ?_
        exact eaX0_layRing_151 hrec90 ih _ _ _ _ _ _ _ hq
def fxX0_layRing_90 (N : Nat) : Nat → Nat → Int32 → Int32 → Int32 → mh → Option (mh × Int32)
  | 0, _, _, _, _, _ => none
  | n + 1, x0, x1, x3, x4, h =>
    if x3 ≤ (x4 + (2 : Int32)) then (
      some (h, x3)) else (
      fxX0_layRing_110 N (fxX0_layRing_90 N n) N x0 x1 x3 x4 (x4 + (1 : Int32)) (x4 + (2 : Int32)) h)
set_option maxHeartbeats 4000000 in
set_option maxRecDepth 100000 in
theorem eaX0_layRing_90 {N : Nat} {R : mh} : ∀ (n : Nat) (x0 : Nat) (x1 : Int32) (x3 : Int32) (x4 : Int32) (h : mh) {o : (mh × Int32)}, fxX0_layRing_90 N n x0 x1 x3 x4 h = some o → mB (gO mX0_layRing (o.1 ++ R, some (.int o.2))) mX0_layRing (90, [(0, .ref x0), (1, .int x1), (3, .int x3), (4, .int x4)], [], (h ++ R), 0, 0) := by
  intro n
  induction n with
  | zero => intro x0 x1 x3 x4 h o hq; cases hq
  | succ n ih =>
    intro x0 x1 x3 x4 h o hq
    unfold fxX0_layRing_90 at hq
    refine mB_run odX0_layRing 4 (g := (95, [(0, .ref x0), (1, .int x1), (3, .int x3), (4, .int x4)], [.int x3, .int (x4 + (2 : Int32))], (h ++ R), 0, 0)) rfl ?_
    by_cases c38 : x3 ≤ (x4 + (2 : Int32))
    · rw [if_pos c38] at hq
      refine ic_ge_T (t := 199) odX0_layRing rfl rfl c38 ?_
      refine mB_run odX0_layRing 1 (g := (200, [(0, .ref x0), (1, .int x1), (3, .int x3), (4, .int x4)], [.int x3], (h ++ R), 0, 0)) rfl ?_
      cases hq
      exact mB_ret odX0_layRing rfl
    · rw [if_neg c38] at hq
      refine ic_ge_F (t := 199) odX0_layRing rfl rfl c38 ?_
      refine mB_run odX0_layRing 8 (g := (110, [(6, .int (x4 + (2 : Int32))), (5, .int (x4 + (1 : Int32))), (0, .ref x0), (1, .int x1), (3, .int x3), (4, .int x4)], [], (h ++ R), 0, 0)) rfl ?_
      refine mB_lv [2, 3, 4, 5, 1, 0] (lv' := [(0, .ref x0), (1, .int x1), (3, .int x3), (4, .int x4), (5, .int (x4 + (1 : Int32))), (6, .int (x4 + (2 : Int32)))]) rfl ?_
      exact eaX0_layRing_110 ih N _ _ _ _ _ _ _ hq
def fxX0_layRing_87 (N : Nat) (x0 : Nat) (x1 : Int32) (x2 : Int32) (x3 : Int32) (h : mh) : Option (mh × Int32) :=
  fxX0_layRing_90 N N x0 x1 x3 x2 h
set_option maxHeartbeats 4000000 in
set_option maxRecDepth 100000 in
theorem eaX0_layRing_87 {N : Nat} {R : mh} (x0 : Nat) (x1 : Int32) (x2 : Int32) (x3 : Int32) (h : mh) {o : (mh × Int32)} (hq : fxX0_layRing_87 N x0 x1 x2 x3 h = some o) : mB (gO mX0_layRing (o.1 ++ R, some (.int o.2))) mX0_layRing (87, [(0, .ref x0), (1, .int x1), (2, .int x2), (3, .int x3)], [], (h ++ R), 0, 0) := by
  unfold fxX0_layRing_87 at hq
  refine mB_run odX0_layRing 2 (g := (90, [(4, .int x2), (0, .ref x0), (1, .int x1), (2, .int x2), (3, .int x3)], [], (h ++ R), 0, 0)) rfl ?_
  refine mB_lv [1, 2, 4, 0] (lv' := [(0, .ref x0), (1, .int x1), (3, .int x3), (4, .int x2)]) rfl ?_
  exact eaX0_layRing_90 N _ _ _ _ _ hq
def fxX0_layRing_5 (N : Nat) : Nat → Nat → Int32 → Int32 → Int32 → Int32 → mh → Option (mh × Int32)
  | 0, _, _, _, _, _, _ => none
  | n + 1, x0, x1, x2, x3, x4, h =>
    (gR h x0 0 1).bind fun v1 =>
    (gI h v1 3 0).bind fun v3 =>
    if v3 ≤ x4 then (
      fxX0_layRing_87 N x0 x1 x2 x3 h) else (
      (gR h x0 0 5).bind fun v6 =>
      (aL h v6).bind fun v8 =>
      if v8 ≤ x3 then (
        fxX0_layRing_87 N x0 x1 x2 x3 h) else (
        (gR h x0 0 1).bind fun v11 =>
        (gR h v11 3 1).bind fun v13 =>
        (aI h v13 x4).bind fun v15 =>
        (gR h x0 0 1).bind fun v17 =>
        (gR h v17 3 2).bind fun v19 =>
        (aI h v19 x4).bind fun v21 =>
        (gR h x0 0 1).bind fun v23 =>
        (gR h v23 3 3).bind fun v25 =>
        (aI h v25 x4).bind fun v27 =>
        (kO h x0 0).bind fun f31 =>
        (fxX0_excess N x0 x1 v15.toInt64 v21.toInt64 v27.toInt64 (1 : Int64) h).bind fun o29 =>
        if o29.2 = (0 : Int64) then (
          (gR o29.1 x0 0 5).bind fun v34 =>
          (wI o29.1 v34 x3 x4).bind fun h36 =>
          fxX0_layRing_81 N (fxX0_layRing_5 N n) x0 x1 x2 (x3 + (1 : Int32)) x4 h36) else (
          fxX0_layRing_81 N (fxX0_layRing_5 N n) x0 x1 x2 x3 x4 o29.1)))
set_option maxHeartbeats 4000000 in
set_option maxRecDepth 100000 in
theorem eaX0_layRing_5 {N : Nat} {R : mh} : ∀ (n : Nat) (x0 : Nat) (x1 : Int32) (x2 : Int32) (x3 : Int32) (x4 : Int32) (h : mh) {o : (mh × Int32)}, fxX0_layRing_5 N n x0 x1 x2 x3 x4 h = some o → mB (gO mX0_layRing (o.1 ++ R, some (.int o.2))) mX0_layRing (5, [(0, .ref x0), (1, .int x1), (2, .int x2), (3, .int x3), (4, .int x4)], [], (h ++ R), 0, 0) := by
  intro n
  induction n with
  | zero => intro x0 x1 x2 x3 x4 h o hq; cases hq
  | succ n ih =>
    intro x0 x1 x2 x3 x4 h o hq
    unfold fxX0_layRing_5 at hq
    refine mB_run odX0_layRing 2 (g := (8, [(0, .ref x0), (1, .int x1), (2, .int x2), (3, .int x3), (4, .int x4)], [.ref x0, .int x4], (h ++ R), 0, 0)) rfl ?_
    obtain ⟨v1, e2, hq⟩ := bsm hq
    refine r_gR odX0_layRing rfl rfl (gR_ap e2) ?_
    obtain ⟨v3, e4, hq⟩ := bsm hq
    refine r_gI odX0_layRing rfl rfl (gI_ap e4) ?_
    by_cases c5 : v3 ≤ x4
    · rw [if_pos c5] at hq
      refine ic_ge_T (t := 87) odX0_layRing rfl rfl c5 ?_
      refine mB_lv [0, 1, 2, 3] (lv' := [(0, .ref x0), (1, .int x1), (2, .int x2), (3, .int x3)]) rfl ?_
      exact eaX0_layRing_87 _ _ _ _ _ hq
    · rw [if_neg c5] at hq
      refine ic_ge_F (t := 87) odX0_layRing rfl rfl c5 ?_
      refine mB_run odX0_layRing 2 (g := (19, [(0, .ref x0), (1, .int x1), (2, .int x2), (3, .int x3), (4, .int x4)], [.ref x0, .int x3], (h ++ R), 0, 0)) rfl ?_
      obtain ⟨v6, e7, hq⟩ := bsm hq
      refine r_gR odX0_layRing rfl rfl (gR_ap e7) ?_
      obtain ⟨v8, e9, hq⟩ := bsm hq
      refine r_aL odX0_layRing rfl (aL_ap e9) ?_
      by_cases c10 : v8 ≤ x3
      · rw [if_pos c10] at hq
        refine ic_ge_T (t := 87) odX0_layRing rfl rfl c10 ?_
        refine mB_lv [0, 1, 2, 3] (lv' := [(0, .ref x0), (1, .int x1), (2, .int x2), (3, .int x3)]) rfl ?_
        exact eaX0_layRing_87 _ _ _ _ _ hq
      · rw [if_neg c10] at hq
        refine ic_ge_F (t := 87) odX0_layRing rfl rfl c10 ?_
        refine mB_run odX0_layRing 3 (g := (29, [(0, .ref x0), (1, .int x1), (2, .int x2), (3, .int x3), (4, .int x4)], [.ref x0, .int x1, .ref x0], (h ++ R), 0, 0)) rfl ?_
        obtain ⟨v11, e12, hq⟩ := bsm hq
        refine r_gR odX0_layRing rfl rfl (gR_ap e12) ?_
        obtain ⟨v13, e14, hq⟩ := bsm hq
        refine r_gR odX0_layRing rfl rfl (gR_ap e14) ?_
        refine mB_run odX0_layRing 1 (g := (37, [(0, .ref x0), (1, .int x1), (2, .int x2), (3, .int x3), (4, .int x4)], [.int x4, .ref v13, .int x1, .ref x0], (h ++ R), 0, 0)) rfl ?_
        obtain ⟨v15, e16, hq⟩ := bsm hq
        refine r_aI odX0_layRing rfl (aI_ap e16) ?_
        refine mB_run odX0_layRing 2 (g := (40, [(0, .ref x0), (1, .int x1), (2, .int x2), (3, .int x3), (4, .int x4)], [.ref x0, .long v15.toInt64, .int x1, .ref x0], (h ++ R), 0, 0)) rfl ?_
        obtain ⟨v17, e18, hq⟩ := bsm hq
        refine r_gR odX0_layRing rfl rfl (gR_ap e18) ?_
        obtain ⟨v19, e20, hq⟩ := bsm hq
        refine r_gR odX0_layRing rfl rfl (gR_ap e20) ?_
        refine mB_run odX0_layRing 1 (g := (48, [(0, .ref x0), (1, .int x1), (2, .int x2), (3, .int x3), (4, .int x4)], [.int x4, .ref v19, .long v15.toInt64, .int x1, .ref x0], (h ++ R), 0, 0)) rfl ?_
        obtain ⟨v21, e22, hq⟩ := bsm hq
        refine r_aI odX0_layRing rfl (aI_ap e22) ?_
        refine mB_run odX0_layRing 2 (g := (51, [(0, .ref x0), (1, .int x1), (2, .int x2), (3, .int x3), (4, .int x4)], [.ref x0, .long v21.toInt64, .long v15.toInt64, .int x1, .ref x0], (h ++ R), 0, 0)) rfl ?_
        obtain ⟨v23, e24, hq⟩ := bsm hq
        refine r_gR odX0_layRing rfl rfl (gR_ap e24) ?_
        obtain ⟨v25, e26, hq⟩ := bsm hq
        refine r_gR odX0_layRing rfl rfl (gR_ap e26) ?_
        refine mB_run odX0_layRing 1 (g := (59, [(0, .ref x0), (1, .int x1), (2, .int x2), (3, .int x3), (4, .int x4)], [.int x4, .ref v25, .long v21.toInt64, .long v15.toInt64, .int x1, .ref x0], (h ++ R), 0, 0)) rfl ?_
        obtain ⟨v27, e28, hq⟩ := bsm hq
        refine r_aI odX0_layRing rfl (aI_ap e28) ?_
        refine mB_run odX0_layRing 2 (g := (62, [(0, .ref x0), (1, .int x1), (2, .int x2), (3, .int x3), (4, .int x4)], [.long (1 : Int64), .long v27.toInt64, .long v21.toInt64, .long v15.toInt64, .int x1, .ref x0], (h ++ R), 0, 0)) rfl ?_
        obtain ⟨f31, k32, hq⟩ := bsm hq
        obtain ⟨o29, e30, hq⟩ := bsm hq
        refine mB_V (as := [.int x1, .long v15.toInt64, .long v21.toInt64, .long v27.toInt64, .long (1 : Int64)]) odX0_layRing okX0_excess lk_0_98 rfl (eaX0_excess e30) (kO_at (kO_ap k32)) rfl rfl rfl ?_
        show mB _ mX0_layRing (65, [(0, .ref x0), (1, .int x1), (2, .int x2), (3, .int x3), (4, .int x4)], [.long o29.2], (o29.1 ++ R), 0, 0)
        refine mB_run odX0_layRing 1 (g := (66, [(0, .ref x0), (1, .int x1), (2, .int x2), (3, .int x3), (4, .int x4)], [.long (0 : Int64), .long o29.2], (o29.1 ++ R), 0, 0)) rfl ?_
        by_cases c33 : o29.2 = (0 : Int64)
        · rw [if_pos c33] at hq
          refine lc_ne_F (t := 81) odX0_layRing rfl rfl rfl c33 ?_
          refine mB_run odX0_layRing 1 (g := (71, [(0, .ref x0), (1, .int x1), (2, .int x2), (3, .int x3), (4, .int x4)], [.ref x0], (o29.1 ++ R), 0, 0)) rfl ?_
          obtain ⟨v34, e35, hq⟩ := bsm hq
          refine r_gR odX0_layRing rfl rfl (gR_ap e35) ?_
          refine mB_run odX0_layRing 2 (g := (77, [(0, .ref x0), (1, .int x1), (2, .int x2), (3, .int x3), (4, .int x4)], [.int x4, .int x3, .ref v34], (o29.1 ++ R), 0, 0)) rfl ?_
          obtain ⟨h36, e37, hq⟩ := bsm hq
          refine r_wI odX0_layRing rfl (wI_ap e37) ?_
          refine mB_run odX0_layRing 1 (g := (81, [(3, .int (x3 + (1 : Int32))), (0, .ref x0), (1, .int x1), (2, .int x2), (4, .int x4)], [], (h36 ++ R), 0, 0)) rfl ?_
          refine mB_lv [1, 2, 3, 0, 4] (lv' := [(0, .ref x0), (1, .int x1), (2, .int x2), (3, .int (x3 + (1 : Int32))), (4, .int x4)]) rfl ?_
          exact eaX0_layRing_81 ih _ _ _ _ _ _ hq
        · rw [if_neg c33] at hq
          refine lc_ne_T (t := 81) odX0_layRing rfl rfl rfl c33 ?_
          refine mB_lv [0, 1, 2, 3, 4] (lv' := [(0, .ref x0), (1, .int x1), (2, .int x2), (3, .int x3), (4, .int x4)]) rfl ?_
          exact eaX0_layRing_81 ih _ _ _ _ _ _ hq
def fxX0_layRing (N : Nat) (p0 : Nat) (p1 : Int32) (p2 : Int32) (h : mh) : Option (mh × Int32) :=
  fxX0_layRing_5 N N p0 p1 p2 p2 (0 : Int32) h
set_option maxHeartbeats 4000000 in
set_option maxRecDepth 100000 in
theorem eaX0_layRing {N : Nat} {R : mh} {p0 : Nat} {p1 : Int32} {p2 : Int32} {h : mh} {o : (mh × Int32)} (hq : fxX0_layRing N p0 p1 p2 h = some o) : mC mX0_layRing [.ref p0, .int p1, .int p2] (h ++ R) (o.1 ++ R, some (.int o.2)) := by
  refine mC_of okX0_layRing (Nat.le_of_ble_eq_true rfl) ?_
  unfold fxX0_layRing at hq
  show mB _ mX0_layRing (0, [(0, .ref p0), (1, .int p1), (2, .int p2)], [], (h ++ R), 0, 0)
  refine mB_run odX0_layRing 4 (g := (5, [(4, .int (0 : Int32)), (3, .int p2), (0, .ref p0), (1, .int p1), (2, .int p2)], [], (h ++ R), 0, 0)) rfl ?_
  refine mB_lv [2, 3, 4, 1, 0] (lv' := [(0, .ref p0), (1, .int p1), (2, .int p2), (3, .int p2), (4, .int (0 : Int32))]) rfl ?_
  exact eaX0_layRing_5 N _ _ _ _ _ _ hq
def fxX0_layRings_4 (N : Nat) : Nat → Nat → Int32 → Int32 → mh → Option mh
  | 0, _, _, _, _ => none
  | n + 1, x0, x1, x2, h =>
    (gI h x0 0 2).bind fun v1 =>
    if v1 ≤ x2 then (
      (gR h x0 0 4).bind fun v4 =>
      (gI h x0 0 2).bind fun v6 =>
      (wI h v4 v6 x1).bind fun h8 =>
      some h8) else (
      (gR h x0 0 4).bind fun v10 =>
      (wI h v10 x2 x1).bind fun h12 =>
      (kO h12 x0 0).bind fun f16 =>
      (fxX0_layRing N x0 x2 x1 h12).bind fun o14 =>
      fxX0_layRings_4 N n x0 o14.2 (x2 + (1 : Int32)) o14.1)
set_option maxHeartbeats 4000000 in
set_option maxRecDepth 100000 in
theorem eaX0_layRings_4 {N : Nat} {R : mh} : ∀ (n : Nat) (x0 : Nat) (x1 : Int32) (x2 : Int32) (h : mh) {o : mh}, fxX0_layRings_4 N n x0 x1 x2 h = some o → mB (gO mX0_layRings (o ++ R, none)) mX0_layRings (4, [(0, .ref x0), (1, .int x1), (2, .int x2)], [], (h ++ R), 0, 0) := by
  intro n
  induction n with
  | zero => intro x0 x1 x2 h o hq; cases hq
  | succ n ih =>
    intro x0 x1 x2 h o hq
    unfold fxX0_layRings_4 at hq
    refine mB_run odX0_layRings 2 (g := (6, [(0, .ref x0), (1, .int x1), (2, .int x2)], [.ref x0, .int x2], (h ++ R), 0, 0)) rfl ?_
    obtain ⟨v1, e2, hq⟩ := bsm hq
    refine r_gI odX0_layRings rfl rfl (gI_ap e2) ?_
    by_cases c3 : v1 ≤ x2
    · rw [if_pos c3] at hq
      refine ic_ge_T (t := 32) odX0_layRings rfl rfl c3 ?_
      refine mB_run odX0_layRings 1 (g := (33, [(0, .ref x0), (1, .int x1), (2, .int x2)], [.ref x0], (h ++ R), 0, 0)) rfl ?_
      obtain ⟨v4, e5, hq⟩ := bsm hq
      refine r_gR odX0_layRings rfl rfl (gR_ap e5) ?_
      refine mB_run odX0_layRings 1 (g := (37, [(0, .ref x0), (1, .int x1), (2, .int x2)], [.ref x0, .ref v4], (h ++ R), 0, 0)) rfl ?_
      obtain ⟨v6, e7, hq⟩ := bsm hq
      refine r_gI odX0_layRings rfl rfl (gI_ap e7) ?_
      refine mB_run odX0_layRings 1 (g := (41, [(0, .ref x0), (1, .int x1), (2, .int x2)], [.int x1, .int v6, .ref v4], (h ++ R), 0, 0)) rfl ?_
      obtain ⟨h8, e9, hq⟩ := bsm hq
      refine r_wI odX0_layRings rfl (wI_ap e9) ?_
      cases hq
      exact mB_ret odX0_layRings rfl
    · rw [if_neg c3] at hq
      refine ic_ge_F (t := 32) odX0_layRings rfl rfl c3 ?_
      refine mB_run odX0_layRings 1 (g := (13, [(0, .ref x0), (1, .int x1), (2, .int x2)], [.ref x0], (h ++ R), 0, 0)) rfl ?_
      obtain ⟨v10, e11, hq⟩ := bsm hq
      refine r_gR odX0_layRings rfl rfl (gR_ap e11) ?_
      refine mB_run odX0_layRings 2 (g := (18, [(0, .ref x0), (1, .int x1), (2, .int x2)], [.int x1, .int x2, .ref v10], (h ++ R), 0, 0)) rfl ?_
      obtain ⟨h12, e13, hq⟩ := bsm hq
      refine r_wI odX0_layRings rfl (wI_ap e13) ?_
      refine mB_run odX0_layRings 3 (g := (22, [(0, .ref x0), (1, .int x1), (2, .int x2)], [.int x1, .int x2, .ref x0], (h12 ++ R), 0, 0)) rfl ?_
      obtain ⟨f16, k17, hq⟩ := bsm hq
      obtain ⟨o14, e15, hq⟩ := bsm hq
      refine mB_V (as := [.int x2, .int x1]) odX0_layRings okX0_layRing lk_0_83 rfl (eaX0_layRing e15) (kO_at (kO_ap k17)) rfl rfl rfl ?_
      show mB _ mX0_layRings (25, [(0, .ref x0), (1, .int x1), (2, .int x2)], [.int o14.2], (o14.1 ++ R), 0, 0)
      refine mB_run odX0_layRings 3 (g := (4, [(2, .int (x2 + (1 : Int32))), (1, .int o14.2), (0, .ref x0)], [], (o14.1 ++ R), 0, 0)) rfl ?_
      refine mB_lv [2, 1, 0] (lv' := [(0, .ref x0), (1, .int o14.2), (2, .int (x2 + (1 : Int32)))]) rfl ?_
      exact ih _ _ _ _ hq
def fxX0_layRings (N : Nat) (p0 : Nat) (h : mh) : Option mh :=
  fxX0_layRings_4 N N p0 (0 : Int32) (0 : Int32) h
set_option maxHeartbeats 4000000 in
set_option maxRecDepth 100000 in
theorem eaX0_layRings {N : Nat} {R : mh} {p0 : Nat} {h : mh} {o : mh} (hq : fxX0_layRings N p0 h = some o) : mC mX0_layRings [.ref p0] (h ++ R) (o ++ R, none) := by
  refine mC_of okX0_layRings (Nat.le_of_ble_eq_true rfl) ?_
  unfold fxX0_layRings at hq
  show mB _ mX0_layRings (0, [(0, .ref p0)], [], (h ++ R), 0, 0)
  refine mB_run odX0_layRings 4 (g := (4, [(2, .int (0 : Int32)), (1, .int (0 : Int32)), (0, .ref p0)], [], (h ++ R), 0, 0)) rfl ?_
  refine mB_lv [2, 1, 0] (lv' := [(0, .ref p0), (1, .int (0 : Int32)), (2, .int (0 : Int32))]) rfl ?_
  exact eaX0_layRings_4 N _ _ _ _ hq
def fxX0_addEdge (N : Nat) (p0 : Nat) (p1 : Int32) (p2 : Int32) (p3 : Int32) (p4 : Int32) (h : mh) : Option mh :=
  (gI h p0 0 6).bind fun v1 =>
  if (66 : Int32) ≤ v1 then (
    some h) else (
    (gR h p0 0 7).bind fun v4 =>
    (gI h p0 0 6).bind fun v6 =>
    (wI h v4 ((4 : Int32) * v6) p1).bind fun h8 =>
    (gR h8 p0 0 7).bind fun v10 =>
    (gI h8 p0 0 6).bind fun v12 =>
    (wI h8 v10 (((4 : Int32) * v12) + (1 : Int32)) p2).bind fun h14 =>
    (gR h14 p0 0 7).bind fun v16 =>
    (gI h14 p0 0 6).bind fun v18 =>
    (wI h14 v16 (((4 : Int32) * v18) + (2 : Int32)) p3).bind fun h20 =>
    (gR h20 p0 0 7).bind fun v22 =>
    (gI h20 p0 0 6).bind fun v24 =>
    (wI h20 v22 (((4 : Int32) * v24) + (3 : Int32)) p4).bind fun h26 =>
    (gI h26 p0 0 6).bind fun v28 =>
    (sV h26 p0 0 6 (.int (v28 + (1 : Int32)))).bind fun h30 =>
    some h30)
set_option maxHeartbeats 4000000 in
set_option maxRecDepth 100000 in
theorem eaX0_addEdge {N : Nat} {R : mh} {p0 : Nat} {p1 : Int32} {p2 : Int32} {p3 : Int32} {p4 : Int32} {h : mh} {o : mh} (hq : fxX0_addEdge N p0 p1 p2 p3 p4 h = some o) : mC mX0_addEdge [.ref p0, .int p1, .int p2, .int p3, .int p4] (h ++ R) (o ++ R, none) := by
  refine mC_of okX0_addEdge (Nat.le_of_ble_eq_true rfl) ?_
  unfold fxX0_addEdge at hq
  show mB _ mX0_addEdge (0, [(0, .ref p0), (1, .int p1), (2, .int p2), (3, .int p3), (4, .int p4)], [], (h ++ R), 0, 0)
  refine mB_run odX0_addEdge 1 (g := (1, [(0, .ref p0), (1, .int p1), (2, .int p2), (3, .int p3), (4, .int p4)], [.ref p0], (h ++ R), 0, 0)) rfl ?_
  obtain ⟨v1, e2, hq⟩ := bsm hq
  refine r_gI odX0_addEdge rfl rfl (gI_ap e2) ?_
  refine mB_run odX0_addEdge 1 (g := (6, [(0, .ref p0), (1, .int p1), (2, .int p2), (3, .int p3), (4, .int p4)], [.int (66 : Int32), .int v1], (h ++ R), 0, 0)) rfl ?_
  by_cases c3 : (66 : Int32) ≤ v1
  · rw [if_pos c3] at hq
    refine ic_ge_T (t := 74) odX0_addEdge rfl rfl c3 ?_
    cases hq
    exact mB_ret odX0_addEdge rfl
  · rw [if_neg c3] at hq
    refine ic_ge_F (t := 74) odX0_addEdge rfl rfl c3 ?_
    refine mB_run odX0_addEdge 1 (g := (10, [(0, .ref p0), (1, .int p1), (2, .int p2), (3, .int p3), (4, .int p4)], [.ref p0], (h ++ R), 0, 0)) rfl ?_
    obtain ⟨v4, e5, hq⟩ := bsm hq
    refine r_gR odX0_addEdge rfl rfl (gR_ap e5) ?_
    refine mB_run odX0_addEdge 2 (g := (15, [(0, .ref p0), (1, .int p1), (2, .int p2), (3, .int p3), (4, .int p4)], [.ref p0, .int (4 : Int32), .ref v4], (h ++ R), 0, 0)) rfl ?_
    obtain ⟨v6, e7, hq⟩ := bsm hq
    refine r_gI odX0_addEdge rfl rfl (gI_ap e7) ?_
    refine mB_run odX0_addEdge 2 (g := (20, [(0, .ref p0), (1, .int p1), (2, .int p2), (3, .int p3), (4, .int p4)], [.int p1, .int ((4 : Int32) * v6), .ref v4], (h ++ R), 0, 0)) rfl ?_
    obtain ⟨h8, e9, hq⟩ := bsm hq
    refine r_wI odX0_addEdge rfl (wI_ap e9) ?_
    refine mB_run odX0_addEdge 1 (g := (22, [(0, .ref p0), (1, .int p1), (2, .int p2), (3, .int p3), (4, .int p4)], [.ref p0], (h8 ++ R), 0, 0)) rfl ?_
    obtain ⟨v10, e11, hq⟩ := bsm hq
    refine r_gR odX0_addEdge rfl rfl (gR_ap e11) ?_
    refine mB_run odX0_addEdge 2 (g := (27, [(0, .ref p0), (1, .int p1), (2, .int p2), (3, .int p3), (4, .int p4)], [.ref p0, .int (4 : Int32), .ref v10], (h8 ++ R), 0, 0)) rfl ?_
    obtain ⟨v12, e13, hq⟩ := bsm hq
    refine r_gI odX0_addEdge rfl rfl (gI_ap e13) ?_
    refine mB_run odX0_addEdge 4 (g := (34, [(0, .ref p0), (1, .int p1), (2, .int p2), (3, .int p3), (4, .int p4)], [.int p2, .int (((4 : Int32) * v12) + (1 : Int32)), .ref v10], (h8 ++ R), 0, 0)) rfl ?_
    obtain ⟨h14, e15, hq⟩ := bsm hq
    refine r_wI odX0_addEdge rfl (wI_ap e15) ?_
    refine mB_run odX0_addEdge 1 (g := (36, [(0, .ref p0), (1, .int p1), (2, .int p2), (3, .int p3), (4, .int p4)], [.ref p0], (h14 ++ R), 0, 0)) rfl ?_
    obtain ⟨v16, e17, hq⟩ := bsm hq
    refine r_gR odX0_addEdge rfl rfl (gR_ap e17) ?_
    refine mB_run odX0_addEdge 2 (g := (41, [(0, .ref p0), (1, .int p1), (2, .int p2), (3, .int p3), (4, .int p4)], [.ref p0, .int (4 : Int32), .ref v16], (h14 ++ R), 0, 0)) rfl ?_
    obtain ⟨v18, e19, hq⟩ := bsm hq
    refine r_gI odX0_addEdge rfl rfl (gI_ap e19) ?_
    refine mB_run odX0_addEdge 4 (g := (48, [(0, .ref p0), (1, .int p1), (2, .int p2), (3, .int p3), (4, .int p4)], [.int p3, .int (((4 : Int32) * v18) + (2 : Int32)), .ref v16], (h14 ++ R), 0, 0)) rfl ?_
    obtain ⟨h20, e21, hq⟩ := bsm hq
    refine r_wI odX0_addEdge rfl (wI_ap e21) ?_
    refine mB_run odX0_addEdge 1 (g := (50, [(0, .ref p0), (1, .int p1), (2, .int p2), (3, .int p3), (4, .int p4)], [.ref p0], (h20 ++ R), 0, 0)) rfl ?_
    obtain ⟨v22, e23, hq⟩ := bsm hq
    refine r_gR odX0_addEdge rfl rfl (gR_ap e23) ?_
    refine mB_run odX0_addEdge 2 (g := (55, [(0, .ref p0), (1, .int p1), (2, .int p2), (3, .int p3), (4, .int p4)], [.ref p0, .int (4 : Int32), .ref v22], (h20 ++ R), 0, 0)) rfl ?_
    obtain ⟨v24, e25, hq⟩ := bsm hq
    refine r_gI odX0_addEdge rfl rfl (gI_ap e25) ?_
    refine mB_run odX0_addEdge 4 (g := (63, [(0, .ref p0), (1, .int p1), (2, .int p2), (3, .int p3), (4, .int p4)], [.int p4, .int (((4 : Int32) * v24) + (3 : Int32)), .ref v22], (h20 ++ R), 0, 0)) rfl ?_
    obtain ⟨h26, e27, hq⟩ := bsm hq
    refine r_wI odX0_addEdge rfl (wI_ap e27) ?_
    refine mB_run odX0_addEdge 2 (g := (66, [(0, .ref p0), (1, .int p1), (2, .int p2), (3, .int p3), (4, .int p4)], [.ref p0, .ref p0], (h26 ++ R), 0, 0)) rfl ?_
    obtain ⟨v28, e29, hq⟩ := bsm hq
    refine r_gI odX0_addEdge rfl rfl (gI_ap e29) ?_
    refine mB_run odX0_addEdge 2 (g := (71, [(0, .ref p0), (1, .int p1), (2, .int p2), (3, .int p3), (4, .int p4)], [.int (v28 + (1 : Int32)), .ref p0], (h26 ++ R), 0, 0)) rfl ?_
    obtain ⟨h30, e31, hq⟩ := bsm hq
    refine r_sV odX0_addEdge rfl rfl rfl rfl (sV_ap e31) ?_
    cases hq
    exact mB_ret odX0_addEdge rfl
def fxJ7_fill_53178_5 (N : Nat) : Nat → Nat → Int32 → Int32 → Int32 → mh → Option mh
  | 0, _, _, _, _, _ => none
  | n + 1, x0, x1, x2, x3, h =>
    if x3 ≤ x2 then (
      some h) else (
      (wI h x0 x2 x1).bind fun h4 =>
      fxJ7_fill_53178_5 N n x0 x1 (x2 + (1 : Int32)) x3 h4)
set_option maxHeartbeats 4000000 in
set_option maxRecDepth 100000 in
theorem eaJ7_fill_53178_5 {N : Nat} {R : mh} : ∀ (n : Nat) (x0 : Nat) (x1 : Int32) (x2 : Int32) (x3 : Int32) (h : mh) {o : mh}, fxJ7_fill_53178_5 N n x0 x1 x2 x3 h = some o → mB (gO mJ7_fill_53178 (o ++ R, none)) mJ7_fill_53178 (5, [(0, .ref x0), (1, .int x1), (2, .int x2), (3, .int x3)], [], (h ++ R), 0, 0) := by
  intro n
  induction n with
  | zero => intro x0 x1 x2 x3 h o hq; cases hq
  | succ n ih =>
    intro x0 x1 x2 x3 h o hq
    unfold fxJ7_fill_53178_5 at hq
    refine mB_run odJ7_fill_53178 2 (g := (7, [(0, .ref x0), (1, .int x1), (2, .int x2), (3, .int x3)], [.int x3, .int x2], (h ++ R), 0, 0)) rfl ?_
    by_cases c3 : x3 ≤ x2
    · rw [if_pos c3] at hq
      refine ic_ge_T (t := 20) odJ7_fill_53178 rfl rfl c3 ?_
      cases hq
      exact mB_ret odJ7_fill_53178 rfl
    · rw [if_neg c3] at hq
      refine ic_ge_F (t := 20) odJ7_fill_53178 rfl rfl c3 ?_
      refine mB_run odJ7_fill_53178 3 (g := (13, [(0, .ref x0), (1, .int x1), (2, .int x2), (3, .int x3)], [.int x1, .int x2, .ref x0], (h ++ R), 0, 0)) rfl ?_
      obtain ⟨h4, e5, hq⟩ := bsm hq
      refine r_wI odJ7_fill_53178 rfl (wI_ap e5) ?_
      refine mB_run odJ7_fill_53178 2 (g := (5, [(2, .int (x2 + (1 : Int32))), (0, .ref x0), (1, .int x1), (3, .int x3)], [], (h4 ++ R), 0, 0)) rfl ?_
      refine mB_lv [1, 2, 0, 3] (lv' := [(0, .ref x0), (1, .int x1), (2, .int (x2 + (1 : Int32))), (3, .int x3)]) rfl ?_
      exact ih _ _ _ _ _ hq
def fxJ7_fill_53178 (N : Nat) (p0 : Nat) (p1 : Int32) (h : mh) : Option mh :=
  (aL h p0).bind fun v1 =>
  fxJ7_fill_53178_5 N N p0 p1 (0 : Int32) v1 h
set_option maxHeartbeats 4000000 in
set_option maxRecDepth 100000 in
theorem eaJ7_fill_53178 {N : Nat} {R : mh} {p0 : Nat} {p1 : Int32} {h : mh} {o : mh} (hq : fxJ7_fill_53178 N p0 p1 h = some o) : mC mJ7_fill_53178 [.ref p0, .int p1] (h ++ R) (o ++ R, none) := by
  refine mC_of okJ7_fill_53178 (Nat.le_of_ble_eq_true rfl) ?_
  unfold fxJ7_fill_53178 at hq
  show mB _ mJ7_fill_53178 (0, [(0, .ref p0), (1, .int p1)], [], (h ++ R), 0, 0)
  refine mB_run odJ7_fill_53178 3 (g := (3, [(2, .int (0 : Int32)), (0, .ref p0), (1, .int p1)], [.ref p0], (h ++ R), 0, 0)) rfl ?_
  obtain ⟨v1, e2, hq⟩ := bsm hq
  refine r_aL odJ7_fill_53178 rfl (aL_ap e2) ?_
  refine mB_run odJ7_fill_53178 1 (g := (5, [(3, .int v1), (2, .int (0 : Int32)), (0, .ref p0), (1, .int p1)], [], (h ++ R), 0, 0)) rfl ?_
  refine mB_lv [2, 3, 1, 0] (lv' := [(0, .ref p0), (1, .int p1), (2, .int (0 : Int32)), (3, .int v1)]) rfl ?_
  exact eaJ7_fill_53178_5 N _ _ _ _ _ hq
def fxX0_layEdges_77 (N : Nat) (rec24 : Nat → Nat → Int32 → mh → Option mh) (rec39 : Nat → Nat → Int32 → Int32 → mh → Option mh) (x0 : Nat) (x1 : Nat) (x2 : Int32) (x3 : Int32) (s0 : Int32) (h : mh) : Option mh :=
  (gR h x0 0 5).bind fun v31 =>
  (aI h v31 x3).bind fun v33 =>
  (gR h x0 0 5).bind fun v35 =>
  (aI h v35 s0).bind fun v37 =>
  (wI h x1 ((v33 * (24 : Int32)) + v37) x2).bind fun h39 =>
  rec39 x0 x1 x2 (x3 + (1 : Int32)) h39
set_option maxHeartbeats 4000000 in
set_option maxRecDepth 100000 in
theorem eaX0_layEdges_77 {N : Nat} {R : mh} {rec24 : Nat → Nat → Int32 → mh → Option mh} {rec39 : Nat → Nat → Int32 → Int32 → mh → Option mh} (hrec24 : ∀ (x0 : Nat) (x1 : Nat) (x2 : Int32) (h : mh) {o : mh}, rec24 x0 x1 x2 h = some o → mB (gO mX0_layEdges (o ++ R, none)) mX0_layEdges (24, [(0, .ref x0), (1, .ref x1), (2, .int x2)], [], (h ++ R), 0, 0)) (hrec39 : ∀ (x0 : Nat) (x1 : Nat) (x2 : Int32) (x3 : Int32) (h : mh) {o : mh}, rec39 x0 x1 x2 x3 h = some o → mB (gO mX0_layEdges (o ++ R, none)) mX0_layEdges (39, [(0, .ref x0), (1, .ref x1), (2, .int x2), (3, .int x3)], [], (h ++ R), 0, 0)) (x0 : Nat) (x1 : Nat) (x2 : Int32) (x3 : Int32) (s0 : Int32) (h : mh) {o : mh} (hq : fxX0_layEdges_77 N rec24 rec39 x0 x1 x2 x3 s0 h = some o) : mB (gO mX0_layEdges (o ++ R, none)) mX0_layEdges (77, [(0, .ref x0), (1, .ref x1), (2, .int x2), (3, .int x3)], [.int s0], (h ++ R), 0, 0) := by
  unfold fxX0_layEdges_77 at hq
  refine mB_run odX0_layEdges 3 (g := (81, [(4, .int s0), (0, .ref x0), (1, .ref x1), (2, .int x2), (3, .int x3)], [.ref x0, .ref x1], (h ++ R), 0, 0)) rfl ?_
  obtain ⟨v31, e32, hq⟩ := bsm hq
  refine r_gR odX0_layEdges rfl rfl (gR_ap e32) ?_
  refine mB_run odX0_layEdges 1 (g := (85, [(4, .int s0), (0, .ref x0), (1, .ref x1), (2, .int x2), (3, .int x3)], [.int x3, .ref v31, .ref x1], (h ++ R), 0, 0)) rfl ?_
  obtain ⟨v33, e34, hq⟩ := bsm hq
  refine r_aI odX0_layEdges rfl (aI_ap e34) ?_
  refine mB_run odX0_layEdges 3 (g := (90, [(4, .int s0), (0, .ref x0), (1, .ref x1), (2, .int x2), (3, .int x3)], [.ref x0, .int (v33 * (24 : Int32)), .ref x1], (h ++ R), 0, 0)) rfl ?_
  obtain ⟨v35, e36, hq⟩ := bsm hq
  refine r_gR odX0_layEdges rfl rfl (gR_ap e36) ?_
  refine mB_run odX0_layEdges 1 (g := (95, [(4, .int s0), (0, .ref x0), (1, .ref x1), (2, .int x2), (3, .int x3)], [.int s0, .ref v35, .int (v33 * (24 : Int32)), .ref x1], (h ++ R), 0, 0)) rfl ?_
  obtain ⟨v37, e38, hq⟩ := bsm hq
  refine r_aI odX0_layEdges rfl (aI_ap e38) ?_
  refine mB_run odX0_layEdges 2 (g := (98, [(4, .int s0), (0, .ref x0), (1, .ref x1), (2, .int x2), (3, .int x3)], [.int x2, .int ((v33 * (24 : Int32)) + v37), .ref x1], (h ++ R), 0, 0)) rfl ?_
  obtain ⟨h39, e40, hq⟩ := bsm hq
  refine r_wI odX0_layEdges rfl (wI_ap e40) ?_
  refine mB_run odX0_layEdges 2 (g := (39, [(3, .int (x3 + (1 : Int32))), (4, .int s0), (0, .ref x0), (1, .ref x1), (2, .int x2)], [], (h39 ++ R), 0, 0)) rfl ?_
  refine mB_lv [2, 3, 4, 0] (lv' := [(0, .ref x0), (1, .ref x1), (2, .int x2), (3, .int (x3 + (1 : Int32)))]) rfl ?_
  exact hrec39 _ _ _ _ _ hq
def fxX0_layEdges_39 (N : Nat) (rec24 : Nat → Nat → Int32 → mh → Option mh) : Nat → Nat → Nat → Int32 → Int32 → mh → Option mh
  | 0, _, _, _, _, _ => none
  | n + 1, x0, x1, x2, x3, h =>
    (gR h x0 0 4).bind fun v17 =>
    (aI h v17 (x2 + (1 : Int32))).bind fun v19 =>
    if v19 ≤ x3 then (
      rec24 x0 x1 (x2 + (1 : Int32)) h) else (
      (gR h x0 0 4).bind fun v22 =>
      (aI h v22 (x2 + (1 : Int32))).bind fun v24 =>
      if v24 ≤ (x3 + (1 : Int32)) then (
        (gR h x0 0 4).bind fun v27 =>
        (aI h v27 x2).bind fun v29 =>
        fxX0_layEdges_77 N rec24 (fxX0_layEdges_39 N rec24 n) x0 x1 x2 x3 v29 h) else (
        fxX0_layEdges_77 N rec24 (fxX0_layEdges_39 N rec24 n) x0 x1 x2 x3 (x3 + (1 : Int32)) h))
set_option maxHeartbeats 4000000 in
set_option maxRecDepth 100000 in
theorem eaX0_layEdges_39 {N : Nat} {R : mh} {rec24 : Nat → Nat → Int32 → mh → Option mh} (hrec24 : ∀ (x0 : Nat) (x1 : Nat) (x2 : Int32) (h : mh) {o : mh}, rec24 x0 x1 x2 h = some o → mB (gO mX0_layEdges (o ++ R, none)) mX0_layEdges (24, [(0, .ref x0), (1, .ref x1), (2, .int x2)], [], (h ++ R), 0, 0)) : ∀ (n : Nat) (x0 : Nat) (x1 : Nat) (x2 : Int32) (x3 : Int32) (h : mh) {o : mh}, fxX0_layEdges_39 N rec24 n x0 x1 x2 x3 h = some o → mB (gO mX0_layEdges (o ++ R, none)) mX0_layEdges (39, [(0, .ref x0), (1, .ref x1), (2, .int x2), (3, .int x3)], [], (h ++ R), 0, 0) := by
  intro n
  induction n with
  | zero => intro x0 x1 x2 x3 h o hq; cases hq
  | succ n ih =>
    intro x0 x1 x2 x3 h o hq
    unfold fxX0_layEdges_39 at hq
    refine mB_run odX0_layEdges 2 (g := (41, [(0, .ref x0), (1, .ref x1), (2, .int x2), (3, .int x3)], [.ref x0, .int x3], (h ++ R), 0, 0)) rfl ?_
    obtain ⟨v17, e18, hq⟩ := bsm hq
    refine r_gR odX0_layEdges rfl rfl (gR_ap e18) ?_
    refine mB_run odX0_layEdges 3 (g := (47, [(0, .ref x0), (1, .ref x1), (2, .int x2), (3, .int x3)], [.int (x2 + (1 : Int32)), .ref v17, .int x3], (h ++ R), 0, 0)) rfl ?_
    obtain ⟨v19, e20, hq⟩ := bsm hq
    refine r_aI odX0_layEdges rfl (aI_ap e20) ?_
    by_cases c21 : v19 ≤ x3
    · rw [if_pos c21] at hq
      refine ic_ge_T (t := 105) odX0_layEdges rfl rfl c21 ?_
      refine mB_run odX0_layEdges 2 (g := (24, [(2, .int (x2 + (1 : Int32))), (0, .ref x0), (1, .ref x1), (3, .int x3)], [], (h ++ R), 0, 0)) rfl ?_
      refine mB_lv [1, 2, 0] (lv' := [(0, .ref x0), (1, .ref x1), (2, .int (x2 + (1 : Int32)))]) rfl ?_
      exact hrec24 _ _ _ _ hq
    · rw [if_neg c21] at hq
      refine ic_ge_F (t := 105) odX0_layEdges rfl rfl c21 ?_
      refine mB_run odX0_layEdges 4 (g := (55, [(0, .ref x0), (1, .ref x1), (2, .int x2), (3, .int x3)], [.ref x0, .int (x3 + (1 : Int32))], (h ++ R), 0, 0)) rfl ?_
      obtain ⟨v22, e23, hq⟩ := bsm hq
      refine r_gR odX0_layEdges rfl rfl (gR_ap e23) ?_
      refine mB_run odX0_layEdges 3 (g := (61, [(0, .ref x0), (1, .ref x1), (2, .int x2), (3, .int x3)], [.int (x2 + (1 : Int32)), .ref v22, .int (x3 + (1 : Int32))], (h ++ R), 0, 0)) rfl ?_
      obtain ⟨v24, e25, hq⟩ := bsm hq
      refine r_aI odX0_layEdges rfl (aI_ap e25) ?_
      by_cases c26 : v24 ≤ (x3 + (1 : Int32))
      · rw [if_pos c26] at hq
        refine ic_ge_T (t := 71) odX0_layEdges rfl rfl c26 ?_
        refine mB_run odX0_layEdges 1 (g := (72, [(0, .ref x0), (1, .ref x1), (2, .int x2), (3, .int x3)], [.ref x0], (h ++ R), 0, 0)) rfl ?_
        obtain ⟨v27, e28, hq⟩ := bsm hq
        refine r_gR odX0_layEdges rfl rfl (gR_ap e28) ?_
        refine mB_run odX0_layEdges 1 (g := (76, [(0, .ref x0), (1, .ref x1), (2, .int x2), (3, .int x3)], [.int x2, .ref v27], (h ++ R), 0, 0)) rfl ?_
        obtain ⟨v29, e30, hq⟩ := bsm hq
        refine r_aI odX0_layEdges rfl (aI_ap e30) ?_
        refine mB_lv [0, 1, 2, 3] (lv' := [(0, .ref x0), (1, .ref x1), (2, .int x2), (3, .int x3)]) rfl ?_
        exact eaX0_layEdges_77 hrec24 ih _ _ _ _ _ _ hq
      · rw [if_neg c26] at hq
        refine ic_ge_F (t := 71) odX0_layEdges rfl rfl c26 ?_
        refine mB_run odX0_layEdges 4 (g := (77, [(0, .ref x0), (1, .ref x1), (2, .int x2), (3, .int x3)], [.int (x3 + (1 : Int32))], (h ++ R), 0, 0)) rfl ?_
        refine mB_lv [0, 1, 2, 3] (lv' := [(0, .ref x0), (1, .ref x1), (2, .int x2), (3, .int x3)]) rfl ?_
        exact eaX0_layEdges_77 hrec24 ih _ _ _ _ _ _ hq
def fxX0_layEdges_191 (N : Nat) (rec113 : Nat → Nat → Int32 → mh → Option mh) (rec128 : Nat → Nat → Int32 → Int32 → mh → Option mh) (x0 : Nat) (x1 : Nat) (x2 : Int32) (x3 : Int32) (h : mh) : Option mh :=
  rec128 x0 x1 x2 (x3 + (1 : Int32)) h
set_option maxHeartbeats 4000000 in
set_option maxRecDepth 100000 in
theorem eaX0_layEdges_191 {N : Nat} {R : mh} {rec113 : Nat → Nat → Int32 → mh → Option mh} {rec128 : Nat → Nat → Int32 → Int32 → mh → Option mh} (hrec113 : ∀ (x0 : Nat) (x1 : Nat) (x2 : Int32) (h : mh) {o : mh}, rec113 x0 x1 x2 h = some o → mB (gO mX0_layEdges (o ++ R, none)) mX0_layEdges (113, [(0, .ref x0), (1, .ref x1), (2, .int x2)], [], (h ++ R), 0, 0)) (hrec128 : ∀ (x0 : Nat) (x1 : Nat) (x2 : Int32) (x3 : Int32) (h : mh) {o : mh}, rec128 x0 x1 x2 x3 h = some o → mB (gO mX0_layEdges (o ++ R, none)) mX0_layEdges (128, [(0, .ref x0), (1, .ref x1), (2, .int x2), (3, .int x3)], [], (h ++ R), 0, 0)) (x0 : Nat) (x1 : Nat) (x2 : Int32) (x3 : Int32) (h : mh) {o : mh} (hq : fxX0_layEdges_191 N rec113 rec128 x0 x1 x2 x3 h = some o) : mB (gO mX0_layEdges (o ++ R, none)) mX0_layEdges (191, [(0, .ref x0), (1, .ref x1), (2, .int x2), (3, .int x3)], [], (h ++ R), 0, 0) := by
  unfold fxX0_layEdges_191 at hq
  refine mB_run odX0_layEdges 2 (g := (128, [(3, .int (x3 + (1 : Int32))), (0, .ref x0), (1, .ref x1), (2, .int x2)], [], (h ++ R), 0, 0)) rfl ?_
  refine mB_lv [1, 2, 3, 0] (lv' := [(0, .ref x0), (1, .ref x1), (2, .int x2), (3, .int (x3 + (1 : Int32)))]) rfl ?_
  exact hrec128 _ _ _ _ _ hq
def fxX0_layEdges_128 (N : Nat) (rec113 : Nat → Nat → Int32 → mh → Option mh) : Nat → Nat → Nat → Int32 → Int32 → mh → Option mh
  | 0, _, _, _, _, _ => none
  | n + 1, x0, x1, x2, x3, h =>
    (gR h x0 0 1).bind fun v46 =>
    (gI h v46 3 0).bind fun v48 =>
    if v48 ≤ x3 then (
      rec113 x0 x1 (x2 + (1 : Int32)) h) else (
      (aI h x1 ((x2 * (24 : Int32)) + x3)).bind fun v51 =>
      (aI h x1 ((x3 * (24 : Int32)) + x2)).bind fun v53 =>
      if v51 = (-1 : Int32) then (
        fxX0_layEdges_191 N rec113 (fxX0_layEdges_128 N rec113 n) x0 x1 x2 x3 h) else (
        if v53 = (-1 : Int32) then (
          fxX0_layEdges_191 N rec113 (fxX0_layEdges_128 N rec113 n) x0 x1 x2 x3 h) else (
          (kO h x0 0).bind fun f59 =>
          (fxX0_addEdge N x0 x2 x3 (if v53 < v51 then v53 else v51) (if v51 < v53 then v53 else v51) h).bind fun o57 =>
          fxX0_layEdges_191 N rec113 (fxX0_layEdges_128 N rec113 n) x0 x1 x2 x3 o57)))
set_option maxHeartbeats 4000000 in
set_option maxRecDepth 100000 in
theorem eaX0_layEdges_128 {N : Nat} {R : mh} {rec113 : Nat → Nat → Int32 → mh → Option mh} (hrec113 : ∀ (x0 : Nat) (x1 : Nat) (x2 : Int32) (h : mh) {o : mh}, rec113 x0 x1 x2 h = some o → mB (gO mX0_layEdges (o ++ R, none)) mX0_layEdges (113, [(0, .ref x0), (1, .ref x1), (2, .int x2)], [], (h ++ R), 0, 0)) : ∀ (n : Nat) (x0 : Nat) (x1 : Nat) (x2 : Int32) (x3 : Int32) (h : mh) {o : mh}, fxX0_layEdges_128 N rec113 n x0 x1 x2 x3 h = some o → mB (gO mX0_layEdges (o ++ R, none)) mX0_layEdges (128, [(0, .ref x0), (1, .ref x1), (2, .int x2), (3, .int x3)], [], (h ++ R), 0, 0) := by
  intro n
  induction n with
  | zero => intro x0 x1 x2 x3 h o hq; cases hq
  | succ n ih =>
    intro x0 x1 x2 x3 h o hq
    unfold fxX0_layEdges_128 at hq
    refine mB_run odX0_layEdges 2 (g := (130, [(0, .ref x0), (1, .ref x1), (2, .int x2), (3, .int x3)], [.ref x0, .int x3], (h ++ R), 0, 0)) rfl ?_
    obtain ⟨v46, e47, hq⟩ := bsm hq
    refine r_gR odX0_layEdges rfl rfl (gR_ap e47) ?_
    obtain ⟨v48, e49, hq⟩ := bsm hq
    refine r_gI odX0_layEdges rfl rfl (gI_ap e49) ?_
    by_cases c50 : v48 ≤ x3
    · rw [if_pos c50] at hq
      refine ic_ge_T (t := 197) odX0_layEdges rfl rfl c50 ?_
      refine mB_run odX0_layEdges 2 (g := (113, [(2, .int (x2 + (1 : Int32))), (0, .ref x0), (1, .ref x1), (3, .int x3)], [], (h ++ R), 0, 0)) rfl ?_
      refine mB_lv [1, 2, 0] (lv' := [(0, .ref x0), (1, .ref x1), (2, .int (x2 + (1 : Int32)))]) rfl ?_
      exact hrec113 _ _ _ _ hq
    · rw [if_neg c50] at hq
      refine ic_ge_F (t := 197) odX0_layEdges rfl rfl c50 ?_
      refine mB_run odX0_layEdges 6 (g := (146, [(0, .ref x0), (1, .ref x1), (2, .int x2), (3, .int x3)], [.int ((x2 * (24 : Int32)) + x3), .ref x1], (h ++ R), 0, 0)) rfl ?_
      obtain ⟨v51, e52, hq⟩ := bsm hq
      refine r_aI odX0_layEdges rfl (aI_ap e52) ?_
      refine mB_run odX0_layEdges 7 (g := (156, [(4, .int v51), (0, .ref x0), (1, .ref x1), (2, .int x2), (3, .int x3)], [.int ((x3 * (24 : Int32)) + x2), .ref x1], (h ++ R), 0, 0)) rfl ?_
      obtain ⟨v53, e54, hq⟩ := bsm hq
      refine r_aI odX0_layEdges rfl (aI_ap e54) ?_
      refine mB_run odX0_layEdges 3 (g := (162, [(5, .int v53), (4, .int v51), (0, .ref x0), (1, .ref x1), (2, .int x2), (3, .int x3)], [.int (-1 : Int32), .int v51], (h ++ R), 0, 0)) rfl ?_
      by_cases c55 : v51 = (-1 : Int32)
      · rw [if_pos c55] at hq
        refine ic_eq_T (t := 191) odX0_layEdges rfl rfl c55 ?_
        refine mB_lv [2, 3, 4, 5] (lv' := [(0, .ref x0), (1, .ref x1), (2, .int x2), (3, .int x3)]) rfl ?_
        exact eaX0_layEdges_191 hrec113 ih _ _ _ _ _ hq
      · rw [if_neg c55] at hq
        refine ic_eq_F (t := 191) odX0_layEdges rfl rfl c55 ?_
        refine mB_run odX0_layEdges 2 (g := (168, [(5, .int v53), (4, .int v51), (0, .ref x0), (1, .ref x1), (2, .int x2), (3, .int x3)], [.int (-1 : Int32), .int v53], (h ++ R), 0, 0)) rfl ?_
        by_cases c56 : v53 = (-1 : Int32)
        · rw [if_pos c56] at hq
          refine ic_eq_T (t := 191) odX0_layEdges rfl rfl c56 ?_
          refine mB_lv [2, 3, 4, 5] (lv' := [(0, .ref x0), (1, .ref x1), (2, .int x2), (3, .int x3)]) rfl ?_
          exact eaX0_layEdges_191 hrec113 ih _ _ _ _ _ hq
        · rw [if_neg c56] at hq
          refine ic_eq_F (t := 191) odX0_layEdges rfl rfl c56 ?_
          refine mB_run odX0_layEdges 9 (g := (188, [(5, .int v53), (4, .int v51), (0, .ref x0), (1, .ref x1), (2, .int x2), (3, .int x3)], [.int (if v51 < v53 then v53 else v51), .int (if v53 < v51 then v53 else v51), .int x3, .int x2, .ref x0], (h ++ R), 0, 0)) rfl ?_
          obtain ⟨f59, k60, hq⟩ := bsm hq
          obtain ⟨o57, e58, hq⟩ := bsm hq
          refine mB_V (as := [.int x2, .int x3, .int (if v53 < v51 then v53 else v51), .int (if v51 < v53 then v53 else v51)]) odX0_layEdges okX0_addEdge lk_0_116 rfl (eaX0_addEdge e58) (kO_at (kO_ap k60)) rfl rfl rfl ?_
          show mB _ mX0_layEdges (191, [(5, .int v53), (4, .int v51), (0, .ref x0), (1, .ref x1), (2, .int x2), (3, .int x3)], [], (o57 ++ R), 0, 0)
          refine mB_lv [2, 3, 4, 5] (lv' := [(0, .ref x0), (1, .ref x1), (2, .int x2), (3, .int x3)]) rfl ?_
          exact eaX0_layEdges_191 hrec113 ih _ _ _ _ _ hq
def fxX0_layEdges_113 (N : Nat) : Nat → Nat → Nat → Int32 → mh → Option mh
  | 0, _, _, _, _ => none
  | n + 1, x0, x1, x2, h =>
    (gR h x0 0 1).bind fun v41 =>
    (gI h v41 3 0).bind fun v43 =>
    if v43 ≤ x2 then (
      some h) else (
      fxX0_layEdges_128 N (fxX0_layEdges_113 N n) N x0 x1 x2 (x2 + (1 : Int32)) h)
set_option maxHeartbeats 4000000 in
set_option maxRecDepth 100000 in
theorem eaX0_layEdges_113 {N : Nat} {R : mh} : ∀ (n : Nat) (x0 : Nat) (x1 : Nat) (x2 : Int32) (h : mh) {o : mh}, fxX0_layEdges_113 N n x0 x1 x2 h = some o → mB (gO mX0_layEdges (o ++ R, none)) mX0_layEdges (113, [(0, .ref x0), (1, .ref x1), (2, .int x2)], [], (h ++ R), 0, 0) := by
  intro n
  induction n with
  | zero => intro x0 x1 x2 h o hq; cases hq
  | succ n ih =>
    intro x0 x1 x2 h o hq
    unfold fxX0_layEdges_113 at hq
    refine mB_run odX0_layEdges 2 (g := (115, [(0, .ref x0), (1, .ref x1), (2, .int x2)], [.ref x0, .int x2], (h ++ R), 0, 0)) rfl ?_
    obtain ⟨v41, e42, hq⟩ := bsm hq
    refine r_gR odX0_layEdges rfl rfl (gR_ap e42) ?_
    obtain ⟨v43, e44, hq⟩ := bsm hq
    refine r_gI odX0_layEdges rfl rfl (gI_ap e44) ?_
    by_cases c45 : v43 ≤ x2
    · rw [if_pos c45] at hq
      refine ic_ge_T (t := 203) odX0_layEdges rfl rfl c45 ?_
      cases hq
      exact mB_ret odX0_layEdges rfl
    · rw [if_neg c45] at hq
      refine ic_ge_F (t := 203) odX0_layEdges rfl rfl c45 ?_
      refine mB_run odX0_layEdges 4 (g := (128, [(3, .int (x2 + (1 : Int32))), (0, .ref x0), (1, .ref x1), (2, .int x2)], [], (h ++ R), 0, 0)) rfl ?_
      refine mB_lv [1, 2, 3, 0] (lv' := [(0, .ref x0), (1, .ref x1), (2, .int x2), (3, .int (x2 + (1 : Int32)))]) rfl ?_
      exact eaX0_layEdges_128 ih N _ _ _ _ _ hq
def fxX0_layEdges_24 (N : Nat) : Nat → Nat → Nat → Int32 → mh → Option mh
  | 0, _, _, _, _ => none
  | n + 1, x0, x1, x2, h =>
    (gI h x0 0 2).bind fun v10 =>
    if v10 ≤ x2 then (
      fxX0_layEdges_113 N N x0 x1 (0 : Int32) h) else (
      (gR h x0 0 4).bind fun v13 =>
      (aI h v13 x2).bind fun v15 =>
      fxX0_layEdges_39 N (fxX0_layEdges_24 N n) N x0 x1 x2 v15 h)
set_option maxHeartbeats 4000000 in
set_option maxRecDepth 100000 in
theorem eaX0_layEdges_24 {N : Nat} {R : mh} : ∀ (n : Nat) (x0 : Nat) (x1 : Nat) (x2 : Int32) (h : mh) {o : mh}, fxX0_layEdges_24 N n x0 x1 x2 h = some o → mB (gO mX0_layEdges (o ++ R, none)) mX0_layEdges (24, [(0, .ref x0), (1, .ref x1), (2, .int x2)], [], (h ++ R), 0, 0) := by
  intro n
  induction n with
  | zero => intro x0 x1 x2 h o hq; cases hq
  | succ n ih =>
    intro x0 x1 x2 h o hq
    unfold fxX0_layEdges_24 at hq
    refine mB_run odX0_layEdges 2 (g := (26, [(0, .ref x0), (1, .ref x1), (2, .int x2)], [.ref x0, .int x2], (h ++ R), 0, 0)) rfl ?_
    obtain ⟨v10, e11, hq⟩ := bsm hq
    refine r_gI odX0_layEdges rfl rfl (gI_ap e11) ?_
    by_cases c12 : v10 ≤ x2
    · rw [if_pos c12] at hq
      refine ic_ge_T (t := 111) odX0_layEdges rfl rfl c12 ?_
      refine mB_run odX0_layEdges 2 (g := (113, [(2, .int (0 : Int32)), (0, .ref x0), (1, .ref x1)], [], (h ++ R), 0, 0)) rfl ?_
      refine mB_lv [1, 2, 0] (lv' := [(0, .ref x0), (1, .ref x1), (2, .int (0 : Int32))]) rfl ?_
      exact eaX0_layEdges_113 N _ _ _ _ hq
    · rw [if_neg c12] at hq
      refine ic_ge_F (t := 111) odX0_layEdges rfl rfl c12 ?_
      refine mB_run odX0_layEdges 1 (g := (33, [(0, .ref x0), (1, .ref x1), (2, .int x2)], [.ref x0], (h ++ R), 0, 0)) rfl ?_
      obtain ⟨v13, e14, hq⟩ := bsm hq
      refine r_gR odX0_layEdges rfl rfl (gR_ap e14) ?_
      refine mB_run odX0_layEdges 1 (g := (37, [(0, .ref x0), (1, .ref x1), (2, .int x2)], [.int x2, .ref v13], (h ++ R), 0, 0)) rfl ?_
      obtain ⟨v15, e16, hq⟩ := bsm hq
      refine r_aI odX0_layEdges rfl (aI_ap e16) ?_
      refine mB_run odX0_layEdges 1 (g := (39, [(3, .int v15), (0, .ref x0), (1, .ref x1), (2, .int x2)], [], (h ++ R), 0, 0)) rfl ?_
      refine mB_lv [1, 2, 3, 0] (lv' := [(0, .ref x0), (1, .ref x1), (2, .int x2), (3, .int v15)]) rfl ?_
      exact eaX0_layEdges_39 ih N _ _ _ _ _ hq
def fxX0_layEdges (N : Nat) (p0 : Nat) (p1 : Nat) (h : mh) : Option mh :=
  (gI h p0 0 0).bind fun v1 =>
  if v1 = (2 : Int32) then (
    (kO h p0 0).bind fun f6 =>
    (fxX0_addEdge N p0 (0 : Int32) (1 : Int32) (-1 : Int32) (-1 : Int32) h).bind fun o4 =>
    some o4) else (
    (fxJ7_fill_53178 N p1 (-1 : Int32) h).bind fun o8 =>
    fxX0_layEdges_24 N N p0 p1 (0 : Int32) o8)
set_option maxHeartbeats 4000000 in
set_option maxRecDepth 100000 in
theorem eaX0_layEdges {N : Nat} {R : mh} {p0 : Nat} {p1 : Nat} {h : mh} {o : mh} (hq : fxX0_layEdges N p0 p1 h = some o) : mC mX0_layEdges [.ref p0, .ref p1] (h ++ R) (o ++ R, none) := by
  refine mC_of okX0_layEdges (Nat.le_of_ble_eq_true rfl) ?_
  unfold fxX0_layEdges at hq
  show mB _ mX0_layEdges (0, [(0, .ref p0), (1, .ref p1)], [], (h ++ R), 0, 0)
  refine mB_run odX0_layEdges 1 (g := (1, [(0, .ref p0), (1, .ref p1)], [.ref p0], (h ++ R), 0, 0)) rfl ?_
  obtain ⟨v1, e2, hq⟩ := bsm hq
  refine r_gI odX0_layEdges rfl rfl (gI_ap e2) ?_
  refine mB_run odX0_layEdges 1 (g := (5, [(0, .ref p0), (1, .ref p1)], [.int (2 : Int32), .int v1], (h ++ R), 0, 0)) rfl ?_
  by_cases c3 : v1 = (2 : Int32)
  · rw [if_pos c3] at hq
    refine ic_ne_F (t := 17) odX0_layEdges rfl rfl c3 ?_
    refine mB_run odX0_layEdges 5 (g := (13, [(0, .ref p0), (1, .ref p1)], [.int (-1 : Int32), .int (-1 : Int32), .int (1 : Int32), .int (0 : Int32), .ref p0], (h ++ R), 0, 0)) rfl ?_
    obtain ⟨f6, k7, hq⟩ := bsm hq
    obtain ⟨o4, e5, hq⟩ := bsm hq
    refine mB_V (as := [.int (0 : Int32), .int (1 : Int32), .int (-1 : Int32), .int (-1 : Int32)]) odX0_layEdges okX0_addEdge lk_0_116 rfl (eaX0_addEdge e5) (kO_at (kO_ap k7)) rfl rfl rfl ?_
    show mB _ mX0_layEdges (16, [(0, .ref p0), (1, .ref p1)], [], (o4 ++ R), 0, 0)
    cases hq
    exact mB_ret odX0_layEdges rfl
  · rw [if_neg c3] at hq
    refine ic_ne_T (t := 17) odX0_layEdges rfl rfl c3 ?_
    refine mB_run odX0_layEdges 2 (g := (19, [(0, .ref p0), (1, .ref p1)], [.int (-1 : Int32), .ref p1], (h ++ R), 0, 0)) rfl ?_
    obtain ⟨o8, e9, hq⟩ := bsm hq
    refine mB_S (as := [.ref p1, .int (-1 : Int32)]) odX0_layEdges okJ7_fill_53178 lk_0_120 rfl (eaJ7_fill_53178 e9) rfl rfl rfl ?_
    show mB _ mX0_layEdges (22, [(0, .ref p0), (1, .ref p1)], [], (o8 ++ R), 0, 0)
    refine mB_run odX0_layEdges 2 (g := (24, [(2, .int (0 : Int32)), (0, .ref p0), (1, .ref p1)], [], (o8 ++ R), 0, 0)) rfl ?_
    refine mB_lv [1, 2, 0] (lv' := [(0, .ref p0), (1, .ref p1), (2, .int (0 : Int32))]) rfl ?_
    exact eaX0_layEdges_24 N _ _ _ _ hq
def fxX0_steepness (N : Nat) (p0 : Int64) (p1 : Int64) (p2 : Int64) (h : mh) : Option (mh × Int64) :=
  some (h, (((p0 * p0) + (p1 * p1)) + (p2 * p2)))
set_option maxHeartbeats 4000000 in
set_option maxRecDepth 100000 in
theorem eaX0_steepness {N : Nat} {R : mh} {p0 : Int64} {p1 : Int64} {p2 : Int64} {h : mh} {o : (mh × Int64)} (hq : fxX0_steepness N p0 p1 p2 h = some o) : mC mX0_steepness [.long p0, .long p1, .long p2] (h ++ R) (o.1 ++ R, some (.long o.2)) := by
  refine mC_of okX0_steepness (Nat.le_of_ble_eq_true rfl) ?_
  unfold fxX0_steepness at hq
  show mB _ mX0_steepness (0, [(0, .long p0), (2, .long p1), (4, .long p2)], [], (h ++ R), 0, 0)
  refine mB_run odX0_steepness 11 (g := (13, [(0, .long p0), (2, .long p1), (4, .long p2)], [.long (((p0 * p0) + (p1 * p1)) + (p2 * p2))], (h ++ R), 0, 0)) rfl ?_
  cases hq
  exact mB_ret odX0_steepness rfl
