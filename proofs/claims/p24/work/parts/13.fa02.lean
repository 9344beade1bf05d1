def fxX4_isAbove_106 (N : Nat) (x18 : Int64) (x20 : Int64) (h : mh) : Option (mh × Int32) :=
  if x18 ≤ x20 then (
    some (h, (0 : Int32))) else (
    some (h, (1 : Int32)))
set_option maxHeartbeats 4000000 in
set_option maxRecDepth 100000 in
theorem eaX4_isAbove_106 {N : Nat} {R : mh} (x18 : Int64) (x20 : Int64) (h : mh) {o : (mh × Int32)} (hq : fxX4_isAbove_106 N x18 x20 h = some o) : mB (gO mX4_isAbove (o.1 ++ R, some (.int o.2))) mX4_isAbove (106, [(18, .long x18), (20, .long x20)], [], (h ++ R), 0, 0) := by
  unfold fxX4_isAbove_106 at hq
  refine mB_run odX4_isAbove 2 (g := (110, [(18, .long x18), (20, .long x20)], [.long x20, .long x18], (h ++ R), 0, 0)) rfl ?_
  by_cases c16 : x18 ≤ x20
  · rw [if_pos c16] at hq
    refine lc_le_T (t := 118) odX4_isAbove rfl rfl rfl c16 ?_
    refine mB_run odX4_isAbove 1 (g := (119, [(18, .long x18), (20, .long x20)], [.int (0 : Int32)], (h ++ R), 0, 0)) rfl ?_
    cases hq
    exact mB_ret odX4_isAbove rfl
  · rw [if_neg c16] at hq
    refine lc_le_F (t := 118) odX4_isAbove rfl rfl rfl c16 ?_
    refine mB_run odX4_isAbove 2 (g := (119, [(18, .long x18), (20, .long x20)], [.int (1 : Int32)], (h ++ R), 0, 0)) rfl ?_
    cases hq
    exact mB_ret odX4_isAbove rfl
def fxX4_isAbove_21 (N : Nat) : Nat → Int64 → Int64 → Int64 → Int64 → Int32 → mh → Option (mh × Int32)
  | 0, _, _, _, _, _, _ => none
  | n + 1, x5, x7, x9, x11, x13, h =>
    if (100000 : Int32) ≤ x13 then (
      some (h, (0 : Int32))) else (
      if x7 ≤ (0 : Int64) then (
        some (h, (0 : Int32))) else (
        if x11 ≤ (0 : Int64) then (
          some (h, (0 : Int32))) else (
          if x7 = 0 then none else
          if x11 = 0 then none else
          if (x5 / x7) = (x9 / x11) then (
            if x7 = 0 then none else
            if x11 = 0 then none else
            if (x5 - x5 / x7 * x7) = (0 : Int64) then (
              fxX4_isAbove_106 N (x5 - x5 / x7 * x7) (x9 - x9 / x11 * x11) h) else (
              if (x9 - x9 / x11 * x11) = (0 : Int64) then (
                fxX4_isAbove_106 N (x5 - x5 / x7 * x7) (x9 - x9 / x11 * x11) h) else (
                fxX4_isAbove_21 N n x11 (x9 - x9 / x11 * x11) x7 (x5 - x5 / x7 * x7) (x13 + (1 : Int32)) h))) else (
            if (x5 / x7) ≤ (x9 / x11) then (
              some (h, (0 : Int32))) else (
              some (h, (1 : Int32)))))))
set_option maxHeartbeats 4000000 in
set_option maxRecDepth 100000 in
theorem eaX4_isAbove_21 {N : Nat} {R : mh} : ∀ (n : Nat) (x5 : Int64) (x7 : Int64) (x9 : Int64) (x11 : Int64) (x13 : Int32) (h : mh) {o : (mh × Int32)}, fxX4_isAbove_21 N n x5 x7 x9 x11 x13 h = some o → mB (gO mX4_isAbove (o.1 ++ R, some (.int o.2))) mX4_isAbove (21, [(5, .long x5), (7, .long x7), (9, .long x9), (11, .long x11), (13, .int x13)], [], (h ++ R), 0, 0) := by
  intro n
  induction n with
  | zero => intro x5 x7 x9 x11 x13 h o hq; cases hq
  | succ n ih =>
    intro x5 x7 x9 x11 x13 h o hq
    unfold fxX4_isAbove_21 at hq
    refine mB_run odX4_isAbove 2 (g := (25, [(5, .long x5), (7, .long x7), (9, .long x9), (11, .long x11), (13, .int x13)], [.int (100000 : Int32), .int x13], (h ++ R), 0, 0)) rfl ?_
    by_cases c5 : (100000 : Int32) ≤ x13
    · rw [if_pos c5] at hq
      refine ic_ge_T (t := 142) odX4_isAbove rfl rfl c5 ?_
      refine mB_run odX4_isAbove 1 (g := (143, [(5, .long x5), (7, .long x7), (9, .long x9), (11, .long x11), (13, .int x13)], [.int (0 : Int32)], (h ++ R), 0, 0)) rfl ?_
      cases hq
      exact mB_ret odX4_isAbove rfl
    · rw [if_neg c5] at hq
      refine ic_ge_F (t := 142) odX4_isAbove rfl rfl c5 ?_
      refine mB_run odX4_isAbove 2 (g := (31, [(5, .long x5), (7, .long x7), (9, .long x9), (11, .long x11), (13, .int x13)], [.long (0 : Int64), .long x7], (h ++ R), 0, 0)) rfl ?_
      by_cases c6 : x7 ≤ (0 : Int64)
      · rw [if_pos c6] at hq
        refine lc_le_T (t := 142) odX4_isAbove rfl rfl rfl c6 ?_
        refine mB_run odX4_isAbove 1 (g := (143, [(5, .long x5), (7, .long x7), (9, .long x9), (11, .long x11), (13, .int x13)], [.int (0 : Int32)], (h ++ R), 0, 0)) rfl ?_
        cases hq
        exact mB_ret odX4_isAbove rfl
      · rw [if_neg c6] at hq
        refine lc_le_F (t := 142) odX4_isAbove rfl rfl rfl c6 ?_
        refine mB_run odX4_isAbove 2 (g := (38, [(5, .long x5), (7, .long x7), (9, .long x9), (11, .long x11), (13, .int x13)], [.long (0 : Int64), .long x11], (h ++ R), 0, 0)) rfl ?_
        by_cases c7 : x11 ≤ (0 : Int64)
        · rw [if_pos c7] at hq
          refine lc_le_T (t := 142) odX4_isAbove rfl rfl rfl c7 ?_
          refine mB_run odX4_isAbove 1 (g := (143, [(5, .long x5), (7, .long x7), (9, .long x9), (11, .long x11), (13, .int x13)], [.int (0 : Int32)], (h ++ R), 0, 0)) rfl ?_
          cases hq
          exact mB_ret odX4_isAbove rfl
        · rw [if_neg c7] at hq
          refine lc_le_F (t := 142) odX4_isAbove rfl rfl rfl c7 ?_
          refine mB_run odX4_isAbove 2 (g := (46, [(5, .long x5), (7, .long x7), (9, .long x9), (11, .long x11), (13, .int x13)], [.long x7, .long x5], (h ++ R), 0, 0)) rfl ?_
          by_cases c8 : x7 = 0
          · rw [if_pos c8] at hq; cases hq
          rw [if_neg c8] at hq
          refine r_ldiv odX4_isAbove rfl c8 ?_
          refine mB_run odX4_isAbove 3 (g := (53, [(14, .long (x5 / x7)), (5, .long x5), (7, .long x7), (9, .long x9), (11, .long x11), (13, .int x13)], [.long x11, .long x9], (h ++ R), 0, 0)) rfl ?_
          by_cases c9 : x11 = 0
          · rw [if_pos c9] at hq; cases hq
          rw [if_neg c9] at hq
          refine r_ldiv odX4_isAbove rfl c9 ?_
          refine mB_run odX4_isAbove 3 (g := (60, [(16, .long (x9 / x11)), (14, .long (x5 / x7)), (5, .long x5), (7, .long x7), (9, .long x9), (11, .long x11), (13, .int x13)], [.long (x9 / x11), .long (x5 / x7)], (h ++ R), 0, 0)) rfl ?_
          by_cases c10 : (x5 / x7) = (x9 / x11)
          · rw [if_pos c10] at hq
            refine lc_eq_T (t := 78) odX4_isAbove rfl rfl rfl c10 ?_
            refine mB_run odX4_isAbove 2 (g := (82, [(16, .long (x9 / x11)), (14, .long (x5 / x7)), (5, .long x5), (7, .long x7), (9, .long x9), (11, .long x11), (13, .int x13)], [.long x7, .long x5], (h ++ R), 0, 0)) rfl ?_
            by_cases c11 : x7 = 0
            · rw [if_pos c11] at hq; cases hq
            rw [if_neg c11] at hq
            refine r_lrem odX4_isAbove rfl c11 ?_
            refine mB_run odX4_isAbove 3 (g := (89, [(18, .long (x5 - x5 / x7 * x7)), (16, .long (x9 / x11)), (14, .long (x5 / x7)), (5, .long x5), (7, .long x7), (9, .long x9), (11, .long x11), (13, .int x13)], [.long x11, .long x9], (h ++ R), 0, 0)) rfl ?_
            by_cases c12 : x11 = 0
            · rw [if_pos c12] at hq; cases hq
            rw [if_neg c12] at hq
            refine r_lrem odX4_isAbove rfl c12 ?_
            refine mB_run odX4_isAbove 3 (g := (95, [(20, .long (x9 - x9 / x11 * x11)), (18, .long (x5 - x5 / x7 * x7)), (16, .long (x9 / x11)), (14, .long (x5 / x7)), (5, .long x5), (7, .long x7), (9, .long x9), (11, .long x11), (13, .int x13)], [.long (0 : Int64), .long (x5 - x5 / x7 * x7)], (h ++ R), 0, 0)) rfl ?_
            by_cases c13 : (x5 - x5 / x7 * x7) = (0 : Int64)
            · rw [if_pos c13] at hq
              refine lc_eq_T (t := 106) odX4_isAbove rfl rfl rfl c13 ?_
              refine mB_lv [1, 0] (lv' := [(18, .long (x5 - x5 / x7 * x7)), (20, .long (x9 - x9 / x11 * x11))]) rfl ?_
              exact eaX4_isAbove_106 _ _ _ hq
            · rw [if_neg c13] at hq
              refine lc_eq_F (t := 106) odX4_isAbove rfl rfl rfl c13 ?_
              refine mB_run odX4_isAbove 2 (g := (102, [(20, .long (x9 - x9 / x11 * x11)), (18, .long (x5 - x5 / x7 * x7)), (16, .long (x9 / x11)), (14, .long (x5 / x7)), (5, .long x5), (7, .long x7), (9, .long x9), (11, .long x11), (13, .int x13)], [.long (0 : Int64), .long (x9 - x9 / x11 * x11)], (h ++ R), 0, 0)) rfl ?_
              by_cases c14 : (x9 - x9 / x11 * x11) = (0 : Int64)
              · rw [if_pos c14] at hq
                refine lc_ne_F (t := 120) odX4_isAbove rfl rfl rfl c14 ?_
                refine mB_lv [1, 0] (lv' := [(18, .long (x5 - x5 / x7 * x7)), (20, .long (x9 - x9 / x11 * x11))]) rfl ?_
                exact eaX4_isAbove_106 _ _ _ hq
              · rw [if_neg c14] at hq
                refine lc_ne_T (t := 120) odX4_isAbove rfl rfl rfl c14 ?_
                refine mB_run odX4_isAbove 10 (g := (21, [(13, .int (x13 + (1 : Int32))), (11, .long (x5 - x5 / x7 * x7)), (7, .long (x9 - x9 / x11 * x11)), (9, .long x7), (5, .long x11), (20, .long (x9 - x9 / x11 * x11)), (18, .long (x5 - x5 / x7 * x7)), (16, .long (x9 / x11)), (14, .long (x5 / x7))], [], (h ++ R), 0, 0)) rfl ?_
                refine mB_lv [4, 2, 3, 1, 0] (lv' := [(5, .long x11), (7, .long (x9 - x9 / x11 * x11)), (9, .long x7), (11, .long (x5 - x5 / x7 * x7)), (13, .int (x13 + (1 : Int32)))]) rfl ?_
                exact ih _ _ _ _ _ _ hq
          · rw [if_neg c10] at hq
            refine lc_eq_F (t := 78) odX4_isAbove rfl rfl rfl c10 ?_
            refine mB_run odX4_isAbove 2 (g := (68, [(16, .long (x9 / x11)), (14, .long (x5 / x7)), (5, .long x5), (7, .long x7), (9, .long x9), (11, .long x11), (13, .int x13)], [.long (x9 / x11), .long (x5 / x7)], (h ++ R), 0, 0)) rfl ?_
            by_cases c15 : (x5 / x7) ≤ (x9 / x11)
            · rw [if_pos c15] at hq
              refine lc_le_T (t := 76) odX4_isAbove rfl rfl rfl c15 ?_
              refine mB_run odX4_isAbove 1 (g := (77, [(16, .long (x9 / x11)), (14, .long (x5 / x7)), (5, .long x5), (7, .long x7), (9, .long x9), (11, .long x11), (13, .int x13)], [.int (0 : Int32)], (h ++ R), 0, 0)) rfl ?_
              cases hq
              exact mB_ret odX4_isAbove rfl
            · rw [if_neg c15] at hq
              refine lc_le_F (t := 76) odX4_isAbove rfl rfl rfl c15 ?_
              refine mB_run odX4_isAbove 2 (g := (77, [(16, .long (x9 / x11)), (14, .long (x5 / x7)), (5, .long x5), (7, .long x7), (9, .long x9), (11, .long x11), (13, .int x13)], [.int (1 : Int32)], (h ++ R), 0, 0)) rfl ?_
              cases hq
              exact mB_ret odX4_isAbove rfl
def fxX4_isAbove (N : Nat) (p0 : Nat) (p1 : Int64) (p2 : Int64) (h : mh) : Option (mh × Int32) :=
  (gJ h p0 4 0).bind fun v1 =>
  (gJ h p0 4 1).bind fun v3 =>
  fxX4_isAbove_21 N N v1 v3 p1 p2 (0 : Int32) h
set_option maxHeartbeats 4000000 in
set_option maxRecDepth 100000 in
theorem eaX4_isAbove {N : Nat} {R : mh} {p0 : Nat} {p1 : Int64} {p2 : Int64} {h : mh} {o : (mh × Int32)} (hq : fxX4_isAbove N p0 p1 p2 h = some o) : mC mX4_isAbove [.ref p0, .long p1, .long p2] (h ++ R) (o.1 ++ R, some (.int o.2)) := by
  refine mC_of okX4_isAbove (Nat.le_of_ble_eq_true rfl) ?_
  unfold fxX4_isAbove at hq
  show mB _ mX4_isAbove (0, [(0, .ref p0), (1, .long p1), (3, .long p2)], [], (h ++ R), 0, 0)
  refine mB_run odX4_isAbove 1 (g := (1, [(0, .ref p0), (1, .long p1), (3, .long p2)], [.ref p0], (h ++ R), 0, 0)) rfl ?_
  obtain ⟨v1, e2, hq⟩ := bsm hq
  refine r_gJ odX4_isAbove rfl rfl (gJ_ap e2) ?_
  refine mB_run odX4_isAbove 2 (g := (7, [(5, .long v1), (0, .ref p0), (1, .long p1), (3, .long p2)], [.ref p0], (h ++ R), 0, 0)) rfl ?_
  obtain ⟨v3, e4, hq⟩ := bsm hq
  refine r_gJ odX4_isAbove rfl rfl (gJ_ap e4) ?_
  refine mB_run odX4_isAbove 7 (g := (21, [(13, .int (0 : Int32)), (11, .long p2), (9, .long p1), (7, .long v3), (5, .long v1), (0, .ref p0), (1, .long p1), (3, .long p2)], [], (h ++ R), 0, 0)) rfl ?_
  refine mB_lv [4, 3, 2, 1, 0] (lv' := [(5, .long v1), (7, .long v3), (9, .long p1), (11, .long p2), (13, .int (0 : Int32))]) rfl ?_
  exact eaX4_isAbove_21 N _ _ _ _ _ _ hq
def fxX4_put (N : Nat) (p0 : Nat) (p1 : Int64) (p2 : Int64) (h : mh) : Option mh :=
  (fxX6_divisor N (if 0 < p1 then p1 else -p1) p2 h).bind fun o1 =>
  if o1.2 ≤ (0 : Int64) then (
    some o1.1) else (
    if o1.2 = 0 then none else
    (sV o1.1 p0 4 0 (.long (p1 / o1.2))).bind fun h5 =>
    if o1.2 = 0 then none else
    (sV h5 p0 4 1 (.long (p2 / o1.2))).bind fun h8 =>
    some h8)
set_option maxHeartbeats 4000000 in
set_option maxRecDepth 100000 in
theorem eaX4_put {N : Nat} {R : mh} {p0 : Nat} {p1 : Int64} {p2 : Int64} {h : mh} {o : mh} (hq : fxX4_put N p0 p1 p2 h = some o) : mC mX4_put [.ref p0, .long p1, .long p2] (h ++ R) (o ++ R, none) := by
  refine mC_of okX4_put (Nat.le_of_ble_eq_true rfl) ?_
  unfold fxX4_put at hq
  show mB _ mX4_put (0, [(0, .ref p0), (1, .long p1), (3, .long p2)], [], (h ++ R), 0, 0)
  refine mB_run odX4_put 3 (g := (5, [(0, .ref p0), (1, .long p1), (3, .long p2)], [.long p2, .long (if 0 < p1 then p1 else -p1)], (h ++ R), 0, 0)) rfl ?_
  obtain ⟨o1, e2, hq⟩ := bsm hq
  refine mB_NS (as := [.long (if 0 < p1 then p1 else -p1), .long p2]) odX4_put okX6_divisor lk_4_24 rfl (eaX6_divisor e2) rfl rfl rfl ?_
  show mB _ mX4_put (8, [(0, .ref p0), (1, .long p1), (3, .long p2)], [.long o1.2], (o1.1 ++ R), 0, 0)
  refine mB_run odX4_put 3 (g := (13, [(5, .long o1.2), (0, .ref p0), (1, .long p1), (3, .long p2)], [.long (0 : Int64), .long o1.2], (o1.1 ++ R), 0, 0)) rfl ?_
  by_cases c3 : o1.2 ≤ (0 : Int64)
  · rw [if_pos c3] at hq
    refine lc_le_T (t := 33) odX4_put rfl rfl rfl c3 ?_
    cases hq
    exact mB_ret odX4_put rfl
  · rw [if_neg c3] at hq
    refine lc_le_F (t := 33) odX4_put rfl rfl rfl c3 ?_
    refine mB_run odX4_put 3 (g := (21, [(5, .long o1.2), (0, .ref p0), (1, .long p1), (3, .long p2)], [.long o1.2, .long p1, .ref p0], (o1.1 ++ R), 0, 0)) rfl ?_
    by_cases c4 : o1.2 = 0
    · rw [if_pos c4] at hq; cases hq
    rw [if_neg c4] at hq
    refine r_ldiv odX4_put rfl c4 ?_
    obtain ⟨h5, e6, hq⟩ := bsm hq
    refine r_sV odX4_put rfl rfl rfl rfl (sV_ap e6) ?_
    refine mB_run odX4_put 3 (g := (29, [(5, .long o1.2), (0, .ref p0), (1, .long p1), (3, .long p2)], [.long o1.2, .long p2, .ref p0], (h5 ++ R), 0, 0)) rfl ?_
    by_cases c7 : o1.2 = 0
    · rw [if_pos c7] at hq; cases hq
    rw [if_neg c7] at hq
    refine r_ldiv odX4_put rfl c7 ?_
    obtain ⟨h8, e9, hq⟩ := bsm hq
    refine r_sV odX4_put rfl rfl rfl rfl (sV_ap e9) ?_
    cases hq
    exact mB_ret odX4_put rfl
def fxX0_offerSlit_26 (N : Nat) (x0 : Nat) (x1 : Int64) (x3 : Int64) (h : mh) : Option mh :=
  (gR h x0 0 8).bind fun v13 =>
  (kO h v13 4).bind fun f17 =>
  (fxX4_put N v13 (x1 * x1) x3 h).bind fun o15 =>
  some o15
set_option maxHeartbeats 4000000 in
set_option maxRecDepth 100000 in
theorem eaX0_offerSlit_26 {N : Nat} {R : mh} (x0 : Nat) (x1 : Int64) (x3 : Int64) (h : mh) {o : mh} (hq : fxX0_offerSlit_26 N x0 x1 x3 h = some o) : mB (gO mX0_offerSlit (o ++ R, none)) mX0_offerSlit (26, [(0, .ref x0), (1, .long x1), (3, .long x3)], [], (h ++ R), 0, 0) := by
  unfold fxX0_offerSlit_26 at hq
  refine mB_run odX0_offerSlit 1 (g := (27, [(0, .ref x0), (1, .long x1), (3, .long x3)], [.ref x0], (h ++ R), 0, 0)) rfl ?_
  obtain ⟨v13, e14, hq⟩ := bsm hq
  refine r_gR odX0_offerSlit rfl rfl (gR_ap e14) ?_
  refine mB_run odX0_offerSlit 4 (g := (34, [(0, .ref x0), (1, .long x1), (3, .long x3)], [.long x3, .long (x1 * x1), .ref v13], (h ++ R), 0, 0)) rfl ?_
  obtain ⟨f17, k18, hq⟩ := bsm hq
  obtain ⟨o15, e16, hq⟩ := bsm hq
  refine mB_V (as := [.long (x1 * x1), .long x3]) odX0_offerSlit okX4_put lk_0_174 rfl (eaX4_put e16) (kO_at (kO_ap k18)) rfl rfl rfl ?_
  show mB _ mX0_offerSlit (37, [(0, .ref x0), (1, .long x1), (3, .long x3)], [], (o15 ++ R), 0, 0)
  cases hq
  exact mB_ret odX0_offerSlit rfl
def fxX0_offerSlit (N : Nat) (p0 : Nat) (p1 : Int64) (p2 : Int64) (h : mh) : Option mh :=
  (gR h p0 0 8).bind fun v1 =>
  (gJ h v1 4 1).bind fun v3 =>
  if v3 = (0 : Int64) then (
    fxX0_offerSlit_26 N p0 p1 p2 h) else (
    (gR h p0 0 8).bind fun v6 =>
    (kO h v6 4).bind fun f10 =>
    (fxX4_isAbove N v6 (p1 * p1) p2 h).bind fun o8 =>
    if o8.2 = 0 then (
      some o8.1) else (
      fxX0_offerSlit_26 N p0 p1 p2 o8.1))
set_option maxHeartbeats 4000000 in
set_option maxRecDepth 100000 in
theorem eaX0_offerSlit {N : Nat} {R : mh} {p0 : Nat} {p1 : Int64} {p2 : Int64} {h : mh} {o : mh} (hq : fxX0_offerSlit N p0 p1 p2 h = some o) : mC mX0_offerSlit [.ref p0, .long p1, .long p2] (h ++ R) (o ++ R, none) := by
  refine mC_of okX0_offerSlit (Nat.le_of_ble_eq_true rfl) ?_
  unfold fxX0_offerSlit at hq
  show mB _ mX0_offerSlit (0, [(0, .ref p0), (1, .long p1), (3, .long p2)], [], (h ++ R), 0, 0)
  refine mB_run odX0_offerSlit 1 (g := (1, [(0, .ref p0), (1, .long p1), (3, .long p2)], [.ref p0], (h ++ R), 0, 0)) rfl ?_
  obtain ⟨v1, e2, hq⟩ := bsm hq
  refine r_gR odX0_offerSlit rfl rfl (gR_ap e2) ?_
  obtain ⟨v3, e4, hq⟩ := bsm hq
  refine r_gJ odX0_offerSlit rfl rfl (gJ_ap e4) ?_
  refine mB_run odX0_offerSlit 1 (g := (8, [(0, .ref p0), (1, .long p1), (3, .long p2)], [.long (0 : Int64), .long v3], (h ++ R), 0, 0)) rfl ?_
  by_cases c5 : v3 = (0 : Int64)
  · rw [if_pos c5] at hq
    refine lc_eq_T (t := 26) odX0_offerSlit rfl rfl rfl c5 ?_
    refine mB_lv [0, 1, 2] (lv' := [(0, .ref p0), (1, .long p1), (3, .long p2)]) rfl ?_
    exact eaX0_offerSlit_26 _ _ _ _ hq
  · rw [if_neg c5] at hq
    refine lc_eq_F (t := 26) odX0_offerSlit rfl rfl rfl c5 ?_
    refine mB_run odX0_offerSlit 1 (g := (13, [(0, .ref p0), (1, .long p1), (3, .long p2)], [.ref p0], (h ++ R), 0, 0)) rfl ?_
    obtain ⟨v6, e7, hq⟩ := bsm hq
    refine r_gR odX0_offerSlit rfl rfl (gR_ap e7) ?_
    refine mB_run odX0_offerSlit 4 (g := (20, [(0, .ref p0), (1, .long p1), (3, .long p2)], [.long p2, .long (p1 * p1), .ref v6], (h ++ R), 0, 0)) rfl ?_
    obtain ⟨f10, k11, hq⟩ := bsm hq
    obtain ⟨o8, e9, hq⟩ := bsm hq
    refine mB_V (as := [.long (p1 * p1), .long p2]) odX0_offerSlit okX4_isAbove lk_0_170 rfl (eaX4_isAbove e9) (kO_at (kO_ap k11)) rfl rfl rfl ?_
    show mB _ mX0_offerSlit (23, [(0, .ref p0), (1, .long p1), (3, .long p2)], [.int o8.2], (o8.1 ++ R), 0, 0)
    by_cases c12 : o8.2 = 0
    · rw [if_pos c12] at hq
      refine if_eq_T (t := 37) odX0_offerSlit rfl rfl c12 ?_
      cases hq
      exact mB_ret odX0_offerSlit rfl
    · rw [if_neg c12] at hq
      refine if_eq_F (t := 37) odX0_offerSlit rfl rfl c12 ?_
      refine mB_lv [0, 1, 2] (lv' := [(0, .ref p0), (1, .long p1), (3, .long p2)]) rfl ?_
      exact eaX0_offerSlit_26 _ _ _ _ hq
def fxX0_isPassedBy_122 (N : Nat) (x10 : Int64) (x12 : Int64) (h : mh) : Option (mh × Int32) :=
  if x10 < (0 : Int64) then (
    some (h, (0 : Int32))) else (
    if (0 : Int64) < x12 then (
      some (h, (0 : Int32))) else (
      some (h, (1 : Int32))))
set_option maxHeartbeats 4000000 in
set_option maxRecDepth 100000 in
theorem eaX0_isPassedBy_122 {N : Nat} {R : mh} (x10 : Int64) (x12 : Int64) (h : mh) {o : (mh × Int32)} (hq : fxX0_isPassedBy_122 N x10 x12 h = some o) : mB (gO mX0_isPassedBy (o.1 ++ R, some (.int o.2))) mX0_isPassedBy (122, [(10, .long x10), (12, .long x12)], [], (h ++ R), 0, 0) := by
  unfold fxX0_isPassedBy_122 at hq
  refine mB_run odX0_isPassedBy 2 (g := (125, [(10, .long x10), (12, .long x12)], [.long (0 : Int64), .long x10], (h ++ R), 0, 0)) rfl ?_
  by_cases c35 : x10 < (0 : Int64)
  · rw [if_pos c35] at hq
    refine lc_lt_T (t := 140) odX0_isPassedBy rfl rfl rfl c35 ?_
    refine mB_run odX0_isPassedBy 1 (g := (141, [(10, .long x10), (12, .long x12)], [.int (0 : Int32)], (h ++ R), 0, 0)) rfl ?_
    cases hq
    exact mB_ret odX0_isPassedBy rfl
  · rw [if_neg c35] at hq
    refine lc_lt_F (t := 140) odX0_isPassedBy rfl rfl rfl c35 ?_
    refine mB_run odX0_isPassedBy 2 (g := (132, [(10, .long x10), (12, .long x12)], [.long (0 : Int64), .long x12], (h ++ R), 0, 0)) rfl ?_
    by_cases c36 : (0 : Int64) < x12
    · rw [if_pos c36] at hq
      refine lc_gt_T (t := 140) odX0_isPassedBy rfl rfl rfl c36 ?_
      refine mB_run odX0_isPassedBy 1 (g := (141, [(10, .long x10), (12, .long x12)], [.int (0 : Int32)], (h ++ R), 0, 0)) rfl ?_
      cases hq
      exact mB_ret odX0_isPassedBy rfl
    · rw [if_neg c36] at hq
      refine lc_gt_F (t := 140) odX0_isPassedBy rfl rfl rfl c36 ?_
      refine mB_run odX0_isPassedBy 2 (g := (141, [(10, .long x10), (12, .long x12)], [.int (1 : Int32)], (h ++ R), 0, 0)) rfl ?_
      cases hq
      exact mB_ret odX0_isPassedBy rfl
def fxX0_isPassedBy (N : Nat) (p0 : Nat) (p1 : Int32) (p2 : Int64) (p3 : Int64) (p4 : Int64) (h : mh) : Option (mh × Int32) :=
  (gR h p0 0 7).bind fun v1 =>
  (aI h v1 (((4 : Int32) * p1) + (2 : Int32))).bind fun v3 =>
  (gR h p0 0 7).bind fun v5 =>
  (aI h v5 (((4 : Int32) * p1) + (3 : Int32))).bind fun v7 =>
  (gR h p0 0 3).bind fun v9 =>
  (aI h v9 ((4 : Int32) * v3)).bind fun v11 =>
  (gR h p0 0 3).bind fun v13 =>
  (aI h v13 (((4 : Int32) * v3) + (1 : Int32))).bind fun v15 =>
  (gR h p0 0 3).bind fun v17 =>
  (aI h v17 (((4 : Int32) * v3) + (2 : Int32))).bind fun v19 =>
  (gR h p0 0 3).bind fun v21 =>
  (aI h v21 ((4 : Int32) * v7)).bind fun v23 =>
  (gR h p0 0 3).bind fun v25 =>
  (aI h v25 (((4 : Int32) * v7) + (1 : Int32))).bind fun v27 =>
  (gR h p0 0 3).bind fun v29 =>
  (aI h v29 (((4 : Int32) * v7) + (2 : Int32))).bind fun v31 =>
  if (0 : Int64) < (((v11.toInt64 * p2) + (v15.toInt64 * p3)) + (v19.toInt64 * p4)) then (
    fxX0_isPassedBy_122 N (((v11.toInt64 * p2) + (v15.toInt64 * p3)) + (v19.toInt64 * p4)) (((v23.toInt64 * p2) + (v27.toInt64 * p3)) + (v31.toInt64 * p4)) h) else (
    if (0 : Int64) ≤ (((v23.toInt64 * p2) + (v27.toInt64 * p3)) + (v31.toInt64 * p4)) then (
      some (h, (1 : Int32))) else (
      fxX0_isPassedBy_122 N (((v11.toInt64 * p2) + (v15.toInt64 * p3)) + (v19.toInt64 * p4)) (((v23.toInt64 * p2) + (v27.toInt64 * p3)) + (v31.toInt64 * p4)) h))
set_option maxHeartbeats 4000000 in
set_option maxRecDepth 100000 in
theorem eaX0_isPassedBy {N : Nat} {R : mh} {p0 : Nat} {p1 : Int32} {p2 : Int64} {p3 : Int64} {p4 : Int64} {h : mh} {o : (mh × Int32)} (hq : fxX0_isPassedBy N p0 p1 p2 p3 p4 h = some o) : mC mX0_isPassedBy [.ref p0, .int p1, .long p2, .long p3, .long p4] (h ++ R) (o.1 ++ R, some (.int o.2)) := by
  refine mC_of okX0_isPassedBy (Nat.le_of_ble_eq_true rfl) ?_
  unfold fxX0_isPassedBy at hq
  show mB _ mX0_isPassedBy (0, [(0, .ref p0), (1, .int p1), (2, .long p2), (4, .long p3), (6, .long p4)], [], (h ++ R), 0, 0)
  refine mB_run odX0_isPassedBy 2 (g := (2, [(0, .ref p0), (1, .int p1), (2, .long p2), (4, .long p3), (6, .long p4)], [.ref p0, .int (4 : Int32)], (h ++ R), 0, 0)) rfl ?_
  obtain ⟨v1, e2, hq⟩ := bsm hq
  refine r_gR odX0_isPassedBy rfl rfl (gR_ap e2) ?_
  refine mB_run odX0_isPassedBy 5 (g := (10, [(0, .ref p0), (1, .int p1), (2, .long p2), (4, .long p3), (6, .long p4)], [.int (((4 : Int32) * p1) + (2 : Int32)), .ref v1, .int (4 : Int32)], (h ++ R), 0, 0)) rfl ?_
  obtain ⟨v3, e4, hq⟩ := bsm hq
  refine r_aI odX0_isPassedBy rfl (aI_ap e4) ?_
  refine mB_run odX0_isPassedBy 4 (g := (16, [(8, .int ((4 : Int32) * v3)), (0, .ref p0), (1, .int p1), (2, .long p2), (4, .long p3), (6, .long p4)], [.ref p0, .int (4 : Int32)], (h ++ R), 0, 0)) rfl ?_
  obtain ⟨v5, e6, hq⟩ := bsm hq
  refine r_gR odX0_isPassedBy rfl rfl (gR_ap e6) ?_
  refine mB_run odX0_isPassedBy 5 (g := (24, [(8, .int ((4 : Int32) * v3)), (0, .ref p0), (1, .int p1), (2, .long p2), (4, .long p3), (6, .long p4)], [.int (((4 : Int32) * p1) + (3 : Int32)), .ref v5, .int (4 : Int32)], (h ++ R), 0, 0)) rfl ?_
  obtain ⟨v7, e8, hq⟩ := bsm hq
  refine r_aI odX0_isPassedBy rfl (aI_ap e8) ?_
  refine mB_run odX0_isPassedBy 3 (g := (29, [(9, .int ((4 : Int32) * v7)), (8, .int ((4 : Int32) * v3)), (0, .ref p0), (1, .int p1), (2, .long p2), (4, .long p3), (6, .long p4)], [.ref p0], (h ++ R), 0, 0)) rfl ?_
  obtain ⟨v9, e10, hq⟩ := bsm hq
  refine r_gR odX0_isPassedBy rfl rfl (gR_ap e10) ?_
  refine mB_run odX0_isPassedBy 1 (g := (34, [(9, .int ((4 : Int32) * v7)), (8, .int ((4 : Int32) * v3)), (0, .ref p0), (1, .int p1), (2, .long p2), (4, .long p3), (6, .long p4)], [.int ((4 : Int32) * v3), .ref v9], (h ++ R), 0, 0)) rfl ?_
  obtain ⟨v11, e12, hq⟩ := bsm hq
  refine r_aI odX0_isPassedBy rfl (aI_ap e12) ?_
  refine mB_run odX0_isPassedBy 4 (g := (39, [(9, .int ((4 : Int32) * v7)), (8, .int ((4 : Int32) * v3)), (0, .ref p0), (1, .int p1), (2, .long p2), (4, .long p3), (6, .long p4)], [.ref p0, .long (v11.toInt64 * p2)], (h ++ R), 0, 0)) rfl ?_
  obtain ⟨v13, e14, hq⟩ := bsm hq
  refine r_gR odX0_isPassedBy rfl rfl (gR_ap e14) ?_
  refine mB_run odX0_isPassedBy 3 (g := (46, [(9, .int ((4 : Int32) * v7)), (8, .int ((4 : Int32) * v3)), (0, .ref p0), (1, .int p1), (2, .long p2), (4, .long p3), (6, .long p4)], [.int (((4 : Int32) * v3) + (1 : Int32)), .ref v13, .long (v11.toInt64 * p2)], (h ++ R), 0, 0)) rfl ?_
  obtain ⟨v15, e16, hq⟩ := bsm hq
  refine r_aI odX0_isPassedBy rfl (aI_ap e16) ?_
  refine mB_run odX0_isPassedBy 5 (g := (53, [(9, .int ((4 : Int32) * v7)), (8, .int ((4 : Int32) * v3)), (0, .ref p0), (1, .int p1), (2, .long p2), (4, .long p3), (6, .long p4)], [.ref p0, .long ((v11.toInt64 * p2) + (v15.toInt64 * p3))], (h ++ R), 0, 0)) rfl ?_
  obtain ⟨v17, e18, hq⟩ := bsm hq
  refine r_gR odX0_isPassedBy rfl rfl (gR_ap e18) ?_
  refine mB_run odX0_isPassedBy 3 (g := (60, [(9, .int ((4 : Int32) * v7)), (8, .int ((4 : Int32) * v3)), (0, .ref p0), (1, .int p1), (2, .long p2), (4, .long p3), (6, .long p4)], [.int (((4 : Int32) * v3) + (2 : Int32)), .ref v17, .long ((v11.toInt64 * p2) + (v15.toInt64 * p3))], (h ++ R), 0, 0)) rfl ?_
  obtain ⟨v19, e20, hq⟩ := bsm hq
  refine r_aI odX0_isPassedBy rfl (aI_ap e20) ?_
  refine mB_run odX0_isPassedBy 6 (g := (69, [(10, .long (((v11.toInt64 * p2) + (v15.toInt64 * p3)) + (v19.toInt64 * p4))), (9, .int ((4 : Int32) * v7)), (8, .int ((4 : Int32) * v3)), (0, .ref p0), (1, .int p1), (2, .long p2), (4, .long p3), (6, .long p4)], [.ref p0], (h ++ R), 0, 0)) rfl ?_
  obtain ⟨v21, e22, hq⟩ := bsm hq
  refine r_gR odX0_isPassedBy rfl rfl (gR_ap e22) ?_
  refine mB_run odX0_isPassedBy 1 (g := (74, [(10, .long (((v11.toInt64 * p2) + (v15.toInt64 * p3)) + (v19.toInt64 * p4))), (9, .int ((4 : Int32) * v7)), (8, .int ((4 : Int32) * v3)), (0, .ref p0), (1, .int p1), (2, .long p2), (4, .long p3), (6, .long p4)], [.int ((4 : Int32) * v7), .ref v21], (h ++ R), 0, 0)) rfl ?_
  obtain ⟨v23, e24, hq⟩ := bsm hq
  refine r_aI odX0_isPassedBy rfl (aI_ap e24) ?_
  refine mB_run odX0_isPassedBy 4 (g := (79, [(10, .long (((v11.toInt64 * p2) + (v15.toInt64 * p3)) + (v19.toInt64 * p4))), (9, .int ((4 : Int32) * v7)), (8, .int ((4 : Int32) * v3)), (0, .ref p0), (1, .int p1), (2, .long p2), (4, .long p3), (6, .long p4)], [.ref p0, .long (v23.toInt64 * p2)], (h ++ R), 0, 0)) rfl ?_
  obtain ⟨v25, e26, hq⟩ := bsm hq
  refine r_gR odX0_isPassedBy rfl rfl (gR_ap e26) ?_
  refine mB_run odX0_isPassedBy 3 (g := (86, [(10, .long (((v11.toInt64 * p2) + (v15.toInt64 * p3)) + (v19.toInt64 * p4))), (9, .int ((4 : Int32) * v7)), (8, .int ((4 : Int32) * v3)), (0, .ref p0), (1, .int p1), (2, .long p2), (4, .long p3), (6, .long p4)], [.int (((4 : Int32) * v7) + (1 : Int32)), .ref v25, .long (v23.toInt64 * p2)], (h ++ R), 0, 0)) rfl ?_
  obtain ⟨v27, e28, hq⟩ := bsm hq
  refine r_aI odX0_isPassedBy rfl (aI_ap e28) ?_
  refine mB_run odX0_isPassedBy 5 (g := (93, [(10, .long (((v11.toInt64 * p2) + (v15.toInt64 * p3)) + (v19.toInt64 * p4))), (9, .int ((4 : Int32) * v7)), (8, .int ((4 : Int32) * v3)), (0, .ref p0), (1, .int p1), (2, .long p2), (4, .long p3), (6, .long p4)], [.ref p0, .long ((v23.toInt64 * p2) + (v27.toInt64 * p3))], (h ++ R), 0, 0)) rfl ?_
  obtain ⟨v29, e30, hq⟩ := bsm hq
  refine r_gR odX0_isPassedBy rfl rfl (gR_ap e30) ?_
  refine mB_run odX0_isPassedBy 3 (g := (100, [(10, .long (((v11.toInt64 * p2) + (v15.toInt64 * p3)) + (v19.toInt64 * p4))), (9, .int ((4 : Int32) * v7)), (8, .int ((4 : Int32) * v3)), (0, .ref p0), (1, .int p1), (2, .long p2), (4, .long p3), (6, .long p4)], [.int (((4 : Int32) * v7) + (2 : Int32)), .ref v29, .long ((v23.toInt64 * p2) + (v27.toInt64 * p3))], (h ++ R), 0, 0)) rfl ?_
  obtain ⟨v31, e32, hq⟩ := bsm hq
  refine r_aI odX0_isPassedBy rfl (aI_ap e32) ?_
  refine mB_run odX0_isPassedBy 7 (g := (111, [(12, .long (((v23.toInt64 * p2) + (v27.toInt64 * p3)) + (v31.toInt64 * p4))), (10, .long (((v11.toInt64 * p2) + (v15.toInt64 * p3)) + (v19.toInt64 * p4))), (9, .int ((4 : Int32) * v7)), (8, .int ((4 : Int32) * v3)), (0, .ref p0), (1, .int p1), (2, .long p2), (4, .long p3), (6, .long p4)], [.long (0 : Int64), .long (((v11.toInt64 * p2) + (v15.toInt64 * p3)) + (v19.toInt64 * p4))], (h ++ R), 0, 0)) rfl ?_
  by_cases c33 : (0 : Int64) < (((v11.toInt64 * p2) + (v15.toInt64 * p3)) + (v19.toInt64 * p4))
  · rw [if_pos c33] at hq
    refine lc_gt_T (t := 122) odX0_isPassedBy rfl rfl rfl c33 ?_
    refine mB_lv [1, 0] (lv' := [(10, .long (((v11.toInt64 * p2) + (v15.toInt64 * p3)) + (v19.toInt64 * p4))), (12, .long (((v23.toInt64 * p2) + (v27.toInt64 * p3)) + (v31.toInt64 * p4)))]) rfl ?_
    exact eaX0_isPassedBy_122 _ _ _ hq
  · rw [if_neg c33] at hq
    refine lc_gt_F (t := 122) odX0_isPassedBy rfl rfl rfl c33 ?_
    refine mB_run odX0_isPassedBy 2 (g := (118, [(12, .long (((v23.toInt64 * p2) + (v27.toInt64 * p3)) + (v31.toInt64 * p4))), (10, .long (((v11.toInt64 * p2) + (v15.toInt64 * p3)) + (v19.toInt64 * p4))), (9, .int ((4 : Int32) * v7)), (8, .int ((4 : Int32) * v3)), (0, .ref p0), (1, .int p1), (2, .long p2), (4, .long p3), (6, .long p4)], [.long (0 : Int64), .long (((v23.toInt64 * p2) + (v27.toInt64 * p3)) + (v31.toInt64 * p4))], (h ++ R), 0, 0)) rfl ?_
    by_cases c34 : (0 : Int64) ≤ (((v23.toInt64 * p2) + (v27.toInt64 * p3)) + (v31.toInt64 * p4))
    · rw [if_pos c34] at hq
      refine lc_ge_T (t := 136) odX0_isPassedBy rfl rfl rfl c34 ?_
      refine mB_run odX0_isPassedBy 2 (g := (141, [(12, .long (((v23.toInt64 * p2) + (v27.toInt64 * p3)) + (v31.toInt64 * p4))), (10, .long (((v11.toInt64 * p2) + (v15.toInt64 * p3)) + (v19.toInt64 * p4))), (9, .int ((4 : Int32) * v7)), (8, .int ((4 : Int32) * v3)), (0, .ref p0), (1, .int p1), (2, .long p2), (4, .long p3), (6, .long p4)], [.int (1 : Int32)], (h ++ R), 0, 0)) rfl ?_
      cases hq
      exact mB_ret odX0_isPassedBy rfl
    · rw [if_neg c34] at hq
      refine lc_ge_F (t := 136) odX0_isPassedBy rfl rfl rfl c34 ?_
      refine mB_lv [1, 0] (lv' := [(10, .long (((v11.toInt64 * p2) + (v15.toInt64 * p3)) + (v19.toInt64 * p4))), (12, .long (((v23.toInt64 * p2) + (v27.toInt64 * p3)) + (v31.toInt64 * p4)))]) rfl ?_
      exact eaX0_isPassedBy_122 _ _ _ hq
def fxX0_offerEdges (N : Nat) (p0 : Nat) (p1 : Int32) (p2 : Int32) (h : mh) : Option mh :=
  (gR h p0 0 7).bind fun v1 =>
  (aI h v1 ((4 : Int32) * p1)).bind fun v3 =>
  (gR h p0 0 7).bind fun v5 =>
  (aI h v5 (((4 : Int32) * p1) + (1 : Int32))).bind fun v7 =>
  (gR h p0 0 7).bind fun v9 =>
  (aI h v9 ((4 : Int32) * p2)).bind fun v11 =>
  (gR h p0 0 7).bind fun v13 =>
  (aI h v13 (((4 : Int32) * p2) + (1 : Int32))).bind fun v15 =>
  (gR h p0 0 1).bind fun v17 =>
  (gR h v17 3 1).bind fun v19 =>
  (aI h v19 v7).bind fun v21 =>
  (gR h p0 0 1).bind fun v23 =>
  (gR h v23 3 1).bind fun v25 =>
  (aI h v25 v3).bind fun v27 =>
  (gR h p0 0 1).bind fun v29 =>
  (gR h v29 3 2).bind fun v31 =>
  (aI h v31 v7).bind fun v33 =>
  (gR h p0 0 1).bind fun v35 =>
  (gR h v35 3 2).bind fun v37 =>
  (aI h v37 v3).bind fun v39 =>
  (gR h p0 0 1).bind fun v41 =>
  (gR h v41 3 3).bind fun v43 =>
  (aI h v43 v7).bind fun v45 =>
  (gR h p0 0 1).bind fun v47 =>
  (gR h v47 3 3).bind fun v49 =>
  (aI h v49 v3).bind fun v51 =>
  (gR h p0 0 1).bind fun v53 =>
  (gR h v53 3 1).bind fun v55 =>
  (aI h v55 v15).bind fun v57 =>
  (gR h p0 0 1).bind fun v59 =>
  (gR h v59 3 1).bind fun v61 =>
  (aI h v61 v11).bind fun v63 =>
  (gR h p0 0 1).bind fun v65 =>
  (gR h v65 3 2).bind fun v67 =>
  (aI h v67 v15).bind fun v69 =>
  (gR h p0 0 1).bind fun v71 =>
  (gR h v71 3 2).bind fun v73 =>
  (aI h v73 v11).bind fun v75 =>
  (gR h p0 0 1).bind fun v77 =>
  (gR h v77 3 3).bind fun v79 =>
  (aI h v79 v15).bind fun v81 =>
  (gR h p0 0 1).bind fun v83 =>
  (gR h v83 3 3).bind fun v85 =>
  (aI h v85 v11).bind fun v87 =>
  (kO h p0 0).bind fun f91 =>
  (fxX0_isPassedBy N p0 p1 (v57 - v63).toInt64 (v69 - v75).toInt64 (v81 - v87).toInt64 h).bind fun o89 =>
  if o89.2 = 0 then (
    some o89.1) else (
    (kO o89.1 p0 0).bind fun f96 =>
    (fxX0_isPassedBy N p0 p2 (v21 - v27).toInt64 (v33 - v39).toInt64 (v45 - v51).toInt64 o89.1).bind fun o94 =>
    if o94.2 = 0 then (
      some o94.1) else (
      (gR o94.1 p0 0 1).bind fun v99 =>
      (kO o94.1 v99 3).bind fun f103 =>
      (fxX3_along N v99 v3 (((v33 - v39).toInt64 * (v81 - v87).toInt64) - ((v45 - v51).toInt64 * (v69 - v75).toInt64)) (((v45 - v51).toInt64 * (v57 - v63).toInt64) - ((v21 - v27).toInt64 * (v81 - v87).toInt64)) (((v21 - v27).toInt64 * (v69 - v75).toInt64) - ((v33 - v39).toInt64 * (v57 - v63).toInt64)) o94.1).bind fun o101 =>
      (gR o101.1 p0 0 1).bind fun v105 =>
      (kO o101.1 v105 3).bind fun f109 =>
      (fxX3_along N v105 v11 (((v33 - v39).toInt64 * (v81 - v87).toInt64) - ((v45 - v51).toInt64 * (v69 - v75).toInt64)) (((v45 - v51).toInt64 * (v57 - v63).toInt64) - ((v21 - v27).toInt64 * (v81 - v87).toInt64)) (((v21 - v27).toInt64 * (v69 - v75).toInt64) - ((v33 - v39).toInt64 * (v57 - v63).toInt64)) o101.1).bind fun o107 =>
      if (o101.2 - o107.2) = (0 : Int64) then (
        some o107.1) else (
        (fxX0_steepness N (((v33 - v39).toInt64 * (v81 - v87).toInt64) - ((v45 - v51).toInt64 * (v69 - v75).toInt64)) (((v45 - v51).toInt64 * (v57 - v63).toInt64) - ((v21 - v27).toInt64 * (v81 - v87).toInt64)) (((v21 - v27).toInt64 * (v69 - v75).toInt64) - ((v33 - v39).toInt64 * (v57 - v63).toInt64)) o107.1).bind fun o112 =>
        (kO o112.1 p0 0).bind fun f116 =>
        (fxX0_offerSlit N p0 (o101.2 - o107.2) o112.2 o112.1).bind fun o114 =>
        some o114)))
set_option maxHeartbeats 4000000 in
set_option maxRecDepth 100000 in
theorem eaX0_offerEdges {N : Nat} {R : mh} {p0 : Nat} {p1 : Int32} {p2 : Int32} {h : mh} {o : mh} (hq : fxX0_offerEdges N p0 p1 p2 h = some o) : mC mX0_offerEdges [.ref p0, .int p1, .int p2] (h ++ R) (o ++ R, none) := by
  refine mC_of okX0_offerEdges (Nat.le_of_ble_eq_true rfl) ?_
  unfold fxX0_offerEdges at hq
  show mB _ mX0_offerEdges (0, [(0, .ref p0), (1, .int p1), (2, .int p2)], [], (h ++ R), 0, 0)
  refine mB_run odX0_offerEdges 1 (g := (1, [(0, .ref p0), (1, .int p1), (2, .int p2)], [.ref p0], (h ++ R), 0, 0)) rfl ?_
  obtain ⟨v1, e2, hq⟩ := bsm hq
  refine r_gR odX0_offerEdges rfl rfl (gR_ap e2) ?_
  refine mB_run odX0_offerEdges 3 (g := (7, [(0, .ref p0), (1, .int p1), (2, .int p2)], [.int ((4 : Int32) * p1), .ref v1], (h ++ R), 0, 0)) rfl ?_
  obtain ⟨v3, e4, hq⟩ := bsm hq
  refine r_aI odX0_offerEdges rfl (aI_ap e4) ?_
  refine mB_run odX0_offerEdges 2 (g := (10, [(3, .int v3), (0, .ref p0), (1, .int p1), (2, .int p2)], [.ref p0], (h ++ R), 0, 0)) rfl ?_
  obtain ⟨v5, e6, hq⟩ := bsm hq
  refine r_gR odX0_offerEdges rfl rfl (gR_ap e6) ?_
  refine mB_run odX0_offerEdges 5 (g := (18, [(3, .int v3), (0, .ref p0), (1, .int p1), (2, .int p2)], [.int (((4 : Int32) * p1) + (1 : Int32)), .ref v5], (h ++ R), 0, 0)) rfl ?_
  obtain ⟨v7, e8, hq⟩ := bsm hq
  refine r_aI odX0_offerEdges rfl (aI_ap e8) ?_
  refine mB_run odX0_offerEdges 2 (g := (22, [(4, .int v7), (3, .int v3), (0, .ref p0), (1, .int p1), (2, .int p2)], [.ref p0], (h ++ R), 0, 0)) rfl ?_
  obtain ⟨v9, e10, hq⟩ := bsm hq
  refine r_gR odX0_offerEdges rfl rfl (gR_ap e10) ?_
  refine mB_run odX0_offerEdges 3 (g := (28, [(4, .int v7), (3, .int v3), (0, .ref p0), (1, .int p1), (2, .int p2)], [.int ((4 : Int32) * p2), .ref v9], (h ++ R), 0, 0)) rfl ?_
  obtain ⟨v11, e12, hq⟩ := bsm hq
  refine r_aI odX0_offerEdges rfl (aI_ap e12) ?_
  refine mB_run odX0_offerEdges 2 (g := (32, [(5, .int v11), (4, .int v7), (3, .int v3), (0, .ref p0), (1, .int p1), (2, .int p2)], [.ref p0], (h ++ R), 0, 0)) rfl ?_
  obtain ⟨v13, e14, hq⟩ := bsm hq
  refine r_gR odX0_offerEdges rfl rfl (gR_ap e14) ?_
  refine mB_run odX0_offerEdges 5 (g := (40, [(5, .int v11), (4, .int v7), (3, .int v3), (0, .ref p0), (1, .int p1), (2, .int p2)], [.int (((4 : Int32) * p2) + (1 : Int32)), .ref v13], (h ++ R), 0, 0)) rfl ?_
  obtain ⟨v15, e16, hq⟩ := bsm hq
  refine r_aI odX0_offerEdges rfl (aI_ap e16) ?_
  refine mB_run odX0_offerEdges 2 (g := (44, [(6, .int v15), (5, .int v11), (4, .int v7), (3, .int v3), (0, .ref p0), (1, .int p1), (2, .int p2)], [.ref p0], (h ++ R), 0, 0)) rfl ?_
  obtain ⟨v17, e18, hq⟩ := bsm hq
  refine r_gR odX0_offerEdges rfl rfl (gR_ap e18) ?_
  obtain ⟨v19, e20, hq⟩ := bsm hq
  refine r_gR odX0_offerEdges rfl rfl (gR_ap e20) ?_
  refine mB_run odX0_offerEdges 1 (g := (52, [(6, .int v15), (5, .int v11), (4, .int v7), (3, .int v3), (0, .ref p0), (1, .int p1), (2, .int p2)], [.int v7, .ref v19], (h ++ R), 0, 0)) rfl ?_
  obtain ⟨v21, e22, hq⟩ := bsm hq
  refine r_aI odX0_offerEdges rfl (aI_ap e22) ?_
  refine mB_run odX0_offerEdges 1 (g := (54, [(6, .int v15), (5, .int v11), (4, .int v7), (3, .int v3), (0, .ref p0), (1, .int p1), (2, .int p2)], [.ref p0, .int v21], (h ++ R), 0, 0)) rfl ?_
  obtain ⟨v23, e24, hq⟩ := bsm hq
  refine r_gR odX0_offerEdges rfl rfl (gR_ap e24) ?_
  obtain ⟨v25, e26, hq⟩ := bsm hq
  refine r_gR odX0_offerEdges rfl rfl (gR_ap e26) ?_
  refine mB_run odX0_offerEdges 1 (g := (61, [(6, .int v15), (5, .int v11), (4, .int v7), (3, .int v3), (0, .ref p0), (1, .int p1), (2, .int p2)], [.int v3, .ref v25, .int v21], (h ++ R), 0, 0)) rfl ?_
  obtain ⟨v27, e28, hq⟩ := bsm hq
  refine r_aI odX0_offerEdges rfl (aI_ap e28) ?_
  refine mB_run odX0_offerEdges 4 (g := (67, [(7, .long (v21 - v27).toInt64), (6, .int v15), (5, .int v11), (4, .int v7), (3, .int v3), (0, .ref p0), (1, .int p1), (2, .int p2)], [.ref p0], (h ++ R), 0, 0)) rfl ?_
  obtain ⟨v29, e30, hq⟩ := bsm hq
  refine r_gR odX0_offerEdges rfl rfl (gR_ap e30) ?_
  obtain ⟨v31, e32, hq⟩ := bsm hq
  refine r_gR odX0_offerEdges rfl rfl (gR_ap e32) ?_
  refine mB_run odX0_offerEdges 1 (g := (75, [(7, .long (v21 - v27).toInt64), (6, .int v15), (5, .int v11), (4, .int v7), (3, .int v3), (0, .ref p0), (1, .int p1), (2, .int p2)], [.int v7, .ref v31], (h ++ R), 0, 0)) rfl ?_
  obtain ⟨v33, e34, hq⟩ := bsm hq
  refine r_aI odX0_offerEdges rfl (aI_ap e34) ?_
  refine mB_run odX0_offerEdges 1 (g := (77, [(7, .long (v21 - v27).toInt64), (6, .int v15), (5, .int v11), (4, .int v7), (3, .int v3), (0, .ref p0), (1, .int p1), (2, .int p2)], [.ref p0, .int v33], (h ++ R), 0, 0)) rfl ?_
  obtain ⟨v35, e36, hq⟩ := bsm hq
  refine r_gR odX0_offerEdges rfl rfl (gR_ap e36) ?_
  obtain ⟨v37, e38, hq⟩ := bsm hq
  refine r_gR odX0_offerEdges rfl rfl (gR_ap e38) ?_
  refine mB_run odX0_offerEdges 1 (g := (84, [(7, .long (v21 - v27).toInt64), (6, .int v15), (5, .int v11), (4, .int v7), (3, .int v3), (0, .ref p0), (1, .int p1), (2, .int p2)], [.int v3, .ref v37, .int v33], (h ++ R), 0, 0)) rfl ?_
  obtain ⟨v39, e40, hq⟩ := bsm hq
  refine r_aI odX0_offerEdges rfl (aI_ap e40) ?_
  refine mB_run odX0_offerEdges 4 (g := (90, [(9, .long (v33 - v39).toInt64), (7, .long (v21 - v27).toInt64), (6, .int v15), (5, .int v11), (4, .int v7), (3, .int v3), (0, .ref p0), (1, .int p1), (2, .int p2)], [.ref p0], (h ++ R), 0, 0)) rfl ?_
  obtain ⟨v41, e42, hq⟩ := bsm hq
  refine r_gR odX0_offerEdges rfl rfl (gR_ap e42) ?_
  obtain ⟨v43, e44, hq⟩ := bsm hq
  refine r_gR odX0_offerEdges rfl rfl (gR_ap e44) ?_
  refine mB_run odX0_offerEdges 1 (g := (98, [(9, .long (v33 - v39).toInt64), (7, .long (v21 - v27).toInt64), (6, .int v15), (5, .int v11), (4, .int v7), (3, .int v3), (0, .ref p0), (1, .int p1), (2, .int p2)], [.int v7, .ref v43], (h ++ R), 0, 0)) rfl ?_
  obtain ⟨v45, e46, hq⟩ := bsm hq
  refine r_aI odX0_offerEdges rfl (aI_ap e46) ?_
  refine mB_run odX0_offerEdges 1 (g := (100, [(9, .long (v33 - v39).toInt64), (7, .long (v21 - v27).toInt64), (6, .int v15), (5, .int v11), (4, .int v7), (3, .int v3), (0, .ref p0), (1, .int p1), (2, .int p2)], [.ref p0, .int v45], (h ++ R), 0, 0)) rfl ?_
  obtain ⟨v47, e48, hq⟩ := bsm hq
  refine r_gR odX0_offerEdges rfl rfl (gR_ap e48) ?_
  obtain ⟨v49, e50, hq⟩ := bsm hq
  refine r_gR odX0_offerEdges rfl rfl (gR_ap e50) ?_
  refine mB_run odX0_offerEdges 1 (g := (107, [(9, .long (v33 - v39).toInt64), (7, .long (v21 - v27).toInt64), (6, .int v15), (5, .int v11), (4, .int v7), (3, .int v3), (0, .ref p0), (1, .int p1), (2, .int p2)], [.int v3, .ref v49, .int v45], (h ++ R), 0, 0)) rfl ?_
  obtain ⟨v51, e52, hq⟩ := bsm hq
  refine r_aI odX0_offerEdges rfl (aI_ap e52) ?_
  refine mB_run odX0_offerEdges 4 (g := (113, [(11, .long (v45 - v51).toInt64), (9, .long (v33 - v39).toInt64), (7, .long (v21 - v27).toInt64), (6, .int v15), (5, .int v11), (4, .int v7), (3, .int v3), (0, .ref p0), (1, .int p1), (2, .int p2)], [.ref p0], (h ++ R), 0, 0)) rfl ?_
  obtain ⟨v53, e54, hq⟩ := bsm hq
  refine r_gR odX0_offerEdges rfl rfl (gR_ap e54) ?_
  obtain ⟨v55, e56, hq⟩ := bsm hq
  refine r_gR odX0_offerEdges rfl rfl (gR_ap e56) ?_
  refine mB_run odX0_offerEdges 1 (g := (121, [(11, .long (v45 - v51).toInt64), (9, .long (v33 - v39).toInt64), (7, .long (v21 - v27).toInt64), (6, .int v15), (5, .int v11), (4, .int v7), (3, .int v3), (0, .ref p0), (1, .int p1), (2, .int p2)], [.int v15, .ref v55], (h ++ R), 0, 0)) rfl ?_
  obtain ⟨v57, e58, hq⟩ := bsm hq
  refine r_aI odX0_offerEdges rfl (aI_ap e58) ?_
  refine mB_run odX0_offerEdges 1 (g := (123, [(11, .long (v45 - v51).toInt64), (9, .long (v33 - v39).toInt64), (7, .long (v21 - v27).toInt64), (6, .int v15), (5, .int v11), (4, .int v7), (3, .int v3), (0, .ref p0), (1, .int p1), (2, .int p2)], [.ref p0, .int v57], (h ++ R), 0, 0)) rfl ?_
  obtain ⟨v59, e60, hq⟩ := bsm hq
  refine r_gR odX0_offerEdges rfl rfl (gR_ap e60) ?_
  obtain ⟨v61, e62, hq⟩ := bsm hq
  refine r_gR odX0_offerEdges rfl rfl (gR_ap e62) ?_
  refine mB_run odX0_offerEdges 1 (g := (131, [(11, .long (v45 - v51).toInt64), (9, .long (v33 - v39).toInt64), (7, .long (v21 - v27).toInt64), (6, .int v15), (5, .int v11), (4, .int v7), (3, .int v3), (0, .ref p0), (1, .int p1), (2, .int p2)], [.int v11, .ref v61, .int v57], (h ++ R), 0, 0)) rfl ?_
  obtain ⟨v63, e64, hq⟩ := bsm hq
  refine r_aI odX0_offerEdges rfl (aI_ap e64) ?_
  refine mB_run odX0_offerEdges 4 (g := (137, [(13, .long (v57 - v63).toInt64), (11, .long (v45 - v51).toInt64), (9, .long (v33 - v39).toInt64), (7, .long (v21 - v27).toInt64), (6, .int v15), (5, .int v11), (4, .int v7), (3, .int v3), (0, .ref p0), (1, .int p1), (2, .int p2)], [.ref p0], (h ++ R), 0, 0)) rfl ?_
  obtain ⟨v65, e66, hq⟩ := bsm hq
  refine r_gR odX0_offerEdges rfl rfl (gR_ap e66) ?_
  obtain ⟨v67, e68, hq⟩ := bsm hq
  refine r_gR odX0_offerEdges rfl rfl (gR_ap e68) ?_
  refine mB_run odX0_offerEdges 1 (g := (145, [(13, .long (v57 - v63).toInt64), (11, .long (v45 - v51).toInt64), (9, .long (v33 - v39).toInt64), (7, .long (v21 - v27).toInt64), (6, .int v15), (5, .int v11), (4, .int v7), (3, .int v3), (0, .ref p0), (1, .int p1), (2, .int p2)], [.int v15, .ref v67], (h ++ R), 0, 0)) rfl ?_
  obtain ⟨v69, e70, hq⟩ := bsm hq
  refine r_aI odX0_offerEdges rfl (aI_ap e70) ?_
  refine mB_run odX0_offerEdges 1 (g := (147, [(13, .long (v57 - v63).toInt64), (11, .long (v45 - v51).toInt64), (9, .long (v33 - v39).toInt64), (7, .long (v21 - v27).toInt64), (6, .int v15), (5, .int v11), (4, .int v7), (3, .int v3), (0, .ref p0), (1, .int p1), (2, .int p2)], [.ref p0, .int v69], (h ++ R), 0, 0)) rfl ?_
  obtain ⟨v71, e72, hq⟩ := bsm hq
  refine r_gR odX0_offerEdges rfl rfl (gR_ap e72) ?_
  obtain ⟨v73, e74, hq⟩ := bsm hq
  refine r_gR odX0_offerEdges rfl rfl (gR_ap e74) ?_
  refine mB_run odX0_offerEdges 1 (g := (155, [(13, .long (v57 - v63).toInt64), (11, .long (v45 - v51).toInt64), (9, .long (v33 - v39).toInt64), (7, .long (v21 - v27).toInt64), (6, .int v15), (5, .int v11), (4, .int v7), (3, .int v3), (0, .ref p0), (1, .int p1), (2, .int p2)], [.int v11, .ref v73, .int v69], (h ++ R), 0, 0)) rfl ?_
  obtain ⟨v75, e76, hq⟩ := bsm hq
  refine r_aI odX0_offerEdges rfl (aI_ap e76) ?_
  refine mB_run odX0_offerEdges 4 (g := (161, [(15, .long (v69 - v75).toInt64), (13, .long (v57 - v63).toInt64), (11, .long (v45 - v51).toInt64), (9, .long (v33 - v39).toInt64), (7, .long (v21 - v27).toInt64), (6, .int v15), (5, .int v11), (4, .int v7), (3, .int v3), (0, .ref p0), (1, .int p1), (2, .int p2)], [.ref p0], (h ++ R), 0, 0)) rfl ?_
  obtain ⟨v77, e78, hq⟩ := bsm hq
  refine r_gR odX0_offerEdges rfl rfl (gR_ap e78) ?_
  obtain ⟨v79, e80, hq⟩ := bsm hq
  refine r_gR odX0_offerEdges rfl rfl (gR_ap e80) ?_
  refine mB_run odX0_offerEdges 1 (g := (169, [(15, .long (v69 - v75).toInt64), (13, .long (v57 - v63).toInt64), (11, .long (v45 - v51).toInt64), (9, .long (v33 - v39).toInt64), (7, .long (v21 - v27).toInt64), (6, .int v15), (5, .int v11), (4, .int v7), (3, .int v3), (0, .ref p0), (1, .int p1), (2, .int p2)], [.int v15, .ref v79], (h ++ R), 0, 0)) rfl ?_
  obtain ⟨v81, e82, hq⟩ := bsm hq
  refine r_aI odX0_offerEdges rfl (aI_ap e82) ?_
  refine mB_run odX0_offerEdges 1 (g := (171, [(15, .long (v69 - v75).toInt64), (13, .long (v57 - v63).toInt64), (11, .long (v45 - v51).toInt64), (9, .long (v33 - v39).toInt64), (7, .long (v21 - v27).toInt64), (6, .int v15), (5, .int v11), (4, .int v7), (3, .int v3), (0, .ref p0), (1, .int p1), (2, .int p2)], [.ref p0, .int v81], (h ++ R), 0, 0)) rfl ?_
  obtain ⟨v83, e84, hq⟩ := bsm hq
  refine r_gR odX0_offerEdges rfl rfl (gR_ap e84) ?_
  obtain ⟨v85, e86, hq⟩ := bsm hq
  refine r_gR odX0_offerEdges rfl rfl (gR_ap e86) ?_
  refine mB_run odX0_offerEdges 1 (g := (179, [(15, .long (v69 - v75).toInt64), (13, .long (v57 - v63).toInt64), (11, .long (v45 - v51).toInt64), (9, .long (v33 - v39).toInt64), (7, .long (v21 - v27).toInt64), (6, .int v15), (5, .int v11), (4, .int v7), (3, .int v3), (0, .ref p0), (1, .int p1), (2, .int p2)], [.int v11, .ref v85, .int v81], (h ++ R), 0, 0)) rfl ?_
  obtain ⟨v87, e88, hq⟩ := bsm hq
  refine r_aI odX0_offerEdges rfl (aI_ap e88) ?_
  refine mB_run odX0_offerEdges 8 (g := (192, [(17, .long (v81 - v87).toInt64), (15, .long (v69 - v75).toInt64), (13, .long (v57 - v63).toInt64), (11, .long (v45 - v51).toInt64), (9, .long (v33 - v39).toInt64), (7, .long (v21 - v27).toInt64), (6, .int v15), (5, .int v11), (4, .int v7), (3, .int v3), (0, .ref p0), (1, .int p1), (2, .int p2)], [.long (v81 - v87).toInt64, .long (v69 - v75).toInt64, .long (v57 - v63).toInt64, .int p1, .ref p0], (h ++ R), 0, 0)) rfl ?_
  obtain ⟨f91, k92, hq⟩ := bsm hq
  obtain ⟨o89, e90, hq⟩ := bsm hq
  refine mB_V (as := [.int p1, .long (v57 - v63).toInt64, .long (v69 - v75).toInt64, .long (v81 - v87).toInt64]) odX0_offerEdges okX0_isPassedBy lk_0_177 rfl (eaX0_isPassedBy e90) (kO_at (kO_ap k92)) rfl rfl rfl ?_
  show mB _ mX0_offerEdges (195, [(17, .long (v81 - v87).toInt64), (15, .long (v69 - v75).toInt64), (13, .long (v57 - v63).toInt64), (11, .long (v45 - v51).toInt64), (9, .long (v33 - v39).toInt64), (7, .long (v21 - v27).toInt64), (6, .int v15), (5, .int v11), (4, .int v7), (3, .int v3), (0, .ref p0), (1, .int p1), (2, .int p2)], [.int o89.2], (o89.1 ++ R), 0, 0)
  by_cases c93 : o89.2 = 0
  · rw [if_pos c93] at hq
    refine if_eq_T (t := 212) odX0_offerEdges rfl rfl c93 ?_
    cases hq
    exact mB_ret odX0_offerEdges rfl
  · rw [if_neg c93] at hq
    refine if_eq_F (t := 212) odX0_offerEdges rfl rfl c93 ?_
    refine mB_run odX0_offerEdges 5 (g := (206, [(17, .long (v81 - v87).toInt64), (15, .long (v69 - v75).toInt64), (13, .long (v57 - v63).toInt64), (11, .long (v45 - v51).toInt64), (9, .long (v33 - v39).toInt64), (7, .long (v21 - v27).toInt64), (6, .int v15), (5, .int v11), (4, .int v7), (3, .int v3), (0, .ref p0), (1, .int p1), (2, .int p2)], [.long (v45 - v51).toInt64, .long (v33 - v39).toInt64, .long (v21 - v27).toInt64, .int p2, .ref p0], (o89.1 ++ R), 0, 0)) rfl ?_
    obtain ⟨f96, k97, hq⟩ := bsm hq
    obtain ⟨o94, e95, hq⟩ := bsm hq
    refine mB_V (as := [.int p2, .long (v21 - v27).toInt64, .long (v33 - v39).toInt64, .long (v45 - v51).toInt64]) odX0_offerEdges okX0_isPassedBy lk_0_177 rfl (eaX0_isPassedBy e95) (kO_at (kO_ap k97)) rfl rfl rfl ?_
    show mB _ mX0_offerEdges (209, [(17, .long (v81 - v87).toInt64), (15, .long (v69 - v75).toInt64), (13, .long (v57 - v63).toInt64), (11, .long (v45 - v51).toInt64), (9, .long (v33 - v39).toInt64), (7, .long (v21 - v27).toInt64), (6, .int v15), (5, .int v11), (4, .int v7), (3, .int v3), (0, .ref p0), (1, .int p1), (2, .int p2)], [.int o94.2], (o94.1 ++ R), 0, 0)
    by_cases c98 : o94.2 = 0
    · rw [if_pos c98] at hq
      refine if_ne_F (t := 213) odX0_offerEdges rfl rfl c98 ?_
      cases hq
      exact mB_ret odX0_offerEdges rfl
    · rw [if_neg c98] at hq
      refine if_ne_T (t := 213) odX0_offerEdges rfl rfl c98 ?_
      refine mB_run odX0_offerEdges 12 (g := (233, [(19, .long (((v33 - v39).toInt64 * (v81 - v87).toInt64) - ((v45 - v51).toInt64 * (v69 - v75).toInt64))), (17, .long (v81 - v87).toInt64), (15, .long (v69 - v75).toInt64), (13, .long (v57 - v63).toInt64), (11, .long (v45 - v51).toInt64), (9, .long (v33 - v39).toInt64), (7, .long (v21 - v27).toInt64), (6, .int v15), (5, .int v11), (4, .int v7), (3, .int v3), (0, .ref p0), (1, .int p1), (2, .int p2)], [.long (v21 - v27).toInt64, .long ((v45 - v51).toInt64 * (v57 - v63).toInt64)], (o94.1 ++ R), 0, 0)) rfl ?_
      refine mB_run odX0_offerEdges 12 (g := (252, [(23, .long (((v21 - v27).toInt64 * (v69 - v75).toInt64) - ((v33 - v39).toInt64 * (v57 - v63).toInt64))), (21, .long (((v45 - v51).toInt64 * (v57 - v63).toInt64) - ((v21 - v27).toInt64 * (v81 - v87).toInt64))), (19, .long (((v33 - v39).toInt64 * (v81 - v87).toInt64) - ((v45 - v51).toInt64 * (v69 - v75).toInt64))), (17, .long (v81 - v87).toInt64), (15, .long (v69 - v75).toInt64), (13, .long (v57 - v63).toInt64), (11, .long (v45 - v51).toInt64), (9, .long (v33 - v39).toInt64), (7, .long (v21 - v27).toInt64), (6, .int v15), (5, .int v11), (4, .int v7), (3, .int v3), (0, .ref p0), (1, .int p1), (2, .int p2)], [], (o94.1 ++ R), 0, 0)) rfl ?_
      refine mB_run odX0_offerEdges 1 (g := (253, [(23, .long (((v21 - v27).toInt64 * (v69 - v75).toInt64) - ((v33 - v39).toInt64 * (v57 - v63).toInt64))), (21, .long (((v45 - v51).toInt64 * (v57 - v63).toInt64) - ((v21 - v27).toInt64 * (v81 - v87).toInt64))), (19, .long (((v33 - v39).toInt64 * (v81 - v87).toInt64) - ((v45 - v51).toInt64 * (v69 - v75).toInt64))), (17, .long (v81 - v87).toInt64), (15, .long (v69 - v75).toInt64), (13, .long (v57 - v63).toInt64), (11, .long (v45 - v51).toInt64), (9, .long (v33 - v39).toInt64), (7, .long (v21 - v27).toInt64), (6, .int v15), (5, .int v11), (4, .int v7), (3, .int v3), (0, .ref p0), (1, .int p1), (2, .int p2)], [.ref p0], (o94.1 ++ R), 0, 0)) rfl ?_
      obtain ⟨v99, e100, hq⟩ := bsm hq
      refine r_gR odX0_offerEdges rfl rfl (gR_ap e100) ?_
      refine mB_run odX0_offerEdges 4 (g := (263, [(23, .long (((v21 - v27).toInt64 * (v69 - v75).toInt64) - ((v33 - v39).toInt64 * (v57 - v63).toInt64))), (21, .long (((v45 - v51).toInt64 * (v57 - v63).toInt64) - ((v21 - v27).toInt64 * (v81 - v87).toInt64))), (19, .long (((v33 - v39).toInt64 * (v81 - v87).toInt64) - ((v45 - v51).toInt64 * (v69 - v75).toInt64))), (17, .long (v81 - v87).toInt64), (15, .long (v69 - v75).toInt64), (13, .long (v57 - v63).toInt64), (11, .long (v45 - v51).toInt64), (9, .long (v33 - v39).toInt64), (7, .long (v21 - v27).toInt64), (6, .int v15), (5, .int v11), (4, .int v7), (3, .int v3), (0, .ref p0), (1, .int p1), (2, .int p2)], [.long (((v21 - v27).toInt64 * (v69 - v75).toInt64) - ((v33 - v39).toInt64 * (v57 - v63).toInt64)), .long (((v45 - v51).toInt64 * (v57 - v63).toInt64) - ((v21 - v27).toInt64 * (v81 - v87).toInt64)), .long (((v33 - v39).toInt64 * (v81 - v87).toInt64) - ((v45 - v51).toInt64 * (v69 - v75).toInt64)), .int v3, .ref v99], (o94.1 ++ R), 0, 0)) rfl ?_
      obtain ⟨f103, k104, hq⟩ := bsm hq
      obtain ⟨o101, e102, hq⟩ := bsm hq
      refine mB_V (as := [.int v3, .long (((v33 - v39).toInt64 * (v81 - v87).toInt64) - ((v45 - v51).toInt64 * (v69 - v75).toInt64)), .long (((v45 - v51).toInt64 * (v57 - v63).toInt64) - ((v21 - v27).toInt64 * (v81 - v87).toInt64)), .long (((v21 - v27).toInt64 * (v69 - v75).toInt64) - ((v33 - v39).toInt64 * (v57 - v63).toInt64))]) odX0_offerEdges okX3_along lk_0_158 rfl (eaX3_along e102) (kO_at (kO_ap k104)) rfl rfl rfl ?_
      show mB _ mX0_offerEdges (266, [(23, .long (((v21 - v27).toInt64 * (v69 - v75).toInt64) - ((v33 - v39).toInt64 * (v57 - v63).toInt64))), (21, .long (((v45 - v51).toInt64 * (v57 - v63).toInt64) - ((v21 - v27).toInt64 * (v81 - v87).toInt64))), (19, .long (((v33 - v39).toInt64 * (v81 - v87).toInt64) - ((v45 - v51).toInt64 * (v69 - v75).toInt64))), (17, .long (v81 - v87).toInt64), (15, .long (v69 - v75).toInt64), (13, .long (v57 - v63).toInt64), (11, .long (v45 - v51).toInt64), (9, .long (v33 - v39).toInt64), (7, .long (v21 - v27).toInt64), (6, .int v15), (5, .int v11), (4, .int v7), (3, .int v3), (0, .ref p0), (1, .int p1), (2, .int p2)], [.long o101.2], (o101.1 ++ R), 0, 0)
      refine mB_run odX0_offerEdges 1 (g := (267, [(23, .long (((v21 - v27).toInt64 * (v69 - v75).toInt64) - ((v33 - v39).toInt64 * (v57 - v63).toInt64))), (21, .long (((v45 - v51).toInt64 * (v57 - v63).toInt64) - ((v21 - v27).toInt64 * (v81 - v87).toInt64))), (19, .long (((v33 - v39).toInt64 * (v81 - v87).toInt64) - ((v45 - v51).toInt64 * (v69 - v75).toInt64))), (17, .long (v81 - v87).toInt64), (15, .long (v69 - v75).toInt64), (13, .long (v57 - v63).toInt64), (11, .long (v45 - v51).toInt64), (9, .long (v33 - v39).toInt64), (7, .long (v21 - v27).toInt64), (6, .int v15), (5, .int v11), (4, .int v7), (3, .int v3), (0, .ref p0), (1, .int p1), (2, .int p2)], [.ref p0, .long o101.2], (o101.1 ++ R), 0, 0)) rfl ?_
      obtain ⟨v105, e106, hq⟩ := bsm hq
      refine r_gR odX0_offerEdges rfl rfl (gR_ap e106) ?_
      refine mB_run odX0_offerEdges 4 (g := (278, [(23, .long (((v21 - v27).toInt64 * (v69 - v75).toInt64) - ((v33 - v39).toInt64 * (v57 - v63).toInt64))), (21, .long (((v45 - v51).toInt64 * (v57 - v63).toInt64) - ((v21 - v27).toInt64 * (v81 - v87).toInt64))), (19, .long (((v33 - v39).toInt64 * (v81 - v87).toInt64) - ((v45 - v51).toInt64 * (v69 - v75).toInt64))), (17, .long (v81 - v87).toInt64), (15, .long (v69 - v75).toInt64), (13, .long (v57 - v63).toInt64), (11, .long (v45 - v51).toInt64), (9, .long (v33 - v39).toInt64), (7, .long (v21 - v27).toInt64), (6, .int v15), (5, .int v11), (4, .int v7), (3, .int v3), (0, .ref p0), (1, .int p1), (2, .int p2)], [.long (((v21 - v27).toInt64 * (v69 - v75).toInt64) - ((v33 - v39).toInt64 * (v57 - v63).toInt64)), .long (((v45 - v51).toInt64 * (v57 - v63).toInt64) - ((v21 - v27).toInt64 * (v81 - v87).toInt64)), .long (((v33 - v39).toInt64 * (v81 - v87).toInt64) - ((v45 - v51).toInt64 * (v69 - v75).toInt64)), .int v11, .ref v105, .long o101.2], (o101.1 ++ R), 0, 0)) rfl ?_
      obtain ⟨f109, k110, hq⟩ := bsm hq
      obtain ⟨o107, e108, hq⟩ := bsm hq
      refine mB_V (as := [.int v11, .long (((v33 - v39).toInt64 * (v81 - v87).toInt64) - ((v45 - v51).toInt64 * (v69 - v75).toInt64)), .long (((v45 - v51).toInt64 * (v57 - v63).toInt64) - ((v21 - v27).toInt64 * (v81 - v87).toInt64)), .long (((v21 - v27).toInt64 * (v69 - v75).toInt64) - ((v33 - v39).toInt64 * (v57 - v63).toInt64))]) odX0_offerEdges okX3_along lk_0_158 rfl (eaX3_along e108) (kO_at (kO_ap k110)) rfl rfl rfl ?_
      show mB _ mX0_offerEdges (281, [(23, .long (((v21 - v27).toInt64 * (v69 - v75).toInt64) - ((v33 - v39).toInt64 * (v57 - v63).toInt64))), (21, .long (((v45 - v51).toInt64 * (v57 - v63).toInt64) - ((v21 - v27).toInt64 * (v81 - v87).toInt64))), (19, .long (((v33 - v39).toInt64 * (v81 - v87).toInt64) - ((v45 - v51).toInt64 * (v69 - v75).toInt64))), (17, .long (v81 - v87).toInt64), (15, .long (v69 - v75).toInt64), (13, .long (v57 - v63).toInt64), (11, .long (v45 - v51).toInt64), (9, .long (v33 - v39).toInt64), (7, .long (v21 - v27).toInt64), (6, .int v15), (5, .int v11), (4, .int v7), (3, .int v3), (0, .ref p0), (1, .int p1), (2, .int p2)], [.long o107.2, .long o101.2], (o107.1 ++ R), 0, 0)
      refine mB_run odX0_offerEdges 4 (g := (287, [(25, .long (o101.2 - o107.2)), (23, .long (((v21 - v27).toInt64 * (v69 - v75).toInt64) - ((v33 - v39).toInt64 * (v57 - v63).toInt64))), (21, .long (((v45 - v51).toInt64 * (v57 - v63).toInt64) - ((v21 - v27).toInt64 * (v81 - v87).toInt64))), (19, .long (((v33 - v39).toInt64 * (v81 - v87).toInt64) - ((v45 - v51).toInt64 * (v69 - v75).toInt64))), (17, .long (v81 - v87).toInt64), (15, .long (v69 - v75).toInt64), (13, .long (v57 - v63).toInt64), (11, .long (v45 - v51).toInt64), (9, .long (v33 - v39).toInt64), (7, .long (v21 - v27).toInt64), (6, .int v15), (5, .int v11), (4, .int v7), (3, .int v3), (0, .ref p0), (1, .int p1), (2, .int p2)], [.long (0 : Int64), .long (o101.2 - o107.2)], (o107.1 ++ R), 0, 0)) rfl ?_
      by_cases c111 : (o101.2 - o107.2) = (0 : Int64)
      · rw [if_pos c111] at hq
        refine lc_eq_T (t := 306) odX0_offerEdges rfl rfl rfl c111 ?_
        cases hq
        exact mB_ret odX0_offerEdges rfl
      · rw [if_neg c111] at hq
        refine lc_eq_F (t := 306) odX0_offerEdges rfl rfl rfl c111 ?_
        refine mB_run odX0_offerEdges 5 (g := (300, [(25, .long (o101.2 - o107.2)), (23, .long (((v21 - v27).toInt64 * (v69 - v75).toInt64) - ((v33 - v39).toInt64 * (v57 - v63).toInt64))), (21, .long (((v45 - v51).toInt64 * (v57 - v63).toInt64) - ((v21 - v27).toInt64 * (v81 - v87).toInt64))), (19, .long (((v33 - v39).toInt64 * (v81 - v87).toInt64) - ((v45 - v51).toInt64 * (v69 - v75).toInt64))), (17, .long (v81 - v87).toInt64), (15, .long (v69 - v75).toInt64), (13, .long (v57 - v63).toInt64), (11, .long (v45 - v51).toInt64), (9, .long (v33 - v39).toInt64), (7, .long (v21 - v27).toInt64), (6, .int v15), (5, .int v11), (4, .int v7), (3, .int v3), (0, .ref p0), (1, .int p1), (2, .int p2)], [.long (((v21 - v27).toInt64 * (v69 - v75).toInt64) - ((v33 - v39).toInt64 * (v57 - v63).toInt64)), .long (((v45 - v51).toInt64 * (v57 - v63).toInt64) - ((v21 - v27).toInt64 * (v81 - v87).toInt64)), .long (((v33 - v39).toInt64 * (v81 - v87).toInt64) - ((v45 - v51).toInt64 * (v69 - v75).toInt64)), .long (o101.2 - o107.2), .ref p0], (o107.1 ++ R), 0, 0)) rfl ?_
        obtain ⟨o112, e113, hq⟩ := bsm hq
        refine mB_S (as := [.long (((v33 - v39).toInt64 * (v81 - v87).toInt64) - ((v45 - v51).toInt64 * (v69 - v75).toInt64)), .long (((v45 - v51).toInt64 * (v57 - v63).toInt64) - ((v21 - v27).toInt64 * (v81 - v87).toInt64)), .long (((v21 - v27).toInt64 * (v69 - v75).toInt64) - ((v33 - v39).toInt64 * (v57 - v63).toInt64))]) odX0_offerEdges okX0_steepness lk_0_132 rfl (eaX0_steepness e113) rfl rfl rfl ?_
        show mB _ mX0_offerEdges (303, [(25, .long (o101.2 - o107.2)), (23, .long (((v21 - v27).toInt64 * (v69 - v75).toInt64) - ((v33 - v39).toInt64 * (v57 - v63).toInt64))), (21, .long (((v45 - v51).toInt64 * (v57 - v63).toInt64) - ((v21 - v27).toInt64 * (v81 - v87).toInt64))), (19, .long (((v33 - v39).toInt64 * (v81 - v87).toInt64) - ((v45 - v51).toInt64 * (v69 - v75).toInt64))), (17, .long (v81 - v87).toInt64), (15, .long (v69 - v75).toInt64), (13, .long (v57 - v63).toInt64), (11, .long (v45 - v51).toInt64), (9, .long (v33 - v39).toInt64), (7, .long (v21 - v27).toInt64), (6, .int v15), (5, .int v11), (4, .int v7), (3, .int v3), (0, .ref p0), (1, .int p1), (2, .int p2)], [.long o112.2, .long (o101.2 - o107.2), .ref p0], (o112.1 ++ R), 0, 0)
        obtain ⟨f116, k117, hq⟩ := bsm hq
        obtain ⟨o114, e115, hq⟩ := bsm hq
        refine mB_V (as := [.long (o101.2 - o107.2), .long o112.2]) odX0_offerEdges okX0_offerSlit lk_0_162 rfl (eaX0_offerSlit e115) (kO_at (kO_ap k117)) rfl rfl rfl ?_
        show mB _ mX0_offerEdges (306, [(25, .long (o101.2 - o107.2)), (23, .long (((v21 - v27).toInt64 * (v69 - v75).toInt64) - ((v33 - v39).toInt64 * (v57 - v63).toInt64))), (21, .long (((v45 - v51).toInt64 * (v57 - v63).toInt64) - ((v21 - v27).toInt64 * (v81 - v87).toInt64))), (19, .long (((v33 - v39).toInt64 * (v81 - v87).toInt64) - ((v45 - v51).toInt64 * (v69 - v75).toInt64))), (17, .long (v81 - v87).toInt64), (15, .long (v69 - v75).toInt64), (13, .long (v57 - v63).toInt64), (11, .long (v45 - v51).toInt64), (9, .long (v33 - v39).toInt64), (7, .long (v21 - v27).toInt64), (6, .int v15), (5, .int v11), (4, .int v7), (3, .int v3), (0, .ref p0), (1, .int p1), (2, .int p2)], [], (o114 ++ R), 0, 0)
        cases hq
        exact mB_ret odX0_offerEdges rfl
def fxX0_reckonSlit_144 (N : Nat) (rec132 : Nat → Int32 → mh → Option mh) : Nat → Nat → Int32 → Int32 → mh → Option mh
  | 0, _, _, _, _ => none
  | n + 1, x0, x1, x2, h =>
    (gI h x0 0 6).bind fun v49 =>
    if v49 ≤ x2 then (
      rec132 x0 (x1 + (1 : Int32)) h) else (
      (kO h x0 0).bind fun f54 =>
      (fxX0_offerEdges N x0 x1 x2 h).bind fun o52 =>
      fxX0_reckonSlit_144 N rec132 n x0 x1 (x2 + (1 : Int32)) o52)
set_option maxHeartbeats 4000000 in
set_option maxRecDepth 100000 in
theorem eaX0_reckonSlit_144 {N : Nat} {R : mh} {rec132 : Nat → Int32 → mh → Option mh} (hrec132 : ∀ (x0 : Nat) (x1 : Int32) (h : mh) {o : mh}, rec132 x0 x1 h = some o → mB (gO mX0_reckonSlit (o ++ R, none)) mX0_reckonSlit (132, [(0, .ref x0), (1, .int x1)], [], (h ++ R), 0, 0)) : ∀ (n : Nat) (x0 : Nat) (x1 : Int32) (x2 : Int32) (h : mh) {o : mh}, fxX0_reckonSlit_144 N rec132 n x0 x1 x2 h = some o → mB (gO mX0_reckonSlit (o ++ R, none)) mX0_reckonSlit (144, [(0, .ref x0), (1, .int x1), (2, .int x2)], [], (h ++ R), 0, 0) := by
  intro n
  induction n with
  | zero => intro x0 x1 x2 h o hq; cases hq
  | succ n ih =>
    intro x0 x1 x2 h o hq
    unfold fxX0_reckonSlit_144 at hq
    refine mB_run odX0_reckonSlit 2 (g := (146, [(0, .ref x0), (1, .int x1), (2, .int x2)], [.ref x0, .int x2], (h ++ R), 0, 0)) rfl ?_
    obtain ⟨v49, e50, hq⟩ := bsm hq
    refine r_gI odX0_reckonSlit rfl rfl (gI_ap e50) ?_
    by_cases c51 : v49 ≤ x2
    · rw [if_pos c51] at hq
      refine ic_ge_T (t := 164) odX0_reckonSlit rfl rfl c51 ?_
      refine mB_run odX0_reckonSlit 2 (g := (132, [(1, .int (x1 + (1 : Int32))), (0, .ref x0), (2, .int x2)], [], (h ++ R), 0, 0)) rfl ?_
      refine mB_lv [1, 0] (lv' := [(0, .ref x0), (1, .int (x1 + (1 : Int32)))]) rfl ?_
      exact hrec132 _ _ _ hq
    · rw [if_neg c51] at hq
      refine ic_ge_F (t := 164) odX0_reckonSlit rfl rfl c51 ?_
      refine mB_run odX0_reckonSlit 3 (g := (155, [(0, .ref x0), (1, .int x1), (2, .int x2)], [.int x2, .int x1, .ref x0], (h ++ R), 0, 0)) rfl ?_
      obtain ⟨f54, k55, hq⟩ := bsm hq
      obtain ⟨o52, e53, hq⟩ := bsm hq
      refine mB_V (as := [.int x1, .int x2]) odX0_reckonSlit okX0_offerEdges lk_0_166 rfl (eaX0_offerEdges e53) (kO_at (kO_ap k55)) rfl rfl rfl ?_
      show mB _ mX0_reckonSlit (158, [(0, .ref x0), (1, .int x1), (2, .int x2)], [], (o52 ++ R), 0, 0)
      refine mB_run odX0_reckonSlit 2 (g := (144, [(2, .int (x2 + (1 : Int32))), (0, .ref x0), (1, .int x1)], [], (o52 ++ R), 0, 0)) rfl ?_
      refine mB_lv [1, 2, 0] (lv' := [(0, .ref x0), (1, .int x1), (2, .int (x2 + (1 : Int32)))]) rfl ?_
      exact ih _ _ _ _ hq
def fxX0_reckonSlit_132 (N : Nat) : Nat → Nat → Int32 → mh → Option mh
  | 0, _, _, _ => none
  | n + 1, x0, x1, h =>
    (gI h x0 0 6).bind fun v46 =>
    if v46 ≤ x1 then (
      some h) else (
      fxX0_reckonSlit_144 N (fxX0_reckonSlit_132 N n) N x0 x1 (x1 + (1 : Int32)) h)
set_option maxHeartbeats 4000000 in
set_option maxRecDepth 100000 in
theorem eaX0_reckonSlit_132 {N : Nat} {R : mh} : ∀ (n : Nat) (x0 : Nat) (x1 : Int32) (h : mh) {o : mh}, fxX0_reckonSlit_132 N n x0 x1 h = some o → mB (gO mX0_reckonSlit (o ++ R, none)) mX0_reckonSlit (132, [(0, .ref x0), (1, .int x1)], [], (h ++ R), 0, 0) := by
  intro n
  induction n with
  | zero => intro x0 x1 h o hq; cases hq
  | succ n ih =>
    intro x0 x1 h o hq
    unfold fxX0_reckonSlit_132 at hq
    refine mB_run odX0_reckonSlit 2 (g := (134, [(0, .ref x0), (1, .int x1)], [.ref x0, .int x1], (h ++ R), 0, 0)) rfl ?_
    obtain ⟨v46, e47, hq⟩ := bsm hq
    refine r_gI odX0_reckonSlit rfl rfl (gI_ap e47) ?_
    by_cases c48 : v46 ≤ x1
    · rw [if_pos c48] at hq
      refine ic_ge_T (t := 170) odX0_reckonSlit rfl rfl c48 ?_
      cases hq
      exact mB_ret odX0_reckonSlit rfl
    · rw [if_neg c48] at hq
      refine ic_ge_F (t := 170) odX0_reckonSlit rfl rfl c48 ?_
      refine mB_run odX0_reckonSlit 4 (g := (144, [(2, .int (x1 + (1 : Int32))), (0, .ref x0), (1, .int x1)], [], (h ++ R), 0, 0)) rfl ?_
      refine mB_lv [1, 2, 0] (lv' := [(0, .ref x0), (1, .int x1), (2, .int (x1 + (1 : Int32)))]) rfl ?_
      exact eaX0_reckonSlit_144 ih N _ _ _ _ hq
def fxX0_reckonSlit_23 (N : Nat) : Nat → Nat → Int32 → mh → Option mh
  | 0, _, _, _ => none
  | n + 1, x0, x1, h =>
    (gI h x0 0 2).bind fun v9 =>
    if v9 ≤ x1 then (
      fxX0_reckonSlit_132 N N x0 (0 : Int32) h) else (
      (gR h x0 0 3).bind fun v12 =>
      (aI h v12 ((4 : Int32) * x1)).bind fun v14 =>
      (gR h x0 0 3).bind fun v16 =>
      (aI h v16 (((4 : Int32) * x1) + (1 : Int32))).bind fun v18 =>
      (gR h x0 0 3).bind fun v20 =>
      (aI h v20 (((4 : Int32) * x1) + (2 : Int32))).bind fun v22 =>
      (gR h x0 0 1).bind fun v24 =>
      (kO h v24 3).bind fun f28 =>
      (fxX3_farthest N v24 (-v14).toInt64 (-v18).toInt64 (-v22).toInt64 h).bind fun o26 =>
      (gR o26.1 x0 0 3).bind fun v30 =>
      (aI o26.1 v30 (((4 : Int32) * x1) + (3 : Int32))).bind fun v32 =>
      (gR o26.1 x0 0 1).bind fun v34 =>
      (kO o26.1 v34 3).bind fun f38 =>
      (fxX3_along N v34 o26.2 v14.toInt64 v18.toInt64 v22.toInt64 o26.1).bind fun o36 =>
      (fxX0_steepness N v14.toInt64 v18.toInt64 v22.toInt64 o36.1).bind fun o40 =>
      (kO o40.1 x0 0).bind fun f44 =>
      (fxX0_offerSlit N x0 (v32.toInt64 - o36.2) o40.2 o40.1).bind fun o42 =>
      fxX0_reckonSlit_23 N n x0 (x1 + (1 : Int32)) o42)
set_option maxHeartbeats 4000000 in
set_option maxRecDepth 100000 in
theorem eaX0_reckonSlit_23 {N : Nat} {R : mh} : ∀ (n : Nat) (x0 : Nat) (x1 : Int32) (h : mh) {o : mh}, fxX0_reckonSlit_23 N n x0 x1 h = some o → mB (gO mX0_reckonSlit (o ++ R, none)) mX0_reckonSlit (23, [(0, .ref x0), (1, .int x1)], [], (h ++ R), 0, 0) := by
  intro n
  induction n with
  | zero => intro x0 x1 h o hq; cases hq
  | succ n ih =>
    intro x0 x1 h o hq
    unfold fxX0_reckonSlit_23 at hq
    refine mB_run odX0_reckonSlit 2 (g := (25, [(0, .ref x0), (1, .int x1)], [.ref x0, .int x1], (h ++ R), 0, 0)) rfl ?_
    obtain ⟨v9, e10, hq⟩ := bsm hq
    refine r_gI odX0_reckonSlit rfl rfl (gI_ap e10) ?_
    by_cases c11 : v9 ≤ x1
    · rw [if_pos c11] at hq
      refine ic_ge_T (t := 130) odX0_reckonSlit rfl rfl c11 ?_
      refine mB_run odX0_reckonSlit 2 (g := (132, [(1, .int (0 : Int32)), (0, .ref x0)], [], (h ++ R), 0, 0)) rfl ?_
      refine mB_lv [1, 0] (lv' := [(0, .ref x0), (1, .int (0 : Int32))]) rfl ?_
      exact eaX0_reckonSlit_132 N _ _ _ hq
    · rw [if_neg c11] at hq
      refine ic_ge_F (t := 130) odX0_reckonSlit rfl rfl c11 ?_
      refine mB_run odX0_reckonSlit 1 (g := (32, [(0, .ref x0), (1, .int x1)], [.ref x0], (h ++ R), 0, 0)) rfl ?_
      obtain ⟨v12, e13, hq⟩ := bsm hq
      refine r_gR odX0_reckonSlit rfl rfl (gR_ap e13) ?_
      refine mB_run odX0_reckonSlit 3 (g := (38, [(0, .ref x0), (1, .int x1)], [.int ((4 : Int32) * x1), .ref v12], (h ++ R), 0, 0)) rfl ?_
      obtain ⟨v14, e15, hq⟩ := bsm hq
      refine r_aI odX0_reckonSlit rfl (aI_ap e15) ?_
      refine mB_run odX0_reckonSlit 2 (g := (41, [(2, .int v14), (0, .ref x0), (1, .int x1)], [.ref x0], (h ++ R), 0, 0)) rfl ?_
      obtain ⟨v16, e17, hq⟩ := bsm hq
      refine r_gR odX0_reckonSlit rfl rfl (gR_ap e17) ?_
      refine mB_run odX0_reckonSlit 5 (g := (49, [(2, .int v14), (0, .ref x0), (1, .int x1)], [.int (((4 : Int32) * x1) + (1 : Int32)), .ref v16], (h ++ R), 0, 0)) rfl ?_
      obtain ⟨v18, e19, hq⟩ := bsm hq
      refine r_aI odX0_reckonSlit rfl (aI_ap e19) ?_
      refine mB_run odX0_reckonSlit 2 (g := (52, [(3, .int v18), (2, .int v14), (0, .ref x0), (1, .int x1)], [.ref x0], (h ++ R), 0, 0)) rfl ?_
      obtain ⟨v20, e21, hq⟩ := bsm hq
      refine r_gR odX0_reckonSlit rfl rfl (gR_ap e21) ?_
      refine mB_run odX0_reckonSlit 5 (g := (60, [(3, .int v18), (2, .int v14), (0, .ref x0), (1, .int x1)], [.int (((4 : Int32) * x1) + (2 : Int32)), .ref v20], (h ++ R), 0, 0)) rfl ?_
      obtain ⟨v22, e23, hq⟩ := bsm hq
      refine r_aI odX0_reckonSlit rfl (aI_ap e23) ?_
      refine mB_run odX0_reckonSlit 2 (g := (64, [(4, .int v22), (3, .int v18), (2, .int v14), (0, .ref x0), (1, .int x1)], [.ref x0], (h ++ R), 0, 0)) rfl ?_
      obtain ⟨v24, e25, hq⟩ := bsm hq
      refine r_gR odX0_reckonSlit rfl rfl (gR_ap e25) ?_
      refine mB_run odX0_reckonSlit 9 (g := (77, [(4, .int v22), (3, .int v18), (2, .int v14), (0, .ref x0), (1, .int x1)], [.long (-v22).toInt64, .long (-v18).toInt64, .long (-v14).toInt64, .ref v24], (h ++ R), 0, 0)) rfl ?_
      obtain ⟨f28, k29, hq⟩ := bsm hq
      obtain ⟨o26, e27, hq⟩ := bsm hq
      refine mB_V (as := [.long (-v14).toInt64, .long (-v18).toInt64, .long (-v22).toInt64]) odX0_reckonSlit okX3_farthest lk_0_154 rfl (eaX3_farthest e27) (kO_at (kO_ap k29)) rfl rfl rfl ?_
      show mB _ mX0_reckonSlit (80, [(4, .int v22), (3, .int v18), (2, .int v14), (0, .ref x0), (1, .int x1)], [.int o26.2], (o26.1 ++ R), 0, 0)
      refine mB_run odX0_reckonSlit 3 (g := (84, [(5, .int o26.2), (4, .int v22), (3, .int v18), (2, .int v14), (0, .ref x0), (1, .int x1)], [.ref x0, .ref x0], (o26.1 ++ R), 0, 0)) rfl ?_
      obtain ⟨v30, e31, hq⟩ := bsm hq
      refine r_gR odX0_reckonSlit rfl rfl (gR_ap e31) ?_
      refine mB_run odX0_reckonSlit 5 (g := (92, [(5, .int o26.2), (4, .int v22), (3, .int v18), (2, .int v14), (0, .ref x0), (1, .int x1)], [.int (((4 : Int32) * x1) + (3 : Int32)), .ref v30, .ref x0], (o26.1 ++ R), 0, 0)) rfl ?_
      obtain ⟨v32, e33, hq⟩ := bsm hq
      refine r_aI odX0_reckonSlit rfl (aI_ap e33) ?_
      refine mB_run odX0_reckonSlit 2 (g := (95, [(5, .int o26.2), (4, .int v22), (3, .int v18), (2, .int v14), (0, .ref x0), (1, .int x1)], [.ref x0, .long v32.toInt64, .ref x0], (o26.1 ++ R), 0, 0)) rfl ?_
      obtain ⟨v34, e35, hq⟩ := bsm hq
      refine r_gR odX0_reckonSlit rfl rfl (gR_ap e35) ?_
      refine mB_run odX0_reckonSlit 7 (g := (107, [(5, .int o26.2), (4, .int v22), (3, .int v18), (2, .int v14), (0, .ref x0), (1, .int x1)], [.long v22.toInt64, .long v18.toInt64, .long v14.toInt64, .int o26.2, .ref v34, .long v32.toInt64, .ref x0], (o26.1 ++ R), 0, 0)) rfl ?_
      obtain ⟨f38, k39, hq⟩ := bsm hq
      obtain ⟨o36, e37, hq⟩ := bsm hq
      refine mB_V (as := [.int o26.2, .long v14.toInt64, .long v18.toInt64, .long v22.toInt64]) odX0_reckonSlit okX3_along lk_0_158 rfl (eaX3_along e37) (kO_at (kO_ap k39)) rfl rfl rfl ?_
      show mB _ mX0_reckonSlit (110, [(5, .int o26.2), (4, .int v22), (3, .int v18), (2, .int v14), (0, .ref x0), (1, .int x1)], [.long o36.2, .long v32.toInt64, .ref x0], (o36.1 ++ R), 0, 0)
      refine mB_run odX0_reckonSlit 7 (g := (118, [(5, .int o26.2), (4, .int v22), (3, .int v18), (2, .int v14), (0, .ref x0), (1, .int x1)], [.long v22.toInt64, .long v18.toInt64, .long v14.toInt64, .long (v32.toInt64 - o36.2), .ref x0], (o36.1 ++ R), 0, 0)) rfl ?_
      obtain ⟨o40, e41, hq⟩ := bsm hq
      refine mB_S (as := [.long v14.toInt64, .long v18.toInt64, .long v22.toInt64]) odX0_reckonSlit okX0_steepness lk_0_132 rfl (eaX0_steepness e41) rfl rfl rfl ?_
      show mB _ mX0_reckonSlit (121, [(5, .int o26.2), (4, .int v22), (3, .int v18), (2, .int v14), (0, .ref x0), (1, .int x1)], [.long o40.2, .long (v32.toInt64 - o36.2), .ref x0], (o40.1 ++ R), 0, 0)
      obtain ⟨f44, k45, hq⟩ := bsm hq
      obtain ⟨o42, e43, hq⟩ := bsm hq
      refine mB_V (as := [.long (v32.toInt64 - o36.2), .long o40.2]) odX0_reckonSlit okX0_offerSlit lk_0_162 rfl (eaX0_offerSlit e43) (kO_at (kO_ap k45)) rfl rfl rfl ?_
      show mB _ mX0_reckonSlit (124, [(5, .int o26.2), (4, .int v22), (3, .int v18), (2, .int v14), (0, .ref x0), (1, .int x1)], [], (o42 ++ R), 0, 0)
      refine mB_run odX0_reckonSlit 2 (g := (23, [(1, .int (x1 + (1 : Int32))), (5, .int o26.2), (4, .int v22), (3, .int v18), (2, .int v14), (0, .ref x0)], [], (o42 ++ R), 0, 0)) rfl ?_
      refine mB_lv [5, 0] (lv' := [(0, .ref x0), (1, .int (x1 + (1 : Int32)))]) rfl ?_
      exact ih _ _ _ hq
def fxX0_reckonSlit (N : Nat) (p0 : Nat) (h : mh) : Option mh :=
  (gI h p0 0 0).bind fun v1 =>
  if v1 = (4 : Int32) then (
    (gR h p0 0 8).bind fun v4 =>
    (gJ h v4 4 1).bind fun v6 =>
    if v6 ≤ (0 : Int64) then (
      fxX0_reckonSlit_23 N N p0 (0 : Int32) h) else (
      some h)) else (
    some h)
set_option maxHeartbeats 4000000 in
set_option maxRecDepth 100000 in
theorem eaX0_reckonSlit {N : Nat} {R : mh} {p0 : Nat} {h : mh} {o : mh} (hq : fxX0_reckonSlit N p0 h = some o) : mC mX0_reckonSlit [.ref p0] (h ++ R) (o ++ R, none) := by
  refine mC_of okX0_reckonSlit (Nat.le_of_ble_eq_true rfl) ?_
  unfold fxX0_reckonSlit at hq
  show mB _ mX0_reckonSlit (0, [(0, .ref p0)], [], (h ++ R), 0, 0)
  refine mB_run odX0_reckonSlit 1 (g := (1, [(0, .ref p0)], [.ref p0], (h ++ R), 0, 0)) rfl ?_
  obtain ⟨v1, e2, hq⟩ := bsm hq
  refine r_gI odX0_reckonSlit rfl rfl (gI_ap e2) ?_
  refine mB_run odX0_reckonSlit 1 (g := (5, [(0, .ref p0)], [.int (4 : Int32), .int v1], (h ++ R), 0, 0)) rfl ?_
  by_cases c3 : v1 = (4 : Int32)
  · rw [if_pos c3] at hq
    refine ic_ne_F (t := 20) odX0_reckonSlit rfl rfl c3 ?_
    refine mB_run odX0_reckonSlit 1 (g := (9, [(0, .ref p0)], [.ref p0], (h ++ R), 0, 0)) rfl ?_
    obtain ⟨v4, e5, hq⟩ := bsm hq
    refine r_gR odX0_reckonSlit rfl rfl (gR_ap e5) ?_
    obtain ⟨v6, e7, hq⟩ := bsm hq
    refine r_gJ odX0_reckonSlit rfl rfl (gJ_ap e7) ?_
    refine mB_run odX0_reckonSlit 1 (g := (16, [(0, .ref p0)], [.long (0 : Int64), .long v6], (h ++ R), 0, 0)) rfl ?_
    by_cases c8 : v6 ≤ (0 : Int64)
    · rw [if_pos c8] at hq
      refine lc_le_T (t := 21) odX0_reckonSlit rfl rfl rfl c8 ?_
      refine mB_run odX0_reckonSlit 2 (g := (23, [(1, .int (0 : Int32)), (0, .ref p0)], [], (h ++ R), 0, 0)) rfl ?_
      refine mB_lv [1, 0] (lv' := [(0, .ref p0), (1, .int (0 : Int32))]) rfl ?_
      exact eaX0_reckonSlit_23 N _ _ _ hq
    · rw [if_neg c8] at hq
      refine lc_le_F (t := 21) odX0_reckonSlit rfl rfl rfl c8 ?_
      cases hq
      exact mB_ret odX0_reckonSlit rfl
  · rw [if_neg c3] at hq
    refine ic_ne_T (t := 20) odX0_reckonSlit rfl rfl c3 ?_
    cases hq
    exact mB_ret odX0_reckonSlit rfl
def fxX1_addDifference (N : Nat) (p0 : Nat) (p1 : Nat) (p2 : Int32) (p3 : Nat) (p4 : Int32) (h : mh) : Option mh :=
  (gI h p0 1 2).bind fun v1 =>
  (gR h p0 1 3).bind fun v3 =>
  (aL h v3).bind fun v5 =>
  if v5 ≤ v1 then (
    some h) else (
    (gR h p0 1 3).bind fun v8 =>
    (gI h p0 1 2).bind fun v10 =>
    (gR h p1 3 1).bind fun v12 =>
    (aI h v12 p2).bind fun v14 =>
    (gR h p3 3 1).bind fun v16 =>
    (aI h v16 p4).bind fun v18 =>
    (wI h v8 v10 (v14 - v18)).bind fun h20 =>
    (gR h20 p0 1 4).bind fun v22 =>
    (gI h20 p0 1 2).bind fun v24 =>
    (gR h20 p1 3 2).bind fun v26 =>
    (aI h20 v26 p2).bind fun v28 =>
    (gR h20 p3 3 2).bind fun v30 =>
    (aI h20 v30 p4).bind fun v32 =>
    (wI h20 v22 v24 (v28 - v32)).bind fun h34 =>
    (gR h34 p0 1 5).bind fun v36 =>
    (gI h34 p0 1 2).bind fun v38 =>
    (gR h34 p1 3 3).bind fun v40 =>
    (aI h34 v40 p2).bind fun v42 =>
    (gR h34 p3 3 3).bind fun v44 =>
    (aI h34 v44 p4).bind fun v46 =>
    (wI h34 v36 v38 (v42 - v46)).bind fun h48 =>
    (gI h48 p0 1 2).bind fun v50 =>
    (sV h48 p0 1 2 (.int (v50 + (1 : Int32)))).bind fun h52 =>
    some h52)
set_option maxHeartbeats 4000000 in
set_option maxRecDepth 100000 in
theorem eaX1_addDifference {N : Nat} {R : mh} {p0 : Nat} {p1 : Nat} {p2 : Int32} {p3 : Nat} {p4 : Int32} {h : mh} {o : mh} (hq : fxX1_addDifference N p0 p1 p2 p3 p4 h = some o) : mC mX1_addDifference [.ref p0, .ref p1, .int p2, .ref p3, .int p4] (h ++ R) (o ++ R, none) := by
  refine mC_of okX1_addDifference (Nat.le_of_ble_eq_true rfl) ?_
  unfold fxX1_addDifference at hq
  show mB _ mX1_addDifference (0, [(0, .ref p0), (1, .ref p1), (2, .int p2), (3, .ref p3), (4, .int p4)], [], (h ++ R), 0, 0)
  refine mB_run odX1_addDifference 1 (g := (1, [(0, .ref p0), (1, .ref p1), (2, .int p2), (3, .ref p3), (4, .int p4)], [.ref p0], (h ++ R), 0, 0)) rfl ?_
  obtain ⟨v1, e2, hq⟩ := bsm hq
  refine r_gI odX1_addDifference rfl rfl (gI_ap e2) ?_
  refine mB_run odX1_addDifference 1 (g := (5, [(0, .ref p0), (1, .ref p1), (2, .int p2), (3, .ref p3), (4, .int p4)], [.ref p0, .int v1], (h ++ R), 0, 0)) rfl ?_
  obtain ⟨v3, e4, hq⟩ := bsm hq
  refine r_gR odX1_addDifference rfl rfl (gR_ap e4) ?_
  obtain ⟨v5, e6, hq⟩ := bsm hq
  refine r_aL odX1_addDifference rfl (aL_ap e6) ?_
  by_cases c7 : v5 ≤ v1
  · rw [if_pos c7] at hq
    refine ic_ge_T (t := 91) odX1_addDifference rfl rfl c7 ?_
    cases hq
    exact mB_ret odX1_addDifference rfl
  · rw [if_neg c7] at hq
    refine ic_ge_F (t := 91) odX1_addDifference rfl rfl c7 ?_
    refine mB_run odX1_addDifference 1 (g := (13, [(0, .ref p0), (1, .ref p1), (2, .int p2), (3, .ref p3), (4, .int p4)], [.ref p0], (h ++ R), 0, 0)) rfl ?_
    obtain ⟨v8, e9, hq⟩ := bsm hq
    refine r_gR odX1_addDifference rfl rfl (gR_ap e9) ?_
    refine mB_run odX1_addDifference 1 (g := (17, [(0, .ref p0), (1, .ref p1), (2, .int p2), (3, .ref p3), (4, .int p4)], [.ref p0, .ref v8], (h ++ R), 0, 0)) rfl ?_
    obtain ⟨v10, e11, hq⟩ := bsm hq
    refine r_gI odX1_addDifference rfl rfl (gI_ap e11) ?_
    refine mB_run odX1_addDifference 1 (g := (21, [(0, .ref p0), (1, .ref p1), (2, .int p2), (3, .ref p3), (4, .int p4)], [.ref p1, .int v10, .ref v8], (h ++ R), 0, 0)) rfl ?_
    obtain ⟨v12, e13, hq⟩ := bsm hq
    refine r_gR odX1_addDifference rfl rfl (gR_ap e13) ?_
    refine mB_run odX1_addDifference 1 (g := (25, [(0, .ref p0), (1, .ref p1), (2, .int p2), (3, .ref p3), (4, .int p4)], [.int p2, .ref v12, .int v10, .ref v8], (h ++ R), 0, 0)) rfl ?_
    obtain ⟨v14, e15, hq⟩ := bsm hq
    refine r_aI odX1_addDifference rfl (aI_ap e15) ?_
    refine mB_run odX1_addDifference 1 (g := (27, [(0, .ref p0), (1, .ref p1), (2, .int p2), (3, .ref p3), (4, .int p4)], [.ref p3, .int v14, .int v10, .ref v8], (h ++ R), 0, 0)) rfl ?_
    obtain ⟨v16, e17, hq⟩ := bsm hq
    refine r_gR odX1_addDifference rfl rfl (gR_ap e17) ?_
    refine mB_run odX1_addDifference 1 (g := (32, [(0, .ref p0), (1, .ref p1), (2, .int p2), (3, .ref p3), (4, .int p4)], [.int p4, .ref v16, .int v14, .int v10, .ref v8], (h ++ R), 0, 0)) rfl ?_
    obtain ⟨v18, e19, hq⟩ := bsm hq
    refine r_aI odX1_addDifference rfl (aI_ap e19) ?_
    refine mB_run odX1_addDifference 1 (g := (34, [(0, .ref p0), (1, .ref p1), (2, .int p2), (3, .ref p3), (4, .int p4)], [.int (v14 - v18), .int v10, .ref v8], (h ++ R), 0, 0)) rfl ?_
    obtain ⟨h20, e21, hq⟩ := bsm hq
    refine r_wI odX1_addDifference rfl (wI_ap e21) ?_
    refine mB_run odX1_addDifference 1 (g := (36, [(0, .ref p0), (1, .ref p1), (2, .int p2), (3, .ref p3), (4, .int p4)], [.ref p0], (h20 ++ R), 0, 0)) rfl ?_
    obtain ⟨v22, e23, hq⟩ := bsm hq
    refine r_gR odX1_addDifference rfl rfl (gR_ap e23) ?_
    refine mB_run odX1_addDifference 1 (g := (40, [(0, .ref p0), (1, .ref p1), (2, .int p2), (3, .ref p3), (4, .int p4)], [.ref p0, .ref v22], (h20 ++ R), 0, 0)) rfl ?_
    obtain ⟨v24, e25, hq⟩ := bsm hq
    refine r_gI odX1_addDifference rfl rfl (gI_ap e25) ?_
    refine mB_run odX1_addDifference 1 (g := (44, [(0, .ref p0), (1, .ref p1), (2, .int p2), (3, .ref p3), (4, .int p4)], [.ref p1, .int v24, .ref v22], (h20 ++ R), 0, 0)) rfl ?_
    obtain ⟨v26, e27, hq⟩ := bsm hq
    refine r_gR odX1_addDifference rfl rfl (gR_ap e27) ?_
    refine mB_run odX1_addDifference 1 (g := (48, [(0, .ref p0), (1, .ref p1), (2, .int p2), (3, .ref p3), (4, .int p4)], [.int p2, .ref v26, .int v24, .ref v22], (h20 ++ R), 0, 0)) rfl ?_
    obtain ⟨v28, e29, hq⟩ := bsm hq
    refine r_aI odX1_addDifference rfl (aI_ap e29) ?_
    refine mB_run odX1_addDifference 1 (g := (50, [(0, .ref p0), (1, .ref p1), (2, .int p2), (3, .ref p3), (4, .int p4)], [.ref p3, .int v28, .int v24, .ref v22], (h20 ++ R), 0, 0)) rfl ?_
    obtain ⟨v30, e31, hq⟩ := bsm hq
    refine r_gR odX1_addDifference rfl rfl (gR_ap e31) ?_
    refine mB_run odX1_addDifference 1 (g := (55, [(0, .ref p0), (1, .ref p1), (2, .int p2), (3, .ref p3), (4, .int p4)], [.int p4, .ref v30, .int v28, .int v24, .ref v22], (h20 ++ R), 0, 0)) rfl ?_
    obtain ⟨v32, e33, hq⟩ := bsm hq
    refine r_aI odX1_addDifference rfl (aI_ap e33) ?_
    refine mB_run odX1_addDifference 1 (g := (57, [(0, .ref p0), (1, .ref p1), (2, .int p2), (3, .ref p3), (4, .int p4)], [.int (v28 - v32), .int v24, .ref v22], (h20 ++ R), 0, 0)) rfl ?_
    obtain ⟨h34, e35, hq⟩ := bsm hq
    refine r_wI odX1_addDifference rfl (wI_ap e35) ?_
    refine mB_run odX1_addDifference 1 (g := (59, [(0, .ref p0), (1, .ref p1), (2, .int p2), (3, .ref p3), (4, .int p4)], [.ref p0], (h34 ++ R), 0, 0)) rfl ?_
    obtain ⟨v36, e37, hq⟩ := bsm hq
    refine r_gR odX1_addDifference rfl rfl (gR_ap e37) ?_
    refine mB_run odX1_addDifference 1 (g := (63, [(0, .ref p0), (1, .ref p1), (2, .int p2), (3, .ref p3), (4, .int p4)], [.ref p0, .ref v36], (h34 ++ R), 0, 0)) rfl ?_
    obtain ⟨v38, e39, hq⟩ := bsm hq
    refine r_gI odX1_addDifference rfl rfl (gI_ap e39) ?_
    refine mB_run odX1_addDifference 1 (g := (67, [(0, .ref p0), (1, .ref p1), (2, .int p2), (3, .ref p3), (4, .int p4)], [.ref p1, .int v38, .ref v36], (h34 ++ R), 0, 0)) rfl ?_
    obtain ⟨v40, e41, hq⟩ := bsm hq
    refine r_gR odX1_addDifference rfl rfl (gR_ap e41) ?_
    refine mB_run odX1_addDifference 1 (g := (71, [(0, .ref p0), (1, .ref p1), (2, .int p2), (3, .ref p3), (4, .int p4)], [.int p2, .ref v40, .int v38, .ref v36], (h34 ++ R), 0, 0)) rfl ?_
    obtain ⟨v42, e43, hq⟩ := bsm hq
    refine r_aI odX1_addDifference rfl (aI_ap e43) ?_
    refine mB_run odX1_addDifference 1 (g := (73, [(0, .ref p0), (1, .ref p1), (2, .int p2), (3, .ref p3), (4, .int p4)], [.ref p3, .int v42, .int v38, .ref v36], (h34 ++ R), 0, 0)) rfl ?_
    obtain ⟨v44, e45, hq⟩ := bsm hq
    refine r_gR odX1_addDifference rfl rfl (gR_ap e45) ?_
    refine mB_run odX1_addDifference 1 (g := (78, [(0, .ref p0), (1, .ref p1), (2, .int p2), (3, .ref p3), (4, .int p4)], [.int p4, .ref v44, .int v42, .int v38, .ref v36], (h34 ++ R), 0, 0)) rfl ?_
    obtain ⟨v46, e47, hq⟩ := bsm hq
    refine r_aI odX1_addDifference rfl (aI_ap e47) ?_
    refine mB_run odX1_addDifference 1 (g := (80, [(0, .ref p0), (1, .ref p1), (2, .int p2), (3, .ref p3), (4, .int p4)], [.int (v42 - v46), .int v38, .ref v36], (h34 ++ R), 0, 0)) rfl ?_
    obtain ⟨h48, e49, hq⟩ := bsm hq
    refine r_wI odX1_addDifference rfl (wI_ap e49) ?_
    refine mB_run odX1_addDifference 2 (g := (83, [(0, .ref p0), (1, .ref p1), (2, .int p2), (3, .ref p3), (4, .int p4)], [.ref p0, .ref p0], (h48 ++ R), 0, 0)) rfl ?_
    obtain ⟨v50, e51, hq⟩ := bsm hq
    refine r_gI odX1_addDifference rfl rfl (gI_ap e51) ?_
    refine mB_run odX1_addDifference 2 (g := (88, [(0, .ref p0), (1, .ref p1), (2, .int p2), (3, .ref p3), (4, .int p4)], [.int (v50 + (1 : Int32)), .ref p0], (h48 ++ R), 0, 0)) rfl ?_
    obtain ⟨h52, e53, hq⟩ := bsm hq
    refine r_sV odX1_addDifference rfl rfl rfl rfl (sV_ap e53) ?_
    cases hq
    exact mB_ret odX1_addDifference rfl
def fxX1_along (N : Nat) (p0 : Nat) (p1 : Int32) (h : mh) : Option (mh × Int64) :=
  (gJ h p0 1 7).bind fun v1 =>
  (gR h p0 1 3).bind fun v3 =>
  (aI h v3 p1).bind fun v5 =>
  (gJ h p0 1 8).bind fun v7 =>
  (gR h p0 1 4).bind fun v9 =>
  (aI h v9 p1).bind fun v11 =>
  (gJ h p0 1 9).bind fun v13 =>
  (gR h p0 1 5).bind fun v15 =>
  (aI h v15 p1).bind fun v17 =>
  some (h, (((v1 * v5.toInt64) + (v7 * v11.toInt64)) + (v13 * v17.toInt64)))
set_option maxHeartbeats 4000000 in
set_option maxRecDepth 100000 in
theorem eaX1_along {N : Nat} {R : mh} {p0 : Nat} {p1 : Int32} {h : mh} {o : (mh × Int64)} (hq : fxX1_along N p0 p1 h = some o) : mC mX1_along [.ref p0, .int p1] (h ++ R) (o.1 ++ R, some (.long o.2)) := by
  refine mC_of okX1_along (Nat.le_of_ble_eq_true rfl) ?_
  unfold fxX1_along at hq
  show mB _ mX1_along (0, [(0, .ref p0), (1, .int p1)], [], (h ++ R), 0, 0)
  refine mB_run odX1_along 1 (g := (1, [(0, .ref p0), (1, .int p1)], [.ref p0], (h ++ R), 0, 0)) rfl ?_
  obtain ⟨v1, e2, hq⟩ := bsm hq
  refine r_gJ odX1_along rfl rfl (gJ_ap e2) ?_
  refine mB_run odX1_along 1 (g := (5, [(0, .ref p0), (1, .int p1)], [.ref p0, .long v1], (h ++ R), 0, 0)) rfl ?_
  obtain ⟨v3, e4, hq⟩ := bsm hq
  refine r_gR odX1_along rfl rfl (gR_ap e4) ?_
  refine mB_run odX1_along 1 (g := (9, [(0, .ref p0), (1, .int p1)], [.int p1, .ref v3, .long v1], (h ++ R), 0, 0)) rfl ?_
  obtain ⟨v5, e6, hq⟩ := bsm hq
  refine r_aI odX1_along rfl (aI_ap e6) ?_
  refine mB_run odX1_along 3 (g := (13, [(0, .ref p0), (1, .int p1)], [.ref p0, .long (v1 * v5.toInt64)], (h ++ R), 0, 0)) rfl ?_
  obtain ⟨v7, e8, hq⟩ := bsm hq
  refine r_gJ odX1_along rfl rfl (gJ_ap e8) ?_
  refine mB_run odX1_along 1 (g := (17, [(0, .ref p0), (1, .int p1)], [.ref p0, .long v7, .long (v1 * v5.toInt64)], (h ++ R), 0, 0)) rfl ?_
  obtain ⟨v9, e10, hq⟩ := bsm hq
  refine r_gR odX1_along rfl rfl (gR_ap e10) ?_
  refine mB_run odX1_along 1 (g := (21, [(0, .ref p0), (1, .int p1)], [.int p1, .ref v9, .long v7, .long (v1 * v5.toInt64)], (h ++ R), 0, 0)) rfl ?_
  obtain ⟨v11, e12, hq⟩ := bsm hq
  refine r_aI odX1_along rfl (aI_ap e12) ?_
  refine mB_run odX1_along 4 (g := (26, [(0, .ref p0), (1, .int p1)], [.ref p0, .long ((v1 * v5.toInt64) + (v7 * v11.toInt64))], (h ++ R), 0, 0)) rfl ?_
  obtain ⟨v13, e14, hq⟩ := bsm hq
  refine r_gJ odX1_along rfl rfl (gJ_ap e14) ?_
  refine mB_run odX1_along 1 (g := (30, [(0, .ref p0), (1, .int p1)], [.ref p0, .long v13, .long ((v1 * v5.toInt64) + (v7 * v11.toInt64))], (h ++ R), 0, 0)) rfl ?_
  obtain ⟨v15, e16, hq⟩ := bsm hq
  refine r_gR odX1_along rfl rfl (gR_ap e16) ?_
  refine mB_run odX1_along 1 (g := (34, [(0, .ref p0), (1, .int p1)], [.int p1, .ref v15, .long v13, .long ((v1 * v5.toInt64) + (v7 * v11.toInt64))], (h ++ R), 0, 0)) rfl ?_
  obtain ⟨v17, e18, hq⟩ := bsm hq
  refine r_aI odX1_along rfl (aI_ap e18) ?_
  refine mB_run odX1_along 3 (g := (38, [(0, .ref p0), (1, .int p1)], [.long (((v1 * v5.toInt64) + (v7 * v11.toInt64)) + (v13 * v17.toInt64))], (h ++ R), 0, 0)) rfl ?_
  cases hq
  exact mB_ret odX1_along rfl
def fxX1_stepToPoint (N : Nat) (p0 : Nat) (p1 : Int32) (h : mh) : Option (mh × Int32) :=
  (gR h p0 1 3).bind fun v1 =>
  (aI h v1 p1).bind fun v3 =>
  (sV h p0 1 7 (.long v3.toInt64)).bind fun h5 =>
  (gR h5 p0 1 4).bind fun v7 =>
  (aI h5 v7 p1).bind fun v9 =>
  (sV h5 p0 1 8 (.long v9.toInt64)).bind fun h11 =>
  (gR h11 p0 1 5).bind fun v13 =>
  (aI h11 v13 p1).bind fun v15 =>
  (sV h11 p0 1 9 (.long v15.toInt64)).bind fun h17 =>
  (kO h17 p0 1).bind fun f21 =>
  (fxX1_along N p0 p1 h17).bind fun o19 =>
  (sV o19.1 p0 1 0 (.long o19.2)).bind fun h23 =>
  (sV h23 p0 1 1 (.long (1 : Int64))).bind fun h25 =>
  some (h25, (1 : Int32))
set_option maxHeartbeats 4000000 in
set_option maxRecDepth 100000 in
theorem eaX1_stepToPoint {N : Nat} {R : mh} {p0 : Nat} {p1 : Int32} {h : mh} {o : (mh × Int32)} (hq : fxX1_stepToPoint N p0 p1 h = some o) : mC mX1_stepToPoint [.ref p0, .int p1] (h ++ R) (o.1 ++ R, some (.int o.2)) := by
  refine mC_of okX1_stepToPoint (Nat.le_of_ble_eq_true rfl) ?_
  unfold fxX1_stepToPoint at hq
  show mB _ mX1_stepToPoint (0, [(0, .ref p0), (1, .int p1)], [], (h ++ R), 0, 0)
  refine mB_run odX1_stepToPoint 2 (g := (2, [(0, .ref p0), (1, .int p1)], [.ref p0, .ref p0], (h ++ R), 0, 0)) rfl ?_
  obtain ⟨v1, e2, hq⟩ := bsm hq
  refine r_gR odX1_stepToPoint rfl rfl (gR_ap e2) ?_
  refine mB_run odX1_stepToPoint 1 (g := (6, [(0, .ref p0), (1, .int p1)], [.int p1, .ref v1, .ref p0], (h ++ R), 0, 0)) rfl ?_
  obtain ⟨v3, e4, hq⟩ := bsm hq
  refine r_aI odX1_stepToPoint rfl (aI_ap e4) ?_
  refine mB_run odX1_stepToPoint 1 (g := (8, [(0, .ref p0), (1, .int p1)], [.long v3.toInt64, .ref p0], (h ++ R), 0, 0)) rfl ?_
  obtain ⟨h5, e6, hq⟩ := bsm hq
  refine r_sV odX1_stepToPoint rfl rfl rfl rfl (sV_ap e6) ?_
  refine mB_run odX1_stepToPoint 2 (g := (13, [(0, .ref p0), (1, .int p1)], [.ref p0, .ref p0], (h5 ++ R), 0, 0)) rfl ?_
  obtain ⟨v7, e8, hq⟩ := bsm hq
  refine r_gR odX1_stepToPoint rfl rfl (gR_ap e8) ?_
  refine mB_run odX1_stepToPoint 1 (g := (17, [(0, .ref p0), (1, .int p1)], [.int p1, .ref v7, .ref p0], (h5 ++ R), 0, 0)) rfl ?_
  obtain ⟨v9, e10, hq⟩ := bsm hq
  refine r_aI odX1_stepToPoint rfl (aI_ap e10) ?_
  refine mB_run odX1_stepToPoint 1 (g := (19, [(0, .ref p0), (1, .int p1)], [.long v9.toInt64, .ref p0], (h5 ++ R), 0, 0)) rfl ?_
  obtain ⟨h11, e12, hq⟩ := bsm hq
  refine r_sV odX1_stepToPoint rfl rfl rfl rfl (sV_ap e12) ?_
  refine mB_run odX1_stepToPoint 2 (g := (24, [(0, .ref p0), (1, .int p1)], [.ref p0, .ref p0], (h11 ++ R), 0, 0)) rfl ?_
  obtain ⟨v13, e14, hq⟩ := bsm hq
  refine r_gR odX1_stepToPoint rfl rfl (gR_ap e14) ?_
  refine mB_run odX1_stepToPoint 1 (g := (28, [(0, .ref p0), (1, .int p1)], [.int p1, .ref v13, .ref p0], (h11 ++ R), 0, 0)) rfl ?_
  obtain ⟨v15, e16, hq⟩ := bsm hq
  refine r_aI odX1_stepToPoint rfl (aI_ap e16) ?_
  refine mB_run odX1_stepToPoint 1 (g := (30, [(0, .ref p0), (1, .int p1)], [.long v15.toInt64, .ref p0], (h11 ++ R), 0, 0)) rfl ?_
  obtain ⟨h17, e18, hq⟩ := bsm hq
  refine r_sV odX1_stepToPoint rfl rfl rfl rfl (sV_ap e18) ?_
  refine mB_run odX1_stepToPoint 3 (g := (36, [(0, .ref p0), (1, .int p1)], [.int p1, .ref p0, .ref p0], (h17 ++ R), 0, 0)) rfl ?_
  obtain ⟨f21, k22, hq⟩ := bsm hq
  obtain ⟨o19, e20, hq⟩ := bsm hq
  refine mB_V (as := [.int p1]) odX1_stepToPoint okX1_along lk_1_59 rfl (eaX1_along e20) (kO_at (kO_ap k22)) rfl rfl rfl ?_
  show mB _ mX1_stepToPoint (39, [(0, .ref p0), (1, .int p1)], [.long o19.2, .ref p0], (o19.1 ++ R), 0, 0)
  obtain ⟨h23, e24, hq⟩ := bsm hq
  refine r_sV odX1_stepToPoint rfl rfl rfl rfl (sV_ap e24) ?_
  refine mB_run odX1_stepToPoint 2 (g := (44, [(0, .ref p0), (1, .int p1)], [.long (1 : Int64), .ref p0], (h23 ++ R), 0, 0)) rfl ?_
  obtain ⟨h25, e26, hq⟩ := bsm hq
  refine r_sV odX1_stepToPoint rfl rfl rfl rfl (sV_ap e26) ?_
  refine mB_run odX1_stepToPoint 1 (g := (48, [(0, .ref p0), (1, .int p1)], [.int (1 : Int32)], (h25 ++ R), 0, 0)) rfl ?_
  cases hq
  exact mB_ret odX1_stepToPoint rfl
def fxX1_stepToLine (N : Nat) (p0 : Nat) (p1 : Int32) (p2 : Int32) (h : mh) : Option (mh × Int32) :=
  (gR h p0 1 3).bind fun v1 =>
  (aI h v1 p2).bind fun v3 =>
  (gR h p0 1 3).bind fun v5 =>
  (aI h v5 p1).bind fun v7 =>
  (gR h p0 1 4).bind fun v9 =>
  (aI h v9 p2).bind fun v11 =>
  (gR h p0 1 4).bind fun v13 =>
  (aI h v13 p1).bind fun v15 =>
  (gR h p0 1 5).bind fun v17 =>
  (aI h v17 p2).bind fun v19 =>
  (gR h p0 1 5).bind fun v21 =>
  (aI h v21 p1).bind fun v23 =>
  (gR h p0 1 3).bind fun v25 =>
  (aI h v25 p1).bind fun v27 =>
  (gR h p0 1 4).bind fun v29 =>
  (aI h v29 p1).bind fun v31 =>
  (gR h p0 1 5).bind fun v33 =>
  (aI h v33 p1).bind fun v35 =>
  (gR h p0 1 3).bind fun v37 =>
  (aI h v37 p2).bind fun v39 =>
  (gR h p0 1 4).bind fun v41 =>
  (aI h v41 p2).bind fun v43 =>
  (gR h p0 1 5).bind fun v45 =>
  (aI h v45 p2).bind fun v47 =>
  if (-((((v3 - v7).toInt64 * v27.toInt64) + ((v11 - v15).toInt64 * v31.toInt64)) + ((v19 - v23).toInt64 * v35.toInt64))) ≤ (0 : Int64) then (
    some (h, (0 : Int32))) else (
    if (0 : Int64) < ((((v3 - v7).toInt64 * v39.toInt64) + ((v11 - v15).toInt64 * v43.toInt64)) + ((v19 - v23).toInt64 * v47.toInt64)) then (
      (gR h p0 1 3).bind fun v51 =>
      (aI h v51 p1).bind fun v53 =>
      (gR h p0 1 3).bind fun v55 =>
      (aI h v55 p2).bind fun v57 =>
      (sV h p0 1 7 (.long ((((((v3 - v7).toInt64 * v39.toInt64) + ((v11 - v15).toInt64 * v43.toInt64)) + ((v19 - v23).toInt64 * v47.toInt64)) * v53.toInt64) + ((-((((v3 - v7).toInt64 * v27.toInt64) + ((v11 - v15).toInt64 * v31.toInt64)) + ((v19 - v23).toInt64 * v35.toInt64))) * v57.toInt64)))).bind fun h59 =>
      (gR h59 p0 1 4).bind fun v61 =>
      (aI h59 v61 p1).bind fun v63 =>
      (gR h59 p0 1 4).bind fun v65 =>
      (aI h59 v65 p2).bind fun v67 =>
      (sV h59 p0 1 8 (.long ((((((v3 - v7).toInt64 * v39.toInt64) + ((v11 - v15).toInt64 * v43.toInt64)) + ((v19 - v23).toInt64 * v47.toInt64)) * v63.toInt64) + ((-((((v3 - v7).toInt64 * v27.toInt64) + ((v11 - v15).toInt64 * v31.toInt64)) + ((v19 - v23).toInt64 * v35.toInt64))) * v67.toInt64)))).bind fun h69 =>
      (gR h69 p0 1 5).bind fun v71 =>
      (aI h69 v71 p1).bind fun v73 =>
      (gR h69 p0 1 5).bind fun v75 =>
      (aI h69 v75 p2).bind fun v77 =>
      (sV h69 p0 1 9 (.long ((((((v3 - v7).toInt64 * v39.toInt64) + ((v11 - v15).toInt64 * v43.toInt64)) + ((v19 - v23).toInt64 * v47.toInt64)) * v73.toInt64) + ((-((((v3 - v7).toInt64 * v27.toInt64) + ((v11 - v15).toInt64 * v31.toInt64)) + ((v19 - v23).toInt64 * v35.toInt64))) * v77.toInt64)))).bind fun h79 =>
      (kO h79 p0 1).bind fun f83 =>
      (fxX1_along N p0 p1 h79).bind fun o81 =>
      (sV o81.1 p0 1 0 (.long o81.2)).bind fun h85 =>
      (sV h85 p0 1 1 (.long ((-((((v3 - v7).toInt64 * v27.toInt64) + ((v11 - v15).toInt64 * v31.toInt64)) + ((v19 - v23).toInt64 * v35.toInt64))) + ((((v3 - v7).toInt64 * v39.toInt64) + ((v11 - v15).toInt64 * v43.toInt64)) + ((v19 - v23).toInt64 * v47.toInt64))))).bind fun h87 =>
      some (h87, (1 : Int32))) else (
      some (h, (0 : Int32))))
set_option maxHeartbeats 4000000 in
set_option maxRecDepth 100000 in
theorem eaX1_stepToLine {N : Nat} {R : mh} {p0 : Nat} {p1 : Int32} {p2 : Int32} {h : mh} {o : (mh × Int32)} (hq : fxX1_stepToLine N p0 p1 p2 h = some o) : mC mX1_stepToLine [.ref p0, .int p1, .int p2] (h ++ R) (o.1 ++ R, some (.int o.2)) := by
  refine mC_of okX1_stepToLine (Nat.le_of_ble_eq_true rfl) ?_
  unfold fxX1_stepToLine at hq
  show mB _ mX1_stepToLine (0, [(0, .ref p0), (1, .int p1), (2, .int p2)], [], (h ++ R), 0, 0)
  refine mB_run odX1_stepToLine 1 (g := (1, [(0, .ref p0), (1, .int p1), (2, .int p2)], [.ref p0], (h ++ R), 0, 0)) rfl ?_
  obtain ⟨v1, e2, hq⟩ := bsm hq
  refine r_gR odX1_stepToLine rfl rfl (gR_ap e2) ?_
  refine mB_run odX1_stepToLine 1 (g := (5, [(0, .ref p0), (1, .int p1), (2, .int p2)], [.int p2, .ref v1], (h ++ R), 0, 0)) rfl ?_
  obtain ⟨v3, e4, hq⟩ := bsm hq
  refine r_aI odX1_stepToLine rfl (aI_ap e4) ?_
  refine mB_run odX1_stepToLine 1 (g := (7, [(0, .ref p0), (1, .int p1), (2, .int p2)], [.ref p0, .int v3], (h ++ R), 0, 0)) rfl ?_
  obtain ⟨v5, e6, hq⟩ := bsm hq
  refine r_gR odX1_stepToLine rfl rfl (gR_ap e6) ?_
  refine mB_run odX1_stepToLine 1 (g := (11, [(0, .ref p0), (1, .int p1), (2, .int p2)], [.int p1, .ref v5, .int v3], (h ++ R), 0, 0)) rfl ?_
  obtain ⟨v7, e8, hq⟩ := bsm hq
  refine r_aI odX1_stepToLine rfl (aI_ap e8) ?_
  refine mB_run odX1_stepToLine 4 (g := (16, [(3, .long (v3 - v7).toInt64), (0, .ref p0), (1, .int p1), (2, .int p2)], [.ref p0], (h ++ R), 0, 0)) rfl ?_
  obtain ⟨v9, e10, hq⟩ := bsm hq
  refine r_gR odX1_stepToLine rfl rfl (gR_ap e10) ?_
  refine mB_run odX1_stepToLine 1 (g := (20, [(3, .long (v3 - v7).toInt64), (0, .ref p0), (1, .int p1), (2, .int p2)], [.int p2, .ref v9], (h ++ R), 0, 0)) rfl ?_
  obtain ⟨v11, e12, hq⟩ := bsm hq
  refine r_aI odX1_stepToLine rfl (aI_ap e12) ?_
  refine mB_run odX1_stepToLine 1 (g := (22, [(3, .long (v3 - v7).toInt64), (0, .ref p0), (1, .int p1), (2, .int p2)], [.ref p0, .int v11], (h ++ R), 0, 0)) rfl ?_
  obtain ⟨v13, e14, hq⟩ := bsm hq
  refine r_gR odX1_stepToLine rfl rfl (gR_ap e14) ?_
  refine mB_run odX1_stepToLine 1 (g := (26, [(3, .long (v3 - v7).toInt64), (0, .ref p0), (1, .int p1), (2, .int p2)], [.int p1, .ref v13, .int v11], (h ++ R), 0, 0)) rfl ?_
  obtain ⟨v15, e16, hq⟩ := bsm hq
  refine r_aI odX1_stepToLine rfl (aI_ap e16) ?_
  refine mB_run odX1_stepToLine 4 (g := (32, [(5, .long (v11 - v15).toInt64), (3, .long (v3 - v7).toInt64), (0, .ref p0), (1, .int p1), (2, .int p2)], [.ref p0], (h ++ R), 0, 0)) rfl ?_
  obtain ⟨v17, e18, hq⟩ := bsm hq
  refine r_gR odX1_stepToLine rfl rfl (gR_ap e18) ?_
  refine mB_run odX1_stepToLine 1 (g := (36, [(5, .long (v11 - v15).toInt64), (3, .long (v3 - v7).toInt64), (0, .ref p0), (1, .int p1), (2, .int p2)], [.int p2, .ref v17], (h ++ R), 0, 0)) rfl ?_
  obtain ⟨v19, e20, hq⟩ := bsm hq
  refine r_aI odX1_stepToLine rfl (aI_ap e20) ?_
  refine mB_run odX1_stepToLine 1 (g := (38, [(5, .long (v11 - v15).toInt64), (3, .long (v3 - v7).toInt64), (0, .ref p0), (1, .int p1), (2, .int p2)], [.ref p0, .int v19], (h ++ R), 0, 0)) rfl ?_
  obtain ⟨v21, e22, hq⟩ := bsm hq
  refine r_gR odX1_stepToLine rfl rfl (gR_ap e22) ?_
  refine mB_run odX1_stepToLine 1 (g := (42, [(5, .long (v11 - v15).toInt64), (3, .long (v3 - v7).toInt64), (0, .ref p0), (1, .int p1), (2, .int p2)], [.int p1, .ref v21, .int v19], (h ++ R), 0, 0)) rfl ?_
  obtain ⟨v23, e24, hq⟩ := bsm hq
  refine r_aI odX1_stepToLine rfl (aI_ap e24) ?_
  refine mB_run odX1_stepToLine 5 (g := (49, [(7, .long (v19 - v23).toInt64), (5, .long (v11 - v15).toInt64), (3, .long (v3 - v7).toInt64), (0, .ref p0), (1, .int p1), (2, .int p2)], [.ref p0, .long (v3 - v7).toInt64], (h ++ R), 0, 0)) rfl ?_
  obtain ⟨v25, e26, hq⟩ := bsm hq
  refine r_gR odX1_stepToLine rfl rfl (gR_ap e26) ?_
  refine mB_run odX1_stepToLine 1 (g := (53, [(7, .long (v19 - v23).toInt64), (5, .long (v11 - v15).toInt64), (3, .long (v3 - v7).toInt64), (0, .ref p0), (1, .int p1), (2, .int p2)], [.int p1, .ref v25, .long (v3 - v7).toInt64], (h ++ R), 0, 0)) rfl ?_
  obtain ⟨v27, e28, hq⟩ := bsm hq
  refine r_aI odX1_stepToLine rfl (aI_ap e28) ?_
  refine mB_run odX1_stepToLine 4 (g := (59, [(7, .long (v19 - v23).toInt64), (5, .long (v11 - v15).toInt64), (3, .long (v3 - v7).toInt64), (0, .ref p0), (1, .int p1), (2, .int p2)], [.ref p0, .long (v11 - v15).toInt64, .long ((v3 - v7).toInt64 * v27.toInt64)], (h ++ R), 0, 0)) rfl ?_
  obtain ⟨v29, e30, hq⟩ := bsm hq
  refine r_gR odX1_stepToLine rfl rfl (gR_ap e30) ?_
  refine mB_run odX1_stepToLine 1 (g := (63, [(7, .long (v19 - v23).toInt64), (5, .long (v11 - v15).toInt64), (3, .long (v3 - v7).toInt64), (0, .ref p0), (1, .int p1), (2, .int p2)], [.int p1, .ref v29, .long (v11 - v15).toInt64, .long ((v3 - v7).toInt64 * v27.toInt64)], (h ++ R), 0, 0)) rfl ?_
  obtain ⟨v31, e32, hq⟩ := bsm hq
  refine r_aI odX1_stepToLine rfl (aI_ap e32) ?_
  refine mB_run odX1_stepToLine 5 (g := (70, [(7, .long (v19 - v23).toInt64), (5, .long (v11 - v15).toInt64), (3, .long (v3 - v7).toInt64), (0, .ref p0), (1, .int p1), (2, .int p2)], [.ref p0, .long (v19 - v23).toInt64, .long (((v3 - v7).toInt64 * v27.toInt64) + ((v11 - v15).toInt64 * v31.toInt64))], (h ++ R), 0, 0)) rfl ?_
  obtain ⟨v33, e34, hq⟩ := bsm hq
  refine r_gR odX1_stepToLine rfl rfl (gR_ap e34) ?_
  refine mB_run odX1_stepToLine 1 (g := (74, [(7, .long (v19 - v23).toInt64), (5, .long (v11 - v15).toInt64), (3, .long (v3 - v7).toInt64), (0, .ref p0), (1, .int p1), (2, .int p2)], [.int p1, .ref v33, .long (v19 - v23).toInt64, .long (((v3 - v7).toInt64 * v27.toInt64) + ((v11 - v15).toInt64 * v31.toInt64))], (h ++ R), 0, 0)) rfl ?_
  obtain ⟨v35, e36, hq⟩ := bsm hq
  refine r_aI odX1_stepToLine rfl (aI_ap e36) ?_
  refine mB_run odX1_stepToLine 7 (g := (83, [(9, .long (-((((v3 - v7).toInt64 * v27.toInt64) + ((v11 - v15).toInt64 * v31.toInt64)) + ((v19 - v23).toInt64 * v35.toInt64)))), (7, .long (v19 - v23).toInt64), (5, .long (v11 - v15).toInt64), (3, .long (v3 - v7).toInt64), (0, .ref p0), (1, .int p1), (2, .int p2)], [.ref p0, .long (v3 - v7).toInt64], (h ++ R), 0, 0)) rfl ?_
  obtain ⟨v37, e38, hq⟩ := bsm hq
  refine r_gR odX1_stepToLine rfl rfl (gR_ap e38) ?_
  refine mB_run odX1_stepToLine 1 (g := (87, [(9, .long (-((((v3 - v7).toInt64 * v27.toInt64) + ((v11 - v15).toInt64 * v31.toInt64)) + ((v19 - v23).toInt64 * v35.toInt64)))), (7, .long (v19 - v23).toInt64), (5, .long (v11 - v15).toInt64), (3, .long (v3 - v7).toInt64), (0, .ref p0), (1, .int p1), (2, .int p2)], [.int p2, .ref v37, .long (v3 - v7).toInt64], (h ++ R), 0, 0)) rfl ?_
  obtain ⟨v39, e40, hq⟩ := bsm hq
  refine r_aI odX1_stepToLine rfl (aI_ap e40) ?_
  refine mB_run odX1_stepToLine 4 (g := (93, [(9, .long (-((((v3 - v7).toInt64 * v27.toInt64) + ((v11 - v15).toInt64 * v31.toInt64)) + ((v19 - v23).toInt64 * v35.toInt64)))), (7, .long (v19 - v23).toInt64), (5, .long (v11 - v15).toInt64), (3, .long (v3 - v7).toInt64), (0, .ref p0), (1, .int p1), (2, .int p2)], [.ref p0, .long (v11 - v15).toInt64, .long ((v3 - v7).toInt64 * v39.toInt64)], (h ++ R), 0, 0)) rfl ?_
  obtain ⟨v41, e42, hq⟩ := bsm hq
  refine r_gR odX1_stepToLine rfl rfl (gR_ap e42) ?_
  refine mB_run odX1_stepToLine 1 (g := (97, [(9, .long (-((((v3 - v7).toInt64 * v27.toInt64) + ((v11 - v15).toInt64 * v31.toInt64)) + ((v19 - v23).toInt64 * v35.toInt64)))), (7, .long (v19 - v23).toInt64), (5, .long (v11 - v15).toInt64), (3, .long (v3 - v7).toInt64), (0, .ref p0), (1, .int p1), (2, .int p2)], [.int p2, .ref v41, .long (v11 - v15).toInt64, .long ((v3 - v7).toInt64 * v39.toInt64)], (h ++ R), 0, 0)) rfl ?_
  obtain ⟨v43, e44, hq⟩ := bsm hq
  refine r_aI odX1_stepToLine rfl (aI_ap e44) ?_
  refine mB_run odX1_stepToLine 5 (g := (104, [(9, .long (-((((v3 - v7).toInt64 * v27.toInt64) + ((v11 - v15).toInt64 * v31.toInt64)) + ((v19 - v23).toInt64 * v35.toInt64)))), (7, .long (v19 - v23).toInt64), (5, .long (v11 - v15).toInt64), (3, .long (v3 - v7).toInt64), (0, .ref p0), (1, .int p1), (2, .int p2)], [.ref p0, .long (v19 - v23).toInt64, .long (((v3 - v7).toInt64 * v39.toInt64) + ((v11 - v15).toInt64 * v43.toInt64))], (h ++ R), 0, 0)) rfl ?_
  obtain ⟨v45, e46, hq⟩ := bsm hq
  refine r_gR odX1_stepToLine rfl rfl (gR_ap e46) ?_
  refine mB_run odX1_stepToLine 1 (g := (108, [(9, .long (-((((v3 - v7).toInt64 * v27.toInt64) + ((v11 - v15).toInt64 * v31.toInt64)) + ((v19 - v23).toInt64 * v35.toInt64)))), (7, .long (v19 - v23).toInt64), (5, .long (v11 - v15).toInt64), (3, .long (v3 - v7).toInt64), (0, .ref p0), (1, .int p1), (2, .int p2)], [.int p2, .ref v45, .long (v19 - v23).toInt64, .long (((v3 - v7).toInt64 * v39.toInt64) + ((v11 - v15).toInt64 * v43.toInt64))], (h ++ R), 0, 0)) rfl ?_
  obtain ⟨v47, e48, hq⟩ := bsm hq
  refine r_aI odX1_stepToLine rfl (aI_ap e48) ?_
  refine mB_run odX1_stepToLine 6 (g := (117, [(11, .long ((((v3 - v7).toInt64 * v39.toInt64) + ((v11 - v15).toInt64 * v43.toInt64)) + ((v19 - v23).toInt64 * v47.toInt64))), (9, .long (-((((v3 - v7).toInt64 * v27.toInt64) + ((v11 - v15).toInt64 * v31.toInt64)) + ((v19 - v23).toInt64 * v35.toInt64)))), (7, .long (v19 - v23).toInt64), (5, .long (v11 - v15).toInt64), (3, .long (v3 - v7).toInt64), (0, .ref p0), (1, .int p1), (2, .int p2)], [.long (0 : Int64), .long (-((((v3 - v7).toInt64 * v27.toInt64) + ((v11 - v15).toInt64 * v31.toInt64)) + ((v19 - v23).toInt64 * v35.toInt64)))], (h ++ R), 0, 0)) rfl ?_
  by_cases c49 : (-((((v3 - v7).toInt64 * v27.toInt64) + ((v11 - v15).toInt64 * v31.toInt64)) + ((v19 - v23).toInt64 * v35.toInt64))) ≤ (0 : Int64)
  · rw [if_pos c49] at hq
    refine lc_le_T (t := 128) odX1_stepToLine rfl rfl rfl c49 ?_
    refine mB_run odX1_stepToLine 1 (g := (129, [(11, .long ((((v3 - v7).toInt64 * v39.toInt64) + ((v11 - v15).toInt64 * v43.toInt64)) + ((v19 - v23).toInt64 * v47.toInt64))), (9, .long (-((((v3 - v7).toInt64 * v27.toInt64) + ((v11 - v15).toInt64 * v31.toInt64)) + ((v19 - v23).toInt64 * v35.toInt64)))), (7, .long (v19 - v23).toInt64), (5, .long (v11 - v15).toInt64), (3, .long (v3 - v7).toInt64), (0, .ref p0), (1, .int p1), (2, .int p2)], [.int (0 : Int32)], (h ++ R), 0, 0)) rfl ?_
    cases hq
    exact mB_ret odX1_stepToLine rfl
  · rw [if_neg c49] at hq
    refine lc_le_F (t := 128) odX1_stepToLine rfl rfl rfl c49 ?_
    refine mB_run odX1_stepToLine 2 (g := (124, [(11, .long ((((v3 - v7).toInt64 * v39.toInt64) + ((v11 - v15).toInt64 * v43.toInt64)) + ((v19 - v23).toInt64 * v47.toInt64))), (9, .long (-((((v3 - v7).toInt64 * v27.toInt64) + ((v11 - v15).toInt64 * v31.toInt64)) + ((v19 - v23).toInt64 * v35.toInt64)))), (7, .long (v19 - v23).toInt64), (5, .long (v11 - v15).toInt64), (3, .long (v3 - v7).toInt64), (0, .ref p0), (1, .int p1), (2, .int p2)], [.long (0 : Int64), .long ((((v3 - v7).toInt64 * v39.toInt64) + ((v11 - v15).toInt64 * v43.toInt64)) + ((v19 - v23).toInt64 * v47.toInt64))], (h ++ R), 0, 0)) rfl ?_
    by_cases c50 : (0 : Int64) < ((((v3 - v7).toInt64 * v39.toInt64) + ((v11 - v15).toInt64 * v43.toInt64)) + ((v19 - v23).toInt64 * v47.toInt64))
    · rw [if_pos c50] at hq
      refine lc_gt_T (t := 130) odX1_stepToLine rfl rfl rfl c50 ?_
      refine mB_run odX1_stepToLine 3 (g := (134, [(11, .long ((((v3 - v7).toInt64 * v39.toInt64) + ((v11 - v15).toInt64 * v43.toInt64)) + ((v19 - v23).toInt64 * v47.toInt64))), (9, .long (-((((v3 - v7).toInt64 * v27.toInt64) + ((v11 - v15).toInt64 * v31.toInt64)) + ((v19 - v23).toInt64 * v35.toInt64)))), (7, .long (v19 - v23).toInt64), (5, .long (v11 - v15).toInt64), (3, .long (v3 - v7).toInt64), (0, .ref p0), (1, .int p1), (2, .int p2)], [.ref p0, .long ((((v3 - v7).toInt64 * v39.toInt64) + ((v11 - v15).toInt64 * v43.toInt64)) + ((v19 - v23).toInt64 * v47.toInt64)), .ref p0], (h ++ R), 0, 0)) rfl ?_
      obtain ⟨v51, e52, hq⟩ := bsm hq
      refine r_gR odX1_stepToLine rfl rfl (gR_ap e52) ?_
      refine mB_run odX1_stepToLine 1 (g := (138, [(11, .long ((((v3 - v7).toInt64 * v39.toInt64) + ((v11 - v15).toInt64 * v43.toInt64)) + ((v19 - v23).toInt64 * v47.toInt64))), (9, .long (-((((v3 - v7).toInt64 * v27.toInt64) + ((v11 - v15).toInt64 * v31.toInt64)) + ((v19 - v23).toInt64 * v35.toInt64)))), (7, .long (v19 - v23).toInt64), (5, .long (v11 - v15).toInt64), (3, .long (v3 - v7).toInt64), (0, .ref p0), (1, .int p1), (2, .int p2)], [.int p1, .ref v51, .long ((((v3 - v7).toInt64 * v39.toInt64) + ((v11 - v15).toInt64 * v43.toInt64)) + ((v19 - v23).toInt64 * v47.toInt64)), .ref p0], (h ++ R), 0, 0)) rfl ?_
      obtain ⟨v53, e54, hq⟩ := bsm hq
      refine r_aI odX1_stepToLine rfl (aI_ap e54) ?_
      refine mB_run odX1_stepToLine 4 (g := (144, [(11, .long ((((v3 - v7).toInt64 * v39.toInt64) + ((v11 - v15).toInt64 * v43.toInt64)) + ((v19 - v23).toInt64 * v47.toInt64))), (9, .long (-((((v3 - v7).toInt64 * v27.toInt64) + ((v11 - v15).toInt64 * v31.toInt64)) + ((v19 - v23).toInt64 * v35.toInt64)))), (7, .long (v19 - v23).toInt64), (5, .long (v11 - v15).toInt64), (3, .long (v3 - v7).toInt64), (0, .ref p0), (1, .int p1), (2, .int p2)], [.ref p0, .long (-((((v3 - v7).toInt64 * v27.toInt64) + ((v11 - v15).toInt64 * v31.toInt64)) + ((v19 - v23).toInt64 * v35.toInt64))), .long (((((v3 - v7).toInt64 * v39.toInt64) + ((v11 - v15).toInt64 * v43.toInt64)) + ((v19 - v23).toInt64 * v47.toInt64)) * v53.toInt64), .ref p0], (h ++ R), 0, 0)) rfl ?_
      obtain ⟨v55, e56, hq⟩ := bsm hq
      refine r_gR odX1_stepToLine rfl rfl (gR_ap e56) ?_
      refine mB_run odX1_stepToLine 1 (g := (148, [(11, .long ((((v3 - v7).toInt64 * v39.toInt64) + ((v11 - v15).toInt64 * v43.toInt64)) + ((v19 - v23).toInt64 * v47.toInt64))), (9, .long (-((((v3 - v7).toInt64 * v27.toInt64) + ((v11 - v15).toInt64 * v31.toInt64)) + ((v19 - v23).toInt64 * v35.toInt64)))), (7, .long (v19 - v23).toInt64), (5, .long (v11 - v15).toInt64), (3, .long (v3 - v7).toInt64), (0, .ref p0), (1, .int p1), (2, .int p2)], [.int p2, .ref v55, .long (-((((v3 - v7).toInt64 * v27.toInt64) + ((v11 - v15).toInt64 * v31.toInt64)) + ((v19 - v23).toInt64 * v35.toInt64))), .long (((((v3 - v7).toInt64 * v39.toInt64) + ((v11 - v15).toInt64 * v43.toInt64)) + ((v19 - v23).toInt64 * v47.toInt64)) * v53.toInt64), .ref p0], (h ++ R), 0, 0)) rfl ?_
      obtain ⟨v57, e58, hq⟩ := bsm hq
      refine r_aI odX1_stepToLine rfl (aI_ap e58) ?_
      refine mB_run odX1_stepToLine 3 (g := (152, [(11, .long ((((v3 - v7).toInt64 * v39.toInt64) + ((v11 - v15).toInt64 * v43.toInt64)) + ((v19 - v23).toInt64 * v47.toInt64))), (9, .long (-((((v3 - v7).toInt64 * v27.toInt64) + ((v11 - v15).toInt64 * v31.toInt64)) + ((v19 - v23).toInt64 * v35.toInt64)))), (7, .long (v19 - v23).toInt64), (5, .long (v11 - v15).toInt64), (3, .long (v3 - v7).toInt64), (0, .ref p0), (1, .int p1), (2, .int p2)], [.long ((((((v3 - v7).toInt64 * v39.toInt64) + ((v11 - v15).toInt64 * v43.toInt64)) + ((v19 - v23).toInt64 * v47.toInt64)) * v53.toInt64) + ((-((((v3 - v7).toInt64 * v27.toInt64) + ((v11 - v15).toInt64 * v31.toInt64)) + ((v19 - v23).toInt64 * v35.toInt64))) * v57.toInt64)), .ref p0], (h ++ R), 0, 0)) rfl ?_
      obtain ⟨h59, e60, hq⟩ := bsm hq
      refine r_sV odX1_stepToLine rfl rfl rfl rfl (sV_ap e60) ?_
      refine mB_run odX1_stepToLine 3 (g := (159, [(11, .long ((((v3 - v7).toInt64 * v39.toInt64) + ((v11 - v15).toInt64 * v43.toInt64)) + ((v19 - v23).toInt64 * v47.toInt64))), (9, .long (-((((v3 - v7).toInt64 * v27.toInt64) + ((v11 - v15).toInt64 * v31.toInt64)) + ((v19 - v23).toInt64 * v35.toInt64)))), (7, .long (v19 - v23).toInt64), (5, .long (v11 - v15).toInt64), (3, .long (v3 - v7).toInt64), (0, .ref p0), (1, .int p1), (2, .int p2)], [.ref p0, .long ((((v3 - v7).toInt64 * v39.toInt64) + ((v11 - v15).toInt64 * v43.toInt64)) + ((v19 - v23).toInt64 * v47.toInt64)), .ref p0], (h59 ++ R), 0, 0)) rfl ?_
      obtain ⟨v61, e62, hq⟩ := bsm hq
      refine r_gR odX1_stepToLine rfl rfl (gR_ap e62) ?_
      refine mB_run odX1_stepToLine 1 (g := (163, [(11, .long ((((v3 - v7).toInt64 * v39.toInt64) + ((v11 - v15).toInt64 * v43.toInt64)) + ((v19 - v23).toInt64 * v47.toInt64))), (9, .long (-((((v3 - v7).toInt64 * v27.toInt64) + ((v11 - v15).toInt64 * v31.toInt64)) + ((v19 - v23).toInt64 * v35.toInt64)))), (7, .long (v19 - v23).toInt64), (5, .long (v11 - v15).toInt64), (3, .long (v3 - v7).toInt64), (0, .ref p0), (1, .int p1), (2, .int p2)], [.int p1, .ref v61, .long ((((v3 - v7).toInt64 * v39.toInt64) + ((v11 - v15).toInt64 * v43.toInt64)) + ((v19 - v23).toInt64 * v47.toInt64)), .ref p0], (h59 ++ R), 0, 0)) rfl ?_
      obtain ⟨v63, e64, hq⟩ := bsm hq
      refine r_aI odX1_stepToLine rfl (aI_ap e64) ?_
      refine mB_run odX1_stepToLine 4 (g := (169, [(11, .long ((((v3 - v7).toInt64 * v39.toInt64) + ((v11 - v15).toInt64 * v43.toInt64)) + ((v19 - v23).toInt64 * v47.toInt64))), (9, .long (-((((v3 - v7).toInt64 * v27.toInt64) + ((v11 - v15).toInt64 * v31.toInt64)) + ((v19 - v23).toInt64 * v35.toInt64)))), (7, .long (v19 - v23).toInt64), (5, .long (v11 - v15).toInt64), (3, .long (v3 - v7).toInt64), (0, .ref p0), (1, .int p1), (2, .int p2)], [.ref p0, .long (-((((v3 - v7).toInt64 * v27.toInt64) + ((v11 - v15).toInt64 * v31.toInt64)) + ((v19 - v23).toInt64 * v35.toInt64))), .long (((((v3 - v7).toInt64 * v39.toInt64) + ((v11 - v15).toInt64 * v43.toInt64)) + ((v19 - v23).toInt64 * v47.toInt64)) * v63.toInt64), .ref p0], (h59 ++ R), 0, 0)) rfl ?_
      obtain ⟨v65, e66, hq⟩ := bsm hq
      refine r_gR odX1_stepToLine rfl rfl (gR_ap e66) ?_
      refine mB_run odX1_stepToLine 1 (g := (173, [(11, .long ((((v3 - v7).toInt64 * v39.toInt64) + ((v11 - v15).toInt64 * v43.toInt64)) + ((v19 - v23).toInt64 * v47.toInt64))), (9, .long (-((((v3 - v7).toInt64 * v27.toInt64) + ((v11 - v15).toInt64 * v31.toInt64)) + ((v19 - v23).toInt64 * v35.toInt64)))), (7, .long (v19 - v23).toInt64), (5, .long (v11 - v15).toInt64), (3, .long (v3 - v7).toInt64), (0, .ref p0), (1, .int p1), (2, .int p2)], [.int p2, .ref v65, .long (-((((v3 - v7).toInt64 * v27.toInt64) + ((v11 - v15).toInt64 * v31.toInt64)) + ((v19 - v23).toInt64 * v35.toInt64))), .long (((((v3 - v7).toInt64 * v39.toInt64) + ((v11 - v15).toInt64 * v43.toInt64)) + ((v19 - v23).toInt64 * v47.toInt64)) * v63.toInt64), .ref p0], (h59 ++ R), 0, 0)) rfl ?_
      obtain ⟨v67, e68, hq⟩ := bsm hq
      refine r_aI odX1_stepToLine rfl (aI_ap e68) ?_
      refine mB_run odX1_stepToLine 3 (g := (177, [(11, .long ((((v3 - v7).toInt64 * v39.toInt64) + ((v11 - v15).toInt64 * v43.toInt64)) + ((v19 - v23).toInt64 * v47.toInt64))), (9, .long (-((((v3 - v7).toInt64 * v27.toInt64) + ((v11 - v15).toInt64 * v31.toInt64)) + ((v19 - v23).toInt64 * v35.toInt64)))), (7, .long (v19 - v23).toInt64), (5, .long (v11 - v15).toInt64), (3, .long (v3 - v7).toInt64), (0, .ref p0), (1, .int p1), (2, .int p2)], [.long ((((((v3 - v7).toInt64 * v39.toInt64) + ((v11 - v15).toInt64 * v43.toInt64)) + ((v19 - v23).toInt64 * v47.toInt64)) * v63.toInt64) + ((-((((v3 - v7).toInt64 * v27.toInt64) + ((v11 - v15).toInt64 * v31.toInt64)) + ((v19 - v23).toInt64 * v35.toInt64))) * v67.toInt64)), .ref p0], (h59 ++ R), 0, 0)) rfl ?_
      obtain ⟨h69, e70, hq⟩ := bsm hq
      refine r_sV odX1_stepToLine rfl rfl rfl rfl (sV_ap e70) ?_
      refine mB_run odX1_stepToLine 3 (g := (184, [(11, .long ((((v3 - v7).toInt64 * v39.toInt64) + ((v11 - v15).toInt64 * v43.toInt64)) + ((v19 - v23).toInt64 * v47.toInt64))), (9, .long (-((((v3 - v7).toInt64 * v27.toInt64) + ((v11 - v15).toInt64 * v31.toInt64)) + ((v19 - v23).toInt64 * v35.toInt64)))), (7, .long (v19 - v23).toInt64), (5, .long (v11 - v15).toInt64), (3, .long (v3 - v7).toInt64), (0, .ref p0), (1, .int p1), (2, .int p2)], [.ref p0, .long ((((v3 - v7).toInt64 * v39.toInt64) + ((v11 - v15).toInt64 * v43.toInt64)) + ((v19 - v23).toInt64 * v47.toInt64)), .ref p0], (h69 ++ R), 0, 0)) rfl ?_
      obtain ⟨v71, e72, hq⟩ := bsm hq
      refine r_gR odX1_stepToLine rfl rfl (gR_ap e72) ?_
      refine mB_run odX1_stepToLine 1 (g := (188, [(11, .long ((((v3 - v7).toInt64 * v39.toInt64) + ((v11 - v15).toInt64 * v43.toInt64)) + ((v19 - v23).toInt64 * v47.toInt64))), (9, .long (-((((v3 - v7).toInt64 * v27.toInt64) + ((v11 - v15).toInt64 * v31.toInt64)) + ((v19 - v23).toInt64 * v35.toInt64)))), (7, .long (v19 - v23).toInt64), (5, .long (v11 - v15).toInt64), (3, .long (v3 - v7).toInt64), (0, .ref p0), (1, .int p1), (2, .int p2)], [.int p1, .ref v71, .long ((((v3 - v7).toInt64 * v39.toInt64) + ((v11 - v15).toInt64 * v43.toInt64)) + ((v19 - v23).toInt64 * v47.toInt64)), .ref p0], (h69 ++ R), 0, 0)) rfl ?_
      obtain ⟨v73, e74, hq⟩ := bsm hq
      refine r_aI odX1_stepToLine rfl (aI_ap e74) ?_
      refine mB_run odX1_stepToLine 4 (g := (194, [(11, .long ((((v3 - v7).toInt64 * v39.toInt64) + ((v11 - v15).toInt64 * v43.toInt64)) + ((v19 - v23).toInt64 * v47.toInt64))), (9, .long (-((((v3 - v7).toInt64 * v27.toInt64) + ((v11 - v15).toInt64 * v31.toInt64)) + ((v19 - v23).toInt64 * v35.toInt64)))), (7, .long (v19 - v23).toInt64), (5, .long (v11 - v15).toInt64), (3, .long (v3 - v7).toInt64), (0, .ref p0), (1, .int p1), (2, .int p2)], [.ref p0, .long (-((((v3 - v7).toInt64 * v27.toInt64) + ((v11 - v15).toInt64 * v31.toInt64)) + ((v19 - v23).toInt64 * v35.toInt64))), .long (((((v3 - v7).toInt64 * v39.toInt64) + ((v11 - v15).toInt64 * v43.toInt64)) + ((v19 - v23).toInt64 * v47.toInt64)) * v73.toInt64), .ref p0], (h69 ++ R), 0, 0)) rfl ?_
      obtain ⟨v75, e76, hq⟩ := bsm hq
      refine r_gR odX1_stepToLine rfl rfl (gR_ap e76) ?_
      refine mB_run odX1_stepToLine 1 (g := (198, [(11, .long ((((v3 - v7).toInt64 * v39.toInt64) + ((v11 - v15).toInt64 * v43.toInt64)) + ((v19 - v23).toInt64 * v47.toInt64))), (9, .long (-((((v3 - v7).toInt64 * v27.toInt64) + ((v11 - v15).toInt64 * v31.toInt64)) + ((v19 - v23).toInt64 * v35.toInt64)))), (7, .long (v19 - v23).toInt64), (5, .long (v11 - v15).toInt64), (3, .long (v3 - v7).toInt64), (0, .ref p0), (1, .int p1), (2, .int p2)], [.int p2, .ref v75, .long (-((((v3 - v7).toInt64 * v27.toInt64) + ((v11 - v15).toInt64 * v31.toInt64)) + ((v19 - v23).toInt64 * v35.toInt64))), .long (((((v3 - v7).toInt64 * v39.toInt64) + ((v11 - v15).toInt64 * v43.toInt64)) + ((v19 - v23).toInt64 * v47.toInt64)) * v73.toInt64), .ref p0], (h69 ++ R), 0, 0)) rfl ?_
      obtain ⟨v77, e78, hq⟩ := bsm hq
      refine r_aI odX1_stepToLine rfl (aI_ap e78) ?_
      refine mB_run odX1_stepToLine 3 (g := (202, [(11, .long ((((v3 - v7).toInt64 * v39.toInt64) + ((v11 - v15).toInt64 * v43.toInt64)) + ((v19 - v23).toInt64 * v47.toInt64))), (9, .long (-((((v3 - v7).toInt64 * v27.toInt64) + ((v11 - v15).toInt64 * v31.toInt64)) + ((v19 - v23).toInt64 * v35.toInt64)))), (7, .long (v19 - v23).toInt64), (5, .long (v11 - v15).toInt64), (3, .long (v3 - v7).toInt64), (0, .ref p0), (1, .int p1), (2, .int p2)], [.long ((((((v3 - v7).toInt64 * v39.toInt64) + ((v11 - v15).toInt64 * v43.toInt64)) + ((v19 - v23).toInt64 * v47.toInt64)) * v73.toInt64) + ((-((((v3 - v7).toInt64 * v27.toInt64) + ((v11 - v15).toInt64 * v31.toInt64)) + ((v19 - v23).toInt64 * v35.toInt64))) * v77.toInt64)), .ref p0], (h69 ++ R), 0, 0)) rfl ?_
      obtain ⟨h79, e80, hq⟩ := bsm hq
      refine r_sV odX1_stepToLine rfl rfl rfl rfl (sV_ap e80) ?_
      refine mB_run odX1_stepToLine 3 (g := (208, [(11, .long ((((v3 - v7).toInt64 * v39.toInt64) + ((v11 - v15).toInt64 * v43.toInt64)) + ((v19 - v23).toInt64 * v47.toInt64))), (9, .long (-((((v3 - v7).toInt64 * v27.toInt64) + ((v11 - v15).toInt64 * v31.toInt64)) + ((v19 - v23).toInt64 * v35.toInt64)))), (7, .long (v19 - v23).toInt64), (5, .long (v11 - v15).toInt64), (3, .long (v3 - v7).toInt64), (0, .ref p0), (1, .int p1), (2, .int p2)], [.int p1, .ref p0, .ref p0], (h79 ++ R), 0, 0)) rfl ?_
      obtain ⟨f83, k84, hq⟩ := bsm hq
      obtain ⟨o81, e82, hq⟩ := bsm hq
      refine mB_V (as := [.int p1]) odX1_stepToLine okX1_along lk_1_59 rfl (eaX1_along e82) (kO_at (kO_ap k84)) rfl rfl rfl ?_
      show mB _ mX1_stepToLine (211, [(11, .long ((((v3 - v7).toInt64 * v39.toInt64) + ((v11 - v15).toInt64 * v43.toInt64)) + ((v19 - v23).toInt64 * v47.toInt64))), (9, .long (-((((v3 - v7).toInt64 * v27.toInt64) + ((v11 - v15).toInt64 * v31.toInt64)) + ((v19 - v23).toInt64 * v35.toInt64)))), (7, .long (v19 - v23).toInt64), (5, .long (v11 - v15).toInt64), (3, .long (v3 - v7).toInt64), (0, .ref p0), (1, .int p1), (2, .int p2)], [.long o81.2, .ref p0], (o81.1 ++ R), 0, 0)
      obtain ⟨h85, e86, hq⟩ := bsm hq
      refine r_sV odX1_stepToLine rfl rfl rfl rfl (sV_ap e86) ?_
      refine mB_run odX1_stepToLine 4 (g := (220, [(11, .long ((((v3 - v7).toInt64 * v39.toInt64) + ((v11 - v15).toInt64 * v43.toInt64)) + ((v19 - v23).toInt64 * v47.toInt64))), (9, .long (-((((v3 - v7).toInt64 * v27.toInt64) + ((v11 - v15).toInt64 * v31.toInt64)) + ((v19 - v23).toInt64 * v35.toInt64)))), (7, .long (v19 - v23).toInt64), (5, .long (v11 - v15).toInt64), (3, .long (v3 - v7).toInt64), (0, .ref p0), (1, .int p1), (2, .int p2)], [.long ((-((((v3 - v7).toInt64 * v27.toInt64) + ((v11 - v15).toInt64 * v31.toInt64)) + ((v19 - v23).toInt64 * v35.toInt64))) + ((((v3 - v7).toInt64 * v39.toInt64) + ((v11 - v15).toInt64 * v43.toInt64)) + ((v19 - v23).toInt64 * v47.toInt64))), .ref p0], (h85 ++ R), 0, 0)) rfl ?_
      obtain ⟨h87, e88, hq⟩ := bsm hq
      refine r_sV odX1_stepToLine rfl rfl rfl rfl (sV_ap e88) ?_
      refine mB_run odX1_stepToLine 1 (g := (224, [(11, .long ((((v3 - v7).toInt64 * v39.toInt64) + ((v11 - v15).toInt64 * v43.toInt64)) + ((v19 - v23).toInt64 * v47.toInt64))), (9, .long (-((((v3 - v7).toInt64 * v27.toInt64) + ((v11 - v15).toInt64 * v31.toInt64)) + ((v19 - v23).toInt64 * v35.toInt64)))), (7, .long (v19 - v23).toInt64), (5, .long (v11 - v15).toInt64), (3, .long (v3 - v7).toInt64), (0, .ref p0), (1, .int p1), (2, .int p2)], [.int (1 : Int32)], (h87 ++ R), 0, 0)) rfl ?_
      cases hq
      exact mB_ret odX1_stepToLine rfl
    · rw [if_neg c50] at hq
      refine lc_gt_F (t := 130) odX1_stepToLine rfl rfl rfl c50 ?_
      refine mB_run odX1_stepToLine 1 (g := (129, [(11, .long ((((v3 - v7).toInt64 * v39.toInt64) + ((v11 - v15).toInt64 * v43.toInt64)) + ((v19 - v23).toInt64 * v47.toInt64))), (9, .long (-((((v3 - v7).toInt64 * v27.toInt64) + ((v11 - v15).toInt64 * v31.toInt64)) + ((v19 - v23).toInt64 * v35.toInt64)))), (7, .long (v19 - v23).toInt64), (5, .long (v11 - v15).toInt64), (3, .long (v3 - v7).toInt64), (0, .ref p0), (1, .int p1), (2, .int p2)], [.int (0 : Int32)], (h ++ R), 0, 0)) rfl ?_
      cases hq
      exact mB_ret odX1_stepToLine rfl
def fxX1_crossX (N : Nat) (p0 : Nat) (p1 : Int32) (p2 : Int32) (h : mh) : Option (mh × Int64) :=
  (gR h p0 1 4).bind fun v1 =>
  (aI h v1 p1).bind fun v3 =>
  (gR h p0 1 5).bind fun v5 =>
  (aI h v5 p2).bind fun v7 =>
  (gR h p0 1 5).bind fun v9 =>
  (aI h v9 p1).bind fun v11 =>
  (gR h p0 1 4).bind fun v13 =>
  (aI h v13 p2).bind fun v15 =>
  some (h, ((v3.toInt64 * v7.toInt64) - (v11.toInt64 * v15.toInt64)))
set_option maxHeartbeats 4000000 in
set_option maxRecDepth 100000 in
theorem eaX1_crossX {N : Nat} {R : mh} {p0 : Nat} {p1 : Int32} {p2 : Int32} {h : mh} {o : (mh × Int64)} (hq : fxX1_crossX N p0 p1 p2 h = some o) : mC mX1_crossX [.ref p0, .int p1, .int p2] (h ++ R) (o.1 ++ R, some (.long o.2)) := by
  refine mC_of okX1_crossX (Nat.le_of_ble_eq_true rfl) ?_
  unfold fxX1_crossX at hq
  show mB _ mX1_crossX (0, [(0, .ref p0), (1, .int p1), (2, .int p2)], [], (h ++ R), 0, 0)
  refine mB_run odX1_crossX 1 (g := (1, [(0, .ref p0), (1, .int p1), (2, .int p2)], [.ref p0], (h ++ R), 0, 0)) rfl ?_
  obtain ⟨v1, e2, hq⟩ := bsm hq
  refine r_gR odX1_crossX rfl rfl (gR_ap e2) ?_
  refine mB_run odX1_crossX 1 (g := (5, [(0, .ref p0), (1, .int p1), (2, .int p2)], [.int p1, .ref v1], (h ++ R), 0, 0)) rfl ?_
  obtain ⟨v3, e4, hq⟩ := bsm hq
  refine r_aI odX1_crossX rfl (aI_ap e4) ?_
  refine mB_run odX1_crossX 2 (g := (8, [(0, .ref p0), (1, .int p1), (2, .int p2)], [.ref p0, .long v3.toInt64], (h ++ R), 0, 0)) rfl ?_
  obtain ⟨v5, e6, hq⟩ := bsm hq
  refine r_gR odX1_crossX rfl rfl (gR_ap e6) ?_
  refine mB_run odX1_crossX 1 (g := (12, [(0, .ref p0), (1, .int p1), (2, .int p2)], [.int p2, .ref v5, .long v3.toInt64], (h ++ R), 0, 0)) rfl ?_
  obtain ⟨v7, e8, hq⟩ := bsm hq
  refine r_aI odX1_crossX rfl (aI_ap e8) ?_
  refine mB_run odX1_crossX 3 (g := (16, [(0, .ref p0), (1, .int p1), (2, .int p2)], [.ref p0, .long (v3.toInt64 * v7.toInt64)], (h ++ R), 0, 0)) rfl ?_
  obtain ⟨v9, e10, hq⟩ := bsm hq
  refine r_gR odX1_crossX rfl rfl (gR_ap e10) ?_
  refine mB_run odX1_crossX 1 (g := (20, [(0, .ref p0), (1, .int p1), (2, .int p2)], [.int p1, .ref v9, .long (v3.toInt64 * v7.toInt64)], (h ++ R), 0, 0)) rfl ?_
  obtain ⟨v11, e12, hq⟩ := bsm hq
  refine r_aI odX1_crossX rfl (aI_ap e12) ?_
  refine mB_run odX1_crossX 2 (g := (23, [(0, .ref p0), (1, .int p1), (2, .int p2)], [.ref p0, .long v11.toInt64, .long (v3.toInt64 * v7.toInt64)], (h ++ R), 0, 0)) rfl ?_
  obtain ⟨v13, e14, hq⟩ := bsm hq
  refine r_gR odX1_crossX rfl rfl (gR_ap e14) ?_
  refine mB_run odX1_crossX 1 (g := (27, [(0, .ref p0), (1, .int p1), (2, .int p2)], [.int p2, .ref v13, .long v11.toInt64, .long (v3.toInt64 * v7.toInt64)], (h ++ R), 0, 0)) rfl ?_
  obtain ⟨v15, e16, hq⟩ := bsm hq
  refine r_aI odX1_crossX rfl (aI_ap e16) ?_
  refine mB_run odX1_crossX 3 (g := (31, [(0, .ref p0), (1, .int p1), (2, .int p2)], [.long ((v3.toInt64 * v7.toInt64) - (v11.toInt64 * v15.toInt64))], (h ++ R), 0, 0)) rfl ?_
  cases hq
  exact mB_ret odX1_crossX rfl
def fxX1_crossY (N : Nat) (p0 : Nat) (p1 : Int32) (p2 : Int32) (h : mh) : Option (mh × Int64) :=
  (gR h p0 1 5).bind fun v1 =>
  (aI h v1 p1).bind fun v3 =>
  (gR h p0 1 3).bind fun v5 =>
  (aI h v5 p2).bind fun v7 =>
  (gR h p0 1 3).bind fun v9 =>
  (aI h v9 p1).bind fun v11 =>
  (gR h p0 1 5).bind fun v13 =>
  (aI h v13 p2).bind fun v15 =>
  some (h, ((v3.toInt64 * v7.toInt64) - (v11.toInt64 * v15.toInt64)))
set_option maxHeartbeats 4000000 in
set_option maxRecDepth 100000 in
theorem eaX1_crossY {N : Nat} {R : mh} {p0 : Nat} {p1 : Int32} {p2 : Int32} {h : mh} {o : (mh × Int64)} (hq : fxX1_crossY N p0 p1 p2 h = some o) : mC mX1_crossY [.ref p0, .int p1, .int p2] (h ++ R) (o.1 ++ R, some (.long o.2)) := by
  refine mC_of okX1_crossY (Nat.le_of_ble_eq_true rfl) ?_
  unfold fxX1_crossY at hq
  show mB _ mX1_crossY (0, [(0, .ref p0), (1, .int p1), (2, .int p2)], [], (h ++ R), 0, 0)
  refine mB_run odX1_crossY 1 (g := (1, [(0, .ref p0), (1, .int p1), (2, .int p2)], [.ref p0], (h ++ R), 0, 0)) rfl ?_
  obtain ⟨v1, e2, hq⟩ := bsm hq
  refine r_gR odX1_crossY rfl rfl (gR_ap e2) ?_
  refine mB_run odX1_crossY 1 (g := (5, [(0, .ref p0), (1, .int p1), (2, .int p2)], [.int p1, .ref v1], (h ++ R), 0, 0)) rfl ?_
  obtain ⟨v3, e4, hq⟩ := bsm hq
  refine r_aI odX1_crossY rfl (aI_ap e4) ?_
  refine mB_run odX1_crossY 2 (g := (8, [(0, .ref p0), (1, .int p1), (2, .int p2)], [.ref p0, .long v3.toInt64], (h ++ R), 0, 0)) rfl ?_
  obtain ⟨v5, e6, hq⟩ := bsm hq
  refine r_gR odX1_crossY rfl rfl (gR_ap e6) ?_
  refine mB_run odX1_crossY 1 (g := (12, [(0, .ref p0), (1, .int p1), (2, .int p2)], [.int p2, .ref v5, .long v3.toInt64], (h ++ R), 0, 0)) rfl ?_
  obtain ⟨v7, e8, hq⟩ := bsm hq
  refine r_aI odX1_crossY rfl (aI_ap e8) ?_
  refine mB_run odX1_crossY 3 (g := (16, [(0, .ref p0), (1, .int p1), (2, .int p2)], [.ref p0, .long (v3.toInt64 * v7.toInt64)], (h ++ R), 0, 0)) rfl ?_
  obtain ⟨v9, e10, hq⟩ := bsm hq
  refine r_gR odX1_crossY rfl rfl (gR_ap e10) ?_
  refine mB_run odX1_crossY 1 (g := (20, [(0, .ref p0), (1, .int p1), (2, .int p2)], [.int p1, .ref v9, .long (v3.toInt64 * v7.toInt64)], (h ++ R), 0, 0)) rfl ?_
  obtain ⟨v11, e12, hq⟩ := bsm hq
  refine r_aI odX1_crossY rfl (aI_ap e12) ?_
  refine mB_run odX1_crossY 2 (g := (23, [(0, .ref p0), (1, .int p1), (2, .int p2)], [.ref p0, .long v11.toInt64, .long (v3.toInt64 * v7.toInt64)], (h ++ R), 0, 0)) rfl ?_
  obtain ⟨v13, e14, hq⟩ := bsm hq
  refine r_gR odX1_crossY rfl rfl (gR_ap e14) ?_
  refine mB_run odX1_crossY 1 (g := (27, [(0, .ref p0), (1, .int p1), (2, .int p2)], [.int p2, .ref v13, .long v11.toInt64, .long (v3.toInt64 * v7.toInt64)], (h ++ R), 0, 0)) rfl ?_
  obtain ⟨v15, e16, hq⟩ := bsm hq
  refine r_aI odX1_crossY rfl (aI_ap e16) ?_
  refine mB_run odX1_crossY 3 (g := (31, [(0, .ref p0), (1, .int p1), (2, .int p2)], [.long ((v3.toInt64 * v7.toInt64) - (v11.toInt64 * v15.toInt64))], (h ++ R), 0, 0)) rfl ?_
  cases hq
  exact mB_ret odX1_crossY rfl
def fxX1_crossZ (N : Nat) (p0 : Nat) (p1 : Int32) (p2 : Int32) (h : mh) : Option (mh × Int64) :=
  (gR h p0 1 3).bind fun v1 =>
  (aI h v1 p1).bind fun v3 =>
  (gR h p0 1 4).bind fun v5 =>
  (aI h v5 p2).bind fun v7 =>
  (gR h p0 1 4).bind fun v9 =>
  (aI h v9 p1).bind fun v11 =>
  (gR h p0 1 3).bind fun v13 =>
  (aI h v13 p2).bind fun v15 =>
  some (h, ((v3.toInt64 * v7.toInt64) - (v11.toInt64 * v15.toInt64)))
set_option maxHeartbeats 4000000 in
set_option maxRecDepth 100000 in
theorem eaX1_crossZ {N : Nat} {R : mh} {p0 : Nat} {p1 : Int32} {p2 : Int32} {h : mh} {o : (mh × Int64)} (hq : fxX1_crossZ N p0 p1 p2 h = some o) : mC mX1_crossZ [.ref p0, .int p1, .int p2] (h ++ R) (o.1 ++ R, some (.long o.2)) := by
  refine mC_of okX1_crossZ (Nat.le_of_ble_eq_true rfl) ?_
  unfold fxX1_crossZ at hq
  show mB _ mX1_crossZ (0, [(0, .ref p0), (1, .int p1), (2, .int p2)], [], (h ++ R), 0, 0)
  refine mB_run odX1_crossZ 1 (g := (1, [(0, .ref p0), (1, .int p1), (2, .int p2)], [.ref p0], (h ++ R), 0, 0)) rfl ?_
  obtain ⟨v1, e2, hq⟩ := bsm hq
  refine r_gR odX1_crossZ rfl rfl (gR_ap e2) ?_
  refine mB_run odX1_crossZ 1 (g := (5, [(0, .ref p0), (1, .int p1), (2, .int p2)], [.int p1, .ref v1], (h ++ R), 0, 0)) rfl ?_
  obtain ⟨v3, e4, hq⟩ := bsm hq
  refine r_aI odX1_crossZ rfl (aI_ap e4) ?_
  refine mB_run odX1_crossZ 2 (g := (8, [(0, .ref p0), (1, .int p1), (2, .int p2)], [.ref p0, .long v3.toInt64], (h ++ R), 0, 0)) rfl ?_
  obtain ⟨v5, e6, hq⟩ := bsm hq
  refine r_gR odX1_crossZ rfl rfl (gR_ap e6) ?_
  refine mB_run odX1_crossZ 1 (g := (12, [(0, .ref p0), (1, .int p1), (2, .int p2)], [.int p2, .ref v5, .long v3.toInt64], (h ++ R), 0, 0)) rfl ?_
  obtain ⟨v7, e8, hq⟩ := bsm hq
  refine r_aI odX1_crossZ rfl (aI_ap e8) ?_
  refine mB_run odX1_crossZ 3 (g := (16, [(0, .ref p0), (1, .int p1), (2, .int p2)], [.ref p0, .long (v3.toInt64 * v7.toInt64)], (h ++ R), 0, 0)) rfl ?_
  obtain ⟨v9, e10, hq⟩ := bsm hq
  refine r_gR odX1_crossZ rfl rfl (gR_ap e10) ?_
  refine mB_run odX1_crossZ 1 (g := (20, [(0, .ref p0), (1, .int p1), (2, .int p2)], [.int p1, .ref v9, .long (v3.toInt64 * v7.toInt64)], (h ++ R), 0, 0)) rfl ?_
  obtain ⟨v11, e12, hq⟩ := bsm hq
  refine r_aI odX1_crossZ rfl (aI_ap e12) ?_
  refine mB_run odX1_crossZ 2 (g := (23, [(0, .ref p0), (1, .int p1), (2, .int p2)], [.ref p0, .long v11.toInt64, .long (v3.toInt64 * v7.toInt64)], (h ++ R), 0, 0)) rfl ?_
  obtain ⟨v13, e14, hq⟩ := bsm hq
  refine r_gR odX1_crossZ rfl rfl (gR_ap e14) ?_
  refine mB_run odX1_crossZ 1 (g := (27, [(0, .ref p0), (1, .int p1), (2, .int p2)], [.int p2, .ref v13, .long v11.toInt64, .long (v3.toInt64 * v7.toInt64)], (h ++ R), 0, 0)) rfl ?_
  obtain ⟨v15, e16, hq⟩ := bsm hq
  refine r_aI odX1_crossZ rfl (aI_ap e16) ?_
  refine mB_run odX1_crossZ 3 (g := (31, [(0, .ref p0), (1, .int p1), (2, .int p2)], [.long ((v3.toInt64 * v7.toInt64) - (v11.toInt64 * v15.toInt64))], (h ++ R), 0, 0)) rfl ?_
  cases hq
  exact mB_ret odX1_crossZ rfl
def fxX1_share (N : Nat) (p0 : Nat) (p1 : Int32) (p2 : Int32) (h : mh) : Option (mh × Int64) :=
  (gJ h p0 1 7).bind fun v1 =>
  (kO h p0 1).bind fun f5 =>
  (fxX1_crossX N p0 p1 p2 h).bind fun o3 =>
  (gJ o3.1 p0 1 8).bind fun v7 =>
  (kO o3.1 p0 1).bind fun f11 =>
  (fxX1_crossY N p0 p1 p2 o3.1).bind fun o9 =>
  (gJ o9.1 p0 1 9).bind fun v13 =>
  (kO o9.1 p0 1).bind fun f17 =>
  (fxX1_crossZ N p0 p1 p2 o9.1).bind fun o15 =>
  some (o15.1, (((v1 * o3.2) + (v7 * o9.2)) + (v13 * o15.2)))
set_option maxHeartbeats 4000000 in
set_option maxRecDepth 100000 in
theorem eaX1_share {N : Nat} {R : mh} {p0 : Nat} {p1 : Int32} {p2 : Int32} {h : mh} {o : (mh × Int64)} (hq : fxX1_share N p0 p1 p2 h = some o) : mC mX1_share [.ref p0, .int p1, .int p2] (h ++ R) (o.1 ++ R, some (.long o.2)) := by
  refine mC_of okX1_share (Nat.le_of_ble_eq_true rfl) ?_
  unfold fxX1_share at hq
  show mB _ mX1_share (0, [(0, .ref p0), (1, .int p1), (2, .int p2)], [], (h ++ R), 0, 0)
  refine mB_run odX1_share 1 (g := (1, [(0, .ref p0), (1, .int p1), (2, .int p2)], [.ref p0], (h ++ R), 0, 0)) rfl ?_
  obtain ⟨v1, e2, hq⟩ := bsm hq
  refine r_gJ odX1_share rfl rfl (gJ_ap e2) ?_
  refine mB_run odX1_share 3 (g := (7, [(0, .ref p0), (1, .int p1), (2, .int p2)], [.int p2, .int p1, .ref p0, .long v1], (h ++ R), 0, 0)) rfl ?_
  obtain ⟨f5, k6, hq⟩ := bsm hq
  obtain ⟨o3, e4, hq⟩ := bsm hq
  refine mB_V (as := [.int p1, .int p2]) odX1_share okX1_crossX lk_1_85 rfl (eaX1_crossX e4) (kO_at (kO_ap k6)) rfl rfl rfl ?_
  show mB _ mX1_share (10, [(0, .ref p0), (1, .int p1), (2, .int p2)], [.long o3.2, .long v1], (o3.1 ++ R), 0, 0)
  refine mB_run odX1_share 2 (g := (12, [(0, .ref p0), (1, .int p1), (2, .int p2)], [.ref p0, .long (v1 * o3.2)], (o3.1 ++ R), 0, 0)) rfl ?_
  obtain ⟨v7, e8, hq⟩ := bsm hq
  refine r_gJ odX1_share rfl rfl (gJ_ap e8) ?_
  refine mB_run odX1_share 3 (g := (18, [(0, .ref p0), (1, .int p1), (2, .int p2)], [.int p2, .int p1, .ref p0, .long v7, .long (v1 * o3.2)], (o3.1 ++ R), 0, 0)) rfl ?_
  obtain ⟨f11, k12, hq⟩ := bsm hq
  obtain ⟨o9, e10, hq⟩ := bsm hq
  refine mB_V (as := [.int p1, .int p2]) odX1_share okX1_crossY lk_1_89 rfl (eaX1_crossY e10) (kO_at (kO_ap k12)) rfl rfl rfl ?_
  show mB _ mX1_share (21, [(0, .ref p0), (1, .int p1), (2, .int p2)], [.long o9.2, .long v7, .long (v1 * o3.2)], (o9.1 ++ R), 0, 0)
  refine mB_run odX1_share 3 (g := (24, [(0, .ref p0), (1, .int p1), (2, .int p2)], [.ref p0, .long ((v1 * o3.2) + (v7 * o9.2))], (o9.1 ++ R), 0, 0)) rfl ?_
  obtain ⟨v13, e14, hq⟩ := bsm hq
  refine r_gJ odX1_share rfl rfl (gJ_ap e14) ?_
  refine mB_run odX1_share 3 (g := (30, [(0, .ref p0), (1, .int p1), (2, .int p2)], [.int p2, .int p1, .ref p0, .long v13, .long ((v1 * o3.2) + (v7 * o9.2))], (o9.1 ++ R), 0, 0)) rfl ?_
  obtain ⟨f17, k18, hq⟩ := bsm hq
  obtain ⟨o15, e16, hq⟩ := bsm hq
  refine mB_V (as := [.int p1, .int p2]) odX1_share okX1_crossZ lk_1_92 rfl (eaX1_crossZ e16) (kO_at (kO_ap k18)) rfl rfl rfl ?_
  show mB _ mX1_share (33, [(0, .ref p0), (1, .int p1), (2, .int p2)], [.long o15.2, .long v13, .long ((v1 * o3.2) + (v7 * o9.2))], (o15.1 ++ R), 0, 0)
  refine mB_run odX1_share 2 (g := (35, [(0, .ref p0), (1, .int p1), (2, .int p2)], [.long (((v1 * o3.2) + (v7 * o9.2)) + (v13 * o15.2))], (o15.1 ++ R), 0, 0)) rfl ?_
  cases hq
  exact mB_ret odX1_share rfl
