def fxX7_in (N : Nat) (p0 : Nat) (p1 : Int32) (p2 : Int32) (p3 : Int32) (p4 : Int32) (p5 : Int32) (h : mh) : Option (mh × Int32) :=
  (fxX7_isSolid N p1 h).bind fun o1 =>
  if o1.2 = 0 then (
    some (o1.1, (-1 : Int32))) else (
    if p5 < (1 : Int32) then (
      some (o1.1, (-1 : Int32))) else (
      if (1000 : Int32) < p5 then (
        some (o1.1, (-1 : Int32))) else (
        (fxX7_isFar N p2 o1.1).bind fun o6 =>
        if o6.2 = 0 then (
          (fxX7_isFar N p3 o6.1).bind fun o9 =>
          if o9.2 = 0 then (
            (fxX7_isFar N p4 o9.1).bind fun o12 =>
            if o12.2 = 0 then (
              (kO o12.1 p0 7).bind fun f17 =>
              (fxX7_owns N p0 p1 (0 : Int32) o12.1).bind fun o15 =>
              (kO o15 p0 7).bind fun f21 =>
              (fxX7_points N p0 p2.toInt64 p3.toInt64 p4.toInt64 p5.toInt64 o15).bind fun o19 =>
              (gR o19 p0 7 5).bind fun v23 =>
              (aI o19 v23 p1).bind fun v25 =>
              (kO o19 p0 7).bind fun f29 =>
              (fxX7_where N p0 v25 (0 : Int32) o19).bind fun o27 =>
              some (o27.1, o27.2)) else (
              some (o12.1, (-1 : Int32)))) else (
            some (o9.1, (-1 : Int32)))) else (
          some (o6.1, (-1 : Int32))))))
set_option maxHeartbeats 4000000 in
set_option maxRecDepth 100000 in
theorem exX7_in {N : Nat} {p0 : Nat} {p1 : Int32} {p2 : Int32} {p3 : Int32} {p4 : Int32} {p5 : Int32} {h : mh} {o : (mh × Int32)} (hq : fxX7_in N p0 p1 p2 p3 p4 p5 h = some o) : mC mX7_in [.ref p0, .int p1, .int p2, .int p3, .int p4, .int p5] h (o.1, some (.int o.2)) := by
  refine mC_of okX7_in (Nat.le_of_ble_eq_true rfl) ?_
  unfold fxX7_in at hq
  show mB _ mX7_in (0, [(0, .ref p0), (1, .int p1), (2, .int p2), (3, .int p3), (4, .int p4), (5, .int p5)], [], h, 0, 0)
  refine mB_run odX7_in 1 (g := (1, [(0, .ref p0), (1, .int p1), (2, .int p2), (3, .int p3), (4, .int p4), (5, .int p5)], [.int p1], h, 0, 0)) rfl ?_
  obtain ⟨o1, e2, hq⟩ := bsm hq
  refine mB_S (as := [.int p1]) odX7_in okX7_isSolid lk_7_133 rfl (exX7_isSolid e2) rfl rfl rfl ?_
  show mB _ mX7_in (4, [(0, .ref p0), (1, .int p1), (2, .int p2), (3, .int p3), (4, .int p4), (5, .int p5)], [.int o1.2], o1.1, 0, 0)
  by_cases c3 : o1.2 = 0
  · rw [if_pos c3] at hq
    refine if_eq_T (t := 43) odX7_in rfl rfl c3 ?_
    refine mB_run odX7_in 1 (g := (44, [(0, .ref p0), (1, .int p1), (2, .int p2), (3, .int p3), (4, .int p4), (5, .int p5)], [.int (-1 : Int32)], o1.1, 0, 0)) rfl ?_
    cases hq
    exact mB_ret odX7_in rfl
  · rw [if_neg c3] at hq
    refine if_eq_F (t := 43) odX7_in rfl rfl c3 ?_
    refine mB_run odX7_in 2 (g := (10, [(0, .ref p0), (1, .int p1), (2, .int p2), (3, .int p3), (4, .int p4), (5, .int p5)], [.int (1 : Int32), .int p5], o1.1, 0, 0)) rfl ?_
    by_cases c4 : p5 < (1 : Int32)
    · rw [if_pos c4] at hq
      refine ic_lt_T (t := 43) odX7_in rfl rfl c4 ?_
      refine mB_run odX7_in 1 (g := (44, [(0, .ref p0), (1, .int p1), (2, .int p2), (3, .int p3), (4, .int p4), (5, .int p5)], [.int (-1 : Int32)], o1.1, 0, 0)) rfl ?_
      cases hq
      exact mB_ret odX7_in rfl
    · rw [if_neg c4] at hq
      refine ic_lt_F (t := 43) odX7_in rfl rfl c4 ?_
      refine mB_run odX7_in 2 (g := (18, [(0, .ref p0), (1, .int p1), (2, .int p2), (3, .int p3), (4, .int p4), (5, .int p5)], [.int (1000 : Int32), .int p5], o1.1, 0, 0)) rfl ?_
      by_cases c5 : (1000 : Int32) < p5
      · rw [if_pos c5] at hq
        refine ic_gt_T (t := 43) odX7_in rfl rfl c5 ?_
        refine mB_run odX7_in 1 (g := (44, [(0, .ref p0), (1, .int p1), (2, .int p2), (3, .int p3), (4, .int p4), (5, .int p5)], [.int (-1 : Int32)], o1.1, 0, 0)) rfl ?_
        cases hq
        exact mB_ret odX7_in rfl
      · rw [if_neg c5] at hq
        refine ic_gt_F (t := 43) odX7_in rfl rfl c5 ?_
        refine mB_run odX7_in 1 (g := (22, [(0, .ref p0), (1, .int p1), (2, .int p2), (3, .int p3), (4, .int p4), (5, .int p5)], [.int p2], o1.1, 0, 0)) rfl ?_
        obtain ⟨o6, e7, hq⟩ := bsm hq
        refine mB_S (as := [.int p2]) odX7_in okX7_isFar lk_7_276 rfl (exX7_isFar e7) rfl rfl rfl ?_
        show mB _ mX7_in (25, [(0, .ref p0), (1, .int p1), (2, .int p2), (3, .int p3), (4, .int p4), (5, .int p5)], [.int o6.2], o6.1, 0, 0)
        by_cases c8 : o6.2 = 0
        · rw [if_pos c8] at hq
          refine if_ne_F (t := 43) odX7_in rfl rfl c8 ?_
          refine mB_run odX7_in 1 (g := (29, [(0, .ref p0), (1, .int p1), (2, .int p2), (3, .int p3), (4, .int p4), (5, .int p5)], [.int p3], o6.1, 0, 0)) rfl ?_
          obtain ⟨o9, e10, hq⟩ := bsm hq
          refine mB_S (as := [.int p3]) odX7_in okX7_isFar lk_7_276 rfl (exX7_isFar e10) rfl rfl rfl ?_
          show mB _ mX7_in (32, [(0, .ref p0), (1, .int p1), (2, .int p2), (3, .int p3), (4, .int p4), (5, .int p5)], [.int o9.2], o9.1, 0, 0)
          by_cases c11 : o9.2 = 0
          · rw [if_pos c11] at hq
            refine if_ne_F (t := 43) odX7_in rfl rfl c11 ?_
            refine mB_run odX7_in 1 (g := (37, [(0, .ref p0), (1, .int p1), (2, .int p2), (3, .int p3), (4, .int p4), (5, .int p5)], [.int p4], o9.1, 0, 0)) rfl ?_
            obtain ⟨o12, e13, hq⟩ := bsm hq
            refine mB_S (as := [.int p4]) odX7_in okX7_isFar lk_7_276 rfl (exX7_isFar e13) rfl rfl rfl ?_
            show mB _ mX7_in (40, [(0, .ref p0), (1, .int p1), (2, .int p2), (3, .int p3), (4, .int p4), (5, .int p5)], [.int o12.2], o12.1, 0, 0)
            by_cases c14 : o12.2 = 0
            · rw [if_pos c14] at hq
              refine if_eq_T (t := 45) odX7_in rfl rfl c14 ?_
              refine mB_run odX7_in 3 (g := (48, [(0, .ref p0), (1, .int p1), (2, .int p2), (3, .int p3), (4, .int p4), (5, .int p5)], [.int (0 : Int32), .int p1, .ref p0], o12.1, 0, 0)) rfl ?_
              obtain ⟨f17, k18, hq⟩ := bsm hq
              obtain ⟨o15, e16, hq⟩ := bsm hq
              refine mB_V (as := [.int p1, .int (0 : Int32)]) odX7_in okX7_owns lk_7_279 rfl (exX7_owns e16) (kO_at k18) rfl rfl rfl ?_
              show mB _ mX7_in (51, [(0, .ref p0), (1, .int p1), (2, .int p2), (3, .int p3), (4, .int p4), (5, .int p5)], [], o15, 0, 0)
              refine mB_run odX7_in 9 (g := (62, [(0, .ref p0), (1, .int p1), (2, .int p2), (3, .int p3), (4, .int p4), (5, .int p5)], [.long p5.toInt64, .long p4.toInt64, .long p3.toInt64, .long p2.toInt64, .ref p0], o15, 0, 0)) rfl ?_
              obtain ⟨f21, k22, hq⟩ := bsm hq
              obtain ⟨o19, e20, hq⟩ := bsm hq
              refine mB_V (as := [.long p2.toInt64, .long p3.toInt64, .long p4.toInt64, .long p5.toInt64]) odX7_in okX7_points lk_7_281 rfl (exX7_points e20) (kO_at k22) rfl rfl rfl ?_
              show mB _ mX7_in (65, [(0, .ref p0), (1, .int p1), (2, .int p2), (3, .int p3), (4, .int p4), (5, .int p5)], [], o19, 0, 0)
              refine mB_run odX7_in 2 (g := (67, [(0, .ref p0), (1, .int p1), (2, .int p2), (3, .int p3), (4, .int p4), (5, .int p5)], [.ref p0, .ref p0], o19, 0, 0)) rfl ?_
              obtain ⟨v23, e24, hq⟩ := bsm hq
              refine r_gR odX7_in rfl rfl e24 ?_
              refine mB_run odX7_in 1 (g := (71, [(0, .ref p0), (1, .int p1), (2, .int p2), (3, .int p3), (4, .int p4), (5, .int p5)], [.int p1, .ref v23, .ref p0], o19, 0, 0)) rfl ?_
              obtain ⟨v25, e26, hq⟩ := bsm hq
              refine r_aI odX7_in rfl e26 ?_
              refine mB_run odX7_in 1 (g := (73, [(0, .ref p0), (1, .int p1), (2, .int p2), (3, .int p3), (4, .int p4), (5, .int p5)], [.int (0 : Int32), .int v25, .ref p0], o19, 0, 0)) rfl ?_
              obtain ⟨f29, k30, hq⟩ := bsm hq
              obtain ⟨o27, e28, hq⟩ := bsm hq
              refine mB_V (as := [.int v25, .int (0 : Int32)]) odX7_in okX7_where lk_7_285 rfl (exX7_where e28) (kO_at k30) rfl rfl rfl ?_
              show mB _ mX7_in (76, [(0, .ref p0), (1, .int p1), (2, .int p2), (3, .int p3), (4, .int p4), (5, .int p5)], [.int o27.2], o27.1, 0, 0)
              cases hq
              exact mB_ret odX7_in rfl
            · rw [if_neg c14] at hq
              refine if_eq_F (t := 45) odX7_in rfl rfl c14 ?_
              refine mB_run odX7_in 1 (g := (44, [(0, .ref p0), (1, .int p1), (2, .int p2), (3, .int p3), (4, .int p4), (5, .int p5)], [.int (-1 : Int32)], o12.1, 0, 0)) rfl ?_
              cases hq
              exact mB_ret odX7_in rfl
          · rw [if_neg c11] at hq
            refine if_ne_T (t := 43) odX7_in rfl rfl c11 ?_
            refine mB_run odX7_in 1 (g := (44, [(0, .ref p0), (1, .int p1), (2, .int p2), (3, .int p3), (4, .int p4), (5, .int p5)], [.int (-1 : Int32)], o9.1, 0, 0)) rfl ?_
            cases hq
            exact mB_ret odX7_in rfl
        · rw [if_neg c8] at hq
          refine if_ne_T (t := 43) odX7_in rfl rfl c8 ?_
          refine mB_run odX7_in 1 (g := (44, [(0, .ref p0), (1, .int p1), (2, .int p2), (3, .int p3), (4, .int p4), (5, .int p5)], [.int (-1 : Int32)], o6.1, 0, 0)) rfl ?_
          cases hq
          exact mB_ret odX7_in rfl
def fxX7_isSmall (N : Nat) (p0 : Int32) (h : mh) : Option (mh × Int32) :=
  if p0 < (-1000 : Int32) then (
    some (h, (0 : Int32))) else (
    if (1000 : Int32) < p0 then (
      some (h, (0 : Int32))) else (
      some (h, (1 : Int32))))
set_option maxHeartbeats 4000000 in
set_option maxRecDepth 100000 in
theorem exX7_isSmall {N : Nat} {p0 : Int32} {h : mh} {o : (mh × Int32)} (hq : fxX7_isSmall N p0 h = some o) : mC mX7_isSmall [.int p0] h (o.1, some (.int o.2)) := by
  refine mC_of okX7_isSmall (Nat.le_of_ble_eq_true rfl) ?_
  unfold fxX7_isSmall at hq
  show mB _ mX7_isSmall (0, [(0, .int p0)], [], h, 0, 0)
  refine mB_run odX7_isSmall 2 (g := (4, [(0, .int p0)], [.int (-1000 : Int32), .int p0], h, 0, 0)) rfl ?_
  by_cases c1 : p0 < (-1000 : Int32)
  · rw [if_pos c1] at hq
    refine ic_lt_T (t := 18) odX7_isSmall rfl rfl c1 ?_
    refine mB_run odX7_isSmall 1 (g := (19, [(0, .int p0)], [.int (0 : Int32)], h, 0, 0)) rfl ?_
    cases hq
    exact mB_ret odX7_isSmall rfl
  · rw [if_neg c1] at hq
    refine ic_lt_F (t := 18) odX7_isSmall rfl rfl c1 ?_
    refine mB_run odX7_isSmall 2 (g := (11, [(0, .int p0)], [.int (1000 : Int32), .int p0], h, 0, 0)) rfl ?_
    by_cases c2 : (1000 : Int32) < p0
    · rw [if_pos c2] at hq
      refine ic_gt_T (t := 18) odX7_isSmall rfl rfl c2 ?_
      refine mB_run odX7_isSmall 1 (g := (19, [(0, .int p0)], [.int (0 : Int32)], h, 0, 0)) rfl ?_
      cases hq
      exact mB_ret odX7_isSmall rfl
    · rw [if_neg c2] at hq
      refine ic_gt_F (t := 18) odX7_isSmall rfl rfl c2 ?_
      refine mB_run odX7_isSmall 2 (g := (19, [(0, .int p0)], [.int (1 : Int32)], h, 0, 0)) rfl ?_
      cases hq
      exact mB_ret odX7_isSmall rfl
def fxX7_side_128 (N : Nat) (rec58 : Nat → Int32 → Int32 → Int32 → Int32 → Int32 → Int32 → Int32 → mh → Option (mh × Int32)) (x0 : Nat) (x1 : Int32) (x2 : Int32) (x3 : Int32) (x4 : Int32) (x5 : Int32) (x7 : Int32) (s0 : Int32) (s1 : Int32) (h : mh) : Option (mh × Int32) :=
  rec58 x0 x1 x2 x3 x4 x5 (s1 ||| s0) (x7 + (1 : Int32)) h
set_option maxHeartbeats 4000000 in
set_option maxRecDepth 100000 in
theorem exX7_side_128 {N : Nat} {rec58 : Nat → Int32 → Int32 → Int32 → Int32 → Int32 → Int32 → Int32 → mh → Option (mh × Int32)} (hrec58 : ∀ (x0 : Nat) (x1 : Int32) (x2 : Int32) (x3 : Int32) (x4 : Int32) (x5 : Int32) (x6 : Int32) (x7 : Int32) (h : mh) {o : (mh × Int32)}, rec58 x0 x1 x2 x3 x4 x5 x6 x7 h = some o → mB (gO mX7_side (o.1, some (.int o.2))) mX7_side (58, [(0, .ref x0), (1, .int x1), (2, .int x2), (3, .int x3), (4, .int x4), (5, .int x5), (6, .int x6), (7, .int x7)], [], h, 0, 0)) (x0 : Nat) (x1 : Int32) (x2 : Int32) (x3 : Int32) (x4 : Int32) (x5 : Int32) (x7 : Int32) (s0 : Int32) (s1 : Int32) (h : mh) {o : (mh × Int32)} (hq : fxX7_side_128 N rec58 x0 x1 x2 x3 x4 x5 x7 s0 s1 h = some o) : mB (gO mX7_side (o.1, some (.int o.2))) mX7_side (128, [(0, .ref x0), (1, .int x1), (2, .int x2), (3, .int x3), (4, .int x4), (5, .int x5), (7, .int x7)], [.int s0, .int s1], h, 0, 0) := by
  unfold fxX7_side_128 at hq
  refine mB_run odX7_side 4 (g := (58, [(7, .int (x7 + (1 : Int32))), (6, .int (s1 ||| s0)), (0, .ref x0), (1, .int x1), (2, .int x2), (3, .int x3), (4, .int x4), (5, .int x5)], [], h, 0, 0)) rfl ?_
  refine mB_lv [2, 3, 4, 5, 6, 7, 1, 0] (lv' := [(0, .ref x0), (1, .int x1), (2, .int x2), (3, .int x3), (4, .int x4), (5, .int x5), (6, .int (s1 ||| s0)), (7, .int (x7 + (1 : Int32)))]) rfl ?_
  exact hrec58 _ _ _ _ _ _ _ _ _ hq
def fxX7_side_58 (N : Nat) : Nat → Nat → Int32 → Int32 → Int32 → Int32 → Int32 → Int32 → Int32 → mh → Option (mh × Int32)
  | 0, _, _, _, _, _, _, _, _, _ => none
  | n + 1, x0, x1, x2, x3, x4, x5, x6, x7, h =>
    (gR h x0 7 4).bind fun v19 =>
    (aI h v19 x1).bind fun v21 =>
    if v21 ≤ x7 then (
      some (h, x6)) else (
      (kO h x0 7).bind fun f26 =>
      (fxX7_corner N x0 x1 x7 (0 : Int32) h).bind fun o24 =>
      (kO o24.1 x0 7).bind fun f30 =>
      (fxX7_corner N x0 x1 x7 (1 : Int32) o24.1).bind fun o28 =>
      (kO o28.1 x0 7).bind fun f34 =>
      (fxX7_corner N x0 x1 x7 (2 : Int32) o28.1).bind fun o32 =>
      if 0 ≤ ((((x2 * o24.2) + (x3 * o28.2)) + (x4 * o32.2)) - x5) then (
        if ((((x2 * o24.2) + (x3 * o28.2)) + (x4 * o32.2)) - x5) = 0 then (
          fxX7_side_128 N (fxX7_side_58 N n) x0 x1 x2 x3 x4 x5 x7 (2 : Int32) x6 o32.1) else (
          fxX7_side_128 N (fxX7_side_58 N n) x0 x1 x2 x3 x4 x5 x7 (4 : Int32) x6 o32.1)) else (
        fxX7_side_128 N (fxX7_side_58 N n) x0 x1 x2 x3 x4 x5 x7 (1 : Int32) x6 o32.1))
set_option maxHeartbeats 4000000 in
set_option maxRecDepth 100000 in
theorem exX7_side_58 {N : Nat} : ∀ (n : Nat) (x0 : Nat) (x1 : Int32) (x2 : Int32) (x3 : Int32) (x4 : Int32) (x5 : Int32) (x6 : Int32) (x7 : Int32) (h : mh) {o : (mh × Int32)}, fxX7_side_58 N n x0 x1 x2 x3 x4 x5 x6 x7 h = some o → mB (gO mX7_side (o.1, some (.int o.2))) mX7_side (58, [(0, .ref x0), (1, .int x1), (2, .int x2), (3, .int x3), (4, .int x4), (5, .int x5), (6, .int x6), (7, .int x7)], [], h, 0, 0) := by
  intro n
  induction n with
  | zero => intro x0 x1 x2 x3 x4 x5 x6 x7 h o hq; cases hq
  | succ n ih =>
    intro x0 x1 x2 x3 x4 x5 x6 x7 h o hq
    unfold fxX7_side_58 at hq
    refine mB_run odX7_side 2 (g := (61, [(0, .ref x0), (1, .int x1), (2, .int x2), (3, .int x3), (4, .int x4), (5, .int x5), (6, .int x6), (7, .int x7)], [.ref x0, .int x7], h, 0, 0)) rfl ?_
    obtain ⟨v19, e20, hq⟩ := bsm hq
    refine r_gR odX7_side rfl rfl e20 ?_
    refine mB_run odX7_side 1 (g := (65, [(0, .ref x0), (1, .int x1), (2, .int x2), (3, .int x3), (4, .int x4), (5, .int x5), (6, .int x6), (7, .int x7)], [.int x1, .ref v19, .int x7], h, 0, 0)) rfl ?_
    obtain ⟨v21, e22, hq⟩ := bsm hq
    refine r_aI odX7_side rfl e22 ?_
    by_cases c23 : v21 ≤ x7
    · rw [if_pos c23] at hq
      refine ic_ge_T (t := 137) odX7_side rfl rfl c23 ?_
      refine mB_run odX7_side 1 (g := (139, [(0, .ref x0), (1, .int x1), (2, .int x2), (3, .int x3), (4, .int x4), (5, .int x5), (6, .int x6), (7, .int x7)], [.int x6], h, 0, 0)) rfl ?_
      cases hq
      exact mB_ret odX7_side rfl
    · rw [if_neg c23] at hq
      refine ic_ge_F (t := 137) odX7_side rfl rfl c23 ?_
      refine mB_run odX7_side 5 (g := (75, [(0, .ref x0), (1, .int x1), (2, .int x2), (3, .int x3), (4, .int x4), (5, .int x5), (6, .int x6), (7, .int x7)], [.int (0 : Int32), .int x7, .int x1, .ref x0, .int x2], h, 0, 0)) rfl ?_
      obtain ⟨f26, k27, hq⟩ := bsm hq
      obtain ⟨o24, e25, hq⟩ := bsm hq
      refine mB_V (as := [.int x1, .int x7, .int (0 : Int32)]) odX7_side okX7_corner lk_7_292 rfl (exX7_corner e25) (kO_at k27) rfl rfl rfl ?_
      show mB _ mX7_side (78, [(0, .ref x0), (1, .int x1), (2, .int x2), (3, .int x3), (4, .int x4), (5, .int x5), (6, .int x6), (7, .int x7)], [.int o24.2, .int x2], o24.1, 0, 0)
      refine mB_run odX7_side 6 (g := (85, [(0, .ref x0), (1, .int x1), (2, .int x2), (3, .int x3), (4, .int x4), (5, .int x5), (6, .int x6), (7, .int x7)], [.int (1 : Int32), .int x7, .int x1, .ref x0, .int x3, .int (x2 * o24.2)], o24.1, 0, 0)) rfl ?_
      obtain ⟨f30, k31, hq⟩ := bsm hq
      obtain ⟨o28, e29, hq⟩ := bsm hq
      refine mB_V (as := [.int x1, .int x7, .int (1 : Int32)]) odX7_side okX7_corner lk_7_292 rfl (exX7_corner e29) (kO_at k31) rfl rfl rfl ?_
      show mB _ mX7_side (88, [(0, .ref x0), (1, .int x1), (2, .int x2), (3, .int x3), (4, .int x4), (5, .int x5), (6, .int x6), (7, .int x7)], [.int o28.2, .int x3, .int (x2 * o24.2)], o28.1, 0, 0)
      refine mB_run odX7_side 7 (g := (97, [(0, .ref x0), (1, .int x1), (2, .int x2), (3, .int x3), (4, .int x4), (5, .int x5), (6, .int x6), (7, .int x7)], [.int (2 : Int32), .int x7, .int x1, .ref x0, .int x4, .int ((x2 * o24.2) + (x3 * o28.2))], o28.1, 0, 0)) rfl ?_
      obtain ⟨f34, k35, hq⟩ := bsm hq
      obtain ⟨o32, e33, hq⟩ := bsm hq
      refine mB_V (as := [.int x1, .int x7, .int (2 : Int32)]) odX7_side okX7_corner lk_7_292 rfl (exX7_corner e33) (kO_at k35) rfl rfl rfl ?_
      show mB _ mX7_side (100, [(0, .ref x0), (1, .int x1), (2, .int x2), (3, .int x3), (4, .int x4), (5, .int x5), (6, .int x6), (7, .int x7)], [.int o32.2, .int x4, .int ((x2 * o24.2) + (x3 * o28.2))], o32.1, 0, 0)
      refine mB_run odX7_side 7 (g := (111, [(8, .int ((((x2 * o24.2) + (x3 * o28.2)) + (x4 * o32.2)) - x5)), (0, .ref x0), (1, .int x1), (2, .int x2), (3, .int x3), (4, .int x4), (5, .int x5), (6, .int x6), (7, .int x7)], [.int ((((x2 * o24.2) + (x3 * o28.2)) + (x4 * o32.2)) - x5), .int x6], o32.1, 0, 0)) rfl ?_
      by_cases c36 : 0 ≤ ((((x2 * o24.2) + (x3 * o28.2)) + (x4 * o32.2)) - x5)
      · rw [if_pos c36] at hq
        refine if_ge_T (t := 118) odX7_side rfl rfl c36 ?_
        refine mB_run odX7_side 1 (g := (120, [(8, .int ((((x2 * o24.2) + (x3 * o28.2)) + (x4 * o32.2)) - x5)), (0, .ref x0), (1, .int x1), (2, .int x2), (3, .int x3), (4, .int x4), (5, .int x5), (6, .int x6), (7, .int x7)], [.int ((((x2 * o24.2) + (x3 * o28.2)) + (x4 * o32.2)) - x5), .int x6], o32.1, 0, 0)) rfl ?_
        by_cases c37 : ((((x2 * o24.2) + (x3 * o28.2)) + (x4 * o32.2)) - x5) = 0
        · rw [if_pos c37] at hq
          refine if_ne_F (t := 127) odX7_side rfl rfl c37 ?_
          refine mB_run odX7_side 2 (g := (128, [(8, .int ((((x2 * o24.2) + (x3 * o28.2)) + (x4 * o32.2)) - x5)), (0, .ref x0), (1, .int x1), (2, .int x2), (3, .int x3), (4, .int x4), (5, .int x5), (6, .int x6), (7, .int x7)], [.int (2 : Int32), .int x6], o32.1, 0, 0)) rfl ?_
          refine mB_lv [1, 2, 3, 4, 5, 6, 8] (lv' := [(0, .ref x0), (1, .int x1), (2, .int x2), (3, .int x3), (4, .int x4), (5, .int x5), (7, .int x7)]) rfl ?_
          exact exX7_side_128 ih _ _ _ _ _ _ _ _ _ _ hq
        · rw [if_neg c37] at hq
          refine if_ne_T (t := 127) odX7_side rfl rfl c37 ?_
          refine mB_run odX7_side 1 (g := (128, [(8, .int ((((x2 * o24.2) + (x3 * o28.2)) + (x4 * o32.2)) - x5)), (0, .ref x0), (1, .int x1), (2, .int x2), (3, .int x3), (4, .int x4), (5, .int x5), (6, .int x6), (7, .int x7)], [.int (4 : Int32), .int x6], o32.1, 0, 0)) rfl ?_
          refine mB_lv [1, 2, 3, 4, 5, 6, 8] (lv' := [(0, .ref x0), (1, .int x1), (2, .int x2), (3, .int x3), (4, .int x4), (5, .int x5), (7, .int x7)]) rfl ?_
          exact exX7_side_128 ih _ _ _ _ _ _ _ _ _ _ hq
      · rw [if_neg c36] at hq
        refine if_ge_F (t := 118) odX7_side rfl rfl c36 ?_
        refine mB_run odX7_side 2 (g := (128, [(8, .int ((((x2 * o24.2) + (x3 * o28.2)) + (x4 * o32.2)) - x5)), (0, .ref x0), (1, .int x1), (2, .int x2), (3, .int x3), (4, .int x4), (5, .int x5), (6, .int x6), (7, .int x7)], [.int (1 : Int32), .int x6], o32.1, 0, 0)) rfl ?_
        refine mB_lv [1, 2, 3, 4, 5, 6, 8] (lv' := [(0, .ref x0), (1, .int x1), (2, .int x2), (3, .int x3), (4, .int x4), (5, .int x5), (7, .int x7)]) rfl ?_
        exact exX7_side_128 ih _ _ _ _ _ _ _ _ _ _ hq
def fxX7_side_52 (N : Nat) (x0 : Nat) (x1 : Int32) (x2 : Int32) (x3 : Int32) (x4 : Int32) (x5 : Int32) (h : mh) : Option (mh × Int32) :=
  fxX7_side_58 N N x0 x1 x2 x3 x4 x5 (0 : Int32) (0 : Int32) h
set_option maxHeartbeats 4000000 in
set_option maxRecDepth 100000 in
theorem exX7_side_52 {N : Nat} (x0 : Nat) (x1 : Int32) (x2 : Int32) (x3 : Int32) (x4 : Int32) (x5 : Int32) (h : mh) {o : (mh × Int32)} (hq : fxX7_side_52 N x0 x1 x2 x3 x4 x5 h = some o) : mB (gO mX7_side (o.1, some (.int o.2))) mX7_side (52, [(0, .ref x0), (1, .int x1), (2, .int x2), (3, .int x3), (4, .int x4), (5, .int x5)], [], h, 0, 0) := by
  unfold fxX7_side_52 at hq
  refine mB_run odX7_side 4 (g := (58, [(7, .int (0 : Int32)), (6, .int (0 : Int32)), (0, .ref x0), (1, .int x1), (2, .int x2), (3, .int x3), (4, .int x4), (5, .int x5)], [], h, 0, 0)) rfl ?_
  refine mB_lv [2, 3, 4, 5, 6, 7, 1, 0] (lv' := [(0, .ref x0), (1, .int x1), (2, .int x2), (3, .int x3), (4, .int x4), (5, .int x5), (6, .int (0 : Int32)), (7, .int (0 : Int32))]) rfl ?_
  exact exX7_side_58 N _ _ _ _ _ _ _ _ _ hq
def fxX7_side (N : Nat) (p0 : Nat) (p1 : Int32) (p2 : Int32) (p3 : Int32) (p4 : Int32) (p5 : Int32) (h : mh) : Option (mh × Int32) :=
  (fxX7_isSolid N p1 h).bind fun o1 =>
  if o1.2 = 0 then (
    some (o1.1, (-1 : Int32))) else (
    (fxX7_isSmall N p2 o1.1).bind fun o4 =>
    if o4.2 = 0 then (
      some (o4.1, (-1 : Int32))) else (
      (fxX7_isSmall N p3 o4.1).bind fun o7 =>
      if o7.2 = 0 then (
        some (o7.1, (-1 : Int32))) else (
        (fxX7_isSmall N p4 o7.1).bind fun o10 =>
        if o10.2 = 0 then (
          some (o10.1, (-1 : Int32))) else (
          (fxX7_isFar N p5 o10.1).bind fun o13 =>
          if o13.2 = 0 then (
            if p2 = 0 then (
              if p3 = 0 then (
                if p4 = 0 then (
                  some (o13.1, (-1 : Int32))) else (
                  fxX7_side_52 N p0 p1 p2 p3 p4 p5 o13.1)) else (
                fxX7_side_52 N p0 p1 p2 p3 p4 p5 o13.1)) else (
              fxX7_side_52 N p0 p1 p2 p3 p4 p5 o13.1)) else (
            some (o13.1, (-1 : Int32)))))))
set_option maxHeartbeats 4000000 in
set_option maxRecDepth 100000 in
theorem exX7_side {N : Nat} {p0 : Nat} {p1 : Int32} {p2 : Int32} {p3 : Int32} {p4 : Int32} {p5 : Int32} {h : mh} {o : (mh × Int32)} (hq : fxX7_side N p0 p1 p2 p3 p4 p5 h = some o) : mC mX7_side [.ref p0, .int p1, .int p2, .int p3, .int p4, .int p5] h (o.1, some (.int o.2)) := by
  refine mC_of okX7_side (Nat.le_of_ble_eq_true rfl) ?_
  unfold fxX7_side at hq
  show mB _ mX7_side (0, [(0, .ref p0), (1, .int p1), (2, .int p2), (3, .int p3), (4, .int p4), (5, .int p5)], [], h, 0, 0)
  refine mB_run odX7_side 1 (g := (1, [(0, .ref p0), (1, .int p1), (2, .int p2), (3, .int p3), (4, .int p4), (5, .int p5)], [.int p1], h, 0, 0)) rfl ?_
  obtain ⟨o1, e2, hq⟩ := bsm hq
  refine mB_S (as := [.int p1]) odX7_side okX7_isSolid lk_7_133 rfl (exX7_isSolid e2) rfl rfl rfl ?_
  show mB _ mX7_side (4, [(0, .ref p0), (1, .int p1), (2, .int p2), (3, .int p3), (4, .int p4), (5, .int p5)], [.int o1.2], o1.1, 0, 0)
  by_cases c3 : o1.2 = 0
  · rw [if_pos c3] at hq
    refine if_eq_T (t := 50) odX7_side rfl rfl c3 ?_
    refine mB_run odX7_side 1 (g := (51, [(0, .ref p0), (1, .int p1), (2, .int p2), (3, .int p3), (4, .int p4), (5, .int p5)], [.int (-1 : Int32)], o1.1, 0, 0)) rfl ?_
    cases hq
    exact mB_ret odX7_side rfl
  · rw [if_neg c3] at hq
    refine if_eq_F (t := 50) odX7_side rfl rfl c3 ?_
    refine mB_run odX7_side 1 (g := (8, [(0, .ref p0), (1, .int p1), (2, .int p2), (3, .int p3), (4, .int p4), (5, .int p5)], [.int p2], o1.1, 0, 0)) rfl ?_
    obtain ⟨o4, e5, hq⟩ := bsm hq
    refine mB_S (as := [.int p2]) odX7_side okX7_isSmall lk_7_289 rfl (exX7_isSmall e5) rfl rfl rfl ?_
    show mB _ mX7_side (11, [(0, .ref p0), (1, .int p1), (2, .int p2), (3, .int p3), (4, .int p4), (5, .int p5)], [.int o4.2], o4.1, 0, 0)
    by_cases c6 : o4.2 = 0
    · rw [if_pos c6] at hq
      refine if_eq_T (t := 50) odX7_side rfl rfl c6 ?_
      refine mB_run odX7_side 1 (g := (51, [(0, .ref p0), (1, .int p1), (2, .int p2), (3, .int p3), (4, .int p4), (5, .int p5)], [.int (-1 : Int32)], o4.1, 0, 0)) rfl ?_
      cases hq
      exact mB_ret odX7_side rfl
    · rw [if_neg c6] at hq
      refine if_eq_F (t := 50) odX7_side rfl rfl c6 ?_
      refine mB_run odX7_side 1 (g := (15, [(0, .ref p0), (1, .int p1), (2, .int p2), (3, .int p3), (4, .int p4), (5, .int p5)], [.int p3], o4.1, 0, 0)) rfl ?_
      obtain ⟨o7, e8, hq⟩ := bsm hq
      refine mB_S (as := [.int p3]) odX7_side okX7_isSmall lk_7_289 rfl (exX7_isSmall e8) rfl rfl rfl ?_
      show mB _ mX7_side (18, [(0, .ref p0), (1, .int p1), (2, .int p2), (3, .int p3), (4, .int p4), (5, .int p5)], [.int o7.2], o7.1, 0, 0)
      by_cases c9 : o7.2 = 0
      · rw [if_pos c9] at hq
        refine if_eq_T (t := 50) odX7_side rfl rfl c9 ?_
        refine mB_run odX7_side 1 (g := (51, [(0, .ref p0), (1, .int p1), (2, .int p2), (3, .int p3), (4, .int p4), (5, .int p5)], [.int (-1 : Int32)], o7.1, 0, 0)) rfl ?_
        cases hq
        exact mB_ret odX7_side rfl
      · rw [if_neg c9] at hq
        refine if_eq_F (t := 50) odX7_side rfl rfl c9 ?_
        refine mB_run odX7_side 1 (g := (23, [(0, .ref p0), (1, .int p1), (2, .int p2), (3, .int p3), (4, .int p4), (5, .int p5)], [.int p4], o7.1, 0, 0)) rfl ?_
        obtain ⟨o10, e11, hq⟩ := bsm hq
        refine mB_S (as := [.int p4]) odX7_side okX7_isSmall lk_7_289 rfl (exX7_isSmall e11) rfl rfl rfl ?_
        show mB _ mX7_side (26, [(0, .ref p0), (1, .int p1), (2, .int p2), (3, .int p3), (4, .int p4), (5, .int p5)], [.int o10.2], o10.1, 0, 0)
        by_cases c12 : o10.2 = 0
        · rw [if_pos c12] at hq
          refine if_eq_T (t := 50) odX7_side rfl rfl c12 ?_
          refine mB_run odX7_side 1 (g := (51, [(0, .ref p0), (1, .int p1), (2, .int p2), (3, .int p3), (4, .int p4), (5, .int p5)], [.int (-1 : Int32)], o10.1, 0, 0)) rfl ?_
          cases hq
          exact mB_ret odX7_side rfl
        · rw [if_neg c12] at hq
          refine if_eq_F (t := 50) odX7_side rfl rfl c12 ?_
          refine mB_run odX7_side 1 (g := (31, [(0, .ref p0), (1, .int p1), (2, .int p2), (3, .int p3), (4, .int p4), (5, .int p5)], [.int p5], o10.1, 0, 0)) rfl ?_
          obtain ⟨o13, e14, hq⟩ := bsm hq
          refine mB_S (as := [.int p5]) odX7_side okX7_isFar lk_7_276 rfl (exX7_isFar e14) rfl rfl rfl ?_
          show mB _ mX7_side (34, [(0, .ref p0), (1, .int p1), (2, .int p2), (3, .int p3), (4, .int p4), (5, .int p5)], [.int o13.2], o13.1, 0, 0)
          by_cases c15 : o13.2 = 0
          · rw [if_pos c15] at hq
            refine if_ne_F (t := 50) odX7_side rfl rfl c15 ?_
            refine mB_run odX7_side 1 (g := (38, [(0, .ref p0), (1, .int p1), (2, .int p2), (3, .int p3), (4, .int p4), (5, .int p5)], [.int p2], o13.1, 0, 0)) rfl ?_
            by_cases c16 : p2 = 0
            · rw [if_pos c16] at hq
              refine if_ne_F (t := 52) odX7_side rfl rfl c16 ?_
              refine mB_run odX7_side 1 (g := (42, [(0, .ref p0), (1, .int p1), (2, .int p2), (3, .int p3), (4, .int p4), (5, .int p5)], [.int p3], o13.1, 0, 0)) rfl ?_
              by_cases c17 : p3 = 0
              · rw [if_pos c17] at hq
                refine if_ne_F (t := 52) odX7_side rfl rfl c17 ?_
                refine mB_run odX7_side 1 (g := (47, [(0, .ref p0), (1, .int p1), (2, .int p2), (3, .int p3), (4, .int p4), (5, .int p5)], [.int p4], o13.1, 0, 0)) rfl ?_
                by_cases c18 : p4 = 0
                · rw [if_pos c18] at hq
                  refine if_ne_F (t := 52) odX7_side rfl rfl c18 ?_
                  refine mB_run odX7_side 1 (g := (51, [(0, .ref p0), (1, .int p1), (2, .int p2), (3, .int p3), (4, .int p4), (5, .int p5)], [.int (-1 : Int32)], o13.1, 0, 0)) rfl ?_
                  cases hq
                  exact mB_ret odX7_side rfl
                · rw [if_neg c18] at hq
                  refine if_ne_T (t := 52) odX7_side rfl rfl c18 ?_
                  refine mB_lv [0, 1, 2, 3, 4, 5] (lv' := [(0, .ref p0), (1, .int p1), (2, .int p2), (3, .int p3), (4, .int p4), (5, .int p5)]) rfl ?_
                  exact exX7_side_52 _ _ _ _ _ _ _ hq
              · rw [if_neg c17] at hq
                refine if_ne_T (t := 52) odX7_side rfl rfl c17 ?_
                refine mB_lv [0, 1, 2, 3, 4, 5] (lv' := [(0, .ref p0), (1, .int p1), (2, .int p2), (3, .int p3), (4, .int p4), (5, .int p5)]) rfl ?_
                exact exX7_side_52 _ _ _ _ _ _ _ hq
            · rw [if_neg c16] at hq
              refine if_ne_T (t := 52) odX7_side rfl rfl c16 ?_
              refine mB_lv [0, 1, 2, 3, 4, 5] (lv' := [(0, .ref p0), (1, .int p1), (2, .int p2), (3, .int p3), (4, .int p4), (5, .int p5)]) rfl ?_
              exact exX7_side_52 _ _ _ _ _ _ _ hq
          · rw [if_neg c15] at hq
            refine if_ne_T (t := 50) odX7_side rfl rfl c15 ?_
            refine mB_run odX7_side 1 (g := (51, [(0, .ref p0), (1, .int p1), (2, .int p2), (3, .int p3), (4, .int p4), (5, .int p5)], [.int (-1 : Int32)], o13.1, 0, 0)) rfl ?_
            cases hq
            exact mB_ret odX7_side rfl
def fxX7_adds_34 (N : Nat) (rec22 : Nat → Int32 → mh → Option mh) : Nat → Nat → Int32 → Int32 → mh → Option mh
  | 0, _, _, _, _ => none
  | n + 1, x0, x1, x2, h =>
    (gR h x0 7 32).bind fun v14 =>
    (aI h v14 x1).bind fun v16 =>
    if v16 ≤ (x2 + (1 : Int32)) then (
      rec22 x0 (x1 + (1 : Int32)) h) else (
      (gR h x0 7 33).bind fun v19 =>
      (aI h v19 ((25 : Int32) * x1)).bind fun v21 =>
      (gR h x0 7 33).bind fun v23 =>
      (aI h v23 (((25 : Int32) * x1) + x2)).bind fun v25 =>
      (gR h x0 7 33).bind fun v27 =>
      (aI h v27 ((((25 : Int32) * x1) + x2) + (1 : Int32))).bind fun v29 =>
      (gR h x0 7 16).bind fun v31 =>
      (aJ h v31 v21).bind fun v33 =>
      (gR h x0 7 17).bind fun v35 =>
      (aJ h v35 v25).bind fun v37 =>
      (gR h x0 7 18).bind fun v39 =>
      (aJ h v39 v29).bind fun v41 =>
      (gR h x0 7 18).bind fun v43 =>
      (aJ h v43 v25).bind fun v45 =>
      (gR h x0 7 17).bind fun v47 =>
      (aJ h v47 v29).bind fun v49 =>
      (gR h x0 7 17).bind fun v51 =>
      (aJ h v51 v21).bind fun v53 =>
      (gR h x0 7 18).bind fun v55 =>
      (aJ h v55 v25).bind fun v57 =>
      (gR h x0 7 16).bind fun v59 =>
      (aJ h v59 v29).bind fun v61 =>
      (gR h x0 7 16).bind fun v63 =>
      (aJ h v63 v25).bind fun v65 =>
      (gR h x0 7 18).bind fun v67 =>
      (aJ h v67 v29).bind fun v69 =>
      (gR h x0 7 18).bind fun v71 =>
      (aJ h v71 v21).bind fun v73 =>
      (gR h x0 7 16).bind fun v75 =>
      (aJ h v75 v25).bind fun v77 =>
      (gR h x0 7 17).bind fun v79 =>
      (aJ h v79 v29).bind fun v81 =>
      (gR h x0 7 17).bind fun v83 =>
      (aJ h v83 v25).bind fun v85 =>
      (gR h x0 7 16).bind fun v87 =>
      (aJ h v87 v29).bind fun v89 =>
      (gJ h x0 7 47).bind fun v91 =>
      (sV h x0 7 47 (.long (v91 + (((v33 * ((v37 * v41) - (v45 * v49))) + (v53 * ((v57 * v61) - (v65 * v69)))) + (v73 * ((v77 * v81) - (v85 * v89))))))).bind fun h93 =>
      (gJ h93 x0 7 48).bind fun v95 =>
      (gR h93 x0 7 16).bind fun v97 =>
      (aJ h93 v97 v21).bind fun v99 =>
      (gR h93 x0 7 16).bind fun v101 =>
      (aJ h93 v101 v25).bind fun v103 =>
      (gR h93 x0 7 16).bind fun v105 =>
      (aJ h93 v105 v29).bind fun v107 =>
      (sV h93 x0 7 48 (.long (v95 + ((((v33 * ((v37 * v41) - (v45 * v49))) + (v53 * ((v57 * v61) - (v65 * v69)))) + (v73 * ((v77 * v81) - (v85 * v89)))) * ((v99 + v103) + v107))))).bind fun h109 =>
      (gJ h109 x0 7 49).bind fun v111 =>
      (gR h109 x0 7 17).bind fun v113 =>
      (aJ h109 v113 v21).bind fun v115 =>
      (gR h109 x0 7 17).bind fun v117 =>
      (aJ h109 v117 v25).bind fun v119 =>
      (gR h109 x0 7 17).bind fun v121 =>
      (aJ h109 v121 v29).bind fun v123 =>
      (sV h109 x0 7 49 (.long (v111 + ((((v33 * ((v37 * v41) - (v45 * v49))) + (v53 * ((v57 * v61) - (v65 * v69)))) + (v73 * ((v77 * v81) - (v85 * v89)))) * ((v115 + v119) + v123))))).bind fun h125 =>
      (gJ h125 x0 7 50).bind fun v127 =>
      (gR h125 x0 7 18).bind fun v129 =>
      (aJ h125 v129 v21).bind fun v131 =>
      (gR h125 x0 7 18).bind fun v133 =>
      (aJ h125 v133 v25).bind fun v135 =>
      (gR h125 x0 7 18).bind fun v137 =>
      (aJ h125 v137 v29).bind fun v139 =>
      (sV h125 x0 7 50 (.long (v127 + ((((v33 * ((v37 * v41) - (v45 * v49))) + (v53 * ((v57 * v61) - (v65 * v69)))) + (v73 * ((v77 * v81) - (v85 * v89)))) * ((v131 + v135) + v139))))).bind fun h141 =>
      fxX7_adds_34 N rec22 n x0 x1 (x2 + (1 : Int32)) h141)
set_option maxHeartbeats 4000000 in
set_option maxRecDepth 100000 in
theorem exX7_adds_34 {N : Nat} {rec22 : Nat → Int32 → mh → Option mh} (hrec22 : ∀ (x0 : Nat) (x1 : Int32) (h : mh) {o : mh}, rec22 x0 x1 h = some o → mB (gO mX7_adds (o, none)) mX7_adds (22, [(0, .ref x0), (1, .int x1)], [], h, 0, 0)) : ∀ (n : Nat) (x0 : Nat) (x1 : Int32) (x2 : Int32) (h : mh) {o : mh}, fxX7_adds_34 N rec22 n x0 x1 x2 h = some o → mB (gO mX7_adds (o, none)) mX7_adds (34, [(0, .ref x0), (1, .int x1), (2, .int x2)], [], h, 0, 0) := by
  intro n
  induction n with
  | zero => intro x0 x1 x2 h o hq; cases hq
  | succ n ih =>
    intro x0 x1 x2 h o hq
    unfold fxX7_adds_34 at hq
    refine mB_run odX7_adds 4 (g := (38, [(0, .ref x0), (1, .int x1), (2, .int x2)], [.ref x0, .int (x2 + (1 : Int32))], h, 0, 0)) rfl ?_
    obtain ⟨v14, e15, hq⟩ := bsm hq
    refine r_gR odX7_adds rfl rfl e15 ?_
    refine mB_run odX7_adds 1 (g := (42, [(0, .ref x0), (1, .int x1), (2, .int x2)], [.int x1, .ref v14, .int (x2 + (1 : Int32))], h, 0, 0)) rfl ?_
    obtain ⟨v16, e17, hq⟩ := bsm hq
    refine r_aI odX7_adds rfl e17 ?_
    by_cases c18 : v16 ≤ (x2 + (1 : Int32))
    · rw [if_pos c18] at hq
      refine ic_ge_T (t := 321) odX7_adds rfl rfl c18 ?_
      refine mB_run odX7_adds 2 (g := (22, [(1, .int (x1 + (1 : Int32))), (0, .ref x0), (2, .int x2)], [], h, 0, 0)) rfl ?_
      refine mB_lv [1, 0] (lv' := [(0, .ref x0), (1, .int (x1 + (1 : Int32)))]) rfl ?_
      exact hrec22 _ _ _ hq
    · rw [if_neg c18] at hq
      refine ic_ge_F (t := 321) odX7_adds rfl rfl c18 ?_
      refine mB_run odX7_adds 1 (g := (47, [(0, .ref x0), (1, .int x1), (2, .int x2)], [.ref x0], h, 0, 0)) rfl ?_
      obtain ⟨v19, e20, hq⟩ := bsm hq
      refine r_gR odX7_adds rfl rfl e20 ?_
      refine mB_run odX7_adds 3 (g := (54, [(0, .ref x0), (1, .int x1), (2, .int x2)], [.int ((25 : Int32) * x1), .ref v19], h, 0, 0)) rfl ?_
      obtain ⟨v21, e22, hq⟩ := bsm hq
      refine r_aI odX7_adds rfl e22 ?_
      refine mB_run odX7_adds 2 (g := (57, [(3, .int v21), (0, .ref x0), (1, .int x1), (2, .int x2)], [.ref x0], h, 0, 0)) rfl ?_
      obtain ⟨v23, e24, hq⟩ := bsm hq
      refine r_gR odX7_adds rfl rfl e24 ?_
      refine mB_run odX7_adds 5 (g := (66, [(3, .int v21), (0, .ref x0), (1, .int x1), (2, .int x2)], [.int (((25 : Int32) * x1) + x2), .ref v23], h, 0, 0)) rfl ?_
      obtain ⟨v25, e26, hq⟩ := bsm hq
      refine r_aI odX7_adds rfl e26 ?_
      refine mB_run odX7_adds 2 (g := (70, [(4, .int v25), (3, .int v21), (0, .ref x0), (1, .int x1), (2, .int x2)], [.ref x0], h, 0, 0)) rfl ?_
      obtain ⟨v27, e28, hq⟩ := bsm hq
      refine r_gR odX7_adds rfl rfl e28 ?_
      refine mB_run odX7_adds 7 (g := (81, [(4, .int v25), (3, .int v21), (0, .ref x0), (1, .int x1), (2, .int x2)], [.int ((((25 : Int32) * x1) + x2) + (1 : Int32)), .ref v27], h, 0, 0)) rfl ?_
      obtain ⟨v29, e30, hq⟩ := bsm hq
      refine r_aI odX7_adds rfl e30 ?_
      refine mB_run odX7_adds 2 (g := (85, [(5, .int v29), (4, .int v25), (3, .int v21), (0, .ref x0), (1, .int x1), (2, .int x2)], [.ref x0], h, 0, 0)) rfl ?_
      obtain ⟨v31, e32, hq⟩ := bsm hq
      refine r_gR odX7_adds rfl rfl e32 ?_
      refine mB_run odX7_adds 1 (g := (89, [(5, .int v29), (4, .int v25), (3, .int v21), (0, .ref x0), (1, .int x1), (2, .int x2)], [.int v21, .ref v31], h, 0, 0)) rfl ?_
      obtain ⟨v33, e34, hq⟩ := bsm hq
      refine r_aJ odX7_adds rfl e34 ?_
      refine mB_run odX7_adds 1 (g := (91, [(5, .int v29), (4, .int v25), (3, .int v21), (0, .ref x0), (1, .int x1), (2, .int x2)], [.ref x0, .long v33], h, 0, 0)) rfl ?_
      obtain ⟨v35, e36, hq⟩ := bsm hq
      refine r_gR odX7_adds rfl rfl e36 ?_
      refine mB_run odX7_adds 1 (g := (96, [(5, .int v29), (4, .int v25), (3, .int v21), (0, .ref x0), (1, .int x1), (2, .int x2)], [.int v25, .ref v35, .long v33], h, 0, 0)) rfl ?_
      obtain ⟨v37, e38, hq⟩ := bsm hq
      refine r_aJ odX7_adds rfl e38 ?_
      refine mB_run odX7_adds 1 (g := (98, [(5, .int v29), (4, .int v25), (3, .int v21), (0, .ref x0), (1, .int x1), (2, .int x2)], [.ref x0, .long v37, .long v33], h, 0, 0)) rfl ?_
      obtain ⟨v39, e40, hq⟩ := bsm hq
      refine r_gR odX7_adds rfl rfl e40 ?_
      refine mB_run odX7_adds 1 (g := (103, [(5, .int v29), (4, .int v25), (3, .int v21), (0, .ref x0), (1, .int x1), (2, .int x2)], [.int v29, .ref v39, .long v37, .long v33], h, 0, 0)) rfl ?_
      obtain ⟨v41, e42, hq⟩ := bsm hq
      refine r_aJ odX7_adds rfl e42 ?_
      refine mB_run odX7_adds 2 (g := (106, [(5, .int v29), (4, .int v25), (3, .int v21), (0, .ref x0), (1, .int x1), (2, .int x2)], [.ref x0, .long (v37 * v41), .long v33], h, 0, 0)) rfl ?_
      obtain ⟨v43, e44, hq⟩ := bsm hq
      refine r_gR odX7_adds rfl rfl e44 ?_
      refine mB_run odX7_adds 1 (g := (111, [(5, .int v29), (4, .int v25), (3, .int v21), (0, .ref x0), (1, .int x1), (2, .int x2)], [.int v25, .ref v43, .long (v37 * v41), .long v33], h, 0, 0)) rfl ?_
      obtain ⟨v45, e46, hq⟩ := bsm hq
      refine r_aJ odX7_adds rfl e46 ?_
      refine mB_run odX7_adds 1 (g := (113, [(5, .int v29), (4, .int v25), (3, .int v21), (0, .ref x0), (1, .int x1), (2, .int x2)], [.ref x0, .long v45, .long (v37 * v41), .long v33], h, 0, 0)) rfl ?_
      obtain ⟨v47, e48, hq⟩ := bsm hq
      refine r_gR odX7_adds rfl rfl e48 ?_
      refine mB_run odX7_adds 1 (g := (118, [(5, .int v29), (4, .int v25), (3, .int v21), (0, .ref x0), (1, .int x1), (2, .int x2)], [.int v29, .ref v47, .long v45, .long (v37 * v41), .long v33], h, 0, 0)) rfl ?_
      obtain ⟨v49, e50, hq⟩ := bsm hq
      refine r_aJ odX7_adds rfl e50 ?_
      refine mB_run odX7_adds 4 (g := (123, [(5, .int v29), (4, .int v25), (3, .int v21), (0, .ref x0), (1, .int x1), (2, .int x2)], [.ref x0, .long (v33 * ((v37 * v41) - (v45 * v49)))], h, 0, 0)) rfl ?_
      obtain ⟨v51, e52, hq⟩ := bsm hq
      refine r_gR odX7_adds rfl rfl e52 ?_
      refine mB_run odX7_adds 1 (g := (127, [(5, .int v29), (4, .int v25), (3, .int v21), (0, .ref x0), (1, .int x1), (2, .int x2)], [.int v21, .ref v51, .long (v33 * ((v37 * v41) - (v45 * v49)))], h, 0, 0)) rfl ?_
      obtain ⟨v53, e54, hq⟩ := bsm hq
      refine r_aJ odX7_adds rfl e54 ?_
      refine mB_run odX7_adds 1 (g := (129, [(5, .int v29), (4, .int v25), (3, .int v21), (0, .ref x0), (1, .int x1), (2, .int x2)], [.ref x0, .long v53, .long (v33 * ((v37 * v41) - (v45 * v49)))], h, 0, 0)) rfl ?_
      obtain ⟨v55, e56, hq⟩ := bsm hq
      refine r_gR odX7_adds rfl rfl e56 ?_
      refine mB_run odX7_adds 1 (g := (134, [(5, .int v29), (4, .int v25), (3, .int v21), (0, .ref x0), (1, .int x1), (2, .int x2)], [.int v25, .ref v55, .long v53, .long (v33 * ((v37 * v41) - (v45 * v49)))], h, 0, 0)) rfl ?_
      obtain ⟨v57, e58, hq⟩ := bsm hq
      refine r_aJ odX7_adds rfl e58 ?_
      refine mB_run odX7_adds 1 (g := (136, [(5, .int v29), (4, .int v25), (3, .int v21), (0, .ref x0), (1, .int x1), (2, .int x2)], [.ref x0, .long v57, .long v53, .long (v33 * ((v37 * v41) - (v45 * v49)))], h, 0, 0)) rfl ?_
      obtain ⟨v59, e60, hq⟩ := bsm hq
      refine r_gR odX7_adds rfl rfl e60 ?_
      refine mB_run odX7_adds 1 (g := (141, [(5, .int v29), (4, .int v25), (3, .int v21), (0, .ref x0), (1, .int x1), (2, .int x2)], [.int v29, .ref v59, .long v57, .long v53, .long (v33 * ((v37 * v41) - (v45 * v49)))], h, 0, 0)) rfl ?_
      obtain ⟨v61, e62, hq⟩ := bsm hq
      refine r_aJ odX7_adds rfl e62 ?_
      refine mB_run odX7_adds 2 (g := (144, [(5, .int v29), (4, .int v25), (3, .int v21), (0, .ref x0), (1, .int x1), (2, .int x2)], [.ref x0, .long (v57 * v61), .long v53, .long (v33 * ((v37 * v41) - (v45 * v49)))], h, 0, 0)) rfl ?_
      obtain ⟨v63, e64, hq⟩ := bsm hq
      refine r_gR odX7_adds rfl rfl e64 ?_
      refine mB_run odX7_adds 1 (g := (149, [(5, .int v29), (4, .int v25), (3, .int v21), (0, .ref x0), (1, .int x1), (2, .int x2)], [.int v25, .ref v63, .long (v57 * v61), .long v53, .long (v33 * ((v37 * v41) - (v45 * v49)))], h, 0, 0)) rfl ?_
      obtain ⟨v65, e66, hq⟩ := bsm hq
      refine r_aJ odX7_adds rfl e66 ?_
      refine mB_run odX7_adds 1 (g := (151, [(5, .int v29), (4, .int v25), (3, .int v21), (0, .ref x0), (1, .int x1), (2, .int x2)], [.ref x0, .long v65, .long (v57 * v61), .long v53, .long (v33 * ((v37 * v41) - (v45 * v49)))], h, 0, 0)) rfl ?_
      obtain ⟨v67, e68, hq⟩ := bsm hq
      refine r_gR odX7_adds rfl rfl e68 ?_
      refine mB_run odX7_adds 1 (g := (156, [(5, .int v29), (4, .int v25), (3, .int v21), (0, .ref x0), (1, .int x1), (2, .int x2)], [.int v29, .ref v67, .long v65, .long (v57 * v61), .long v53, .long (v33 * ((v37 * v41) - (v45 * v49)))], h, 0, 0)) rfl ?_
      obtain ⟨v69, e70, hq⟩ := bsm hq
      refine r_aJ odX7_adds rfl e70 ?_
      refine mB_run odX7_adds 5 (g := (162, [(5, .int v29), (4, .int v25), (3, .int v21), (0, .ref x0), (1, .int x1), (2, .int x2)], [.ref x0, .long ((v33 * ((v37 * v41) - (v45 * v49))) + (v53 * ((v57 * v61) - (v65 * v69))))], h, 0, 0)) rfl ?_
      obtain ⟨v71, e72, hq⟩ := bsm hq
      refine r_gR odX7_adds rfl rfl e72 ?_
      refine mB_run odX7_adds 1 (g := (166, [(5, .int v29), (4, .int v25), (3, .int v21), (0, .ref x0), (1, .int x1), (2, .int x2)], [.int v21, .ref v71, .long ((v33 * ((v37 * v41) - (v45 * v49))) + (v53 * ((v57 * v61) - (v65 * v69))))], h, 0, 0)) rfl ?_
      obtain ⟨v73, e74, hq⟩ := bsm hq
      refine r_aJ odX7_adds rfl e74 ?_
      refine mB_run odX7_adds 1 (g := (168, [(5, .int v29), (4, .int v25), (3, .int v21), (0, .ref x0), (1, .int x1), (2, .int x2)], [.ref x0, .long v73, .long ((v33 * ((v37 * v41) - (v45 * v49))) + (v53 * ((v57 * v61) - (v65 * v69))))], h, 0, 0)) rfl ?_
      obtain ⟨v75, e76, hq⟩ := bsm hq
      refine r_gR odX7_adds rfl rfl e76 ?_
      refine mB_run odX7_adds 1 (g := (173, [(5, .int v29), (4, .int v25), (3, .int v21), (0, .ref x0), (1, .int x1), (2, .int x2)], [.int v25, .ref v75, .long v73, .long ((v33 * ((v37 * v41) - (v45 * v49))) + (v53 * ((v57 * v61) - (v65 * v69))))], h, 0, 0)) rfl ?_
      obtain ⟨v77, e78, hq⟩ := bsm hq
      refine r_aJ odX7_adds rfl e78 ?_
      refine mB_run odX7_adds 1 (g := (175, [(5, .int v29), (4, .int v25), (3, .int v21), (0, .ref x0), (1, .int x1), (2, .int x2)], [.ref x0, .long v77, .long v73, .long ((v33 * ((v37 * v41) - (v45 * v49))) + (v53 * ((v57 * v61) - (v65 * v69))))], h, 0, 0)) rfl ?_
      obtain ⟨v79, e80, hq⟩ := bsm hq
      refine r_gR odX7_adds rfl rfl e80 ?_
      refine mB_run odX7_adds 1 (g := (180, [(5, .int v29), (4, .int v25), (3, .int v21), (0, .ref x0), (1, .int x1), (2, .int x2)], [.int v29, .ref v79, .long v77, .long v73, .long ((v33 * ((v37 * v41) - (v45 * v49))) + (v53 * ((v57 * v61) - (v65 * v69))))], h, 0, 0)) rfl ?_
      obtain ⟨v81, e82, hq⟩ := bsm hq
      refine r_aJ odX7_adds rfl e82 ?_
      refine mB_run odX7_adds 2 (g := (183, [(5, .int v29), (4, .int v25), (3, .int v21), (0, .ref x0), (1, .int x1), (2, .int x2)], [.ref x0, .long (v77 * v81), .long v73, .long ((v33 * ((v37 * v41) - (v45 * v49))) + (v53 * ((v57 * v61) - (v65 * v69))))], h, 0, 0)) rfl ?_
      obtain ⟨v83, e84, hq⟩ := bsm hq
      refine r_gR odX7_adds rfl rfl e84 ?_
      refine mB_run odX7_adds 1 (g := (188, [(5, .int v29), (4, .int v25), (3, .int v21), (0, .ref x0), (1, .int x1), (2, .int x2)], [.int v25, .ref v83, .long (v77 * v81), .long v73, .long ((v33 * ((v37 * v41) - (v45 * v49))) + (v53 * ((v57 * v61) - (v65 * v69))))], h, 0, 0)) rfl ?_
      obtain ⟨v85, e86, hq⟩ := bsm hq
      refine r_aJ odX7_adds rfl e86 ?_
      refine mB_run odX7_adds 1 (g := (190, [(5, .int v29), (4, .int v25), (3, .int v21), (0, .ref x0), (1, .int x1), (2, .int x2)], [.ref x0, .long v85, .long (v77 * v81), .long v73, .long ((v33 * ((v37 * v41) - (v45 * v49))) + (v53 * ((v57 * v61) - (v65 * v69))))], h, 0, 0)) rfl ?_
      obtain ⟨v87, e88, hq⟩ := bsm hq
      refine r_gR odX7_adds rfl rfl e88 ?_
      refine mB_run odX7_adds 1 (g := (195, [(5, .int v29), (4, .int v25), (3, .int v21), (0, .ref x0), (1, .int x1), (2, .int x2)], [.int v29, .ref v87, .long v85, .long (v77 * v81), .long v73, .long ((v33 * ((v37 * v41) - (v45 * v49))) + (v53 * ((v57 * v61) - (v65 * v69))))], h, 0, 0)) rfl ?_
      obtain ⟨v89, e90, hq⟩ := bsm hq
      refine r_aJ odX7_adds rfl e90 ?_
      refine mB_run odX7_adds 7 (g := (204, [(6, .long (((v33 * ((v37 * v41) - (v45 * v49))) + (v53 * ((v57 * v61) - (v65 * v69)))) + (v73 * ((v77 * v81) - (v85 * v89))))), (5, .int v29), (4, .int v25), (3, .int v21), (0, .ref x0), (1, .int x1), (2, .int x2)], [.ref x0, .ref x0], h, 0, 0)) rfl ?_
      obtain ⟨v91, e92, hq⟩ := bsm hq
      refine r_gJ odX7_adds rfl rfl e92 ?_
      refine mB_run odX7_adds 2 (g := (210, [(6, .long (((v33 * ((v37 * v41) - (v45 * v49))) + (v53 * ((v57 * v61) - (v65 * v69)))) + (v73 * ((v77 * v81) - (v85 * v89))))), (5, .int v29), (4, .int v25), (3, .int v21), (0, .ref x0), (1, .int x1), (2, .int x2)], [.long (v91 + (((v33 * ((v37 * v41) - (v45 * v49))) + (v53 * ((v57 * v61) - (v65 * v69)))) + (v73 * ((v77 * v81) - (v85 * v89))))), .ref x0], h, 0, 0)) rfl ?_
      obtain ⟨h93, e94, hq⟩ := bsm hq
      refine r_sV odX7_adds rfl rfl rfl rfl e94 ?_
      refine mB_run odX7_adds 2 (g := (215, [(6, .long (((v33 * ((v37 * v41) - (v45 * v49))) + (v53 * ((v57 * v61) - (v65 * v69)))) + (v73 * ((v77 * v81) - (v85 * v89))))), (5, .int v29), (4, .int v25), (3, .int v21), (0, .ref x0), (1, .int x1), (2, .int x2)], [.ref x0, .ref x0], h93, 0, 0)) rfl ?_
      obtain ⟨v95, e96, hq⟩ := bsm hq
      refine r_gJ odX7_adds rfl rfl e96 ?_
      refine mB_run odX7_adds 2 (g := (221, [(6, .long (((v33 * ((v37 * v41) - (v45 * v49))) + (v53 * ((v57 * v61) - (v65 * v69)))) + (v73 * ((v77 * v81) - (v85 * v89))))), (5, .int v29), (4, .int v25), (3, .int v21), (0, .ref x0), (1, .int x1), (2, .int x2)], [.ref x0, .long (((v33 * ((v37 * v41) - (v45 * v49))) + (v53 * ((v57 * v61) - (v65 * v69)))) + (v73 * ((v77 * v81) - (v85 * v89)))), .long v95, .ref x0], h93, 0, 0)) rfl ?_
      obtain ⟨v97, e98, hq⟩ := bsm hq
      refine r_gR odX7_adds rfl rfl e98 ?_
      refine mB_run odX7_adds 1 (g := (225, [(6, .long (((v33 * ((v37 * v41) - (v45 * v49))) + (v53 * ((v57 * v61) - (v65 * v69)))) + (v73 * ((v77 * v81) - (v85 * v89))))), (5, .int v29), (4, .int v25), (3, .int v21), (0, .ref x0), (1, .int x1), (2, .int x2)], [.int v21, .ref v97, .long (((v33 * ((v37 * v41) - (v45 * v49))) + (v53 * ((v57 * v61) - (v65 * v69)))) + (v73 * ((v77 * v81) - (v85 * v89)))), .long v95, .ref x0], h93, 0, 0)) rfl ?_
      obtain ⟨v99, e100, hq⟩ := bsm hq
      refine r_aJ odX7_adds rfl e100 ?_
      refine mB_run odX7_adds 1 (g := (227, [(6, .long (((v33 * ((v37 * v41) - (v45 * v49))) + (v53 * ((v57 * v61) - (v65 * v69)))) + (v73 * ((v77 * v81) - (v85 * v89))))), (5, .int v29), (4, .int v25), (3, .int v21), (0, .ref x0), (1, .int x1), (2, .int x2)], [.ref x0, .long v99, .long (((v33 * ((v37 * v41) - (v45 * v49))) + (v53 * ((v57 * v61) - (v65 * v69)))) + (v73 * ((v77 * v81) - (v85 * v89)))), .long v95, .ref x0], h93, 0, 0)) rfl ?_
      obtain ⟨v101, e102, hq⟩ := bsm hq
      refine r_gR odX7_adds rfl rfl e102 ?_
      refine mB_run odX7_adds 1 (g := (232, [(6, .long (((v33 * ((v37 * v41) - (v45 * v49))) + (v53 * ((v57 * v61) - (v65 * v69)))) + (v73 * ((v77 * v81) - (v85 * v89))))), (5, .int v29), (4, .int v25), (3, .int v21), (0, .ref x0), (1, .int x1), (2, .int x2)], [.int v25, .ref v101, .long v99, .long (((v33 * ((v37 * v41) - (v45 * v49))) + (v53 * ((v57 * v61) - (v65 * v69)))) + (v73 * ((v77 * v81) - (v85 * v89)))), .long v95, .ref x0], h93, 0, 0)) rfl ?_
      obtain ⟨v103, e104, hq⟩ := bsm hq
      refine r_aJ odX7_adds rfl e104 ?_
      refine mB_run odX7_adds 2 (g := (235, [(6, .long (((v33 * ((v37 * v41) - (v45 * v49))) + (v53 * ((v57 * v61) - (v65 * v69)))) + (v73 * ((v77 * v81) - (v85 * v89))))), (5, .int v29), (4, .int v25), (3, .int v21), (0, .ref x0), (1, .int x1), (2, .int x2)], [.ref x0, .long (v99 + v103), .long (((v33 * ((v37 * v41) - (v45 * v49))) + (v53 * ((v57 * v61) - (v65 * v69)))) + (v73 * ((v77 * v81) - (v85 * v89)))), .long v95, .ref x0], h93, 0, 0)) rfl ?_
      obtain ⟨v105, e106, hq⟩ := bsm hq
      refine r_gR odX7_adds rfl rfl e106 ?_
      refine mB_run odX7_adds 1 (g := (240, [(6, .long (((v33 * ((v37 * v41) - (v45 * v49))) + (v53 * ((v57 * v61) - (v65 * v69)))) + (v73 * ((v77 * v81) - (v85 * v89))))), (5, .int v29), (4, .int v25), (3, .int v21), (0, .ref x0), (1, .int x1), (2, .int x2)], [.int v29, .ref v105, .long (v99 + v103), .long (((v33 * ((v37 * v41) - (v45 * v49))) + (v53 * ((v57 * v61) - (v65 * v69)))) + (v73 * ((v77 * v81) - (v85 * v89)))), .long v95, .ref x0], h93, 0, 0)) rfl ?_
      obtain ⟨v107, e108, hq⟩ := bsm hq
      refine r_aJ odX7_adds rfl e108 ?_
      refine mB_run odX7_adds 3 (g := (244, [(6, .long (((v33 * ((v37 * v41) - (v45 * v49))) + (v53 * ((v57 * v61) - (v65 * v69)))) + (v73 * ((v77 * v81) - (v85 * v89))))), (5, .int v29), (4, .int v25), (3, .int v21), (0, .ref x0), (1, .int x1), (2, .int x2)], [.long (v95 + ((((v33 * ((v37 * v41) - (v45 * v49))) + (v53 * ((v57 * v61) - (v65 * v69)))) + (v73 * ((v77 * v81) - (v85 * v89)))) * ((v99 + v103) + v107))), .ref x0], h93, 0, 0)) rfl ?_
      obtain ⟨h109, e110, hq⟩ := bsm hq
      refine r_sV odX7_adds rfl rfl rfl rfl e110 ?_
      refine mB_run odX7_adds 2 (g := (249, [(6, .long (((v33 * ((v37 * v41) - (v45 * v49))) + (v53 * ((v57 * v61) - (v65 * v69)))) + (v73 * ((v77 * v81) - (v85 * v89))))), (5, .int v29), (4, .int v25), (3, .int v21), (0, .ref x0), (1, .int x1), (2, .int x2)], [.ref x0, .ref x0], h109, 0, 0)) rfl ?_
      obtain ⟨v111, e112, hq⟩ := bsm hq
      refine r_gJ odX7_adds rfl rfl e112 ?_
      refine mB_run odX7_adds 2 (g := (255, [(6, .long (((v33 * ((v37 * v41) - (v45 * v49))) + (v53 * ((v57 * v61) - (v65 * v69)))) + (v73 * ((v77 * v81) - (v85 * v89))))), (5, .int v29), (4, .int v25), (3, .int v21), (0, .ref x0), (1, .int x1), (2, .int x2)], [.ref x0, .long (((v33 * ((v37 * v41) - (v45 * v49))) + (v53 * ((v57 * v61) - (v65 * v69)))) + (v73 * ((v77 * v81) - (v85 * v89)))), .long v111, .ref x0], h109, 0, 0)) rfl ?_
      obtain ⟨v113, e114, hq⟩ := bsm hq
      refine r_gR odX7_adds rfl rfl e114 ?_
      refine mB_run odX7_adds 1 (g := (259, [(6, .long (((v33 * ((v37 * v41) - (v45 * v49))) + (v53 * ((v57 * v61) - (v65 * v69)))) + (v73 * ((v77 * v81) - (v85 * v89))))), (5, .int v29), (4, .int v25), (3, .int v21), (0, .ref x0), (1, .int x1), (2, .int x2)], [.int v21, .ref v113, .long (((v33 * ((v37 * v41) - (v45 * v49))) + (v53 * ((v57 * v61) - (v65 * v69)))) + (v73 * ((v77 * v81) - (v85 * v89)))), .long v111, .ref x0], h109, 0, 0)) rfl ?_
      obtain ⟨v115, e116, hq⟩ := bsm hq
      refine r_aJ odX7_adds rfl e116 ?_
      refine mB_run odX7_adds 1 (g := (261, [(6, .long (((v33 * ((v37 * v41) - (v45 * v49))) + (v53 * ((v57 * v61) - (v65 * v69)))) + (v73 * ((v77 * v81) - (v85 * v89))))), (5, .int v29), (4, .int v25), (3, .int v21), (0, .ref x0), (1, .int x1), (2, .int x2)], [.ref x0, .long v115, .long (((v33 * ((v37 * v41) - (v45 * v49))) + (v53 * ((v57 * v61) - (v65 * v69)))) + (v73 * ((v77 * v81) - (v85 * v89)))), .long v111, .ref x0], h109, 0, 0)) rfl ?_
      obtain ⟨v117, e118, hq⟩ := bsm hq
      refine r_gR odX7_adds rfl rfl e118 ?_
      refine mB_run odX7_adds 1 (g := (266, [(6, .long (((v33 * ((v37 * v41) - (v45 * v49))) + (v53 * ((v57 * v61) - (v65 * v69)))) + (v73 * ((v77 * v81) - (v85 * v89))))), (5, .int v29), (4, .int v25), (3, .int v21), (0, .ref x0), (1, .int x1), (2, .int x2)], [.int v25, .ref v117, .long v115, .long (((v33 * ((v37 * v41) - (v45 * v49))) + (v53 * ((v57 * v61) - (v65 * v69)))) + (v73 * ((v77 * v81) - (v85 * v89)))), .long v111, .ref x0], h109, 0, 0)) rfl ?_
      obtain ⟨v119, e120, hq⟩ := bsm hq
      refine r_aJ odX7_adds rfl e120 ?_
      refine mB_run odX7_adds 2 (g := (269, [(6, .long (((v33 * ((v37 * v41) - (v45 * v49))) + (v53 * ((v57 * v61) - (v65 * v69)))) + (v73 * ((v77 * v81) - (v85 * v89))))), (5, .int v29), (4, .int v25), (3, .int v21), (0, .ref x0), (1, .int x1), (2, .int x2)], [.ref x0, .long (v115 + v119), .long (((v33 * ((v37 * v41) - (v45 * v49))) + (v53 * ((v57 * v61) - (v65 * v69)))) + (v73 * ((v77 * v81) - (v85 * v89)))), .long v111, .ref x0], h109, 0, 0)) rfl ?_
      obtain ⟨v121, e122, hq⟩ := bsm hq
      refine r_gR odX7_adds rfl rfl e122 ?_
      refine mB_run odX7_adds 1 (g := (274, [(6, .long (((v33 * ((v37 * v41) - (v45 * v49))) + (v53 * ((v57 * v61) - (v65 * v69)))) + (v73 * ((v77 * v81) - (v85 * v89))))), (5, .int v29), (4, .int v25), (3, .int v21), (0, .ref x0), (1, .int x1), (2, .int x2)], [.int v29, .ref v121, .long (v115 + v119), .long (((v33 * ((v37 * v41) - (v45 * v49))) + (v53 * ((v57 * v61) - (v65 * v69)))) + (v73 * ((v77 * v81) - (v85 * v89)))), .long v111, .ref x0], h109, 0, 0)) rfl ?_
      obtain ⟨v123, e124, hq⟩ := bsm hq
      refine r_aJ odX7_adds rfl e124 ?_
      refine mB_run odX7_adds 3 (g := (278, [(6, .long (((v33 * ((v37 * v41) - (v45 * v49))) + (v53 * ((v57 * v61) - (v65 * v69)))) + (v73 * ((v77 * v81) - (v85 * v89))))), (5, .int v29), (4, .int v25), (3, .int v21), (0, .ref x0), (1, .int x1), (2, .int x2)], [.long (v111 + ((((v33 * ((v37 * v41) - (v45 * v49))) + (v53 * ((v57 * v61) - (v65 * v69)))) + (v73 * ((v77 * v81) - (v85 * v89)))) * ((v115 + v119) + v123))), .ref x0], h109, 0, 0)) rfl ?_
      obtain ⟨h125, e126, hq⟩ := bsm hq
      refine r_sV odX7_adds rfl rfl rfl rfl e126 ?_
      refine mB_run odX7_adds 2 (g := (283, [(6, .long (((v33 * ((v37 * v41) - (v45 * v49))) + (v53 * ((v57 * v61) - (v65 * v69)))) + (v73 * ((v77 * v81) - (v85 * v89))))), (5, .int v29), (4, .int v25), (3, .int v21), (0, .ref x0), (1, .int x1), (2, .int x2)], [.ref x0, .ref x0], h125, 0, 0)) rfl ?_
      obtain ⟨v127, e128, hq⟩ := bsm hq
      refine r_gJ odX7_adds rfl rfl e128 ?_
      refine mB_run odX7_adds 2 (g := (289, [(6, .long (((v33 * ((v37 * v41) - (v45 * v49))) + (v53 * ((v57 * v61) - (v65 * v69)))) + (v73 * ((v77 * v81) - (v85 * v89))))), (5, .int v29), (4, .int v25), (3, .int v21), (0, .ref x0), (1, .int x1), (2, .int x2)], [.ref x0, .long (((v33 * ((v37 * v41) - (v45 * v49))) + (v53 * ((v57 * v61) - (v65 * v69)))) + (v73 * ((v77 * v81) - (v85 * v89)))), .long v127, .ref x0], h125, 0, 0)) rfl ?_
      obtain ⟨v129, e130, hq⟩ := bsm hq
      refine r_gR odX7_adds rfl rfl e130 ?_
      refine mB_run odX7_adds 1 (g := (293, [(6, .long (((v33 * ((v37 * v41) - (v45 * v49))) + (v53 * ((v57 * v61) - (v65 * v69)))) + (v73 * ((v77 * v81) - (v85 * v89))))), (5, .int v29), (4, .int v25), (3, .int v21), (0, .ref x0), (1, .int x1), (2, .int x2)], [.int v21, .ref v129, .long (((v33 * ((v37 * v41) - (v45 * v49))) + (v53 * ((v57 * v61) - (v65 * v69)))) + (v73 * ((v77 * v81) - (v85 * v89)))), .long v127, .ref x0], h125, 0, 0)) rfl ?_
      obtain ⟨v131, e132, hq⟩ := bsm hq
      refine r_aJ odX7_adds rfl e132 ?_
      refine mB_run odX7_adds 1 (g := (295, [(6, .long (((v33 * ((v37 * v41) - (v45 * v49))) + (v53 * ((v57 * v61) - (v65 * v69)))) + (v73 * ((v77 * v81) - (v85 * v89))))), (5, .int v29), (4, .int v25), (3, .int v21), (0, .ref x0), (1, .int x1), (2, .int x2)], [.ref x0, .long v131, .long (((v33 * ((v37 * v41) - (v45 * v49))) + (v53 * ((v57 * v61) - (v65 * v69)))) + (v73 * ((v77 * v81) - (v85 * v89)))), .long v127, .ref x0], h125, 0, 0)) rfl ?_
      obtain ⟨v133, e134, hq⟩ := bsm hq
      refine r_gR odX7_adds rfl rfl e134 ?_
      refine mB_run odX7_adds 1 (g := (300, [(6, .long (((v33 * ((v37 * v41) - (v45 * v49))) + (v53 * ((v57 * v61) - (v65 * v69)))) + (v73 * ((v77 * v81) - (v85 * v89))))), (5, .int v29), (4, .int v25), (3, .int v21), (0, .ref x0), (1, .int x1), (2, .int x2)], [.int v25, .ref v133, .long v131, .long (((v33 * ((v37 * v41) - (v45 * v49))) + (v53 * ((v57 * v61) - (v65 * v69)))) + (v73 * ((v77 * v81) - (v85 * v89)))), .long v127, .ref x0], h125, 0, 0)) rfl ?_
      obtain ⟨v135, e136, hq⟩ := bsm hq
      refine r_aJ odX7_adds rfl e136 ?_
      refine mB_run odX7_adds 2 (g := (303, [(6, .long (((v33 * ((v37 * v41) - (v45 * v49))) + (v53 * ((v57 * v61) - (v65 * v69)))) + (v73 * ((v77 * v81) - (v85 * v89))))), (5, .int v29), (4, .int v25), (3, .int v21), (0, .ref x0), (1, .int x1), (2, .int x2)], [.ref x0, .long (v131 + v135), .long (((v33 * ((v37 * v41) - (v45 * v49))) + (v53 * ((v57 * v61) - (v65 * v69)))) + (v73 * ((v77 * v81) - (v85 * v89)))), .long v127, .ref x0], h125, 0, 0)) rfl ?_
      obtain ⟨v137, e138, hq⟩ := bsm hq
      refine r_gR odX7_adds rfl rfl e138 ?_
      refine mB_run odX7_adds 1 (g := (308, [(6, .long (((v33 * ((v37 * v41) - (v45 * v49))) + (v53 * ((v57 * v61) - (v65 * v69)))) + (v73 * ((v77 * v81) - (v85 * v89))))), (5, .int v29), (4, .int v25), (3, .int v21), (0, .ref x0), (1, .int x1), (2, .int x2)], [.int v29, .ref v137, .long (v131 + v135), .long (((v33 * ((v37 * v41) - (v45 * v49))) + (v53 * ((v57 * v61) - (v65 * v69)))) + (v73 * ((v77 * v81) - (v85 * v89)))), .long v127, .ref x0], h125, 0, 0)) rfl ?_
      obtain ⟨v139, e140, hq⟩ := bsm hq
      refine r_aJ odX7_adds rfl e140 ?_
      refine mB_run odX7_adds 3 (g := (312, [(6, .long (((v33 * ((v37 * v41) - (v45 * v49))) + (v53 * ((v57 * v61) - (v65 * v69)))) + (v73 * ((v77 * v81) - (v85 * v89))))), (5, .int v29), (4, .int v25), (3, .int v21), (0, .ref x0), (1, .int x1), (2, .int x2)], [.long (v127 + ((((v33 * ((v37 * v41) - (v45 * v49))) + (v53 * ((v57 * v61) - (v65 * v69)))) + (v73 * ((v77 * v81) - (v85 * v89)))) * ((v131 + v135) + v139))), .ref x0], h125, 0, 0)) rfl ?_
      obtain ⟨h141, e142, hq⟩ := bsm hq
      refine r_sV odX7_adds rfl rfl rfl rfl e142 ?_
      refine mB_run odX7_adds 2 (g := (34, [(2, .int (x2 + (1 : Int32))), (6, .long (((v33 * ((v37 * v41) - (v45 * v49))) + (v53 * ((v57 * v61) - (v65 * v69)))) + (v73 * ((v77 * v81) - (v85 * v89))))), (5, .int v29), (4, .int v25), (3, .int v21), (0, .ref x0), (1, .int x1)], [], h141, 0, 0)) rfl ?_
      refine mB_lv [5, 6, 0] (lv' := [(0, .ref x0), (1, .int x1), (2, .int (x2 + (1 : Int32)))]) rfl ?_
      exact ih _ _ _ _ hq
def fxX7_adds_22 (N : Nat) : Nat → Nat → Int32 → mh → Option mh
  | 0, _, _, _ => none
  | n + 1, x0, x1, h =>
    (gR h x0 7 27).bind fun v9 =>
    (aI h v9 (0 : Int32)).bind fun v11 =>
    if v11 ≤ x1 then (
      some h) else (
      fxX7_adds_34 N (fxX7_adds_22 N n) N x0 x1 (1 : Int32) h)
set_option maxHeartbeats 4000000 in
set_option maxRecDepth 100000 in
theorem exX7_adds_22 {N : Nat} : ∀ (n : Nat) (x0 : Nat) (x1 : Int32) (h : mh) {o : mh}, fxX7_adds_22 N n x0 x1 h = some o → mB (gO mX7_adds (o, none)) mX7_adds (22, [(0, .ref x0), (1, .int x1)], [], h, 0, 0) := by
  intro n
  induction n with
  | zero => intro x0 x1 h o hq; cases hq
  | succ n ih =>
    intro x0 x1 h o hq
    unfold fxX7_adds_22 at hq
    refine mB_run odX7_adds 2 (g := (24, [(0, .ref x0), (1, .int x1)], [.ref x0, .int x1], h, 0, 0)) rfl ?_
    obtain ⟨v9, e10, hq⟩ := bsm hq
    refine r_gR odX7_adds rfl rfl e10 ?_
    refine mB_run odX7_adds 1 (g := (28, [(0, .ref x0), (1, .int x1)], [.int (0 : Int32), .ref v9, .int x1], h, 0, 0)) rfl ?_
    obtain ⟨v11, e12, hq⟩ := bsm hq
    refine r_aI odX7_adds rfl e12 ?_
    by_cases c13 : v11 ≤ x1
    · rw [if_pos c13] at hq
      refine ic_ge_T (t := 327) odX7_adds rfl rfl c13 ?_
      cases hq
      exact mB_ret odX7_adds rfl
    · rw [if_neg c13] at hq
      refine ic_ge_F (t := 327) odX7_adds rfl rfl c13 ?_
      refine mB_run odX7_adds 2 (g := (34, [(2, .int (1 : Int32)), (0, .ref x0), (1, .int x1)], [], h, 0, 0)) rfl ?_
      refine mB_lv [1, 2, 0] (lv' := [(0, .ref x0), (1, .int x1), (2, .int (1 : Int32))]) rfl ?_
      exact exX7_adds_34 ih N _ _ _ _ hq
def fxX7_adds (N : Nat) (p0 : Nat) (h : mh) : Option mh :=
  (sV h p0 7 47 (.long (0 : Int64))).bind fun h1 =>
  (sV h1 p0 7 48 (.long (0 : Int64))).bind fun h3 =>
  (sV h3 p0 7 49 (.long (0 : Int64))).bind fun h5 =>
  (sV h5 p0 7 50 (.long (0 : Int64))).bind fun h7 =>
  fxX7_adds_22 N N p0 (0 : Int32) h7
set_option maxHeartbeats 4000000 in
set_option maxRecDepth 100000 in
theorem exX7_adds {N : Nat} {p0 : Nat} {h : mh} {o : mh} (hq : fxX7_adds N p0 h = some o) : mC mX7_adds [.ref p0] h (o, none) := by
  refine mC_of okX7_adds (Nat.le_of_ble_eq_true rfl) ?_
  unfold fxX7_adds at hq
  show mB _ mX7_adds (0, [(0, .ref p0)], [], h, 0, 0)
  refine mB_run odX7_adds 2 (g := (2, [(0, .ref p0)], [.long (0 : Int64), .ref p0], h, 0, 0)) rfl ?_
  obtain ⟨h1, e2, hq⟩ := bsm hq
  refine r_sV odX7_adds rfl rfl rfl rfl e2 ?_
  refine mB_run odX7_adds 2 (g := (7, [(0, .ref p0)], [.long (0 : Int64), .ref p0], h1, 0, 0)) rfl ?_
  obtain ⟨h3, e4, hq⟩ := bsm hq
  refine r_sV odX7_adds rfl rfl rfl rfl e4 ?_
  refine mB_run odX7_adds 2 (g := (12, [(0, .ref p0)], [.long (0 : Int64), .ref p0], h3, 0, 0)) rfl ?_
  obtain ⟨h5, e6, hq⟩ := bsm hq
  refine r_sV odX7_adds rfl rfl rfl rfl e6 ?_
  refine mB_run odX7_adds 2 (g := (17, [(0, .ref p0)], [.long (0 : Int64), .ref p0], h5, 0, 0)) rfl ?_
  obtain ⟨h7, e8, hq⟩ := bsm hq
  refine r_sV odX7_adds rfl rfl rfl rfl e8 ?_
  refine mB_run odX7_adds 2 (g := (22, [(1, .int (0 : Int32)), (0, .ref p0)], [], h7, 0, 0)) rfl ?_
  refine mB_lv [1, 0] (lv' := [(0, .ref p0), (1, .int (0 : Int32))]) rfl ?_
  exact exX7_adds_22 N _ _ _ hq
def fxX7_volume (N : Nat) (p0 : Nat) (p1 : Int32) (h : mh) : Option (mh × Int64) :=
  (fxX7_isSolid N p1 h).bind fun o1 =>
  if o1.2 = 0 then (
    some (o1.1, (-1 : Int64))) else (
    (gR o1.1 p0 7 5).bind fun v4 =>
    (aI o1.1 v4 p1).bind fun v6 =>
    if (4 : Int32) ≤ v6 then (
      (kO o1.1 p0 7).bind fun f11 =>
      (fxX7_knows N p0 p1 (0 : Int32) o1.1).bind fun o9 =>
      (kO o9 p0 7).bind fun f15 =>
      (fxX7_adds N p0 o9).bind fun o13 =>
      (gJ o13 p0 7 47).bind fun v17 =>
      some (o13, v17)) else (
      some (o1.1, (0 : Int64))))
set_option maxHeartbeats 4000000 in
set_option maxRecDepth 100000 in
theorem exX7_volume {N : Nat} {p0 : Nat} {p1 : Int32} {h : mh} {o : (mh × Int64)} (hq : fxX7_volume N p0 p1 h = some o) : mC mX7_volume [.ref p0, .int p1] h (o.1, some (.long o.2)) := by
  refine mC_of okX7_volume (Nat.le_of_ble_eq_true rfl) ?_
  unfold fxX7_volume at hq
  show mB _ mX7_volume (0, [(0, .ref p0), (1, .int p1)], [], h, 0, 0)
  refine mB_run odX7_volume 1 (g := (1, [(0, .ref p0), (1, .int p1)], [.int p1], h, 0, 0)) rfl ?_
  obtain ⟨o1, e2, hq⟩ := bsm hq
  refine mB_S (as := [.int p1]) odX7_volume okX7_isSolid lk_7_133 rfl (exX7_isSolid e2) rfl rfl rfl ?_
  show mB _ mX7_volume (4, [(0, .ref p0), (1, .int p1)], [.int o1.2], o1.1, 0, 0)
  by_cases c3 : o1.2 = 0
  · rw [if_pos c3] at hq
    refine if_ne_F (t := 11) odX7_volume rfl rfl c3 ?_
    refine mB_run odX7_volume 1 (g := (10, [(0, .ref p0), (1, .int p1)], [.long (-1 : Int64)], o1.1, 0, 0)) rfl ?_
    cases hq
    exact mB_ret odX7_volume rfl
  · rw [if_neg c3] at hq
    refine if_ne_T (t := 11) odX7_volume rfl rfl c3 ?_
    refine mB_run odX7_volume 1 (g := (12, [(0, .ref p0), (1, .int p1)], [.ref p0], o1.1, 0, 0)) rfl ?_
    obtain ⟨v4, e5, hq⟩ := bsm hq
    refine r_gR odX7_volume rfl rfl e5 ?_
    refine mB_run odX7_volume 1 (g := (16, [(0, .ref p0), (1, .int p1)], [.int p1, .ref v4], o1.1, 0, 0)) rfl ?_
    obtain ⟨v6, e7, hq⟩ := bsm hq
    refine r_aI odX7_volume rfl e7 ?_
    refine mB_run odX7_volume 1 (g := (18, [(0, .ref p0), (1, .int p1)], [.int (4 : Int32), .int v6], o1.1, 0, 0)) rfl ?_
    by_cases c8 : (4 : Int32) ≤ v6
    · rw [if_pos c8] at hq
      refine ic_ge_T (t := 23) odX7_volume rfl rfl c8 ?_
      refine mB_run odX7_volume 3 (g := (26, [(0, .ref p0), (1, .int p1)], [.int (0 : Int32), .int p1, .ref p0], o1.1, 0, 0)) rfl ?_
      obtain ⟨f11, k12, hq⟩ := bsm hq
      obtain ⟨o9, e10, hq⟩ := bsm hq
      refine mB_V (as := [.int p1, .int (0 : Int32)]) odX7_volume okX7_knows lk_7_244 rfl (exX7_knows e10) (kO_at k12) rfl rfl rfl ?_
      show mB _ mX7_volume (29, [(0, .ref p0), (1, .int p1)], [], o9, 0, 0)
      refine mB_run odX7_volume 1 (g := (30, [(0, .ref p0), (1, .int p1)], [.ref p0], o9, 0, 0)) rfl ?_
      obtain ⟨f15, k16, hq⟩ := bsm hq
      obtain ⟨o13, e14, hq⟩ := bsm hq
      refine mB_V (as := []) odX7_volume okX7_adds lk_7_308 rfl (exX7_adds e14) (kO_at k16) rfl rfl rfl ?_
      show mB _ mX7_volume (33, [(0, .ref p0), (1, .int p1)], [], o13, 0, 0)
      refine mB_run odX7_volume 1 (g := (34, [(0, .ref p0), (1, .int p1)], [.ref p0], o13, 0, 0)) rfl ?_
      obtain ⟨v17, e18, hq⟩ := bsm hq
      refine r_gJ odX7_volume rfl rfl e18 ?_
      cases hq
      exact mB_ret odX7_volume rfl
    · rw [if_neg c8] at hq
      refine ic_ge_F (t := 23) odX7_volume rfl rfl c8 ?_
      refine mB_run odX7_volume 1 (g := (22, [(0, .ref p0), (1, .int p1)], [.long (0 : Int64)], o1.1, 0, 0)) rfl ?_
      cases hq
      exact mB_ret odX7_volume rfl
def fxX7_middle_74 (N : Nat) (x0 : Nat) (x3 : Int32) (s0 : Int64) (h : mh) : Option (mh × Int64) :=
  (gJ h x0 7 47).bind fun v29 =>
  (fxX7_common N s0 ((4 : Int64) * v29) h).bind fun o31 =>
  if x3 = 0 then (
    if o31.2 = 0 then none else
    some (o31.1, (s0 / o31.2))) else (
    (gJ o31.1 x0 7 47).bind fun v35 =>
    if o31.2 = 0 then none else
    some (o31.1, (((4 : Int64) * v35) / o31.2)))
set_option maxHeartbeats 4000000 in
set_option maxRecDepth 100000 in
theorem exX7_middle_74 {N : Nat} (x0 : Nat) (x3 : Int32) (s0 : Int64) (h : mh) {o : (mh × Int64)} (hq : fxX7_middle_74 N x0 x3 s0 h = some o) : mB (gO mX7_middle (o.1, some (.long o.2))) mX7_middle (74, [(0, .ref x0), (3, .int x3)], [.long s0], h, 0, 0) := by
  unfold fxX7_middle_74 at hq
  refine mB_run odX7_middle 4 (g := (82, [(4, .long s0), (0, .ref x0), (3, .int x3)], [.ref x0, .long (4 : Int64), .long s0], h, 0, 0)) rfl ?_
  obtain ⟨v29, e30, hq⟩ := bsm hq
  refine r_gJ odX7_middle rfl rfl e30 ?_
  refine mB_run odX7_middle 1 (g := (86, [(4, .long s0), (0, .ref x0), (3, .int x3)], [.long ((4 : Int64) * v29), .long s0], h, 0, 0)) rfl ?_
  obtain ⟨o31, e32, hq⟩ := bsm hq
  refine mB_S (as := [.long s0, .long ((4 : Int64) * v29)]) odX7_middle okX7_common lk_7_158 rfl (exX7_common e32) rfl rfl rfl ?_
  show mB _ mX7_middle (89, [(4, .long s0), (0, .ref x0), (3, .int x3)], [.long o31.2], o31.1, 0, 0)
  refine mB_run odX7_middle 2 (g := (92, [(6, .long o31.2), (4, .long s0), (0, .ref x0), (3, .int x3)], [.int x3], o31.1, 0, 0)) rfl ?_
  by_cases c33 : x3 = 0
  · rw [if_pos c33] at hq
    refine if_ne_F (t := 103) odX7_middle rfl rfl c33 ?_
    refine mB_run odX7_middle 2 (g := (99, [(6, .long o31.2), (4, .long s0), (0, .ref x0), (3, .int x3)], [.long o31.2, .long s0], o31.1, 0, 0)) rfl ?_
    by_cases c34 : o31.2 = 0
    · rw [if_pos c34] at hq; cases hq
    rw [if_neg c34] at hq
    refine r_ldiv odX7_middle rfl c34 ?_
    refine mB_run odX7_middle 1 (g := (114, [(6, .long o31.2), (4, .long s0), (0, .ref x0), (3, .int x3)], [.long (s0 / o31.2)], o31.1, 0, 0)) rfl ?_
    cases hq
    exact mB_ret odX7_middle rfl
  · rw [if_neg c33] at hq
    refine if_ne_T (t := 103) odX7_middle rfl rfl c33 ?_
    refine mB_run odX7_middle 2 (g := (107, [(6, .long o31.2), (4, .long s0), (0, .ref x0), (3, .int x3)], [.ref x0, .long (4 : Int64)], o31.1, 0, 0)) rfl ?_
    obtain ⟨v35, e36, hq⟩ := bsm hq
    refine r_gJ odX7_middle rfl rfl e36 ?_
    refine mB_run odX7_middle 2 (g := (113, [(6, .long o31.2), (4, .long s0), (0, .ref x0), (3, .int x3)], [.long o31.2, .long ((4 : Int64) * v35)], o31.1, 0, 0)) rfl ?_
    by_cases c37 : o31.2 = 0
    · rw [if_pos c37] at hq; cases hq
    rw [if_neg c37] at hq
    refine r_ldiv odX7_middle rfl c37 ?_
    cases hq
    exact mB_ret odX7_middle rfl
def fxX7_middle_37 (N : Nat) (x0 : Nat) (x1 : Int32) (x2 : Int32) (x3 : Int32) (h : mh) : Option (mh × Int64) :=
  (kO h x0 7).bind fun f15 =>
  (fxX7_knows N x0 x1 (0 : Int32) h).bind fun o13 =>
  (kO o13 x0 7).bind fun f19 =>
  (fxX7_adds N x0 o13).bind fun o17 =>
  if x2 = 0 then (
    (gJ o17 x0 7 48).bind fun v22 =>
    fxX7_middle_74 N x0 x3 v22 o17) else (
    if x2 = (1 : Int32) then (
      (gJ o17 x0 7 49).bind fun v25 =>
      fxX7_middle_74 N x0 x3 v25 o17) else (
      (gJ o17 x0 7 50).bind fun v27 =>
      fxX7_middle_74 N x0 x3 v27 o17))
set_option maxHeartbeats 4000000 in
set_option maxRecDepth 100000 in
theorem exX7_middle_37 {N : Nat} (x0 : Nat) (x1 : Int32) (x2 : Int32) (x3 : Int32) (h : mh) {o : (mh × Int64)} (hq : fxX7_middle_37 N x0 x1 x2 x3 h = some o) : mB (gO mX7_middle (o.1, some (.long o.2))) mX7_middle (37, [(0, .ref x0), (1, .int x1), (2, .int x2), (3, .int x3)], [], h, 0, 0) := by
  unfold fxX7_middle_37 at hq
  refine mB_run odX7_middle 3 (g := (40, [(0, .ref x0), (1, .int x1), (2, .int x2), (3, .int x3)], [.int (0 : Int32), .int x1, .ref x0], h, 0, 0)) rfl ?_
  obtain ⟨f15, k16, hq⟩ := bsm hq
  obtain ⟨o13, e14, hq⟩ := bsm hq
  refine mB_V (as := [.int x1, .int (0 : Int32)]) odX7_middle okX7_knows lk_7_244 rfl (exX7_knows e14) (kO_at k16) rfl rfl rfl ?_
  show mB _ mX7_middle (43, [(0, .ref x0), (1, .int x1), (2, .int x2), (3, .int x3)], [], o13, 0, 0)
  refine mB_run odX7_middle 1 (g := (44, [(0, .ref x0), (1, .int x1), (2, .int x2), (3, .int x3)], [.ref x0], o13, 0, 0)) rfl ?_
  obtain ⟨f19, k20, hq⟩ := bsm hq
  obtain ⟨o17, e18, hq⟩ := bsm hq
  refine mB_V (as := []) odX7_middle okX7_adds lk_7_308 rfl (exX7_adds e18) (kO_at k20) rfl rfl rfl ?_
  show mB _ mX7_middle (47, [(0, .ref x0), (1, .int x1), (2, .int x2), (3, .int x3)], [], o17, 0, 0)
  refine mB_run odX7_middle 1 (g := (48, [(0, .ref x0), (1, .int x1), (2, .int x2), (3, .int x3)], [.int x2], o17, 0, 0)) rfl ?_
  by_cases c21 : x2 = 0
  · rw [if_pos c21] at hq
    refine if_ne_F (t := 58) odX7_middle rfl rfl c21 ?_
    refine mB_run odX7_middle 1 (g := (52, [(0, .ref x0), (1, .int x1), (2, .int x2), (3, .int x3)], [.ref x0], o17, 0, 0)) rfl ?_
    obtain ⟨v22, e23, hq⟩ := bsm hq
    refine r_gJ odX7_middle rfl rfl e23 ?_
    refine mB_run odX7_middle 1 (g := (74, [(0, .ref x0), (1, .int x1), (2, .int x2), (3, .int x3)], [.long v22], o17, 0, 0)) rfl ?_
    refine mB_lv [0, 3] (lv' := [(0, .ref x0), (3, .int x3)]) rfl ?_
    exact exX7_middle_74 _ _ _ _ hq
  · rw [if_neg c21] at hq
    refine if_ne_T (t := 58) odX7_middle rfl rfl c21 ?_
    refine mB_run odX7_middle 2 (g := (60, [(0, .ref x0), (1, .int x1), (2, .int x2), (3, .int x3)], [.int (1 : Int32), .int x2], o17, 0, 0)) rfl ?_
    by_cases c24 : x2 = (1 : Int32)
    · rw [if_pos c24] at hq
      refine ic_ne_F (t := 70) odX7_middle rfl rfl c24 ?_
      refine mB_run odX7_middle 1 (g := (64, [(0, .ref x0), (1, .int x1), (2, .int x2), (3, .int x3)], [.ref x0], o17, 0, 0)) rfl ?_
      obtain ⟨v25, e26, hq⟩ := bsm hq
      refine r_gJ odX7_middle rfl rfl e26 ?_
      refine mB_run odX7_middle 1 (g := (74, [(0, .ref x0), (1, .int x1), (2, .int x2), (3, .int x3)], [.long v25], o17, 0, 0)) rfl ?_
      refine mB_lv [0, 3] (lv' := [(0, .ref x0), (3, .int x3)]) rfl ?_
      exact exX7_middle_74 _ _ _ _ hq
    · rw [if_neg c24] at hq
      refine ic_ne_T (t := 70) odX7_middle rfl rfl c24 ?_
      refine mB_run odX7_middle 1 (g := (71, [(0, .ref x0), (1, .int x1), (2, .int x2), (3, .int x3)], [.ref x0], o17, 0, 0)) rfl ?_
      obtain ⟨v27, e28, hq⟩ := bsm hq
      refine r_gJ odX7_middle rfl rfl e28 ?_
      refine mB_lv [0, 3] (lv' := [(0, .ref x0), (3, .int x3)]) rfl ?_
      exact exX7_middle_74 _ _ _ _ hq
def fxX7_middle (N : Nat) (p0 : Nat) (p1 : Int32) (p2 : Int32) (p3 : Int32) (h : mh) : Option (mh × Int64) :=
  (fxX7_isSolid N p1 h).bind fun o1 =>
  if o1.2 = 0 then (
    some (o1.1, (0 : Int64))) else (
    (gR o1.1 p0 7 5).bind fun v4 =>
    (aI o1.1 v4 p1).bind fun v6 =>
    if v6 < (4 : Int32) then (
      some (o1.1, (0 : Int64))) else (
      if p2 < 0 then (
        some (o1.1, (0 : Int64))) else (
        if (2 : Int32) < p2 then (
          some (o1.1, (0 : Int64))) else (
          if p3 = 0 then (
            fxX7_middle_37 N p0 p1 p2 p3 o1.1) else (
            if p3 = (1 : Int32) then (
              fxX7_middle_37 N p0 p1 p2 p3 o1.1) else (
              some (o1.1, (0 : Int64))))))))
set_option maxHeartbeats 4000000 in
set_option maxRecDepth 100000 in
theorem exX7_middle {N : Nat} {p0 : Nat} {p1 : Int32} {p2 : Int32} {p3 : Int32} {h : mh} {o : (mh × Int64)} (hq : fxX7_middle N p0 p1 p2 p3 h = some o) : mC mX7_middle [.ref p0, .int p1, .int p2, .int p3] h (o.1, some (.long o.2)) := by
  refine mC_of okX7_middle (Nat.le_of_ble_eq_true rfl) ?_
  unfold fxX7_middle at hq
  show mB _ mX7_middle (0, [(0, .ref p0), (1, .int p1), (2, .int p2), (3, .int p3)], [], h, 0, 0)
  refine mB_run odX7_middle 1 (g := (1, [(0, .ref p0), (1, .int p1), (2, .int p2), (3, .int p3)], [.int p1], h, 0, 0)) rfl ?_
  obtain ⟨o1, e2, hq⟩ := bsm hq
  refine mB_S (as := [.int p1]) odX7_middle okX7_isSolid lk_7_133 rfl (exX7_isSolid e2) rfl rfl rfl ?_
  show mB _ mX7_middle (4, [(0, .ref p0), (1, .int p1), (2, .int p2), (3, .int p3)], [.int o1.2], o1.1, 0, 0)
  by_cases c3 : o1.2 = 0
  · rw [if_pos c3] at hq
    refine if_eq_T (t := 35) odX7_middle rfl rfl c3 ?_
    refine mB_run odX7_middle 1 (g := (36, [(0, .ref p0), (1, .int p1), (2, .int p2), (3, .int p3)], [.long (0 : Int64)], o1.1, 0, 0)) rfl ?_
    cases hq
    exact mB_ret odX7_middle rfl
  · rw [if_neg c3] at hq
    refine if_eq_F (t := 35) odX7_middle rfl rfl c3 ?_
    refine mB_run odX7_middle 1 (g := (8, [(0, .ref p0), (1, .int p1), (2, .int p2), (3, .int p3)], [.ref p0], o1.1, 0, 0)) rfl ?_
    obtain ⟨v4, e5, hq⟩ := bsm hq
    refine r_gR odX7_middle rfl rfl e5 ?_
    refine mB_run odX7_middle 1 (g := (12, [(0, .ref p0), (1, .int p1), (2, .int p2), (3, .int p3)], [.int p1, .ref v4], o1.1, 0, 0)) rfl ?_
    obtain ⟨v6, e7, hq⟩ := bsm hq
    refine r_aI odX7_middle rfl e7 ?_
    refine mB_run odX7_middle 1 (g := (14, [(0, .ref p0), (1, .int p1), (2, .int p2), (3, .int p3)], [.int (4 : Int32), .int v6], o1.1, 0, 0)) rfl ?_
    by_cases c8 : v6 < (4 : Int32)
    · rw [if_pos c8] at hq
      refine ic_lt_T (t := 35) odX7_middle rfl rfl c8 ?_
      refine mB_run odX7_middle 1 (g := (36, [(0, .ref p0), (1, .int p1), (2, .int p2), (3, .int p3)], [.long (0 : Int64)], o1.1, 0, 0)) rfl ?_
      cases hq
      exact mB_ret odX7_middle rfl
    · rw [if_neg c8] at hq
      refine ic_lt_F (t := 35) odX7_middle rfl rfl c8 ?_
      refine mB_run odX7_middle 1 (g := (18, [(0, .ref p0), (1, .int p1), (2, .int p2), (3, .int p3)], [.int p2], o1.1, 0, 0)) rfl ?_
      by_cases c9 : p2 < 0
      · rw [if_pos c9] at hq
        refine if_lt_T (t := 35) odX7_middle rfl rfl c9 ?_
        refine mB_run odX7_middle 1 (g := (36, [(0, .ref p0), (1, .int p1), (2, .int p2), (3, .int p3)], [.long (0 : Int64)], o1.1, 0, 0)) rfl ?_
        cases hq
        exact mB_ret odX7_middle rfl
      · rw [if_neg c9] at hq
        refine if_lt_F (t := 35) odX7_middle rfl rfl c9 ?_
        refine mB_run odX7_middle 2 (g := (23, [(0, .ref p0), (1, .int p1), (2, .int p2), (3, .int p3)], [.int (2 : Int32), .int p2], o1.1, 0, 0)) rfl ?_
        by_cases c10 : (2 : Int32) < p2
        · rw [if_pos c10] at hq
          refine ic_gt_T (t := 35) odX7_middle rfl rfl c10 ?_
          refine mB_run odX7_middle 1 (g := (36, [(0, .ref p0), (1, .int p1), (2, .int p2), (3, .int p3)], [.long (0 : Int64)], o1.1, 0, 0)) rfl ?_
          cases hq
          exact mB_ret odX7_middle rfl
        · rw [if_neg c10] at hq
          refine ic_gt_F (t := 35) odX7_middle rfl rfl c10 ?_
          refine mB_run odX7_middle 1 (g := (27, [(0, .ref p0), (1, .int p1), (2, .int p2), (3, .int p3)], [.int p3], o1.1, 0, 0)) rfl ?_
          by_cases c11 : p3 = 0
          · rw [if_pos c11] at hq
            refine if_eq_T (t := 37) odX7_middle rfl rfl c11 ?_
            refine mB_lv [0, 1, 2, 3] (lv' := [(0, .ref p0), (1, .int p1), (2, .int p2), (3, .int p3)]) rfl ?_
            exact exX7_middle_37 _ _ _ _ _ hq
          · rw [if_neg c11] at hq
            refine if_eq_F (t := 37) odX7_middle rfl rfl c11 ?_
            refine mB_run odX7_middle 2 (g := (32, [(0, .ref p0), (1, .int p1), (2, .int p2), (3, .int p3)], [.int (1 : Int32), .int p3], o1.1, 0, 0)) rfl ?_
            by_cases c12 : p3 = (1 : Int32)
            · rw [if_pos c12] at hq
              refine ic_eq_T (t := 37) odX7_middle rfl rfl c12 ?_
              refine mB_lv [0, 1, 2, 3] (lv' := [(0, .ref p0), (1, .int p1), (2, .int p2), (3, .int p3)]) rfl ?_
              exact exX7_middle_37 _ _ _ _ _ hq
            · rw [if_neg c12] at hq
              refine ic_eq_F (t := 37) odX7_middle rfl rfl c12 ?_
              refine mB_run odX7_middle 1 (g := (36, [(0, .ref p0), (1, .int p1), (2, .int p2), (3, .int p3)], [.long (0 : Int64)], o1.1, 0, 0)) rfl ?_
              cases hq
              exact mB_ret odX7_middle rfl
def fxX7_far_85 (N : Nat) (rec32 : Nat → Int32 → Int32 → Int32 → Int32 → mh → Option (mh × Int32)) (rec47 : Nat → Int32 → Int32 → Int32 → Int32 → Int32 → mh → Option (mh × Int32)) (x0 : Nat) (x2 : Int32) (x3 : Int32) (x4 : Int32) (x5 : Int32) (x6 : Int32) (h : mh) : Option (mh × Int32) :=
  rec47 x0 x2 x3 x4 x5 (x6 + (1 : Int32)) h
set_option maxHeartbeats 4000000 in
set_option maxRecDepth 100000 in
theorem exX7_far_85 {N : Nat} {rec32 : Nat → Int32 → Int32 → Int32 → Int32 → mh → Option (mh × Int32)} {rec47 : Nat → Int32 → Int32 → Int32 → Int32 → Int32 → mh → Option (mh × Int32)} (hrec32 : ∀ (x0 : Nat) (x2 : Int32) (x3 : Int32) (x4 : Int32) (x5 : Int32) (h : mh) {o : (mh × Int32)}, rec32 x0 x2 x3 x4 x5 h = some o → mB (gO mX7_far (o.1, some (.int o.2))) mX7_far (32, [(0, .ref x0), (2, .int x2), (3, .int x3), (4, .int x4), (5, .int x5)], [], h, 0, 0)) (hrec47 : ∀ (x0 : Nat) (x2 : Int32) (x3 : Int32) (x4 : Int32) (x5 : Int32) (x6 : Int32) (h : mh) {o : (mh × Int32)}, rec47 x0 x2 x3 x4 x5 x6 h = some o → mB (gO mX7_far (o.1, some (.int o.2))) mX7_far (47, [(0, .ref x0), (2, .int x2), (3, .int x3), (4, .int x4), (5, .int x5), (6, .int x6)], [], h, 0, 0)) (x0 : Nat) (x2 : Int32) (x3 : Int32) (x4 : Int32) (x5 : Int32) (x6 : Int32) (h : mh) {o : (mh × Int32)} (hq : fxX7_far_85 N rec32 rec47 x0 x2 x3 x4 x5 x6 h = some o) : mB (gO mX7_far (o.1, some (.int o.2))) mX7_far (85, [(0, .ref x0), (2, .int x2), (3, .int x3), (4, .int x4), (5, .int x5), (6, .int x6)], [], h, 0, 0) := by
  unfold fxX7_far_85 at hq
  refine mB_run odX7_far 2 (g := (47, [(6, .int (x6 + (1 : Int32))), (0, .ref x0), (2, .int x2), (3, .int x3), (4, .int x4), (5, .int x5)], [], h, 0, 0)) rfl ?_
  refine mB_lv [1, 2, 3, 4, 5, 0] (lv' := [(0, .ref x0), (2, .int x2), (3, .int x3), (4, .int x4), (5, .int x5), (6, .int (x6 + (1 : Int32)))]) rfl ?_
  exact hrec47 _ _ _ _ _ _ _ hq
def fxX7_far_47 (N : Nat) (rec32 : Nat → Int32 → Int32 → Int32 → Int32 → mh → Option (mh × Int32)) : Nat → Nat → Int32 → Int32 → Int32 → Int32 → Int32 → mh → Option (mh × Int32)
  | 0, _, _, _, _, _, _, _ => none
  | n + 1, x0, x2, x3, x4, x5, x6, h =>
    (gI h x0 7 15).bind fun v23 =>
    if v23 ≤ x6 then (
      rec32 x0 x2 x3 x4 (x5 + (1 : Int32)) h) else (
      (kO h x0 7).bind fun f28 =>
      (fxX7_apartOf N x0 x5 x6 h).bind fun o26 =>
      (kO o26.1 x0 7).bind fun f32 =>
      (fxX7_apartOf N x0 x3 x4 o26.1).bind fun o30 =>
      if o30.2 < o26.2 then (
        fxX7_far_85 N rec32 (fxX7_far_47 N rec32 n) x0 x2 x5 x6 x5 x6 o30.1) else (
        fxX7_far_85 N rec32 (fxX7_far_47 N rec32 n) x0 x2 x3 x4 x5 x6 o30.1))
set_option maxHeartbeats 4000000 in
set_option maxRecDepth 100000 in
theorem exX7_far_47 {N : Nat} {rec32 : Nat → Int32 → Int32 → Int32 → Int32 → mh → Option (mh × Int32)} (hrec32 : ∀ (x0 : Nat) (x2 : Int32) (x3 : Int32) (x4 : Int32) (x5 : Int32) (h : mh) {o : (mh × Int32)}, rec32 x0 x2 x3 x4 x5 h = some o → mB (gO mX7_far (o.1, some (.int o.2))) mX7_far (32, [(0, .ref x0), (2, .int x2), (3, .int x3), (4, .int x4), (5, .int x5)], [], h, 0, 0)) : ∀ (n : Nat) (x0 : Nat) (x2 : Int32) (x3 : Int32) (x4 : Int32) (x5 : Int32) (x6 : Int32) (h : mh) {o : (mh × Int32)}, fxX7_far_47 N rec32 n x0 x2 x3 x4 x5 x6 h = some o → mB (gO mX7_far (o.1, some (.int o.2))) mX7_far (47, [(0, .ref x0), (2, .int x2), (3, .int x3), (4, .int x4), (5, .int x5), (6, .int x6)], [], h, 0, 0) := by
  intro n
  induction n with
  | zero => intro x0 x2 x3 x4 x5 x6 h o hq; cases hq
  | succ n ih =>
    intro x0 x2 x3 x4 x5 x6 h o hq
    unfold fxX7_far_47 at hq
    refine mB_run odX7_far 2 (g := (50, [(0, .ref x0), (2, .int x2), (3, .int x3), (4, .int x4), (5, .int x5), (6, .int x6)], [.ref x0, .int x6], h, 0, 0)) rfl ?_
    obtain ⟨v23, e24, hq⟩ := bsm hq
    refine r_gI odX7_far rfl rfl e24 ?_
    by_cases c25 : v23 ≤ x6
    · rw [if_pos c25] at hq
      refine ic_ge_T (t := 91) odX7_far rfl rfl c25 ?_
      refine mB_run odX7_far 2 (g := (32, [(5, .int (x5 + (1 : Int32))), (0, .ref x0), (2, .int x2), (3, .int x3), (4, .int x4), (6, .int x6)], [], h, 0, 0)) rfl ?_
      refine mB_lv [1, 2, 3, 4, 0] (lv' := [(0, .ref x0), (2, .int x2), (3, .int x3), (4, .int x4), (5, .int (x5 + (1 : Int32)))]) rfl ?_
      exact hrec32 _ _ _ _ _ _ hq
    · rw [if_neg c25] at hq
      refine ic_ge_F (t := 91) odX7_far rfl rfl c25 ?_
      refine mB_run odX7_far 3 (g := (61, [(0, .ref x0), (2, .int x2), (3, .int x3), (4, .int x4), (5, .int x5), (6, .int x6)], [.int x6, .int x5, .ref x0], h, 0, 0)) rfl ?_
      obtain ⟨f28, k29, hq⟩ := bsm hq
      obtain ⟨o26, e27, hq⟩ := bsm hq
      refine mB_V (as := [.int x5, .int x6]) odX7_far okX7_apartOf lk_7_174 rfl (exX7_apartOf e27) (kO_at k29) rfl rfl rfl ?_
      show mB _ mX7_far (64, [(0, .ref x0), (2, .int x2), (3, .int x3), (4, .int x4), (5, .int x5), (6, .int x6)], [.long o26.2], o26.1, 0, 0)
      refine mB_run odX7_far 3 (g := (68, [(0, .ref x0), (2, .int x2), (3, .int x3), (4, .int x4), (5, .int x5), (6, .int x6)], [.int x4, .int x3, .ref x0, .long o26.2], o26.1, 0, 0)) rfl ?_
      obtain ⟨f32, k33, hq⟩ := bsm hq
      obtain ⟨o30, e31, hq⟩ := bsm hq
      refine mB_V (as := [.int x3, .int x4]) odX7_far okX7_apartOf lk_7_174 rfl (exX7_apartOf e31) (kO_at k33) rfl rfl rfl ?_
      show mB _ mX7_far (71, [(0, .ref x0), (2, .int x2), (3, .int x3), (4, .int x4), (5, .int x5), (6, .int x6)], [.long o30.2, .long o26.2], o30.1, 0, 0)
      by_cases c34 : o30.2 < o26.2
      · rw [if_pos c34] at hq
        refine lc_gt_T (t := 78) odX7_far rfl rfl rfl c34 ?_
        refine mB_run odX7_far 4 (g := (85, [(4, .int x6), (3, .int x5), (0, .ref x0), (2, .int x2), (5, .int x5), (6, .int x6)], [], o30.1, 0, 0)) rfl ?_
        refine mB_lv [2, 3, 1, 0, 4, 5] (lv' := [(0, .ref x0), (2, .int x2), (3, .int x5), (4, .int x6), (5, .int x5), (6, .int x6)]) rfl ?_
        exact exX7_far_85 hrec32 ih _ _ _ _ _ _ _ hq
      · rw [if_neg c34] at hq
        refine lc_gt_F (t := 78) odX7_far rfl rfl rfl c34 ?_
        refine mB_run odX7_far 1 (g := (85, [(0, .ref x0), (2, .int x2), (3, .int x3), (4, .int x4), (5, .int x5), (6, .int x6)], [], o30.1, 0, 0)) rfl ?_
        refine mB_lv [0, 1, 2, 3, 4, 5] (lv' := [(0, .ref x0), (2, .int x2), (3, .int x3), (4, .int x4), (5, .int x5), (6, .int x6)]) rfl ?_
        exact exX7_far_85 hrec32 ih _ _ _ _ _ _ _ hq
def fxX7_far_32 (N : Nat) : Nat → Nat → Int32 → Int32 → Int32 → Int32 → mh → Option (mh × Int32)
  | 0, _, _, _, _, _, _ => none
  | n + 1, x0, x2, x3, x4, x5, h =>
    (gI h x0 7 15).bind fun v13 =>
    if v13 ≤ x5 then (
      if x2 = 0 then (
        some (h, x3)) else (
        if x2 = (1 : Int32) then (
          some (h, x4)) else (
          if x2 = (2 : Int32) then (
            (kO h x0 7).bind fun f21 =>
            (fxX7_apartOf N x0 x3 x4 h).bind fun o19 =>
            some (o19.1, o19.2.toInt32)) else (
            some (h, (-1 : Int32)))))) else (
      fxX7_far_47 N (fxX7_far_32 N n) N x0 x2 x3 x4 x5 (x5 + (1 : Int32)) h)
set_option maxHeartbeats 4000000 in
set_option maxRecDepth 100000 in
theorem exX7_far_32 {N : Nat} : ∀ (n : Nat) (x0 : Nat) (x2 : Int32) (x3 : Int32) (x4 : Int32) (x5 : Int32) (h : mh) {o : (mh × Int32)}, fxX7_far_32 N n x0 x2 x3 x4 x5 h = some o → mB (gO mX7_far (o.1, some (.int o.2))) mX7_far (32, [(0, .ref x0), (2, .int x2), (3, .int x3), (4, .int x4), (5, .int x5)], [], h, 0, 0) := by
  intro n
  induction n with
  | zero => intro x0 x2 x3 x4 x5 h o hq; cases hq
  | succ n ih =>
    intro x0 x2 x3 x4 x5 h o hq
    unfold fxX7_far_32 at hq
    refine mB_run odX7_far 2 (g := (35, [(0, .ref x0), (2, .int x2), (3, .int x3), (4, .int x4), (5, .int x5)], [.ref x0, .int x5], h, 0, 0)) rfl ?_
    obtain ⟨v13, e14, hq⟩ := bsm hq
    refine r_gI odX7_far rfl rfl e14 ?_
    by_cases c15 : v13 ≤ x5
    · rw [if_pos c15] at hq
      refine ic_ge_T (t := 97) odX7_far rfl rfl c15 ?_
      refine mB_run odX7_far 1 (g := (98, [(0, .ref x0), (2, .int x2), (3, .int x3), (4, .int x4), (5, .int x5)], [.int x2], h, 0, 0)) rfl ?_
      by_cases c16 : x2 = 0
      · rw [if_pos c16] at hq
        refine if_ne_F (t := 105) odX7_far rfl rfl c16 ?_
        refine mB_run odX7_far 2 (g := (132, [(0, .ref x0), (2, .int x2), (3, .int x3), (4, .int x4), (5, .int x5)], [.int x3], h, 0, 0)) rfl ?_
        cases hq
        exact mB_ret odX7_far rfl
      · rw [if_neg c16] at hq
        refine if_ne_T (t := 105) odX7_far rfl rfl c16 ?_
        refine mB_run odX7_far 2 (g := (107, [(0, .ref x0), (2, .int x2), (3, .int x3), (4, .int x4), (5, .int x5)], [.int (1 : Int32), .int x2], h, 0, 0)) rfl ?_
        by_cases c17 : x2 = (1 : Int32)
        · rw [if_pos c17] at hq
          refine ic_ne_F (t := 115) odX7_far rfl rfl c17 ?_
          refine mB_run odX7_far 2 (g := (132, [(0, .ref x0), (2, .int x2), (3, .int x3), (4, .int x4), (5, .int x5)], [.int x4], h, 0, 0)) rfl ?_
          cases hq
          exact mB_ret odX7_far rfl
        · rw [if_neg c17] at hq
          refine ic_ne_T (t := 115) odX7_far rfl rfl c17 ?_
          refine mB_run odX7_far 2 (g := (117, [(0, .ref x0), (2, .int x2), (3, .int x3), (4, .int x4), (5, .int x5)], [.int (2 : Int32), .int x2], h, 0, 0)) rfl ?_
          by_cases c18 : x2 = (2 : Int32)
          · rw [if_pos c18] at hq
            refine ic_ne_F (t := 131) odX7_far rfl rfl c18 ?_
            refine mB_run odX7_far 3 (g := (124, [(0, .ref x0), (2, .int x2), (3, .int x3), (4, .int x4), (5, .int x5)], [.int x4, .int x3, .ref x0], h, 0, 0)) rfl ?_
            obtain ⟨f21, k22, hq⟩ := bsm hq
            obtain ⟨o19, e20, hq⟩ := bsm hq
            refine mB_V (as := [.int x3, .int x4]) odX7_far okX7_apartOf lk_7_174 rfl (exX7_apartOf e20) (kO_at k22) rfl rfl rfl ?_
            show mB _ mX7_far (127, [(0, .ref x0), (2, .int x2), (3, .int x3), (4, .int x4), (5, .int x5)], [.long o19.2], o19.1, 0, 0)
            refine mB_run odX7_far 2 (g := (132, [(0, .ref x0), (2, .int x2), (3, .int x3), (4, .int x4), (5, .int x5)], [.int o19.2.toInt32], o19.1, 0, 0)) rfl ?_
            cases hq
            exact mB_ret odX7_far rfl
          · rw [if_neg c18] at hq
            refine ic_ne_T (t := 131) odX7_far rfl rfl c18 ?_
            refine mB_run odX7_far 1 (g := (132, [(0, .ref x0), (2, .int x2), (3, .int x3), (4, .int x4), (5, .int x5)], [.int (-1 : Int32)], h, 0, 0)) rfl ?_
            cases hq
            exact mB_ret odX7_far rfl
    · rw [if_neg c15] at hq
      refine ic_ge_F (t := 97) odX7_far rfl rfl c15 ?_
      refine mB_run odX7_far 4 (g := (47, [(6, .int (x5 + (1 : Int32))), (0, .ref x0), (2, .int x2), (3, .int x3), (4, .int x4), (5, .int x5)], [], h, 0, 0)) rfl ?_
      refine mB_lv [1, 2, 3, 4, 5, 0] (lv' := [(0, .ref x0), (2, .int x2), (3, .int x3), (4, .int x4), (5, .int x5), (6, .int (x5 + (1 : Int32)))]) rfl ?_
      exact exX7_far_47 ih N _ _ _ _ _ _ _ hq
def fxX7_far (N : Nat) (p0 : Nat) (p1 : Int32) (p2 : Int32) (h : mh) : Option (mh × Int32) :=
  (fxX7_isSolid N p1 h).bind fun o1 =>
  if o1.2 = 0 then (
    some (o1.1, (-1 : Int32))) else (
    (gR o1.1 p0 7 4).bind fun v4 =>
    (aI o1.1 v4 p1).bind fun v6 =>
    if (2 : Int32) ≤ v6 then (
      (kO o1.1 p0 7).bind fun f11 =>
      (fxX7_loads N p0 p1 o1.1).bind fun o9 =>
      fxX7_far_32 N N p0 p2 (0 : Int32) (1 : Int32) (0 : Int32) o9) else (
      some (o1.1, (-1 : Int32))))
set_option maxHeartbeats 4000000 in
set_option maxRecDepth 100000 in
theorem exX7_far {N : Nat} {p0 : Nat} {p1 : Int32} {p2 : Int32} {h : mh} {o : (mh × Int32)} (hq : fxX7_far N p0 p1 p2 h = some o) : mC mX7_far [.ref p0, .int p1, .int p2] h (o.1, some (.int o.2)) := by
  refine mC_of okX7_far (Nat.le_of_ble_eq_true rfl) ?_
  unfold fxX7_far at hq
  show mB _ mX7_far (0, [(0, .ref p0), (1, .int p1), (2, .int p2)], [], h, 0, 0)
  refine mB_run odX7_far 1 (g := (1, [(0, .ref p0), (1, .int p1), (2, .int p2)], [.int p1], h, 0, 0)) rfl ?_
  obtain ⟨o1, e2, hq⟩ := bsm hq
  refine mB_S (as := [.int p1]) odX7_far okX7_isSolid lk_7_133 rfl (exX7_isSolid e2) rfl rfl rfl ?_
  show mB _ mX7_far (4, [(0, .ref p0), (1, .int p1), (2, .int p2)], [.int o1.2], o1.1, 0, 0)
  by_cases c3 : o1.2 = 0
  · rw [if_pos c3] at hq
    refine if_eq_T (t := 17) odX7_far rfl rfl c3 ?_
    refine mB_run odX7_far 1 (g := (18, [(0, .ref p0), (1, .int p1), (2, .int p2)], [.int (-1 : Int32)], o1.1, 0, 0)) rfl ?_
    cases hq
    exact mB_ret odX7_far rfl
  · rw [if_neg c3] at hq
    refine if_eq_F (t := 17) odX7_far rfl rfl c3 ?_
    refine mB_run odX7_far 1 (g := (8, [(0, .ref p0), (1, .int p1), (2, .int p2)], [.ref p0], o1.1, 0, 0)) rfl ?_
    obtain ⟨v4, e5, hq⟩ := bsm hq
    refine r_gR odX7_far rfl rfl e5 ?_
    refine mB_run odX7_far 1 (g := (12, [(0, .ref p0), (1, .int p1), (2, .int p2)], [.int p1, .ref v4], o1.1, 0, 0)) rfl ?_
    obtain ⟨v6, e7, hq⟩ := bsm hq
    refine r_aI odX7_far rfl e7 ?_
    refine mB_run odX7_far 1 (g := (14, [(0, .ref p0), (1, .int p1), (2, .int p2)], [.int (2 : Int32), .int v6], o1.1, 0, 0)) rfl ?_
    by_cases c8 : (2 : Int32) ≤ v6
    · rw [if_pos c8] at hq
      refine ic_ge_T (t := 19) odX7_far rfl rfl c8 ?_
      refine mB_run odX7_far 2 (g := (21, [(0, .ref p0), (1, .int p1), (2, .int p2)], [.int p1, .ref p0], o1.1, 0, 0)) rfl ?_
      obtain ⟨f11, k12, hq⟩ := bsm hq
      obtain ⟨o9, e10, hq⟩ := bsm hq
      refine mB_V (as := [.int p1]) odX7_far okX7_loads lk_7_226 rfl (exX7_loads e10) (kO_at k12) rfl rfl rfl ?_
      show mB _ mX7_far (24, [(0, .ref p0), (1, .int p1), (2, .int p2)], [], o9, 0, 0)
      refine mB_run odX7_far 6 (g := (32, [(5, .int (0 : Int32)), (4, .int (1 : Int32)), (3, .int (0 : Int32)), (0, .ref p0), (1, .int p1), (2, .int p2)], [], o9, 0, 0)) rfl ?_
      refine mB_lv [3, 5, 2, 1, 0] (lv' := [(0, .ref p0), (2, .int p2), (3, .int (0 : Int32)), (4, .int (1 : Int32)), (5, .int (0 : Int32))]) rfl ?_
      exact exX7_far_32 N _ _ _ _ _ _ hq
    · rw [if_neg c8] at hq
      refine ic_ge_F (t := 19) odX7_far rfl rfl c8 ?_
      refine mB_run odX7_far 1 (g := (18, [(0, .ref p0), (1, .int p1), (2, .int p2)], [.int (-1 : Int32)], o1.1, 0, 0)) rfl ?_
      cases hq
      exact mB_ret odX7_far rfl
def fxX7_fractions_90 (N : Nat) (x8 : Int64) (x12 : Int64) (x16 : Int32) (h : mh) : Option (mh × Int32) :=
  if x8 = x12 then (
    some (h, (0 : Int32))) else (
    if x8 = (0 : Int64) then (
      some (h, (-x16))) else (
      some (h, x16)))
set_option maxHeartbeats 4000000 in
set_option maxRecDepth 100000 in
theorem exX7_fractions_90 {N : Nat} (x8 : Int64) (x12 : Int64) (x16 : Int32) (h : mh) {o : (mh × Int32)} (hq : fxX7_fractions_90 N x8 x12 x16 h = some o) : mB (gO mX7_fractions (o.1, some (.int o.2))) mX7_fractions (90, [(8, .long x8), (12, .long x12), (16, .int x16)], [], h, 0, 0) := by
  unfold fxX7_fractions_90 at hq
  refine mB_run odX7_fractions 2 (g := (94, [(8, .long x8), (12, .long x12), (16, .int x16)], [.long x12, .long x8], h, 0, 0)) rfl ?_
  by_cases c7 : x8 = x12
  · rw [if_pos c7] at hq
    refine lc_ne_F (t := 102) odX7_fractions rfl rfl rfl c7 ?_
    refine mB_run odX7_fractions 2 (g := (117, [(8, .long x8), (12, .long x12), (16, .int x16)], [.int (0 : Int32)], h, 0, 0)) rfl ?_
    cases hq
    exact mB_ret odX7_fractions rfl
  · rw [if_neg c7] at hq
    refine lc_ne_T (t := 102) odX7_fractions rfl rfl rfl c7 ?_
    refine mB_run odX7_fractions 2 (g := (105, [(8, .long x8), (12, .long x12), (16, .int x16)], [.long (0 : Int64), .long x8], h, 0, 0)) rfl ?_
    by_cases c8 : x8 = (0 : Int64)
    · rw [if_pos c8] at hq
      refine lc_ne_F (t := 115) odX7_fractions rfl rfl rfl c8 ?_
      refine mB_run odX7_fractions 3 (g := (117, [(8, .long x8), (12, .long x12), (16, .int x16)], [.int (-x16)], h, 0, 0)) rfl ?_
      cases hq
      exact mB_ret odX7_fractions rfl
    · rw [if_neg c8] at hq
      refine lc_ne_T (t := 115) odX7_fractions rfl rfl rfl c8 ?_
      refine mB_run odX7_fractions 1 (g := (117, [(8, .long x8), (12, .long x12), (16, .int x16)], [.int x16], h, 0, 0)) rfl ?_
      cases hq
      exact mB_ret odX7_fractions rfl
def fxX7_fractions_17 (N : Nat) : Nat → Int64 → Int64 → Int64 → Int64 → Int32 → mh → Option (mh × Int32)
  | 0, _, _, _, _, _, _ => none
  | n + 1, x8, x10, x12, x14, x16, h =>
    if x10 = 0 then none else
    if x14 = 0 then none else
    if (x8 / x10) = (x12 / x14) then (
      if (x8 - ((x8 / x10) * x10)) = (0 : Int64) then (
        fxX7_fractions_90 N (x8 - ((x8 / x10) * x10)) (x12 - ((x12 / x14) * x14)) x16 h) else (
        if (x12 - ((x12 / x14) * x14)) = (0 : Int64) then (
          fxX7_fractions_90 N (x8 - ((x8 / x10) * x10)) (x12 - ((x12 / x14) * x14)) x16 h) else (
          fxX7_fractions_17 N n x10 (x8 - ((x8 / x10) * x10)) x14 (x12 - ((x12 / x14) * x14)) (-x16) h))) else (
      if (x8 / x10) ≤ (x12 / x14) then (
        some (h, (-x16))) else (
        some (h, x16)))
set_option maxHeartbeats 4000000 in
set_option maxRecDepth 100000 in
theorem exX7_fractions_17 {N : Nat} : ∀ (n : Nat) (x8 : Int64) (x10 : Int64) (x12 : Int64) (x14 : Int64) (x16 : Int32) (h : mh) {o : (mh × Int32)}, fxX7_fractions_17 N n x8 x10 x12 x14 x16 h = some o → mB (gO mX7_fractions (o.1, some (.int o.2))) mX7_fractions (17, [(8, .long x8), (10, .long x10), (12, .long x12), (14, .long x14), (16, .int x16)], [], h, 0, 0) := by
  intro n
  induction n with
  | zero => intro x8 x10 x12 x14 x16 h o hq; cases hq
  | succ n ih =>
    intro x8 x10 x12 x14 x16 h o hq
    unfold fxX7_fractions_17 at hq
    refine mB_run odX7_fractions 2 (g := (21, [(8, .long x8), (10, .long x10), (12, .long x12), (14, .long x14), (16, .int x16)], [.long x10, .long x8], h, 0, 0)) rfl ?_
    by_cases c1 : x10 = 0
    · rw [if_pos c1] at hq; cases hq
    rw [if_neg c1] at hq
    refine r_ldiv odX7_fractions rfl c1 ?_
    refine mB_run odX7_fractions 3 (g := (28, [(17, .long (x8 / x10)), (8, .long x8), (10, .long x10), (12, .long x12), (14, .long x14), (16, .int x16)], [.long x14, .long x12], h, 0, 0)) rfl ?_
    by_cases c2 : x14 = 0
    · rw [if_pos c2] at hq; cases hq
    rw [if_neg c2] at hq
    refine r_ldiv odX7_fractions rfl c2 ?_
    refine mB_run odX7_fractions 3 (g := (35, [(19, .long (x12 / x14)), (17, .long (x8 / x10)), (8, .long x8), (10, .long x10), (12, .long x12), (14, .long x14), (16, .int x16)], [.long (x12 / x14), .long (x8 / x10)], h, 0, 0)) rfl ?_
    by_cases c3 : (x8 / x10) = (x12 / x14)
    · rw [if_pos c3] at hq
      refine lc_eq_T (t := 56) odX7_fractions rfl rfl rfl c3 ?_
      refine mB_run odX7_fractions 12 (g := (76, [(12, .long (x12 - ((x12 / x14) * x14))), (8, .long (x8 - ((x8 / x10) * x10))), (19, .long (x12 / x14)), (17, .long (x8 / x10)), (10, .long x10), (14, .long x14), (16, .int x16)], [], h, 0, 0)) rfl ?_
      refine mB_run odX7_fractions 2 (g := (79, [(12, .long (x12 - ((x12 / x14) * x14))), (8, .long (x8 - ((x8 / x10) * x10))), (19, .long (x12 / x14)), (17, .long (x8 / x10)), (10, .long x10), (14, .long x14), (16, .int x16)], [.long (0 : Int64), .long (x8 - ((x8 / x10) * x10))], h, 0, 0)) rfl ?_
      by_cases c4 : (x8 - ((x8 / x10) * x10)) = (0 : Int64)
      · rw [if_pos c4] at hq
        refine lc_eq_T (t := 90) odX7_fractions rfl rfl rfl c4 ?_
        refine mB_lv [1, 0, 6] (lv' := [(8, .long (x8 - ((x8 / x10) * x10))), (12, .long (x12 - ((x12 / x14) * x14))), (16, .int x16)]) rfl ?_
        exact exX7_fractions_90 _ _ _ _ hq
      · rw [if_neg c4] at hq
        refine lc_eq_F (t := 90) odX7_fractions rfl rfl rfl c4 ?_
        refine mB_run odX7_fractions 2 (g := (86, [(12, .long (x12 - ((x12 / x14) * x14))), (8, .long (x8 - ((x8 / x10) * x10))), (19, .long (x12 / x14)), (17, .long (x8 / x10)), (10, .long x10), (14, .long x14), (16, .int x16)], [.long (0 : Int64), .long (x12 - ((x12 / x14) * x14))], h, 0, 0)) rfl ?_
        by_cases c5 : (x12 - ((x12 / x14) * x14)) = (0 : Int64)
        · rw [if_pos c5] at hq
          refine lc_ne_F (t := 118) odX7_fractions rfl rfl rfl c5 ?_
          refine mB_lv [1, 0, 6] (lv' := [(8, .long (x8 - ((x8 / x10) * x10))), (12, .long (x12 - ((x12 / x14) * x14))), (16, .int x16)]) rfl ?_
          exact exX7_fractions_90 _ _ _ _ hq
        · rw [if_neg c5] at hq
          refine lc_ne_T (t := 118) odX7_fractions rfl rfl rfl c5 ?_
          refine mB_run odX7_fractions 12 (g := (142, [(14, .long (x12 - ((x12 / x14) * x14))), (12, .long x14), (21, .long (x12 - ((x12 / x14) * x14))), (10, .long (x8 - ((x8 / x10) * x10))), (8, .long x10), (19, .long (x12 / x14)), (17, .long (x8 / x10)), (16, .int x16)], [], h, 0, 0)) rfl ?_
          refine mB_run odX7_fractions 4 (g := (17, [(16, .int (-x16)), (14, .long (x12 - ((x12 / x14) * x14))), (12, .long x14), (21, .long (x12 - ((x12 / x14) * x14))), (10, .long (x8 - ((x8 / x10) * x10))), (8, .long x10), (19, .long (x12 / x14)), (17, .long (x8 / x10))], [], h, 0, 0)) rfl ?_
          refine mB_lv [5, 4, 2, 1, 0] (lv' := [(8, .long x10), (10, .long (x8 - ((x8 / x10) * x10))), (12, .long x14), (14, .long (x12 - ((x12 / x14) * x14))), (16, .int (-x16))]) rfl ?_
          exact ih _ _ _ _ _ _ hq
    · rw [if_neg c3] at hq
      refine lc_eq_F (t := 56) odX7_fractions rfl rfl rfl c3 ?_
      refine mB_run odX7_fractions 2 (g := (43, [(19, .long (x12 / x14)), (17, .long (x8 / x10)), (8, .long x8), (10, .long x10), (12, .long x12), (14, .long x14), (16, .int x16)], [.long (x12 / x14), .long (x8 / x10)], h, 0, 0)) rfl ?_
      by_cases c6 : (x8 / x10) ≤ (x12 / x14)
      · rw [if_pos c6] at hq
        refine lc_le_T (t := 52) odX7_fractions rfl rfl rfl c6 ?_
        refine mB_run odX7_fractions 2 (g := (55, [(19, .long (x12 / x14)), (17, .long (x8 / x10)), (8, .long x8), (10, .long x10), (12, .long x12), (14, .long x14), (16, .int x16)], [.int (-x16)], h, 0, 0)) rfl ?_
        cases hq
        exact mB_ret odX7_fractions rfl
      · rw [if_neg c6] at hq
        refine lc_le_F (t := 52) odX7_fractions rfl rfl rfl c6 ?_
        refine mB_run odX7_fractions 2 (g := (55, [(19, .long (x12 / x14)), (17, .long (x8 / x10)), (8, .long x8), (10, .long x10), (12, .long x12), (14, .long x14), (16, .int x16)], [.int x16], h, 0, 0)) rfl ?_
        cases hq
        exact mB_ret odX7_fractions rfl
def fxX7_fractions (N : Nat) (p0 : Int64) (p1 : Int64) (p2 : Int64) (p3 : Int64) (h : mh) : Option (mh × Int32) :=
  fxX7_fractions_17 N N p0 p1 p2 p3 (1 : Int32) h
set_option maxHeartbeats 4000000 in
set_option maxRecDepth 100000 in
theorem exX7_fractions {N : Nat} {p0 : Int64} {p1 : Int64} {p2 : Int64} {p3 : Int64} {h : mh} {o : (mh × Int32)} (hq : fxX7_fractions N p0 p1 p2 p3 h = some o) : mC mX7_fractions [.long p0, .long p1, .long p2, .long p3] h (o.1, some (.int o.2)) := by
  refine mC_of okX7_fractions (Nat.le_of_ble_eq_true rfl) ?_
  unfold fxX7_fractions at hq
  show mB _ mX7_fractions (0, [(0, .long p0), (2, .long p1), (4, .long p2), (6, .long p3)], [], h, 0, 0)
  refine mB_run odX7_fractions 10 (g := (17, [(16, .int (1 : Int32)), (14, .long p3), (12, .long p2), (10, .long p1), (8, .long p0), (0, .long p0), (2, .long p1), (4, .long p2), (6, .long p3)], [], h, 0, 0)) rfl ?_
  refine mB_lv [4, 3, 2, 1, 0] (lv' := [(8, .long p0), (10, .long p1), (12, .long p2), (14, .long p3), (16, .int (1 : Int32))]) rfl ?_
  exact exX7_fractions_17 N _ _ _ _ _ _ hq
def fxX7_tries_24 (N : Nat) (x0 : Nat) (x1 : Int64) (x3 : Int64) (h : mh) : Option mh :=
  (sV h x0 7 51 (.int (1 : Int32))).bind fun h11 =>
  (sV h11 x0 7 52 (.long x1)).bind fun h13 =>
  (sV h13 x0 7 53 (.long x3)).bind fun h15 =>
  some h15
set_option maxHeartbeats 4000000 in
set_option maxRecDepth 100000 in
theorem exX7_tries_24 {N : Nat} (x0 : Nat) (x1 : Int64) (x3 : Int64) (h : mh) {o : mh} (hq : fxX7_tries_24 N x0 x1 x3 h = some o) : mB (gO mX7_tries (o, none)) mX7_tries (24, [(0, .ref x0), (1, .long x1), (3, .long x3)], [], h, 0, 0) := by
  unfold fxX7_tries_24 at hq
  refine mB_run odX7_tries 2 (g := (26, [(0, .ref x0), (1, .long x1), (3, .long x3)], [.int (1 : Int32), .ref x0], h, 0, 0)) rfl ?_
  obtain ⟨h11, e12, hq⟩ := bsm hq
  refine r_sV odX7_tries rfl rfl rfl rfl e12 ?_
  refine mB_run odX7_tries 2 (g := (31, [(0, .ref x0), (1, .long x1), (3, .long x3)], [.long x1, .ref x0], h11, 0, 0)) rfl ?_
  obtain ⟨h13, e14, hq⟩ := bsm hq
  refine r_sV odX7_tries rfl rfl rfl rfl e14 ?_
  refine mB_run odX7_tries 2 (g := (36, [(0, .ref x0), (1, .long x1), (3, .long x3)], [.long x3, .ref x0], h13, 0, 0)) rfl ?_
  obtain ⟨h15, e16, hq⟩ := bsm hq
  refine r_sV odX7_tries rfl rfl rfl rfl e16 ?_
  cases hq
  exact mB_ret odX7_tries rfl
def fxX7_tries (N : Nat) (p0 : Nat) (p1 : Int64) (p2 : Int64) (h : mh) : Option mh :=
  (gI h p0 7 51).bind fun v1 =>
  if v1 = 0 then (
    fxX7_tries_24 N p0 p1 p2 h) else (
    (gJ h p0 7 52).bind fun v4 =>
    (gJ h p0 7 53).bind fun v6 =>
    (fxX7_fractions N p1 p2 v4 v6 h).bind fun o8 =>
    if o8.2 < 0 then (
      fxX7_tries_24 N p0 p1 p2 o8.1) else (
      some o8.1))
set_option maxHeartbeats 4000000 in
set_option maxRecDepth 100000 in
theorem exX7_tries {N : Nat} {p0 : Nat} {p1 : Int64} {p2 : Int64} {h : mh} {o : mh} (hq : fxX7_tries N p0 p1 p2 h = some o) : mC mX7_tries [.ref p0, .long p1, .long p2] h (o, none) := by
  refine mC_of okX7_tries (Nat.le_of_ble_eq_true rfl) ?_
  unfold fxX7_tries at hq
  show mB _ mX7_tries (0, [(0, .ref p0), (1, .long p1), (3, .long p2)], [], h, 0, 0)
  refine mB_run odX7_tries 1 (g := (1, [(0, .ref p0), (1, .long p1), (3, .long p2)], [.ref p0], h, 0, 0)) rfl ?_
  obtain ⟨v1, e2, hq⟩ := bsm hq
  refine r_gI odX7_tries rfl rfl e2 ?_
  by_cases c3 : v1 = 0
  · rw [if_pos c3] at hq
    refine if_eq_T (t := 24) odX7_tries rfl rfl c3 ?_
    refine mB_lv [0, 1, 2] (lv' := [(0, .ref p0), (1, .long p1), (3, .long p2)]) rfl ?_
    exact exX7_tries_24 _ _ _ _ hq
  · rw [if_neg c3] at hq
    refine if_eq_F (t := 24) odX7_tries rfl rfl c3 ?_
    refine mB_run odX7_tries 3 (g := (10, [(0, .ref p0), (1, .long p1), (3, .long p2)], [.ref p0, .long p2, .long p1], h, 0, 0)) rfl ?_
    obtain ⟨v4, e5, hq⟩ := bsm hq
    refine r_gJ odX7_tries rfl rfl e5 ?_
    refine mB_run odX7_tries 1 (g := (14, [(0, .ref p0), (1, .long p1), (3, .long p2)], [.ref p0, .long v4, .long p2, .long p1], h, 0, 0)) rfl ?_
    obtain ⟨v6, e7, hq⟩ := bsm hq
    refine r_gJ odX7_tries rfl rfl e7 ?_
    obtain ⟨o8, e9, hq⟩ := bsm hq
    refine mB_S (as := [.long p1, .long p2, .long v4, .long v6]) odX7_tries okX7_fractions lk_7_323 rfl (exX7_fractions e9) rfl rfl rfl ?_
    show mB _ mX7_tries (20, [(0, .ref p0), (1, .long p1), (3, .long p2)], [.int o8.2], o8.1, 0, 0)
    by_cases c10 : o8.2 < 0
    · rw [if_pos c10] at hq
      refine if_lt_T (t := 24) odX7_tries rfl rfl c10 ?_
      refine mB_lv [0, 1, 2] (lv' := [(0, .ref p0), (1, .long p1), (3, .long p2)]) rfl ?_
      exact exX7_tries_24 _ _ _ _ hq
    · rw [if_neg c10] at hq
      refine if_lt_F (t := 24) odX7_tries rfl rfl c10 ?_
      cases hq
      exact mB_ret odX7_tries rfl
def fxX7_told (N : Nat) (p0 : Nat) (p1 : Int32) (h : mh) : Option (mh × Int64) :=
  (gJ h p0 7 52).bind fun v1 =>
  (gJ h p0 7 53).bind fun v3 =>
  (fxX7_common N v1 v3 h).bind fun o5 =>
  if p1 = 0 then (
    (gJ o5.1 p0 7 52).bind fun v8 =>
    if o5.2 = 0 then none else
    some (o5.1, (v8 / o5.2))) else (
    if p1 = (1 : Int32) then (
      (gJ o5.1 p0 7 53).bind fun v12 =>
      if o5.2 = 0 then none else
      some (o5.1, (v12 / o5.2))) else (
      some (o5.1, (-1 : Int64))))
set_option maxHeartbeats 4000000 in
set_option maxRecDepth 100000 in
theorem exX7_told {N : Nat} {p0 : Nat} {p1 : Int32} {h : mh} {o : (mh × Int64)} (hq : fxX7_told N p0 p1 h = some o) : mC mX7_told [.ref p0, .int p1] h (o.1, some (.long o.2)) := by
  refine mC_of okX7_told (Nat.le_of_ble_eq_true rfl) ?_
  unfold fxX7_told at hq
  show mB _ mX7_told (0, [(0, .ref p0), (1, .int p1)], [], h, 0, 0)
  refine mB_run odX7_told 1 (g := (1, [(0, .ref p0), (1, .int p1)], [.ref p0], h, 0, 0)) rfl ?_
  obtain ⟨v1, e2, hq⟩ := bsm hq
  refine r_gJ odX7_told rfl rfl e2 ?_
  refine mB_run odX7_told 1 (g := (5, [(0, .ref p0), (1, .int p1)], [.ref p0, .long v1], h, 0, 0)) rfl ?_
  obtain ⟨v3, e4, hq⟩ := bsm hq
  refine r_gJ odX7_told rfl rfl e4 ?_
  obtain ⟨o5, e6, hq⟩ := bsm hq
  refine mB_S (as := [.long v1, .long v3]) odX7_told okX7_common lk_7_158 rfl (exX7_common e6) rfl rfl rfl ?_
  show mB _ mX7_told (11, [(0, .ref p0), (1, .int p1)], [.long o5.2], o5.1, 0, 0)
  refine mB_run odX7_told 2 (g := (13, [(2, .long o5.2), (0, .ref p0), (1, .int p1)], [.int p1], o5.1, 0, 0)) rfl ?_
  by_cases c7 : p1 = 0
  · rw [if_pos c7] at hq
    refine if_ne_F (t := 25) odX7_told rfl rfl c7 ?_
    refine mB_run odX7_told 1 (g := (17, [(2, .long o5.2), (0, .ref p0), (1, .int p1)], [.ref p0], o5.1, 0, 0)) rfl ?_
    obtain ⟨v8, e9, hq⟩ := bsm hq
    refine r_gJ odX7_told rfl rfl e9 ?_
    refine mB_run odX7_told 1 (g := (21, [(2, .long o5.2), (0, .ref p0), (1, .int p1)], [.long o5.2, .long v8], o5.1, 0, 0)) rfl ?_
    by_cases c10 : o5.2 = 0
    · rw [if_pos c10] at hq; cases hq
    rw [if_neg c10] at hq
    refine r_ldiv odX7_told rfl c10 ?_
    refine mB_run odX7_told 1 (g := (42, [(2, .long o5.2), (0, .ref p0), (1, .int p1)], [.long (v8 / o5.2)], o5.1, 0, 0)) rfl ?_
    cases hq
    exact mB_ret odX7_told rfl
  · rw [if_neg c7] at hq
    refine if_ne_T (t := 25) odX7_told rfl rfl c7 ?_
    refine mB_run odX7_told 2 (g := (27, [(2, .long o5.2), (0, .ref p0), (1, .int p1)], [.int (1 : Int32), .int p1], o5.1, 0, 0)) rfl ?_
    by_cases c11 : p1 = (1 : Int32)
    · rw [if_pos c11] at hq
      refine ic_ne_F (t := 39) odX7_told rfl rfl c11 ?_
      refine mB_run odX7_told 1 (g := (31, [(2, .long o5.2), (0, .ref p0), (1, .int p1)], [.ref p0], o5.1, 0, 0)) rfl ?_
      obtain ⟨v12, e13, hq⟩ := bsm hq
      refine r_gJ odX7_told rfl rfl e13 ?_
      refine mB_run odX7_told 1 (g := (35, [(2, .long o5.2), (0, .ref p0), (1, .int p1)], [.long o5.2, .long v12], o5.1, 0, 0)) rfl ?_
      by_cases c14 : o5.2 = 0
      · rw [if_pos c14] at hq; cases hq
      rw [if_neg c14] at hq
      refine r_ldiv odX7_told rfl c14 ?_
      refine mB_run odX7_told 1 (g := (42, [(2, .long o5.2), (0, .ref p0), (1, .int p1)], [.long (v12 / o5.2)], o5.1, 0, 0)) rfl ?_
      cases hq
      exact mB_ret odX7_told rfl
    · rw [if_neg c11] at hq
      refine ic_ne_T (t := 39) odX7_told rfl rfl c11 ?_
      refine mB_run odX7_told 1 (g := (42, [(2, .long o5.2), (0, .ref p0), (1, .int p1)], [.long (-1 : Int64)], o5.1, 0, 0)) rfl ?_
      cases hq
      exact mB_ret odX7_told rfl
def fxX7_thick_60 (N : Nat) (rec23 : Nat → Int64 → Int64 → Int32 → mh → Option mh) (x0 : Nat) (x1 : Int64) (x3 : Int64) (x5 : Int32) (h : mh) : Option mh :=
  rec23 x0 x1 x3 (x5 + (1 : Int32)) h
set_option maxHeartbeats 4000000 in
set_option maxRecDepth 100000 in
theorem exX7_thick_60 {N : Nat} {rec23 : Nat → Int64 → Int64 → Int32 → mh → Option mh} (hrec23 : ∀ (x0 : Nat) (x1 : Int64) (x3 : Int64) (x5 : Int32) (h : mh) {o : mh}, rec23 x0 x1 x3 x5 h = some o → mB (gO mX7_thick (o, none)) mX7_thick (23, [(0, .ref x0), (1, .long x1), (3, .long x3), (5, .int x5)], [], h, 0, 0)) (x0 : Nat) (x1 : Int64) (x3 : Int64) (x5 : Int32) (h : mh) {o : mh} (hq : fxX7_thick_60 N rec23 x0 x1 x3 x5 h = some o) : mB (gO mX7_thick (o, none)) mX7_thick (60, [(0, .ref x0), (1, .long x1), (3, .long x3), (5, .int x5)], [], h, 0, 0) := by
  unfold fxX7_thick_60 at hq
  refine mB_run odX7_thick 2 (g := (23, [(5, .int (x5 + (1 : Int32))), (0, .ref x0), (1, .long x1), (3, .long x3)], [], h, 0, 0)) rfl ?_
  refine mB_lv [1, 2, 3, 0] (lv' := [(0, .ref x0), (1, .long x1), (3, .long x3), (5, .int (x5 + (1 : Int32)))]) rfl ?_
  exact hrec23 _ _ _ _ _ hq
def fxX7_thick_50 (N : Nat) (rec23 : Nat → Int64 → Int64 → Int32 → mh → Option mh) (x0 : Nat) (x1 : Int64) (x3 : Int64) (x5 : Int32) (x6 : Int64) (h : mh) : Option mh :=
  if x6 ≤ x3 then (
    fxX7_thick_60 N rec23 x0 x1 x3 x5 h) else (
    fxX7_thick_60 N rec23 x0 x1 x6 x5 h)
set_option maxHeartbeats 4000000 in
set_option maxRecDepth 100000 in
theorem exX7_thick_50 {N : Nat} {rec23 : Nat → Int64 → Int64 → Int32 → mh → Option mh} (hrec23 : ∀ (x0 : Nat) (x1 : Int64) (x3 : Int64) (x5 : Int32) (h : mh) {o : mh}, rec23 x0 x1 x3 x5 h = some o → mB (gO mX7_thick (o, none)) mX7_thick (23, [(0, .ref x0), (1, .long x1), (3, .long x3), (5, .int x5)], [], h, 0, 0)) (x0 : Nat) (x1 : Int64) (x3 : Int64) (x5 : Int32) (x6 : Int64) (h : mh) {o : mh} (hq : fxX7_thick_50 N rec23 x0 x1 x3 x5 x6 h = some o) : mB (gO mX7_thick (o, none)) mX7_thick (50, [(0, .ref x0), (1, .long x1), (3, .long x3), (5, .int x5), (6, .long x6)], [], h, 0, 0) := by
  unfold fxX7_thick_50 at hq
  refine mB_run odX7_thick 2 (g := (53, [(0, .ref x0), (1, .long x1), (3, .long x3), (5, .int x5), (6, .long x6)], [.long x3, .long x6], h, 0, 0)) rfl ?_
  by_cases c38 : x6 ≤ x3
  · rw [if_pos c38] at hq
    refine lc_le_T (t := 60) odX7_thick rfl rfl rfl c38 ?_
    refine mB_lv [0, 1, 2, 3] (lv' := [(0, .ref x0), (1, .long x1), (3, .long x3), (5, .int x5)]) rfl ?_
    exact exX7_thick_60 hrec23 _ _ _ _ _ hq
  · rw [if_neg c38] at hq
    refine lc_le_F (t := 60) odX7_thick rfl rfl rfl c38 ?_
    refine mB_run odX7_thick 2 (g := (60, [(3, .long x6), (0, .ref x0), (1, .long x1), (5, .int x5), (6, .long x6)], [], h, 0, 0)) rfl ?_
    refine mB_lv [1, 2, 0, 3] (lv' := [(0, .ref x0), (1, .long x1), (3, .long x6), (5, .int x5)]) rfl ?_
    exact exX7_thick_60 hrec23 _ _ _ _ _ hq
def fxX7_thick_23 (N : Nat) : Nat → Nat → Int64 → Int64 → Int32 → mh → Option mh
  | 0, _, _, _, _, _ => none
  | n + 1, x0, x1, x3, x5, h =>
    (gI h x0 7 15).bind fun v14 =>
    if v14 ≤ x5 then (
      (gJ h x0 7 24).bind fun v17 =>
      (gJ h x0 7 24).bind fun v19 =>
      (gJ h x0 7 25).bind fun v21 =>
      (gJ h x0 7 25).bind fun v23 =>
      (gJ h x0 7 26).bind fun v25 =>
      (gJ h x0 7 26).bind fun v27 =>
      (kO h x0 7).bind fun f31 =>
      (fxX7_tries N x0 ((x3 - x1) * (x3 - x1)) (((v17 * v19) + (v21 * v23)) + (v25 * v27)) h).bind fun o29 =>
      some o29) else (
      (kO h x0 7).bind fun f35 =>
      (fxX7_height N x0 x5 h).bind fun o33 =>
      if x1 ≤ o33.2 then (
        fxX7_thick_50 N (fxX7_thick_23 N n) x0 x1 x3 x5 o33.2 o33.1) else (
        fxX7_thick_50 N (fxX7_thick_23 N n) x0 o33.2 x3 x5 o33.2 o33.1))
set_option maxHeartbeats 4000000 in
set_option maxRecDepth 100000 in
theorem exX7_thick_23 {N : Nat} : ∀ (n : Nat) (x0 : Nat) (x1 : Int64) (x3 : Int64) (x5 : Int32) (h : mh) {o : mh}, fxX7_thick_23 N n x0 x1 x3 x5 h = some o → mB (gO mX7_thick (o, none)) mX7_thick (23, [(0, .ref x0), (1, .long x1), (3, .long x3), (5, .int x5)], [], h, 0, 0) := by
  intro n
  induction n with
  | zero => intro x0 x1 x3 x5 h o hq; cases hq
  | succ n ih =>
    intro x0 x1 x3 x5 h o hq
    unfold fxX7_thick_23 at hq
    refine mB_run odX7_thick 2 (g := (26, [(0, .ref x0), (1, .long x1), (3, .long x3), (5, .int x5)], [.ref x0, .int x5], h, 0, 0)) rfl ?_
    obtain ⟨v14, e15, hq⟩ := bsm hq
    refine r_gI odX7_thick rfl rfl e15 ?_
    by_cases c16 : v14 ≤ x5
    · rw [if_pos c16] at hq
      refine ic_ge_T (t := 66) odX7_thick rfl rfl c16 ?_
      refine mB_run odX7_thick 9 (g := (75, [(0, .ref x0), (1, .long x1), (3, .long x3), (5, .int x5)], [.ref x0, .long ((x3 - x1) * (x3 - x1)), .ref x0], h, 0, 0)) rfl ?_
      obtain ⟨v17, e18, hq⟩ := bsm hq
      refine r_gJ odX7_thick rfl rfl e18 ?_
      refine mB_run odX7_thick 1 (g := (79, [(0, .ref x0), (1, .long x1), (3, .long x3), (5, .int x5)], [.ref x0, .long v17, .long ((x3 - x1) * (x3 - x1)), .ref x0], h, 0, 0)) rfl ?_
      obtain ⟨v19, e20, hq⟩ := bsm hq
      refine r_gJ odX7_thick rfl rfl e20 ?_
      refine mB_run odX7_thick 2 (g := (84, [(0, .ref x0), (1, .long x1), (3, .long x3), (5, .int x5)], [.ref x0, .long (v17 * v19), .long ((x3 - x1) * (x3 - x1)), .ref x0], h, 0, 0)) rfl ?_
      obtain ⟨v21, e22, hq⟩ := bsm hq
      refine r_gJ odX7_thick rfl rfl e22 ?_
      refine mB_run odX7_thick 1 (g := (88, [(0, .ref x0), (1, .long x1), (3, .long x3), (5, .int x5)], [.ref x0, .long v21, .long (v17 * v19), .long ((x3 - x1) * (x3 - x1)), .ref x0], h, 0, 0)) rfl ?_
      obtain ⟨v23, e24, hq⟩ := bsm hq
      refine r_gJ odX7_thick rfl rfl e24 ?_
      refine mB_run odX7_thick 3 (g := (94, [(0, .ref x0), (1, .long x1), (3, .long x3), (5, .int x5)], [.ref x0, .long ((v17 * v19) + (v21 * v23)), .long ((x3 - x1) * (x3 - x1)), .ref x0], h, 0, 0)) rfl ?_
      obtain ⟨v25, e26, hq⟩ := bsm hq
      refine r_gJ odX7_thick rfl rfl e26 ?_
      refine mB_run odX7_thick 1 (g := (98, [(0, .ref x0), (1, .long x1), (3, .long x3), (5, .int x5)], [.ref x0, .long v25, .long ((v17 * v19) + (v21 * v23)), .long ((x3 - x1) * (x3 - x1)), .ref x0], h, 0, 0)) rfl ?_
      obtain ⟨v27, e28, hq⟩ := bsm hq
      refine r_gJ odX7_thick rfl rfl e28 ?_
      refine mB_run odX7_thick 2 (g := (103, [(0, .ref x0), (1, .long x1), (3, .long x3), (5, .int x5)], [.long (((v17 * v19) + (v21 * v23)) + (v25 * v27)), .long ((x3 - x1) * (x3 - x1)), .ref x0], h, 0, 0)) rfl ?_
      obtain ⟨f31, k32, hq⟩ := bsm hq
      obtain ⟨o29, e30, hq⟩ := bsm hq
      refine mB_V (as := [.long ((x3 - x1) * (x3 - x1)), .long (((v17 * v19) + (v21 * v23)) + (v25 * v27))]) odX7_thick okX7_tries lk_7_327 rfl (exX7_tries e30) (kO_at k32) rfl rfl rfl ?_
      show mB _ mX7_thick (106, [(0, .ref x0), (1, .long x1), (3, .long x3), (5, .int x5)], [], o29, 0, 0)
      cases hq
      exact mB_ret odX7_thick rfl
    · rw [if_neg c16] at hq
      refine ic_ge_F (t := 66) odX7_thick rfl rfl c16 ?_
      refine mB_run odX7_thick 2 (g := (35, [(0, .ref x0), (1, .long x1), (3, .long x3), (5, .int x5)], [.int x5, .ref x0], h, 0, 0)) rfl ?_
      obtain ⟨f35, k36, hq⟩ := bsm hq
      obtain ⟨o33, e34, hq⟩ := bsm hq
      refine mB_V (as := [.int x5]) odX7_thick okX7_height lk_7_189 rfl (exX7_height e34) (kO_at k36) rfl rfl rfl ?_
      show mB _ mX7_thick (38, [(0, .ref x0), (1, .long x1), (3, .long x3), (5, .int x5)], [.long o33.2], o33.1, 0, 0)
      refine mB_run odX7_thick 3 (g := (43, [(6, .long o33.2), (0, .ref x0), (1, .long x1), (3, .long x3), (5, .int x5)], [.long x1, .long o33.2], o33.1, 0, 0)) rfl ?_
      by_cases c37 : x1 ≤ o33.2
      · rw [if_pos c37] at hq
        refine lc_ge_T (t := 50) odX7_thick rfl rfl rfl c37 ?_
        refine mB_lv [1, 2, 3, 4, 0] (lv' := [(0, .ref x0), (1, .long x1), (3, .long x3), (5, .int x5), (6, .long o33.2)]) rfl ?_
        exact exX7_thick_50 ih _ _ _ _ _ _ hq
      · rw [if_neg c37] at hq
        refine lc_ge_F (t := 50) odX7_thick rfl rfl rfl c37 ?_
        refine mB_run odX7_thick 2 (g := (50, [(1, .long o33.2), (6, .long o33.2), (0, .ref x0), (3, .long x3), (5, .int x5)], [], o33.1, 0, 0)) rfl ?_
        refine mB_lv [2, 0, 3, 4, 1] (lv' := [(0, .ref x0), (1, .long o33.2), (3, .long x3), (5, .int x5), (6, .long o33.2)]) rfl ?_
        exact exX7_thick_50 ih _ _ _ _ _ _ hq
def fxX7_thick (N : Nat) (p0 : Nat) (h : mh) : Option mh :=
  (kO h p0 7).bind fun f3 =>
  (fxX7_isFlat N p0 h).bind fun o1 =>
  if o1.2 = 0 then (
    (kO o1.1 p0 7).bind fun f8 =>
    (fxX7_plain N p0 o1.1).bind fun o6 =>
    (kO o6 p0 7).bind fun f12 =>
    (fxX7_height N p0 (0 : Int32) o6).bind fun o10 =>
    fxX7_thick_23 N N p0 o10.2 o10.2 (1 : Int32) o10.1) else (
    some o1.1)
set_option maxHeartbeats 4000000 in
set_option maxRecDepth 100000 in
theorem exX7_thick {N : Nat} {p0 : Nat} {h : mh} {o : mh} (hq : fxX7_thick N p0 h = some o) : mC mX7_thick [.ref p0] h (o, none) := by
  refine mC_of okX7_thick (Nat.le_of_ble_eq_true rfl) ?_
  unfold fxX7_thick at hq
  show mB _ mX7_thick (0, [(0, .ref p0)], [], h, 0, 0)
  refine mB_run odX7_thick 1 (g := (1, [(0, .ref p0)], [.ref p0], h, 0, 0)) rfl ?_
  obtain ⟨f3, k4, hq⟩ := bsm hq
  obtain ⟨o1, e2, hq⟩ := bsm hq
  refine mB_V (as := []) odX7_thick okX7_isFlat lk_7_182 rfl (exX7_isFlat e2) (kO_at k4) rfl rfl rfl ?_
  show mB _ mX7_thick (4, [(0, .ref p0)], [.int o1.2], o1.1, 0, 0)
  by_cases c5 : o1.2 = 0
  · rw [if_pos c5] at hq
    refine if_eq_T (t := 8) odX7_thick rfl rfl c5 ?_
    refine mB_run odX7_thick 1 (g := (9, [(0, .ref p0)], [.ref p0], o1.1, 0, 0)) rfl ?_
    obtain ⟨f8, k9, hq⟩ := bsm hq
    obtain ⟨o6, e7, hq⟩ := bsm hq
    refine mB_V (as := []) odX7_thick okX7_plain lk_7_186 rfl (exX7_plain e7) (kO_at k9) rfl rfl rfl ?_
    show mB _ mX7_thick (12, [(0, .ref p0)], [], o6, 0, 0)
    refine mB_run odX7_thick 2 (g := (14, [(0, .ref p0)], [.int (0 : Int32), .ref p0], o6, 0, 0)) rfl ?_
    obtain ⟨f12, k13, hq⟩ := bsm hq
    obtain ⟨o10, e11, hq⟩ := bsm hq
    refine mB_V (as := [.int (0 : Int32)]) odX7_thick okX7_height lk_7_189 rfl (exX7_height e11) (kO_at k13) rfl rfl rfl ?_
    show mB _ mX7_thick (17, [(0, .ref p0)], [.long o10.2], o10.1, 0, 0)
    refine mB_run odX7_thick 5 (g := (23, [(5, .int (1 : Int32)), (3, .long o10.2), (1, .long o10.2), (0, .ref p0)], [], o10.1, 0, 0)) rfl ?_
    refine mB_lv [3, 2, 1, 0] (lv' := [(0, .ref p0), (1, .long o10.2), (3, .long o10.2), (5, .int (1 : Int32))]) rfl ?_
    exact exX7_thick_23 N _ _ _ _ _ hq
  · rw [if_neg c5] at hq
    refine if_eq_F (t := 8) odX7_thick rfl rfl c5 ?_
    cases hq
    exact mB_ret odX7_thick rfl
def fxX7_crosses (N : Nat) (p0 : Nat) (p1 : Int64) (p2 : Int64) (p3 : Int64) (p4 : Int64) (p5 : Int64) (p6 : Int64) (h : mh) : Option mh :=
  (sV h p0 7 24 (.long ((p2 * p6) - (p3 * p5)))).bind fun h1 =>
  (sV h1 p0 7 25 (.long ((p3 * p4) - (p1 * p6)))).bind fun h3 =>
  (sV h3 p0 7 26 (.long ((p1 * p5) - (p2 * p4)))).bind fun h5 =>
  some h5
set_option maxHeartbeats 4000000 in
set_option maxRecDepth 100000 in
theorem exX7_crosses {N : Nat} {p0 : Nat} {p1 : Int64} {p2 : Int64} {p3 : Int64} {p4 : Int64} {p5 : Int64} {p6 : Int64} {h : mh} {o : mh} (hq : fxX7_crosses N p0 p1 p2 p3 p4 p5 p6 h = some o) : mC mX7_crosses [.ref p0, .long p1, .long p2, .long p3, .long p4, .long p5, .long p6] h (o, none) := by
  refine mC_of okX7_crosses (Nat.le_of_ble_eq_true rfl) ?_
  unfold fxX7_crosses at hq
  show mB _ mX7_crosses (0, [(0, .ref p0), (1, .long p1), (3, .long p2), (5, .long p3), (7, .long p4), (9, .long p5), (11, .long p6)], [], h, 0, 0)
  refine mB_run odX7_crosses 8 (g := (11, [(0, .ref p0), (1, .long p1), (3, .long p2), (5, .long p3), (7, .long p4), (9, .long p5), (11, .long p6)], [.long ((p2 * p6) - (p3 * p5)), .ref p0], h, 0, 0)) rfl ?_
  obtain ⟨h1, e2, hq⟩ := bsm hq
  refine r_sV odX7_crosses rfl rfl rfl rfl e2 ?_
  refine mB_run odX7_crosses 8 (g := (25, [(0, .ref p0), (1, .long p1), (3, .long p2), (5, .long p3), (7, .long p4), (9, .long p5), (11, .long p6)], [.long ((p3 * p4) - (p1 * p6)), .ref p0], h1, 0, 0)) rfl ?_
  obtain ⟨h3, e4, hq⟩ := bsm hq
  refine r_sV odX7_crosses rfl rfl rfl rfl e4 ?_
  refine mB_run odX7_crosses 8 (g := (38, [(0, .ref p0), (1, .long p1), (3, .long p2), (5, .long p3), (7, .long p4), (9, .long p5), (11, .long p6)], [.long ((p1 * p5) - (p2 * p4)), .ref p0], h3, 0, 0)) rfl ?_
  obtain ⟨h5, e6, hq⟩ := bsm hq
  refine r_sV odX7_crosses rfl rfl rfl rfl e6 ?_
  cases hq
  exact mB_ret odX7_crosses rfl
