def mxX7_isPoint (N : Nat) (p0 : Int64) (p1 : Int64) (p2 : Int64) (h : mS) : Option (mS × Int32) :=
  if p0 < (-100 : Int64) then (
    some (h, (0 : Int32))) else (
    if (100 : Int64) < p0 then (
      some (h, (0 : Int32))) else (
      if p1 < (-100 : Int64) then (
        some (h, (0 : Int32))) else (
        if (100 : Int64) < p1 then (
          some (h, (0 : Int32))) else (
          if p2 < (-100 : Int64) then (
            some (h, (0 : Int32))) else (
            if (100 : Int64) < p2 then (
              some (h, (0 : Int32))) else (
              some (h, (1 : Int32))))))))
set_option maxHeartbeats 4000000 in
set_option maxRecDepth 100000 in
theorem emX7_isPoint {N : Nat} {C : mh} (hC : C.length = 239) {p0 : Int64} {p1 : Int64} {p2 : Int64} {h : mS} {o : (mS × Int32)} (hq : mxX7_isPoint N p0 p1 p2 h = some o) : mC mX7_isPoint [.long p0, .long p1, .long p2] (hM C h) (hM C o.1, some (.int o.2)) := by
  refine mC_of okX7_isPoint (Nat.le_of_ble_eq_true rfl) ?_
  unfold mxX7_isPoint at hq
  show mB _ mX7_isPoint (0, [(0, .long p0), (2, .long p1), (4, .long p2)], [], (hM C h), 0, 0)
  refine mB_run odX7_isPoint 2 (g := (4, [(0, .long p0), (2, .long p1), (4, .long p2)], [.long (-100 : Int64), .long p0], (hM C h), 0, 0)) rfl ?_
  by_cases c1 : p0 < (-100 : Int64)
  · rw [if_pos c1] at hq
    refine lc_lt_T (t := 54) odX7_isPoint rfl rfl rfl c1 ?_
    refine mB_run odX7_isPoint 1 (g := (55, [(0, .long p0), (2, .long p1), (4, .long p2)], [.int (0 : Int32)], (hM C h), 0, 0)) rfl ?_
    cases hq
    exact mB_ret odX7_isPoint rfl
  · rw [if_neg c1] at hq
    refine lc_lt_F (t := 54) odX7_isPoint rfl rfl rfl c1 ?_
    refine mB_run odX7_isPoint 2 (g := (12, [(0, .long p0), (2, .long p1), (4, .long p2)], [.long (100 : Int64), .long p0], (hM C h), 0, 0)) rfl ?_
    by_cases c2 : (100 : Int64) < p0
    · rw [if_pos c2] at hq
      refine lc_gt_T (t := 54) odX7_isPoint rfl rfl rfl c2 ?_
      refine mB_run odX7_isPoint 1 (g := (55, [(0, .long p0), (2, .long p1), (4, .long p2)], [.int (0 : Int32)], (hM C h), 0, 0)) rfl ?_
      cases hq
      exact mB_ret odX7_isPoint rfl
    · rw [if_neg c2] at hq
      refine lc_gt_F (t := 54) odX7_isPoint rfl rfl rfl c2 ?_
      refine mB_run odX7_isPoint 2 (g := (20, [(0, .long p0), (2, .long p1), (4, .long p2)], [.long (-100 : Int64), .long p1], (hM C h), 0, 0)) rfl ?_
      by_cases c3 : p1 < (-100 : Int64)
      · rw [if_pos c3] at hq
        refine lc_lt_T (t := 54) odX7_isPoint rfl rfl rfl c3 ?_
        refine mB_run odX7_isPoint 1 (g := (55, [(0, .long p0), (2, .long p1), (4, .long p2)], [.int (0 : Int32)], (hM C h), 0, 0)) rfl ?_
        cases hq
        exact mB_ret odX7_isPoint rfl
      · rw [if_neg c3] at hq
        refine lc_lt_F (t := 54) odX7_isPoint rfl rfl rfl c3 ?_
        refine mB_run odX7_isPoint 2 (g := (28, [(0, .long p0), (2, .long p1), (4, .long p2)], [.long (100 : Int64), .long p1], (hM C h), 0, 0)) rfl ?_
        by_cases c4 : (100 : Int64) < p1
        · rw [if_pos c4] at hq
          refine lc_gt_T (t := 54) odX7_isPoint rfl rfl rfl c4 ?_
          refine mB_run odX7_isPoint 1 (g := (55, [(0, .long p0), (2, .long p1), (4, .long p2)], [.int (0 : Int32)], (hM C h), 0, 0)) rfl ?_
          cases hq
          exact mB_ret odX7_isPoint rfl
        · rw [if_neg c4] at hq
          refine lc_gt_F (t := 54) odX7_isPoint rfl rfl rfl c4 ?_
          refine mB_run odX7_isPoint 2 (g := (37, [(0, .long p0), (2, .long p1), (4, .long p2)], [.long (-100 : Int64), .long p2], (hM C h), 0, 0)) rfl ?_
          by_cases c5 : p2 < (-100 : Int64)
          · rw [if_pos c5] at hq
            refine lc_lt_T (t := 54) odX7_isPoint rfl rfl rfl c5 ?_
            refine mB_run odX7_isPoint 1 (g := (55, [(0, .long p0), (2, .long p1), (4, .long p2)], [.int (0 : Int32)], (hM C h), 0, 0)) rfl ?_
            cases hq
            exact mB_ret odX7_isPoint rfl
          · rw [if_neg c5] at hq
            refine lc_lt_F (t := 54) odX7_isPoint rfl rfl rfl c5 ?_
            refine mB_run odX7_isPoint 2 (g := (46, [(0, .long p0), (2, .long p1), (4, .long p2)], [.long (100 : Int64), .long p2], (hM C h), 0, 0)) rfl ?_
            by_cases c6 : (100 : Int64) < p2
            · rw [if_pos c6] at hq
              refine lc_gt_T (t := 54) odX7_isPoint rfl rfl rfl c6 ?_
              refine mB_run odX7_isPoint 1 (g := (55, [(0, .long p0), (2, .long p1), (4, .long p2)], [.int (0 : Int32)], (hM C h), 0, 0)) rfl ?_
              cases hq
              exact mB_ret odX7_isPoint rfl
            · rw [if_neg c6] at hq
              refine lc_gt_F (t := 54) odX7_isPoint rfl rfl rfl c6 ?_
              refine mB_run odX7_isPoint 2 (g := (55, [(0, .long p0), (2, .long p1), (4, .long p2)], [.int (1 : Int32)], (hM C h), 0, 0)) rfl ?_
              cases hq
              exact mB_ret odX7_isPoint rfl
def mxX7_isSolid (N : Nat) (p0 : Int32) (h : mS) : Option (mS × Int32) :=
  if p0 < 0 then (
    some (h, (0 : Int32))) else (
    if (8 : Int32) ≤ p0 then (
      some (h, (0 : Int32))) else (
      some (h, (1 : Int32))))
set_option maxHeartbeats 4000000 in
set_option maxRecDepth 100000 in
theorem emX7_isSolid {N : Nat} {C : mh} (hC : C.length = 239) {p0 : Int32} {h : mS} {o : (mS × Int32)} (hq : mxX7_isSolid N p0 h = some o) : mC mX7_isSolid [.int p0] (hM C h) (hM C o.1, some (.int o.2)) := by
  refine mC_of okX7_isSolid (Nat.le_of_ble_eq_true rfl) ?_
  unfold mxX7_isSolid at hq
  show mB _ mX7_isSolid (0, [(0, .int p0)], [], (hM C h), 0, 0)
  refine mB_run odX7_isSolid 1 (g := (1, [(0, .int p0)], [.int p0], (hM C h), 0, 0)) rfl ?_
  by_cases c1 : p0 < 0
  · rw [if_pos c1] at hq
    refine if_lt_T (t := 14) odX7_isSolid rfl rfl c1 ?_
    refine mB_run odX7_isSolid 1 (g := (15, [(0, .int p0)], [.int (0 : Int32)], (hM C h), 0, 0)) rfl ?_
    cases hq
    exact mB_ret odX7_isSolid rfl
  · rw [if_neg c1] at hq
    refine if_lt_F (t := 14) odX7_isSolid rfl rfl c1 ?_
    refine mB_run odX7_isSolid 2 (g := (7, [(0, .int p0)], [.int (8 : Int32), .int p0], (hM C h), 0, 0)) rfl ?_
    by_cases c2 : (8 : Int32) ≤ p0
    · rw [if_pos c2] at hq
      refine ic_ge_T (t := 14) odX7_isSolid rfl rfl c2 ?_
      refine mB_run odX7_isSolid 1 (g := (15, [(0, .int p0)], [.int (0 : Int32)], (hM C h), 0, 0)) rfl ?_
      cases hq
      exact mB_ret odX7_isSolid rfl
    · rw [if_neg c2] at hq
      refine ic_ge_F (t := 14) odX7_isSolid rfl rfl c2 ?_
      refine mB_run odX7_isSolid 2 (g := (15, [(0, .int p0)], [.int (1 : Int32)], (hM C h), 0, 0)) rfl ?_
      cases hq
      exact mB_ret odX7_isSolid rfl
def mxX7_tray_29 (N : Nat) : Nat → Int32 → Int32 → mS → Option (mS × Int32)
  | 0, _, _, _ => none
  | n + 1, x1, x3, h =>
    if (24 : Int32) ≤ x3 then (
      some (h, (1 : Int32))) else (
      (wA h 1 (((24 : Int32) * x1) + x3) (0 : Int32)).bind fun s9 =>
      (wA s9 2 (((24 : Int32) * x1) + x3) (0 : Int32)).bind fun s11 =>
      (wA s11 3 (((24 : Int32) * x1) + x3) (0 : Int32)).bind fun s13 =>
      mxX7_tray_29 N n x1 (x3 + (1 : Int32)) s13)
set_option maxHeartbeats 4000000 in
set_option maxRecDepth 100000 in
theorem emX7_tray_29 {N : Nat} {C : mh} (hC : C.length = 239) : ∀ (n : Nat) (x1 : Int32) (x3 : Int32) (h : mS) {o : (mS × Int32)}, mxX7_tray_29 N n x1 x3 h = some o → mB (gO mX7_tray (hM C o.1, some (.int o.2))) mX7_tray (29, [(0, .ref 239), (1, .int x1), (3, .int x3)], [], (hM C h), 0, 0) := by
  intro n
  induction n with
  | zero => intro x1 x3 h o hq; cases hq
  | succ n ih =>
    intro x1 x3 h o hq
    unfold mxX7_tray_29 at hq
    refine mB_run odX7_tray 2 (g := (32, [(0, .ref 239), (1, .int x1), (3, .int x3)], [.int (24 : Int32), .int x3], (hM C h), 0, 0)) rfl ?_
    by_cases c8 : (24 : Int32) ≤ x3
    · rw [if_pos c8] at hq
      refine ic_ge_T (t := 77) odX7_tray rfl rfl c8 ?_
      refine mB_run odX7_tray 1 (g := (78, [(0, .ref 239), (1, .int x1), (3, .int x3)], [.int (1 : Int32)], (hM C h), 0, 0)) rfl ?_
      cases hq
      exact mB_ret odX7_tray rfl
    · rw [if_neg c8] at hq
      refine ic_ge_F (t := 77) odX7_tray rfl rfl c8 ?_
      refine mB_run odX7_tray 1 (g := (36, [(0, .ref 239), (1, .int x1), (3, .int x3)], [.ref 239], (hM C h), 0, 0)) rfl ?_
      refine r_gR odX7_tray rfl rfl (md_1 hC) ?_
      refine mB_run odX7_tray 6 (g := (46, [(0, .ref 239), (1, .int x1), (3, .int x3)], [.int (0 : Int32), .int (((24 : Int32) * x1) + x3), .ref 241], (hM C h), 0, 0)) rfl ?_
      obtain ⟨s9, e10, hq⟩ := bsm hq
      refine r_wI odX7_tray rfl (wa_1 hC e10) ?_
      refine mB_run odX7_tray 1 (g := (48, [(0, .ref 239), (1, .int x1), (3, .int x3)], [.ref 239], (hM C s9), 0, 0)) rfl ?_
      refine r_gR odX7_tray rfl rfl (md_2 hC) ?_
      refine mB_run odX7_tray 6 (g := (58, [(0, .ref 239), (1, .int x1), (3, .int x3)], [.int (0 : Int32), .int (((24 : Int32) * x1) + x3), .ref 242], (hM C s9), 0, 0)) rfl ?_
      obtain ⟨s11, e12, hq⟩ := bsm hq
      refine r_wI odX7_tray rfl (wa_2 hC e12) ?_
      refine mB_run odX7_tray 1 (g := (60, [(0, .ref 239), (1, .int x1), (3, .int x3)], [.ref 239], (hM C s11), 0, 0)) rfl ?_
      refine r_gR odX7_tray rfl rfl (md_3 hC) ?_
      refine mB_run odX7_tray 6 (g := (70, [(0, .ref 239), (1, .int x1), (3, .int x3)], [.int (0 : Int32), .int (((24 : Int32) * x1) + x3), .ref 243], (hM C s11), 0, 0)) rfl ?_
      obtain ⟨s13, e14, hq⟩ := bsm hq
      refine r_wI odX7_tray rfl (wa_3 hC e14) ?_
      refine mB_run odX7_tray 2 (g := (29, [(3, .int (x3 + (1 : Int32))), (0, .ref 239), (1, .int x1)], [], (hM C s13), 0, 0)) rfl ?_
      refine mB_lv [1, 2, 0] (lv' := [(0, .ref 239), (1, .int x1), (3, .int (x3 + (1 : Int32)))]) rfl ?_
      exact ih _ _ _ hq
def mxX7_tray (N : Nat) (p1 : Int32) (p2 : Int32) (h : mS) : Option (mS × Int32) :=
  (mxX7_isSolid N p1 h).bind fun o1 =>
  if o1.2 = 0 then (
    some (o1.1, (0 : Int32))) else (
    if p2 < (-1 : Int32) then (
      some (o1.1, (0 : Int32))) else (
      if p2 ≤ (24 : Int32) then (
        (wA o1.1 0 p1 p2).bind fun s6 =>
        mxX7_tray_29 N N p1 (0 : Int32) s6) else (
        some (o1.1, (0 : Int32)))))
set_option maxHeartbeats 4000000 in
set_option maxRecDepth 100000 in
theorem emX7_tray {N : Nat} {C : mh} (hC : C.length = 239) {p1 : Int32} {p2 : Int32} {h : mS} {o : (mS × Int32)} (hq : mxX7_tray N p1 p2 h = some o) : mC mX7_tray [.ref 239, .int p1, .int p2] (hM C h) (hM C o.1, some (.int o.2)) := by
  refine mC_of okX7_tray (Nat.le_of_ble_eq_true rfl) ?_
  unfold mxX7_tray at hq
  show mB _ mX7_tray (0, [(0, .ref 239), (1, .int p1), (2, .int p2)], [], (hM C h), 0, 0)
  refine mB_run odX7_tray 1 (g := (1, [(0, .ref 239), (1, .int p1), (2, .int p2)], [.int p1], (hM C h), 0, 0)) rfl ?_
  obtain ⟨o1, e2, hq⟩ := bsm hq
  refine mB_S (as := [.int p1]) odX7_tray okX7_isSolid lk_7_133 rfl (emX7_isSolid hC e2) rfl rfl rfl ?_
  show mB _ mX7_tray (4, [(0, .ref 239), (1, .int p1), (2, .int p2)], [.int o1.2], (hM C o1.1), 0, 0)
  by_cases c3 : o1.2 = 0
  · rw [if_pos c3] at hq
    refine if_eq_T (t := 18) odX7_tray rfl rfl c3 ?_
    refine mB_run odX7_tray 1 (g := (19, [(0, .ref 239), (1, .int p1), (2, .int p2)], [.int (0 : Int32)], (hM C o1.1), 0, 0)) rfl ?_
    cases hq
    exact mB_ret odX7_tray rfl
  · rw [if_neg c3] at hq
    refine if_eq_F (t := 18) odX7_tray rfl rfl c3 ?_
    refine mB_run odX7_tray 2 (g := (9, [(0, .ref 239), (1, .int p1), (2, .int p2)], [.int (-1 : Int32), .int p2], (hM C o1.1), 0, 0)) rfl ?_
    by_cases c4 : p2 < (-1 : Int32)
    · rw [if_pos c4] at hq
      refine ic_lt_T (t := 18) odX7_tray rfl rfl c4 ?_
      refine mB_run odX7_tray 1 (g := (19, [(0, .ref 239), (1, .int p1), (2, .int p2)], [.int (0 : Int32)], (hM C o1.1), 0, 0)) rfl ?_
      cases hq
      exact mB_ret odX7_tray rfl
    · rw [if_neg c4] at hq
      refine ic_lt_F (t := 18) odX7_tray rfl rfl c4 ?_
      refine mB_run odX7_tray 2 (g := (15, [(0, .ref 239), (1, .int p1), (2, .int p2)], [.int (24 : Int32), .int p2], (hM C o1.1), 0, 0)) rfl ?_
      by_cases c5 : p2 ≤ (24 : Int32)
      · rw [if_pos c5] at hq
        refine ic_le_T (t := 20) odX7_tray rfl rfl c5 ?_
        refine mB_run odX7_tray 1 (g := (21, [(0, .ref 239), (1, .int p1), (2, .int p2)], [.ref 239], (hM C o1.1), 0, 0)) rfl ?_
        refine r_gR odX7_tray rfl rfl (md_0 hC) ?_
        refine mB_run odX7_tray 2 (g := (26, [(0, .ref 239), (1, .int p1), (2, .int p2)], [.int p2, .int p1, .ref 240], (hM C o1.1), 0, 0)) rfl ?_
        obtain ⟨s6, e7, hq⟩ := bsm hq
        refine r_wI odX7_tray rfl (wa_0 hC e7) ?_
        refine mB_run odX7_tray 2 (g := (29, [(3, .int (0 : Int32)), (0, .ref 239), (1, .int p1), (2, .int p2)], [], (hM C s6), 0, 0)) rfl ?_
        refine mB_lv [1, 2, 0] (lv' := [(0, .ref 239), (1, .int p1), (3, .int (0 : Int32))]) rfl ?_
        exact emX7_tray_29 hC N _ _ _ hq
      · rw [if_neg c5] at hq
        refine ic_le_F (t := 20) odX7_tray rfl rfl c5 ?_
        refine mB_run odX7_tray 1 (g := (19, [(0, .ref 239), (1, .int p1), (2, .int p2)], [.int (0 : Int32)], (hM C o1.1), 0, 0)) rfl ?_
        cases hq
        exact mB_ret odX7_tray rfl
def mxX7_point (N : Nat) (p1 : Int32) (p2 : Int32) (p3 : Int32) (p4 : Int32) (p5 : Int32) (h : mS) : Option (mS × Int32) :=
  (mxX7_isSolid N p1 h).bind fun o1 =>
  if o1.2 = 0 then (
    some (o1.1, (0 : Int32))) else (
    if p2 < 0 then (
      some (o1.1, (0 : Int32))) else (
      (rA o1.1 0 p1).bind fun v5 =>
      if v5 ≤ p2 then (
        some (o1.1, (0 : Int32))) else (
        (mxX7_isPoint N p3.toInt64 p4.toInt64 p5.toInt64 o1.1).bind fun o8 =>
        if o8.2 = 0 then (
          some (o8.1, (0 : Int32))) else (
          (wA o8.1 1 (((24 : Int32) * p1) + p2) p3).bind fun s11 =>
          (wA s11 2 (((24 : Int32) * p1) + p2) p4).bind fun s13 =>
          (wA s13 3 (((24 : Int32) * p1) + p2) p5).bind fun s15 =>
          some (s15, (1 : Int32))))))
set_option maxHeartbeats 4000000 in
set_option maxRecDepth 100000 in
theorem emX7_point {N : Nat} {C : mh} (hC : C.length = 239) {p1 : Int32} {p2 : Int32} {p3 : Int32} {p4 : Int32} {p5 : Int32} {h : mS} {o : (mS × Int32)} (hq : mxX7_point N p1 p2 p3 p4 p5 h = some o) : mC mX7_point [.ref 239, .int p1, .int p2, .int p3, .int p4, .int p5] (hM C h) (hM C o.1, some (.int o.2)) := by
  refine mC_of okX7_point (Nat.le_of_ble_eq_true rfl) ?_
  unfold mxX7_point at hq
  show mB _ mX7_point (0, [(0, .ref 239), (1, .int p1), (2, .int p2), (3, .int p3), (4, .int p4), (5, .int p5)], [], (hM C h), 0, 0)
  refine mB_run odX7_point 1 (g := (1, [(0, .ref 239), (1, .int p1), (2, .int p2), (3, .int p3), (4, .int p4), (5, .int p5)], [.int p1], (hM C h), 0, 0)) rfl ?_
  obtain ⟨o1, e2, hq⟩ := bsm hq
  refine mB_S (as := [.int p1]) odX7_point okX7_isSolid lk_7_133 rfl (emX7_isSolid hC e2) rfl rfl rfl ?_
  show mB _ mX7_point (4, [(0, .ref 239), (1, .int p1), (2, .int p2), (3, .int p3), (4, .int p4), (5, .int p5)], [.int o1.2], (hM C o1.1), 0, 0)
  by_cases c3 : o1.2 = 0
  · rw [if_pos c3] at hq
    refine if_eq_T (t := 35) odX7_point rfl rfl c3 ?_
    refine mB_run odX7_point 1 (g := (36, [(0, .ref 239), (1, .int p1), (2, .int p2), (3, .int p3), (4, .int p4), (5, .int p5)], [.int (0 : Int32)], (hM C o1.1), 0, 0)) rfl ?_
    cases hq
    exact mB_ret odX7_point rfl
  · rw [if_neg c3] at hq
    refine if_eq_F (t := 35) odX7_point rfl rfl c3 ?_
    refine mB_run odX7_point 1 (g := (8, [(0, .ref 239), (1, .int p1), (2, .int p2), (3, .int p3), (4, .int p4), (5, .int p5)], [.int p2], (hM C o1.1), 0, 0)) rfl ?_
    by_cases c4 : p2 < 0
    · rw [if_pos c4] at hq
      refine if_lt_T (t := 35) odX7_point rfl rfl c4 ?_
      refine mB_run odX7_point 1 (g := (36, [(0, .ref 239), (1, .int p1), (2, .int p2), (3, .int p3), (4, .int p4), (5, .int p5)], [.int (0 : Int32)], (hM C o1.1), 0, 0)) rfl ?_
      cases hq
      exact mB_ret odX7_point rfl
    · rw [if_neg c4] at hq
      refine if_lt_F (t := 35) odX7_point rfl rfl c4 ?_
      refine mB_run odX7_point 2 (g := (13, [(0, .ref 239), (1, .int p1), (2, .int p2), (3, .int p3), (4, .int p4), (5, .int p5)], [.ref 239, .int p2], (hM C o1.1), 0, 0)) rfl ?_
      refine r_gR odX7_point rfl rfl (md_0 hC) ?_
      refine mB_run odX7_point 1 (g := (17, [(0, .ref 239), (1, .int p1), (2, .int p2), (3, .int p3), (4, .int p4), (5, .int p5)], [.int p1, .ref 240, .int p2], (hM C o1.1), 0, 0)) rfl ?_
      obtain ⟨v5, e6, hq⟩ := bsm hq
      refine r_aI odX7_point rfl (ra_0 hC e6) ?_
      by_cases c7 : v5 ≤ p2
      · rw [if_pos c7] at hq
        refine ic_ge_T (t := 35) odX7_point rfl rfl c7 ?_
        refine mB_run odX7_point 1 (g := (36, [(0, .ref 239), (1, .int p1), (2, .int p2), (3, .int p3), (4, .int p4), (5, .int p5)], [.int (0 : Int32)], (hM C o1.1), 0, 0)) rfl ?_
        cases hq
        exact mB_ret odX7_point rfl
      · rw [if_neg c7] at hq
        refine ic_ge_F (t := 35) odX7_point rfl rfl c7 ?_
        refine mB_run odX7_point 6 (g := (29, [(0, .ref 239), (1, .int p1), (2, .int p2), (3, .int p3), (4, .int p4), (5, .int p5)], [.long p5.toInt64, .long p4.toInt64, .long p3.toInt64], (hM C o1.1), 0, 0)) rfl ?_
        obtain ⟨o8, e9, hq⟩ := bsm hq
        refine mB_S (as := [.long p3.toInt64, .long p4.toInt64, .long p5.toInt64]) odX7_point okX7_isPoint lk_7_137 rfl (emX7_isPoint hC e9) rfl rfl rfl ?_
        show mB _ mX7_point (32, [(0, .ref 239), (1, .int p1), (2, .int p2), (3, .int p3), (4, .int p4), (5, .int p5)], [.int o8.2], (hM C o8.1), 0, 0)
        by_cases c10 : o8.2 = 0
        · rw [if_pos c10] at hq
          refine if_ne_F (t := 37) odX7_point rfl rfl c10 ?_
          refine mB_run odX7_point 1 (g := (36, [(0, .ref 239), (1, .int p1), (2, .int p2), (3, .int p3), (4, .int p4), (5, .int p5)], [.int (0 : Int32)], (hM C o8.1), 0, 0)) rfl ?_
          cases hq
          exact mB_ret odX7_point rfl
        · rw [if_neg c10] at hq
          refine if_ne_T (t := 37) odX7_point rfl rfl c10 ?_
          refine mB_run odX7_point 1 (g := (38, [(0, .ref 239), (1, .int p1), (2, .int p2), (3, .int p3), (4, .int p4), (5, .int p5)], [.ref 239], (hM C o8.1), 0, 0)) rfl ?_
          refine r_gR odX7_point rfl rfl (md_1 hC) ?_
          refine mB_run odX7_point 6 (g := (48, [(0, .ref 239), (1, .int p1), (2, .int p2), (3, .int p3), (4, .int p4), (5, .int p5)], [.int p3, .int (((24 : Int32) * p1) + p2), .ref 241], (hM C o8.1), 0, 0)) rfl ?_
          obtain ⟨s11, e12, hq⟩ := bsm hq
          refine r_wI odX7_point rfl (wa_1 hC e12) ?_
          refine mB_run odX7_point 1 (g := (50, [(0, .ref 239), (1, .int p1), (2, .int p2), (3, .int p3), (4, .int p4), (5, .int p5)], [.ref 239], (hM C s11), 0, 0)) rfl ?_
          refine r_gR odX7_point rfl rfl (md_2 hC) ?_
          refine mB_run odX7_point 6 (g := (61, [(0, .ref 239), (1, .int p1), (2, .int p2), (3, .int p3), (4, .int p4), (5, .int p5)], [.int p4, .int (((24 : Int32) * p1) + p2), .ref 242], (hM C s11), 0, 0)) rfl ?_
          obtain ⟨s13, e14, hq⟩ := bsm hq
          refine r_wI odX7_point rfl (wa_2 hC e14) ?_
          refine mB_run odX7_point 1 (g := (63, [(0, .ref 239), (1, .int p1), (2, .int p2), (3, .int p3), (4, .int p4), (5, .int p5)], [.ref 239], (hM C s13), 0, 0)) rfl ?_
          refine r_gR odX7_point rfl rfl (md_3 hC) ?_
          refine mB_run odX7_point 6 (g := (74, [(0, .ref 239), (1, .int p1), (2, .int p2), (3, .int p3), (4, .int p4), (5, .int p5)], [.int p5, .int (((24 : Int32) * p1) + p2), .ref 243], (hM C s13), 0, 0)) rfl ?_
          obtain ⟨s15, e16, hq⟩ := bsm hq
          refine r_wI odX7_point rfl (wa_3 hC e16) ?_
          refine mB_run odX7_point 1 (g := (76, [(0, .ref 239), (1, .int p1), (2, .int p2), (3, .int p3), (4, .int p4), (5, .int p5)], [.int (1 : Int32)], (hM C s15), 0, 0)) rfl ?_
          cases hq
          exact mB_ret odX7_point rfl
def mxX7_keeps_178 (N : Nat) : Nat → Int32 → mS → Option mS
  | 0, _, _ => none
  | n + 1, x1, h =>
    if (192 : Int32) ≤ x1 then (
      (some (pI h 9 ((h.1 9) + (1 : Int32)))).bind fun s12 =>
      some s12) else (
      (rA h 6 x1).bind fun v14 =>
      (wA h 12 (((192 : Int32) * (h.1 9)) + x1) v14).bind fun s16 =>
      (rA s16 7 x1).bind fun v18 =>
      (wA s16 13 (((192 : Int32) * (s16.1 9)) + x1) v18).bind fun s20 =>
      (rA s20 8 x1).bind fun v22 =>
      (wA s20 14 (((192 : Int32) * (s20.1 9)) + x1) v22).bind fun s24 =>
      mxX7_keeps_178 N n (x1 + (1 : Int32)) s24)
set_option maxHeartbeats 4000000 in
set_option maxRecDepth 100000 in
theorem emX7_keeps_178 {N : Nat} {C : mh} (hC : C.length = 239) : ∀ (n : Nat) (x1 : Int32) (h : mS) {o : mS}, mxX7_keeps_178 N n x1 h = some o → mB (gO mX7_keeps (hM C o, none)) mX7_keeps (178, [(0, .ref 239), (1, .int x1)], [], (hM C h), 0, 0) := by
  intro n
  induction n with
  | zero => intro x1 h o hq; cases hq
  | succ n ih =>
    intro x1 h o hq
    unfold mxX7_keeps_178 at hq
    refine mB_run odX7_keeps 2 (g := (182, [(0, .ref 239), (1, .int x1)], [.int (192 : Int32), .int x1], (hM C h), 0, 0)) rfl ?_
    by_cases c11 : (192 : Int32) ≤ x1
    · rw [if_pos c11] at hq
      refine ic_ge_T (t := 254) odX7_keeps rfl rfl c11 ?_
      refine mB_run odX7_keeps 2 (g := (256, [(0, .ref 239), (1, .int x1)], [.ref 239, .ref 239], (hM C h), 0, 0)) rfl ?_
      refine r_gI odX7_keeps rfl rfl (md_9 hC) ?_
      refine mB_run odX7_keeps 2 (g := (261, [(0, .ref 239), (1, .int x1)], [.int ((h.1 9) + (1 : Int32)), .ref 239], (hM C h), 0, 0)) rfl ?_
      obtain ⟨s12, e13, hq⟩ := bsm hq
      refine r_sV odX7_keeps rfl rfl rfl rfl (pt_9 hC e13) ?_
      cases hq
      exact mB_ret odX7_keeps rfl
    · rw [if_neg c11] at hq
      refine ic_ge_F (t := 254) odX7_keeps rfl rfl c11 ?_
      refine mB_run odX7_keeps 1 (g := (186, [(0, .ref 239), (1, .int x1)], [.ref 239], (hM C h), 0, 0)) rfl ?_
      refine r_gR odX7_keeps rfl rfl (md_12 hC) ?_
      refine mB_run odX7_keeps 2 (g := (193, [(0, .ref 239), (1, .int x1)], [.ref 239, .int (192 : Int32), .ref 251], (hM C h), 0, 0)) rfl ?_
      refine r_gI odX7_keeps rfl rfl (md_9 hC) ?_
      refine mB_run odX7_keeps 4 (g := (200, [(0, .ref 239), (1, .int x1)], [.ref 239, .int (((192 : Int32) * (h.1 9)) + x1), .ref 251], (hM C h), 0, 0)) rfl ?_
      refine r_gR odX7_keeps rfl rfl (md_6 hC) ?_
      refine mB_run odX7_keeps 1 (g := (204, [(0, .ref 239), (1, .int x1)], [.int x1, .ref 246, .int (((192 : Int32) * (h.1 9)) + x1), .ref 251], (hM C h), 0, 0)) rfl ?_
      obtain ⟨v14, e15, hq⟩ := bsm hq
      refine r_aI odX7_keeps rfl (ra_6 hC e15) ?_
      obtain ⟨s16, e17, hq⟩ := bsm hq
      refine r_wI odX7_keeps rfl (wa_12 hC e17) ?_
      refine mB_run odX7_keeps 1 (g := (207, [(0, .ref 239), (1, .int x1)], [.ref 239], (hM C s16), 0, 0)) rfl ?_
      refine r_gR odX7_keeps rfl rfl (md_13 hC) ?_
      refine mB_run odX7_keeps 2 (g := (214, [(0, .ref 239), (1, .int x1)], [.ref 239, .int (192 : Int32), .ref 252], (hM C s16), 0, 0)) rfl ?_
      refine r_gI odX7_keeps rfl rfl (md_9 hC) ?_
      refine mB_run odX7_keeps 4 (g := (221, [(0, .ref 239), (1, .int x1)], [.ref 239, .int (((192 : Int32) * (s16.1 9)) + x1), .ref 252], (hM C s16), 0, 0)) rfl ?_
      refine r_gR odX7_keeps rfl rfl (md_7 hC) ?_
      refine mB_run odX7_keeps 1 (g := (225, [(0, .ref 239), (1, .int x1)], [.int x1, .ref 247, .int (((192 : Int32) * (s16.1 9)) + x1), .ref 252], (hM C s16), 0, 0)) rfl ?_
      obtain ⟨v18, e19, hq⟩ := bsm hq
      refine r_aI odX7_keeps rfl (ra_7 hC e19) ?_
      obtain ⟨s20, e21, hq⟩ := bsm hq
      refine r_wI odX7_keeps rfl (wa_13 hC e21) ?_
      refine mB_run odX7_keeps 1 (g := (228, [(0, .ref 239), (1, .int x1)], [.ref 239], (hM C s20), 0, 0)) rfl ?_
      refine r_gR odX7_keeps rfl rfl (md_14 hC) ?_
      refine mB_run odX7_keeps 2 (g := (235, [(0, .ref 239), (1, .int x1)], [.ref 239, .int (192 : Int32), .ref 253], (hM C s20), 0, 0)) rfl ?_
      refine r_gI odX7_keeps rfl rfl (md_9 hC) ?_
      refine mB_run odX7_keeps 4 (g := (242, [(0, .ref 239), (1, .int x1)], [.ref 239, .int (((192 : Int32) * (s20.1 9)) + x1), .ref 253], (hM C s20), 0, 0)) rfl ?_
      refine r_gR odX7_keeps rfl rfl (md_8 hC) ?_
      refine mB_run odX7_keeps 1 (g := (246, [(0, .ref 239), (1, .int x1)], [.int x1, .ref 248, .int (((192 : Int32) * (s20.1 9)) + x1), .ref 253], (hM C s20), 0, 0)) rfl ?_
      obtain ⟨v22, e23, hq⟩ := bsm hq
      refine r_aI odX7_keeps rfl (ra_8 hC e23) ?_
      obtain ⟨s24, e25, hq⟩ := bsm hq
      refine r_wI odX7_keeps rfl (wa_14 hC e25) ?_
      refine mB_run odX7_keeps 2 (g := (178, [(1, .int (x1 + (1 : Int32))), (0, .ref 239)], [], (hM C s24), 0, 0)) rfl ?_
      refine mB_lv [1, 0] (lv' := [(0, .ref 239), (1, .int (x1 + (1 : Int32)))]) rfl ?_
      exact ih _ _ hq
def mxX7_keeps_124 (N : Nat) : Nat → Int32 → mS → Option mS
  | 0, _, _ => none
  | n + 1, x1, h =>
    if (8 : Int32) ≤ x1 then (
      mxX7_keeps_178 N N (0 : Int32) h) else (
      (rA h 4 x1).bind fun v3 =>
      (wA h 10 (((8 : Int32) * (h.1 9)) + x1) v3).bind fun s5 =>
      (rA s5 5 x1).bind fun v7 =>
      (wA s5 11 (((8 : Int32) * (s5.1 9)) + x1) v7).bind fun s9 =>
      mxX7_keeps_124 N n (x1 + (1 : Int32)) s9)
set_option maxHeartbeats 4000000 in
set_option maxRecDepth 100000 in
theorem emX7_keeps_124 {N : Nat} {C : mh} (hC : C.length = 239) : ∀ (n : Nat) (x1 : Int32) (h : mS) {o : mS}, mxX7_keeps_124 N n x1 h = some o → mB (gO mX7_keeps (hM C o, none)) mX7_keeps (124, [(0, .ref 239), (1, .int x1)], [], (hM C h), 0, 0) := by
  intro n
  induction n with
  | zero => intro x1 h o hq; cases hq
  | succ n ih =>
    intro x1 h o hq
    unfold mxX7_keeps_124 at hq
    refine mB_run odX7_keeps 2 (g := (127, [(0, .ref 239), (1, .int x1)], [.int (8 : Int32), .int x1], (hM C h), 0, 0)) rfl ?_
    by_cases c2 : (8 : Int32) ≤ x1
    · rw [if_pos c2] at hq
      refine ic_ge_T (t := 176) odX7_keeps rfl rfl c2 ?_
      refine mB_run odX7_keeps 2 (g := (178, [(1, .int (0 : Int32)), (0, .ref 239)], [], (hM C h), 0, 0)) rfl ?_
      refine mB_lv [1, 0] (lv' := [(0, .ref 239), (1, .int (0 : Int32))]) rfl ?_
      exact emX7_keeps_178 hC N _ _ hq
    · rw [if_neg c2] at hq
      refine ic_ge_F (t := 176) odX7_keeps rfl rfl c2 ?_
      refine mB_run odX7_keeps 1 (g := (131, [(0, .ref 239), (1, .int x1)], [.ref 239], (hM C h), 0, 0)) rfl ?_
      refine r_gR odX7_keeps rfl rfl (md_10 hC) ?_
      refine mB_run odX7_keeps 2 (g := (137, [(0, .ref 239), (1, .int x1)], [.ref 239, .int (8 : Int32), .ref 249], (hM C h), 0, 0)) rfl ?_
      refine r_gI odX7_keeps rfl rfl (md_9 hC) ?_
      refine mB_run odX7_keeps 4 (g := (144, [(0, .ref 239), (1, .int x1)], [.ref 239, .int (((8 : Int32) * (h.1 9)) + x1), .ref 249], (hM C h), 0, 0)) rfl ?_
      refine r_gR odX7_keeps rfl rfl (md_4 hC) ?_
      refine mB_run odX7_keeps 1 (g := (148, [(0, .ref 239), (1, .int x1)], [.int x1, .ref 244, .int (((8 : Int32) * (h.1 9)) + x1), .ref 249], (hM C h), 0, 0)) rfl ?_
      obtain ⟨v3, e4, hq⟩ := bsm hq
      refine r_aI odX7_keeps rfl (ra_4 hC e4) ?_
      obtain ⟨s5, e6, hq⟩ := bsm hq
      refine r_wI odX7_keeps rfl (wa_10 hC e6) ?_
      refine mB_run odX7_keeps 1 (g := (151, [(0, .ref 239), (1, .int x1)], [.ref 239], (hM C s5), 0, 0)) rfl ?_
      refine r_gR odX7_keeps rfl rfl (md_11 hC) ?_
      refine mB_run odX7_keeps 2 (g := (157, [(0, .ref 239), (1, .int x1)], [.ref 239, .int (8 : Int32), .ref 250], (hM C s5), 0, 0)) rfl ?_
      refine r_gI odX7_keeps rfl rfl (md_9 hC) ?_
      refine mB_run odX7_keeps 4 (g := (164, [(0, .ref 239), (1, .int x1)], [.ref 239, .int (((8 : Int32) * (s5.1 9)) + x1), .ref 250], (hM C s5), 0, 0)) rfl ?_
      refine r_gR odX7_keeps rfl rfl (md_5 hC) ?_
      refine mB_run odX7_keeps 1 (g := (168, [(0, .ref 239), (1, .int x1)], [.int x1, .ref 245, .int (((8 : Int32) * (s5.1 9)) + x1), .ref 250], (hM C s5), 0, 0)) rfl ?_
      obtain ⟨v7, e8, hq⟩ := bsm hq
      refine r_aI odX7_keeps rfl (ra_5 hC e8) ?_
      obtain ⟨s9, e10, hq⟩ := bsm hq
      refine r_wI odX7_keeps rfl (wa_11 hC e10) ?_
      refine mB_run odX7_keeps 2 (g := (124, [(1, .int (x1 + (1 : Int32))), (0, .ref 239)], [], (hM C s9), 0, 0)) rfl ?_
      refine mB_lv [1, 0] (lv' := [(0, .ref 239), (1, .int (x1 + (1 : Int32)))]) rfl ?_
      exact ih _ _ hq
def mxX7_keeps_122 (N : Nat)  (h : mS) : Option mS :=
  mxX7_keeps_124 N N (0 : Int32) h
set_option maxHeartbeats 4000000 in
set_option maxRecDepth 100000 in
theorem emX7_keeps_122 {N : Nat} {C : mh} (hC : C.length = 239)  (h : mS) {o : mS} (hq : mxX7_keeps_122 N  h = some o) : mB (gO mX7_keeps (hM C o, none)) mX7_keeps (122, [(0, .ref 239)], [], (hM C h), 0, 0) := by
  unfold mxX7_keeps_122 at hq
  refine mB_run odX7_keeps 2 (g := (124, [(1, .int (0 : Int32)), (0, .ref 239)], [], (hM C h), 0, 0)) rfl ?_
  refine mB_lv [1, 0] (lv' := [(0, .ref 239), (1, .int (0 : Int32))]) rfl ?_
  exact emX7_keeps_124 hC N _ _ hq
def mxX7_keeps_55 (N : Nat) : Nat → Int32 → mS → Option mS
  | 0, _, _ => none
  | n + 1, x1, h =>
    if (1344 : Int32) ≤ x1 then (
      (some (pI h 9 (7 : Int32))).bind fun s36 =>
      mxX7_keeps_122 N  s36) else (
      (rA h 12 (x1 + (192 : Int32))).bind fun v38 =>
      (wA h 12 x1 v38).bind fun s40 =>
      (rA s40 13 (x1 + (192 : Int32))).bind fun v42 =>
      (wA s40 13 x1 v42).bind fun s44 =>
      (rA s44 14 (x1 + (192 : Int32))).bind fun v46 =>
      (wA s44 14 x1 v46).bind fun s48 =>
      mxX7_keeps_55 N n (x1 + (1 : Int32)) s48)
set_option maxHeartbeats 4000000 in
set_option maxRecDepth 100000 in
theorem emX7_keeps_55 {N : Nat} {C : mh} (hC : C.length = 239) : ∀ (n : Nat) (x1 : Int32) (h : mS) {o : mS}, mxX7_keeps_55 N n x1 h = some o → mB (gO mX7_keeps (hM C o, none)) mX7_keeps (55, [(0, .ref 239), (1, .int x1)], [], (hM C h), 0, 0) := by
  intro n
  induction n with
  | zero => intro x1 h o hq; cases hq
  | succ n ih =>
    intro x1 h o hq
    unfold mxX7_keeps_55 at hq
    refine mB_run odX7_keeps 2 (g := (59, [(0, .ref 239), (1, .int x1)], [.int (1344 : Int32), .int x1], (hM C h), 0, 0)) rfl ?_
    by_cases c35 : (1344 : Int32) ≤ x1
    · rw [if_pos c35] at hq
      refine ic_ge_T (t := 116) odX7_keeps rfl rfl c35 ?_
      refine mB_run odX7_keeps 2 (g := (119, [(0, .ref 239), (1, .int x1)], [.int (7 : Int32), .ref 239], (hM C h), 0, 0)) rfl ?_
      obtain ⟨s36, e37, hq⟩ := bsm hq
      refine r_sV odX7_keeps rfl rfl rfl rfl (pt_9 hC e37) ?_
      refine mB_lv [0] (lv' := [(0, .ref 239)]) rfl ?_
      exact emX7_keeps_122 hC _ hq
    · rw [if_neg c35] at hq
      refine ic_ge_F (t := 116) odX7_keeps rfl rfl c35 ?_
      refine mB_run odX7_keeps 1 (g := (63, [(0, .ref 239), (1, .int x1)], [.ref 239], (hM C h), 0, 0)) rfl ?_
      refine r_gR odX7_keeps rfl rfl (md_12 hC) ?_
      refine mB_run odX7_keeps 2 (g := (68, [(0, .ref 239), (1, .int x1)], [.ref 239, .int x1, .ref 251], (hM C h), 0, 0)) rfl ?_
      refine r_gR odX7_keeps rfl rfl (md_12 hC) ?_
      refine mB_run odX7_keeps 3 (g := (76, [(0, .ref 239), (1, .int x1)], [.int (x1 + (192 : Int32)), .ref 251, .int x1, .ref 251], (hM C h), 0, 0)) rfl ?_
      obtain ⟨v38, e39, hq⟩ := bsm hq
      refine r_aI odX7_keeps rfl (ra_12 hC e39) ?_
      obtain ⟨s40, e41, hq⟩ := bsm hq
      refine r_wI odX7_keeps rfl (wa_12 hC e41) ?_
      refine mB_run odX7_keeps 1 (g := (79, [(0, .ref 239), (1, .int x1)], [.ref 239], (hM C s40), 0, 0)) rfl ?_
      refine r_gR odX7_keeps rfl rfl (md_13 hC) ?_
      refine mB_run odX7_keeps 2 (g := (84, [(0, .ref 239), (1, .int x1)], [.ref 239, .int x1, .ref 252], (hM C s40), 0, 0)) rfl ?_
      refine r_gR odX7_keeps rfl rfl (md_13 hC) ?_
      refine mB_run odX7_keeps 3 (g := (92, [(0, .ref 239), (1, .int x1)], [.int (x1 + (192 : Int32)), .ref 252, .int x1, .ref 252], (hM C s40), 0, 0)) rfl ?_
      obtain ⟨v42, e43, hq⟩ := bsm hq
      refine r_aI odX7_keeps rfl (ra_13 hC e43) ?_
      obtain ⟨s44, e45, hq⟩ := bsm hq
      refine r_wI odX7_keeps rfl (wa_13 hC e45) ?_
      refine mB_run odX7_keeps 1 (g := (95, [(0, .ref 239), (1, .int x1)], [.ref 239], (hM C s44), 0, 0)) rfl ?_
      refine r_gR odX7_keeps rfl rfl (md_14 hC) ?_
      refine mB_run odX7_keeps 2 (g := (100, [(0, .ref 239), (1, .int x1)], [.ref 239, .int x1, .ref 253], (hM C s44), 0, 0)) rfl ?_
      refine r_gR odX7_keeps rfl rfl (md_14 hC) ?_
      refine mB_run odX7_keeps 3 (g := (108, [(0, .ref 239), (1, .int x1)], [.int (x1 + (192 : Int32)), .ref 253, .int x1, .ref 253], (hM C s44), 0, 0)) rfl ?_
      obtain ⟨v46, e47, hq⟩ := bsm hq
      refine r_aI odX7_keeps rfl (ra_14 hC e47) ?_
      obtain ⟨s48, e49, hq⟩ := bsm hq
      refine r_wI odX7_keeps rfl (wa_14 hC e49) ?_
      refine mB_run odX7_keeps 2 (g := (55, [(1, .int (x1 + (1 : Int32))), (0, .ref 239)], [], (hM C s48), 0, 0)) rfl ?_
      refine mB_lv [1, 0] (lv' := [(0, .ref 239), (1, .int (x1 + (1 : Int32)))]) rfl ?_
      exact ih _ _ hq
def mxX7_keeps_11 (N : Nat) : Nat → Int32 → mS → Option mS
  | 0, _, _ => none
  | n + 1, x1, h =>
    if (56 : Int32) ≤ x1 then (
      mxX7_keeps_55 N N (0 : Int32) h) else (
      (rA h 10 (x1 + (8 : Int32))).bind fun v27 =>
      (wA h 10 x1 v27).bind fun s29 =>
      (rA s29 11 (x1 + (8 : Int32))).bind fun v31 =>
      (wA s29 11 x1 v31).bind fun s33 =>
      mxX7_keeps_11 N n (x1 + (1 : Int32)) s33)
set_option maxHeartbeats 4000000 in
set_option maxRecDepth 100000 in
theorem emX7_keeps_11 {N : Nat} {C : mh} (hC : C.length = 239) : ∀ (n : Nat) (x1 : Int32) (h : mS) {o : mS}, mxX7_keeps_11 N n x1 h = some o → mB (gO mX7_keeps (hM C o, none)) mX7_keeps (11, [(0, .ref 239), (1, .int x1)], [], (hM C h), 0, 0) := by
  intro n
  induction n with
  | zero => intro x1 h o hq; cases hq
  | succ n ih =>
    intro x1 h o hq
    unfold mxX7_keeps_11 at hq
    refine mB_run odX7_keeps 2 (g := (14, [(0, .ref 239), (1, .int x1)], [.int (56 : Int32), .int x1], (hM C h), 0, 0)) rfl ?_
    by_cases c26 : (56 : Int32) ≤ x1
    · rw [if_pos c26] at hq
      refine ic_ge_T (t := 53) odX7_keeps rfl rfl c26 ?_
      refine mB_run odX7_keeps 2 (g := (55, [(1, .int (0 : Int32)), (0, .ref 239)], [], (hM C h), 0, 0)) rfl ?_
      refine mB_lv [1, 0] (lv' := [(0, .ref 239), (1, .int (0 : Int32))]) rfl ?_
      exact emX7_keeps_55 hC N _ _ hq
    · rw [if_neg c26] at hq
      refine ic_ge_F (t := 53) odX7_keeps rfl rfl c26 ?_
      refine mB_run odX7_keeps 1 (g := (18, [(0, .ref 239), (1, .int x1)], [.ref 239], (hM C h), 0, 0)) rfl ?_
      refine r_gR odX7_keeps rfl rfl (md_10 hC) ?_
      refine mB_run odX7_keeps 2 (g := (23, [(0, .ref 239), (1, .int x1)], [.ref 239, .int x1, .ref 249], (hM C h), 0, 0)) rfl ?_
      refine r_gR odX7_keeps rfl rfl (md_10 hC) ?_
      refine mB_run odX7_keeps 3 (g := (30, [(0, .ref 239), (1, .int x1)], [.int (x1 + (8 : Int32)), .ref 249, .int x1, .ref 249], (hM C h), 0, 0)) rfl ?_
      obtain ⟨v27, e28, hq⟩ := bsm hq
      refine r_aI odX7_keeps rfl (ra_10 hC e28) ?_
      obtain ⟨s29, e30, hq⟩ := bsm hq
      refine r_wI odX7_keeps rfl (wa_10 hC e30) ?_
      refine mB_run odX7_keeps 1 (g := (33, [(0, .ref 239), (1, .int x1)], [.ref 239], (hM C s29), 0, 0)) rfl ?_
      refine r_gR odX7_keeps rfl rfl (md_11 hC) ?_
      refine mB_run odX7_keeps 2 (g := (38, [(0, .ref 239), (1, .int x1)], [.ref 239, .int x1, .ref 250], (hM C s29), 0, 0)) rfl ?_
      refine r_gR odX7_keeps rfl rfl (md_11 hC) ?_
      refine mB_run odX7_keeps 3 (g := (45, [(0, .ref 239), (1, .int x1)], [.int (x1 + (8 : Int32)), .ref 250, .int x1, .ref 250], (hM C s29), 0, 0)) rfl ?_
      obtain ⟨v31, e32, hq⟩ := bsm hq
      refine r_aI odX7_keeps rfl (ra_11 hC e32) ?_
      obtain ⟨s33, e34, hq⟩ := bsm hq
      refine r_wI odX7_keeps rfl (wa_11 hC e34) ?_
      refine mB_run odX7_keeps 2 (g := (11, [(1, .int (x1 + (1 : Int32))), (0, .ref 239)], [], (hM C s33), 0, 0)) rfl ?_
      refine mB_lv [1, 0] (lv' := [(0, .ref 239), (1, .int (x1 + (1 : Int32)))]) rfl ?_
      exact ih _ _ hq
def mxX7_keeps (N : Nat)  (h : mS) : Option mS :=
  if (h.1 9) = (8 : Int32) then (
    mxX7_keeps_11 N N (0 : Int32) h) else (
    mxX7_keeps_122 N  h)
set_option maxHeartbeats 4000000 in
set_option maxRecDepth 100000 in
theorem emX7_keeps {N : Nat} {C : mh} (hC : C.length = 239)  {h : mS} {o : mS} (hq : mxX7_keeps N  h = some o) : mC mX7_keeps [.ref 239] (hM C h) (hM C o, none) := by
  refine mC_of okX7_keeps (Nat.le_of_ble_eq_true rfl) ?_
  unfold mxX7_keeps at hq
  show mB _ mX7_keeps (0, [(0, .ref 239)], [], (hM C h), 0, 0)
  refine mB_run odX7_keeps 1 (g := (1, [(0, .ref 239)], [.ref 239], (hM C h), 0, 0)) rfl ?_
  refine r_gI odX7_keeps rfl rfl (md_9 hC) ?_
  refine mB_run odX7_keeps 1 (g := (6, [(0, .ref 239)], [.int (8 : Int32), .int (h.1 9)], (hM C h), 0, 0)) rfl ?_
  by_cases c1 : (h.1 9) = (8 : Int32)
  · rw [if_pos c1] at hq
    refine ic_ne_F (t := 122) odX7_keeps rfl rfl c1 ?_
    refine mB_run odX7_keeps 2 (g := (11, [(1, .int (0 : Int32)), (0, .ref 239)], [], (hM C h), 0, 0)) rfl ?_
    refine mB_lv [1, 0] (lv' := [(0, .ref 239), (1, .int (0 : Int32))]) rfl ?_
    exact emX7_keeps_11 hC N _ _ hq
  · rw [if_neg c1] at hq
    refine ic_ne_T (t := 122) odX7_keeps rfl rfl c1 ?_
    refine mB_lv [0] (lv' := [(0, .ref 239)]) rfl ?_
    exact emX7_keeps_122 hC _ hq
def mxX7_undo_75 (N : Nat) : Nat → Int32 → mS → Option (mS × Int32)
  | 0, _, _ => none
  | n + 1, x1, h =>
    if (192 : Int32) ≤ x1 then (
      some (h, (h.1 9))) else (
      (rA h 12 (((192 : Int32) * (h.1 9)) + x1)).bind fun v14 =>
      (wA h 6 x1 v14).bind fun s16 =>
      (rA s16 13 (((192 : Int32) * (s16.1 9)) + x1)).bind fun v18 =>
      (wA s16 7 x1 v18).bind fun s20 =>
      (rA s20 14 (((192 : Int32) * (s20.1 9)) + x1)).bind fun v22 =>
      (wA s20 8 x1 v22).bind fun s24 =>
      mxX7_undo_75 N n (x1 + (1 : Int32)) s24)
set_option maxHeartbeats 4000000 in
set_option maxRecDepth 100000 in
theorem emX7_undo_75 {N : Nat} {C : mh} (hC : C.length = 239) : ∀ (n : Nat) (x1 : Int32) (h : mS) {o : (mS × Int32)}, mxX7_undo_75 N n x1 h = some o → mB (gO mX7_undo (hM C o.1, some (.int o.2))) mX7_undo (75, [(0, .ref 239), (1, .int x1)], [], (hM C h), 0, 0) := by
  intro n
  induction n with
  | zero => intro x1 h o hq; cases hq
  | succ n ih =>
    intro x1 h o hq
    unfold mxX7_undo_75 at hq
    refine mB_run odX7_undo 2 (g := (79, [(0, .ref 239), (1, .int x1)], [.int (192 : Int32), .int x1], (hM C h), 0, 0)) rfl ?_
    by_cases c13 : (192 : Int32) ≤ x1
    · rw [if_pos c13] at hq
      refine ic_ge_T (t := 151) odX7_undo rfl rfl c13 ?_
      refine mB_run odX7_undo 1 (g := (152, [(0, .ref 239), (1, .int x1)], [.ref 239], (hM C h), 0, 0)) rfl ?_
      refine r_gI odX7_undo rfl rfl (md_9 hC) ?_
      cases hq
      exact mB_ret odX7_undo rfl
    · rw [if_neg c13] at hq
      refine ic_ge_F (t := 151) odX7_undo rfl rfl c13 ?_
      refine mB_run odX7_undo 1 (g := (83, [(0, .ref 239), (1, .int x1)], [.ref 239], (hM C h), 0, 0)) rfl ?_
      refine r_gR odX7_undo rfl rfl (md_6 hC) ?_
      refine mB_run odX7_undo 2 (g := (88, [(0, .ref 239), (1, .int x1)], [.ref 239, .int x1, .ref 246], (hM C h), 0, 0)) rfl ?_
      refine r_gR odX7_undo rfl rfl (md_12 hC) ?_
      refine mB_run odX7_undo 2 (g := (95, [(0, .ref 239), (1, .int x1)], [.ref 239, .int (192 : Int32), .ref 251, .int x1, .ref 246], (hM C h), 0, 0)) rfl ?_
      refine r_gI odX7_undo rfl rfl (md_9 hC) ?_
      refine mB_run odX7_undo 3 (g := (101, [(0, .ref 239), (1, .int x1)], [.int (((192 : Int32) * (h.1 9)) + x1), .ref 251, .int x1, .ref 246], (hM C h), 0, 0)) rfl ?_
      obtain ⟨v14, e15, hq⟩ := bsm hq
      refine r_aI odX7_undo rfl (ra_12 hC e15) ?_
      obtain ⟨s16, e17, hq⟩ := bsm hq
      refine r_wI odX7_undo rfl (wa_6 hC e17) ?_
      refine mB_run odX7_undo 1 (g := (104, [(0, .ref 239), (1, .int x1)], [.ref 239], (hM C s16), 0, 0)) rfl ?_
      refine r_gR odX7_undo rfl rfl (md_7 hC) ?_
      refine mB_run odX7_undo 2 (g := (109, [(0, .ref 239), (1, .int x1)], [.ref 239, .int x1, .ref 247], (hM C s16), 0, 0)) rfl ?_
      refine r_gR odX7_undo rfl rfl (md_13 hC) ?_
      refine mB_run odX7_undo 2 (g := (116, [(0, .ref 239), (1, .int x1)], [.ref 239, .int (192 : Int32), .ref 252, .int x1, .ref 247], (hM C s16), 0, 0)) rfl ?_
      refine r_gI odX7_undo rfl rfl (md_9 hC) ?_
      refine mB_run odX7_undo 3 (g := (122, [(0, .ref 239), (1, .int x1)], [.int (((192 : Int32) * (s16.1 9)) + x1), .ref 252, .int x1, .ref 247], (hM C s16), 0, 0)) rfl ?_
      obtain ⟨v18, e19, hq⟩ := bsm hq
      refine r_aI odX7_undo rfl (ra_13 hC e19) ?_
      obtain ⟨s20, e21, hq⟩ := bsm hq
      refine r_wI odX7_undo rfl (wa_7 hC e21) ?_
      refine mB_run odX7_undo 1 (g := (125, [(0, .ref 239), (1, .int x1)], [.ref 239], (hM C s20), 0, 0)) rfl ?_
      refine r_gR odX7_undo rfl rfl (md_8 hC) ?_
      refine mB_run odX7_undo 2 (g := (130, [(0, .ref 239), (1, .int x1)], [.ref 239, .int x1, .ref 248], (hM C s20), 0, 0)) rfl ?_
      refine r_gR odX7_undo rfl rfl (md_14 hC) ?_
      refine mB_run odX7_undo 2 (g := (137, [(0, .ref 239), (1, .int x1)], [.ref 239, .int (192 : Int32), .ref 253, .int x1, .ref 248], (hM C s20), 0, 0)) rfl ?_
      refine r_gI odX7_undo rfl rfl (md_9 hC) ?_
      refine mB_run odX7_undo 3 (g := (143, [(0, .ref 239), (1, .int x1)], [.int (((192 : Int32) * (s20.1 9)) + x1), .ref 253, .int x1, .ref 248], (hM C s20), 0, 0)) rfl ?_
      obtain ⟨v22, e23, hq⟩ := bsm hq
      refine r_aI odX7_undo rfl (ra_14 hC e23) ?_
      obtain ⟨s24, e25, hq⟩ := bsm hq
      refine r_wI odX7_undo rfl (wa_8 hC e25) ?_
      refine mB_run odX7_undo 2 (g := (75, [(1, .int (x1 + (1 : Int32))), (0, .ref 239)], [], (hM C s24), 0, 0)) rfl ?_
      refine mB_lv [1, 0] (lv' := [(0, .ref 239), (1, .int (x1 + (1 : Int32)))]) rfl ?_
      exact ih _ _ hq
def mxX7_undo_21 (N : Nat) : Nat → Int32 → mS → Option (mS × Int32)
  | 0, _, _ => none
  | n + 1, x1, h =>
    if (8 : Int32) ≤ x1 then (
      mxX7_undo_75 N N (0 : Int32) h) else (
      (rA h 10 (((8 : Int32) * (h.1 9)) + x1)).bind fun v5 =>
      (wA h 4 x1 v5).bind fun s7 =>
      (rA s7 11 (((8 : Int32) * (s7.1 9)) + x1)).bind fun v9 =>
      (wA s7 5 x1 v9).bind fun s11 =>
      mxX7_undo_21 N n (x1 + (1 : Int32)) s11)
set_option maxHeartbeats 4000000 in
set_option maxRecDepth 100000 in
theorem emX7_undo_21 {N : Nat} {C : mh} (hC : C.length = 239) : ∀ (n : Nat) (x1 : Int32) (h : mS) {o : (mS × Int32)}, mxX7_undo_21 N n x1 h = some o → mB (gO mX7_undo (hM C o.1, some (.int o.2))) mX7_undo (21, [(0, .ref 239), (1, .int x1)], [], (hM C h), 0, 0) := by
  intro n
  induction n with
  | zero => intro x1 h o hq; cases hq
  | succ n ih =>
    intro x1 h o hq
    unfold mxX7_undo_21 at hq
    refine mB_run odX7_undo 2 (g := (24, [(0, .ref 239), (1, .int x1)], [.int (8 : Int32), .int x1], (hM C h), 0, 0)) rfl ?_
    by_cases c4 : (8 : Int32) ≤ x1
    · rw [if_pos c4] at hq
      refine ic_ge_T (t := 73) odX7_undo rfl rfl c4 ?_
      refine mB_run odX7_undo 2 (g := (75, [(1, .int (0 : Int32)), (0, .ref 239)], [], (hM C h), 0, 0)) rfl ?_
      refine mB_lv [1, 0] (lv' := [(0, .ref 239), (1, .int (0 : Int32))]) rfl ?_
      exact emX7_undo_75 hC N _ _ hq
    · rw [if_neg c4] at hq
      refine ic_ge_F (t := 73) odX7_undo rfl rfl c4 ?_
      refine mB_run odX7_undo 1 (g := (28, [(0, .ref 239), (1, .int x1)], [.ref 239], (hM C h), 0, 0)) rfl ?_
      refine r_gR odX7_undo rfl rfl (md_4 hC) ?_
      refine mB_run odX7_undo 2 (g := (33, [(0, .ref 239), (1, .int x1)], [.ref 239, .int x1, .ref 244], (hM C h), 0, 0)) rfl ?_
      refine r_gR odX7_undo rfl rfl (md_10 hC) ?_
      refine mB_run odX7_undo 2 (g := (39, [(0, .ref 239), (1, .int x1)], [.ref 239, .int (8 : Int32), .ref 249, .int x1, .ref 244], (hM C h), 0, 0)) rfl ?_
      refine r_gI odX7_undo rfl rfl (md_9 hC) ?_
      refine mB_run odX7_undo 3 (g := (45, [(0, .ref 239), (1, .int x1)], [.int (((8 : Int32) * (h.1 9)) + x1), .ref 249, .int x1, .ref 244], (hM C h), 0, 0)) rfl ?_
      obtain ⟨v5, e6, hq⟩ := bsm hq
      refine r_aI odX7_undo rfl (ra_10 hC e6) ?_
      obtain ⟨s7, e8, hq⟩ := bsm hq
      refine r_wI odX7_undo rfl (wa_4 hC e8) ?_
      refine mB_run odX7_undo 1 (g := (48, [(0, .ref 239), (1, .int x1)], [.ref 239], (hM C s7), 0, 0)) rfl ?_
      refine r_gR odX7_undo rfl rfl (md_5 hC) ?_
      refine mB_run odX7_undo 2 (g := (53, [(0, .ref 239), (1, .int x1)], [.ref 239, .int x1, .ref 245], (hM C s7), 0, 0)) rfl ?_
      refine r_gR odX7_undo rfl rfl (md_11 hC) ?_
      refine mB_run odX7_undo 2 (g := (59, [(0, .ref 239), (1, .int x1)], [.ref 239, .int (8 : Int32), .ref 250, .int x1, .ref 245], (hM C s7), 0, 0)) rfl ?_
      refine r_gI odX7_undo rfl rfl (md_9 hC) ?_
      refine mB_run odX7_undo 3 (g := (65, [(0, .ref 239), (1, .int x1)], [.int (((8 : Int32) * (s7.1 9)) + x1), .ref 250, .int x1, .ref 245], (hM C s7), 0, 0)) rfl ?_
      obtain ⟨v9, e10, hq⟩ := bsm hq
      refine r_aI odX7_undo rfl (ra_11 hC e10) ?_
      obtain ⟨s11, e12, hq⟩ := bsm hq
      refine r_wI odX7_undo rfl (wa_5 hC e12) ?_
      refine mB_run odX7_undo 2 (g := (21, [(1, .int (x1 + (1 : Int32))), (0, .ref 239)], [], (hM C s11), 0, 0)) rfl ?_
      refine mB_lv [1, 0] (lv' := [(0, .ref 239), (1, .int (x1 + (1 : Int32)))]) rfl ?_
      exact ih _ _ hq
def mxX7_undo (N : Nat)  (h : mS) : Option (mS × Int32) :=
  if (h.1 9) = 0 then (
    some (h, (-1 : Int32))) else (
    (some (pI h 9 ((h.1 9) - (1 : Int32)))).bind fun s2 =>
    mxX7_undo_21 N N (0 : Int32) s2)
set_option maxHeartbeats 4000000 in
set_option maxRecDepth 100000 in
theorem emX7_undo {N : Nat} {C : mh} (hC : C.length = 239)  {h : mS} {o : (mS × Int32)} (hq : mxX7_undo N  h = some o) : mC mX7_undo [.ref 239] (hM C h) (hM C o.1, some (.int o.2)) := by
  refine mC_of okX7_undo (Nat.le_of_ble_eq_true rfl) ?_
  unfold mxX7_undo at hq
  show mB _ mX7_undo (0, [(0, .ref 239)], [], (hM C h), 0, 0)
  refine mB_run odX7_undo 1 (g := (1, [(0, .ref 239)], [.ref 239], (hM C h), 0, 0)) rfl ?_
  refine r_gI odX7_undo rfl rfl (md_9 hC) ?_
  by_cases c1 : (h.1 9) = 0
  · rw [if_pos c1] at hq
    refine if_ne_F (t := 9) odX7_undo rfl rfl c1 ?_
    refine mB_run odX7_undo 1 (g := (8, [(0, .ref 239)], [.int (-1 : Int32)], (hM C h), 0, 0)) rfl ?_
    cases hq
    exact mB_ret odX7_undo rfl
  · rw [if_neg c1] at hq
    refine if_ne_T (t := 9) odX7_undo rfl rfl c1 ?_
    refine mB_run odX7_undo 2 (g := (11, [(0, .ref 239)], [.ref 239, .ref 239], (hM C h), 0, 0)) rfl ?_
    refine r_gI odX7_undo rfl rfl (md_9 hC) ?_
    refine mB_run odX7_undo 2 (g := (16, [(0, .ref 239)], [.int ((h.1 9) - (1 : Int32)), .ref 239], (hM C h), 0, 0)) rfl ?_
    obtain ⟨s2, e3, hq⟩ := bsm hq
    refine r_sV odX7_undo rfl rfl rfl rfl (pt_9 hC e3) ?_
    refine mB_run odX7_undo 2 (g := (21, [(1, .int (0 : Int32)), (0, .ref 239)], [], (hM C s2), 0, 0)) rfl ?_
    refine mB_lv [1, 0] (lv' := [(0, .ref 239), (1, .int (0 : Int32))]) rfl ?_
    exact emX7_undo_21 hC N _ _ hq
def mxX7_heaps_73 (N : Nat) (rec3 : Int64 → Int64 → Int64 → Int32 → mS → Option mS) (x1 : Int64) (x3 : Int64) (x5 : Int64) (x7 : Int32) (h : mS) : Option mS :=
  rec3 x1 x3 x5 (x7 + (1 : Int32)) h
set_option maxHeartbeats 4000000 in
set_option maxRecDepth 100000 in
theorem emX7_heaps_73 {N : Nat} {C : mh} (hC : C.length = 239) {rec3 : Int64 → Int64 → Int64 → Int32 → mS → Option mS} (hrec3 : ∀ (x1 : Int64) (x3 : Int64) (x5 : Int64) (x7 : Int32) (h : mS) {o : mS}, rec3 x1 x3 x5 x7 h = some o → mB (gO mX7_heaps (hM C o, none)) mX7_heaps (3, [(0, .ref 239), (1, .long x1), (3, .long x3), (5, .long x5), (7, .int x7)], [], (hM C h), 0, 0)) (x1 : Int64) (x3 : Int64) (x5 : Int64) (x7 : Int32) (h : mS) {o : mS} (hq : mxX7_heaps_73 N rec3 x1 x3 x5 x7 h = some o) : mB (gO mX7_heaps (hM C o, none)) mX7_heaps (73, [(0, .ref 239), (1, .long x1), (3, .long x3), (5, .long x5), (7, .int x7)], [], (hM C h), 0, 0) := by
  unfold mxX7_heaps_73 at hq
  refine mB_run odX7_heaps 2 (g := (3, [(7, .int (x7 + (1 : Int32))), (0, .ref 239), (1, .long x1), (3, .long x3), (5, .long x5)], [], (hM C h), 0, 0)) rfl ?_
  refine mB_lv [1, 2, 3, 4, 0] (lv' := [(0, .ref 239), (1, .long x1), (3, .long x3), (5, .long x5), (7, .int (x7 + (1 : Int32)))]) rfl ?_
  exact hrec3 _ _ _ _ _ hq
def mxX7_heaps_132 (N : Nat) : Nat → Int64 → Int64 → Int64 → Int32 → Int32 → mS → Option mS
  | 0, _, _, _, _, _, _ => none
  | n + 1, x1, x3, x5, x7, x8, h =>
    if x8 ≤ x7 then (
      (wG h 16 x7 x1).bind fun s28 =>
      (wG s28 17 x7 x3).bind fun s30 =>
      (wG s30 18 x7 x5).bind fun s32 =>
      (some (pI s32 15 ((s32.1 15) + (1 : Int32)))).bind fun s34 =>
      some s34) else (
      (rG h 16 (x8 - (1 : Int32))).bind fun v36 =>
      (wG h 16 x8 v36).bind fun s38 =>
      (rG s38 17 (x8 - (1 : Int32))).bind fun v40 =>
      (wG s38 17 x8 v40).bind fun s42 =>
      (rG s42 18 (x8 - (1 : Int32))).bind fun v44 =>
      (wG s42 18 x8 v44).bind fun s46 =>
      mxX7_heaps_132 N n x1 x3 x5 x7 (x8 + (-1 : Int32)) s46)
set_option maxHeartbeats 4000000 in
set_option maxRecDepth 100000 in
theorem emX7_heaps_132 {N : Nat} {C : mh} (hC : C.length = 239) : ∀ (n : Nat) (x1 : Int64) (x3 : Int64) (x5 : Int64) (x7 : Int32) (x8 : Int32) (h : mS) {o : mS}, mxX7_heaps_132 N n x1 x3 x5 x7 x8 h = some o → mB (gO mX7_heaps (hM C o, none)) mX7_heaps (132, [(0, .ref 239), (1, .long x1), (3, .long x3), (5, .long x5), (7, .int x7), (8, .int x8)], [], (hM C h), 0, 0) := by
  intro n
  induction n with
  | zero => intro x1 x3 x5 x7 x8 h o hq; cases hq
  | succ n ih =>
    intro x1 x3 x5 x7 x8 h o hq
    unfold mxX7_heaps_132 at hq
    refine mB_run odX7_heaps 2 (g := (136, [(0, .ref 239), (1, .long x1), (3, .long x3), (5, .long x5), (7, .int x7), (8, .int x8)], [.int x7, .int x8], (hM C h), 0, 0)) rfl ?_
    by_cases c27 : x8 ≤ x7
    · rw [if_pos c27] at hq
      refine ic_le_T (t := 193) odX7_heaps rfl rfl c27 ?_
      refine mB_run odX7_heaps 1 (g := (194, [(0, .ref 239), (1, .long x1), (3, .long x3), (5, .long x5), (7, .int x7), (8, .int x8)], [.ref 239], (hM C h), 0, 0)) rfl ?_
      refine r_gR odX7_heaps rfl rfl (md_16 hC) ?_
      refine mB_run odX7_heaps 2 (g := (200, [(0, .ref 239), (1, .long x1), (3, .long x3), (5, .long x5), (7, .int x7), (8, .int x8)], [.long x1, .int x7, .ref 254], (hM C h), 0, 0)) rfl ?_
      obtain ⟨s28, e29, hq⟩ := bsm hq
      refine r_wJ odX7_heaps rfl (wa_16 hC e29) ?_
      refine mB_run odX7_heaps 1 (g := (202, [(0, .ref 239), (1, .long x1), (3, .long x3), (5, .long x5), (7, .int x7), (8, .int x8)], [.ref 239], (hM C s28), 0, 0)) rfl ?_
      refine r_gR odX7_heaps rfl rfl (md_17 hC) ?_
      refine mB_run odX7_heaps 2 (g := (208, [(0, .ref 239), (1, .long x1), (3, .long x3), (5, .long x5), (7, .int x7), (8, .int x8)], [.long x3, .int x7, .ref 255], (hM C s28), 0, 0)) rfl ?_
      obtain ⟨s30, e31, hq⟩ := bsm hq
      refine r_wJ odX7_heaps rfl (wa_17 hC e31) ?_
      refine mB_run odX7_heaps 1 (g := (210, [(0, .ref 239), (1, .long x1), (3, .long x3), (5, .long x5), (7, .int x7), (8, .int x8)], [.ref 239], (hM C s30), 0, 0)) rfl ?_
      refine r_gR odX7_heaps rfl rfl (md_18 hC) ?_
      refine mB_run odX7_heaps 2 (g := (217, [(0, .ref 239), (1, .long x1), (3, .long x3), (5, .long x5), (7, .int x7), (8, .int x8)], [.long x5, .int x7, .ref 256], (hM C s30), 0, 0)) rfl ?_
      obtain ⟨s32, e33, hq⟩ := bsm hq
      refine r_wJ odX7_heaps rfl (wa_18 hC e33) ?_
      refine mB_run odX7_heaps 2 (g := (220, [(0, .ref 239), (1, .long x1), (3, .long x3), (5, .long x5), (7, .int x7), (8, .int x8)], [.ref 239, .ref 239], (hM C s32), 0, 0)) rfl ?_
      refine r_gI odX7_heaps rfl rfl (md_15 hC) ?_
      refine mB_run odX7_heaps 2 (g := (225, [(0, .ref 239), (1, .long x1), (3, .long x3), (5, .long x5), (7, .int x7), (8, .int x8)], [.int ((s32.1 15) + (1 : Int32)), .ref 239], (hM C s32), 0, 0)) rfl ?_
      obtain ⟨s34, e35, hq⟩ := bsm hq
      refine r_sV odX7_heaps rfl rfl rfl rfl (pt_15 hC e35) ?_
      cases hq
      exact mB_ret odX7_heaps rfl
    · rw [if_neg c27] at hq
      refine ic_le_F (t := 193) odX7_heaps rfl rfl c27 ?_
      refine mB_run odX7_heaps 1 (g := (140, [(0, .ref 239), (1, .long x1), (3, .long x3), (5, .long x5), (7, .int x7), (8, .int x8)], [.ref 239], (hM C h), 0, 0)) rfl ?_
      refine r_gR odX7_heaps rfl rfl (md_16 hC) ?_
      refine mB_run odX7_heaps 2 (g := (146, [(0, .ref 239), (1, .long x1), (3, .long x3), (5, .long x5), (7, .int x7), (8, .int x8)], [.ref 239, .int x8, .ref 254], (hM C h), 0, 0)) rfl ?_
      refine r_gR odX7_heaps rfl rfl (md_16 hC) ?_
      refine mB_run odX7_heaps 3 (g := (153, [(0, .ref 239), (1, .long x1), (3, .long x3), (5, .long x5), (7, .int x7), (8, .int x8)], [.int (x8 - (1 : Int32)), .ref 254, .int x8, .ref 254], (hM C h), 0, 0)) rfl ?_
      obtain ⟨v36, e37, hq⟩ := bsm hq
      refine r_aJ odX7_heaps rfl (ra_16 hC e37) ?_
      obtain ⟨s38, e39, hq⟩ := bsm hq
      refine r_wJ odX7_heaps rfl (wa_16 hC e39) ?_
      refine mB_run odX7_heaps 1 (g := (156, [(0, .ref 239), (1, .long x1), (3, .long x3), (5, .long x5), (7, .int x7), (8, .int x8)], [.ref 239], (hM C s38), 0, 0)) rfl ?_
      refine r_gR odX7_heaps rfl rfl (md_17 hC) ?_
      refine mB_run odX7_heaps 2 (g := (162, [(0, .ref 239), (1, .long x1), (3, .long x3), (5, .long x5), (7, .int x7), (8, .int x8)], [.ref 239, .int x8, .ref 255], (hM C s38), 0, 0)) rfl ?_
      refine r_gR odX7_heaps rfl rfl (md_17 hC) ?_
      refine mB_run odX7_heaps 3 (g := (169, [(0, .ref 239), (1, .long x1), (3, .long x3), (5, .long x5), (7, .int x7), (8, .int x8)], [.int (x8 - (1 : Int32)), .ref 255, .int x8, .ref 255], (hM C s38), 0, 0)) rfl ?_
      obtain ⟨v40, e41, hq⟩ := bsm hq
      refine r_aJ odX7_heaps rfl (ra_17 hC e41) ?_
      obtain ⟨s42, e43, hq⟩ := bsm hq
      refine r_wJ odX7_heaps rfl (wa_17 hC e43) ?_
      refine mB_run odX7_heaps 1 (g := (172, [(0, .ref 239), (1, .long x1), (3, .long x3), (5, .long x5), (7, .int x7), (8, .int x8)], [.ref 239], (hM C s42), 0, 0)) rfl ?_
      refine r_gR odX7_heaps rfl rfl (md_18 hC) ?_
      refine mB_run odX7_heaps 2 (g := (178, [(0, .ref 239), (1, .long x1), (3, .long x3), (5, .long x5), (7, .int x7), (8, .int x8)], [.ref 239, .int x8, .ref 256], (hM C s42), 0, 0)) rfl ?_
      refine r_gR odX7_heaps rfl rfl (md_18 hC) ?_
      refine mB_run odX7_heaps 3 (g := (185, [(0, .ref 239), (1, .long x1), (3, .long x3), (5, .long x5), (7, .int x7), (8, .int x8)], [.int (x8 - (1 : Int32)), .ref 256, .int x8, .ref 256], (hM C s42), 0, 0)) rfl ?_
      obtain ⟨v44, e45, hq⟩ := bsm hq
      refine r_aJ odX7_heaps rfl (ra_18 hC e45) ?_
      obtain ⟨s46, e47, hq⟩ := bsm hq
      refine r_wJ odX7_heaps rfl (wa_18 hC e47) ?_
      refine mB_run odX7_heaps 2 (g := (132, [(8, .int (x8 + (-1 : Int32))), (0, .ref 239), (1, .long x1), (3, .long x3), (5, .long x5), (7, .int x7)], [], (hM C s46), 0, 0)) rfl ?_
      refine mB_lv [1, 2, 3, 4, 5, 0] (lv' := [(0, .ref 239), (1, .long x1), (3, .long x3), (5, .long x5), (7, .int x7), (8, .int (x8 + (-1 : Int32)))]) rfl ?_
      exact ih _ _ _ _ _ _ hq
def mxX7_heaps_126 (N : Nat) (x1 : Int64) (x3 : Int64) (x5 : Int64) (x7 : Int32) (h : mS) : Option mS :=
  mxX7_heaps_132 N N x1 x3 x5 x7 (h.1 15) h
set_option maxHeartbeats 4000000 in
set_option maxRecDepth 100000 in
theorem emX7_heaps_126 {N : Nat} {C : mh} (hC : C.length = 239) (x1 : Int64) (x3 : Int64) (x5 : Int64) (x7 : Int32) (h : mS) {o : mS} (hq : mxX7_heaps_126 N x1 x3 x5 x7 h = some o) : mB (gO mX7_heaps (hM C o, none)) mX7_heaps (126, [(0, .ref 239), (1, .long x1), (3, .long x3), (5, .long x5), (7, .int x7)], [], (hM C h), 0, 0) := by
  unfold mxX7_heaps_126 at hq
  refine mB_run odX7_heaps 1 (g := (127, [(0, .ref 239), (1, .long x1), (3, .long x3), (5, .long x5), (7, .int x7)], [.ref 239], (hM C h), 0, 0)) rfl ?_
  refine r_gI odX7_heaps rfl rfl (md_15 hC) ?_
  refine mB_run odX7_heaps 1 (g := (132, [(8, .int (h.1 15)), (0, .ref 239), (1, .long x1), (3, .long x3), (5, .long x5), (7, .int x7)], [], (hM C h), 0, 0)) rfl ?_
  refine mB_lv [1, 2, 3, 4, 5, 0] (lv' := [(0, .ref 239), (1, .long x1), (3, .long x3), (5, .long x5), (7, .int x7), (8, .int (h.1 15))]) rfl ?_
  exact emX7_heaps_132 hC N _ _ _ _ _ _ hq
def mxX7_heaps_79 (N : Nat) (x1 : Int64) (x3 : Int64) (x5 : Int64) (x7 : Int32) (h : mS) : Option mS :=
  if (h.1 15) ≤ x7 then (
    mxX7_heaps_126 N x1 x3 x5 x7 h) else (
    (rG h 16 x7).bind fun v18 =>
    if v18 = x1 then (
      (rG h 17 x7).bind fun v21 =>
      if v21 = x3 then (
        (rG h 18 x7).bind fun v24 =>
        if v24 = x5 then (
          some h) else (
          mxX7_heaps_126 N x1 x3 x5 x7 h)) else (
        mxX7_heaps_126 N x1 x3 x5 x7 h)) else (
      mxX7_heaps_126 N x1 x3 x5 x7 h))
set_option maxHeartbeats 4000000 in
set_option maxRecDepth 100000 in
theorem emX7_heaps_79 {N : Nat} {C : mh} (hC : C.length = 239) (x1 : Int64) (x3 : Int64) (x5 : Int64) (x7 : Int32) (h : mS) {o : mS} (hq : mxX7_heaps_79 N x1 x3 x5 x7 h = some o) : mB (gO mX7_heaps (hM C o, none)) mX7_heaps (79, [(0, .ref 239), (1, .long x1), (3, .long x3), (5, .long x5), (7, .int x7)], [], (hM C h), 0, 0) := by
  unfold mxX7_heaps_79 at hq
  refine mB_run odX7_heaps 2 (g := (82, [(0, .ref 239), (1, .long x1), (3, .long x3), (5, .long x5), (7, .int x7)], [.ref 239, .int x7], (hM C h), 0, 0)) rfl ?_
  refine r_gI odX7_heaps rfl rfl (md_15 hC) ?_
  by_cases c17 : (h.1 15) ≤ x7
  · rw [if_pos c17] at hq
    refine ic_ge_T (t := 126) odX7_heaps rfl rfl c17 ?_
    refine mB_lv [0, 1, 2, 3, 4] (lv' := [(0, .ref 239), (1, .long x1), (3, .long x3), (5, .long x5), (7, .int x7)]) rfl ?_
    exact emX7_heaps_126 hC _ _ _ _ _ hq
  · rw [if_neg c17] at hq
    refine ic_ge_F (t := 126) odX7_heaps rfl rfl c17 ?_
    refine mB_run odX7_heaps 1 (g := (89, [(0, .ref 239), (1, .long x1), (3, .long x3), (5, .long x5), (7, .int x7)], [.ref 239], (hM C h), 0, 0)) rfl ?_
    refine r_gR odX7_heaps rfl rfl (md_16 hC) ?_
    refine mB_run odX7_heaps 1 (g := (94, [(0, .ref 239), (1, .long x1), (3, .long x3), (5, .long x5), (7, .int x7)], [.int x7, .ref 254], (hM C h), 0, 0)) rfl ?_
    obtain ⟨v18, e19, hq⟩ := bsm hq
    refine r_aJ odX7_heaps rfl (ra_16 hC e19) ?_
    refine mB_run odX7_heaps 1 (g := (96, [(0, .ref 239), (1, .long x1), (3, .long x3), (5, .long x5), (7, .int x7)], [.long x1, .long v18], (hM C h), 0, 0)) rfl ?_
    by_cases c20 : v18 = x1
    · rw [if_pos c20] at hq
      refine lc_ne_F (t := 126) odX7_heaps rfl rfl rfl c20 ?_
      refine mB_run odX7_heaps 1 (g := (101, [(0, .ref 239), (1, .long x1), (3, .long x3), (5, .long x5), (7, .int x7)], [.ref 239], (hM C h), 0, 0)) rfl ?_
      refine r_gR odX7_heaps rfl rfl (md_17 hC) ?_
      refine mB_run odX7_heaps 1 (g := (106, [(0, .ref 239), (1, .long x1), (3, .long x3), (5, .long x5), (7, .int x7)], [.int x7, .ref 255], (hM C h), 0, 0)) rfl ?_
      obtain ⟨v21, e22, hq⟩ := bsm hq
      refine r_aJ odX7_heaps rfl (ra_17 hC e22) ?_
      refine mB_run odX7_heaps 1 (g := (108, [(0, .ref 239), (1, .long x1), (3, .long x3), (5, .long x5), (7, .int x7)], [.long x3, .long v21], (hM C h), 0, 0)) rfl ?_
      by_cases c23 : v21 = x3
      · rw [if_pos c23] at hq
        refine lc_ne_F (t := 126) odX7_heaps rfl rfl rfl c23 ?_
        refine mB_run odX7_heaps 1 (g := (113, [(0, .ref 239), (1, .long x1), (3, .long x3), (5, .long x5), (7, .int x7)], [.ref 239], (hM C h), 0, 0)) rfl ?_
        refine r_gR odX7_heaps rfl rfl (md_18 hC) ?_
        refine mB_run odX7_heaps 1 (g := (118, [(0, .ref 239), (1, .long x1), (3, .long x3), (5, .long x5), (7, .int x7)], [.int x7, .ref 256], (hM C h), 0, 0)) rfl ?_
        obtain ⟨v24, e25, hq⟩ := bsm hq
        refine r_aJ odX7_heaps rfl (ra_18 hC e25) ?_
        refine mB_run odX7_heaps 1 (g := (121, [(0, .ref 239), (1, .long x1), (3, .long x3), (5, .long x5), (7, .int x7)], [.long x5, .long v24], (hM C h), 0, 0)) rfl ?_
        by_cases c26 : v24 = x5
        · rw [if_pos c26] at hq
          refine lc_ne_F (t := 126) odX7_heaps rfl rfl rfl c26 ?_
          cases hq
          exact mB_ret odX7_heaps rfl
        · rw [if_neg c26] at hq
          refine lc_ne_T (t := 126) odX7_heaps rfl rfl rfl c26 ?_
          refine mB_lv [0, 1, 2, 3, 4] (lv' := [(0, .ref 239), (1, .long x1), (3, .long x3), (5, .long x5), (7, .int x7)]) rfl ?_
          exact emX7_heaps_126 hC _ _ _ _ _ hq
      · rw [if_neg c23] at hq
        refine lc_ne_T (t := 126) odX7_heaps rfl rfl rfl c23 ?_
        refine mB_lv [0, 1, 2, 3, 4] (lv' := [(0, .ref 239), (1, .long x1), (3, .long x3), (5, .long x5), (7, .int x7)]) rfl ?_
        exact emX7_heaps_126 hC _ _ _ _ _ hq
    · rw [if_neg c20] at hq
      refine lc_ne_T (t := 126) odX7_heaps rfl rfl rfl c20 ?_
      refine mB_lv [0, 1, 2, 3, 4] (lv' := [(0, .ref 239), (1, .long x1), (3, .long x3), (5, .long x5), (7, .int x7)]) rfl ?_
      exact emX7_heaps_126 hC _ _ _ _ _ hq
def mxX7_heaps_3 (N : Nat) : Nat → Int64 → Int64 → Int64 → Int32 → mS → Option mS
  | 0, _, _, _, _, _ => none
  | n + 1, x1, x3, x5, x7, h =>
    if (h.1 15) ≤ x7 then (
      mxX7_heaps_79 N x1 x3 x5 x7 h) else (
      (rG h 16 x7).bind fun v2 =>
      if v2 < x1 then (
        mxX7_heaps_73 N (mxX7_heaps_3 N n) x1 x3 x5 x7 h) else (
        (rG h 16 x7).bind fun v5 =>
        if v5 = x1 then (
          (rG h 17 x7).bind fun v8 =>
          if v8 < x3 then (
            mxX7_heaps_73 N (mxX7_heaps_3 N n) x1 x3 x5 x7 h) else (
            (rG h 17 x7).bind fun v11 =>
            if v11 = x3 then (
              (rG h 18 x7).bind fun v14 =>
              if x5 ≤ v14 then (
                mxX7_heaps_79 N x1 x3 x5 x7 h) else (
                mxX7_heaps_73 N (mxX7_heaps_3 N n) x1 x3 x5 x7 h)) else (
              mxX7_heaps_79 N x1 x3 x5 x7 h))) else (
          mxX7_heaps_79 N x1 x3 x5 x7 h)))
set_option maxHeartbeats 4000000 in
set_option maxRecDepth 100000 in
theorem emX7_heaps_3 {N : Nat} {C : mh} (hC : C.length = 239) : ∀ (n : Nat) (x1 : Int64) (x3 : Int64) (x5 : Int64) (x7 : Int32) (h : mS) {o : mS}, mxX7_heaps_3 N n x1 x3 x5 x7 h = some o → mB (gO mX7_heaps (hM C o, none)) mX7_heaps (3, [(0, .ref 239), (1, .long x1), (3, .long x3), (5, .long x5), (7, .int x7)], [], (hM C h), 0, 0) := by
  intro n
  induction n with
  | zero => intro x1 x3 x5 x7 h o hq; cases hq
  | succ n ih =>
    intro x1 x3 x5 x7 h o hq
    unfold mxX7_heaps_3 at hq
    refine mB_run odX7_heaps 2 (g := (6, [(0, .ref 239), (1, .long x1), (3, .long x3), (5, .long x5), (7, .int x7)], [.ref 239, .int x7], (hM C h), 0, 0)) rfl ?_
    refine r_gI odX7_heaps rfl rfl (md_15 hC) ?_
    by_cases c1 : (h.1 15) ≤ x7
    · rw [if_pos c1] at hq
      refine ic_ge_T (t := 79) odX7_heaps rfl rfl c1 ?_
      refine mB_lv [0, 1, 2, 3, 4] (lv' := [(0, .ref 239), (1, .long x1), (3, .long x3), (5, .long x5), (7, .int x7)]) rfl ?_
      exact emX7_heaps_79 hC _ _ _ _ _ hq
    · rw [if_neg c1] at hq
      refine ic_ge_F (t := 79) odX7_heaps rfl rfl c1 ?_
      refine mB_run odX7_heaps 1 (g := (13, [(0, .ref 239), (1, .long x1), (3, .long x3), (5, .long x5), (7, .int x7)], [.ref 239], (hM C h), 0, 0)) rfl ?_
      refine r_gR odX7_heaps rfl rfl (md_16 hC) ?_
      refine mB_run odX7_heaps 1 (g := (18, [(0, .ref 239), (1, .long x1), (3, .long x3), (5, .long x5), (7, .int x7)], [.int x7, .ref 254], (hM C h), 0, 0)) rfl ?_
      obtain ⟨v2, e3, hq⟩ := bsm hq
      refine r_aJ odX7_heaps rfl (ra_16 hC e3) ?_
      refine mB_run odX7_heaps 1 (g := (20, [(0, .ref 239), (1, .long x1), (3, .long x3), (5, .long x5), (7, .int x7)], [.long x1, .long v2], (hM C h), 0, 0)) rfl ?_
      by_cases c4 : v2 < x1
      · rw [if_pos c4] at hq
        refine lc_lt_T (t := 73) odX7_heaps rfl rfl rfl c4 ?_
        refine mB_lv [0, 1, 2, 3, 4] (lv' := [(0, .ref 239), (1, .long x1), (3, .long x3), (5, .long x5), (7, .int x7)]) rfl ?_
        exact emX7_heaps_73 hC ih _ _ _ _ _ hq
      · rw [if_neg c4] at hq
        refine lc_lt_F (t := 73) odX7_heaps rfl rfl rfl c4 ?_
        refine mB_run odX7_heaps 1 (g := (25, [(0, .ref 239), (1, .long x1), (3, .long x3), (5, .long x5), (7, .int x7)], [.ref 239], (hM C h), 0, 0)) rfl ?_
        refine r_gR odX7_heaps rfl rfl (md_16 hC) ?_
        refine mB_run odX7_heaps 1 (g := (30, [(0, .ref 239), (1, .long x1), (3, .long x3), (5, .long x5), (7, .int x7)], [.int x7, .ref 254], (hM C h), 0, 0)) rfl ?_
        obtain ⟨v5, e6, hq⟩ := bsm hq
        refine r_aJ odX7_heaps rfl (ra_16 hC e6) ?_
        refine mB_run odX7_heaps 1 (g := (32, [(0, .ref 239), (1, .long x1), (3, .long x3), (5, .long x5), (7, .int x7)], [.long x1, .long v5], (hM C h), 0, 0)) rfl ?_
        by_cases c7 : v5 = x1
        · rw [if_pos c7] at hq
          refine lc_ne_F (t := 79) odX7_heaps rfl rfl rfl c7 ?_
          refine mB_run odX7_heaps 1 (g := (37, [(0, .ref 239), (1, .long x1), (3, .long x3), (5, .long x5), (7, .int x7)], [.ref 239], (hM C h), 0, 0)) rfl ?_
          refine r_gR odX7_heaps rfl rfl (md_17 hC) ?_
          refine mB_run odX7_heaps 1 (g := (42, [(0, .ref 239), (1, .long x1), (3, .long x3), (5, .long x5), (7, .int x7)], [.int x7, .ref 255], (hM C h), 0, 0)) rfl ?_
          obtain ⟨v8, e9, hq⟩ := bsm hq
          refine r_aJ odX7_heaps rfl (ra_17 hC e9) ?_
          refine mB_run odX7_heaps 1 (g := (44, [(0, .ref 239), (1, .long x1), (3, .long x3), (5, .long x5), (7, .int x7)], [.long x3, .long v8], (hM C h), 0, 0)) rfl ?_
          by_cases c10 : v8 < x3
          · rw [if_pos c10] at hq
            refine lc_lt_T (t := 73) odX7_heaps rfl rfl rfl c10 ?_
            refine mB_lv [0, 1, 2, 3, 4] (lv' := [(0, .ref 239), (1, .long x1), (3, .long x3), (5, .long x5), (7, .int x7)]) rfl ?_
            exact emX7_heaps_73 hC ih _ _ _ _ _ hq
          · rw [if_neg c10] at hq
            refine lc_lt_F (t := 73) odX7_heaps rfl rfl rfl c10 ?_
            refine mB_run odX7_heaps 1 (g := (49, [(0, .ref 239), (1, .long x1), (3, .long x3), (5, .long x5), (7, .int x7)], [.ref 239], (hM C h), 0, 0)) rfl ?_
            refine r_gR odX7_heaps rfl rfl (md_17 hC) ?_
            refine mB_run odX7_heaps 1 (g := (54, [(0, .ref 239), (1, .long x1), (3, .long x3), (5, .long x5), (7, .int x7)], [.int x7, .ref 255], (hM C h), 0, 0)) rfl ?_
            obtain ⟨v11, e12, hq⟩ := bsm hq
            refine r_aJ odX7_heaps rfl (ra_17 hC e12) ?_
            refine mB_run odX7_heaps 1 (g := (56, [(0, .ref 239), (1, .long x1), (3, .long x3), (5, .long x5), (7, .int x7)], [.long x3, .long v11], (hM C h), 0, 0)) rfl ?_
            by_cases c13 : v11 = x3
            · rw [if_pos c13] at hq
              refine lc_ne_F (t := 79) odX7_heaps rfl rfl rfl c13 ?_
              refine mB_run odX7_heaps 1 (g := (61, [(0, .ref 239), (1, .long x1), (3, .long x3), (5, .long x5), (7, .int x7)], [.ref 239], (hM C h), 0, 0)) rfl ?_
              refine r_gR odX7_heaps rfl rfl (md_18 hC) ?_
              refine mB_run odX7_heaps 1 (g := (66, [(0, .ref 239), (1, .long x1), (3, .long x3), (5, .long x5), (7, .int x7)], [.int x7, .ref 256], (hM C h), 0, 0)) rfl ?_
              obtain ⟨v14, e15, hq⟩ := bsm hq
              refine r_aJ odX7_heaps rfl (ra_18 hC e15) ?_
              refine mB_run odX7_heaps 1 (g := (69, [(0, .ref 239), (1, .long x1), (3, .long x3), (5, .long x5), (7, .int x7)], [.long x5, .long v14], (hM C h), 0, 0)) rfl ?_
              by_cases c16 : x5 ≤ v14
              · rw [if_pos c16] at hq
                refine lc_ge_T (t := 79) odX7_heaps rfl rfl rfl c16 ?_
                refine mB_lv [0, 1, 2, 3, 4] (lv' := [(0, .ref 239), (1, .long x1), (3, .long x3), (5, .long x5), (7, .int x7)]) rfl ?_
                exact emX7_heaps_79 hC _ _ _ _ _ hq
              · rw [if_neg c16] at hq
                refine lc_ge_F (t := 79) odX7_heaps rfl rfl rfl c16 ?_
                refine mB_lv [0, 1, 2, 3, 4] (lv' := [(0, .ref 239), (1, .long x1), (3, .long x3), (5, .long x5), (7, .int x7)]) rfl ?_
                exact emX7_heaps_73 hC ih _ _ _ _ _ hq
            · rw [if_neg c13] at hq
              refine lc_ne_T (t := 79) odX7_heaps rfl rfl rfl c13 ?_
              refine mB_lv [0, 1, 2, 3, 4] (lv' := [(0, .ref 239), (1, .long x1), (3, .long x3), (5, .long x5), (7, .int x7)]) rfl ?_
              exact emX7_heaps_79 hC _ _ _ _ _ hq
        · rw [if_neg c7] at hq
          refine lc_ne_T (t := 79) odX7_heaps rfl rfl rfl c7 ?_
          refine mB_lv [0, 1, 2, 3, 4] (lv' := [(0, .ref 239), (1, .long x1), (3, .long x3), (5, .long x5), (7, .int x7)]) rfl ?_
          exact emX7_heaps_79 hC _ _ _ _ _ hq
def mxX7_heaps (N : Nat) (p1 : Int64) (p2 : Int64) (p3 : Int64) (h : mS) : Option mS :=
  mxX7_heaps_3 N N p1 p2 p3 (0 : Int32) h
set_option maxHeartbeats 4000000 in
set_option maxRecDepth 100000 in
theorem emX7_heaps {N : Nat} {C : mh} (hC : C.length = 239) {p1 : Int64} {p2 : Int64} {p3 : Int64} {h : mS} {o : mS} (hq : mxX7_heaps N p1 p2 p3 h = some o) : mC mX7_heaps [.ref 239, .long p1, .long p2, .long p3] (hM C h) (hM C o, none) := by
  refine mC_of okX7_heaps (Nat.le_of_ble_eq_true rfl) ?_
  unfold mxX7_heaps at hq
  show mB _ mX7_heaps (0, [(0, .ref 239), (1, .long p1), (3, .long p2), (5, .long p3)], [], (hM C h), 0, 0)
  refine mB_run odX7_heaps 2 (g := (3, [(7, .int (0 : Int32)), (0, .ref 239), (1, .long p1), (3, .long p2), (5, .long p3)], [], (hM C h), 0, 0)) rfl ?_
  refine mB_lv [1, 2, 3, 4, 0] (lv' := [(0, .ref 239), (1, .long p1), (3, .long p2), (5, .long p3), (7, .int (0 : Int32))]) rfl ?_
  exact emX7_heaps_3 hC N _ _ _ _ _ hq
def mxX7_across (N : Nat) (p1 : Int32) (p2 : Int32) (p3 : Int32) (h : mS) : Option mS :=
  (rG h 16 p2).bind fun v1 =>
  (rG h 16 p1).bind fun v3 =>
  (rG h 17 p2).bind fun v5 =>
  (rG h 17 p1).bind fun v7 =>
  (rG h 18 p2).bind fun v9 =>
  (rG h 18 p1).bind fun v11 =>
  (rG h 16 p3).bind fun v13 =>
  (rG h 16 p1).bind fun v15 =>
  (rG h 17 p3).bind fun v17 =>
  (rG h 17 p1).bind fun v19 =>
  (rG h 18 p3).bind fun v21 =>
  (rG h 18 p1).bind fun v23 =>
  (some (pJ h 24 (((v5 - v7) * (v21 - v23)) - ((v9 - v11) * (v17 - v19))))).bind fun s25 =>
  (some (pJ s25 25 (((v9 - v11) * (v13 - v15)) - ((v1 - v3) * (v21 - v23))))).bind fun s27 =>
  (some (pJ s27 26 (((v1 - v3) * (v17 - v19)) - ((v5 - v7) * (v13 - v15))))).bind fun s29 =>
  some s29
set_option maxHeartbeats 4000000 in
set_option maxRecDepth 100000 in
theorem emX7_across {N : Nat} {C : mh} (hC : C.length = 239) {p1 : Int32} {p2 : Int32} {p3 : Int32} {h : mS} {o : mS} (hq : mxX7_across N p1 p2 p3 h = some o) : mC mX7_across [.ref 239, .int p1, .int p2, .int p3] (hM C h) (hM C o, none) := by
  refine mC_of okX7_across (Nat.le_of_ble_eq_true rfl) ?_
  unfold mxX7_across at hq
  show mB _ mX7_across (0, [(0, .ref 239), (1, .int p1), (2, .int p2), (3, .int p3)], [], (hM C h), 0, 0)
  refine mB_run odX7_across 1 (g := (1, [(0, .ref 239), (1, .int p1), (2, .int p2), (3, .int p3)], [.ref 239], (hM C h), 0, 0)) rfl ?_
  refine r_gR odX7_across rfl rfl (md_16 hC) ?_
  refine mB_run odX7_across 1 (g := (5, [(0, .ref 239), (1, .int p1), (2, .int p2), (3, .int p3)], [.int p2, .ref 254], (hM C h), 0, 0)) rfl ?_
  obtain ⟨v1, e2, hq⟩ := bsm hq
  refine r_aJ odX7_across rfl (ra_16 hC e2) ?_
  refine mB_run odX7_across 1 (g := (7, [(0, .ref 239), (1, .int p1), (2, .int p2), (3, .int p3)], [.ref 239, .long v1], (hM C h), 0, 0)) rfl ?_
  refine r_gR odX7_across rfl rfl (md_16 hC) ?_
  refine mB_run odX7_across 1 (g := (11, [(0, .ref 239), (1, .int p1), (2, .int p2), (3, .int p3)], [.int p1, .ref 254, .long v1], (hM C h), 0, 0)) rfl ?_
  obtain ⟨v3, e4, hq⟩ := bsm hq
  refine r_aJ odX7_across rfl (ra_16 hC e4) ?_
  refine mB_run odX7_across 3 (g := (16, [(4, .long (v1 - v3)), (0, .ref 239), (1, .int p1), (2, .int p2), (3, .int p3)], [.ref 239], (hM C h), 0, 0)) rfl ?_
  refine r_gR odX7_across rfl rfl (md_17 hC) ?_
  refine mB_run odX7_across 1 (g := (20, [(4, .long (v1 - v3)), (0, .ref 239), (1, .int p1), (2, .int p2), (3, .int p3)], [.int p2, .ref 255], (hM C h), 0, 0)) rfl ?_
  obtain ⟨v5, e6, hq⟩ := bsm hq
  refine r_aJ odX7_across rfl (ra_17 hC e6) ?_
  refine mB_run odX7_across 1 (g := (22, [(4, .long (v1 - v3)), (0, .ref 239), (1, .int p1), (2, .int p2), (3, .int p3)], [.ref 239, .long v5], (hM C h), 0, 0)) rfl ?_
  refine r_gR odX7_across rfl rfl (md_17 hC) ?_
  refine mB_run odX7_across 1 (g := (26, [(4, .long (v1 - v3)), (0, .ref 239), (1, .int p1), (2, .int p2), (3, .int p3)], [.int p1, .ref 255, .long v5], (hM C h), 0, 0)) rfl ?_
  obtain ⟨v7, e8, hq⟩ := bsm hq
  refine r_aJ odX7_across rfl (ra_17 hC e8) ?_
  refine mB_run odX7_across 3 (g := (31, [(6, .long (v5 - v7)), (4, .long (v1 - v3)), (0, .ref 239), (1, .int p1), (2, .int p2), (3, .int p3)], [.ref 239], (hM C h), 0, 0)) rfl ?_
  refine r_gR odX7_across rfl rfl (md_18 hC) ?_
  refine mB_run odX7_across 1 (g := (35, [(6, .long (v5 - v7)), (4, .long (v1 - v3)), (0, .ref 239), (1, .int p1), (2, .int p2), (3, .int p3)], [.int p2, .ref 256], (hM C h), 0, 0)) rfl ?_
  obtain ⟨v9, e10, hq⟩ := bsm hq
  refine r_aJ odX7_across rfl (ra_18 hC e10) ?_
  refine mB_run odX7_across 1 (g := (37, [(6, .long (v5 - v7)), (4, .long (v1 - v3)), (0, .ref 239), (1, .int p1), (2, .int p2), (3, .int p3)], [.ref 239, .long v9], (hM C h), 0, 0)) rfl ?_
  refine r_gR odX7_across rfl rfl (md_18 hC) ?_
  refine mB_run odX7_across 1 (g := (41, [(6, .long (v5 - v7)), (4, .long (v1 - v3)), (0, .ref 239), (1, .int p1), (2, .int p2), (3, .int p3)], [.int p1, .ref 256, .long v9], (hM C h), 0, 0)) rfl ?_
  obtain ⟨v11, e12, hq⟩ := bsm hq
  refine r_aJ odX7_across rfl (ra_18 hC e12) ?_
  refine mB_run odX7_across 3 (g := (46, [(8, .long (v9 - v11)), (6, .long (v5 - v7)), (4, .long (v1 - v3)), (0, .ref 239), (1, .int p1), (2, .int p2), (3, .int p3)], [.ref 239], (hM C h), 0, 0)) rfl ?_
  refine r_gR odX7_across rfl rfl (md_16 hC) ?_
  refine mB_run odX7_across 1 (g := (50, [(8, .long (v9 - v11)), (6, .long (v5 - v7)), (4, .long (v1 - v3)), (0, .ref 239), (1, .int p1), (2, .int p2), (3, .int p3)], [.int p3, .ref 254], (hM C h), 0, 0)) rfl ?_
  obtain ⟨v13, e14, hq⟩ := bsm hq
  refine r_aJ odX7_across rfl (ra_16 hC e14) ?_
  refine mB_run odX7_across 1 (g := (52, [(8, .long (v9 - v11)), (6, .long (v5 - v7)), (4, .long (v1 - v3)), (0, .ref 239), (1, .int p1), (2, .int p2), (3, .int p3)], [.ref 239, .long v13], (hM C h), 0, 0)) rfl ?_
  refine r_gR odX7_across rfl rfl (md_16 hC) ?_
  refine mB_run odX7_across 1 (g := (56, [(8, .long (v9 - v11)), (6, .long (v5 - v7)), (4, .long (v1 - v3)), (0, .ref 239), (1, .int p1), (2, .int p2), (3, .int p3)], [.int p1, .ref 254, .long v13], (hM C h), 0, 0)) rfl ?_
  obtain ⟨v15, e16, hq⟩ := bsm hq
  refine r_aJ odX7_across rfl (ra_16 hC e16) ?_
  refine mB_run odX7_across 3 (g := (61, [(10, .long (v13 - v15)), (8, .long (v9 - v11)), (6, .long (v5 - v7)), (4, .long (v1 - v3)), (0, .ref 239), (1, .int p1), (2, .int p2), (3, .int p3)], [.ref 239], (hM C h), 0, 0)) rfl ?_
  refine r_gR odX7_across rfl rfl (md_17 hC) ?_
  refine mB_run odX7_across 1 (g := (65, [(10, .long (v13 - v15)), (8, .long (v9 - v11)), (6, .long (v5 - v7)), (4, .long (v1 - v3)), (0, .ref 239), (1, .int p1), (2, .int p2), (3, .int p3)], [.int p3, .ref 255], (hM C h), 0, 0)) rfl ?_
  obtain ⟨v17, e18, hq⟩ := bsm hq
  refine r_aJ odX7_across rfl (ra_17 hC e18) ?_
  refine mB_run odX7_across 1 (g := (67, [(10, .long (v13 - v15)), (8, .long (v9 - v11)), (6, .long (v5 - v7)), (4, .long (v1 - v3)), (0, .ref 239), (1, .int p1), (2, .int p2), (3, .int p3)], [.ref 239, .long v17], (hM C h), 0, 0)) rfl ?_
  refine r_gR odX7_across rfl rfl (md_17 hC) ?_
  refine mB_run odX7_across 1 (g := (71, [(10, .long (v13 - v15)), (8, .long (v9 - v11)), (6, .long (v5 - v7)), (4, .long (v1 - v3)), (0, .ref 239), (1, .int p1), (2, .int p2), (3, .int p3)], [.int p1, .ref 255, .long v17], (hM C h), 0, 0)) rfl ?_
  obtain ⟨v19, e20, hq⟩ := bsm hq
  refine r_aJ odX7_across rfl (ra_17 hC e20) ?_
  refine mB_run odX7_across 3 (g := (76, [(12, .long (v17 - v19)), (10, .long (v13 - v15)), (8, .long (v9 - v11)), (6, .long (v5 - v7)), (4, .long (v1 - v3)), (0, .ref 239), (1, .int p1), (2, .int p2), (3, .int p3)], [.ref 239], (hM C h), 0, 0)) rfl ?_
  refine r_gR odX7_across rfl rfl (md_18 hC) ?_
  refine mB_run odX7_across 1 (g := (80, [(12, .long (v17 - v19)), (10, .long (v13 - v15)), (8, .long (v9 - v11)), (6, .long (v5 - v7)), (4, .long (v1 - v3)), (0, .ref 239), (1, .int p1), (2, .int p2), (3, .int p3)], [.int p3, .ref 256], (hM C h), 0, 0)) rfl ?_
  obtain ⟨v21, e22, hq⟩ := bsm hq
  refine r_aJ odX7_across rfl (ra_18 hC e22) ?_
  refine mB_run odX7_across 1 (g := (82, [(12, .long (v17 - v19)), (10, .long (v13 - v15)), (8, .long (v9 - v11)), (6, .long (v5 - v7)), (4, .long (v1 - v3)), (0, .ref 239), (1, .int p1), (2, .int p2), (3, .int p3)], [.ref 239, .long v21], (hM C h), 0, 0)) rfl ?_
  refine r_gR odX7_across rfl rfl (md_18 hC) ?_
  refine mB_run odX7_across 1 (g := (86, [(12, .long (v17 - v19)), (10, .long (v13 - v15)), (8, .long (v9 - v11)), (6, .long (v5 - v7)), (4, .long (v1 - v3)), (0, .ref 239), (1, .int p1), (2, .int p2), (3, .int p3)], [.int p1, .ref 256, .long v21], (hM C h), 0, 0)) rfl ?_
  obtain ⟨v23, e24, hq⟩ := bsm hq
  refine r_aJ odX7_across rfl (ra_18 hC e24) ?_
  refine mB_run odX7_across 10 (g := (102, [(14, .long (v21 - v23)), (12, .long (v17 - v19)), (10, .long (v13 - v15)), (8, .long (v9 - v11)), (6, .long (v5 - v7)), (4, .long (v1 - v3)), (0, .ref 239), (1, .int p1), (2, .int p2), (3, .int p3)], [.long (((v5 - v7) * (v21 - v23)) - ((v9 - v11) * (v17 - v19))), .ref 239], (hM C h), 0, 0)) rfl ?_
  obtain ⟨s25, e26, hq⟩ := bsm hq
  refine r_sV odX7_across rfl rfl rfl rfl (pt_24 hC e26) ?_
  refine mB_run odX7_across 8 (g := (117, [(14, .long (v21 - v23)), (12, .long (v17 - v19)), (10, .long (v13 - v15)), (8, .long (v9 - v11)), (6, .long (v5 - v7)), (4, .long (v1 - v3)), (0, .ref 239), (1, .int p1), (2, .int p2), (3, .int p3)], [.long (((v9 - v11) * (v13 - v15)) - ((v1 - v3) * (v21 - v23))), .ref 239], (hM C s25), 0, 0)) rfl ?_
  obtain ⟨s27, e28, hq⟩ := bsm hq
  refine r_sV odX7_across rfl rfl rfl rfl (pt_25 hC e28) ?_
  refine mB_run odX7_across 8 (g := (132, [(14, .long (v21 - v23)), (12, .long (v17 - v19)), (10, .long (v13 - v15)), (8, .long (v9 - v11)), (6, .long (v5 - v7)), (4, .long (v1 - v3)), (0, .ref 239), (1, .int p1), (2, .int p2), (3, .int p3)], [.long (((v1 - v3) * (v17 - v19)) - ((v5 - v7) * (v13 - v15))), .ref 239], (hM C s27), 0, 0)) rfl ?_
  obtain ⟨s29, e30, hq⟩ := bsm hq
  refine r_sV odX7_across rfl rfl rfl rfl (pt_26 hC e30) ?_
  cases hq
  exact mB_ret odX7_across rfl
def mxX7_common_28 (N : Nat) : Nat → Int64 → Int64 → mS → Option (mS × Int64)
  | 0, _, _, _ => none
  | n + 1, x4, x6, h =>
    if x6 = (0 : Int64) then (
      some (h, x4)) else (
      if x6 = 0 then none else
      mxX7_common_28 N n x6 (x4 - x4 / x6 * x6) h)
set_option maxHeartbeats 4000000 in
set_option maxRecDepth 100000 in
theorem emX7_common_28 {N : Nat} {C : mh} (hC : C.length = 239) : ∀ (n : Nat) (x4 : Int64) (x6 : Int64) (h : mS) {o : (mS × Int64)}, mxX7_common_28 N n x4 x6 h = some o → mB (gO mX7_common (hM C o.1, some (.long o.2))) mX7_common (28, [(4, .long x4), (6, .long x6)], [], (hM C h), 0, 0) := by
  intro n
  induction n with
  | zero => intro x4 x6 h o hq; cases hq
  | succ n ih =>
    intro x4 x6 h o hq
    unfold mxX7_common_28 at hq
    refine mB_run odX7_common 2 (g := (31, [(4, .long x4), (6, .long x6)], [.long (0 : Int64), .long x6], (hM C h), 0, 0)) rfl ?_
    by_cases c3 : x6 = (0 : Int64)
    · rw [if_pos c3] at hq
      refine lc_eq_T (t := 53) odX7_common rfl rfl rfl c3 ?_
      refine mB_run odX7_common 1 (g := (55, [(4, .long x4), (6, .long x6)], [.long x4], (hM C h), 0, 0)) rfl ?_
      cases hq
      exact mB_ret odX7_common rfl
    · rw [if_neg c3] at hq
      refine lc_eq_F (t := 53) odX7_common rfl rfl rfl c3 ?_
      refine mB_run odX7_common 2 (g := (39, [(4, .long x4), (6, .long x6)], [.long x6, .long x4], (hM C h), 0, 0)) rfl ?_
      by_cases c4 : x6 = 0
      · rw [if_pos c4] at hq; cases hq
      rw [if_neg c4] at hq
      refine r_lrem odX7_common rfl c4 ?_
      refine mB_run odX7_common 6 (g := (28, [(6, .long (x4 - x4 / x6 * x6)), (4, .long x6), (8, .long (x4 - x4 / x6 * x6))], [], (hM C h), 0, 0)) rfl ?_
      refine mB_lv [1, 0] (lv' := [(4, .long x6), (6, .long (x4 - x4 / x6 * x6))]) rfl ?_
      exact ih _ _ _ hq
def mxX7_common_26 (N : Nat) (x4 : Int64) (y0 : Int64) (h : mS) : Option (mS × Int64) :=
  mxX7_common_28 N N x4 y0 h
set_option maxHeartbeats 4000000 in
set_option maxRecDepth 100000 in
theorem emX7_common_26 {N : Nat} {C : mh} (hC : C.length = 239) (x4 : Int64) (y0 : Int64) (h : mS) {o : (mS × Int64)} (hq : mxX7_common_26 N x4 y0 h = some o) : mB (gO mX7_common (hM C o.1, some (.long o.2))) mX7_common (26, [(4, .long x4)], [.long y0], (hM C h), 0, 0) := by
  unfold mxX7_common_26 at hq
  refine mB_run odX7_common 1 (g := (28, [(6, .long y0), (4, .long x4)], [], (hM C h), 0, 0)) rfl ?_
  refine mB_lv [1, 0] (lv' := [(4, .long x4), (6, .long y0)]) rfl ?_
  exact emX7_common_28 hC N _ _ _ hq
def mxX7_common_12 (N : Nat) (x2 : Int64) (y0 : Int64) (h : mS) : Option (mS × Int64) :=
  if (0 : Int64) ≤ x2 then (
    mxX7_common_26 N y0 x2 h) else (
    mxX7_common_26 N y0 (-x2) h)
set_option maxHeartbeats 4000000 in
set_option maxRecDepth 100000 in
theorem emX7_common_12 {N : Nat} {C : mh} (hC : C.length = 239) (x2 : Int64) (y0 : Int64) (h : mS) {o : (mS × Int64)} (hq : mxX7_common_12 N x2 y0 h = some o) : mB (gO mX7_common (hM C o.1, some (.long o.2))) mX7_common (12, [(2, .long x2)], [.long y0], (hM C h), 0, 0) := by
  unfold mxX7_common_12 at hq
  refine mB_run odX7_common 3 (g := (16, [(4, .long y0), (2, .long x2)], [.long (0 : Int64), .long x2], (hM C h), 0, 0)) rfl ?_
  by_cases c2 : (0 : Int64) ≤ x2
  · rw [if_pos c2] at hq
    refine lc_ge_T (t := 25) odX7_common rfl rfl rfl c2 ?_
    refine mB_run odX7_common 1 (g := (26, [(4, .long y0), (2, .long x2)], [.long x2], (hM C h), 0, 0)) rfl ?_
    refine mB_lv [0] (lv' := [(4, .long y0)]) rfl ?_
    exact emX7_common_26 hC _ _ _ hq
  · rw [if_neg c2] at hq
    refine lc_ge_F (t := 25) odX7_common rfl rfl rfl c2 ?_
    refine mB_run odX7_common 3 (g := (26, [(4, .long y0), (2, .long x2)], [.long (-x2)], (hM C h), 0, 0)) rfl ?_
    refine mB_lv [0] (lv' := [(4, .long y0)]) rfl ?_
    exact emX7_common_26 hC _ _ _ hq
def mxX7_common (N : Nat) (p0 : Int64) (p1 : Int64) (h : mS) : Option (mS × Int64) :=
  if (0 : Int64) ≤ p0 then (
    mxX7_common_12 N p1 p0 h) else (
    mxX7_common_12 N p1 (-p0) h)
set_option maxHeartbeats 4000000 in
set_option maxRecDepth 100000 in
theorem emX7_common {N : Nat} {C : mh} (hC : C.length = 239) {p0 : Int64} {p1 : Int64} {h : mS} {o : (mS × Int64)} (hq : mxX7_common N p0 p1 h = some o) : mC mX7_common [.long p0, .long p1] (hM C h) (hM C o.1, some (.long o.2)) := by
  refine mC_of okX7_common (Nat.le_of_ble_eq_true rfl) ?_
  unfold mxX7_common at hq
  show mB _ mX7_common (0, [(0, .long p0), (2, .long p1)], [], (hM C h), 0, 0)
  refine mB_run odX7_common 2 (g := (2, [(0, .long p0), (2, .long p1)], [.long (0 : Int64), .long p0], (hM C h), 0, 0)) rfl ?_
  by_cases c1 : (0 : Int64) ≤ p0
  · rw [if_pos c1] at hq
    refine lc_ge_T (t := 11) odX7_common rfl rfl rfl c1 ?_
    refine mB_run odX7_common 1 (g := (12, [(0, .long p0), (2, .long p1)], [.long p0], (hM C h), 0, 0)) rfl ?_
    refine mB_lv [1] (lv' := [(2, .long p1)]) rfl ?_
    exact emX7_common_12 hC _ _ _ hq
  · rw [if_neg c1] at hq
    refine lc_ge_F (t := 11) odX7_common rfl rfl rfl c1 ?_
    refine mB_run odX7_common 3 (g := (12, [(0, .long p0), (2, .long p1)], [.long (-p0)], (hM C h), 0, 0)) rfl ?_
    refine mB_lv [1] (lv' := [(2, .long p1)]) rfl ?_
    exact emX7_common_12 hC _ _ _ hq
def mxX7_isFlat (N : Nat)  (h : mS) : Option (mS × Int32) :=
  if (h.2.1 24) = (0 : Int64) then (
    if (h.2.1 25) = (0 : Int64) then (
      if (h.2.1 26) = (0 : Int64) then (
        some (h, (1 : Int32))) else (
        some (h, (0 : Int32)))) else (
      some (h, (0 : Int32)))) else (
    some (h, (0 : Int32)))
set_option maxHeartbeats 4000000 in
set_option maxRecDepth 100000 in
theorem emX7_isFlat {N : Nat} {C : mh} (hC : C.length = 239)  {h : mS} {o : (mS × Int32)} (hq : mxX7_isFlat N  h = some o) : mC mX7_isFlat [.ref 239] (hM C h) (hM C o.1, some (.int o.2)) := by
  refine mC_of okX7_isFlat (Nat.le_of_ble_eq_true rfl) ?_
  unfold mxX7_isFlat at hq
  show mB _ mX7_isFlat (0, [(0, .ref 239)], [], (hM C h), 0, 0)
  refine mB_run odX7_isFlat 1 (g := (1, [(0, .ref 239)], [.ref 239], (hM C h), 0, 0)) rfl ?_
  refine r_gJ odX7_isFlat rfl rfl (md_24 hC) ?_
  refine mB_run odX7_isFlat 1 (g := (5, [(0, .ref 239)], [.long (0 : Int64), .long (h.2.1 24)], (hM C h), 0, 0)) rfl ?_
  by_cases c1 : (h.2.1 24) = (0 : Int64)
  · rw [if_pos c1] at hq
    refine lc_ne_F (t := 31) odX7_isFlat rfl rfl rfl c1 ?_
    refine mB_run odX7_isFlat 1 (g := (10, [(0, .ref 239)], [.ref 239], (hM C h), 0, 0)) rfl ?_
    refine r_gJ odX7_isFlat rfl rfl (md_25 hC) ?_
    refine mB_run odX7_isFlat 1 (g := (14, [(0, .ref 239)], [.long (0 : Int64), .long (h.2.1 25)], (hM C h), 0, 0)) rfl ?_
    by_cases c2 : (h.2.1 25) = (0 : Int64)
    · rw [if_pos c2] at hq
      refine lc_ne_F (t := 31) odX7_isFlat rfl rfl rfl c2 ?_
      refine mB_run odX7_isFlat 1 (g := (19, [(0, .ref 239)], [.ref 239], (hM C h), 0, 0)) rfl ?_
      refine r_gJ odX7_isFlat rfl rfl (md_26 hC) ?_
      refine mB_run odX7_isFlat 1 (g := (23, [(0, .ref 239)], [.long (0 : Int64), .long (h.2.1 26)], (hM C h), 0, 0)) rfl ?_
      by_cases c3 : (h.2.1 26) = (0 : Int64)
      · rw [if_pos c3] at hq
        refine lc_ne_F (t := 31) odX7_isFlat rfl rfl rfl c3 ?_
        refine mB_run odX7_isFlat 2 (g := (32, [(0, .ref 239)], [.int (1 : Int32)], (hM C h), 0, 0)) rfl ?_
        cases hq
        exact mB_ret odX7_isFlat rfl
      · rw [if_neg c3] at hq
        refine lc_ne_T (t := 31) odX7_isFlat rfl rfl rfl c3 ?_
        refine mB_run odX7_isFlat 1 (g := (32, [(0, .ref 239)], [.int (0 : Int32)], (hM C h), 0, 0)) rfl ?_
        cases hq
        exact mB_ret odX7_isFlat rfl
    · rw [if_neg c2] at hq
      refine lc_ne_T (t := 31) odX7_isFlat rfl rfl rfl c2 ?_
      refine mB_run odX7_isFlat 1 (g := (32, [(0, .ref 239)], [.int (0 : Int32)], (hM C h), 0, 0)) rfl ?_
      cases hq
      exact mB_ret odX7_isFlat rfl
  · rw [if_neg c1] at hq
    refine lc_ne_T (t := 31) odX7_isFlat rfl rfl rfl c1 ?_
    refine mB_run odX7_isFlat 1 (g := (32, [(0, .ref 239)], [.int (0 : Int32)], (hM C h), 0, 0)) rfl ?_
    cases hq
    exact mB_ret odX7_isFlat rfl
def mxX7_plain (N : Nat)  (h : mS) : Option mS :=
  (mxX7_common N (h.2.1 24) (h.2.1 25) h).bind fun o1 =>
  (mxX7_common N o1.2 (o1.1.2.1 26) o1.1).bind fun o3 =>
  if o3.2 = 0 then none else
  (some (pJ o3.1 24 ((o3.1.2.1 24) / o3.2))).bind fun s6 =>
  if o3.2 = 0 then none else
  (some (pJ s6 25 ((s6.2.1 25) / o3.2))).bind fun s9 =>
  if o3.2 = 0 then none else
  (some (pJ s9 26 ((s9.2.1 26) / o3.2))).bind fun s12 =>
  some s12
set_option maxHeartbeats 4000000 in
set_option maxRecDepth 100000 in
theorem emX7_plain {N : Nat} {C : mh} (hC : C.length = 239)  {h : mS} {o : mS} (hq : mxX7_plain N  h = some o) : mC mX7_plain [.ref 239] (hM C h) (hM C o, none) := by
  refine mC_of okX7_plain (Nat.le_of_ble_eq_true rfl) ?_
  unfold mxX7_plain at hq
  show mB _ mX7_plain (0, [(0, .ref 239)], [], (hM C h), 0, 0)
  refine mB_run odX7_plain 1 (g := (1, [(0, .ref 239)], [.ref 239], (hM C h), 0, 0)) rfl ?_
  refine r_gJ odX7_plain rfl rfl (md_24 hC) ?_
  refine mB_run odX7_plain 1 (g := (5, [(0, .ref 239)], [.ref 239, .long (h.2.1 24)], (hM C h), 0, 0)) rfl ?_
  refine r_gJ odX7_plain rfl rfl (md_25 hC) ?_
  obtain ⟨o1, e2, hq⟩ := bsm hq
  refine mB_S (as := [.long (h.2.1 24), .long (h.2.1 25)]) odX7_plain okX7_common lk_7_158 rfl (emX7_common hC e2) rfl rfl rfl ?_
  show mB _ mX7_plain (11, [(0, .ref 239)], [.long o1.2], (hM C o1.1), 0, 0)
  refine mB_run odX7_plain 1 (g := (12, [(0, .ref 239)], [.ref 239, .long o1.2], (hM C o1.1), 0, 0)) rfl ?_
  refine r_gJ odX7_plain rfl rfl (md_26 hC) ?_
  obtain ⟨o3, e4, hq⟩ := bsm hq
  refine mB_S (as := [.long o1.2, .long (o1.1.2.1 26)]) odX7_plain okX7_common lk_7_158 rfl (emX7_common hC e4) rfl rfl rfl ?_
  show mB _ mX7_plain (18, [(0, .ref 239)], [.long o3.2], (hM C o3.1), 0, 0)
  refine mB_run odX7_plain 3 (g := (21, [(1, .long o3.2), (0, .ref 239)], [.ref 239, .ref 239], (hM C o3.1), 0, 0)) rfl ?_
  refine r_gJ odX7_plain rfl rfl (md_24 hC) ?_
  refine mB_run odX7_plain 1 (g := (25, [(1, .long o3.2), (0, .ref 239)], [.long o3.2, .long (o3.1.2.1 24), .ref 239], (hM C o3.1), 0, 0)) rfl ?_
  by_cases c5 : o3.2 = 0
  · rw [if_pos c5] at hq; cases hq
  rw [if_neg c5] at hq
  refine r_ldiv odX7_plain rfl c5 ?_
  obtain ⟨s6, e7, hq⟩ := bsm hq
  refine r_sV odX7_plain rfl rfl rfl rfl (pt_24 hC e7) ?_
  refine mB_run odX7_plain 2 (g := (31, [(1, .long o3.2), (0, .ref 239)], [.ref 239, .ref 239], (hM C s6), 0, 0)) rfl ?_
  refine r_gJ odX7_plain rfl rfl (md_25 hC) ?_
  refine mB_run odX7_plain 1 (g := (35, [(1, .long o3.2), (0, .ref 239)], [.long o3.2, .long (s6.2.1 25), .ref 239], (hM C s6), 0, 0)) rfl ?_
  by_cases c8 : o3.2 = 0
  · rw [if_pos c8] at hq; cases hq
  rw [if_neg c8] at hq
  refine r_ldiv odX7_plain rfl c8 ?_
  obtain ⟨s9, e10, hq⟩ := bsm hq
  refine r_sV odX7_plain rfl rfl rfl rfl (pt_25 hC e10) ?_
  refine mB_run odX7_plain 2 (g := (41, [(1, .long o3.2), (0, .ref 239)], [.ref 239, .ref 239], (hM C s9), 0, 0)) rfl ?_
  refine r_gJ odX7_plain rfl rfl (md_26 hC) ?_
  refine mB_run odX7_plain 1 (g := (45, [(1, .long o3.2), (0, .ref 239)], [.long o3.2, .long (s9.2.1 26), .ref 239], (hM C s9), 0, 0)) rfl ?_
  by_cases c11 : o3.2 = 0
  · rw [if_pos c11] at hq; cases hq
  rw [if_neg c11] at hq
  refine r_ldiv odX7_plain rfl c11 ?_
  obtain ⟨s12, e13, hq⟩ := bsm hq
  refine r_sV odX7_plain rfl rfl rfl rfl (pt_26 hC e13) ?_
  cases hq
  exact mB_ret odX7_plain rfl
def mxX7_height (N : Nat) (p1 : Int32) (h : mS) : Option (mS × Int64) :=
  (rG h 16 p1).bind fun v1 =>
  (rG h 17 p1).bind fun v3 =>
  (rG h 18 p1).bind fun v5 =>
  some (h, ((((h.2.1 24) * v1) + ((h.2.1 25) * v3)) + ((h.2.1 26) * v5)))
set_option maxHeartbeats 4000000 in
set_option maxRecDepth 100000 in
theorem emX7_height {N : Nat} {C : mh} (hC : C.length = 239) {p1 : Int32} {h : mS} {o : (mS × Int64)} (hq : mxX7_height N p1 h = some o) : mC mX7_height [.ref 239, .int p1] (hM C h) (hM C o.1, some (.long o.2)) := by
  refine mC_of okX7_height (Nat.le_of_ble_eq_true rfl) ?_
  unfold mxX7_height at hq
  show mB _ mX7_height (0, [(0, .ref 239), (1, .int p1)], [], (hM C h), 0, 0)
  refine mB_run odX7_height 1 (g := (1, [(0, .ref 239), (1, .int p1)], [.ref 239], (hM C h), 0, 0)) rfl ?_
  refine r_gJ odX7_height rfl rfl (md_24 hC) ?_
  refine mB_run odX7_height 1 (g := (5, [(0, .ref 239), (1, .int p1)], [.ref 239, .long (h.2.1 24)], (hM C h), 0, 0)) rfl ?_
  refine r_gR odX7_height rfl rfl (md_16 hC) ?_
  refine mB_run odX7_height 1 (g := (9, [(0, .ref 239), (1, .int p1)], [.int p1, .ref 254, .long (h.2.1 24)], (hM C h), 0, 0)) rfl ?_
  obtain ⟨v1, e2, hq⟩ := bsm hq
  refine r_aJ odX7_height rfl (ra_16 hC e2) ?_
  refine mB_run odX7_height 2 (g := (12, [(0, .ref 239), (1, .int p1)], [.ref 239, .long ((h.2.1 24) * v1)], (hM C h), 0, 0)) rfl ?_
  refine r_gJ odX7_height rfl rfl (md_25 hC) ?_
  refine mB_run odX7_height 1 (g := (16, [(0, .ref 239), (1, .int p1)], [.ref 239, .long (h.2.1 25), .long ((h.2.1 24) * v1)], (hM C h), 0, 0)) rfl ?_
  refine r_gR odX7_height rfl rfl (md_17 hC) ?_
  refine mB_run odX7_height 1 (g := (20, [(0, .ref 239), (1, .int p1)], [.int p1, .ref 255, .long (h.2.1 25), .long ((h.2.1 24) * v1)], (hM C h), 0, 0)) rfl ?_
  obtain ⟨v3, e4, hq⟩ := bsm hq
  refine r_aJ odX7_height rfl (ra_17 hC e4) ?_
  refine mB_run odX7_height 3 (g := (24, [(0, .ref 239), (1, .int p1)], [.ref 239, .long (((h.2.1 24) * v1) + ((h.2.1 25) * v3))], (hM C h), 0, 0)) rfl ?_
  refine r_gJ odX7_height rfl rfl (md_26 hC) ?_
  refine mB_run odX7_height 1 (g := (28, [(0, .ref 239), (1, .int p1)], [.ref 239, .long (h.2.1 26), .long (((h.2.1 24) * v1) + ((h.2.1 25) * v3))], (hM C h), 0, 0)) rfl ?_
  refine r_gR odX7_height rfl rfl (md_18 hC) ?_
  refine mB_run odX7_height 1 (g := (32, [(0, .ref 239), (1, .int p1)], [.int p1, .ref 256, .long (h.2.1 26), .long (((h.2.1 24) * v1) + ((h.2.1 25) * v3))], (hM C h), 0, 0)) rfl ?_
  obtain ⟨v5, e6, hq⟩ := bsm hq
  refine r_aJ odX7_height rfl (ra_18 hC e6) ?_
  refine mB_run odX7_height 2 (g := (35, [(0, .ref 239), (1, .int p1)], [.long ((((h.2.1 24) * v1) + ((h.2.1 25) * v3)) + ((h.2.1 26) * v5))], (hM C h), 0, 0)) rfl ?_
  cases hq
  exact mB_ret odX7_height rfl
def mxX7_leftOf (N : Nat) (p1 : Int32) (p2 : Int32) (p3 : Int32) (h : mS) : Option (mS × Int64) :=
  (rG h 16 p2).bind fun v1 =>
  (rG h 16 p1).bind fun v3 =>
  (rG h 17 p2).bind fun v5 =>
  (rG h 17 p1).bind fun v7 =>
  (rG h 18 p2).bind fun v9 =>
  (rG h 18 p1).bind fun v11 =>
  (rG h 16 p3).bind fun v13 =>
  (rG h 16 p1).bind fun v15 =>
  (rG h 17 p3).bind fun v17 =>
  (rG h 17 p1).bind fun v19 =>
  (rG h 18 p3).bind fun v21 =>
  (rG h 18 p1).bind fun v23 =>
  some (h, ((((((v5 - v7) * (v21 - v23)) - ((v9 - v11) * (v17 - v19))) * (h.2.1 24)) + ((((v9 - v11) * (v13 - v15)) - ((v1 - v3) * (v21 - v23))) * (h.2.1 25))) + ((((v1 - v3) * (v17 - v19)) - ((v5 - v7) * (v13 - v15))) * (h.2.1 26))))
set_option maxHeartbeats 4000000 in
set_option maxRecDepth 100000 in
theorem emX7_leftOf {N : Nat} {C : mh} (hC : C.length = 239) {p1 : Int32} {p2 : Int32} {p3 : Int32} {h : mS} {o : (mS × Int64)} (hq : mxX7_leftOf N p1 p2 p3 h = some o) : mC mX7_leftOf [.ref 239, .int p1, .int p2, .int p3] (hM C h) (hM C o.1, some (.long o.2)) := by
  refine mC_of okX7_leftOf (Nat.le_of_ble_eq_true rfl) ?_
  unfold mxX7_leftOf at hq
  show mB _ mX7_leftOf (0, [(0, .ref 239), (1, .int p1), (2, .int p2), (3, .int p3)], [], (hM C h), 0, 0)
  refine mB_run odX7_leftOf 1 (g := (1, [(0, .ref 239), (1, .int p1), (2, .int p2), (3, .int p3)], [.ref 239], (hM C h), 0, 0)) rfl ?_
  refine r_gR odX7_leftOf rfl rfl (md_16 hC) ?_
  refine mB_run odX7_leftOf 1 (g := (5, [(0, .ref 239), (1, .int p1), (2, .int p2), (3, .int p3)], [.int p2, .ref 254], (hM C h), 0, 0)) rfl ?_
  obtain ⟨v1, e2, hq⟩ := bsm hq
  refine r_aJ odX7_leftOf rfl (ra_16 hC e2) ?_
  refine mB_run odX7_leftOf 1 (g := (7, [(0, .ref 239), (1, .int p1), (2, .int p2), (3, .int p3)], [.ref 239, .long v1], (hM C h), 0, 0)) rfl ?_
  refine r_gR odX7_leftOf rfl rfl (md_16 hC) ?_
  refine mB_run odX7_leftOf 1 (g := (11, [(0, .ref 239), (1, .int p1), (2, .int p2), (3, .int p3)], [.int p1, .ref 254, .long v1], (hM C h), 0, 0)) rfl ?_
  obtain ⟨v3, e4, hq⟩ := bsm hq
  refine r_aJ odX7_leftOf rfl (ra_16 hC e4) ?_
  refine mB_run odX7_leftOf 3 (g := (16, [(4, .long (v1 - v3)), (0, .ref 239), (1, .int p1), (2, .int p2), (3, .int p3)], [.ref 239], (hM C h), 0, 0)) rfl ?_
  refine r_gR odX7_leftOf rfl rfl (md_17 hC) ?_
  refine mB_run odX7_leftOf 1 (g := (20, [(4, .long (v1 - v3)), (0, .ref 239), (1, .int p1), (2, .int p2), (3, .int p3)], [.int p2, .ref 255], (hM C h), 0, 0)) rfl ?_
  obtain ⟨v5, e6, hq⟩ := bsm hq
  refine r_aJ odX7_leftOf rfl (ra_17 hC e6) ?_
  refine mB_run odX7_leftOf 1 (g := (22, [(4, .long (v1 - v3)), (0, .ref 239), (1, .int p1), (2, .int p2), (3, .int p3)], [.ref 239, .long v5], (hM C h), 0, 0)) rfl ?_
  refine r_gR odX7_leftOf rfl rfl (md_17 hC) ?_
  refine mB_run odX7_leftOf 1 (g := (26, [(4, .long (v1 - v3)), (0, .ref 239), (1, .int p1), (2, .int p2), (3, .int p3)], [.int p1, .ref 255, .long v5], (hM C h), 0, 0)) rfl ?_
  obtain ⟨v7, e8, hq⟩ := bsm hq
  refine r_aJ odX7_leftOf rfl (ra_17 hC e8) ?_
  refine mB_run odX7_leftOf 3 (g := (31, [(6, .long (v5 - v7)), (4, .long (v1 - v3)), (0, .ref 239), (1, .int p1), (2, .int p2), (3, .int p3)], [.ref 239], (hM C h), 0, 0)) rfl ?_
  refine r_gR odX7_leftOf rfl rfl (md_18 hC) ?_
  refine mB_run odX7_leftOf 1 (g := (35, [(6, .long (v5 - v7)), (4, .long (v1 - v3)), (0, .ref 239), (1, .int p1), (2, .int p2), (3, .int p3)], [.int p2, .ref 256], (hM C h), 0, 0)) rfl ?_
  obtain ⟨v9, e10, hq⟩ := bsm hq
  refine r_aJ odX7_leftOf rfl (ra_18 hC e10) ?_
  refine mB_run odX7_leftOf 1 (g := (37, [(6, .long (v5 - v7)), (4, .long (v1 - v3)), (0, .ref 239), (1, .int p1), (2, .int p2), (3, .int p3)], [.ref 239, .long v9], (hM C h), 0, 0)) rfl ?_
  refine r_gR odX7_leftOf rfl rfl (md_18 hC) ?_
  refine mB_run odX7_leftOf 1 (g := (41, [(6, .long (v5 - v7)), (4, .long (v1 - v3)), (0, .ref 239), (1, .int p1), (2, .int p2), (3, .int p3)], [.int p1, .ref 256, .long v9], (hM C h), 0, 0)) rfl ?_
  obtain ⟨v11, e12, hq⟩ := bsm hq
  refine r_aJ odX7_leftOf rfl (ra_18 hC e12) ?_
  refine mB_run odX7_leftOf 3 (g := (46, [(8, .long (v9 - v11)), (6, .long (v5 - v7)), (4, .long (v1 - v3)), (0, .ref 239), (1, .int p1), (2, .int p2), (3, .int p3)], [.ref 239], (hM C h), 0, 0)) rfl ?_
  refine r_gR odX7_leftOf rfl rfl (md_16 hC) ?_
  refine mB_run odX7_leftOf 1 (g := (50, [(8, .long (v9 - v11)), (6, .long (v5 - v7)), (4, .long (v1 - v3)), (0, .ref 239), (1, .int p1), (2, .int p2), (3, .int p3)], [.int p3, .ref 254], (hM C h), 0, 0)) rfl ?_
  obtain ⟨v13, e14, hq⟩ := bsm hq
  refine r_aJ odX7_leftOf rfl (ra_16 hC e14) ?_
  refine mB_run odX7_leftOf 1 (g := (52, [(8, .long (v9 - v11)), (6, .long (v5 - v7)), (4, .long (v1 - v3)), (0, .ref 239), (1, .int p1), (2, .int p2), (3, .int p3)], [.ref 239, .long v13], (hM C h), 0, 0)) rfl ?_
  refine r_gR odX7_leftOf rfl rfl (md_16 hC) ?_
  refine mB_run odX7_leftOf 1 (g := (56, [(8, .long (v9 - v11)), (6, .long (v5 - v7)), (4, .long (v1 - v3)), (0, .ref 239), (1, .int p1), (2, .int p2), (3, .int p3)], [.int p1, .ref 254, .long v13], (hM C h), 0, 0)) rfl ?_
  obtain ⟨v15, e16, hq⟩ := bsm hq
  refine r_aJ odX7_leftOf rfl (ra_16 hC e16) ?_
  refine mB_run odX7_leftOf 3 (g := (61, [(10, .long (v13 - v15)), (8, .long (v9 - v11)), (6, .long (v5 - v7)), (4, .long (v1 - v3)), (0, .ref 239), (1, .int p1), (2, .int p2), (3, .int p3)], [.ref 239], (hM C h), 0, 0)) rfl ?_
  refine r_gR odX7_leftOf rfl rfl (md_17 hC) ?_
  refine mB_run odX7_leftOf 1 (g := (65, [(10, .long (v13 - v15)), (8, .long (v9 - v11)), (6, .long (v5 - v7)), (4, .long (v1 - v3)), (0, .ref 239), (1, .int p1), (2, .int p2), (3, .int p3)], [.int p3, .ref 255], (hM C h), 0, 0)) rfl ?_
  obtain ⟨v17, e18, hq⟩ := bsm hq
  refine r_aJ odX7_leftOf rfl (ra_17 hC e18) ?_
  refine mB_run odX7_leftOf 1 (g := (67, [(10, .long (v13 - v15)), (8, .long (v9 - v11)), (6, .long (v5 - v7)), (4, .long (v1 - v3)), (0, .ref 239), (1, .int p1), (2, .int p2), (3, .int p3)], [.ref 239, .long v17], (hM C h), 0, 0)) rfl ?_
  refine r_gR odX7_leftOf rfl rfl (md_17 hC) ?_
  refine mB_run odX7_leftOf 1 (g := (71, [(10, .long (v13 - v15)), (8, .long (v9 - v11)), (6, .long (v5 - v7)), (4, .long (v1 - v3)), (0, .ref 239), (1, .int p1), (2, .int p2), (3, .int p3)], [.int p1, .ref 255, .long v17], (hM C h), 0, 0)) rfl ?_
  obtain ⟨v19, e20, hq⟩ := bsm hq
  refine r_aJ odX7_leftOf rfl (ra_17 hC e20) ?_
  refine mB_run odX7_leftOf 3 (g := (76, [(12, .long (v17 - v19)), (10, .long (v13 - v15)), (8, .long (v9 - v11)), (6, .long (v5 - v7)), (4, .long (v1 - v3)), (0, .ref 239), (1, .int p1), (2, .int p2), (3, .int p3)], [.ref 239], (hM C h), 0, 0)) rfl ?_
  refine r_gR odX7_leftOf rfl rfl (md_18 hC) ?_
  refine mB_run odX7_leftOf 1 (g := (80, [(12, .long (v17 - v19)), (10, .long (v13 - v15)), (8, .long (v9 - v11)), (6, .long (v5 - v7)), (4, .long (v1 - v3)), (0, .ref 239), (1, .int p1), (2, .int p2), (3, .int p3)], [.int p3, .ref 256], (hM C h), 0, 0)) rfl ?_
  obtain ⟨v21, e22, hq⟩ := bsm hq
  refine r_aJ odX7_leftOf rfl (ra_18 hC e22) ?_
  refine mB_run odX7_leftOf 1 (g := (82, [(12, .long (v17 - v19)), (10, .long (v13 - v15)), (8, .long (v9 - v11)), (6, .long (v5 - v7)), (4, .long (v1 - v3)), (0, .ref 239), (1, .int p1), (2, .int p2), (3, .int p3)], [.ref 239, .long v21], (hM C h), 0, 0)) rfl ?_
  refine r_gR odX7_leftOf rfl rfl (md_18 hC) ?_
  refine mB_run odX7_leftOf 1 (g := (86, [(12, .long (v17 - v19)), (10, .long (v13 - v15)), (8, .long (v9 - v11)), (6, .long (v5 - v7)), (4, .long (v1 - v3)), (0, .ref 239), (1, .int p1), (2, .int p2), (3, .int p3)], [.int p1, .ref 256, .long v21], (hM C h), 0, 0)) rfl ?_
  obtain ⟨v23, e24, hq⟩ := bsm hq
  refine r_aJ odX7_leftOf rfl (ra_18 hC e24) ?_
  refine mB_run odX7_leftOf 10 (g := (102, [(14, .long (v21 - v23)), (12, .long (v17 - v19)), (10, .long (v13 - v15)), (8, .long (v9 - v11)), (6, .long (v5 - v7)), (4, .long (v1 - v3)), (0, .ref 239), (1, .int p1), (2, .int p2), (3, .int p3)], [.ref 239, .long (((v5 - v7) * (v21 - v23)) - ((v9 - v11) * (v17 - v19)))], (hM C h), 0, 0)) rfl ?_
  refine r_gJ odX7_leftOf rfl rfl (md_24 hC) ?_
  refine mB_run odX7_leftOf 9 (g := (118, [(14, .long (v21 - v23)), (12, .long (v17 - v19)), (10, .long (v13 - v15)), (8, .long (v9 - v11)), (6, .long (v5 - v7)), (4, .long (v1 - v3)), (0, .ref 239), (1, .int p1), (2, .int p2), (3, .int p3)], [.ref 239, .long (((v9 - v11) * (v13 - v15)) - ((v1 - v3) * (v21 - v23))), .long ((((v5 - v7) * (v21 - v23)) - ((v9 - v11) * (v17 - v19))) * (h.2.1 24))], (hM C h), 0, 0)) rfl ?_
  refine r_gJ odX7_leftOf rfl rfl (md_25 hC) ?_
  refine mB_run odX7_leftOf 10 (g := (135, [(14, .long (v21 - v23)), (12, .long (v17 - v19)), (10, .long (v13 - v15)), (8, .long (v9 - v11)), (6, .long (v5 - v7)), (4, .long (v1 - v3)), (0, .ref 239), (1, .int p1), (2, .int p2), (3, .int p3)], [.ref 239, .long (((v1 - v3) * (v17 - v19)) - ((v5 - v7) * (v13 - v15))), .long (((((v5 - v7) * (v21 - v23)) - ((v9 - v11) * (v17 - v19))) * (h.2.1 24)) + ((((v9 - v11) * (v13 - v15)) - ((v1 - v3) * (v21 - v23))) * (h.2.1 25)))], (hM C h), 0, 0)) rfl ?_
  refine r_gJ odX7_leftOf rfl rfl (md_26 hC) ?_
  refine mB_run odX7_leftOf 2 (g := (140, [(14, .long (v21 - v23)), (12, .long (v17 - v19)), (10, .long (v13 - v15)), (8, .long (v9 - v11)), (6, .long (v5 - v7)), (4, .long (v1 - v3)), (0, .ref 239), (1, .int p1), (2, .int p2), (3, .int p3)], [.long ((((((v5 - v7) * (v21 - v23)) - ((v9 - v11) * (v17 - v19))) * (h.2.1 24)) + ((((v9 - v11) * (v13 - v15)) - ((v1 - v3) * (v21 - v23))) * (h.2.1 25))) + ((((v1 - v3) * (v17 - v19)) - ((v5 - v7) * (v13 - v15))) * (h.2.1 26)))], (hM C h), 0, 0)) rfl ?_
  cases hq
  exact mB_ret odX7_leftOf rfl
def mxX7_apartOf (N : Nat) (p1 : Int32) (p2 : Int32) (h : mS) : Option (mS × Int64) :=
  (rG h 16 p1).bind fun v1 =>
  (rG h 16 p2).bind fun v3 =>
  (rG h 16 p1).bind fun v5 =>
  (rG h 16 p2).bind fun v7 =>
  (rG h 17 p1).bind fun v9 =>
  (rG h 17 p2).bind fun v11 =>
  (rG h 17 p1).bind fun v13 =>
  (rG h 17 p2).bind fun v15 =>
  (rG h 18 p1).bind fun v17 =>
  (rG h 18 p2).bind fun v19 =>
  (rG h 18 p1).bind fun v21 =>
  (rG h 18 p2).bind fun v23 =>
  some (h, ((((v1 - v3) * (v5 - v7)) + ((v9 - v11) * (v13 - v15))) + ((v17 - v19) * (v21 - v23))))
set_option maxHeartbeats 4000000 in
set_option maxRecDepth 100000 in
theorem emX7_apartOf {N : Nat} {C : mh} (hC : C.length = 239) {p1 : Int32} {p2 : Int32} {h : mS} {o : (mS × Int64)} (hq : mxX7_apartOf N p1 p2 h = some o) : mC mX7_apartOf [.ref 239, .int p1, .int p2] (hM C h) (hM C o.1, some (.long o.2)) := by
  refine mC_of okX7_apartOf (Nat.le_of_ble_eq_true rfl) ?_
  unfold mxX7_apartOf at hq
  show mB _ mX7_apartOf (0, [(0, .ref 239), (1, .int p1), (2, .int p2)], [], (hM C h), 0, 0)
  refine mB_run odX7_apartOf 1 (g := (1, [(0, .ref 239), (1, .int p1), (2, .int p2)], [.ref 239], (hM C h), 0, 0)) rfl ?_
  refine r_gR odX7_apartOf rfl rfl (md_16 hC) ?_
  refine mB_run odX7_apartOf 1 (g := (5, [(0, .ref 239), (1, .int p1), (2, .int p2)], [.int p1, .ref 254], (hM C h), 0, 0)) rfl ?_
  obtain ⟨v1, e2, hq⟩ := bsm hq
  refine r_aJ odX7_apartOf rfl (ra_16 hC e2) ?_
  refine mB_run odX7_apartOf 1 (g := (7, [(0, .ref 239), (1, .int p1), (2, .int p2)], [.ref 239, .long v1], (hM C h), 0, 0)) rfl ?_
  refine r_gR odX7_apartOf rfl rfl (md_16 hC) ?_
  refine mB_run odX7_apartOf 1 (g := (11, [(0, .ref 239), (1, .int p1), (2, .int p2)], [.int p2, .ref 254, .long v1], (hM C h), 0, 0)) rfl ?_
  obtain ⟨v3, e4, hq⟩ := bsm hq
  refine r_aJ odX7_apartOf rfl (ra_16 hC e4) ?_
  refine mB_run odX7_apartOf 2 (g := (14, [(0, .ref 239), (1, .int p1), (2, .int p2)], [.ref 239, .long (v1 - v3)], (hM C h), 0, 0)) rfl ?_
  refine r_gR odX7_apartOf rfl rfl (md_16 hC) ?_
  refine mB_run odX7_apartOf 1 (g := (18, [(0, .ref 239), (1, .int p1), (2, .int p2)], [.int p1, .ref 254, .long (v1 - v3)], (hM C h), 0, 0)) rfl ?_
  obtain ⟨v5, e6, hq⟩ := bsm hq
  refine r_aJ odX7_apartOf rfl (ra_16 hC e6) ?_
  refine mB_run odX7_apartOf 1 (g := (20, [(0, .ref 239), (1, .int p1), (2, .int p2)], [.ref 239, .long v5, .long (v1 - v3)], (hM C h), 0, 0)) rfl ?_
  refine r_gR odX7_apartOf rfl rfl (md_16 hC) ?_
  refine mB_run odX7_apartOf 1 (g := (24, [(0, .ref 239), (1, .int p1), (2, .int p2)], [.int p2, .ref 254, .long v5, .long (v1 - v3)], (hM C h), 0, 0)) rfl ?_
  obtain ⟨v7, e8, hq⟩ := bsm hq
  refine r_aJ odX7_apartOf rfl (ra_16 hC e8) ?_
  refine mB_run odX7_apartOf 3 (g := (28, [(0, .ref 239), (1, .int p1), (2, .int p2)], [.ref 239, .long ((v1 - v3) * (v5 - v7))], (hM C h), 0, 0)) rfl ?_
  refine r_gR odX7_apartOf rfl rfl (md_17 hC) ?_
  refine mB_run odX7_apartOf 1 (g := (32, [(0, .ref 239), (1, .int p1), (2, .int p2)], [.int p1, .ref 255, .long ((v1 - v3) * (v5 - v7))], (hM C h), 0, 0)) rfl ?_
  obtain ⟨v9, e10, hq⟩ := bsm hq
  refine r_aJ odX7_apartOf rfl (ra_17 hC e10) ?_
  refine mB_run odX7_apartOf 1 (g := (34, [(0, .ref 239), (1, .int p1), (2, .int p2)], [.ref 239, .long v9, .long ((v1 - v3) * (v5 - v7))], (hM C h), 0, 0)) rfl ?_
  refine r_gR odX7_apartOf rfl rfl (md_17 hC) ?_
  refine mB_run odX7_apartOf 1 (g := (38, [(0, .ref 239), (1, .int p1), (2, .int p2)], [.int p2, .ref 255, .long v9, .long ((v1 - v3) * (v5 - v7))], (hM C h), 0, 0)) rfl ?_
  obtain ⟨v11, e12, hq⟩ := bsm hq
  refine r_aJ odX7_apartOf rfl (ra_17 hC e12) ?_
  refine mB_run odX7_apartOf 2 (g := (41, [(0, .ref 239), (1, .int p1), (2, .int p2)], [.ref 239, .long (v9 - v11), .long ((v1 - v3) * (v5 - v7))], (hM C h), 0, 0)) rfl ?_
  refine r_gR odX7_apartOf rfl rfl (md_17 hC) ?_
  refine mB_run odX7_apartOf 1 (g := (45, [(0, .ref 239), (1, .int p1), (2, .int p2)], [.int p1, .ref 255, .long (v9 - v11), .long ((v1 - v3) * (v5 - v7))], (hM C h), 0, 0)) rfl ?_
  obtain ⟨v13, e14, hq⟩ := bsm hq
  refine r_aJ odX7_apartOf rfl (ra_17 hC e14) ?_
  refine mB_run odX7_apartOf 1 (g := (47, [(0, .ref 239), (1, .int p1), (2, .int p2)], [.ref 239, .long v13, .long (v9 - v11), .long ((v1 - v3) * (v5 - v7))], (hM C h), 0, 0)) rfl ?_
  refine r_gR odX7_apartOf rfl rfl (md_17 hC) ?_
  refine mB_run odX7_apartOf 1 (g := (51, [(0, .ref 239), (1, .int p1), (2, .int p2)], [.int p2, .ref 255, .long v13, .long (v9 - v11), .long ((v1 - v3) * (v5 - v7))], (hM C h), 0, 0)) rfl ?_
  obtain ⟨v15, e16, hq⟩ := bsm hq
  refine r_aJ odX7_apartOf rfl (ra_17 hC e16) ?_
  refine mB_run odX7_apartOf 4 (g := (56, [(0, .ref 239), (1, .int p1), (2, .int p2)], [.ref 239, .long (((v1 - v3) * (v5 - v7)) + ((v9 - v11) * (v13 - v15)))], (hM C h), 0, 0)) rfl ?_
  refine r_gR odX7_apartOf rfl rfl (md_18 hC) ?_
  refine mB_run odX7_apartOf 1 (g := (60, [(0, .ref 239), (1, .int p1), (2, .int p2)], [.int p1, .ref 256, .long (((v1 - v3) * (v5 - v7)) + ((v9 - v11) * (v13 - v15)))], (hM C h), 0, 0)) rfl ?_
  obtain ⟨v17, e18, hq⟩ := bsm hq
  refine r_aJ odX7_apartOf rfl (ra_18 hC e18) ?_
  refine mB_run odX7_apartOf 1 (g := (62, [(0, .ref 239), (1, .int p1), (2, .int p2)], [.ref 239, .long v17, .long (((v1 - v3) * (v5 - v7)) + ((v9 - v11) * (v13 - v15)))], (hM C h), 0, 0)) rfl ?_
  refine r_gR odX7_apartOf rfl rfl (md_18 hC) ?_
  refine mB_run odX7_apartOf 1 (g := (66, [(0, .ref 239), (1, .int p1), (2, .int p2)], [.int p2, .ref 256, .long v17, .long (((v1 - v3) * (v5 - v7)) + ((v9 - v11) * (v13 - v15)))], (hM C h), 0, 0)) rfl ?_
  obtain ⟨v19, e20, hq⟩ := bsm hq
  refine r_aJ odX7_apartOf rfl (ra_18 hC e20) ?_
  refine mB_run odX7_apartOf 2 (g := (69, [(0, .ref 239), (1, .int p1), (2, .int p2)], [.ref 239, .long (v17 - v19), .long (((v1 - v3) * (v5 - v7)) + ((v9 - v11) * (v13 - v15)))], (hM C h), 0, 0)) rfl ?_
  refine r_gR odX7_apartOf rfl rfl (md_18 hC) ?_
  refine mB_run odX7_apartOf 1 (g := (73, [(0, .ref 239), (1, .int p1), (2, .int p2)], [.int p1, .ref 256, .long (v17 - v19), .long (((v1 - v3) * (v5 - v7)) + ((v9 - v11) * (v13 - v15)))], (hM C h), 0, 0)) rfl ?_
  obtain ⟨v21, e22, hq⟩ := bsm hq
  refine r_aJ odX7_apartOf rfl (ra_18 hC e22) ?_
  refine mB_run odX7_apartOf 1 (g := (75, [(0, .ref 239), (1, .int p1), (2, .int p2)], [.ref 239, .long v21, .long (v17 - v19), .long (((v1 - v3) * (v5 - v7)) + ((v9 - v11) * (v13 - v15)))], (hM C h), 0, 0)) rfl ?_
  refine r_gR odX7_apartOf rfl rfl (md_18 hC) ?_
  refine mB_run odX7_apartOf 1 (g := (79, [(0, .ref 239), (1, .int p1), (2, .int p2)], [.int p2, .ref 256, .long v21, .long (v17 - v19), .long (((v1 - v3) * (v5 - v7)) + ((v9 - v11) * (v13 - v15)))], (hM C h), 0, 0)) rfl ?_
  obtain ⟨v23, e24, hq⟩ := bsm hq
  refine r_aJ odX7_apartOf rfl (ra_18 hC e24) ?_
  refine mB_run odX7_apartOf 3 (g := (83, [(0, .ref 239), (1, .int p1), (2, .int p2)], [.long ((((v1 - v3) * (v5 - v7)) + ((v9 - v11) * (v13 - v15))) + ((v17 - v19) * (v21 - v23)))], (hM C h), 0, 0)) rfl ?_
  cases hq
  exact mB_ret odX7_apartOf rfl
