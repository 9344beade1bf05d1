def mxX7_loads_7 (N : Nat) : Nat → Int32 → Int32 → mS → Option mS
  | 0, _, _, _ => none
  | n + 1, x1, x2, h =>
    (rA h 4 x1).bind fun v3 =>
    if v3 ≤ x2 then (
      some h) else (
      (rA h 6 (((24 : Int32) * x1) + x2)).bind fun v6 =>
      (rA h 7 (((24 : Int32) * x1) + x2)).bind fun v8 =>
      (rA h 8 (((24 : Int32) * x1) + x2)).bind fun v10 =>
      (mxX7_heaps N v6.toInt64 v8.toInt64 v10.toInt64 h).bind fun o12 =>
      mxX7_loads_7 N n x1 (x2 + (1 : Int32)) o12)
set_option maxHeartbeats 4000000 in
set_option maxRecDepth 100000 in
theorem emX7_loads_7 {N : Nat} {C : mh} (hC : C.length = 239) : ∀ (n : Nat) (x1 : Int32) (x2 : Int32) (h : mS) {o : mS}, mxX7_loads_7 N n x1 x2 h = some o → mB (gO mX7_loads (hM C o, none)) mX7_loads (7, [(0, .ref 239), (1, .int x1), (2, .int x2)], [], (hM C h), 0, 0) := by
  intro n
  induction n with
  | zero => intro x1 x2 h o hq; cases hq
  | succ n ih =>
    intro x1 x2 h o hq
    unfold mxX7_loads_7 at hq
    refine mB_run odX7_loads 2 (g := (9, [(0, .ref 239), (1, .int x1), (2, .int x2)], [.ref 239, .int x2], (hM C h), 0, 0)) rfl ?_
    refine r_gR odX7_loads rfl rfl (md_4 hC) ?_
    refine mB_run odX7_loads 1 (g := (13, [(0, .ref 239), (1, .int x1), (2, .int x2)], [.int x1, .ref 244, .int x2], (hM C h), 0, 0)) rfl ?_
    obtain ⟨v3, e4, hq⟩ := bsm hq
    refine r_aI odX7_loads rfl (ra_4 hC e4) ?_
    by_cases c5 : v3 ≤ x2
    · rw [if_pos c5] at hq
      refine ic_ge_T (t := 63) odX7_loads rfl rfl c5 ?_
      cases hq
      exact mB_ret odX7_loads rfl
    · rw [if_neg c5] at hq
      refine ic_ge_F (t := 63) odX7_loads rfl rfl c5 ?_
      refine mB_run odX7_loads 2 (g := (19, [(0, .ref 239), (1, .int x1), (2, .int x2)], [.ref 239, .ref 239], (hM C h), 0, 0)) rfl ?_
      refine r_gR odX7_loads rfl rfl (md_6 hC) ?_
      refine mB_run odX7_loads 5 (g := (28, [(0, .ref 239), (1, .int x1), (2, .int x2)], [.int (((24 : Int32) * x1) + x2), .ref 246, .ref 239], (hM C h), 0, 0)) rfl ?_
      obtain ⟨v6, e7, hq⟩ := bsm hq
      refine r_aI odX7_loads rfl (ra_6 hC e7) ?_
      refine mB_run odX7_loads 2 (g := (31, [(0, .ref 239), (1, .int x1), (2, .int x2)], [.ref 239, .long v6.toInt64, .ref 239], (hM C h), 0, 0)) rfl ?_
      refine r_gR odX7_loads rfl rfl (md_7 hC) ?_
      refine mB_run odX7_loads 5 (g := (40, [(0, .ref 239), (1, .int x1), (2, .int x2)], [.int (((24 : Int32) * x1) + x2), .ref 247, .long v6.toInt64, .ref 239], (hM C h), 0, 0)) rfl ?_
      obtain ⟨v8, e9, hq⟩ := bsm hq
      refine r_aI odX7_loads rfl (ra_7 hC e9) ?_
      refine mB_run odX7_loads 2 (g := (43, [(0, .ref 239), (1, .int x1), (2, .int x2)], [.ref 239, .long v8.toInt64, .long v6.toInt64, .ref 239], (hM C h), 0, 0)) rfl ?_
      refine r_gR odX7_loads rfl rfl (md_8 hC) ?_
      refine mB_run odX7_loads 5 (g := (52, [(0, .ref 239), (1, .int x1), (2, .int x2)], [.int (((24 : Int32) * x1) + x2), .ref 248, .long v8.toInt64, .long v6.toInt64, .ref 239], (hM C h), 0, 0)) rfl ?_
      obtain ⟨v10, e11, hq⟩ := bsm hq
      refine r_aI odX7_loads rfl (ra_8 hC e11) ?_
      refine mB_run odX7_loads 1 (g := (54, [(0, .ref 239), (1, .int x1), (2, .int x2)], [.long v10.toInt64, .long v8.toInt64, .long v6.toInt64, .ref 239], (hM C h), 0, 0)) rfl ?_
      obtain ⟨o12, e13, hq⟩ := bsm hq
      refine mB_V (as := [.long v6.toInt64, .long v8.toInt64, .long v10.toInt64]) odX7_loads okX7_heaps lk_7_222 rfl (emX7_heaps hC e13) (kO_at (md_O hC)) rfl rfl rfl ?_
      show mB _ mX7_loads (57, [(0, .ref 239), (1, .int x1), (2, .int x2)], [], (hM C o12), 0, 0)
      refine mB_run odX7_loads 2 (g := (7, [(2, .int (x2 + (1 : Int32))), (0, .ref 239), (1, .int x1)], [], (hM C o12), 0, 0)) rfl ?_
      refine mB_lv [1, 2, 0] (lv' := [(0, .ref 239), (1, .int x1), (2, .int (x2 + (1 : Int32)))]) rfl ?_
      exact ih _ _ _ hq
def mxX7_loads (N : Nat) (p1 : Int32) (h : mS) : Option mS :=
  (some (pI h 15 (0 : Int32))).bind fun s1 =>
  mxX7_loads_7 N N p1 (0 : Int32) s1
set_option maxHeartbeats 4000000 in
set_option maxRecDepth 100000 in
theorem emX7_loads {N : Nat} {C : mh} (hC : C.length = 239) {p1 : Int32} {h : mS} {o : mS} (hq : mxX7_loads N p1 h = some o) : mC mX7_loads [.ref 239, .int p1] (hM C h) (hM C o, none) := by
  refine mC_of okX7_loads (Nat.le_of_ble_eq_true rfl) ?_
  unfold mxX7_loads at hq
  show mB _ mX7_loads (0, [(0, .ref 239), (1, .int p1)], [], (hM C h), 0, 0)
  refine mB_run odX7_loads 2 (g := (2, [(0, .ref 239), (1, .int p1)], [.int (0 : Int32), .ref 239], (hM C h), 0, 0)) rfl ?_
  obtain ⟨s1, e2, hq⟩ := bsm hq
  refine r_sV odX7_loads rfl rfl rfl rfl (pt_15 hC e2) ?_
  refine mB_run odX7_loads 2 (g := (7, [(2, .int (0 : Int32)), (0, .ref 239), (1, .int p1)], [], (hM C s1), 0, 0)) rfl ?_
  refine mB_lv [1, 2, 0] (lv' := [(0, .ref 239), (1, .int p1), (2, .int (0 : Int32))]) rfl ?_
  exact emX7_loads_7 hC N _ _ _ hq
def mxX7_edgeHere_59 (N : Nat) (rec19 : Int32 → Int32 → Int32 → Int32 → Int32 → Int32 → mS → Option mS) (x1 : Int32) (x2 : Int32) (x3 : Int32) (x4 : Int32) (x5 : Int32) (x6 : Int32) (h : mS) : Option mS :=
  rec19 x1 x2 x3 x4 (x5 + (1 : Int32)) x6 h
set_option maxHeartbeats 4000000 in
set_option maxRecDepth 100000 in
theorem emX7_edgeHere_59 {N : Nat} {C : mh} (hC : C.length = 239) {rec19 : Int32 → Int32 → Int32 → Int32 → Int32 → Int32 → mS → Option mS} (hrec19 : ∀ (x1 : Int32) (x2 : Int32) (x3 : Int32) (x4 : Int32) (x5 : Int32) (x6 : Int32) (h : mS) {o : mS}, rec19 x1 x2 x3 x4 x5 x6 h = some o → mB (gO mX7_edgeHere (hM C o, none)) mX7_edgeHere (19, [(0, .ref 239), (1, .int x1), (2, .int x2), (3, .int x3), (4, .int x4), (5, .int x5), (6, .int x6)], [], (hM C h), 0, 0)) (x1 : Int32) (x2 : Int32) (x3 : Int32) (x4 : Int32) (x5 : Int32) (x6 : Int32) (h : mS) {o : mS} (hq : mxX7_edgeHere_59 N rec19 x1 x2 x3 x4 x5 x6 h = some o) : mB (gO mX7_edgeHere (hM C o, none)) mX7_edgeHere (59, [(0, .ref 239), (1, .int x1), (2, .int x2), (3, .int x3), (4, .int x4), (5, .int x5), (6, .int x6)], [], (hM C h), 0, 0) := by
  unfold mxX7_edgeHere_59 at hq
  refine mB_run odX7_edgeHere 2 (g := (19, [(5, .int (x5 + (1 : Int32))), (0, .ref 239), (1, .int x1), (2, .int x2), (3, .int x3), (4, .int x4), (6, .int x6)], [], (hM C h), 0, 0)) rfl ?_
  refine mB_lv [1, 2, 3, 4, 5, 0, 6] (lv' := [(0, .ref 239), (1, .int x1), (2, .int x2), (3, .int x3), (4, .int x4), (5, .int (x5 + (1 : Int32))), (6, .int x6)]) rfl ?_
  exact hrec19 _ _ _ _ _ _ _ hq
def mxX7_edgeHere_108 (N : Nat) : Nat → Int32 → Int32 → Int32 → Int32 → Int32 → Int32 → mS → Option mS
  | 0, _, _, _, _, _, _, _ => none
  | n + 1, x1, x2, x3, x4, x5, x7, h =>
    if x7 ≤ x5 then (
      (wA h 35 x5 x2).bind fun s23 =>
      (wA s23 36 x5 x3).bind fun s25 =>
      (wA s25 37 x5 x4).bind fun s27 =>
      (wA s27 38 x5 x4).bind fun s29 =>
      (rA s29 34 x1).bind fun v31 =>
      (wA s29 34 x1 (v31 + (1 : Int32))).bind fun s33 =>
      some s33) else (
      (rA h 35 (x7 - (1 : Int32))).bind fun v35 =>
      (wA h 35 x7 v35).bind fun s37 =>
      (rA s37 36 (x7 - (1 : Int32))).bind fun v39 =>
      (wA s37 36 x7 v39).bind fun s41 =>
      (rA s41 37 (x7 - (1 : Int32))).bind fun v43 =>
      (wA s41 37 x7 v43).bind fun s45 =>
      (rA s45 38 (x7 - (1 : Int32))).bind fun v47 =>
      (wA s45 38 x7 v47).bind fun s49 =>
      mxX7_edgeHere_108 N n x1 x2 x3 x4 x5 (x7 + (-1 : Int32)) s49)
set_option maxHeartbeats 4000000 in
set_option maxRecDepth 100000 in
theorem emX7_edgeHere_108 {N : Nat} {C : mh} (hC : C.length = 239) : ∀ (n : Nat) (x1 : Int32) (x2 : Int32) (x3 : Int32) (x4 : Int32) (x5 : Int32) (x7 : Int32) (h : mS) {o : mS}, mxX7_edgeHere_108 N n x1 x2 x3 x4 x5 x7 h = some o → mB (gO mX7_edgeHere (hM C o, none)) mX7_edgeHere (108, [(0, .ref 239), (1, .int x1), (2, .int x2), (3, .int x3), (4, .int x4), (5, .int x5), (7, .int x7)], [], (hM C h), 0, 0) := by
  intro n
  induction n with
  | zero => intro x1 x2 x3 x4 x5 x7 h o hq; cases hq
  | succ n ih =>
    intro x1 x2 x3 x4 x5 x7 h o hq
    unfold mxX7_edgeHere_108 at hq
    refine mB_run odX7_edgeHere 2 (g := (112, [(0, .ref 239), (1, .int x1), (2, .int x2), (3, .int x3), (4, .int x4), (5, .int x5), (7, .int x7)], [.int x5, .int x7], (hM C h), 0, 0)) rfl ?_
    by_cases c22 : x7 ≤ x5
    · rw [if_pos c22] at hq
      refine ic_le_T (t := 185) odX7_edgeHere rfl rfl c22 ?_
      refine mB_run odX7_edgeHere 1 (g := (186, [(0, .ref 239), (1, .int x1), (2, .int x2), (3, .int x3), (4, .int x4), (5, .int x5), (7, .int x7)], [.ref 239], (hM C h), 0, 0)) rfl ?_
      refine r_gR odX7_edgeHere rfl rfl (md_35 hC) ?_
      refine mB_run odX7_edgeHere 2 (g := (192, [(0, .ref 239), (1, .int x1), (2, .int x2), (3, .int x3), (4, .int x4), (5, .int x5), (7, .int x7)], [.int x2, .int x5, .ref 268], (hM C h), 0, 0)) rfl ?_
      obtain ⟨s23, e24, hq⟩ := bsm hq
      refine r_wI odX7_edgeHere rfl (wa_35 hC e24) ?_
      refine mB_run odX7_edgeHere 1 (g := (194, [(0, .ref 239), (1, .int x1), (2, .int x2), (3, .int x3), (4, .int x4), (5, .int x5), (7, .int x7)], [.ref 239], (hM C s23), 0, 0)) rfl ?_
      refine r_gR odX7_edgeHere rfl rfl (md_36 hC) ?_
      refine mB_run odX7_edgeHere 2 (g := (200, [(0, .ref 239), (1, .int x1), (2, .int x2), (3, .int x3), (4, .int x4), (5, .int x5), (7, .int x7)], [.int x3, .int x5, .ref 269], (hM C s23), 0, 0)) rfl ?_
      obtain ⟨s25, e26, hq⟩ := bsm hq
      refine r_wI odX7_edgeHere rfl (wa_36 hC e26) ?_
      refine mB_run odX7_edgeHere 1 (g := (202, [(0, .ref 239), (1, .int x1), (2, .int x2), (3, .int x3), (4, .int x4), (5, .int x5), (7, .int x7)], [.ref 239], (hM C s25), 0, 0)) rfl ?_
      refine r_gR odX7_edgeHere rfl rfl (md_37 hC) ?_
      refine mB_run odX7_edgeHere 2 (g := (209, [(0, .ref 239), (1, .int x1), (2, .int x2), (3, .int x3), (4, .int x4), (5, .int x5), (7, .int x7)], [.int x4, .int x5, .ref 270], (hM C s25), 0, 0)) rfl ?_
      obtain ⟨s27, e28, hq⟩ := bsm hq
      refine r_wI odX7_edgeHere rfl (wa_37 hC e28) ?_
      refine mB_run odX7_edgeHere 1 (g := (211, [(0, .ref 239), (1, .int x1), (2, .int x2), (3, .int x3), (4, .int x4), (5, .int x5), (7, .int x7)], [.ref 239], (hM C s27), 0, 0)) rfl ?_
      refine r_gR odX7_edgeHere rfl rfl (md_38 hC) ?_
      refine mB_run odX7_edgeHere 2 (g := (218, [(0, .ref 239), (1, .int x1), (2, .int x2), (3, .int x3), (4, .int x4), (5, .int x5), (7, .int x7)], [.int x4, .int x5, .ref 271], (hM C s27), 0, 0)) rfl ?_
      obtain ⟨s29, e30, hq⟩ := bsm hq
      refine r_wI odX7_edgeHere rfl (wa_38 hC e30) ?_
      refine mB_run odX7_edgeHere 1 (g := (220, [(0, .ref 239), (1, .int x1), (2, .int x2), (3, .int x3), (4, .int x4), (5, .int x5), (7, .int x7)], [.ref 239], (hM C s29), 0, 0)) rfl ?_
      refine r_gR odX7_edgeHere rfl rfl (md_34 hC) ?_
      refine mB_run odX7_edgeHere 2 (g := (225, [(0, .ref 239), (1, .int x1), (2, .int x2), (3, .int x3), (4, .int x4), (5, .int x5), (7, .int x7)], [.int x1, .ref 267, .int x1, .ref 267], (hM C s29), 0, 0)) rfl ?_
      obtain ⟨v31, e32, hq⟩ := bsm hq
      refine r_aI odX7_edgeHere rfl (ra_34 hC e32) ?_
      refine mB_run odX7_edgeHere 2 (g := (228, [(0, .ref 239), (1, .int x1), (2, .int x2), (3, .int x3), (4, .int x4), (5, .int x5), (7, .int x7)], [.int (v31 + (1 : Int32)), .int x1, .ref 267], (hM C s29), 0, 0)) rfl ?_
      obtain ⟨s33, e34, hq⟩ := bsm hq
      refine r_wI odX7_edgeHere rfl (wa_34 hC e34) ?_
      cases hq
      exact mB_ret odX7_edgeHere rfl
    · rw [if_neg c22] at hq
      refine ic_le_F (t := 185) odX7_edgeHere rfl rfl c22 ?_
      refine mB_run odX7_edgeHere 1 (g := (116, [(0, .ref 239), (1, .int x1), (2, .int x2), (3, .int x3), (4, .int x4), (5, .int x5), (7, .int x7)], [.ref 239], (hM C h), 0, 0)) rfl ?_
      refine r_gR odX7_edgeHere rfl rfl (md_35 hC) ?_
      refine mB_run odX7_edgeHere 2 (g := (122, [(0, .ref 239), (1, .int x1), (2, .int x2), (3, .int x3), (4, .int x4), (5, .int x5), (7, .int x7)], [.ref 239, .int x7, .ref 268], (hM C h), 0, 0)) rfl ?_
      refine r_gR odX7_edgeHere rfl rfl (md_35 hC) ?_
      refine mB_run odX7_edgeHere 3 (g := (129, [(0, .ref 239), (1, .int x1), (2, .int x2), (3, .int x3), (4, .int x4), (5, .int x5), (7, .int x7)], [.int (x7 - (1 : Int32)), .ref 268, .int x7, .ref 268], (hM C h), 0, 0)) rfl ?_
      obtain ⟨v35, e36, hq⟩ := bsm hq
      refine r_aI odX7_edgeHere rfl (ra_35 hC e36) ?_
      obtain ⟨s37, e38, hq⟩ := bsm hq
      refine r_wI odX7_edgeHere rfl (wa_35 hC e38) ?_
      refine mB_run odX7_edgeHere 1 (g := (132, [(0, .ref 239), (1, .int x1), (2, .int x2), (3, .int x3), (4, .int x4), (5, .int x5), (7, .int x7)], [.ref 239], (hM C s37), 0, 0)) rfl ?_
      refine r_gR odX7_edgeHere rfl rfl (md_36 hC) ?_
      refine mB_run odX7_edgeHere 2 (g := (138, [(0, .ref 239), (1, .int x1), (2, .int x2), (3, .int x3), (4, .int x4), (5, .int x5), (7, .int x7)], [.ref 239, .int x7, .ref 269], (hM C s37), 0, 0)) rfl ?_
      refine r_gR odX7_edgeHere rfl rfl (md_36 hC) ?_
      refine mB_run odX7_edgeHere 3 (g := (145, [(0, .ref 239), (1, .int x1), (2, .int x2), (3, .int x3), (4, .int x4), (5, .int x5), (7, .int x7)], [.int (x7 - (1 : Int32)), .ref 269, .int x7, .ref 269], (hM C s37), 0, 0)) rfl ?_
      obtain ⟨v39, e40, hq⟩ := bsm hq
      refine r_aI odX7_edgeHere rfl (ra_36 hC e40) ?_
      obtain ⟨s41, e42, hq⟩ := bsm hq
      refine r_wI odX7_edgeHere rfl (wa_36 hC e42) ?_
      refine mB_run odX7_edgeHere 1 (g := (148, [(0, .ref 239), (1, .int x1), (2, .int x2), (3, .int x3), (4, .int x4), (5, .int x5), (7, .int x7)], [.ref 239], (hM C s41), 0, 0)) rfl ?_
      refine r_gR odX7_edgeHere rfl rfl (md_37 hC) ?_
      refine mB_run odX7_edgeHere 2 (g := (154, [(0, .ref 239), (1, .int x1), (2, .int x2), (3, .int x3), (4, .int x4), (5, .int x5), (7, .int x7)], [.ref 239, .int x7, .ref 270], (hM C s41), 0, 0)) rfl ?_
      refine r_gR odX7_edgeHere rfl rfl (md_37 hC) ?_
      refine mB_run odX7_edgeHere 3 (g := (161, [(0, .ref 239), (1, .int x1), (2, .int x2), (3, .int x3), (4, .int x4), (5, .int x5), (7, .int x7)], [.int (x7 - (1 : Int32)), .ref 270, .int x7, .ref 270], (hM C s41), 0, 0)) rfl ?_
      obtain ⟨v43, e44, hq⟩ := bsm hq
      refine r_aI odX7_edgeHere rfl (ra_37 hC e44) ?_
      obtain ⟨s45, e46, hq⟩ := bsm hq
      refine r_wI odX7_edgeHere rfl (wa_37 hC e46) ?_
      refine mB_run odX7_edgeHere 1 (g := (164, [(0, .ref 239), (1, .int x1), (2, .int x2), (3, .int x3), (4, .int x4), (5, .int x5), (7, .int x7)], [.ref 239], (hM C s45), 0, 0)) rfl ?_
      refine r_gR odX7_edgeHere rfl rfl (md_38 hC) ?_
      refine mB_run odX7_edgeHere 2 (g := (170, [(0, .ref 239), (1, .int x1), (2, .int x2), (3, .int x3), (4, .int x4), (5, .int x5), (7, .int x7)], [.ref 239, .int x7, .ref 271], (hM C s45), 0, 0)) rfl ?_
      refine r_gR odX7_edgeHere rfl rfl (md_38 hC) ?_
      refine mB_run odX7_edgeHere 3 (g := (177, [(0, .ref 239), (1, .int x1), (2, .int x2), (3, .int x3), (4, .int x4), (5, .int x5), (7, .int x7)], [.int (x7 - (1 : Int32)), .ref 271, .int x7, .ref 271], (hM C s45), 0, 0)) rfl ?_
      obtain ⟨v47, e48, hq⟩ := bsm hq
      refine r_aI odX7_edgeHere rfl (ra_38 hC e48) ?_
      obtain ⟨s49, e50, hq⟩ := bsm hq
      refine r_wI odX7_edgeHere rfl (wa_38 hC e50) ?_
      refine mB_run odX7_edgeHere 2 (g := (108, [(7, .int (x7 + (-1 : Int32))), (0, .ref 239), (1, .int x1), (2, .int x2), (3, .int x3), (4, .int x4), (5, .int x5)], [], (hM C s49), 0, 0)) rfl ?_
      refine mB_lv [1, 2, 3, 4, 5, 6, 0] (lv' := [(0, .ref 239), (1, .int x1), (2, .int x2), (3, .int x3), (4, .int x4), (5, .int x5), (7, .int (x7 + (-1 : Int32)))]) rfl ?_
      exact ih _ _ _ _ _ _ _ hq
def mxX7_edgeHere_104 (N : Nat) (x1 : Int32) (x2 : Int32) (x3 : Int32) (x4 : Int32) (x5 : Int32) (x6 : Int32) (h : mS) : Option mS :=
  mxX7_edgeHere_108 N N x1 x2 x3 x4 x5 x6 h
set_option maxHeartbeats 4000000 in
set_option maxRecDepth 100000 in
theorem emX7_edgeHere_104 {N : Nat} {C : mh} (hC : C.length = 239) (x1 : Int32) (x2 : Int32) (x3 : Int32) (x4 : Int32) (x5 : Int32) (x6 : Int32) (h : mS) {o : mS} (hq : mxX7_edgeHere_104 N x1 x2 x3 x4 x5 x6 h = some o) : mB (gO mX7_edgeHere (hM C o, none)) mX7_edgeHere (104, [(0, .ref 239), (1, .int x1), (2, .int x2), (3, .int x3), (4, .int x4), (5, .int x5), (6, .int x6)], [], (hM C h), 0, 0) := by
  unfold mxX7_edgeHere_104 at hq
  refine mB_run odX7_edgeHere 2 (g := (108, [(7, .int x6), (0, .ref 239), (1, .int x1), (2, .int x2), (3, .int x3), (4, .int x4), (5, .int x5), (6, .int x6)], [], (hM C h), 0, 0)) rfl ?_
  refine mB_lv [1, 2, 3, 4, 5, 6, 0] (lv' := [(0, .ref 239), (1, .int x1), (2, .int x2), (3, .int x3), (4, .int x4), (5, .int x5), (7, .int x6)]) rfl ?_
  exact emX7_edgeHere_108 hC N _ _ _ _ _ _ _ hq
def mxX7_edgeHere_65 (N : Nat) (x1 : Int32) (x2 : Int32) (x3 : Int32) (x4 : Int32) (x5 : Int32) (x6 : Int32) (h : mS) : Option mS :=
  if x6 ≤ x5 then (
    mxX7_edgeHere_104 N x1 x2 x3 x4 x5 x6 h) else (
    (rA h 35 x5).bind fun v14 =>
    if v14 = x2 then (
      (rA h 36 x5).bind fun v17 =>
      if v17 = x3 then (
        (wA h 38 x5 x4).bind fun s20 =>
        some s20) else (
        mxX7_edgeHere_104 N x1 x2 x3 x4 x5 x6 h)) else (
      mxX7_edgeHere_104 N x1 x2 x3 x4 x5 x6 h))
set_option maxHeartbeats 4000000 in
set_option maxRecDepth 100000 in
theorem emX7_edgeHere_65 {N : Nat} {C : mh} (hC : C.length = 239) (x1 : Int32) (x2 : Int32) (x3 : Int32) (x4 : Int32) (x5 : Int32) (x6 : Int32) (h : mS) {o : mS} (hq : mxX7_edgeHere_65 N x1 x2 x3 x4 x5 x6 h = some o) : mB (gO mX7_edgeHere (hM C o, none)) mX7_edgeHere (65, [(0, .ref 239), (1, .int x1), (2, .int x2), (3, .int x3), (4, .int x4), (5, .int x5), (6, .int x6)], [], (hM C h), 0, 0) := by
  unfold mxX7_edgeHere_65 at hq
  refine mB_run odX7_edgeHere 2 (g := (69, [(0, .ref 239), (1, .int x1), (2, .int x2), (3, .int x3), (4, .int x4), (5, .int x5), (6, .int x6)], [.int x6, .int x5], (hM C h), 0, 0)) rfl ?_
  by_cases c13 : x6 ≤ x5
  · rw [if_pos c13] at hq
    refine ic_ge_T (t := 104) odX7_edgeHere rfl rfl c13 ?_
    refine mB_lv [0, 1, 2, 3, 4, 5, 6] (lv' := [(0, .ref 239), (1, .int x1), (2, .int x2), (3, .int x3), (4, .int x4), (5, .int x5), (6, .int x6)]) rfl ?_
    exact emX7_edgeHere_104 hC _ _ _ _ _ _ _ hq
  · rw [if_neg c13] at hq
    refine ic_ge_F (t := 104) odX7_edgeHere rfl rfl c13 ?_
    refine mB_run odX7_edgeHere 1 (g := (73, [(0, .ref 239), (1, .int x1), (2, .int x2), (3, .int x3), (4, .int x4), (5, .int x5), (6, .int x6)], [.ref 239], (hM C h), 0, 0)) rfl ?_
    refine r_gR odX7_edgeHere rfl rfl (md_35 hC) ?_
    refine mB_run odX7_edgeHere 1 (g := (78, [(0, .ref 239), (1, .int x1), (2, .int x2), (3, .int x3), (4, .int x4), (5, .int x5), (6, .int x6)], [.int x5, .ref 268], (hM C h), 0, 0)) rfl ?_
    obtain ⟨v14, e15, hq⟩ := bsm hq
    refine r_aI odX7_edgeHere rfl (ra_35 hC e15) ?_
    refine mB_run odX7_edgeHere 1 (g := (80, [(0, .ref 239), (1, .int x1), (2, .int x2), (3, .int x3), (4, .int x4), (5, .int x5), (6, .int x6)], [.int x2, .int v14], (hM C h), 0, 0)) rfl ?_
    by_cases c16 : v14 = x2
    · rw [if_pos c16] at hq
      refine ic_ne_F (t := 104) odX7_edgeHere rfl rfl c16 ?_
      refine mB_run odX7_edgeHere 1 (g := (84, [(0, .ref 239), (1, .int x1), (2, .int x2), (3, .int x3), (4, .int x4), (5, .int x5), (6, .int x6)], [.ref 239], (hM C h), 0, 0)) rfl ?_
      refine r_gR odX7_edgeHere rfl rfl (md_36 hC) ?_
      refine mB_run odX7_edgeHere 1 (g := (89, [(0, .ref 239), (1, .int x1), (2, .int x2), (3, .int x3), (4, .int x4), (5, .int x5), (6, .int x6)], [.int x5, .ref 269], (hM C h), 0, 0)) rfl ?_
      obtain ⟨v17, e18, hq⟩ := bsm hq
      refine r_aI odX7_edgeHere rfl (ra_36 hC e18) ?_
      refine mB_run odX7_edgeHere 1 (g := (91, [(0, .ref 239), (1, .int x1), (2, .int x2), (3, .int x3), (4, .int x4), (5, .int x5), (6, .int x6)], [.int x3, .int v17], (hM C h), 0, 0)) rfl ?_
      by_cases c19 : v17 = x3
      · rw [if_pos c19] at hq
        refine ic_ne_F (t := 104) odX7_edgeHere rfl rfl c19 ?_
        refine mB_run odX7_edgeHere 1 (g := (95, [(0, .ref 239), (1, .int x1), (2, .int x2), (3, .int x3), (4, .int x4), (5, .int x5), (6, .int x6)], [.ref 239], (hM C h), 0, 0)) rfl ?_
        refine r_gR odX7_edgeHere rfl rfl (md_38 hC) ?_
        refine mB_run odX7_edgeHere 2 (g := (102, [(0, .ref 239), (1, .int x1), (2, .int x2), (3, .int x3), (4, .int x4), (5, .int x5), (6, .int x6)], [.int x4, .int x5, .ref 271], (hM C h), 0, 0)) rfl ?_
        obtain ⟨s20, e21, hq⟩ := bsm hq
        refine r_wI odX7_edgeHere rfl (wa_38 hC e21) ?_
        cases hq
        exact mB_ret odX7_edgeHere rfl
      · rw [if_neg c19] at hq
        refine ic_ne_T (t := 104) odX7_edgeHere rfl rfl c19 ?_
        refine mB_lv [0, 1, 2, 3, 4, 5, 6] (lv' := [(0, .ref 239), (1, .int x1), (2, .int x2), (3, .int x3), (4, .int x4), (5, .int x5), (6, .int x6)]) rfl ?_
        exact emX7_edgeHere_104 hC _ _ _ _ _ _ _ hq
    · rw [if_neg c16] at hq
      refine ic_ne_T (t := 104) odX7_edgeHere rfl rfl c16 ?_
      refine mB_lv [0, 1, 2, 3, 4, 5, 6] (lv' := [(0, .ref 239), (1, .int x1), (2, .int x2), (3, .int x3), (4, .int x4), (5, .int x5), (6, .int x6)]) rfl ?_
      exact emX7_edgeHere_104 hC _ _ _ _ _ _ _ hq
def mxX7_edgeHere_19 (N : Nat) : Nat → Int32 → Int32 → Int32 → Int32 → Int32 → Int32 → mS → Option mS
  | 0, _, _, _, _, _, _, _ => none
  | n + 1, x1, x2, x3, x4, x5, x6, h =>
    if x6 ≤ x5 then (
      mxX7_edgeHere_65 N x1 x2 x3 x4 x5 x6 h) else (
      (rA h 35 x5).bind fun v4 =>
      if v4 < x2 then (
        mxX7_edgeHere_59 N (mxX7_edgeHere_19 N n) x1 x2 x3 x4 x5 x6 h) else (
        (rA h 35 x5).bind fun v7 =>
        if v7 = x2 then (
          (rA h 36 x5).bind fun v10 =>
          if x3 ≤ v10 then (
            mxX7_edgeHere_65 N x1 x2 x3 x4 x5 x6 h) else (
            mxX7_edgeHere_59 N (mxX7_edgeHere_19 N n) x1 x2 x3 x4 x5 x6 h)) else (
          mxX7_edgeHere_65 N x1 x2 x3 x4 x5 x6 h)))
set_option maxHeartbeats 4000000 in
set_option maxRecDepth 100000 in
theorem emX7_edgeHere_19 {N : Nat} {C : mh} (hC : C.length = 239) : ∀ (n : Nat) (x1 : Int32) (x2 : Int32) (x3 : Int32) (x4 : Int32) (x5 : Int32) (x6 : Int32) (h : mS) {o : mS}, mxX7_edgeHere_19 N n x1 x2 x3 x4 x5 x6 h = some o → mB (gO mX7_edgeHere (hM C o, none)) mX7_edgeHere (19, [(0, .ref 239), (1, .int x1), (2, .int x2), (3, .int x3), (4, .int x4), (5, .int x5), (6, .int x6)], [], (hM C h), 0, 0) := by
  intro n
  induction n with
  | zero => intro x1 x2 x3 x4 x5 x6 h o hq; cases hq
  | succ n ih =>
    intro x1 x2 x3 x4 x5 x6 h o hq
    unfold mxX7_edgeHere_19 at hq
    refine mB_run odX7_edgeHere 2 (g := (23, [(0, .ref 239), (1, .int x1), (2, .int x2), (3, .int x3), (4, .int x4), (5, .int x5), (6, .int x6)], [.int x6, .int x5], (hM C h), 0, 0)) rfl ?_
    by_cases c3 : x6 ≤ x5
    · rw [if_pos c3] at hq
      refine ic_ge_T (t := 65) odX7_edgeHere rfl rfl c3 ?_
      refine mB_lv [0, 1, 2, 3, 4, 5, 6] (lv' := [(0, .ref 239), (1, .int x1), (2, .int x2), (3, .int x3), (4, .int x4), (5, .int x5), (6, .int x6)]) rfl ?_
      exact emX7_edgeHere_65 hC _ _ _ _ _ _ _ hq
    · rw [if_neg c3] at hq
      refine ic_ge_F (t := 65) odX7_edgeHere rfl rfl c3 ?_
      refine mB_run odX7_edgeHere 1 (g := (27, [(0, .ref 239), (1, .int x1), (2, .int x2), (3, .int x3), (4, .int x4), (5, .int x5), (6, .int x6)], [.ref 239], (hM C h), 0, 0)) rfl ?_
      refine r_gR odX7_edgeHere rfl rfl (md_35 hC) ?_
      refine mB_run odX7_edgeHere 1 (g := (32, [(0, .ref 239), (1, .int x1), (2, .int x2), (3, .int x3), (4, .int x4), (5, .int x5), (6, .int x6)], [.int x5, .ref 268], (hM C h), 0, 0)) rfl ?_
      obtain ⟨v4, e5, hq⟩ := bsm hq
      refine r_aI odX7_edgeHere rfl (ra_35 hC e5) ?_
      refine mB_run odX7_edgeHere 1 (g := (34, [(0, .ref 239), (1, .int x1), (2, .int x2), (3, .int x3), (4, .int x4), (5, .int x5), (6, .int x6)], [.int x2, .int v4], (hM C h), 0, 0)) rfl ?_
      by_cases c6 : v4 < x2
      · rw [if_pos c6] at hq
        refine ic_lt_T (t := 59) odX7_edgeHere rfl rfl c6 ?_
        refine mB_lv [0, 1, 2, 3, 4, 5, 6] (lv' := [(0, .ref 239), (1, .int x1), (2, .int x2), (3, .int x3), (4, .int x4), (5, .int x5), (6, .int x6)]) rfl ?_
        exact emX7_edgeHere_59 hC ih _ _ _ _ _ _ _ hq
      · rw [if_neg c6] at hq
        refine ic_lt_F (t := 59) odX7_edgeHere rfl rfl c6 ?_
        refine mB_run odX7_edgeHere 1 (g := (38, [(0, .ref 239), (1, .int x1), (2, .int x2), (3, .int x3), (4, .int x4), (5, .int x5), (6, .int x6)], [.ref 239], (hM C h), 0, 0)) rfl ?_
        refine r_gR odX7_edgeHere rfl rfl (md_35 hC) ?_
        refine mB_run odX7_edgeHere 1 (g := (43, [(0, .ref 239), (1, .int x1), (2, .int x2), (3, .int x3), (4, .int x4), (5, .int x5), (6, .int x6)], [.int x5, .ref 268], (hM C h), 0, 0)) rfl ?_
        obtain ⟨v7, e8, hq⟩ := bsm hq
        refine r_aI odX7_edgeHere rfl (ra_35 hC e8) ?_
        refine mB_run odX7_edgeHere 1 (g := (45, [(0, .ref 239), (1, .int x1), (2, .int x2), (3, .int x3), (4, .int x4), (5, .int x5), (6, .int x6)], [.int x2, .int v7], (hM C h), 0, 0)) rfl ?_
        by_cases c9 : v7 = x2
        · rw [if_pos c9] at hq
          refine ic_ne_F (t := 65) odX7_edgeHere rfl rfl c9 ?_
          refine mB_run odX7_edgeHere 1 (g := (49, [(0, .ref 239), (1, .int x1), (2, .int x2), (3, .int x3), (4, .int x4), (5, .int x5), (6, .int x6)], [.ref 239], (hM C h), 0, 0)) rfl ?_
          refine r_gR odX7_edgeHere rfl rfl (md_36 hC) ?_
          refine mB_run odX7_edgeHere 1 (g := (54, [(0, .ref 239), (1, .int x1), (2, .int x2), (3, .int x3), (4, .int x4), (5, .int x5), (6, .int x6)], [.int x5, .ref 269], (hM C h), 0, 0)) rfl ?_
          obtain ⟨v10, e11, hq⟩ := bsm hq
          refine r_aI odX7_edgeHere rfl (ra_36 hC e11) ?_
          refine mB_run odX7_edgeHere 1 (g := (56, [(0, .ref 239), (1, .int x1), (2, .int x2), (3, .int x3), (4, .int x4), (5, .int x5), (6, .int x6)], [.int x3, .int v10], (hM C h), 0, 0)) rfl ?_
          by_cases c12 : x3 ≤ v10
          · rw [if_pos c12] at hq
            refine ic_ge_T (t := 65) odX7_edgeHere rfl rfl c12 ?_
            refine mB_lv [0, 1, 2, 3, 4, 5, 6] (lv' := [(0, .ref 239), (1, .int x1), (2, .int x2), (3, .int x3), (4, .int x4), (5, .int x5), (6, .int x6)]) rfl ?_
            exact emX7_edgeHere_65 hC _ _ _ _ _ _ _ hq
          · rw [if_neg c12] at hq
            refine ic_ge_F (t := 65) odX7_edgeHere rfl rfl c12 ?_
            refine mB_lv [0, 1, 2, 3, 4, 5, 6] (lv' := [(0, .ref 239), (1, .int x1), (2, .int x2), (3, .int x3), (4, .int x4), (5, .int x5), (6, .int x6)]) rfl ?_
            exact emX7_edgeHere_59 hC ih _ _ _ _ _ _ _ hq
        · rw [if_neg c9] at hq
          refine ic_ne_T (t := 65) odX7_edgeHere rfl rfl c9 ?_
          refine mB_lv [0, 1, 2, 3, 4, 5, 6] (lv' := [(0, .ref 239), (1, .int x1), (2, .int x2), (3, .int x3), (4, .int x4), (5, .int x5), (6, .int x6)]) rfl ?_
          exact emX7_edgeHere_65 hC _ _ _ _ _ _ _ hq
def mxX7_edgeHere (N : Nat) (p1 : Int32) (p2 : Int32) (p3 : Int32) (p4 : Int32) (h : mS) : Option mS :=
  (rA h 34 p1).bind fun v1 =>
  mxX7_edgeHere_19 N N p1 p2 p3 p4 ((80 : Int32) * p1) (((80 : Int32) * p1) + v1) h
set_option maxHeartbeats 4000000 in
set_option maxRecDepth 100000 in
theorem emX7_edgeHere {N : Nat} {C : mh} (hC : C.length = 239) {p1 : Int32} {p2 : Int32} {p3 : Int32} {p4 : Int32} {h : mS} {o : mS} (hq : mxX7_edgeHere N p1 p2 p3 p4 h = some o) : mC mX7_edgeHere [.ref 239, .int p1, .int p2, .int p3, .int p4] (hM C h) (hM C o, none) := by
  refine mC_of okX7_edgeHere (Nat.le_of_ble_eq_true rfl) ?_
  unfold mxX7_edgeHere at hq
  show mB _ mX7_edgeHere (0, [(0, .ref 239), (1, .int p1), (2, .int p2), (3, .int p3), (4, .int p4)], [], (hM C h), 0, 0)
  refine mB_run odX7_edgeHere 8 (g := (11, [(5, .int ((80 : Int32) * p1)), (0, .ref 239), (1, .int p1), (2, .int p2), (3, .int p3), (4, .int p4)], [.ref 239, .int ((80 : Int32) * p1)], (hM C h), 0, 0)) rfl ?_
  refine r_gR odX7_edgeHere rfl rfl (md_34 hC) ?_
  refine mB_run odX7_edgeHere 1 (g := (15, [(5, .int ((80 : Int32) * p1)), (0, .ref 239), (1, .int p1), (2, .int p2), (3, .int p3), (4, .int p4)], [.int p1, .ref 267, .int ((80 : Int32) * p1)], (hM C h), 0, 0)) rfl ?_
  obtain ⟨v1, e2, hq⟩ := bsm hq
  refine r_aI odX7_edgeHere rfl (ra_34 hC e2) ?_
  refine mB_run odX7_edgeHere 2 (g := (19, [(6, .int (((80 : Int32) * p1) + v1)), (5, .int ((80 : Int32) * p1)), (0, .ref 239), (1, .int p1), (2, .int p2), (3, .int p3), (4, .int p4)], [], (hM C h), 0, 0)) rfl ?_
  refine mB_lv [2, 3, 4, 5, 6, 1, 0] (lv' := [(0, .ref 239), (1, .int p1), (2, .int p2), (3, .int p3), (4, .int p4), (5, .int ((80 : Int32) * p1)), (6, .int (((80 : Int32) * p1) + v1))]) rfl ?_
  exact emX7_edgeHere_19 hC N _ _ _ _ _ _ _ hq
def mxX7_knows_180 (N : Nat) (rec77 : Int32 → Int32 → mS → Option mS) (rec98 : Int32 → Int32 → Int32 → Int32 → mS → Option mS) (x2 : Int32) (x3 : Int32) (x4 : Int32) (x5 : Int32) (y0 : Int32) (y1 : Int32) (y2 : Int32) (h : mS) : Option mS :=
  (mxX7_edgeHere N y2 y1 y0 x3 h).bind fun o35 =>
  rec98 x2 x3 x4 (x5 + (1 : Int32)) o35
set_option maxHeartbeats 4000000 in
set_option maxRecDepth 100000 in
theorem emX7_knows_180 {N : Nat} {C : mh} (hC : C.length = 239) {rec77 : Int32 → Int32 → mS → Option mS} {rec98 : Int32 → Int32 → Int32 → Int32 → mS → Option mS} (hrec77 : ∀ (x2 : Int32) (x3 : Int32) (h : mS) {o : mS}, rec77 x2 x3 h = some o → mB (gO mX7_knows (hM C o, none)) mX7_knows (77, [(0, .ref 239), (2, .int x2), (3, .int x3)], [], (hM C h), 0, 0)) (hrec98 : ∀ (x2 : Int32) (x3 : Int32) (x4 : Int32) (x5 : Int32) (h : mS) {o : mS}, rec98 x2 x3 x4 x5 h = some o → mB (gO mX7_knows (hM C o, none)) mX7_knows (98, [(0, .ref 239), (2, .int x2), (3, .int x3), (4, .int x4), (5, .int x5)], [], (hM C h), 0, 0)) (x2 : Int32) (x3 : Int32) (x4 : Int32) (x5 : Int32) (y0 : Int32) (y1 : Int32) (y2 : Int32) (h : mS) {o : mS} (hq : mxX7_knows_180 N rec77 rec98 x2 x3 x4 x5 y0 y1 y2 h = some o) : mB (gO mX7_knows (hM C o, none)) mX7_knows (180, [(0, .ref 239), (2, .int x2), (3, .int x3), (4, .int x4), (5, .int x5)], [.int y0, .int y1, .int y2, .ref 239], (hM C h), 0, 0) := by
  unfold mxX7_knows_180 at hq
  refine mB_run odX7_knows 1 (g := (181, [(0, .ref 239), (2, .int x2), (3, .int x3), (4, .int x4), (5, .int x5)], [.int x3, .int y0, .int y1, .int y2, .ref 239], (hM C h), 0, 0)) rfl ?_
  obtain ⟨o35, e36, hq⟩ := bsm hq
  refine mB_V (as := [.int y2, .int y1, .int y0, .int x3]) odX7_knows okX7_edgeHere lk_7_233 rfl (emX7_edgeHere hC e36) (kO_at (md_O hC)) rfl rfl rfl ?_
  show mB _ mX7_knows (184, [(0, .ref 239), (2, .int x2), (3, .int x3), (4, .int x4), (5, .int x5)], [], (hM C o35), 0, 0)
  refine mB_run odX7_knows 2 (g := (98, [(5, .int (x5 + (1 : Int32))), (0, .ref 239), (2, .int x2), (3, .int x3), (4, .int x4)], [], (hM C o35), 0, 0)) rfl ?_
  refine mB_lv [1, 2, 3, 4, 0] (lv' := [(0, .ref 239), (2, .int x2), (3, .int x3), (4, .int x4), (5, .int (x5 + (1 : Int32)))]) rfl ?_
  exact hrec98 _ _ _ _ _ hq
def mxX7_knows_166 (N : Nat) (rec77 : Int32 → Int32 → mS → Option mS) (rec98 : Int32 → Int32 → Int32 → Int32 → mS → Option mS) (x2 : Int32) (x3 : Int32) (x4 : Int32) (x5 : Int32) (x6 : Int32) (x7 : Int32) (y0 : Int32) (y1 : Int32) (h : mS) : Option mS :=
  if x7 ≤ x6 then (
    mxX7_knows_180 N rec77 rec98 x2 x3 x4 x5 x6 y0 y1 h) else (
    mxX7_knows_180 N rec77 rec98 x2 x3 x4 x5 x7 y0 y1 h)
set_option maxHeartbeats 4000000 in
set_option maxRecDepth 100000 in
theorem emX7_knows_166 {N : Nat} {C : mh} (hC : C.length = 239) {rec77 : Int32 → Int32 → mS → Option mS} {rec98 : Int32 → Int32 → Int32 → Int32 → mS → Option mS} (hrec77 : ∀ (x2 : Int32) (x3 : Int32) (h : mS) {o : mS}, rec77 x2 x3 h = some o → mB (gO mX7_knows (hM C o, none)) mX7_knows (77, [(0, .ref 239), (2, .int x2), (3, .int x3)], [], (hM C h), 0, 0)) (hrec98 : ∀ (x2 : Int32) (x3 : Int32) (x4 : Int32) (x5 : Int32) (h : mS) {o : mS}, rec98 x2 x3 x4 x5 h = some o → mB (gO mX7_knows (hM C o, none)) mX7_knows (98, [(0, .ref 239), (2, .int x2), (3, .int x3), (4, .int x4), (5, .int x5)], [], (hM C h), 0, 0)) (x2 : Int32) (x3 : Int32) (x4 : Int32) (x5 : Int32) (x6 : Int32) (x7 : Int32) (y0 : Int32) (y1 : Int32) (h : mS) {o : mS} (hq : mxX7_knows_166 N rec77 rec98 x2 x3 x4 x5 x6 x7 y0 y1 h = some o) : mB (gO mX7_knows (hM C o, none)) mX7_knows (166, [(0, .ref 239), (2, .int x2), (3, .int x3), (4, .int x4), (5, .int x5), (6, .int x6), (7, .int x7)], [.int y0, .int y1, .ref 239], (hM C h), 0, 0) := by
  unfold mxX7_knows_166 at hq
  refine mB_run odX7_knows 2 (g := (170, [(0, .ref 239), (2, .int x2), (3, .int x3), (4, .int x4), (5, .int x5), (6, .int x6), (7, .int x7)], [.int x7, .int x6, .int y0, .int y1, .ref 239], (hM C h), 0, 0)) rfl ?_
  by_cases c34 : x7 ≤ x6
  · rw [if_pos c34] at hq
    refine ic_ge_T (t := 178) odX7_knows rfl rfl c34 ?_
    refine mB_run odX7_knows 1 (g := (180, [(0, .ref 239), (2, .int x2), (3, .int x3), (4, .int x4), (5, .int x5), (6, .int x6), (7, .int x7)], [.int x6, .int y0, .int y1, .ref 239], (hM C h), 0, 0)) rfl ?_
    refine mB_lv [0, 1, 2, 3, 4] (lv' := [(0, .ref 239), (2, .int x2), (3, .int x3), (4, .int x4), (5, .int x5)]) rfl ?_
    exact emX7_knows_180 hC hrec77 hrec98 _ _ _ _ _ _ _ _ hq
  · rw [if_neg c34] at hq
    refine ic_ge_F (t := 178) odX7_knows rfl rfl c34 ?_
    refine mB_run odX7_knows 2 (g := (180, [(0, .ref 239), (2, .int x2), (3, .int x3), (4, .int x4), (5, .int x5), (6, .int x6), (7, .int x7)], [.int x7, .int y0, .int y1, .ref 239], (hM C h), 0, 0)) rfl ?_
    refine mB_lv [0, 1, 2, 3, 4] (lv' := [(0, .ref 239), (2, .int x2), (3, .int x3), (4, .int x4), (5, .int x5)]) rfl ?_
    exact emX7_knows_180 hC hrec77 hrec98 _ _ _ _ _ _ _ _ hq
def mxX7_knows_98 (N : Nat) (rec77 : Int32 → Int32 → mS → Option mS) : Nat → Int32 → Int32 → Int32 → Int32 → mS → Option mS
  | 0, _, _, _, _, _ => none
  | n + 1, x2, x3, x4, x5, h =>
    (rA h 32 x4).bind fun v23 =>
    if v23 ≤ x5 then (
      rec77 x2 (x3 + (1 : Int32)) h) else (
      (rA h 33 (((25 : Int32) * x4) + x5)).bind fun v26 =>
      (rA h 32 x4).bind fun v28 =>
      if v28 = 0 then none else
      (rA h 33 (((25 : Int32) * x4) + ((x5 + (1 : Int32)) - (x5 + (1 : Int32)) / v28 * v28))).bind fun v31 =>
      if v31 ≤ v26 then (
        mxX7_knows_166 N rec77 (mxX7_knows_98 N rec77 n) x2 x3 x4 x5 v26 v31 v31 x2 h) else (
        mxX7_knows_166 N rec77 (mxX7_knows_98 N rec77 n) x2 x3 x4 x5 v26 v31 v26 x2 h))
set_option maxHeartbeats 4000000 in
set_option maxRecDepth 100000 in
theorem emX7_knows_98 {N : Nat} {C : mh} (hC : C.length = 239) {rec77 : Int32 → Int32 → mS → Option mS} (hrec77 : ∀ (x2 : Int32) (x3 : Int32) (h : mS) {o : mS}, rec77 x2 x3 h = some o → mB (gO mX7_knows (hM C o, none)) mX7_knows (77, [(0, .ref 239), (2, .int x2), (3, .int x3)], [], (hM C h), 0, 0)) : ∀ (n : Nat) (x2 : Int32) (x3 : Int32) (x4 : Int32) (x5 : Int32) (h : mS) {o : mS}, mxX7_knows_98 N rec77 n x2 x3 x4 x5 h = some o → mB (gO mX7_knows (hM C o, none)) mX7_knows (98, [(0, .ref 239), (2, .int x2), (3, .int x3), (4, .int x4), (5, .int x5)], [], (hM C h), 0, 0) := by
  intro n
  induction n with
  | zero => intro x2 x3 x4 x5 h o hq; cases hq
  | succ n ih =>
    intro x2 x3 x4 x5 h o hq
    unfold mxX7_knows_98 at hq
    refine mB_run odX7_knows 2 (g := (101, [(0, .ref 239), (2, .int x2), (3, .int x3), (4, .int x4), (5, .int x5)], [.ref 239, .int x5], (hM C h), 0, 0)) rfl ?_
    refine r_gR odX7_knows rfl rfl (md_32 hC) ?_
    refine mB_run odX7_knows 1 (g := (106, [(0, .ref 239), (2, .int x2), (3, .int x3), (4, .int x4), (5, .int x5)], [.int x4, .ref 265, .int x5], (hM C h), 0, 0)) rfl ?_
    obtain ⟨v23, e24, hq⟩ := bsm hq
    refine r_aI odX7_knows rfl (ra_32 hC e24) ?_
    by_cases c25 : v23 ≤ x5
    · rw [if_pos c25] at hq
      refine ic_ge_T (t := 190) odX7_knows rfl rfl c25 ?_
      refine mB_run odX7_knows 2 (g := (77, [(3, .int (x3 + (1 : Int32))), (0, .ref 239), (2, .int x2), (4, .int x4), (5, .int x5)], [], (hM C h), 0, 0)) rfl ?_
      refine mB_lv [1, 2, 0] (lv' := [(0, .ref 239), (2, .int x2), (3, .int (x3 + (1 : Int32)))]) rfl ?_
      exact hrec77 _ _ _ hq
    · rw [if_neg c25] at hq
      refine ic_ge_F (t := 190) odX7_knows rfl rfl c25 ?_
      refine mB_run odX7_knows 1 (g := (111, [(0, .ref 239), (2, .int x2), (3, .int x3), (4, .int x4), (5, .int x5)], [.ref 239], (hM C h), 0, 0)) rfl ?_
      refine r_gR odX7_knows rfl rfl (md_33 hC) ?_
      refine mB_run odX7_knows 5 (g := (122, [(0, .ref 239), (2, .int x2), (3, .int x3), (4, .int x4), (5, .int x5)], [.int (((25 : Int32) * x4) + x5), .ref 266], (hM C h), 0, 0)) rfl ?_
      obtain ⟨v26, e27, hq⟩ := bsm hq
      refine r_aI odX7_knows rfl (ra_33 hC e27) ?_
      refine mB_run odX7_knows 2 (g := (126, [(6, .int v26), (0, .ref 239), (2, .int x2), (3, .int x3), (4, .int x4), (5, .int x5)], [.ref 239], (hM C h), 0, 0)) rfl ?_
      refine r_gR odX7_knows rfl rfl (md_33 hC) ?_
      refine mB_run odX7_knows 7 (g := (139, [(6, .int v26), (0, .ref 239), (2, .int x2), (3, .int x3), (4, .int x4), (5, .int x5)], [.ref 239, .int (x5 + (1 : Int32)), .int ((25 : Int32) * x4), .ref 266], (hM C h), 0, 0)) rfl ?_
      refine r_gR odX7_knows rfl rfl (md_32 hC) ?_
      refine mB_run odX7_knows 1 (g := (144, [(6, .int v26), (0, .ref 239), (2, .int x2), (3, .int x3), (4, .int x4), (5, .int x5)], [.int x4, .ref 265, .int (x5 + (1 : Int32)), .int ((25 : Int32) * x4), .ref 266], (hM C h), 0, 0)) rfl ?_
      obtain ⟨v28, e29, hq⟩ := bsm hq
      refine r_aI odX7_knows rfl (ra_32 hC e29) ?_
      by_cases c30 : v28 = 0
      · rw [if_pos c30] at hq; cases hq
      rw [if_neg c30] at hq
      refine r_irem odX7_knows rfl c30 ?_
      refine mB_run odX7_knows 1 (g := (147, [(6, .int v26), (0, .ref 239), (2, .int x2), (3, .int x3), (4, .int x4), (5, .int x5)], [.int (((25 : Int32) * x4) + ((x5 + (1 : Int32)) - (x5 + (1 : Int32)) / v28 * v28)), .ref 266], (hM C h), 0, 0)) rfl ?_
      obtain ⟨v31, e32, hq⟩ := bsm hq
      refine r_aI odX7_knows rfl (ra_33 hC e32) ?_
      refine mB_run odX7_knows 5 (g := (156, [(7, .int v31), (6, .int v26), (0, .ref 239), (2, .int x2), (3, .int x3), (4, .int x4), (5, .int x5)], [.int v31, .int v26, .int x2, .ref 239], (hM C h), 0, 0)) rfl ?_
      by_cases c33 : v31 ≤ v26
      · rw [if_pos c33] at hq
        refine ic_ge_T (t := 164) odX7_knows rfl rfl c33 ?_
        refine mB_run odX7_knows 1 (g := (166, [(7, .int v31), (6, .int v26), (0, .ref 239), (2, .int x2), (3, .int x3), (4, .int x4), (5, .int x5)], [.int v31, .int x2, .ref 239], (hM C h), 0, 0)) rfl ?_
        refine mB_lv [2, 3, 4, 5, 6, 1, 0] (lv' := [(0, .ref 239), (2, .int x2), (3, .int x3), (4, .int x4), (5, .int x5), (6, .int v26), (7, .int v31)]) rfl ?_
        exact emX7_knows_166 hC hrec77 ih _ _ _ _ _ _ _ _ _ hq
      · rw [if_neg c33] at hq
        refine ic_ge_F (t := 164) odX7_knows rfl rfl c33 ?_
        refine mB_run odX7_knows 2 (g := (166, [(7, .int v31), (6, .int v26), (0, .ref 239), (2, .int x2), (3, .int x3), (4, .int x4), (5, .int x5)], [.int v26, .int x2, .ref 239], (hM C h), 0, 0)) rfl ?_
        refine mB_lv [2, 3, 4, 5, 6, 1, 0] (lv' := [(0, .ref 239), (2, .int x2), (3, .int x3), (4, .int x4), (5, .int x5), (6, .int v26), (7, .int v31)]) rfl ?_
        exact emX7_knows_166 hC hrec77 ih _ _ _ _ _ _ _ _ _ hq
def mxX7_knows_77 (N : Nat) : Nat → Int32 → Int32 → mS → Option mS
  | 0, _, _, _ => none
  | n + 1, x2, x3, h =>
    (rA h 27 x2).bind fun v20 =>
    if v20 ≤ x3 then (
      some h) else (
      mxX7_knows_98 N (mxX7_knows_77 N n) N x2 x3 (((64 : Int32) * x2) + x3) (0 : Int32) h)
set_option maxHeartbeats 4000000 in
set_option maxRecDepth 100000 in
theorem emX7_knows_77 {N : Nat} {C : mh} (hC : C.length = 239) : ∀ (n : Nat) (x2 : Int32) (x3 : Int32) (h : mS) {o : mS}, mxX7_knows_77 N n x2 x3 h = some o → mB (gO mX7_knows (hM C o, none)) mX7_knows (77, [(0, .ref 239), (2, .int x2), (3, .int x3)], [], (hM C h), 0, 0) := by
  intro n
  induction n with
  | zero => intro x2 x3 h o hq; cases hq
  | succ n ih =>
    intro x2 x3 h o hq
    unfold mxX7_knows_77 at hq
    refine mB_run odX7_knows 2 (g := (79, [(0, .ref 239), (2, .int x2), (3, .int x3)], [.ref 239, .int x3], (hM C h), 0, 0)) rfl ?_
    refine r_gR odX7_knows rfl rfl (md_27 hC) ?_
    refine mB_run odX7_knows 1 (g := (83, [(0, .ref 239), (2, .int x2), (3, .int x3)], [.int x2, .ref 260, .int x3], (hM C h), 0, 0)) rfl ?_
    obtain ⟨v20, e21, hq⟩ := bsm hq
    refine r_aI odX7_knows rfl (ra_27 hC e21) ?_
    by_cases c22 : v20 ≤ x3
    · rw [if_pos c22] at hq
      refine ic_ge_T (t := 196) odX7_knows rfl rfl c22 ?_
      cases hq
      exact mB_ret odX7_knows rfl
    · rw [if_neg c22] at hq
      refine ic_ge_F (t := 196) odX7_knows rfl rfl c22 ?_
      refine mB_run odX7_knows 8 (g := (98, [(5, .int (0 : Int32)), (4, .int (((64 : Int32) * x2) + x3)), (0, .ref 239), (2, .int x2), (3, .int x3)], [], (hM C h), 0, 0)) rfl ?_
      refine mB_lv [2, 3, 4, 1, 0] (lv' := [(0, .ref 239), (2, .int x2), (3, .int x3), (4, .int (((64 : Int32) * x2) + x3)), (5, .int (0 : Int32))]) rfl ?_
      exact emX7_knows_98 hC ih N _ _ _ _ _ hq
def mxX7_knows_75 (N : Nat) (x2 : Int32) (h : mS) : Option mS :=
  mxX7_knows_77 N N x2 (0 : Int32) h
set_option maxHeartbeats 4000000 in
set_option maxRecDepth 100000 in
theorem emX7_knows_75 {N : Nat} {C : mh} (hC : C.length = 239) (x2 : Int32) (h : mS) {o : mS} (hq : mxX7_knows_75 N x2 h = some o) : mB (gO mX7_knows (hM C o, none)) mX7_knows (75, [(0, .ref 239), (2, .int x2)], [], (hM C h), 0, 0) := by
  unfold mxX7_knows_75 at hq
  refine mB_run odX7_knows 2 (g := (77, [(3, .int (0 : Int32)), (0, .ref 239), (2, .int x2)], [], (hM C h), 0, 0)) rfl ?_
  refine mB_lv [1, 2, 0] (lv' := [(0, .ref 239), (2, .int x2), (3, .int (0 : Int32))]) rfl ?_
  exact emX7_knows_77 hC N _ _ _ hq
def mxX7_knows (N : Nat) (p1 : Int32) (p2 : Int32) (h : mS) : Option mS :=
  (mxX7_loads N p1 h).bind fun o1 =>
  (mxX7_hulls N p2 o1).bind fun o3 =>
  (wA o3.1 34 p2 (0 : Int32)).bind fun s5 =>
  (rA s5 5 p1).bind fun v7 =>
  if v7 = (2 : Int32) then (
    (wA s5 35 ((80 : Int32) * p2) (0 : Int32)).bind fun s10 =>
    (wA s10 36 ((80 : Int32) * p2) (1 : Int32)).bind fun s12 =>
    (wA s12 37 ((80 : Int32) * p2) (-1 : Int32)).bind fun s14 =>
    (wA s14 38 ((80 : Int32) * p2) (-1 : Int32)).bind fun s16 =>
    (wA s16 34 p2 (1 : Int32)).bind fun s18 =>
    mxX7_knows_75 N p2 s18) else (
    mxX7_knows_75 N p2 s5)
set_option maxHeartbeats 4000000 in
set_option maxRecDepth 100000 in
theorem emX7_knows {N : Nat} {C : mh} (hC : C.length = 239) {p1 : Int32} {p2 : Int32} {h : mS} {o : mS} (hq : mxX7_knows N p1 p2 h = some o) : mC mX7_knows [.ref 239, .int p1, .int p2] (hM C h) (hM C o, none) := by
  refine mC_of okX7_knows (Nat.le_of_ble_eq_true rfl) ?_
  unfold mxX7_knows at hq
  show mB _ mX7_knows (0, [(0, .ref 239), (1, .int p1), (2, .int p2)], [], (hM C h), 0, 0)
  refine mB_run odX7_knows 2 (g := (2, [(0, .ref 239), (1, .int p1), (2, .int p2)], [.int p1, .ref 239], (hM C h), 0, 0)) rfl ?_
  obtain ⟨o1, e2, hq⟩ := bsm hq
  refine mB_V (as := [.int p1]) odX7_knows okX7_loads lk_7_226 rfl (emX7_loads hC e2) (kO_at (md_O hC)) rfl rfl rfl ?_
  show mB _ mX7_knows (5, [(0, .ref 239), (1, .int p1), (2, .int p2)], [], (hM C o1), 0, 0)
  refine mB_run odX7_knows 2 (g := (7, [(0, .ref 239), (1, .int p1), (2, .int p2)], [.int p2, .ref 239], (hM C o1), 0, 0)) rfl ?_
  obtain ⟨o3, e4, hq⟩ := bsm hq
  refine mB_V (as := [.int p2]) odX7_knows okX7_hulls lk_7_229 rfl (emX7_hulls hC e4) (kO_at (md_O hC)) rfl rfl rfl ?_
  show mB _ mX7_knows (10, [(0, .ref 239), (1, .int p1), (2, .int p2)], [.int o3.2], (hM C o3.1), 0, 0)
  refine mB_run odX7_knows 2 (g := (12, [(0, .ref 239), (1, .int p1), (2, .int p2)], [.ref 239], (hM C o3.1), 0, 0)) rfl ?_
  refine r_gR odX7_knows rfl rfl (md_34 hC) ?_
  refine mB_run odX7_knows 2 (g := (17, [(0, .ref 239), (1, .int p1), (2, .int p2)], [.int (0 : Int32), .int p2, .ref 267], (hM C o3.1), 0, 0)) rfl ?_
  obtain ⟨s5, e6, hq⟩ := bsm hq
  refine r_wI odX7_knows rfl (wa_34 hC e6) ?_
  refine mB_run odX7_knows 1 (g := (19, [(0, .ref 239), (1, .int p1), (2, .int p2)], [.ref 239], (hM C s5), 0, 0)) rfl ?_
  refine r_gR odX7_knows rfl rfl (md_5 hC) ?_
  refine mB_run odX7_knows 1 (g := (23, [(0, .ref 239), (1, .int p1), (2, .int p2)], [.int p1, .ref 245], (hM C s5), 0, 0)) rfl ?_
  obtain ⟨v7, e8, hq⟩ := bsm hq
  refine r_aI odX7_knows rfl (ra_5 hC e8) ?_
  refine mB_run odX7_knows 1 (g := (25, [(0, .ref 239), (1, .int p1), (2, .int p2)], [.int (2 : Int32), .int v7], (hM C s5), 0, 0)) rfl ?_
  by_cases c9 : v7 = (2 : Int32)
  · rw [if_pos c9] at hq
    refine ic_ne_F (t := 75) odX7_knows rfl rfl c9 ?_
    refine mB_run odX7_knows 1 (g := (29, [(0, .ref 239), (1, .int p1), (2, .int p2)], [.ref 239], (hM C s5), 0, 0)) rfl ?_
    refine r_gR odX7_knows rfl rfl (md_35 hC) ?_
    refine mB_run odX7_knows 4 (g := (37, [(0, .ref 239), (1, .int p1), (2, .int p2)], [.int (0 : Int32), .int ((80 : Int32) * p2), .ref 268], (hM C s5), 0, 0)) rfl ?_
    obtain ⟨s10, e11, hq⟩ := bsm hq
    refine r_wI odX7_knows rfl (wa_35 hC e11) ?_
    refine mB_run odX7_knows 1 (g := (39, [(0, .ref 239), (1, .int p1), (2, .int p2)], [.ref 239], (hM C s10), 0, 0)) rfl ?_
    refine r_gR odX7_knows rfl rfl (md_36 hC) ?_
    refine mB_run odX7_knows 4 (g := (47, [(0, .ref 239), (1, .int p1), (2, .int p2)], [.int (1 : Int32), .int ((80 : Int32) * p2), .ref 269], (hM C s10), 0, 0)) rfl ?_
    obtain ⟨s12, e13, hq⟩ := bsm hq
    refine r_wI odX7_knows rfl (wa_36 hC e13) ?_
    refine mB_run odX7_knows 1 (g := (49, [(0, .ref 239), (1, .int p1), (2, .int p2)], [.ref 239], (hM C s12), 0, 0)) rfl ?_
    refine r_gR odX7_knows rfl rfl (md_37 hC) ?_
    refine mB_run odX7_knows 4 (g := (57, [(0, .ref 239), (1, .int p1), (2, .int p2)], [.int (-1 : Int32), .int ((80 : Int32) * p2), .ref 270], (hM C s12), 0, 0)) rfl ?_
    obtain ⟨s14, e15, hq⟩ := bsm hq
    refine r_wI odX7_knows rfl (wa_37 hC e15) ?_
    refine mB_run odX7_knows 1 (g := (59, [(0, .ref 239), (1, .int p1), (2, .int p2)], [.ref 239], (hM C s14), 0, 0)) rfl ?_
    refine r_gR odX7_knows rfl rfl (md_38 hC) ?_
    refine mB_run odX7_knows 4 (g := (67, [(0, .ref 239), (1, .int p1), (2, .int p2)], [.int (-1 : Int32), .int ((80 : Int32) * p2), .ref 271], (hM C s14), 0, 0)) rfl ?_
    obtain ⟨s16, e17, hq⟩ := bsm hq
    refine r_wI odX7_knows rfl (wa_38 hC e17) ?_
    refine mB_run odX7_knows 1 (g := (69, [(0, .ref 239), (1, .int p1), (2, .int p2)], [.ref 239], (hM C s16), 0, 0)) rfl ?_
    refine r_gR odX7_knows rfl rfl (md_34 hC) ?_
    refine mB_run odX7_knows 2 (g := (74, [(0, .ref 239), (1, .int p1), (2, .int p2)], [.int (1 : Int32), .int p2, .ref 267], (hM C s16), 0, 0)) rfl ?_
    obtain ⟨s18, e19, hq⟩ := bsm hq
    refine r_wI odX7_knows rfl (wa_34 hC e19) ?_
    refine mB_lv [0, 2] (lv' := [(0, .ref 239), (2, .int p2)]) rfl ?_
    exact emX7_knows_75 hC _ _ hq
  · rw [if_neg c9] at hq
    refine ic_ne_T (t := 75) odX7_knows rfl rfl c9 ?_
    refine mB_lv [0, 2] (lv' := [(0, .ref 239), (2, .int p2)]) rfl ?_
    exact emX7_knows_75 hC _ _ hq
def mxX7_becomes_65 (N : Nat) (rec5 : Int32 → Int32 → Int32 → Int32 → mS → Option (mS × Int32)) (x1 : Int32) (x2 : Int32) (x3 : Int32) (x4 : Int32) (h : mS) : Option (mS × Int32) :=
  rec5 x1 x2 x3 (x4 + (1 : Int32)) h
set_option maxHeartbeats 4000000 in
set_option maxRecDepth 100000 in
theorem emX7_becomes_65 {N : Nat} {C : mh} (hC : C.length = 239) {rec5 : Int32 → Int32 → Int32 → Int32 → mS → Option (mS × Int32)} (hrec5 : ∀ (x1 : Int32) (x2 : Int32) (x3 : Int32) (x4 : Int32) (h : mS) {o : (mS × Int32)}, rec5 x1 x2 x3 x4 h = some o → mB (gO mX7_becomes (hM C o.1, some (.int o.2))) mX7_becomes (5, [(0, .ref 239), (1, .int x1), (2, .int x2), (3, .int x3), (4, .int x4)], [], (hM C h), 0, 0)) (x1 : Int32) (x2 : Int32) (x3 : Int32) (x4 : Int32) (h : mS) {o : (mS × Int32)} (hq : mxX7_becomes_65 N rec5 x1 x2 x3 x4 h = some o) : mB (gO mX7_becomes (hM C o.1, some (.int o.2))) mX7_becomes (65, [(0, .ref 239), (1, .int x1), (2, .int x2), (3, .int x3), (4, .int x4)], [], (hM C h), 0, 0) := by
  unfold mxX7_becomes_65 at hq
  refine mB_run odX7_becomes 2 (g := (5, [(4, .int (x4 + (1 : Int32))), (0, .ref 239), (1, .int x1), (2, .int x2), (3, .int x3)], [], (hM C h), 0, 0)) rfl ?_
  refine mB_lv [1, 2, 3, 4, 0] (lv' := [(0, .ref 239), (1, .int x1), (2, .int x2), (3, .int x3), (4, .int (x4 + (1 : Int32)))]) rfl ?_
  exact hrec5 _ _ _ _ _ hq
def mxX7_becomes_162 (N : Nat) (rec80 : Int32 → Int32 → Int32 → Int32 → mS → Option (mS × Int32)) (x1 : Int32) (x2 : Int32) (x3 : Int32) (x4 : Int32) (h : mS) : Option (mS × Int32) :=
  rec80 x1 x2 x3 (x4 + (1 : Int32)) h
set_option maxHeartbeats 4000000 in
set_option maxRecDepth 100000 in
theorem emX7_becomes_162 {N : Nat} {C : mh} (hC : C.length = 239) {rec80 : Int32 → Int32 → Int32 → Int32 → mS → Option (mS × Int32)} (hrec80 : ∀ (x1 : Int32) (x2 : Int32) (x3 : Int32) (x4 : Int32) (h : mS) {o : (mS × Int32)}, rec80 x1 x2 x3 x4 h = some o → mB (gO mX7_becomes (hM C o.1, some (.int o.2))) mX7_becomes (80, [(0, .ref 239), (1, .int x1), (2, .int x2), (3, .int x3), (4, .int x4)], [], (hM C h), 0, 0)) (x1 : Int32) (x2 : Int32) (x3 : Int32) (x4 : Int32) (h : mS) {o : (mS × Int32)} (hq : mxX7_becomes_162 N rec80 x1 x2 x3 x4 h = some o) : mB (gO mX7_becomes (hM C o.1, some (.int o.2))) mX7_becomes (162, [(0, .ref 239), (1, .int x1), (2, .int x2), (3, .int x3), (4, .int x4)], [], (hM C h), 0, 0) := by
  unfold mxX7_becomes_162 at hq
  refine mB_run odX7_becomes 2 (g := (80, [(4, .int (x4 + (1 : Int32))), (0, .ref 239), (1, .int x1), (2, .int x2), (3, .int x3)], [], (hM C h), 0, 0)) rfl ?_
  refine mB_lv [1, 2, 3, 4, 0] (lv' := [(0, .ref 239), (1, .int x1), (2, .int x2), (3, .int x3), (4, .int (x4 + (1 : Int32)))]) rfl ?_
  exact hrec80 _ _ _ _ _ hq
def mxX7_becomes_80 (N : Nat) : Nat → Int32 → Int32 → Int32 → Int32 → mS → Option (mS × Int32)
  | 0, _, _, _, _, _ => none
  | n + 1, x1, x2, x3, x4, h =>
    if (h.1 15) ≤ x4 then (
      (wA h 4 x1 x3).bind fun s18 =>
      (wA s18 5 x1 x2).bind fun s20 =>
      some (s20, (1 : Int32))) else (
      (rA h 19 x4).bind fun v22 =>
      if v22 = 0 then (
        mxX7_becomes_162 N (mxX7_becomes_80 N n) x1 x2 x3 x4 h) else (
        (rG h 16 x4).bind fun v25 =>
        (wA h 6 (((24 : Int32) * x1) + x3) v25.toInt32).bind fun s27 =>
        (rG s27 17 x4).bind fun v29 =>
        (wA s27 7 (((24 : Int32) * x1) + x3) v29.toInt32).bind fun s31 =>
        (rG s31 18 x4).bind fun v33 =>
        (wA s31 8 (((24 : Int32) * x1) + x3) v33.toInt32).bind fun s35 =>
        mxX7_becomes_162 N (mxX7_becomes_80 N n) x1 x2 (x3 + (1 : Int32)) x4 s35))
set_option maxHeartbeats 4000000 in
set_option maxRecDepth 100000 in
theorem emX7_becomes_80 {N : Nat} {C : mh} (hC : C.length = 239) : ∀ (n : Nat) (x1 : Int32) (x2 : Int32) (x3 : Int32) (x4 : Int32) (h : mS) {o : (mS × Int32)}, mxX7_becomes_80 N n x1 x2 x3 x4 h = some o → mB (gO mX7_becomes (hM C o.1, some (.int o.2))) mX7_becomes (80, [(0, .ref 239), (1, .int x1), (2, .int x2), (3, .int x3), (4, .int x4)], [], (hM C h), 0, 0) := by
  intro n
  induction n with
  | zero => intro x1 x2 x3 x4 h o hq; cases hq
  | succ n ih =>
    intro x1 x2 x3 x4 h o hq
    unfold mxX7_becomes_80 at hq
    refine mB_run odX7_becomes 2 (g := (83, [(0, .ref 239), (1, .int x1), (2, .int x2), (3, .int x3), (4, .int x4)], [.ref 239, .int x4], (hM C h), 0, 0)) rfl ?_
    refine r_gI odX7_becomes rfl rfl (md_15 hC) ?_
    by_cases c17 : (h.1 15) ≤ x4
    · rw [if_pos c17] at hq
      refine ic_ge_T (t := 168) odX7_becomes rfl rfl c17 ?_
      refine mB_run odX7_becomes 1 (g := (169, [(0, .ref 239), (1, .int x1), (2, .int x2), (3, .int x3), (4, .int x4)], [.ref 239], (hM C h), 0, 0)) rfl ?_
      refine r_gR odX7_becomes rfl rfl (md_4 hC) ?_
      refine mB_run odX7_becomes 2 (g := (174, [(0, .ref 239), (1, .int x1), (2, .int x2), (3, .int x3), (4, .int x4)], [.int x3, .int x1, .ref 244], (hM C h), 0, 0)) rfl ?_
      obtain ⟨s18, e19, hq⟩ := bsm hq
      refine r_wI odX7_becomes rfl (wa_4 hC e19) ?_
      refine mB_run odX7_becomes 1 (g := (176, [(0, .ref 239), (1, .int x1), (2, .int x2), (3, .int x3), (4, .int x4)], [.ref 239], (hM C s18), 0, 0)) rfl ?_
      refine r_gR odX7_becomes rfl rfl (md_5 hC) ?_
      refine mB_run odX7_becomes 2 (g := (181, [(0, .ref 239), (1, .int x1), (2, .int x2), (3, .int x3), (4, .int x4)], [.int x2, .int x1, .ref 245], (hM C s18), 0, 0)) rfl ?_
      obtain ⟨s20, e21, hq⟩ := bsm hq
      refine r_wI odX7_becomes rfl (wa_5 hC e21) ?_
      refine mB_run odX7_becomes 1 (g := (183, [(0, .ref 239), (1, .int x1), (2, .int x2), (3, .int x3), (4, .int x4)], [.int (1 : Int32)], (hM C s20), 0, 0)) rfl ?_
      cases hq
      exact mB_ret odX7_becomes rfl
    · rw [if_neg c17] at hq
      refine ic_ge_F (t := 168) odX7_becomes rfl rfl c17 ?_
      refine mB_run odX7_becomes 1 (g := (90, [(0, .ref 239), (1, .int x1), (2, .int x2), (3, .int x3), (4, .int x4)], [.ref 239], (hM C h), 0, 0)) rfl ?_
      refine r_gR odX7_becomes rfl rfl (md_19 hC) ?_
      refine mB_run odX7_becomes 1 (g := (95, [(0, .ref 239), (1, .int x1), (2, .int x2), (3, .int x3), (4, .int x4)], [.int x4, .ref 257], (hM C h), 0, 0)) rfl ?_
      obtain ⟨v22, e23, hq⟩ := bsm hq
      refine r_aZ odX7_becomes rfl (ra_19 hC e23) ?_
      by_cases c24 : v22 = 0
      · rw [if_pos c24] at hq
        refine if_ne_F (t := 102) odX7_becomes rfl rfl c24 ?_
        refine mB_run odX7_becomes 1 (g := (162, [(0, .ref 239), (1, .int x1), (2, .int x2), (3, .int x3), (4, .int x4)], [], (hM C h), 0, 0)) rfl ?_
        refine mB_lv [0, 1, 2, 3, 4] (lv' := [(0, .ref 239), (1, .int x1), (2, .int x2), (3, .int x3), (4, .int x4)]) rfl ?_
        exact emX7_becomes_162 hC ih _ _ _ _ _ hq
      · rw [if_neg c24] at hq
        refine if_ne_T (t := 102) odX7_becomes rfl rfl c24 ?_
        refine mB_run odX7_becomes 1 (g := (103, [(0, .ref 239), (1, .int x1), (2, .int x2), (3, .int x3), (4, .int x4)], [.ref 239], (hM C h), 0, 0)) rfl ?_
        refine r_gR odX7_becomes rfl rfl (md_6 hC) ?_
        refine mB_run odX7_becomes 6 (g := (113, [(0, .ref 239), (1, .int x1), (2, .int x2), (3, .int x3), (4, .int x4)], [.ref 239, .int (((24 : Int32) * x1) + x3), .ref 246], (hM C h), 0, 0)) rfl ?_
        refine r_gR odX7_becomes rfl rfl (md_16 hC) ?_
        refine mB_run odX7_becomes 1 (g := (118, [(0, .ref 239), (1, .int x1), (2, .int x2), (3, .int x3), (4, .int x4)], [.int x4, .ref 254, .int (((24 : Int32) * x1) + x3), .ref 246], (hM C h), 0, 0)) rfl ?_
        obtain ⟨v25, e26, hq⟩ := bsm hq
        refine r_aJ odX7_becomes rfl (ra_16 hC e26) ?_
        refine mB_run odX7_becomes 1 (g := (120, [(0, .ref 239), (1, .int x1), (2, .int x2), (3, .int x3), (4, .int x4)], [.int v25.toInt32, .int (((24 : Int32) * x1) + x3), .ref 246], (hM C h), 0, 0)) rfl ?_
        obtain ⟨s27, e28, hq⟩ := bsm hq
        refine r_wI odX7_becomes rfl (wa_6 hC e28) ?_
        refine mB_run odX7_becomes 1 (g := (122, [(0, .ref 239), (1, .int x1), (2, .int x2), (3, .int x3), (4, .int x4)], [.ref 239], (hM C s27), 0, 0)) rfl ?_
        refine r_gR odX7_becomes rfl rfl (md_7 hC) ?_
        refine mB_run odX7_becomes 6 (g := (132, [(0, .ref 239), (1, .int x1), (2, .int x2), (3, .int x3), (4, .int x4)], [.ref 239, .int (((24 : Int32) * x1) + x3), .ref 247], (hM C s27), 0, 0)) rfl ?_
        refine r_gR odX7_becomes rfl rfl (md_17 hC) ?_
        refine mB_run odX7_becomes 1 (g := (137, [(0, .ref 239), (1, .int x1), (2, .int x2), (3, .int x3), (4, .int x4)], [.int x4, .ref 255, .int (((24 : Int32) * x1) + x3), .ref 247], (hM C s27), 0, 0)) rfl ?_
        obtain ⟨v29, e30, hq⟩ := bsm hq
        refine r_aJ odX7_becomes rfl (ra_17 hC e30) ?_
        refine mB_run odX7_becomes 1 (g := (139, [(0, .ref 239), (1, .int x1), (2, .int x2), (3, .int x3), (4, .int x4)], [.int v29.toInt32, .int (((24 : Int32) * x1) + x3), .ref 247], (hM C s27), 0, 0)) rfl ?_
        obtain ⟨s31, e32, hq⟩ := bsm hq
        refine r_wI odX7_becomes rfl (wa_7 hC e32) ?_
        refine mB_run odX7_becomes 1 (g := (141, [(0, .ref 239), (1, .int x1), (2, .int x2), (3, .int x3), (4, .int x4)], [.ref 239], (hM C s31), 0, 0)) rfl ?_
        refine r_gR odX7_becomes rfl rfl (md_8 hC) ?_
        refine mB_run odX7_becomes 6 (g := (151, [(0, .ref 239), (1, .int x1), (2, .int x2), (3, .int x3), (4, .int x4)], [.ref 239, .int (((24 : Int32) * x1) + x3), .ref 248], (hM C s31), 0, 0)) rfl ?_
        refine r_gR odX7_becomes rfl rfl (md_18 hC) ?_
        refine mB_run odX7_becomes 1 (g := (156, [(0, .ref 239), (1, .int x1), (2, .int x2), (3, .int x3), (4, .int x4)], [.int x4, .ref 256, .int (((24 : Int32) * x1) + x3), .ref 248], (hM C s31), 0, 0)) rfl ?_
        obtain ⟨v33, e34, hq⟩ := bsm hq
        refine r_aJ odX7_becomes rfl (ra_18 hC e34) ?_
        refine mB_run odX7_becomes 1 (g := (158, [(0, .ref 239), (1, .int x1), (2, .int x2), (3, .int x3), (4, .int x4)], [.int v33.toInt32, .int (((24 : Int32) * x1) + x3), .ref 248], (hM C s31), 0, 0)) rfl ?_
        obtain ⟨s35, e36, hq⟩ := bsm hq
        refine r_wI odX7_becomes rfl (wa_8 hC e36) ?_
        refine mB_run odX7_becomes 1 (g := (162, [(3, .int (x3 + (1 : Int32))), (0, .ref 239), (1, .int x1), (2, .int x2), (4, .int x4)], [], (hM C s35), 0, 0)) rfl ?_
        refine mB_lv [1, 2, 3, 0, 4] (lv' := [(0, .ref 239), (1, .int x1), (2, .int x2), (3, .int (x3 + (1 : Int32))), (4, .int x4)]) rfl ?_
        exact emX7_becomes_162 hC ih _ _ _ _ _ hq
def mxX7_becomes_5 (N : Nat) : Nat → Int32 → Int32 → Int32 → Int32 → mS → Option (mS × Int32)
  | 0, _, _, _, _, _ => none
  | n + 1, x1, x2, x3, x4, h =>
    if (h.1 15) ≤ x4 then (
      (mxX7_keeps N  h).bind fun o2 =>
      mxX7_becomes_80 N N x1 x2 (0 : Int32) (0 : Int32) o2) else (
      (rA h 19 x4).bind fun v4 =>
      if v4 = 0 then (
        mxX7_becomes_65 N (mxX7_becomes_5 N n) x1 x2 x3 x4 h) else (
        if (24 : Int32) < (x3 + (1 : Int32)) then (
          some (h, (0 : Int32))) else (
          (rG h 16 x4).bind fun v8 =>
          (rG h 17 x4).bind fun v10 =>
          (rG h 18 x4).bind fun v12 =>
          (mxX7_isPoint N v8 v10 v12 h).bind fun o14 =>
          if o14.2 = 0 then (
            some (o14.1, (0 : Int32))) else (
            mxX7_becomes_65 N (mxX7_becomes_5 N n) x1 x2 (x3 + (1 : Int32)) x4 o14.1))))
set_option maxHeartbeats 4000000 in
set_option maxRecDepth 100000 in
theorem emX7_becomes_5 {N : Nat} {C : mh} (hC : C.length = 239) : ∀ (n : Nat) (x1 : Int32) (x2 : Int32) (x3 : Int32) (x4 : Int32) (h : mS) {o : (mS × Int32)}, mxX7_becomes_5 N n x1 x2 x3 x4 h = some o → mB (gO mX7_becomes (hM C o.1, some (.int o.2))) mX7_becomes (5, [(0, .ref 239), (1, .int x1), (2, .int x2), (3, .int x3), (4, .int x4)], [], (hM C h), 0, 0) := by
  intro n
  induction n with
  | zero => intro x1 x2 x3 x4 h o hq; cases hq
  | succ n ih =>
    intro x1 x2 x3 x4 h o hq
    unfold mxX7_becomes_5 at hq
    refine mB_run odX7_becomes 2 (g := (8, [(0, .ref 239), (1, .int x1), (2, .int x2), (3, .int x3), (4, .int x4)], [.ref 239, .int x4], (hM C h), 0, 0)) rfl ?_
    refine r_gI odX7_becomes rfl rfl (md_15 hC) ?_
    by_cases c1 : (h.1 15) ≤ x4
    · rw [if_pos c1] at hq
      refine ic_ge_T (t := 71) odX7_becomes rfl rfl c1 ?_
      refine mB_run odX7_becomes 1 (g := (72, [(0, .ref 239), (1, .int x1), (2, .int x2), (3, .int x3), (4, .int x4)], [.ref 239], (hM C h), 0, 0)) rfl ?_
      obtain ⟨o2, e3, hq⟩ := bsm hq
      refine mB_V (as := []) odX7_becomes okX7_keeps lk_7_237 rfl (emX7_keeps hC e3) (kO_at (md_O hC)) rfl rfl rfl ?_
      show mB _ mX7_becomes (75, [(0, .ref 239), (1, .int x1), (2, .int x2), (3, .int x3), (4, .int x4)], [], (hM C o2), 0, 0)
      refine mB_run odX7_becomes 4 (g := (80, [(4, .int (0 : Int32)), (3, .int (0 : Int32)), (0, .ref 239), (1, .int x1), (2, .int x2)], [], (hM C o2), 0, 0)) rfl ?_
      refine mB_lv [2, 3, 4, 1, 0] (lv' := [(0, .ref 239), (1, .int x1), (2, .int x2), (3, .int (0 : Int32)), (4, .int (0 : Int32))]) rfl ?_
      exact emX7_becomes_80 hC N _ _ _ _ _ hq
    · rw [if_neg c1] at hq
      refine ic_ge_F (t := 71) odX7_becomes rfl rfl c1 ?_
      refine mB_run odX7_becomes 1 (g := (15, [(0, .ref 239), (1, .int x1), (2, .int x2), (3, .int x3), (4, .int x4)], [.ref 239], (hM C h), 0, 0)) rfl ?_
      refine r_gR odX7_becomes rfl rfl (md_19 hC) ?_
      refine mB_run odX7_becomes 1 (g := (20, [(0, .ref 239), (1, .int x1), (2, .int x2), (3, .int x3), (4, .int x4)], [.int x4, .ref 257], (hM C h), 0, 0)) rfl ?_
      obtain ⟨v4, e5, hq⟩ := bsm hq
      refine r_aZ odX7_becomes rfl (ra_19 hC e5) ?_
      by_cases c6 : v4 = 0
      · rw [if_pos c6] at hq
        refine if_ne_F (t := 27) odX7_becomes rfl rfl c6 ?_
        refine mB_run odX7_becomes 1 (g := (65, [(0, .ref 239), (1, .int x1), (2, .int x2), (3, .int x3), (4, .int x4)], [], (hM C h), 0, 0)) rfl ?_
        refine mB_lv [0, 1, 2, 3, 4] (lv' := [(0, .ref 239), (1, .int x1), (2, .int x2), (3, .int x3), (4, .int x4)]) rfl ?_
        exact emX7_becomes_65 hC ih _ _ _ _ _ hq
      · rw [if_neg c6] at hq
        refine if_ne_T (t := 27) odX7_becomes rfl rfl c6 ?_
        refine mB_run odX7_becomes 3 (g := (33, [(3, .int (x3 + (1 : Int32))), (0, .ref 239), (1, .int x1), (2, .int x2), (4, .int x4)], [.int (24 : Int32), .int (x3 + (1 : Int32))], (hM C h), 0, 0)) rfl ?_
        by_cases c7 : (24 : Int32) < (x3 + (1 : Int32))
        · rw [if_pos c7] at hq
          refine ic_gt_T (t := 63) odX7_becomes rfl rfl c7 ?_
          refine mB_run odX7_becomes 1 (g := (64, [(3, .int (x3 + (1 : Int32))), (0, .ref 239), (1, .int x1), (2, .int x2), (4, .int x4)], [.int (0 : Int32)], (hM C h), 0, 0)) rfl ?_
          cases hq
          exact mB_ret odX7_becomes rfl
        · rw [if_neg c7] at hq
          refine ic_gt_F (t := 63) odX7_becomes rfl rfl c7 ?_
          refine mB_run odX7_becomes 1 (g := (37, [(3, .int (x3 + (1 : Int32))), (0, .ref 239), (1, .int x1), (2, .int x2), (4, .int x4)], [.ref 239], (hM C h), 0, 0)) rfl ?_
          refine r_gR odX7_becomes rfl rfl (md_16 hC) ?_
          refine mB_run odX7_becomes 1 (g := (42, [(3, .int (x3 + (1 : Int32))), (0, .ref 239), (1, .int x1), (2, .int x2), (4, .int x4)], [.int x4, .ref 254], (hM C h), 0, 0)) rfl ?_
          obtain ⟨v8, e9, hq⟩ := bsm hq
          refine r_aJ odX7_becomes rfl (ra_16 hC e9) ?_
          refine mB_run odX7_becomes 1 (g := (44, [(3, .int (x3 + (1 : Int32))), (0, .ref 239), (1, .int x1), (2, .int x2), (4, .int x4)], [.ref 239, .long v8], (hM C h), 0, 0)) rfl ?_
          refine r_gR odX7_becomes rfl rfl (md_17 hC) ?_
          refine mB_run odX7_becomes 1 (g := (49, [(3, .int (x3 + (1 : Int32))), (0, .ref 239), (1, .int x1), (2, .int x2), (4, .int x4)], [.int x4, .ref 255, .long v8], (hM C h), 0, 0)) rfl ?_
          obtain ⟨v10, e11, hq⟩ := bsm hq
          refine r_aJ odX7_becomes rfl (ra_17 hC e11) ?_
          refine mB_run odX7_becomes 1 (g := (51, [(3, .int (x3 + (1 : Int32))), (0, .ref 239), (1, .int x1), (2, .int x2), (4, .int x4)], [.ref 239, .long v10, .long v8], (hM C h), 0, 0)) rfl ?_
          refine r_gR odX7_becomes rfl rfl (md_18 hC) ?_
          refine mB_run odX7_becomes 1 (g := (56, [(3, .int (x3 + (1 : Int32))), (0, .ref 239), (1, .int x1), (2, .int x2), (4, .int x4)], [.int x4, .ref 256, .long v10, .long v8], (hM C h), 0, 0)) rfl ?_
          obtain ⟨v12, e13, hq⟩ := bsm hq
          refine r_aJ odX7_becomes rfl (ra_18 hC e13) ?_
          obtain ⟨o14, e15, hq⟩ := bsm hq
          refine mB_S (as := [.long v8, .long v10, .long v12]) odX7_becomes okX7_isPoint lk_7_137 rfl (emX7_isPoint hC e15) rfl rfl rfl ?_
          show mB _ mX7_becomes (60, [(3, .int (x3 + (1 : Int32))), (0, .ref 239), (1, .int x1), (2, .int x2), (4, .int x4)], [.int o14.2], (hM C o14.1), 0, 0)
          by_cases c16 : o14.2 = 0
          · rw [if_pos c16] at hq
            refine if_ne_F (t := 65) odX7_becomes rfl rfl c16 ?_
            refine mB_run odX7_becomes 1 (g := (64, [(3, .int (x3 + (1 : Int32))), (0, .ref 239), (1, .int x1), (2, .int x2), (4, .int x4)], [.int (0 : Int32)], (hM C o14.1), 0, 0)) rfl ?_
            cases hq
            exact mB_ret odX7_becomes rfl
          · rw [if_neg c16] at hq
            refine if_ne_T (t := 65) odX7_becomes rfl rfl c16 ?_
            refine mB_lv [1, 2, 3, 0, 4] (lv' := [(0, .ref 239), (1, .int x1), (2, .int x2), (3, .int (x3 + (1 : Int32))), (4, .int x4)]) rfl ?_
            exact emX7_becomes_65 hC ih _ _ _ _ _ hq
def mxX7_becomes (N : Nat) (p1 : Int32) (p2 : Int32) (h : mS) : Option (mS × Int32) :=
  mxX7_becomes_5 N N p1 p2 (0 : Int32) (0 : Int32) h
set_option maxHeartbeats 4000000 in
set_option maxRecDepth 100000 in
theorem emX7_becomes {N : Nat} {C : mh} (hC : C.length = 239) {p1 : Int32} {p2 : Int32} {h : mS} {o : (mS × Int32)} (hq : mxX7_becomes N p1 p2 h = some o) : mC mX7_becomes [.ref 239, .int p1, .int p2] (hM C h) (hM C o.1, some (.int o.2)) := by
  refine mC_of okX7_becomes (Nat.le_of_ble_eq_true rfl) ?_
  unfold mxX7_becomes at hq
  show mB _ mX7_becomes (0, [(0, .ref 239), (1, .int p1), (2, .int p2)], [], (hM C h), 0, 0)
  refine mB_run odX7_becomes 4 (g := (5, [(4, .int (0 : Int32)), (3, .int (0 : Int32)), (0, .ref 239), (1, .int p1), (2, .int p2)], [], (hM C h), 0, 0)) rfl ?_
  refine mB_lv [2, 3, 4, 1, 0] (lv' := [(0, .ref 239), (1, .int p1), (2, .int p2), (3, .int (0 : Int32)), (4, .int (0 : Int32))]) rfl ?_
  exact emX7_becomes_5 hC N _ _ _ _ _ hq
def mxX7_solid_33 (N : Nat) : Nat → Int32 → Int32 → Int32 → mS → Option (mS × Int32)
  | 0, _, _, _, _ => none
  | n + 1, x1, x2, x3, h =>
    (rA h 0 x2).bind fun v12 =>
    if v12 ≤ x3 then (
      (mxX7_hulls N (0 : Int32) h).bind fun o15 =>
      (mxX7_becomes N x1 o15.2 o15.1).bind fun o17 =>
      (rA o17.1 5 x1).bind fun v19 =>
      some (o17.1, v19)) else (
      (rA h 1 (((24 : Int32) * x2) + x3)).bind fun v21 =>
      (rA h 2 (((24 : Int32) * x2) + x3)).bind fun v23 =>
      (rA h 3 (((24 : Int32) * x2) + x3)).bind fun v25 =>
      (mxX7_heaps N v21.toInt64 v23.toInt64 v25.toInt64 h).bind fun o27 =>
      mxX7_solid_33 N n x1 x2 (x3 + (1 : Int32)) o27)
set_option maxHeartbeats 4000000 in
set_option maxRecDepth 100000 in
theorem emX7_solid_33 {N : Nat} {C : mh} (hC : C.length = 239) : ∀ (n : Nat) (x1 : Int32) (x2 : Int32) (x3 : Int32) (h : mS) {o : (mS × Int32)}, mxX7_solid_33 N n x1 x2 x3 h = some o → mB (gO mX7_solid (hM C o.1, some (.int o.2))) mX7_solid (33, [(0, .ref 239), (1, .int x1), (2, .int x2), (3, .int x3)], [], (hM C h), 0, 0) := by
  intro n
  induction n with
  | zero => intro x1 x2 x3 h o hq; cases hq
  | succ n ih =>
    intro x1 x2 x3 h o hq
    unfold mxX7_solid_33 at hq
    refine mB_run odX7_solid 2 (g := (35, [(0, .ref 239), (1, .int x1), (2, .int x2), (3, .int x3)], [.ref 239, .int x3], (hM C h), 0, 0)) rfl ?_
    refine r_gR odX7_solid rfl rfl (md_0 hC) ?_
    refine mB_run odX7_solid 1 (g := (39, [(0, .ref 239), (1, .int x1), (2, .int x2), (3, .int x3)], [.int x2, .ref 240, .int x3], (hM C h), 0, 0)) rfl ?_
    obtain ⟨v12, e13, hq⟩ := bsm hq
    refine r_aI odX7_solid rfl (ra_0 hC e13) ?_
    by_cases c14 : v12 ≤ x3
    · rw [if_pos c14] at hq
      refine ic_ge_T (t := 89) odX7_solid rfl rfl c14 ?_
      refine mB_run odX7_solid 4 (g := (93, [(0, .ref 239), (1, .int x1), (2, .int x2), (3, .int x3)], [.int (0 : Int32), .ref 239, .int x1, .ref 239], (hM C h), 0, 0)) rfl ?_
      obtain ⟨o15, e16, hq⟩ := bsm hq
      refine mB_V (as := [.int (0 : Int32)]) odX7_solid okX7_hulls lk_7_229 rfl (emX7_hulls hC e16) (kO_at (md_O hC)) rfl rfl rfl ?_
      show mB _ mX7_solid (96, [(0, .ref 239), (1, .int x1), (2, .int x2), (3, .int x3)], [.int o15.2, .int x1, .ref 239], (hM C o15.1), 0, 0)
      obtain ⟨o17, e18, hq⟩ := bsm hq
      refine mB_V (as := [.int x1, .int o15.2]) odX7_solid okX7_becomes lk_7_240 rfl (emX7_becomes hC e18) (kO_at (md_O hC)) rfl rfl rfl ?_
      show mB _ mX7_solid (99, [(0, .ref 239), (1, .int x1), (2, .int x2), (3, .int x3)], [.int o17.2], (hM C o17.1), 0, 0)
      refine mB_run odX7_solid 2 (g := (101, [(0, .ref 239), (1, .int x1), (2, .int x2), (3, .int x3)], [.ref 239], (hM C o17.1), 0, 0)) rfl ?_
      refine r_gR odX7_solid rfl rfl (md_5 hC) ?_
      refine mB_run odX7_solid 1 (g := (105, [(0, .ref 239), (1, .int x1), (2, .int x2), (3, .int x3)], [.int x1, .ref 245], (hM C o17.1), 0, 0)) rfl ?_
      obtain ⟨v19, e20, hq⟩ := bsm hq
      refine r_aI odX7_solid rfl (ra_5 hC e20) ?_
      cases hq
      exact mB_ret odX7_solid rfl
    · rw [if_neg c14] at hq
      refine ic_ge_F (t := 89) odX7_solid rfl rfl c14 ?_
      refine mB_run odX7_solid 2 (g := (45, [(0, .ref 239), (1, .int x1), (2, .int x2), (3, .int x3)], [.ref 239, .ref 239], (hM C h), 0, 0)) rfl ?_
      refine r_gR odX7_solid rfl rfl (md_1 hC) ?_
      refine mB_run odX7_solid 5 (g := (54, [(0, .ref 239), (1, .int x1), (2, .int x2), (3, .int x3)], [.int (((24 : Int32) * x2) + x3), .ref 241, .ref 239], (hM C h), 0, 0)) rfl ?_
      obtain ⟨v21, e22, hq⟩ := bsm hq
      refine r_aI odX7_solid rfl (ra_1 hC e22) ?_
      refine mB_run odX7_solid 2 (g := (57, [(0, .ref 239), (1, .int x1), (2, .int x2), (3, .int x3)], [.ref 239, .long v21.toInt64, .ref 239], (hM C h), 0, 0)) rfl ?_
      refine r_gR odX7_solid rfl rfl (md_2 hC) ?_
      refine mB_run odX7_solid 5 (g := (66, [(0, .ref 239), (1, .int x1), (2, .int x2), (3, .int x3)], [.int (((24 : Int32) * x2) + x3), .ref 242, .long v21.toInt64, .ref 239], (hM C h), 0, 0)) rfl ?_
      obtain ⟨v23, e24, hq⟩ := bsm hq
      refine r_aI odX7_solid rfl (ra_2 hC e24) ?_
      refine mB_run odX7_solid 2 (g := (69, [(0, .ref 239), (1, .int x1), (2, .int x2), (3, .int x3)], [.ref 239, .long v23.toInt64, .long v21.toInt64, .ref 239], (hM C h), 0, 0)) rfl ?_
      refine r_gR odX7_solid rfl rfl (md_3 hC) ?_
      refine mB_run odX7_solid 5 (g := (78, [(0, .ref 239), (1, .int x1), (2, .int x2), (3, .int x3)], [.int (((24 : Int32) * x2) + x3), .ref 243, .long v23.toInt64, .long v21.toInt64, .ref 239], (hM C h), 0, 0)) rfl ?_
      obtain ⟨v25, e26, hq⟩ := bsm hq
      refine r_aI odX7_solid rfl (ra_3 hC e26) ?_
      refine mB_run odX7_solid 1 (g := (80, [(0, .ref 239), (1, .int x1), (2, .int x2), (3, .int x3)], [.long v25.toInt64, .long v23.toInt64, .long v21.toInt64, .ref 239], (hM C h), 0, 0)) rfl ?_
      obtain ⟨o27, e28, hq⟩ := bsm hq
      refine mB_V (as := [.long v21.toInt64, .long v23.toInt64, .long v25.toInt64]) odX7_solid okX7_heaps lk_7_222 rfl (emX7_heaps hC e28) (kO_at (md_O hC)) rfl rfl rfl ?_
      show mB _ mX7_solid (83, [(0, .ref 239), (1, .int x1), (2, .int x2), (3, .int x3)], [], (hM C o27), 0, 0)
      refine mB_run odX7_solid 2 (g := (33, [(3, .int (x3 + (1 : Int32))), (0, .ref 239), (1, .int x1), (2, .int x2)], [], (hM C o27), 0, 0)) rfl ?_
      refine mB_lv [1, 2, 3, 0] (lv' := [(0, .ref 239), (1, .int x1), (2, .int x2), (3, .int (x3 + (1 : Int32)))]) rfl ?_
      exact ih _ _ _ _ hq
def mxX7_solid (N : Nat) (p1 : Int32) (p2 : Int32) (h : mS) : Option (mS × Int32) :=
  (mxX7_isSolid N p1 h).bind fun o1 =>
  if o1.2 = 0 then (
    some (o1.1, (-1 : Int32))) else (
    (mxX7_isSolid N p2 o1.1).bind fun o4 =>
    if o4.2 = 0 then (
      some (o4.1, (-1 : Int32))) else (
      (rA o4.1 0 p2).bind fun v7 =>
      if v7 = (-1 : Int32) then (
        some (o4.1, (-1 : Int32))) else (
        (some (pI o4.1 15 (0 : Int32))).bind fun s10 =>
        mxX7_solid_33 N N p1 p2 (0 : Int32) s10)))
set_option maxHeartbeats 4000000 in
set_option maxRecDepth 100000 in
theorem emX7_solid {N : Nat} {C : mh} (hC : C.length = 239) {p1 : Int32} {p2 : Int32} {h : mS} {o : (mS × Int32)} (hq : mxX7_solid N p1 p2 h = some o) : mC mX7_solid [.ref 239, .int p1, .int p2] (hM C h) (hM C o.1, some (.int o.2)) := by
  refine mC_of okX7_solid (Nat.le_of_ble_eq_true rfl) ?_
  unfold mxX7_solid at hq
  show mB _ mX7_solid (0, [(0, .ref 239), (1, .int p1), (2, .int p2)], [], (hM C h), 0, 0)
  refine mB_run odX7_solid 1 (g := (1, [(0, .ref 239), (1, .int p1), (2, .int p2)], [.int p1], (hM C h), 0, 0)) rfl ?_
  obtain ⟨o1, e2, hq⟩ := bsm hq
  refine mB_S (as := [.int p1]) odX7_solid okX7_isSolid lk_7_133 rfl (emX7_isSolid hC e2) rfl rfl rfl ?_
  show mB _ mX7_solid (4, [(0, .ref 239), (1, .int p1), (2, .int p2)], [.int o1.2], (hM C o1.1), 0, 0)
  by_cases c3 : o1.2 = 0
  · rw [if_pos c3] at hq
    refine if_eq_T (t := 24) odX7_solid rfl rfl c3 ?_
    refine mB_run odX7_solid 1 (g := (25, [(0, .ref 239), (1, .int p1), (2, .int p2)], [.int (-1 : Int32)], (hM C o1.1), 0, 0)) rfl ?_
    cases hq
    exact mB_ret odX7_solid rfl
  · rw [if_neg c3] at hq
    refine if_eq_F (t := 24) odX7_solid rfl rfl c3 ?_
    refine mB_run odX7_solid 1 (g := (8, [(0, .ref 239), (1, .int p1), (2, .int p2)], [.int p2], (hM C o1.1), 0, 0)) rfl ?_
    obtain ⟨o4, e5, hq⟩ := bsm hq
    refine mB_S (as := [.int p2]) odX7_solid okX7_isSolid lk_7_133 rfl (emX7_isSolid hC e5) rfl rfl rfl ?_
    show mB _ mX7_solid (11, [(0, .ref 239), (1, .int p1), (2, .int p2)], [.int o4.2], (hM C o4.1), 0, 0)
    by_cases c6 : o4.2 = 0
    · rw [if_pos c6] at hq
      refine if_eq_T (t := 24) odX7_solid rfl rfl c6 ?_
      refine mB_run odX7_solid 1 (g := (25, [(0, .ref 239), (1, .int p1), (2, .int p2)], [.int (-1 : Int32)], (hM C o4.1), 0, 0)) rfl ?_
      cases hq
      exact mB_ret odX7_solid rfl
    · rw [if_neg c6] at hq
      refine if_eq_F (t := 24) odX7_solid rfl rfl c6 ?_
      refine mB_run odX7_solid 1 (g := (15, [(0, .ref 239), (1, .int p1), (2, .int p2)], [.ref 239], (hM C o4.1), 0, 0)) rfl ?_
      refine r_gR odX7_solid rfl rfl (md_0 hC) ?_
      refine mB_run odX7_solid 1 (g := (19, [(0, .ref 239), (1, .int p1), (2, .int p2)], [.int p2, .ref 240], (hM C o4.1), 0, 0)) rfl ?_
      obtain ⟨v7, e8, hq⟩ := bsm hq
      refine r_aI odX7_solid rfl (ra_0 hC e8) ?_
      refine mB_run odX7_solid 1 (g := (21, [(0, .ref 239), (1, .int p1), (2, .int p2)], [.int (-1 : Int32), .int v7], (hM C o4.1), 0, 0)) rfl ?_
      by_cases c9 : v7 = (-1 : Int32)
      · rw [if_pos c9] at hq
        refine ic_ne_F (t := 26) odX7_solid rfl rfl c9 ?_
        refine mB_run odX7_solid 1 (g := (25, [(0, .ref 239), (1, .int p1), (2, .int p2)], [.int (-1 : Int32)], (hM C o4.1), 0, 0)) rfl ?_
        cases hq
        exact mB_ret odX7_solid rfl
      · rw [if_neg c9] at hq
        refine ic_ne_T (t := 26) odX7_solid rfl rfl c9 ?_
        refine mB_run odX7_solid 2 (g := (28, [(0, .ref 239), (1, .int p1), (2, .int p2)], [.int (0 : Int32), .ref 239], (hM C o4.1), 0, 0)) rfl ?_
        obtain ⟨s10, e11, hq⟩ := bsm hq
        refine r_sV odX7_solid rfl rfl rfl rfl (pt_15 hC e11) ?_
        refine mB_run odX7_solid 2 (g := (33, [(3, .int (0 : Int32)), (0, .ref 239), (1, .int p1), (2, .int p2)], [], (hM C s10), 0, 0)) rfl ?_
        refine mB_lv [1, 2, 3, 0] (lv' := [(0, .ref 239), (1, .int p1), (2, .int p2), (3, .int (0 : Int32))]) rfl ?_
        exact emX7_solid_33 hC N _ _ _ _ hq
def mxX7_grow (N : Nat) (p1 : Int32) (p2 : Int32) (p3 : Int32) (p4 : Int32) (h : mS) : Option (mS × Int32) :=
  (mxX7_isSolid N p1 h).bind fun o1 =>
  if o1.2 = 0 then (
    some (o1.1, (-1 : Int32))) else (
    (mxX7_isPoint N p2.toInt64 p3.toInt64 p4.toInt64 o1.1).bind fun o4 =>
    if o4.2 = 0 then (
      some (o4.1, (-1 : Int32))) else (
      (mxX7_loads N p1 o4.1).bind fun o7 =>
      (mxX7_heaps N p2.toInt64 p3.toInt64 p4.toInt64 o7).bind fun o9 =>
      (mxX7_hulls N (0 : Int32) o9).bind fun o11 =>
      (mxX7_becomes N p1 o11.2 o11.1).bind fun o13 =>
      if o13.2 = 0 then (
        some (o13.1, (-2 : Int32))) else (
        (rA o13.1 5 p1).bind fun v16 =>
        some (o13.1, v16))))
set_option maxHeartbeats 4000000 in
set_option maxRecDepth 100000 in
theorem emX7_grow {N : Nat} {C : mh} (hC : C.length = 239) {p1 : Int32} {p2 : Int32} {p3 : Int32} {p4 : Int32} {h : mS} {o : (mS × Int32)} (hq : mxX7_grow N p1 p2 p3 p4 h = some o) : mC mX7_grow [.ref 239, .int p1, .int p2, .int p3, .int p4] (hM C h) (hM C o.1, some (.int o.2)) := by
  refine mC_of okX7_grow (Nat.le_of_ble_eq_true rfl) ?_
  unfold mxX7_grow at hq
  show mB _ mX7_grow (0, [(0, .ref 239), (1, .int p1), (2, .int p2), (3, .int p3), (4, .int p4)], [], (hM C h), 0, 0)
  refine mB_run odX7_grow 1 (g := (1, [(0, .ref 239), (1, .int p1), (2, .int p2), (3, .int p3), (4, .int p4)], [.int p1], (hM C h), 0, 0)) rfl ?_
  obtain ⟨o1, e2, hq⟩ := bsm hq
  refine mB_S (as := [.int p1]) odX7_grow okX7_isSolid lk_7_133 rfl (emX7_isSolid hC e2) rfl rfl rfl ?_
  show mB _ mX7_grow (4, [(0, .ref 239), (1, .int p1), (2, .int p2), (3, .int p3), (4, .int p4)], [.int o1.2], (hM C o1.1), 0, 0)
  by_cases c3 : o1.2 = 0
  · rw [if_pos c3] at hq
    refine if_eq_T (t := 20) odX7_grow rfl rfl c3 ?_
    refine mB_run odX7_grow 1 (g := (21, [(0, .ref 239), (1, .int p1), (2, .int p2), (3, .int p3), (4, .int p4)], [.int (-1 : Int32)], (hM C o1.1), 0, 0)) rfl ?_
    cases hq
    exact mB_ret odX7_grow rfl
  · rw [if_neg c3] at hq
    refine if_eq_F (t := 20) odX7_grow rfl rfl c3 ?_
    refine mB_run odX7_grow 6 (g := (14, [(0, .ref 239), (1, .int p1), (2, .int p2), (3, .int p3), (4, .int p4)], [.long p4.toInt64, .long p3.toInt64, .long p2.toInt64], (hM C o1.1), 0, 0)) rfl ?_
    obtain ⟨o4, e5, hq⟩ := bsm hq
    refine mB_S (as := [.long p2.toInt64, .long p3.toInt64, .long p4.toInt64]) odX7_grow okX7_isPoint lk_7_137 rfl (emX7_isPoint hC e5) rfl rfl rfl ?_
    show mB _ mX7_grow (17, [(0, .ref 239), (1, .int p1), (2, .int p2), (3, .int p3), (4, .int p4)], [.int o4.2], (hM C o4.1), 0, 0)
    by_cases c6 : o4.2 = 0
    · rw [if_pos c6] at hq
      refine if_ne_F (t := 22) odX7_grow rfl rfl c6 ?_
      refine mB_run odX7_grow 1 (g := (21, [(0, .ref 239), (1, .int p1), (2, .int p2), (3, .int p3), (4, .int p4)], [.int (-1 : Int32)], (hM C o4.1), 0, 0)) rfl ?_
      cases hq
      exact mB_ret odX7_grow rfl
    · rw [if_neg c6] at hq
      refine if_ne_T (t := 22) odX7_grow rfl rfl c6 ?_
      refine mB_run odX7_grow 2 (g := (24, [(0, .ref 239), (1, .int p1), (2, .int p2), (3, .int p3), (4, .int p4)], [.int p1, .ref 239], (hM C o4.1), 0, 0)) rfl ?_
      obtain ⟨o7, e8, hq⟩ := bsm hq
      refine mB_V (as := [.int p1]) odX7_grow okX7_loads lk_7_226 rfl (emX7_loads hC e8) (kO_at (md_O hC)) rfl rfl rfl ?_
      show mB _ mX7_grow (27, [(0, .ref 239), (1, .int p1), (2, .int p2), (3, .int p3), (4, .int p4)], [], (hM C o7), 0, 0)
      refine mB_run odX7_grow 7 (g := (35, [(0, .ref 239), (1, .int p1), (2, .int p2), (3, .int p3), (4, .int p4)], [.long p4.toInt64, .long p3.toInt64, .long p2.toInt64, .ref 239], (hM C o7), 0, 0)) rfl ?_
      obtain ⟨o9, e10, hq⟩ := bsm hq
      refine mB_V (as := [.long p2.toInt64, .long p3.toInt64, .long p4.toInt64]) odX7_grow okX7_heaps lk_7_222 rfl (emX7_heaps hC e10) (kO_at (md_O hC)) rfl rfl rfl ?_
      show mB _ mX7_grow (38, [(0, .ref 239), (1, .int p1), (2, .int p2), (3, .int p3), (4, .int p4)], [], (hM C o9), 0, 0)
      refine mB_run odX7_grow 4 (g := (42, [(0, .ref 239), (1, .int p1), (2, .int p2), (3, .int p3), (4, .int p4)], [.int (0 : Int32), .ref 239, .int p1, .ref 239], (hM C o9), 0, 0)) rfl ?_
      obtain ⟨o11, e12, hq⟩ := bsm hq
      refine mB_V (as := [.int (0 : Int32)]) odX7_grow okX7_hulls lk_7_229 rfl (emX7_hulls hC e12) (kO_at (md_O hC)) rfl rfl rfl ?_
      show mB _ mX7_grow (45, [(0, .ref 239), (1, .int p1), (2, .int p2), (3, .int p3), (4, .int p4)], [.int o11.2, .int p1, .ref 239], (hM C o11.1), 0, 0)
      obtain ⟨o13, e14, hq⟩ := bsm hq
      refine mB_V (as := [.int p1, .int o11.2]) odX7_grow okX7_becomes lk_7_240 rfl (emX7_becomes hC e14) (kO_at (md_O hC)) rfl rfl rfl ?_
      show mB _ mX7_grow (48, [(0, .ref 239), (1, .int p1), (2, .int p2), (3, .int p3), (4, .int p4)], [.int o13.2], (hM C o13.1), 0, 0)
      by_cases c15 : o13.2 = 0
      · rw [if_pos c15] at hq
        refine if_eq_T (t := 60) odX7_grow rfl rfl c15 ?_
        refine mB_run odX7_grow 1 (g := (62, [(0, .ref 239), (1, .int p1), (2, .int p2), (3, .int p3), (4, .int p4)], [.int (-2 : Int32)], (hM C o13.1), 0, 0)) rfl ?_
        cases hq
        exact mB_ret odX7_grow rfl
      · rw [if_neg c15] at hq
        refine if_eq_F (t := 60) odX7_grow rfl rfl c15 ?_
        refine mB_run odX7_grow 1 (g := (52, [(0, .ref 239), (1, .int p1), (2, .int p2), (3, .int p3), (4, .int p4)], [.ref 239], (hM C o13.1), 0, 0)) rfl ?_
        refine r_gR odX7_grow rfl rfl (md_5 hC) ?_
        refine mB_run odX7_grow 1 (g := (56, [(0, .ref 239), (1, .int p1), (2, .int p2), (3, .int p3), (4, .int p4)], [.int p1, .ref 245], (hM C o13.1), 0, 0)) rfl ?_
        obtain ⟨v16, e17, hq⟩ := bsm hq
        refine r_aI odX7_grow rfl (ra_5 hC e17) ?_
        refine mB_run odX7_grow 1 (g := (62, [(0, .ref 239), (1, .int p1), (2, .int p2), (3, .int p3), (4, .int p4)], [.int v16], (hM C o13.1), 0, 0)) rfl ?_
        cases hq
        exact mB_ret odX7_grow rfl
def mxX7_count_44 (N : Nat) (x1 : Int32) (x2 : Int32) (h : mS) : Option (mS × Int32) :=
  (mxX7_knows N x1 (0 : Int32) h).bind fun o12 =>
  if x2 = (2 : Int32) then (
    (rA o12 34 (0 : Int32)).bind fun v15 =>
    some (o12, v15)) else (
    (rA o12 27 (0 : Int32)).bind fun v17 =>
    some (o12, v17))
set_option maxHeartbeats 4000000 in
set_option maxRecDepth 100000 in
theorem emX7_count_44 {N : Nat} {C : mh} (hC : C.length = 239) (x1 : Int32) (x2 : Int32) (h : mS) {o : (mS × Int32)} (hq : mxX7_count_44 N x1 x2 h = some o) : mB (gO mX7_count (hM C o.1, some (.int o.2))) mX7_count (44, [(0, .ref 239), (1, .int x1), (2, .int x2)], [], (hM C h), 0, 0) := by
  unfold mxX7_count_44 at hq
  refine mB_run odX7_count 3 (g := (47, [(0, .ref 239), (1, .int x1), (2, .int x2)], [.int (0 : Int32), .int x1, .ref 239], (hM C h), 0, 0)) rfl ?_
  obtain ⟨o12, e13, hq⟩ := bsm hq
  refine mB_V (as := [.int x1, .int (0 : Int32)]) odX7_count okX7_knows lk_7_244 rfl (emX7_knows hC e13) (kO_at (md_O hC)) rfl rfl rfl ?_
  show mB _ mX7_count (50, [(0, .ref 239), (1, .int x1), (2, .int x2)], [], (hM C o12), 0, 0)
  refine mB_run odX7_count 2 (g := (52, [(0, .ref 239), (1, .int x1), (2, .int x2)], [.int (2 : Int32), .int x2], (hM C o12), 0, 0)) rfl ?_
  by_cases c14 : x2 = (2 : Int32)
  · rw [if_pos c14] at hq
    refine ic_ne_F (t := 64) odX7_count rfl rfl c14 ?_
    refine mB_run odX7_count 1 (g := (56, [(0, .ref 239), (1, .int x1), (2, .int x2)], [.ref 239], (hM C o12), 0, 0)) rfl ?_
    refine r_gR odX7_count rfl rfl (md_34 hC) ?_
    refine mB_run odX7_count 1 (g := (60, [(0, .ref 239), (1, .int x1), (2, .int x2)], [.int (0 : Int32), .ref 267], (hM C o12), 0, 0)) rfl ?_
    obtain ⟨v15, e16, hq⟩ := bsm hq
    refine r_aI odX7_count rfl (ra_34 hC e16) ?_
    refine mB_run odX7_count 1 (g := (70, [(0, .ref 239), (1, .int x1), (2, .int x2)], [.int v15], (hM C o12), 0, 0)) rfl ?_
    cases hq
    exact mB_ret odX7_count rfl
  · rw [if_neg c14] at hq
    refine ic_ne_T (t := 64) odX7_count rfl rfl c14 ?_
    refine mB_run odX7_count 1 (g := (65, [(0, .ref 239), (1, .int x1), (2, .int x2)], [.ref 239], (hM C o12), 0, 0)) rfl ?_
    refine r_gR odX7_count rfl rfl (md_27 hC) ?_
    refine mB_run odX7_count 1 (g := (69, [(0, .ref 239), (1, .int x1), (2, .int x2)], [.int (0 : Int32), .ref 260], (hM C o12), 0, 0)) rfl ?_
    obtain ⟨v17, e18, hq⟩ := bsm hq
    refine r_aI odX7_count rfl (ra_27 hC e18) ?_
    cases hq
    exact mB_ret odX7_count rfl
def mxX7_count (N : Nat) (p1 : Int32) (p2 : Int32) (h : mS) : Option (mS × Int32) :=
  (mxX7_isSolid N p1 h).bind fun o1 =>
  if o1.2 = 0 then (
    some (o1.1, (-1 : Int32))) else (
    if p2 = 0 then (
      (rA o1.1 5 p1).bind fun v5 =>
      some (o1.1, v5)) else (
      if p2 = (1 : Int32) then (
        (rA o1.1 4 p1).bind fun v8 =>
        some (o1.1, v8)) else (
        if p2 = (2 : Int32) then (
          mxX7_count_44 N p1 p2 o1.1) else (
          if p2 = (3 : Int32) then (
            mxX7_count_44 N p1 p2 o1.1) else (
            some (o1.1, (-1 : Int32)))))))
set_option maxHeartbeats 4000000 in
set_option maxRecDepth 100000 in
theorem emX7_count {N : Nat} {C : mh} (hC : C.length = 239) {p1 : Int32} {p2 : Int32} {h : mS} {o : (mS × Int32)} (hq : mxX7_count N p1 p2 h = some o) : mC mX7_count [.ref 239, .int p1, .int p2] (hM C h) (hM C o.1, some (.int o.2)) := by
  refine mC_of okX7_count (Nat.le_of_ble_eq_true rfl) ?_
  unfold mxX7_count at hq
  show mB _ mX7_count (0, [(0, .ref 239), (1, .int p1), (2, .int p2)], [], (hM C h), 0, 0)
  refine mB_run odX7_count 1 (g := (1, [(0, .ref 239), (1, .int p1), (2, .int p2)], [.int p1], (hM C h), 0, 0)) rfl ?_
  obtain ⟨o1, e2, hq⟩ := bsm hq
  refine mB_S (as := [.int p1]) odX7_count okX7_isSolid lk_7_133 rfl (emX7_isSolid hC e2) rfl rfl rfl ?_
  show mB _ mX7_count (4, [(0, .ref 239), (1, .int p1), (2, .int p2)], [.int o1.2], (hM C o1.1), 0, 0)
  by_cases c3 : o1.2 = 0
  · rw [if_pos c3] at hq
    refine if_ne_F (t := 9) odX7_count rfl rfl c3 ?_
    refine mB_run odX7_count 1 (g := (8, [(0, .ref 239), (1, .int p1), (2, .int p2)], [.int (-1 : Int32)], (hM C o1.1), 0, 0)) rfl ?_
    cases hq
    exact mB_ret odX7_count rfl
  · rw [if_neg c3] at hq
    refine if_ne_T (t := 9) odX7_count rfl rfl c3 ?_
    refine mB_run odX7_count 1 (g := (10, [(0, .ref 239), (1, .int p1), (2, .int p2)], [.int p2], (hM C o1.1), 0, 0)) rfl ?_
    by_cases c4 : p2 = 0
    · rw [if_pos c4] at hq
      refine if_ne_F (t := 20) odX7_count rfl rfl c4 ?_
      refine mB_run odX7_count 1 (g := (14, [(0, .ref 239), (1, .int p1), (2, .int p2)], [.ref 239], (hM C o1.1), 0, 0)) rfl ?_
      refine r_gR odX7_count rfl rfl (md_5 hC) ?_
      refine mB_run odX7_count 1 (g := (18, [(0, .ref 239), (1, .int p1), (2, .int p2)], [.int p1, .ref 245], (hM C o1.1), 0, 0)) rfl ?_
      obtain ⟨v5, e6, hq⟩ := bsm hq
      refine r_aI odX7_count rfl (ra_5 hC e6) ?_
      cases hq
      exact mB_ret odX7_count rfl
    · rw [if_neg c4] at hq
      refine if_ne_T (t := 20) odX7_count rfl rfl c4 ?_
      refine mB_run odX7_count 2 (g := (22, [(0, .ref 239), (1, .int p1), (2, .int p2)], [.int (1 : Int32), .int p2], (hM C o1.1), 0, 0)) rfl ?_
      by_cases c7 : p2 = (1 : Int32)
      · rw [if_pos c7] at hq
        refine ic_ne_F (t := 32) odX7_count rfl rfl c7 ?_
        refine mB_run odX7_count 1 (g := (26, [(0, .ref 239), (1, .int p1), (2, .int p2)], [.ref 239], (hM C o1.1), 0, 0)) rfl ?_
        refine r_gR odX7_count rfl rfl (md_4 hC) ?_
        refine mB_run odX7_count 1 (g := (30, [(0, .ref 239), (1, .int p1), (2, .int p2)], [.int p1, .ref 244], (hM C o1.1), 0, 0)) rfl ?_
        obtain ⟨v8, e9, hq⟩ := bsm hq
        refine r_aI odX7_count rfl (ra_4 hC e9) ?_
        cases hq
        exact mB_ret odX7_count rfl
      · rw [if_neg c7] at hq
        refine ic_ne_T (t := 32) odX7_count rfl rfl c7 ?_
        refine mB_run odX7_count 2 (g := (34, [(0, .ref 239), (1, .int p1), (2, .int p2)], [.int (2 : Int32), .int p2], (hM C o1.1), 0, 0)) rfl ?_
        by_cases c10 : p2 = (2 : Int32)
        · rw [if_pos c10] at hq
          refine ic_eq_T (t := 44) odX7_count rfl rfl c10 ?_
          refine mB_lv [0, 1, 2] (lv' := [(0, .ref 239), (1, .int p1), (2, .int p2)]) rfl ?_
          exact emX7_count_44 hC _ _ _ hq
        · rw [if_neg c10] at hq
          refine ic_eq_F (t := 44) odX7_count rfl rfl c10 ?_
          refine mB_run odX7_count 2 (g := (39, [(0, .ref 239), (1, .int p1), (2, .int p2)], [.int (3 : Int32), .int p2], (hM C o1.1), 0, 0)) rfl ?_
          by_cases c11 : p2 = (3 : Int32)
          · rw [if_pos c11] at hq
            refine ic_eq_T (t := 44) odX7_count rfl rfl c11 ?_
            refine mB_lv [0, 1, 2] (lv' := [(0, .ref 239), (1, .int p1), (2, .int p2)]) rfl ?_
            exact emX7_count_44 hC _ _ _ hq
          · rw [if_neg c11] at hq
            refine ic_eq_F (t := 44) odX7_count rfl rfl c11 ?_
            refine mB_run odX7_count 1 (g := (43, [(0, .ref 239), (1, .int p1), (2, .int p2)], [.int (-1 : Int32)], (hM C o1.1), 0, 0)) rfl ?_
            cases hq
            exact mB_ret odX7_count rfl
def mxX7_corner (N : Nat) (p1 : Int32) (p2 : Int32) (p3 : Int32) (h : mS) : Option (mS × Int32) :=
  (mxX7_isSolid N p1 h).bind fun o1 =>
  if o1.2 = 0 then (
    some (o1.1, (-1000 : Int32))) else (
    if p2 < 0 then (
      some (o1.1, (-1000 : Int32))) else (
      (rA o1.1 4 p1).bind fun v5 =>
      if p2 < v5 then (
        if p3 = 0 then (
          (rA o1.1 6 (((24 : Int32) * p1) + p2)).bind fun v9 =>
          some (o1.1, v9)) else (
          if p3 = (1 : Int32) then (
            (rA o1.1 7 (((24 : Int32) * p1) + p2)).bind fun v12 =>
            some (o1.1, v12)) else (
            if p3 = (2 : Int32) then (
              (rA o1.1 8 (((24 : Int32) * p1) + p2)).bind fun v15 =>
              some (o1.1, v15)) else (
              some (o1.1, (-1000 : Int32)))))) else (
        some (o1.1, (-1000 : Int32)))))
set_option maxHeartbeats 4000000 in
set_option maxRecDepth 100000 in
theorem emX7_corner {N : Nat} {C : mh} (hC : C.length = 239) {p1 : Int32} {p2 : Int32} {p3 : Int32} {h : mS} {o : (mS × Int32)} (hq : mxX7_corner N p1 p2 p3 h = some o) : mC mX7_corner [.ref 239, .int p1, .int p2, .int p3] (hM C h) (hM C o.1, some (.int o.2)) := by
  refine mC_of okX7_corner (Nat.le_of_ble_eq_true rfl) ?_
  unfold mxX7_corner at hq
  show mB _ mX7_corner (0, [(0, .ref 239), (1, .int p1), (2, .int p2), (3, .int p3)], [], (hM C h), 0, 0)
  refine mB_run odX7_corner 1 (g := (1, [(0, .ref 239), (1, .int p1), (2, .int p2), (3, .int p3)], [.int p1], (hM C h), 0, 0)) rfl ?_
  obtain ⟨o1, e2, hq⟩ := bsm hq
  refine mB_S (as := [.int p1]) odX7_corner okX7_isSolid lk_7_133 rfl (emX7_isSolid hC e2) rfl rfl rfl ?_
  show mB _ mX7_corner (4, [(0, .ref 239), (1, .int p1), (2, .int p2), (3, .int p3)], [.int o1.2], (hM C o1.1), 0, 0)
  by_cases c3 : o1.2 = 0
  · rw [if_pos c3] at hq
    refine if_eq_T (t := 21) odX7_corner rfl rfl c3 ?_
    refine mB_run odX7_corner 1 (g := (24, [(0, .ref 239), (1, .int p1), (2, .int p2), (3, .int p3)], [.int (-1000 : Int32)], (hM C o1.1), 0, 0)) rfl ?_
    cases hq
    exact mB_ret odX7_corner rfl
  · rw [if_neg c3] at hq
    refine if_eq_F (t := 21) odX7_corner rfl rfl c3 ?_
    refine mB_run odX7_corner 1 (g := (8, [(0, .ref 239), (1, .int p1), (2, .int p2), (3, .int p3)], [.int p2], (hM C o1.1), 0, 0)) rfl ?_
    by_cases c4 : p2 < 0
    · rw [if_pos c4] at hq
      refine if_lt_T (t := 21) odX7_corner rfl rfl c4 ?_
      refine mB_run odX7_corner 1 (g := (24, [(0, .ref 239), (1, .int p1), (2, .int p2), (3, .int p3)], [.int (-1000 : Int32)], (hM C o1.1), 0, 0)) rfl ?_
      cases hq
      exact mB_ret odX7_corner rfl
    · rw [if_neg c4] at hq
      refine if_lt_F (t := 21) odX7_corner rfl rfl c4 ?_
      refine mB_run odX7_corner 2 (g := (13, [(0, .ref 239), (1, .int p1), (2, .int p2), (3, .int p3)], [.ref 239, .int p2], (hM C o1.1), 0, 0)) rfl ?_
      refine r_gR odX7_corner rfl rfl (md_4 hC) ?_
      refine mB_run odX7_corner 1 (g := (17, [(0, .ref 239), (1, .int p1), (2, .int p2), (3, .int p3)], [.int p1, .ref 244, .int p2], (hM C o1.1), 0, 0)) rfl ?_
      obtain ⟨v5, e6, hq⟩ := bsm hq
      refine r_aI odX7_corner rfl (ra_4 hC e6) ?_
      by_cases c7 : p2 < v5
      · rw [if_pos c7] at hq
        refine ic_lt_T (t := 25) odX7_corner rfl rfl c7 ?_
        refine mB_run odX7_corner 1 (g := (26, [(0, .ref 239), (1, .int p1), (2, .int p2), (3, .int p3)], [.int p3], (hM C o1.1), 0, 0)) rfl ?_
        by_cases c8 : p3 = 0
        · rw [if_pos c8] at hq
          refine if_ne_F (t := 43) odX7_corner rfl rfl c8 ?_
          refine mB_run odX7_corner 1 (g := (30, [(0, .ref 239), (1, .int p1), (2, .int p2), (3, .int p3)], [.ref 239], (hM C o1.1), 0, 0)) rfl ?_
          refine r_gR odX7_corner rfl rfl (md_6 hC) ?_
          refine mB_run odX7_corner 5 (g := (39, [(0, .ref 239), (1, .int p1), (2, .int p2), (3, .int p3)], [.int (((24 : Int32) * p1) + p2), .ref 246], (hM C o1.1), 0, 0)) rfl ?_
          obtain ⟨v9, e10, hq⟩ := bsm hq
          refine r_aI odX7_corner rfl (ra_6 hC e10) ?_
          refine mB_run odX7_corner 1 (g := (84, [(0, .ref 239), (1, .int p1), (2, .int p2), (3, .int p3)], [.int v9], (hM C o1.1), 0, 0)) rfl ?_
          cases hq
          exact mB_ret odX7_corner rfl
        · rw [if_neg c8] at hq
          refine if_ne_T (t := 43) odX7_corner rfl rfl c8 ?_
          refine mB_run odX7_corner 2 (g := (45, [(0, .ref 239), (1, .int p1), (2, .int p2), (3, .int p3)], [.int (1 : Int32), .int p3], (hM C o1.1), 0, 0)) rfl ?_
          by_cases c11 : p3 = (1 : Int32)
          · rw [if_pos c11] at hq
            refine ic_ne_F (t := 62) odX7_corner rfl rfl c11 ?_
            refine mB_run odX7_corner 1 (g := (49, [(0, .ref 239), (1, .int p1), (2, .int p2), (3, .int p3)], [.ref 239], (hM C o1.1), 0, 0)) rfl ?_
            refine r_gR odX7_corner rfl rfl (md_7 hC) ?_
            refine mB_run odX7_corner 5 (g := (58, [(0, .ref 239), (1, .int p1), (2, .int p2), (3, .int p3)], [.int (((24 : Int32) * p1) + p2), .ref 247], (hM C o1.1), 0, 0)) rfl ?_
            obtain ⟨v12, e13, hq⟩ := bsm hq
            refine r_aI odX7_corner rfl (ra_7 hC e13) ?_
            refine mB_run odX7_corner 1 (g := (84, [(0, .ref 239), (1, .int p1), (2, .int p2), (3, .int p3)], [.int v12], (hM C o1.1), 0, 0)) rfl ?_
            cases hq
            exact mB_ret odX7_corner rfl
          · rw [if_neg c11] at hq
            refine ic_ne_T (t := 62) odX7_corner rfl rfl c11 ?_
            refine mB_run odX7_corner 2 (g := (64, [(0, .ref 239), (1, .int p1), (2, .int p2), (3, .int p3)], [.int (2 : Int32), .int p3], (hM C o1.1), 0, 0)) rfl ?_
            by_cases c14 : p3 = (2 : Int32)
            · rw [if_pos c14] at hq
              refine ic_ne_F (t := 81) odX7_corner rfl rfl c14 ?_
              refine mB_run odX7_corner 1 (g := (68, [(0, .ref 239), (1, .int p1), (2, .int p2), (3, .int p3)], [.ref 239], (hM C o1.1), 0, 0)) rfl ?_
              refine r_gR odX7_corner rfl rfl (md_8 hC) ?_
              refine mB_run odX7_corner 5 (g := (77, [(0, .ref 239), (1, .int p1), (2, .int p2), (3, .int p3)], [.int (((24 : Int32) * p1) + p2), .ref 248], (hM C o1.1), 0, 0)) rfl ?_
              obtain ⟨v15, e16, hq⟩ := bsm hq
              refine r_aI odX7_corner rfl (ra_8 hC e16) ?_
              refine mB_run odX7_corner 1 (g := (84, [(0, .ref 239), (1, .int p1), (2, .int p2), (3, .int p3)], [.int v15], (hM C o1.1), 0, 0)) rfl ?_
              cases hq
              exact mB_ret odX7_corner rfl
            · rw [if_neg c14] at hq
              refine ic_ne_T (t := 81) odX7_corner rfl rfl c14 ?_
              refine mB_run odX7_corner 1 (g := (84, [(0, .ref 239), (1, .int p1), (2, .int p2), (3, .int p3)], [.int (-1000 : Int32)], (hM C o1.1), 0, 0)) rfl ?_
              cases hq
              exact mB_ret odX7_corner rfl
      · rw [if_neg c7] at hq
        refine ic_lt_F (t := 25) odX7_corner rfl rfl c7 ?_
        refine mB_run odX7_corner 1 (g := (24, [(0, .ref 239), (1, .int p1), (2, .int p2), (3, .int p3)], [.int (-1000 : Int32)], (hM C o1.1), 0, 0)) rfl ?_
        cases hq
        exact mB_ret odX7_corner rfl
def mxX7_edge (N : Nat) (p1 : Int32) (p2 : Int32) (p3 : Int32) (h : mS) : Option (mS × Int32) :=
  (mxX7_isSolid N p1 h).bind fun o1 =>
  if o1.2 = 0 then (
    some (o1.1, (-1 : Int32))) else (
    if 0 ≤ p2 then (
      (mxX7_knows N p1 (0 : Int32) o1.1).bind fun o5 =>
      (rA o5 34 (0 : Int32)).bind fun v7 =>
      if p2 < v7 then (
        if p3 = (0 : Int32) then (
          (rA o5 35 p2).bind fun v11 =>
          some (o5, v11)) else (
          if p3 = (1 : Int32) then (
            (rA o5 36 p2).bind fun v14 =>
            some (o5, v14)) else (
            if p3 = (2 : Int32) then (
              (rA o5 37 p2).bind fun v17 =>
              some (o5, v17)) else (
              if p3 = (3 : Int32) then (
                (rA o5 38 p2).bind fun v20 =>
                some (o5, v20)) else (
                some (o5, (-1 : Int32))))))) else (
        some (o5, (-1 : Int32)))) else (
      some (o1.1, (-1 : Int32))))
set_option maxHeartbeats 4000000 in
set_option maxRecDepth 100000 in
theorem emX7_edge {N : Nat} {C : mh} (hC : C.length = 239) {p1 : Int32} {p2 : Int32} {p3 : Int32} {h : mS} {o : (mS × Int32)} (hq : mxX7_edge N p1 p2 p3 h = some o) : mC mX7_edge [.ref 239, .int p1, .int p2, .int p3] (hM C h) (hM C o.1, some (.int o.2)) := by
  refine mC_of okX7_edge (Nat.le_of_ble_eq_true rfl) ?_
  unfold mxX7_edge at hq
  show mB _ mX7_edge (0, [(0, .ref 239), (1, .int p1), (2, .int p2), (3, .int p3)], [], (hM C h), 0, 0)
  refine mB_run odX7_edge 1 (g := (1, [(0, .ref 239), (1, .int p1), (2, .int p2), (3, .int p3)], [.int p1], (hM C h), 0, 0)) rfl ?_
  obtain ⟨o1, e2, hq⟩ := bsm hq
  refine mB_S (as := [.int p1]) odX7_edge okX7_isSolid lk_7_133 rfl (emX7_isSolid hC e2) rfl rfl rfl ?_
  show mB _ mX7_edge (4, [(0, .ref 239), (1, .int p1), (2, .int p2), (3, .int p3)], [.int o1.2], (hM C o1.1), 0, 0)
  by_cases c3 : o1.2 = 0
  · rw [if_pos c3] at hq
    refine if_eq_T (t := 11) odX7_edge rfl rfl c3 ?_
    refine mB_run odX7_edge 1 (g := (12, [(0, .ref 239), (1, .int p1), (2, .int p2), (3, .int p3)], [.int (-1 : Int32)], (hM C o1.1), 0, 0)) rfl ?_
    cases hq
    exact mB_ret odX7_edge rfl
  · rw [if_neg c3] at hq
    refine if_eq_F (t := 11) odX7_edge rfl rfl c3 ?_
    refine mB_run odX7_edge 1 (g := (8, [(0, .ref 239), (1, .int p1), (2, .int p2), (3, .int p3)], [.int p2], (hM C o1.1), 0, 0)) rfl ?_
    by_cases c4 : 0 ≤ p2
    · rw [if_pos c4] at hq
      refine if_ge_T (t := 13) odX7_edge rfl rfl c4 ?_
      refine mB_run odX7_edge 3 (g := (16, [(0, .ref 239), (1, .int p1), (2, .int p2), (3, .int p3)], [.int (0 : Int32), .int p1, .ref 239], (hM C o1.1), 0, 0)) rfl ?_
      obtain ⟨o5, e6, hq⟩ := bsm hq
      refine mB_V (as := [.int p1, .int (0 : Int32)]) odX7_edge okX7_knows lk_7_244 rfl (emX7_knows hC e6) (kO_at (md_O hC)) rfl rfl rfl ?_
      show mB _ mX7_edge (19, [(0, .ref 239), (1, .int p1), (2, .int p2), (3, .int p3)], [], (hM C o5), 0, 0)
      refine mB_run odX7_edge 2 (g := (21, [(0, .ref 239), (1, .int p1), (2, .int p2), (3, .int p3)], [.ref 239, .int p2], (hM C o5), 0, 0)) rfl ?_
      refine r_gR odX7_edge rfl rfl (md_34 hC) ?_
      refine mB_run odX7_edge 1 (g := (25, [(0, .ref 239), (1, .int p1), (2, .int p2), (3, .int p3)], [.int (0 : Int32), .ref 267, .int p2], (hM C o5), 0, 0)) rfl ?_
      obtain ⟨v7, e8, hq⟩ := bsm hq
      refine r_aI odX7_edge rfl (ra_34 hC e8) ?_
      by_cases c9 : p2 < v7
      · rw [if_pos c9] at hq
        refine ic_lt_T (t := 31) odX7_edge rfl rfl c9 ?_
        refine mB_run odX7_edge 1 (g := (32, [(0, .ref 239), (1, .int p1), (2, .int p2), (3, .int p3)], [.int p3], (hM C o5), 0, 0)) rfl ?_
        by_cases c10 : p3 = (0 : Int32)
        · rw [if_pos c10] at hq
          refine r_tab odX7_edge rfl c10 (t := 64) rfl ?_
          refine mB_run odX7_edge 1 (g := (65, [(0, .ref 239), (1, .int p1), (2, .int p2), (3, .int p3)], [.ref 239], (hM C o5), 0, 0)) rfl ?_
          refine r_gR odX7_edge rfl rfl (md_35 hC) ?_
          refine mB_run odX7_edge 1 (g := (69, [(0, .ref 239), (1, .int p1), (2, .int p2), (3, .int p3)], [.int p2, .ref 268], (hM C o5), 0, 0)) rfl ?_
          obtain ⟨v11, e12, hq⟩ := bsm hq
          refine r_aI odX7_edge rfl (ra_35 hC e12) ?_
          cases hq
          exact mB_ret odX7_edge rfl
        · rw [if_neg c10] at hq
          by_cases c13 : p3 = (1 : Int32)
          · rw [if_pos c13] at hq
            refine r_tab odX7_edge rfl c13 (t := 71) rfl ?_
            refine mB_run odX7_edge 1 (g := (72, [(0, .ref 239), (1, .int p1), (2, .int p2), (3, .int p3)], [.ref 239], (hM C o5), 0, 0)) rfl ?_
            refine r_gR odX7_edge rfl rfl (md_36 hC) ?_
            refine mB_run odX7_edge 1 (g := (76, [(0, .ref 239), (1, .int p1), (2, .int p2), (3, .int p3)], [.int p2, .ref 269], (hM C o5), 0, 0)) rfl ?_
            obtain ⟨v14, e15, hq⟩ := bsm hq
            refine r_aI odX7_edge rfl (ra_36 hC e15) ?_
            cases hq
            exact mB_ret odX7_edge rfl
          · rw [if_neg c13] at hq
            by_cases c16 : p3 = (2 : Int32)
            · rw [if_pos c16] at hq
              refine r_tab odX7_edge rfl c16 (t := 78) rfl ?_
              refine mB_run odX7_edge 1 (g := (79, [(0, .ref 239), (1, .int p1), (2, .int p2), (3, .int p3)], [.ref 239], (hM C o5), 0, 0)) rfl ?_
              refine r_gR odX7_edge rfl rfl (md_37 hC) ?_
              refine mB_run odX7_edge 1 (g := (83, [(0, .ref 239), (1, .int p1), (2, .int p2), (3, .int p3)], [.int p2, .ref 270], (hM C o5), 0, 0)) rfl ?_
              obtain ⟨v17, e18, hq⟩ := bsm hq
              refine r_aI odX7_edge rfl (ra_37 hC e18) ?_
              cases hq
              exact mB_ret odX7_edge rfl
            · rw [if_neg c16] at hq
              by_cases c19 : p3 = (3 : Int32)
              · rw [if_pos c19] at hq
                refine r_tab odX7_edge rfl c19 (t := 85) rfl ?_
                refine mB_run odX7_edge 1 (g := (86, [(0, .ref 239), (1, .int p1), (2, .int p2), (3, .int p3)], [.ref 239], (hM C o5), 0, 0)) rfl ?_
                refine r_gR odX7_edge rfl rfl (md_38 hC) ?_
                refine mB_run odX7_edge 1 (g := (90, [(0, .ref 239), (1, .int p1), (2, .int p2), (3, .int p3)], [.int p2, .ref 271], (hM C o5), 0, 0)) rfl ?_
                obtain ⟨v20, e21, hq⟩ := bsm hq
                refine r_aI odX7_edge rfl (ra_38 hC e21) ?_
                cases hq
                exact mB_ret odX7_edge rfl
              · rw [if_neg c19] at hq
                refine r_tabd odX7_edge rfl (t := 92) (by omega) (ts_out4 c10 c13 c16 c19) ?_
                refine mB_run odX7_edge 1 (g := (93, [(0, .ref 239), (1, .int p1), (2, .int p2), (3, .int p3)], [.int (-1 : Int32)], (hM C o5), 0, 0)) rfl ?_
                cases hq
                exact mB_ret odX7_edge rfl
      · rw [if_neg c9] at hq
        refine ic_lt_F (t := 31) odX7_edge rfl rfl c9 ?_
        refine mB_run odX7_edge 1 (g := (30, [(0, .ref 239), (1, .int p1), (2, .int p2), (3, .int p3)], [.int (-1 : Int32)], (hM C o5), 0, 0)) rfl ?_
        cases hq
        exact mB_ret odX7_edge rfl
    · rw [if_neg c4] at hq
      refine if_ge_F (t := 13) odX7_edge rfl rfl c4 ?_
      refine mB_run odX7_edge 1 (g := (12, [(0, .ref 239), (1, .int p1), (2, .int p2), (3, .int p3)], [.int (-1 : Int32)], (hM C o1.1), 0, 0)) rfl ?_
      cases hq
      exact mB_ret odX7_edge rfl
def mxX7_area_26 (N : Nat) : Nat → Int32 → Int64 → Int64 → Int64 → Int32 → mS → Option (mS × Int64)
  | 0, _, _, _, _, _, _ => none
  | n + 1, x1, x2, x4, x6, x8, h =>
    (rA h 32 x1).bind fun v7 =>
    if v7 ≤ (x8 + (1 : Int32)) then (
      (rG h 28 x1).bind fun v10 =>
      if v10 = (0 : Int64) then (
        (rG h 29 x1).bind fun v13 =>
        if v13 = (0 : Int64) then (
          (rG h 30 x1).bind fun v16 =>
          if v16 = 0 then none else
          some (h, (x6 / v16))) else (
          (rG h 29 x1).bind fun v19 =>
          if v19 = 0 then none else
          some (h, (x4 / v19)))) else (
        (rG h 28 x1).bind fun v22 =>
        if v22 = 0 then none else
        some (h, (x2 / v22)))) else (
      (rA h 33 ((25 : Int32) * x1)).bind fun v25 =>
      (rA h 33 (((25 : Int32) * x1) + x8)).bind fun v27 =>
      (rA h 33 ((((25 : Int32) * x1) + x8) + (1 : Int32))).bind fun v29 =>
      (mxX7_across N v25 v27 v29 h).bind fun o31 =>
      mxX7_area_26 N n x1 (x2 + (o31.2.1 24)) (x4 + (o31.2.1 25)) (x6 + (o31.2.1 26)) (x8 + (1 : Int32)) o31)
set_option maxHeartbeats 4000000 in
set_option maxRecDepth 100000 in
theorem emX7_area_26 {N : Nat} {C : mh} (hC : C.length = 239) : ∀ (n : Nat) (x1 : Int32) (x2 : Int64) (x4 : Int64) (x6 : Int64) (x8 : Int32) (h : mS) {o : (mS × Int64)}, mxX7_area_26 N n x1 x2 x4 x6 x8 h = some o → mB (gO mX7_area (hM C o.1, some (.long o.2))) mX7_area (26, [(0, .ref 239), (1, .int x1), (2, .long x2), (4, .long x4), (6, .long x6), (8, .int x8)], [], (hM C h), 0, 0) := by
  intro n
  induction n with
  | zero => intro x1 x2 x4 x6 x8 h o hq; cases hq
  | succ n ih =>
    intro x1 x2 x4 x6 x8 h o hq
    unfold mxX7_area_26 at hq
    refine mB_run odX7_area 4 (g := (31, [(0, .ref 239), (1, .int x1), (2, .long x2), (4, .long x4), (6, .long x6), (8, .int x8)], [.ref 239, .int (x8 + (1 : Int32))], (hM C h), 0, 0)) rfl ?_
    refine r_gR odX7_area rfl rfl (md_32 hC) ?_
    refine mB_run odX7_area 1 (g := (35, [(0, .ref 239), (1, .int x1), (2, .long x2), (4, .long x4), (6, .long x6), (8, .int x8)], [.int x1, .ref 265, .int (x8 + (1 : Int32))], (hM C h), 0, 0)) rfl ?_
    obtain ⟨v7, e8, hq⟩ := bsm hq
    refine r_aI odX7_area rfl (ra_32 hC e8) ?_
    by_cases c9 : v7 ≤ (x8 + (1 : Int32))
    · rw [if_pos c9] at hq
      refine ic_ge_T (t := 109) odX7_area rfl rfl c9 ?_
      refine mB_run odX7_area 1 (g := (110, [(0, .ref 239), (1, .int x1), (2, .long x2), (4, .long x4), (6, .long x6), (8, .int x8)], [.ref 239], (hM C h), 0, 0)) rfl ?_
      refine r_gR odX7_area rfl rfl (md_28 hC) ?_
      refine mB_run odX7_area 1 (g := (114, [(0, .ref 239), (1, .int x1), (2, .long x2), (4, .long x4), (6, .long x6), (8, .int x8)], [.int x1, .ref 261], (hM C h), 0, 0)) rfl ?_
      obtain ⟨v10, e11, hq⟩ := bsm hq
      refine r_aJ odX7_area rfl (ra_28 hC e11) ?_
      refine mB_run odX7_area 1 (g := (116, [(0, .ref 239), (1, .int x1), (2, .long x2), (4, .long x4), (6, .long x6), (8, .int x8)], [.long (0 : Int64), .long v10], (hM C h), 0, 0)) rfl ?_
      by_cases c12 : v10 = (0 : Int64)
      · rw [if_pos c12] at hq
        refine lc_eq_T (t := 131) odX7_area rfl rfl rfl c12 ?_
        refine mB_run odX7_area 1 (g := (132, [(0, .ref 239), (1, .int x1), (2, .long x2), (4, .long x4), (6, .long x6), (8, .int x8)], [.ref 239], (hM C h), 0, 0)) rfl ?_
        refine r_gR odX7_area rfl rfl (md_29 hC) ?_
        refine mB_run odX7_area 1 (g := (136, [(0, .ref 239), (1, .int x1), (2, .long x2), (4, .long x4), (6, .long x6), (8, .int x8)], [.int x1, .ref 262], (hM C h), 0, 0)) rfl ?_
        obtain ⟨v13, e14, hq⟩ := bsm hq
        refine r_aJ odX7_area rfl (ra_29 hC e14) ?_
        refine mB_run odX7_area 1 (g := (138, [(0, .ref 239), (1, .int x1), (2, .long x2), (4, .long x4), (6, .long x6), (8, .int x8)], [.long (0 : Int64), .long v13], (hM C h), 0, 0)) rfl ?_
        by_cases c15 : v13 = (0 : Int64)
        · rw [if_pos c15] at hq
          refine lc_eq_T (t := 154) odX7_area rfl rfl rfl c15 ?_
          refine mB_run odX7_area 2 (g := (157, [(0, .ref 239), (1, .int x1), (2, .long x2), (4, .long x4), (6, .long x6), (8, .int x8)], [.ref 239, .long x6], (hM C h), 0, 0)) rfl ?_
          refine r_gR odX7_area rfl rfl (md_30 hC) ?_
          refine mB_run odX7_area 1 (g := (161, [(0, .ref 239), (1, .int x1), (2, .long x2), (4, .long x4), (6, .long x6), (8, .int x8)], [.int x1, .ref 263, .long x6], (hM C h), 0, 0)) rfl ?_
          obtain ⟨v16, e17, hq⟩ := bsm hq
          refine r_aJ odX7_area rfl (ra_30 hC e17) ?_
          by_cases c18 : v16 = 0
          · rw [if_pos c18] at hq; cases hq
          rw [if_neg c18] at hq
          refine r_ldiv odX7_area rfl c18 ?_
          cases hq
          exact mB_ret odX7_area rfl
        · rw [if_neg c15] at hq
          refine lc_eq_F (t := 154) odX7_area rfl rfl rfl c15 ?_
          refine mB_run odX7_area 2 (g := (145, [(0, .ref 239), (1, .int x1), (2, .long x2), (4, .long x4), (6, .long x6), (8, .int x8)], [.ref 239, .long x4], (hM C h), 0, 0)) rfl ?_
          refine r_gR odX7_area rfl rfl (md_29 hC) ?_
          refine mB_run odX7_area 1 (g := (149, [(0, .ref 239), (1, .int x1), (2, .long x2), (4, .long x4), (6, .long x6), (8, .int x8)], [.int x1, .ref 262, .long x4], (hM C h), 0, 0)) rfl ?_
          obtain ⟨v19, e20, hq⟩ := bsm hq
          refine r_aJ odX7_area rfl (ra_29 hC e20) ?_
          by_cases c21 : v19 = 0
          · rw [if_pos c21] at hq; cases hq
          rw [if_neg c21] at hq
          refine r_ldiv odX7_area rfl c21 ?_
          refine mB_run odX7_area 1 (g := (163, [(0, .ref 239), (1, .int x1), (2, .long x2), (4, .long x4), (6, .long x6), (8, .int x8)], [.long (x4 / v19)], (hM C h), 0, 0)) rfl ?_
          cases hq
          exact mB_ret odX7_area rfl
      · rw [if_neg c12] at hq
        refine lc_eq_F (t := 131) odX7_area rfl rfl rfl c12 ?_
        refine mB_run odX7_area 2 (g := (122, [(0, .ref 239), (1, .int x1), (2, .long x2), (4, .long x4), (6, .long x6), (8, .int x8)], [.ref 239, .long x2], (hM C h), 0, 0)) rfl ?_
        refine r_gR odX7_area rfl rfl (md_28 hC) ?_
        refine mB_run odX7_area 1 (g := (126, [(0, .ref 239), (1, .int x1), (2, .long x2), (4, .long x4), (6, .long x6), (8, .int x8)], [.int x1, .ref 261, .long x2], (hM C h), 0, 0)) rfl ?_
        obtain ⟨v22, e23, hq⟩ := bsm hq
        refine r_aJ odX7_area rfl (ra_28 hC e23) ?_
        by_cases c24 : v22 = 0
        · rw [if_pos c24] at hq; cases hq
        rw [if_neg c24] at hq
        refine r_ldiv odX7_area rfl c24 ?_
        refine mB_run odX7_area 1 (g := (163, [(0, .ref 239), (1, .int x1), (2, .long x2), (4, .long x4), (6, .long x6), (8, .int x8)], [.long (x2 / v22)], (hM C h), 0, 0)) rfl ?_
        cases hq
        exact mB_ret odX7_area rfl
    · rw [if_neg c9] at hq
      refine ic_ge_F (t := 109) odX7_area rfl rfl c9 ?_
      refine mB_run odX7_area 2 (g := (41, [(0, .ref 239), (1, .int x1), (2, .long x2), (4, .long x4), (6, .long x6), (8, .int x8)], [.ref 239, .ref 239], (hM C h), 0, 0)) rfl ?_
      refine r_gR odX7_area rfl rfl (md_33 hC) ?_
      refine mB_run odX7_area 3 (g := (48, [(0, .ref 239), (1, .int x1), (2, .long x2), (4, .long x4), (6, .long x6), (8, .int x8)], [.int ((25 : Int32) * x1), .ref 266, .ref 239], (hM C h), 0, 0)) rfl ?_
      obtain ⟨v25, e26, hq⟩ := bsm hq
      refine r_aI odX7_area rfl (ra_33 hC e26) ?_
      refine mB_run odX7_area 1 (g := (50, [(0, .ref 239), (1, .int x1), (2, .long x2), (4, .long x4), (6, .long x6), (8, .int x8)], [.ref 239, .int v25, .ref 239], (hM C h), 0, 0)) rfl ?_
      refine r_gR odX7_area rfl rfl (md_33 hC) ?_
      refine mB_run odX7_area 5 (g := (60, [(0, .ref 239), (1, .int x1), (2, .long x2), (4, .long x4), (6, .long x6), (8, .int x8)], [.int (((25 : Int32) * x1) + x8), .ref 266, .int v25, .ref 239], (hM C h), 0, 0)) rfl ?_
      obtain ⟨v27, e28, hq⟩ := bsm hq
      refine r_aI odX7_area rfl (ra_33 hC e28) ?_
      refine mB_run odX7_area 1 (g := (62, [(0, .ref 239), (1, .int x1), (2, .long x2), (4, .long x4), (6, .long x6), (8, .int x8)], [.ref 239, .int v27, .int v25, .ref 239], (hM C h), 0, 0)) rfl ?_
      refine r_gR odX7_area rfl rfl (md_33 hC) ?_
      refine mB_run odX7_area 7 (g := (74, [(0, .ref 239), (1, .int x1), (2, .long x2), (4, .long x4), (6, .long x6), (8, .int x8)], [.int ((((25 : Int32) * x1) + x8) + (1 : Int32)), .ref 266, .int v27, .int v25, .ref 239], (hM C h), 0, 0)) rfl ?_
      obtain ⟨v29, e30, hq⟩ := bsm hq
      refine r_aI odX7_area rfl (ra_33 hC e30) ?_
      obtain ⟨o31, e32, hq⟩ := bsm hq
      refine mB_V (as := [.int v25, .int v27, .int v29]) odX7_area okX7_across lk_7_178 rfl (emX7_across hC e32) (kO_at (md_O hC)) rfl rfl rfl ?_
      show mB _ mX7_area (78, [(0, .ref 239), (1, .int x1), (2, .long x2), (4, .long x4), (6, .long x6), (8, .int x8)], [], (hM C o31), 0, 0)
      refine mB_run odX7_area 2 (g := (80, [(0, .ref 239), (1, .int x1), (2, .long x2), (4, .long x4), (6, .long x6), (8, .int x8)], [.ref 239, .long x2], (hM C o31), 0, 0)) rfl ?_
      refine r_gJ odX7_area rfl rfl (md_24 hC) ?_
      refine mB_run odX7_area 4 (g := (88, [(2, .long (x2 + (o31.2.1 24))), (0, .ref 239), (1, .int x1), (4, .long x4), (6, .long x6), (8, .int x8)], [.ref 239, .long x4], (hM C o31), 0, 0)) rfl ?_
      refine r_gJ odX7_area rfl rfl (md_25 hC) ?_
      refine mB_run odX7_area 4 (g := (97, [(4, .long (x4 + (o31.2.1 25))), (2, .long (x2 + (o31.2.1 24))), (0, .ref 239), (1, .int x1), (6, .long x6), (8, .int x8)], [.ref 239, .long x6], (hM C o31), 0, 0)) rfl ?_
      refine r_gJ odX7_area rfl rfl (md_26 hC) ?_
      refine mB_run odX7_area 4 (g := (26, [(8, .int (x8 + (1 : Int32))), (6, .long (x6 + (o31.2.1 26))), (4, .long (x4 + (o31.2.1 25))), (2, .long (x2 + (o31.2.1 24))), (0, .ref 239), (1, .int x1)], [], (hM C o31), 0, 0)) rfl ?_
      refine mB_lv [4, 5, 3, 2, 1, 0] (lv' := [(0, .ref 239), (1, .int x1), (2, .long (x2 + (o31.2.1 24))), (4, .long (x4 + (o31.2.1 25))), (6, .long (x6 + (o31.2.1 26))), (8, .int (x8 + (1 : Int32)))]) rfl ?_
      exact ih _ _ _ _ _ _ hq
def mxX7_area (N : Nat) (p1 : Int32) (h : mS) : Option (mS × Int64) :=
  (some (pJ h 24 (0 : Int64))).bind fun s1 =>
  (some (pJ s1 25 (0 : Int64))).bind fun s3 =>
  (some (pJ s3 26 (0 : Int64))).bind fun s5 =>
  mxX7_area_26 N N p1 (0 : Int64) (0 : Int64) (0 : Int64) (1 : Int32) s5
set_option maxHeartbeats 4000000 in
set_option maxRecDepth 100000 in
theorem emX7_area {N : Nat} {C : mh} (hC : C.length = 239) {p1 : Int32} {h : mS} {o : (mS × Int64)} (hq : mxX7_area N p1 h = some o) : mC mX7_area [.ref 239, .int p1] (hM C h) (hM C o.1, some (.long o.2)) := by
  refine mC_of okX7_area (Nat.le_of_ble_eq_true rfl) ?_
  unfold mxX7_area at hq
  show mB _ mX7_area (0, [(0, .ref 239), (1, .int p1)], [], (hM C h), 0, 0)
  refine mB_run odX7_area 2 (g := (2, [(0, .ref 239), (1, .int p1)], [.long (0 : Int64), .ref 239], (hM C h), 0, 0)) rfl ?_
  obtain ⟨s1, e2, hq⟩ := bsm hq
  refine r_sV odX7_area rfl rfl rfl rfl (pt_24 hC e2) ?_
  refine mB_run odX7_area 2 (g := (7, [(0, .ref 239), (1, .int p1)], [.long (0 : Int64), .ref 239], (hM C s1), 0, 0)) rfl ?_
  obtain ⟨s3, e4, hq⟩ := bsm hq
  refine r_sV odX7_area rfl rfl rfl rfl (pt_25 hC e4) ?_
  refine mB_run odX7_area 2 (g := (12, [(0, .ref 239), (1, .int p1)], [.long (0 : Int64), .ref 239], (hM C s3), 0, 0)) rfl ?_
  obtain ⟨s5, e6, hq⟩ := bsm hq
  refine r_sV odX7_area rfl rfl rfl rfl (pt_26 hC e6) ?_
  refine mB_run odX7_area 8 (g := (26, [(8, .int (1 : Int32)), (6, .long (0 : Int64)), (4, .long (0 : Int64)), (2, .long (0 : Int64)), (0, .ref 239), (1, .int p1)], [], (hM C s5), 0, 0)) rfl ?_
  refine mB_lv [4, 5, 3, 2, 1, 0] (lv' := [(0, .ref 239), (1, .int p1), (2, .long (0 : Int64)), (4, .long (0 : Int64)), (6, .long (0 : Int64)), (8, .int (1 : Int32))]) rfl ?_
  exact emX7_area_26 hC N _ _ _ _ _ _ hq
