def mxX7_face (N : Nat) (p1 : Int32) (p2 : Int32) (p3 : Int32) (h : mS) : Option (mS × Int64) :=
  (mxX7_isSolid N p1 h).bind fun o1 =>
  if o1.2 = 0 then (
    some (o1.1, (-2000000000 : Int64))) else (
    if 0 ≤ p2 then (
      (mxX7_knows N p1 (0 : Int32) o1.1).bind fun o5 =>
      (rA o5 27 (0 : Int32)).bind fun v7 =>
      if p2 < v7 then (
        if p3 = (0 : Int32) then (
          (rG o5 28 p2).bind fun v11 =>
          some (o5, v11)) else (
          if p3 = (1 : Int32) then (
            (rG o5 29 p2).bind fun v14 =>
            some (o5, v14)) else (
            if p3 = (2 : Int32) then (
              (rG o5 30 p2).bind fun v17 =>
              some (o5, v17)) else (
              if p3 = (3 : Int32) then (
                (rG o5 31 p2).bind fun v20 =>
                some (o5, v20)) else (
                if p3 = (4 : Int32) then (
                  (rA o5 32 p2).bind fun v23 =>
                  some (o5, v23.toInt64)) else (
                  if p3 = (5 : Int32) then (
                    (mxX7_area N p2 o5).bind fun o26 =>
                    some (o26.1, o26.2)) else (
                    if p3 ≤ (5 : Int32) then (
                      some (o5, (-2000000000 : Int64))) else (
                      (rA o5 32 p2).bind fun v29 =>
                      if v29 ≤ (p3 - (6 : Int32)) then (
                        some (o5, (-2000000000 : Int64))) else (
                        (rA o5 33 ((((25 : Int32) * p2) + p3) - (6 : Int32))).bind fun v32 =>
                        some (o5, v32.toInt64)))))))))) else (
        some (o5, (-2000000000 : Int64)))) else (
      some (o1.1, (-2000000000 : Int64))))
set_option maxHeartbeats 4000000 in
set_option maxRecDepth 100000 in
theorem emX7_face {N : Nat} {C : mh} (hC : C.length = 239) {p1 : Int32} {p2 : Int32} {p3 : Int32} {h : mS} {o : (mS × Int64)} (hq : mxX7_face N p1 p2 p3 h = some o) : mC mX7_face [.ref 239, .int p1, .int p2, .int p3] (hM C h) (hM C o.1, some (.long o.2)) := by
  refine mC_of okX7_face (Nat.le_of_ble_eq_true rfl) ?_
  unfold mxX7_face at hq
  show mB _ mX7_face (0, [(0, .ref 239), (1, .int p1), (2, .int p2), (3, .int p3)], [], (hM C h), 0, 0)
  refine mB_run odX7_face 1 (g := (1, [(0, .ref 239), (1, .int p1), (2, .int p2), (3, .int p3)], [.int p1], (hM C h), 0, 0)) rfl ?_
  obtain ⟨o1, e2, hq⟩ := bsm hq
  refine mB_S (as := [.int p1]) odX7_face okX7_isSolid lk_7_133 rfl (emX7_isSolid hC e2) rfl rfl rfl ?_
  show mB _ mX7_face (4, [(0, .ref 239), (1, .int p1), (2, .int p2), (3, .int p3)], [.int o1.2], (hM C o1.1), 0, 0)
  by_cases c3 : o1.2 = 0
  · rw [if_pos c3] at hq
    refine if_eq_T (t := 11) odX7_face rfl rfl c3 ?_
    refine mB_run odX7_face 1 (g := (14, [(0, .ref 239), (1, .int p1), (2, .int p2), (3, .int p3)], [.long (-2000000000 : Int64)], (hM C o1.1), 0, 0)) rfl ?_
    cases hq
    exact mB_ret odX7_face rfl
  · rw [if_neg c3] at hq
    refine if_eq_F (t := 11) odX7_face rfl rfl c3 ?_
    refine mB_run odX7_face 1 (g := (8, [(0, .ref 239), (1, .int p1), (2, .int p2), (3, .int p3)], [.int p2], (hM C o1.1), 0, 0)) rfl ?_
    by_cases c4 : 0 ≤ p2
    · rw [if_pos c4] at hq
      refine if_ge_T (t := 15) odX7_face rfl rfl c4 ?_
      refine mB_run odX7_face 3 (g := (18, [(0, .ref 239), (1, .int p1), (2, .int p2), (3, .int p3)], [.int (0 : Int32), .int p1, .ref 239], (hM C o1.1), 0, 0)) rfl ?_
      obtain ⟨o5, e6, hq⟩ := bsm hq
      refine mB_V (as := [.int p1, .int (0 : Int32)]) odX7_face okX7_knows lk_7_244 rfl (emX7_knows hC e6) (kO_at (md_O hC)) rfl rfl rfl ?_
      show mB _ mX7_face (21, [(0, .ref 239), (1, .int p1), (2, .int p2), (3, .int p3)], [], (hM C o5), 0, 0)
      refine mB_run odX7_face 2 (g := (23, [(0, .ref 239), (1, .int p1), (2, .int p2), (3, .int p3)], [.ref 239, .int p2], (hM C o5), 0, 0)) rfl ?_
      refine r_gR odX7_face rfl rfl (md_27 hC) ?_
      refine mB_run odX7_face 1 (g := (27, [(0, .ref 239), (1, .int p1), (2, .int p2), (3, .int p3)], [.int (0 : Int32), .ref 260, .int p2], (hM C o5), 0, 0)) rfl ?_
      obtain ⟨v7, e8, hq⟩ := bsm hq
      refine r_aI odX7_face rfl (ra_27 hC e8) ?_
      by_cases c9 : p2 < v7
      · rw [if_pos c9] at hq
        refine ic_lt_T (t := 35) odX7_face rfl rfl c9 ?_
        refine mB_run odX7_face 1 (g := (36, [(0, .ref 239), (1, .int p1), (2, .int p2), (3, .int p3)], [.int p3], (hM C o5), 0, 0)) rfl ?_
        by_cases c10 : p3 = (0 : Int32)
        · rw [if_pos c10] at hq
          refine r_tab odX7_face rfl c10 (t := 76) rfl ?_
          refine mB_run odX7_face 1 (g := (77, [(0, .ref 239), (1, .int p1), (2, .int p2), (3, .int p3)], [.ref 239], (hM C o5), 0, 0)) rfl ?_
          refine r_gR odX7_face rfl rfl (md_28 hC) ?_
          refine mB_run odX7_face 1 (g := (81, [(0, .ref 239), (1, .int p1), (2, .int p2), (3, .int p3)], [.int p2, .ref 261], (hM C o5), 0, 0)) rfl ?_
          obtain ⟨v11, e12, hq⟩ := bsm hq
          refine r_aJ odX7_face rfl (ra_28 hC e12) ?_
          cases hq
          exact mB_ret odX7_face rfl
        · rw [if_neg c10] at hq
          by_cases c13 : p3 = (1 : Int32)
          · rw [if_pos c13] at hq
            refine r_tab odX7_face rfl c13 (t := 83) rfl ?_
            refine mB_run odX7_face 1 (g := (84, [(0, .ref 239), (1, .int p1), (2, .int p2), (3, .int p3)], [.ref 239], (hM C o5), 0, 0)) rfl ?_
            refine r_gR odX7_face rfl rfl (md_29 hC) ?_
            refine mB_run odX7_face 1 (g := (88, [(0, .ref 239), (1, .int p1), (2, .int p2), (3, .int p3)], [.int p2, .ref 262], (hM C o5), 0, 0)) rfl ?_
            obtain ⟨v14, e15, hq⟩ := bsm hq
            refine r_aJ odX7_face rfl (ra_29 hC e15) ?_
            cases hq
            exact mB_ret odX7_face rfl
          · rw [if_neg c13] at hq
            by_cases c16 : p3 = (2 : Int32)
            · rw [if_pos c16] at hq
              refine r_tab odX7_face rfl c16 (t := 90) rfl ?_
              refine mB_run odX7_face 1 (g := (91, [(0, .ref 239), (1, .int p1), (2, .int p2), (3, .int p3)], [.ref 239], (hM C o5), 0, 0)) rfl ?_
              refine r_gR odX7_face rfl rfl (md_30 hC) ?_
              refine mB_run odX7_face 1 (g := (95, [(0, .ref 239), (1, .int p1), (2, .int p2), (3, .int p3)], [.int p2, .ref 263], (hM C o5), 0, 0)) rfl ?_
              obtain ⟨v17, e18, hq⟩ := bsm hq
              refine r_aJ odX7_face rfl (ra_30 hC e18) ?_
              cases hq
              exact mB_ret odX7_face rfl
            · rw [if_neg c16] at hq
              by_cases c19 : p3 = (3 : Int32)
              · rw [if_pos c19] at hq
                refine r_tab odX7_face rfl c19 (t := 97) rfl ?_
                refine mB_run odX7_face 1 (g := (98, [(0, .ref 239), (1, .int p1), (2, .int p2), (3, .int p3)], [.ref 239], (hM C o5), 0, 0)) rfl ?_
                refine r_gR odX7_face rfl rfl (md_31 hC) ?_
                refine mB_run odX7_face 1 (g := (102, [(0, .ref 239), (1, .int p1), (2, .int p2), (3, .int p3)], [.int p2, .ref 264], (hM C o5), 0, 0)) rfl ?_
                obtain ⟨v20, e21, hq⟩ := bsm hq
                refine r_aJ odX7_face rfl (ra_31 hC e21) ?_
                cases hq
                exact mB_ret odX7_face rfl
              · rw [if_neg c19] at hq
                by_cases c22 : p3 = (4 : Int32)
                · rw [if_pos c22] at hq
                  refine r_tab odX7_face rfl c22 (t := 104) rfl ?_
                  refine mB_run odX7_face 1 (g := (105, [(0, .ref 239), (1, .int p1), (2, .int p2), (3, .int p3)], [.ref 239], (hM C o5), 0, 0)) rfl ?_
                  refine r_gR odX7_face rfl rfl (md_32 hC) ?_
                  refine mB_run odX7_face 1 (g := (109, [(0, .ref 239), (1, .int p1), (2, .int p2), (3, .int p3)], [.int p2, .ref 265], (hM C o5), 0, 0)) rfl ?_
                  obtain ⟨v23, e24, hq⟩ := bsm hq
                  refine r_aI odX7_face rfl (ra_32 hC e24) ?_
                  refine mB_run odX7_face 1 (g := (111, [(0, .ref 239), (1, .int p1), (2, .int p2), (3, .int p3)], [.long v23.toInt64], (hM C o5), 0, 0)) rfl ?_
                  cases hq
                  exact mB_ret odX7_face rfl
                · rw [if_neg c22] at hq
                  by_cases c25 : p3 = (5 : Int32)
                  · rw [if_pos c25] at hq
                    refine r_tab odX7_face rfl c25 (t := 112) rfl ?_
                    refine mB_run odX7_face 2 (g := (114, [(0, .ref 239), (1, .int p1), (2, .int p2), (3, .int p3)], [.int p2, .ref 239], (hM C o5), 0, 0)) rfl ?_
                    obtain ⟨o26, e27, hq⟩ := bsm hq
                    refine mB_V (as := [.int p2]) odX7_face okX7_area lk_7_250 rfl (emX7_area hC e27) (kO_at (md_O hC)) rfl rfl rfl ?_
                    show mB _ mX7_face (117, [(0, .ref 239), (1, .int p1), (2, .int p2), (3, .int p3)], [.long o26.2], (hM C o26.1), 0, 0)
                    cases hq
                    exact mB_ret odX7_face rfl
                  · rw [if_neg c25] at hq
                    refine r_tabd odX7_face rfl (t := 118) (by omega) (ts_out6 c10 c13 c16 c19 c22 c25) ?_
                    refine mB_run odX7_face 2 (g := (120, [(0, .ref 239), (1, .int p1), (2, .int p2), (3, .int p3)], [.int (5 : Int32), .int p3], (hM C o5), 0, 0)) rfl ?_
                    by_cases c28 : p3 ≤ (5 : Int32)
                    · rw [if_pos c28] at hq
                      refine ic_le_T (t := 154) odX7_face rfl rfl c28 ?_
                      refine mB_run odX7_face 1 (g := (157, [(0, .ref 239), (1, .int p1), (2, .int p2), (3, .int p3)], [.long (-2000000000 : Int64)], (hM C o5), 0, 0)) rfl ?_
                      cases hq
                      exact mB_ret odX7_face rfl
                    · rw [if_neg c28] at hq
                      refine ic_le_F (t := 154) odX7_face rfl rfl c28 ?_
                      refine mB_run odX7_face 4 (g := (128, [(0, .ref 239), (1, .int p1), (2, .int p2), (3, .int p3)], [.ref 239, .int (p3 - (6 : Int32))], (hM C o5), 0, 0)) rfl ?_
                      refine r_gR odX7_face rfl rfl (md_32 hC) ?_
                      refine mB_run odX7_face 1 (g := (132, [(0, .ref 239), (1, .int p1), (2, .int p2), (3, .int p3)], [.int p2, .ref 265, .int (p3 - (6 : Int32))], (hM C o5), 0, 0)) rfl ?_
                      obtain ⟨v29, e30, hq⟩ := bsm hq
                      refine r_aI odX7_face rfl (ra_32 hC e30) ?_
                      by_cases c31 : v29 ≤ (p3 - (6 : Int32))
                      · rw [if_pos c31] at hq
                        refine ic_ge_T (t := 154) odX7_face rfl rfl c31 ?_
                        refine mB_run odX7_face 1 (g := (157, [(0, .ref 239), (1, .int p1), (2, .int p2), (3, .int p3)], [.long (-2000000000 : Int64)], (hM C o5), 0, 0)) rfl ?_
                        cases hq
                        exact mB_ret odX7_face rfl
                      · rw [if_neg c31] at hq
                        refine ic_ge_F (t := 154) odX7_face rfl rfl c31 ?_
                        refine mB_run odX7_face 1 (g := (137, [(0, .ref 239), (1, .int p1), (2, .int p2), (3, .int p3)], [.ref 239], (hM C o5), 0, 0)) rfl ?_
                        refine r_gR odX7_face rfl rfl (md_33 hC) ?_
                        refine mB_run odX7_face 7 (g := (149, [(0, .ref 239), (1, .int p1), (2, .int p2), (3, .int p3)], [.int ((((25 : Int32) * p2) + p3) - (6 : Int32)), .ref 266], (hM C o5), 0, 0)) rfl ?_
                        obtain ⟨v32, e33, hq⟩ := bsm hq
                        refine r_aI odX7_face rfl (ra_33 hC e33) ?_
                        refine mB_run odX7_face 2 (g := (157, [(0, .ref 239), (1, .int p1), (2, .int p2), (3, .int p3)], [.long v32.toInt64], (hM C o5), 0, 0)) rfl ?_
                        cases hq
                        exact mB_ret odX7_face rfl
      · rw [if_neg c9] at hq
        refine ic_lt_F (t := 35) odX7_face rfl rfl c9 ?_
        refine mB_run odX7_face 1 (g := (34, [(0, .ref 239), (1, .int p1), (2, .int p2), (3, .int p3)], [.long (-2000000000 : Int64)], (hM C o5), 0, 0)) rfl ?_
        cases hq
        exact mB_ret odX7_face rfl
    · rw [if_neg c4] at hq
      refine if_ge_F (t := 15) odX7_face rfl rfl c4 ?_
      refine mB_run odX7_face 1 (g := (14, [(0, .ref 239), (1, .int p1), (2, .int p2), (3, .int p3)], [.long (-2000000000 : Int64)], (hM C o1.1), 0, 0)) rfl ?_
      cases hq
      exact mB_ret odX7_face rfl
def mxX7_overFace (N : Nat) (p1 : Int32) (h : mS) : Option (mS × Int64) :=
  (rG h 28 p1).bind fun v1 =>
  (rG h 29 p1).bind fun v3 =>
  (rG h 30 p1).bind fun v5 =>
  (rG h 31 p1).bind fun v7 =>
  some (h, ((((v1 * (h.2.1 39)) + (v3 * (h.2.1 40))) + (v5 * (h.2.1 41))) - (v7 * (h.2.1 42))))
set_option maxHeartbeats 4000000 in
set_option maxRecDepth 100000 in
theorem emX7_overFace {N : Nat} {C : mh} (hC : C.length = 239) {p1 : Int32} {h : mS} {o : (mS × Int64)} (hq : mxX7_overFace N p1 h = some o) : mC mX7_overFace [.ref 239, .int p1] (hM C h) (hM C o.1, some (.long o.2)) := by
  refine mC_of okX7_overFace (Nat.le_of_ble_eq_true rfl) ?_
  unfold mxX7_overFace at hq
  show mB _ mX7_overFace (0, [(0, .ref 239), (1, .int p1)], [], (hM C h), 0, 0)
  refine mB_run odX7_overFace 1 (g := (1, [(0, .ref 239), (1, .int p1)], [.ref 239], (hM C h), 0, 0)) rfl ?_
  refine r_gR odX7_overFace rfl rfl (md_28 hC) ?_
  refine mB_run odX7_overFace 1 (g := (5, [(0, .ref 239), (1, .int p1)], [.int p1, .ref 261], (hM C h), 0, 0)) rfl ?_
  obtain ⟨v1, e2, hq⟩ := bsm hq
  refine r_aJ odX7_overFace rfl (ra_28 hC e2) ?_
  refine mB_run odX7_overFace 1 (g := (7, [(0, .ref 239), (1, .int p1)], [.ref 239, .long v1], (hM C h), 0, 0)) rfl ?_
  refine r_gJ odX7_overFace rfl rfl (md_39 hC) ?_
  refine mB_run odX7_overFace 2 (g := (12, [(0, .ref 239), (1, .int p1)], [.ref 239, .long (v1 * (h.2.1 39))], (hM C h), 0, 0)) rfl ?_
  refine r_gR odX7_overFace rfl rfl (md_29 hC) ?_
  refine mB_run odX7_overFace 1 (g := (16, [(0, .ref 239), (1, .int p1)], [.int p1, .ref 262, .long (v1 * (h.2.1 39))], (hM C h), 0, 0)) rfl ?_
  obtain ⟨v3, e4, hq⟩ := bsm hq
  refine r_aJ odX7_overFace rfl (ra_29 hC e4) ?_
  refine mB_run odX7_overFace 1 (g := (18, [(0, .ref 239), (1, .int p1)], [.ref 239, .long v3, .long (v1 * (h.2.1 39))], (hM C h), 0, 0)) rfl ?_
  refine r_gJ odX7_overFace rfl rfl (md_40 hC) ?_
  refine mB_run odX7_overFace 3 (g := (24, [(0, .ref 239), (1, .int p1)], [.ref 239, .long ((v1 * (h.2.1 39)) + (v3 * (h.2.1 40)))], (hM C h), 0, 0)) rfl ?_
  refine r_gR odX7_overFace rfl rfl (md_30 hC) ?_
  refine mB_run odX7_overFace 1 (g := (28, [(0, .ref 239), (1, .int p1)], [.int p1, .ref 263, .long ((v1 * (h.2.1 39)) + (v3 * (h.2.1 40)))], (hM C h), 0, 0)) rfl ?_
  obtain ⟨v5, e6, hq⟩ := bsm hq
  refine r_aJ odX7_overFace rfl (ra_30 hC e6) ?_
  refine mB_run odX7_overFace 1 (g := (30, [(0, .ref 239), (1, .int p1)], [.ref 239, .long v5, .long ((v1 * (h.2.1 39)) + (v3 * (h.2.1 40)))], (hM C h), 0, 0)) rfl ?_
  refine r_gJ odX7_overFace rfl rfl (md_41 hC) ?_
  refine mB_run odX7_overFace 3 (g := (36, [(0, .ref 239), (1, .int p1)], [.ref 239, .long (((v1 * (h.2.1 39)) + (v3 * (h.2.1 40))) + (v5 * (h.2.1 41)))], (hM C h), 0, 0)) rfl ?_
  refine r_gR odX7_overFace rfl rfl (md_31 hC) ?_
  refine mB_run odX7_overFace 1 (g := (40, [(0, .ref 239), (1, .int p1)], [.int p1, .ref 264, .long (((v1 * (h.2.1 39)) + (v3 * (h.2.1 40))) + (v5 * (h.2.1 41)))], (hM C h), 0, 0)) rfl ?_
  obtain ⟨v7, e8, hq⟩ := bsm hq
  refine r_aJ odX7_overFace rfl (ra_31 hC e8) ?_
  refine mB_run odX7_overFace 1 (g := (42, [(0, .ref 239), (1, .int p1)], [.ref 239, .long v7, .long (((v1 * (h.2.1 39)) + (v3 * (h.2.1 40))) + (v5 * (h.2.1 41)))], (hM C h), 0, 0)) rfl ?_
  refine r_gJ odX7_overFace rfl rfl (md_42 hC) ?_
  refine mB_run odX7_overFace 2 (g := (47, [(0, .ref 239), (1, .int p1)], [.long ((((v1 * (h.2.1 39)) + (v3 * (h.2.1 40))) + (v5 * (h.2.1 41))) - (v7 * (h.2.1 42)))], (hM C h), 0, 0)) rfl ?_
  cases hq
  exact mB_ret odX7_overFace rfl
def mxX7_owns_18 (N : Nat) : Nat → Int32 → Int32 → mS → Option mS
  | 0, _, _, _ => none
  | n + 1, x2, x3, h =>
    if (h.1 15) ≤ x3 then (
      some h) else (
      (rG h 16 x3).bind fun v6 =>
      (wG h 43 (((24 : Int32) * x2) + x3) v6).bind fun s8 =>
      (rG s8 17 x3).bind fun v10 =>
      (wG s8 44 (((24 : Int32) * x2) + x3) v10).bind fun s12 =>
      (rG s12 18 x3).bind fun v14 =>
      (wG s12 45 (((24 : Int32) * x2) + x3) v14).bind fun s16 =>
      mxX7_owns_18 N n x2 (x3 + (1 : Int32)) s16)
set_option maxHeartbeats 4000000 in
set_option maxRecDepth 100000 in
theorem emX7_owns_18 {N : Nat} {C : mh} (hC : C.length = 239) : ∀ (n : Nat) (x2 : Int32) (x3 : Int32) (h : mS) {o : mS}, mxX7_owns_18 N n x2 x3 h = some o → mB (gO mX7_owns (hM C o, none)) mX7_owns (18, [(0, .ref 239), (2, .int x2), (3, .int x3)], [], (hM C h), 0, 0) := by
  intro n
  induction n with
  | zero => intro x2 x3 h o hq; cases hq
  | succ n ih =>
    intro x2 x3 h o hq
    unfold mxX7_owns_18 at hq
    refine mB_run odX7_owns 2 (g := (20, [(0, .ref 239), (2, .int x2), (3, .int x3)], [.ref 239, .int x3], (hM C h), 0, 0)) rfl ?_
    refine r_gI odX7_owns rfl rfl (md_15 hC) ?_
    by_cases c5 : (h.1 15) ≤ x3
    · rw [if_pos c5] at hq
      refine ic_ge_T (t := 83) odX7_owns rfl rfl c5 ?_
      cases hq
      exact mB_ret odX7_owns rfl
    · rw [if_neg c5] at hq
      refine ic_ge_F (t := 83) odX7_owns rfl rfl c5 ?_
      refine mB_run odX7_owns 1 (g := (27, [(0, .ref 239), (2, .int x2), (3, .int x3)], [.ref 239], (hM C h), 0, 0)) rfl ?_
      refine r_gR odX7_owns rfl rfl (md_43 hC) ?_
      refine mB_run odX7_owns 6 (g := (37, [(0, .ref 239), (2, .int x2), (3, .int x3)], [.ref 239, .int (((24 : Int32) * x2) + x3), .ref 272], (hM C h), 0, 0)) rfl ?_
      refine r_gR odX7_owns rfl rfl (md_16 hC) ?_
      refine mB_run odX7_owns 1 (g := (41, [(0, .ref 239), (2, .int x2), (3, .int x3)], [.int x3, .ref 254, .int (((24 : Int32) * x2) + x3), .ref 272], (hM C h), 0, 0)) rfl ?_
      obtain ⟨v6, e7, hq⟩ := bsm hq
      refine r_aJ odX7_owns rfl (ra_16 hC e7) ?_
      obtain ⟨s8, e9, hq⟩ := bsm hq
      refine r_wJ odX7_owns rfl (wa_43 hC e9) ?_
      refine mB_run odX7_owns 1 (g := (44, [(0, .ref 239), (2, .int x2), (3, .int x3)], [.ref 239], (hM C s8), 0, 0)) rfl ?_
      refine r_gR odX7_owns rfl rfl (md_44 hC) ?_
      refine mB_run odX7_owns 6 (g := (54, [(0, .ref 239), (2, .int x2), (3, .int x3)], [.ref 239, .int (((24 : Int32) * x2) + x3), .ref 273], (hM C s8), 0, 0)) rfl ?_
      refine r_gR odX7_owns rfl rfl (md_17 hC) ?_
      refine mB_run odX7_owns 1 (g := (58, [(0, .ref 239), (2, .int x2), (3, .int x3)], [.int x3, .ref 255, .int (((24 : Int32) * x2) + x3), .ref 273], (hM C s8), 0, 0)) rfl ?_
      obtain ⟨v10, e11, hq⟩ := bsm hq
      refine r_aJ odX7_owns rfl (ra_17 hC e11) ?_
      obtain ⟨s12, e13, hq⟩ := bsm hq
      refine r_wJ odX7_owns rfl (wa_44 hC e13) ?_
      refine mB_run odX7_owns 1 (g := (61, [(0, .ref 239), (2, .int x2), (3, .int x3)], [.ref 239], (hM C s12), 0, 0)) rfl ?_
      refine r_gR odX7_owns rfl rfl (md_45 hC) ?_
      refine mB_run odX7_owns 6 (g := (71, [(0, .ref 239), (2, .int x2), (3, .int x3)], [.ref 239, .int (((24 : Int32) * x2) + x3), .ref 274], (hM C s12), 0, 0)) rfl ?_
      refine r_gR odX7_owns rfl rfl (md_18 hC) ?_
      refine mB_run odX7_owns 1 (g := (75, [(0, .ref 239), (2, .int x2), (3, .int x3)], [.int x3, .ref 256, .int (((24 : Int32) * x2) + x3), .ref 274], (hM C s12), 0, 0)) rfl ?_
      obtain ⟨v14, e15, hq⟩ := bsm hq
      refine r_aJ odX7_owns rfl (ra_18 hC e15) ?_
      obtain ⟨s16, e17, hq⟩ := bsm hq
      refine r_wJ odX7_owns rfl (wa_45 hC e17) ?_
      refine mB_run odX7_owns 2 (g := (18, [(3, .int (x3 + (1 : Int32))), (0, .ref 239), (2, .int x2)], [], (hM C s16), 0, 0)) rfl ?_
      refine mB_lv [1, 2, 0] (lv' := [(0, .ref 239), (2, .int x2), (3, .int (x3 + (1 : Int32)))]) rfl ?_
      exact ih _ _ _ hq
def mxX7_owns (N : Nat) (p1 : Int32) (p2 : Int32) (h : mS) : Option mS :=
  (mxX7_knows N p1 p2 h).bind fun o1 =>
  (wA o1 46 p2 (o1.1 15)).bind fun s3 =>
  mxX7_owns_18 N N p2 (0 : Int32) s3
set_option maxHeartbeats 4000000 in
set_option maxRecDepth 100000 in
theorem emX7_owns {N : Nat} {C : mh} (hC : C.length = 239) {p1 : Int32} {p2 : Int32} {h : mS} {o : mS} (hq : mxX7_owns N p1 p2 h = some o) : mC mX7_owns [.ref 239, .int p1, .int p2] (hM C h) (hM C o, none) := by
  refine mC_of okX7_owns (Nat.le_of_ble_eq_true rfl) ?_
  unfold mxX7_owns at hq
  show mB _ mX7_owns (0, [(0, .ref 239), (1, .int p1), (2, .int p2)], [], (hM C h), 0, 0)
  refine mB_run odX7_owns 3 (g := (3, [(0, .ref 239), (1, .int p1), (2, .int p2)], [.int p2, .int p1, .ref 239], (hM C h), 0, 0)) rfl ?_
  obtain ⟨o1, e2, hq⟩ := bsm hq
  refine mB_V (as := [.int p1, .int p2]) odX7_owns okX7_knows lk_7_244 rfl (emX7_knows hC e2) (kO_at (md_O hC)) rfl rfl rfl ?_
  show mB _ mX7_owns (6, [(0, .ref 239), (1, .int p1), (2, .int p2)], [], (hM C o1), 0, 0)
  refine mB_run odX7_owns 1 (g := (7, [(0, .ref 239), (1, .int p1), (2, .int p2)], [.ref 239], (hM C o1), 0, 0)) rfl ?_
  refine r_gR odX7_owns rfl rfl (md_46 hC) ?_
  refine mB_run odX7_owns 2 (g := (12, [(0, .ref 239), (1, .int p1), (2, .int p2)], [.ref 239, .int p2, .ref 275], (hM C o1), 0, 0)) rfl ?_
  refine r_gI odX7_owns rfl rfl (md_15 hC) ?_
  obtain ⟨s3, e4, hq⟩ := bsm hq
  refine r_wI odX7_owns rfl (wa_46 hC e4) ?_
  refine mB_run odX7_owns 2 (g := (18, [(3, .int (0 : Int32)), (0, .ref 239), (1, .int p1), (2, .int p2)], [], (hM C s3), 0, 0)) rfl ?_
  refine mB_lv [1, 3, 0] (lv' := [(0, .ref 239), (2, .int p2), (3, .int (0 : Int32))]) rfl ?_
  exact emX7_owns_18 hC N _ _ _ hq
def mxX7_isOver_10 (N : Nat) : Nat → Int32 → Int32 → Int32 → Int32 → mS → Option (mS × Int32)
  | 0, _, _, _, _, _ => none
  | n + 1, x1, x2, x3, x4, h =>
    if x3 ≤ x4 then (
      some (h, (1 : Int32))) else (
      (rA h 33 (((25 : Int32) * x2) + x4)).bind fun v4 =>
      if x3 = 0 then none else
      (rA h 33 (((25 : Int32) * x2) + ((x4 + (1 : Int32)) - (x4 + (1 : Int32)) / x3 * x3))).bind fun v7 =>
      (rG h 43 (((24 : Int32) * x1) + v7)).bind fun v9 =>
      (rG h 43 (((24 : Int32) * x1) + v4)).bind fun v11 =>
      (rG h 44 (((24 : Int32) * x1) + v7)).bind fun v13 =>
      (rG h 44 (((24 : Int32) * x1) + v4)).bind fun v15 =>
      (rG h 45 (((24 : Int32) * x1) + v7)).bind fun v17 =>
      (rG h 45 (((24 : Int32) * x1) + v4)).bind fun v19 =>
      (rG h 43 (((24 : Int32) * x1) + v4)).bind fun v21 =>
      (rG h 44 (((24 : Int32) * x1) + v4)).bind fun v23 =>
      (rG h 45 (((24 : Int32) * x1) + v4)).bind fun v25 =>
      (rG h 28 x2).bind fun v27 =>
      (rG h 29 x2).bind fun v29 =>
      (rG h 30 x2).bind fun v31 =>
      if (0 : Int64) ≤ ((((((v13 - v15) * ((h.2.1 41) - ((h.2.1 42) * v25))) - ((v17 - v19) * ((h.2.1 40) - ((h.2.1 42) * v23)))) * v27) + ((((v17 - v19) * ((h.2.1 39) - ((h.2.1 42) * v21))) - ((v9 - v11) * ((h.2.1 41) - ((h.2.1 42) * v25)))) * v29)) + ((((v9 - v11) * ((h.2.1 40) - ((h.2.1 42) * v23))) - ((v13 - v15) * ((h.2.1 39) - ((h.2.1 42) * v21)))) * v31)) then (
        mxX7_isOver_10 N n x1 x2 x3 (x4 + (1 : Int32)) h) else (
        some (h, (0 : Int32))))
set_option maxHeartbeats 4000000 in
set_option maxRecDepth 100000 in
theorem emX7_isOver_10 {N : Nat} {C : mh} (hC : C.length = 239) : ∀ (n : Nat) (x1 : Int32) (x2 : Int32) (x3 : Int32) (x4 : Int32) (h : mS) {o : (mS × Int32)}, mxX7_isOver_10 N n x1 x2 x3 x4 h = some o → mB (gO mX7_isOver (hM C o.1, some (.int o.2))) mX7_isOver (10, [(0, .ref 239), (1, .int x1), (2, .int x2), (3, .int x3), (4, .int x4)], [], (hM C h), 0, 0) := by
  intro n
  induction n with
  | zero => intro x1 x2 x3 x4 h o hq; cases hq
  | succ n ih =>
    intro x1 x2 x3 x4 h o hq
    unfold mxX7_isOver_10 at hq
    refine mB_run odX7_isOver 2 (g := (13, [(0, .ref 239), (1, .int x1), (2, .int x2), (3, .int x3), (4, .int x4)], [.int x3, .int x4], (hM C h), 0, 0)) rfl ?_
    by_cases c3 : x3 ≤ x4
    · rw [if_pos c3] at hq
      refine ic_ge_T (t := 239) odX7_isOver rfl rfl c3 ?_
      refine mB_run odX7_isOver 1 (g := (240, [(0, .ref 239), (1, .int x1), (2, .int x2), (3, .int x3), (4, .int x4)], [.int (1 : Int32)], (hM C h), 0, 0)) rfl ?_
      cases hq
      exact mB_ret odX7_isOver rfl
    · rw [if_neg c3] at hq
      refine ic_ge_F (t := 239) odX7_isOver rfl rfl c3 ?_
      refine mB_run odX7_isOver 4 (g := (21, [(0, .ref 239), (1, .int x1), (2, .int x2), (3, .int x3), (4, .int x4)], [.ref 239, .int ((24 : Int32) * x1)], (hM C h), 0, 0)) rfl ?_
      refine r_gR odX7_isOver rfl rfl (md_33 hC) ?_
      refine mB_run odX7_isOver 5 (g := (31, [(0, .ref 239), (1, .int x1), (2, .int x2), (3, .int x3), (4, .int x4)], [.int (((25 : Int32) * x2) + x4), .ref 266, .int ((24 : Int32) * x1)], (hM C h), 0, 0)) rfl ?_
      obtain ⟨v4, e5, hq⟩ := bsm hq
      refine r_aI odX7_isOver rfl (ra_33 hC e5) ?_
      refine mB_run odX7_isOver 6 (g := (40, [(5, .int (((24 : Int32) * x1) + v4)), (0, .ref 239), (1, .int x1), (2, .int x2), (3, .int x3), (4, .int x4)], [.ref 239, .int ((24 : Int32) * x1)], (hM C h), 0, 0)) rfl ?_
      refine r_gR odX7_isOver rfl rfl (md_33 hC) ?_
      refine mB_run odX7_isOver 7 (g := (52, [(5, .int (((24 : Int32) * x1) + v4)), (0, .ref 239), (1, .int x1), (2, .int x2), (3, .int x3), (4, .int x4)], [.int x3, .int (x4 + (1 : Int32)), .int ((25 : Int32) * x2), .ref 266, .int ((24 : Int32) * x1)], (hM C h), 0, 0)) rfl ?_
      by_cases c6 : x3 = 0
      · rw [if_pos c6] at hq; cases hq
      rw [if_neg c6] at hq
      refine r_irem odX7_isOver rfl c6 ?_
      refine mB_run odX7_isOver 1 (g := (54, [(5, .int (((24 : Int32) * x1) + v4)), (0, .ref 239), (1, .int x1), (2, .int x2), (3, .int x3), (4, .int x4)], [.int (((25 : Int32) * x2) + ((x4 + (1 : Int32)) - (x4 + (1 : Int32)) / x3 * x3)), .ref 266, .int ((24 : Int32) * x1)], (hM C h), 0, 0)) rfl ?_
      obtain ⟨v7, e8, hq⟩ := bsm hq
      refine r_aI odX7_isOver rfl (ra_33 hC e8) ?_
      refine mB_run odX7_isOver 3 (g := (59, [(6, .int (((24 : Int32) * x1) + v7)), (5, .int (((24 : Int32) * x1) + v4)), (0, .ref 239), (1, .int x1), (2, .int x2), (3, .int x3), (4, .int x4)], [.ref 239], (hM C h), 0, 0)) rfl ?_
      refine r_gR odX7_isOver rfl rfl (md_43 hC) ?_
      refine mB_run odX7_isOver 1 (g := (64, [(6, .int (((24 : Int32) * x1) + v7)), (5, .int (((24 : Int32) * x1) + v4)), (0, .ref 239), (1, .int x1), (2, .int x2), (3, .int x3), (4, .int x4)], [.int (((24 : Int32) * x1) + v7), .ref 272], (hM C h), 0, 0)) rfl ?_
      obtain ⟨v9, e10, hq⟩ := bsm hq
      refine r_aJ odX7_isOver rfl (ra_43 hC e10) ?_
      refine mB_run odX7_isOver 1 (g := (66, [(6, .int (((24 : Int32) * x1) + v7)), (5, .int (((24 : Int32) * x1) + v4)), (0, .ref 239), (1, .int x1), (2, .int x2), (3, .int x3), (4, .int x4)], [.ref 239, .long v9], (hM C h), 0, 0)) rfl ?_
      refine r_gR odX7_isOver rfl rfl (md_43 hC) ?_
      refine mB_run odX7_isOver 1 (g := (71, [(6, .int (((24 : Int32) * x1) + v7)), (5, .int (((24 : Int32) * x1) + v4)), (0, .ref 239), (1, .int x1), (2, .int x2), (3, .int x3), (4, .int x4)], [.int (((24 : Int32) * x1) + v4), .ref 272, .long v9], (hM C h), 0, 0)) rfl ?_
      obtain ⟨v11, e12, hq⟩ := bsm hq
      refine r_aJ odX7_isOver rfl (ra_43 hC e12) ?_
      refine mB_run odX7_isOver 3 (g := (76, [(7, .long (v9 - v11)), (6, .int (((24 : Int32) * x1) + v7)), (5, .int (((24 : Int32) * x1) + v4)), (0, .ref 239), (1, .int x1), (2, .int x2), (3, .int x3), (4, .int x4)], [.ref 239], (hM C h), 0, 0)) rfl ?_
      refine r_gR odX7_isOver rfl rfl (md_44 hC) ?_
      refine mB_run odX7_isOver 1 (g := (81, [(7, .long (v9 - v11)), (6, .int (((24 : Int32) * x1) + v7)), (5, .int (((24 : Int32) * x1) + v4)), (0, .ref 239), (1, .int x1), (2, .int x2), (3, .int x3), (4, .int x4)], [.int (((24 : Int32) * x1) + v7), .ref 273], (hM C h), 0, 0)) rfl ?_
      obtain ⟨v13, e14, hq⟩ := bsm hq
      refine r_aJ odX7_isOver rfl (ra_44 hC e14) ?_
      refine mB_run odX7_isOver 1 (g := (83, [(7, .long (v9 - v11)), (6, .int (((24 : Int32) * x1) + v7)), (5, .int (((24 : Int32) * x1) + v4)), (0, .ref 239), (1, .int x1), (2, .int x2), (3, .int x3), (4, .int x4)], [.ref 239, .long v13], (hM C h), 0, 0)) rfl ?_
      refine r_gR odX7_isOver rfl rfl (md_44 hC) ?_
      refine mB_run odX7_isOver 1 (g := (88, [(7, .long (v9 - v11)), (6, .int (((24 : Int32) * x1) + v7)), (5, .int (((24 : Int32) * x1) + v4)), (0, .ref 239), (1, .int x1), (2, .int x2), (3, .int x3), (4, .int x4)], [.int (((24 : Int32) * x1) + v4), .ref 273, .long v13], (hM C h), 0, 0)) rfl ?_
      obtain ⟨v15, e16, hq⟩ := bsm hq
      refine r_aJ odX7_isOver rfl (ra_44 hC e16) ?_
      refine mB_run odX7_isOver 3 (g := (93, [(9, .long (v13 - v15)), (7, .long (v9 - v11)), (6, .int (((24 : Int32) * x1) + v7)), (5, .int (((24 : Int32) * x1) + v4)), (0, .ref 239), (1, .int x1), (2, .int x2), (3, .int x3), (4, .int x4)], [.ref 239], (hM C h), 0, 0)) rfl ?_
      refine r_gR odX7_isOver rfl rfl (md_45 hC) ?_
      refine mB_run odX7_isOver 1 (g := (98, [(9, .long (v13 - v15)), (7, .long (v9 - v11)), (6, .int (((24 : Int32) * x1) + v7)), (5, .int (((24 : Int32) * x1) + v4)), (0, .ref 239), (1, .int x1), (2, .int x2), (3, .int x3), (4, .int x4)], [.int (((24 : Int32) * x1) + v7), .ref 274], (hM C h), 0, 0)) rfl ?_
      obtain ⟨v17, e18, hq⟩ := bsm hq
      refine r_aJ odX7_isOver rfl (ra_45 hC e18) ?_
      refine mB_run odX7_isOver 1 (g := (100, [(9, .long (v13 - v15)), (7, .long (v9 - v11)), (6, .int (((24 : Int32) * x1) + v7)), (5, .int (((24 : Int32) * x1) + v4)), (0, .ref 239), (1, .int x1), (2, .int x2), (3, .int x3), (4, .int x4)], [.ref 239, .long v17], (hM C h), 0, 0)) rfl ?_
      refine r_gR odX7_isOver rfl rfl (md_45 hC) ?_
      refine mB_run odX7_isOver 1 (g := (105, [(9, .long (v13 - v15)), (7, .long (v9 - v11)), (6, .int (((24 : Int32) * x1) + v7)), (5, .int (((24 : Int32) * x1) + v4)), (0, .ref 239), (1, .int x1), (2, .int x2), (3, .int x3), (4, .int x4)], [.int (((24 : Int32) * x1) + v4), .ref 274, .long v17], (hM C h), 0, 0)) rfl ?_
      obtain ⟨v19, e20, hq⟩ := bsm hq
      refine r_aJ odX7_isOver rfl (ra_45 hC e20) ?_
      refine mB_run odX7_isOver 3 (g := (110, [(11, .long (v17 - v19)), (9, .long (v13 - v15)), (7, .long (v9 - v11)), (6, .int (((24 : Int32) * x1) + v7)), (5, .int (((24 : Int32) * x1) + v4)), (0, .ref 239), (1, .int x1), (2, .int x2), (3, .int x3), (4, .int x4)], [.ref 239], (hM C h), 0, 0)) rfl ?_
      refine r_gJ odX7_isOver rfl rfl (md_39 hC) ?_
      refine mB_run odX7_isOver 1 (g := (114, [(11, .long (v17 - v19)), (9, .long (v13 - v15)), (7, .long (v9 - v11)), (6, .int (((24 : Int32) * x1) + v7)), (5, .int (((24 : Int32) * x1) + v4)), (0, .ref 239), (1, .int x1), (2, .int x2), (3, .int x3), (4, .int x4)], [.ref 239, .long (h.2.1 39)], (hM C h), 0, 0)) rfl ?_
      refine r_gJ odX7_isOver rfl rfl (md_42 hC) ?_
      refine mB_run odX7_isOver 1 (g := (118, [(11, .long (v17 - v19)), (9, .long (v13 - v15)), (7, .long (v9 - v11)), (6, .int (((24 : Int32) * x1) + v7)), (5, .int (((24 : Int32) * x1) + v4)), (0, .ref 239), (1, .int x1), (2, .int x2), (3, .int x3), (4, .int x4)], [.ref 239, .long (h.2.1 42), .long (h.2.1 39)], (hM C h), 0, 0)) rfl ?_
      refine r_gR odX7_isOver rfl rfl (md_43 hC) ?_
      refine mB_run odX7_isOver 1 (g := (123, [(11, .long (v17 - v19)), (9, .long (v13 - v15)), (7, .long (v9 - v11)), (6, .int (((24 : Int32) * x1) + v7)), (5, .int (((24 : Int32) * x1) + v4)), (0, .ref 239), (1, .int x1), (2, .int x2), (3, .int x3), (4, .int x4)], [.int (((24 : Int32) * x1) + v4), .ref 272, .long (h.2.1 42), .long (h.2.1 39)], (hM C h), 0, 0)) rfl ?_
      obtain ⟨v21, e22, hq⟩ := bsm hq
      refine r_aJ odX7_isOver rfl (ra_43 hC e22) ?_
      refine mB_run odX7_isOver 4 (g := (129, [(13, .long ((h.2.1 39) - ((h.2.1 42) * v21))), (11, .long (v17 - v19)), (9, .long (v13 - v15)), (7, .long (v9 - v11)), (6, .int (((24 : Int32) * x1) + v7)), (5, .int (((24 : Int32) * x1) + v4)), (0, .ref 239), (1, .int x1), (2, .int x2), (3, .int x3), (4, .int x4)], [.ref 239], (hM C h), 0, 0)) rfl ?_
      refine r_gJ odX7_isOver rfl rfl (md_40 hC) ?_
      refine mB_run odX7_isOver 1 (g := (133, [(13, .long ((h.2.1 39) - ((h.2.1 42) * v21))), (11, .long (v17 - v19)), (9, .long (v13 - v15)), (7, .long (v9 - v11)), (6, .int (((24 : Int32) * x1) + v7)), (5, .int (((24 : Int32) * x1) + v4)), (0, .ref 239), (1, .int x1), (2, .int x2), (3, .int x3), (4, .int x4)], [.ref 239, .long (h.2.1 40)], (hM C h), 0, 0)) rfl ?_
      refine r_gJ odX7_isOver rfl rfl (md_42 hC) ?_
      refine mB_run odX7_isOver 1 (g := (137, [(13, .long ((h.2.1 39) - ((h.2.1 42) * v21))), (11, .long (v17 - v19)), (9, .long (v13 - v15)), (7, .long (v9 - v11)), (6, .int (((24 : Int32) * x1) + v7)), (5, .int (((24 : Int32) * x1) + v4)), (0, .ref 239), (1, .int x1), (2, .int x2), (3, .int x3), (4, .int x4)], [.ref 239, .long (h.2.1 42), .long (h.2.1 40)], (hM C h), 0, 0)) rfl ?_
      refine r_gR odX7_isOver rfl rfl (md_44 hC) ?_
      refine mB_run odX7_isOver 1 (g := (142, [(13, .long ((h.2.1 39) - ((h.2.1 42) * v21))), (11, .long (v17 - v19)), (9, .long (v13 - v15)), (7, .long (v9 - v11)), (6, .int (((24 : Int32) * x1) + v7)), (5, .int (((24 : Int32) * x1) + v4)), (0, .ref 239), (1, .int x1), (2, .int x2), (3, .int x3), (4, .int x4)], [.int (((24 : Int32) * x1) + v4), .ref 273, .long (h.2.1 42), .long (h.2.1 40)], (hM C h), 0, 0)) rfl ?_
      obtain ⟨v23, e24, hq⟩ := bsm hq
      refine r_aJ odX7_isOver rfl (ra_44 hC e24) ?_
      refine mB_run odX7_isOver 4 (g := (148, [(15, .long ((h.2.1 40) - ((h.2.1 42) * v23))), (13, .long ((h.2.1 39) - ((h.2.1 42) * v21))), (11, .long (v17 - v19)), (9, .long (v13 - v15)), (7, .long (v9 - v11)), (6, .int (((24 : Int32) * x1) + v7)), (5, .int (((24 : Int32) * x1) + v4)), (0, .ref 239), (1, .int x1), (2, .int x2), (3, .int x3), (4, .int x4)], [.ref 239], (hM C h), 0, 0)) rfl ?_
      refine r_gJ odX7_isOver rfl rfl (md_41 hC) ?_
      refine mB_run odX7_isOver 1 (g := (152, [(15, .long ((h.2.1 40) - ((h.2.1 42) * v23))), (13, .long ((h.2.1 39) - ((h.2.1 42) * v21))), (11, .long (v17 - v19)), (9, .long (v13 - v15)), (7, .long (v9 - v11)), (6, .int (((24 : Int32) * x1) + v7)), (5, .int (((24 : Int32) * x1) + v4)), (0, .ref 239), (1, .int x1), (2, .int x2), (3, .int x3), (4, .int x4)], [.ref 239, .long (h.2.1 41)], (hM C h), 0, 0)) rfl ?_
      refine r_gJ odX7_isOver rfl rfl (md_42 hC) ?_
      refine mB_run odX7_isOver 1 (g := (156, [(15, .long ((h.2.1 40) - ((h.2.1 42) * v23))), (13, .long ((h.2.1 39) - ((h.2.1 42) * v21))), (11, .long (v17 - v19)), (9, .long (v13 - v15)), (7, .long (v9 - v11)), (6, .int (((24 : Int32) * x1) + v7)), (5, .int (((24 : Int32) * x1) + v4)), (0, .ref 239), (1, .int x1), (2, .int x2), (3, .int x3), (4, .int x4)], [.ref 239, .long (h.2.1 42), .long (h.2.1 41)], (hM C h), 0, 0)) rfl ?_
      refine r_gR odX7_isOver rfl rfl (md_45 hC) ?_
      refine mB_run odX7_isOver 1 (g := (161, [(15, .long ((h.2.1 40) - ((h.2.1 42) * v23))), (13, .long ((h.2.1 39) - ((h.2.1 42) * v21))), (11, .long (v17 - v19)), (9, .long (v13 - v15)), (7, .long (v9 - v11)), (6, .int (((24 : Int32) * x1) + v7)), (5, .int (((24 : Int32) * x1) + v4)), (0, .ref 239), (1, .int x1), (2, .int x2), (3, .int x3), (4, .int x4)], [.int (((24 : Int32) * x1) + v4), .ref 274, .long (h.2.1 42), .long (h.2.1 41)], (hM C h), 0, 0)) rfl ?_
      obtain ⟨v25, e26, hq⟩ := bsm hq
      refine r_aJ odX7_isOver rfl (ra_45 hC e26) ?_
      refine mB_run odX7_isOver 11 (g := (178, [(17, .long ((h.2.1 41) - ((h.2.1 42) * v25))), (15, .long ((h.2.1 40) - ((h.2.1 42) * v23))), (13, .long ((h.2.1 39) - ((h.2.1 42) * v21))), (11, .long (v17 - v19)), (9, .long (v13 - v15)), (7, .long (v9 - v11)), (6, .int (((24 : Int32) * x1) + v7)), (5, .int (((24 : Int32) * x1) + v4)), (0, .ref 239), (1, .int x1), (2, .int x2), (3, .int x3), (4, .int x4)], [.ref 239, .long (((v13 - v15) * ((h.2.1 41) - ((h.2.1 42) * v25))) - ((v17 - v19) * ((h.2.1 40) - ((h.2.1 42) * v23))))], (hM C h), 0, 0)) rfl ?_
      refine r_gR odX7_isOver rfl rfl (md_28 hC) ?_
      refine mB_run odX7_isOver 1 (g := (182, [(17, .long ((h.2.1 41) - ((h.2.1 42) * v25))), (15, .long ((h.2.1 40) - ((h.2.1 42) * v23))), (13, .long ((h.2.1 39) - ((h.2.1 42) * v21))), (11, .long (v17 - v19)), (9, .long (v13 - v15)), (7, .long (v9 - v11)), (6, .int (((24 : Int32) * x1) + v7)), (5, .int (((24 : Int32) * x1) + v4)), (0, .ref 239), (1, .int x1), (2, .int x2), (3, .int x3), (4, .int x4)], [.int x2, .ref 261, .long (((v13 - v15) * ((h.2.1 41) - ((h.2.1 42) * v25))) - ((v17 - v19) * ((h.2.1 40) - ((h.2.1 42) * v23))))], (hM C h), 0, 0)) rfl ?_
      obtain ⟨v27, e28, hq⟩ := bsm hq
      refine r_aJ odX7_isOver rfl (ra_28 hC e28) ?_
      refine mB_run odX7_isOver 9 (g := (196, [(17, .long ((h.2.1 41) - ((h.2.1 42) * v25))), (15, .long ((h.2.1 40) - ((h.2.1 42) * v23))), (13, .long ((h.2.1 39) - ((h.2.1 42) * v21))), (11, .long (v17 - v19)), (9, .long (v13 - v15)), (7, .long (v9 - v11)), (6, .int (((24 : Int32) * x1) + v7)), (5, .int (((24 : Int32) * x1) + v4)), (0, .ref 239), (1, .int x1), (2, .int x2), (3, .int x3), (4, .int x4)], [.ref 239, .long (((v17 - v19) * ((h.2.1 39) - ((h.2.1 42) * v21))) - ((v9 - v11) * ((h.2.1 41) - ((h.2.1 42) * v25)))), .long ((((v13 - v15) * ((h.2.1 41) - ((h.2.1 42) * v25))) - ((v17 - v19) * ((h.2.1 40) - ((h.2.1 42) * v23)))) * v27)], (hM C h), 0, 0)) rfl ?_
      refine r_gR odX7_isOver rfl rfl (md_29 hC) ?_
      refine mB_run odX7_isOver 1 (g := (200, [(17, .long ((h.2.1 41) - ((h.2.1 42) * v25))), (15, .long ((h.2.1 40) - ((h.2.1 42) * v23))), (13, .long ((h.2.1 39) - ((h.2.1 42) * v21))), (11, .long (v17 - v19)), (9, .long (v13 - v15)), (7, .long (v9 - v11)), (6, .int (((24 : Int32) * x1) + v7)), (5, .int (((24 : Int32) * x1) + v4)), (0, .ref 239), (1, .int x1), (2, .int x2), (3, .int x3), (4, .int x4)], [.int x2, .ref 262, .long (((v17 - v19) * ((h.2.1 39) - ((h.2.1 42) * v21))) - ((v9 - v11) * ((h.2.1 41) - ((h.2.1 42) * v25)))), .long ((((v13 - v15) * ((h.2.1 41) - ((h.2.1 42) * v25))) - ((v17 - v19) * ((h.2.1 40) - ((h.2.1 42) * v23)))) * v27)], (hM C h), 0, 0)) rfl ?_
      obtain ⟨v29, e30, hq⟩ := bsm hq
      refine r_aJ odX7_isOver rfl (ra_29 hC e30) ?_
      refine mB_run odX7_isOver 10 (g := (215, [(17, .long ((h.2.1 41) - ((h.2.1 42) * v25))), (15, .long ((h.2.1 40) - ((h.2.1 42) * v23))), (13, .long ((h.2.1 39) - ((h.2.1 42) * v21))), (11, .long (v17 - v19)), (9, .long (v13 - v15)), (7, .long (v9 - v11)), (6, .int (((24 : Int32) * x1) + v7)), (5, .int (((24 : Int32) * x1) + v4)), (0, .ref 239), (1, .int x1), (2, .int x2), (3, .int x3), (4, .int x4)], [.ref 239, .long (((v9 - v11) * ((h.2.1 40) - ((h.2.1 42) * v23))) - ((v13 - v15) * ((h.2.1 39) - ((h.2.1 42) * v21)))), .long (((((v13 - v15) * ((h.2.1 41) - ((h.2.1 42) * v25))) - ((v17 - v19) * ((h.2.1 40) - ((h.2.1 42) * v23)))) * v27) + ((((v17 - v19) * ((h.2.1 39) - ((h.2.1 42) * v21))) - ((v9 - v11) * ((h.2.1 41) - ((h.2.1 42) * v25)))) * v29))], (hM C h), 0, 0)) rfl ?_
      refine r_gR odX7_isOver rfl rfl (md_30 hC) ?_
      refine mB_run odX7_isOver 1 (g := (219, [(17, .long ((h.2.1 41) - ((h.2.1 42) * v25))), (15, .long ((h.2.1 40) - ((h.2.1 42) * v23))), (13, .long ((h.2.1 39) - ((h.2.1 42) * v21))), (11, .long (v17 - v19)), (9, .long (v13 - v15)), (7, .long (v9 - v11)), (6, .int (((24 : Int32) * x1) + v7)), (5, .int (((24 : Int32) * x1) + v4)), (0, .ref 239), (1, .int x1), (2, .int x2), (3, .int x3), (4, .int x4)], [.int x2, .ref 263, .long (((v9 - v11) * ((h.2.1 40) - ((h.2.1 42) * v23))) - ((v13 - v15) * ((h.2.1 39) - ((h.2.1 42) * v21)))), .long (((((v13 - v15) * ((h.2.1 41) - ((h.2.1 42) * v25))) - ((v17 - v19) * ((h.2.1 40) - ((h.2.1 42) * v23)))) * v27) + ((((v17 - v19) * ((h.2.1 39) - ((h.2.1 42) * v21))) - ((v9 - v11) * ((h.2.1 41) - ((h.2.1 42) * v25)))) * v29))], (hM C h), 0, 0)) rfl ?_
      obtain ⟨v31, e32, hq⟩ := bsm hq
      refine r_aJ odX7_isOver rfl (ra_30 hC e32) ?_
      refine mB_run odX7_isOver 5 (g := (227, [(19, .long ((((((v13 - v15) * ((h.2.1 41) - ((h.2.1 42) * v25))) - ((v17 - v19) * ((h.2.1 40) - ((h.2.1 42) * v23)))) * v27) + ((((v17 - v19) * ((h.2.1 39) - ((h.2.1 42) * v21))) - ((v9 - v11) * ((h.2.1 41) - ((h.2.1 42) * v25)))) * v29)) + ((((v9 - v11) * ((h.2.1 40) - ((h.2.1 42) * v23))) - ((v13 - v15) * ((h.2.1 39) - ((h.2.1 42) * v21)))) * v31))), (17, .long ((h.2.1 41) - ((h.2.1 42) * v25))), (15, .long ((h.2.1 40) - ((h.2.1 42) * v23))), (13, .long ((h.2.1 39) - ((h.2.1 42) * v21))), (11, .long (v17 - v19)), (9, .long (v13 - v15)), (7, .long (v9 - v11)), (6, .int (((24 : Int32) * x1) + v7)), (5, .int (((24 : Int32) * x1) + v4)), (0, .ref 239), (1, .int x1), (2, .int x2), (3, .int x3), (4, .int x4)], [.long (0 : Int64), .long ((((((v13 - v15) * ((h.2.1 41) - ((h.2.1 42) * v25))) - ((v17 - v19) * ((h.2.1 40) - ((h.2.1 42) * v23)))) * v27) + ((((v17 - v19) * ((h.2.1 39) - ((h.2.1 42) * v21))) - ((v9 - v11) * ((h.2.1 41) - ((h.2.1 42) * v25)))) * v29)) + ((((v9 - v11) * ((h.2.1 40) - ((h.2.1 42) * v23))) - ((v13 - v15) * ((h.2.1 39) - ((h.2.1 42) * v21)))) * v31))], (hM C h), 0, 0)) rfl ?_
      by_cases c33 : (0 : Int64) ≤ ((((((v13 - v15) * ((h.2.1 41) - ((h.2.1 42) * v25))) - ((v17 - v19) * ((h.2.1 40) - ((h.2.1 42) * v23)))) * v27) + ((((v17 - v19) * ((h.2.1 39) - ((h.2.1 42) * v21))) - ((v9 - v11) * ((h.2.1 41) - ((h.2.1 42) * v25)))) * v29)) + ((((v9 - v11) * ((h.2.1 40) - ((h.2.1 42) * v23))) - ((v13 - v15) * ((h.2.1 39) - ((h.2.1 42) * v21)))) * v31))
      · rw [if_pos c33] at hq
        refine lc_ge_T (t := 233) odX7_isOver rfl rfl rfl c33 ?_
        refine mB_run odX7_isOver 2 (g := (10, [(4, .int (x4 + (1 : Int32))), (19, .long ((((((v13 - v15) * ((h.2.1 41) - ((h.2.1 42) * v25))) - ((v17 - v19) * ((h.2.1 40) - ((h.2.1 42) * v23)))) * v27) + ((((v17 - v19) * ((h.2.1 39) - ((h.2.1 42) * v21))) - ((v9 - v11) * ((h.2.1 41) - ((h.2.1 42) * v25)))) * v29)) + ((((v9 - v11) * ((h.2.1 40) - ((h.2.1 42) * v23))) - ((v13 - v15) * ((h.2.1 39) - ((h.2.1 42) * v21)))) * v31))), (17, .long ((h.2.1 41) - ((h.2.1 42) * v25))), (15, .long ((h.2.1 40) - ((h.2.1 42) * v23))), (13, .long ((h.2.1 39) - ((h.2.1 42) * v21))), (11, .long (v17 - v19)), (9, .long (v13 - v15)), (7, .long (v9 - v11)), (6, .int (((24 : Int32) * x1) + v7)), (5, .int (((24 : Int32) * x1) + v4)), (0, .ref 239), (1, .int x1), (2, .int x2), (3, .int x3)], [], (hM C h), 0, 0)) rfl ?_
        refine mB_lv [10, 11, 12, 13, 0] (lv' := [(0, .ref 239), (1, .int x1), (2, .int x2), (3, .int x3), (4, .int (x4 + (1 : Int32)))]) rfl ?_
        exact ih _ _ _ _ _ hq
      · rw [if_neg c33] at hq
        refine lc_ge_F (t := 233) odX7_isOver rfl rfl rfl c33 ?_
        refine mB_run odX7_isOver 1 (g := (232, [(19, .long ((((((v13 - v15) * ((h.2.1 41) - ((h.2.1 42) * v25))) - ((v17 - v19) * ((h.2.1 40) - ((h.2.1 42) * v23)))) * v27) + ((((v17 - v19) * ((h.2.1 39) - ((h.2.1 42) * v21))) - ((v9 - v11) * ((h.2.1 41) - ((h.2.1 42) * v25)))) * v29)) + ((((v9 - v11) * ((h.2.1 40) - ((h.2.1 42) * v23))) - ((v13 - v15) * ((h.2.1 39) - ((h.2.1 42) * v21)))) * v31))), (17, .long ((h.2.1 41) - ((h.2.1 42) * v25))), (15, .long ((h.2.1 40) - ((h.2.1 42) * v23))), (13, .long ((h.2.1 39) - ((h.2.1 42) * v21))), (11, .long (v17 - v19)), (9, .long (v13 - v15)), (7, .long (v9 - v11)), (6, .int (((24 : Int32) * x1) + v7)), (5, .int (((24 : Int32) * x1) + v4)), (0, .ref 239), (1, .int x1), (2, .int x2), (3, .int x3), (4, .int x4)], [.int (0 : Int32)], (hM C h), 0, 0)) rfl ?_
        cases hq
        exact mB_ret odX7_isOver rfl
def mxX7_isOver (N : Nat) (p1 : Int32) (p2 : Int32) (h : mS) : Option (mS × Int32) :=
  (rA h 32 p2).bind fun v1 =>
  mxX7_isOver_10 N N p1 p2 v1 (0 : Int32) h
set_option maxHeartbeats 4000000 in
set_option maxRecDepth 100000 in
theorem emX7_isOver {N : Nat} {C : mh} (hC : C.length = 239) {p1 : Int32} {p2 : Int32} {h : mS} {o : (mS × Int32)} (hq : mxX7_isOver N p1 p2 h = some o) : mC mX7_isOver [.ref 239, .int p1, .int p2] (hM C h) (hM C o.1, some (.int o.2)) := by
  refine mC_of okX7_isOver (Nat.le_of_ble_eq_true rfl) ?_
  unfold mxX7_isOver at hq
  show mB _ mX7_isOver (0, [(0, .ref 239), (1, .int p1), (2, .int p2)], [], (hM C h), 0, 0)
  refine mB_run odX7_isOver 1 (g := (1, [(0, .ref 239), (1, .int p1), (2, .int p2)], [.ref 239], (hM C h), 0, 0)) rfl ?_
  refine r_gR odX7_isOver rfl rfl (md_32 hC) ?_
  refine mB_run odX7_isOver 1 (g := (5, [(0, .ref 239), (1, .int p1), (2, .int p2)], [.int p2, .ref 265], (hM C h), 0, 0)) rfl ?_
  obtain ⟨v1, e2, hq⟩ := bsm hq
  refine r_aI odX7_isOver rfl (ra_32 hC e2) ?_
  refine mB_run odX7_isOver 3 (g := (10, [(4, .int (0 : Int32)), (3, .int v1), (0, .ref 239), (1, .int p1), (2, .int p2)], [], (hM C h), 0, 0)) rfl ?_
  refine mB_lv [2, 3, 4, 1, 0] (lv' := [(0, .ref 239), (1, .int p1), (2, .int p2), (3, .int v1), (4, .int (0 : Int32))]) rfl ?_
  exact emX7_isOver_10 hC N _ _ _ _ _ hq
def mxX7_onLine (N : Nat) (p1 : Int32) (p2 : Int32) (h : mS) : Option (mS × Int32) :=
  (rG h 43 p2).bind fun v1 =>
  (rG h 43 p1).bind fun v3 =>
  (rG h 44 p2).bind fun v5 =>
  (rG h 44 p1).bind fun v7 =>
  (rG h 45 p2).bind fun v9 =>
  (rG h 45 p1).bind fun v11 =>
  (rG h 43 p1).bind fun v13 =>
  (rG h 44 p1).bind fun v15 =>
  (rG h 45 p1).bind fun v17 =>
  if ((v5 - v7) * ((h.2.1 41) - ((h.2.1 42) * v17))) = ((v9 - v11) * ((h.2.1 40) - ((h.2.1 42) * v15))) then (
    if ((v9 - v11) * ((h.2.1 39) - ((h.2.1 42) * v13))) = ((v1 - v3) * ((h.2.1 41) - ((h.2.1 42) * v17))) then (
      if ((v1 - v3) * ((h.2.1 40) - ((h.2.1 42) * v15))) = ((v5 - v7) * ((h.2.1 39) - ((h.2.1 42) * v13))) then (
        if ((((v1 - v3) * ((h.2.1 39) - ((h.2.1 42) * v13))) + ((v5 - v7) * ((h.2.1 40) - ((h.2.1 42) * v15)))) + ((v9 - v11) * ((h.2.1 41) - ((h.2.1 42) * v17)))) < (0 : Int64) then (
          some (h, (0 : Int32))) else (
          if ((h.2.1 42) * ((((v1 - v3) * (v1 - v3)) + ((v5 - v7) * (v5 - v7))) + ((v9 - v11) * (v9 - v11)))) < ((((v1 - v3) * ((h.2.1 39) - ((h.2.1 42) * v13))) + ((v5 - v7) * ((h.2.1 40) - ((h.2.1 42) * v15)))) + ((v9 - v11) * ((h.2.1 41) - ((h.2.1 42) * v17)))) then (
            some (h, (0 : Int32))) else (
            some (h, (1 : Int32))))) else (
        some (h, (0 : Int32)))) else (
      some (h, (0 : Int32)))) else (
    some (h, (0 : Int32)))
set_option maxHeartbeats 4000000 in
set_option maxRecDepth 100000 in
theorem emX7_onLine {N : Nat} {C : mh} (hC : C.length = 239) {p1 : Int32} {p2 : Int32} {h : mS} {o : (mS × Int32)} (hq : mxX7_onLine N p1 p2 h = some o) : mC mX7_onLine [.ref 239, .int p1, .int p2] (hM C h) (hM C o.1, some (.int o.2)) := by
  refine mC_of okX7_onLine (Nat.le_of_ble_eq_true rfl) ?_
  unfold mxX7_onLine at hq
  show mB _ mX7_onLine (0, [(0, .ref 239), (1, .int p1), (2, .int p2)], [], (hM C h), 0, 0)
  refine mB_run odX7_onLine 1 (g := (1, [(0, .ref 239), (1, .int p1), (2, .int p2)], [.ref 239], (hM C h), 0, 0)) rfl ?_
  refine r_gR odX7_onLine rfl rfl (md_43 hC) ?_
  refine mB_run odX7_onLine 1 (g := (5, [(0, .ref 239), (1, .int p1), (2, .int p2)], [.int p2, .ref 272], (hM C h), 0, 0)) rfl ?_
  obtain ⟨v1, e2, hq⟩ := bsm hq
  refine r_aJ odX7_onLine rfl (ra_43 hC e2) ?_
  refine mB_run odX7_onLine 1 (g := (7, [(0, .ref 239), (1, .int p1), (2, .int p2)], [.ref 239, .long v1], (hM C h), 0, 0)) rfl ?_
  refine r_gR odX7_onLine rfl rfl (md_43 hC) ?_
  refine mB_run odX7_onLine 1 (g := (11, [(0, .ref 239), (1, .int p1), (2, .int p2)], [.int p1, .ref 272, .long v1], (hM C h), 0, 0)) rfl ?_
  obtain ⟨v3, e4, hq⟩ := bsm hq
  refine r_aJ odX7_onLine rfl (ra_43 hC e4) ?_
  refine mB_run odX7_onLine 3 (g := (15, [(3, .long (v1 - v3)), (0, .ref 239), (1, .int p1), (2, .int p2)], [.ref 239], (hM C h), 0, 0)) rfl ?_
  refine r_gR odX7_onLine rfl rfl (md_44 hC) ?_
  refine mB_run odX7_onLine 1 (g := (19, [(3, .long (v1 - v3)), (0, .ref 239), (1, .int p1), (2, .int p2)], [.int p2, .ref 273], (hM C h), 0, 0)) rfl ?_
  obtain ⟨v5, e6, hq⟩ := bsm hq
  refine r_aJ odX7_onLine rfl (ra_44 hC e6) ?_
  refine mB_run odX7_onLine 1 (g := (21, [(3, .long (v1 - v3)), (0, .ref 239), (1, .int p1), (2, .int p2)], [.ref 239, .long v5], (hM C h), 0, 0)) rfl ?_
  refine r_gR odX7_onLine rfl rfl (md_44 hC) ?_
  refine mB_run odX7_onLine 1 (g := (25, [(3, .long (v1 - v3)), (0, .ref 239), (1, .int p1), (2, .int p2)], [.int p1, .ref 273, .long v5], (hM C h), 0, 0)) rfl ?_
  obtain ⟨v7, e8, hq⟩ := bsm hq
  refine r_aJ odX7_onLine rfl (ra_44 hC e8) ?_
  refine mB_run odX7_onLine 3 (g := (30, [(5, .long (v5 - v7)), (3, .long (v1 - v3)), (0, .ref 239), (1, .int p1), (2, .int p2)], [.ref 239], (hM C h), 0, 0)) rfl ?_
  refine r_gR odX7_onLine rfl rfl (md_45 hC) ?_
  refine mB_run odX7_onLine 1 (g := (34, [(5, .long (v5 - v7)), (3, .long (v1 - v3)), (0, .ref 239), (1, .int p1), (2, .int p2)], [.int p2, .ref 274], (hM C h), 0, 0)) rfl ?_
  obtain ⟨v9, e10, hq⟩ := bsm hq
  refine r_aJ odX7_onLine rfl (ra_45 hC e10) ?_
  refine mB_run odX7_onLine 1 (g := (36, [(5, .long (v5 - v7)), (3, .long (v1 - v3)), (0, .ref 239), (1, .int p1), (2, .int p2)], [.ref 239, .long v9], (hM C h), 0, 0)) rfl ?_
  refine r_gR odX7_onLine rfl rfl (md_45 hC) ?_
  refine mB_run odX7_onLine 1 (g := (40, [(5, .long (v5 - v7)), (3, .long (v1 - v3)), (0, .ref 239), (1, .int p1), (2, .int p2)], [.int p1, .ref 274, .long v9], (hM C h), 0, 0)) rfl ?_
  obtain ⟨v11, e12, hq⟩ := bsm hq
  refine r_aJ odX7_onLine rfl (ra_45 hC e12) ?_
  refine mB_run odX7_onLine 3 (g := (45, [(7, .long (v9 - v11)), (5, .long (v5 - v7)), (3, .long (v1 - v3)), (0, .ref 239), (1, .int p1), (2, .int p2)], [.ref 239], (hM C h), 0, 0)) rfl ?_
  refine r_gJ odX7_onLine rfl rfl (md_39 hC) ?_
  refine mB_run odX7_onLine 1 (g := (49, [(7, .long (v9 - v11)), (5, .long (v5 - v7)), (3, .long (v1 - v3)), (0, .ref 239), (1, .int p1), (2, .int p2)], [.ref 239, .long (h.2.1 39)], (hM C h), 0, 0)) rfl ?_
  refine r_gJ odX7_onLine rfl rfl (md_42 hC) ?_
  refine mB_run odX7_onLine 1 (g := (53, [(7, .long (v9 - v11)), (5, .long (v5 - v7)), (3, .long (v1 - v3)), (0, .ref 239), (1, .int p1), (2, .int p2)], [.ref 239, .long (h.2.1 42), .long (h.2.1 39)], (hM C h), 0, 0)) rfl ?_
  refine r_gR odX7_onLine rfl rfl (md_43 hC) ?_
  refine mB_run odX7_onLine 1 (g := (57, [(7, .long (v9 - v11)), (5, .long (v5 - v7)), (3, .long (v1 - v3)), (0, .ref 239), (1, .int p1), (2, .int p2)], [.int p1, .ref 272, .long (h.2.1 42), .long (h.2.1 39)], (hM C h), 0, 0)) rfl ?_
  obtain ⟨v13, e14, hq⟩ := bsm hq
  refine r_aJ odX7_onLine rfl (ra_43 hC e14) ?_
  refine mB_run odX7_onLine 4 (g := (63, [(9, .long ((h.2.1 39) - ((h.2.1 42) * v13))), (7, .long (v9 - v11)), (5, .long (v5 - v7)), (3, .long (v1 - v3)), (0, .ref 239), (1, .int p1), (2, .int p2)], [.ref 239], (hM C h), 0, 0)) rfl ?_
  refine r_gJ odX7_onLine rfl rfl (md_40 hC) ?_
  refine mB_run odX7_onLine 1 (g := (67, [(9, .long ((h.2.1 39) - ((h.2.1 42) * v13))), (7, .long (v9 - v11)), (5, .long (v5 - v7)), (3, .long (v1 - v3)), (0, .ref 239), (1, .int p1), (2, .int p2)], [.ref 239, .long (h.2.1 40)], (hM C h), 0, 0)) rfl ?_
  refine r_gJ odX7_onLine rfl rfl (md_42 hC) ?_
  refine mB_run odX7_onLine 1 (g := (71, [(9, .long ((h.2.1 39) - ((h.2.1 42) * v13))), (7, .long (v9 - v11)), (5, .long (v5 - v7)), (3, .long (v1 - v3)), (0, .ref 239), (1, .int p1), (2, .int p2)], [.ref 239, .long (h.2.1 42), .long (h.2.1 40)], (hM C h), 0, 0)) rfl ?_
  refine r_gR odX7_onLine rfl rfl (md_44 hC) ?_
  refine mB_run odX7_onLine 1 (g := (75, [(9, .long ((h.2.1 39) - ((h.2.1 42) * v13))), (7, .long (v9 - v11)), (5, .long (v5 - v7)), (3, .long (v1 - v3)), (0, .ref 239), (1, .int p1), (2, .int p2)], [.int p1, .ref 273, .long (h.2.1 42), .long (h.2.1 40)], (hM C h), 0, 0)) rfl ?_
  obtain ⟨v15, e16, hq⟩ := bsm hq
  refine r_aJ odX7_onLine rfl (ra_44 hC e16) ?_
  refine mB_run odX7_onLine 4 (g := (81, [(11, .long ((h.2.1 40) - ((h.2.1 42) * v15))), (9, .long ((h.2.1 39) - ((h.2.1 42) * v13))), (7, .long (v9 - v11)), (5, .long (v5 - v7)), (3, .long (v1 - v3)), (0, .ref 239), (1, .int p1), (2, .int p2)], [.ref 239], (hM C h), 0, 0)) rfl ?_
  refine r_gJ odX7_onLine rfl rfl (md_41 hC) ?_
  refine mB_run odX7_onLine 1 (g := (85, [(11, .long ((h.2.1 40) - ((h.2.1 42) * v15))), (9, .long ((h.2.1 39) - ((h.2.1 42) * v13))), (7, .long (v9 - v11)), (5, .long (v5 - v7)), (3, .long (v1 - v3)), (0, .ref 239), (1, .int p1), (2, .int p2)], [.ref 239, .long (h.2.1 41)], (hM C h), 0, 0)) rfl ?_
  refine r_gJ odX7_onLine rfl rfl (md_42 hC) ?_
  refine mB_run odX7_onLine 1 (g := (89, [(11, .long ((h.2.1 40) - ((h.2.1 42) * v15))), (9, .long ((h.2.1 39) - ((h.2.1 42) * v13))), (7, .long (v9 - v11)), (5, .long (v5 - v7)), (3, .long (v1 - v3)), (0, .ref 239), (1, .int p1), (2, .int p2)], [.ref 239, .long (h.2.1 42), .long (h.2.1 41)], (hM C h), 0, 0)) rfl ?_
  refine r_gR odX7_onLine rfl rfl (md_45 hC) ?_
  refine mB_run odX7_onLine 1 (g := (93, [(11, .long ((h.2.1 40) - ((h.2.1 42) * v15))), (9, .long ((h.2.1 39) - ((h.2.1 42) * v13))), (7, .long (v9 - v11)), (5, .long (v5 - v7)), (3, .long (v1 - v3)), (0, .ref 239), (1, .int p1), (2, .int p2)], [.int p1, .ref 274, .long (h.2.1 42), .long (h.2.1 41)], (hM C h), 0, 0)) rfl ?_
  obtain ⟨v17, e18, hq⟩ := bsm hq
  refine r_aJ odX7_onLine rfl (ra_45 hC e18) ?_
  refine mB_run odX7_onLine 9 (g := (108, [(13, .long ((h.2.1 41) - ((h.2.1 42) * v17))), (11, .long ((h.2.1 40) - ((h.2.1 42) * v15))), (9, .long ((h.2.1 39) - ((h.2.1 42) * v13))), (7, .long (v9 - v11)), (5, .long (v5 - v7)), (3, .long (v1 - v3)), (0, .ref 239), (1, .int p1), (2, .int p2)], [.long ((v9 - v11) * ((h.2.1 40) - ((h.2.1 42) * v15))), .long ((v5 - v7) * ((h.2.1 41) - ((h.2.1 42) * v17)))], (hM C h), 0, 0)) rfl ?_
  by_cases c19 : ((v5 - v7) * ((h.2.1 41) - ((h.2.1 42) * v17))) = ((v9 - v11) * ((h.2.1 40) - ((h.2.1 42) * v15)))
  · rw [if_pos c19] at hq
    refine lc_ne_F (t := 138) odX7_onLine rfl rfl rfl c19 ?_
    refine mB_run odX7_onLine 6 (g := (121, [(13, .long ((h.2.1 41) - ((h.2.1 42) * v17))), (11, .long ((h.2.1 40) - ((h.2.1 42) * v15))), (9, .long ((h.2.1 39) - ((h.2.1 42) * v13))), (7, .long (v9 - v11)), (5, .long (v5 - v7)), (3, .long (v1 - v3)), (0, .ref 239), (1, .int p1), (2, .int p2)], [.long ((v1 - v3) * ((h.2.1 41) - ((h.2.1 42) * v17))), .long ((v9 - v11) * ((h.2.1 39) - ((h.2.1 42) * v13)))], (hM C h), 0, 0)) rfl ?_
    by_cases c20 : ((v9 - v11) * ((h.2.1 39) - ((h.2.1 42) * v13))) = ((v1 - v3) * ((h.2.1 41) - ((h.2.1 42) * v17)))
    · rw [if_pos c20] at hq
      refine lc_ne_F (t := 138) odX7_onLine rfl rfl rfl c20 ?_
      refine mB_run odX7_onLine 6 (g := (134, [(13, .long ((h.2.1 41) - ((h.2.1 42) * v17))), (11, .long ((h.2.1 40) - ((h.2.1 42) * v15))), (9, .long ((h.2.1 39) - ((h.2.1 42) * v13))), (7, .long (v9 - v11)), (5, .long (v5 - v7)), (3, .long (v1 - v3)), (0, .ref 239), (1, .int p1), (2, .int p2)], [.long ((v5 - v7) * ((h.2.1 39) - ((h.2.1 42) * v13))), .long ((v1 - v3) * ((h.2.1 40) - ((h.2.1 42) * v15)))], (hM C h), 0, 0)) rfl ?_
      by_cases c21 : ((v1 - v3) * ((h.2.1 40) - ((h.2.1 42) * v15))) = ((v5 - v7) * ((h.2.1 39) - ((h.2.1 42) * v13)))
      · rw [if_pos c21] at hq
        refine lc_eq_T (t := 140) odX7_onLine rfl rfl rfl c21 ?_
        refine mB_run odX7_onLine 12 (g := (158, [(15, .long ((((v1 - v3) * ((h.2.1 39) - ((h.2.1 42) * v13))) + ((v5 - v7) * ((h.2.1 40) - ((h.2.1 42) * v15)))) + ((v9 - v11) * ((h.2.1 41) - ((h.2.1 42) * v17))))), (13, .long ((h.2.1 41) - ((h.2.1 42) * v17))), (11, .long ((h.2.1 40) - ((h.2.1 42) * v15))), (9, .long ((h.2.1 39) - ((h.2.1 42) * v13))), (7, .long (v9 - v11)), (5, .long (v5 - v7)), (3, .long (v1 - v3)), (0, .ref 239), (1, .int p1), (2, .int p2)], [], (hM C h), 0, 0)) rfl ?_
        refine mB_run odX7_onLine 2 (g := (161, [(15, .long ((((v1 - v3) * ((h.2.1 39) - ((h.2.1 42) * v13))) + ((v5 - v7) * ((h.2.1 40) - ((h.2.1 42) * v15)))) + ((v9 - v11) * ((h.2.1 41) - ((h.2.1 42) * v17))))), (13, .long ((h.2.1 41) - ((h.2.1 42) * v17))), (11, .long ((h.2.1 40) - ((h.2.1 42) * v15))), (9, .long ((h.2.1 39) - ((h.2.1 42) * v13))), (7, .long (v9 - v11)), (5, .long (v5 - v7)), (3, .long (v1 - v3)), (0, .ref 239), (1, .int p1), (2, .int p2)], [.long (0 : Int64), .long ((((v1 - v3) * ((h.2.1 39) - ((h.2.1 42) * v13))) + ((v5 - v7) * ((h.2.1 40) - ((h.2.1 42) * v15)))) + ((v9 - v11) * ((h.2.1 41) - ((h.2.1 42) * v17))))], (hM C h), 0, 0)) rfl ?_
        by_cases c22 : ((((v1 - v3) * ((h.2.1 39) - ((h.2.1 42) * v13))) + ((v5 - v7) * ((h.2.1 40) - ((h.2.1 42) * v15)))) + ((v9 - v11) * ((h.2.1 41) - ((h.2.1 42) * v17)))) < (0 : Int64)
        · rw [if_pos c22] at hq
          refine lc_lt_T (t := 195) odX7_onLine rfl rfl rfl c22 ?_
          refine mB_run odX7_onLine 1 (g := (196, [(15, .long ((((v1 - v3) * ((h.2.1 39) - ((h.2.1 42) * v13))) + ((v5 - v7) * ((h.2.1 40) - ((h.2.1 42) * v15)))) + ((v9 - v11) * ((h.2.1 41) - ((h.2.1 42) * v17))))), (13, .long ((h.2.1 41) - ((h.2.1 42) * v17))), (11, .long ((h.2.1 40) - ((h.2.1 42) * v15))), (9, .long ((h.2.1 39) - ((h.2.1 42) * v13))), (7, .long (v9 - v11)), (5, .long (v5 - v7)), (3, .long (v1 - v3)), (0, .ref 239), (1, .int p1), (2, .int p2)], [.int (0 : Int32)], (hM C h), 0, 0)) rfl ?_
          cases hq
          exact mB_ret odX7_onLine rfl
        · rw [if_neg c22] at hq
          refine lc_lt_F (t := 195) odX7_onLine rfl rfl rfl c22 ?_
          refine mB_run odX7_onLine 2 (g := (168, [(15, .long ((((v1 - v3) * ((h.2.1 39) - ((h.2.1 42) * v13))) + ((v5 - v7) * ((h.2.1 40) - ((h.2.1 42) * v15)))) + ((v9 - v11) * ((h.2.1 41) - ((h.2.1 42) * v17))))), (13, .long ((h.2.1 41) - ((h.2.1 42) * v17))), (11, .long ((h.2.1 40) - ((h.2.1 42) * v15))), (9, .long ((h.2.1 39) - ((h.2.1 42) * v13))), (7, .long (v9 - v11)), (5, .long (v5 - v7)), (3, .long (v1 - v3)), (0, .ref 239), (1, .int p1), (2, .int p2)], [.ref 239, .long ((((v1 - v3) * ((h.2.1 39) - ((h.2.1 42) * v13))) + ((v5 - v7) * ((h.2.1 40) - ((h.2.1 42) * v15)))) + ((v9 - v11) * ((h.2.1 41) - ((h.2.1 42) * v17))))], (hM C h), 0, 0)) rfl ?_
          refine r_gJ odX7_onLine rfl rfl (md_42 hC) ?_
          refine mB_run odX7_onLine 12 (g := (187, [(15, .long ((((v1 - v3) * ((h.2.1 39) - ((h.2.1 42) * v13))) + ((v5 - v7) * ((h.2.1 40) - ((h.2.1 42) * v15)))) + ((v9 - v11) * ((h.2.1 41) - ((h.2.1 42) * v17))))), (13, .long ((h.2.1 41) - ((h.2.1 42) * v17))), (11, .long ((h.2.1 40) - ((h.2.1 42) * v15))), (9, .long ((h.2.1 39) - ((h.2.1 42) * v13))), (7, .long (v9 - v11)), (5, .long (v5 - v7)), (3, .long (v1 - v3)), (0, .ref 239), (1, .int p1), (2, .int p2)], [.long ((h.2.1 42) * ((((v1 - v3) * (v1 - v3)) + ((v5 - v7) * (v5 - v7))) + ((v9 - v11) * (v9 - v11)))), .long ((((v1 - v3) * ((h.2.1 39) - ((h.2.1 42) * v13))) + ((v5 - v7) * ((h.2.1 40) - ((h.2.1 42) * v15)))) + ((v9 - v11) * ((h.2.1 41) - ((h.2.1 42) * v17))))], (hM C h), 0, 0)) rfl ?_
          by_cases c23 : ((h.2.1 42) * ((((v1 - v3) * (v1 - v3)) + ((v5 - v7) * (v5 - v7))) + ((v9 - v11) * (v9 - v11)))) < ((((v1 - v3) * ((h.2.1 39) - ((h.2.1 42) * v13))) + ((v5 - v7) * ((h.2.1 40) - ((h.2.1 42) * v15)))) + ((v9 - v11) * ((h.2.1 41) - ((h.2.1 42) * v17))))
          · rw [if_pos c23] at hq
            refine lc_gt_T (t := 195) odX7_onLine rfl rfl rfl c23 ?_
            refine mB_run odX7_onLine 1 (g := (196, [(15, .long ((((v1 - v3) * ((h.2.1 39) - ((h.2.1 42) * v13))) + ((v5 - v7) * ((h.2.1 40) - ((h.2.1 42) * v15)))) + ((v9 - v11) * ((h.2.1 41) - ((h.2.1 42) * v17))))), (13, .long ((h.2.1 41) - ((h.2.1 42) * v17))), (11, .long ((h.2.1 40) - ((h.2.1 42) * v15))), (9, .long ((h.2.1 39) - ((h.2.1 42) * v13))), (7, .long (v9 - v11)), (5, .long (v5 - v7)), (3, .long (v1 - v3)), (0, .ref 239), (1, .int p1), (2, .int p2)], [.int (0 : Int32)], (hM C h), 0, 0)) rfl ?_
            cases hq
            exact mB_ret odX7_onLine rfl
          · rw [if_neg c23] at hq
            refine lc_gt_F (t := 195) odX7_onLine rfl rfl rfl c23 ?_
            refine mB_run odX7_onLine 2 (g := (196, [(15, .long ((((v1 - v3) * ((h.2.1 39) - ((h.2.1 42) * v13))) + ((v5 - v7) * ((h.2.1 40) - ((h.2.1 42) * v15)))) + ((v9 - v11) * ((h.2.1 41) - ((h.2.1 42) * v17))))), (13, .long ((h.2.1 41) - ((h.2.1 42) * v17))), (11, .long ((h.2.1 40) - ((h.2.1 42) * v15))), (9, .long ((h.2.1 39) - ((h.2.1 42) * v13))), (7, .long (v9 - v11)), (5, .long (v5 - v7)), (3, .long (v1 - v3)), (0, .ref 239), (1, .int p1), (2, .int p2)], [.int (1 : Int32)], (hM C h), 0, 0)) rfl ?_
            cases hq
            exact mB_ret odX7_onLine rfl
      · rw [if_neg c21] at hq
        refine lc_eq_F (t := 140) odX7_onLine rfl rfl rfl c21 ?_
        refine mB_run odX7_onLine 1 (g := (139, [(13, .long ((h.2.1 41) - ((h.2.1 42) * v17))), (11, .long ((h.2.1 40) - ((h.2.1 42) * v15))), (9, .long ((h.2.1 39) - ((h.2.1 42) * v13))), (7, .long (v9 - v11)), (5, .long (v5 - v7)), (3, .long (v1 - v3)), (0, .ref 239), (1, .int p1), (2, .int p2)], [.int (0 : Int32)], (hM C h), 0, 0)) rfl ?_
        cases hq
        exact mB_ret odX7_onLine rfl
    · rw [if_neg c20] at hq
      refine lc_ne_T (t := 138) odX7_onLine rfl rfl rfl c20 ?_
      refine mB_run odX7_onLine 1 (g := (139, [(13, .long ((h.2.1 41) - ((h.2.1 42) * v17))), (11, .long ((h.2.1 40) - ((h.2.1 42) * v15))), (9, .long ((h.2.1 39) - ((h.2.1 42) * v13))), (7, .long (v9 - v11)), (5, .long (v5 - v7)), (3, .long (v1 - v3)), (0, .ref 239), (1, .int p1), (2, .int p2)], [.int (0 : Int32)], (hM C h), 0, 0)) rfl ?_
      cases hq
      exact mB_ret odX7_onLine rfl
  · rw [if_neg c19] at hq
    refine lc_ne_T (t := 138) odX7_onLine rfl rfl rfl c19 ?_
    refine mB_run odX7_onLine 1 (g := (139, [(13, .long ((h.2.1 41) - ((h.2.1 42) * v17))), (11, .long ((h.2.1 40) - ((h.2.1 42) * v15))), (9, .long ((h.2.1 39) - ((h.2.1 42) * v13))), (7, .long (v9 - v11)), (5, .long (v5 - v7)), (3, .long (v1 - v3)), (0, .ref 239), (1, .int p1), (2, .int p2)], [.int (0 : Int32)], (hM C h), 0, 0)) rfl ?_
    cases hq
    exact mB_ret odX7_onLine rfl
def mxX7_where_189 (N : Nat) (rec146 : Int32 → Int32 → Int32 → mS → Option (mS × Int32)) (x2 : Int32) (x4 : Int32) (x5 : Int32) (h : mS) : Option (mS × Int32) :=
  rec146 x2 x4 (x5 + (1 : Int32)) h
set_option maxHeartbeats 4000000 in
set_option maxRecDepth 100000 in
theorem emX7_where_189 {N : Nat} {C : mh} (hC : C.length = 239) {rec146 : Int32 → Int32 → Int32 → mS → Option (mS × Int32)} (hrec146 : ∀ (x2 : Int32) (x4 : Int32) (x5 : Int32) (h : mS) {o : (mS × Int32)}, rec146 x2 x4 x5 h = some o → mB (gO mX7_where (hM C o.1, some (.int o.2))) mX7_where (146, [(0, .ref 239), (2, .int x2), (4, .int x4), (5, .int x5)], [], (hM C h), 0, 0)) (x2 : Int32) (x4 : Int32) (x5 : Int32) (h : mS) {o : (mS × Int32)} (hq : mxX7_where_189 N rec146 x2 x4 x5 h = some o) : mB (gO mX7_where (hM C o.1, some (.int o.2))) mX7_where (189, [(0, .ref 239), (2, .int x2), (4, .int x4), (5, .int x5)], [], (hM C h), 0, 0) := by
  unfold mxX7_where_189 at hq
  refine mB_run odX7_where 2 (g := (146, [(5, .int (x5 + (1 : Int32))), (0, .ref 239), (2, .int x2), (4, .int x4)], [], (hM C h), 0, 0)) rfl ?_
  refine mB_lv [1, 2, 3, 0] (lv' := [(0, .ref 239), (2, .int x2), (4, .int x4), (5, .int (x5 + (1 : Int32)))]) rfl ?_
  exact hrec146 _ _ _ _ hq
def mxX7_where_146 (N : Nat) : Nat → Int32 → Int32 → Int32 → mS → Option (mS × Int32)
  | 0, _, _, _, _ => none
  | n + 1, x2, x4, x5, h =>
    (rA h 27 x2).bind fun v23 =>
    if (((64 : Int32) * x2) + v23) ≤ x5 then (
      some (h, x4)) else (
      (mxX7_overFace N x5 h).bind fun o26 =>
      if o26.2 ≤ (0 : Int64) then (
        if o26.2 = (0 : Int64) then (
          mxX7_where_189 N (mxX7_where_146 N n) x2 (1 : Int32) x5 o26.1) else (
          mxX7_where_189 N (mxX7_where_146 N n) x2 x4 x5 o26.1)) else (
        some (o26.1, (0 : Int32))))
set_option maxHeartbeats 4000000 in
set_option maxRecDepth 100000 in
theorem emX7_where_146 {N : Nat} {C : mh} (hC : C.length = 239) : ∀ (n : Nat) (x2 : Int32) (x4 : Int32) (x5 : Int32) (h : mS) {o : (mS × Int32)}, mxX7_where_146 N n x2 x4 x5 h = some o → mB (gO mX7_where (hM C o.1, some (.int o.2))) mX7_where (146, [(0, .ref 239), (2, .int x2), (4, .int x4), (5, .int x5)], [], (hM C h), 0, 0) := by
  intro n
  induction n with
  | zero => intro x2 x4 x5 h o hq; cases hq
  | succ n ih =>
    intro x2 x4 x5 h o hq
    unfold mxX7_where_146 at hq
    refine mB_run odX7_where 5 (g := (153, [(0, .ref 239), (2, .int x2), (4, .int x4), (5, .int x5)], [.ref 239, .int ((64 : Int32) * x2), .int x5], (hM C h), 0, 0)) rfl ?_
    refine r_gR odX7_where rfl rfl (md_27 hC) ?_
    refine mB_run odX7_where 1 (g := (157, [(0, .ref 239), (2, .int x2), (4, .int x4), (5, .int x5)], [.int x2, .ref 260, .int ((64 : Int32) * x2), .int x5], (hM C h), 0, 0)) rfl ?_
    obtain ⟨v23, e24, hq⟩ := bsm hq
    refine r_aI odX7_where rfl (ra_27 hC e24) ?_
    refine mB_run odX7_where 1 (g := (159, [(0, .ref 239), (2, .int x2), (4, .int x4), (5, .int x5)], [.int (((64 : Int32) * x2) + v23), .int x5], (hM C h), 0, 0)) rfl ?_
    by_cases c25 : (((64 : Int32) * x2) + v23) ≤ x5
    · rw [if_pos c25] at hq
      refine ic_ge_T (t := 195) odX7_where rfl rfl c25 ?_
      refine mB_run odX7_where 1 (g := (197, [(0, .ref 239), (2, .int x2), (4, .int x4), (5, .int x5)], [.int x4], (hM C h), 0, 0)) rfl ?_
      cases hq
      exact mB_ret odX7_where rfl
    · rw [if_neg c25] at hq
      refine ic_ge_F (t := 195) odX7_where rfl rfl c25 ?_
      refine mB_run odX7_where 2 (g := (165, [(0, .ref 239), (2, .int x2), (4, .int x4), (5, .int x5)], [.int x5, .ref 239], (hM C h), 0, 0)) rfl ?_
      obtain ⟨o26, e27, hq⟩ := bsm hq
      refine mB_V (as := [.int x5]) odX7_where okX7_overFace lk_7_268 rfl (emX7_overFace hC e27) (kO_at (md_O hC)) rfl rfl rfl ?_
      show mB _ mX7_where (168, [(0, .ref 239), (2, .int x2), (4, .int x4), (5, .int x5)], [.long o26.2], (hM C o26.1), 0, 0)
      refine mB_run odX7_where 3 (g := (173, [(6, .long o26.2), (0, .ref 239), (2, .int x2), (4, .int x4), (5, .int x5)], [.long (0 : Int64), .long o26.2], (hM C o26.1), 0, 0)) rfl ?_
      by_cases c28 : o26.2 ≤ (0 : Int64)
      · rw [if_pos c28] at hq
        refine lc_le_T (t := 179) odX7_where rfl rfl rfl c28 ?_
        refine mB_run odX7_where 2 (g := (182, [(6, .long o26.2), (0, .ref 239), (2, .int x2), (4, .int x4), (5, .int x5)], [.long (0 : Int64), .long o26.2], (hM C o26.1), 0, 0)) rfl ?_
        by_cases c29 : o26.2 = (0 : Int64)
        · rw [if_pos c29] at hq
          refine lc_ne_F (t := 189) odX7_where rfl rfl rfl c29 ?_
          refine mB_run odX7_where 2 (g := (189, [(4, .int (1 : Int32)), (6, .long o26.2), (0, .ref 239), (2, .int x2), (5, .int x5)], [], (hM C o26.1), 0, 0)) rfl ?_
          refine mB_lv [2, 3, 0, 4] (lv' := [(0, .ref 239), (2, .int x2), (4, .int (1 : Int32)), (5, .int x5)]) rfl ?_
          exact emX7_where_189 hC ih _ _ _ _ hq
        · rw [if_neg c29] at hq
          refine lc_ne_T (t := 189) odX7_where rfl rfl rfl c29 ?_
          refine mB_lv [1, 2, 3, 4] (lv' := [(0, .ref 239), (2, .int x2), (4, .int x4), (5, .int x5)]) rfl ?_
          exact emX7_where_189 hC ih _ _ _ _ hq
      · rw [if_neg c28] at hq
        refine lc_le_F (t := 179) odX7_where rfl rfl rfl c28 ?_
        refine mB_run odX7_where 1 (g := (178, [(6, .long o26.2), (0, .ref 239), (2, .int x2), (4, .int x4), (5, .int x5)], [.int (0 : Int32)], (hM C o26.1), 0, 0)) rfl ?_
        cases hq
        exact mB_ret odX7_where rfl
def mxX7_where (N : Nat) (p1 : Int32) (p2 : Int32) (h : mS) : Option (mS × Int32) :=
  if p1 = 0 then (
    some (h, (0 : Int32))) else (
    if p1 = (1 : Int32) then (
      (rG h 43 ((24 : Int32) * p2)).bind fun v3 =>
      if (h.2.1 39) = ((h.2.1 42) * v3) then (
        (rG h 44 ((24 : Int32) * p2)).bind fun v6 =>
        if (h.2.1 40) = ((h.2.1 42) * v6) then (
          (rG h 45 ((24 : Int32) * p2)).bind fun v9 =>
          if (h.2.1 41) = ((h.2.1 42) * v9) then (
            some (h, (1 : Int32))) else (
            some (h, (0 : Int32)))) else (
          some (h, (0 : Int32)))) else (
        some (h, (0 : Int32)))) else (
      if p1 = (2 : Int32) then (
        (mxX7_onLine N ((24 : Int32) * p2) (((24 : Int32) * p2) + (1 : Int32)) h).bind fun o13 =>
        if o13.2 = 0 then (
          some (o13.1, (0 : Int32))) else (
          some (o13.1, (1 : Int32)))) else (
        if p1 = (3 : Int32) then (
          (mxX7_overFace N ((64 : Int32) * p2) h).bind fun o17 =>
          if o17.2 = (0 : Int64) then (
            (mxX7_isOver N p2 ((64 : Int32) * p2) o17.1).bind fun o20 =>
            if o20.2 = 0 then (
              some (o20.1, (0 : Int32))) else (
              some (o20.1, (1 : Int32)))) else (
            some (o17.1, (0 : Int32)))) else (
          mxX7_where_146 N N p2 (2 : Int32) ((64 : Int32) * p2) h))))
set_option maxHeartbeats 4000000 in
set_option maxRecDepth 100000 in
theorem emX7_where {N : Nat} {C : mh} (hC : C.length = 239) {p1 : Int32} {p2 : Int32} {h : mS} {o : (mS × Int32)} (hq : mxX7_where N p1 p2 h = some o) : mC mX7_where [.ref 239, .int p1, .int p2] (hM C h) (hM C o.1, some (.int o.2)) := by
  refine mC_of okX7_where (Nat.le_of_ble_eq_true rfl) ?_
  unfold mxX7_where at hq
  show mB _ mX7_where (0, [(0, .ref 239), (1, .int p1), (2, .int p2)], [], (hM C h), 0, 0)
  refine mB_run odX7_where 5 (g := (6, [(3, .int ((24 : Int32) * p2)), (0, .ref 239), (1, .int p1), (2, .int p2)], [.int p1], (hM C h), 0, 0)) rfl ?_
  by_cases c1 : p1 = 0
  · rw [if_pos c1] at hq
    refine if_ne_F (t := 11) odX7_where rfl rfl c1 ?_
    refine mB_run odX7_where 1 (g := (10, [(3, .int ((24 : Int32) * p2)), (0, .ref 239), (1, .int p1), (2, .int p2)], [.int (0 : Int32)], (hM C h), 0, 0)) rfl ?_
    cases hq
    exact mB_ret odX7_where rfl
  · rw [if_neg c1] at hq
    refine if_ne_T (t := 11) odX7_where rfl rfl c1 ?_
    refine mB_run odX7_where 2 (g := (13, [(3, .int ((24 : Int32) * p2)), (0, .ref 239), (1, .int p1), (2, .int p2)], [.int (1 : Int32), .int p1], (hM C h), 0, 0)) rfl ?_
    by_cases c2 : p1 = (1 : Int32)
    · rw [if_pos c2] at hq
      refine ic_ne_F (t := 79) odX7_where rfl rfl c2 ?_
      refine mB_run odX7_where 1 (g := (17, [(3, .int ((24 : Int32) * p2)), (0, .ref 239), (1, .int p1), (2, .int p2)], [.ref 239], (hM C h), 0, 0)) rfl ?_
      refine r_gJ odX7_where rfl rfl (md_39 hC) ?_
      refine mB_run odX7_where 1 (g := (21, [(3, .int ((24 : Int32) * p2)), (0, .ref 239), (1, .int p1), (2, .int p2)], [.ref 239, .long (h.2.1 39)], (hM C h), 0, 0)) rfl ?_
      refine r_gJ odX7_where rfl rfl (md_42 hC) ?_
      refine mB_run odX7_where 1 (g := (25, [(3, .int ((24 : Int32) * p2)), (0, .ref 239), (1, .int p1), (2, .int p2)], [.ref 239, .long (h.2.1 42), .long (h.2.1 39)], (hM C h), 0, 0)) rfl ?_
      refine r_gR odX7_where rfl rfl (md_43 hC) ?_
      refine mB_run odX7_where 1 (g := (29, [(3, .int ((24 : Int32) * p2)), (0, .ref 239), (1, .int p1), (2, .int p2)], [.int ((24 : Int32) * p2), .ref 272, .long (h.2.1 42), .long (h.2.1 39)], (hM C h), 0, 0)) rfl ?_
      obtain ⟨v3, e4, hq⟩ := bsm hq
      refine r_aJ odX7_where rfl (ra_43 hC e4) ?_
      refine mB_run odX7_where 1 (g := (31, [(3, .int ((24 : Int32) * p2)), (0, .ref 239), (1, .int p1), (2, .int p2)], [.long ((h.2.1 42) * v3), .long (h.2.1 39)], (hM C h), 0, 0)) rfl ?_
      by_cases c5 : (h.2.1 39) = ((h.2.1 42) * v3)
      · rw [if_pos c5] at hq
        refine lc_ne_F (t := 77) odX7_where rfl rfl rfl c5 ?_
        refine mB_run odX7_where 1 (g := (36, [(3, .int ((24 : Int32) * p2)), (0, .ref 239), (1, .int p1), (2, .int p2)], [.ref 239], (hM C h), 0, 0)) rfl ?_
        refine r_gJ odX7_where rfl rfl (md_40 hC) ?_
        refine mB_run odX7_where 1 (g := (40, [(3, .int ((24 : Int32) * p2)), (0, .ref 239), (1, .int p1), (2, .int p2)], [.ref 239, .long (h.2.1 40)], (hM C h), 0, 0)) rfl ?_
        refine r_gJ odX7_where rfl rfl (md_42 hC) ?_
        refine mB_run odX7_where 1 (g := (44, [(3, .int ((24 : Int32) * p2)), (0, .ref 239), (1, .int p1), (2, .int p2)], [.ref 239, .long (h.2.1 42), .long (h.2.1 40)], (hM C h), 0, 0)) rfl ?_
        refine r_gR odX7_where rfl rfl (md_44 hC) ?_
        refine mB_run odX7_where 1 (g := (48, [(3, .int ((24 : Int32) * p2)), (0, .ref 239), (1, .int p1), (2, .int p2)], [.int ((24 : Int32) * p2), .ref 273, .long (h.2.1 42), .long (h.2.1 40)], (hM C h), 0, 0)) rfl ?_
        obtain ⟨v6, e7, hq⟩ := bsm hq
        refine r_aJ odX7_where rfl (ra_44 hC e7) ?_
        refine mB_run odX7_where 1 (g := (50, [(3, .int ((24 : Int32) * p2)), (0, .ref 239), (1, .int p1), (2, .int p2)], [.long ((h.2.1 42) * v6), .long (h.2.1 40)], (hM C h), 0, 0)) rfl ?_
        by_cases c8 : (h.2.1 40) = ((h.2.1 42) * v6)
        · rw [if_pos c8] at hq
          refine lc_ne_F (t := 77) odX7_where rfl rfl rfl c8 ?_
          refine mB_run odX7_where 1 (g := (55, [(3, .int ((24 : Int32) * p2)), (0, .ref 239), (1, .int p1), (2, .int p2)], [.ref 239], (hM C h), 0, 0)) rfl ?_
          refine r_gJ odX7_where rfl rfl (md_41 hC) ?_
          refine mB_run odX7_where 1 (g := (59, [(3, .int ((24 : Int32) * p2)), (0, .ref 239), (1, .int p1), (2, .int p2)], [.ref 239, .long (h.2.1 41)], (hM C h), 0, 0)) rfl ?_
          refine r_gJ odX7_where rfl rfl (md_42 hC) ?_
          refine mB_run odX7_where 1 (g := (63, [(3, .int ((24 : Int32) * p2)), (0, .ref 239), (1, .int p1), (2, .int p2)], [.ref 239, .long (h.2.1 42), .long (h.2.1 41)], (hM C h), 0, 0)) rfl ?_
          refine r_gR odX7_where rfl rfl (md_45 hC) ?_
          refine mB_run odX7_where 1 (g := (67, [(3, .int ((24 : Int32) * p2)), (0, .ref 239), (1, .int p1), (2, .int p2)], [.int ((24 : Int32) * p2), .ref 274, .long (h.2.1 42), .long (h.2.1 41)], (hM C h), 0, 0)) rfl ?_
          obtain ⟨v9, e10, hq⟩ := bsm hq
          refine r_aJ odX7_where rfl (ra_45 hC e10) ?_
          refine mB_run odX7_where 1 (g := (69, [(3, .int ((24 : Int32) * p2)), (0, .ref 239), (1, .int p1), (2, .int p2)], [.long ((h.2.1 42) * v9), .long (h.2.1 41)], (hM C h), 0, 0)) rfl ?_
          by_cases c11 : (h.2.1 41) = ((h.2.1 42) * v9)
          · rw [if_pos c11] at hq
            refine lc_ne_F (t := 77) odX7_where rfl rfl rfl c11 ?_
            refine mB_run odX7_where 2 (g := (78, [(3, .int ((24 : Int32) * p2)), (0, .ref 239), (1, .int p1), (2, .int p2)], [.int (1 : Int32)], (hM C h), 0, 0)) rfl ?_
            cases hq
            exact mB_ret odX7_where rfl
          · rw [if_neg c11] at hq
            refine lc_ne_T (t := 77) odX7_where rfl rfl rfl c11 ?_
            refine mB_run odX7_where 1 (g := (78, [(3, .int ((24 : Int32) * p2)), (0, .ref 239), (1, .int p1), (2, .int p2)], [.int (0 : Int32)], (hM C h), 0, 0)) rfl ?_
            cases hq
            exact mB_ret odX7_where rfl
        · rw [if_neg c8] at hq
          refine lc_ne_T (t := 77) odX7_where rfl rfl rfl c8 ?_
          refine mB_run odX7_where 1 (g := (78, [(3, .int ((24 : Int32) * p2)), (0, .ref 239), (1, .int p1), (2, .int p2)], [.int (0 : Int32)], (hM C h), 0, 0)) rfl ?_
          cases hq
          exact mB_ret odX7_where rfl
      · rw [if_neg c5] at hq
        refine lc_ne_T (t := 77) odX7_where rfl rfl rfl c5 ?_
        refine mB_run odX7_where 1 (g := (78, [(3, .int ((24 : Int32) * p2)), (0, .ref 239), (1, .int p1), (2, .int p2)], [.int (0 : Int32)], (hM C h), 0, 0)) rfl ?_
        cases hq
        exact mB_ret odX7_where rfl
    · rw [if_neg c2] at hq
      refine ic_ne_T (t := 79) odX7_where rfl rfl c2 ?_
      refine mB_run odX7_where 2 (g := (81, [(3, .int ((24 : Int32) * p2)), (0, .ref 239), (1, .int p1), (2, .int p2)], [.int (2 : Int32), .int p1], (hM C h), 0, 0)) rfl ?_
      by_cases c12 : p1 = (2 : Int32)
      · rw [if_pos c12] at hq
        refine ic_ne_F (t := 101) odX7_where rfl rfl c12 ?_
        refine mB_run odX7_where 5 (g := (89, [(3, .int ((24 : Int32) * p2)), (0, .ref 239), (1, .int p1), (2, .int p2)], [.int (((24 : Int32) * p2) + (1 : Int32)), .int ((24 : Int32) * p2), .ref 239], (hM C h), 0, 0)) rfl ?_
        obtain ⟨o13, e14, hq⟩ := bsm hq
        refine mB_V (as := [.int ((24 : Int32) * p2), .int (((24 : Int32) * p2) + (1 : Int32))]) odX7_where okX7_onLine lk_7_265 rfl (emX7_onLine hC e14) (kO_at (md_O hC)) rfl rfl rfl ?_
        show mB _ mX7_where (92, [(3, .int ((24 : Int32) * p2)), (0, .ref 239), (1, .int p1), (2, .int p2)], [.int o13.2], (hM C o13.1), 0, 0)
        by_cases c15 : o13.2 = 0
        · rw [if_pos c15] at hq
          refine if_eq_T (t := 99) odX7_where rfl rfl c15 ?_
          refine mB_run odX7_where 1 (g := (100, [(3, .int ((24 : Int32) * p2)), (0, .ref 239), (1, .int p1), (2, .int p2)], [.int (0 : Int32)], (hM C o13.1), 0, 0)) rfl ?_
          cases hq
          exact mB_ret odX7_where rfl
        · rw [if_neg c15] at hq
          refine if_eq_F (t := 99) odX7_where rfl rfl c15 ?_
          refine mB_run odX7_where 2 (g := (100, [(3, .int ((24 : Int32) * p2)), (0, .ref 239), (1, .int p1), (2, .int p2)], [.int (1 : Int32)], (hM C o13.1), 0, 0)) rfl ?_
          cases hq
          exact mB_ret odX7_where rfl
      · rw [if_neg c12] at hq
        refine ic_ne_T (t := 101) odX7_where rfl rfl c12 ?_
        refine mB_run odX7_where 2 (g := (103, [(3, .int ((24 : Int32) * p2)), (0, .ref 239), (1, .int p1), (2, .int p2)], [.int (3 : Int32), .int p1], (hM C h), 0, 0)) rfl ?_
        by_cases c16 : p1 = (3 : Int32)
        · rw [if_pos c16] at hq
          refine ic_ne_F (t := 137) odX7_where rfl rfl c16 ?_
          refine mB_run odX7_where 4 (g := (111, [(3, .int ((24 : Int32) * p2)), (0, .ref 239), (1, .int p1), (2, .int p2)], [.int ((64 : Int32) * p2), .ref 239], (hM C h), 0, 0)) rfl ?_
          obtain ⟨o17, e18, hq⟩ := bsm hq
          refine mB_V (as := [.int ((64 : Int32) * p2)]) odX7_where okX7_overFace lk_7_268 rfl (emX7_overFace hC e18) (kO_at (md_O hC)) rfl rfl rfl ?_
          show mB _ mX7_where (114, [(3, .int ((24 : Int32) * p2)), (0, .ref 239), (1, .int p1), (2, .int p2)], [.long o17.2], (hM C o17.1), 0, 0)
          refine mB_run odX7_where 1 (g := (115, [(3, .int ((24 : Int32) * p2)), (0, .ref 239), (1, .int p1), (2, .int p2)], [.long (0 : Int64), .long o17.2], (hM C o17.1), 0, 0)) rfl ?_
          by_cases c19 : o17.2 = (0 : Int64)
          · rw [if_pos c19] at hq
            refine lc_ne_F (t := 135) odX7_where rfl rfl rfl c19 ?_
            refine mB_run odX7_where 5 (g := (125, [(3, .int ((24 : Int32) * p2)), (0, .ref 239), (1, .int p1), (2, .int p2)], [.int ((64 : Int32) * p2), .int p2, .ref 239], (hM C o17.1), 0, 0)) rfl ?_
            obtain ⟨o20, e21, hq⟩ := bsm hq
            refine mB_V (as := [.int p2, .int ((64 : Int32) * p2)]) odX7_where okX7_isOver lk_7_271 rfl (emX7_isOver hC e21) (kO_at (md_O hC)) rfl rfl rfl ?_
            show mB _ mX7_where (128, [(3, .int ((24 : Int32) * p2)), (0, .ref 239), (1, .int p1), (2, .int p2)], [.int o20.2], (hM C o20.1), 0, 0)
            by_cases c22 : o20.2 = 0
            · rw [if_pos c22] at hq
              refine if_eq_T (t := 135) odX7_where rfl rfl c22 ?_
              refine mB_run odX7_where 1 (g := (136, [(3, .int ((24 : Int32) * p2)), (0, .ref 239), (1, .int p1), (2, .int p2)], [.int (0 : Int32)], (hM C o20.1), 0, 0)) rfl ?_
              cases hq
              exact mB_ret odX7_where rfl
            · rw [if_neg c22] at hq
              refine if_eq_F (t := 135) odX7_where rfl rfl c22 ?_
              refine mB_run odX7_where 2 (g := (136, [(3, .int ((24 : Int32) * p2)), (0, .ref 239), (1, .int p1), (2, .int p2)], [.int (1 : Int32)], (hM C o20.1), 0, 0)) rfl ?_
              cases hq
              exact mB_ret odX7_where rfl
          · rw [if_neg c19] at hq
            refine lc_ne_T (t := 135) odX7_where rfl rfl rfl c19 ?_
            refine mB_run odX7_where 1 (g := (136, [(3, .int ((24 : Int32) * p2)), (0, .ref 239), (1, .int p1), (2, .int p2)], [.int (0 : Int32)], (hM C o17.1), 0, 0)) rfl ?_
            cases hq
            exact mB_ret odX7_where rfl
        · rw [if_neg c16] at hq
          refine ic_ne_T (t := 137) odX7_where rfl rfl c16 ?_
          refine mB_run odX7_where 6 (g := (146, [(5, .int ((64 : Int32) * p2)), (4, .int (2 : Int32)), (3, .int ((24 : Int32) * p2)), (0, .ref 239), (1, .int p1), (2, .int p2)], [], (hM C h), 0, 0)) rfl ?_
          refine mB_lv [3, 5, 1, 0] (lv' := [(0, .ref 239), (2, .int p2), (4, .int (2 : Int32)), (5, .int ((64 : Int32) * p2))]) rfl ?_
          exact emX7_where_146 hC N _ _ _ _ hq
def mxX7_isFar (N : Nat) (p0 : Int32) (h : mS) : Option (mS × Int32) :=
  if p0 < (-1000000 : Int32) then (
    some (h, (1 : Int32))) else (
    if p0 ≤ (1000000 : Int32) then (
      some (h, (0 : Int32))) else (
      some (h, (1 : Int32))))
set_option maxHeartbeats 4000000 in
set_option maxRecDepth 100000 in
theorem emX7_isFar {N : Nat} {C : mh} (hC : C.length = 239) {p0 : Int32} {h : mS} {o : (mS × Int32)} (hq : mxX7_isFar N p0 h = some o) : mC mX7_isFar [.int p0] (hM C h) (hM C o.1, some (.int o.2)) := by
  refine mC_of okX7_isFar (Nat.le_of_ble_eq_true rfl) ?_
  unfold mxX7_isFar at hq
  show mB _ mX7_isFar (0, [(0, .int p0)], [], (hM C h), 0, 0)
  refine mB_run odX7_isFar 2 (g := (4, [(0, .int p0)], [.int (-1000000 : Int32), .int p0], (hM C h), 0, 0)) rfl ?_
  by_cases c1 : p0 < (-1000000 : Int32)
  · rw [if_pos c1] at hq
    refine ic_lt_T (t := 14) odX7_isFar rfl rfl c1 ?_
    refine mB_run odX7_isFar 2 (g := (19, [(0, .int p0)], [.int (1 : Int32)], (hM C h), 0, 0)) rfl ?_
    cases hq
    exact mB_ret odX7_isFar rfl
  · rw [if_neg c1] at hq
    refine ic_lt_F (t := 14) odX7_isFar rfl rfl c1 ?_
    refine mB_run odX7_isFar 2 (g := (11, [(0, .int p0)], [.int (1000000 : Int32), .int p0], (hM C h), 0, 0)) rfl ?_
    by_cases c2 : p0 ≤ (1000000 : Int32)
    · rw [if_pos c2] at hq
      refine ic_le_T (t := 18) odX7_isFar rfl rfl c2 ?_
      refine mB_run odX7_isFar 1 (g := (19, [(0, .int p0)], [.int (0 : Int32)], (hM C h), 0, 0)) rfl ?_
      cases hq
      exact mB_ret odX7_isFar rfl
    · rw [if_neg c2] at hq
      refine ic_le_F (t := 18) odX7_isFar rfl rfl c2 ?_
      refine mB_run odX7_isFar 2 (g := (19, [(0, .int p0)], [.int (1 : Int32)], (hM C h), 0, 0)) rfl ?_
      cases hq
      exact mB_ret odX7_isFar rfl
def mxX7_points (N : Nat) (p1 : Int64) (p2 : Int64) (p3 : Int64) (p4 : Int64) (h : mS) : Option mS :=
  (some (pJ h 39 p1)).bind fun s1 =>
  (some (pJ s1 40 p2)).bind fun s3 =>
  (some (pJ s3 41 p3)).bind fun s5 =>
  (some (pJ s5 42 p4)).bind fun s7 =>
  some s7
set_option maxHeartbeats 4000000 in
set_option maxRecDepth 100000 in
theorem emX7_points {N : Nat} {C : mh} (hC : C.length = 239) {p1 : Int64} {p2 : Int64} {p3 : Int64} {p4 : Int64} {h : mS} {o : mS} (hq : mxX7_points N p1 p2 p3 p4 h = some o) : mC mX7_points [.ref 239, .long p1, .long p2, .long p3, .long p4] (hM C h) (hM C o, none) := by
  refine mC_of okX7_points (Nat.le_of_ble_eq_true rfl) ?_
  unfold mxX7_points at hq
  show mB _ mX7_points (0, [(0, .ref 239), (1, .long p1), (3, .long p2), (5, .long p3), (7, .long p4)], [], (hM C h), 0, 0)
  refine mB_run odX7_points 2 (g := (2, [(0, .ref 239), (1, .long p1), (3, .long p2), (5, .long p3), (7, .long p4)], [.long p1, .ref 239], (hM C h), 0, 0)) rfl ?_
  obtain ⟨s1, e2, hq⟩ := bsm hq
  refine r_sV odX7_points rfl rfl rfl rfl (pt_39 hC e2) ?_
  refine mB_run odX7_points 2 (g := (7, [(0, .ref 239), (1, .long p1), (3, .long p2), (5, .long p3), (7, .long p4)], [.long p2, .ref 239], (hM C s1), 0, 0)) rfl ?_
  obtain ⟨s3, e4, hq⟩ := bsm hq
  refine r_sV odX7_points rfl rfl rfl rfl (pt_40 hC e4) ?_
  refine mB_run odX7_points 2 (g := (13, [(0, .ref 239), (1, .long p1), (3, .long p2), (5, .long p3), (7, .long p4)], [.long p3, .ref 239], (hM C s3), 0, 0)) rfl ?_
  obtain ⟨s5, e6, hq⟩ := bsm hq
  refine r_sV odX7_points rfl rfl rfl rfl (pt_41 hC e6) ?_
  refine mB_run odX7_points 2 (g := (19, [(0, .ref 239), (1, .long p1), (3, .long p2), (5, .long p3), (7, .long p4)], [.long p4, .ref 239], (hM C s5), 0, 0)) rfl ?_
  obtain ⟨s7, e8, hq⟩ := bsm hq
  refine r_sV odX7_points rfl rfl rfl rfl (pt_42 hC e8) ?_
  cases hq
  exact mB_ret odX7_points rfl
def mxX7_in (N : Nat) (p1 : Int32) (p2 : Int32) (p3 : Int32) (p4 : Int32) (p5 : Int32) (h : mS) : Option (mS × Int32) :=
  (mxX7_isSolid N p1 h).bind fun o1 =>
  if o1.2 = 0 then (
    some (o1.1, (-1 : Int32))) else (
    if p5 < (1 : Int32) then (
      some (o1.1, (-1 : Int32))) else (
      if (1000 : Int32) < p5 then (
        some (o1.1, (-1 : Int32))) else (
        (mxX7_isFar N p2 o1.1).bind fun o6 =>
        if o6.2 = 0 then (
          (mxX7_isFar N p3 o6.1).bind fun o9 =>
          if o9.2 = 0 then (
            (mxX7_isFar N p4 o9.1).bind fun o12 =>
            if o12.2 = 0 then (
              (mxX7_owns N p1 (0 : Int32) o12.1).bind fun o15 =>
              (mxX7_points N p2.toInt64 p3.toInt64 p4.toInt64 p5.toInt64 o15).bind fun o17 =>
              (rA o17 5 p1).bind fun v19 =>
              (mxX7_where N v19 (0 : Int32) o17).bind fun o21 =>
              some (o21.1, o21.2)) else (
              some (o12.1, (-1 : Int32)))) else (
            some (o9.1, (-1 : Int32)))) else (
          some (o6.1, (-1 : Int32))))))
set_option maxHeartbeats 4000000 in
set_option maxRecDepth 100000 in
theorem emX7_in {N : Nat} {C : mh} (hC : C.length = 239) {p1 : Int32} {p2 : Int32} {p3 : Int32} {p4 : Int32} {p5 : Int32} {h : mS} {o : (mS × Int32)} (hq : mxX7_in N p1 p2 p3 p4 p5 h = some o) : mC mX7_in [.ref 239, .int p1, .int p2, .int p3, .int p4, .int p5] (hM C h) (hM C o.1, some (.int o.2)) := by
  refine mC_of okX7_in (Nat.le_of_ble_eq_true rfl) ?_
  unfold mxX7_in at hq
  show mB _ mX7_in (0, [(0, .ref 239), (1, .int p1), (2, .int p2), (3, .int p3), (4, .int p4), (5, .int p5)], [], (hM C h), 0, 0)
  refine mB_run odX7_in 1 (g := (1, [(0, .ref 239), (1, .int p1), (2, .int p2), (3, .int p3), (4, .int p4), (5, .int p5)], [.int p1], (hM C h), 0, 0)) rfl ?_
  obtain ⟨o1, e2, hq⟩ := bsm hq
  refine mB_S (as := [.int p1]) odX7_in okX7_isSolid lk_7_133 rfl (emX7_isSolid hC e2) rfl rfl rfl ?_
  show mB _ mX7_in (4, [(0, .ref 239), (1, .int p1), (2, .int p2), (3, .int p3), (4, .int p4), (5, .int p5)], [.int o1.2], (hM C o1.1), 0, 0)
  by_cases c3 : o1.2 = 0
  · rw [if_pos c3] at hq
    refine if_eq_T (t := 43) odX7_in rfl rfl c3 ?_
    refine mB_run odX7_in 1 (g := (44, [(0, .ref 239), (1, .int p1), (2, .int p2), (3, .int p3), (4, .int p4), (5, .int p5)], [.int (-1 : Int32)], (hM C o1.1), 0, 0)) rfl ?_
    cases hq
    exact mB_ret odX7_in rfl
  · rw [if_neg c3] at hq
    refine if_eq_F (t := 43) odX7_in rfl rfl c3 ?_
    refine mB_run odX7_in 2 (g := (10, [(0, .ref 239), (1, .int p1), (2, .int p2), (3, .int p3), (4, .int p4), (5, .int p5)], [.int (1 : Int32), .int p5], (hM C o1.1), 0, 0)) rfl ?_
    by_cases c4 : p5 < (1 : Int32)
    · rw [if_pos c4] at hq
      refine ic_lt_T (t := 43) odX7_in rfl rfl c4 ?_
      refine mB_run odX7_in 1 (g := (44, [(0, .ref 239), (1, .int p1), (2, .int p2), (3, .int p3), (4, .int p4), (5, .int p5)], [.int (-1 : Int32)], (hM C o1.1), 0, 0)) rfl ?_
      cases hq
      exact mB_ret odX7_in rfl
    · rw [if_neg c4] at hq
      refine ic_lt_F (t := 43) odX7_in rfl rfl c4 ?_
      refine mB_run odX7_in 2 (g := (18, [(0, .ref 239), (1, .int p1), (2, .int p2), (3, .int p3), (4, .int p4), (5, .int p5)], [.int (1000 : Int32), .int p5], (hM C o1.1), 0, 0)) rfl ?_
      by_cases c5 : (1000 : Int32) < p5
      · rw [if_pos c5] at hq
        refine ic_gt_T (t := 43) odX7_in rfl rfl c5 ?_
        refine mB_run odX7_in 1 (g := (44, [(0, .ref 239), (1, .int p1), (2, .int p2), (3, .int p3), (4, .int p4), (5, .int p5)], [.int (-1 : Int32)], (hM C o1.1), 0, 0)) rfl ?_
        cases hq
        exact mB_ret odX7_in rfl
      · rw [if_neg c5] at hq
        refine ic_gt_F (t := 43) odX7_in rfl rfl c5 ?_
        refine mB_run odX7_in 1 (g := (22, [(0, .ref 239), (1, .int p1), (2, .int p2), (3, .int p3), (4, .int p4), (5, .int p5)], [.int p2], (hM C o1.1), 0, 0)) rfl ?_
        obtain ⟨o6, e7, hq⟩ := bsm hq
        refine mB_S (as := [.int p2]) odX7_in okX7_isFar lk_7_276 rfl (emX7_isFar hC e7) rfl rfl rfl ?_
        show mB _ mX7_in (25, [(0, .ref 239), (1, .int p1), (2, .int p2), (3, .int p3), (4, .int p4), (5, .int p5)], [.int o6.2], (hM C o6.1), 0, 0)
        by_cases c8 : o6.2 = 0
        · rw [if_pos c8] at hq
          refine if_ne_F (t := 43) odX7_in rfl rfl c8 ?_
          refine mB_run odX7_in 1 (g := (29, [(0, .ref 239), (1, .int p1), (2, .int p2), (3, .int p3), (4, .int p4), (5, .int p5)], [.int p3], (hM C o6.1), 0, 0)) rfl ?_
          obtain ⟨o9, e10, hq⟩ := bsm hq
          refine mB_S (as := [.int p3]) odX7_in okX7_isFar lk_7_276 rfl (emX7_isFar hC e10) rfl rfl rfl ?_
          show mB _ mX7_in (32, [(0, .ref 239), (1, .int p1), (2, .int p2), (3, .int p3), (4, .int p4), (5, .int p5)], [.int o9.2], (hM C o9.1), 0, 0)
          by_cases c11 : o9.2 = 0
          · rw [if_pos c11] at hq
            refine if_ne_F (t := 43) odX7_in rfl rfl c11 ?_
            refine mB_run odX7_in 1 (g := (37, [(0, .ref 239), (1, .int p1), (2, .int p2), (3, .int p3), (4, .int p4), (5, .int p5)], [.int p4], (hM C o9.1), 0, 0)) rfl ?_
            obtain ⟨o12, e13, hq⟩ := bsm hq
            refine mB_S (as := [.int p4]) odX7_in okX7_isFar lk_7_276 rfl (emX7_isFar hC e13) rfl rfl rfl ?_
            show mB _ mX7_in (40, [(0, .ref 239), (1, .int p1), (2, .int p2), (3, .int p3), (4, .int p4), (5, .int p5)], [.int o12.2], (hM C o12.1), 0, 0)
            by_cases c14 : o12.2 = 0
            · rw [if_pos c14] at hq
              refine if_eq_T (t := 45) odX7_in rfl rfl c14 ?_
              refine mB_run odX7_in 3 (g := (48, [(0, .ref 239), (1, .int p1), (2, .int p2), (3, .int p3), (4, .int p4), (5, .int p5)], [.int (0 : Int32), .int p1, .ref 239], (hM C o12.1), 0, 0)) rfl ?_
              obtain ⟨o15, e16, hq⟩ := bsm hq
              refine mB_V (as := [.int p1, .int (0 : Int32)]) odX7_in okX7_owns lk_7_279 rfl (emX7_owns hC e16) (kO_at (md_O hC)) rfl rfl rfl ?_
              show mB _ mX7_in (51, [(0, .ref 239), (1, .int p1), (2, .int p2), (3, .int p3), (4, .int p4), (5, .int p5)], [], (hM C o15), 0, 0)
              refine mB_run odX7_in 9 (g := (62, [(0, .ref 239), (1, .int p1), (2, .int p2), (3, .int p3), (4, .int p4), (5, .int p5)], [.long p5.toInt64, .long p4.toInt64, .long p3.toInt64, .long p2.toInt64, .ref 239], (hM C o15), 0, 0)) rfl ?_
              obtain ⟨o17, e18, hq⟩ := bsm hq
              refine mB_V (as := [.long p2.toInt64, .long p3.toInt64, .long p4.toInt64, .long p5.toInt64]) odX7_in okX7_points lk_7_281 rfl (emX7_points hC e18) (kO_at (md_O hC)) rfl rfl rfl ?_
              show mB _ mX7_in (65, [(0, .ref 239), (1, .int p1), (2, .int p2), (3, .int p3), (4, .int p4), (5, .int p5)], [], (hM C o17), 0, 0)
              refine mB_run odX7_in 2 (g := (67, [(0, .ref 239), (1, .int p1), (2, .int p2), (3, .int p3), (4, .int p4), (5, .int p5)], [.ref 239, .ref 239], (hM C o17), 0, 0)) rfl ?_
              refine r_gR odX7_in rfl rfl (md_5 hC) ?_
              refine mB_run odX7_in 1 (g := (71, [(0, .ref 239), (1, .int p1), (2, .int p2), (3, .int p3), (4, .int p4), (5, .int p5)], [.int p1, .ref 245, .ref 239], (hM C o17), 0, 0)) rfl ?_
              obtain ⟨v19, e20, hq⟩ := bsm hq
              refine r_aI odX7_in rfl (ra_5 hC e20) ?_
              refine mB_run odX7_in 1 (g := (73, [(0, .ref 239), (1, .int p1), (2, .int p2), (3, .int p3), (4, .int p4), (5, .int p5)], [.int (0 : Int32), .int v19, .ref 239], (hM C o17), 0, 0)) rfl ?_
              obtain ⟨o21, e22, hq⟩ := bsm hq
              refine mB_V (as := [.int v19, .int (0 : Int32)]) odX7_in okX7_where lk_7_285 rfl (emX7_where hC e22) (kO_at (md_O hC)) rfl rfl rfl ?_
              show mB _ mX7_in (76, [(0, .ref 239), (1, .int p1), (2, .int p2), (3, .int p3), (4, .int p4), (5, .int p5)], [.int o21.2], (hM C o21.1), 0, 0)
              cases hq
              exact mB_ret odX7_in rfl
            · rw [if_neg c14] at hq
              refine if_eq_F (t := 45) odX7_in rfl rfl c14 ?_
              refine mB_run odX7_in 1 (g := (44, [(0, .ref 239), (1, .int p1), (2, .int p2), (3, .int p3), (4, .int p4), (5, .int p5)], [.int (-1 : Int32)], (hM C o12.1), 0, 0)) rfl ?_
              cases hq
              exact mB_ret odX7_in rfl
          · rw [if_neg c11] at hq
            refine if_ne_T (t := 43) odX7_in rfl rfl c11 ?_
            refine mB_run odX7_in 1 (g := (44, [(0, .ref 239), (1, .int p1), (2, .int p2), (3, .int p3), (4, .int p4), (5, .int p5)], [.int (-1 : Int32)], (hM C o9.1), 0, 0)) rfl ?_
            cases hq
            exact mB_ret odX7_in rfl
        · rw [if_neg c8] at hq
          refine if_ne_T (t := 43) odX7_in rfl rfl c8 ?_
          refine mB_run odX7_in 1 (g := (44, [(0, .ref 239), (1, .int p1), (2, .int p2), (3, .int p3), (4, .int p4), (5, .int p5)], [.int (-1 : Int32)], (hM C o6.1), 0, 0)) rfl ?_
          cases hq
          exact mB_ret odX7_in rfl
def mxX7_isSmall (N : Nat) (p0 : Int32) (h : mS) : Option (mS × Int32) :=
  if p0 < (-1000 : Int32) then (
    some (h, (0 : Int32))) else (
    if (1000 : Int32) < p0 then (
      some (h, (0 : Int32))) else (
      some (h, (1 : Int32))))
set_option maxHeartbeats 4000000 in
set_option maxRecDepth 100000 in
theorem emX7_isSmall {N : Nat} {C : mh} (hC : C.length = 239) {p0 : Int32} {h : mS} {o : (mS × Int32)} (hq : mxX7_isSmall N p0 h = some o) : mC mX7_isSmall [.int p0] (hM C h) (hM C o.1, some (.int o.2)) := by
  refine mC_of okX7_isSmall (Nat.le_of_ble_eq_true rfl) ?_
  unfold mxX7_isSmall at hq
  show mB _ mX7_isSmall (0, [(0, .int p0)], [], (hM C h), 0, 0)
  refine mB_run odX7_isSmall 2 (g := (4, [(0, .int p0)], [.int (-1000 : Int32), .int p0], (hM C h), 0, 0)) rfl ?_
  by_cases c1 : p0 < (-1000 : Int32)
  · rw [if_pos c1] at hq
    refine ic_lt_T (t := 18) odX7_isSmall rfl rfl c1 ?_
    refine mB_run odX7_isSmall 1 (g := (19, [(0, .int p0)], [.int (0 : Int32)], (hM C h), 0, 0)) rfl ?_
    cases hq
    exact mB_ret odX7_isSmall rfl
  · rw [if_neg c1] at hq
    refine ic_lt_F (t := 18) odX7_isSmall rfl rfl c1 ?_
    refine mB_run odX7_isSmall 2 (g := (11, [(0, .int p0)], [.int (1000 : Int32), .int p0], (hM C h), 0, 0)) rfl ?_
    by_cases c2 : (1000 : Int32) < p0
    · rw [if_pos c2] at hq
      refine ic_gt_T (t := 18) odX7_isSmall rfl rfl c2 ?_
      refine mB_run odX7_isSmall 1 (g := (19, [(0, .int p0)], [.int (0 : Int32)], (hM C h), 0, 0)) rfl ?_
      cases hq
      exact mB_ret odX7_isSmall rfl
    · rw [if_neg c2] at hq
      refine ic_gt_F (t := 18) odX7_isSmall rfl rfl c2 ?_
      refine mB_run odX7_isSmall 2 (g := (19, [(0, .int p0)], [.int (1 : Int32)], (hM C h), 0, 0)) rfl ?_
      cases hq
      exact mB_ret odX7_isSmall rfl
def mxX7_side_128 (N : Nat) (rec58 : Int32 → Int32 → Int32 → Int32 → Int32 → Int32 → Int32 → mS → Option (mS × Int32)) (x1 : Int32) (x2 : Int32) (x3 : Int32) (x4 : Int32) (x5 : Int32) (x7 : Int32) (y0 : Int32) (y1 : Int32) (h : mS) : Option (mS × Int32) :=
  rec58 x1 x2 x3 x4 x5 (y1 ||| y0) (x7 + (1 : Int32)) h
set_option maxHeartbeats 4000000 in
set_option maxRecDepth 100000 in
theorem emX7_side_128 {N : Nat} {C : mh} (hC : C.length = 239) {rec58 : Int32 → Int32 → Int32 → Int32 → Int32 → Int32 → Int32 → mS → Option (mS × Int32)} (hrec58 : ∀ (x1 : Int32) (x2 : Int32) (x3 : Int32) (x4 : Int32) (x5 : Int32) (x6 : Int32) (x7 : Int32) (h : mS) {o : (mS × Int32)}, rec58 x1 x2 x3 x4 x5 x6 x7 h = some o → mB (gO mX7_side (hM C o.1, some (.int o.2))) mX7_side (58, [(0, .ref 239), (1, .int x1), (2, .int x2), (3, .int x3), (4, .int x4), (5, .int x5), (6, .int x6), (7, .int x7)], [], (hM C h), 0, 0)) (x1 : Int32) (x2 : Int32) (x3 : Int32) (x4 : Int32) (x5 : Int32) (x7 : Int32) (y0 : Int32) (y1 : Int32) (h : mS) {o : (mS × Int32)} (hq : mxX7_side_128 N rec58 x1 x2 x3 x4 x5 x7 y0 y1 h = some o) : mB (gO mX7_side (hM C o.1, some (.int o.2))) mX7_side (128, [(0, .ref 239), (1, .int x1), (2, .int x2), (3, .int x3), (4, .int x4), (5, .int x5), (7, .int x7)], [.int y0, .int y1], (hM C h), 0, 0) := by
  unfold mxX7_side_128 at hq
  refine mB_run odX7_side 4 (g := (58, [(7, .int (x7 + (1 : Int32))), (6, .int (y1 ||| y0)), (0, .ref 239), (1, .int x1), (2, .int x2), (3, .int x3), (4, .int x4), (5, .int x5)], [], (hM C h), 0, 0)) rfl ?_
  refine mB_lv [2, 3, 4, 5, 6, 7, 1, 0] (lv' := [(0, .ref 239), (1, .int x1), (2, .int x2), (3, .int x3), (4, .int x4), (5, .int x5), (6, .int (y1 ||| y0)), (7, .int (x7 + (1 : Int32)))]) rfl ?_
  exact hrec58 _ _ _ _ _ _ _ _ hq
def mxX7_side_58 (N : Nat) : Nat → Int32 → Int32 → Int32 → Int32 → Int32 → Int32 → Int32 → mS → Option (mS × Int32)
  | 0, _, _, _, _, _, _, _, _ => none
  | n + 1, x1, x2, x3, x4, x5, x6, x7, h =>
    (rA h 4 x1).bind fun v19 =>
    if v19 ≤ x7 then (
      some (h, x6)) else (
      (mxX7_corner N x1 x7 (0 : Int32) h).bind fun o22 =>
      (mxX7_corner N x1 x7 (1 : Int32) o22.1).bind fun o24 =>
      (mxX7_corner N x1 x7 (2 : Int32) o24.1).bind fun o26 =>
      if 0 ≤ ((((x2 * o22.2) + (x3 * o24.2)) + (x4 * o26.2)) - x5) then (
        if ((((x2 * o22.2) + (x3 * o24.2)) + (x4 * o26.2)) - x5) = 0 then (
          mxX7_side_128 N (mxX7_side_58 N n) x1 x2 x3 x4 x5 x7 (2 : Int32) x6 o26.1) else (
          mxX7_side_128 N (mxX7_side_58 N n) x1 x2 x3 x4 x5 x7 (4 : Int32) x6 o26.1)) else (
        mxX7_side_128 N (mxX7_side_58 N n) x1 x2 x3 x4 x5 x7 (1 : Int32) x6 o26.1))
set_option maxHeartbeats 4000000 in
set_option maxRecDepth 100000 in
theorem emX7_side_58 {N : Nat} {C : mh} (hC : C.length = 239) : ∀ (n : Nat) (x1 : Int32) (x2 : Int32) (x3 : Int32) (x4 : Int32) (x5 : Int32) (x6 : Int32) (x7 : Int32) (h : mS) {o : (mS × Int32)}, mxX7_side_58 N n x1 x2 x3 x4 x5 x6 x7 h = some o → mB (gO mX7_side (hM C o.1, some (.int o.2))) mX7_side (58, [(0, .ref 239), (1, .int x1), (2, .int x2), (3, .int x3), (4, .int x4), (5, .int x5), (6, .int x6), (7, .int x7)], [], (hM C h), 0, 0) := by
  intro n
  induction n with
  | zero => intro x1 x2 x3 x4 x5 x6 x7 h o hq; cases hq
  | succ n ih =>
    intro x1 x2 x3 x4 x5 x6 x7 h o hq
    unfold mxX7_side_58 at hq
    refine mB_run odX7_side 2 (g := (61, [(0, .ref 239), (1, .int x1), (2, .int x2), (3, .int x3), (4, .int x4), (5, .int x5), (6, .int x6), (7, .int x7)], [.ref 239, .int x7], (hM C h), 0, 0)) rfl ?_
    refine r_gR odX7_side rfl rfl (md_4 hC) ?_
    refine mB_run odX7_side 1 (g := (65, [(0, .ref 239), (1, .int x1), (2, .int x2), (3, .int x3), (4, .int x4), (5, .int x5), (6, .int x6), (7, .int x7)], [.int x1, .ref 244, .int x7], (hM C h), 0, 0)) rfl ?_
    obtain ⟨v19, e20, hq⟩ := bsm hq
    refine r_aI odX7_side rfl (ra_4 hC e20) ?_
    by_cases c21 : v19 ≤ x7
    · rw [if_pos c21] at hq
      refine ic_ge_T (t := 137) odX7_side rfl rfl c21 ?_
      refine mB_run odX7_side 1 (g := (139, [(0, .ref 239), (1, .int x1), (2, .int x2), (3, .int x3), (4, .int x4), (5, .int x5), (6, .int x6), (7, .int x7)], [.int x6], (hM C h), 0, 0)) rfl ?_
      cases hq
      exact mB_ret odX7_side rfl
    · rw [if_neg c21] at hq
      refine ic_ge_F (t := 137) odX7_side rfl rfl c21 ?_
      refine mB_run odX7_side 5 (g := (75, [(0, .ref 239), (1, .int x1), (2, .int x2), (3, .int x3), (4, .int x4), (5, .int x5), (6, .int x6), (7, .int x7)], [.int (0 : Int32), .int x7, .int x1, .ref 239, .int x2], (hM C h), 0, 0)) rfl ?_
      obtain ⟨o22, e23, hq⟩ := bsm hq
      refine mB_V (as := [.int x1, .int x7, .int (0 : Int32)]) odX7_side okX7_corner lk_7_292 rfl (emX7_corner hC e23) (kO_at (md_O hC)) rfl rfl rfl ?_
      show mB _ mX7_side (78, [(0, .ref 239), (1, .int x1), (2, .int x2), (3, .int x3), (4, .int x4), (5, .int x5), (6, .int x6), (7, .int x7)], [.int o22.2, .int x2], (hM C o22.1), 0, 0)
      refine mB_run odX7_side 6 (g := (85, [(0, .ref 239), (1, .int x1), (2, .int x2), (3, .int x3), (4, .int x4), (5, .int x5), (6, .int x6), (7, .int x7)], [.int (1 : Int32), .int x7, .int x1, .ref 239, .int x3, .int (x2 * o22.2)], (hM C o22.1), 0, 0)) rfl ?_
      obtain ⟨o24, e25, hq⟩ := bsm hq
      refine mB_V (as := [.int x1, .int x7, .int (1 : Int32)]) odX7_side okX7_corner lk_7_292 rfl (emX7_corner hC e25) (kO_at (md_O hC)) rfl rfl rfl ?_
      show mB _ mX7_side (88, [(0, .ref 239), (1, .int x1), (2, .int x2), (3, .int x3), (4, .int x4), (5, .int x5), (6, .int x6), (7, .int x7)], [.int o24.2, .int x3, .int (x2 * o22.2)], (hM C o24.1), 0, 0)
      refine mB_run odX7_side 7 (g := (97, [(0, .ref 239), (1, .int x1), (2, .int x2), (3, .int x3), (4, .int x4), (5, .int x5), (6, .int x6), (7, .int x7)], [.int (2 : Int32), .int x7, .int x1, .ref 239, .int x4, .int ((x2 * o22.2) + (x3 * o24.2))], (hM C o24.1), 0, 0)) rfl ?_
      obtain ⟨o26, e27, hq⟩ := bsm hq
      refine mB_V (as := [.int x1, .int x7, .int (2 : Int32)]) odX7_side okX7_corner lk_7_292 rfl (emX7_corner hC e27) (kO_at (md_O hC)) rfl rfl rfl ?_
      show mB _ mX7_side (100, [(0, .ref 239), (1, .int x1), (2, .int x2), (3, .int x3), (4, .int x4), (5, .int x5), (6, .int x6), (7, .int x7)], [.int o26.2, .int x4, .int ((x2 * o22.2) + (x3 * o24.2))], (hM C o26.1), 0, 0)
      refine mB_run odX7_side 7 (g := (111, [(8, .int ((((x2 * o22.2) + (x3 * o24.2)) + (x4 * o26.2)) - x5)), (0, .ref 239), (1, .int x1), (2, .int x2), (3, .int x3), (4, .int x4), (5, .int x5), (6, .int x6), (7, .int x7)], [.int ((((x2 * o22.2) + (x3 * o24.2)) + (x4 * o26.2)) - x5), .int x6], (hM C o26.1), 0, 0)) rfl ?_
      by_cases c28 : 0 ≤ ((((x2 * o22.2) + (x3 * o24.2)) + (x4 * o26.2)) - x5)
      · rw [if_pos c28] at hq
        refine if_ge_T (t := 118) odX7_side rfl rfl c28 ?_
        refine mB_run odX7_side 1 (g := (120, [(8, .int ((((x2 * o22.2) + (x3 * o24.2)) + (x4 * o26.2)) - x5)), (0, .ref 239), (1, .int x1), (2, .int x2), (3, .int x3), (4, .int x4), (5, .int x5), (6, .int x6), (7, .int x7)], [.int ((((x2 * o22.2) + (x3 * o24.2)) + (x4 * o26.2)) - x5), .int x6], (hM C o26.1), 0, 0)) rfl ?_
        by_cases c29 : ((((x2 * o22.2) + (x3 * o24.2)) + (x4 * o26.2)) - x5) = 0
        · rw [if_pos c29] at hq
          refine if_ne_F (t := 127) odX7_side rfl rfl c29 ?_
          refine mB_run odX7_side 2 (g := (128, [(8, .int ((((x2 * o22.2) + (x3 * o24.2)) + (x4 * o26.2)) - x5)), (0, .ref 239), (1, .int x1), (2, .int x2), (3, .int x3), (4, .int x4), (5, .int x5), (6, .int x6), (7, .int x7)], [.int (2 : Int32), .int x6], (hM C o26.1), 0, 0)) rfl ?_
          refine mB_lv [1, 2, 3, 4, 5, 6, 8] (lv' := [(0, .ref 239), (1, .int x1), (2, .int x2), (3, .int x3), (4, .int x4), (5, .int x5), (7, .int x7)]) rfl ?_
          exact emX7_side_128 hC ih _ _ _ _ _ _ _ _ _ hq
        · rw [if_neg c29] at hq
          refine if_ne_T (t := 127) odX7_side rfl rfl c29 ?_
          refine mB_run odX7_side 1 (g := (128, [(8, .int ((((x2 * o22.2) + (x3 * o24.2)) + (x4 * o26.2)) - x5)), (0, .ref 239), (1, .int x1), (2, .int x2), (3, .int x3), (4, .int x4), (5, .int x5), (6, .int x6), (7, .int x7)], [.int (4 : Int32), .int x6], (hM C o26.1), 0, 0)) rfl ?_
          refine mB_lv [1, 2, 3, 4, 5, 6, 8] (lv' := [(0, .ref 239), (1, .int x1), (2, .int x2), (3, .int x3), (4, .int x4), (5, .int x5), (7, .int x7)]) rfl ?_
          exact emX7_side_128 hC ih _ _ _ _ _ _ _ _ _ hq
      · rw [if_neg c28] at hq
        refine if_ge_F (t := 118) odX7_side rfl rfl c28 ?_
        refine mB_run odX7_side 2 (g := (128, [(8, .int ((((x2 * o22.2) + (x3 * o24.2)) + (x4 * o26.2)) - x5)), (0, .ref 239), (1, .int x1), (2, .int x2), (3, .int x3), (4, .int x4), (5, .int x5), (6, .int x6), (7, .int x7)], [.int (1 : Int32), .int x6], (hM C o26.1), 0, 0)) rfl ?_
        refine mB_lv [1, 2, 3, 4, 5, 6, 8] (lv' := [(0, .ref 239), (1, .int x1), (2, .int x2), (3, .int x3), (4, .int x4), (5, .int x5), (7, .int x7)]) rfl ?_
        exact emX7_side_128 hC ih _ _ _ _ _ _ _ _ _ hq
def mxX7_side_52 (N : Nat) (x1 : Int32) (x2 : Int32) (x3 : Int32) (x4 : Int32) (x5 : Int32) (h : mS) : Option (mS × Int32) :=
  mxX7_side_58 N N x1 x2 x3 x4 x5 (0 : Int32) (0 : Int32) h
set_option maxHeartbeats 4000000 in
set_option maxRecDepth 100000 in
theorem emX7_side_52 {N : Nat} {C : mh} (hC : C.length = 239) (x1 : Int32) (x2 : Int32) (x3 : Int32) (x4 : Int32) (x5 : Int32) (h : mS) {o : (mS × Int32)} (hq : mxX7_side_52 N x1 x2 x3 x4 x5 h = some o) : mB (gO mX7_side (hM C o.1, some (.int o.2))) mX7_side (52, [(0, .ref 239), (1, .int x1), (2, .int x2), (3, .int x3), (4, .int x4), (5, .int x5)], [], (hM C h), 0, 0) := by
  unfold mxX7_side_52 at hq
  refine mB_run odX7_side 4 (g := (58, [(7, .int (0 : Int32)), (6, .int (0 : Int32)), (0, .ref 239), (1, .int x1), (2, .int x2), (3, .int x3), (4, .int x4), (5, .int x5)], [], (hM C h), 0, 0)) rfl ?_
  refine mB_lv [2, 3, 4, 5, 6, 7, 1, 0] (lv' := [(0, .ref 239), (1, .int x1), (2, .int x2), (3, .int x3), (4, .int x4), (5, .int x5), (6, .int (0 : Int32)), (7, .int (0 : Int32))]) rfl ?_
  exact emX7_side_58 hC N _ _ _ _ _ _ _ _ hq
def mxX7_side (N : Nat) (p1 : Int32) (p2 : Int32) (p3 : Int32) (p4 : Int32) (p5 : Int32) (h : mS) : Option (mS × Int32) :=
  (mxX7_isSolid N p1 h).bind fun o1 =>
  if o1.2 = 0 then (
    some (o1.1, (-1 : Int32))) else (
    (mxX7_isSmall N p2 o1.1).bind fun o4 =>
    if o4.2 = 0 then (
      some (o4.1, (-1 : Int32))) else (
      (mxX7_isSmall N p3 o4.1).bind fun o7 =>
      if o7.2 = 0 then (
        some (o7.1, (-1 : Int32))) else (
        (mxX7_isSmall N p4 o7.1).bind fun o10 =>
        if o10.2 = 0 then (
          some (o10.1, (-1 : Int32))) else (
          (mxX7_isFar N p5 o10.1).bind fun o13 =>
          if o13.2 = 0 then (
            if p2 = 0 then (
              if p3 = 0 then (
                if p4 = 0 then (
                  some (o13.1, (-1 : Int32))) else (
                  mxX7_side_52 N p1 p2 p3 p4 p5 o13.1)) else (
                mxX7_side_52 N p1 p2 p3 p4 p5 o13.1)) else (
              mxX7_side_52 N p1 p2 p3 p4 p5 o13.1)) else (
            some (o13.1, (-1 : Int32)))))))
set_option maxHeartbeats 4000000 in
set_option maxRecDepth 100000 in
theorem emX7_side {N : Nat} {C : mh} (hC : C.length = 239) {p1 : Int32} {p2 : Int32} {p3 : Int32} {p4 : Int32} {p5 : Int32} {h : mS} {o : (mS × Int32)} (hq : mxX7_side N p1 p2 p3 p4 p5 h = some o) : mC mX7_side [.ref 239, .int p1, .int p2, .int p3, .int p4, .int p5] (hM C h) (hM C o.1, some (.int o.2)) := by
  refine mC_of okX7_side (Nat.le_of_ble_eq_true rfl) ?_
  unfold mxX7_side at hq
  show mB _ mX7_side (0, [(0, .ref 239), (1, .int p1), (2, .int p2), (3, .int p3), (4, .int p4), (5, .int p5)], [], (hM C h), 0, 0)
  refine mB_run odX7_side 1 (g := (1, [(0, .ref 239), (1, .int p1), (2, .int p2), (3, .int p3), (4, .int p4), (5, .int p5)], [.int p1], (hM C h), 0, 0)) rfl ?_
  obtain ⟨o1, e2, hq⟩ := bsm hq
  refine mB_S (as := [.int p1]) odX7_side okX7_isSolid lk_7_133 rfl (emX7_isSolid hC e2) rfl rfl rfl ?_
  show mB _ mX7_side (4, [(0, .ref 239), (1, .int p1), (2, .int p2), (3, .int p3), (4, .int p4), (5, .int p5)], [.int o1.2], (hM C o1.1), 0, 0)
  by_cases c3 : o1.2 = 0
  · rw [if_pos c3] at hq
    refine if_eq_T (t := 50) odX7_side rfl rfl c3 ?_
    refine mB_run odX7_side 1 (g := (51, [(0, .ref 239), (1, .int p1), (2, .int p2), (3, .int p3), (4, .int p4), (5, .int p5)], [.int (-1 : Int32)], (hM C o1.1), 0, 0)) rfl ?_
    cases hq
    exact mB_ret odX7_side rfl
  · rw [if_neg c3] at hq
    refine if_eq_F (t := 50) odX7_side rfl rfl c3 ?_
    refine mB_run odX7_side 1 (g := (8, [(0, .ref 239), (1, .int p1), (2, .int p2), (3, .int p3), (4, .int p4), (5, .int p5)], [.int p2], (hM C o1.1), 0, 0)) rfl ?_
    obtain ⟨o4, e5, hq⟩ := bsm hq
    refine mB_S (as := [.int p2]) odX7_side okX7_isSmall lk_7_289 rfl (emX7_isSmall hC e5) rfl rfl rfl ?_
    show mB _ mX7_side (11, [(0, .ref 239), (1, .int p1), (2, .int p2), (3, .int p3), (4, .int p4), (5, .int p5)], [.int o4.2], (hM C o4.1), 0, 0)
    by_cases c6 : o4.2 = 0
    · rw [if_pos c6] at hq
      refine if_eq_T (t := 50) odX7_side rfl rfl c6 ?_
      refine mB_run odX7_side 1 (g := (51, [(0, .ref 239), (1, .int p1), (2, .int p2), (3, .int p3), (4, .int p4), (5, .int p5)], [.int (-1 : Int32)], (hM C o4.1), 0, 0)) rfl ?_
      cases hq
      exact mB_ret odX7_side rfl
    · rw [if_neg c6] at hq
      refine if_eq_F (t := 50) odX7_side rfl rfl c6 ?_
      refine mB_run odX7_side 1 (g := (15, [(0, .ref 239), (1, .int p1), (2, .int p2), (3, .int p3), (4, .int p4), (5, .int p5)], [.int p3], (hM C o4.1), 0, 0)) rfl ?_
      obtain ⟨o7, e8, hq⟩ := bsm hq
      refine mB_S (as := [.int p3]) odX7_side okX7_isSmall lk_7_289 rfl (emX7_isSmall hC e8) rfl rfl rfl ?_
      show mB _ mX7_side (18, [(0, .ref 239), (1, .int p1), (2, .int p2), (3, .int p3), (4, .int p4), (5, .int p5)], [.int o7.2], (hM C o7.1), 0, 0)
      by_cases c9 : o7.2 = 0
      · rw [if_pos c9] at hq
        refine if_eq_T (t := 50) odX7_side rfl rfl c9 ?_
        refine mB_run odX7_side 1 (g := (51, [(0, .ref 239), (1, .int p1), (2, .int p2), (3, .int p3), (4, .int p4), (5, .int p5)], [.int (-1 : Int32)], (hM C o7.1), 0, 0)) rfl ?_
        cases hq
        exact mB_ret odX7_side rfl
      · rw [if_neg c9] at hq
        refine if_eq_F (t := 50) odX7_side rfl rfl c9 ?_
        refine mB_run odX7_side 1 (g := (23, [(0, .ref 239), (1, .int p1), (2, .int p2), (3, .int p3), (4, .int p4), (5, .int p5)], [.int p4], (hM C o7.1), 0, 0)) rfl ?_
        obtain ⟨o10, e11, hq⟩ := bsm hq
        refine mB_S (as := [.int p4]) odX7_side okX7_isSmall lk_7_289 rfl (emX7_isSmall hC e11) rfl rfl rfl ?_
        show mB _ mX7_side (26, [(0, .ref 239), (1, .int p1), (2, .int p2), (3, .int p3), (4, .int p4), (5, .int p5)], [.int o10.2], (hM C o10.1), 0, 0)
        by_cases c12 : o10.2 = 0
        · rw [if_pos c12] at hq
          refine if_eq_T (t := 50) odX7_side rfl rfl c12 ?_
          refine mB_run odX7_side 1 (g := (51, [(0, .ref 239), (1, .int p1), (2, .int p2), (3, .int p3), (4, .int p4), (5, .int p5)], [.int (-1 : Int32)], (hM C o10.1), 0, 0)) rfl ?_
          cases hq
          exact mB_ret odX7_side rfl
        · rw [if_neg c12] at hq
          refine if_eq_F (t := 50) odX7_side rfl rfl c12 ?_
          refine mB_run odX7_side 1 (g := (31, [(0, .ref 239), (1, .int p1), (2, .int p2), (3, .int p3), (4, .int p4), (5, .int p5)], [.int p5], (hM C o10.1), 0, 0)) rfl ?_
          obtain ⟨o13, e14, hq⟩ := bsm hq
          refine mB_S (as := [.int p5]) odX7_side okX7_isFar lk_7_276 rfl (emX7_isFar hC e14) rfl rfl rfl ?_
          show mB _ mX7_side (34, [(0, .ref 239), (1, .int p1), (2, .int p2), (3, .int p3), (4, .int p4), (5, .int p5)], [.int o13.2], (hM C o13.1), 0, 0)
          by_cases c15 : o13.2 = 0
          · rw [if_pos c15] at hq
            refine if_ne_F (t := 50) odX7_side rfl rfl c15 ?_
            refine mB_run odX7_side 1 (g := (38, [(0, .ref 239), (1, .int p1), (2, .int p2), (3, .int p3), (4, .int p4), (5, .int p5)], [.int p2], (hM C o13.1), 0, 0)) rfl ?_
            by_cases c16 : p2 = 0
            · rw [if_pos c16] at hq
              refine if_ne_F (t := 52) odX7_side rfl rfl c16 ?_
              refine mB_run odX7_side 1 (g := (42, [(0, .ref 239), (1, .int p1), (2, .int p2), (3, .int p3), (4, .int p4), (5, .int p5)], [.int p3], (hM C o13.1), 0, 0)) rfl ?_
              by_cases c17 : p3 = 0
              · rw [if_pos c17] at hq
                refine if_ne_F (t := 52) odX7_side rfl rfl c17 ?_
                refine mB_run odX7_side 1 (g := (47, [(0, .ref 239), (1, .int p1), (2, .int p2), (3, .int p3), (4, .int p4), (5, .int p5)], [.int p4], (hM C o13.1), 0, 0)) rfl ?_
                by_cases c18 : p4 = 0
                · rw [if_pos c18] at hq
                  refine if_ne_F (t := 52) odX7_side rfl rfl c18 ?_
                  refine mB_run odX7_side 1 (g := (51, [(0, .ref 239), (1, .int p1), (2, .int p2), (3, .int p3), (4, .int p4), (5, .int p5)], [.int (-1 : Int32)], (hM C o13.1), 0, 0)) rfl ?_
                  cases hq
                  exact mB_ret odX7_side rfl
                · rw [if_neg c18] at hq
                  refine if_ne_T (t := 52) odX7_side rfl rfl c18 ?_
                  refine mB_lv [0, 1, 2, 3, 4, 5] (lv' := [(0, .ref 239), (1, .int p1), (2, .int p2), (3, .int p3), (4, .int p4), (5, .int p5)]) rfl ?_
                  exact emX7_side_52 hC _ _ _ _ _ _ hq
              · rw [if_neg c17] at hq
                refine if_ne_T (t := 52) odX7_side rfl rfl c17 ?_
                refine mB_lv [0, 1, 2, 3, 4, 5] (lv' := [(0, .ref 239), (1, .int p1), (2, .int p2), (3, .int p3), (4, .int p4), (5, .int p5)]) rfl ?_
                exact emX7_side_52 hC _ _ _ _ _ _ hq
            · rw [if_neg c16] at hq
              refine if_ne_T (t := 52) odX7_side rfl rfl c16 ?_
              refine mB_lv [0, 1, 2, 3, 4, 5] (lv' := [(0, .ref 239), (1, .int p1), (2, .int p2), (3, .int p3), (4, .int p4), (5, .int p5)]) rfl ?_
              exact emX7_side_52 hC _ _ _ _ _ _ hq
          · rw [if_neg c15] at hq
            refine if_ne_T (t := 50) odX7_side rfl rfl c15 ?_
            refine mB_run odX7_side 1 (g := (51, [(0, .ref 239), (1, .int p1), (2, .int p2), (3, .int p3), (4, .int p4), (5, .int p5)], [.int (-1 : Int32)], (hM C o13.1), 0, 0)) rfl ?_
            cases hq
            exact mB_ret odX7_side rfl
def mxX7_adds_34 (N : Nat) (rec22 : Int32 → mS → Option mS) : Nat → Int32 → Int32 → mS → Option mS
  | 0, _, _, _ => none
  | n + 1, x1, x2, h =>
    (rA h 32 x1).bind fun v12 =>
    if v12 ≤ (x2 + (1 : Int32)) then (
      rec22 (x1 + (1 : Int32)) h) else (
      (rA h 33 ((25 : Int32) * x1)).bind fun v15 =>
      (rA h 33 (((25 : Int32) * x1) + x2)).bind fun v17 =>
      (rA h 33 ((((25 : Int32) * x1) + x2) + (1 : Int32))).bind fun v19 =>
      (rG h 16 v15).bind fun v21 =>
      (rG h 17 v17).bind fun v23 =>
      (rG h 18 v19).bind fun v25 =>
      (rG h 18 v17).bind fun v27 =>
      (rG h 17 v19).bind fun v29 =>
      (rG h 17 v15).bind fun v31 =>
      (rG h 18 v17).bind fun v33 =>
      (rG h 16 v19).bind fun v35 =>
      (rG h 16 v17).bind fun v37 =>
      (rG h 18 v19).bind fun v39 =>
      (rG h 18 v15).bind fun v41 =>
      (rG h 16 v17).bind fun v43 =>
      (rG h 17 v19).bind fun v45 =>
      (rG h 17 v17).bind fun v47 =>
      (rG h 16 v19).bind fun v49 =>
      (some (pJ h 47 ((h.2.1 47) + (((v21 * ((v23 * v25) - (v27 * v29))) + (v31 * ((v33 * v35) - (v37 * v39)))) + (v41 * ((v43 * v45) - (v47 * v49))))))).bind fun s51 =>
      (rG s51 16 v15).bind fun v53 =>
      (rG s51 16 v17).bind fun v55 =>
      (rG s51 16 v19).bind fun v57 =>
      (some (pJ s51 48 ((s51.2.1 48) + ((((v21 * ((v23 * v25) - (v27 * v29))) + (v31 * ((v33 * v35) - (v37 * v39)))) + (v41 * ((v43 * v45) - (v47 * v49)))) * ((v53 + v55) + v57))))).bind fun s59 =>
      (rG s59 17 v15).bind fun v61 =>
      (rG s59 17 v17).bind fun v63 =>
      (rG s59 17 v19).bind fun v65 =>
      (some (pJ s59 49 ((s59.2.1 49) + ((((v21 * ((v23 * v25) - (v27 * v29))) + (v31 * ((v33 * v35) - (v37 * v39)))) + (v41 * ((v43 * v45) - (v47 * v49)))) * ((v61 + v63) + v65))))).bind fun s67 =>
      (rG s67 18 v15).bind fun v69 =>
      (rG s67 18 v17).bind fun v71 =>
      (rG s67 18 v19).bind fun v73 =>
      (some (pJ s67 50 ((s67.2.1 50) + ((((v21 * ((v23 * v25) - (v27 * v29))) + (v31 * ((v33 * v35) - (v37 * v39)))) + (v41 * ((v43 * v45) - (v47 * v49)))) * ((v69 + v71) + v73))))).bind fun s75 =>
      mxX7_adds_34 N rec22 n x1 (x2 + (1 : Int32)) s75)
set_option maxHeartbeats 4000000 in
set_option maxRecDepth 100000 in
theorem emX7_adds_34 {N : Nat} {C : mh} (hC : C.length = 239) {rec22 : Int32 → mS → Option mS} (hrec22 : ∀ (x1 : Int32) (h : mS) {o : mS}, rec22 x1 h = some o → mB (gO mX7_adds (hM C o, none)) mX7_adds (22, [(0, .ref 239), (1, .int x1)], [], (hM C h), 0, 0)) : ∀ (n : Nat) (x1 : Int32) (x2 : Int32) (h : mS) {o : mS}, mxX7_adds_34 N rec22 n x1 x2 h = some o → mB (gO mX7_adds (hM C o, none)) mX7_adds (34, [(0, .ref 239), (1, .int x1), (2, .int x2)], [], (hM C h), 0, 0) := by
  intro n
  induction n with
  | zero => intro x1 x2 h o hq; cases hq
  | succ n ih =>
    intro x1 x2 h o hq
    unfold mxX7_adds_34 at hq
    refine mB_run odX7_adds 4 (g := (38, [(0, .ref 239), (1, .int x1), (2, .int x2)], [.ref 239, .int (x2 + (1 : Int32))], (hM C h), 0, 0)) rfl ?_
    refine r_gR odX7_adds rfl rfl (md_32 hC) ?_
    refine mB_run odX7_adds 1 (g := (42, [(0, .ref 239), (1, .int x1), (2, .int x2)], [.int x1, .ref 265, .int (x2 + (1 : Int32))], (hM C h), 0, 0)) rfl ?_
    obtain ⟨v12, e13, hq⟩ := bsm hq
    refine r_aI odX7_adds rfl (ra_32 hC e13) ?_
    by_cases c14 : v12 ≤ (x2 + (1 : Int32))
    · rw [if_pos c14] at hq
      refine ic_ge_T (t := 321) odX7_adds rfl rfl c14 ?_
      refine mB_run odX7_adds 2 (g := (22, [(1, .int (x1 + (1 : Int32))), (0, .ref 239), (2, .int x2)], [], (hM C h), 0, 0)) rfl ?_
      refine mB_lv [1, 0] (lv' := [(0, .ref 239), (1, .int (x1 + (1 : Int32)))]) rfl ?_
      exact hrec22 _ _ hq
    · rw [if_neg c14] at hq
      refine ic_ge_F (t := 321) odX7_adds rfl rfl c14 ?_
      refine mB_run odX7_adds 1 (g := (47, [(0, .ref 239), (1, .int x1), (2, .int x2)], [.ref 239], (hM C h), 0, 0)) rfl ?_
      refine r_gR odX7_adds rfl rfl (md_33 hC) ?_
      refine mB_run odX7_adds 3 (g := (54, [(0, .ref 239), (1, .int x1), (2, .int x2)], [.int ((25 : Int32) * x1), .ref 266], (hM C h), 0, 0)) rfl ?_
      obtain ⟨v15, e16, hq⟩ := bsm hq
      refine r_aI odX7_adds rfl (ra_33 hC e16) ?_
      refine mB_run odX7_adds 2 (g := (57, [(3, .int v15), (0, .ref 239), (1, .int x1), (2, .int x2)], [.ref 239], (hM C h), 0, 0)) rfl ?_
      refine r_gR odX7_adds rfl rfl (md_33 hC) ?_
      refine mB_run odX7_adds 5 (g := (66, [(3, .int v15), (0, .ref 239), (1, .int x1), (2, .int x2)], [.int (((25 : Int32) * x1) + x2), .ref 266], (hM C h), 0, 0)) rfl ?_
      obtain ⟨v17, e18, hq⟩ := bsm hq
      refine r_aI odX7_adds rfl (ra_33 hC e18) ?_
      refine mB_run odX7_adds 2 (g := (70, [(4, .int v17), (3, .int v15), (0, .ref 239), (1, .int x1), (2, .int x2)], [.ref 239], (hM C h), 0, 0)) rfl ?_
      refine r_gR odX7_adds rfl rfl (md_33 hC) ?_
      refine mB_run odX7_adds 7 (g := (81, [(4, .int v17), (3, .int v15), (0, .ref 239), (1, .int x1), (2, .int x2)], [.int ((((25 : Int32) * x1) + x2) + (1 : Int32)), .ref 266], (hM C h), 0, 0)) rfl ?_
      obtain ⟨v19, e20, hq⟩ := bsm hq
      refine r_aI odX7_adds rfl (ra_33 hC e20) ?_
      refine mB_run odX7_adds 2 (g := (85, [(5, .int v19), (4, .int v17), (3, .int v15), (0, .ref 239), (1, .int x1), (2, .int x2)], [.ref 239], (hM C h), 0, 0)) rfl ?_
      refine r_gR odX7_adds rfl rfl (md_16 hC) ?_
      refine mB_run odX7_adds 1 (g := (89, [(5, .int v19), (4, .int v17), (3, .int v15), (0, .ref 239), (1, .int x1), (2, .int x2)], [.int v15, .ref 254], (hM C h), 0, 0)) rfl ?_
      obtain ⟨v21, e22, hq⟩ := bsm hq
      refine r_aJ odX7_adds rfl (ra_16 hC e22) ?_
      refine mB_run odX7_adds 1 (g := (91, [(5, .int v19), (4, .int v17), (3, .int v15), (0, .ref 239), (1, .int x1), (2, .int x2)], [.ref 239, .long v21], (hM C h), 0, 0)) rfl ?_
      refine r_gR odX7_adds rfl rfl (md_17 hC) ?_
      refine mB_run odX7_adds 1 (g := (96, [(5, .int v19), (4, .int v17), (3, .int v15), (0, .ref 239), (1, .int x1), (2, .int x2)], [.int v17, .ref 255, .long v21], (hM C h), 0, 0)) rfl ?_
      obtain ⟨v23, e24, hq⟩ := bsm hq
      refine r_aJ odX7_adds rfl (ra_17 hC e24) ?_
      refine mB_run odX7_adds 1 (g := (98, [(5, .int v19), (4, .int v17), (3, .int v15), (0, .ref 239), (1, .int x1), (2, .int x2)], [.ref 239, .long v23, .long v21], (hM C h), 0, 0)) rfl ?_
      refine r_gR odX7_adds rfl rfl (md_18 hC) ?_
      refine mB_run odX7_adds 1 (g := (103, [(5, .int v19), (4, .int v17), (3, .int v15), (0, .ref 239), (1, .int x1), (2, .int x2)], [.int v19, .ref 256, .long v23, .long v21], (hM C h), 0, 0)) rfl ?_
      obtain ⟨v25, e26, hq⟩ := bsm hq
      refine r_aJ odX7_adds rfl (ra_18 hC e26) ?_
      refine mB_run odX7_adds 2 (g := (106, [(5, .int v19), (4, .int v17), (3, .int v15), (0, .ref 239), (1, .int x1), (2, .int x2)], [.ref 239, .long (v23 * v25), .long v21], (hM C h), 0, 0)) rfl ?_
      refine r_gR odX7_adds rfl rfl (md_18 hC) ?_
      refine mB_run odX7_adds 1 (g := (111, [(5, .int v19), (4, .int v17), (3, .int v15), (0, .ref 239), (1, .int x1), (2, .int x2)], [.int v17, .ref 256, .long (v23 * v25), .long v21], (hM C h), 0, 0)) rfl ?_
      obtain ⟨v27, e28, hq⟩ := bsm hq
      refine r_aJ odX7_adds rfl (ra_18 hC e28) ?_
      refine mB_run odX7_adds 1 (g := (113, [(5, .int v19), (4, .int v17), (3, .int v15), (0, .ref 239), (1, .int x1), (2, .int x2)], [.ref 239, .long v27, .long (v23 * v25), .long v21], (hM C h), 0, 0)) rfl ?_
      refine r_gR odX7_adds rfl rfl (md_17 hC) ?_
      refine mB_run odX7_adds 1 (g := (118, [(5, .int v19), (4, .int v17), (3, .int v15), (0, .ref 239), (1, .int x1), (2, .int x2)], [.int v19, .ref 255, .long v27, .long (v23 * v25), .long v21], (hM C h), 0, 0)) rfl ?_
      obtain ⟨v29, e30, hq⟩ := bsm hq
      refine r_aJ odX7_adds rfl (ra_17 hC e30) ?_
      refine mB_run odX7_adds 4 (g := (123, [(5, .int v19), (4, .int v17), (3, .int v15), (0, .ref 239), (1, .int x1), (2, .int x2)], [.ref 239, .long (v21 * ((v23 * v25) - (v27 * v29)))], (hM C h), 0, 0)) rfl ?_
      refine r_gR odX7_adds rfl rfl (md_17 hC) ?_
      refine mB_run odX7_adds 1 (g := (127, [(5, .int v19), (4, .int v17), (3, .int v15), (0, .ref 239), (1, .int x1), (2, .int x2)], [.int v15, .ref 255, .long (v21 * ((v23 * v25) - (v27 * v29)))], (hM C h), 0, 0)) rfl ?_
      obtain ⟨v31, e32, hq⟩ := bsm hq
      refine r_aJ odX7_adds rfl (ra_17 hC e32) ?_
      refine mB_run odX7_adds 1 (g := (129, [(5, .int v19), (4, .int v17), (3, .int v15), (0, .ref 239), (1, .int x1), (2, .int x2)], [.ref 239, .long v31, .long (v21 * ((v23 * v25) - (v27 * v29)))], (hM C h), 0, 0)) rfl ?_
      refine r_gR odX7_adds rfl rfl (md_18 hC) ?_
      refine mB_run odX7_adds 1 (g := (134, [(5, .int v19), (4, .int v17), (3, .int v15), (0, .ref 239), (1, .int x1), (2, .int x2)], [.int v17, .ref 256, .long v31, .long (v21 * ((v23 * v25) - (v27 * v29)))], (hM C h), 0, 0)) rfl ?_
      obtain ⟨v33, e34, hq⟩ := bsm hq
      refine r_aJ odX7_adds rfl (ra_18 hC e34) ?_
      refine mB_run odX7_adds 1 (g := (136, [(5, .int v19), (4, .int v17), (3, .int v15), (0, .ref 239), (1, .int x1), (2, .int x2)], [.ref 239, .long v33, .long v31, .long (v21 * ((v23 * v25) - (v27 * v29)))], (hM C h), 0, 0)) rfl ?_
      refine r_gR odX7_adds rfl rfl (md_16 hC) ?_
      refine mB_run odX7_adds 1 (g := (141, [(5, .int v19), (4, .int v17), (3, .int v15), (0, .ref 239), (1, .int x1), (2, .int x2)], [.int v19, .ref 254, .long v33, .long v31, .long (v21 * ((v23 * v25) - (v27 * v29)))], (hM C h), 0, 0)) rfl ?_
      obtain ⟨v35, e36, hq⟩ := bsm hq
      refine r_aJ odX7_adds rfl (ra_16 hC e36) ?_
      refine mB_run odX7_adds 2 (g := (144, [(5, .int v19), (4, .int v17), (3, .int v15), (0, .ref 239), (1, .int x1), (2, .int x2)], [.ref 239, .long (v33 * v35), .long v31, .long (v21 * ((v23 * v25) - (v27 * v29)))], (hM C h), 0, 0)) rfl ?_
      refine r_gR odX7_adds rfl rfl (md_16 hC) ?_
      refine mB_run odX7_adds 1 (g := (149, [(5, .int v19), (4, .int v17), (3, .int v15), (0, .ref 239), (1, .int x1), (2, .int x2)], [.int v17, .ref 254, .long (v33 * v35), .long v31, .long (v21 * ((v23 * v25) - (v27 * v29)))], (hM C h), 0, 0)) rfl ?_
      obtain ⟨v37, e38, hq⟩ := bsm hq
      refine r_aJ odX7_adds rfl (ra_16 hC e38) ?_
      refine mB_run odX7_adds 1 (g := (151, [(5, .int v19), (4, .int v17), (3, .int v15), (0, .ref 239), (1, .int x1), (2, .int x2)], [.ref 239, .long v37, .long (v33 * v35), .long v31, .long (v21 * ((v23 * v25) - (v27 * v29)))], (hM C h), 0, 0)) rfl ?_
      refine r_gR odX7_adds rfl rfl (md_18 hC) ?_
      refine mB_run odX7_adds 1 (g := (156, [(5, .int v19), (4, .int v17), (3, .int v15), (0, .ref 239), (1, .int x1), (2, .int x2)], [.int v19, .ref 256, .long v37, .long (v33 * v35), .long v31, .long (v21 * ((v23 * v25) - (v27 * v29)))], (hM C h), 0, 0)) rfl ?_
      obtain ⟨v39, e40, hq⟩ := bsm hq
      refine r_aJ odX7_adds rfl (ra_18 hC e40) ?_
      refine mB_run odX7_adds 5 (g := (162, [(5, .int v19), (4, .int v17), (3, .int v15), (0, .ref 239), (1, .int x1), (2, .int x2)], [.ref 239, .long ((v21 * ((v23 * v25) - (v27 * v29))) + (v31 * ((v33 * v35) - (v37 * v39))))], (hM C h), 0, 0)) rfl ?_
      refine r_gR odX7_adds rfl rfl (md_18 hC) ?_
      refine mB_run odX7_adds 1 (g := (166, [(5, .int v19), (4, .int v17), (3, .int v15), (0, .ref 239), (1, .int x1), (2, .int x2)], [.int v15, .ref 256, .long ((v21 * ((v23 * v25) - (v27 * v29))) + (v31 * ((v33 * v35) - (v37 * v39))))], (hM C h), 0, 0)) rfl ?_
      obtain ⟨v41, e42, hq⟩ := bsm hq
      refine r_aJ odX7_adds rfl (ra_18 hC e42) ?_
      refine mB_run odX7_adds 1 (g := (168, [(5, .int v19), (4, .int v17), (3, .int v15), (0, .ref 239), (1, .int x1), (2, .int x2)], [.ref 239, .long v41, .long ((v21 * ((v23 * v25) - (v27 * v29))) + (v31 * ((v33 * v35) - (v37 * v39))))], (hM C h), 0, 0)) rfl ?_
      refine r_gR odX7_adds rfl rfl (md_16 hC) ?_
      refine mB_run odX7_adds 1 (g := (173, [(5, .int v19), (4, .int v17), (3, .int v15), (0, .ref 239), (1, .int x1), (2, .int x2)], [.int v17, .ref 254, .long v41, .long ((v21 * ((v23 * v25) - (v27 * v29))) + (v31 * ((v33 * v35) - (v37 * v39))))], (hM C h), 0, 0)) rfl ?_
      obtain ⟨v43, e44, hq⟩ := bsm hq
      refine r_aJ odX7_adds rfl (ra_16 hC e44) ?_
      refine mB_run odX7_adds 1 (g := (175, [(5, .int v19), (4, .int v17), (3, .int v15), (0, .ref 239), (1, .int x1), (2, .int x2)], [.ref 239, .long v43, .long v41, .long ((v21 * ((v23 * v25) - (v27 * v29))) + (v31 * ((v33 * v35) - (v37 * v39))))], (hM C h), 0, 0)) rfl ?_
      refine r_gR odX7_adds rfl rfl (md_17 hC) ?_
      refine mB_run odX7_adds 1 (g := (180, [(5, .int v19), (4, .int v17), (3, .int v15), (0, .ref 239), (1, .int x1), (2, .int x2)], [.int v19, .ref 255, .long v43, .long v41, .long ((v21 * ((v23 * v25) - (v27 * v29))) + (v31 * ((v33 * v35) - (v37 * v39))))], (hM C h), 0, 0)) rfl ?_
      obtain ⟨v45, e46, hq⟩ := bsm hq
      refine r_aJ odX7_adds rfl (ra_17 hC e46) ?_
      refine mB_run odX7_adds 2 (g := (183, [(5, .int v19), (4, .int v17), (3, .int v15), (0, .ref 239), (1, .int x1), (2, .int x2)], [.ref 239, .long (v43 * v45), .long v41, .long ((v21 * ((v23 * v25) - (v27 * v29))) + (v31 * ((v33 * v35) - (v37 * v39))))], (hM C h), 0, 0)) rfl ?_
      refine r_gR odX7_adds rfl rfl (md_17 hC) ?_
      refine mB_run odX7_adds 1 (g := (188, [(5, .int v19), (4, .int v17), (3, .int v15), (0, .ref 239), (1, .int x1), (2, .int x2)], [.int v17, .ref 255, .long (v43 * v45), .long v41, .long ((v21 * ((v23 * v25) - (v27 * v29))) + (v31 * ((v33 * v35) - (v37 * v39))))], (hM C h), 0, 0)) rfl ?_
      obtain ⟨v47, e48, hq⟩ := bsm hq
      refine r_aJ odX7_adds rfl (ra_17 hC e48) ?_
      refine mB_run odX7_adds 1 (g := (190, [(5, .int v19), (4, .int v17), (3, .int v15), (0, .ref 239), (1, .int x1), (2, .int x2)], [.ref 239, .long v47, .long (v43 * v45), .long v41, .long ((v21 * ((v23 * v25) - (v27 * v29))) + (v31 * ((v33 * v35) - (v37 * v39))))], (hM C h), 0, 0)) rfl ?_
      refine r_gR odX7_adds rfl rfl (md_16 hC) ?_
      refine mB_run odX7_adds 1 (g := (195, [(5, .int v19), (4, .int v17), (3, .int v15), (0, .ref 239), (1, .int x1), (2, .int x2)], [.int v19, .ref 254, .long v47, .long (v43 * v45), .long v41, .long ((v21 * ((v23 * v25) - (v27 * v29))) + (v31 * ((v33 * v35) - (v37 * v39))))], (hM C h), 0, 0)) rfl ?_
      obtain ⟨v49, e50, hq⟩ := bsm hq
      refine r_aJ odX7_adds rfl (ra_16 hC e50) ?_
      refine mB_run odX7_adds 7 (g := (204, [(6, .long (((v21 * ((v23 * v25) - (v27 * v29))) + (v31 * ((v33 * v35) - (v37 * v39)))) + (v41 * ((v43 * v45) - (v47 * v49))))), (5, .int v19), (4, .int v17), (3, .int v15), (0, .ref 239), (1, .int x1), (2, .int x2)], [.ref 239, .ref 239], (hM C h), 0, 0)) rfl ?_
      refine r_gJ odX7_adds rfl rfl (md_47 hC) ?_
      refine mB_run odX7_adds 2 (g := (210, [(6, .long (((v21 * ((v23 * v25) - (v27 * v29))) + (v31 * ((v33 * v35) - (v37 * v39)))) + (v41 * ((v43 * v45) - (v47 * v49))))), (5, .int v19), (4, .int v17), (3, .int v15), (0, .ref 239), (1, .int x1), (2, .int x2)], [.long ((h.2.1 47) + (((v21 * ((v23 * v25) - (v27 * v29))) + (v31 * ((v33 * v35) - (v37 * v39)))) + (v41 * ((v43 * v45) - (v47 * v49))))), .ref 239], (hM C h), 0, 0)) rfl ?_
      obtain ⟨s51, e52, hq⟩ := bsm hq
      refine r_sV odX7_adds rfl rfl rfl rfl (pt_47 hC e52) ?_
      refine mB_run odX7_adds 2 (g := (215, [(6, .long (((v21 * ((v23 * v25) - (v27 * v29))) + (v31 * ((v33 * v35) - (v37 * v39)))) + (v41 * ((v43 * v45) - (v47 * v49))))), (5, .int v19), (4, .int v17), (3, .int v15), (0, .ref 239), (1, .int x1), (2, .int x2)], [.ref 239, .ref 239], (hM C s51), 0, 0)) rfl ?_
      refine r_gJ odX7_adds rfl rfl (md_48 hC) ?_
      refine mB_run odX7_adds 2 (g := (221, [(6, .long (((v21 * ((v23 * v25) - (v27 * v29))) + (v31 * ((v33 * v35) - (v37 * v39)))) + (v41 * ((v43 * v45) - (v47 * v49))))), (5, .int v19), (4, .int v17), (3, .int v15), (0, .ref 239), (1, .int x1), (2, .int x2)], [.ref 239, .long (((v21 * ((v23 * v25) - (v27 * v29))) + (v31 * ((v33 * v35) - (v37 * v39)))) + (v41 * ((v43 * v45) - (v47 * v49)))), .long (s51.2.1 48), .ref 239], (hM C s51), 0, 0)) rfl ?_
      refine r_gR odX7_adds rfl rfl (md_16 hC) ?_
      refine mB_run odX7_adds 1 (g := (225, [(6, .long (((v21 * ((v23 * v25) - (v27 * v29))) + (v31 * ((v33 * v35) - (v37 * v39)))) + (v41 * ((v43 * v45) - (v47 * v49))))), (5, .int v19), (4, .int v17), (3, .int v15), (0, .ref 239), (1, .int x1), (2, .int x2)], [.int v15, .ref 254, .long (((v21 * ((v23 * v25) - (v27 * v29))) + (v31 * ((v33 * v35) - (v37 * v39)))) + (v41 * ((v43 * v45) - (v47 * v49)))), .long (s51.2.1 48), .ref 239], (hM C s51), 0, 0)) rfl ?_
      obtain ⟨v53, e54, hq⟩ := bsm hq
      refine r_aJ odX7_adds rfl (ra_16 hC e54) ?_
      refine mB_run odX7_adds 1 (g := (227, [(6, .long (((v21 * ((v23 * v25) - (v27 * v29))) + (v31 * ((v33 * v35) - (v37 * v39)))) + (v41 * ((v43 * v45) - (v47 * v49))))), (5, .int v19), (4, .int v17), (3, .int v15), (0, .ref 239), (1, .int x1), (2, .int x2)], [.ref 239, .long v53, .long (((v21 * ((v23 * v25) - (v27 * v29))) + (v31 * ((v33 * v35) - (v37 * v39)))) + (v41 * ((v43 * v45) - (v47 * v49)))), .long (s51.2.1 48), .ref 239], (hM C s51), 0, 0)) rfl ?_
      refine r_gR odX7_adds rfl rfl (md_16 hC) ?_
      refine mB_run odX7_adds 1 (g := (232, [(6, .long (((v21 * ((v23 * v25) - (v27 * v29))) + (v31 * ((v33 * v35) - (v37 * v39)))) + (v41 * ((v43 * v45) - (v47 * v49))))), (5, .int v19), (4, .int v17), (3, .int v15), (0, .ref 239), (1, .int x1), (2, .int x2)], [.int v17, .ref 254, .long v53, .long (((v21 * ((v23 * v25) - (v27 * v29))) + (v31 * ((v33 * v35) - (v37 * v39)))) + (v41 * ((v43 * v45) - (v47 * v49)))), .long (s51.2.1 48), .ref 239], (hM C s51), 0, 0)) rfl ?_
      obtain ⟨v55, e56, hq⟩ := bsm hq
      refine r_aJ odX7_adds rfl (ra_16 hC e56) ?_
      refine mB_run odX7_adds 2 (g := (235, [(6, .long (((v21 * ((v23 * v25) - (v27 * v29))) + (v31 * ((v33 * v35) - (v37 * v39)))) + (v41 * ((v43 * v45) - (v47 * v49))))), (5, .int v19), (4, .int v17), (3, .int v15), (0, .ref 239), (1, .int x1), (2, .int x2)], [.ref 239, .long (v53 + v55), .long (((v21 * ((v23 * v25) - (v27 * v29))) + (v31 * ((v33 * v35) - (v37 * v39)))) + (v41 * ((v43 * v45) - (v47 * v49)))), .long (s51.2.1 48), .ref 239], (hM C s51), 0, 0)) rfl ?_
      refine r_gR odX7_adds rfl rfl (md_16 hC) ?_
      refine mB_run odX7_adds 1 (g := (240, [(6, .long (((v21 * ((v23 * v25) - (v27 * v29))) + (v31 * ((v33 * v35) - (v37 * v39)))) + (v41 * ((v43 * v45) - (v47 * v49))))), (5, .int v19), (4, .int v17), (3, .int v15), (0, .ref 239), (1, .int x1), (2, .int x2)], [.int v19, .ref 254, .long (v53 + v55), .long (((v21 * ((v23 * v25) - (v27 * v29))) + (v31 * ((v33 * v35) - (v37 * v39)))) + (v41 * ((v43 * v45) - (v47 * v49)))), .long (s51.2.1 48), .ref 239], (hM C s51), 0, 0)) rfl ?_
      obtain ⟨v57, e58, hq⟩ := bsm hq
      refine r_aJ odX7_adds rfl (ra_16 hC e58) ?_
      refine mB_run odX7_adds 3 (g := (244, [(6, .long (((v21 * ((v23 * v25) - (v27 * v29))) + (v31 * ((v33 * v35) - (v37 * v39)))) + (v41 * ((v43 * v45) - (v47 * v49))))), (5, .int v19), (4, .int v17), (3, .int v15), (0, .ref 239), (1, .int x1), (2, .int x2)], [.long ((s51.2.1 48) + ((((v21 * ((v23 * v25) - (v27 * v29))) + (v31 * ((v33 * v35) - (v37 * v39)))) + (v41 * ((v43 * v45) - (v47 * v49)))) * ((v53 + v55) + v57))), .ref 239], (hM C s51), 0, 0)) rfl ?_
      obtain ⟨s59, e60, hq⟩ := bsm hq
      refine r_sV odX7_adds rfl rfl rfl rfl (pt_48 hC e60) ?_
      refine mB_run odX7_adds 2 (g := (249, [(6, .long (((v21 * ((v23 * v25) - (v27 * v29))) + (v31 * ((v33 * v35) - (v37 * v39)))) + (v41 * ((v43 * v45) - (v47 * v49))))), (5, .int v19), (4, .int v17), (3, .int v15), (0, .ref 239), (1, .int x1), (2, .int x2)], [.ref 239, .ref 239], (hM C s59), 0, 0)) rfl ?_
      refine r_gJ odX7_adds rfl rfl (md_49 hC) ?_
      refine mB_run odX7_adds 2 (g := (255, [(6, .long (((v21 * ((v23 * v25) - (v27 * v29))) + (v31 * ((v33 * v35) - (v37 * v39)))) + (v41 * ((v43 * v45) - (v47 * v49))))), (5, .int v19), (4, .int v17), (3, .int v15), (0, .ref 239), (1, .int x1), (2, .int x2)], [.ref 239, .long (((v21 * ((v23 * v25) - (v27 * v29))) + (v31 * ((v33 * v35) - (v37 * v39)))) + (v41 * ((v43 * v45) - (v47 * v49)))), .long (s59.2.1 49), .ref 239], (hM C s59), 0, 0)) rfl ?_
      refine r_gR odX7_adds rfl rfl (md_17 hC) ?_
      refine mB_run odX7_adds 1 (g := (259, [(6, .long (((v21 * ((v23 * v25) - (v27 * v29))) + (v31 * ((v33 * v35) - (v37 * v39)))) + (v41 * ((v43 * v45) - (v47 * v49))))), (5, .int v19), (4, .int v17), (3, .int v15), (0, .ref 239), (1, .int x1), (2, .int x2)], [.int v15, .ref 255, .long (((v21 * ((v23 * v25) - (v27 * v29))) + (v31 * ((v33 * v35) - (v37 * v39)))) + (v41 * ((v43 * v45) - (v47 * v49)))), .long (s59.2.1 49), .ref 239], (hM C s59), 0, 0)) rfl ?_
      obtain ⟨v61, e62, hq⟩ := bsm hq
      refine r_aJ odX7_adds rfl (ra_17 hC e62) ?_
      refine mB_run odX7_adds 1 (g := (261, [(6, .long (((v21 * ((v23 * v25) - (v27 * v29))) + (v31 * ((v33 * v35) - (v37 * v39)))) + (v41 * ((v43 * v45) - (v47 * v49))))), (5, .int v19), (4, .int v17), (3, .int v15), (0, .ref 239), (1, .int x1), (2, .int x2)], [.ref 239, .long v61, .long (((v21 * ((v23 * v25) - (v27 * v29))) + (v31 * ((v33 * v35) - (v37 * v39)))) + (v41 * ((v43 * v45) - (v47 * v49)))), .long (s59.2.1 49), .ref 239], (hM C s59), 0, 0)) rfl ?_
      refine r_gR odX7_adds rfl rfl (md_17 hC) ?_
      refine mB_run odX7_adds 1 (g := (266, [(6, .long (((v21 * ((v23 * v25) - (v27 * v29))) + (v31 * ((v33 * v35) - (v37 * v39)))) + (v41 * ((v43 * v45) - (v47 * v49))))), (5, .int v19), (4, .int v17), (3, .int v15), (0, .ref 239), (1, .int x1), (2, .int x2)], [.int v17, .ref 255, .long v61, .long (((v21 * ((v23 * v25) - (v27 * v29))) + (v31 * ((v33 * v35) - (v37 * v39)))) + (v41 * ((v43 * v45) - (v47 * v49)))), .long (s59.2.1 49), .ref 239], (hM C s59), 0, 0)) rfl ?_
      obtain ⟨v63, e64, hq⟩ := bsm hq
      refine r_aJ odX7_adds rfl (ra_17 hC e64) ?_
      refine mB_run odX7_adds 2 (g := (269, [(6, .long (((v21 * ((v23 * v25) - (v27 * v29))) + (v31 * ((v33 * v35) - (v37 * v39)))) + (v41 * ((v43 * v45) - (v47 * v49))))), (5, .int v19), (4, .int v17), (3, .int v15), (0, .ref 239), (1, .int x1), (2, .int x2)], [.ref 239, .long (v61 + v63), .long (((v21 * ((v23 * v25) - (v27 * v29))) + (v31 * ((v33 * v35) - (v37 * v39)))) + (v41 * ((v43 * v45) - (v47 * v49)))), .long (s59.2.1 49), .ref 239], (hM C s59), 0, 0)) rfl ?_
      refine r_gR odX7_adds rfl rfl (md_17 hC) ?_
      refine mB_run odX7_adds 1 (g := (274, [(6, .long (((v21 * ((v23 * v25) - (v27 * v29))) + (v31 * ((v33 * v35) - (v37 * v39)))) + (v41 * ((v43 * v45) - (v47 * v49))))), (5, .int v19), (4, .int v17), (3, .int v15), (0, .ref 239), (1, .int x1), (2, .int x2)], [.int v19, .ref 255, .long (v61 + v63), .long (((v21 * ((v23 * v25) - (v27 * v29))) + (v31 * ((v33 * v35) - (v37 * v39)))) + (v41 * ((v43 * v45) - (v47 * v49)))), .long (s59.2.1 49), .ref 239], (hM C s59), 0, 0)) rfl ?_
      obtain ⟨v65, e66, hq⟩ := bsm hq
      refine r_aJ odX7_adds rfl (ra_17 hC e66) ?_
      refine mB_run odX7_adds 3 (g := (278, [(6, .long (((v21 * ((v23 * v25) - (v27 * v29))) + (v31 * ((v33 * v35) - (v37 * v39)))) + (v41 * ((v43 * v45) - (v47 * v49))))), (5, .int v19), (4, .int v17), (3, .int v15), (0, .ref 239), (1, .int x1), (2, .int x2)], [.long ((s59.2.1 49) + ((((v21 * ((v23 * v25) - (v27 * v29))) + (v31 * ((v33 * v35) - (v37 * v39)))) + (v41 * ((v43 * v45) - (v47 * v49)))) * ((v61 + v63) + v65))), .ref 239], (hM C s59), 0, 0)) rfl ?_
      obtain ⟨s67, e68, hq⟩ := bsm hq
      refine r_sV odX7_adds rfl rfl rfl rfl (pt_49 hC e68) ?_
      refine mB_run odX7_adds 2 (g := (283, [(6, .long (((v21 * ((v23 * v25) - (v27 * v29))) + (v31 * ((v33 * v35) - (v37 * v39)))) + (v41 * ((v43 * v45) - (v47 * v49))))), (5, .int v19), (4, .int v17), (3, .int v15), (0, .ref 239), (1, .int x1), (2, .int x2)], [.ref 239, .ref 239], (hM C s67), 0, 0)) rfl ?_
      refine r_gJ odX7_adds rfl rfl (md_50 hC) ?_
      refine mB_run odX7_adds 2 (g := (289, [(6, .long (((v21 * ((v23 * v25) - (v27 * v29))) + (v31 * ((v33 * v35) - (v37 * v39)))) + (v41 * ((v43 * v45) - (v47 * v49))))), (5, .int v19), (4, .int v17), (3, .int v15), (0, .ref 239), (1, .int x1), (2, .int x2)], [.ref 239, .long (((v21 * ((v23 * v25) - (v27 * v29))) + (v31 * ((v33 * v35) - (v37 * v39)))) + (v41 * ((v43 * v45) - (v47 * v49)))), .long (s67.2.1 50), .ref 239], (hM C s67), 0, 0)) rfl ?_
      refine r_gR odX7_adds rfl rfl (md_18 hC) ?_
      refine mB_run odX7_adds 1 (g := (293, [(6, .long (((v21 * ((v23 * v25) - (v27 * v29))) + (v31 * ((v33 * v35) - (v37 * v39)))) + (v41 * ((v43 * v45) - (v47 * v49))))), (5, .int v19), (4, .int v17), (3, .int v15), (0, .ref 239), (1, .int x1), (2, .int x2)], [.int v15, .ref 256, .long (((v21 * ((v23 * v25) - (v27 * v29))) + (v31 * ((v33 * v35) - (v37 * v39)))) + (v41 * ((v43 * v45) - (v47 * v49)))), .long (s67.2.1 50), .ref 239], (hM C s67), 0, 0)) rfl ?_
      obtain ⟨v69, e70, hq⟩ := bsm hq
      refine r_aJ odX7_adds rfl (ra_18 hC e70) ?_
      refine mB_run odX7_adds 1 (g := (295, [(6, .long (((v21 * ((v23 * v25) - (v27 * v29))) + (v31 * ((v33 * v35) - (v37 * v39)))) + (v41 * ((v43 * v45) - (v47 * v49))))), (5, .int v19), (4, .int v17), (3, .int v15), (0, .ref 239), (1, .int x1), (2, .int x2)], [.ref 239, .long v69, .long (((v21 * ((v23 * v25) - (v27 * v29))) + (v31 * ((v33 * v35) - (v37 * v39)))) + (v41 * ((v43 * v45) - (v47 * v49)))), .long (s67.2.1 50), .ref 239], (hM C s67), 0, 0)) rfl ?_
      refine r_gR odX7_adds rfl rfl (md_18 hC) ?_
      refine mB_run odX7_adds 1 (g := (300, [(6, .long (((v21 * ((v23 * v25) - (v27 * v29))) + (v31 * ((v33 * v35) - (v37 * v39)))) + (v41 * ((v43 * v45) - (v47 * v49))))), (5, .int v19), (4, .int v17), (3, .int v15), (0, .ref 239), (1, .int x1), (2, .int x2)], [.int v17, .ref 256, .long v69, .long (((v21 * ((v23 * v25) - (v27 * v29))) + (v31 * ((v33 * v35) - (v37 * v39)))) + (v41 * ((v43 * v45) - (v47 * v49)))), .long (s67.2.1 50), .ref 239], (hM C s67), 0, 0)) rfl ?_
      obtain ⟨v71, e72, hq⟩ := bsm hq
      refine r_aJ odX7_adds rfl (ra_18 hC e72) ?_
      refine mB_run odX7_adds 2 (g := (303, [(6, .long (((v21 * ((v23 * v25) - (v27 * v29))) + (v31 * ((v33 * v35) - (v37 * v39)))) + (v41 * ((v43 * v45) - (v47 * v49))))), (5, .int v19), (4, .int v17), (3, .int v15), (0, .ref 239), (1, .int x1), (2, .int x2)], [.ref 239, .long (v69 + v71), .long (((v21 * ((v23 * v25) - (v27 * v29))) + (v31 * ((v33 * v35) - (v37 * v39)))) + (v41 * ((v43 * v45) - (v47 * v49)))), .long (s67.2.1 50), .ref 239], (hM C s67), 0, 0)) rfl ?_
      refine r_gR odX7_adds rfl rfl (md_18 hC) ?_
      refine mB_run odX7_adds 1 (g := (308, [(6, .long (((v21 * ((v23 * v25) - (v27 * v29))) + (v31 * ((v33 * v35) - (v37 * v39)))) + (v41 * ((v43 * v45) - (v47 * v49))))), (5, .int v19), (4, .int v17), (3, .int v15), (0, .ref 239), (1, .int x1), (2, .int x2)], [.int v19, .ref 256, .long (v69 + v71), .long (((v21 * ((v23 * v25) - (v27 * v29))) + (v31 * ((v33 * v35) - (v37 * v39)))) + (v41 * ((v43 * v45) - (v47 * v49)))), .long (s67.2.1 50), .ref 239], (hM C s67), 0, 0)) rfl ?_
      obtain ⟨v73, e74, hq⟩ := bsm hq
      refine r_aJ odX7_adds rfl (ra_18 hC e74) ?_
      refine mB_run odX7_adds 3 (g := (312, [(6, .long (((v21 * ((v23 * v25) - (v27 * v29))) + (v31 * ((v33 * v35) - (v37 * v39)))) + (v41 * ((v43 * v45) - (v47 * v49))))), (5, .int v19), (4, .int v17), (3, .int v15), (0, .ref 239), (1, .int x1), (2, .int x2)], [.long ((s67.2.1 50) + ((((v21 * ((v23 * v25) - (v27 * v29))) + (v31 * ((v33 * v35) - (v37 * v39)))) + (v41 * ((v43 * v45) - (v47 * v49)))) * ((v69 + v71) + v73))), .ref 239], (hM C s67), 0, 0)) rfl ?_
      obtain ⟨s75, e76, hq⟩ := bsm hq
      refine r_sV odX7_adds rfl rfl rfl rfl (pt_50 hC e76) ?_
      refine mB_run odX7_adds 2 (g := (34, [(2, .int (x2 + (1 : Int32))), (6, .long (((v21 * ((v23 * v25) - (v27 * v29))) + (v31 * ((v33 * v35) - (v37 * v39)))) + (v41 * ((v43 * v45) - (v47 * v49))))), (5, .int v19), (4, .int v17), (3, .int v15), (0, .ref 239), (1, .int x1)], [], (hM C s75), 0, 0)) rfl ?_
      refine mB_lv [5, 6, 0] (lv' := [(0, .ref 239), (1, .int x1), (2, .int (x2 + (1 : Int32)))]) rfl ?_
      exact ih _ _ _ hq
def mxX7_adds_22 (N : Nat) : Nat → Int32 → mS → Option mS
  | 0, _, _ => none
  | n + 1, x1, h =>
    (rA h 27 (0 : Int32)).bind fun v9 =>
    if v9 ≤ x1 then (
      some h) else (
      mxX7_adds_34 N (mxX7_adds_22 N n) N x1 (1 : Int32) h)
set_option maxHeartbeats 4000000 in
set_option maxRecDepth 100000 in
theorem emX7_adds_22 {N : Nat} {C : mh} (hC : C.length = 239) : ∀ (n : Nat) (x1 : Int32) (h : mS) {o : mS}, mxX7_adds_22 N n x1 h = some o → mB (gO mX7_adds (hM C o, none)) mX7_adds (22, [(0, .ref 239), (1, .int x1)], [], (hM C h), 0, 0) := by
  intro n
  induction n with
  | zero => intro x1 h o hq; cases hq
  | succ n ih =>
    intro x1 h o hq
    unfold mxX7_adds_22 at hq
    refine mB_run odX7_adds 2 (g := (24, [(0, .ref 239), (1, .int x1)], [.ref 239, .int x1], (hM C h), 0, 0)) rfl ?_
    refine r_gR odX7_adds rfl rfl (md_27 hC) ?_
    refine mB_run odX7_adds 1 (g := (28, [(0, .ref 239), (1, .int x1)], [.int (0 : Int32), .ref 260, .int x1], (hM C h), 0, 0)) rfl ?_
    obtain ⟨v9, e10, hq⟩ := bsm hq
    refine r_aI odX7_adds rfl (ra_27 hC e10) ?_
    by_cases c11 : v9 ≤ x1
    · rw [if_pos c11] at hq
      refine ic_ge_T (t := 327) odX7_adds rfl rfl c11 ?_
      cases hq
      exact mB_ret odX7_adds rfl
    · rw [if_neg c11] at hq
      refine ic_ge_F (t := 327) odX7_adds rfl rfl c11 ?_
      refine mB_run odX7_adds 2 (g := (34, [(2, .int (1 : Int32)), (0, .ref 239), (1, .int x1)], [], (hM C h), 0, 0)) rfl ?_
      refine mB_lv [1, 2, 0] (lv' := [(0, .ref 239), (1, .int x1), (2, .int (1 : Int32))]) rfl ?_
      exact emX7_adds_34 hC ih N _ _ _ hq
def mxX7_adds (N : Nat)  (h : mS) : Option mS :=
  (some (pJ h 47 (0 : Int64))).bind fun s1 =>
  (some (pJ s1 48 (0 : Int64))).bind fun s3 =>
  (some (pJ s3 49 (0 : Int64))).bind fun s5 =>
  (some (pJ s5 50 (0 : Int64))).bind fun s7 =>
  mxX7_adds_22 N N (0 : Int32) s7
set_option maxHeartbeats 4000000 in
set_option maxRecDepth 100000 in
theorem emX7_adds {N : Nat} {C : mh} (hC : C.length = 239)  {h : mS} {o : mS} (hq : mxX7_adds N  h = some o) : mC mX7_adds [.ref 239] (hM C h) (hM C o, none) := by
  refine mC_of okX7_adds (Nat.le_of_ble_eq_true rfl) ?_
  unfold mxX7_adds at hq
  show mB _ mX7_adds (0, [(0, .ref 239)], [], (hM C h), 0, 0)
  refine mB_run odX7_adds 2 (g := (2, [(0, .ref 239)], [.long (0 : Int64), .ref 239], (hM C h), 0, 0)) rfl ?_
  obtain ⟨s1, e2, hq⟩ := bsm hq
  refine r_sV odX7_adds rfl rfl rfl rfl (pt_47 hC e2) ?_
  refine mB_run odX7_adds 2 (g := (7, [(0, .ref 239)], [.long (0 : Int64), .ref 239], (hM C s1), 0, 0)) rfl ?_
  obtain ⟨s3, e4, hq⟩ := bsm hq
  refine r_sV odX7_adds rfl rfl rfl rfl (pt_48 hC e4) ?_
  refine mB_run odX7_adds 2 (g := (12, [(0, .ref 239)], [.long (0 : Int64), .ref 239], (hM C s3), 0, 0)) rfl ?_
  obtain ⟨s5, e6, hq⟩ := bsm hq
  refine r_sV odX7_adds rfl rfl rfl rfl (pt_49 hC e6) ?_
  refine mB_run odX7_adds 2 (g := (17, [(0, .ref 239)], [.long (0 : Int64), .ref 239], (hM C s5), 0, 0)) rfl ?_
  obtain ⟨s7, e8, hq⟩ := bsm hq
  refine r_sV odX7_adds rfl rfl rfl rfl (pt_50 hC e8) ?_
  refine mB_run odX7_adds 2 (g := (22, [(1, .int (0 : Int32)), (0, .ref 239)], [], (hM C s7), 0, 0)) rfl ?_
  refine mB_lv [1, 0] (lv' := [(0, .ref 239), (1, .int (0 : Int32))]) rfl ?_
  exact emX7_adds_22 hC N _ _ hq
