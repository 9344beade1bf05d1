theorem ts_out23 {x : Int32} (h0 : ¬ x = 0) (h1 : ¬ x = 1) (h2 : ¬ x = 2) (h3 : ¬ x = 3) (h4 : ¬ x = 4) (h5 : ¬ x = 5) (h6 : ¬ x = 6) (h7 : ¬ x = 7) (h8 : ¬ x = 8) (h9 : ¬ x = 9) (h10 : ¬ x = 10) (h11 : ¬ x = 11) (h12 : ¬ x = 12) (h13 : ¬ x = 13) (h14 : ¬ x = 14) (h15 : ¬ x = 15) (h16 : ¬ x = 16) (h17 : ¬ x = 17) (h18 : ¬ x = 18) (h19 : ¬ x = 19) (h20 : ¬ x = 20) (h21 : ¬ x = 21) (h22 : ¬ x = 22) : x.toInt < 0 ∨ 22 < x.toInt := by
  have a0 := ts_ne h0 (i := 0) (by decide)
  have a1 := ts_ne h1 (i := 1) (by decide)
  have a2 := ts_ne h2 (i := 2) (by decide)
  have a3 := ts_ne h3 (i := 3) (by decide)
  have a4 := ts_ne h4 (i := 4) (by decide)
  have a5 := ts_ne h5 (i := 5) (by decide)
  have a6 := ts_ne h6 (i := 6) (by decide)
  have a7 := ts_ne h7 (i := 7) (by decide)
  have a8 := ts_ne h8 (i := 8) (by decide)
  have a9 := ts_ne h9 (i := 9) (by decide)
  have a10 := ts_ne h10 (i := 10) (by decide)
  have a11 := ts_ne h11 (i := 11) (by decide)
  have a12 := ts_ne h12 (i := 12) (by decide)
  have a13 := ts_ne h13 (i := 13) (by decide)
  have a14 := ts_ne h14 (i := 14) (by decide)
  have a15 := ts_ne h15 (i := 15) (by decide)
  have a16 := ts_ne h16 (i := 16) (by decide)
  have a17 := ts_ne h17 (i := 17) (by decide)
  have a18 := ts_ne h18 (i := 18) (by decide)
  have a19 := ts_ne h19 (i := 19) (by decide)
  have a20 := ts_ne h20 (i := 20) (by decide)
  have a21 := ts_ne h21 (i := 21) (by decide)
  have a22 := ts_ne h22 (i := 22) (by decide)
  omega
def lx_1059 (rec18 : Int32 → mh → mS → Option Unit) (x3 : Int32) (C : mh) (s : mS) : Option Unit :=
  rec18 (x3 + (6 : Int32)) C s
set_option maxHeartbeats 8000000 in
set_option maxRecDepth 100000 in
theorem lex_1059 {L : Nat} {xs : Nat → Int32} {rec18 : Int32 → mh → mS → Option Unit} (hrec18 : ∀ (x3 : Int32) (C : mh) (s : mS) (hC : C.length = 239) {o : Unit}, rec18 x3 C s = some o → mB (gL L xs) mL_law (18, [(0, .retAddr 0), (1, .ref 0), (2, .ref 239), (3, .int x3)], [], (hM C s), 2202, 110072)) (x3 : Int32) (C : mh) (s : mS) (hC : C.length = 239) {o : Unit} (hq : lx_1059 rec18 x3 C s = some o) : mB (gL L xs) mL_law (1059, [(0, .retAddr 0), (1, .ref 0), (2, .ref 239), (3, .int x3)], [], (hM C s), 2202, 110072) := by
  unfold lx_1059 at hq
  refine mB_run odL_law 2 (g := (18, [(3, .int (x3 + (6 : Int32))), (0, .retAddr 0), (1, .ref 0), (2, .ref 239)], [], (hM C s), 2202, 110072)) rfl ?_
  refine mB_lv [1, 2, 3, 0] (lv' := [(0, .retAddr 0), (1, .ref 0), (2, .ref 239), (3, .int (x3 + (6 : Int32)))]) rfl ?_
  exact hrec18 _ _ _ hC hq
def lx_18 (L : Nat) (xs : Nat → Int32) (N : Nat) : Nat → Int32 → mh → mS → Option Unit
  | 0, _, _, _ => none
  | n + 1, x3, C, s =>
    if ((Int32.ofNat L) - (6 : Int32)) < x3 then (
      some ()) else (
      if x3 < 0 ∨ L ≤ x3.toNatClampNeg then none else
      if ((xs x3.toNatClampNeg) &&& (31 : Int32)) = (0 : Int32) then (
        if (x3 + (1 : Int32)) < 0 ∨ L ≤ (x3 + (1 : Int32)).toNatClampNeg then none else
        if (x3 + (2 : Int32)) < 0 ∨ L ≤ (x3 + (2 : Int32)).toNatClampNeg then none else
        (kO C 0 6).bind fun f8 =>
        (fxX6_tray N 0 (xs (x3 + (1 : Int32)).toNatClampNeg) (xs (x3 + (2 : Int32)).toNatClampNeg) C).bind fun o6 =>
        if ¬ o6.1.length = 239 then none else
        if (x3 + (1 : Int32)) < 0 ∨ L ≤ (x3 + (1 : Int32)).toNatClampNeg then none else
        if (x3 + (2 : Int32)) < 0 ∨ L ≤ (x3 + (2 : Int32)).toNatClampNeg then none else
        (mxX7_tray N (xs (x3 + (1 : Int32)).toNatClampNeg) (xs (x3 + (2 : Int32)).toNatClampNeg) s).bind fun o13 =>
        lx_1059 (lx_18 L xs N n) x3 o6.1 o13.1) else (
        if ((xs x3.toNatClampNeg) &&& (31 : Int32)) = (1 : Int32) then (
          if (x3 + (1 : Int32)) < 0 ∨ L ≤ (x3 + (1 : Int32)).toNatClampNeg then none else
          if (x3 + (2 : Int32)) < 0 ∨ L ≤ (x3 + (2 : Int32)).toNatClampNeg then none else
          if (x3 + (3 : Int32)) < 0 ∨ L ≤ (x3 + (3 : Int32)).toNatClampNeg then none else
          if (x3 + (4 : Int32)) < 0 ∨ L ≤ (x3 + (4 : Int32)).toNatClampNeg then none else
          if (x3 + (5 : Int32)) < 0 ∨ L ≤ (x3 + (5 : Int32)).toNatClampNeg then none else
          (kO C 0 6).bind fun f23 =>
          (fxX6_point N 0 (xs (x3 + (1 : Int32)).toNatClampNeg) (xs (x3 + (2 : Int32)).toNatClampNeg) (xs (x3 + (3 : Int32)).toNatClampNeg) (xs (x3 + (4 : Int32)).toNatClampNeg) (xs (x3 + (5 : Int32)).toNatClampNeg) C).bind fun o21 =>
          if ¬ o21.1.length = 239 then none else
          if (x3 + (1 : Int32)) < 0 ∨ L ≤ (x3 + (1 : Int32)).toNatClampNeg then none else
          if (x3 + (2 : Int32)) < 0 ∨ L ≤ (x3 + (2 : Int32)).toNatClampNeg then none else
          if (x3 + (3 : Int32)) < 0 ∨ L ≤ (x3 + (3 : Int32)).toNatClampNeg then none else
          if (x3 + (4 : Int32)) < 0 ∨ L ≤ (x3 + (4 : Int32)).toNatClampNeg then none else
          if (x3 + (5 : Int32)) < 0 ∨ L ≤ (x3 + (5 : Int32)).toNatClampNeg then none else
          (mxX7_point N (xs (x3 + (1 : Int32)).toNatClampNeg) (xs (x3 + (2 : Int32)).toNatClampNeg) (xs (x3 + (3 : Int32)).toNatClampNeg) (xs (x3 + (4 : Int32)).toNatClampNeg) (xs (x3 + (5 : Int32)).toNatClampNeg) s).bind fun o31 =>
          lx_1059 (lx_18 L xs N n) x3 o21.1 o31.1) else (
          if ((xs x3.toNatClampNeg) &&& (31 : Int32)) = (2 : Int32) then (
            if (x3 + (1 : Int32)) < 0 ∨ L ≤ (x3 + (1 : Int32)).toNatClampNeg then none else
            if (x3 + (2 : Int32)) < 0 ∨ L ≤ (x3 + (2 : Int32)).toNatClampNeg then none else
            (kO C 0 6).bind fun f38 =>
            (fxX6_solid N 0 (xs (x3 + (1 : Int32)).toNatClampNeg) (xs (x3 + (2 : Int32)).toNatClampNeg) C).bind fun o36 =>
            if ¬ o36.1.length = 239 then none else
            if (x3 + (1 : Int32)) < 0 ∨ L ≤ (x3 + (1 : Int32)).toNatClampNeg then none else
            if (x3 + (2 : Int32)) < 0 ∨ L ≤ (x3 + (2 : Int32)).toNatClampNeg then none else
            (mxX7_solid N (xs (x3 + (1 : Int32)).toNatClampNeg) (xs (x3 + (2 : Int32)).toNatClampNeg) s).bind fun o43 =>
            lx_1059 (lx_18 L xs N n) x3 o36.1 o43.1) else (
            if ((xs x3.toNatClampNeg) &&& (31 : Int32)) = (3 : Int32) then (
              if (x3 + (1 : Int32)) < 0 ∨ L ≤ (x3 + (1 : Int32)).toNatClampNeg then none else
              if (x3 + (2 : Int32)) < 0 ∨ L ≤ (x3 + (2 : Int32)).toNatClampNeg then none else
              if (x3 + (3 : Int32)) < 0 ∨ L ≤ (x3 + (3 : Int32)).toNatClampNeg then none else
              if (x3 + (4 : Int32)) < 0 ∨ L ≤ (x3 + (4 : Int32)).toNatClampNeg then none else
              (kO C 0 6).bind fun f52 =>
              (fxX6_grow N 0 (xs (x3 + (1 : Int32)).toNatClampNeg) (xs (x3 + (2 : Int32)).toNatClampNeg) (xs (x3 + (3 : Int32)).toNatClampNeg) (xs (x3 + (4 : Int32)).toNatClampNeg) C).bind fun o50 =>
              if ¬ o50.1.length = 239 then none else
              if (x3 + (1 : Int32)) < 0 ∨ L ≤ (x3 + (1 : Int32)).toNatClampNeg then none else
              if (x3 + (2 : Int32)) < 0 ∨ L ≤ (x3 + (2 : Int32)).toNatClampNeg then none else
              if (x3 + (3 : Int32)) < 0 ∨ L ≤ (x3 + (3 : Int32)).toNatClampNeg then none else
              if (x3 + (4 : Int32)) < 0 ∨ L ≤ (x3 + (4 : Int32)).toNatClampNeg then none else
              (mxX7_grow N (xs (x3 + (1 : Int32)).toNatClampNeg) (xs (x3 + (2 : Int32)).toNatClampNeg) (xs (x3 + (3 : Int32)).toNatClampNeg) (xs (x3 + (4 : Int32)).toNatClampNeg) s).bind fun o59 =>
              lx_1059 (lx_18 L xs N n) x3 o50.1 o59.1) else (
              if ((xs x3.toNatClampNeg) &&& (31 : Int32)) = (4 : Int32) then (
                if (x3 + (1 : Int32)) < 0 ∨ L ≤ (x3 + (1 : Int32)).toNatClampNeg then none else
                if (x3 + (2 : Int32)) < 0 ∨ L ≤ (x3 + (2 : Int32)).toNatClampNeg then none else
                (kO C 0 6).bind fun f66 =>
                (fxX6_count N 0 (xs (x3 + (1 : Int32)).toNatClampNeg) (xs (x3 + (2 : Int32)).toNatClampNeg) C).bind fun o64 =>
                if ¬ o64.1.length = 239 then none else
                if (x3 + (1 : Int32)) < 0 ∨ L ≤ (x3 + (1 : Int32)).toNatClampNeg then none else
                if (x3 + (2 : Int32)) < 0 ∨ L ≤ (x3 + (2 : Int32)).toNatClampNeg then none else
                (mxX7_count N (xs (x3 + (1 : Int32)).toNatClampNeg) (xs (x3 + (2 : Int32)).toNatClampNeg) s).bind fun o71 =>
                lx_1059 (lx_18 L xs N n) x3 o64.1 o71.1) else (
                if ((xs x3.toNatClampNeg) &&& (31 : Int32)) = (5 : Int32) then (
                  if (x3 + (1 : Int32)) < 0 ∨ L ≤ (x3 + (1 : Int32)).toNatClampNeg then none else
                  if (x3 + (2 : Int32)) < 0 ∨ L ≤ (x3 + (2 : Int32)).toNatClampNeg then none else
                  if (x3 + (3 : Int32)) < 0 ∨ L ≤ (x3 + (3 : Int32)).toNatClampNeg then none else
                  (kO C 0 6).bind fun f79 =>
                  (fxX6_corner N 0 (xs (x3 + (1 : Int32)).toNatClampNeg) (xs (x3 + (2 : Int32)).toNatClampNeg) (xs (x3 + (3 : Int32)).toNatClampNeg) C).bind fun o77 =>
                  if ¬ o77.1.length = 239 then none else
                  if (x3 + (1 : Int32)) < 0 ∨ L ≤ (x3 + (1 : Int32)).toNatClampNeg then none else
                  if (x3 + (2 : Int32)) < 0 ∨ L ≤ (x3 + (2 : Int32)).toNatClampNeg then none else
                  if (x3 + (3 : Int32)) < 0 ∨ L ≤ (x3 + (3 : Int32)).toNatClampNeg then none else
                  (mxX7_corner N (xs (x3 + (1 : Int32)).toNatClampNeg) (xs (x3 + (2 : Int32)).toNatClampNeg) (xs (x3 + (3 : Int32)).toNatClampNeg) s).bind fun o85 =>
                  lx_1059 (lx_18 L xs N n) x3 o77.1 o85.1) else (
                  if ((xs x3.toNatClampNeg) &&& (31 : Int32)) = (6 : Int32) then (
                    if (x3 + (1 : Int32)) < 0 ∨ L ≤ (x3 + (1 : Int32)).toNatClampNeg then none else
                    if (x3 + (2 : Int32)) < 0 ∨ L ≤ (x3 + (2 : Int32)).toNatClampNeg then none else
                    if (x3 + (3 : Int32)) < 0 ∨ L ≤ (x3 + (3 : Int32)).toNatClampNeg then none else
                    (kO C 0 6).bind fun f93 =>
                    (fxX6_edge N 0 (xs (x3 + (1 : Int32)).toNatClampNeg) (xs (x3 + (2 : Int32)).toNatClampNeg) (xs (x3 + (3 : Int32)).toNatClampNeg) C).bind fun o91 =>
                    if ¬ o91.1.length = 239 then none else
                    if (x3 + (1 : Int32)) < 0 ∨ L ≤ (x3 + (1 : Int32)).toNatClampNeg then none else
                    if (x3 + (2 : Int32)) < 0 ∨ L ≤ (x3 + (2 : Int32)).toNatClampNeg then none else
                    if (x3 + (3 : Int32)) < 0 ∨ L ≤ (x3 + (3 : Int32)).toNatClampNeg then none else
                    (mxX7_edge N (xs (x3 + (1 : Int32)).toNatClampNeg) (xs (x3 + (2 : Int32)).toNatClampNeg) (xs (x3 + (3 : Int32)).toNatClampNeg) s).bind fun o99 =>
                    lx_1059 (lx_18 L xs N n) x3 o91.1 o99.1) else (
                    if ((xs x3.toNatClampNeg) &&& (31 : Int32)) = (7 : Int32) then (
                      if (x3 + (1 : Int32)) < 0 ∨ L ≤ (x3 + (1 : Int32)).toNatClampNeg then none else
                      if (x3 + (2 : Int32)) < 0 ∨ L ≤ (x3 + (2 : Int32)).toNatClampNeg then none else
                      if (x3 + (3 : Int32)) < 0 ∨ L ≤ (x3 + (3 : Int32)).toNatClampNeg then none else
                      (kO C 0 6).bind fun f107 =>
                      (fxX6_face N 0 (xs (x3 + (1 : Int32)).toNatClampNeg) (xs (x3 + (2 : Int32)).toNatClampNeg) (xs (x3 + (3 : Int32)).toNatClampNeg) C).bind fun o105 =>
                      if ¬ o105.1.length = 239 then none else
                      if (x3 + (1 : Int32)) < 0 ∨ L ≤ (x3 + (1 : Int32)).toNatClampNeg then none else
                      if (x3 + (2 : Int32)) < 0 ∨ L ≤ (x3 + (2 : Int32)).toNatClampNeg then none else
                      if (x3 + (3 : Int32)) < 0 ∨ L ≤ (x3 + (3 : Int32)).toNatClampNeg then none else
                      (mxX7_face N (xs (x3 + (1 : Int32)).toNatClampNeg) (xs (x3 + (2 : Int32)).toNatClampNeg) (xs (x3 + (3 : Int32)).toNatClampNeg) s).bind fun o113 =>
                      lx_1059 (lx_18 L xs N n) x3 o105.1 o113.1) else (
                      if ((xs x3.toNatClampNeg) &&& (31 : Int32)) = (8 : Int32) then (
                        if (x3 + (1 : Int32)) < 0 ∨ L ≤ (x3 + (1 : Int32)).toNatClampNeg then none else
                        if (x3 + (2 : Int32)) < 0 ∨ L ≤ (x3 + (2 : Int32)).toNatClampNeg then none else
                        if (x3 + (3 : Int32)) < 0 ∨ L ≤ (x3 + (3 : Int32)).toNatClampNeg then none else
                        if (x3 + (4 : Int32)) < 0 ∨ L ≤ (x3 + (4 : Int32)).toNatClampNeg then none else
                        if (x3 + (5 : Int32)) < 0 ∨ L ≤ (x3 + (5 : Int32)).toNatClampNeg then none else
                        (kO C 0 6).bind fun f123 =>
                        (fxX6_in N 0 (xs (x3 + (1 : Int32)).toNatClampNeg) (xs (x3 + (2 : Int32)).toNatClampNeg) (xs (x3 + (3 : Int32)).toNatClampNeg) (xs (x3 + (4 : Int32)).toNatClampNeg) (xs (x3 + (5 : Int32)).toNatClampNeg) C).bind fun o121 =>
                        if ¬ o121.1.length = 239 then none else
                        if (x3 + (1 : Int32)) < 0 ∨ L ≤ (x3 + (1 : Int32)).toNatClampNeg then none else
                        if (x3 + (2 : Int32)) < 0 ∨ L ≤ (x3 + (2 : Int32)).toNatClampNeg then none else
                        if (x3 + (3 : Int32)) < 0 ∨ L ≤ (x3 + (3 : Int32)).toNatClampNeg then none else
                        if (x3 + (4 : Int32)) < 0 ∨ L ≤ (x3 + (4 : Int32)).toNatClampNeg then none else
                        if (x3 + (5 : Int32)) < 0 ∨ L ≤ (x3 + (5 : Int32)).toNatClampNeg then none else
                        (mxX7_in N (xs (x3 + (1 : Int32)).toNatClampNeg) (xs (x3 + (2 : Int32)).toNatClampNeg) (xs (x3 + (3 : Int32)).toNatClampNeg) (xs (x3 + (4 : Int32)).toNatClampNeg) (xs (x3 + (5 : Int32)).toNatClampNeg) s).bind fun o131 =>
                        lx_1059 (lx_18 L xs N n) x3 o121.1 o131.1) else (
                        if ((xs x3.toNatClampNeg) &&& (31 : Int32)) = (9 : Int32) then (
                          if (x3 + (1 : Int32)) < 0 ∨ L ≤ (x3 + (1 : Int32)).toNatClampNeg then none else
                          if (x3 + (2 : Int32)) < 0 ∨ L ≤ (x3 + (2 : Int32)).toNatClampNeg then none else
                          if (x3 + (3 : Int32)) < 0 ∨ L ≤ (x3 + (3 : Int32)).toNatClampNeg then none else
                          if (x3 + (4 : Int32)) < 0 ∨ L ≤ (x3 + (4 : Int32)).toNatClampNeg then none else
                          if (x3 + (5 : Int32)) < 0 ∨ L ≤ (x3 + (5 : Int32)).toNatClampNeg then none else
                          (kO C 0 6).bind fun f141 =>
                          (fxX6_side N 0 (xs (x3 + (1 : Int32)).toNatClampNeg) (xs (x3 + (2 : Int32)).toNatClampNeg) (xs (x3 + (3 : Int32)).toNatClampNeg) (xs (x3 + (4 : Int32)).toNatClampNeg) (xs (x3 + (5 : Int32)).toNatClampNeg) C).bind fun o139 =>
                          if ¬ o139.1.length = 239 then none else
                          if (x3 + (1 : Int32)) < 0 ∨ L ≤ (x3 + (1 : Int32)).toNatClampNeg then none else
                          if (x3 + (2 : Int32)) < 0 ∨ L ≤ (x3 + (2 : Int32)).toNatClampNeg then none else
                          if (x3 + (3 : Int32)) < 0 ∨ L ≤ (x3 + (3 : Int32)).toNatClampNeg then none else
                          if (x3 + (4 : Int32)) < 0 ∨ L ≤ (x3 + (4 : Int32)).toNatClampNeg then none else
                          if (x3 + (5 : Int32)) < 0 ∨ L ≤ (x3 + (5 : Int32)).toNatClampNeg then none else
                          (mxX7_side N (xs (x3 + (1 : Int32)).toNatClampNeg) (xs (x3 + (2 : Int32)).toNatClampNeg) (xs (x3 + (3 : Int32)).toNatClampNeg) (xs (x3 + (4 : Int32)).toNatClampNeg) (xs (x3 + (5 : Int32)).toNatClampNeg) s).bind fun o149 =>
                          lx_1059 (lx_18 L xs N n) x3 o139.1 o149.1) else (
                          if ((xs x3.toNatClampNeg) &&& (31 : Int32)) = (10 : Int32) then (
                            if (x3 + (1 : Int32)) < 0 ∨ L ≤ (x3 + (1 : Int32)).toNatClampNeg then none else
                            (kO C 0 6).bind fun f155 =>
                            (fxX6_volume N 0 (xs (x3 + (1 : Int32)).toNatClampNeg) C).bind fun o153 =>
                            if ¬ o153.1.length = 239 then none else
                            if (x3 + (1 : Int32)) < 0 ∨ L ≤ (x3 + (1 : Int32)).toNatClampNeg then none else
                            (mxX7_volume N (xs (x3 + (1 : Int32)).toNatClampNeg) s).bind fun o159 =>
                            lx_1059 (lx_18 L xs N n) x3 o153.1 o159.1) else (
                            if ((xs x3.toNatClampNeg) &&& (31 : Int32)) = (11 : Int32) then (
                              if (x3 + (1 : Int32)) < 0 ∨ L ≤ (x3 + (1 : Int32)).toNatClampNeg then none else
                              if (x3 + (2 : Int32)) < 0 ∨ L ≤ (x3 + (2 : Int32)).toNatClampNeg then none else
                              if (x3 + (3 : Int32)) < 0 ∨ L ≤ (x3 + (3 : Int32)).toNatClampNeg then none else
                              (kO C 0 6).bind fun f167 =>
                              (fxX6_middle N 0 (xs (x3 + (1 : Int32)).toNatClampNeg) (xs (x3 + (2 : Int32)).toNatClampNeg) (xs (x3 + (3 : Int32)).toNatClampNeg) C).bind fun o165 =>
                              if ¬ o165.1.length = 239 then none else
                              if (x3 + (1 : Int32)) < 0 ∨ L ≤ (x3 + (1 : Int32)).toNatClampNeg then none else
                              if (x3 + (2 : Int32)) < 0 ∨ L ≤ (x3 + (2 : Int32)).toNatClampNeg then none else
                              if (x3 + (3 : Int32)) < 0 ∨ L ≤ (x3 + (3 : Int32)).toNatClampNeg then none else
                              (mxX7_middle N (xs (x3 + (1 : Int32)).toNatClampNeg) (xs (x3 + (2 : Int32)).toNatClampNeg) (xs (x3 + (3 : Int32)).toNatClampNeg) s).bind fun o173 =>
                              lx_1059 (lx_18 L xs N n) x3 o165.1 o173.1) else (
                              if ((xs x3.toNatClampNeg) &&& (31 : Int32)) = (12 : Int32) then (
                                if (x3 + (1 : Int32)) < 0 ∨ L ≤ (x3 + (1 : Int32)).toNatClampNeg then none else
                                if (x3 + (2 : Int32)) < 0 ∨ L ≤ (x3 + (2 : Int32)).toNatClampNeg then none else
                                (kO C 0 6).bind fun f180 =>
                                (fxX6_far N 0 (xs (x3 + (1 : Int32)).toNatClampNeg) (xs (x3 + (2 : Int32)).toNatClampNeg) C).bind fun o178 =>
                                if ¬ o178.1.length = 239 then none else
                                if (x3 + (1 : Int32)) < 0 ∨ L ≤ (x3 + (1 : Int32)).toNatClampNeg then none else
                                if (x3 + (2 : Int32)) < 0 ∨ L ≤ (x3 + (2 : Int32)).toNatClampNeg then none else
                                (mxX7_far N (xs (x3 + (1 : Int32)).toNatClampNeg) (xs (x3 + (2 : Int32)).toNatClampNeg) s).bind fun o185 =>
                                lx_1059 (lx_18 L xs N n) x3 o178.1 o185.1) else (
                                if ((xs x3.toNatClampNeg) &&& (31 : Int32)) = (13 : Int32) then (
                                  if (x3 + (1 : Int32)) < 0 ∨ L ≤ (x3 + (1 : Int32)).toNatClampNeg then none else
                                  if (x3 + (2 : Int32)) < 0 ∨ L ≤ (x3 + (2 : Int32)).toNatClampNeg then none else
                                  (kO C 0 6).bind fun f192 =>
                                  (fxX6_width N 0 (xs (x3 + (1 : Int32)).toNatClampNeg) (xs (x3 + (2 : Int32)).toNatClampNeg) C).bind fun o190 =>
                                  if ¬ o190.1.length = 239 then none else
                                  if (x3 + (1 : Int32)) < 0 ∨ L ≤ (x3 + (1 : Int32)).toNatClampNeg then none else
                                  if (x3 + (2 : Int32)) < 0 ∨ L ≤ (x3 + (2 : Int32)).toNatClampNeg then none else
                                  (mxX7_width N (xs (x3 + (1 : Int32)).toNatClampNeg) (xs (x3 + (2 : Int32)).toNatClampNeg) s).bind fun o197 =>
                                  lx_1059 (lx_18 L xs N n) x3 o190.1 o197.1) else (
                                  if ((xs x3.toNatClampNeg) &&& (31 : Int32)) = (14 : Int32) then (
                                    if (x3 + (1 : Int32)) < 0 ∨ L ≤ (x3 + (1 : Int32)).toNatClampNeg then none else
                                    if (x3 + (2 : Int32)) < 0 ∨ L ≤ (x3 + (2 : Int32)).toNatClampNeg then none else
                                    if (x3 + (3 : Int32)) < 0 ∨ L ≤ (x3 + (3 : Int32)).toNatClampNeg then none else
                                    (kO C 0 6).bind fun f205 =>
                                    (fxX6_sum N 0 (xs (x3 + (1 : Int32)).toNatClampNeg) (xs (x3 + (2 : Int32)).toNatClampNeg) (xs (x3 + (3 : Int32)).toNatClampNeg) C).bind fun o203 =>
                                    if ¬ o203.1.length = 239 then none else
                                    if (x3 + (1 : Int32)) < 0 ∨ L ≤ (x3 + (1 : Int32)).toNatClampNeg then none else
                                    if (x3 + (2 : Int32)) < 0 ∨ L ≤ (x3 + (2 : Int32)).toNatClampNeg then none else
                                    if (x3 + (3 : Int32)) < 0 ∨ L ≤ (x3 + (3 : Int32)).toNatClampNeg then none else
                                    (mxX7_sum N (xs (x3 + (1 : Int32)).toNatClampNeg) (xs (x3 + (2 : Int32)).toNatClampNeg) (xs (x3 + (3 : Int32)).toNatClampNeg) s).bind fun o211 =>
                                    lx_1059 (lx_18 L xs N n) x3 o203.1 o211.1) else (
                                    if ((xs x3.toNatClampNeg) &&& (31 : Int32)) = (15 : Int32) then (
                                      if (x3 + (1 : Int32)) < 0 ∨ L ≤ (x3 + (1 : Int32)).toNatClampNeg then none else
                                      if (x3 + (2 : Int32)) < 0 ∨ L ≤ (x3 + (2 : Int32)).toNatClampNeg then none else
                                      (kO C 0 6).bind fun f218 =>
                                      (fxX6_apart N 0 (xs (x3 + (1 : Int32)).toNatClampNeg) (xs (x3 + (2 : Int32)).toNatClampNeg) C).bind fun o216 =>
                                      if ¬ o216.1.length = 239 then none else
                                      if (x3 + (1 : Int32)) < 0 ∨ L ≤ (x3 + (1 : Int32)).toNatClampNeg then none else
                                      if (x3 + (2 : Int32)) < 0 ∨ L ≤ (x3 + (2 : Int32)).toNatClampNeg then none else
                                      (mxX7_apart N (xs (x3 + (1 : Int32)).toNatClampNeg) (xs (x3 + (2 : Int32)).toNatClampNeg) s).bind fun o223 =>
                                      lx_1059 (lx_18 L xs N n) x3 o216.1 o223.1) else (
                                      if ((xs x3.toNatClampNeg) &&& (31 : Int32)) = (16 : Int32) then (
                                        if (x3 + (1 : Int32)) < 0 ∨ L ≤ (x3 + (1 : Int32)).toNatClampNeg then none else
                                        if (x3 + (2 : Int32)) < 0 ∨ L ≤ (x3 + (2 : Int32)).toNatClampNeg then none else
                                        if (x3 + (3 : Int32)) < 0 ∨ L ≤ (x3 + (3 : Int32)).toNatClampNeg then none else
                                        (kO C 0 6).bind fun f231 =>
                                        (fxX6_near N 0 (xs (x3 + (1 : Int32)).toNatClampNeg) (xs (x3 + (2 : Int32)).toNatClampNeg) (xs (x3 + (3 : Int32)).toNatClampNeg) C).bind fun o229 =>
                                        if ¬ o229.1.length = 239 then none else
                                        if (x3 + (1 : Int32)) < 0 ∨ L ≤ (x3 + (1 : Int32)).toNatClampNeg then none else
                                        if (x3 + (2 : Int32)) < 0 ∨ L ≤ (x3 + (2 : Int32)).toNatClampNeg then none else
                                        if (x3 + (3 : Int32)) < 0 ∨ L ≤ (x3 + (3 : Int32)).toNatClampNeg then none else
                                        (mxX7_near N (xs (x3 + (1 : Int32)).toNatClampNeg) (xs (x3 + (2 : Int32)).toNatClampNeg) (xs (x3 + (3 : Int32)).toNatClampNeg) s).bind fun o237 =>
                                        lx_1059 (lx_18 L xs N n) x3 o229.1 o237.1) else (
                                        if ((xs x3.toNatClampNeg) &&& (31 : Int32)) = (17 : Int32) then (
                                          if (x3 + (1 : Int32)) < 0 ∨ L ≤ (x3 + (1 : Int32)).toNatClampNeg then none else
                                          if (x3 + (2 : Int32)) < 0 ∨ L ≤ (x3 + (2 : Int32)).toNatClampNeg then none else
                                          (kO C 0 6).bind fun f244 =>
                                          (fxX6_same N 0 (xs (x3 + (1 : Int32)).toNatClampNeg) (xs (x3 + (2 : Int32)).toNatClampNeg) C).bind fun o242 =>
                                          if ¬ o242.1.length = 239 then none else
                                          if (x3 + (1 : Int32)) < 0 ∨ L ≤ (x3 + (1 : Int32)).toNatClampNeg then none else
                                          if (x3 + (2 : Int32)) < 0 ∨ L ≤ (x3 + (2 : Int32)).toNatClampNeg then none else
                                          (mxX7_same N (xs (x3 + (1 : Int32)).toNatClampNeg) (xs (x3 + (2 : Int32)).toNatClampNeg) s).bind fun o249 =>
                                          lx_1059 (lx_18 L xs N n) x3 o242.1 o249.1) else (
                                          if ((xs x3.toNatClampNeg) &&& (31 : Int32)) = (18 : Int32) then (
                                            if (x3 + (1 : Int32)) < 0 ∨ L ≤ (x3 + (1 : Int32)).toNatClampNeg then none else
                                            if (x3 + (2 : Int32)) < 0 ∨ L ≤ (x3 + (2 : Int32)).toNatClampNeg then none else
                                            if (x3 + (3 : Int32)) < 0 ∨ L ≤ (x3 + (3 : Int32)).toNatClampNeg then none else
                                            if (x3 + (4 : Int32)) < 0 ∨ L ≤ (x3 + (4 : Int32)).toNatClampNeg then none else
                                            (kO C 0 6).bind fun f258 =>
                                            (fxX6_move N 0 (xs (x3 + (1 : Int32)).toNatClampNeg) (xs (x3 + (2 : Int32)).toNatClampNeg) (xs (x3 + (3 : Int32)).toNatClampNeg) (xs (x3 + (4 : Int32)).toNatClampNeg) C).bind fun o256 =>
                                            if ¬ o256.1.length = 239 then none else
                                            if (x3 + (1 : Int32)) < 0 ∨ L ≤ (x3 + (1 : Int32)).toNatClampNeg then none else
                                            if (x3 + (2 : Int32)) < 0 ∨ L ≤ (x3 + (2 : Int32)).toNatClampNeg then none else
                                            if (x3 + (3 : Int32)) < 0 ∨ L ≤ (x3 + (3 : Int32)).toNatClampNeg then none else
                                            if (x3 + (4 : Int32)) < 0 ∨ L ≤ (x3 + (4 : Int32)).toNatClampNeg then none else
                                            (mxX7_move N (xs (x3 + (1 : Int32)).toNatClampNeg) (xs (x3 + (2 : Int32)).toNatClampNeg) (xs (x3 + (3 : Int32)).toNatClampNeg) (xs (x3 + (4 : Int32)).toNatClampNeg) s).bind fun o265 =>
                                            lx_1059 (lx_18 L xs N n) x3 o256.1 o265.1) else (
                                            if ((xs x3.toNatClampNeg) &&& (31 : Int32)) = (19 : Int32) then (
                                              if (x3 + (1 : Int32)) < 0 ∨ L ≤ (x3 + (1 : Int32)).toNatClampNeg then none else
                                              if (x3 + (2 : Int32)) < 0 ∨ L ≤ (x3 + (2 : Int32)).toNatClampNeg then none else
                                              (kO C 0 6).bind fun f272 =>
                                              (fxX6_mirror N 0 (xs (x3 + (1 : Int32)).toNatClampNeg) (xs (x3 + (2 : Int32)).toNatClampNeg) C).bind fun o270 =>
                                              if ¬ o270.1.length = 239 then none else
                                              if (x3 + (1 : Int32)) < 0 ∨ L ≤ (x3 + (1 : Int32)).toNatClampNeg then none else
                                              if (x3 + (2 : Int32)) < 0 ∨ L ≤ (x3 + (2 : Int32)).toNatClampNeg then none else
                                              (mxX7_mirror N (xs (x3 + (1 : Int32)).toNatClampNeg) (xs (x3 + (2 : Int32)).toNatClampNeg) s).bind fun o277 =>
                                              lx_1059 (lx_18 L xs N n) x3 o270.1 o277.1) else (
                                              if ((xs x3.toNatClampNeg) &&& (31 : Int32)) = (20 : Int32) then (
                                                if (x3 + (1 : Int32)) < 0 ∨ L ≤ (x3 + (1 : Int32)).toNatClampNeg then none else
                                                if (x3 + (2 : Int32)) < 0 ∨ L ≤ (x3 + (2 : Int32)).toNatClampNeg then none else
                                                (kO C 0 6).bind fun f284 =>
                                                (fxX6_turn N 0 (xs (x3 + (1 : Int32)).toNatClampNeg) (xs (x3 + (2 : Int32)).toNatClampNeg) C).bind fun o282 =>
                                                if ¬ o282.1.length = 239 then none else
                                                if (x3 + (1 : Int32)) < 0 ∨ L ≤ (x3 + (1 : Int32)).toNatClampNeg then none else
                                                if (x3 + (2 : Int32)) < 0 ∨ L ≤ (x3 + (2 : Int32)).toNatClampNeg then none else
                                                (mxX7_turn N (xs (x3 + (1 : Int32)).toNatClampNeg) (xs (x3 + (2 : Int32)).toNatClampNeg) s).bind fun o289 =>
                                                lx_1059 (lx_18 L xs N n) x3 o282.1 o289.1) else (
                                                if ((xs x3.toNatClampNeg) &&& (31 : Int32)) = (21 : Int32) then (
                                                  if (x3 + (1 : Int32)) < 0 ∨ L ≤ (x3 + (1 : Int32)).toNatClampNeg then none else
                                                  if (x3 + (2 : Int32)) < 0 ∨ L ≤ (x3 + (2 : Int32)).toNatClampNeg then none else
                                                  (kO C 0 6).bind fun f296 =>
                                                  (fxX6_copy N 0 (xs (x3 + (1 : Int32)).toNatClampNeg) (xs (x3 + (2 : Int32)).toNatClampNeg) C).bind fun o294 =>
                                                  if ¬ o294.1.length = 239 then none else
                                                  if (x3 + (1 : Int32)) < 0 ∨ L ≤ (x3 + (1 : Int32)).toNatClampNeg then none else
                                                  if (x3 + (2 : Int32)) < 0 ∨ L ≤ (x3 + (2 : Int32)).toNatClampNeg then none else
                                                  (mxX7_copy N (xs (x3 + (1 : Int32)).toNatClampNeg) (xs (x3 + (2 : Int32)).toNatClampNeg) s).bind fun o301 =>
                                                  lx_1059 (lx_18 L xs N n) x3 o294.1 o301.1) else (
                                                  if ((xs x3.toNatClampNeg) &&& (31 : Int32)) = (22 : Int32) then (
                                                    (kO C 0 6).bind fun f306 =>
                                                    (fxX6_undo N 0 C).bind fun o304 =>
                                                    if ¬ o304.1.length = 239 then none else
                                                    (mxX7_undo N  s).bind fun o309 =>
                                                    if o304.2 = o309.2 then (
                                                      lx_1059 (lx_18 L xs N n) x3 o304.1 o309.1) else (
                                                      none)) else (
                                                    lx_1059 (lx_18 L xs N n) x3 C s))))))))))))))))))))))))
set_option maxHeartbeats 8000000 in
set_option maxRecDepth 100000 in
theorem lex_18 {L : Nat} {xs : Nat → Int32} {N : Nat} : ∀ (n : Nat) (x3 : Int32) (C : mh) (s : mS) (hC : C.length = 239) {o : Unit}, lx_18 L xs N n x3 C s = some o → mB (gL L xs) mL_law (18, [(0, .retAddr 0), (1, .ref 0), (2, .ref 239), (3, .int x3)], [], (hM C s), 2202, 110072) := by
  intro n
  induction n with
  | zero => intro x3 C s hC o hq; cases hq
  | succ n ih =>
    intro x3 C s hC o hq
    unfold lx_18 at hq
    refine mB_run odL_law 2 (g := (20, [(0, .retAddr 0), (1, .ref 0), (2, .ref 239), (3, .int x3)], [.retAddr 0, .int x3], (hM C s), 2202, 110072)) rfl ?_
    refine mL_len odL_law rfl ?_
    refine mB_run odL_law 2 (g := (24, [(0, .retAddr 0), (1, .ref 0), (2, .ref 239), (3, .int x3)], [.int ((Int32.ofNat L) - (6 : Int32)), .int x3], (hM C s), 2202, 110072)) rfl ?_
    by_cases c1 : ((Int32.ofNat L) - (6 : Int32)) < x3
    · rw [if_pos c1] at hq
      refine ic_gt_T (t := 1065) odL_law rfl rfl c1 ?_
      refine mB_run odL_law 1 (g := (1066, [(0, .retAddr 0), (1, .ref 0), (2, .ref 239), (3, .int x3)], [.int (1 : Int32)], (hM C s), 2202, 110072)) rfl ?_
      exact mL_ret odL_law rfl rfl rfl (by decide) (by decide)
    · rw [if_neg c1] at hq
      refine ic_gt_F (t := 1065) odL_law rfl rfl c1 ?_
      refine mB_run odL_law 2 (g := (29, [(0, .retAddr 0), (1, .ref 0), (2, .ref 239), (3, .int x3)], [.int x3, .retAddr 0], (hM C s), 2202, 110072)) rfl ?_
      by_cases c2 : x3 < 0 ∨ L ≤ x3.toNatClampNeg
      · rw [if_pos c2] at hq; cases hq
      rw [if_neg c2] at hq
      refine mL_ld odL_law rfl c2 ?_
      refine mB_run odL_law 2 (g := (33, [(0, .retAddr 0), (1, .ref 0), (2, .ref 239), (3, .int x3)], [.int ((xs x3.toNatClampNeg) &&& (31 : Int32))], (hM C s), 2202, 110072)) rfl ?_
      by_cases c3 : ((xs x3.toNatClampNeg) &&& (31 : Int32)) = (0 : Int32)
      · rw [if_pos c3] at hq
        refine r_tab odL_law rfl c3 (t := 140) rfl ?_
        refine mB_run odL_law 5 (g := (145, [(0, .retAddr 0), (1, .ref 0), (2, .ref 239), (3, .int x3)], [.int (x3 + (1 : Int32)), .retAddr 0, .ref 0], (hM C s), 2202, 110072)) rfl ?_
        by_cases c4 : (x3 + (1 : Int32)) < 0 ∨ L ≤ (x3 + (1 : Int32)).toNatClampNeg
        · rw [if_pos c4] at hq; cases hq
        rw [if_neg c4] at hq
        refine mL_ld odL_law rfl c4 ?_
        refine mB_run odL_law 4 (g := (150, [(0, .retAddr 0), (1, .ref 0), (2, .ref 239), (3, .int x3)], [.int (x3 + (2 : Int32)), .retAddr 0, .int (xs (x3 + (1 : Int32)).toNatClampNeg), .ref 0], (hM C s), 2202, 110072)) rfl ?_
        by_cases c5 : (x3 + (2 : Int32)) < 0 ∨ L ≤ (x3 + (2 : Int32)).toNatClampNeg
        · rw [if_pos c5] at hq; cases hq
        rw [if_neg c5] at hq
        refine mL_ld odL_law rfl c5 ?_
        obtain ⟨f8, k9, hq⟩ := bsm hq
        obtain ⟨o6, e7, hq⟩ := bsm hq
        by_cases hC10 : o6.1.length = 239
        case neg => rw [if_pos hC10] at hq; cases hq
        rw [if_neg (fun z => z hC10)] at hq
        refine mB_V (h := hM C s) (as := [.int (xs (x3 + (1 : Int32)).toNatClampNeg), .int (xs (x3 + (2 : Int32)).toNatClampNeg)]) odL_law okX6_tray lk_12_13 rfl (eaX6_tray (R := mseg s) e7) (kO_at (kO_ap k9)) rfl rfl rfl ?_
        show mB _ mL_law (154, [(0, .retAddr 0), (1, .ref 0), (2, .ref 239), (3, .int x3)], [.int o6.2], (hM o6.1 s), 2202, 110072)
        refine mB_run odL_law 6 (g := (160, [(0, .retAddr 0), (1, .ref 0), (2, .ref 239), (3, .int x3)], [.int (x3 + (1 : Int32)), .retAddr 0, .ref 239], (hM o6.1 s), 2202, 110072)) rfl ?_
        by_cases c11 : (x3 + (1 : Int32)) < 0 ∨ L ≤ (x3 + (1 : Int32)).toNatClampNeg
        · rw [if_pos c11] at hq; cases hq
        rw [if_neg c11] at hq
        refine mL_ld odL_law rfl c11 ?_
        refine mB_run odL_law 4 (g := (165, [(0, .retAddr 0), (1, .ref 0), (2, .ref 239), (3, .int x3)], [.int (x3 + (2 : Int32)), .retAddr 0, .int (xs (x3 + (1 : Int32)).toNatClampNeg), .ref 239], (hM o6.1 s), 2202, 110072)) rfl ?_
        by_cases c12 : (x3 + (2 : Int32)) < 0 ∨ L ≤ (x3 + (2 : Int32)).toNatClampNeg
        · rw [if_pos c12] at hq; cases hq
        rw [if_neg c12] at hq
        refine mL_ld odL_law rfl c12 ?_
        obtain ⟨o13, e14, hq⟩ := bsm hq
        refine mB_V (h := hM o6.1 s) (as := [.int (xs (x3 + (1 : Int32)).toNatClampNeg), .int (xs (x3 + (2 : Int32)).toNatClampNeg)]) odL_law okX7_tray lk_12_17 rfl (emX7_tray hC10 e14) (kO_at (md_O hC10)) rfl rfl rfl ?_
        show mB _ mL_law (169, [(0, .retAddr 0), (1, .ref 0), (2, .ref 239), (3, .int x3)], [.int o13.2], (hM o6.1 o13.1), 2202, 110072)
        refine mB_run odL_law 2 (g := (1059, [(0, .retAddr 0), (1, .ref 0), (2, .ref 239), (3, .int x3)], [], (hM o6.1 o13.1), 2202, 110072)) rfl ?_
        refine mB_lv [0, 1, 2, 3] (lv' := [(0, .retAddr 0), (1, .ref 0), (2, .ref 239), (3, .int x3)]) rfl ?_
        exact lex_1059 ih _ _ _ hC10 hq
      · rw [if_neg c3] at hq
        by_cases c15 : ((xs x3.toNatClampNeg) &&& (31 : Int32)) = (1 : Int32)
        · rw [if_pos c15] at hq
          refine r_tab odL_law rfl c15 (t := 173) rfl ?_
          refine mB_run odL_law 5 (g := (178, [(0, .retAddr 0), (1, .ref 0), (2, .ref 239), (3, .int x3)], [.int (x3 + (1 : Int32)), .retAddr 0, .ref 0], (hM C s), 2202, 110072)) rfl ?_
          by_cases c16 : (x3 + (1 : Int32)) < 0 ∨ L ≤ (x3 + (1 : Int32)).toNatClampNeg
          · rw [if_pos c16] at hq; cases hq
          rw [if_neg c16] at hq
          refine mL_ld odL_law rfl c16 ?_
          refine mB_run odL_law 4 (g := (183, [(0, .retAddr 0), (1, .ref 0), (2, .ref 239), (3, .int x3)], [.int (x3 + (2 : Int32)), .retAddr 0, .int (xs (x3 + (1 : Int32)).toNatClampNeg), .ref 0], (hM C s), 2202, 110072)) rfl ?_
          by_cases c17 : (x3 + (2 : Int32)) < 0 ∨ L ≤ (x3 + (2 : Int32)).toNatClampNeg
          · rw [if_pos c17] at hq; cases hq
          rw [if_neg c17] at hq
          refine mL_ld odL_law rfl c17 ?_
          refine mB_run odL_law 4 (g := (188, [(0, .retAddr 0), (1, .ref 0), (2, .ref 239), (3, .int x3)], [.int (x3 + (3 : Int32)), .retAddr 0, .int (xs (x3 + (2 : Int32)).toNatClampNeg), .int (xs (x3 + (1 : Int32)).toNatClampNeg), .ref 0], (hM C s), 2202, 110072)) rfl ?_
          by_cases c18 : (x3 + (3 : Int32)) < 0 ∨ L ≤ (x3 + (3 : Int32)).toNatClampNeg
          · rw [if_pos c18] at hq; cases hq
          rw [if_neg c18] at hq
          refine mL_ld odL_law rfl c18 ?_
          refine mB_run odL_law 4 (g := (193, [(0, .retAddr 0), (1, .ref 0), (2, .ref 239), (3, .int x3)], [.int (x3 + (4 : Int32)), .retAddr 0, .int (xs (x3 + (3 : Int32)).toNatClampNeg), .int (xs (x3 + (2 : Int32)).toNatClampNeg), .int (xs (x3 + (1 : Int32)).toNatClampNeg), .ref 0], (hM C s), 2202, 110072)) rfl ?_
          by_cases c19 : (x3 + (4 : Int32)) < 0 ∨ L ≤ (x3 + (4 : Int32)).toNatClampNeg
          · rw [if_pos c19] at hq; cases hq
          rw [if_neg c19] at hq
          refine mL_ld odL_law rfl c19 ?_
          refine mB_run odL_law 4 (g := (198, [(0, .retAddr 0), (1, .ref 0), (2, .ref 239), (3, .int x3)], [.int (x3 + (5 : Int32)), .retAddr 0, .int (xs (x3 + (4 : Int32)).toNatClampNeg), .int (xs (x3 + (3 : Int32)).toNatClampNeg), .int (xs (x3 + (2 : Int32)).toNatClampNeg), .int (xs (x3 + (1 : Int32)).toNatClampNeg), .ref 0], (hM C s), 2202, 110072)) rfl ?_
          by_cases c20 : (x3 + (5 : Int32)) < 0 ∨ L ≤ (x3 + (5 : Int32)).toNatClampNeg
          · rw [if_pos c20] at hq; cases hq
          rw [if_neg c20] at hq
          refine mL_ld odL_law rfl c20 ?_
          obtain ⟨f23, k24, hq⟩ := bsm hq
          obtain ⟨o21, e22, hq⟩ := bsm hq
          by_cases hC25 : o21.1.length = 239
          case neg => rw [if_pos hC25] at hq; cases hq
          rw [if_neg (fun z => z hC25)] at hq
          refine mB_V (h := hM C s) (as := [.int (xs (x3 + (1 : Int32)).toNatClampNeg), .int (xs (x3 + (2 : Int32)).toNatClampNeg), .int (xs (x3 + (3 : Int32)).toNatClampNeg), .int (xs (x3 + (4 : Int32)).toNatClampNeg), .int (xs (x3 + (5 : Int32)).toNatClampNeg)]) odL_law okX6_point lk_12_18 rfl (eaX6_point (R := mseg s) e22) (kO_at (kO_ap k24)) rfl rfl rfl ?_
          show mB _ mL_law (202, [(0, .retAddr 0), (1, .ref 0), (2, .ref 239), (3, .int x3)], [.int o21.2], (hM o21.1 s), 2202, 110072)
          refine mB_run odL_law 6 (g := (208, [(0, .retAddr 0), (1, .ref 0), (2, .ref 239), (3, .int x3)], [.int (x3 + (1 : Int32)), .retAddr 0, .ref 239], (hM o21.1 s), 2202, 110072)) rfl ?_
          by_cases c26 : (x3 + (1 : Int32)) < 0 ∨ L ≤ (x3 + (1 : Int32)).toNatClampNeg
          · rw [if_pos c26] at hq; cases hq
          rw [if_neg c26] at hq
          refine mL_ld odL_law rfl c26 ?_
          refine mB_run odL_law 4 (g := (213, [(0, .retAddr 0), (1, .ref 0), (2, .ref 239), (3, .int x3)], [.int (x3 + (2 : Int32)), .retAddr 0, .int (xs (x3 + (1 : Int32)).toNatClampNeg), .ref 239], (hM o21.1 s), 2202, 110072)) rfl ?_
          by_cases c27 : (x3 + (2 : Int32)) < 0 ∨ L ≤ (x3 + (2 : Int32)).toNatClampNeg
          · rw [if_pos c27] at hq; cases hq
          rw [if_neg c27] at hq
          refine mL_ld odL_law rfl c27 ?_
          refine mB_run odL_law 4 (g := (218, [(0, .retAddr 0), (1, .ref 0), (2, .ref 239), (3, .int x3)], [.int (x3 + (3 : Int32)), .retAddr 0, .int (xs (x3 + (2 : Int32)).toNatClampNeg), .int (xs (x3 + (1 : Int32)).toNatClampNeg), .ref 239], (hM o21.1 s), 2202, 110072)) rfl ?_
          by_cases c28 : (x3 + (3 : Int32)) < 0 ∨ L ≤ (x3 + (3 : Int32)).toNatClampNeg
          · rw [if_pos c28] at hq; cases hq
          rw [if_neg c28] at hq
          refine mL_ld odL_law rfl c28 ?_
          refine mB_run odL_law 4 (g := (223, [(0, .retAddr 0), (1, .ref 0), (2, .ref 239), (3, .int x3)], [.int (x3 + (4 : Int32)), .retAddr 0, .int (xs (x3 + (3 : Int32)).toNatClampNeg), .int (xs (x3 + (2 : Int32)).toNatClampNeg), .int (xs (x3 + (1 : Int32)).toNatClampNeg), .ref 239], (hM o21.1 s), 2202, 110072)) rfl ?_
          by_cases c29 : (x3 + (4 : Int32)) < 0 ∨ L ≤ (x3 + (4 : Int32)).toNatClampNeg
          · rw [if_pos c29] at hq; cases hq
          rw [if_neg c29] at hq
          refine mL_ld odL_law rfl c29 ?_
          refine mB_run odL_law 4 (g := (228, [(0, .retAddr 0), (1, .ref 0), (2, .ref 239), (3, .int x3)], [.int (x3 + (5 : Int32)), .retAddr 0, .int (xs (x3 + (4 : Int32)).toNatClampNeg), .int (xs (x3 + (3 : Int32)).toNatClampNeg), .int (xs (x3 + (2 : Int32)).toNatClampNeg), .int (xs (x3 + (1 : Int32)).toNatClampNeg), .ref 239], (hM o21.1 s), 2202, 110072)) rfl ?_
          by_cases c30 : (x3 + (5 : Int32)) < 0 ∨ L ≤ (x3 + (5 : Int32)).toNatClampNeg
          · rw [if_pos c30] at hq; cases hq
          rw [if_neg c30] at hq
          refine mL_ld odL_law rfl c30 ?_
          obtain ⟨o31, e32, hq⟩ := bsm hq
          refine mB_V (h := hM o21.1 s) (as := [.int (xs (x3 + (1 : Int32)).toNatClampNeg), .int (xs (x3 + (2 : Int32)).toNatClampNeg), .int (xs (x3 + (3 : Int32)).toNatClampNeg), .int (xs (x3 + (4 : Int32)).toNatClampNeg), .int (xs (x3 + (5 : Int32)).toNatClampNeg)]) odL_law okX7_point lk_12_22 rfl (emX7_point hC25 e32) (kO_at (md_O hC25)) rfl rfl rfl ?_
          show mB _ mL_law (232, [(0, .retAddr 0), (1, .ref 0), (2, .ref 239), (3, .int x3)], [.int o31.2], (hM o21.1 o31.1), 2202, 110072)
          refine mB_run odL_law 2 (g := (1059, [(0, .retAddr 0), (1, .ref 0), (2, .ref 239), (3, .int x3)], [], (hM o21.1 o31.1), 2202, 110072)) rfl ?_
          refine mB_lv [0, 1, 2, 3] (lv' := [(0, .retAddr 0), (1, .ref 0), (2, .ref 239), (3, .int x3)]) rfl ?_
          exact lex_1059 ih _ _ _ hC25 hq
        · rw [if_neg c15] at hq
          by_cases c33 : ((xs x3.toNatClampNeg) &&& (31 : Int32)) = (2 : Int32)
          · rw [if_pos c33] at hq
            refine r_tab odL_law rfl c33 (t := 236) rfl ?_
            refine mB_run odL_law 5 (g := (241, [(0, .retAddr 0), (1, .ref 0), (2, .ref 239), (3, .int x3)], [.int (x3 + (1 : Int32)), .retAddr 0, .ref 0], (hM C s), 2202, 110072)) rfl ?_
            by_cases c34 : (x3 + (1 : Int32)) < 0 ∨ L ≤ (x3 + (1 : Int32)).toNatClampNeg
            · rw [if_pos c34] at hq; cases hq
            rw [if_neg c34] at hq
            refine mL_ld odL_law rfl c34 ?_
            refine mB_run odL_law 4 (g := (246, [(0, .retAddr 0), (1, .ref 0), (2, .ref 239), (3, .int x3)], [.int (x3 + (2 : Int32)), .retAddr 0, .int (xs (x3 + (1 : Int32)).toNatClampNeg), .ref 0], (hM C s), 2202, 110072)) rfl ?_
            by_cases c35 : (x3 + (2 : Int32)) < 0 ∨ L ≤ (x3 + (2 : Int32)).toNatClampNeg
            · rw [if_pos c35] at hq; cases hq
            rw [if_neg c35] at hq
            refine mL_ld odL_law rfl c35 ?_
            obtain ⟨f38, k39, hq⟩ := bsm hq
            obtain ⟨o36, e37, hq⟩ := bsm hq
            by_cases hC40 : o36.1.length = 239
            case neg => rw [if_pos hC40] at hq; cases hq
            rw [if_neg (fun z => z hC40)] at hq
            refine mB_V (h := hM C s) (as := [.int (xs (x3 + (1 : Int32)).toNatClampNeg), .int (xs (x3 + (2 : Int32)).toNatClampNeg)]) odL_law okX6_solid lk_12_23 rfl (eaX6_solid (R := mseg s) e37) (kO_at (kO_ap k39)) rfl rfl rfl ?_
            show mB _ mL_law (250, [(0, .retAddr 0), (1, .ref 0), (2, .ref 239), (3, .int x3)], [.int o36.2], (hM o36.1 s), 2202, 110072)
            refine mB_run odL_law 6 (g := (256, [(0, .retAddr 0), (1, .ref 0), (2, .ref 239), (3, .int x3)], [.int (x3 + (1 : Int32)), .retAddr 0, .ref 239], (hM o36.1 s), 2202, 110072)) rfl ?_
            by_cases c41 : (x3 + (1 : Int32)) < 0 ∨ L ≤ (x3 + (1 : Int32)).toNatClampNeg
            · rw [if_pos c41] at hq; cases hq
            rw [if_neg c41] at hq
            refine mL_ld odL_law rfl c41 ?_
            refine mB_run odL_law 4 (g := (261, [(0, .retAddr 0), (1, .ref 0), (2, .ref 239), (3, .int x3)], [.int (x3 + (2 : Int32)), .retAddr 0, .int (xs (x3 + (1 : Int32)).toNatClampNeg), .ref 239], (hM o36.1 s), 2202, 110072)) rfl ?_
            by_cases c42 : (x3 + (2 : Int32)) < 0 ∨ L ≤ (x3 + (2 : Int32)).toNatClampNeg
            · rw [if_pos c42] at hq; cases hq
            rw [if_neg c42] at hq
            refine mL_ld odL_law rfl c42 ?_
            obtain ⟨o43, e44, hq⟩ := bsm hq
            refine mB_V (h := hM o36.1 s) (as := [.int (xs (x3 + (1 : Int32)).toNatClampNeg), .int (xs (x3 + (2 : Int32)).toNatClampNeg)]) odL_law okX7_solid lk_12_27 rfl (emX7_solid hC40 e44) (kO_at (md_O hC40)) rfl rfl rfl ?_
            show mB _ mL_law (265, [(0, .retAddr 0), (1, .ref 0), (2, .ref 239), (3, .int x3)], [.int o43.2], (hM o36.1 o43.1), 2202, 110072)
            refine mB_run odL_law 2 (g := (1059, [(0, .retAddr 0), (1, .ref 0), (2, .ref 239), (3, .int x3)], [], (hM o36.1 o43.1), 2202, 110072)) rfl ?_
            refine mB_lv [0, 1, 2, 3] (lv' := [(0, .retAddr 0), (1, .ref 0), (2, .ref 239), (3, .int x3)]) rfl ?_
            exact lex_1059 ih _ _ _ hC40 hq
          · rw [if_neg c33] at hq
            by_cases c45 : ((xs x3.toNatClampNeg) &&& (31 : Int32)) = (3 : Int32)
            · rw [if_pos c45] at hq
              refine r_tab odL_law rfl c45 (t := 269) rfl ?_
              refine mB_run odL_law 5 (g := (274, [(0, .retAddr 0), (1, .ref 0), (2, .ref 239), (3, .int x3)], [.int (x3 + (1 : Int32)), .retAddr 0, .ref 0], (hM C s), 2202, 110072)) rfl ?_
              by_cases c46 : (x3 + (1 : Int32)) < 0 ∨ L ≤ (x3 + (1 : Int32)).toNatClampNeg
              · rw [if_pos c46] at hq; cases hq
              rw [if_neg c46] at hq
              refine mL_ld odL_law rfl c46 ?_
              refine mB_run odL_law 4 (g := (279, [(0, .retAddr 0), (1, .ref 0), (2, .ref 239), (3, .int x3)], [.int (x3 + (2 : Int32)), .retAddr 0, .int (xs (x3 + (1 : Int32)).toNatClampNeg), .ref 0], (hM C s), 2202, 110072)) rfl ?_
              by_cases c47 : (x3 + (2 : Int32)) < 0 ∨ L ≤ (x3 + (2 : Int32)).toNatClampNeg
              · rw [if_pos c47] at hq; cases hq
              rw [if_neg c47] at hq
              refine mL_ld odL_law rfl c47 ?_
              refine mB_run odL_law 4 (g := (284, [(0, .retAddr 0), (1, .ref 0), (2, .ref 239), (3, .int x3)], [.int (x3 + (3 : Int32)), .retAddr 0, .int (xs (x3 + (2 : Int32)).toNatClampNeg), .int (xs (x3 + (1 : Int32)).toNatClampNeg), .ref 0], (hM C s), 2202, 110072)) rfl ?_
              by_cases c48 : (x3 + (3 : Int32)) < 0 ∨ L ≤ (x3 + (3 : Int32)).toNatClampNeg
              · rw [if_pos c48] at hq; cases hq
              rw [if_neg c48] at hq
              refine mL_ld odL_law rfl c48 ?_
              refine mB_run odL_law 4 (g := (289, [(0, .retAddr 0), (1, .ref 0), (2, .ref 239), (3, .int x3)], [.int (x3 + (4 : Int32)), .retAddr 0, .int (xs (x3 + (3 : Int32)).toNatClampNeg), .int (xs (x3 + (2 : Int32)).toNatClampNeg), .int (xs (x3 + (1 : Int32)).toNatClampNeg), .ref 0], (hM C s), 2202, 110072)) rfl ?_
              by_cases c49 : (x3 + (4 : Int32)) < 0 ∨ L ≤ (x3 + (4 : Int32)).toNatClampNeg
              · rw [if_pos c49] at hq; cases hq
              rw [if_neg c49] at hq
              refine mL_ld odL_law rfl c49 ?_
              obtain ⟨f52, k53, hq⟩ := bsm hq
              obtain ⟨o50, e51, hq⟩ := bsm hq
              by_cases hC54 : o50.1.length = 239
              case neg => rw [if_pos hC54] at hq; cases hq
              rw [if_neg (fun z => z hC54)] at hq
              refine mB_V (h := hM C s) (as := [.int (xs (x3 + (1 : Int32)).toNatClampNeg), .int (xs (x3 + (2 : Int32)).toNatClampNeg), .int (xs (x3 + (3 : Int32)).toNatClampNeg), .int (xs (x3 + (4 : Int32)).toNatClampNeg)]) odL_law okX6_grow lk_12_28 rfl (eaX6_grow (R := mseg s) e51) (kO_at (kO_ap k53)) rfl rfl rfl ?_
              show mB _ mL_law (293, [(0, .retAddr 0), (1, .ref 0), (2, .ref 239), (3, .int x3)], [.int o50.2], (hM o50.1 s), 2202, 110072)
              refine mB_run odL_law 6 (g := (299, [(0, .retAddr 0), (1, .ref 0), (2, .ref 239), (3, .int x3)], [.int (x3 + (1 : Int32)), .retAddr 0, .ref 239], (hM o50.1 s), 2202, 110072)) rfl ?_
              by_cases c55 : (x3 + (1 : Int32)) < 0 ∨ L ≤ (x3 + (1 : Int32)).toNatClampNeg
              · rw [if_pos c55] at hq; cases hq
              rw [if_neg c55] at hq
              refine mL_ld odL_law rfl c55 ?_
              refine mB_run odL_law 4 (g := (304, [(0, .retAddr 0), (1, .ref 0), (2, .ref 239), (3, .int x3)], [.int (x3 + (2 : Int32)), .retAddr 0, .int (xs (x3 + (1 : Int32)).toNatClampNeg), .ref 239], (hM o50.1 s), 2202, 110072)) rfl ?_
              by_cases c56 : (x3 + (2 : Int32)) < 0 ∨ L ≤ (x3 + (2 : Int32)).toNatClampNeg
              · rw [if_pos c56] at hq; cases hq
              rw [if_neg c56] at hq
              refine mL_ld odL_law rfl c56 ?_
              refine mB_run odL_law 4 (g := (309, [(0, .retAddr 0), (1, .ref 0), (2, .ref 239), (3, .int x3)], [.int (x3 + (3 : Int32)), .retAddr 0, .int (xs (x3 + (2 : Int32)).toNatClampNeg), .int (xs (x3 + (1 : Int32)).toNatClampNeg), .ref 239], (hM o50.1 s), 2202, 110072)) rfl ?_
              by_cases c57 : (x3 + (3 : Int32)) < 0 ∨ L ≤ (x3 + (3 : Int32)).toNatClampNeg
              · rw [if_pos c57] at hq; cases hq
              rw [if_neg c57] at hq
              refine mL_ld odL_law rfl c57 ?_
              refine mB_run odL_law 4 (g := (314, [(0, .retAddr 0), (1, .ref 0), (2, .ref 239), (3, .int x3)], [.int (x3 + (4 : Int32)), .retAddr 0, .int (xs (x3 + (3 : Int32)).toNatClampNeg), .int (xs (x3 + (2 : Int32)).toNatClampNeg), .int (xs (x3 + (1 : Int32)).toNatClampNeg), .ref 239], (hM o50.1 s), 2202, 110072)) rfl ?_
              by_cases c58 : (x3 + (4 : Int32)) < 0 ∨ L ≤ (x3 + (4 : Int32)).toNatClampNeg
              · rw [if_pos c58] at hq; cases hq
              rw [if_neg c58] at hq
              refine mL_ld odL_law rfl c58 ?_
              obtain ⟨o59, e60, hq⟩ := bsm hq
              refine mB_V (h := hM o50.1 s) (as := [.int (xs (x3 + (1 : Int32)).toNatClampNeg), .int (xs (x3 + (2 : Int32)).toNatClampNeg), .int (xs (x3 + (3 : Int32)).toNatClampNeg), .int (xs (x3 + (4 : Int32)).toNatClampNeg)]) odL_law okX7_grow lk_12_32 rfl (emX7_grow hC54 e60) (kO_at (md_O hC54)) rfl rfl rfl ?_
              show mB _ mL_law (318, [(0, .retAddr 0), (1, .ref 0), (2, .ref 239), (3, .int x3)], [.int o59.2], (hM o50.1 o59.1), 2202, 110072)
              refine mB_run odL_law 2 (g := (1059, [(0, .retAddr 0), (1, .ref 0), (2, .ref 239), (3, .int x3)], [], (hM o50.1 o59.1), 2202, 110072)) rfl ?_
              refine mB_lv [0, 1, 2, 3] (lv' := [(0, .retAddr 0), (1, .ref 0), (2, .ref 239), (3, .int x3)]) rfl ?_
              exact lex_1059 ih _ _ _ hC54 hq
            · rw [if_neg c45] at hq
              by_cases c61 : ((xs x3.toNatClampNeg) &&& (31 : Int32)) = (4 : Int32)
              · rw [if_pos c61] at hq
                refine r_tab odL_law rfl c61 (t := 322) rfl ?_
                refine mB_run odL_law 5 (g := (327, [(0, .retAddr 0), (1, .ref 0), (2, .ref 239), (3, .int x3)], [.int (x3 + (1 : Int32)), .retAddr 0, .ref 0], (hM C s), 2202, 110072)) rfl ?_
                by_cases c62 : (x3 + (1 : Int32)) < 0 ∨ L ≤ (x3 + (1 : Int32)).toNatClampNeg
                · rw [if_pos c62] at hq; cases hq
                rw [if_neg c62] at hq
                refine mL_ld odL_law rfl c62 ?_
                refine mB_run odL_law 4 (g := (332, [(0, .retAddr 0), (1, .ref 0), (2, .ref 239), (3, .int x3)], [.int (x3 + (2 : Int32)), .retAddr 0, .int (xs (x3 + (1 : Int32)).toNatClampNeg), .ref 0], (hM C s), 2202, 110072)) rfl ?_
                by_cases c63 : (x3 + (2 : Int32)) < 0 ∨ L ≤ (x3 + (2 : Int32)).toNatClampNeg
                · rw [if_pos c63] at hq; cases hq
                rw [if_neg c63] at hq
                refine mL_ld odL_law rfl c63 ?_
                obtain ⟨f66, k67, hq⟩ := bsm hq
                obtain ⟨o64, e65, hq⟩ := bsm hq
                by_cases hC68 : o64.1.length = 239
                case neg => rw [if_pos hC68] at hq; cases hq
                rw [if_neg (fun z => z hC68)] at hq
                refine mB_V (h := hM C s) (as := [.int (xs (x3 + (1 : Int32)).toNatClampNeg), .int (xs (x3 + (2 : Int32)).toNatClampNeg)]) odL_law okX6_count lk_12_33 rfl (eaX6_count (R := mseg s) e65) (kO_at (kO_ap k67)) rfl rfl rfl ?_
                show mB _ mL_law (336, [(0, .retAddr 0), (1, .ref 0), (2, .ref 239), (3, .int x3)], [.int o64.2], (hM o64.1 s), 2202, 110072)
                refine mB_run odL_law 6 (g := (342, [(0, .retAddr 0), (1, .ref 0), (2, .ref 239), (3, .int x3)], [.int (x3 + (1 : Int32)), .retAddr 0, .ref 239], (hM o64.1 s), 2202, 110072)) rfl ?_
                by_cases c69 : (x3 + (1 : Int32)) < 0 ∨ L ≤ (x3 + (1 : Int32)).toNatClampNeg
                · rw [if_pos c69] at hq; cases hq
                rw [if_neg c69] at hq
                refine mL_ld odL_law rfl c69 ?_
                refine mB_run odL_law 4 (g := (347, [(0, .retAddr 0), (1, .ref 0), (2, .ref 239), (3, .int x3)], [.int (x3 + (2 : Int32)), .retAddr 0, .int (xs (x3 + (1 : Int32)).toNatClampNeg), .ref 239], (hM o64.1 s), 2202, 110072)) rfl ?_
                by_cases c70 : (x3 + (2 : Int32)) < 0 ∨ L ≤ (x3 + (2 : Int32)).toNatClampNeg
                · rw [if_pos c70] at hq; cases hq
                rw [if_neg c70] at hq
                refine mL_ld odL_law rfl c70 ?_
                obtain ⟨o71, e72, hq⟩ := bsm hq
                refine mB_V (h := hM o64.1 s) (as := [.int (xs (x3 + (1 : Int32)).toNatClampNeg), .int (xs (x3 + (2 : Int32)).toNatClampNeg)]) odL_law okX7_count lk_12_36 rfl (emX7_count hC68 e72) (kO_at (md_O hC68)) rfl rfl rfl ?_
                show mB _ mL_law (351, [(0, .retAddr 0), (1, .ref 0), (2, .ref 239), (3, .int x3)], [.int o71.2], (hM o64.1 o71.1), 2202, 110072)
                refine mB_run odL_law 2 (g := (1059, [(0, .retAddr 0), (1, .ref 0), (2, .ref 239), (3, .int x3)], [], (hM o64.1 o71.1), 2202, 110072)) rfl ?_
                refine mB_lv [0, 1, 2, 3] (lv' := [(0, .retAddr 0), (1, .ref 0), (2, .ref 239), (3, .int x3)]) rfl ?_
                exact lex_1059 ih _ _ _ hC68 hq
              · rw [if_neg c61] at hq
                by_cases c73 : ((xs x3.toNatClampNeg) &&& (31 : Int32)) = (5 : Int32)
                · rw [if_pos c73] at hq
                  refine r_tab odL_law rfl c73 (t := 355) rfl ?_
                  refine mB_run odL_law 5 (g := (360, [(0, .retAddr 0), (1, .ref 0), (2, .ref 239), (3, .int x3)], [.int (x3 + (1 : Int32)), .retAddr 0, .ref 0], (hM C s), 2202, 110072)) rfl ?_
                  by_cases c74 : (x3 + (1 : Int32)) < 0 ∨ L ≤ (x3 + (1 : Int32)).toNatClampNeg
                  · rw [if_pos c74] at hq; cases hq
                  rw [if_neg c74] at hq
                  refine mL_ld odL_law rfl c74 ?_
                  refine mB_run odL_law 4 (g := (365, [(0, .retAddr 0), (1, .ref 0), (2, .ref 239), (3, .int x3)], [.int (x3 + (2 : Int32)), .retAddr 0, .int (xs (x3 + (1 : Int32)).toNatClampNeg), .ref 0], (hM C s), 2202, 110072)) rfl ?_
                  by_cases c75 : (x3 + (2 : Int32)) < 0 ∨ L ≤ (x3 + (2 : Int32)).toNatClampNeg
                  · rw [if_pos c75] at hq; cases hq
                  rw [if_neg c75] at hq
                  refine mL_ld odL_law rfl c75 ?_
                  refine mB_run odL_law 4 (g := (370, [(0, .retAddr 0), (1, .ref 0), (2, .ref 239), (3, .int x3)], [.int (x3 + (3 : Int32)), .retAddr 0, .int (xs (x3 + (2 : Int32)).toNatClampNeg), .int (xs (x3 + (1 : Int32)).toNatClampNeg), .ref 0], (hM C s), 2202, 110072)) rfl ?_
                  by_cases c76 : (x3 + (3 : Int32)) < 0 ∨ L ≤ (x3 + (3 : Int32)).toNatClampNeg
                  · rw [if_pos c76] at hq; cases hq
                  rw [if_neg c76] at hq
                  refine mL_ld odL_law rfl c76 ?_
                  obtain ⟨f79, k80, hq⟩ := bsm hq
                  obtain ⟨o77, e78, hq⟩ := bsm hq
                  by_cases hC81 : o77.1.length = 239
                  case neg => rw [if_pos hC81] at hq; cases hq
                  rw [if_neg (fun z => z hC81)] at hq
                  refine mB_V (h := hM C s) (as := [.int (xs (x3 + (1 : Int32)).toNatClampNeg), .int (xs (x3 + (2 : Int32)).toNatClampNeg), .int (xs (x3 + (3 : Int32)).toNatClampNeg)]) odL_law okX6_corner lk_12_37 rfl (eaX6_corner (R := mseg s) e78) (kO_at (kO_ap k80)) rfl rfl rfl ?_
                  show mB _ mL_law (374, [(0, .retAddr 0), (1, .ref 0), (2, .ref 239), (3, .int x3)], [.int o77.2], (hM o77.1 s), 2202, 110072)
                  refine mB_run odL_law 6 (g := (380, [(0, .retAddr 0), (1, .ref 0), (2, .ref 239), (3, .int x3)], [.int (x3 + (1 : Int32)), .retAddr 0, .ref 239], (hM o77.1 s), 2202, 110072)) rfl ?_
                  by_cases c82 : (x3 + (1 : Int32)) < 0 ∨ L ≤ (x3 + (1 : Int32)).toNatClampNeg
                  · rw [if_pos c82] at hq; cases hq
                  rw [if_neg c82] at hq
                  refine mL_ld odL_law rfl c82 ?_
                  refine mB_run odL_law 4 (g := (385, [(0, .retAddr 0), (1, .ref 0), (2, .ref 239), (3, .int x3)], [.int (x3 + (2 : Int32)), .retAddr 0, .int (xs (x3 + (1 : Int32)).toNatClampNeg), .ref 239], (hM o77.1 s), 2202, 110072)) rfl ?_
                  by_cases c83 : (x3 + (2 : Int32)) < 0 ∨ L ≤ (x3 + (2 : Int32)).toNatClampNeg
                  · rw [if_pos c83] at hq; cases hq
                  rw [if_neg c83] at hq
                  refine mL_ld odL_law rfl c83 ?_
                  refine mB_run odL_law 4 (g := (390, [(0, .retAddr 0), (1, .ref 0), (2, .ref 239), (3, .int x3)], [.int (x3 + (3 : Int32)), .retAddr 0, .int (xs (x3 + (2 : Int32)).toNatClampNeg), .int (xs (x3 + (1 : Int32)).toNatClampNeg), .ref 239], (hM o77.1 s), 2202, 110072)) rfl ?_
                  by_cases c84 : (x3 + (3 : Int32)) < 0 ∨ L ≤ (x3 + (3 : Int32)).toNatClampNeg
                  · rw [if_pos c84] at hq; cases hq
                  rw [if_neg c84] at hq
                  refine mL_ld odL_law rfl c84 ?_
                  obtain ⟨o85, e86, hq⟩ := bsm hq
                  refine mB_V (h := hM o77.1 s) (as := [.int (xs (x3 + (1 : Int32)).toNatClampNeg), .int (xs (x3 + (2 : Int32)).toNatClampNeg), .int (xs (x3 + (3 : Int32)).toNatClampNeg)]) odL_law okX7_corner lk_12_41 rfl (emX7_corner hC81 e86) (kO_at (md_O hC81)) rfl rfl rfl ?_
                  show mB _ mL_law (394, [(0, .retAddr 0), (1, .ref 0), (2, .ref 239), (3, .int x3)], [.int o85.2], (hM o77.1 o85.1), 2202, 110072)
                  refine mB_run odL_law 2 (g := (1059, [(0, .retAddr 0), (1, .ref 0), (2, .ref 239), (3, .int x3)], [], (hM o77.1 o85.1), 2202, 110072)) rfl ?_
                  refine mB_lv [0, 1, 2, 3] (lv' := [(0, .retAddr 0), (1, .ref 0), (2, .ref 239), (3, .int x3)]) rfl ?_
                  exact lex_1059 ih _ _ _ hC81 hq
                · rw [if_neg c73] at hq
                  by_cases c87 : ((xs x3.toNatClampNeg) &&& (31 : Int32)) = (6 : Int32)
                  · rw [if_pos c87] at hq
                    refine r_tab odL_law rfl c87 (t := 398) rfl ?_
                    refine mB_run odL_law 5 (g := (403, [(0, .retAddr 0), (1, .ref 0), (2, .ref 239), (3, .int x3)], [.int (x3 + (1 : Int32)), .retAddr 0, .ref 0], (hM C s), 2202, 110072)) rfl ?_
                    by_cases c88 : (x3 + (1 : Int32)) < 0 ∨ L ≤ (x3 + (1 : Int32)).toNatClampNeg
                    · rw [if_pos c88] at hq; cases hq
                    rw [if_neg c88] at hq
                    refine mL_ld odL_law rfl c88 ?_
                    refine mB_run odL_law 4 (g := (408, [(0, .retAddr 0), (1, .ref 0), (2, .ref 239), (3, .int x3)], [.int (x3 + (2 : Int32)), .retAddr 0, .int (xs (x3 + (1 : Int32)).toNatClampNeg), .ref 0], (hM C s), 2202, 110072)) rfl ?_
                    by_cases c89 : (x3 + (2 : Int32)) < 0 ∨ L ≤ (x3 + (2 : Int32)).toNatClampNeg
                    · rw [if_pos c89] at hq; cases hq
                    rw [if_neg c89] at hq
                    refine mL_ld odL_law rfl c89 ?_
                    refine mB_run odL_law 4 (g := (413, [(0, .retAddr 0), (1, .ref 0), (2, .ref 239), (3, .int x3)], [.int (x3 + (3 : Int32)), .retAddr 0, .int (xs (x3 + (2 : Int32)).toNatClampNeg), .int (xs (x3 + (1 : Int32)).toNatClampNeg), .ref 0], (hM C s), 2202, 110072)) rfl ?_
                    by_cases c90 : (x3 + (3 : Int32)) < 0 ∨ L ≤ (x3 + (3 : Int32)).toNatClampNeg
                    · rw [if_pos c90] at hq; cases hq
                    rw [if_neg c90] at hq
                    refine mL_ld odL_law rfl c90 ?_
                    obtain ⟨f93, k94, hq⟩ := bsm hq
                    obtain ⟨o91, e92, hq⟩ := bsm hq
                    by_cases hC95 : o91.1.length = 239
                    case neg => rw [if_pos hC95] at hq; cases hq
                    rw [if_neg (fun z => z hC95)] at hq
                    refine mB_V (h := hM C s) (as := [.int (xs (x3 + (1 : Int32)).toNatClampNeg), .int (xs (x3 + (2 : Int32)).toNatClampNeg), .int (xs (x3 + (3 : Int32)).toNatClampNeg)]) odL_law okX6_edge lk_12_42 rfl (eaX6_edge (R := mseg s) e92) (kO_at (kO_ap k94)) rfl rfl rfl ?_
                    show mB _ mL_law (417, [(0, .retAddr 0), (1, .ref 0), (2, .ref 239), (3, .int x3)], [.int o91.2], (hM o91.1 s), 2202, 110072)
                    refine mB_run odL_law 6 (g := (423, [(0, .retAddr 0), (1, .ref 0), (2, .ref 239), (3, .int x3)], [.int (x3 + (1 : Int32)), .retAddr 0, .ref 239], (hM o91.1 s), 2202, 110072)) rfl ?_
                    by_cases c96 : (x3 + (1 : Int32)) < 0 ∨ L ≤ (x3 + (1 : Int32)).toNatClampNeg
                    · rw [if_pos c96] at hq; cases hq
                    rw [if_neg c96] at hq
                    refine mL_ld odL_law rfl c96 ?_
                    refine mB_run odL_law 4 (g := (428, [(0, .retAddr 0), (1, .ref 0), (2, .ref 239), (3, .int x3)], [.int (x3 + (2 : Int32)), .retAddr 0, .int (xs (x3 + (1 : Int32)).toNatClampNeg), .ref 239], (hM o91.1 s), 2202, 110072)) rfl ?_
                    by_cases c97 : (x3 + (2 : Int32)) < 0 ∨ L ≤ (x3 + (2 : Int32)).toNatClampNeg
                    · rw [if_pos c97] at hq; cases hq
                    rw [if_neg c97] at hq
                    refine mL_ld odL_law rfl c97 ?_
                    refine mB_run odL_law 4 (g := (433, [(0, .retAddr 0), (1, .ref 0), (2, .ref 239), (3, .int x3)], [.int (x3 + (3 : Int32)), .retAddr 0, .int (xs (x3 + (2 : Int32)).toNatClampNeg), .int (xs (x3 + (1 : Int32)).toNatClampNeg), .ref 239], (hM o91.1 s), 2202, 110072)) rfl ?_
                    by_cases c98 : (x3 + (3 : Int32)) < 0 ∨ L ≤ (x3 + (3 : Int32)).toNatClampNeg
                    · rw [if_pos c98] at hq; cases hq
                    rw [if_neg c98] at hq
                    refine mL_ld odL_law rfl c98 ?_
                    obtain ⟨o99, e100, hq⟩ := bsm hq
                    refine mB_V (h := hM o91.1 s) (as := [.int (xs (x3 + (1 : Int32)).toNatClampNeg), .int (xs (x3 + (2 : Int32)).toNatClampNeg), .int (xs (x3 + (3 : Int32)).toNatClampNeg)]) odL_law okX7_edge lk_12_45 rfl (emX7_edge hC95 e100) (kO_at (md_O hC95)) rfl rfl rfl ?_
                    show mB _ mL_law (437, [(0, .retAddr 0), (1, .ref 0), (2, .ref 239), (3, .int x3)], [.int o99.2], (hM o91.1 o99.1), 2202, 110072)
                    refine mB_run odL_law 2 (g := (1059, [(0, .retAddr 0), (1, .ref 0), (2, .ref 239), (3, .int x3)], [], (hM o91.1 o99.1), 2202, 110072)) rfl ?_
                    refine mB_lv [0, 1, 2, 3] (lv' := [(0, .retAddr 0), (1, .ref 0), (2, .ref 239), (3, .int x3)]) rfl ?_
                    exact lex_1059 ih _ _ _ hC95 hq
                  · rw [if_neg c87] at hq
                    by_cases c101 : ((xs x3.toNatClampNeg) &&& (31 : Int32)) = (7 : Int32)
                    · rw [if_pos c101] at hq
                      refine r_tab odL_law rfl c101 (t := 441) rfl ?_
                      refine mB_run odL_law 5 (g := (446, [(0, .retAddr 0), (1, .ref 0), (2, .ref 239), (3, .int x3)], [.int (x3 + (1 : Int32)), .retAddr 0, .ref 0], (hM C s), 2202, 110072)) rfl ?_
                      by_cases c102 : (x3 + (1 : Int32)) < 0 ∨ L ≤ (x3 + (1 : Int32)).toNatClampNeg
                      · rw [if_pos c102] at hq; cases hq
                      rw [if_neg c102] at hq
                      refine mL_ld odL_law rfl c102 ?_
                      refine mB_run odL_law 4 (g := (451, [(0, .retAddr 0), (1, .ref 0), (2, .ref 239), (3, .int x3)], [.int (x3 + (2 : Int32)), .retAddr 0, .int (xs (x3 + (1 : Int32)).toNatClampNeg), .ref 0], (hM C s), 2202, 110072)) rfl ?_
                      by_cases c103 : (x3 + (2 : Int32)) < 0 ∨ L ≤ (x3 + (2 : Int32)).toNatClampNeg
                      · rw [if_pos c103] at hq; cases hq
                      rw [if_neg c103] at hq
                      refine mL_ld odL_law rfl c103 ?_
                      refine mB_run odL_law 4 (g := (456, [(0, .retAddr 0), (1, .ref 0), (2, .ref 239), (3, .int x3)], [.int (x3 + (3 : Int32)), .retAddr 0, .int (xs (x3 + (2 : Int32)).toNatClampNeg), .int (xs (x3 + (1 : Int32)).toNatClampNeg), .ref 0], (hM C s), 2202, 110072)) rfl ?_
                      by_cases c104 : (x3 + (3 : Int32)) < 0 ∨ L ≤ (x3 + (3 : Int32)).toNatClampNeg
                      · rw [if_pos c104] at hq; cases hq
                      rw [if_neg c104] at hq
                      refine mL_ld odL_law rfl c104 ?_
                      obtain ⟨f107, k108, hq⟩ := bsm hq
                      obtain ⟨o105, e106, hq⟩ := bsm hq
                      by_cases hC109 : o105.1.length = 239
                      case neg => rw [if_pos hC109] at hq; cases hq
                      rw [if_neg (fun z => z hC109)] at hq
                      refine mB_V (h := hM C s) (as := [.int (xs (x3 + (1 : Int32)).toNatClampNeg), .int (xs (x3 + (2 : Int32)).toNatClampNeg), .int (xs (x3 + (3 : Int32)).toNatClampNeg)]) odL_law okX6_face lk_12_46 rfl (eaX6_face (R := mseg s) e106) (kO_at (kO_ap k108)) rfl rfl rfl ?_
                      show mB _ mL_law (460, [(0, .retAddr 0), (1, .ref 0), (2, .ref 239), (3, .int x3)], [.long o105.2], (hM o105.1 s), 2202, 110072)
                      refine mB_run odL_law 6 (g := (466, [(0, .retAddr 0), (1, .ref 0), (2, .ref 239), (3, .int x3)], [.int (x3 + (1 : Int32)), .retAddr 0, .ref 239], (hM o105.1 s), 2202, 110072)) rfl ?_
                      by_cases c110 : (x3 + (1 : Int32)) < 0 ∨ L ≤ (x3 + (1 : Int32)).toNatClampNeg
                      · rw [if_pos c110] at hq; cases hq
                      rw [if_neg c110] at hq
                      refine mL_ld odL_law rfl c110 ?_
                      refine mB_run odL_law 4 (g := (471, [(0, .retAddr 0), (1, .ref 0), (2, .ref 239), (3, .int x3)], [.int (x3 + (2 : Int32)), .retAddr 0, .int (xs (x3 + (1 : Int32)).toNatClampNeg), .ref 239], (hM o105.1 s), 2202, 110072)) rfl ?_
                      by_cases c111 : (x3 + (2 : Int32)) < 0 ∨ L ≤ (x3 + (2 : Int32)).toNatClampNeg
                      · rw [if_pos c111] at hq; cases hq
                      rw [if_neg c111] at hq
                      refine mL_ld odL_law rfl c111 ?_
                      refine mB_run odL_law 4 (g := (476, [(0, .retAddr 0), (1, .ref 0), (2, .ref 239), (3, .int x3)], [.int (x3 + (3 : Int32)), .retAddr 0, .int (xs (x3 + (2 : Int32)).toNatClampNeg), .int (xs (x3 + (1 : Int32)).toNatClampNeg), .ref 239], (hM o105.1 s), 2202, 110072)) rfl ?_
                      by_cases c112 : (x3 + (3 : Int32)) < 0 ∨ L ≤ (x3 + (3 : Int32)).toNatClampNeg
                      · rw [if_pos c112] at hq; cases hq
                      rw [if_neg c112] at hq
                      refine mL_ld odL_law rfl c112 ?_
                      obtain ⟨o113, e114, hq⟩ := bsm hq
                      refine mB_V (h := hM o105.1 s) (as := [.int (xs (x3 + (1 : Int32)).toNatClampNeg), .int (xs (x3 + (2 : Int32)).toNatClampNeg), .int (xs (x3 + (3 : Int32)).toNatClampNeg)]) odL_law okX7_face lk_12_50 rfl (emX7_face hC109 e114) (kO_at (md_O hC109)) rfl rfl rfl ?_
                      show mB _ mL_law (480, [(0, .retAddr 0), (1, .ref 0), (2, .ref 239), (3, .int x3)], [.long o113.2], (hM o105.1 o113.1), 2202, 110072)
                      refine mB_run odL_law 2 (g := (1059, [(0, .retAddr 0), (1, .ref 0), (2, .ref 239), (3, .int x3)], [], (hM o105.1 o113.1), 2202, 110072)) rfl ?_
                      refine mB_lv [0, 1, 2, 3] (lv' := [(0, .retAddr 0), (1, .ref 0), (2, .ref 239), (3, .int x3)]) rfl ?_
                      exact lex_1059 ih _ _ _ hC109 hq
                    · rw [if_neg c101] at hq
                      by_cases c115 : ((xs x3.toNatClampNeg) &&& (31 : Int32)) = (8 : Int32)
                      · rw [if_pos c115] at hq
                        refine r_tab odL_law rfl c115 (t := 484) rfl ?_
                        refine mB_run odL_law 5 (g := (489, [(0, .retAddr 0), (1, .ref 0), (2, .ref 239), (3, .int x3)], [.int (x3 + (1 : Int32)), .retAddr 0, .ref 0], (hM C s), 2202, 110072)) rfl ?_
                        by_cases c116 : (x3 + (1 : Int32)) < 0 ∨ L ≤ (x3 + (1 : Int32)).toNatClampNeg
                        · rw [if_pos c116] at hq; cases hq
                        rw [if_neg c116] at hq
                        refine mL_ld odL_law rfl c116 ?_
                        refine mB_run odL_law 4 (g := (494, [(0, .retAddr 0), (1, .ref 0), (2, .ref 239), (3, .int x3)], [.int (x3 + (2 : Int32)), .retAddr 0, .int (xs (x3 + (1 : Int32)).toNatClampNeg), .ref 0], (hM C s), 2202, 110072)) rfl ?_
                        by_cases c117 : (x3 + (2 : Int32)) < 0 ∨ L ≤ (x3 + (2 : Int32)).toNatClampNeg
                        · rw [if_pos c117] at hq; cases hq
                        rw [if_neg c117] at hq
                        refine mL_ld odL_law rfl c117 ?_
                        refine mB_run odL_law 4 (g := (499, [(0, .retAddr 0), (1, .ref 0), (2, .ref 239), (3, .int x3)], [.int (x3 + (3 : Int32)), .retAddr 0, .int (xs (x3 + (2 : Int32)).toNatClampNeg), .int (xs (x3 + (1 : Int32)).toNatClampNeg), .ref 0], (hM C s), 2202, 110072)) rfl ?_
                        by_cases c118 : (x3 + (3 : Int32)) < 0 ∨ L ≤ (x3 + (3 : Int32)).toNatClampNeg
                        · rw [if_pos c118] at hq; cases hq
                        rw [if_neg c118] at hq
                        refine mL_ld odL_law rfl c118 ?_
                        refine mB_run odL_law 4 (g := (504, [(0, .retAddr 0), (1, .ref 0), (2, .ref 239), (3, .int x3)], [.int (x3 + (4 : Int32)), .retAddr 0, .int (xs (x3 + (3 : Int32)).toNatClampNeg), .int (xs (x3 + (2 : Int32)).toNatClampNeg), .int (xs (x3 + (1 : Int32)).toNatClampNeg), .ref 0], (hM C s), 2202, 110072)) rfl ?_
                        by_cases c119 : (x3 + (4 : Int32)) < 0 ∨ L ≤ (x3 + (4 : Int32)).toNatClampNeg
                        · rw [if_pos c119] at hq; cases hq
                        rw [if_neg c119] at hq
                        refine mL_ld odL_law rfl c119 ?_
                        refine mB_run odL_law 4 (g := (509, [(0, .retAddr 0), (1, .ref 0), (2, .ref 239), (3, .int x3)], [.int (x3 + (5 : Int32)), .retAddr 0, .int (xs (x3 + (4 : Int32)).toNatClampNeg), .int (xs (x3 + (3 : Int32)).toNatClampNeg), .int (xs (x3 + (2 : Int32)).toNatClampNeg), .int (xs (x3 + (1 : Int32)).toNatClampNeg), .ref 0], (hM C s), 2202, 110072)) rfl ?_
                        by_cases c120 : (x3 + (5 : Int32)) < 0 ∨ L ≤ (x3 + (5 : Int32)).toNatClampNeg
                        · rw [if_pos c120] at hq; cases hq
                        rw [if_neg c120] at hq
                        refine mL_ld odL_law rfl c120 ?_
                        obtain ⟨f123, k124, hq⟩ := bsm hq
                        obtain ⟨o121, e122, hq⟩ := bsm hq
                        by_cases hC125 : o121.1.length = 239
                        case neg => rw [if_pos hC125] at hq; cases hq
                        rw [if_neg (fun z => z hC125)] at hq
                        refine mB_V (h := hM C s) (as := [.int (xs (x3 + (1 : Int32)).toNatClampNeg), .int (xs (x3 + (2 : Int32)).toNatClampNeg), .int (xs (x3 + (3 : Int32)).toNatClampNeg), .int (xs (x3 + (4 : Int32)).toNatClampNeg), .int (xs (x3 + (5 : Int32)).toNatClampNeg)]) odL_law okX6_in lk_12_51 rfl (eaX6_in (R := mseg s) e122) (kO_at (kO_ap k124)) rfl rfl rfl ?_
                        show mB _ mL_law (513, [(0, .retAddr 0), (1, .ref 0), (2, .ref 239), (3, .int x3)], [.int o121.2], (hM o121.1 s), 2202, 110072)
                        refine mB_run odL_law 6 (g := (519, [(0, .retAddr 0), (1, .ref 0), (2, .ref 239), (3, .int x3)], [.int (x3 + (1 : Int32)), .retAddr 0, .ref 239], (hM o121.1 s), 2202, 110072)) rfl ?_
                        by_cases c126 : (x3 + (1 : Int32)) < 0 ∨ L ≤ (x3 + (1 : Int32)).toNatClampNeg
                        · rw [if_pos c126] at hq; cases hq
                        rw [if_neg c126] at hq
                        refine mL_ld odL_law rfl c126 ?_
                        refine mB_run odL_law 4 (g := (524, [(0, .retAddr 0), (1, .ref 0), (2, .ref 239), (3, .int x3)], [.int (x3 + (2 : Int32)), .retAddr 0, .int (xs (x3 + (1 : Int32)).toNatClampNeg), .ref 239], (hM o121.1 s), 2202, 110072)) rfl ?_
                        by_cases c127 : (x3 + (2 : Int32)) < 0 ∨ L ≤ (x3 + (2 : Int32)).toNatClampNeg
                        · rw [if_pos c127] at hq; cases hq
                        rw [if_neg c127] at hq
                        refine mL_ld odL_law rfl c127 ?_
                        refine mB_run odL_law 4 (g := (529, [(0, .retAddr 0), (1, .ref 0), (2, .ref 239), (3, .int x3)], [.int (x3 + (3 : Int32)), .retAddr 0, .int (xs (x3 + (2 : Int32)).toNatClampNeg), .int (xs (x3 + (1 : Int32)).toNatClampNeg), .ref 239], (hM o121.1 s), 2202, 110072)) rfl ?_
                        by_cases c128 : (x3 + (3 : Int32)) < 0 ∨ L ≤ (x3 + (3 : Int32)).toNatClampNeg
                        · rw [if_pos c128] at hq; cases hq
                        rw [if_neg c128] at hq
                        refine mL_ld odL_law rfl c128 ?_
                        refine mB_run odL_law 4 (g := (534, [(0, .retAddr 0), (1, .ref 0), (2, .ref 239), (3, .int x3)], [.int (x3 + (4 : Int32)), .retAddr 0, .int (xs (x3 + (3 : Int32)).toNatClampNeg), .int (xs (x3 + (2 : Int32)).toNatClampNeg), .int (xs (x3 + (1 : Int32)).toNatClampNeg), .ref 239], (hM o121.1 s), 2202, 110072)) rfl ?_
                        by_cases c129 : (x3 + (4 : Int32)) < 0 ∨ L ≤ (x3 + (4 : Int32)).toNatClampNeg
                        · rw [if_pos c129] at hq; cases hq
                        rw [if_neg c129] at hq
                        refine mL_ld odL_law rfl c129 ?_
                        refine mB_run odL_law 4 (g := (539, [(0, .retAddr 0), (1, .ref 0), (2, .ref 239), (3, .int x3)], [.int (x3 + (5 : Int32)), .retAddr 0, .int (xs (x3 + (4 : Int32)).toNatClampNeg), .int (xs (x3 + (3 : Int32)).toNatClampNeg), .int (xs (x3 + (2 : Int32)).toNatClampNeg), .int (xs (x3 + (1 : Int32)).toNatClampNeg), .ref 239], (hM o121.1 s), 2202, 110072)) rfl ?_
                        by_cases c130 : (x3 + (5 : Int32)) < 0 ∨ L ≤ (x3 + (5 : Int32)).toNatClampNeg
                        · rw [if_pos c130] at hq; cases hq
                        rw [if_neg c130] at hq
                        refine mL_ld odL_law rfl c130 ?_
                        obtain ⟨o131, e132, hq⟩ := bsm hq
                        refine mB_V (h := hM o121.1 s) (as := [.int (xs (x3 + (1 : Int32)).toNatClampNeg), .int (xs (x3 + (2 : Int32)).toNatClampNeg), .int (xs (x3 + (3 : Int32)).toNatClampNeg), .int (xs (x3 + (4 : Int32)).toNatClampNeg), .int (xs (x3 + (5 : Int32)).toNatClampNeg)]) odL_law okX7_in lk_12_55 rfl (emX7_in hC125 e132) (kO_at (md_O hC125)) rfl rfl rfl ?_
                        show mB _ mL_law (543, [(0, .retAddr 0), (1, .ref 0), (2, .ref 239), (3, .int x3)], [.int o131.2], (hM o121.1 o131.1), 2202, 110072)
                        refine mB_run odL_law 2 (g := (1059, [(0, .retAddr 0), (1, .ref 0), (2, .ref 239), (3, .int x3)], [], (hM o121.1 o131.1), 2202, 110072)) rfl ?_
                        refine mB_lv [0, 1, 2, 3] (lv' := [(0, .retAddr 0), (1, .ref 0), (2, .ref 239), (3, .int x3)]) rfl ?_
                        exact lex_1059 ih _ _ _ hC125 hq
                      · rw [if_neg c115] at hq
                        by_cases c133 : ((xs x3.toNatClampNeg) &&& (31 : Int32)) = (9 : Int32)
                        · rw [if_pos c133] at hq
                          refine r_tab odL_law rfl c133 (t := 547) rfl ?_
                          refine mB_run odL_law 5 (g := (552, [(0, .retAddr 0), (1, .ref 0), (2, .ref 239), (3, .int x3)], [.int (x3 + (1 : Int32)), .retAddr 0, .ref 0], (hM C s), 2202, 110072)) rfl ?_
                          by_cases c134 : (x3 + (1 : Int32)) < 0 ∨ L ≤ (x3 + (1 : Int32)).toNatClampNeg
                          · rw [if_pos c134] at hq; cases hq
                          rw [if_neg c134] at hq
                          refine mL_ld odL_law rfl c134 ?_
                          refine mB_run odL_law 4 (g := (557, [(0, .retAddr 0), (1, .ref 0), (2, .ref 239), (3, .int x3)], [.int (x3 + (2 : Int32)), .retAddr 0, .int (xs (x3 + (1 : Int32)).toNatClampNeg), .ref 0], (hM C s), 2202, 110072)) rfl ?_
                          by_cases c135 : (x3 + (2 : Int32)) < 0 ∨ L ≤ (x3 + (2 : Int32)).toNatClampNeg
                          · rw [if_pos c135] at hq; cases hq
                          rw [if_neg c135] at hq
                          refine mL_ld odL_law rfl c135 ?_
                          refine mB_run odL_law 4 (g := (562, [(0, .retAddr 0), (1, .ref 0), (2, .ref 239), (3, .int x3)], [.int (x3 + (3 : Int32)), .retAddr 0, .int (xs (x3 + (2 : Int32)).toNatClampNeg), .int (xs (x3 + (1 : Int32)).toNatClampNeg), .ref 0], (hM C s), 2202, 110072)) rfl ?_
                          by_cases c136 : (x3 + (3 : Int32)) < 0 ∨ L ≤ (x3 + (3 : Int32)).toNatClampNeg
                          · rw [if_pos c136] at hq; cases hq
                          rw [if_neg c136] at hq
                          refine mL_ld odL_law rfl c136 ?_
                          refine mB_run odL_law 4 (g := (567, [(0, .retAddr 0), (1, .ref 0), (2, .ref 239), (3, .int x3)], [.int (x3 + (4 : Int32)), .retAddr 0, .int (xs (x3 + (3 : Int32)).toNatClampNeg), .int (xs (x3 + (2 : Int32)).toNatClampNeg), .int (xs (x3 + (1 : Int32)).toNatClampNeg), .ref 0], (hM C s), 2202, 110072)) rfl ?_
                          by_cases c137 : (x3 + (4 : Int32)) < 0 ∨ L ≤ (x3 + (4 : Int32)).toNatClampNeg
                          · rw [if_pos c137] at hq; cases hq
                          rw [if_neg c137] at hq
                          refine mL_ld odL_law rfl c137 ?_
                          refine mB_run odL_law 4 (g := (572, [(0, .retAddr 0), (1, .ref 0), (2, .ref 239), (3, .int x3)], [.int (x3 + (5 : Int32)), .retAddr 0, .int (xs (x3 + (4 : Int32)).toNatClampNeg), .int (xs (x3 + (3 : Int32)).toNatClampNeg), .int (xs (x3 + (2 : Int32)).toNatClampNeg), .int (xs (x3 + (1 : Int32)).toNatClampNeg), .ref 0], (hM C s), 2202, 110072)) rfl ?_
                          by_cases c138 : (x3 + (5 : Int32)) < 0 ∨ L ≤ (x3 + (5 : Int32)).toNatClampNeg
                          · rw [if_pos c138] at hq; cases hq
                          rw [if_neg c138] at hq
                          refine mL_ld odL_law rfl c138 ?_
                          obtain ⟨f141, k142, hq⟩ := bsm hq
                          obtain ⟨o139, e140, hq⟩ := bsm hq
                          by_cases hC143 : o139.1.length = 239
                          case neg => rw [if_pos hC143] at hq; cases hq
                          rw [if_neg (fun z => z hC143)] at hq
                          refine mB_V (h := hM C s) (as := [.int (xs (x3 + (1 : Int32)).toNatClampNeg), .int (xs (x3 + (2 : Int32)).toNatClampNeg), .int (xs (x3 + (3 : Int32)).toNatClampNeg), .int (xs (x3 + (4 : Int32)).toNatClampNeg), .int (xs (x3 + (5 : Int32)).toNatClampNeg)]) odL_law okX6_side lk_12_56 rfl (eaX6_side (R := mseg s) e140) (kO_at (kO_ap k142)) rfl rfl rfl ?_
                          show mB _ mL_law (576, [(0, .retAddr 0), (1, .ref 0), (2, .ref 239), (3, .int x3)], [.int o139.2], (hM o139.1 s), 2202, 110072)
                          refine mB_run odL_law 6 (g := (582, [(0, .retAddr 0), (1, .ref 0), (2, .ref 239), (3, .int x3)], [.int (x3 + (1 : Int32)), .retAddr 0, .ref 239], (hM o139.1 s), 2202, 110072)) rfl ?_
                          by_cases c144 : (x3 + (1 : Int32)) < 0 ∨ L ≤ (x3 + (1 : Int32)).toNatClampNeg
                          · rw [if_pos c144] at hq; cases hq
                          rw [if_neg c144] at hq
                          refine mL_ld odL_law rfl c144 ?_
                          refine mB_run odL_law 4 (g := (587, [(0, .retAddr 0), (1, .ref 0), (2, .ref 239), (3, .int x3)], [.int (x3 + (2 : Int32)), .retAddr 0, .int (xs (x3 + (1 : Int32)).toNatClampNeg), .ref 239], (hM o139.1 s), 2202, 110072)) rfl ?_
                          by_cases c145 : (x3 + (2 : Int32)) < 0 ∨ L ≤ (x3 + (2 : Int32)).toNatClampNeg
                          · rw [if_pos c145] at hq; cases hq
                          rw [if_neg c145] at hq
                          refine mL_ld odL_law rfl c145 ?_
                          refine mB_run odL_law 4 (g := (592, [(0, .retAddr 0), (1, .ref 0), (2, .ref 239), (3, .int x3)], [.int (x3 + (3 : Int32)), .retAddr 0, .int (xs (x3 + (2 : Int32)).toNatClampNeg), .int (xs (x3 + (1 : Int32)).toNatClampNeg), .ref 239], (hM o139.1 s), 2202, 110072)) rfl ?_
                          by_cases c146 : (x3 + (3 : Int32)) < 0 ∨ L ≤ (x3 + (3 : Int32)).toNatClampNeg
                          · rw [if_pos c146] at hq; cases hq
                          rw [if_neg c146] at hq
                          refine mL_ld odL_law rfl c146 ?_
                          refine mB_run odL_law 4 (g := (597, [(0, .retAddr 0), (1, .ref 0), (2, .ref 239), (3, .int x3)], [.int (x3 + (4 : Int32)), .retAddr 0, .int (xs (x3 + (3 : Int32)).toNatClampNeg), .int (xs (x3 + (2 : Int32)).toNatClampNeg), .int (xs (x3 + (1 : Int32)).toNatClampNeg), .ref 239], (hM o139.1 s), 2202, 110072)) rfl ?_
                          by_cases c147 : (x3 + (4 : Int32)) < 0 ∨ L ≤ (x3 + (4 : Int32)).toNatClampNeg
                          · rw [if_pos c147] at hq; cases hq
                          rw [if_neg c147] at hq
                          refine mL_ld odL_law rfl c147 ?_
                          refine mB_run odL_law 4 (g := (602, [(0, .retAddr 0), (1, .ref 0), (2, .ref 239), (3, .int x3)], [.int (x3 + (5 : Int32)), .retAddr 0, .int (xs (x3 + (4 : Int32)).toNatClampNeg), .int (xs (x3 + (3 : Int32)).toNatClampNeg), .int (xs (x3 + (2 : Int32)).toNatClampNeg), .int (xs (x3 + (1 : Int32)).toNatClampNeg), .ref 239], (hM o139.1 s), 2202, 110072)) rfl ?_
                          by_cases c148 : (x3 + (5 : Int32)) < 0 ∨ L ≤ (x3 + (5 : Int32)).toNatClampNeg
                          · rw [if_pos c148] at hq; cases hq
                          rw [if_neg c148] at hq
                          refine mL_ld odL_law rfl c148 ?_
                          obtain ⟨o149, e150, hq⟩ := bsm hq
                          refine mB_V (h := hM o139.1 s) (as := [.int (xs (x3 + (1 : Int32)).toNatClampNeg), .int (xs (x3 + (2 : Int32)).toNatClampNeg), .int (xs (x3 + (3 : Int32)).toNatClampNeg), .int (xs (x3 + (4 : Int32)).toNatClampNeg), .int (xs (x3 + (5 : Int32)).toNatClampNeg)]) odL_law okX7_side lk_12_59 rfl (emX7_side hC143 e150) (kO_at (md_O hC143)) rfl rfl rfl ?_
                          show mB _ mL_law (606, [(0, .retAddr 0), (1, .ref 0), (2, .ref 239), (3, .int x3)], [.int o149.2], (hM o139.1 o149.1), 2202, 110072)
                          refine mB_run odL_law 2 (g := (1059, [(0, .retAddr 0), (1, .ref 0), (2, .ref 239), (3, .int x3)], [], (hM o139.1 o149.1), 2202, 110072)) rfl ?_
                          refine mB_lv [0, 1, 2, 3] (lv' := [(0, .retAddr 0), (1, .ref 0), (2, .ref 239), (3, .int x3)]) rfl ?_
                          exact lex_1059 ih _ _ _ hC143 hq
                        · rw [if_neg c133] at hq
                          by_cases c151 : ((xs x3.toNatClampNeg) &&& (31 : Int32)) = (10 : Int32)
                          · rw [if_pos c151] at hq
                            refine r_tab odL_law rfl c151 (t := 610) rfl ?_
                            refine mB_run odL_law 5 (g := (615, [(0, .retAddr 0), (1, .ref 0), (2, .ref 239), (3, .int x3)], [.int (x3 + (1 : Int32)), .retAddr 0, .ref 0], (hM C s), 2202, 110072)) rfl ?_
                            by_cases c152 : (x3 + (1 : Int32)) < 0 ∨ L ≤ (x3 + (1 : Int32)).toNatClampNeg
                            · rw [if_pos c152] at hq; cases hq
                            rw [if_neg c152] at hq
                            refine mL_ld odL_law rfl c152 ?_
                            obtain ⟨f155, k156, hq⟩ := bsm hq
                            obtain ⟨o153, e154, hq⟩ := bsm hq
                            by_cases hC157 : o153.1.length = 239
                            case neg => rw [if_pos hC157] at hq; cases hq
                            rw [if_neg (fun z => z hC157)] at hq
                            refine mB_V (h := hM C s) (as := [.int (xs (x3 + (1 : Int32)).toNatClampNeg)]) odL_law okX6_volume lk_12_60 rfl (eaX6_volume (R := mseg s) e154) (kO_at (kO_ap k156)) rfl rfl rfl ?_
                            show mB _ mL_law (619, [(0, .retAddr 0), (1, .ref 0), (2, .ref 239), (3, .int x3)], [.long o153.2], (hM o153.1 s), 2202, 110072)
                            refine mB_run odL_law 6 (g := (625, [(0, .retAddr 0), (1, .ref 0), (2, .ref 239), (3, .int x3)], [.int (x3 + (1 : Int32)), .retAddr 0, .ref 239], (hM o153.1 s), 2202, 110072)) rfl ?_
                            by_cases c158 : (x3 + (1 : Int32)) < 0 ∨ L ≤ (x3 + (1 : Int32)).toNatClampNeg
                            · rw [if_pos c158] at hq; cases hq
                            rw [if_neg c158] at hq
                            refine mL_ld odL_law rfl c158 ?_
                            obtain ⟨o159, e160, hq⟩ := bsm hq
                            refine mB_V (h := hM o153.1 s) (as := [.int (xs (x3 + (1 : Int32)).toNatClampNeg)]) odL_law okX7_volume lk_12_64 rfl (emX7_volume hC157 e160) (kO_at (md_O hC157)) rfl rfl rfl ?_
                            show mB _ mL_law (629, [(0, .retAddr 0), (1, .ref 0), (2, .ref 239), (3, .int x3)], [.long o159.2], (hM o153.1 o159.1), 2202, 110072)
                            refine mB_run odL_law 2 (g := (1059, [(0, .retAddr 0), (1, .ref 0), (2, .ref 239), (3, .int x3)], [], (hM o153.1 o159.1), 2202, 110072)) rfl ?_
                            refine mB_lv [0, 1, 2, 3] (lv' := [(0, .retAddr 0), (1, .ref 0), (2, .ref 239), (3, .int x3)]) rfl ?_
                            exact lex_1059 ih _ _ _ hC157 hq
                          · rw [if_neg c151] at hq
                            by_cases c161 : ((xs x3.toNatClampNeg) &&& (31 : Int32)) = (11 : Int32)
                            · rw [if_pos c161] at hq
                              refine r_tab odL_law rfl c161 (t := 633) rfl ?_
                              refine mB_run odL_law 5 (g := (638, [(0, .retAddr 0), (1, .ref 0), (2, .ref 239), (3, .int x3)], [.int (x3 + (1 : Int32)), .retAddr 0, .ref 0], (hM C s), 2202, 110072)) rfl ?_
                              by_cases c162 : (x3 + (1 : Int32)) < 0 ∨ L ≤ (x3 + (1 : Int32)).toNatClampNeg
                              · rw [if_pos c162] at hq; cases hq
                              rw [if_neg c162] at hq
                              refine mL_ld odL_law rfl c162 ?_
                              refine mB_run odL_law 4 (g := (643, [(0, .retAddr 0), (1, .ref 0), (2, .ref 239), (3, .int x3)], [.int (x3 + (2 : Int32)), .retAddr 0, .int (xs (x3 + (1 : Int32)).toNatClampNeg), .ref 0], (hM C s), 2202, 110072)) rfl ?_
                              by_cases c163 : (x3 + (2 : Int32)) < 0 ∨ L ≤ (x3 + (2 : Int32)).toNatClampNeg
                              · rw [if_pos c163] at hq; cases hq
                              rw [if_neg c163] at hq
                              refine mL_ld odL_law rfl c163 ?_
                              refine mB_run odL_law 4 (g := (648, [(0, .retAddr 0), (1, .ref 0), (2, .ref 239), (3, .int x3)], [.int (x3 + (3 : Int32)), .retAddr 0, .int (xs (x3 + (2 : Int32)).toNatClampNeg), .int (xs (x3 + (1 : Int32)).toNatClampNeg), .ref 0], (hM C s), 2202, 110072)) rfl ?_
                              by_cases c164 : (x3 + (3 : Int32)) < 0 ∨ L ≤ (x3 + (3 : Int32)).toNatClampNeg
                              · rw [if_pos c164] at hq; cases hq
                              rw [if_neg c164] at hq
                              refine mL_ld odL_law rfl c164 ?_
                              obtain ⟨f167, k168, hq⟩ := bsm hq
                              obtain ⟨o165, e166, hq⟩ := bsm hq
                              by_cases hC169 : o165.1.length = 239
                              case neg => rw [if_pos hC169] at hq; cases hq
                              rw [if_neg (fun z => z hC169)] at hq
                              refine mB_V (h := hM C s) (as := [.int (xs (x3 + (1 : Int32)).toNatClampNeg), .int (xs (x3 + (2 : Int32)).toNatClampNeg), .int (xs (x3 + (3 : Int32)).toNatClampNeg)]) odL_law okX6_middle lk_12_65 rfl (eaX6_middle (R := mseg s) e166) (kO_at (kO_ap k168)) rfl rfl rfl ?_
                              show mB _ mL_law (652, [(0, .retAddr 0), (1, .ref 0), (2, .ref 239), (3, .int x3)], [.long o165.2], (hM o165.1 s), 2202, 110072)
                              refine mB_run odL_law 6 (g := (658, [(0, .retAddr 0), (1, .ref 0), (2, .ref 239), (3, .int x3)], [.int (x3 + (1 : Int32)), .retAddr 0, .ref 239], (hM o165.1 s), 2202, 110072)) rfl ?_
                              by_cases c170 : (x3 + (1 : Int32)) < 0 ∨ L ≤ (x3 + (1 : Int32)).toNatClampNeg
                              · rw [if_pos c170] at hq; cases hq
                              rw [if_neg c170] at hq
                              refine mL_ld odL_law rfl c170 ?_
                              refine mB_run odL_law 4 (g := (663, [(0, .retAddr 0), (1, .ref 0), (2, .ref 239), (3, .int x3)], [.int (x3 + (2 : Int32)), .retAddr 0, .int (xs (x3 + (1 : Int32)).toNatClampNeg), .ref 239], (hM o165.1 s), 2202, 110072)) rfl ?_
                              by_cases c171 : (x3 + (2 : Int32)) < 0 ∨ L ≤ (x3 + (2 : Int32)).toNatClampNeg
                              · rw [if_pos c171] at hq; cases hq
                              rw [if_neg c171] at hq
                              refine mL_ld odL_law rfl c171 ?_
                              refine mB_run odL_law 4 (g := (668, [(0, .retAddr 0), (1, .ref 0), (2, .ref 239), (3, .int x3)], [.int (x3 + (3 : Int32)), .retAddr 0, .int (xs (x3 + (2 : Int32)).toNatClampNeg), .int (xs (x3 + (1 : Int32)).toNatClampNeg), .ref 239], (hM o165.1 s), 2202, 110072)) rfl ?_
                              by_cases c172 : (x3 + (3 : Int32)) < 0 ∨ L ≤ (x3 + (3 : Int32)).toNatClampNeg
                              · rw [if_pos c172] at hq; cases hq
                              rw [if_neg c172] at hq
                              refine mL_ld odL_law rfl c172 ?_
                              obtain ⟨o173, e174, hq⟩ := bsm hq
                              refine mB_V (h := hM o165.1 s) (as := [.int (xs (x3 + (1 : Int32)).toNatClampNeg), .int (xs (x3 + (2 : Int32)).toNatClampNeg), .int (xs (x3 + (3 : Int32)).toNatClampNeg)]) odL_law okX7_middle lk_12_68 rfl (emX7_middle hC169 e174) (kO_at (md_O hC169)) rfl rfl rfl ?_
                              show mB _ mL_law (672, [(0, .retAddr 0), (1, .ref 0), (2, .ref 239), (3, .int x3)], [.long o173.2], (hM o165.1 o173.1), 2202, 110072)
                              refine mB_run odL_law 2 (g := (1059, [(0, .retAddr 0), (1, .ref 0), (2, .ref 239), (3, .int x3)], [], (hM o165.1 o173.1), 2202, 110072)) rfl ?_
                              refine mB_lv [0, 1, 2, 3] (lv' := [(0, .retAddr 0), (1, .ref 0), (2, .ref 239), (3, .int x3)]) rfl ?_
                              exact lex_1059 ih _ _ _ hC169 hq
                            · rw [if_neg c161] at hq
                              by_cases c175 : ((xs x3.toNatClampNeg) &&& (31 : Int32)) = (12 : Int32)
                              · rw [if_pos c175] at hq
                                refine r_tab odL_law rfl c175 (t := 676) rfl ?_
                                refine mB_run odL_law 5 (g := (681, [(0, .retAddr 0), (1, .ref 0), (2, .ref 239), (3, .int x3)], [.int (x3 + (1 : Int32)), .retAddr 0, .ref 0], (hM C s), 2202, 110072)) rfl ?_
                                by_cases c176 : (x3 + (1 : Int32)) < 0 ∨ L ≤ (x3 + (1 : Int32)).toNatClampNeg
                                · rw [if_pos c176] at hq; cases hq
                                rw [if_neg c176] at hq
                                refine mL_ld odL_law rfl c176 ?_
                                refine mB_run odL_law 4 (g := (686, [(0, .retAddr 0), (1, .ref 0), (2, .ref 239), (3, .int x3)], [.int (x3 + (2 : Int32)), .retAddr 0, .int (xs (x3 + (1 : Int32)).toNatClampNeg), .ref 0], (hM C s), 2202, 110072)) rfl ?_
                                by_cases c177 : (x3 + (2 : Int32)) < 0 ∨ L ≤ (x3 + (2 : Int32)).toNatClampNeg
                                · rw [if_pos c177] at hq; cases hq
                                rw [if_neg c177] at hq
                                refine mL_ld odL_law rfl c177 ?_
                                obtain ⟨f180, k181, hq⟩ := bsm hq
                                obtain ⟨o178, e179, hq⟩ := bsm hq
                                by_cases hC182 : o178.1.length = 239
                                case neg => rw [if_pos hC182] at hq; cases hq
                                rw [if_neg (fun z => z hC182)] at hq
                                refine mB_V (h := hM C s) (as := [.int (xs (x3 + (1 : Int32)).toNatClampNeg), .int (xs (x3 + (2 : Int32)).toNatClampNeg)]) odL_law okX6_far lk_12_69 rfl (eaX6_far (R := mseg s) e179) (kO_at (kO_ap k181)) rfl rfl rfl ?_
                                show mB _ mL_law (690, [(0, .retAddr 0), (1, .ref 0), (2, .ref 239), (3, .int x3)], [.int o178.2], (hM o178.1 s), 2202, 110072)
                                refine mB_run odL_law 6 (g := (696, [(0, .retAddr 0), (1, .ref 0), (2, .ref 239), (3, .int x3)], [.int (x3 + (1 : Int32)), .retAddr 0, .ref 239], (hM o178.1 s), 2202, 110072)) rfl ?_
                                by_cases c183 : (x3 + (1 : Int32)) < 0 ∨ L ≤ (x3 + (1 : Int32)).toNatClampNeg
                                · rw [if_pos c183] at hq; cases hq
                                rw [if_neg c183] at hq
                                refine mL_ld odL_law rfl c183 ?_
                                refine mB_run odL_law 4 (g := (701, [(0, .retAddr 0), (1, .ref 0), (2, .ref 239), (3, .int x3)], [.int (x3 + (2 : Int32)), .retAddr 0, .int (xs (x3 + (1 : Int32)).toNatClampNeg), .ref 239], (hM o178.1 s), 2202, 110072)) rfl ?_
                                by_cases c184 : (x3 + (2 : Int32)) < 0 ∨ L ≤ (x3 + (2 : Int32)).toNatClampNeg
                                · rw [if_pos c184] at hq; cases hq
                                rw [if_neg c184] at hq
                                refine mL_ld odL_law rfl c184 ?_
                                obtain ⟨o185, e186, hq⟩ := bsm hq
                                refine mB_V (h := hM o178.1 s) (as := [.int (xs (x3 + (1 : Int32)).toNatClampNeg), .int (xs (x3 + (2 : Int32)).toNatClampNeg)]) odL_law okX7_far lk_12_72 rfl (emX7_far hC182 e186) (kO_at (md_O hC182)) rfl rfl rfl ?_
                                show mB _ mL_law (705, [(0, .retAddr 0), (1, .ref 0), (2, .ref 239), (3, .int x3)], [.int o185.2], (hM o178.1 o185.1), 2202, 110072)
                                refine mB_run odL_law 2 (g := (1059, [(0, .retAddr 0), (1, .ref 0), (2, .ref 239), (3, .int x3)], [], (hM o178.1 o185.1), 2202, 110072)) rfl ?_
                                refine mB_lv [0, 1, 2, 3] (lv' := [(0, .retAddr 0), (1, .ref 0), (2, .ref 239), (3, .int x3)]) rfl ?_
                                exact lex_1059 ih _ _ _ hC182 hq
                              · rw [if_neg c175] at hq
                                by_cases c187 : ((xs x3.toNatClampNeg) &&& (31 : Int32)) = (13 : Int32)
                                · rw [if_pos c187] at hq
                                  refine r_tab odL_law rfl c187 (t := 709) rfl ?_
                                  refine mB_run odL_law 5 (g := (714, [(0, .retAddr 0), (1, .ref 0), (2, .ref 239), (3, .int x3)], [.int (x3 + (1 : Int32)), .retAddr 0, .ref 0], (hM C s), 2202, 110072)) rfl ?_
                                  by_cases c188 : (x3 + (1 : Int32)) < 0 ∨ L ≤ (x3 + (1 : Int32)).toNatClampNeg
                                  · rw [if_pos c188] at hq; cases hq
                                  rw [if_neg c188] at hq
                                  refine mL_ld odL_law rfl c188 ?_
                                  refine mB_run odL_law 4 (g := (719, [(0, .retAddr 0), (1, .ref 0), (2, .ref 239), (3, .int x3)], [.int (x3 + (2 : Int32)), .retAddr 0, .int (xs (x3 + (1 : Int32)).toNatClampNeg), .ref 0], (hM C s), 2202, 110072)) rfl ?_
                                  by_cases c189 : (x3 + (2 : Int32)) < 0 ∨ L ≤ (x3 + (2 : Int32)).toNatClampNeg
                                  · rw [if_pos c189] at hq; cases hq
                                  rw [if_neg c189] at hq
                                  refine mL_ld odL_law rfl c189 ?_
                                  obtain ⟨f192, k193, hq⟩ := bsm hq
                                  obtain ⟨o190, e191, hq⟩ := bsm hq
                                  by_cases hC194 : o190.1.length = 239
                                  case neg => rw [if_pos hC194] at hq; cases hq
                                  rw [if_neg (fun z => z hC194)] at hq
                                  refine mB_V (h := hM C s) (as := [.int (xs (x3 + (1 : Int32)).toNatClampNeg), .int (xs (x3 + (2 : Int32)).toNatClampNeg)]) odL_law okX6_width lk_12_73 rfl (eaX6_width (R := mseg s) e191) (kO_at (kO_ap k193)) rfl rfl rfl ?_
                                  show mB _ mL_law (723, [(0, .retAddr 0), (1, .ref 0), (2, .ref 239), (3, .int x3)], [.long o190.2], (hM o190.1 s), 2202, 110072)
                                  refine mB_run odL_law 6 (g := (729, [(0, .retAddr 0), (1, .ref 0), (2, .ref 239), (3, .int x3)], [.int (x3 + (1 : Int32)), .retAddr 0, .ref 239], (hM o190.1 s), 2202, 110072)) rfl ?_
                                  by_cases c195 : (x3 + (1 : Int32)) < 0 ∨ L ≤ (x3 + (1 : Int32)).toNatClampNeg
                                  · rw [if_pos c195] at hq; cases hq
                                  rw [if_neg c195] at hq
                                  refine mL_ld odL_law rfl c195 ?_
                                  refine mB_run odL_law 4 (g := (734, [(0, .retAddr 0), (1, .ref 0), (2, .ref 239), (3, .int x3)], [.int (x3 + (2 : Int32)), .retAddr 0, .int (xs (x3 + (1 : Int32)).toNatClampNeg), .ref 239], (hM o190.1 s), 2202, 110072)) rfl ?_
                                  by_cases c196 : (x3 + (2 : Int32)) < 0 ∨ L ≤ (x3 + (2 : Int32)).toNatClampNeg
                                  · rw [if_pos c196] at hq; cases hq
                                  rw [if_neg c196] at hq
                                  refine mL_ld odL_law rfl c196 ?_
                                  obtain ⟨o197, e198, hq⟩ := bsm hq
                                  refine mB_V (h := hM o190.1 s) (as := [.int (xs (x3 + (1 : Int32)).toNatClampNeg), .int (xs (x3 + (2 : Int32)).toNatClampNeg)]) odL_law okX7_width lk_12_77 rfl (emX7_width hC194 e198) (kO_at (md_O hC194)) rfl rfl rfl ?_
                                  show mB _ mL_law (738, [(0, .retAddr 0), (1, .ref 0), (2, .ref 239), (3, .int x3)], [.long o197.2], (hM o190.1 o197.1), 2202, 110072)
                                  refine mB_run odL_law 2 (g := (1059, [(0, .retAddr 0), (1, .ref 0), (2, .ref 239), (3, .int x3)], [], (hM o190.1 o197.1), 2202, 110072)) rfl ?_
                                  refine mB_lv [0, 1, 2, 3] (lv' := [(0, .retAddr 0), (1, .ref 0), (2, .ref 239), (3, .int x3)]) rfl ?_
                                  exact lex_1059 ih _ _ _ hC194 hq
                                · rw [if_neg c187] at hq
                                  by_cases c199 : ((xs x3.toNatClampNeg) &&& (31 : Int32)) = (14 : Int32)
                                  · rw [if_pos c199] at hq
                                    refine r_tab odL_law rfl c199 (t := 742) rfl ?_
                                    refine mB_run odL_law 5 (g := (747, [(0, .retAddr 0), (1, .ref 0), (2, .ref 239), (3, .int x3)], [.int (x3 + (1 : Int32)), .retAddr 0, .ref 0], (hM C s), 2202, 110072)) rfl ?_
                                    by_cases c200 : (x3 + (1 : Int32)) < 0 ∨ L ≤ (x3 + (1 : Int32)).toNatClampNeg
                                    · rw [if_pos c200] at hq; cases hq
                                    rw [if_neg c200] at hq
                                    refine mL_ld odL_law rfl c200 ?_
                                    refine mB_run odL_law 4 (g := (752, [(0, .retAddr 0), (1, .ref 0), (2, .ref 239), (3, .int x3)], [.int (x3 + (2 : Int32)), .retAddr 0, .int (xs (x3 + (1 : Int32)).toNatClampNeg), .ref 0], (hM C s), 2202, 110072)) rfl ?_
                                    by_cases c201 : (x3 + (2 : Int32)) < 0 ∨ L ≤ (x3 + (2 : Int32)).toNatClampNeg
                                    · rw [if_pos c201] at hq; cases hq
                                    rw [if_neg c201] at hq
                                    refine mL_ld odL_law rfl c201 ?_
                                    refine mB_run odL_law 4 (g := (757, [(0, .retAddr 0), (1, .ref 0), (2, .ref 239), (3, .int x3)], [.int (x3 + (3 : Int32)), .retAddr 0, .int (xs (x3 + (2 : Int32)).toNatClampNeg), .int (xs (x3 + (1 : Int32)).toNatClampNeg), .ref 0], (hM C s), 2202, 110072)) rfl ?_
                                    by_cases c202 : (x3 + (3 : Int32)) < 0 ∨ L ≤ (x3 + (3 : Int32)).toNatClampNeg
                                    · rw [if_pos c202] at hq; cases hq
                                    rw [if_neg c202] at hq
                                    refine mL_ld odL_law rfl c202 ?_
                                    obtain ⟨f205, k206, hq⟩ := bsm hq
                                    obtain ⟨o203, e204, hq⟩ := bsm hq
                                    by_cases hC207 : o203.1.length = 239
                                    case neg => rw [if_pos hC207] at hq; cases hq
                                    rw [if_neg (fun z => z hC207)] at hq
                                    refine mB_V (h := hM C s) (as := [.int (xs (x3 + (1 : Int32)).toNatClampNeg), .int (xs (x3 + (2 : Int32)).toNatClampNeg), .int (xs (x3 + (3 : Int32)).toNatClampNeg)]) odL_law okX6_sum lk_12_78 rfl (eaX6_sum (R := mseg s) e204) (kO_at (kO_ap k206)) rfl rfl rfl ?_
                                    show mB _ mL_law (761, [(0, .retAddr 0), (1, .ref 0), (2, .ref 239), (3, .int x3)], [.int o203.2], (hM o203.1 s), 2202, 110072)
                                    refine mB_run odL_law 6 (g := (767, [(0, .retAddr 0), (1, .ref 0), (2, .ref 239), (3, .int x3)], [.int (x3 + (1 : Int32)), .retAddr 0, .ref 239], (hM o203.1 s), 2202, 110072)) rfl ?_
                                    by_cases c208 : (x3 + (1 : Int32)) < 0 ∨ L ≤ (x3 + (1 : Int32)).toNatClampNeg
                                    · rw [if_pos c208] at hq; cases hq
                                    rw [if_neg c208] at hq
                                    refine mL_ld odL_law rfl c208 ?_
                                    refine mB_run odL_law 4 (g := (772, [(0, .retAddr 0), (1, .ref 0), (2, .ref 239), (3, .int x3)], [.int (x3 + (2 : Int32)), .retAddr 0, .int (xs (x3 + (1 : Int32)).toNatClampNeg), .ref 239], (hM o203.1 s), 2202, 110072)) rfl ?_
                                    by_cases c209 : (x3 + (2 : Int32)) < 0 ∨ L ≤ (x3 + (2 : Int32)).toNatClampNeg
                                    · rw [if_pos c209] at hq; cases hq
                                    rw [if_neg c209] at hq
                                    refine mL_ld odL_law rfl c209 ?_
                                    refine mB_run odL_law 4 (g := (777, [(0, .retAddr 0), (1, .ref 0), (2, .ref 239), (3, .int x3)], [.int (x3 + (3 : Int32)), .retAddr 0, .int (xs (x3 + (2 : Int32)).toNatClampNeg), .int (xs (x3 + (1 : Int32)).toNatClampNeg), .ref 239], (hM o203.1 s), 2202, 110072)) rfl ?_
                                    by_cases c210 : (x3 + (3 : Int32)) < 0 ∨ L ≤ (x3 + (3 : Int32)).toNatClampNeg
                                    · rw [if_pos c210] at hq; cases hq
                                    rw [if_neg c210] at hq
                                    refine mL_ld odL_law rfl c210 ?_
                                    obtain ⟨o211, e212, hq⟩ := bsm hq
                                    refine mB_V (h := hM o203.1 s) (as := [.int (xs (x3 + (1 : Int32)).toNatClampNeg), .int (xs (x3 + (2 : Int32)).toNatClampNeg), .int (xs (x3 + (3 : Int32)).toNatClampNeg)]) odL_law okX7_sum lk_12_81 rfl (emX7_sum hC207 e212) (kO_at (md_O hC207)) rfl rfl rfl ?_
                                    show mB _ mL_law (781, [(0, .retAddr 0), (1, .ref 0), (2, .ref 239), (3, .int x3)], [.int o211.2], (hM o203.1 o211.1), 2202, 110072)
                                    refine mB_run odL_law 2 (g := (1059, [(0, .retAddr 0), (1, .ref 0), (2, .ref 239), (3, .int x3)], [], (hM o203.1 o211.1), 2202, 110072)) rfl ?_
                                    refine mB_lv [0, 1, 2, 3] (lv' := [(0, .retAddr 0), (1, .ref 0), (2, .ref 239), (3, .int x3)]) rfl ?_
                                    exact lex_1059 ih _ _ _ hC207 hq
                                  · rw [if_neg c199] at hq
                                    by_cases c213 : ((xs x3.toNatClampNeg) &&& (31 : Int32)) = (15 : Int32)
                                    · rw [if_pos c213] at hq
                                      refine r_tab odL_law rfl c213 (t := 785) rfl ?_
                                      refine mB_run odL_law 5 (g := (790, [(0, .retAddr 0), (1, .ref 0), (2, .ref 239), (3, .int x3)], [.int (x3 + (1 : Int32)), .retAddr 0, .ref 0], (hM C s), 2202, 110072)) rfl ?_
                                      by_cases c214 : (x3 + (1 : Int32)) < 0 ∨ L ≤ (x3 + (1 : Int32)).toNatClampNeg
                                      · rw [if_pos c214] at hq; cases hq
                                      rw [if_neg c214] at hq
                                      refine mL_ld odL_law rfl c214 ?_
                                      refine mB_run odL_law 4 (g := (795, [(0, .retAddr 0), (1, .ref 0), (2, .ref 239), (3, .int x3)], [.int (x3 + (2 : Int32)), .retAddr 0, .int (xs (x3 + (1 : Int32)).toNatClampNeg), .ref 0], (hM C s), 2202, 110072)) rfl ?_
                                      by_cases c215 : (x3 + (2 : Int32)) < 0 ∨ L ≤ (x3 + (2 : Int32)).toNatClampNeg
                                      · rw [if_pos c215] at hq; cases hq
                                      rw [if_neg c215] at hq
                                      refine mL_ld odL_law rfl c215 ?_
                                      obtain ⟨f218, k219, hq⟩ := bsm hq
                                      obtain ⟨o216, e217, hq⟩ := bsm hq
                                      by_cases hC220 : o216.1.length = 239
                                      case neg => rw [if_pos hC220] at hq; cases hq
                                      rw [if_neg (fun z => z hC220)] at hq
                                      refine mB_V (h := hM C s) (as := [.int (xs (x3 + (1 : Int32)).toNatClampNeg), .int (xs (x3 + (2 : Int32)).toNatClampNeg)]) odL_law okX6_apart lk_12_82 rfl (eaX6_apart (R := mseg s) e217) (kO_at (kO_ap k219)) rfl rfl rfl ?_
                                      show mB _ mL_law (799, [(0, .retAddr 0), (1, .ref 0), (2, .ref 239), (3, .int x3)], [.int o216.2], (hM o216.1 s), 2202, 110072)
                                      refine mB_run odL_law 6 (g := (805, [(0, .retAddr 0), (1, .ref 0), (2, .ref 239), (3, .int x3)], [.int (x3 + (1 : Int32)), .retAddr 0, .ref 239], (hM o216.1 s), 2202, 110072)) rfl ?_
                                      by_cases c221 : (x3 + (1 : Int32)) < 0 ∨ L ≤ (x3 + (1 : Int32)).toNatClampNeg
                                      · rw [if_pos c221] at hq; cases hq
                                      rw [if_neg c221] at hq
                                      refine mL_ld odL_law rfl c221 ?_
                                      refine mB_run odL_law 4 (g := (810, [(0, .retAddr 0), (1, .ref 0), (2, .ref 239), (3, .int x3)], [.int (x3 + (2 : Int32)), .retAddr 0, .int (xs (x3 + (1 : Int32)).toNatClampNeg), .ref 239], (hM o216.1 s), 2202, 110072)) rfl ?_
                                      by_cases c222 : (x3 + (2 : Int32)) < 0 ∨ L ≤ (x3 + (2 : Int32)).toNatClampNeg
                                      · rw [if_pos c222] at hq; cases hq
                                      rw [if_neg c222] at hq
                                      refine mL_ld odL_law rfl c222 ?_
                                      obtain ⟨o223, e224, hq⟩ := bsm hq
                                      refine mB_V (h := hM o216.1 s) (as := [.int (xs (x3 + (1 : Int32)).toNatClampNeg), .int (xs (x3 + (2 : Int32)).toNatClampNeg)]) odL_law okX7_apart lk_12_85 rfl (emX7_apart hC220 e224) (kO_at (md_O hC220)) rfl rfl rfl ?_
                                      show mB _ mL_law (814, [(0, .retAddr 0), (1, .ref 0), (2, .ref 239), (3, .int x3)], [.int o223.2], (hM o216.1 o223.1), 2202, 110072)
                                      refine mB_run odL_law 2 (g := (1059, [(0, .retAddr 0), (1, .ref 0), (2, .ref 239), (3, .int x3)], [], (hM o216.1 o223.1), 2202, 110072)) rfl ?_
                                      refine mB_lv [0, 1, 2, 3] (lv' := [(0, .retAddr 0), (1, .ref 0), (2, .ref 239), (3, .int x3)]) rfl ?_
                                      exact lex_1059 ih _ _ _ hC220 hq
                                    · rw [if_neg c213] at hq
                                      by_cases c225 : ((xs x3.toNatClampNeg) &&& (31 : Int32)) = (16 : Int32)
                                      · rw [if_pos c225] at hq
                                        refine r_tab odL_law rfl c225 (t := 818) rfl ?_
                                        refine mB_run odL_law 5 (g := (823, [(0, .retAddr 0), (1, .ref 0), (2, .ref 239), (3, .int x3)], [.int (x3 + (1 : Int32)), .retAddr 0, .ref 0], (hM C s), 2202, 110072)) rfl ?_
                                        by_cases c226 : (x3 + (1 : Int32)) < 0 ∨ L ≤ (x3 + (1 : Int32)).toNatClampNeg
                                        · rw [if_pos c226] at hq; cases hq
                                        rw [if_neg c226] at hq
                                        refine mL_ld odL_law rfl c226 ?_
                                        refine mB_run odL_law 4 (g := (828, [(0, .retAddr 0), (1, .ref 0), (2, .ref 239), (3, .int x3)], [.int (x3 + (2 : Int32)), .retAddr 0, .int (xs (x3 + (1 : Int32)).toNatClampNeg), .ref 0], (hM C s), 2202, 110072)) rfl ?_
                                        by_cases c227 : (x3 + (2 : Int32)) < 0 ∨ L ≤ (x3 + (2 : Int32)).toNatClampNeg
                                        · rw [if_pos c227] at hq; cases hq
                                        rw [if_neg c227] at hq
                                        refine mL_ld odL_law rfl c227 ?_
                                        refine mB_run odL_law 4 (g := (833, [(0, .retAddr 0), (1, .ref 0), (2, .ref 239), (3, .int x3)], [.int (x3 + (3 : Int32)), .retAddr 0, .int (xs (x3 + (2 : Int32)).toNatClampNeg), .int (xs (x3 + (1 : Int32)).toNatClampNeg), .ref 0], (hM C s), 2202, 110072)) rfl ?_
                                        by_cases c228 : (x3 + (3 : Int32)) < 0 ∨ L ≤ (x3 + (3 : Int32)).toNatClampNeg
                                        · rw [if_pos c228] at hq; cases hq
                                        rw [if_neg c228] at hq
                                        refine mL_ld odL_law rfl c228 ?_
                                        obtain ⟨f231, k232, hq⟩ := bsm hq
                                        obtain ⟨o229, e230, hq⟩ := bsm hq
                                        by_cases hC233 : o229.1.length = 239
                                        case neg => rw [if_pos hC233] at hq; cases hq
                                        rw [if_neg (fun z => z hC233)] at hq
                                        refine mB_V (h := hM C s) (as := [.int (xs (x3 + (1 : Int32)).toNatClampNeg), .int (xs (x3 + (2 : Int32)).toNatClampNeg), .int (xs (x3 + (3 : Int32)).toNatClampNeg)]) odL_law okX6_near lk_12_86 rfl (eaX6_near (R := mseg s) e230) (kO_at (kO_ap k232)) rfl rfl rfl ?_
                                        show mB _ mL_law (837, [(0, .retAddr 0), (1, .ref 0), (2, .ref 239), (3, .int x3)], [.long o229.2], (hM o229.1 s), 2202, 110072)
                                        refine mB_run odL_law 6 (g := (843, [(0, .retAddr 0), (1, .ref 0), (2, .ref 239), (3, .int x3)], [.int (x3 + (1 : Int32)), .retAddr 0, .ref 239], (hM o229.1 s), 2202, 110072)) rfl ?_
                                        by_cases c234 : (x3 + (1 : Int32)) < 0 ∨ L ≤ (x3 + (1 : Int32)).toNatClampNeg
                                        · rw [if_pos c234] at hq; cases hq
                                        rw [if_neg c234] at hq
                                        refine mL_ld odL_law rfl c234 ?_
                                        refine mB_run odL_law 4 (g := (848, [(0, .retAddr 0), (1, .ref 0), (2, .ref 239), (3, .int x3)], [.int (x3 + (2 : Int32)), .retAddr 0, .int (xs (x3 + (1 : Int32)).toNatClampNeg), .ref 239], (hM o229.1 s), 2202, 110072)) rfl ?_
                                        by_cases c235 : (x3 + (2 : Int32)) < 0 ∨ L ≤ (x3 + (2 : Int32)).toNatClampNeg
                                        · rw [if_pos c235] at hq; cases hq
                                        rw [if_neg c235] at hq
                                        refine mL_ld odL_law rfl c235 ?_
                                        refine mB_run odL_law 4 (g := (853, [(0, .retAddr 0), (1, .ref 0), (2, .ref 239), (3, .int x3)], [.int (x3 + (3 : Int32)), .retAddr 0, .int (xs (x3 + (2 : Int32)).toNatClampNeg), .int (xs (x3 + (1 : Int32)).toNatClampNeg), .ref 239], (hM o229.1 s), 2202, 110072)) rfl ?_
                                        by_cases c236 : (x3 + (3 : Int32)) < 0 ∨ L ≤ (x3 + (3 : Int32)).toNatClampNeg
                                        · rw [if_pos c236] at hq; cases hq
                                        rw [if_neg c236] at hq
                                        refine mL_ld odL_law rfl c236 ?_
                                        obtain ⟨o237, e238, hq⟩ := bsm hq
                                        refine mB_V (h := hM o229.1 s) (as := [.int (xs (x3 + (1 : Int32)).toNatClampNeg), .int (xs (x3 + (2 : Int32)).toNatClampNeg), .int (xs (x3 + (3 : Int32)).toNatClampNeg)]) odL_law okX7_near lk_12_89 rfl (emX7_near hC233 e238) (kO_at (md_O hC233)) rfl rfl rfl ?_
                                        show mB _ mL_law (857, [(0, .retAddr 0), (1, .ref 0), (2, .ref 239), (3, .int x3)], [.long o237.2], (hM o229.1 o237.1), 2202, 110072)
                                        refine mB_run odL_law 2 (g := (1059, [(0, .retAddr 0), (1, .ref 0), (2, .ref 239), (3, .int x3)], [], (hM o229.1 o237.1), 2202, 110072)) rfl ?_
                                        refine mB_lv [0, 1, 2, 3] (lv' := [(0, .retAddr 0), (1, .ref 0), (2, .ref 239), (3, .int x3)]) rfl ?_
                                        exact lex_1059 ih _ _ _ hC233 hq
                                      · rw [if_neg c225] at hq
                                        by_cases c239 : ((xs x3.toNatClampNeg) &&& (31 : Int32)) = (17 : Int32)
                                        · rw [if_pos c239] at hq
                                          refine r_tab odL_law rfl c239 (t := 861) rfl ?_
                                          refine mB_run odL_law 5 (g := (866, [(0, .retAddr 0), (1, .ref 0), (2, .ref 239), (3, .int x3)], [.int (x3 + (1 : Int32)), .retAddr 0, .ref 0], (hM C s), 2202, 110072)) rfl ?_
                                          by_cases c240 : (x3 + (1 : Int32)) < 0 ∨ L ≤ (x3 + (1 : Int32)).toNatClampNeg
                                          · rw [if_pos c240] at hq; cases hq
                                          rw [if_neg c240] at hq
                                          refine mL_ld odL_law rfl c240 ?_
                                          refine mB_run odL_law 4 (g := (871, [(0, .retAddr 0), (1, .ref 0), (2, .ref 239), (3, .int x3)], [.int (x3 + (2 : Int32)), .retAddr 0, .int (xs (x3 + (1 : Int32)).toNatClampNeg), .ref 0], (hM C s), 2202, 110072)) rfl ?_
                                          by_cases c241 : (x3 + (2 : Int32)) < 0 ∨ L ≤ (x3 + (2 : Int32)).toNatClampNeg
                                          · rw [if_pos c241] at hq; cases hq
                                          rw [if_neg c241] at hq
                                          refine mL_ld odL_law rfl c241 ?_
                                          obtain ⟨f244, k245, hq⟩ := bsm hq
                                          obtain ⟨o242, e243, hq⟩ := bsm hq
                                          by_cases hC246 : o242.1.length = 239
                                          case neg => rw [if_pos hC246] at hq; cases hq
                                          rw [if_neg (fun z => z hC246)] at hq
                                          refine mB_V (h := hM C s) (as := [.int (xs (x3 + (1 : Int32)).toNatClampNeg), .int (xs (x3 + (2 : Int32)).toNatClampNeg)]) odL_law okX6_same lk_12_90 rfl (eaX6_same (R := mseg s) e243) (kO_at (kO_ap k245)) rfl rfl rfl ?_
                                          show mB _ mL_law (875, [(0, .retAddr 0), (1, .ref 0), (2, .ref 239), (3, .int x3)], [.int o242.2], (hM o242.1 s), 2202, 110072)
                                          refine mB_run odL_law 6 (g := (881, [(0, .retAddr 0), (1, .ref 0), (2, .ref 239), (3, .int x3)], [.int (x3 + (1 : Int32)), .retAddr 0, .ref 239], (hM o242.1 s), 2202, 110072)) rfl ?_
                                          by_cases c247 : (x3 + (1 : Int32)) < 0 ∨ L ≤ (x3 + (1 : Int32)).toNatClampNeg
                                          · rw [if_pos c247] at hq; cases hq
                                          rw [if_neg c247] at hq
                                          refine mL_ld odL_law rfl c247 ?_
                                          refine mB_run odL_law 4 (g := (886, [(0, .retAddr 0), (1, .ref 0), (2, .ref 239), (3, .int x3)], [.int (x3 + (2 : Int32)), .retAddr 0, .int (xs (x3 + (1 : Int32)).toNatClampNeg), .ref 239], (hM o242.1 s), 2202, 110072)) rfl ?_
                                          by_cases c248 : (x3 + (2 : Int32)) < 0 ∨ L ≤ (x3 + (2 : Int32)).toNatClampNeg
                                          · rw [if_pos c248] at hq; cases hq
                                          rw [if_neg c248] at hq
                                          refine mL_ld odL_law rfl c248 ?_
                                          obtain ⟨o249, e250, hq⟩ := bsm hq
                                          refine mB_V (h := hM o242.1 s) (as := [.int (xs (x3 + (1 : Int32)).toNatClampNeg), .int (xs (x3 + (2 : Int32)).toNatClampNeg)]) odL_law okX7_same lk_12_93 rfl (emX7_same hC246 e250) (kO_at (md_O hC246)) rfl rfl rfl ?_
                                          show mB _ mL_law (890, [(0, .retAddr 0), (1, .ref 0), (2, .ref 239), (3, .int x3)], [.int o249.2], (hM o242.1 o249.1), 2202, 110072)
                                          refine mB_run odL_law 2 (g := (1059, [(0, .retAddr 0), (1, .ref 0), (2, .ref 239), (3, .int x3)], [], (hM o242.1 o249.1), 2202, 110072)) rfl ?_
                                          refine mB_lv [0, 1, 2, 3] (lv' := [(0, .retAddr 0), (1, .ref 0), (2, .ref 239), (3, .int x3)]) rfl ?_
                                          exact lex_1059 ih _ _ _ hC246 hq
                                        · rw [if_neg c239] at hq
                                          by_cases c251 : ((xs x3.toNatClampNeg) &&& (31 : Int32)) = (18 : Int32)
                                          · rw [if_pos c251] at hq
                                            refine r_tab odL_law rfl c251 (t := 894) rfl ?_
                                            refine mB_run odL_law 5 (g := (899, [(0, .retAddr 0), (1, .ref 0), (2, .ref 239), (3, .int x3)], [.int (x3 + (1 : Int32)), .retAddr 0, .ref 0], (hM C s), 2202, 110072)) rfl ?_
                                            by_cases c252 : (x3 + (1 : Int32)) < 0 ∨ L ≤ (x3 + (1 : Int32)).toNatClampNeg
                                            · rw [if_pos c252] at hq; cases hq
                                            rw [if_neg c252] at hq
                                            refine mL_ld odL_law rfl c252 ?_
                                            refine mB_run odL_law 4 (g := (904, [(0, .retAddr 0), (1, .ref 0), (2, .ref 239), (3, .int x3)], [.int (x3 + (2 : Int32)), .retAddr 0, .int (xs (x3 + (1 : Int32)).toNatClampNeg), .ref 0], (hM C s), 2202, 110072)) rfl ?_
                                            by_cases c253 : (x3 + (2 : Int32)) < 0 ∨ L ≤ (x3 + (2 : Int32)).toNatClampNeg
                                            · rw [if_pos c253] at hq; cases hq
                                            rw [if_neg c253] at hq
                                            refine mL_ld odL_law rfl c253 ?_
                                            refine mB_run odL_law 4 (g := (909, [(0, .retAddr 0), (1, .ref 0), (2, .ref 239), (3, .int x3)], [.int (x3 + (3 : Int32)), .retAddr 0, .int (xs (x3 + (2 : Int32)).toNatClampNeg), .int (xs (x3 + (1 : Int32)).toNatClampNeg), .ref 0], (hM C s), 2202, 110072)) rfl ?_
                                            by_cases c254 : (x3 + (3 : Int32)) < 0 ∨ L ≤ (x3 + (3 : Int32)).toNatClampNeg
                                            · rw [if_pos c254] at hq; cases hq
                                            rw [if_neg c254] at hq
                                            refine mL_ld odL_law rfl c254 ?_
                                            refine mB_run odL_law 4 (g := (914, [(0, .retAddr 0), (1, .ref 0), (2, .ref 239), (3, .int x3)], [.int (x3 + (4 : Int32)), .retAddr 0, .int (xs (x3 + (3 : Int32)).toNatClampNeg), .int (xs (x3 + (2 : Int32)).toNatClampNeg), .int (xs (x3 + (1 : Int32)).toNatClampNeg), .ref 0], (hM C s), 2202, 110072)) rfl ?_
                                            by_cases c255 : (x3 + (4 : Int32)) < 0 ∨ L ≤ (x3 + (4 : Int32)).toNatClampNeg
                                            · rw [if_pos c255] at hq; cases hq
                                            rw [if_neg c255] at hq
                                            refine mL_ld odL_law rfl c255 ?_
                                            obtain ⟨f258, k259, hq⟩ := bsm hq
                                            obtain ⟨o256, e257, hq⟩ := bsm hq
                                            by_cases hC260 : o256.1.length = 239
                                            case neg => rw [if_pos hC260] at hq; cases hq
                                            rw [if_neg (fun z => z hC260)] at hq
                                            refine mB_V (h := hM C s) (as := [.int (xs (x3 + (1 : Int32)).toNatClampNeg), .int (xs (x3 + (2 : Int32)).toNatClampNeg), .int (xs (x3 + (3 : Int32)).toNatClampNeg), .int (xs (x3 + (4 : Int32)).toNatClampNeg)]) odL_law okX6_move lk_12_94 rfl (eaX6_move (R := mseg s) e257) (kO_at (kO_ap k259)) rfl rfl rfl ?_
                                            show mB _ mL_law (918, [(0, .retAddr 0), (1, .ref 0), (2, .ref 239), (3, .int x3)], [.int o256.2], (hM o256.1 s), 2202, 110072)
                                            refine mB_run odL_law 6 (g := (924, [(0, .retAddr 0), (1, .ref 0), (2, .ref 239), (3, .int x3)], [.int (x3 + (1 : Int32)), .retAddr 0, .ref 239], (hM o256.1 s), 2202, 110072)) rfl ?_
                                            by_cases c261 : (x3 + (1 : Int32)) < 0 ∨ L ≤ (x3 + (1 : Int32)).toNatClampNeg
                                            · rw [if_pos c261] at hq; cases hq
                                            rw [if_neg c261] at hq
                                            refine mL_ld odL_law rfl c261 ?_
                                            refine mB_run odL_law 4 (g := (929, [(0, .retAddr 0), (1, .ref 0), (2, .ref 239), (3, .int x3)], [.int (x3 + (2 : Int32)), .retAddr 0, .int (xs (x3 + (1 : Int32)).toNatClampNeg), .ref 239], (hM o256.1 s), 2202, 110072)) rfl ?_
                                            by_cases c262 : (x3 + (2 : Int32)) < 0 ∨ L ≤ (x3 + (2 : Int32)).toNatClampNeg
                                            · rw [if_pos c262] at hq; cases hq
                                            rw [if_neg c262] at hq
                                            refine mL_ld odL_law rfl c262 ?_
                                            refine mB_run odL_law 4 (g := (934, [(0, .retAddr 0), (1, .ref 0), (2, .ref 239), (3, .int x3)], [.int (x3 + (3 : Int32)), .retAddr 0, .int (xs (x3 + (2 : Int32)).toNatClampNeg), .int (xs (x3 + (1 : Int32)).toNatClampNeg), .ref 239], (hM o256.1 s), 2202, 110072)) rfl ?_
                                            by_cases c263 : (x3 + (3 : Int32)) < 0 ∨ L ≤ (x3 + (3 : Int32)).toNatClampNeg
                                            · rw [if_pos c263] at hq; cases hq
                                            rw [if_neg c263] at hq
                                            refine mL_ld odL_law rfl c263 ?_
                                            refine mB_run odL_law 4 (g := (939, [(0, .retAddr 0), (1, .ref 0), (2, .ref 239), (3, .int x3)], [.int (x3 + (4 : Int32)), .retAddr 0, .int (xs (x3 + (3 : Int32)).toNatClampNeg), .int (xs (x3 + (2 : Int32)).toNatClampNeg), .int (xs (x3 + (1 : Int32)).toNatClampNeg), .ref 239], (hM o256.1 s), 2202, 110072)) rfl ?_
                                            by_cases c264 : (x3 + (4 : Int32)) < 0 ∨ L ≤ (x3 + (4 : Int32)).toNatClampNeg
                                            · rw [if_pos c264] at hq; cases hq
                                            rw [if_neg c264] at hq
                                            refine mL_ld odL_law rfl c264 ?_
                                            obtain ⟨o265, e266, hq⟩ := bsm hq
                                            refine mB_V (h := hM o256.1 s) (as := [.int (xs (x3 + (1 : Int32)).toNatClampNeg), .int (xs (x3 + (2 : Int32)).toNatClampNeg), .int (xs (x3 + (3 : Int32)).toNatClampNeg), .int (xs (x3 + (4 : Int32)).toNatClampNeg)]) odL_law okX7_move lk_12_98 rfl (emX7_move hC260 e266) (kO_at (md_O hC260)) rfl rfl rfl ?_
                                            show mB _ mL_law (943, [(0, .retAddr 0), (1, .ref 0), (2, .ref 239), (3, .int x3)], [.int o265.2], (hM o256.1 o265.1), 2202, 110072)
                                            refine mB_run odL_law 2 (g := (1059, [(0, .retAddr 0), (1, .ref 0), (2, .ref 239), (3, .int x3)], [], (hM o256.1 o265.1), 2202, 110072)) rfl ?_
                                            refine mB_lv [0, 1, 2, 3] (lv' := [(0, .retAddr 0), (1, .ref 0), (2, .ref 239), (3, .int x3)]) rfl ?_
                                            exact lex_1059 ih _ _ _ hC260 hq
                                          · rw [if_neg c251] at hq
                                            by_cases c267 : ((xs x3.toNatClampNeg) &&& (31 : Int32)) = (19 : Int32)
                                            · rw [if_pos c267] at hq
                                              refine r_tab odL_law rfl c267 (t := 947) rfl ?_
                                              refine mB_run odL_law 5 (g := (952, [(0, .retAddr 0), (1, .ref 0), (2, .ref 239), (3, .int x3)], [.int (x3 + (1 : Int32)), .retAddr 0, .ref 0], (hM C s), 2202, 110072)) rfl ?_
                                              by_cases c268 : (x3 + (1 : Int32)) < 0 ∨ L ≤ (x3 + (1 : Int32)).toNatClampNeg
                                              · rw [if_pos c268] at hq; cases hq
                                              rw [if_neg c268] at hq
                                              refine mL_ld odL_law rfl c268 ?_
                                              refine mB_run odL_law 4 (g := (957, [(0, .retAddr 0), (1, .ref 0), (2, .ref 239), (3, .int x3)], [.int (x3 + (2 : Int32)), .retAddr 0, .int (xs (x3 + (1 : Int32)).toNatClampNeg), .ref 0], (hM C s), 2202, 110072)) rfl ?_
                                              by_cases c269 : (x3 + (2 : Int32)) < 0 ∨ L ≤ (x3 + (2 : Int32)).toNatClampNeg
                                              · rw [if_pos c269] at hq; cases hq
                                              rw [if_neg c269] at hq
                                              refine mL_ld odL_law rfl c269 ?_
                                              obtain ⟨f272, k273, hq⟩ := bsm hq
                                              obtain ⟨o270, e271, hq⟩ := bsm hq
                                              by_cases hC274 : o270.1.length = 239
                                              case neg => rw [if_pos hC274] at hq; cases hq
                                              rw [if_neg (fun z => z hC274)] at hq
                                              refine mB_V (h := hM C s) (as := [.int (xs (x3 + (1 : Int32)).toNatClampNeg), .int (xs (x3 + (2 : Int32)).toNatClampNeg)]) odL_law okX6_mirror lk_12_99 rfl (eaX6_mirror (R := mseg s) e271) (kO_at (kO_ap k273)) rfl rfl rfl ?_
                                              show mB _ mL_law (961, [(0, .retAddr 0), (1, .ref 0), (2, .ref 239), (3, .int x3)], [.int o270.2], (hM o270.1 s), 2202, 110072)
                                              refine mB_run odL_law 6 (g := (967, [(0, .retAddr 0), (1, .ref 0), (2, .ref 239), (3, .int x3)], [.int (x3 + (1 : Int32)), .retAddr 0, .ref 239], (hM o270.1 s), 2202, 110072)) rfl ?_
                                              by_cases c275 : (x3 + (1 : Int32)) < 0 ∨ L ≤ (x3 + (1 : Int32)).toNatClampNeg
                                              · rw [if_pos c275] at hq; cases hq
                                              rw [if_neg c275] at hq
                                              refine mL_ld odL_law rfl c275 ?_
                                              refine mB_run odL_law 4 (g := (972, [(0, .retAddr 0), (1, .ref 0), (2, .ref 239), (3, .int x3)], [.int (x3 + (2 : Int32)), .retAddr 0, .int (xs (x3 + (1 : Int32)).toNatClampNeg), .ref 239], (hM o270.1 s), 2202, 110072)) rfl ?_
                                              by_cases c276 : (x3 + (2 : Int32)) < 0 ∨ L ≤ (x3 + (2 : Int32)).toNatClampNeg
                                              · rw [if_pos c276] at hq; cases hq
                                              rw [if_neg c276] at hq
                                              refine mL_ld odL_law rfl c276 ?_
                                              obtain ⟨o277, e278, hq⟩ := bsm hq
                                              refine mB_V (h := hM o270.1 s) (as := [.int (xs (x3 + (1 : Int32)).toNatClampNeg), .int (xs (x3 + (2 : Int32)).toNatClampNeg)]) odL_law okX7_mirror lk_12_102 rfl (emX7_mirror hC274 e278) (kO_at (md_O hC274)) rfl rfl rfl ?_
                                              show mB _ mL_law (976, [(0, .retAddr 0), (1, .ref 0), (2, .ref 239), (3, .int x3)], [.int o277.2], (hM o270.1 o277.1), 2202, 110072)
                                              refine mB_run odL_law 2 (g := (1059, [(0, .retAddr 0), (1, .ref 0), (2, .ref 239), (3, .int x3)], [], (hM o270.1 o277.1), 2202, 110072)) rfl ?_
                                              refine mB_lv [0, 1, 2, 3] (lv' := [(0, .retAddr 0), (1, .ref 0), (2, .ref 239), (3, .int x3)]) rfl ?_
                                              exact lex_1059 ih _ _ _ hC274 hq
                                            · rw [if_neg c267] at hq
                                              by_cases c279 : ((xs x3.toNatClampNeg) &&& (31 : Int32)) = (20 : Int32)
                                              · rw [if_pos c279] at hq
                                                refine r_tab odL_law rfl c279 (t := 980) rfl ?_
                                                refine mB_run odL_law 5 (g := (985, [(0, .retAddr 0), (1, .ref 0), (2, .ref 239), (3, .int x3)], [.int (x3 + (1 : Int32)), .retAddr 0, .ref 0], (hM C s), 2202, 110072)) rfl ?_
                                                by_cases c280 : (x3 + (1 : Int32)) < 0 ∨ L ≤ (x3 + (1 : Int32)).toNatClampNeg
                                                · rw [if_pos c280] at hq; cases hq
                                                rw [if_neg c280] at hq
                                                refine mL_ld odL_law rfl c280 ?_
                                                refine mB_run odL_law 4 (g := (990, [(0, .retAddr 0), (1, .ref 0), (2, .ref 239), (3, .int x3)], [.int (x3 + (2 : Int32)), .retAddr 0, .int (xs (x3 + (1 : Int32)).toNatClampNeg), .ref 0], (hM C s), 2202, 110072)) rfl ?_
                                                by_cases c281 : (x3 + (2 : Int32)) < 0 ∨ L ≤ (x3 + (2 : Int32)).toNatClampNeg
                                                · rw [if_pos c281] at hq; cases hq
                                                rw [if_neg c281] at hq
                                                refine mL_ld odL_law rfl c281 ?_
                                                obtain ⟨f284, k285, hq⟩ := bsm hq
                                                obtain ⟨o282, e283, hq⟩ := bsm hq
                                                by_cases hC286 : o282.1.length = 239
                                                case neg => rw [if_pos hC286] at hq; cases hq
                                                rw [if_neg (fun z => z hC286)] at hq
                                                refine mB_V (h := hM C s) (as := [.int (xs (x3 + (1 : Int32)).toNatClampNeg), .int (xs (x3 + (2 : Int32)).toNatClampNeg)]) odL_law okX6_turn lk_12_103 rfl (eaX6_turn (R := mseg s) e283) (kO_at (kO_ap k285)) rfl rfl rfl ?_
                                                show mB _ mL_law (994, [(0, .retAddr 0), (1, .ref 0), (2, .ref 239), (3, .int x3)], [.int o282.2], (hM o282.1 s), 2202, 110072)
                                                refine mB_run odL_law 6 (g := (1000, [(0, .retAddr 0), (1, .ref 0), (2, .ref 239), (3, .int x3)], [.int (x3 + (1 : Int32)), .retAddr 0, .ref 239], (hM o282.1 s), 2202, 110072)) rfl ?_
                                                by_cases c287 : (x3 + (1 : Int32)) < 0 ∨ L ≤ (x3 + (1 : Int32)).toNatClampNeg
                                                · rw [if_pos c287] at hq; cases hq
                                                rw [if_neg c287] at hq
                                                refine mL_ld odL_law rfl c287 ?_
                                                refine mB_run odL_law 4 (g := (1005, [(0, .retAddr 0), (1, .ref 0), (2, .ref 239), (3, .int x3)], [.int (x3 + (2 : Int32)), .retAddr 0, .int (xs (x3 + (1 : Int32)).toNatClampNeg), .ref 239], (hM o282.1 s), 2202, 110072)) rfl ?_
                                                by_cases c288 : (x3 + (2 : Int32)) < 0 ∨ L ≤ (x3 + (2 : Int32)).toNatClampNeg
                                                · rw [if_pos c288] at hq; cases hq
                                                rw [if_neg c288] at hq
                                                refine mL_ld odL_law rfl c288 ?_
                                                obtain ⟨o289, e290, hq⟩ := bsm hq
                                                refine mB_V (h := hM o282.1 s) (as := [.int (xs (x3 + (1 : Int32)).toNatClampNeg), .int (xs (x3 + (2 : Int32)).toNatClampNeg)]) odL_law okX7_turn lk_12_106 rfl (emX7_turn hC286 e290) (kO_at (md_O hC286)) rfl rfl rfl ?_
                                                show mB _ mL_law (1009, [(0, .retAddr 0), (1, .ref 0), (2, .ref 239), (3, .int x3)], [.int o289.2], (hM o282.1 o289.1), 2202, 110072)
                                                refine mB_run odL_law 2 (g := (1059, [(0, .retAddr 0), (1, .ref 0), (2, .ref 239), (3, .int x3)], [], (hM o282.1 o289.1), 2202, 110072)) rfl ?_
                                                refine mB_lv [0, 1, 2, 3] (lv' := [(0, .retAddr 0), (1, .ref 0), (2, .ref 239), (3, .int x3)]) rfl ?_
                                                exact lex_1059 ih _ _ _ hC286 hq
                                              · rw [if_neg c279] at hq
                                                by_cases c291 : ((xs x3.toNatClampNeg) &&& (31 : Int32)) = (21 : Int32)
                                                · rw [if_pos c291] at hq
                                                  refine r_tab odL_law rfl c291 (t := 1013) rfl ?_
                                                  refine mB_run odL_law 5 (g := (1018, [(0, .retAddr 0), (1, .ref 0), (2, .ref 239), (3, .int x3)], [.int (x3 + (1 : Int32)), .retAddr 0, .ref 0], (hM C s), 2202, 110072)) rfl ?_
                                                  by_cases c292 : (x3 + (1 : Int32)) < 0 ∨ L ≤ (x3 + (1 : Int32)).toNatClampNeg
                                                  · rw [if_pos c292] at hq; cases hq
                                                  rw [if_neg c292] at hq
                                                  refine mL_ld odL_law rfl c292 ?_
                                                  refine mB_run odL_law 4 (g := (1023, [(0, .retAddr 0), (1, .ref 0), (2, .ref 239), (3, .int x3)], [.int (x3 + (2 : Int32)), .retAddr 0, .int (xs (x3 + (1 : Int32)).toNatClampNeg), .ref 0], (hM C s), 2202, 110072)) rfl ?_
                                                  by_cases c293 : (x3 + (2 : Int32)) < 0 ∨ L ≤ (x3 + (2 : Int32)).toNatClampNeg
                                                  · rw [if_pos c293] at hq; cases hq
                                                  rw [if_neg c293] at hq
                                                  refine mL_ld odL_law rfl c293 ?_
                                                  obtain ⟨f296, k297, hq⟩ := bsm hq
                                                  obtain ⟨o294, e295, hq⟩ := bsm hq
                                                  by_cases hC298 : o294.1.length = 239
                                                  case neg => rw [if_pos hC298] at hq; cases hq
                                                  rw [if_neg (fun z => z hC298)] at hq
                                                  refine mB_V (h := hM C s) (as := [.int (xs (x3 + (1 : Int32)).toNatClampNeg), .int (xs (x3 + (2 : Int32)).toNatClampNeg)]) odL_law okX6_copy lk_12_107 rfl (eaX6_copy (R := mseg s) e295) (kO_at (kO_ap k297)) rfl rfl rfl ?_
                                                  show mB _ mL_law (1027, [(0, .retAddr 0), (1, .ref 0), (2, .ref 239), (3, .int x3)], [.int o294.2], (hM o294.1 s), 2202, 110072)
                                                  refine mB_run odL_law 6 (g := (1033, [(0, .retAddr 0), (1, .ref 0), (2, .ref 239), (3, .int x3)], [.int (x3 + (1 : Int32)), .retAddr 0, .ref 239], (hM o294.1 s), 2202, 110072)) rfl ?_
                                                  by_cases c299 : (x3 + (1 : Int32)) < 0 ∨ L ≤ (x3 + (1 : Int32)).toNatClampNeg
                                                  · rw [if_pos c299] at hq; cases hq
                                                  rw [if_neg c299] at hq
                                                  refine mL_ld odL_law rfl c299 ?_
                                                  refine mB_run odL_law 4 (g := (1038, [(0, .retAddr 0), (1, .ref 0), (2, .ref 239), (3, .int x3)], [.int (x3 + (2 : Int32)), .retAddr 0, .int (xs (x3 + (1 : Int32)).toNatClampNeg), .ref 239], (hM o294.1 s), 2202, 110072)) rfl ?_
                                                  by_cases c300 : (x3 + (2 : Int32)) < 0 ∨ L ≤ (x3 + (2 : Int32)).toNatClampNeg
                                                  · rw [if_pos c300] at hq; cases hq
                                                  rw [if_neg c300] at hq
                                                  refine mL_ld odL_law rfl c300 ?_
                                                  obtain ⟨o301, e302, hq⟩ := bsm hq
                                                  refine mB_V (h := hM o294.1 s) (as := [.int (xs (x3 + (1 : Int32)).toNatClampNeg), .int (xs (x3 + (2 : Int32)).toNatClampNeg)]) odL_law okX7_copy lk_12_110 rfl (emX7_copy hC298 e302) (kO_at (md_O hC298)) rfl rfl rfl ?_
                                                  show mB _ mL_law (1042, [(0, .retAddr 0), (1, .ref 0), (2, .ref 239), (3, .int x3)], [.int o301.2], (hM o294.1 o301.1), 2202, 110072)
                                                  refine mB_run odL_law 2 (g := (1059, [(0, .retAddr 0), (1, .ref 0), (2, .ref 239), (3, .int x3)], [], (hM o294.1 o301.1), 2202, 110072)) rfl ?_
                                                  refine mB_lv [0, 1, 2, 3] (lv' := [(0, .retAddr 0), (1, .ref 0), (2, .ref 239), (3, .int x3)]) rfl ?_
                                                  exact lex_1059 ih _ _ _ hC298 hq
                                                · rw [if_neg c291] at hq
                                                  by_cases c303 : ((xs x3.toNatClampNeg) &&& (31 : Int32)) = (22 : Int32)
                                                  · rw [if_pos c303] at hq
                                                    refine r_tab odL_law rfl c303 (t := 1046) rfl ?_
                                                    refine mB_run odL_law 1 (g := (1047, [(0, .retAddr 0), (1, .ref 0), (2, .ref 239), (3, .int x3)], [.ref 0], (hM C s), 2202, 110072)) rfl ?_
                                                    obtain ⟨f306, k307, hq⟩ := bsm hq
                                                    obtain ⟨o304, e305, hq⟩ := bsm hq
                                                    by_cases hC308 : o304.1.length = 239
                                                    case neg => rw [if_pos hC308] at hq; cases hq
                                                    rw [if_neg (fun z => z hC308)] at hq
                                                    refine mB_V (h := hM C s) (as := []) odL_law okX6_undo lk_12_111 rfl (eaX6_undo (R := mseg s) e305) (kO_at (kO_ap k307)) rfl rfl rfl ?_
                                                    show mB _ mL_law (1050, [(0, .retAddr 0), (1, .ref 0), (2, .ref 239), (3, .int x3)], [.int o304.2], (hM o304.1 s), 2202, 110072)
                                                    refine mB_run odL_law 1 (g := (1051, [(0, .retAddr 0), (1, .ref 0), (2, .ref 239), (3, .int x3)], [.ref 239, .int o304.2], (hM o304.1 s), 2202, 110072)) rfl ?_
                                                    obtain ⟨o309, e310, hq⟩ := bsm hq
                                                    refine mB_V (h := hM o304.1 s) (as := []) odL_law okX7_undo lk_12_115 rfl (emX7_undo hC308 e310) (kO_at (md_O hC308)) rfl rfl rfl ?_
                                                    show mB _ mL_law (1054, [(0, .retAddr 0), (1, .ref 0), (2, .ref 239), (3, .int x3)], [.int o309.2, .int o304.2], (hM o304.1 o309.1), 2202, 110072)
                                                    by_cases c311 : o304.2 = o309.2
                                                    · rw [if_pos c311] at hq
                                                      refine ic_eq_T (t := 1059) odL_law rfl rfl c311 ?_
                                                      refine mB_lv [0, 1, 2, 3] (lv' := [(0, .retAddr 0), (1, .ref 0), (2, .ref 239), (3, .int x3)]) rfl ?_
                                                      exact lex_1059 ih _ _ _ hC308 hq
                                                    · rw [if_neg c311] at hq
                                                      refine ic_eq_F (t := 1059) odL_law rfl rfl c311 ?_
                                                      refine mB_run odL_law 1 (g := (1058, [(0, .retAddr 0), (1, .ref 0), (2, .ref 239), (3, .int x3)], [.int (0 : Int32)], (hM o304.1 o309.1), 2202, 110072)) rfl ?_
                                                      cases hq
                                                  · rw [if_neg c303] at hq
                                                    refine r_tabd odL_law rfl (t := 1059) (by omega) (ts_out23 c3 c15 c33 c45 c61 c73 c87 c101 c115 c133 c151 c161 c175 c187 c199 c213 c225 c239 c251 c267 c279 c291 c303) ?_
                                                    refine mB_lv [0, 1, 2, 3] (lv' := [(0, .retAddr 0), (1, .ref 0), (2, .ref 239), (3, .int x3)]) rfl ?_
                                                    exact lex_1059 ih _ _ _ hC hq
def lx (L : Nat) (xs : Nat → Int32) (N : Nat) (C : mh) (s : mS) : Option Unit :=
  lx_18 L xs N N (0 : Int32) C s
set_option maxHeartbeats 8000000 in
set_option maxRecDepth 100000 in
theorem lex {L : Nat} {xs : Nat → Int32} {N : Nat} {C : mh} {s : mS} (hC : C.length = 239) {o : Unit} (hq : lx L xs N C s = some o) : mB (gL L xs) mL_law (16, [(2, .ref 239), (1, .ref 0), (0, .retAddr 0)], [], (hM C s), 2202, 110072) := by
  unfold lx at hq
  refine mB_run odL_law 2 (g := (18, [(3, .int (0 : Int32)), (2, .ref 239), (1, .ref 0), (0, .retAddr 0)], [], (hM C s), 2202, 110072)) rfl ?_
  refine mB_lv [3, 2, 1, 0] (lv' := [(0, .retAddr 0), (1, .ref 0), (2, .ref 239), (3, .int (0 : Int32))]) rfl ?_
  exact lex_18 N _ _ _ hC hq
