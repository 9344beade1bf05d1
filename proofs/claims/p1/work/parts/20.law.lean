theorem ts_out23 {x : Int32} (h0 : ¬ x = 0) (h1 : ¬ x = 1) (h2 : ¬ x = 2) (h3 : ¬ x = 3) (h4 : ¬ x = 4) (h5 : ¬ x = 5) (h6 : ¬ x = 6) (h7 : ¬ x = 7) (h8 : ¬ x = 8) (h9 : ¬ x = 9) (h10 : ¬ x = 10) (h11 : ¬ x = 11) (h12 : ¬ x = 12) (h13 : ¬ x = 13) (h14 : ¬ x = 14) (h15 : ¬ x = 15) (h16 : ¬ x = 16) (h17 : ¬ x = 17) (h18 : ¬ x = 18) (h19 : ¬ x = 19) (h20 : ¬ x = 20) (h21 : ¬ x = 21) (h22 : ¬ x = 22) : x.toInt < 0 ∨ 22 < x.toInt := by
  have a0 := ts_ne h0 (i := 0) (by decide)
  have a1 := ts_ne h1 (i := 1) (by decide)
  have a2 := ts_ne h2 (i := 2) (by decide)
  have a3 := ts_ne h3 (i := 3) (by decide)
  have a4 := ts_ne h4 (i := 4) (by decide)
  have a5 := ts_ne h5 (i := 5) (by decide)
  have a6 := ts_ne h6 (i := 6) (by decide)
  have a7 := ts_ne h7 (i := 7) (by decide)
  have a8 := ts_ne h8 (i := 8) (by decide)
  have a9 := ts_ne h9 (i := 9) (by decide)
  have a10 := ts_ne h10 (i := 10) (by decide)
  have a11 := ts_ne h11 (i := 11) (by decide)
  have a12 := ts_ne h12 (i := 12) (by decide)
  have a13 := ts_ne h13 (i := 13) (by decide)
  have a14 := ts_ne h14 (i := 14) (by decide)
  have a15 := ts_ne h15 (i := 15) (by decide)
  have a16 := ts_ne h16 (i := 16) (by decide)
  have a17 := ts_ne h17 (i := 17) (by decide)
  have a18 := ts_ne h18 (i := 18) (by decide)
  have a19 := ts_ne h19 (i := 19) (by decide)
  have a20 := ts_ne h20 (i := 20) (by decide)
  have a21 := ts_ne h21 (i := 21) (by decide)
  have a22 := ts_ne h22 (i := 22) (by decide)
  omega
def lx_1064 (rec18 : Int32 → mh → mS → Option Unit) (x3 : Int32) (C : mh) (s : mS) : Option Unit :=
  rec18 (x3 + (6 : Int32)) C s
set_option maxHeartbeats 8000000 in
set_option maxRecDepth 100000 in
theorem lex_1064 {L : Nat} {xs : Nat → Int32} {rec18 : Int32 → mh → mS → Option Unit} (hrec18 : ∀ (x3 : Int32) (C : mh) (s : mS) (hC : C.length = 239) {o : Unit}, rec18 x3 C s = some o → mB (gL L xs) mL_law (18, [(0, .retAddr 0), (1, .ref 0), (2, .ref 239), (3, .int x3)], [], (hM C s), 2202, 110072)) (x3 : Int32) (C : mh) (s : mS) (hC : C.length = 239) {o : Unit} (hq : lx_1064 rec18 x3 C s = some o) : mB (gL L xs) mL_law (1064, [(0, .retAddr 0), (1, .ref 0), (2, .ref 239), (3, .int x3)], [], (hM C s), 2202, 110072) := by
  unfold lx_1064 at hq
  refine mB_run odL_law 2 (g := (18, [(3, .int (x3 + (6 : Int32))), (0, .retAddr 0), (1, .ref 0), (2, .ref 239)], [], (hM C s), 2202, 110072)) rfl ?_
  refine mB_lv [1, 2, 3, 0] (lv' := [(0, .retAddr 0), (1, .ref 0), (2, .ref 239), (3, .int (x3 + (6 : Int32)))]) rfl ?_
  exact hrec18 _ _ _ hC hq
def lx_18 (L : Nat) (xs : Nat → Int32) (N : Nat) : Nat → Int32 → mh → mS → Option Unit
  | 0, _, _, _ => none
  | n + 1, x3, C, s =>
    if ((Int32.ofNat L) - (6 : Int32)) < x3 then (
      some ()) else (
      if x3 < 0 ∨ L ≤ x3.toNatClampNeg then none else
      if ((xs x3.toNatClampNeg) &&& (31 : Int32)) = (0 : Int32) then (
        if (x3 + (1 : Int32)) < 0 ∨ L ≤ (x3 + (1 : Int32)).toNatClampNeg then none else
        if (x3 + (2 : Int32)) < 0 ∨ L ≤ (x3 + (2 : Int32)).toNatClampNeg then none else
        (kO C 0 6).bind fun f8 =>
        (fxX6_tray N 0 (xs (x3 + (1 : Int32)).toNatClampNeg) (xs (x3 + (2 : Int32)).toNatClampNeg) C).bind fun o6 =>
        if ¬ o6.1.length = 239 then none else
        if (x3 + (1 : Int32)) < 0 ∨ L ≤ (x3 + (1 : Int32)).toNatClampNeg then none else
        if (x3 + (2 : Int32)) < 0 ∨ L ≤ (x3 + (2 : Int32)).toNatClampNeg then none else
        (mxX7_tray N (xs (x3 + (1 : Int32)).toNatClampNeg) (xs (x3 + (2 : Int32)).toNatClampNeg) s).bind fun o13 =>
        if o6.2 = o13.2 then (
          lx_1064 (lx_18 L xs N n) x3 o6.1 o13.1) else (
          none)) else (
        if ((xs x3.toNatClampNeg) &&& (31 : Int32)) = (1 : Int32) then (
          if (x3 + (1 : Int32)) < 0 ∨ L ≤ (x3 + (1 : Int32)).toNatClampNeg then none else
          if (x3 + (2 : Int32)) < 0 ∨ L ≤ (x3 + (2 : Int32)).toNatClampNeg then none else
          if (x3 + (3 : Int32)) < 0 ∨ L ≤ (x3 + (3 : Int32)).toNatClampNeg then none else
          if (x3 + (4 : Int32)) < 0 ∨ L ≤ (x3 + (4 : Int32)).toNatClampNeg then none else
          if (x3 + (5 : Int32)) < 0 ∨ L ≤ (x3 + (5 : Int32)).toNatClampNeg then none else
          (kO C 0 6).bind fun f24 =>
          (fxX6_point N 0 (xs (x3 + (1 : Int32)).toNatClampNeg) (xs (x3 + (2 : Int32)).toNatClampNeg) (xs (x3 + (3 : Int32)).toNatClampNeg) (xs (x3 + (4 : Int32)).toNatClampNeg) (xs (x3 + (5 : Int32)).toNatClampNeg) C).bind fun o22 =>
          if ¬ o22.1.length = 239 then none else
          if (x3 + (1 : Int32)) < 0 ∨ L ≤ (x3 + (1 : Int32)).toNatClampNeg then none else
          if (x3 + (2 : Int32)) < 0 ∨ L ≤ (x3 + (2 : Int32)).toNatClampNeg then none else
          if (x3 + (3 : Int32)) < 0 ∨ L ≤ (x3 + (3 : Int32)).toNatClampNeg then none else
          if (x3 + (4 : Int32)) < 0 ∨ L ≤ (x3 + (4 : Int32)).toNatClampNeg then none else
          if (x3 + (5 : Int32)) < 0 ∨ L ≤ (x3 + (5 : Int32)).toNatClampNeg then none else
          (mxX7_point N (xs (x3 + (1 : Int32)).toNatClampNeg) (xs (x3 + (2 : Int32)).toNatClampNeg) (xs (x3 + (3 : Int32)).toNatClampNeg) (xs (x3 + (4 : Int32)).toNatClampNeg) (xs (x3 + (5 : Int32)).toNatClampNeg) s).bind fun o32 =>
          if o22.2 = o32.2 then (
            lx_1064 (lx_18 L xs N n) x3 o22.1 o32.1) else (
            none)) else (
          if ((xs x3.toNatClampNeg) &&& (31 : Int32)) = (2 : Int32) then (
            if (x3 + (1 : Int32)) < 0 ∨ L ≤ (x3 + (1 : Int32)).toNatClampNeg then none else
            if (x3 + (2 : Int32)) < 0 ∨ L ≤ (x3 + (2 : Int32)).toNatClampNeg then none else
            (kO C 0 6).bind fun f40 =>
            (fxX6_solid N 0 (xs (x3 + (1 : Int32)).toNatClampNeg) (xs (x3 + (2 : Int32)).toNatClampNeg) C).bind fun o38 =>
            if ¬ o38.1.length = 239 then none else
            if (x3 + (1 : Int32)) < 0 ∨ L ≤ (x3 + (1 : Int32)).toNatClampNeg then none else
            if (x3 + (2 : Int32)) < 0 ∨ L ≤ (x3 + (2 : Int32)).toNatClampNeg then none else
            (mxX7_solid N (xs (x3 + (1 : Int32)).toNatClampNeg) (xs (x3 + (2 : Int32)).toNatClampNeg) s).bind fun o45 =>
            if o38.2 = o45.2 then (
              lx_1064 (lx_18 L xs N n) x3 o38.1 o45.1) else (
              none)) else (
            if ((xs x3.toNatClampNeg) &&& (31 : Int32)) = (3 : Int32) then (
              if (x3 + (1 : Int32)) < 0 ∨ L ≤ (x3 + (1 : Int32)).toNatClampNeg then none else
              if (x3 + (2 : Int32)) < 0 ∨ L ≤ (x3 + (2 : Int32)).toNatClampNeg then none else
              if (x3 + (3 : Int32)) < 0 ∨ L ≤ (x3 + (3 : Int32)).toNatClampNeg then none else
              if (x3 + (4 : Int32)) < 0 ∨ L ≤ (x3 + (4 : Int32)).toNatClampNeg then none else
              (kO C 0 6).bind fun f55 =>
              (fxX6_grow N 0 (xs (x3 + (1 : Int32)).toNatClampNeg) (xs (x3 + (2 : Int32)).toNatClampNeg) (xs (x3 + (3 : Int32)).toNatClampNeg) (xs (x3 + (4 : Int32)).toNatClampNeg) C).bind fun o53 =>
              if ¬ o53.1.length = 239 then none else
              if (x3 + (1 : Int32)) < 0 ∨ L ≤ (x3 + (1 : Int32)).toNatClampNeg then none else
              if (x3 + (2 : Int32)) < 0 ∨ L ≤ (x3 + (2 : Int32)).toNatClampNeg then none else
              if (x3 + (3 : Int32)) < 0 ∨ L ≤ (x3 + (3 : Int32)).toNatClampNeg then none else
              if (x3 + (4 : Int32)) < 0 ∨ L ≤ (x3 + (4 : Int32)).toNatClampNeg then none else
              (mxX7_grow N (xs (x3 + (1 : Int32)).toNatClampNeg) (xs (x3 + (2 : Int32)).toNatClampNeg) (xs (x3 + (3 : Int32)).toNatClampNeg) (xs (x3 + (4 : Int32)).toNatClampNeg) s).bind fun o62 =>
              if o53.2 = o62.2 then (
                lx_1064 (lx_18 L xs N n) x3 o53.1 o62.1) else (
                none)) else (
              if ((xs x3.toNatClampNeg) &&& (31 : Int32)) = (4 : Int32) then (
                if (x3 + (1 : Int32)) < 0 ∨ L ≤ (x3 + (1 : Int32)).toNatClampNeg then none else
                if (x3 + (2 : Int32)) < 0 ∨ L ≤ (x3 + (2 : Int32)).toNatClampNeg then none else
                (kO C 0 6).bind fun f70 =>
                (fxX6_count N 0 (xs (x3 + (1 : Int32)).toNatClampNeg) (xs (x3 + (2 : Int32)).toNatClampNeg) C).bind fun o68 =>
                if ¬ o68.1.length = 239 then none else
                if (x3 + (1 : Int32)) < 0 ∨ L ≤ (x3 + (1 : Int32)).toNatClampNeg then none else
                if (x3 + (2 : Int32)) < 0 ∨ L ≤ (x3 + (2 : Int32)).toNatClampNeg then none else
                (mxX7_count N (xs (x3 + (1 : Int32)).toNatClampNeg) (xs (x3 + (2 : Int32)).toNatClampNeg) s).bind fun o75 =>
                if o68.2 = o75.2 then (
                  lx_1064 (lx_18 L xs N n) x3 o68.1 o75.1) else (
                  none)) else (
                if ((xs x3.toNatClampNeg) &&& (31 : Int32)) = (5 : Int32) then (
                  if (x3 + (1 : Int32)) < 0 ∨ L ≤ (x3 + (1 : Int32)).toNatClampNeg then none else
                  if (x3 + (2 : Int32)) < 0 ∨ L ≤ (x3 + (2 : Int32)).toNatClampNeg then none else
                  if (x3 + (3 : Int32)) < 0 ∨ L ≤ (x3 + (3 : Int32)).toNatClampNeg then none else
                  (kO C 0 6).bind fun f84 =>
                  (fxX6_corner N 0 (xs (x3 + (1 : Int32)).toNatClampNeg) (xs (x3 + (2 : Int32)).toNatClampNeg) (xs (x3 + (3 : Int32)).toNatClampNeg) C).bind fun o82 =>
                  if ¬ o82.1.length = 239 then none else
                  if (x3 + (1 : Int32)) < 0 ∨ L ≤ (x3 + (1 : Int32)).toNatClampNeg then none else
                  if (x3 + (2 : Int32)) < 0 ∨ L ≤ (x3 + (2 : Int32)).toNatClampNeg then none else
                  if (x3 + (3 : Int32)) < 0 ∨ L ≤ (x3 + (3 : Int32)).toNatClampNeg then none else
                  (mxX7_corner N (xs (x3 + (1 : Int32)).toNatClampNeg) (xs (x3 + (2 : Int32)).toNatClampNeg) (xs (x3 + (3 : Int32)).toNatClampNeg) s).bind fun o90 =>
                  if o82.2 = o90.2 then (
                    lx_1064 (lx_18 L xs N n) x3 o82.1 o90.1) else (
                    none)) else (
                  if ((xs x3.toNatClampNeg) &&& (31 : Int32)) = (6 : Int32) then (
                    if (x3 + (1 : Int32)) < 0 ∨ L ≤ (x3 + (1 : Int32)).toNatClampNeg then none else
                    if (x3 + (2 : Int32)) < 0 ∨ L ≤ (x3 + (2 : Int32)).toNatClampNeg then none else
                    if (x3 + (3 : Int32)) < 0 ∨ L ≤ (x3 + (3 : Int32)).toNatClampNeg then none else
                    (kO C 0 6).bind fun f99 =>
                    (fxX6_edge N 0 (xs (x3 + (1 : Int32)).toNatClampNeg) (xs (x3 + (2 : Int32)).toNatClampNeg) (xs (x3 + (3 : Int32)).toNatClampNeg) C).bind fun o97 =>
                    if ¬ o97.1.length = 239 then none else
                    if (x3 + (1 : Int32)) < 0 ∨ L ≤ (x3 + (1 : Int32)).toNatClampNeg then none else
                    if (x3 + (2 : Int32)) < 0 ∨ L ≤ (x3 + (2 : Int32)).toNatClampNeg then none else
                    if (x3 + (3 : Int32)) < 0 ∨ L ≤ (x3 + (3 : Int32)).toNatClampNeg then none else
                    (mxX7_edge N (xs (x3 + (1 : Int32)).toNatClampNeg) (xs (x3 + (2 : Int32)).toNatClampNeg) (xs (x3 + (3 : Int32)).toNatClampNeg) s).bind fun o105 =>
                    if o97.2 = o105.2 then (
                      lx_1064 (lx_18 L xs N n) x3 o97.1 o105.1) else (
                      none)) else (
                    if ((xs x3.toNatClampNeg) &&& (31 : Int32)) = (7 : Int32) then (
                      if (x3 + (1 : Int32)) < 0 ∨ L ≤ (x3 + (1 : Int32)).toNatClampNeg then none else
                      if (x3 + (2 : Int32)) < 0 ∨ L ≤ (x3 + (2 : Int32)).toNatClampNeg then none else
                      if (x3 + (3 : Int32)) < 0 ∨ L ≤ (x3 + (3 : Int32)).toNatClampNeg then none else
                      (kO C 0 6).bind fun f114 =>
                      (fxX6_face N 0 (xs (x3 + (1 : Int32)).toNatClampNeg) (xs (x3 + (2 : Int32)).toNatClampNeg) (xs (x3 + (3 : Int32)).toNatClampNeg) C).bind fun o112 =>
                      if ¬ o112.1.length = 239 then none else
                      if (x3 + (1 : Int32)) < 0 ∨ L ≤ (x3 + (1 : Int32)).toNatClampNeg then none else
                      if (x3 + (2 : Int32)) < 0 ∨ L ≤ (x3 + (2 : Int32)).toNatClampNeg then none else
                      if (x3 + (3 : Int32)) < 0 ∨ L ≤ (x3 + (3 : Int32)).toNatClampNeg then none else
                      (mxX7_face N (xs (x3 + (1 : Int32)).toNatClampNeg) (xs (x3 + (2 : Int32)).toNatClampNeg) (xs (x3 + (3 : Int32)).toNatClampNeg) s).bind fun o120 =>
                      if o112.2 = o120.2 then (
                        lx_1064 (lx_18 L xs N n) x3 o112.1 o120.1) else (
                        none)) else (
                      if ((xs x3.toNatClampNeg) &&& (31 : Int32)) = (8 : Int32) then (
                        if (x3 + (1 : Int32)) < 0 ∨ L ≤ (x3 + (1 : Int32)).toNatClampNeg then none else
                        if (x3 + (2 : Int32)) < 0 ∨ L ≤ (x3 + (2 : Int32)).toNatClampNeg then none else
                        if (x3 + (3 : Int32)) < 0 ∨ L ≤ (x3 + (3 : Int32)).toNatClampNeg then none else
                        if (x3 + (4 : Int32)) < 0 ∨ L ≤ (x3 + (4 : Int32)).toNatClampNeg then none else
                        if (x3 + (5 : Int32)) < 0 ∨ L ≤ (x3 + (5 : Int32)).toNatClampNeg then none else
                        (kO C 0 6).bind fun f131 =>
                        (fxX6_in N 0 (xs (x3 + (1 : Int32)).toNatClampNeg) (xs (x3 + (2 : Int32)).toNatClampNeg) (xs (x3 + (3 : Int32)).toNatClampNeg) (xs (x3 + (4 : Int32)).toNatClampNeg) (xs (x3 + (5 : Int32)).toNatClampNeg) C).bind fun o129 =>
                        if ¬ o129.1.length = 239 then none else
                        if (x3 + (1 : Int32)) < 0 ∨ L ≤ (x3 + (1 : Int32)).toNatClampNeg then none else
                        if (x3 + (2 : Int32)) < 0 ∨ L ≤ (x3 + (2 : Int32)).toNatClampNeg then none else
                        if (x3 + (3 : Int32)) < 0 ∨ L ≤ (x3 + (3 : Int32)).toNatClampNeg then none else
                        if (x3 + (4 : Int32)) < 0 ∨ L ≤ (x3 + (4 : Int32)).toNatClampNeg then none else
                        if (x3 + (5 : Int32)) < 0 ∨ L ≤ (x3 + (5 : Int32)).toNatClampNeg then none else
                        (mxX7_in N (xs (x3 + (1 : Int32)).toNatClampNeg) (xs (x3 + (2 : Int32)).toNatClampNeg) (xs (x3 + (3 : Int32)).toNatClampNeg) (xs (x3 + (4 : Int32)).toNatClampNeg) (xs (x3 + (5 : Int32)).toNatClampNeg) s).bind fun o139 =>
                        if o129.2 = o139.2 then (
                          lx_1064 (lx_18 L xs N n) x3 o129.1 o139.1) else (
                          none)) else (
                        if ((xs x3.toNatClampNeg) &&& (31 : Int32)) = (9 : Int32) then (
                          if (x3 + (1 : Int32)) < 0 ∨ L ≤ (x3 + (1 : Int32)).toNatClampNeg then none else
                          if (x3 + (2 : Int32)) < 0 ∨ L ≤ (x3 + (2 : Int32)).toNatClampNeg then none else
                          if (x3 + (3 : Int32)) < 0 ∨ L ≤ (x3 + (3 : Int32)).toNatClampNeg then none else
                          if (x3 + (4 : Int32)) < 0 ∨ L ≤ (x3 + (4 : Int32)).toNatClampNeg then none else
                          if (x3 + (5 : Int32)) < 0 ∨ L ≤ (x3 + (5 : Int32)).toNatClampNeg then none else
                          (kO C 0 6).bind fun f150 =>
                          (fxX6_side N 0 (xs (x3 + (1 : Int32)).toNatClampNeg) (xs (x3 + (2 : Int32)).toNatClampNeg) (xs (x3 + (3 : Int32)).toNatClampNeg) (xs (x3 + (4 : Int32)).toNatClampNeg) (xs (x3 + (5 : Int32)).toNatClampNeg) C).bind fun o148 =>
                          if ¬ o148.1.length = 239 then none else
                          if (x3 + (1 : Int32)) < 0 ∨ L ≤ (x3 + (1 : Int32)).toNatClampNeg then none else
                          if (x3 + (2 : Int32)) < 0 ∨ L ≤ (x3 + (2 : Int32)).toNatClampNeg then none else
                          if (x3 + (3 : Int32)) < 0 ∨ L ≤ (x3 + (3 : Int32)).toNatClampNeg then none else
                          if (x3 + (4 : Int32)) < 0 ∨ L ≤ (x3 + (4 : Int32)).toNatClampNeg then none else
                          if (x3 + (5 : Int32)) < 0 ∨ L ≤ (x3 + (5 : Int32)).toNatClampNeg then none else
                          (mxX7_side N (xs (x3 + (1 : Int32)).toNatClampNeg) (xs (x3 + (2 : Int32)).toNatClampNeg) (xs (x3 + (3 : Int32)).toNatClampNeg) (xs (x3 + (4 : Int32)).toNatClampNeg) (xs (x3 + (5 : Int32)).toNatClampNeg) s).bind fun o158 =>
                          if o148.2 = o158.2 then (
                            lx_1064 (lx_18 L xs N n) x3 o148.1 o158.1) else (
                            none)) else (
                          if ((xs x3.toNatClampNeg) &&& (31 : Int32)) = (10 : Int32) then (
                            if (x3 + (1 : Int32)) < 0 ∨ L ≤ (x3 + (1 : Int32)).toNatClampNeg then none else
                            (kO C 0 6).bind fun f165 =>
                            (fxX6_volume N 0 (xs (x3 + (1 : Int32)).toNatClampNeg) C).bind fun o163 =>
                            if ¬ o163.1.length = 239 then none else
                            if (x3 + (1 : Int32)) < 0 ∨ L ≤ (x3 + (1 : Int32)).toNatClampNeg then none else
                            (mxX7_volume N (xs (x3 + (1 : Int32)).toNatClampNeg) s).bind fun o169 =>
                            if o163.2 = o169.2 then (
                              lx_1064 (lx_18 L xs N n) x3 o163.1 o169.1) else (
                              none)) else (
                            if ((xs x3.toNatClampNeg) &&& (31 : Int32)) = (11 : Int32) then (
                              if (x3 + (1 : Int32)) < 0 ∨ L ≤ (x3 + (1 : Int32)).toNatClampNeg then none else
                              if (x3 + (2 : Int32)) < 0 ∨ L ≤ (x3 + (2 : Int32)).toNatClampNeg then none else
                              if (x3 + (3 : Int32)) < 0 ∨ L ≤ (x3 + (3 : Int32)).toNatClampNeg then none else
                              (kO C 0 6).bind fun f178 =>
                              (fxX6_middle N 0 (xs (x3 + (1 : Int32)).toNatClampNeg) (xs (x3 + (2 : Int32)).toNatClampNeg) (xs (x3 + (3 : Int32)).toNatClampNeg) C).bind fun o176 =>
                              if ¬ o176.1.length = 239 then none else
                              if (x3 + (1 : Int32)) < 0 ∨ L ≤ (x3 + (1 : Int32)).toNatClampNeg then none else
                              if (x3 + (2 : Int32)) < 0 ∨ L ≤ (x3 + (2 : Int32)).toNatClampNeg then none else
                              if (x3 + (3 : Int32)) < 0 ∨ L ≤ (x3 + (3 : Int32)).toNatClampNeg then none else
                              (mxX7_middle N (xs (x3 + (1 : Int32)).toNatClampNeg) (xs (x3 + (2 : Int32)).toNatClampNeg) (xs (x3 + (3 : Int32)).toNatClampNeg) s).bind fun o184 =>
                              if o176.2 = o184.2 then (
                                lx_1064 (lx_18 L xs N n) x3 o176.1 o184.1) else (
                                none)) else (
                              if ((xs x3.toNatClampNeg) &&& (31 : Int32)) = (12 : Int32) then (
                                if (x3 + (1 : Int32)) < 0 ∨ L ≤ (x3 + (1 : Int32)).toNatClampNeg then none else
                                if (x3 + (2 : Int32)) < 0 ∨ L ≤ (x3 + (2 : Int32)).toNatClampNeg then none else
                                (kO C 0 6).bind fun f192 =>
                                (fxX6_far N 0 (xs (x3 + (1 : Int32)).toNatClampNeg) (xs (x3 + (2 : Int32)).toNatClampNeg) C).bind fun o190 =>
                                if ¬ o190.1.length = 239 then none else
                                if (x3 + (1 : Int32)) < 0 ∨ L ≤ (x3 + (1 : Int32)).toNatClampNeg then none else
                                if (x3 + (2 : Int32)) < 0 ∨ L ≤ (x3 + (2 : Int32)).toNatClampNeg then none else
                                (mxX7_far N (xs (x3 + (1 : Int32)).toNatClampNeg) (xs (x3 + (2 : Int32)).toNatClampNeg) s).bind fun o197 =>
                                if o190.2 = o197.2 then (
                                  lx_1064 (lx_18 L xs N n) x3 o190.1 o197.1) else (
                                  none)) else (
                                if ((xs x3.toNatClampNeg) &&& (31 : Int32)) = (13 : Int32) then (
                                  if (x3 + (1 : Int32)) < 0 ∨ L ≤ (x3 + (1 : Int32)).toNatClampNeg then none else
                                  if (x3 + (2 : Int32)) < 0 ∨ L ≤ (x3 + (2 : Int32)).toNatClampNeg then none else
                                  (kO C 0 6).bind fun f205 =>
                                  (fxX6_width N 0 (xs (x3 + (1 : Int32)).toNatClampNeg) (xs (x3 + (2 : Int32)).toNatClampNeg) C).bind fun o203 =>
                                  if ¬ o203.1.length = 239 then none else
                                  if (x3 + (1 : Int32)) < 0 ∨ L ≤ (x3 + (1 : Int32)).toNatClampNeg then none else
                                  if (x3 + (2 : Int32)) < 0 ∨ L ≤ (x3 + (2 : Int32)).toNatClampNeg then none else
                                  (mxX7_width N (xs (x3 + (1 : Int32)).toNatClampNeg) (xs (x3 + (2 : Int32)).toNatClampNeg) s).bind fun o210 =>
                                  if o203.2 = o210.2 then (
                                    lx_1064 (lx_18 L xs N n) x3 o203.1 o210.1) else (
                                    none)) else (
                                  if ((xs x3.toNatClampNeg) &&& (31 : Int32)) = (14 : Int32) then (
                                    if (x3 + (1 : Int32)) < 0 ∨ L ≤ (x3 + (1 : Int32)).toNatClampNeg then none else
                                    if (x3 + (2 : Int32)) < 0 ∨ L ≤ (x3 + (2 : Int32)).toNatClampNeg then none else
                                    if (x3 + (3 : Int32)) < 0 ∨ L ≤ (x3 + (3 : Int32)).toNatClampNeg then none else
                                    (kO C 0 6).bind fun f219 =>
                                    (fxX6_sum N 0 (xs (x3 + (1 : Int32)).toNatClampNeg) (xs (x3 + (2 : Int32)).toNatClampNeg) (xs (x3 + (3 : Int32)).toNatClampNeg) C).bind fun o217 =>
                                    if ¬ o217.1.length = 239 then none else
                                    if (x3 + (1 : Int32)) < 0 ∨ L ≤ (x3 + (1 : Int32)).toNatClampNeg then none else
                                    if (x3 + (2 : Int32)) < 0 ∨ L ≤ (x3 + (2 : Int32)).toNatClampNeg then none else
                                    if (x3 + (3 : Int32)) < 0 ∨ L ≤ (x3 + (3 : Int32)).toNatClampNeg then none else
                                    (mxX7_sum N (xs (x3 + (1 : Int32)).toNatClampNeg) (xs (x3 + (2 : Int32)).toNatClampNeg) (xs (x3 + (3 : Int32)).toNatClampNeg) s).bind fun o225 =>
                                    if o217.2 = o225.2 then (
                                      lx_1064 (lx_18 L xs N n) x3 o217.1 o225.1) else (
                                      none)) else (
                                    if ((xs x3.toNatClampNeg) &&& (31 : Int32)) = (15 : Int32) then (
                                      if (x3 + (1 : Int32)) < 0 ∨ L ≤ (x3 + (1 : Int32)).toNatClampNeg then none else
                                      if (x3 + (2 : Int32)) < 0 ∨ L ≤ (x3 + (2 : Int32)).toNatClampNeg then none else
                                      (kO C 0 6).bind fun f233 =>
                                      (fxX6_apart N 0 (xs (x3 + (1 : Int32)).toNatClampNeg) (xs (x3 + (2 : Int32)).toNatClampNeg) C).bind fun o231 =>
                                      if ¬ o231.1.length = 239 then none else
                                      if (x3 + (1 : Int32)) < 0 ∨ L ≤ (x3 + (1 : Int32)).toNatClampNeg then none else
                                      if (x3 + (2 : Int32)) < 0 ∨ L ≤ (x3 + (2 : Int32)).toNatClampNeg then none else
                                      (mxX7_apart N (xs (x3 + (1 : Int32)).toNatClampNeg) (xs (x3 + (2 : Int32)).toNatClampNeg) s).bind fun o238 =>
                                      if o231.2 = o238.2 then (
                                        lx_1064 (lx_18 L xs N n) x3 o231.1 o238.1) else (
                                        none)) else (
                                      if ((xs x3.toNatClampNeg) &&& (31 : Int32)) = (16 : Int32) then (
                                        if (x3 + (1 : Int32)) < 0 ∨ L ≤ (x3 + (1 : Int32)).toNatClampNeg then none else
                                        if (x3 + (2 : Int32)) < 0 ∨ L ≤ (x3 + (2 : Int32)).toNatClampNeg then none else
                                        if (x3 + (3 : Int32)) < 0 ∨ L ≤ (x3 + (3 : Int32)).toNatClampNeg then none else
                                        (kO C 0 6).bind fun f247 =>
                                        (fxX6_near N 0 (xs (x3 + (1 : Int32)).toNatClampNeg) (xs (x3 + (2 : Int32)).toNatClampNeg) (xs (x3 + (3 : Int32)).toNatClampNeg) C).bind fun o245 =>
                                        if ¬ o245.1.length = 239 then none else
                                        if (x3 + (1 : Int32)) < 0 ∨ L ≤ (x3 + (1 : Int32)).toNatClampNeg then none else
                                        if (x3 + (2 : Int32)) < 0 ∨ L ≤ (x3 + (2 : Int32)).toNatClampNeg then none else
                                        if (x3 + (3 : Int32)) < 0 ∨ L ≤ (x3 + (3 : Int32)).toNatClampNeg then none else
                                        (mxX7_near N (xs (x3 + (1 : Int32)).toNatClampNeg) (xs (x3 + (2 : Int32)).toNatClampNeg) (xs (x3 + (3 : Int32)).toNatClampNeg) s).bind fun o253 =>
                                        if o245.2 = o253.2 then (
                                          lx_1064 (lx_18 L xs N n) x3 o245.1 o253.1) else (
                                          none)) else (
                                        if ((xs x3.toNatClampNeg) &&& (31 : Int32)) = (17 : Int32) then (
                                          if (x3 + (1 : Int32)) < 0 ∨ L ≤ (x3 + (1 : Int32)).toNatClampNeg then none else
                                          if (x3 + (2 : Int32)) < 0 ∨ L ≤ (x3 + (2 : Int32)).toNatClampNeg then none else
                                          (kO C 0 6).bind fun f261 =>
                                          (fxX6_same N 0 (xs (x3 + (1 : Int32)).toNatClampNeg) (xs (x3 + (2 : Int32)).toNatClampNeg) C).bind fun o259 =>
                                          if ¬ o259.1.length = 239 then none else
                                          if (x3 + (1 : Int32)) < 0 ∨ L ≤ (x3 + (1 : Int32)).toNatClampNeg then none else
                                          if (x3 + (2 : Int32)) < 0 ∨ L ≤ (x3 + (2 : Int32)).toNatClampNeg then none else
                                          (mxX7_same N (xs (x3 + (1 : Int32)).toNatClampNeg) (xs (x3 + (2 : Int32)).toNatClampNeg) s).bind fun o266 =>
                                          if o259.2 = o266.2 then (
                                            lx_1064 (lx_18 L xs N n) x3 o259.1 o266.1) else (
                                            none)) else (
                                          if ((xs x3.toNatClampNeg) &&& (31 : Int32)) = (18 : Int32) then (
                                            if (x3 + (1 : Int32)) < 0 ∨ L ≤ (x3 + (1 : Int32)).toNatClampNeg then none else
                                            if (x3 + (2 : Int32)) < 0 ∨ L ≤ (x3 + (2 : Int32)).toNatClampNeg then none else
                                            if (x3 + (3 : Int32)) < 0 ∨ L ≤ (x3 + (3 : Int32)).toNatClampNeg then none else
                                            if (x3 + (4 : Int32)) < 0 ∨ L ≤ (x3 + (4 : Int32)).toNatClampNeg then none else
                                            (kO C 0 6).bind fun f276 =>
                                            (fxX6_move N 0 (xs (x3 + (1 : Int32)).toNatClampNeg) (xs (x3 + (2 : Int32)).toNatClampNeg) (xs (x3 + (3 : Int32)).toNatClampNeg) (xs (x3 + (4 : Int32)).toNatClampNeg) C).bind fun o274 =>
                                            if ¬ o274.1.length = 239 then none else
                                            if (x3 + (1 : Int32)) < 0 ∨ L ≤ (x3 + (1 : Int32)).toNatClampNeg then none else
                                            if (x3 + (2 : Int32)) < 0 ∨ L ≤ (x3 + (2 : Int32)).toNatClampNeg then none else
                                            if (x3 + (3 : Int32)) < 0 ∨ L ≤ (x3 + (3 : Int32)).toNatClampNeg then none else
                                            if (x3 + (4 : Int32)) < 0 ∨ L ≤ (x3 + (4 : Int32)).toNatClampNeg then none else
                                            (mxX7_move N (xs (x3 + (1 : Int32)).toNatClampNeg) (xs (x3 + (2 : Int32)).toNatClampNeg) (xs (x3 + (3 : Int32)).toNatClampNeg) (xs (x3 + (4 : Int32)).toNatClampNeg) s).bind fun o283 =>
                                            if o274.2 = o283.2 then (
                                              lx_1064 (lx_18 L xs N n) x3 o274.1 o283.1) else (
                                              none)) else (
                                            if ((xs x3.toNatClampNeg) &&& (31 : Int32)) = (19 : Int32) then (
                                              if (x3 + (1 : Int32)) < 0 ∨ L ≤ (x3 + (1 : Int32)).toNatClampNeg then none else
                                              if (x3 + (2 : Int32)) < 0 ∨ L ≤ (x3 + (2 : Int32)).toNatClampNeg then none else
                                              (kO C 0 6).bind fun f291 =>
                                              (fxX6_mirror N 0 (xs (x3 + (1 : Int32)).toNatClampNeg) (xs (x3 + (2 : Int32)).toNatClampNeg) C).bind fun o289 =>
                                              if ¬ o289.1.length = 239 then none else
                                              if (x3 + (1 : Int32)) < 0 ∨ L ≤ (x3 + (1 : Int32)).toNatClampNeg then none else
                                              if (x3 + (2 : Int32)) < 0 ∨ L ≤ (x3 + (2 : Int32)).toNatClampNeg then none else
                                              (mxX7_mirror N (xs (x3 + (1 : Int32)).toNatClampNeg) (xs (x3 + (2 : Int32)).toNatClampNeg) s).bind fun o296 =>
                                              if o289.2 = o296.2 then (
                                                lx_1064 (lx_18 L xs N n) x3 o289.1 o296.1) else (
                                                none)) else (
                                              if ((xs x3.toNatClampNeg) &&& (31 : Int32)) = (20 : Int32) then (
                                                if (x3 + (1 : Int32)) < 0 ∨ L ≤ (x3 + (1 : Int32)).toNatClampNeg then none else
                                                if (x3 + (2 : Int32)) < 0 ∨ L ≤ (x3 + (2 : Int32)).toNatClampNeg then none else
                                                (kO C 0 6).bind fun f304 =>
                                                (fxX6_turn N 0 (xs (x3 + (1 : Int32)).toNatClampNeg) (xs (x3 + (2 : Int32)).toNatClampNeg) C).bind fun o302 =>
                                                if ¬ o302.1.length = 239 then none else
                                                if (x3 + (1 : Int32)) < 0 ∨ L ≤ (x3 + (1 : Int32)).toNatClampNeg then none else
                                                if (x3 + (2 : Int32)) < 0 ∨ L ≤ (x3 + (2 : Int32)).toNatClampNeg then none else
                                                (mxX7_turn N (xs (x3 + (1 : Int32)).toNatClampNeg) (xs (x3 + (2 : Int32)).toNatClampNeg) s).bind fun o309 =>
                                                if o302.2 = o309.2 then (
                                                  lx_1064 (lx_18 L xs N n) x3 o302.1 o309.1) else (
                                                  none)) else (
                                                if ((xs x3.toNatClampNeg) &&& (31 : Int32)) = (21 : Int32) then (
                                                  if (x3 + (1 : Int32)) < 0 ∨ L ≤ (x3 + (1 : Int32)).toNatClampNeg then none else
                                                  if (x3 + (2 : Int32)) < 0 ∨ L ≤ (x3 + (2 : Int32)).toNatClampNeg then none else
                                                  (kO C 0 6).bind fun f317 =>
                                                  (fxX6_copy N 0 (xs (x3 + (1 : Int32)).toNatClampNeg) (xs (x3 + (2 : Int32)).toNatClampNeg) C).bind fun o315 =>
                                                  if ¬ o315.1.length = 239 then none else
                                                  if (x3 + (1 : Int32)) < 0 ∨ L ≤ (x3 + (1 : Int32)).toNatClampNeg then none else
                                                  if (x3 + (2 : Int32)) < 0 ∨ L ≤ (x3 + (2 : Int32)).toNatClampNeg then none else
                                                  (mxX7_copy N (xs (x3 + (1 : Int32)).toNatClampNeg) (xs (x3 + (2 : Int32)).toNatClampNeg) s).bind fun o322 =>
                                                  if o315.2 = o322.2 then (
                                                    lx_1064 (lx_18 L xs N n) x3 o315.1 o322.1) else (
                                                    none)) else (
                                                  if ((xs x3.toNatClampNeg) &&& (31 : Int32)) = (22 : Int32) then (
                                                    (kO C 0 6).bind fun f328 =>
                                                    (fxX6_undo N 0 C).bind fun o326 =>
                                                    if ¬ o326.1.length = 239 then none else
                                                    (mxX7_undo N  s).bind fun o331 =>
                                                    if o326.2 = o331.2 then (
                                                      lx_1064 (lx_18 L xs N n) x3 o326.1 o331.1) else (
                                                      none)) else (
                                                    lx_1064 (lx_18 L xs N n) x3 C s))))))))))))))))))))))))
set_option maxHeartbeats 8000000 in
set_option maxRecDepth 100000 in
theorem lex_18 {L : Nat} {xs : Nat → Int32} {N : Nat} : ∀ (n : Nat) (x3 : Int32) (C : mh) (s : mS) (hC : C.length = 239) {o : Unit}, lx_18 L xs N n x3 C s = some o → mB (gL L xs) mL_law (18, [(0, .retAddr 0), (1, .ref 0), (2, .ref 239), (3, .int x3)], [], (hM C s), 2202, 110072) := by
  intro n
  induction n with
  | zero => intro x3 C s hC o hq; cases hq
  | succ n ih =>
    intro x3 C s hC o hq
    unfold lx_18 at hq
    refine mB_run odL_law 2 (g := (20, [(0, .retAddr 0), (1, .ref 0), (2, .ref 239), (3, .int x3)], [.retAddr 0, .int x3], (hM C s), 2202, 110072)) rfl ?_
    refine mL_len odL_law rfl ?_
    refine mB_run odL_law 2 (g := (24, [(0, .retAddr 0), (1, .ref 0), (2, .ref 239), (3, .int x3)], [.int ((Int32.ofNat L) - (6 : Int32)), .int x3], (hM C s), 2202, 110072)) rfl ?_
    by_cases c1 : ((Int32.ofNat L) - (6 : Int32)) < x3
    · rw [if_pos c1] at hq
      refine ic_gt_T (t := 1070) odL_law rfl rfl c1 ?_
      refine mB_run odL_law 1 (g := (1071, [(0, .retAddr 0), (1, .ref 0), (2, .ref 239), (3, .int x3)], [.int (1 : Int32)], (hM C s), 2202, 110072)) rfl ?_
      exact mL_ret odL_law rfl rfl rfl (by decide) (by decide)
    · rw [if_neg c1] at hq
      refine ic_gt_F (t := 1070) odL_law rfl rfl c1 ?_
      refine mB_run odL_law 2 (g := (29, [(0, .retAddr 0), (1, .ref 0), (2, .ref 239), (3, .int x3)], [.int x3, .retAddr 0], (hM C s), 2202, 110072)) rfl ?_
      by_cases c2 : x3 < 0 ∨ L ≤ x3.toNatClampNeg
      · rw [if_pos c2] at hq; cases hq
      rw [if_neg c2] at hq
      refine mL_ld odL_law rfl c2 ?_
      refine mB_run odL_law 2 (g := (33, [(0, .retAddr 0), (1, .ref 0), (2, .ref 239), (3, .int x3)], [.int ((xs x3.toNatClampNeg) &&& (31 : Int32))], (hM C s), 2202, 110072)) rfl ?_
      by_cases c3 : ((xs x3.toNatClampNeg) &&& (31 : Int32)) = (0 : Int32)
      · rw [if_pos c3] at hq
        refine r_tab odL_law rfl c3 (t := 140) rfl ?_
        refine mB_run odL_law 5 (g := (145, [(0, .retAddr 0), (1, .ref 0), (2, .ref 239), (3, .int x3)], [.int (x3 + (1 : Int32)), .retAddr 0, .ref 0], (hM C s), 2202, 110072)) rfl ?_
        by_cases c4 : (x3 + (1 : Int32)) < 0 ∨ L ≤ (x3 + (1 : Int32)).toNatClampNeg
        · rw [if_pos c4] at hq; cases hq
        rw [if_neg c4] at hq
        refine mL_ld odL_law rfl c4 ?_
        refine mB_run odL_law 4 (g := (150, [(0, .retAddr 0), (1, .ref 0), (2, .ref 239), (3, .int x3)], [.int (x3 + (2 : Int32)), .retAddr 0, .int (xs (x3 + (1 : Int32)).toNatClampNeg), .ref 0], (hM C s), 2202, 110072)) rfl ?_
        by_cases c5 : (x3 + (2 : Int32)) < 0 ∨ L ≤ (x3 + (2 : Int32)).toNatClampNeg
        · rw [if_pos c5] at hq; cases hq
        rw [if_neg c5] at hq
        refine mL_ld odL_law rfl c5 ?_
        obtain ⟨f8, k9, hq⟩ := bsm hq
        obtain ⟨o6, e7, hq⟩ := bsm hq
        by_cases hC10 : o6.1.length = 239
        case neg => rw [if_pos hC10] at hq; cases hq
        rw [if_neg (fun z => z hC10)] at hq
        refine mB_V (h := hM C s) (as := [.int (xs (x3 + (1 : Int32)).toNatClampNeg), .int (xs (x3 + (2 : Int32)).toNatClampNeg)]) odL_law okX6_tray lk_12_13 rfl (eaX6_tray (R := mseg s) e7) (kO_at (kO_ap k9)) rfl rfl rfl ?_
        show mB _ mL_law (154, [(0, .retAddr 0), (1, .ref 0), (2, .ref 239), (3, .int x3)], [.int o6.2], (hM o6.1 s), 2202, 110072)
        refine mB_run odL_law 5 (g := (159, [(0, .retAddr 0), (1, .ref 0), (2, .ref 239), (3, .int x3)], [.int (x3 + (1 : Int32)), .retAddr 0, .ref 239, .int o6.2], (hM o6.1 s), 2202, 110072)) rfl ?_
        by_cases c11 : (x3 + (1 : Int32)) < 0 ∨ L ≤ (x3 + (1 : Int32)).toNatClampNeg
        · rw [if_pos c11] at hq; cases hq
        rw [if_neg c11] at hq
        refine mL_ld odL_law rfl c11 ?_
        refine mB_run odL_law 4 (g := (164, [(0, .retAddr 0), (1, .ref 0), (2, .ref 239), (3, .int x3)], [.int (x3 + (2 : Int32)), .retAddr 0, .int (xs (x3 + (1 : Int32)).toNatClampNeg), .ref 239, .int o6.2], (hM o6.1 s), 2202, 110072)) rfl ?_
        by_cases c12 : (x3 + (2 : Int32)) < 0 ∨ L ≤ (x3 + (2 : Int32)).toNatClampNeg
        · rw [if_pos c12] at hq; cases hq
        rw [if_neg c12] at hq
        refine mL_ld odL_law rfl c12 ?_
        obtain ⟨o13, e14, hq⟩ := bsm hq
        refine mB_V (h := hM o6.1 s) (as := [.int (xs (x3 + (1 : Int32)).toNatClampNeg), .int (xs (x3 + (2 : Int32)).toNatClampNeg)]) odL_law okX7_tray lk_12_17 rfl (emX7_tray hC10 e14) (kO_at (md_O hC10)) rfl rfl rfl ?_
        show mB _ mL_law (168, [(0, .retAddr 0), (1, .ref 0), (2, .ref 239), (3, .int x3)], [.int o13.2, .int o6.2], (hM o6.1 o13.1), 2202, 110072)
        by_cases c15 : o6.2 = o13.2
        · rw [if_pos c15] at hq
          refine ic_eq_T (t := 1064) odL_law rfl rfl c15 ?_
          refine mB_lv [0, 1, 2, 3] (lv' := [(0, .retAddr 0), (1, .ref 0), (2, .ref 239), (3, .int x3)]) rfl ?_
          exact lex_1064 ih _ _ _ hC10 hq
        · rw [if_neg c15] at hq
          refine ic_eq_F (t := 1064) odL_law rfl rfl c15 ?_
          refine mB_run odL_law 1 (g := (172, [(0, .retAddr 0), (1, .ref 0), (2, .ref 239), (3, .int x3)], [.int (0 : Int32)], (hM o6.1 o13.1), 2202, 110072)) rfl ?_
          cases hq
      · rw [if_neg c3] at hq
        by_cases c16 : ((xs x3.toNatClampNeg) &&& (31 : Int32)) = (1 : Int32)
        · rw [if_pos c16] at hq
          refine r_tab odL_law rfl c16 (t := 173) rfl ?_
          refine mB_run odL_law 5 (g := (178, [(0, .retAddr 0), (1, .ref 0), (2, .ref 239), (3, .int x3)], [.int (x3 + (1 : Int32)), .retAddr 0, .ref 0], (hM C s), 2202, 110072)) rfl ?_
          by_cases c17 : (x3 + (1 : Int32)) < 0 ∨ L ≤ (x3 + (1 : Int32)).toNatClampNeg
          · rw [if_pos c17] at hq; cases hq
          rw [if_neg c17] at hq
          refine mL_ld odL_law rfl c17 ?_
          refine mB_run odL_law 4 (g := (183, [(0, .retAddr 0), (1, .ref 0), (2, .ref 239), (3, .int x3)], [.int (x3 + (2 : Int32)), .retAddr 0, .int (xs (x3 + (1 : Int32)).toNatClampNeg), .ref 0], (hM C s), 2202, 110072)) rfl ?_
          by_cases c18 : (x3 + (2 : Int32)) < 0 ∨ L ≤ (x3 + (2 : Int32)).toNatClampNeg
          · rw [if_pos c18] at hq; cases hq
          rw [if_neg c18] at hq
          refine mL_ld odL_law rfl c18 ?_
          refine mB_run odL_law 4 (g := (188, [(0, .retAddr 0), (1, .ref 0), (2, .ref 239), (3, .int x3)], [.int (x3 + (3 : Int32)), .retAddr 0, .int (xs (x3 + (2 : Int32)).toNatClampNeg), .int (xs (x3 + (1 : Int32)).toNatClampNeg), .ref 0], (hM C s), 2202, 110072)) rfl ?_
          by_cases c19 : (x3 + (3 : Int32)) < 0 ∨ L ≤ (x3 + (3 : Int32)).toNatClampNeg
          · rw [if_pos c19] at hq; cases hq
          rw [if_neg c19] at hq
          refine mL_ld odL_law rfl c19 ?_
          refine mB_run odL_law 4 (g := (193, [(0, .retAddr 0), (1, .ref 0), (2, .ref 239), (3, .int x3)], [.int (x3 + (4 : Int32)), .retAddr 0, .int (xs (x3 + (3 : Int32)).toNatClampNeg), .int (xs (x3 + (2 : Int32)).toNatClampNeg), .int (xs (x3 + (1 : Int32)).toNatClampNeg), .ref 0], (hM C s), 2202, 110072)) rfl ?_
          by_cases c20 : (x3 + (4 : Int32)) < 0 ∨ L ≤ (x3 + (4 : Int32)).toNatClampNeg
          · rw [if_pos c20] at hq; cases hq
          rw [if_neg c20] at hq
          refine mL_ld odL_law rfl c20 ?_
          refine mB_run odL_law 4 (g := (198, [(0, .retAddr 0), (1, .ref 0), (2, .ref 239), (3, .int x3)], [.int (x3 + (5 : Int32)), .retAddr 0, .int (xs (x3 + (4 : Int32)).toNatClampNeg), .int (xs (x3 + (3 : Int32)).toNatClampNeg), .int (xs (x3 + (2 : Int32)).toNatClampNeg), .int (xs (x3 + (1 : Int32)).toNatClampNeg), .ref 0], (hM C s), 2202, 110072)) rfl ?_
          by_cases c21 : (x3 + (5 : Int32)) < 0 ∨ L ≤ (x3 + (5 : Int32)).toNatClampNeg
          · rw [if_pos c21] at hq; cases hq
          rw [if_neg c21] at hq
          refine mL_ld odL_law rfl c21 ?_
          obtain ⟨f24, k25, hq⟩ := bsm hq
          obtain ⟨o22, e23, hq⟩ := bsm hq
          by_cases hC26 : o22.1.length = 239
          case neg => rw [if_pos hC26] at hq; cases hq
          rw [if_neg (fun z => z hC26)] at hq
          refine mB_V (h := hM C s) (as := [.int (xs (x3 + (1 : Int32)).toNatClampNeg), .int (xs (x3 + (2 : Int32)).toNatClampNeg), .int (xs (x3 + (3 : Int32)).toNatClampNeg), .int (xs (x3 + (4 : Int32)).toNatClampNeg), .int (xs (x3 + (5 : Int32)).toNatClampNeg)]) odL_law okX6_point lk_12_18 rfl (eaX6_point (R := mseg s) e23) (kO_at (kO_ap k25)) rfl rfl rfl ?_
          show mB _ mL_law (202, [(0, .retAddr 0), (1, .ref 0), (2, .ref 239), (3, .int x3)], [.int o22.2], (hM o22.1 s), 2202, 110072)
          refine mB_run odL_law 5 (g := (207, [(0, .retAddr 0), (1, .ref 0), (2, .ref 239), (3, .int x3)], [.int (x3 + (1 : Int32)), .retAddr 0, .ref 239, .int o22.2], (hM o22.1 s), 2202, 110072)) rfl ?_
          by_cases c27 : (x3 + (1 : Int32)) < 0 ∨ L ≤ (x3 + (1 : Int32)).toNatClampNeg
          · rw [if_pos c27] at hq; cases hq
          rw [if_neg c27] at hq
          refine mL_ld odL_law rfl c27 ?_
          refine mB_run odL_law 4 (g := (212, [(0, .retAddr 0), (1, .ref 0), (2, .ref 239), (3, .int x3)], [.int (x3 + (2 : Int32)), .retAddr 0, .int (xs (x3 + (1 : Int32)).toNatClampNeg), .ref 239, .int o22.2], (hM o22.1 s), 2202, 110072)) rfl ?_
          by_cases c28 : (x3 + (2 : Int32)) < 0 ∨ L ≤ (x3 + (2 : Int32)).toNatClampNeg
          · rw [if_pos c28] at hq; cases hq
          rw [if_neg c28] at hq
          refine mL_ld odL_law rfl c28 ?_
          refine mB_run odL_law 4 (g := (217, [(0, .retAddr 0), (1, .ref 0), (2, .ref 239), (3, .int x3)], [.int (x3 + (3 : Int32)), .retAddr 0, .int (xs (x3 + (2 : Int32)).toNatClampNeg), .int (xs (x3 + (1 : Int32)).toNatClampNeg), .ref 239, .int o22.2], (hM o22.1 s), 2202, 110072)) rfl ?_
          by_cases c29 : (x3 + (3 : Int32)) < 0 ∨ L ≤ (x3 + (3 : Int32)).toNatClampNeg
          · rw [if_pos c29] at hq; cases hq
          rw [if_neg c29] at hq
          refine mL_ld odL_law rfl c29 ?_
          refine mB_run odL_law 4 (g := (222, [(0, .retAddr 0), (1, .ref 0), (2, .ref 239), (3, .int x3)], [.int (x3 + (4 : Int32)), .retAddr 0, .int (xs (x3 + (3 : Int32)).toNatClampNeg), .int (xs (x3 + (2 : Int32)).toNatClampNeg), .int (xs (x3 + (1 : Int32)).toNatClampNeg), .ref 239, .int o22.2], (hM o22.1 s), 2202, 110072)) rfl ?_
          by_cases c30 : (x3 + (4 : Int32)) < 0 ∨ L ≤ (x3 + (4 : Int32)).toNatClampNeg
          · rw [if_pos c30] at hq; cases hq
          rw [if_neg c30] at hq
          refine mL_ld odL_law rfl c30 ?_
          refine mB_run odL_law 4 (g := (227, [(0, .retAddr 0), (1, .ref 0), (2, .ref 239), (3, .int x3)], [.int (x3 + (5 : Int32)), .retAddr 0, .int (xs (x3 + (4 : Int32)).toNatClampNeg), .int (xs (x3 + (3 : Int32)).toNatClampNeg), .int (xs (x3 + (2 : Int32)).toNatClampNeg), .int (xs (x3 + (1 : Int32)).toNatClampNeg), .ref 239, .int o22.2], (hM o22.1 s), 2202, 110072)) rfl ?_
          by_cases c31 : (x3 + (5 : Int32)) < 0 ∨ L ≤ (x3 + (5 : Int32)).toNatClampNeg
          · rw [if_pos c31] at hq; cases hq
          rw [if_neg c31] at hq
          refine mL_ld odL_law rfl c31 ?_
          obtain ⟨o32, e33, hq⟩ := bsm hq
          refine mB_V (h := hM o22.1 s) (as := [.int (xs (x3 + (1 : Int32)).toNatClampNeg), .int (xs (x3 + (2 : Int32)).toNatClampNeg), .int (xs (x3 + (3 : Int32)).toNatClampNeg), .int (xs (x3 + (4 : Int32)).toNatClampNeg), .int (xs (x3 + (5 : Int32)).toNatClampNeg)]) odL_law okX7_point lk_12_22 rfl (emX7_point hC26 e33) (kO_at (md_O hC26)) rfl rfl rfl ?_
          show mB _ mL_law (231, [(0, .retAddr 0), (1, .ref 0), (2, .ref 239), (3, .int x3)], [.int o32.2, .int o22.2], (hM o22.1 o32.1), 2202, 110072)
          by_cases c34 : o22.2 = o32.2
          · rw [if_pos c34] at hq
            refine ic_eq_T (t := 1064) odL_law rfl rfl c34 ?_
            refine mB_lv [0, 1, 2, 3] (lv' := [(0, .retAddr 0), (1, .ref 0), (2, .ref 239), (3, .int x3)]) rfl ?_
            exact lex_1064 ih _ _ _ hC26 hq
          · rw [if_neg c34] at hq
            refine ic_eq_F (t := 1064) odL_law rfl rfl c34 ?_
            refine mB_run odL_law 1 (g := (235, [(0, .retAddr 0), (1, .ref 0), (2, .ref 239), (3, .int x3)], [.int (0 : Int32)], (hM o22.1 o32.1), 2202, 110072)) rfl ?_
            cases hq
        · rw [if_neg c16] at hq
          by_cases c35 : ((xs x3.toNatClampNeg) &&& (31 : Int32)) = (2 : Int32)
          · rw [if_pos c35] at hq
            refine r_tab odL_law rfl c35 (t := 236) rfl ?_
            refine mB_run odL_law 5 (g := (241, [(0, .retAddr 0), (1, .ref 0), (2, .ref 239), (3, .int x3)], [.int (x3 + (1 : Int32)), .retAddr 0, .ref 0], (hM C s), 2202, 110072)) rfl ?_
            by_cases c36 : (x3 + (1 : Int32)) < 0 ∨ L ≤ (x3 + (1 : Int32)).toNatClampNeg
            · rw [if_pos c36] at hq; cases hq
            rw [if_neg c36] at hq
            refine mL_ld odL_law rfl c36 ?_
            refine mB_run odL_law 4 (g := (246, [(0, .retAddr 0), (1, .ref 0), (2, .ref 239), (3, .int x3)], [.int (x3 + (2 : Int32)), .retAddr 0, .int (xs (x3 + (1 : Int32)).toNatClampNeg), .ref 0], (hM C s), 2202, 110072)) rfl ?_
            by_cases c37 : (x3 + (2 : Int32)) < 0 ∨ L ≤ (x3 + (2 : Int32)).toNatClampNeg
            · rw [if_pos c37] at hq; cases hq
            rw [if_neg c37] at hq
            refine mL_ld odL_law rfl c37 ?_
            obtain ⟨f40, k41, hq⟩ := bsm hq
            obtain ⟨o38, e39, hq⟩ := bsm hq
            by_cases hC42 : o38.1.length = 239
            case neg => rw [if_pos hC42] at hq; cases hq
            rw [if_neg (fun z => z hC42)] at hq
            refine mB_V (h := hM C s) (as := [.int (xs (x3 + (1 : Int32)).toNatClampNeg), .int (xs (x3 + (2 : Int32)).toNatClampNeg)]) odL_law okX6_solid lk_12_23 rfl (eaX6_solid (R := mseg s) e39) (kO_at (kO_ap k41)) rfl rfl rfl ?_
            show mB _ mL_law (250, [(0, .retAddr 0), (1, .ref 0), (2, .ref 239), (3, .int x3)], [.int o38.2], (hM o38.1 s), 2202, 110072)
            refine mB_run odL_law 5 (g := (255, [(0, .retAddr 0), (1, .ref 0), (2, .ref 239), (3, .int x3)], [.int (x3 + (1 : Int32)), .retAddr 0, .ref 239, .int o38.2], (hM o38.1 s), 2202, 110072)) rfl ?_
            by_cases c43 : (x3 + (1 : Int32)) < 0 ∨ L ≤ (x3 + (1 : Int32)).toNatClampNeg
            · rw [if_pos c43] at hq; cases hq
            rw [if_neg c43] at hq
            refine mL_ld odL_law rfl c43 ?_
            refine mB_run odL_law 4 (g := (260, [(0, .retAddr 0), (1, .ref 0), (2, .ref 239), (3, .int x3)], [.int (x3 + (2 : Int32)), .retAddr 0, .int (xs (x3 + (1 : Int32)).toNatClampNeg), .ref 239, .int o38.2], (hM o38.1 s), 2202, 110072)) rfl ?_
            by_cases c44 : (x3 + (2 : Int32)) < 0 ∨ L ≤ (x3 + (2 : Int32)).toNatClampNeg
            · rw [if_pos c44] at hq; cases hq
            rw [if_neg c44] at hq
            refine mL_ld odL_law rfl c44 ?_
            obtain ⟨o45, e46, hq⟩ := bsm hq
            refine mB_V (h := hM o38.1 s) (as := [.int (xs (x3 + (1 : Int32)).toNatClampNeg), .int (xs (x3 + (2 : Int32)).toNatClampNeg)]) odL_law okX7_solid lk_12_27 rfl (emX7_solid hC42 e46) (kO_at (md_O hC42)) rfl rfl rfl ?_
            show mB _ mL_law (264, [(0, .retAddr 0), (1, .ref 0), (2, .ref 239), (3, .int x3)], [.int o45.2, .int o38.2], (hM o38.1 o45.1), 2202, 110072)
            by_cases c47 : o38.2 = o45.2
            · rw [if_pos c47] at hq
              refine ic_eq_T (t := 1064) odL_law rfl rfl c47 ?_
              refine mB_lv [0, 1, 2, 3] (lv' := [(0, .retAddr 0), (1, .ref 0), (2, .ref 239), (3, .int x3)]) rfl ?_
              exact lex_1064 ih _ _ _ hC42 hq
            · rw [if_neg c47] at hq
              refine ic_eq_F (t := 1064) odL_law rfl rfl c47 ?_
              refine mB_run odL_law 1 (g := (268, [(0, .retAddr 0), (1, .ref 0), (2, .ref 239), (3, .int x3)], [.int (0 : Int32)], (hM o38.1 o45.1), 2202, 110072)) rfl ?_
              cases hq
          · rw [if_neg c35] at hq
            by_cases c48 : ((xs x3.toNatClampNeg) &&& (31 : Int32)) = (3 : Int32)
            · rw [if_pos c48] at hq
              refine r_tab odL_law rfl c48 (t := 269) rfl ?_
              refine mB_run odL_law 5 (g := (274, [(0, .retAddr 0), (1, .ref 0), (2, .ref 239), (3, .int x3)], [.int (x3 + (1 : Int32)), .retAddr 0, .ref 0], (hM C s), 2202, 110072)) rfl ?_
              by_cases c49 : (x3 + (1 : Int32)) < 0 ∨ L ≤ (x3 + (1 : Int32)).toNatClampNeg
              · rw [if_pos c49] at hq; cases hq
              rw [if_neg c49] at hq
              refine mL_ld odL_law rfl c49 ?_
              refine mB_run odL_law 4 (g := (279, [(0, .retAddr 0), (1, .ref 0), (2, .ref 239), (3, .int x3)], [.int (x3 + (2 : Int32)), .retAddr 0, .int (xs (x3 + (1 : Int32)).toNatClampNeg), .ref 0], (hM C s), 2202, 110072)) rfl ?_
              by_cases c50 : (x3 + (2 : Int32)) < 0 ∨ L ≤ (x3 + (2 : Int32)).toNatClampNeg
              · rw [if_pos c50] at hq; cases hq
              rw [if_neg c50] at hq
              refine mL_ld odL_law rfl c50 ?_
              refine mB_run odL_law 4 (g := (284, [(0, .retAddr 0), (1, .ref 0), (2, .ref 239), (3, .int x3)], [.int (x3 + (3 : Int32)), .retAddr 0, .int (xs (x3 + (2 : Int32)).toNatClampNeg), .int (xs (x3 + (1 : Int32)).toNatClampNeg), .ref 0], (hM C s), 2202, 110072)) rfl ?_
              by_cases c51 : (x3 + (3 : Int32)) < 0 ∨ L ≤ (x3 + (3 : Int32)).toNatClampNeg
              · rw [if_pos c51] at hq; cases hq
              rw [if_neg c51] at hq
              refine mL_ld odL_law rfl c51 ?_
              refine mB_run odL_law 4 (g := (289, [(0, .retAddr 0), (1, .ref 0), (2, .ref 239), (3, .int x3)], [.int (x3 + (4 : Int32)), .retAddr 0, .int (xs (x3 + (3 : Int32)).toNatClampNeg), .int (xs (x3 + (2 : Int32)).toNatClampNeg), .int (xs (x3 + (1 : Int32)).toNatClampNeg), .ref 0], (hM C s), 2202, 110072)) rfl ?_
              by_cases c52 : (x3 + (4 : Int32)) < 0 ∨ L ≤ (x3 + (4 : Int32)).toNatClampNeg
              · rw [if_pos c52] at hq; cases hq
              rw [if_neg c52] at hq
              refine mL_ld odL_law rfl c52 ?_
              obtain ⟨f55, k56, hq⟩ := bsm hq
              obtain ⟨o53, e54, hq⟩ := bsm hq
              by_cases hC57 : o53.1.length = 239
              case neg => rw [if_pos hC57] at hq; cases hq
              rw [if_neg (fun z => z hC57)] at hq
              refine mB_V (h := hM C s) (as := [.int (xs (x3 + (1 : Int32)).toNatClampNeg), .int (xs (x3 + (2 : Int32)).toNatClampNeg), .int (xs (x3 + (3 : Int32)).toNatClampNeg), .int (xs (x3 + (4 : Int32)).toNatClampNeg)]) odL_law okX6_grow lk_12_28 rfl (eaX6_grow (R := mseg s) e54) (kO_at (kO_ap k56)) rfl rfl rfl ?_
              show mB _ mL_law (293, [(0, .retAddr 0), (1, .ref 0), (2, .ref 239), (3, .int x3)], [.int o53.2], (hM o53.1 s), 2202, 110072)
              refine mB_run odL_law 5 (g := (298, [(0, .retAddr 0), (1, .ref 0), (2, .ref 239), (3, .int x3)], [.int (x3 + (1 : Int32)), .retAddr 0, .ref 239, .int o53.2], (hM o53.1 s), 2202, 110072)) rfl ?_
              by_cases c58 : (x3 + (1 : Int32)) < 0 ∨ L ≤ (x3 + (1 : Int32)).toNatClampNeg
              · rw [if_pos c58] at hq; cases hq
              rw [if_neg c58] at hq
              refine mL_ld odL_law rfl c58 ?_
              refine mB_run odL_law 4 (g := (303, [(0, .retAddr 0), (1, .ref 0), (2, .ref 239), (3, .int x3)], [.int (x3 + (2 : Int32)), .retAddr 0, .int (xs (x3 + (1 : Int32)).toNatClampNeg), .ref 239, .int o53.2], (hM o53.1 s), 2202, 110072)) rfl ?_
              by_cases c59 : (x3 + (2 : Int32)) < 0 ∨ L ≤ (x3 + (2 : Int32)).toNatClampNeg
              · rw [if_pos c59] at hq; cases hq
              rw [if_neg c59] at hq
              refine mL_ld odL_law rfl c59 ?_
              refine mB_run odL_law 4 (g := (308, [(0, .retAddr 0), (1, .ref 0), (2, .ref 239), (3, .int x3)], [.int (x3 + (3 : Int32)), .retAddr 0, .int (xs (x3 + (2 : Int32)).toNatClampNeg), .int (xs (x3 + (1 : Int32)).toNatClampNeg), .ref 239, .int o53.2], (hM o53.1 s), 2202, 110072)) rfl ?_
              by_cases c60 : (x3 + (3 : Int32)) < 0 ∨ L ≤ (x3 + (3 : Int32)).toNatClampNeg
              · rw [if_pos c60] at hq; cases hq
              rw [if_neg c60] at hq
              refine mL_ld odL_law rfl c60 ?_
              refine mB_run odL_law 4 (g := (313, [(0, .retAddr 0), (1, .ref 0), (2, .ref 239), (3, .int x3)], [.int (x3 + (4 : Int32)), .retAddr 0, .int (xs (x3 + (3 : Int32)).toNatClampNeg), .int (xs (x3 + (2 : Int32)).toNatClampNeg), .int (xs (x3 + (1 : Int32)).toNatClampNeg), .ref 239, .int o53.2], (hM o53.1 s), 2202, 110072)) rfl ?_
              by_cases c61 : (x3 + (4 : Int32)) < 0 ∨ L ≤ (x3 + (4 : Int32)).toNatClampNeg
              · rw [if_pos c61] at hq; cases hq
              rw [if_neg c61] at hq
              refine mL_ld odL_law rfl c61 ?_
              obtain ⟨o62, e63, hq⟩ := bsm hq
              refine mB_V (h := hM o53.1 s) (as := [.int (xs (x3 + (1 : Int32)).toNatClampNeg), .int (xs (x3 + (2 : Int32)).toNatClampNeg), .int (xs (x3 + (3 : Int32)).toNatClampNeg), .int (xs (x3 + (4 : Int32)).toNatClampNeg)]) odL_law okX7_grow lk_12_32 rfl (emX7_grow hC57 e63) (kO_at (md_O hC57)) rfl rfl rfl ?_
              show mB _ mL_law (317, [(0, .retAddr 0), (1, .ref 0), (2, .ref 239), (3, .int x3)], [.int o62.2, .int o53.2], (hM o53.1 o62.1), 2202, 110072)
              by_cases c64 : o53.2 = o62.2
              · rw [if_pos c64] at hq
                refine ic_eq_T (t := 1064) odL_law rfl rfl c64 ?_
                refine mB_lv [0, 1, 2, 3] (lv' := [(0, .retAddr 0), (1, .ref 0), (2, .ref 239), (3, .int x3)]) rfl ?_
                exact lex_1064 ih _ _ _ hC57 hq
              · rw [if_neg c64] at hq
                refine ic_eq_F (t := 1064) odL_law rfl rfl c64 ?_
                refine mB_run odL_law 1 (g := (321, [(0, .retAddr 0), (1, .ref 0), (2, .ref 239), (3, .int x3)], [.int (0 : Int32)], (hM o53.1 o62.1), 2202, 110072)) rfl ?_
                cases hq
            · rw [if_neg c48] at hq
              by_cases c65 : ((xs x3.toNatClampNeg) &&& (31 : Int32)) = (4 : Int32)
              · rw [if_pos c65] at hq
                refine r_tab odL_law rfl c65 (t := 322) rfl ?_
                refine mB_run odL_law 5 (g := (327, [(0, .retAddr 0), (1, .ref 0), (2, .ref 239), (3, .int x3)], [.int (x3 + (1 : Int32)), .retAddr 0, .ref 0], (hM C s), 2202, 110072)) rfl ?_
                by_cases c66 : (x3 + (1 : Int32)) < 0 ∨ L ≤ (x3 + (1 : Int32)).toNatClampNeg
                · rw [if_pos c66] at hq; cases hq
                rw [if_neg c66] at hq
                refine mL_ld odL_law rfl c66 ?_
                refine mB_run odL_law 4 (g := (332, [(0, .retAddr 0), (1, .ref 0), (2, .ref 239), (3, .int x3)], [.int (x3 + (2 : Int32)), .retAddr 0, .int (xs (x3 + (1 : Int32)).toNatClampNeg), .ref 0], (hM C s), 2202, 110072)) rfl ?_
                by_cases c67 : (x3 + (2 : Int32)) < 0 ∨ L ≤ (x3 + (2 : Int32)).toNatClampNeg
                · rw [if_pos c67] at hq; cases hq
                rw [if_neg c67] at hq
                refine mL_ld odL_law rfl c67 ?_
                obtain ⟨f70, k71, hq⟩ := bsm hq
                obtain ⟨o68, e69, hq⟩ := bsm hq
                by_cases hC72 : o68.1.length = 239
                case neg => rw [if_pos hC72] at hq; cases hq
                rw [if_neg (fun z => z hC72)] at hq
                refine mB_V (h := hM C s) (as := [.int (xs (x3 + (1 : Int32)).toNatClampNeg), .int (xs (x3 + (2 : Int32)).toNatClampNeg)]) odL_law okX6_count lk_12_33 rfl (eaX6_count (R := mseg s) e69) (kO_at (kO_ap k71)) rfl rfl rfl ?_
                show mB _ mL_law (336, [(0, .retAddr 0), (1, .ref 0), (2, .ref 239), (3, .int x3)], [.int o68.2], (hM o68.1 s), 2202, 110072)
                refine mB_run odL_law 5 (g := (341, [(0, .retAddr 0), (1, .ref 0), (2, .ref 239), (3, .int x3)], [.int (x3 + (1 : Int32)), .retAddr 0, .ref 239, .int o68.2], (hM o68.1 s), 2202, 110072)) rfl ?_
                by_cases c73 : (x3 + (1 : Int32)) < 0 ∨ L ≤ (x3 + (1 : Int32)).toNatClampNeg
                · rw [if_pos c73] at hq; cases hq
                rw [if_neg c73] at hq
                refine mL_ld odL_law rfl c73 ?_
                refine mB_run odL_law 4 (g := (346, [(0, .retAddr 0), (1, .ref 0), (2, .ref 239), (3, .int x3)], [.int (x3 + (2 : Int32)), .retAddr 0, .int (xs (x3 + (1 : Int32)).toNatClampNeg), .ref 239, .int o68.2], (hM o68.1 s), 2202, 110072)) rfl ?_
                by_cases c74 : (x3 + (2 : Int32)) < 0 ∨ L ≤ (x3 + (2 : Int32)).toNatClampNeg
                · rw [if_pos c74] at hq; cases hq
                rw [if_neg c74] at hq
                refine mL_ld odL_law rfl c74 ?_
                obtain ⟨o75, e76, hq⟩ := bsm hq
                refine mB_V (h := hM o68.1 s) (as := [.int (xs (x3 + (1 : Int32)).toNatClampNeg), .int (xs (x3 + (2 : Int32)).toNatClampNeg)]) odL_law okX7_count lk_12_36 rfl (emX7_count hC72 e76) (kO_at (md_O hC72)) rfl rfl rfl ?_
                show mB _ mL_law (350, [(0, .retAddr 0), (1, .ref 0), (2, .ref 239), (3, .int x3)], [.int o75.2, .int o68.2], (hM o68.1 o75.1), 2202, 110072)
                by_cases c77 : o68.2 = o75.2
                · rw [if_pos c77] at hq
                  refine ic_eq_T (t := 1064) odL_law rfl rfl c77 ?_
                  refine mB_lv [0, 1, 2, 3] (lv' := [(0, .retAddr 0), (1, .ref 0), (2, .ref 239), (3, .int x3)]) rfl ?_
                  exact lex_1064 ih _ _ _ hC72 hq
                · rw [if_neg c77] at hq
                  refine ic_eq_F (t := 1064) odL_law rfl rfl c77 ?_
                  refine mB_run odL_law 1 (g := (354, [(0, .retAddr 0), (1, .ref 0), (2, .ref 239), (3, .int x3)], [.int (0 : Int32)], (hM o68.1 o75.1), 2202, 110072)) rfl ?_
                  cases hq
              · rw [if_neg c65] at hq
                by_cases c78 : ((xs x3.toNatClampNeg) &&& (31 : Int32)) = (5 : Int32)
                · rw [if_pos c78] at hq
                  refine r_tab odL_law rfl c78 (t := 355) rfl ?_
                  refine mB_run odL_law 5 (g := (360, [(0, .retAddr 0), (1, .ref 0), (2, .ref 239), (3, .int x3)], [.int (x3 + (1 : Int32)), .retAddr 0, .ref 0], (hM C s), 2202, 110072)) rfl ?_
                  by_cases c79 : (x3 + (1 : Int32)) < 0 ∨ L ≤ (x3 + (1 : Int32)).toNatClampNeg
                  · rw [if_pos c79] at hq; cases hq
                  rw [if_neg c79] at hq
                  refine mL_ld odL_law rfl c79 ?_
                  refine mB_run odL_law 4 (g := (365, [(0, .retAddr 0), (1, .ref 0), (2, .ref 239), (3, .int x3)], [.int (x3 + (2 : Int32)), .retAddr 0, .int (xs (x3 + (1 : Int32)).toNatClampNeg), .ref 0], (hM C s), 2202, 110072)) rfl ?_
                  by_cases c80 : (x3 + (2 : Int32)) < 0 ∨ L ≤ (x3 + (2 : Int32)).toNatClampNeg
                  · rw [if_pos c80] at hq; cases hq
                  rw [if_neg c80] at hq
                  refine mL_ld odL_law rfl c80 ?_
                  refine mB_run odL_law 4 (g := (370, [(0, .retAddr 0), (1, .ref 0), (2, .ref 239), (3, .int x3)], [.int (x3 + (3 : Int32)), .retAddr 0, .int (xs (x3 + (2 : Int32)).toNatClampNeg), .int (xs (x3 + (1 : Int32)).toNatClampNeg), .ref 0], (hM C s), 2202, 110072)) rfl ?_
                  by_cases c81 : (x3 + (3 : Int32)) < 0 ∨ L ≤ (x3 + (3 : Int32)).toNatClampNeg
                  · rw [if_pos c81] at hq; cases hq
                  rw [if_neg c81] at hq
                  refine mL_ld odL_law rfl c81 ?_
                  obtain ⟨f84, k85, hq⟩ := bsm hq
                  obtain ⟨o82, e83, hq⟩ := bsm hq
                  by_cases hC86 : o82.1.length = 239
                  case neg => rw [if_pos hC86] at hq; cases hq
                  rw [if_neg (fun z => z hC86)] at hq
                  refine mB_V (h := hM C s) (as := [.int (xs (x3 + (1 : Int32)).toNatClampNeg), .int (xs (x3 + (2 : Int32)).toNatClampNeg), .int (xs (x3 + (3 : Int32)).toNatClampNeg)]) odL_law okX6_corner lk_12_37 rfl (eaX6_corner (R := mseg s) e83) (kO_at (kO_ap k85)) rfl rfl rfl ?_
                  show mB _ mL_law (374, [(0, .retAddr 0), (1, .ref 0), (2, .ref 239), (3, .int x3)], [.int o82.2], (hM o82.1 s), 2202, 110072)
                  refine mB_run odL_law 5 (g := (379, [(0, .retAddr 0), (1, .ref 0), (2, .ref 239), (3, .int x3)], [.int (x3 + (1 : Int32)), .retAddr 0, .ref 239, .int o82.2], (hM o82.1 s), 2202, 110072)) rfl ?_
                  by_cases c87 : (x3 + (1 : Int32)) < 0 ∨ L ≤ (x3 + (1 : Int32)).toNatClampNeg
                  · rw [if_pos c87] at hq; cases hq
                  rw [if_neg c87] at hq
                  refine mL_ld odL_law rfl c87 ?_
                  refine mB_run odL_law 4 (g := (384, [(0, .retAddr 0), (1, .ref 0), (2, .ref 239), (3, .int x3)], [.int (x3 + (2 : Int32)), .retAddr 0, .int (xs (x3 + (1 : Int32)).toNatClampNeg), .ref 239, .int o82.2], (hM o82.1 s), 2202, 110072)) rfl ?_
                  by_cases c88 : (x3 + (2 : Int32)) < 0 ∨ L ≤ (x3 + (2 : Int32)).toNatClampNeg
                  · rw [if_pos c88] at hq; cases hq
                  rw [if_neg c88] at hq
                  refine mL_ld odL_law rfl c88 ?_
                  refine mB_run odL_law 4 (g := (389, [(0, .retAddr 0), (1, .ref 0), (2, .ref 239), (3, .int x3)], [.int (x3 + (3 : Int32)), .retAddr 0, .int (xs (x3 + (2 : Int32)).toNatClampNeg), .int (xs (x3 + (1 : Int32)).toNatClampNeg), .ref 239, .int o82.2], (hM o82.1 s), 2202, 110072)) rfl ?_
                  by_cases c89 : (x3 + (3 : Int32)) < 0 ∨ L ≤ (x3 + (3 : Int32)).toNatClampNeg
                  · rw [if_pos c89] at hq; cases hq
                  rw [if_neg c89] at hq
                  refine mL_ld odL_law rfl c89 ?_
                  obtain ⟨o90, e91, hq⟩ := bsm hq
                  refine mB_V (h := hM o82.1 s) (as := [.int (xs (x3 + (1 : Int32)).toNatClampNeg), .int (xs (x3 + (2 : Int32)).toNatClampNeg), .int (xs (x3 + (3 : Int32)).toNatClampNeg)]) odL_law okX7_corner lk_12_41 rfl (emX7_corner hC86 e91) (kO_at (md_O hC86)) rfl rfl rfl ?_
                  show mB _ mL_law (393, [(0, .retAddr 0), (1, .ref 0), (2, .ref 239), (3, .int x3)], [.int o90.2, .int o82.2], (hM o82.1 o90.1), 2202, 110072)
                  by_cases c92 : o82.2 = o90.2
                  · rw [if_pos c92] at hq
                    refine ic_eq_T (t := 1064) odL_law rfl rfl c92 ?_
                    refine mB_lv [0, 1, 2, 3] (lv' := [(0, .retAddr 0), (1, .ref 0), (2, .ref 239), (3, .int x3)]) rfl ?_
                    exact lex_1064 ih _ _ _ hC86 hq
                  · rw [if_neg c92] at hq
                    refine ic_eq_F (t := 1064) odL_law rfl rfl c92 ?_
                    refine mB_run odL_law 1 (g := (397, [(0, .retAddr 0), (1, .ref 0), (2, .ref 239), (3, .int x3)], [.int (0 : Int32)], (hM o82.1 o90.1), 2202, 110072)) rfl ?_
                    cases hq
                · rw [if_neg c78] at hq
                  by_cases c93 : ((xs x3.toNatClampNeg) &&& (31 : Int32)) = (6 : Int32)
                  · rw [if_pos c93] at hq
                    refine r_tab odL_law rfl c93 (t := 398) rfl ?_
                    refine mB_run odL_law 5 (g := (403, [(0, .retAddr 0), (1, .ref 0), (2, .ref 239), (3, .int x3)], [.int (x3 + (1 : Int32)), .retAddr 0, .ref 0], (hM C s), 2202, 110072)) rfl ?_
                    by_cases c94 : (x3 + (1 : Int32)) < 0 ∨ L ≤ (x3 + (1 : Int32)).toNatClampNeg
                    · rw [if_pos c94] at hq; cases hq
                    rw [if_neg c94] at hq
                    refine mL_ld odL_law rfl c94 ?_
                    refine mB_run odL_law 4 (g := (408, [(0, .retAddr 0), (1, .ref 0), (2, .ref 239), (3, .int x3)], [.int (x3 + (2 : Int32)), .retAddr 0, .int (xs (x3 + (1 : Int32)).toNatClampNeg), .ref 0], (hM C s), 2202, 110072)) rfl ?_
                    by_cases c95 : (x3 + (2 : Int32)) < 0 ∨ L ≤ (x3 + (2 : Int32)).toNatClampNeg
                    · rw [if_pos c95] at hq; cases hq
                    rw [if_neg c95] at hq
                    refine mL_ld odL_law rfl c95 ?_
                    refine mB_run odL_law 4 (g := (413, [(0, .retAddr 0), (1, .ref 0), (2, .ref 239), (3, .int x3)], [.int (x3 + (3 : Int32)), .retAddr 0, .int (xs (x3 + (2 : Int32)).toNatClampNeg), .int (xs (x3 + (1 : Int32)).toNatClampNeg), .ref 0], (hM C s), 2202, 110072)) rfl ?_
                    by_cases c96 : (x3 + (3 : Int32)) < 0 ∨ L ≤ (x3 + (3 : Int32)).toNatClampNeg
                    · rw [if_pos c96] at hq; cases hq
                    rw [if_neg c96] at hq
                    refine mL_ld odL_law rfl c96 ?_
                    obtain ⟨f99, k100, hq⟩ := bsm hq
                    obtain ⟨o97, e98, hq⟩ := bsm hq
                    by_cases hC101 : o97.1.length = 239
                    case neg => rw [if_pos hC101] at hq; cases hq
                    rw [if_neg (fun z => z hC101)] at hq
                    refine mB_V (h := hM C s) (as := [.int (xs (x3 + (1 : Int32)).toNatClampNeg), .int (xs (x3 + (2 : Int32)).toNatClampNeg), .int (xs (x3 + (3 : Int32)).toNatClampNeg)]) odL_law okX6_edge lk_12_42 rfl (eaX6_edge (R := mseg s) e98) (kO_at (kO_ap k100)) rfl rfl rfl ?_
                    show mB _ mL_law (417, [(0, .retAddr 0), (1, .ref 0), (2, .ref 239), (3, .int x3)], [.int o97.2], (hM o97.1 s), 2202, 110072)
                    refine mB_run odL_law 5 (g := (422, [(0, .retAddr 0), (1, .ref 0), (2, .ref 239), (3, .int x3)], [.int (x3 + (1 : Int32)), .retAddr 0, .ref 239, .int o97.2], (hM o97.1 s), 2202, 110072)) rfl ?_
                    by_cases c102 : (x3 + (1 : Int32)) < 0 ∨ L ≤ (x3 + (1 : Int32)).toNatClampNeg
                    · rw [if_pos c102] at hq; cases hq
                    rw [if_neg c102] at hq
                    refine mL_ld odL_law rfl c102 ?_
                    refine mB_run odL_law 4 (g := (427, [(0, .retAddr 0), (1, .ref 0), (2, .ref 239), (3, .int x3)], [.int (x3 + (2 : Int32)), .retAddr 0, .int (xs (x3 + (1 : Int32)).toNatClampNeg), .ref 239, .int o97.2], (hM o97.1 s), 2202, 110072)) rfl ?_
                    by_cases c103 : (x3 + (2 : Int32)) < 0 ∨ L ≤ (x3 + (2 : Int32)).toNatClampNeg
                    · rw [if_pos c103] at hq; cases hq
                    rw [if_neg c103] at hq
                    refine mL_ld odL_law rfl c103 ?_
                    refine mB_run odL_law 4 (g := (432, [(0, .retAddr 0), (1, .ref 0), (2, .ref 239), (3, .int x3)], [.int (x3 + (3 : Int32)), .retAddr 0, .int (xs (x3 + (2 : Int32)).toNatClampNeg), .int (xs (x3 + (1 : Int32)).toNatClampNeg), .ref 239, .int o97.2], (hM o97.1 s), 2202, 110072)) rfl ?_
                    by_cases c104 : (x3 + (3 : Int32)) < 0 ∨ L ≤ (x3 + (3 : Int32)).toNatClampNeg
                    · rw [if_pos c104] at hq; cases hq
                    rw [if_neg c104] at hq
                    refine mL_ld odL_law rfl c104 ?_
                    obtain ⟨o105, e106, hq⟩ := bsm hq
                    refine mB_V (h := hM o97.1 s) (as := [.int (xs (x3 + (1 : Int32)).toNatClampNeg), .int (xs (x3 + (2 : Int32)).toNatClampNeg), .int (xs (x3 + (3 : Int32)).toNatClampNeg)]) odL_law okX7_edge lk_12_45 rfl (emX7_edge hC101 e106) (kO_at (md_O hC101)) rfl rfl rfl ?_
                    show mB _ mL_law (436, [(0, .retAddr 0), (1, .ref 0), (2, .ref 239), (3, .int x3)], [.int o105.2, .int o97.2], (hM o97.1 o105.1), 2202, 110072)
                    by_cases c107 : o97.2 = o105.2
                    · rw [if_pos c107] at hq
                      refine ic_eq_T (t := 1064) odL_law rfl rfl c107 ?_
                      refine mB_lv [0, 1, 2, 3] (lv' := [(0, .retAddr 0), (1, .ref 0), (2, .ref 239), (3, .int x3)]) rfl ?_
                      exact lex_1064 ih _ _ _ hC101 hq
                    · rw [if_neg c107] at hq
                      refine ic_eq_F (t := 1064) odL_law rfl rfl c107 ?_
                      refine mB_run odL_law 1 (g := (440, [(0, .retAddr 0), (1, .ref 0), (2, .ref 239), (3, .int x3)], [.int (0 : Int32)], (hM o97.1 o105.1), 2202, 110072)) rfl ?_
                      cases hq
                  · rw [if_neg c93] at hq
                    by_cases c108 : ((xs x3.toNatClampNeg) &&& (31 : Int32)) = (7 : Int32)
                    · rw [if_pos c108] at hq
                      refine r_tab odL_law rfl c108 (t := 441) rfl ?_
                      refine mB_run odL_law 5 (g := (446, [(0, .retAddr 0), (1, .ref 0), (2, .ref 239), (3, .int x3)], [.int (x3 + (1 : Int32)), .retAddr 0, .ref 0], (hM C s), 2202, 110072)) rfl ?_
                      by_cases c109 : (x3 + (1 : Int32)) < 0 ∨ L ≤ (x3 + (1 : Int32)).toNatClampNeg
                      · rw [if_pos c109] at hq; cases hq
                      rw [if_neg c109] at hq
                      refine mL_ld odL_law rfl c109 ?_
                      refine mB_run odL_law 4 (g := (451, [(0, .retAddr 0), (1, .ref 0), (2, .ref 239), (3, .int x3)], [.int (x3 + (2 : Int32)), .retAddr 0, .int (xs (x3 + (1 : Int32)).toNatClampNeg), .ref 0], (hM C s), 2202, 110072)) rfl ?_
                      by_cases c110 : (x3 + (2 : Int32)) < 0 ∨ L ≤ (x3 + (2 : Int32)).toNatClampNeg
                      · rw [if_pos c110] at hq; cases hq
                      rw [if_neg c110] at hq
                      refine mL_ld odL_law rfl c110 ?_
                      refine mB_run odL_law 4 (g := (456, [(0, .retAddr 0), (1, .ref 0), (2, .ref 239), (3, .int x3)], [.int (x3 + (3 : Int32)), .retAddr 0, .int (xs (x3 + (2 : Int32)).toNatClampNeg), .int (xs (x3 + (1 : Int32)).toNatClampNeg), .ref 0], (hM C s), 2202, 110072)) rfl ?_
                      by_cases c111 : (x3 + (3 : Int32)) < 0 ∨ L ≤ (x3 + (3 : Int32)).toNatClampNeg
                      · rw [if_pos c111] at hq; cases hq
                      rw [if_neg c111] at hq
                      refine mL_ld odL_law rfl c111 ?_
                      obtain ⟨f114, k115, hq⟩ := bsm hq
                      obtain ⟨o112, e113, hq⟩ := bsm hq
                      by_cases hC116 : o112.1.length = 239
                      case neg => rw [if_pos hC116] at hq; cases hq
                      rw [if_neg (fun z => z hC116)] at hq
                      refine mB_V (h := hM C s) (as := [.int (xs (x3 + (1 : Int32)).toNatClampNeg), .int (xs (x3 + (2 : Int32)).toNatClampNeg), .int (xs (x3 + (3 : Int32)).toNatClampNeg)]) odL_law okX6_face lk_12_46 rfl (eaX6_face (R := mseg s) e113) (kO_at (kO_ap k115)) rfl rfl rfl ?_
                      show mB _ mL_law (460, [(0, .retAddr 0), (1, .ref 0), (2, .ref 239), (3, .int x3)], [.long o112.2], (hM o112.1 s), 2202, 110072)
                      refine mB_run odL_law 5 (g := (465, [(0, .retAddr 0), (1, .ref 0), (2, .ref 239), (3, .int x3)], [.int (x3 + (1 : Int32)), .retAddr 0, .ref 239, .long o112.2], (hM o112.1 s), 2202, 110072)) rfl ?_
                      by_cases c117 : (x3 + (1 : Int32)) < 0 ∨ L ≤ (x3 + (1 : Int32)).toNatClampNeg
                      · rw [if_pos c117] at hq; cases hq
                      rw [if_neg c117] at hq
                      refine mL_ld odL_law rfl c117 ?_
                      refine mB_run odL_law 4 (g := (470, [(0, .retAddr 0), (1, .ref 0), (2, .ref 239), (3, .int x3)], [.int (x3 + (2 : Int32)), .retAddr 0, .int (xs (x3 + (1 : Int32)).toNatClampNeg), .ref 239, .long o112.2], (hM o112.1 s), 2202, 110072)) rfl ?_
                      by_cases c118 : (x3 + (2 : Int32)) < 0 ∨ L ≤ (x3 + (2 : Int32)).toNatClampNeg
                      · rw [if_pos c118] at hq; cases hq
                      rw [if_neg c118] at hq
                      refine mL_ld odL_law rfl c118 ?_
                      refine mB_run odL_law 4 (g := (475, [(0, .retAddr 0), (1, .ref 0), (2, .ref 239), (3, .int x3)], [.int (x3 + (3 : Int32)), .retAddr 0, .int (xs (x3 + (2 : Int32)).toNatClampNeg), .int (xs (x3 + (1 : Int32)).toNatClampNeg), .ref 239, .long o112.2], (hM o112.1 s), 2202, 110072)) rfl ?_
                      by_cases c119 : (x3 + (3 : Int32)) < 0 ∨ L ≤ (x3 + (3 : Int32)).toNatClampNeg
                      · rw [if_pos c119] at hq; cases hq
                      rw [if_neg c119] at hq
                      refine mL_ld odL_law rfl c119 ?_
                      obtain ⟨o120, e121, hq⟩ := bsm hq
                      refine mB_V (h := hM o112.1 s) (as := [.int (xs (x3 + (1 : Int32)).toNatClampNeg), .int (xs (x3 + (2 : Int32)).toNatClampNeg), .int (xs (x3 + (3 : Int32)).toNatClampNeg)]) odL_law okX7_face lk_12_50 rfl (emX7_face hC116 e121) (kO_at (md_O hC116)) rfl rfl rfl ?_
                      show mB _ mL_law (479, [(0, .retAddr 0), (1, .ref 0), (2, .ref 239), (3, .int x3)], [.long o120.2, .long o112.2], (hM o112.1 o120.1), 2202, 110072)
                      by_cases c122 : o112.2 = o120.2
                      · rw [if_pos c122] at hq
                        refine lc_eq_T (t := 1064) odL_law rfl rfl rfl c122 ?_
                        refine mB_lv [0, 1, 2, 3] (lv' := [(0, .retAddr 0), (1, .ref 0), (2, .ref 239), (3, .int x3)]) rfl ?_
                        exact lex_1064 ih _ _ _ hC116 hq
                      · rw [if_neg c122] at hq
                        refine lc_eq_F (t := 1064) odL_law rfl rfl rfl c122 ?_
                        refine mB_run odL_law 1 (g := (484, [(0, .retAddr 0), (1, .ref 0), (2, .ref 239), (3, .int x3)], [.int (0 : Int32)], (hM o112.1 o120.1), 2202, 110072)) rfl ?_
                        cases hq
                    · rw [if_neg c108] at hq
                      by_cases c123 : ((xs x3.toNatClampNeg) &&& (31 : Int32)) = (8 : Int32)
                      · rw [if_pos c123] at hq
                        refine r_tab odL_law rfl c123 (t := 485) rfl ?_
                        refine mB_run odL_law 5 (g := (490, [(0, .retAddr 0), (1, .ref 0), (2, .ref 239), (3, .int x3)], [.int (x3 + (1 : Int32)), .retAddr 0, .ref 0], (hM C s), 2202, 110072)) rfl ?_
                        by_cases c124 : (x3 + (1 : Int32)) < 0 ∨ L ≤ (x3 + (1 : Int32)).toNatClampNeg
                        · rw [if_pos c124] at hq; cases hq
                        rw [if_neg c124] at hq
                        refine mL_ld odL_law rfl c124 ?_
                        refine mB_run odL_law 4 (g := (495, [(0, .retAddr 0), (1, .ref 0), (2, .ref 239), (3, .int x3)], [.int (x3 + (2 : Int32)), .retAddr 0, .int (xs (x3 + (1 : Int32)).toNatClampNeg), .ref 0], (hM C s), 2202, 110072)) rfl ?_
                        by_cases c125 : (x3 + (2 : Int32)) < 0 ∨ L ≤ (x3 + (2 : Int32)).toNatClampNeg
                        · rw [if_pos c125] at hq; cases hq
                        rw [if_neg c125] at hq
                        refine mL_ld odL_law rfl c125 ?_
                        refine mB_run odL_law 4 (g := (500, [(0, .retAddr 0), (1, .ref 0), (2, .ref 239), (3, .int x3)], [.int (x3 + (3 : Int32)), .retAddr 0, .int (xs (x3 + (2 : Int32)).toNatClampNeg), .int (xs (x3 + (1 : Int32)).toNatClampNeg), .ref 0], (hM C s), 2202, 110072)) rfl ?_
                        by_cases c126 : (x3 + (3 : Int32)) < 0 ∨ L ≤ (x3 + (3 : Int32)).toNatClampNeg
                        · rw [if_pos c126] at hq; cases hq
                        rw [if_neg c126] at hq
                        refine mL_ld odL_law rfl c126 ?_
                        refine mB_run odL_law 4 (g := (505, [(0, .retAddr 0), (1, .ref 0), (2, .ref 239), (3, .int x3)], [.int (x3 + (4 : Int32)), .retAddr 0, .int (xs (x3 + (3 : Int32)).toNatClampNeg), .int (xs (x3 + (2 : Int32)).toNatClampNeg), .int (xs (x3 + (1 : Int32)).toNatClampNeg), .ref 0], (hM C s), 2202, 110072)) rfl ?_
                        by_cases c127 : (x3 + (4 : Int32)) < 0 ∨ L ≤ (x3 + (4 : Int32)).toNatClampNeg
                        · rw [if_pos c127] at hq; cases hq
                        rw [if_neg c127] at hq
                        refine mL_ld odL_law rfl c127 ?_
                        refine mB_run odL_law 4 (g := (510, [(0, .retAddr 0), (1, .ref 0), (2, .ref 239), (3, .int x3)], [.int (x3 + (5 : Int32)), .retAddr 0, .int (xs (x3 + (4 : Int32)).toNatClampNeg), .int (xs (x3 + (3 : Int32)).toNatClampNeg), .int (xs (x3 + (2 : Int32)).toNatClampNeg), .int (xs (x3 + (1 : Int32)).toNatClampNeg), .ref 0], (hM C s), 2202, 110072)) rfl ?_
                        by_cases c128 : (x3 + (5 : Int32)) < 0 ∨ L ≤ (x3 + (5 : Int32)).toNatClampNeg
                        · rw [if_pos c128] at hq; cases hq
                        rw [if_neg c128] at hq
                        refine mL_ld odL_law rfl c128 ?_
                        obtain ⟨f131, k132, hq⟩ := bsm hq
                        obtain ⟨o129, e130, hq⟩ := bsm hq
                        by_cases hC133 : o129.1.length = 239
                        case neg => rw [if_pos hC133] at hq; cases hq
                        rw [if_neg (fun z => z hC133)] at hq
                        refine mB_V (h := hM C s) (as := [.int (xs (x3 + (1 : Int32)).toNatClampNeg), .int (xs (x3 + (2 : Int32)).toNatClampNeg), .int (xs (x3 + (3 : Int32)).toNatClampNeg), .int (xs (x3 + (4 : Int32)).toNatClampNeg), .int (xs (x3 + (5 : Int32)).toNatClampNeg)]) odL_law okX6_in lk_12_51 rfl (eaX6_in (R := mseg s) e130) (kO_at (kO_ap k132)) rfl rfl rfl ?_
                        show mB _ mL_law (514, [(0, .retAddr 0), (1, .ref 0), (2, .ref 239), (3, .int x3)], [.int o129.2], (hM o129.1 s), 2202, 110072)
                        refine mB_run odL_law 5 (g := (519, [(0, .retAddr 0), (1, .ref 0), (2, .ref 239), (3, .int x3)], [.int (x3 + (1 : Int32)), .retAddr 0, .ref 239, .int o129.2], (hM o129.1 s), 2202, 110072)) rfl ?_
                        by_cases c134 : (x3 + (1 : Int32)) < 0 ∨ L ≤ (x3 + (1 : Int32)).toNatClampNeg
                        · rw [if_pos c134] at hq; cases hq
                        rw [if_neg c134] at hq
                        refine mL_ld odL_law rfl c134 ?_
                        refine mB_run odL_law 4 (g := (524, [(0, .retAddr 0), (1, .ref 0), (2, .ref 239), (3, .int x3)], [.int (x3 + (2 : Int32)), .retAddr 0, .int (xs (x3 + (1 : Int32)).toNatClampNeg), .ref 239, .int o129.2], (hM o129.1 s), 2202, 110072)) rfl ?_
                        by_cases c135 : (x3 + (2 : Int32)) < 0 ∨ L ≤ (x3 + (2 : Int32)).toNatClampNeg
                        · rw [if_pos c135] at hq; cases hq
                        rw [if_neg c135] at hq
                        refine mL_ld odL_law rfl c135 ?_
                        refine mB_run odL_law 4 (g := (529, [(0, .retAddr 0), (1, .ref 0), (2, .ref 239), (3, .int x3)], [.int (x3 + (3 : Int32)), .retAddr 0, .int (xs (x3 + (2 : Int32)).toNatClampNeg), .int (xs (x3 + (1 : Int32)).toNatClampNeg), .ref 239, .int o129.2], (hM o129.1 s), 2202, 110072)) rfl ?_
                        by_cases c136 : (x3 + (3 : Int32)) < 0 ∨ L ≤ (x3 + (3 : Int32)).toNatClampNeg
                        · rw [if_pos c136] at hq; cases hq
                        rw [if_neg c136] at hq
                        refine mL_ld odL_law rfl c136 ?_
                        refine mB_run odL_law 4 (g := (534, [(0, .retAddr 0), (1, .ref 0), (2, .ref 239), (3, .int x3)], [.int (x3 + (4 : Int32)), .retAddr 0, .int (xs (x3 + (3 : Int32)).toNatClampNeg), .int (xs (x3 + (2 : Int32)).toNatClampNeg), .int (xs (x3 + (1 : Int32)).toNatClampNeg), .ref 239, .int o129.2], (hM o129.1 s), 2202, 110072)) rfl ?_
                        by_cases c137 : (x3 + (4 : Int32)) < 0 ∨ L ≤ (x3 + (4 : Int32)).toNatClampNeg
                        · rw [if_pos c137] at hq; cases hq
                        rw [if_neg c137] at hq
                        refine mL_ld odL_law rfl c137 ?_
                        refine mB_run odL_law 4 (g := (539, [(0, .retAddr 0), (1, .ref 0), (2, .ref 239), (3, .int x3)], [.int (x3 + (5 : Int32)), .retAddr 0, .int (xs (x3 + (4 : Int32)).toNatClampNeg), .int (xs (x3 + (3 : Int32)).toNatClampNeg), .int (xs (x3 + (2 : Int32)).toNatClampNeg), .int (xs (x3 + (1 : Int32)).toNatClampNeg), .ref 239, .int o129.2], (hM o129.1 s), 2202, 110072)) rfl ?_
                        by_cases c138 : (x3 + (5 : Int32)) < 0 ∨ L ≤ (x3 + (5 : Int32)).toNatClampNeg
                        · rw [if_pos c138] at hq; cases hq
                        rw [if_neg c138] at hq
                        refine mL_ld odL_law rfl c138 ?_
                        obtain ⟨o139, e140, hq⟩ := bsm hq
                        refine mB_V (h := hM o129.1 s) (as := [.int (xs (x3 + (1 : Int32)).toNatClampNeg), .int (xs (x3 + (2 : Int32)).toNatClampNeg), .int (xs (x3 + (3 : Int32)).toNatClampNeg), .int (xs (x3 + (4 : Int32)).toNatClampNeg), .int (xs (x3 + (5 : Int32)).toNatClampNeg)]) odL_law okX7_in lk_12_55 rfl (emX7_in hC133 e140) (kO_at (md_O hC133)) rfl rfl rfl ?_
                        show mB _ mL_law (543, [(0, .retAddr 0), (1, .ref 0), (2, .ref 239), (3, .int x3)], [.int o139.2, .int o129.2], (hM o129.1 o139.1), 2202, 110072)
                        by_cases c141 : o129.2 = o139.2
                        · rw [if_pos c141] at hq
                          refine ic_eq_T (t := 1064) odL_law rfl rfl c141 ?_
                          refine mB_lv [0, 1, 2, 3] (lv' := [(0, .retAddr 0), (1, .ref 0), (2, .ref 239), (3, .int x3)]) rfl ?_
                          exact lex_1064 ih _ _ _ hC133 hq
                        · rw [if_neg c141] at hq
                          refine ic_eq_F (t := 1064) odL_law rfl rfl c141 ?_
                          refine mB_run odL_law 1 (g := (547, [(0, .retAddr 0), (1, .ref 0), (2, .ref 239), (3, .int x3)], [.int (0 : Int32)], (hM o129.1 o139.1), 2202, 110072)) rfl ?_
                          cases hq
                      · rw [if_neg c123] at hq
                        by_cases c142 : ((xs x3.toNatClampNeg) &&& (31 : Int32)) = (9 : Int32)
                        · rw [if_pos c142] at hq
                          refine r_tab odL_law rfl c142 (t := 548) rfl ?_
                          refine mB_run odL_law 5 (g := (553, [(0, .retAddr 0), (1, .ref 0), (2, .ref 239), (3, .int x3)], [.int (x3 + (1 : Int32)), .retAddr 0, .ref 0], (hM C s), 2202, 110072)) rfl ?_
                          by_cases c143 : (x3 + (1 : Int32)) < 0 ∨ L ≤ (x3 + (1 : Int32)).toNatClampNeg
                          · rw [if_pos c143] at hq; cases hq
                          rw [if_neg c143] at hq
                          refine mL_ld odL_law rfl c143 ?_
                          refine mB_run odL_law 4 (g := (558, [(0, .retAddr 0), (1, .ref 0), (2, .ref 239), (3, .int x3)], [.int (x3 + (2 : Int32)), .retAddr 0, .int (xs (x3 + (1 : Int32)).toNatClampNeg), .ref 0], (hM C s), 2202, 110072)) rfl ?_
                          by_cases c144 : (x3 + (2 : Int32)) < 0 ∨ L ≤ (x3 + (2 : Int32)).toNatClampNeg
                          · rw [if_pos c144] at hq; cases hq
                          rw [if_neg c144] at hq
                          refine mL_ld odL_law rfl c144 ?_
                          refine mB_run odL_law 4 (g := (563, [(0, .retAddr 0), (1, .ref 0), (2, .ref 239), (3, .int x3)], [.int (x3 + (3 : Int32)), .retAddr 0, .int (xs (x3 + (2 : Int32)).toNatClampNeg), .int (xs (x3 + (1 : Int32)).toNatClampNeg), .ref 0], (hM C s), 2202, 110072)) rfl ?_
                          by_cases c145 : (x3 + (3 : Int32)) < 0 ∨ L ≤ (x3 + (3 : Int32)).toNatClampNeg
                          · rw [if_pos c145] at hq; cases hq
                          rw [if_neg c145] at hq
                          refine mL_ld odL_law rfl c145 ?_
                          refine mB_run odL_law 4 (g := (568, [(0, .retAddr 0), (1, .ref 0), (2, .ref 239), (3, .int x3)], [.int (x3 + (4 : Int32)), .retAddr 0, .int (xs (x3 + (3 : Int32)).toNatClampNeg), .int (xs (x3 + (2 : Int32)).toNatClampNeg), .int (xs (x3 + (1 : Int32)).toNatClampNeg), .ref 0], (hM C s), 2202, 110072)) rfl ?_
                          by_cases c146 : (x3 + (4 : Int32)) < 0 ∨ L ≤ (x3 + (4 : Int32)).toNatClampNeg
                          · rw [if_pos c146] at hq; cases hq
                          rw [if_neg c146] at hq
                          refine mL_ld odL_law rfl c146 ?_
                          refine mB_run odL_law 4 (g := (573, [(0, .retAddr 0), (1, .ref 0), (2, .ref 239), (3, .int x3)], [.int (x3 + (5 : Int32)), .retAddr 0, .int (xs (x3 + (4 : Int32)).toNatClampNeg), .int (xs (x3 + (3 : Int32)).toNatClampNeg), .int (xs (x3 + (2 : Int32)).toNatClampNeg), .int (xs (x3 + (1 : Int32)).toNatClampNeg), .ref 0], (hM C s), 2202, 110072)) rfl ?_
                          by_cases c147 : (x3 + (5 : Int32)) < 0 ∨ L ≤ (x3 + (5 : Int32)).toNatClampNeg
                          · rw [if_pos c147] at hq; cases hq
                          rw [if_neg c147] at hq
                          refine mL_ld odL_law rfl c147 ?_
                          obtain ⟨f150, k151, hq⟩ := bsm hq
                          obtain ⟨o148, e149, hq⟩ := bsm hq
                          by_cases hC152 : o148.1.length = 239
                          case neg => rw [if_pos hC152] at hq; cases hq
                          rw [if_neg (fun z => z hC152)] at hq
                          refine mB_V (h := hM C s) (as := [.int (xs (x3 + (1 : Int32)).toNatClampNeg), .int (xs (x3 + (2 : Int32)).toNatClampNeg), .int (xs (x3 + (3 : Int32)).toNatClampNeg), .int (xs (x3 + (4 : Int32)).toNatClampNeg), .int (xs (x3 + (5 : Int32)).toNatClampNeg)]) odL_law okX6_side lk_12_56 rfl (eaX6_side (R := mseg s) e149) (kO_at (kO_ap k151)) rfl rfl rfl ?_
                          show mB _ mL_law (577, [(0, .retAddr 0), (1, .ref 0), (2, .ref 239), (3, .int x3)], [.int o148.2], (hM o148.1 s), 2202, 110072)
                          refine mB_run odL_law 5 (g := (582, [(0, .retAddr 0), (1, .ref 0), (2, .ref 239), (3, .int x3)], [.int (x3 + (1 : Int32)), .retAddr 0, .ref 239, .int o148.2], (hM o148.1 s), 2202, 110072)) rfl ?_
                          by_cases c153 : (x3 + (1 : Int32)) < 0 ∨ L ≤ (x3 + (1 : Int32)).toNatClampNeg
                          · rw [if_pos c153] at hq; cases hq
                          rw [if_neg c153] at hq
                          refine mL_ld odL_law rfl c153 ?_
                          refine mB_run odL_law 4 (g := (587, [(0, .retAddr 0), (1, .ref 0), (2, .ref 239), (3, .int x3)], [.int (x3 + (2 : Int32)), .retAddr 0, .int (xs (x3 + (1 : Int32)).toNatClampNeg), .ref 239, .int o148.2], (hM o148.1 s), 2202, 110072)) rfl ?_
                          by_cases c154 : (x3 + (2 : Int32)) < 0 ∨ L ≤ (x3 + (2 : Int32)).toNatClampNeg
                          · rw [if_pos c154] at hq; cases hq
                          rw [if_neg c154] at hq
                          refine mL_ld odL_law rfl c154 ?_
                          refine mB_run odL_law 4 (g := (592, [(0, .retAddr 0), (1, .ref 0), (2, .ref 239), (3, .int x3)], [.int (x3 + (3 : Int32)), .retAddr 0, .int (xs (x3 + (2 : Int32)).toNatClampNeg), .int (xs (x3 + (1 : Int32)).toNatClampNeg), .ref 239, .int o148.2], (hM o148.1 s), 2202, 110072)) rfl ?_
                          by_cases c155 : (x3 + (3 : Int32)) < 0 ∨ L ≤ (x3 + (3 : Int32)).toNatClampNeg
                          · rw [if_pos c155] at hq; cases hq
                          rw [if_neg c155] at hq
                          refine mL_ld odL_law rfl c155 ?_
                          refine mB_run odL_law 4 (g := (597, [(0, .retAddr 0), (1, .ref 0), (2, .ref 239), (3, .int x3)], [.int (x3 + (4 : Int32)), .retAddr 0, .int (xs (x3 + (3 : Int32)).toNatClampNeg), .int (xs (x3 + (2 : Int32)).toNatClampNeg), .int (xs (x3 + (1 : Int32)).toNatClampNeg), .ref 239, .int o148.2], (hM o148.1 s), 2202, 110072)) rfl ?_
                          by_cases c156 : (x3 + (4 : Int32)) < 0 ∨ L ≤ (x3 + (4 : Int32)).toNatClampNeg
                          · rw [if_pos c156] at hq; cases hq
                          rw [if_neg c156] at hq
                          refine mL_ld odL_law rfl c156 ?_
                          refine mB_run odL_law 4 (g := (602, [(0, .retAddr 0), (1, .ref 0), (2, .ref 239), (3, .int x3)], [.int (x3 + (5 : Int32)), .retAddr 0, .int (xs (x3 + (4 : Int32)).toNatClampNeg), .int (xs (x3 + (3 : Int32)).toNatClampNeg), .int (xs (x3 + (2 : Int32)).toNatClampNeg), .int (xs (x3 + (1 : Int32)).toNatClampNeg), .ref 239, .int o148.2], (hM o148.1 s), 2202, 110072)) rfl ?_
                          by_cases c157 : (x3 + (5 : Int32)) < 0 ∨ L ≤ (x3 + (5 : Int32)).toNatClampNeg
                          · rw [if_pos c157] at hq; cases hq
                          rw [if_neg c157] at hq
                          refine mL_ld odL_law rfl c157 ?_
                          obtain ⟨o158, e159, hq⟩ := bsm hq
                          refine mB_V (h := hM o148.1 s) (as := [.int (xs (x3 + (1 : Int32)).toNatClampNeg), .int (xs (x3 + (2 : Int32)).toNatClampNeg), .int (xs (x3 + (3 : Int32)).toNatClampNeg), .int (xs (x3 + (4 : Int32)).toNatClampNeg), .int (xs (x3 + (5 : Int32)).toNatClampNeg)]) odL_law okX7_side lk_12_59 rfl (emX7_side hC152 e159) (kO_at (md_O hC152)) rfl rfl rfl ?_
                          show mB _ mL_law (606, [(0, .retAddr 0), (1, .ref 0), (2, .ref 239), (3, .int x3)], [.int o158.2, .int o148.2], (hM o148.1 o158.1), 2202, 110072)
                          by_cases c160 : o148.2 = o158.2
                          · rw [if_pos c160] at hq
                            refine ic_eq_T (t := 1064) odL_law rfl rfl c160 ?_
                            refine mB_lv [0, 1, 2, 3] (lv' := [(0, .retAddr 0), (1, .ref 0), (2, .ref 239), (3, .int x3)]) rfl ?_
                            exact lex_1064 ih _ _ _ hC152 hq
                          · rw [if_neg c160] at hq
                            refine ic_eq_F (t := 1064) odL_law rfl rfl c160 ?_
                            refine mB_run odL_law 1 (g := (610, [(0, .retAddr 0), (1, .ref 0), (2, .ref 239), (3, .int x3)], [.int (0 : Int32)], (hM o148.1 o158.1), 2202, 110072)) rfl ?_
                            cases hq
                        · rw [if_neg c142] at hq
                          by_cases c161 : ((xs x3.toNatClampNeg) &&& (31 : Int32)) = (10 : Int32)
                          · rw [if_pos c161] at hq
                            refine r_tab odL_law rfl c161 (t := 611) rfl ?_
                            refine mB_run odL_law 5 (g := (616, [(0, .retAddr 0), (1, .ref 0), (2, .ref 239), (3, .int x3)], [.int (x3 + (1 : Int32)), .retAddr 0, .ref 0], (hM C s), 2202, 110072)) rfl ?_
                            by_cases c162 : (x3 + (1 : Int32)) < 0 ∨ L ≤ (x3 + (1 : Int32)).toNatClampNeg
                            · rw [if_pos c162] at hq; cases hq
                            rw [if_neg c162] at hq
                            refine mL_ld odL_law rfl c162 ?_
                            obtain ⟨f165, k166, hq⟩ := bsm hq
                            obtain ⟨o163, e164, hq⟩ := bsm hq
                            by_cases hC167 : o163.1.length = 239
                            case neg => rw [if_pos hC167] at hq; cases hq
                            rw [if_neg (fun z => z hC167)] at hq
                            refine mB_V (h := hM C s) (as := [.int (xs (x3 + (1 : Int32)).toNatClampNeg)]) odL_law okX6_volume lk_12_60 rfl (eaX6_volume (R := mseg s) e164) (kO_at (kO_ap k166)) rfl rfl rfl ?_
                            show mB _ mL_law (620, [(0, .retAddr 0), (1, .ref 0), (2, .ref 239), (3, .int x3)], [.long o163.2], (hM o163.1 s), 2202, 110072)
                            refine mB_run odL_law 5 (g := (625, [(0, .retAddr 0), (1, .ref 0), (2, .ref 239), (3, .int x3)], [.int (x3 + (1 : Int32)), .retAddr 0, .ref 239, .long o163.2], (hM o163.1 s), 2202, 110072)) rfl ?_
                            by_cases c168 : (x3 + (1 : Int32)) < 0 ∨ L ≤ (x3 + (1 : Int32)).toNatClampNeg
                            · rw [if_pos c168] at hq; cases hq
                            rw [if_neg c168] at hq
                            refine mL_ld odL_law rfl c168 ?_
                            obtain ⟨o169, e170, hq⟩ := bsm hq
                            refine mB_V (h := hM o163.1 s) (as := [.int (xs (x3 + (1 : Int32)).toNatClampNeg)]) odL_law okX7_volume lk_12_64 rfl (emX7_volume hC167 e170) (kO_at (md_O hC167)) rfl rfl rfl ?_
                            show mB _ mL_law (629, [(0, .retAddr 0), (1, .ref 0), (2, .ref 239), (3, .int x3)], [.long o169.2, .long o163.2], (hM o163.1 o169.1), 2202, 110072)
                            by_cases c171 : o163.2 = o169.2
                            · rw [if_pos c171] at hq
                              refine lc_eq_T (t := 1064) odL_law rfl rfl rfl c171 ?_
                              refine mB_lv [0, 1, 2, 3] (lv' := [(0, .retAddr 0), (1, .ref 0), (2, .ref 239), (3, .int x3)]) rfl ?_
                              exact lex_1064 ih _ _ _ hC167 hq
                            · rw [if_neg c171] at hq
                              refine lc_eq_F (t := 1064) odL_law rfl rfl rfl c171 ?_
                              refine mB_run odL_law 1 (g := (634, [(0, .retAddr 0), (1, .ref 0), (2, .ref 239), (3, .int x3)], [.int (0 : Int32)], (hM o163.1 o169.1), 2202, 110072)) rfl ?_
                              cases hq
                          · rw [if_neg c161] at hq
                            by_cases c172 : ((xs x3.toNatClampNeg) &&& (31 : Int32)) = (11 : Int32)
                            · rw [if_pos c172] at hq
                              refine r_tab odL_law rfl c172 (t := 635) rfl ?_
                              refine mB_run odL_law 5 (g := (640, [(0, .retAddr 0), (1, .ref 0), (2, .ref 239), (3, .int x3)], [.int (x3 + (1 : Int32)), .retAddr 0, .ref 0], (hM C s), 2202, 110072)) rfl ?_
                              by_cases c173 : (x3 + (1 : Int32)) < 0 ∨ L ≤ (x3 + (1 : Int32)).toNatClampNeg
                              · rw [if_pos c173] at hq; cases hq
                              rw [if_neg c173] at hq
                              refine mL_ld odL_law rfl c173 ?_
                              refine mB_run odL_law 4 (g := (645, [(0, .retAddr 0), (1, .ref 0), (2, .ref 239), (3, .int x3)], [.int (x3 + (2 : Int32)), .retAddr 0, .int (xs (x3 + (1 : Int32)).toNatClampNeg), .ref 0], (hM C s), 2202, 110072)) rfl ?_
                              by_cases c174 : (x3 + (2 : Int32)) < 0 ∨ L ≤ (x3 + (2 : Int32)).toNatClampNeg
                              · rw [if_pos c174] at hq; cases hq
                              rw [if_neg c174] at hq
                              refine mL_ld odL_law rfl c174 ?_
                              refine mB_run odL_law 4 (g := (650, [(0, .retAddr 0), (1, .ref 0), (2, .ref 239), (3, .int x3)], [.int (x3 + (3 : Int32)), .retAddr 0, .int (xs (x3 + (2 : Int32)).toNatClampNeg), .int (xs (x3 + (1 : Int32)).toNatClampNeg), .ref 0], (hM C s), 2202, 110072)) rfl ?_
                              by_cases c175 : (x3 + (3 : Int32)) < 0 ∨ L ≤ (x3 + (3 : Int32)).toNatClampNeg
                              · rw [if_pos c175] at hq; cases hq
                              rw [if_neg c175] at hq
                              refine mL_ld odL_law rfl c175 ?_
                              obtain ⟨f178, k179, hq⟩ := bsm hq
                              obtain ⟨o176, e177, hq⟩ := bsm hq
                              by_cases hC180 : o176.1.length = 239
                              case neg => rw [if_pos hC180] at hq; cases hq
                              rw [if_neg (fun z => z hC180)] at hq
                              refine mB_V (h := hM C s) (as := [.int (xs (x3 + (1 : Int32)).toNatClampNeg), .int (xs (x3 + (2 : Int32)).toNatClampNeg), .int (xs (x3 + (3 : Int32)).toNatClampNeg)]) odL_law okX6_middle lk_12_65 rfl (eaX6_middle (R := mseg s) e177) (kO_at (kO_ap k179)) rfl rfl rfl ?_
                              show mB _ mL_law (654, [(0, .retAddr 0), (1, .ref 0), (2, .ref 239), (3, .int x3)], [.long o176.2], (hM o176.1 s), 2202, 110072)
                              refine mB_run odL_law 5 (g := (659, [(0, .retAddr 0), (1, .ref 0), (2, .ref 239), (3, .int x3)], [.int (x3 + (1 : Int32)), .retAddr 0, .ref 239, .long o176.2], (hM o176.1 s), 2202, 110072)) rfl ?_
                              by_cases c181 : (x3 + (1 : Int32)) < 0 ∨ L ≤ (x3 + (1 : Int32)).toNatClampNeg
                              · rw [if_pos c181] at hq; cases hq
                              rw [if_neg c181] at hq
                              refine mL_ld odL_law rfl c181 ?_
                              refine mB_run odL_law 4 (g := (664, [(0, .retAddr 0), (1, .ref 0), (2, .ref 239), (3, .int x3)], [.int (x3 + (2 : Int32)), .retAddr 0, .int (xs (x3 + (1 : Int32)).toNatClampNeg), .ref 239, .long o176.2], (hM o176.1 s), 2202, 110072)) rfl ?_
                              by_cases c182 : (x3 + (2 : Int32)) < 0 ∨ L ≤ (x3 + (2 : Int32)).toNatClampNeg
                              · rw [if_pos c182] at hq; cases hq
                              rw [if_neg c182] at hq
                              refine mL_ld odL_law rfl c182 ?_
                              refine mB_run odL_law 4 (g := (669, [(0, .retAddr 0), (1, .ref 0), (2, .ref 239), (3, .int x3)], [.int (x3 + (3 : Int32)), .retAddr 0, .int (xs (x3 + (2 : Int32)).toNatClampNeg), .int (xs (x3 + (1 : Int32)).toNatClampNeg), .ref 239, .long o176.2], (hM o176.1 s), 2202, 110072)) rfl ?_
                              by_cases c183 : (x3 + (3 : Int32)) < 0 ∨ L ≤ (x3 + (3 : Int32)).toNatClampNeg
                              · rw [if_pos c183] at hq; cases hq
                              rw [if_neg c183] at hq
                              refine mL_ld odL_law rfl c183 ?_
                              obtain ⟨o184, e185, hq⟩ := bsm hq
                              refine mB_V (h := hM o176.1 s) (as := [.int (xs (x3 + (1 : Int32)).toNatClampNeg), .int (xs (x3 + (2 : Int32)).toNatClampNeg), .int (xs (x3 + (3 : Int32)).toNatClampNeg)]) odL_law okX7_middle lk_12_68 rfl (emX7_middle hC180 e185) (kO_at (md_O hC180)) rfl rfl rfl ?_
                              show mB _ mL_law (673, [(0, .retAddr 0), (1, .ref 0), (2, .ref 239), (3, .int x3)], [.long o184.2, .long o176.2], (hM o176.1 o184.1), 2202, 110072)
                              by_cases c186 : o176.2 = o184.2
                              · rw [if_pos c186] at hq
                                refine lc_eq_T (t := 1064) odL_law rfl rfl rfl c186 ?_
                                refine mB_lv [0, 1, 2, 3] (lv' := [(0, .retAddr 0), (1, .ref 0), (2, .ref 239), (3, .int x3)]) rfl ?_
                                exact lex_1064 ih _ _ _ hC180 hq
                              · rw [if_neg c186] at hq
                                refine lc_eq_F (t := 1064) odL_law rfl rfl rfl c186 ?_
                                refine mB_run odL_law 1 (g := (678, [(0, .retAddr 0), (1, .ref 0), (2, .ref 239), (3, .int x3)], [.int (0 : Int32)], (hM o176.1 o184.1), 2202, 110072)) rfl ?_
                                cases hq
                            · rw [if_neg c172] at hq
                              by_cases c187 : ((xs x3.toNatClampNeg) &&& (31 : Int32)) = (12 : Int32)
                              · rw [if_pos c187] at hq
                                refine r_tab odL_law rfl c187 (t := 679) rfl ?_
                                refine mB_run odL_law 5 (g := (684, [(0, .retAddr 0), (1, .ref 0), (2, .ref 239), (3, .int x3)], [.int (x3 + (1 : Int32)), .retAddr 0, .ref 0], (hM C s), 2202, 110072)) rfl ?_
                                by_cases c188 : (x3 + (1 : Int32)) < 0 ∨ L ≤ (x3 + (1 : Int32)).toNatClampNeg
                                · rw [if_pos c188] at hq; cases hq
                                rw [if_neg c188] at hq
                                refine mL_ld odL_law rfl c188 ?_
                                refine mB_run odL_law 4 (g := (689, [(0, .retAddr 0), (1, .ref 0), (2, .ref 239), (3, .int x3)], [.int (x3 + (2 : Int32)), .retAddr 0, .int (xs (x3 + (1 : Int32)).toNatClampNeg), .ref 0], (hM C s), 2202, 110072)) rfl ?_
                                by_cases c189 : (x3 + (2 : Int32)) < 0 ∨ L ≤ (x3 + (2 : Int32)).toNatClampNeg
                                · rw [if_pos c189] at hq; cases hq
                                rw [if_neg c189] at hq
                                refine mL_ld odL_law rfl c189 ?_
                                obtain ⟨f192, k193, hq⟩ := bsm hq
                                obtain ⟨o190, e191, hq⟩ := bsm hq
                                by_cases hC194 : o190.1.length = 239
                                case neg => rw [if_pos hC194] at hq; cases hq
                                rw [if_neg (fun z => z hC194)] at hq
                                refine mB_V (h := hM C s) (as := [.int (xs (x3 + (1 : Int32)).toNatClampNeg), .int (xs (x3 + (2 : Int32)).toNatClampNeg)]) odL_law okX6_far lk_12_69 rfl (eaX6_far (R := mseg s) e191) (kO_at (kO_ap k193)) rfl rfl rfl ?_
                                show mB _ mL_law (693, [(0, .retAddr 0), (1, .ref 0), (2, .ref 239), (3, .int x3)], [.int o190.2], (hM o190.1 s), 2202, 110072)
                                refine mB_run odL_law 5 (g := (698, [(0, .retAddr 0), (1, .ref 0), (2, .ref 239), (3, .int x3)], [.int (x3 + (1 : Int32)), .retAddr 0, .ref 239, .int o190.2], (hM o190.1 s), 2202, 110072)) rfl ?_
                                by_cases c195 : (x3 + (1 : Int32)) < 0 ∨ L ≤ (x3 + (1 : Int32)).toNatClampNeg
                                · rw [if_pos c195] at hq; cases hq
                                rw [if_neg c195] at hq
                                refine mL_ld odL_law rfl c195 ?_
                                refine mB_run odL_law 4 (g := (703, [(0, .retAddr 0), (1, .ref 0), (2, .ref 239), (3, .int x3)], [.int (x3 + (2 : Int32)), .retAddr 0, .int (xs (x3 + (1 : Int32)).toNatClampNeg), .ref 239, .int o190.2], (hM o190.1 s), 2202, 110072)) rfl ?_
                                by_cases c196 : (x3 + (2 : Int32)) < 0 ∨ L ≤ (x3 + (2 : Int32)).toNatClampNeg
                                · rw [if_pos c196] at hq; cases hq
                                rw [if_neg c196] at hq
                                refine mL_ld odL_law rfl c196 ?_
                                obtain ⟨o197, e198, hq⟩ := bsm hq
                                refine mB_V (h := hM o190.1 s) (as := [.int (xs (x3 + (1 : Int32)).toNatClampNeg), .int (xs (x3 + (2 : Int32)).toNatClampNeg)]) odL_law okX7_far lk_12_72 rfl (emX7_far hC194 e198) (kO_at (md_O hC194)) rfl rfl rfl ?_
                                show mB _ mL_law (707, [(0, .retAddr 0), (1, .ref 0), (2, .ref 239), (3, .int x3)], [.int o197.2, .int o190.2], (hM o190.1 o197.1), 2202, 110072)
                                by_cases c199 : o190.2 = o197.2
                                · rw [if_pos c199] at hq
                                  refine ic_eq_T (t := 1064) odL_law rfl rfl c199 ?_
                                  refine mB_lv [0, 1, 2, 3] (lv' := [(0, .retAddr 0), (1, .ref 0), (2, .ref 239), (3, .int x3)]) rfl ?_
                                  exact lex_1064 ih _ _ _ hC194 hq
                                · rw [if_neg c199] at hq
                                  refine ic_eq_F (t := 1064) odL_law rfl rfl c199 ?_
                                  refine mB_run odL_law 1 (g := (711, [(0, .retAddr 0), (1, .ref 0), (2, .ref 239), (3, .int x3)], [.int (0 : Int32)], (hM o190.1 o197.1), 2202, 110072)) rfl ?_
                                  cases hq
                              · rw [if_neg c187] at hq
                                by_cases c200 : ((xs x3.toNatClampNeg) &&& (31 : Int32)) = (13 : Int32)
                                · rw [if_pos c200] at hq
                                  refine r_tab odL_law rfl c200 (t := 712) rfl ?_
                                  refine mB_run odL_law 5 (g := (717, [(0, .retAddr 0), (1, .ref 0), (2, .ref 239), (3, .int x3)], [.int (x3 + (1 : Int32)), .retAddr 0, .ref 0], (hM C s), 2202, 110072)) rfl ?_
                                  by_cases c201 : (x3 + (1 : Int32)) < 0 ∨ L ≤ (x3 + (1 : Int32)).toNatClampNeg
                                  · rw [if_pos c201] at hq; cases hq
                                  rw [if_neg c201] at hq
                                  refine mL_ld odL_law rfl c201 ?_
                                  refine mB_run odL_law 4 (g := (722, [(0, .retAddr 0), (1, .ref 0), (2, .ref 239), (3, .int x3)], [.int (x3 + (2 : Int32)), .retAddr 0, .int (xs (x3 + (1 : Int32)).toNatClampNeg), .ref 0], (hM C s), 2202, 110072)) rfl ?_
                                  by_cases c202 : (x3 + (2 : Int32)) < 0 ∨ L ≤ (x3 + (2 : Int32)).toNatClampNeg
                                  · rw [if_pos c202] at hq; cases hq
                                  rw [if_neg c202] at hq
                                  refine mL_ld odL_law rfl c202 ?_
                                  obtain ⟨f205, k206, hq⟩ := bsm hq
                                  obtain ⟨o203, e204, hq⟩ := bsm hq
                                  by_cases hC207 : o203.1.length = 239
                                  case neg => rw [if_pos hC207] at hq; cases hq
                                  rw [if_neg (fun z => z hC207)] at hq
                                  refine mB_V (h := hM C s) (as := [.int (xs (x3 + (1 : Int32)).toNatClampNeg), .int (xs (x3 + (2 : Int32)).toNatClampNeg)]) odL_law okX6_width lk_12_73 rfl (eaX6_width (R := mseg s) e204) (kO_at (kO_ap k206)) rfl rfl rfl ?_
                                  show mB _ mL_law (726, [(0, .retAddr 0), (1, .ref 0), (2, .ref 239), (3, .int x3)], [.long o203.2], (hM o203.1 s), 2202, 110072)
                                  refine mB_run odL_law 5 (g := (731, [(0, .retAddr 0), (1, .ref 0), (2, .ref 239), (3, .int x3)], [.int (x3 + (1 : Int32)), .retAddr 0, .ref 239, .long o203.2], (hM o203.1 s), 2202, 110072)) rfl ?_
                                  by_cases c208 : (x3 + (1 : Int32)) < 0 ∨ L ≤ (x3 + (1 : Int32)).toNatClampNeg
                                  · rw [if_pos c208] at hq; cases hq
                                  rw [if_neg c208] at hq
                                  refine mL_ld odL_law rfl c208 ?_
                                  refine mB_run odL_law 4 (g := (736, [(0, .retAddr 0), (1, .ref 0), (2, .ref 239), (3, .int x3)], [.int (x3 + (2 : Int32)), .retAddr 0, .int (xs (x3 + (1 : Int32)).toNatClampNeg), .ref 239, .long o203.2], (hM o203.1 s), 2202, 110072)) rfl ?_
                                  by_cases c209 : (x3 + (2 : Int32)) < 0 ∨ L ≤ (x3 + (2 : Int32)).toNatClampNeg
                                  · rw [if_pos c209] at hq; cases hq
                                  rw [if_neg c209] at hq
                                  refine mL_ld odL_law rfl c209 ?_
                                  obtain ⟨o210, e211, hq⟩ := bsm hq
                                  refine mB_V (h := hM o203.1 s) (as := [.int (xs (x3 + (1 : Int32)).toNatClampNeg), .int (xs (x3 + (2 : Int32)).toNatClampNeg)]) odL_law okX7_width lk_12_77 rfl (emX7_width hC207 e211) (kO_at (md_O hC207)) rfl rfl rfl ?_
                                  show mB _ mL_law (740, [(0, .retAddr 0), (1, .ref 0), (2, .ref 239), (3, .int x3)], [.long o210.2, .long o203.2], (hM o203.1 o210.1), 2202, 110072)
                                  by_cases c212 : o203.2 = o210.2
                                  · rw [if_pos c212] at hq
                                    refine lc_eq_T (t := 1064) odL_law rfl rfl rfl c212 ?_
                                    refine mB_lv [0, 1, 2, 3] (lv' := [(0, .retAddr 0), (1, .ref 0), (2, .ref 239), (3, .int x3)]) rfl ?_
                                    exact lex_1064 ih _ _ _ hC207 hq
                                  · rw [if_neg c212] at hq
                                    refine lc_eq_F (t := 1064) odL_law rfl rfl rfl c212 ?_
                                    refine mB_run odL_law 1 (g := (745, [(0, .retAddr 0), (1, .ref 0), (2, .ref 239), (3, .int x3)], [.int (0 : Int32)], (hM o203.1 o210.1), 2202, 110072)) rfl ?_
                                    cases hq
                                · rw [if_neg c200] at hq
                                  by_cases c213 : ((xs x3.toNatClampNeg) &&& (31 : Int32)) = (14 : Int32)
                                  · rw [if_pos c213] at hq
                                    refine r_tab odL_law rfl c213 (t := 746) rfl ?_
                                    refine mB_run odL_law 5 (g := (751, [(0, .retAddr 0), (1, .ref 0), (2, .ref 239), (3, .int x3)], [.int (x3 + (1 : Int32)), .retAddr 0, .ref 0], (hM C s), 2202, 110072)) rfl ?_
                                    by_cases c214 : (x3 + (1 : Int32)) < 0 ∨ L ≤ (x3 + (1 : Int32)).toNatClampNeg
                                    · rw [if_pos c214] at hq; cases hq
                                    rw [if_neg c214] at hq
                                    refine mL_ld odL_law rfl c214 ?_
                                    refine mB_run odL_law 4 (g := (756, [(0, .retAddr 0), (1, .ref 0), (2, .ref 239), (3, .int x3)], [.int (x3 + (2 : Int32)), .retAddr 0, .int (xs (x3 + (1 : Int32)).toNatClampNeg), .ref 0], (hM C s), 2202, 110072)) rfl ?_
                                    by_cases c215 : (x3 + (2 : Int32)) < 0 ∨ L ≤ (x3 + (2 : Int32)).toNatClampNeg
                                    · rw [if_pos c215] at hq; cases hq
                                    rw [if_neg c215] at hq
                                    refine mL_ld odL_law rfl c215 ?_
                                    refine mB_run odL_law 4 (g := (761, [(0, .retAddr 0), (1, .ref 0), (2, .ref 239), (3, .int x3)], [.int (x3 + (3 : Int32)), .retAddr 0, .int (xs (x3 + (2 : Int32)).toNatClampNeg), .int (xs (x3 + (1 : Int32)).toNatClampNeg), .ref 0], (hM C s), 2202, 110072)) rfl ?_
                                    by_cases c216 : (x3 + (3 : Int32)) < 0 ∨ L ≤ (x3 + (3 : Int32)).toNatClampNeg
                                    · rw [if_pos c216] at hq; cases hq
                                    rw [if_neg c216] at hq
                                    refine mL_ld odL_law rfl c216 ?_
                                    obtain ⟨f219, k220, hq⟩ := bsm hq
                                    obtain ⟨o217, e218, hq⟩ := bsm hq
                                    by_cases hC221 : o217.1.length = 239
                                    case neg => rw [if_pos hC221] at hq; cases hq
                                    rw [if_neg (fun z => z hC221)] at hq
                                    refine mB_V (h := hM C s) (as := [.int (xs (x3 + (1 : Int32)).toNatClampNeg), .int (xs (x3 + (2 : Int32)).toNatClampNeg), .int (xs (x3 + (3 : Int32)).toNatClampNeg)]) odL_law okX6_sum lk_12_78 rfl (eaX6_sum (R := mseg s) e218) (kO_at (kO_ap k220)) rfl rfl rfl ?_
                                    show mB _ mL_law (765, [(0, .retAddr 0), (1, .ref 0), (2, .ref 239), (3, .int x3)], [.int o217.2], (hM o217.1 s), 2202, 110072)
                                    refine mB_run odL_law 5 (g := (770, [(0, .retAddr 0), (1, .ref 0), (2, .ref 239), (3, .int x3)], [.int (x3 + (1 : Int32)), .retAddr 0, .ref 239, .int o217.2], (hM o217.1 s), 2202, 110072)) rfl ?_
                                    by_cases c222 : (x3 + (1 : Int32)) < 0 ∨ L ≤ (x3 + (1 : Int32)).toNatClampNeg
                                    · rw [if_pos c222] at hq; cases hq
                                    rw [if_neg c222] at hq
                                    refine mL_ld odL_law rfl c222 ?_
                                    refine mB_run odL_law 4 (g := (775, [(0, .retAddr 0), (1, .ref 0), (2, .ref 239), (3, .int x3)], [.int (x3 + (2 : Int32)), .retAddr 0, .int (xs (x3 + (1 : Int32)).toNatClampNeg), .ref 239, .int o217.2], (hM o217.1 s), 2202, 110072)) rfl ?_
                                    by_cases c223 : (x3 + (2 : Int32)) < 0 ∨ L ≤ (x3 + (2 : Int32)).toNatClampNeg
                                    · rw [if_pos c223] at hq; cases hq
                                    rw [if_neg c223] at hq
                                    refine mL_ld odL_law rfl c223 ?_
                                    refine mB_run odL_law 4 (g := (780, [(0, .retAddr 0), (1, .ref 0), (2, .ref 239), (3, .int x3)], [.int (x3 + (3 : Int32)), .retAddr 0, .int (xs (x3 + (2 : Int32)).toNatClampNeg), .int (xs (x3 + (1 : Int32)).toNatClampNeg), .ref 239, .int o217.2], (hM o217.1 s), 2202, 110072)) rfl ?_
                                    by_cases c224 : (x3 + (3 : Int32)) < 0 ∨ L ≤ (x3 + (3 : Int32)).toNatClampNeg
                                    · rw [if_pos c224] at hq; cases hq
                                    rw [if_neg c224] at hq
                                    refine mL_ld odL_law rfl c224 ?_
                                    obtain ⟨o225, e226, hq⟩ := bsm hq
                                    refine mB_V (h := hM o217.1 s) (as := [.int (xs (x3 + (1 : Int32)).toNatClampNeg), .int (xs (x3 + (2 : Int32)).toNatClampNeg), .int (xs (x3 + (3 : Int32)).toNatClampNeg)]) odL_law okX7_sum lk_12_81 rfl (emX7_sum hC221 e226) (kO_at (md_O hC221)) rfl rfl rfl ?_
                                    show mB _ mL_law (784, [(0, .retAddr 0), (1, .ref 0), (2, .ref 239), (3, .int x3)], [.int o225.2, .int o217.2], (hM o217.1 o225.1), 2202, 110072)
                                    by_cases c227 : o217.2 = o225.2
                                    · rw [if_pos c227] at hq
                                      refine ic_eq_T (t := 1064) odL_law rfl rfl c227 ?_
                                      refine mB_lv [0, 1, 2, 3] (lv' := [(0, .retAddr 0), (1, .ref 0), (2, .ref 239), (3, .int x3)]) rfl ?_
                                      exact lex_1064 ih _ _ _ hC221 hq
                                    · rw [if_neg c227] at hq
                                      refine ic_eq_F (t := 1064) odL_law rfl rfl c227 ?_
                                      refine mB_run odL_law 1 (g := (788, [(0, .retAddr 0), (1, .ref 0), (2, .ref 239), (3, .int x3)], [.int (0 : Int32)], (hM o217.1 o225.1), 2202, 110072)) rfl ?_
                                      cases hq
                                  · rw [if_neg c213] at hq
                                    by_cases c228 : ((xs x3.toNatClampNeg) &&& (31 : Int32)) = (15 : Int32)
                                    · rw [if_pos c228] at hq
                                      refine r_tab odL_law rfl c228 (t := 789) rfl ?_
                                      refine mB_run odL_law 5 (g := (794, [(0, .retAddr 0), (1, .ref 0), (2, .ref 239), (3, .int x3)], [.int (x3 + (1 : Int32)), .retAddr 0, .ref 0], (hM C s), 2202, 110072)) rfl ?_
                                      by_cases c229 : (x3 + (1 : Int32)) < 0 ∨ L ≤ (x3 + (1 : Int32)).toNatClampNeg
                                      · rw [if_pos c229] at hq; cases hq
                                      rw [if_neg c229] at hq
                                      refine mL_ld odL_law rfl c229 ?_
                                      refine mB_run odL_law 4 (g := (799, [(0, .retAddr 0), (1, .ref 0), (2, .ref 239), (3, .int x3)], [.int (x3 + (2 : Int32)), .retAddr 0, .int (xs (x3 + (1 : Int32)).toNatClampNeg), .ref 0], (hM C s), 2202, 110072)) rfl ?_
                                      by_cases c230 : (x3 + (2 : Int32)) < 0 ∨ L ≤ (x3 + (2 : Int32)).toNatClampNeg
                                      · rw [if_pos c230] at hq; cases hq
                                      rw [if_neg c230] at hq
                                      refine mL_ld odL_law rfl c230 ?_
                                      obtain ⟨f233, k234, hq⟩ := bsm hq
                                      obtain ⟨o231, e232, hq⟩ := bsm hq
                                      by_cases hC235 : o231.1.length = 239
                                      case neg => rw [if_pos hC235] at hq; cases hq
                                      rw [if_neg (fun z => z hC235)] at hq
                                      refine mB_V (h := hM C s) (as := [.int (xs (x3 + (1 : Int32)).toNatClampNeg), .int (xs (x3 + (2 : Int32)).toNatClampNeg)]) odL_law okX6_apart lk_12_82 rfl (eaX6_apart (R := mseg s) e232) (kO_at (kO_ap k234)) rfl rfl rfl ?_
                                      show mB _ mL_law (803, [(0, .retAddr 0), (1, .ref 0), (2, .ref 239), (3, .int x3)], [.int o231.2], (hM o231.1 s), 2202, 110072)
                                      refine mB_run odL_law 5 (g := (808, [(0, .retAddr 0), (1, .ref 0), (2, .ref 239), (3, .int x3)], [.int (x3 + (1 : Int32)), .retAddr 0, .ref 239, .int o231.2], (hM o231.1 s), 2202, 110072)) rfl ?_
                                      by_cases c236 : (x3 + (1 : Int32)) < 0 ∨ L ≤ (x3 + (1 : Int32)).toNatClampNeg
                                      · rw [if_pos c236] at hq; cases hq
                                      rw [if_neg c236] at hq
                                      refine mL_ld odL_law rfl c236 ?_
                                      refine mB_run odL_law 4 (g := (813, [(0, .retAddr 0), (1, .ref 0), (2, .ref 239), (3, .int x3)], [.int (x3 + (2 : Int32)), .retAddr 0, .int (xs (x3 + (1 : Int32)).toNatClampNeg), .ref 239, .int o231.2], (hM o231.1 s), 2202, 110072)) rfl ?_
                                      by_cases c237 : (x3 + (2 : Int32)) < 0 ∨ L ≤ (x3 + (2 : Int32)).toNatClampNeg
                                      · rw [if_pos c237] at hq; cases hq
                                      rw [if_neg c237] at hq
                                      refine mL_ld odL_law rfl c237 ?_
                                      obtain ⟨o238, e239, hq⟩ := bsm hq
                                      refine mB_V (h := hM o231.1 s) (as := [.int (xs (x3 + (1 : Int32)).toNatClampNeg), .int (xs (x3 + (2 : Int32)).toNatClampNeg)]) odL_law okX7_apart lk_12_85 rfl (emX7_apart hC235 e239) (kO_at (md_O hC235)) rfl rfl rfl ?_
                                      show mB _ mL_law (817, [(0, .retAddr 0), (1, .ref 0), (2, .ref 239), (3, .int x3)], [.int o238.2, .int o231.2], (hM o231.1 o238.1), 2202, 110072)
                                      by_cases c240 : o231.2 = o238.2
                                      · rw [if_pos c240] at hq
                                        refine ic_eq_T (t := 1064) odL_law rfl rfl c240 ?_
                                        refine mB_lv [0, 1, 2, 3] (lv' := [(0, .retAddr 0), (1, .ref 0), (2, .ref 239), (3, .int x3)]) rfl ?_
                                        exact lex_1064 ih _ _ _ hC235 hq
                                      · rw [if_neg c240] at hq
                                        refine ic_eq_F (t := 1064) odL_law rfl rfl c240 ?_
                                        refine mB_run odL_law 1 (g := (821, [(0, .retAddr 0), (1, .ref 0), (2, .ref 239), (3, .int x3)], [.int (0 : Int32)], (hM o231.1 o238.1), 2202, 110072)) rfl ?_
                                        cases hq
                                    · rw [if_neg c228] at hq
                                      by_cases c241 : ((xs x3.toNatClampNeg) &&& (31 : Int32)) = (16 : Int32)
                                      · rw [if_pos c241] at hq
                                        refine r_tab odL_law rfl c241 (t := 822) rfl ?_
                                        refine mB_run odL_law 5 (g := (827, [(0, .retAddr 0), (1, .ref 0), (2, .ref 239), (3, .int x3)], [.int (x3 + (1 : Int32)), .retAddr 0, .ref 0], (hM C s), 2202, 110072)) rfl ?_
                                        by_cases c242 : (x3 + (1 : Int32)) < 0 ∨ L ≤ (x3 + (1 : Int32)).toNatClampNeg
                                        · rw [if_pos c242] at hq; cases hq
                                        rw [if_neg c242] at hq
                                        refine mL_ld odL_law rfl c242 ?_
                                        refine mB_run odL_law 4 (g := (832, [(0, .retAddr 0), (1, .ref 0), (2, .ref 239), (3, .int x3)], [.int (x3 + (2 : Int32)), .retAddr 0, .int (xs (x3 + (1 : Int32)).toNatClampNeg), .ref 0], (hM C s), 2202, 110072)) rfl ?_
                                        by_cases c243 : (x3 + (2 : Int32)) < 0 ∨ L ≤ (x3 + (2 : Int32)).toNatClampNeg
                                        · rw [if_pos c243] at hq; cases hq
                                        rw [if_neg c243] at hq
                                        refine mL_ld odL_law rfl c243 ?_
                                        refine mB_run odL_law 4 (g := (837, [(0, .retAddr 0), (1, .ref 0), (2, .ref 239), (3, .int x3)], [.int (x3 + (3 : Int32)), .retAddr 0, .int (xs (x3 + (2 : Int32)).toNatClampNeg), .int (xs (x3 + (1 : Int32)).toNatClampNeg), .ref 0], (hM C s), 2202, 110072)) rfl ?_
                                        by_cases c244 : (x3 + (3 : Int32)) < 0 ∨ L ≤ (x3 + (3 : Int32)).toNatClampNeg
                                        · rw [if_pos c244] at hq; cases hq
                                        rw [if_neg c244] at hq
                                        refine mL_ld odL_law rfl c244 ?_
                                        obtain ⟨f247, k248, hq⟩ := bsm hq
                                        obtain ⟨o245, e246, hq⟩ := bsm hq
                                        by_cases hC249 : o245.1.length = 239
                                        case neg => rw [if_pos hC249] at hq; cases hq
                                        rw [if_neg (fun z => z hC249)] at hq
                                        refine mB_V (h := hM C s) (as := [.int (xs (x3 + (1 : Int32)).toNatClampNeg), .int (xs (x3 + (2 : Int32)).toNatClampNeg), .int (xs (x3 + (3 : Int32)).toNatClampNeg)]) odL_law okX6_near lk_12_86 rfl (eaX6_near (R := mseg s) e246) (kO_at (kO_ap k248)) rfl rfl rfl ?_
                                        show mB _ mL_law (841, [(0, .retAddr 0), (1, .ref 0), (2, .ref 239), (3, .int x3)], [.long o245.2], (hM o245.1 s), 2202, 110072)
                                        refine mB_run odL_law 5 (g := (846, [(0, .retAddr 0), (1, .ref 0), (2, .ref 239), (3, .int x3)], [.int (x3 + (1 : Int32)), .retAddr 0, .ref 239, .long o245.2], (hM o245.1 s), 2202, 110072)) rfl ?_
                                        by_cases c250 : (x3 + (1 : Int32)) < 0 ∨ L ≤ (x3 + (1 : Int32)).toNatClampNeg
                                        · rw [if_pos c250] at hq; cases hq
                                        rw [if_neg c250] at hq
                                        refine mL_ld odL_law rfl c250 ?_
                                        refine mB_run odL_law 4 (g := (851, [(0, .retAddr 0), (1, .ref 0), (2, .ref 239), (3, .int x3)], [.int (x3 + (2 : Int32)), .retAddr 0, .int (xs (x3 + (1 : Int32)).toNatClampNeg), .ref 239, .long o245.2], (hM o245.1 s), 2202, 110072)) rfl ?_
                                        by_cases c251 : (x3 + (2 : Int32)) < 0 ∨ L ≤ (x3 + (2 : Int32)).toNatClampNeg
                                        · rw [if_pos c251] at hq; cases hq
                                        rw [if_neg c251] at hq
                                        refine mL_ld odL_law rfl c251 ?_
                                        refine mB_run odL_law 4 (g := (856, [(0, .retAddr 0), (1, .ref 0), (2, .ref 239), (3, .int x3)], [.int (x3 + (3 : Int32)), .retAddr 0, .int (xs (x3 + (2 : Int32)).toNatClampNeg), .int (xs (x3 + (1 : Int32)).toNatClampNeg), .ref 239, .long o245.2], (hM o245.1 s), 2202, 110072)) rfl ?_
                                        by_cases c252 : (x3 + (3 : Int32)) < 0 ∨ L ≤ (x3 + (3 : Int32)).toNatClampNeg
                                        · rw [if_pos c252] at hq; cases hq
                                        rw [if_neg c252] at hq
                                        refine mL_ld odL_law rfl c252 ?_
                                        obtain ⟨o253, e254, hq⟩ := bsm hq
                                        refine mB_V (h := hM o245.1 s) (as := [.int (xs (x3 + (1 : Int32)).toNatClampNeg), .int (xs (x3 + (2 : Int32)).toNatClampNeg), .int (xs (x3 + (3 : Int32)).toNatClampNeg)]) odL_law okX7_near lk_12_89 rfl (emX7_near hC249 e254) (kO_at (md_O hC249)) rfl rfl rfl ?_
                                        show mB _ mL_law (860, [(0, .retAddr 0), (1, .ref 0), (2, .ref 239), (3, .int x3)], [.long o253.2, .long o245.2], (hM o245.1 o253.1), 2202, 110072)
                                        by_cases c255 : o245.2 = o253.2
                                        · rw [if_pos c255] at hq
                                          refine lc_eq_T (t := 1064) odL_law rfl rfl rfl c255 ?_
                                          refine mB_lv [0, 1, 2, 3] (lv' := [(0, .retAddr 0), (1, .ref 0), (2, .ref 239), (3, .int x3)]) rfl ?_
                                          exact lex_1064 ih _ _ _ hC249 hq
                                        · rw [if_neg c255] at hq
                                          refine lc_eq_F (t := 1064) odL_law rfl rfl rfl c255 ?_
                                          refine mB_run odL_law 1 (g := (865, [(0, .retAddr 0), (1, .ref 0), (2, .ref 239), (3, .int x3)], [.int (0 : Int32)], (hM o245.1 o253.1), 2202, 110072)) rfl ?_
                                          cases hq
                                      · rw [if_neg c241] at hq
                                        by_cases c256 : ((xs x3.toNatClampNeg) &&& (31 : Int32)) = (17 : Int32)
                                        · rw [if_pos c256] at hq
                                          refine r_tab odL_law rfl c256 (t := 866) rfl ?_
                                          refine mB_run odL_law 5 (g := (871, [(0, .retAddr 0), (1, .ref 0), (2, .ref 239), (3, .int x3)], [.int (x3 + (1 : Int32)), .retAddr 0, .ref 0], (hM C s), 2202, 110072)) rfl ?_
                                          by_cases c257 : (x3 + (1 : Int32)) < 0 ∨ L ≤ (x3 + (1 : Int32)).toNatClampNeg
                                          · rw [if_pos c257] at hq; cases hq
                                          rw [if_neg c257] at hq
                                          refine mL_ld odL_law rfl c257 ?_
                                          refine mB_run odL_law 4 (g := (876, [(0, .retAddr 0), (1, .ref 0), (2, .ref 239), (3, .int x3)], [.int (x3 + (2 : Int32)), .retAddr 0, .int (xs (x3 + (1 : Int32)).toNatClampNeg), .ref 0], (hM C s), 2202, 110072)) rfl ?_
                                          by_cases c258 : (x3 + (2 : Int32)) < 0 ∨ L ≤ (x3 + (2 : Int32)).toNatClampNeg
                                          · rw [if_pos c258] at hq; cases hq
                                          rw [if_neg c258] at hq
                                          refine mL_ld odL_law rfl c258 ?_
                                          obtain ⟨f261, k262, hq⟩ := bsm hq
                                          obtain ⟨o259, e260, hq⟩ := bsm hq
                                          by_cases hC263 : o259.1.length = 239
                                          case neg => rw [if_pos hC263] at hq; cases hq
                                          rw [if_neg (fun z => z hC263)] at hq
                                          refine mB_V (h := hM C s) (as := [.int (xs (x3 + (1 : Int32)).toNatClampNeg), .int (xs (x3 + (2 : Int32)).toNatClampNeg)]) odL_law okX6_same lk_12_90 rfl (eaX6_same (R := mseg s) e260) (kO_at (kO_ap k262)) rfl rfl rfl ?_
                                          show mB _ mL_law (880, [(0, .retAddr 0), (1, .ref 0), (2, .ref 239), (3, .int x3)], [.int o259.2], (hM o259.1 s), 2202, 110072)
                                          refine mB_run odL_law 5 (g := (885, [(0, .retAddr 0), (1, .ref 0), (2, .ref 239), (3, .int x3)], [.int (x3 + (1 : Int32)), .retAddr 0, .ref 239, .int o259.2], (hM o259.1 s), 2202, 110072)) rfl ?_
                                          by_cases c264 : (x3 + (1 : Int32)) < 0 ∨ L ≤ (x3 + (1 : Int32)).toNatClampNeg
                                          · rw [if_pos c264] at hq; cases hq
                                          rw [if_neg c264] at hq
                                          refine mL_ld odL_law rfl c264 ?_
                                          refine mB_run odL_law 4 (g := (890, [(0, .retAddr 0), (1, .ref 0), (2, .ref 239), (3, .int x3)], [.int (x3 + (2 : Int32)), .retAddr 0, .int (xs (x3 + (1 : Int32)).toNatClampNeg), .ref 239, .int o259.2], (hM o259.1 s), 2202, 110072)) rfl ?_
                                          by_cases c265 : (x3 + (2 : Int32)) < 0 ∨ L ≤ (x3 + (2 : Int32)).toNatClampNeg
                                          · rw [if_pos c265] at hq; cases hq
                                          rw [if_neg c265] at hq
                                          refine mL_ld odL_law rfl c265 ?_
                                          obtain ⟨o266, e267, hq⟩ := bsm hq
                                          refine mB_V (h := hM o259.1 s) (as := [.int (xs (x3 + (1 : Int32)).toNatClampNeg), .int (xs (x3 + (2 : Int32)).toNatClampNeg)]) odL_law okX7_same lk_12_93 rfl (emX7_same hC263 e267) (kO_at (md_O hC263)) rfl rfl rfl ?_
                                          show mB _ mL_law (894, [(0, .retAddr 0), (1, .ref 0), (2, .ref 239), (3, .int x3)], [.int o266.2, .int o259.2], (hM o259.1 o266.1), 2202, 110072)
                                          by_cases c268 : o259.2 = o266.2
                                          · rw [if_pos c268] at hq
                                            refine ic_eq_T (t := 1064) odL_law rfl rfl c268 ?_
                                            refine mB_lv [0, 1, 2, 3] (lv' := [(0, .retAddr 0), (1, .ref 0), (2, .ref 239), (3, .int x3)]) rfl ?_
                                            exact lex_1064 ih _ _ _ hC263 hq
                                          · rw [if_neg c268] at hq
                                            refine ic_eq_F (t := 1064) odL_law rfl rfl c268 ?_
                                            refine mB_run odL_law 1 (g := (898, [(0, .retAddr 0), (1, .ref 0), (2, .ref 239), (3, .int x3)], [.int (0 : Int32)], (hM o259.1 o266.1), 2202, 110072)) rfl ?_
                                            cases hq
                                        · rw [if_neg c256] at hq
                                          by_cases c269 : ((xs x3.toNatClampNeg) &&& (31 : Int32)) = (18 : Int32)
                                          · rw [if_pos c269] at hq
                                            refine r_tab odL_law rfl c269 (t := 899) rfl ?_
                                            refine mB_run odL_law 5 (g := (904, [(0, .retAddr 0), (1, .ref 0), (2, .ref 239), (3, .int x3)], [.int (x3 + (1 : Int32)), .retAddr 0, .ref 0], (hM C s), 2202, 110072)) rfl ?_
                                            by_cases c270 : (x3 + (1 : Int32)) < 0 ∨ L ≤ (x3 + (1 : Int32)).toNatClampNeg
                                            · rw [if_pos c270] at hq; cases hq
                                            rw [if_neg c270] at hq
                                            refine mL_ld odL_law rfl c270 ?_
                                            refine mB_run odL_law 4 (g := (909, [(0, .retAddr 0), (1, .ref 0), (2, .ref 239), (3, .int x3)], [.int (x3 + (2 : Int32)), .retAddr 0, .int (xs (x3 + (1 : Int32)).toNatClampNeg), .ref 0], (hM C s), 2202, 110072)) rfl ?_
                                            by_cases c271 : (x3 + (2 : Int32)) < 0 ∨ L ≤ (x3 + (2 : Int32)).toNatClampNeg
                                            · rw [if_pos c271] at hq; cases hq
                                            rw [if_neg c271] at hq
                                            refine mL_ld odL_law rfl c271 ?_
                                            refine mB_run odL_law 4 (g := (914, [(0, .retAddr 0), (1, .ref 0), (2, .ref 239), (3, .int x3)], [.int (x3 + (3 : Int32)), .retAddr 0, .int (xs (x3 + (2 : Int32)).toNatClampNeg), .int (xs (x3 + (1 : Int32)).toNatClampNeg), .ref 0], (hM C s), 2202, 110072)) rfl ?_
                                            by_cases c272 : (x3 + (3 : Int32)) < 0 ∨ L ≤ (x3 + (3 : Int32)).toNatClampNeg
                                            · rw [if_pos c272] at hq; cases hq
                                            rw [if_neg c272] at hq
                                            refine mL_ld odL_law rfl c272 ?_
                                            refine mB_run odL_law 4 (g := (919, [(0, .retAddr 0), (1, .ref 0), (2, .ref 239), (3, .int x3)], [.int (x3 + (4 : Int32)), .retAddr 0, .int (xs (x3 + (3 : Int32)).toNatClampNeg), .int (xs (x3 + (2 : Int32)).toNatClampNeg), .int (xs (x3 + (1 : Int32)).toNatClampNeg), .ref 0], (hM C s), 2202, 110072)) rfl ?_
                                            by_cases c273 : (x3 + (4 : Int32)) < 0 ∨ L ≤ (x3 + (4 : Int32)).toNatClampNeg
                                            · rw [if_pos c273] at hq; cases hq
                                            rw [if_neg c273] at hq
                                            refine mL_ld odL_law rfl c273 ?_
                                            obtain ⟨f276, k277, hq⟩ := bsm hq
                                            obtain ⟨o274, e275, hq⟩ := bsm hq
                                            by_cases hC278 : o274.1.length = 239
                                            case neg => rw [if_pos hC278] at hq; cases hq
                                            rw [if_neg (fun z => z hC278)] at hq
                                            refine mB_V (h := hM C s) (as := [.int (xs (x3 + (1 : Int32)).toNatClampNeg), .int (xs (x3 + (2 : Int32)).toNatClampNeg), .int (xs (x3 + (3 : Int32)).toNatClampNeg), .int (xs (x3 + (4 : Int32)).toNatClampNeg)]) odL_law okX6_move lk_12_94 rfl (eaX6_move (R := mseg s) e275) (kO_at (kO_ap k277)) rfl rfl rfl ?_
                                            show mB _ mL_law (923, [(0, .retAddr 0), (1, .ref 0), (2, .ref 239), (3, .int x3)], [.int o274.2], (hM o274.1 s), 2202, 110072)
                                            refine mB_run odL_law 5 (g := (928, [(0, .retAddr 0), (1, .ref 0), (2, .ref 239), (3, .int x3)], [.int (x3 + (1 : Int32)), .retAddr 0, .ref 239, .int o274.2], (hM o274.1 s), 2202, 110072)) rfl ?_
                                            by_cases c279 : (x3 + (1 : Int32)) < 0 ∨ L ≤ (x3 + (1 : Int32)).toNatClampNeg
                                            · rw [if_pos c279] at hq; cases hq
                                            rw [if_neg c279] at hq
                                            refine mL_ld odL_law rfl c279 ?_
                                            refine mB_run odL_law 4 (g := (933, [(0, .retAddr 0), (1, .ref 0), (2, .ref 239), (3, .int x3)], [.int (x3 + (2 : Int32)), .retAddr 0, .int (xs (x3 + (1 : Int32)).toNatClampNeg), .ref 239, .int o274.2], (hM o274.1 s), 2202, 110072)) rfl ?_
                                            by_cases c280 : (x3 + (2 : Int32)) < 0 ∨ L ≤ (x3 + (2 : Int32)).toNatClampNeg
                                            · rw [if_pos c280] at hq; cases hq
                                            rw [if_neg c280] at hq
                                            refine mL_ld odL_law rfl c280 ?_
                                            refine mB_run odL_law 4 (g := (938, [(0, .retAddr 0), (1, .ref 0), (2, .ref 239), (3, .int x3)], [.int (x3 + (3 : Int32)), .retAddr 0, .int (xs (x3 + (2 : Int32)).toNatClampNeg), .int (xs (x3 + (1 : Int32)).toNatClampNeg), .ref 239, .int o274.2], (hM o274.1 s), 2202, 110072)) rfl ?_
                                            by_cases c281 : (x3 + (3 : Int32)) < 0 ∨ L ≤ (x3 + (3 : Int32)).toNatClampNeg
                                            · rw [if_pos c281] at hq; cases hq
                                            rw [if_neg c281] at hq
                                            refine mL_ld odL_law rfl c281 ?_
                                            refine mB_run odL_law 4 (g := (943, [(0, .retAddr 0), (1, .ref 0), (2, .ref 239), (3, .int x3)], [.int (x3 + (4 : Int32)), .retAddr 0, .int (xs (x3 + (3 : Int32)).toNatClampNeg), .int (xs (x3 + (2 : Int32)).toNatClampNeg), .int (xs (x3 + (1 : Int32)).toNatClampNeg), .ref 239, .int o274.2], (hM o274.1 s), 2202, 110072)) rfl ?_
                                            by_cases c282 : (x3 + (4 : Int32)) < 0 ∨ L ≤ (x3 + (4 : Int32)).toNatClampNeg
                                            · rw [if_pos c282] at hq; cases hq
                                            rw [if_neg c282] at hq
                                            refine mL_ld odL_law rfl c282 ?_
                                            obtain ⟨o283, e284, hq⟩ := bsm hq
                                            refine mB_V (h := hM o274.1 s) (as := [.int (xs (x3 + (1 : Int32)).toNatClampNeg), .int (xs (x3 + (2 : Int32)).toNatClampNeg), .int (xs (x3 + (3 : Int32)).toNatClampNeg), .int (xs (x3 + (4 : Int32)).toNatClampNeg)]) odL_law okX7_move lk_12_98 rfl (emX7_move hC278 e284) (kO_at (md_O hC278)) rfl rfl rfl ?_
                                            show mB _ mL_law (947, [(0, .retAddr 0), (1, .ref 0), (2, .ref 239), (3, .int x3)], [.int o283.2, .int o274.2], (hM o274.1 o283.1), 2202, 110072)
                                            by_cases c285 : o274.2 = o283.2
                                            · rw [if_pos c285] at hq
                                              refine ic_eq_T (t := 1064) odL_law rfl rfl c285 ?_
                                              refine mB_lv [0, 1, 2, 3] (lv' := [(0, .retAddr 0), (1, .ref 0), (2, .ref 239), (3, .int x3)]) rfl ?_
                                              exact lex_1064 ih _ _ _ hC278 hq
                                            · rw [if_neg c285] at hq
                                              refine ic_eq_F (t := 1064) odL_law rfl rfl c285 ?_
                                              refine mB_run odL_law 1 (g := (951, [(0, .retAddr 0), (1, .ref 0), (2, .ref 239), (3, .int x3)], [.int (0 : Int32)], (hM o274.1 o283.1), 2202, 110072)) rfl ?_
                                              cases hq
                                          · rw [if_neg c269] at hq
                                            by_cases c286 : ((xs x3.toNatClampNeg) &&& (31 : Int32)) = (19 : Int32)
                                            · rw [if_pos c286] at hq
                                              refine r_tab odL_law rfl c286 (t := 952) rfl ?_
                                              refine mB_run odL_law 5 (g := (957, [(0, .retAddr 0), (1, .ref 0), (2, .ref 239), (3, .int x3)], [.int (x3 + (1 : Int32)), .retAddr 0, .ref 0], (hM C s), 2202, 110072)) rfl ?_
                                              by_cases c287 : (x3 + (1 : Int32)) < 0 ∨ L ≤ (x3 + (1 : Int32)).toNatClampNeg
                                              · rw [if_pos c287] at hq; cases hq
                                              rw [if_neg c287] at hq
                                              refine mL_ld odL_law rfl c287 ?_
                                              refine mB_run odL_law 4 (g := (962, [(0, .retAddr 0), (1, .ref 0), (2, .ref 239), (3, .int x3)], [.int (x3 + (2 : Int32)), .retAddr 0, .int (xs (x3 + (1 : Int32)).toNatClampNeg), .ref 0], (hM C s), 2202, 110072)) rfl ?_
                                              by_cases c288 : (x3 + (2 : Int32)) < 0 ∨ L ≤ (x3 + (2 : Int32)).toNatClampNeg
                                              · rw [if_pos c288] at hq; cases hq
                                              rw [if_neg c288] at hq
                                              refine mL_ld odL_law rfl c288 ?_
                                              obtain ⟨f291, k292, hq⟩ := bsm hq
                                              obtain ⟨o289, e290, hq⟩ := bsm hq
                                              by_cases hC293 : o289.1.length = 239
                                              case neg => rw [if_pos hC293] at hq; cases hq
                                              rw [if_neg (fun z => z hC293)] at hq
                                              refine mB_V (h := hM C s) (as := [.int (xs (x3 + (1 : Int32)).toNatClampNeg), .int (xs (x3 + (2 : Int32)).toNatClampNeg)]) odL_law okX6_mirror lk_12_99 rfl (eaX6_mirror (R := mseg s) e290) (kO_at (kO_ap k292)) rfl rfl rfl ?_
                                              show mB _ mL_law (966, [(0, .retAddr 0), (1, .ref 0), (2, .ref 239), (3, .int x3)], [.int o289.2], (hM o289.1 s), 2202, 110072)
                                              refine mB_run odL_law 5 (g := (971, [(0, .retAddr 0), (1, .ref 0), (2, .ref 239), (3, .int x3)], [.int (x3 + (1 : Int32)), .retAddr 0, .ref 239, .int o289.2], (hM o289.1 s), 2202, 110072)) rfl ?_
                                              by_cases c294 : (x3 + (1 : Int32)) < 0 ∨ L ≤ (x3 + (1 : Int32)).toNatClampNeg
                                              · rw [if_pos c294] at hq; cases hq
                                              rw [if_neg c294] at hq
                                              refine mL_ld odL_law rfl c294 ?_
                                              refine mB_run odL_law 4 (g := (976, [(0, .retAddr 0), (1, .ref 0), (2, .ref 239), (3, .int x3)], [.int (x3 + (2 : Int32)), .retAddr 0, .int (xs (x3 + (1 : Int32)).toNatClampNeg), .ref 239, .int o289.2], (hM o289.1 s), 2202, 110072)) rfl ?_
                                              by_cases c295 : (x3 + (2 : Int32)) < 0 ∨ L ≤ (x3 + (2 : Int32)).toNatClampNeg
                                              · rw [if_pos c295] at hq; cases hq
                                              rw [if_neg c295] at hq
                                              refine mL_ld odL_law rfl c295 ?_
                                              obtain ⟨o296, e297, hq⟩ := bsm hq
                                              refine mB_V (h := hM o289.1 s) (as := [.int (xs (x3 + (1 : Int32)).toNatClampNeg), .int (xs (x3 + (2 : Int32)).toNatClampNeg)]) odL_law okX7_mirror lk_12_102 rfl (emX7_mirror hC293 e297) (kO_at (md_O hC293)) rfl rfl rfl ?_
                                              show mB _ mL_law (980, [(0, .retAddr 0), (1, .ref 0), (2, .ref 239), (3, .int x3)], [.int o296.2, .int o289.2], (hM o289.1 o296.1), 2202, 110072)
                                              by_cases c298 : o289.2 = o296.2
                                              · rw [if_pos c298] at hq
                                                refine ic_eq_T (t := 1064) odL_law rfl rfl c298 ?_
                                                refine mB_lv [0, 1, 2, 3] (lv' := [(0, .retAddr 0), (1, .ref 0), (2, .ref 239), (3, .int x3)]) rfl ?_
                                                exact lex_1064 ih _ _ _ hC293 hq
                                              · rw [if_neg c298] at hq
                                                refine ic_eq_F (t := 1064) odL_law rfl rfl c298 ?_
                                                refine mB_run odL_law 1 (g := (984, [(0, .retAddr 0), (1, .ref 0), (2, .ref 239), (3, .int x3)], [.int (0 : Int32)], (hM o289.1 o296.1), 2202, 110072)) rfl ?_
                                                cases hq
                                            · rw [if_neg c286] at hq
                                              by_cases c299 : ((xs x3.toNatClampNeg) &&& (31 : Int32)) = (20 : Int32)
                                              · rw [if_pos c299] at hq
                                                refine r_tab odL_law rfl c299 (t := 985) rfl ?_
                                                refine mB_run odL_law 5 (g := (990, [(0, .retAddr 0), (1, .ref 0), (2, .ref 239), (3, .int x3)], [.int (x3 + (1 : Int32)), .retAddr 0, .ref 0], (hM C s), 2202, 110072)) rfl ?_
                                                by_cases c300 : (x3 + (1 : Int32)) < 0 ∨ L ≤ (x3 + (1 : Int32)).toNatClampNeg
                                                · rw [if_pos c300] at hq; cases hq
                                                rw [if_neg c300] at hq
                                                refine mL_ld odL_law rfl c300 ?_
                                                refine mB_run odL_law 4 (g := (995, [(0, .retAddr 0), (1, .ref 0), (2, .ref 239), (3, .int x3)], [.int (x3 + (2 : Int32)), .retAddr 0, .int (xs (x3 + (1 : Int32)).toNatClampNeg), .ref 0], (hM C s), 2202, 110072)) rfl ?_
                                                by_cases c301 : (x3 + (2 : Int32)) < 0 ∨ L ≤ (x3 + (2 : Int32)).toNatClampNeg
                                                · rw [if_pos c301] at hq; cases hq
                                                rw [if_neg c301] at hq
                                                refine mL_ld odL_law rfl c301 ?_
                                                obtain ⟨f304, k305, hq⟩ := bsm hq
                                                obtain ⟨o302, e303, hq⟩ := bsm hq
                                                by_cases hC306 : o302.1.length = 239
                                                case neg => rw [if_pos hC306] at hq; cases hq
                                                rw [if_neg (fun z => z hC306)] at hq
                                                refine mB_V (h := hM C s) (as := [.int (xs (x3 + (1 : Int32)).toNatClampNeg), .int (xs (x3 + (2 : Int32)).toNatClampNeg)]) odL_law okX6_turn lk_12_103 rfl (eaX6_turn (R := mseg s) e303) (kO_at (kO_ap k305)) rfl rfl rfl ?_
                                                show mB _ mL_law (999, [(0, .retAddr 0), (1, .ref 0), (2, .ref 239), (3, .int x3)], [.int o302.2], (hM o302.1 s), 2202, 110072)
                                                refine mB_run odL_law 5 (g := (1004, [(0, .retAddr 0), (1, .ref 0), (2, .ref 239), (3, .int x3)], [.int (x3 + (1 : Int32)), .retAddr 0, .ref 239, .int o302.2], (hM o302.1 s), 2202, 110072)) rfl ?_
                                                by_cases c307 : (x3 + (1 : Int32)) < 0 ∨ L ≤ (x3 + (1 : Int32)).toNatClampNeg
                                                · rw [if_pos c307] at hq; cases hq
                                                rw [if_neg c307] at hq
                                                refine mL_ld odL_law rfl c307 ?_
                                                refine mB_run odL_law 4 (g := (1009, [(0, .retAddr 0), (1, .ref 0), (2, .ref 239), (3, .int x3)], [.int (x3 + (2 : Int32)), .retAddr 0, .int (xs (x3 + (1 : Int32)).toNatClampNeg), .ref 239, .int o302.2], (hM o302.1 s), 2202, 110072)) rfl ?_
                                                by_cases c308 : (x3 + (2 : Int32)) < 0 ∨ L ≤ (x3 + (2 : Int32)).toNatClampNeg
                                                · rw [if_pos c308] at hq; cases hq
                                                rw [if_neg c308] at hq
                                                refine mL_ld odL_law rfl c308 ?_
                                                obtain ⟨o309, e310, hq⟩ := bsm hq
                                                refine mB_V (h := hM o302.1 s) (as := [.int (xs (x3 + (1 : Int32)).toNatClampNeg), .int (xs (x3 + (2 : Int32)).toNatClampNeg)]) odL_law okX7_turn lk_12_106 rfl (emX7_turn hC306 e310) (kO_at (md_O hC306)) rfl rfl rfl ?_
                                                show mB _ mL_law (1013, [(0, .retAddr 0), (1, .ref 0), (2, .ref 239), (3, .int x3)], [.int o309.2, .int o302.2], (hM o302.1 o309.1), 2202, 110072)
                                                by_cases c311 : o302.2 = o309.2
                                                · rw [if_pos c311] at hq
                                                  refine ic_eq_T (t := 1064) odL_law rfl rfl c311 ?_
                                                  refine mB_lv [0, 1, 2, 3] (lv' := [(0, .retAddr 0), (1, .ref 0), (2, .ref 239), (3, .int x3)]) rfl ?_
                                                  exact lex_1064 ih _ _ _ hC306 hq
                                                · rw [if_neg c311] at hq
                                                  refine ic_eq_F (t := 1064) odL_law rfl rfl c311 ?_
                                                  refine mB_run odL_law 1 (g := (1017, [(0, .retAddr 0), (1, .ref 0), (2, .ref 239), (3, .int x3)], [.int (0 : Int32)], (hM o302.1 o309.1), 2202, 110072)) rfl ?_
                                                  cases hq
                                              · rw [if_neg c299] at hq
                                                by_cases c312 : ((xs x3.toNatClampNeg) &&& (31 : Int32)) = (21 : Int32)
                                                · rw [if_pos c312] at hq
                                                  refine r_tab odL_law rfl c312 (t := 1018) rfl ?_
                                                  refine mB_run odL_law 5 (g := (1023, [(0, .retAddr 0), (1, .ref 0), (2, .ref 239), (3, .int x3)], [.int (x3 + (1 : Int32)), .retAddr 0, .ref 0], (hM C s), 2202, 110072)) rfl ?_
                                                  by_cases c313 : (x3 + (1 : Int32)) < 0 ∨ L ≤ (x3 + (1 : Int32)).toNatClampNeg
                                                  · rw [if_pos c313] at hq; cases hq
                                                  rw [if_neg c313] at hq
                                                  refine mL_ld odL_law rfl c313 ?_
                                                  refine mB_run odL_law 4 (g := (1028, [(0, .retAddr 0), (1, .ref 0), (2, .ref 239), (3, .int x3)], [.int (x3 + (2 : Int32)), .retAddr 0, .int (xs (x3 + (1 : Int32)).toNatClampNeg), .ref 0], (hM C s), 2202, 110072)) rfl ?_
                                                  by_cases c314 : (x3 + (2 : Int32)) < 0 ∨ L ≤ (x3 + (2 : Int32)).toNatClampNeg
                                                  · rw [if_pos c314] at hq; cases hq
                                                  rw [if_neg c314] at hq
                                                  refine mL_ld odL_law rfl c314 ?_
                                                  obtain ⟨f317, k318, hq⟩ := bsm hq
                                                  obtain ⟨o315, e316, hq⟩ := bsm hq
                                                  by_cases hC319 : o315.1.length = 239
                                                  case neg => rw [if_pos hC319] at hq; cases hq
                                                  rw [if_neg (fun z => z hC319)] at hq
                                                  refine mB_V (h := hM C s) (as := [.int (xs (x3 + (1 : Int32)).toNatClampNeg), .int (xs (x3 + (2 : Int32)).toNatClampNeg)]) odL_law okX6_copy lk_12_107 rfl (eaX6_copy (R := mseg s) e316) (kO_at (kO_ap k318)) rfl rfl rfl ?_
                                                  show mB _ mL_law (1032, [(0, .retAddr 0), (1, .ref 0), (2, .ref 239), (3, .int x3)], [.int o315.2], (hM o315.1 s), 2202, 110072)
                                                  refine mB_run odL_law 5 (g := (1037, [(0, .retAddr 0), (1, .ref 0), (2, .ref 239), (3, .int x3)], [.int (x3 + (1 : Int32)), .retAddr 0, .ref 239, .int o315.2], (hM o315.1 s), 2202, 110072)) rfl ?_
                                                  by_cases c320 : (x3 + (1 : Int32)) < 0 ∨ L ≤ (x3 + (1 : Int32)).toNatClampNeg
                                                  · rw [if_pos c320] at hq; cases hq
                                                  rw [if_neg c320] at hq
                                                  refine mL_ld odL_law rfl c320 ?_
                                                  refine mB_run odL_law 4 (g := (1042, [(0, .retAddr 0), (1, .ref 0), (2, .ref 239), (3, .int x3)], [.int (x3 + (2 : Int32)), .retAddr 0, .int (xs (x3 + (1 : Int32)).toNatClampNeg), .ref 239, .int o315.2], (hM o315.1 s), 2202, 110072)) rfl ?_
                                                  by_cases c321 : (x3 + (2 : Int32)) < 0 ∨ L ≤ (x3 + (2 : Int32)).toNatClampNeg
                                                  · rw [if_pos c321] at hq; cases hq
                                                  rw [if_neg c321] at hq
                                                  refine mL_ld odL_law rfl c321 ?_
                                                  obtain ⟨o322, e323, hq⟩ := bsm hq
                                                  refine mB_V (h := hM o315.1 s) (as := [.int (xs (x3 + (1 : Int32)).toNatClampNeg), .int (xs (x3 + (2 : Int32)).toNatClampNeg)]) odL_law okX7_copy lk_12_110 rfl (emX7_copy hC319 e323) (kO_at (md_O hC319)) rfl rfl rfl ?_
                                                  show mB _ mL_law (1046, [(0, .retAddr 0), (1, .ref 0), (2, .ref 239), (3, .int x3)], [.int o322.2, .int o315.2], (hM o315.1 o322.1), 2202, 110072)
                                                  by_cases c324 : o315.2 = o322.2
                                                  · rw [if_pos c324] at hq
                                                    refine ic_eq_T (t := 1064) odL_law rfl rfl c324 ?_
                                                    refine mB_lv [0, 1, 2, 3] (lv' := [(0, .retAddr 0), (1, .ref 0), (2, .ref 239), (3, .int x3)]) rfl ?_
                                                    exact lex_1064 ih _ _ _ hC319 hq
                                                  · rw [if_neg c324] at hq
                                                    refine ic_eq_F (t := 1064) odL_law rfl rfl c324 ?_
                                                    refine mB_run odL_law 1 (g := (1050, [(0, .retAddr 0), (1, .ref 0), (2, .ref 239), (3, .int x3)], [.int (0 : Int32)], (hM o315.1 o322.1), 2202, 110072)) rfl ?_
                                                    cases hq
                                                · rw [if_neg c312] at hq
                                                  by_cases c325 : ((xs x3.toNatClampNeg) &&& (31 : Int32)) = (22 : Int32)
                                                  · rw [if_pos c325] at hq
                                                    refine r_tab odL_law rfl c325 (t := 1051) rfl ?_
                                                    refine mB_run odL_law 1 (g := (1052, [(0, .retAddr 0), (1, .ref 0), (2, .ref 239), (3, .int x3)], [.ref 0], (hM C s), 2202, 110072)) rfl ?_
                                                    obtain ⟨f328, k329, hq⟩ := bsm hq
                                                    obtain ⟨o326, e327, hq⟩ := bsm hq
                                                    by_cases hC330 : o326.1.length = 239
                                                    case neg => rw [if_pos hC330] at hq; cases hq
                                                    rw [if_neg (fun z => z hC330)] at hq
                                                    refine mB_V (h := hM C s) (as := []) odL_law okX6_undo lk_12_111 rfl (eaX6_undo (R := mseg s) e327) (kO_at (kO_ap k329)) rfl rfl rfl ?_
                                                    show mB _ mL_law (1055, [(0, .retAddr 0), (1, .ref 0), (2, .ref 239), (3, .int x3)], [.int o326.2], (hM o326.1 s), 2202, 110072)
                                                    refine mB_run odL_law 1 (g := (1056, [(0, .retAddr 0), (1, .ref 0), (2, .ref 239), (3, .int x3)], [.ref 239, .int o326.2], (hM o326.1 s), 2202, 110072)) rfl ?_
                                                    obtain ⟨o331, e332, hq⟩ := bsm hq
                                                    refine mB_V (h := hM o326.1 s) (as := []) odL_law okX7_undo lk_12_115 rfl (emX7_undo hC330 e332) (kO_at (md_O hC330)) rfl rfl rfl ?_
                                                    show mB _ mL_law (1059, [(0, .retAddr 0), (1, .ref 0), (2, .ref 239), (3, .int x3)], [.int o331.2, .int o326.2], (hM o326.1 o331.1), 2202, 110072)
                                                    by_cases c333 : o326.2 = o331.2
                                                    · rw [if_pos c333] at hq
                                                      refine ic_eq_T (t := 1064) odL_law rfl rfl c333 ?_
                                                      refine mB_lv [0, 1, 2, 3] (lv' := [(0, .retAddr 0), (1, .ref 0), (2, .ref 239), (3, .int x3)]) rfl ?_
                                                      exact lex_1064 ih _ _ _ hC330 hq
                                                    · rw [if_neg c333] at hq
                                                      refine ic_eq_F (t := 1064) odL_law rfl rfl c333 ?_
                                                      refine mB_run odL_law 1 (g := (1063, [(0, .retAddr 0), (1, .ref 0), (2, .ref 239), (3, .int x3)], [.int (0 : Int32)], (hM o326.1 o331.1), 2202, 110072)) rfl ?_
                                                      cases hq
                                                  · rw [if_neg c325] at hq
                                                    refine r_tabd odL_law rfl (t := 1064) (by omega) (ts_out23 c3 c16 c35 c48 c65 c78 c93 c108 c123 c142 c161 c172 c187 c200 c213 c228 c241 c256 c269 c286 c299 c312 c325) ?_
                                                    refine mB_lv [0, 1, 2, 3] (lv' := [(0, .retAddr 0), (1, .ref 0), (2, .ref 239), (3, .int x3)]) rfl ?_
                                                    exact lex_1064 ih _ _ _ hC hq
def lx (L : Nat) (xs : Nat → Int32) (N : Nat) (C : mh) (s : mS) : Option Unit :=
  lx_18 L xs N N (0 : Int32) C s
set_option maxHeartbeats 8000000 in
set_option maxRecDepth 100000 in
theorem lex {L : Nat} {xs : Nat → Int32} {N : Nat} {C : mh} {s : mS} (hC : C.length = 239) {o : Unit} (hq : lx L xs N C s = some o) : mB (gL L xs) mL_law (16, [(2, .ref 239), (1, .ref 0), (0, .retAddr 0)], [], (hM C s), 2202, 110072) := by
  unfold lx at hq
  refine mB_run odL_law 2 (g := (18, [(3, .int (0 : Int32)), (2, .ref 239), (1, .ref 0), (0, .retAddr 0)], [], (hM C s), 2202, 110072)) rfl ?_
  refine mB_lv [3, 2, 1, 0] (lv' := [(0, .retAddr 0), (1, .ref 0), (2, .ref 239), (3, .int (0 : Int32))]) rfl ?_
  exact lex_18 N _ _ _ hC hq
