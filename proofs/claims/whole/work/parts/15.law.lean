theorem ts_out23 {x : Int32} (h0 : ¬ x = 0) (h1 : ¬ x = 1) (h2 : ¬ x = 2) (h3 : ¬ x = 3) (h4 : ¬ x = 4) (h5 : ¬ x = 5) (h6 : ¬ x = 6) (h7 : ¬ x = 7) (h8 : ¬ x = 8) (h9 : ¬ x = 9) (h10 : ¬ x = 10) (h11 : ¬ x = 11) (h12 : ¬ x = 12) (h13 : ¬ x = 13) (h14 : ¬ x = 14) (h15 : ¬ x = 15) (h16 : ¬ x = 16) (h17 : ¬ x = 17) (h18 : ¬ x = 18) (h19 : ¬ x = 19) (h20 : ¬ x = 20) (h21 : ¬ x = 21) (h22 : ¬ x = 22) : x.toInt < 0 ∨ 22 < x.toInt := by
  have a0 := ts_ne h0 (i := 0) (by decide)
  have a1 := ts_ne h1 (i := 1) (by decide)
  have a2 := ts_ne h2 (i := 2) (by decide)
  have a3 := ts_ne h3 (i := 3) (by decide)
  have a4 := ts_ne h4 (i := 4) (by decide)
  have a5 := ts_ne h5 (i := 5) (by decide)
  have a6 := ts_ne h6 (i := 6) (by decide)
  have a7 := ts_ne h7 (i := 7) (by decide)
  have a8 := ts_ne h8 (i := 8) (by decide)
  have a9 := ts_ne h9 (i := 9) (by decide)
  have a10 := ts_ne h10 (i := 10) (by decide)
  have a11 := ts_ne h11 (i := 11) (by decide)
  have a12 := ts_ne h12 (i := 12) (by decide)
  have a13 := ts_ne h13 (i := 13) (by decide)
  have a14 := ts_ne h14 (i := 14) (by decide)
  have a15 := ts_ne h15 (i := 15) (by decide)
  have a16 := ts_ne h16 (i := 16) (by decide)
  have a17 := ts_ne h17 (i := 17) (by decide)
  have a18 := ts_ne h18 (i := 18) (by decide)
  have a19 := ts_ne h19 (i := 19) (by decide)
  have a20 := ts_ne h20 (i := 20) (by decide)
  have a21 := ts_ne h21 (i := 21) (by decide)
  have a22 := ts_ne h22 (i := 22) (by decide)
  omega
def fxL_law_1064 (L : Nat) (xs : Nat → Int32) (N : Nat) (rec18 : Nat → Nat → Int32 → mh → Option Unit) (x1 : Nat) (x2 : Nat) (x3 : Int32) (h : mh) : Option Unit :=
  rec18 x1 x2 (x3 + (6 : Int32)) h
set_option maxHeartbeats 8000000 in
set_option maxRecDepth 100000 in
theorem exL_law_1064 {L : Nat} {xs : Nat → Int32} {N : Nat} {rec18 : Nat → Nat → Int32 → mh → Option Unit} (hrec18 : ∀ (x1 : Nat) (x2 : Nat) (x3 : Int32) (h : mh) {o : Unit}, rec18 x1 x2 x3 h = some o → mB (gL L xs) mL_law (18, [(0, .retAddr 0), (1, .ref x1), (2, .ref x2), (3, .int x3)], [], h, 2202, 110072)) (x1 : Nat) (x2 : Nat) (x3 : Int32) (h : mh) {o : Unit} (hq : fxL_law_1064 L xs N rec18 x1 x2 x3 h = some o) : mB (gL L xs) mL_law (1064, [(0, .retAddr 0), (1, .ref x1), (2, .ref x2), (3, .int x3)], [], h, 2202, 110072) := by
  unfold fxL_law_1064 at hq
  refine mB_run odL_law 2 (g := (18, [(3, .int (x3 + (6 : Int32))), (0, .retAddr 0), (1, .ref x1), (2, .ref x2)], [], h, 2202, 110072)) rfl ?_
  refine mB_lv [1, 2, 3, 0] (lv' := [(0, .retAddr 0), (1, .ref x1), (2, .ref x2), (3, .int (x3 + (6 : Int32)))]) rfl ?_
  exact hrec18 _ _ _ _ hq
def fxL_law_18 (L : Nat) (xs : Nat → Int32) (N : Nat) : Nat → Nat → Nat → Int32 → mh → Option Unit
  | 0, _, _, _, _ => none
  | n + 1, x1, x2, x3, h =>
    if ((Int32.ofNat L) - (6 : Int32)) < x3 then (
      some ()) else (
      if x3 < 0 ∨ L ≤ x3.toNatClampNeg then none else
      if ((xs x3.toNatClampNeg) &&& (31 : Int32)) = (0 : Int32) then (
        if (x3 + (1 : Int32)) < 0 ∨ L ≤ (x3 + (1 : Int32)).toNatClampNeg then none else
        if (x3 + (2 : Int32)) < 0 ∨ L ≤ (x3 + (2 : Int32)).toNatClampNeg then none else
        (kO h x1 6).bind fun f8 =>
        (fxX6_tray N x1 (xs (x3 + (1 : Int32)).toNatClampNeg) (xs (x3 + (2 : Int32)).toNatClampNeg) h).bind fun o6 =>
        if (x3 + (1 : Int32)) < 0 ∨ L ≤ (x3 + (1 : Int32)).toNatClampNeg then none else
        if (x3 + (2 : Int32)) < 0 ∨ L ≤ (x3 + (2 : Int32)).toNatClampNeg then none else
        (kO o6.1 x2 7).bind fun f14 =>
        (fxX7_tray N x2 (xs (x3 + (1 : Int32)).toNatClampNeg) (xs (x3 + (2 : Int32)).toNatClampNeg) o6.1).bind fun o12 =>
        if o6.2 = o12.2 then (
          fxL_law_1064 L xs N (fxL_law_18 L xs N n) x1 x2 x3 o12.1) else (
          none)) else (
        if ((xs x3.toNatClampNeg) &&& (31 : Int32)) = (1 : Int32) then (
          if (x3 + (1 : Int32)) < 0 ∨ L ≤ (x3 + (1 : Int32)).toNatClampNeg then none else
          if (x3 + (2 : Int32)) < 0 ∨ L ≤ (x3 + (2 : Int32)).toNatClampNeg then none else
          if (x3 + (3 : Int32)) < 0 ∨ L ≤ (x3 + (3 : Int32)).toNatClampNeg then none else
          if (x3 + (4 : Int32)) < 0 ∨ L ≤ (x3 + (4 : Int32)).toNatClampNeg then none else
          if (x3 + (5 : Int32)) < 0 ∨ L ≤ (x3 + (5 : Int32)).toNatClampNeg then none else
          (kO h x1 6).bind fun f25 =>
          (fxX6_point N x1 (xs (x3 + (1 : Int32)).toNatClampNeg) (xs (x3 + (2 : Int32)).toNatClampNeg) (xs (x3 + (3 : Int32)).toNatClampNeg) (xs (x3 + (4 : Int32)).toNatClampNeg) (xs (x3 + (5 : Int32)).toNatClampNeg) h).bind fun o23 =>
          if (x3 + (1 : Int32)) < 0 ∨ L ≤ (x3 + (1 : Int32)).toNatClampNeg then none else
          if (x3 + (2 : Int32)) < 0 ∨ L ≤ (x3 + (2 : Int32)).toNatClampNeg then none else
          if (x3 + (3 : Int32)) < 0 ∨ L ≤ (x3 + (3 : Int32)).toNatClampNeg then none else
          if (x3 + (4 : Int32)) < 0 ∨ L ≤ (x3 + (4 : Int32)).toNatClampNeg then none else
          if (x3 + (5 : Int32)) < 0 ∨ L ≤ (x3 + (5 : Int32)).toNatClampNeg then none else
          (kO o23.1 x2 7).bind fun f34 =>
          (fxX7_point N x2 (xs (x3 + (1 : Int32)).toNatClampNeg) (xs (x3 + (2 : Int32)).toNatClampNeg) (xs (x3 + (3 : Int32)).toNatClampNeg) (xs (x3 + (4 : Int32)).toNatClampNeg) (xs (x3 + (5 : Int32)).toNatClampNeg) o23.1).bind fun o32 =>
          if o23.2 = o32.2 then (
            fxL_law_1064 L xs N (fxL_law_18 L xs N n) x1 x2 x3 o32.1) else (
            none)) else (
          if ((xs x3.toNatClampNeg) &&& (31 : Int32)) = (2 : Int32) then (
            if (x3 + (1 : Int32)) < 0 ∨ L ≤ (x3 + (1 : Int32)).toNatClampNeg then none else
            if (x3 + (2 : Int32)) < 0 ∨ L ≤ (x3 + (2 : Int32)).toNatClampNeg then none else
            (kO h x1 6).bind fun f42 =>
            (fxX6_solid N x1 (xs (x3 + (1 : Int32)).toNatClampNeg) (xs (x3 + (2 : Int32)).toNatClampNeg) h).bind fun o40 =>
            if (x3 + (1 : Int32)) < 0 ∨ L ≤ (x3 + (1 : Int32)).toNatClampNeg then none else
            if (x3 + (2 : Int32)) < 0 ∨ L ≤ (x3 + (2 : Int32)).toNatClampNeg then none else
            (kO o40.1 x2 7).bind fun f48 =>
            (fxX7_solid N x2 (xs (x3 + (1 : Int32)).toNatClampNeg) (xs (x3 + (2 : Int32)).toNatClampNeg) o40.1).bind fun o46 =>
            if o40.2 = o46.2 then (
              fxL_law_1064 L xs N (fxL_law_18 L xs N n) x1 x2 x3 o46.1) else (
              none)) else (
            if ((xs x3.toNatClampNeg) &&& (31 : Int32)) = (3 : Int32) then (
              if (x3 + (1 : Int32)) < 0 ∨ L ≤ (x3 + (1 : Int32)).toNatClampNeg then none else
              if (x3 + (2 : Int32)) < 0 ∨ L ≤ (x3 + (2 : Int32)).toNatClampNeg then none else
              if (x3 + (3 : Int32)) < 0 ∨ L ≤ (x3 + (3 : Int32)).toNatClampNeg then none else
              if (x3 + (4 : Int32)) < 0 ∨ L ≤ (x3 + (4 : Int32)).toNatClampNeg then none else
              (kO h x1 6).bind fun f58 =>
              (fxX6_grow N x1 (xs (x3 + (1 : Int32)).toNatClampNeg) (xs (x3 + (2 : Int32)).toNatClampNeg) (xs (x3 + (3 : Int32)).toNatClampNeg) (xs (x3 + (4 : Int32)).toNatClampNeg) h).bind fun o56 =>
              if (x3 + (1 : Int32)) < 0 ∨ L ≤ (x3 + (1 : Int32)).toNatClampNeg then none else
              if (x3 + (2 : Int32)) < 0 ∨ L ≤ (x3 + (2 : Int32)).toNatClampNeg then none else
              if (x3 + (3 : Int32)) < 0 ∨ L ≤ (x3 + (3 : Int32)).toNatClampNeg then none else
              if (x3 + (4 : Int32)) < 0 ∨ L ≤ (x3 + (4 : Int32)).toNatClampNeg then none else
              (kO o56.1 x2 7).bind fun f66 =>
              (fxX7_grow N x2 (xs (x3 + (1 : Int32)).toNatClampNeg) (xs (x3 + (2 : Int32)).toNatClampNeg) (xs (x3 + (3 : Int32)).toNatClampNeg) (xs (x3 + (4 : Int32)).toNatClampNeg) o56.1).bind fun o64 =>
              if o56.2 = o64.2 then (
                fxL_law_1064 L xs N (fxL_law_18 L xs N n) x1 x2 x3 o64.1) else (
                none)) else (
              if ((xs x3.toNatClampNeg) &&& (31 : Int32)) = (4 : Int32) then (
                if (x3 + (1 : Int32)) < 0 ∨ L ≤ (x3 + (1 : Int32)).toNatClampNeg then none else
                if (x3 + (2 : Int32)) < 0 ∨ L ≤ (x3 + (2 : Int32)).toNatClampNeg then none else
                (kO h x1 6).bind fun f74 =>
                (fxX6_count N x1 (xs (x3 + (1 : Int32)).toNatClampNeg) (xs (x3 + (2 : Int32)).toNatClampNeg) h).bind fun o72 =>
                if (x3 + (1 : Int32)) < 0 ∨ L ≤ (x3 + (1 : Int32)).toNatClampNeg then none else
                if (x3 + (2 : Int32)) < 0 ∨ L ≤ (x3 + (2 : Int32)).toNatClampNeg then none else
                (kO o72.1 x2 7).bind fun f80 =>
                (fxX7_count N x2 (xs (x3 + (1 : Int32)).toNatClampNeg) (xs (x3 + (2 : Int32)).toNatClampNeg) o72.1).bind fun o78 =>
                if o72.2 = o78.2 then (
                  fxL_law_1064 L xs N (fxL_law_18 L xs N n) x1 x2 x3 o78.1) else (
                  none)) else (
                if ((xs x3.toNatClampNeg) &&& (31 : Int32)) = (5 : Int32) then (
                  if (x3 + (1 : Int32)) < 0 ∨ L ≤ (x3 + (1 : Int32)).toNatClampNeg then none else
                  if (x3 + (2 : Int32)) < 0 ∨ L ≤ (x3 + (2 : Int32)).toNatClampNeg then none else
                  if (x3 + (3 : Int32)) < 0 ∨ L ≤ (x3 + (3 : Int32)).toNatClampNeg then none else
                  (kO h x1 6).bind fun f89 =>
                  (fxX6_corner N x1 (xs (x3 + (1 : Int32)).toNatClampNeg) (xs (x3 + (2 : Int32)).toNatClampNeg) (xs (x3 + (3 : Int32)).toNatClampNeg) h).bind fun o87 =>
                  if (x3 + (1 : Int32)) < 0 ∨ L ≤ (x3 + (1 : Int32)).toNatClampNeg then none else
                  if (x3 + (2 : Int32)) < 0 ∨ L ≤ (x3 + (2 : Int32)).toNatClampNeg then none else
                  if (x3 + (3 : Int32)) < 0 ∨ L ≤ (x3 + (3 : Int32)).toNatClampNeg then none else
                  (kO o87.1 x2 7).bind fun f96 =>
                  (fxX7_corner N x2 (xs (x3 + (1 : Int32)).toNatClampNeg) (xs (x3 + (2 : Int32)).toNatClampNeg) (xs (x3 + (3 : Int32)).toNatClampNeg) o87.1).bind fun o94 =>
                  if o87.2 = o94.2 then (
                    fxL_law_1064 L xs N (fxL_law_18 L xs N n) x1 x2 x3 o94.1) else (
                    none)) else (
                  if ((xs x3.toNatClampNeg) &&& (31 : Int32)) = (6 : Int32) then (
                    if (x3 + (1 : Int32)) < 0 ∨ L ≤ (x3 + (1 : Int32)).toNatClampNeg then none else
                    if (x3 + (2 : Int32)) < 0 ∨ L ≤ (x3 + (2 : Int32)).toNatClampNeg then none else
                    if (x3 + (3 : Int32)) < 0 ∨ L ≤ (x3 + (3 : Int32)).toNatClampNeg then none else
                    (kO h x1 6).bind fun f105 =>
                    (fxX6_edge N x1 (xs (x3 + (1 : Int32)).toNatClampNeg) (xs (x3 + (2 : Int32)).toNatClampNeg) (xs (x3 + (3 : Int32)).toNatClampNeg) h).bind fun o103 =>
                    if (x3 + (1 : Int32)) < 0 ∨ L ≤ (x3 + (1 : Int32)).toNatClampNeg then none else
                    if (x3 + (2 : Int32)) < 0 ∨ L ≤ (x3 + (2 : Int32)).toNatClampNeg then none else
                    if (x3 + (3 : Int32)) < 0 ∨ L ≤ (x3 + (3 : Int32)).toNatClampNeg then none else
                    (kO o103.1 x2 7).bind fun f112 =>
                    (fxX7_edge N x2 (xs (x3 + (1 : Int32)).toNatClampNeg) (xs (x3 + (2 : Int32)).toNatClampNeg) (xs (x3 + (3 : Int32)).toNatClampNeg) o103.1).bind fun o110 =>
                    if o103.2 = o110.2 then (
                      fxL_law_1064 L xs N (fxL_law_18 L xs N n) x1 x2 x3 o110.1) else (
                      none)) else (
                    if ((xs x3.toNatClampNeg) &&& (31 : Int32)) = (7 : Int32) then (
                      if (x3 + (1 : Int32)) < 0 ∨ L ≤ (x3 + (1 : Int32)).toNatClampNeg then none else
                      if (x3 + (2 : Int32)) < 0 ∨ L ≤ (x3 + (2 : Int32)).toNatClampNeg then none else
                      if (x3 + (3 : Int32)) < 0 ∨ L ≤ (x3 + (3 : Int32)).toNatClampNeg then none else
                      (kO h x1 6).bind fun f121 =>
                      (fxX6_face N x1 (xs (x3 + (1 : Int32)).toNatClampNeg) (xs (x3 + (2 : Int32)).toNatClampNeg) (xs (x3 + (3 : Int32)).toNatClampNeg) h).bind fun o119 =>
                      if (x3 + (1 : Int32)) < 0 ∨ L ≤ (x3 + (1 : Int32)).toNatClampNeg then none else
                      if (x3 + (2 : Int32)) < 0 ∨ L ≤ (x3 + (2 : Int32)).toNatClampNeg then none else
                      if (x3 + (3 : Int32)) < 0 ∨ L ≤ (x3 + (3 : Int32)).toNatClampNeg then none else
                      (kO o119.1 x2 7).bind fun f128 =>
                      (fxX7_face N x2 (xs (x3 + (1 : Int32)).toNatClampNeg) (xs (x3 + (2 : Int32)).toNatClampNeg) (xs (x3 + (3 : Int32)).toNatClampNeg) o119.1).bind fun o126 =>
                      if o119.2 = o126.2 then (
                        fxL_law_1064 L xs N (fxL_law_18 L xs N n) x1 x2 x3 o126.1) else (
                        none)) else (
                      if ((xs x3.toNatClampNeg) &&& (31 : Int32)) = (8 : Int32) then (
                        if (x3 + (1 : Int32)) < 0 ∨ L ≤ (x3 + (1 : Int32)).toNatClampNeg then none else
                        if (x3 + (2 : Int32)) < 0 ∨ L ≤ (x3 + (2 : Int32)).toNatClampNeg then none else
                        if (x3 + (3 : Int32)) < 0 ∨ L ≤ (x3 + (3 : Int32)).toNatClampNeg then none else
                        if (x3 + (4 : Int32)) < 0 ∨ L ≤ (x3 + (4 : Int32)).toNatClampNeg then none else
                        if (x3 + (5 : Int32)) < 0 ∨ L ≤ (x3 + (5 : Int32)).toNatClampNeg then none else
                        (kO h x1 6).bind fun f139 =>
                        (fxX6_in N x1 (xs (x3 + (1 : Int32)).toNatClampNeg) (xs (x3 + (2 : Int32)).toNatClampNeg) (xs (x3 + (3 : Int32)).toNatClampNeg) (xs (x3 + (4 : Int32)).toNatClampNeg) (xs (x3 + (5 : Int32)).toNatClampNeg) h).bind fun o137 =>
                        if (x3 + (1 : Int32)) < 0 ∨ L ≤ (x3 + (1 : Int32)).toNatClampNeg then none else
                        if (x3 + (2 : Int32)) < 0 ∨ L ≤ (x3 + (2 : Int32)).toNatClampNeg then none else
                        if (x3 + (3 : Int32)) < 0 ∨ L ≤ (x3 + (3 : Int32)).toNatClampNeg then none else
                        if (x3 + (4 : Int32)) < 0 ∨ L ≤ (x3 + (4 : Int32)).toNatClampNeg then none else
                        if (x3 + (5 : Int32)) < 0 ∨ L ≤ (x3 + (5 : Int32)).toNatClampNeg then none else
                        (kO o137.1 x2 7).bind fun f148 =>
                        (fxX7_in N x2 (xs (x3 + (1 : Int32)).toNatClampNeg) (xs (x3 + (2 : Int32)).toNatClampNeg) (xs (x3 + (3 : Int32)).toNatClampNeg) (xs (x3 + (4 : Int32)).toNatClampNeg) (xs (x3 + (5 : Int32)).toNatClampNeg) o137.1).bind fun o146 =>
                        if o137.2 = o146.2 then (
                          fxL_law_1064 L xs N (fxL_law_18 L xs N n) x1 x2 x3 o146.1) else (
                          none)) else (
                        if ((xs x3.toNatClampNeg) &&& (31 : Int32)) = (9 : Int32) then (
                          if (x3 + (1 : Int32)) < 0 ∨ L ≤ (x3 + (1 : Int32)).toNatClampNeg then none else
                          if (x3 + (2 : Int32)) < 0 ∨ L ≤ (x3 + (2 : Int32)).toNatClampNeg then none else
                          if (x3 + (3 : Int32)) < 0 ∨ L ≤ (x3 + (3 : Int32)).toNatClampNeg then none else
                          if (x3 + (4 : Int32)) < 0 ∨ L ≤ (x3 + (4 : Int32)).toNatClampNeg then none else
                          if (x3 + (5 : Int32)) < 0 ∨ L ≤ (x3 + (5 : Int32)).toNatClampNeg then none else
                          (kO h x1 6).bind fun f159 =>
                          (fxX6_side N x1 (xs (x3 + (1 : Int32)).toNatClampNeg) (xs (x3 + (2 : Int32)).toNatClampNeg) (xs (x3 + (3 : Int32)).toNatClampNeg) (xs (x3 + (4 : Int32)).toNatClampNeg) (xs (x3 + (5 : Int32)).toNatClampNeg) h).bind fun o157 =>
                          if (x3 + (1 : Int32)) < 0 ∨ L ≤ (x3 + (1 : Int32)).toNatClampNeg then none else
                          if (x3 + (2 : Int32)) < 0 ∨ L ≤ (x3 + (2 : Int32)).toNatClampNeg then none else
                          if (x3 + (3 : Int32)) < 0 ∨ L ≤ (x3 + (3 : Int32)).toNatClampNeg then none else
                          if (x3 + (4 : Int32)) < 0 ∨ L ≤ (x3 + (4 : Int32)).toNatClampNeg then none else
                          if (x3 + (5 : Int32)) < 0 ∨ L ≤ (x3 + (5 : Int32)).toNatClampNeg then none else
                          (kO o157.1 x2 7).bind fun f168 =>
                          (fxX7_side N x2 (xs (x3 + (1 : Int32)).toNatClampNeg) (xs (x3 + (2 : Int32)).toNatClampNeg) (xs (x3 + (3 : Int32)).toNatClampNeg) (xs (x3 + (4 : Int32)).toNatClampNeg) (xs (x3 + (5 : Int32)).toNatClampNeg) o157.1).bind fun o166 =>
                          if o157.2 = o166.2 then (
                            fxL_law_1064 L xs N (fxL_law_18 L xs N n) x1 x2 x3 o166.1) else (
                            none)) else (
                          if ((xs x3.toNatClampNeg) &&& (31 : Int32)) = (10 : Int32) then (
                            if (x3 + (1 : Int32)) < 0 ∨ L ≤ (x3 + (1 : Int32)).toNatClampNeg then none else
                            (kO h x1 6).bind fun f175 =>
                            (fxX6_volume N x1 (xs (x3 + (1 : Int32)).toNatClampNeg) h).bind fun o173 =>
                            if (x3 + (1 : Int32)) < 0 ∨ L ≤ (x3 + (1 : Int32)).toNatClampNeg then none else
                            (kO o173.1 x2 7).bind fun f180 =>
                            (fxX7_volume N x2 (xs (x3 + (1 : Int32)).toNatClampNeg) o173.1).bind fun o178 =>
                            if o173.2 = o178.2 then (
                              fxL_law_1064 L xs N (fxL_law_18 L xs N n) x1 x2 x3 o178.1) else (
                              none)) else (
                            if ((xs x3.toNatClampNeg) &&& (31 : Int32)) = (11 : Int32) then (
                              if (x3 + (1 : Int32)) < 0 ∨ L ≤ (x3 + (1 : Int32)).toNatClampNeg then none else
                              if (x3 + (2 : Int32)) < 0 ∨ L ≤ (x3 + (2 : Int32)).toNatClampNeg then none else
                              if (x3 + (3 : Int32)) < 0 ∨ L ≤ (x3 + (3 : Int32)).toNatClampNeg then none else
                              (kO h x1 6).bind fun f189 =>
                              (fxX6_middle N x1 (xs (x3 + (1 : Int32)).toNatClampNeg) (xs (x3 + (2 : Int32)).toNatClampNeg) (xs (x3 + (3 : Int32)).toNatClampNeg) h).bind fun o187 =>
                              if (x3 + (1 : Int32)) < 0 ∨ L ≤ (x3 + (1 : Int32)).toNatClampNeg then none else
                              if (x3 + (2 : Int32)) < 0 ∨ L ≤ (x3 + (2 : Int32)).toNatClampNeg then none else
                              if (x3 + (3 : Int32)) < 0 ∨ L ≤ (x3 + (3 : Int32)).toNatClampNeg then none else
                              (kO o187.1 x2 7).bind fun f196 =>
                              (fxX7_middle N x2 (xs (x3 + (1 : Int32)).toNatClampNeg) (xs (x3 + (2 : Int32)).toNatClampNeg) (xs (x3 + (3 : Int32)).toNatClampNeg) o187.1).bind fun o194 =>
                              if o187.2 = o194.2 then (
                                fxL_law_1064 L xs N (fxL_law_18 L xs N n) x1 x2 x3 o194.1) else (
                                none)) else (
                              if ((xs x3.toNatClampNeg) &&& (31 : Int32)) = (12 : Int32) then (
                                if (x3 + (1 : Int32)) < 0 ∨ L ≤ (x3 + (1 : Int32)).toNatClampNeg then none else
                                if (x3 + (2 : Int32)) < 0 ∨ L ≤ (x3 + (2 : Int32)).toNatClampNeg then none else
                                (kO h x1 6).bind fun f204 =>
                                (fxX6_far N x1 (xs (x3 + (1 : Int32)).toNatClampNeg) (xs (x3 + (2 : Int32)).toNatClampNeg) h).bind fun o202 =>
                                if (x3 + (1 : Int32)) < 0 ∨ L ≤ (x3 + (1 : Int32)).toNatClampNeg then none else
                                if (x3 + (2 : Int32)) < 0 ∨ L ≤ (x3 + (2 : Int32)).toNatClampNeg then none else
                                (kO o202.1 x2 7).bind fun f210 =>
                                (fxX7_far N x2 (xs (x3 + (1 : Int32)).toNatClampNeg) (xs (x3 + (2 : Int32)).toNatClampNeg) o202.1).bind fun o208 =>
                                if o202.2 = o208.2 then (
                                  fxL_law_1064 L xs N (fxL_law_18 L xs N n) x1 x2 x3 o208.1) else (
                                  none)) else (
                                if ((xs x3.toNatClampNeg) &&& (31 : Int32)) = (13 : Int32) then (
                                  if (x3 + (1 : Int32)) < 0 ∨ L ≤ (x3 + (1 : Int32)).toNatClampNeg then none else
                                  if (x3 + (2 : Int32)) < 0 ∨ L ≤ (x3 + (2 : Int32)).toNatClampNeg then none else
                                  (kO h x1 6).bind fun f218 =>
                                  (fxX6_width N x1 (xs (x3 + (1 : Int32)).toNatClampNeg) (xs (x3 + (2 : Int32)).toNatClampNeg) h).bind fun o216 =>
                                  if (x3 + (1 : Int32)) < 0 ∨ L ≤ (x3 + (1 : Int32)).toNatClampNeg then none else
                                  if (x3 + (2 : Int32)) < 0 ∨ L ≤ (x3 + (2 : Int32)).toNatClampNeg then none else
                                  (kO o216.1 x2 7).bind fun f224 =>
                                  (fxX7_width N x2 (xs (x3 + (1 : Int32)).toNatClampNeg) (xs (x3 + (2 : Int32)).toNatClampNeg) o216.1).bind fun o222 =>
                                  if o216.2 = o222.2 then (
                                    fxL_law_1064 L xs N (fxL_law_18 L xs N n) x1 x2 x3 o222.1) else (
                                    none)) else (
                                  if ((xs x3.toNatClampNeg) &&& (31 : Int32)) = (14 : Int32) then (
                                    if (x3 + (1 : Int32)) < 0 ∨ L ≤ (x3 + (1 : Int32)).toNatClampNeg then none else
                                    if (x3 + (2 : Int32)) < 0 ∨ L ≤ (x3 + (2 : Int32)).toNatClampNeg then none else
                                    if (x3 + (3 : Int32)) < 0 ∨ L ≤ (x3 + (3 : Int32)).toNatClampNeg then none else
                                    (kO h x1 6).bind fun f233 =>
                                    (fxX6_sum N x1 (xs (x3 + (1 : Int32)).toNatClampNeg) (xs (x3 + (2 : Int32)).toNatClampNeg) (xs (x3 + (3 : Int32)).toNatClampNeg) h).bind fun o231 =>
                                    if (x3 + (1 : Int32)) < 0 ∨ L ≤ (x3 + (1 : Int32)).toNatClampNeg then none else
                                    if (x3 + (2 : Int32)) < 0 ∨ L ≤ (x3 + (2 : Int32)).toNatClampNeg then none else
                                    if (x3 + (3 : Int32)) < 0 ∨ L ≤ (x3 + (3 : Int32)).toNatClampNeg then none else
                                    (kO o231.1 x2 7).bind fun f240 =>
                                    (fxX7_sum N x2 (xs (x3 + (1 : Int32)).toNatClampNeg) (xs (x3 + (2 : Int32)).toNatClampNeg) (xs (x3 + (3 : Int32)).toNatClampNeg) o231.1).bind fun o238 =>
                                    if o231.2 = o238.2 then (
                                      fxL_law_1064 L xs N (fxL_law_18 L xs N n) x1 x2 x3 o238.1) else (
                                      none)) else (
                                    if ((xs x3.toNatClampNeg) &&& (31 : Int32)) = (15 : Int32) then (
                                      if (x3 + (1 : Int32)) < 0 ∨ L ≤ (x3 + (1 : Int32)).toNatClampNeg then none else
                                      if (x3 + (2 : Int32)) < 0 ∨ L ≤ (x3 + (2 : Int32)).toNatClampNeg then none else
                                      (kO h x1 6).bind fun f248 =>
                                      (fxX6_apart N x1 (xs (x3 + (1 : Int32)).toNatClampNeg) (xs (x3 + (2 : Int32)).toNatClampNeg) h).bind fun o246 =>
                                      if (x3 + (1 : Int32)) < 0 ∨ L ≤ (x3 + (1 : Int32)).toNatClampNeg then none else
                                      if (x3 + (2 : Int32)) < 0 ∨ L ≤ (x3 + (2 : Int32)).toNatClampNeg then none else
                                      (kO o246.1 x2 7).bind fun f254 =>
                                      (fxX7_apart N x2 (xs (x3 + (1 : Int32)).toNatClampNeg) (xs (x3 + (2 : Int32)).toNatClampNeg) o246.1).bind fun o252 =>
                                      if o246.2 = o252.2 then (
                                        fxL_law_1064 L xs N (fxL_law_18 L xs N n) x1 x2 x3 o252.1) else (
                                        none)) else (
                                      if ((xs x3.toNatClampNeg) &&& (31 : Int32)) = (16 : Int32) then (
                                        if (x3 + (1 : Int32)) < 0 ∨ L ≤ (x3 + (1 : Int32)).toNatClampNeg then none else
                                        if (x3 + (2 : Int32)) < 0 ∨ L ≤ (x3 + (2 : Int32)).toNatClampNeg then none else
                                        if (x3 + (3 : Int32)) < 0 ∨ L ≤ (x3 + (3 : Int32)).toNatClampNeg then none else
                                        (kO h x1 6).bind fun f263 =>
                                        (fxX6_near N x1 (xs (x3 + (1 : Int32)).toNatClampNeg) (xs (x3 + (2 : Int32)).toNatClampNeg) (xs (x3 + (3 : Int32)).toNatClampNeg) h).bind fun o261 =>
                                        if (x3 + (1 : Int32)) < 0 ∨ L ≤ (x3 + (1 : Int32)).toNatClampNeg then none else
                                        if (x3 + (2 : Int32)) < 0 ∨ L ≤ (x3 + (2 : Int32)).toNatClampNeg then none else
                                        if (x3 + (3 : Int32)) < 0 ∨ L ≤ (x3 + (3 : Int32)).toNatClampNeg then none else
                                        (kO o261.1 x2 7).bind fun f270 =>
                                        (fxX7_near N x2 (xs (x3 + (1 : Int32)).toNatClampNeg) (xs (x3 + (2 : Int32)).toNatClampNeg) (xs (x3 + (3 : Int32)).toNatClampNeg) o261.1).bind fun o268 =>
                                        if o261.2 = o268.2 then (
                                          fxL_law_1064 L xs N (fxL_law_18 L xs N n) x1 x2 x3 o268.1) else (
                                          none)) else (
                                        if ((xs x3.toNatClampNeg) &&& (31 : Int32)) = (17 : Int32) then (
                                          if (x3 + (1 : Int32)) < 0 ∨ L ≤ (x3 + (1 : Int32)).toNatClampNeg then none else
                                          if (x3 + (2 : Int32)) < 0 ∨ L ≤ (x3 + (2 : Int32)).toNatClampNeg then none else
                                          (kO h x1 6).bind fun f278 =>
                                          (fxX6_same N x1 (xs (x3 + (1 : Int32)).toNatClampNeg) (xs (x3 + (2 : Int32)).toNatClampNeg) h).bind fun o276 =>
                                          if (x3 + (1 : Int32)) < 0 ∨ L ≤ (x3 + (1 : Int32)).toNatClampNeg then none else
                                          if (x3 + (2 : Int32)) < 0 ∨ L ≤ (x3 + (2 : Int32)).toNatClampNeg then none else
                                          (kO o276.1 x2 7).bind fun f284 =>
                                          (fxX7_same N x2 (xs (x3 + (1 : Int32)).toNatClampNeg) (xs (x3 + (2 : Int32)).toNatClampNeg) o276.1).bind fun o282 =>
                                          if o276.2 = o282.2 then (
                                            fxL_law_1064 L xs N (fxL_law_18 L xs N n) x1 x2 x3 o282.1) else (
                                            none)) else (
                                          if ((xs x3.toNatClampNeg) &&& (31 : Int32)) = (18 : Int32) then (
                                            if (x3 + (1 : Int32)) < 0 ∨ L ≤ (x3 + (1 : Int32)).toNatClampNeg then none else
                                            if (x3 + (2 : Int32)) < 0 ∨ L ≤ (x3 + (2 : Int32)).toNatClampNeg then none else
                                            if (x3 + (3 : Int32)) < 0 ∨ L ≤ (x3 + (3 : Int32)).toNatClampNeg then none else
                                            if (x3 + (4 : Int32)) < 0 ∨ L ≤ (x3 + (4 : Int32)).toNatClampNeg then none else
                                            (kO h x1 6).bind fun f294 =>
                                            (fxX6_move N x1 (xs (x3 + (1 : Int32)).toNatClampNeg) (xs (x3 + (2 : Int32)).toNatClampNeg) (xs (x3 + (3 : Int32)).toNatClampNeg) (xs (x3 + (4 : Int32)).toNatClampNeg) h).bind fun o292 =>
                                            if (x3 + (1 : Int32)) < 0 ∨ L ≤ (x3 + (1 : Int32)).toNatClampNeg then none else
                                            if (x3 + (2 : Int32)) < 0 ∨ L ≤ (x3 + (2 : Int32)).toNatClampNeg then none else
                                            if (x3 + (3 : Int32)) < 0 ∨ L ≤ (x3 + (3 : Int32)).toNatClampNeg then none else
                                            if (x3 + (4 : Int32)) < 0 ∨ L ≤ (x3 + (4 : Int32)).toNatClampNeg then none else
                                            (kO o292.1 x2 7).bind fun f302 =>
                                            (fxX7_move N x2 (xs (x3 + (1 : Int32)).toNatClampNeg) (xs (x3 + (2 : Int32)).toNatClampNeg) (xs (x3 + (3 : Int32)).toNatClampNeg) (xs (x3 + (4 : Int32)).toNatClampNeg) o292.1).bind fun o300 =>
                                            if o292.2 = o300.2 then (
                                              fxL_law_1064 L xs N (fxL_law_18 L xs N n) x1 x2 x3 o300.1) else (
                                              none)) else (
                                            if ((xs x3.toNatClampNeg) &&& (31 : Int32)) = (19 : Int32) then (
                                              if (x3 + (1 : Int32)) < 0 ∨ L ≤ (x3 + (1 : Int32)).toNatClampNeg then none else
                                              if (x3 + (2 : Int32)) < 0 ∨ L ≤ (x3 + (2 : Int32)).toNatClampNeg then none else
                                              (kO h x1 6).bind fun f310 =>
                                              (fxX6_mirror N x1 (xs (x3 + (1 : Int32)).toNatClampNeg) (xs (x3 + (2 : Int32)).toNatClampNeg) h).bind fun o308 =>
                                              if (x3 + (1 : Int32)) < 0 ∨ L ≤ (x3 + (1 : Int32)).toNatClampNeg then none else
                                              if (x3 + (2 : Int32)) < 0 ∨ L ≤ (x3 + (2 : Int32)).toNatClampNeg then none else
                                              (kO o308.1 x2 7).bind fun f316 =>
                                              (fxX7_mirror N x2 (xs (x3 + (1 : Int32)).toNatClampNeg) (xs (x3 + (2 : Int32)).toNatClampNeg) o308.1).bind fun o314 =>
                                              if o308.2 = o314.2 then (
                                                fxL_law_1064 L xs N (fxL_law_18 L xs N n) x1 x2 x3 o314.1) else (
                                                none)) else (
                                              if ((xs x3.toNatClampNeg) &&& (31 : Int32)) = (20 : Int32) then (
                                                if (x3 + (1 : Int32)) < 0 ∨ L ≤ (x3 + (1 : Int32)).toNatClampNeg then none else
                                                if (x3 + (2 : Int32)) < 0 ∨ L ≤ (x3 + (2 : Int32)).toNatClampNeg then none else
                                                (kO h x1 6).bind fun f324 =>
                                                (fxX6_turn N x1 (xs (x3 + (1 : Int32)).toNatClampNeg) (xs (x3 + (2 : Int32)).toNatClampNeg) h).bind fun o322 =>
                                                if (x3 + (1 : Int32)) < 0 ∨ L ≤ (x3 + (1 : Int32)).toNatClampNeg then none else
                                                if (x3 + (2 : Int32)) < 0 ∨ L ≤ (x3 + (2 : Int32)).toNatClampNeg then none else
                                                (kO o322.1 x2 7).bind fun f330 =>
                                                (fxX7_turn N x2 (xs (x3 + (1 : Int32)).toNatClampNeg) (xs (x3 + (2 : Int32)).toNatClampNeg) o322.1).bind fun o328 =>
                                                if o322.2 = o328.2 then (
                                                  fxL_law_1064 L xs N (fxL_law_18 L xs N n) x1 x2 x3 o328.1) else (
                                                  none)) else (
                                                if ((xs x3.toNatClampNeg) &&& (31 : Int32)) = (21 : Int32) then (
                                                  if (x3 + (1 : Int32)) < 0 ∨ L ≤ (x3 + (1 : Int32)).toNatClampNeg then none else
                                                  if (x3 + (2 : Int32)) < 0 ∨ L ≤ (x3 + (2 : Int32)).toNatClampNeg then none else
                                                  (kO h x1 6).bind fun f338 =>
                                                  (fxX6_copy N x1 (xs (x3 + (1 : Int32)).toNatClampNeg) (xs (x3 + (2 : Int32)).toNatClampNeg) h).bind fun o336 =>
                                                  if (x3 + (1 : Int32)) < 0 ∨ L ≤ (x3 + (1 : Int32)).toNatClampNeg then none else
                                                  if (x3 + (2 : Int32)) < 0 ∨ L ≤ (x3 + (2 : Int32)).toNatClampNeg then none else
                                                  (kO o336.1 x2 7).bind fun f344 =>
                                                  (fxX7_copy N x2 (xs (x3 + (1 : Int32)).toNatClampNeg) (xs (x3 + (2 : Int32)).toNatClampNeg) o336.1).bind fun o342 =>
                                                  if o336.2 = o342.2 then (
                                                    fxL_law_1064 L xs N (fxL_law_18 L xs N n) x1 x2 x3 o342.1) else (
                                                    none)) else (
                                                  if ((xs x3.toNatClampNeg) &&& (31 : Int32)) = (22 : Int32) then (
                                                    (kO h x1 6).bind fun f350 =>
                                                    (fxX6_undo N x1 h).bind fun o348 =>
                                                    (kO o348.1 x2 7).bind fun f354 =>
                                                    (fxX7_undo N x2 o348.1).bind fun o352 =>
                                                    if o348.2 = o352.2 then (
                                                      fxL_law_1064 L xs N (fxL_law_18 L xs N n) x1 x2 x3 o352.1) else (
                                                      none)) else (
                                                    fxL_law_1064 L xs N (fxL_law_18 L xs N n) x1 x2 x3 h))))))))))))))))))))))))
set_option maxHeartbeats 8000000 in
set_option maxRecDepth 100000 in
theorem exL_law_18 {L : Nat} {xs : Nat → Int32} {N : Nat} : ∀ (n : Nat) (x1 : Nat) (x2 : Nat) (x3 : Int32) (h : mh) {o : Unit}, fxL_law_18 L xs N n x1 x2 x3 h = some o → mB (gL L xs) mL_law (18, [(0, .retAddr 0), (1, .ref x1), (2, .ref x2), (3, .int x3)], [], h, 2202, 110072) := by
  intro n
  induction n with
  | zero => intro x1 x2 x3 h o hq; cases hq
  | succ n ih =>
    intro x1 x2 x3 h o hq
    unfold fxL_law_18 at hq
    refine mB_run odL_law 2 (g := (20, [(0, .retAddr 0), (1, .ref x1), (2, .ref x2), (3, .int x3)], [.retAddr 0, .int x3], h, 2202, 110072)) rfl ?_
    refine mL_len odL_law rfl ?_
    refine mB_run odL_law 2 (g := (24, [(0, .retAddr 0), (1, .ref x1), (2, .ref x2), (3, .int x3)], [.int ((Int32.ofNat L) - (6 : Int32)), .int x3], h, 2202, 110072)) rfl ?_
    by_cases c1 : ((Int32.ofNat L) - (6 : Int32)) < x3
    · rw [if_pos c1] at hq
      refine ic_gt_T (t := 1070) odL_law rfl rfl c1 ?_
      refine mB_run odL_law 1 (g := (1071, [(0, .retAddr 0), (1, .ref x1), (2, .ref x2), (3, .int x3)], [.int (1 : Int32)], h, 2202, 110072)) rfl ?_
      exact mL_ret odL_law rfl rfl rfl (by decide) (by decide)
    · rw [if_neg c1] at hq
      refine ic_gt_F (t := 1070) odL_law rfl rfl c1 ?_
      refine mB_run odL_law 2 (g := (29, [(0, .retAddr 0), (1, .ref x1), (2, .ref x2), (3, .int x3)], [.int x3, .retAddr 0], h, 2202, 110072)) rfl ?_
      by_cases c2 : x3 < 0 ∨ L ≤ x3.toNatClampNeg
      · rw [if_pos c2] at hq; cases hq
      rw [if_neg c2] at hq
      refine mL_ld odL_law rfl c2 ?_
      refine mB_run odL_law 2 (g := (33, [(0, .retAddr 0), (1, .ref x1), (2, .ref x2), (3, .int x3)], [.int ((xs x3.toNatClampNeg) &&& (31 : Int32))], h, 2202, 110072)) rfl ?_
      by_cases c3 : ((xs x3.toNatClampNeg) &&& (31 : Int32)) = (0 : Int32)
      · rw [if_pos c3] at hq
        refine r_tab odL_law rfl c3 (t := 140) rfl ?_
        refine mB_run odL_law 5 (g := (145, [(0, .retAddr 0), (1, .ref x1), (2, .ref x2), (3, .int x3)], [.int (x3 + (1 : Int32)), .retAddr 0, .ref x1], h, 2202, 110072)) rfl ?_
        by_cases c4 : (x3 + (1 : Int32)) < 0 ∨ L ≤ (x3 + (1 : Int32)).toNatClampNeg
        · rw [if_pos c4] at hq; cases hq
        rw [if_neg c4] at hq
        refine mL_ld odL_law rfl c4 ?_
        refine mB_run odL_law 4 (g := (150, [(0, .retAddr 0), (1, .ref x1), (2, .ref x2), (3, .int x3)], [.int (x3 + (2 : Int32)), .retAddr 0, .int (xs (x3 + (1 : Int32)).toNatClampNeg), .ref x1], h, 2202, 110072)) rfl ?_
        by_cases c5 : (x3 + (2 : Int32)) < 0 ∨ L ≤ (x3 + (2 : Int32)).toNatClampNeg
        · rw [if_pos c5] at hq; cases hq
        rw [if_neg c5] at hq
        refine mL_ld odL_law rfl c5 ?_
        obtain ⟨f8, k9, hq⟩ := bsm hq
        obtain ⟨o6, e7, hq⟩ := bsm hq
        refine mB_V (as := [.int (xs (x3 + (1 : Int32)).toNatClampNeg), .int (xs (x3 + (2 : Int32)).toNatClampNeg)]) odL_law okX6_tray lk_12_13 rfl (exX6_tray e7) (kO_at k9) rfl rfl rfl ?_
        show mB _ mL_law (154, [(0, .retAddr 0), (1, .ref x1), (2, .ref x2), (3, .int x3)], [.int o6.2], o6.1, 2202, 110072)
        refine mB_run odL_law 5 (g := (159, [(0, .retAddr 0), (1, .ref x1), (2, .ref x2), (3, .int x3)], [.int (x3 + (1 : Int32)), .retAddr 0, .ref x2, .int o6.2], o6.1, 2202, 110072)) rfl ?_
        by_cases c10 : (x3 + (1 : Int32)) < 0 ∨ L ≤ (x3 + (1 : Int32)).toNatClampNeg
        · rw [if_pos c10] at hq; cases hq
        rw [if_neg c10] at hq
        refine mL_ld odL_law rfl c10 ?_
        refine mB_run odL_law 4 (g := (164, [(0, .retAddr 0), (1, .ref x1), (2, .ref x2), (3, .int x3)], [.int (x3 + (2 : Int32)), .retAddr 0, .int (xs (x3 + (1 : Int32)).toNatClampNeg), .ref x2, .int o6.2], o6.1, 2202, 110072)) rfl ?_
        by_cases c11 : (x3 + (2 : Int32)) < 0 ∨ L ≤ (x3 + (2 : Int32)).toNatClampNeg
        · rw [if_pos c11] at hq; cases hq
        rw [if_neg c11] at hq
        refine mL_ld odL_law rfl c11 ?_
        obtain ⟨f14, k15, hq⟩ := bsm hq
        obtain ⟨o12, e13, hq⟩ := bsm hq
        refine mB_V (as := [.int (xs (x3 + (1 : Int32)).toNatClampNeg), .int (xs (x3 + (2 : Int32)).toNatClampNeg)]) odL_law okX7_tray lk_12_17 rfl (exX7_tray e13) (kO_at k15) rfl rfl rfl ?_
        show mB _ mL_law (168, [(0, .retAddr 0), (1, .ref x1), (2, .ref x2), (3, .int x3)], [.int o12.2, .int o6.2], o12.1, 2202, 110072)
        by_cases c16 : o6.2 = o12.2
        · rw [if_pos c16] at hq
          refine ic_eq_T (t := 1064) odL_law rfl rfl c16 ?_
          refine mB_lv [0, 1, 2, 3] (lv' := [(0, .retAddr 0), (1, .ref x1), (2, .ref x2), (3, .int x3)]) rfl ?_
          exact exL_law_1064 ih _ _ _ _ hq
        · rw [if_neg c16] at hq
          refine ic_eq_F (t := 1064) odL_law rfl rfl c16 ?_
          refine mB_run odL_law 1 (g := (172, [(0, .retAddr 0), (1, .ref x1), (2, .ref x2), (3, .int x3)], [.int (0 : Int32)], o12.1, 2202, 110072)) rfl ?_
          cases hq
      · rw [if_neg c3] at hq
        by_cases c17 : ((xs x3.toNatClampNeg) &&& (31 : Int32)) = (1 : Int32)
        · rw [if_pos c17] at hq
          refine r_tab odL_law rfl c17 (t := 173) rfl ?_
          refine mB_run odL_law 5 (g := (178, [(0, .retAddr 0), (1, .ref x1), (2, .ref x2), (3, .int x3)], [.int (x3 + (1 : Int32)), .retAddr 0, .ref x1], h, 2202, 110072)) rfl ?_
          by_cases c18 : (x3 + (1 : Int32)) < 0 ∨ L ≤ (x3 + (1 : Int32)).toNatClampNeg
          · rw [if_pos c18] at hq; cases hq
          rw [if_neg c18] at hq
          refine mL_ld odL_law rfl c18 ?_
          refine mB_run odL_law 4 (g := (183, [(0, .retAddr 0), (1, .ref x1), (2, .ref x2), (3, .int x3)], [.int (x3 + (2 : Int32)), .retAddr 0, .int (xs (x3 + (1 : Int32)).toNatClampNeg), .ref x1], h, 2202, 110072)) rfl ?_
          by_cases c19 : (x3 + (2 : Int32)) < 0 ∨ L ≤ (x3 + (2 : Int32)).toNatClampNeg
          · rw [if_pos c19] at hq; cases hq
          rw [if_neg c19] at hq
          refine mL_ld odL_law rfl c19 ?_
          refine mB_run odL_law 4 (g := (188, [(0, .retAddr 0), (1, .ref x1), (2, .ref x2), (3, .int x3)], [.int (x3 + (3 : Int32)), .retAddr 0, .int (xs (x3 + (2 : Int32)).toNatClampNeg), .int (xs (x3 + (1 : Int32)).toNatClampNeg), .ref x1], h, 2202, 110072)) rfl ?_
          by_cases c20 : (x3 + (3 : Int32)) < 0 ∨ L ≤ (x3 + (3 : Int32)).toNatClampNeg
          · rw [if_pos c20] at hq; cases hq
          rw [if_neg c20] at hq
          refine mL_ld odL_law rfl c20 ?_
          refine mB_run odL_law 4 (g := (193, [(0, .retAddr 0), (1, .ref x1), (2, .ref x2), (3, .int x3)], [.int (x3 + (4 : Int32)), .retAddr 0, .int (xs (x3 + (3 : Int32)).toNatClampNeg), .int (xs (x3 + (2 : Int32)).toNatClampNeg), .int (xs (x3 + (1 : Int32)).toNatClampNeg), .ref x1], h, 2202, 110072)) rfl ?_
          by_cases c21 : (x3 + (4 : Int32)) < 0 ∨ L ≤ (x3 + (4 : Int32)).toNatClampNeg
          · rw [if_pos c21] at hq; cases hq
          rw [if_neg c21] at hq
          refine mL_ld odL_law rfl c21 ?_
          refine mB_run odL_law 4 (g := (198, [(0, .retAddr 0), (1, .ref x1), (2, .ref x2), (3, .int x3)], [.int (x3 + (5 : Int32)), .retAddr 0, .int (xs (x3 + (4 : Int32)).toNatClampNeg), .int (xs (x3 + (3 : Int32)).toNatClampNeg), .int (xs (x3 + (2 : Int32)).toNatClampNeg), .int (xs (x3 + (1 : Int32)).toNatClampNeg), .ref x1], h, 2202, 110072)) rfl ?_
          by_cases c22 : (x3 + (5 : Int32)) < 0 ∨ L ≤ (x3 + (5 : Int32)).toNatClampNeg
          · rw [if_pos c22] at hq; cases hq
          rw [if_neg c22] at hq
          refine mL_ld odL_law rfl c22 ?_
          obtain ⟨f25, k26, hq⟩ := bsm hq
          obtain ⟨o23, e24, hq⟩ := bsm hq
          refine mB_V (as := [.int (xs (x3 + (1 : Int32)).toNatClampNeg), .int (xs (x3 + (2 : Int32)).toNatClampNeg), .int (xs (x3 + (3 : Int32)).toNatClampNeg), .int (xs (x3 + (4 : Int32)).toNatClampNeg), .int (xs (x3 + (5 : Int32)).toNatClampNeg)]) odL_law okX6_point lk_12_18 rfl (exX6_point e24) (kO_at k26) rfl rfl rfl ?_
          show mB _ mL_law (202, [(0, .retAddr 0), (1, .ref x1), (2, .ref x2), (3, .int x3)], [.int o23.2], o23.1, 2202, 110072)
          refine mB_run odL_law 5 (g := (207, [(0, .retAddr 0), (1, .ref x1), (2, .ref x2), (3, .int x3)], [.int (x3 + (1 : Int32)), .retAddr 0, .ref x2, .int o23.2], o23.1, 2202, 110072)) rfl ?_
          by_cases c27 : (x3 + (1 : Int32)) < 0 ∨ L ≤ (x3 + (1 : Int32)).toNatClampNeg
          · rw [if_pos c27] at hq; cases hq
          rw [if_neg c27] at hq
          refine mL_ld odL_law rfl c27 ?_
          refine mB_run odL_law 4 (g := (212, [(0, .retAddr 0), (1, .ref x1), (2, .ref x2), (3, .int x3)], [.int (x3 + (2 : Int32)), .retAddr 0, .int (xs (x3 + (1 : Int32)).toNatClampNeg), .ref x2, .int o23.2], o23.1, 2202, 110072)) rfl ?_
          by_cases c28 : (x3 + (2 : Int32)) < 0 ∨ L ≤ (x3 + (2 : Int32)).toNatClampNeg
          · rw [if_pos c28] at hq; cases hq
          rw [if_neg c28] at hq
          refine mL_ld odL_law rfl c28 ?_
          refine mB_run odL_law 4 (g := (217, [(0, .retAddr 0), (1, .ref x1), (2, .ref x2), (3, .int x3)], [.int (x3 + (3 : Int32)), .retAddr 0, .int (xs (x3 + (2 : Int32)).toNatClampNeg), .int (xs (x3 + (1 : Int32)).toNatClampNeg), .ref x2, .int o23.2], o23.1, 2202, 110072)) rfl ?_
          by_cases c29 : (x3 + (3 : Int32)) < 0 ∨ L ≤ (x3 + (3 : Int32)).toNatClampNeg
          · rw [if_pos c29] at hq; cases hq
          rw [if_neg c29] at hq
          refine mL_ld odL_law rfl c29 ?_
          refine mB_run odL_law 4 (g := (222, [(0, .retAddr 0), (1, .ref x1), (2, .ref x2), (3, .int x3)], [.int (x3 + (4 : Int32)), .retAddr 0, .int (xs (x3 + (3 : Int32)).toNatClampNeg), .int (xs (x3 + (2 : Int32)).toNatClampNeg), .int (xs (x3 + (1 : Int32)).toNatClampNeg), .ref x2, .int o23.2], o23.1, 2202, 110072)) rfl ?_
          by_cases c30 : (x3 + (4 : Int32)) < 0 ∨ L ≤ (x3 + (4 : Int32)).toNatClampNeg
          · rw [if_pos c30] at hq; cases hq
          rw [if_neg c30] at hq
          refine mL_ld odL_law rfl c30 ?_
          refine mB_run odL_law 4 (g := (227, [(0, .retAddr 0), (1, .ref x1), (2, .ref x2), (3, .int x3)], [.int (x3 + (5 : Int32)), .retAddr 0, .int (xs (x3 + (4 : Int32)).toNatClampNeg), .int (xs (x3 + (3 : Int32)).toNatClampNeg), .int (xs (x3 + (2 : Int32)).toNatClampNeg), .int (xs (x3 + (1 : Int32)).toNatClampNeg), .ref x2, .int o23.2], o23.1, 2202, 110072)) rfl ?_
          by_cases c31 : (x3 + (5 : Int32)) < 0 ∨ L ≤ (x3 + (5 : Int32)).toNatClampNeg
          · rw [if_pos c31] at hq; cases hq
          rw [if_neg c31] at hq
          refine mL_ld odL_law rfl c31 ?_
          obtain ⟨f34, k35, hq⟩ := bsm hq
          obtain ⟨o32, e33, hq⟩ := bsm hq
          refine mB_V (as := [.int (xs (x3 + (1 : Int32)).toNatClampNeg), .int (xs (x3 + (2 : Int32)).toNatClampNeg), .int (xs (x3 + (3 : Int32)).toNatClampNeg), .int (xs (x3 + (4 : Int32)).toNatClampNeg), .int (xs (x3 + (5 : Int32)).toNatClampNeg)]) odL_law okX7_point lk_12_22 rfl (exX7_point e33) (kO_at k35) rfl rfl rfl ?_
          show mB _ mL_law (231, [(0, .retAddr 0), (1, .ref x1), (2, .ref x2), (3, .int x3)], [.int o32.2, .int o23.2], o32.1, 2202, 110072)
          by_cases c36 : o23.2 = o32.2
          · rw [if_pos c36] at hq
            refine ic_eq_T (t := 1064) odL_law rfl rfl c36 ?_
            refine mB_lv [0, 1, 2, 3] (lv' := [(0, .retAddr 0), (1, .ref x1), (2, .ref x2), (3, .int x3)]) rfl ?_
            exact exL_law_1064 ih _ _ _ _ hq
          · rw [if_neg c36] at hq
            refine ic_eq_F (t := 1064) odL_law rfl rfl c36 ?_
            refine mB_run odL_law 1 (g := (235, [(0, .retAddr 0), (1, .ref x1), (2, .ref x2), (3, .int x3)], [.int (0 : Int32)], o32.1, 2202, 110072)) rfl ?_
            cases hq
        · rw [if_neg c17] at hq
          by_cases c37 : ((xs x3.toNatClampNeg) &&& (31 : Int32)) = (2 : Int32)
          · rw [if_pos c37] at hq
            refine r_tab odL_law rfl c37 (t := 236) rfl ?_
            refine mB_run odL_law 5 (g := (241, [(0, .retAddr 0), (1, .ref x1), (2, .ref x2), (3, .int x3)], [.int (x3 + (1 : Int32)), .retAddr 0, .ref x1], h, 2202, 110072)) rfl ?_
            by_cases c38 : (x3 + (1 : Int32)) < 0 ∨ L ≤ (x3 + (1 : Int32)).toNatClampNeg
            · rw [if_pos c38] at hq; cases hq
            rw [if_neg c38] at hq
            refine mL_ld odL_law rfl c38 ?_
            refine mB_run odL_law 4 (g := (246, [(0, .retAddr 0), (1, .ref x1), (2, .ref x2), (3, .int x3)], [.int (x3 + (2 : Int32)), .retAddr 0, .int (xs (x3 + (1 : Int32)).toNatClampNeg), .ref x1], h, 2202, 110072)) rfl ?_
            by_cases c39 : (x3 + (2 : Int32)) < 0 ∨ L ≤ (x3 + (2 : Int32)).toNatClampNeg
            · rw [if_pos c39] at hq; cases hq
            rw [if_neg c39] at hq
            refine mL_ld odL_law rfl c39 ?_
            obtain ⟨f42, k43, hq⟩ := bsm hq
            obtain ⟨o40, e41, hq⟩ := bsm hq
            refine mB_V (as := [.int (xs (x3 + (1 : Int32)).toNatClampNeg), .int (xs (x3 + (2 : Int32)).toNatClampNeg)]) odL_law okX6_solid lk_12_23 rfl (exX6_solid e41) (kO_at k43) rfl rfl rfl ?_
            show mB _ mL_law (250, [(0, .retAddr 0), (1, .ref x1), (2, .ref x2), (3, .int x3)], [.int o40.2], o40.1, 2202, 110072)
            refine mB_run odL_law 5 (g := (255, [(0, .retAddr 0), (1, .ref x1), (2, .ref x2), (3, .int x3)], [.int (x3 + (1 : Int32)), .retAddr 0, .ref x2, .int o40.2], o40.1, 2202, 110072)) rfl ?_
            by_cases c44 : (x3 + (1 : Int32)) < 0 ∨ L ≤ (x3 + (1 : Int32)).toNatClampNeg
            · rw [if_pos c44] at hq; cases hq
            rw [if_neg c44] at hq
            refine mL_ld odL_law rfl c44 ?_
            refine mB_run odL_law 4 (g := (260, [(0, .retAddr 0), (1, .ref x1), (2, .ref x2), (3, .int x3)], [.int (x3 + (2 : Int32)), .retAddr 0, .int (xs (x3 + (1 : Int32)).toNatClampNeg), .ref x2, .int o40.2], o40.1, 2202, 110072)) rfl ?_
            by_cases c45 : (x3 + (2 : Int32)) < 0 ∨ L ≤ (x3 + (2 : Int32)).toNatClampNeg
            · rw [if_pos c45] at hq; cases hq
            rw [if_neg c45] at hq
            refine mL_ld odL_law rfl c45 ?_
            obtain ⟨f48, k49, hq⟩ := bsm hq
            obtain ⟨o46, e47, hq⟩ := bsm hq
            refine mB_V (as := [.int (xs (x3 + (1 : Int32)).toNatClampNeg), .int (xs (x3 + (2 : Int32)).toNatClampNeg)]) odL_law okX7_solid lk_12_27 rfl (exX7_solid e47) (kO_at k49) rfl rfl rfl ?_
            show mB _ mL_law (264, [(0, .retAddr 0), (1, .ref x1), (2, .ref x2), (3, .int x3)], [.int o46.2, .int o40.2], o46.1, 2202, 110072)
            by_cases c50 : o40.2 = o46.2
            · rw [if_pos c50] at hq
              refine ic_eq_T (t := 1064) odL_law rfl rfl c50 ?_
              refine mB_lv [0, 1, 2, 3] (lv' := [(0, .retAddr 0), (1, .ref x1), (2, .ref x2), (3, .int x3)]) rfl ?_
              exact exL_law_1064 ih _ _ _ _ hq
            · rw [if_neg c50] at hq
              refine ic_eq_F (t := 1064) odL_law rfl rfl c50 ?_
              refine mB_run odL_law 1 (g := (268, [(0, .retAddr 0), (1, .ref x1), (2, .ref x2), (3, .int x3)], [.int (0 : Int32)], o46.1, 2202, 110072)) rfl ?_
              cases hq
          · rw [if_neg c37] at hq
            by_cases c51 : ((xs x3.toNatClampNeg) &&& (31 : Int32)) = (3 : Int32)
            · rw [if_pos c51] at hq
              refine r_tab odL_law rfl c51 (t := 269) rfl ?_
              refine mB_run odL_law 5 (g := (274, [(0, .retAddr 0), (1, .ref x1), (2, .ref x2), (3, .int x3)], [.int (x3 + (1 : Int32)), .retAddr 0, .ref x1], h, 2202, 110072)) rfl ?_
              by_cases c52 : (x3 + (1 : Int32)) < 0 ∨ L ≤ (x3 + (1 : Int32)).toNatClampNeg
              · rw [if_pos c52] at hq; cases hq
              rw [if_neg c52] at hq
              refine mL_ld odL_law rfl c52 ?_
              refine mB_run odL_law 4 (g := (279, [(0, .retAddr 0), (1, .ref x1), (2, .ref x2), (3, .int x3)], [.int (x3 + (2 : Int32)), .retAddr 0, .int (xs (x3 + (1 : Int32)).toNatClampNeg), .ref x1], h, 2202, 110072)) rfl ?_
              by_cases c53 : (x3 + (2 : Int32)) < 0 ∨ L ≤ (x3 + (2 : Int32)).toNatClampNeg
              · rw [if_pos c53] at hq; cases hq
              rw [if_neg c53] at hq
              refine mL_ld odL_law rfl c53 ?_
              refine mB_run odL_law 4 (g := (284, [(0, .retAddr 0), (1, .ref x1), (2, .ref x2), (3, .int x3)], [.int (x3 + (3 : Int32)), .retAddr 0, .int (xs (x3 + (2 : Int32)).toNatClampNeg), .int (xs (x3 + (1 : Int32)).toNatClampNeg), .ref x1], h, 2202, 110072)) rfl ?_
              by_cases c54 : (x3 + (3 : Int32)) < 0 ∨ L ≤ (x3 + (3 : Int32)).toNatClampNeg
              · rw [if_pos c54] at hq; cases hq
              rw [if_neg c54] at hq
              refine mL_ld odL_law rfl c54 ?_
              refine mB_run odL_law 4 (g := (289, [(0, .retAddr 0), (1, .ref x1), (2, .ref x2), (3, .int x3)], [.int (x3 + (4 : Int32)), .retAddr 0, .int (xs (x3 + (3 : Int32)).toNatClampNeg), .int (xs (x3 + (2 : Int32)).toNatClampNeg), .int (xs (x3 + (1 : Int32)).toNatClampNeg), .ref x1], h, 2202, 110072)) rfl ?_
              by_cases c55 : (x3 + (4 : Int32)) < 0 ∨ L ≤ (x3 + (4 : Int32)).toNatClampNeg
              · rw [if_pos c55] at hq; cases hq
              rw [if_neg c55] at hq
              refine mL_ld odL_law rfl c55 ?_
              obtain ⟨f58, k59, hq⟩ := bsm hq
              obtain ⟨o56, e57, hq⟩ := bsm hq
              refine mB_V (as := [.int (xs (x3 + (1 : Int32)).toNatClampNeg), .int (xs (x3 + (2 : Int32)).toNatClampNeg), .int (xs (x3 + (3 : Int32)).toNatClampNeg), .int (xs (x3 + (4 : Int32)).toNatClampNeg)]) odL_law okX6_grow lk_12_28 rfl (exX6_grow e57) (kO_at k59) rfl rfl rfl ?_
              show mB _ mL_law (293, [(0, .retAddr 0), (1, .ref x1), (2, .ref x2), (3, .int x3)], [.int o56.2], o56.1, 2202, 110072)
              refine mB_run odL_law 5 (g := (298, [(0, .retAddr 0), (1, .ref x1), (2, .ref x2), (3, .int x3)], [.int (x3 + (1 : Int32)), .retAddr 0, .ref x2, .int o56.2], o56.1, 2202, 110072)) rfl ?_
              by_cases c60 : (x3 + (1 : Int32)) < 0 ∨ L ≤ (x3 + (1 : Int32)).toNatClampNeg
              · rw [if_pos c60] at hq; cases hq
              rw [if_neg c60] at hq
              refine mL_ld odL_law rfl c60 ?_
              refine mB_run odL_law 4 (g := (303, [(0, .retAddr 0), (1, .ref x1), (2, .ref x2), (3, .int x3)], [.int (x3 + (2 : Int32)), .retAddr 0, .int (xs (x3 + (1 : Int32)).toNatClampNeg), .ref x2, .int o56.2], o56.1, 2202, 110072)) rfl ?_
              by_cases c61 : (x3 + (2 : Int32)) < 0 ∨ L ≤ (x3 + (2 : Int32)).toNatClampNeg
              · rw [if_pos c61] at hq; cases hq
              rw [if_neg c61] at hq
              refine mL_ld odL_law rfl c61 ?_
              refine mB_run odL_law 4 (g := (308, [(0, .retAddr 0), (1, .ref x1), (2, .ref x2), (3, .int x3)], [.int (x3 + (3 : Int32)), .retAddr 0, .int (xs (x3 + (2 : Int32)).toNatClampNeg), .int (xs (x3 + (1 : Int32)).toNatClampNeg), .ref x2, .int o56.2], o56.1, 2202, 110072)) rfl ?_
              by_cases c62 : (x3 + (3 : Int32)) < 0 ∨ L ≤ (x3 + (3 : Int32)).toNatClampNeg
              · rw [if_pos c62] at hq; cases hq
              rw [if_neg c62] at hq
              refine mL_ld odL_law rfl c62 ?_
              refine mB_run odL_law 4 (g := (313, [(0, .retAddr 0), (1, .ref x1), (2, .ref x2), (3, .int x3)], [.int (x3 + (4 : Int32)), .retAddr 0, .int (xs (x3 + (3 : Int32)).toNatClampNeg), .int (xs (x3 + (2 : Int32)).toNatClampNeg), .int (xs (x3 + (1 : Int32)).toNatClampNeg), .ref x2, .int o56.2], o56.1, 2202, 110072)) rfl ?_
              by_cases c63 : (x3 + (4 : Int32)) < 0 ∨ L ≤ (x3 + (4 : Int32)).toNatClampNeg
              · rw [if_pos c63] at hq; cases hq
              rw [if_neg c63] at hq
              refine mL_ld odL_law rfl c63 ?_
              obtain ⟨f66, k67, hq⟩ := bsm hq
              obtain ⟨o64, e65, hq⟩ := bsm hq
              refine mB_V (as := [.int (xs (x3 + (1 : Int32)).toNatClampNeg), .int (xs (x3 + (2 : Int32)).toNatClampNeg), .int (xs (x3 + (3 : Int32)).toNatClampNeg), .int (xs (x3 + (4 : Int32)).toNatClampNeg)]) odL_law okX7_grow lk_12_32 rfl (exX7_grow e65) (kO_at k67) rfl rfl rfl ?_
              show mB _ mL_law (317, [(0, .retAddr 0), (1, .ref x1), (2, .ref x2), (3, .int x3)], [.int o64.2, .int o56.2], o64.1, 2202, 110072)
              by_cases c68 : o56.2 = o64.2
              · rw [if_pos c68] at hq
                refine ic_eq_T (t := 1064) odL_law rfl rfl c68 ?_
                refine mB_lv [0, 1, 2, 3] (lv' := [(0, .retAddr 0), (1, .ref x1), (2, .ref x2), (3, .int x3)]) rfl ?_
                exact exL_law_1064 ih _ _ _ _ hq
              · rw [if_neg c68] at hq
                refine ic_eq_F (t := 1064) odL_law rfl rfl c68 ?_
                refine mB_run odL_law 1 (g := (321, [(0, .retAddr 0), (1, .ref x1), (2, .ref x2), (3, .int x3)], [.int (0 : Int32)], o64.1, 2202, 110072)) rfl ?_
                cases hq
            · rw [if_neg c51] at hq
              by_cases c69 : ((xs x3.toNatClampNeg) &&& (31 : Int32)) = (4 : Int32)
              · rw [if_pos c69] at hq
                refine r_tab odL_law rfl c69 (t := 322) rfl ?_
                refine mB_run odL_law 5 (g := (327, [(0, .retAddr 0), (1, .ref x1), (2, .ref x2), (3, .int x3)], [.int (x3 + (1 : Int32)), .retAddr 0, .ref x1], h, 2202, 110072)) rfl ?_
                by_cases c70 : (x3 + (1 : Int32)) < 0 ∨ L ≤ (x3 + (1 : Int32)).toNatClampNeg
                · rw [if_pos c70] at hq; cases hq
                rw [if_neg c70] at hq
                refine mL_ld odL_law rfl c70 ?_
                refine mB_run odL_law 4 (g := (332, [(0, .retAddr 0), (1, .ref x1), (2, .ref x2), (3, .int x3)], [.int (x3 + (2 : Int32)), .retAddr 0, .int (xs (x3 + (1 : Int32)).toNatClampNeg), .ref x1], h, 2202, 110072)) rfl ?_
                by_cases c71 : (x3 + (2 : Int32)) < 0 ∨ L ≤ (x3 + (2 : Int32)).toNatClampNeg
                · rw [if_pos c71] at hq; cases hq
                rw [if_neg c71] at hq
                refine mL_ld odL_law rfl c71 ?_
                obtain ⟨f74, k75, hq⟩ := bsm hq
                obtain ⟨o72, e73, hq⟩ := bsm hq
                refine mB_V (as := [.int (xs (x3 + (1 : Int32)).toNatClampNeg), .int (xs (x3 + (2 : Int32)).toNatClampNeg)]) odL_law okX6_count lk_12_33 rfl (exX6_count e73) (kO_at k75) rfl rfl rfl ?_
                show mB _ mL_law (336, [(0, .retAddr 0), (1, .ref x1), (2, .ref x2), (3, .int x3)], [.int o72.2], o72.1, 2202, 110072)
                refine mB_run odL_law 5 (g := (341, [(0, .retAddr 0), (1, .ref x1), (2, .ref x2), (3, .int x3)], [.int (x3 + (1 : Int32)), .retAddr 0, .ref x2, .int o72.2], o72.1, 2202, 110072)) rfl ?_
                by_cases c76 : (x3 + (1 : Int32)) < 0 ∨ L ≤ (x3 + (1 : Int32)).toNatClampNeg
                · rw [if_pos c76] at hq; cases hq
                rw [if_neg c76] at hq
                refine mL_ld odL_law rfl c76 ?_
                refine mB_run odL_law 4 (g := (346, [(0, .retAddr 0), (1, .ref x1), (2, .ref x2), (3, .int x3)], [.int (x3 + (2 : Int32)), .retAddr 0, .int (xs (x3 + (1 : Int32)).toNatClampNeg), .ref x2, .int o72.2], o72.1, 2202, 110072)) rfl ?_
                by_cases c77 : (x3 + (2 : Int32)) < 0 ∨ L ≤ (x3 + (2 : Int32)).toNatClampNeg
                · rw [if_pos c77] at hq; cases hq
                rw [if_neg c77] at hq
                refine mL_ld odL_law rfl c77 ?_
                obtain ⟨f80, k81, hq⟩ := bsm hq
                obtain ⟨o78, e79, hq⟩ := bsm hq
                refine mB_V (as := [.int (xs (x3 + (1 : Int32)).toNatClampNeg), .int (xs (x3 + (2 : Int32)).toNatClampNeg)]) odL_law okX7_count lk_12_36 rfl (exX7_count e79) (kO_at k81) rfl rfl rfl ?_
                show mB _ mL_law (350, [(0, .retAddr 0), (1, .ref x1), (2, .ref x2), (3, .int x3)], [.int o78.2, .int o72.2], o78.1, 2202, 110072)
                by_cases c82 : o72.2 = o78.2
                · rw [if_pos c82] at hq
                  refine ic_eq_T (t := 1064) odL_law rfl rfl c82 ?_
                  refine mB_lv [0, 1, 2, 3] (lv' := [(0, .retAddr 0), (1, .ref x1), (2, .ref x2), (3, .int x3)]) rfl ?_
                  exact exL_law_1064 ih _ _ _ _ hq
                · rw [if_neg c82] at hq
                  refine ic_eq_F (t := 1064) odL_law rfl rfl c82 ?_
                  refine mB_run odL_law 1 (g := (354, [(0, .retAddr 0), (1, .ref x1), (2, .ref x2), (3, .int x3)], [.int (0 : Int32)], o78.1, 2202, 110072)) rfl ?_
                  cases hq
              · rw [if_neg c69] at hq
                by_cases c83 : ((xs x3.toNatClampNeg) &&& (31 : Int32)) = (5 : Int32)
                · rw [if_pos c83] at hq
                  refine r_tab odL_law rfl c83 (t := 355) rfl ?_
                  refine mB_run odL_law 5 (g := (360, [(0, .retAddr 0), (1, .ref x1), (2, .ref x2), (3, .int x3)], [.int (x3 + (1 : Int32)), .retAddr 0, .ref x1], h, 2202, 110072)) rfl ?_
                  by_cases c84 : (x3 + (1 : Int32)) < 0 ∨ L ≤ (x3 + (1 : Int32)).toNatClampNeg
                  · rw [if_pos c84] at hq; cases hq
                  rw [if_neg c84] at hq
                  refine mL_ld odL_law rfl c84 ?_
                  refine mB_run odL_law 4 (g := (365, [(0, .retAddr 0), (1, .ref x1), (2, .ref x2), (3, .int x3)], [.int (x3 + (2 : Int32)), .retAddr 0, .int (xs (x3 + (1 : Int32)).toNatClampNeg), .ref x1], h, 2202, 110072)) rfl ?_
                  by_cases c85 : (x3 + (2 : Int32)) < 0 ∨ L ≤ (x3 + (2 : Int32)).toNatClampNeg
                  · rw [if_pos c85] at hq; cases hq
                  rw [if_neg c85] at hq
                  refine mL_ld odL_law rfl c85 ?_
                  refine mB_run odL_law 4 (g := (370, [(0, .retAddr 0), (1, .ref x1), (2, .ref x2), (3, .int x3)], [.int (x3 + (3 : Int32)), .retAddr 0, .int (xs (x3 + (2 : Int32)).toNatClampNeg), .int (xs (x3 + (1 : Int32)).toNatClampNeg), .ref x1], h, 2202, 110072)) rfl ?_
                  by_cases c86 : (x3 + (3 : Int32)) < 0 ∨ L ≤ (x3 + (3 : Int32)).toNatClampNeg
                  · rw [if_pos c86] at hq; cases hq
                  rw [if_neg c86] at hq
                  refine mL_ld odL_law rfl c86 ?_
                  obtain ⟨f89, k90, hq⟩ := bsm hq
                  obtain ⟨o87, e88, hq⟩ := bsm hq
                  refine mB_V (as := [.int (xs (x3 + (1 : Int32)).toNatClampNeg), .int (xs (x3 + (2 : Int32)).toNatClampNeg), .int (xs (x3 + (3 : Int32)).toNatClampNeg)]) odL_law okX6_corner lk_12_37 rfl (exX6_corner e88) (kO_at k90) rfl rfl rfl ?_
                  show mB _ mL_law (374, [(0, .retAddr 0), (1, .ref x1), (2, .ref x2), (3, .int x3)], [.int o87.2], o87.1, 2202, 110072)
                  refine mB_run odL_law 5 (g := (379, [(0, .retAddr 0), (1, .ref x1), (2, .ref x2), (3, .int x3)], [.int (x3 + (1 : Int32)), .retAddr 0, .ref x2, .int o87.2], o87.1, 2202, 110072)) rfl ?_
                  by_cases c91 : (x3 + (1 : Int32)) < 0 ∨ L ≤ (x3 + (1 : Int32)).toNatClampNeg
                  · rw [if_pos c91] at hq; cases hq
                  rw [if_neg c91] at hq
                  refine mL_ld odL_law rfl c91 ?_
                  refine mB_run odL_law 4 (g := (384, [(0, .retAddr 0), (1, .ref x1), (2, .ref x2), (3, .int x3)], [.int (x3 + (2 : Int32)), .retAddr 0, .int (xs (x3 + (1 : Int32)).toNatClampNeg), .ref x2, .int o87.2], o87.1, 2202, 110072)) rfl ?_
                  by_cases c92 : (x3 + (2 : Int32)) < 0 ∨ L ≤ (x3 + (2 : Int32)).toNatClampNeg
                  · rw [if_pos c92] at hq; cases hq
                  rw [if_neg c92] at hq
                  refine mL_ld odL_law rfl c92 ?_
                  refine mB_run odL_law 4 (g := (389, [(0, .retAddr 0), (1, .ref x1), (2, .ref x2), (3, .int x3)], [.int (x3 + (3 : Int32)), .retAddr 0, .int (xs (x3 + (2 : Int32)).toNatClampNeg), .int (xs (x3 + (1 : Int32)).toNatClampNeg), .ref x2, .int o87.2], o87.1, 2202, 110072)) rfl ?_
                  by_cases c93 : (x3 + (3 : Int32)) < 0 ∨ L ≤ (x3 + (3 : Int32)).toNatClampNeg
                  · rw [if_pos c93] at hq; cases hq
                  rw [if_neg c93] at hq
                  refine mL_ld odL_law rfl c93 ?_
                  obtain ⟨f96, k97, hq⟩ := bsm hq
                  obtain ⟨o94, e95, hq⟩ := bsm hq
                  refine mB_V (as := [.int (xs (x3 + (1 : Int32)).toNatClampNeg), .int (xs (x3 + (2 : Int32)).toNatClampNeg), .int (xs (x3 + (3 : Int32)).toNatClampNeg)]) odL_law okX7_corner lk_12_41 rfl (exX7_corner e95) (kO_at k97) rfl rfl rfl ?_
                  show mB _ mL_law (393, [(0, .retAddr 0), (1, .ref x1), (2, .ref x2), (3, .int x3)], [.int o94.2, .int o87.2], o94.1, 2202, 110072)
                  by_cases c98 : o87.2 = o94.2
                  · rw [if_pos c98] at hq
                    refine ic_eq_T (t := 1064) odL_law rfl rfl c98 ?_
                    refine mB_lv [0, 1, 2, 3] (lv' := [(0, .retAddr 0), (1, .ref x1), (2, .ref x2), (3, .int x3)]) rfl ?_
                    exact exL_law_1064 ih _ _ _ _ hq
                  · rw [if_neg c98] at hq
                    refine ic_eq_F (t := 1064) odL_law rfl rfl c98 ?_
                    refine mB_run odL_law 1 (g := (397, [(0, .retAddr 0), (1, .ref x1), (2, .ref x2), (3, .int x3)], [.int (0 : Int32)], o94.1, 2202, 110072)) rfl ?_
                    cases hq
                · rw [if_neg c83] at hq
                  by_cases c99 : ((xs x3.toNatClampNeg) &&& (31 : Int32)) = (6 : Int32)
                  · rw [if_pos c99] at hq
                    refine r_tab odL_law rfl c99 (t := 398) rfl ?_
                    refine mB_run odL_law 5 (g := (403, [(0, .retAddr 0), (1, .ref x1), (2, .ref x2), (3, .int x3)], [.int (x3 + (1 : Int32)), .retAddr 0, .ref x1], h, 2202, 110072)) rfl ?_
                    by_cases c100 : (x3 + (1 : Int32)) < 0 ∨ L ≤ (x3 + (1 : Int32)).toNatClampNeg
                    · rw [if_pos c100] at hq; cases hq
                    rw [if_neg c100] at hq
                    refine mL_ld odL_law rfl c100 ?_
                    refine mB_run odL_law 4 (g := (408, [(0, .retAddr 0), (1, .ref x1), (2, .ref x2), (3, .int x3)], [.int (x3 + (2 : Int32)), .retAddr 0, .int (xs (x3 + (1 : Int32)).toNatClampNeg), .ref x1], h, 2202, 110072)) rfl ?_
                    by_cases c101 : (x3 + (2 : Int32)) < 0 ∨ L ≤ (x3 + (2 : Int32)).toNatClampNeg
                    · rw [if_pos c101] at hq; cases hq
                    rw [if_neg c101] at hq
                    refine mL_ld odL_law rfl c101 ?_
                    refine mB_run odL_law 4 (g := (413, [(0, .retAddr 0), (1, .ref x1), (2, .ref x2), (3, .int x3)], [.int (x3 + (3 : Int32)), .retAddr 0, .int (xs (x3 + (2 : Int32)).toNatClampNeg), .int (xs (x3 + (1 : Int32)).toNatClampNeg), .ref x1], h, 2202, 110072)) rfl ?_
                    by_cases c102 : (x3 + (3 : Int32)) < 0 ∨ L ≤ (x3 + (3 : Int32)).toNatClampNeg
                    · rw [if_pos c102] at hq; cases hq
                    rw [if_neg c102] at hq
                    refine mL_ld odL_law rfl c102 ?_
                    obtain ⟨f105, k106, hq⟩ := bsm hq
                    obtain ⟨o103, e104, hq⟩ := bsm hq
                    refine mB_V (as := [.int (xs (x3 + (1 : Int32)).toNatClampNeg), .int (xs (x3 + (2 : Int32)).toNatClampNeg), .int (xs (x3 + (3 : Int32)).toNatClampNeg)]) odL_law okX6_edge lk_12_42 rfl (exX6_edge e104) (kO_at k106) rfl rfl rfl ?_
                    show mB _ mL_law (417, [(0, .retAddr 0), (1, .ref x1), (2, .ref x2), (3, .int x3)], [.int o103.2], o103.1, 2202, 110072)
                    refine mB_run odL_law 5 (g := (422, [(0, .retAddr 0), (1, .ref x1), (2, .ref x2), (3, .int x3)], [.int (x3 + (1 : Int32)), .retAddr 0, .ref x2, .int o103.2], o103.1, 2202, 110072)) rfl ?_
                    by_cases c107 : (x3 + (1 : Int32)) < 0 ∨ L ≤ (x3 + (1 : Int32)).toNatClampNeg
                    · rw [if_pos c107] at hq; cases hq
                    rw [if_neg c107] at hq
                    refine mL_ld odL_law rfl c107 ?_
                    refine mB_run odL_law 4 (g := (427, [(0, .retAddr 0), (1, .ref x1), (2, .ref x2), (3, .int x3)], [.int (x3 + (2 : Int32)), .retAddr 0, .int (xs (x3 + (1 : Int32)).toNatClampNeg), .ref x2, .int o103.2], o103.1, 2202, 110072)) rfl ?_
                    by_cases c108 : (x3 + (2 : Int32)) < 0 ∨ L ≤ (x3 + (2 : Int32)).toNatClampNeg
                    · rw [if_pos c108] at hq; cases hq
                    rw [if_neg c108] at hq
                    refine mL_ld odL_law rfl c108 ?_
                    refine mB_run odL_law 4 (g := (432, [(0, .retAddr 0), (1, .ref x1), (2, .ref x2), (3, .int x3)], [.int (x3 + (3 : Int32)), .retAddr 0, .int (xs (x3 + (2 : Int32)).toNatClampNeg), .int (xs (x3 + (1 : Int32)).toNatClampNeg), .ref x2, .int o103.2], o103.1, 2202, 110072)) rfl ?_
                    by_cases c109 : (x3 + (3 : Int32)) < 0 ∨ L ≤ (x3 + (3 : Int32)).toNatClampNeg
                    · rw [if_pos c109] at hq; cases hq
                    rw [if_neg c109] at hq
                    refine mL_ld odL_law rfl c109 ?_
                    obtain ⟨f112, k113, hq⟩ := bsm hq
                    obtain ⟨o110, e111, hq⟩ := bsm hq
                    refine mB_V (as := [.int (xs (x3 + (1 : Int32)).toNatClampNeg), .int (xs (x3 + (2 : Int32)).toNatClampNeg), .int (xs (x3 + (3 : Int32)).toNatClampNeg)]) odL_law okX7_edge lk_12_45 rfl (exX7_edge e111) (kO_at k113) rfl rfl rfl ?_
                    show mB _ mL_law (436, [(0, .retAddr 0), (1, .ref x1), (2, .ref x2), (3, .int x3)], [.int o110.2, .int o103.2], o110.1, 2202, 110072)
                    by_cases c114 : o103.2 = o110.2
                    · rw [if_pos c114] at hq
                      refine ic_eq_T (t := 1064) odL_law rfl rfl c114 ?_
                      refine mB_lv [0, 1, 2, 3] (lv' := [(0, .retAddr 0), (1, .ref x1), (2, .ref x2), (3, .int x3)]) rfl ?_
                      exact exL_law_1064 ih _ _ _ _ hq
                    · rw [if_neg c114] at hq
                      refine ic_eq_F (t := 1064) odL_law rfl rfl c114 ?_
                      refine mB_run odL_law 1 (g := (440, [(0, .retAddr 0), (1, .ref x1), (2, .ref x2), (3, .int x3)], [.int (0 : Int32)], o110.1, 2202, 110072)) rfl ?_
                      cases hq
                  · rw [if_neg c99] at hq
                    by_cases c115 : ((xs x3.toNatClampNeg) &&& (31 : Int32)) = (7 : Int32)
                    · rw [if_pos c115] at hq
                      refine r_tab odL_law rfl c115 (t := 441) rfl ?_
                      refine mB_run odL_law 5 (g := (446, [(0, .retAddr 0), (1, .ref x1), (2, .ref x2), (3, .int x3)], [.int (x3 + (1 : Int32)), .retAddr 0, .ref x1], h, 2202, 110072)) rfl ?_
                      by_cases c116 : (x3 + (1 : Int32)) < 0 ∨ L ≤ (x3 + (1 : Int32)).toNatClampNeg
                      · rw [if_pos c116] at hq; cases hq
                      rw [if_neg c116] at hq
                      refine mL_ld odL_law rfl c116 ?_
                      refine mB_run odL_law 4 (g := (451, [(0, .retAddr 0), (1, .ref x1), (2, .ref x2), (3, .int x3)], [.int (x3 + (2 : Int32)), .retAddr 0, .int (xs (x3 + (1 : Int32)).toNatClampNeg), .ref x1], h, 2202, 110072)) rfl ?_
                      by_cases c117 : (x3 + (2 : Int32)) < 0 ∨ L ≤ (x3 + (2 : Int32)).toNatClampNeg
                      · rw [if_pos c117] at hq; cases hq
                      rw [if_neg c117] at hq
                      refine mL_ld odL_law rfl c117 ?_
                      refine mB_run odL_law 4 (g := (456, [(0, .retAddr 0), (1, .ref x1), (2, .ref x2), (3, .int x3)], [.int (x3 + (3 : Int32)), .retAddr 0, .int (xs (x3 + (2 : Int32)).toNatClampNeg), .int (xs (x3 + (1 : Int32)).toNatClampNeg), .ref x1], h, 2202, 110072)) rfl ?_
                      by_cases c118 : (x3 + (3 : Int32)) < 0 ∨ L ≤ (x3 + (3 : Int32)).toNatClampNeg
                      · rw [if_pos c118] at hq; cases hq
                      rw [if_neg c118] at hq
                      refine mL_ld odL_law rfl c118 ?_
                      obtain ⟨f121, k122, hq⟩ := bsm hq
                      obtain ⟨o119, e120, hq⟩ := bsm hq
                      refine mB_V (as := [.int (xs (x3 + (1 : Int32)).toNatClampNeg), .int (xs (x3 + (2 : Int32)).toNatClampNeg), .int (xs (x3 + (3 : Int32)).toNatClampNeg)]) odL_law okX6_face lk_12_46 rfl (exX6_face e120) (kO_at k122) rfl rfl rfl ?_
                      show mB _ mL_law (460, [(0, .retAddr 0), (1, .ref x1), (2, .ref x2), (3, .int x3)], [.long o119.2], o119.1, 2202, 110072)
                      refine mB_run odL_law 5 (g := (465, [(0, .retAddr 0), (1, .ref x1), (2, .ref x2), (3, .int x3)], [.int (x3 + (1 : Int32)), .retAddr 0, .ref x2, .long o119.2], o119.1, 2202, 110072)) rfl ?_
                      by_cases c123 : (x3 + (1 : Int32)) < 0 ∨ L ≤ (x3 + (1 : Int32)).toNatClampNeg
                      · rw [if_pos c123] at hq; cases hq
                      rw [if_neg c123] at hq
                      refine mL_ld odL_law rfl c123 ?_
                      refine mB_run odL_law 4 (g := (470, [(0, .retAddr 0), (1, .ref x1), (2, .ref x2), (3, .int x3)], [.int (x3 + (2 : Int32)), .retAddr 0, .int (xs (x3 + (1 : Int32)).toNatClampNeg), .ref x2, .long o119.2], o119.1, 2202, 110072)) rfl ?_
                      by_cases c124 : (x3 + (2 : Int32)) < 0 ∨ L ≤ (x3 + (2 : Int32)).toNatClampNeg
                      · rw [if_pos c124] at hq; cases hq
                      rw [if_neg c124] at hq
                      refine mL_ld odL_law rfl c124 ?_
                      refine mB_run odL_law 4 (g := (475, [(0, .retAddr 0), (1, .ref x1), (2, .ref x2), (3, .int x3)], [.int (x3 + (3 : Int32)), .retAddr 0, .int (xs (x3 + (2 : Int32)).toNatClampNeg), .int (xs (x3 + (1 : Int32)).toNatClampNeg), .ref x2, .long o119.2], o119.1, 2202, 110072)) rfl ?_
                      by_cases c125 : (x3 + (3 : Int32)) < 0 ∨ L ≤ (x3 + (3 : Int32)).toNatClampNeg
                      · rw [if_pos c125] at hq; cases hq
                      rw [if_neg c125] at hq
                      refine mL_ld odL_law rfl c125 ?_
                      obtain ⟨f128, k129, hq⟩ := bsm hq
                      obtain ⟨o126, e127, hq⟩ := bsm hq
                      refine mB_V (as := [.int (xs (x3 + (1 : Int32)).toNatClampNeg), .int (xs (x3 + (2 : Int32)).toNatClampNeg), .int (xs (x3 + (3 : Int32)).toNatClampNeg)]) odL_law okX7_face lk_12_50 rfl (exX7_face e127) (kO_at k129) rfl rfl rfl ?_
                      show mB _ mL_law (479, [(0, .retAddr 0), (1, .ref x1), (2, .ref x2), (3, .int x3)], [.long o126.2, .long o119.2], o126.1, 2202, 110072)
                      by_cases c130 : o119.2 = o126.2
                      · rw [if_pos c130] at hq
                        refine lc_eq_T (t := 1064) odL_law rfl rfl rfl c130 ?_
                        refine mB_lv [0, 1, 2, 3] (lv' := [(0, .retAddr 0), (1, .ref x1), (2, .ref x2), (3, .int x3)]) rfl ?_
                        exact exL_law_1064 ih _ _ _ _ hq
                      · rw [if_neg c130] at hq
                        refine lc_eq_F (t := 1064) odL_law rfl rfl rfl c130 ?_
                        refine mB_run odL_law 1 (g := (484, [(0, .retAddr 0), (1, .ref x1), (2, .ref x2), (3, .int x3)], [.int (0 : Int32)], o126.1, 2202, 110072)) rfl ?_
                        cases hq
                    · rw [if_neg c115] at hq
                      by_cases c131 : ((xs x3.toNatClampNeg) &&& (31 : Int32)) = (8 : Int32)
                      · rw [if_pos c131] at hq
                        refine r_tab odL_law rfl c131 (t := 485) rfl ?_
                        refine mB_run odL_law 5 (g := (490, [(0, .retAddr 0), (1, .ref x1), (2, .ref x2), (3, .int x3)], [.int (x3 + (1 : Int32)), .retAddr 0, .ref x1], h, 2202, 110072)) rfl ?_
                        by_cases c132 : (x3 + (1 : Int32)) < 0 ∨ L ≤ (x3 + (1 : Int32)).toNatClampNeg
                        · rw [if_pos c132] at hq; cases hq
                        rw [if_neg c132] at hq
                        refine mL_ld odL_law rfl c132 ?_
                        refine mB_run odL_law 4 (g := (495, [(0, .retAddr 0), (1, .ref x1), (2, .ref x2), (3, .int x3)], [.int (x3 + (2 : Int32)), .retAddr 0, .int (xs (x3 + (1 : Int32)).toNatClampNeg), .ref x1], h, 2202, 110072)) rfl ?_
                        by_cases c133 : (x3 + (2 : Int32)) < 0 ∨ L ≤ (x3 + (2 : Int32)).toNatClampNeg
                        · rw [if_pos c133] at hq; cases hq
                        rw [if_neg c133] at hq
                        refine mL_ld odL_law rfl c133 ?_
                        refine mB_run odL_law 4 (g := (500, [(0, .retAddr 0), (1, .ref x1), (2, .ref x2), (3, .int x3)], [.int (x3 + (3 : Int32)), .retAddr 0, .int (xs (x3 + (2 : Int32)).toNatClampNeg), .int (xs (x3 + (1 : Int32)).toNatClampNeg), .ref x1], h, 2202, 110072)) rfl ?_
                        by_cases c134 : (x3 + (3 : Int32)) < 0 ∨ L ≤ (x3 + (3 : Int32)).toNatClampNeg
                        · rw [if_pos c134] at hq; cases hq
                        rw [if_neg c134] at hq
                        refine mL_ld odL_law rfl c134 ?_
                        refine mB_run odL_law 4 (g := (505, [(0, .retAddr 0), (1, .ref x1), (2, .ref x2), (3, .int x3)], [.int (x3 + (4 : Int32)), .retAddr 0, .int (xs (x3 + (3 : Int32)).toNatClampNeg), .int (xs (x3 + (2 : Int32)).toNatClampNeg), .int (xs (x3 + (1 : Int32)).toNatClampNeg), .ref x1], h, 2202, 110072)) rfl ?_
                        by_cases c135 : (x3 + (4 : Int32)) < 0 ∨ L ≤ (x3 + (4 : Int32)).toNatClampNeg
                        · rw [if_pos c135] at hq; cases hq
                        rw [if_neg c135] at hq
                        refine mL_ld odL_law rfl c135 ?_
                        refine mB_run odL_law 4 (g := (510, [(0, .retAddr 0), (1, .ref x1), (2, .ref x2), (3, .int x3)], [.int (x3 + (5 : Int32)), .retAddr 0, .int (xs (x3 + (4 : Int32)).toNatClampNeg), .int (xs (x3 + (3 : Int32)).toNatClampNeg), .int (xs (x3 + (2 : Int32)).toNatClampNeg), .int (xs (x3 + (1 : Int32)).toNatClampNeg), .ref x1], h, 2202, 110072)) rfl ?_
                        by_cases c136 : (x3 + (5 : Int32)) < 0 ∨ L ≤ (x3 + (5 : Int32)).toNatClampNeg
                        · rw [if_pos c136] at hq; cases hq
                        rw [if_neg c136] at hq
                        refine mL_ld odL_law rfl c136 ?_
                        obtain ⟨f139, k140, hq⟩ := bsm hq
                        obtain ⟨o137, e138, hq⟩ := bsm hq
                        refine mB_V (as := [.int (xs (x3 + (1 : Int32)).toNatClampNeg), .int (xs (x3 + (2 : Int32)).toNatClampNeg), .int (xs (x3 + (3 : Int32)).toNatClampNeg), .int (xs (x3 + (4 : Int32)).toNatClampNeg), .int (xs (x3 + (5 : Int32)).toNatClampNeg)]) odL_law okX6_in lk_12_51 rfl (exX6_in e138) (kO_at k140) rfl rfl rfl ?_
                        show mB _ mL_law (514, [(0, .retAddr 0), (1, .ref x1), (2, .ref x2), (3, .int x3)], [.int o137.2], o137.1, 2202, 110072)
                        refine mB_run odL_law 5 (g := (519, [(0, .retAddr 0), (1, .ref x1), (2, .ref x2), (3, .int x3)], [.int (x3 + (1 : Int32)), .retAddr 0, .ref x2, .int o137.2], o137.1, 2202, 110072)) rfl ?_
                        by_cases c141 : (x3 + (1 : Int32)) < 0 ∨ L ≤ (x3 + (1 : Int32)).toNatClampNeg
                        · rw [if_pos c141] at hq; cases hq
                        rw [if_neg c141] at hq
                        refine mL_ld odL_law rfl c141 ?_
                        refine mB_run odL_law 4 (g := (524, [(0, .retAddr 0), (1, .ref x1), (2, .ref x2), (3, .int x3)], [.int (x3 + (2 : Int32)), .retAddr 0, .int (xs (x3 + (1 : Int32)).toNatClampNeg), .ref x2, .int o137.2], o137.1, 2202, 110072)) rfl ?_
                        by_cases c142 : (x3 + (2 : Int32)) < 0 ∨ L ≤ (x3 + (2 : Int32)).toNatClampNeg
                        · rw [if_pos c142] at hq; cases hq
                        rw [if_neg c142] at hq
                        refine mL_ld odL_law rfl c142 ?_
                        refine mB_run odL_law 4 (g := (529, [(0, .retAddr 0), (1, .ref x1), (2, .ref x2), (3, .int x3)], [.int (x3 + (3 : Int32)), .retAddr 0, .int (xs (x3 + (2 : Int32)).toNatClampNeg), .int (xs (x3 + (1 : Int32)).toNatClampNeg), .ref x2, .int o137.2], o137.1, 2202, 110072)) rfl ?_
                        by_cases c143 : (x3 + (3 : Int32)) < 0 ∨ L ≤ (x3 + (3 : Int32)).toNatClampNeg
                        · rw [if_pos c143] at hq; cases hq
                        rw [if_neg c143] at hq
                        refine mL_ld odL_law rfl c143 ?_
                        refine mB_run odL_law 4 (g := (534, [(0, .retAddr 0), (1, .ref x1), (2, .ref x2), (3, .int x3)], [.int (x3 + (4 : Int32)), .retAddr 0, .int (xs (x3 + (3 : Int32)).toNatClampNeg), .int (xs (x3 + (2 : Int32)).toNatClampNeg), .int (xs (x3 + (1 : Int32)).toNatClampNeg), .ref x2, .int o137.2], o137.1, 2202, 110072)) rfl ?_
                        by_cases c144 : (x3 + (4 : Int32)) < 0 ∨ L ≤ (x3 + (4 : Int32)).toNatClampNeg
                        · rw [if_pos c144] at hq; cases hq
                        rw [if_neg c144] at hq
                        refine mL_ld odL_law rfl c144 ?_
                        refine mB_run odL_law 4 (g := (539, [(0, .retAddr 0), (1, .ref x1), (2, .ref x2), (3, .int x3)], [.int (x3 + (5 : Int32)), .retAddr 0, .int (xs (x3 + (4 : Int32)).toNatClampNeg), .int (xs (x3 + (3 : Int32)).toNatClampNeg), .int (xs (x3 + (2 : Int32)).toNatClampNeg), .int (xs (x3 + (1 : Int32)).toNatClampNeg), .ref x2, .int o137.2], o137.1, 2202, 110072)) rfl ?_
                        by_cases c145 : (x3 + (5 : Int32)) < 0 ∨ L ≤ (x3 + (5 : Int32)).toNatClampNeg
                        · rw [if_pos c145] at hq; cases hq
                        rw [if_neg c145] at hq
                        refine mL_ld odL_law rfl c145 ?_
                        obtain ⟨f148, k149, hq⟩ := bsm hq
                        obtain ⟨o146, e147, hq⟩ := bsm hq
                        refine mB_V (as := [.int (xs (x3 + (1 : Int32)).toNatClampNeg), .int (xs (x3 + (2 : Int32)).toNatClampNeg), .int (xs (x3 + (3 : Int32)).toNatClampNeg), .int (xs (x3 + (4 : Int32)).toNatClampNeg), .int (xs (x3 + (5 : Int32)).toNatClampNeg)]) odL_law okX7_in lk_12_55 rfl (exX7_in e147) (kO_at k149) rfl rfl rfl ?_
                        show mB _ mL_law (543, [(0, .retAddr 0), (1, .ref x1), (2, .ref x2), (3, .int x3)], [.int o146.2, .int o137.2], o146.1, 2202, 110072)
                        by_cases c150 : o137.2 = o146.2
                        · rw [if_pos c150] at hq
                          refine ic_eq_T (t := 1064) odL_law rfl rfl c150 ?_
                          refine mB_lv [0, 1, 2, 3] (lv' := [(0, .retAddr 0), (1, .ref x1), (2, .ref x2), (3, .int x3)]) rfl ?_
                          exact exL_law_1064 ih _ _ _ _ hq
                        · rw [if_neg c150] at hq
                          refine ic_eq_F (t := 1064) odL_law rfl rfl c150 ?_
                          refine mB_run odL_law 1 (g := (547, [(0, .retAddr 0), (1, .ref x1), (2, .ref x2), (3, .int x3)], [.int (0 : Int32)], o146.1, 2202, 110072)) rfl ?_
                          cases hq
                      · rw [if_neg c131] at hq
                        by_cases c151 : ((xs x3.toNatClampNeg) &&& (31 : Int32)) = (9 : Int32)
                        · rw [if_pos c151] at hq
                          refine r_tab odL_law rfl c151 (t := 548) rfl ?_
                          refine mB_run odL_law 5 (g := (553, [(0, .retAddr 0), (1, .ref x1), (2, .ref x2), (3, .int x3)], [.int (x3 + (1 : Int32)), .retAddr 0, .ref x1], h, 2202, 110072)) rfl ?_
                          by_cases c152 : (x3 + (1 : Int32)) < 0 ∨ L ≤ (x3 + (1 : Int32)).toNatClampNeg
                          · rw [if_pos c152] at hq; cases hq
                          rw [if_neg c152] at hq
                          refine mL_ld odL_law rfl c152 ?_
                          refine mB_run odL_law 4 (g := (558, [(0, .retAddr 0), (1, .ref x1), (2, .ref x2), (3, .int x3)], [.int (x3 + (2 : Int32)), .retAddr 0, .int (xs (x3 + (1 : Int32)).toNatClampNeg), .ref x1], h, 2202, 110072)) rfl ?_
                          by_cases c153 : (x3 + (2 : Int32)) < 0 ∨ L ≤ (x3 + (2 : Int32)).toNatClampNeg
                          · rw [if_pos c153] at hq; cases hq
                          rw [if_neg c153] at hq
                          refine mL_ld odL_law rfl c153 ?_
                          refine mB_run odL_law 4 (g := (563, [(0, .retAddr 0), (1, .ref x1), (2, .ref x2), (3, .int x3)], [.int (x3 + (3 : Int32)), .retAddr 0, .int (xs (x3 + (2 : Int32)).toNatClampNeg), .int (xs (x3 + (1 : Int32)).toNatClampNeg), .ref x1], h, 2202, 110072)) rfl ?_
                          by_cases c154 : (x3 + (3 : Int32)) < 0 ∨ L ≤ (x3 + (3 : Int32)).toNatClampNeg
                          · rw [if_pos c154] at hq; cases hq
                          rw [if_neg c154] at hq
                          refine mL_ld odL_law rfl c154 ?_
                          refine mB_run odL_law 4 (g := (568, [(0, .retAddr 0), (1, .ref x1), (2, .ref x2), (3, .int x3)], [.int (x3 + (4 : Int32)), .retAddr 0, .int (xs (x3 + (3 : Int32)).toNatClampNeg), .int (xs (x3 + (2 : Int32)).toNatClampNeg), .int (xs (x3 + (1 : Int32)).toNatClampNeg), .ref x1], h, 2202, 110072)) rfl ?_
                          by_cases c155 : (x3 + (4 : Int32)) < 0 ∨ L ≤ (x3 + (4 : Int32)).toNatClampNeg
                          · rw [if_pos c155] at hq; cases hq
                          rw [if_neg c155] at hq
                          refine mL_ld odL_law rfl c155 ?_
                          refine mB_run odL_law 4 (g := (573, [(0, .retAddr 0), (1, .ref x1), (2, .ref x2), (3, .int x3)], [.int (x3 + (5 : Int32)), .retAddr 0, .int (xs (x3 + (4 : Int32)).toNatClampNeg), .int (xs (x3 + (3 : Int32)).toNatClampNeg), .int (xs (x3 + (2 : Int32)).toNatClampNeg), .int (xs (x3 + (1 : Int32)).toNatClampNeg), .ref x1], h, 2202, 110072)) rfl ?_
                          by_cases c156 : (x3 + (5 : Int32)) < 0 ∨ L ≤ (x3 + (5 : Int32)).toNatClampNeg
                          · rw [if_pos c156] at hq; cases hq
                          rw [if_neg c156] at hq
                          refine mL_ld odL_law rfl c156 ?_
                          obtain ⟨f159, k160, hq⟩ := bsm hq
                          obtain ⟨o157, e158, hq⟩ := bsm hq
                          refine mB_V (as := [.int (xs (x3 + (1 : Int32)).toNatClampNeg), .int (xs (x3 + (2 : Int32)).toNatClampNeg), .int (xs (x3 + (3 : Int32)).toNatClampNeg), .int (xs (x3 + (4 : Int32)).toNatClampNeg), .int (xs (x3 + (5 : Int32)).toNatClampNeg)]) odL_law okX6_side lk_12_56 rfl (exX6_side e158) (kO_at k160) rfl rfl rfl ?_
                          show mB _ mL_law (577, [(0, .retAddr 0), (1, .ref x1), (2, .ref x2), (3, .int x3)], [.int o157.2], o157.1, 2202, 110072)
                          refine mB_run odL_law 5 (g := (582, [(0, .retAddr 0), (1, .ref x1), (2, .ref x2), (3, .int x3)], [.int (x3 + (1 : Int32)), .retAddr 0, .ref x2, .int o157.2], o157.1, 2202, 110072)) rfl ?_
                          by_cases c161 : (x3 + (1 : Int32)) < 0 ∨ L ≤ (x3 + (1 : Int32)).toNatClampNeg
                          · rw [if_pos c161] at hq; cases hq
                          rw [if_neg c161] at hq
                          refine mL_ld odL_law rfl c161 ?_
                          refine mB_run odL_law 4 (g := (587, [(0, .retAddr 0), (1, .ref x1), (2, .ref x2), (3, .int x3)], [.int (x3 + (2 : Int32)), .retAddr 0, .int (xs (x3 + (1 : Int32)).toNatClampNeg), .ref x2, .int o157.2], o157.1, 2202, 110072)) rfl ?_
                          by_cases c162 : (x3 + (2 : Int32)) < 0 ∨ L ≤ (x3 + (2 : Int32)).toNatClampNeg
                          · rw [if_pos c162] at hq; cases hq
                          rw [if_neg c162] at hq
                          refine mL_ld odL_law rfl c162 ?_
                          refine mB_run odL_law 4 (g := (592, [(0, .retAddr 0), (1, .ref x1), (2, .ref x2), (3, .int x3)], [.int (x3 + (3 : Int32)), .retAddr 0, .int (xs (x3 + (2 : Int32)).toNatClampNeg), .int (xs (x3 + (1 : Int32)).toNatClampNeg), .ref x2, .int o157.2], o157.1, 2202, 110072)) rfl ?_
                          by_cases c163 : (x3 + (3 : Int32)) < 0 ∨ L ≤ (x3 + (3 : Int32)).toNatClampNeg
                          · rw [if_pos c163] at hq; cases hq
                          rw [if_neg c163] at hq
                          refine mL_ld odL_law rfl c163 ?_
                          refine mB_run odL_law 4 (g := (597, [(0, .retAddr 0), (1, .ref x1), (2, .ref x2), (3, .int x3)], [.int (x3 + (4 : Int32)), .retAddr 0, .int (xs (x3 + (3 : Int32)).toNatClampNeg), .int (xs (x3 + (2 : Int32)).toNatClampNeg), .int (xs (x3 + (1 : Int32)).toNatClampNeg), .ref x2, .int o157.2], o157.1, 2202, 110072)) rfl ?_
                          by_cases c164 : (x3 + (4 : Int32)) < 0 ∨ L ≤ (x3 + (4 : Int32)).toNatClampNeg
                          · rw [if_pos c164] at hq; cases hq
                          rw [if_neg c164] at hq
                          refine mL_ld odL_law rfl c164 ?_
                          refine mB_run odL_law 4 (g := (602, [(0, .retAddr 0), (1, .ref x1), (2, .ref x2), (3, .int x3)], [.int (x3 + (5 : Int32)), .retAddr 0, .int (xs (x3 + (4 : Int32)).toNatClampNeg), .int (xs (x3 + (3 : Int32)).toNatClampNeg), .int (xs (x3 + (2 : Int32)).toNatClampNeg), .int (xs (x3 + (1 : Int32)).toNatClampNeg), .ref x2, .int o157.2], o157.1, 2202, 110072)) rfl ?_
                          by_cases c165 : (x3 + (5 : Int32)) < 0 ∨ L ≤ (x3 + (5 : Int32)).toNatClampNeg
                          · rw [if_pos c165] at hq; cases hq
                          rw [if_neg c165] at hq
                          refine mL_ld odL_law rfl c165 ?_
                          obtain ⟨f168, k169, hq⟩ := bsm hq
                          obtain ⟨o166, e167, hq⟩ := bsm hq
                          refine mB_V (as := [.int (xs (x3 + (1 : Int32)).toNatClampNeg), .int (xs (x3 + (2 : Int32)).toNatClampNeg), .int (xs (x3 + (3 : Int32)).toNatClampNeg), .int (xs (x3 + (4 : Int32)).toNatClampNeg), .int (xs (x3 + (5 : Int32)).toNatClampNeg)]) odL_law okX7_side lk_12_59 rfl (exX7_side e167) (kO_at k169) rfl rfl rfl ?_
                          show mB _ mL_law (606, [(0, .retAddr 0), (1, .ref x1), (2, .ref x2), (3, .int x3)], [.int o166.2, .int o157.2], o166.1, 2202, 110072)
                          by_cases c170 : o157.2 = o166.2
                          · rw [if_pos c170] at hq
                            refine ic_eq_T (t := 1064) odL_law rfl rfl c170 ?_
                            refine mB_lv [0, 1, 2, 3] (lv' := [(0, .retAddr 0), (1, .ref x1), (2, .ref x2), (3, .int x3)]) rfl ?_
                            exact exL_law_1064 ih _ _ _ _ hq
                          · rw [if_neg c170] at hq
                            refine ic_eq_F (t := 1064) odL_law rfl rfl c170 ?_
                            refine mB_run odL_law 1 (g := (610, [(0, .retAddr 0), (1, .ref x1), (2, .ref x2), (3, .int x3)], [.int (0 : Int32)], o166.1, 2202, 110072)) rfl ?_
                            cases hq
                        · rw [if_neg c151] at hq
                          by_cases c171 : ((xs x3.toNatClampNeg) &&& (31 : Int32)) = (10 : Int32)
                          · rw [if_pos c171] at hq
                            refine r_tab odL_law rfl c171 (t := 611) rfl ?_
                            refine mB_run odL_law 5 (g := (616, [(0, .retAddr 0), (1, .ref x1), (2, .ref x2), (3, .int x3)], [.int (x3 + (1 : Int32)), .retAddr 0, .ref x1], h, 2202, 110072)) rfl ?_
                            by_cases c172 : (x3 + (1 : Int32)) < 0 ∨ L ≤ (x3 + (1 : Int32)).toNatClampNeg
                            · rw [if_pos c172] at hq; cases hq
                            rw [if_neg c172] at hq
                            refine mL_ld odL_law rfl c172 ?_
                            obtain ⟨f175, k176, hq⟩ := bsm hq
                            obtain ⟨o173, e174, hq⟩ := bsm hq
                            refine mB_V (as := [.int (xs (x3 + (1 : Int32)).toNatClampNeg)]) odL_law okX6_volume lk_12_60 rfl (exX6_volume e174) (kO_at k176) rfl rfl rfl ?_
                            show mB _ mL_law (620, [(0, .retAddr 0), (1, .ref x1), (2, .ref x2), (3, .int x3)], [.long o173.2], o173.1, 2202, 110072)
                            refine mB_run odL_law 5 (g := (625, [(0, .retAddr 0), (1, .ref x1), (2, .ref x2), (3, .int x3)], [.int (x3 + (1 : Int32)), .retAddr 0, .ref x2, .long o173.2], o173.1, 2202, 110072)) rfl ?_
                            by_cases c177 : (x3 + (1 : Int32)) < 0 ∨ L ≤ (x3 + (1 : Int32)).toNatClampNeg
                            · rw [if_pos c177] at hq; cases hq
                            rw [if_neg c177] at hq
                            refine mL_ld odL_law rfl c177 ?_
                            obtain ⟨f180, k181, hq⟩ := bsm hq
                            obtain ⟨o178, e179, hq⟩ := bsm hq
                            refine mB_V (as := [.int (xs (x3 + (1 : Int32)).toNatClampNeg)]) odL_law okX7_volume lk_12_64 rfl (exX7_volume e179) (kO_at k181) rfl rfl rfl ?_
                            show mB _ mL_law (629, [(0, .retAddr 0), (1, .ref x1), (2, .ref x2), (3, .int x3)], [.long o178.2, .long o173.2], o178.1, 2202, 110072)
                            by_cases c182 : o173.2 = o178.2
                            · rw [if_pos c182] at hq
                              refine lc_eq_T (t := 1064) odL_law rfl rfl rfl c182 ?_
                              refine mB_lv [0, 1, 2, 3] (lv' := [(0, .retAddr 0), (1, .ref x1), (2, .ref x2), (3, .int x3)]) rfl ?_
                              exact exL_law_1064 ih _ _ _ _ hq
                            · rw [if_neg c182] at hq
                              refine lc_eq_F (t := 1064) odL_law rfl rfl rfl c182 ?_
                              refine mB_run odL_law 1 (g := (634, [(0, .retAddr 0), (1, .ref x1), (2, .ref x2), (3, .int x3)], [.int (0 : Int32)], o178.1, 2202, 110072)) rfl ?_
                              cases hq
                          · rw [if_neg c171] at hq
                            by_cases c183 : ((xs x3.toNatClampNeg) &&& (31 : Int32)) = (11 : Int32)
                            · rw [if_pos c183] at hq
                              refine r_tab odL_law rfl c183 (t := 635) rfl ?_
                              refine mB_run odL_law 5 (g := (640, [(0, .retAddr 0), (1, .ref x1), (2, .ref x2), (3, .int x3)], [.int (x3 + (1 : Int32)), .retAddr 0, .ref x1], h, 2202, 110072)) rfl ?_
                              by_cases c184 : (x3 + (1 : Int32)) < 0 ∨ L ≤ (x3 + (1 : Int32)).toNatClampNeg
                              · rw [if_pos c184] at hq; cases hq
                              rw [if_neg c184] at hq
                              refine mL_ld odL_law rfl c184 ?_
                              refine mB_run odL_law 4 (g := (645, [(0, .retAddr 0), (1, .ref x1), (2, .ref x2), (3, .int x3)], [.int (x3 + (2 : Int32)), .retAddr 0, .int (xs (x3 + (1 : Int32)).toNatClampNeg), .ref x1], h, 2202, 110072)) rfl ?_
                              by_cases c185 : (x3 + (2 : Int32)) < 0 ∨ L ≤ (x3 + (2 : Int32)).toNatClampNeg
                              · rw [if_pos c185] at hq; cases hq
                              rw [if_neg c185] at hq
                              refine mL_ld odL_law rfl c185 ?_
                              refine mB_run odL_law 4 (g := (650, [(0, .retAddr 0), (1, .ref x1), (2, .ref x2), (3, .int x3)], [.int (x3 + (3 : Int32)), .retAddr 0, .int (xs (x3 + (2 : Int32)).toNatClampNeg), .int (xs (x3 + (1 : Int32)).toNatClampNeg), .ref x1], h, 2202, 110072)) rfl ?_
                              by_cases c186 : (x3 + (3 : Int32)) < 0 ∨ L ≤ (x3 + (3 : Int32)).toNatClampNeg
                              · rw [if_pos c186] at hq; cases hq
                              rw [if_neg c186] at hq
                              refine mL_ld odL_law rfl c186 ?_
                              obtain ⟨f189, k190, hq⟩ := bsm hq
                              obtain ⟨o187, e188, hq⟩ := bsm hq
                              refine mB_V (as := [.int (xs (x3 + (1 : Int32)).toNatClampNeg), .int (xs (x3 + (2 : Int32)).toNatClampNeg), .int (xs (x3 + (3 : Int32)).toNatClampNeg)]) odL_law okX6_middle lk_12_65 rfl (exX6_middle e188) (kO_at k190) rfl rfl rfl ?_
                              show mB _ mL_law (654, [(0, .retAddr 0), (1, .ref x1), (2, .ref x2), (3, .int x3)], [.long o187.2], o187.1, 2202, 110072)
                              refine mB_run odL_law 5 (g := (659, [(0, .retAddr 0), (1, .ref x1), (2, .ref x2), (3, .int x3)], [.int (x3 + (1 : Int32)), .retAddr 0, .ref x2, .long o187.2], o187.1, 2202, 110072)) rfl ?_
                              by_cases c191 : (x3 + (1 : Int32)) < 0 ∨ L ≤ (x3 + (1 : Int32)).toNatClampNeg
                              · rw [if_pos c191] at hq; cases hq
                              rw [if_neg c191] at hq
                              refine mL_ld odL_law rfl c191 ?_
                              refine mB_run odL_law 4 (g := (664, [(0, .retAddr 0), (1, .ref x1), (2, .ref x2), (3, .int x3)], [.int (x3 + (2 : Int32)), .retAddr 0, .int (xs (x3 + (1 : Int32)).toNatClampNeg), .ref x2, .long o187.2], o187.1, 2202, 110072)) rfl ?_
                              by_cases c192 : (x3 + (2 : Int32)) < 0 ∨ L ≤ (x3 + (2 : Int32)).toNatClampNeg
                              · rw [if_pos c192] at hq; cases hq
                              rw [if_neg c192] at hq
                              refine mL_ld odL_law rfl c192 ?_
                              refine mB_run odL_law 4 (g := (669, [(0, .retAddr 0), (1, .ref x1), (2, .ref x2), (3, .int x3)], [.int (x3 + (3 : Int32)), .retAddr 0, .int (xs (x3 + (2 : Int32)).toNatClampNeg), .int (xs (x3 + (1 : Int32)).toNatClampNeg), .ref x2, .long o187.2], o187.1, 2202, 110072)) rfl ?_
                              by_cases c193 : (x3 + (3 : Int32)) < 0 ∨ L ≤ (x3 + (3 : Int32)).toNatClampNeg
                              · rw [if_pos c193] at hq; cases hq
                              rw [if_neg c193] at hq
                              refine mL_ld odL_law rfl c193 ?_
                              obtain ⟨f196, k197, hq⟩ := bsm hq
                              obtain ⟨o194, e195, hq⟩ := bsm hq
                              refine mB_V (as := [.int (xs (x3 + (1 : Int32)).toNatClampNeg), .int (xs (x3 + (2 : Int32)).toNatClampNeg), .int (xs (x3 + (3 : Int32)).toNatClampNeg)]) odL_law okX7_middle lk_12_68 rfl (exX7_middle e195) (kO_at k197) rfl rfl rfl ?_
                              show mB _ mL_law (673, [(0, .retAddr 0), (1, .ref x1), (2, .ref x2), (3, .int x3)], [.long o194.2, .long o187.2], o194.1, 2202, 110072)
                              by_cases c198 : o187.2 = o194.2
                              · rw [if_pos c198] at hq
                                refine lc_eq_T (t := 1064) odL_law rfl rfl rfl c198 ?_
                                refine mB_lv [0, 1, 2, 3] (lv' := [(0, .retAddr 0), (1, .ref x1), (2, .ref x2), (3, .int x3)]) rfl ?_
                                exact exL_law_1064 ih _ _ _ _ hq
                              · rw [if_neg c198] at hq
                                refine lc_eq_F (t := 1064) odL_law rfl rfl rfl c198 ?_
                                refine mB_run odL_law 1 (g := (678, [(0, .retAddr 0), (1, .ref x1), (2, .ref x2), (3, .int x3)], [.int (0 : Int32)], o194.1, 2202, 110072)) rfl ?_
                                cases hq
                            · rw [if_neg c183] at hq
                              by_cases c199 : ((xs x3.toNatClampNeg) &&& (31 : Int32)) = (12 : Int32)
                              · rw [if_pos c199] at hq
                                refine r_tab odL_law rfl c199 (t := 679) rfl ?_
                                refine mB_run odL_law 5 (g := (684, [(0, .retAddr 0), (1, .ref x1), (2, .ref x2), (3, .int x3)], [.int (x3 + (1 : Int32)), .retAddr 0, .ref x1], h, 2202, 110072)) rfl ?_
                                by_cases c200 : (x3 + (1 : Int32)) < 0 ∨ L ≤ (x3 + (1 : Int32)).toNatClampNeg
                                · rw [if_pos c200] at hq; cases hq
                                rw [if_neg c200] at hq
                                refine mL_ld odL_law rfl c200 ?_
                                refine mB_run odL_law 4 (g := (689, [(0, .retAddr 0), (1, .ref x1), (2, .ref x2), (3, .int x3)], [.int (x3 + (2 : Int32)), .retAddr 0, .int (xs (x3 + (1 : Int32)).toNatClampNeg), .ref x1], h, 2202, 110072)) rfl ?_
                                by_cases c201 : (x3 + (2 : Int32)) < 0 ∨ L ≤ (x3 + (2 : Int32)).toNatClampNeg
                                · rw [if_pos c201] at hq; cases hq
                                rw [if_neg c201] at hq
                                refine mL_ld odL_law rfl c201 ?_
                                obtain ⟨f204, k205, hq⟩ := bsm hq
                                obtain ⟨o202, e203, hq⟩ := bsm hq
                                refine mB_V (as := [.int (xs (x3 + (1 : Int32)).toNatClampNeg), .int (xs (x3 + (2 : Int32)).toNatClampNeg)]) odL_law okX6_far lk_12_69 rfl (exX6_far e203) (kO_at k205) rfl rfl rfl ?_
                                show mB _ mL_law (693, [(0, .retAddr 0), (1, .ref x1), (2, .ref x2), (3, .int x3)], [.int o202.2], o202.1, 2202, 110072)
                                refine mB_run odL_law 5 (g := (698, [(0, .retAddr 0), (1, .ref x1), (2, .ref x2), (3, .int x3)], [.int (x3 + (1 : Int32)), .retAddr 0, .ref x2, .int o202.2], o202.1, 2202, 110072)) rfl ?_
                                by_cases c206 : (x3 + (1 : Int32)) < 0 ∨ L ≤ (x3 + (1 : Int32)).toNatClampNeg
                                · rw [if_pos c206] at hq; cases hq
                                rw [if_neg c206] at hq
                                refine mL_ld odL_law rfl c206 ?_
                                refine mB_run odL_law 4 (g := (703, [(0, .retAddr 0), (1, .ref x1), (2, .ref x2), (3, .int x3)], [.int (x3 + (2 : Int32)), .retAddr 0, .int (xs (x3 + (1 : Int32)).toNatClampNeg), .ref x2, .int o202.2], o202.1, 2202, 110072)) rfl ?_
                                by_cases c207 : (x3 + (2 : Int32)) < 0 ∨ L ≤ (x3 + (2 : Int32)).toNatClampNeg
                                · rw [if_pos c207] at hq; cases hq
                                rw [if_neg c207] at hq
                                refine mL_ld odL_law rfl c207 ?_
                                obtain ⟨f210, k211, hq⟩ := bsm hq
                                obtain ⟨o208, e209, hq⟩ := bsm hq
                                refine mB_V (as := [.int (xs (x3 + (1 : Int32)).toNatClampNeg), .int (xs (x3 + (2 : Int32)).toNatClampNeg)]) odL_law okX7_far lk_12_72 rfl (exX7_far e209) (kO_at k211) rfl rfl rfl ?_
                                show mB _ mL_law (707, [(0, .retAddr 0), (1, .ref x1), (2, .ref x2), (3, .int x3)], [.int o208.2, .int o202.2], o208.1, 2202, 110072)
                                by_cases c212 : o202.2 = o208.2
                                · rw [if_pos c212] at hq
                                  refine ic_eq_T (t := 1064) odL_law rfl rfl c212 ?_
                                  refine mB_lv [0, 1, 2, 3] (lv' := [(0, .retAddr 0), (1, .ref x1), (2, .ref x2), (3, .int x3)]) rfl ?_
                                  exact exL_law_1064 ih _ _ _ _ hq
                                · rw [if_neg c212] at hq
                                  refine ic_eq_F (t := 1064) odL_law rfl rfl c212 ?_
                                  refine mB_run odL_law 1 (g := (711, [(0, .retAddr 0), (1, .ref x1), (2, .ref x2), (3, .int x3)], [.int (0 : Int32)], o208.1, 2202, 110072)) rfl ?_
                                  cases hq
                              · rw [if_neg c199] at hq
                                by_cases c213 : ((xs x3.toNatClampNeg) &&& (31 : Int32)) = (13 : Int32)
                                · rw [if_pos c213] at hq
                                  refine r_tab odL_law rfl c213 (t := 712) rfl ?_
                                  refine mB_run odL_law 5 (g := (717, [(0, .retAddr 0), (1, .ref x1), (2, .ref x2), (3, .int x3)], [.int (x3 + (1 : Int32)), .retAddr 0, .ref x1], h, 2202, 110072)) rfl ?_
                                  by_cases c214 : (x3 + (1 : Int32)) < 0 ∨ L ≤ (x3 + (1 : Int32)).toNatClampNeg
                                  · rw [if_pos c214] at hq; cases hq
                                  rw [if_neg c214] at hq
                                  refine mL_ld odL_law rfl c214 ?_
                                  refine mB_run odL_law 4 (g := (722, [(0, .retAddr 0), (1, .ref x1), (2, .ref x2), (3, .int x3)], [.int (x3 + (2 : Int32)), .retAddr 0, .int (xs (x3 + (1 : Int32)).toNatClampNeg), .ref x1], h, 2202, 110072)) rfl ?_
                                  by_cases c215 : (x3 + (2 : Int32)) < 0 ∨ L ≤ (x3 + (2 : Int32)).toNatClampNeg
                                  · rw [if_pos c215] at hq; cases hq
                                  rw [if_neg c215] at hq
                                  refine mL_ld odL_law rfl c215 ?_
                                  obtain ⟨f218, k219, hq⟩ := bsm hq
                                  obtain ⟨o216, e217, hq⟩ := bsm hq
                                  refine mB_V (as := [.int (xs (x3 + (1 : Int32)).toNatClampNeg), .int (xs (x3 + (2 : Int32)).toNatClampNeg)]) odL_law okX6_width lk_12_73 rfl (exX6_width e217) (kO_at k219) rfl rfl rfl ?_
                                  show mB _ mL_law (726, [(0, .retAddr 0), (1, .ref x1), (2, .ref x2), (3, .int x3)], [.long o216.2], o216.1, 2202, 110072)
                                  refine mB_run odL_law 5 (g := (731, [(0, .retAddr 0), (1, .ref x1), (2, .ref x2), (3, .int x3)], [.int (x3 + (1 : Int32)), .retAddr 0, .ref x2, .long o216.2], o216.1, 2202, 110072)) rfl ?_
                                  by_cases c220 : (x3 + (1 : Int32)) < 0 ∨ L ≤ (x3 + (1 : Int32)).toNatClampNeg
                                  · rw [if_pos c220] at hq; cases hq
                                  rw [if_neg c220] at hq
                                  refine mL_ld odL_law rfl c220 ?_
                                  refine mB_run odL_law 4 (g := (736, [(0, .retAddr 0), (1, .ref x1), (2, .ref x2), (3, .int x3)], [.int (x3 + (2 : Int32)), .retAddr 0, .int (xs (x3 + (1 : Int32)).toNatClampNeg), .ref x2, .long o216.2], o216.1, 2202, 110072)) rfl ?_
                                  by_cases c221 : (x3 + (2 : Int32)) < 0 ∨ L ≤ (x3 + (2 : Int32)).toNatClampNeg
                                  · rw [if_pos c221] at hq; cases hq
                                  rw [if_neg c221] at hq
                                  refine mL_ld odL_law rfl c221 ?_
                                  obtain ⟨f224, k225, hq⟩ := bsm hq
                                  obtain ⟨o222, e223, hq⟩ := bsm hq
                                  refine mB_V (as := [.int (xs (x3 + (1 : Int32)).toNatClampNeg), .int (xs (x3 + (2 : Int32)).toNatClampNeg)]) odL_law okX7_width lk_12_77 rfl (exX7_width e223) (kO_at k225) rfl rfl rfl ?_
                                  show mB _ mL_law (740, [(0, .retAddr 0), (1, .ref x1), (2, .ref x2), (3, .int x3)], [.long o222.2, .long o216.2], o222.1, 2202, 110072)
                                  by_cases c226 : o216.2 = o222.2
                                  · rw [if_pos c226] at hq
                                    refine lc_eq_T (t := 1064) odL_law rfl rfl rfl c226 ?_
                                    refine mB_lv [0, 1, 2, 3] (lv' := [(0, .retAddr 0), (1, .ref x1), (2, .ref x2), (3, .int x3)]) rfl ?_
                                    exact exL_law_1064 ih _ _ _ _ hq
                                  · rw [if_neg c226] at hq
                                    refine lc_eq_F (t := 1064) odL_law rfl rfl rfl c226 ?_
                                    refine mB_run odL_law 1 (g := (745, [(0, .retAddr 0), (1, .ref x1), (2, .ref x2), (3, .int x3)], [.int (0 : Int32)], o222.1, 2202, 110072)) rfl ?_
                                    cases hq
                                · rw [if_neg c213] at hq
                                  by_cases c227 : ((xs x3.toNatClampNeg) &&& (31 : Int32)) = (14 : Int32)
                                  · rw [if_pos c227] at hq
                                    refine r_tab odL_law rfl c227 (t := 746) rfl ?_
                                    refine mB_run odL_law 5 (g := (751, [(0, .retAddr 0), (1, .ref x1), (2, .ref x2), (3, .int x3)], [.int (x3 + (1 : Int32)), .retAddr 0, .ref x1], h, 2202, 110072)) rfl ?_
                                    by_cases c228 : (x3 + (1 : Int32)) < 0 ∨ L ≤ (x3 + (1 : Int32)).toNatClampNeg
                                    · rw [if_pos c228] at hq; cases hq
                                    rw [if_neg c228] at hq
                                    refine mL_ld odL_law rfl c228 ?_
                                    refine mB_run odL_law 4 (g := (756, [(0, .retAddr 0), (1, .ref x1), (2, .ref x2), (3, .int x3)], [.int (x3 + (2 : Int32)), .retAddr 0, .int (xs (x3 + (1 : Int32)).toNatClampNeg), .ref x1], h, 2202, 110072)) rfl ?_
                                    by_cases c229 : (x3 + (2 : Int32)) < 0 ∨ L ≤ (x3 + (2 : Int32)).toNatClampNeg
                                    · rw [if_pos c229] at hq; cases hq
                                    rw [if_neg c229] at hq
                                    refine mL_ld odL_law rfl c229 ?_
                                    refine mB_run odL_law 4 (g := (761, [(0, .retAddr 0), (1, .ref x1), (2, .ref x2), (3, .int x3)], [.int (x3 + (3 : Int32)), .retAddr 0, .int (xs (x3 + (2 : Int32)).toNatClampNeg), .int (xs (x3 + (1 : Int32)).toNatClampNeg), .ref x1], h, 2202, 110072)) rfl ?_
                                    by_cases c230 : (x3 + (3 : Int32)) < 0 ∨ L ≤ (x3 + (3 : Int32)).toNatClampNeg
                                    · rw [if_pos c230] at hq; cases hq
                                    rw [if_neg c230] at hq
                                    refine mL_ld odL_law rfl c230 ?_
                                    obtain ⟨f233, k234, hq⟩ := bsm hq
                                    obtain ⟨o231, e232, hq⟩ := bsm hq
                                    refine mB_V (as := [.int (xs (x3 + (1 : Int32)).toNatClampNeg), .int (xs (x3 + (2 : Int32)).toNatClampNeg), .int (xs (x3 + (3 : Int32)).toNatClampNeg)]) odL_law okX6_sum lk_12_78 rfl (exX6_sum e232) (kO_at k234) rfl rfl rfl ?_
                                    show mB _ mL_law (765, [(0, .retAddr 0), (1, .ref x1), (2, .ref x2), (3, .int x3)], [.int o231.2], o231.1, 2202, 110072)
                                    refine mB_run odL_law 5 (g := (770, [(0, .retAddr 0), (1, .ref x1), (2, .ref x2), (3, .int x3)], [.int (x3 + (1 : Int32)), .retAddr 0, .ref x2, .int o231.2], o231.1, 2202, 110072)) rfl ?_
                                    by_cases c235 : (x3 + (1 : Int32)) < 0 ∨ L ≤ (x3 + (1 : Int32)).toNatClampNeg
                                    · rw [if_pos c235] at hq; cases hq
                                    rw [if_neg c235] at hq
                                    refine mL_ld odL_law rfl c235 ?_
                                    refine mB_run odL_law 4 (g := (775, [(0, .retAddr 0), (1, .ref x1), (2, .ref x2), (3, .int x3)], [.int (x3 + (2 : Int32)), .retAddr 0, .int (xs (x3 + (1 : Int32)).toNatClampNeg), .ref x2, .int o231.2], o231.1, 2202, 110072)) rfl ?_
                                    by_cases c236 : (x3 + (2 : Int32)) < 0 ∨ L ≤ (x3 + (2 : Int32)).toNatClampNeg
                                    · rw [if_pos c236] at hq; cases hq
                                    rw [if_neg c236] at hq
                                    refine mL_ld odL_law rfl c236 ?_
                                    refine mB_run odL_law 4 (g := (780, [(0, .retAddr 0), (1, .ref x1), (2, .ref x2), (3, .int x3)], [.int (x3 + (3 : Int32)), .retAddr 0, .int (xs (x3 + (2 : Int32)).toNatClampNeg), .int (xs (x3 + (1 : Int32)).toNatClampNeg), .ref x2, .int o231.2], o231.1, 2202, 110072)) rfl ?_
                                    by_cases c237 : (x3 + (3 : Int32)) < 0 ∨ L ≤ (x3 + (3 : Int32)).toNatClampNeg
                                    · rw [if_pos c237] at hq; cases hq
                                    rw [if_neg c237] at hq
                                    refine mL_ld odL_law rfl c237 ?_
                                    obtain ⟨f240, k241, hq⟩ := bsm hq
                                    obtain ⟨o238, e239, hq⟩ := bsm hq
                                    refine mB_V (as := [.int (xs (x3 + (1 : Int32)).toNatClampNeg), .int (xs (x3 + (2 : Int32)).toNatClampNeg), .int (xs (x3 + (3 : Int32)).toNatClampNeg)]) odL_law okX7_sum lk_12_81 rfl (exX7_sum e239) (kO_at k241) rfl rfl rfl ?_
                                    show mB _ mL_law (784, [(0, .retAddr 0), (1, .ref x1), (2, .ref x2), (3, .int x3)], [.int o238.2, .int o231.2], o238.1, 2202, 110072)
                                    by_cases c242 : o231.2 = o238.2
                                    · rw [if_pos c242] at hq
                                      refine ic_eq_T (t := 1064) odL_law rfl rfl c242 ?_
                                      refine mB_lv [0, 1, 2, 3] (lv' := [(0, .retAddr 0), (1, .ref x1), (2, .ref x2), (3, .int x3)]) rfl ?_
                                      exact exL_law_1064 ih _ _ _ _ hq
                                    · rw [if_neg c242] at hq
                                      refine ic_eq_F (t := 1064) odL_law rfl rfl c242 ?_
                                      refine mB_run odL_law 1 (g := (788, [(0, .retAddr 0), (1, .ref x1), (2, .ref x2), (3, .int x3)], [.int (0 : Int32)], o238.1, 2202, 110072)) rfl ?_
                                      cases hq
                                  · rw [if_neg c227] at hq
                                    by_cases c243 : ((xs x3.toNatClampNeg) &&& (31 : Int32)) = (15 : Int32)
                                    · rw [if_pos c243] at hq
                                      refine r_tab odL_law rfl c243 (t := 789) rfl ?_
                                      refine mB_run odL_law 5 (g := (794, [(0, .retAddr 0), (1, .ref x1), (2, .ref x2), (3, .int x3)], [.int (x3 + (1 : Int32)), .retAddr 0, .ref x1], h, 2202, 110072)) rfl ?_
                                      by_cases c244 : (x3 + (1 : Int32)) < 0 ∨ L ≤ (x3 + (1 : Int32)).toNatClampNeg
                                      · rw [if_pos c244] at hq; cases hq
                                      rw [if_neg c244] at hq
                                      refine mL_ld odL_law rfl c244 ?_
                                      refine mB_run odL_law 4 (g := (799, [(0, .retAddr 0), (1, .ref x1), (2, .ref x2), (3, .int x3)], [.int (x3 + (2 : Int32)), .retAddr 0, .int (xs (x3 + (1 : Int32)).toNatClampNeg), .ref x1], h, 2202, 110072)) rfl ?_
                                      by_cases c245 : (x3 + (2 : Int32)) < 0 ∨ L ≤ (x3 + (2 : Int32)).toNatClampNeg
                                      · rw [if_pos c245] at hq; cases hq
                                      rw [if_neg c245] at hq
                                      refine mL_ld odL_law rfl c245 ?_
                                      obtain ⟨f248, k249, hq⟩ := bsm hq
                                      obtain ⟨o246, e247, hq⟩ := bsm hq
                                      refine mB_V (as := [.int (xs (x3 + (1 : Int32)).toNatClampNeg), .int (xs (x3 + (2 : Int32)).toNatClampNeg)]) odL_law okX6_apart lk_12_82 rfl (exX6_apart e247) (kO_at k249) rfl rfl rfl ?_
                                      show mB _ mL_law (803, [(0, .retAddr 0), (1, .ref x1), (2, .ref x2), (3, .int x3)], [.int o246.2], o246.1, 2202, 110072)
                                      refine mB_run odL_law 5 (g := (808, [(0, .retAddr 0), (1, .ref x1), (2, .ref x2), (3, .int x3)], [.int (x3 + (1 : Int32)), .retAddr 0, .ref x2, .int o246.2], o246.1, 2202, 110072)) rfl ?_
                                      by_cases c250 : (x3 + (1 : Int32)) < 0 ∨ L ≤ (x3 + (1 : Int32)).toNatClampNeg
                                      · rw [if_pos c250] at hq; cases hq
                                      rw [if_neg c250] at hq
                                      refine mL_ld odL_law rfl c250 ?_
                                      refine mB_run odL_law 4 (g := (813, [(0, .retAddr 0), (1, .ref x1), (2, .ref x2), (3, .int x3)], [.int (x3 + (2 : Int32)), .retAddr 0, .int (xs (x3 + (1 : Int32)).toNatClampNeg), .ref x2, .int o246.2], o246.1, 2202, 110072)) rfl ?_
                                      by_cases c251 : (x3 + (2 : Int32)) < 0 ∨ L ≤ (x3 + (2 : Int32)).toNatClampNeg
                                      · rw [if_pos c251] at hq; cases hq
                                      rw [if_neg c251] at hq
                                      refine mL_ld odL_law rfl c251 ?_
                                      obtain ⟨f254, k255, hq⟩ := bsm hq
                                      obtain ⟨o252, e253, hq⟩ := bsm hq
                                      refine mB_V (as := [.int (xs (x3 + (1 : Int32)).toNatClampNeg), .int (xs (x3 + (2 : Int32)).toNatClampNeg)]) odL_law okX7_apart lk_12_85 rfl (exX7_apart e253) (kO_at k255) rfl rfl rfl ?_
                                      show mB _ mL_law (817, [(0, .retAddr 0), (1, .ref x1), (2, .ref x2), (3, .int x3)], [.int o252.2, .int o246.2], o252.1, 2202, 110072)
                                      by_cases c256 : o246.2 = o252.2
                                      · rw [if_pos c256] at hq
                                        refine ic_eq_T (t := 1064) odL_law rfl rfl c256 ?_
                                        refine mB_lv [0, 1, 2, 3] (lv' := [(0, .retAddr 0), (1, .ref x1), (2, .ref x2), (3, .int x3)]) rfl ?_
                                        exact exL_law_1064 ih _ _ _ _ hq
                                      · rw [if_neg c256] at hq
                                        refine ic_eq_F (t := 1064) odL_law rfl rfl c256 ?_
                                        refine mB_run odL_law 1 (g := (821, [(0, .retAddr 0), (1, .ref x1), (2, .ref x2), (3, .int x3)], [.int (0 : Int32)], o252.1, 2202, 110072)) rfl ?_
                                        cases hq
                                    · rw [if_neg c243] at hq
                                      by_cases c257 : ((xs x3.toNatClampNeg) &&& (31 : Int32)) = (16 : Int32)
                                      · rw [if_pos c257] at hq
                                        refine r_tab odL_law rfl c257 (t := 822) rfl ?_
                                        refine mB_run odL_law 5 (g := (827, [(0, .retAddr 0), (1, .ref x1), (2, .ref x2), (3, .int x3)], [.int (x3 + (1 : Int32)), .retAddr 0, .ref x1], h, 2202, 110072)) rfl ?_
                                        by_cases c258 : (x3 + (1 : Int32)) < 0 ∨ L ≤ (x3 + (1 : Int32)).toNatClampNeg
                                        · rw [if_pos c258] at hq; cases hq
                                        rw [if_neg c258] at hq
                                        refine mL_ld odL_law rfl c258 ?_
                                        refine mB_run odL_law 4 (g := (832, [(0, .retAddr 0), (1, .ref x1), (2, .ref x2), (3, .int x3)], [.int (x3 + (2 : Int32)), .retAddr 0, .int (xs (x3 + (1 : Int32)).toNatClampNeg), .ref x1], h, 2202, 110072)) rfl ?_
                                        by_cases c259 : (x3 + (2 : Int32)) < 0 ∨ L ≤ (x3 + (2 : Int32)).toNatClampNeg
                                        · rw [if_pos c259] at hq; cases hq
                                        rw [if_neg c259] at hq
                                        refine mL_ld odL_law rfl c259 ?_
                                        refine mB_run odL_law 4 (g := (837, [(0, .retAddr 0), (1, .ref x1), (2, .ref x2), (3, .int x3)], [.int (x3 + (3 : Int32)), .retAddr 0, .int (xs (x3 + (2 : Int32)).toNatClampNeg), .int (xs (x3 + (1 : Int32)).toNatClampNeg), .ref x1], h, 2202, 110072)) rfl ?_
                                        by_cases c260 : (x3 + (3 : Int32)) < 0 ∨ L ≤ (x3 + (3 : Int32)).toNatClampNeg
                                        · rw [if_pos c260] at hq; cases hq
                                        rw [if_neg c260] at hq
                                        refine mL_ld odL_law rfl c260 ?_
                                        obtain ⟨f263, k264, hq⟩ := bsm hq
                                        obtain ⟨o261, e262, hq⟩ := bsm hq
                                        refine mB_V (as := [.int (xs (x3 + (1 : Int32)).toNatClampNeg), .int (xs (x3 + (2 : Int32)).toNatClampNeg), .int (xs (x3 + (3 : Int32)).toNatClampNeg)]) odL_law okX6_near lk_12_86 rfl (exX6_near e262) (kO_at k264) rfl rfl rfl ?_
                                        show mB _ mL_law (841, [(0, .retAddr 0), (1, .ref x1), (2, .ref x2), (3, .int x3)], [.long o261.2], o261.1, 2202, 110072)
                                        refine mB_run odL_law 5 (g := (846, [(0, .retAddr 0), (1, .ref x1), (2, .ref x2), (3, .int x3)], [.int (x3 + (1 : Int32)), .retAddr 0, .ref x2, .long o261.2], o261.1, 2202, 110072)) rfl ?_
                                        by_cases c265 : (x3 + (1 : Int32)) < 0 ∨ L ≤ (x3 + (1 : Int32)).toNatClampNeg
                                        · rw [if_pos c265] at hq; cases hq
                                        rw [if_neg c265] at hq
                                        refine mL_ld odL_law rfl c265 ?_
                                        refine mB_run odL_law 4 (g := (851, [(0, .retAddr 0), (1, .ref x1), (2, .ref x2), (3, .int x3)], [.int (x3 + (2 : Int32)), .retAddr 0, .int (xs (x3 + (1 : Int32)).toNatClampNeg), .ref x2, .long o261.2], o261.1, 2202, 110072)) rfl ?_
                                        by_cases c266 : (x3 + (2 : Int32)) < 0 ∨ L ≤ (x3 + (2 : Int32)).toNatClampNeg
                                        · rw [if_pos c266] at hq; cases hq
                                        rw [if_neg c266] at hq
                                        refine mL_ld odL_law rfl c266 ?_
                                        refine mB_run odL_law 4 (g := (856, [(0, .retAddr 0), (1, .ref x1), (2, .ref x2), (3, .int x3)], [.int (x3 + (3 : Int32)), .retAddr 0, .int (xs (x3 + (2 : Int32)).toNatClampNeg), .int (xs (x3 + (1 : Int32)).toNatClampNeg), .ref x2, .long o261.2], o261.1, 2202, 110072)) rfl ?_
                                        by_cases c267 : (x3 + (3 : Int32)) < 0 ∨ L ≤ (x3 + (3 : Int32)).toNatClampNeg
                                        · rw [if_pos c267] at hq; cases hq
                                        rw [if_neg c267] at hq
                                        refine mL_ld odL_law rfl c267 ?_
                                        obtain ⟨f270, k271, hq⟩ := bsm hq
                                        obtain ⟨o268, e269, hq⟩ := bsm hq
                                        refine mB_V (as := [.int (xs (x3 + (1 : Int32)).toNatClampNeg), .int (xs (x3 + (2 : Int32)).toNatClampNeg), .int (xs (x3 + (3 : Int32)).toNatClampNeg)]) odL_law okX7_near lk_12_89 rfl (exX7_near e269) (kO_at k271) rfl rfl rfl ?_
                                        show mB _ mL_law (860, [(0, .retAddr 0), (1, .ref x1), (2, .ref x2), (3, .int x3)], [.long o268.2, .long o261.2], o268.1, 2202, 110072)
                                        by_cases c272 : o261.2 = o268.2
                                        · rw [if_pos c272] at hq
                                          refine lc_eq_T (t := 1064) odL_law rfl rfl rfl c272 ?_
                                          refine mB_lv [0, 1, 2, 3] (lv' := [(0, .retAddr 0), (1, .ref x1), (2, .ref x2), (3, .int x3)]) rfl ?_
                                          exact exL_law_1064 ih _ _ _ _ hq
                                        · rw [if_neg c272] at hq
                                          refine lc_eq_F (t := 1064) odL_law rfl rfl rfl c272 ?_
                                          refine mB_run odL_law 1 (g := (865, [(0, .retAddr 0), (1, .ref x1), (2, .ref x2), (3, .int x3)], [.int (0 : Int32)], o268.1, 2202, 110072)) rfl ?_
                                          cases hq
                                      · rw [if_neg c257] at hq
                                        by_cases c273 : ((xs x3.toNatClampNeg) &&& (31 : Int32)) = (17 : Int32)
                                        · rw [if_pos c273] at hq
                                          refine r_tab odL_law rfl c273 (t := 866) rfl ?_
                                          refine mB_run odL_law 5 (g := (871, [(0, .retAddr 0), (1, .ref x1), (2, .ref x2), (3, .int x3)], [.int (x3 + (1 : Int32)), .retAddr 0, .ref x1], h, 2202, 110072)) rfl ?_
                                          by_cases c274 : (x3 + (1 : Int32)) < 0 ∨ L ≤ (x3 + (1 : Int32)).toNatClampNeg
                                          · rw [if_pos c274] at hq; cases hq
                                          rw [if_neg c274] at hq
                                          refine mL_ld odL_law rfl c274 ?_
                                          refine mB_run odL_law 4 (g := (876, [(0, .retAddr 0), (1, .ref x1), (2, .ref x2), (3, .int x3)], [.int (x3 + (2 : Int32)), .retAddr 0, .int (xs (x3 + (1 : Int32)).toNatClampNeg), .ref x1], h, 2202, 110072)) rfl ?_
                                          by_cases c275 : (x3 + (2 : Int32)) < 0 ∨ L ≤ (x3 + (2 : Int32)).toNatClampNeg
                                          · rw [if_pos c275] at hq; cases hq
                                          rw [if_neg c275] at hq
                                          refine mL_ld odL_law rfl c275 ?_
                                          obtain ⟨f278, k279, hq⟩ := bsm hq
                                          obtain ⟨o276, e277, hq⟩ := bsm hq
                                          refine mB_V (as := [.int (xs (x3 + (1 : Int32)).toNatClampNeg), .int (xs (x3 + (2 : Int32)).toNatClampNeg)]) odL_law okX6_same lk_12_90 rfl (exX6_same e277) (kO_at k279) rfl rfl rfl ?_
                                          show mB _ mL_law (880, [(0, .retAddr 0), (1, .ref x1), (2, .ref x2), (3, .int x3)], [.int o276.2], o276.1, 2202, 110072)
                                          refine mB_run odL_law 5 (g := (885, [(0, .retAddr 0), (1, .ref x1), (2, .ref x2), (3, .int x3)], [.int (x3 + (1 : Int32)), .retAddr 0, .ref x2, .int o276.2], o276.1, 2202, 110072)) rfl ?_
                                          by_cases c280 : (x3 + (1 : Int32)) < 0 ∨ L ≤ (x3 + (1 : Int32)).toNatClampNeg
                                          · rw [if_pos c280] at hq; cases hq
                                          rw [if_neg c280] at hq
                                          refine mL_ld odL_law rfl c280 ?_
                                          refine mB_run odL_law 4 (g := (890, [(0, .retAddr 0), (1, .ref x1), (2, .ref x2), (3, .int x3)], [.int (x3 + (2 : Int32)), .retAddr 0, .int (xs (x3 + (1 : Int32)).toNatClampNeg), .ref x2, .int o276.2], o276.1, 2202, 110072)) rfl ?_
                                          by_cases c281 : (x3 + (2 : Int32)) < 0 ∨ L ≤ (x3 + (2 : Int32)).toNatClampNeg
                                          · rw [if_pos c281] at hq; cases hq
                                          rw [if_neg c281] at hq
                                          refine mL_ld odL_law rfl c281 ?_
                                          obtain ⟨f284, k285, hq⟩ := bsm hq
                                          obtain ⟨o282, e283, hq⟩ := bsm hq
                                          refine mB_V (as := [.int (xs (x3 + (1 : Int32)).toNatClampNeg), .int (xs (x3 + (2 : Int32)).toNatClampNeg)]) odL_law okX7_same lk_12_93 rfl (exX7_same e283) (kO_at k285) rfl rfl rfl ?_
                                          show mB _ mL_law (894, [(0, .retAddr 0), (1, .ref x1), (2, .ref x2), (3, .int x3)], [.int o282.2, .int o276.2], o282.1, 2202, 110072)
                                          by_cases c286 : o276.2 = o282.2
                                          · rw [if_pos c286] at hq
                                            refine ic_eq_T (t := 1064) odL_law rfl rfl c286 ?_
                                            refine mB_lv [0, 1, 2, 3] (lv' := [(0, .retAddr 0), (1, .ref x1), (2, .ref x2), (3, .int x3)]) rfl ?_
                                            exact exL_law_1064 ih _ _ _ _ hq
                                          · rw [if_neg c286] at hq
                                            refine ic_eq_F (t := 1064) odL_law rfl rfl c286 ?_
                                            refine mB_run odL_law 1 (g := (898, [(0, .retAddr 0), (1, .ref x1), (2, .ref x2), (3, .int x3)], [.int (0 : Int32)], o282.1, 2202, 110072)) rfl ?_
                                            cases hq
                                        · rw [if_neg c273] at hq
                                          by_cases c287 : ((xs x3.toNatClampNeg) &&& (31 : Int32)) = (18 : Int32)
                                          · rw [if_pos c287] at hq
                                            refine r_tab odL_law rfl c287 (t := 899) rfl ?_
                                            refine mB_run odL_law 5 (g := (904, [(0, .retAddr 0), (1, .ref x1), (2, .ref x2), (3, .int x3)], [.int (x3 + (1 : Int32)), .retAddr 0, .ref x1], h, 2202, 110072)) rfl ?_
                                            by_cases c288 : (x3 + (1 : Int32)) < 0 ∨ L ≤ (x3 + (1 : Int32)).toNatClampNeg
                                            · rw [if_pos c288] at hq; cases hq
                                            rw [if_neg c288] at hq
                                            refine mL_ld odL_law rfl c288 ?_
                                            refine mB_run odL_law 4 (g := (909, [(0, .retAddr 0), (1, .ref x1), (2, .ref x2), (3, .int x3)], [.int (x3 + (2 : Int32)), .retAddr 0, .int (xs (x3 + (1 : Int32)).toNatClampNeg), .ref x1], h, 2202, 110072)) rfl ?_
                                            by_cases c289 : (x3 + (2 : Int32)) < 0 ∨ L ≤ (x3 + (2 : Int32)).toNatClampNeg
                                            · rw [if_pos c289] at hq; cases hq
                                            rw [if_neg c289] at hq
                                            refine mL_ld odL_law rfl c289 ?_
                                            refine mB_run odL_law 4 (g := (914, [(0, .retAddr 0), (1, .ref x1), (2, .ref x2), (3, .int x3)], [.int (x3 + (3 : Int32)), .retAddr 0, .int (xs (x3 + (2 : Int32)).toNatClampNeg), .int (xs (x3 + (1 : Int32)).toNatClampNeg), .ref x1], h, 2202, 110072)) rfl ?_
                                            by_cases c290 : (x3 + (3 : Int32)) < 0 ∨ L ≤ (x3 + (3 : Int32)).toNatClampNeg
                                            · rw [if_pos c290] at hq; cases hq
                                            rw [if_neg c290] at hq
                                            refine mL_ld odL_law rfl c290 ?_
                                            refine mB_run odL_law 4 (g := (919, [(0, .retAddr 0), (1, .ref x1), (2, .ref x2), (3, .int x3)], [.int (x3 + (4 : Int32)), .retAddr 0, .int (xs (x3 + (3 : Int32)).toNatClampNeg), .int (xs (x3 + (2 : Int32)).toNatClampNeg), .int (xs (x3 + (1 : Int32)).toNatClampNeg), .ref x1], h, 2202, 110072)) rfl ?_
                                            by_cases c291 : (x3 + (4 : Int32)) < 0 ∨ L ≤ (x3 + (4 : Int32)).toNatClampNeg
                                            · rw [if_pos c291] at hq; cases hq
                                            rw [if_neg c291] at hq
                                            refine mL_ld odL_law rfl c291 ?_
                                            obtain ⟨f294, k295, hq⟩ := bsm hq
                                            obtain ⟨o292, e293, hq⟩ := bsm hq
                                            refine mB_V (as := [.int (xs (x3 + (1 : Int32)).toNatClampNeg), .int (xs (x3 + (2 : Int32)).toNatClampNeg), .int (xs (x3 + (3 : Int32)).toNatClampNeg), .int (xs (x3 + (4 : Int32)).toNatClampNeg)]) odL_law okX6_move lk_12_94 rfl (exX6_move e293) (kO_at k295) rfl rfl rfl ?_
                                            show mB _ mL_law (923, [(0, .retAddr 0), (1, .ref x1), (2, .ref x2), (3, .int x3)], [.int o292.2], o292.1, 2202, 110072)
                                            refine mB_run odL_law 5 (g := (928, [(0, .retAddr 0), (1, .ref x1), (2, .ref x2), (3, .int x3)], [.int (x3 + (1 : Int32)), .retAddr 0, .ref x2, .int o292.2], o292.1, 2202, 110072)) rfl ?_
                                            by_cases c296 : (x3 + (1 : Int32)) < 0 ∨ L ≤ (x3 + (1 : Int32)).toNatClampNeg
                                            · rw [if_pos c296] at hq; cases hq
                                            rw [if_neg c296] at hq
                                            refine mL_ld odL_law rfl c296 ?_
                                            refine mB_run odL_law 4 (g := (933, [(0, .retAddr 0), (1, .ref x1), (2, .ref x2), (3, .int x3)], [.int (x3 + (2 : Int32)), .retAddr 0, .int (xs (x3 + (1 : Int32)).toNatClampNeg), .ref x2, .int o292.2], o292.1, 2202, 110072)) rfl ?_
                                            by_cases c297 : (x3 + (2 : Int32)) < 0 ∨ L ≤ (x3 + (2 : Int32)).toNatClampNeg
                                            · rw [if_pos c297] at hq; cases hq
                                            rw [if_neg c297] at hq
                                            refine mL_ld odL_law rfl c297 ?_
                                            refine mB_run odL_law 4 (g := (938, [(0, .retAddr 0), (1, .ref x1), (2, .ref x2), (3, .int x3)], [.int (x3 + (3 : Int32)), .retAddr 0, .int (xs (x3 + (2 : Int32)).toNatClampNeg), .int (xs (x3 + (1 : Int32)).toNatClampNeg), .ref x2, .int o292.2], o292.1, 2202, 110072)) rfl ?_
                                            by_cases c298 : (x3 + (3 : Int32)) < 0 ∨ L ≤ (x3 + (3 : Int32)).toNatClampNeg
                                            · rw [if_pos c298] at hq; cases hq
                                            rw [if_neg c298] at hq
                                            refine mL_ld odL_law rfl c298 ?_
                                            refine mB_run odL_law 4 (g := (943, [(0, .retAddr 0), (1, .ref x1), (2, .ref x2), (3, .int x3)], [.int (x3 + (4 : Int32)), .retAddr 0, .int (xs (x3 + (3 : Int32)).toNatClampNeg), .int (xs (x3 + (2 : Int32)).toNatClampNeg), .int (xs (x3 + (1 : Int32)).toNatClampNeg), .ref x2, .int o292.2], o292.1, 2202, 110072)) rfl ?_
                                            by_cases c299 : (x3 + (4 : Int32)) < 0 ∨ L ≤ (x3 + (4 : Int32)).toNatClampNeg
                                            · rw [if_pos c299] at hq; cases hq
                                            rw [if_neg c299] at hq
                                            refine mL_ld odL_law rfl c299 ?_
                                            obtain ⟨f302, k303, hq⟩ := bsm hq
                                            obtain ⟨o300, e301, hq⟩ := bsm hq
                                            refine mB_V (as := [.int (xs (x3 + (1 : Int32)).toNatClampNeg), .int (xs (x3 + (2 : Int32)).toNatClampNeg), .int (xs (x3 + (3 : Int32)).toNatClampNeg), .int (xs (x3 + (4 : Int32)).toNatClampNeg)]) odL_law okX7_move lk_12_98 rfl (exX7_move e301) (kO_at k303) rfl rfl rfl ?_
                                            show mB _ mL_law (947, [(0, .retAddr 0), (1, .ref x1), (2, .ref x2), (3, .int x3)], [.int o300.2, .int o292.2], o300.1, 2202, 110072)
                                            by_cases c304 : o292.2 = o300.2
                                            · rw [if_pos c304] at hq
                                              refine ic_eq_T (t := 1064) odL_law rfl rfl c304 ?_
                                              refine mB_lv [0, 1, 2, 3] (lv' := [(0, .retAddr 0), (1, .ref x1), (2, .ref x2), (3, .int x3)]) rfl ?_
                                              exact exL_law_1064 ih _ _ _ _ hq
                                            · rw [if_neg c304] at hq
                                              refine ic_eq_F (t := 1064) odL_law rfl rfl c304 ?_
                                              refine mB_run odL_law 1 (g := (951, [(0, .retAddr 0), (1, .ref x1), (2, .ref x2), (3, .int x3)], [.int (0 : Int32)], o300.1, 2202, 110072)) rfl ?_
                                              cases hq
                                          · rw [if_neg c287] at hq
                                            by_cases c305 : ((xs x3.toNatClampNeg) &&& (31 : Int32)) = (19 : Int32)
                                            · rw [if_pos c305] at hq
                                              refine r_tab odL_law rfl c305 (t := 952) rfl ?_
                                              refine mB_run odL_law 5 (g := (957, [(0, .retAddr 0), (1, .ref x1), (2, .ref x2), (3, .int x3)], [.int (x3 + (1 : Int32)), .retAddr 0, .ref x1], h, 2202, 110072)) rfl ?_
                                              by_cases c306 : (x3 + (1 : Int32)) < 0 ∨ L ≤ (x3 + (1 : Int32)).toNatClampNeg
                                              · rw [if_pos c306] at hq; cases hq
                                              rw [if_neg c306] at hq
                                              refine mL_ld odL_law rfl c306 ?_
                                              refine mB_run odL_law 4 (g := (962, [(0, .retAddr 0), (1, .ref x1), (2, .ref x2), (3, .int x3)], [.int (x3 + (2 : Int32)), .retAddr 0, .int (xs (x3 + (1 : Int32)).toNatClampNeg), .ref x1], h, 2202, 110072)) rfl ?_
                                              by_cases c307 : (x3 + (2 : Int32)) < 0 ∨ L ≤ (x3 + (2 : Int32)).toNatClampNeg
                                              · rw [if_pos c307] at hq; cases hq
                                              rw [if_neg c307] at hq
                                              refine mL_ld odL_law rfl c307 ?_
                                              obtain ⟨f310, k311, hq⟩ := bsm hq
                                              obtain ⟨o308, e309, hq⟩ := bsm hq
                                              refine mB_V (as := [.int (xs (x3 + (1 : Int32)).toNatClampNeg), .int (xs (x3 + (2 : Int32)).toNatClampNeg)]) odL_law okX6_mirror lk_12_99 rfl (exX6_mirror e309) (kO_at k311) rfl rfl rfl ?_
                                              show mB _ mL_law (966, [(0, .retAddr 0), (1, .ref x1), (2, .ref x2), (3, .int x3)], [.int o308.2], o308.1, 2202, 110072)
                                              refine mB_run odL_law 5 (g := (971, [(0, .retAddr 0), (1, .ref x1), (2, .ref x2), (3, .int x3)], [.int (x3 + (1 : Int32)), .retAddr 0, .ref x2, .int o308.2], o308.1, 2202, 110072)) rfl ?_
                                              by_cases c312 : (x3 + (1 : Int32)) < 0 ∨ L ≤ (x3 + (1 : Int32)).toNatClampNeg
                                              · rw [if_pos c312] at hq; cases hq
                                              rw [if_neg c312] at hq
                                              refine mL_ld odL_law rfl c312 ?_
                                              refine mB_run odL_law 4 (g := (976, [(0, .retAddr 0), (1, .ref x1), (2, .ref x2), (3, .int x3)], [.int (x3 + (2 : Int32)), .retAddr 0, .int (xs (x3 + (1 : Int32)).toNatClampNeg), .ref x2, .int o308.2], o308.1, 2202, 110072)) rfl ?_
                                              by_cases c313 : (x3 + (2 : Int32)) < 0 ∨ L ≤ (x3 + (2 : Int32)).toNatClampNeg
                                              · rw [if_pos c313] at hq; cases hq
                                              rw [if_neg c313] at hq
                                              refine mL_ld odL_law rfl c313 ?_
                                              obtain ⟨f316, k317, hq⟩ := bsm hq
                                              obtain ⟨o314, e315, hq⟩ := bsm hq
                                              refine mB_V (as := [.int (xs (x3 + (1 : Int32)).toNatClampNeg), .int (xs (x3 + (2 : Int32)).toNatClampNeg)]) odL_law okX7_mirror lk_12_102 rfl (exX7_mirror e315) (kO_at k317) rfl rfl rfl ?_
                                              show mB _ mL_law (980, [(0, .retAddr 0), (1, .ref x1), (2, .ref x2), (3, .int x3)], [.int o314.2, .int o308.2], o314.1, 2202, 110072)
                                              by_cases c318 : o308.2 = o314.2
                                              · rw [if_pos c318] at hq
                                                refine ic_eq_T (t := 1064) odL_law rfl rfl c318 ?_
                                                refine mB_lv [0, 1, 2, 3] (lv' := [(0, .retAddr 0), (1, .ref x1), (2, .ref x2), (3, .int x3)]) rfl ?_
                                                exact exL_law_1064 ih _ _ _ _ hq
                                              · rw [if_neg c318] at hq
                                                refine ic_eq_F (t := 1064) odL_law rfl rfl c318 ?_
                                                refine mB_run odL_law 1 (g := (984, [(0, .retAddr 0), (1, .ref x1), (2, .ref x2), (3, .int x3)], [.int (0 : Int32)], o314.1, 2202, 110072)) rfl ?_
                                                cases hq
                                            · rw [if_neg c305] at hq
                                              by_cases c319 : ((xs x3.toNatClampNeg) &&& (31 : Int32)) = (20 : Int32)
                                              · rw [if_pos c319] at hq
                                                refine r_tab odL_law rfl c319 (t := 985) rfl ?_
                                                refine mB_run odL_law 5 (g := (990, [(0, .retAddr 0), (1, .ref x1), (2, .ref x2), (3, .int x3)], [.int (x3 + (1 : Int32)), .retAddr 0, .ref x1], h, 2202, 110072)) rfl ?_
                                                by_cases c320 : (x3 + (1 : Int32)) < 0 ∨ L ≤ (x3 + (1 : Int32)).toNatClampNeg
                                                · rw [if_pos c320] at hq; cases hq
                                                rw [if_neg c320] at hq
                                                refine mL_ld odL_law rfl c320 ?_
                                                refine mB_run odL_law 4 (g := (995, [(0, .retAddr 0), (1, .ref x1), (2, .ref x2), (3, .int x3)], [.int (x3 + (2 : Int32)), .retAddr 0, .int (xs (x3 + (1 : Int32)).toNatClampNeg), .ref x1], h, 2202, 110072)) rfl ?_
                                                by_cases c321 : (x3 + (2 : Int32)) < 0 ∨ L ≤ (x3 + (2 : Int32)).toNatClampNeg
                                                · rw [if_pos c321] at hq; cases hq
                                                rw [if_neg c321] at hq
                                                refine mL_ld odL_law rfl c321 ?_
                                                obtain ⟨f324, k325, hq⟩ := bsm hq
                                                obtain ⟨o322, e323, hq⟩ := bsm hq
                                                refine mB_V (as := [.int (xs (x3 + (1 : Int32)).toNatClampNeg), .int (xs (x3 + (2 : Int32)).toNatClampNeg)]) odL_law okX6_turn lk_12_103 rfl (exX6_turn e323) (kO_at k325) rfl rfl rfl ?_
                                                show mB _ mL_law (999, [(0, .retAddr 0), (1, .ref x1), (2, .ref x2), (3, .int x3)], [.int o322.2], o322.1, 2202, 110072)
                                                refine mB_run odL_law 5 (g := (1004, [(0, .retAddr 0), (1, .ref x1), (2, .ref x2), (3, .int x3)], [.int (x3 + (1 : Int32)), .retAddr 0, .ref x2, .int o322.2], o322.1, 2202, 110072)) rfl ?_
                                                by_cases c326 : (x3 + (1 : Int32)) < 0 ∨ L ≤ (x3 + (1 : Int32)).toNatClampNeg
                                                · rw [if_pos c326] at hq; cases hq
                                                rw [if_neg c326] at hq
                                                refine mL_ld odL_law rfl c326 ?_
                                                refine mB_run odL_law 4 (g := (1009, [(0, .retAddr 0), (1, .ref x1), (2, .ref x2), (3, .int x3)], [.int (x3 + (2 : Int32)), .retAddr 0, .int (xs (x3 + (1 : Int32)).toNatClampNeg), .ref x2, .int o322.2], o322.1, 2202, 110072)) rfl ?_
                                                by_cases c327 : (x3 + (2 : Int32)) < 0 ∨ L ≤ (x3 + (2 : Int32)).toNatClampNeg
                                                · rw [if_pos c327] at hq; cases hq
                                                rw [if_neg c327] at hq
                                                refine mL_ld odL_law rfl c327 ?_
                                                obtain ⟨f330, k331, hq⟩ := bsm hq
                                                obtain ⟨o328, e329, hq⟩ := bsm hq
                                                refine mB_V (as := [.int (xs (x3 + (1 : Int32)).toNatClampNeg), .int (xs (x3 + (2 : Int32)).toNatClampNeg)]) odL_law okX7_turn lk_12_106 rfl (exX7_turn e329) (kO_at k331) rfl rfl rfl ?_
                                                show mB _ mL_law (1013, [(0, .retAddr 0), (1, .ref x1), (2, .ref x2), (3, .int x3)], [.int o328.2, .int o322.2], o328.1, 2202, 110072)
                                                by_cases c332 : o322.2 = o328.2
                                                · rw [if_pos c332] at hq
                                                  refine ic_eq_T (t := 1064) odL_law rfl rfl c332 ?_
                                                  refine mB_lv [0, 1, 2, 3] (lv' := [(0, .retAddr 0), (1, .ref x1), (2, .ref x2), (3, .int x3)]) rfl ?_
                                                  exact exL_law_1064 ih _ _ _ _ hq
                                                · rw [if_neg c332] at hq
                                                  refine ic_eq_F (t := 1064) odL_law rfl rfl c332 ?_
                                                  refine mB_run odL_law 1 (g := (1017, [(0, .retAddr 0), (1, .ref x1), (2, .ref x2), (3, .int x3)], [.int (0 : Int32)], o328.1, 2202, 110072)) rfl ?_
                                                  cases hq
                                              · rw [if_neg c319] at hq
                                                by_cases c333 : ((xs x3.toNatClampNeg) &&& (31 : Int32)) = (21 : Int32)
                                                · rw [if_pos c333] at hq
                                                  refine r_tab odL_law rfl c333 (t := 1018) rfl ?_
                                                  refine mB_run odL_law 5 (g := (1023, [(0, .retAddr 0), (1, .ref x1), (2, .ref x2), (3, .int x3)], [.int (x3 + (1 : Int32)), .retAddr 0, .ref x1], h, 2202, 110072)) rfl ?_
                                                  by_cases c334 : (x3 + (1 : Int32)) < 0 ∨ L ≤ (x3 + (1 : Int32)).toNatClampNeg
                                                  · rw [if_pos c334] at hq; cases hq
                                                  rw [if_neg c334] at hq
                                                  refine mL_ld odL_law rfl c334 ?_
                                                  refine mB_run odL_law 4 (g := (1028, [(0, .retAddr 0), (1, .ref x1), (2, .ref x2), (3, .int x3)], [.int (x3 + (2 : Int32)), .retAddr 0, .int (xs (x3 + (1 : Int32)).toNatClampNeg), .ref x1], h, 2202, 110072)) rfl ?_
                                                  by_cases c335 : (x3 + (2 : Int32)) < 0 ∨ L ≤ (x3 + (2 : Int32)).toNatClampNeg
                                                  · rw [if_pos c335] at hq; cases hq
                                                  rw [if_neg c335] at hq
                                                  refine mL_ld odL_law rfl c335 ?_
                                                  obtain ⟨f338, k339, hq⟩ := bsm hq
                                                  obtain ⟨o336, e337, hq⟩ := bsm hq
                                                  refine mB_V (as := [.int (xs (x3 + (1 : Int32)).toNatClampNeg), .int (xs (x3 + (2 : Int32)).toNatClampNeg)]) odL_law okX6_copy lk_12_107 rfl (exX6_copy e337) (kO_at k339) rfl rfl rfl ?_
                                                  show mB _ mL_law (1032, [(0, .retAddr 0), (1, .ref x1), (2, .ref x2), (3, .int x3)], [.int o336.2], o336.1, 2202, 110072)
                                                  refine mB_run odL_law 5 (g := (1037, [(0, .retAddr 0), (1, .ref x1), (2, .ref x2), (3, .int x3)], [.int (x3 + (1 : Int32)), .retAddr 0, .ref x2, .int o336.2], o336.1, 2202, 110072)) rfl ?_
                                                  by_cases c340 : (x3 + (1 : Int32)) < 0 ∨ L ≤ (x3 + (1 : Int32)).toNatClampNeg
                                                  · rw [if_pos c340] at hq; cases hq
                                                  rw [if_neg c340] at hq
                                                  refine mL_ld odL_law rfl c340 ?_
                                                  refine mB_run odL_law 4 (g := (1042, [(0, .retAddr 0), (1, .ref x1), (2, .ref x2), (3, .int x3)], [.int (x3 + (2 : Int32)), .retAddr 0, .int (xs (x3 + (1 : Int32)).toNatClampNeg), .ref x2, .int o336.2], o336.1, 2202, 110072)) rfl ?_
                                                  by_cases c341 : (x3 + (2 : Int32)) < 0 ∨ L ≤ (x3 + (2 : Int32)).toNatClampNeg
                                                  · rw [if_pos c341] at hq; cases hq
                                                  rw [if_neg c341] at hq
                                                  refine mL_ld odL_law rfl c341 ?_
                                                  obtain ⟨f344, k345, hq⟩ := bsm hq
                                                  obtain ⟨o342, e343, hq⟩ := bsm hq
                                                  refine mB_V (as := [.int (xs (x3 + (1 : Int32)).toNatClampNeg), .int (xs (x3 + (2 : Int32)).toNatClampNeg)]) odL_law okX7_copy lk_12_110 rfl (exX7_copy e343) (kO_at k345) rfl rfl rfl ?_
                                                  show mB _ mL_law (1046, [(0, .retAddr 0), (1, .ref x1), (2, .ref x2), (3, .int x3)], [.int o342.2, .int o336.2], o342.1, 2202, 110072)
                                                  by_cases c346 : o336.2 = o342.2
                                                  · rw [if_pos c346] at hq
                                                    refine ic_eq_T (t := 1064) odL_law rfl rfl c346 ?_
                                                    refine mB_lv [0, 1, 2, 3] (lv' := [(0, .retAddr 0), (1, .ref x1), (2, .ref x2), (3, .int x3)]) rfl ?_
                                                    exact exL_law_1064 ih _ _ _ _ hq
                                                  · rw [if_neg c346] at hq
                                                    refine ic_eq_F (t := 1064) odL_law rfl rfl c346 ?_
                                                    refine mB_run odL_law 1 (g := (1050, [(0, .retAddr 0), (1, .ref x1), (2, .ref x2), (3, .int x3)], [.int (0 : Int32)], o342.1, 2202, 110072)) rfl ?_
                                                    cases hq
                                                · rw [if_neg c333] at hq
                                                  by_cases c347 : ((xs x3.toNatClampNeg) &&& (31 : Int32)) = (22 : Int32)
                                                  · rw [if_pos c347] at hq
                                                    refine r_tab odL_law rfl c347 (t := 1051) rfl ?_
                                                    refine mB_run odL_law 1 (g := (1052, [(0, .retAddr 0), (1, .ref x1), (2, .ref x2), (3, .int x3)], [.ref x1], h, 2202, 110072)) rfl ?_
                                                    obtain ⟨f350, k351, hq⟩ := bsm hq
                                                    obtain ⟨o348, e349, hq⟩ := bsm hq
                                                    refine mB_V (as := []) odL_law okX6_undo lk_12_111 rfl (exX6_undo e349) (kO_at k351) rfl rfl rfl ?_
                                                    show mB _ mL_law (1055, [(0, .retAddr 0), (1, .ref x1), (2, .ref x2), (3, .int x3)], [.int o348.2], o348.1, 2202, 110072)
                                                    refine mB_run odL_law 1 (g := (1056, [(0, .retAddr 0), (1, .ref x1), (2, .ref x2), (3, .int x3)], [.ref x2, .int o348.2], o348.1, 2202, 110072)) rfl ?_
                                                    obtain ⟨f354, k355, hq⟩ := bsm hq
                                                    obtain ⟨o352, e353, hq⟩ := bsm hq
                                                    refine mB_V (as := []) odL_law okX7_undo lk_12_115 rfl (exX7_undo e353) (kO_at k355) rfl rfl rfl ?_
                                                    show mB _ mL_law (1059, [(0, .retAddr 0), (1, .ref x1), (2, .ref x2), (3, .int x3)], [.int o352.2, .int o348.2], o352.1, 2202, 110072)
                                                    by_cases c356 : o348.2 = o352.2
                                                    · rw [if_pos c356] at hq
                                                      refine ic_eq_T (t := 1064) odL_law rfl rfl c356 ?_
                                                      refine mB_lv [0, 1, 2, 3] (lv' := [(0, .retAddr 0), (1, .ref x1), (2, .ref x2), (3, .int x3)]) rfl ?_
                                                      exact exL_law_1064 ih _ _ _ _ hq
                                                    · rw [if_neg c356] at hq
                                                      refine ic_eq_F (t := 1064) odL_law rfl rfl c356 ?_
                                                      refine mB_run odL_law 1 (g := (1063, [(0, .retAddr 0), (1, .ref x1), (2, .ref x2), (3, .int x3)], [.int (0 : Int32)], o352.1, 2202, 110072)) rfl ?_
                                                      cases hq
                                                  · rw [if_neg c347] at hq
                                                    refine r_tabd odL_law rfl (t := 1064) (by omega) (ts_out23 c3 c17 c37 c51 c69 c83 c99 c115 c131 c151 c171 c183 c199 c213 c227 c243 c257 c273 c287 c305 c319 c333 c347) ?_
                                                    refine mB_lv [0, 1, 2, 3] (lv' := [(0, .retAddr 0), (1, .ref x1), (2, .ref x2), (3, .int x3)]) rfl ?_
                                                    exact exL_law_1064 ih _ _ _ _ hq
def fxL_law (L : Nat) (xs : Nat → Int32) (N : Nat) (x1 x2 : Nat) (h : mh) : Option Unit :=
  fxL_law_18 L xs N N x1 x2 (0 : Int32) h
set_option maxHeartbeats 8000000 in
set_option maxRecDepth 100000 in
theorem exL_law {L : Nat} {xs : Nat → Int32} {N : Nat} {x1 x2 : Nat} {h : mh} {o : Unit} (hq : fxL_law L xs N x1 x2 h = some o) : mB (gL L xs) mL_law (16, [(2, .ref x2), (1, .ref x1), (0, .retAddr 0)], [], h, 2202, 110072) := by
  unfold fxL_law at hq
  refine mB_run odL_law 2 (g := (18, [(3, .int (0 : Int32)), (2, .ref x2), (1, .ref x1), (0, .retAddr 0)], [], h, 2202, 110072)) rfl ?_
  refine mB_lv [3, 2, 1, 0] (lv' := [(0, .retAddr 0), (1, .ref x1), (2, .ref x2), (3, .int (0 : Int32))]) rfl ?_
  exact exL_law_18 N _ _ _ _ hq
theorem law_entry {L : Nat} {xs : Nat → Int32} {N : Nat} {o : Unit} (hq : fxL_law L xs N 0 239 hp0 = some o) : mB (gL L xs) mL_law (0, [(0, .retAddr 0)], [], [], 0, 0) := by
  refine mB_run odL_law 2 (g := (4, [(0, .retAddr 0)], [.ref 0, .ref 0], [.inr (6, dfl 6)], 1, 13)) rfl ?_
  refine mB_I (a := 0) (as := []) (rest := [.ref 0]) odL_law okX6_init lk_12_9 rfl in_C rfl rfl rfl ?_
  show mB _ mL_law (7, [(0, .retAddr 0)], [.ref 0], hpC, 2001, 60013)
  refine mB_st odL_law (g := (8, [(1, .ref 0), (0, .retAddr 0)], [], hpC, 2001, 60013)) rfl ?_
  refine mB_st odL_law (g := (11, [(1, .ref 0), (0, .retAddr 0)], [.ref 239], hpC ++ [.inr (7, dfl 7)], 2002, 60072)) ?_ ?_
  · rw [← hpC_len]
    rfl
  refine mB_st odL_law (g := (12, [(1, .ref 0), (0, .retAddr 0)], [.ref 239, .ref 239], hpC ++ [.inr (7, dfl 7)], 2002, 60072)) rfl ?_
  refine mB_I (a := 239) (as := []) (rest := [.ref 239]) odL_law okX7_init lk_12_12 rfl in_M rfl rfl rfl ?_
  show mB _ mL_law (15, [(1, .ref 0), (0, .retAddr 0)], [.ref 239], hp0, 2202, 110072)
  refine mB_st odL_law (g := (16, [(2, .ref 239), (1, .ref 0), (0, .retAddr 0)], [], hp0, 2202, 110072)) rfl ?_
  exact exL_law hq
