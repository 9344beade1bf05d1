/-! THE REFERENCE AS A STATE: scalars and arrays by the number of their field: 0 trayMany[8], 1 trayX[192], 2 trayY[192], 3 trayZ[192], 4 many[8], 5 kind[8], 6 cornerX[192], 7 cornerY[192], 8 cornerZ[192], 9 changes, 10 wasMany[64], 11 wasKind[64], 12 wasX[1536], 13 wasY[1536], 14 wasZ[1536], 15 heap, 16 hx[600], 17 hy[600], 18 hz[600], 19 isCorner[600], 20 list[600], 21 listed, 22 ring[600], 23 ringed, 24 nx, 25 ny, 26 nz, 27 faces[2], 28 faceA[128], 29 faceB[128], 30 faceC[128], 31 faceD[128], 32 faceRing[128], 33 ringOf[3200], 34 edges[2], 35 edgeP[160], 36 edgeQ[160], 37 edgeF[160], 38 edgeG[160], 39 px, 40 py, 41 pz, 42 pq, 43 ownX[48], 44 ownY[48], 45 ownZ[48], 46 owns[2], 47 six, 48 sumX, 49 sumY, 50 sumZ, 51 isFound, 52 above, 53 below, 54 tooMany, 55 found, 56 foundX[32], 57 foundY[32], 58 foundZ[32] -/
abbrev mS : Type := (Nat → Int32) × (Nat → Int64) × (Nat → Nat → Int32) × (Nat → Nat → Int64)
def aN (k : Nat) : Nat := match k with
  | 0 => 8
  | 1 => 192
  | 2 => 192
  | 3 => 192
  | 4 => 8
  | 5 => 8
  | 6 => 192
  | 7 => 192
  | 8 => 192
  | 10 => 64
  | 11 => 64
  | 12 => 1536
  | 13 => 1536
  | 14 => 1536
  | 16 => 600
  | 17 => 600
  | 18 => 600
  | 19 => 600
  | 20 => 600
  | 22 => 600
  | 27 => 2
  | 28 => 128
  | 29 => 128
  | 30 => 128
  | 31 => 128
  | 32 => 128
  | 33 => 3200
  | 34 => 2
  | 35 => 160
  | 36 => 160
  | 37 => 160
  | 38 => 160
  | 43 => 48
  | 44 => 48
  | 45 => 48
  | 46 => 2
  | 56 => 32
  | 57 => 32
  | 58 => 32
  | _ => 0
def mfs (s : mS) : List Value := [.ref 240, .ref 241, .ref 242, .ref 243, .ref 244, .ref 245, .ref 246, .ref 247, .ref 248, .int (s.1 9), .ref 249, .ref 250, .ref 251, .ref 252, .ref 253, .int (s.1 15), .ref 254, .ref 255, .ref 256, .ref 257, .ref 258, .int (s.1 21), .ref 259, .int (s.1 23), .long (s.2.1 24), .long (s.2.1 25), .long (s.2.1 26), .ref 260, .ref 261, .ref 262, .ref 263, .ref 264, .ref 265, .ref 266, .ref 267, .ref 268, .ref 269, .ref 270, .ref 271, .long (s.2.1 39), .long (s.2.1 40), .long (s.2.1 41), .long (s.2.1 42), .ref 272, .ref 273, .ref 274, .ref 275, .long (s.2.1 47), .long (s.2.1 48), .long (s.2.1 49), .long (s.2.1 50), .int (s.1 51), .long (s.2.1 52), .long (s.2.1 53), .int (s.1 54), .int (s.1 55), .ref 276, .ref 277, .ref 278]
def mseg (s : mS) : mh := [.inr (7, mfs s),
  .inl (0, 8, .inl (s.2.2.1 0)),
  .inl (0, 192, .inl (s.2.2.1 1)),
  .inl (0, 192, .inl (s.2.2.1 2)),
  .inl (0, 192, .inl (s.2.2.1 3)),
  .inl (0, 8, .inl (s.2.2.1 4)),
  .inl (0, 8, .inl (s.2.2.1 5)),
  .inl (0, 192, .inl (s.2.2.1 6)),
  .inl (0, 192, .inl (s.2.2.1 7)),
  .inl (0, 192, .inl (s.2.2.1 8)),
  .inl (0, 64, .inl (s.2.2.1 10)),
  .inl (0, 64, .inl (s.2.2.1 11)),
  .inl (0, 1536, .inl (s.2.2.1 12)),
  .inl (0, 1536, .inl (s.2.2.1 13)),
  .inl (0, 1536, .inl (s.2.2.1 14)),
  .inl (1, 600, .inr (.inl (s.2.2.2 16))),
  .inl (1, 600, .inr (.inl (s.2.2.2 17))),
  .inl (1, 600, .inr (.inl (s.2.2.2 18))),
  .inl (2, 600, .inl (s.2.2.1 19)),
  .inl (0, 600, .inl (s.2.2.1 20)),
  .inl (0, 600, .inl (s.2.2.1 22)),
  .inl (0, 2, .inl (s.2.2.1 27)),
  .inl (1, 128, .inr (.inl (s.2.2.2 28))),
  .inl (1, 128, .inr (.inl (s.2.2.2 29))),
  .inl (1, 128, .inr (.inl (s.2.2.2 30))),
  .inl (1, 128, .inr (.inl (s.2.2.2 31))),
  .inl (0, 128, .inl (s.2.2.1 32)),
  .inl (0, 3200, .inl (s.2.2.1 33)),
  .inl (0, 2, .inl (s.2.2.1 34)),
  .inl (0, 160, .inl (s.2.2.1 35)),
  .inl (0, 160, .inl (s.2.2.1 36)),
  .inl (0, 160, .inl (s.2.2.1 37)),
  .inl (0, 160, .inl (s.2.2.1 38)),
  .inl (1, 48, .inr (.inl (s.2.2.2 43))),
  .inl (1, 48, .inr (.inl (s.2.2.2 44))),
  .inl (1, 48, .inr (.inl (s.2.2.2 45))),
  .inl (0, 2, .inl (s.2.2.1 46)),
  .inl (1, 32, .inr (.inl (s.2.2.2 56))),
  .inl (1, 32, .inr (.inl (s.2.2.2 57))),
  .inl (1, 32, .inr (.inl (s.2.2.2 58)))]
def hM (C : mh) (s : mS) : mh := C ++ mseg s
def pI (s : mS) (k : Nat) (v : Int32) : mS := (upd s.1 k v, s.2)
def pJ (s : mS) (k : Nat) (v : Int64) : mS := (s.1, vp_updL s.2.1 k v, s.2.2)
def rA (s : mS) (k : Nat) (i : Int32) : Option Int32 := if i < 0 ∨ aN k ≤ i.toNatClampNeg then none else some (s.2.2.1 k i.toNatClampNeg)
def rG (s : mS) (k : Nat) (i : Int32) : Option Int64 := if i < 0 ∨ aN k ≤ i.toNatClampNeg then none else some (s.2.2.2 k i.toNatClampNeg)
def wA (s : mS) (k : Nat) (i v : Int32) : Option mS := if i < 0 ∨ aN k ≤ i.toNatClampNeg then none else some (s.1, s.2.1, va_up s.2.2.1 k (upd (s.2.2.1 k) i.toNatClampNeg v), s.2.2.2)
def wB (s : mS) (k : Nat) (i v : Int32) : Option mS := if i < 0 ∨ aN k ≤ i.toNatClampNeg then none else some (s.1, s.2.1, va_up s.2.2.1 k (upd (s.2.2.1 k) i.toNatClampNeg (vp_nar .boolean v)), s.2.2.2)
def wG (s : mS) (k : Nat) (i : Int32) (v : Int64) : Option mS := if i < 0 ∨ aN k ≤ i.toNatClampNeg then none else some (s.1, s.2.1, s.2.2.1, va_up s.2.2.2 k (vp_updL (s.2.2.2 k) i.toNatClampNeg v))
section MSX
variable {C : mh} {s s2 : mS} {i v : Int32} {v2 : Int64}
theorem hM_at (hC : C.length = 239) {p j : Nat} {x : va_E} (hp : p = 239 + j) (hx : (mseg s)[j]? = some x) : (hM C s)[p]? = some x := by
  subst hp
  unfold hM
  rw [List.getElem?_append_right (by omega), ← hx]
  congr 1
  omega
theorem hM_set (hC : C.length = 239) {p j : Nat} {x : va_E} (hp : p = 239 + j) (hx : (mseg s).set j x = mseg s2) : (hM C s).set p x = hM C s2 := by
  subst hp
  unfold hM
  rw [List.set_append_right _ _ (by omega), ← hx]
  congr 2
  omega
theorem md_O (hC : C.length = 239) : kO (hM C s) 239 7 = some (mfs s) := by
  unfold kO
  rw [hM_at (s := s) hC (j := 0) rfl rfl]
  rfl
theorem md_0 (hC : C.length = 239) : gR (hM C s) 239 7 0 = some 240 := by
  unfold gR
  rw [md_O hC]
  rfl
theorem ra_0 (hC : C.length = 239) (e : rA s 0 i = some v) : aI (hM C s) 240 i = some v := by
  unfold aI
  rw [hM_at (s := s) hC (j := 1) rfl rfl]
  exact e
theorem wa_0 (hC : C.length = 239) (e : wA s 0 i v = some s2) : wI (hM C s) 240 i v = some (hM C s2) := by
  unfold wI
  rw [hM_at (s := s) hC (j := 1) rfl rfl]
  unfold wA at e
  split at e
  · cases e
  · rename_i hc
    cases e
    show (if i < 0 ∨ 8 ≤ i.toNatClampNeg then none else some ((hM C s).set 240 _)) = _
    rw [if_neg (show ¬ (i < 0 ∨ 8 ≤ i.toNatClampNeg) from hc)]
    exact congrArg some (hM_set (s := s) (p := 240) hC (j := 1) rfl rfl)
theorem md_1 (hC : C.length = 239) : gR (hM C s) 239 7 1 = some 241 := by
  unfold gR
  rw [md_O hC]
  rfl
theorem ra_1 (hC : C.length = 239) (e : rA s 1 i = some v) : aI (hM C s) 241 i = some v := by
  unfold aI
  rw [hM_at (s := s) hC (j := 2) rfl rfl]
  exact e
theorem wa_1 (hC : C.length = 239) (e : wA s 1 i v = some s2) : wI (hM C s) 241 i v = some (hM C s2) := by
  unfold wI
  rw [hM_at (s := s) hC (j := 2) rfl rfl]
  unfold wA at e
  split at e
  · cases e
  · rename_i hc
    cases e
    show (if i < 0 ∨ 192 ≤ i.toNatClampNeg then none else some ((hM C s).set 241 _)) = _
    rw [if_neg (show ¬ (i < 0 ∨ 192 ≤ i.toNatClampNeg) from hc)]
    exact congrArg some (hM_set (s := s) (p := 241) hC (j := 2) rfl rfl)
theorem md_2 (hC : C.length = 239) : gR (hM C s) 239 7 2 = some 242 := by
  unfold gR
  rw [md_O hC]
  rfl
theorem ra_2 (hC : C.length = 239) (e : rA s 2 i = some v) : aI (hM C s) 242 i = some v := by
  unfold aI
  rw [hM_at (s := s) hC (j := 3) rfl rfl]
  exact e
theorem wa_2 (hC : C.length = 239) (e : wA s 2 i v = some s2) : wI (hM C s) 242 i v = some (hM C s2) := by
  unfold wI
  rw [hM_at (s := s) hC (j := 3) rfl rfl]
  unfold wA at e
  split at e
  · cases e
  · rename_i hc
    cases e
    show (if i < 0 ∨ 192 ≤ i.toNatClampNeg then none else some ((hM C s).set 242 _)) = _
    rw [if_neg (show ¬ (i < 0 ∨ 192 ≤ i.toNatClampNeg) from hc)]
    exact congrArg some (hM_set (s := s) (p := 242) hC (j := 3) rfl rfl)
theorem md_3 (hC : C.length = 239) : gR (hM C s) 239 7 3 = some 243 := by
  unfold gR
  rw [md_O hC]
  rfl
theorem ra_3 (hC : C.length = 239) (e : rA s 3 i = some v) : aI (hM C s) 243 i = some v := by
  unfold aI
  rw [hM_at (s := s) hC (j := 4) rfl rfl]
  exact e
theorem wa_3 (hC : C.length = 239) (e : wA s 3 i v = some s2) : wI (hM C s) 243 i v = some (hM C s2) := by
  unfold wI
  rw [hM_at (s := s) hC (j := 4) rfl rfl]
  unfold wA at e
  split at e
  · cases e
  · rename_i hc
    cases e
    show (if i < 0 ∨ 192 ≤ i.toNatClampNeg then none else some ((hM C s).set 243 _)) = _
    rw [if_neg (show ¬ (i < 0 ∨ 192 ≤ i.toNatClampNeg) from hc)]
    exact congrArg some (hM_set (s := s) (p := 243) hC (j := 4) rfl rfl)
theorem md_4 (hC : C.length = 239) : gR (hM C s) 239 7 4 = some 244 := by
  unfold gR
  rw [md_O hC]
  rfl
theorem ra_4 (hC : C.length = 239) (e : rA s 4 i = some v) : aI (hM C s) 244 i = some v := by
  unfold aI
  rw [hM_at (s := s) hC (j := 5) rfl rfl]
  exact e
theorem wa_4 (hC : C.length = 239) (e : wA s 4 i v = some s2) : wI (hM C s) 244 i v = some (hM C s2) := by
  unfold wI
  rw [hM_at (s := s) hC (j := 5) rfl rfl]
  unfold wA at e
  split at e
  · cases e
  · rename_i hc
    cases e
    show (if i < 0 ∨ 8 ≤ i.toNatClampNeg then none else some ((hM C s).set 244 _)) = _
    rw [if_neg (show ¬ (i < 0 ∨ 8 ≤ i.toNatClampNeg) from hc)]
    exact congrArg some (hM_set (s := s) (p := 244) hC (j := 5) rfl rfl)
theorem md_5 (hC : C.length = 239) : gR (hM C s) 239 7 5 = some 245 := by
  unfold gR
  rw [md_O hC]
  rfl
theorem ra_5 (hC : C.length = 239) (e : rA s 5 i = some v) : aI (hM C s) 245 i = some v := by
  unfold aI
  rw [hM_at (s := s) hC (j := 6) rfl rfl]
  exact e
theorem wa_5 (hC : C.length = 239) (e : wA s 5 i v = some s2) : wI (hM C s) 245 i v = some (hM C s2) := by
  unfold wI
  rw [hM_at (s := s) hC (j := 6) rfl rfl]
  unfold wA at e
  split at e
  · cases e
  · rename_i hc
    cases e
    show (if i < 0 ∨ 8 ≤ i.toNatClampNeg then none else some ((hM C s).set 245 _)) = _
    rw [if_neg (show ¬ (i < 0 ∨ 8 ≤ i.toNatClampNeg) from hc)]
    exact congrArg some (hM_set (s := s) (p := 245) hC (j := 6) rfl rfl)
theorem md_6 (hC : C.length = 239) : gR (hM C s) 239 7 6 = some 246 := by
  unfold gR
  rw [md_O hC]
  rfl
theorem ra_6 (hC : C.length = 239) (e : rA s 6 i = some v) : aI (hM C s) 246 i = some v := by
  unfold aI
  rw [hM_at (s := s) hC (j := 7) rfl rfl]
  exact e
theorem wa_6 (hC : C.length = 239) (e : wA s 6 i v = some s2) : wI (hM C s) 246 i v = some (hM C s2) := by
  unfold wI
  rw [hM_at (s := s) hC (j := 7) rfl rfl]
  unfold wA at e
  split at e
  · cases e
  · rename_i hc
    cases e
    show (if i < 0 ∨ 192 ≤ i.toNatClampNeg then none else some ((hM C s).set 246 _)) = _
    rw [if_neg (show ¬ (i < 0 ∨ 192 ≤ i.toNatClampNeg) from hc)]
    exact congrArg some (hM_set (s := s) (p := 246) hC (j := 7) rfl rfl)
theorem md_7 (hC : C.length = 239) : gR (hM C s) 239 7 7 = some 247 := by
  unfold gR
  rw [md_O hC]
  rfl
theorem ra_7 (hC : C.length = 239) (e : rA s 7 i = some v) : aI (hM C s) 247 i = some v := by
  unfold aI
  rw [hM_at (s := s) hC (j := 8) rfl rfl]
  exact e
theorem wa_7 (hC : C.length = 239) (e : wA s 7 i v = some s2) : wI (hM C s) 247 i v = some (hM C s2) := by
  unfold wI
  rw [hM_at (s := s) hC (j := 8) rfl rfl]
  unfold wA at e
  split at e
  · cases e
  · rename_i hc
    cases e
    show (if i < 0 ∨ 192 ≤ i.toNatClampNeg then none else some ((hM C s).set 247 _)) = _
    rw [if_neg (show ¬ (i < 0 ∨ 192 ≤ i.toNatClampNeg) from hc)]
    exact congrArg some (hM_set (s := s) (p := 247) hC (j := 8) rfl rfl)
theorem md_8 (hC : C.length = 239) : gR (hM C s) 239 7 8 = some 248 := by
  unfold gR
  rw [md_O hC]
  rfl
theorem ra_8 (hC : C.length = 239) (e : rA s 8 i = some v) : aI (hM C s) 248 i = some v := by
  unfold aI
  rw [hM_at (s := s) hC (j := 9) rfl rfl]
  exact e
theorem wa_8 (hC : C.length = 239) (e : wA s 8 i v = some s2) : wI (hM C s) 248 i v = some (hM C s2) := by
  unfold wI
  rw [hM_at (s := s) hC (j := 9) rfl rfl]
  unfold wA at e
  split at e
  · cases e
  · rename_i hc
    cases e
    show (if i < 0 ∨ 192 ≤ i.toNatClampNeg then none else some ((hM C s).set 248 _)) = _
    rw [if_neg (show ¬ (i < 0 ∨ 192 ≤ i.toNatClampNeg) from hc)]
    exact congrArg some (hM_set (s := s) (p := 248) hC (j := 9) rfl rfl)
theorem md_9 (hC : C.length = 239) : gI (hM C s) 239 7 9 = some (s.1 9) := by
  unfold gI
  rw [md_O hC]
  rfl
theorem ps_9 (hC : C.length = 239) : sV (hM C s) 239 7 9 (.int v) = some (hM C (pI s 9 v)) := by
  unfold sV
  rw [md_O hC, Option.bind_some, if_pos (show 9 < (mfs s).length from (by decide : 9 < 59))]
  exact congrArg some (hM_set (s := s) (s2 := pI s 9 v) (p := 239) hC (j := 0) rfl rfl)
theorem md_10 (hC : C.length = 239) : gR (hM C s) 239 7 10 = some 249 := by
  unfold gR
  rw [md_O hC]
  rfl
theorem ra_10 (hC : C.length = 239) (e : rA s 10 i = some v) : aI (hM C s) 249 i = some v := by
  unfold aI
  rw [hM_at (s := s) hC (j := 10) rfl rfl]
  exact e
theorem wa_10 (hC : C.length = 239) (e : wA s 10 i v = some s2) : wI (hM C s) 249 i v = some (hM C s2) := by
  unfold wI
  rw [hM_at (s := s) hC (j := 10) rfl rfl]
  unfold wA at e
  split at e
  · cases e
  · rename_i hc
    cases e
    show (if i < 0 ∨ 64 ≤ i.toNatClampNeg then none else some ((hM C s).set 249 _)) = _
    rw [if_neg (show ¬ (i < 0 ∨ 64 ≤ i.toNatClampNeg) from hc)]
    exact congrArg some (hM_set (s := s) (p := 249) hC (j := 10) rfl rfl)
theorem md_11 (hC : C.length = 239) : gR (hM C s) 239 7 11 = some 250 := by
  unfold gR
  rw [md_O hC]
  rfl
theorem ra_11 (hC : C.length = 239) (e : rA s 11 i = some v) : aI (hM C s) 250 i = some v := by
  unfold aI
  rw [hM_at (s := s) hC (j := 11) rfl rfl]
  exact e
theorem wa_11 (hC : C.length = 239) (e : wA s 11 i v = some s2) : wI (hM C s) 250 i v = some (hM C s2) := by
  unfold wI
  rw [hM_at (s := s) hC (j := 11) rfl rfl]
  unfold wA at e
  split at e
  · cases e
  · rename_i hc
    cases e
    show (if i < 0 ∨ 64 ≤ i.toNatClampNeg then none else some ((hM C s).set 250 _)) = _
    rw [if_neg (show ¬ (i < 0 ∨ 64 ≤ i.toNatClampNeg) from hc)]
    exact congrArg some (hM_set (s := s) (p := 250) hC (j := 11) rfl rfl)
theorem md_12 (hC : C.length = 239) : gR (hM C s) 239 7 12 = some 251 := by
  unfold gR
  rw [md_O hC]
  rfl
theorem ra_12 (hC : C.length = 239) (e : rA s 12 i = some v) : aI (hM C s) 251 i = some v := by
  unfold aI
  rw [hM_at (s := s) hC (j := 12) rfl rfl]
  exact e
theorem wa_12 (hC : C.length = 239) (e : wA s 12 i v = some s2) : wI (hM C s) 251 i v = some (hM C s2) := by
  unfold wI
  rw [hM_at (s := s) hC (j := 12) rfl rfl]
  unfold wA at e
  split at e
  · cases e
  · rename_i hc
    cases e
    show (if i < 0 ∨ 1536 ≤ i.toNatClampNeg then none else some ((hM C s).set 251 _)) = _
    rw [if_neg (show ¬ (i < 0 ∨ 1536 ≤ i.toNatClampNeg) from hc)]
    exact congrArg some (hM_set (s := s) (p := 251) hC (j := 12) rfl rfl)
theorem md_13 (hC : C.length = 239) : gR (hM C s) 239 7 13 = some 252 := by
  unfold gR
  rw [md_O hC]
  rfl
theorem ra_13 (hC : C.length = 239) (e : rA s 13 i = some v) : aI (hM C s) 252 i = some v := by
  unfold aI
  rw [hM_at (s := s) hC (j := 13) rfl rfl]
  exact e
theorem wa_13 (hC : C.length = 239) (e : wA s 13 i v = some s2) : wI (hM C s) 252 i v = some (hM C s2) := by
  unfold wI
  rw [hM_at (s := s) hC (j := 13) rfl rfl]
  unfold wA at e
  split at e
  · cases e
  · rename_i hc
    cases e
    show (if i < 0 ∨ 1536 ≤ i.toNatClampNeg then none else some ((hM C s).set 252 _)) = _
    rw [if_neg (show ¬ (i < 0 ∨ 1536 ≤ i.toNatClampNeg) from hc)]
    exact congrArg some (hM_set (s := s) (p := 252) hC (j := 13) rfl rfl)
theorem md_14 (hC : C.length = 239) : gR (hM C s) 239 7 14 = some 253 := by
  unfold gR
  rw [md_O hC]
  rfl
theorem ra_14 (hC : C.length = 239) (e : rA s 14 i = some v) : aI (hM C s) 253 i = some v := by
  unfold aI
  rw [hM_at (s := s) hC (j := 14) rfl rfl]
  exact e
theorem wa_14 (hC : C.length = 239) (e : wA s 14 i v = some s2) : wI (hM C s) 253 i v = some (hM C s2) := by
  unfold wI
  rw [hM_at (s := s) hC (j := 14) rfl rfl]
  unfold wA at e
  split at e
  · cases e
  · rename_i hc
    cases e
    show (if i < 0 ∨ 1536 ≤ i.toNatClampNeg then none else some ((hM C s).set 253 _)) = _
    rw [if_neg (show ¬ (i < 0 ∨ 1536 ≤ i.toNatClampNeg) from hc)]
    exact congrArg some (hM_set (s := s) (p := 253) hC (j := 14) rfl rfl)
theorem md_15 (hC : C.length = 239) : gI (hM C s) 239 7 15 = some (s.1 15) := by
  unfold gI
  rw [md_O hC]
  rfl
theorem ps_15 (hC : C.length = 239) : sV (hM C s) 239 7 15 (.int v) = some (hM C (pI s 15 v)) := by
  unfold sV
  rw [md_O hC, Option.bind_some, if_pos (show 15 < (mfs s).length from (by decide : 15 < 59))]
  exact congrArg some (hM_set (s := s) (s2 := pI s 15 v) (p := 239) hC (j := 0) rfl rfl)
theorem md_16 (hC : C.length = 239) : gR (hM C s) 239 7 16 = some 254 := by
  unfold gR
  rw [md_O hC]
  rfl
theorem ra_16 (hC : C.length = 239) (e : rG s 16 i = some v2) : aJ (hM C s) 254 i = some v2 := by
  unfold aJ
  rw [hM_at (s := s) hC (j := 15) rfl rfl]
  exact e
theorem wa_16 (hC : C.length = 239) (e : wG s 16 i v2 = some s2) : wJ (hM C s) 254 i v2 = some (hM C s2) := by
  unfold wJ
  rw [hM_at (s := s) hC (j := 15) rfl rfl]
  unfold wG at e
  split at e
  · cases e
  · rename_i hc
    cases e
    show (if i < 0 ∨ 600 ≤ i.toNatClampNeg then none else some ((hM C s).set 254 _)) = _
    rw [if_neg (show ¬ (i < 0 ∨ 600 ≤ i.toNatClampNeg) from hc)]
    exact congrArg some (hM_set (s := s) (p := 254) hC (j := 15) rfl rfl)
theorem md_17 (hC : C.length = 239) : gR (hM C s) 239 7 17 = some 255 := by
  unfold gR
  rw [md_O hC]
  rfl
theorem ra_17 (hC : C.length = 239) (e : rG s 17 i = some v2) : aJ (hM C s) 255 i = some v2 := by
  unfold aJ
  rw [hM_at (s := s) hC (j := 16) rfl rfl]
  exact e
theorem wa_17 (hC : C.length = 239) (e : wG s 17 i v2 = some s2) : wJ (hM C s) 255 i v2 = some (hM C s2) := by
  unfold wJ
  rw [hM_at (s := s) hC (j := 16) rfl rfl]
  unfold wG at e
  split at e
  · cases e
  · rename_i hc
    cases e
    show (if i < 0 ∨ 600 ≤ i.toNatClampNeg then none else some ((hM C s).set 255 _)) = _
    rw [if_neg (show ¬ (i < 0 ∨ 600 ≤ i.toNatClampNeg) from hc)]
    exact congrArg some (hM_set (s := s) (p := 255) hC (j := 16) rfl rfl)
theorem md_18 (hC : C.length = 239) : gR (hM C s) 239 7 18 = some 256 := by
  unfold gR
  rw [md_O hC]
  rfl
theorem ra_18 (hC : C.length = 239) (e : rG s 18 i = some v2) : aJ (hM C s) 256 i = some v2 := by
  unfold aJ
  rw [hM_at (s := s) hC (j := 17) rfl rfl]
  exact e
theorem wa_18 (hC : C.length = 239) (e : wG s 18 i v2 = some s2) : wJ (hM C s) 256 i v2 = some (hM C s2) := by
  unfold wJ
  rw [hM_at (s := s) hC (j := 17) rfl rfl]
  unfold wG at e
  split at e
  · cases e
  · rename_i hc
    cases e
    show (if i < 0 ∨ 600 ≤ i.toNatClampNeg then none else some ((hM C s).set 256 _)) = _
    rw [if_neg (show ¬ (i < 0 ∨ 600 ≤ i.toNatClampNeg) from hc)]
    exact congrArg some (hM_set (s := s) (p := 256) hC (j := 17) rfl rfl)
theorem md_19 (hC : C.length = 239) : gR (hM C s) 239 7 19 = some 257 := by
  unfold gR
  rw [md_O hC]
  rfl
theorem ra_19 (hC : C.length = 239) (e : rA s 19 i = some v) : aZ (hM C s) 257 i = some v := by
  unfold aZ
  rw [hM_at (s := s) hC (j := 18) rfl rfl]
  exact e
theorem wa_19 (hC : C.length = 239) (e : wB s 19 i v = some s2) : wZ (hM C s) 257 i v = some (hM C s2) := by
  unfold wZ
  rw [hM_at (s := s) hC (j := 18) rfl rfl]
  unfold wB at e
  split at e
  · cases e
  · rename_i hc
    cases e
    show (if i < 0 ∨ 600 ≤ i.toNatClampNeg then none else some ((hM C s).set 257 _)) = _
    rw [if_neg (show ¬ (i < 0 ∨ 600 ≤ i.toNatClampNeg) from hc)]
    exact congrArg some (hM_set (s := s) (p := 257) hC (j := 18) rfl rfl)
theorem md_20 (hC : C.length = 239) : gR (hM C s) 239 7 20 = some 258 := by
  unfold gR
  rw [md_O hC]
  rfl
theorem ra_20 (hC : C.length = 239) (e : rA s 20 i = some v) : aI (hM C s) 258 i = some v := by
  unfold aI
  rw [hM_at (s := s) hC (j := 19) rfl rfl]
  exact e
theorem wa_20 (hC : C.length = 239) (e : wA s 20 i v = some s2) : wI (hM C s) 258 i v = some (hM C s2) := by
  unfold wI
  rw [hM_at (s := s) hC (j := 19) rfl rfl]
  unfold wA at e
  split at e
  · cases e
  · rename_i hc
    cases e
    show (if i < 0 ∨ 600 ≤ i.toNatClampNeg then none else some ((hM C s).set 258 _)) = _
    rw [if_neg (show ¬ (i < 0 ∨ 600 ≤ i.toNatClampNeg) from hc)]
    exact congrArg some (hM_set (s := s) (p := 258) hC (j := 19) rfl rfl)
theorem md_21 (hC : C.length = 239) : gI (hM C s) 239 7 21 = some (s.1 21) := by
  unfold gI
  rw [md_O hC]
  rfl
theorem ps_21 (hC : C.length = 239) : sV (hM C s) 239 7 21 (.int v) = some (hM C (pI s 21 v)) := by
  unfold sV
  rw [md_O hC, Option.bind_some, if_pos (show 21 < (mfs s).length from (by decide : 21 < 59))]
  exact congrArg some (hM_set (s := s) (s2 := pI s 21 v) (p := 239) hC (j := 0) rfl rfl)
theorem md_22 (hC : C.length = 239) : gR (hM C s) 239 7 22 = some 259 := by
  unfold gR
  rw [md_O hC]
  rfl
theorem ra_22 (hC : C.length = 239) (e : rA s 22 i = some v) : aI (hM C s) 259 i = some v := by
  unfold aI
  rw [hM_at (s := s) hC (j := 20) rfl rfl]
  exact e
theorem wa_22 (hC : C.length = 239) (e : wA s 22 i v = some s2) : wI (hM C s) 259 i v = some (hM C s2) := by
  unfold wI
  rw [hM_at (s := s) hC (j := 20) rfl rfl]
  unfold wA at e
  split at e
  · cases e
  · rename_i hc
    cases e
    show (if i < 0 ∨ 600 ≤ i.toNatClampNeg then none else some ((hM C s).set 259 _)) = _
    rw [if_neg (show ¬ (i < 0 ∨ 600 ≤ i.toNatClampNeg) from hc)]
    exact congrArg some (hM_set (s := s) (p := 259) hC (j := 20) rfl rfl)
theorem md_23 (hC : C.length = 239) : gI (hM C s) 239 7 23 = some (s.1 23) := by
  unfold gI
  rw [md_O hC]
  rfl
theorem ps_23 (hC : C.length = 239) : sV (hM C s) 239 7 23 (.int v) = some (hM C (pI s 23 v)) := by
  unfold sV
  rw [md_O hC, Option.bind_some, if_pos (show 23 < (mfs s).length from (by decide : 23 < 59))]
  exact congrArg some (hM_set (s := s) (s2 := pI s 23 v) (p := 239) hC (j := 0) rfl rfl)
theorem md_24 (hC : C.length = 239) : gJ (hM C s) 239 7 24 = some (s.2.1 24) := by
  unfold gJ
  rw [md_O hC]
  rfl
theorem ps_24 (hC : C.length = 239) : sV (hM C s) 239 7 24 (.long v2) = some (hM C (pJ s 24 v2)) := by
  unfold sV
  rw [md_O hC, Option.bind_some, if_pos (show 24 < (mfs s).length from (by decide : 24 < 59))]
  exact congrArg some (hM_set (s := s) (s2 := pJ s 24 v2) (p := 239) hC (j := 0) rfl rfl)
theorem md_25 (hC : C.length = 239) : gJ (hM C s) 239 7 25 = some (s.2.1 25) := by
  unfold gJ
  rw [md_O hC]
  rfl
theorem ps_25 (hC : C.length = 239) : sV (hM C s) 239 7 25 (.long v2) = some (hM C (pJ s 25 v2)) := by
  unfold sV
  rw [md_O hC, Option.bind_some, if_pos (show 25 < (mfs s).length from (by decide : 25 < 59))]
  exact congrArg some (hM_set (s := s) (s2 := pJ s 25 v2) (p := 239) hC (j := 0) rfl rfl)
theorem md_26 (hC : C.length = 239) : gJ (hM C s) 239 7 26 = some (s.2.1 26) := by
  unfold gJ
  rw [md_O hC]
  rfl
theorem ps_26 (hC : C.length = 239) : sV (hM C s) 239 7 26 (.long v2) = some (hM C (pJ s 26 v2)) := by
  unfold sV
  rw [md_O hC, Option.bind_some, if_pos (show 26 < (mfs s).length from (by decide : 26 < 59))]
  exact congrArg some (hM_set (s := s) (s2 := pJ s 26 v2) (p := 239) hC (j := 0) rfl rfl)
theorem md_27 (hC : C.length = 239) : gR (hM C s) 239 7 27 = some 260 := by
  unfold gR
  rw [md_O hC]
  rfl
theorem ra_27 (hC : C.length = 239) (e : rA s 27 i = some v) : aI (hM C s) 260 i = some v := by
  unfold aI
  rw [hM_at (s := s) hC (j := 21) rfl rfl]
  exact e
theorem wa_27 (hC : C.length = 239) (e : wA s 27 i v = some s2) : wI (hM C s) 260 i v = some (hM C s2) := by
  unfold wI
  rw [hM_at (s := s) hC (j := 21) rfl rfl]
  unfold wA at e
  split at e
  · cases e
  · rename_i hc
    cases e
    show (if i < 0 ∨ 2 ≤ i.toNatClampNeg then none else some ((hM C s).set 260 _)) = _
    rw [if_neg (show ¬ (i < 0 ∨ 2 ≤ i.toNatClampNeg) from hc)]
    exact congrArg some (hM_set (s := s) (p := 260) hC (j := 21) rfl rfl)
theorem md_28 (hC : C.length = 239) : gR (hM C s) 239 7 28 = some 261 := by
  unfold gR
  rw [md_O hC]
  rfl
theorem ra_28 (hC : C.length = 239) (e : rG s 28 i = some v2) : aJ (hM C s) 261 i = some v2 := by
  unfold aJ
  rw [hM_at (s := s) hC (j := 22) rfl rfl]
  exact e
theorem wa_28 (hC : C.length = 239) (e : wG s 28 i v2 = some s2) : wJ (hM C s) 261 i v2 = some (hM C s2) := by
  unfold wJ
  rw [hM_at (s := s) hC (j := 22) rfl rfl]
  unfold wG at e
  split at e
  · cases e
  · rename_i hc
    cases e
    show (if i < 0 ∨ 128 ≤ i.toNatClampNeg then none else some ((hM C s).set 261 _)) = _
    rw [if_neg (show ¬ (i < 0 ∨ 128 ≤ i.toNatClampNeg) from hc)]
    exact congrArg some (hM_set (s := s) (p := 261) hC (j := 22) rfl rfl)
theorem md_29 (hC : C.length = 239) : gR (hM C s) 239 7 29 = some 262 := by
  unfold gR
  rw [md_O hC]
  rfl
theorem ra_29 (hC : C.length = 239) (e : rG s 29 i = some v2) : aJ (hM C s) 262 i = some v2 := by
  unfold aJ
  rw [hM_at (s := s) hC (j := 23) rfl rfl]
  exact e
theorem wa_29 (hC : C.length = 239) (e : wG s 29 i v2 = some s2) : wJ (hM C s) 262 i v2 = some (hM C s2) := by
  unfold wJ
  rw [hM_at (s := s) hC (j := 23) rfl rfl]
  unfold wG at e
  split at e
  · cases e
  · rename_i hc
    cases e
    show (if i < 0 ∨ 128 ≤ i.toNatClampNeg then none else some ((hM C s).set 262 _)) = _
    rw [if_neg (show ¬ (i < 0 ∨ 128 ≤ i.toNatClampNeg) from hc)]
    exact congrArg some (hM_set (s := s) (p := 262) hC (j := 23) rfl rfl)
theorem md_30 (hC : C.length = 239) : gR (hM C s) 239 7 30 = some 263 := by
  unfold gR
  rw [md_O hC]
  rfl
theorem ra_30 (hC : C.length = 239) (e : rG s 30 i = some v2) : aJ (hM C s) 263 i = some v2 := by
  unfold aJ
  rw [hM_at (s := s) hC (j := 24) rfl rfl]
  exact e
theorem wa_30 (hC : C.length = 239) (e : wG s 30 i v2 = some s2) : wJ (hM C s) 263 i v2 = some (hM C s2) := by
  unfold wJ
  rw [hM_at (s := s) hC (j := 24) rfl rfl]
  unfold wG at e
  split at e
  · cases e
  · rename_i hc
    cases e
    show (if i < 0 ∨ 128 ≤ i.toNatClampNeg then none else some ((hM C s).set 263 _)) = _
    rw [if_neg (show ¬ (i < 0 ∨ 128 ≤ i.toNatClampNeg) from hc)]
    exact congrArg some (hM_set (s := s) (p := 263) hC (j := 24) rfl rfl)
theorem md_31 (hC : C.length = 239) : gR (hM C s) 239 7 31 = some 264 := by
  unfold gR
  rw [md_O hC]
  rfl
theorem ra_31 (hC : C.length = 239) (e : rG s 31 i = some v2) : aJ (hM C s) 264 i = some v2 := by
  unfold aJ
  rw [hM_at (s := s) hC (j := 25) rfl rfl]
  exact e
theorem wa_31 (hC : C.length = 239) (e : wG s 31 i v2 = some s2) : wJ (hM C s) 264 i v2 = some (hM C s2) := by
  unfold wJ
  rw [hM_at (s := s) hC (j := 25) rfl rfl]
  unfold wG at e
  split at e
  · cases e
  · rename_i hc
    cases e
    show (if i < 0 ∨ 128 ≤ i.toNatClampNeg then none else some ((hM C s).set 264 _)) = _
    rw [if_neg (show ¬ (i < 0 ∨ 128 ≤ i.toNatClampNeg) from hc)]
    exact congrArg some (hM_set (s := s) (p := 264) hC (j := 25) rfl rfl)
theorem md_32 (hC : C.length = 239) : gR (hM C s) 239 7 32 = some 265 := by
  unfold gR
  rw [md_O hC]
  rfl
theorem ra_32 (hC : C.length = 239) (e : rA s 32 i = some v) : aI (hM C s) 265 i = some v := by
  unfold aI
  rw [hM_at (s := s) hC (j := 26) rfl rfl]
  exact e
theorem wa_32 (hC : C.length = 239) (e : wA s 32 i v = some s2) : wI (hM C s) 265 i v = some (hM C s2) := by
  unfold wI
  rw [hM_at (s := s) hC (j := 26) rfl rfl]
  unfold wA at e
  split at e
  · cases e
  · rename_i hc
    cases e
    show (if i < 0 ∨ 128 ≤ i.toNatClampNeg then none else some ((hM C s).set 265 _)) = _
    rw [if_neg (show ¬ (i < 0 ∨ 128 ≤ i.toNatClampNeg) from hc)]
    exact congrArg some (hM_set (s := s) (p := 265) hC (j := 26) rfl rfl)
theorem md_33 (hC : C.length = 239) : gR (hM C s) 239 7 33 = some 266 := by
  unfold gR
  rw [md_O hC]
  rfl
theorem ra_33 (hC : C.length = 239) (e : rA s 33 i = some v) : aI (hM C s) 266 i = some v := by
  unfold aI
  rw [hM_at (s := s) hC (j := 27) rfl rfl]
  exact e
theorem wa_33 (hC : C.length = 239) (e : wA s 33 i v = some s2) : wI (hM C s) 266 i v = some (hM C s2) := by
  unfold wI
  rw [hM_at (s := s) hC (j := 27) rfl rfl]
  unfold wA at e
  split at e
  · cases e
  · rename_i hc
    cases e
    show (if i < 0 ∨ 3200 ≤ i.toNatClampNeg then none else some ((hM C s).set 266 _)) = _
    rw [if_neg (show ¬ (i < 0 ∨ 3200 ≤ i.toNatClampNeg) from hc)]
    exact congrArg some (hM_set (s := s) (p := 266) hC (j := 27) rfl rfl)
theorem md_34 (hC : C.length = 239) : gR (hM C s) 239 7 34 = some 267 := by
  unfold gR
  rw [md_O hC]
  rfl
theorem ra_34 (hC : C.length = 239) (e : rA s 34 i = some v) : aI (hM C s) 267 i = some v := by
  unfold aI
  rw [hM_at (s := s) hC (j := 28) rfl rfl]
  exact e
theorem wa_34 (hC : C.length = 239) (e : wA s 34 i v = some s2) : wI (hM C s) 267 i v = some (hM C s2) := by
  unfold wI
  rw [hM_at (s := s) hC (j := 28) rfl rfl]
  unfold wA at e
  split at e
  · cases e
  · rename_i hc
    cases e
    show (if i < 0 ∨ 2 ≤ i.toNatClampNeg then none else some ((hM C s).set 267 _)) = _
    rw [if_neg (show ¬ (i < 0 ∨ 2 ≤ i.toNatClampNeg) from hc)]
    exact congrArg some (hM_set (s := s) (p := 267) hC (j := 28) rfl rfl)
theorem md_35 (hC : C.length = 239) : gR (hM C s) 239 7 35 = some 268 := by
  unfold gR
  rw [md_O hC]
  rfl
theorem ra_35 (hC : C.length = 239) (e : rA s 35 i = some v) : aI (hM C s) 268 i = some v := by
  unfold aI
  rw [hM_at (s := s) hC (j := 29) rfl rfl]
  exact e
theorem wa_35 (hC : C.length = 239) (e : wA s 35 i v = some s2) : wI (hM C s) 268 i v = some (hM C s2) := by
  unfold wI
  rw [hM_at (s := s) hC (j := 29) rfl rfl]
  unfold wA at e
  split at e
  · cases e
  · rename_i hc
    cases e
    show (if i < 0 ∨ 160 ≤ i.toNatClampNeg then none else some ((hM C s).set 268 _)) = _
    rw [if_neg (show ¬ (i < 0 ∨ 160 ≤ i.toNatClampNeg) from hc)]
    exact congrArg some (hM_set (s := s) (p := 268) hC (j := 29) rfl rfl)
theorem md_36 (hC : C.length = 239) : gR (hM C s) 239 7 36 = some 269 := by
  unfold gR
  rw [md_O hC]
  rfl
theorem ra_36 (hC : C.length = 239) (e : rA s 36 i = some v) : aI (hM C s) 269 i = some v := by
  unfold aI
  rw [hM_at (s := s) hC (j := 30) rfl rfl]
  exact e
theorem wa_36 (hC : C.length = 239) (e : wA s 36 i v = some s2) : wI (hM C s) 269 i v = some (hM C s2) := by
  unfold wI
  rw [hM_at (s := s) hC (j := 30) rfl rfl]
  unfold wA at e
  split at e
  · cases e
  · rename_i hc
    cases e
    show (if i < 0 ∨ 160 ≤ i.toNatClampNeg then none else some ((hM C s).set 269 _)) = _
    rw [if_neg (show ¬ (i < 0 ∨ 160 ≤ i.toNatClampNeg) from hc)]
    exact congrArg some (hM_set (s := s) (p := 269) hC (j := 30) rfl rfl)
theorem md_37 (hC : C.length = 239) : gR (hM C s) 239 7 37 = some 270 := by
  unfold gR
  rw [md_O hC]
  rfl
theorem ra_37 (hC : C.length = 239) (e : rA s 37 i = some v) : aI (hM C s) 270 i = some v := by
  unfold aI
  rw [hM_at (s := s) hC (j := 31) rfl rfl]
  exact e
theorem wa_37 (hC : C.length = 239) (e : wA s 37 i v = some s2) : wI (hM C s) 270 i v = some (hM C s2) := by
  unfold wI
  rw [hM_at (s := s) hC (j := 31) rfl rfl]
  unfold wA at e
  split at e
  · cases e
  · rename_i hc
    cases e
    show (if i < 0 ∨ 160 ≤ i.toNatClampNeg then none else some ((hM C s).set 270 _)) = _
    rw [if_neg (show ¬ (i < 0 ∨ 160 ≤ i.toNatClampNeg) from hc)]
    exact congrArg some (hM_set (s := s) (p := 270) hC (j := 31) rfl rfl)
theorem md_38 (hC : C.length = 239) : gR (hM C s) 239 7 38 = some 271 := by
  unfold gR
  rw [md_O hC]
  rfl
theorem ra_38 (hC : C.length = 239) (e : rA s 38 i = some v) : aI (hM C s) 271 i = some v := by
  unfold aI
  rw [hM_at (s := s) hC (j := 32) rfl rfl]
  exact e
theorem wa_38 (hC : C.length = 239) (e : wA s 38 i v = some s2) : wI (hM C s) 271 i v = some (hM C s2) := by
  unfold wI
  rw [hM_at (s := s) hC (j := 32) rfl rfl]
  unfold wA at e
  split at e
  · cases e
  · rename_i hc
    cases e
    show (if i < 0 ∨ 160 ≤ i.toNatClampNeg then none else some ((hM C s).set 271 _)) = _
    rw [if_neg (show ¬ (i < 0 ∨ 160 ≤ i.toNatClampNeg) from hc)]
    exact congrArg some (hM_set (s := s) (p := 271) hC (j := 32) rfl rfl)
theorem md_39 (hC : C.length = 239) : gJ (hM C s) 239 7 39 = some (s.2.1 39) := by
  unfold gJ
  rw [md_O hC]
  rfl
theorem ps_39 (hC : C.length = 239) : sV (hM C s) 239 7 39 (.long v2) = some (hM C (pJ s 39 v2)) := by
  unfold sV
  rw [md_O hC, Option.bind_some, if_pos (show 39 < (mfs s).length from (by decide : 39 < 59))]
  exact congrArg some (hM_set (s := s) (s2 := pJ s 39 v2) (p := 239) hC (j := 0) rfl rfl)
theorem md_40 (hC : C.length = 239) : gJ (hM C s) 239 7 40 = some (s.2.1 40) := by
  unfold gJ
  rw [md_O hC]
  rfl
theorem ps_40 (hC : C.length = 239) : sV (hM C s) 239 7 40 (.long v2) = some (hM C (pJ s 40 v2)) := by
  unfold sV
  rw [md_O hC, Option.bind_some, if_pos (show 40 < (mfs s).length from (by decide : 40 < 59))]
  exact congrArg some (hM_set (s := s) (s2 := pJ s 40 v2) (p := 239) hC (j := 0) rfl rfl)
theorem md_41 (hC : C.length = 239) : gJ (hM C s) 239 7 41 = some (s.2.1 41) := by
  unfold gJ
  rw [md_O hC]
  rfl
theorem ps_41 (hC : C.length = 239) : sV (hM C s) 239 7 41 (.long v2) = some (hM C (pJ s 41 v2)) := by
  unfold sV
  rw [md_O hC, Option.bind_some, if_pos (show 41 < (mfs s).length from (by decide : 41 < 59))]
  exact congrArg some (hM_set (s := s) (s2 := pJ s 41 v2) (p := 239) hC (j := 0) rfl rfl)
theorem md_42 (hC : C.length = 239) : gJ (hM C s) 239 7 42 = some (s.2.1 42) := by
  unfold gJ
  rw [md_O hC]
  rfl
theorem ps_42 (hC : C.length = 239) : sV (hM C s) 239 7 42 (.long v2) = some (hM C (pJ s 42 v2)) := by
  unfold sV
  rw [md_O hC, Option.bind_some, if_pos (show 42 < (mfs s).length from (by decide : 42 < 59))]
  exact congrArg some (hM_set (s := s) (s2 := pJ s 42 v2) (p := 239) hC (j := 0) rfl rfl)
theorem md_43 (hC : C.length = 239) : gR (hM C s) 239 7 43 = some 272 := by
  unfold gR
  rw [md_O hC]
  rfl
theorem ra_43 (hC : C.length = 239) (e : rG s 43 i = some v2) : aJ (hM C s) 272 i = some v2 := by
  unfold aJ
  rw [hM_at (s := s) hC (j := 33) rfl rfl]
  exact e
theorem wa_43 (hC : C.length = 239) (e : wG s 43 i v2 = some s2) : wJ (hM C s) 272 i v2 = some (hM C s2) := by
  unfold wJ
  rw [hM_at (s := s) hC (j := 33) rfl rfl]
  unfold wG at e
  split at e
  · cases e
  · rename_i hc
    cases e
    show (if i < 0 ∨ 48 ≤ i.toNatClampNeg then none else some ((hM C s).set 272 _)) = _
    rw [if_neg (show ¬ (i < 0 ∨ 48 ≤ i.toNatClampNeg) from hc)]
    exact congrArg some (hM_set (s := s) (p := 272) hC (j := 33) rfl rfl)
theorem md_44 (hC : C.length = 239) : gR (hM C s) 239 7 44 = some 273 := by
  unfold gR
  rw [md_O hC]
  rfl
theorem ra_44 (hC : C.length = 239) (e : rG s 44 i = some v2) : aJ (hM C s) 273 i = some v2 := by
  unfold aJ
  rw [hM_at (s := s) hC (j := 34) rfl rfl]
  exact e
theorem wa_44 (hC : C.length = 239) (e : wG s 44 i v2 = some s2) : wJ (hM C s) 273 i v2 = some (hM C s2) := by
  unfold wJ
  rw [hM_at (s := s) hC (j := 34) rfl rfl]
  unfold wG at e
  split at e
  · cases e
  · rename_i hc
    cases e
    show (if i < 0 ∨ 48 ≤ i.toNatClampNeg then none else some ((hM C s).set 273 _)) = _
    rw [if_neg (show ¬ (i < 0 ∨ 48 ≤ i.toNatClampNeg) from hc)]
    exact congrArg some (hM_set (s := s) (p := 273) hC (j := 34) rfl rfl)
theorem md_45 (hC : C.length = 239) : gR (hM C s) 239 7 45 = some 274 := by
  unfold gR
  rw [md_O hC]
  rfl
theorem ra_45 (hC : C.length = 239) (e : rG s 45 i = some v2) : aJ (hM C s) 274 i = some v2 := by
  unfold aJ
  rw [hM_at (s := s) hC (j := 35) rfl rfl]
  exact e
theorem wa_45 (hC : C.length = 239) (e : wG s 45 i v2 = some s2) : wJ (hM C s) 274 i v2 = some (hM C s2) := by
  unfold wJ
  rw [hM_at (s := s) hC (j := 35) rfl rfl]
  unfold wG at e
  split at e
  · cases e
  · rename_i hc
    cases e
    show (if i < 0 ∨ 48 ≤ i.toNatClampNeg then none else some ((hM C s).set 274 _)) = _
    rw [if_neg (show ¬ (i < 0 ∨ 48 ≤ i.toNatClampNeg) from hc)]
    exact congrArg some (hM_set (s := s) (p := 274) hC (j := 35) rfl rfl)
theorem md_46 (hC : C.length = 239) : gR (hM C s) 239 7 46 = some 275 := by
  unfold gR
  rw [md_O hC]
  rfl
theorem ra_46 (hC : C.length = 239) (e : rA s 46 i = some v) : aI (hM C s) 275 i = some v := by
  unfold aI
  rw [hM_at (s := s) hC (j := 36) rfl rfl]
  exact e
theorem wa_46 (hC : C.length = 239) (e : wA s 46 i v = some s2) : wI (hM C s) 275 i v = some (hM C s2) := by
  unfold wI
  rw [hM_at (s := s) hC (j := 36) rfl rfl]
  unfold wA at e
  split at e
  · cases e
  · rename_i hc
    cases e
    show (if i < 0 ∨ 2 ≤ i.toNatClampNeg then none else some ((hM C s).set 275 _)) = _
    rw [if_neg (show ¬ (i < 0 ∨ 2 ≤ i.toNatClampNeg) from hc)]
    exact congrArg some (hM_set (s := s) (p := 275) hC (j := 36) rfl rfl)
theorem md_47 (hC : C.length = 239) : gJ (hM C s) 239 7 47 = some (s.2.1 47) := by
  unfold gJ
  rw [md_O hC]
  rfl
theorem ps_47 (hC : C.length = 239) : sV (hM C s) 239 7 47 (.long v2) = some (hM C (pJ s 47 v2)) := by
  unfold sV
  rw [md_O hC, Option.bind_some, if_pos (show 47 < (mfs s).length from (by decide : 47 < 59))]
  exact congrArg some (hM_set (s := s) (s2 := pJ s 47 v2) (p := 239) hC (j := 0) rfl rfl)
theorem md_48 (hC : C.length = 239) : gJ (hM C s) 239 7 48 = some (s.2.1 48) := by
  unfold gJ
  rw [md_O hC]
  rfl
theorem ps_48 (hC : C.length = 239) : sV (hM C s) 239 7 48 (.long v2) = some (hM C (pJ s 48 v2)) := by
  unfold sV
  rw [md_O hC, Option.bind_some, if_pos (show 48 < (mfs s).length from (by decide : 48 < 59))]
  exact congrArg some (hM_set (s := s) (s2 := pJ s 48 v2) (p := 239) hC (j := 0) rfl rfl)
theorem md_49 (hC : C.length = 239) : gJ (hM C s) 239 7 49 = some (s.2.1 49) := by
  unfold gJ
  rw [md_O hC]
  rfl
theorem ps_49 (hC : C.length = 239) : sV (hM C s) 239 7 49 (.long v2) = some (hM C (pJ s 49 v2)) := by
  unfold sV
  rw [md_O hC, Option.bind_some, if_pos (show 49 < (mfs s).length from (by decide : 49 < 59))]
  exact congrArg some (hM_set (s := s) (s2 := pJ s 49 v2) (p := 239) hC (j := 0) rfl rfl)
theorem md_50 (hC : C.length = 239) : gJ (hM C s) 239 7 50 = some (s.2.1 50) := by
  unfold gJ
  rw [md_O hC]
  rfl
theorem ps_50 (hC : C.length = 239) : sV (hM C s) 239 7 50 (.long v2) = some (hM C (pJ s 50 v2)) := by
  unfold sV
  rw [md_O hC, Option.bind_some, if_pos (show 50 < (mfs s).length from (by decide : 50 < 59))]
  exact congrArg some (hM_set (s := s) (s2 := pJ s 50 v2) (p := 239) hC (j := 0) rfl rfl)
theorem md_51 (hC : C.length = 239) : gI (hM C s) 239 7 51 = some (s.1 51) := by
  unfold gI
  rw [md_O hC]
  rfl
theorem ps_51 (hC : C.length = 239) : sV (hM C s) 239 7 51 (.int v) = some (hM C (pI s 51 v)) := by
  unfold sV
  rw [md_O hC, Option.bind_some, if_pos (show 51 < (mfs s).length from (by decide : 51 < 59))]
  exact congrArg some (hM_set (s := s) (s2 := pI s 51 v) (p := 239) hC (j := 0) rfl rfl)
theorem md_52 (hC : C.length = 239) : gJ (hM C s) 239 7 52 = some (s.2.1 52) := by
  unfold gJ
  rw [md_O hC]
  rfl
theorem ps_52 (hC : C.length = 239) : sV (hM C s) 239 7 52 (.long v2) = some (hM C (pJ s 52 v2)) := by
  unfold sV
  rw [md_O hC, Option.bind_some, if_pos (show 52 < (mfs s).length from (by decide : 52 < 59))]
  exact congrArg some (hM_set (s := s) (s2 := pJ s 52 v2) (p := 239) hC (j := 0) rfl rfl)
theorem md_53 (hC : C.length = 239) : gJ (hM C s) 239 7 53 = some (s.2.1 53) := by
  unfold gJ
  rw [md_O hC]
  rfl
theorem ps_53 (hC : C.length = 239) : sV (hM C s) 239 7 53 (.long v2) = some (hM C (pJ s 53 v2)) := by
  unfold sV
  rw [md_O hC, Option.bind_some, if_pos (show 53 < (mfs s).length from (by decide : 53 < 59))]
  exact congrArg some (hM_set (s := s) (s2 := pJ s 53 v2) (p := 239) hC (j := 0) rfl rfl)
theorem md_54 (hC : C.length = 239) : gI (hM C s) 239 7 54 = some (s.1 54) := by
  unfold gI
  rw [md_O hC]
  rfl
theorem ps_54 (hC : C.length = 239) : sV (hM C s) 239 7 54 (.int v) = some (hM C (pI s 54 v)) := by
  unfold sV
  rw [md_O hC, Option.bind_some, if_pos (show 54 < (mfs s).length from (by decide : 54 < 59))]
  exact congrArg some (hM_set (s := s) (s2 := pI s 54 v) (p := 239) hC (j := 0) rfl rfl)
theorem md_55 (hC : C.length = 239) : gI (hM C s) 239 7 55 = some (s.1 55) := by
  unfold gI
  rw [md_O hC]
  rfl
theorem ps_55 (hC : C.length = 239) : sV (hM C s) 239 7 55 (.int v) = some (hM C (pI s 55 v)) := by
  unfold sV
  rw [md_O hC, Option.bind_some, if_pos (show 55 < (mfs s).length from (by decide : 55 < 59))]
  exact congrArg some (hM_set (s := s) (s2 := pI s 55 v) (p := 239) hC (j := 0) rfl rfl)
theorem md_56 (hC : C.length = 239) : gR (hM C s) 239 7 56 = some 276 := by
  unfold gR
  rw [md_O hC]
  rfl
theorem ra_56 (hC : C.length = 239) (e : rG s 56 i = some v2) : aJ (hM C s) 276 i = some v2 := by
  unfold aJ
  rw [hM_at (s := s) hC (j := 37) rfl rfl]
  exact e
theorem wa_56 (hC : C.length = 239) (e : wG s 56 i v2 = some s2) : wJ (hM C s) 276 i v2 = some (hM C s2) := by
  unfold wJ
  rw [hM_at (s := s) hC (j := 37) rfl rfl]
  unfold wG at e
  split at e
  · cases e
  · rename_i hc
    cases e
    show (if i < 0 ∨ 32 ≤ i.toNatClampNeg then none else some ((hM C s).set 276 _)) = _
    rw [if_neg (show ¬ (i < 0 ∨ 32 ≤ i.toNatClampNeg) from hc)]
    exact congrArg some (hM_set (s := s) (p := 276) hC (j := 37) rfl rfl)
theorem md_57 (hC : C.length = 239) : gR (hM C s) 239 7 57 = some 277 := by
  unfold gR
  rw [md_O hC]
  rfl
theorem ra_57 (hC : C.length = 239) (e : rG s 57 i = some v2) : aJ (hM C s) 277 i = some v2 := by
  unfold aJ
  rw [hM_at (s := s) hC (j := 38) rfl rfl]
  exact e
theorem wa_57 (hC : C.length = 239) (e : wG s 57 i v2 = some s2) : wJ (hM C s) 277 i v2 = some (hM C s2) := by
  unfold wJ
  rw [hM_at (s := s) hC (j := 38) rfl rfl]
  unfold wG at e
  split at e
  · cases e
  · rename_i hc
    cases e
    show (if i < 0 ∨ 32 ≤ i.toNatClampNeg then none else some ((hM C s).set 277 _)) = _
    rw [if_neg (show ¬ (i < 0 ∨ 32 ≤ i.toNatClampNeg) from hc)]
    exact congrArg some (hM_set (s := s) (p := 277) hC (j := 38) rfl rfl)
theorem md_58 (hC : C.length = 239) : gR (hM C s) 239 7 58 = some 278 := by
  unfold gR
  rw [md_O hC]
  rfl
theorem ra_58 (hC : C.length = 239) (e : rG s 58 i = some v2) : aJ (hM C s) 278 i = some v2 := by
  unfold aJ
  rw [hM_at (s := s) hC (j := 39) rfl rfl]
  exact e
theorem wa_58 (hC : C.length = 239) (e : wG s 58 i v2 = some s2) : wJ (hM C s) 278 i v2 = some (hM C s2) := by
  unfold wJ
  rw [hM_at (s := s) hC (j := 39) rfl rfl]
  unfold wG at e
  split at e
  · cases e
  · rename_i hc
    cases e
    show (if i < 0 ∨ 32 ≤ i.toNatClampNeg then none else some ((hM C s).set 278 _)) = _
    rw [if_neg (show ¬ (i < 0 ∨ 32 ≤ i.toNatClampNeg) from hc)]
    exact congrArg some (hM_set (s := s) (p := 278) hC (j := 39) rfl rfl)
theorem pt_9 (hC : C.length = 239) (e : some (pI s 9 v) = some s2) : sV (hM C s) 239 7 9 (.int v) = some (hM C s2) := by cases e; exact ps_9 hC
theorem pt_15 (hC : C.length = 239) (e : some (pI s 15 v) = some s2) : sV (hM C s) 239 7 15 (.int v) = some (hM C s2) := by cases e; exact ps_15 hC
theorem pt_21 (hC : C.length = 239) (e : some (pI s 21 v) = some s2) : sV (hM C s) 239 7 21 (.int v) = some (hM C s2) := by cases e; exact ps_21 hC
theorem pt_23 (hC : C.length = 239) (e : some (pI s 23 v) = some s2) : sV (hM C s) 239 7 23 (.int v) = some (hM C s2) := by cases e; exact ps_23 hC
theorem pt_24 (hC : C.length = 239) (e : some (pJ s 24 v2) = some s2) : sV (hM C s) 239 7 24 (.long v2) = some (hM C s2) := by cases e; exact ps_24 hC
theorem pt_25 (hC : C.length = 239) (e : some (pJ s 25 v2) = some s2) : sV (hM C s) 239 7 25 (.long v2) = some (hM C s2) := by cases e; exact ps_25 hC
theorem pt_26 (hC : C.length = 239) (e : some (pJ s 26 v2) = some s2) : sV (hM C s) 239 7 26 (.long v2) = some (hM C s2) := by cases e; exact ps_26 hC
theorem pt_39 (hC : C.length = 239) (e : some (pJ s 39 v2) = some s2) : sV (hM C s) 239 7 39 (.long v2) = some (hM C s2) := by cases e; exact ps_39 hC
theorem pt_40 (hC : C.length = 239) (e : some (pJ s 40 v2) = some s2) : sV (hM C s) 239 7 40 (.long v2) = some (hM C s2) := by cases e; exact ps_40 hC
theorem pt_41 (hC : C.length = 239) (e : some (pJ s 41 v2) = some s2) : sV (hM C s) 239 7 41 (.long v2) = some (hM C s2) := by cases e; exact ps_41 hC
theorem pt_42 (hC : C.length = 239) (e : some (pJ s 42 v2) = some s2) : sV (hM C s) 239 7 42 (.long v2) = some (hM C s2) := by cases e; exact ps_42 hC
theorem pt_47 (hC : C.length = 239) (e : some (pJ s 47 v2) = some s2) : sV (hM C s) 239 7 47 (.long v2) = some (hM C s2) := by cases e; exact ps_47 hC
theorem pt_48 (hC : C.length = 239) (e : some (pJ s 48 v2) = some s2) : sV (hM C s) 239 7 48 (.long v2) = some (hM C s2) := by cases e; exact ps_48 hC
theorem pt_49 (hC : C.length = 239) (e : some (pJ s 49 v2) = some s2) : sV (hM C s) 239 7 49 (.long v2) = some (hM C s2) := by cases e; exact ps_49 hC
theorem pt_50 (hC : C.length = 239) (e : some (pJ s 50 v2) = some s2) : sV (hM C s) 239 7 50 (.long v2) = some (hM C s2) := by cases e; exact ps_50 hC
theorem pt_51 (hC : C.length = 239) (e : some (pI s 51 v) = some s2) : sV (hM C s) 239 7 51 (.int v) = some (hM C s2) := by cases e; exact ps_51 hC
theorem pt_52 (hC : C.length = 239) (e : some (pJ s 52 v2) = some s2) : sV (hM C s) 239 7 52 (.long v2) = some (hM C s2) := by cases e; exact ps_52 hC
theorem pt_53 (hC : C.length = 239) (e : some (pJ s 53 v2) = some s2) : sV (hM C s) 239 7 53 (.long v2) = some (hM C s2) := by cases e; exact ps_53 hC
theorem pt_54 (hC : C.length = 239) (e : some (pI s 54 v) = some s2) : sV (hM C s) 239 7 54 (.int v) = some (hM C s2) := by cases e; exact ps_54 hC
theorem pt_55 (hC : C.length = 239) (e : some (pI s 55 v) = some s2) : sV (hM C s) 239 7 55 (.int v) = some (hM C s2) := by cases e; exact ps_55 hC
end MSX
