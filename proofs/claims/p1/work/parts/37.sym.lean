theorem rng_or {n : Nat} (hn : n < 2147483648) (a : Int32) : (a < 0 ∨ Int32.ofNat n ≤ a) ∨ ∃ j, j < n ∧ a = Int32.ofNat j := by
  by_cases h0 : a < 0
  · exact .inl (.inl h0)
  by_cases h8 : Int32.ofNat n ≤ a
  · exact .inl (.inr h8)
  have e0 : (0 : Int32).toInt = 0 := rfl
  rw [Int32.le_iff_toInt_le, Int32.toInt_ofNat_of_lt hn] at h8
  rw [Int32.lt_iff_toInt_lt, e0] at h0
  refine .inr ⟨a.toInt.toNat, by omega, ?_⟩
  apply Int32.toInt_inj.mp
  rw [Int32.toInt_ofNat_of_lt (by omega)]
  omega
theorem o10 : ((1 : Int32) = 0) = False := by decide
/-- the start's bodies, as the methods read them -/
theorem rA_N {s : mS} {k j : Nat} (h : j < aN k) (hk : aN k < 2147483648) : rA s k (Int32.ofNat j) = some (s.2.2.1 k j) := by
  unfold rA
  rw [if_neg (i_nb h hk), i_tn (by omega)]
theorem r_many {j : Nat} (hj : j < 8) : rA ms0 4 (Int32.ofNat j) = some 0 := rA_N (k := 4) hj (by decide)
theorem r_kind {j : Nat} (hj : j < 8) : rA ms0 5 (Int32.ofNat j) = some 0 := rA_N (k := 5) hj (by decide)
theorem r_tray {j : Nat} (hj : j < 8) : rA ms0 0 (Int32.ofNat j) = some (-1) := rA_N (k := 0) hj (by decide)
theorem rA_0 {s : mS} {k : Nat} (h : 0 < aN k) : rA s k 0 = some (s.2.2.1 k 0) := by
  unfold rA
  rw [if_neg]
  · rfl
  · intro q
    cases q with
    | inl q => exact absurd q (by decide)
    | inr q =>
      have : (0 : Int32).toNatClampNeg = 0 := rfl
      rw [this] at q
      omega
def okK (i : Nat) : Bool := match mxX7_knows 1000 (Int32.ofNat i) 0 ms0 with
  | some s => decide (s.2.2.1 34 0 = 0) && decide (s.2.2.1 27 0 = 0)
  | none => false
theorem q_knows : (List.range 8).all okK = true := by decide +kernel
theorem k_knows {j : Nat} (hj : j < 8) : ∃ s, mxX7_knows 1000 (Int32.ofNat j) 0 ms0 = some s ∧ s.2.2.1 34 0 = 0 ∧ s.2.2.1 27 0 = 0 := by
  have h := al1 q_knows hj
  unfold okK at h
  split at h
  · rename_i s e
    rw [Bool.and_eq_true] at h
    exact ⟨s, e, of_decide_eq_true h.1, of_decide_eq_true h.2⟩
  · cases h
def okO (i : Nat) : Bool := match mxX7_owns 1000 (Int32.ofNat i) 0 ms0 with
  | some s => decide (s.2.2.1 5 i = 0)
  | none => false
theorem q_owns : (List.range 8).all okO = true := by decide +kernel
theorem k_owns {j : Nat} (hj : j < 8) : ∃ s, mxX7_owns 1000 (Int32.ofNat j) 0 ms0 = some s ∧ s.2.2.1 5 j = 0 := by
  have h := al1 q_owns hj
  unfold okO at h
  split at h
  · rename_i s e
    exact ⟨s, e, of_decide_eq_true h⟩
  · cases h
def okE : Bool := match mxX7_keeps 1000 ms0 with
  | some s => (List.range 8).all fun i => decide (s.2.2.1 4 i = 0)
  | none => false
theorem q_keeps : okE = true := by decide +kernel
theorem k_keeps : ∃ s, mxX7_keeps 1000 ms0 = some s ∧ ∀ j, j < 8 → s.2.2.1 4 j = 0 := by
  have h := q_keeps
  unfold okE at h
  split at h
  · rename_i s e
    exact ⟨s, e, fun j hj => of_decide_eq_true (al1 h hj)⟩
  · cases h
theorem wf (x : Int32) : (∀ N h s, fxX6_isWithin N x 1000000 h = some (h, 0) ∧ mxX7_isFar N x s = some (s, 1)) ∨ (∀ N h s, fxX6_isWithin N x 1000000 h = some (h, 1) ∧ mxX7_isFar N x s = some (s, 0)) := by
  unfold fxX6_isWithin mxX7_isFar
  have em : (-1000000 : Int32) = -(1000000 : Int32) := rfl
  by_cases h1 : x < -(1000000 : Int32)
  · refine .inl fun N h s => ?_
    rw [em, if_pos h1, if_pos h1]
    exact ⟨rfl, rfl⟩
  by_cases h2 : (1000000 : Int32) < x
  · refine .inl fun N h s => ?_
    rw [em, if_neg h1, if_neg h1, if_pos h2, if_neg (Int32.not_le.mpr h2)]
    exact ⟨rfl, rfl⟩
  · refine .inr fun N h s => ?_
    rw [em, if_neg h1, if_neg h1, if_neg h2, if_pos (Int32.not_lt.mp h2)]
    exact ⟨rfl, rfl⟩
theorem ws (x : Int32) : (∀ N h s, fxX6_isWithin N x 1000 h = some (h, 0) ∧ mxX7_isSmall N x s = some (s, 0)) ∨ (∀ N h s, fxX6_isWithin N x 1000 h = some (h, 1) ∧ mxX7_isSmall N x s = some (s, 1)) := by
  unfold fxX6_isWithin mxX7_isSmall
  have em : (-1000 : Int32) = -(1000 : Int32) := rfl
  by_cases h1 : x < -(1000 : Int32)
  · refine .inl fun N h s => ?_
    rw [em, if_pos h1, if_pos h1]
    exact ⟨rfl, rfl⟩
  by_cases h2 : (1000 : Int32) < x
  · refine .inl fun N h s => ?_
    rw [em, if_neg h1, if_neg h1, if_pos h2, if_pos h2]
    exact ⟨rfl, rfl⟩
  · refine .inr fun N h s => ?_
    rw [em, if_neg h1, if_neg h1, if_neg h2, if_neg h2]
    exact ⟨rfl, rfl⟩
theorem p_point (a k x y z : Int32) : okP (fxX6_point 1000 0 a k x y z (hC cs0)) (mxX7_point 1000 a k x y z ms0) := by
  rcases slot_or a with q | ⟨j, hj, rfl⟩
  · refine ⟨hC cs0, 0, ms0, ?_, hC_len _, ?_⟩
    · simp only [fxX6_point, slot_no q, Option.bind_some, if_true]
    · simp only [mxX7_point, solid_no q, Option.bind_some, if_true]
  · refine ⟨hC cs0, 0, ms0, ?_, hC_len _, ?_⟩
    · have bj := i_nb hj (show 8 < 2147483648 by decide)
      have v0 : qA cs0 2 (Int32.ofNat j).toNatClampNeg = 0 := rfl
      simp only [fxX6_point, slot_in hj, Option.bind_some, o10, if_false, gR_6_1 s0, Nat.zero_add, aZ_C st_is bj, v0, if_true]
    · simp only [mxX7_point, solid_in hj, Option.bind_some, o10, if_false, r_tray hj]
      by_cases hk : k < 0
      · rw [if_pos hk]
      · have h1 : (-1 : Int32) ≤ k := Int32.le_trans (by decide) (Int32.not_lt.mp hk)
        rw [if_neg hk, if_pos h1]
theorem p_corner (a k x : Int32) : okP (fxX6_corner 1000 0 a k x (hC cs0)) (mxX7_corner 1000 a k x ms0) := by
  rcases slot_or a with q | ⟨j, hj, rfl⟩
  · refine ⟨hC cs0, -1000, ms0, ?_, hC_len _, ?_⟩
    · simp only [fxX6_corner, slot_no q, Option.bind_some, if_true]
    · simp only [mxX7_corner, solid_no q, Option.bind_some, if_true]
  · obtain ⟨g1, g2, g3, g4, g5, g6⟩ := st_sol j hj
    have bj := i_nb hj (show 8 < 2147483648 by decide)
    have tj : (Int32.ofNat j).toNatClampNeg = j := i_tn (by omega)
    refine ⟨hC cs0, -1000, ms0, ?_, hC_len _, ?_⟩
    · simp only [fxX6_corner, slot_in hj, Option.bind_some, o10, if_false, gR_6_2 s0, Nat.zero_add, aR_14 s3 bj, tj, g1, gR_0_1 g2, gI_3_0 g4, g6]
      by_cases hk : k < 0
      · rw [if_pos hk]
      · rw [if_neg hk, if_neg hk]
    · simp only [mxX7_corner, solid_in hj, Option.bind_some, o10, if_false, r_many hj]
      by_cases hk : k < 0
      · rw [if_pos hk]
      · rw [if_neg hk, if_neg hk]
theorem p_edge (a k x : Int32) : okP (fxX6_edge 1000 0 a k x (hC cs0)) (mxX7_edge 1000 a k x ms0) := by
  rcases slot_or a with q | ⟨j, hj, rfl⟩
  · refine ⟨hC cs0, -1, ms0, ?_, hC_len _, ?_⟩
    · simp only [fxX6_edge, slot_no q, Option.bind_some, if_true]
    · simp only [mxX7_edge, solid_no q, Option.bind_some, if_true]
  · obtain ⟨g1, g2, g3, g4, g5, g6⟩ := st_sol j hj
    have bj := i_nb hj (show 8 < 2147483648 by decide)
    have tj : (Int32.ofNat j).toNatClampNeg = j := i_tn (by omega)
    obtain ⟨s, e, e34, e27⟩ := k_knows hj
    have hc : fxX6_edge 1000 0 (Int32.ofNat j) k x (hC cs0) = some (hC cs0, -1) := by
      simp only [fxX6_edge, slot_in hj, Option.bind_some, o10, if_false, gR_6_2 s0, Nat.zero_add, aR_14 s3 bj, tj, g1, gI_0_6 g2, g5 6 (by decide)]
      by_cases hk : k < 0
      · rw [if_pos hk]
      · rw [if_neg hk, if_pos (Int32.not_lt.mp hk)]
    by_cases hk : k < 0
    · refine ⟨hC cs0, -1, ms0, hc, hC_len _, ?_⟩
      simp only [mxX7_edge, solid_in hj, Option.bind_some, o10, if_false]
      rw [if_neg (Int32.not_le.mpr hk)]
    · refine ⟨hC cs0, -1, s, hc, hC_len _, ?_⟩
      simp only [mxX7_edge, solid_in hj, Option.bind_some, o10, if_false, e, rA_0 (show 0 < aN 34 by decide), e34]
      rw [if_pos (Int32.not_lt.mp hk), if_neg hk]
theorem p_face (a k x : Int32) : okP (fxX6_face 1000 0 a k x (hC cs0)) (mxX7_face 1000 a k x ms0) := by
  rcases slot_or a with q | ⟨j, hj, rfl⟩
  · refine ⟨hC cs0, -2000000000, ms0, ?_, hC_len _, ?_⟩
    · simp only [fxX6_face, slot_no q, Option.bind_some, if_true]
    · simp only [mxX7_face, solid_no q, Option.bind_some, if_true]
  · obtain ⟨g1, g2, g3, g4, g5, g6⟩ := st_sol j hj
    have bj := i_nb hj (show 8 < 2147483648 by decide)
    have tj : (Int32.ofNat j).toNatClampNeg = j := i_tn (by omega)
    obtain ⟨s, e, e34, e27⟩ := k_knows hj
    have hc : fxX6_face 1000 0 (Int32.ofNat j) k x (hC cs0) = some (hC cs0, -2000000000) := by
      simp only [fxX6_face, slot_in hj, Option.bind_some, o10, if_false, gR_6_2 s0, Nat.zero_add, aR_14 s3 bj, tj, g1, gI_0_2 g2, g5 2 (by decide)]
      by_cases hk : k < 0
      · rw [if_pos hk]
      · rw [if_neg hk, if_pos (Int32.not_lt.mp hk)]
    by_cases hk : k < 0
    · refine ⟨hC cs0, -2000000000, ms0, hc, hC_len _, ?_⟩
      simp only [mxX7_face, solid_in hj, Option.bind_some, o10, if_false]
      rw [if_neg (Int32.not_le.mpr hk)]
    · refine ⟨hC cs0, -2000000000, s, hc, hC_len _, ?_⟩
      simp only [mxX7_face, solid_in hj, Option.bind_some, o10, if_false, e, rA_0 (show 0 < aN 27 by decide), e27]
      rw [if_pos (Int32.not_lt.mp hk), if_neg hk]
