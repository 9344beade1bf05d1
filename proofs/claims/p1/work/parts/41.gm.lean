theorem rG_0 {s : mS} {k : Nat} (h : 0 < aN k) (hk : aN k < 2147483648) : rG s k 0 = some (s.2.2.2 k 0) := by
  have e := i_nb h hk
  unfold rG
  exact if_neg e
def sG (s : mS) (k j : Nat) (v : Int64) : mS := (s.1, s.2.1, s.2.2.1, va_up s.2.2.2 k (vp_updL (s.2.2.2 k) j v))
theorem wG_0 {s : mS} {k : Nat} {v : Int64} (h : 0 < aN k) (hk : aN k < 2147483648) : wG s k 0 v = some (sG s k 0 v) := by
  have e := i_nb h hk
  unfold wG sG
  exact if_neg e
theorem wA_0 {s : mS} {k : Nat} {v : Int32} (h : 0 < aN k) (hk : aN k < 2147483648) : wA s k 0 v = some (sA s k 0 v) := wA_N (j := 0) h hk
theorem wB_01 {s : mS} {k : Nat} (h : 0 < aN k) (hk : aN k < 2147483648) : wB s k 0 1 = some (sA s k 0 1) := by
  have e := i_nb h hk
  unfold wB sA
  exact if_neg e
theorem pI_15 (s : mS) (v : Int32) : (pI s 15 v).1 15 = v := id rfl
/-- grow of a fresh SOLID, by the reference -/
theorem m_grow0 {j : Nat} {x y z : Int32} (hj : j < 8) (hp : isPt x y z) : ∃ s', mxX7_grow 1000 (Int32.ofNat j) x y z ms0 = some (s', 1) := by
  have a16 : 0 < aN 16 := by decide
  have a17 : 0 < aN 17 := by decide
  have a18 : 0 < aN 18 := by decide
  have a19 : 0 < aN 19 := by decide
  have a27 : 0 < aN 27 := by decide
  generalize hm1 : pI ms0 15 0 = m1
  have l1 : mxX7_loads 1000 (Int32.ofNat j) ms0 = some m1 := by
    unfold mxX7_loads
    rw [Option.bind_some, hm1, mxX7_loads_7]
    have : rA m1 4 (Int32.ofNat j) = some 0 := by
      rw [← hm1]
      exact rA_N (k := 4) hj (by decide)
    rw [this, Option.bind_some, if_pos (Int32.le_refl (0 : Int32))]
  have h15 : m1.1 15 = 0 := by
    rw [← hm1]
    rfl
  have h9 : m1.1 9 = 0 := by
    rw [← hm1]
    rfl
  generalize hm2 : pI (sG (sG (sG m1 16 0 x.toInt64) 17 0 y.toInt64) 18 0 z.toInt64) 15 1 = m2
  have l2 : mxX7_heaps 1000 x.toInt64 y.toInt64 z.toInt64 m1 = some m2 := by
    unfold mxX7_heaps
    rw [mxX7_heaps_3, h15, if_pos (Int32.le_refl (0 : Int32))]
    unfold mxX7_heaps_79
    rw [h15, if_pos (Int32.le_refl (0 : Int32))]
    unfold mxX7_heaps_126
    rw [h15, mxX7_heaps_132, if_pos (Int32.le_refl (0 : Int32)), wG_0 a16 (by decide), Option.bind_some, wG_0 a17 (by decide), Option.bind_some, wG_0 a18 (by decide), Option.bind_some, Option.bind_some]
    have : (sG (sG (sG m1 16 0 x.toInt64) 17 0 y.toInt64) 18 0 z.toInt64).1 15 = 0 := h15
    rw [this, ← hm2]
    rfl
  have g15 : m2.1 15 = 1 := by
    rw [← hm2]
    rfl
  have g9 : m2.1 9 = 0 := by
    rw [← hm2]
    exact h9
  have gx : m2.2.2.2 16 0 = x.toInt64 := by
    rw [← hm2]
    rfl
  have gy : m2.2.2.2 17 0 = y.toInt64 := by
    rw [← hm2]
    rfl
  have gz : m2.2.2.2 18 0 = z.toInt64 := by
    rw [← hm2]
    rfl
  generalize hm3 : sA (sA m2 27 0 0) 19 0 1 = m3
  have l3 : mxX7_hulls 1000 0 m2 = some (m3, 1) := by
    unfold mxX7_hulls
    rw [wA_0 a27 (by decide), Option.bind_some]
    unfold mxX7_kindOfHeap
    have q1 : (sA m2 27 0 0).1 15 = 1 := g15
    rw [q1, if_neg (by decide), Option.bind_some]
    dsimp only
    rw [mxX7_hulls_14, q1, if_neg (by decide), if_pos (by decide)]
    unfold mxX7_hulls_51 mxX7_hulls_56
    rw [wB_01 a19 (by decide), Option.bind_some, hm3, mxX7_hulls_14]
    have q2 : m3.1 15 = 1 := by
      rw [← hm3]
      exact g15
    rw [q2, if_pos (by decide), if_neg (by decide)]
    unfold mxX7_hulls_149
    rw [if_neg (by decide)]
  have k15 : m3.1 15 = 1 := by
    rw [← hm3]
    exact g15
  have k9 : m3.1 9 = Int32.ofNat 0 := by
    rw [← hm3]
    exact g9
  have kx : m3.2.2.2 16 0 = x.toInt64 := by
    rw [← hm3]
    exact gx
  have ky : m3.2.2.2 17 0 = y.toInt64 := by
    rw [← hm3]
    exact gy
  have kz : m3.2.2.2 18 0 = z.toInt64 := by
    rw [← hm3]
    exact gz
  have k19 : m3.2.2.1 19 0 = 1 := by
    rw [← hm3]
    rfl
  obtain ⟨m4, e4, f1, f2, f3, f4⟩ := m_keeps (N := 1000) (c := 0) (by decide) (by decide) m3 k9
  generalize hm5 : pI m4 9 (Int32.ofNat (0 + 1)) = m5 at e4
  have n15 : m5.1 15 = 1 := by
    rw [← hm5]
    show m4.1 15 = 1
    rw [f1, k15]
  have n19 : m5.2.2.1 19 0 = 1 := by
    rw [← hm5]
    show m4.2.2.1 19 0 = 1
    rw [f4 19 (by decide) (by decide) (by decide) (by decide) (by decide), k19]
  have i24 : (24 : Int32) * Int32.ofNat j + 0 = Int32.ofNat (24 * j + 0) := i_ma 24 j 0
  have b6 : 24 * j + 0 < aN 6 := by show 24 * j + 0 < 192; omega
  have b7 : 24 * j + 0 < aN 7 := by show 24 * j + 0 < 192; omega
  have b8 : 24 * j + 0 < aN 8 := by show 24 * j + 0 < 192; omega
  have l4 : ∃ s', mxX7_becomes 1000 (Int32.ofNat j) 1 m3 = some (s', 1) ∧ s'.2.2.1 5 j = 1 := by
    unfold mxX7_becomes
    rw [mxX7_becomes_5, k15, if_neg (by decide), rA_0 a19, Option.bind_some, k19, if_neg (by decide), if_neg (by decide), rG_0 a16 (by decide), Option.bind_some, rG_0 a17 (by decide), Option.bind_some, rG_0 a18 (by decide), Option.bind_some, kx, ky, kz, pt64_in hp, Option.bind_some]
    dsimp only
    rw [if_neg (by decide)]
    unfold mxX7_becomes_65
    rw [mxX7_becomes_5, k15, if_pos (by decide), e4, Option.bind_some, mxX7_becomes_80, n15, if_neg (by decide), rA_0 a19, Option.bind_some, n19, if_neg (by decide), rG_0 a16 (by decide), Option.bind_some, i24, wA_N b6 (by decide), Option.bind_some, rG_0 a17 (by decide), Option.bind_some, wA_N b7 (by decide), Option.bind_some, rG_0 a18 (by decide), Option.bind_some, wA_N b8 (by decide), Option.bind_some]
    unfold mxX7_becomes_162
    rw [mxX7_becomes_80]
    simp only [sA_1, n15]
    rw [if_pos (by decide), wA_N (k := 4) (j := j) hj (by decide), Option.bind_some, wA_N (k := 5) (j := j) hj (by decide), Option.bind_some]
    refine ⟨_, rfl, ?_⟩
    simp [sA, va_up, upd_at]
  obtain ⟨m6, e6, k5⟩ := l4
  refine ⟨m6, ?_⟩
  unfold mxX7_grow
  rw [solid_in hj, Option.bind_some]
  dsimp only
  rw [if_neg (by decide), pt64_in hp, Option.bind_some]
  dsimp only
  rw [if_neg (by decide), l1, Option.bind_some, l2, Option.bind_some, l3, Option.bind_some]
  dsimp only
  rw [e6, Option.bind_some]
  dsimp only
  rw [if_neg (by decide), rA_N (k := 5) (j := j) hj (by decide), Option.bind_some, k5]
theorem p_grow (a x y z : Int32) : okP (fxX6_grow 1000 0 a x y z (hC cs0)) (mxX7_grow 1000 a x y z ms0) := by
  rcases slot_or a with q | ⟨j, hj, rfl⟩
  · refine ⟨hC cs0, -1, ms0, ?_, hC_len _, ?_⟩
    · simp only [fxX6_grow, slot_no q, Option.bind_some, if_true]
    · simp only [mxX7_grow, solid_no q, Option.bind_some, if_true]
  by_cases hp : isPt x y z
  · obtain ⟨s1, e1⟩ := c_grow0 400 hj hp
    obtain ⟨s2, e2⟩ := m_grow0 hj hp
    exact ⟨hC s1, 1, s2, e1, hC_len _, e2⟩
  · refine ⟨hC cs0, -1, ms0, ?_, hC_len _, ?_⟩
    · simp only [fxX6_grow, slot_in hj, pt_no hp, Option.bind_some, o10, if_false, if_true]
    · simp only [mxX7_grow, solid_in hj, pt64_no hp, Option.bind_some, o10, if_false, if_true]
theorem within_any (N : Nat) (a b : Int32) (h : mh) : fxX6_isWithin N a b h = some (h, 0) ∨ fxX6_isWithin N a b h = some (h, 1) := by
  unfold fxX6_isWithin
  by_cases h1 : a < -b
  · exact .inl (if_pos h1)
  · rw [if_neg h1]
    by_cases h2 : b < a
    · exact .inl (if_pos h2)
    · exact .inr (if_neg h2)
theorem s24 : shp 24 = (3, 1) := rfl
theorem c_move0 {j : Nat} {x y z : Int32} (N : Nat) (hj : j < 8) : ∃ s', fxX6_move N 0 (Int32.ofNat j) x y z (hC cs0) = some (hC s', 1) := by
  obtain ⟨g1, g2, g3, g4, g5, g6⟩ := st_sol j hj
  have s24' : (shp 24).1 = 3 := rfl
  have bj := i_nb hj (show 8 < 2147483648 by decide)
  have e2 := c_put (N := N) (k := 0) (x := x) (y := y) (z := z) (s := uI cs0 24 0 0) s24 (by decide) (by simp [qI_uI]) (by decide)
  generalize hs2 : putS (uI cs0 24 0 0) 24 0 x y z = s2 at e2
  have z2 : qI (clrB s2 6) (51 + 14 * j + 1) 0 = 0 := by
    have n1 : ¬ (51 + 14 * j + 1 = 6) := by omega
    have n2 : ¬ (51 + 14 * j + 1 = 7) := by omega
    have n3 : ¬ (51 + 14 * j + 1 = 24) := by omega
    simp only [clrB, qI_uJ, qI_uI, n1, n2, false_and, if_false, ← hs2, putS, qI_uA, n3, g6, Nat.reduceAdd]
  have e3 := c_build0 (N := N) (s := s2) (b := 6) (p := 51 + 14 * j + 1) (q := 24) s6 g4 z2
  have r1 : qR (clrB s2 6) = qR cs0 := by
    rw [← hs2]
    rfl
  have r2 : qF (clrB s2 6) = 6 := by
    rw [← hs2]
    rfl
  have r3 : qI (clrB s2 6) 0 5 = Int32.ofNat 0 := by
    rw [← hs2]
    rfl
  have e4 := c_keep (N := N) (k := 0) (j := j) (b := 51 + 14 * j) (b2 := 159) (s := clrB s2 6) (by decide) hj r3 (by rw [r1, g1]) g2 (by rw [r1]; rfl) (by rw [r2]; rfl)
  have e75 : fxX6_move_75 N 0 (Int32.ofNat j) x y z (51 + 14 * j + 1) (hC cs0) = some (hC (keepS (clrB s2 6) 0 j (51 + 14 * j) 159), 1) := by
    unfold fxX6_move_75
    rw [gR_6_9 s0, Option.bind_some]
    simp only [Nat.zero_add]
    rw [kO_3 s24', Option.bind_some, c_clear s24', Option.bind_some, gR_6_9 s0, Option.bind_some]
    simp only [Nat.zero_add]
    rw [kO_3 s24', Option.bind_some, e2, Option.bind_some, gR_6_9 s0, Option.bind_some, kO_6 s0, Option.bind_some]
    unfold fxX6_become
    have f6 : qF s2 = 6 := by
      rw [← hs2]
      rfl
    rw [gR_6_10 s0, Option.bind_some, gR_6_6 s0, Option.bind_some, f6]
    simp only [Nat.zero_add]
    rw [kO_2 s28, Option.bind_some, e3, Option.bind_some]
    dsimp only
    rw [if_neg (by decide), kO_6 s0, Option.bind_some, e4, Option.bind_some, Option.bind_some]
    dsimp only
    rw [if_neg (by decide)]
  have e58 : ∀ v, fxX6_move_58 N 0 (Int32.ofNat j) x y z (51 + 14 * j + 1) v (hC cs0) = some (hC (keepS (clrB s2 6) 0 j (51 + 14 * j) 159), 1) := by
    intro v
    unfold fxX6_move_58
    rw [gI_3_0 g4, Option.bind_some, g6, if_pos (Int32.le_refl (0 : Int32)), e75]
  refine ⟨keepS (clrB s2 6) 0 j (51 + 14 * j) 159, ?_⟩
  unfold fxX6_move fxX6_move_57
  rw [slot_in hj, Option.bind_some]
  dsimp only
  rw [if_neg (by decide), gR_6_2 s0, Option.bind_some]
  simp only [Nat.zero_add]
  rw [aR_14 s3 bj, i_tn (by omega), g1, Option.bind_some, gR_0_1 g2, Option.bind_some]
  rcases within_any N x 200 (hC cs0) with w1 | w1
  · rw [w1, Option.bind_some]
    dsimp only
    rw [if_pos rfl, e58]
  rw [w1, Option.bind_some]
  dsimp only
  rw [if_neg (by decide)]
  rcases within_any N y 200 (hC cs0) with w2 | w2
  · rw [w2, Option.bind_some]
    dsimp only
    rw [if_pos rfl, e58]
  rw [w2, Option.bind_some]
  dsimp only
  rw [if_neg (by decide)]
  rcases within_any N z 200 (hC cs0) with w3 | w3
  · rw [w3, Option.bind_some]
    dsimp only
    rw [if_pos rfl, e58]
  rw [w3, Option.bind_some]
  dsimp only
  rw [if_neg (by decide), e58]
theorem p_move (a x y z : Int32) : okP (fxX6_move 1000 0 a x y z (hC cs0)) (mxX7_move 1000 a x y z ms0) := by
  rcases slot_or a with q | ⟨j, hj, rfl⟩
  · refine ⟨hC cs0, 0, ms0, ?_, hC_len _, ?_⟩
    · simp only [fxX6_move, slot_no q, Option.bind_some, if_true]
    · simp only [mxX7_move, solid_no q, Option.bind_some, if_true]
  · obtain ⟨s1, e1⟩ := c_move0 (x := x) (y := y) (z := z) 1000 hj
    obtain ⟨s2, e2, h2⟩ := k_keeps
    refine ⟨hC s1, 1, s2, e1, hC_len _, ?_⟩
    unfold mxX7_move
    rw [solid_in hj, Option.bind_some]
    dsimp only
    have i24 : (24 : Int32) * Int32.ofNat j + 0 ≤ (24 : Int32) * Int32.ofNat j := by
      rw [Int32.add_zero]
      exact Int32.le_refl _
    rw [if_neg (by decide), mxX7_move_12, r_many hj, Option.bind_some, if_pos (Int32.le_refl (0 : Int32)), e2, Option.bind_some, mxX7_move_84, rA_N (k := 4) (j := j) hj (by decide), Option.bind_some, h2 j hj, if_pos i24]
