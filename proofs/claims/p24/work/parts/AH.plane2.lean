theorem ab32 {a : Int32} (h : a.toInt.natAbs < 100000) : (if 0 ≤ a then a else 0 - a).toInt64.toInt = (a.toInt.natAbs : Int) := by
  rw [Int32.toInt_toInt64]
  by_cases c : 0 ≤ a
  · rw [if_pos c]
    rw [Int32.le_iff_toInt_le] at c
    have : (0 : Int32).toInt = 0 := rfl
    omega
  · rw [if_neg c, Int32.toInt_sub]
    rw [Int32.le_iff_toInt_le] at c
    have z : (0 : Int32).toInt = 0 := rfl
    rw [z] at c ⊢
    rw [bm32 (by omega)]
    omega
theorem dv32 {a G : Int32} {g T : Int} {M : Nat} (hG : G.toInt = g) (g0 : 0 < g) (h : a.toInt = g * T) (hle : a.toInt.natAbs ≤ M) (hM : M < 2147483648) : (a / G).toInt = T ∧ T.natAbs ≤ M := by
  have hT : T.natAbs ≤ M := by
    rw [h, Int.natAbs_mul] at hle
    have h1 : 1 ≤ g.natAbs := by omega
    have h2 : 1 * T.natAbs ≤ g.natAbs * T.natAbs := Nat.mul_le_mul_right _ h1
    omega
  refine ⟨?_, hT⟩
  rw [Int32.toInt_div, h, hG, Int.mul_tdiv_cancel_left _ (by omega)]
  exact bm32 (by omega)
theorem c_gcd3 {N M : Nat} {a b c : Int32} {h : mh} (hb : bd3 (a.toInt, b.toInt, c.toInt) M) (hM : M < 99999) (hN : 100000 < N) : ∃ g1 g2 : Int64, fxX6_divisor N (if 0 ≤ a then a else 0 - a).toInt64 (if 0 ≤ b then b else 0 - b).toInt64 h = some (h, g1) ∧ fxX6_divisor N g1 (if 0 ≤ c then c else 0 - c).toInt64 h = some (h, g2) ∧ (((a.toInt, b.toInt, c.toInt) = v0 ∧ g2.toInt32 = 0) ∨ ((a.toInt, b.toInt, c.toInt) ≠ v0 ∧ g2.toInt32 ≠ 0 ∧ ∃ G m, 0 < G ∧ g2.toInt32.toInt = G ∧ (a.toInt, b.toInt, c.toInt) = vl G m 0 v0 ∧ (∃ x, vd m x = 1) ∧ (a / g2.toInt32).toInt = m.1 ∧ (b / g2.toInt32).toInt = m.2.1 ∧ (c / g2.toInt32).toInt = m.2.2 ∧ bd3 m M)) := by
  have ha' : a.toInt.natAbs ≤ M := hb.1
  have hb' : b.toInt.natAbs ≤ M := hb.2.1
  have hc' : c.toInt.natAbs ≤ M := hb.2.2
  have ea := ab32 (a := a) (by omega)
  have eb := ab32 (a := b) (by omega)
  have ec := ab32 (a := c) (by omega)
  obtain ⟨g1, e1, k1, p1, l1⟩ := c_divisor (N := N) (M := M) (h := h) (a := (if 0 ≤ a then a else 0 - a).toInt64) (b := (if 0 ≤ b then b else 0 - b).toInt64) (by omega) (by omega) (by omega) (by omega) hM hN
  obtain ⟨g2, e2, k2, p2, l2⟩ := c_divisor (N := N) (M := M) (h := h) (a := g1) (b := (if 0 ≤ c then c else 0 - c).toInt64) p1 (by omega) l1 (by omega) hM hN
  rw [ea, eb] at k1
  rw [ec] at k2
  obtain ⟨a0, az, ⟨i, j, aij⟩, aa, ab⟩ := gc_sg (a' := a.toInt) (b' := b.toInt) k1 (ab_sg _) (ab_sg _)
  obtain ⟨c0, cz, ⟨k, l, cij⟩, ca, cb⟩ := gc_sg (a' := g1.toInt) (b' := c.toInt) k2 (.inl rfl) (ab_sg _)
  have t32 : g2.toInt32.toInt = g2.toInt := i64_32' (A := M) ⟨rfl, l2⟩ (by omega)
  refine ⟨g1, g2, e1, e2, ?_⟩
  by_cases q : g2.toInt = 0
  · left
    have h1 := cz q
    have h2 := az h1.1
    exact ⟨v3_ext h2.1 h2.2 h1.2, Int32.toInt_inj.mp (t32.trans q)⟩
  · right
    have G0 : 0 < g2.toInt := by omega
    obtain ⟨A, hA⟩ := Int.dvd_trans ca aa
    obtain ⟨B, hB⟩ := Int.dvd_trans ca ab
    obtain ⟨C, hC⟩ := cb
    have d1 := dv32 (G := g2.toInt32) t32 G0 hA ha' (by omega)
    have d2 := dv32 (G := g2.toInt32) t32 G0 hB hb' (by omega)
    have d3 := dv32 (G := g2.toInt32) t32 G0 hC hc' (by omega)
    refine ⟨fun e => ?_, fun e => ?_, g2.toInt, (A, B, C), G0, t32, ?_, ?_, d1.1, d2.1, d3.1, ⟨d1.2, d2.2, d3.2⟩⟩
    · have x1 : a.toInt = 0 := congrArg (fun v : V3 => v.1) e
      have x2 : b.toInt = 0 := congrArg (fun v : V3 => v.2.1) e
      have x3 : c.toInt = 0 := congrArg (fun v : V3 => v.2.2) e
      rw [x1, x2] at aij
      rw [x3] at cij
      have : g1.toInt = 0 := by rw [aij]; omega
      rw [this] at cij
      omega
    · rw [e] at t32
      have : (0 : Int32).toInt = 0 := rfl
      omega
    · refine v3_ext ?_ ?_ ?_
      · show a.toInt = g2.toInt * A + 0 * 0
        omega
      · show b.toInt = g2.toInt * B + 0 * 0
        omega
      · show c.toInt = g2.toInt * C + 0 * 0
        omega
    · refine ⟨(k * i, k * j, l), ?_⟩
      show A * (k * i) + B * (k * j) + C * l = 1
      have h1 : g2.toInt * 1 = g2.toInt * (A * (k * i) + B * (k * j) + C * l) := by
        rw [← rl_3, ← hA, ← hB, ← hC, ← rl_2, ← aij, ← cij, Int.mul_one]
      exact (Int.eq_of_mul_eq_mul_left (by omega) h1).symm
/-- the places of the bodies -/
def isB (b : Nat) : Prop := b = 6 ∨ (∃ j, j < 8 ∧ b = 51 + 14 * j) ∨ ∃ i, i < 8 ∧ b = 159 + 10 * i
theorem isB_sh {b : Nat} (h : isB b) : (shp b).1 = 0 ∧ shp (b + 1) = (3, 24) ∧ shp (b + 5) = (10, 176) ∧ shp (b + 6) = (10, 45) ∧ shp (b + 7) = (10, 132) ∧ shp (b + 8) = (10, 264) ∧ (shp (b + 9)).1 = 4 := by
  rcases h with rfl | ⟨j, hj, rfl⟩ | ⟨i, hi, rfl⟩
  · decide
  · match j, hj with
    | 0, _ => decide
    | 1, _ => decide
    | 2, _ => decide
    | 3, _ => decide
    | 4, _ => decide
    | 5, _ => decide
    | 6, _ => decide
    | 7, _ => decide
  · match i, hi with
    | 0, _ => decide
    | 1, _ => decide
    | 2, _ => decide
    | 3, _ => decide
    | 4, _ => decide
    | 5, _ => decide
    | 6, _ => decide
    | 7, _ => decide
