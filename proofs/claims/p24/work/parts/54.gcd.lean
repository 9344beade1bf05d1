/-- g is the greatest common divisor, and a sum of shares -/
def gc (g a b : Int) : Prop := 0 ≤ g ∧ (g = 0 → a = 0 ∧ b = 0) ∧ (∃ i j, g = i * a + j * b) ∧ g ∣ a ∧ g ∣ b
theorem rl_1 (i j q X Y : Int) : i * Y + j * (X - q * Y) = j * X + (i - j * q) * Y := by grind
theorem x_cm28 {N : Nat} {s : mS} : ∀ (Y f : Nat) (x y : Int64), y.toInt = (Y : Int) → 0 ≤ x.toInt → x.toInt.natAbs < 4611686018427387904 → Y < 4611686018427387904 → Y < f → ∃ g, mxX7_common_28 N f x y s = some (s, g) ∧ gc g.toInt x.toInt y.toInt ∧ (g.toInt = x.toInt ∨ g.toInt ≤ y.toInt) := by
  intro Y
  induction Y using Nat.strongRecOn with
  | ind Y ih =>
    intro f x y hy hx bx bY hf
    obtain ⟨f', rfl⟩ : ∃ f', f = f' + 1 := ⟨f - 1, by omega⟩
    have z0 : (0 : Int64).toInt = 0 := rfl
    by_cases c : y = 0
    · refine ⟨x, ?_, ⟨hx, fun h => ⟨h, by rw [c]; rfl⟩, ⟨1, 0, by omega⟩, Int.dvd_refl _, by rw [c]; exact Int.dvd_zero _⟩, .inl rfl⟩
      rw [mxX7_common_28, if_pos c]
    · have hY : 0 < Y := by
        by_cases q : Y = 0
        · exfalso
          apply c
          apply Int64.toInt_inj.mp
          rw [hy, z0, q]
          rfl
        · omega
      have hq : (x / y).toInt = x.toInt / (Y : Int) := by
        rw [Int64.toInt_div, hy, Int.tdiv_eq_ediv_of_nonneg hx]
        apply bm
        have h1 : x.toInt / (Y : Int) ≤ x.toInt := Int.ediv_le_self _ hx
        have h2 : 0 ≤ x.toInt / (Y : Int) := Int.ediv_nonneg hx (by omega)
        omega
      have h1 : x.toInt / (Y : Int) ≤ x.toInt := Int.ediv_le_self _ hx
      have h2 : 0 ≤ x.toInt / (Y : Int) := Int.ediv_nonneg hx (by omega)
      have hm := Int.emod_def x.toInt (Y : Int)
      have m0 := Int.emod_nonneg x.toInt (show (Y : Int) ≠ 0 by omega)
      have m1 := Int.emod_lt_of_pos x.toInt (show (0 : Int) < (Y : Int) by omega)
      have hqy : (x / y * y).toInt = x.toInt / (Y : Int) * (Y : Int) := by
        rw [Int64.toInt_mul, hq, hy]
        apply bm
        rw [Int.mul_comm]
        omega
      have hr : (x - x / y * y).toInt = x.toInt % (Y : Int) := by
        rw [Int64.toInt_sub, hqy, hm, Int.mul_comm]
        apply bm
        rw [← hm]
        omega
      obtain ⟨g, e, ⟨g0, gz, ⟨i, j, gij⟩, gx, gy⟩, gl⟩ := ih (x.toInt % (Y : Int)).toNat (by omega) f' y (x - x / y * y) (by rw [hr]; omega) (by omega) (by omega) (by omega) (by omega)
      refine ⟨g, ?_, ⟨g0, fun h => ?_, ⟨j, i - j * (x.toInt / (Y : Int)), ?_⟩, ?_, gx⟩, .inr ?_⟩
      · rw [mxX7_common_28, if_neg c, if_neg c]
        exact e
      · exfalso
        have := (gz h).1
        omega
      · rw [gij, hr, hm, hy, Int.mul_comm (Y : Int)]
        exact rl_1 _ _ _ _ _
      · rw [hr, hm] at gy
        rw [hy] at gx
        have h3 := Int.dvd_add gy (Int.dvd_trans gx (Int.dvd_mul_right (Y : Int) (x.toInt / (Y : Int))))
        rw [Int.sub_add_cancel] at h3
        exact h3
      · rcases gl with gl | gl
        · omega
        · rw [hr] at gl
          omega
theorem ab_sg (x : Int) : (x.natAbs : Int) = x ∨ (x.natAbs : Int) = -x := by omega
theorem gc_sg {g a b a' b' : Int} (h : gc g a b) (ha : a = a' ∨ a = -a') (hb : b = b' ∨ b = -b') : gc g a' b' := by
  obtain ⟨g0, gz, ⟨i, j, gij⟩, ga, gb⟩ := h
  refine ⟨g0, fun h => ?_, ?_, ?_, ?_⟩
  · have := gz h
    omega
  · rcases ha with rfl | rfl
    · rcases hb with rfl | rfl
      · exact ⟨i, j, gij⟩
      · exact ⟨i, -j, by rw [gij, Int.neg_mul, Int.mul_neg]⟩
    · rcases hb with rfl | rfl
      · exact ⟨-i, j, by rw [gij, Int.neg_mul, Int.mul_neg]⟩
      · exact ⟨-i, -j, by rw [gij, Int.neg_mul, Int.mul_neg, Int.neg_mul, Int.mul_neg]⟩
  · rcases ha with rfl | rfl
    · exact ga
    · exact (Int.dvd_neg).mp ga
  · rcases hb with rfl | rfl
    · exact gb
    · exact (Int.dvd_neg).mp gb
theorem x_common {N M : Nat} {a b : Int64} {s : mS} (ha : a.toInt.natAbs ≤ M) (hb : b.toInt.natAbs ≤ M) (hM : M < 4611686018427387904) (hN : M < N) : ∃ g, mxX7_common N a b s = some (s, g) ∧ gc g.toInt a.toInt b.toInt ∧ g.toInt.natAbs ≤ M := by
  have abs : ∀ (t : Int64), t.toInt.natAbs ≤ M → ∃ t', (t' = if (0 : Int64) ≤ t then t else -t) ∧ t'.toInt = (t.toInt.natAbs : Int) := by
    intro t ht
    have z0 : (0 : Int64).toInt = 0 := rfl
    by_cases c : (0 : Int64) ≤ t
    · refine ⟨t, by rw [if_pos c], ?_⟩
      rw [Int64.le_iff_toInt_le, z0] at c
      omega
    · refine ⟨-t, by rw [if_neg c], ?_⟩
      rw [Int64.le_iff_toInt_le, z0] at c
      rw [(bv_neg (a := t) (x := t.toInt) (A := M) ⟨rfl, ht⟩ (by omega)).1]
      omega
  obtain ⟨a', ea, va⟩ := abs a ha
  obtain ⟨b', eb, vb⟩ := abs b hb
  have hc : mxX7_common N a b s = mxX7_common_28 N N a' b' s := by
    unfold mxX7_common mxX7_common_12 mxX7_common_26
    rw [ea, eb]
    by_cases c : (0 : Int64) ≤ a
    · rw [if_pos c, if_pos c]
      by_cases c2 : (0 : Int64) ≤ b
      · rw [if_pos c2, if_pos c2]
      · rw [if_neg c2, if_neg c2]
    · rw [if_neg c, if_neg c]
      by_cases c2 : (0 : Int64) ≤ b
      · rw [if_pos c2, if_pos c2]
      · rw [if_neg c2, if_neg c2]
  obtain ⟨g, e, h1, h2⟩ := x_cm28 (N := N) (s := s) b.toInt.natAbs N a' b' vb (by omega) (by omega) (by omega) (by omega)
  refine ⟨g, by rw [hc]; exact e, ?_, ?_⟩
  · rw [va, vb] at h1
    exact gc_sg h1 (ab_sg _) (ab_sg _)
  · have := h1.1
    rcases h2 with h2 | h2 <;> omega
theorem nv_ne {s : mS} (h : nv s ≠ v0) : ¬ ((nv s).1 = 0 ∧ (nv s).2.1 = 0 ∧ (nv s).2.2 = 0) := fun e => h (v3_ext e.1 e.2.1 e.2.2)
theorem rl_2 (i j k l A B C : Int) : k * (i * A + j * B) + l * C = A * (k * i) + B * (k * j) + C * l := by grind
theorem rl_3 (G A B C x y z : Int) : G * A * x + G * B * y + G * C * z = G * (A * x + B * y + C * z) := by grind
/-- the way across without its common divisor -/
theorem x_plain {N M : Nat} {s : mS} (hne : nv s ≠ v0) (hb : bd3 (nv s) M) (hM : M < 4611686018427387904) (hN : M < N) : ∃ s' G, mxX7_plain N s = some s' ∧ 0 < G ∧ nv s = vl G (nv s') 0 v0 ∧ (∃ x, vd (nv s') x = 1) ∧ bd3 (nv s') M ∧ smN s s' := by
  obtain ⟨g1, e1, ⟨a0, az, ⟨i, j, aij⟩, aa, ab⟩, ale⟩ := x_common (N := N) (M := M) (a := s.2.1 24) (b := s.2.1 25) (s := s) hb.1 hb.2.1 hM hN
  obtain ⟨g2, e2, ⟨c0, cz, ⟨k, l, cij⟩, ca, cb⟩, cle⟩ := x_common (N := N) (M := M) (a := g1) (b := s.2.1 26) (s := s) ale hb.2.2 hM hN
  have z0 : (0 : Int64).toInt = 0 := rfl
  have G0 : 0 < g2.toInt := by
    by_cases q : g2.toInt = 0
    · exfalso
      have h1 := cz q
      have h2 := az h1.1
      exact nv_ne hne ⟨h2.1, h2.2, h1.2⟩
    · omega
  have gne : ¬ (g2 = 0) := by
    intro q
    rw [q, z0] at G0
    omega
  obtain ⟨A, hA⟩ := Int.dvd_trans ca aa
  obtain ⟨B, hB⟩ := Int.dvd_trans ca ab
  obtain ⟨C, hC⟩ := cb
  have dv : ∀ (t : Int64) (T : Int), t.toInt = g2.toInt * T → t.toInt.natAbs ≤ M → (t / g2).toInt = T ∧ T.natAbs ≤ M := by
    intro t T h hle
    have hT : T.natAbs ≤ M := by
      rw [h, Int.natAbs_mul] at hle
      have h1 : 1 ≤ g2.toInt.natAbs := by omega
      have h2 : 1 * T.natAbs ≤ g2.toInt.natAbs * T.natAbs := Nat.mul_le_mul_right _ h1
      omega
    refine ⟨?_, hT⟩
    rw [Int64.toInt_div, h, Int.mul_tdiv_cancel_left _ (by omega)]
    exact bm (by omega)
  have d1 := dv _ A hA hb.1
  have d2 := dv _ B hB hb.2.1
  have d3 := dv _ C hC hb.2.2
  refine ⟨pJ (pJ (pJ s 24 (s.2.1 24 / g2)) 25 (s.2.1 25 / g2)) 26 (s.2.1 26 / g2), g2.toInt, ?_, G0, ?_, ?_, ?_, rfl, rfl, ?_⟩
  · unfold mxX7_plain
    rw [e1, Option.bind_some]
    dsimp only
    rw [e2, Option.bind_some]
    dsimp only
    rw [if_neg gne, Option.bind_some, if_neg gne, Option.bind_some, if_neg gne, Option.bind_some]
    rfl
  · refine v3_ext ?_ ?_ ?_
    · show (s.2.1 24).toInt = g2.toInt * (s.2.1 24 / g2).toInt + 0 * 0
      rw [d1.1, ← hA]
      omega
    · show (s.2.1 25).toInt = g2.toInt * (s.2.1 25 / g2).toInt + 0 * 0
      rw [d2.1, ← hB]
      omega
    · show (s.2.1 26).toInt = g2.toInt * (s.2.1 26 / g2).toInt + 0 * 0
      rw [d3.1, ← hC]
      omega
  · refine ⟨(k * i, k * j, l), ?_⟩
    show (s.2.1 24 / g2).toInt * (k * i) + (s.2.1 25 / g2).toInt * (k * j) + (s.2.1 26 / g2).toInt * l = 1
    rw [d1.1, d2.1, d3.1]
    have h1 : g2.toInt * 1 = g2.toInt * (A * (k * i) + B * (k * j) + C * l) := by
      rw [← rl_3, ← hA, ← hB, ← hC, ← rl_2, ← aij, ← cij, Int.mul_one]
    exact (Int.eq_of_mul_eq_mul_left (by omega) h1).symm
  · refine ⟨?_, ?_, ?_⟩
    · show (s.2.1 24 / g2).toInt.natAbs ≤ M
      rw [d1.1]
      exact d1.2
    · show (s.2.1 25 / g2).toInt.natAbs ≤ M
      rw [d2.1]
      exact d2.2
    · show (s.2.1 26 / g2).toInt.natAbs ≤ M
      rw [d3.1]
      exact d3.2
  · intro t k1 k2 k3
    simp [pJ, vp_updL, k1, k2, k3]
theorem x_flat {N : Nat} {s : mS} : (nv s = v0 → mxX7_isFlat N s = some (s, 1)) ∧ (nv s ≠ v0 → mxX7_isFlat N s = some (s, 0)) := by
  have z : ∀ t : Int64, t = 0 ↔ t.toInt = 0 := fun t => ⟨fun h => by rw [h]; rfl, fun h => Int64.toInt_inj.mp (by rw [h]; rfl)⟩
  unfold mxX7_isFlat
  constructor
  · intro h
    have h1 : (s.2.1 24).toInt = 0 := congrArg (fun v : V3 => v.1) h
    have h2 : (s.2.1 25).toInt = 0 := congrArg (fun v : V3 => v.2.1) h
    have h3 : (s.2.1 26).toInt = 0 := congrArg (fun v : V3 => v.2.2) h
    rw [if_pos ((z _).mpr h1), if_pos ((z _).mpr h2), if_pos ((z _).mpr h3)]
  · intro h
    have hn := nv_ne h
    by_cases c1 : s.2.1 24 = 0
    · rw [if_pos c1]
      by_cases c2 : s.2.1 25 = 0
      · rw [if_pos c2]
        by_cases c3 : s.2.1 26 = 0
        · exact absurd ⟨(z _).mp c1, (z _).mp c2, (z _).mp c3⟩ hn
        · rw [if_neg c3]
      · rw [if_neg c2]
    · rw [if_neg c1]
