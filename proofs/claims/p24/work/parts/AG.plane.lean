/-- divisor: the greatest common one -/
theorem c_dv9 {N : Nat} {h : mh} : ∀ (Y f c : Nat) (x y : Int64), y.toInt = (Y : Int) → 0 ≤ x.toInt → x.toInt.natAbs < 4611686018427387904 → Y < 4611686018427387904 → Y < f → c + Y < 100000 → ∃ g, fxX6_divisor_9 N f x y (Int32.ofNat c) h = some (h, g) ∧ gc g.toInt x.toInt y.toInt ∧ (g.toInt = x.toInt ∨ g.toInt ≤ y.toInt) := by
  intro Y
  induction Y using Nat.strongRecOn with
  | ind Y ih =>
    intro f cn x y hy hx bx bY hf hc
    obtain ⟨f', rfl⟩ : ∃ f', f = f' + 1 := ⟨f - 1, by omega⟩
    have z0 : (0 : Int64).toInt = 0 := rfl
    have n1 : ¬ ((100000 : Int32) ≤ Int32.ofNat cn) := by
      have := i_le (a := 100000) (b := cn) (by omega) (by omega)
      show ¬ (Int32.ofNat 100000 ≤ Int32.ofNat cn)
      rw [this]
      omega
    have le0 : y ≤ 0 ↔ Y = 0 := by
      rw [Int64.le_iff_toInt_le, hy, z0]
      omega
    by_cases c : y = 0
    · refine ⟨x, ?_, ⟨hx, fun h => ⟨h, by rw [c]; rfl⟩, ⟨1, 0, by omega⟩, Int.dvd_refl _, by rw [c]; exact Int.dvd_zero _⟩, .inl rfl⟩
      rw [fxX6_divisor_9, if_neg n1, if_pos (by rw [c]; exact Int64.le_refl _)]
    · have hY : 0 < Y := by
        by_cases q : Y = 0
        · exfalso
          apply c
          apply Int64.toInt_inj.mp
          rw [hy, z0, q]
          rfl
        · omega
      have hq : (x / y).toInt = x.toInt / (Y : Int) := by
        rw [Int64.toInt_div, hy, Int.tdiv_eq_ediv_of_nonneg hx]
        apply bm
        have h1 : x.toInt / (Y : Int) ≤ x.toInt := Int.ediv_le_self _ hx
        have h2 : 0 ≤ x.toInt / (Y : Int) := Int.ediv_nonneg hx (by omega)
        omega
      have h1 : x.toInt / (Y : Int) ≤ x.toInt := Int.ediv_le_self _ hx
      have h2 : 0 ≤ x.toInt / (Y : Int) := Int.ediv_nonneg hx (by omega)
      have hm := Int.emod_def x.toInt (Y : Int)
      have m0 := Int.emod_nonneg x.toInt (show (Y : Int) ≠ 0 by omega)
      have m1 := Int.emod_lt_of_pos x.toInt (show (0 : Int) < (Y : Int) by omega)
      have hqy : (x / y * y).toInt = x.toInt / (Y : Int) * (Y : Int) := by
        rw [Int64.toInt_mul, hq, hy]
        apply bm
        rw [Int.mul_comm]
        omega
      have hr : (x - x / y * y).toInt = x.toInt % (Y : Int) := by
        rw [Int64.toInt_sub, hqy, hm, Int.mul_comm]
        apply bm
        rw [← hm]
        omega
      obtain ⟨g, e, ⟨g0, gz, ⟨i, j, gij⟩, gx, gy⟩, gl⟩ := ih (x.toInt % (Y : Int)).toNat (by omega) f' (cn + 1) y (x - x / y * y) (by rw [hr]; omega) (by omega) (by omega) (by omega) (by omega) (by omega)
      refine ⟨g, ?_, ⟨g0, fun h => ?_, ⟨j, i - j * (x.toInt / (Y : Int)), ?_⟩, ?_, gx⟩, .inr ?_⟩
      · rw [fxX6_divisor_9, if_neg n1, if_neg (by rw [le0]; omega), if_neg c, i_s]
        exact e
      · exfalso
        have := (gz h).1
        omega
      · rw [gij, hr, hm, hy, Int.mul_comm (Y : Int)]
        exact rl_1 _ _ _ _ _
      · rw [hr, hm] at gy
        rw [hy] at gx
        have h3 := Int.dvd_add gy (Int.dvd_trans gx (Int.dvd_mul_right (Y : Int) (x.toInt / (Y : Int))))
        rw [Int.sub_add_cancel] at h3
        exact h3
      · rcases gl with gl | gl
        · omega
        · rw [hr] at gl
          omega
/-- the divisor of two numbers that are not below 0 -/
theorem c_divisor {N M : Nat} {a b : Int64} {h : mh} (ha : 0 ≤ a.toInt) (hb : 0 ≤ b.toInt) (hA : a.toInt.natAbs ≤ M) (hB : b.toInt.natAbs ≤ M) (hM : M < 99999) (hN : 100000 < N) : ∃ g, fxX6_divisor N a b h = some (h, g) ∧ gc g.toInt a.toInt b.toInt ∧ 0 ≤ g.toInt ∧ g.toInt.natAbs ≤ M := by
  obtain ⟨g, e, k, l⟩ := c_dv9 (N := N) (h := h) b.toInt.toNat N 0 a b (by omega) ha (by omega) (by omega) (by omega) (by omega)
  refine ⟨g, e, k, k.1, ?_⟩
  have := k.1
  omega
