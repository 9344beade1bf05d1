/-- a point of Z that lies strictly farthest along some way -/
def eZ (Z : V3 → Prop) (x : V3) : Prop := Z x ∧ ∃ u, ∀ y, Z y → y ≠ x → vd u y < vd u x
/-- the sums of two rows of points -/
def sZ (s : cS) (p q kp kq : Nat) : V3 → Prop := fun x => ∃ i j, i < kp ∧ j < kq ∧ x = va (pc s p i) (pc s q j)
theorem wO_bd {v : V3} {A : Nat} (h : bd3 v A) : (vd wO v).natAbs ≤ 1001001 * A := by
  obtain ⟨h1, h2, h3⟩ := h
  show (1000000 * v.1 + 1000 * v.2.1 + 1 * v.2.2).natAbs ≤ _
  omega
theorem wO_ge {a b : V3} (ha : bd3 a 200) (hb : bd3 b 200) (h : ¬ lxl a b) : vd wO b ≤ vd wO a := by
  have : ¬ vd wO a < vd wO b := fun w => h ((lx_or ha hb).mpr w)
  omega
/-- a sum that lies farthest along some way, the greatest of several, lies strictly farthest along another -/
theorem fzz_eZ {s : cS} {p q kp kq i j : Nat} {d : V3} (bp : ∀ j, j < kp → bd3 (pc s p j) 200) (bq : ∀ j, j < kq → bd3 (pc s q j) 200) (f : fzz s p q kp kq d i j) : eZ (sZ s p q kp kq) (va (pc s p i) (pc s q j)) := by
  have f' := f
  obtain ⟨hi, hj, f1, f2⟩ := f'
  refine ⟨⟨i, j, hi, hj, rfl⟩, vl 1000000000 d 1 wO, fun y ⟨i', j', hi', hj', ey⟩ ne => ?_⟩
  rw [vd_vl_l, vd_vl_l, Int.one_mul, Int.one_mul]
  have w1 := wO_bd (bp i hi)
  have w2 := wO_bd (bq j hj)
  have w3 := wO_bd (bp i' hi')
  have w4 := wO_bd (bq j' hj')
  have le := fzz_le f hi' hj'
  rw [ey, vd_va wO, vd_va wO]
  by_cases c : vd d (va (pc s p i') (pc s q j')) < vd d (va (pc s p i) (pc s q j))
  · omega
  · have g1 := fz_le f1 hi'
    have g2 := fz_le f2 hj'
    have eq : vd d (va (pc s p i') (pc s q j')) = vd d (va (pc s p i) (pc s q j)) := by omega
    rw [eq]
    rw [vd_va, vd_va] at eq
    have n1 : ¬ lxl (pc s p i) (pc s p i') := by
      rcases f1 i' hi' with w | ⟨-, w⟩
      · omega
      · exact w
    have n2 : ¬ lxl (pc s q j) (pc s q j') := by
      rcases f2 j' hj' with w | ⟨-, w⟩
      · omega
      · exact w
    have m1 := wO_ge (bp i hi) (bp i' hi') n1
    have m2 := wO_ge (bq j hj) (bq j' hj') n2
    by_cases e1 : vd wO (pc s p i') = vd wO (pc s p i)
    · by_cases e2 : vd wO (pc s q j') = vd wO (pc s q j)
      · exfalso
        have y1 := lx_eq (bp i' hi') (bp i hi) e1
        have y2 := lx_eq (bq j' hj') (bq j hj) e2
        exact ne (by rw [ey, y1, y2])
      · omega
    · omega
/-- strictly farthest points lie between no two others -/
theorem NB_eZ {Z : V3 → Prop} {P : Nat → V3} {K : Nat} (h : ∀ j, j < K → eZ Z (P j)) : NB P K := by
  intro i b c x y hi hb hc h0 h1 hr
  apply Classical.byContradiction
  intro ne
  obtain ⟨-, u, hu⟩ := h i hi
  have k1 := hu (P c) (h c hc).1 (fun e => ne e.symm)
  have k2 : vd u (P b) ≤ vd u (P i) := by
    by_cases e : P b = P i
    · rw [e]
      exact Int.le_refl _
    · exact Int.le_of_lt (hu (P b) (h b hb).1 e)
  have e := hr u
  rw [vd_vs', vd_vs'] at e
  have l1 : y * (vd u (P b) - vd u (P c)) ≤ y * (vd u (P i) - vd u (P c)) := Int.mul_le_mul_of_nonneg_left (by omega) (Int.le_of_lt h0)
  have l2 : y * (vd u (P i) - vd u (P c)) < x * (vd u (P i) - vd u (P c)) := Int.mul_lt_mul_of_pos_right h1 (by omega)
  omega
theorem vx_fl {a b : V3} (h : vx a b = v0) : vx b a = v0 := by
  have h1 := vx_1 h
  have h2 := vx_2 h
  have h3 := vx_3 h
  refine v3_ext ?_ ?_ ?_
  · show b.2.1 * a.2.2 - b.2.2 * a.2.1 = 0
    rw [Int.mul_comm b.2.1, Int.mul_comm b.2.2]
    omega
  · show b.2.2 * a.1 - b.1 * a.2.2 = 0
    rw [Int.mul_comm b.2.2, Int.mul_comm b.1]
    omega
  · show b.1 * a.2.1 - b.2.1 * a.1 = 0
    rw [Int.mul_comm b.1, Int.mul_comm b.2.1]
    omega
/-- what the hull has found, in state s1: the knots, and why there are no more -/
def HF (s s1 : cS) (p q kp kq kd K : Nat) : Prop := (kd < 3 ∧ K = kd ∧ ST s s1 p q kp kq kd ∧ qI s1 28 2 = 0 ∧ KF s s1 p q kp kq kd) ∨ (kd = 3 ∧ ∃ k T C, WR (QG 25 k) s s1 p q kp kq 3 K T C ∧ (∀ t, t < T → qA s1 36 t ≠ 0) ∧ nu k ≠ v0 ∧ ∀ i j, i < kp → j < kq → vd (nu k) (va (pc s p i) (pc s q j)) = vd (nu k) (k 0)) ∨ (kd = 4 ∧ ∃ k T C, WR (QG 24 k) s s1 p q kp kq 4 K T C ∧ ∀ t, t < T → qA s1 36 t ≠ 0)
