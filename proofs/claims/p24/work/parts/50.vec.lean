/-- whole vectors -/
abbrev V3 : Type := Int × Int × Int
def vs (a b : V3) : V3 := (a.1 - b.1, a.2.1 - b.2.1, a.2.2 - b.2.2)
def vd (a b : V3) : Int := a.1 * b.1 + a.2.1 * b.2.1 + a.2.2 * b.2.2
def vx (a b : V3) : V3 := (a.2.1 * b.2.2 - a.2.2 * b.2.1, a.2.2 * b.1 - a.1 * b.2.2, a.1 * b.2.1 - a.2.1 * b.1)
/-- k a + l b -/
def vl (k : Int) (a : V3) (l : Int) (b : V3) : V3 := (k * a.1 + l * b.1, k * a.2.1 + l * b.2.1, k * a.2.2 + l * b.2.2)
def dt (a b c : V3) : Int := vd (vx a b) c
theorem vd_vl (n : V3) (k : Int) (a : V3) (l : Int) (b : V3) : vd n (vl k a l b) = k * vd n a + l * vd n b := by
  simp only [vd, vl]
  grind
theorem dt_mul (a b c x y z : V3) : dt a b c * dt x y z = vd a x * (vd b y * vd c z - vd b z * vd c y) - vd a y * (vd b x * vd c z - vd b z * vd c x) + vd a z * (vd b x * vd c y - vd b y * vd c x) := by
  obtain ⟨a1, a2, a3⟩ := a
  obtain ⟨b1, b2, b3⟩ := b
  obtain ⟨c1, c2, c3⟩ := c
  obtain ⟨x1, x2, x3⟩ := x
  obtain ⟨y1, y2, y3⟩ := y
  obtain ⟨z1, z2, z3⟩ := z
  simp only [dt, vd, vx]
  grind
/-- three vectors across w lie in a plane -/
theorem dt_flat {w x y z : V3} (hw : 0 < vd w w) (hx : vd w x = 0) (hy : vd w y = 0) (hz : vd w z = 0) : dt x y z = 0 := by
  have h : vd w w * dt x y z = dt w y z * vd w x + dt x w z * vd w y + dt x y w * vd w z := by
    obtain ⟨w1, w2, w3⟩ := w
    obtain ⟨x1, x2, x3⟩ := x
    obtain ⟨y1, y2, y3⟩ := y
    obtain ⟨z1, z2, z3⟩ := z
    simp only [dt, vd, vx]
    grind
  rw [hx, hy, hz] at h
  simp only [Int.mul_zero, Int.add_zero] at h
  rcases Int.mul_eq_zero.mp h with h | h
  · omega
  · exact h
theorem mul3_neg {a b c : Int} (ha : a < 0) (hb : b < 0) (hc : c < 0) : a * b * c < 0 := Int.mul_neg_of_pos_of_neg (Int.mul_pos_of_neg_of_neg ha hb) hc
/-- no three planes that bound a body have a point v in their middle -/
theorem three_no {w v p1 p2 p3 q1 q2 q3 n1 n2 n3 : V3} (hw : 0 < vd w w)
    (a1 : 0 < vd w (vs v p1)) (a2 : 0 < vd w (vs v p2)) (a3 : 0 < vd w (vs v p3))
    (b1 : 0 < vd w (vs q1 v)) (b2 : 0 < vd w (vs q2 v)) (b3 : 0 < vd w (vs q3 v))
    (e1 : vd n1 (vs p1 v) = 0) (f1 : vd n1 (vs q1 v) = 0) (e2 : vd n2 (vs p2 v) = 0) (f2 : vd n2 (vs q2 v) = 0) (e3 : vd n3 (vs p3 v) = 0) (f3 : vd n3 (vs q3 v) = 0)
    (p12 : vd n1 (vs p2 v) ≤ 0) (q12 : vd n1 (vs q2 v) ≤ 0) (n12 : vd n1 (vs p2 v) < 0 ∨ vd n1 (vs q2 v) < 0)
    (p13 : vd n1 (vs p3 v) ≤ 0) (q13 : vd n1 (vs q3 v) ≤ 0) (n13 : vd n1 (vs p3 v) < 0 ∨ vd n1 (vs q3 v) < 0)
    (p21 : vd n2 (vs p1 v) ≤ 0) (q21 : vd n2 (vs q1 v) ≤ 0) (n21 : vd n2 (vs p1 v) < 0 ∨ vd n2 (vs q1 v) < 0)
    (p23 : vd n2 (vs p3 v) ≤ 0) (q23 : vd n2 (vs q3 v) ≤ 0) (n23 : vd n2 (vs p3 v) < 0 ∨ vd n2 (vs q3 v) < 0)
    (p31 : vd n3 (vs p1 v) ≤ 0) (q31 : vd n3 (vs q1 v) ≤ 0) (n31 : vd n3 (vs p1 v) < 0 ∨ vd n3 (vs q1 v) < 0)
    (p32 : vd n3 (vs p2 v) ≤ 0) (q32 : vd n3 (vs q2 v) ≤ 0) (n32 : vd n3 (vs p2 v) < 0 ∨ vd n3 (vs q2 v) < 0) : False := by
  have ng : ∀ {k l x y : Int}, 0 < k → 0 < l → x ≤ 0 → y ≤ 0 → (x < 0 ∨ y < 0) → k * x + l * y < 0 := by
    intro k l x y hk hl hx hy h
    have h1 : k * x ≤ 0 := Int.mul_nonpos_of_nonneg_of_nonpos (Int.le_of_lt hk) hx
    have h2 : l * y ≤ 0 := Int.mul_nonpos_of_nonneg_of_nonpos (Int.le_of_lt hl) hy
    rcases h with h | h
    · have := Int.mul_neg_of_pos_of_neg hk h
      omega
    · have := Int.mul_neg_of_pos_of_neg hl h
      omega
  have w0 : ∀ (p q : V3), vd w (vl (vd w (vs q v)) (vs p v) (vd w (vs v p)) (vs q v)) = 0 := by
    intro p q
    rw [vd_vl]
    have : vd w (vs p v) = - vd w (vs v p) := by
      simp only [vd, vs]
      grind
    rw [this]
    grind
  have hd := dt_flat hw (w0 p1 q1) (w0 p2 q2) (w0 p3 q3)
  have hm := dt_mul n1 n2 n3 (vl (vd w (vs q1 v)) (vs p1 v) (vd w (vs v p1)) (vs q1 v)) (vl (vd w (vs q2 v)) (vs p2 v) (vd w (vs v p2)) (vs q2 v)) (vl (vd w (vs q3 v)) (vs p3 v) (vd w (vs v p3)) (vs q3 v))
  rw [hd] at hm
  simp only [vd_vl, e1, f1, e2, f2, e3, f3] at hm
  have m12 := ng b2 a2 p12 q12 n12
  have m13 := ng b3 a3 p13 q13 n13
  have m21 := ng b1 a1 p21 q21 n21
  have m23 := ng b3 a3 p23 q23 n23
  have m31 := ng b1 a1 p31 q31 n31
  have m32 := ng b2 a2 p32 q32 n32
  have t1 := mul3_neg m12 m23 m31
  have t2 := mul3_neg m13 m21 m32
  generalize vd w (vs q2 v) * vd n1 (vs p2 v) + vd w (vs v p2) * vd n1 (vs q2 v) = M12 at *
  generalize vd w (vs q3 v) * vd n1 (vs p3 v) + vd w (vs v p3) * vd n1 (vs q3 v) = M13 at *
  generalize vd w (vs q1 v) * vd n2 (vs p1 v) + vd w (vs v p1) * vd n2 (vs q1 v) = M21 at *
  generalize vd w (vs q3 v) * vd n2 (vs p3 v) + vd w (vs v p3) * vd n2 (vs q3 v) = M23 at *
  generalize vd w (vs q1 v) * vd n3 (vs p1 v) + vd w (vs v p1) * vd n3 (vs q1 v) = M31 at *
  generalize vd w (vs q2 v) * vd n3 (vs p2 v) + vd w (vs v p2) * vd n3 (vs q2 v) = M32 at *
  have hm' : M12 * M23 * M31 + M13 * M21 * M32 = 0 := by grind
  omega
/-- no more pigeons than holes -/
theorem pigeon : ∀ (m F : Nat) (g : Nat → Nat), (∀ k, k < F → g k < m) → (∀ i j, i < j → j < F → g i ≠ g j) → F ≤ m := by
  intro m
  induction m with
  | zero =>
    intro F g h _
    by_cases hF : F = 0
    · omega
    · exact absurd (h 0 (by omega)) (by omega)
  | succ m ih =>
    intro F g h hi
    by_cases hk : ∃ k, k < F ∧ g k = m
    · obtain ⟨k0, hk0, e0⟩ := hk
      have := ih (F - 1) (fun k => if k < k0 then g k else g (k + 1)) (by
        intro k hk
        by_cases hl : k < k0
        · simp only [hl, if_true]
          have h1 := h k (by omega)
          have h2 := hi k k0 hl hk0
          omega
        · simp only [hl, if_false]
          have h1 := h (k + 1) (by omega)
          have h2 := hi k0 (k + 1) (by omega) (by omega)
          omega) (by
        intro i j hij hj
        by_cases hl : i < k0
        · by_cases hm : j < k0
          · simp only [hl, hm, if_true]
            exact hi i j hij (by omega)
          · simp only [hl, hm, if_true, if_false]
            exact hi i (j + 1) (by omega) (by omega)
        · have hm : ¬ j < k0 := by omega
          simp only [hl, hm, if_false]
          exact hi (i + 1) (j + 1) (by omega) (by omega))
      omega
    · have := ih F g (by
        intro k hk'
        have h1 := h k hk'
        have h2 : g k ≠ m := fun e => hk ⟨k, hk', e⟩
        omega) hi
      omega
/-- two to a hole -/
theorem pigeon2 (m F : Nat) (w : Nat → Nat) (h : ∀ k, k < F → w k < m) (h3 : ∀ i j k, i < j → j < k → k < F → w i = w j → w j = w k → False) : F ≤ 2 * m := by
  have key := pigeon (2 * m) F (fun k => 2 * w k + if (∃ i, i < k ∧ w i = w k) then 1 else 0) (by
    intro k hk
    have := h k hk
    by_cases c : ∃ i, i < k ∧ w i = w k
    · simp only [c, if_true]
      omega
    · simp only [c, if_false]
      omega) (by
    intro i j hij hj
    by_cases e : w i = w j
    · have cj : ∃ k, k < j ∧ w k = w j := ⟨i, hij, e⟩
      by_cases ci : ∃ k, k < i ∧ w k = w i
      · obtain ⟨k, hk, ek⟩ := ci
        exact absurd (h3 k i j hk hij hj ek e) (fun h => h)
      · simp only [ci, cj, if_true, if_false]
        omega
    · by_cases ci : ∃ k, k < i ∧ w k = w i
      · by_cases cj : ∃ k, k < j ∧ w k = w j
        · simp only [ci, cj, if_true]
          omega
        · simp only [ci, cj, if_true, if_false]
          omega
      · by_cases cj : ∃ k, k < j ∧ w k = w j
        · simp only [ci, cj, if_true, if_false]
          omega
        · simp only [ci, cj, if_false]
          omega)
  exact key
