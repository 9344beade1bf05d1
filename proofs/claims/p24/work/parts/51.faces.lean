theorem v3_ext {a b : V3} (h1 : a.1 = b.1) (h2 : a.2.1 = b.2.1) (h3 : a.2.2 = b.2.2) : a = b := by
  obtain ⟨a1, a2, a3⟩ := a
  obtain ⟨b1, b2, b3⟩ := b
  simp only at h1 h2 h3
  rw [h1, h2, h3]
def v0 : V3 := (0, 0, 0)
theorem sq_nn (x : Int) : 0 ≤ x * x := by
  rcases Int.le_total 0 x with h | h
  · exact Int.mul_nonneg h h
  · exact Int.mul_nonneg_of_nonpos_of_nonpos h h
theorem sq_z {x : Int} (h : x * x = 0) : x = 0 := by
  rcases Int.mul_eq_zero.mp h with h | h <;> exact h
theorem vd_pos {e : V3} (h : e ≠ v0) : 0 < vd e e := by
  have h1 := sq_nn e.1
  have h2 := sq_nn e.2.1
  have h3 := sq_nn e.2.2
  unfold vd
  by_cases z : e.1 * e.1 + e.2.1 * e.2.1 + e.2.2 * e.2.2 = 0
  · have y1 : e.1 = 0 := sq_z (by omega)
    have y2 : e.2.1 = 0 := sq_z (by omega)
    have y3 : e.2.2 = 0 := sq_z (by omega)
    have y : e = v0 := v3_ext y1 y2 y3
    exact absurd y h
  · omega
theorem vx_1 {a b : V3} (h : vx a b = v0) : a.2.1 * b.2.2 - a.2.2 * b.2.1 = 0 := congrArg (fun v : V3 => v.1) h
theorem vx_2 {a b : V3} (h : vx a b = v0) : a.2.2 * b.1 - a.1 * b.2.2 = 0 := congrArg (fun v : V3 => v.2.1) h
theorem vx_3 {a b : V3} (h : vx a b = v0) : a.1 * b.2.1 - a.2.1 * b.1 = 0 := congrArg (fun v : V3 => v.2.2) h
theorem ri_1 (a1 a2 a3 e1 e2 e3 : Int) : (e1 * e1 + e2 * e2 + e3 * e3) * a1 - (a1 * e1 + a2 * e2 + a3 * e3) * e1 = e2 * (a1 * e2 - a2 * e1) - e3 * (a3 * e1 - a1 * e3) := by grind
theorem ri_2 (a1 a2 a3 e1 e2 e3 : Int) : (e1 * e1 + e2 * e2 + e3 * e3) * a2 - (a1 * e1 + a2 * e2 + a3 * e3) * e2 = e3 * (a2 * e3 - a3 * e2) - e1 * (a1 * e2 - a2 * e1) := by grind
theorem ri_3 (a1 a2 a3 e1 e2 e3 : Int) : (e1 * e1 + e2 * e2 + e3 * e3) * a3 - (a1 * e1 + a2 * e2 + a3 * e3) * e3 = e1 * (a3 * e1 - a1 * e3) - e2 * (a2 * e3 - a3 * e2) := by grind
/-- what is along e is a share of e -/
theorem along_eq {e a : V3} (h : vx a e = v0) : vd e e * a.1 = vd a e * e.1 ∧ vd e e * a.2.1 = vd a e * e.2.1 ∧ vd e e * a.2.2 = vd a e * e.2.2 := by
  have r1 := ri_1 a.1 a.2.1 a.2.2 e.1 e.2.1 e.2.2
  have r2 := ri_2 a.1 a.2.1 a.2.2 e.1 e.2.1 e.2.2
  have r3 := ri_3 a.1 a.2.1 a.2.2 e.1 e.2.1 e.2.2
  rw [vx_2 h, vx_3 h, Int.mul_zero, Int.mul_zero] at r1
  rw [vx_1 h, vx_3 h, Int.mul_zero, Int.mul_zero] at r2
  rw [vx_1 h, vx_2 h, Int.mul_zero, Int.mul_zero] at r3
  unfold vd
  exact ⟨by omega, by omega, by omega⟩
theorem ri_4 (E x y u v : Int) : E * E * (x * v - y * u) = (E * x) * (E * v) - (E * y) * (E * u) := by grind
theorem ri_5 (A B p q : Int) : (A * p) * (B * q) - (A * q) * (B * p) = 0 := by grind
theorem along_along {e a b : V3} (he : e ≠ v0) (ha : vx a e = v0) (hb : vx b e = v0) : vx a b = v0 := by
  have hp := vd_pos he
  obtain ⟨a1, a2, a3⟩ := along_eq ha
  obtain ⟨b1, b2, b3⟩ := along_eq hb
  have k : ∀ x y u v p q : Int, vd e e * x = vd a e * p → vd e e * y = vd a e * q → vd e e * u = vd b e * p → vd e e * v = vd b e * q → x * v - y * u = 0 := by
    intro x y u v p q hx hy hu hv
    have r := ri_4 (vd e e) x y u v
    rw [hx, hy, hu, hv, ri_5] at r
    rcases Int.mul_eq_zero.mp r with h | h
    · rcases Int.mul_eq_zero.mp h with h | h <;> omega
    · exact h
  refine v3_ext ?_ ?_ ?_
  · exact k _ _ _ _ _ _ a2 a3 b2 b3
  · exact k _ _ _ _ _ _ a3 a1 b3 b1
  · exact k _ _ _ _ _ _ a1 a2 b1 b2
theorem ri_6 (a b c d x y : Int) : (a - b) * x - (c - d) * y = (a * x - c * y) - (b * x - d * y) := by grind
theorem vx_vs_l {a b e : V3} (ha : vx a e = v0) (hb : vx b e = v0) : vx (vs a b) e = v0 := by
  refine v3_ext ?_ ?_ ?_
  · show (a.2.1 - b.2.1) * e.2.2 - (a.2.2 - b.2.2) * e.2.1 = 0
    rw [ri_6, vx_1 ha, vx_1 hb]
    rfl
  · show (a.2.2 - b.2.2) * e.1 - (a.1 - b.1) * e.2.2 = 0
    rw [ri_6, vx_2 ha, vx_2 hb]
    rfl
  · show (a.1 - b.1) * e.2.1 - (a.2.1 - b.2.1) * e.1 = 0
    rw [ri_6, vx_3 ha, vx_3 hb]
    rfl
theorem vs_vs (a b o : V3) : vs (vs a o) (vs b o) = vs a b := by
  refine v3_ext ?_ ?_ ?_
  · show a.1 - o.1 - (b.1 - o.1) = a.1 - b.1
    omega
  · show a.2.1 - o.2.1 - (b.2.1 - o.2.1) = a.2.1 - b.2.1
    omega
  · show a.2.2 - o.2.2 - (b.2.2 - o.2.2) = a.2.2 - b.2.2
    omega
/-- points of one line, from its point o -/
theorem line_line {o e x y z : V3} (he : e ≠ v0) (hx : vx (vs x o) e = v0) (hy : vx (vs y o) e = v0) (hz : vx (vs z o) e = v0) : vx (vs y x) (vs z x) = v0 := by
  have h1 := vx_vs_l hy hx
  have h2 := vx_vs_l hz hx
  rw [vs_vs] at h1 h2
  exact along_along he h1 h2
theorem vd_vs (n a b : V3) : vd n (vs a b) = vd n a - vd n b := by
  obtain ⟨n1, n2, n3⟩ := n
  obtain ⟨a1, a2, a3⟩ := a
  obtain ⟨b1, b2, b3⟩ := b
  simp only [vd, vs]
  grind
theorem ri_7 (n1 n2 n3 a1 a2 a3 b1 b2 b3 : Int) : n2 * (a1 * b2 - a2 * b1) - n3 * (a3 * b1 - a1 * b3) = a1 * (n1 * b1 + n2 * b2 + n3 * b3) - b1 * (n1 * a1 + n2 * a2 + n3 * a3) := by grind
theorem ri_8 (n1 n2 n3 a1 a2 a3 b1 b2 b3 : Int) : n3 * (a2 * b3 - a3 * b2) - n1 * (a1 * b2 - a2 * b1) = a2 * (n1 * b1 + n2 * b2 + n3 * b3) - b2 * (n1 * a1 + n2 * a2 + n3 * a3) := by grind
theorem ri_9 (n1 n2 n3 a1 a2 a3 b1 b2 b3 : Int) : n1 * (a3 * b1 - a1 * b3) - n2 * (a2 * b3 - a3 * b2) = a3 * (n1 * b1 + n2 * b2 + n3 * b3) - b3 * (n1 * a1 + n2 * a2 + n3 * a3) := by grind
/-- what is across two ways is along their cross -/
theorem cross_along {a b n : V3} (ha : vd n a = 0) (hb : vd n b = 0) : vx n (vx a b) = v0 := by
  have h1 : n.1 * a.1 + n.2.1 * a.2.1 + n.2.2 * a.2.2 = 0 := ha
  have h2 : n.1 * b.1 + n.2.1 * b.2.1 + n.2.2 * b.2.2 = 0 := hb
  refine v3_ext ?_ ?_ ?_
  · refine (ri_7 n.1 n.2.1 n.2.2 a.1 a.2.1 a.2.2 b.1 b.2.1 b.2.2).trans ?_
    rw [h1, h2, Int.mul_zero, Int.mul_zero]
    rfl
  · refine (ri_8 n.1 n.2.1 n.2.2 a.1 a.2.1 a.2.2 b.1 b.2.1 b.2.2).trans ?_
    rw [h1, h2, Int.mul_zero, Int.mul_zero]
    rfl
  · refine (ri_9 n.1 n.2.1 n.2.2 a.1 a.2.1 a.2.2 b.1 b.2.1 b.2.2).trans ?_
    rw [h1, h2, Int.mul_zero, Int.mul_zero]
    rfl
theorem ri_10 (n1 n2 n3 m1 m2 m3 x1 x2 x3 : Int) : (m1 * x1 + m2 * x2 + m3 * x3) * n1 - (n1 * x1 + n2 * x2 + n3 * x3) * m1 = x2 * (n1 * m2 - n2 * m1) - x3 * (n3 * m1 - n1 * m3) := by grind
theorem ri_11 (n1 n2 n3 m1 m2 m3 x1 x2 x3 : Int) : (m1 * x1 + m2 * x2 + m3 * x3) * n2 - (n1 * x1 + n2 * x2 + n3 * x3) * m2 = x3 * (n2 * m3 - n3 * m2) - x1 * (n1 * m2 - n2 * m1) := by grind
theorem ri_12 (n1 n2 n3 m1 m2 m3 x1 x2 x3 : Int) : (m1 * x1 + m2 * x2 + m3 * x3) * n3 - (n1 * x1 + n2 * x2 + n3 * x3) * m3 = x1 * (n3 * m1 - n1 * m3) - x2 * (n2 * m3 - n3 * m2) := by grind
theorem ri_13 (K n1 n2 n3 y1 y2 y3 : Int) : K * (n1 * y1 + n2 * y2 + n3 * y3) = (K * n1) * y1 + (K * n2) * y2 + (K * n3) * y3 := by grind
theorem unit_pm {K t : Int} (h : K * t = 1) : K = 1 ∨ K = -1 := by
  have h1 : K.natAbs * t.natAbs = 1 := by
    rw [← Int.natAbs_mul, h]
    rfl
  have h2 := Nat.eq_one_of_mul_eq_one_right h1
  omega
/-- two ways without a common divisor that lie in one line are alike, or opposite -/
theorem prim_eq {n m x y : V3} (hx : vd n x = 1) (hy : vd m y = 1) (h : vx n m = v0) : m = n ∨ m = vs v0 n := by
  have r1 := ri_10 n.1 n.2.1 n.2.2 m.1 m.2.1 m.2.2 x.1 x.2.1 x.2.2
  have r2 := ri_11 n.1 n.2.1 n.2.2 m.1 m.2.1 m.2.2 x.1 x.2.1 x.2.2
  have r3 := ri_12 n.1 n.2.1 n.2.2 m.1 m.2.1 m.2.2 x.1 x.2.1 x.2.2
  have hx' : n.1 * x.1 + n.2.1 * x.2.1 + n.2.2 * x.2.2 = 1 := hx
  have hy' : m.1 * y.1 + m.2.1 * y.2.1 + m.2.2 * y.2.2 = 1 := hy
  rw [vx_3 h, vx_2 h, hx', Int.mul_zero, Int.mul_zero, Int.one_mul] at r1
  rw [vx_1 h, vx_3 h, hx', Int.mul_zero, Int.mul_zero, Int.one_mul] at r2
  rw [vx_2 h, vx_1 h, hx', Int.mul_zero, Int.mul_zero, Int.one_mul] at r3
  generalize m.1 * x.1 + m.2.1 * x.2.1 + m.2.2 * x.2.2 = K at r1 r2 r3
  have k1 : K * n.1 = m.1 := by omega
  have k2 : K * n.2.1 = m.2.1 := by omega
  have k3 : K * n.2.2 = m.2.2 := by omega
  have k4 : K * (n.1 * y.1 + n.2.1 * y.2.1 + n.2.2 * y.2.2) = 1 := by
    rw [ri_13, k1, k2, k3, hy']
  rcases unit_pm k4 with e | e
  · rw [e] at k1 k2 k3
    left
    refine v3_ext ?_ ?_ ?_ <;> omega
  · rw [e] at k1 k2 k3
    right
    refine v3_ext ?_ ?_ ?_
    · show m.1 = 0 - n.1
      omega
    · show m.2.1 = 0 - n.2.1
      omega
    · show m.2.2 = 0 - n.2.2
      omega
theorem least {Q : Nat → Prop} : ∀ i, Q i → ∃ a, Q a ∧ a ≤ i ∧ ∀ j, j < a → ¬ Q j := by
  intro i
  induction i using Nat.strongRecOn with
  | ind i ih =>
    intro h
    by_cases c : ∃ j, j < i ∧ Q j
    · obtain ⟨j, hj, hq⟩ := c
      obtain ⟨a, h1, h2, h3⟩ := ih j hj hq
      exact ⟨a, h1, by omega, h3⟩
    · exact ⟨i, h, Nat.le_refl i, fun j hj hq => c ⟨j, hj, hq⟩⟩
theorem greatest {Q : Nat → Prop} {m : Nat} {i : Nat} (hi : i < m) (h : Q i) : ∃ b, b < m ∧ Q b ∧ i ≤ b ∧ ∀ j, b < j → j < m → ¬ Q j := by
  obtain ⟨c, h1, h2, h3⟩ := least (Q := fun k => k < m ∧ Q (m - 1 - k)) (m - 1 - i) ⟨by omega, by rw [show m - 1 - (m - 1 - i) = i by omega]; exact h⟩
  refine ⟨m - 1 - c, by omega, h1.2, by omega, fun j hb hj hq => ?_⟩
  refine h3 (m - 1 - j) (by omega) ⟨by omega, ?_⟩
  rw [show m - 1 - (m - 1 - j) = j by omega]
  exact hq
/-- the points stand in order along w -/
def inOrd (w : V3) (P : Nat → V3) (m : Nat) : Prop := ∀ i j, i < j → j < m → 0 < vd w (vs (P j) (P i))
/-- a plane that bounds the points: three of them off one line lie on it -/
def fc (P : Nat → V3) (m : Nat) (n : V3) (d : Int) : Prop := (∀ i, i < m → vd n (P i) ≤ d) ∧ (∃ i j k, i < m ∧ j < m ∧ k < m ∧ vd n (P i) = d ∧ vd n (P j) = d ∧ vd n (P k) = d ∧ vx (vs (P j) (P i)) (vs (P k) (P i)) ≠ v0) ∧ ∃ x, vd n x = 1
/-- the points don't lie in one plane -/
def full (P : Nat → V3) (m : Nat) : Prop := ∀ n d, (∃ x, vd n x = 1) → ∃ i, i < m ∧ vd n (P i) ≠ d
theorem vx_self (e : V3) : vx e e = v0 := by
  refine v3_ext ?_ ?_ ?_
  · show e.2.1 * e.2.2 - e.2.2 * e.2.1 = 0
    grind
  · show e.2.2 * e.1 - e.1 * e.2.2 = 0
    grind
  · show e.1 * e.2.1 - e.2.1 * e.1 = 0
    grind
theorem vs_self (a : V3) : vs a a = v0 := by
  refine v3_ext ?_ ?_ ?_
  · show a.1 - a.1 = 0
    omega
  · show a.2.1 - a.2.1 = 0
    omega
  · show a.2.2 - a.2.2 = 0
    omega
theorem vx_0 (e : V3) : vx v0 e = v0 := by
  refine v3_ext ?_ ?_ ?_
  · show 0 * e.2.2 - 0 * e.2.1 = 0
    rw [Int.zero_mul, Int.zero_mul]
    rfl
  · show 0 * e.1 - 0 * e.2.2 = 0
    rw [Int.zero_mul, Int.zero_mul]
    rfl
  · show 0 * e.2.1 - 0 * e.1 = 0
    rw [Int.zero_mul, Int.zero_mul]
    rfl
/-- of a plane's points: the first, the last, and one off their line -/
theorem fc_mid {w : V3} {P : Nat → V3} {m : Nat} {n : V3} {d : Int} (ho : inOrd w P m) (hf : fc P m n d) : ∃ a x b, a < x ∧ x < b ∧ b < m ∧ vd n (P a) = d ∧ vd n (P x) = d ∧ vd n (P b) = d ∧ vx (vs (P x) (P a)) (vs (P b) (P a)) ≠ v0 := by
  obtain ⟨hs, ⟨i, j, k, hi, hj, hk, ei, ej, ek, hne⟩, hp⟩ := hf
  obtain ⟨a, ha, hai, hal⟩ := least (Q := fun t => vd n (P t) = d) i ei
  obtain ⟨b, hbm, hb, hib, hbg⟩ := greatest (Q := fun t => vd n (P t) = d) hi ei
  have inn : ∀ t, t < m → vd n (P t) = d → a ≤ t ∧ t ≤ b := by
    intro t ht e
    constructor
    · by_cases c : t < a
      · exact absurd e (hal t c)
      · omega
    · by_cases c : b < t
      · exact absurd e (hbg t c ht)
      · omega
  by_cases c : ∃ t, t < m ∧ vd n (P t) = d ∧ vx (vs (P t) (P a)) (vs (P b) (P a)) ≠ v0
  · obtain ⟨t, ht, et, h⟩ := c
    have hr := inn t ht et
    refine ⟨a, t, b, ?_, ?_, hbm, ha, et, hb, h⟩
    · by_cases q : a = t
      · rw [q, vs_self, vx_0] at h
        exact absurd rfl h
      · omega
    · by_cases q : t = b
      · rw [q, vx_self] at h
        exact absurd rfl h
      · omega
  · exfalso
    have al : ∀ t, t < m → vd n (P t) = d → vx (vs (P t) (P a)) (vs (P b) (P a)) = v0 := by
      intro t ht e
      by_cases q : vx (vs (P t) (P a)) (vs (P b) (P a)) = v0
      · exact q
      · exact absurd ⟨t, ht, e, q⟩ c
    by_cases q : a = b
    · have e1 := inn i hi ei
      have e2 := inn j hj ej
      have e3 : j = i := by omega
      rw [e3, vs_self, vx_0] at hne
      exact hne rfl
    · have hab : a < b := by omega
      have he : vs (P b) (P a) ≠ v0 := by
        intro z
        have := ho a b hab hbm
        rw [z] at this
        simp [vd, v0] at this
      exact hne (line_line he (al i hi ei) (al j hj ej) (al k hk ek))
/-- two such planes with three points in common, off one line, are one -/
theorem fc_same {P : Nat → V3} {m : Nat} {n n' : V3} {d d' : Int} {a x b : Nat} (hfull : full P m) (h : fc P m n d) (h' : fc P m n' d') (ha : vd n (P a) = d) (hx : vd n (P x) = d) (hb : vd n (P b) = d) (ha' : vd n' (P a) = d') (hx' : vd n' (P x) = d') (hb' : vd n' (P b) = d') (hne : vx (vs (P x) (P a)) (vs (P b) (P a)) ≠ v0) : n' = n ∧ d' = d := by
  have c1 : vx n (vx (vs (P x) (P a)) (vs (P b) (P a))) = v0 := cross_along (by rw [vd_vs]; omega) (by rw [vd_vs]; omega)
  have c2 : vx n' (vx (vs (P x) (P a)) (vs (P b) (P a))) = v0 := cross_along (by rw [vd_vs]; omega) (by rw [vd_vs]; omega)
  have c3 := along_along hne c1 c2
  obtain ⟨u, hu⟩ := h.2.2
  obtain ⟨u', hu'⟩ := h'.2.2
  rcases prim_eq hu hu' c3 with e | e
  · refine ⟨e, ?_⟩
    rw [e] at ha'
    omega
  · exfalso
    obtain ⟨i, hi, hne⟩ := hfull n d ⟨u, hu⟩
    have neg : ∀ p : V3, vd (vs v0 n) p = - vd n p := by
      intro p
      obtain ⟨n1, n2, n3⟩ := n
      obtain ⟨p1, p2, p3⟩ := p
      simp only [vd, vs, v0]
      grind
    rw [e, neg] at ha'
    have s1 := h.1 i hi
    have s2 := h'.1 i hi
    rw [e, neg] at s2
    omega
/-- at most two for each point but the first and the last -/
theorem faces_le {w : V3} {P : Nat → V3} {m F : Nat} {nf : Nat → V3} {df : Nat → Int} (hw : 0 < vd w w) (ho : inOrd w P m) (hfull : full P m) (hf : ∀ k, k < F → fc P m (nf k) (df k)) (hd : ∀ i j, i < j → j < F → ¬ (nf j = nf i ∧ df j = df i)) : F ≤ 2 * (m - 2) := by
  have ch : ∀ k, ∃ x, k < F → ∃ a b, a < x ∧ x < b ∧ b < m ∧ vd (nf k) (P a) = df k ∧ vd (nf k) (P x) = df k ∧ vd (nf k) (P b) = df k ∧ vx (vs (P x) (P a)) (vs (P b) (P a)) ≠ v0 := by
    intro k
    by_cases hk : k < F
    · obtain ⟨a, x, b, h⟩ := fc_mid ho (hf k hk)
      exact ⟨x, fun _ => ⟨a, b, h⟩⟩
    · exact ⟨0, fun h => absurd h hk⟩
  have hX : ∀ k, k < F → ∃ a b, a < (ch k).choose ∧ (ch k).choose < b ∧ b < m ∧ vd (nf k) (P a) = df k ∧ vd (nf k) (P (ch k).choose) = df k ∧ vd (nf k) (P b) = df k ∧ vx (vs (P (ch k).choose) (P a)) (vs (P b) (P a)) ≠ v0 := fun k hk => (ch k).choose_spec hk
  generalize hXe : (fun k => (ch k).choose) = X at hX
  have hX' : ∀ k, k < F → ∃ a b, a < X k ∧ X k < b ∧ b < m ∧ vd (nf k) (P a) = df k ∧ vd (nf k) (P (X k)) = df k ∧ vd (nf k) (P b) = df k ∧ vx (vs (P (X k)) (P a)) (vs (P b) (P a)) ≠ v0 := by
    intro k hk
    rw [← hXe]
    exact hX k hk
  refine pigeon2 (m - 2) F (fun k => X k - 1) ?_ ?_
  · intro k hk
    obtain ⟨a, b, h1, h2, h3, -⟩ := hX' k hk
    show X k - 1 < m - 2
    omega
  · intro i j k hij hjk hk e1 e2
    obtain ⟨a1, b1, p1, q1, r1, s1, t1, u1, z1⟩ := hX' i (by omega)
    obtain ⟨a2, b2, p2, q2, r2, s2, t2, u2, z2⟩ := hX' j (by omega)
    obtain ⟨a3, b3, p3, q3, r3, s3, t3, u3, z3⟩ := hX' k hk
    have f1 : X j = X i := by
      have : X i - 1 = X j - 1 := e1
      omega
    have f2 : X k = X i := by
      have : X j - 1 = X k - 1 := e2
      omega
    rw [f1] at p2 q2 t2 z2
    rw [f2] at p3 q3 t3 z3
    generalize X i = v at *
    have F1 := hf i (by omega)
    have F2 := hf j (by omega)
    have F3 := hf k hk
    have nn : ∀ (n n' : V3) (d d' : Int) (a b : Nat), fc P m n d → fc P m n' d' → ¬ (n' = n ∧ d' = d) → a < m → b < m → vd n (P v) = d → vd n' (P a) = d' → vd n' (P v) = d' → vd n' (P b) = d' → vx (vs (P v) (P a)) (vs (P b) (P a)) ≠ v0 → vd n (vs (P a) (P v)) ≤ 0 ∧ vd n (vs (P b) (P v)) ≤ 0 ∧ (vd n (vs (P a) (P v)) < 0 ∨ vd n (vs (P b) (P v)) < 0) := by
      intro n n' d d' a b g g' hne ha hb ev ea' ev' eb' z
      have l1 := g.1 a ha
      have l2 := g.1 b hb
      rw [vd_vs, vd_vs]
      refine ⟨by omega, by omega, ?_⟩
      by_cases c1 : vd n (P a) = d
      · by_cases c2 : vd n (P b) = d
        · exact absurd (fc_same hfull g g' c1 ev c2 ea' ev' eb' z) hne
        · right
          omega
      · left
        omega
    have sym : ∀ {n n' : V3} {d d' : Int}, ¬ (n' = n ∧ d' = d) → ¬ (n = n' ∧ d = d') := fun h e => h ⟨e.1.symm, e.2.symm⟩
    have n12 := nn _ _ _ _ a2 b2 F1 F2 (hd i j hij (by omega)) (by omega) (by omega) t1 s2 t2 u2 z2
    have n13 := nn _ _ _ _ a3 b3 F1 F3 (hd i k (by omega) hk) (by omega) (by omega) t1 s3 t3 u3 z3
    have n21 := nn _ _ _ _ a1 b1 F2 F1 (sym (hd i j hij (by omega))) (by omega) (by omega) t2 s1 t1 u1 z1
    have n23 := nn _ _ _ _ a3 b3 F2 F3 (hd j k hjk hk) (by omega) (by omega) t2 s3 t3 u3 z3
    have n31 := nn _ _ _ _ a1 b1 F3 F1 (sym (hd i k (by omega) hk)) (by omega) (by omega) t3 s1 t1 u1 z1
    have n32 := nn _ _ _ _ a2 b2 F3 F2 (sym (hd j k hjk hk)) (by omega) (by omega) t3 s2 t2 u2 z2
    exact three_no (v := P v) (p1 := P a1) (p2 := P a2) (p3 := P a3) (q1 := P b1) (q2 := P b2) (q3 := P b3) hw (ho a1 v p1 (by omega)) (ho a2 v p2 (by omega)) (ho a3 v p3 (by omega)) (ho v b1 q1 r1) (ho v b2 q2 r2) (ho v b3 q3 r3) (by rw [vd_vs]; omega) (by rw [vd_vs]; omega) (by rw [vd_vs]; omega) (by rw [vd_vs]; omega) (by rw [vd_vs]; omega) (by rw [vd_vs]; omega) n12.1 n12.2.1 n12.2.2 n13.1 n13.2.1 n13.2.2 n21.1 n21.2.1 n21.2.2 n23.1 n23.2.1 n23.2.2 n31.1 n31.2.1 n31.2.2 n32.1 n32.2.1 n32.2.2
