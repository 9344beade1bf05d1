/-- no point that is farthest along some way lies between one and its next -/
theorem nx_between {n : V3} {Q : Nat → V3} {m a b e : Nat} {d : Int} (hn : 0 < vd n n) (hpl : ∀ k, k < m → vd n (Q k) = d) (hb : b < m) (he : e < m) (ha : a < m) (hab : a ≠ b) (hae : a ≠ e) (heb : e ≠ b) (xa : ex Q m a) (xb : ex Q m b) (h : nx1 n Q b e (fun k => k < m)) (z : br n (Q b) (Q e) (Q a) = 0) : False := by
  have pl : ∀ k, k < m → vd n (vs (Q k) (Q b)) = 0 := by
    intro k hk
    rw [vd_vs, hpl k hk, hpl b hb]
    omega
  obtain ⟨-, p2⟩ := h a ha hab
  have le := p2 z
  have par : vx (vs (Q a) (Q b)) (vs (Q e) (Q b)) = v0 := vx_anti0 (par0 hn (pl e he) (pl a ha) z)
  obtain ⟨u, hu⟩ := xb
  obtain ⟨v, hv⟩ := xa
  have u1 := hu a ha hab
  have u2 := hu e he heb
  have v1 := hv b hb (fun q => hab q.symm)
  have v2 := hv e he (fun q => hae q.symm)
  have A1 := along_u u par
  have A2 := along_u v par
  have A3 := along_u (vs (Q a) (Q b)) par
  have xne : vs (Q e) (Q b) ≠ v0 := by
    intro q
    have : vd u (vs (Q e) (Q b)) = 0 := by
      rw [q]
      simp [vd, v0]
    rw [vd_vs] at this
    omega
  have X := vd_pos xne
  rw [vd_vs u, vd_vs u] at A1
  rw [vd_vs v, vd_vs v] at A2
  generalize vd (vs (Q e) (Q b)) (vs (Q e) (Q b)) = E at *
  generalize vd (vs (Q a) (Q b)) (vs (Q e) (Q b)) = Y at *
  generalize vd (vs (Q a) (Q b)) (vs (Q a) (Q b)) = G at *
  have Yp : 0 < Y := by
    by_cases y : 0 < Y
    · exact y
    · have t1 : E * (vd u (Q a) - vd u (Q b)) < 0 := Int.mul_neg_of_pos_of_neg X (by omega)
      have t2 : 0 ≤ Y * (vd u (Q e) - vd u (Q b)) := Int.mul_nonneg_of_nonpos_of_nonpos (by omega) (by omega)
      omega
  have YE : Y ≤ E := by
    refine sq_le Yp (by omega) ?_
    have : E * G ≤ E * E := Int.mul_le_mul_of_nonneg_left le (by omega)
    omega
  have pv : 0 < vd v (Q e) - vd v (Q b) := by
    refine pos_of_mul Yp ?_
    rw [← A2]
    exact Int.mul_pos X (by omega)
  have t3 : Y * (vd v (Q e) - vd v (Q b)) ≤ E * (vd v (Q e) - vd v (Q b)) := Int.mul_le_mul_of_nonneg_right YE (by omega)
  have t4 : E * (vd v (Q e) - vd v (Q b)) < E * (vd v (Q a) - vd v (Q b)) := Int.mul_lt_mul_of_pos_left (by omega) X
  omega
theorem rm_1 (n1 n2 n3 a1 a2 a3 b1 b2 b3 c1 c2 c3 : Int) :
    (n1 * ((b2 - a2) * (c3 - a3) - (b3 - a3) * (c2 - a2)) + n2 * ((b3 - a3) * (c1 - a1) - (b1 - a1) * (c3 - a3)) + n3 * ((b1 - a1) * (c2 - a2) - (b2 - a2) * (c1 - a1)))
    = (n1 * ((c2 - b2) * (a3 - b3) - (c3 - b3) * (a2 - b2)) + n2 * ((c3 - b3) * (a1 - b1) - (c1 - b1) * (a3 - b3)) + n3 * ((c1 - b1) * (a2 - b2) - (c2 - b2) * (a1 - b1))) := by grind
/-- round about -/
theorem br_cyc (n a b c : V3) : br n a b c = br n b c a := rm_1 n.1 n.2.1 n.2.2 a.1 a.2.1 a.2.2 b.1 b.2.1 b.2.2 c.1 c.2.1 c.2.2
theorem br_sw (n a b c : V3) : br n a c b = - br n a b c := br_anti n _ _
theorem rm_2 (n1 n2 n3 a1 a2 a3 b1 b2 b3 c1 c2 c3 w1 w2 w3 : Int) :
    (n1 * ((b2 - a2) * (c3 - a3) - (b3 - a3) * (c2 - a2)) + n2 * ((b3 - a3) * (c1 - a1) - (b1 - a1) * (c3 - a3)) + n3 * ((b1 - a1) * (c2 - a2) - (b2 - a2) * (c1 - a1)))
    = (n1 * ((c2 - b2) * (w3 - b3) - (c3 - b3) * (w2 - b2)) + n2 * ((c3 - b3) * (w1 - b1) - (c1 - b1) * (w3 - b3)) + n3 * ((c1 - b1) * (w2 - b2) - (c2 - b2) * (w1 - b1)))
    + (n1 * ((a2 - c2) * (w3 - c3) - (a3 - c3) * (w2 - c2)) + n2 * ((a3 - c3) * (w1 - c1) - (a1 - c1) * (w3 - c3)) + n3 * ((a1 - c1) * (w2 - c2) - (a2 - c2) * (w1 - c1)))
    + (n1 * ((b2 - a2) * (w3 - a3) - (b3 - a3) * (w2 - a2)) + n2 * ((b3 - a3) * (w1 - a1) - (b1 - a1) * (w3 - a3)) + n3 * ((b1 - a1) * (w2 - a2) - (b2 - a2) * (w1 - a1))) := by grind
/-- a triangle is the sum of its parts, as w cuts it -/
theorem br_parts (n a b c w : V3) : br n a b c = br n b c w + br n c a w + br n a b w := rm_2 n.1 n.2.1 n.2.2 a.1 a.2.1 a.2.2 b.1 b.2.1 b.2.2 c.1 c.2.1 c.2.2 w.1 w.2.1 w.2.2
/-- a point of a triangle isn't farther than all three along any way -/
theorem tri_in {n a b c w u : V3} {d : Int} (hn : 0 < vd n n) (ha : vd n a = d) (hb : vd n b = d) (hc : vd n c = d) (hw : vd n w = d) (h1 : 0 ≤ br n b c w) (h2 : 0 ≤ br n c a w) (h3 : 0 ≤ br n a b w) (hT : 0 < br n a b c) (ua : vd u a < vd u w) (ub : vd u b < vd u w) (uc : vd u c < vd u w) : False := by
  have id1 := br_id (n := n) (x := vs b a) (y := vs w a) (z := vs c a) (u := u) hn (by rw [vd_vs]; omega) (by rw [vd_vs]; omega) (by rw [vd_vs]; omega)
  have e1 : vd n (vx (vs b a) (vs c a)) = br n a b c := rfl
  have e2 : vd n (vx (vs w a) (vs c a)) = br n a w c := rfl
  have e3 : vd n (vx (vs b a) (vs w a)) = br n a b w := rfl
  rw [e1, e2, e3, vd_vs, vd_vs, vd_vs] at id1
  have e4 : br n a w c = br n c a w := (br_cyc n c a w).symm
  rw [e4] at id1
  have ps := br_parts n a b c w
  generalize br n a b c = T at *
  generalize br n b c w = A at *
  generalize br n c a w = B at *
  generalize br n a b w = C at *
  generalize hW : vd u w - vd u a = W at *
  generalize hP : vd u b - vd u a = P at *
  generalize hR : vd u c - vd u a = R at *
  have w0 : 0 < W := by omega
  have id2 : W * T = P * B + R * C := id1
  have t1 : P * B ≤ W * B := Int.mul_le_mul_of_nonneg_right (by omega) h2
  have t2 : R * C ≤ W * C := Int.mul_le_mul_of_nonneg_right (by omega) h3
  have t3 : W * T = W * A + W * B + W * C := by
    rw [ps, Int.mul_add, Int.mul_add]
  have t4 : 0 ≤ W * A := Int.mul_nonneg (by omega) h1
  have t5 : W * A = 0 := by omega
  have t6 : A = 0 := z_of_mul w0 t5
  by_cases c1 : 0 < B
  · have : P * B < W * B := Int.mul_lt_mul_of_pos_right (by omega) c1
    omega
  · by_cases c2 : 0 < C
    · have : R * C < W * C := Int.mul_lt_mul_of_pos_right (by omega) c2
      omega
    · omega
/-- every point that is farthest along some way stands in the walk round -/
theorem ring_all {n : V3} {Q : Nat → V3} {c r : Nat} {d : Int} {g : Nat → Nat} (hn : 0 < vd n n) (hpl : ∀ k, k < c → vd n (Q k) = d) (hr : 3 ≤ r) (g0 : g 0 = 0) (gr : g r = 0) (hg : ∀ j, j < r → g j < c ∧ ex Q c (g j)) (hd : ∀ i j, i < j → j < r → g i ≠ g j) (hx : ∀ j, j < r → nx1 n Q (g j) (g (j + 1)) (fun k => k < c)) {w : Nat} (hw : w < c) (xw : ex Q c w) : ∃ j, j < r ∧ g j = w := by
  by_cases cc : ∃ j, j < r ∧ g j = w
  · exact cc
  · exfalso
    have ne : ∀ j, j < r → w ≠ g j := fun j hj e => cc ⟨j, hj, e.symm⟩
    have hc0 : 0 < c := by have := (hg 0 (by omega)).1; omega
    have s1 : 0 ≤ br n (Q 0) (Q (g 1)) (Q w) := by
      have := (hx 0 (by omega) w hw (ne 0 (by omega))).1
      rw [g0] at this
      exact this
    have sl : br n (Q 0) (Q (g (r - 1))) (Q w) ≤ 0 := by
      have h1 := (hx (r - 1) (by omega) w hw (ne (r - 1) (by omega))).1
      rw [show r - 1 + 1 = r by omega, gr] at h1
      have h2 : br n (Q (g (r - 1))) (Q 0) (Q w) = - br n (Q 0) (Q (g (r - 1))) (Q w) := by
        rw [br_cyc n (Q (g (r - 1))) (Q 0) (Q w), br_sw n (Q 0) (Q (g (r - 1))) (Q w)]
      omega
    obtain ⟨j, ⟨j2, jr, js⟩, -, jl⟩ := least (Q := fun j => 2 ≤ j ∧ j < r ∧ br n (Q 0) (Q (g j)) (Q w) ≤ 0) (r - 1) ⟨by omega, by omega, sl⟩
    have si : 0 ≤ br n (Q 0) (Q (g (j - 1))) (Q w) := by
      by_cases q : j = 2
      · rw [q]
        exact s1
      · by_cases q2 : br n (Q 0) (Q (g (j - 1))) (Q w) ≤ 0
        · exact absurd ⟨by omega, by omega, q2⟩ (jl (j - 1) (by omega))
        · omega
    have hb := hg (j - 1) (by omega)
    have he := hg j jr
    have hz := hg 0 (by omega)
    rw [g0] at hz
    have d1 : g (j - 1) ≠ g j := hd (j - 1) j (by omega) jr
    have d2 : 0 ≠ g (j - 1) := by
      have := hd 0 (j - 1) (by omega) (by omega)
      rw [g0] at this
      exact this
    have d3 : 0 ≠ g j := by
      have := hd 0 j (by omega) jr
      rw [g0] at this
      exact this
    have nxb := hx (j - 1) (by omega)
    rw [show j - 1 + 1 = j by omega] at nxb
    have h1 := (nxb w hw (ne (j - 1) (by omega))).1
    have hT0 := (nxb 0 hz.1 d2).1
    have hT : 0 < br n (Q 0) (Q (g (j - 1))) (Q (g j)) := by
      rw [br_cyc]
      by_cases q : br n (Q (g (j - 1))) (Q (g j)) (Q 0) = 0
      · exact absurd (nx_between hn hpl hb.1 he.1 hz.1 d2 d3 (fun q => d1 q.symm) hz.2 hb.2 nxb q) (fun h => h)
      · omega
    obtain ⟨u, hu⟩ := xw
    have w0 : (0 : Nat) ≠ w := by
      have := ne 0 (by omega)
      rw [g0] at this
      exact fun q => this q.symm
    have h2 : 0 ≤ br n (Q (g j)) (Q 0) (Q w) := by
      have h2' : br n (Q (g j)) (Q 0) (Q w) = - br n (Q 0) (Q (g j)) (Q w) := by
        rw [br_cyc n (Q (g j)) (Q 0) (Q w), br_sw n (Q 0) (Q (g j)) (Q w)]
      omega
    exact tri_in hn (hpl 0 hz.1) (hpl _ hb.1) (hpl _ he.1) (hpl w hw) h1 h2 si hT (hu 0 hz.1 w0) (hu _ hb.1 (fun q => ne (j - 1) (by omega) q.symm)) (hu _ he.1 (fun q => ne j jr q.symm))
