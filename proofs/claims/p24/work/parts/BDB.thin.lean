theorem th_1 (H b V : Int) : b * H * (b * H) * V = H * H * (b * (b * V)) := by grind
theorem th_2 (a b : Int) (C V : Int) : a * (a * C + b * 0) + b * (a * 0 + b * V) = a * (a * C) + b * (b * V) := by grind
theorem vs0_z {x : V3} (e : vs v0 x = v0) : x = v0 := by
  have e1 : 0 - x.1 = 0 := congrArg (fun v : V3 => v.1) e
  have e2 : 0 - x.2.1 = 0 := congrArg (fun v : V3 => v.2.1) e
  have e3 : 0 - x.2.2 = 0 := congrArg (fun v : V3 => v.2.2) e
  exact v3_ext (by show x.1 = 0; omega) (by show x.2.1 = 0; omega) (by show x.2.2 = 0; omega)
/-- the turn of a way v that bounds the points from p0 on, by a way c across it: what it bounds is no thicker -/
theorem rot {P : Nat → V3} {n p0 : Nat} {v c : V3} (pos : ∀ x, x ≠ v0 → ∃ q, q < n ∧ 0 < vd x (P q)) (hv : v ≠ v0) (hc : c ≠ v0) (hp0 : p0 < n) (h0 : ∀ k, k < n → vd v (P k) ≤ vd v (P p0)) (cv : vd c v = 0) (cp : vd c (P p0) ≤ 0) (hz : ∀ k, k < n → vd v (P k) = vd v (P p0) → vd c (P k) = vd c (P p0)) : ∃ W t, W ≠ v0 ∧ t < n ∧ vd v (P t) < vd v (P p0) ∧ (∀ k, k < n → vd W (P k) ≤ vd W (P p0)) ∧ vd W (P t) = vd W (P p0) ∧ (∀ k, k < n → vd v (P k) = vd v (P p0) → vd W (P k) = vd W (P p0)) ∧ vd W (P p0) * vd W (P p0) * vd v v ≤ vd v (P p0) * vd v (P p0) * vd W W := by
  obtain ⟨q1, hq1, l1⟩ := pos v hv
  obtain ⟨q2, hq2, l2⟩ := pos (vs v0 v) (fun e => hv (vs0_z e))
  rw [neg_vd] at l2
  have g1 := h0 q1 hq1
  obtain ⟨t, a, b, ht, t1, a0, h1, h2, h3⟩ := turn_ht (c := c) (v := p0) ⟨q2, hq2, by omega⟩ h0 hz
  obtain ⟨q3, hq3, l3⟩ := pos c hc
  have b0 : 0 < b := by
    have e := h1 q3 hq3
    rw [vd_vl_l, vd_vl_l] at e
    have g3 := h0 q3 hq3
    refine Classical.byContradiction fun nb => ?_
    have m1 : 0 < a * vd c (P q3) := Int.mul_pos a0 l3
    have m2 : a * vd c (P p0) ≤ 0 := Int.mul_nonpos_of_nonneg_of_nonpos (by omega) cp
    have m3 : b * (vd v (P p0) - vd v (P q3)) ≤ 0 := Int.mul_nonpos_of_nonpos_of_nonneg (by omega) (by omega)
    rw [Int.mul_sub] at m3
    omega
  have ww : vd (vl a c b v) (vl a c b v) = a * (a * vd c c) + b * (b * vd v v) := by
    rw [vd_vl_l, vd_vl, vd_vl, cv, vd_comm v c, cv]
    exact th_2 _ _ _ _
  have c0 := vd_pos hc
  have k1 : 0 < a * (a * vd c c) := Int.mul_pos a0 (Int.mul_pos a0 c0)
  have k2 : 0 < b * (b * vd v v) := Int.mul_pos b0 (Int.mul_pos b0 (vd_pos hv))
  have W0 : vl a c b v ≠ v0 := fun e => by
    rw [e, vd_0] at ww
    omega
  obtain ⟨q4, hq4, l4⟩ := pos _ W0
  have g4 := h1 q4 hq4
  refine ⟨vl a c b v, t, W0, ht, t1, h1, h2, h3, ?_⟩
  have le : vd (vl a c b v) (P p0) ≤ b * vd v (P p0) := by
    rw [vd_vl_l]
    have m2 : a * vd c (P p0) ≤ 0 := Int.mul_nonpos_of_nonneg_of_nonpos (by omega) cp
    omega
  have s1 : vd (vl a c b v) (P p0) * vd (vl a c b v) (P p0) ≤ b * vd v (P p0) * (b * vd v (P p0)) := Int.mul_le_mul le le (by omega) (by omega)
  have s2 := Int.mul_le_mul_of_nonneg_right s1 (vd_nn v)
  rw [th_1] at s2
  have s4 : vd v (P p0) * vd v (P p0) * (b * (b * vd v v)) ≤ vd v (P p0) * vd v (P p0) * vd (vl a c b v) (vl a c b v) := Int.mul_le_mul_of_nonneg_left (by omega) (sq_nn _)
  omega
theorem th_3 (G D w : Int) : D * D * (G * (G * w + 0 * 0) + 0 * 0) = G * D * (G * D) * w := by grind
/-- three points off a line on the plane: a plane without a common divisor -/
theorem thin1 {P : Nat → V3} {n p0 j k : Nat} {v : V3} (hv : v ≠ v0) (hp0 : p0 < n) (hj : j < n) (hk : k < n) (h0 : ∀ k, k < n → vd v (P k) ≤ vd v (P p0)) (ej : vd v (P j) = vd v (P p0)) (ek : vd v (P k) = vd v (P p0)) (hne : vx (vs (P j) (P p0)) (vs (P k) (P p0)) ≠ v0) : ∃ w D, fc P n w D ∧ D * D * vd v v ≤ vd v (P p0) * vd v (P p0) * vd w w := by
  obtain ⟨G, w, G0, e, hx⟩ := prim_of hv
  have up : ∀ j, vd v (P j) = G * vd w (P j) := by
    intro j
    rw [e, vd_vl_l, Int.zero_mul, Int.add_zero]
  have eq : ∀ j, vd v (P j) = vd v (P p0) → vd w (P j) = vd w (P p0) := by
    intro j h
    rw [up, up] at h
    exact Int.eq_of_mul_eq_mul_left (by omega) h
  refine ⟨w, vd w (P p0), ⟨fun i hi => ?_, ⟨p0, j, k, hp0, hj, hk, rfl, eq j ej, eq k ek, hne⟩, hx⟩, ?_⟩
  · have h := h0 i hi
    rw [up, up] at h
    exact Int.le_of_mul_le_mul_left h G0
  · have vv : vd v v = G * (G * vd w w + 0 * 0) + 0 * 0 := by
      rw [e, vd_vl_l, vd_vl, vd_comm w v0, vd_0, vd_0]
    rw [up, vv]
    exact Int.le_of_eq (th_3 _ _ _)
theorem rat_tr {D2 HW2 H2 W V w : Int} (W0 : 0 < W) (V0 : 0 ≤ V) (w0 : 0 ≤ w) (h1 : D2 * W ≤ HW2 * w) (h2 : HW2 * V ≤ H2 * W) : D2 * V ≤ H2 * w := by
  have m1 := Int.mul_le_mul_of_nonneg_right h1 V0
  have m2 := Int.mul_le_mul_of_nonneg_right h2 w0
  have e1 : D2 * W * V = W * (D2 * V) := by grind
  have e2 : HW2 * w * V = HW2 * V * w := by grind
  have e3 : H2 * W * w = W * (H2 * w) := by grind
  exact Int.le_of_mul_le_mul_left (by omega) W0
theorem thin2 {P : Nat → V3} {n p0 j : Nat} {v : V3} (pos : ∀ x, x ≠ v0 → ∃ q, q < n ∧ 0 < vd x (P q)) (hv : v ≠ v0) (hp0 : p0 < n) (hj : j < n) (h0 : ∀ k, k < n → vd v (P k) ≤ vd v (P p0)) (ej : vd v (P j) = vd v (P p0)) (hne : vs (P j) (P p0) ≠ v0) : ∃ w D, fc P n w D ∧ D * D * vd v v ≤ vd v (P p0) * vd v (P p0) * vd w w := by
  by_cases c : ∃ k, k < n ∧ vd v (P k) = vd v (P p0) ∧ vx (vs (P j) (P p0)) (vs (P k) (P p0)) ≠ v0
  · obtain ⟨k, hk, ek, nk⟩ := c
    exact thin1 hv hp0 hj hk h0 ej ek nk
  · have ve : vd v (vs (P j) (P p0)) = 0 := by
      rw [vd_vs]
      omega
    have main : ∀ cc, cc ≠ v0 → vd cc v = 0 → vd cc (P p0) ≤ 0 → (∀ k, k < n → vd v (P k) = vd v (P p0) → vd cc (P k) = vd cc (P p0)) → ∃ w D, fc P n w D ∧ D * D * vd v v ≤ vd v (P p0) * vd v (P p0) * vd w w := by
      intro cc hc cv cp hz
      obtain ⟨W, t, W0, ht, t1, g1, g2, g3, g4⟩ := rot pos hv hc hp0 h0 cv cp hz
      obtain ⟨w, D, hf, hD⟩ := thin1 W0 hp0 hj ht g1 (g3 j hj ej) g2 (by
        intro q
        have q1 := along_u v (vx_anti0 q)
        rw [ve, Int.mul_zero] at q1
        have q2 := z_of_mul (vd_pos hne) q1
        rw [vd_vs] at q2
        omega)
      exact ⟨w, D, hf, rat_tr (vd_pos W0) (vd_nn v) (vd_nn w) hD g4⟩
    have c0 : vx v (vs (P j) (P p0)) ≠ v0 := fun e => by
      have := vx_len v (vs (P j) (P p0))
      rw [e, vd_0, ve, Int.mul_zero, Int.sub_zero] at this
      have := Int.mul_pos (vd_pos hv) (vd_pos hne)
      omega
    have hz : ∀ k, k < n → vd v (P k) = vd v (P p0) → vd (vx v (vs (P j) (P p0))) (P k) = vd (vx v (vs (P j) (P p0))) (P p0) := by
      intro k hk ek
      have q : vx (vs (P j) (P p0)) (vs (P k) (P p0)) = v0 := by
        by_cases q : vx (vs (P j) (P p0)) (vs (P k) (P p0)) = v0
        · exact q
        · exact absurd ⟨k, hk, ek, q⟩ c
      have : vd (vx v (vs (P j) (P p0))) (vs (P k) (P p0)) = 0 := by
        rw [← tri, q, vd_comm, vd_0]
      rw [vd_vs] at this
      omega
    by_cases s : vd (vx v (vs (P j) (P p0))) (P p0) ≤ 0
    · exact main _ c0 (vx_at _ _) s hz
    · refine main (vs v0 (vx v (vs (P j) (P p0)))) (fun e => c0 (vs0_z e)) ?_ ?_ (fun k hk ek => ?_)
      · rw [neg_vd, vx_at]
        rfl
      · rw [neg_vd]
        omega
      · rw [neg_vd, neg_vd, hz k hk ek]
/-- of all ways, a plane that bounds is thinnest -/
theorem thin3 {P : Nat → V3} {n p0 : Nat} {v : V3} (pos : ∀ x, x ≠ v0 → ∃ q, q < n ∧ 0 < vd x (P q)) (hv : v ≠ v0) (hp0 : p0 < n) (h0 : ∀ k, k < n → vd v (P k) ≤ vd v (P p0)) : ∃ w D, fc P n w D ∧ D * D * vd v v ≤ vd v (P p0) * vd v (P p0) * vd w w := by
  by_cases c : ∃ j, j < n ∧ vd v (P j) = vd v (P p0) ∧ vs (P j) (P p0) ≠ v0
  · obtain ⟨j, hj, ej, ne⟩ := c
    exact thin2 pos hv hp0 hj h0 ej ne
  · have same : ∀ k, k < n → vd v (P k) = vd v (P p0) → P k = P p0 := fun k hk ek => by
      by_cases q : P k = P p0
      · exact q
      · exact absurd ⟨k, hk, ek, vs_ne q⟩ c
    have main : ∀ cc, cc ≠ v0 → vd cc v = 0 → vd cc (P p0) ≤ 0 → ∃ w D, fc P n w D ∧ D * D * vd v v ≤ vd v (P p0) * vd v (P p0) * vd w w := by
      intro cc hc cv cp
      obtain ⟨W, t, W0, ht, t1, g1, g2, g3, g4⟩ := rot pos hv hc hp0 h0 cv cp (fun k hk ek => by rw [same k hk ek])
      obtain ⟨w, D, hf, hD⟩ := thin2 pos W0 hp0 ht g1 g2 (fun e => by
        have : vd v (vs (P t) (P p0)) = 0 := by
          rw [e, vd_comm, vd_0]
        rw [vd_vs] at this
        omega)
      exact ⟨w, D, hf, rat_tr (vd_pos W0) (vd_nn v) (vd_nn w) hD g4⟩
    obtain ⟨x, hx⟩ := off_way hv
    by_cases s : vd (vx x v) (P p0) ≤ 0
    · exact main _ hx (by rw [vd_comm]; exact vx_at2 x v) s
    · refine main (vs v0 (vx x v)) (fun e => hx (vs0_z e)) ?_ ?_
      · rw [neg_vd, vd_comm, vx_at2]
        rfl
      · rw [neg_vd]
        omega
theorem SPN_u {A : Nat → V3} {m : Nat} {w : V3} {g g' : Int} (h : SPN A m w g) (h' : SPN A m w g') : g = g' := by
  obtain ⟨-, i, j, hi, hj, h1, h2, e⟩ := h
  obtain ⟨-, i', j', hi', hj', h1', h2', e'⟩ := h'
  have a1 := h1 i' hi'
  have a2 := h1' i hi
  have a3 := h2 j' hj'
  have a4 := h2' j hj
  omega
theorem SPN_ex {A : Nat → V3} {m : Nat} {w : V3} (hw : w ≠ v0) (m0 : 0 < m) : ∃ g, SPN A m w g := by
  obtain ⟨i, hi, h1⟩ := max_at (fun t => vd w (A t)) m m0
  obtain ⟨j, hj, h2⟩ := max_at (fun t => -vd w (A t)) m m0
  exact ⟨_, hw, i, j, hi, hj, h1, fun t ht => by have := h2 t ht; omega, rfl⟩
/-- the differences of the points -/
def dfP (A : Nat → V3) (m t : Nat) : V3 := vs (A (t / m)) (A (t % m))
theorem dfP_at {A : Nat → V3} {m i j : Nat} (hi : i < m) (hj : j < m) : i * m + j < m * m ∧ dfP A m (i * m + j) = vs (A i) (A j) := by
  have h1 : (i * m + j) / m = i := by
    rw [Nat.mul_comm, Nat.mul_add_div (by omega), Nat.div_eq_of_lt hj, Nat.add_zero]
  have h2 : (i * m + j) % m = j := by
    rw [Nat.mul_comm, Nat.mul_add_mod, Nat.mod_eq_of_lt hj]
  refine ⟨?_, ?_⟩
  · have : (i + 1) * m ≤ m * m := Nat.mul_le_mul_right m hi
    rw [Nat.add_mul, Nat.one_mul] at this
    omega
  · unfold dfP
    rw [h1, h2]
theorem dfP_of {m t : Nat} (ht : t < m * m) : t / m < m ∧ t % m < m := by
  have m0 : 0 < m := by
    by_cases c : m = 0
    · rw [c] at ht
      omega
    · omega
  exact ⟨Nat.div_lt_of_lt_mul ht, Nat.mod_lt _ m0⟩
theorem neg_side (w x : V3) : vd w (vs v0 x) = vd (vs v0 w) x := by
  rw [neg_vd, vd_comm, neg_vd, vd_comm]
theorem va_ng (a b : V3) : vs a b = va a (vs v0 b) := by
  refine v3_ext ?_ ?_ ?_
  · show a.1 - b.1 = a.1 + (0 - b.1)
    omega
  · show a.2.1 - b.2.1 = a.2.1 + (0 - b.2.1)
    omega
  · show a.2.2 - b.2.2 = a.2.2 + (0 - b.2.2)
    omega
theorem vs_ng (a b : V3) : vs (vs v0 a) (vs v0 b) = vs b a := by
  refine v3_ext ?_ ?_ ?_
  · show 0 - a.1 - (0 - b.1) = b.1 - a.1
    omega
  · show 0 - a.2.1 - (0 - b.2.1) = b.2.1 - a.2.1
    omega
  · show 0 - a.2.2 - (0 - b.2.2) = b.2.2 - a.2.2
    omega
/-- the thinnest planes: on a FACE, or across an EDGE of each side -/
theorem thin4 {A : Nat → V3} {m k : Nat} {v : V3} {g : Int} (ok : okP A m k) (hfull : full A m) (h : SPN A m v g) : ∃ w a b, (∃ x, vd w x = 1) ∧ SPN A m w (a + b) ∧ (a + b) * (a + b) * vd v v ≤ g * g * vd w w ∧ (fc A m w a ∨ fc A m (vs v0 w) b ∨ ∃ p q r t, p < q ∧ q < m ∧ r < t ∧ t < m ∧ vd w (A p) = a ∧ vd w (A q) = a ∧ (∀ x, x < m → x ≠ p → x ≠ q → vd w (A x) < a) ∧ vd (vs v0 w) (A r) = b ∧ vd (vs v0 w) (A t) = b ∧ (∀ x, x < m → x ≠ r → x ≠ t → vd (vs v0 w) (A x) < b) ∧ vx (vs (A q) (A p)) (vs (A t) (A r)) ≠ v0) := by
  obtain ⟨hv, i0, j0, hi0, hj0, u1, u2, ug⟩ := h
  have pos : ∀ x, x ≠ v0 → ∃ q, q < m * m ∧ 0 < vd x (dfP A m q) := fun x hx => by
    obtain ⟨i, hi, h1⟩ := max_at (fun t => vd x (A t)) m (by omega)
    obtain ⟨G, w, G0, e, hw⟩ := prim_of hx
    obtain ⟨j, hj, hj2⟩ := hfull w (vd w (A i)) hw
    obtain ⟨l1, l2⟩ := dfP_at (A := A) hi hj
    refine ⟨_, l1, ?_⟩
    have := h1 j hj
    rw [l2, vd_vs]
    refine Classical.byContradiction fun c => hj2 ?_
    have e2 : vd x (A j) = vd x (A i) := by omega
    rw [e, vd_vl_l, vd_vl_l, Int.zero_mul, Int.add_zero, Int.zero_mul, Int.add_zero] at e2
    exact Int.eq_of_mul_eq_mul_left (by omega) e2
  obtain ⟨l1, l2⟩ := dfP_at (A := A) hi0 hj0
  obtain ⟨w, D, ⟨hs, ⟨x1, x2, x3, h1, h2, h3, e1, e2, e3, hne⟩, hx⟩, hD⟩ := thin3 (P := dfP A m) (n := m * m) (p0 := i0 * m + j0) (v := v) pos hv l1 (fun t ht => by
    obtain ⟨t1, t2⟩ := dfP_of ht
    rw [l2]
    unfold dfP
    rw [vd_vs, vd_vs]
    have := u1 _ t1
    have := u2 _ t2
    omega)
  rw [l2, vd_vs, ← ug] at hD
  have hw0 : w ≠ v0 := fun e => by
    obtain ⟨x, hx⟩ := hx
    rw [e, vd_0] at hx
    omega
  have dec : ∀ t, t < m * m → ∃ i k, i < m ∧ k < m ∧ dfP A m t = va (A i) (vs v0 (A k)) := fun t ht => ⟨t / m, t % m, (dfP_of ht).1, (dfP_of ht).2, va_ng _ _⟩
  obtain ⟨i1, k1, i1m, k1m, p1⟩ := dec x1 h1
  obtain ⟨i2, k2, i2m, k2m, p2⟩ := dec x2 h2
  obtain ⟨i3, k3, i3m, k3m, p3⟩ := dec x3 h3
  obtain ⟨ia, ia1, ia2⟩ := max_at (fun i => vd w (A i)) m (by omega)
  obtain ⟨ib, ib1, ib2⟩ := max_at (fun i => vd (vs v0 w) (A i)) m (by omega)
  have ab : vd w (A ia) + vd (vs v0 w) (A ib) = D := by
    obtain ⟨t1, t2⟩ := dfP_at (A := A) ia1 ib1
    have l1 := hs _ t1
    rw [t2, vd_vs] at l1
    have e1' := e1
    rw [p1, vd_va, neg_side] at e1'
    have l2 := ia2 i1 i1m
    have l3 := ib2 k1 k1m
    have n1 := neg_vd w (A ib)
    omega
  have mx : ∀ i k, i < m → k < m → vd w (va (A i) (vs v0 (A k))) = D → vd w (A i) = vd w (A ia) ∧ vd (vs v0 w) (A k) = vd (vs v0 w) (A ib) := by
    intro i k hi hk e
    rw [vd_va, neg_side] at e
    have l2 := ia2 i hi
    have l3 := ib2 k hk
    omega
  have q1 := mx i1 k1 i1m k1m (by rw [← p1]; exact e1)
  have q2 := mx i2 k2 i2m k2m (by rw [← p2]; exact e2)
  have q3 := mx i3 k3 i3m k3m (by rw [← p3]; exact e3)
  rw [p1, p2, p3, rz_1, rz_1] at hne
  have hx' : ∃ x, vd (vs v0 w) x = 1 := prim_neg hx
  refine ⟨w, vd w (A ia), vd (vs v0 w) (A ib), hx, ⟨hw0, ia, ib, ia1, ib1, ia2, fun t ht => ?_, ?_⟩, by rw [ab]; exact hD, ?_⟩
  · have := ib2 t ht
    have n1 := neg_vd w (A ib)
    have n2 := neg_vd w (A t)
    omega
  · rw [neg_vd]
    omega
  have vxa : ∀ x y e : V3, vx x e = v0 → vx y e = v0 → vx (va x y) e = v0 := by
    intro x y e hx hy
    have e1 : va x y = vs x (vs v0 y) := by
      refine v3_ext ?_ ?_ ?_
      · show x.1 + y.1 = x.1 - (0 - y.1)
        omega
      · show x.2.1 + y.2.1 = x.2.1 - (0 - y.2.1)
        omega
      · show x.2.2 + y.2.2 = x.2.2 - (0 - y.2.2)
        omega
    rw [e1]
    exact vx_vs_l hx (vx_vs_l (vx_0 e) hy)
  have bk : ∀ i j, vs (vs v0 (A i)) (vs v0 (A j)) = vs (A j) (A i) := fun i j => vs_ng _ _
  rcases face_of ok ia2 hx with fa | ⟨p, q, hpq, hq, ep, eq, la⟩ | one
  · exact .inl fa
  · have ina : ∀ i, i < m → vd w (A i) = vd w (A ia) → i = p ∨ i = q := by
      intro i hi e
      by_cases c1 : i = p
      · exact .inl c1
      · by_cases c2 : i = q
        · exact .inr c2
        · have := la i hi c1 c2
          omega
    rcases face_of ok ib2 hx' with fb | ⟨r, t, hrt, ht, er, et, lb⟩ | one
    · exact .inr (.inl fb)
    · refine .inr (.inr ⟨p, q, r, t, hpq, hq, hrt, ht, ep, eq, la, er, et, lb, fun z => ?_⟩)
      have inb : ∀ i, i < m → vd (vs v0 w) (A i) = vd (vs v0 w) (A ib) → i = r ∨ i = t := by
        intro i hi e
        by_cases c1 : i = r
        · exact .inl c1
        · by_cases c2 : i = t
          · exact .inr c2
          · have := lb i hi c1 c2
            omega
      have ne : vs (A q) (A p) ≠ v0 := vs_ne (okP_hdi ok q p hq (by omega) (by omega))
      have par : ∀ (x y : Nat) (e : V3), vx (vs (A y) (A x)) e = v0 → ∀ i j, (i = x ∨ i = y) → (j = x ∨ j = y) → vx (vs (A i) (A j)) e = v0 := by
        intro x y e he i j hi hj
        have lx : ∀ i, (i = x ∨ i = y) → vx (vs (A i) (A x)) e = v0 := by
          intro i hi
          rcases hi with e' | e'
          · rw [e', vs_self, vx_0]
          · rw [e']
            exact he
        have := vx_vs_l (lx i hi) (lx j hj)
        rw [vs_vs] at this
        exact this
      rw [bk, bk] at hne
      exact hne (along_along ne (vxa _ _ _ (par p q _ (vx_self _) i2 i1 (ina _ i2m q2.1) (ina _ i1m q1.1)) (par r t _ (vx_anti0 z) k1 k2 (inb _ k1m q1.2) (inb _ k2m q2.2))) (vxa _ _ _ (par p q _ (vx_self _) i3 i1 (ina _ i3m q3.1) (ina _ i1m q1.1)) (par r t _ (vx_anti0 z) k1 k3 (inb _ k1m q1.2) (inb _ k3m q3.2))))
    · exfalso
      have ek2 : k2 = k1 := one k2 k1 k2m k1m q2.2 q1.2
      have ek3 : k3 = k1 := one k3 k1 k3m k1m q3.2 q1.2
      rw [ek2, ek3, vs_self, va_0r, va_0r] at hne
      have a1 := ina _ i1m q1.1
      have a2 := ina _ i2m q2.1
      have a3 := ina _ i3m q3.1
      have : i2 = i1 ∨ i3 = i1 ∨ i2 = i3 := by omega
      rcases this with e | e | e
      · rw [e, vs_self, vx_0] at hne
        exact hne rfl
      · rw [e, vs_self] at hne
        exact hne (vx_anti0 (vx_0 _))
      · rw [e, vx_self] at hne
        exact hne rfl
  · have ek2 : i2 = i1 := one i2 i1 i2m i1m q2.1 q1.1
    have ek3 : i3 = i1 := one i3 i1 i3m i1m q3.1 q1.1
    rw [ek2, ek3, vs_self, va_0, va_0, bk, bk] at hne
    rcases face_of ok ib2 hx' with fb | ⟨r, t, hrt, ht, er, et, lb⟩ | one'
    · exact .inr (.inl fb)
    · exfalso
      have inb : ∀ i, i < m → vd (vs v0 w) (A i) = vd (vs v0 w) (A ib) → i = r ∨ i = t := by
        intro i hi e
        by_cases c1 : i = r
        · exact .inl c1
        · by_cases c2 : i = t
          · exact .inr c2
          · have := lb i hi c1 c2
            omega
      have a1 := inb _ k1m q1.2
      have a2 := inb _ k2m q2.2
      have a3 := inb _ k3m q3.2
      have : k2 = k1 ∨ k3 = k1 ∨ k2 = k3 := by omega
      rcases this with e | e | e
      · rw [e, vs_self, vx_0] at hne
        exact hne rfl
      · rw [e, vs_self] at hne
        exact hne (vx_anti0 (vx_0 _))
      · rw [e, vx_self] at hne
        exact hne rfl
    · exfalso
      have e2' : k2 = k1 := one' k2 k1 k2m k1m q2.2 q1.2
      rw [e2', vs_self, vx_0] at hne
      exact hne rfl
