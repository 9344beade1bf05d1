/-- above 0 if r lies left of the way from p to q, seen against n -/
def br (n p q r : V3) : Int := vd n (vx (vs q p) (vs r p))
theorem rj_1 (n1 n2 n3 x1 x2 x3 y1 y2 y3 z1 z2 z3 u1 u2 u3 : Int) :
    (u1 * y1 + u2 * y2 + u3 * y3) * (n1 * (x2 * z3 - x3 * z2) + n2 * (x3 * z1 - x1 * z3) + n3 * (x1 * z2 - x2 * z1))
    = (u1 * x1 + u2 * x2 + u3 * x3) * (n1 * (y2 * z3 - y3 * z2) + n2 * (y3 * z1 - y1 * z3) + n3 * (y1 * z2 - y2 * z1))
    + (u1 * z1 + u2 * z2 + u3 * z3) * (n1 * (x2 * y3 - x3 * y2) + n2 * (x3 * y1 - x1 * y3) + n3 * (x1 * y2 - x2 * y1))
    - (u1 * n1 + u2 * n2 + u3 * n3) * ((x2 * y3 - x3 * y2) * z1 + (x3 * y1 - x1 * y3) * z2 + (x1 * y2 - x2 * y1) * z3) := by grind
/-- three ways in one plane, under any measure u -/
theorem br_id {n x y z u : V3} (hn : 0 < vd n n) (hx : vd n x = 0) (hy : vd n y = 0) (hz : vd n z = 0) : vd u y * vd n (vx x z) = vd u x * vd n (vx y z) + vd u z * vd n (vx x y) := by
  have h := rj_1 n.1 n.2.1 n.2.2 x.1 x.2.1 x.2.2 y.1 y.2.1 y.2.2 z.1 z.2.1 z.2.2 u.1 u.2.1 u.2.2
  have f : (x.2.1 * y.2.2 - x.2.2 * y.2.1) * z.1 + (x.2.2 * y.1 - x.1 * y.2.2) * z.2.1 + (x.1 * y.2.1 - x.2.1 * y.1) * z.2.2 = 0 := dt_flat hn hx hy hz
  rw [f, Int.mul_zero, Int.sub_zero] at h
  exact h
theorem br_anti (n x y : V3) : vd n (vx y x) = - vd n (vx x y) := by
  obtain ⟨n1, n2, n3⟩ := n
  obtain ⟨x1, x2, x3⟩ := x
  obtain ⟨y1, y2, y3⟩ := y
  simp only [vd, vx]
  grind
/-- v alone is farthest along some way -/
def ex (Q : Nat → V3) (m v : Nat) : Prop := ∃ u, ∀ k, k < m → k ≠ v → vd u (Q k) < vd u (Q v)
/-- b is the next one round from a, among those that K has -/
def nx1 (n : V3) (Q : Nat → V3) (a b : Nat) (K : Nat → Prop) : Prop := ∀ k, K k → k ≠ a → 0 ≤ br n (Q a) (Q b) (Q k) ∧ (br n (Q a) (Q b) (Q k) = 0 → vd (vs (Q k) (Q a)) (vs (Q k) (Q a)) ≤ vd (vs (Q b) (Q a)) (vs (Q b) (Q a)))
theorem pos_of_mul {k x : Int} (hk : 0 < k) (h : 0 < k * x) : 0 < x := by
  by_cases c : 0 < x
  · exact c
  · have : k * x ≤ 0 := Int.mul_nonpos_of_nonneg_of_nonpos (Int.le_of_lt hk) (by omega)
    omega
theorem nn_of_mul {k x : Int} (hk : 0 < k) (h : 0 ≤ k * x) : 0 ≤ x := by
  by_cases c : 0 ≤ x
  · exact c
  · have : k * x < 0 := Int.mul_neg_of_pos_of_neg hk (by omega)
    omega
theorem z_of_mul {k x : Int} (hk : 0 < k) (h : k * x = 0) : x = 0 := by
  rcases Int.mul_eq_zero.mp h with h | h
  · omega
  · exact h
/-- a step of the search for the next one round: r takes b's place, or not -/
theorem nx_step {n : V3} {Q : Nat → V3} {m a b r : Nat} {d : Int} {K : Nat → Prop} (hn : 0 < vd n n) (hpl : ∀ k, k < m → vd n (Q k) = d) (ha : a < m) (hex : ex Q m a) (hb : b < m) (hba : b ≠ a) (hr : r < m) (hra : r ≠ a) (hK : ∀ k, K k → k < m) (h : nx1 n Q a b K) :
    ((br n (Q a) (Q b) (Q r) < 0 ∨ br n (Q a) (Q b) (Q r) = 0 ∧ vd (vs (Q b) (Q a)) (vs (Q b) (Q a)) < vd (vs (Q r) (Q a)) (vs (Q r) (Q a))) → nx1 n Q a r (fun k => K k ∨ k = r)) ∧
    (¬ (br n (Q a) (Q b) (Q r) < 0 ∨ br n (Q a) (Q b) (Q r) = 0 ∧ vd (vs (Q b) (Q a)) (vs (Q b) (Q a)) < vd (vs (Q r) (Q a)) (vs (Q r) (Q a))) → nx1 n Q a b (fun k => K k ∨ k = r)) := by
  obtain ⟨u, hu⟩ := hex
  have mu : ∀ k, k < m → k ≠ a → vd u (vs (Q k) (Q a)) < 0 := by
    intro k hk hka
    have := hu k hk hka
    rw [vd_vs]
    omega
  have pl : ∀ k, k < m → vd n (vs (Q k) (Q a)) = 0 := by
    intro k hk
    rw [vd_vs, hpl k hk, hpl a ha]
    omega
  have self : br n (Q a) (Q r) (Q r) = 0 := by
    unfold br
    rw [vx_self]
    simp [vd, v0]
  constructor
  · intro c k hk hka
    rcases hk with hk | rfl
    · have hkm := hK k hk
      obtain ⟨h1, h2⟩ := h k hk hka
      have id1 := br_id (u := u) hn (pl r hr) (pl b hb) (pl k hkm)
      have mb := mu b hb hba
      have mr := mu r hr hra
      have mk := mu k hkm hka
      have an : vd n (vx (vs (Q r) (Q a)) (vs (Q b) (Q a))) = - br n (Q a) (Q b) (Q r) := br_anti n _ _
      rw [an] at id1
      have id2 : vd u (vs (Q b) (Q a)) * br n (Q a) (Q r) (Q k) = vd u (vs (Q r) (Q a)) * br n (Q a) (Q b) (Q k) + vd u (vs (Q k) (Q a)) * (- br n (Q a) (Q b) (Q r)) := id1
      generalize vd u (vs (Q b) (Q a)) = B at *
      generalize vd u (vs (Q r) (Q a)) = R at *
      generalize vd u (vs (Q k) (Q a)) = Kk at *
      generalize br n (Q a) (Q r) (Q k) = x at *
      generalize br n (Q a) (Q b) (Q k) = y at *
      generalize br n (Q a) (Q b) (Q r) = z at *
      have id3 : (-B) * x = (-R) * y + (-Kk) * (-z) := by
        rw [Int.neg_mul, id2, Int.neg_mul, Int.neg_mul]
        omega
      have t1 : 0 ≤ (-R) * y := Int.mul_nonneg (by omega) h1
      rcases c with c | ⟨c, c2⟩
      · have t2 : 0 < (-Kk) * (-z) := Int.mul_pos (by omega) (by omega)
        have t3 : 0 < x := pos_of_mul (k := -B) (by omega) (by omega)
        exact ⟨by omega, fun e => by omega⟩
      · rw [c] at id3
        simp only [Int.neg_zero, Int.mul_zero, Int.add_zero] at id3
        have t3 : 0 ≤ x := nn_of_mul (k := -B) (by omega) (by omega)
        refine ⟨t3, fun e => ?_⟩
        rw [e, Int.mul_zero] at id3
        have t4 : y = 0 := z_of_mul (k := -R) (by omega) id3.symm
        have := h2 t4
        omega
    · refine ⟨by rw [self]; exact Int.le_refl 0, fun _ => Int.le_refl _⟩
  · intro c k hk hka
    rcases hk with hk | rfl
    · exact h k hk hka
    · refine ⟨?_, fun e => ?_⟩
      · by_cases q : br n (Q a) (Q b) (Q k) < 0
        · exact absurd (.inl q) c
        · omega
      · by_cases q : vd (vs (Q b) (Q a)) (vs (Q b) (Q a)) < vd (vs (Q k) (Q a)) (vs (Q k) (Q a))
        · exact absurd (.inr ⟨e, q⟩) c
        · omega
theorem vx_anti0 {a b : V3} (h : vx a b = v0) : vx b a = v0 := by
  have h1 := vx_1 h
  have h2 := vx_2 h
  have h3 := vx_3 h
  refine v3_ext ?_ ?_ ?_
  · show b.2.1 * a.2.2 - b.2.2 * a.2.1 = 0
    rw [Int.mul_comm b.2.1, Int.mul_comm b.2.2]
    omega
  · show b.2.2 * a.1 - b.1 * a.2.2 = 0
    rw [Int.mul_comm b.2.2, Int.mul_comm b.1]
    omega
  · show b.1 * a.2.1 - b.2.1 * a.1 = 0
    rw [Int.mul_comm b.1, Int.mul_comm b.2.1]
    omega
theorem vd_comm (a b : V3) : vd a b = vd b a := by
  unfold vd
  rw [Int.mul_comm a.1, Int.mul_comm a.2.1, Int.mul_comm a.2.2]
/-- two ways of a plane that have no area between them lie in one line -/
theorem par0 {n x y : V3} (hn : 0 < vd n n) (hx : vd n x = 0) (hy : vd n y = 0) (h : vd n (vx x y) = 0) : vx x y = v0 := by
  obtain ⟨e1, e2, e3⟩ := along_eq (vx_anti0 (cross_along hx hy))
  rw [vd_comm (vx x y) n, h, Int.zero_mul] at e1
  rw [vd_comm (vx x y) n, h, Int.zero_mul] at e2
  rw [vd_comm (vx x y) n, h, Int.zero_mul] at e3
  exact v3_ext (z_of_mul hn e1) (z_of_mul hn e2) (z_of_mul hn e3)
theorem rj_2 (E Y e1 e2 e3 y1 y2 y3 u1 u2 u3 : Int) : E * (u1 * y1 + u2 * y2 + u3 * y3) - Y * (u1 * e1 + u2 * e2 + u3 * e3) = u1 * (E * y1 - Y * e1) + u2 * (E * y2 - Y * e2) + u3 * (E * y3 - Y * e3) := by grind
theorem along_u {e y : V3} (u : V3) (h : vx y e = v0) : vd e e * vd u y = vd y e * vd u e := by
  obtain ⟨e1, e2, e3⟩ := along_eq h
  have r := rj_2 (vd e e) (vd y e) e.1 e.2.1 e.2.2 y.1 y.2.1 y.2.2 u.1 u.2.1 u.2.2
  have z1 : vd e e * y.1 - vd y e * e.1 = 0 := by omega
  have z2 : vd e e * y.2.1 - vd y e * e.2.1 = 0 := by omega
  have z3 : vd e e * y.2.2 - vd y e * e.2.2 = 0 := by omega
  rw [z1, z2, z3, Int.mul_zero, Int.mul_zero, Int.mul_zero] at r
  have r' : vd e e * vd u y - vd y e * vd u e = 0 + 0 + 0 := r
  omega
theorem sq_le {p q : Int} (hq : 0 < q) (hp : 0 ≤ p) (h : q * q ≤ p * p) : q ≤ p := by
  by_cases c : q ≤ p
  · exact c
  · have h1 : p * p ≤ p * q := Int.mul_le_mul_of_nonneg_left (by omega) hp
    have h2 : p * q < q * q := Int.mul_lt_mul_of_pos_right (by omega) hq
    omega
theorem rj_3 (n1 n2 n3 a1 a2 a3 b1 b2 b3 c1 c2 c3 : Int) :
    (n1 * ((c2 - a2) * (b3 - a3) - (c3 - a3) * (b2 - a2)) + n2 * ((c3 - a3) * (b1 - a1) - (c1 - a1) * (b3 - a3)) + n3 * ((c1 - a1) * (b2 - a2) - (c2 - a2) * (b1 - a1)))
    + (n1 * ((c2 - b2) * (a3 - b3) - (c3 - b3) * (a2 - b2)) + n2 * ((c3 - b3) * (a1 - b1) - (c1 - b1) * (a3 - b3)) + n3 * ((c1 - b1) * (a2 - b2) - (c2 - b2) * (a1 - b1))) = 0 := by grind
theorem br_sum (n a b c : V3) : br n a c b + br n b c a = 0 := rj_3 n.1 n.2.1 n.2.2 a.1 a.2.1 a.2.2 b.1 b.2.1 b.2.2 c.1 c.2.1 c.2.2
/-- no two have the same next one -/
theorem nx_inj {n : V3} {Q : Nat → V3} {m a b c : Nat} {d : Int} (hn : 0 < vd n n) (hpl : ∀ k, k < m → vd n (Q k) = d) (ha : a < m) (hb : b < m) (hc : c < m) (hab : a ≠ b) (hca : c ≠ a) (hcb : c ≠ b) (ea : ex Q m a) (eb : ex Q m b) (h1 : nx1 n Q a c (fun k => k < m)) (h2 : nx1 n Q b c (fun k => k < m)) : False := by
  have pl : ∀ k, k < m → vd n (vs (Q k) (Q a)) = 0 := by
    intro k hk
    rw [vd_vs, hpl k hk, hpl a ha]
    omega
  obtain ⟨p1, p2⟩ := h1 b hb (fun h => hab h.symm)
  obtain ⟨q1, -⟩ := h2 a ha hab
  have hs := br_sum n (Q a) (Q b) (Q c)
  have z : br n (Q a) (Q c) (Q b) = 0 := by omega
  have le := p2 z
  have par : vx (vs (Q c) (Q a)) (vs (Q b) (Q a)) = v0 := par0 hn (pl c hc) (pl b hb) z
  obtain ⟨u, hu⟩ := ea
  obtain ⟨v, hv⟩ := eb
  have u1 := hu b hb (fun h => hab h.symm)
  have u2 := hu c hc hca
  have v1 := hv a ha hab
  have v2 := hv c hc hcb
  have A1 := along_u u par
  have A2 := along_u v par
  have A3 := along_u (vs (Q c) (Q a)) par
  have xne : vs (Q b) (Q a) ≠ v0 := by
    intro e
    have : vd u (vs (Q b) (Q a)) = 0 := by
      rw [e]
      simp [vd, v0]
    rw [vd_vs] at this
    omega
  have X := vd_pos xne
  rw [vd_vs u, vd_vs u] at A1
  rw [vd_vs v, vd_vs v] at A2
  generalize vd (vs (Q b) (Q a)) (vs (Q b) (Q a)) = E at *
  generalize vd (vs (Q c) (Q a)) (vs (Q b) (Q a)) = Y at *
  generalize vd (vs (Q c) (Q a)) (vs (Q c) (Q a)) = G at *
  have Yp : 0 < Y := by
    by_cases y : 0 < Y
    · exact y
    · have t1 : E * (vd u (Q c) - vd u (Q a)) < 0 := Int.mul_neg_of_pos_of_neg X (by omega)
      have t2 : 0 ≤ Y * (vd u (Q b) - vd u (Q a)) := Int.mul_nonneg_of_nonpos_of_nonpos (by omega) (by omega)
      omega
  have EY : E ≤ Y := by
    refine sq_le X (by omega) ?_
    have : E * E ≤ E * G := Int.mul_le_mul_of_nonneg_left le (by omega)
    omega
  have t3 : E * (vd v (Q b) - vd v (Q a)) ≤ Y * (vd v (Q b) - vd v (Q a)) := Int.mul_le_mul_of_nonneg_right EY (by omega)
  have t4 : E * (vd v (Q c) - vd v (Q a)) < E * (vd v (Q b) - vd v (Q a)) := Int.mul_lt_mul_of_pos_left (by omega) X
  omega
theorem bound_all (g : Nat → Int) : ∀ m, ∃ K, 0 ≤ K ∧ ∀ k, k < m → g k < K := by
  intro m
  induction m with
  | zero => exact ⟨0, Int.le_refl 0, fun k hk => absurd hk (by omega)⟩
  | succ m ih =>
    obtain ⟨K, h0, h⟩ := ih
    by_cases c : g m < K
    · refine ⟨K, h0, fun k hk => ?_⟩
      by_cases e : k = m
      · rw [e]
        exact c
      · exact h k (by omega)
    · refine ⟨g m + 1, by omega, fun k hk => ?_⟩
      by_cases e : k = m
      · rw [e]
        omega
      · have := h k (by omega)
        omega
theorem rj_4 (n1 n2 n3 e1 e2 e3 y1 y2 y3 : Int) : n1 * (e2 * y3 - e3 * y2) + n2 * (e3 * y1 - e1 * y3) + n3 * (e1 * y2 - e2 * y1) = (n2 * e3 - n3 * e2) * y1 + (n3 * e1 - n1 * e3) * y2 + (n1 * e2 - n2 * e1) * y3 := by grind
theorem tri (n e y : V3) : vd n (vx e y) = vd (vx n e) y := rj_4 n.1 n.2.1 n.2.2 e.1 e.2.1 e.2.2 y.1 y.2.1 y.2.2
theorem vd_vl_l (k : Int) (a : V3) (l : Int) (b p : V3) : vd (vl k a l b) p = k * vd a p + l * vd b p := by
  rw [vd_comm, vd_vl, vd_comm p a, vd_comm p b]
/-- the next one round is farthest along some way, too -/
theorem nx_ex {n : V3} {Q : Nat → V3} {m a b : Nat} {d : Int} (hn : 0 < vd n n) (hpl : ∀ k, k < m → vd n (Q k) = d) (hdi : ∀ i j, i < m → j < m → i ≠ j → Q i ≠ Q j) (ha : a < m) (hb : b < m) (hba : b ≠ a) (h : nx1 n Q a b (fun k => k < m)) : ex Q m b := by
  have pl : ∀ k, k < m → vd n (vs (Q k) (Q a)) = 0 := by
    intro k hk
    rw [vd_vs, hpl k hk, hpl a ha]
    omega
  have ene : vs (Q b) (Q a) ≠ v0 := by
    intro e
    refine hdi b a hb ha hba ?_
    have e1 : (Q b).1 - (Q a).1 = 0 := congrArg (fun v : V3 => v.1) e
    have e2 : (Q b).2.1 - (Q a).2.1 = 0 := congrArg (fun v : V3 => v.2.1) e
    have e3 : (Q b).2.2 - (Q a).2.2 = 0 := congrArg (fun v : V3 => v.2.2) e
    exact v3_ext (by omega) (by omega) (by omega)
  have E := vd_pos ene
  obtain ⟨K, K0, hK⟩ := bound_all (fun k => vd (vs (Q b) (Q a)) (vs (Q k) (Q a))) m
  refine ⟨vl (-K) (vx n (vs (Q b) (Q a))) 1 (vs (Q b) (Q a)), fun k hk hkb => ?_⟩
  have key : vd (vl (-K) (vx n (vs (Q b) (Q a))) 1 (vs (Q b) (Q a))) (vs (Q k) (Q a)) < vd (vl (-K) (vx n (vs (Q b) (Q a))) 1 (vs (Q b) (Q a))) (vs (Q b) (Q a)) := by
    rw [vd_vl_l, vd_vl_l, ← tri, ← tri, vx_self]
    have z0 : vd n v0 = 0 := by simp [vd, v0]
    rw [z0, Int.mul_zero, Int.zero_add, Int.one_mul, Int.one_mul]
    by_cases hka : k = a
    · rw [hka, vs_self]
      have z1 : vx (vs (Q b) (Q a)) v0 = v0 := vx_anti0 (vx_0 _)
      have z2 : vd (vs (Q b) (Q a)) v0 = 0 := by simp [vd, v0]
      rw [z1, z0, z2, Int.mul_zero]
      omega
    · obtain ⟨h1, h2⟩ := h k hk hka
      have h1' : 0 ≤ vd n (vx (vs (Q b) (Q a)) (vs (Q k) (Q a))) := h1
      have hKk : vd (vs (Q b) (Q a)) (vs (Q k) (Q a)) < K := hK k hk
      by_cases t : vd n (vx (vs (Q b) (Q a)) (vs (Q k) (Q a))) = 0
      · rw [t, Int.mul_zero, Int.zero_add]
        have le := h2 t
        have par := vx_anti0 (par0 hn (pl b hb) (pl k hk) t)
        have A3 := along_u (vs (Q k) (Q a)) par
        obtain ⟨y1, y2, y3⟩ := along_eq par
        rw [vd_comm (vs (Q k) (Q a)) (vs (Q b) (Q a))] at A3 y1 y2 y3
        by_cases c : vd (vs (Q b) (Q a)) (vs (Q k) (Q a)) < vd (vs (Q b) (Q a)) (vs (Q b) (Q a))
        · exact c
        · exfalso
          have ce : vd (vs (Q b) (Q a)) (vs (Q k) (Q a)) = vd (vs (Q b) (Q a)) (vs (Q b) (Q a)) := by
            have : vd (vs (Q b) (Q a)) (vs (Q k) (Q a)) ≤ vd (vs (Q b) (Q a)) (vs (Q b) (Q a)) := by
              refine sq_le (by omega) (by omega) ?_
              rw [← A3]
              exact Int.mul_le_mul_of_nonneg_left le (by omega)
            omega
          rw [ce] at y1 y2 y3
          have g1 := Int.eq_of_mul_eq_mul_left (by omega) y1
          have g2 := Int.eq_of_mul_eq_mul_left (by omega) y2
          have g3 := Int.eq_of_mul_eq_mul_left (by omega) y3
          have g1' : (Q k).1 - (Q a).1 = (Q b).1 - (Q a).1 := g1
          have g2' : (Q k).2.1 - (Q a).2.1 = (Q b).2.1 - (Q a).2.1 := g2
          have g3' : (Q k).2.2 - (Q a).2.2 = (Q b).2.2 - (Q a).2.2 := g3
          exact hdi k b hk hb hkb (v3_ext (by omega) (by omega) (by omega))
      · have t1 : K * 1 ≤ K * vd n (vx (vs (Q b) (Q a)) (vs (Q k) (Q a))) := Int.mul_le_mul_of_nonneg_left (by omega) K0
        rw [Int.neg_mul]
        omega
  rw [vd_vs, vd_vs] at key
  omega
def itr (f : Nat → Nat) : Nat → Nat → Nat
  | 0, s => s
  | n + 1, s => f (itr f n s)
/-- a walk that never joins itself from two sides comes back -/
theorem cyc {m : Nat} {E : Nat → Prop} {f : Nat → Nat} (hE : ∀ a, E a → a < m ∧ E (f a)) (hi : ∀ a b, E a → E b → f a = f b → a = b) {s : Nat} (hs : E s) : ∃ r, 1 ≤ r ∧ r ≤ m ∧ itr f r s = s ∧ (∀ i, 1 ≤ i → i < r → itr f i s ≠ s) ∧ (∀ i j, i < j → j < r → itr f i s ≠ itr f j s) ∧ ∀ i, E (itr f i s) := by
  have hEi : ∀ i, E (itr f i s) := by
    intro i
    induction i with
    | zero => exact hs
    | succ i ih => exact (hE _ ih).2
  have back : ∀ i j, i < j → itr f i s = itr f j s → itr f (j - i) s = s := by
    intro i
    induction i with
    | zero =>
      intro j _ h
      exact h.symm
    | succ i ih =>
      intro j hj h
      obtain ⟨j', rfl⟩ : ∃ j', j = j' + 1 := ⟨j - 1, by omega⟩
      have := ih j' (by omega) (hi _ _ (hEi i) (hEi j') h)
      rw [show j' + 1 - (i + 1) = j' - i by omega]
      exact this
  have some1 : ∃ t, 1 ≤ t ∧ t ≤ m ∧ itr f t s = s := by
    by_cases c : ∃ i j, i < j ∧ j < m + 1 ∧ itr f i s = itr f j s
    · obtain ⟨i, j, h1, h2, h3⟩ := c
      exact ⟨j - i, by omega, by omega, back i j h1 h3⟩
    · exfalso
      have := pigeon m (m + 1) (fun i => itr f i s) (fun k _ => (hE _ (hEi k)).1) (fun i j h1 h2 h3 => c ⟨i, j, h1, h2, h3⟩)
      omega
  obtain ⟨t, t1, t2, t3⟩ := some1
  obtain ⟨r, ⟨r1, r2⟩, r3, r4⟩ := least (Q := fun t => 1 ≤ t ∧ itr f t s = s) t ⟨t1, t3⟩
  refine ⟨r, r1, by omega, r2, fun i h1 h2 h3 => r4 i h2 ⟨h1, h3⟩, fun i j h1 h2 h3 => ?_, hEi⟩
  exact r4 (j - i) (by omega) ⟨by omega, back i j h1 h3⟩
