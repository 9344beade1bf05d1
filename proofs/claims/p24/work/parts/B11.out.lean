/-- over a closed skin, what turns round with its side adds up to nothing -/
theorem edge_zs {T : Nat} {a : Nat → Nat} (su : SU T a) (sr : SR T a) {g : Nat → Nat → Int} (an : ∀ x y, g y x = - g x y) : zs (fun i => g (a i) (a (nxs i))) (3 * T) = 0 := by
  classical
  have e1 : zs (fun i => g (a i) (a (nxs i))) (3 * T) = zs (fun i => zs (fun j => if a j = a (nxs i) ∧ a (nxs j) = a i then g (a i) (a (nxs i)) else 0) (3 * T)) (3 * T) := by
    refine zs_ext _ (fun i hi => ?_)
    obtain ⟨j, hj, f1, f2⟩ := sr i hi
    rw [zs_single (a := j) _ hj (fun k hk ne => if_neg (fun w => ne (su k j hk hj (w.1.trans f1.symm) (w.2.trans f2.symm)))), if_pos ⟨f1, f2⟩]
  have e2 : zs (fun j => zs (fun i => if a j = a (nxs i) ∧ a (nxs j) = a i then g (a i) (a (nxs i)) else 0) (3 * T)) (3 * T) = zs (fun j => - g (a j) (a (nxs j))) (3 * T) := by
    refine zs_ext _ (fun j hj => ?_)
    obtain ⟨i, hi, f1, f2⟩ := sr j hj
    rw [zs_single (a := i) _ hi (fun k hk ne => if_neg (fun w => ne (su k i hk hi (w.2.symm.trans f1.symm) (w.1.symm.trans f2.symm)))), if_pos ⟨f2.symm, f1.symm⟩, f1, f2, an]
  rw [zs_swap, e2, zs_neg] at e1
  omega
theorem zs3 (f : Nat → Int) : ∀ T, zs f (3 * T) = zs (fun t => f (3 * t) + f (3 * t + 1) + f (3 * t + 2)) T := by
  intro T
  induction T with
  | zero => rfl
  | succ T ih =>
    show zs f (3 * T + 3) = zs (fun t => f (3 * t) + f (3 * t + 1) + f (3 * t + 2)) T + (f (3 * T) + f (3 * T + 1) + f (3 * T + 2))
    rw [← ih]
    show zs f (3 * T) + f (3 * T) + f (3 * T + 1) + f (3 * T + 2) = _
    omega
/-- the product of the first n -/
def pr (f : Nat → Int) : Nat → Int
  | 0 => 1
  | n + 1 => pr f n * f n
theorem pr_pos {f : Nat → Int} : ∀ n, (∀ k, k < n → 0 < f k) → 0 < pr f n := by
  intro n
  induction n with
  | zero =>
    intro _
    show (0 : Int) < 1
    decide
  | succ n ih =>
    intro h
    exact Int.mul_pos (ih (fun k hk => h k (by omega))) (h n (by omega))
theorem pr_1 {f : Nat → Int} {a : Nat} : ∀ n, a < n → ∃ q, pr f n = f a * q := by
  intro n
  induction n with
  | zero =>
    intro h
    omega
  | succ n ih =>
    intro h
    by_cases c : a = n
    · exact ⟨pr f n, by rw [c]; exact Int.mul_comm _ _⟩
    · obtain ⟨q, e⟩ := ih (by omega)
      refine ⟨q * f n, ?_⟩
      show pr f n * f n = _
      rw [e, Int.mul_assoc]
theorem pr_2 {f : Nat → Int} {a b : Nat} : ∀ n, a < n → b < n → a ≠ b → ∃ q, pr f n = f a * f b * q := by
  intro n
  induction n with
  | zero =>
    intro h
    omega
  | succ n ih =>
    intro ha hb ne
    by_cases c : a = n
    · obtain ⟨q, e⟩ := pr_1 (f := f) (a := b) n (by omega)
      refine ⟨q, ?_⟩
      show pr f n * f n = _
      rw [e, c]
      grind
    · by_cases d : b = n
      · obtain ⟨q, e⟩ := pr_1 (f := f) (a := a) n (by omega)
        refine ⟨q, ?_⟩
        show pr f n * f n = _
        rw [e, d]
        grind
      · obtain ⟨q, e⟩ := ih (by omega) (by omega) ne
        refine ⟨q * f n, ?_⟩
        show pr f n * f n = _
        rw [e]
        grind
theorem pr_3 {f : Nat → Int} {a b c : Nat} : ∀ n, a < n → b < n → c < n → a ≠ b → b ≠ c → c ≠ a → ∃ q, pr f n = f a * f b * f c * q := by
  intro n
  induction n with
  | zero =>
    intro h
    omega
  | succ n ih =>
    intro ha hb hc n1 n2 n3
    by_cases c1 : a = n
    · obtain ⟨q, e⟩ := pr_2 (f := f) (a := b) (b := c) n (by omega) (by omega) n2
      refine ⟨q, ?_⟩
      show pr f n * f n = _
      rw [e, c1]
      grind
    · by_cases c2 : b = n
      · obtain ⟨q, e⟩ := pr_2 (f := f) (a := a) (b := c) n (by omega) (by omega) (fun w => n3 w.symm)
        refine ⟨q, ?_⟩
        show pr f n * f n = _
        rw [e, c2]
        grind
      · by_cases c3 : c = n
        · obtain ⟨q, e⟩ := pr_2 (f := f) (a := a) (b := b) n (by omega) (by omega) n1
          refine ⟨q, ?_⟩
          show pr f n * f n = _
          rw [e, c3]
          grind
        · obtain ⟨q, e⟩ := ih (by omega) (by omega) (by omega) n1 n2 n3
          refine ⟨q * f n, ?_⟩
          show pr f n * f n = _
          rw [e]
          grind
theorem det4_0 (a1 a2 a3 b1 b2 b3 c1 c2 c3 x1 x2 x3 : Int) : ((a2 - x2) * (b3 - x3) - (a3 - x3) * (b2 - x2)) * (c1 - x1) + ((a3 - x3) * (b1 - x1) - (a1 - x1) * (b3 - x3)) * (c2 - x2) + ((a1 - x1) * (b2 - x2) - (a2 - x2) * (b1 - x1)) * (c3 - x3) = ((b2 - a2) * (c3 - a3) - (b3 - a3) * (c2 - a2)) * (a1 - x1) + ((b3 - a3) * (c1 - a1) - (b1 - a1) * (c3 - a3)) * (a2 - x2) + ((b1 - a1) * (c2 - a2) - (b2 - a2) * (c1 - a1)) * (a3 - x3) := by grind
theorem det4 (a b c x : V3) : vd (vx (vs a x) (vs b x)) (vs c x) = vd (vx (vs b a) (vs c a)) (vs a x) := det4_0 a.1 a.2.1 a.2.2 b.1 b.2.1 b.2.2 c.1 c.2.1 c.2.2 x.1 x.2.1 x.2.2
theorem nsum0 (a1 a2 a3 b1 b2 b3 c1 c2 c3 y1 y2 y3 : Int) : ((b2 - a2) * (c3 - a3) - (b3 - a3) * (c2 - a2)) * y1 + ((b3 - a3) * (c1 - a1) - (b1 - a1) * (c3 - a3)) * y2 + ((b1 - a1) * (c2 - a2) - (b2 - a2) * (c1 - a1)) * y3 = (a2 * b3 - a3 * b2) * y1 + (a3 * b1 - a1 * b3) * y2 + (a1 * b2 - a2 * b1) * y3 + ((b2 * c3 - b3 * c2) * y1 + (b3 * c1 - b1 * c3) * y2 + (b1 * c2 - b2 * c1) * y3) + ((c2 * a3 - c3 * a2) * y1 + (c3 * a1 - c1 * a3) * y2 + (c1 * a2 - c2 * a1) * y3) := by grind
theorem nsum (a b c y : V3) : vd (vx (vs b a) (vs c a)) y = vd (vx a b) y + vd (vx b c) y + vd (vx c a) y := nsum0 a.1 a.2.1 a.2.2 b.1 b.2.1 b.2.2 c.1 c.2.1 c.2.2 y.1 y.2.1 y.2.2
theorem zs_all0 {F : Nat → Int} {T : Nat} (h : zs F T = 0) (nn : ∀ t, t < T → 0 ≤ F t) : ∀ t, t < T → F t = 0 := fun t ht => by
  apply Classical.byContradiction
  intro ne
  have := zs_pos (a := t) T nn ht (by have := nn t ht; omega)
  omega
/-- what lies within all rows of a closed convex skin lies nowhere beyond all knots -/
theorem out_no {P : Nat → V3} {K T : Nat} {a : Nat → Nat} (sb : SB P K T a) (su : SU T a) (sr : SR T a) (fl : FL P K) (hT : 0 < T) {x u : V3} (bx : ∀ i, i < 3 * T → vd (nri P a i) x ≤ vd (nri P a i) (P (a i))) (far : ∀ j, j < K → vd u (P j) < vd u x) : False := by
  have K0 : 0 < K := by
    have := sb.1 0 (by omega)
    omega
  have mp : ∀ j, j < K → 0 < vd u x - vd u (P j) := fun j hj => by
    have := far j hj
    omega
  have Dp := pr_pos (f := fun j => vd u x - vd u (P j)) K mp
  have row : ∀ t, t < T → ∃ q, 0 < q ∧ pr (fun j => vd u x - vd u (P j)) K = (vd u x - vd u (P (a (3 * t)))) * (vd u x - vd u (P (a (3 * t + 1)))) * (vd u x - vd u (P (a (3 * t + 2)))) * q := by
    intro t ht
    have l0 := sb.1 (3 * t) (by omega)
    have l1 := sb.1 (3 * t + 1) (by omega)
    have l2 := sb.1 (3 * t + 2) (by omega)
    have n0 := tip_ne sb (show 3 * t < 3 * T by omega)
    have n1 := tip_ne sb (show 3 * t + 1 < 3 * T by omega)
    have n2 := tip_ne sb (show 3 * t + 2 < 3 * T by omega)
    rw [nx_0] at n0
    rw [nx_1] at n1
    rw [nx_2] at n2
    obtain ⟨q, e⟩ := pr_3 (f := fun j => vd u x - vd u (P j)) K l0 l1 l2 (fun w => n0 (congrArg P w)) (fun w => n1 (congrArg P w)) (fun w => n2 (congrArg P w))
    refine ⟨q, ?_, e⟩
    have m3 : 0 < (vd u x - vd u (P (a (3 * t)))) * (vd u x - vd u (P (a (3 * t + 1)))) * (vd u x - vd u (P (a (3 * t + 2)))) := Int.mul_pos (Int.mul_pos (mp _ l0) (mp _ l1)) (mp _ l2)
    by_cases c : 0 < q
    · exact c
    · have := Int.mul_nonpos_of_nonneg_of_nonpos (Int.le_of_lt m3) (show q ≤ 0 by omega)
      have e' : pr (fun j => vd u x - vd u (P j)) K = (vd u x - vd u (P (a (3 * t)))) * (vd u x - vd u (P (a (3 * t + 1)))) * (vd u x - vd u (P (a (3 * t + 2)))) * q := e
      omega
  have dn : ∀ t, t < T → 0 ≤ vd (nri P a (3 * t)) (P (a (3 * t))) - vd (nri P a (3 * t)) x := fun t ht => by
    have := bx (3 * t) (by omega)
    omega
  -- the weighted sum over all rows is nothing
  have ez := edge_zs su sr (g := fun y z => pr (fun j => vd u x - vd u (P j)) K / ((vd u x - vd u (P y)) * (vd u x - vd u (P z))) * vd (vx (vs (P y) x) (vs (P z) x)) (vs (P 0) x)) (fun y z => by
    show pr (fun j => vd u x - vd u (P j)) K / ((vd u x - vd u (P z)) * (vd u x - vd u (P y))) * vd (vx (vs (P z) x) (vs (P y) x)) (vs (P 0) x) = -(pr (fun j => vd u x - vd u (P j)) K / ((vd u x - vd u (P y)) * (vd u x - vd u (P z))) * vd (vx (vs (P y) x) (vs (P z) x)) (vs (P 0) x))
    rw [Int.mul_comm (vd u x - vd u (P z)), bxs (vs (P y) x) (vs (P z) x), Int.mul_neg])
  rw [zs3] at ez
  have term : ∀ t, t < T → ∃ q, 0 < q ∧ (pr (fun j => vd u x - vd u (P j)) K / ((vd u x - vd u (P (a (3 * t)))) * (vd u x - vd u (P (a (nxs (3 * t)))))) * vd (vx (vs (P (a (3 * t))) x) (vs (P (a (nxs (3 * t)))) x)) (vs (P 0) x) + pr (fun j => vd u x - vd u (P j)) K / ((vd u x - vd u (P (a (3 * t + 1)))) * (vd u x - vd u (P (a (nxs (3 * t + 1)))))) * vd (vx (vs (P (a (3 * t + 1))) x) (vs (P (a (nxs (3 * t + 1)))) x)) (vs (P 0) x) + pr (fun j => vd u x - vd u (P j)) K / ((vd u x - vd u (P (a (3 * t + 2)))) * (vd u x - vd u (P (a (nxs (3 * t + 2)))))) * vd (vx (vs (P (a (3 * t + 2))) x) (vs (P (a (nxs (3 * t + 2)))) x)) (vs (P 0) x)) = q * ((vd (nri P a (3 * t)) (P (a (3 * t))) - vd (nri P a (3 * t)) x) * (vd u x - vd u (P 0))) := by
    intro t ht
    obtain ⟨q, q0, e⟩ := row t ht
    refine ⟨q, q0, ?_⟩
    have l0 := mp _ (sb.1 (3 * t) (by omega))
    have l1 := mp _ (sb.1 (3 * t + 1) (by omega))
    have l2 := mp _ (sb.1 (3 * t + 2) (by omega))
    have c := cram (vs (P (a (3 * t))) x) (vs (P (a (3 * t + 1))) x) (vs (P (a (3 * t + 2))) x) (vs (P 0) x) u
    have d4 := det4 (P (a (3 * t))) (P (a (3 * t + 1))) (P (a (3 * t + 2))) x
    have en : vx (vs (P (a (3 * t + 1))) (P (a (3 * t)))) (vs (P (a (3 * t + 2))) (P (a (3 * t)))) = nri P a (3 * t) := by
      unfold nri
      rw [nx_0, nx_1]
    rw [en, vd_vs' (nri P a (3 * t))] at d4
    rw [d4, vd_vs' u, vd_vs' u, vd_vs' u, vd_vs' u] at c
    rw [nx_0, nx_1, nx_2, e]
    have b3 := bxs (vs (P (a (3 * t + 2))) x) (vs (P (a (3 * t))) x)
    have b3' : vd (vx (vs (P (a (3 * t + 2))) x) (vs (P (a (3 * t))) x)) (vs (P 0) x) = - vd (vx (vs (P (a (3 * t))) x) (vs (P (a (3 * t + 2))) x)) (vs (P 0) x) := bxs _ _ _
    rw [b3']
    generalize vd (vx (vs (P (a (3 * t))) x) (vs (P (a (3 * t + 1))) x)) (vs (P 0) x) = G1 at *
    generalize vd (vx (vs (P (a (3 * t + 1))) x) (vs (P (a (3 * t + 2))) x)) (vs (P 0) x) = G2 at *
    generalize vd (vx (vs (P (a (3 * t))) x) (vs (P (a (3 * t + 2))) x)) (vs (P 0) x) = G3 at *
    generalize vd (nri P a (3 * t)) (P (a (3 * t))) - vd (nri P a (3 * t)) x = Dt at *
    have h0 : vd u (P (a (3 * t))) - vd u x = -(vd u x - vd u (P (a (3 * t)))) := by omega
    have h1 : vd u (P (a (3 * t + 1))) - vd u x = -(vd u x - vd u (P (a (3 * t + 1)))) := by omega
    have h2 : vd u (P (a (3 * t + 2))) - vd u x = -(vd u x - vd u (P (a (3 * t + 2)))) := by omega
    have h3 : vd u (P 0) - vd u x = -(vd u x - vd u (P 0)) := by omega
    rw [h0, h1, h2, h3] at c
    generalize vd u x - vd u (P (a (3 * t))) = m0 at *
    generalize vd u x - vd u (P (a (3 * t + 1))) = m1 at *
    generalize vd u x - vd u (P (a (3 * t + 2))) = m2 at *
    generalize vd u x - vd u (P 0) = mw at *
    have k1 : m0 * m1 * m2 * q / (m0 * m1) = m2 * q := by
      rw [show m0 * m1 * m2 * q = m0 * m1 * (m2 * q) by grind]
      exact Int.mul_ediv_cancel_left _ (Int.ne_of_gt (Int.mul_pos l0 l1))
    have k2 : m0 * m1 * m2 * q / (m1 * m2) = m0 * q := by
      rw [show m0 * m1 * m2 * q = m1 * m2 * (m0 * q) by grind]
      exact Int.mul_ediv_cancel_left _ (Int.ne_of_gt (Int.mul_pos l1 l2))
    have k3 : m0 * m1 * m2 * q / (m2 * m0) = m1 * q := by
      rw [show m0 * m1 * m2 * q = m2 * m0 * (m1 * q) by grind]
      exact Int.mul_ediv_cancel_left _ (Int.ne_of_gt (Int.mul_pos l2 l0))
    rw [k1, k2, k3]
    have c2 : Dt * mw = m0 * G2 - m1 * G3 + m2 * G1 := by grind
    rw [c2]
    grind
  have zero : ∀ t, t < T → vd (nri P a (3 * t)) (P (a (3 * t))) - vd (nri P a (3 * t)) x = 0 := by
    intro t ht
    have W := mp 0 K0
    have z := zs_all0 ez (fun k hk => by
      obtain ⟨q, q0, e⟩ := term k hk
      exact Int.le_trans (Int.mul_nonneg (Int.le_of_lt q0) (Int.mul_nonneg (dn k hk) (Int.le_of_lt W))) (Int.le_of_eq e.symm)) t ht
    obtain ⟨q, q0, e⟩ := term t ht
    have e2 := e.symm.trans z
    rcases Int.mul_eq_zero.mp e2 with w | w
    · omega
    · rcases Int.mul_eq_zero.mp w with w | w
      · exact w
      · omega
  -- the ways of all rows add up to nothing
  have ns : ∀ y : V3, zs (fun t => vd (nri P a (3 * t)) y) T = 0 := by
    intro y
    have h := edge_zs su sr (g := fun p q => vd (vx (P p) (P q)) y) (fun p q => bxs (P p) (P q) y)
    rw [zs3] at h
    rw [← h]
    refine zs_ext T (fun t ht => ?_)
    have := nsum (P (a (3 * t))) (P (a (3 * t + 1))) (P (a (3 * t + 2))) y
    unfold nri
    rw [nx_0, nx_1, nx_2]
    exact this
  obtain ⟨j, hj, lj⟩ := SB_inn sb fl (show 0 < 3 * T by omega)
  have s1 : zs (fun t => vd (nri P a (3 * t)) (P (a (3 * t))) - vd (nri P a (3 * t)) x) T = 0 := zs_zero T zero
  have s2 : 0 < zs (fun t => vd (nri P a (3 * t)) (P (a (3 * t))) - vd (nri P a (3 * t)) (P j)) T := zs_pos (a := 0) T (fun k hk => by
    have := sb.2.2.1 (3 * k) (by omega) j hj
    show 0 ≤ _
    omega) hT (by
    show 0 < vd (nri P a (3 * 0)) (P (a (3 * 0))) - vd (nri P a (3 * 0)) (P j)
    have e : 3 * 0 = 0 := rfl
    rw [e]
    omega)
  have sp : ∀ y : V3, zs (fun t => vd (nri P a (3 * t)) (P (a (3 * t))) - vd (nri P a (3 * t)) y) T = zs (fun t => vd (nri P a (3 * t)) (P (a (3 * t)))) T := fun y => by
    have h := zs_add (fun t => vd (nri P a (3 * t)) (P (a (3 * t)))) (fun t => - vd (nri P a (3 * t)) y) T
    rw [zs_neg, ns] at h
    have e : zs (fun t => vd (nri P a (3 * t)) (P (a (3 * t))) - vd (nri P a (3 * t)) y) T = zs (fun t => vd (nri P a (3 * t)) (P (a (3 * t))) + - vd (nri P a (3 * t)) y) T := zs_ext T (fun k _ => Int.sub_eq_add_neg)
    omega
  rw [sp] at s1 s2
  omega
