theorem crm0 (n1 n2 n3 b1 b2 b3 X1 X2 X3 Y1 Y2 Y3 e1 e2 e3 : Int) : ((X2 * Y3 - X3 * Y2) * e1 + (X3 * Y1 - X1 * Y3) * e2 + (X1 * Y2 - X2 * Y1) * e3) * (n1 * b1 + n2 * b2 + n3 * b3) = ((b2 * Y3 - b3 * Y2) * e1 + (b3 * Y1 - b1 * Y3) * e2 + (b1 * Y2 - b2 * Y1) * e3) * (n1 * X1 + n2 * X2 + n3 * X3) + ((X2 * b3 - X3 * b2) * e1 + (X3 * b1 - X1 * b3) * e2 + (X1 * b2 - X2 * b1) * e3) * (n1 * Y1 + n2 * Y2 + n3 * Y3) + ((X2 * Y3 - X3 * Y2) * b1 + (X3 * Y1 - X1 * Y3) * b2 + (X1 * Y2 - X2 * Y1) * b3) * (n1 * e1 + n2 * e2 + n3 * e3) := by grind
/-- a way told by three others -/
theorem crm (n b X Y e : V3) : dt X Y e * vd n b = dt b Y e * vd n X + dt X b e * vd n Y + dt X Y b * vd n e := crm0 _ _ _ _ _ _ _ _ _ _ _ _ _ _ _
theorem dt_sw0 (X1 X2 X3 Y1 Y2 Y3 e1 e2 e3 : Int) : (X2 * Y3 - X3 * Y2) * e1 + (X3 * Y1 - X1 * Y3) * e2 + (X1 * Y2 - X2 * Y1) * e3 = -(Y1 * (X2 * e3 - X3 * e2) + Y2 * (X3 * e1 - X1 * e3) + Y3 * (X1 * e2 - X2 * e1)) := by grind
theorem dt_sw (X Y e : V3) : dt X Y e = - vd Y (vx X e) := dt_sw0 _ _ _ _ _ _ _ _ _
/-- on a bounding plane: a point off a line -/
theorem off_line {A : Nat → V3} {m p : Nat} {n : V3} {d : Int} {e : V3} (hf : fc A m n d) (he : e ≠ v0) : ∃ x, x < m ∧ vd n (A x) = d ∧ vx (vs (A x) (A p)) e ≠ v0 := by
  obtain ⟨-, ⟨x, y, z, hx, hy, hz, ex, ey, ez, ne⟩, -⟩ := hf
  refine Classical.byContradiction fun no => ne ?_
  have zz : ∀ k, k < m → vd n (A k) = d → vx (vs (A k) (A p)) e = v0 := fun k hk ek => Classical.byContradiction fun q => no ⟨k, hk, ek, q⟩
  exact line_line he (zz x hx ex) (zz y hy ey) (zz z hz ez)
theorem neg_l {q y : Int} (h : 0 < q * y) (hy : y < 0) : q < 0 := by
  refine Classical.byContradiction fun c => ?_
  have := Int.mul_nonpos_of_nonneg_of_nonpos (show 0 ≤ q by omega) (show y ≤ 0 by omega)
  omega
theorem pos_l {q y : Int} (h : q * y < 0) (hy : y < 0) : 0 < q := by
  refine Classical.byContradiction fun c => ?_
  have := Int.mul_nonneg_of_nonpos_of_nonpos (show q ≤ 0 by omega) (show y ≤ 0 by omega)
  omega
/-- a side p q that alone lies farthest along w is passed by each way across w: it leads out of one of its planes at most, or into one -/
theorem passed_ok {A : Nat → V3} {m p q : Nat} {n1 n2 w b : V3} {d1 d2 a : Int} (hfull : full A m) (f1 : fc A m n1 d1) (f2 : fc A m n2 d2) (hne : n1 ≠ n2) (hp : p < m) (hq : q < m) (hpq : vs (A q) (A p) ≠ v0) (p1 : vd n1 (A p) = d1) (q1 : vd n1 (A q) = d1) (p2 : vd n2 (A p) = d2) (q2 : vd n2 (A q) = d2) (wp : vd w (A p) = a) (wq : vd w (A q) = a) (lt : ∀ t, t < m → t ≠ p → t ≠ q → vd w (A t) < a) (wb : vd w b = 0) : (vd n1 b ≤ 0 ∧ 0 ≤ vd n2 b) ∨ (0 ≤ vd n1 b ∧ vd n2 b ≤ 0) := by
  have third : ∀ (n n' : V3) (d d' : Int), fc A m n d → fc A m n' d' → n ≠ n' → vd n (A p) = d → vd n (A q) = d → vd n' (A p) = d' → vd n' (A q) = d' → ∃ x, x < m ∧ vd n (vs (A x) (A p)) = 0 ∧ vd n' (vs (A x) (A p)) < 0 ∧ vd w (vs (A x) (A p)) < 0 ∧ vx (vs (A x) (A p)) (vs (A q) (A p)) ≠ v0 := by
    intro n n' d d' f f' hn e1 e2 e3 e4
    obtain ⟨x, hx, ex, off⟩ := off_line (p := p) f hpq
    have xp : x ≠ p := fun e => off (by rw [e, vs_self, vx_0])
    have xq : x ≠ q := fun e => off (by rw [e, vx_self])
    refine ⟨x, hx, by rw [vd_vs]; omega, ?_, ?_, off⟩
    · have l := f'.1 x hx
      rw [vd_vs]
      by_cases c : vd n' (A x) = d'
      · exact absurd (fc_same hfull f f' e1 ex e2 e3 c e4 off).1.symm hn
      · omega
    · have := lt x hx xp xq
      rw [vd_vs]
      omega
  obtain ⟨x, hx, x1, x2, xw, xo⟩ := third n1 n2 d1 d2 f1 f2 hne p1 q1 p2 q2
  obtain ⟨y, hy, y2, y1, yw, -⟩ := third n2 n1 d2 d1 f2 f1 (fun e => hne e.symm) p2 q2 p1 q1
  have e1 : vd n1 (vs (A q) (A p)) = 0 := by rw [vd_vs]; omega
  have e2 : vd n2 (vs (A q) (A p)) = 0 := by rw [vd_vs]; omega
  have ew : vd w (vs (A q) (A p)) = 0 := by rw [vd_vs]; omega
  generalize vs (A q) (A p) = e at *
  generalize vs (A x) (A p) = X at *
  generalize vs (A y) (A p) = Y at *
  have np := prim_pos f1.2.2
  have c1 := crm n1 b X Y e
  have c2 := crm n2 b X Y e
  have c3 := crm w b X Y e
  rw [x1, e1, Int.mul_zero, Int.mul_zero, Int.zero_add, Int.add_zero] at c1
  rw [y2, e2, Int.mul_zero, Int.mul_zero, Int.add_zero, Int.add_zero] at c2
  rw [wb, ew, Int.mul_zero, Int.mul_zero, Int.add_zero] at c3
  have D0 : dt X Y e ≠ 0 := by
    intro z
    have par := along_u Y (vx_anti0 (cross_along x1 e1))
    rw [dt_sw] at z
    have z' : vd Y (vx X e) = 0 := by omega
    rw [z', Int.mul_zero, vd_comm Y n1] at par
    have t0 : vd (vx X e) n1 = 0 := by
      refine Classical.byContradiction fun nz => ?_
      have := Int.mul_ne_zero nz (show vd n1 Y ≠ 0 by omega)
      omega
    exact xo (par0 np x1 e1 (by rw [vd_comm]; exact t0))
  generalize dt X Y e = D at *
  generalize dt b Y e = P at *
  generalize dt X b e = Q at *
  refine Classical.byContradiction fun no => ?_
  have two : (0 < vd n1 b ∧ 0 < vd n2 b) ∨ (vd n1 b < 0 ∧ vd n2 b < 0) := by omega
  have sg : (0 < D * vd n1 b ∧ 0 < D * vd n2 b) ∨ (D * vd n1 b < 0 ∧ D * vd n2 b < 0) := by
    rcases two with ⟨a1, a2⟩ | ⟨a1, a2⟩
    · by_cases s : 0 < D
      · exact .inl ⟨Int.mul_pos s a1, Int.mul_pos s a2⟩
      · exact .inr ⟨Int.mul_neg_of_neg_of_pos (by omega) a1, Int.mul_neg_of_neg_of_pos (by omega) a2⟩
    · by_cases s : 0 < D
      · exact .inr ⟨Int.mul_neg_of_pos_of_neg s a1, Int.mul_neg_of_pos_of_neg s a2⟩
      · exact .inl ⟨Int.mul_pos_of_neg_of_neg (by omega) a1, Int.mul_pos_of_neg_of_neg (by omega) a2⟩
  rw [c1, c2] at sg
  rcases sg with ⟨a1, a2⟩ | ⟨a1, a2⟩
  · have k1 := neg_l a1 y1
    have k2 := neg_l a2 x2
    have m1 := Int.mul_pos_of_neg_of_neg k2 xw
    have m2 := Int.mul_pos_of_neg_of_neg k1 yw
    omega
  · have k1 := pos_l a1 y1
    have k2 := pos_l a2 x2
    have m1 := Int.mul_neg_of_pos_of_neg k2 xw
    have m2 := Int.mul_neg_of_pos_of_neg k1 yw
    omega
theorem sd_1 (o1 o2 x y : Int) : o2 * x + -o1 * y = -(o1 * y) + o2 * x := by grind
/-- a side that is passed by b has all points on one side of the plane through it along b -/
theorem side_ok {A : Nat → V3} {m p : Nat} {e b n1 n2 : V3} {d1 d2 : Int} (F1 : ∀ y, y < m → vd n1 (A y) ≤ d1) (F2 : ∀ y, y < m → vd n2 (A y) ≤ d2) (hp : p < m) (p1 : vd n1 (A p) = d1) (p2 : vd n2 (A p) = d2) (e1 : vd n1 e = 0) (e2 : vd n2 e = 0) (K : vx n1 n2 ≠ v0) (N : vx e b ≠ v0) (o1 : vd n1 b ≤ 0) (o2 : 0 ≤ vd n2 b) : (∀ y, y < m → vd (vx e b) (A y) ≤ vd (vx e b) (A p)) ∨ (∀ y, y < m → vd (vx e b) (A p) ≤ vd (vx e b) (A y)) := by
  have zb : vd (vl (vd n2 b) n1 (-vd n1 b) n2) b = 0 := by
    rw [vd_vl_l, Int.neg_mul, Int.mul_comm]
    omega
  have ze : vd (vl (vd n2 b) n1 (-vd n1 b) n2) e = 0 := by
    rw [vd_vl_l, e1, e2]
    omega
  have par : vx (vl (vd n2 b) n1 (-vd n1 b) n2) (vx e b) = v0 := cross_along ze zb
  have z0 : vl (vd n2 b) n1 (-vd n1 b) n2 ≠ v0 := fun z => by
    by_cases c : 0 < vd n2 b
    · have h := vx_vl_l (vd n2 b) n1 (-vd n1 b) n2
      rw [z, vx_0] at h
      exact K (vl_z c h.symm)
    · have c2 : vd n2 b = 0 := by omega
      by_cases c1 : vd n1 b = 0
      · -- b is across both, as e is
        have h1 : vx n1 (vx e b) = v0 := cross_along e1 c1
        have h2 : vx n2 (vx e b) = v0 := cross_along e2 c2
        exact K (along_along N h1 h2)
      · rw [c2] at z
        have h1 : vl (-vd n1 b) n2 0 v0 = vl 0 n1 (-vd n1 b) n2 := by
          refine v3_ext ?_ ?_ ?_
          · show -vd n1 b * n2.1 + 0 * 0 = 0 * n1.1 + -vd n1 b * n2.1
            omega
          · show -vd n1 b * n2.2.1 + 0 * 0 = 0 * n1.2.1 + -vd n1 b * n2.2.1
            omega
          · show -vd n1 b * n2.2.2 + 0 * 0 = 0 * n1.2.2 + -vd n1 b * n2.2.2
            omega
        have h := h1.trans z
        have n20 := vl_z (show 0 < -vd n1 b by omega) h
        rw [n20] at K
        exact K (vx_anti0 (vx_0 _))
  have zz := vd_pos z0
  have NN := vd_pos N
  have al : ∀ Y : V3, vd (vx e b) (vx e b) * vd Y (vl (vd n2 b) n1 (-vd n1 b) n2) = vd (vl (vd n2 b) n1 (-vd n1 b) n2) (vx e b) * vd Y (vx e b) := fun Y => along_u Y par
  have low : ∀ y, y < m → vd (vs (A y) (A p)) (vl (vd n2 b) n1 (-vd n1 b) n2) ≤ 0 := fun y hy => by
    rw [vd_comm, vd_vl_l, vd_vs, vd_vs]
    have h1 := F1 y hy
    have h2 := F2 y hy
    have m1 : vd n2 b * (vd n1 (A y) - vd n1 (A p)) ≤ 0 := Int.mul_nonpos_of_nonneg_of_nonpos o2 (by omega)
    have m2 : -vd n1 b * (vd n2 (A y) - vd n2 (A p)) ≤ 0 := Int.mul_nonpos_of_nonneg_of_nonpos (by omega) (by omega)
    omega
  have s0 : vd (vl (vd n2 b) n1 (-vd n1 b) n2) (vx e b) ≠ 0 := fun z => by
    have h := al (vl (vd n2 b) n1 (-vd n1 b) n2)
    rw [z, Int.zero_mul] at h
    have := Int.mul_pos NN zz
    omega
  generalize vl (vd n2 b) n1 (-vd n1 b) n2 = z at *
  generalize vx e b = M at *
  by_cases s : 0 < vd z M
  · refine .inl (fun y hy => ?_)
    have h := al (vs (A y) (A p))
    have l := Int.mul_nonpos_of_nonneg_of_nonpos (Int.le_of_lt NN) (low y hy)
    refine Classical.byContradiction fun c => ?_
    have g : 0 < vd (vs (A y) (A p)) M := by
      rw [vd_comm, vd_vs]
      omega
    have := Int.mul_pos s g
    omega
  · refine .inr (fun y hy => ?_)
    have h := al (vs (A y) (A p))
    have l := Int.mul_nonpos_of_nonneg_of_nonpos (Int.le_of_lt NN) (low y hy)
    refine Classical.byContradiction fun c => ?_
    have g : vd (vs (A y) (A p)) M < 0 := by
      rw [vd_comm, vd_vs]
      omega
    have := Int.mul_pos_of_neg_of_neg (show vd z M < 0 by omega) g
    omega
