theorem ex_r1 (a : V3) : vd a (1, 0, 0) = a.1 := by
  show a.1 * 1 + a.2.1 * 0 + a.2.2 * 0 = a.1
  omega
theorem ex_r2 (a : V3) : vd a (0, 1, 0) = a.2.1 := by
  show a.1 * 0 + a.2.1 * 1 + a.2.2 * 0 = a.2.1
  omega
theorem ex_r3 (a : V3) : vd a (0, 0, 1) = a.2.2 := by
  show a.1 * 0 + a.2.1 * 0 + a.2.2 * 1 = a.2.2
  omega
theorem trc0 (a1 a2 a3 b1 b2 b3 c1 c2 c3 : Int) : (a2 * b3 - a3 * b2) * c1 + (a3 * b1 - a1 * b3) * c2 + (a1 * b2 - a2 * b1) * c3 = (b2 * c3 - b3 * c2) * a1 + (b3 * c1 - b1 * c3) * a2 + (b1 * c2 - b2 * c1) * a3 := by grind
theorem trc (a b c : V3) : vd (vx a b) c = vd (vx b c) a := trc0 _ _ _ _ _ _ _ _ _
theorem tr13_0 (a1 a2 a3 b1 b2 b3 c1 c2 c3 : Int) : (a2 * b3 - a3 * b2) * c1 + (a3 * b1 - a1 * b3) * c2 + (a1 * b2 - a2 * b1) * c3 = -((c2 * b3 - c3 * b2) * a1 + (c3 * b1 - c1 * b3) * a2 + (c1 * b2 - c2 * b1) * a3) := by grind
theorem tr13 (a b c : V3) : vd (vx a b) c = -vd (vx c b) a := tr13_0 _ _ _ _ _ _ _ _ _
theorem tr23_0 (a1 a2 a3 b1 b2 b3 c1 c2 c3 : Int) : (a2 * b3 - a3 * b2) * c1 + (a3 * b1 - a1 * b3) * c2 + (a1 * b2 - a2 * b1) * c3 = -((a2 * c3 - a3 * c2) * b1 + (a3 * c1 - a1 * c3) * b2 + (a1 * c2 - a2 * c1) * b3) := by grind
theorem tr23 (a b c : V3) : vd (vx a b) c = -vd (vx a c) b := tr23_0 _ _ _ _ _ _ _ _ _
theorem nz_dot {n : V3} (h : n ≠ v0) : ∃ y, vd n y ≠ 0 := by
  by_cases c1 : n.1 = 0
  · by_cases c2 : n.2.1 = 0
    · refine ⟨(0, 0, 1), fun e => h (v3_ext c1 c2 ?_)⟩
      rw [ex_r3] at e
      exact e
    · refine ⟨(0, 1, 0), fun e => c2 ?_⟩
      rw [ex_r2] at e
      exact e
  · refine ⟨(1, 0, 0), fun e => c1 ?_⟩
    rw [ex_r1] at e
    exact e
theorem ray0 (A B C D E H rb ra rw : Int) (h1 : A * rb = B * rw - C * ra) (h2 : D * ra = E * rw - H * rb) : (A * D - C * H) * rb = (B * D - C * E) * rw := by
  have g1 : D * (A * rb) = D * (B * rw - C * ra) := by rw [h1]
  have g2 : C * (D * ra) = C * (E * rw - H * rb) := by rw [h2]
  grind
/-- two sides of the horizon that end at one knot come along one ray (all seen from that knot): al, be the sides' beginnings, k, k' the torn rows' third tips, w the new knot -/
theorem hor_ray {al be k k' w : V3} (d0 : vd (vx w al) be = 0) (tw : 0 < vd (vx k al) w) (tw' : 0 < vd (vx k' be) w) (tu : vd (vx k al) be ≤ 0) (tu' : vd (vx k' be) al ≤ 0) (na : vd (vx w be) k ≤ 0) (na' : vd (vx w al) k' ≤ 0) (nz : vx w be ≠ v0) : ∃ x y : Int, 0 < x ∧ 0 < y ∧ ∀ r, x * vd r be = y * vd r al := by
  have e1 : ∀ r, vd (vx k al) w * vd r be = vd (vx k al) be * vd r w - vd (vx w be) k * vd r al := fun r => by
    have c := cram w al be k r
    rw [d0, Int.zero_mul] at c
    have z1 : vd (vx al be) k = vd (vx k al) be := (trc k al be).symm
    have z2 : vd (vx w al) k = -vd (vx k al) w := tr13 w al k
    rw [z1, z2, Int.neg_mul] at c
    omega
  have e2 : ∀ r, vd (vx k' be) w * vd r al = vd (vx k' be) al * vd r w - vd (vx w al) k' * vd r be := fun r => by
    have d0' : vd (vx w be) al = 0 := by
      rw [tr23, d0]
      rfl
    have c := cram w be al k' r
    rw [d0', Int.zero_mul] at c
    have z1 : vd (vx be al) k' = vd (vx k' be) al := (trc k' be al).symm
    have z2 : vd (vx w be) k' = -vd (vx k' be) w := tr13 w be k'
    rw [z1, z2, Int.neg_mul] at c
    omega
  have c0 : ∀ r, (vd (vx k al) w * vd (vx k' be) w - vd (vx w be) k * vd (vx w al) k') * vd r be = (vd (vx k al) be * vd (vx k' be) w - vd (vx w be) k * vd (vx k' be) al) * vd r w := fun r => ray0 _ _ _ _ _ _ _ _ _ (e1 r) (e2 r)
  obtain ⟨y, hy⟩ := nz_dot nz
  have c1 := c0 (vx be y)
  rw [vx_l, Int.mul_zero] at c1
  have cz : vd (vx k al) be * vd (vx k' be) w - vd (vx w be) k * vd (vx k' be) al = 0 := (Int.mul_eq_zero.mp c1.symm).resolve_right (fun z => hy ((trc w be y).trans z))
  have p1 : vd (vx k al) be * vd (vx k' be) w ≤ 0 := Int.mul_nonpos_of_nonpos_of_nonneg tu (Int.le_of_lt tw')
  have p2 : 0 ≤ vd (vx w be) k * vd (vx k' be) al := Int.mul_nonneg_of_nonpos_of_nonpos na tu'
  have p3 : vd (vx k al) be * vd (vx k' be) w = 0 := by omega
  have u0 : vd (vx k al) be = 0 := (Int.mul_eq_zero.mp p3).resolve_right (by omega)
  have e3 : ∀ r, vd (vx k al) w * vd r be = -vd (vx w be) k * vd r al := fun r => by
    have := e1 r
    rw [u0, Int.zero_mul] at this
    rw [Int.neg_mul]
    omega
  refine ⟨vd (vx k al) w, -vd (vx w be) k, tw, ?_, e3⟩
  by_cases c : vd (vx w be) k = 0
  · exfalso
    have z : ∀ r, vd r be = 0 := fun r => by
      have := e3 r
      rw [c, Int.neg_zero, Int.zero_mul] at this
      exact (Int.mul_eq_zero.mp this).resolve_left (by omega)
    apply hy
    have := z (vx y w)
    rw [← trc, ← trc] at this
    exact this
  · omega
