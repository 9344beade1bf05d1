theorem cram0 (e1 e2 e3 a1 a2 a3 w1 w2 w3 x1 x2 x3 r1 r2 r3 : Int) : ((a2 * w3 - a3 * w2) * x1 + (a3 * w1 - a1 * w3) * x2 + (a1 * w2 - a2 * w1) * x3) * (r1 * e1 + r2 * e2 + r3 * e3) - ((e2 * w3 - e3 * w2) * x1 + (e3 * w1 - e1 * w3) * x2 + (e1 * w2 - e2 * w1) * x3) * (r1 * a1 + r2 * a2 + r3 * a3) + ((e2 * a3 - e3 * a2) * x1 + (e3 * a1 - e1 * a3) * x2 + (e1 * a2 - e2 * a1) * x3) * (r1 * w1 + r2 * w2 + r3 * w3) - ((e2 * a3 - e3 * a2) * w1 + (e3 * a1 - e1 * a3) * w2 + (e1 * a2 - e2 * a1) * w3) * (r1 * x1 + r2 * x2 + r3 * x3) = 0 := by grind
/-- four ways in space -/
theorem cram (e a w x r : V3) : vd (vx a w) x * vd r e - vd (vx e w) x * vd r a + vd (vx e a) x * vd r w - vd (vx e a) w * vd r x = 0 := cram0 _ _ _ _ _ _ _ _ _ _ _ _ _ _ _
/-- a new row over a side between a row that is torn (beyond it w lies) and one that stays bounds what both bound -/
theorem pen {e a w x r : V3} (re : vd r e = 0) (tw : 0 < vd (vx e a) w) (rw0 : vd r w ≤ 0) (ra : vd r a < 0) (tx : vd (vx e a) x ≤ 0) (rx : vd r x ≤ 0) : vd (vx e w) x ≤ 0 := by
  have c := cram e a w x r
  rw [re, Int.mul_zero] at c
  by_cases h : vd (vx e w) x ≤ 0
  · exact h
  · exfalso
    have p1 : vd (vx e w) x * vd r a < 0 := Int.mul_neg_of_pos_of_neg (by omega) ra
    have p2 : 0 ≤ vd (vx e a) x * vd r w := Int.mul_nonneg_of_nonpos_of_nonpos tx rw0
    have p3 : vd (vx e a) w * vd r x ≤ 0 := Int.mul_nonpos_of_nonneg_of_nonpos (Int.le_of_lt tw) rx
    omega
/-- when the torn row's third tip lies in the plane of the row that stays, what lies beyond the one lies beyond the other -/
theorem pen0 {e a w y r : V3} (re : vd r e = 0) (ra : vd r a = 0) (tw : 0 < vd (vx e a) w) (ty : vd (vx e a) y ≤ 0) (ry : vd r y < 0) : 0 < vd r w := by
  have c := cram e a w y r
  rw [re, ra, Int.mul_zero, Int.mul_zero] at c
  by_cases h : 0 < vd r w
  · exact h
  · exfalso
    have p1 : 0 ≤ vd (vx e a) y * vd r w := Int.mul_nonneg_of_nonpos_of_nonpos ty (by omega)
    have p2 : vd (vx e a) w * vd r y < 0 := Int.mul_neg_of_pos_of_neg tw ry
    omega
theorem rot0 (a1 a2 a3 b1 b2 b3 c1 c2 c3 : Int) : (b2 - a2) * (c3 - a3) - (b3 - a3) * (c2 - a2) = (c2 - b2) * (a3 - b3) - (c3 - b3) * (a2 - b2) := by grind
/-- the way across of three points does not change when they are gone round -/
theorem vx_rot (a b c : V3) : vx (vs b a) (vs c a) = vx (vs c b) (vs a b) := v3_ext (rot0 a.1 a.2.1 a.2.2 b.1 b.2.1 b.2.2 c.1 c.2.1 c.2.2) (rot0 a.2.1 a.2.2 a.1 b.2.1 b.2.2 b.1 c.2.1 c.2.2 c.1) (rot0 a.2.2 a.1 a.2.1 b.2.2 b.1 b.2.1 c.2.2 c.1 c.2.1)
theorem xself0 (a b c d e f : Int) : (b * f - c * e) * a + (c * d - a * f) * b + (a * e - b * d) * c = 0 := by grind
theorem vx_l (a b : V3) : vd (vx a b) a = 0 := xself0 a.1 a.2.1 a.2.2 b.1 b.2.1 b.2.2
theorem xself1 (a b c d e f : Int) : (b * f - c * e) * d + (c * d - a * f) * e + (a * e - b * d) * f = 0 := by grind
theorem vx_r (a b : V3) : vd (vx a b) b = 0 := xself1 a.1 a.2.1 a.2.2 b.1 b.2.1 b.2.2
/-- the plane of a row goes through each of its tips -/
theorem row_pl {a b c : V3} {n : V3} {d : Int} (hn : n = vx (vs b a) (vs c a)) (hd : d = vd n a) : vd n b = d ∧ vd n c = d := by
  have h1 := vx_l (vs b a) (vs c a)
  have h2 := vx_r (vs b a) (vs c a)
  rw [← hn, vd_vs'] at h1
  rw [← hn, vd_vs'] at h2
  exact ⟨by omega, by omega⟩
/-- the new row over a horizon side bounds every old knot -/
theorem new_row {P : Nat → V3} {K : Nat} {nT nR u v w a : V3} {dT dR : Int} (eT : nT = vx (vs v u) (vs a u)) (eD : dT = vd nT u) (Ru : vd nR u = dR) (Rv : vd nR v = dR) (bT : ∀ j, j < K → vd nT (P j) ≤ dT) (bR0 : ∀ j, j < K → vd nR (P j) ≤ dR) (Ra : vd nR a ≤ dR) (inn : ∃ j, j < K ∧ vd nR (P j) < dR) (Tw : dT < vd nT w) (Rw : vd nR w ≤ dR) : (∀ j, j < K → vd (vx (vs v u) (vs w u)) (P j) ≤ vd (vx (vs v u) (vs w u)) u) ∧ vx (vs v u) (vs w u) ≠ v0 := by
  have re : vd nR (vs v u) = 0 := by
    rw [vd_vs']
    omega
  have tw : 0 < vd (vx (vs v u) (vs a u)) (vs w u) := by
    rw [← eT, vd_vs']
    omega
  have ra : vd nR (vs a u) < 0 := by
    by_cases c : vd nR (vs a u) < 0
    · exact c
    · exfalso
      have z : vd nR (vs a u) = 0 := by
        rw [vd_vs'] at c ⊢
        omega
      obtain ⟨j, hj, lj⟩ := inn
      have := pen0 (y := vs (P j) u) re z tw (by rw [← eT, vd_vs']; have := bT j hj; omega) (by rw [vd_vs']; omega)
      rw [vd_vs'] at this
      omega
  refine ⟨fun j hj => ?_, fun e => ?_⟩
  · have := pen (x := vs (P j) u) re tw (by rw [vd_vs']; omega) ra (by rw [← eT, vd_vs']; have := bT j hj; omega) (by rw [vd_vs']; have := bR0 j hj; omega)
    rw [vd_vs'] at this
    omega
  · have c := cram (vs v u) (vs a u) (vs w u) (vs a u) nR
    rw [re, e, vx_r, Int.mul_zero] at c
    have z : vd v0 (vs a u) = 0 := by
      show 0 * _ + 0 * _ + 0 * _ = (0 : Int)
      omega
    rw [z] at c
    have p : vd (vx (vs v u) (vs a u)) (vs w u) * vd nR (vs a u) < 0 := Int.mul_neg_of_pos_of_neg tw ra
    omega
