/-- two ways in one line, seen along two others -/
theorem lag0 (a1 a2 a3 b1 b2 b3 y1 y2 y3 z1 z2 z3 : Int) : (a1 * y1 + a2 * y2 + a3 * y3) * (b1 * z1 + b2 * z2 + b3 * z3) - (a1 * z1 + a2 * z2 + a3 * z3) * (b1 * y1 + b2 * y2 + b3 * y3) = (a2 * b3 - a3 * b2) * (y2 * z3 - y3 * z2) + (a3 * b1 - a1 * b3) * (y3 * z1 - y1 * z3) + (a1 * b2 - a2 * b1) * (y1 * z2 - y2 * z1) := by grind
theorem lag (n n' y z : V3) : vd n y * vd n' z - vd n z * vd n' y = vd (vx n n') (vx y z) := lag0 _ _ _ _ _ _ _ _ _ _ _ _
theorem par_sw {n n' : V3} (h : vx n n' = v0) (y z : V3) : vd n y * vd n' z = vd n z * vd n' y := by
  have := lag n n' y z
  rw [h, vd_0] at this
  omega
/-- the level way of a row that rises at a knot -/
theorem lev (a b h m : V3) : vd (vx b a) (vx h m) = vd h b * vd m a - vd h a * vd m b := by
  have := lag b a h m
  have e1 : vd b h = vd h b := by
    unfold vd
    rw [Int.mul_comm b.1, Int.mul_comm b.2.1, Int.mul_comm b.2.2]
  have e2 : vd a m = vd m a := by
    unfold vd
    rw [Int.mul_comm a.1, Int.mul_comm a.2.1, Int.mul_comm a.2.2]
  have e3 : vd b m = vd m b := by
    unfold vd
    rw [Int.mul_comm b.1, Int.mul_comm b.2.1, Int.mul_comm b.2.2]
  have e4 : vd a h = vd h a := by
    unfold vd
    rw [Int.mul_comm a.1, Int.mul_comm a.2.1, Int.mul_comm a.2.2]
  rw [e1, e2, e3, e4] at this
  rw [← this, Int.mul_comm (vd m b)]
/-- two rows that rise at one knot lie in one plane -/
theorem ris_pl {a b a' b' h : V3} (ha : vd h a < 0) (hb : 0 < vd h b) (ha' : vd h a' < 0) (hb' : 0 < vd h b') (n1 : vd (vx b a) a' ≤ 0) (n2 : vd (vx b a) b' ≤ 0) (m1 : vd (vx b' a') a ≤ 0) (m2 : vd (vx b' a') b ≤ 0) : vd (vx b a) a' = 0 ∧ vd (vx b a) b' = 0 := by
  have c := cram b a b' a' h
  rw [trc a b' a', trc b b' a'] at c
  have p1 : vd (vx b' a') a * vd h b ≤ 0 := Int.mul_nonpos_of_nonpos_of_nonneg m1 (Int.le_of_lt hb)
  have p2 : 0 ≤ vd (vx b' a') b * vd h a := Int.mul_nonneg_of_nonpos_of_nonpos m2 (Int.le_of_lt ha)
  have p3 : vd (vx b a) a' * vd h b' ≤ 0 := Int.mul_nonpos_of_nonpos_of_nonneg n1 (Int.le_of_lt hb')
  have p4 : 0 ≤ vd (vx b a) b' * vd h a' := Int.mul_nonneg_of_nonpos_of_nonpos n2 (Int.le_of_lt ha')
  have z3 : vd (vx b a) a' * vd h b' = 0 := by omega
  have z4 : vd (vx b a) b' * vd h a' = 0 := by omega
  exact ⟨(Int.mul_eq_zero.mp z3).resolve_right (by omega), (Int.mul_eq_zero.mp z4).resolve_right (by omega)⟩
/-- a row that stays and a new one don't both rise at a knot: m is the way of a torn row through it -/
theorem ris_on {a b a' b' h m y : V3} (ha : vd h a < 0) (hb : 0 < vd h b) (ha' : vd h a' < 0) (hb' : 0 < vd h b') (n1 : vd (vx b a) a' ≤ 0) (n2 : vd (vx b a) b' ≤ 0) (m1 : vd (vx b' a') a ≤ 0) (m2 : vd (vx b' a') b ≤ 0) (sa : vd m a ≤ 0) (sb : vd m b ≤ 0) (ta : 0 ≤ vd m a') (tb : 0 ≤ vd m b') (tt : 0 < vd m a' ∨ 0 < vd m b') (hy : vd (vx b a) y < 0) (hy' : vd (vx b' a') y ≤ 0) : False := by
  have pl := ris_pl ha hb ha' hb' n1 n2 m1 m2
  have sw := par_sw (cross_along pl.2 pl.1) y (vx h m)
  rw [lev, lev] at sw
  have q1 : vd h b * vd m a ≤ 0 := Int.mul_nonpos_of_nonneg_of_nonpos (Int.le_of_lt hb) sa
  have q2 : 0 ≤ vd h a * vd m b := Int.mul_nonneg_of_nonpos_of_nonpos (Int.le_of_lt ha) sb
  have q3 : 0 ≤ vd h b' * vd m a' := Int.mul_nonneg (Int.le_of_lt hb') ta
  have q4 : vd h a' * vd m b' ≤ 0 := Int.mul_nonpos_of_nonpos_of_nonneg (Int.le_of_lt ha') tb
  have q5 : 0 < vd h b' * vd m a' - vd h a' * vd m b' := by
    rcases tt with w | w
    · have := Int.mul_pos hb' w
      omega
    · have := Int.mul_neg_of_neg_of_pos ha' w
      omega
  have l1 := Int.mul_neg_of_neg_of_pos hy q5
  have l2 : 0 ≤ (vd h b * vd m a - vd h a * vd m b) * vd (vx b' a') y := Int.mul_nonneg_of_nonpos_of_nonpos (by omega) hy'
  omega
theorem nn_0 {hb ha hb' ha' c c' y y' A B C D : Int} (h1 : ha < 0) (h2 : 0 < hb) (h3 : ha' < 0) (h4 : 0 < hb') (hc : 0 < c) (hc' : 0 < c') (ma' : A ≤ -c) (mb' : B ≤ -c) (qa : C ≤ -c') (qb : D ≤ -c') (hy : y < 0) (hy' : y' ≤ 0) (e1 : y * (hb' * A - ha' * B) = (hb * -c - ha * -c) * y') (e2 : y * (hb' * -c' - ha' * -c') = (hb * C - ha * D) * y') : A = -c ∧ B = -c := by
  have g1 : hb' * A ≤ hb' * -c := Int.mul_le_mul_of_nonneg_left ma' (Int.le_of_lt h4)
  have g2 : ha' * -c ≤ ha' * B := Int.mul_le_mul_of_nonpos_left (Int.le_of_lt h3) mb'
  have g3 : hb * C ≤ hb * -c' := Int.mul_le_mul_of_nonneg_left qa (Int.le_of_lt h2)
  have g4 : ha * -c' ≤ ha * D := Int.mul_le_mul_of_nonpos_left (Int.le_of_lt h1) qb
  -- S = hb - ha, S' = hb' - ha'
  have f1 : y * (hb' * -c - ha' * -c) ≤ y * (hb' * A - ha' * B) := Int.mul_le_mul_of_nonpos_left (Int.le_of_lt hy) (by omega)
  have f2 : (hb * -c' - ha * -c') * y' ≤ (hb * C - ha * D) * y' := Int.mul_le_mul_of_nonpos_right (by omega) hy'
  have r1 : y * (hb' * -c - ha' * -c) = -c * (y * (hb' - ha')) := by grind
  have r2 : (hb * -c - ha * -c) * y' = -c * ((hb - ha) * y') := by grind
  have r3 : y * (hb' * -c' - ha' * -c') = -c' * (y * (hb' - ha')) := by grind
  have r4 : (hb * -c' - ha * -c') * y' = -c' * ((hb - ha) * y') := by grind
  rw [r1, e1, r2] at f1
  rw [r4, ← e2, r3] at f2
  have k1 : (hb - ha) * y' ≤ y * (hb' - ha') := by
    by_cases w : (hb - ha) * y' ≤ y * (hb' - ha')
    · exact w
    · have := Int.mul_lt_mul_of_pos_left (show y * (hb' - ha') < (hb - ha) * y' by omega) hc
      rw [Int.neg_mul, Int.neg_mul] at f1
      omega
  have k2 : y * (hb' - ha') ≤ (hb - ha) * y' := by
    by_cases w : y * (hb' - ha') ≤ (hb - ha) * y'
    · exact w
    · have := Int.mul_lt_mul_of_pos_left (show (hb - ha) * y' < y * (hb' - ha') by omega) hc'
      rw [Int.neg_mul, Int.neg_mul] at f2
      omega
  have k3 : y * (hb' * A - ha' * B) = y * (hb' * -c - ha' * -c) := by
    rw [e1, r1, r2, show (hb - ha) * y' = y * (hb' - ha') by omega]
  have k4 : hb' * A - ha' * B = hb' * -c - ha' * -c := Int.eq_of_mul_eq_mul_left (by omega) k3
  have k5 : hb' * A = hb' * -c := by omega
  have k6 : ha' * B = ha' * -c := by omega
  exact ⟨Int.eq_of_mul_eq_mul_left (by omega) k5, Int.eq_of_mul_eq_mul_left (by omega) k6⟩
/-- two new rows that rise at the new knot: their torn rows' planes hold both sides -/
theorem ris_nn {a b a' b' h m m' y : V3} {c c' : Int} (ha : vd h a < 0) (hb : 0 < vd h b) (ha' : vd h a' < 0) (hb' : 0 < vd h b') (n1 : vd (vx b a) a' ≤ 0) (n2 : vd (vx b a) b' ≤ 0) (m1 : vd (vx b' a') a ≤ 0) (m2 : vd (vx b' a') b ≤ 0) (hc : 0 < c) (hc' : 0 < c') (ma : vd m a = -c) (mb : vd m b = -c) (ma' : vd m a' ≤ -c) (mb' : vd m b' ≤ -c) (qa' : vd m' a' = -c') (qb' : vd m' b' = -c') (qa : vd m' a ≤ -c') (qb : vd m' b ≤ -c') (hy : vd (vx b a) y < 0) (hy' : vd (vx b' a') y ≤ 0) : vd m a' = -c ∧ vd m b' = -c := by
  have pl := ris_pl ha hb ha' hb' n1 n2 m1 m2
  have sw := par_sw (cross_along pl.2 pl.1) y (vx h m)
  have sw' := par_sw (cross_along pl.2 pl.1) y (vx h m')
  rw [lev, lev, ma, mb] at sw
  rw [lev, lev, qa', qb'] at sw'
  exact nn_0 ha hb ha' hb' hc hc' ma' mb' qa qb hy hy' sw sw'
/-- two ways that lie in two planes lie in one line -/
theorem two_pl {n m x e a y : V3} (nx : vd n x = 0) (ne : vd n e = 0) (mx : vd m x = 0) (me : vd m e = 0) (na : vd n a = 0) (ma : vd m a ≠ 0) (ny : vd n y ≠ 0) : vx x e = v0 := by
  by_cases q : vx x e = v0
  · exact q
  · exfalso
    have sw := par_sw (along_along q (cross_along mx me) (cross_along nx ne)) a y
    rw [na, Int.mul_zero] at sw
    rcases Int.mul_eq_zero.mp sw with w | w
    · exact ma w
    · exact ny w
/-- no knot between two others -/
def NB (P : Nat → V3) (K : Nat) : Prop := ∀ i b c x y, i < K → b < K → c < K → 0 < y → y < x → (∀ r, x * vd r (vs (P i) (P c)) = y * vd r (vs (P b) (P c))) → P i = P c
theorem al0 (E Y r1 r2 r3 a1 a2 a3 e1 e2 e3 : Int) (h1 : E * a1 = Y * e1) (h2 : E * a2 = Y * e2) (h3 : E * a3 = Y * e3) : E * (r1 * a1 + r2 * a2 + r3 * a3) = Y * (r1 * e1 + r2 * e2 + r3 * e3) := by
  have k1 : E * (r1 * a1) = r1 * (E * a1) := by grind
  have k2 : E * (r2 * a2) = r2 * (E * a2) := by grind
  have k3 : E * (r3 * a3) = r3 * (E * a3) := by grind
  rw [Int.mul_add, Int.mul_add, k1, k2, k3, h1, h2, h3]
  grind
theorem v_of_r {x y : V3} (h : ∀ r, vd r x = vd r y) : x = y := by
  have k1 := h (1, 0, 0)
  have k2 := h (0, 1, 0)
  have k3 := h (0, 0, 1)
  unfold vd at k1 k2 k3
  exact v3_ext (by simp only at k1; omega) (by simp only at k2; omega) (by simp only at k3; omega)
theorem vs_inj {a b c : V3} (h : ∀ r, vd r (vs a c) = vd r (vs b c)) : a = b := by
  refine v_of_r (fun r => ?_)
  have := h r
  rw [vd_vs', vd_vs'] at this
  omega
/-- a knot on the line of two others is one of them -/
theorem on_line {P : Nat → V3} {K u v u' : Nat} (nb : NB P K) (hu : u < K) (hv : v < K) (hu' : u' < K) (ne : P u ≠ P v) (par : vx (vs (P u') (P v)) (vs (P u) (P v)) = v0) : P u' = P u ∨ P u' = P v := by
  have e0 : vs (P u) (P v) ≠ v0 := fun z => ne (vs_inj (c := P v) (fun r => by rw [z, vs_self]))
  have hE := vd_pos e0
  obtain ⟨a1, a2, a3⟩ := along_eq par
  have al : ∀ r, vd (vs (P u) (P v)) (vs (P u) (P v)) * vd r (vs (P u') (P v)) = vd (vs (P u') (P v)) (vs (P u) (P v)) * vd r (vs (P u) (P v)) := fun r => al0 _ _ _ _ _ _ _ _ _ _ _ a1 a2 a3
  generalize vd (vs (P u) (P v)) (vs (P u) (P v)) = E at *
  generalize vd (vs (P u') (P v)) (vs (P u) (P v)) = Y at *
  by_cases c0 : Y = 0
  · right
    refine vs_inj (c := P v) (fun r => ?_)
    have := al r
    rw [c0, Int.zero_mul] at this
    rw [vs_self, (Int.mul_eq_zero.mp this).resolve_left (by omega)]
    unfold vd v0
    simp
  · by_cases c1 : Y = E
    · left
      refine vs_inj (c := P v) (fun r => ?_)
      have := al r
      rw [c1] at this
      exact Int.eq_of_mul_eq_mul_left (by omega) this
    · by_cases c2 : 0 < Y
      · by_cases c3 : Y < E
        · exact .inr (nb u' u v E Y hu' hu hv c2 c3 al)
        · exact absurd (nb u u' v Y E hu hu' hv hE (by omega) (fun r => (al r).symm)) ne
      · refine absurd (nb v u' u (E - Y) E hv hu' hu hE (by omega) (fun r => ?_)).symm ne
        have := al r
        rw [vd_vs', vd_vs'] at this ⊢
        rw [Int.mul_sub] at this ⊢
        rw [Int.mul_sub] at this ⊢
        rw [Int.sub_mul, Int.sub_mul]
        omega
