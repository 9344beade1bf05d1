/-- the sign of a box with two of its points changed -/
theorem bxs0 (a1 a2 a3 b1 b2 b3 c1 c2 c3 : Int) : (b2 * a3 - b3 * a2) * c1 + (b3 * a1 - b1 * a3) * c2 + (b1 * a2 - b2 * a1) * c3 = -((a2 * b3 - a3 * b2) * c1 + (a3 * b1 - a1 * b3) * c2 + (a1 * b2 - a2 * b1) * c3) := by grind
theorem bxs (a b c : V3) : vd (vx b a) c = -vd (vx a b) c := bxs0 _ _ _ _ _ _ _ _ _
theorem bx_sh0 (u1 u2 u3 v1 v2 v3 w1 w2 w3 x1 x2 x3 : Int) : ((v2 - u2) * (w3 - u3) - (v3 - u3) * (w2 - u2)) * (x1 - u1) + ((v3 - u3) * (w1 - u1) - (v1 - u1) * (w3 - u3)) * (x2 - u2) + ((v1 - u1) * (w2 - u2) - (v2 - u2) * (w1 - u1)) * (x3 - u3) = -(((w2 - v2) * (x3 - v3) - (w3 - v3) * (x2 - v2)) * (u1 - v1) + ((w3 - v3) * (x1 - v1) - (w1 - v1) * (x3 - v3)) * (u2 - v2) + ((w1 - v1) * (x2 - v2) - (w2 - v2) * (x1 - v1)) * (u3 - v3)) := by grind
/-- the box of four points, gone round by one -/
theorem bx_sh (u v w x : V3) : vd (vx (vs v u) (vs w u)) (vs x u) = -vd (vx (vs w v) (vs x v)) (vs u v) := bx_sh0 u.1 u.2.1 u.2.2 v.1 v.2.1 v.2.2 w.1 w.2.1 w.2.2 x.1 x.2.1 x.2.2
/-- a row of three of four points bounds the fourth and its own -/
theorem row4 {s : cS} {K T t u v w x : Nat} (sk : SK s K T) (ht : t < T) (hp : tip s t u v w) (hu : u < 25) (hv : v < 25) (hw : w < 25) (neg : vd (vx (vs (pc s 30 v) (pc s 30 u)) (vs (pc s 30 w) (pc s 30 u))) (vs (pc s 30 x) (pc s 30 u)) < 0) : tN s t ≠ v0 ∧ vd (tN s t) (pc s 30 u) ≤ tD s t ∧ vd (tN s t) (pc s 30 v) ≤ tD s t ∧ vd (tN s t) (pc s 30 w) ≤ tD s t ∧ vd (tN s t) (pc s 30 x) ≤ tD s t := by
  obtain ⟨u', v', w', hu', hv', hw', e1, e2, e3, e4, e5, -⟩ := sk.2.2.2.1 t ht
  have K25 := sk.1.1
  have q1 : u' = u := i_inj (by omega) (by omega) (e1.symm.trans hp.1)
  have q2 : v' = v := i_inj (by omega) (by omega) (e2.symm.trans hp.2.1)
  have q3 : w' = w := i_inj (by omega) (by omega) (e3.symm.trans hp.2.2)
  subst q1
  subst q2
  subst q3
  obtain ⟨r1, r2⟩ := row_pl e4 e5
  rw [← e4] at neg
  refine ⟨fun z => ?_, by omega, by omega, by omega, ?_⟩
  · rw [z] at neg
    have : vd v0 (vs (pc s 30 x) (pc s 30 u')) = 0 := by
      show 0 * _ + 0 * _ + 0 * _ = (0 : Int)
      omega
    omega
  · rw [vd_vs'] at neg
    omega
