theorem ex_1 (a : V3) : vd (1, 0, 0) a = a.1 := by
  show 1 * a.1 + 0 * a.2.1 + 0 * a.2.2 = a.1
  omega
theorem ex_2 (a : V3) : vd (0, 1, 0) a = a.2.1 := by
  show 0 * a.1 + 1 * a.2.1 + 0 * a.2.2 = a.2.1
  omega
theorem ex_3 (a : V3) : vd (0, 0, 1) a = a.2.2 := by
  show 0 * a.1 + 0 * a.2.1 + 1 * a.2.2 = a.2.2
  omega
theorem bvz : bv (0 : Int64) 0 1 := ⟨rfl, by decide⟩
theorem bvo : bv (1 : Int64) 1 1 := ⟨rfl, by decide⟩
/-- spread: the first knots and the kind -/
theorem c_spread {N p q n m kp kq : Nat} {s : cS} (hN : 600 < N) (h : PQ s p q n m kp kq) (h0 : qI s 30 0 = 0) (h3 : qI s 28 3 = 0) (h2 : qI s 28 2 = 0) : ∃ s' r, fxX2_spread N 28 p q (hC s) = some (hC s', Int32.ofNat r) ∧ 1 ≤ r ∧ r ≤ 4 ∧ ST s s' p q kp kq r ∧ (qI s' 28 2 = 0 → KF s s' p q kp kq r) := by
  have st0 : ST s s p q kp kq 0 := ⟨cf.rf, h0, h3, fun j hj => absurd hj (by omega), .inr ⟨h2, fun j hj => absurd hj (by omega)⟩⟩
  obtain ⟨s1, a, b, q1, c1, r2, r3, e1, f1, d1⟩ := c_seekF (N := N) (mx := 0) (my := 0) (mz := 0) (d := (0, 0, 0)) hN h bvz bvz bvz (by decide)
  have st1 := ST_same st0 c1 r2 r3
  obtain ⟨s2, q2, t⟩ := c_takeM (N := N) st1.2.2.1 (by omega) st1.2.1 (by omega)
  rw [e1] at t
  have st2 : ST s s2 p q kp kq 1 := ST_take h st1 (by omega) f1.1 f1.2.1 (fun _ => ⟨_, f1⟩) t
  have ev : fxX2_spread N 28 p q (hC s) = (fxX2_stepOff N 28 p q (1 : Int64) (0 : Int64) (0 : Int64) (hC s2)).bind fun o13 => if o13.2 = 0 then ((kO o13.1 28 2).bind fun f20 => (fxX2_stepOff N 28 p q (0 : Int64) (1 : Int64) (0 : Int64) o13.1).bind fun o18 => if o18.2 = 0 then ((kO o18.1 28 2).bind fun f25 => (fxX2_stepOff N 28 p q (0 : Int64) (0 : Int64) (1 : Int64) o18.1).bind fun o23 => if o23.2 = 0 then some (o23.1, (1 : Int32)) else fxX2_spread_59 N 28 p q 30 o23.1) else fxX2_spread_59 N 28 p q 30 o18.1) else fxX2_spread_59 N 28 p q 30 o13.1 := by
    unfold fxX2_spread
    rw [gR_2_0 s28, Option.bind_some, gR_5_0 s29, Option.bind_some, kO_2 s28, Option.bind_some, q1, Option.bind_some, kO_2 s28, Option.bind_some, q2, Option.bind_some, kO_2 s28, Option.bind_some]
  rw [ev]
  have go : ∀ (d : V3) (s3 : cS), ST s s3 p q kp kq 2 → (∀ j, j < 1 → pc s3 30 j = pc s2 30 j) → vd d (pc s3 30 1) ≠ vd d (pc s2 30 0) → ∃ s' r, fxX2_spread_59 N 28 p q 30 (hC s3) = some (hC s', Int32.ofNat r) ∧ 1 ≤ r ∧ r ≤ 4 ∧ ST s s' p q kp kq r ∧ (qI s' 28 2 = 0 → KF s s' p q kp kq r) := by
    intro d s3 st3 pk ne
    refine c_sp59 hN h st3 (fun e => ne ?_)
    rw [e, pk 0 (by omega)]
  obtain ⟨s3, k⟩ := c_stepW (N := N) (d := (1, 0, 0)) hN h st2 (by omega) (by omega) bvo bvz bvz (by decide)
  rcases k with ⟨w1, w2, w3, w4⟩ | ⟨w1, w2, w3, w4⟩
  · rw [w1, Option.bind_some, if_pos rfl, kO_2 s28, Option.bind_some]
    obtain ⟨s4, k⟩ := c_stepW (N := N) (d := (0, 1, 0)) hN h w2 (by omega) (by omega) bvz bvo bvz (by decide)
    rcases k with ⟨u1, u2, u3, u4⟩ | ⟨u1, u2, u3, u4⟩
    · rw [u1, Option.bind_some, if_pos rfl, kO_2 s28, Option.bind_some]
      obtain ⟨s5, k⟩ := c_stepW (N := N) (d := (0, 0, 1)) hN h u2 (by omega) (by omega) bvz bvz bvo (by decide)
      rcases k with ⟨t1, t2, t3, t4⟩ | ⟨t1, t2, t3, t4⟩
      · rw [t1, Option.bind_some, if_pos rfl]
        refine ⟨s5, 1, rfl, by omega, by omega, t2, fun _ => .inl ⟨rfl, fun i j hi hj => ?_⟩⟩
        have g1 := w4 i j hi hj
        have g2 := u4 i j hi hj
        have g3 := t4 i j hi hj
        rw [ex_1, ex_1] at g1
        rw [ex_2, ex_2, w3] at g2
        rw [ex_3, ex_3, u3, w3] at g3
        rw [t3, u3, w3]
        exact v3_ext g1 g2 g3
      · rw [t1, Option.bind_some, if_neg (show ¬ ((1 : Int32) = 0) by decide)]
        refine go (0, 0, 1) s5 t2 (fun j hj => (t3 j hj).trans ((u3 j).trans (w3 j))) ?_
        rw [u3, w3] at t4
        exact t4
    · rw [u1, Option.bind_some, if_neg (show ¬ ((1 : Int32) = 0) by decide)]
      refine go (0, 1, 0) s4 u2 (fun j hj => (u3 j hj).trans (w3 j)) ?_
      rw [w3] at u4
      exact u4
  · rw [w1, Option.bind_some, if_neg (show ¬ ((1 : Int32) = 0) by decide)]
    exact go (1, 0, 0) s3 w2 w3 w4
