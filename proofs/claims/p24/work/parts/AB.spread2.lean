/-- the kind that was found, when it was not refused -/
def KF (s s' : cS) (p q kp kq r : Nat) : Prop := (r = 1 ∧ ∀ i j, i < kp → j < kq → va (pc s p i) (pc s q j) = pc s' 30 0) ∨ (r = 2 ∧ pc s' 30 1 ≠ pc s' 30 0 ∧ ∀ i j, i < kp → j < kq → vx (vs (pc s' 30 1) (pc s' 30 0)) (vs (va (pc s p i) (pc s q j)) (pc s' 30 0)) = v0) ∨ (r = 3 ∧ vx (vs (pc s' 30 1) (pc s' 30 0)) (vs (pc s' 30 2) (pc s' 30 0)) ≠ v0 ∧ ∀ i j, i < kp → j < kq → vd (vx (vs (pc s' 30 1) (pc s' 30 0)) (vs (pc s' 30 2) (pc s' 30 0))) (va (pc s p i) (pc s q j)) = vd (vx (vs (pc s' 30 1) (pc s' 30 0)) (vs (pc s' 30 2) (pc s' 30 0))) (pc s' 30 0)) ∨ (r = 4 ∧ vd (vx (vs (pc s' 30 1) (pc s' 30 0)) (vs (pc s' 30 2) (pc s' 30 0))) (pc s' 30 3) ≠ vd (vx (vs (pc s' 30 1) (pc s' 30 0)) (vs (pc s' 30 2) (pc s' 30 0))) (pc s' 30 0))
theorem c_sp157 {N p q n m kp kq : Nat} {s s1 : cS} (hN : 600 < N) (h : PQ s p q n m kp kq) (st : ST s s1 p q kp kq 3) (nl : qI s1 28 2 = 0 → vx (vs (pc s1 30 1) (pc s1 30 0)) (vs (pc s1 30 2) (pc s1 30 0)) ≠ v0) : ∃ s' r, fxX2_spread_157 N 28 p q 30 (hC s1) = some (hC s', Int32.ofNat r) ∧ 1 ≤ r ∧ r ≤ 4 ∧ ST s s' p q kp kq r ∧ (qI s' 28 2 = 0 → KF s s' p q kp kq r) := by
  obtain ⟨v1, q1, b1⟩ := c_acX (N := N) (s := s1) (o := 0) (i := 1) (j := 2) s30 (by decide) (by decide) (by decide) (by decide)
  obtain ⟨v2, q2, b2⟩ := c_acY (N := N) (s := s1) (o := 0) (i := 1) (j := 2) s30 (by decide) (by decide) (by decide) (by decide)
  obtain ⟨v3, q3, b3⟩ := c_acZ (N := N) (s := s1) (o := 0) (i := 1) (j := 2) s30 (by decide) (by decide) (by decide) (by decide)
  have q1' : fxX3_acrossX N 30 (0 : Int32) (1 : Int32) (2 : Int32) (hC s1) = some (hC s1, v1) := q1
  have q2' : fxX3_acrossY N 30 (0 : Int32) (1 : Int32) (2 : Int32) (hC s1) = some (hC s1, v2) := q2
  have q3' : fxX3_acrossZ N 30 (0 : Int32) (1 : Int32) (2 : Int32) (hC s1) = some (hC s1, v3) := q3
  have e0 : fxX2_spread_157 N 28 p q 30 (hC s1) = (fxX2_stepOff N 28 p q v1 v2 v3 (hC s1)).bind fun o79 => if o79.2 = 0 then fxX2_spread_192 N (1 : Int32) o79.1 else fxX2_spread_192 N (0 : Int32) o79.1 := by
    unfold fxX2_spread_157
    rw [kO_3 s30', Option.bind_some, q1', Option.bind_some, kO_3 s30', Option.bind_some, q2', Option.bind_some, kO_3 s30', Option.bind_some, q3', Option.bind_some, kO_2 s28, Option.bind_some]
  rw [e0]
  rcases st.2.2.2.2 with ⟨r1, -⟩ | ⟨r1, kn⟩
  · obtain ⟨s2, k⟩ := c_stepV (N := N) (mx := v1) (my := v2) (mz := v3) hN h st r1 (by omega)
    rcases k with ⟨w1, w2, w3⟩ | ⟨w1, w2, w3⟩
    · refine ⟨s2, 3, by rw [w1]; rfl, by omega, by omega, w2, fun w => absurd (w.symm.trans w3) (by decide)⟩
    · refine ⟨s2, 4, by rw [w1]; rfl, by omega, by omega, w2, fun w => absurd (w.symm.trans w3) (by decide)⟩
  · have y0 := bd3_le (kn 0 (by omega)).1 (by decide : 100 ≤ 200)
    have y1 := bd3_le (kn 1 (by omega)).1 (by decide : 100 ≤ 200)
    have y2 := bd3_le (kn 2 (by omega)).1 (by decide : 100 ≤ 200)
    obtain ⟨s2, k⟩ := c_stepW (N := N) (mx := v1) (my := v2) (mz := v3) (d := vx (vs (pc s1 30 1) (pc s1 30 0)) (vs (pc s1 30 2) (pc s1 30 0))) hN h st (by omega) (by omega) (b1 y0 y1 y2) (b2 y0 y1 y2) (b3 y0 y1 y2) (by decide)
    rcases k with ⟨w1, w2, w3, w4⟩ | ⟨w1, w2, w3, w4⟩
    · refine ⟨s2, 3, by rw [w1]; rfl, by omega, by omega, w2, fun _ => .inr (.inr (.inl ⟨rfl, ?_, ?_⟩))⟩
      · rw [w3, w3, w3]
        exact nl r1
      · rw [w3, w3, w3]
        exact w4
    · refine ⟨s2, 4, by rw [w1]; rfl, by omega, by omega, w2, fun _ => .inr (.inr (.inr ⟨rfl, ?_⟩))⟩
      rw [w3 0 (by omega), w3 1 (by omega), w3 2 (by omega)]
      exact w4
theorem vd_vs' (d a b : V3) : vd d (vs a b) = vd d a - vd d b := by
  obtain ⟨d1, d2, d3⟩ := d
  obtain ⟨a1, a2, a3⟩ := a
  obtain ⟨b1, b2, b3⟩ := b
  show d1 * (a1 - b1) + d2 * (a2 - b2) + d3 * (a3 - b3) = d1 * a1 + d2 * a2 + d3 * a3 - (d1 * b1 + d2 * b2 + d3 * b3)
  rw [Int.mul_sub, Int.mul_sub, Int.mul_sub]
  omega
def cd1 (e : V3) : V3 := (0, e.2.2, -e.2.1)
def cd2 (e : V3) : V3 := (-e.2.2, 0, e.1)
def cd3 (e : V3) : V3 := (e.2.1, -e.1, 0)
theorem cd1_x (e w : V3) : vd (cd1 e) w = -(vx e w).1 := by
  obtain ⟨e1, e2, e3⟩ := e
  obtain ⟨w1, w2, w3⟩ := w
  show 0 * w1 + e3 * w2 + -e2 * w3 = -(e2 * w3 - e3 * w2)
  rw [Int.neg_mul]
  omega
theorem cd2_x (e w : V3) : vd (cd2 e) w = -(vx e w).2.1 := by
  obtain ⟨e1, e2, e3⟩ := e
  obtain ⟨w1, w2, w3⟩ := w
  show -e3 * w1 + 0 * w2 + e1 * w3 = -(e3 * w1 - e1 * w3)
  rw [Int.neg_mul]
  omega
theorem cd3_x (e w : V3) : vd (cd3 e) w = -(vx e w).2.2 := by
  obtain ⟨e1, e2, e3⟩ := e
  obtain ⟨w1, w2, w3⟩ := w
  show e2 * w1 + -e1 * w2 + 0 * w3 = -(e1 * w2 - e2 * w1)
  rw [Int.neg_mul]
  omega
theorem n32' {a : Int32} {x : Int} {A : Nat} (ha : a.toInt = x) (bx : x.natAbs ≤ A) (hA : A < 2147483648) : (-a).toInt = -x := by
  rw [Int32.toInt_neg, ha]
  exact bm32 (by omega)
theorem bv0 : bv (0 : Int64) 0 800 := ⟨rfl, by decide⟩
theorem c_sp59 {N p q n m kp kq : Nat} {s s1 : cS} (hN : 600 < N) (h : PQ s p q n m kp kq) (st : ST s s1 p q kp kq 2) (nl : pc s1 30 1 ≠ pc s1 30 0) : ∃ s' r, fxX2_spread_59 N 28 p q 30 (hC s1) = some (hC s', Int32.ofNat r) ∧ 1 ≤ r ∧ r ≤ 4 ∧ ST s s' p q kp kq r ∧ (qI s' 28 2 = 0 → KF s s' p q kp kq r) := by
  obtain ⟨-, e1, e2, e3⟩ := pt_sh s30
  have e1' : shp 31 = (10, 25) := e1
  have e2' : shp 32 = (10, 25) := e2
  have e3' : shp 33 = (10, 25) := e3
  have i1 : ∀ k : Nat, k < 25 → aI (hC s1) (30 + 1) (Int32.ofNat k) = some (qA s1 31 k) := fun k hk => aI_N e1' hk (by decide)
  have i2 : ∀ k : Nat, k < 25 → aI (hC s1) (30 + 2) (Int32.ofNat k) = some (qA s1 32 k) := fun k hk => aI_N e2' hk (by decide)
  have i3 : ∀ k : Nat, k < 25 → aI (hC s1) (30 + 3) (Int32.ofNat k) = some (qA s1 33 k) := fun k hk => aI_N e3' hk (by decide)
  have a10 : aI (hC s1) (30 + 1) (0 : Int32) = some (qA s1 31 0) := i1 0 (by decide)
  have a11 : aI (hC s1) (30 + 1) (1 : Int32) = some (qA s1 31 1) := i1 1 (by decide)
  have a20 : aI (hC s1) (30 + 2) (0 : Int32) = some (qA s1 32 0) := i2 0 (by decide)
  have a21 : aI (hC s1) (30 + 2) (1 : Int32) = some (qA s1 32 1) := i2 1 (by decide)
  have a30 : aI (hC s1) (30 + 3) (0 : Int32) = some (qA s1 33 0) := i3 0 (by decide)
  have a31 : aI (hC s1) (30 + 3) (1 : Int32) = some (qA s1 33 1) := i3 1 (by decide)
  have k0 := st.2.2.2.1 0 (by omega)
  have k1 := st.2.2.2.1 1 (by omega)
  have sb : ∀ (a b : Int32), a.toInt.natAbs ≤ 400 → b.toInt.natAbs ≤ 400 → (a - b).toInt = a.toInt - b.toInt ∧ (a.toInt - b.toInt).natAbs ≤ 800 := fun a b ha hb => ⟨by rw [Int32.toInt_sub]; exact bm32 (by omega), by omega⟩
  obtain ⟨x1, x2⟩ := sb _ _ k1.1 k0.1
  obtain ⟨y1, y2⟩ := sb _ _ k1.2.1 k0.2.1
  obtain ⟨z1, z2⟩ := sb _ _ k1.2.2 k0.2.2
  have bx : bv (qA s1 31 1 - qA s1 31 0).toInt64 (vs (pc s1 30 1) (pc s1 30 0)).1 800 := bt32 x1 x2
  have bx' : bv (-(qA s1 31 1 - qA s1 31 0)).toInt64 (-(vs (pc s1 30 1) (pc s1 30 0)).1) 800 := bt32 (n32' x1 x2 (by decide)) (by rw [Int.natAbs_neg]; exact x2)
  have by1 : bv (qA s1 32 1 - qA s1 32 0).toInt64 (vs (pc s1 30 1) (pc s1 30 0)).2.1 800 := bt32 y1 y2
  have by' : bv (-(qA s1 32 1 - qA s1 32 0)).toInt64 (-(vs (pc s1 30 1) (pc s1 30 0)).2.1) 800 := bt32 (n32' y1 y2 (by decide)) (by rw [Int.natAbs_neg]; exact y2)
  have bz : bv (qA s1 33 1 - qA s1 33 0).toInt64 (vs (pc s1 30 1) (pc s1 30 0)).2.2 800 := bt32 z1 z2
  have bz' : bv (-(qA s1 33 1 - qA s1 33 0)).toInt64 (-(vs (pc s1 30 1) (pc s1 30 0)).2.2) 800 := bt32 (n32' z1 z2 (by decide)) (by rw [Int.natAbs_neg]; exact z2)
  have ev : fxX2_spread_59 N 28 p q 30 (hC s1) = (fxX2_stepOff N 28 p q (0 : Int64) (qA s1 33 1 - qA s1 33 0).toInt64 (-(qA s1 32 1 - qA s1 32 0)).toInt64 (hC s1)).bind fun o52 => if o52.2 = 0 then ((kO o52.1 28 2).bind fun f59 => (fxX2_stepOff N 28 p q (-(qA s1 33 1 - qA s1 33 0)).toInt64 (0 : Int64) (qA s1 31 1 - qA s1 31 0).toInt64 o52.1).bind fun o57 => if o57.2 = 0 then ((kO o57.1 28 2).bind fun f64 => (fxX2_stepOff N 28 p q (qA s1 32 1 - qA s1 32 0).toInt64 (-(qA s1 31 1 - qA s1 31 0)).toInt64 (0 : Int64) o57.1).bind fun o62 => if o62.2 = 0 then some (o62.1, (2 : Int32)) else fxX2_spread_157 N 28 p q 30 o62.1) else fxX2_spread_157 N 28 p q 30 o57.1) else fxX2_spread_157 N 28 p q 30 o52.1 := by
    unfold fxX2_spread_59
    rw [gR_3_1 s30', Option.bind_some, a11, Option.bind_some, Option.bind_some, a10, Option.bind_some, gR_3_2 s30', Option.bind_some, a21, Option.bind_some, Option.bind_some, a20, Option.bind_some, gR_3_3 s30', Option.bind_some, a31, Option.bind_some, Option.bind_some, a30, Option.bind_some, kO_2 s28, Option.bind_some]
  rw [ev]
  have go : ∀ (d : V3) (s2 : cS), (∀ w, vd d w ≠ 0 → vx (vs (pc s1 30 1) (pc s1 30 0)) w ≠ v0) → ST s s2 p q kp kq 3 → (∀ j, j < 2 → pc s2 30 j = pc s1 30 j) → vd d (pc s2 30 2) ≠ vd d (pc s1 30 0) → ∃ s' r, fxX2_spread_157 N 28 p q 30 (hC s2) = some (hC s', Int32.ofNat r) ∧ 1 ≤ r ∧ r ≤ 4 ∧ ST s s' p q kp kq r ∧ (qI s' 28 2 = 0 → KF s s' p q kp kq r) := by
    intro d s2 hd st2 pk ne
    refine c_sp157 hN h st2 (fun _ => ?_)
    rw [pk 0 (by omega), pk 1 (by omega)]
    refine hd _ ?_
    rw [vd_vs']
    omega
  obtain ⟨s2, k⟩ := c_stepW (N := N) (d := cd1 (vs (pc s1 30 1) (pc s1 30 0))) hN h st (by omega) (by omega) bv0 bz by' (by decide)
  rcases k with ⟨w1, w2, w3, w4⟩ | ⟨w1, w2, w3, w4⟩
  · rw [w1, Option.bind_some, if_pos rfl, kO_2 s28, Option.bind_some]
    obtain ⟨s3, k⟩ := c_stepW (N := N) (d := cd2 (vs (pc s1 30 1) (pc s1 30 0))) hN h w2 (by omega) (by omega) bz' bv0 bx (by decide)
    rcases k with ⟨u1, u2, u3, u4⟩ | ⟨u1, u2, u3, u4⟩
    · rw [u1, Option.bind_some, if_pos rfl, kO_2 s28, Option.bind_some]
      obtain ⟨s4, k⟩ := c_stepW (N := N) (d := cd3 (vs (pc s1 30 1) (pc s1 30 0))) hN h u2 (by omega) (by omega) by1 bx' bv0 (by decide)
      rcases k with ⟨t1, t2, t3, t4⟩ | ⟨t1, t2, t3, t4⟩
      · rw [t1, Option.bind_some, if_pos rfl]
        refine ⟨s4, 2, rfl, by omega, by omega, t2, fun _ => .inr (.inl ⟨rfl, ?_, ?_⟩)⟩
        · rw [t3, t3, u3, u3, w3, w3]
          exact nl
        · intro i j hi hj
          rw [t3, t3, u3, u3, w3, w3]
          have g1 := w4 i j hi hj
          have g2 := u4 i j hi hj
          have g3 := t4 i j hi hj
          rw [w3] at g2
          rw [u3, w3] at g3
          have f1 := cd1_x (vs (pc s1 30 1) (pc s1 30 0)) (vs (va (pc s p i) (pc s q j)) (pc s1 30 0))
          have f2 := cd2_x (vs (pc s1 30 1) (pc s1 30 0)) (vs (va (pc s p i) (pc s q j)) (pc s1 30 0))
          have f3 := cd3_x (vs (pc s1 30 1) (pc s1 30 0)) (vs (va (pc s p i) (pc s q j)) (pc s1 30 0))
          rw [vd_vs'] at f1 f2 f3
          exact v3_ext (by show _ = (0 : Int); omega) (by show _ = (0 : Int); omega) (by show _ = (0 : Int); omega)
      · rw [t1, Option.bind_some, if_neg (show ¬ ((1 : Int32) = 0) by decide)]
        refine go (cd3 (vs (pc s1 30 1) (pc s1 30 0))) s4 (fun w nw e => nw (by rw [cd3_x, e]; rfl)) t2 (fun j hj => (t3 j hj).trans ((u3 j).trans (w3 j))) ?_
        rw [u3, w3] at t4
        exact t4
    · rw [u1, Option.bind_some, if_neg (show ¬ ((1 : Int32) = 0) by decide)]
      refine go (cd2 (vs (pc s1 30 1) (pc s1 30 0))) s3 (fun w nw e => nw (by rw [cd2_x, e]; rfl)) u2 (fun j hj => (u3 j hj).trans (w3 j)) ?_
      rw [w3] at u4
      exact u4
  · rw [w1, Option.bind_some, if_neg (show ¬ ((1 : Int32) = 0) by decide)]
    exact go (cd1 (vs (pc s1 30 1) (pc s1 30 0))) s2 (fun w nw e => nw (by rw [cd1_x, e]; rfl)) w2 w3 w4
