theorem fzz_cf {s s' : cS} {p q kp kq i j : Nat} {d : V3} (pe : ∀ j, pc s' p j = pc s p j) (qe : ∀ j, pc s' q j = pc s q j) (h : fzz s' p q kp kq d i j) : fzz s p q kp kq d i j := by
  obtain ⟨x1, x2, x3, x4⟩ := h
  refine ⟨x1, x2, fun t ht => ?_, fun t ht => ?_⟩
  · have := x3 t ht
    rw [pe, pe] at this
    exact this
  · have := x4 t ht
    rw [qe, qe] at this
    exact this
/-- the first K knots: sums that lie farthest along some way, within 100 -/
def KN (s s' : cS) (p q kp kq K : Nat) : Prop := ∀ j, j < K → bd3 (pc s' 30 j) 100 ∧ ∃ i i' d, fzz s p q kp kq d i i' ∧ pc s' 30 j = va (pc s p i) (pc s q i')
/-- K knots were taken, or it was refused -/
def ST (s s' : cS) (p q kp kq K : Nat) : Prop := cf hKn s s' ∧ qI s' 30 0 = Int32.ofNat K ∧ qI s' 28 3 = Int32.ofNat K ∧ (∀ j, j < K → bd3 (pc s' 30 j) 400) ∧ ((qI s' 28 2 = 1 ∧ ∃ i j, i < kp ∧ j < kq ∧ ¬ bd3 (va (pc s p i) (pc s q j)) 100) ∨ (qI s' 28 2 = 0 ∧ KN s s' p q kp kq K))
theorem hKn_le {i : Nat} (h : hKn i) : 28 ≤ i ∧ i ≤ 45 := by
  unfold hKn at h
  omega
theorem va_400 {s : cS} {p q n m kp kq i j : Nat} (h : PQ s p q n m kp kq) (hi : i < kp) (hj : j < kq) : bd3 (va (pc s p i) (pc s q j)) 400 := by
  obtain ⟨-, -, -, -, g9, g10⟩ := h
  have x := g9 i hi
  have y := g10 j hj
  exact ⟨by have := x.1; have := y.1; show ((pc s p i).1 + (pc s q j).1).natAbs ≤ 400; omega, by have := x.2.1; have := y.2.1; show ((pc s p i).2.1 + (pc s q j).2.1).natAbs ≤ 400; omega, by have := x.2.2; have := y.2.2; show ((pc s p i).2.2 + (pc s q j).2.2).natAbs ≤ 400; omega⟩
theorem ST_take {s s1 s2 : cS} {p q n m kp kq K i j : Nat} (h : PQ s p q n m kp kq) (st : ST s s1 p q kp kq K) (hK : K < 24) (hi : i < kp) (hj : j < kq) (ff : qI s1 28 2 = 0 → ∃ d, fzz s p q kp kq d i j) (t : TK s1 s2 K K (va (pc s p i) (pc s q j))) : ST s s2 p q kp kq (K + 1) := by
  obtain ⟨a1, a2, a3, a4, a5⟩ := st
  obtain ⟨t1, t2, t3, t4, t5, t6⟩ := t
  refine ⟨a1.tr t1, t3, t2, ?_, ?_⟩
  · intro x hx
    by_cases d : x = K
    · rw [d, t4]
      exact va_400 h hi hj
    · rw [t5 x (by omega)]
      exact a4 x (by omega)
  · rcases t6 with ⟨u1, u2, u3⟩ | ⟨u1, u2⟩
    · rcases a5 with ⟨v1, v2⟩ | ⟨v1, v2⟩
      · exact .inl ⟨u3.trans v1, v2⟩
      · refine .inr ⟨u3.trans v1, fun x hx => ?_⟩
        by_cases d : x = K
        · rw [d, t4]
          obtain ⟨d', f'⟩ := ff v1
          exact ⟨u1, i, j, d', f', rfl⟩
        · rw [t5 x (by omega)]
          exact v2 x (by omega)
    · exact .inl ⟨u2, i, j, hi, hj, fun w => u1 ⟨w, hK⟩⟩
theorem c28_pc {s s' : cS} (c : cf (fun i => i = 28) s s') (j : Nat) : pc s' 30 j = pc s 30 j := by
  unfold pc
  rw [c.A (fun w => by omega), c.A (fun w => by omega), c.A (fun w => by omega)]
theorem ST_same {s s1 s2 : cS} {p q kp kq K : Nat} (st : ST s s1 p q kp kq K) (c : cf (fun i => i = 28) s1 s2) (r2 : qI s2 28 2 = qI s1 28 2) (r3 : qI s2 28 3 = qI s1 28 3) : ST s s2 p q kp kq K := by
  obtain ⟨a1, a2, a3, a4, a5⟩ := st
  refine ⟨a1.tr (c.mo (fun i hi => .inl hi)), ?_, r3.trans a3, fun j hj => by rw [c28_pc c]; exact a4 j hj, ?_⟩
  · rw [c.I (fun w => by omega)]
    exact a2
  · rw [r2]
    refine a5.imp id (fun ⟨x, y⟩ => ⟨x, fun j hj => ?_⟩)
    rw [c28_pc c]
    exact y j hj
/-- a step, with its outcome -/
theorem c_stepW {N p q n m kp kq K A : Nat} {mx my mz : Int64} {d : V3} {s s1 : cS} (hN : 600 < N) (h : PQ s p q n m kp kq) (st : ST s s1 p q kp kq K) (hK : K < 24) (k1 : 1 ≤ K) (h1 : bv mx d.1 A) (h2 : bv my d.2.1 A) (h3 : bv mz d.2.2 A) (hA : A ≤ 1000000) : ∃ s2, (fxX2_stepOff N 28 p q mx my mz (hC s1) = some (hC s2, 0) ∧ ST s s2 p q kp kq K ∧ (∀ j, pc s2 30 j = pc s1 30 j) ∧ ∀ i j, i < kp → j < kq → vd d (va (pc s p i) (pc s q j)) = vd d (pc s1 30 0)) ∨ (fxX2_stepOff N 28 p q mx my mz (hC s1) = some (hC s2, 1) ∧ ST s s2 p q kp kq (K + 1) ∧ (∀ j, j < K → pc s2 30 j = pc s1 30 j) ∧ vd d (pc s2 30 K) ≠ vd d (pc s1 30 0)) := by
  obtain ⟨P1, pe, qe⟩ := PQ_cf h st.1 (fun i hi => hKn_le hi)
  obtain ⟨s2, k⟩ := c_step (mx := mx) (my := my) (mz := mz) hN P1 st.2.2.1 (by omega) st.2.1 (by omega) (st.2.2.2.1 0 (by omega)) h1 h2 h3 hA
  refine ⟨s2, ?_⟩
  rcases k with ⟨q1, c, r2, r3, z⟩ | ⟨q1, i, j, f, ne, t⟩
  · refine .inl ⟨q1, ST_same st c r2 r3, fun j => c28_pc c j, fun i j hi hj => ?_⟩
    have := z i j hi hj
    rw [pe, qe] at this
    exact this
  · rw [pe, qe] at ne t
    have f' : ∃ d, fzz s p q kp kq d i j := f.elim (fun w => ⟨d, fzz_cf pe qe w⟩) (fun w => ⟨vm d, fzz_cf pe qe w⟩)
    obtain ⟨d', f''⟩ := f'
    refine .inr ⟨q1, ST_take h st hK f''.1 f''.2.1 (fun _ => ⟨d', f''⟩) t, t.2.2.2.2.1, ?_⟩
    rw [t.2.2.2.1]
    exact ne
/-- a step when it is refused already -/
theorem c_stepV {N p q n m kp kq K : Nat} {mx my mz : Int64} {s s1 : cS} (hN : 600 < N) (h : PQ s p q n m kp kq) (st : ST s s1 p q kp kq K) (rf1 : qI s1 28 2 = 1) (hK : K < 24) : ∃ s2, (fxX2_stepOff N 28 p q mx my mz (hC s1) = some (hC s2, 0) ∧ ST s s2 p q kp kq K ∧ qI s2 28 2 = 1) ∨ (fxX2_stepOff N 28 p q mx my mz (hC s1) = some (hC s2, 1) ∧ ST s s2 p q kp kq (K + 1) ∧ qI s2 28 2 = 1) := by
  have al : fxX3_along N 30 (0 : Int32) mx my mz (hC s1) = some (hC s1, hv s1 30 mx my mz 0) := c_along (j := 0) s30 (by decide) (by decide)
  have fin : ∀ (s3 : cS) (i j : Nat), ST s s3 p q kp kq K → qI s3 28 2 = 1 → i < kp → j < kq → sk s3 = va (pc s p i) (pc s q j) → ∃ s2, (fxX2_stepOff_74 N 28 mx my mz (hv s1 30 mx my mz 0) (hC s3) = some (hC s2, 0) ∧ ST s s2 p q kp kq K ∧ qI s2 28 2 = 1) ∨ (fxX2_stepOff_74 N 28 mx my mz (hv s1 30 mx my mz 0) (hC s3) = some (hC s2, 1) ∧ ST s s2 p q kp kq (K + 1) ∧ qI s2 28 2 = 1) := by
    intro s3 i j st3 r3 hi hj e3
    unfold fxX2_stepOff_74
    simp only [gI_2_4 s28, gI_2_5 s28, gI_2_6 s28, Option.bind_some, kO_2 s28]
    by_cases c : mx * (qI s3 28 4).toInt64 + my * (qI s3 28 5).toInt64 + mz * (qI s3 28 6).toInt64 = hv s1 30 mx my mz 0
    · rw [if_pos c]
      exact ⟨s3, .inl ⟨rfl, st3, r3⟩⟩
    · rw [if_neg c]
      obtain ⟨s', q, t⟩ := c_takeM (N := N) st3.2.2.1 (by omega) st3.2.1 (by omega)
      rw [e3] at t
      refine ⟨s', .inr ⟨by rw [q]; rfl, ST_take h st3 hK hi hj (fun w => absurd (w.symm.trans r3) (by decide)) t, ?_⟩⟩
      rcases t.2.2.2.2.2 with ⟨-, -, w⟩ | ⟨-, w⟩
      · rw [w]
        exact r3
      · exact w
  obtain ⟨P1, pe, qe⟩ := PQ_cf h st.1 (fun i hi => hKn_le hi)
  obtain ⟨s2, a, b, q1, c, r2, r3, ha, hb, e, -, -⟩ := c_seekM (mx := mx) (my := my) (mz := mz) hN P1
  rw [pe, qe] at e
  have st2 := ST_same st c r2 r3
  rw [c_stepE al q1]
  by_cases cc : mx * (qI s2 28 4).toInt64 + my * (qI s2 28 5).toInt64 + mz * (qI s2 28 6).toInt64 = hv s1 30 mx my mz 0
  · rw [if_pos cc]
    obtain ⟨P2, pe2, qe2⟩ := PQ_cf h st2.1 (fun i hi => hKn_le hi)
    obtain ⟨s3, a', b', q3, c3, u2, u3, ha', hb', e', -, -⟩ := c_seekM (mx := -mx) (my := -my) (mz := -mz) hN P2
    rw [pe2, qe2] at e'
    rw [q3, Option.bind_some]
    exact fin s3 a' b' (ST_same st2 c3 u2 u3) (u2.trans (r2.trans rf1)) ha' hb' e'
  · rw [if_neg cc]
    exact fin s2 a b st2 (r2.trans rf1) ha hb e
