/-- the box of the first four knots -/
def bx4 (s : cS) : Int := vd (vx (vs (pc s 30 1) (pc s 30 0)) (vs (pc s 30 2) (pc s 30 0))) (vs (pc s 30 3) (pc s 30 0))
/-- what holds of the first four rows -/
def Q0 (Q : cS → Nat → Nat → Prop) (X : Nat → V3 → Prop) (k : Nat → V3) : Prop := ∀ s a b, SK s 4 4 → fourR s a b → ((a = 2 ∧ b = 1 ∧ 0 ≤ bx4 s) ∨ (a = 1 ∧ b = 2 ∧ bx4 s < 0)) → bx4 s ≠ 0 → (∀ j, j < 4 → pc s 30 j = k j) → (∀ j, j < 4 → X j (pc s 30 j)) → Q s 4 4
theorem prop_ne {n : V3} (h : n ≠ v0) : vd n (propV n) ≠ 0 := by
  unfold propV
  by_cases c1 : n.1 = 0
  · rw [if_pos c1]
    by_cases c2 : n.2.1 = 0
    · rw [if_pos c2]
      intro e
      have : n.1 * 0 + n.2.1 * 0 + n.2.2 * 1 = 0 := e
      exact h (v3_ext c1 c2 (by show n.2.2 = 0; omega))
    · rw [if_neg c2]
      intro e
      have : n.1 * 0 + n.2.1 * 1 + n.2.2 * 0 = 0 := e
      omega
  · rw [if_neg c1]
    intro e
    have : n.1 * 1 + n.2.1 * 0 + n.2.2 * 0 = 0 := e
    omega
theorem prop_1 (n : V3) : bd3 (propV n) 1 := by
  unfold propV
  by_cases c1 : n.1 = 0
  · rw [if_pos c1]
    by_cases c2 : n.2.1 = 0
    · rw [if_pos c2]
      exact ⟨by decide, by decide, by decide⟩
    · rw [if_neg c2]
      exact ⟨by decide, by decide, by decide⟩
  · rw [if_neg c1]
    exact ⟨by decide, by decide, by decide⟩
/-- the knots from which the wrapping starts -/
def k4 (s : cS) (r j : Nat) : V3 := if r = 3 ∧ j = 3 then va (pc s 30 0) (propV (vx (vs (pc s 30 1) (pc s 30 0)) (vs (pc s 30 2) (pc s 30 0)))) else pc s 30 j
theorem sN_hL {s s' : cS} (c : cf sN s s') : cf hL s s' := c.mo (fun i hi => by unfold sN at hi; exact ⟨by omega, by omega⟩)
theorem hK_hL {s s' : cS} (c : cf hKn s s') : cf hL s s' := c.mo (fun i hi => by unfold hKn at hi; exact ⟨by omega, by omega⟩)
theorem c_wrap12 {Q : cS → Nat → Nat → Prop} {N p q n m kp kq r : Nat} {k : Nat → V3} {s s1 : cS} (hQ : QO Q (XK s p q kp kq r)) (hQ0 : Q0 Q (XK s p q kp kq r) k) (hN : 100000 < N) (h : PQ s p q n m kp kq) (hr : r = 3 ∨ r = 4) (c0 : cf hL s s1) (sk0 : SK s1 4 0) (r2 : qI s1 28 2 = 0) (r3 : qI s1 28 3 = Int32.ofNat r) (kn : ∀ j, j < 4 → (r = 3 ∧ j = 3) ∨ (bd3 (pc s1 30 j) 100 ∧ ∃ i i' d, fzz s p q kp kq d i i' ∧ pc s1 30 j = va (pc s p i) (pc s q i'))) (bx : bx4 s1 ≠ 0) (pk : ∀ j, j < 4 → pc s1 30 j = k j) : ∃ s', fxX2_wrap_12 N 28 p q (hC s1) = some (hC s') ∧ cf hL s s' ∧ (∀ j, j < 625 → qA s' 39 j = 0) ∧ ((qI s' 28 2 = 1 ∧ RW Q s p q kp kq r) ∨ (∃ K T C, WR Q s s' p q kp kq r K T C ∧ ∀ t, t < T → qA s' 36 t ≠ 0)) := by
  obtain ⟨s2, a, b, q2, c2, sk2, f2, o2⟩ := c_four (N := N) sk0 (by omega)
  have pe : ∀ j, pc s2 30 j = pc s1 30 j := fun j => sN_pc c2 j
  have be : bx4 s2 = bx4 s1 := by
    unfold bx4
    rw [pe, pe, pe, pe]
  have q0 : Q s2 4 4 := hQ0 s2 a b sk2 f2 (by rw [be]; exact o2) (by rw [be]; exact bx) (fun j hj => (pe j).trans (pk j hj)) (fun j hj => by rw [pe]; exact kn j hj)
  have w : WR Q s s2 p q kp kq r 4 4 r := ⟨c0.tr (sN_hL c2), sk2, q0, by rw [c2.I (fun w => by unfold sN at w; omega)]; exact r2, by rw [c2.I (fun w => by unfold sN at w; omega)]; exact r3, ⟨by omega, by omega⟩, fun j hj => by rw [pe]; exact kn j hj, fun t ht ne => absurd (f2.2.2.2.2 t ht) ne⟩
  have ol := op_le s2 4
  obtain ⟨s', q3, r⟩ := c_wrapLoop hQ (by omega : 600 < N) h hr 2200 0 N s2 4 4 r w (by omega) (by omega) (by omega)
  refine ⟨s', ?_, r⟩
  unfold fxX2_wrap_12
  have q2' : fxX5_beginWithFour N (28 + 1) (hC s1) = some (hC s2) := q2
  rw [gR_2_0 s28, Option.bind_some, kO_5 s29, Option.bind_some, q2', Option.bind_some]
  exact q3
/-- wrap -/
theorem c_wrap {Q : cS → Nat → Nat → Prop} {N p q n m kp kq r : Nat} {s s1 : cS} (hQ : QO Q (XK s p q kp kq r)) (hQ0 : Q0 Q (XK s p q kp kq r) (k4 s1 r)) (hN : 100000 < N) (h : PQ s p q n m kp kq) (hr : r = 3 ∨ r = 4) (st : ST s s1 p q kp kq r) (r2 : qI s1 28 2 = 0) (kf : KF s s1 p q kp kq r) (h29 : qI s1 29 1 = 0) (mk : ∀ j, j < 625 → qA s1 39 j = 0) : ∃ s', fxX2_wrap N 28 p q (Int32.ofNat r) (hC s1) = some (hC s') ∧ cf hL s s' ∧ (∀ j, j < 625 → qA s' 39 j = 0) ∧ ((qI s' 28 2 = 1 ∧ RW Q s p q kp kq r) ∨ (∃ K T C, WR Q s s' p q kp kq r K T C ∧ ∀ t, t < T → qA s' 36 t ≠ 0)) := by
  obtain ⟨a1, a2, a3, a4, a5⟩ := st
  have kn : KN s s1 p q kp kq r := by
    rcases a5 with ⟨w, -⟩ | ⟨-, w⟩
    · exact absurd (r2.symm.trans w) (by decide)
    · exact w
  rcases hr with rfl | rfl
  · obtain ⟨s2, q2, c2, g1, g2, g3⟩ := c_prop (N := N) (K := 3) (s := s1) (by omega) (by omega) a2 (fun j hj => (kn j hj).1)
    have c2L : cf hL s1 s2 := c2.mo (fun i hi => ⟨by have := hi.1; omega, by have := hi.2; omega⟩)
    have nz : vx (vs (pc s1 30 1) (pc s1 30 0)) (vs (pc s1 30 2) (pc s1 30 0)) ≠ v0 := by
      rcases kf with ⟨e, -⟩ | ⟨e, -⟩ | ⟨-, w, -⟩ | ⟨e, -⟩
      · omega
      · omega
      · exact w
      · omega
    have bx : bx4 s2 ≠ 0 := by
      unfold bx4
      rw [g2 0 (by omega), g2 1 (by omega), g2 2 (by omega), g3, vd_vs', vd_va]
      have := prop_ne nz
      omega
    have sk2 : SK s2 4 0 := by
      refine ⟨⟨by omega, by omega⟩, g1, ?_, fun t ht => absurd ht (by omega), fun j hj => ?_, fun j hj => ?_⟩
      · rw [c2.I (fun w => by unfold rg at w; omega)]
        exact h29
      · by_cases d : j = 3
        · rw [d, g3]
          have x := (kn 0 (by omega)).1
          have y := prop_1 (vx (vs (pc s1 30 1) (pc s1 30 0)) (vs (pc s1 30 2) (pc s1 30 0)))
          exact ⟨by have := x.1; have := y.1; show ((pc s1 30 0).1 + (propV _).1).natAbs ≤ 101; omega, by have := x.2.1; have := y.2.1; show ((pc s1 30 0).2.1 + (propV _).2.1).natAbs ≤ 101; omega, by have := x.2.2; have := y.2.2; show ((pc s1 30 0).2.2 + (propV _).2.2).natAbs ≤ 101; omega⟩
        · rw [g2 j (by omega)]
          exact bd3_le (kn j (by omega)).1 (by decide)
      · rw [c2.A (fun w => by unfold rg at w; omega)]
        exact mk j hj
    have w := c_wrap12 (N := N) (r := 3) (s1 := s2) hQ hQ0 hN h (.inl rfl) ((hK_hL a1).tr c2L) sk2 (by rw [c2.I (fun w => by unfold rg at w; omega)]; exact r2) (by rw [c2.I (fun w => by unfold rg at w; omega)]; exact a3) (fun j hj => by
      by_cases d : j = 3
      · exact .inl ⟨rfl, d⟩
      · rw [g2 j (by omega)]
        exact .inr (kn j (by omega))) bx (fun j hj => by
      unfold k4
      by_cases d : j = 3
      · rw [if_pos ⟨rfl, d⟩, d]
        exact g3
      · rw [if_neg (fun w => d w.2)]
        exact g2 j (by omega))
    obtain ⟨s', q3, rest⟩ := w
    refine ⟨s', ?_, rest⟩
    have q2' : fxX5_addProp N (28 + 1) (hC s1) = some (hC s2) := q2
    unfold fxX2_wrap
    rw [if_pos (show Int32.ofNat 3 = (3 : Int32) from rfl), gR_2_0 s28, Option.bind_some, kO_5 s29, Option.bind_some, q2', Option.bind_some]
    exact q3
  · have bx : bx4 s1 ≠ 0 := by
      unfold bx4
      rw [vd_vs']
      rcases kf with ⟨e, -⟩ | ⟨e, -⟩ | ⟨e, -⟩ | ⟨-, w⟩
      · omega
      · omega
      · omega
      · omega
    have sk1 : SK s1 4 0 := ⟨⟨by omega, by omega⟩, a2, h29, fun t ht => absurd ht (by omega), fun j hj => bd3_le (kn j hj).1 (by decide), mk⟩
    have w := c_wrap12 (N := N) (r := 4) (s1 := s1) hQ hQ0 hN h (.inr rfl) (hK_hL a1) sk1 r2 a3 (fun j hj => .inr (kn j hj)) bx (fun j hj => by
      unfold k4
      rw [if_neg (by omega)])
    obtain ⟨s', q3, rest⟩ := w
    refine ⟨s', ?_, rest⟩
    unfold fxX2_wrap
    rw [if_neg (show ¬ (Int32.ofNat 4 = (3 : Int32)) by decide)]
    exact q3
