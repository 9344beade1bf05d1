/-- the place asked for, laid into the reference's cells -/
def ptJ (s : mS) (x y z q : Int64) : mS := pJ (pJ (pJ (pJ s 39 x) 40 y) 41 z) 42 q
theorem ptJ_fr (s : mS) (x y z q : Int64) : fr [39, 40, 41, 42] s (ptJ s x y z q) := ((((fr_pJ s 39 x).mo (by decide)).tr ((fr_pJ _ 40 y).mo (by decide))).tr ((fr_pJ _ 41 z).mo (by decide))).tr ((fr_pJ _ 42 q).mo (by decide))
theorem ws_of {C : cS} {b m k F E : Nat} {s s1 s' : mS} {R rf : Nat → Nat} {ρ : Nat → Nat → Nat} {P : Nat → V3} (br' : BR C b s1 0 m k F E R rf ρ) (e27 : s1.2.2.1 27 0 = Int32.ofNat F) (f1 : fr [43, 44, 45, 46] s1 s') (own : ∀ t, t < m → oP s' (24 * 0 + t) = P t) (hpe : ∀ t, t < m → hp s1 t = P t) (x y z q : Int64) : WS C b (ptJ s' x y z q) m F R rf ρ x y z q := by
  obtain ⟨⟨m24, -, F44, -⟩, ⟨-, y2, y3, -⟩, pts, pls, rz, ht, -⟩ := br'
  have f2 := ptJ_fr s' x y z q
  have g : ∀ k, k < 39 → (ptJ s' x y z q).2.2.2 k = s1.2.2.2 k := fun k hk => (f2.G (by simp; omega)).trans (f1.G (by simp; omega))
  have ga : ∀ k, k < 39 → (ptJ s' x y z q).2.2.1 k = s1.2.2.1 k := fun k hk => (f2.A (by simp; omega)).trans (f1.A (by simp; omega))
  have go : ∀ k, 43 ≤ k → (ptJ s' x y z q).2.2.2 k = s'.2.2.2 k := fun k hk => f2.G (by simp; omega)
  refine ⟨⟨m24, F44⟩, ⟨y2, y3⟩, fun f hf => ?_, fun j hj => ?_, ⟨rfl, rfl, rfl, rfl⟩, by rw [ga 27 (by omega)]; exact e27, fun f hf => ?_, rz⟩
  · obtain ⟨p1, p2, p3⟩ := pls f hf
    rw [Nat.mul_zero, Nat.zero_add] at p1 p2
    rw [g 28 (by omega), g 29 (by omega), g 30 (by omega), g 31 (by omega)]
    exact ⟨eq64 (congrArg (fun v : V3 => v.1) p1), eq64 (congrArg (fun v : V3 => v.2.1) p1), eq64 (congrArg (fun v : V3 => v.2.2) p1), eq64 p2, p3⟩
  · have o := own j hj
    rw [Nat.mul_zero, Nat.zero_add, ← hpe j hj, ← (pts j hj).1] at o
    rw [go 43 (by omega), go 44 (by omega), go 45 (by omega)]
    exact ⟨eq64 (congrArg (fun v : V3 => v.1) o).symm, eq64 (congrArg (fun v : V3 => v.2.1) o).symm, eq64 (congrArg (fun v : V3 => v.2.2) o).symm, by rw [(pts j hj).1]; exact (pts j hj).2⟩
  · obtain ⟨t1, t2, t3, t4, t5, t6, t7⟩ := ht f hf
    rw [Nat.mul_zero, Nat.zero_add] at t5 t6
    rw [ga 32 (by omega), ga 33 (by omega)]
    exact ⟨t5, t3, t4, t6⟩
/-- locate and where -/
theorem w_loc {N b m k F : Nat} {R rf : Nat → Nat} {ρ : Nat → Nat → Nat} {x y z q : Int64} {X Y Z Q : Int} {C : cS} {t : mS} (hN : 600 < N) (hb : isB b) (h : WS C b t m F R rf ρ x y z q) (k4 : k ≤ 4) (hk : qI C b 0 = Int32.ofNat k) (km : k < 3 → m = k) (k3 : k = 3 → 1 ≤ F) (bx : bv x X 1000000) (by' : bv y Y 1000000) (bz : bv z Z 1000000) (bq : bv q Q 1000) : ∃ v, fxX0_locate N b x y z q (hC C) = some (hC C, v) ∧ mxX7_where N (Int32.ofNat k) 0 t = some (t, v) := by
  obtain ⟨h0, -⟩ := isB_sh hb
  have hk' : gI (hC C) b 0 0 = some (Int32.ofNat k) := by
    rw [gI_0_0 h0, hk]
  unfold fxX0_locate
  rw [hk', Option.bind_some, Option.bind_some, Option.bind_some]
  rcases (show k = 0 ∨ k = 1 ∨ k = 2 ∨ k = 3 ∨ k = 4 by omega) with e | e | e | e | e
  · subst e
    exact ⟨0, rfl, rfl⟩
  · subst e
    have em := km (by omega)
    subst em
    rw [if_neg (by decide), if_neg (by decide), if_neg (by decide), kO_0 h0, Option.bind_some]
    rcases w_pt (N := N) hb h with ⟨a1, a2⟩ | ⟨a1, a2⟩
    · exact ⟨1, bndE a1 rfl, a2⟩
    · exact ⟨0, bndE a1 rfl, a2⟩
  · subst e
    have em := km (by omega)
    subst em
    rw [if_neg (by decide), if_neg (by decide), if_neg (by decide), kO_0 h0, Option.bind_some]
    obtain ⟨v, a1, a2⟩ := w_line (N := N) hb h
    have a2' : mxX7_onLine N ((24 : Int32) * 0) ((24 : Int32) * 0 + 1) t = some (t, v) := a2
    have w2 : mxX7_where N (Int32.ofNat 2) 0 t = if v = 0 then some (t, (0 : Int32)) else some (t, (1 : Int32)) := by
      unfold mxX7_where
      refine (if_neg (by decide)).trans ((if_neg (by decide)).trans ((if_pos rfl).trans (bndE a2' rfl)))
    by_cases c : v = 0
    · exact ⟨0, bndE a1 (by unfold fxX0_locate_59; exact if_pos c), w2.trans (if_pos c)⟩
    · exact ⟨1, bndE a1 (by unfold fxX0_locate_59; exact if_neg c), w2.trans (if_neg c)⟩
  · subst e
    have F1 := k3 rfl
    have F44 := h.1.2
    rw [if_neg (by decide), if_neg (by decide), if_pos (show Int32.ofNat 3 = (3 : Int32) from rfl), kO_0 h0, Option.bind_some]
    obtain ⟨w, a1, a2⟩ := w_exc (N := N) (f := 0) hb h (by omega)
    have a1' : fxX0_excess N b 0 x y z q (hC C) = some (hC C, w) := a1
    have a2' : mxX7_overFace N ((64 : Int32) * 0) t = some (t, w) := a2
    have nz : ¬ (Int32.ofNat F = 0) := fun e => by
      have := i_inj (a := F) (b := 0) (by omega) (by omega) e
      omega
    have w3 : mxX7_where N (Int32.ofNat 3) 0 t = if w = (0 : Int64) then ((mxX7_isOver N 0 ((64 : Int32) * 0) t).bind fun o20 => if o20.2 = 0 then some (o20.1, (0 : Int32)) else some (o20.1, (1 : Int32))) else some (t, (0 : Int32)) := by
      unfold mxX7_where
      refine (if_neg (by decide)).trans ((if_neg (by decide)).trans ((if_neg (by decide)).trans ((if_pos rfl).trans (bndE a2' rfl))))
    have f3 : fxX0_isInFigure N b x y z q (hC C) = if w = (0 : Int64) then fxX0_isInFigure_28 N N b x y z q 0 (hC C) else some (hC C, (0 : Int32)) := by
      unfold fxX0_isInFigure
      rw [gI_0_2 h0, Option.bind_some, h.2.1.2, if_neg nz, kO_0 h0, Option.bind_some, a1', Option.bind_some]
    by_cases c : w = 0
    · rw [if_pos c] at w3 f3
      obtain ⟨t32, r25, r3, -⟩ := h.2.2.2.2.2.2.1 0 (by omega)
      obtain ⟨v, b1, b2⟩ := w_fig (N := N) hb h (by omega) bx by' bz bq (rf 0) 0 N N (by omega) (by omega) (by omega)
      have b1' : fxX0_isInFigure_28 N N b x y z q 0 (hC C) = some (hC C, v) := b1
      have b2' : mxX7_isOver N 0 ((64 : Int32) * 0) t = some (t, v) := by
        unfold mxX7_isOver
        have r : rA t 32 ((64 : Int32) * 0) = some (t.2.2.1 32 0) := rA128 (j := 0) rfl (by omega)
        rw [r, Option.bind_some, t32]
        exact b2
      have w4 := w3.trans (bndE b2' rfl)
      dsimp only at w4
      by_cases c2 : v = 0
      · exact ⟨0, bndE (f3.trans b1') (by unfold fxX0_locate_59; exact if_pos c2), w4.trans (if_pos c2)⟩
      · exact ⟨1, bndE (f3.trans b1') (by unfold fxX0_locate_59; exact if_neg c2), w4.trans (if_neg c2)⟩
    · rw [if_neg c] at w3 f3
      exact ⟨0, bndE f3 rfl, w3⟩
  · subst e
    have F44 := h.1.2
    rw [if_neg (by decide), if_pos (show Int32.ofNat 4 = (4 : Int32) from rfl), kO_0 h0, Option.bind_some]
    obtain ⟨v, b1, b2⟩ := w_faces (N := N) hb h F 0 N N 2 (by omega) (by omega) (by omega)
    refine ⟨v, bndE b1 rfl, ?_⟩
    unfold mxX7_where
    exact (if_neg (by decide)).trans ((if_neg (by decide)).trans ((if_neg (by decide)).trans ((if_neg (by decide)).trans b2)))
/-- in -/
theorem sv_in {N : Nat} {C : cS} {s : mS} (hN : 4611686018427387904 < N) (j : JK C s) (a x y z q : Int32) : ∃ C' v o, fxX6_in N 0 a x y z q (hC C) = some (hC C', v) ∧ mxX7_in N a x y z q s = some o ∧ v = o.2 ∧ JK C' o.1 := by
  have j' := j
  obtain ⟨bo, xx, cc, jx⟩ := j
  have ci := jx.1
  have fin : ∀ v s', fi s s' → fxX6_in N 0 a x y z q (hC C) = some (hC C, v) → mxX7_in N a x y z q s = some (s', v) → ∃ C' v o, fxX6_in N 0 a x y z q (hC C) = some (hC C', v) ∧ mxX7_in N a x y z q s = some o ∧ v = o.2 ∧ JK C' o.1 := fun v s' f e1 e2 => ⟨C, v, _, e1, e2, rfl, JK_read j' cf.rf f⟩
  rcases slot_or a with ha | ⟨i, hi, rfl⟩
  · refine fin (-1) s fi.rf ?_ ?_
    · unfold fxX6_in
      rw [slot_no ha, Option.bind_some]
      rfl
    · unfold mxX7_in
      rw [solid_no ha, Option.bind_some]
      rfl
  · have c0 : fxX6_in N 0 (Int32.ofNat i) x y z q (hC C) = if q < (1 : Int32) then some (hC C, (-1 : Int32)) else (if q ≤ (1000 : Int32) then ((fxX6_isWithin N x (1000000 : Int32) (hC C)).bind fun o6 => if o6.2 = 0 then some (o6.1, (-1 : Int32)) else ((fxX6_isWithin N y (1000000 : Int32) o6.1).bind fun o9 => if o9.2 = 0 then some (o9.1, (-1 : Int32)) else ((fxX6_isWithin N z (1000000 : Int32) o9.1).bind fun o12 => if o12.2 = 0 then some (o12.1, (-1 : Int32)) else ((gR o12.1 0 6 2).bind fun v15 => (aR o12.1 v15 (Int32.ofNat i)).bind fun v17 => (kO o12.1 v17 0).bind fun _ => (fxX0_locate N v17 x.toInt64 y.toInt64 z.toInt64 q.toInt64 o12.1).bind fun o19 => some (o19.1, o19.2))))) else some (hC C, (-1 : Int32))) := by
      unfold fxX6_in
      rw [slot_in hi, Option.bind_some]
      dsimp only
      rw [if_neg no1]
    have m0 : mxX7_in N (Int32.ofNat i) x y z q s = if q < (1 : Int32) then some (s, (-1 : Int32)) else (if (1000 : Int32) < q then some (s, (-1 : Int32)) else ((mxX7_isFar N x s).bind fun o6 => if o6.2 = 0 then ((mxX7_isFar N y o6.1).bind fun o9 => if o9.2 = 0 then ((mxX7_isFar N z o9.1).bind fun o12 => if o12.2 = 0 then ((mxX7_owns N (Int32.ofNat i) (0 : Int32) o12.1).bind fun o15 => (mxX7_points N x.toInt64 y.toInt64 z.toInt64 q.toInt64 o15).bind fun o17 => (rA o17 5 (Int32.ofNat i)).bind fun v19 => (mxX7_where N v19 (0 : Int32) o17).bind fun o21 => some (o21.1, o21.2)) else some (o12.1, (-1 : Int32))) else some (o9.1, (-1 : Int32))) else some (o6.1, (-1 : Int32)))) := by
      unfold mxX7_in
      rw [solid_in hi, Option.bind_some]
      dsimp only
      rw [if_neg (by decide)]
    by_cases q1 : q < 1
    · exact fin (-1) s fi.rf (c0.trans (if_pos q1)) (m0.trans (if_pos q1))
    rw [if_neg q1] at c0 m0
    by_cases q2 : (1000 : Int32) < q
    · exact fin (-1) s fi.rf (c0.trans (if_neg (Int32.not_le.mpr q2))) (m0.trans (if_pos q2))
    rw [if_pos (Int32.not_lt.mp q2)] at c0
    rw [if_neg q2] at m0
    have far : ∀ v : Int32, (v < -1000000 ∨ 1000000 < v) ∨ (¬ v < -1000000 ∧ ¬ 1000000 < v) := fun v => by
      by_cases w1 : v < -1000000
      · exact .inl (.inl w1)
      · by_cases w2 : 1000000 < v
        · exact .inl (.inr w2)
        · exact .inr ⟨w1, w2⟩
    rcases far x with wx | ⟨wx1, wx2⟩
    · exact fin (-1) s fi.rf (c0.trans (bndE (win_no wx) rfl)) (m0.trans (bndE (fa_no wx) rfl))
    have c1 := c0.trans (bndE (win_in wx1 wx2) rfl)
    have m1 := m0.trans (bndE (fa_in wx1 wx2) rfl)
    dsimp only at c1 m1
    rw [if_neg (by decide)] at c1
    rw [if_pos rfl] at m1
    rcases far y with wy | ⟨wy1, wy2⟩
    · exact fin (-1) s fi.rf (c1.trans (bndE (win_no wy) rfl)) (m1.trans (bndE (fa_no wy) rfl))
    have c2 := c1.trans (bndE (win_in wy1 wy2) rfl)
    have m2 := m1.trans (bndE (fa_in wy1 wy2) rfl)
    dsimp only at c2 m2
    rw [if_neg (by decide)] at c2
    rw [if_pos rfl] at m2
    rcases far z with wz | ⟨wz1, wz2⟩
    · exact fin (-1) s fi.rf (c2.trans (bndE (win_no wz) rfl)) (m2.trans (bndE (fa_no wz) rfl))
    have c3 := c2.trans (bndE (win_in wz1 wz2) rfl)
    have m3 := m2.trans (bndE (fa_in wz1 wz2) rfl)
    dsimp only at c3 m3
    rw [if_neg (by decide)] at c3
    rw [if_pos rfl] at m3
    have bx := abs_of (x := x) (M := 1000000) (a := -1000000) (b := 1000000) (by decide) (by decide) wx1 wx2
    have by' := abs_of (x := y) (M := 1000000) (a := -1000000) (b := 1000000) (by decide) (by decide) wy1 wy2
    have bz := abs_of (x := z) (M := 1000000) (a := -1000000) (b := 1000000) (by decide) (by decide) wz1 wz2
    have bq : q.toInt.natAbs ≤ 1000 := by
      rw [Int32.lt_iff_toInt_lt] at q1 q2
      have o1 : (1 : Int32).toInt = 1 := rfl
      have o2 : (1000 : Int32).toInt = 1000 := rfl
      omega
    obtain ⟨hb, -, b0, n2⟩ := bodyOf ci hi
    obtain ⟨c', -, -, g3, -⟩ := jx.2.1
    obtain ⟨m, k, h4, h5, ok⟩ := g3 i hi
    obtain ⟨s1, s', F, E, e1, K, fr1, -, -, -, own⟩ := x_owns (N := N) (g := 0) (by omega) hi (by omega) h4 h5 ok
    obtain ⟨R, rf, ρ, br'⟩ := body_ref jx hi h4 h5 ok K
    have ws := ws_of (s := s) br' K.2.2.2.2.2.2.2.1.1 fr1 own K.2.2.2.2.2.2.1 x.toInt64 y.toInt64 z.toInt64 q.toInt64
    have kd := ok.2.2.2.2
    obtain ⟨v, l1, l2⟩ := w_loc (N := N) (by omega) hb ws (okP_k ok) br'.2.1.1 (fun w => by
      rcases kd with ⟨z1, z2⟩ | ⟨-, z2, -⟩ | ⟨-, z2, -⟩
      · omega
      · omega
      · omega) (fun w => kn_F ok K w) (bt32 (a := x) rfl bx) (bt32 (a := y) rfl by') (bt32 (a := z) rfl bz) (bt32 (a := q) rfl bq)
    have e1' : mxX7_owns N (Int32.ofNat i) 0 s = some s' := e1
    have f0 : fi s s' := (K.1.fi (by decide)).tr (fr1.fi (by decide))
    have f2 : fi s (ptJ s' x.toInt64 y.toInt64 z.toInt64 q.toInt64) := f0.tr ((ptJ_fr _ _ _ _ _).fi (by decide))
    have r5 : rA (ptJ s' x.toInt64 y.toInt64 z.toInt64 q.toInt64) 5 (Int32.ofNat i) = some (Int32.ofNat k) := by
      rw [rA8 rfl hi, f2.2 5 (by omega), h5]
    refine fin v _ f2 (c3.trans (bndE (gR_6_2 x06) (bndE (aR3 hi (ci.1.2.1 i hi)) (bndE (kO_0 b0) (bndE l1 rfl))))) (m3.trans (bndE e1' (bndE (a := ptJ s' x.toInt64 y.toInt64 z.toInt64 q.toInt64) rfl (bndE r5 (bndE l2 rfl)))))
