/-- what the class's slit is known for while it is reckoned -/
def WIs (A : Nat → V3) (m : Nat) (done : V3 → Prop) (C : cS) (b : Nat) : Prop := (qJ C (b + 9) 1 = 0 ∧ ∀ v, ¬ done v) ∨ (WI A m done (qJ C (b + 9) 0).toInt (qJ C (b + 9) 1).toInt ∧ gc 1 (qJ C (b + 9) 0).toInt (qJ C (b + 9) 1).toInt)
theorem WIs_mo {A : Nat → V3} {m b : Nat} {d d' : V3 → Prop} {C : cS} (h : WIs A m d C b) (e : ∀ v, d' v → d v) : WIs A m d' C b := by
  rcases h with ⟨h1, h2⟩ | ⟨h1, h2⟩
  · exact .inl ⟨h1, fun v hv => h2 v (e v hv)⟩
  · exact .inr ⟨WI_mo h1 e, h2⟩
theorem d_put26 {N b : Nat} {x y : Int64} {X : Int} {C : cS} (hN : 100000 < N) (hb : isB b) (bx : bv x X 100000000) (y0 : 0 < y.toInt) : ∃ C', fxX0_offerSlit_26 N b x y (hC C) = some (hC C') ∧ cf (fun i => i = b + 9) C C' ∧ 0 ≤ (qJ C' (b + 9) 0).toInt ∧ 0 < (qJ C' (b + 9) 1).toInt ∧ X * X * (qJ C' (b + 9) 1).toInt = (qJ C' (b + 9) 0).toInt * y.toInt ∧ gc 1 (qJ C' (b + 9) 0).toInt (qJ C' (b + 9) 1).toInt := by
  obtain ⟨h0, -, -, -, -, -, h9⟩ := isB_sh hb
  have bxx := bv_mul bx bx (by decide)
  obtain ⟨g, C', e, c, gg, g0, j0, j1⟩ := d_rput (N := N) (p := b + 9) (x := x * x) (y := y) (s := C) hN h9 (by rw [bxx.1]; have := bxx.2; omega) y0
  have x0 : 0 ≤ (x * x).toInt := by
    rw [bxx.1]
    exact sq_nn X
  have q0 : (x * x / g).toInt = X * X / g.toInt := by rw [(rem64 x0 g0).2, bxx.1]
  have q1 := (rem64 (show 0 ≤ y.toInt by omega) g0).2
  rw [bxx.1] at gg
  obtain ⟨l1, l2, l3, l4⟩ := low_of gg g0
  refine ⟨C', ?_, c, ?_, ?_, ?_, ?_⟩
  · unfold fxX0_offerSlit_26
    exact bndE (gR_0_8 h0) (bndE (kO_4 h9) (bndE e rfl))
  · rw [j0, q0]
    exact Int.ediv_nonneg (sq_nn X) (by omega)
  · rw [j1, q1]
    exact pos_of_mul g0 (by rw [← l4]; exact y0)
  · rw [j0, j1, q0, q1]
    exact l1
  · rw [j0, j1, q0, q1]
    exact l2
/-- offerSlit -/
theorem d_offer {N b m : Nat} {x y : Int64} {X gw : Int} {A : Nat → V3} {done d : V3 → Prop} {w : V3} {C : cS} (hN : 100000 < N) (hb : isB b) (bx : bv x X 100000000) (ey : y.toInt = vd w w) (c : SPN A m w gw) (eX : gw * gw = X * X) (sim : ∀ v, d v → SM A m w gw v) (st : WIs A m done C b) : ∃ C', fxX0_offerSlit N b x y (hC C) = some (hC C') ∧ cf (fun i => i = b + 9) C C' ∧ WIs A m (fun v => done v ∨ d v) C' b := by
  obtain ⟨h0, -, -, -, -, -, h9⟩ := isB_sh hb
  have y0 : 0 < y.toInt := by
    rw [ey]
    exact vd_pos c.1
  obtain ⟨C', e1, c1, t0, u0, eq, g1⟩ := d_put26 (N := N) (C := C) hN hb bx y0
  rw [← eX, ey] at eq
  have bxx := bv_mul bx bx (by decide)
  rcases st with ⟨z, no⟩ | ⟨wi, gz⟩
  · refine ⟨C', ?_, c1, .inr ⟨?_, g1⟩⟩
    · unfold fxX0_offerSlit
      exact bndE (gR_0_8 h0) (bndE (gJ_4_1 h9) ((if_pos z).trans e1))
    · exact WI_mo (WI_first c sim t0 u0 eq) (fun v hv => hv.resolve_left (no v))
  · have nz : ¬ (qJ C (b + 9) 1 = 0) := fun z => by
      have := wi.2.1
      rw [z] at this
      exact absurd this (by decide)
    have x0 : 0 ≤ (x * x).toInt := by
      rw [bxx.1]
      exact sq_nn X
    have ab := c_isAbove (N := N) (p := b + 9) (x := x * x) (y := y) (s := C) hN h9 wi.1 wi.2.1 x0 y0
    rw [bxx.1, ey, ← eX] at ab
    by_cases lt : gw * gw * (qJ C (b + 9) 1).toInt < (qJ C (b + 9) 0).toInt * vd w w
    · rw [if_pos lt] at ab
      refine ⟨C', ?_, c1, .inr ⟨WI_new wi c sim lt t0 u0 eq, g1⟩⟩
      unfold fxX0_offerSlit
      exact bndE (gR_0_8 h0) (bndE (gJ_4_1 h9) ((if_neg nz).trans (bndE (gR_0_8 h0) (bndE (kO_4 h9) (bndE ab ((if_neg no1).trans e1))))))
    · rw [if_neg lt] at ab
      refine ⟨C, ?_, cf.rf, .inr ⟨WI_old wi c sim lt, gz⟩⟩
      unfold fxX0_offerSlit
      exact bndE (gR_0_8 h0) (bndE (gJ_4_1 h9) ((if_neg nz).trans (bndE (gR_0_8 h0) (bndE (kO_4 h9) (bndE ab (if_pos rfl))))))
theorem c_pb122 {N : Nat} {o k : Int64} {h : mh} : fxX0_isPassedBy_122 N o k h = some (h, if o.toInt < 0 ∨ 0 < k.toInt then 0 else 1) := by
  unfold fxX0_isPassedBy_122
  by_cases c : o < 0
  · rw [if_pos c]
    rw [Int64.lt_iff_toInt_lt, z64] at c
    rw [if_pos (.inl c)]
  · rw [if_neg c]
    rw [Int64.lt_iff_toInt_lt, z64] at c
    by_cases c2 : 0 < k
    · rw [if_pos c2]
      rw [Int64.lt_iff_toInt_lt, z64] at c2
      rw [if_pos (.inr c2)]
    · rw [if_neg c2]
      rw [Int64.lt_iff_toInt_lt, z64] at c2
      rw [if_neg (by omega)]
/-- isPassedBy -/
theorem d_passed {N b e f g : Nat} {x y z : Int64} {dr n1 n2 : V3} {C : cS} (hb : isB b) (he : e < 66) (hf : f < 44) (hg : g < 44) (ef : qA C (b + 8) (4 * e + 2) = Int32.ofNat f) (eg : qA C (b + 8) (4 * e + 3) = Int32.ofNat g) (e1 : bN C b f = n1) (e2 : bN C b g = n2) (bn1 : bd3 n1 81608) (bn2 : bd3 n2 81608) (b1 : bv x dr.1 200) (b2 : bv y dr.2.1 200) (b3 : bv z dr.2.2 200) : (PB n1 n2 dr ∧ fxX0_isPassedBy N b (Int32.ofNat e) x y z (hC C) = some (hC C, 1)) ∨ (¬ PB n1 n2 dr ∧ fxX0_isPassedBy N b (Int32.ofNat e) x y z (hC C) = some (hC C, 0)) := by
  obtain ⟨h0, -, h5, -, -, h8, -⟩ := isB_sh hb
  have pl : ∀ k, k < 176 → aI (hC C) (b + 5) (Int32.ofNat k) = some (qA C (b + 5) k) := fun k hk => aI_N h5 hk (by decide)
  obtain ⟨c1, c2, c3⟩ := i_c4s e
  obtain ⟨f1, f2, -⟩ := i_c4s f
  obtain ⟨g1, g2, -⟩ := i_c4s g
  subst e1
  subst e2
  have O := bv_dot (x := bN C b f) (y := dr) (bt32 (a := qA C (b + 5) (4 * f)) rfl bn1.1) (bt32 (a := qA C (b + 5) (4 * f + 1)) rfl bn1.2.1) (bt32 (a := qA C (b + 5) (4 * f + 2)) rfl bn1.2.2) b1 b2 b3 (by decide)
  have B := bv_dot (x := bN C b g) (y := dr) (bt32 (a := qA C (b + 5) (4 * g)) rfl bn2.1) (bt32 (a := qA C (b + 5) (4 * g + 1)) rfl bn2.2.1) (bt32 (a := qA C (b + 5) (4 * g + 2)) rfl bn2.2.2) b1 b2 b3 (by decide)
  have st : fxX0_isPassedBy N b (Int32.ofNat e) x y z (hC C) = if (0 : Int64) < (qA C (b + 5) (4 * f)).toInt64 * x + (qA C (b + 5) (4 * f + 1)).toInt64 * y + (qA C (b + 5) (4 * f + 2)).toInt64 * z then fxX0_isPassedBy_122 N ((qA C (b + 5) (4 * f)).toInt64 * x + (qA C (b + 5) (4 * f + 1)).toInt64 * y + (qA C (b + 5) (4 * f + 2)).toInt64 * z) ((qA C (b + 5) (4 * g)).toInt64 * x + (qA C (b + 5) (4 * g + 1)).toInt64 * y + (qA C (b + 5) (4 * g + 2)).toInt64 * z) (hC C) else (if (0 : Int64) ≤ (qA C (b + 5) (4 * g)).toInt64 * x + (qA C (b + 5) (4 * g + 1)).toInt64 * y + (qA C (b + 5) (4 * g + 2)).toInt64 * z then some (hC C, (1 : Int32)) else fxX0_isPassedBy_122 N ((qA C (b + 5) (4 * f)).toInt64 * x + (qA C (b + 5) (4 * f + 1)).toInt64 * y + (qA C (b + 5) (4 * f + 2)).toInt64 * z) ((qA C (b + 5) (4 * g)).toInt64 * x + (qA C (b + 5) (4 * g + 1)).toInt64 * y + (qA C (b + 5) (4 * g + 2)).toInt64 * z) (hC C)) := by
    unfold fxX0_isPassedBy
    rw [c2, c3]
    refine bndE (gR_0_7 h0) (bndE (aI_N h8 (show 4 * e + 2 < 264 by omega) (by decide)) (bndE (gR_0_7 h0) (bndE (aI_N h8 (show 4 * e + 3 < 264 by omega) (by decide)) ?_)))
    rw [ef, eg, f1, f2, g1, g2, i_c4, i_c4]
    exact bndE (gR_0_3 h0) (bndE (pl _ (by omega)) (bndE (gR_0_3 h0) (bndE (pl _ (by omega)) (bndE (gR_0_3 h0) (bndE (pl _ (by omega)) (bndE (gR_0_3 h0) (bndE (pl _ (by omega)) (bndE (gR_0_3 h0) (bndE (pl _ (by omega)) (bndE (gR_0_3 h0) (bndE (pl _ (by omega)) rfl)))))))))))
  have O1 := O.1
  have B1 := B.1
  generalize (qA C (b + 5) (4 * f)).toInt64 * x + (qA C (b + 5) (4 * f + 1)).toInt64 * y + (qA C (b + 5) (4 * f + 2)).toInt64 * z = p at st O1
  generalize (qA C (b + 5) (4 * g)).toInt64 * x + (qA C (b + 5) (4 * g + 1)).toInt64 * y + (qA C (b + 5) (4 * g + 2)).toInt64 * z = q at st B1
  unfold PB
  by_cases c : 0 < p
  · rw [if_pos c, c_pb122] at st
    rw [Int64.lt_iff_toInt_lt, z64] at c
    by_cases c2 : p.toInt < 0 ∨ 0 < q.toInt
    · rw [if_pos c2] at st
      exact .inr ⟨by omega, st⟩
    · rw [if_neg c2] at st
      exact .inl ⟨by omega, st⟩
  · rw [if_neg c] at st
    rw [Int64.lt_iff_toInt_lt, z64] at c
    by_cases d : 0 ≤ q
    · rw [if_pos d] at st
      rw [Int64.le_iff_toInt_le, z64] at d
      exact .inl ⟨by omega, st⟩
    · rw [if_neg d, c_pb122] at st
      rw [Int64.le_iff_toInt_le, z64] at d
      by_cases c2 : p.toInt < 0 ∨ 0 < q.toInt
      · rw [if_pos c2] at st
        exact .inr ⟨by omega, st⟩
      · rw [if_neg c2] at st
        exact .inl ⟨by omega, st⟩
/-- a body of KIND 4 in the class, with what is known of it -/
def CW (C : cS) (b m F E : Nat) (A nf : Nat → V3) (df : Nat → Int) (pe qe fe ge : Nat → Nat) : Prop := (m ≤ 24 ∧ F ≤ 44 ∧ E ≤ 66) ∧ (qI C (b + 1) 0 = Int32.ofNat m ∧ qI C b 2 = Int32.ofNat F ∧ qI C b 6 = Int32.ofNat E) ∧ (∀ j, j < m → pc C (b + 1) j = A j ∧ bd3 (A j) 100) ∧ (∀ f, f < F → bN C b f = nf f ∧ bD C b f = df f ∧ bd3 (nf f) 81608) ∧ (∀ e, e < E → qA C (b + 8) (4 * e) = Int32.ofNat (pe e) ∧ qA C (b + 8) (4 * e + 1) = Int32.ofNat (qe e) ∧ qA C (b + 8) (4 * e + 2) = Int32.ofNat (fe e) ∧ qA C (b + 8) (4 * e + 3) = Int32.ofNat (ge e)) ∧ WB A m F E nf df pe qe fe ge
theorem CW_cf {C C' : cS} {b m F E : Nat} {A nf : Nat → V3} {df : Nat → Int} {pe qe fe ge : Nat → Nat} (h : CW C b m F E A nf df pe qe fe ge) (c : cf (fun i => i = b + 9) C C') : CW C' b m F E A nf df pe qe fe ge := by
  obtain ⟨h1, ⟨h2, h3, h4⟩, h5, h6, h7, h8⟩ := h
  have pe' := pc_cf c (p := b + 1) (fun i a b w => by omega)
  refine ⟨h1, ⟨by rw [c.I (fun w => by omega)]; exact h2, by rw [c.I (fun w => by omega)]; exact h3, by rw [c.I (fun w => by omega)]; exact h4⟩, fun j hj => by rw [pe']; exact h5 j hj, fun f hf => ?_, fun e he => by rw [c.A (fun w => by omega)]; exact h7 e he, h8⟩
  unfold bN bD
  rw [c.A (fun w => by omega)]
  exact h6 f hf
/-- offerEdges -/
theorem d_offerE {N b m F E e k : Nat} {A nf : Nat → V3} {df : Nat → Int} {pe qe fe ge : Nat → Nat} {done : V3 → Prop} {C : cS} (hN : 100000 < N) (hb : isB b) (cw : CW C b m F E A nf df pe qe fe ge) (he : e < E) (hk : k < E) (st : WIs A m done C b) : OK (fun h => ∃ C', h = hC C' ∧ cf (fun i => i = b + 9) C C' ∧ WIs A m (fun v => done v ∨ CE A nf pe qe fe ge e k v) C' b) (fxX0_offerEdges N b (Int32.ofNat e) (Int32.ofNat k) (hC C)) := by
  obtain ⟨h0, hp, h5, -, -, h8, -⟩ := isB_sh hb
  obtain ⟨hp3, d1, d2, d3⟩ := pt_sh hp
  obtain ⟨⟨m24, F44, E66⟩, -, pts, pls, rows, wb⟩ := cw
  obtain ⟨⟨a1, a2, a3, a4⟩, -⟩ := wb.2.2.2.1 e he
  obtain ⟨⟨b1, b2, b3, b4⟩, -⟩ := wb.2.2.2.1 k hk
  obtain ⟨eu, ew, ef, eg⟩ := rows e he
  obtain ⟨eu', ew', ef', eg'⟩ := rows k hk
  have ed : ∀ k, k < 264 → aI (hC C) (b + 8) (Int32.ofNat k) = some (qA C (b + 8) k) := fun k hk => aI_N h8 hk (by decide)
  have x1 : ∀ k, k < 24 → aI (hC C) (b + 1 + 1) (Int32.ofNat k) = some (qA C (b + 1 + 1) k) := fun k hk => aI_N d1 hk (by decide)
  have x2 : ∀ k, k < 24 → aI (hC C) (b + 1 + 2) (Int32.ofNat k) = some (qA C (b + 1 + 2) k) := fun k hk => aI_N d2 hk (by decide)
  have x3 : ∀ k, k < 24 → aI (hC C) (b + 1 + 3) (Int32.ofNat k) = some (qA C (b + 1 + 3) k) := fun k hk => aI_N d3 hk (by decide)
  have f1 : ∀ j, j < m → (qA C (b + 1 + 1) j).toInt = (A j).1 := fun j hj => congrArg (fun v : V3 => v.1) (pts j hj).1
  have f2 : ∀ j, j < m → (qA C (b + 1 + 2) j).toInt = (A j).2.1 := fun j hj => congrArg (fun v : V3 => v.2.1) (pts j hj).1
  have f3 : ∀ j, j < m → (qA C (b + 1 + 3) j).toInt = (A j).2.2 := fun j hj => congrArg (fun v : V3 => v.2.2) (pts j hj).1
  have df32 : ∀ (x y : Int32) (X Y : Int), x.toInt = X → y.toInt = Y → X.natAbs ≤ 100 → Y.natAbs ≤ 100 → bv (x - y).toInt64 (X - Y) 200 := fun x y X Y hx hy bx bY => bt32 (by rw [sub32 (by omega) (by omega), hx, hy]) (by omega)
  have g1 : ∀ i j, i < m → j < m → bv (qA C (b + 1 + 1) i - qA C (b + 1 + 1) j).toInt64 (vs (A i) (A j)).1 200 := fun i j hi hj => df32 _ _ _ _ (f1 i hi) (f1 j hj) (pts i hi).2.1 (pts j hj).2.1
  have g2 : ∀ i j, i < m → j < m → bv (qA C (b + 1 + 2) i - qA C (b + 1 + 2) j).toInt64 (vs (A i) (A j)).2.1 200 := fun i j hi hj => df32 _ _ _ _ (f2 i hi) (f2 j hj) (pts i hi).2.2.1 (pts j hj).2.2.1
  have g3 : ∀ i j, i < m → j < m → bv (qA C (b + 1 + 3) i - qA C (b + 1 + 3) j).toInt64 (vs (A i) (A j)).2.2 200 := fun i j hi hj => df32 _ _ _ _ (f3 i hi) (f3 j hj) (pts i hi).2.2.2 (pts j hj).2.2.2
  have p1 := g1 (qe e) (pe e) a2 (by omega)
  have p2 := g2 (qe e) (pe e) a2 (by omega)
  have p3 := g3 (qe e) (pe e) a2 (by omega)
  have r1 := g1 (qe k) (pe k) b2 (by omega)
  have r2 := g2 (qe k) (pe k) b2 (by omega)
  have r3 := g3 (qe k) (pe k) b2 (by omega)
  have skip : ¬ (∃ v, CE A nf pe qe fe ge e k v) → OK (fun h => ∃ C', h = hC C' ∧ cf (fun i => i = b + 9) C C' ∧ WIs A m (fun v => done v ∨ CE A nf pe qe fe ge e k v) C' b) (some (hC C)) := fun no => OK_s ⟨C, rfl, cf.rf, WIs_mo st (fun v hv => hv.resolve_right (fun c => no ⟨v, c⟩))⟩
  obtain ⟨c1, -, -⟩ := i_c4s e
  obtain ⟨k1, -, -⟩ := i_c4s k
  unfold fxX0_offerEdges
  rw [c1, k1, i_c4, i_c4]
  refine OK_b (gR_0_7 h0) (OK_b (ed _ (by omega)) (OK_b (gR_0_7 h0) (OK_b (ed _ (by omega)) (OK_b (gR_0_7 h0) (OK_b (ed _ (by omega)) (OK_b (gR_0_7 h0) (OK_b (ed _ (by omega)) ?_)))))))
  rw [eu, ew, eu', ew']
  refine OK_b (gR_0_1 h0) (OK_b (gR_3_1 hp3) (OK_b (x1 (qe e) (by omega)) (OK_b (gR_0_1 h0) (OK_b (gR_3_1 hp3) (OK_b (x1 (pe e) (by omega)) ?_)))))
  refine OK_b (gR_0_1 h0) (OK_b (gR_3_2 hp3) (OK_b (x2 (qe e) (by omega)) (OK_b (gR_0_1 h0) (OK_b (gR_3_2 hp3) (OK_b (x2 (pe e) (by omega)) ?_)))))
  refine OK_b (gR_0_1 h0) (OK_b (gR_3_3 hp3) (OK_b (x3 (qe e) (by omega)) (OK_b (gR_0_1 h0) (OK_b (gR_3_3 hp3) (OK_b (x3 (pe e) (by omega)) ?_)))))
  refine OK_b (gR_0_1 h0) (OK_b (gR_3_1 hp3) (OK_b (x1 (qe k) (by omega)) (OK_b (gR_0_1 h0) (OK_b (gR_3_1 hp3) (OK_b (x1 (pe k) (by omega)) ?_)))))
  refine OK_b (gR_0_1 h0) (OK_b (gR_3_2 hp3) (OK_b (x2 (qe k) (by omega)) (OK_b (gR_0_1 h0) (OK_b (gR_3_2 hp3) (OK_b (x2 (pe k) (by omega)) ?_)))))
  refine OK_b (gR_0_1 h0) (OK_b (gR_3_3 hp3) (OK_b (x3 (qe k) (by omega)) (OK_b (gR_0_1 h0) (OK_b (gR_3_3 hp3) (OK_b (x3 (pe k) (by omega)) ?_)))))
  refine OK_b (kO_0 h0) ?_
  rcases d_passed (N := N) (e := e) (C := C) hb (by omega) (by omega) (by omega) ef eg (pls _ a3).1 (pls _ a4).1 (pls _ a3).2.2 (pls _ a4).2.2 r1 r2 r3 with ⟨pb1, q1⟩ | ⟨no1', q1⟩
  · refine OK_b q1 (OK_n no1 (OK_b (kO_0 h0) ?_))
    rcases d_passed (N := N) (e := k) (C := C) hb (by omega) (by omega) (by omega) ef' eg' (pls _ b3).1 (pls _ b4).1 (pls _ b3).2.2 (pls _ b4).2.2 p1 p2 p3 with ⟨pb2, q2⟩ | ⟨no2, q2⟩
    · refine OK_b q2 (OK_n no1 (OK_b (gR_0_1 h0) (OK_b (kO_3 hp3) (OK_b (c_along hp (by decide) (show pe e < 24 by omega)) (OK_b (gR_0_1 h0) (OK_b (kO_3 hp3) (OK_b (c_along hp (by decide) (show pe k < 24 by omega)) ?_)))))))
      have n1 := bv_sub (bv_mul p2 r3 (by decide)) (bv_mul p3 r2 (by decide)) (by decide)
      have n2 := bv_sub (bv_mul p3 r1 (by decide)) (bv_mul p1 r3 (by decide)) (by decide)
      have n3 := bv_sub (bv_mul p1 r2 (by decide)) (bv_mul p2 r1 (by decide)) (by decide)
      have bd : ∀ j, j < m → bd3 (pc C (b + 1) j) 100 := fun j hj => by
        rw [(pts j hj).1]
        exact (pts j hj).2
      have v1 := hv_bv (s := C) (p := b + 1) (j := pe e) (m := vx (vs (A (qe e)) (A (pe e))) (vs (A (qe k)) (A (pe k)))) n1 n2 n3 (bd _ (by omega)) (by decide)
      have v2 := hv_bv (s := C) (p := b + 1) (j := pe k) (m := vx (vs (A (qe e)) (A (pe e))) (vs (A (qe k)) (A (pe k)))) n1 n2 n3 (bd _ (by omega)) (by decide)
      have v3 := bv_le (bv_sub v1 v2 (by decide)) (show _ ≤ 100000000 by decide)
      have sq := bv_vd (x := vx (vs (A (qe e)) (A (pe e))) (vs (A (qe k)) (A (pe k)))) n1 n2 n3 (by decide)
      rw [(pts _ (show pe e < m by omega)).1, (pts _ (show pe k < m by omega)).1] at v3
      by_cases z : vd (vx (vs (A (qe e)) (A (pe e))) (vs (A (qe k)) (A (pe k)))) (A (pe e)) - vd (vx (vs (A (qe e)) (A (pe e))) (vs (A (qe k)) (A (pe k)))) (A (pe k)) = 0
      · refine OK_p (pos64.2.mpr (v3.1.trans z)) (skip (fun ⟨v, cv, _, _, c⟩ => c ?_))
        rw [cv]
        exact z
      · refine OK_n (fun w => z ?_) (OK_b c_steep (OK_b (kO_0 h0) ?_))
        · rw [← v3.1]
          exact pos64.2.mp w
        · obtain ⟨gw, sp, eX⟩ := edge_spn wb he hk (v := vx (vs (A (qe e)) (A (pe e))) (vs (A (qe k)) (A (pe k)))) ⟨rfl, pb1, pb2, z⟩
          obtain ⟨C', e1, c', st'⟩ := d_offer (N := N) (d := CE A nf pe qe fe ge e k) hN hb v3 sq.1 sp eX (fun v hv => by
            rw [hv.1]
            exact SM_rf sp) st
          exact OK_b e1 (OK_s ⟨C', rfl, c', st'⟩)
    · exact OK_b q2 (OK_p rfl (skip (fun ⟨v, _, _, c, _⟩ => no2 c)))
  · exact OK_b q1 (OK_p rfl (skip (fun ⟨v, _, c, _⟩ => no1' c)))
