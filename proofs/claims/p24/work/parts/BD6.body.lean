theorem ex_cg {P P' : Nat → V3} {c a : Nat} (ha : a < c) (e : ∀ j, j < c → P' j = P j) (h : ex P c a) : ex P' c a := by
  obtain ⟨u, hu⟩ := h
  exact ⟨u, fun k hk ka => by rw [e k hk, e a ha]; exact hu k hk ka⟩
theorem rgF_cg {P P' : Nat → V3} {n r : Nat} {m : V3} {d : Int} {ρ : Nat → Nat} (e : ∀ j, j < n → P' j = P j) (h : rgF P n m d r ρ) : rgF P' n m d r ρ := by
  obtain ⟨c, l, g, c1, c2, c3, c4, c5, c6, c7, c8, c9, c10, c11⟩ := h
  have el : ∀ j, j < c → P' (l j) = P (l j) := fun j hj => e _ (c2 j hj).1
  have gs : ∀ j, j ≤ r → g j < c := fun j hj => by
    by_cases q : j = r
    · rw [q, c11]
      omega
    · exact (c8 j (by omega)).2.1
  refine ⟨c, l, g, c1, fun j hj => ⟨(c2 j hj).1, by rw [el j hj]; exact (c2 j hj).2⟩, c3, fun i hi ei => c4 i hi (by rw [← e i hi]; exact ei), c5, c6, c7, fun j hj => ⟨(c8 j hj).1, (c8 j hj).2.1, ex_cg (c8 j hj).2.1 el (c8 j hj).2.2⟩, c9, fun j hj k hk ka => ?_, c11⟩
  have := c10 j hj k hk ka
  dsimp only at this ⊢
  rw [el k hk, el _ (gs j (by omega)), el _ (gs (j + 1) (by omega))]
  exact this
theorem nxr_cg {r : Nat} {ρ ρ' : Nat → Nat} (e : ∀ j, j < r → ρ j = ρ' j) {j : Nat} (hj : j < r) : nxr r ρ j = nxr r ρ' j := by
  unfold nxr
  by_cases c : j + 1 < r
  · rw [if_pos c, if_pos c]
    exact e _ c
  · rw [if_neg c, if_neg c]
    exact e _ (by omega)
theorem pDn_cg {F : Nat} {rf rf' : Nat → Nat} {ρ ρ' : Nat → Nat → Nat} (e : ∀ f, f < F → rf f = rf' f ∧ ∀ j, j < rf f → ρ f j = ρ' f j) : pDn F rf ρ F 0 = pDn F rf' ρ' F 0 := by
  have go : ∀ f j p q, plc F rf ρ f j p q ↔ plc F rf' ρ' f j p q := fun f j p q => by
    unfold plc
    constructor
    · intro ⟨a1, a2, a3, a4⟩
      obtain ⟨e1, e2⟩ := e f a1
      rw [nxr_cg e2 a2, e2 j a2] at a4
      rw [← e1]
      exact ⟨a1, a2, a3, a4⟩
    · intro ⟨a1, a2, a3, a4⟩
      obtain ⟨e1, e2⟩ := e f a1
      rw [← e1] at a2 a4
      rw [nxr_cg e2 a2, e2 j a2]
      exact ⟨a1, a2, a3, a4⟩
  funext f p q
  unfold pDn
  refine propext ⟨fun ⟨j, a, b⟩ => ⟨j, (go f j p q).mp a, b⟩, fun ⟨j, a, b⟩ => ⟨j, (go f j p q).mpr a, b⟩⟩
/-- a body of the class is what the reference knows of the slot: planes, rings, edges -/
def BR (C : cS) (b : Nat) (s' : mS) (g m k F E : Nat) (R rf : Nat → Nat) (ρ : Nat → Nat → Nat) : Prop := (m ≤ 24 ∧ k ≤ 4 ∧ F ≤ 44 ∧ E ≤ 66) ∧ (qI C b 0 = Int32.ofNat k ∧ qI C (b + 1) 0 = Int32.ofNat m ∧ qI C b 2 = Int32.ofNat F ∧ qI C b 6 = Int32.ofNat E) ∧ (∀ j, j < m → pc C (b + 1) j = hp s' j ∧ bd3 (hp s' j) 100) ∧ (∀ f, f < F → bN C b f = fN s' (64 * g + f) ∧ bD C b f = fD s' (64 * g + f) ∧ bd3 (bN C b f) 81608) ∧ (0 < F → RZ C b m F R rf ρ) ∧ tbF (hp s') m s' g F rf ρ ∧ (∀ e, e < E → qA C (b + 8) (4 * e) = s'.2.2.1 35 (80 * g + e) ∧ qA C (b + 8) (4 * e + 1) = s'.2.2.1 36 (80 * g + e) ∧ qA C (b + 8) (4 * e + 2) = s'.2.2.1 37 (80 * g + e) ∧ qA C (b + 8) (4 * e + 3) = s'.2.2.1 38 (80 * g + e)) ∧ okP (hp s') m k
theorem body_ref {C : cS} {s s' : mS} {bo x : Nat → Nat} {c i g m k F E : Nat} (jx : JX C s bo x c) (hi : i < 8) (h4 : s.2.2.1 4 i = Int32.ofNat m) (h5 : s.2.2.1 5 i = Int32.ofNat k) (ok : okP (cP s i) m k) (kn : knO s s' i g m k F E) : ∃ R rf ρ, BR C (bo (1 + i)) s' g m k F E R rf ρ := by
  obtain ⟨-, -, -, -, -, hpo, hpe, tb, k3, k3', F44, comp, e34, E80, ek2, ekn, -⟩ := kn
  have ok' : okP (hp s') m k := okP_congr hpe ok
  have k4 := okP_k ok
  obtain ⟨m24, bd, ho, hex, kd⟩ := ok'
  obtain ⟨m', k', q1, q2, q3, q4, q5, q6, q7⟩ := jx.2.2.2.2.2.1 i hi
  have em : m' = m := i_inj (by omega) (by omega) (q3.symm.trans h4)
  have ek : k' = k := i_inj (by omega) (by omega) (q4.symm.trans h5)
  subst em
  subst ek
  obtain ⟨hb, ⟨kd', n, Fc, Ec, R, h1, h2, h3, h4', h5', h6, h7, h8, h9, h10, h11, fb, -⟩, b0, n2⟩ := bodyOf jx.1 hi
  have en : n = m' := i_inj (by omega) (by omega) (h6.symm.trans q5)
  have ekd : kd' = k' := i_inj (by omega) (by omega) (h5'.symm.trans q6)
  subst en
  subst ekd
  have pe : ∀ j, j < n → hp s' j = pc C (bo (1 + i) + 1) j := fun j hj => (hpe j hj).trans (q7 j hj).symm
  obtain ⟨-, tbC, bnb, rf, ρ, rz, rg, e2, en2⟩ := fb
  have tbC' := TB_cg tbC pe
  have hdi := ex_di hex
  have tbR : TB (hp s') n F (fun f => fN s' (64 * g + f)) (fun f => fD s' (64 * g + f)) := by
    refine ⟨fun f hf => (tb.2.1 f hf).1, fun a b' hab hb' => ?_, fun m' e hm => ?_⟩
    · have w := tb.2.2 a b' hab hb'
      have f1 := (tb.2.1 a (by omega)).1
      have f2 := (tb.2.1 b' hb').1
      rcases w with w | ⟨w1, w | ⟨w2, w | ⟨w3, w⟩⟩⟩
      · exact .inl w
      · exact .inr ⟨w1, .inl w⟩
      · exact .inr ⟨w1, .inr ⟨w2, w⟩⟩
      · exfalso
        have e : fN s' (64 * g + a) = fN s' (64 * g + b') := v3_ext w1 w2 w3
        rw [e] at f1
        have := fc_d f1 f2
        omega
    · by_cases c3 : 3 ≤ kd'
      · exact comp c3 m' e hm
      · refine (fc_no ?_ hm).elim
        rcases kd with ⟨z1, z2⟩ | ⟨-, z, -⟩ | ⟨-, z, -⟩
        · omega
        · omega
        · omega
  obtain ⟨eF, rows⟩ := TB_u tbC' tbR
  subst eF
  obtain ⟨rf', ρ', ht⟩ := tb_fun hdi tb
  have same : ∀ f, f < Fc → rf f = rf' f ∧ ∀ j, j < rf f → ρ f j = ρ' f j := fun f hf => by
    obtain ⟨r1, r2⟩ := rows f hf
    have g1 := rgF_cg pe (rg f hf)
    rw [r1, r2] at g1
    obtain ⟨t1, -, -, t4, -, -, t7⟩ := ht f hf
    exact rgF_u (prim_pos t1.2.2) t1.1 hex (ring3 t1 hdi g1) t4 g1 t7
  have htC : tbF (hp s') n s' g Fc rf ρ := fun f hf => by
    obtain ⟨t1, t2, t3, t4, t5, t6, t7⟩ := ht f hf
    obtain ⟨e1, e2⟩ := same f hf
    refine ⟨t1, t2, by omega, by omega, by rw [e1]; exact t5, fun j hj => ?_, ?_⟩
    · rw [e2 j hj]
      exact t6 j (by omega)
    · obtain ⟨r1, r2⟩ := rows f hf
      have g1 := rgF_cg pe (rg f hf)
      rw [r1, r2] at g1
      exact g1
  have edg : Ec = E ∧ ∀ e, e < E → qA C (bo (1 + i) + 8) (4 * e) = s'.2.2.1 35 (80 * g + e) ∧ qA C (bo (1 + i) + 8) (4 * e + 1) = s'.2.2.1 36 (80 * g + e) ∧ qA C (bo (1 + i) + 8) (4 * e + 2) = s'.2.2.1 37 (80 * g + e) ∧ qA C (bo (1 + i) + 8) (4 * e + 3) = s'.2.2.1 38 (80 * g + e) := by
    by_cases c2 : kd' = 2
    · obtain ⟨a1, a2, a3, a4, a5⟩ := e2 c2
      obtain ⟨b1, b2⟩ := ek2 c2
      refine ⟨by omega, fun e he => ?_⟩
      have e0 : e = 0 := by omega
      subst e0
      have d1 : s'.2.2.1 35 (80 * g) = 0 := congrArg (fun z => z.1) b2
      have d2 : s'.2.2.1 36 (80 * g) = 1 := congrArg (fun z => z.2.1) b2
      have d3 : s'.2.2.1 37 (80 * g) = -1 := congrArg (fun z => z.2.2.1) b2
      have d4 : s'.2.2.1 38 (80 * g) = -1 := congrArg (fun z => z.2.2.2) b2
      exact ⟨a2.trans d1.symm, a3.trans d2.symm, a4.trans d3.symm, a5.trans d4.symm⟩
    · obtain ⟨-, -, pe1, qe1, fe1, ge1, r1, s1⟩ := en2 c2
      obtain ⟨rf2, ρ2, ht2, u1, u2, pe2, qe2, fe2, ge2, r2, u3, u4⟩ := ekn c2
      have same2 : ∀ f, f < Fc → rf f = rf2 f ∧ ∀ j, j < rf f → ρ f j = ρ2 f j := fun f hf => by
        obtain ⟨t1, -, -, t4, -, -, t7⟩ := ht2 f hf
        obtain ⟨-, -, -, t4', -, -, t7'⟩ := htC f hf
        exact rgF_u (prim_pos t1.2.2) t1.1 hex t4' t4 t7' t7
      rw [pDn_cg same2] at s1
      have s2 : edS E pe2 qe2 fe2 ge2 (pDn Fc rf2 ρ2 Fc 0) := ⟨fun e he => (r2 e he).2, u3, u4⟩
      obtain ⟨eE, er⟩ := edS_u s1 s2
      refine ⟨eE, fun e he => ?_⟩
      obtain ⟨w1, w2, w3, w4⟩ := er e (by omega)
      obtain ⟨y1, y2, y3, y4⟩ := r1 e (by omega)
      have z := (r2 e he).1
      have d1 : s'.2.2.1 35 (80 * g + e) = Int32.ofNat (pe2 e) := congrArg (fun z => z.1) z
      have d2 : s'.2.2.1 36 (80 * g + e) = Int32.ofNat (qe2 e) := congrArg (fun z => z.2.1) z
      have d3 : s'.2.2.1 37 (80 * g + e) = Int32.ofNat (fe2 e) := congrArg (fun z => z.2.2.1) z
      have d4 : s'.2.2.1 38 (80 * g + e) = Int32.ofNat (ge2 e) := congrArg (fun z => z.2.2.2) z
      rw [y1, y2, y3, y4, d1, d2, d3, d4, w1, w2, w3, w4]
      exact ⟨rfl, rfl, rfl, rfl⟩
  obtain ⟨eE, er⟩ := edg
  subst eE
  exact ⟨R, rf, ρ, ⟨m24, k4, h3, h4'⟩, ⟨q6, q5, h7, h8⟩, fun j hj => ⟨(pe j hj).symm, bd j hj⟩, fun f hf => ⟨(rows f hf).1, (rows f hf).2, bnb f hf⟩, rz, htC, er, m24, bd, ho, hex, kd⟩
/-- what both sides know of a slot -/
theorem slot_kn {C : cS} {s : mS} {bo x : Nat → Nat} {c i g N : Nat} (hN : 1000000 < N) (jx : JX C s bo x c) (hi : i < 8) (hg : g < 2) : ∃ s' m k F E R rf ρ, mxX7_knows N (Int32.ofNat i) (Int32.ofNat g) s = some s' ∧ s.2.2.1 4 i = Int32.ofNat m ∧ s.2.2.1 5 i = Int32.ofNat k ∧ okP (cP s i) m k ∧ knO s s' i g m k F E ∧ BR C (bo (1 + i)) s' g m k F E R rf ρ := by
  obtain ⟨c', -, -, g3, -⟩ := jx.2.1
  obtain ⟨m, k, h4, h5, ok⟩ := g3 i hi
  obtain ⟨s1, F, E, e1, K⟩ := x_knows (N := N) (g := g) hN hi hg h4 h5 ok
  obtain ⟨R, rf, ρ, br'⟩ := body_ref jx hi h4 h5 ok K
  exact ⟨s1, m, k, F, E, R, rf, ρ, e1, h4, h5, ok, K, br'⟩
/-- count -/
theorem sv_count {N : Nat} {C : cS} {s : mS} (hN : 4611686018427387904 < N) (j : JK C s) (a b : Int32) : ∃ C' v o, fxX6_count N 0 a b (hC C) = some (hC C', v) ∧ mxX7_count N a b s = some o ∧ v = o.2 ∧ JK C' o.1 := by
  have j' := j
  obtain ⟨bo, xx, cc, jx⟩ := j
  have ci := jx.1
  have fin : ∀ v s', fi s s' → fxX6_count N 0 a b (hC C) = some (hC C, v) → mxX7_count N a b s = some (s', v) → ∃ C' v o, fxX6_count N 0 a b (hC C) = some (hC C', v) ∧ mxX7_count N a b s = some o ∧ v = o.2 ∧ JK C' o.1 := fun v s' f e1 e2 => ⟨C, v, _, e1, e2, rfl, JK_read j' cf.rf f⟩
  rcases slot_or a with ha | ⟨i, hi, rfl⟩
  · refine fin (-1) s fi.rf ?_ ?_
    · unfold fxX6_count
      rw [slot_no ha, Option.bind_some]
      rfl
    · unfold mxX7_count
      rw [solid_no ha, Option.bind_some]
      rfl
  · obtain ⟨hb, -, b0, n2⟩ := bodyOf ci hi
    obtain ⟨p3, -⟩ := pt_sh n2
    obtain ⟨s1, m, k, F, E, R, rf, ρ, e1, h4, h5, ok, K, br'⟩ := slot_kn (N := N) (g := 0) (by omega) jx hi (by omega)
    have e1' : mxX7_knows N (Int32.ofNat i) 0 s = some s1 := e1
    have f1 : fi s s1 := K.1.fi (by decide)
    obtain ⟨-, ⟨y1, y2, y3, y4⟩, -⟩ := br'
    have t27 : s1.2.2.1 27 0 = Int32.ofNat F := K.2.2.2.2.2.2.2.1.1
    have t34 : s1.2.2.1 34 0 = Int32.ofNat E := K.2.2.2.2.2.2.2.2.2.2.2.2.1
    have c44 : mxX7_count_44 N (Int32.ofNat i) b s = if b = (2 : Int32) then some (s1, s1.2.2.1 34 0) else some (s1, s1.2.2.1 27 0) := by
      unfold mxX7_count_44
      rw [e1', Option.bind_some, rA_0 (by decide), rA_0 (by decide)]
      rfl
    have c1 : fxX6_count N 0 (Int32.ofNat i) b (hC C) = if b = (0 : Int32) then some (hC C, Int32.ofNat k) else if b = (1 : Int32) then some (hC C, Int32.ofNat m) else if b = (2 : Int32) then some (hC C, Int32.ofNat E) else if b = (3 : Int32) then some (hC C, Int32.ofNat F) else some (hC C, -1) := by
      unfold fxX6_count
      rw [slot_in hi, Option.bind_some]
      dsimp only
      rw [if_neg no1]
      refine bndE (gR_6_2 x06) (bndE (aR3 hi (ci.1.2.1 i hi)) ?_)
      rw [gI_0_0 b0, gR_0_1 b0, gI_0_6 b0, gI_0_2 b0, Option.bind_some, Option.bind_some, gI_3_0 p3, Option.bind_some, Option.bind_some, Option.bind_some, y1, y2, y3, y4]
    have c2 : mxX7_count N (Int32.ofNat i) b s = if b = (0 : Int32) then some (s, Int32.ofNat k) else if b = (1 : Int32) then some (s, Int32.ofNat m) else if b = (2 : Int32) then mxX7_count_44 N (Int32.ofNat i) b s else if b = (3 : Int32) then mxX7_count_44 N (Int32.ofNat i) b s else some (s, -1) := by
      unfold mxX7_count
      rw [solid_in hi, Option.bind_some]
      dsimp only
      rw [if_neg (by decide), rA8 rfl hi, rA8 rfl hi, h4, h5]
      rfl
    by_cases z0 : b = 0
    · exact fin (Int32.ofNat k) s fi.rf (c1.trans (if_pos z0)) (c2.trans (if_pos z0))
    by_cases z1 : b = 1
    · exact fin (Int32.ofNat m) s fi.rf (c1.trans ((if_neg z0).trans (if_pos z1))) (c2.trans ((if_neg z0).trans (if_pos z1)))
    by_cases z2 : b = 2
    · exact fin (Int32.ofNat E) s1 f1 (c1.trans ((if_neg z0).trans ((if_neg z1).trans (if_pos z2)))) (c2.trans ((if_neg z0).trans ((if_neg z1).trans ((if_pos z2).trans (c44.trans ((if_pos z2).trans (by rw [t34])))))))
    by_cases z3 : b = 3
    · exact fin (Int32.ofNat F) s1 f1 (c1.trans ((if_neg z0).trans ((if_neg z1).trans ((if_neg z2).trans (if_pos z3))))) (c2.trans ((if_neg z0).trans ((if_neg z1).trans ((if_neg z2).trans ((if_pos z3).trans (c44.trans ((if_neg z2).trans (by rw [t27]))))))))
    · exact fin (-1) s fi.rf (c1.trans ((if_neg z0).trans ((if_neg z1).trans ((if_neg z2).trans (if_neg z3))))) (c2.trans ((if_neg z0).trans ((if_neg z1).trans ((if_neg z2).trans (if_neg z3)))))
/-- edge -/
theorem sv_edge {N : Nat} {C : cS} {s : mS} (hN : 4611686018427387904 < N) (j : JK C s) (a b c : Int32) : ∃ C' v o, fxX6_edge N 0 a b c (hC C) = some (hC C', v) ∧ mxX7_edge N a b c s = some o ∧ v = o.2 ∧ JK C' o.1 := by
  have j' := j
  obtain ⟨bo, xx, cc, jx⟩ := j
  have ci := jx.1
  have fin : ∀ v s', fi s s' → fxX6_edge N 0 a b c (hC C) = some (hC C, v) → mxX7_edge N a b c s = some (s', v) → ∃ C' v o, fxX6_edge N 0 a b c (hC C) = some (hC C', v) ∧ mxX7_edge N a b c s = some o ∧ v = o.2 ∧ JK C' o.1 := fun v s' f e1 e2 => ⟨C, v, _, e1, e2, rfl, JK_read j' cf.rf f⟩
  rcases slot_or a with ha | ⟨i, hi, rfl⟩
  · refine fin (-1) s fi.rf ?_ ?_
    · unfold fxX6_edge
      rw [slot_no ha, Option.bind_some]
      rfl
    · unfold mxX7_edge
      rw [solid_no ha, Option.bind_some]
      rfl
  · obtain ⟨hb, -, b0, n2⟩ := bodyOf ci hi
    obtain ⟨-, -, -, -, -, b8, -⟩ := isB_sh hb
    by_cases w0 : b < 0
    · have nb : ¬ (0 ≤ b) := fun w => nn_rng w w0
      refine fin (-1) s fi.rf ?_ ?_
      · unfold fxX6_edge
        rw [slot_in hi, Option.bind_some]
        dsimp only
        rw [if_neg no1, if_pos w0]
      · unfold mxX7_edge
        rw [solid_in hi, Option.bind_some]
        dsimp only
        rw [if_neg (by decide), if_neg nb]
    · have nb : 0 ≤ b := Int32.not_lt.mp w0
      obtain ⟨s1, m, k, F, E, R, rf, ρ, e1, h4, h5, ok, K, br'⟩ := slot_kn (N := N) (g := 0) (by omega) jx hi (by omega)
      have e1' : mxX7_knows N (Int32.ofNat i) 0 s = some s1 := e1
      have f1 : fi s s1 := K.1.fi (by decide)
      obtain ⟨⟨-, -, -, E66⟩, ⟨-, -, -, y4⟩, -, -, -, -, er, -⟩ := br'
      have t34 : s1.2.2.1 34 0 = Int32.ofNat E := K.2.2.2.2.2.2.2.2.2.2.2.2.1
      have c1 : fxX6_edge N 0 (Int32.ofNat i) b c (hC C) = if Int32.ofNat E ≤ b then some (hC C, -1) else if c < 0 then some (hC C, -1) else if c ≤ 3 then ((gR (hC C) 0 6 2).bind fun v13 => (aR (hC C) v13 (Int32.ofNat i)).bind fun v15 => (gR (hC C) v15 0 7).bind fun v17 => (aI (hC C) v17 ((4 : Int32) * b + c)).bind fun v21 => some (hC C, v21)) else some (hC C, -1) := by
        unfold fxX6_edge
        rw [slot_in hi, Option.bind_some]
        dsimp only
        rw [if_neg no1, if_neg w0]
        refine bndE (gR_6_2 x06) (bndE (aR3 hi (ci.1.2.1 i hi)) (bndE (gI_0_6 b0) ?_))
        rw [y4]
      have c2 : mxX7_edge N (Int32.ofNat i) b c s = if b < Int32.ofNat E then (if c = (0 : Int32) then ((rA s1 35 b).bind fun v => some (s1, v)) else (if c = (1 : Int32) then ((rA s1 36 b).bind fun v => some (s1, v)) else (if c = (2 : Int32) then ((rA s1 37 b).bind fun v => some (s1, v)) else (if c = (3 : Int32) then ((rA s1 38 b).bind fun v => some (s1, v)) else some (s1, (-1 : Int32)))))) else some (s1, (-1 : Int32)) := by
        unfold mxX7_edge
        rw [solid_in hi, Option.bind_some]
        dsimp only
        rw [if_neg (by decide), if_pos nb, e1', Option.bind_some, rA_0 (by decide), Option.bind_some, t34]
      by_cases w : b < Int32.ofNat E
      · obtain ⟨e, he, rfl⟩ := in_rng (by omega) w0 w
        have nle : ¬ (Int32.ofNat E ≤ Int32.ofNat e) := Int32.not_le.mpr w
        rw [if_neg nle] at c1
        rw [if_pos w] at c2
        obtain ⟨y0, y1, y2, y3⟩ := er e he
        have m80 : 80 * 0 + e = e := by omega
        rw [m80] at y0 y1 y2 y3
        have go : ∀ t, t < 4 → c = Int32.ofNat t → fxX6_edge N 0 (Int32.ofNat i) (Int32.ofNat e) c (hC C) = some (hC C, qA C (bo (1 + i) + 8) (4 * e + t)) := fun t ht ec => by
          subst ec
          have q1 : ¬ (Int32.ofNat t < 0) := i_lt0 (by omega)
          have q2 : Int32.ofNat t ≤ (3 : Int32) := by
            have := i_le (a := t) (b := 3) (by omega) (by omega)
            show Int32.ofNat t ≤ Int32.ofNat 3
            rw [this]
            omega
          rw [if_neg q1, if_pos q2, i_c4, i_ad] at c1
          exact c1.trans (bndE (gR_6_2 x06) (bndE (aR3 hi (ci.1.2.1 i hi)) (bndE (gR_0_7 b0) (bndE (aI_N b8 (show 4 * e + t < 264 by omega) (by decide)) rfl))))
        by_cases z0 : c = 0
        · exact fin _ s1 f1 (go 0 (by omega) z0) (c2.trans ((if_pos z0).trans (bndE (rA160 rfl (by omega)) (by rw [← y0]; rfl))))
        by_cases z1 : c = 1
        · exact fin _ s1 f1 (go 1 (by omega) z1) (c2.trans ((if_neg z0).trans ((if_pos z1).trans (bndE (rA160 rfl (by omega)) (by rw [← y1])))))
        by_cases z2 : c = 2
        · exact fin _ s1 f1 (go 2 (by omega) z2) (c2.trans ((if_neg z0).trans ((if_neg z1).trans ((if_pos z2).trans (bndE (rA160 rfl (by omega)) (by rw [← y2]))))))
        by_cases z3 : c = 3
        · exact fin _ s1 f1 (go 3 (by omega) z3) (c2.trans ((if_neg z0).trans ((if_neg z1).trans ((if_neg z2).trans ((if_pos z3).trans (bndE (rA160 rfl (by omega)) (by rw [← y3])))))))
        · refine fin (-1) s1 f1 ?_ (c2.trans ((if_neg z0).trans ((if_neg z1).trans ((if_neg z2).trans (if_neg z3)))))
          by_cases q1 : c < 0
          · rw [if_pos q1] at c1
            exact c1
          · rw [if_neg q1] at c1
            by_cases q2 : c ≤ 3
            · exfalso
              obtain ⟨t, ht, e'⟩ := ax_or (n := 3) (b := c) (by omega) q1 q2
              rcases (show t = 0 ∨ t = 1 ∨ t = 2 ∨ t = 3 by omega) with q | q | q | q
              · exact z0 (by rw [e', q]; rfl)
              · exact z1 (by rw [e', q]; rfl)
              · exact z2 (by rw [e', q]; rfl)
              · exact z3 (by rw [e', q]; rfl)
            · rw [if_neg q2] at c1
              exact c1
      · rw [if_neg w] at c2
        have le : Int32.ofNat E ≤ b := Int32.not_lt.mp w
        rw [if_pos le] at c1
        exact fin (-1) s1 f1 c1 c2
