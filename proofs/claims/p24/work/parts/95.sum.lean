theorem lkJ_mo {s0 s : mS} {P : Nat → V3} {n : Nat} {C C' : V3 → Prop} (J : lkJ s0 P n C s) (h : ∀ w, C' w → C w) : lkJ s0 P n C' s := by
  refine ⟨J.1, ?_⟩
  rcases J.2 with t | ⟨W, w1, w2, w3⟩
  · exact .inl t
  · exact .inr ⟨W, w1, w2, fun w hw => w3 w (h w hw)⟩
theorem lkJ_fr {L : List Nat} {s0 s s' : mS} {P : Nat → V3} {n : Nat} {C : V3 → Prop} (J : lkJ s0 P n C s) (f : fr L s s') (hL : ∀ k, k ∈ L → k ∈ [15, 16, 17, 18, 20, 21, 22, 23, 24, 25, 26]) : lkJ s0 P n C s' := by
  have f2 : fr [15, 16, 17, 18, 20, 21, 22, 23, 24, 25, 26] s s' := f.mo hL
  refine ⟨J.1.tr (f2.mo (by decide)), ?_⟩
  rcases J.2 with t | ⟨W, w1, w2, w3⟩
  · exact .inl (by rw [f2.I (by decide)]; exact t)
  · exact .inr ⟨W, fdZ_fr w1 f2 (by decide), w2, w3⟩
theorem neg_neg_v (n : V3) : vs v0 (vs v0 n) = n := by
  refine v3_ext ?_ ?_ ?_
  · show 0 - (0 - n.1) = n.1
    omega
  · show 0 - (0 - n.2.1) = n.2.1
    omega
  · show 0 - (0 - n.2.2) = n.2.2
    omega
theorem x_both2 {N m0 m1 n : Nat} {P : Nat → V3} {s0 s : mS} {Cov : V3 → Prop} (hN : 1000000 < N) (hm0 : m0 ≤ 24) (hm1 : m1 ≤ 24) (h0 : 1 ≤ m0) (h1 : 1 ≤ m1) (O0 : owS s0 0 m0) (O1 : owS s0 1 m1) (hP : srz P n (smZ s0 m0 m1)) (J : lkJ s0 P n Cov s) (bn : bd3 (nv s) 320000) : ∃ s', mxX7_looksBothWays N s = some s' ∧ lkJ s0 P n (fun w => Cov w ∨ (∃ x, vd w x = 1) ∧ ∃ G, 0 < G ∧ (nv s = vl G w 0 v0 ∨ vs v0 (nv s) = vl G w 0 v0)) s' ∧ bd3 (nv s') 320000 := by
  unfold mxX7_looksBothWays
  obtain ⟨s1, e1, J1, b1, n1⟩ := x_looks hN hm0 hm1 h0 h1 O0 O1 hP J bn
  obtain ⟨s2, e2, n2, b2, sm2⟩ := x_turns (N := N) (s := s1) b1
  have J2 := lkJ_fr J1 (smN_fr sm2) (by decide)
  obtain ⟨s3, e3, J3, b3, -⟩ := x_looks hN hm0 hm1 h0 h1 O0 O1 hP J2 b2
  rw [e1, Option.bind_some, e2, Option.bind_some, e3, Option.bind_some]
  refine ⟨s3, rfl, ?_, b3⟩
  refine ⟨J3.1, ?_⟩
  rcases J3.2 with t | ⟨W, w1, w2, w3⟩
  · exact .inl t
  · refine .inr ⟨W, w1, w2, fun w hw => ?_⟩
    rcases hw with hw | ⟨hx, G, G0, e | e⟩
    · exact w3 w (.inl (.inl hw))
    · exact w3 w (.inl (.inr ⟨hx, G, G0, e⟩))
    · refine w3 w (.inr ⟨hx, 1, by omega, ?_⟩)
      rw [vl_1, n2]
      -- the way across was plain behind the first look
      have ns : nv s ≠ v0 := by
        intro z
        rw [z, vs_self] at e
        exact prim_ne0 hx (vl_z G0 e.symm)
      have z54 : s1.1 54 = 0 := by
        rcases J1.2 with t | ⟨W', w1', -⟩
        · exfalso
          -- too many before: nothing is found later
          have f54 : s2.1 54 = 1 := by rw [(smN_fr sm2).I (by decide)]; exact t.1
          have : mxX7_looks N s2 = some s2 := by
            unfold mxX7_looks
            by_cases fl : nv s2 = v0
            · rw [(x_flat (N := N)).1 fl, Option.bind_some]
              dsimp only
              rw [if_neg (by decide)]
            · rw [(x_flat (N := N)).2 fl, Option.bind_some]
              dsimp only
              rw [if_pos rfl, if_neg (by rw [f54]; decide)]
          rw [this] at e3
          cases e3
          rw [w1.1] at f54
          exact absurd f54 (by decide)
        · exact w1'.1
      obtain ⟨hx1, G1, G10, eG⟩ := n1 z54 ns
      refine (prim_one hx (prim_neg hx1) G0 G10 ?_).symm ▸ ?_
      · rw [← e, eG]
        refine v3_ext ?_ ?_ ?_
        · show 0 - (G1 * (nv s1).1 + 0 * 0) = G1 * (0 - (nv s1).1) + 0 * 0
          rw [Int.mul_sub]
          omega
        · show 0 - (G1 * (nv s1).2.1 + 0 * 0) = G1 * (0 - (nv s1).2.1) + 0 * 0
          rw [Int.mul_sub]
          omega
        · show 0 - (G1 * (nv s1).2.2 + 0 * 0) = G1 * (0 - (nv s1).2.2) + 0 * 0
          rw [Int.mul_sub]
          omega
      · rfl
/-- the planes of FACES of table g before f -/
def fcC (s : mS) (g f : Nat) : V3 → Prop := fun w => ∃ t, t < f ∧ w = fN s (64 * g + t)
theorem x_la22 {N m0 m1 n g F E m : Nat} {P : Nat → V3} {s0 : mS} {Cov : V3 → Prop} {R : mS → Prop} {rec12 : Int32 → mS → Option mS} (hN : 1000000 < N) (hm0 : m0 ≤ 24) (hm1 : m1 ≤ 24) (h0 : 1 ≤ m0) (h1 : 1 ≤ m1) (O0 : owS s0 0 m0) (O1 : owS s0 1 m1) (hP : srz P n (smZ s0 m0 m1)) (hg : g < 2) (T : tbS s0 g F E m) (hprim : ∀ f, f < F → ∃ x, vd (fN s0 (64 * g + f)) x = 1) (hrec : ∀ s, lkJ s0 P n (fun w => Cov w ∨ fcC s0 g F w) s → Hd (rec12 (Int32.ofNat (g + 1)) s) R) : ∀ (q fu f : Nat) (s : mS), f + q = F → q < fu → lkJ s0 P n (fun w => Cov w ∨ fcC s0 g f w) s → Hd (mxX7_looksAll_22 N rec12 fu (Int32.ofNat g) (Int32.ofNat (64 * g + f)) s) R := by
  have hF := T.2.1
  intro q
  induction q with
  | zero =>
    intro fu f s hf hfu J
    obtain ⟨f', rfl⟩ : ∃ f', fu = f' + 1 := ⟨fu - 1, by omega⟩
    have hfF : f = F := by omega
    subst hfF
    rw [mxX7_looksAll_22, rA2 rfl hg, Option.bind_some, J.1.A (by decide), T.1, i_64, if_pos (Int32.le_refl _), i_s]
    exact hrec s J
  | succ q ih =>
    intro fu f s hf hfu J
    obtain ⟨f', rfl⟩ : ∃ f', fu = f' + 1 := ⟨fu - 1, by omega⟩
    have ne : ¬ (Int32.ofNat (64 * g + F) ≤ Int32.ofNat (64 * g + f)) := by
      rw [i_le (by omega) (by omega)]
      omega
    rw [mxX7_looksAll_22, rA2 rfl hg, Option.bind_some, J.1.A (by decide), T.1, i_64, if_neg ne, rG128 rfl (by omega), Option.bind_some, Option.bind_some, rG128 rfl (by omega), Option.bind_some, Option.bind_some, rG128 rfl (by omega), Option.bind_some, Option.bind_some]
    obtain ⟨-, a5, a6, -⟩ := T.2.2.2.2.2.1 f (by omega)
    have g1 : fr [24, 25, 26] s (pJ (pJ (pJ s 24 (s.2.2.2 28 (64 * g + f))) 25 ((pJ s 24 (s.2.2.2 28 (64 * g + f))).2.2.2 29 (64 * g + f))) 26 ((pJ (pJ s 24 (s.2.2.2 28 (64 * g + f))) 25 ((pJ s 24 (s.2.2.2 28 (64 * g + f))).2.2.2 29 (64 * g + f))).2.2.2 30 (64 * g + f))) := (((fr_pJ _ _ _).mo (by decide)).tr ((fr_pJ _ _ _).mo (by decide))).tr ((fr_pJ _ _ _).mo (by decide))
    have nve : nv (pJ (pJ (pJ s 24 (s.2.2.2 28 (64 * g + f))) 25 ((pJ s 24 (s.2.2.2 28 (64 * g + f))).2.2.2 29 (64 * g + f))) 26 ((pJ (pJ s 24 (s.2.2.2 28 (64 * g + f))) 25 ((pJ s 24 (s.2.2.2 28 (64 * g + f))).2.2.2 29 (64 * g + f))).2.2.2 30 (64 * g + f))) = fN s0 (64 * g + f) := by
      unfold fN
      rw [← J.1.G (k := 28) (by decide), ← J.1.G (k := 29) (by decide), ← J.1.G (k := 30) (by decide)]
      rfl
    generalize (pJ (pJ (pJ s 24 (s.2.2.2 28 (64 * g + f))) 25 ((pJ s 24 (s.2.2.2 28 (64 * g + f))).2.2.2 29 (64 * g + f))) 26 ((pJ (pJ s 24 (s.2.2.2 28 (64 * g + f))) 25 ((pJ s 24 (s.2.2.2 28 (64 * g + f))).2.2.2 29 (64 * g + f))).2.2.2 30 (64 * g + f))) = s1 at g1 nve ⊢
    obtain ⟨s2, e2, J2, -⟩ := x_looks hN hm0 hm1 h0 h1 O0 O1 hP (lkJ_fr J g1 (by decide)) (by rw [nve]; exact a5)
    rw [e2, Option.bind_some, i_s]
    refine ih f' (f + 1) s2 (by omega) (by omega) (lkJ_mo J2 (fun w hw => ?_))
    rcases hw with hw | ⟨t, t1, t2⟩
    · exact .inl (.inl hw)
    · by_cases e : t = f
      · right
        rw [t2, e]
        exact ⟨hprim f (by omega), 1, by omega, by rw [vl_1, nve]⟩
      · exact .inl (.inr ⟨t, by omega, t2⟩)
/-- the ways across EDGES e of the one and k of the other -/
def edC (s : mS) (e k : Nat) : V3 → Prop := fun w => (∃ x, vd w x = 1) ∧ ∃ p q r t G, s.2.2.1 35 e = Int32.ofNat p ∧ s.2.2.1 36 e = Int32.ofNat q ∧ s.2.2.1 35 (80 + k) = Int32.ofNat r ∧ s.2.2.1 36 (80 + k) = Int32.ofNat t ∧ p < q ∧ q < 24 ∧ r < t ∧ t < 24 ∧ 0 < G ∧ (vx (vs (oP s q) (oP s p)) (vs (oP s (24 + t)) (oP s (24 + r))) = vl G w 0 v0 ∨ vs v0 (vx (vs (oP s q) (oP s p)) (vs (oP s (24 + t)) (oP s (24 + r)))) = vl G w 0 v0)
theorem rA34 (s : mS) : rA s 34 1 = some (s.2.2.1 34 1) := rA_N (j := 1) (by decide) (by decide)
theorem i80p (k : Nat) : (80 : Int32) + Int32.ofNat k = Int32.ofNat (80 + k) := i_ad 80 k
theorem x_la105 {N m0 m1 n F0 E0 F1 E1 e : Nat} {P : Nat → V3} {s0 : mS} {Cov : V3 → Prop} {R : mS → Prop} {rec85 : Int32 → mS → Option mS} (hN : 1000000 < N) (h0 : 1 ≤ m0) (h1 : 1 ≤ m1) (O0 : owS s0 0 m0) (O1 : owS s0 1 m1) (hP : srz P n (smZ s0 m0 m1)) (T0 : tbS s0 0 F0 E0 m0) (T1 : tbS s0 1 F1 E1 m1) (he : e < E0) (hrec : ∀ s, lkJ s0 P n (fun w => Cov w ∨ ∃ k, k < E1 ∧ edC s0 e k w) s → Hd (rec85 (Int32.ofNat (e + 1)) s) R) : ∀ (q fu k : Nat) (s : mS), k + q = E1 → q < fu → lkJ s0 P n (fun w => Cov w ∨ ∃ k', k' < k ∧ edC s0 e k' w) s → Hd (mxX7_looksAll_105 N rec85 fu (Int32.ofNat e) (Int32.ofNat (80 + k)) s) R := by
  have hm0 := T0.2.2.2.2.1
  have hm1 := T1.2.2.2.2.1
  have hE0 := T0.2.2.2.1
  have hE1 := T1.2.2.2.1
  have t34 : s0.2.2.1 34 1 = Int32.ofNat E1 := T1.2.2.1
  obtain ⟨p, p', a1, a2, a3, a4⟩ := T0.2.2.2.2.2.2 e he
  rw [Nat.mul_zero, Nat.zero_add] at a1 a2
  have bp := O0.2.1 p (by omega)
  have bp' := O0.2.1 p' a4
  rw [Nat.mul_zero, Nat.zero_add] at bp bp'
  intro q
  induction q with
  | zero =>
    intro fu k s hk hfu J
    obtain ⟨f', rfl⟩ : ∃ f', fu = f' + 1 := ⟨fu - 1, by omega⟩
    have hkE : k = E1 := by omega
    subst hkE
    rw [mxX7_looksAll_105, rA34, Option.bind_some, J.1.A (by decide), t34, i80p, if_pos (Int32.le_refl _)]
    unfold mxX7_looksAll_263
    rw [i_s]
    exact hrec s J
  | succ q ih =>
    intro fu k s hk hfu J
    obtain ⟨f', rfl⟩ : ∃ f', fu = f' + 1 := ⟨fu - 1, by omega⟩
    have ne : ¬ (Int32.ofNat (80 + E1) ≤ Int32.ofNat (80 + k)) := by
      rw [i_le (by omega) (by omega)]
      omega
    obtain ⟨r, r', c1, c2, c3, c4⟩ := T1.2.2.2.2.2.2 k (by omega)
    rw [Nat.mul_one] at c1 c2
    have br1 := O1.2.1 r (by omega)
    have br2 := O1.2.1 r' c4
    rw [Nat.mul_one] at br1 br2
    rw [mxX7_looksAll_105, rA34, Option.bind_some, J.1.A (by decide), t34, i80p, if_neg ne]
    by_cases z : s.1 54 = 0
    · rw [if_pos z]
      have e35 : s.2.2.1 35 = s0.2.2.1 35 := J.1.A (by decide)
      have e36 : s.2.2.1 36 = s0.2.2.1 36 := J.1.A (by decide)
      have oe : ∀ t, oP s t = oP s0 t := fr_oP J.1 (by decide) (by decide) (by decide)
      rw [rA160 rfl (by omega), Option.bind_some, e35, a1, rA160 rfl (by omega), Option.bind_some, e36, a2, rA160 rfl (by omega), Option.bind_some, e35, c1, rA160 rfl (by omega), Option.bind_some, e36, c2, i24p, i24p]
      rw [rG48 rfl (by omega), Option.bind_some, rG48 rfl (by omega), Option.bind_some, rG48 rfl (by omega), Option.bind_some, rG48 rfl (by omega), Option.bind_some, rG48 rfl (by omega), Option.bind_some, rG48 rfl (by omega), Option.bind_some, rG48 rfl (by omega), Option.bind_some, rG48 rfl (by omega), Option.bind_some, rG48 rfl (by omega), Option.bind_some, rG48 rfl (by omega), Option.bind_some, rG48 rfl (by omega), Option.bind_some, rG48 rfl (by omega), Option.bind_some]
      have x1 : bd3 (oP s p) 100 := by rw [oe]; exact bp
      have x2 : bd3 (oP s p') 100 := by rw [oe]; exact bp'
      have x3 : bd3 (oP s (24 + r)) 100 := by rw [oe]; exact br1
      have x4 : bd3 (oP s (24 + r')) 100 := by rw [oe]; exact br2
      obtain ⟨s1, e1, sm1, n1, b1⟩ := x_crosses (N := N) (x := vs (oP s p') (oP s p)) (y := vs (oP s (24 + r')) (oP s (24 + r))) (s := s) (bv_sub (bo1 x2) (bo1 x1) (by decide)) (bv_sub (bo2 x2) (bo2 x1) (by decide)) (bv_sub (bo3 x2) (bo3 x1) (by decide)) (bv_sub (bo1 x4) (bo1 x3) (by decide)) (bv_sub (bo2 x4) (bo2 x3) (by decide)) (bv_sub (bo3 x4) (bo3 x3) (by decide)) (by decide)
      obtain ⟨s2, e2, J2, -⟩ := x_both2 hN hm0 hm1 h0 h1 O0 O1 hP (lkJ_fr J (smN_fr sm1) (by decide)) b1
      rw [e1, Option.bind_some, e2, Option.bind_some, i_s]
      refine ih f' (k + 1) s2 (by omega) (by omega) (lkJ_mo J2 (fun w hw => ?_))
      rcases hw with hw | ⟨k', k1, hw⟩
      · exact .inl (.inl hw)
      · by_cases ek : k' = k
        · right
          subst ek
          obtain ⟨hx, P1, Q1, R1, T1', G, d1, d2, d3, d4, d5, d6, d7, d8, G0, dd⟩ := hw
          have y1 : P1 = p := i_inj (by omega) (by omega) (d1.symm.trans a1)
          have y2 : Q1 = p' := i_inj (by omega) (by omega) (d2.symm.trans a2)
          have y3 : R1 = r := i_inj (by omega) (by omega) (d3.symm.trans c1)
          have y4 : T1' = r' := i_inj (by omega) (by omega) (d4.symm.trans c2)
          subst y1 y2 y3 y4
          refine ⟨hx, G, G0, ?_⟩
          rw [n1, oe, oe, oe, oe]
          exact dd
        · exact .inl (.inr ⟨k', by omega, hw⟩)
    · rw [if_neg z]
      unfold mxX7_looksAll_263
      rw [i_s]
      refine hrec s ⟨J.1, ?_⟩
      rcases J.2 with t | ⟨W, w1, -⟩
      · exact .inl t
      · exact absurd w1.1 z
theorem x_la85 {N m0 m1 n F0 E0 F1 E1 : Nat} {P : Nat → V3} {s0 : mS} {Cov : V3 → Prop} (hN : 1000000 < N) (h0 : 1 ≤ m0) (h1 : 1 ≤ m1) (O0 : owS s0 0 m0) (O1 : owS s0 1 m1) (hP : srz P n (smZ s0 m0 m1)) (T0 : tbS s0 0 F0 E0 m0) (T1 : tbS s0 1 F1 E1 m1) : ∀ (q fu e : Nat) (s : mS), e + q = E0 → q < fu → lkJ s0 P n (fun w => Cov w ∨ ∃ e' k, e' < e ∧ k < E1 ∧ edC s0 e' k w) s → Hd (mxX7_looksAll_85 N fu (Int32.ofNat e) s) (lkJ s0 P n (fun w => Cov w ∨ ∃ e' k, e' < E0 ∧ k < E1 ∧ edC s0 e' k w)) := by
  have hE0 := T0.2.2.2.1
  have hE1 := T1.2.2.2.1
  have t34 : s0.2.2.1 34 0 = Int32.ofNat E0 := T0.2.2.1
  intro q
  induction q with
  | zero =>
    intro fu e s he hfu J
    obtain ⟨f', rfl⟩ : ∃ f', fu = f' + 1 := ⟨fu - 1, by omega⟩
    have heE : e = E0 := by omega
    subst heE
    rw [mxX7_looksAll_85, rA_0 (by decide), Option.bind_some, J.1.A (by decide), t34, if_pos (Int32.le_refl _)]
    exact Hd.ret J
  | succ q ih =>
    intro fu e s he hfu J
    obtain ⟨f', rfl⟩ : ∃ f', fu = f' + 1 := ⟨fu - 1, by omega⟩
    have ne : ¬ (Int32.ofNat E0 ≤ Int32.ofNat e) := by
      rw [i_le (by omega) (by omega)]
      omega
    rw [mxX7_looksAll_85, rA_0 (by decide), Option.bind_some, J.1.A (by decide), t34, if_neg ne]
    by_cases z : s.1 54 = 0
    · rw [if_pos z]
      have := x_la105 (N := N) (e := e) (Cov := fun w => Cov w ∨ ∃ e' k, e' < e ∧ k < E1 ∧ edC s0 e' k w) (rec85 := mxX7_looksAll_85 N f') hN h0 h1 O0 O1 hP T0 T1 (by omega) (fun s J' => ih f' (e + 1) s (by omega) (by omega) (lkJ_mo J' (fun w hw => by
        rcases hw with hw | ⟨e', k, h1, h2, h3⟩
        · exact .inl (.inl hw)
        · by_cases w' : e' = e
          · rw [w'] at h3
            exact .inr ⟨k, h2, h3⟩
          · exact .inl (.inr ⟨e', k, by omega, h2, h3⟩)))) E1 N 0 s (by omega) (by omega) (lkJ_mo J (fun w hw => by
        rcases hw with hw | ⟨k', k1, -⟩
        · exact hw
        · omega))
      exact this
    · rw [if_neg z]
      refine Hd.ret ⟨J.1, ?_⟩
      rcases J.2 with t | ⟨W, w1, -⟩
      · exact .inl t
      · exact absurd w1.1 z
/-- looksAll: all that can be FACES of the sum -/
theorem x_looksAll {N m0 m1 n F0 E0 F1 E1 : Nat} {P : Nat → V3} {s0 : mS} (hN : 1000000 < N) (h0 : 1 ≤ m0) (h1 : 1 ≤ m1) (O0 : owS s0 0 m0) (O1 : owS s0 1 m1) (hP : srz P n (smZ s0 m0 m1)) (T0 : tbS s0 0 F0 E0 m0) (T1 : tbS s0 1 F1 E1 m1) (hp0 : ∀ f, f < F0 → ∃ x, vd (fN s0 (64 * 0 + f)) x = 1) (hp1 : ∀ f, f < F1 → ∃ x, vd (fN s0 (64 * 1 + f)) x = 1) : Hd (mxX7_looksAll N s0) (lkJ s0 P n (fun w => ((False ∨ fcC s0 0 F0 w) ∨ fcC s0 1 F1 w) ∨ ∃ e k, e < E0 ∧ k < E1 ∧ edC s0 e k w)) := by
  have hm0 := T0.2.2.2.2.1
  have hm1 := T1.2.2.2.2.1
  have hF0 := T0.2.1
  have hF1 := T1.2.1
  have hE0 := T0.2.2.2.1
  unfold mxX7_looksAll
  rw [Option.bind_some, Option.bind_some]
  have J0 : lkJ s0 P n (fun w => False ∨ fcC s0 0 0 w) (pI (pI s0 55 0) 54 0) := ⟨((fr_pI _ _ _).mo (by decide)).tr ((fr_pI _ _ _).mo (by decide)), .inr ⟨fun _ => False, ⟨rfl, 0, by omega, rfl, fun j hj => absurd hj (by omega), fun x hx => hx.elim, fun i j _ hj => absurd hj (by omega)⟩, fun x hx => hx.elim, fun w hw => by
    rcases hw with hw | ⟨t, t1, -⟩
    · exact hw.elim
    · omega⟩⟩
  obtain ⟨N', rfl⟩ : ∃ N', N = N' + 3 := ⟨N - 3, by omega⟩
  rw [mxX7_looksAll_12, if_neg (by decide)]
  refine x_la22 (N := N' + 3) (g := 0) (rec12 := mxX7_looksAll_12 (N' + 3) (N' + 2)) hN hm0 hm1 h0 h1 O0 O1 hP (by omega) T0 hp0 (fun s J => ?_) F0 (N' + 3) 0 _ (by omega) (by omega) J0
  show Hd (mxX7_looksAll_12 (N' + 3) (N' + 2) 1 s) _
  rw [mxX7_looksAll_12, if_neg (by decide)]
  refine x_la22 (N := N' + 3) (g := 1) (Cov := fun w => False ∨ fcC s0 0 F0 w) (rec12 := mxX7_looksAll_12 (N' + 3) (N' + 1)) hN hm0 hm1 h0 h1 O0 O1 hP (by omega) T1 hp1 (fun s J => ?_) F1 (N' + 3) 0 s (by omega) (by omega) (lkJ_mo J (fun w hw => by
    rcases hw with hw | ⟨t, t1, -⟩
    · exact hw
    · omega))
  show Hd (mxX7_looksAll_12 (N' + 3) (N' + 1) 2 s) _
  rw [mxX7_looksAll_12, if_pos (by decide)]
  exact x_la85 (N := N' + 3) (Cov := fun w => (False ∨ fcC s0 0 F0 w) ∨ fcC s0 1 F1 w) hN h0 h1 O0 O1 hP T0 T1 E0 (N' + 3) 0 s (by omega) (by omega) (lkJ_mo J (fun w hw => by
    rcases hw with hw | ⟨e', k, h1, -⟩
    · exact hw
    · omega))
