theorem in_rng {E : Nat} (hE : E < 2147483648) {p : Int32} (h0 : ¬ p < 0) (h1 : p < Int32.ofNat E) : ∃ e, e < E ∧ p = Int32.ofNat e := by
  have z : (0 : Int32).toInt = 0 := rfl
  rw [Int32.lt_iff_toInt_lt, z] at h0
  rw [Int32.lt_iff_toInt_lt, Int32.toInt_ofNat_of_lt hE] at h1
  refine ⟨p.toInt.toNat, by omega, Int32.toInt_inj.mp ?_⟩
  rw [Int32.toInt_ofNat_of_lt (by omega)]
  omega
theorem nn_rng {p : Int32} (h0 : 0 ≤ p) : ¬ p < 0 := by
  rw [Int32.le_iff_toInt_le] at h0
  rw [Int32.lt_iff_toInt_lt]
  omega
/-- a table of FACES and EDGES whose numbers stay within bounds -/
def tbS (s : mS) (g F E m : Nat) : Prop := s.2.2.1 27 g = Int32.ofNat F ∧ F ≤ 44 ∧ s.2.2.1 34 g = Int32.ofNat E ∧ E ≤ 80 ∧ m ≤ 24 ∧ (∀ f, f < F → (∃ r, 3 ≤ r ∧ r ≤ 25 ∧ s.2.2.1 32 (64 * g + f) = Int32.ofNat r ∧ ∀ j, j < r → ∃ p, p < m ∧ s.2.2.1 33 (25 * (64 * g + f) + j) = Int32.ofNat p) ∧ bd3 (fN s (64 * g + f)) 320000 ∧ fN s (64 * g + f) ≠ v0 ∧ (fD s (64 * g + f)).natAbs ≤ 192000000) ∧ ∀ e, e < E → ∃ p q, s.2.2.1 35 (80 * g + e) = Int32.ofNat p ∧ s.2.2.1 36 (80 * g + e) = Int32.ofNat q ∧ p < q ∧ q < m
theorem vd_bd {n p : V3} {A B : Nat} (h1 : bd3 n A) (h2 : bd3 p B) : (vd n p).natAbs ≤ A * B + A * B + A * B := by
  have m1 : (n.1 * p.1).natAbs ≤ A * B := by
    rw [Int.natAbs_mul]
    exact Nat.mul_le_mul h1.1 h2.1
  have m2 : (n.2.1 * p.2.1).natAbs ≤ A * B := by
    rw [Int.natAbs_mul]
    exact Nat.mul_le_mul h1.2.1 h2.2.1
  have m3 : (n.2.2 * p.2.2).natAbs ≤ A * B := by
    rw [Int.natAbs_mul]
    exact Nat.mul_le_mul h1.2.2 h2.2.2
  unfold vd
  omega
/-- the owned points of a table -/
def owS (s : mS) (g m : Nat) : Prop := s.2.2.1 46 g = Int32.ofNat m ∧ (∀ t, t < m → bd3 (oP s (24 * g + t)) 100) ∧ ∀ a b, a < b → b < m → oP s (24 * g + a) ≠ oP s (24 * g + b)
theorem okP_hdi {P : Nat → V3} {m k : Nat} (ok : okP P m k) : ∀ i j, i < m → j < m → i ≠ j → P i ≠ P j := by
  intro i j hi hj hij e
  by_cases w : i < j
  · exact ord_ne ok.2.2.1 w hj e
  · exact ord_ne ok.2.2.1 (by omega : j < i) hi e.symm
theorem kn_tbS {s s' : mS} {i g m k F E : Nat} (ok : okP (cP s i) m k) (K : knO s s' i g m k F E) : tbS s' g F E m := by
  obtain ⟨k1, k2, k3, k4, k5, k6, k7, k8, k9, k10, k11, k12, k13, k14, k15, k16, k17⟩ := K
  refine ⟨k8.1, k11, k13, k14, ok.1, fun f hf => ?_, k17⟩
  obtain ⟨rf, ρf, ht⟩ := tb_fun (hpO_di k6) k8
  obtain ⟨t1, t2, t3, t4, t5, t6, t7⟩ := ht f hf
  refine ⟨⟨rf f, t4, t3, t5, fun j hj => ⟨ρf f j, (t6 j hj).2, (t6 j hj).1⟩⟩, t2, prim_ne0 t1.2.2, ?_⟩
  obtain ⟨-, ⟨i0, -, -, i1, -, -, i2, -⟩, -⟩ := t1
  rw [← i2]
  exact vd_bd t2 (k6.2.1 i0 i1)
theorem kn_F {s s' : mS} {i g m k F E : Nat} (ok : okP (cP s i) m k) (K : knO s s' i g m k F E) (h3 : k = 3) : 1 ≤ F := by
  obtain ⟨k1, k2, k3, k4, k5, k6, k7, k8, k9, k10, k11, k12, -⟩ := K
  have ok' : okP (hp s') m k := okP_congr k7 ok
  rcases ok'.2.2.2.2 with ⟨q1, q2⟩ | ⟨q1, q2, v, d, hx, hpl⟩ | ⟨q1, q2, q3⟩
  · omega
  · have hf : fc (hp s') m v d := ⟨fun i hi => by rw [hpl i hi]; exact Int.le_refl _, ⟨0, 1, 2, by omega, by omega, by omega, hpl 0 (by omega), hpl 1 (by omega), hpl 2 (by omega), ex_line ok'.2.2.1 ok'.2.2.2.1 (by omega) (by omega) (by omega)⟩, hx⟩
    obtain ⟨j, j1, -⟩ := k12 (by omega) v d hf
    omega
  · omega
theorem tbS_fr {L : List Nat} {s s' : mS} {g F E m : Nat} (h : tbS s g F E m) (f : fr L s s') (hL : ∀ k, k ∈ L → k < 27 ∨ 36 < k) : tbS s' g F E m := by
  have n : ∀ k, 27 ≤ k → k ≤ 36 → ¬ k ∈ L := fun k h1 h2 q => by
    have := hL k q
    omega
  have e : ∀ t, fN s' t = fN s t := by
    intro t
    unfold fN
    rw [f.G (n 28 (by omega) (by omega)), f.G (n 29 (by omega) (by omega)), f.G (n 30 (by omega) (by omega))]
  have e' : ∀ t, fD s' t = fD s t := by
    intro t
    unfold fD
    rw [f.G (n 31 (by omega) (by omega))]
  obtain ⟨h1, h2, h3, h4, h5, h6, h7⟩ := h
  refine ⟨by rw [f.A (n 27 (by omega) (by omega))]; exact h1, h2, by rw [f.A (n 34 (by omega) (by omega))]; exact h3, h4, h5, fun t ht => ?_, fun t ht => ?_⟩
  · rw [f.A (n 32 (by omega) (by omega)), f.A (n 33 (by omega) (by omega)), e, e']
    exact h6 t ht
  · rw [f.A (n 35 (by omega) (by omega)), f.A (n 36 (by omega) (by omega))]
    exact h7 t ht
theorem owS_fr {L : List Nat} {s s' : mS} {g m : Nat} (h : owS s g m) (f : fr L s s') (hL : ∀ k, k ∈ L → k < 43 ∨ 46 < k) : owS s' g m := by
  have n : ∀ k, 43 ≤ k → k ≤ 46 → ¬ k ∈ L := fun k h1 h2 q => by
    have := hL k q
    omega
  have e : ∀ t, oP s' t = oP s t := by
    intro t
    unfold oP
    rw [f.G (n 43 (by omega) (by omega)), f.G (n 44 (by omega) (by omega)), f.G (n 45 (by omega) (by omega))]
  obtain ⟨h1, h2, h3⟩ := h
  refine ⟨by rw [f.A (n 46 (by omega) (by omega))]; exact h1, fun t ht => by rw [e]; exact h2 t ht, fun a b hab hb => by rw [e, e]; exact h3 a b hab hb⟩
/-- owns, for what reads of it -/
theorem x_ownS {N i g : Nat} {s : mS} (hN : 1000000 < N) (hI : INV s) (hi : i < 8) (hg : g < 2) : ∃ s' F E m k, mxX7_owns N (Int32.ofNat i) (Int32.ofNat g) s = some s' ∧ fi s s' ∧ fr [15, 16, 17, 18, 19, 20, 21, 22, 23, 24, 25, 26, 27, 28, 29, 30, 31, 32, 33, 34, 35, 36, 37, 38, 43, 44, 45, 46] s s' ∧ s.2.2.1 4 i = Int32.ofNat m ∧ s.2.2.1 5 i = Int32.ofNat k ∧ okP (cP s i) m k ∧ tbS s' g F E m ∧ owS s' g m ∧ (k = 3 → 1 ≤ F) ∧ (∀ t, t < m → oP s' (24 * g + t) = cP s i t) ∧ ∀ g' F' E' m', g' < 2 → g' ≠ g → tbS s g' F' E' m' → owS s g' m' → tbS s' g' F' E' m' ∧ owS s' g' m' := by
  obtain ⟨c, g1, g2, g3, -⟩ := hI
  obtain ⟨m, k, h4, h5, ok⟩ := g3 i hi
  obtain ⟨s1, s', F, E, e, K, f2, o46, o46', oo, ow⟩ := x_owns hN hi hg h4 h5 ok
  have T1 := kn_tbS ok K
  have F3 := kn_F ok K
  have K' := K
  obtain ⟨k1, k2, k3, k4, k5, -⟩ := K'
  have fa : fr [15, 16, 17, 18, 19, 20, 21, 22, 23, 24, 25, 26, 27, 28, 29, 30, 31, 32, 33, 34, 35, 36, 37, 38, 43, 44, 45, 46] s s' := (k1.mo (by decide)).tr (f2.mo (by decide))
  refine ⟨s', F, E, m, k, e, fa.fi (by decide), fa, h4, h5, ok, tbS_fr T1 f2 (by decide), ⟨o46, fun t ht => by rw [ow t ht]; exact ok.2.1 t ht, fun a b hab hb => ?_⟩, F3, ow, fun g' F' E' m' hg' hne T O => ⟨?_, ?_⟩⟩
  · rw [ow a (by omega), ow b hb]
    exact ord_ne ok.2.2.1 hab hb
  · refine tbS_fr ?_ f2 (by decide)
    obtain ⟨h1, h2, h3, h4', h5', h6, h7⟩ := T
    refine ⟨by rw [k3 g' hg' hne]; exact h1, h2, by rw [k5 g' hg' hne]; exact h3, h4', h5', fun t ht => ?_, fun t ht => ?_⟩
    · obtain ⟨r1, r2, r3, r4⟩ := k2 (64 * g' + t) (by omega) (by omega)
      obtain ⟨⟨r, a1, a2, a3, a4⟩, a5, a6, a7⟩ := h6 t ht
      refine ⟨⟨r, a1, a2, by rw [r3]; exact a3, fun j hj => ?_⟩, by rw [r1]; exact a5, by rw [r1]; exact a6, by rw [r2]; exact a7⟩
      obtain ⟨p, p1, p2⟩ := a4 j hj
      have := r4 j (by omega)
      unfold fQ at this
      exact ⟨p, p1, by rw [this]; exact p2⟩
    · obtain ⟨p, q, a1, a2, a3, a4⟩ := h7 t ht
      have r := k4 (80 * g' + t) (by omega)
      have r1 : s1.2.2.1 35 (80 * g' + t) = s.2.2.1 35 (80 * g' + t) := congrArg (fun x : Int32 × Int32 × Int32 × Int32 => x.1) r
      have r2 : s1.2.2.1 36 (80 * g' + t) = s.2.2.1 36 (80 * g' + t) := congrArg (fun x : Int32 × Int32 × Int32 × Int32 => x.2.1) r
      exact ⟨p, q, by rw [r1]; exact a1, by rw [r2]; exact a2, a3, a4⟩
  · obtain ⟨h1, h2, h3⟩ := O
    have m24 := T.2.2.2.2.1
    refine ⟨by rw [o46' g' hg' hne]; exact h1, fun t ht => by rw [oo _ (by omega)]; exact h2 t ht, fun a b hab hb => ?_⟩
    rw [oo _ (by omega), oo _ (by omega)]
    exact h3 a b hab hb
theorem x_count {N : Nat} {a b : Int32} {s : mS} (hN : 1000000 < N) (hI : INV s) : Hd (mxX7_count N a b s) (fun o => fi s o.1) := by
  unfold mxX7_count
  rcases slot_or a with ha | ⟨i, hi, rfl⟩
  · rw [solid_no ha, Option.bind_some]
    exact Hd.ret fi.rf
  rw [solid_in hi, Option.bind_some]
  dsimp only
  rw [if_neg (by decide)]
  obtain ⟨c, g1, g2, g3, -⟩ := hI
  obtain ⟨m, k, h4, h5, ok⟩ := g3 i hi
  obtain ⟨s1, F, E, e1, K⟩ := x_knows (N := N) (g := 0) hN hi (by omega) h4 h5 ok
  have e1' : mxX7_knows N (Int32.ofNat i) 0 s = some s1 := e1
  have f1 : fi s s1 := K.1.fi (by decide)
  have c44 : Hd (mxX7_count_44 N (Int32.ofNat i) b s) (fun o => fi s o.1) := by
    unfold mxX7_count_44
    rw [e1', Option.bind_some, rA_0 (by decide), rA_0 (by decide)]
    by_cases w : b = 2
    · rw [if_pos w]
      exact Hd.ret f1
    · rw [if_neg w]
      exact Hd.ret f1
  rw [rA8 rfl hi, rA8 rfl hi]
  by_cases b0 : b = 0
  · rw [if_pos b0]
    exact Hd.ret fi.rf
  rw [if_neg b0]
  by_cases b1 : b = 1
  · rw [if_pos b1]
    exact Hd.ret fi.rf
  rw [if_neg b1]
  by_cases b2 : b = 2
  · rw [if_pos b2]
    exact c44
  rw [if_neg b2]
  by_cases b3 : b = 3
  · rw [if_pos b3]
    exact c44
  rw [if_neg b3]
  exact Hd.ret fi.rf
theorem x_corner {N : Nat} {a b c : Int32} {s : mS} (hI : INV s) : ∃ v, mxX7_corner N a b c s = some (s, v) := by
  unfold mxX7_corner
  rcases slot_or a with ha | ⟨i, hi, rfl⟩
  · rw [solid_no ha, Option.bind_some]
    exact ⟨_, rfl⟩
  rw [solid_in hi, Option.bind_some]
  dsimp only
  rw [if_neg (by decide)]
  by_cases b0 : b < 0
  · rw [if_pos b0]
    exact ⟨_, rfl⟩
  rw [if_neg b0, rA8 rfl hi, Option.bind_some]
  obtain ⟨-, -, -, g3, -⟩ := hI
  obtain ⟨m, k, h4, h5, ok⟩ := g3 i hi
  have m24 := ok.1
  rw [h4]
  by_cases b1 : b < Int32.ofNat m
  · obtain ⟨j, hj, rfl⟩ := in_rng (by omega) b0 b1
    rw [if_pos b1, i_24, rA192 rfl (by omega), rA192 rfl (by omega), rA192 rfl (by omega)]
    by_cases c0 : c = 0
    · rw [if_pos c0]
      exact ⟨_, rfl⟩
    rw [if_neg c0]
    by_cases c1 : c = 1
    · rw [if_pos c1]
      exact ⟨_, rfl⟩
    rw [if_neg c1]
    by_cases c2 : c = 2
    · rw [if_pos c2]
      exact ⟨_, rfl⟩
    rw [if_neg c2]
    exact ⟨_, rfl⟩
  · rw [if_neg b1]
    exact ⟨_, rfl⟩
theorem x_edge {N : Nat} {a b c : Int32} {s : mS} (hN : 1000000 < N) (hI : INV s) : Hd (mxX7_edge N a b c s) (fun o => fi s o.1) := by
  unfold mxX7_edge
  rcases slot_or a with ha | ⟨i, hi, rfl⟩
  · rw [solid_no ha, Option.bind_some]
    exact Hd.ret fi.rf
  rw [solid_in hi, Option.bind_some]
  dsimp only
  rw [if_neg (by decide)]
  by_cases b0 : 0 ≤ b
  · rw [if_pos b0]
    obtain ⟨-, g1, g2, g3, -⟩ := hI
    obtain ⟨m, k, h4, h5, ok⟩ := g3 i hi
    obtain ⟨s1, F, E, e1, K⟩ := x_knows (N := N) (g := 0) hN hi (by omega) h4 h5 ok
    have e1' : mxX7_knows N (Int32.ofNat i) 0 s = some s1 := e1
    have f1 : fi s s1 := K.1.fi (by decide)
    have T := kn_tbS ok K
    rw [e1', Option.bind_some, rA_0 (by decide), Option.bind_some, T.2.2.1]
    by_cases b1 : b < Int32.ofNat E
    · have hE := T.2.2.2.1
      obtain ⟨e, he, rfl⟩ := in_rng (by omega) (nn_rng b0) b1
      rw [if_pos b1, rA160 rfl (by omega), rA160 rfl (by omega), rA160 rfl (by omega), rA160 rfl (by omega)]
      by_cases c0 : c = 0
      · rw [if_pos c0]
        exact Hd.ret f1
      rw [if_neg c0]
      by_cases c1 : c = 1
      · rw [if_pos c1]
        exact Hd.ret f1
      rw [if_neg c1]
      by_cases c2 : c = 2
      · rw [if_pos c2]
        exact Hd.ret f1
      rw [if_neg c2]
      by_cases c3 : c = 3
      · rw [if_pos c3]
        exact Hd.ret f1
      rw [if_neg c3]
      exact Hd.ret f1
    · rw [if_neg b1]
      exact Hd.ret f1
  · rw [if_neg b0]
    exact Hd.ret fi.rf
theorem v0_ne {a : Int64} (h : a.toInt ≠ 0) : ¬ (a = 0) := by
  intro e
  rw [e] at h
  exact h rfl
theorem x_ar26 {N F E m f : Nat} {s : mS} (hT : tbS s 0 F E m) (hf : f < F) (bd : ∀ t, t < m → bd3 (hp s t) 200) : ∀ (q fu j : Nat) (x y z : Int64) (h : mS), fr [24, 25, 26] s h → (∃ r, s.2.2.1 32 f = Int32.ofNat r ∧ r ≤ 25 ∧ 3 ≤ r ∧ j + q + 1 = r) → 1 ≤ j → q < fu → Hd (mxX7_area_26 N fu (Int32.ofNat f) x y z (Int32.ofNat j) h) (fun o => fr [24, 25, 26] s o.1) := by
  obtain ⟨t1, t2, t3, t4, t5, t6, t7⟩ := hT
  obtain ⟨⟨r, a1, a2, a3, a4⟩, a5, a6, -⟩ := t6 f hf
  have a3' : s.2.2.1 32 f = Int32.ofNat r := by
    have := a3
    rw [Nat.mul_zero, Nat.zero_add] at this
    exact this
  have a6' : fN s f ≠ v0 := by
    have := a6
    rw [Nat.mul_zero, Nat.zero_add] at this
    exact this
  have a4' : ∀ j, j < r → ∃ p, p < m ∧ s.2.2.1 33 (25 * f + j) = Int32.ofNat p := by
    intro j hj
    have := a4 j hj
    rw [Nat.mul_zero, Nat.zero_add] at this
    exact this
  intro q
  induction q with
  | zero =>
    intro fu j x y z h f1 hr hj hfu
    obtain ⟨f', rfl⟩ : ∃ f', fu = f' + 1 := ⟨fu - 1, by omega⟩
    obtain ⟨r', r1, r2, r3, r4⟩ := hr
    have rr : r' = r := i_inj (by omega) (by omega) (r1.symm.trans a3')
    subst rr
    have e28 : h.2.2.2 28 = s.2.2.2 28 := f1.G (by decide)
    have e29 : h.2.2.2 29 = s.2.2.2 29 := f1.G (by decide)
    have e30 : h.2.2.2 30 = s.2.2.2 30 := f1.G (by decide)
    rw [mxX7_area_26, rA128 rfl (by omega), Option.bind_some, f1.A (by decide), r1, i_s, if_pos (by rw [i_le (by omega) (by omega)]; omega), rG128 rfl (by omega), Option.bind_some, e28]
    by_cases z1 : s.2.2.2 28 f = 0
    · rw [if_pos z1, rG128 rfl (by omega), Option.bind_some, e29]
      by_cases z2 : s.2.2.2 29 f = 0
      · rw [if_pos z2, rG128 rfl (by omega), Option.bind_some, e30]
        have z3 : ¬ (s.2.2.2 30 f = 0) := by
          intro z3
          refine a6' (v3_ext ?_ ?_ ?_)
          · show (s.2.2.2 28 f).toInt = 0
            rw [z1]
            rfl
          · show (s.2.2.2 29 f).toInt = 0
            rw [z2]
            rfl
          · show (s.2.2.2 30 f).toInt = 0
            rw [z3]
            rfl
        rw [if_neg z3]
        exact Hd.ret f1
      · rw [if_neg z2, Option.bind_some, if_neg z2]
        exact Hd.ret f1
    · rw [if_neg z1, Option.bind_some, if_neg z1]
      exact Hd.ret f1
  | succ q ih =>
    intro fu j x y z h f1 hr hj hfu
    obtain ⟨f', rfl⟩ : ∃ f', fu = f' + 1 := ⟨fu - 1, by omega⟩
    obtain ⟨r', r1, r2, r3, r4⟩ := hr
    have rr : r' = r := i_inj (by omega) (by omega) (r1.symm.trans a3')
    subst rr
    have ne : ¬ (Int32.ofNat r' ≤ Int32.ofNat (j + 1)) := by
      rw [i_le (by omega) (by omega)]
      omega
    obtain ⟨p0, p1, p2⟩ := a4' 0 (by omega)
    obtain ⟨q0, q1, q2⟩ := a4' j (by omega)
    obtain ⟨u0, u1, u2⟩ := a4' (j + 1) (by omega)
    rw [Nat.add_zero] at p2
    have hpe : ∀ t, hp h t = hp s t := by
      intro t
      unfold hp
      rw [f1.G (by decide), f1.G (by decide), f1.G (by decide)]
    obtain ⟨s1, e1, n1, b1, sm1⟩ := x_across (N := N) (p := p0) (q := q0) (r := u0) (s := h) (by omega) (by omega) (by omega) (by rw [hpe]; exact bd p0 p1) (by rw [hpe]; exact bd q0 q1) (by rw [hpe]; exact bd u0 u1)
    rw [mxX7_area_26, rA128 rfl (by omega), Option.bind_some, f1.A (by decide), r1, i_s, if_neg ne, i_c25, rA3200 rfl (by omega), Option.bind_some, i_ad, rA3200 rfl (by omega), Option.bind_some, i_s, rA3200 rfl (by omega), Option.bind_some, f1.A (by decide), p2, q2, show 25 * f + j + 1 = 25 * f + (j + 1) by omega, u2, e1, Option.bind_some]
    exact ih f' (j + 1) _ _ _ s1 (f1.tr (smN_fr sm1)) ⟨r', r1, r2, r3, by omega⟩ (by omega) (by omega)
theorem x_area {N F E m f : Nat} {s : mS} (hN : 600 < N) (hT : tbS s 0 F E m) (hf : f < F) (bd : ∀ t, t < m → bd3 (hp s t) 200) : Hd (mxX7_area N (Int32.ofNat f) s) (fun o => fr [24, 25, 26] s o.1) := by
  unfold mxX7_area
  rw [Option.bind_some, Option.bind_some, Option.bind_some]
  have f1 : fr [24, 25, 26] s (pJ (pJ (pJ s 24 0) 25 0) 26 0) := (((fr_pJ _ _ _).mo (by decide)).tr ((fr_pJ _ _ _).mo (by decide))).tr ((fr_pJ _ _ _).mo (by decide))
  obtain ⟨⟨r, a1, a2, a3, a4⟩, -⟩ := hT.2.2.2.2.2.1 f hf
  rw [Nat.mul_zero, Nat.zero_add] at a3
  exact x_ar26 hT hf bd (r - 2) N 1 0 0 0 _ f1 ⟨r, a3, a2, a1, by omega⟩ (by omega) (by omega)
theorem x_face {N : Nat} {a b c : Int32} {s : mS} (hN : 1000000 < N) (hI : INV s) : Hd (mxX7_face N a b c s) (fun o => fi s o.1) := by
  unfold mxX7_face
  rcases slot_or a with ha | ⟨i, hi, rfl⟩
  · rw [solid_no ha, Option.bind_some]
    exact Hd.ret fi.rf
  rw [solid_in hi, Option.bind_some]
  dsimp only
  rw [if_neg (by decide)]
  by_cases b0 : 0 ≤ b
  · rw [if_pos b0]
    obtain ⟨-, g1, g2, g3, -⟩ := hI
    obtain ⟨m, k, h4, h5, ok⟩ := g3 i hi
    obtain ⟨s1, F, E, e1, K⟩ := x_knows (N := N) (g := 0) hN hi (by omega) h4 h5 ok
    have e1' : mxX7_knows N (Int32.ofNat i) 0 s = some s1 := e1
    have f1 : fi s s1 := K.1.fi (by decide)
    have T := kn_tbS ok K
    have hO : hpO s1 m := K.2.2.2.2.2.1
    rw [e1', Option.bind_some, rA_0 (by decide), Option.bind_some, T.1]
    by_cases b1 : b < Int32.ofNat F
    · have hF := T.2.1
      obtain ⟨f, hf, rfl⟩ := in_rng (by omega) (nn_rng b0) b1
      rw [if_pos b1, rG128 rfl (by omega), rG128 rfl (by omega), rG128 rfl (by omega), rG128 rfl (by omega), rA128 rfl (by omega)]
      by_cases c0 : c = 0
      · rw [if_pos c0]
        exact Hd.ret f1
      rw [if_neg c0]
      by_cases c1 : c = 1
      · rw [if_pos c1]
        exact Hd.ret f1
      rw [if_neg c1]
      by_cases c2 : c = 2
      · rw [if_pos c2]
        exact Hd.ret f1
      rw [if_neg c2]
      by_cases c3 : c = 3
      · rw [if_pos c3]
        exact Hd.ret f1
      rw [if_neg c3]
      by_cases c4 : c = 4
      · rw [if_pos c4]
        exact Hd.ret f1
      rw [if_neg c4]
      by_cases c5 : c = 5
      · rw [if_pos c5]
        exact (x_area (by omega) T hf hO.2.1).bnd (fun o ho => Hd.ret (f1.tr (ho.fi (by decide))))
      rw [if_neg c5]
      by_cases c6 : c ≤ 5
      · rw [if_pos c6]
        exact Hd.ret f1
      rw [if_neg c6, Option.bind_some]
      obtain ⟨⟨r, a1, a2, a3, a4⟩, -⟩ := T.2.2.2.2.2.1 f hf
      rw [Nat.mul_zero, Nat.zero_add] at a3
      rw [a3]
      by_cases c7 : Int32.ofNat r ≤ c - 6
      · rw [if_pos c7]
        exact Hd.ret f1
      · rw [if_neg c7]
        have v5 : (5 : Int32).toInt = 5 := rfl
        have v6 : (6 : Int32).toInt = 6 := rfl
        have hl := Int32.toInt_lt c
        rw [Int32.le_iff_toInt_le, v5] at c6
        have s6 : (c - 6).toInt = c.toInt - 6 := by
          rw [Int32.toInt_sub, v6]
          exact bm32 (by omega)
        rw [Int32.le_iff_toInt_le, Int32.toInt_ofNat_of_lt (by omega), s6] at c7
        have ec : c = Int32.ofNat (c.toInt.toNat) := by
          apply Int32.toInt_inj.mp
          rw [Int32.toInt_ofNat_of_lt (by omega)]
          omega
        have cb : 6 ≤ c.toInt.toNat ∧ c.toInt.toNat < r + 6 := by omega
        generalize c.toInt.toNat = j at ec cb
        subst ec
        obtain ⟨j', rfl⟩ : ∃ j', j = j' + 6 := ⟨j - 6, by omega⟩
        have ix : (25 : Int32) * Int32.ofNat f + Int32.ofNat (j' + 6) - 6 = Int32.ofNat (25 * f + j') := by
          rw [i_25, show 25 * f + (j' + 6) = (25 * f + j') + 6 by omega, Int32.ofNat_add]
          exact Int32.add_sub_cancel _ _
        rw [ix, rA3200 rfl (by omega), Option.bind_some]
        exact Hd.ret f1
    · rw [if_neg b1]
      exact Hd.ret f1
  · rw [if_neg b0]
    exact Hd.ret fi.rf
