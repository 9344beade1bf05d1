theorem ry_1 (p1 p2 p3 q1 q2 q3 r1 r2 r3 : Int) : p1 * (q2 * r3 - q3 * r2) + p2 * (q3 * r1 - q1 * r3) + p3 * (q1 * r2 - q2 * r1) = (p2 * q3 - p3 * q2) * r1 + (p3 * q1 - p1 * q3) * r2 + (p1 * q2 - p2 * q1) * r3 := by grind
/-- the moments, as the reference adds them up -/
def momV (P : Nat → V3) (π : V3 → Int) (F : Nat) (rf : Nat → Nat) (ρf : Nat → Nat → Nat) : Int := zs (fun f => zs (fun j => dt (P (ρf f 0)) (P (ρf f (j + 1))) (P (ρf f (j + 2))) * (π (P (ρf f 0)) + π (P (ρf f (j + 1))) + π (P (ρf f (j + 2))))) (rf f - 2)) F
/-- what stands while adds goes through the triangles: those before f, and j of f -/
def adI (s h : mS) (rf : Nat → Nat) (ρf : Nat → Nat → Nat) (f j : Nat) : Prop := fr [47, 48, 49, 50] s h ∧ bv (h.2.1 47) (sixV (hp s) f rf ρf + zs (fun j => dt (hp s (ρf f 0)) (hp s (ρf f (j + 1))) (hp s (ρf f (j + 2)))) j) (6000000 * (25 * f + j)) ∧ bv (h.2.1 48) (momV (hp s) (fun p => p.1) f rf ρf + zs (fun j => dt (hp s (ρf f 0)) (hp s (ρf f (j + 1))) (hp s (ρf f (j + 2))) * ((hp s (ρf f 0)).1 + (hp s (ρf f (j + 1))).1 + (hp s (ρf f (j + 2))).1)) j) (1800000000 * (25 * f + j)) ∧ bv (h.2.1 49) (momV (hp s) (fun p => p.2.1) f rf ρf + zs (fun j => dt (hp s (ρf f 0)) (hp s (ρf f (j + 1))) (hp s (ρf f (j + 2))) * ((hp s (ρf f 0)).2.1 + (hp s (ρf f (j + 1))).2.1 + (hp s (ρf f (j + 2))).2.1)) j) (1800000000 * (25 * f + j)) ∧ bv (h.2.1 50) (momV (hp s) (fun p => p.2.2) f rf ρf + zs (fun j => dt (hp s (ρf f 0)) (hp s (ρf f (j + 1))) (hp s (ρf f (j + 2))) * ((hp s (ρf f 0)).2.2 + (hp s (ρf f (j + 1))).2.2 + (hp s (ρf f (j + 2))).2.2)) j) (1800000000 * (25 * f + j))
theorem bv_eq {a : Int64} {x y : Int} {A : Nat} (h : bv a x A) (e : x = y) : bv a y A := by
  rw [← e]
  exact h
theorem tri_bv {s : mS} {p q r : Nat} (bp : bd3 (hp s p) 100) (bq : bd3 (hp s q) 100) (b_r : bd3 (hp s r) 100) : bv (s.2.2.2 16 p * (s.2.2.2 17 q * s.2.2.2 18 r - s.2.2.2 18 q * s.2.2.2 17 r) + s.2.2.2 17 p * (s.2.2.2 18 q * s.2.2.2 16 r - s.2.2.2 16 q * s.2.2.2 18 r) + s.2.2.2 18 p * (s.2.2.2 16 q * s.2.2.2 17 r - s.2.2.2 17 q * s.2.2.2 16 r)) (dt (hp s p) (hp s q) (hp s r)) 6000000 := by
  have h1 := bv_mul (b16 bp) (bv_sub (bv_mul (b17 bq) (b18 b_r) (by decide)) (bv_mul (b18 bq) (b17 b_r) (by decide)) (by decide)) (by decide)
  have h2 := bv_mul (b17 bp) (bv_sub (bv_mul (b18 bq) (b16 b_r) (by decide)) (bv_mul (b16 bq) (b18 b_r) (by decide)) (by decide)) (by decide)
  have h3 := bv_mul (b18 bp) (bv_sub (bv_mul (b16 bq) (b17 b_r) (by decide)) (bv_mul (b17 bq) (b16 b_r) (by decide)) (by decide)) (by decide)
  have h := bv_add (bv_add h1 h2 (by decide)) h3 (by decide)
  exact bv_eq (bv_le h (by decide)) (ry_1 _ _ _ _ _ _ _ _ _)
theorem x_ad34 {N m F f : Nat} {rf : Nat → Nat} {ρf : Nat → Nat → Nat} {rec22 : Int32 → mS → Option mS} {s : mS} {R : mS → Prop} (hm : m ≤ 24) (hF : F ≤ 44) (bd : ∀ t, t < m → bd3 (hp s t) 100) (hf : f < F) (ht : tbF (hp s) m s 0 F rf ρf) (hrec : ∀ h, adI s h rf ρf (f + 1) 0 → Hd (rec22 (Int32.ofNat (f + 1)) h) R) : ∀ (q fu j : Nat) (h : mS), j + q + 2 = rf f → q < fu → adI s h rf ρf f j → Hd (mxX7_adds_34 N rec22 fu (Int32.ofNat f) (Int32.ofNat (j + 1)) h) R := by
  obtain ⟨t1, t2, t3, t4, t5, t6, t7⟩ := ht f hf
  rw [Nat.mul_zero, Nat.zero_add] at t5
  have t6' : ∀ j, j < rf f → s.2.2.1 33 (25 * f + j) = Int32.ofNat (ρf f j) ∧ ρf f j < m := by
    intro j hj
    have := t6 j hj
    rw [Nat.mul_zero, Nat.zero_add] at this
    exact this
  intro q
  induction q with
  | zero =>
    intro fu j h hj hfu hI
    obtain ⟨f', rfl⟩ : ∃ f', fu = f' + 1 := ⟨fu - 1, by omega⟩
    obtain ⟨g1, i1, i2, i3, i4⟩ := hI
    rw [mxX7_adds_34, rA128 rfl (by omega), Option.bind_some, g1.A (by decide), t5, i_s, if_pos (by rw [i_le (by omega) (by omega)]; omega), i_s]
    have ej : j = rf f - 2 := by omega
    refine hrec h ⟨g1, bv_le (bv_eq i1 ?_) (by omega), bv_le (bv_eq i2 ?_) (by omega), bv_le (bv_eq i3 ?_) (by omega), bv_le (bv_eq i4 ?_) (by omega)⟩
    · rw [ej]
      show _ = (sixV (hp s) f rf ρf + _) + 0
      rw [Int.add_zero]
    · rw [ej]
      show _ = (momV (hp s) (fun p => p.1) f rf ρf + _) + 0
      rw [Int.add_zero]
    · rw [ej]
      show _ = (momV (hp s) (fun p => p.2.1) f rf ρf + _) + 0
      rw [Int.add_zero]
    · rw [ej]
      show _ = (momV (hp s) (fun p => p.2.2) f rf ρf + _) + 0
      rw [Int.add_zero]
  | succ q ih =>
    intro fu j h hj hfu hI
    obtain ⟨f', rfl⟩ : ∃ f', fu = f' + 1 := ⟨fu - 1, by omega⟩
    obtain ⟨g1, i1, i2, i3, i4⟩ := hI
    have ne : ¬ (Int32.ofNat (rf f) ≤ Int32.ofNat (j + 1 + 1)) := by
      rw [i_le (by omega) (by omega)]
      omega
    obtain ⟨p1, p2⟩ := t6' 0 (by omega)
    obtain ⟨q1, q2⟩ := t6' (j + 1) (by omega)
    obtain ⟨u1, u2⟩ := t6' (j + 2) (by omega)
    rw [Nat.add_zero] at p1
    have e33 : h.2.2.1 33 = s.2.2.1 33 := g1.A (by decide)
    have hps : ∀ t, hp h t = hp s t := by
      intro t
      unfold hp
      rw [g1.G (by decide), g1.G (by decide), g1.G (by decide)]
    have bp : bd3 (hp h (ρf f 0)) 100 := by rw [hps]; exact bd _ p2
    have bq : bd3 (hp h (ρf f (j + 1))) 100 := by rw [hps]; exact bd _ q2
    have bu : bd3 (hp h (ρf f (j + 2))) 100 := by rw [hps]; exact bd _ u2
    have T := tri_bv bp bq bu
    have S1 := bv_add (bv_add (b16 bp) (b16 bq) (by decide)) (b16 bu) (by decide)
    have S2 := bv_add (bv_add (b17 bp) (b17 bq) (by decide)) (b17 bu) (by decide)
    have S3 := bv_add (bv_add (b18 bp) (b18 bq) (by decide)) (b18 bu) (by decide)
    have M1 := bv_mul T S1 (by decide)
    have M2 := bv_mul T S2 (by decide)
    have M3 := bv_mul T S3 (by decide)
    rw [hps, hps, hps] at T M1 M2 M3
    rw [mxX7_adds_34, rA128 rfl (by omega), Option.bind_some, g1.A (by decide), t5, i_s, if_neg ne, i_c25, rA3200 rfl (by omega), Option.bind_some, e33, p1, i_ad, rA3200 rfl (by omega), Option.bind_some, i_s, rA3200 rfl (by omega), Option.bind_some, e33, q1, show 25 * f + (j + 1) + 1 = 25 * f + (j + 2) by omega, u1]
    rw [rG600 rfl (by omega), Option.bind_some, rG600 rfl (by omega), Option.bind_some, rG600 rfl (by omega), Option.bind_some, rG600 rfl (by omega), Option.bind_some, rG600 rfl (by omega), Option.bind_some, rG600 rfl (by omega), Option.bind_some, Option.bind_some, rG600 rfl (by omega), Option.bind_some, rG600 rfl (by omega), Option.bind_some, Option.bind_some, rG600 rfl (by omega), Option.bind_some, Option.bind_some, Option.bind_some, Option.bind_some, Option.bind_some, Option.bind_some]
    rw [rG600 rfl (by omega), Option.bind_some, rG600 rfl (by omega), Option.bind_some, rG600 rfl (by omega), Option.bind_some, Option.bind_some]
    rw [rG600 rfl (by omega), Option.bind_some, rG600 rfl (by omega), Option.bind_some, rG600 rfl (by omega), Option.bind_some, Option.bind_some]
    rw [rG600 rfl (by omega), Option.bind_some, rG600 rfl (by omega), Option.bind_some, rG600 rfl (by omega), Option.bind_some, Option.bind_some]
    refine ih f' (j + 1) _ (by omega) (by omega) ⟨g1.tr (((((fr_pJ _ _ _).mo (by decide)).tr ((fr_pJ _ _ _).mo (by decide))).tr ((fr_pJ _ _ _).mo (by decide))).tr ((fr_pJ _ _ _).mo (by decide))), ?_, ?_, ?_, ?_⟩
    · exact bv_le (bv_eq (bv_add i1 T (by omega)) (Int.add_assoc _ _ _)) (by omega)
    · exact bv_le (bv_eq (bv_add i2 M1 (by omega)) (Int.add_assoc _ _ _)) (by omega)
    · exact bv_le (bv_eq (bv_add i3 M2 (by omega)) (Int.add_assoc _ _ _)) (by omega)
    · exact bv_le (bv_eq (bv_add i4 M3 (by omega)) (Int.add_assoc _ _ _)) (by omega)
theorem x_ad22 {N m F : Nat} {rf : Nat → Nat} {ρf : Nat → Nat → Nat} {s : mS} (hN : 600 < N) (hm : m ≤ 24) (hF : F ≤ 44) (h27 : s.2.2.1 27 0 = Int32.ofNat F) (bd : ∀ t, t < m → bd3 (hp s t) 100) (ht : tbF (hp s) m s 0 F rf ρf) : ∀ (q fu f : Nat) (h : mS), f + q = F → q < fu → adI s h rf ρf f 0 → Hd (mxX7_adds_22 N fu (Int32.ofNat f) h) (fun h => adI s h rf ρf F 0) := by
  intro q
  induction q with
  | zero =>
    intro fu f h hf hfu hI
    obtain ⟨f', rfl⟩ : ∃ f', fu = f' + 1 := ⟨fu - 1, by omega⟩
    have hfF : f = F := by omega
    subst hfF
    rw [mxX7_adds_22, rA_0 (by decide), Option.bind_some, hI.1.A (by decide), h27, if_pos (Int32.le_refl _)]
    exact Hd.ret hI
  | succ q ih =>
    intro fu f h hf hfu hI
    obtain ⟨f', rfl⟩ : ∃ f', fu = f' + 1 := ⟨fu - 1, by omega⟩
    have ne : ¬ (Int32.ofNat F ≤ Int32.ofNat f) := by
      rw [i_le (by omega) (by omega)]
      omega
    rw [mxX7_adds_22, rA_0 (by decide), Option.bind_some, hI.1.A (by decide), h27, if_neg ne]
    have t3 := (ht f (by omega)).2.2.1
    have t4 := (ht f (by omega)).2.2.2.1
    exact x_ad34 (N := N) hm hF bd (by omega) ht (fun h hI => ih f' (f + 1) h (by omega) (by omega) hI) (rf f - 2) N 0 h (by omega) (by omega) hI
/-- adds: six times the volume, and the moments -/
theorem x_adds {N m F : Nat} {rf : Nat → Nat} {ρf : Nat → Nat → Nat} {s : mS} (hN : 600 < N) (hm : m ≤ 24) (hF : F ≤ 44) (h27 : s.2.2.1 27 0 = Int32.ofNat F) (bd : ∀ t, t < m → bd3 (hp s t) 100) (ht : tbF (hp s) m s 0 F rf ρf) : ∃ s', mxX7_adds N s = some s' ∧ adI s s' rf ρf F 0 := by
  unfold mxX7_adds
  rw [Option.bind_some, Option.bind_some, Option.bind_some, Option.bind_some]
  refine x_ad22 (N := N) hN hm hF h27 bd ht F N 0 _ (by omega) (by omega) ⟨((((fr_pJ _ _ _).mo (by decide)).tr ((fr_pJ _ _ _).mo (by decide))).tr ((fr_pJ _ _ _).mo (by decide))).tr ((fr_pJ _ _ _).mo (by decide)), ⟨rfl, Nat.le_refl 0⟩, ⟨rfl, Nat.le_refl 0⟩, ⟨rfl, Nat.le_refl 0⟩, ⟨rfl, Nat.le_refl 0⟩⟩
theorem ad_end {s h : mS} {rf : Nat → Nat} {ρf : Nat → Nat → Nat} {F : Nat} (hF : F ≤ 44) (hI : adI s h rf ρf F 0) : bv (h.2.1 47) (sixV (hp s) F rf ρf) 6600000000 ∧ bv (h.2.1 48) (momV (hp s) (fun p => p.1) F rf ρf) 1980000000000 ∧ bv (h.2.1 49) (momV (hp s) (fun p => p.2.1) F rf ρf) 1980000000000 ∧ bv (h.2.1 50) (momV (hp s) (fun p => p.2.2) F rf ρf) 1980000000000 := by
  obtain ⟨-, i1, i2, i3, i4⟩ := hI
  exact ⟨bv_le (bv_eq i1 (Int.add_zero _)) (by omega), bv_le (bv_eq i2 (Int.add_zero _)) (by omega), bv_le (bv_eq i3 (Int.add_zero _)) (by omega), bv_le (bv_eq i4 (Int.add_zero _)) (by omega)⟩
/-- knows and adds, of KIND 4 -/
theorem x_kadds {N i m k : Nat} {s : mS} (hN : 1000000 < N) (hi : i < 8) (h4 : s.2.2.1 4 i = Int32.ofNat m) (h5 : s.2.2.1 5 i = Int32.ofNat k) (ok : okP (cP s i) m k) (k4 : k = 4) : ∃ s1 s2 F E rf ρf, mxX7_knows N (Int32.ofNat i) 0 s = some s1 ∧ knO s s1 i 0 m k F E ∧ mxX7_adds N s1 = some s2 ∧ fi s s2 ∧ tbF (hp s1) m s1 0 F rf ρf ∧ bv (s2.2.1 47) (sixV (hp s1) F rf ρf) 6600000000 ∧ bv (s2.2.1 48) (momV (hp s1) (fun p => p.1) F rf ρf) 1980000000000 ∧ bv (s2.2.1 49) (momV (hp s1) (fun p => p.2.1) F rf ρf) 1980000000000 ∧ bv (s2.2.1 50) (momV (hp s1) (fun p => p.2.2) F rf ρf) 1980000000000 ∧ 0 < sixV (hp s1) F rf ρf := by
  obtain ⟨s1, F, E, e1, K⟩ := x_knows (N := N) (g := 0) hN hi (by omega) h4 h5 ok
  have F1 := kn_F4 ok K k4
  have K' := K
  obtain ⟨q1, q2, q3, q4, q5, q6, q7, q8, q9, q10, q11, q12, q13, q14, q15, q16, q17⟩ := K'
  obtain ⟨rf, ρf, ht, -⟩ := q16 (by omega)
  have ok1 : okP (hp s1) m k := okP_congr q7 ok
  obtain ⟨s2, e2, I2⟩ := x_adds (N := N) (by omega) ok.1 q11 q8.1 ok1.2.1 ht
  obtain ⟨b1, b2, b3, b4⟩ := ad_end q11 I2
  have hfull : full (hp s1) m := by
    rcases ok1.2.2.2.2 with ⟨w1, w2⟩ | ⟨w1, w2, -⟩ | ⟨w1, w2, w3⟩
    · omega
    · omega
    · exact w3
  exact ⟨s1, s2, F, E, rf, ρf, e1, K, e2, (q1.fi (by decide)).tr (I2.1.fi (by decide)), ht, b1, b2, b3, b4, sixV_pos ok1.2.2.1 hfull (okP_hdi ok1) q8 ht (q12 (by omega)) F1⟩
theorem x_volume {N : Nat} {a : Int32} {s : mS} (hN : 1000000 < N) (hI : INV s) : Hd (mxX7_volume N a s) (fun o => fi s o.1) := by
  unfold mxX7_volume
  rcases slot_or a with ha | ⟨i, hi, rfl⟩
  · rw [solid_no ha, Option.bind_some]
    exact Hd.ret fi.rf
  rw [solid_in hi, Option.bind_some]
  dsimp only
  rw [if_neg (by decide), rA8 rfl hi, Option.bind_some]
  obtain ⟨-, -, -, g3, -⟩ := hI
  obtain ⟨m, k, h4, h5, ok⟩ := g3 i hi
  have k4 := okP_k ok
  rw [h5]
  have l4 : ((4 : Int32) ≤ Int32.ofNat k) = (4 ≤ k) := i_le (a := 4) (b := k) (by omega) (by omega)
  by_cases c : 4 ≤ k
  · rw [if_pos (by rw [l4]; exact c)]
    obtain ⟨s1, s2, F, E, rf, ρf, e1, -, e2, f2, -⟩ := x_kadds (N := N) hN hi h4 h5 ok (by omega)
    rw [e1, Option.bind_some, e2, Option.bind_some]
    exact Hd.ret f2
  · rw [if_neg (by rw [l4]; exact c)]
    exact Hd.ret fi.rf
theorem x_middle {N : Nat} {a b w : Int32} {s : mS} (hN : 4611686018427387904 < N) (hI : INV s) : Hd (mxX7_middle N a b w s) (fun o => fi s o.1) := by
  unfold mxX7_middle
  rcases slot_or a with ha | ⟨i, hi, rfl⟩
  · rw [solid_no ha, Option.bind_some]
    exact Hd.ret fi.rf
  rw [solid_in hi, Option.bind_some]
  dsimp only
  rw [if_neg (by decide), rA8 rfl hi, Option.bind_some]
  obtain ⟨-, -, -, g3, -⟩ := hI
  obtain ⟨m, k, h4, h5, ok⟩ := g3 i hi
  have k4 := okP_k ok
  rw [h5]
  have l4 : (Int32.ofNat k < (4 : Int32)) = (k < 4) := i_lt (a := k) (b := 4) (by omega) (by omega)
  by_cases c : k < 4
  · rw [if_pos (by rw [l4]; exact c)]
    exact Hd.ret fi.rf
  · rw [if_neg (by rw [l4]; exact c)]
    obtain ⟨s1, s2, F, E, rf, ρf, e1, -, e2, f2, -, b1, b2, b3, b4, pos⟩ := x_kadds (N := N) (by omega) hi h4 h5 ok (by omega)
    have m74 : ∀ (v : Int64) (X : Int), bv v X 1980000000000 → Hd (mxX7_middle_74 N w v s2) (fun o => fi s o.1) := by
      intro v X hv
      unfold mxX7_middle_74
      have b6 : bv (4 * s2.2.1 47) (4 * sixV (hp s1) F rf ρf) (4 * 6600000000) := bv_mul (⟨rfl, by decide⟩ : bv 4 4 4) b1 (by decide)
      obtain ⟨g, e, ⟨g0, gz, -, -, -⟩, -⟩ := x_common (N := N) (M := 4611686018427387903) (a := v) (b := 4 * s2.2.1 47) (s := s2) (by rw [hv.1]; have := hv.2; omega) (by rw [b6.1]; have := b6.2; omega) (by decide) (by omega)
      have gn : ¬ (g = 0) := fun q => by
        rw [q] at gz
        have := (gz rfl).2
        rw [b6.1] at this
        omega
      rw [e, Option.bind_some]
      dsimp only
      rw [if_neg gn, if_neg gn]
      split
      · exact Hd.ret f2
      · exact Hd.ret f2
    have m37 : Hd (mxX7_middle_37 N (Int32.ofNat i) b w s) (fun o => fi s o.1) := by
      unfold mxX7_middle_37
      rw [e1, Option.bind_some, e2, Option.bind_some]
      split
      · exact m74 _ _ b2
      · split
        · exact m74 _ _ b3
        · exact m74 _ _ b4
    split
    · exact Hd.ret fi.rf
    · split
      · exact Hd.ret fi.rf
      · split
        · exact m37
        · split
          · exact m37
          · exact Hd.ret fi.rf
