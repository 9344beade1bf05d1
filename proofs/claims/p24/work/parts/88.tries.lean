theorem dv64 {x y : Int64} {Y : Nat} (hy : y.toInt = (Y : Int)) (hY : 0 < Y) (hx : 0 ≤ x.toInt) (bx : x.toInt.natAbs < 4611686018427387904) (bY : Y < 4611686018427387904) : (x / y).toInt = x.toInt / (Y : Int) ∧ (x - x / y * y).toInt = x.toInt % (Y : Int) ∧ 0 ≤ x.toInt % (Y : Int) ∧ x.toInt % (Y : Int) < (Y : Int) := by
  have h1 : x.toInt / (Y : Int) ≤ x.toInt := Int.ediv_le_self _ hx
  have h2 : 0 ≤ x.toInt / (Y : Int) := Int.ediv_nonneg hx (by omega)
  have hq : (x / y).toInt = x.toInt / (Y : Int) := by
    rw [Int64.toInt_div, hy, Int.tdiv_eq_ediv_of_nonneg hx]
    apply bm
    omega
  have hm := Int.emod_def x.toInt (Y : Int)
  have m0 := Int.emod_nonneg x.toInt (show (Y : Int) ≠ 0 by omega)
  have m1 := Int.emod_lt_of_pos x.toInt (show (0 : Int) < (Y : Int) by omega)
  have hqy : (x / y * y).toInt = x.toInt / (Y : Int) * (Y : Int) := by
    rw [Int64.toInt_mul, hq, hy]
    apply bm
    rw [Int.mul_comm]
    omega
  refine ⟨hq, ?_, m0, m1⟩
  rw [Int64.toInt_sub, hqy, hm, Int.mul_comm]
  apply bm
  rw [← hm]
  omega
theorem x_f17 {N : Nat} {s : mS} : ∀ (Y f : Nat) (p q r t : Int64) (w : Int32), q.toInt = (Y : Int) → 0 < Y → Y < 4611686018427387904 → 0 ≤ p.toInt → p.toInt.natAbs < 4611686018427387904 → 0 < t.toInt → t.toInt.natAbs < 4611686018427387904 → 0 ≤ r.toInt → r.toInt.natAbs < 4611686018427387904 → Y < f → ∃ v, mxX7_fractions_17 N f p q r t w s = some (s, v) := by
  intro Y
  induction Y using Nat.strongRecOn with
  | ind Y ih =>
    intro f p q r t w hq hY bY p0 bp t0 bt r0 b_r hf
    obtain ⟨f', rfl⟩ : ∃ f', f = f' + 1 := ⟨f - 1, by omega⟩
    have z0 : (0 : Int64).toInt = 0 := rfl
    have q0 : ¬ (q = 0) := fun e => by
      rw [e, z0] at hq
      omega
    have tz : ¬ (t = 0) := fun e => by
      rw [e, z0] at t0
      omega
    obtain ⟨d1, d2, d3, d4⟩ := dv64 hq hY p0 bp bY
    obtain ⟨d5, d6, d7, d8⟩ := dv64 (x := r) (y := t) (Y := t.toInt.toNat) (by omega) (by omega) r0 b_r (by omega)
    have f90 : ∀ a b, ∃ v, mxX7_fractions_90 N a b w s = some (s, v) := by
      intro a b
      unfold mxX7_fractions_90
      split
      · exact ⟨_, rfl⟩
      · split
        · exact ⟨_, rfl⟩
        · exact ⟨_, rfl⟩
    rw [mxX7_fractions_17, if_neg q0, if_neg tz]
    split
    · by_cases c1 : p - p / q * q = 0
      · rw [if_pos c1]
        exact f90 _ _
      · rw [if_neg c1]
        by_cases c2 : r - r / t * t = 0
        · rw [if_pos c2]
          exact f90 _ _
        · rw [if_neg c2]
          have n1 : (p - p / q * q).toInt ≠ 0 := fun e => c1 (Int64.toInt_inj.mp (e.trans z0.symm))
          have n2 : (r - r / t * t).toInt ≠ 0 := fun e => c2 (Int64.toInt_inj.mp (e.trans z0.symm))
          rw [d2] at n1
          rw [d6] at n2
          exact ih (p.toInt % (Y : Int)).toNat (by omega) f' q (p - p / q * q) t (r - r / t * t) (-w) (by rw [d2]; omega) (by omega) (by omega) (by omega) (by omega) (by rw [d6]; omega) (by rw [d6]; omega) (by omega) bt (by omega)
    · split
      · exact ⟨_, rfl⟩
      · exact ⟨_, rfl⟩
/-- a fraction that is found: not below 0, above 0 below the line -/
def okQ (a b : Int64) : Prop := 0 ≤ a.toInt ∧ a.toInt.natAbs < 4611686018427387904 ∧ 0 < b.toInt ∧ b.toInt.natAbs < 4611686018427387904
theorem x_frac {N : Nat} {a b c d : Int64} {s : mS} (hN : 4611686018427387904 < N) (h1 : okQ a b) (h2 : okQ c d) : ∃ v, mxX7_fractions N a b c d s = some (s, v) := by
  obtain ⟨a1, a2, a3, a4⟩ := h1
  obtain ⟨c1, c2, c3, c4⟩ := h2
  unfold mxX7_fractions
  exact x_f17 b.toInt.toNat N a b c d 1 (by omega) (by omega) (by omega) a1 a2 c3 c4 c1 c2 (by omega)
/-- what is found, if one is, is a fraction that is well -/
def fnd (s : mS) : Prop := s.1 51 = 0 ∨ s.1 51 = 1 ∧ okQ (s.2.1 52) (s.2.1 53)
theorem x_tries {N : Nat} {a b : Int64} {s : mS} (hN : 4611686018427387904 < N) (hf : fnd s) (h : okQ a b) : ∃ s', mxX7_tries N a b s = some s' ∧ fr [51, 52, 53] s s' ∧ s'.1 51 = 1 ∧ okQ (s'.2.1 52) (s'.2.1 53) := by
  have new : ∃ s', mxX7_tries_24 N a b s = some s' ∧ fr [51, 52, 53] s s' ∧ s'.1 51 = 1 ∧ okQ (s'.2.1 52) (s'.2.1 53) := by
    unfold mxX7_tries_24
    rw [Option.bind_some, Option.bind_some, Option.bind_some]
    exact ⟨_, rfl, (((fr_pI _ _ _).mo (by decide)).tr ((fr_pJ _ _ _).mo (by decide))).tr ((fr_pJ _ _ _).mo (by decide)), rfl, h⟩
  unfold mxX7_tries
  rcases hf with h0 | ⟨h1, h2⟩
  · rw [if_pos h0]
    exact new
  · rw [if_neg (by rw [h1]; decide)]
    obtain ⟨v, e⟩ := x_frac (N := N) (s := s) hN h h2
    rw [e, Option.bind_some]
    dsimp only
    split
    · exact new
    · exact ⟨s, rfl, fr.rf, h1, h2⟩
theorem fnd_1 {s : mS} (h : s.1 51 = 1 ∧ okQ (s.2.1 52) (s.2.1 53)) : fnd s := .inr h
theorem fnd_fr {L : List Nat} {s s' : mS} (h : fnd s) (f : fr L s s') (h1 : ¬ 51 ∈ L) (h2 : ¬ 52 ∈ L) (h3 : ¬ 53 ∈ L) : fnd s' := by
  unfold fnd at *
  rw [f.I h1, f.J h2, f.J h3]
  exact h
theorem x_told {N : Nat} {w : Int32} {s : mS} (hN : 4611686018427387904 < N) (h : okQ (s.2.1 52) (s.2.1 53)) : ∃ v, mxX7_told N w s = some (s, v) := by
  obtain ⟨h1, h2, h3, h4⟩ := h
  unfold mxX7_told
  obtain ⟨g, e, ⟨g0, gz, -, -, -⟩, -⟩ := x_common (N := N) (M := 4611686018427387903) (a := s.2.1 52) (b := s.2.1 53) (s := s) (by omega) (by omega) (by decide) (by omega)
  have gn : ¬ (g = 0) := fun q => by
    rw [q] at gz
    have := (gz rfl).2
    omega
  rw [e, Option.bind_some]
  dsimp only
  rw [if_neg gn, if_neg gn]
  split
  · exact ⟨_, rfl⟩
  · split
    · exact ⟨_, rfl⟩
    · exact ⟨_, rfl⟩
theorem bv_sq {a : Int64} {x : Int} {A : Nat} (h : bv a x A) (hA : A * A < 9223372036854775808) : bv (a * a) (x * x) (A * A) := bv_mul h h hA
theorem bv_nn {a : Int64} {x : Int} {A : Nat} (h : bv a x A) : a.toInt = x := h.1
/-- three squares -/
theorem bv_vd {a b c : Int64} {x : V3} {A : Nat} (h1 : bv a x.1 A) (h2 : bv b x.2.1 A) (h3 : bv c x.2.2 A) (hA : A * A + A * A + A * A < 9223372036854775808) : bv (a * a + b * b + c * c) (vd x x) (A * A + A * A + A * A) := bv_add (bv_add (bv_mul h1 h1 (by omega)) (bv_mul h2 h2 (by omega)) (by omega)) (bv_mul h3 h3 (by omega)) hA
theorem okQ_of {a b : Int64} {x y : Int} {A B : Nat} (h1 : bv a x A) (h2 : bv b y B) (hx : 0 ≤ x) (hy : 0 < y) (hA : A < 4611686018427387904) (hB : B < 4611686018427387904) : okQ a b := by
  obtain ⟨a1, a2⟩ := h1
  obtain ⟨b1, b2⟩ := h2
  refine ⟨by rw [a1]; exact hx, by rw [a1]; omega, by rw [b1]; exact hy, by rw [b1]; omega⟩
/-- thick: the slit between the planes across nv -/
theorem x_th23 {N n : Nat} {s : mS} (hN : 4611686018427387904 < N) (hn : n ≤ 600) (hO : hpO s n) (hf : fnd s) (hne : nv s ≠ v0) (bn : bd3 (nv s) 320000) : ∀ (q fu j : Nat) (x y : Int64) (X Y : Int), j + q = n → q < fu → bv x X 192000000 → bv y Y 192000000 → ∃ s', mxX7_thick_23 N fu x y (Int32.ofNat j) s = some s' ∧ fr [51, 52, 53] s s' ∧ s'.1 51 = 1 ∧ okQ (s'.2.1 52) (s'.2.1 53) := by
  intro q
  induction q with
  | zero =>
    intro fu j x y X Y hj hfu hx hy
    obtain ⟨f', rfl⟩ : ∃ f', fu = f' + 1 := ⟨fu - 1, by omega⟩
    have hjn : j = n := by omega
    subst hjn
    rw [mxX7_thick_23, hO.1, if_pos (Int32.le_refl _)]
    have b1 := bv_sub hy hx (by decide)
    obtain ⟨s', e, r⟩ := x_tries (N := N) hN hf (okQ_of (bv_mul b1 b1 (by decide)) (bv_vd (nb1 bn) (nb2 bn) (nb3 bn) (by decide)) (sq_nn _) (vd_pos hne) (by decide) (by decide))
    rw [e, Option.bind_some]
    exact ⟨s', rfl, r⟩
  | succ q ih =>
    intro fu j x y X Y hj hfu hx hy
    obtain ⟨f', rfl⟩ : ∃ f', fu = f' + 1 := ⟨fu - 1, by omega⟩
    have ne : ¬ (Int32.ofNat n ≤ Int32.ofNat j) := by
      rw [i_le (by omega) (by omega)]
      omega
    obtain ⟨v, e, hv⟩ := x_height (N := N) (p := j) (s := s) (by omega) (hO.2.1 j (by omega)) bn
    rw [mxX7_thick_23, hO.1, if_neg ne, e, Option.bind_some]
    dsimp only
    unfold mxX7_thick_50 mxX7_thick_60
    rw [i_s]
    split
    · split
      · exact ih f' (j + 1) _ _ _ _ (by omega) (by omega) hx hy
      · exact ih f' (j + 1) _ _ _ _ (by omega) (by omega) hx hv
    · split
      · exact ih f' (j + 1) _ _ _ _ (by omega) (by omega) hv hy
      · exact ih f' (j + 1) _ _ _ _ (by omega) (by omega) hv hv
theorem x_thick {N n : Nat} {s : mS} (hN : 4611686018427387904 < N) (h1 : 1 ≤ n) (hn : n ≤ 600) (hO : hpO s n) (hf : fnd s) (bn : bd3 (nv s) 320000) : ∃ s', mxX7_thick N s = some s' ∧ fr [24, 25, 26, 51, 52, 53] s s' ∧ fnd s' ∧ (nv s ≠ v0 → s'.1 51 = 1 ∧ okQ (s'.2.1 52) (s'.2.1 53)) := by
  unfold mxX7_thick
  by_cases c : nv s = v0
  · rw [(x_flat (N := N)).1 c, Option.bind_some]
    dsimp only
    rw [if_neg (by decide)]
    exact ⟨s, rfl, fr.rf, hf, fun h => absurd c h⟩
  · rw [(x_flat (N := N)).2 c, Option.bind_some]
    dsimp only
    rw [if_pos rfl]
    obtain ⟨s1, G, e1, G0, -, hx, b1, sm1⟩ := x_plain (N := N) (M := 320000) c bn (by decide) (by omega)
    have f1 := smN_fr sm1
    have O1 := hpO_N sm1 hO
    obtain ⟨v, e2, hv⟩ := x_height (N := N) (p := 0) (s := s1) (by omega) (O1.2.1 0 (by omega)) b1
    have e2' : mxX7_height N 0 s1 = some (s1, v) := e2
    rw [e1, Option.bind_some, e2', Option.bind_some]
    dsimp only
    obtain ⟨s', e3, f3, h3⟩ := x_th23 (N := N) hN hn O1 (fnd_fr hf f1 (by decide) (by decide) (by decide)) (prim_ne0 hx) b1 (n - 1) N 1 v v _ _ (by omega) (by omega) hv hv
    exact ⟨s', e3, (f1.mo (by decide)).tr (f3.mo (by decide)), fnd_1 h3, fun _ => h3⟩
theorem x_crosses {N A : Nat} {a b c d e f : Int64} {x y : V3} {s : mS} (h1 : bv a x.1 A) (h2 : bv b x.2.1 A) (h3 : bv c x.2.2 A) (h4 : bv d y.1 A) (h5 : bv e y.2.1 A) (h6 : bv f y.2.2 A) (hA : A * A + A * A ≤ 320000) : ∃ s', mxX7_crosses N a b c d e f s = some s' ∧ smN s s' ∧ nv s' = vx x y ∧ bd3 (nv s') 320000 := by
  unfold mxX7_crosses
  rw [Option.bind_some, Option.bind_some, Option.bind_some]
  have r1 := bv_sub (bv_mul h2 h6 (by omega)) (bv_mul h3 h5 (by omega)) (by omega)
  have r2 := bv_sub (bv_mul h3 h4 (by omega)) (bv_mul h1 h6 (by omega)) (by omega)
  have r3 := bv_sub (bv_mul h1 h5 (by omega)) (bv_mul h2 h4 (by omega)) (by omega)
  have e0 : nv (pJ (pJ (pJ s 24 (b * f - c * e)) 25 (c * d - a * f)) 26 (a * e - b * d)) = vx x y := v3_ext r1.1 r2.1 r3.1
  refine ⟨_, rfl, ⟨rfl, rfl, fun k q1 q2 q3 => ?_⟩, e0, ?_⟩
  · show (if k = 26 then _ else if k = 25 then _ else if k = 24 then _ else s.2.1 k) = s.2.1 k
    rw [if_neg q3, if_neg q2, if_neg q1]
  · rw [e0]
    exact ⟨Nat.le_trans r1.2 hA, Nat.le_trans r2.2 hA, Nat.le_trans r3.2 hA⟩
theorem bo1 {s : mS} {k B : Nat} (h : bd3 (oP s k) B) : bv (s.2.2.2 43 k) (oP s k).1 B := ⟨rfl, h.1⟩
theorem bo2 {s : mS} {k B : Nat} (h : bd3 (oP s k) B) : bv (s.2.2.2 44 k) (oP s k).2.1 B := ⟨rfl, h.2.1⟩
theorem bo3 {s : mS} {k B : Nat} (h : bd3 (oP s k) B) : bv (s.2.2.2 45 k) (oP s k).2.2 B := ⟨rfl, h.2.2⟩
/-- what stands while a fraction is looked for -/
def wdI (s0 : mS) (s : mS) : Prop := fr [24, 25, 26, 39, 40, 41, 42, 51, 52, 53] s0 s ∧ fnd s
theorem x_w101 {N n E F e0 : Nat} {w : Int32} {rec86 : Int32 → Int32 → mS → Option (mS × Int64)} {s0 : mS} (hN : 4611686018427387904 < N) (hT : tbS s0 0 F E n) (hO : hpO s0 n) (b1 : ∀ j, j < n → bd3 (hp s0 j) 100) (he : e0 < E) (hrec : ∀ s, wdI s0 s → s.1 51 = 1 → Hd (rec86 w (Int32.ofNat (e0 + 1)) s) (fun o => wdI s0 o.1)) : ∀ (q fu j : Nat) (s : mS), j + q = E → q < fu → wdI s0 s → s.1 51 = 1 → Hd (mxX7_width_101 N rec86 fu w (Int32.ofNat e0) (Int32.ofNat j) s) (fun o => wdI s0 o.1) := by
  obtain ⟨t1, t2, t3, t4, t5, t6, t7⟩ := hT
  obtain ⟨p, p', a1, a2, a3, a4⟩ := t7 e0 he
  rw [Nat.mul_zero, Nat.zero_add] at a1 a2
  intro q
  induction q with
  | zero =>
    intro fu j s hj hfu hI h51
    obtain ⟨f', rfl⟩ : ∃ f', fu = f' + 1 := ⟨fu - 1, by omega⟩
    have hjE : j = E := by omega
    subst hjE
    rw [mxX7_width_101, rA_0 (by decide), Option.bind_some, hI.1.A (by decide), t3, if_pos (Int32.le_refl _), i_s]
    exact hrec s hI h51
  | succ q ih =>
    intro fu j s hj hfu hI h51
    obtain ⟨f', rfl⟩ : ∃ f', fu = f' + 1 := ⟨fu - 1, by omega⟩
    have ne : ¬ (Int32.ofNat E ≤ Int32.ofNat j) := by
      rw [i_le (by omega) (by omega)]
      omega
    obtain ⟨u, u', c1, c2, c3, c4⟩ := t7 j (by omega)
    rw [Nat.mul_zero, Nat.zero_add] at c1 c2
    have e35 : s.2.2.1 35 = s0.2.2.1 35 := hI.1.A (by decide)
    have e36 : s.2.2.1 36 = s0.2.2.1 36 := hI.1.A (by decide)
    have hps : hp s = hp s0 := by
      funext t
      unfold hp
      rw [hI.1.G (by decide), hI.1.G (by decide), hI.1.G (by decide)]
    have O1 : hpO s n := ⟨by rw [hI.1.I (by decide)]; exact hO.1, by rw [hps]; exact hO.2.1, by rw [hps]; exact hO.2.2⟩
    have bd : ∀ j, j < n → bd3 (hp s j) 100 := by
      rw [hps]
      exact b1
    have x1 := bd p (by omega)
    have x2 := bd p' (by omega)
    have x3 := bd u (by omega)
    have x4 := bd u' (by omega)
    have k1 := bv_sub (b16 x2) (b16 x1) (by decide)
    have k2 := bv_sub (b17 x2) (b17 x1) (by decide)
    have k3 := bv_sub (b18 x2) (b18 x1) (by decide)
    have k4 := bv_sub (b16 x4) (b16 x3) (by decide)
    have k5 := bv_sub (b17 x4) (b17 x3) (by decide)
    have k6 := bv_sub (b18 x4) (b18 x3) (by decide)
    obtain ⟨s1, e1, sm1, n1, bn1⟩ := x_crosses (N := N) (x := vs (hp s p') (hp s p)) (y := vs (hp s u') (hp s u)) (s := s) k1 k2 k3 k4 k5 k6 (by decide)
    have g1 := smN_fr sm1
    have f51 : fnd s1 := fnd_fr hI.2 g1 (by decide) (by decide) (by decide)
    obtain ⟨s2, e2, g2, f2, h2⟩ := x_thick (N := N) hN (by omega : 1 ≤ n) (by omega) (hpO_N sm1 O1) f51 bn1
    have h51' : s2.1 51 = 1 := by
      by_cases z : nv s1 = v0
      · -- flat: nothing was done
        have e2' : mxX7_thick N s1 = some s1 := by
          unfold mxX7_thick
          rw [(x_flat (N := N)).1 z, Option.bind_some]
          dsimp only
          rw [if_neg (by decide)]
        rw [e2'] at e2
        cases e2
        rw [g1.I (by decide)]
        exact h51
      · exact (h2 z).1
    rw [mxX7_width_101, rA_0 (by decide), Option.bind_some, hI.1.A (by decide), t3, if_neg ne, rA160 rfl (by omega), Option.bind_some, e36, a2, rG600 rfl (by omega), Option.bind_some, rA160 rfl (by omega), Option.bind_some, e35, a1, rG600 rfl (by omega), Option.bind_some, Option.bind_some, rG600 rfl (by omega), Option.bind_some, Option.bind_some, rG600 rfl (by omega), Option.bind_some, Option.bind_some, rG600 rfl (by omega), Option.bind_some, Option.bind_some, rG600 rfl (by omega), Option.bind_some, rA160 rfl (by omega), Option.bind_some, e36, c2, rG600 rfl (by omega), Option.bind_some, rA160 rfl (by omega), Option.bind_some, e35, c1, rG600 rfl (by omega), Option.bind_some, Option.bind_some, rG600 rfl (by omega), Option.bind_some, Option.bind_some, rG600 rfl (by omega), Option.bind_some, Option.bind_some, rG600 rfl (by omega), Option.bind_some, Option.bind_some, rG600 rfl (by omega), Option.bind_some, e1, Option.bind_some, e2, Option.bind_some, i_s]
    exact ih f' (j + 1) s2 (by omega) (by omega) ⟨(hI.1.tr (g1.mo (by decide))).tr (g2.mo (by decide)), f2⟩ h51'
theorem x_w86 {N n E F : Nat} {w : Int32} {s0 : mS} (hN : 4611686018427387904 < N) (hT : tbS s0 0 F E n) (hO : hpO s0 n) (b1 : ∀ j, j < n → bd3 (hp s0 j) 100) : ∀ (q fu e : Nat) (s : mS), e + q = E → q < fu → wdI s0 s → s.1 51 = 1 → Hd (mxX7_width_86 N fu w (Int32.ofNat e) s) (fun o => wdI s0 o.1) := by
  have hE := hT.2.2.2.1
  intro q
  induction q with
  | zero =>
    intro fu e s he hfu hI h51
    obtain ⟨f', rfl⟩ : ∃ f', fu = f' + 1 := ⟨fu - 1, by omega⟩
    have heE : e = E := by omega
    subst heE
    rw [mxX7_width_86, rA_0 (by decide), Option.bind_some, hI.1.A (by decide), hT.2.2.1, if_pos (Int32.le_refl _)]
    have ok : okQ (s.2.1 52) (s.2.1 53) := by
      rcases hI.2 with h | h
      · rw [h51] at h
        exact absurd h (by decide)
      · exact h.2
    obtain ⟨v, ev⟩ := x_told (N := N) (w := w) hN ok
    rw [ev, Option.bind_some]
    exact Hd.ret hI
  | succ q ih =>
    intro fu e s he hfu hI h51
    obtain ⟨f', rfl⟩ : ∃ f', fu = f' + 1 := ⟨fu - 1, by omega⟩
    have ne : ¬ (Int32.ofNat E ≤ Int32.ofNat e) := by
      rw [i_le (by omega) (by omega)]
      omega
    rw [mxX7_width_86, rA_0 (by decide), Option.bind_some, hI.1.A (by decide), hT.2.2.1, if_neg ne, i_s]
    exact x_w101 hN hT hO b1 (by omega) (fun s hI h51 => ih f' (e + 1) s (by omega) (by omega) hI h51) (E - (e + 1)) N (e + 1) s (by omega) (by omega) hI h51
theorem x_w34 {N n E F : Nat} {w : Int32} {s0 : mS} (hN : 4611686018427387904 < N) (hT : tbS s0 0 F E n) (hO : hpO s0 n) (b1 : ∀ j, j < n → bd3 (hp s0 j) 100) (h1 : 1 ≤ n) (F1 : 1 ≤ F) : ∀ (q fu f : Nat) (s : mS), f + q = F → q < fu → wdI s0 s → (0 < f → s.1 51 = 1) → Hd (mxX7_width_34 N fu w (Int32.ofNat f) s) (fun o => wdI s0 o.1) := by
  have hF := hT.2.1
  have hm := hT.2.2.2.2.1
  intro q
  induction q with
  | zero =>
    intro fu f s hf hfu hI h51
    obtain ⟨f', rfl⟩ : ∃ f', fu = f' + 1 := ⟨fu - 1, by omega⟩
    have hfF : f = F := by omega
    subst hfF
    rw [mxX7_width_34, rA_0 (by decide), Option.bind_some, hI.1.A (by decide), hT.1, if_pos (Int32.le_refl _)]
    exact x_w86 hN hT hO b1 E N 0 s (by omega) (by have := hT.2.2.2.1; omega) hI (h51 (by omega))
  | succ q ih =>
    intro fu f s hf hfu hI h51
    obtain ⟨f', rfl⟩ : ∃ f', fu = f' + 1 := ⟨fu - 1, by omega⟩
    have ne : ¬ (Int32.ofNat F ≤ Int32.ofNat f) := by
      rw [i_le (by omega) (by omega)]
      omega
    rw [mxX7_width_34, rA_0 (by decide), Option.bind_some, hI.1.A (by decide), hT.1, if_neg ne, rG128 rfl (by omega), Option.bind_some, Option.bind_some, rG128 rfl (by omega), Option.bind_some, Option.bind_some, rG128 rfl (by omega), Option.bind_some, Option.bind_some]
    obtain ⟨-, a5, a6, -⟩ := hT.2.2.2.2.2.1 f (by omega)
    rw [Nat.mul_zero, Nat.zero_add] at a5 a6
    have g1 : fr [24, 25, 26] s (pJ (pJ (pJ s 24 (s.2.2.2 28 f)) 25 ((pJ s 24 (s.2.2.2 28 f)).2.2.2 29 f)) 26 ((pJ (pJ s 24 (s.2.2.2 28 f)) 25 ((pJ s 24 (s.2.2.2 28 f)).2.2.2 29 f)).2.2.2 30 f)) := (((fr_pJ _ _ _).mo (by decide)).tr ((fr_pJ _ _ _).mo (by decide))).tr ((fr_pJ _ _ _).mo (by decide))
    have nve : nv (pJ (pJ (pJ s 24 (s.2.2.2 28 f)) 25 ((pJ s 24 (s.2.2.2 28 f)).2.2.2 29 f)) 26 ((pJ (pJ s 24 (s.2.2.2 28 f)) 25 ((pJ s 24 (s.2.2.2 28 f)).2.2.2 29 f)).2.2.2 30 f)) = fN s0 f := by
      unfold fN
      rw [← hI.1.G (k := 28) (by decide), ← hI.1.G (k := 29) (by decide), ← hI.1.G (k := 30) (by decide)]
      rfl
    generalize (pJ (pJ (pJ s 24 (s.2.2.2 28 f)) 25 ((pJ s 24 (s.2.2.2 28 f)).2.2.2 29 f)) 26 ((pJ (pJ s 24 (s.2.2.2 28 f)) 25 ((pJ s 24 (s.2.2.2 28 f)).2.2.2 29 f)).2.2.2 30 f)) = s1 at g1 nve ⊢
    have f1 : fr [24, 25, 26, 39, 40, 41, 42, 51, 52, 53] s0 s1 := hI.1.tr (g1.mo (by decide))
    have hps : hp s1 = hp s0 := by
      funext t
      unfold hp
      rw [f1.G (by decide), f1.G (by decide), f1.G (by decide)]
    have O1 : hpO s1 n := ⟨by rw [f1.I (by decide)]; exact hO.1, by rw [hps]; exact hO.2.1, by rw [hps]; exact hO.2.2⟩
    obtain ⟨s2, e2, g2, f2, h2⟩ := x_thick (N := N) hN h1 (by omega) O1 (fnd_fr hI.2 g1 (by decide) (by decide) (by decide)) (by rw [nve]; exact a5)
    rw [e2, Option.bind_some, i_s]
    exact ih f' (f + 1) s2 (by omega) (by omega) ⟨f1.tr (g2.mo (by decide)), f2⟩ (fun _ => (h2 (by rw [nve]; exact a6)).1)
theorem kn_F4 {s s' : mS} {i g m k F E : Nat} (ok : okP (cP s i) m k) (K : knO s s' i g m k F E) (h4 : k = 4) : 1 ≤ F := by
  obtain ⟨k1, k2, k3, k4, k5, k6, k7, k8, k9, k10, k11, k12, -⟩ := K
  have ok' : okP (hp s') m k := okP_congr k7 ok
  rcases ok'.2.2.2.2 with ⟨q1, q2⟩ | ⟨q1, q2, -⟩ | ⟨q1, q2, q3⟩
  · omega
  · omega
  · obtain ⟨n, d, f1, -⟩ := ex_face q3 (by omega : 0 < m) (ok'.2.2.2.1 0 (by omega))
    obtain ⟨j, j1, -⟩ := k12 (by omega) n d f1
    omega
theorem x_width {N : Nat} {a w : Int32} {s : mS} (hN : 4611686018427387904 < N) (hI : INV s) : Hd (mxX7_width N a w s) (fun o => fi s o.1) := by
  unfold mxX7_width
  rcases slot_or a with ha | ⟨i, hi, rfl⟩
  · rw [solid_no ha, Option.bind_some]
    exact Hd.ret fi.rf
  rw [solid_in hi, Option.bind_some]
  dsimp only
  rw [if_neg (by decide), rA8 rfl hi, Option.bind_some]
  obtain ⟨-, -, -, g3, -⟩ := hI
  obtain ⟨m, k, h4, h5, ok⟩ := g3 i hi
  have m24 := ok.1
  have k4 := okP_k ok
  rw [h5]
  have l4 : ((4 : Int32) ≤ Int32.ofNat k) = (4 ≤ k) := i_le (a := 4) (b := k) (by omega) (by omega)
  by_cases c : 4 ≤ k
  · rw [if_pos (by rw [l4]; exact c)]
    obtain ⟨s1, F, E, e1, K⟩ := x_knows (N := N) (g := 0) (by omega) hi (by omega) h4 h5 ok
    have e1' : mxX7_knows N (Int32.ofNat i) 0 s = some s1 := e1
    have f1 : fi s s1 := K.1.fi (by decide)
    have T := kn_tbS ok K
    have F1 := kn_F4 ok K (by omega)
    have O1 : hpO s1 m := K.2.2.2.2.2.1
    have P1 : ∀ j, j < m → hp s1 j = cP s i j := K.2.2.2.2.2.2.1
    rw [e1', Option.bind_some, Option.bind_some]
    have g1 : fr [51] s1 (pI s1 51 0) := fr_pI _ _ _
    have hm1 : 1 ≤ m := by
      rcases ok.2.2.2.2 with ⟨q1, q2⟩ | ⟨q1, q2, -⟩ | ⟨q1, q2, -⟩ <;> omega
    have hW := x_w34 (N := N) (w := w) (s0 := s1) hN T O1 (fun j hj => by rw [P1 j hj]; exact ok.2.1 j hj) hm1 F1 F N 0 (pI s1 51 0) (by omega) (by have := T.2.1; omega) ⟨g1.mo (by decide), .inl rfl⟩ (fun h => absurd h (by omega))
    exact hW.mo (fun o ho => f1.tr (ho.1.fi (by decide)))
  · rw [if_neg (by rw [l4]; exact c)]
    exact Hd.ret fi.rf
