theorem fc_congr {P Q : Nat → V3} {m : Nat} {n : V3} {d : Int} (e : ∀ j, j < m → Q j = P j) (h : fc P m n d) : fc Q m n d := by
  obtain ⟨h1, ⟨i, j, k, hi, hj, hk, ei, ej, ek, hne⟩, h3⟩ := h
  exact ⟨fun t ht => by rw [e t ht]; exact h1 t ht, ⟨i, j, k, hi, hj, hk, by rw [e i hi]; exact ei, by rw [e j hj]; exact ej, by rw [e k hk]; exact ek, by rw [e i hi, e j hj, e k hk]; exact hne⟩, h3⟩
/-- the table g has all FACES and EDGES of A -/
def gmC (s : mS) (g F E m k : Nat) (A : Nat → V3) : Prop := (3 ≤ k → ∀ n d, fc A m n d → ∃ j, j < F ∧ fN s (64 * g + j) = n) ∧ (∀ j, j < F → ∃ x, vd (fN s (64 * g + j)) x = 1) ∧ ∀ (w : V3) (a : Int) (p q : Nat), p < q → q < m → vd w (A p) = a → vd w (A q) = a → (∀ t, t < m → t ≠ p → t ≠ q → vd w (A t) < a) → inE s g E p q
theorem gmC_same {s s' : mS} {g F E m k : Nat} {A : Nat → V3} (h : gmC s g F E m k A) (h1 : ∀ j, j < F → fN s' (64 * g + j) = fN s (64 * g + j)) (h2 : ∀ e, e < E → s'.2.2.1 35 (80 * g + e) = s.2.2.1 35 (80 * g + e) ∧ s'.2.2.1 36 (80 * g + e) = s.2.2.1 36 (80 * g + e)) : gmC s' g F E m k A := by
  obtain ⟨c1, c2, c3⟩ := h
  refine ⟨fun h3 n d hf => ?_, fun j hj => by rw [h1 j hj]; exact c2 j hj, fun w a p q x1 x2 x3 x4 x5 => ?_⟩
  · obtain ⟨j, j1, j2⟩ := c1 h3 n d hf
    exact ⟨j, j1, by rw [h1 j j1]; exact j2⟩
  · obtain ⟨e, e1, e2, e3⟩ := c3 w a p q x1 x2 x3 x4 x5
    exact ⟨e, e1, by rw [(h2 e e1).1]; exact e2, by rw [(h2 e e1).2]; exact e3⟩
theorem kn_gmC {s s' : mS} {i g m k F E : Nat} (ok : okP (cP s i) m k) (K : knO s s' i g m k F E) : gmC s' g F E m k (cP s i) := by
  obtain ⟨k1, k2, k3, k4, k5, k6, k7, k8, k9, k10, k11, k12, k13, k14, k15, k16, k17⟩ := K
  have ok' : okP (hp s') m k := okP_congr k7 ok
  refine ⟨fun h3 n d hf => ?_, fun j hj => (k8.2.1 j hj).1.2.2, fun w a p q hpq hq ep eq lt => ?_⟩
  · obtain ⟨j, j1, j2, -⟩ := k12 h3 n d (fc_congr k7 hf)
    exact ⟨j, j1, j2⟩
  · by_cases c2 : k = 2
    · obtain ⟨x1, x2⟩ := k15 c2
      have m2 : m = 2 := by
        rcases ok.2.2.2.2 with ⟨q1, q2⟩ | ⟨q1, q2, -⟩ | ⟨q1, q2, -⟩ <;> omega
      have p0 : p = 0 := by omega
      have q1 : q = 1 := by omega
      subst p0 q1
      exact ⟨0, by omega, congrArg (fun t : Int32 × Int32 × Int32 × Int32 => t.1) x2, congrArg (fun t : Int32 × Int32 × Int32 × Int32 => t.2.1) x2⟩
    · have h3 : 3 ≤ k := by
        rcases ok.2.2.2.2 with ⟨q1, q2⟩ | ⟨q1, q2, -⟩ | ⟨q1, q2, -⟩ <;> omega
      obtain ⟨rf, ρf, ht, -, -, pe, qe, fe, ge, hrow, -, hall⟩ := k16 c2
      obtain ⟨f, j, hp⟩ := ex_edge (w := w) (a := a) ok' h3 ht (k12 h3) (by omega : p < m) hq hpq (by rw [k7 p (by omega)]; exact ep) (by rw [k7 q hq]; exact eq) (fun t t1 t2 t3 => by rw [k7 t t1]; exact lt t t1 t2 t3)
      obtain ⟨e, e1, e2, e3⟩ := hall f p q ⟨j, hp, .inl hp.1⟩
      have r := (hrow e e1).1
      exact ⟨e, e1, by rw [← e2]; exact congrArg (fun t : Int32 × Int32 × Int32 × Int32 => t.1) r, by rw [← e3]; exact congrArg (fun t : Int32 × Int32 × Int32 × Int32 => t.2.1) r⟩
/-- owns, with all that the table has -/
theorem x_ownG {N i g : Nat} {s : mS} (hN : 1000000 < N) (hI : INV s) (hi : i < 8) (hg : g < 2) : ∃ s' F E m k, mxX7_owns N (Int32.ofNat i) (Int32.ofNat g) s = some s' ∧ fi s s' ∧ s.2.2.1 4 i = Int32.ofNat m ∧ s.2.2.1 5 i = Int32.ofNat k ∧ okP (cP s i) m k ∧ tbS s' g F E m ∧ owS s' g m ∧ gmC s' g F E m k (cP s i) ∧ (∀ t, t < m → oP s' (24 * g + t) = cP s i t) ∧ (∀ t, t < 24 * g ∨ 24 * g + 24 ≤ t → oP s' t = oP s t) ∧ ∀ g' F' E' m' k' A', g' < 2 → g' ≠ g → tbS s g' F' E' m' → owS s g' m' → gmC s g' F' E' m' k' A' → tbS s' g' F' E' m' ∧ owS s' g' m' ∧ gmC s' g' F' E' m' k' A' := by
  have hI' := hI
  obtain ⟨c, g1, g2, g3, -⟩ := hI'
  obtain ⟨m, k, h4, h5, ok⟩ := g3 i hi
  obtain ⟨s1, s', F, E, e, K, f2, o46, o46', oo, ow⟩ := x_owns hN hi hg h4 h5 ok
  obtain ⟨s'', F', E', m', k', e', fi', -, h4', h5', ok', T', O', -, -, keep⟩ := x_ownS (N := N) (g := g) hN hI hi hg
  rw [e] at e'
  cases e'
  have mm : m' = m := by
    have := ok.1
    have := ok'.1
    exact i_inj (by omega) (by omega) (h4'.symm.trans h4)
  have T1 : tbS s' g F E m := tbS_fr (kn_tbS ok K) f2 (by decide)
  subst mm
  have G1 := kn_gmC ok K
  have K' := K
  obtain ⟨k1, k2, k3, k4, k5, -⟩ := K'
  have fN2 : ∀ t, fN s' t = fN s1 t := by
    intro t
    unfold fN
    rw [f2.G (by decide), f2.G (by decide), f2.G (by decide)]
  refine ⟨s', F, E, m', k, e, fi', h4, h5, ok, T1, O', gmC_same G1 (fun j _ => fN2 _) (fun e _ => by rw [f2.A (by decide), f2.A (by decide)]; exact ⟨rfl, rfl⟩), ow, oo, fun g' F2 E2 m2 k2' A2 hg' hne T O G => ?_⟩
  obtain ⟨Tk, Ok⟩ := keep g' F2 E2 m2 hg' hne T O
  have tF := T.2.1
  have tE := T.2.2.2.1
  refine ⟨Tk, Ok, gmC_same G (fun j hj => ?_) (fun e he => ?_)⟩
  · rw [fN2]
    exact (k2 (64 * g' + j) (by omega) (by omega)).1
  · have r := k4 (80 * g' + e) (by omega)
    rw [f2.A (by decide), f2.A (by decide)]
    exact ⟨congrArg (fun x : Int32 × Int32 × Int32 × Int32 => x.1) r, congrArg (fun x : Int32 × Int32 × Int32 × Int32 => x.2.1) r⟩
/-- sums before i0 and k0 -/
def smK (s : mS) (m0 m1 i0 k0 : Nat) : V3 → Prop := fun x => ∃ i k, i < m0 ∧ k < m1 ∧ x = va (oP s i) (oP s (24 + k)) ∧ (i < i0 ∨ i = i0 ∧ k < k0)
theorem x_s57 {N m0 m1 i : Nat} {x3 : Int32} {rec43 : Int32 → Int32 → mS → Option (mS × Int32)} {R : mS × Int32 → Prop} {s : mS} (hN : 600 < N) (hm0 : m0 ≤ 24) (hm1 : m1 ≤ 24) (O0 : owS s 0 m0) (O1 : owS s 1 m1) (hi : i < m0) (hrec : ∀ h n, smH s h → hpZ h n (24 * (i + 1)) (smK s m0 m1 (i + 1) 0) → Hd (rec43 x3 (Int32.ofNat (i + 1)) h) R) : ∀ (q fu k n : Nat) (h : mS), k + q = m1 → q < fu → smH s h → hpZ h n (24 * i + k) (smK s m0 m1 i k) → Hd (mxX7_sum_57 N rec43 fu x3 (Int32.ofNat i) (Int32.ofNat k) h) R := by
  have o1 : s.2.2.1 46 1 = Int32.ofNat m1 := O1.1
  intro q
  induction q with
  | zero =>
    intro fu k n h hk hfu sm H
    obtain ⟨f', rfl⟩ : ∃ f', fu = f' + 1 := ⟨fu - 1, by omega⟩
    obtain ⟨e1, e2, e3⟩ := smH_same sm
    have hkm : k = m1 := by omega
    subst hkm
    rw [mxX7_sum_57, rA46, Option.bind_some, e3, o1, if_pos (Int32.le_refl _), i_s]
    refine hrec h n sm (hpZ_Z H (by omega) (fun x => ?_))
    constructor
    · rintro ⟨i', k', h1, h2, h5, h6⟩
      exact ⟨i', k', h1, h2, h5, by omega⟩
    · rintro ⟨i', k', h1, h2, h5, h6⟩
      exact ⟨i', k', h1, h2, h5, by omega⟩
  | succ q ih =>
    intro fu k n h hk hfu sm H
    obtain ⟨f', rfl⟩ : ∃ f', fu = f' + 1 := ⟨fu - 1, by omega⟩
    obtain ⟨e1, e2, e3⟩ := smH_same sm
    have ne : ¬ (Int32.ofNat m1 ≤ Int32.ofNat k) := by
      rw [i_le (by omega) (by omega)]
      omega
    have b0 := O0.2.1 i hi
    rw [Nat.mul_zero, Nat.zero_add] at b0
    have b1 := O1.2.1 k (by omega)
    rw [Nat.mul_one] at b1
    rw [mxX7_sum_57, rA46, Option.bind_some, e3, o1, if_neg ne, i24p, rG48 rfl (by omega), Option.bind_some, rG48 rfl (by omega), Option.bind_some, rG48 rfl (by omega), Option.bind_some, rG48 rfl (by omega), Option.bind_some, rG48 rfl (by omega), Option.bind_some, rG48 rfl (by omega), Option.bind_some]
    have bi : bd3 (oP h i) 100 := by rw [e2]; exact b0
    have bk : bd3 (oP h (24 + k)) 100 := by rw [e2]; exact b1
    have a1 := bv_add (bo1 bi) (bo1 bk) (by decide)
    have a2 := bv_add (bo2 bi) (bo2 bk) (by decide)
    have a3 := bv_add (bo3 bi) (bo3 bk) (by decide)
    obtain ⟨h', n', eh, sm', H'⟩ := x_addZ (N := N) (x := h.2.2.2 43 i + h.2.2.2 43 (24 + k)) (y := h.2.2.2 44 i + h.2.2.2 44 (24 + k)) (z := h.2.2.2 45 i + h.2.2.2 45 (24 + k)) (p := va (oP h i) (oP h (24 + k))) hN (by omega) H (v3_ext a1.1 a2.1 a3.1) ⟨a1.2, a2.2, a3.2⟩
    rw [eh, Option.bind_some, i_s]
    rw [e2, e2] at H'
    refine ih f' (k + 1) n' h' (by omega) (by omega) (sm.tr sm') (hpZ_Z H' (by omega) (fun x => ?_))
    constructor
    · rintro (⟨i', k', h1, h2, h5, h6⟩ | h5)
      · exact ⟨i', k', h1, h2, h5, by omega⟩
      · exact ⟨i, k, hi, by omega, h5, by omega⟩
    · rintro ⟨i', k', h1, h2, h5, h6⟩
      by_cases w : i' = i ∧ k' = k
      · right
        rw [h5, w.1, w.2]
      · exact .inl ⟨i', k', h1, h2, h5, by omega⟩
theorem kdO_uniq {s : mS} {v v' : V3} {n k k' : Nat} (hO : hpO s n) (h : kdO (hp s) v n k) (h' : kdO (hp s) v' n k') : k' = k := by
  obtain ⟨m, c, hL⟩ := exL_has (hp s) n
  have h1 := kd_ex hO hL h
  have h2 := kd_ex hO hL h'
  rcases h1 with ⟨a1, a2⟩ | ⟨a1, a2, v, d, a3, a4⟩ | ⟨a1, a2, a3⟩
  · rcases h2 with ⟨b1, b2⟩ | ⟨b1, b2, -⟩ | ⟨b1, b2, -⟩ <;> omega
  · rcases h2 with ⟨b1, b2⟩ | ⟨b1, b2, -⟩ | ⟨b1, b2, b3⟩
    · omega
    · omega
    · exfalso
      obtain ⟨i, hi, hi2⟩ := b3 v d a3
      exact hi2 (a4 i hi)
  · rcases h2 with ⟨b1, b2⟩ | ⟨b1, b2, v, d, b3, b4⟩ | ⟨b1, b2, b3⟩
    · omega
    · exfalso
      obtain ⟨i, hi, hi2⟩ := a3 v d b3
      exact hi2 (b4 i hi)
    · omega
theorem x_s172 {N c k : Nat} {x3 : Int32} {s : mS} {R : mS × Int32 → Prop} (hN : 600 < N) (hc : c ≤ 24) (h55 : s.1 55 = Int32.ofNat c) (bd : ∀ j, j < c → bd3 (fdP s j) 100) (hend : ∀ h n, smH s h → hpS h n c (fdP s) → Hd (mxX7_sum_215 N N x3 (Int32.ofNat k) 0 h) R) : ∀ (q fu j n : Nat) (h : mS), j + q = c → q < fu → smH s h → hpS h n j (fdP s) → Hd (mxX7_sum_172 N fu x3 (Int32.ofNat k) (Int32.ofNat j) h) R := by
  intro q
  induction q with
  | zero =>
    intro fu j n h hj hfu sm H
    obtain ⟨f', rfl⟩ : ∃ f', fu = f' + 1 := ⟨fu - 1, by omega⟩
    have hjc : j = c := by omega
    subst hjc
    rw [mxX7_sum_172, sm.1 55 (by decide), h55, if_pos (Int32.le_refl _)]
    exact hend h n sm H
  | succ q ih =>
    intro fu j n h hj hfu sm H
    obtain ⟨f', rfl⟩ : ∃ f', fu = f' + 1 := ⟨fu - 1, by omega⟩
    have ne : ¬ (Int32.ofNat c ≤ Int32.ofNat j) := by
      rw [i_le (by omega) (by omega)]
      omega
    have e56 : h.2.2.2 56 = s.2.2.2 56 := sm.2.2.2 56 (by decide) (by decide) (by decide)
    have e57 : h.2.2.2 57 = s.2.2.2 57 := sm.2.2.2 57 (by decide) (by decide) (by decide)
    have e58 : h.2.2.2 58 = s.2.2.2 58 := sm.2.2.2 58 (by decide) (by decide) (by decide)
    obtain ⟨h', n', e1, sm1, S1⟩ := x_add (N := N) (x := s.2.2.2 56 j) (y := s.2.2.2 57 j) (z := s.2.2.2 58 j) hN (by omega) H rfl (bd3_le (bd j (by omega)) (by decide))
    rw [mxX7_sum_172, sm.1 55 (by decide), h55, if_neg ne, rG32 rfl (by omega), Option.bind_some, rG32 rfl (by omega), Option.bind_some, rG32 rfl (by omega), Option.bind_some, e56, e57, e58, e1, Option.bind_some, i_s]
    exact ih f' (j + 1) n' h' (by omega) (by omega) (sm.tr sm1) S1
theorem x_s215 {N n k : Nat} {x3 : Int32} {s : mS} (hn : n ≤ 600) (h15 : s.1 15 = Int32.ofNat n) : ∀ (q fu j : Nat) (h : mS), j + q = n → q < fu → smC s h → (∀ t, t < j → h.2.2.1 19 t = 1) → ∃ h', smC s h' ∧ (∀ t, t < n → h'.2.2.1 19 t = 1) ∧ mxX7_sum_215 N fu x3 (Int32.ofNat k) (Int32.ofNat j) h = mxX7_sum_247 N x3 (Int32.ofNat k) h' := by
  intro q
  induction q with
  | zero =>
    intro fu j h hj hfu sm hl
    obtain ⟨f', rfl⟩ : ∃ f', fu = f' + 1 := ⟨fu - 1, by omega⟩
    have hjn : j = n := by omega
    subst hjn
    refine ⟨h, sm, hl, ?_⟩
    rw [mxX7_sum_215, sm.1, h15, if_pos (Int32.le_refl _)]
  | succ q ih =>
    intro fu j h hj hfu sm hl
    obtain ⟨f', rfl⟩ : ∃ f', fu = f' + 1 := ⟨fu - 1, by omega⟩
    have ne : ¬ (Int32.ofNat n ≤ Int32.ofNat j) := by
      rw [i_le (by omega) (by omega)]
      omega
    have b19 : j < aN 19 := by show j < 600; omega
    rw [mxX7_sum_215, sm.1, h15, if_neg ne, wB_N1 b19 (by decide), Option.bind_some, i_s]
    refine ih f' (j + 1) _ (by omega) (by omega) ⟨sm.1, sm.2.1, sm.2.2.1, fun q hq => ?_⟩ (fun t ht => ?_)
    · funext t
      rw [sA_at, if_neg (by omega), sm.2.2.2 q hq]
    · rw [sA_at]
      by_cases w : t = j
      · rw [if_pos ⟨rfl, w⟩]
      · rw [if_neg (fun q => w q.2)]
        exact hl t (by omega)
theorem smC_fr {s s' : mS} (h : smC s s') : fr [19] s s' := fun k hk => ⟨by rw [h.1], by rw [h.2.1], h.2.2.2 k (fun e => hk (by simp [e])), by rw [h.2.2.1]⟩
/-- what sum leaves: refused, or the sum's points that are farthest along some way -/
def smR1 (s : mS) (u : Nat) (Z : V3 → Prop) (o : mS × Int32) : Prop := (o.2 = -2 ∧ fi s o.1 ∧ noB Z) ∨ ∃ m k Q, o.2 = Int32.ofNat k ∧ k ≤ 4 ∧ INV o.1 ∧ chO s o.1 u m k Q ∧ bld Z m k Q
theorem x_s247 {N u n k : Nat} {Z : V3 → Prop} {R : Nat → V3} {nR : Nat} {v : V3} {s0 s : mS} (hN : 1000000 < N) (hu : u < 8) (hn : n ≤ 600) (hI : INV s0) (f0 : fi s0 s) (hO : hpO s n) (hm : mkX s n) (k4 : k ≤ 4) (kd : ∀ m c, exL (hp s) n m c → kdP (fun j => hp s (c j)) m k) (hR : srz R nR Z) (hkR : kdO R v nR k) (same : ∀ m c, exL (hp s) n m c → ∃ cR, exL R nR m cR ∧ ∀ j, j < m → hp s (c j) = R (cR j)) : Hd (mxX7_sum_247 N (Int32.ofNat u) (Int32.ofNat k) s) (smR1 s0 u Z) := by
  unfold mxX7_sum_247
  rcases x_becomes (N := N) hN hu hn (INV_fi hI f0) hO hm kd with ⟨e2, h2⟩ | ⟨s2, s', m, c, e2, hL, ok, K, B, I'⟩
  · rw [e2, Option.bind_some]
    dsimp only
    rw [if_pos rfl]
    refine Hd.ret (.inl ⟨rfl, f0, R, nR, hR, fun m c hL => ?_⟩)
    obtain ⟨m', c', hL'⟩ := exL_has (hp s) n
    obtain ⟨cR, hLR, eR'⟩ := same m' c' hL'
    -- the lists are one
    have le1 := exK_le (Nat.le_refl nR) hL hLR
    have le2 := exK_le (Nat.le_refl nR) hLR hL
    have mm : m = m' := by omega
    subst mm
    have ec : ∀ j, j < m → c j = cR j := by
      intro j
      induction j using Nat.strongRecOn with
      | ind j ih =>
        intro hj
        obtain ⟨t, t1, t2⟩ := hLR.2.2 (c j) (hL.1 j hj).1 (hL.1 j hj).2
        obtain ⟨t', t1', t2'⟩ := hL.2.2 (cR j) (hLR.1 j hj).1 (hLR.1 j hj).2
        have a1 : j ≤ t := by
          by_cases w : j ≤ t
          · exact w
          · have := ih t (by omega) t1
            rw [t2] at this
            have := hL.2.1 t j (by omega) hj
            omega
        have a2 : j ≤ t' := by
          by_cases w : j ≤ t'
          · exact w
          · have := ih t' (by omega) t1'
            rw [t2'] at this
            have := hLR.2.1 t' j (by omega) hj
            omega
        have b1 : cR j ≤ c j := by
          by_cases w : t = j
          · rw [← t2, w]
            exact Nat.le_refl _
          · have := hLR.2.1 j t (by omega) t1
            omega
        have b2 : c j ≤ cR j := by
          by_cases w : t' = j
          · rw [← t2', w]
            exact Nat.le_refl _
          · have := hL.2.1 j t' (by omega) t1'
            omega
        omega
    intro hb
    refine h2 m c' hL' ⟨hb.1, fun j hj => ?_⟩
    rw [eR' j hj, ← ec j hj]
    exact hb.2 j hj
  · rw [e2, Option.bind_some]
    dsimp only
    rw [if_neg (by decide)]
    obtain ⟨cR, hLR, eR'⟩ := same m c hL
    exact Hd.ret (.inr ⟨m, k, _, rfl, k4, I', ⟨s, s2, f0, K, B⟩, R, nR, v, cR, hR, hkR, hLR, ok, eR'⟩)
