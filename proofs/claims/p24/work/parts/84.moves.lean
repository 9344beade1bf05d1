theorem x_cor {N i j m : Nat} {s : mS} (hi : i < 8) (hj : j < m) (hm : m ≤ 24) (h4 : s.2.2.1 4 i = Int32.ofNat m) : mxX7_corner N (Int32.ofNat i) (Int32.ofNat j) 0 s = some (s, s.2.2.1 6 (24 * i + j)) ∧ mxX7_corner N (Int32.ofNat i) (Int32.ofNat j) 1 s = some (s, s.2.2.1 7 (24 * i + j)) ∧ mxX7_corner N (Int32.ofNat i) (Int32.ofNat j) 2 s = some (s, s.2.2.1 8 (24 * i + j)) := by
  have l : Int32.ofNat j < Int32.ofNat m := by
    rw [i_lt (by omega) (by omega)]
    exact hj
  unfold mxX7_corner
  refine ⟨?_, ?_, ?_⟩
  · rw [solid_in hi, Option.bind_some]
    dsimp only
    rw [if_neg (by decide), if_neg (i_lt0 (by omega)), rA8 rfl hi, Option.bind_some, h4, if_pos l, i_24, rA192 rfl (by omega)]
    rfl
  · rw [solid_in hi, Option.bind_some]
    dsimp only
    rw [if_neg (by decide), if_neg (i_lt0 (by omega)), rA8 rfl hi, Option.bind_some, h4, if_pos l, i_24, rA192 rfl (by omega), rA192 rfl (by omega)]
    rfl
  · rw [solid_in hi, Option.bind_some]
    dsimp only
    rw [if_neg (by decide), if_neg (i_lt0 (by omega)), rA8 rfl hi, Option.bind_some, h4, if_pos l, i_24, rA192 rfl (by omega), rA192 rfl (by omega), rA192 rfl (by omega)]
    rfl
theorem x_c22 {N i t m k : Nat} {s : mS} (hi : i < 8) (ht : t < 8) (h4 : s.2.2.1 4 i = Int32.ofNat m) (h5 : s.2.2.1 5 i = Int32.ofNat k) (hm : m ≤ 24) : ∀ (q f j : Nat) (h : mS), j + q = 24 → q < f → fr [6, 7, 8] s h → (∀ u, u < 24 * t ∨ 24 * t + j ≤ u → h.2.2.1 6 u = s.2.2.1 6 u ∧ h.2.2.1 7 u = s.2.2.1 7 u ∧ h.2.2.1 8 u = s.2.2.1 8 u) → (∀ u, u < j → h.2.2.1 6 (24 * t + u) = s.2.2.1 6 (24 * i + u) ∧ h.2.2.1 7 (24 * t + u) = s.2.2.1 7 (24 * i + u) ∧ h.2.2.1 8 (24 * t + u) = s.2.2.1 8 (24 * i + u)) → ∃ s', mxX7_copy_22 N f (Int32.ofNat i) (Int32.ofNat t) (Int32.ofNat j) h = some (s', 1) ∧ bcO s s' t m k (cP s i) := by
  intro q
  induction q with
  | zero =>
    intro f j h hj hf f1 a1 a2
    obtain ⟨f', rfl⟩ : ∃ f', f = f' + 1 := ⟨f - 1, by omega⟩
    have hj' : j = 24 := by omega
    subst hj'
    refine ⟨sA (sA h 4 t (Int32.ofNat m)) 5 t (Int32.ofNat k), ?_, ?_⟩
    · rw [mxX7_copy_22, if_pos (by decide), rA8 rfl hi, Option.bind_some, wA8 rfl ht, Option.bind_some, rA8 rfl hi, Option.bind_some, wA8 rfl ht, Option.bind_some]
      simp only [sA_at]
      simp only [show ¬ ((5 : Nat) = 4 ∧ i = t) from fun q => absurd q.1 (by decide), if_false]
      rw [f1.A (by decide), f1.A (by decide), h4, h5]
    · have g1 : fr [4, 5] h (sA (sA h 4 t (Int32.ofNat m)) 5 t (Int32.ofNat k)) := ((fr_sA _ _ _ _).mo (by decide)).tr ((fr_sA _ _ _ _).mo (by decide))
      have at4 : ∀ u, (sA (sA h 4 t (Int32.ofNat m)) 5 t (Int32.ofNat k)).2.2.1 4 u = if u = t then Int32.ofNat m else h.2.2.1 4 u := by
        intro u
        simp only [sA_at]
        simp
      have at5 : ∀ u, (sA (sA h 4 t (Int32.ofNat m)) 5 t (Int32.ofNat k)).2.2.1 5 u = if u = t then Int32.ofNat k else h.2.2.1 5 u := by
        intro u
        simp only [sA_at]
        simp
      refine ⟨(((f1.mo (by decide)).tr (g1.mo (by decide)) : fr [4, 5, 6, 7, 8] s _)).fj (by decide), fun u hu => ?_, fun u hu => ?_, ?_, ?_, fun u hu => ?_⟩
      · rw [at4, at5, if_neg hu, if_neg hu, f1.A (by decide), f1.A (by decide)]
        exact ⟨rfl, rfl⟩
      · rw [g1.A (by decide), g1.A (by decide), g1.A (by decide)]
        exact a1 u hu
      · rw [at4, if_pos rfl]
      · rw [at5, if_pos rfl]
      · unfold cP cP3
        rw [g1.A (by decide), g1.A (by decide), g1.A (by decide), (a2 u (by omega)).1, (a2 u (by omega)).2.1, (a2 u (by omega)).2.2]
  | succ q ih =>
    intro f j h hj hf f1 a1 a2
    obtain ⟨f', rfl⟩ : ∃ f', f = f' + 1 := ⟨f - 1, by omega⟩
    have hn : ¬ ((24 : Int32) ≤ Int32.ofNat j) := by
      have := i_le (a := 24) (b := j) (by omega) (by omega)
      intro h
      have h2 : 24 ≤ j := by
        rw [← this]
        exact h
      omega
    rw [mxX7_copy_22, if_neg hn, i_24, i_24, rA192 rfl (by omega), Option.bind_some, wA192 rfl (by omega), Option.bind_some, rA192 rfl (by omega), Option.bind_some, wA192 rfl (by omega), Option.bind_some, rA192 rfl (by omega), Option.bind_some, wA192 rfl (by omega), Option.bind_some, i_s]
    have src : h.2.2.1 6 (24 * i + j) = s.2.2.1 6 (24 * i + j) ∧ h.2.2.1 7 (24 * i + j) = s.2.2.1 7 (24 * i + j) ∧ h.2.2.1 8 (24 * i + j) = s.2.2.1 8 (24 * i + j) := a1 (24 * i + j) (by omega)
    have key : sA (sA (sA h 6 (24 * t + j) (h.2.2.1 6 (24 * i + j))) 7 (24 * t + j) ((sA h 6 (24 * t + j) (h.2.2.1 6 (24 * i + j))).2.2.1 7 (24 * i + j))) 8 (24 * t + j) ((sA (sA h 6 (24 * t + j) (h.2.2.1 6 (24 * i + j))) 7 (24 * t + j) ((sA h 6 (24 * t + j) (h.2.2.1 6 (24 * i + j))).2.2.1 7 (24 * i + j))).2.2.1 8 (24 * i + j)) = sC h (24 * t + j) (s.2.2.1 6 (24 * i + j)) (s.2.2.1 7 (24 * i + j)) (s.2.2.1 8 (24 * i + j)) := by
      unfold sC
      simp only [sA_at]
      simp only [show ¬ ((7 : Nat) = 6 ∧ 24 * i + j = 24 * t + j) from fun q => absurd q.1 (by decide), show ¬ ((8 : Nat) = 7 ∧ 24 * i + j = 24 * t + j) from fun q => absurd q.1 (by decide), show ¬ ((8 : Nat) = 6 ∧ 24 * i + j = 24 * t + j) from fun q => absurd q.1 (by decide), if_false]
      rw [src.1, src.2.1, src.2.2]
    rw [key]
    refine ih f' (j + 1) _ (by omega) (by omega) (f1.tr (fr_sC _ _ _ _ _)) (fun u hu => ?_) (fun u hu => ?_)
    · rw [sC_6, sC_7, sC_8, if_neg (by omega), if_neg (by omega), if_neg (by omega)]
      exact a1 u (by omega)
    · rw [sC_6, sC_7, sC_8]
      by_cases w : u = j
      · rw [if_pos (by omega), if_pos (by omega), if_pos (by omega), w]
        exact ⟨rfl, rfl, rfl⟩
      · rw [if_neg (by omega), if_neg (by omega), if_neg (by omega)]
        exact a2 u (by omega)
theorem INV_bc {s s' : mS} {i m k : Nat} {Q : Nat → V3} (hI : INV s) (B : bcO s s' i m k Q) (ok : okP Q m k) : INV s' := by
  obtain ⟨b1, b2, b3, b4, b5, b6⟩ := B
  exact INV_slot hI b1 b2 b3 ⟨m, k, b4, b5, okP_congr b6 ok⟩
theorem kpO_slot {s s' : mS} (K : kpO s s') : s'.2.2.1 4 = s.2.2.1 4 ∧ s'.2.2.1 5 = s.2.2.1 5 ∧ ∀ i, cP s' i = cP s i := by
  have f := K.1
  refine ⟨f.A (by decide), f.A (by decide), fun i => ?_⟩
  unfold cP
  rw [f.A (by decide), f.A (by decide), f.A (by decide)]
/-- copy -/
theorem x_copy {N : Nat} {a b : Int32} {s : mS} (hN : 1000000 < N) (hI : INV s) : (mxX7_copy N a b s = some (s, 0) ∧ ((a < 0 ∨ 8 ≤ a) ∨ (b < 0 ∨ 8 ≤ b))) ∨ ∃ i t m k s', i < 8 ∧ a = Int32.ofNat i ∧ t < 8 ∧ b = Int32.ofNat t ∧ s.2.2.1 4 i = Int32.ofNat m ∧ s.2.2.1 5 i = Int32.ofNat k ∧ okP (cP s i) m k ∧ mxX7_copy N a b s = some (s', 1) ∧ INV s' ∧ chO s s' t m k (cP s i) := by
  unfold mxX7_copy
  rcases slot_or a with ha | ⟨i, hi, rfl⟩
  · left
    rw [solid_no ha, Option.bind_some]
    exact ⟨rfl, .inl ha⟩
  rw [solid_in hi, Option.bind_some]
  dsimp only
  rw [if_neg (by decide)]
  rcases slot_or b with hb | ⟨t, ht, rfl⟩
  · left
    rw [solid_no hb, Option.bind_some]
    exact ⟨rfl, .inr hb⟩
  rw [solid_in ht, Option.bind_some]
  dsimp only
  rw [if_neg (by decide)]
  right
  have hI' := hI
  obtain ⟨c, g1, g2, g3, -⟩ := hI'
  obtain ⟨m, k, h4, h5, ok⟩ := g3 i hi
  obtain ⟨s1, e1, K⟩ := x_keeps (N := N) (by omega) g1 g2
  obtain ⟨k4, k5, kc⟩ := kpO_slot K
  rw [e1, Option.bind_some]
  obtain ⟨s', e2, B⟩ := x_c22 (N := N) (i := i) (t := t) (m := m) (k := k) (s := s1) hi ht (by rw [k4]; exact h4) (by rw [k5]; exact h5) ok.1 24 N 0 s1 rfl (by omega) fr.rf (fun _ _ => ⟨rfl, rfl, rfl⟩) (fun u hu => absurd hu (by omega))
  rw [kc] at B
  exact ⟨i, t, m, k, s', hi, rfl, ht, rfl, h4, h5, ok, e2, INV_bc (INV_keeps hI K) B ok, s, s1, fi.rf, K, B⟩
theorem b32 {a b : Int32} (h : (a.toInt + b.toInt).natAbs ≤ 100) : (a + b).toInt = a.toInt + b.toInt := by
  rw [Int32.toInt_add]
  exact bm32 (by omega)
theorem n32 {a : Int32} (h : a.toInt.natAbs ≤ 100) : (-a).toInt = -a.toInt := by
  rw [Int32.toInt_neg]
  exact bm32 (by omega)
/-- the points, moved by d -/
def mvP (P : Nat → V3) (d : V3) : Nat → V3 := fun j => ((P j).1 + d.1, (P j).2.1 + d.2.1, (P j).2.2 + d.2.2)
theorem rw_1 (a b c x y z u v w : Int) : a * (x + u) + b * (y + v) + c * (z + w) = (a * x + b * y + c * z) + (a * u + b * v + c * w) := by grind
theorem vd_mv (n : V3) (P : Nat → V3) (d : V3) (j : Nat) : vd n (mvP P d j) = vd n (P j) + vd n d := rw_1 _ _ _ _ _ _ _ _ _
theorem ok_mv {P : Nat → V3} {m k : Nat} {d : V3} (ok : okP P m k) (bd : ∀ j, j < m → bd3 (mvP P d j) 100) : okP (mvP P d) m k := by
  obtain ⟨h1, h2, h3, h4, h5⟩ := ok
  refine ⟨h1, bd, fun i j hij hj => ?_, fun j hj => ?_, ?_⟩
  · have := h3 i j hij hj
    rw [vd_vs] at this ⊢
    rw [vd_mv, vd_mv]
    omega
  · obtain ⟨u, hu⟩ := h4 j hj
    refine ⟨u, fun t ht htj => ?_⟩
    rw [vd_mv, vd_mv]
    have := hu t ht htj
    omega
  · rcases h5 with h5 | ⟨h5, h6, v, e, h7, h8⟩ | ⟨h5, h6, h7⟩
    · exact .inl h5
    · refine .inr (.inl ⟨h5, h6, v, e + vd v d, h7, fun i hi => ?_⟩)
      rw [vd_mv, h8 i hi]
    · refine .inr (.inr ⟨h5, h6, fun n e hx => ?_⟩)
      obtain ⟨i, hi, hi2⟩ := h7 n (e - vd n d) hx
      refine ⟨i, hi, ?_⟩
      rw [vd_mv]
      omega
theorem x_mv84 {N i m k : Nat} {dx dy dz : Int32} {s : mS} (hi : i < 8) (h4 : s.2.2.1 4 i = Int32.ofNat m) (h5 : s.2.2.1 5 i = Int32.ofNat k) (hm : m ≤ 24) (bd : ∀ j, j < m → bd3 (mvP (cP s i) (dx.toInt, dy.toInt, dz.toInt) j) 100) : ∀ (q f j : Nat) (h : mS), j + q = m → q < f → fr [6, 7, 8] s h → (∀ u, u < 24 * i ∨ 24 * i + j ≤ u → h.2.2.1 6 u = s.2.2.1 6 u ∧ h.2.2.1 7 u = s.2.2.1 7 u ∧ h.2.2.1 8 u = s.2.2.1 8 u) → (∀ u, u < j → cP h i u = mvP (cP s i) (dx.toInt, dy.toInt, dz.toInt) u) → ∃ s', mxX7_move_84 N f (Int32.ofNat i) dx dy dz (Int32.ofNat (24 * i + j)) h = some (s', 1) ∧ bcO s s' i m k (mvP (cP s i) (dx.toInt, dy.toInt, dz.toInt)) := by
  intro q
  induction q with
  | zero =>
    intro f j h hj hf f1 a1 a2
    obtain ⟨f', rfl⟩ : ∃ f', f = f' + 1 := ⟨f - 1, by omega⟩
    have hj' : j = m := by omega
    subst hj'
    refine ⟨h, ?_, f1.fj (by decide), fun u hu => ?_, fun u hu => a1 u (by omega), ?_, ?_, a2⟩
    · rw [mxX7_move_84, rA8 rfl hi, Option.bind_some, f1.A (by decide), h4, i_24, if_pos (Int32.le_refl _)]
    · rw [f1.A (by decide), f1.A (by decide)]
      exact ⟨rfl, rfl⟩
    · rw [f1.A (by decide)]
      exact h4
    · rw [f1.A (by decide)]
      exact h5
  | succ q ih =>
    intro f j h hj hf f1 a1 a2
    obtain ⟨f', rfl⟩ : ∃ f', f = f' + 1 := ⟨f - 1, by omega⟩
    have ne : ¬ (Int32.ofNat (24 * i + m) ≤ Int32.ofNat (24 * i + j)) := by
      rw [i_le (by omega) (by omega)]
      omega
    rw [mxX7_move_84, rA8 rfl hi, Option.bind_some, f1.A (by decide), h4, i_24, if_neg ne, rA192 rfl (by omega), Option.bind_some, wA192 rfl (by omega), Option.bind_some, rA192 rfl (by omega), Option.bind_some, wA192 rfl (by omega), Option.bind_some, rA192 rfl (by omega), Option.bind_some, wA192 rfl (by omega), Option.bind_some, i_s]
    obtain ⟨c1, c2, c3⟩ := a1 (24 * i + j) (by omega)
    have key : sA (sA (sA h 6 (24 * i + j) (h.2.2.1 6 (24 * i + j) + dx)) 7 (24 * i + j) ((sA h 6 (24 * i + j) (h.2.2.1 6 (24 * i + j) + dx)).2.2.1 7 (24 * i + j) + dy)) 8 (24 * i + j) ((sA (sA h 6 (24 * i + j) (h.2.2.1 6 (24 * i + j) + dx)) 7 (24 * i + j) ((sA h 6 (24 * i + j) (h.2.2.1 6 (24 * i + j) + dx)).2.2.1 7 (24 * i + j) + dy)).2.2.1 8 (24 * i + j) + dz) = sC h (24 * i + j) (s.2.2.1 6 (24 * i + j) + dx) (s.2.2.1 7 (24 * i + j) + dy) (s.2.2.1 8 (24 * i + j) + dz) := by
      unfold sC
      simp only [sA_at]
      simp only [show ¬ ((7 : Nat) = 6) from by decide, show ¬ ((8 : Nat) = 7) from by decide, show ¬ ((8 : Nat) = 6) from by decide, false_and, if_false]
      rw [c1, c2, c3]
    rw [key]
    have bj := bd j (by omega)
    refine ih f' (j + 1) _ (by omega) (by omega) (f1.tr (fr_sC _ _ _ _ _)) (fun u hu => ?_) (fun u hu => ?_)
    · rw [sC_6, sC_7, sC_8, if_neg (by omega), if_neg (by omega), if_neg (by omega)]
      exact a1 u (by omega)
    · unfold cP cP3
      rw [sC_6, sC_7, sC_8]
      by_cases w : u = j
      · rw [if_pos (by omega), if_pos (by omega), if_pos (by omega), w, b32 bj.1, b32 bj.2.1, b32 bj.2.2]
        rfl
      · rw [if_neg (by omega), if_neg (by omega), if_neg (by omega)]
        exact a2 u (by omega)
theorem a64 (a b : Int32) : (a.toInt64 + b.toInt64).toInt = a.toInt + b.toInt := by
  rw [Int64.toInt_add, Int32.toInt_toInt64, Int32.toInt_toInt64]
  have h1 := Int32.le_toInt a
  have h2 := Int32.toInt_lt a
  have h3 := Int32.le_toInt b
  have h4 := Int32.toInt_lt b
  exact bm (by omega)
theorem x_mv12 {N i m : Nat} {dx dy dz : Int32} {s : mS} (hi : i < 8) (h4 : s.2.2.1 4 i = Int32.ofNat m) (hm : m ≤ 24) : ∀ (q f j : Nat), j + q = m → q < f → (∀ u, u < j → bd3 (mvP (cP s i) (dx.toInt, dy.toInt, dz.toInt) u) 100) → (mxX7_move_12 N f (Int32.ofNat i) dx dy dz (Int32.ofNat j) s = some (s, 0) ∧ ∃ u, u < m ∧ ¬ bd3 (mvP (cP s i) (dx.toInt, dy.toInt, dz.toInt) u) 100) ∨ (mxX7_move_12 N f (Int32.ofNat i) dx dy dz (Int32.ofNat j) s = ((mxX7_keeps N s).bind fun o7 => mxX7_move_84 N N (Int32.ofNat i) dx dy dz ((24 : Int32) * Int32.ofNat i) o7) ∧ ∀ u, u < m → bd3 (mvP (cP s i) (dx.toInt, dy.toInt, dz.toInt) u) 100) := by
  intro q
  induction q with
  | zero =>
    intro f j hj hf hb
    obtain ⟨f', rfl⟩ : ∃ f', f = f' + 1 := ⟨f - 1, by omega⟩
    have hj' : j = m := by omega
    subst hj'
    right
    refine ⟨?_, hb⟩
    rw [mxX7_move_12, rA8 rfl hi, Option.bind_some, h4, if_pos (Int32.le_refl _)]
  | succ q ih =>
    intro f j hj hf hb
    obtain ⟨f', rfl⟩ : ∃ f', f = f' + 1 := ⟨f - 1, by omega⟩
    have ne : ¬ (Int32.ofNat m ≤ Int32.ofNat j) := by
      rw [i_le (by omega) (by omega)]
      omega
    obtain ⟨c0, c1, c2⟩ := x_cor (N := N) hi (by omega : j < m) hm h4
    rw [mxX7_move_12, rA8 rfl hi, Option.bind_some, h4, if_neg ne, c0, Option.bind_some]
    dsimp only
    rw [c1, Option.bind_some]
    dsimp only
    rw [c2, Option.bind_some]
    dsimp only
    rcases x_isPt (N := N) (x := (s.2.2.1 6 (24 * i + j)).toInt64 + dx.toInt64) (y := (s.2.2.1 7 (24 * i + j)).toInt64 + dy.toInt64) (z := (s.2.2.1 8 (24 * i + j)).toInt64 + dz.toInt64) (s := s) with ⟨b1, e⟩ | ⟨b1, e⟩
    · rw [e, Option.bind_some]
      dsimp only
      rw [if_neg (by decide), i_s]
      rw [a64, a64, a64] at b1
      refine ih f' (j + 1) (by omega) (by omega) (fun u hu => ?_)
      by_cases w : u = j
      · rw [w]
        exact b1
      · exact hb u (by omega)
    · rw [e, Option.bind_some]
      dsimp only
      rw [if_pos rfl]
      rw [a64, a64, a64] at b1
      exact .inl ⟨rfl, j, by omega, b1⟩
/-- move -/
theorem x_move {N : Nat} {a dx dy dz : Int32} {s : mS} (hN : 1000000 < N) (hI : INV s) : (mxX7_move N a dx dy dz s = some (s, 0) ∧ ((a < 0 ∨ 8 ≤ a) ∨ ∃ i m u, i < 8 ∧ a = Int32.ofNat i ∧ s.2.2.1 4 i = Int32.ofNat m ∧ u < m ∧ ¬ bd3 (mvP (cP s i) (dx.toInt, dy.toInt, dz.toInt) u) 100)) ∨ ∃ i m k s', i < 8 ∧ a = Int32.ofNat i ∧ s.2.2.1 4 i = Int32.ofNat m ∧ s.2.2.1 5 i = Int32.ofNat k ∧ okP (cP s i) m k ∧ okP (mvP (cP s i) (dx.toInt, dy.toInt, dz.toInt)) m k ∧ mxX7_move N a dx dy dz s = some (s', 1) ∧ INV s' ∧ chO s s' i m k (mvP (cP s i) (dx.toInt, dy.toInt, dz.toInt)) := by
  unfold mxX7_move
  rcases slot_or a with ha | ⟨i, hi, rfl⟩
  · left
    rw [solid_no ha, Option.bind_some]
    exact ⟨rfl, .inl ha⟩
  rw [solid_in hi, Option.bind_some]
  dsimp only
  rw [if_neg (by decide)]
  have hI' := hI
  obtain ⟨c, g1, g2, g3, -⟩ := hI'
  obtain ⟨m, k, h4, h5, ok⟩ := g3 i hi
  rcases x_mv12 (N := N) (dx := dx) (dy := dy) (dz := dz) hi h4 ok.1 m N 0 (by omega) (by have := ok.1; omega) (fun u hu => absurd hu (by omega)) with ⟨e, u, u1, u2⟩ | ⟨e, hb⟩
  · left
    exact ⟨e, .inr ⟨i, m, u, hi, rfl, h4, u1, u2⟩⟩
  · right
    obtain ⟨s1, e1, K⟩ := x_keeps (N := N) (by omega) g1 g2
    obtain ⟨k4, k5, kc⟩ := kpO_slot K
    have ok2 := ok_mv (d := (dx.toInt, dy.toInt, dz.toInt)) ok hb
    obtain ⟨s', e2, B⟩ := x_mv84 (N := N) (i := i) (m := m) (k := k) (dx := dx) (dy := dy) (dz := dz) (s := s1) hi (by rw [k4]; exact h4) (by rw [k5]; exact h5) ok.1 (by rw [kc]; exact hb) m N 0 s1 (by omega) (by have := ok.1; omega) fr.rf (fun _ _ => ⟨rfl, rfl, rfl⟩) (fun u hu => absurd hu (by omega))
    rw [kc] at B
    refine ⟨i, m, k, s', hi, rfl, h4, h5, ok, ok2, ?_, INV_bc (INV_keeps hI K) B ok2, s, s1, fi.rf, K, B⟩
    have e' : mxX7_move_12 N N (Int32.ofNat i) dx dy dz 0 s = (mxX7_keeps N s).bind fun o7 => mxX7_move_84 N N (Int32.ofNat i) dx dy dz ((24 : Int32) * Int32.ofNat i) o7 := e
    rw [e', e1, Option.bind_some, i_c24]
    exact e2
