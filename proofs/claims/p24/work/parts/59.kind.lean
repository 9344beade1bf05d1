theorem smN.rf {s : mS} : smN s s := ⟨rfl, rfl, fun _ _ _ _ => rfl⟩
theorem smN.tr {a b c : mS} (h : smN a b) (g : smN b c) : smN a c := ⟨g.1.trans h.1, g.2.1.trans h.2.1, fun k q1 q2 q3 => (g.2.2 k q1 q2 q3).trans (h.2.2 k q1 q2 q3)⟩
theorem smN_hp {s s' : mS} (h : smN s s') (k : Nat) : hp s' k = hp s k := by
  unfold hp
  rw [h.2.1]
theorem hpO_N {s s' : mS} {n : Nat} (h : smN s s') (hO : hpO s n) : hpO s' n := by
  refine ⟨by rw [h.1]; exact hO.1, fun k hk => ?_, fun i j hij hj => ?_⟩
  · rw [smN_hp h]
    exact hO.2.1 k hk
  · rw [smN_hp h, smN_hp h]
    exact hO.2.2 i j hij hj
theorem x_k67 {N n : Nat} {s : mS} (hn : n ≤ 600) (n0 : 0 < n) (hO : hpO s n) (bn : bd3 (nv s) 320000) : ∀ (m f k : Nat), k + m = n → m < f → (∀ i, i < k → vd (nv s) (hp s i) = vd (nv s) (hp s 0)) → (mxX7_kindOfHeap_67 N f (Int32.ofNat k) s = some (s, 3) ∧ ∀ i, i < n → vd (nv s) (hp s i) = vd (nv s) (hp s 0)) ∨ (mxX7_kindOfHeap_67 N f (Int32.ofNat k) s = some (s, 4) ∧ ∃ i, i < n ∧ vd (nv s) (hp s i) ≠ vd (nv s) (hp s 0)) := by
  intro m
  induction m with
  | zero =>
    intro f k hk hf hl
    obtain ⟨f', rfl⟩ : ∃ f', f = f' + 1 := ⟨f - 1, by omega⟩
    have hkn : k = n := by omega
    subst hkn
    refine .inl ⟨?_, hl⟩
    rw [mxX7_kindOfHeap_67, hO.1, if_pos (Int32.le_refl _)]
  | succ m ih =>
    intro f k hk hf hl
    obtain ⟨f', rfl⟩ : ∃ f', f = f' + 1 := ⟨f - 1, by omega⟩
    have ne : ¬ (Int32.ofNat n ≤ Int32.ofNat k) := by
      rw [i_le (by omega) (by omega)]
      omega
    obtain ⟨v, ev, hv, -⟩ := x_height (N := N) (p := k) (s := s) (by omega) (hO.2.1 k (by omega)) bn
    obtain ⟨v', ev', hv', -⟩ := x_height (N := N) (p := 0) (s := s) (by omega) (hO.2.1 0 (by omega)) bn
    have ev0 : mxX7_height N 0 s = some (s, v') := ev'
    rw [mxX7_kindOfHeap_67, hO.1, if_neg ne, ev, Option.bind_some]
    dsimp only
    rw [ev0, Option.bind_some]
    simp only [i64_eq hv hv']
    by_cases c : vd (nv s) (hp s k) = vd (nv s) (hp s 0)
    · rw [if_pos c, i_s]
      refine ih f' (k + 1) (by omega) (by omega) ?_
      intro i hi
      by_cases w : i = k
      · rw [w]
        exact c
      · exact hl i (by omega)
    · rw [if_neg c]
      exact .inr ⟨rfl, k, by omega, c⟩
/-- what kindOfHeap says of n points: fewer than three; in a line; in a plane; or not -/
def kdO (P : Nat → V3) (v : V3) (n k : Nat) : Prop := (n < 3 ∧ k = n) ∨ (3 ≤ n ∧ k = 2 ∧ ∀ i, i < n → vx (vs (P 1) (P 0)) (vs (P i) (P 0)) = v0) ∨ (3 ≤ n ∧ (k = 3 ∧ (∀ i, i < n → vd v (P i) = vd v (P 0)) ∨ k = 4 ∧ ∃ i, i < n ∧ vd v (P i) ≠ vd v (P 0)) ∧ bd3 v 320000 ∧ (∃ x, vd v x = 1) ∧ ∃ r G, r < n ∧ 0 < G ∧ vx (vs (P 1) (P 0)) (vs (P r) (P 0)) = vl G v 0 v0 ∧ vx (vs (P 1) (P 0)) (vs (P r) (P 0)) ≠ v0)
theorem x_k52 {N n r : Nat} {s : mS} (hn : n ≤ 600) (hN : 1000000 < N) (h3 : 3 ≤ n) (hr : r < n) (hO : hpO s n) (bn : bd3 (nv s) 320000) (hc : nv s = vx (vs (hp s 1) (hp s 0)) (vs (hp s r) (hp s 0))) (hfl : nv s = v0 → ∀ i, i < n → vx (vs (hp s 1) (hp s 0)) (vs (hp s i) (hp s 0)) = v0) : ∃ s' k, mxX7_kindOfHeap_52 N s = some (s', Int32.ofNat k) ∧ smN s s' ∧ kdO (hp s) (nv s') n k := by
  unfold mxX7_kindOfHeap_52
  by_cases c : nv s = v0
  · rw [(x_flat (N := N)).1 c, Option.bind_some]
    dsimp only
    rw [if_neg (by decide)]
    exact ⟨s, 2, rfl, smN.rf, .inr (.inl ⟨h3, rfl, hfl c⟩)⟩
  · rw [(x_flat (N := N)).2 c, Option.bind_some]
    dsimp only
    rw [if_pos rfl]
    obtain ⟨s', G, e, G0, hG, hx, hb, sm⟩ := x_plain (N := N) (M := 320000) c bn (by decide) (by omega)
    rw [e, Option.bind_some]
    have hO' := hpO_N sm hO
    have hP : hp s' = hp s := funext fun k => smN_hp sm k
    have key : ∃ r G, r < n ∧ 0 < G ∧ vx (vs (hp s 1) (hp s 0)) (vs (hp s r) (hp s 0)) = vl G (nv s') 0 v0 ∧ vx (vs (hp s 1) (hp s 0)) (vs (hp s r) (hp s 0)) ≠ v0 := ⟨r, G, hr, G0, by rw [← hc]; exact hG, by rw [← hc]; exact c⟩
    rcases x_k67 (N := N) hn (by omega) hO' hb n N 0 (by omega) (by omega) (fun i hi => absurd hi (by omega)) with ⟨e1, a1⟩ | ⟨e1, a1⟩
    · rw [hP] at a1
      exact ⟨s', 3, e1, sm, .inr (.inr ⟨h3, .inl ⟨rfl, a1⟩, hb, hx, key⟩)⟩
    · rw [hP] at a1
      exact ⟨s', 4, e1, sm, .inr (.inr ⟨h3, .inr ⟨rfl, a1⟩, hb, hx, key⟩)⟩
theorem x_k22 {N n : Nat} {s : mS} (hn : n ≤ 600) (hN : 1000000 < N) (h3 : 3 ≤ n) (hO : hpO s n) : ∀ (m f r : Nat) (h : mS), r + m + 1 = n → m < f → 2 ≤ r → smN s h → bd3 (nv h) 320000 → nv h = vx (vs (hp s 1) (hp s 0)) (vs (hp s r) (hp s 0)) → (∀ i, i < r → vx (vs (hp s 1) (hp s 0)) (vs (hp s i) (hp s 0)) = v0) → ∃ s' k, mxX7_kindOfHeap_22 N f (Int32.ofNat r) h = some (s', Int32.ofNat k) ∧ smN s s' ∧ kdO (hp s) (nv s') n k := by
  intro m
  induction m with
  | zero =>
    intro f r h hr hf h2 sm bn hc hl
    obtain ⟨f', rfl⟩ : ∃ f', f = f' + 1 := ⟨f - 1, by omega⟩
    have hO' := hpO_N sm hO
    have hP : hp h = hp s := funext fun k => smN_hp sm k
    obtain ⟨s', k, e, sm', hk⟩ := x_k52 (N := N) (r := r) hn hN h3 (by omega) hO' bn (by rw [hP]; exact hc) (by
      intro z i hi
      rw [hP]
      by_cases w : i = r
      · rw [w, ← hc]
        exact z
      · exact hl i (by omega))
    rw [hP] at hk
    refine ⟨s', k, ?_, sm.tr sm', hk⟩
    rw [mxX7_kindOfHeap_22]
    by_cases c : nv h = v0
    · rw [(x_flat (N := N)).1 c, Option.bind_some]
      dsimp only
      rw [if_neg (by decide), hO'.1, i_s, if_pos (by rw [i_le (by omega) (by omega)]; omega)]
      exact e
    · rw [(x_flat (N := N)).2 c, Option.bind_some]
      dsimp only
      rw [if_pos rfl]
      exact e
  | succ m ih =>
    intro f r h hr hf h2 sm bn hc hl
    obtain ⟨f', rfl⟩ : ∃ f', f = f' + 1 := ⟨f - 1, by omega⟩
    have hO' := hpO_N sm hO
    have hP : hp h = hp s := funext fun k => smN_hp sm k
    rw [mxX7_kindOfHeap_22]
    by_cases c : nv h = v0
    · rw [(x_flat (N := N)).1 c, Option.bind_some]
      dsimp only
      rw [if_neg (by decide), hO'.1, i_s, if_neg (by rw [i_le (by omega) (by omega)]; omega)]
      obtain ⟨s1, e1, n1, b1, sm1⟩ := x_across (N := N) (p := 0) (q := 1) (r := r + 1) (s := h) (by omega) (by omega) (by omega) (hO'.2.1 0 (by omega)) (hO'.2.1 1 (by omega)) (hO'.2.1 (r + 1) (by omega))
      rw [hP] at n1
      have e1' : mxX7_across N 0 1 (Int32.ofNat (r + 1)) h = some s1 := e1
      rw [e1', Option.bind_some]
      refine ih f' (r + 1) s1 (by omega) (by omega) (by omega) (sm.tr sm1) b1 n1 ?_
      intro i hi
      by_cases w : i = r
      · rw [w, ← hc]
        exact c
      · exact hl i (by omega)
    · rw [(x_flat (N := N)).2 c, Option.bind_some]
      dsimp only
      rw [if_pos rfl]
      obtain ⟨s', k, e, sm', hk⟩ := x_k52 (N := N) (r := r) hn hN h3 (by omega) hO' bn (by rw [hP]; exact hc) (fun z => absurd z c)
      rw [hP] at hk
      exact ⟨s', k, e, sm.tr sm', hk⟩
theorem x_kind {N n : Nat} {s : mS} (hn : n ≤ 600) (hN : 1000000 < N) (hO : hpO s n) : ∃ s' k, mxX7_kindOfHeap N s = some (s', Int32.ofNat k) ∧ smN s s' ∧ kdO (hp s) (nv s') n k := by
  unfold mxX7_kindOfHeap
  rw [hO.1]
  have e3 : (3 : Int32) = Int32.ofNat 3 := rfl
  by_cases c : 3 ≤ n
  · rw [if_pos (by rw [e3, i_le (by omega) (by omega)]; exact c)]
    obtain ⟨s1, e1, n1, b1, sm1⟩ := x_across (N := N) (p := 0) (q := 1) (r := 2) (s := s) (by omega) (by omega) (by omega) (hO.2.1 0 (by omega)) (hO.2.1 1 (by omega)) (hO.2.1 2 (by omega))
    have e1' : mxX7_across N 0 1 2 s = some s1 := e1
    rw [e1', Option.bind_some]
    refine x_k22 hn hN c hO (n - 3) N 2 s1 (by omega) (by omega) (by omega) sm1 b1 n1 ?_
    intro i hi
    by_cases w : i = 0
    · rw [w, vs_self]
      exact vx_anti0 (vx_0 _)
    · have : i = 1 := by omega
      rw [this]
      exact vx_self _
  · rw [if_neg (by rw [e3, i_le (by omega) (by omega)]; exact c)]
    exact ⟨s, n, rfl, smN.rf, .inl ⟨by omega, rfl⟩⟩
theorem vd_vlr (n : V3) (k : Int) (a : V3) : vd n (vl k a 0 v0) = k * vd n a := by
  rw [vd_vl, Int.zero_mul, Int.add_zero]
/-- KIND 4: the points don't lie in one plane -/
theorem kd_full {P : Nat → V3} {v : V3} {n : Nat} (h : kdO P v n 4) (h3 : 3 ≤ n) : full P n := by
  rcases h with ⟨h1, -⟩ | ⟨-, h2, -⟩ | ⟨-, hk, -, hx, r, G, hr, G0, hG, hne⟩
  · omega
  · omega
  · rcases hk with ⟨h4, -⟩ | ⟨-, i, hi, hi2⟩
    · omega
    · intro m d hm
      by_cases c : ∃ j, j < n ∧ vd m (P j) ≠ d
      · exact c
      · exfalso
        have al : ∀ j, j < n → vd m (P j) = d := by
          intro j hj
          by_cases q : vd m (P j) = d
          · exact q
          · exact absurd ⟨j, hj, q⟩ c
        have c1 : vx m (vx (vs (P 1) (P 0)) (vs (P r) (P 0))) = v0 := cross_along (by rw [vd_vs, al 1 (by omega), al 0 (by omega)]; omega) (by rw [vd_vs, al r hr, al 0 (by omega)]; omega)
        have c2 : vx v (vx (vs (P 1) (P 0)) (vs (P r) (P 0))) = v0 := by
          rw [hG]
          refine v3_ext ?_ ?_ ?_
          · show v.2.1 * (G * v.2.2 + 0 * 0) - v.2.2 * (G * v.2.1 + 0 * 0) = 0
            grind
          · show v.2.2 * (G * v.1 + 0 * 0) - v.1 * (G * v.2.2 + 0 * 0) = 0
            grind
          · show v.1 * (G * v.2.1 + 0 * 0) - v.2.1 * (G * v.1 + 0 * 0) = 0
            grind
        have c3 := along_along hne c2 c1
        obtain ⟨x, hx⟩ := hx
        obtain ⟨y, hy⟩ := hm
        have neg : ∀ p : V3, vd (vs v0 v) p = - vd v p := by
          intro p
          obtain ⟨n1, n2, n3⟩ := v
          obtain ⟨p1, p2, p3⟩ := p
          simp only [vd, vs, v0]
          grind
        have a1 := al i hi
        have a0 := al 0 (by omega)
        rcases prim_eq hx hy c3 with e | e
        · rw [e] at a1 a0
          omega
        · rw [e, neg] at a1 a0
          omega
