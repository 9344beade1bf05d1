/-- heaps keeps the heap in order, and adds the one point -/
theorem x_heaps {N n : Nat} {x y z : Int64} {s : mS} (hn : n < 600) (hN : 600 < N) (hO : hpO s n) (hv : bd3 (x.toInt, y.toInt, z.toInt) 200) : ∃ s' n', mxX7_heaps N x y z s = some s' ∧ hpO s' n' ∧ smH s s' ∧ n ≤ n' ∧ n' ≤ n + 1 ∧ 1 ≤ n' ∧ (∀ i, i < n' → (∃ j, j < n ∧ hp s' i = hp s j) ∨ hp s' i = (x.toInt, y.toInt, z.toInt)) ∧ (∀ j, j < n → ∃ i, i < n' ∧ hp s' i = hp s j) ∧ ∃ i, i < n' ∧ hp s' i = (x.toInt, y.toInt, z.toInt) := by
  obtain ⟨k, kn, klo, kst, e⟩ := x_place (N := N) hn hO hv n N 0 (by omega) (by omega) (fun j hj => absurd hj (by omega))
  obtain ⟨h15, hb, ho⟩ := hO
  have new : (k < n → hp s k ≠ (x.toInt, y.toInt, z.toInt)) → mxX7_heaps N x y z s = mxX7_heaps_126 N x y z (Int32.ofNat k) s → ∃ s' n', mxX7_heaps N x y z s = some s' ∧ hpO s' n' ∧ smH s s' ∧ n ≤ n' ∧ n' ≤ n + 1 ∧ 1 ≤ n' ∧ (∀ i, i < n' → (∃ j, j < n ∧ hp s' i = hp s j) ∨ hp s' i = (x.toInt, y.toInt, z.toInt)) ∧ (∀ j, j < n → ∃ i, i < n' ∧ hp s' i = hp s j) ∧ ∃ i, i < n' ∧ hp s' i = (x.toInt, y.toInt, z.toInt) := by
    intro hne he
    obtain ⟨s', e', sm, q15, qlo, qk, qhi⟩ := x_shift (N := N) (k := k) (x := x) (y := y) (z := z) hn h15 (n - k) N n s (by omega) (by omega) (Nat.le_refl n) smH.rf h15 (fun _ _ => rfl) (fun j h1 h2 => absurd h2 (by omega))
    have gt : ∀ j, k ≤ j → j < n → vd wO (x.toInt, y.toInt, z.toInt) < vd wO (hp s j) := by
      intro j h1 h2
      have hk : k < n := by omega
      have h3 := kst hk
      have h4 : vd wO (hp s k) ≠ vd wO (x.toInt, y.toInt, z.toInt) := fun q => hne hk (lx_eq (hb k hk) hv q)
      by_cases w : j = k
      · rw [w]
        omega
      · have := ho k j (by omega) h2
        omega
    refine ⟨s', n + 1, ?_, ⟨q15, ?_, ?_⟩, sm, by omega, by omega, by omega, ?_, ?_, ⟨k, by omega, qk⟩⟩
    · rw [he]
      unfold mxX7_heaps_126
      rw [h15]
      exact e'
    · intro j hj
      by_cases w1 : j < k
      · rw [qlo j w1]
        exact hb j (by omega)
      · by_cases w2 : j = k
        · rw [w2, qk]
          exact hv
        · rw [qhi j (by omega) (by omega)]
          exact hb (j - 1) (by omega)
    · intro i j hij hj
      by_cases w1 : j < k
      · rw [qlo j w1, qlo i (by omega)]
        exact ho i j hij (by omega)
      · by_cases w2 : j = k
        · rw [w2, qk, qlo i (by omega)]
          exact klo i (by omega)
        · rw [qhi j (by omega) (by omega)]
          by_cases w3 : i < k
          · rw [qlo i w3]
            exact ho i (j - 1) (by omega) (by omega)
          · by_cases w4 : i = k
            · rw [w4, qk]
              exact gt (j - 1) (by omega) (by omega)
            · rw [qhi i (by omega) (by omega)]
              exact ho (i - 1) (j - 1) (by omega) (by omega)
    · intro i hi
      by_cases w1 : i < k
      · exact .inl ⟨i, by omega, qlo i w1⟩
      · by_cases w2 : i = k
        · right
          rw [w2, qk]
        · exact .inl ⟨i - 1, by omega, qhi i (by omega) (by omega)⟩
    · intro j hj
      by_cases w1 : j < k
      · exact ⟨j, by omega, qlo j w1⟩
      · refine ⟨j + 1, by omega, ?_⟩
        rw [qhi (j + 1) (by omega) (by omega), Nat.add_sub_cancel]
  have e0 : mxX7_heaps N x y z s = mxX7_heaps_79 N x y z (Int32.ofNat k) s := by
    unfold mxX7_heaps
    exact e
  by_cases c : k < n
  · have ne : ¬ (Int32.ofNat n ≤ Int32.ofNat k) := by
      rw [i_le (by omega) (by omega)]
      omega
    have q2 : (s.2.2.2 16 k = x) = ((hp s k).1 = x.toInt) := i64_eq rfl rfl
    have q4 : (s.2.2.2 17 k = y) = ((hp s k).2.1 = y.toInt) := i64_eq rfl rfl
    have q6 : (s.2.2.2 18 k = z) = ((hp s k).2.2 = z.toInt) := i64_eq rfl rfl
    have e1 : mxX7_heaps_79 N x y z (Int32.ofNat k) s = if (hp s k).1 = x.toInt then (if (hp s k).2.1 = y.toInt then (if (hp s k).2.2 = z.toInt then some s else mxX7_heaps_126 N x y z (Int32.ofNat k) s) else mxX7_heaps_126 N x y z (Int32.ofNat k) s) else mxX7_heaps_126 N x y z (Int32.ofNat k) s := by
      unfold mxX7_heaps_79
      rw [h15, if_neg ne, h16 (by omega), Option.bind_some, h17 (by omega), Option.bind_some, h18 (by omega), Option.bind_some]
      simp only [q2, q4, q6]
    by_cases c1 : (hp s k).1 = x.toInt
    · by_cases c2 : (hp s k).2.1 = y.toInt
      · by_cases c3 : (hp s k).2.2 = z.toInt
        · refine ⟨s, n, ?_, ⟨h15, hb, ho⟩, smH.rf, Nat.le_refl _, by omega, by omega, fun i hi => .inl ⟨i, hi, rfl⟩, fun j hj => ⟨j, hj, rfl⟩, ⟨k, c, v3_ext c1 c2 c3⟩⟩
          rw [e0, e1, if_pos c1, if_pos c2, if_pos c3]
        · refine new (fun _ q => c3 (by rw [q])) ?_
          rw [e0, e1, if_pos c1, if_pos c2, if_neg c3]
      · refine new (fun _ q => c2 (by rw [q])) ?_
        rw [e0, e1, if_pos c1, if_neg c2]
    · refine new (fun _ q => c1 (by rw [q])) ?_
      rw [e0, e1, if_neg c1]
  · refine new (fun h => absurd h c) ?_
    have hk : k = n := by omega
    rw [e0]
    unfold mxX7_heaps_79
    rw [h15, hk, if_pos (Int32.le_refl _)]
/-- only the list has changed -/
def smL (s s' : mS) : Prop := (∀ k, ¬ k = 21 → s'.1 k = s.1 k) ∧ s'.2.1 = s.2.1 ∧ (∀ k, ¬ k = 20 → s'.2.2.1 k = s.2.2.1 k) ∧ s'.2.2.2 = s.2.2.2
theorem smL.rf {s : mS} : smL s s := ⟨fun _ _ => rfl, rfl, fun _ _ => rfl, rfl⟩
theorem smL.tr {a b c : mS} (h : smL a b) (g : smL b c) : smL a c := ⟨fun k q => (g.1 k q).trans (h.1 k q), g.2.1.trans h.2.1, fun k q => (g.2.2.1 k q).trans (h.2.2.1 k q), g.2.2.2.trans h.2.2.2⟩
theorem smL_hp {s s' : mS} (h : smL s s') (k : Nat) : hp s' k = hp s k := by
  unfold hp
  rw [h.2.2.2]
theorem smL_nv {s s' : mS} (h : smL s s') : nv s' = nv s := by
  unfold nv
  rw [h.2.1]
/-- of the first k points: none above D, and the list l of those at D -/
def lsK (s : mS) (D : Int) (k c : Nat) (l : Nat → Nat) : Prop := (∀ i, i < k → vd (nv s) (hp s i) ≤ D) ∧ (∀ j, j < c → l j < k ∧ vd (nv s) (hp s (l j)) = D) ∧ (∀ i j, i < j → j < c → l i < l j) ∧ ∀ i, i < k → vd (nv s) (hp s i) = D → ∃ j, j < c ∧ l j = i
theorem x_lists7 {N n : Nat} {d : Int64} {s : mS} (hn : n ≤ 600) (hO : hpO s n) (bn : bd3 (nv s) 320000) : ∀ (m f k : Nat) (h : mS) (c : Nat) (l : Nat → Nat), k + m = n → m < f → smL s h → lsO h c l → c ≤ k → lsK s d.toInt k c l →
    ∃ s', smL s s' ∧ ((mxX7_lists_7 N f d (Int32.ofNat k) h = some (s', 0) ∧ ∃ i, i < n ∧ d.toInt < vd (nv s) (hp s i)) ∨ (mxX7_lists_7 N f d (Int32.ofNat k) h = some (s', 1) ∧ ∃ c l, lsO s' c l ∧ c ≤ n ∧ lsK s d.toInt n c l)) := by
  obtain ⟨h15, hb, ho⟩ := hO
  intro m
  induction m with
  | zero =>
    intro f k h c l hk hf hs hl hck hK
    obtain ⟨f', rfl⟩ : ∃ f', f = f' + 1 := ⟨f - 1, by omega⟩
    have hkn : k = n := by omega
    subst hkn
    refine ⟨h, hs, .inr ⟨?_, c, l, hl, hck, hK⟩⟩
    rw [mxX7_lists_7, hs.1 15 (by decide), h15, if_pos (Int32.le_refl _)]
  | succ m ih =>
    intro f k h c l hk hf hs hl hck hK
    obtain ⟨f', rfl⟩ : ∃ f', f = f' + 1 := ⟨f - 1, by omega⟩
    have ne : ¬ (Int32.ofNat n ≤ Int32.ofNat k) := by
      rw [i_le (by omega) (by omega)]
      omega
    obtain ⟨v, ev, hv, -⟩ := x_height (N := N) (p := k) (s := h) (by omega) (by rw [smL_hp hs]; exact hb k (by omega)) (by rw [smL_nv hs]; exact bn)
    rw [smL_nv hs, smL_hp hs] at hv
    rw [mxX7_lists_7, hs.1 15 (by decide), h15, if_neg ne, ev, Option.bind_some]
    simp only [i64_le hv (rfl : d.toInt = d.toInt), i64_eq hv (rfl : d.toInt = d.toInt)]
    obtain ⟨k1, k2, k3, k4⟩ := hK
    by_cases c1 : vd (nv s) (hp s k) ≤ d.toInt
    · rw [if_pos c1]
      have le1 : ∀ i, i < k + 1 → vd (nv s) (hp s i) ≤ d.toInt := by
        intro i hi
        by_cases w : i = k
        · rw [w]
          exact c1
        · exact k1 i (by omega)
      by_cases c2 : vd (nv s) (hp s k) = d.toInt
      · rw [if_pos c2]
        have bc : c < aN 20 := by show c < 600; omega
        rw [hl.1, wA_N bc (by decide), Option.bind_some]
        have q21 : (sA h 20 c (Int32.ofNat k)).1 21 = Int32.ofNat c := hl.1
        rw [Option.bind_some, q21, i_s]
        unfold mxX7_lists_61
        rw [i_s]
        refine ih f' (k + 1) _ (c + 1) (fun j => if j = c then k else l j) (by omega) (by omega) (hs.tr ⟨fun q hq => ?_, rfl, fun q hq => ?_, rfl⟩) ⟨rfl, fun j hj => ?_⟩ (by omega) ⟨le1, ?_, ?_, ?_⟩
        · show upd _ 21 _ q = _
          rw [upd_at, if_neg hq]
          rfl
        · show va_up h.2.2.1 20 _ q = h.2.2.1 q
          unfold va_up
          exact if_neg hq
        · show va_up h.2.2.1 20 (upd (h.2.2.1 20) c (Int32.ofNat k)) 20 j = _
          simp only [va_up, if_true, upd_at]
          by_cases w : j = c
          · rw [if_pos w, if_pos w]
          · rw [if_neg w, if_neg w]
            exact hl.2 j (by omega)
        · intro j hj
          by_cases w : j = c
          · simp only [w, if_true]
            exact ⟨by omega, c2⟩
          · simp only [w, if_false]
            have := k2 j (by omega)
            exact ⟨by omega, this.2⟩
        · intro i j hij hj
          have wi : ¬ (i = c) := by omega
          by_cases w : j = c
          · simp only [w, wi, if_true, if_false]
            exact (k2 i (by omega)).1
          · simp only [w, wi, if_false]
            exact k3 i j hij (by omega)
        · intro i hi he
          by_cases w : i = k
          · exact ⟨c, by omega, by simp [w]⟩
          · obtain ⟨j, hj, ej⟩ := k4 i (by omega) he
            have wj : ¬ (j = c) := by omega
            exact ⟨j, by omega, by simp only [wj, if_false]; exact ej⟩
      · rw [if_neg c2]
        unfold mxX7_lists_61
        rw [i_s]
        refine ih f' (k + 1) h c l (by omega) (by omega) hs hl (by omega) ⟨le1, fun j hj => ⟨by have := (k2 j hj).1; omega, (k2 j hj).2⟩, k3, ?_⟩
        intro i hi he
        by_cases w : i = k
        · rw [w] at he
          exact absurd he c2
        · exact k4 i (by omega) he
    · rw [if_neg c1]
      exact ⟨h, hs, .inl ⟨rfl, k, by omega, by omega⟩⟩
/-- lists: the points at the height d, if none is above -/
theorem x_lists {N n : Nat} {d : Int64} {s : mS} (hn : n ≤ 600) (hN : 600 < N) (hO : hpO s n) (bn : bd3 (nv s) 320000) : ∃ s', smL s s' ∧ ((mxX7_lists N d s = some (s', 0) ∧ ∃ i, i < n ∧ d.toInt < vd (nv s) (hp s i)) ∨ (mxX7_lists N d s = some (s', 1) ∧ ∃ c l, lsO s' c l ∧ c ≤ n ∧ lsK s d.toInt n c l)) := by
  unfold mxX7_lists
  rw [Option.bind_some]
  have sm : smL s (pI s 21 0) := ⟨fun q hq => by show upd s.1 21 _ q = s.1 q; rw [upd_at, if_neg hq], rfl, fun _ _ => rfl, rfl⟩
  exact x_lists7 hn hO bn n N 0 (pI s 21 0) 0 (fun _ => 0) (by omega) (by omega) sm ⟨rfl, fun j hj => absurd hj (by omega)⟩ (Nat.le_refl 0) ⟨fun i hi => absurd hi (by omega), fun j hj => absurd hj (by omega), fun i j _ hj => absurd hj (by omega), fun i hi => absurd hi (by omega)⟩
