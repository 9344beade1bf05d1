def wO : V3 := (1000000, 1000, 1)
theorem wO_pos : 0 < vd wO wO := by decide
theorem lx_or {a b : V3} (ha : bd3 a 200) (hb : bd3 b 200) : (a.1 < b.1 ∨ a.1 = b.1 ∧ (a.2.1 < b.2.1 ∨ a.2.1 = b.2.1 ∧ a.2.2 < b.2.2)) ↔ vd wO a < vd wO b := by
  obtain ⟨a1, a2, a3⟩ := ha
  obtain ⟨b1, b2, b3⟩ := hb
  show _ ↔ 1000000 * a.1 + 1000 * a.2.1 + 1 * a.2.2 < 1000000 * b.1 + 1000 * b.2.1 + 1 * b.2.2
  omega
theorem lx_eq {a b : V3} (ha : bd3 a 200) (hb : bd3 b 200) : vd wO a = vd wO b → a = b := by
  obtain ⟨a1, a2, a3⟩ := ha
  obtain ⟨b1, b2, b3⟩ := hb
  intro h
  have h' : 1000000 * a.1 + 1000 * a.2.1 + 1 * a.2.2 = 1000000 * b.1 + 1000 * b.2.1 + 1 * b.2.2 := h
  exact v3_ext (by omega) (by omega) (by omega)
/-- the heap: n points within bounds, in order -/
def hpO (s : mS) (n : Nat) : Prop := s.1 15 = Int32.ofNat n ∧ (∀ k, k < n → bd3 (hp s k) 200) ∧ ∀ i j, i < j → j < n → vd wO (hp s i) < vd wO (hp s j)
/-- only the heap has changed -/
def smH (s s' : mS) : Prop := (∀ k, ¬ k = 15 → s'.1 k = s.1 k) ∧ s'.2.1 = s.2.1 ∧ s'.2.2.1 = s.2.2.1 ∧ ∀ k, ¬ k = 16 → ¬ k = 17 → ¬ k = 18 → s'.2.2.2 k = s.2.2.2 k
theorem smH.rf {s : mS} : smH s s := ⟨fun _ _ => rfl, rfl, rfl, fun _ _ _ _ => rfl⟩
theorem smH.tr {a b c : mS} (h : smH a b) (g : smH b c) : smH a c := ⟨fun k q => (g.1 k q).trans (h.1 k q), g.2.1.trans h.2.1, g.2.2.1.trans h.2.2.1, fun k q1 q2 q3 => (g.2.2.2 k q1 q2 q3).trans (h.2.2.2 k q1 q2 q3)⟩
def sG3 (s : mS) (j : Nat) (a b c : Int64) : mS := sG (sG (sG s 16 j a) 17 j b) 18 j c
theorem hp_sG3 (s : mS) (j : Nat) (a b c : Int64) (k : Nat) : hp (sG3 s j a b c) k = if k = j then (a.toInt, b.toInt, c.toInt) else hp s k := by
  by_cases h : k = j
  · rw [if_pos h]
    simp [hp, sG3, sG, va_up, vp_updL, h]
  · rw [if_neg h]
    simp [hp, sG3, sG, va_up, vp_updL, h]
theorem smH_sG3 (s : mS) (j : Nat) (a b c : Int64) : smH s (sG3 s j a b c) := by
  refine ⟨fun _ _ => rfl, rfl, rfl, fun k k1 k2 k3 => ?_⟩
  simp [sG3, sG, va_up, k1, k2, k3]
theorem wG_N {s : mS} {k j : Nat} {v : Int64} (h : j < aN k) (hk : aN k < 2147483648) : wG s k (Int32.ofNat j) v = some (sG s k j v) := by
  unfold wG sG
  rw [if_neg (i_nb h hk), i_tn (by omega)]
theorem g16 {k : Nat} (h : k < 600) (s : mS) (v : Int64) : wG s 16 (Int32.ofNat k) v = some (sG s 16 k v) := wG_N (k := 16) h (by decide)
theorem g17 {k : Nat} (h : k < 600) (s : mS) (v : Int64) : wG s 17 (Int32.ofNat k) v = some (sG s 17 k v) := wG_N (k := 17) h (by decide)
theorem g18 {k : Nat} (h : k < 600) (s : mS) (v : Int64) : wG s 18 (Int32.ofNat k) v = some (sG s 18 k v) := wG_N (k := 18) h (by decide)
theorem i_p (i : Nat) : Int32.ofNat (i + 1) - 1 = Int32.ofNat i := by
  rw [← i_s, Int32.add_sub_cancel]
theorem i_p' (i : Nat) : Int32.ofNat (i + 1) + (-1) = Int32.ofNat i := by
  rw [← i_s, Int32.add_assoc]
  have : (1 : Int32) + (-1) = 0 := rfl
  rw [this, Int32.add_zero]
/-- those behind k move up by one, and the new one is written -/
theorem x_shift {N n k : Nat} {x y z : Int64} {s : mS} (hn : n < 600) (h15 : s.1 15 = Int32.ofNat n) : ∀ (m f i : Nat) (h : mS), i = k + m → m < f → i ≤ n → smH s h → h.1 15 = Int32.ofNat n → (∀ j, j ≤ i → hp h j = hp s j) → (∀ j, i < j → j ≤ n → hp h j = hp s (j - 1)) →
    ∃ s', mxX7_heaps_132 N f x y z (Int32.ofNat k) (Int32.ofNat i) h = some s' ∧ smH s s' ∧ s'.1 15 = Int32.ofNat (n + 1) ∧ (∀ j, j < k → hp s' j = hp s j) ∧ hp s' k = (x.toInt, y.toInt, z.toInt) ∧ (∀ j, k < j → j ≤ n → hp s' j = hp s (j - 1)) := by
  intro m
  induction m with
  | zero =>
    intro f i h hi hf hin hs h1 hlo hhi
    obtain ⟨f', rfl⟩ : ∃ f', f = f' + 1 := ⟨f - 1, by omega⟩
    have hik : i = k := by omega
    subst hik
    refine ⟨pI (sG3 h i x y z) 15 (Int32.ofNat (n + 1)), ?_, ?_, rfl, ?_, ?_, ?_⟩
    · rw [mxX7_heaps_132, if_pos (Int32.le_refl _), g16 (by omega), Option.bind_some, g17 (by omega), Option.bind_some, g18 (by omega), Option.bind_some, Option.bind_some]
      have : (sG (sG (sG h 16 i x) 17 i y) 18 i z).1 15 = Int32.ofNat n := h1
      rw [this, i_s]
      rfl
    · refine hs.tr ((smH_sG3 h i x y z).tr ⟨fun q hq => ?_, rfl, rfl, fun _ _ _ _ => rfl⟩)
      show upd _ 15 _ q = _
      rw [upd_at, if_neg hq]
    · intro j hj
      show hp (sG3 h i x y z) j = _
      rw [hp_sG3, if_neg (by omega), hlo j (by omega)]
    · show hp (sG3 h i x y z) i = _
      rw [hp_sG3, if_pos rfl]
    · intro j hj hjn
      show hp (sG3 h i x y z) j = _
      rw [hp_sG3, if_neg (by omega), hhi j hj hjn]
  | succ m ih =>
    intro f i h hi hf hin hs h1 hlo hhi
    obtain ⟨f', rfl⟩ : ∃ f', f = f' + 1 := ⟨f - 1, by omega⟩
    obtain ⟨i', rfl⟩ : ∃ i', i = i' + 1 := ⟨i - 1, by omega⟩
    have ne : ¬ (Int32.ofNat (i' + 1) ≤ Int32.ofNat k) := by
      rw [i_le (by omega) (by omega)]
      omega
    rw [mxX7_heaps_132, if_neg ne]
    simp only [i_p, i_p']
    rw [h16 (by omega), Option.bind_some, g16 (by omega), Option.bind_some, h17 (by omega), Option.bind_some, g17 (by omega), Option.bind_some, h18 (by omega), Option.bind_some, g18 (by omega), Option.bind_some]
    have e : sG (sG (sG h 16 (i' + 1) (h.2.2.2 16 i')) 17 (i' + 1) ((sG h 16 (i' + 1) (h.2.2.2 16 i')).2.2.2 17 i')) 18 (i' + 1) ((sG (sG h 16 (i' + 1) (h.2.2.2 16 i')) 17 (i' + 1) ((sG h 16 (i' + 1) (h.2.2.2 16 i')).2.2.2 17 i')).2.2.2 18 i') = sG3 h (i' + 1) (h.2.2.2 16 i') (h.2.2.2 17 i') (h.2.2.2 18 i') := rfl
    rw [e]
    refine ih f' i' _ (by omega) (by omega) (by omega) (hs.tr (smH_sG3 h _ _ _ _)) h1 ?_ ?_
    · intro j hj
      rw [hp_sG3, if_neg (by omega), hlo j (by omega)]
    · intro j hj hjn
      rw [hp_sG3]
      by_cases w : j = i' + 1
      · rw [if_pos w, w, Nat.add_sub_cancel]
        exact hlo i' (by omega)
      · rw [if_neg w]
        exact hhi j (by omega) hjn
/-- where the new one belongs -/
theorem x_place {N n : Nat} {x y z : Int64} {s : mS} (hn : n < 600) (hO : hpO s n) (hv : bd3 (x.toInt, y.toInt, z.toInt) 200) : ∀ (m f k : Nat), k + m = n → m < f → (∀ j, j < k → vd wO (hp s j) < vd wO (x.toInt, y.toInt, z.toInt)) →
    ∃ k', k' ≤ n ∧ (∀ j, j < k' → vd wO (hp s j) < vd wO (x.toInt, y.toInt, z.toInt)) ∧ (k' < n → ¬ vd wO (hp s k') < vd wO (x.toInt, y.toInt, z.toInt)) ∧ mxX7_heaps_3 N f x y z (Int32.ofNat k) s = mxX7_heaps_79 N x y z (Int32.ofNat k') s := by
  obtain ⟨h15, hb, ho⟩ := hO
  intro m
  induction m with
  | zero =>
    intro f k hk hf hl
    obtain ⟨f', rfl⟩ : ∃ f', f = f' + 1 := ⟨f - 1, by omega⟩
    have hkn : k = n := by omega
    subst hkn
    refine ⟨k, Nat.le_refl _, hl, fun h => absurd h (by omega), ?_⟩
    rw [mxX7_heaps_3, h15, if_pos (Int32.le_refl _)]
  | succ m ih =>
    intro f k hk hf hl
    obtain ⟨f', rfl⟩ : ∃ f', f = f' + 1 := ⟨f - 1, by omega⟩
    have ne : ¬ (Int32.ofNat n ≤ Int32.ofNat k) := by
      rw [i_le (by omega) (by omega)]
      omega
    have bk := hb k (by omega)
    have lo := lx_or bk hv
    have q1 : (s.2.2.2 16 k < x) = ((hp s k).1 < x.toInt) := i64_lt rfl rfl
    have q2 : (s.2.2.2 16 k = x) = ((hp s k).1 = x.toInt) := i64_eq rfl rfl
    have q3 : (s.2.2.2 17 k < y) = ((hp s k).2.1 < y.toInt) := i64_lt rfl rfl
    have q4 : (s.2.2.2 17 k = y) = ((hp s k).2.1 = y.toInt) := i64_eq rfl rfl
    have q5 : (z ≤ s.2.2.2 18 k) = (z.toInt ≤ (hp s k).2.2) := i64_le rfl rfl
    rw [mxX7_heaps_3, h15, if_neg ne]
    rw [h16 (by omega), Option.bind_some, Option.bind_some, h17 (by omega), Option.bind_some, Option.bind_some, h18 (by omega), Option.bind_some]
    simp only [q1, q2, q3, q4, q5]
    have stop : ¬ vd wO (hp s k) < vd wO (x.toInt, y.toInt, z.toInt) → ∃ k', k' ≤ n ∧ (∀ j, j < k' → vd wO (hp s j) < vd wO (x.toInt, y.toInt, z.toInt)) ∧ (k' < n → ¬ vd wO (hp s k') < vd wO (x.toInt, y.toInt, z.toInt)) ∧ mxX7_heaps_79 N x y z (Int32.ofNat k) s = mxX7_heaps_79 N x y z (Int32.ofNat k') s := fun h => ⟨k, by omega, hl, fun _ => h, rfl⟩
    have go : vd wO (hp s k) < vd wO (x.toInt, y.toInt, z.toInt) → ∃ k', k' ≤ n ∧ (∀ j, j < k' → vd wO (hp s j) < vd wO (x.toInt, y.toInt, z.toInt)) ∧ (k' < n → ¬ vd wO (hp s k') < vd wO (x.toInt, y.toInt, z.toInt)) ∧ mxX7_heaps_73 N (mxX7_heaps_3 N f') x y z (Int32.ofNat k) s = mxX7_heaps_79 N x y z (Int32.ofNat k') s := by
      intro h
      unfold mxX7_heaps_73
      rw [i_s]
      refine ih f' (k + 1) (by omega) (by omega) ?_
      intro j hj
      by_cases w : j = k
      · rw [w]
        exact h
      · exact hl j (by omega)
    by_cases c1 : (hp s k).1 < x.toInt
    · rw [if_pos c1]
      exact go (lo.mp (.inl c1))
    rw [if_neg c1]
    by_cases c2 : (hp s k).1 = x.toInt
    · rw [if_pos c2]
      by_cases c3 : (hp s k).2.1 < y.toInt
      · rw [if_pos c3]
        exact go (lo.mp (.inr ⟨c2, .inl c3⟩))
      rw [if_neg c3]
      by_cases c4 : (hp s k).2.1 = y.toInt
      · rw [if_pos c4]
        by_cases c5 : z.toInt ≤ (hp s k).2.2
        · rw [if_pos c5]
          refine stop fun h => ?_
          have h' := lo.mpr h
          simp only at h'
          omega
        · rw [if_neg c5]
          exact go (lo.mp (.inr ⟨c2, .inr ⟨c4, by show (hp s k).2.2 < z.toInt; omega⟩⟩))
      · rw [if_neg c4]
        refine stop fun h => ?_
        have h' := lo.mpr h
        simp only at h'
        omega
    · rw [if_neg c2]
      refine stop fun h => ?_
      have h' := lo.mpr h
      simp only at h'
      omega
