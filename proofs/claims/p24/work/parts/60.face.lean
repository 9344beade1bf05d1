/-- a row of the table of FACES -/
def fN (s : mS) (k : Nat) : V3 := ((s.2.2.2 28 k).toInt, (s.2.2.2 29 k).toInt, (s.2.2.2 30 k).toInt)
def fD (s : mS) (k : Nat) : Int := (s.2.2.2 31 k).toInt
def fQ (s : mS) (k i : Nat) : Int32 := s.2.2.1 33 (25 * k + i)
def rwE (s' : mS) (k' : Nat) (s : mS) (k : Nat) : Prop := fN s' k' = fN s k ∧ fD s' k' = fD s k ∧ s'.2.2.1 32 k' = s.2.2.1 32 k ∧ ∀ i, i < 25 → fQ s' k' i = fQ s k i
theorem rwE.rf {s : mS} {k : Nat} : rwE s k s k := ⟨rfl, rfl, rfl, fun _ _ => rfl⟩
theorem rwE.tr {a b c : mS} {i j k : Nat} (h : rwE a i b j) (g : rwE b j c k) : rwE a i c k := ⟨h.1.trans g.1, h.2.1.trans g.2.1, h.2.2.1.trans g.2.2.1, fun t ht => (h.2.2.2 t ht).trans (g.2.2.2 t ht)⟩
/-- only the table of FACES has changed -/
def smF (s s' : mS) : Prop := s'.1 = s.1 ∧ s'.2.1 = s.2.1 ∧ (∀ k, ¬ k = 27 → ¬ k = 32 → ¬ k = 33 → s'.2.2.1 k = s.2.2.1 k) ∧ ∀ k, ¬ k = 28 → ¬ k = 29 → ¬ k = 30 → ¬ k = 31 → s'.2.2.2 k = s.2.2.2 k
theorem smF.rf {s : mS} : smF s s := ⟨rfl, rfl, fun _ _ _ _ => rfl, fun _ _ _ _ _ => rfl⟩
theorem smF.tr {a b c : mS} (h : smF a b) (g : smF b c) : smF a c := ⟨g.1.trans h.1, g.2.1.trans h.2.1, fun k q1 q2 q3 => (g.2.2.1 k q1 q2 q3).trans (h.2.2.1 k q1 q2 q3), fun k q1 q2 q3 q4 => (g.2.2.2 k q1 q2 q3 q4).trans (h.2.2.2 k q1 q2 q3 q4)⟩
theorem sA_at (s : mS) (k j : Nat) (v : Int32) (q i : Nat) : (sA s k j v).2.2.1 q i = if q = k ∧ i = j then v else s.2.2.1 q i := by
  simp only [sA, va_up]
  by_cases h : q = k
  · subst h
    simp only [if_true, upd_at, true_and]
  · simp [h]
theorem sG_at (s : mS) (k j : Nat) (v : Int64) (q i : Nat) : (sG s k j v).2.2.2 q i = if q = k ∧ i = j then v else s.2.2.2 q i := by
  simp only [sG, va_up]
  by_cases h : q = k
  · subst h
    simp only [if_true, vp_updL, true_and]
  · simp [h]
theorem smF_sA {s : mS} {k j : Nat} {v : Int32} (h : k = 27 ∨ k = 32 ∨ k = 33) : smF s (sA s k j v) := by
  refine ⟨rfl, rfl, fun q q1 q2 q3 => ?_, fun _ _ _ _ _ => rfl⟩
  funext i
  rw [sA_at, if_neg (by omega)]
theorem smF_sG {s : mS} {k j : Nat} {v : Int64} (h : k = 28 ∨ k = 29 ∨ k = 30 ∨ k = 31) : smF s (sG s k j v) := by
  refine ⟨rfl, rfl, fun _ _ _ _ => rfl, fun q q1 q2 q3 q4 => ?_⟩
  funext i
  rw [sG_at, if_neg (by omega)]
theorem i_25 (k i : Nat) : (25 : Int32) * Int32.ofNat k + Int32.ofNat i = Int32.ofNat (25 * k + i) := i_ma 25 k i
theorem i_25' (k i : Nat) : (25 : Int32) * Int32.ofNat (k + 1) - 25 + Int32.ofNat i = Int32.ofNat (25 * k + i) := by
  have e : (25 : Int32) * Int32.ofNat (k + 1) = Int32.ofNat (25 * k) + 25 := by
    have := i_ma 25 k 25
    have e1 : Int32.ofNat (25 * (k + 1)) = Int32.ofNat 25 * Int32.ofNat (k + 1) := Int32.ofNat_mul 25 (k + 1)
    have e2 : Int32.ofNat (25 * k + 25) = Int32.ofNat (25 * k) + Int32.ofNat 25 := Int32.ofNat_add (25 * k) 25
    have e3 : 25 * (k + 1) = 25 * k + 25 := by omega
    rw [e3] at e1
    exact e1.symm.trans e2
  rw [e, Int32.add_sub_cancel, ← Int32.ofNat_add]
/-- a RING's row moves up by one -/
theorem x_row {N k : Nat} {x1 x4 : Int32} {x2 : Int64} {rec51 : Int32 → Int64 → Int32 → Int32 → mS → Option mS} (hk : k + 1 < 128) (s : mS) : ∀ (m f i : Nat) (h : mS), i + m = 25 → m < f → smF s h → h.2.2.2 = s.2.2.2 → (∀ q, ¬ q = 33 → h.2.2.1 q = s.2.2.1 q) → (∀ t, t < 25 * (k + 1) ∨ 25 * (k + 1) + i ≤ t → h.2.2.1 33 t = s.2.2.1 33 t) → (∀ j, j < i → h.2.2.1 33 (25 * (k + 1) + j) = s.2.2.1 33 (25 * k + j)) →
    ∃ h', mxX7_faceHere_141 N rec51 f x1 x2 x4 (Int32.ofNat (k + 1)) (Int32.ofNat i) h = rec51 x1 x2 x4 (Int32.ofNat k) h' ∧ smF s h' ∧ h'.2.2.2 = s.2.2.2 ∧ (∀ q, ¬ q = 33 → h'.2.2.1 q = s.2.2.1 q) ∧ (∀ t, t < 25 * (k + 1) ∨ 25 * (k + 1) + 25 ≤ t → h'.2.2.1 33 t = s.2.2.1 33 t) ∧ (∀ j, j < 25 → h'.2.2.1 33 (25 * (k + 1) + j) = s.2.2.1 33 (25 * k + j)) := by
  intro m
  induction m with
  | zero =>
    intro f i h hi hf sm hg hq ho hd
    obtain ⟨f', rfl⟩ : ∃ f', f = f' + 1 := ⟨f - 1, by omega⟩
    have hi' : i = 25 := by omega
    subst hi'
    refine ⟨h, ?_, sm, hg, hq, ho, hd⟩
    rw [mxX7_faceHere_141, if_pos (by decide), i_p']
  | succ m ih =>
    intro f i h hi hf sm hg hq ho hd
    obtain ⟨f', rfl⟩ : ∃ f', f = f' + 1 := ⟨f - 1, by omega⟩
    have ne : ¬ ((25 : Int32) ≤ Int32.ofNat i) := by
      have := i_le (a := 25) (b := i) (by omega) (by omega)
      intro q
      have h2 : 25 ≤ i := by
        rw [← this]
        exact q
      omega
    have b1 : 25 * k + i < aN 33 := by show 25 * k + i < 3200; omega
    have b2 : 25 * (k + 1) + i < aN 33 := by show 25 * (k + 1) + i < 3200; omega
    rw [mxX7_faceHere_141, if_neg ne, i_25', i_25, rA_N b1 (by decide), Option.bind_some, wA_N b2 (by decide), Option.bind_some, i_s]
    have src : h.2.2.1 33 (25 * k + i) = s.2.2.1 33 (25 * k + i) := ho _ (.inl (by omega))
    refine ih f' (i + 1) _ (by omega) (by omega) (sm.tr (smF_sA (.inr (.inr rfl)))) hg ?_ ?_ ?_
    · intro q hq'
      funext t
      rw [sA_at, if_neg (by omega), hq q hq']
    · intro t ht
      rw [sA_at, if_neg (by omega)]
      exact ho t (by omega)
    · intro j hj
      rw [sA_at]
      by_cases w : j = i
      · rw [if_pos ⟨rfl, by omega⟩, src, w]
      · rw [if_neg (by omega)]
        exact hd j (by omega)
/-- the new RING is written -/
theorem x_newrow {N g k r : Nat} (hg : g < 2) (hk : k < 128) (hr : r ≤ 25) (s : mS) (h23 : s.1 23 = Int32.ofNat r) : ∀ (m f i : Nat) (h : mS), i + m = r → m < f → smF s h → h.2.2.2 = s.2.2.2 → (∀ q, ¬ q = 33 → h.2.2.1 q = s.2.2.1 q) → (∀ t, t < 25 * k ∨ 25 * k + i ≤ t → h.2.2.1 33 t = s.2.2.1 33 t) → (∀ j, j < i → h.2.2.1 33 (25 * k + j) = s.2.2.1 22 j) →
    ∃ h', mxX7_faceHere_244 N f (Int32.ofNat g) (Int32.ofNat k) (Int32.ofNat i) h = some h' ∧ smF s h' ∧ h'.2.2.2 = s.2.2.2 ∧ (∀ q, ¬ q = 33 → ¬ q = 27 → h'.2.2.1 q = s.2.2.1 q) ∧ (∀ j, j < 2 → h'.2.2.1 27 j = if j = g then s.2.2.1 27 j + 1 else s.2.2.1 27 j) ∧ (∀ t, t < 25 * k ∨ 25 * k + 25 ≤ t → h'.2.2.1 33 t = s.2.2.1 33 t) ∧ (∀ j, j < r → h'.2.2.1 33 (25 * k + j) = s.2.2.1 22 j) := by
  intro m
  induction m with
  | zero =>
    intro f i h hi hf sm hgg hq ho hd
    obtain ⟨f', rfl⟩ : ∃ f', f = f' + 1 := ⟨f - 1, by omega⟩
    have hi' : i = r := by omega
    subst hi'
    have b27 : g < aN 27 := by show g < 2; omega
    have q27 : h.2.2.1 27 g = s.2.2.1 27 g := by rw [hq 27 (by decide)]
    refine ⟨sA h 27 g (h.2.2.1 27 g + 1), ?_, sm.tr (smF_sA (.inl rfl)), hgg, ?_, ?_, ?_, ?_⟩
    · rw [mxX7_faceHere_244, sm.1, h23, if_pos (Int32.le_refl _), rA_N b27 (by decide), Option.bind_some, wA_N b27 (by decide), Option.bind_some]
    · intro q q1 q2
      funext t
      rw [sA_at, if_neg (by omega), hq q q1]
    · intro j hj
      rw [sA_at]
      by_cases w : j = g
      · rw [if_pos ⟨rfl, w⟩, if_pos w, q27, w]
      · rw [if_neg (by omega), if_neg w, hq 27 (by decide)]
    · intro t ht
      rw [sA_at, if_neg (by omega)]
      exact ho t (by omega)
    · intro j hj
      rw [sA_at, if_neg (by omega)]
      exact hd j hj
  | succ m ih =>
    intro f i h hi hf sm hgg hq ho hd
    obtain ⟨f', rfl⟩ : ∃ f', f = f' + 1 := ⟨f - 1, by omega⟩
    have ne : ¬ (Int32.ofNat r ≤ Int32.ofNat i) := by
      rw [i_le (by omega) (by omega)]
      omega
    have b22 : i < aN 22 := by show i < 600; omega
    have b33 : 25 * k + i < aN 33 := by show 25 * k + i < 3200; omega
    rw [mxX7_faceHere_244, sm.1, h23, if_neg ne, rA_N b22 (by decide), Option.bind_some, i_25, wA_N b33 (by decide), Option.bind_some, i_s]
    refine ih f' (i + 1) _ (by omega) (by omega) (sm.tr (smF_sA (.inr (.inr rfl)))) hgg ?_ ?_ ?_
    · intro q hq'
      funext t
      rw [sA_at, if_neg (by omega), hq q hq']
    · intro t ht
      rw [sA_at, if_neg (by omega)]
      exact ho t (by omega)
    · intro j hj
      rw [sA_at]
      by_cases w : j = i
      · rw [if_pos ⟨rfl, by omega⟩, hq 22 (by decide), w]
      · rw [if_neg (by omega)]
        exact hd j (by omega)
