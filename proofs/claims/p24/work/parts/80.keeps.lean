theorem slt_congr {M K X Y Z M' K' X' Y' Z' : Nat → Int32} {i : Nat} (hi : i < 8) (h : slt M K X Y Z i) (e1 : ∀ t, t < 8 → M' t = M t ∧ K' t = K t) (e2 : ∀ t, t < 192 → X' t = X t ∧ Y' t = Y t ∧ Z' t = Z t) : slt M' K' X' Y' Z' i := by
  obtain ⟨m, k, h1, h2, h3⟩ := h
  refine ⟨m, k, by rw [(e1 i hi).1]; exact h1, by rw [(e1 i hi).2]; exact h2, okP_congr (fun j hj => ?_) h3⟩
  have := h3.1
  obtain ⟨a, b, c⟩ := e2 (24 * i + j) (by omega)
  unfold cP3
  rw [a, b, c]
/-- the copy of all SOLIDS behind o rows: what keeps writes -/
def kpA (s s' : mS) (c : Nat) : Prop := (∀ t, t < 8 → s'.2.2.1 10 (8 * c + t) = s.2.2.1 4 t ∧ s'.2.2.1 11 (8 * c + t) = s.2.2.1 5 t) ∧ (∀ t, t < 8 * c → s'.2.2.1 10 t = s.2.2.1 10 t ∧ s'.2.2.1 11 t = s.2.2.1 11 t) ∧ (∀ t, t < 192 → s'.2.2.1 12 (192 * c + t) = s.2.2.1 6 t ∧ s'.2.2.1 13 (192 * c + t) = s.2.2.1 7 t ∧ s'.2.2.1 14 (192 * c + t) = s.2.2.1 8 t) ∧ ∀ t, t < 192 * c → s'.2.2.1 12 t = s.2.2.1 12 t ∧ s'.2.2.1 13 t = s.2.2.1 13 t ∧ s'.2.2.1 14 t = s.2.2.1 14 t
theorem x_k178 {N c : Nat} {s : mS} (hc : c < 8) (h9 : s.1 9 = Int32.ofNat c) : ∀ (m f j : Nat) (h : mS), j + m = 192 → m < f → fr [10, 11, 12, 13, 14] s h → (∀ t, t < 8 → h.2.2.1 10 (8 * c + t) = s.2.2.1 4 t ∧ h.2.2.1 11 (8 * c + t) = s.2.2.1 5 t) → (∀ t, t < 8 * c → h.2.2.1 10 t = s.2.2.1 10 t ∧ h.2.2.1 11 t = s.2.2.1 11 t) → (∀ t, t < j → h.2.2.1 12 (192 * c + t) = s.2.2.1 6 t ∧ h.2.2.1 13 (192 * c + t) = s.2.2.1 7 t ∧ h.2.2.1 14 (192 * c + t) = s.2.2.1 8 t) → (∀ t, t < 192 * c → h.2.2.1 12 t = s.2.2.1 12 t ∧ h.2.2.1 13 t = s.2.2.1 13 t ∧ h.2.2.1 14 t = s.2.2.1 14 t) → ∃ s', mxX7_keeps_178 N f (Int32.ofNat j) h = some s' ∧ fr [9, 10, 11, 12, 13, 14] s s' ∧ s'.1 9 = Int32.ofNat (c + 1) ∧ kpA s s' c := by
  intro m
  induction m with
  | zero =>
    intro f j h hj hf f1 a1 a2 a3 a4
    obtain ⟨f', rfl⟩ : ∃ f', f = f' + 1 := ⟨f - 1, by omega⟩
    have hj' : j = 192 := by omega
    subst hj'
    refine ⟨pI h 9 (h.1 9 + 1), ?_, (f1.mo (by decide)).tr ((fr_pI _ _ _).mo (by decide)), ?_, a1, a2, a3, a4⟩
    · rw [mxX7_keeps_178, if_pos (by decide), Option.bind_some]
    · show (if 9 = 9 then h.1 9 + 1 else h.1 9) = _
      rw [if_pos rfl, f1.I (by decide), h9, i_s]
  | succ m ih =>
    intro f j h hj hf f1 a1 a2 a3 a4
    obtain ⟨f', rfl⟩ : ∃ f', f = f' + 1 := ⟨f - 1, by omega⟩
    have hn : ¬ ((192 : Int32) ≤ Int32.ofNat j) := by
      have := i_le (a := 192) (b := j) (by omega) (by omega)
      intro h
      have h2 : 192 ≤ j := by
        rw [← this]
        exact h
      omega
    have hh9 : h.1 9 = Int32.ofNat c := by rw [f1.I (by decide), h9]
    have e6 : h.2.2.1 6 = s.2.2.1 6 := f1.A (by decide)
    have e7 : h.2.2.1 7 = s.2.2.1 7 := f1.A (by decide)
    have e8 : h.2.2.1 8 = s.2.2.1 8 := f1.A (by decide)
    rw [mxX7_keeps_178, if_neg hn, rA192 rfl (by omega), Option.bind_some, hh9, i_192, wA1536 rfl (by omega), Option.bind_some, rA192 rfl (by omega), Option.bind_some, sA_1, hh9, i_192, wA1536 rfl (by omega), Option.bind_some, rA192 rfl (by omega), Option.bind_some, sA_1, sA_1, hh9, i_192, wA1536 rfl (by omega), Option.bind_some, i_s]
    simp only [sA_at]
    simp only [show ¬ ((7 : Nat) = 12 ∧ j = 192 * c + j) from fun q => absurd q.1 (by decide), show ¬ ((8 : Nat) = 12 ∧ j = 192 * c + j) from fun q => absurd q.1 (by decide), show ¬ ((8 : Nat) = 13 ∧ j = 192 * c + j) from fun q => absurd q.1 (by decide), if_false]
    rw [e6, e7, e8]
    have g1 : fr [10, 11, 12, 13, 14] h (sA (sA (sA h 12 (192 * c + j) (s.2.2.1 6 j)) 13 (192 * c + j) (s.2.2.1 7 j)) 14 (192 * c + j) (s.2.2.1 8 j)) := (((fr_sA _ _ _ _).mo (by decide)).tr ((fr_sA _ _ _ _).mo (by decide))).tr ((fr_sA _ _ _ _).mo (by decide))
    have at12 : ∀ t, (sA (sA (sA h 12 (192 * c + j) (s.2.2.1 6 j)) 13 (192 * c + j) (s.2.2.1 7 j)) 14 (192 * c + j) (s.2.2.1 8 j)).2.2.1 12 t = if t = 192 * c + j then s.2.2.1 6 j else h.2.2.1 12 t := by
      intro t
      simp only [sA_at]
      simp
    have at13 : ∀ t, (sA (sA (sA h 12 (192 * c + j) (s.2.2.1 6 j)) 13 (192 * c + j) (s.2.2.1 7 j)) 14 (192 * c + j) (s.2.2.1 8 j)).2.2.1 13 t = if t = 192 * c + j then s.2.2.1 7 j else h.2.2.1 13 t := by
      intro t
      simp only [sA_at]
      simp
    have at14 : ∀ t, (sA (sA (sA h 12 (192 * c + j) (s.2.2.1 6 j)) 13 (192 * c + j) (s.2.2.1 7 j)) 14 (192 * c + j) (s.2.2.1 8 j)).2.2.1 14 t = if t = 192 * c + j then s.2.2.1 8 j else h.2.2.1 14 t := by
      intro t
      simp only [sA_at]
      simp
    have at1011 : ∀ k t, k = 10 ∨ k = 11 → (sA (sA (sA h 12 (192 * c + j) (s.2.2.1 6 j)) 13 (192 * c + j) (s.2.2.1 7 j)) 14 (192 * c + j) (s.2.2.1 8 j)).2.2.1 k t = h.2.2.1 k t := by
      intro k t hk
      simp only [sA_at]
      rw [if_neg (by omega), if_neg (by omega), if_neg (by omega)]
    refine ih f' (j + 1) _ (by omega) (by omega) (f1.tr g1) (fun t ht => ?_) (fun t ht => ?_) (fun t ht => ?_) (fun t ht => ?_)
    · rw [at1011 10 _ (.inl rfl), at1011 11 _ (.inr rfl)]
      exact a1 t ht
    · rw [at1011 10 _ (.inl rfl), at1011 11 _ (.inr rfl)]
      exact a2 t ht
    · rw [at12, at13, at14]
      by_cases w : t = j
      · rw [if_pos (by omega), if_pos (by omega), if_pos (by omega), w]
        exact ⟨rfl, rfl, rfl⟩
      · rw [if_neg (by omega), if_neg (by omega), if_neg (by omega)]
        exact a3 t (by omega)
    · rw [at12, at13, at14, if_neg (by omega), if_neg (by omega), if_neg (by omega)]
      exact a4 t ht
theorem x_k124 {N c : Nat} {s : mS} (hN : 600 < N) (hc : c < 8) (h9 : s.1 9 = Int32.ofNat c) : ∀ (m f j : Nat) (h : mS), j + m = 8 → m < f → fr [10, 11, 12, 13, 14] s h → h.2.2.1 12 = s.2.2.1 12 → h.2.2.1 13 = s.2.2.1 13 → h.2.2.1 14 = s.2.2.1 14 → (∀ t, t < j → h.2.2.1 10 (8 * c + t) = s.2.2.1 4 t ∧ h.2.2.1 11 (8 * c + t) = s.2.2.1 5 t) → (∀ t, t < 8 * c → h.2.2.1 10 t = s.2.2.1 10 t ∧ h.2.2.1 11 t = s.2.2.1 11 t) → ∃ s', mxX7_keeps_124 N f (Int32.ofNat j) h = some s' ∧ fr [9, 10, 11, 12, 13, 14] s s' ∧ s'.1 9 = Int32.ofNat (c + 1) ∧ kpA s s' c := by
  intro m
  induction m with
  | zero =>
    intro f j h hj hf f1 b1 b2 b3 a1 a2
    obtain ⟨f', rfl⟩ : ∃ f', f = f' + 1 := ⟨f - 1, by omega⟩
    have hj' : j = 8 := by omega
    subst hj'
    rw [mxX7_keeps_124, if_pos (by decide)]
    exact x_k178 hc h9 192 N 0 h rfl (by omega) f1 a1 a2 (fun t ht => absurd ht (by omega)) (fun t _ => by rw [b1, b2, b3]; exact ⟨rfl, rfl, rfl⟩)
  | succ m ih =>
    intro f j h hj hf f1 b1 b2 b3 a1 a2
    obtain ⟨f', rfl⟩ : ∃ f', f = f' + 1 := ⟨f - 1, by omega⟩
    have hn : ¬ ((8 : Int32) ≤ Int32.ofNat j) := by
      have := i_le (a := 8) (b := j) (by omega) (by omega)
      intro h
      have h2 : 8 ≤ j := by
        rw [← this]
        exact h
      omega
    have hh9 : h.1 9 = Int32.ofNat c := by rw [f1.I (by decide), h9]
    have e4 : h.2.2.1 4 = s.2.2.1 4 := f1.A (by decide)
    have e5 : h.2.2.1 5 = s.2.2.1 5 := f1.A (by decide)
    rw [mxX7_keeps_124, if_neg hn, rA8 rfl (by omega), Option.bind_some, hh9, i_8, wA64 rfl (by omega), Option.bind_some, rA8 rfl (by omega), Option.bind_some, sA_1, hh9, i_8, wA64 rfl (by omega), Option.bind_some, i_s]
    simp only [sA_at]
    simp only [show ¬ ((5 : Nat) = 10 ∧ j = 8 * c + j) from fun q => absurd q.1 (by decide), if_false]
    rw [e4, e5]
    have g1 : fr [10, 11, 12, 13, 14] h (sA (sA h 10 (8 * c + j) (s.2.2.1 4 j)) 11 (8 * c + j) (s.2.2.1 5 j)) := ((fr_sA _ _ _ _).mo (by decide)).tr ((fr_sA _ _ _ _).mo (by decide))
    have at10 : ∀ t, (sA (sA h 10 (8 * c + j) (s.2.2.1 4 j)) 11 (8 * c + j) (s.2.2.1 5 j)).2.2.1 10 t = if t = 8 * c + j then s.2.2.1 4 j else h.2.2.1 10 t := by
      intro t
      simp only [sA_at]
      simp
    have at11 : ∀ t, (sA (sA h 10 (8 * c + j) (s.2.2.1 4 j)) 11 (8 * c + j) (s.2.2.1 5 j)).2.2.1 11 t = if t = 8 * c + j then s.2.2.1 5 j else h.2.2.1 11 t := by
      intro t
      simp only [sA_at]
      simp
    have g2 : fr [10, 11] h (sA (sA h 10 (8 * c + j) (s.2.2.1 4 j)) 11 (8 * c + j) (s.2.2.1 5 j)) := ((fr_sA _ _ _ _).mo (by decide)).tr ((fr_sA _ _ _ _).mo (by decide))
    refine ih f' (j + 1) _ (by omega) (by omega) (f1.tr g1) (by rw [g2.A (by decide), b1]) (by rw [g2.A (by decide), b2]) (by rw [g2.A (by decide), b3]) (fun t ht => ?_) (fun t ht => ?_)
    · rw [at10, at11]
      by_cases w : t = j
      · rw [if_pos (by omega), if_pos (by omega), w]
        exact ⟨rfl, rfl⟩
      · rw [if_neg (by omega), if_neg (by omega)]
        exact a1 t (by omega)
    · rw [at10, at11, if_neg (by omega), if_neg (by omega)]
      exact a2 t ht
theorem x_k122 {N c : Nat} {s : mS} (hN : 600 < N) (hc : c < 8) (h9 : s.1 9 = Int32.ofNat c) : ∃ s', mxX7_keeps_122 N s = some s' ∧ fr [9, 10, 11, 12, 13, 14] s s' ∧ s'.1 9 = Int32.ofNat (c + 1) ∧ kpA s s' c := by
  unfold mxX7_keeps_122
  exact x_k124 hN hc h9 8 N 0 s rfl (by omega) fr.rf rfl rfl rfl (fun t ht => absurd ht (by omega)) (fun t _ => ⟨rfl, rfl⟩)
/-- the oldest is forgotten -/
def fgA (s s' : mS) : Prop := fr [9, 10, 11, 12, 13, 14] s s' ∧ s'.1 9 = 7 ∧ (∀ t, t < 56 → s'.2.2.1 10 t = s.2.2.1 10 (t + 8) ∧ s'.2.2.1 11 t = s.2.2.1 11 (t + 8)) ∧ ∀ t, t < 1344 → s'.2.2.1 12 t = s.2.2.1 12 (t + 192) ∧ s'.2.2.1 13 t = s.2.2.1 13 (t + 192) ∧ s'.2.2.1 14 t = s.2.2.1 14 (t + 192)
theorem i_192' (j : Nat) : Int32.ofNat j + (192 : Int32) = Int32.ofNat (j + 192) := (Int32.ofNat_add j 192).symm
theorem i_8' (j : Nat) : Int32.ofNat j + (8 : Int32) = Int32.ofNat (j + 8) := (Int32.ofNat_add j 8).symm
theorem x_k55 {N : Nat} {s : mS} : ∀ (m f j : Nat) (h : mS), j + m = 1344 → m < f → fr [10, 11, 12, 13, 14] s h → (∀ t, t < 56 → h.2.2.1 10 t = s.2.2.1 10 (t + 8) ∧ h.2.2.1 11 t = s.2.2.1 11 (t + 8)) → (∀ t, t < j → h.2.2.1 12 t = s.2.2.1 12 (t + 192) ∧ h.2.2.1 13 t = s.2.2.1 13 (t + 192) ∧ h.2.2.1 14 t = s.2.2.1 14 (t + 192)) → (∀ t, j ≤ t → h.2.2.1 12 t = s.2.2.1 12 t ∧ h.2.2.1 13 t = s.2.2.1 13 t ∧ h.2.2.1 14 t = s.2.2.1 14 t) → ∃ s', mxX7_keeps_55 N f (Int32.ofNat j) h = mxX7_keeps_122 N s' ∧ fgA s s' := by
  intro m
  induction m with
  | zero =>
    intro f j h hj hf f1 a0 a1 a2
    obtain ⟨f', rfl⟩ : ∃ f', f = f' + 1 := ⟨f - 1, by omega⟩
    have hj' : j = 1344 := by omega
    subst hj'
    refine ⟨pI h 9 7, ?_, (f1.mo (by decide)).tr ((fr_pI _ _ _).mo (by decide)), rfl, a0, a1⟩
    rw [mxX7_keeps_55, if_pos (by decide), Option.bind_some]
  | succ m ih =>
    intro f j h hj hf f1 a0 a1 a2
    obtain ⟨f', rfl⟩ : ∃ f', f = f' + 1 := ⟨f - 1, by omega⟩
    have hn : ¬ ((1344 : Int32) ≤ Int32.ofNat j) := by
      have := i_le (a := 1344) (b := j) (by omega) (by omega)
      intro h
      have h2 : 1344 ≤ j := by
        rw [← this]
        exact h
      omega
    rw [mxX7_keeps_55, if_neg hn, i_192', rA1536 rfl (by omega), Option.bind_some, wA1536 rfl (by omega), Option.bind_some, rA1536 rfl (by omega), Option.bind_some, wA1536 rfl (by omega), Option.bind_some, rA1536 rfl (by omega), Option.bind_some, wA1536 rfl (by omega), Option.bind_some, i_s]
    simp only [sA_at]
    simp only [show ¬ ((13 : Nat) = 12 ∧ j + 192 = j) from fun q => absurd q.1 (by decide), show ¬ ((14 : Nat) = 12 ∧ j + 192 = j) from fun q => absurd q.1 (by decide), show ¬ ((14 : Nat) = 13 ∧ j + 192 = j) from fun q => absurd q.1 (by decide), if_false]
    obtain ⟨c1, c2, c3⟩ := a2 (j + 192) (by omega)
    rw [c1, c2, c3]
    have g1 : fr [12, 13, 14] h (sA (sA (sA h 12 j (s.2.2.1 12 (j + 192))) 13 j (s.2.2.1 13 (j + 192))) 14 j (s.2.2.1 14 (j + 192))) := (((fr_sA _ _ _ _).mo (by decide)).tr ((fr_sA _ _ _ _).mo (by decide))).tr ((fr_sA _ _ _ _).mo (by decide))
    have at12 : ∀ t, (sA (sA (sA h 12 j (s.2.2.1 12 (j + 192))) 13 j (s.2.2.1 13 (j + 192))) 14 j (s.2.2.1 14 (j + 192))).2.2.1 12 t = if t = j then s.2.2.1 12 (j + 192) else h.2.2.1 12 t := by
      intro t
      simp only [sA_at]
      simp
    have at13 : ∀ t, (sA (sA (sA h 12 j (s.2.2.1 12 (j + 192))) 13 j (s.2.2.1 13 (j + 192))) 14 j (s.2.2.1 14 (j + 192))).2.2.1 13 t = if t = j then s.2.2.1 13 (j + 192) else h.2.2.1 13 t := by
      intro t
      simp only [sA_at]
      simp
    have at14 : ∀ t, (sA (sA (sA h 12 j (s.2.2.1 12 (j + 192))) 13 j (s.2.2.1 13 (j + 192))) 14 j (s.2.2.1 14 (j + 192))).2.2.1 14 t = if t = j then s.2.2.1 14 (j + 192) else h.2.2.1 14 t := by
      intro t
      simp only [sA_at]
      simp
    refine ih f' (j + 1) _ (by omega) (by omega) (f1.tr (g1.mo (by decide))) (fun t ht => ?_) (fun t ht => ?_) (fun t ht => ?_)
    · rw [g1.A (by decide), g1.A (by decide)]
      exact a0 t ht
    · rw [at12, at13, at14]
      by_cases w : t = j
      · rw [if_pos w, if_pos w, if_pos w, w]
        exact ⟨rfl, rfl, rfl⟩
      · rw [if_neg w, if_neg w, if_neg w]
        exact a1 t (by omega)
    · rw [at12, at13, at14, if_neg (by omega), if_neg (by omega), if_neg (by omega)]
      exact a2 t (by omega)
theorem x_k11 {N : Nat} {s : mS} (hN : 1344 < N) : ∀ (m f j : Nat) (h : mS), j + m = 56 → m < f → fr [10, 11] s h → (∀ t, t < j → h.2.2.1 10 t = s.2.2.1 10 (t + 8) ∧ h.2.2.1 11 t = s.2.2.1 11 (t + 8)) → (∀ t, j ≤ t → h.2.2.1 10 t = s.2.2.1 10 t ∧ h.2.2.1 11 t = s.2.2.1 11 t) → ∃ s', mxX7_keeps_11 N f (Int32.ofNat j) h = mxX7_keeps_122 N s' ∧ fgA s s' := by
  intro m
  induction m with
  | zero =>
    intro f j h hj hf f1 a1 a2
    obtain ⟨f', rfl⟩ : ∃ f', f = f' + 1 := ⟨f - 1, by omega⟩
    have hj' : j = 56 := by omega
    subst hj'
    rw [mxX7_keeps_11, if_pos (by decide)]
    exact x_k55 1344 N 0 h rfl hN (f1.mo (by decide)) a1 (fun t ht => absurd ht (by omega)) (fun t _ => by rw [f1.A (by decide), f1.A (by decide), f1.A (by decide)]; exact ⟨rfl, rfl, rfl⟩)
  | succ m ih =>
    intro f j h hj hf f1 a1 a2
    obtain ⟨f', rfl⟩ : ∃ f', f = f' + 1 := ⟨f - 1, by omega⟩
    have hn : ¬ ((56 : Int32) ≤ Int32.ofNat j) := by
      have := i_le (a := 56) (b := j) (by omega) (by omega)
      intro h
      have h2 : 56 ≤ j := by
        rw [← this]
        exact h
      omega
    rw [mxX7_keeps_11, if_neg hn, i_8', rA64 rfl (by omega), Option.bind_some, wA64 rfl (by omega), Option.bind_some, rA64 rfl (by omega), Option.bind_some, wA64 rfl (by omega), Option.bind_some, i_s]
    simp only [sA_at]
    simp only [show ¬ ((11 : Nat) = 10 ∧ j + 8 = j) from fun q => absurd q.1 (by decide), if_false]
    obtain ⟨c1, c2⟩ := a2 (j + 8) (by omega)
    rw [c1, c2]
    have g1 : fr [10, 11] h (sA (sA h 10 j (s.2.2.1 10 (j + 8))) 11 j (s.2.2.1 11 (j + 8))) := ((fr_sA _ _ _ _).mo (by decide)).tr ((fr_sA _ _ _ _).mo (by decide))
    have at10 : ∀ t, (sA (sA h 10 j (s.2.2.1 10 (j + 8))) 11 j (s.2.2.1 11 (j + 8))).2.2.1 10 t = if t = j then s.2.2.1 10 (j + 8) else h.2.2.1 10 t := by
      intro t
      simp only [sA_at]
      simp
    have at11 : ∀ t, (sA (sA h 10 j (s.2.2.1 10 (j + 8))) 11 j (s.2.2.1 11 (j + 8))).2.2.1 11 t = if t = j then s.2.2.1 11 (j + 8) else h.2.2.1 11 t := by
      intro t
      simp only [sA_at]
      simp
    refine ih f' (j + 1) _ (by omega) (by omega) (f1.tr g1) (fun t ht => ?_) (fun t ht => ?_)
    · rw [at10, at11]
      by_cases w : t = j
      · rw [if_pos w, if_pos w, w]
        exact ⟨rfl, rfl⟩
      · rw [if_neg w, if_neg w]
        exact a1 t (by omega)
    · rw [at10, at11, if_neg (by omega), if_neg (by omega)]
      exact a2 t (by omega)
/-- what keeps leaves: what was before, but the oldest of eight; then all SOLIDS as they are -/
def kpO (s s' : mS) : Prop := fr [9, 10, 11, 12, 13, 14] s s' ∧ ∃ c d, c + d ≤ 8 ∧ c < 8 ∧ s.1 9 = Int32.ofNat (c + d) ∧ s'.1 9 = Int32.ofNat (c + 1) ∧ (d = 0 ∨ d = 1) ∧ (d = 1 → c = 7) ∧ (∀ t, t < 8 → s'.2.2.1 10 (8 * c + t) = s.2.2.1 4 t ∧ s'.2.2.1 11 (8 * c + t) = s.2.2.1 5 t) ∧ (∀ t, t < 8 * c → s'.2.2.1 10 t = s.2.2.1 10 (t + 8 * d) ∧ s'.2.2.1 11 t = s.2.2.1 11 (t + 8 * d)) ∧ (∀ t, t < 192 → s'.2.2.1 12 (192 * c + t) = s.2.2.1 6 t ∧ s'.2.2.1 13 (192 * c + t) = s.2.2.1 7 t ∧ s'.2.2.1 14 (192 * c + t) = s.2.2.1 8 t) ∧ ∀ t, t < 192 * c → s'.2.2.1 12 t = s.2.2.1 12 (t + 192 * d) ∧ s'.2.2.1 13 t = s.2.2.1 13 (t + 192 * d) ∧ s'.2.2.1 14 t = s.2.2.1 14 (t + 192 * d)
theorem x_keeps {N c : Nat} {s : mS} (hN : 1344 < N) (hc : c ≤ 8) (h9 : s.1 9 = Int32.ofNat c) : ∃ s', mxX7_keeps N s = some s' ∧ kpO s s' := by
  unfold mxX7_keeps
  by_cases c8 : c = 8
  · subst c8
    have z : (Int32.ofNat 8 : Int32) = 8 := rfl
    rw [h9, if_pos z]
    obtain ⟨s1, e1, f1, f9, fa, fb⟩ := x_k11 (N := N) (s := s) hN 56 N 0 s rfl (by omega) fr.rf (fun t ht => absurd ht (by omega)) (fun t _ => ⟨rfl, rfl⟩)
    obtain ⟨s2, e2, f2, g9, ka, kb, kc, kd⟩ := x_k122 (N := N) (c := 7) (s := s1) (by omega) (by omega) f9
    have e1' : mxX7_keeps_11 N N 0 s = mxX7_keeps_122 N s1 := e1
    rw [e1', e2]
    refine ⟨s2, rfl, f1.tr f2, 7, 1, by omega, by omega, h9, g9, .inr rfl, fun _ => rfl, ?_, ?_, ?_, ?_⟩
    · intro t ht
      rw [(ka t ht).1, (ka t ht).2, f1.A (by decide), f1.A (by decide)]
      exact ⟨rfl, rfl⟩
    · intro t ht
      rw [(kb t ht).1, (kb t ht).2]
      exact fa t (by omega)
    · intro t ht
      rw [(kc t ht).1, (kc t ht).2.1, (kc t ht).2.2, f1.A (by decide), f1.A (by decide), f1.A (by decide)]
      exact ⟨rfl, rfl, rfl⟩
    · intro t ht
      rw [(kd t ht).1, (kd t ht).2.1, (kd t ht).2.2]
      exact fb t (by omega)
  · have n8 : ¬ (Int32.ofNat c = 8) := fun h => by
      have := i_inj (a := c) (b := 8) (by omega) (by omega) h
      omega
    rw [h9, if_neg n8]
    obtain ⟨s2, e2, f2, g9, ka, kb, kc, kd⟩ := x_k122 (N := N) (c := c) (s := s) (by omega) (by omega) h9
    exact ⟨s2, e2, f2, c, 0, by omega, by omega, h9, g9, .inl rfl, fun h => absurd h (by omega), ka, kb, kc, kd⟩
theorem INV_keeps {s s' : mS} (h : INV s) (k : kpO s s') : INV s' := by
  obtain ⟨c0, h1, h2, h3, h4, h5⟩ := h
  obtain ⟨f, c, d, k1, k2, k3, k4, k5, k6, k7, k8, k9, k10⟩ := k
  have c0e : c0 = c + d := i_inj (by omega) (by omega) (h2.symm.trans k3)
  subst c0e
  refine ⟨c + 1, by omega, k4, ?_, fun h hh i hi => ?_, ?_⟩
  · rw [f.A (by decide), f.A (by decide), f.A (by decide), f.A (by decide), f.A (by decide)]
    exact h3
  · by_cases w : h = c
    · subst w
      exact slt_congr hi (h3 i hi) k7 k9
    · refine slt_congr hi (h4 (h + d) (by omega) i hi) (fun t ht => ?_) (fun t ht => ?_)
      · have := k8 (8 * h + t) (by omega)
        rw [show 8 * h + t + 8 * d = 8 * (h + d) + t by omega] at this
        exact this
      · have := k10 (192 * h + t) (by omega)
        rw [show 192 * h + t + 192 * d = 192 * (h + d) + t by omega] at this
        exact this
  · rw [f.A (by decide), f.A (by decide), f.A (by decide), f.A (by decide)]
    exact h5
