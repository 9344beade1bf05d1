/-- what undo leaves -/
def udO (s s' : mS) (c : Nat) : Prop := fr [4, 5, 6, 7, 8, 9] s s' ∧ s'.1 9 = Int32.ofNat c ∧ (∀ t, t < 8 → s'.2.2.1 4 t = s.2.2.1 10 (8 * c + t) ∧ s'.2.2.1 5 t = s.2.2.1 11 (8 * c + t)) ∧ ∀ t, t < 192 → s'.2.2.1 6 t = s.2.2.1 12 (192 * c + t) ∧ s'.2.2.1 7 t = s.2.2.1 13 (192 * c + t) ∧ s'.2.2.1 8 t = s.2.2.1 14 (192 * c + t)
theorem x_u75 {N c : Nat} {s : mS} (hc : c < 8) : ∀ (m f j : Nat) (h : mS), j + m = 192 → m < f → fr [4, 5, 6, 7, 8, 9] s h → h.1 9 = Int32.ofNat c → (∀ t, t < 8 → h.2.2.1 4 t = s.2.2.1 10 (8 * c + t) ∧ h.2.2.1 5 t = s.2.2.1 11 (8 * c + t)) → (∀ t, t < j → h.2.2.1 6 t = s.2.2.1 12 (192 * c + t) ∧ h.2.2.1 7 t = s.2.2.1 13 (192 * c + t) ∧ h.2.2.1 8 t = s.2.2.1 14 (192 * c + t)) → ∃ s', mxX7_undo_75 N f (Int32.ofNat j) h = some (s', Int32.ofNat c) ∧ udO s s' c := by
  intro m
  induction m with
  | zero =>
    intro f j h hj hf f1 h9 a1 a2
    obtain ⟨f', rfl⟩ : ∃ f', f = f' + 1 := ⟨f - 1, by omega⟩
    have hj' : j = 192 := by omega
    subst hj'
    refine ⟨h, ?_, f1, h9, a1, a2⟩
    rw [mxX7_undo_75, if_pos (by decide), h9]
  | succ m ih =>
    intro f j h hj hf f1 h9 a1 a2
    obtain ⟨f', rfl⟩ : ∃ f', f = f' + 1 := ⟨f - 1, by omega⟩
    have hn : ¬ ((192 : Int32) ≤ Int32.ofNat j) := by
      have := i_le (a := 192) (b := j) (by omega) (by omega)
      intro h
      have h2 : 192 ≤ j := by
        rw [← this]
        exact h
      omega
    rw [mxX7_undo_75, if_neg hn, h9, i_192, rA1536 rfl (by omega), Option.bind_some, wA192 rfl (by omega), Option.bind_some, sA_1, h9, i_192, rA1536 rfl (by omega), Option.bind_some, wA192 rfl (by omega), Option.bind_some, sA_1, sA_1, h9, i_192, rA1536 rfl (by omega), Option.bind_some, wA192 rfl (by omega), Option.bind_some, i_s]
    have key : sA (sA (sA h 6 j (h.2.2.1 12 (192 * c + j))) 7 j ((sA h 6 j (h.2.2.1 12 (192 * c + j))).2.2.1 13 (192 * c + j))) 8 j ((sA (sA h 6 j (h.2.2.1 12 (192 * c + j))) 7 j ((sA h 6 j (h.2.2.1 12 (192 * c + j))).2.2.1 13 (192 * c + j))).2.2.1 14 (192 * c + j)) = sC h j (s.2.2.1 12 (192 * c + j)) (s.2.2.1 13 (192 * c + j)) (s.2.2.1 14 (192 * c + j)) := by
      unfold sC
      simp only [sA_at]
      simp only [show ¬ ((13 : Nat) = 6 ∧ 192 * c + j = j) from fun q => absurd q.1 (by decide), show ¬ ((14 : Nat) = 7 ∧ 192 * c + j = j) from fun q => absurd q.1 (by decide), show ¬ ((14 : Nat) = 6 ∧ 192 * c + j = j) from fun q => absurd q.1 (by decide), if_false]
      rw [f1.A (by decide), f1.A (by decide), f1.A (by decide)]
    rw [key]
    have g1 := fr_sC h j (s.2.2.1 12 (192 * c + j)) (s.2.2.1 13 (192 * c + j)) (s.2.2.1 14 (192 * c + j))
    refine ih f' (j + 1) _ (by omega) (by omega) (f1.tr (g1.mo (by decide))) (by rw [g1.I (by decide)]; exact h9) (fun t ht => ?_) (fun t ht => ?_)
    · rw [g1.A (by decide), g1.A (by decide)]
      exact a1 t ht
    · rw [sC_6, sC_7, sC_8]
      by_cases w : t = j
      · rw [if_pos w, if_pos w, if_pos w, w]
        exact ⟨rfl, rfl, rfl⟩
      · rw [if_neg w, if_neg w, if_neg w]
        exact a2 t (by omega)
theorem x_u21 {N c : Nat} {s : mS} (hN : 600 < N) (hc : c < 8) : ∀ (m f j : Nat) (h : mS), j + m = 8 → m < f → fr [4, 5, 9] s h → h.1 9 = Int32.ofNat c → (∀ t, t < j → h.2.2.1 4 t = s.2.2.1 10 (8 * c + t) ∧ h.2.2.1 5 t = s.2.2.1 11 (8 * c + t)) → ∃ s', mxX7_undo_21 N f (Int32.ofNat j) h = some (s', Int32.ofNat c) ∧ udO s s' c := by
  intro m
  induction m with
  | zero =>
    intro f j h hj hf f1 h9 a1
    obtain ⟨f', rfl⟩ : ∃ f', f = f' + 1 := ⟨f - 1, by omega⟩
    have hj' : j = 8 := by omega
    subst hj'
    rw [mxX7_undo_21, if_pos (by decide)]
    exact x_u75 hc 192 N 0 h rfl (by omega) (f1.mo (by decide)) h9 a1 (fun t ht => absurd ht (by omega))
  | succ m ih =>
    intro f j h hj hf f1 h9 a1
    obtain ⟨f', rfl⟩ : ∃ f', f = f' + 1 := ⟨f - 1, by omega⟩
    have hn : ¬ ((8 : Int32) ≤ Int32.ofNat j) := by
      have := i_le (a := 8) (b := j) (by omega) (by omega)
      intro h
      have h2 : 8 ≤ j := by
        rw [← this]
        exact h
      omega
    rw [mxX7_undo_21, if_neg hn, h9, i_8, rA64 rfl (by omega), Option.bind_some, wA8 rfl (by omega), Option.bind_some, sA_1, h9, i_8, rA64 rfl (by omega), Option.bind_some, wA8 rfl (by omega), Option.bind_some, i_s]
    simp only [sA_at]
    simp only [show ¬ ((11 : Nat) = 4 ∧ 8 * c + j = j) from fun q => absurd q.1 (by decide), if_false]
    rw [f1.A (by decide), f1.A (by decide)]
    have g1 : fr [4, 5, 9] h (sA (sA h 4 j (s.2.2.1 10 (8 * c + j))) 5 j (s.2.2.1 11 (8 * c + j))) := ((fr_sA _ _ _ _).mo (by decide)).tr ((fr_sA _ _ _ _).mo (by decide))
    have at4 : ∀ t, (sA (sA h 4 j (s.2.2.1 10 (8 * c + j))) 5 j (s.2.2.1 11 (8 * c + j))).2.2.1 4 t = if t = j then s.2.2.1 10 (8 * c + j) else h.2.2.1 4 t := by
      intro t
      simp only [sA_at]
      simp
    have at5 : ∀ t, (sA (sA h 4 j (s.2.2.1 10 (8 * c + j))) 5 j (s.2.2.1 11 (8 * c + j))).2.2.1 5 t = if t = j then s.2.2.1 11 (8 * c + j) else h.2.2.1 5 t := by
      intro t
      simp only [sA_at]
      simp
    refine ih f' (j + 1) _ (by omega) (by omega) (f1.tr g1) h9 (fun t ht => ?_)
    rw [at4, at5]
    by_cases w : t = j
    · rw [if_pos w, if_pos w, w]
      exact ⟨rfl, rfl⟩
    · rw [if_neg w, if_neg w]
      exact a1 t (by omega)
theorem x_undo {N : Nat} {s : mS} (hN : 1000000 < N) (hI : INV s) : (mxX7_undo N s = some (s, -1) ∧ s.1 9 = 0) ∨ ∃ s' c, c < 8 ∧ s.1 9 = Int32.ofNat (c + 1) ∧ mxX7_undo N s = some (s', Int32.ofNat c) ∧ udO s s' c ∧ INV s' := by
  obtain ⟨c, g1, g2, g3, g4, g5⟩ := hI
  unfold mxX7_undo
  by_cases z : c = 0
  · subst z
    left
    have h0 : s.1 9 = 0 := g2
    rw [if_pos h0]
    exact ⟨rfl, h0⟩
  · right
    obtain ⟨c', rfl⟩ : ∃ c', c = c' + 1 := ⟨c - 1, by omega⟩
    have n0 : ¬ (Int32.ofNat (c' + 1) = 0) := fun h => by
      have := i_inj (a := c' + 1) (b := 0) (by omega) (by omega) h
      omega
    rw [g2, if_neg n0, Option.bind_some, i_p]
    obtain ⟨s', e, U⟩ := x_u21 (N := N) (c := c') (s := s) (by omega) (by omega) 8 N 0 (pI s 9 (Int32.ofNat c')) rfl (by omega) ((fr_pI _ _ _).mo (by decide)) rfl (fun t ht => absurd ht (by omega))
    refine ⟨s', c', by omega, rfl, e, U, ?_⟩
    obtain ⟨f, u9, ua, ub⟩ := U
    refine ⟨c', by omega, u9, fun i hi => slt_congr hi (g4 c' (by omega) i hi) ua ub, ?_, ?_⟩
    · rw [f.A (by decide), f.A (by decide), f.A (by decide), f.A (by decide), f.A (by decide)]
      intro h hh
      exact g4 h (by omega)
    · rw [f.A (by decide), f.A (by decide), f.A (by decide), f.A (by decide)]
      exact g5
/-- a TRAY is written -/
theorem INV_tray {s s' : mS} (hI : INV s) (f : fr [0, 1, 2, 3] s s') (h : ∀ t, t < 8 → (s'.2.2.1 0 t = -1 ∨ ∃ n, n ≤ 24 ∧ s'.2.2.1 0 t = Int32.ofNat n) ∧ ∀ k, k < 24 → bd3 (cP3 (s'.2.2.1 1) (s'.2.2.1 2) (s'.2.2.1 3) (24 * t) k) 100) : INV s' := by
  obtain ⟨c, g1, g2, g3, g4, -⟩ := hI
  refine ⟨c, g1, by rw [f.I (by decide)]; exact g2, ?_, ?_, h⟩
  · rw [f.A (by decide), f.A (by decide), f.A (by decide), f.A (by decide), f.A (by decide)]
    exact g3
  · rw [f.A (by decide), f.A (by decide), f.A (by decide), f.A (by decide), f.A (by decide)]
    exact g4
def sT (s : mS) (k : Nat) (a b c : Int32) : mS := sA (sA (sA s 1 k a) 2 k b) 3 k c
theorem fr_sT (s : mS) (k : Nat) (a b c : Int32) : fr [1, 2, 3] s (sT s k a b c) := (((fr_sA s 1 k a).mo (by decide)).tr ((fr_sA _ 2 k b).mo (by decide))).tr ((fr_sA _ 3 k c).mo (by decide))
theorem sT_1 (s : mS) (k : Nat) (a b c : Int32) (t : Nat) : (sT s k a b c).2.2.1 1 t = if t = k then a else s.2.2.1 1 t := by
  unfold sT
  simp only [sA_at]
  simp
theorem sT_2 (s : mS) (k : Nat) (a b c : Int32) (t : Nat) : (sT s k a b c).2.2.1 2 t = if t = k then b else s.2.2.1 2 t := by
  unfold sT
  simp only [sA_at]
  simp
theorem sT_3 (s : mS) (k : Nat) (a b c : Int32) (t : Nat) : (sT s k a b c).2.2.1 3 t = if t = k then c else s.2.2.1 3 t := by
  unfold sT
  simp only [sA_at]
  simp
theorem x_t29 {N i : Nat} {s : mS} (hi : i < 8) : ∀ (m f j : Nat) (h : mS), j + m = 24 → m < f → fr [1, 2, 3] s h → (∀ t, t < 24 * i ∨ 24 * i + j ≤ t → h.2.2.1 1 t = s.2.2.1 1 t ∧ h.2.2.1 2 t = s.2.2.1 2 t ∧ h.2.2.1 3 t = s.2.2.1 3 t) → (∀ t, t < j → h.2.2.1 1 (24 * i + t) = 0 ∧ h.2.2.1 2 (24 * i + t) = 0 ∧ h.2.2.1 3 (24 * i + t) = 0) → ∃ s', mxX7_tray_29 N f (Int32.ofNat i) (Int32.ofNat j) h = some (s', 1) ∧ fr [1, 2, 3] s s' ∧ (∀ t, t < 24 * i ∨ 24 * i + 24 ≤ t → s'.2.2.1 1 t = s.2.2.1 1 t ∧ s'.2.2.1 2 t = s.2.2.1 2 t ∧ s'.2.2.1 3 t = s.2.2.1 3 t) ∧ ∀ t, t < 24 → s'.2.2.1 1 (24 * i + t) = 0 ∧ s'.2.2.1 2 (24 * i + t) = 0 ∧ s'.2.2.1 3 (24 * i + t) = 0 := by
  intro m
  induction m with
  | zero =>
    intro f j h hj hf f1 a1 a2
    obtain ⟨f', rfl⟩ : ∃ f', f = f' + 1 := ⟨f - 1, by omega⟩
    have hj' : j = 24 := by omega
    subst hj'
    refine ⟨h, ?_, f1, a1, a2⟩
    rw [mxX7_tray_29, if_pos (by decide)]
  | succ m ih =>
    intro f j h hj hf f1 a1 a2
    obtain ⟨f', rfl⟩ : ∃ f', f = f' + 1 := ⟨f - 1, by omega⟩
    have hn : ¬ ((24 : Int32) ≤ Int32.ofNat j) := by
      have := i_le (a := 24) (b := j) (by omega) (by omega)
      intro h
      have h2 : 24 ≤ j := by
        rw [← this]
        exact h
      omega
    rw [mxX7_tray_29, if_neg hn, i_24, wA192 rfl (by omega), Option.bind_some, wA192 rfl (by omega), Option.bind_some, wA192 rfl (by omega), Option.bind_some, i_s]
    have g1 := fr_sT h (24 * i + j) 0 0 0
    refine ih f' (j + 1) (sT h (24 * i + j) 0 0 0) (by omega) (by omega) (f1.tr g1) (fun t ht => ?_) (fun t ht => ?_)
    · rw [sT_1, sT_2, sT_3, if_neg (by omega), if_neg (by omega), if_neg (by omega)]
      exact a1 t (by omega)
    · rw [sT_1, sT_2, sT_3]
      by_cases w : t = j
      · rw [if_pos (by omega), if_pos (by omega), if_pos (by omega)]
        exact ⟨rfl, rfl, rfl⟩
      · rw [if_neg (by omega), if_neg (by omega), if_neg (by omega)]
        exact a2 t (by omega)
/-- what tray leaves -/
def trO (s s' : mS) (i : Nat) (n : Int32) : Prop := fr [0, 1, 2, 3] s s' ∧ (∀ t, s'.2.2.1 0 t = if t = i then n else s.2.2.1 0 t) ∧ (∀ t, t < 24 * i ∨ 24 * i + 24 ≤ t → s'.2.2.1 1 t = s.2.2.1 1 t ∧ s'.2.2.1 2 t = s.2.2.1 2 t ∧ s'.2.2.1 3 t = s.2.2.1 3 t) ∧ ∀ t, t < 24 → s'.2.2.1 1 (24 * i + t) = 0 ∧ s'.2.2.1 2 (24 * i + t) = 0 ∧ s'.2.2.1 3 (24 * i + t) = 0
theorem x_tray {N : Nat} {a n : Int32} {s : mS} (hN : 600 < N) (hI : INV s) : (mxX7_tray N a n s = some (s, 0) ∧ ((a < 0 ∨ 8 ≤ a) ∨ n < -1 ∨ ¬ n ≤ 24)) ∨ ∃ i s', i < 8 ∧ a = Int32.ofNat i ∧ ¬ n < -1 ∧ n ≤ 24 ∧ mxX7_tray N a n s = some (s', 1) ∧ trO s s' i n ∧ INV s' := by
  unfold mxX7_tray
  rcases slot_or a with ha | ⟨i, hi, rfl⟩
  · left
    rw [solid_no ha, Option.bind_some]
    exact ⟨rfl, .inl ha⟩
  rw [solid_in hi, Option.bind_some]
  dsimp only
  rw [if_neg (by decide)]
  by_cases c1 : n < -1
  · left
    rw [if_pos c1]
    exact ⟨rfl, .inr (.inl c1)⟩
  rw [if_neg c1]
  by_cases c2 : n ≤ 24
  · right
    rw [if_pos c2, wA8 rfl hi, Option.bind_some]
    obtain ⟨s', e, f1, a1, a2⟩ := x_t29 (N := N) (i := i) (s := sA s 0 i n) hi 24 N 0 (sA s 0 i n) rfl (by omega) fr.rf (fun t _ => ⟨rfl, rfl, rfl⟩) (fun t ht => absurd ht (by omega))
    have f0 : fr [0] s (sA s 0 i n) := fr_sA _ _ _ _
    have at0 : ∀ t, s'.2.2.1 0 t = if t = i then n else s.2.2.1 0 t := by
      intro t
      rw [f1.A (by decide), sA_at]
      by_cases w : t = i
      · rw [if_pos ⟨rfl, w⟩, if_pos w]
      · rw [if_neg (fun q => w q.2), if_neg w]
    have T : trO s s' i n := ⟨(f0.mo (by decide)).tr (f1.mo (by decide)), at0, fun t ht => by
      have := a1 t ht
      rw [f0.A (by decide), f0.A (by decide), f0.A (by decide)] at this
      exact this, a2⟩
    refine ⟨i, s', hi, rfl, c1, c2, e, T, INV_tray hI T.1 (fun t ht => ?_)⟩
    obtain ⟨-, -, -, -, -, g5⟩ := hI
    by_cases w : t = i
    · subst w
      constructor
      · rw [at0, if_pos rfl]
        have hm1 : (-1 : Int32).toInt = -1 := rfl
        have h24 : (24 : Int32).toInt = 24 := rfl
        rw [Int32.lt_iff_toInt_lt, hm1] at c1
        rw [Int32.le_iff_toInt_le, h24] at c2
        by_cases z : n.toInt = -1
        · left
          exact Int32.toInt_inj.mp (by rw [z]; rfl)
        · right
          refine ⟨n.toInt.toNat, by omega, Int32.toInt_inj.mp ?_⟩
          rw [Int32.toInt_ofNat_of_lt (by omega)]
          omega
      · intro k hk
        obtain ⟨z1, z2, z3⟩ := T.2.2.2 k hk
        unfold cP3
        rw [z1, z2, z3]
        exact ⟨by decide, by decide, by decide⟩
    · constructor
      · rw [at0, if_neg w]
        exact (g5 t ht).1
      · intro k hk
        obtain ⟨z1, z2, z3⟩ := T.2.2.1 (24 * t + k) (by omega)
        have := (g5 t ht).2 k hk
        unfold cP3 at this ⊢
        rw [z1, z2, z3]
        exact this
  · left
    rw [if_neg c2]
    exact ⟨rfl, .inr (.inr c2)⟩
/-- point: refused, or the TRAY's POINT is another -/
theorem x_point {N : Nat} {a k x y z : Int32} {s : mS} (hI : INV s) : (mxX7_point N a k x y z s = some (s, 0) ∧ ((a < 0 ∨ 8 ≤ a) ∨ k < 0 ∨ (∃ i, i < 8 ∧ a = Int32.ofNat i ∧ s.2.2.1 0 i ≤ k) ∨ ¬ isPt x y z)) ∨ ∃ i j, i < 8 ∧ a = Int32.ofNat i ∧ k = Int32.ofNat j ∧ (∃ n, j < n ∧ n ≤ 24 ∧ s.2.2.1 0 i = Int32.ofNat n) ∧ isPt x y z ∧ mxX7_point N a k x y z s = some (sT s (24 * i + j) x y z, 1) ∧ INV (sT s (24 * i + j) x y z) := by
  unfold mxX7_point
  rcases slot_or a with ha | ⟨i, hi, rfl⟩
  · left
    rw [solid_no ha, Option.bind_some]
    exact ⟨rfl, .inl ha⟩
  rw [solid_in hi, Option.bind_some]
  dsimp only
  rw [if_neg (by decide)]
  by_cases c1 : k < 0
  · left
    rw [if_pos c1]
    exact ⟨rfl, .inr (.inl c1)⟩
  rw [if_neg c1, rA8 rfl hi, Option.bind_some]
  by_cases c2 : s.2.2.1 0 i ≤ k
  · left
    rw [if_pos c2]
    exact ⟨rfl, .inr (.inr (.inl ⟨i, hi, rfl, c2⟩))⟩
  rw [if_neg c2]
  by_cases c3 : isPt x y z
  · right
    rw [pt64_in c3, Option.bind_some]
    dsimp only
    rw [if_neg (by decide)]
    have hI' := hI
    obtain ⟨-, -, -, -, -, g5⟩ := hI'
    have h0 : (0 : Int32).toInt = 0 := rfl
    have hm1 : (-1 : Int32).toInt = -1 := rfl
    rw [Int32.lt_iff_toInt_lt, h0] at c1
    rw [Int32.le_iff_toInt_le] at c2
    have hn : ∃ n, n ≤ 24 ∧ s.2.2.1 0 i = Int32.ofNat n := by
      rcases (g5 i hi).1 with q | q
      · rw [q, hm1] at c2
        omega
      · exact q
    obtain ⟨n, n24, en⟩ := hn
    rw [en, Int32.toInt_ofNat_of_lt (by omega)] at c2
    have ek : k = Int32.ofNat k.toInt.toNat := by
      apply Int32.toInt_inj.mp
      rw [Int32.toInt_ofNat_of_lt (by omega)]
      omega
    have kn : k.toInt.toNat < n := by omega
    generalize k.toInt.toNat = j at ek kn
    subst ek
    rw [i_24, wA192 rfl (by omega), Option.bind_some, wA192 rfl (by omega), Option.bind_some, wA192 rfl (by omega), Option.bind_some]
    refine ⟨i, j, hi, rfl, rfl, ⟨n, kn, n24, en⟩, c3, rfl, INV_tray hI ((fr_sT _ _ _ _ _).mo (by decide)) (fun t ht => ⟨?_, fun q hq => ?_⟩)⟩
    · rw [(fr_sT _ _ _ _ _).A (by decide)]
      exact (g5 t ht).1
    · have old := (g5 t ht).2 q hq
      unfold cP3 at old ⊢
      rw [sT_1, sT_2, sT_3]
      by_cases w : 24 * t + q = 24 * i + j
      · rw [if_pos w, if_pos w, if_pos w]
        have := i32b c3
        rw [Int32.toInt_toInt64, Int32.toInt_toInt64, Int32.toInt_toInt64] at this
        exact this
      · rw [if_neg w, if_neg w, if_neg w]
        exact old
  · left
    rw [pt64_no c3, Option.bind_some]
    exact ⟨rfl, .inr (.inr (.inr c3))⟩
