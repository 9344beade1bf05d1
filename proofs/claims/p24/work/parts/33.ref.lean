theorem rng_or {n : Nat} (hn : n < 2147483648) (a : Int32) : (a < 0 ∨ Int32.ofNat n ≤ a) ∨ ∃ j, j < n ∧ a = Int32.ofNat j := by
  by_cases h0 : a < 0
  · exact .inl (.inl h0)
  by_cases h8 : Int32.ofNat n ≤ a
  · exact .inl (.inr h8)
  have e0 : (0 : Int32).toInt = 0 := rfl
  rw [Int32.le_iff_toInt_le, Int32.toInt_ofNat_of_lt hn] at h8
  rw [Int32.lt_iff_toInt_lt, e0] at h0
  refine .inr ⟨a.toInt.toNat, by omega, ?_⟩
  apply Int32.toInt_inj.mp
  rw [Int32.toInt_ofNat_of_lt (by omega)]
  omega
theorem o10 : ((1 : Int32) = 0) = False := by decide
theorem rA_N {s : mS} {k j : Nat} (h : j < aN k) (hk : aN k < 2147483648) : rA s k (Int32.ofNat j) = some (s.2.2.1 k j) := by
  unfold rA
  rw [if_neg (i_nb h hk), i_tn (by omega)]
theorem rA_0 {s : mS} {k : Nat} (h : 0 < aN k) : rA s k 0 = some (s.2.2.1 k 0) := by
  unfold rA
  rw [if_neg]
  · rfl
  · intro q
    cases q with
    | inl q => exact absurd q (by decide)
    | inr q =>
      have : (0 : Int32).toNatClampNeg = 0 := rfl
      rw [this] at q
      omega
/-- the reference keeps what was: only the rows of what was change -/
def frK (s s' : mS) : Prop := s'.1 = s.1 ∧ s'.2.1 = s.2.1 ∧ s'.2.2.2 = s.2.2.2 ∧ ∀ k, ¬ k = 10 → ¬ k = 11 → ¬ k = 12 → ¬ k = 13 → ¬ k = 14 → s'.2.2.1 k = s.2.2.1 k
theorem frK.rf {s : mS} : frK s s := ⟨rfl, rfl, rfl, fun _ _ _ _ _ _ => rfl⟩
theorem frK.tr {a b c : mS} (h : frK a b) (g : frK b c) : frK a c := ⟨g.1.trans h.1, g.2.1.trans h.2.1, g.2.2.1.trans h.2.2.1, fun k h1 h2 h3 h4 h5 => (g.2.2.2 k h1 h2 h3 h4 h5).trans (h.2.2.2 k h1 h2 h3 h4 h5)⟩
def sA (s : mS) (k j : Nat) (v : Int32) : mS := (s.1, s.2.1, va_up s.2.2.1 k (upd (s.2.2.1 k) j v), s.2.2.2)
theorem wA_N {s : mS} {k j : Nat} {v : Int32} (h : j < aN k) (hk : aN k < 2147483648) : wA s k (Int32.ofNat j) v = some (sA s k j v) := by
  unfold wA sA
  rw [if_neg (i_nb h hk), i_tn (by omega)]
theorem sA_1 (s : mS) (k j : Nat) (v : Int32) : (sA s k j v).1 = s.1 := id rfl
theorem frK_sA {s : mS} {k j : Nat} {v : Int32} (hk : k = 10 ∨ k = 11 ∨ k = 12 ∨ k = 13 ∨ k = 14) : frK s (sA s k j v) := by
  refine ⟨rfl, rfl, rfl, fun i h1 h2 h3 h4 h5 => ?_⟩
  unfold sA va_up
  exact if_neg (by omega)
theorem i_ma (a c j : Nat) : Int32.ofNat a * Int32.ofNat c + Int32.ofNat j = Int32.ofNat (a * c + j) := by
  rw [Int32.ofNat_add, Int32.ofNat_mul]
theorem m_k178 {N c : Nat} (hc : c < 8) : ∀ (m f j : Nat) (s : mS), j + m = 192 → m < f → s.1 9 = Int32.ofNat c → ∃ s', mxX7_keeps_178 N f (Int32.ofNat j) s = some (pI s' 9 (Int32.ofNat (c + 1))) ∧ frK s s' := by
  intro m
  induction m with
  | zero =>
    intro f j s hj hf h9
    obtain ⟨f', rfl⟩ : ∃ f', f = f' + 1 := ⟨f - 1, by omega⟩
    refine ⟨s, ?_, frK.rf⟩
    have hj' : j = 192 := by omega
    subst hj'
    rw [mxX7_keeps_178, if_pos (by decide), Option.bind_some, h9, i_s]
  | succ m ih =>
    intro f j s hj hf h9
    obtain ⟨f', rfl⟩ : ∃ f', f = f' + 1 := ⟨f - 1, by omega⟩
    have hn : ¬ ((192 : Int32) ≤ Int32.ofNat j) := by
      have := i_le (a := 192) (b := j) (by omega) (by omega)
      intro h
      have h2 : 192 ≤ j := by
        rw [← this]
        exact h
      omega
    have hi : (192 : Int32) * Int32.ofNat c + Int32.ofNat j = Int32.ofNat (192 * c + j) := i_ma 192 c j
    have b6 : j < aN 6 := by show j < 192; omega
    have b7 : j < aN 7 := by show j < 192; omega
    have b8 : j < aN 8 := by show j < 192; omega
    have b12 : 192 * c + j < aN 12 := by show 192 * c + j < 1536; omega
    have b13 : 192 * c + j < aN 13 := by show 192 * c + j < 1536; omega
    have b14 : 192 * c + j < aN 14 := by show 192 * c + j < 1536; omega
    have e1 : ∀ s : mS, rA s 6 (Int32.ofNat j) = some (s.2.2.1 6 j) := fun s => rA_N b6 (by decide)
    have e2 : ∀ s : mS, rA s 7 (Int32.ofNat j) = some (s.2.2.1 7 j) := fun s => rA_N b7 (by decide)
    have e3 : ∀ s : mS, rA s 8 (Int32.ofNat j) = some (s.2.2.1 8 j) := fun s => rA_N b8 (by decide)
    have w1 : ∀ (s : mS) v, wA s 12 (Int32.ofNat (192 * c + j)) v = some (sA s 12 (192 * c + j) v) := fun s v => wA_N b12 (by decide)
    have w2 : ∀ (s : mS) v, wA s 13 (Int32.ofNat (192 * c + j)) v = some (sA s 13 (192 * c + j) v) := fun s v => wA_N b13 (by decide)
    have w3 : ∀ (s : mS) v, wA s 14 (Int32.ofNat (192 * c + j)) v = some (sA s 14 (192 * c + j) v) := fun s v => wA_N b14 (by decide)
    rw [mxX7_keeps_178, if_neg hn]
    simp only [e1, e2, e3, Option.bind_some, h9, hi, w1, sA_1, w2, w3, i_s]
    obtain ⟨s', e, hf'⟩ := ih f' (j + 1) _ (by omega) (by omega) (show (sA (sA (sA s 12 (192 * c + j) (s.2.2.1 6 j)) 13 (192 * c + j) ((sA s 12 (192 * c + j) (s.2.2.1 6 j)).2.2.1 7 j)) 14 (192 * c + j) ((sA (sA s 12 (192 * c + j) (s.2.2.1 6 j)) 13 (192 * c + j) ((sA s 12 (192 * c + j) (s.2.2.1 6 j)).2.2.1 7 j)).2.2.1 8 j)).1 9 = Int32.ofNat c from h9)
    exact ⟨s', e, ((frK_sA (by omega)).tr ((frK_sA (by omega)).tr (frK_sA (by omega)))).tr hf'⟩
theorem m_k124 {N c : Nat} (hc : c < 8) (hN : 192 < N) : ∀ (m f j : Nat) (s : mS), j + m = 8 → m < f → s.1 9 = Int32.ofNat c → ∃ s', mxX7_keeps_124 N f (Int32.ofNat j) s = some (pI s' 9 (Int32.ofNat (c + 1))) ∧ frK s s' := by
  intro m
  induction m with
  | zero =>
    intro f j s hj hf h9
    obtain ⟨f', rfl⟩ : ∃ f', f = f' + 1 := ⟨f - 1, by omega⟩
    have hj' : j = 8 := by omega
    subst hj'
    rw [mxX7_keeps_124, if_pos (by decide)]
    exact m_k178 hc 192 N 0 s rfl hN h9
  | succ m ih =>
    intro f j s hj hf h9
    obtain ⟨f', rfl⟩ : ∃ f', f = f' + 1 := ⟨f - 1, by omega⟩
    have hn : ¬ ((8 : Int32) ≤ Int32.ofNat j) := by
      have := i_le (a := 8) (b := j) (by omega) (by omega)
      intro h
      have h2 : 8 ≤ j := by
        rw [← this]
        exact h
      omega
    have hi : (8 : Int32) * Int32.ofNat c + Int32.ofNat j = Int32.ofNat (8 * c + j) := i_ma 8 c j
    have b4 : j < aN 4 := by show j < 8; omega
    have b5 : j < aN 5 := by show j < 8; omega
    have b10 : 8 * c + j < aN 10 := by show 8 * c + j < 64; omega
    have b11 : 8 * c + j < aN 11 := by show 8 * c + j < 64; omega
    have e1 : ∀ s : mS, rA s 4 (Int32.ofNat j) = some (s.2.2.1 4 j) := fun s => rA_N b4 (by decide)
    have e2 : ∀ s : mS, rA s 5 (Int32.ofNat j) = some (s.2.2.1 5 j) := fun s => rA_N b5 (by decide)
    have w1 : ∀ (s : mS) v, wA s 10 (Int32.ofNat (8 * c + j)) v = some (sA s 10 (8 * c + j) v) := fun s v => wA_N b10 (by decide)
    have w2 : ∀ (s : mS) v, wA s 11 (Int32.ofNat (8 * c + j)) v = some (sA s 11 (8 * c + j) v) := fun s v => wA_N b11 (by decide)
    rw [mxX7_keeps_124, if_neg hn]
    simp only [e1, e2, Option.bind_some, h9, hi, w1, sA_1, w2, i_s]
    obtain ⟨s', e, hf'⟩ := ih f' (j + 1) _ (by omega) (by omega) (show (sA (sA s 10 (8 * c + j) (s.2.2.1 4 j)) 11 (8 * c + j) ((sA s 10 (8 * c + j) (s.2.2.1 4 j)).2.2.1 5 j)).1 9 = Int32.ofNat c from h9)
    exact ⟨s', e, ((frK_sA (by omega)).tr (frK_sA (by omega))).tr hf'⟩
/-- keeps, while fewer than eight changes are kept -/
theorem m_keeps {N c : Nat} (hc : c < 8) (hN : 192 < N) (s : mS) (h9 : s.1 9 = Int32.ofNat c) : ∃ s', mxX7_keeps N s = some (pI s' 9 (Int32.ofNat (c + 1))) ∧ frK s s' := by
  have n8 : ¬ (Int32.ofNat c = 8) := fun h => by
    have := i_inj (a := c) (b := 8) (by omega) (by omega) h
    omega
  unfold mxX7_keeps mxX7_keeps_122
  rw [h9, if_neg n8]
  exact m_k124 hc hN 8 N 0 s rfl (by omega) h9
theorem t64_lt (x y : Int32) : (x.toInt64 < y.toInt64) = (x < y) := by
  rw [Int64.lt_iff_toInt_lt, Int32.lt_iff_toInt_lt, Int32.toInt_toInt64, Int32.toInt_toInt64]
theorem pt64_in {N : Nat} {x y z : Int32} {s : mS} (hp : isPt x y z) : mxX7_isPoint N x.toInt64 y.toInt64 z.toInt64 s = some (s, 1) := by
  obtain ⟨a, b, c, d, e, f⟩ := hp
  have el : (-100 : Int64) = (-100 : Int32).toInt64 := by decide
  have eh : (100 : Int64) = (100 : Int32).toInt64 := by decide
  unfold mxX7_isPoint
  rw [el, eh]
  simp only [t64_lt, a, b, c, d, e, f, if_false]
theorem pt64_no {N : Nat} {x y z : Int32} {s : mS} (hp : ¬ isPt x y z) : mxX7_isPoint N x.toInt64 y.toInt64 z.toInt64 s = some (s, 0) := by
  have el : (-100 : Int64) = (-100 : Int32).toInt64 := by decide
  have eh : (100 : Int64) = (100 : Int32).toInt64 := by decide
  unfold mxX7_isPoint
  rw [el, eh]
  simp only [t64_lt]
  by_cases a : x < -100
  · rw [if_pos a]
  by_cases b : 100 < x
  · rw [if_neg a, if_pos b]
  by_cases c : y < -100
  · rw [if_neg a, if_neg b, if_pos c]
  by_cases d : 100 < y
  · rw [if_neg a, if_neg b, if_neg c, if_pos d]
  by_cases e : z < -100
  · rw [if_neg a, if_neg b, if_neg c, if_neg d, if_pos e]
  by_cases f : 100 < z
  · rw [if_neg a, if_neg b, if_neg c, if_neg d, if_neg e, if_pos f]
  exact absurd ⟨a, b, c, d, e, f⟩ hp
theorem rG_0 {s : mS} {k : Nat} (h : 0 < aN k) (hk : aN k < 2147483648) : rG s k 0 = some (s.2.2.2 k 0) := by
  have e := i_nb h hk
  unfold rG
  exact if_neg e
def sG (s : mS) (k j : Nat) (v : Int64) : mS := (s.1, s.2.1, s.2.2.1, va_up s.2.2.2 k (vp_updL (s.2.2.2 k) j v))
theorem wG_0 {s : mS} {k : Nat} {v : Int64} (h : 0 < aN k) (hk : aN k < 2147483648) : wG s k 0 v = some (sG s k 0 v) := by
  have e := i_nb h hk
  unfold wG sG
  exact if_neg e
theorem wA_0 {s : mS} {k : Nat} {v : Int32} (h : 0 < aN k) (hk : aN k < 2147483648) : wA s k 0 v = some (sA s k 0 v) := wA_N (j := 0) h hk
theorem wB_01 {s : mS} {k : Nat} (h : 0 < aN k) (hk : aN k < 2147483648) : wB s k 0 1 = some (sA s k 0 1) := by
  have e := i_nb h hk
  unfold wB sA
  exact if_neg e
theorem pI_15 (s : mS) (v : Int32) : (pI s 15 v).1 15 = v := id rfl
