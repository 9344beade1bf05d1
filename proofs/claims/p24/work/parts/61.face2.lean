def rG4 (s : mS) (k : Nat) (a b c d : Int64) : mS := sG (sG (sG (sG s 28 k a) 29 k b) 30 k c) 31 k d
theorem rG4_o {s : mS} {k : Nat} {a b c d : Int64} {t : Nat} (h : ¬ t = k) : fN (rG4 s k a b c d) t = fN s t ∧ fD (rG4 s k a b c d) t = fD s t := by
  simp [fN, fD, rG4, sG_at, h]
theorem rG4_k {s : mS} {k : Nat} {a b c d : Int64} : fN (rG4 s k a b c d) k = (a.toInt, b.toInt, c.toInt) ∧ fD (rG4 s k a b c d) k = d.toInt := by
  simp [fN, fD, rG4, sG_at]
theorem smF_rG4 {s : mS} {k : Nat} {a b c d : Int64} : smF s (rG4 s k a b c d) := (((smF_sG (.inl rfl)).tr (smF_sG (.inr (.inl rfl)))).tr (smF_sG (.inr (.inr (.inl rfl))))).tr (smF_sG (.inr (.inr (.inr rfl))))
theorem g28 {k : Nat} (h : k < 128) (s : mS) (v : Int64) : wG s 28 (Int32.ofNat k) v = some (sG s 28 k v) := wG_N (k := 28) h (by decide)
theorem g29 {k : Nat} (h : k < 128) (s : mS) (v : Int64) : wG s 29 (Int32.ofNat k) v = some (sG s 29 k v) := wG_N (k := 29) h (by decide)
theorem g30 {k : Nat} (h : k < 128) (s : mS) (v : Int64) : wG s 30 (Int32.ofNat k) v = some (sG s 30 k v) := wG_N (k := 30) h (by decide)
theorem g31 {k : Nat} (h : k < 128) (s : mS) (v : Int64) : wG s 31 (Int32.ofNat k) v = some (sG s 31 k v) := wG_N (k := 31) h (by decide)
theorem h28 {k : Nat} (h : k < 128) (s : mS) : rG s 28 (Int32.ofNat k) = some (s.2.2.2 28 k) := rG_N (k := 28) h (by decide)
theorem h29 {k : Nat} (h : k < 128) (s : mS) : rG s 29 (Int32.ofNat k) = some (s.2.2.2 29 k) := rG_N (k := 29) h (by decide)
theorem h30 {k : Nat} (h : k < 128) (s : mS) : rG s 30 (Int32.ofNat k) = some (s.2.2.2 30 k) := rG_N (k := 30) h (by decide)
theorem h31 {k : Nat} (h : k < 128) (s : mS) : rG s 31 (Int32.ofNat k) = some (s.2.2.2 31 k) := rG_N (k := 31) h (by decide)
theorem r32 {k : Nat} (h : k < 128) (s : mS) : rA s 32 (Int32.ofNat k) = some (s.2.2.1 32 k) := rA_N (k := 32) h (by decide)
theorem w32 {k : Nat} (h : k < 128) (s : mS) (v : Int32) : wA s 32 (Int32.ofNat k) v = some (sA s 32 k v) := wA_N (k := 32) h (by decide)
/-- what faceHere leaves: the row f is new, those from f to top have moved up -/
def fcI (s s' : mS) (g f top r : Nat) (d : Int) : Prop := smF s s' ∧ (∀ k, k < f → rwE s' k s k) ∧ (fN s' f = nv s ∧ fD s' f = d ∧ s'.2.2.1 32 f = Int32.ofNat r ∧ ∀ j, j < r → fQ s' f j = s.2.2.1 22 j) ∧ (∀ k, f < k → k ≤ top → rwE s' k s (k - 1)) ∧ (∀ k, top < k → k < 128 → rwE s' k s k) ∧ ∀ j, j < 2 → s'.2.2.1 27 j = if j = g then s.2.2.1 27 j + 1 else s.2.2.1 27 j
theorem x_shF {N g f0 top r : Nat} {d : Int64} (hN : 600 < N) (hg : g < 2) (ht : top < 128) (hr : r ≤ 25) (s : mS) (h23 : s.1 23 = Int32.ofNat r) : ∀ (m f i : Nat) (h : mS), i = f0 + m → m < f → i ≤ top → smF s h → h.2.2.1 27 = s.2.2.1 27 → (∀ k, k ≤ i → rwE h k s k) → (∀ k, i < k → k ≤ top → rwE h k s (k - 1)) → (∀ k, top < k → k < 128 → rwE h k s k) →
    ∃ s', mxX7_faceHere_51 N f (Int32.ofNat g) d (Int32.ofNat f0) (Int32.ofNat i) h = some s' ∧ fcI s s' g f0 top r d.toInt := by
  intro m
  induction m with
  | zero =>
    intro f i h hi hf hit sm h27 hlo hmid hhi
    obtain ⟨f', rfl⟩ : ∃ f', f = f' + 1 := ⟨f - 1, by omega⟩
    have hi' : i = f0 := by omega
    subst hi'
    have n24 : h.2.1 = s.2.1 := sm.2.1
    generalize hb : sA (rG4 h i (h.2.1 24) (h.2.1 25) (h.2.1 26) d) 32 i (Int32.ofNat r) = b
    have smb : smF h b := by
      rw [← hb]
      exact smF_rG4.tr (smF_sA (.inr (.inl rfl)))
    have b22 : b.2.2.1 22 = s.2.2.1 22 := ((sm.tr smb).2.2.1 22 (by decide) (by decide) (by decide))
    have b23 : b.1 23 = Int32.ofNat r := by rw [smb.1, sm.1, h23]
    obtain ⟨s', e, sm', g', q', f27, o33, d33⟩ := x_newrow (N := N) (g := g) (k := i) (r := r) hg (by omega) hr b b23 r N 0 b (by omega) (by omega) smF.rf rfl (fun _ _ => rfl) (fun _ _ => rfl) (fun j hj => absurd hj (by omega))
    have bN : ∀ t, ¬ t = i → fN b t = fN h t ∧ fD b t = fD h t := by
      intro t ht'
      rw [← hb]
      exact rG4_o ht'
    have same : ∀ t, ¬ t = i → t < 128 → rwE s' t h t := by
      intro t h1 h2
      refine ⟨?_, ?_, ?_, ?_⟩
      · have : fN s' t = fN b t := by
          unfold fN
          rw [g']
        rw [this]
        exact (bN t h1).1
      · have : fD s' t = fD b t := by
          unfold fD
          rw [g']
        rw [this]
        exact (bN t h1).2
      · rw [q' 32 (by decide) (by decide), ← hb, sA_at, if_neg (by omega)]
        rfl
      · intro j hj
        unfold fQ
        rw [o33 (25 * t + j) (by omega), ← hb, sA_at, if_neg (by omega)]
        rfl
    refine ⟨s', ?_, (sm.tr smb).tr sm', ?_, ⟨?_, ?_, ?_, ?_⟩, ?_, ?_, ?_⟩
    · rw [mxX7_faceHere_51, if_pos (Int32.le_refl _), g28 (by omega), Option.bind_some, g29 (by omega), Option.bind_some, g30 (by omega), Option.bind_some, g31 (by omega), Option.bind_some, w32 (by omega), Option.bind_some]
      have q : (sG (sG (sG (sG h 28 i (h.2.1 24)) 29 i ((sG h 28 i (h.2.1 24)).2.1 25)) 30 i ((sG (sG h 28 i (h.2.1 24)) 29 i ((sG h 28 i (h.2.1 24)).2.1 25)).2.1 26)) 31 i d) = rG4 h i (h.2.1 24) (h.2.1 25) (h.2.1 26) d := rfl
      rw [q]
      have q2 : (rG4 h i (h.2.1 24) (h.2.1 25) (h.2.1 26) d).1 23 = Int32.ofNat r := by
        show h.1 23 = _
        rw [sm.1, h23]
      rw [q2, hb]
      exact e
    · intro k hk
      exact (same k (by omega) (by omega)).tr (hlo k (by omega))
    · have : fN s' i = fN b i := by
        unfold fN
        rw [g']
      rw [this, ← hb]
      show fN (rG4 h i (h.2.1 24) (h.2.1 25) (h.2.1 26) d) i = nv s
      rw [rG4_k.1]
      unfold nv
      rw [n24]
    · have : fD s' i = fD b i := by
        unfold fD
        rw [g']
      rw [this, ← hb]
      exact rG4_k.2
    · rw [q' 32 (by decide) (by decide), ← hb, sA_at, if_pos ⟨rfl, rfl⟩]
    · intro j hj
      unfold fQ
      rw [d33 j hj, b22]
    · intro k h1 h2
      exact (same k (by omega) (by omega)).tr (hmid k h1 h2)
    · intro k h1 h2
      exact (same k (by omega) h2).tr (hhi k h1 h2)
    · intro j hj
      rw [f27 j hj]
      have : b.2.2.1 27 j = s.2.2.1 27 j := by
        rw [← hb, sA_at, if_neg (by omega)]
        show h.2.2.1 27 j = _
        rw [h27]
      rw [this]
  | succ m ih =>
    intro f i h hi hf hit sm h27 hlo hmid hhi
    obtain ⟨f', rfl⟩ : ∃ f', f = f' + 1 := ⟨f - 1, by omega⟩
    obtain ⟨i', rfl⟩ : ∃ i', i = i' + 1 := ⟨i - 1, by omega⟩
    have ne : ¬ (Int32.ofNat (i' + 1) ≤ Int32.ofNat f0) := by
      rw [i_le (by omega) (by omega)]
      omega
    generalize hb : sA (rG4 h (i' + 1) (h.2.2.2 28 i') (h.2.2.2 29 i') (h.2.2.2 30 i') (h.2.2.2 31 i')) 32 (i' + 1) (h.2.2.1 32 i') = b
    have smb : smF h b := by
      rw [← hb]
      exact smF_rG4.tr (smF_sA (.inr (.inl rfl)))
    obtain ⟨h', e, sm', g', q', o33, d33⟩ := x_row (N := N) (k := i') (x1 := Int32.ofNat g) (x4 := Int32.ofNat f0) (x2 := d) (rec51 := mxX7_faceHere_51 N f') (by omega) b 25 N 0 b (by omega) (by omega) smF.rf rfl (fun _ _ => rfl) (fun _ _ => rfl) (fun j hj => absurd hj (by omega))
    have same : ∀ t, ¬ t = i' + 1 → t < 128 → rwE h' t h t := by
      intro t h1 h2
      refine ⟨?_, ?_, ?_, ?_⟩
      · have : fN h' t = fN b t := by
          unfold fN
          rw [g']
        rw [this, ← hb]
        exact (rG4_o (s := h) (d := h.2.2.2 31 i') h1).1
      · have : fD h' t = fD b t := by
          unfold fD
          rw [g']
        rw [this, ← hb]
        exact (rG4_o h1).2
      · rw [q' 32 (by decide), ← hb, sA_at, if_neg (by omega)]
        rfl
      · intro j hj
        unfold fQ
        rw [o33 (25 * t + j) (by omega), ← hb, sA_at, if_neg (by omega)]
        rfl
    have moved : rwE h' (i' + 1) h i' := by
      refine ⟨?_, ?_, ?_, ?_⟩
      · have : fN h' (i' + 1) = fN b (i' + 1) := by
          unfold fN
          rw [g']
        rw [this, ← hb]
        exact (rG4_k (s := h) (d := h.2.2.2 31 i')).1
      · have : fD h' (i' + 1) = fD b (i' + 1) := by
          unfold fD
          rw [g']
        rw [this, ← hb]
        exact rG4_k.2
      · rw [q' 32 (by decide), ← hb, sA_at, if_pos ⟨rfl, rfl⟩]
      · intro j hj
        unfold fQ
        rw [d33 j hj, ← hb, sA_at, if_neg (by omega)]
        rfl
    obtain ⟨s', e', hI⟩ := ih f' i' h' (by omega) (by omega) (by omega) ((sm.tr smb).tr sm') (by
      rw [q' 27 (by decide), ← hb]
      funext t
      rw [sA_at, if_neg (by omega)]
      show h.2.2.1 27 t = _
      rw [h27]) (by
      intro k hk
      exact (same k (by omega) (by omega)).tr (hlo k (by omega))) (by
      intro k h1 h2
      by_cases w : k = i' + 1
      · rw [w, Nat.add_sub_cancel]
        exact moved.tr (hlo i' (by omega))
      · exact (same k w (by omega)).tr (hmid k (by omega) h2)) (by
      intro k h1 h2
      exact (same k (by omega) h2).tr (hhi k h1 h2))
    refine ⟨s', ?_, hI⟩
    rw [mxX7_faceHere_51, if_neg ne]
    simp only [i_p]
    rw [h28 (by omega), Option.bind_some, g28 (by omega), Option.bind_some, h29 (by omega), Option.bind_some, g29 (by omega), Option.bind_some, h30 (by omega), Option.bind_some, g30 (by omega), Option.bind_some, h31 (by omega), Option.bind_some, g31 (by omega), Option.bind_some, r32 (by omega), Option.bind_some, w32 (by omega), Option.bind_some]
    refine Eq.trans ?_ e'
    refine Eq.trans ?_ e
    rw [← hb]
    rfl
/-- a row that goes ahead of another one -/
def ahd (a : V3) (da : Int) (b : V3) (db : Int) : Prop := a.1 < b.1 ∨ a.1 = b.1 ∧ (a.2.1 < b.2.1 ∨ a.2.1 = b.2.1 ∧ (a.2.2 < b.2.2 ∨ a.2.2 = b.2.2 ∧ da < db))
theorem x_ahead {N k : Nat} {d : Int64} {s : mS} (hk : k < 128) : (ahd (fN s k) (fD s k) (nv s) d.toInt ∧ mxX7_isAhead N (Int32.ofNat k) d s = some (s, 1)) ∨ (¬ ahd (fN s k) (fD s k) (nv s) d.toInt ∧ mxX7_isAhead N (Int32.ofNat k) d s = some (s, 0)) := by
  have q1 : (s.2.2.2 28 k = s.2.1 24) = ((fN s k).1 = (nv s).1) := i64_eq rfl rfl
  have q2 : (s.2.2.2 29 k = s.2.1 25) = ((fN s k).2.1 = (nv s).2.1) := i64_eq rfl rfl
  have q3 : (s.2.2.2 30 k = s.2.1 26) = ((fN s k).2.2 = (nv s).2.2) := i64_eq rfl rfl
  have q4 : (d ≤ s.2.2.2 31 k) = (d.toInt ≤ fD s k) := i64_le rfl rfl
  have q5 : (s.2.1 26 ≤ s.2.2.2 30 k) = ((nv s).2.2 ≤ (fN s k).2.2) := i64_le rfl rfl
  have q6 : (s.2.1 25 ≤ s.2.2.2 29 k) = ((nv s).2.1 ≤ (fN s k).2.1) := i64_le rfl rfl
  have q7 : (s.2.1 24 ≤ s.2.2.2 28 k) = ((nv s).1 ≤ (fN s k).1) := i64_le rfl rfl
  unfold mxX7_isAhead
  rw [h28 hk, Option.bind_some, Option.bind_some, h29 hk, Option.bind_some, Option.bind_some, h30 hk, Option.bind_some, Option.bind_some, h31 hk, Option.bind_some]
  simp only [q1, q2, q3, q4, q5, q6, q7]
  unfold ahd
  by_cases c1 : (fN s k).1 = (nv s).1
  · rw [if_pos c1]
    by_cases c2 : (fN s k).2.1 = (nv s).2.1
    · rw [if_pos c2]
      by_cases c3 : (fN s k).2.2 = (nv s).2.2
      · rw [if_pos c3]
        by_cases c4 : d.toInt ≤ fD s k
        · rw [if_pos c4]
          exact .inr ⟨by omega, rfl⟩
        · rw [if_neg c4]
          exact .inl ⟨by omega, rfl⟩
      · rw [if_neg c3]
        by_cases c4 : (nv s).2.2 ≤ (fN s k).2.2
        · rw [if_pos c4]
          exact .inr ⟨by omega, rfl⟩
        · rw [if_neg c4]
          exact .inl ⟨by omega, rfl⟩
    · rw [if_neg c2]
      by_cases c4 : (nv s).2.1 ≤ (fN s k).2.1
      · rw [if_pos c4]
        exact .inr ⟨by omega, rfl⟩
      · rw [if_neg c4]
        exact .inl ⟨by omega, rfl⟩
  · rw [if_neg c1]
    by_cases c4 : (nv s).1 ≤ (fN s k).1
    · rw [if_pos c4]
      exact .inr ⟨by omega, rfl⟩
    · rw [if_neg c4]
      exact .inl ⟨by omega, rfl⟩
theorem i_64 (g k : Nat) : (64 : Int32) * Int32.ofNat g + Int32.ofNat k = Int32.ofNat (64 * g + k) := i_ma 64 g k
theorem i_64' (g : Nat) : (64 : Int32) * Int32.ofNat g = Int32.ofNat (64 * g) := (Int32.ofNat_mul 64 g).symm
/-- faceHere puts the new FACE behind those that go ahead of it -/
theorem x_fH6 {N g F r : Nat} {d : Int64} {s : mS} (hN : 600 < N) (hg : g < 2) (hF : F < 64) (hr : r ≤ 25) (h23 : s.1 23 = Int32.ofNat r) (h27 : s.2.2.1 27 g = Int32.ofNat F) : ∀ (m f k : Nat), k + m = F → m < f → (∀ j, j < k → ahd (fN s (64 * g + j)) (fD s (64 * g + j)) (nv s) d.toInt) →
    ∃ s' p, mxX7_faceHere_6 N f (Int32.ofNat g) d (Int32.ofNat (64 * g + k)) s = some s' ∧ p ≤ F ∧ (∀ j, j < p → ahd (fN s (64 * g + j)) (fD s (64 * g + j)) (nv s) d.toInt) ∧ (p < F → ¬ ahd (fN s (64 * g + p)) (fD s (64 * g + p)) (nv s) d.toInt) ∧ fcI s s' g (64 * g + p) (64 * g + F) r d.toInt := by
  have b27 : g < aN 27 := by show g < 2; omega
  have fin : ∀ k, k ≤ F → ∃ s', mxX7_faceHere_38 N (Int32.ofNat g) d (Int32.ofNat (64 * g + k)) s = some s' ∧ fcI s s' g (64 * g + k) (64 * g + F) r d.toInt := by
    intro k hk
    obtain ⟨s', e, hI⟩ := x_shF (N := N) (g := g) (f0 := 64 * g + k) (top := 64 * g + F) (r := r) (d := d) hN hg (by omega) hr s h23 (F - k) N (64 * g + F) s (by omega) (by omega) (Nat.le_refl _) smF.rf rfl (fun _ _ => rwE.rf) (fun q h1 h2 => absurd h2 (by omega)) (fun _ _ _ => rwE.rf)
    refine ⟨s', ?_, hI⟩
    unfold mxX7_faceHere_38
    rw [rA_N b27 (by decide), Option.bind_some, h27, i_64]
    exact e
  intro m
  induction m with
  | zero =>
    intro f k hk hf hl
    obtain ⟨f', rfl⟩ : ∃ f', f = f' + 1 := ⟨f - 1, by omega⟩
    have hkF : k = F := by omega
    subst hkF
    obtain ⟨s', e, hI⟩ := fin k (Nat.le_refl _)
    refine ⟨s', k, ?_, Nat.le_refl _, hl, fun h => absurd h (by omega), hI⟩
    rw [mxX7_faceHere_6, rA_N b27 (by decide), Option.bind_some, h27, i_64, if_pos (Int32.le_refl _)]
    exact e
  | succ m ih =>
    intro f k hk hf hl
    obtain ⟨f', rfl⟩ : ∃ f', f = f' + 1 := ⟨f - 1, by omega⟩
    have ne : ¬ (Int32.ofNat (64 * g + F) ≤ Int32.ofNat (64 * g + k)) := by
      rw [i_le (by omega) (by omega)]
      omega
    rw [mxX7_faceHere_6, rA_N b27 (by decide), Option.bind_some, h27, i_64, if_neg ne]
    rcases x_ahead (N := N) (k := 64 * g + k) (d := d) (s := s) (by omega) with ⟨ha, e⟩ | ⟨ha, e⟩
    · rw [e, Option.bind_some]
      dsimp only
      rw [if_neg (by decide), i_s]
      obtain ⟨s', p, h⟩ := ih f' (k + 1) (by omega) (by omega) (by
        intro j hj
        by_cases w : j = k
        · rw [w]
          exact ha
        · exact hl j (by omega))
      exact ⟨s', p, h⟩
    · rw [e, Option.bind_some]
      dsimp only
      rw [if_pos rfl]
      obtain ⟨s', e', hI⟩ := fin k (by omega)
      exact ⟨s', k, e', by omega, hl, fun _ => ha, hI⟩
theorem x_faceHere {N g F r : Nat} {d : Int64} {s : mS} (hN : 600 < N) (hg : g < 2) (hF : F < 64) (hr : r ≤ 25) (h23 : s.1 23 = Int32.ofNat r) (h27 : s.2.2.1 27 g = Int32.ofNat F) : ∃ s' p, mxX7_faceHere N (Int32.ofNat g) d s = some s' ∧ p ≤ F ∧ (∀ j, j < p → ahd (fN s (64 * g + j)) (fD s (64 * g + j)) (nv s) d.toInt) ∧ (p < F → ¬ ahd (fN s (64 * g + p)) (fD s (64 * g + p)) (nv s) d.toInt) ∧ fcI s s' g (64 * g + p) (64 * g + F) r d.toInt := by
  unfold mxX7_faceHere
  rw [i_64']
  exact x_fH6 hN hg hF hr h23 h27 F N 0 (by omega) (by omega) (fun j hj => absurd hj (by omega))
/-- isKnown: whether the FACE stands in the table -/
theorem x_known {N g F : Nat} {d : Int64} {s : mS} (hg : g < 2) (hF : F ≤ 64) (hN : 600 < N) (h27 : s.2.2.1 27 g = Int32.ofNat F) : (mxX7_isKnown N (Int32.ofNat g) d s = some (s, 1) ∧ ∃ k, k < F ∧ fN s (64 * g + k) = nv s ∧ fD s (64 * g + k) = d.toInt) ∨ (mxX7_isKnown N (Int32.ofNat g) d s = some (s, 0) ∧ ∀ k, k < F → ¬ (fN s (64 * g + k) = nv s ∧ fD s (64 * g + k) = d.toInt)) := by
  have b27 : g < aN 27 := by show g < 2; omega
  have lp : ∀ (m f k : Nat), k + m = F → m < f → (∀ j, j < k → ¬ (fN s (64 * g + j) = nv s ∧ fD s (64 * g + j) = d.toInt)) → (mxX7_isKnown_6 N f (Int32.ofNat g) d (Int32.ofNat (64 * g + k)) s = some (s, 1) ∧ ∃ k, k < F ∧ fN s (64 * g + k) = nv s ∧ fD s (64 * g + k) = d.toInt) ∨ (mxX7_isKnown_6 N f (Int32.ofNat g) d (Int32.ofNat (64 * g + k)) s = some (s, 0) ∧ ∀ k, k < F → ¬ (fN s (64 * g + k) = nv s ∧ fD s (64 * g + k) = d.toInt)) := by
    intro m
    induction m with
    | zero =>
      intro f k hk hf hl
      obtain ⟨f', rfl⟩ : ∃ f', f = f' + 1 := ⟨f - 1, by omega⟩
      have hkF : k = F := by omega
      subst hkF
      refine .inr ⟨?_, hl⟩
      rw [mxX7_isKnown_6, rA_N b27 (by decide), Option.bind_some, h27, i_64, if_pos (Int32.le_refl _)]
    | succ m ih =>
      intro f k hk hf hl
      obtain ⟨f', rfl⟩ : ∃ f', f = f' + 1 := ⟨f - 1, by omega⟩
      have ne : ¬ (Int32.ofNat (64 * g + F) ≤ Int32.ofNat (64 * g + k)) := by
        rw [i_le (by omega) (by omega)]
        omega
      have hk1 : 64 * g + k < 128 := by omega
      have q1 : (s.2.2.2 28 (64 * g + k) = s.2.1 24) = ((fN s (64 * g + k)).1 = (nv s).1) := i64_eq rfl rfl
      have q2 : (s.2.2.2 29 (64 * g + k) = s.2.1 25) = ((fN s (64 * g + k)).2.1 = (nv s).2.1) := i64_eq rfl rfl
      have q3 : (s.2.2.2 30 (64 * g + k) = s.2.1 26) = ((fN s (64 * g + k)).2.2 = (nv s).2.2) := i64_eq rfl rfl
      have q4 : (s.2.2.2 31 (64 * g + k) = d) = (fD s (64 * g + k) = d.toInt) := i64_eq rfl rfl
      rw [mxX7_isKnown_6, rA_N b27 (by decide), Option.bind_some, h27, i_64, if_neg ne, h28 hk1, Option.bind_some, h29 hk1, Option.bind_some, h30 hk1, Option.bind_some, h31 hk1, Option.bind_some]
      simp only [q1, q2, q3, q4]
      unfold mxX7_isKnown_81
      rw [i_s]
      have go := fun (hne : ¬ (fN s (64 * g + k) = nv s ∧ fD s (64 * g + k) = d.toInt)) => ih f' (k + 1) (by omega) (by omega) (by
        intro j hj
        by_cases w : j = k
        · rw [w]
          exact hne
        · exact hl j (by omega))
      by_cases c1 : (fN s (64 * g + k)).1 = (nv s).1
      · rw [if_pos c1]
        by_cases c2 : (fN s (64 * g + k)).2.1 = (nv s).2.1
        · rw [if_pos c2]
          by_cases c3 : (fN s (64 * g + k)).2.2 = (nv s).2.2
          · rw [if_pos c3]
            by_cases c4 : fD s (64 * g + k) = d.toInt
            · rw [if_pos c4]
              exact .inl ⟨rfl, k, by omega, v3_ext c1 c2 c3, c4⟩
            · rw [if_neg c4]
              exact go (fun q => c4 q.2)
          · rw [if_neg c3]
            exact go (fun q => c3 (by rw [q.1]))
        · rw [if_neg c2]
          exact go (fun q => c2 (by rw [q.1]))
      · rw [if_neg c1]
        exact go (fun q => c1 (by rw [q.1]))
  unfold mxX7_isKnown
  rw [i_64']
  exact lp F N 0 (by omega) (by omega) (fun j hj => absurd hj (by omega))
