/-- the tips of the four first rows, in order -/
def c12 (a b i : Nat) : Nat := [0, a, b, a, 0, 3, b, a, 3, 0, b, 3].getD i 0
theorem c12_21 : ∀ i, i < 12 → ∀ j, j < 12 → c12 2 1 i = c12 2 1 j → c12 2 1 (nxs i) = c12 2 1 (nxs j) → i = j := by decide
theorem c12_12 : ∀ i, i < 12 → ∀ j, j < 12 → c12 1 2 i = c12 1 2 j → c12 1 2 (nxs i) = c12 1 2 (nxs j) → i = j := by decide
theorem nxs_tk {t k : Nat} (h : k < 3) : nxs (3 * t + k) = 3 * t + (k + 1) % 3 := by
  unfold nxs
  omega
theorem r12_21 : ∀ t, t < 4 → ∀ k, k < 3 → ∃ t', t' < 4 ∧ ∃ k', k' < 3 ∧ c12 2 1 (3 * t' + k') = c12 2 1 (3 * t + (k + 1) % 3) ∧ c12 2 1 (3 * t' + (k' + 1) % 3) = c12 2 1 (3 * t + k) := by decide
theorem r12_12 : ∀ t, t < 4 → ∀ k, k < 3 → ∃ t', t' < 4 ∧ ∃ k', k' < 3 ∧ c12 1 2 (3 * t' + k') = c12 1 2 (3 * t + (k + 1) % 3) ∧ c12 1 2 (3 * t' + (k' + 1) % 3) = c12 1 2 (3 * t + k) := by decide
theorem l12_21 : ∀ i, i < 12 → c12 2 1 i < 4 := by decide
theorem l12_12 : ∀ i, i < 12 → c12 1 2 i < 4 := by decide
theorem four_c {s : cS} {a b : Nat} (h : fourR s a b) : ∀ i, i < 12 → qA s 34 i = Int32.ofNat (c12 a b i) := by
  obtain ⟨⟨a0, a1, a2⟩, ⟨b0, b1, b2⟩, ⟨c0, c1, c2⟩, ⟨d0, d1, d2⟩, -⟩ := h
  intro i hi
  match i, hi with
  | 0, _ => exact a0
  | 1, _ => exact a1
  | 2, _ => exact a2
  | 3, _ => exact b0
  | 4, _ => exact b1
  | 5, _ => exact b2
  | 6, _ => exact c0
  | 7, _ => exact c1
  | 8, _ => exact c2
  | 9, _ => exact d0
  | 10, _ => exact d1
  | 11, _ => exact d2
/-- the four first rows are a convex skin -/
theorem CV_four {s : cS} {a b : Nat} (sk : SK s 4 4) (f : fourR s a b) (o : (a = 2 ∧ b = 1 ∧ 0 ≤ bx4 s) ∨ (a = 1 ∧ b = 2 ∧ bx4 s < 0)) (nz : bx4 s ≠ 0) : CV s 4 4 := by
  have fc := four_c f
  have gen : (∀ i, i < 12 → ∀ j, j < 12 → c12 a b i = c12 a b j → c12 a b (nxs i) = c12 a b (nxs j) → i = j) → (∀ t, t < 4 → ∀ k, k < 3 → ∃ t', t' < 4 ∧ ∃ k', k' < 3 ∧ c12 a b (3 * t' + k') = c12 a b (3 * t + (k + 1) % 3) ∧ c12 a b (3 * t' + (k' + 1) % 3) = c12 a b (3 * t + k)) → (∀ i, i < 12 → c12 a b i < 4) → (∀ t, t < 4 → tN s t ≠ v0 ∧ ∀ j, j < 4 → vd (tN s t) (pc s 30 j) ≤ tD s t) → CV s 4 4 := by
    intro g1 g2 g3 g4
    refine ⟨by omega, nz, fun t ht => (g4 t ht).1, fun t k t' k' ht ht' hk hk' e1 e2 => ?_, fun t k ht hk => ?_, fun t ht => (g4 t ht).2⟩
    · rw [fc _ (by omega), fc _ (by omega)] at e1 e2
      have x1 := i_inj (by have := g3 (3 * t + k) (by omega); omega) (by have := g3 (3 * t' + k') (by omega); omega) e1
      have x2 := i_inj (by have := g3 (3 * t + (k + 1) % 3) (by omega); omega) (by have := g3 (3 * t' + (k' + 1) % 3) (by omega); omega) e2
      have := g1 (3 * t + k) (by omega) (3 * t' + k') (by omega) x1 (by rw [nxs_tk hk, nxs_tk hk']; exact x2)
      omega
    · obtain ⟨t', ht', k', hk', x1, x2⟩ := g2 t ht k hk
      refine ⟨t', k', ht', hk', ?_, ?_⟩
      · rw [fc _ (by omega), fc _ (by omega), x1]
      · rw [fc _ (by omega), fc _ (by omega), x2]
  have four : ∀ {P : Nat → Prop}, P 0 → P 1 → P 2 → P 3 → ∀ j, j < 4 → P j := fun p0 p1 p2 p3 j hj => by
    match j, hj with
    | 0, _ => exact p0
    | 1, _ => exact p1
    | 2, _ => exact p2
    | 3, _ => exact p3
  obtain ⟨f0, f1, f2, f3, -⟩ := f
  rcases o with ⟨rfl, rfl, o⟩ | ⟨rfl, rfl, o⟩
  · have bp : 0 < bx4 s := by omega
    unfold bx4 at bp
    refine gen c12_21 r12_21 l12_21 (four ?_ ?_ ?_ ?_)
    · obtain ⟨n, x0, x1, x2, x3⟩ := row4 (x := 3) sk (by omega) f0 (by omega) (by omega) (by omega) (by rw [bxs]; omega)
      exact ⟨n, four x0 x2 x1 x3⟩
    · obtain ⟨n, x0, x1, x2, x3⟩ := row4 (x := 1) sk (by omega) f1 (by omega) (by omega) (by omega) (by rw [bx_sh, trc]; omega)
      exact ⟨n, four x1 x3 x0 x2⟩
    · obtain ⟨n, x0, x1, x2, x3⟩ := row4 (x := 0) sk (by omega) f2 (by omega) (by omega) (by omega) (by have := bx_sh (pc s 30 0) (pc s 30 1) (pc s 30 2) (pc s 30 3); omega)
      exact ⟨n, four x3 x0 x1 x2⟩
    · obtain ⟨n, x0, x1, x2, x3⟩ := row4 (x := 2) sk (by omega) f3 (by omega) (by omega) (by omega) (by rw [tr23]; omega)
      exact ⟨n, four x0 x1 x3 x2⟩
  · unfold bx4 at o
    refine gen c12_12 r12_12 l12_12 (four ?_ ?_ ?_ ?_)
    · obtain ⟨n, x0, x1, x2, x3⟩ := row4 (x := 3) sk (by omega) f0 (by omega) (by omega) (by omega) (by omega)
      exact ⟨n, four x0 x1 x2 x3⟩
    · obtain ⟨n, x0, x1, x2, x3⟩ := row4 (x := 2) sk (by omega) f1 (by omega) (by omega) (by omega) (by rw [bx_sh, tr13]; omega)
      exact ⟨n, four x1 x0 x3 x2⟩
    · obtain ⟨n, x0, x1, x2, x3⟩ := row4 (x := 0) sk (by omega) f2 (by omega) (by omega) (by omega) (by have := bx_sh (pc s 30 0) (pc s 30 2) (pc s 30 1) (pc s 30 3); rw [bxs] at this; omega)
      exact ⟨n, four x3 x1 x0 x2⟩
    · obtain ⟨n, x0, x1, x2, x3⟩ := row4 (x := 1) sk (by omega) f3 (by omega) (by omega) (by omega) (by rw [← trc]; omega)
      exact ⟨n, four x0 x3 x1 x2⟩
