/-- a plane that bounds four points that span space does not hold all of them -/
theorem full4 {s : cS} {n : V3} {d : Int} (hb : bx4 s ≠ 0) (hn : n ≠ v0) (le : ∀ j, j < 4 → vd n (pc s 30 j) ≤ d) : ∃ j, j < 4 ∧ vd n (pc s 30 j) < d := by
  apply Classical.byContradiction
  intro no
  have eq : ∀ j, j < 4 → vd n (pc s 30 j) = d := fun j hj => by
    have h1 := le j hj
    have h2 : ¬ vd n (pc s 30 j) < d := fun w => no ⟨j, hj, w⟩
    omega
  obtain ⟨x, hx⟩ := nz_dot hn
  have c := cram (vs (pc s 30 1) (pc s 30 0)) (vs (pc s 30 2) (pc s 30 0)) (vs (pc s 30 3) (pc s 30 0)) x n
  have z1 : vd n (vs (pc s 30 1) (pc s 30 0)) = 0 := by
    rw [vd_vs', eq 1 (by omega), eq 0 (by omega)]
    omega
  have z2 : vd n (vs (pc s 30 2) (pc s 30 0)) = 0 := by
    rw [vd_vs', eq 2 (by omega), eq 0 (by omega)]
    omega
  have z3 : vd n (vs (pc s 30 3) (pc s 30 0)) = 0 := by
    rw [vd_vs', eq 3 (by omega), eq 0 (by omega)]
    omega
  rw [z1, z2, z3, Int.mul_zero, Int.mul_zero, Int.mul_zero] at c
  have c' : bx4 s * vd n x = 0 := by
    unfold bx4
    omega
  rcases Int.mul_eq_zero.mp c' with w | w
  · exact hb w
  · exact hx w
/-- the convex skin: every directed side stands once, its reverse too; every row bounds every knot; the first four knots span space -/
def CV (s : cS) (K T : Nat) : Prop := 4 ≤ K ∧ bx4 s ≠ 0 ∧ (∀ t, t < T → tN s t ≠ v0) ∧ (∀ t k t' k', t < T → t' < T → k < 3 → k' < 3 → qA s 34 (3 * t + k) = qA s 34 (3 * t' + k') → qA s 34 (3 * t + (k + 1) % 3) = qA s 34 (3 * t' + (k' + 1) % 3) → t = t' ∧ k = k') ∧ (∀ t k, t < T → k < 3 → ∃ t' k', t' < T ∧ k' < 3 ∧ qA s 34 (3 * t' + k') = qA s 34 (3 * t + (k + 1) % 3) ∧ qA s 34 (3 * t' + (k' + 1) % 3) = qA s 34 (3 * t + k)) ∧ (∀ t, t < T → ∀ j, j < K → vd (tN s t) (pc s 30 j) ≤ tD s t)
theorem CV_inn {s : cS} {K T t : Nat} (h : CV s K T) (ht : t < T) : ∃ j, j < K ∧ vd (tN s t) (pc s 30 j) < tD s t := by
  obtain ⟨h1, h2, h3, -, -, h6⟩ := h
  obtain ⟨j, hj, l⟩ := full4 h2 (h3 t ht) (fun j hj => h6 t ht j (by omega))
  exact ⟨j, by omega, l⟩
theorem CV_keep {s s' : cS} {K T : Nat} (h : CV s K T) (e4 : qA s' 34 = qA s 34) (e5 : qA s' 35 = qA s 35) (pe : ∀ j, j < K → pc s' 30 j = pc s 30 j) : CV s' K T := by
  obtain ⟨h1, h2, h3, h4, h5, h6⟩ := h
  have tn : ∀ t, tN s' t = tN s t := fun t => by
    unfold tN
    rw [e5]
  have td : ∀ t, tD s' t = tD s t := fun t => by
    unfold tD
    rw [e5]
  refine ⟨h1, ?_, fun t ht => by rw [tn]; exact h3 t ht, ?_, ?_, fun t ht j hj => by rw [tn, td, pe j hj]; exact h6 t ht j hj⟩
  · unfold bx4
    rw [pe 0 (by omega), pe 1 (by omega), pe 2 (by omega), pe 3 (by omega)]
    exact h2
  · rw [e4]
    exact h4
  · rw [e4]
    exact h5
