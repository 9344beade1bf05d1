/-- sums of finitely many -/
def sm (f : Nat → Nat) : Nat → Nat
  | 0 => 0
  | n + 1 => sm f n + f n
theorem sm_add (f g : Nat → Nat) : ∀ n, sm (fun k => f k + g k) n = sm f n + sm g n := by
  intro n
  induction n with
  | zero => rfl
  | succ n ih =>
    show sm (fun k => f k + g k) n + (f n + g n) = (sm f n + f n) + (sm g n + g n)
    rw [ih]
    omega
theorem sm_le {f g : Nat → Nat} : ∀ n, (∀ k, k < n → f k ≤ g k) → sm f n ≤ sm g n := by
  intro n
  induction n with
  | zero =>
    intro _
    exact Nat.le_refl _
  | succ n ih =>
    intro h
    have h1 := ih (fun k hk => h k (by omega))
    have h2 := h n (by omega)
    show sm f n + f n ≤ sm g n + g n
    omega
theorem sm_c (c : Nat) : ∀ n, sm (fun _ => c) n = c * n := by
  intro n
  induction n with
  | zero => rfl
  | succ n ih =>
    show sm (fun _ => c) n + c = c * (n + 1)
    rw [ih, Nat.mul_succ]
theorem sm_swap (b : Nat → Nat → Nat) (m : Nat) : ∀ F, sm (fun f => sm (fun x => b f x) m) F = sm (fun x => sm (fun f => b f x) F) m := by
  intro F
  induction F with
  | zero =>
    show 0 = sm (fun x => 0) m
    rw [sm_c]
    omega
  | succ F ih =>
    show sm (fun f => sm (fun x => b f x) m) F + sm (fun x => b F x) m = sm (fun x => sm (fun f => b f x) F + b F x) m
    rw [ih, sm_add]
theorem sm_mono (b : Nat → Nat) {x y : Nat} (h : x ≤ y) : sm b x ≤ sm b y := by
  induction y with
  | zero =>
    have : x = 0 := by omega
    rw [this]
    exact Nat.le_refl _
  | succ y ih =>
    by_cases w : x = y + 1
    · rw [w]
      exact Nat.le_refl _
    · have := ih (by omega)
      show sm b x ≤ sm b y + b y
      omega
/-- as many as there are different ones -/
theorem sm_inj {b : Nat → Nat} {m a : Nat} {v : Nat → Nat} (hv : ∀ t, t < a → v t < m ∧ 1 ≤ b (v t)) (hd : ∀ i j, i < j → j < a → v i ≠ v j) : a ≤ sm b m := by
  have st : ∀ x y, x < y → 1 ≤ b x → sm b x < sm b y := by
    intro x y hxy hb
    have h1 : sm b (x + 1) ≤ sm b y := sm_mono b hxy
    have h2 : sm b (x + 1) = sm b x + b x := rfl
    omega
  refine pigeon (sm b m) a (fun t => sm b (v t)) (fun t ht => st _ _ (hv t ht).1 (hv t ht).2) ?_
  intro i j hij hj
  have h1 := hd i j hij hj
  by_cases c : v i < v j
  · have := st _ _ c (hv i (by omega)).2
    show sm b (v i) ≠ sm b (v j)
    omega
  · have := st (v j) (v i) (by omega) (hv j hj).2
    show sm b (v i) ≠ sm b (v j)
    omega
/-- at most two, if there are no three -/
theorem sm_two {b : Nat → Nat} {F : Nat} (h1 : ∀ f, b f ≤ 1) (h3 : ∀ i j k, i < j → j < k → k < F → b i = 1 → b j = 1 → b k = 1 → False) : sm b F ≤ 2 := by
  have key : ∀ n, (1 ≤ sm b n → ∃ i, i < n ∧ b i = 1) ∧ (2 ≤ sm b n → ∃ i j, i < j ∧ j < n ∧ b i = 1 ∧ b j = 1) ∧ (3 ≤ sm b n → ∃ i j k, i < j ∧ j < k ∧ k < n ∧ b i = 1 ∧ b j = 1 ∧ b k = 1) := by
    intro n
    induction n with
    | zero =>
      have : sm b 0 = 0 := rfl
      refine ⟨fun h => ?_, fun h => ?_, fun h => ?_⟩ <;> omega
    | succ n ih =>
      obtain ⟨i1, i2, i3⟩ := ih
      have e : sm b (n + 1) = sm b n + b n := rfl
      have hb := h1 n
      refine ⟨fun h => ?_, fun h => ?_, fun h => ?_⟩
      · by_cases c : b n = 1
        · exact ⟨n, by omega, c⟩
        · obtain ⟨i, a1, a2⟩ := i1 (by omega)
          exact ⟨i, by omega, a2⟩
      · by_cases c : b n = 1
        · obtain ⟨i, a1, a2⟩ := i1 (by omega)
          exact ⟨i, n, a1, by omega, a2, c⟩
        · obtain ⟨i, j, a1, a2, a3, a4⟩ := i2 (by omega)
          exact ⟨i, j, a1, by omega, a3, a4⟩
      · by_cases c : b n = 1
        · obtain ⟨i, j, a1, a2, a3, a4⟩ := i2 (by omega)
          exact ⟨i, j, n, a1, a2, by omega, a3, a4, c⟩
        · obtain ⟨i, j, k, a1, a2, a3, a4, a5, a6⟩ := i3 (by omega)
          exact ⟨i, j, k, a1, a2, by omega, a4, a5, a6⟩
  by_cases c : 3 ≤ sm b F
  · obtain ⟨i, j, k, a1, a2, a3, a4, a5, a6⟩ := (key F).2.2 c
    exact absurd (h3 i j k a1 a2 a3 a4 a5 a6) (fun h => h)
  · omega
/-- one that is farthest along some way isn't between two others -/
theorem mid_off {w : V3} {P : Nat → V3} {m a x b : Nat} (ho : inOrd w P m) (hax : a < x) (hxb : x < b) (hb : b < m) (hex : ex P m x) : vx (vs (P x) (P a)) (vs (P b) (P a)) ≠ v0 := by
  intro par
  obtain ⟨u, hu⟩ := hex
  have u1 := hu a (by omega) (by omega)
  have u2 := hu b hb (by omega)
  have w1 := ho a x hax (by omega)
  have w2 := ho x b hxb hb
  have A1 := along_u w par
  have A2 := along_u u par
  have ene : vs (P b) (P a) ≠ v0 := by
    intro e
    have := ho a b (by omega) hb
    rw [e] at this
    simp [vd, v0] at this
  have E0 := vd_pos ene
  rw [vd_vs] at w1 w2
  rw [vd_vs w, vd_vs w] at A1
  rw [vd_vs u, vd_vs u] at A2
  generalize vd (vs (P b) (P a)) (vs (P b) (P a)) = E at *
  generalize vd (vs (P x) (P a)) (vs (P b) (P a)) = Y at *
  have t1 : E * (vd w (P x) - vd w (P a)) < E * (vd w (P b) - vd w (P a)) := Int.mul_lt_mul_of_pos_left (by omega) E0
  have t2 : 0 < E * (vd w (P x) - vd w (P a)) := Int.mul_pos E0 (by omega)
  have Yp : 0 < Y := by
    by_cases c : 0 < Y
    · exact c
    · have : Y * (vd w (P b) - vd w (P a)) ≤ 0 := Int.mul_nonpos_of_nonpos_of_nonneg (by omega) (by omega)
      omega
  have YE : Y < E := by
    by_cases c : Y < E
    · exact c
    · have : E * (vd w (P b) - vd w (P a)) ≤ Y * (vd w (P b) - vd w (P a)) := Int.mul_le_mul_of_nonneg_right (by omega) (by omega)
      omega
  have t3 : 0 < E * (vd u (P x) - vd u (P a)) := Int.mul_pos E0 (by omega)
  have ub : 0 < vd u (P b) - vd u (P a) := by
    refine pos_of_mul Yp ?_
    omega
  have t4 : Y * (vd u (P b) - vd u (P a)) < E * (vd u (P b) - vd u (P a)) := Int.mul_lt_mul_of_pos_right YE ub
  have t5 : E * (vd u (P b) - vd u (P a)) < E * (vd u (P x) - vd u (P a)) := Int.mul_lt_mul_of_pos_left (by omega) E0
  omega
