/-- how many knots lie lower -/
def rk (P : Nat → V3) (h : V3) (K i : Nat) : Nat := sm (fun j => if vd h (P j) < vd h (P i) then 1 else 0) K
theorem rk_lt {P : Nat → V3} {h : V3} {K i j : Nat} (hi : i < K) (l : vd h (P i) < vd h (P j)) : rk P h K i + 1 ≤ rk P h K j := by
  have q := sm_le (f := fun x => (if vd h (P x) < vd h (P i) then 1 else 0) + dl i x) (g := fun x => if vd h (P x) < vd h (P j) then 1 else 0) K (fun k hk => by
    show (if vd h (P k) < vd h (P i) then 1 else 0) + dl i k ≤ (if vd h (P k) < vd h (P j) then 1 else 0)
    unfold dl
    by_cases c : k = i
    · rw [c, if_neg (by omega), if_pos rfl, if_pos l]
      omega
    · rw [if_neg c]
      by_cases d : vd h (P k) < vd h (P i)
      · rw [if_pos d, if_pos (by omega)]
        omega
      · rw [if_neg d]
        omega)
  rw [sm_add, sm_dl, if_pos hi] at q
  exact q
theorem rk_K {P : Nat → V3} {h : V3} {K i : Nat} (hi : i < K) : rk P h K i + 1 ≤ K := by
  have q := sm_le (f := fun x => (if vd h (P x) < vd h (P i) then 1 else 0) + dl i x) (g := fun _ => 1) K (fun k hk => by
    show (if vd h (P k) < vd h (P i) then 1 else 0) + dl i k ≤ 1
    unfold dl
    by_cases c : k = i
    · rw [c, if_neg (by omega), if_pos rfl]
      omega
    · rw [if_neg c]
      by_cases d : vd h (P k) < vd h (P i)
      · rw [if_pos d]
        omega
      · rw [if_neg d]
        omega)
  rw [sm_add, sm_dl, if_pos hi, sm_c] at q
  have : rk P h K i = sm (fun x => if vd h (P x) < vd h (P i) then 1 else 0) K := rfl
  omega
theorem neg_d (h x : V3) : vd (vs v0 h) x = - vd h x := by
  show (0 - h.1) * x.1 + (0 - h.2.1) * x.2.1 + (0 - h.2.2) * x.2.2 = -(h.1 * x.1 + h.2.1 * x.2.1 + h.2.2 * x.2.2)
  rw [Int.zero_sub, Int.zero_sub, Int.zero_sub, Int.neg_mul, Int.neg_mul, Int.neg_mul]
  omega
/-- a skin of K knots has at most 2 (K - 2) rows -/
theorem SB_le {P : Nat → V3} {K T : Nat} {a : Nat → Nat} (sb : SB P K T a) {h : V3} (hd : ∀ i j, i < K → j < K → vd h (P i) = vd h (P j) → i = j) : T ≤ 2 * (K - 2) := by
  have mid : ∀ t, t < T → ∃ i, i < 3 * T ∧ i / 3 = t ∧ (ris P a h i ∨ ris P a (vs v0 h) i) := by
    intro t ht
    have n0 := tip_ne sb (show 3 * t < 3 * T by omega)
    have n1 := tip_ne sb (show 3 * t + 1 < 3 * T by omega)
    have n2 := tip_ne sb (show 3 * t + 2 < 3 * T by omega)
    rw [nx_0] at n0
    rw [nx_1] at n1
    rw [nx_2] at n2
    have d0 : vd h (P (a (3 * t))) ≠ vd h (P (a (3 * t + 1))) := fun e => n0 (congrArg P (hd _ _ (sb.1 _ (by omega)) (sb.1 _ (by omega)) e))
    have d1 : vd h (P (a (3 * t + 1))) ≠ vd h (P (a (3 * t + 2))) := fun e => n1 (congrArg P (hd _ _ (sb.1 _ (by omega)) (sb.1 _ (by omega)) e))
    have d2 : vd h (P (a (3 * t + 2))) ≠ vd h (P (a (3 * t))) := fun e => n2 (congrArg P (hd _ _ (sb.1 _ (by omega)) (sb.1 _ (by omega)) e))
    have r : ∀ i, ris P a (vs v0 h) i ↔ (vd h (P (a i)) < vd h (P (a (nxs (nxs i)))) ∧ vd h (P (a (nxs i))) < vd h (P (a i))) := fun i => by
      unfold ris
      rw [neg_d, neg_d, neg_d]
      omega
    have r' : ∀ i, ris P a h i ↔ (vd h (P (a (nxs (nxs i)))) < vd h (P (a i)) ∧ vd h (P (a i)) < vd h (P (a (nxs i)))) := fun i => Iff.rfl
    have c : ((vd h (P (a (3 * t + 2))) < vd h (P (a (3 * t))) ∧ vd h (P (a (3 * t))) < vd h (P (a (3 * t + 1)))) ∨ (vd h (P (a (3 * t))) < vd h (P (a (3 * t + 2))) ∧ vd h (P (a (3 * t + 1))) < vd h (P (a (3 * t))))) ∨ ((vd h (P (a (3 * t))) < vd h (P (a (3 * t + 1))) ∧ vd h (P (a (3 * t + 1))) < vd h (P (a (3 * t + 2)))) ∨ (vd h (P (a (3 * t + 1))) < vd h (P (a (3 * t))) ∧ vd h (P (a (3 * t + 2))) < vd h (P (a (3 * t + 1))))) ∨ ((vd h (P (a (3 * t + 1))) < vd h (P (a (3 * t + 2))) ∧ vd h (P (a (3 * t + 2))) < vd h (P (a (3 * t)))) ∨ (vd h (P (a (3 * t + 2))) < vd h (P (a (3 * t + 1))) ∧ vd h (P (a (3 * t))) < vd h (P (a (3 * t + 2))))) := by omega
    rcases c with c | c | c
    · refine ⟨3 * t, by omega, by omega, ?_⟩
      rw [r, r', nx_0, nx_1]
      exact c
    · refine ⟨3 * t + 1, by omega, by omega, ?_⟩
      rw [r, r', nx_1, nx_2]
      exact c
    · refine ⟨3 * t + 2, by omega, by omega, ?_⟩
      rw [r, r', nx_2, nx_0]
      exact c
  classical
  have ch : ∃ m : Nat → Nat, ∀ t, t < T → m t < 3 * T ∧ m t / 3 = t ∧ (ris P a h (m t) ∨ ris P a (vs v0 h) (m t)) := by
    refine ⟨fun t => if h : t < T then Classical.choose (mid t h) else 0, fun t ht => ?_⟩
    show (if h : t < T then Classical.choose (mid t h) else 0) < 3 * T ∧ (if h : t < T then Classical.choose (mid t h) else 0) / 3 = t ∧ (ris P a h (if h : t < T then Classical.choose (mid t h) else 0) ∨ ris P a (vs v0 h) (if h : t < T then Classical.choose (mid t h) else 0))
    rw [dif_pos ht]
    exact Classical.choose_spec (mid t ht)
  obtain ⟨m, hm⟩ := ch
  have rkm : ∀ t, t < T → 1 ≤ rk P h K (a (m t)) ∧ rk P h K (a (m t)) + 2 ≤ K := by
    intro t ht
    obtain ⟨m1, -, m3⟩ := hm t ht
    have l0 := sb.1 _ m1
    have l1 := sb.1 _ (nxs_lt m1)
    have l2 := sb.1 _ (nxs_lt (nxs_lt m1))
    rcases m3 with w | w
    · have x1 := rk_lt (K := K) l2 w.1
      have x2 := rk_lt (K := K) l0 w.2
      have x3 := rk_K (P := P) (h := h) l1
      omega
    · unfold ris at w
      rw [neg_d, neg_d, neg_d] at w
      have x1 := rk_lt (P := P) (h := h) (K := K) (i := a (m t)) (j := a (nxs (nxs (m t)))) l0 (by omega)
      have x2 := rk_lt (P := P) (h := h) (K := K) (i := a (nxs (m t))) (j := a (m t)) l1 (by omega)
      have x3 := rk_K (P := P) (h := h) l2
      omega
  have inj : ∀ t t', t < T → t' < T → rk P h K (a (m t)) = rk P h K (a (m t')) → a (m t) = a (m t') := by
    intro t t' ht ht' e
    have l := sb.1 _ (hm t ht).1
    have l' := sb.1 _ (hm t' ht').1
    refine hd _ _ l l' ?_
    by_cases c : vd h (P (a (m t))) < vd h (P (a (m t')))
    · have := rk_lt (K := K) l c
      omega
    · by_cases c' : vd h (P (a (m t'))) < vd h (P (a (m t)))
      · have := rk_lt (K := K) l' c'
        omega
      · omega
  refine pigeon2 (K - 2) T (fun t => rk P h K (a (m t)) - 1) (fun t ht => ?_) (fun i j k hij hjk hk e1 e2 => ?_)
  · have := rkm t ht
    show rk P h K (a (m t)) - 1 < K - 2
    omega
  · have ri := rkm i (by omega)
    have rj := rkm j (by omega)
    have rr := rkm k hk
    have e1' : rk P h K (a (m i)) - 1 = rk P h K (a (m j)) - 1 := e1
    have e2' : rk P h K (a (m j)) - 1 = rk P h K (a (m k)) - 1 := e2
    have f1 := inj i j (by omega) (by omega) (by omega)
    have f2 := inj j k (by omega) hk (by omega)
    have f3 := f1.trans f2
    obtain ⟨i1, i2, i3⟩ := hm i (by omega)
    obtain ⟨j1, j2, j3⟩ := hm j (by omega)
    obtain ⟨k1, k2, k3⟩ := hm k hk
    rcases i3 with i3 | i3
    · rcases j3 with j3 | j3
      · have := sb.2.2.2 h _ _ i1 j1 f1 i3 j3
        rw [this] at i2
        omega
      · rcases k3 with k3 | k3
        · have := sb.2.2.2 h _ _ i1 k1 f3 i3 k3
          rw [this] at i2
          omega
        · have := sb.2.2.2 _ _ _ j1 k1 f2 j3 k3
          rw [this] at j2
          omega
    · rcases j3 with j3 | j3
      · rcases k3 with k3 | k3
        · have := sb.2.2.2 h _ _ j1 k1 f2 j3 k3
          rw [this] at j2
          omega
        · have := sb.2.2.2 _ _ _ i1 k1 f3 i3 k3
          rw [this] at i2
          omega
      · have := sb.2.2.2 _ _ _ i1 j1 f1 i3 j3
        rw [this] at i2
        omega
