theorem ahd_tr {a b c : V3} {x y z : Int} (h : ahd a x b y) (g : ahd b y c z) : ahd a x c z := by
  unfold ahd at *
  omega
theorem ahd_tri {a b : V3} {x y : Int} (h : ¬ ahd a x b y) (g : ¬ (a = b ∧ x = y)) : ahd b y a x := by
  unfold ahd at *
  by_cases c : a.1 = b.1 ∧ a.2.1 = b.2.1 ∧ a.2.2 = b.2.2
  · have e : a = b := v3_ext c.1 c.2.1 c.2.2
    have : ¬ (x = y) := fun q => g ⟨e, q⟩
    omega
  · omega
theorem ahd_ir {a : V3} {x : Int} : ¬ ahd a x a x := by
  unfold ahd
  omega
/-- the RING of a bounding plane: a walk round those of its points that are farthest along some way -/
def rgF (P : Nat → V3) (n : Nat) (m : V3) (d : Int) (r : Nat) (ρ : Nat → Nat) : Prop := ∃ (c : Nat) (l g : Nat → Nat), c ≤ n ∧ (∀ j, j < c → l j < n ∧ vd m (P (l j)) = d) ∧ (∀ i j, i < j → j < c → l i < l j) ∧ (∀ i, i < n → vd m (P i) = d → ∃ j, j < c ∧ l j = i) ∧ 1 ≤ r ∧ r ≤ c ∧ g 0 = 0 ∧ (∀ j, j < r → ρ j = l (g j) ∧ g j < c ∧ ex (fun k => P (l k)) c (g j)) ∧ (∀ i j, i < j → j < r → g i ≠ g j) ∧ (∀ j, j < r → nx1 m (fun k => P (l k)) (g j) (g (j + 1)) (fun k => k < c)) ∧ g r = 0
/-- a row of the table tells a bounding plane and its RING -/
def rowO (P : Nat → V3) (n : Nat) (s : mS) (k : Nat) : Prop := fc P n (fN s k) (fD s k) ∧ bd3 (fN s k) 320000 ∧ ∃ (r : Nat) (ρ : Nat → Nat), r ≤ 25 ∧ s.2.2.1 32 k = Int32.ofNat r ∧ (∀ j, j < r → fQ s k j = Int32.ofNat (ρ j)) ∧ rgF P n (fN s k) (fD s k) r ρ
theorem rowO_E {P : Nat → V3} {n : Nat} {s s' : mS} {k k' : Nat} (h : rowO P n s k) (e : rwE s' k' s k) : rowO P n s' k' := by
  obtain ⟨h1, h2, r, ρ, hr, h3, h4, h5⟩ := h
  obtain ⟨e1, e2, e3, e4⟩ := e
  refine ⟨by rw [e1, e2]; exact h1, by rw [e1]; exact h2, r, ρ, hr, by rw [e3]; exact h3, fun j hj => ?_, by rw [e1, e2]; exact h5⟩
  rw [e4 j (by omega)]
  exact h4 j hj
/-- the table of the FACES of n points: F rows in order -/
def tbO (P : Nat → V3) (n : Nat) (s : mS) (g F : Nat) : Prop := s.2.2.1 27 g = Int32.ofNat F ∧ (∀ k, k < F → rowO P n s (64 * g + k)) ∧ ∀ i j, i < j → j < F → ahd (fN s (64 * g + i)) (fD s (64 * g + i)) (fN s (64 * g + j)) (fD s (64 * g + j))
theorem tbO_le {P : Nat → V3} {n : Nat} {s : mS} {g F : Nat} (ho : inOrd wO P n) (hf : full P n) (h : tbO P n s g F) : F ≤ 2 * (n - 2) := by
  refine faces_le (nf := fun k => fN s (64 * g + k)) (df := fun k => fD s (64 * g + k)) wO_pos ho hf (fun k hk => (h.2.1 k hk).1) ?_
  intro i j hij hj e
  have a := h.2.2 i j hij hj
  have e1 : fN s (64 * g + j) = fN s (64 * g + i) := e.1
  have e2 : fD s (64 * g + j) = fD s (64 * g + i) := e.2
  rw [e1, e2] at a
  exact ahd_ir a
/-- a new FACE in the table -/
theorem tbO_new {P : Nat → V3} {n g F p r : Nat} {d : Int} {s s' : mS} (hg : g < 2) (hF : F < 64) (hr25 : r ≤ 25) (h : tbO P n s g F) (hp : p ≤ F) (hlo : ∀ j, j < p → ahd (fN s (64 * g + j)) (fD s (64 * g + j)) (nv s) d) (hhi : p < F → ¬ ahd (fN s (64 * g + p)) (fD s (64 * g + p)) (nv s) d) (hI : fcI s s' g (64 * g + p) (64 * g + F) r d) (hk : ∀ k, k < F → ¬ (fN s (64 * g + k) = nv s ∧ fD s (64 * g + k) = d)) (hfc : fc P n (nv s) d) (hb : bd3 (nv s) 320000) {ρ : Nat → Nat} (h22 : ∀ j, j < r → s.2.2.1 22 j = Int32.ofNat (ρ j)) (hrg : rgF P n (nv s) d r ρ) : tbO P n s' g (F + 1) ∧ (∀ k, k < F → ∃ k', k' < F + 1 ∧ fN s' (64 * g + k') = fN s (64 * g + k) ∧ fD s' (64 * g + k') = fD s (64 * g + k)) ∧ ∃ k', k' < F + 1 ∧ fN s' (64 * g + k') = nv s ∧ fD s' (64 * g + k') = d := by
  obtain ⟨sm, ilo, ⟨i1, i2, i3, i4⟩, imid, ihi, i27⟩ := hI
  obtain ⟨t27, trow, tord⟩ := h
  have gt : ∀ k, p ≤ k → k < F → ahd (nv s) d (fN s (64 * g + k)) (fD s (64 * g + k)) := by
    intro k h1 h2
    have a := ahd_tri (hhi (by omega)) (hk p (by omega))
    by_cases w : k = p
    · rw [w]
      exact a
    · exact ahd_tr a (tord p k (by omega) h2)
  have rlo : ∀ k, k < p → rwE s' (64 * g + k) s (64 * g + k) := fun k hk => ilo _ (by omega)
  have rhi : ∀ k, p < k → k ≤ F → rwE s' (64 * g + k) s (64 * g + (k - 1)) := by
    intro k h1 h2
    have := imid (64 * g + k) (by omega) (by omega)
    rw [show 64 * g + k - 1 = 64 * g + (k - 1) by omega] at this
    exact this
  refine ⟨⟨?_, ?_, ?_⟩, ?_, ⟨p, by omega, i1, i2⟩⟩
  · rw [i27 g hg, if_pos rfl, t27, i_s]
  · intro k hk'
    by_cases w1 : k < p
    · exact rowO_E (trow k (by omega)) (rlo k w1)
    · by_cases w2 : k = p
      · rw [w2]
        refine ⟨by rw [i1, i2]; exact hfc, by rw [i1]; exact hb, r, ρ, hr25, i3, fun j hj => by rw [i4 j hj]; exact h22 j hj, by rw [i1, i2]; exact hrg⟩
      · exact rowO_E (trow (k - 1) (by omega)) (rhi k (by omega) (by omega))
  · intro i j hij hj
    by_cases w1 : j < p
    · rw [(rlo j w1).1, (rlo j w1).2.1, (rlo i (by omega)).1, (rlo i (by omega)).2.1]
      exact tord i j hij (by omega)
    · by_cases w2 : j = p
      · rw [w2, i1, i2, (rlo i (by omega)).1, (rlo i (by omega)).2.1]
        exact hlo i (by omega)
      · rw [(rhi j (by omega) (by omega)).1, (rhi j (by omega) (by omega)).2.1]
        by_cases w3 : i < p
        · rw [(rlo i w3).1, (rlo i w3).2.1]
          exact tord i (j - 1) (by omega) (by omega)
        · by_cases w4 : i = p
          · rw [w4, i1, i2]
            exact gt (j - 1) (by omega) (by omega)
          · rw [(rhi i (by omega) (by omega)).1, (rhi i (by omega) (by omega)).2.1]
            exact tord (i - 1) (j - 1) (by omega) (by omega)
  · intro k hk'
    by_cases w : k < p
    · exact ⟨k, by omega, (rlo k w).1, (rlo k w).2.1⟩
    · have q := rhi (k + 1) (by omega) (by omega)
      rw [Nat.add_sub_cancel] at q
      exact ⟨k + 1, by omega, q.1, q.2.1⟩
/-- what planes may change, for the table g -/
def smP (g : Nat) (s s' : mS) : Prop := (∀ k, ¬ k = 21 → ¬ k = 23 → s'.1 k = s.1 k) ∧ (∀ k, ¬ k = 24 → ¬ k = 25 → ¬ k = 26 → s'.2.1 k = s.2.1 k) ∧ (∀ k, ¬ k = 19 → ¬ k = 20 → ¬ k = 22 → ¬ k = 27 → ¬ k = 32 → ¬ k = 33 → s'.2.2.1 k = s.2.2.1 k) ∧ (∀ k, ¬ k = 28 → ¬ k = 29 → ¬ k = 30 → ¬ k = 31 → s'.2.2.2 k = s.2.2.2 k) ∧ (∀ k, k < 128 → k < 64 * g ∨ 64 * g + 64 ≤ k → rwE s' k s k) ∧ ∀ j, j < 2 → ¬ j = g → s'.2.2.1 27 j = s.2.2.1 27 j
theorem smP.rf {g : Nat} {s : mS} : smP g s s := ⟨fun _ _ _ => rfl, fun _ _ _ _ => rfl, fun _ _ _ _ _ _ _ => rfl, fun _ _ _ _ _ => rfl, fun _ _ _ => rwE.rf, fun _ _ _ => rfl⟩
theorem smP.tr {g : Nat} {a b c : mS} (h : smP g a b) (k : smP g b c) : smP g a c := ⟨fun i q1 q2 => (k.1 i q1 q2).trans (h.1 i q1 q2), fun i q1 q2 q3 => (k.2.1 i q1 q2 q3).trans (h.2.1 i q1 q2 q3), fun i q1 q2 q3 q4 q5 q6 => (k.2.2.1 i q1 q2 q3 q4 q5 q6).trans (h.2.2.1 i q1 q2 q3 q4 q5 q6), fun i q1 q2 q3 q4 => (k.2.2.2.1 i q1 q2 q3 q4).trans (h.2.2.2.1 i q1 q2 q3 q4), fun i q1 q2 => (k.2.2.2.2.1 i q1 q2).tr (h.2.2.2.2.1 i q1 q2), fun i q1 q2 => (k.2.2.2.2.2 i q1 q2).trans (h.2.2.2.2.2 i q1 q2)⟩
theorem smP_hp {g : Nat} {s s' : mS} (h : smP g s s') : hp s' = hp s := by
  funext k
  unfold hp
  rw [h.2.2.2.1 16 (by decide) (by decide) (by decide) (by decide), h.2.2.2.1 17 (by decide) (by decide) (by decide) (by decide), h.2.2.2.1 18 (by decide) (by decide) (by decide) (by decide)]
theorem rwE_of {s s' : mS} {k : Nat} (h1 : s'.2.2.2 = s.2.2.2) (h2 : s'.2.2.1 32 = s.2.2.1 32) (h3 : s'.2.2.1 33 = s.2.2.1 33) : rwE s' k s k := by
  refine ⟨?_, ?_, by rw [h2], fun i _ => ?_⟩
  · unfold fN
    rw [h1]
  · unfold fD
    rw [h1]
  · unfold fQ
    rw [h3]
theorem smP_N {g : Nat} {s s' : mS} (h : smN s s') : smP g s s' := ⟨fun k _ _ => by rw [h.1], h.2.2, fun k _ _ _ _ _ _ => by rw [h.2.1], fun k _ _ _ _ => by rw [h.2.1], fun k _ _ => rwE_of (by rw [h.2.1]) (by rw [h.2.1]) (by rw [h.2.1]), fun j _ _ => by rw [h.2.1]⟩
theorem smP_L {g : Nat} {s s' : mS} (h : smL s s') : smP g s s' := ⟨fun k q _ => h.1 k q, fun k _ _ _ => by rw [h.2.1], fun k _ q _ _ _ _ => h.2.2.1 k q, fun k _ _ _ _ => by rw [h.2.2.2], fun k _ _ => rwE_of h.2.2.2 (h.2.2.1 32 (by decide)) (h.2.2.1 33 (by decide)), fun j _ _ => by rw [h.2.2.1 27 (by decide)]⟩
theorem smP_R {g : Nat} {s s' : mS} (h : smR s s') : smP g s s' := ⟨fun k _ q => h.1 k q, fun k _ _ _ => by rw [h.2.1], fun k _ _ q _ _ _ => h.2.2.1 k q, fun k _ _ _ _ => by rw [h.2.2.2], fun k _ _ => rwE_of h.2.2.2 (h.2.2.1 32 (by decide)) (h.2.2.1 33 (by decide)), fun j _ _ => by rw [h.2.2.1 27 (by decide)]⟩
theorem smP_F {g p F r : Nat} {d : Int} {s s' : mS} (hF : F < 64) (h : fcI s s' g (64 * g + p) (64 * g + F) r d) : smP g s s' := by
  obtain ⟨sm, ilo, -, imid, ihi, i27⟩ := h
  refine ⟨fun k _ _ => by rw [sm.1], fun k _ _ _ => by rw [sm.2.1], fun k _ _ _ q4 q5 q6 => sm.2.2.1 k q4 q5 q6, fun k q1 q2 q3 q4 => sm.2.2.2 k q1 q2 q3 q4, fun k hk hc => ?_, fun j hj hjg => by rw [i27 j hj, if_neg hjg]⟩
  by_cases w : k < 64 * g + p
  · exact ilo k w
  · exact ihi k (by omega) hk
