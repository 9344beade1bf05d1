theorem wB_N0 {s : mS} {k j : Nat} (h : j < aN k) (hk : aN k < 2147483648) : wB s k (Int32.ofNat j) 0 = some (sA s k j 0) := by
  have e := i_nb h hk
  have t := i_tn (j := j) (by omega)
  unfold wB sA
  rw [if_neg e, t]
  rfl
/-- what hulls marks at first: all of KINDS 0 and 1, the two ends of KIND 2 -/
def mk0 (n k p : Nat) : Int32 := if k < 2 ∨ k = 2 ∧ (p = 0 ∨ p = n - 1) then 1 else 0
/-- only the marks have changed -/
def smC (s s' : mS) : Prop := s'.1 = s.1 ∧ s'.2.1 = s.2.1 ∧ s'.2.2.2 = s.2.2.2 ∧ ∀ q, ¬ q = 19 → s'.2.2.1 q = s.2.2.1 q
theorem x_h14 {N g n k : Nat} {s : mS} (hn : n ≤ 600) (hk : k ≤ 4) (h15 : s.1 15 = Int32.ofNat n) : ∀ (m f p : Nat) (h : mS), p + m = n → m < f → smC s h → (∀ j, j < p → h.2.2.1 19 j = mk0 n k j) →
    ∃ h', smC s h' ∧ (∀ j, j < n → h'.2.2.1 19 j = mk0 n k j) ∧ mxX7_hulls_14 N f (Int32.ofNat g) (Int32.ofNat k) (Int32.ofNat p) h = if k = 3 then mxX7_hulls_70 N N (Int32.ofNat g) (Int32.ofNat k) 0 h' else mxX7_hulls_149 N (Int32.ofNat g) (Int32.ofNat k) h' := by
  have k3 : (Int32.ofNat k = 3) = (k = 3) := by
    apply propext
    constructor
    · intro e
      exact i_inj (a := k) (b := 3) (by omega) (by omega) e
    · intro e
      rw [e]
      rfl
  have k2 : (Int32.ofNat k = 2) = (k = 2) := by
    apply propext
    constructor
    · intro e
      exact i_inj (a := k) (b := 2) (by omega) (by omega) e
    · intro e
      rw [e]
      rfl
  have kl : (Int32.ofNat k < 2) = (k < 2) := i_lt (a := k) (b := 2) (by omega) (by omega)
  intro m
  induction m with
  | zero =>
    intro f p h hp hf sm hl
    obtain ⟨f', rfl⟩ : ∃ f', f = f' + 1 := ⟨f - 1, by omega⟩
    have hpn : p = n := by omega
    subst hpn
    refine ⟨h, sm, hl, ?_⟩
    rw [mxX7_hulls_14, sm.1, h15, if_pos (Int32.le_refl _)]
    simp only [k3]
  | succ m ih =>
    intro f p h hp hf sm hl
    obtain ⟨f', rfl⟩ : ∃ f', f = f' + 1 := ⟨f - 1, by omega⟩
    have ne : ¬ (Int32.ofNat n ≤ Int32.ofNat p) := by
      rw [i_le (by omega) (by omega)]
      omega
    have p0 : (Int32.ofNat p = 0) = (p = 0) := by
      apply propext
      constructor
      · intro e
        exact i_inj (a := p) (b := 0) (by omega) (by omega) e
      · intro e
        rw [e]
        rfl
    have pn : (Int32.ofNat p = Int32.ofNat n - 1) = (p = n - 1) := by
      obtain ⟨n', rfl⟩ : ∃ n', n = n' + 1 := ⟨n - 1, by omega⟩
      rw [i_p]
      apply propext
      constructor
      · intro e
        have := i_inj (a := p) (b := n') (by omega) (by omega) e
        omega
      · intro e
        rw [e]
        rfl
    have b19 : p < aN 19 := by show p < 600; omega
    have smA : ∀ v, smC s (sA h 19 p v) := by
      intro v
      refine ⟨sm.1, sm.2.1, sm.2.2.1, fun q hq => ?_⟩
      funext t
      rw [sA_at, if_neg (by omega), sm.2.2.2 q hq]
    have at_ : ∀ v, v = mk0 n k p → ∀ j, j < p + 1 → (sA h 19 p v).2.2.1 19 j = mk0 n k j := by
      intro v hv j hj
      rw [sA_at]
      by_cases w : j = p
      · rw [if_pos ⟨rfl, w⟩, hv, w]
      · rw [if_neg (by omega)]
        exact hl j (by omega)
    have one : mk0 n k p = 1 → ∃ h', smC s h' ∧ (∀ j, j < n → h'.2.2.1 19 j = mk0 n k j) ∧ mxX7_hulls_51 N (mxX7_hulls_14 N f') (Int32.ofNat g) (Int32.ofNat k) (Int32.ofNat p) (Int32.ofNat p) h = if k = 3 then mxX7_hulls_70 N N (Int32.ofNat g) (Int32.ofNat k) 0 h' else mxX7_hulls_149 N (Int32.ofNat g) (Int32.ofNat k) h' := by
      intro hm
      unfold mxX7_hulls_51 mxX7_hulls_56
      rw [wB_N1 b19 (by decide), Option.bind_some, i_s]
      exact ih f' (p + 1) _ (by omega) (by omega) (smA 1) (at_ 1 hm.symm)
    have zero : mk0 n k p = 0 → ∃ h', smC s h' ∧ (∀ j, j < n → h'.2.2.1 19 j = mk0 n k j) ∧ mxX7_hulls_55 N (mxX7_hulls_14 N f') (Int32.ofNat g) (Int32.ofNat k) (Int32.ofNat p) (Int32.ofNat p) h = if k = 3 then mxX7_hulls_70 N N (Int32.ofNat g) (Int32.ofNat k) 0 h' else mxX7_hulls_149 N (Int32.ofNat g) (Int32.ofNat k) h' := by
      intro hm
      unfold mxX7_hulls_55 mxX7_hulls_56
      rw [wB_N0 b19 (by decide), Option.bind_some, i_s]
      exact ih f' (p + 1) _ (by omega) (by omega) (smA 0) (at_ 0 hm.symm)
    rw [mxX7_hulls_14, sm.1, h15, if_neg ne]
    simp only [kl, k2, p0, pn]
    by_cases c1 : k < 2
    · rw [if_pos c1]
      exact one (if_pos (.inl c1))
    · rw [if_neg c1]
      by_cases c2 : k = 2
      · rw [if_pos c2]
        by_cases c3 : p = 0
        · rw [if_pos c3]
          exact one (if_pos (.inr ⟨c2, .inl c3⟩))
        · rw [if_neg c3]
          by_cases c4 : p = n - 1
          · rw [if_pos c4]
            exact one (if_pos (.inr ⟨c2, .inr c4⟩))
          · rw [if_neg c4]
            exact zero (if_neg (by omega))
      · rw [if_neg c2]
        exact zero (if_neg (by omega))
