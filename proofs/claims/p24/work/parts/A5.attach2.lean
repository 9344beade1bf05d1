def sN : Nat → Prop := fun i => i = 29 ∨ 34 ≤ i ∧ i ≤ 36
/-- a new row t over the torn side j -/
def nrw (s1 s : cS) (F G : Nat → Nat) (kn t j : Nat) : Prop := qA s1 39 (G j * 25 + F j) = 0 ∧ qA s 34 (3 * t) = Int32.ofNat (F j) ∧ qA s 34 (3 * t + 1) = Int32.ofNat (G j) ∧ qA s 34 (3 * t + 2) = Int32.ofNat kn ∧ qA s 36 t = 0 ∧ tN s t = vx (vs (pc s1 30 (G j)) (pc s1 30 (F j))) (vs (pc s1 30 kn) (pc s1 30 (F j))) ∧ tD s t = vd (tN s t) (pc s1 30 (F j))
/-- the skin while rows are added about the new knot -/
def AI (F G : Nat → Nat) (kn : Nat) (s1 s : cS) (T1 T i : Nat) (q : Nat → Nat) : Prop := cf sN s1 s ∧ (T1 ≤ T ∧ T ≤ 46) ∧ qI s 29 1 = Int32.ofNat T ∧ qI s 29 5 = qI s1 29 5 ∧ (∀ t, t < T1 → tR s t = tR s1 t) ∧ (∀ t, T1 ≤ t → t < T → q t < i ∧ nrw s1 s F G kn t (q t)) ∧ (∀ t t', T1 ≤ t → t < t' → t' < T → q t < q t') ∧ (T = 46 ∨ ∀ j, j < i → qA s1 39 (G j * 25 + F j) = 0 → ∃ t, T1 ≤ t ∧ t < T ∧ q t = j)
theorem nrw_R {s1 s s' : cS} {F G : Nat → Nat} {kn t j : Nat} (h : nrw s1 s F G kn t j) (e : tR s' t = tR s t) : nrw s1 s' F G kn t j := by
  obtain ⟨a1, a2, a3, a4, a5, a6⟩ := tR_N e
  obtain ⟨h1, h2, h3, h4, h5, h6, h7⟩ := h
  exact ⟨h1, a3.trans h2, a4.trans h3, a5.trans h4, a6.trans h5, a1.trans h6, by rw [a2, a1]; exact h7⟩
theorem sN_pc {s s' : cS} (h : cf sN s s') (j : Nat) : pc s' 30 j = pc s 30 j := pc_sL (h.mo (fun i hi => by unfold sN at hi; unfold sL; omega)) j
theorem c_addLoop {N kn m T1 : Nat} {F G : Nat → Nat} {s1 : cS} (hm : m ≤ 138) (h5 : qI s1 29 5 = Int32.ofNat m) (hkn : kn < 25) (hF : ∀ i, i < m → F i < 25 ∧ qA s1 37 i = Int32.ofNat (F i)) (hG : ∀ i, i < m → G i < 25 ∧ qA s1 38 i = Int32.ofNat (G i)) (hP : ∀ j, j < m → bd3 (pc s1 30 (F j)) 101 ∧ bd3 (pc s1 30 (G j)) 101) (hPk : bd3 (pc s1 30 kn) 101) : ∀ (r i f : Nat) (s : cS) (T : Nat) (q : Nat → Nat), i + r = m → r < f → AI F G kn s1 s T1 T i q → ∃ s' T' q', fxX5_attachLatest_77 N f 29 (Int32.ofNat kn) (Int32.ofNat i) (hC s) = fxX5_attachLatest_134 N N 29 0 (hC s') ∧ AI F G kn s1 s' T1 T' m q' := by
  intro r
  induction r with
  | zero =>
    intro i f s T q hi hf h
    obtain ⟨f', rfl⟩ : ∃ f', f = f' + 1 := ⟨f - 1, by omega⟩
    have e : i = m := by omega
    subst e
    refine ⟨s, T, q, ?_, h⟩
    obtain ⟨-, -, -, h4, -⟩ := h
    rw [fxX5_attachLatest_77, gI_5_5 s29, Option.bind_some, h4, h5, if_pos (Int32.le_refl _)]
  | succ r ih =>
    intro i f s T q hi hf h
    obtain ⟨f', rfl⟩ : ∃ f', f = f' + 1 := ⟨f - 1, by omega⟩
    have H := h
    obtain ⟨h1, h2, h3, h4, h6, h7, h8, h9⟩ := H
    have a37 : qA s 37 = qA s1 37 := h1.A (fun w => by unfold sN at w; omega)
    have a38 : qA s 38 = qA s1 38 := h1.A (fun w => by unfold sN at w; omega)
    have a39 : qA s 39 = qA s1 39 := h1.A (fun w => by unfold sN at w; omega)
    have ne : ¬ (Int32.ofNat m ≤ Int32.ofNat i) := by
      rw [i_le (by omega) (by omega)]
      omega
    obtain ⟨bF, eF⟩ := hF i (by omega)
    obtain ⟨bG, eG⟩ := hG i (by omega)
    have e25 : (25 : Int32) = Int32.ofNat 25 := rfl
    rw [fxX5_attachLatest_77]
    simp only [gI_5_5 s29, gR_5_6 s29, gR_5_7 s29, gR_5_8 s29, Option.bind_some, h4, h5, if_neg ne, aI_N t37 (by omega : i < 138) (by decide), aI_N t38 (by omega : i < 138) (by decide), a37, a38, eF, eG, e25, i_mc, i_ad, aZ_N t39 (by omega : G i * 25 + F i < 625) (by decide), a39, kO_5 s29]
    by_cases c : qA s1 39 (G i * 25 + F i) = 0
    · rw [if_pos c]
      obtain ⟨s', q', c', k5, k⟩ := c_addT (N := N) (T := T) (u := F i) (v := G i) (w := kn) (s := s) h2.2 h3 bF bG hkn
      rw [q', Option.bind_some]
      unfold fxX5_attachLatest_126
      rw [i_s]
      rcases k with ⟨k1, k2⟩ | ⟨k1, k2, k3, k4, k6, k7, k8, k9⟩
      · subst k2
        exact ih (i + 1) f' s' T q (by omega) (by omega) ⟨h1, h2, h3, h4, h6, fun t a b => ⟨by have := (h7 t a b).1; omega, (h7 t a b).2⟩, h8, .inl k1⟩
      · refine ih (i + 1) f' s' (T + 1) (fun t => if t = T then i else q t) (by omega) (by omega) ⟨h1.tr c', ⟨by omega, by omega⟩, k2, k5.trans h4, fun t ht => (k3 t (by omega)).trans (h6 t ht), ?_, ?_, ?_⟩
        · intro t a b
          show (if t = T then i else q t) < i + 1 ∧ nrw s1 s' F G kn t (if t = T then i else q t)
          by_cases d : t = T
          · rw [if_pos d, d]
            refine ⟨by omega, c, k6, k7, k8, k4, ?_⟩
            have := k9 (by rw [sN_pc h1]; exact (hP i (by omega)).1) (by rw [sN_pc h1]; exact (hP i (by omega)).2) (by rw [sN_pc h1]; exact hPk)
            rw [sN_pc h1, sN_pc h1, sN_pc h1] at this
            exact this
          · rw [if_neg d]
            obtain ⟨g1, g2⟩ := h7 t a (by omega)
            exact ⟨by omega, nrw_R g2 (k3 t d)⟩
        · intro t t' a b d
          show (if t = T then i else q t) < (if t' = T then i else q t')
          rw [if_neg (show ¬ t = T by omega)]
          by_cases d' : t' = T
          · rw [if_pos d']
            exact (h7 t a (by omega)).1
          · rw [if_neg d']
            exact h8 t t' a b (by omega)
        · rcases h9 with g | g
          · omega
          · refine .inr (fun j hj hz => ?_)
            by_cases d : j = i
            · refine ⟨T, by omega, by omega, ?_⟩
              show (if T = T then i else q T) = j
              rw [if_pos rfl, d]
            · obtain ⟨t, g1, g2, g3⟩ := g j (by omega) hz
              refine ⟨t, g1, by omega, ?_⟩
              show (if t = T then i else q t) = j
              rw [if_neg (by omega)]
              exact g3
    · rw [if_neg c]
      unfold fxX5_attachLatest_126
      rw [i_s]
      refine ih (i + 1) f' s T q (by omega) (by omega) ⟨h1, h2, h3, h4, h6, fun t a b => ⟨by have := (h7 t a b).1; omega, (h7 t a b).2⟩, h8, ?_⟩
      rcases h9 with g | g
      · exact .inl g
      · refine .inr (fun j hj hz => ?_)
        by_cases d : j = i
        · subst d
          exact absurd hz c
        · exact g j (by omega) hz
theorem c_clrLoop {N m : Nat} {F G : Nat → Nat} {s1 : cS} (hm : m ≤ 138) (h5 : qI s1 29 5 = Int32.ofNat m) (hF : ∀ i, i < m → F i < 25 ∧ qA s1 37 i = Int32.ofNat (F i)) (hG : ∀ i, i < m → G i < 25 ∧ qA s1 38 i = Int32.ofNat (G i)) : ∀ (r i f : Nat) (g : Nat → Int32), i + r = m → r < f → (∀ j, (qA s1 39 j = 0 ∨ ∃ x, x < i ∧ j = F x * 25 + G x) → g j = 0) → ∃ g', fxX5_attachLatest_134 N f 29 (Int32.ofNat i) (hC (uA s1 39 g)) = some (hC (uA s1 39 g')) ∧ ∀ j, (qA s1 39 j = 0 ∨ ∃ x, x < m ∧ j = F x * 25 + G x) → g' j = 0 := by
  intro r
  induction r with
  | zero =>
    intro i f g hi hf h
    obtain ⟨f', rfl⟩ : ∃ f', f = f' + 1 := ⟨f - 1, by omega⟩
    have e : i = m := by omega
    subst e
    refine ⟨g, ?_, h⟩
    rw [fxX5_attachLatest_134, gI_5_5 s29, Option.bind_some, qI_uA, h5, if_pos (Int32.le_refl _)]
  | succ r ih =>
    intro i f g hi hf h
    obtain ⟨f', rfl⟩ : ∃ f', f = f' + 1 := ⟨f - 1, by omega⟩
    have ne : ¬ (Int32.ofNat m ≤ Int32.ofNat i) := by
      rw [i_le (by omega) (by omega)]
      omega
    obtain ⟨bF, eF⟩ := hF i (by omega)
    obtain ⟨bG, eG⟩ := hG i (by omega)
    have e25 : (25 : Int32) = Int32.ofNat 25 := rfl
    rw [fxX5_attachLatest_134]
    simp only [gI_5_5 s29, gR_5_6 s29, gR_5_7 s29, gR_5_8 s29, Option.bind_some, qI_uA, qA_uA, h5, if_neg ne, aI_N t37 (by omega : i < 138) (by decide), aI_N t38 (by omega : i < 138) (by decide), if_neg (show ¬ (37 = 39) by decide), if_neg (show ¬ (38 = 39) by decide), eF, eG, e25, i_mc, i_ad, wZ_N0 t39 (by omega : F i * 25 + G i < 625) (by decide), if_true, uA_uA, i_s]
    refine ih (i + 1) f' _ (by omega) (by omega) (fun j hj => ?_)
    rw [upd_at]
    by_cases d : j = F i * 25 + G i
    · rw [if_pos d]
    · rw [if_neg d]
      refine h j (hj.imp id (fun ⟨x, a, b⟩ => ⟨x, ?_, b⟩))
      by_cases w : x = i
      · subst w
        exact absurd b d
      · omega
