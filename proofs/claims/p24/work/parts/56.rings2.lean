/-- what rings leaves: a walk g round the list, each the next of the one before, back to the first -/
def rgO (s : mS) (n : V3) (Q : Nat → V3) (c : Nat) (l : Nat → Nat) (r : Nat) (g : Nat → Nat) : Prop := s.1 23 = Int32.ofNat r ∧ 1 ≤ r ∧ r ≤ c ∧ g 0 = 0 ∧ (∀ j, j < r → s.2.2.1 22 j = Int32.ofNat (l (g j)) ∧ g j < c ∧ ex Q c (g j)) ∧ (∀ i j, i < j → j < r → g i ≠ g j) ∧ (∀ j, j < r → nx1 n Q (g j) (g (j + 1)) (fun k => k < c)) ∧ g r = 0
theorem x_outer {N c : Nat} {l : Nat → Nat} {d : Int} {s : mS} (hP : rgP s c l) (hn : 0 < vd (nv s) (nv s)) (hpl : ∀ k, k < c → vd (nv s) (hp s (l k)) = d) (hdi : ∀ i j, i < c → j < c → i ≠ j → hp s (l i) ≠ hp s (l j)) (hc2 : 2 ≤ c) (hN : 600 < N) (nxt : Nat → Nat) (hnx : ∀ a, a < c → ex (fun k => hp s (l k)) c a → nxt a < c ∧ nxt a ≠ a ∧ nx1 (nv s) (fun k => hp s (l k)) a (nxt a) (fun j => j < c)) (r : Nat) (hrc : r ≤ c) (hEi : ∀ i, itr nxt i 0 < c ∧ ex (fun k => hp s (l k)) c (itr nxt i 0)) (hr0 : itr nxt r 0 = 0) (hr1 : ∀ i, 1 ≤ i → i < r → itr nxt i 0 ≠ 0) :
    ∀ (m f i : Nat) (h : mS), i + m + 1 = r → m < f → smR s h → h.1 23 = Int32.ofNat i → (∀ j, j < i → h.2.2.1 22 j = Int32.ofNat (l (itr nxt j 0))) →
    ∃ s', mxX7_rings_12 N f (Int32.ofNat (l (itr nxt i 0))) h = some s' ∧ smR s s' ∧ s'.1 23 = Int32.ofNat r ∧ ∀ j, j < r → s'.2.2.1 22 j = Int32.ofNat (l (itr nxt j 0)) := by
  intro m
  induction m with
  | zero =>
    intro f i h hi hf hs h23 h22
    obtain ⟨f', rfl⟩ : ∃ f', f = f' + 1 := ⟨f - 1, by omega⟩
    have hc6 := hP.2.1
    have bi : i < aN 22 := by show i < 600; omega
    have E := hEi i
    generalize hh : pI (sA h 22 i (Int32.ofNat (l (itr nxt i 0)))) 23 (Int32.ofNat (i + 1)) = h'
    have sm : smR s h' := by
      refine hs.tr ?_
      rw [← hh]
      refine ⟨fun k hk => ?_, rfl, fun k hk => ?_, rfl⟩
      · show upd h.1 23 _ k = h.1 k
        rw [upd_at, if_neg hk]
      · show va_up h.2.2.1 22 _ k = h.2.2.1 k
        unfold va_up
        exact if_neg hk
    have hQ : (fun k => hp h' (l k)) = (fun k => hp s (l k)) := funext fun k => smR_hp sm _
    obtain ⟨b, b1, b2, b3, b4⟩ := x_inner (N := N) (s := h') (rec12 := mxX7_rings_12 N f') (d := d) (rgP_sm hP sm) (by rw [smR_nv sm]; exact hn) (by intro k hk; rw [smR_nv sm, smR_hp sm]; exact hpl k hk) E.1 (by rw [hQ]; exact E.2) hc2 c N 0 (-1) (by omega) (by omega) (.inl ⟨rfl, fun j hj => absurd hj (by omega)⟩)
    rw [smR_nv sm, hQ] at b3
    have nb := hnx _ E.1 E.2
    have eb : b = nxt (itr nxt i 0) := nx_uniq hn hpl hdi E.1 b1 nb.1 b2 nb.2.1 E.2 b3 nb.2.2
    have er : i + 1 = r := by omega
    have eb0 : b = 0 := by
      rw [eb]
      have : itr nxt (i + 1) 0 = 0 := by
        rw [er]
        exact hr0
      exact this
    refine ⟨h', ?_, sm, ?_, ?_⟩
    · rw [mxX7_rings_12, h23, wA_N bi (by decide), Option.bind_some]
      have q : (sA h 22 i (Int32.ofNat (l (itr nxt i 0)))).1 23 = Int32.ofNat i := h23
      rw [Option.bind_some, q, i_s, hh]
      refine b4.trans ?_
      rw [if_pos eb0]
    · rw [← hh, ← er]
      rfl
    · intro j hj
      rw [← hh]
      show va_up h.2.2.1 22 (upd (h.2.2.1 22) i (Int32.ofNat (l (itr nxt i 0)))) 22 j = _
      simp only [va_up, if_true, upd_at]
      by_cases w : j = i
      · rw [if_pos w, w]
      · rw [if_neg w]
        exact h22 j (by omega)
  | succ m ih =>
    intro f i h hi hf hs h23 h22
    obtain ⟨f', rfl⟩ : ∃ f', f = f' + 1 := ⟨f - 1, by omega⟩
    have hc6 := hP.2.1
    have bi : i < aN 22 := by show i < 600; omega
    have E := hEi i
    generalize hh : pI (sA h 22 i (Int32.ofNat (l (itr nxt i 0)))) 23 (Int32.ofNat (i + 1)) = h'
    have sm : smR s h' := by
      refine hs.tr ?_
      rw [← hh]
      refine ⟨fun k hk => ?_, rfl, fun k hk => ?_, rfl⟩
      · show upd h.1 23 _ k = h.1 k
        rw [upd_at, if_neg hk]
      · show va_up h.2.2.1 22 _ k = h.2.2.1 k
        unfold va_up
        exact if_neg hk
    have hQ : (fun k => hp h' (l k)) = (fun k => hp s (l k)) := funext fun k => smR_hp sm _
    obtain ⟨b, b1, b2, b3, b4⟩ := x_inner (N := N) (s := h') (rec12 := mxX7_rings_12 N f') (d := d) (rgP_sm hP sm) (by rw [smR_nv sm]; exact hn) (by intro k hk; rw [smR_nv sm, smR_hp sm]; exact hpl k hk) E.1 (by rw [hQ]; exact E.2) hc2 c N 0 (-1) (by omega) (by omega) (.inl ⟨rfl, fun j hj => absurd hj (by omega)⟩)
    rw [smR_nv sm, hQ] at b3
    have nb := hnx _ E.1 E.2
    have eb : b = nxt (itr nxt i 0) := nx_uniq hn hpl hdi E.1 b1 nb.1 b2 nb.2.1 E.2 b3 nb.2.2
    have eb0 : ¬ (b = 0) := by
      rw [eb]
      exact hr1 (i + 1) (by omega) (by omega)
    obtain ⟨s', e, g1, g2, g3⟩ := ih f' (i + 1) h' (by omega) (by omega) sm (by rw [← hh]; rfl) (by
      intro j hj
      rw [← hh]
      show va_up h.2.2.1 22 (upd (h.2.2.1 22) i (Int32.ofNat (l (itr nxt i 0)))) 22 j = _
      simp only [va_up, if_true, upd_at]
      by_cases w : j = i
      · rw [if_pos w, w]
      · rw [if_neg w]
        exact h22 j (by omega))
    refine ⟨s', ?_, g1, g2, g3⟩
    rw [mxX7_rings_12, h23, wA_N bi (by decide), Option.bind_some]
    have q : (sA h 22 i (Int32.ofNat (l (itr nxt i 0)))).1 23 = Int32.ofNat i := h23
    rw [Option.bind_some, q, i_s, hh]
    refine b4.trans ?_
    rw [if_neg eb0, eb]
    exact e
/-- rings comes back to where it began -/
theorem x_rings {N c : Nat} {l : Nat → Nat} {d : Int} {s : mS} (hP : rgP s c l) (hn : 0 < vd (nv s) (nv s)) (hpl : ∀ k, k < c → vd (nv s) (hp s (l k)) = d) (hdi : ∀ i j, i < c → j < c → i ≠ j → hp s (l i) ≠ hp s (l j)) (hc2 : 2 ≤ c) (hN : 600 < N) (he0 : ex (fun k => hp s (l k)) c 0) : ∃ s' r g, mxX7_rings N s = some s' ∧ smR s s' ∧ rgO s' (nv s) (fun k => hp s (l k)) c l r g := by
  have hc6 := hP.2.1
  have ch : ∀ a, ∃ b, a < c → ex (fun k => hp s (l k)) c a → b < c ∧ b ≠ a ∧ nx1 (nv s) (fun k => hp s (l k)) a b (fun j => j < c) := by
    intro a
    by_cases h1 : a < c ∧ ex (fun k => hp s (l k)) c a
    · obtain ⟨b, b1, b2, b3, -⟩ := x_inner (N := N) (s := s) (rec12 := fun _ _ => none) (d := d) hP hn hpl h1.1 h1.2 hc2 c (c + 1) 0 (-1) (by omega) (by omega) (.inl ⟨rfl, fun j hj => absurd hj (by omega)⟩)
      exact ⟨b, fun _ _ => ⟨b1, b2, b3⟩⟩
    · exact ⟨0, fun a1 a2 => absurd ⟨a1, a2⟩ h1⟩
  have hnx0 : ∀ a, a < c → ex (fun k => hp s (l k)) c a → (ch a).choose < c ∧ (ch a).choose ≠ a ∧ nx1 (nv s) (fun k => hp s (l k)) a (ch a).choose (fun j => j < c) := fun a => (ch a).choose_spec
  generalize hg : (fun a => (ch a).choose) = nxt at hnx0
  have hnx : ∀ a, a < c → ex (fun k => hp s (l k)) c a → nxt a < c ∧ nxt a ≠ a ∧ nx1 (nv s) (fun k => hp s (l k)) a (nxt a) (fun j => j < c) := by
    intro a
    rw [← hg]
    exact hnx0 a
  obtain ⟨r, r1, r2, r3, r4, r5, r6⟩ := cyc (m := c) (E := fun a => a < c ∧ ex (fun k => hp s (l k)) c a) (f := nxt) (s := 0) (by
    intro a ha
    have h := hnx a ha.1 ha.2
    exact ⟨ha.1, h.1, nx_ex hn hpl hdi ha.1 h.1 h.2.1 h.2.2⟩) (by
    intro a b ha hb e
    by_cases q : a = b
    · exact q
    · exfalso
      have h1 := hnx a ha.1 ha.2
      have h2 := hnx b hb.1 hb.2
      rw [← e] at h2
      exact nx_inj hn hpl ha.1 hb.1 h1.1 q h1.2.1 h2.2.1 ha.2 hb.2 h1.2.2 h2.2.2) ⟨by omega, he0⟩
  have r20 : rA (pI s 23 0) 20 0 = some (Int32.ofNat (l 0)) := by
    rw [rA_0 (by decide)]
    have := hP.1.2 0 (by omega)
    show some (s.2.2.1 20 0) = _
    rw [this]
  have sm0 : smR s (pI s 23 0) := ⟨fun k hk => by show upd s.1 23 _ k = s.1 k; rw [upd_at, if_neg hk], rfl, fun _ _ => rfl, rfl⟩
  obtain ⟨s', e, g1, g2, g3⟩ := x_outer (N := N) hP hn hpl hdi hc2 hN nxt hnx r r2 r6 r3 r4 (r - 1) N 0 (pI s 23 0) (by omega) (by omega) sm0 rfl (fun j hj => absurd hj (by omega))
  refine ⟨s', r, fun j => itr nxt j 0, ?_, g1, g2, r1, r2, rfl, fun j hj => ⟨g3 j hj, r6 j⟩, r5, fun j hj => ?_, r3⟩
  · unfold mxX7_rings
    rw [Option.bind_some, r20, Option.bind_some]
    exact e
  · have h := r6 j
    exact (hnx _ h.1 h.2).2.2
