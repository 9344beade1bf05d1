/-- three points on a line are not all corners -/
theorem exx3 {a b c u v w : V3} (h : vx (vs c a) (vs b a) = v0) (ua : vd u b < vd u a) (ua' : vd u c < vd u a) (vb : vd v a < vd v b) (vb' : vd v c < vd v b) (wc : vd w a < vd w c) (wc' : vd w b < vd w c) : False := by
  have k1 := along_u u h
  have k2 := along_u v h
  have k3 := along_u w h
  rw [vd_vs u, vd_vs u] at k1
  rw [vd_vs v, vd_vs v] at k2
  rw [vd_vs w, vd_vs w] at k3
  have E0 : 0 < vd (vs b a) (vs b a) := vd_pos (fun z => by
    have e1 := vd_vs u b a
    rw [z, vd_comm, vd_0] at e1
    omega)
  generalize vd (vs b a) (vs b a) = E at *
  generalize vd (vs c a) (vs b a) = Y at *
  have Y0 : 0 < Y := by
    rcases Int.lt_or_le 0 Y with q | q
    · exact q
    · have m1 : E * (vd u c - vd u a) < 0 := Int.mul_neg_of_pos_of_neg E0 (by omega)
      have m2 : 0 ≤ Y * (vd u b - vd u a) := Int.mul_nonneg_of_nonpos_of_nonpos q (by omega)
      omega
  have c1 : Y < E := by
    rcases Int.lt_or_le Y E with q | q
    · exact q
    · exfalso
      have m1 : E * (vd v b - vd v a) ≤ Y * (vd v b - vd v a) := Int.mul_le_mul_of_nonneg_right q (by omega)
      have m2 : E * (vd v c - vd v a) < E * (vd v b - vd v a) := Int.mul_lt_mul_of_pos_left (by omega) E0
      omega
  have m3 : 0 < E * (vd w c - vd w a) := Int.mul_pos E0 (by omega)
  have wb : 0 < vd w b - vd w a := by
    rw [k3] at m3
    exact pos_of_mul Y0 m3
  have m4 : E * (vd w b - vd w a) < E * (vd w c - vd w a) := Int.mul_lt_mul_of_pos_left (by omega) E0
  have m5 : Y * (vd w b - vd w a) < E * (vd w b - vd w a) := Int.mul_lt_mul_of_pos_right c1 wb
  omega
theorem br_col {n : V3} {Q : Nat → V3} {c i j k : Nat} {d : Int} (hn : 0 < vd n n) (hpl : ∀ k, k < c → vd n (Q k) = d) (hex : ∀ a, a < c → ex Q c a) (hi : i < c) (hj : j < c) (hk : k < c) (ij : i ≠ j) (ik : i ≠ k) (jk : j ≠ k) : br n (Q i) (Q j) (Q k) ≠ 0 := by
  intro z
  obtain ⟨u, hu⟩ := hex i hi
  obtain ⟨v, hv⟩ := hex j hj
  obtain ⟨w, hw⟩ := hex k hk
  have pa : vx (vs (Q j) (Q i)) (vs (Q k) (Q i)) = v0 := par0 hn (by rw [vd_vs, hpl j hj, hpl i hi]; omega) (by rw [vd_vs, hpl k hk, hpl i hi]; omega) z
  exact exx3 (vx_anti0 pa) (hu j hj (Ne.symm ij)) (hu k hk (Ne.symm ik)) (hv i hi ij) (hv k hk (Ne.symm jk)) (hw i hi ik) (hw j hj jk)
theorem nx_has {n : V3} {Q : Nat → V3} {c a : Nat} {d : Int} (hn : 0 < vd n n) (hpl : ∀ k, k < c → vd n (Q k) = d) (hex : ∀ a, a < c → ex Q c a) (hc : 2 ≤ c) (ha : a < c) : ∃ b, b < c ∧ b ≠ a ∧ nx1 n Q a b (fun k => k < c) := by
  have st : ∀ t, t ≤ c → ∃ b, b < c ∧ b ≠ a ∧ nx1 n Q a b (fun k => k < t) := by
    intro t
    induction t with
    | zero =>
      intro _
      by_cases z : a = 0
      · exact ⟨1, by omega, by omega, fun k hk => absurd hk (Nat.not_lt_zero k)⟩
      · exact ⟨0, by omega, by omega, fun k hk => absurd hk (Nat.not_lt_zero k)⟩
    | succ t ih =>
      intro ht
      obtain ⟨b, hb, hba, h⟩ := ih (by omega)
      by_cases ta : t = a
      · exact ⟨b, hb, hba, fun k hk ka => h k (by omega) ka⟩
      · obtain ⟨s1, s2⟩ := nx_step (r := t) hn hpl ha (hex a ha) hb hba (by omega) ta (fun k (hk : k < t) => by omega) h
        by_cases q : br n (Q a) (Q b) (Q t) < 0 ∨ br n (Q a) (Q b) (Q t) = 0 ∧ vd (vs (Q b) (Q a)) (vs (Q b) (Q a)) < vd (vs (Q t) (Q a)) (vs (Q t) (Q a))
        · exact ⟨t, by omega, ta, fun k hk ka => s1 q k (by omega) ka⟩
        · exact ⟨b, hb, hba, fun k hk ka => s2 q k (by omega) ka⟩
  exact st c (Nat.le_refl c)
theorem br_rev (n a b c : V3) : br n b a c = - br n a b c := by
  rw [br_cyc n b a c, br_sw n a b c |>.symm]
/-- the way round: from each point to the next, through all of them -/
theorem walk {n : V3} {Q : Nat → V3} {c : Nat} {d : Int} (hn : 0 < vd n n) (hpl : ∀ k, k < c → vd n (Q k) = d) (hdi : ∀ i j, i < c → j < c → i ≠ j → Q i ≠ Q j) (hex : ∀ a, a < c → ex Q c a) (hc : 3 ≤ c) : ∃ w : Nat → Nat, w 0 = 0 ∧ w c = 0 ∧ (∀ j, j < c → w j < c) ∧ (∀ i j, i < j → j < c → w i ≠ w j) ∧ (∀ x, x < c → ∃ j, j < c ∧ w j = x) ∧ ∀ j, j < c → nx1 n Q (w j) (w (j + 1)) (fun k => k < c) := by
  have ch : ∀ a, ∃ b, a < c → b < c ∧ b ≠ a ∧ nx1 n Q a b (fun k => k < c) := fun a => by
    by_cases h : a < c
    · obtain ⟨b, q⟩ := nx_has hn hpl hex (by omega) h
      exact ⟨b, fun _ => q⟩
    · exact ⟨0, fun q => absurd q h⟩
  have hnx0 : ∀ a, a < c → (ch a).choose < c ∧ (ch a).choose ≠ a ∧ nx1 n Q a (ch a).choose (fun k => k < c) := fun a => (ch a).choose_spec
  generalize hg : (fun a => (ch a).choose) = nxt at hnx0
  have hnx : ∀ a, a < c → nxt a < c ∧ nxt a ≠ a ∧ nx1 n Q a (nxt a) (fun k => k < c) := by
    intro a
    rw [← hg]
    exact hnx0 a
  obtain ⟨r, r1, r2, r3, r4, r5, r6⟩ := cyc (m := c) (E := fun a => a < c) (f := nxt) (s := 0) (fun a ha => ⟨ha, (hnx a ha).1⟩) (fun a b ha hb e => by
    by_cases q : a = b
    · exact q
    · exfalso
      have h1 := hnx a ha
      have h2 := hnx b hb
      rw [← e] at h2
      exact nx_inj hn hpl ha hb h1.1 q h1.2.1 h2.2.1 (hex a ha) (hex b hb) h1.2.2 h2.2.2) (by omega)
  have nx : ∀ j, nx1 n Q (itr nxt j 0) (itr nxt (j + 1) 0) (fun k => k < c) := fun j => (hnx _ (r6 j)).2.2
  have r3' : 3 ≤ r := by
    have n1 : r ≠ 1 := fun e => by
      rw [e] at r3
      exact (hnx 0 (by omega)).2.1 r3
    have n2 : r ≠ 2 := fun e => by
      rw [e] at r3
      have z0 := hnx 0 (by omega)
      have z1 := hnx (nxt 0) z0.1
      have e2 : nxt (nxt 0) = 0 := r3
      rw [e2] at z1
      have go : ∀ k, k < c → k ≠ 0 → k ≠ nxt 0 → False := fun k hk k0 k1 => by
        have a1 := (z0.2.2 k hk k0).1
        have a2 := (z1.2.2 k hk k1).1
        rw [br_rev] at a2
        exact br_col hn hpl hex (by omega) z0.1 hk (Ne.symm z0.2.1) (Ne.symm k0) (Ne.symm k1) (by omega)
      by_cases q : nxt 0 = 1
      · exact go 2 (by omega) (by omega) (by omega)
      · exact go 1 (by omega) (by omega) (by omega)
    omega
  have all : ∀ x, x < c → ∃ j, j < r ∧ itr nxt j 0 = x := fun x hx => ring_all (g := fun j => itr nxt j 0) hn hpl r3' rfl r3 (fun j _ => ⟨r6 j, hex _ (r6 j)⟩) r5 (fun j _ => nx j) hx (hex x hx)
  have cr : c ≤ r := by
    have ch2 : ∀ x, ∃ j, x < c → j < r ∧ itr nxt j 0 = x := fun x => by
      by_cases h : x < c
      · obtain ⟨j, q⟩ := all x h
        exact ⟨j, fun _ => q⟩
      · exact ⟨0, fun q => absurd q h⟩
    have h := sm_inj (b := fun _ => 1) (m := r) (a := c) (v := fun x => (ch2 x).choose) (fun t ht => ⟨((ch2 t).choose_spec ht).1, Nat.le_refl 1⟩) (fun i j hij hj e => by
      have e1 := ((ch2 i).choose_spec (by omega)).2
      have e2 := ((ch2 j).choose_spec hj).2
      have e' : (ch2 i).choose = (ch2 j).choose := e
      rw [e'] at e1
      omega)
    rw [sm_c] at h
    omega
  have e : r = c := by omega
  subst e
  exact ⟨fun j => itr nxt j 0, rfl, r3, fun j _ => r6 j, r5, all, fun j _ => nx j⟩
/-- what is least among the rest is the next -/
theorem sel_next {n : V3} {Q : Nat → V3} {c a b e : Nat} {d : Int} (hn : 0 < vd n n) (hpl : ∀ k, k < c → vd n (Q k) = d) (hex : ∀ a, a < c → ex Q c a) (ha : a < c) (hb : b < c) (he : e < c) (ba : b ≠ a) (ea : e ≠ a) (h : nx1 n Q a e (fun k => k < c)) (le : b ≠ e → 0 ≤ br n (Q a) (Q b) (Q e)) : b = e := by
  by_cases q : b = e
  · exact q
  · exfalso
    have h1 := le q
    have h2 := (h b hb ba).1
    rw [br_sw] at h1
    exact br_col hn hpl hex ha he hb (Ne.symm ea) (Ne.symm ba) (Ne.symm q) (by omega)
theorem nx_u {n : V3} {Q : Nat → V3} {c a b e : Nat} {d : Int} (hn : 0 < vd n n) (hpl : ∀ k, k < c → vd n (Q k) = d) (hex : ∀ a, a < c → ex Q c a) (ha : a < c) (hb : b < c) (he : e < c) (ba : b ≠ a) (ea : e ≠ a) (h : nx1 n Q a e (fun k => k < c)) (h' : nx1 n Q a b (fun k => k < c)) : b = e := sel_next hn hpl hex ha hb he ba ea h (fun _ => (h' e he ea).1)
theorem lst_u {c c' : Nat} {l l' : Nat → Nat} {Z : Nat → Prop} (h1 : ∀ j, j < c → Z (l j)) (h2 : ∀ i j, i < j → j < c → l i < l j) (h3 : ∀ x, Z x → ∃ j, j < c ∧ l j = x) (h1' : ∀ j, j < c' → Z (l' j)) (h2' : ∀ i j, i < j → j < c' → l' i < l' j) (h3' : ∀ x, Z x → ∃ j, j < c' ∧ l' j = x) : c = c' ∧ ∀ j, j < c → l j = l' j := by
  have eq : ∀ i, i < c → i < c' → l i = l' i := by
    intro i
    induction i using Nat.strongRecOn with
    | _ i ih =>
      intro hi hi'
      obtain ⟨a, ha, ea⟩ := h3' _ (h1 i hi)
      obtain ⟨b, hb, eb⟩ := h3 _ (h1' i hi')
      have a1 : ¬ a < i := fun q => by
        have := ih a q (by omega) ha
        have := h2 a i q hi
        omega
      have b1 : ¬ b < i := fun q => by
        have := ih b q hb (by omega)
        have := h2' b i q hi'
        omega
      by_cases q : a = i
      · rw [← ea, q]
      · have w1 := h2' i a (by omega) ha
        by_cases q2 : b = i
        · rw [← eb, q2]
        · have w2 := h2 i b (by omega) hb
          omega
  have le1 : ¬ c < c' := fun q => by
    obtain ⟨b, hb, eb⟩ := h3 _ (h1' c q)
    have := eq b hb (by omega)
    have := h2' b c hb q
    omega
  have le2 : ¬ c' < c := fun q => by
    obtain ⟨b, hb, eb⟩ := h3' _ (h1 c' q)
    have := eq b (by omega) hb
    have := h2 b c' hb q
    omega
  exact ⟨by omega, fun j hj => eq j hj (by omega)⟩
/-- the RING of a plane is one alone -/
theorem rgF_u {P : Nat → V3} {n r r' : Nat} {m : V3} {d : Int} {ρ ρ' : Nat → Nat} (hm : 0 < vd m m) (hle : ∀ i, i < n → vd m (P i) ≤ d) (hex : ∀ a, a < n → ex P n a) (r3 : 3 ≤ r) (r3' : 3 ≤ r') (h : rgF P n m d r ρ) (h' : rgF P n m d r' ρ') : r = r' ∧ ∀ j, j < r → ρ j = ρ' j := by
  obtain ⟨c, l, g, c1, c2, c3, c4, c5, c6, c7, c8, c9, c10, c11⟩ := h
  obtain ⟨c', l', g', d1, d2, d3, d4, d5, d6, d7, d8, d9, d10, d11⟩ := h'
  obtain ⟨ec, el⟩ := lst_u (Z := fun x => x < n ∧ vd m (P x) = d) c2 c3 (fun x hx => c4 x hx.1 hx.2) d2 d3 (fun x hx => d4 x hx.1 hx.2)
  subst ec
  have hex' : ∀ a, a < c → ex (fun k => P (l k)) c a := fun a ha => by
    obtain ⟨u, hu⟩ := hex (l a) (c2 a ha).1
    exact ⟨u, fun k hk ka => hu (l k) (c2 k hk).1 (fun q => ka (by
      by_cases z : k < a
      · have := c3 k a z ha
        omega
      · by_cases z2 : a < k
        · have := c3 a k z2 hk
          omega
        · omega))⟩
  have hpl : ∀ k, k < c → vd m ((fun k => P (l k)) k) = d := fun k hk => (c2 k hk).2
  have gs : ∀ j, j ≤ r → g j < c := fun j hj => by
    by_cases q : j = r
    · rw [q, c11]
      omega
    · exact (c8 j (by omega)).2.1
  have gs' : ∀ j, j ≤ r' → g' j < c := fun j hj => by
    by_cases q : j = r'
    · rw [q, d11]
      omega
    · exact (d8 j (by omega)).2.1
  have nx' : ∀ j, j < r' → nx1 m (fun k => P (l k)) (g' j) (g' (j + 1)) (fun k => k < c) := fun j hj k hk ka => by
    have := d10 j hj k hk ka
    dsimp only at this ⊢
    rw [← el k hk, ← el _ (gs' j (by omega)), ← el _ (gs' (j + 1) (by omega))] at this
    exact this
  have ne1 : ∀ j, j < r → g (j + 1) ≠ g j := fun j hj => by
    by_cases q : j + 1 = r
    · rw [q, c11, ← c7]
      exact fun e => c9 0 j (by omega) hj e
    · exact fun e => c9 j (j + 1) (by omega) (by omega) e.symm
  have ne1' : ∀ j, j < r' → g' (j + 1) ≠ g' j := fun j hj => by
    by_cases q : j + 1 = r'
    · rw [q, d11, ← d7]
      exact fun e => d9 0 j (by omega) hj e
    · exact fun e => d9 j (j + 1) (by omega) (by omega) e.symm
  have eq : ∀ j, j ≤ r → j ≤ r' → g j = g' j := by
    intro j
    induction j with
    | zero =>
      intro _ _
      rw [c7, d7]
    | succ j ih =>
      intro hj hj'
      have e := ih (by omega) (by omega)
      have h2 := nx' j (by omega)
      have q2 := ne1' j (by omega)
      rw [← e] at h2 q2
      exact nx_u hm hpl hex' (gs j (by omega)) (gs (j + 1) hj) (gs' (j + 1) hj') (ne1 j (by omega)) q2 h2 (c10 j (by omega))
  have er : r = r' := by
    rcases Nat.lt_trichotomy r r' with q | q | q
    · exfalso
      have e := eq r (Nat.le_refl r) (by omega)
      rw [c11] at e
      exact d9 0 r (by omega) q (by rw [d7]; exact e)
    · exact q
    · exfalso
      have e := eq r' (by omega) (Nat.le_refl r')
      rw [d11] at e
      exact c9 0 r' (by omega) q (by rw [c7]; exact e.symm)
  refine ⟨er, fun j hj => ?_⟩
  rw [(c8 j hj).1, (d8 j (by omega)).1, eq j (by omega) (by omega), el _ (gs' j (by omega))]
