theorem rq_1 (a1 a2 a3 b1 b2 b3 : Int) : (a1 - b1) * (a1 - b1) + (a2 - b2) * (a2 - b2) + (a3 - b3) * (a3 - b3) = (a1 * a1 + a2 * a2 + a3 * a3) - 2 * (a1 * b1 + a2 * b2 + a3 * b3) + (b1 * b1 + b2 * b2 + b3 * b3) := by grind
theorem len_vs (a b : V3) : vd (vs a b) (vs a b) = vd a a - 2 * vd a b + vd b b := rq_1 a.1 a.2.1 a.2.2 b.1 b.2.1 b.2.2
/-- a point between two is nearer to either -/
theorem seg_len {p q k u : V3} (par : vx (vs k p) (vs q p) = v0) (hq : vd u q < vd u p) (hk : vd u k < vd u p) (le : vd (vs k p) (vs k p) ≤ vd (vs q p) (vs q p)) : vd (vs k q) (vs k q) ≤ vd (vs p q) (vs p q) := by
  have A1 := along_u u par
  have A3 := along_u (vs k p) par
  have ene : vs q p ≠ v0 := by
    intro e
    have : vd u (vs q p) = 0 := by
      rw [e]
      simp [vd, v0]
    rw [vd_vs] at this
    omega
  have X := vd_pos ene
  rw [vd_vs u, vd_vs u] at A1
  have e1 : vs k q = vs (vs k p) (vs q p) := (vs_vs k q p).symm
  rw [e1, len_vs, vd_swap p q]
  generalize vd (vs q p) (vs q p) = E at *
  generalize vd (vs k p) (vs q p) = Y at *
  generalize vd (vs k p) (vs k p) = G at *
  have Yp : 0 < Y := by
    by_cases y : 0 < Y
    · exact y
    · have t1 : E * (vd u k - vd u p) < 0 := Int.mul_neg_of_pos_of_neg X (by omega)
      have t2 : 0 ≤ Y * (vd u q - vd u p) := Int.mul_nonneg_of_nonpos_of_nonpos (by omega) (by omega)
      omega
  have YE : Y ≤ E := by
    refine sq_le Yp (by omega) ?_
    have : E * G ≤ E * E := Int.mul_le_mul_of_nonneg_left le (by omega)
    omega
  have t3 : Y * Y ≤ E * Y := Int.mul_le_mul_of_nonneg_right YE (by omega)
  have t4 : 0 ≤ E * (Y - G) := by
    rw [Int.mul_sub]
    omega
  have := nn_of_mul X t4
  omega
/-- farthest along some way among all, if so on a bounding plane -/
theorem ex_all {P : Nat → V3} {m c a : Nat} {n : V3} {d : Int} {l : Nat → Nat} (hs : ∀ i, i < m → vd n (P i) ≤ d) (hl : ∀ i, i < m → vd n (P i) = d → ∃ j, j < c ∧ l j = i) (hla : ∀ j, j < c → l j < m ∧ vd n (P (l j)) = d) (ha : a < c) (h : ex (fun k => P (l k)) c a) : ex P m (l a) := by
  obtain ⟨u, hu⟩ := h
  obtain ⟨K, K0, hK⟩ := bound_all (fun k => vd u (P k) - vd u (P (l a))) m
  refine ⟨vl K n 1 u, fun k hk hka => ?_⟩
  rw [vd_vl_l, vd_vl_l, Int.one_mul, Int.one_mul, (hla a ha).2]
  by_cases c1 : vd n (P k) = d
  · obtain ⟨j, hj, ej⟩ := hl k hk c1
    have hja : j ≠ a := by
      intro q
      rw [q] at ej
      exact hka ej.symm
    have := hu j hj hja
    have h2 : vd u (P (l j)) < vd u (P (l a)) := this
    rw [ej] at h2
    rw [c1]
    omega
  · have h1 := hs k hk
    have h2 : vd u (P k) - vd u (P (l a)) < K := hK k hk
    have h3 : K * vd n (P k) ≤ K * (d - 1) := Int.mul_le_mul_of_nonneg_left (by omega) K0
    rw [Int.mul_sub, Int.mul_one] at h3
    omega
/-- a RING has three or more -/
theorem ring3 {P : Nat → V3} {m r : Nat} {n : V3} {d : Int} {ρ : Nat → Nat} (hf : fc P m n d) (hdi : ∀ i j, i < m → j < m → i ≠ j → P i ≠ P j) (h : rgF P m n d r ρ) : 3 ≤ r := by
  obtain ⟨c, l, g, hc, hl, hlt, hall, r1, rc, g0, hg, gd, gx, gr⟩ := h
  obtain ⟨hs, ⟨i, j, k, hi, hj, hk, ei, ej, ek, hne⟩, hp⟩ := hf
  have hn := prim_pos hp
  obtain ⟨i', i1, i2⟩ := hall i hi ei
  obtain ⟨j', j1, j2⟩ := hall j hj ej
  obtain ⟨k', k1, k2⟩ := hall k hk ek
  have ij : i ≠ j := by
    intro q
    rw [q, vs_self, vx_0] at hne
    exact hne rfl
  by_cases c3 : 3 ≤ r
  · exact c3
  · exfalso
    by_cases c1 : r = 1
    · -- the next of the first is itself
      have q := gx 0 (by omega)
      rw [c1] at gr
      rw [g0, gr] at q
      have t : ∃ t, t < c ∧ t ≠ 0 := by
        by_cases w : i' = 0
        · refine ⟨j', j1, fun z => ij ?_⟩
          rw [← i2, ← j2, w, z]
        · exact ⟨i', i1, w⟩
      obtain ⟨t, t1, t2⟩ := t
      obtain ⟨-, b⟩ := q t t1 t2
      have z : br n (P (l 0)) (P (l 0)) (P (l t)) = 0 := by
        unfold br
        rw [vs_self, vx_0]
        simp [vd, v0]
      have le := b z
      have e0 : vd (vs (P (l 0)) (P (l 0))) (vs (P (l 0)) (P (l 0))) = 0 := by
        rw [vs_self]
        simp [vd, v0]
      have le' : vd (vs (P (l t)) (P (l 0))) (vs (P (l t)) (P (l 0))) ≤ 0 := by
        have : vd (vs (P (l t)) (P (l 0))) (vs (P (l t)) (P (l 0))) ≤ vd (vs (P (l 0)) (P (l 0))) (vs (P (l 0)) (P (l 0))) := le
        omega
      have ne : vs (P (l t)) (P (l 0)) ≠ v0 := by
        intro e
        refine hdi (l t) (l 0) (hl t t1).1 (hl 0 (by omega)).1 (by have := hlt 0 t (by omega) t1; omega) ?_
        have e1 : (P (l t)).1 - (P (l 0)).1 = 0 := congrArg (fun v : V3 => v.1) e
        have e2 : (P (l t)).2.1 - (P (l 0)).2.1 = 0 := congrArg (fun v : V3 => v.2.1) e
        have e3 : (P (l t)).2.2 - (P (l 0)).2.2 = 0 := congrArg (fun v : V3 => v.2.2) e
        exact v3_ext (by omega) (by omega) (by omega)
      have := vd_pos ne
      omega
    · have r2 : r = 2 := by omega
      have qa := gx 0 (by omega)
      have qb := gx 1 (by omega)
      rw [r2] at gr
      rw [g0] at qa
      have gr' : g (1 + 1) = 0 := gr
      rw [gr'] at qb
      have h1 := hg 1 (by omega)
      have d01 : g 1 ≠ 0 := by
        have := gd 0 1 (by omega) (by omega)
        rw [g0] at this
        exact fun z => this z.symm
      have l0 := hl 0 (by omega)
      have l1 := hl (g 1) h1.2.1
      have pl : ∀ t, t < c → vd n (vs (P (l t)) (P (l 0))) = 0 := by
        intro t ht
        rw [vd_vs, (hl t ht).2, l0.2]
        omega
      have col : ∀ t, t < c → vx (vs (P (l t)) (P (l 0))) (vs (P (l (g 1))) (P (l 0))) = v0 := by
        intro t ht
        by_cases w0 : t = 0
        · rw [w0, vs_self, vx_0]
        · by_cases w1 : t = g 1
          · rw [w1, vx_self]
          · have a1 : 0 ≤ br n (P (l 0)) (P (l (g 1))) (P (l t)) := (qa t ht w0).1
            have a2 : 0 ≤ br n (P (l (g 1))) (P (l 0)) (P (l t)) := (qb t ht w1).1
            have a3 : br n (P (l (g 1))) (P (l 0)) (P (l t)) = - br n (P (l 0)) (P (l (g 1))) (P (l t)) := by
              rw [br_cyc n (P (l (g 1))) (P (l 0)) (P (l t)), br_sw]
            have a4 : br n (P (l 0)) (P (l (g 1))) (P (l t)) = 0 := by omega
            exact vx_anti0 (par0 hn (pl (g 1) h1.2.1) (pl t ht) a4)
      have ene : vs (P (l (g 1))) (P (l 0)) ≠ v0 := by
        intro e
        refine hdi (l (g 1)) (l 0) l1.1 l0.1 (by have := hlt 0 (g 1) (by omega) h1.2.1; omega) ?_
        have e1 : (P (l (g 1))).1 - (P (l 0)).1 = 0 := congrArg (fun v : V3 => v.1) e
        have e2 : (P (l (g 1))).2.1 - (P (l 0)).2.1 = 0 := congrArg (fun v : V3 => v.2.1) e
        have e3 : (P (l (g 1))).2.2 - (P (l 0)).2.2 = 0 := congrArg (fun v : V3 => v.2.2) e
        exact v3_ext (by omega) (by omega) (by omega)
      have ci := col i' i1
      have cj := col j' j1
      have ck := col k' k1
      rw [i2] at ci
      rw [j2] at cj
      rw [k2] at ck
      exact hne (line_line ene ci cj ck)
/-- the next one in a RING -/
def nxr (r : Nat) (ρ : Nat → Nat) (j : Nat) : Nat := if j + 1 < r then ρ (j + 1) else ρ 0
/-- each edge of a RING goes back in another one -/
theorem pair {P : Nat → V3} {m r j : Nat} {n : V3} {d : Int} {ρ : Nat → Nat} (hfull : full P m) (hdi : ∀ i j, i < m → j < m → i ≠ j → P i ≠ P j) (hf : fc P m n d) (h : rgF P m n d r ρ) (hj : j < r) : ∃ n' d', fc P m n' d' ∧ ∀ r' ρ', rgF P m n' d' r' ρ' → ∃ j', j' < r' ∧ ρ' j' = nxr r ρ j ∧ nxr r' ρ' j' = ρ j := by
  have h3 := ring3 hf hdi h
  obtain ⟨c, l, g, hc, hl, hlt, hall, r1, rc, g0, hg, gd, gx, gr⟩ := h
  have hn := prim_pos hf.2.2
  -- the two ends
  have gj := hg j hj
  have gn : g (j + 1) < c ∧ ex (fun k => P (l k)) c (g (j + 1)) ∧ nxr r ρ j = l (g (j + 1)) ∧ g (j + 1) ≠ g j := by
    unfold nxr
    by_cases w : j + 1 < r
    · rw [if_pos w]
      have q := hg (j + 1) w
      exact ⟨q.2.1, q.2.2, q.1, fun z => gd j (j + 1) (by omega) w z.symm⟩
    · rw [if_neg w]
      have e : j + 1 = r := by omega
      have q := hg 0 (by omega)
      rw [e, gr]
      rw [g0] at q
      refine ⟨q.2.1, q.2.2, q.1, fun z => ?_⟩
      have := gd 0 j (by omega) hj
      rw [g0] at this
      exact this z
  obtain ⟨gn1, gn2, gn3, gn4⟩ := gn
  have nx := gx j hj
  have lp := hl (g j) gj.2.1
  have lq := hl (g (j + 1)) gn1
  have hpq : l (g (j + 1)) ≠ l (g j) := fun z => gn4 (l_inj hlt gn1 gj.2.1 z)
  have ene : vs (P (l (g (j + 1)))) (P (l (g j))) ≠ v0 := by
    intro e
    refine hdi _ _ lq.1 lp.1 hpq ?_
    have e1 : (P (l (g (j + 1)))).1 - (P (l (g j))).1 = 0 := congrArg (fun v : V3 => v.1) e
    have e2 : (P (l (g (j + 1)))).2.1 - (P (l (g j))).2.1 = 0 := congrArg (fun v : V3 => v.2.1) e
    have e3 : (P (l (g (j + 1)))).2.2 - (P (l (g j))).2.2 = 0 := congrArg (fun v : V3 => v.2.2) e
    exact v3_ext (by omega) (by omega) (by omega)
  have left : ∀ k, k < m → vd n (P k) = d → 0 ≤ br n (P (l (g j))) (P (l (g (j + 1)))) (P k) ∧ (k ≠ l (g j) → br n (P (l (g j))) (P (l (g (j + 1)))) (P k) = 0 → vd (vs (P k) (P (l (g j)))) (vs (P k) (P (l (g j)))) ≤ vd (vs (P (l (g (j + 1)))) (P (l (g j)))) (vs (P (l (g (j + 1)))) (P (l (g j))))) := by
    intro k hk ek
    obtain ⟨t, t1, t2⟩ := hall k hk ek
    by_cases w : t = g j
    · rw [← t2, w]
      refine ⟨?_, fun z => absurd rfl z⟩
      have : br n (P (l (g j))) (P (l (g (j + 1)))) (P (l (g j))) = 0 := by
        unfold br
        rw [vs_self, vx_anti0 (vx_0 _)]
        simp [vd, v0]
      omega
    · have q := nx t t1 w
      rw [← t2]
      exact ⟨q.1, fun _ => q.2⟩
  obtain ⟨n', d', hf', ep', eq', -, hb⟩ := turn_edge hfull hf lp.1 lq.1 lp.2 lq.2 ene (fun k hk ek => (left k hk ek).1)
  have exp := ex_all hf.1 hall hl gj.2.1 gj.2.2
  have exq := ex_all hf.1 hall hl gn1 gn2
  refine ⟨n', d', hf', ?_⟩
  intro r' ρ' h'
  have h3' := ring3 hf' hdi h'
  obtain ⟨c', l', g', hc', hl', hlt', hall', r1', rc', g0', hg', gd', gx', gr'⟩ := h'
  have hn' := prim_pos hf'.2.2
  obtain ⟨jp, jp1, jp2⟩ := hall' _ lp.1 ep'
  obtain ⟨jq, jq1, jq2⟩ := hall' _ lq.1 eq'
  have res : ∀ t, t < c' → ex P m (l' t) → ex (fun k => P (l' k)) c' t := by
    intro t ht hx
    obtain ⟨u, hu⟩ := hx
    exact ⟨u, fun k hk hkt => hu (l' k) (hl' k hk).1 (fun z => hkt (l_inj hlt' hk ht z))⟩
  have xq : ex (fun k => P (l' k)) c' jq := res jq jq1 (by rw [jq2]; exact exq)
  have hpl' : ∀ k, k < c' → vd n' ((fun k => P (l' k)) k) = d' := fun k hk => (hl' k hk).2
  have hdi' : ∀ i j, i < c' → j < c' → i ≠ j → (fun k => P (l' k)) i ≠ (fun k => P (l' k)) j := by
    intro a b ha hb' hab
    refine hdi _ _ (hl' a ha).1 (hl' b hb').1 (fun z => hab (l_inj hlt' ha hb' z))
  obtain ⟨j', j1, j2⟩ := ring_all (n := n') (Q := fun k => P (l' k)) hn' hpl' h3' g0' gr' (fun j hj => (hg' j hj).2) gd' gx' jq1 xq
  have nb : jp ≠ jq := by
    intro z
    rw [z] at jp2
    exact hpq (by rw [← jp2, ← jq2])
  have nxp : nx1 n' (fun k => P (l' k)) jq jp (fun k => k < c') := by
    intro k hk hkq
    show 0 ≤ br n' (P (l' jq)) (P (l' jp)) (P (l' k)) ∧ (br n' (P (l' jq)) (P (l' jp)) (P (l' k)) = 0 → vd (vs (P (l' k)) (P (l' jq))) (vs (P (l' k)) (P (l' jq))) ≤ vd (vs (P (l' jp)) (P (l' jq))) (vs (P (l' jp)) (P (l' jq))))
    rw [jp2, jq2]
    have q := hb (l' k) (hl' k hk).1 (hl' k hk).2
    refine ⟨q.1, fun z => ?_⟩
    obtain ⟨z1, z2⟩ := q.2 z
    by_cases w : l' k = l (g j)
    · rw [w]
      exact Int.le_refl _
    · have lk := (left (l' k) (hl' k hk).1 z1).2 w z2
      obtain ⟨u, hu⟩ := exp
      have par : vx (vs (P (l' k)) (P (l (g j)))) (vs (P (l (g (j + 1)))) (P (l (g j)))) = v0 := vx_anti0 (par0 hn (by rw [vd_vs, lq.2, lp.2]; omega) (by rw [vd_vs, z1, lp.2]; omega) z2)
      exact seg_len par (hu _ lq.1 hpq) (hu _ (hl' k hk).1 w) lk
  have gj' := hg' j' j1
  have nxj := gx' j' j1
  rw [j2] at nxj
  have gnn : g' (j' + 1) < c' ∧ g' (j' + 1) ≠ jq ∧ nxr r' ρ' j' = l' (g' (j' + 1)) := by
    unfold nxr
    by_cases w : j' + 1 < r'
    · rw [if_pos w]
      have q := hg' (j' + 1) w
      refine ⟨q.2.1, fun z => gd' j' (j' + 1) (by omega) w ?_, q.1⟩
      rw [j2, z]
    · rw [if_neg w]
      have e : j' + 1 = r' := by omega
      have q := hg' 0 (by omega)
      rw [g0'] at q
      rw [e, gr']
      refine ⟨q.2.1, fun z => ?_, q.1⟩
      have := gd' 0 j' (by omega) j1
      rw [g0', j2] at this
      exact this z
  have un := nx_uniq (n := n') (Q := fun k => P (l' k)) hn' hpl' hdi' jq1 gnn.1 jp1 gnn.2.1 nb xq nxj nxp
  refine ⟨j', j1, ?_, ?_⟩
  · rw [gj'.1, j2, jq2, gn3]
  · rw [gnn.2.2, un, jp2, gj.1]
