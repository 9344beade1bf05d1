def ndV {α : Type} (f : Nat → α) (E : Nat) (u : α) : Nat → α := fun e => if e = E then u else f e
theorem rg_next {P : Nat → V3} {n r j : Nat} {m : V3} {d : Int} {ρ : Nat → Nat} (hf : fc P n m d) (hdi : ∀ i j, i < n → j < n → i ≠ j → P i ≠ P j) (h : rgF P n m d r ρ) (hj : j < r) : nxr r ρ j < n ∧ vd m (P (nxr r ρ j)) = d ∧ nxr r ρ j ≠ ρ j := by
  have h3 := ring3 hf hdi h
  obtain ⟨v, di⟩ := rgF_v hf h
  unfold nxr
  by_cases c : j + 1 < r
  · rw [if_pos c]
    exact ⟨(v _ c).1, (v _ c).2.1, fun e => di j (j + 1) (by omega) c e.symm⟩
  · rw [if_neg c]
    exact ⟨(v 0 (by omega)).1, (v 0 (by omega)).2.1, fun e => di 0 j (by omega) hj e⟩
/-- all points of the plane lie left of each step round -/
theorem rg_left {P : Nat → V3} {n r j : Nat} {m : V3} {d : Int} {ρ : Nat → Nat} (h : rgF P n m d r ρ) (hj : j < r) : ∀ k, k < n → vd m (P k) = d → 0 ≤ br m (P (ρ j)) (P (nxr r ρ j)) (P k) := by
  obtain ⟨c, l, g, hc, hl, hlt, hall, r1, rc, g0, hg, gd, gx, gr⟩ := h
  have en : nxr r ρ j = l (g (j + 1)) := by
    unfold nxr
    by_cases w : j + 1 < r
    · rw [if_pos w]
      exact (hg (j + 1) w).1
    · rw [if_neg w, (hg 0 (by omega)).1, show j + 1 = r by omega, gr, g0]
  intro k hk ek
  obtain ⟨t, t1, t2⟩ := hall k hk ek
  rw [en, (hg j hj).1, ← t2]
  by_cases w : t = g j
  · rw [w]
    have : br m (P (l (g j))) (P (l (g (j + 1)))) (P (l (g j))) = 0 := by
      unfold br
      rw [vs_self, vx_anti0 (vx_0 _), vd_0r]
    omega
  · exact (gx j hj t t1 w).1
theorem rg_pos {P : Nat → V3} {n r j : Nat} {m : V3} {d : Int} {ρ : Nat → Nat} (hf : fc P n m d) (hdi : ∀ i j, i < n → j < n → i ≠ j → P i ≠ P j) (h : rgF P n m d r ρ) (hj : j < r) : ∃ k, k < n ∧ vd m (P k) = d ∧ 0 < br m (P (ρ j)) (P (nxr r ρ j)) (P k) := by
  have hm := prim_pos hf.2.2
  obtain ⟨n1, n2, n3⟩ := rg_next hf hdi h hj
  obtain ⟨v1, v2, -⟩ := (rgF_v hf h).1 j hj
  have le := rg_left h hj
  obtain ⟨-, ⟨x, y, z, hx, hy, hz, ex, ey, ez, ne⟩, -⟩ := hf
  refine Classical.byContradiction fun no => ne ?_
  have zz : ∀ k, k < n → vd m (P k) = d → vx (vs (P k) (P (ρ j))) (vs (P (nxr r ρ j)) (P (ρ j))) = v0 := fun k hk ek => by
    have h1 := le k hk ek
    have h2 : br m (P (ρ j)) (P (nxr r ρ j)) (P k) = 0 := by
      by_cases c : 0 < br m (P (ρ j)) (P (nxr r ρ j)) (P k)
      · exact absurd ⟨k, hk, ek, c⟩ no
      · omega
    exact vx_anti0 (par0 hm (by rw [vd_vs, n2, v2]; omega) (by rw [vd_vs, ek, v2]; omega) h2)
  exact line_line (vs_ne (hdi _ _ n1 v1 n3)) (zz x hx ex) (zz y hy ey) (zz z hz ez)
theorem dj0 (e1 e2 e3 a1 a2 a3 q1 q2 q3 : Int) : ((e3 * a1 - e1 * a3) * q3 - (e1 * a2 - e2 * a1) * q2) * e1 + ((e1 * a2 - e2 * a1) * q1 - (e2 * a3 - e3 * a2) * q3) * e2 + ((e2 * a3 - e3 * a2) * q2 - (e3 * a1 - e1 * a3) * q1) * e3 = (a1 * e1 + a2 * e2 + a3 * e3) * (q1 * e1 + q2 * e2 + q3 * e3) - (e1 * e1 + e2 * e2 + e3 * e3) * (q1 * a1 + q2 * a2 + q3 * a3) := by grind
theorem dj (e a q : V3) : vd (vx (vx e a) q) e = vd a e * vd q e - vd e e * vd q a := dj0 e.1 e.2.1 e.2.2 a.1 a.2.1 a.2.2 q.1 q.2.1 q.2.2
theorem sc3a (N M1 M2 M3 q1 q2 q3 e1 e2 e3 : Int) : N * ((M2 * q3 - M3 * q2) * e1 + (M3 * q1 - M1 * q3) * e2 + (M1 * q2 - M2 * q1) * e3) = ((N * M2) * q3 - (N * M3) * q2) * e1 + ((N * M3) * q1 - (N * M1) * q3) * e2 + ((N * M1) * q2 - (N * M2) * q1) * e3 := by grind
theorem sc3 {N A : Int} {M p q e : V3} (h1 : N * M.1 = A * p.1) (h2 : N * M.2.1 = A * p.2.1) (h3 : N * M.2.2 = A * p.2.2) : N * vd (vx M q) e = A * vd (vx p q) e := by
  show N * ((M.2.1 * q.2.2 - M.2.2 * q.2.1) * e.1 + (M.2.2 * q.1 - M.1 * q.2.2) * e.2.1 + (M.1 * q.2.1 - M.2.1 * q.1) * e.2.2) = A * ((p.2.1 * q.2.2 - p.2.2 * q.2.1) * e.1 + (p.2.2 * q.1 - p.1 * q.2.2) * e.2.1 + (p.1 * q.2.1 - p.2.1 * q.1) * e.2.2)
  rw [sc3a N, sc3a A, h1, h2, h3]
/-- two planes through one side, each with its points left of it and below the other: the way across both does not lean -/
theorem lean1 {n1 n2 e a : V3} (h1 : 0 < vd n1 n1) (e1 : vd n1 e = 0) (e2 : vd n2 e = 0) (a1 : vd n1 a = 0) (a2 : vd n2 a ≤ 0) (A : 0 < vd n1 (vx e a)) : 0 ≤ vd (vx n1 n2) e := by
  have par := vx_anti0 (cross_along e1 a1)
  obtain ⟨c1, c2, c3⟩ := along_eq par
  have k := sc3 (q := n2) (e := e) c1 c2 c3
  rw [dj, e2, Int.mul_zero] at k
  have E := sq_nn e.1
  have ee : 0 ≤ vd e e := by
    have := sq_nn e.2.1
    have := sq_nn e.2.2
    show 0 ≤ e.1 * e.1 + e.2.1 * e.2.1 + e.2.2 * e.2.2
    omega
  have t1 : vd e e * vd n2 a ≤ 0 := Int.mul_nonpos_of_nonneg_of_nonpos ee a2
  have t2 : 0 ≤ vd n1 n1 * (0 - vd e e * vd n2 a) := Int.mul_nonneg (by omega) (by omega)
  rw [k, vd_comm (vx e a) n1] at t2
  exact nn_of_mul A t2
theorem vd_cyc0 (n1 n2 n3 m1 m2 m3 e1 e2 e3 : Int) : (m2 * n3 - m3 * n2) * e1 + (m3 * n1 - m1 * n3) * e2 + (m1 * n2 - m2 * n1) * e3 = -((n2 * m3 - n3 * m2) * e1 + (n3 * m1 - n1 * m3) * e2 + (n1 * m2 - n2 * m1) * e3) := by grind
theorem vd_anti (n m e : V3) : vd (vx m n) e = - vd (vx n m) e := vd_cyc0 n.1 n.2.1 n.2.2 m.1 m.2.1 m.2.2 e.1 e.2.1 e.2.2
theorem br_neg (n a b c : V3) : br (vs v0 n) a b c = - br n a b c := neg_vd n _
/-- one ring alone goes on from one point to another -/
theorem dir_u {P : Nat → V3} {n r1 r2 j1 j2 : Nat} {m1 m2 : V3} {d1 d2 : Int} {ρ1 ρ2 : Nat → Nat} (f1 : fc P n m1 d1) (f2 : fc P n m2 d2) (hdi : ∀ i j, i < n → j < n → i ≠ j → P i ≠ P j) (h1 : rgF P n m1 d1 r1 ρ1) (h2 : rgF P n m2 d2 r2 ρ2) (hj1 : j1 < r1) (hj2 : j2 < r2) (eu : ρ1 j1 = ρ2 j2) (ew : nxr r1 ρ1 j1 = nxr r2 ρ2 j2) : m1 = m2 := by
  obtain ⟨w1, w2, w3⟩ := rg_next f1 hdi h1 hj1
  obtain ⟨-, w2', -⟩ := rg_next f2 hdi h2 hj2
  obtain ⟨u1, u2, -⟩ := (rgF_v f1 h1).1 j1 hj1
  obtain ⟨-, u2', -⟩ := (rgF_v f2 h2).1 j2 hj2
  obtain ⟨x, hx, ex, px⟩ := rg_pos f1 hdi h1 hj1
  obtain ⟨y, hy, ey, py⟩ := rg_pos f2 hdi h2 hj2
  have l2 := rg_left h2 hj2
  rw [← eu] at u2' py l2
  rw [← ew] at w2' py l2
  have t1 := lean1 (n1 := m1) (n2 := m2) (e := vs (P (nxr r1 ρ1 j1)) (P (ρ1 j1))) (a := vs (P x) (P (ρ1 j1))) (prim_pos f1.2.2) (by rw [vd_vs, w2, u2]; omega) (by rw [vd_vs, w2', u2']; omega) (by rw [vd_vs, ex, u2]; omega) (by have := f2.1 x hx; rw [vd_vs, u2']; omega) px
  have t2 := lean1 (n1 := m2) (n2 := m1) (e := vs (P (nxr r1 ρ1 j1)) (P (ρ1 j1))) (a := vs (P y) (P (ρ1 j1))) (prim_pos f2.2.2) (by rw [vd_vs, w2', u2']; omega) (by rw [vd_vs, w2, u2]; omega) (by rw [vd_vs, ey, u2']; omega) (by have := f1.1 y hy; rw [vd_vs, u2]; omega) py
  rw [vd_anti] at t2
  have ene := vs_ne (hdi _ _ w1 u1 w3)
  have z : vd (vx m1 m2) (vs (P (nxr r1 ρ1 j1)) (P (ρ1 j1))) = 0 := by omega
  have par := cross_along (n := vs (P (nxr r1 ρ1 j1)) (P (ρ1 j1))) (a := m1) (b := m2) (by rw [vd_comm, vd_vs, w2, u2]; omega) (by rw [vd_comm, vd_vs, w2', u2']; omega)
  obtain ⟨c1, c2, c3⟩ := along_eq (vx_anti0 par)
  rw [z, Int.zero_mul] at c1 c2 c3
  have E0 := vd_pos ene
  have x0 : vx m1 m2 = v0 := v3_ext (z_of_mul E0 c1) (z_of_mul E0 c2) (z_of_mul E0 c3)
  obtain ⟨y1, hy1⟩ := f1.2.2
  obtain ⟨y2, hy2⟩ := f2.2.2
  rcases prim_eq hy1 hy2 x0 with e | e
  · exact e.symm
  · exfalso
    have q := l2 x hx (by
      rw [e, neg_vd] at u2' ⊢
      omega)
    rw [e, br_neg] at q
    omega
/-- of a plane figure: the ring of the other side goes back -/
theorem flat_pair {P : Nat → V3} {n r r' j : Nat} {m : V3} {d : Int} {ρ ρ' : Nat → Nat} (hf : fc P n m d) (hf' : fc P n (vs v0 m) (-d)) (hex : ∀ a, a < n → ex P n a) (hdi : ∀ i j, i < n → j < n → i ≠ j → P i ≠ P j) (hpl : ∀ i, i < n → vd m (P i) = d) (h : rgF P n m d r ρ) (h' : rgF P n (vs v0 m) (-d) r' ρ') (hj : j < r) : ∃ j', j' < r' ∧ ρ' j' = nxr r ρ j ∧ nxr r' ρ' j' = ρ j := by
  obtain ⟨w1, w2, w3⟩ := rg_next hf hdi h hj
  obtain ⟨u1, u2, -⟩ := (rgF_v hf h).1 j hj
  have hpl' : ∀ i, i < n → vd (vs v0 m) (P i) = -d := fun i hi => by
    rw [neg_vd, hpl i hi]
  obtain ⟨j', hj', ej'⟩ := ring_ex hf' hdi h' w1 (hpl' _ w1) (hex _ w1)
  obtain ⟨y1, y2, y3⟩ := rg_next hf' hdi h' hj'
  refine ⟨j', hj', ej', ?_⟩
  refine Classical.byContradiction fun ne => ?_
  have a1 := rg_left h hj (nxr r' ρ' j') y1 (hpl _ y1)
  have a2 := rg_left h' hj' (ρ j) u1 (hpl' _ u1)
  rw [ej', br_neg] at a2
  have c := br_col (prim_pos hf.2.2) hpl hex w1 y1 u1 (fun e => y3 (by rw [ej']; exact e.symm)) w3 ne
  -- br m u v y = br m v y u
  have cy := br_cyc m (P (ρ j)) (P (nxr r ρ j)) (P (nxr r' ρ' j'))
  rw [cy] at a1
  omega
/-- as many lines between points as half the places -/
theorem edges_le3 {F E : Nat} {rf : Nat → Nat} {ρf : Nat → Nat → Nat} (h25 : ∀ k, k < F → rf k ≤ 25) (V : ∀ f j, f < F → j < rf f → ∃ f' j', f' < F ∧ j' < rf f' ∧ ρf f' j' = nxr (rf f) (ρf f) j ∧ nxr (rf f') (ρf f') j' = ρf f j) {pe qe : Nat → Nat} (he : ∀ e, e < E → ∃ f j, plc F rf ρf f j (pe e) (qe e)) (hd : ∀ a b, a < b → b < E → ¬ (pe a = pe b ∧ qe a = qe b)) : 2 * E ≤ sm rf F := by
  have both : ∀ e, e < E → (∃ f j, f < F ∧ j < rf f ∧ ρf f j = pe e ∧ nxr (rf f) (ρf f) j = qe e) ∧ (∃ f j, f < F ∧ j < rf f ∧ ρf f j = qe e ∧ nxr (rf f) (ρf f) j = pe e) ∧ pe e < qe e := by
    intro e h
    obtain ⟨f, j, h1, h2, h3, h4⟩ := he e h
    obtain ⟨k, j', k1, j1, j2, j3⟩ := V f j h1 h2
    rcases h4 with ⟨a, b⟩ | ⟨a, b⟩
    · exact ⟨⟨f, j, h1, h2, a, b⟩, ⟨k, j', k1, j1, by rw [j2, b], by rw [j3, a]⟩, h3⟩
    · exact ⟨⟨k, j', k1, j1, by rw [j2, b], by rw [j3, a]⟩, ⟨f, j, h1, h2, a, b⟩, h3⟩
  have ch : ∀ t, ∃ f j, t < 2 * E → f < F ∧ j < rf f ∧ (t % 2 = 0 → ρf f j = pe (t / 2) ∧ nxr (rf f) (ρf f) j = qe (t / 2)) ∧ (t % 2 = 1 → ρf f j = qe (t / 2) ∧ nxr (rf f) (ρf f) j = pe (t / 2)) := by
    intro t
    by_cases c : t < 2 * E
    · obtain ⟨⟨f, j, a1, a2, a3, a4⟩, ⟨f', j', b1, b2, b3, b4⟩, -⟩ := both (t / 2) (by omega)
      by_cases w : t % 2 = 0
      · exact ⟨f, j, fun _ => ⟨a1, a2, fun _ => ⟨a3, a4⟩, fun h => absurd h (by omega)⟩⟩
      · exact ⟨f', j', fun _ => ⟨b1, b2, fun h => absurd h w, fun _ => ⟨b3, b4⟩⟩⟩
    · exact ⟨0, 0, fun q => absurd q c⟩
  obtain ⟨pl, hpl⟩ := choice2 ch
  refine places_le h25 pl (fun t ht' => ?_) (fun i j hij hj e => ?_)
  · have := hpl t ht'
    exact ⟨this.1, this.2.1⟩
  · obtain ⟨-, -, a3, a4⟩ := hpl i (by omega)
    obtain ⟨-, -, b3, b4⟩ := hpl j hj
    rw [e] at a3 a4
    have p1 := (both (i / 2) (by omega)).2.2
    have p2 := (both (j / 2) (by omega)).2.2
    generalize ρf (pl j).1 (pl j).2 = x at a3 a4 b3 b4
    generalize nxr (rf (pl j).1) (ρf (pl j).1) (pl j).2 = y at a3 a4 b3 b4
    by_cases ei : i % 2 = 0
    · by_cases ej : j % 2 = 0
      · have := a3 ei
        have := b3 ej
        exact hd (i / 2) (j / 2) (by omega) (by omega) (by omega)
      · have := a3 ei
        have := b4 (by omega)
        omega
    · by_cases ej : j % 2 = 0
      · have := a4 (by omega)
        have := b3 ej
        omega
      · have := a4 (by omega)
        have := b4 (by omega)
        exact hd (i / 2) (j / 2) (by omega) (by omega) (by omega)
theorem ex_di {P : Nat → V3} {n : Nat} (hex : ∀ a, a < n → ex P n a) : ∀ i j, i < n → j < n → i ≠ j → P i ≠ P j := fun i j hi hj ij e => by
  obtain ⟨u, hu⟩ := hex i hi
  have := hu j hj (Ne.symm ij)
  rw [e] at this
  omega
/-- what the rings of a table of all planes are known for -/
theorem RU_of {P : Nat → V3} {n F : Nat} {nf : Nat → V3} {df : Nat → Int} {rf : Nat → Nat} {ρ : Nat → Nat → Nat} (tb : TB P n F nf df) (hex : ∀ a, a < n → ex P n a) (hr : ∀ f, f < F → rgF P n (nf f) (df f) (rf f) (ρ f)) (c : full P n ∨ ∃ v d, (∃ x, vd v x = 1) ∧ ∀ i, i < n → vd v (P i) = d) (h25 : ∀ f, f < F → rf f ≤ 25) (cap : sm rf F ≤ 132) : RU F rf ρ := by
  have hdi := ex_di hex
  have V : ∀ f j, f < F → j < rf f → ∃ f' j', f' < F ∧ j' < rf f' ∧ ρ f' j' = nxr (rf f) (ρ f) j ∧ nxr (rf f') (ρ f') j' = ρ f j := fun f j hf hj => by
    have f1 := tb.1 f hf
    rcases c with hfull | ⟨v, d, pv, hpl⟩
    · obtain ⟨n', d', g1, g2⟩ := pair hfull hdi f1 (hr f hf) hj
      obtain ⟨f', l', e1, e2⟩ := tb.2.2 n' d' g1
      have r' := hr f' l'
      rw [e1, e2] at r'
      obtain ⟨j', j1, j2, j3⟩ := g2 _ _ r'
      exact ⟨f', j', l', j1, j2, j3⟩
    · have pm : ∀ i, i < n → vd (nf f) (P i) = df f := by
        rcases fc_flat pv hpl f1 with ⟨e1, e2⟩ | ⟨e1, e2⟩
        · intro i hi
          rw [e1, e2]
          exact hpl i hi
        · intro i hi
          rw [e1, e2, neg_vd, hpl i hi]
      have f2 : fc P n (vs v0 (nf f)) (-(df f)) := by
        obtain ⟨-, ⟨x, y, z, hx, hy, hz, -, -, -, ne⟩, pr⟩ := f1
        have q : ∀ i, i < n → vd (vs v0 (nf f)) (P i) = -(df f) := fun i hi => by rw [neg_vd, pm i hi]
        exact ⟨fun i hi => by rw [q i hi]; exact Int.le_refl _, ⟨x, y, z, hx, hy, hz, q x hx, q y hy, q z hz, ne⟩, prim_neg pr⟩
      obtain ⟨f', l', e1, e2⟩ := tb.2.2 _ _ f2
      have r' := hr f' l'
      rw [e1, e2] at r'
      obtain ⟨j', j1, j2, j3⟩ := flat_pair f1 f2 hex hdi pm (hr f hf) r' hj
      exact ⟨f', j', l', j1, j2, j3⟩
  refine ⟨fun f j f' j' hf hj hf' hj' e1 e2 => ?_, V, fun E pe qe he hd => ?_⟩
  · have e := dir_u (tb.1 f hf) (tb.1 f' hf') hdi (hr f hf) (hr f' hf') hj hj' e1 e2
    rcases Nat.lt_trichotomy f f' with z | z | z
    · have := tb.2.1 f f' z hf'
      rw [e] at this
      exact absurd this (lxl_ir _)
    · exact z
    · have := tb.2.1 f' f z hf
      rw [e] at this
      exact absurd this (lxl_ir _)
  · have := edges_le3 h25 V he hd
    omega
/-- the knots that count lie strictly farthest -/
theorem HF_ex {s s1 : cS} {p q kp kq kd K : Nat} (bp : ∀ j, j < kp → bd3 (pc s p j) 200) (bq : ∀ j, j < kq → bd3 (pc s q j) 200) (hf : HF s s1 p q kp kq kd K) : ∀ i, i < K → okk kd i → eZ (sZ s p q kp kq) (pc s1 30 i) := by
  intro i hi ok
  rcases hf with ⟨a, e, st, z, -⟩ | ⟨a, k, T, C, wr, -⟩ | ⟨a, k, T, C, wr, -⟩
  · rcases st.2.2.2.2 with ⟨w, -⟩ | ⟨-, w⟩
    · exact absurd (z.symm.trans w) (by decide)
    · obtain ⟨-, i1, i2, d, f, e'⟩ := w i (by omega)
      rw [e']
      exact fzz_eZ bp bq f
  · rcases wr.2.2.2.2.2.2.1 i hi with w | ⟨-, i1, i2, d, f, e'⟩
    · exact absurd ⟨a, w.2⟩ ok
    · rw [e']
      exact fzz_eZ bp bq f
  · rcases wr.2.2.2.2.2.2.1 i hi with w | ⟨-, i1, i2, d, f, e'⟩
    · omega
    · rw [e']
      exact fzz_eZ bp bq f
/-- and are apart -/
theorem HF_di {s s1 : cS} {p q kp kq kd K : Nat} (hf : HF s s1 p q kp kq kd K) : ∀ i i', i < K → i' < K → pc s1 30 i = pc s1 30 i' → i = i' := by
  intro i i' hi hi' e
  rcases hf with ⟨a, eK, st, z, kf⟩ | ⟨a, k, T, C, wr, -⟩ | ⟨a, k, T, C, wr, -⟩
  · rcases kf with ⟨e1, -⟩ | ⟨e1, k1, -⟩ | ⟨e1, -⟩ | ⟨e1, -⟩
    · omega
    · by_cases c : i = 0
      · by_cases c' : i' = 0
        · omega
        · rw [c, show i' = 1 by omega] at e
          exact absurd e.symm k1
      · by_cases c' : i' = 0
        · rw [c', show i = 1 by omega] at e
          exact absurd e k1
        · omega
    · omega
    · omega
  · exact (wr.2.2.1 wr.2.1.1.1).2.2.1 i i' hi hi' e
  · exact (wr.2.2.1 (by have := wr.2.2.2.2.2.1; omega)).2.2.1 i i' hi hi' e
/-- KIND 4: the table of all planes -/
theorem TB_4 {s2 s3 : cS} {k : Nat → V3} {K T b n F : Nat} (ro : ∀ t, t < T → tO s2 K t) (hK : K ≤ 24) (qg : QG 24 k s2 K T) (nb : NB (pc s2 30) K) (bd : ∀ j, j < n → bd3 (pc s3 (b + 1) j) 100) (p1 : ∀ j, j < n → ∃ i, i < K ∧ pc s3 (b + 1) j = pc s2 30 i) (p2 : ∀ i, i < K → ∃ j, j < n ∧ pc s3 (b + 1) j = pc s2 30 i) (so : ∀ j j', j < j' → j' < n → lxl (pc s3 (b + 1) j) (pc s3 (b + 1) j')) (nK : n = K) (hex : ∀ a, a < n → ex (pc s3 (b + 1)) n a) (pg : PG (OF 4 s2 T) s2 s3 b F) : full (pc s3 (b + 1)) n ∧ TB (pc s3 (b + 1)) n F (bN s3 b) (bD s3 b) ∧ Rb s3 b n F ≤ 132 := by
  obtain ⟨-, -, F44, -, h5, h6, h7⟩ := pg
  obtain ⟨q4, q2, q3, sb, su, sr, T0, -⟩ := qg hK
  have fl := FL_of (K := K) q2 q4
  have ph : ∀ f, f < F → PH s2 T (bN s3 b f) (bD s3 b f) := fun f hf => by
    obtain ⟨a1, a2, v, e, g, ⟨t, ht, v0', o⟩, g0, ev, ee⟩ := h6 f hf
    rcases o with ⟨-, o1, o2⟩ | ⟨o1, -⟩
    · exact ⟨a1, a2, t, g, ht, g0, by rw [← o1]; exact ev, by rw [← o2]; exact ee⟩
    · exact absurd rfl o1
  obtain ⟨ho, hfull, hfc, -⟩ := QC_room ro hK (QG_QC qg) nb bd p1 p2 so nK h5 ph
  have hd : ∀ i j, i < j → j < F → ¬ (bN s3 b j = bN s3 b i ∧ bD s3 b j = bD s3 b i) := fun i j hij hj e => by
    have := h5 i j hij hj
    rw [e.1] at this
    exact lxl_ir _ this
  have F2 := faces_le (nf := bN s3 b) (df := bD s3 b) wO_pos ho hfull hfc hd
  have comp : ∀ m e, fc (pc s3 (b + 1)) n m e → ∃ f, f < F ∧ bN s3 b f = m ∧ bD s3 b f = e := by
    intro m e hm
    refine Classical.byContradiction fun no => ?_
    by_cases c : F = 44
    · have oN : ∀ k, k < F → (ndV (bN s3 b) F m) k = bN s3 b k := fun k hk => if_neg (by omega)
      have oD : ∀ k, k < F → (ndV (bD s3 b) F e) k = bD s3 b k := fun k hk => if_neg (by omega)
      have nN : (ndV (bN s3 b) F m) F = m := if_pos rfl
      have nD : (ndV (bD s3 b) F e) F = e := if_pos rfl
      have := faces_le (F := F + 1) (nf := ndV (bN s3 b) F m) (df := ndV (bD s3 b) F e) wO_pos ho hfull (fun k hk => by
        by_cases d : k = F
        · subst d
          rw [nN, nD]
          exact hm
        · rw [oN k (by omega), oD k (by omega)]
          exact hfc k (by omega)) (fun i j hij hj w => by
        by_cases d : j = F
        · subst d
          rw [nN, nD, oN i hij, oD i hij] at w
          exact no ⟨i, hij, w.1.symm, w.2.symm⟩
        · rw [oN i (by omega), oD i (by omega), oN j (by omega), oD j (by omega)] at w
          exact hd i j hij (by omega) w)
      omega
    · obtain ⟨x, y, z, hx, hy, hz, ex, ey, ez, ne⟩ := hm.2.1
      obtain ⟨x', lx, kx⟩ := p1 x hx
      obtain ⟨y', ly, ky⟩ := p1 y hy
      obtain ⟨z', lz, kz⟩ := p1 z hz
      obtain ⟨i0, hi0, r1, r2, r3⟩ := face_row sb su sr fl T0 (prim_ne0 hm.2.2) (e := e) (fun j hj => by
        obtain ⟨j', lj, ej⟩ := p2 j hj
        rw [← ej]
        exact hm.1 j' lj) lx ly lz (by rw [← kx]; exact ex) (by rw [← ky]; exact ey) (by rw [← kz]; exact ez)
      obtain ⟨-, -, e1, e2⟩ := tO_tp (show K ≤ 25 by omega) (ro (i0 / 3) (by omega))
      have nz := sb.2.1 i0 hi0
      have bnd := sb.2.2.1 i0 hi0
      rw [nri_row, ← e1] at r1 r2 r3 nz bnd
      obtain ⟨f, g, hf, g0, eN⟩ := h7 (by omega) (tN s2 (i0 / 3)) (tD s2 (i0 / 3)) ⟨i0 / 3, by omega, nz, .inl ⟨rfl, rfl, rfl⟩⟩
      have ff := hfc f hf
      have on : ∀ a, a < n → vd (tN s2 (i0 / 3)) (pc s3 (b + 1) a) = vd (tN s2 (i0 / 3)) (pc s2 30 (tp s2 i0)) → vd (bN s3 b f) (pc s3 (b + 1) a) = bD s3 b f := fun a ha ea => by
        have le := ff.1 a ha
        obtain ⟨i, -, -, hi, -, -, ei, -⟩ := ff.2.1
        obtain ⟨i', li, ki⟩ := p1 i hi
        have b1 := bnd i' li
        rw [← ki, ← ea, eN, vl_d, vl_d, ei] at b1
        have := Int.le_of_mul_le_mul_left b1 g0
        omega
      have sme := fc_same hfull ff hm (on x hx (by rw [kx]; exact r1)) (on y hy (by rw [ky]; exact r2)) (on z hz (by rw [kz]; exact r3)) ex ey ez ne
      exact no ⟨f, hf, sme.1.symm, sme.2.symm⟩
  refine ⟨hfull, ⟨hfc, h5, comp⟩, ?_⟩
  have S := on_sum (nf := bN s3 b) (df := bD s3 b) wO_pos ho hfull (fun a x e h1 h2 h3 => mid_off ho h1 h2 h3 (hex x (by omega))) hfc hd (by omega)
  have eq : Rb s3 b n F = sm (fun k => sm (onp (pc s3 (b + 1)) (bN s3 b) (bD s3 b) k) n) F := sm_ext F (fun k hk => oc_eq (ph k hk).2.1 bd)
  omega
theorem vx_sc0 (g w1 w2 m1 m2 : Int) (h : w1 * (g * m2 + 0 * 0) - w2 * (g * m1 + 0 * 0) = 0) : g * (w1 * m2 - w2 * m1) = 0 := by grind
theorem vx_sc {g : Int} {w m : V3} (g0 : 0 < g) (h : vx w (vl g m 0 v0) = v0) : vx w m = v0 := v3_ext (z_of_mul g0 (vx_sc0 g _ _ _ _ (vx_1 h))) (z_of_mul g0 (vx_sc0 g _ _ _ _ (vx_2 h))) (z_of_mul g0 (vx_sc0 g _ _ _ _ (vx_3 h)))
theorem vx_ng0 (w1 w2 m1 m2 : Int) (h : w1 * m2 - w2 * m1 = 0) : w1 * (0 - m2) - w2 * (0 - m1) = 0 := by grind
theorem vx_ng {w m : V3} (h : vx w m = v0) : vx w (vs v0 m) = v0 := v3_ext (vx_ng0 _ _ _ _ (vx_1 h)) (vx_ng0 _ _ _ _ (vx_2 h)) (vx_ng0 _ _ _ _ (vx_3 h))
/-- KIND 3: the table of both planes -/
theorem TB_3 {s2 s3 : cS} {k : Nat → V3} {K T b n F : Nat} {ν : V3} {e0 : Int} (ro : ∀ t, t < T → tO s2 K t) (hK : K ≤ 25) (qg : QG 25 k s2 K T) (hν : ν ≠ v0) (fl3 : ∀ i, i < K → i ≠ 3 → vd ν (pc s2 30 i) = e0) (ne3 : vd ν (pc s2 30 3) ≠ e0) (p1 : ∀ j, j < n → ∃ i, i < K ∧ i ≠ 3 ∧ pc s3 (b + 1) j = pc s2 30 i) (p2 : ∀ i, i < K → i ≠ 3 → ∃ j, j < n ∧ pc s3 (b + 1) j = pc s2 30 i) (pg : PG (OF 3 s2 T) s2 s3 b F) : TB (pc s3 (b + 1)) n F (bN s3 b) (bD s3 b) ∧ F ≤ 2 ∧ ∃ v d, (∃ x, vd v x = 1) ∧ ∀ i, i < n → vd v (pc s3 (b + 1) i) = d := by
  obtain ⟨-, -, F44, -, h5, h6, h7⟩ := pg
  obtain ⟨q4, q2, q3, sb, su, sr, T0, -⟩ := qg hK
  have fl := FL_of (K := K) q2 q4
  obtain ⟨G, w, G0, eν, pw⟩ := prim_of hν
  have wk : ∀ i, i < K → i ≠ 3 → vd w (pc s2 30 i) = vd w (pc s2 30 0) := fun i hi i3 => by
    have h1 := fl3 i hi i3
    have h0 := fl3 0 (by omega) (by omega)
    rw [eν, vl_d] at h1 h0
    exact Int.eq_of_mul_eq_mul_left (by omega) (h1.trans h0.symm)
  have w3 : vd w (pc s2 30 3) ≠ vd w (pc s2 30 0) := fun e => ne3 (by
    have h0 := fl3 0 (by omega) (by omega)
    rw [eν, vl_d] at h0 ⊢
    rw [e]
    exact h0)
  have hplP : ∀ i, i < n → vd w (pc s3 (b + 1) i) = vd w (pc s2 30 0) := fun i hi => by
    obtain ⟨i', li, i3, e⟩ := p1 i hi
    rw [e]
    exact wk i' li i3
  have c012 : vx (vs (pc s2 30 1) (pc s2 30 0)) (vs (pc s2 30 2) (pc s2 30 0)) ≠ v0 := fun z => q2 (by
    unfold bx4
    rw [z, vd_0])
  obtain ⟨j0, l0, k0⟩ := p2 0 (by omega) (by omega)
  obtain ⟨j1, l1, k1⟩ := p2 1 (by omega) (by omega)
  obtain ⟨j2, l2, k2⟩ := p2 2 (by omega) (by omega)
  have fcw : fc (pc s3 (b + 1)) n w (vd w (pc s2 30 0)) := ⟨fun i hi => by rw [hplP i hi]; exact Int.le_refl _, ⟨j0, j1, j2, l0, l1, l2, hplP _ l0, hplP _ l1, hplP _ l2, by rw [k0, k1, k2]; exact c012⟩, pw⟩
  have hplN : ∀ i, i < n → vd (vs v0 w) (pc s3 (b + 1) i) = -(vd w (pc s2 30 0)) := fun i hi => by rw [neg_vd, hplP i hi]
  have fcn : fc (pc s3 (b + 1)) n (vs v0 w) (-(vd w (pc s2 30 0))) := ⟨fun i hi => by rw [hplN i hi]; exact Int.le_refl _, ⟨j0, j1, j2, l0, l1, l2, hplN _ l0, hplN _ l1, hplN _ l2, by rw [k0, k1, k2]; exact c012⟩, prim_neg pw⟩
  have tabl : ∀ f, f < F → (bN s3 b f = w ∧ bD s3 b f = vd w (pc s2 30 0)) ∨ (bN s3 b f = vs v0 w ∧ bD s3 b f = -(vd w (pc s2 30 0))) := fun f hf => by
    obtain ⟨a1, a2, v, e, g, ⟨t, ht, v0', o⟩, g0, ev, ee⟩ := h6 f hf
    rcases o with ⟨o1, -⟩ | ⟨-, ⟨m0, m1, m2⟩, o⟩
    · omega
    · obtain ⟨⟨t0, t1, t2⟩, -, e1, e2⟩ := tO_tp (show K ≤ 25 by omega) (ro t ht)
      have x0 := wk _ t0 m0
      have x1 := wk _ t1 m1
      have x2 := wk _ t2 m2
      have par : vx w (tN s2 t) = v0 := by
        rw [e1]
        unfold nri
        rw [nx_0, nx_1]
        exact cross_along (by rw [vd_vs, x0, x1]; omega) (by rw [vd_vs, x0, x2]; omega)
      have pv : vx w v = v0 ∧ e = vd v (pc s2 30 (tp s2 (3 * t))) := by
        rcases o with ⟨o1, o2⟩ | ⟨o1, o2⟩
        · rw [o1, o2]
          exact ⟨par, e2⟩
        · rw [o1, o2, neg_vd, e2]
          exact ⟨vx_ng par, rfl⟩
      obtain ⟨pv1, pv2⟩ := pv
      rw [ev] at pv1
      have px := vx_sc g0 pv1
      have bd : bD s3 b f = vd (bN s3 b f) (pc s2 30 (tp s2 (3 * t))) := by
        rw [ee, ev, vl_d] at pv2
        exact Int.eq_of_mul_eq_mul_left (by omega) pv2
      obtain ⟨y1, hy1⟩ := pw
      obtain ⟨y2, hy2⟩ := a1
      rcases prim_eq hy1 hy2 px with e' | e'
      · exact .inl ⟨e', by rw [bd, e']; exact x0⟩
      · exact .inr ⟨e', by rw [bd, e', neg_vd, x0]⟩
  have F2 : F ≤ 2 := by
    refine Classical.byContradiction fun c => ?_
    have a01 := h5 0 1 (by omega) (by omega)
    have a02 := h5 0 2 (by omega) (by omega)
    have a12 := h5 1 2 (by omega) (by omega)
    rcases tabl 0 (by omega) with ⟨x, -⟩ | ⟨x, -⟩ <;> rcases tabl 1 (by omega) with ⟨y, -⟩ | ⟨y, -⟩ <;> rcases tabl 2 (by omega) with ⟨z, -⟩ | ⟨z, -⟩ <;> rw [x, y] at a01 <;> rw [x, z] at a02 <;> rw [y, z] at a12 <;> first | exact lxl_ir _ a01 | exact lxl_ir _ a02 | exact lxl_ir _ a12
  have hfc : ∀ f, f < F → fc (pc s3 (b + 1)) n (bN s3 b f) (bD s3 b f) := fun f hf => by
    rcases tabl f hf with ⟨x, y⟩ | ⟨x, y⟩
    · rw [x, y]
      exact fcw
    · rw [x, y]
      exact fcn
  -- a row that lies in the plane
  have row : ∃ m0 e', m0 ≠ v0 ∧ (∀ j, j < K → vd m0 (pc s2 30 j) ≤ e') ∧ vd m0 (pc s2 30 0) = e' ∧ vd m0 (pc s2 30 1) = e' ∧ vd m0 (pc s2 30 2) = e' := by
    have x1 := wk 1 (by omega) (by omega)
    have x2 := wk 2 (by omega) (by omega)
    by_cases lt : vd w (pc s2 30 3) < vd w (pc s2 30 0)
    · refine ⟨w, vd w (pc s2 30 0), prim_ne0 pw, fun j hj => ?_, rfl, x1, x2⟩
      by_cases j3 : j = 3
      · rw [j3]
        omega
      · rw [wk j hj j3]
        exact Int.le_refl _
    · refine ⟨vs v0 w, -(vd w (pc s2 30 0)), prim_ne0 (prim_neg pw), fun j hj => ?_, neg_vd _ _, by rw [neg_vd, x1], by rw [neg_vd, x2]⟩
      rw [neg_vd]
      by_cases j3 : j = 3
      · rw [j3]
        omega
      · rw [wk j hj j3]
        exact Int.le_refl _
  obtain ⟨m0, e', mz, hle, r0, r1, r2⟩ := row
  obtain ⟨i0, hi0, y0, y1, y2⟩ := face_row sb su sr fl T0 mz hle (show 0 < K by omega) (show 1 < K by omega) (show 2 < K by omega) r0 r1 r2
  obtain ⟨⟨t0, t1, t2⟩, -, e1, e2⟩ := tO_tp (show K ≤ 25 by omega) (ro (i0 / 3) (by omega))
  have nz := sb.2.1 i0 hi0
  have tipe : ∀ j, j / 3 = i0 / 3 → vd (nri (pc s2 30) (tp s2) i0) (pc s2 30 (tp s2 j)) = vd (nri (pc s2 30) (tp s2) i0) (pc s2 30 (tp s2 i0)) := fun j hj => nri_tip (by omega)
  rw [nri_row, ← e1] at y0 y1 y2 nz tipe
  have parN : vx (tN s2 (i0 / 3)) w = v0 := by
    refine along_along c012 ?_ ?_
    · exact cross_along (by rw [vd_vs, y0, y1]; omega) (by rw [vd_vs, y0, y2]; omega)
    · have x1 := wk 1 (by omega) (by omega)
      have x2 := wk 2 (by omega) (by omega)
      exact cross_along (by rw [vd_vs, x1]; omega) (by rw [vd_vs, x2]; omega)
  have off : ∀ j, j / 3 = i0 / 3 → tp s2 j ≠ 3 := fun j hj e3 => by
    have q := tipe j hj
    rw [e3] at q
    have sw := par_sw parN (vs (pc s2 30 3) (pc s2 30 0)) (tN s2 (i0 / 3))
    rw [vd_vs (tN s2 (i0 / 3)), q, y0, show vd (tN s2 (i0 / 3)) (pc s2 30 (tp s2 i0)) - vd (tN s2 (i0 / 3)) (pc s2 30 (tp s2 i0)) = 0 by omega, Int.zero_mul] at sw
    have := z_of_mul (vd_pos nz) sw.symm
    rw [vd_vs] at this
    omega
  have ntt : nt s2 (i0 / 3) := ⟨off _ (by omega), off _ (by omega), off _ (by omega)⟩
  obtain ⟨f1, g1, lf1, g10, en1⟩ := h7 (by omega) (tN s2 (i0 / 3)) (tD s2 (i0 / 3)) ⟨i0 / 3, by omega, nz, .inr ⟨by omega, ntt, .inl ⟨rfl, rfl⟩⟩⟩
  have nzn : vs v0 (tN s2 (i0 / 3)) ≠ v0 := vs_ne (Ne.symm nz)
  obtain ⟨f2, g2, lf2, g20, en2⟩ := h7 (by omega) (vs v0 (tN s2 (i0 / 3))) (-tD s2 (i0 / 3)) ⟨i0 / 3, by omega, nzn, .inr ⟨by omega, ntt, .inr ⟨rfl, rfl⟩⟩⟩
  have ne12 : bN s3 b f1 ≠ bN s3 b f2 := fun e => by
    obtain ⟨y, hy⟩ := (h6 f1 lf1).1
    have z1 : vd (tN s2 (i0 / 3)) y = g1 := by
      rw [en1, vl_d, hy]
      omega
    have z2 : vd (vs v0 (tN s2 (i0 / 3))) y = g2 := by
      rw [en2, vl_d, ← e, hy]
      omega
    rw [neg_vd] at z2
    omega
  have hasN : ∀ m, m = w ∨ m = vs v0 w → ∃ f, f < F ∧ bN s3 b f = m := fun m hm => by
    rcases tabl f1 lf1 with ⟨x, -⟩ | ⟨x, -⟩ <;> rcases tabl f2 lf2 with ⟨y, -⟩ | ⟨y, -⟩
    · exact absurd (x.trans y.symm) ne12
    · rcases hm with hm | hm
      · exact ⟨f1, lf1, by rw [hm]; exact x⟩
      · exact ⟨f2, lf2, by rw [hm]; exact y⟩
    · rcases hm with hm | hm
      · exact ⟨f2, lf2, by rw [hm]; exact y⟩
      · exact ⟨f1, lf1, by rw [hm]; exact x⟩
    · exact absurd (x.trans y.symm) ne12
  refine ⟨⟨hfc, h5, fun m e hm => ?_⟩, F2, w, _, pw, hplP⟩
  have mw : m = w ∨ m = vs v0 w := by
    rcases fc_flat pw hplP hm with ⟨x, -⟩ | ⟨x, -⟩
    · exact .inl x
    · exact .inr x
  obtain ⟨f, hf, ef⟩ := hasN m mw
  refine ⟨f, hf, ef, ?_⟩
  have h1 := hfc f hf
  rw [ef] at h1
  exact fc_d h1 hm
/-- no plane of at most two points -/
theorem fc_no {P : Nat → V3} {n : Nat} {m : V3} {e : Int} (hn : n ≤ 2) (h : fc P n m e) : False := by
  obtain ⟨-, ⟨x, y, z, hx, hy, hz, -, -, -, ne⟩, -⟩ := h
  have c : y = x ∨ z = x ∨ y = z := by omega
  rcases c with c | c | c
  · rw [c, vs_self] at ne
    exact ne (vx_0 _)
  · rw [c, vs_self] at ne
    exact ne (vx_anti0 (vx_0 _))
  · rw [c] at ne
    exact ne (vx_self _)
