/-- the skin after a knot is attached: the rows that stay (p), and new ones over horizon sides (g) -/
def NW (P : Nat → V3) (K T : Nat) (a : Nat → Nat) (M : Nat) (σ : Nat → Nat) (T1 T' : Nat) (a' p g : Nat → Nat) : Prop := (∀ i, i < 3 * T1 → p i < 3 * T ∧ ¬ trn P a K (p i) ∧ a' i = a (p i) ∧ p (nxs i) = nxs (p i)) ∧ (∀ i j, i < 3 * T1 → j < 3 * T1 → p i = p j → i = j) ∧ (∀ i, i < 3 * T → ¬ trn P a K i → ∃ i', i' < 3 * T1 ∧ p i' = i) ∧ T1 ≤ T' ∧ (∀ t, T1 ≤ t → t < T' → g t < 3 * M ∧ hor a σ M (g t) ∧ a' (3 * t) = a (σ (g t)) ∧ a' (3 * t + 1) = a (nxs (σ (g t))) ∧ a' (3 * t + 2) = K) ∧ ∀ t t', T1 ≤ t → T1 ≤ t' → t < T' → t' < T' → g t = g t' → t = t'
theorem NW_cas {T1 T' i : Nat} (hi : i < 3 * T') : i < 3 * T1 ∨ ∃ t, T1 ≤ t ∧ t < T' ∧ (i = 3 * t ∨ i = 3 * t + 1 ∨ i = 3 * t + 2) := by
  by_cases c : i < 3 * T1
  · exact .inl c
  · exact .inr ⟨i / 3, by omega, by omega, by omega⟩
theorem nx_0 (t : Nat) : nxs (3 * t) = 3 * t + 1 := by
  unfold nxs
  omega
theorem nx_1 (t : Nat) : nxs (3 * t + 1) = 3 * t + 2 := by
  unfold nxs
  omega
theorem nx_2 (t : Nat) : nxs (3 * t + 2) = 3 * t := by
  unfold nxs
  omega
theorem old_nri {P : Nat → V3} {K T M T1 T' : Nat} {a σ a' p g : Nat → Nat} (nw : NW P K T a M σ T1 T' a' p g) {i : Nat} (hi : i < 3 * T1) : nri P a' i = nri P a (p i) := by
  have h0 := nw.1 i hi
  have h1 := nw.1 _ (nxs_lt hi)
  have h2 := nw.1 _ (nxs_lt (nxs_lt hi))
  unfold nri
  rw [h0.2.2.1, h1.2.2.1, h2.2.2.1, h1.2.2.2, h0.2.2.2]
theorem old_tip {P : Nat → V3} {K T M T1 T' : Nat} {a σ a' p g : Nat → Nat} (nw : NW P K T a M σ T1 T' a' p g) {i : Nat} (hi : i < 3 * T1) : a' i = a (p i) ∧ a' (nxs i) = a (nxs (p i)) ∧ a' (nxs (nxs i)) = a (nxs (nxs (p i))) := by
  have h0 := nw.1 i hi
  have h1 := nw.1 _ (nxs_lt hi)
  have h2 := nw.1 _ (nxs_lt (nxs_lt hi))
  rw [h0.2.2.1, h1.2.2.1, h2.2.2.1, h1.2.2.2, h0.2.2.2]
  exact ⟨rfl, rfl, rfl⟩
theorem new_nri {P : Nat → V3} {K T M T1 T' : Nat} {a σ a' p g : Nat → Nat} (nw : NW P K T a M σ T1 T' a' p g) {t : Nat} (h1 : T1 ≤ t) (h2 : t < T') : nri P a' (3 * t) = vx (vs (P (a (nxs (σ (g t))))) (P (a (σ (g t))))) (vs (P K) (P (a (σ (g t))))) := by
  obtain ⟨-, -, e0, e1, e2⟩ := nw.2.2.2.2.1 t h1 h2
  unfold nri
  rw [nx_0, nx_1, e0, e1, e2]
/-- rows of the new skin: within the knots, not flat, bounding all knots -/
theorem NW_b {P : Nat → V3} {K T M T1 T' : Nat} {a σ a' p g : Nat → Nat} (sb : SB P K T a) (sr : SR T a) (fl : FL P K) (tr : TR P K T a M σ) (nw : NW P K T a M σ T1 T' a' p g) : (∀ i, i < 3 * T' → a' i < K + 1) ∧ (∀ i, i < 3 * T' → nri P a' i ≠ v0) ∧ (∀ i, i < 3 * T' → ∀ j, j < K + 1 → vd (nri P a' i) (P j) ≤ vd (nri P a' i) (P (a' i))) := by
  have base : ∀ t, T1 ≤ t → t < T' → nri P a' (3 * t) ≠ v0 ∧ ∀ j, j < K + 1 → vd (nri P a' (3 * t)) (P j) ≤ vd (nri P a' (3 * t)) (P (a' (3 * t))) := by
    intro t h1 h2
    obtain ⟨gl, ho, e0, e1, e2⟩ := nw.2.2.2.2.1 t h1 h2
    have hr := hor_row sb sr fl tr gl ho
    have on := nri_on P a' (3 * t)
    refine ⟨by rw [new_nri nw h1 h2]; exact hr.2, fun j hj => ?_⟩
    by_cases c : j = K
    · have := on.2
      rw [nx_0, nx_1, e2] at this
      rw [c, this]
      exact Int.le_refl _
    · rw [new_nri nw h1 h2, e0]
      exact hr.1 j (by omega)
  refine ⟨fun i hi => ?_, fun i hi => ?_, fun i hi => ?_⟩
  · rcases NW_cas (T1 := T1) hi with c | ⟨t, h1, h2, c⟩
    · rw [(nw.1 i c).2.2.1]
      have := sb.1 _ (nw.1 i c).1
      omega
    · obtain ⟨gl, -, e0, e1, e2⟩ := nw.2.2.2.2.1 t h1 h2
      have b := (tr.1 _ gl).1
      have x0 := sb.1 _ b
      have x1 := sb.1 _ (nxs_lt b)
      rcases c with c | c | c
      · rw [c, e0]
        omega
      · rw [c, e1]
        omega
      · rw [c, e2]
        omega
  · rcases NW_cas (T1 := T1) hi with c | ⟨t, h1, h2, c⟩
    · rw [old_nri nw c]
      exact sb.2.1 _ (nw.1 i c).1
    · have b := (base t h1 h2).1
      rcases c with c | c | c
      · rw [c]
        exact b
      · rw [c, ← nx_0, nri_nx]
        exact b
      · rw [c, ← nx_1, nri_nx, ← nx_0, nri_nx]
        exact b
  · rcases NW_cas (T1 := T1) hi with c | ⟨t, h1, h2, c⟩
    · intro j hj
      rw [old_nri nw c, (nw.1 i c).2.2.1]
      by_cases d : j = K
      · have := (nw.1 i c).2.1
        unfold trn at this
        rw [d]
        omega
      · exact sb.2.2.1 _ (nw.1 i c).1 j (by omega)
    · have b := (base t h1 h2).2
      have on := nri_on P a' (3 * t)
      rcases c with c | c | c
      · rw [c]
        exact b
      · rw [c, ← nx_0, nri_nx, on.1]
        exact b
      · rw [c, ← nx_1, nri_nx, ← nx_0, nri_nx, on.2]
        exact b
/-- a row that stays and a new one don't both rise at a knot -/
theorem NW_on {P : Nat → V3} {K T M T1 T' : Nat} {a σ a' p g : Nat → Nat} (sb : SB P K T a) (sr : SR T a) (fl : FL P K) (tr : TR P K T a M σ) (nw : NW P K T a M σ T1 T' a' p g) {h : V3} {i j t : Nat} (hi : i < 3 * T1) (h1 : T1 ≤ t) (h2 : t < T') (hj : j = 3 * t ∨ j = 3 * t + 1 ∨ j = 3 * t + 2) (e : a' i = a' j) (ri : ris P a' h i) (rj : ris P a' h j) : False := by
  obtain ⟨b1, b2, b3⟩ := NW_b sb sr fl tr nw
  have T12 := nw.2.2.2.1
  have hi' : i < 3 * T' := by omega
  have hj' : j < 3 * T' := by omega
  obtain ⟨gl, ho, e0, e1, e2⟩ := nw.2.2.2.2.1 t h1 h2
  obtain ⟨o0, o1, o2⟩ := old_tip nw hi
  have pl := (nw.1 i hi).1
  have L0 : a' i < K := by
    rw [o0]
    exact sb.1 _ pl
  have L1 : a' (nxs i) < K := by
    rw [o1]
    exact sb.1 _ (nxs_lt pl)
  have L2 : a' (nxs (nxs i)) < K := by
    rw [o2]
    exact sb.1 _ (nxs_lt (nxs_lt pl))
  have tb := tr.1 _ gl
  have tt := tb.2.1
  unfold trn at tt
  have B := sb.2.2.1 _ tb.1
  have on := nri_on P a (σ (g t))
  obtain ⟨y, hy, ny⟩ := fl (nri P a' i) (vd (nri P a' i) (P (a' i))) (b2 i hi')
  have by1 := b3 i hi' y (by omega)
  have bj : ∀ k, k < K + 1 → vd (nri P a' j) (P k) ≤ vd (nri P a' j) (P (a' i)) := by
    rw [e]
    exact b3 j hj'
  have bi := b3 i hi'
  unfold ris at ri rj
  rw [← e] at rj
  have ej : nri P a' j = vx (vs (P (a' (nxs j))) (P (a' i))) (vs (P (a' (nxs (nxs j)))) (P (a' i))) := by
    rw [e]
    rfl
  have lj1 := b1 _ (nxs_lt hj')
  have lj2 := b1 _ (nxs_lt (nxs_lt hj'))
  have sgn : 0 ≤ vd (nri P a (σ (g t))) (vs (P (a' (nxs (nxs j)))) (P (a' i))) ∧ 0 ≤ vd (nri P a (σ (g t))) (vs (P (a' (nxs j))) (P (a' i))) ∧ (0 < vd (nri P a (σ (g t))) (vs (P (a' (nxs (nxs j)))) (P (a' i))) ∨ 0 < vd (nri P a (σ (g t))) (vs (P (a' (nxs j))) (P (a' i)))) ∧ vd (nri P a (σ (g t))) (P (a' i)) = vd (nri P a (σ (g t))) (P (a (σ (g t)))) := by
    rw [vd_vs', vd_vs', e]
    rcases hj with c | c | c
    · subst c
      rw [nx_0, nx_1, e0, e1, e2]
      omega
    · subst c
      rw [nx_1, nx_2, e0, e1, e2]
      omega
    · subst c
      rw [e, e2] at L0
      omega
  refine ris_on (a := vs (P (a' (nxs (nxs i)))) (P (a' i))) (b := vs (P (a' (nxs i))) (P (a' i))) (a' := vs (P (a' (nxs (nxs j)))) (P (a' i))) (b' := vs (P (a' (nxs j))) (P (a' i))) (h := h) (m := nri P a (σ (g t))) (y := vs (P y) (P (a' i))) ?_ ?_ ?_ ?_ ?_ ?_ ?_ ?_ ?_ ?_ sgn.1 sgn.2.1 sgn.2.2.1 ?_ ?_
  · rw [vd_vs']
    omega
  · rw [vd_vs']
    omega
  · rw [vd_vs']
    omega
  · rw [vd_vs']
    omega
  · rw [vd_vs']
    have := bi _ lj2
    unfold nri at this
    omega
  · rw [vd_vs']
    have := bi _ lj1
    unfold nri at this
    omega
  · rw [← ej, vd_vs']
    have := bj _ (show a' (nxs (nxs i)) < K + 1 by omega)
    omega
  · rw [← ej, vd_vs']
    have := bj _ (show a' (nxs i) < K + 1 by omega)
    omega
  · rw [vd_vs', sgn.2.2.2]
    have := B _ L2
    omega
  · rw [vd_vs', sgn.2.2.2]
    have := B _ L1
    omega
  · rw [vd_vs']
    unfold nri at by1 ny
    omega
  · rw [← ej, vd_vs']
    have := bj y (by omega)
    omega
/-- two new rows don't both rise at the new knot -/
theorem NW_nn {P : Nat → V3} {K T M T1 T' : Nat} {a σ a' p g : Nat → Nat} (sb : SB P K T a) (su : SU T a) (sr : SR T a) (fl : FL P K) (nb : NB P K) (di : ∀ i j, i < K → j < K → P i = P j → i = j) (tr : TR P K T a M σ) (nw : NW P K T a M σ T1 T' a' p g) {h : V3} {t t' : Nat} (h1 : T1 ≤ t) (h2 : t < T') (h1' : T1 ≤ t') (h2' : t' < T') (ri : ris P a' h (3 * t + 2)) (rj : ris P a' h (3 * t' + 2)) : t = t' := by
  obtain ⟨b1, b2, b3⟩ := NW_b sb sr fl tr nw
  obtain ⟨gl, ho, e0, e1, e2⟩ := nw.2.2.2.2.1 t h1 h2
  obtain ⟨gl', ho', e0', e1', e2'⟩ := nw.2.2.2.2.1 t' h1' h2'
  have tb := tr.1 _ gl
  have tb' := tr.1 _ gl'
  have tt := tb.2.1
  have tt' := tb'.2.1
  unfold trn at tt tt'
  have B := sb.2.2.1 _ tb.1
  have B' := sb.2.2.1 _ tb'.1
  have on := (nri_on P a (σ (g t))).1
  have on' := (nri_on P a (σ (g t'))).1
  have bi := b3 (3 * t + 2) (by omega)
  have bj := b3 (3 * t' + 2) (by omega)
  obtain ⟨y, hy, ny⟩ := fl (nri P a' (3 * t + 2)) (vd (nri P a' (3 * t + 2)) (P (a' (3 * t + 2)))) (b2 (3 * t + 2) (by omega))
  have by1 := bi y (by omega)
  have by2 := bj y (by omega)
  have lu := sb.1 _ tb.1
  have lv := sb.1 _ (nxs_lt tb.1)
  have lu' := sb.1 _ tb'.1
  have lv' := sb.1 _ (nxs_lt tb'.1)
  have uv := tip_ne sb tb.1
  have un := su (σ (g t)) (σ (g t')) tb.1 tb'.1
  have fin : σ (g t) = σ (g t') → t = t' := fun q => nw.2.2.2.2.2 t t' h1 h1' h2 h2' (tr.2.1 _ _ gl gl' q)
  unfold ris at ri rj
  unfold nri at bi bj by1 by2 ny
  rw [nx_2, nx_0, e0, e1, e2] at ri bi by1 ny
  rw [nx_2, nx_0, e0', e1', e2'] at rj bj by2
  generalize nri P a (σ (g t)) = m at *
  generalize nri P a (σ (g t')) = m' at *
  generalize a (σ (g t)) = u at *
  generalize a (σ (g t')) = u' at *
  generalize a (nxs (σ (g t))) = v at *
  generalize a (nxs (σ (g t'))) = v' at *
  have bu' := bi u' (by omega)
  have bv' := bi v' (by omega)
  have bu := bj u (by omega)
  have bv := bj v (by omega)
  have Bu' := B u' lu'
  have Bv' := B v' lv'
  have Bu := B' u lu
  have Bv := B' v lv
  have pl := ris_pl (a := vs (P v) (P K)) (b := vs (P u) (P K)) (a' := vs (P v') (P K)) (b' := vs (P u') (P K)) (h := h) (by rw [vd_vs']; omega) (by rw [vd_vs']; omega) (by rw [vd_vs']; omega) (by rw [vd_vs']; omega) (by rw [vd_vs']; omega) (by rw [vd_vs']; omega) (by rw [vd_vs']; omega) (by rw [vd_vs']; omega)
  have rn := ris_nn (a := vs (P v) (P K)) (b := vs (P u) (P K)) (a' := vs (P v') (P K)) (b' := vs (P u') (P K)) (h := h) (m := m) (m' := m') (y := vs (P y) (P K)) (c := vd m (P K) - vd m (P u)) (c' := vd m' (P K) - vd m' (P u')) (by rw [vd_vs']; omega) (by rw [vd_vs']; omega) (by rw [vd_vs']; omega) (by rw [vd_vs']; omega) (by rw [vd_vs']; omega) (by rw [vd_vs']; omega) (by rw [vd_vs']; omega) (by rw [vd_vs']; omega) (by omega) (by omega) (by rw [vd_vs']; omega) (by rw [vd_vs']; omega) (by rw [vd_vs']; omega) (by rw [vd_vs']; omega) (by rw [vd_vs']; omega) (by rw [vd_vs']; omega) (by rw [vd_vs']; omega) (by rw [vd_vs']; omega) (by rw [vd_vs']; omega) (by rw [vd_vs']; omega)
  have na := vx_r (vs (P u) (P K)) (vs (P v) (P K))
  have nb' := vx_l (vs (P u) (P K)) (vs (P v) (P K))
  generalize vx (vs (P u) (P K)) (vs (P v) (P K)) = n at *
  rw [vd_vs', vd_vs'] at pl rn
  rw [vd_vs'] at na nb'
  have ny' : vd n (vs (P y) (P K)) ≠ 0 := by
    rw [vd_vs']
    omega
  have c1 : vx (vs (P u') (P v)) (vs (P u) (P v)) = v0 := two_pl (n := n) (m := m) (a := vs (P v) (P K)) (y := vs (P y) (P K)) (by rw [vd_vs']; omega) (by rw [vd_vs']; omega) (by rw [vd_vs']; omega) (by rw [vd_vs']; omega) (by rw [vd_vs']; omega) (by rw [vd_vs']; omega) ny'
  have c2 : vx (vs (P v') (P v)) (vs (P u) (P v)) = v0 := two_pl (n := n) (m := m) (a := vs (P v) (P K)) (y := vs (P y) (P K)) (by rw [vd_vs']; omega) (by rw [vd_vs']; omega) (by rw [vd_vs']; omega) (by rw [vd_vs']; omega) (by rw [vd_vs']; omega) (by rw [vd_vs']; omega) ny'
  have q1 : P u' = P u := by
    rcases on_line nb lu lv lu' uv c1 with w | w
    · exact w
    · rw [w] at rj
      omega
  have q2 : P v' = P v := by
    rcases on_line nb lu lv lv' uv c2 with w | w
    · rw [w] at rj
      omega
    · exact w
  exact fin (un (di _ _ lu lu' q1.symm) (di _ _ lv lv' q2.symm))
/-- the new skin is such a skin -/
theorem NW_SB {P : Nat → V3} {K T M T1 T' : Nat} {a σ a' p g : Nat → Nat} (sb : SB P K T a) (su : SU T a) (sr : SR T a) (fl : FL P K) (nb : NB P K) (di : ∀ i j, i < K → j < K → P i = P j → i = j) (tr : TR P K T a M σ) (nw : NW P K T a M σ T1 T' a' p g) : SB P (K + 1) T' a' := by
  obtain ⟨b1, b2, b3⟩ := NW_b sb sr fl tr nw
  obtain ⟨-, hc2, hc3⟩ := hor_cyc sb su sr fl nb di tr
  refine ⟨b1, b2, b3, fun h i j hi hj e ri rj => ?_⟩
  rcases NW_cas (T1 := T1) hi with c | ⟨t, h1, h2, c⟩
  · rcases NW_cas (T1 := T1) hj with d | ⟨t', h1', h2', d⟩
    · obtain ⟨o0, o1, o2⟩ := old_tip nw c
      obtain ⟨o0', o1', o2'⟩ := old_tip nw d
      refine nw.2.1 i j c d (sb.2.2.2 h (p i) (p j) (nw.1 i c).1 (nw.1 j d).1 ?_ ?_ ?_)
      · rw [← o0, ← o0', e]
      · unfold ris at ri ⊢
        rw [← o0, ← o1, ← o2]
        exact ri
      · unfold ris at rj ⊢
        rw [← o0', ← o1', ← o2']
        exact rj
    · exact absurd (NW_on sb sr fl tr nw c h1' h2' d e ri rj) (fun w => w)
  · rcases NW_cas (T1 := T1) hj with d | ⟨t', h1', h2', d⟩
    · exact absurd (NW_on sb sr fl tr nw d h1 h2 c e.symm rj ri) (fun w => w)
    · obtain ⟨gl, ho, e0, e1, e2⟩ := nw.2.2.2.2.1 t h1 h2
      obtain ⟨gl', ho', e0', e1', e2'⟩ := nw.2.2.2.2.1 t' h1' h2'
      have tb := tr.1 _ gl
      have tb' := tr.1 _ gl'
      have lu := sb.1 _ tb.1
      have lv := sb.1 _ (nxs_lt tb.1)
      have lu' := sb.1 _ tb'.1
      have lv' := sb.1 _ (nxs_lt tb'.1)
      have fin : g t = g t' → t = t' := fun q => nw.2.2.2.2.2 t t' h1 h1' h2 h2' q
      rcases c with c | c | c
      · rcases d with d | d | d
        · subst c
          subst d
          rw [e0, e0'] at e
          rw [fin (hc3 _ _ gl gl' ho ho' e)]
        · exfalso
          subst c
          subst d
          unfold ris at ri rj
          rw [nx_0, nx_1, e2] at ri
          rw [nx_1, nx_2, e2', ← e] at rj
          omega
        · exfalso
          subst c
          subst d
          rw [e0, e2'] at e
          omega
      · rcases d with d | d | d
        · exfalso
          subst c
          subst d
          unfold ris at ri rj
          rw [nx_1, nx_2, e2] at ri
          rw [nx_0, nx_1, e2', ← e] at rj
          omega
        · subst c
          subst d
          rw [e1, e1'] at e
          rw [fin (hor_one sb su sr fl nb di tr gl gl' ho ho' e)]
        · exfalso
          subst c
          subst d
          rw [e1, e2'] at e
          omega
      · rcases d with d | d | d
        · exfalso
          subst c
          subst d
          rw [e2, e0'] at e
          omega
        · exfalso
          subst c
          subst d
          rw [e2, e1'] at e
          omega
        · subst c
          subst d
          rw [NW_nn sb su sr fl nb di tr nw h1 h2 h1' h2' ri rj]
/-- every directed side of the new skin stands once -/
theorem NW_SU {P : Nat → V3} {K T M T1 T' : Nat} {a σ a' p g : Nat → Nat} (sb : SB P K T a) (su : SU T a) (sr : SR T a) (fl : FL P K) (nb : NB P K) (di : ∀ i j, i < K → j < K → P i = P j → i = j) (tr : TR P K T a M σ) (nw : NW P K T a M σ T1 T' a' p g) : SU T' a' := by
  obtain ⟨-, hc2, hc3⟩ := hor_cyc sb su sr fl nb di tr
  have mix : ∀ i t j, i < 3 * T1 → T1 ≤ t → t < T' → (j = 3 * t ∨ j = 3 * t + 1 ∨ j = 3 * t + 2) → a' i = a' j → a' (nxs i) = a' (nxs j) → False := by
    intro i t j hi h1 h2 hj e f
    obtain ⟨gl, ho, e0, e1, e2⟩ := nw.2.2.2.2.1 t h1 h2
    obtain ⟨o0, o1, -⟩ := old_tip nw hi
    have pl := nw.1 i hi
    have l0 := sb.1 _ pl.1
    have l1 := sb.1 _ (nxs_lt pl.1)
    have tb := tr.1 _ gl
    rcases hj with c | c | c
    · subst c
      rw [o0, e0] at e
      rw [nx_0, o1, e1] at f
      have := su _ _ pl.1 tb.1 e f
      exact pl.2.1 (this ▸ tb.2.1)
    · subst c
      rw [nx_1, o1, e2] at f
      omega
    · subst c
      rw [o0, e2] at e
      omega
  intro i j hi hj e f
  rcases NW_cas (T1 := T1) hi with c | ⟨t, h1, h2, c⟩
  · rcases NW_cas (T1 := T1) hj with d | ⟨t', h1', h2', d⟩
    · obtain ⟨o0, o1, o2⟩ := old_tip nw c
      obtain ⟨o0', o1', o2'⟩ := old_tip nw d
      refine nw.2.1 i j c d (su _ _ (nw.1 i c).1 (nw.1 j d).1 ?_ ?_)
      · rw [← o0, ← o0', e]
      · rw [← o1, ← o1', f]
    · exact absurd (mix i t' j c h1' h2' d e f) (fun w => w)
  · rcases NW_cas (T1 := T1) hj with d | ⟨t', h1', h2', d⟩
    · exact absurd (mix j t i d h1 h2 c e.symm f.symm) (fun w => w)
    · obtain ⟨gl, ho, e0, e1, e2⟩ := nw.2.2.2.2.1 t h1 h2
      obtain ⟨gl', ho', e0', e1', e2'⟩ := nw.2.2.2.2.1 t' h1' h2'
      have tb := tr.1 _ gl
      have tb' := tr.1 _ gl'
      have lu := sb.1 _ tb.1
      have lv := sb.1 _ (nxs_lt tb.1)
      have lu' := sb.1 _ tb'.1
      have lv' := sb.1 _ (nxs_lt tb'.1)
      have fin : g t = g t' → t = t' := fun q => nw.2.2.2.2.2 t t' h1 h1' h2 h2' q
      rcases c with c | c | c
      · subst c
        rcases d with d | d | d
        · subst d
          rw [e0, e0'] at e
          rw [fin (hc3 _ _ gl gl' ho ho' e)]
        · exfalso
          subst d
          rw [nx_0, nx_1, e1, e2'] at f
          omega
        · exfalso
          subst d
          rw [e0, e2'] at e
          omega
      · subst c
        rcases d with d | d | d
        · exfalso
          subst d
          rw [nx_0, nx_1, e1', e2] at f
          omega
        · subst d
          rw [e1, e1'] at e
          rw [fin (hor_one sb su sr fl nb di tr gl gl' ho ho' e)]
        · exfalso
          subst d
          rw [e1, e2'] at e
          omega
      · subst c
        rcases d with d | d | d
        · exfalso
          subst d
          rw [e2, e0'] at e
          omega
        · exfalso
          subst d
          rw [e2, e1'] at e
          omega
        · subst d
          rw [nx_2, nx_2, e0, e0'] at f
          rw [fin (hc3 _ _ gl gl' ho ho' f)]
/-- every side of the new skin has its reverse, if every horizon side has its row -/
theorem NW_SR {P : Nat → V3} {K T M T1 T' : Nat} {a σ a' p g : Nat → Nat} (sb : SB P K T a) (su : SU T a) (sr : SR T a) (fl : FL P K) (nb : NB P K) (di : ∀ i j, i < K → j < K → P i = P j → i = j) (tr : TR P K T a M σ) (nw : NW P K T a M σ T1 T' a' p g) (al : ∀ j, j < 3 * M → hor a σ M j → ∃ t, T1 ≤ t ∧ t < T' ∧ g t = j) : SR T' a' := by
  obtain ⟨hc1, hc2, -⟩ := hor_cyc sb su sr fl nb di tr
  have T12 := nw.2.2.2.1
  have old : ∀ i, i < 3 * T → ¬ trn P a K i → ∃ i', i' < 3 * T' ∧ a' i' = a i ∧ a' (nxs i') = a (nxs i) := fun i hi ni => by
    obtain ⟨i', h', e⟩ := nw.2.2.1 i hi ni
    obtain ⟨o0, o1, -⟩ := old_tip nw h'
    rw [e] at o0 o1
    exact ⟨i', by omega, o0, o1⟩
  intro i hi
  rcases NW_cas (T1 := T1) hi with c | ⟨t, h1, h2, c⟩
  · obtain ⟨o0, o1, -⟩ := old_tip nw c
    have pl := nw.1 i c
    obtain ⟨j, hj, f1, f2⟩ := sr (p i) pl.1
    by_cases w : trn P a K j
    · obtain ⟨b, hb, eb⟩ := tr.2.2 j hj w
      have ho : hor a σ M b := fun k hk ⟨x1, x2⟩ => by
        rw [eb] at x1 x2
        have tk := tr.1 k hk
        have := su (σ k) (p i) tk.1 pl.1 (x1.trans f2) (x2.trans f1)
        exact pl.2.1 (this ▸ tk.2.1)
      obtain ⟨t, g1, g2, g3⟩ := al b hb ho
      obtain ⟨-, -, e0, e1, -⟩ := nw.2.2.2.2.1 t g1 g2
      rw [g3, eb] at e0 e1
      refine ⟨3 * t, by omega, ?_, ?_⟩
      · rw [e0, f1, o1]
      · rw [nx_0, e1, f2, o0]
    · obtain ⟨i', h', x0, x1⟩ := old j hj w
      exact ⟨i', h', by rw [x0, f1, o1], by rw [x1, f2, o0]⟩
  · obtain ⟨gl, ho, e0, e1, e2⟩ := nw.2.2.2.2.1 t h1 h2
    rcases c with c | c | c
    · subst c
      obtain ⟨j, hj, nj, f1, f2⟩ := hor_rev sr tr gl ho
      obtain ⟨i', h', x0, x1⟩ := old j hj nj
      exact ⟨i', h', by rw [x0, f1, nx_0, e1], by rw [x1, f2, e0]⟩
    · subst c
      obtain ⟨j, hj, hoj, f⟩ := hc1 _ gl ho
      obtain ⟨t', g1, g2, g3⟩ := al j hj hoj
      obtain ⟨-, -, e0', -, e2'⟩ := nw.2.2.2.2.1 t' g1 g2
      rw [g3] at e0'
      exact ⟨3 * t' + 2, by omega, by rw [nx_1, e2', e2], by rw [nx_2, e0', f, e1]⟩
    · subst c
      obtain ⟨j, hj, hoj, f⟩ := hc2 _ gl ho
      obtain ⟨t', g1, g2, g3⟩ := al j hj hoj
      obtain ⟨-, -, -, e1', e2'⟩ := nw.2.2.2.2.1 t' g1 g2
      rw [g3] at e1'
      exact ⟨3 * t' + 1, by omega, by rw [nx_2, e1', f, e0], by rw [nx_1, e2', e2]⟩
