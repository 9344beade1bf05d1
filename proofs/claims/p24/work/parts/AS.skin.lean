/-- the way of a row, seen from its tip i -/
def nri (P : Nat → V3) (a : Nat → Nat) (i : Nat) : V3 := vx (vs (P (a (nxs i))) (P (a i))) (vs (P (a (nxs (nxs i)))) (P (a i)))
theorem nxs3 (i : Nat) : nxs (nxs (nxs i)) = i := by
  unfold nxs
  omega
theorem nri_nx (P : Nat → V3) (a : Nat → Nat) (i : Nat) : nri P a (nxs i) = nri P a i := by
  unfold nri
  rw [nxs3]
  exact (vx_rot (P (a i)) (P (a (nxs i))) (P (a (nxs (nxs i))))).symm
/-- every tip lies in the row's plane -/
theorem nri_on (P : Nat → V3) (a : Nat → Nat) (i : Nat) : vd (nri P a i) (P (a (nxs i))) = vd (nri P a i) (P (a i)) ∧ vd (nri P a i) (P (a (nxs (nxs i)))) = vd (nri P a i) (P (a i)) := row_pl rfl rfl
/-- a row rises at its tip i -/
def ris (P : Nat → V3) (a : Nat → Nat) (h : V3) (i : Nat) : Prop := vd h (P (a (nxs (nxs i)))) < vd h (P (a i)) ∧ vd h (P (a i)) < vd h (P (a (nxs i)))
/-- a skin whose rows bound all knots, and no two of them rise at one knot -/
def SB (P : Nat → V3) (K T : Nat) (a : Nat → Nat) : Prop := (∀ i, i < 3 * T → a i < K) ∧ (∀ i, i < 3 * T → nri P a i ≠ v0) ∧ (∀ i, i < 3 * T → ∀ j, j < K → vd (nri P a i) (P j) ≤ vd (nri P a i) (P (a i))) ∧ ∀ h i j, i < 3 * T → j < 3 * T → a i = a j → ris P a h i → ris P a h j → i = j
/-- every directed side once -/
def SU (T : Nat) (a : Nat → Nat) : Prop := ∀ i j, i < 3 * T → j < 3 * T → a i = a j → a (nxs i) = a (nxs j) → i = j
/-- every side has its reverse -/
def SR (T : Nat) (a : Nat → Nat) : Prop := ∀ i, i < 3 * T → ∃ j, j < 3 * T ∧ a j = a (nxs i) ∧ a (nxs j) = a i
/-- the knots don't lie in one plane -/
def FL (P : Nat → V3) (K : Nat) : Prop := ∀ n d, n ≠ v0 → ∃ j, j < K ∧ vd n (P j) ≠ d
/-- the row of tip i is torn off by knot K -/
def trn (P : Nat → V3) (a : Nat → Nat) (K i : Nat) : Prop := vd (nri P a i) (P (a i)) < vd (nri P a i) (P K)
theorem trn_nx {P : Nat → V3} {a : Nat → Nat} {K i : Nat} : trn P a K (nxs i) ↔ trn P a K i := by
  unfold trn
  rw [nri_nx, (nri_on P a i).1]
/-- side j is one of the horizon -/
def hor (a σ : Nat → Nat) (M j : Nat) : Prop := ∀ i, i < 3 * M → ¬ (a (σ i) = a (nxs (σ j)) ∧ a (nxs (σ i)) = a (σ j))
/-- the rows that are torn off: σ lists their sides -/
def TR (P : Nat → V3) (K T : Nat) (a : Nat → Nat) (M : Nat) (σ : Nat → Nat) : Prop := (∀ i, i < 3 * M → σ i < 3 * T ∧ trn P a K (σ i) ∧ σ (nxs i) = nxs (σ i)) ∧ (∀ i j, i < 3 * M → j < 3 * M → σ i = σ j → i = j) ∧ ∀ i, i < 3 * T → trn P a K i → ∃ b, b < 3 * M ∧ σ b = i
theorem SB_inn {P : Nat → V3} {K T : Nat} {a : Nat → Nat} (sb : SB P K T a) (fl : FL P K) {i : Nat} (hi : i < 3 * T) : ∃ j, j < K ∧ vd (nri P a i) (P j) < vd (nri P a i) (P (a i)) := by
  obtain ⟨j, hj, e⟩ := fl (nri P a i) (vd (nri P a i) (P (a i))) (sb.2.1 i hi)
  have := sb.2.2.1 i hi j hj
  exact ⟨j, hj, by omega⟩
/-- the row that stays at the other side of a horizon side -/
theorem hor_rev {P : Nat → V3} {K T M : Nat} {a σ : Nat → Nat} (sr : SR T a) (tr : TR P K T a M σ) {j : Nat} (hj : j < 3 * M) (ho : hor a σ M j) : ∃ i, i < 3 * T ∧ ¬ trn P a K i ∧ a i = a (nxs (σ j)) ∧ a (nxs i) = a (σ j) := by
  obtain ⟨i, hi, e1, e2⟩ := sr (σ j) (tr.1 j hj).1
  refine ⟨i, hi, fun w => ?_, e1, e2⟩
  obtain ⟨b, hb, eb⟩ := tr.2.2 i hi w
  refine ho b hb ?_
  rw [eb]
  exact ⟨e1, e2⟩
/-- the new row over a horizon side bounds the old knots, and is not flat -/
theorem hor_row {P : Nat → V3} {K T M : Nat} {a σ : Nat → Nat} (sb : SB P K T a) (sr : SR T a) (fl : FL P K) (tr : TR P K T a M σ) {j : Nat} (hj : j < 3 * M) (ho : hor a σ M j) : (∀ k, k < K → vd (vx (vs (P (a (nxs (σ j)))) (P (a (σ j)))) (vs (P K) (P (a (σ j))))) (P k) ≤ vd (vx (vs (P (a (nxs (σ j)))) (P (a (σ j)))) (vs (P K) (P (a (σ j))))) (P (a (σ j)))) ∧ vx (vs (P (a (nxs (σ j)))) (P (a (σ j)))) (vs (P K) (P (a (σ j)))) ≠ v0 := by
  obtain ⟨i, hi, ni, e1, e2⟩ := hor_rev sr tr hj ho
  have b := tr.1 j hj
  have on := nri_on P a i
  refine new_row (P := P) (K := K) (nT := nri P a (σ j)) (nR := nri P a i) (a := P (a (nxs (nxs (σ j))))) (dT := vd (nri P a (σ j)) (P (a (σ j)))) (dR := vd (nri P a i) (P (a i))) rfl rfl ?_ ?_ (sb.2.2.1 _ b.1) (sb.2.2.1 i hi) (sb.2.2.1 i hi _ (sb.1 _ (nxs_lt (nxs_lt b.1)))) (SB_inn sb fl hi) b.2.1 (by unfold trn at ni; omega)
  · rw [← e2]
    exact on.1
  · rw [← e1]
/-- the new knot is none of the old -/
theorem hor_new {P : Nat → V3} {K T : Nat} {a : Nat → Nat} (sb : SB P K T a) {i : Nat} (hi : i < 3 * T) (ti : trn P a K i) : ∀ k, k < K → P k ≠ P K := fun k hk e => by
  have := sb.2.2.1 i hi k hk
  unfold trn at ti
  rw [e] at this
  omega
theorem tip_ne {P : Nat → V3} {K T : Nat} {a : Nat → Nat} (sb : SB P K T a) {i : Nat} (hi : i < 3 * T) : P (a i) ≠ P (a (nxs i)) := fun e => sb.2.1 i hi (by
  unfold nri
  rw [← e, vs_self, vx_0])
/-- one horizon side ends at a knot -/
theorem hor_one {P : Nat → V3} {K T M : Nat} {a σ : Nat → Nat} (sb : SB P K T a) (su : SU T a) (sr : SR T a) (fl : FL P K) (nb : NB P K) (di : ∀ i j, i < K → j < K → P i = P j → i = j) (tr : TR P K T a M σ) {j j' : Nat} (hj : j < 3 * M) (hj' : j' < 3 * M) (ho : hor a σ M j) (ho' : hor a σ M j') (e : a (nxs (σ j)) = a (nxs (σ j'))) : j = j' := by
  have r := hor_row sb sr fl tr hj ho
  have r' := hor_row sb sr fl tr hj' ho'
  have b := tr.1 j hj
  have b' := tr.1 j' hj'
  have lt : ∀ i, i < 3 * T → a i < K := sb.1
  have un := su (σ j) (σ j') b.1 b'.1
  have R1 := vx_rot (P (a (σ j))) (P (a (nxs (σ j)))) (P K)
  have R2 := vx_rot (P (a (σ j'))) (P (a (nxs (σ j')))) (P K)
  rw [R1] at r
  rw [R2] at r'
  have T1 : nri P a (σ j) = vx (vs (P (a (nxs (nxs (σ j))))) (P (a (nxs (σ j))))) (vs (P (a (σ j))) (P (a (nxs (σ j))))) := vx_rot _ _ _
  have T2 : nri P a (σ j') = vx (vs (P (a (nxs (nxs (σ j'))))) (P (a (nxs (σ j'))))) (vs (P (a (σ j'))) (P (a (nxs (σ j'))))) := vx_rot _ _ _
  have n1 := nri_on P a (σ j)
  have n2 := nri_on P a (σ j')
  have B1 := sb.2.2.1 _ b.1
  have B2 := sb.2.2.1 _ b'.1
  have t1 := b.2.1
  have t2 := b'.2.1
  unfold trn at t1 t2
  have c1 : vd (vx (vs (P K) (P (a (nxs (σ j))))) (vs (P (a (σ j))) (P (a (nxs (σ j)))))) (P (a (nxs (σ j)))) = vd (vx (vs (P K) (P (a (nxs (σ j))))) (vs (P (a (σ j))) (P (a (nxs (σ j)))))) (P (a (σ j))) := by
    rw [← R1]
    exact (row_pl rfl rfl).1
  have c2 : vd (vx (vs (P K) (P (a (nxs (σ j'))))) (vs (P (a (σ j'))) (P (a (nxs (σ j')))))) (P (a (nxs (σ j')))) = vd (vx (vs (P K) (P (a (nxs (σ j'))))) (vs (P (a (σ j'))) (P (a (nxs (σ j')))))) (P (a (σ j'))) := by
    rw [← R2]
    exact (row_pl rfl rfl).1
  have ne1 := tip_ne sb b.1
  have ne2 := tip_ne sb b'.1
  have l1 := lt _ b.1
  have l2 := lt _ b'.1
  have l3 := lt _ (nxs_lt b.1)
  have l5 := lt _ (nxs_lt (nxs_lt b.1))
  have l6 := lt _ (nxs_lt (nxs_lt b'.1))
  rw [T1] at n1 B1 t1
  rw [T2] at n2 B2 t2
  rw [← e] at r' n2 B2 t2 c2 ne2 un
  generalize a (nxs (σ j)) = v at *
  generalize a (σ j) = u at *
  generalize a (σ j') = u' at *
  generalize a (nxs (nxs (σ j))) = k at *
  generalize a (nxs (nxs (σ j'))) = k' at *
  have d1 : vd (vx (vs (P K) (P v)) (vs (P u) (P v))) (vs (P u') (P v)) ≤ 0 := by
    have := r.1 u' l2
    rw [vd_vs']
    omega
  have d2 : vd (vx (vs (P K) (P v)) (vs (P u') (P v))) (vs (P u) (P v)) ≤ 0 := by
    have := r'.1 u l1
    rw [vd_vs']
    omega
  have d0 : vd (vx (vs (P K) (P v)) (vs (P u) (P v))) (vs (P u') (P v)) = 0 := by
    have := tr23 (vs (P K) (P v)) (vs (P u) (P v)) (vs (P u') (P v))
    omega
  obtain ⟨x, y, hx, hy, h⟩ := hor_ray (al := vs (P u) (P v)) (be := vs (P u') (P v)) (k := vs (P k) (P v)) (k' := vs (P k') (P v)) (w := vs (P K) (P v)) d0 (by rw [vd_vs']; omega) (by rw [vd_vs']; omega) (by rw [vd_vs']; have := B1 u' l2; omega) (by rw [vd_vs']; have := B2 u l1; omega) (by rw [vd_vs']; have := r'.1 k l5; omega) (by rw [vd_vs']; have := r.1 k' l6; omega) r'.2
  have key : σ j = σ j' := by
    by_cases q : x = y
    · refine un (di _ _ l1 l2 ?_) rfl
      refine vs_inj (c := P v) (fun r => ?_)
      have := h r
      rw [q] at this
      exact (Int.eq_of_mul_eq_mul_left (by omega) this).symm
    · by_cases q2 : y < x
      · exact absurd (nb u' u v x y l2 l1 l3 hy q2 h) ne2
      · exact absurd (nb u u' v y x l1 l2 l3 hx (by omega) (fun r => (h r).symm)) ne1
  exact tr.2.1 j j' hj hj' key
/-- where a horizon side ends another begins, and every one begins so -/
theorem hor_cyc {P : Nat → V3} {K T M : Nat} {a σ : Nat → Nat} (sb : SB P K T a) (su : SU T a) (sr : SR T a) (fl : FL P K) (nb : NB P K) (di : ∀ i j, i < K → j < K → P i = P j → i = j) (tr : TR P K T a M σ) : (∀ j, j < 3 * M → hor a σ M j → ∃ j', j' < 3 * M ∧ hor a σ M j' ∧ a (σ j') = a (nxs (σ j))) ∧ (∀ j, j < 3 * M → hor a σ M j → ∃ j', j' < 3 * M ∧ hor a σ M j' ∧ a (nxs (σ j')) = a (σ j)) ∧ (∀ j j', j < 3 * M → j' < 3 * M → hor a σ M j → hor a σ M j' → a (σ j) = a (σ j') → j = j') := by
  have h1 : ∀ j, j < 3 * M → hor a σ M j → ∃ j', j' < 3 * M ∧ hor a σ M j' ∧ a (σ j') = a (nxs (σ j)) := fun j hj ho => by
    obtain ⟨j', a1, a2, a3⟩ := hor_next (M := M) (F := fun i => a (σ i)) (G := fun i => a (nxs (σ i))) (fun i hi => by
      show a (σ (nxs i)) = a (nxs (σ i))
      rw [(tr.1 i hi).2.2]) (fun i k hi hk e1 e2 => tr.2.1 i k hi hk (su _ _ (tr.1 i hi).1 (tr.1 k hk).1 e1 e2)) hj ho
    exact ⟨j', a1, a3, a2⟩
  classical
  have fE : ∃ f : Nat → Nat, ∀ j, j < 3 * M ∧ hor a σ M j → f j < 3 * M ∧ hor a σ M (f j) ∧ a (σ (f j)) = a (nxs (σ j)) := by
    refine ⟨fun j => if h : j < 3 * M ∧ hor a σ M j then Classical.choose (h1 j h.1 h.2) else 0, fun j h => ?_⟩
    show (if h : j < 3 * M ∧ hor a σ M j then Classical.choose (h1 j h.1 h.2) else 0) < 3 * M ∧ hor a σ M (if h : j < 3 * M ∧ hor a σ M j then Classical.choose (h1 j h.1 h.2) else 0) ∧ a (σ (if h : j < 3 * M ∧ hor a σ M j then Classical.choose (h1 j h.1 h.2) else 0)) = a (nxs (σ j))
    rw [dif_pos h]
    exact Classical.choose_spec (h1 j h.1 h.2)
  obtain ⟨f, hf⟩ := fE
  have back : ∀ j, j < 3 * M → hor a σ M j → ∃ j', (j' < 3 * M ∧ hor a σ M j') ∧ f j' = j := fun j hj ho => by
    obtain ⟨r, r1, -, rc, -, -, al⟩ := cyc (m := 3 * M) (E := fun j => j < 3 * M ∧ hor a σ M j) (f := f) (fun x hx => ⟨hx.1, (hf x hx).1, (hf x hx).2.1⟩) (fun x y hx hy e => by
      have e1 := (hf x hx).2.2
      have e2 := (hf y hy).2.2
      rw [e] at e1
      exact hor_one sb su sr fl nb di tr hx.1 hy.1 hx.2 hy.2 (e1.symm.trans e2)) (s := j) ⟨hj, ho⟩
    obtain ⟨r', rfl⟩ : ∃ r', r = r' + 1 := ⟨r - 1, by omega⟩
    exact ⟨itr f r' j, al r', rc⟩
  refine ⟨h1, fun j hj ho => ?_, fun j j' hj hj' ho ho' e => ?_⟩
  · obtain ⟨j', h, e⟩ := back j hj ho
    refine ⟨j', h.1, h.2, ?_⟩
    rw [← e]
    exact (hf j' h).2.2.symm
  · obtain ⟨i, hi, ei⟩ := back j hj ho
    obtain ⟨i', hi', ei'⟩ := back j' hj' ho'
    have e1 := (hf i hi).2.2
    have e2 := (hf i' hi').2.2
    rw [ei] at e1
    rw [ei'] at e2
    have := hor_one sb su sr fl nb di tr hi.1 hi'.1 hi.2 hi'.2 (e1.symm.trans (e.trans e2))
    rw [← ei, ← ei', this]
