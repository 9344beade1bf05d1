theorem vl_d2 (g : Int) (n p : V3) : vd n (vl g p 0 v0) = g * vd n p := by
  rw [vd_comm, vl_d, vd_comm]
theorem sc_x0 (q a1 a2 a3 b1 b2 b3 c1 c2 c3 : Int) : (q * b2 + 0 * 0 - (q * a2 + 0 * 0)) * (q * c3 + 0 * 0 - (q * a3 + 0 * 0)) - (q * b3 + 0 * 0 - (q * a3 + 0 * 0)) * (q * c2 + 0 * 0 - (q * a2 + 0 * 0)) = q * q * ((b2 - a2) * (c3 - a3) - (b3 - a3) * (c2 - a2)) + 0 * 0 := by grind
theorem sc_x (q : Int) (a b c : V3) : vx (vs (vl q b 0 v0) (vl q a 0 v0)) (vs (vl q c 0 v0) (vl q a 0 v0)) = vl (q * q) (vx (vs b a) (vs c a)) 0 v0 := by
  refine Prod.ext ?_ (Prod.ext ?_ ?_)
  · exact sc_x0 q a.1 a.2.1 a.2.2 b.1 b.2.1 b.2.2 c.1 c.2.1 c.2.2
  · exact sc_x0 q a.2.1 a.2.2 a.1 b.2.1 b.2.2 b.1 c.2.1 c.2.2 c.1
  · exact sc_x0 q a.2.2 a.1 a.2.1 b.2.2 b.1 b.2.1 c.2.2 c.1 c.2.1
theorem out_noq {P : Nat → V3} {K T : Nat} {a : Nat → Nat} (sb : SB P K T a) (su : SU T a) (sr : SR T a) (fl : FL P K) (hT : 0 < T) {x u : V3} {q : Int} (q0 : 0 < q) (bx : ∀ i, i < 3 * T → vd (nri P a i) x ≤ q * vd (nri P a i) (P (a i))) (far : ∀ j, j < K → q * vd u (P j) < vd u x) : False := by
  have qq : 0 < q * q := Int.mul_pos q0 q0
  have ne : ∀ i, nri (fun j => vl q (P j) 0 v0) a i = vl (q * q) (nri P a i) 0 v0 := fun i => sc_x q _ _ _
  refine out_no (P := fun j => vl q (P j) 0 v0) (K := K) (T := T) (a := a) (x := x) (u := u) ⟨sb.1, fun i hi => ?_, fun i hi j hj => ?_, fun h i j hi hj e r1 r2 => sb.2.2.2 h i j hi hj e ?_ ?_⟩ su sr (fun n d hn => ?_) hT (fun i hi => ?_) (fun j hj => ?_)
  · rw [ne]
    exact fun z => sb.2.1 i hi (vl_z qq z)
  · rw [ne, vl_d, vl_d, vl_d2, vl_d2]
    exact Int.mul_le_mul_of_nonneg_left (Int.mul_le_mul_of_nonneg_left (sb.2.2.1 i hi j hj) (by omega)) (by omega)
  · obtain ⟨z1, z2⟩ := r1
    dsimp only at z1 z2
    rw [vl_d2, vl_d2] at z1 z2
    exact ⟨Int.lt_of_mul_lt_mul_left z1 (by omega), Int.lt_of_mul_lt_mul_left z2 (by omega)⟩
  · obtain ⟨z1, z2⟩ := r2
    dsimp only at z1 z2
    rw [vl_d2, vl_d2] at z1 z2
    exact ⟨Int.lt_of_mul_lt_mul_left z1 (by omega), Int.lt_of_mul_lt_mul_left z2 (by omega)⟩
  · by_cases dv : ∃ d', d = q * d'
    · obtain ⟨d', rfl⟩ := dv
      obtain ⟨j, hj, h⟩ := fl n d' hn
      refine ⟨j, hj, ?_⟩
      rw [vl_d2]
      exact fun e => h (Int.eq_of_mul_eq_mul_left (by omega) e)
    · obtain ⟨j, hj, h⟩ := fl n 0 hn
      refine ⟨j, hj, ?_⟩
      rw [vl_d2]
      exact fun e => dv ⟨_, e.symm⟩
  · rw [ne, vl_d, vl_d, vl_d2]
    exact Int.mul_le_mul_of_nonneg_left (bx i hi) (by omega)
  · rw [vl_d2]
    exact far j hj
theorem vl_d3 (M : Int) (n X m : V3) : vd n (vl M X 1 m) = M * vd n X + vd n m := by
  rw [vd_comm, vd_vl_l, vd_comm X, vd_comm m, Int.one_mul]
/-- a plane with all points on one side and three of them in it is the plane of a row -/
theorem face_row {P : Nat → V3} {K T : Nat} {a : Nat → Nat} (sb : SB P K T a) (su : SU T a) (sr : SR T a) (fl : FL P K) (hT : 0 < T) {m : V3} {e : Int} (m0 : m ≠ v0) (hle : ∀ j, j < K → vd m (P j) ≤ e) {x y z : Nat} (hx : x < K) (hy : y < K) (hz : z < K) (ex : vd m (P x) = e) (ey : vd m (P y) = e) (ez : vd m (P z) = e) : ∃ i, i < 3 * T ∧ vd (nri P a i) (P x) = vd (nri P a i) (P (a i)) ∧ vd (nri P a i) (P y) = vd (nri P a i) (P (a i)) ∧ vd (nri P a i) (P z) = vd (nri P a i) (P (a i)) := by
  refine Classical.byContradiction fun no => ?_
  have lt : ∀ i, i < 3 * T → vd (nri P a i) (va (va (P x) (P y)) (P z)) + 1 ≤ 3 * vd (nri P a i) (P (a i)) := fun i hi => by
    have h1 := sb.2.2.1 i hi x hx
    have h2 := sb.2.2.1 i hi y hy
    have h3 := sb.2.2.1 i hi z hz
    rw [vd_va, vd_va]
    by_cases q : vd (nri P a i) (P x) = vd (nri P a i) (P (a i)) ∧ vd (nri P a i) (P y) = vd (nri P a i) (P (a i)) ∧ vd (nri P a i) (P z) = vd (nri P a i) (P (a i))
    · exact absurd ⟨i, hi, q⟩ no
    · omega
  obtain ⟨M, M0, hM⟩ := bound_all (fun i => vd (nri P a i) m) (3 * T)
  have M1 : 0 < M + 1 := by omega
  have mm := vd_pos m0
  refine out_noq sb su sr fl hT (q := 3 * (M + 1)) (x := vl (M + 1) (va (va (P x) (P y)) (P z)) 1 m) (u := m) (by omega) (fun i hi => ?_) (fun j hj => ?_)
  · have h1 := lt i hi
    have h2 : vd (nri P a i) m < M := hM i hi
    have h3 := Int.mul_le_mul_of_nonneg_left h1 (show 0 ≤ M + 1 by omega)
    rw [vl_d3]
    have h4 : (M + 1) * (vd (nri P a i) (va (va (P x) (P y)) (P z)) + 1) = (M + 1) * vd (nri P a i) (va (va (P x) (P y)) (P z)) + (M + 1) := by rw [Int.mul_add, Int.mul_one]
    have h5 : (M + 1) * (3 * vd (nri P a i) (P (a i))) = 3 * (M + 1) * vd (nri P a i) (P (a i)) := by rw [← Int.mul_assoc, Int.mul_comm (M + 1) 3]
    omega
  · have h1 := Int.mul_le_mul_of_nonneg_left (hle j hj) (show 0 ≤ 3 * (M + 1) by omega)
    rw [vl_d3, vd_va, vd_va, ex, ey, ez]
    have h2 : (M + 1) * (e + e + e) = 3 * (M + 1) * e := by
      rw [show e + e + e = 3 * e by omega, ← Int.mul_assoc, Int.mul_comm (M + 1) 3]
    omega
/-- the table of all planes -/
def TB (P : Nat → V3) (n F : Nat) (nf : Nat → V3) (df : Nat → Int) : Prop := (∀ f, f < F → fc P n (nf f) (df f)) ∧ (∀ i j, i < j → j < F → lxl (nf i) (nf j)) ∧ ∀ m e, fc P n m e → ∃ f, f < F ∧ nf f = m ∧ df f = e
theorem srt_u {α : Type} {lt : α → α → Prop} (ir : ∀ a, ¬ lt a a) (tr : ∀ a b c, lt a b → lt b c → lt a c) {c c' : Nat} {l l' : Nat → α} (h2 : ∀ i j, i < j → j < c → lt (l i) (l j)) (h3 : ∀ i, i < c' → ∃ j, j < c ∧ l j = l' i) (h2' : ∀ i j, i < j → j < c' → lt (l' i) (l' j)) (h3' : ∀ i, i < c → ∃ j, j < c' ∧ l' j = l i) : c = c' ∧ ∀ j, j < c → l j = l' j := by
  have eq : ∀ i, i < c → i < c' → l i = l' i := by
    intro i
    induction i using Nat.strongRecOn with
    | _ i ih =>
      intro hi hi'
      obtain ⟨x, hx, ea⟩ := h3' i hi
      obtain ⟨y, hy, eb⟩ := h3 i hi'
      have a1 : ¬ x < i := fun q => by
        have e1 := ih x q (by omega) hx
        have e2 := h2 x i q hi
        rw [e1, ea] at e2
        exact ir _ e2
      have b1 : ¬ y < i := fun q => by
        have e1 := ih y q hy (by omega)
        have e2 := h2' y i q hi'
        rw [← e1, eb] at e2
        exact ir _ e2
      by_cases q : x = i
      · rw [← ea, q]
      · have w1 := h2' i x (by omega) hx
        by_cases q2 : y = i
        · rw [← eb, q2]
        · have w2 := h2 i y (by omega) hy
          rw [ea] at w1
          rw [eb] at w2
          exact absurd (tr _ _ _ w1 w2) (ir _)
  have le1 : ¬ c < c' := fun q => by
    obtain ⟨y, hy, eb⟩ := h3 c q
    have e1 := eq y hy (by omega)
    have e2 := h2' y c hy q
    rw [← e1, eb] at e2
    exact ir _ e2
  have le2 : ¬ c' < c := fun q => by
    obtain ⟨y, hy, eb⟩ := h3' c' q
    have e1 := eq y (by omega) hy
    have e2 := h2 y c' hy q
    rw [e1, eb] at e2
    exact ir _ e2
  exact ⟨by omega, fun j hj => eq j hj (by omega)⟩
theorem fc_d {P : Nat → V3} {n : Nat} {m : V3} {d d' : Int} (h : fc P n m d) (h' : fc P n m d') : d = d' := by
  obtain ⟨a1, ⟨i, -, -, hi, -, -, a2, -⟩, -⟩ := h
  obtain ⟨b1, ⟨j, -, -, hj, -, -, b2, -⟩, -⟩ := h'
  have := a1 j hj
  have := b1 i hi
  omega
theorem TB_u {P : Nat → V3} {n F F' : Nat} {nf nf' : Nat → V3} {df df' : Nat → Int} (h : TB P n F nf df) (h' : TB P n F' nf' df') : F = F' ∧ ∀ f, f < F → nf f = nf' f ∧ df f = df' f := by
  obtain ⟨e, q⟩ := srt_u (lt := lxl) lxl_ir (fun _ _ _ => lxl_tr) h.2.1 (fun i hi => by
    obtain ⟨f, hf, e1, -⟩ := h.2.2 _ _ (h'.1 i hi)
    exact ⟨f, hf, e1⟩) h'.2.1 (fun i hi => by
    obtain ⟨f, hf, e1, -⟩ := h'.2.2 _ _ (h.1 i hi)
    exact ⟨f, hf, e1⟩)
  refine ⟨e, fun f hf => ⟨q f hf, ?_⟩⟩
  have h1 := h.1 f hf
  have h2 := h'.1 f (by omega)
  rw [← q f hf] at h2
  exact fc_d h1 h2
theorem TB_cg {P P' : Nat → V3} {n F : Nat} {nf : Nat → V3} {df : Nat → Int} (h : TB P n F nf df) (e : ∀ j, j < n → P' j = P j) : TB P' n F nf df := by
  have cg : ∀ m d, fc P n m d ↔ fc P' n m d := fun m d => by
    constructor
    · intro ⟨a, ⟨i, j, k, hi, hj, hk, b⟩, c⟩
      refine ⟨fun i hi => by rw [e i hi]; exact a i hi, ⟨i, j, k, hi, hj, hk, ?_⟩, c⟩
      rw [e i hi, e j hj, e k hk]
      exact b
    · intro ⟨a, ⟨i, j, k, hi, hj, hk, b⟩, c⟩
      refine ⟨fun i hi => by rw [← e i hi]; exact a i hi, ⟨i, j, k, hi, hj, hk, ?_⟩, c⟩
      rw [← e i hi, ← e j hj, ← e k hk]
      exact b
  exact ⟨fun f hf => (cg _ _).mp (h.1 f hf), h.2.1, fun m d hm => h.2.2 m d ((cg m d).mpr hm)⟩
