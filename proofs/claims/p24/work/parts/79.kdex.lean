theorem rv_1 (e1 e2 e3 y1 y2 y3 w1 w2 w3 : Int) : (e2 * y3 - e3 * y2) * w1 + (e3 * y1 - e1 * y3) * w2 + (e1 * y2 - e2 * y1) * w3 = (w2 * e3 - w3 * e2) * y1 + (w3 * e1 - w1 * e3) * y2 + (w1 * e2 - w2 * e1) * y3 := by grind
theorem tri2 (e y w : V3) : vd (vx e y) w = vd (vx w e) y := rv_1 e.1 e.2.1 e.2.2 y.1 y.2.1 y.2.2 w.1 w.2.1 w.2.2
/-- what is across all that is across e lies along e -/
theorem perp_all {e w : V3} (h : ∀ u, vd u e = 0 → vd u w = 0) : vx w e = v0 := by
  by_cases c : vx w e = v0
  · exact c
  · exfalso
    have h1 : vd (vx e (vx w e)) w = 0 := h _ (vx_at e (vx w e))
    rw [tri2] at h1
    have := vd_pos c
    omega
/-- three points off one line: three or more that are farthest along some way -/
theorem ex3 {w : V3} {P : Nat → V3} {n m : Nat} {c : Nat → Nat} (ho : inOrd w P n) (h : exL P n m c) (hne : ∃ i j k, i < n ∧ j < n ∧ k < n ∧ vx (vs (P j) (P i)) (vs (P k) (P i)) ≠ v0) : 3 ≤ m := by
  obtain ⟨i, j, k, hi, hj, hk, hne⟩ := hne
  by_cases c3 : 3 ≤ m
  · exact c3
  · exfalso
    obtain ⟨a, ha, xa, ma⟩ := ex_max ho (by omega) w
    obtain ⟨b, hb, xb, mb⟩ := ex_max ho (by omega) (vs v0 w)
    obtain ⟨ja, ja1, ja2⟩ := h.2.2 a ha xa
    obtain ⟨jb, jb1, jb2⟩ := h.2.2 b hb xb
    have ab : vs (P b) (P a) ≠ v0 := by
      intro e
      have e1 : vd w (vs (P b) (P a)) = 0 := by
        rw [e, vd_comm, vd_0]
      rw [vd_vs] at e1
      have ij : i ≠ j := by
        intro q
        rw [q, vs_self, vx_0] at hne
        exact hne rfl
      have a1 := ma i hi
      have a2 := ma j hj
      have b1 := mb i hi
      have b2 := mb j hj
      rw [neg_vd, neg_vd] at b1 b2
      by_cases q : i < j
      · have := ho i j q hj
        rw [vd_vs] at this
        omega
      · have := ho j i (by omega) hi
        rw [vd_vs] at this
        omega
    have two : ∀ v, v < n → ex P n v → v = a ∨ v = b := by
      intro v hv xv
      obtain ⟨jv, jv1, jv2⟩ := h.2.2 v hv xv
      have jab : ja ≠ jb := by
        intro e
        rw [← ja2, ← jb2, e, vs_self] at ab
        exact ab rfl
      by_cases q : jv = ja
      · left
        rw [← jv2, ← ja2, q]
      · right
        have : jv = jb := by omega
        rw [← jv2, ← jb2, this]
    have line : ∀ x, x < n → vx (vs (P x) (P a)) (vs (P b) (P a)) = v0 := by
      intro x hx
      refine perp_all (fun u hu => ?_)
      rw [vd_vs] at hu
      rw [vd_vs]
      obtain ⟨v, hv, xv, mv⟩ := ex_max ho (by omega) u
      obtain ⟨v', hv', xv', mv'⟩ := ex_max ho (by omega) (vs v0 u)
      have l1 := mv x hx
      have l2 := mv' x hx
      rw [neg_vd, neg_vd] at l2
      have e1 : vd u (P v) = vd u (P a) := by
        rcases two v hv xv with q | q
        · rw [q]
        · rw [q]
          omega
      have e2 : vd u (P v') = vd u (P a) := by
        rcases two v' hv' xv' with q | q
        · rw [q]
        · rw [q]
          omega
      omega
    exact hne (line_line ab (line i hi) (line j hj) (line k hk))
theorem exL_inc {P : Nat → V3} {n m : Nat} {c : Nat → Nat} (h : exL P n m c) : ∀ j, j < m → j ≤ c j := by
  intro j
  induction j with
  | zero =>
    intro _
    omega
  | succ j ih =>
    intro hj
    have h1 := ih (by omega)
    have h2 := h.2.1 j (j + 1) (by omega) hj
    omega
/-- the KIND of the points that are farthest along some way is that of all -/
theorem kd_ex {s : mS} {v : V3} {n m k : Nat} {c : Nat → Nat} (hO : hpO s n) (h : exL (hp s) n m c) (kd : kdO (hp s) v n k) : kdP (fun j => hp s (c j)) m k := by
  have ho := hpO_ord hO
  have inc := exL_inc h
  have pos : ∀ p, p < n → ex (hp s) n p → 0 < m := by
    intro p hp0 xp
    obtain ⟨j, j1, -⟩ := h.2.2 p hp0 xp
    omega
  have ends : 2 ≤ n → 2 ≤ m := by
    intro h2
    obtain ⟨j, j1, j2⟩ := h.2.2 0 (by omega) (ex_first hO)
    obtain ⟨j', j3, j4⟩ := h.2.2 (n - 1) (by omega) (ex_last hO)
    by_cases e : j = j'
    · rw [e] at j2
      omega
    · omega
  have mn : m ≤ n := by
    by_cases q : m = 0
    · omega
    · have := inc (m - 1) (by omega)
      have := (h.1 (m - 1) (by omega)).1
      omega
  rcases kd with ⟨q1, q2⟩ | ⟨q1, q2, q3⟩ | ⟨q1, q2, q3, q4, r, G, r1, G0, q5, q6⟩
  · left
    by_cases c2 : 2 ≤ n
    · have := ends c2
      omega
    · by_cases c1 : n = 1
      · have := pos 0 (by omega) (ex_first hO)
        omega
      · omega
  · left
    have m2 := ends (by omega)
    by_cases c3 : m = 2
    · omega
    · exfalso
      have o1 := h.2.1 0 1 (by omega) (by omega)
      have o2 := h.2.1 1 2 (by omega) (by omega)
      have h2 := (h.1 2 (by omega)).1
      have h1 := h.1 1 (by omega)
      have ne10 : vs (hp s 1) (hp s 0) ≠ v0 := by
        intro e
        have := hO.2.2 0 1 (by omega) (by omega)
        have e2 : vd wO (vs (hp s 1) (hp s 0)) = 0 := by
          rw [e, vd_comm, vd_0]
        rw [vd_vs] at e2
        omega
      exact mid_off ho o1 o2 h2 h1.2 (line_line ne10 (vx_anti0 (q3 _ (by omega))) (vx_anti0 (q3 _ h1.1)) (vx_anti0 (q3 _ h2)))
  · right
    have m3 : 3 ≤ m := ex3 ho h ⟨0, 1, r, by omega, by omega, r1, q6⟩
    rcases q2 with ⟨k3, q2⟩ | ⟨k4, i, hi, q2⟩
    · exact .inl ⟨m3, k3, v, vd v (hp s 0), q4, fun j hj => q2 (c j) (h.1 j hj).1⟩
    · have kd4 : kdO (hp s) v n 4 := .inr (.inr ⟨q1, .inr ⟨rfl, i, hi, q2⟩, q3, q4, r, G, r1, G0, q5, q6⟩)
      exact .inr ⟨m3, k4, exL_full ho (by omega) h (kd_full kd4 q1)⟩
theorem ok_exP {s : mS} {n m k : Nat} {c : Nat → Nat} (hO : hpO s n) (h : exL (hp s) n m c) (kd : kdP (fun j => hp s (c j)) m k) (m24 : m ≤ 24) (bd : ∀ j, j < m → bd3 (hp s (c j)) 100) : okP (fun j => hp s (c j)) m k := by
  refine ⟨m24, bd, fun i j hij hj => ?_, exL_ex h, kd⟩
  have := hO.2.2 (c i) (c j) (h.2.1 i j hij hj) (h.1 j hj).1
  show 0 < vd wO (vs (hp s (c j)) (hp s (c i)))
  rw [vd_vs]
  omega
/-- the CORNERS that become a SOLID are well -/
theorem ok_ex {s : mS} {v : V3} {n m k : Nat} {c : Nat → Nat} (hO : hpO s n) (h : exL (hp s) n m c) (kd : kdO (hp s) v n k) (m24 : m ≤ 24) (bd : ∀ j, j < m → bd3 (hp s (c j)) 100) : okP (fun j => hp s (c j)) m k := by
  refine ⟨m24, bd, fun i j hij hj => ?_, exL_ex h, kd_ex hO h kd⟩
  have := hO.2.2 (c i) (c j) (h.2.1 i j hij hj) (h.1 j hj).1
  show 0 < vd wO (vs (hp s (c j)) (hp s (c i)))
  rw [vd_vs]
  omega
