theorem prim_pos {n : V3} (h : ∃ x, vd n x = 1) : 0 < vd n n := by
  apply vd_pos
  intro e
  obtain ⟨x, hx⟩ := h
  rw [e] at hx
  simp [vd, v0] at hx
theorem neg_vd (n p : V3) : vd (vs v0 n) p = - vd n p := by
  obtain ⟨n1, n2, n3⟩ := n
  obtain ⟨p1, p2, p3⟩ := p
  simp only [vd, vs, v0]
  grind
