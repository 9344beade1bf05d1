theorem bet1 {x y a b c : Int} (h0 : 0 < y) (h1 : y < x) (h : x * (a - c) = y * (b - c)) (hb : b ≤ a) (hc : c ≤ a) : a = c ∧ b = c := by
  have p : a - c = 0 := by
    by_cases q : a - c = 0
    · exact q
    · exfalso
      have g1 : y * (b - c) ≤ y * (a - c) := Int.mul_le_mul_of_nonneg_left (by omega) (Int.le_of_lt h0)
      have g2 : y * (a - c) < x * (a - c) := Int.mul_lt_mul_of_pos_right h1 (by omega)
      omega
  rw [p, Int.mul_zero] at h
  have := (Int.mul_eq_zero.mp h.symm).resolve_left (by omega)
  omega
theorem lxl_va {a b c d : V3} (h1 : ¬ lxl a b) (h2 : ¬ lxl c d) : ¬ lxl (va a c) (va b d) := by
  unfold lxl at *
  have e1 : (va a c).1 = a.1 + c.1 := rfl
  have e2 : (va a c).2.1 = a.2.1 + c.2.1 := rfl
  have e3 : (va a c).2.2 = a.2.2 + c.2.2 := rfl
  have f1 : (va b d).1 = b.1 + d.1 := rfl
  have f2 : (va b d).2.1 = b.2.1 + d.2.1 := rfl
  have f3 : (va b d).2.2 = b.2.2 + d.2.2 := rfl
  rw [e1, e2, e3, f1, f2, f3]
  omega
theorem lxl_bet {x y : Int} {a b c : V3} (h0 : 0 < y) (h1 : y < x) (h : ∀ r, x * vd r (vs a c) = y * vd r (vs b c)) (hb : ¬ lxl a b) (hc : ¬ lxl a c) : a = c := by
  have k1 := h (1, 0, 0)
  have k2 := h (0, 1, 0)
  have k3 := h (0, 0, 1)
  rw [ex_1, ex_1] at k1
  rw [ex_2, ex_2] at k2
  rw [ex_3, ex_3] at k3
  unfold lxl at hb hc
  have m1 := bet1 (a := a.1) (b := b.1) (c := c.1) h0 h1 k1 (by omega) (by omega)
  have m2 := bet1 (a := a.2.1) (b := b.2.1) (c := c.2.1) h0 h1 k2 (by omega) (by omega)
  have m3 := bet1 (a := a.2.2) (b := b.2.2) (c := c.2.2) h0 h1 k3 (by omega) (by omega)
  exact v3_ext m1.1 m2.1 m3.1
/-- a sum that lies farthest along some way lies between no two others -/
theorem no_bet {s : cS} {p q kp kq i j a a' b b' : Nat} {d : V3} {x y : Int} (f : fzz s p q kp kq d i j) (ha : a < kp) (ha' : a' < kq) (hb : b < kp) (hb' : b' < kq) (h0 : 0 < y) (h1 : y < x) (h : ∀ r, x * vd r (vs (va (pc s p i) (pc s q j)) (va (pc s p b) (pc s q b'))) = y * vd r (vs (va (pc s p a) (pc s q a')) (va (pc s p b) (pc s q b')))) : va (pc s p i) (pc s q j) = va (pc s p b) (pc s q b') := by
  have l1 := fzz_le f ha ha'
  have l2 := fzz_le f hb hb'
  have hd := h d
  rw [vd_vs', vd_vs'] at hd
  obtain ⟨m1, m2⟩ := bet1 h0 h1 hd l1 l2
  have tie : ∀ t t', t < kp → t' < kq → vd d (va (pc s p t) (pc s q t')) = vd d (va (pc s p i) (pc s q j)) → ¬ lxl (va (pc s p i) (pc s q j)) (va (pc s p t) (pc s q t')) := by
    intro t t' ht ht' e
    rw [vd_va, vd_va] at e
    have g1 := fz_le f.2.2.1 ht
    have g2 := fz_le f.2.2.2 ht'
    have n1 : ¬ lxl (pc s p i) (pc s p t) := by
      rcases f.2.2.1 t ht with w | ⟨-, w⟩
      · omega
      · exact w
    have n2 : ¬ lxl (pc s q j) (pc s q t') := by
      rcases f.2.2.2 t' ht' with w | ⟨-, w⟩
      · omega
      · exact w
    exact lxl_va n1 n2
  exact lxl_bet h0 h1 h (tie a a' ha ha' (by omega)) (tie b b' hb hb' (by omega))
