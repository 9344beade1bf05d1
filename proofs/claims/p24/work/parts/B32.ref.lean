theorem fz_ex {P : Nat → V3} {d : V3} : ∀ k, 1 ≤ k → ∃ i, i < k ∧ ∀ t, t < k → vd d (P t) < vd d (P i) ∨ vd d (P t) = vd d (P i) ∧ ¬ lxl (P i) (P t) := by
  intro k
  induction k with
  | zero =>
    intro h
    omega
  | succ k ih =>
    intro _
    by_cases k0 : k = 0
    · subst k0
      refine ⟨0, by omega, fun t ht => ?_⟩
      have : t = 0 := by omega
      rw [this]
      exact .inr ⟨rfl, lxl_ir _⟩
    · obtain ⟨i, hi, h⟩ := ih (by omega)
      by_cases c : vd d (P i) < vd d (P k) ∨ vd d (P i) = vd d (P k) ∧ lxl (P i) (P k)
      · refine ⟨k, by omega, fun t ht => ?_⟩
        by_cases e : t = k
        · rw [e]
          exact .inr ⟨rfl, lxl_ir _⟩
        · rcases h t (by omega) with w | ⟨w1, w2⟩
          · left
            omega
          · rcases c with c | ⟨c1, c2⟩
            · left
              omega
            · right
              refine ⟨by omega, fun w => ?_⟩
              exact w2 (lxl_tr c2 w)
      · refine ⟨i, by omega, fun t ht => ?_⟩
        by_cases e : t = k
        · rw [e]
          by_cases c1 : vd d (P k) < vd d (P i)
          · exact .inl c1
          · right
            have e1 : vd d (P k) = vd d (P i) := by
              by_cases c2 : vd d (P i) < vd d (P k)
              · exact absurd (.inl c2) c
              · omega
            exact ⟨e1, fun w => c (.inr ⟨e1.symm, w⟩)⟩
        · exact h t (by omega)
theorem fzz_ex {s : cS} {p q kp kq : Nat} (d : V3) (h1 : 1 ≤ kp) (h2 : 1 ≤ kq) : ∃ i j, fzz s p q kp kq d i j := by
  obtain ⟨i, hi, fi⟩ := fz_ex (P := pc s p) (d := d) kp h1
  obtain ⟨j, hj, fj⟩ := fz_ex (P := pc s q) (d := d) kq h2
  exact ⟨i, j, hi, hj, fi, fj⟩
/-- out of the box along one of six ways -/
theorem box_out {x : V3} (h : ¬ bd3 x 100) : ∃ d : V3, 100 < vd d x ∧ ∀ y, 100 < vd d y → ¬ bd3 y 100 := by
  have six : 100 < x.1 ∨ 100 < -x.1 ∨ 100 < x.2.1 ∨ 100 < -x.2.1 ∨ 100 < x.2.2 ∨ 100 < -x.2.2 := by
    apply Classical.byContradiction
    intro no
    refine h ⟨?_, ?_, ?_⟩
    · omega
    · omega
    · omega
  rcases six with w | w | w | w | w | w
  · refine ⟨(1, 0, 0), ?_, fun y hy b => ?_⟩
    · show 100 < 1 * x.1 + 0 * x.2.1 + 0 * x.2.2
      omega
    · have hy' : 100 < 1 * y.1 + 0 * y.2.1 + 0 * y.2.2 := hy
      have := b.1
      omega
  · refine ⟨(-1, 0, 0), ?_, fun y hy b => ?_⟩
    · show 100 < -1 * x.1 + 0 * x.2.1 + 0 * x.2.2
      omega
    · have hy' : 100 < -1 * y.1 + 0 * y.2.1 + 0 * y.2.2 := hy
      have := b.1
      omega
  · refine ⟨(0, 1, 0), ?_, fun y hy b => ?_⟩
    · show 100 < 0 * x.1 + 1 * x.2.1 + 0 * x.2.2
      omega
    · have hy' : 100 < 0 * y.1 + 1 * y.2.1 + 0 * y.2.2 := hy
      have := b.2.1
      omega
  · refine ⟨(0, -1, 0), ?_, fun y hy b => ?_⟩
    · show 100 < 0 * x.1 + -1 * x.2.1 + 0 * x.2.2
      omega
    · have hy' : 100 < 0 * y.1 + -1 * y.2.1 + 0 * y.2.2 := hy
      have := b.2.1
      omega
  · refine ⟨(0, 0, 1), ?_, fun y hy b => ?_⟩
    · show 100 < 0 * x.1 + 0 * x.2.1 + 1 * x.2.2
      omega
    · have hy' : 100 < 0 * y.1 + 0 * y.2.1 + 1 * y.2.2 := hy
      have := b.2.2
      omega
  · refine ⟨(0, 0, -1), ?_, fun y hy b => ?_⟩
    · show 100 < 0 * x.1 + 0 * x.2.1 + -1 * x.2.2
      omega
    · have hy' : 100 < 0 * y.1 + 0 * y.2.1 + -1 * y.2.2 := hy
      have := b.2.2
      omega
/-- a wrapping that was refused: there are too many corners, or one out of bounds -/
theorem RW_EL {s : cS} {p q kp kq r M m' k' : Nat} {k Q : Nat → V3} (bp : ∀ j, j < kp → bd3 (pc s p j) 200) (bq : ∀ j, j < kq → bd3 (pc s q j) 200) (hr : r = 3 ∧ M = 25 ∨ r = 4 ∧ M = 24) (rw0 : RW (QG M k) s p q kp kq r) (b : EL (sZ s p q kp kq) m' k' Q) : False := by
  obtain ⟨ok, -, all⟩ := b
  obtain ⟨i, j, d, f, w⟩ := rw0
  have ez := fzz_eZ bp bq f
  rcases w with w | ⟨s1, K, T, t, wr, ht, gt⟩
  · obtain ⟨t, ht, e⟩ := all _ ez
    rw [← e] at w
    exact w (ok.2.1 t ht)
  · have eK := wr.2.2.2.2.2.1
    have hK : K ≤ M := by omega
    obtain ⟨h1, h2, di, sb, -⟩ := wr.2.2.1 hK
    have ro := wr.2.1.2.2.2.1
    have kn := wr.2.2.2.2.2.2.1
    obtain ⟨-, -, e1, e2⟩ := tO_tp (show K ≤ 25 by omega) (ro t ht)
    have bn := sb.2.2.1 (3 * t) (by omega)
    rw [← e1, ← e2] at bn
    -- 24 knots and one more
    have ix : ∀ x, x < 24 → (if r = 3 ∧ 3 ≤ x then x + 1 else x) < K ∧ ¬ (r = 3 ∧ (if r = 3 ∧ 3 ≤ x then x + 1 else x) = 3) := fun x hx => by
      by_cases c : r = 3 ∧ 3 ≤ x
      · rw [if_pos c]
        omega
      · rw [if_neg c]
        omega
    have ek : ∀ x, x < 24 → eZ (sZ s p q kp kq) (pc s1 30 (if r = 3 ∧ 3 ≤ x then x + 1 else x)) := fun x hx => by
      obtain ⟨l1, l2⟩ := ix x hx
      rcases kn _ l1 with w | ⟨-, i1, i2, d', f', e'⟩
      · exact absurd w l2
      · rw [e']
        exact fzz_eZ bp bq f'
    have ch : ∀ x, x < 25 → ∃ t, t < m' ∧ Q t = (if x < 24 then pc s1 30 (if r = 3 ∧ 3 ≤ x then x + 1 else x) else va (pc s p i) (pc s q j)) := fun x hx => by
      by_cases c : x < 24
      · rw [if_pos c]
        exact all _ (ek x c)
      · rw [if_neg c]
        exact all _ ez
    classical
    have := pigeon m' 25 (fun x => if hx : x < 25 then Classical.choose (ch x hx) else 0) (fun x hx => by
      show (if hx : x < 25 then Classical.choose (ch x hx) else 0) < m'
      rw [dif_pos hx]
      exact (Classical.choose_spec (ch x hx)).1) (fun x y hxy hy e => by
      have e' : (if hx : x < 25 then Classical.choose (ch x hx) else 0) = (if hx : y < 25 then Classical.choose (ch y hx) else 0) := e
      have hx : x < 25 := by omega
      rw [dif_pos hx, dif_pos hy] at e'
      have q1 := (Classical.choose_spec (ch x hx)).2
      have q2 := (Classical.choose_spec (ch y hy)).2
      rw [e'] at q1
      have qq := q1.symm.trans q2
      rw [if_pos (show x < 24 by omega)] at qq
      by_cases c : y < 24
      · rw [if_pos c] at qq
        have := di _ _ (ix x (by omega)).1 (ix y c).1 qq
        by_cases c1 : r = 3 ∧ 3 ≤ x
        · rw [if_pos c1, if_pos ⟨c1.1, by omega⟩] at this
          omega
        · rw [if_neg c1] at this
          by_cases c2 : r = 3 ∧ 3 ≤ y
          · rw [if_pos c2] at this
            omega
          · rw [if_neg c2] at this
            omega
      · rw [if_neg c] at qq
        have := bn _ (ix x (by omega)).1
        rw [qq] at this
        omega)
    have := ok.1
    omega
/-- refused by the class: the reference finds no body -/
theorem RF_EL {s : cS} {p q kp kq m' k' : Nat} {Q : Nat → V3} (bp : ∀ j, j < kp → bd3 (pc s p j) 200) (bq : ∀ j, j < kq → bd3 (pc s q j) 200) (rf : RF s p q kp kq) (b : EL (sZ s p q kp kq) m' k' Q) : False := by
  rcases rf with ⟨i, j, hi, hj, w⟩ | ⟨k, -, w⟩ | ⟨k, w⟩
  · obtain ⟨ok, -, all⟩ := b
    obtain ⟨d, d1, d2⟩ := box_out w
    obtain ⟨i', j', f⟩ := fzz_ex (s := s) (p := p) (q := q) d (show 1 ≤ kp by omega) (show 1 ≤ kq by omega)
    have le := fzz_le f hi hj
    obtain ⟨t, ht, e⟩ := all _ (fzz_eZ bp bq f)
    have out := d2 (va (pc s p i') (pc s q j')) (by omega)
    rw [← e] at out
    exact out (ok.2.1 t ht)
  · exact RW_EL bp bq (.inl ⟨rfl, rfl⟩) w b
  · exact RW_EL bp bq (.inr ⟨rfl, rfl⟩) w b
