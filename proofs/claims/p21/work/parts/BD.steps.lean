/-- the trays are alike on both sides -/
def TJ (C : cS) (s : mS) : Prop := ∀ j, j < 8 → (s.2.2.1 0 j = -1 ∧ qA C 2 j = 0) ∨ ∃ n, n ≤ 24 ∧ s.2.2.1 0 j = Int32.ofNat n ∧ qA C 2 j = 1 ∧ qI C (47 + 14 * j) 0 = Int32.ofNat n
/-- both sides are well -/
def JN (C : cS) (s : mS) : Prop := (∃ bo, CI C bo) ∧ INV s ∧ TJ C s
/-- what the reference keeps in every call but tray and point -/
def RK (s : mS) {β : Type} (o : mS × β) : Prop := INV o.1 ∧ o.1.2.2.1 0 = s.2.2.1 0
theorem TJ_TF {C C' : cS} {s s' : mS} (h : TJ C s) (t : TF C C') (e : s'.2.2.1 0 = s.2.2.1 0) : TJ C' s' := fun j hj => by
  rw [e, t.1, (t.2 (47 + 14 * j) ⟨j, hj, by omega, by omega⟩).1]
  exact h j hj
theorem st_of {C : cS} {s : mS} {α β : Type} {x : Option (mh × α)} {y : Option (mS × β)} (j : JN C s) (hx : OK (SQ C) x) (hy : Hd y (RK s)) : ∃ C' v o, x = some (hC C', v) ∧ y = some o ∧ JN C' o.1 := by
  obtain ⟨⟨h', v⟩, e, C', bo', e1, ci, tf⟩ := hx
  obtain ⟨o, e2, i, t⟩ := hy
  have e1' : h' = hC C' := e1
  subst e1'
  exact ⟨C', v, o, e, e2, ⟨bo', ci⟩, i, TJ_TF j.2.2 tf t⟩
theorem st_eq {C : cS} {s : mS} {α : Type} {x : Option (mh × α)} {y : Option (mS × α)} {a : α} (j : JN C s) (hx : OK (fun r => SQ C r ∧ r.2 = a) x) (hy : Hd y (fun o => RK s o ∧ o.2 = a)) : ∃ C' v o, x = some (hC C', v) ∧ y = some o ∧ v = o.2 ∧ JN C' o.1 := by
  obtain ⟨⟨h', v⟩, e, ⟨C', bo', e1, ci, tf⟩, ev⟩ := hx
  obtain ⟨o, e2, ⟨i, t⟩, eo⟩ := hy
  have e1' : h' = hC C' := e1
  have ev' : v = a := ev
  subst e1'
  exact ⟨C', v, o, e, e2, ev'.trans eo.symm, ⟨bo', ci⟩, i, TJ_TF j.2.2 tf t⟩
theorem RK_fi {s : mS} {β : Type} (hI : INV s) {y : Option (mS × β)} (h : Hd y (fun o => fi s o.1)) : Hd y (RK s) := by
  obtain ⟨o, e, f⟩ := h
  exact ⟨o, e, INV_fi hI f, f.2 0 (by omega)⟩
theorem chO_0 {s s' : mS} {i m k : Nat} {Q : Nat → V3} (h : chO s s' i m k Q) : s'.2.2.1 0 = s.2.2.1 0 := by
  obtain ⟨s2, s1, f, kp, bc⟩ := h
  exact (bc.1.2 0 (by omega) (by decide)).trans (((kp.1 0 (by decide)).2.2.1).trans (f.2 0 (by omega)))
theorem k_solid {N : Nat} {s : mS} (hN : 4611686018427387904 < N) (hI : INV s) (a b : Int32) : Hd (mxX7_solid N a b s) (RK s) := by
  rcases x_solid (N := N) (a := a) (b := b) (by omega) hI with ⟨e, -⟩ | ⟨i, t, nn, s', m, k, Q, -, -, -, -, -, -, e, -, i', c, -⟩
  · exact ⟨_, e, hI, rfl⟩
  · exact ⟨_, e, i', chO_0 c⟩
theorem k_grow {N : Nat} {s : mS} (hN : 4611686018427387904 < N) (hI : INV s) (a x y z : Int32) : Hd (mxX7_grow N a x y z s) (RK s) := by
  rcases x_grow (N := N) (a := a) (x := x) (y := y) (z := z) (by omega) hI with ⟨e, -⟩ | ⟨i, m0, k0, -, -, -, -, -, ⟨s', e, f, -⟩ | ⟨s', m, k, Q, e, -, i', c, -⟩⟩
  · exact ⟨_, e, hI, rfl⟩
  · exact ⟨_, e, INV_fi hI f, f.2 0 (by omega)⟩
  · exact ⟨_, e, i', chO_0 c⟩
theorem k_sum {N : Nat} {s : mS} (hN : 4611686018427387904 < N) (hI : INV s) (a b t : Int32) : Hd (mxX7_sum N a b t s) (RK s) := by
  rcases x_sum (N := N) (a := a) (b := b) (t := t) (by omega) hI with ⟨e, -⟩ | ⟨i, j, u, m0, m1, k0, k1, -, -, -, -, -, -, -, -, -, -, o, e, ⟨-, f, -⟩ | ⟨m, k, Q, -, -, i', c, -⟩⟩
  · exact ⟨_, e, hI, rfl⟩
  · exact ⟨_, e, INV_fi hI f, f.2 0 (by omega)⟩
  · exact ⟨_, e, i', chO_0 c⟩
theorem k_move {N : Nat} {s : mS} (hN : 4611686018427387904 < N) (hI : INV s) (a x y z : Int32) : Hd (mxX7_move N a x y z s) (RK s) := by
  rcases x_move (N := N) (a := a) (dx := x) (dy := y) (dz := z) (by omega) hI with ⟨e, -⟩ | ⟨i, m, k, s', -, -, -, -, -, -, e, i', c⟩
  · exact ⟨_, e, hI, rfl⟩
  · exact ⟨_, e, i', chO_0 c⟩
theorem k_mirror {N : Nat} {s : mS} (hN : 4611686018427387904 < N) (hI : INV s) (a b : Int32) : Hd (mxX7_mirror N a b s) (fun o => RK s o ∧ o.2 = if (a < 0 ∨ 8 ≤ a) ∨ b < 0 ∨ ¬ b ≤ 3 then 0 else 1) := by
  rcases x_mirror (N := N) (a := a) (b := b) (by omega) hI with ⟨e, w⟩ | ⟨i, ax, m, k, s', Q, hi, ea, hx, eb, -, -, -, -, -, e, i', c⟩
  · exact ⟨_, e, ⟨hI, rfl⟩, by rw [if_pos w]⟩
  · refine ⟨_, e, ⟨i', chO_0 c⟩, ?_⟩
    rw [if_neg]
    intro w
    rw [ea, eb] at w
    rcases w with w | w | w
    · exact sl8 hi w
    · exact i_lt0 (by omega) w
    · refine w ?_
      have := i_le (a := ax) (b := 3) (by omega) (by omega)
      show Int32.ofNat ax ≤ Int32.ofNat 3
      rw [this]
      omega
theorem k_turn {N : Nat} {s : mS} (hN : 4611686018427387904 < N) (hI : INV s) (a b : Int32) : Hd (mxX7_turn N a b s) (fun o => RK s o ∧ o.2 = if (a < 0 ∨ 8 ≤ a) ∨ b < 0 ∨ ¬ b ≤ 2 then 0 else 1) := by
  rcases x_turn (N := N) (a := a) (b := b) (by omega) hI with ⟨e, w⟩ | ⟨i, ax, m, k, s', Q, hi, ea, hx, eb, -, -, -, -, -, e, i', c⟩
  · exact ⟨_, e, ⟨hI, rfl⟩, by rw [if_pos w]⟩
  · refine ⟨_, e, ⟨i', chO_0 c⟩, ?_⟩
    rw [if_neg]
    intro w
    rw [ea, eb] at w
    rcases w with w | w | w
    · exact sl8 hi w
    · exact i_lt0 (by omega) w
    · refine w ?_
      have := i_le (a := ax) (b := 2) (by omega) (by omega)
      show Int32.ofNat ax ≤ Int32.ofNat 2
      rw [this]
      omega
theorem k_copy {N : Nat} {s : mS} (hN : 4611686018427387904 < N) (hI : INV s) (a b : Int32) : Hd (mxX7_copy N a b s) (fun o => RK s o ∧ o.2 = if (a < 0 ∨ 8 ≤ a) ∨ (b < 0 ∨ 8 ≤ b) then 0 else 1) := by
  rcases x_copy (N := N) (a := a) (b := b) (by omega) hI with ⟨e, w⟩ | ⟨i, t, m, k, s', hi, ea, ht, eb, -, -, -, e, i', c⟩
  · exact ⟨_, e, ⟨hI, rfl⟩, by rw [if_pos w]⟩
  · refine ⟨_, e, ⟨i', chO_0 c⟩, ?_⟩
    rw [if_neg]
    intro w
    rw [ea, eb] at w
    exact w.elim (sl8 hi) (sl8 ht)
theorem k_undo {N : Nat} {s : mS} (hN : 4611686018427387904 < N) (hI : INV s) : Hd (mxX7_undo N s) (RK s) := by
  rcases x_undo (N := N) (by omega) hI with ⟨e, -⟩ | ⟨s', c, -, -, e, u, i'⟩
  · exact ⟨_, e, hI, rfl⟩
  · exact ⟨_, e, i', (u.1 0 (by decide)).2.2.1⟩
theorem k_corner {N : Nat} {s : mS} (hN : 4611686018427387904 < N) (hI : INV s) (a b c : Int32) : Hd (mxX7_corner N a b c s) (RK s) := by
  obtain ⟨v, e⟩ := x_corner (N := N) (a := a) (b := b) (c := c) hI
  exact ⟨_, e, hI, rfl⟩
theorem k_side {N : Nat} {s : mS} (hN : 4611686018427387904 < N) (hI : INV s) (a x y z d : Int32) : Hd (mxX7_side N a x y z d s) (RK s) := by
  obtain ⟨v, e⟩ := x_side (N := N) (a := a) (x := x) (y := y) (z := z) (d := d) (by omega) hI
  exact ⟨_, e, hI, rfl⟩
theorem k_same {N : Nat} {s : mS} (hN : 4611686018427387904 < N) (hI : INV s) (a b : Int32) : Hd (mxX7_same N a b s) (RK s) := by
  obtain ⟨v, e⟩ := x_same (N := N) (a := a) (b := b) (by omega) hI
  exact ⟨_, e, hI, rfl⟩
theorem k_count {N : Nat} {s : mS} (hN : 4611686018427387904 < N) (hI : INV s) (a b : Int32) : Hd (mxX7_count N a b s) (RK s) := RK_fi hI (x_count (by omega) hI)
theorem k_edge {N : Nat} {s : mS} (hN : 4611686018427387904 < N) (hI : INV s) (a b c : Int32) : Hd (mxX7_edge N a b c s) (RK s) := RK_fi hI (x_edge (by omega) hI)
theorem k_face {N : Nat} {s : mS} (hN : 4611686018427387904 < N) (hI : INV s) (a b c : Int32) : Hd (mxX7_face N a b c s) (RK s) := RK_fi hI (x_face (by omega) hI)
theorem k_in {N : Nat} {s : mS} (hN : 4611686018427387904 < N) (hI : INV s) (a x y z q : Int32) : Hd (mxX7_in N a x y z q s) (RK s) := RK_fi hI (x_in (by omega) hI)
theorem k_far {N : Nat} {s : mS} (hN : 4611686018427387904 < N) (hI : INV s) (a w : Int32) : Hd (mxX7_far N a w s) (RK s) := RK_fi hI (x_far (by omega) hI)
theorem k_width {N : Nat} {s : mS} (hN : 4611686018427387904 < N) (hI : INV s) (a w : Int32) : Hd (mxX7_width N a w s) (RK s) := RK_fi hI (x_width hN hI)
theorem k_apart {N : Nat} {s : mS} (hN : 4611686018427387904 < N) (hI : INV s) (a b : Int32) : Hd (mxX7_apart N a b s) (RK s) := RK_fi hI (x_apart hN hI)
theorem k_near {N : Nat} {s : mS} (hN : 4611686018427387904 < N) (hI : INV s) (a b w : Int32) : Hd (mxX7_near N a b w s) (RK s) := RK_fi hI (x_near hN hI)
theorem k_volume {N : Nat} {s : mS} (hN : 4611686018427387904 < N) (hI : INV s) (a : Int32) : Hd (mxX7_volume N a s) (RK s) := RK_fi hI (x_volume (by omega) hI)
theorem k_middle {N : Nat} {s : mS} (hN : 4611686018427387904 < N) (hI : INV s) (a b w : Int32) : Hd (mxX7_middle N a b w s) (RK s) := RK_fi hI (x_middle hN hI)
theorem st_solid {N : Nat} {C : cS} {s : mS} (hN : 4611686018427387904 < N) (j : JN C s) (a b : Int32) : ∃ C' v o, fxX6_solid N 0 a b (hC C) = some (hC C', v) ∧ mxX7_solid N a b s = some o ∧ JN C' o.1 := by
  obtain ⟨bo, ci⟩ := j.1
  exact st_of j (y_solid (by omega) ci) (k_solid hN j.2.1 a b)
theorem st_grow {N : Nat} {C : cS} {s : mS} (hN : 4611686018427387904 < N) (j : JN C s) (a x y z : Int32) : ∃ C' v o, fxX6_grow N 0 a x y z (hC C) = some (hC C', v) ∧ mxX7_grow N a x y z s = some o ∧ JN C' o.1 := by
  obtain ⟨bo, ci⟩ := j.1
  exact st_of j (y_grow (by omega) ci) (k_grow hN j.2.1 a x y z)
theorem st_count {N : Nat} {C : cS} {s : mS} (hN : 4611686018427387904 < N) (j : JN C s) (a b : Int32) : ∃ C' v o, fxX6_count N 0 a b (hC C) = some (hC C', v) ∧ mxX7_count N a b s = some o ∧ JN C' o.1 := by
  obtain ⟨bo, ci⟩ := j.1
  exact st_of j (y_count ci) (k_count hN j.2.1 a b)
theorem st_corner {N : Nat} {C : cS} {s : mS} (hN : 4611686018427387904 < N) (j : JN C s) (a b c : Int32) : ∃ C' v o, fxX6_corner N 0 a b c (hC C) = some (hC C', v) ∧ mxX7_corner N a b c s = some o ∧ JN C' o.1 := by
  obtain ⟨bo, ci⟩ := j.1
  exact st_of j (y_corner ci) (k_corner hN j.2.1 a b c)
theorem st_edge {N : Nat} {C : cS} {s : mS} (hN : 4611686018427387904 < N) (j : JN C s) (a b c : Int32) : ∃ C' v o, fxX6_edge N 0 a b c (hC C) = some (hC C', v) ∧ mxX7_edge N a b c s = some o ∧ JN C' o.1 := by
  obtain ⟨bo, ci⟩ := j.1
  exact st_of j (y_edge ci) (k_edge hN j.2.1 a b c)
theorem st_face {N : Nat} {C : cS} {s : mS} (hN : 4611686018427387904 < N) (j : JN C s) (a b c : Int32) : ∃ C' v o, fxX6_face N 0 a b c (hC C) = some (hC C', v) ∧ mxX7_face N a b c s = some o ∧ JN C' o.1 := by
  obtain ⟨bo, ci⟩ := j.1
  exact st_of j (y_face (by omega) ci) (k_face hN j.2.1 a b c)
theorem st_in {N : Nat} {C : cS} {s : mS} (hN : 4611686018427387904 < N) (j : JN C s) (a x y z q : Int32) : ∃ C' v o, fxX6_in N 0 a x y z q (hC C) = some (hC C', v) ∧ mxX7_in N a x y z q s = some o ∧ JN C' o.1 := by
  obtain ⟨bo, ci⟩ := j.1
  exact st_of j (y_in (by omega) ci) (k_in hN j.2.1 a x y z q)
theorem st_side {N : Nat} {C : cS} {s : mS} (hN : 4611686018427387904 < N) (j : JN C s) (a x y z d : Int32) : ∃ C' v o, fxX6_side N 0 a x y z d (hC C) = some (hC C', v) ∧ mxX7_side N a x y z d s = some o ∧ JN C' o.1 := by
  obtain ⟨bo, ci⟩ := j.1
  exact st_of j (y_side (by omega) ci) (k_side hN j.2.1 a x y z d)
theorem st_volume {N : Nat} {C : cS} {s : mS} (hN : 4611686018427387904 < N) (j : JN C s) (a : Int32) : ∃ C' v o, fxX6_volume N 0 a (hC C) = some (hC C', v) ∧ mxX7_volume N a s = some o ∧ JN C' o.1 := by
  obtain ⟨bo, ci⟩ := j.1
  exact st_of j (y_volume (by omega) ci) (k_volume hN j.2.1 a)
theorem st_middle {N : Nat} {C : cS} {s : mS} (hN : 4611686018427387904 < N) (j : JN C s) (a b w : Int32) : ∃ C' v o, fxX6_middle N 0 a b w (hC C) = some (hC C', v) ∧ mxX7_middle N a b w s = some o ∧ JN C' o.1 := by
  obtain ⟨bo, ci⟩ := j.1
  exact st_of j (y_middle (by omega) ci) (k_middle hN j.2.1 a b w)
theorem st_far {N : Nat} {C : cS} {s : mS} (hN : 4611686018427387904 < N) (j : JN C s) (a w : Int32) : ∃ C' v o, fxX6_far N 0 a w (hC C) = some (hC C', v) ∧ mxX7_far N a w s = some o ∧ JN C' o.1 := by
  obtain ⟨bo, ci⟩ := j.1
  exact st_of j (y_far (by omega) ci) (k_far hN j.2.1 a w)
theorem st_width {N : Nat} {C : cS} {s : mS} (hN : 4611686018427387904 < N) (j : JN C s) (a w : Int32) : ∃ C' v o, fxX6_width N 0 a w (hC C) = some (hC C', v) ∧ mxX7_width N a w s = some o ∧ JN C' o.1 := by
  obtain ⟨bo, ci⟩ := j.1
  exact st_of j (y_width (by omega) ci) (k_width hN j.2.1 a w)
theorem st_sum {N : Nat} {C : cS} {s : mS} (hN : 4611686018427387904 < N) (j : JN C s) (a b t : Int32) : ∃ C' v o, fxX6_sum N 0 a b t (hC C) = some (hC C', v) ∧ mxX7_sum N a b t s = some o ∧ JN C' o.1 := by
  obtain ⟨bo, ci⟩ := j.1
  exact st_of j (y_sum (by omega) ci) (k_sum hN j.2.1 a b t)
theorem st_apart {N : Nat} {C : cS} {s : mS} (hN : 4611686018427387904 < N) (j : JN C s) (a b : Int32) : ∃ C' v o, fxX6_apart N 0 a b (hC C) = some (hC C', v) ∧ mxX7_apart N a b s = some o ∧ JN C' o.1 := by
  obtain ⟨bo, ci⟩ := j.1
  exact st_of j (y_apart (by omega) ci) (k_apart hN j.2.1 a b)
theorem st_near {N : Nat} {C : cS} {s : mS} (hN : 4611686018427387904 < N) (j : JN C s) (a b w : Int32) : ∃ C' v o, fxX6_near N 0 a b w (hC C) = some (hC C', v) ∧ mxX7_near N a b w s = some o ∧ JN C' o.1 := by
  obtain ⟨bo, ci⟩ := j.1
  exact st_of j (y_near (by omega) ci) (k_near hN j.2.1 a b w)
theorem st_same {N : Nat} {C : cS} {s : mS} (hN : 4611686018427387904 < N) (j : JN C s) (a b : Int32) : ∃ C' v o, fxX6_same N 0 a b (hC C) = some (hC C', v) ∧ mxX7_same N a b s = some o ∧ JN C' o.1 := by
  obtain ⟨bo, ci⟩ := j.1
  exact st_of j (y_same (by omega) ci) (k_same hN j.2.1 a b)
theorem st_move {N : Nat} {C : cS} {s : mS} (hN : 4611686018427387904 < N) (j : JN C s) (a x y z : Int32) : ∃ C' v o, fxX6_move N 0 a x y z (hC C) = some (hC C', v) ∧ mxX7_move N a x y z s = some o ∧ JN C' o.1 := by
  obtain ⟨bo, ci⟩ := j.1
  exact st_of j (y_move (by omega) ci) (k_move hN j.2.1 a x y z)
theorem st_mirror {N : Nat} {C : cS} {s : mS} (hN : 4611686018427387904 < N) (j : JN C s) (a b : Int32) : ∃ C' v o, fxX6_mirror N 0 a b (hC C) = some (hC C', v) ∧ mxX7_mirror N a b s = some o ∧ v = o.2 ∧ JN C' o.1 := by
  obtain ⟨bo, ci⟩ := j.1
  exact st_eq j (y_mirror (by omega) ci) (k_mirror hN j.2.1 a b)
theorem st_turn {N : Nat} {C : cS} {s : mS} (hN : 4611686018427387904 < N) (j : JN C s) (a b : Int32) : ∃ C' v o, fxX6_turn N 0 a b (hC C) = some (hC C', v) ∧ mxX7_turn N a b s = some o ∧ v = o.2 ∧ JN C' o.1 := by
  obtain ⟨bo, ci⟩ := j.1
  exact st_eq j (y_turn (by omega) ci) (k_turn hN j.2.1 a b)
theorem st_copy {N : Nat} {C : cS} {s : mS} (hN : 4611686018427387904 < N) (j : JN C s) (a b : Int32) : ∃ C' v o, fxX6_copy N 0 a b (hC C) = some (hC C', v) ∧ mxX7_copy N a b s = some o ∧ v = o.2 ∧ JN C' o.1 := by
  obtain ⟨bo, ci⟩ := j.1
  exact st_eq j (y_copy (by omega) ci) (k_copy hN j.2.1 a b)
theorem st_undo {N : Nat} {C : cS} {s : mS} (hN : 4611686018427387904 < N) (j : JN C s) : ∃ C' v o, fxX6_undo N 0 (hC C) = some (hC C', v) ∧ mxX7_undo N s = some o ∧ JN C' o.1 := by
  obtain ⟨bo, ci⟩ := j.1
  exact st_of j (y_undo ci) (k_undo hN j.2.1)
theorem st_tray {N : Nat} {C : cS} {s : mS} (hN : 4611686018427387904 < N) (j : JN C s) (a n : Int32) : ∃ C' v o, fxX6_tray N 0 a n (hC C) = some (hC C', v) ∧ mxX7_tray N a n s = some o ∧ v = o.2 ∧ JN C' o.1 := by
  have j' := j
  obtain ⟨⟨bo, ci⟩, hI, tj⟩ := j
  obtain ⟨⟨h', v⟩, e, k⟩ := y_tray (N := N) (a := a) (n := n) (by omega) ci
  rcases k with ⟨k1, k2, k3⟩ | ⟨k1, k2, k3, i, m, C', hi, ea, hm, hn, k4, ci', ty⟩
  · have k1' : v = 0 := k1
    have k2' : h' = hC C := k2
    subst k1'
    subst k2'
    rcases x_tray (N := N) (a := a) (n := n) (by omega) hI with ⟨e2, -⟩ | ⟨i, s', hi, ea, w1, w2, -⟩
    · exact ⟨C, 0, _, e, e2, rfl, j'⟩
    · exfalso
      rcases k3 with w | w | w
      · rw [ea] at w
        exact sl8 hi w
      · exact w1 w
      · exact w w2
  · have k1' : v = 1 := k1
    have k4' : h' = hC C' := k4
    subst k1'
    subst k4'
    rcases x_tray (N := N) (a := a) (n := n) (by omega) hI with ⟨-, w⟩ | ⟨i', s', hi', ea', -, -, e2, tr, I'⟩
    · exfalso
      rcases w with w | w | w
      · rw [ea] at w
        exact sl8 hi w
      · exact k2 w
      · exact w k3
    · have ii : i' = i := i_inj (by omega) (by omega) (ea'.symm.trans ea)
      subst ii
      refine ⟨C', 1, _, e, e2, rfl, ⟨bo, ci'⟩, I', fun x hx => ?_⟩
      show (s'.2.2.1 0 x = -1 ∧ qA C' 2 x = 0) ∨ ∃ n, n ≤ 24 ∧ s'.2.2.1 0 x = Int32.ofNat n ∧ qA C' 2 x = 1 ∧ qI C' (47 + 14 * x) 0 = Int32.ofNat n
      rw [tr.2.1 x, ty.2.1]
      by_cases d : x = i'
      · rw [if_pos d, d, u_eq]
        rcases hn with ⟨q1, -⟩ | q
        · exact .inl ⟨q1, by rw [if_pos q1]⟩
        · right
          refine ⟨m, hm, q, ?_, ty.2.2.1⟩
          rw [if_neg]
          intro w
          rw [q] at w
          have := congrArg Int32.toInt w
          rw [Int32.toInt_ofNat_of_lt (by omega)] at this
          have e1 : (-1 : Int32).toInt = -1 := rfl
          omega
      · rw [if_neg d, u_ne d, ty.1.I (fun w => by
          rcases w with w | w
          · omega
          · have := w.1
            have := w.2
            omega)]
        exact tj x hx
theorem st_point {N : Nat} {C : cS} {s : mS} (hN : 4611686018427387904 < N) (j : JN C s) (a k x y z : Int32) : ∃ C' v o, fxX6_point N 0 a k x y z (hC C) = some (hC C', v) ∧ mxX7_point N a k x y z s = some o ∧ v = o.2 ∧ JN C' o.1 := by
  have j' := j
  obtain ⟨⟨bo, ci⟩, hI, tj⟩ := j
  obtain ⟨⟨h', v⟩, e, q⟩ := y_point (N := N) (a := a) (k := k) (x := x) (y := y) (z := z) (by omega) ci
  rcases q with ⟨k1, k2, k3⟩ | ⟨k1, i, l, n, hi, ea, ek, hl, hn, k4, k5, k6, k7, ci'⟩
  · have k1' : v = 0 := k1
    have k2' : h' = hC C := k2
    subst k1'
    subst k2'
    rcases x_point (N := N) (a := a) (k := k) (x := x) (y := y) (z := z) hI with ⟨e2, -⟩ | ⟨i, l, hi, ea, ek, ⟨n, w1, w2, w3⟩, w4, -⟩
    · exact ⟨C, 0, _, e, e2, rfl, j'⟩
    · exfalso
      rcases k3 with w | w | ⟨i', hi', ei', w⟩ | w
      · rw [ea] at w
        exact sl8 hi w
      · rw [ek] at w
        exact i_lt0 (by omega) w
      · have ii : i' = i := i_inj (by omega) (by omega) (ei'.symm.trans ea)
        subst ii
        rcases tj i' hi with ⟨t1, -⟩ | ⟨n', t1, t2, t3, t4⟩
        · rw [w3] at t1
          have := congrArg Int32.toInt t1
          rw [Int32.toInt_ofNat_of_lt (by omega)] at this
          have e1 : (-1 : Int32).toInt = -1 := rfl
          omega
        · have nn : n' = n := i_inj (by omega) (by omega) (t2.symm.trans w3)
          subst nn
          rcases w with w | w
          · rw [t3] at w
            exact no1 w
          · rw [t4, ek, i_le (by omega) (by omega)] at w
            omega
      · exact w w4
  · have k1' : v = 1 := k1
    have k7' : h' = hC (wp C (47 + 14 * i) l x y z) := k7
    subst k1'
    subst k7'
    have tji := tj i hi
    rcases x_point (N := N) (a := a) (k := k) (x := x) (y := y) (z := z) hI with ⟨-, w⟩ | ⟨i', l', hi', ea', ek', -, -, e2, I'⟩
    · exfalso
      rcases tji with ⟨-, t2⟩ | ⟨n', t1, t2, t3, t4⟩
      · exact k5 t2
      · have nn : n' = n := i_inj (by omega) (by omega) (t4.symm.trans k4)
        subst nn
        rcases w with w | w | ⟨i', hi', ei', w⟩ | w
        · rw [ea] at w
          exact sl8 hi w
        · rw [ek] at w
          exact i_lt0 (by omega) w
        · have ii : i' = i := i_inj (by omega) (by omega) (ei'.symm.trans ea)
          subst ii
          rw [t2, ek, i_le (by omega) (by omega)] at w
          omega
        · exact w k6
    · refine ⟨_, 1, _, e, e2, rfl, ⟨bo, ci'⟩, I', fun u hu => ?_⟩
      have cw := cf_wp C (47 + 14 * i) l x y z
      show ((sT s (24 * i' + l') x y z).2.2.1 0 u = -1 ∧ _) ∨ ∃ n, n ≤ 24 ∧ (sT s (24 * i' + l') x y z).2.2.1 0 u = Int32.ofNat n ∧ _
      rw [show (sT s (24 * i' + l') x y z).2.2.1 0 = s.2.2.1 0 from rfl, cw.A (fun w => by have := w.1; omega), cw.I (fun w => by have := w.1; have := w.2; omega)]
      exact tj u hu
theorem z0 : bd3 ((0 : Int32).toInt, (0 : Int32).toInt, (0 : Int32).toInt) 100 := ⟨by decide, by decide, by decide⟩
theorem INV_0 : INV ms0 := by
  have ok0 : ∀ P : Nat → V3, okP P 0 0 := fun P => ⟨by omega, fun j hj => absurd hj (by omega), fun i j _ hj => absurd hj (by omega), fun j hj => absurd hj (by omega), .inl ⟨by omega, rfl⟩⟩
  refine ⟨0, by omega, rfl, fun i hi => ⟨0, 0, rfl, rfl, ok0 _⟩, fun h hh => absurd hh (by omega), fun t ht => ⟨.inl rfl, fun k hk => z0⟩⟩
def bo0 (k : Nat) : Nat := if k = 0 then 6 else if k < 9 then 51 + 14 * (k - 1) else 159 + 10 * (k - 9)
theorem bo0_v (k : Nat) : (k = 0 ∧ bo0 k = 6) ∨ (k ≠ 0 ∧ k < 9 ∧ bo0 k = 51 + 14 * (k - 1)) ∨ (9 ≤ k ∧ bo0 k = 159 + 10 * (k - 9)) := by
  unfold bo0
  by_cases c1 : k = 0
  · rw [if_pos c1]
    exact .inl ⟨c1, rfl⟩
  · rw [if_neg c1]
    by_cases c2 : k < 9
    · rw [if_pos c2]
      exact .inr (.inl ⟨c1, c2, rfl⟩)
    · rw [if_neg c2]
      exact .inr (.inr ⟨by omega, rfl⟩)
theorem cs0_R1 : ∀ j, j < 8 → qR cs0 1 j = some (47 + 14 * j) := by decide
theorem cs0_R3 : ∀ j, j < 8 → qR cs0 3 j = some (51 + 14 * j) := by decide
theorem cs0_R4 : ∀ j, j < 8 → qR cs0 4 j = some (159 + 10 * j) := by decide
theorem cs0_I {p k : Nat} (h : p ≠ 20) : qI cs0 p k = 0 := by
  show (match p, k with | 20, 0 => (1 : Int32) | _, _ => 0) = 0
  split
  · exact absurd rfl h
  · rfl
theorem CI_0 : CI cs0 bo0 := by
  refine ⟨⟨rfl, fun j hj => ?_, fun i hi => ?_, fun k hk => ?_, fun k k' hk hk' e => ?_⟩, fun k hk => ?_, fun j hj => ⟨cs0_R1 j hj, 0, by omega, cs0_I (by omega), fun i hi => absurd hi (by omega)⟩, ⟨0, by omega, rfl, fun i hi => absurd hi (by omega)⟩, ⟨rfl, rfl⟩, fun j hj => rfl⟩
  · rw [cs0_R3 j hj]
    have := bo0_v (1 + j)
    rw [show bo0 (1 + j) = 51 + 14 * j by omega]
  · rw [cs0_R4 i hi]
    have := bo0_v (9 + i)
    rw [show bo0 (9 + i) = 159 + 10 * i by omega]
  · rcases bo0_v k with ⟨h, e⟩ | ⟨h1, h2, e⟩ | ⟨h, e⟩
    · exact .inl e
    · exact .inr (.inl ⟨k - 1, by omega, e⟩)
    · exact .inr (.inr ⟨k - 9, by omega, e⟩)
  · have := bo0_v k
    have := bo0_v k'
    omega
  · have := bo0_v k
    exact BO_cl (cs0_I (by omega)) (cs0_I (by omega)) (cs0_I (by omega)) (cs0_I (by omega))
theorem JN_0 : JN cs0 ms0 := ⟨⟨bo0, CI_0⟩, INV_0, fun j hj => .inl ⟨rfl, rfl⟩⟩
