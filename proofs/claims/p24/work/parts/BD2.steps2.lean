/-- a tray has changed on both sides -/
theorem JX_tr {C C' : cS} {s s' : mS} {bo x : Nat → Nat} {c i : Nat} (jx : JX C s bo x c) (hi : i < 8) (ci : CI C' bo) (cf0 : cf (fun v => v = 2 ∨ rg (47 + 14 * i) (50 + 14 * i) v) C C') (I' : INV s') (f : fr [0, 1, 2, 3] s s') (tk : TK2 C' s') : JX C' s' bo x c := by
  obtain ⟨j1, j2, j3, ⟨j4, j5, j6⟩, j7, j8, j9⟩ := jx
  have fs : ∀ k, 4 ≤ k → s'.1 k = s.1 k ∧ s'.2.2.1 k = s.2.2.1 k := fun k hk => by
    have := f k (by
      intro w
      simp at w
      omega)
    exact ⟨this.1, this.2.2.1⟩
  have frr : FR C C' bo := fun k _ k17 y a b => by
    have kb := j1.1.2.2.2.1 k k17
    have ny : ¬ (y = 2 ∨ rg (47 + 14 * i) (50 + 14 * i) y) := fun w => by
      rcases w with w | w
      · rcases kb with kb | ⟨q, _, kb⟩ | ⟨q, _, kb⟩ <;> omega
      · exact isB_tr kb a (by omega) hi ⟨w.1, w.2⟩
    exact ⟨cf0.I ny, cf0.A ny⟩
  have n0 : ¬ ((0 : Nat) = 2 ∨ rg (47 + 14 * i) (50 + 14 * i) 0) := fun w => by
    rcases w with w | w
    · omega
    · have := w.1
      omega
  have n5 : ¬ ((5 : Nat) = 2 ∨ rg (47 + 14 * i) (50 + 14 * i) 5) := fun w => by
    rcases w with w | w
    · omega
    · have := w.1
      omega
  refine ⟨ci, I', tk, ⟨j4, by rw [cf0.I n0]; exact j5, (fs 9 (by omega)).1.trans j6⟩, fun h hh => by rw [cf0.A n5]; exact j7 h hh, fun i hi => ?_, fun d hd i hi => ?_⟩
  · unfold AL0
    rw [(fs 4 (by omega)).2, (fs 5 (by omega)).2, (fs 6 (by omega)).2, (fs 7 (by omega)).2, (fs 8 (by omega)).2]
    exact AL_IA (j8 i hi) (frr (1 + i) (by omega) (by omega))
  · unfold ALh
    rw [(fs 10 (by omega)).2, (fs 11 (by omega)).2, (fs 12 (by omega)).2, (fs 13 (by omega)).2, (fs 14 (by omega)).2]
    obtain ⟨k, k1, k17, e⟩ := vb_k (bo := bo) (x := x) j4 hi (d + 1) (by omega)
    have := j9 d hd i hi
    rw [e] at this ⊢
    exact AL_IA this (frr k k1 k17)
theorem st_tray {N : Nat} {C : cS} {s : mS} (hN : 4611686018427387904 < N) (j : JK C s) (a n : Int32) : ∃ C' v o, fxX6_tray N 0 a n (hC C) = some (hC C', v) ∧ mxX7_tray N a n s = some o ∧ v = o.2 ∧ JK C' o.1 := by
  have j' := j
  obtain ⟨bo, x, c, jx⟩ := j
  have ci := jx.1
  have hI := jx.2.1
  have tj := jx.2.2.1
  obtain ⟨⟨h', v⟩, e, k⟩ := y_tray (N := N) (a := a) (n := n) (by omega) ci
  rcases k with ⟨k1, k2, k3⟩ | ⟨k1, k2, k3, i, m, C', hi, ea, hm, hn, k4, ci', ty⟩
  · have k1' : v = 0 := k1
    have k2' : h' = hC C := k2
    subst k1'
    subst k2'
    rcases x_tray (N := N) (a := a) (n := n) (by omega) hI with ⟨e2, -⟩ | ⟨i, s', hi, ea, w1, w2, -⟩
    · exact ⟨C, 0, _, e, e2, rfl, j'⟩
    · exfalso
      rcases k3 with w | w | w
      · rw [ea] at w
        exact sl8 hi w
      · exact w1 w
      · exact w w2
  · have k1' : v = 1 := k1
    have k4' : h' = hC C' := k4
    subst k1'
    subst k4'
    rcases x_tray (N := N) (a := a) (n := n) (by omega) hI with ⟨-, w⟩ | ⟨i', s', hi', ea', -, -, e2, tr, I'⟩
    · exfalso
      rcases w with w | w | w
      · rw [ea] at w
        exact sl8 hi w
      · exact k2 w
      · exact w k3
    · have ii : i' = i := i_inj (by omega) (by omega) (ea'.symm.trans ea)
      subst ii
      refine ⟨C', 1, _, e, e2, rfl, bo, x, c, JX_tr jx hi ci' ty.1 I' tr.1 (fun x hx => ?_)⟩
      show (s'.2.2.1 0 x = -1 ∧ qA C' 2 x = 0) ∨ ∃ n, n ≤ 24 ∧ s'.2.2.1 0 x = Int32.ofNat n ∧ qA C' 2 x = 1 ∧ qI C' (47 + 14 * x) 0 = Int32.ofNat n ∧ ∀ k, k < n → pc C' (47 + 14 * x) k = cP3 (s'.2.2.1 1) (s'.2.2.1 2) (s'.2.2.1 3) (24 * x) k
      rw [tr.2.1 x, ty.2.1]
      by_cases d : x = i'
      · rw [if_pos d, d, u_eq]
        rcases hn with ⟨q1, -⟩ | q
        · exact .inl ⟨q1, by rw [if_pos q1]⟩
        · right
          refine ⟨m, hm, q, ?_, ty.2.2.1, fun k hk => ?_⟩
          · rw [if_neg]
            intro w
            rw [q] at w
            exact n_neg1 (by omega) w
          · rw [ty.2.2.2 k hk]
            obtain ⟨z1, z2, z3⟩ := tr.2.2.2 k (by omega)
            unfold cP3
            rw [z1, z2, z3]
            rfl
      · have nx : ∀ y, 47 + 14 * x ≤ y → y ≤ 50 + 14 * x → ¬ (y = 2 ∨ rg (47 + 14 * i') (50 + 14 * i') y) := fun y y1 y2 w => by
          rcases w with w | w
          · omega
          · have := w.1
            have := w.2
            omega
        rw [if_neg d, u_ne d, ty.1.I (nx _ (by omega) (by omega))]
        rcases tj x hx with w | ⟨n', w1, w2, w3, w4, w5⟩
        · exact .inl w
        · refine .inr ⟨n', w1, w2, w3, w4, fun k hk => ?_⟩
          rw [pc_cf ty.1 (fun y y1 y2 => nx y (by omega) (by omega)), w5 k hk]
          obtain ⟨z1, z2, z3⟩ := tr.2.2.1 (24 * x + k) (by omega)
          unfold cP3
          rw [z1, z2, z3]
theorem st_point {N : Nat} {C : cS} {s : mS} (hN : 4611686018427387904 < N) (j : JK C s) (a k x y z : Int32) : ∃ C' v o, fxX6_point N 0 a k x y z (hC C) = some (hC C', v) ∧ mxX7_point N a k x y z s = some o ∧ v = o.2 ∧ JK C' o.1 := by
  have j' := j
  obtain ⟨bo, xx, c, jx⟩ := j
  have ci := jx.1
  have hI := jx.2.1
  have tj := jx.2.2.1
  obtain ⟨⟨h', v⟩, e, q⟩ := y_point (N := N) (a := a) (k := k) (x := x) (y := y) (z := z) (by omega) ci
  rcases q with ⟨k1, k2, k3⟩ | ⟨k1, i, l, n, hi, ea, ek, hl, hn, k4, k5, k6, k7, ci'⟩
  · have k1' : v = 0 := k1
    have k2' : h' = hC C := k2
    subst k1'
    subst k2'
    rcases x_point (N := N) (a := a) (k := k) (x := x) (y := y) (z := z) hI with ⟨e2, -⟩ | ⟨i, l, hi, ea, ek, ⟨n, w1, w2, w3⟩, w4, -⟩
    · exact ⟨C, 0, _, e, e2, rfl, j'⟩
    · exfalso
      rcases k3 with w | w | ⟨i', hi', ei', w⟩ | w
      · rw [ea] at w
        exact sl8 hi w
      · rw [ek] at w
        exact i_lt0 (by omega) w
      · have ii : i' = i := i_inj (by omega) (by omega) (ei'.symm.trans ea)
        subst ii
        rcases tj i' hi with ⟨t1, -⟩ | ⟨n', t1, t2, t3, t4, -⟩
        · rw [w3] at t1
          have := congrArg Int32.toInt t1
          rw [Int32.toInt_ofNat_of_lt (by omega)] at this
          have e1 : (-1 : Int32).toInt = -1 := rfl
          omega
        · have nn : n' = n := i_inj (by omega) (by omega) (t2.symm.trans w3)
          subst nn
          rcases w with w | w
          · rw [t3] at w
            exact no1 w
          · rw [t4, ek, i_le (by omega) (by omega)] at w
            omega
      · exact w w4
  · have k1' : v = 1 := k1
    have k7' : h' = hC (wp C (47 + 14 * i) l x y z) := k7
    subst k1'
    subst k7'
    have tji := tj i hi
    rcases x_point (N := N) (a := a) (k := k) (x := x) (y := y) (z := z) hI with ⟨-, w⟩ | ⟨i', l', hi', ea', ek', ⟨nn, ln, ln2, -⟩, -, e2, I'⟩
    · exfalso
      rcases tji with ⟨-, t2⟩ | ⟨n', t1, t2, t3, t4, -⟩
      · exact k5 t2
      · have nn : n' = n := i_inj (by omega) (by omega) (t4.symm.trans k4)
        subst nn
        rcases w with w | w | ⟨i', hi', ei', w⟩ | w
        · rw [ea] at w
          exact sl8 hi w
        · rw [ek] at w
          exact i_lt0 (by omega) w
        · have ii : i' = i := i_inj (by omega) (by omega) (ei'.symm.trans ea)
          subst ii
          rw [t2, ek, i_le (by omega) (by omega)] at w
          omega
        · exact w k6
    · have i1 : i' = i := i_inj (by omega) (by omega) (ea'.symm.trans ea)
      have l1 : l' = l := i_inj (by omega) (by omega) (ek'.symm.trans ek)
      subst i1
      subst l1
      have cw := cf_wp C (47 + 14 * i') l' x y z
      have cw2 : cf (fun v => v = 2 ∨ rg (47 + 14 * i') (50 + 14 * i') v) C (wp C (47 + 14 * i') l' x y z) := cw.mo (fun v hv => .inr ⟨by have := hv.1; omega, by have := hv.2; omega⟩)
      refine ⟨_, 1, _, e, e2, rfl, bo, xx, c, JX_tr jx hi ci' cw2 I' (fun k hk => ?_) (fun u hu => ?_)⟩
      · have k1 : k ≠ 1 := fun w => hk (by rw [w]; decide)
        have k2 : k ≠ 2 := fun w => hk (by rw [w]; decide)
        have k3 : k ≠ 3 := fun w => hk (by rw [w]; decide)
        refine ⟨rfl, rfl, ?_, rfl⟩
        show (sA (sA (sA s 1 (24 * i' + l') x) 2 (24 * i' + l') y) 3 (24 * i' + l') z).2.2.1 k = s.2.2.1 k
        unfold sA va_up
        dsimp only
        rw [if_neg k3, if_neg k2, if_neg k1]
      · have r0 : (sT s (24 * i' + l') x y z).2.2.1 0 = s.2.2.1 0 := rfl
        show ((sT s (24 * i' + l') x y z).2.2.1 0 u = -1 ∧ _) ∨ ∃ n, n ≤ 24 ∧ (sT s (24 * i' + l') x y z).2.2.1 0 u = Int32.ofNat n ∧ _
        rw [r0, cw.A (fun w => by have := w.1; omega), cw.I (fun w => by have := w.1; have := w.2; omega)]
        rcases tj u hu with w | ⟨n', w1, w2, w3, w4, w5⟩
        · exact .inl w
        · refine .inr ⟨n', w1, w2, w3, w4, fun k hk => ?_⟩
          have px : (sT s (24 * i' + l') x y z).2.2.1 1 = upd (s.2.2.1 1) (24 * i' + l') x := rfl
          have py : (sT s (24 * i' + l') x y z).2.2.1 2 = upd (s.2.2.1 2) (24 * i' + l') y := rfl
          have pz : (sT s (24 * i' + l') x y z).2.2.1 3 = upd (s.2.2.1 3) (24 * i' + l') z := rfl
          show pc (wp C (47 + 14 * i') l' x y z) (47 + 14 * u) k = cP3 ((sT s (24 * i' + l') x y z).2.2.1 1) ((sT s (24 * i' + l') x y z).2.2.1 2) ((sT s (24 * i' + l') x y z).2.2.1 3) (24 * u) k
          unfold cP3
          rw [px, py, pz]
          by_cases du : u = i'
          · subst du
            rw [pc_wp]
            by_cases dk : k = l'
            · rw [if_pos dk, dk, u_eq, u_eq, u_eq]
            · rw [if_neg dk, u_ne (by omega), u_ne (by omega), u_ne (by omega)]
              exact w5 k hk
          · rw [pc_cf cw (fun v a b w => by have := w.1; have := w.2; omega), u_ne (by omega), u_ne (by omega), u_ne (by omega)]
            exact w5 k hk
theorem st_count {N : Nat} {C : cS} {s : mS} (hN : 4611686018427387904 < N) (j : JK C s) (a b : Int32) : ∃ C' v o, fxX6_count N 0 a b (hC C) = some (hC C', v) ∧ mxX7_count N a b s = some o ∧ JK C' o.1 := by
  obtain ⟨bo, xx, cc, jx⟩ := id j
  have ci := jx.1
  have hI := jx.2.1
  exact stR j (y_count ci) (x_count (by omega) hI)
theorem st_edge {N : Nat} {C : cS} {s : mS} (hN : 4611686018427387904 < N) (j : JK C s) (a b c : Int32) : ∃ C' v o, fxX6_edge N 0 a b c (hC C) = some (hC C', v) ∧ mxX7_edge N a b c s = some o ∧ JK C' o.1 := by
  obtain ⟨bo, xx, cc, jx⟩ := id j
  have ci := jx.1
  have hI := jx.2.1
  exact stR j (y_edge ci) (x_edge (by omega) hI)
theorem st_face {N : Nat} {C : cS} {s : mS} (hN : 4611686018427387904 < N) (j : JK C s) (a b c : Int32) : ∃ C' v o, fxX6_face N 0 a b c (hC C) = some (hC C', v) ∧ mxX7_face N a b c s = some o ∧ JK C' o.1 := by
  obtain ⟨bo, xx, cc, jx⟩ := id j
  have ci := jx.1
  have hI := jx.2.1
  exact stR j (y_face (by omega) ci) (x_face (by omega) hI)
theorem st_in {N : Nat} {C : cS} {s : mS} (hN : 4611686018427387904 < N) (j : JK C s) (a x y z q : Int32) : ∃ C' v o, fxX6_in N 0 a x y z q (hC C) = some (hC C', v) ∧ mxX7_in N a x y z q s = some o ∧ JK C' o.1 := by
  obtain ⟨bo, xx, cc, jx⟩ := id j
  have ci := jx.1
  have hI := jx.2.1
  exact stR j (y_in (by omega) ci) (x_in (by omega) hI)
theorem st_volume {N : Nat} {C : cS} {s : mS} (hN : 4611686018427387904 < N) (j : JK C s) (a : Int32) : ∃ C' v o, fxX6_volume N 0 a (hC C) = some (hC C', v) ∧ mxX7_volume N a s = some o ∧ JK C' o.1 := by
  obtain ⟨bo, xx, cc, jx⟩ := id j
  have ci := jx.1
  have hI := jx.2.1
  exact stR j (y_volume (by omega) ci) (x_volume (by omega) hI)
theorem st_middle {N : Nat} {C : cS} {s : mS} (hN : 4611686018427387904 < N) (j : JK C s) (a b w : Int32) : ∃ C' v o, fxX6_middle N 0 a b w (hC C) = some (hC C', v) ∧ mxX7_middle N a b w s = some o ∧ JK C' o.1 := by
  obtain ⟨bo, xx, cc, jx⟩ := id j
  have ci := jx.1
  have hI := jx.2.1
  exact stR j (y_middle (by omega) ci) (x_middle hN hI)
theorem st_apart {N : Nat} {C : cS} {s : mS} (hN : 4611686018427387904 < N) (j : JK C s) (a b : Int32) : ∃ C' v o, fxX6_apart N 0 a b (hC C) = some (hC C', v) ∧ mxX7_apart N a b s = some o ∧ JK C' o.1 := by
  obtain ⟨bo, xx, cc, jx⟩ := id j
  have ci := jx.1
  have hI := jx.2.1
  exact stR j (y_apart (by omega) ci) (x_apart hN hI)
theorem st_near {N : Nat} {C : cS} {s : mS} (hN : 4611686018427387904 < N) (j : JK C s) (a b w : Int32) : ∃ C' v o, fxX6_near N 0 a b w (hC C) = some (hC C', v) ∧ mxX7_near N a b w s = some o ∧ JK C' o.1 := by
  obtain ⟨bo, xx, cc, jx⟩ := id j
  have ci := jx.1
  have hI := jx.2.1
  exact stR j (y_near (by omega) ci) (x_near hN hI)
theorem st_far {N : Nat} {C : cS} {s : mS} (hN : 4611686018427387904 < N) (j : JK C s) (a w : Int32) : ∃ C' v o, fxX6_far N 0 a w (hC C) = some (hC C', v) ∧ mxX7_far N a w s = some o ∧ JK C' o.1 := by
  obtain ⟨bo, xx, cc, jx⟩ := id j
  have ci := jx.1
  have hI := jx.2.1
  exact stR j (y_far (by omega) ci) (x_far (by omega) hI)
theorem st_corner {N : Nat} {C : cS} {s : mS} (hN : 4611686018427387904 < N) (j : JK C s) (a b c : Int32) : ∃ C' v o, fxX6_corner N 0 a b c (hC C) = some (hC C', v) ∧ mxX7_corner N a b c s = some o ∧ JK C' o.1 := by
  obtain ⟨bo, xx, cc, jx⟩ := id j
  have ci := jx.1
  have hI := jx.2.1
  obtain ⟨v, e⟩ := x_corner (N := N) (a := a) (b := b) (c := c) hI
  exact stR j (y_corner ci) ⟨_, e, fi_rf⟩
theorem st_side {N : Nat} {C : cS} {s : mS} (hN : 4611686018427387904 < N) (j : JK C s) (a x y z d : Int32) : ∃ C' v o, fxX6_side N 0 a x y z d (hC C) = some (hC C', v) ∧ mxX7_side N a x y z d s = some o ∧ JK C' o.1 := by
  obtain ⟨bo, xx, cc, jx⟩ := id j
  have ci := jx.1
  have hI := jx.2.1
  obtain ⟨v, e⟩ := x_side (N := N) (a := a) (x := x) (y := y) (z := z) (d := d) (by omega) hI
  exact stR j (y_side (by omega) ci) ⟨_, e, fi_rf⟩
theorem st_same {N : Nat} {C : cS} {s : mS} (hN : 4611686018427387904 < N) (j : JK C s) (a b : Int32) : ∃ C' v o, fxX6_same N 0 a b (hC C) = some (hC C', v) ∧ mxX7_same N a b s = some o ∧ JK C' o.1 := by
  obtain ⟨bo, xx, cc, jx⟩ := id j
  have ci := jx.1
  have hI := jx.2.1
  obtain ⟨v, e⟩ := x_same (N := N) (a := a) (b := b) (by omega) hI
  exact stR j (y_same (by omega) ci) ⟨_, e, fi_rf⟩
theorem z0 : bd3 ((0 : Int32).toInt, (0 : Int32).toInt, (0 : Int32).toInt) 100 := ⟨by decide, by decide, by decide⟩
theorem INV_0 : INV ms0 := by
  have ok0 : ∀ P : Nat → V3, okP P 0 0 := fun P => ⟨by omega, fun j hj => absurd hj (by omega), fun i j _ hj => absurd hj (by omega), fun j hj => absurd hj (by omega), .inl ⟨by omega, rfl⟩⟩
  refine ⟨0, by omega, rfl, fun i hi => ⟨0, 0, rfl, rfl, ok0 _⟩, fun h hh => absurd hh (by omega), fun t ht => ⟨.inl rfl, fun k hk => z0⟩⟩
def bo0 (k : Nat) : Nat := if k = 0 then 6 else if k < 9 then 51 + 14 * (k - 1) else 159 + 10 * (k - 9)
theorem bo0_v (k : Nat) : (k = 0 ∧ bo0 k = 6) ∨ (k ≠ 0 ∧ k < 9 ∧ bo0 k = 51 + 14 * (k - 1)) ∨ (9 ≤ k ∧ bo0 k = 159 + 10 * (k - 9)) := by
  unfold bo0
  by_cases c1 : k = 0
  · rw [if_pos c1]
    exact .inl ⟨c1, rfl⟩
  · rw [if_neg c1]
    by_cases c2 : k < 9
    · rw [if_pos c2]
      exact .inr (.inl ⟨c1, c2, rfl⟩)
    · rw [if_neg c2]
      exact .inr (.inr ⟨by omega, rfl⟩)
theorem cs0_R1 : ∀ j, j < 8 → qR cs0 1 j = some (47 + 14 * j) := by decide
theorem cs0_R3 : ∀ j, j < 8 → qR cs0 3 j = some (51 + 14 * j) := by decide
theorem cs0_R4 : ∀ j, j < 8 → qR cs0 4 j = some (159 + 10 * j) := by decide
theorem cs0_I {p k : Nat} (h : p ≠ 20) : qI cs0 p k = 0 := by
  show (match p, k with | 20, 0 => (1 : Int32) | _, _ => 0) = 0
  split
  · exact absurd rfl h
  · rfl
theorem cs0_J {p : Nat} (h : p ≠ 41) : qJ cs0 p 1 = 0 := by
  show (match p, 1 with | 41, 1 => (1 : Int64) | _, _ => 0) = 0
  split
  · exact absurd rfl h
  · rfl
theorem CI_0 : CI cs0 bo0 := by
  refine ⟨⟨rfl, fun j hj => ?_, fun i hi => ?_, fun k hk => ?_, fun k k' hk hk' e => ?_⟩, fun k hk => ?_, fun j hj => ⟨cs0_R1 j hj, 0, by omega, cs0_I (by omega), fun i hi => absurd hi (by omega)⟩, ⟨0, by omega, rfl, fun i hi => absurd hi (by omega)⟩, ⟨rfl, rfl⟩, fun j hj => rfl⟩
  · rw [cs0_R3 j hj]
    have := bo0_v (1 + j)
    rw [show bo0 (1 + j) = 51 + 14 * j by omega]
  · rw [cs0_R4 i hi]
    have := bo0_v (9 + i)
    rw [show bo0 (9 + i) = 159 + 10 * i by omega]
  · rcases bo0_v k with ⟨h, e⟩ | ⟨h1, h2, e⟩ | ⟨h, e⟩
    · exact .inl e
    · exact .inr (.inl ⟨k - 1, by omega, e⟩)
    · exact .inr (.inr ⟨k - 9, by omega, e⟩)
  · have := bo0_v k
    have := bo0_v k'
    omega
  · have := bo0_v k
    exact BO_cl (cs0_I (by omega)) (cs0_I (by omega)) (cs0_I (by omega)) (cs0_I (by omega)) (cs0_J (by omega))
theorem JK_0 : JK cs0 ms0 := by
  refine ⟨bo0, fun _ => 0, 0, CI_0, INV_0, fun j hj => .inl ⟨rfl, rfl⟩, ⟨by omega, rfl, rfl⟩, fun h hh => absurd hh (by omega), fun i hi => ?_, fun d hd => absurd hd (by omega)⟩
  have := bo0_v (1 + i)
  exact ⟨0, 0, by omega, by omega, rfl, rfl, cs0_I (by omega), cs0_I (by omega), fun j hj => absurd hj (by omega)⟩
