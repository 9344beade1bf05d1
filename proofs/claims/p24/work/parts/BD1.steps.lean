theorem fi_rf {s : mS} : fi s s := ⟨rfl, fun _ _ => rfl⟩
theorem stR {C : cS} {s : mS} {α β : Type} {x : Option (mh × α)} {y : Option (mS × β)} (j : JK C s) (hx : OK (RQ C) x) (hy : Hd y (fun o => fi s o.1)) : ∃ C' v o, x = some (hC C', v) ∧ y = some o ∧ JK C' o.1 := by
  obtain ⟨⟨h', v⟩, e, C', e1, c⟩ := hx
  obtain ⟨o, e2, f⟩ := hy
  have e1' : h' = hC C' := e1
  subst e1'
  exact ⟨C', v, o, e, e2, JK_read j c f⟩
/-- a change that the reference makes -/
theorem JK_CG {C : cS} {s s' : mS} {bo x : Nat → Nat} {c j m k : Nat} {Z Z' : V3 → Prop} {Q : Nat → V3} {h : mh} {r : Int32} (jx : JX C s bo x c) (hj : j < 8) (cg : CG C bo j Z h r) (eZ : Z = Z') (el : EL Z' m k Q) (I' : INV s') (ch : chO s s' j m k Q) : ∃ C', h = hC C' ∧ r = Int32.ofNat k ∧ JK C' s' := by
  subst eZ
  obtain ⟨C', bo', e, ci, tf, fr, k5⟩ := cg
  rcases k5 with ⟨-, -, -, -, no⟩ | ⟨kd, n, k4, er, kf, q1, q2, cls⟩
  · exact absurd el (no m k Q)
  · obtain ⟨j', e'⟩ := JX_chg jx hj ci tf fr kf k4 q1 q2 cls el I' ch
    subst e'
    exact ⟨C', e, er, j'⟩
/-- a change that the reference refuses -/
theorem JK_CGr {C : cS} {s s' : mS} {bo x : Nat → Nat} {c j : Nat} {Z Z' : V3 → Prop} {h : mh} {r : Int32} (jx : JX C s bo x c) (cg : CG C bo j Z h r) (eZ : Z = Z') (no : ∀ kd n P, ¬ CLS Z' kd n P) (f : fi s s') : ∃ C', h = hC C' ∧ r = -2 ∧ JK C' s' := by
  subst eZ
  obtain ⟨C', bo', e, ci, tf, fr, k5⟩ := cg
  rcases k5 with ⟨er, eb, e0, e5, -⟩ | ⟨kd, n, k4, er, kf, q1, q2, cls⟩
  · subst eb
    exact ⟨C', e, er, bo', x, c, JX_same jx ci tf fr e0 e5 f⟩
  · exact absurd cls (no _ _ _)
/-- a slot of both sides -/
theorem slot2 {C : cS} {s : mS} {bo x : Nat → Nat} {c : Nat} (jx : JX C s bo x c) {i : Nat} (hi : i < 8) {n : Nat} (hn : qI C (bo (1 + i) + 1) 0 = Int32.ofNat n) (n24 : n ≤ 24) : ∃ k, s.2.2.1 4 i = Int32.ofNat n ∧ s.2.2.1 5 i = Int32.ofNat k ∧ ∀ j, j < n → pc C (bo (1 + i) + 1) j = cP s i j := by
  obtain ⟨m, k, h1, h2, h3, h4, h5, h6, h7⟩ := jx.2.2.2.2.2.1 i hi
  have e : m = n := i_inj (by omega) (by omega) (h5.symm.trans hn)
  subst e
  exact ⟨k, h3, h4, h7⟩
theorem n_neg1 {n : Nat} (h : n < 2147483648) : Int32.ofNat n ≠ -1 := fun e => by
  have := congrArg Int32.toInt e
  rw [Int32.toInt_ofNat_of_lt h] at this
  have e1 : (-1 : Int32).toInt = -1 := rfl
  omega
theorem n_neg2 {n : Nat} (h : n < 2147483648) : Int32.ofNat n ≠ -2 := fun e => by
  have := congrArg Int32.toInt e
  rw [Int32.toInt_ofNat_of_lt h] at this
  have e1 : (-2 : Int32).toInt = -2 := rfl
  omega
theorem st_solid {N : Nat} {C : cS} {s : mS} (hN : 4611686018427387904 < N) (j : JK C s) (a b : Int32) : ∃ C' v o, fxX6_solid N 0 a b (hC C) = some (hC C', v) ∧ mxX7_solid N a b s = some o ∧ v = o.2 ∧ JK C' o.1 := by
  have j' := j
  obtain ⟨bo, x, c, jx⟩ := j
  obtain ⟨⟨h', v⟩, e, q⟩ := y_solid (N := N) (a := a) (t := b) (by omega) jx.1
  rcases q with ⟨k1, k2, k3⟩ | ⟨j0, i, n, hj, ea, hi, eb, hn, w2, n2, cg⟩
  · have k1' : v = -1 := k1
    have k2' : h' = hC C := k2
    subst k1'
    subst k2'
    rcases x_solid (N := N) (a := a) (b := b) (by omega) jx.2.1 with ⟨e2, -⟩ | ⟨i, t, nn, s', m, k, Q, hi, ea, ht, eb, n24, en, -⟩
    · exact ⟨C, -1, _, e, e2, rfl, j'⟩
    · exfalso
      rcases k3 with w | w | ⟨i', hi', ei', w⟩
      · rw [ea] at w
        exact sl8 hi w
      · rw [eb] at w
        exact sl8 ht w
      · have ii : i' = t := i_inj (by omega) (by omega) (ei'.symm.trans eb)
        subst ii
        rcases jx.2.2.1 i' ht with ⟨t1, -⟩ | ⟨n', -, t2, t3, -⟩
        · rw [en] at t1
          exact n_neg1 (by omega) t1
        · rw [t3] at w
          exact no1 w
  · rcases x_solid (N := N) (a := a) (b := b) (by omega) jx.2.1 with ⟨-, w⟩ | ⟨i', t, nn, s', m, k, Q, hi', ea', ht, eb', n24, en, e2, k4, I', ch, bl⟩
    · exfalso
      rcases w with w | w | ⟨t, ht, et, w⟩
      · rw [ea] at w
        exact sl8 hj w
      · rw [eb] at w
        exact sl8 hi w
      · have ii : t = i := i_inj (by omega) (by omega) (et.symm.trans eb)
        subst ii
        rcases jx.2.2.1 t ht with ⟨-, t1⟩ | ⟨n', t0, t2, -⟩
        · exact w2 t1
        · rw [w] at t2
          exact n_neg1 (by omega) t2.symm
    · have i1 : i' = j0 := i_inj (by omega) (by omega) (ea'.symm.trans ea)
      have i2 : t = i := i_inj (by omega) (by omega) (eb'.symm.trans eb)
      subst i1
      subst i2
      rcases jx.2.2.1 t hi with ⟨t1, -⟩ | ⟨n', t0, t2, t3, t4, t5⟩
      · rw [en] at t1
        exact absurd t1 (n_neg1 (by omega))
      · have m1 : n' = nn := i_inj (by omega) (by omega) (t2.symm.trans en)
        have m2 : n' = n := i_inj (by omega) (by omega) (t4.symm.trans n2)
        subst m1
        subst m2
        obtain ⟨C', e', er, j''⟩ := JK_CG jx hj cg (setP_cg t5) (bld_eZ bl) I' ch
        have e'' : h' = hC C' := e'
        subst e''
        exact ⟨C', v, _, e, e2, er, j''⟩
theorem st_grow {N : Nat} {C : cS} {s : mS} (hN : 4611686018427387904 < N) (j : JK C s) (a x y z : Int32) : ∃ C' v o, fxX6_grow N 0 a x y z (hC C) = some (hC C', v) ∧ mxX7_grow N a x y z s = some o ∧ v = o.2 ∧ JK C' o.1 := by
  have j' := j
  obtain ⟨bo, xx, c, jx⟩ := j
  obtain ⟨⟨h', v⟩, e, q⟩ := y_grow (N := N) (a := a) (x := x) (y := y) (z := z) (by omega) jx.1
  rcases q with ⟨k1, k2, k3⟩ | ⟨j0, n, hj, ea, hpt, hn, n3, cg⟩
  · have k1' : v = -1 := k1
    have k2' : h' = hC C := k2
    subst k1'
    subst k2'
    rcases x_grow (N := N) (a := a) (x := x) (y := y) (z := z) (by omega) jx.2.1 with ⟨e2, -⟩ | ⟨i, m0, k0, hi, ea, hpt, -⟩
    · exact ⟨C, -1, _, e, e2, rfl, j'⟩
    · exfalso
      rcases k3 with w | w
      · rw [ea] at w
        exact sl8 hi w
      · exact w hpt
  · rcases x_grow (N := N) (a := a) (x := x) (y := y) (z := z) (by omega) jx.2.1 with ⟨-, w⟩ | ⟨i, m0, k0, hi, ea', -, em, ok, k5⟩
    · exfalso
      rcases w with w | w
      · rw [ea] at w
        exact sl8 hj w
      · exact w hpt
    · have i1 : i = j0 := i_inj (by omega) (by omega) (ea'.symm.trans ea)
      subst i1
      obtain ⟨k', s1, s2, s3⟩ := slot2 jx hj n3 hn
      have m1 : m0 = n := i_inj (by have := ok.1; omega) (by omega) (em.symm.trans s1)
      subst m1
      have eZ : setP (fun i' => if i' < m0 then pc C (bo (1 + i) + 1) i' else (x.toInt, y.toInt, z.toInt)) (m0 + 1) = setP (grP s i m0 (x.toInt, y.toInt, z.toInt)) (m0 + 1) := setP_cg (fun t ht => by
        show (if t < m0 then pc C (bo (1 + i) + 1) t else (x.toInt, y.toInt, z.toInt)) = (if t < m0 then cP s i t else (x.toInt, y.toInt, z.toInt))
        by_cases d : t < m0
        · rw [if_pos d, if_pos d]
          exact s3 t d
        · rw [if_neg d, if_neg d])
      rcases k5 with ⟨s', e2, f, nb⟩ | ⟨s', m, k, Q, e2, k4, I', ch, bl⟩
      · obtain ⟨C', e', er, j''⟩ := JK_CGr jx cg eZ (fun _ _ _ cls => CLS_noB cls nb) f
        have e'' : h' = hC C' := e'
        subst e''
        exact ⟨C', v, _, e, e2, er, j''⟩
      · obtain ⟨C', e', er, j''⟩ := JK_CG jx hj cg eZ (bld_eZ bl) I' ch
        have e'' : h' = hC C' := e'
        subst e''
        exact ⟨C', v, _, e, e2, er, j''⟩
theorem st_sum {N : Nat} {C : cS} {s : mS} (hN : 4611686018427387904 < N) (j : JK C s) (a b t : Int32) : ∃ C' v o, fxX6_sum N 0 a b t (hC C) = some (hC C', v) ∧ mxX7_sum N a b t s = some o ∧ v = o.2 ∧ JK C' o.1 := by
  have j' := j
  obtain ⟨bo, xx, c, jx⟩ := j
  obtain ⟨⟨h', v⟩, e, q⟩ := y_sum (N := N) (a := a) (b := b) (t := t) (by omega) jx.1
  rcases q with ⟨k1, k2, k3⟩ | ⟨i, k, u, n, m, hi, ea, hk, eb, hu, et, hn, hm, n3, m3, cg⟩
  · have k1' : v = -1 := k1
    have k2' : h' = hC C := k2
    subst k1'
    subst k2'
    rcases x_sum (N := N) (a := a) (b := b) (t := t) (by omega) jx.2.1 with ⟨e2, -⟩ | ⟨i, jj, u, m0, m1, k0, k1, hi, ea, hj, eb, hu, et, -⟩
    · exact ⟨C, -1, _, e, e2, rfl, j'⟩
    · exfalso
      rcases k3 with w | w | w
      · rw [ea] at w
        exact sl8 hi w
      · rw [eb] at w
        exact sl8 hj w
      · rw [et] at w
        exact sl8 hu w
  · rcases x_sum (N := N) (a := a) (b := b) (t := t) (by omega) jx.2.1 with ⟨-, w⟩ | ⟨i', jj, u', m0, m1, k0, k1, hi', ea', hj', eb', hu', et', em0, ok0, em1, ok1, o, e2, k5⟩
    · exfalso
      rcases w with w | w | w
      · rw [ea] at w
        exact sl8 hi w
      · rw [eb] at w
        exact sl8 hk w
      · rw [et] at w
        exact sl8 hu w
    · have i1 : i' = i := i_inj (by omega) (by omega) (ea'.symm.trans ea)
      have i2 : jj = k := i_inj (by omega) (by omega) (eb'.symm.trans eb)
      have i3 : u' = u := i_inj (by omega) (by omega) (et'.symm.trans et)
      subst i1
      subst i2
      subst i3
      obtain ⟨k', s1, s2, s3⟩ := slot2 jx hi n3 hn
      obtain ⟨k'', r1, r2, r3⟩ := slot2 jx hk m3 hm
      have q1 : m0 = n := i_inj (by have := ok0.1; omega) (by omega) (em0.symm.trans s1)
      have q2 : m1 = m := i_inj (by have := ok1.1; omega) (by omega) (em1.symm.trans r1)
      subst q1
      subst q2
      have eZ : sZ C (bo (1 + i') + 1) (bo (1 + jj) + 1) m0 m1 = fun x => ∃ p q, p < m0 ∧ q < m1 ∧ x = va (cP s i' p) (cP s jj q) := by
        funext y
        apply propext
        constructor
        · rintro ⟨p, q, hp, hq, ey⟩
          exact ⟨p, q, hp, hq, by rw [ey, s3 p hp, r3 q hq]⟩
        · rintro ⟨p, q, hp, hq, ey⟩
          exact ⟨p, q, hp, hq, by rw [ey, s3 p hp, r3 q hq]⟩
      rcases k5 with ⟨er2, f, nb⟩ | ⟨m', k3, Q, er2, k4, I', ch, bl⟩
      · obtain ⟨C', e', er, j''⟩ := JK_CGr jx cg eZ (fun _ _ _ cls => CLS_noB cls nb) f
        have e'' : h' = hC C' := e'
        subst e''
        exact ⟨C', v, _, e, e2, (er : v = -2).trans er2.symm, j''⟩
      · obtain ⟨C', e', er, j''⟩ := JK_CG jx hu cg eZ (bld_eZ bl) I' ch
        have e'' : h' = hC C' := e'
        subst e''
        exact ⟨C', v, _, e, e2, (er : v = Int32.ofNat k3).trans er2.symm, j''⟩
theorem st_copy {N : Nat} {C : cS} {s : mS} (hN : 4611686018427387904 < N) (j : JK C s) (a b : Int32) : ∃ C' v o, fxX6_copy N 0 a b (hC C) = some (hC C', v) ∧ mxX7_copy N a b s = some o ∧ v = o.2 ∧ JK C' o.1 := by
  have j' := j
  obtain ⟨bo, xx, c, jx⟩ := j
  obtain ⟨⟨h', v⟩, e, q⟩ := y_copy (N := N) (a := a) (t := b) (by omega) jx.1
  rcases q with ⟨k1, k2, k3⟩ | ⟨i, u, n, r', hi, ea, hu, eb, hn, n3, ev, cg⟩
  · have k1' : v = 0 := k1
    have k2' : h' = hC C := k2
    subst k1'
    subst k2'
    rcases x_copy (N := N) (a := a) (b := b) (by omega) jx.2.1 with ⟨e2, -⟩ | ⟨i, t, m, k, s', hi, ea, ht, eb, -⟩
    · exact ⟨C, 0, _, e, e2, rfl, j'⟩
    · exfalso
      rw [ea, eb] at k3
      exact k3.elim (sl8 hi) (sl8 ht)
  · have ev' : v = 1 := ev
    subst ev'
    rcases x_copy (N := N) (a := a) (b := b) (by omega) jx.2.1 with ⟨-, w⟩ | ⟨i', t, m, k, s', hi', ea', ht, eb', em, ek, ok, e2, I', ch⟩
    · exfalso
      rw [ea, eb] at w
      exact w.elim (sl8 hi) (sl8 hu)
    · have i1 : i' = i := i_inj (by omega) (by omega) (ea'.symm.trans ea)
      have i2 : t = u := i_inj (by omega) (by omega) (eb'.symm.trans eb)
      subst i1
      subst i2
      obtain ⟨k', s1, s2, s3⟩ := slot2 jx hi n3 hn
      have q1 : m = n := i_inj (by have := ok.1; omega) (by omega) (em.symm.trans s1)
      subst q1
      obtain ⟨C', e', er, j''⟩ := JK_CG jx hu cg (setP_cg s3) (EL_of ok (fun x => Iff.rfl)) I' ch
      have e'' : h' = hC C' := e'
      subst e''
      exact ⟨C', 1, _, e, e2, rfl, j''⟩
theorem srt_Z {Q P : Nat → V3} {n : Nat} (h : srt Q n P n) : ∀ x, setP P n x ↔ ∃ t, t < n ∧ x = Q t := fun x => by
  constructor
  · rintro ⟨a, ha, e⟩
    obtain ⟨t, ht, e'⟩ := h.2.2.2 a ha
    exact ⟨t, ht, by rw [e, e']⟩
  · rintro ⟨t, ht, e⟩
    obtain ⟨a, ha, e'⟩ := h.2.2.1 t ht
    exact ⟨a, ha, by rw [e, e']⟩
theorem st_mirror {N : Nat} {C : cS} {s : mS} (hN : 4611686018427387904 < N) (j : JK C s) (a b : Int32) : ∃ C' v o, fxX6_mirror N 0 a b (hC C) = some (hC C', v) ∧ mxX7_mirror N a b s = some o ∧ v = o.2 ∧ JK C' o.1 := by
  have j' := j
  obtain ⟨bo, xx, c, jx⟩ := j
  obtain ⟨⟨h', v⟩, e, q⟩ := y_mirror (N := N) (a := a) (b := b) (by omega) jx.1
  rcases q with ⟨k1, k2, k3⟩ | ⟨i, ax, n, r', hi, ea, hx, eb, hn, n3, ev, cg⟩
  · have k1' : v = 0 := k1
    have k2' : h' = hC C := k2
    subst k1'
    subst k2'
    rcases x_mirror (N := N) (a := a) (b := b) (by omega) jx.2.1 with ⟨e2, -⟩ | ⟨i, ax, m, k, s', Q, hi, ea, hx, eb, -⟩
    · exact ⟨C, 0, _, e, e2, rfl, j'⟩
    · exfalso
      rw [ea, eb] at k3
      rcases k3 with w | w | w
      · exact sl8 hi w
      · exact i_lt0 (by omega) w
      · refine w ?_
        have := i_le (a := ax) (b := 3) (by omega) (by omega)
        show Int32.ofNat ax ≤ Int32.ofNat 3
        rw [this]
        omega
  · have ev' : v = 1 := ev
    subst ev'
    rcases x_mirror (N := N) (a := a) (b := b) (by omega) jx.2.1 with ⟨-, w⟩ | ⟨i', ax', m, k, s', Q, hi', ea', hx', eb', em, ek, -, ok, so, e2, I', ch⟩
    · exfalso
      rw [ea, eb] at w
      rcases w with w | w | w
      · exact sl8 hi w
      · exact i_lt0 (by omega) w
      · refine w ?_
        have := i_le (a := ax) (b := 3) (by omega) (by omega)
        show Int32.ofNat ax ≤ Int32.ofNat 3
        rw [this]
        omega
    · have i1 : i' = i := i_inj (by omega) (by omega) (ea'.symm.trans ea)
      have i2 : ax' = ax := i_inj (by omega) (by omega) (eb'.symm.trans eb)
      subst i1
      subst i2
      obtain ⟨k', s1, s2, s3⟩ := slot2 jx hi n3 hn
      have q1 : m = n := i_inj (by have := ok.1; omega) (by omega) (em.symm.trans s1)
      subst q1
      obtain ⟨C', e', er, j''⟩ := JK_CG jx hi cg (setP_cg (Q := fun t => mrT ax' (cP s i' t)) (fun t ht => by rw [s3 t ht])) (EL_of ok (srt_Z so)) I' ch
      have e'' : h' = hC C' := e'
      subst e''
      exact ⟨C', 1, _, e, e2, rfl, j''⟩
theorem st_turn {N : Nat} {C : cS} {s : mS} (hN : 4611686018427387904 < N) (j : JK C s) (a b : Int32) : ∃ C' v o, fxX6_turn N 0 a b (hC C) = some (hC C', v) ∧ mxX7_turn N a b s = some o ∧ v = o.2 ∧ JK C' o.1 := by
  have j' := j
  obtain ⟨bo, xx, c, jx⟩ := j
  obtain ⟨⟨h', v⟩, e, q⟩ := y_turn (N := N) (a := a) (b := b) (by omega) jx.1
  rcases q with ⟨k1, k2, k3⟩ | ⟨i, ax, n, r', hi, ea, hx, eb, hn, n3, ev, cg⟩
  · have k1' : v = 0 := k1
    have k2' : h' = hC C := k2
    subst k1'
    subst k2'
    rcases x_turn (N := N) (a := a) (b := b) (by omega) jx.2.1 with ⟨e2, -⟩ | ⟨i, ax, m, k, s', Q, hi, ea, hx, eb, -⟩
    · exact ⟨C, 0, _, e, e2, rfl, j'⟩
    · exfalso
      rw [ea, eb] at k3
      rcases k3 with w | w | w
      · exact sl8 hi w
      · exact i_lt0 (by omega) w
      · refine w ?_
        have := i_le (a := ax) (b := 2) (by omega) (by omega)
        show Int32.ofNat ax ≤ Int32.ofNat 2
        rw [this]
        omega
  · have ev' : v = 1 := ev
    subst ev'
    rcases x_turn (N := N) (a := a) (b := b) (by omega) jx.2.1 with ⟨-, w⟩ | ⟨i', ax', m, k, s', Q, hi', ea', hx', eb', em, ek, -, ok, so, e2, I', ch⟩
    · exfalso
      rw [ea, eb] at w
      rcases w with w | w | w
      · exact sl8 hi w
      · exact i_lt0 (by omega) w
      · refine w ?_
        have := i_le (a := ax) (b := 2) (by omega) (by omega)
        show Int32.ofNat ax ≤ Int32.ofNat 2
        rw [this]
        omega
    · have i1 : i' = i := i_inj (by omega) (by omega) (ea'.symm.trans ea)
      have i2 : ax' = ax := i_inj (by omega) (by omega) (eb'.symm.trans eb)
      subst i1
      subst i2
      obtain ⟨k', s1, s2, s3⟩ := slot2 jx hi n3 hn
      have q1 : m = n := i_inj (by have := ok.1; omega) (by omega) (em.symm.trans s1)
      subst q1
      obtain ⟨C', e', er, j''⟩ := JK_CG jx hi cg (setP_cg (Q := fun t => tnT ax' (cP s i' t)) (fun t ht => by rw [s3 t ht])) (EL_of ok (srt_Z so)) I' ch
      have e'' : h' = hC C' := e'
      subst e''
      exact ⟨C', 1, _, e, e2, rfl, j''⟩
theorem slot_ok {s : mS} (hI : INV s) {i m : Nat} (hi : i < 8) (em : s.2.2.1 4 i = Int32.ofNat m) (hm : m ≤ 24) : ∃ k, okP (cP s i) m k := by
  obtain ⟨c, -, -, sl, -⟩ := hI
  obtain ⟨m', k, h1, h2, ok⟩ := sl i hi
  have e : m' = m := i_inj (by have := ok.1; omega) (by omega) (h1.symm.trans em)
  subst e
  exact ⟨k, ok⟩
theorem x_move2 {N : Nat} {a dx dy dz : Int32} {s : mS} (hN : 1000000 < N) (hI : INV s) : (mxX7_move N a dx dy dz s = some (s, 0) ∧ ((a < 0 ∨ 8 ≤ a) ∨ ∃ i m u, i < 8 ∧ a = Int32.ofNat i ∧ s.2.2.1 4 i = Int32.ofNat m ∧ m ≤ 24 ∧ u < m ∧ ¬ bd3 (mvP (cP s i) (dx.toInt, dy.toInt, dz.toInt) u) 100)) ∨ ∃ i m k s', i < 8 ∧ a = Int32.ofNat i ∧ s.2.2.1 4 i = Int32.ofNat m ∧ s.2.2.1 5 i = Int32.ofNat k ∧ okP (cP s i) m k ∧ okP (mvP (cP s i) (dx.toInt, dy.toInt, dz.toInt)) m k ∧ mxX7_move N a dx dy dz s = some (s', 1) ∧ INV s' ∧ chO s s' i m k (mvP (cP s i) (dx.toInt, dy.toInt, dz.toInt)) := by
  unfold mxX7_move
  rcases slot_or a with ha | ⟨i, hi, rfl⟩
  · left
    rw [solid_no ha, Option.bind_some]
    exact ⟨rfl, .inl ha⟩
  rw [solid_in hi, Option.bind_some]
  dsimp only
  rw [if_neg (by decide)]
  have hI' := hI
  obtain ⟨c, g1, g2, g3, -⟩ := hI'
  obtain ⟨m, k, h4, h5, ok⟩ := g3 i hi
  rcases x_mv12 (N := N) (dx := dx) (dy := dy) (dz := dz) hi h4 ok.1 m N 0 (by omega) (by have := ok.1; omega) (fun u hu => absurd hu (by omega)) with ⟨e, u, u1, u2⟩ | ⟨e, hb⟩
  · left
    exact ⟨e, .inr ⟨i, m, u, hi, rfl, h4, ok.1, u1, u2⟩⟩
  · right
    obtain ⟨s1, e1, K⟩ := x_keeps (N := N) (by omega) g1 g2
    obtain ⟨k4, k5, kc⟩ := kpO_slot K
    have ok2 := ok_mv (d := (dx.toInt, dy.toInt, dz.toInt)) ok hb
    obtain ⟨s', e2, B⟩ := x_mv84 (N := N) (i := i) (m := m) (k := k) (dx := dx) (dy := dy) (dz := dz) (s := s1) hi (by rw [k4]; exact h4) (by rw [k5]; exact h5) ok.1 (by rw [kc]; exact hb) m N 0 s1 (by omega) (by have := ok.1; omega) fr.rf (fun _ _ => ⟨rfl, rfl, rfl⟩) (fun u hu => absurd hu (by omega))
    rw [kc] at B
    refine ⟨i, m, k, s', hi, rfl, h4, h5, ok, ok2, ?_, INV_bc (INV_keeps hI K) B ok2, s, s1, fi.rf, K, B⟩
    have e' : mxX7_move_12 N N (Int32.ofNat i) dx dy dz 0 s = (mxX7_keeps N s).bind fun o7 => mxX7_move_84 N N (Int32.ofNat i) dx dy dz ((24 : Int32) * Int32.ofNat i) o7 := e
    rw [e', e1, Option.bind_some, i_c24]
    exact e2
theorem st_move {N : Nat} {C : cS} {s : mS} (hN : 4611686018427387904 < N) (j : JK C s) (a x y z : Int32) : ∃ C' v o, fxX6_move N 0 a x y z (hC C) = some (hC C', v) ∧ mxX7_move N a x y z s = some o ∧ v = o.2 ∧ JK C' o.1 := by
  have j' := j
  obtain ⟨bo, xx, c, jx⟩ := j
  obtain ⟨⟨h', v⟩, e, q⟩ := y_move (N := N) (a := a) (x := x) (y := y) (z := z) (by omega) jx.1
  have mv : ∀ P : Nat → V3, ∀ t, mvP P (x.toInt, y.toInt, z.toInt) t = va (P t) (x.toInt, y.toInt, z.toInt) := fun _ _ => rfl
  rcases q with ⟨k1, k2, k3⟩ | ⟨i, n, r', hi, ea, hn, n3, ev, cg⟩
  · have k1' : v = 0 := k1
    have k2' : h' = hC C := k2
    subst k1'
    subst k2'
    rcases x_move2 (N := N) (a := a) (dx := x) (dy := y) (dz := z) (by omega) jx.2.1 with ⟨e2, -⟩ | ⟨i, m, k, s', hi, ea, em, ek, ok, ok2, -⟩
    · exact ⟨C, 0, _, e, e2, rfl, j'⟩
    · exfalso
      rcases k3 with w | ⟨i', n, hi', ei', n3, n0, n24, w⟩
      · rw [ea] at w
        exact sl8 hi w
      · have i1 : i' = i := i_inj (by omega) (by omega) (ei'.symm.trans ea)
        subst i1
        obtain ⟨k', s1, s2, s3⟩ := slot2 jx hi n3 n24
        have q1 : m = n := i_inj (by have := ok.1; omega) (by omega) (em.symm.trans s1)
        subst q1
        obtain ⟨x1, x2, x3⟩ := ok.2.1 0 n0
        obtain ⟨y1, y2, y3⟩ := ok2.2.1 0 n0
        have y1' : ((cP s i' 0).1 + x.toInt).natAbs ≤ 100 := y1
        have y2' : ((cP s i' 0).2.1 + y.toInt).natAbs ≤ 100 := y2
        have y3' : ((cP s i' 0).2.2 + z.toInt).natAbs ≤ 100 := y3
        exact w ⟨by show x.toInt.natAbs ≤ 200; omega, by show y.toInt.natAbs ≤ 200; omega, by show z.toInt.natAbs ≤ 200; omega⟩
  · obtain ⟨k', s1, s2, s3⟩ := slot2 jx hi n3 hn
    have ev' : v = if r' = -2 then 0 else 1 := ev
    have eZs : setP (fun t => va (pc C (bo (1 + i) + 1) t) (x.toInt, y.toInt, z.toInt)) n = setP (mvP (cP s i) (x.toInt, y.toInt, z.toInt)) n := setP_cg (fun t ht => by rw [s3 t ht, mv])
    rcases x_move2 (N := N) (a := a) (dx := x) (dy := y) (dz := z) (by omega) jx.2.1 with ⟨e2, w⟩ | ⟨i', m, k, s', hi', ea', em, ek, ok, ok2, e2, I', ch⟩
    · rcases w with w | ⟨i', m, u, hi', ea', em, m24, hu, nb⟩
      · rw [ea] at w
        exact absurd w (sl8 hi)
      · have i1 : i' = i := i_inj (by omega) (by omega) (ea'.symm.trans ea)
        subst i1
        have q1 : m = n := i_inj (by omega) (by omega) (em.symm.trans s1)
        subst q1
        obtain ⟨ko, ok⟩ := slot_ok jx.2.1 hi s1 hn
        obtain ⟨C', e', er, j''⟩ := JK_CGr jx cg eZs (fun kd n' P cls => by
          obtain ⟨uu, hu'⟩ := ok.2.2.2.1 u hu
          have ez : eZ (setP (mvP (cP s i') (x.toInt, y.toInt, z.toInt)) m) (mvP (cP s i') (x.toInt, y.toInt, z.toInt) u) := ⟨⟨u, hu, rfl⟩, uu, fun w ⟨t, ht, et⟩ ne => by
            rw [et, mv, mv, vd_va, vd_va]
            have := hu' t ht (fun q => ne (by rw [et, q]))
            omega⟩
          obtain ⟨t, ht, et⟩ := cls.2.2.1 _ ez
          rw [← et] at nb
          exact nb (cls.2.1 t ht).1) fi_rf
        have e'' : h' = hC C' := e'
        subst e''
        refine ⟨C', v, _, e, e2, ?_, j''⟩
        rw [ev', if_pos er]
    · have i1 : i' = i := i_inj (by omega) (by omega) (ea'.symm.trans ea)
      subst i1
      have q1 : m = n := i_inj (by have := ok.1; omega) (by omega) (em.symm.trans s1)
      subst q1
      obtain ⟨C', e', er, j''⟩ := JK_CG jx hi cg eZs (EL_of ok2 (fun _ => Iff.rfl)) I' ch
      have e'' : h' = hC C' := e'
      subst e''
      refine ⟨C', v, _, e, e2, ?_, j''⟩
      rw [ev', if_neg (by
        rw [er]
        rcases ok2.2.2.2.2 with ⟨_, w⟩ | ⟨_, w, -⟩ | ⟨_, w, -⟩
        · exact n_neg2 (by have := ok2.1; omega)
        · rw [w]
          decide
        · rw [w]
          decide)]
theorem st_undo {N : Nat} {C : cS} {s : mS} (hN : 4611686018427387904 < N) (j : JK C s) : ∃ C' v o, fxX6_undo N 0 (hC C) = some (hC C', v) ∧ mxX7_undo N s = some o ∧ v = o.2 ∧ JK C' o.1 := by
  have j' := j
  obtain ⟨bo, x, c, j1, j2, j3, ⟨j4, j5, j6⟩, j7, j8, j9⟩ := j
  obtain ⟨⟨h', v⟩, e, q⟩ := y_undo (N := N) j1
  rcases q with ⟨k1, k2, k3⟩ | ⟨c0, i0, C', hc0, hi0, k3, k4, ev, k5, ci', tf, iq, aq, i5⟩
  · have k1' : v = -1 := k1
    have k2' : h' = hC C := k2
    subst k1'
    subst k2'
    have c00 : c = 0 := i_inj (b := 0) (by omega) (by omega) (j5.symm.trans k3)
    rcases x_undo (N := N) (by omega) j2 with ⟨e2, -⟩ | ⟨s', c1, h1, h2, -⟩
    · exact ⟨C, -1, _, e, e2, rfl, j'⟩
    · exfalso
      have := i_inj (by omega) (by omega) (j6.symm.trans h2)
      omega
  · have ev' : v = Int32.ofNat c0 := ev
    have k5' : h' = hC C' := k5
    subst ev'
    subst k5'
    have cc : c = c0 + 1 := i_inj (by omega) (by omega) (j5.symm.trans k3)
    subst cc
    rcases x_undo (N := N) (by omega) j2 with ⟨-, w⟩ | ⟨s', c1, h1, h2, e2, ud, I'⟩
    · exfalso
      have := i_inj (b := 0) (by omega) (by omega) (j6.symm.trans w)
      omega
    · have c11 : c1 = c0 := by
        have := i_inj (by omega) (by omega) (j6.symm.trans h2)
        omega
      subst c11
      have hxc : x c1 = i0 := i_inj (by have := (j7 c1 (by omega)).1; omega) (by omega) ((j7 c1 (by omega)).2.symm.trans k4)
      obtain ⟨u1, u2, u3, u4⟩ := ud
      have hs : ∀ k, 10 ≤ k → k < 15 → s'.2.2.1 k = s.2.2.1 k := fun k a b => (u1 k (by
        intro w
        simp at w
        omega)).2.2.1
      have same : ∀ b, (∃ k, 1 ≤ k ∧ k < 17 ∧ b = bo k) → ∀ y, b ≤ y → y ≤ b + 8 → qI C' y = qI C y ∧ qA C' y = qA C y := fun b ⟨k, k1, k17, eb⟩ y a d => by
        refine ⟨iq y ?_, by rw [aq]⟩
        have kb := j1.1.2.2.2.1 k k17
        rw [← eb] at kb
        rcases kb with kb | ⟨q, _, kb⟩ | ⟨q, _, kb⟩ <;> omega
      refine ⟨C', _, _, e, e2, rfl, fun k => bo (pU c1 i0 k), x, c1, ci', I', TK2_TF j3 tf (fun k hk => (u1 k (by
        intro w
        simp at w
        omega)).2.2.1), ⟨by omega, i5, u2⟩, fun h hh => by rw [aq]; exact j7 h (by omega), fun i hi => ?_, fun d hd i hi => ?_⟩
      · have a := j9 0 (by omega) i hi
        have ev := vb_undo (x := x) hi0 (bo := bo) (fun k => rfl) hxc hi 0 (by omega)
        have ev' : bo (pU c1 i0 (1 + i)) = vb bo x (c1 + 1) (0 + 1) i := ev
        show AL0 C' (bo (pU c1 i0 (1 + i))) s' i
        rw [ev']
        have a2 := AL_IA a (same _ (vb_k (bo := bo) (x := x) j4 hi (0 + 1) (by omega)))
        rw [show c1 + 1 - (0 + 1) = c1 by omega] at a2
        refine AL_ref a2 (u3 i hi).1 (u3 i hi).2 (fun t ht => ?_)
        exact u4 (24 * i + t) (by omega)
      · have a := j9 (d + 1) (by omega) i hi
        rw [vb_undo (x := x) hi0 (bo := bo) (fun k => rfl) hxc hi (d + 1) (by omega)]
        have a2 := AL_IA a (same _ (vb_k (bo := bo) (x := x) j4 hi (d + 1 + 1) (by omega)))
        rw [show c1 + 1 - (d + 1 + 1) = c1 - (d + 1) by omega] at a2
        refine AL_ref a2 ?_ ?_ (fun t ht => ?_)
        · show s'.2.2.1 10 _ = s.2.2.1 10 _
          rw [hs 10 (by omega) (by omega)]
        · show s'.2.2.1 11 _ = s.2.2.1 11 _
          rw [hs 11 (by omega) (by omega)]
        · show s'.2.2.1 12 _ = s.2.2.1 12 _ ∧ s'.2.2.1 13 _ = s.2.2.1 13 _ ∧ s'.2.2.1 14 _ = s.2.2.1 14 _
          rw [hs 12 (by omega) (by omega), hs 13 (by omega) (by omega), hs 14 (by omega) (by omega)]
          exact ⟨rfl, rfl, rfl⟩
