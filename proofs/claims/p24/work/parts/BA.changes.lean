theorem pt100 {x y z : Int32} (h : isPt x y z) : bd3 (x.toInt, y.toInt, z.toInt) 100 := by
  obtain ⟨a, b, c, d, e, f⟩ := h
  rw [Int32.lt_iff_toInt_lt] at a b c d e f
  have m : (-100 : Int32).toInt = -100 := rfl
  have p : (100 : Int32).toInt = 100 := rfl
  rw [m] at a c e
  rw [p] at b d f
  exact ⟨by show x.toInt.natAbs ≤ 100; omega, by show y.toInt.natAbs ≤ 100; omega, by show z.toInt.natAbs ≤ 100; omega⟩
theorem fre_16 {i : Nat} (h : rg 16 19 i) : fre i := .inl ⟨h.1, h.2⟩
theorem fre_24 {i : Nat} (h : rg 24 27 i) : fre i := .inr ⟨by have := h.1; omega, by have := h.2; omega, by have := h.2; omega⟩
theorem fre_41 {i : Nat} (h : rg 41 45 i) : fre i := .inr ⟨by have := h.1; omega, by have := h.2; omega, by have := h.1; omega⟩
theorem sl8 {j : Nat} (hj : j < 8) : ¬ (Int32.ofNat j < 0 ∨ 8 ≤ Int32.ofNat j) := fun w => by
  rcases w with w | w
  · exact i_lt0 (by omega) w
  · have := i_le (a := 8) (b := j) (by omega) (by omega)
    have w' : Int32.ofNat 8 ≤ Int32.ofNat j := w
    rw [this] at w'
    omega
theorem w200 {x : Int32} (h1 : ¬ x < -200) (h2 : ¬ 200 < x) : x.toInt.natAbs ≤ 200 := by
  rw [Int32.lt_iff_toInt_lt] at h1 h2
  have m : (-200 : Int32).toInt = -200 := rfl
  have p : (200 : Int32).toInt = 200 := rfl
  rw [m] at h1
  rw [p] at h2
  omega
theorem s24 : shp 24 = (3, 1) := rfl
theorem OK_win2 {β : Type} {Q : β → Prop} {N : Nat} {x m : Int32} {s : cS} {f : mh × Int32 → Option β} (h1 : ¬ x < -m → ¬ m < x → OK Q (f (hC s, 1))) (h0 : (x < -m ∨ m < x) → OK Q (f (hC s, 0))) : OK Q ((fxX6_isWithin N x m (hC s)).bind f) := by
  unfold fxX6_isWithin
  by_cases w : x < -m
  · exact OK_b (if_pos w) (h0 (.inl w))
  · by_cases w' : m < x
    · exact OK_b ((if_neg w).trans (if_pos w')) (h0 (.inr w'))
    · exact OK_b ((if_neg w).trans (if_neg w')) (h1 w w')
theorem va_z (x : V3) : va x v0 = x := by
  refine v3_ext ?_ ?_ ?_
  · show x.1 + 0 = x.1
    omega
  · show x.2.1 + 0 = x.2.1
    omega
  · show x.2.2 + 0 = x.2.2
    omega
theorem sZ_o {s : cS} {p n : Nat} (h : pc s 20 0 = v0) : sZ s p 20 n 1 = setP (pc s p) n := by
  funext x
  apply propext
  constructor
  · rintro ⟨i, j, hi, hj, e⟩
    have j0 : j = 0 := by omega
    rw [j0, h, va_z] at e
    exact ⟨i, hi, e⟩
  · rintro ⟨i, hi, e⟩
    exact ⟨i, 0, hi, by omega, by rw [h, va_z]; exact e⟩
theorem setP_cg {P Q : Nat → V3} {n : Nat} (h : ∀ i, i < n → P i = Q i) : setP P n = setP Q n := by
  funext x
  apply propext
  constructor
  · rintro ⟨i, hi, e⟩
    exact ⟨i, hi, by rw [e, h i hi]⟩
  · rintro ⟨i, hi, e⟩
    exact ⟨i, hi, by rw [e, h i hi]⟩
theorem fre_b {s : cS} {bo : Nat → Nat} (ci : CI s bo) {k i : Nat} (hk : k < 17) (a : bo k ≤ i) (b : i ≤ bo k + 8) : ¬ fre i := fun w => by
  have kb := ci.1.2.2.2.1 k hk
  rcases w with z | z
  · rcases kb with kb | ⟨j, _, kb⟩ | ⟨j, _, kb⟩ <;> omega
  · rcases kb with kb | ⟨j, _, kb⟩ | ⟨j, _, kb⟩ <;> omega
theorem fre_lo {i : Nat} (h : i < 6 ∨ (20 ≤ i ∧ i < 24)) : ¬ fre i := fun w => by
  rcases w with z | z <;> omega
/-- a change after some scratch was written -/
theorem CHG_cf {s s1 s' : cS} {bo bo' : Nat → Nat} {j : Nat} {Z : V3 → Prop} {r : Int32} (ci : CI s bo) (c : cf fre s s1) (h : CHG s1 s' bo bo' j Z r) : CHG s s' bo bo' j Z r := by
  have i0 : qI s1 0 = qI s 0 := c.I (fre_lo (by omega))
  have a5 : qA s1 5 = qA s 5 := c.A (fre_lo (by omega))
  obtain ⟨fr, k⟩ := h
  refine ⟨fun k k1 k17 i a b => ?_, ?_⟩
  · have ni := fre_b ci k17 a b
    exact ⟨(fr k k1 k17 i a b).1.trans (c.I ni), (fr k k1 k17 i a b).2.trans (c.A ni)⟩
  · rcases k with ⟨k1, k2, k3, k4, k5⟩ | ⟨kd, n, k1, k2, ⟨c', y1, y2, y3⟩, k4⟩
    · exact .inl ⟨k1, k2, by rw [k3, i0], k4.trans a5, k5⟩
    · refine .inr ⟨kd, n, k1, k2, ⟨c', y1, by rw [← i0]; exact y2, ?_⟩, k4⟩
      rw [a5] at y3
      exact y3
/-- a change: what holds after it -/
def CG (s : cS) (bo : Nat → Nat) (j : Nat) (Z : V3 → Prop) (h : mh) (r : Int32) : Prop := ∃ s' bo', h = hC s' ∧ CI s' bo' ∧ TF s s' ∧ CHG s s' bo bo' j Z r
theorem CG_bc {N j p q n m kp kq : Nat} {s0 s : cS} {bo : Nat → Nat} {Z : V3 → Prop} (hN : 100000 < N) (ci0 : CI s0 bo) (c : cf fre s0 s) (hj : j < 8) (z : PZ s p q n m kp kq) (dp : p + 3 < bo 0 ∨ bo 0 + 9 < p) (dq : q + 3 < bo 0 ∨ bo 0 + 9 < q) (eZ : sZ s p q kp kq = Z) : OK (fun r => CG s0 bo j Z r.1 r.2) (fxX6_become N 0 (Int32.ofNat j) p q (hC s)) := by
  obtain ⟨ci, tf⟩ := CI_cf ci0 c (fun i hi => hi)
  obtain ⟨r, e, s', bo', e', ci', t', ch⟩ := c_become (N := N) hN ci hj z dp dq
  rw [eZ] at ch
  exact ⟨r, e, s', bo', e', ci', TF_tr tf t', CHG_cf ci0 c ch⟩
/-- solid -/
theorem y_solid {N : Nat} {a t : Int32} {s : cS} {bo : Nat → Nat} (hN : 100000 < N) (ci : CI s bo) : OK (fun r => (r.2 = -1 ∧ r.1 = hC s ∧ ((a < 0 ∨ 8 ≤ a) ∨ (t < 0 ∨ 8 ≤ t) ∨ ∃ i, i < 8 ∧ t = Int32.ofNat i ∧ qA s 2 i = 0)) ∨ ∃ j i n, j < 8 ∧ a = Int32.ofNat j ∧ i < 8 ∧ t = Int32.ofNat i ∧ n ≤ 24 ∧ qA s 2 i ≠ 0 ∧ qI s (47 + 14 * i) 0 = Int32.ofNat n ∧ CG s bo j (setP (pc s (47 + 14 * i)) n) r.1 r.2) (fxX6_solid N 0 a t (hC s)) := by
  unfold fxX6_solid
  refine OK_slot (fun j hj ej => ?_) (fun w => OK_p rfl (OK_s (.inl ⟨rfl, rfl, .inl w⟩)))
  refine OK_n no1 (OK_slot (fun i hi ei => ?_) (fun w => OK_p rfl (OK_s (.inl ⟨rfl, rfl, .inr (.inl w)⟩))))
  subst ej
  subst ei
  obtain ⟨q1, n, n1, n2, n3⟩ := ci.2.2.1 i hi
  refine OK_n no1 (OK_b (gR_6_1 x06) (OK_b (aZ_N (k := i) r2 hi (by decide)) (OK_i (fun w => OK_s (.inl ⟨rfl, rfl, .inr (.inr ⟨i, hi, rfl, w⟩)⟩)) (fun w => OK_b (gR_6_0 x06) (OK_b (aR1 hi q1) (OK_b (gR_6_8 x06) (OK_b (kO_6 x06) (OK_c (CG_bc hN ci cf.rf hj (PZ_o ci (sh_tr hi) (by omega) n2 n1 (by omega) (fun j hj => bd3_le (n3 j hj) (by decide))) (tr_d ci hi) (lo_d ci (by omega) (by omega)) (sZ_o ci.2.2.2.2.1.2)) (fun r e => OK_s (.inr ⟨j, i, n, hj, rfl, hi, rfl, n1, w, n2, e⟩))))))))))
/-- grow -/
theorem y_grow {N : Nat} {a x y z : Int32} {s : cS} {bo : Nat → Nat} (hN : 100000 < N) (ci : CI s bo) : OK (fun r => (r.2 = -1 ∧ r.1 = hC s ∧ ((a < 0 ∨ 8 ≤ a) ∨ ¬ isPt x y z)) ∨ ∃ j n, j < 8 ∧ a = Int32.ofNat j ∧ isPt x y z ∧ n ≤ 24 ∧ qI s (bo (1 + j) + 1) 0 = Int32.ofNat n ∧ CG s bo j (setP (fun i => if i < n then pc s (bo (1 + j) + 1) i else (x.toInt, y.toInt, z.toInt)) (n + 1)) r.1 r.2) (fxX6_grow N 0 a x y z (hC s)) := by
  unfold fxX6_grow
  refine OK_slot (fun j hj ej => ?_) (fun w => OK_p rfl (OK_s (.inl ⟨rfl, rfl, .inl w⟩)))
  refine OK_n no1 (OK_pt (fun hpt => ?_) (fun w => OK_p rfl (OK_s (.inl ⟨rfl, rfl, .inr w⟩))))
  subst ej
  obtain ⟨n, n1, n2, n3, n4, n5⟩ := row_b ci (show 1 + j < 17 by omega)
  have hb := ci.1.2.2.2.1 (1 + j) (by omega)
  obtain ⟨b0, -⟩ := isB_sh hb
  have k16 : (shp 16).1 = 3 := rfl
  obtain ⟨s1, q1, c1, i1, p1⟩ := c_takeAll (N := N) (p := 16) (n := 25) (q := bo (1 + j) + 1) (m := 24) (k := n) (s := s) (by omega) s16 (by omega) n2 (by omega) (by
    rcases hb with y | ⟨i, _, y⟩ | ⟨i, _, y⟩ <;> omega) n3 n1 (by omega)
  obtain ⟨s2, q2, c2, -, p2⟩ := c_put2 (N := N) (p := 16) (n := 25) (k := n) (x := x) (y := y) (z := z) (s := s1) s16 (by omega) i1 (by omega)
  obtain ⟨i2, p2'⟩ := p2 (by omega)
  have cc : cf fre s s2 := (c1.mo (fun i hi => fre_16 ⟨hi.1, hi.2⟩)).tr (c2.mo (fun i hi => fre_16 ⟨hi.1, hi.2⟩))
  obtain ⟨ci2, -⟩ := CI_cf ci cc (fun i hi => hi)
  have q1' : fxX3_takeAll N (0 + 16) (bo (1 + j) + 1) (hC s) = some (hC s1) := q1
  have q2' : fxX3_put N (0 + 16) x y z (hC s1) = some (hC s2) := q2
  have pt : ∀ i, i < n + 1 → pc s2 16 i = if i < n then pc s (bo (1 + j) + 1) i else (x.toInt, y.toInt, z.toInt) := fun i hi => by
    rw [p2']
    by_cases d : i = n
    · rw [if_pos d, if_neg (by omega)]
    · rw [if_neg d, if_pos (by omega)]
      exact p1 i (by omega)
  refine OK_n no1 (OK_b (gR_6_7 x06) (OK_b (gR_6_2 x06) (OK_b (aR3 hj (ci.1.2.1 j hj)) (OK_b (gR_0_1 b0) (OK_b (kO_3 k16) (OK_b q1' (OK_b (gR_6_7 x06) (OK_b (kO_3 k16) (OK_b q2' (OK_b (gR_6_7 x06) (OK_b (gR_6_8 x06) (OK_b (kO_6 x06) (OK_c (CG_bc hN ci cc hj (PZ_o ci2 s16 (by omega) i2 (by omega) (by omega) (fun i hi => ?_)) (lo_d ci2 (by omega) (by omega)) (lo_d ci2 (by omega) (by omega)) ((sZ_o ci2.2.2.2.2.1.2).trans (setP_cg pt))) (fun r e => OK_s (.inr ⟨j, n, hj, rfl, hpt, n1, n3, e⟩)))))))))))))))
  rw [pt i hi]
  by_cases d : i < n
  · rw [if_pos d]
    exact bd3_le (n4 i d) (by decide)
  · rw [if_neg d]
    exact bd3_le (pt100 hpt) (by decide)
/-- sum -/
theorem y_sum {N : Nat} {a b t : Int32} {s : cS} {bo : Nat → Nat} (hN : 100000 < N) (ci : CI s bo) : OK (fun r => (r.2 = -1 ∧ r.1 = hC s ∧ ((a < 0 ∨ 8 ≤ a) ∨ (b < 0 ∨ 8 ≤ b) ∨ (t < 0 ∨ 8 ≤ t))) ∨ ∃ i k j n m, i < 8 ∧ a = Int32.ofNat i ∧ k < 8 ∧ b = Int32.ofNat k ∧ j < 8 ∧ t = Int32.ofNat j ∧ n ≤ 24 ∧ m ≤ 24 ∧ qI s (bo (1 + i) + 1) 0 = Int32.ofNat n ∧ qI s (bo (1 + k) + 1) 0 = Int32.ofNat m ∧ CG s bo j (sZ s (bo (1 + i) + 1) (bo (1 + k) + 1) n m) r.1 r.2) (fxX6_sum N 0 a b t (hC s)) := by
  unfold fxX6_sum
  refine OK_slot (fun i hi ei => ?_) (fun w => OK_p rfl (OK_s (.inl ⟨rfl, rfl, .inl w⟩)))
  refine OK_n no1 (OK_slot (fun k hk ek => ?_) (fun w => OK_p rfl (OK_s (.inl ⟨rfl, rfl, .inr (.inl w)⟩))))
  refine OK_n no1 (OK_slot (fun j hj ej => ?_) (fun w => OK_p rfl (OK_s (.inl ⟨rfl, rfl, .inr (.inr w)⟩))))
  subst ei
  subst ek
  subst ej
  obtain ⟨n, n1, n2, n3, n4, n5⟩ := row_b ci (show 1 + i < 17 by omega)
  obtain ⟨m, m1, m2, m3, m4, m5⟩ := row_b ci (show 1 + k < 17 by omega)
  obtain ⟨b0, -⟩ := isB_sh (ci.1.2.2.2.1 (1 + i) (by omega))
  obtain ⟨c0, -⟩ := isB_sh (ci.1.2.2.2.1 (1 + k) (by omega))
  exact OK_n no1 (OK_b (gR_6_2 x06) (OK_b (aR3 hi (ci.1.2.1 i hi)) (OK_b (gR_0_1 b0) (OK_b (gR_6_2 x06) (OK_b (aR3 hk (ci.1.2.1 k hk)) (OK_b (gR_0_1 c0) (OK_b (kO_6 x06) (OK_c (CG_bc hN ci cf.rf hj ⟨⟨n2, m2, by omega, by omega⟩, ⟨n3, m3⟩, ⟨n1, m1⟩, ⟨n5, m5⟩, fun _ _ => ⟨fun j hj => bd3_le (n4 j hj) (by decide), fun j hj => bd3_le (m4 j hj) (by decide)⟩⟩ (row_d ci (by omega) (by omega)) (row_d ci (by omega) (by omega)) rfl) (fun r e => OK_s (.inr ⟨i, k, j, n, m, hi, rfl, hk, rfl, hj, rfl, n1, m1, n3, m3, e⟩))))))))))
/-- copy -/
theorem y_copy {N : Nat} {a t : Int32} {s : cS} {bo : Nat → Nat} (hN : 100000 < N) (ci : CI s bo) : OK (fun r => (r.2 = 0 ∧ r.1 = hC s ∧ ((a < 0 ∨ 8 ≤ a) ∨ (t < 0 ∨ 8 ≤ t))) ∨ ∃ i j n r', i < 8 ∧ a = Int32.ofNat i ∧ j < 8 ∧ t = Int32.ofNat j ∧ n ≤ 24 ∧ qI s (bo (1 + i) + 1) 0 = Int32.ofNat n ∧ r.2 = 1 ∧ CG s bo j (setP (pc s (bo (1 + i) + 1)) n) r.1 r') (fxX6_copy N 0 a t (hC s)) := by
  unfold fxX6_copy
  refine OK_slot (fun i hi ei => ?_) (fun w => OK_p rfl (OK_s (.inl ⟨rfl, rfl, .inl w⟩)))
  refine OK_n no1 (OK_slot (fun j hj ej => ?_) (fun w => OK_p rfl (OK_s (.inl ⟨rfl, rfl, .inr w⟩))))
  subst ei
  subst ej
  obtain ⟨n, n1, n2, n3, n4, n5⟩ := row_b ci (show 1 + i < 17 by omega)
  obtain ⟨b0, -⟩ := isB_sh (ci.1.2.2.2.1 (1 + i) (by omega))
  exact OK_n no1 (OK_b (gR_6_2 x06) (OK_b (aR3 hi (ci.1.2.1 i hi)) (OK_b (gR_0_1 b0) (OK_b (gR_6_8 x06) (OK_b (kO_6 x06) (OK_c (CG_bc hN ci cf.rf hj (PZ_o ci n2 (by omega) n3 n1 n5 (fun j hj => bd3_le (n4 j hj) (by decide))) (row_d ci (by omega) (by omega)) (lo_d ci (by omega) (by omega)) (sZ_o ci.2.2.2.2.1.2)) (fun r e => OK_s (.inr ⟨i, j, n, r.2, hi, rfl, hj, rfl, n1, n3, rfl, e⟩))))))))
/-- move -/
theorem y_move {N : Nat} {a x y z : Int32} {s : cS} {bo : Nat → Nat} (hN : 100000 < N) (ci : CI s bo) : OK (fun r => (r.2 = 0 ∧ r.1 = hC s ∧ ((a < 0 ∨ 8 ≤ a) ∨ ∃ j n, j < 8 ∧ a = Int32.ofNat j ∧ qI s (bo (1 + j) + 1) 0 = Int32.ofNat n ∧ 0 < n ∧ n ≤ 24 ∧ ¬ bd3 (x.toInt, y.toInt, z.toInt) 200)) ∨ ∃ j n r', j < 8 ∧ a = Int32.ofNat j ∧ n ≤ 24 ∧ qI s (bo (1 + j) + 1) 0 = Int32.ofNat n ∧ r.2 = (if r' = -2 then 0 else 1) ∧ CG s bo j (setP (fun i => va (pc s (bo (1 + j) + 1) i) (x.toInt, y.toInt, z.toInt)) n) r.1 r') (fxX6_move N 0 a x y z (hC s)) := by
  unfold fxX6_move
  refine OK_slot (fun j hj ej => ?_) (fun w => OK_p rfl (OK_s (.inl ⟨rfl, rfl, .inl w⟩)))
  subst ej
  obtain ⟨n, n1, n2, n3, n4, n5⟩ := row_b ci (show 1 + j < 17 by omega)
  have hb := ci.1.2.2.2.1 (1 + j) (by omega)
  obtain ⟨b0, -⟩ := isB_sh hb
  have p3 : (shp (bo (1 + j) + 1)).1 = 3 := by rw [n2]
  have k24 : (shp 24).1 = 3 := rfl
  have go : (n = 0 ∨ bd3 (x.toInt, y.toInt, z.toInt) 200) → OK (fun r => (r.2 = 0 ∧ r.1 = hC s ∧ ((Int32.ofNat j < 0 ∨ 8 ≤ Int32.ofNat j) ∨ ∃ j' n, j' < 8 ∧ Int32.ofNat j = Int32.ofNat j' ∧ qI s (bo (1 + j') + 1) 0 = Int32.ofNat n ∧ 0 < n ∧ n ≤ 24 ∧ ¬ bd3 (x.toInt, y.toInt, z.toInt) 200)) ∨ ∃ j' n r', j' < 8 ∧ Int32.ofNat j = Int32.ofNat j' ∧ n ≤ 24 ∧ qI s (bo (1 + j') + 1) 0 = Int32.ofNat n ∧ r.2 = (if r' = -2 then 0 else 1) ∧ CG s bo j' (setP (fun i => va (pc s (bo (1 + j') + 1) i) (x.toInt, y.toInt, z.toInt)) n) r.1 r') (fxX6_move_75 N 0 (Int32.ofNat j) x y z (bo (1 + j) + 1) (hC s)) := fun h => by
    have c1 : cf fre s (uI s 24 0 0) := cf_uI _ (fre_24 ⟨by omega, by omega⟩)
    obtain ⟨s2, q2, c2, -, p2⟩ := c_put2 (N := N) (p := 24) (n := 1) (k := 0) (x := x) (y := y) (z := z) (s := uI s 24 0 0) s24 (by omega) (by rw [qI_uI, if_pos ⟨rfl, rfl⟩]; rfl) (by omega)
    obtain ⟨i2, p2'⟩ := p2 (by omega)
    have cc : cf fre s s2 := c1.tr (c2.mo (fun i hi => fre_24 ⟨hi.1, hi.2⟩))
    obtain ⟨ci2, -⟩ := CI_cf ci cc (fun i hi => hi)
    have q1' : fxX3_clear N (0 + 24) (hC s) = some (hC (uI s 24 0 0)) := c_clear k24
    have q2' : fxX3_put N (0 + 24) x y z (hC (uI s 24 0 0)) = some (hC s2) := q2
    have pe : ∀ i, pc s2 (bo (1 + j) + 1) i = pc s (bo (1 + j) + 1) i := pc_cf cc (fun x a b => fre_b ci (k := 1 + j) (by omega) (by omega) (by omega))
    have p24 : pc s2 24 0 = (x.toInt, y.toInt, z.toInt) := by
      rw [p2', if_pos rfl]
    have eZ : sZ s2 (bo (1 + j) + 1) 24 n 1 = setP (fun i => va (pc s (bo (1 + j) + 1) i) (x.toInt, y.toInt, z.toInt)) n := by
      funext v
      apply propext
      constructor
      · rintro ⟨i, k, hi, hk, e⟩
        have k0 : k = 0 := by omega
        rw [k0, p24, pe] at e
        exact ⟨i, hi, e⟩
      · rintro ⟨i, hi, e⟩
        exact ⟨i, 0, hi, by omega, by rw [p24, pe]; exact e⟩
    unfold fxX6_move_75
    refine OK_b (gR_6_9 x06) (OK_b (kO_3 k24) (OK_b q1' (OK_b (gR_6_9 x06) (OK_b (kO_3 k24) (OK_b q2' (OK_b (gR_6_9 x06) (OK_b (kO_6 x06) (OK_c (CG_bc (n := 24) (m := 1) (kp := n) (kq := 1) hN ci cc hj ⟨⟨n2, s24, by omega, by omega⟩, ⟨?_, i2⟩, ⟨n1, by omega⟩, ⟨n5, by omega⟩, fun k1 _ => ⟨fun i hi => ?_, fun i hi => ?_⟩⟩ (row_d ci2 (k := 1 + j) (by omega) (by omega)) (lo_d ci2 (by omega) (by omega)) eZ) (fun r e => ?_)))))))))
    · rw [cc.I (fre_b ci (k := 1 + j) (by omega) (by omega) (by omega))]
      exact n3
    · rw [pe]
      exact bd3_le (n4 i hi) (by decide)
    · have i0 : i = 0 := by omega
      rw [i0, p24]
      exact h.resolve_left (by omega)
    · refine OK_i (fun w => OK_s (.inr ⟨j, n, r.2, hj, rfl, n1, n3, ?_, e⟩)) (fun w => OK_s (.inr ⟨j, n, r.2, hj, rfl, n1, n3, ?_, e⟩))
      · rw [if_pos w]
      · rw [if_neg w]
  have go58 : ∀ v : Int32, (v = 0 ∧ ¬ bd3 (x.toInt, y.toInt, z.toInt) 200 ∨ v ≠ 0 ∧ bd3 (x.toInt, y.toInt, z.toInt) 200) → OK (fun r => (r.2 = 0 ∧ r.1 = hC s ∧ ((Int32.ofNat j < 0 ∨ 8 ≤ Int32.ofNat j) ∨ ∃ j' n, j' < 8 ∧ Int32.ofNat j = Int32.ofNat j' ∧ qI s (bo (1 + j') + 1) 0 = Int32.ofNat n ∧ 0 < n ∧ n ≤ 24 ∧ ¬ bd3 (x.toInt, y.toInt, z.toInt) 200)) ∨ ∃ j' n r', j' < 8 ∧ Int32.ofNat j = Int32.ofNat j' ∧ n ≤ 24 ∧ qI s (bo (1 + j') + 1) 0 = Int32.ofNat n ∧ r.2 = (if r' = -2 then 0 else 1) ∧ CG s bo j' (setP (fun i => va (pc s (bo (1 + j') + 1) i) (x.toInt, y.toInt, z.toInt)) n) r.1 r') (fxX6_move_58 N 0 (Int32.ofNat j) x y z (bo (1 + j) + 1) v (hC s)) := fun v h => by
    unfold fxX6_move_58
    refine OK_b (gI_3_0 p3) ?_
    rw [n3]
    have lz := i_le (a := n) (b := 0) (by omega) (by omega)
    refine OK_i (fun w => go (.inl ?_)) (fun w0 => OK_i (fun w => OK_s (.inl ⟨rfl, rfl, .inr ⟨j, n, hj, rfl, n3, ?_, n1, ?_⟩⟩)) (fun w => go (.inr ?_)))
    · have w' : Int32.ofNat n ≤ Int32.ofNat 0 := w
      rw [lz] at w'
      omega
    · have w' : ¬ (Int32.ofNat n ≤ Int32.ofNat 0) := w0
      rw [lz] at w'
      omega
    · rcases h with h | h
      · exact h.2
      · exact absurd w h.1
    · rcases h with h | h
      · exact absurd h.1 w
      · exact h.2
  have out : ∀ {v : Int32} {w : Int}, w = v.toInt → ¬ w.natAbs ≤ 200 → v < -200 ∨ 200 < v := fun {v} {w} e h => by
    rw [e] at h
    have m : (-200 : Int32).toInt = -200 := rfl
    have p : (200 : Int32).toInt = 200 := rfl
    by_cases c : v < -200
    · exact .inl c
    · right
      rw [Int32.lt_iff_toInt_lt] at c ⊢
      rw [m] at c
      rw [p]
      omega
  have nwin : ∀ {v : Int32}, (v < -200 ∨ 200 < v) → ¬ v.toInt.natAbs ≤ 200 := fun {v} h b => by
    have m : (-200 : Int32).toInt = -200 := rfl
    have p : (200 : Int32).toInt = 200 := rfl
    rw [Int32.lt_iff_toInt_lt, Int32.lt_iff_toInt_lt, m, p] at h
    omega
  have go57 : ¬ bd3 (x.toInt, y.toInt, z.toInt) 200 → OK (fun r => (r.2 = 0 ∧ r.1 = hC s ∧ ((Int32.ofNat j < 0 ∨ 8 ≤ Int32.ofNat j) ∨ ∃ j' n, j' < 8 ∧ Int32.ofNat j = Int32.ofNat j' ∧ qI s (bo (1 + j') + 1) 0 = Int32.ofNat n ∧ 0 < n ∧ n ≤ 24 ∧ ¬ bd3 (x.toInt, y.toInt, z.toInt) 200)) ∨ ∃ j' n r', j' < 8 ∧ Int32.ofNat j = Int32.ofNat j' ∧ n ≤ 24 ∧ qI s (bo (1 + j') + 1) 0 = Int32.ofNat n ∧ r.2 = (if r' = -2 then 0 else 1) ∧ CG s bo j' (setP (fun i => va (pc s (bo (1 + j') + 1) i) (x.toInt, y.toInt, z.toInt)) n) r.1 r') (fxX6_move_57 N 0 (Int32.ofNat j) x y z (bo (1 + j) + 1) (hC s)) := fun h => by
    unfold fxX6_move_57
    exact go58 0 (.inl ⟨rfl, h⟩)
  refine OK_n no1 (OK_b (gR_6_2 x06) (OK_b (aR3 hj (ci.1.2.1 j hj)) (OK_b (gR_0_1 b0) ?_)))
  refine OK_win2 (fun x1 x2 => OK_n no1 (OK_win2 (fun y1 y2 => OK_n no1 (OK_win2 (fun z1 z2 => OK_n no1 (go58 1 (.inr ⟨by decide, w200 x1 x2, w200 y1 y2, w200 z1 z2⟩))) (fun w => OK_p rfl (go57 (fun b => nwin w b.2.2))))) (fun w => OK_p rfl (go57 (fun b => nwin w b.2.1))))) (fun w => OK_p rfl (go57 (fun b => nwin w b.1)))
