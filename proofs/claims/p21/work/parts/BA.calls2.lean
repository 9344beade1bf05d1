theorem sl8 {j : Nat} (hj : j < 8) : ¬ (Int32.ofNat j < 0 ∨ 8 ≤ Int32.ofNat j) := fun w => by
  rcases w with w | w
  · exact i_lt0 (by omega) w
  · have := i_le (a := 8) (b := j) (by omega) (by omega)
    have w' : Int32.ofNat 8 ≤ Int32.ofNat j := w
    rw [this] at w'
    omega
theorem w200 {x : Int32} (h1 : ¬ x < -200) (h2 : ¬ 200 < x) : x.toInt.natAbs ≤ 200 := by
  rw [Int32.lt_iff_toInt_lt] at h1 h2
  have m : (-200 : Int32).toInt = -200 := rfl
  have p : (200 : Int32).toInt = 200 := rfl
  rw [m] at h1
  rw [p] at h2
  omega
theorem s24 : shp 24 = (3, 1) := rfl
/-- move -/
theorem y_move {N : Nat} {a x y z : Int32} {s : cS} {bo : Nat → Nat} (hN : 100000 < N) (ci : CI s bo) : OK (SQ s) (fxX6_move N 0 a x y z (hC s)) := by
  unfold fxX6_move
  refine OK_slot (fun j hj ej => ?_) (fun _ => OK_p rfl (OK_s (SQ_rf ci)))
  subst ej
  obtain ⟨n, n1, n2, n3, n4, n5⟩ := row_b ci (show 1 + j < 17 by omega)
  have hb := ci.1.2.2.2.1 (1 + j) (by omega)
  obtain ⟨b0, -⟩ := isB_sh hb
  have p3 : (shp (bo (1 + j) + 1)).1 = 3 := by rw [n2]
  have k24 : (shp 24).1 = 3 := rfl
  have go : (n = 0 ∨ bd3 (x.toInt, y.toInt, z.toInt) 200) → OK (SQ s) (fxX6_move_75 N 0 (Int32.ofNat j) x y z (bo (1 + j) + 1) (hC s)) := fun h => by
    have c1 : cf (rg 24 27) s (uI s 24 0 0) := cf_uI _ ⟨by omega, by omega⟩
    obtain ⟨ci1, t1⟩ := CI_cf ci c1 (fun i hi => fre_24 hi)
    obtain ⟨s2, q2, c2, -, p2⟩ := c_put2 (N := N) (p := 24) (n := 1) (k := 0) (x := x) (y := y) (z := z) (s := uI s 24 0 0) s24 (by omega) (by rw [qI_uI, if_pos ⟨rfl, rfl⟩]; rfl) (by omega)
    obtain ⟨i2, p2'⟩ := p2 (by omega)
    have c2' : cf (rg 24 27) (uI s 24 0 0) s2 := c2.mo (fun i hi => ⟨hi.1, hi.2⟩)
    obtain ⟨ci2, t2⟩ := CI_cf ci1 c2' (fun i hi => fre_24 hi)
    have q1' : fxX3_clear N (0 + 24) (hC s) = some (hC (uI s 24 0 0)) := c_clear k24
    have q2' : fxX3_put N (0 + 24) x y z (hC (uI s 24 0 0)) = some (hC s2) := q2
    have cc := c1.tr c2'
    have no : ∀ i, bo (1 + j) ≤ i → i ≤ bo (1 + j) + 9 → ¬ rg 24 27 i := fun i a b w => by
      have := w.1
      have := w.2
      rcases hb with y | ⟨i, _, y⟩ | ⟨i, _, y⟩ <;> omega
    unfold fxX6_move_75
    refine OK_b (gR_6_9 x06) (OK_b (kO_3 k24) (OK_b q1' (OK_b (gR_6_9 x06) (OK_b (kO_3 k24) (OK_b q2' (OK_b (gR_6_9 x06) (OK_b (kO_6 x06) (OK_c (Q' := SQ s) ?_ (fun r e => ?_)))))))))
    · refine SQ_bc (n := 24) (m := 1) (kp := n) (kq := 1) hN ci2 (TF_tr t1 t2) hj ⟨⟨n2, s24, by omega, by omega⟩, ⟨?_, i2⟩, ⟨n1, by omega⟩, ⟨n5, by omega⟩, fun k1 _ => ⟨fun i hi => ?_, fun i hi => ?_⟩⟩ (row_d ci2 (k := 1 + j) (by omega) (by omega)) (lo_d ci2 (by omega) (by omega))
      · rw [cc.I (no _ (by omega) (by omega))]
        exact n3
      · rw [pc_cf cc (fun x a b => no x (by omega) (by omega))]
        exact bd3_le (n4 i hi) (by decide)
      · rw [p2', if_pos (by omega)]
        exact h.resolve_left (by omega)
    · obtain ⟨s', bo', e1, e2⟩ := e
      exact OK_i (fun _ => OK_s ⟨s', bo', e1, e2⟩) (fun _ => OK_s ⟨s', bo', e1, e2⟩)
  have go58 : ∀ v : Int32, (v = 0 ∨ bd3 (x.toInt, y.toInt, z.toInt) 200) → OK (SQ s) (fxX6_move_58 N 0 (Int32.ofNat j) x y z (bo (1 + j) + 1) v (hC s)) := fun v h => by
    unfold fxX6_move_58
    refine OK_b (gI_3_0 p3) ?_
    rw [n3]
    refine OK_i (fun w => go (.inl ?_)) (fun _ => OK_i (fun _ => OK_s (SQ_rf ci)) (fun w => go (.inr (h.resolve_left w))))
    have := i_le (a := n) (b := 0) (by omega) (by omega)
    have w' : Int32.ofNat n ≤ Int32.ofNat 0 := w
    rw [this] at w'
    omega
  have go57 : OK (SQ s) (fxX6_move_57 N 0 (Int32.ofNat j) x y z (bo (1 + j) + 1) (hC s)) := by
    unfold fxX6_move_57
    exact go58 0 (.inl rfl)
  exact OK_n no1 (OK_b (gR_6_2 x06) (OK_b (aR3 hj (ci.1.2.1 j hj)) (OK_b (gR_0_1 b0) (OK_win (fun x1 x2 => OK_n no1 (OK_win (fun y1 y2 => OK_n no1 (OK_win (fun z1 z2 => OK_n no1 (go58 1 (.inr ⟨w200 x1 x2, w200 y1 y2, w200 z1 z2⟩))) (OK_p rfl go57))) (OK_p rfl go57))) (OK_p rfl go57)))))
/-- the scratch row while it is filled from a row -/
def SC (f : V3 → V3) (s0 s : cS) (p k : Nat) : Prop := cf (rg 16 19) s0 s ∧ qI s 16 0 = Int32.ofNat k ∧ ∀ i, i < k → pc s 16 i = f (pc s0 p i)
theorem mul32s {a b : Int32} (ha : a = 1 ∨ a = -1) (hb : b.toInt.natAbs ≤ 100) : (a * b).toInt = a.toInt * b.toInt := by
  rw [Int32.toInt_mul]
  refine bm32 ?_
  rcases ha with ha | ha
  · rw [ha]
    have : (1 : Int32).toInt = 1 := rfl
    rw [this]
    omega
  · rw [ha]
    have : (-1 : Int32).toInt = -1 := rfl
    rw [this]
    omega
theorem sgn_bd {a b : Int32} (ha : a = 1 ∨ a = -1) (hb : b.toInt.natAbs ≤ 100) : (a * b).toInt.natAbs ≤ 100 := by
  rw [mul32s ha hb]
  rcases ha with ha | ha
  · rw [ha]
    have : (1 : Int32).toInt = 1 := rfl
    rw [this]
    omega
  · rw [ha]
    have : (-1 : Int32).toInt = -1 := rfl
    rw [this]
    omega
theorem c_mi88 {N j n : Nat} {a4 a5 a6 : Int32} {s0 : cS} {bo : Nat → Nat} (hN : 100000 < N) (ci : CI s0 bo) (hj : j < 8) (hn : n ≤ 24) (n3 : qI s0 (bo (1 + j) + 1) 0 = Int32.ofNat n) (n4 : ∀ i, i < n → bd3 (pc s0 (bo (1 + j) + 1) i) 100) (h4 : a4 = 1 ∨ a4 = -1) (h5 : a5 = 1 ∨ a5 = -1) (h6 : a6 = 1 ∨ a6 = -1) : ∀ (r k fu : Nat) (s : cS), k + r = n → r < fu → SC (fun v => (a4.toInt * v.1, a5.toInt * v.2.1, a6.toInt * v.2.2)) s0 s (bo (1 + j) + 1) k → OK (fun r => SQ s0 r ∧ r.2 = 1) (fxX6_mirror_88 N fu 0 (Int32.ofNat j) (bo (1 + j) + 1) a4 a5 a6 (Int32.ofNat k) (hC s)) := by
  have hb := ci.1.2.2.2.1 (1 + j) (by omega)
  have n2 : shp (bo (1 + j) + 1) = (3, 24) := (isB_sh hb).2.1
  obtain ⟨p3, d1, d2, d3⟩ := pt_sh n2
  have k16 : (shp 16).1 = 3 := rfl
  have no : ∀ i, bo (1 + j) ≤ i → i ≤ bo (1 + j) + 9 → ¬ rg 16 19 i := fun i a b w => by
    have := w.1
    have := w.2
    rcases hb with y | ⟨i, _, y⟩ | ⟨i, _, y⟩ <;> omega
  intro r
  induction r with
  | zero =>
    intro k fu s hk hfu h
    obtain ⟨fu', rfl⟩ : ∃ f', fu = f' + 1 := ⟨fu - 1, by omega⟩
    have e : k = n := by omega
    subst e
    obtain ⟨c, i16, pp⟩ := h
    obtain ⟨ci1, t1⟩ := CI_cf ci c (fun i hi => fre_16 hi)
    rw [fxX6_mirror_88]
    refine OK_b (gI_3_0 p3) ?_
    rw [c.I (no _ (by omega) (by omega)), n3]
    refine OK_p (Int32.le_refl _) (OK_b (gR_6_7 x06) (OK_b (gR_6_8 x06) (OK_b (kO_6 x06) (OK_c (Q' := SQ s0) ?_ (fun r e => OK_s ⟨e, rfl⟩)))))
    refine SQ_bc hN ci1 t1 hj (PZ_o ci1 s16 (by omega) i16 (by omega) (by omega) (fun i hi => ?_)) (lo_d ci1 (by omega) (by omega)) (lo_d ci1 (by omega) (by omega))
    rw [pp i hi]
    obtain ⟨x1, x2, x3⟩ := n4 i hi
    have bd : ∀ a : Int32, (a = 1 ∨ a = -1) → ∀ v : Int, v.natAbs ≤ 100 → (a.toInt * v).natAbs ≤ 200 := fun a ha v hv => by
      rcases ha with ha | ha
      · rw [ha]
        have : (1 : Int32).toInt = 1 := rfl
        rw [this]
        omega
      · rw [ha]
        have : (-1 : Int32).toInt = -1 := rfl
        rw [this]
        omega
    exact ⟨bd a4 h4 _ x1, bd a5 h5 _ x2, bd a6 h6 _ x3⟩
  | succ r ih =>
    intro k fu s hk hfu h
    obtain ⟨fu', rfl⟩ : ∃ f', fu = f' + 1 := ⟨fu - 1, by omega⟩
    obtain ⟨c, i16, pp⟩ := h
    have A1 : qA s (bo (1 + j) + 1 + 1) = qA s0 (bo (1 + j) + 1 + 1) := c.A (no _ (by omega) (by omega))
    have A2 : qA s (bo (1 + j) + 1 + 2) = qA s0 (bo (1 + j) + 1 + 2) := c.A (no _ (by omega) (by omega))
    have A3 : qA s (bo (1 + j) + 1 + 3) = qA s0 (bo (1 + j) + 1 + 3) := c.A (no _ (by omega) (by omega))
    obtain ⟨x1, x2, x3⟩ := n4 k (by omega)
    rw [fxX6_mirror_88, i_s]
    refine OK_b (gI_3_0 p3) ?_
    rw [c.I (no _ (by omega) (by omega)), n3]
    obtain ⟨s2, q2, c2, -, p2⟩ := c_put2 (N := N) (p := 16) (n := 25) (k := k) (x := a4 * qA s (bo (1 + j) + 1 + 1) k) (y := a5 * qA s (bo (1 + j) + 1 + 2) k) (z := a6 * qA s (bo (1 + j) + 1 + 3) k) (s := s) s16 (by omega) i16 (by omega)
    obtain ⟨i2, p2'⟩ := p2 (by omega)
    have q2' : fxX3_put N (0 + 16) (a4 * qA s (bo (1 + j) + 1 + 1) k) (a5 * qA s (bo (1 + j) + 1 + 2) k) (a6 * qA s (bo (1 + j) + 1 + 3) k) (hC s) = some (hC s2) := q2
    refine OK_n (by rw [i_le (by omega) (by omega)]; omega) (OK_b (gR_6_7 x06) (OK_b (gR_3_1 p3) (OK_b (aI_N d1 (show k < 24 by omega) (by decide)) (OK_b (gR_3_2 p3) (OK_b (aI_N d2 (show k < 24 by omega) (by decide)) (OK_b (gR_3_3 p3) (OK_b (aI_N d3 (show k < 24 by omega) (by decide)) (OK_b (kO_3 k16) (OK_b q2' ?_)))))))))
    refine ih (k + 1) fu' s2 (by omega) (by omega) ⟨c.tr (c2.mo (fun i hi => ⟨hi.1, hi.2⟩)), i2, fun i hi => ?_⟩
    rw [p2']
    by_cases d : i = k
    · rw [if_pos d, d, A1, A2, A3]
      refine v3_ext ?_ ?_ ?_
      · exact mul32s h4 x1
      · exact mul32s h5 x2
      · exact mul32s h6 x3
    · rw [if_neg d]
      exact pp i (by omega)
theorem ax_or {n : Nat} {b : Int32} (hn : n < 2147483647) (h0 : ¬ b < 0) (hb : b ≤ Int32.ofNat n) : ∃ k, k ≤ n ∧ b = Int32.ofNat k := by
  rcases rng_or (n := n + 1) (by omega) b with (w | w) | ⟨k, hk, e⟩
  · exact absurd w h0
  · rw [Int32.le_iff_toInt_le, Int32.toInt_ofNat_of_lt (by omega)] at w hb
    omega
  · exact ⟨k, by omega, e⟩
/-- mirror: it answers by slot and axis alone -/
theorem y_mirror {N : Nat} {a b : Int32} {s : cS} {bo : Nat → Nat} (hN : 100000 < N) (ci : CI s bo) : OK (fun r => SQ s r ∧ r.2 = if (a < 0 ∨ 8 ≤ a) ∨ b < 0 ∨ ¬ b ≤ 3 then 0 else 1) (fxX6_mirror N 0 a b (hC s)) := by
  unfold fxX6_mirror
  refine OK_slot (fun j hj ej => ?_) (fun w => OK_p rfl (OK_s ⟨SQ_rf ci, by rw [if_pos (.inl w)]⟩))
  refine OK_n no1 (OK_i (fun w => OK_s ⟨SQ_rf ci, by rw [if_pos (.inr (.inl w))]⟩) (fun w0 => OK_i (fun w3 => ?_) (fun w => OK_s ⟨SQ_rf ci, by rw [if_pos (.inr (.inr w))]⟩)))
  subst ej
  rw [if_neg (show ¬ ((Int32.ofNat j < 0 ∨ 8 ≤ Int32.ofNat j) ∨ b < 0 ∨ ¬ b ≤ 3) from fun w => w.elim (sl8 hj) (fun w => w.elim w0 (fun w => w w3)))]
  obtain ⟨n, n1, n2, n3, n4, n5⟩ := row_b ci (show 1 + j < 17 by omega)
  have hb := ci.1.2.2.2.1 (1 + j) (by omega)
  obtain ⟨b0, -⟩ := isB_sh hb
  have k16 : (shp 16).1 = 3 := rfl
  have go76 : ∀ a4 a5 a6 : Int32, (a4 = 1 ∨ a4 = -1) → (a5 = 1 ∨ a5 = -1) → (a6 = 1 ∨ a6 = -1) → OK (fun r => SQ s r ∧ r.2 = 1) (fxX6_mirror_76 N 0 (Int32.ofNat j) (bo (1 + j) + 1) a4 a5 a6 (hC s)) := fun a4 a5 a6 h4 h5 h6 => by
    have q1' : fxX3_clear N (0 + 16) (hC s) = some (hC (uI s 16 0 0)) := c_clear k16
    unfold fxX6_mirror_76
    refine OK_b (gR_6_7 x06) (OK_b (kO_3 k16) (OK_b q1' ?_))
    exact c_mi88 hN ci hj n1 n3 n4 h4 h5 h6 n 0 N (uI s 16 0 0) (by omega) (by omega) ⟨cf_uI _ ⟨by omega, by omega⟩, by rw [qI_uI, if_pos ⟨rfl, rfl⟩]; rfl, fun i hi => absurd hi (by omega)⟩
  have go59 : ∀ a4 a5 : Int32, (a4 = 1 ∨ a4 = -1) → (a5 = 1 ∨ a5 = -1) → OK (fun r => SQ s r ∧ r.2 = 1) (fxX6_mirror_59 N 0 (Int32.ofNat j) b (bo (1 + j) + 1) a4 a5 (hC s)) := fun a4 a5 h4 h5 => by
    unfold fxX6_mirror_59 fxX6_mirror_71
    exact OK_i (fun _ => go76 a4 a5 (-1) h4 h5 (.inr rfl)) (fun _ => OK_i (fun _ => go76 a4 a5 (-1) h4 h5 (.inr rfl)) (fun _ => go76 a4 a5 1 h4 h5 (.inl rfl)))
  have go42 : ∀ a4 : Int32, (a4 = 1 ∨ a4 = -1) → OK (fun r => SQ s r ∧ r.2 = 1) (fxX6_mirror_42 N 0 (Int32.ofNat j) b (bo (1 + j) + 1) a4 (hC s)) := fun a4 h4 => by
    unfold fxX6_mirror_42 fxX6_mirror_54
    exact OK_i (fun _ => go59 a4 (-1) h4 (.inr rfl)) (fun _ => OK_i (fun _ => go59 a4 (-1) h4 (.inr rfl)) (fun _ => go59 a4 1 h4 (.inl rfl)))
  have go37 : OK (fun r => SQ s r ∧ r.2 = 1) (fxX6_mirror_37 N 0 (Int32.ofNat j) b (bo (1 + j) + 1) (hC s)) := by
    unfold fxX6_mirror_37
    exact go42 (-1) (.inr rfl)
  exact OK_b (gR_6_2 x06) (OK_b (aR3 hj (ci.1.2.1 j hj)) (OK_b (gR_0_1 b0) (OK_i (fun _ => go37) (fun _ => OK_i (fun _ => go37) (fun _ => go42 1 (.inl rfl))))))
theorem neg_bd {b : Int32} (hb : b.toInt.natAbs ≤ 100) : (-b).toInt.natAbs ≤ 100 := by
  rw [neg32 (by omega)]
  omega
theorem c_tu38 {N j n : Nat} {b : Int32} {s0 : cS} {bo : Nat → Nat} (hN : 100000 < N) (ci : CI s0 bo) (hj : j < 8) (hn : n ≤ 24) (n3 : qI s0 (bo (1 + j) + 1) 0 = Int32.ofNat n) (n4 : ∀ i, i < n → bd3 (pc s0 (bo (1 + j) + 1) i) 100) : ∀ (r k fu : Nat) (s : cS), k + r = n → r < fu → cf (rg 16 19) s0 s → qI s 16 0 = Int32.ofNat k → (∀ i, i < k → bd3 (pc s 16 i) 100) → OK (fun r => SQ s0 r ∧ r.2 = 1) (fxX6_turn_38 N fu 0 (Int32.ofNat j) b (bo (1 + j) + 1) (Int32.ofNat k) (hC s)) := by
  have hb := ci.1.2.2.2.1 (1 + j) (by omega)
  have n2 : shp (bo (1 + j) + 1) = (3, 24) := (isB_sh hb).2.1
  obtain ⟨p3, d1, d2, d3⟩ := pt_sh n2
  have k16 : (shp 16).1 = 3 := rfl
  have no : ∀ i, bo (1 + j) ≤ i → i ≤ bo (1 + j) + 9 → ¬ rg 16 19 i := fun i a b w => by
    have := w.1
    have := w.2
    rcases hb with y | ⟨i, _, y⟩ | ⟨i, _, y⟩ <;> omega
  intro r
  induction r with
  | zero =>
    intro k fu s hk hfu c i16 pp
    obtain ⟨fu', rfl⟩ : ∃ f', fu = f' + 1 := ⟨fu - 1, by omega⟩
    have e : k = n := by omega
    subst e
    obtain ⟨ci1, t1⟩ := CI_cf ci c (fun i hi => fre_16 hi)
    rw [fxX6_turn_38]
    refine OK_b (gI_3_0 p3) ?_
    rw [c.I (no _ (by omega) (by omega)), n3]
    refine OK_p (Int32.le_refl _) (OK_b (gR_6_7 x06) (OK_b (gR_6_8 x06) (OK_b (kO_6 x06) (OK_c (Q' := SQ s0) ?_ (fun r e => OK_s ⟨e, rfl⟩)))))
    exact SQ_bc hN ci1 t1 hj (PZ_o ci1 s16 (by omega) i16 (by omega) (by omega) (fun i hi => bd3_le (pp i hi) (by decide))) (lo_d ci1 (by omega) (by omega)) (lo_d ci1 (by omega) (by omega))
  | succ r ih =>
    intro k fu s hk hfu c i16 pp
    obtain ⟨fu', rfl⟩ : ∃ f', fu = f' + 1 := ⟨fu - 1, by omega⟩
    have A1 : qA s (bo (1 + j) + 1 + 1) = qA s0 (bo (1 + j) + 1 + 1) := c.A (no _ (by omega) (by omega))
    have A2 : qA s (bo (1 + j) + 1 + 2) = qA s0 (bo (1 + j) + 1 + 2) := c.A (no _ (by omega) (by omega))
    have A3 : qA s (bo (1 + j) + 1 + 3) = qA s0 (bo (1 + j) + 1 + 3) := c.A (no _ (by omega) (by omega))
    obtain ⟨x1, x2, x3⟩ := n4 k (by omega)
    have x1' : (qA s0 (bo (1 + j) + 1 + 1) k).toInt.natAbs ≤ 100 := x1
    have x2' : (qA s0 (bo (1 + j) + 1 + 2) k).toInt.natAbs ≤ 100 := x2
    have x3' : (qA s0 (bo (1 + j) + 1 + 3) k).toInt.natAbs ≤ 100 := x3
    have st : ∀ u v w : Int32, bd3 (u.toInt, v.toInt, w.toInt) 100 → OK (fun r => SQ s0 r ∧ r.2 = 1) ((gR (hC s) 0 6 7).bind fun v42 => (kO (hC s) v42 3).bind fun _ => (fxX3_put N v42 u v w (hC s)).bind fun o44 => fxX6_turn_131 N (fxX6_turn_38 N fu') 0 (Int32.ofNat j) b (bo (1 + j) + 1) (Int32.ofNat k) o44) := fun u v w bd => by
      obtain ⟨s2, q2, c2, -, p2⟩ := c_put2 (N := N) (p := 16) (n := 25) (k := k) (x := u) (y := v) (z := w) (s := s) s16 (by omega) i16 (by omega)
      obtain ⟨i2, p2'⟩ := p2 (by omega)
      have q2' : fxX3_put N (0 + 16) u v w (hC s) = some (hC s2) := q2
      refine OK_b (gR_6_7 x06) (OK_b (kO_3 k16) (OK_b q2' ?_))
      unfold fxX6_turn_131
      rw [i_s]
      refine ih (k + 1) fu' s2 (by omega) (by omega) (c.tr (c2.mo (fun i hi => ⟨hi.1, hi.2⟩))) i2 (fun i hi => ?_)
      rw [p2']
      by_cases d : i = k
      · rw [if_pos d]
        exact bd
      · rw [if_neg d]
        exact pp i (by omega)
    rw [fxX6_turn_38]
    refine OK_b (gI_3_0 p3) ?_
    rw [c.I (no _ (by omega) (by omega)), n3]
    refine OK_n (by rw [i_le (by omega) (by omega)]; omega) (OK_b (gR_3_1 p3) (OK_b (aI_N d1 (show k < 24 by omega) (by decide)) (OK_b (gR_3_2 p3) (OK_b (aI_N d2 (show k < 24 by omega) (by decide)) (OK_b (gR_3_3 p3) (OK_b (aI_N d3 (show k < 24 by omega) (by decide)) ?_))))))
    rw [A1, A2, A3]
    exact OK_i (fun _ => st _ _ _ ⟨x1', neg_bd x3', x2'⟩) (fun _ => OK_i (fun _ => st _ _ _ ⟨x3', x2', neg_bd x1'⟩) (fun _ => st _ _ _ ⟨neg_bd x2', x1', x3'⟩))
/-- turn: it answers by slot and axis alone -/
theorem y_turn {N : Nat} {a b : Int32} {s : cS} {bo : Nat → Nat} (hN : 100000 < N) (ci : CI s bo) : OK (fun r => SQ s r ∧ r.2 = if (a < 0 ∨ 8 ≤ a) ∨ b < 0 ∨ ¬ b ≤ 2 then 0 else 1) (fxX6_turn N 0 a b (hC s)) := by
  unfold fxX6_turn
  refine OK_slot (fun j hj ej => ?_) (fun w => OK_p rfl (OK_s ⟨SQ_rf ci, by rw [if_pos (.inl w)]⟩))
  refine OK_n no1 (OK_i (fun w => OK_s ⟨SQ_rf ci, by rw [if_pos (.inr (.inl w))]⟩) (fun w0 => OK_i (fun w3 => ?_) (fun w => OK_s ⟨SQ_rf ci, by rw [if_pos (.inr (.inr w))]⟩)))
  subst ej
  rw [if_neg (show ¬ ((Int32.ofNat j < 0 ∨ 8 ≤ Int32.ofNat j) ∨ b < 0 ∨ ¬ b ≤ 2) from fun w => w.elim (sl8 hj) (fun w => w.elim w0 (fun w => w w3)))]
  obtain ⟨n, n1, n2, n3, n4, n5⟩ := row_b ci (show 1 + j < 17 by omega)
  have hb := ci.1.2.2.2.1 (1 + j) (by omega)
  obtain ⟨b0, -⟩ := isB_sh hb
  have k16 : (shp 16).1 = 3 := rfl
  have q1' : fxX3_clear N (0 + 16) (hC s) = some (hC (uI s 16 0 0)) := c_clear k16
  refine OK_b (gR_6_2 x06) (OK_b (aR3 hj (ci.1.2.1 j hj)) (OK_b (gR_0_1 b0) (OK_b (gR_6_7 x06) (OK_b (kO_3 k16) (OK_b q1' ?_)))))
  exact c_tu38 hN ci hj n1 n3 n4 n 0 N (uI s 16 0 0) (by omega) (by omega) (cf_uI _ ⟨by omega, by omega⟩) (by rw [qI_uI, if_pos ⟨rfl, rfl⟩]; rfl) (fun i hi => absurd hi (by omega))
