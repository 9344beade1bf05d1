/-- the scratch row while it is filled from a row -/
def SC (f : V3 → V3) (s0 s : cS) (p k : Nat) : Prop := cf (rg 16 19) s0 s ∧ qI s 16 0 = Int32.ofNat k ∧ ∀ i, i < k → pc s 16 i = f (pc s0 p i)
theorem mul32s {a b : Int32} (ha : a = 1 ∨ a = -1) (hb : b.toInt.natAbs ≤ 100) : (a * b).toInt = a.toInt * b.toInt := by
  rw [Int32.toInt_mul]
  refine bm32 ?_
  rcases ha with ha | ha
  · rw [ha]
    have : (1 : Int32).toInt = 1 := rfl
    rw [this]
    omega
  · rw [ha]
    have : (-1 : Int32).toInt = -1 := rfl
    rw [this]
    omega
theorem sgn_bd {a b : Int32} (ha : a = 1 ∨ a = -1) (hb : b.toInt.natAbs ≤ 100) : (a * b).toInt.natAbs ≤ 100 := by
  rw [mul32s ha hb]
  rcases ha with ha | ha
  · rw [ha]
    have : (1 : Int32).toInt = 1 := rfl
    rw [this]
    omega
  · rw [ha]
    have : (-1 : Int32).toInt = -1 := rfl
    rw [this]
    omega
theorem c_mi88 {N j n : Nat} {a4 a5 a6 : Int32} {s0 : cS} {bo : Nat → Nat} (hN : 100000 < N) (ci : CI s0 bo) (hj : j < 8) (hn : n ≤ 24) (n3 : qI s0 (bo (1 + j) + 1) 0 = Int32.ofNat n) (n4 : ∀ i, i < n → bd3 (pc s0 (bo (1 + j) + 1) i) 100) (h4 : a4 = 1 ∨ a4 = -1) (h5 : a5 = 1 ∨ a5 = -1) (h6 : a6 = 1 ∨ a6 = -1) : ∀ (r k fu : Nat) (s : cS), k + r = n → r < fu → SC (fun v => (a4.toInt * v.1, a5.toInt * v.2.1, a6.toInt * v.2.2)) s0 s (bo (1 + j) + 1) k → OK (fun r => r.2 = 1 ∧ ∃ r', CG s0 bo j (setP (fun i => (a4.toInt * (pc s0 (bo (1 + j) + 1) i).1, a5.toInt * (pc s0 (bo (1 + j) + 1) i).2.1, a6.toInt * (pc s0 (bo (1 + j) + 1) i).2.2)) n) r.1 r') (fxX6_mirror_88 N fu 0 (Int32.ofNat j) (bo (1 + j) + 1) a4 a5 a6 (Int32.ofNat k) (hC s)) := by
  have hb := ci.1.2.2.2.1 (1 + j) (by omega)
  have n2 : shp (bo (1 + j) + 1) = (3, 24) := (isB_sh hb).2.1
  obtain ⟨p3, d1, d2, d3⟩ := pt_sh n2
  have k16 : (shp 16).1 = 3 := rfl
  have no : ∀ i, bo (1 + j) ≤ i → i ≤ bo (1 + j) + 9 → ¬ rg 16 19 i := fun i a b w => by
    have := w.1
    have := w.2
    rcases hb with y | ⟨i, _, y⟩ | ⟨i, _, y⟩ <;> omega
  intro r
  induction r with
  | zero =>
    intro k fu s hk hfu h
    obtain ⟨fu', rfl⟩ : ∃ f', fu = f' + 1 := ⟨fu - 1, by omega⟩
    have e : k = n := by omega
    subst e
    obtain ⟨c, i16, pp⟩ := h
    have cf1 : cf fre s0 s := c.mo (fun i hi => fre_16 hi)
    obtain ⟨ci1, -⟩ := CI_cf ci cf1 (fun i hi => hi)
    rw [fxX6_mirror_88]
    refine OK_b (gI_3_0 p3) ?_
    rw [c.I (no _ (by omega) (by omega)), n3]
    refine OK_p (Int32.le_refl _) (OK_b (gR_6_7 x06) (OK_b (gR_6_8 x06) (OK_b (kO_6 x06) (OK_c (CG_bc hN ci cf1 hj (PZ_o ci1 s16 (by omega) i16 (by omega) (by omega) (fun i hi => ?_)) (lo_d ci1 (by omega) (by omega)) (lo_d ci1 (by omega) (by omega)) ((sZ_o ci1.2.2.2.2.1.2).trans (setP_cg pp))) (fun r e => OK_s ⟨rfl, r.2, e⟩)))))
    rw [pp i hi]
    obtain ⟨x1, x2, x3⟩ := n4 i hi
    have bd : ∀ a : Int32, (a = 1 ∨ a = -1) → ∀ v : Int, v.natAbs ≤ 100 → (a.toInt * v).natAbs ≤ 200 := fun a ha v hv => by
      rcases ha with ha | ha
      · rw [ha]
        have : (1 : Int32).toInt = 1 := rfl
        rw [this]
        omega
      · rw [ha]
        have : (-1 : Int32).toInt = -1 := rfl
        rw [this]
        omega
    exact ⟨bd a4 h4 _ x1, bd a5 h5 _ x2, bd a6 h6 _ x3⟩
  | succ r ih =>
    intro k fu s hk hfu h
    obtain ⟨fu', rfl⟩ : ∃ f', fu = f' + 1 := ⟨fu - 1, by omega⟩
    obtain ⟨c, i16, pp⟩ := h
    have A1 : qA s (bo (1 + j) + 1 + 1) = qA s0 (bo (1 + j) + 1 + 1) := c.A (no _ (by omega) (by omega))
    have A2 : qA s (bo (1 + j) + 1 + 2) = qA s0 (bo (1 + j) + 1 + 2) := c.A (no _ (by omega) (by omega))
    have A3 : qA s (bo (1 + j) + 1 + 3) = qA s0 (bo (1 + j) + 1 + 3) := c.A (no _ (by omega) (by omega))
    obtain ⟨x1, x2, x3⟩ := n4 k (by omega)
    rw [fxX6_mirror_88, i_s]
    refine OK_b (gI_3_0 p3) ?_
    rw [c.I (no _ (by omega) (by omega)), n3]
    obtain ⟨s2, q2, c2, -, p2⟩ := c_put2 (N := N) (p := 16) (n := 25) (k := k) (x := a4 * qA s (bo (1 + j) + 1 + 1) k) (y := a5 * qA s (bo (1 + j) + 1 + 2) k) (z := a6 * qA s (bo (1 + j) + 1 + 3) k) (s := s) s16 (by omega) i16 (by omega)
    obtain ⟨i2, p2'⟩ := p2 (by omega)
    have q2' : fxX3_put N (0 + 16) (a4 * qA s (bo (1 + j) + 1 + 1) k) (a5 * qA s (bo (1 + j) + 1 + 2) k) (a6 * qA s (bo (1 + j) + 1 + 3) k) (hC s) = some (hC s2) := q2
    refine OK_n (by rw [i_le (by omega) (by omega)]; omega) (OK_b (gR_6_7 x06) (OK_b (gR_3_1 p3) (OK_b (aI_N d1 (show k < 24 by omega) (by decide)) (OK_b (gR_3_2 p3) (OK_b (aI_N d2 (show k < 24 by omega) (by decide)) (OK_b (gR_3_3 p3) (OK_b (aI_N d3 (show k < 24 by omega) (by decide)) (OK_b (kO_3 k16) (OK_b q2' ?_)))))))))
    refine ih (k + 1) fu' s2 (by omega) (by omega) ⟨c.tr (c2.mo (fun i hi => ⟨hi.1, hi.2⟩)), i2, fun i hi => ?_⟩
    rw [p2']
    by_cases d : i = k
    · rw [if_pos d, d, A1, A2, A3]
      refine v3_ext ?_ ?_ ?_
      · exact mul32s h4 x1
      · exact mul32s h5 x2
      · exact mul32s h6 x3
    · rw [if_neg d]
      exact pp i (by omega)
theorem ax_or {n : Nat} {b : Int32} (hn : n < 2147483647) (h0 : ¬ b < 0) (hb : b ≤ Int32.ofNat n) : ∃ k, k ≤ n ∧ b = Int32.ofNat k := by
  rcases rng_or (n := n + 1) (by omega) b with (w | w) | ⟨k, hk, e⟩
  · exact absurd w h0
  · rw [Int32.le_iff_toInt_le, Int32.toInt_ofNat_of_lt (by omega)] at w hb
    omega
  · exact ⟨k, by omega, e⟩
/-- mirror: it answers by slot and axis alone -/
theorem y_mirror {N : Nat} {a b : Int32} {s : cS} {bo : Nat → Nat} (hN : 100000 < N) (ci : CI s bo) : OK (fun r => (r.2 = 0 ∧ r.1 = hC s ∧ ((a < 0 ∨ 8 ≤ a) ∨ b < 0 ∨ ¬ b ≤ 3)) ∨ ∃ j ax n r', j < 8 ∧ a = Int32.ofNat j ∧ ax < 4 ∧ b = Int32.ofNat ax ∧ n ≤ 24 ∧ qI s (bo (1 + j) + 1) 0 = Int32.ofNat n ∧ r.2 = 1 ∧ CG s bo j (setP (fun i => mrT ax (pc s (bo (1 + j) + 1) i)) n) r.1 r') (fxX6_mirror N 0 a b (hC s)) := by
  unfold fxX6_mirror
  refine OK_slot (fun j hj ej => ?_) (fun w => OK_p rfl (OK_s (.inl ⟨rfl, rfl, .inl w⟩)))
  refine OK_n no1 (OK_i (fun w => OK_s (.inl ⟨rfl, rfl, .inr (.inl w)⟩)) (fun w0 => OK_i (fun w3 => ?_) (fun w => OK_s (.inl ⟨rfl, rfl, .inr (.inr w)⟩))))
  subst ej
  obtain ⟨ax, hax, eax⟩ := ax_or (n := 3) (by omega) w0 w3
  subst eax
  obtain ⟨n, n1, n2, n3, n4, n5⟩ := row_b ci (show 1 + j < 17 by omega)
  have hb := ci.1.2.2.2.1 (1 + j) (by omega)
  obtain ⟨b0, -⟩ := isB_sh hb
  have k16 : (shp 16).1 = 3 := rfl
  have sg : ∀ v : Int, (1 : Int32).toInt * v = v ∧ (-1 : Int32).toInt * v = -v := fun v => by
    have e1 : (1 : Int32).toInt = 1 := rfl
    have e2 : (-1 : Int32).toInt = -1 := rfl
    rw [e1, e2]
    omega
  have go76 : ∀ a4 a5 a6 : Int32, (a4 = 1 ∨ a4 = -1) → (a5 = 1 ∨ a5 = -1) → (a6 = 1 ∨ a6 = -1) → (∀ v : V3, (a4.toInt * v.1, a5.toInt * v.2.1, a6.toInt * v.2.2) = mrT ax v) → OK (fun r => (r.2 = 0 ∧ r.1 = hC s ∧ ((Int32.ofNat j < 0 ∨ 8 ≤ Int32.ofNat j) ∨ Int32.ofNat ax < 0 ∨ ¬ Int32.ofNat ax ≤ 3)) ∨ ∃ j' ax' n r', j' < 8 ∧ Int32.ofNat j = Int32.ofNat j' ∧ ax' < 4 ∧ Int32.ofNat ax = Int32.ofNat ax' ∧ n ≤ 24 ∧ qI s (bo (1 + j') + 1) 0 = Int32.ofNat n ∧ r.2 = 1 ∧ CG s bo j' (setP (fun i => mrT ax' (pc s (bo (1 + j') + 1) i)) n) r.1 r') (fxX6_mirror_76 N 0 (Int32.ofNat j) (bo (1 + j) + 1) a4 a5 a6 (hC s)) := fun a4 a5 a6 h4 h5 h6 hm => by
    have q1' : fxX3_clear N (0 + 16) (hC s) = some (hC (uI s 16 0 0)) := c_clear k16
    unfold fxX6_mirror_76
    refine OK_b (gR_6_7 x06) (OK_b (kO_3 k16) (OK_b q1' ?_))
    obtain ⟨r, e, e1, r', cg⟩ := c_mi88 (N := N) hN ci hj n1 n3 n4 h4 h5 h6 n 0 N (uI s 16 0 0) (by omega) (by omega) ⟨cf_uI _ ⟨by omega, by omega⟩, by rw [qI_uI, if_pos ⟨rfl, rfl⟩]; rfl, fun i hi => absurd hi (by omega)⟩
    refine ⟨r, e, .inr ⟨j, ax, n, r', hj, rfl, by omega, rfl, n1, n3, e1, ?_⟩⟩
    rw [setP_cg (n := n) (Q := fun i => mrT ax (pc s (bo (1 + j) + 1) i)) (fun i _ => hm _)] at cg
    exact cg
  have ne : ∀ {x y : Nat}, x < 4 → y < 4 → x ≠ y → ¬ Int32.ofNat x = Int32.ofNat y := fun hx hy n e => n (i_inj (by omega) (by omega) e)
  have mr : ∀ v : V3, mrT ax v = (if ax = 0 ∨ ax = 3 then -v.1 else v.1, if ax = 1 ∨ ax = 3 then -v.2.1 else v.2.1, if ax = 2 ∨ ax = 3 then -v.2.2 else v.2.2) := fun _ => rfl
  refine OK_b (gR_6_2 x06) (OK_b (aR3 hj (ci.1.2.1 j hj)) (OK_b (gR_0_1 b0) ?_))
  unfold fxX6_mirror_37 fxX6_mirror_42 fxX6_mirror_54 fxX6_mirror_59 fxX6_mirror_71
  have cs : ax = 0 ∨ ax = 1 ∨ ax = 2 ∨ ax = 3 := by omega
  rcases cs with c | c | c | c
  · subst c
    refine OK_p rfl (OK_n (ne (y := 1) (by omega) (by omega) (by omega)) (OK_n (ne (y := 3) (by omega) (by omega) (by omega)) (OK_n (ne (y := 2) (by omega) (by omega) (by omega)) (OK_n (ne (y := 3) (by omega) (by omega) (by omega)) (go76 (-1) 1 1 (.inr rfl) (.inl rfl) (.inl rfl) (fun v => ?_))))))
    rw [mr, if_pos (by omega), if_neg (by omega), if_neg (by omega), (sg _).2, (sg _).1, (sg _).1]
  · subst c
    refine OK_n (ne (y := 0) (by omega) (by omega) (by omega)) (OK_n (ne (y := 3) (by omega) (by omega) (by omega)) (OK_p rfl (OK_n (ne (y := 2) (by omega) (by omega) (by omega)) (OK_n (ne (y := 3) (by omega) (by omega) (by omega)) (go76 1 (-1) 1 (.inl rfl) (.inr rfl) (.inl rfl) (fun v => ?_))))))
    rw [mr, if_neg (by omega), if_pos (by omega), if_neg (by omega), (sg _).1, (sg _).2, (sg _).1]
  · subst c
    refine OK_n (ne (y := 0) (by omega) (by omega) (by omega)) (OK_n (ne (y := 3) (by omega) (by omega) (by omega)) (OK_n (ne (y := 1) (by omega) (by omega) (by omega)) (OK_n (ne (y := 3) (by omega) (by omega) (by omega)) (OK_p rfl (go76 1 1 (-1) (.inl rfl) (.inl rfl) (.inr rfl) (fun v => ?_))))))
    rw [mr, if_neg (by omega), if_neg (by omega), if_pos (by omega), (sg _).1, (sg _).1, (sg _).2]
  · subst c
    refine OK_n (ne (y := 0) (by omega) (by omega) (by omega)) (OK_p rfl (OK_n (ne (y := 1) (by omega) (by omega) (by omega)) (OK_p rfl (OK_n (ne (y := 2) (by omega) (by omega) (by omega)) (OK_p rfl (go76 (-1) (-1) (-1) (.inr rfl) (.inr rfl) (.inr rfl) (fun v => ?_)))))))
    rw [mr, if_pos (by omega), if_pos (by omega), if_pos (by omega), (sg _).2, (sg _).2, (sg _).2]
theorem neg_bd {b : Int32} (hb : b.toInt.natAbs ≤ 100) : (-b).toInt.natAbs ≤ 100 := by
  rw [neg32 (by omega)]
  omega
theorem c_tu38 {N j n ax : Nat} {s0 : cS} {bo : Nat → Nat} (hN : 100000 < N) (ci : CI s0 bo) (hj : j < 8) (hax : ax < 3) (hn : n ≤ 24) (n3 : qI s0 (bo (1 + j) + 1) 0 = Int32.ofNat n) (n4 : ∀ i, i < n → bd3 (pc s0 (bo (1 + j) + 1) i) 100) : ∀ (r k fu : Nat) (s : cS), k + r = n → r < fu → cf (rg 16 19) s0 s → qI s 16 0 = Int32.ofNat k → (∀ i, i < k → bd3 (pc s 16 i) 100 ∧ pc s 16 i = tnT ax (pc s0 (bo (1 + j) + 1) i)) → OK (fun r => r.2 = 1 ∧ ∃ r', CG s0 bo j (setP (fun i => tnT ax (pc s0 (bo (1 + j) + 1) i)) n) r.1 r') (fxX6_turn_38 N fu 0 (Int32.ofNat j) (Int32.ofNat ax) (bo (1 + j) + 1) (Int32.ofNat k) (hC s)) := by
  have hb := ci.1.2.2.2.1 (1 + j) (by omega)
  have n2 : shp (bo (1 + j) + 1) = (3, 24) := (isB_sh hb).2.1
  obtain ⟨p3, d1, d2, d3⟩ := pt_sh n2
  have k16 : (shp 16).1 = 3 := rfl
  have no : ∀ i, bo (1 + j) ≤ i → i ≤ bo (1 + j) + 9 → ¬ rg 16 19 i := fun i a b w => by
    have := w.1
    have := w.2
    rcases hb with y | ⟨i, _, y⟩ | ⟨i, _, y⟩ <;> omega
  intro r
  induction r with
  | zero =>
    intro k fu s hk hfu c i16 pp
    obtain ⟨fu', rfl⟩ : ∃ f', fu = f' + 1 := ⟨fu - 1, by omega⟩
    have e : k = n := by omega
    subst e
    have cf1 : cf fre s0 s := c.mo (fun i hi => fre_16 hi)
    obtain ⟨ci1, -⟩ := CI_cf ci cf1 (fun i hi => hi)
    rw [fxX6_turn_38]
    refine OK_b (gI_3_0 p3) ?_
    rw [c.I (no _ (by omega) (by omega)), n3]
    refine OK_p (Int32.le_refl _) (OK_b (gR_6_7 x06) (OK_b (gR_6_8 x06) (OK_b (kO_6 x06) (OK_c (CG_bc hN ci cf1 hj (PZ_o ci1 s16 (by omega) i16 (by omega) (by omega) (fun i hi => bd3_le (pp i hi).1 (by decide))) (lo_d ci1 (by omega) (by omega)) (lo_d ci1 (by omega) (by omega)) ((sZ_o ci1.2.2.2.2.1.2).trans (setP_cg (fun i hi => (pp i hi).2)))) (fun r e => OK_s ⟨rfl, r.2, e⟩)))))
  | succ r ih =>
    intro k fu s hk hfu c i16 pp
    obtain ⟨fu', rfl⟩ : ∃ f', fu = f' + 1 := ⟨fu - 1, by omega⟩
    have A1 : qA s (bo (1 + j) + 1 + 1) = qA s0 (bo (1 + j) + 1 + 1) := c.A (no _ (by omega) (by omega))
    have A2 : qA s (bo (1 + j) + 1 + 2) = qA s0 (bo (1 + j) + 1 + 2) := c.A (no _ (by omega) (by omega))
    have A3 : qA s (bo (1 + j) + 1 + 3) = qA s0 (bo (1 + j) + 1 + 3) := c.A (no _ (by omega) (by omega))
    obtain ⟨x1, x2, x3⟩ := n4 k (by omega)
    have x1' : (qA s0 (bo (1 + j) + 1 + 1) k).toInt.natAbs ≤ 100 := x1
    have x2' : (qA s0 (bo (1 + j) + 1 + 2) k).toInt.natAbs ≤ 100 := x2
    have x3' : (qA s0 (bo (1 + j) + 1 + 3) k).toInt.natAbs ≤ 100 := x3
    have st : ∀ u v w : Int32, bd3 (u.toInt, v.toInt, w.toInt) 100 → (u.toInt, v.toInt, w.toInt) = tnT ax (pc s0 (bo (1 + j) + 1) k) → OK (fun r => r.2 = 1 ∧ ∃ r', CG s0 bo j (setP (fun i => tnT ax (pc s0 (bo (1 + j) + 1) i)) n) r.1 r') ((gR (hC s) 0 6 7).bind fun v42 => (kO (hC s) v42 3).bind fun _ => (fxX3_put N v42 u v w (hC s)).bind fun o44 => fxX6_turn_131 N (fxX6_turn_38 N fu') 0 (Int32.ofNat j) (Int32.ofNat ax) (bo (1 + j) + 1) (Int32.ofNat k) o44) := fun u v w bd et => by
      obtain ⟨s2, q2, c2, -, p2⟩ := c_put2 (N := N) (p := 16) (n := 25) (k := k) (x := u) (y := v) (z := w) (s := s) s16 (by omega) i16 (by omega)
      obtain ⟨i2, p2'⟩ := p2 (by omega)
      have q2' : fxX3_put N (0 + 16) u v w (hC s) = some (hC s2) := q2
      refine OK_b (gR_6_7 x06) (OK_b (kO_3 k16) (OK_b q2' ?_))
      unfold fxX6_turn_131
      rw [i_s]
      refine ih (k + 1) fu' s2 (by omega) (by omega) (c.tr (c2.mo (fun i hi => ⟨hi.1, hi.2⟩))) i2 (fun i hi => ?_)
      rw [p2']
      by_cases d : i = k
      · rw [if_pos d, d]
        exact ⟨bd, et⟩
      · rw [if_neg d]
        exact pp i (by omega)
    rw [fxX6_turn_38]
    refine OK_b (gI_3_0 p3) ?_
    rw [c.I (no _ (by omega) (by omega)), n3]
    refine OK_n (by rw [i_le (by omega) (by omega)]; omega) (OK_b (gR_3_1 p3) (OK_b (aI_N d1 (show k < 24 by omega) (by decide)) (OK_b (gR_3_2 p3) (OK_b (aI_N d2 (show k < 24 by omega) (by decide)) (OK_b (gR_3_3 p3) (OK_b (aI_N d3 (show k < 24 by omega) (by decide)) ?_))))))
    rw [A1, A2, A3]
    have tn : ∀ v : V3, tnT ax v = if ax = 0 then (v.1, -v.2.2, v.2.1) else if ax = 1 then (v.2.2, v.2.1, -v.1) else (-v.2.1, v.1, v.2.2) := fun _ => rfl
    refine OK_i (fun w => st _ _ _ ⟨x1', neg_bd x3', x2'⟩ ?_) (fun w0 => OK_i (fun w => st _ _ _ ⟨x3', x2', neg_bd x1'⟩ ?_) (fun w1 => st _ _ _ ⟨neg_bd x2', x1', x3'⟩ ?_))
    · have a0 : ax = 0 := i_inj (b := 0) (by omega) (by omega) w
      rw [tn, if_pos a0, neg32 (by omega)]
      rfl
    · have a1 : ax = 1 := i_inj (b := 1) (by omega) (by omega) w
      rw [tn, if_neg (by omega), if_pos a1, neg32 (by omega)]
      rfl
    · have a0 : ax ≠ 0 := fun e => w0 (by rw [e]; rfl)
      have a1 : ax ≠ 1 := fun e => w1 (by rw [e]; rfl)
      rw [tn, if_neg a0, if_neg a1, neg32 (by omega)]
      rfl
/-- turn: it answers by slot and axis alone -/
theorem y_turn {N : Nat} {a b : Int32} {s : cS} {bo : Nat → Nat} (hN : 100000 < N) (ci : CI s bo) : OK (fun r => (r.2 = 0 ∧ r.1 = hC s ∧ ((a < 0 ∨ 8 ≤ a) ∨ b < 0 ∨ ¬ b ≤ 2)) ∨ ∃ j ax n r', j < 8 ∧ a = Int32.ofNat j ∧ ax < 3 ∧ b = Int32.ofNat ax ∧ n ≤ 24 ∧ qI s (bo (1 + j) + 1) 0 = Int32.ofNat n ∧ r.2 = 1 ∧ CG s bo j (setP (fun i => tnT ax (pc s (bo (1 + j) + 1) i)) n) r.1 r') (fxX6_turn N 0 a b (hC s)) := by
  unfold fxX6_turn
  refine OK_slot (fun j hj ej => ?_) (fun w => OK_p rfl (OK_s (.inl ⟨rfl, rfl, .inl w⟩)))
  refine OK_n no1 (OK_i (fun w => OK_s (.inl ⟨rfl, rfl, .inr (.inl w)⟩)) (fun w0 => OK_i (fun w3 => ?_) (fun w => OK_s (.inl ⟨rfl, rfl, .inr (.inr w)⟩))))
  subst ej
  obtain ⟨ax, hax, eax⟩ := ax_or (n := 2) (by omega) w0 w3
  subst eax
  obtain ⟨n, n1, n2, n3, n4, n5⟩ := row_b ci (show 1 + j < 17 by omega)
  have hb := ci.1.2.2.2.1 (1 + j) (by omega)
  obtain ⟨b0, -⟩ := isB_sh hb
  have k16 : (shp 16).1 = 3 := rfl
  have q1' : fxX3_clear N (0 + 16) (hC s) = some (hC (uI s 16 0 0)) := c_clear k16
  refine OK_b (gR_6_2 x06) (OK_b (aR3 hj (ci.1.2.1 j hj)) (OK_b (gR_0_1 b0) (OK_b (gR_6_7 x06) (OK_b (kO_3 k16) (OK_b q1' ?_)))))
  obtain ⟨r, e, e1, r', cg⟩ := c_tu38 (N := N) hN ci hj (show ax < 3 by omega) n1 n3 n4 n 0 N (uI s 16 0 0) (by omega) (by omega) (cf_uI _ ⟨by omega, by omega⟩) (by rw [qI_uI, if_pos ⟨rfl, rfl⟩]; rfl) (fun i hi => absurd hi (by omega))
  exact ⟨r, e, .inr ⟨j, ax, n, r', hj, rfl, by omega, rfl, n1, n3, e1, cg⟩⟩
