theorem win_in {N : Nat} {x m : Int32} {h : mh} (h1 : ¬ x < -m) (h2 : ¬ m < x) : fxX6_isWithin N x m h = some (h, 1) := by
  unfold fxX6_isWithin
  rw [if_neg h1, if_neg h2]
theorem win_no {N : Nat} {x m : Int32} {h : mh} (w : x < -m ∨ m < x) : fxX6_isWithin N x m h = some (h, 0) := by
  unfold fxX6_isWithin
  by_cases h1 : x < -m
  · rw [if_pos h1]
  · rw [if_neg h1, if_pos (w.resolve_left h1)]
theorem sm_in {N : Nat} {x : Int32} {s : mS} (h1 : ¬ x < -1000) (h2 : ¬ 1000 < x) : mxX7_isSmall N x s = some (s, 1) := by
  unfold mxX7_isSmall
  rw [if_neg h1, if_neg h2]
theorem sm_no {N : Nat} {x : Int32} {s : mS} (w : x < -1000 ∨ 1000 < x) : mxX7_isSmall N x s = some (s, 0) := by
  unfold mxX7_isSmall
  by_cases h1 : x < -1000
  · rw [if_pos h1]
  · rw [if_neg h1, if_pos (w.resolve_left h1)]
theorem fa_in {N : Nat} {x : Int32} {s : mS} (h1 : ¬ x < -1000000) (h2 : ¬ 1000000 < x) : mxX7_isFar N x s = some (s, 0) := by
  unfold mxX7_isFar
  rw [if_neg h1, if_pos (by
    rw [Int32.lt_iff_toInt_lt] at h2
    rw [Int32.le_iff_toInt_le]
    omega)]
theorem fa_no {N : Nat} {x : Int32} {s : mS} (w : x < -1000000 ∨ 1000000 < x) : mxX7_isFar N x s = some (s, 1) := by
  unfold mxX7_isFar
  by_cases h1 : x < -1000000
  · rw [if_pos h1]
  · have h2 := w.resolve_left h1
    rw [if_neg h1, if_neg (by
      rw [Int32.lt_iff_toInt_lt] at h2
      rw [Int32.le_iff_toInt_le]
      omega)]
theorem abs_of {x : Int32} {M : Nat} {a b : Int32} (ha : a.toInt = -(M : Int)) (hb : b.toInt = (M : Int)) (h1 : ¬ x < a) (h2 : ¬ b < x) : x.toInt.natAbs ≤ M := by
  rw [Int32.lt_iff_toInt_lt, ha] at h1
  rw [Int32.lt_iff_toInt_lt, hb] at h2
  omega
theorem mul_s {x y : Int} {A B : Nat} (hx : x.natAbs ≤ A) (hy : y.natAbs ≤ B) : (x * y).natAbs ≤ A * B := by
  rw [Int.natAbs_mul]
  exact Nat.mul_le_mul hx hy
/-- the height in 32 bits -/
theorem h32 {x y z d X Y Z : Int32} (hx : x.toInt.natAbs ≤ 1000) (hy : y.toInt.natAbs ≤ 1000) (hz : z.toInt.natAbs ≤ 1000) (hd : d.toInt.natAbs ≤ 1000000) (hX : X.toInt.natAbs ≤ 100) (hY : Y.toInt.natAbs ≤ 100) (hZ : Z.toInt.natAbs ≤ 100) : (x * X + y * Y + z * Z - d).toInt = x.toInt * X.toInt + y.toInt * Y.toInt + z.toInt * Z.toInt - d.toInt := by
  have m1 := mul_s hx hX
  have m2 := mul_s hy hY
  have m3 := mul_s hz hZ
  have p1 : (x * X).toInt = x.toInt * X.toInt := by
    rw [Int32.toInt_mul]
    exact bm32 (by omega)
  have p2 : (y * Y).toInt = y.toInt * Y.toInt := by
    rw [Int32.toInt_mul]
    exact bm32 (by omega)
  have p3 : (z * Z).toInt = z.toInt * Z.toInt := by
    rw [Int32.toInt_mul]
    exact bm32 (by omega)
  have a1 : (x * X + y * Y).toInt = x.toInt * X.toInt + y.toInt * Y.toInt := by
    rw [Int32.toInt_add, p1, p2]
    exact bm32 (by omega)
  have a2 : (x * X + y * Y + z * Z).toInt = x.toInt * X.toInt + y.toInt * Y.toInt + z.toInt * Z.toInt := by
    rw [Int32.toInt_add, a1, p3]
    exact bm32 (by omega)
  rw [Int32.toInt_sub, a2]
  exact bm32 (by omega)
theorem sd_loop {N i m : Nat} {x y z d : Int32} {C : cS} {s : mS} {b : Nat} (n2 : shp (b + 1) = (3, 24)) (hi : i < 8) (m24 : m ≤ 24) (h3 : s.2.2.1 4 i = Int32.ofNat m) (h5 : qI C (b + 1) 0 = Int32.ofNat m) (h7 : ∀ j, j < m → pc C (b + 1) j = cP s i j) (h9 : ∀ j, j < m → bd3 (pc C (b + 1) j) 100) (hx : x.toInt.natAbs ≤ 1000) (hy : y.toInt.natAbs ≤ 1000) (hz : z.toInt.natAbs ≤ 1000) (hd : d.toInt.natAbs ≤ 1000000) : ∀ (r k f f' : Nat) (v : Int32), k + r = m → r < f → r < f' → ∃ w, fxX6_side_82 N f x y z d (b + 1) v (Int32.ofNat k) (hC C) = some (hC C, w) ∧ mxX7_side_58 N f' (Int32.ofNat i) x y z d v (Int32.ofNat k) s = some (s, w) := by
  obtain ⟨p3, -⟩ := pt_sh n2
  intro r
  induction r with
  | zero =>
    intro k f f' v hk hf hf'
    obtain ⟨f1, rfl⟩ : ∃ f1, f = f1 + 1 := ⟨f - 1, by omega⟩
    obtain ⟨f2, rfl⟩ : ∃ f2, f' = f2 + 1 := ⟨f' - 1, by omega⟩
    have e : k = m := by omega
    subst e
    refine ⟨v, ?_, ?_⟩
    · rw [fxX6_side_82, gI_3_0 p3, Option.bind_some, h5, if_pos (Int32.le_refl _)]
    · rw [mxX7_side_58, x8 rfl hi, Option.bind_some, h3, if_pos (Int32.le_refl _)]
  | succ r ih =>
    intro k f f' v hk hf hf'
    obtain ⟨f1, rfl⟩ : ∃ f1, f = f1 + 1 := ⟨f - 1, by omega⟩
    obtain ⟨f2, rfl⟩ : ∃ f2, f' = f2 + 1 := ⟨f' - 1, by omega⟩
    have ne : ¬ (Int32.ofNat m ≤ Int32.ofNat k) := by
      rw [i_le (by omega) (by omega)]
      omega
    obtain ⟨q1, q2, q3⟩ := cor_eq (h7 k (by omega))
    obtain ⟨c0, c1, c2⟩ := m_cor (N := N) hi h3 m24 (show k < m by omega)
    have bp := h9 k (by omega)
    have X1 : (qA C (b + 1 + 1) k).toInt.natAbs ≤ 100 := bp.1
    have Y1 : (qA C (b + 1 + 2) k).toInt.natAbs ≤ 100 := bp.2.1
    have Z1 : (qA C (b + 1 + 3) k).toInt.natAbs ≤ 100 := bp.2.2
    have t32 := h32 hx hy hz hd X1 Y1 Z1
    have hvb := hv_bv (s := C) (p := b + 1) (j := k) (A := 1000) (B := 100) (m := (x.toInt, y.toInt, z.toInt)) (bt32 (a := x) rfl hx) (bt32 (a := y) rfl hy) (bt32 (a := z) rfl hz) bp (by decide)
    have t64 := bv_sub hvb (bt32 (a := d) rfl hd) (by decide)
    have e64 : (hv C (b + 1) x.toInt64 y.toInt64 z.toInt64 k - d.toInt64).toInt = x.toInt * (qA C (b + 1 + 1) k).toInt + y.toInt * (qA C (b + 1 + 2) k).toInt + z.toInt * (qA C (b + 1 + 3) k).toInt - d.toInt := t64.1
    generalize hA : x.toInt * (qA C (b + 1 + 1) k).toInt + y.toInt * (qA C (b + 1 + 2) k).toInt + z.toInt * (qA C (b + 1 + 3) k).toInt - d.toInt = A at *
    have cl : fxX6_side_82 N (f1 + 1) x y z d (b + 1) v (Int32.ofNat k) (hC C) = if (0 : Int64) ≤ (hv C (b + 1) x.toInt64 y.toInt64 z.toInt64 k - d.toInt64) then (if (hv C (b + 1) x.toInt64 y.toInt64 z.toInt64 k - d.toInt64) = 0 then fxX6_side_82 N f1 x y z d (b + 1) (v ||| 2) (Int32.ofNat (k + 1)) (hC C) else fxX6_side_82 N f1 x y z d (b + 1) (v ||| 4) (Int32.ofNat (k + 1)) (hC C)) else fxX6_side_82 N f1 x y z d (b + 1) (v ||| 1) (Int32.ofNat (k + 1)) (hC C) := by
      rw [fxX6_side_82, gI_3_0 p3, Option.bind_some, h5, if_neg ne, kO_3 p3, Option.bind_some, c_along n2 (by decide) (show k < 24 by omega), Option.bind_some]
      unfold fxX6_side_137
      rw [i_s]
    have rf : mxX7_side_58 N (f2 + 1) (Int32.ofNat i) x y z d v (Int32.ofNat k) s = if (0 : Int32) ≤ (x * qA C (b + 1 + 1) k + y * qA C (b + 1 + 2) k + z * qA C (b + 1 + 3) k - d) then (if (x * qA C (b + 1 + 1) k + y * qA C (b + 1 + 2) k + z * qA C (b + 1 + 3) k - d) = 0 then mxX7_side_58 N f2 (Int32.ofNat i) x y z d (v ||| 2) (Int32.ofNat (k + 1)) s else mxX7_side_58 N f2 (Int32.ofNat i) x y z d (v ||| 4) (Int32.ofNat (k + 1)) s) else mxX7_side_58 N f2 (Int32.ofNat i) x y z d (v ||| 1) (Int32.ofNat (k + 1)) s := by
      rw [mxX7_side_58, x8 rfl hi, Option.bind_some, h3, if_neg ne, c0, Option.bind_some]
      dsimp only
      rw [c1, Option.bind_some]
      dsimp only
      rw [c2, Option.bind_some]
      dsimp only
      unfold mxX7_side_128
      rw [i_s, q1, q2, q3]
    rw [cl, rf]
    have s64 : ((0 : Int64) ≤ (hv C (b + 1) x.toInt64 y.toInt64 z.toInt64 k - d.toInt64)) ↔ 0 ≤ A := by
      rw [Int64.le_iff_toInt_le, e64]
      exact Iff.rfl
    have s32 : ((0 : Int32) ≤ (x * qA C (b + 1 + 1) k + y * qA C (b + 1 + 2) k + z * qA C (b + 1 + 3) k - d)) ↔ 0 ≤ A := by
      rw [Int32.le_iff_toInt_le, t32]
      exact Iff.rfl
    have z64 : ((hv C (b + 1) x.toInt64 y.toInt64 z.toInt64 k - d.toInt64) = 0) ↔ A = 0 := by
      rw [← Int64.toInt_inj, e64]
      exact Iff.rfl
    have z32 : ((x * qA C (b + 1 + 1) k + y * qA C (b + 1 + 2) k + z * qA C (b + 1 + 3) k - d) = 0) ↔ A = 0 := by
      rw [← Int32.toInt_inj, t32]
      exact Iff.rfl
    by_cases p : 0 ≤ A
    · rw [if_pos (s64.mpr p), if_pos (s32.mpr p)]
      by_cases z : A = 0
      · rw [if_pos (z64.mpr z), if_pos (z32.mpr z)]
        exact ih (k + 1) f1 f2 _ (by omega) (by omega) (by omega)
      · rw [if_neg (fun w => z (z64.mp w)), if_neg (fun w => z (z32.mp w))]
        exact ih (k + 1) f1 f2 _ (by omega) (by omega) (by omega)
    · rw [if_neg (fun w => p (s64.mp w)), if_neg (fun w => p (s32.mp w))]
      exact ih (k + 1) f1 f2 _ (by omega) (by omega) (by omega)
theorem sv_side {N : Nat} {C : cS} {s : mS} (hN : 4611686018427387904 < N) (j : JK C s) (a x y z d : Int32) : ∃ C' v o, fxX6_side N 0 a x y z d (hC C) = some (hC C', v) ∧ mxX7_side N a x y z d s = some o ∧ v = o.2 ∧ JK C' o.1 := by
  have j' := j
  obtain ⟨bo, xx, cc, jx⟩ := j
  have ci := jx.1
  have fin : ∀ v, fxX6_side N 0 a x y z d (hC C) = some (hC C, v) → mxX7_side N a x y z d s = some (s, v) → ∃ C' v o, fxX6_side N 0 a x y z d (hC C) = some (hC C', v) ∧ mxX7_side N a x y z d s = some o ∧ v = o.2 ∧ JK C' o.1 := fun v e1 e2 => ⟨C, v, _, e1, e2, rfl, j'⟩
  rcases slot_or a with ha | ⟨i, hi, rfl⟩
  · refine fin (-1) ?_ ?_
    · unfold fxX6_side
      rw [slot_no ha, Option.bind_some]
      rfl
    · unfold mxX7_side
      rw [solid_no ha, Option.bind_some]
      rfl
  · obtain ⟨m, k1, m24, -, h3, h4, h5, h6, h7⟩ := jx.2.2.2.2.2.1 i hi
    obtain ⟨hb, -, b0, n2⟩ := bodyOf ci hi
    obtain ⟨n, n1, -, n3, n4, -⟩ := row_b ci (show 1 + i < 17 by omega)
    have nm : n = m := i_inj (by omega) (by omega) (n3.symm.trans h5)
    subst nm
    -- the class
    have cl : fxX6_side N 0 (Int32.ofNat i) x y z d (hC C) = if x = 0 ∧ y = 0 ∧ z = 0 then some (hC C, -1) else fxX6_side_20 N 0 (Int32.ofNat i) x y z d (hC C) := by
      unfold fxX6_side
      rw [slot_in hi, Option.bind_some]
      dsimp only
      rw [if_neg no1]
      by_cases c1 : x = 0
      · rw [if_pos c1]
        by_cases c2 : y = 0
        · rw [if_pos c2]
          by_cases c3 : z = 0
          · rw [if_pos c3, if_pos ⟨c1, c2, c3⟩]
          · rw [if_neg c3, if_neg (fun w => c3 w.2.2)]
        · rw [if_neg c2, if_neg (fun w => c2 w.2.1)]
      · rw [if_neg c1, if_neg (fun w => c1 w.1)]
    have c20 : fxX6_side_20 N 0 (Int32.ofNat i) x y z d (hC C) = if (d < -1000000 ∨ 1000000 < d) ∨ (x < -1000 ∨ 1000 < x) ∨ (y < -1000 ∨ 1000 < y) ∨ (z < -1000 ∨ 1000 < z) then some (hC C, -1) else fxX6_side_82 N N x y z d (bo (1 + i) + 1) 0 0 (hC C) := by
      unfold fxX6_side_20
      by_cases c1 : d < -1000000 ∨ 1000000 < d
      · rw [if_pos (.inl c1)]
        exact bndE (win_no c1) rfl
      · refine Eq.trans (bndE (win_in (fun w => c1 (.inl w)) (fun w => c1 (.inr w))) (if_neg no1)) ?_
        by_cases c2 : x < -1000 ∨ 1000 < x
        · rw [if_pos (.inr (.inl c2))]
          exact bndE (win_no c2) rfl
        · refine Eq.trans (bndE (win_in (fun w => c2 (.inl w)) (fun w => c2 (.inr w))) (if_neg no1)) ?_
          by_cases c3 : y < -1000 ∨ 1000 < y
          · rw [if_pos (.inr (.inr (.inl c3)))]
            exact bndE (win_no c3) rfl
          · refine Eq.trans (bndE (win_in (fun w => c3 (.inl w)) (fun w => c3 (.inr w))) (if_neg no1)) ?_
            by_cases c4 : z < -1000 ∨ 1000 < z
            · rw [if_pos (.inr (.inr (.inr c4)))]
              exact bndE (win_no c4) rfl
            · refine Eq.trans (bndE (win_in (fun w => c4 (.inl w)) (fun w => c4 (.inr w))) (if_neg no1)) ?_
              rw [if_neg (fun w => w.elim c1 (fun w => w.elim c2 (fun w => w.elim c3 c4)))]
              exact bndE (gR_6_2 x06) (bndE (aR3 hi (ci.1.2.1 i hi)) (bndE (gR_0_1 b0) rfl))
    -- the reference
    have rf : mxX7_side N (Int32.ofNat i) x y z d s = if ((d < -1000000 ∨ 1000000 < d) ∨ (x < -1000 ∨ 1000 < x) ∨ (y < -1000 ∨ 1000 < y) ∨ (z < -1000 ∨ 1000 < z)) ∨ (x = 0 ∧ y = 0 ∧ z = 0) then some (s, -1) else mxX7_side_58 N N (Int32.ofNat i) x y z d 0 0 s := by
      unfold mxX7_side
      rw [solid_in hi, Option.bind_some]
      dsimp only
      rw [if_neg no1]
      by_cases c2 : x < -1000 ∨ 1000 < x
      · rw [if_pos (.inl (.inr (.inl c2)))]
        exact bndE (sm_no c2) rfl
      · refine Eq.trans (bndE (sm_in (fun w => c2 (.inl w)) (fun w => c2 (.inr w))) (if_neg no1)) ?_
        by_cases c3 : y < -1000 ∨ 1000 < y
        · rw [if_pos (.inl (.inr (.inr (.inl c3))))]
          exact bndE (sm_no c3) rfl
        · refine Eq.trans (bndE (sm_in (fun w => c3 (.inl w)) (fun w => c3 (.inr w))) (if_neg no1)) ?_
          by_cases c4 : z < -1000 ∨ 1000 < z
          · rw [if_pos (.inl (.inr (.inr (.inr c4))))]
            exact bndE (sm_no c4) rfl
          · refine Eq.trans (bndE (sm_in (fun w => c4 (.inl w)) (fun w => c4 (.inr w))) (if_neg no1)) ?_
            by_cases c1 : d < -1000000 ∨ 1000000 < d
            · rw [if_pos (.inl (.inl c1))]
              exact bndE (fa_no c1) rfl
            · refine Eq.trans (bndE (fa_in (fun w => c1 (.inl w)) (fun w => c1 (.inr w))) (if_pos rfl)) ?_
              have nn : ¬ ((d < -1000000 ∨ 1000000 < d) ∨ (x < -1000 ∨ 1000 < x) ∨ (y < -1000 ∨ 1000 < y) ∨ (z < -1000 ∨ 1000 < z)) := fun w => w.elim c1 (fun w => w.elim c2 (fun w => w.elim c3 c4))
              by_cases z1 : x = 0
              · by_cases z2 : y = 0
                · by_cases z3 : z = 0
                  · rw [if_pos z1, if_pos z2, if_pos z3, if_pos (.inr ⟨z1, z2, z3⟩)]
                  · rw [if_pos z1, if_pos z2, if_neg z3, if_neg (fun w => w.elim nn (fun w => z3 w.2.2))]
                    rfl
                · rw [if_pos z1, if_neg z2, if_neg (fun w => w.elim nn (fun w => z2 w.2.1))]
                  rfl
              · rw [if_neg z1, if_neg (fun w => w.elim nn (fun w => z1 w.1))]
                rfl
    by_cases z0 : x = 0 ∧ y = 0 ∧ z = 0
    · exact fin (-1) (by rw [cl, if_pos z0]) (by rw [rf, if_pos (.inr z0)])
    · by_cases nb : (d < -1000000 ∨ 1000000 < d) ∨ (x < -1000 ∨ 1000 < x) ∨ (y < -1000 ∨ 1000 < y) ∨ (z < -1000 ∨ 1000 < z)
      · exact fin (-1) (by rw [cl, if_neg z0, c20, if_pos nb]) (by rw [rf, if_pos (.inl nb)])
      · have ax : ¬ (x < -1000 ∨ 1000 < x) := fun w => nb (.inr (.inl w))
        have ay : ¬ (y < -1000 ∨ 1000 < y) := fun w => nb (.inr (.inr (.inl w)))
        have az : ¬ (z < -1000 ∨ 1000 < z) := fun w => nb (.inr (.inr (.inr w)))
        have ad : ¬ (d < -1000000 ∨ 1000000 < d) := fun w => nb (.inl w)
        obtain ⟨w, e1, e2⟩ := sd_loop (N := N) (x := x) (y := y) (z := z) (d := d) n2 hi m24 h3 h5 h7 n4 (abs_of (M := 1000) rfl rfl (fun w => ax (.inl w)) (fun w => ax (.inr w))) (abs_of (M := 1000) rfl rfl (fun w => ay (.inl w)) (fun w => ay (.inr w))) (abs_of (M := 1000) rfl rfl (fun w => az (.inl w)) (fun w => az (.inr w))) (abs_of (M := 1000000) rfl rfl (fun w => ad (.inl w)) (fun w => ad (.inr w))) n 0 N N 0 (by omega) (by omega) (by omega)
        exact fin w (by rw [cl, if_neg z0, c20, if_neg nb]; exact e1) (by rw [rf, if_neg (fun w => w.elim nb z0)]; exact e2)
