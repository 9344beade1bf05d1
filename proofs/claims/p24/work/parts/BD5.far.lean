theorem sq32 {a b : Int32} (ha : a.toInt.natAbs ≤ 100) (hb : b.toInt.natAbs ≤ 100) : ((a - b) * (a - b)).toInt = (a.toInt - b.toInt) * (a.toInt - b.toInt) ∧ ((a.toInt - b.toInt) * (a.toInt - b.toInt)).natAbs ≤ 40000 := by
  have d : (a - b).toInt = a.toInt - b.toInt := sub32 (by omega) (by omega)
  have m := mul_s (x := a.toInt - b.toInt) (y := a.toInt - b.toInt) (A := 200) (B := 200) (by omega) (by omega)
  refine ⟨?_, m⟩
  rw [Int32.toInt_mul, d]
  exact bm32 (by omega)
/-- squareBetween, in whole numbers -/
theorem c_sq2 {N p i j : Nat} {s : cS} (h : shp p = (3, 24)) (hi : i < 24) (hj : j < 24) (bi : bd3 (pc s p i) 100) (bj : bd3 (pc s p j) 100) : ∃ v, fxX3_squareBetween N p (Int32.ofNat i) (Int32.ofNat j) (hC s) = some (hC s, v) ∧ v.toInt = vd (vs (pc s p i) (pc s p j)) (vs (pc s p i) (pc s p j)) ∧ v.toInt.natAbs ≤ 120000 := by
  obtain ⟨h3, e1, e2, e3⟩ := pt_sh h
  obtain ⟨x1, y1⟩ := sq32 (a := qA s (p + 1) i) (b := qA s (p + 1) j) bi.1 bj.1
  obtain ⟨x2, y2⟩ := sq32 (a := qA s (p + 2) i) (b := qA s (p + 2) j) bi.2.1 bj.2.1
  obtain ⟨x3, y3⟩ := sq32 (a := qA s (p + 3) i) (b := qA s (p + 3) j) bi.2.2 bj.2.2
  have e : ((qA s (p + 1) i - qA s (p + 1) j) * (qA s (p + 1) i - qA s (p + 1) j) + (qA s (p + 2) i - qA s (p + 2) j) * (qA s (p + 2) i - qA s (p + 2) j) + (qA s (p + 3) i - qA s (p + 3) j) * (qA s (p + 3) i - qA s (p + 3) j)).toInt = ((qA s (p + 1) i).toInt - (qA s (p + 1) j).toInt) * ((qA s (p + 1) i).toInt - (qA s (p + 1) j).toInt) + ((qA s (p + 2) i).toInt - (qA s (p + 2) j).toInt) * ((qA s (p + 2) i).toInt - (qA s (p + 2) j).toInt) + ((qA s (p + 3) i).toInt - (qA s (p + 3) j).toInt) * ((qA s (p + 3) i).toInt - (qA s (p + 3) j).toInt) := by
    have a1 : ((qA s (p + 1) i - qA s (p + 1) j) * (qA s (p + 1) i - qA s (p + 1) j) + (qA s (p + 2) i - qA s (p + 2) j) * (qA s (p + 2) i - qA s (p + 2) j)).toInt = ((qA s (p + 1) i).toInt - (qA s (p + 1) j).toInt) * ((qA s (p + 1) i).toInt - (qA s (p + 1) j).toInt) + ((qA s (p + 2) i).toInt - (qA s (p + 2) j).toInt) * ((qA s (p + 2) i).toInt - (qA s (p + 2) j).toInt) := by
      rw [Int32.toInt_add, x1, x2]
      exact bm32 (by omega)
    rw [Int32.toInt_add, a1, x3]
    exact bm32 (by omega)
  refine ⟨(qA s (p + 1) i - qA s (p + 1) j) * (qA s (p + 1) i - qA s (p + 1) j) + (qA s (p + 2) i - qA s (p + 2) j) * (qA s (p + 2) i - qA s (p + 2) j) + (qA s (p + 3) i - qA s (p + 3) j) * (qA s (p + 3) i - qA s (p + 3) j), ?_, ?_, ?_⟩
  · unfold fxX3_squareBetween
    simp only [gR_3_1 h3, gR_3_2 h3, gR_3_3 h3, Option.bind_some, aI_N e1 hi (by omega), aI_N e2 hi (by omega), aI_N e3 hi (by omega), aI_N e1 hj (by omega), aI_N e2 hj (by omega), aI_N e3 hj (by omega)]
  · rw [e]
    rfl
  · rw [e]
    omega
theorem t32 {v : Int64} {w : Int32} (h : v.toInt = w.toInt) : v.toInt32 = w := by
  apply Int32.toInt_inj.mp
  rw [Int64.toInt_toInt32, h]
  have h1 := Int32.toInt_lt w
  have h2 := Int32.le_toInt w
  apply Int.bmod_eq_of_le <;> omega
theorem fr_59 {N p m i : Nat} {w : Int32} {C : cS} {s : mS} (n2 : shp p = (3, 24)) (m24 : m ≤ 24) (h5 : qI C p 0 = Int32.ofNat m) (h9 : ∀ j, j < m → bd3 (pc C p j) 100) (hO : hpO s m) (hp7 : ∀ j, j < m → hp s j = pc C p j) (hi : i < m) {rec : Int32 → Nat → Int32 → Int32 → Int32 → mh → Option (mh × Int32)} {rec' : Int32 → Int32 → Int32 → Int32 → mS → Option (mS × Int32)} (hr : ∀ a b, a < m → b < m → ∃ v, rec w p (Int32.ofNat a) (Int32.ofNat b) (Int32.ofNat (i + 1)) (hC C) = some (hC C, v) ∧ rec' w (Int32.ofNat a) (Int32.ofNat b) (Int32.ofNat (i + 1)) s = some (s, v)) : ∀ (r k f f' a b : Nat), k + r = m → r < f → r < f' → a < m → b < m → ∃ v, fxX6_far_59 N rec f w p (Int32.ofNat a) (Int32.ofNat b) (Int32.ofNat i) (Int32.ofNat k) (hC C) = some (hC C, v) ∧ mxX7_far_47 N rec' f' w (Int32.ofNat a) (Int32.ofNat b) (Int32.ofNat i) (Int32.ofNat k) s = some (s, v) := by
  obtain ⟨p3, -⟩ := pt_sh n2
  intro r
  induction r with
  | zero =>
    intro k f f' a b hk hf hf' ha hb
    obtain ⟨f1, rfl⟩ : ∃ f1, f = f1 + 1 := ⟨f - 1, by omega⟩
    obtain ⟨f2, rfl⟩ : ∃ f2, f' = f2 + 1 := ⟨f' - 1, by omega⟩
    have e : k = m := by omega
    subst e
    rw [fxX6_far_59, gI_3_0 p3, Option.bind_some, h5, if_pos (Int32.le_refl _), mxX7_far_47, hO.1, if_pos (Int32.le_refl _), i_s]
    exact hr a b ha hb
  | succ r ih =>
    intro k f f' a b hk hf hf' ha hb
    obtain ⟨f1, rfl⟩ : ∃ f1, f = f1 + 1 := ⟨f - 1, by omega⟩
    obtain ⟨f2, rfl⟩ : ∃ f2, f' = f2 + 1 := ⟨f' - 1, by omega⟩
    have ne : ¬ (Int32.ofNat m ≤ Int32.ofNat k) := by
      rw [i_le (by omega) (by omega)]
      omega
    obtain ⟨v1, e1, t1, -⟩ := c_sq2 (N := N) (s := C) n2 (show i < 24 by omega) (show k < 24 by omega) (h9 i hi) (h9 k (by omega))
    obtain ⟨v2, e2, t2, -⟩ := c_sq2 (N := N) (s := C) n2 (show a < 24 by omega) (show b < 24 by omega) (h9 a ha) (h9 b hb)
    obtain ⟨u1, g1, q1⟩ := x_apartOf (N := N) (p := i) (q := k) (s := s) (by omega) (by omega) (hO.2.1 i hi) (hO.2.1 k (by omega))
    obtain ⟨u2, g2, q2⟩ := x_apartOf (N := N) (p := a) (q := b) (s := s) (by omega) (by omega) (hO.2.1 a ha) (hO.2.1 b hb)
    rw [hp7 i hi, hp7 k (by omega)] at q1
    rw [hp7 a ha, hp7 b hb] at q2
    have iff : (v1 ≤ v2) ↔ ¬ (u2 < u1) := by
      rw [Int32.le_iff_toInt_le, Int64.lt_iff_toInt_lt, t1, t2, q1.1, q2.1]
      exact Int.not_lt.symm
    have cl : fxX6_far_59 N rec (f1 + 1) w p (Int32.ofNat a) (Int32.ofNat b) (Int32.ofNat i) (Int32.ofNat k) (hC C) = if v1 ≤ v2 then fxX6_far_59 N rec f1 w p (Int32.ofNat a) (Int32.ofNat b) (Int32.ofNat i) (Int32.ofNat (k + 1)) (hC C) else fxX6_far_59 N rec f1 w p (Int32.ofNat i) (Int32.ofNat k) (Int32.ofNat i) (Int32.ofNat (k + 1)) (hC C) := by
      rw [fxX6_far_59, gI_3_0 p3, Option.bind_some, h5, if_neg ne, kO_3 p3, Option.bind_some, e1, Option.bind_some]
      refine bndE (kO_3 p3) (bndE e2 ?_)
      unfold fxX6_far_95
      rw [i_s]
    have rf : mxX7_far_47 N rec' (f2 + 1) w (Int32.ofNat a) (Int32.ofNat b) (Int32.ofNat i) (Int32.ofNat k) s = if u2 < u1 then mxX7_far_47 N rec' f2 w (Int32.ofNat i) (Int32.ofNat k) (Int32.ofNat i) (Int32.ofNat (k + 1)) s else mxX7_far_47 N rec' f2 w (Int32.ofNat a) (Int32.ofNat b) (Int32.ofNat i) (Int32.ofNat (k + 1)) s := by
      rw [mxX7_far_47, hO.1, if_neg ne, g1, Option.bind_some]
      dsimp only
      rw [g2, Option.bind_some]
      dsimp only
      unfold mxX7_far_85
      rw [i_s]
    rw [cl, rf]
    by_cases c : u2 < u1
    · rw [if_pos c, if_neg (fun q => iff.mp q c)]
      exact ih (k + 1) f1 f2 i k (by omega) (by omega) (by omega) hi (by omega)
    · rw [if_neg c, if_pos (iff.mpr c)]
      exact ih (k + 1) f1 f2 a b (by omega) (by omega) (by omega) ha hb
theorem fr_44 {N p m : Nat} {w : Int32} {C : cS} {s : mS} (hN : 600 < N) (n2 : shp p = (3, 24)) (m24 : m ≤ 24) (h5 : qI C p 0 = Int32.ofNat m) (h9 : ∀ j, j < m → bd3 (pc C p j) 100) (hO : hpO s m) (hp7 : ∀ j, j < m → hp s j = pc C p j) : ∀ (r i f f' a b : Nat), i + r = m → r < f → r < f' → a < m → b < m → ∃ v, fxX6_far_44 N f w p (Int32.ofNat a) (Int32.ofNat b) (Int32.ofNat i) (hC C) = some (hC C, v) ∧ mxX7_far_32 N f' w (Int32.ofNat a) (Int32.ofNat b) (Int32.ofNat i) s = some (s, v) := by
  obtain ⟨p3, -⟩ := pt_sh n2
  intro r
  induction r with
  | zero =>
    intro i f f' a b hi hf hf' ha hb
    obtain ⟨f1, rfl⟩ : ∃ f1, f = f1 + 1 := ⟨f - 1, by omega⟩
    obtain ⟨f2, rfl⟩ : ∃ f2, f' = f2 + 1 := ⟨f' - 1, by omega⟩
    have e : i = m := by omega
    subst e
    obtain ⟨v2, e2, t2, -⟩ := c_sq2 (N := N) (s := C) n2 (show a < 24 by omega) (show b < 24 by omega) (h9 a ha) (h9 b hb)
    obtain ⟨u2, g2, q2⟩ := x_apartOf (N := N) (p := a) (q := b) (s := s) (by omega) (by omega) (hO.2.1 a ha) (hO.2.1 b hb)
    rw [hp7 a ha, hp7 b hb] at q2
    have uv : u2.toInt32 = v2 := t32 (q2.1.trans t2.symm)
    rw [fxX6_far_44, gI_3_0 p3, Option.bind_some, h5, if_pos (Int32.le_refl _), mxX7_far_32, hO.1, if_pos (Int32.le_refl _)]
    by_cases w0 : w = 0
    · rw [if_pos w0, if_pos w0]
      exact ⟨_, rfl, rfl⟩
    · rw [if_neg w0, if_neg w0]
      by_cases w1 : w = 1
      · rw [if_pos w1, if_pos w1]
        exact ⟨_, rfl, rfl⟩
      · rw [if_neg w1, if_neg w1]
        by_cases w2 : w = 2
        · rw [if_pos w2, if_pos w2]
          refine ⟨v2, bndE (kO_3 p3) (bndE e2 rfl), bndE g2 ?_⟩
          show some (s, u2.toInt32) = some (s, v2)
          rw [uv]
        · rw [if_neg w2, if_neg w2]
          exact ⟨_, rfl, rfl⟩
  | succ r ih =>
    intro i f f' a b hi hf hf' ha hb
    obtain ⟨f1, rfl⟩ : ∃ f1, f = f1 + 1 := ⟨f - 1, by omega⟩
    obtain ⟨f2, rfl⟩ : ∃ f2, f' = f2 + 1 := ⟨f' - 1, by omega⟩
    have ne : ¬ (Int32.ofNat m ≤ Int32.ofNat i) := by
      rw [i_le (by omega) (by omega)]
      omega
    rw [fxX6_far_44, gI_3_0 p3, Option.bind_some, h5, if_neg ne, mxX7_far_32, hO.1, if_neg ne, i_s]
    exact fr_59 n2 m24 h5 h9 hO hp7 (show i < m by omega) (fun a b ha hb => ih (i + 1) f1 f2 a b (by omega) (by omega) (by omega) ha hb) (m - (i + 1)) (i + 1) N N a b (by omega) (by omega) (by omega) ha hb
theorem sv_far {N : Nat} {C : cS} {s : mS} (hN : 4611686018427387904 < N) (j : JK C s) (a w : Int32) : ∃ C' v o, fxX6_far N 0 a w (hC C) = some (hC C', v) ∧ mxX7_far N a w s = some o ∧ v = o.2 ∧ JK C' o.1 := by
  have j' := j
  obtain ⟨bo, xx, cc, jx⟩ := j
  have ci := jx.1
  rcases slot_or a with ha | ⟨i, hi, rfl⟩
  · refine ⟨C, -1, (s, -1), ?_, ?_, rfl, j'⟩
    · unfold fxX6_far
      rw [slot_no ha, Option.bind_some]
      rfl
    · unfold mxX7_far
      rw [solid_no ha, Option.bind_some]
      rfl
  · obtain ⟨m, k1, m24, -, h3, h4, h5, h6, h7⟩ := jx.2.2.2.2.2.1 i hi
    obtain ⟨hb, -, b0, n2⟩ := bodyOf ci hi
    obtain ⟨p3, -⟩ := pt_sh n2
    obtain ⟨n, n1, -, n3, n4, -⟩ := row_b ci (show 1 + i < 17 by omega)
    have nm : n = m := i_inj (by omega) (by omega) (n3.symm.trans h5)
    subst nm
    obtain ⟨ko, ok⟩ := slot_ok jx.2.1 hi h3 m24
    have l2 : ((2 : Int32) ≤ Int32.ofNat n) = (2 ≤ n) := i_le (a := 2) (b := n) (by omega) (by omega)
    by_cases c : 2 ≤ n
    · obtain ⟨s1, e1, sm1, O1, hpe⟩ := x_loadsO (N := N) (by omega) hi h3 ok
      obtain ⟨v, q1, q2⟩ := fr_44 (N := N) (w := w) (C := C) (s := s1) (by omega) n2 m24 h5 n4 O1 (fun t ht => (hpe t ht).trans (h7 t ht).symm) n 0 N N 0 1 (by omega) (by omega) (by omega) (by omega) (by omega)
      refine ⟨C, v, (s1, v), ?_, ?_, rfl, JK_read j' cf.rf ((smH_fr sm1).fi (by decide))⟩
      · unfold fxX6_far
        rw [slot_in hi, Option.bind_some]
        dsimp only
        rw [if_neg no1]
        refine bndE (gR_6_2 x06) (bndE (aR3 hi (ci.1.2.1 i hi)) (bndE (gR_0_1 b0) (bndE (gI_3_0 p3) ?_)))
        rw [h5, if_pos (by rw [l2]; exact c)]
        exact bndE (gR_6_2 x06) (bndE (aR3 hi (ci.1.2.1 i hi)) (bndE (gR_0_1 b0) q1))
      · unfold mxX7_far
        rw [solid_in hi, Option.bind_some]
        dsimp only
        rw [if_neg no1, x8 rfl hi, Option.bind_some, h3, if_pos (by rw [l2]; exact c), e1, Option.bind_some]
        exact q2
    · refine ⟨C, -1, (s, -1), ?_, ?_, rfl, j'⟩
      · unfold fxX6_far
        rw [slot_in hi, Option.bind_some]
        dsimp only
        rw [if_neg no1]
        refine bndE (gR_6_2 x06) (bndE (aR3 hi (ci.1.2.1 i hi)) (bndE (gR_0_1 b0) (bndE (gI_3_0 p3) ?_)))
        rw [h5, if_neg (by rw [l2]; exact c)]
      · unfold mxX7_far
        rw [solid_in hi, Option.bind_some]
        dsimp only
        rw [if_neg no1, x8 rfl hi, Option.bind_some, h3, if_neg (by rw [l2]; exact c)]
