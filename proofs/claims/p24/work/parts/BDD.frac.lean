theorem fr_0 (lt lb rt rb q : Int) : rb * (lt - lb * q) - lb * (rt - rb * q) = lt * rb - rt * lb := by grind
/-- two fractions with the same whole part -/
theorem fr_same {lt lb rt rb : Int} (h : lt / lb = rt / rb) : lt * rb - rt * lb = rb * (lt % lb) - lb * (rt % rb) := by
  have e1 := Int.emod_def lt lb
  have e2 := Int.emod_def rt rb
  rw [e1, e2, h]
  exact (fr_0 _ _ _ _ _).symm
theorem fr_1 (lb rb q : Int) : lb * q * rb = rb * q * lb := by grind
theorem fr_lt {lt lb rt rb : Int} (hl : 0 < lb) (hr : 0 < rb) (h : lt / lb < rt / rb) : lt * rb < rt * lb := by
  have m1 := Int.emod_def lt lb
  have m2 := Int.emod_def rt rb
  have l1 := Int.emod_lt_of_pos lt hl
  have l2 := Int.emod_nonneg rt (show rb ≠ 0 by omega)
  have a2 : lb * (lt / lb + 1) ≤ lb * (rt / rb) := Int.mul_le_mul_of_nonneg_left (by omega) (by omega)
  rw [Int.mul_add, Int.mul_one] at a2
  have b1 : lt * rb < lb * (rt / rb) * rb := Int.mul_lt_mul_of_pos_right (by omega) hr
  have b2 : rb * (rt / rb) * lb ≤ rt * lb := Int.mul_le_mul_of_nonneg_right (by omega) (by omega)
  rw [fr_1] at b1
  omega
theorem ite_iff {P Q : Prop} [Decidable P] [Decidable Q] {a b : Int32} (h : P ↔ Q) : (if P then a else b) = if Q then a else b := by
  by_cases c : P
  · rw [if_pos c, if_pos (h.mp c)]
  · rw [if_neg c, if_neg (fun q => c (h.mpr q))]
theorem c_ia106 {N : Nat} {a b : Int64} {h : mh} : fxX4_isAbove_106 N a b h = some (h, if b.toInt < a.toInt then 1 else 0) := by
  unfold fxX4_isAbove_106
  by_cases c : a ≤ b
  · rw [if_pos c, if_neg (by rw [Int64.le_iff_toInt_le] at c; omega)]
  · rw [if_neg c, if_pos (by rw [Int64.le_iff_toInt_le] at c; omega)]
/-- one round of isAbove -/
theorem ia_step {N f c : Nat} {lt lb rt rb : Int64} {h : mh} (h1 : 0 ≤ lt.toInt) (h2 : 0 < lb.toInt) (h3 : 0 ≤ rt.toInt) (h4 : 0 < rb.toInt) (hc : c < 100000) : (fxX4_isAbove_21 N (f + 1) lt lb rt rb (Int32.ofNat c) h = some (h, if rt.toInt * lb.toInt < lt.toInt * rb.toInt then 1 else 0)) ∨ ∃ lr rr : Int64, lr.toInt = lt.toInt % lb.toInt ∧ rr.toInt = rt.toInt % rb.toInt ∧ 0 < lr.toInt ∧ 0 < rr.toInt ∧ fxX4_isAbove_21 N (f + 1) lt lb rt rb (Int32.ofNat c) h = fxX4_isAbove_21 N f rb rr lb lr (Int32.ofNat (c + 1)) h ∧ (rt.toInt * lb.toInt < lt.toInt * rb.toInt ↔ lb.toInt * rr.toInt < rb.toInt * lr.toInt) := by
  obtain ⟨r1, d1⟩ := rem64 h1 h2
  obtain ⟨r2, d2⟩ := rem64 h3 h4
  have n1 : ¬ (lb ≤ 0) := by rw [pos64.1]; omega
  have n2 : ¬ (rb ≤ 0) := by rw [pos64.1]; omega
  have z1 : ¬ (lb = 0) := by rw [pos64.2]; omega
  have z2 : ¬ (rb = 0) := by rw [pos64.2]; omega
  have m1 := Int.emod_nonneg lt.toInt (show lb.toInt ≠ 0 by omega)
  have m2 := Int.emod_nonneg rt.toInt (show rb.toInt ≠ 0 by omega)
  have st : fxX4_isAbove_21 N (f + 1) lt lb rt rb (Int32.ofNat c) h = if (lt / lb) = (rt / rb) then (if (lt - lt / lb * lb) = (0 : Int64) then fxX4_isAbove_106 N (lt - lt / lb * lb) (rt - rt / rb * rb) h else (if (rt - rt / rb * rb) = (0 : Int64) then fxX4_isAbove_106 N (lt - lt / lb * lb) (rt - rt / rb * rb) h else fxX4_isAbove_21 N f rb (rt - rt / rb * rb) lb (lt - lt / lb * lb) (Int32.ofNat c + 1) h)) else (if (lt / lb) ≤ (rt / rb) then some (h, (0 : Int32)) else some (h, (1 : Int32))) := by
    rw [fxX4_isAbove_21, if_neg (n100 hc), if_neg n1, if_neg n2, if_neg z1, if_neg z2, if_neg z1, if_neg z2]
  rw [st]
  by_cases e : lt / lb = rt / rb
  · rw [if_pos e]
    have fs := fr_same (show lt.toInt / lb.toInt = rt.toInt / rb.toInt by rw [← d1, ← d2, e])
    by_cases a1 : lt - lt / lb * lb = 0
    · rw [if_pos a1, c_ia106, r1, r2]
      rw [pos64.2, r1] at a1
      left
      have p : 0 ≤ lb.toInt * (rt.toInt % rb.toInt) := Int.mul_nonneg (by omega) m2
      rw [a1, Int.mul_zero] at fs
      rw [a1, if_neg (by omega), if_neg (by omega)]
    · rw [if_neg a1]
      rw [pos64.2, r1] at a1
      have p1 : 0 < rb.toInt * (lt.toInt % lb.toInt) := Int.mul_pos h4 (by omega)
      by_cases a2 : rt - rt / rb * rb = 0
      · rw [if_pos a2, c_ia106, r1, r2]
        rw [pos64.2, r2] at a2
        left
        rw [a2, Int.mul_zero] at fs
        rw [a2, if_pos (by omega), if_pos (by omega)]
      · rw [if_neg a2]
        rw [pos64.2, r2] at a2
        right
        refine ⟨lt - lt / lb * lb, rt - rt / rb * rb, r1, r2, by omega, by omega, by rw [i_s], ?_⟩
        rw [r1, r2]
        omega
  · rw [if_neg e]
    left
    by_cases l : lt / lb ≤ rt / rb
    · rw [if_pos l]
      rw [Int64.le_iff_toInt_le, d1, d2] at l
      have ne : lt.toInt / lb.toInt ≠ rt.toInt / rb.toInt := fun q => e (Int64.toInt_inj.mp (by rw [d1, d2, q]))
      have := fr_lt h2 h4 (show lt.toInt / lb.toInt < rt.toInt / rb.toInt by omega)
      rw [if_neg (by omega)]
    · rw [if_neg l]
      rw [Int64.le_iff_toInt_le, d1, d2] at l
      have := fr_lt h4 h2 (show rt.toInt / rb.toInt < lt.toInt / lb.toInt by omega)
      rw [if_pos this]
/-- isAbove: which of two fractions is more; each two rounds halve what is below the line -/
theorem c_ia {N : Nat} {h : mh} : ∀ (k f c : Nat) (lt lb rt rb : Int64), 0 ≤ lt.toInt → 0 < lb.toInt → lb.toInt < 2 ^ k → 0 ≤ rt.toInt → 0 < rb.toInt → 2 * k + 1 ≤ f → c + 2 * k + 1 < 100000 → fxX4_isAbove_21 N f lt lb rt rb (Int32.ofNat c) h = some (h, if rt.toInt * lb.toInt < lt.toInt * rb.toInt then 1 else 0) := by
  intro k
  induction k with
  | zero =>
    intro f c lt lb rt rb h1 h2 h2' h3 h4 hf hc
    have e : (2 : Int) ^ 0 = 1 := rfl
    omega
  | succ k ih =>
    intro f c lt lb rt rb h1 h2 h2' h3 h4 hf hc
    obtain ⟨f', rfl⟩ : ∃ f', f = f' + 1 + 1 := ⟨f - 2, by omega⟩
    have e : (2 : Int) ^ (k + 1) = 2 * 2 ^ k := by rw [Int.pow_succ, Int.mul_comm]
    rw [e] at h2'
    rcases ia_step (N := N) (f := f' + 1) (c := c) (h := h) h1 h2 h3 h4 (by omega) with q | ⟨lr, rr, e1, e2, p1, p2, q, i1⟩
    · exact q
    · rw [q, ite_iff i1]
      rcases ia_step (N := N) (f := f') (c := c + 1) (lt := rb) (lb := rr) (rt := lb) (rb := lr) (h := h) (by omega) p2 (by omega) p1 (by omega) with q | ⟨lr', rr', e1', e2', p1', p2', q, i2⟩
      · exact q
      · have l1 := Int.emod_lt_of_pos lt.toInt h2
        have hm := half_mod (y := lb.toInt) (r := lr.toInt) p1 (by omega)
        rw [q, ite_iff i2]
        exact ih f' (c + 1 + 1) lr rr' rr lr' (by omega) p2' (by omega) (by omega) p1' (by omega) (by omega)
theorem c_isAbove {N p : Nat} {x y : Int64} {s : cS} (hN : 100000 < N) (h4 : (shp p).1 = 4) (t0 : 0 ≤ (qJ s p 0).toInt) (u0 : 0 < (qJ s p 1).toInt) (x0 : 0 ≤ x.toInt) (y0 : 0 < y.toInt) : fxX4_isAbove N p x y (hC s) = some (hC s, if x.toInt * (qJ s p 1).toInt < (qJ s p 0).toInt * y.toInt then 1 else 0) := by
  have l := Int64.toInt_lt (qJ s p 1)
  unfold fxX4_isAbove
  exact bndE (gJ_4_0 h4) (bndE (gJ_4_1 h4) (c_ia 63 N 0 _ _ _ _ t0 u0 (by omega) x0 y0 (by omega) (by omega)))
/-- the reference's comparing of fractions -/
theorem m_f90 {N : Nat} {a b : Int64} {w : Int32} {s : mS} : mxX7_fractions_90 N a b w s = some (s, if a = b then 0 else if a = 0 then -w else w) := by
  unfold mxX7_fractions_90
  by_cases c : a = b
  · rw [if_pos c, if_pos c]
  · rw [if_neg c, if_neg c]
    by_cases d : a = 0
    · rw [if_pos d, if_pos d]
    · rw [if_neg d, if_neg d]
theorem ite3 {P Q : Prop} [Decidable P] [Decidable Q] {A B : Prop} [Decidable A] [Decidable B] {a b c : Int32} (h : P ↔ A) (g : Q ↔ B) : (if P then a else if Q then b else c) = if A then a else if B then b else c := by
  by_cases p : P
  · rw [if_pos p, if_pos (h.mp p)]
  · rw [if_neg p, if_neg (fun q => p (h.mpr q)), ite_iff g]
theorem m_f17 {N : Nat} {s : mS} : ∀ (Y f : Nat) (p q r t : Int64) (w : Int32), q.toInt = (Y : Int) → 0 < Y → Y < f → 0 ≤ p.toInt → 0 ≤ r.toInt → 0 < t.toInt → mxX7_fractions_17 N f p q r t w s = some (s, if r.toInt * q.toInt < p.toInt * t.toInt then w else if p.toInt * t.toInt < r.toInt * q.toInt then -w else 0) := by
  intro Y
  induction Y using Nat.strongRecOn with
  | ind Y ih =>
    intro f p q r t w hq hY hf h1 h3 h4
    obtain ⟨f', rfl⟩ : ∃ f', f = f' + 1 := ⟨f - 1, by omega⟩
    have h2 : 0 < q.toInt := by omega
    obtain ⟨r1, d1⟩ := rem64 h1 h2
    obtain ⟨r2, d2⟩ := rem64 h3 h4
    have z1 : ¬ (q = 0) := by rw [pos64.2]; omega
    have z2 : ¬ (t = 0) := by rw [pos64.2]; omega
    have m1 := Int.emod_nonneg p.toInt (show q.toInt ≠ 0 by omega)
    have m2 := Int.emod_nonneg r.toInt (show t.toInt ≠ 0 by omega)
    have l1 := Int.emod_lt_of_pos p.toInt h2
    rw [mxX7_fractions_17, if_neg z1, if_neg z2]
    by_cases e : p / q = r / t
    · rw [if_pos e]
      have fs := fr_same (show p.toInt / q.toInt = r.toInt / t.toInt by rw [← d1, ← d2, e])
      by_cases a1 : p - p / q * q = 0
      · rw [if_pos a1, m_f90, if_pos a1]
        have a1' := a1
        rw [pos64.2, r1] at a1'
        rw [a1', Int.mul_zero] at fs
        by_cases a2 : r - r / t * t = 0
        · have a2' := a2
          rw [pos64.2, r2] at a2'
          rw [a2', Int.mul_zero] at fs
          rw [if_pos (by rw [a1, a2]), if_neg (by omega), if_neg (by omega)]
        · have a2' := a2
          rw [pos64.2, r2] at a2'
          have p1 : 0 < q.toInt * (r.toInt % t.toInt) := Int.mul_pos h2 (by omega)
          rw [if_neg (fun z => a2 (by rw [← z]; exact a1)), if_neg (by omega), if_pos (by omega)]
      · rw [if_neg a1]
        have a1' := a1
        rw [pos64.2, r1] at a1'
        have p1 : 0 < t.toInt * (p.toInt % q.toInt) := Int.mul_pos h4 (by omega)
        by_cases a2 : r - r / t * t = 0
        · rw [if_pos a2, m_f90, if_neg a1]
          have a2' := a2
          rw [pos64.2, r2] at a2'
          rw [a2', Int.mul_zero] at fs
          rw [if_neg (fun z => a1 (by rw [z]; exact a2)), if_pos (by omega)]
        · rw [if_neg a2]
          have a2' := a2
          rw [pos64.2, r2] at a2'
          rw [ih (p.toInt % q.toInt).toNat (by omega) f' q (p - p / q * q) t (r - r / t * t) (-w) (by rw [r1]; omega) (by omega) (by omega) (by omega) (by omega) (by rw [r2]; omega), r1, r2, Int32.neg_neg]
          by_cases c1 : r.toInt * q.toInt < p.toInt * t.toInt
          · rw [if_pos c1, if_neg (by omega), if_pos (by omega)]
          · rw [if_neg c1]
            by_cases c2 : p.toInt * t.toInt < r.toInt * q.toInt
            · rw [if_pos c2, if_pos (by omega)]
            · rw [if_neg c2, if_neg (by omega), if_neg (by omega)]
    · rw [if_neg e]
      by_cases l : p / q ≤ r / t
      · rw [if_pos l]
        rw [Int64.le_iff_toInt_le, d1, d2] at l
        have ne : p.toInt / q.toInt ≠ r.toInt / t.toInt := fun z => e (Int64.toInt_inj.mp (by rw [d1, d2, z]))
        have := fr_lt h2 h4 (show p.toInt / q.toInt < r.toInt / t.toInt by omega)
        rw [if_neg (by omega), if_pos this]
      · rw [if_neg l]
        rw [Int64.le_iff_toInt_le, d1, d2] at l
        have := fr_lt h4 h2 (show r.toInt / t.toInt < p.toInt / q.toInt by omega)
        rw [if_pos this]
/-- in lowest terms -/
theorem low_of {g X Y : Int} (h : gc g X Y) (g0 : 0 < g) : X * (Y / g) = X / g * Y ∧ gc 1 (X / g) (Y / g) ∧ X = g * (X / g) ∧ Y = g * (Y / g) := by
  obtain ⟨-, -, ⟨i, j, e⟩, d1, d2⟩ := h
  have e1 := Int.mul_ediv_cancel' d1
  have e2 := Int.mul_ediv_cancel' d2
  refine ⟨?_, ⟨by decide, fun h => absurd h (by decide), ⟨i, j, ?_⟩, Int.one_dvd _, Int.one_dvd _⟩, e1.symm, e2.symm⟩
  · generalize X / g = a at *
    generalize Y / g = b at *
    rw [← e1, ← e2]
    grind
  · generalize X / g = a at *
    generalize Y / g = b at *
    rw [← e1, ← e2] at e
    have k : g * 1 = g * (i * a + j * b) := by grind
    exact Int.eq_of_mul_eq_mul_left (by omega) k
