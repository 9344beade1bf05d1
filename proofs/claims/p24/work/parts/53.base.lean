theorem bm {x : Int} (h : x.natAbs < 9223372036854775808) : Int.bmod x (2 ^ 64) = x := by
  have e : (((2 ^ 64 : Nat)) : Int) = 18446744073709551616 := rfl
  apply Int.bmod_eq_of_le
  · rw [e]
    omega
  · rw [e]
    omega
/-- a long that holds x, at most B off 0 -/
def bv (a : Int64) (x : Int) (B : Nat) : Prop := a.toInt = x ∧ x.natAbs ≤ B
theorem bv_add {a b : Int64} {x y : Int} {A B : Nat} (ha : bv a x A) (hb : bv b y B) (h : A + B < 9223372036854775808) : bv (a + b) (x + y) (A + B) := by
  have h1 := ha.2
  have h2 := hb.2
  have h3 : (x + y).natAbs ≤ A + B := by omega
  refine ⟨?_, h3⟩
  rw [Int64.toInt_add, ha.1, hb.1]
  exact bm (by omega)
theorem bv_sub {a b : Int64} {x y : Int} {A B : Nat} (ha : bv a x A) (hb : bv b y B) (h : A + B < 9223372036854775808) : bv (a - b) (x - y) (A + B) := by
  have h1 := ha.2
  have h2 := hb.2
  have h3 : (x - y).natAbs ≤ A + B := by omega
  refine ⟨?_, h3⟩
  rw [Int64.toInt_sub, ha.1, hb.1]
  exact bm (by omega)
theorem bv_mul {a b : Int64} {x y : Int} {A B : Nat} (ha : bv a x A) (hb : bv b y B) (h : A * B < 9223372036854775808) : bv (a * b) (x * y) (A * B) := by
  have h3 : (x * y).natAbs ≤ A * B := by
    rw [Int.natAbs_mul]
    exact Nat.mul_le_mul ha.2 hb.2
  refine ⟨?_, h3⟩
  rw [Int64.toInt_mul, ha.1, hb.1]
  exact bm (by omega)
theorem bv_neg {a : Int64} {x : Int} {A : Nat} (ha : bv a x A) (h : A < 9223372036854775808) : bv (-a) (-x) A := by
  have h1 := ha.2
  refine ⟨?_, by omega⟩
  rw [Int64.toInt_neg, ha.1]
  exact bm (by omega)
theorem bv_le {a : Int64} {x : Int} {A B : Nat} (ha : bv a x A) (h : A ≤ B) : bv a x B := ⟨ha.1, Nat.le_trans ha.2 h⟩
theorem rG_N {s : mS} {k j : Nat} (h : j < aN k) (hk : aN k < 2147483648) : rG s k (Int32.ofNat j) = some (s.2.2.2 k j) := by
  unfold rG
  rw [if_neg (i_nb h hk), i_tn (by omega)]
/-- a point of the heap; the way across -/
def hp (s : mS) (k : Nat) : V3 := ((s.2.2.2 16 k).toInt, (s.2.2.2 17 k).toInt, (s.2.2.2 18 k).toInt)
def nv (s : mS) : V3 := ((s.2.1 24).toInt, (s.2.1 25).toInt, (s.2.1 26).toInt)
def bd3 (v : V3) (B : Nat) : Prop := v.1.natAbs ≤ B ∧ v.2.1.natAbs ≤ B ∧ v.2.2.natAbs ≤ B
/-- only the way across has changed -/
def smN (s s' : mS) : Prop := s'.1 = s.1 ∧ s'.2.2 = s.2.2 ∧ ∀ k, ¬ k = 24 → ¬ k = 25 → ¬ k = 26 → s'.2.1 k = s.2.1 k
theorem h16 {k : Nat} (h : k < 600) (s : mS) : rG s 16 (Int32.ofNat k) = some (s.2.2.2 16 k) := rG_N (k := 16) h (by decide)
theorem h17 {k : Nat} (h : k < 600) (s : mS) : rG s 17 (Int32.ofNat k) = some (s.2.2.2 17 k) := rG_N (k := 17) h (by decide)
theorem h18 {k : Nat} (h : k < 600) (s : mS) : rG s 18 (Int32.ofNat k) = some (s.2.2.2 18 k) := rG_N (k := 18) h (by decide)
theorem b16 {s : mS} {k B : Nat} (h : bd3 (hp s k) B) : bv (s.2.2.2 16 k) (hp s k).1 B := ⟨rfl, h.1⟩
theorem b17 {s : mS} {k B : Nat} (h : bd3 (hp s k) B) : bv (s.2.2.2 17 k) (hp s k).2.1 B := ⟨rfl, h.2.1⟩
theorem b18 {s : mS} {k B : Nat} (h : bd3 (hp s k) B) : bv (s.2.2.2 18 k) (hp s k).2.2 B := ⟨rfl, h.2.2⟩
theorem x_across {N p q r : Nat} {s : mS} (hp6 : p < 600) (hq : q < 600) (hr : r < 600) (bp : bd3 (hp s p) 200) (bq : bd3 (hp s q) 200) (b_r : bd3 (hp s r) 200) : ∃ s', mxX7_across N (Int32.ofNat p) (Int32.ofNat q) (Int32.ofNat r) s = some s' ∧ nv s' = vx (vs (hp s q) (hp s p)) (vs (hp s r) (hp s p)) ∧ bd3 (nv s') 320000 ∧ smN s s' := by
  have d1 := bv_sub (b16 bq) (b16 bp) (by decide)
  have d2 := bv_sub (b17 bq) (b17 bp) (by decide)
  have d3 := bv_sub (b18 bq) (b18 bp) (by decide)
  have e1 := bv_sub (b16 b_r) (b16 bp) (by decide)
  have e2 := bv_sub (b17 b_r) (b17 bp) (by decide)
  have e3 := bv_sub (b18 b_r) (b18 bp) (by decide)
  have n1 := bv_sub (bv_mul d2 e3 (by decide)) (bv_mul d3 e2 (by decide)) (by decide)
  have n2 := bv_sub (bv_mul d3 e1 (by decide)) (bv_mul d1 e3 (by decide)) (by decide)
  have n3 := bv_sub (bv_mul d1 e2 (by decide)) (bv_mul d2 e1 (by decide)) (by decide)
  unfold mxX7_across
  simp only [h16 hp6, h17 hp6, h18 hp6, h16 hq, h17 hq, h18 hq, h16 hr, h17 hr, h18 hr, Option.bind_some]
  refine ⟨_, rfl, ?_, ?_, rfl, rfl, ?_⟩
  · exact v3_ext n1.1 n2.1 n3.1
  · refine ⟨?_, ?_, ?_⟩
    · show (((s.2.2.2 17 q - s.2.2.2 17 p) * (s.2.2.2 18 r - s.2.2.2 18 p) - (s.2.2.2 18 q - s.2.2.2 18 p) * (s.2.2.2 17 r - s.2.2.2 17 p)).toInt).natAbs ≤ 320000
      rw [n1.1]
      exact n1.2
    · show (((s.2.2.2 18 q - s.2.2.2 18 p) * (s.2.2.2 16 r - s.2.2.2 16 p) - (s.2.2.2 16 q - s.2.2.2 16 p) * (s.2.2.2 18 r - s.2.2.2 18 p)).toInt).natAbs ≤ 320000
      rw [n2.1]
      exact n2.2
    · show (((s.2.2.2 16 q - s.2.2.2 16 p) * (s.2.2.2 17 r - s.2.2.2 17 p) - (s.2.2.2 17 q - s.2.2.2 17 p) * (s.2.2.2 16 r - s.2.2.2 16 p)).toInt).natAbs ≤ 320000
      rw [n3.1]
      exact n3.2
  · intro k k1 k2 k3
    simp [pJ, vp_updL, k1, k2, k3]
theorem nb1 {s : mS} {B : Nat} (h : bd3 (nv s) B) : bv (s.2.1 24) (nv s).1 B := ⟨rfl, h.1⟩
theorem nb2 {s : mS} {B : Nat} (h : bd3 (nv s) B) : bv (s.2.1 25) (nv s).2.1 B := ⟨rfl, h.2.1⟩
theorem nb3 {s : mS} {B : Nat} (h : bd3 (nv s) B) : bv (s.2.1 26) (nv s).2.2 B := ⟨rfl, h.2.2⟩
theorem x_height {N p : Nat} {s : mS} (hp6 : p < 600) (bp : bd3 (hp s p) 200) (bn : bd3 (nv s) 320000) : ∃ v, mxX7_height N (Int32.ofNat p) s = some (s, v) ∧ bv v (vd (nv s) (hp s p)) 192000000 := by
  have t1 := bv_mul (nb1 bn) (b16 bp) (by decide)
  have t2 := bv_mul (nb2 bn) (b17 bp) (by decide)
  have t3 := bv_mul (nb3 bn) (b18 bp) (by decide)
  have t := bv_add (bv_add t1 t2 (by decide)) t3 (by decide)
  unfold mxX7_height
  simp only [h16 hp6, h17 hp6, h18 hp6, Option.bind_some]
  exact ⟨_, rfl, t⟩
theorem rk_1 (n1 n2 n3 c1 c2 c3 : Int) : c1 * n1 + c2 * n2 + c3 * n3 = n1 * c1 + n2 * c2 + n3 * c3 := by grind
theorem x_leftOf {N p q r : Nat} {s : mS} (hp6 : p < 600) (hq : q < 600) (hr : r < 600) (bp : bd3 (hp s p) 200) (bq : bd3 (hp s q) 200) (b_r : bd3 (hp s r) 200) (bn : bd3 (nv s) 320000) : ∃ v, mxX7_leftOf N (Int32.ofNat p) (Int32.ofNat q) (Int32.ofNat r) s = some (s, v) ∧ v.toInt = br (nv s) (hp s p) (hp s q) (hp s r) := by
  have d1 := bv_sub (b16 bq) (b16 bp) (by decide)
  have d2 := bv_sub (b17 bq) (b17 bp) (by decide)
  have d3 := bv_sub (b18 bq) (b18 bp) (by decide)
  have e1 := bv_sub (b16 b_r) (b16 bp) (by decide)
  have e2 := bv_sub (b17 b_r) (b17 bp) (by decide)
  have e3 := bv_sub (b18 b_r) (b18 bp) (by decide)
  have n1 := bv_mul (bv_sub (bv_mul d2 e3 (by decide)) (bv_mul d3 e2 (by decide)) (by decide)) (nb1 bn) (by decide)
  have n2 := bv_mul (bv_sub (bv_mul d3 e1 (by decide)) (bv_mul d1 e3 (by decide)) (by decide)) (nb2 bn) (by decide)
  have n3 := bv_mul (bv_sub (bv_mul d1 e2 (by decide)) (bv_mul d2 e1 (by decide)) (by decide)) (nb3 bn) (by decide)
  have t := bv_add (bv_add n1 n2 (by decide)) n3 (by decide)
  unfold mxX7_leftOf
  simp only [h16 hp6, h17 hp6, h18 hp6, h16 hq, h17 hq, h18 hq, h16 hr, h17 hr, h18 hr, Option.bind_some]
  refine ⟨_, rfl, t.1.trans ?_⟩
  exact rk_1 _ _ _ _ _ _
theorem x_apartOf {N p q : Nat} {s : mS} (hp6 : p < 600) (hq : q < 600) (bp : bd3 (hp s p) 200) (bq : bd3 (hp s q) 200) : ∃ v, mxX7_apartOf N (Int32.ofNat p) (Int32.ofNat q) s = some (s, v) ∧ bv v (vd (vs (hp s p) (hp s q)) (vs (hp s p) (hp s q))) 480000 := by
  have d1 := bv_sub (b16 bp) (b16 bq) (by decide)
  have d2 := bv_sub (b17 bp) (b17 bq) (by decide)
  have d3 := bv_sub (b18 bp) (b18 bq) (by decide)
  have t := bv_add (bv_add (bv_mul d1 d1 (by decide)) (bv_mul d2 d2 (by decide)) (by decide)) (bv_mul d3 d3 (by decide)) (by decide)
  unfold mxX7_apartOf
  simp only [h16 hp6, h17 hp6, h18 hp6, h16 hq, h17 hq, h18 hq, Option.bind_some]
  exact ⟨_, rfl, t⟩
theorem rk_2 (a b : Int) : (a - b) * (a - b) = (b - a) * (b - a) := by grind
theorem vd_swap (a b : V3) : vd (vs a b) (vs a b) = vd (vs b a) (vs b a) := by
  unfold vd vs
  show (a.1 - b.1) * (a.1 - b.1) + (a.2.1 - b.2.1) * (a.2.1 - b.2.1) + (a.2.2 - b.2.2) * (a.2.2 - b.2.2) = (b.1 - a.1) * (b.1 - a.1) + (b.2.1 - a.2.1) * (b.2.1 - a.2.1) + (b.2.2 - a.2.2) * (b.2.2 - a.2.2)
  rw [rk_2 a.1, rk_2 a.2.1, rk_2 a.2.2]
