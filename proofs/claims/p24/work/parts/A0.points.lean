/-- a point of a row p of the class -/
def pc (s : cS) (p j : Nat) : V3 := ((qA s (p + 1) j).toInt, (qA s (p + 2) j).toInt, (qA s (p + 3) j).toInt)
theorem sub32 {a b : Int32} (ha : a.toInt.natAbs ≤ 1000000) (hb : b.toInt.natAbs ≤ 1000000) : (a - b).toInt = a.toInt - b.toInt := by
  rw [Int32.toInt_sub]
  exact bm32 (by omega)
theorem bs32 {a b : Int32} {x y : Int} {A B : Nat} (ha : a.toInt = x) (hb : b.toInt = y) (bx : x.natAbs ≤ A) (bb : y.natAbs ≤ B) (h : A + B ≤ 1000000) : bv (a - b).toInt64 (x - y) (A + B) := by
  refine ⟨?_, by omega⟩
  rw [Int32.toInt_toInt64, sub32 (by omega) (by omega), ha, hb]
theorem bt32 {a : Int32} {x : Int} {A : Nat} (ha : a.toInt = x) (bx : x.natAbs ≤ A) : bv a.toInt64 x A := by
  refine ⟨?_, bx⟩
  rw [Int32.toInt_toInt64, ha]
section PTS
variable {N p n o i j k : Nat} {s : cS}
theorem c_acX (h : shp p = (3, n)) (hn : n < 2147483648) (ho : o < n) (hi : i < n) (hj : j < n) : ∃ v, fxX3_acrossX N p (Int32.ofNat o) (Int32.ofNat i) (Int32.ofNat j) (hC s) = some (hC s, v) ∧ (bd3 (pc s p o) 200 → bd3 (pc s p i) 200 → bd3 (pc s p j) 200 → bv v (vx (vs (pc s p i) (pc s p o)) (vs (pc s p j) (pc s p o))).1 320000) := by
  obtain ⟨h3, e1, e2, e3⟩ := pt_sh h
  unfold fxX3_acrossX
  simp only [gR_3_2 h3, gR_3_3 h3, Option.bind_some, aI_N e2 ho hn, aI_N e2 hi hn, aI_N e2 hj hn, aI_N e3 ho hn, aI_N e3 hi hn, aI_N e3 hj hn]
  refine ⟨_, rfl, fun b0 b1 b2 => ?_⟩
  exact bv_sub (bv_mul (bs32 rfl rfl b1.2.1 b0.2.1 (by decide)) (bs32 rfl rfl b2.2.2 b0.2.2 (by decide)) (by decide)) (bv_mul (bs32 rfl rfl b1.2.2 b0.2.2 (by decide)) (bs32 rfl rfl b2.2.1 b0.2.1 (by decide)) (by decide)) (by decide)
theorem c_acY (h : shp p = (3, n)) (hn : n < 2147483648) (ho : o < n) (hi : i < n) (hj : j < n) : ∃ v, fxX3_acrossY N p (Int32.ofNat o) (Int32.ofNat i) (Int32.ofNat j) (hC s) = some (hC s, v) ∧ (bd3 (pc s p o) 200 → bd3 (pc s p i) 200 → bd3 (pc s p j) 200 → bv v (vx (vs (pc s p i) (pc s p o)) (vs (pc s p j) (pc s p o))).2.1 320000) := by
  obtain ⟨h3, e1, e2, e3⟩ := pt_sh h
  unfold fxX3_acrossY
  simp only [gR_3_1 h3, gR_3_3 h3, Option.bind_some, aI_N e1 ho hn, aI_N e1 hi hn, aI_N e1 hj hn, aI_N e3 ho hn, aI_N e3 hi hn, aI_N e3 hj hn]
  refine ⟨_, rfl, fun b0 b1 b2 => ?_⟩
  exact bv_sub (bv_mul (bs32 rfl rfl b1.2.2 b0.2.2 (by decide)) (bs32 rfl rfl b2.1 b0.1 (by decide)) (by decide)) (bv_mul (bs32 rfl rfl b1.1 b0.1 (by decide)) (bs32 rfl rfl b2.2.2 b0.2.2 (by decide)) (by decide)) (by decide)
theorem c_acZ (h : shp p = (3, n)) (hn : n < 2147483648) (ho : o < n) (hi : i < n) (hj : j < n) : ∃ v, fxX3_acrossZ N p (Int32.ofNat o) (Int32.ofNat i) (Int32.ofNat j) (hC s) = some (hC s, v) ∧ (bd3 (pc s p o) 200 → bd3 (pc s p i) 200 → bd3 (pc s p j) 200 → bv v (vx (vs (pc s p i) (pc s p o)) (vs (pc s p j) (pc s p o))).2.2 320000) := by
  obtain ⟨h3, e1, e2, e3⟩ := pt_sh h
  unfold fxX3_acrossZ
  simp only [gR_3_1 h3, gR_3_2 h3, Option.bind_some, aI_N e1 ho hn, aI_N e1 hi hn, aI_N e1 hj hn, aI_N e2 ho hn, aI_N e2 hi hn, aI_N e2 hj hn]
  refine ⟨_, rfl, fun b0 b1 b2 => ?_⟩
  exact bv_sub (bv_mul (bs32 rfl rfl b1.1 b0.1 (by decide)) (bs32 rfl rfl b2.2.1 b0.2.1 (by decide)) (by decide)) (bv_mul (bs32 rfl rfl b1.2.1 b0.2.1 (by decide)) (bs32 rfl rfl b2.1 b0.1 (by decide)) (by decide)) (by decide)
theorem c_box (h : shp p = (3, n)) (hn : n < 2147483648) (ho : o < n) (hi : i < n) (hj : j < n) (hk : k < n) : ∃ v, fxX3_boxOf N p (Int32.ofNat o) (Int32.ofNat i) (Int32.ofNat j) (Int32.ofNat k) (hC s) = some (hC s, v) ∧ (bd3 (pc s p o) 200 → bd3 (pc s p i) 200 → bd3 (pc s p j) 200 → bd3 (pc s p k) 200 → bv v (vd (vx (vs (pc s p i) (pc s p o)) (vs (pc s p j) (pc s p o))) (vs (pc s p k) (pc s p o))) 384000000) := by
  obtain ⟨h3, e1, e2, e3⟩ := pt_sh h
  obtain ⟨v1, q1, b1⟩ := c_acX (N := N) (s := s) h hn ho hi hj
  obtain ⟨v2, q2, b2⟩ := c_acY (N := N) (s := s) h hn ho hi hj
  obtain ⟨v3, q3, b3⟩ := c_acZ (N := N) (s := s) h hn ho hi hj
  unfold fxX3_boxOf
  simp only [kO_3 h3, gR_3_1 h3, gR_3_2 h3, gR_3_3 h3, Option.bind_some, q1, q2, q3, aI_N e1 ho hn, aI_N e1 hk hn, aI_N e2 ho hn, aI_N e2 hk hn, aI_N e3 ho hn, aI_N e3 hk hn]
  refine ⟨_, rfl, fun x0 x1 x2 x3 => ?_⟩
  exact bv_add (bv_add (bv_mul (b1 x0 x1 x2) (bs32 rfl rfl x3.1 x0.1 (by decide)) (by decide)) (bv_mul (b2 x0 x1 x2) (bs32 rfl rfl x3.2.1 x0.2.1 (by decide)) (by decide)) (by decide)) (bv_mul (b3 x0 x1 x2) (bs32 rfl rfl x3.2.2 x0.2.2 (by decide)) (by decide)) (by decide)
/-- the height of a point, as the class reckons it -/
def hv (s : cS) (p : Nat) (mx my mz : Int64) (j : Nat) : Int64 := mx * (qA s (p + 1) j).toInt64 + my * (qA s (p + 2) j).toInt64 + mz * (qA s (p + 3) j).toInt64
theorem c_along {mx my mz : Int64} (h : shp p = (3, n)) (hn : n < 2147483648) (hj : j < n) : fxX3_along N p (Int32.ofNat j) mx my mz (hC s) = some (hC s, hv s p mx my mz j) := by
  obtain ⟨h3, e1, e2, e3⟩ := pt_sh h
  unfold fxX3_along hv
  simp only [gR_3_1 h3, gR_3_2 h3, gR_3_3 h3, Option.bind_some, aI_N e1 hj hn, aI_N e2 hj hn, aI_N e3 hj hn]
end PTS
theorem hv_bv {s : cS} {p j A B : Nat} {mx my mz : Int64} {m : V3} (h1 : bv mx m.1 A) (h2 : bv my m.2.1 A) (h3 : bv mz m.2.2 A) (hb : bd3 (pc s p j) B) (h : A * B + A * B + A * B < 9223372036854775808) : bv (hv s p mx my mz j) (vd m (pc s p j)) (A * B + A * B + A * B) := bv_dot h1 h2 h3 (bt32 rfl hb.1) (bt32 rfl hb.2.1) (bt32 rfl hb.2.2) h
/-- before another one by x, then y, then z -/
def lxl (a b : V3) : Prop := a.1 < b.1 ∨ a.1 = b.1 ∧ (a.2.1 < b.2.1 ∨ a.2.1 = b.2.1 ∧ a.2.2 < b.2.2)
theorem lxl_tr {a b c : V3} (h : lxl a b) (g : lxl b c) : lxl a c := by
  unfold lxl at *
  omega
theorem lxl_tri (a b : V3) : lxl a b ∨ lxl b a ∨ a = b := by
  by_cases c : lxl a b
  · exact .inl c
  · by_cases d : lxl b a
    · exact .inr (.inl d)
    · right
      right
      unfold lxl at *
      exact v3_ext (by omega) (by omega) (by omega)
/-- j isn't farther than b, nor as far and greater -/
def nfar (s : cS) (p : Nat) (mx my mz : Int64) (j b : Nat) : Prop := hv s p mx my mz j < hv s p mx my mz b ∨ hv s p mx my mz j = hv s p mx my mz b ∧ ¬ lxl (pc s p b) (pc s p j)
theorem nfar_rf {s : cS} {p : Nat} {mx my mz : Int64} {b : Nat} : nfar s p mx my mz b b := .inr ⟨rfl, by unfold lxl; omega⟩
theorem nfar_tr {s : cS} {p : Nat} {mx my mz : Int64} {a b c : Nat} (h : nfar s p mx my mz a b) (g : nfar s p mx my mz b c) : nfar s p mx my mz a c := by
  unfold nfar at *
  rw [Int64.lt_iff_toInt_lt, ← Int64.toInt_inj] at *
  rcases h with h | ⟨h1, h2⟩
  · rcases g with g | ⟨g1, g2⟩
    · exact .inl (by omega)
    · exact .inl (by omega)
  · rcases g with g | ⟨g1, g2⟩
    · exact .inl (by omega)
    · refine .inr ⟨by omega, fun q => ?_⟩
      rcases lxl_tri (pc s p b) (pc s p a) with w | w | w
      · exact h2 w
      · exact g2 (lxl_tr q w)
      · rw [w] at g2
        exact g2 q
theorem c_f38 {N p n k : Nat} {mx my mz : Int64} {s : cS} (h : shp p = (3, n)) (hn : n < 2147483648) (hk : qI s p 0 = Int32.ofNat k) (hkn : k ≤ n) : ∀ (q f j b : Nat), j + q = k → q < f → b < j → (∀ t, t < j → nfar s p mx my mz t b) → ∃ b', b' < k ∧ (∀ t, t < k → nfar s p mx my mz t b') ∧ fxX3_farthest_38 N f p mx my mz (Int32.ofNat b) (hv s p mx my mz b) (Int32.ofNat j) (hC s) = some (hC s, Int32.ofNat b') := by
  obtain ⟨h3, e1, e2, e3⟩ := pt_sh h
  intro q
  induction q with
  | zero =>
    intro f j b hj hf hb hm
    obtain ⟨f', rfl⟩ : ∃ f', f = f' + 1 := ⟨f - 1, by omega⟩
    have hjk : j = k := by omega
    subst hjk
    refine ⟨b, hb, hm, ?_⟩
    rw [fxX3_farthest_38, gI_3_0 h3, Option.bind_some, hk, if_pos (Int32.le_refl _)]
  | succ q ih =>
    intro f j b hj hf hb hm
    obtain ⟨f', rfl⟩ : ∃ f', f = f' + 1 := ⟨f - 1, by omega⟩
    have ne : ¬ (Int32.ofNat k ≤ Int32.ofNat j) := by
      rw [i_le (by omega) (by omega)]
      omega
    have hjn : j < n := by omega
    have hbn : b < n := by omega
    rw [fxX3_farthest_38]
    simp only [gI_3_0 h3, gR_3_1 h3, gR_3_2 h3, gR_3_3 h3, Option.bind_some, hk, if_neg ne, aI_N e1 hjn hn, aI_N e2 hjn hn, aI_N e3 hjn hn, aI_N e1 hbn hn, aI_N e2 hbn hn, aI_N e3 hbn hn]
    have ev : mx * (qA s (p + 1) j).toInt64 + my * (qA s (p + 2) j).toInt64 + mz * (qA s (p + 3) j).toInt64 = hv s p mx my mz j := rfl
    rw [ev]
    have keep : nfar s p mx my mz j b → ∃ b', b' < k ∧ (∀ t, t < k → nfar s p mx my mz t b') ∧ fxX3_farthest_219 N (fxX3_farthest_38 N f') p mx my mz (Int32.ofNat b) (hv s p mx my mz b) (Int32.ofNat j) (hC s) = some (hC s, Int32.ofNat b') := by
      intro w
      unfold fxX3_farthest_219
      rw [i_s]
      exact ih f' (j + 1) b (by omega) (by omega) (by omega) (fun t ht => by
        by_cases e : t = j
        · rw [e]
          exact w
        · exact hm t (by omega))
    have take : nfar s p mx my mz b j → ∃ b', b' < k ∧ (∀ t, t < k → nfar s p mx my mz t b') ∧ fxX3_farthest_211 N (fxX3_farthest_38 N f') p mx my mz (Int32.ofNat j) (hv s p mx my mz j) (hC s) = some (hC s, Int32.ofNat b') := by
      intro w
      unfold fxX3_farthest_211 fxX3_farthest_219
      rw [i_s]
      exact ih f' (j + 1) j (by omega) (by omega) (by omega) (fun t ht => by
        by_cases e : t = j
        · rw [e]
          exact nfar_rf
        · exact nfar_tr (hm t (by omega)) w)
    have fin : ∀ g : Int32, (g = 0 → ¬ lxl (pc s p b) (pc s p j)) → (g ≠ 0 → lxl (pc s p b) (pc s p j)) → ∃ b', b' < k ∧ (∀ t, t < k → nfar s p mx my mz t b') ∧ fxX3_farthest_188 N (fxX3_farthest_38 N f') p mx my mz (Int32.ofNat b) (hv s p mx my mz b) (Int32.ofNat j) (hv s p mx my mz j) g (hC s) = some (hC s, Int32.ofNat b') := by
      intro g g0 g1
      unfold fxX3_farthest_188
      by_cases c1 : hv s p mx my mz b < hv s p mx my mz j
      · rw [if_pos c1]
        exact take (.inl c1)
      · rw [if_neg c1]
        by_cases c2 : hv s p mx my mz j = hv s p mx my mz b
        · rw [if_pos c2]
          by_cases c3 : g = 0
          · rw [if_pos c3]
            exact keep (.inr ⟨c2, g0 c3⟩)
          · rw [if_neg c3]
            refine take (.inr ⟨c2.symm, fun w => ?_⟩)
            have := g1 c3
            unfold lxl at *
            omega
        · rw [if_neg c2]
          refine keep (.inl ?_)
          rw [Int64.lt_iff_toInt_lt] at c1 ⊢
          rw [← Int64.toInt_inj] at c2
          omega
    have t1 : ∀ a b : Int32, (a = b) = (a.toInt = b.toInt) := fun a b => propext Int32.toInt_inj.symm
    by_cases c1 : qA s (p + 1) j = qA s (p + 1) b
    · rw [if_pos c1]
      rw [t1] at c1
      by_cases c2 : qA s (p + 2) j = qA s (p + 2) b
      · rw [if_pos c2]
        rw [t1] at c2
        by_cases c3 : qA s (p + 3) j ≤ qA s (p + 3) b
        · rw [if_pos c3]
          rw [Int32.le_iff_toInt_le] at c3
          refine fin 0 (fun _ w => ?_) (fun w => absurd rfl w)
          unfold lxl pc at w
          simp only at w
          omega
        · rw [if_neg c3]
          rw [Int32.le_iff_toInt_le] at c3
          refine fin 1 (fun w => absurd w (by decide)) (fun _ => ?_)
          unfold lxl pc
          simp only
          omega
      · rw [if_neg c2]
        rw [t1] at c2
        by_cases c3 : qA s (p + 2) j ≤ qA s (p + 2) b
        · rw [if_pos c3]
          rw [Int32.le_iff_toInt_le] at c3
          refine fin 0 (fun _ w => ?_) (fun w => absurd rfl w)
          unfold lxl pc at w
          simp only at w
          omega
        · rw [if_neg c3]
          rw [Int32.le_iff_toInt_le] at c3
          refine fin 1 (fun w => absurd w (by decide)) (fun _ => ?_)
          unfold lxl pc
          simp only
          omega
    · rw [if_neg c1]
      rw [t1] at c1
      by_cases c3 : qA s (p + 1) j ≤ qA s (p + 1) b
      · rw [if_pos c3]
        rw [Int32.le_iff_toInt_le] at c3
        refine fin 0 (fun _ w => ?_) (fun w => absurd rfl w)
        unfold lxl pc at w
        simp only at w
        omega
      · rw [if_neg c3]
        rw [Int32.le_iff_toInt_le] at c3
        refine fin 1 (fun w => absurd w (by decide)) (fun _ => ?_)
        unfold lxl pc
        simp only
        omega
/-- farthest: the point that is farthest along m, of several the greatest -/
theorem c_farthest {N p n k : Nat} {mx my mz : Int64} {s : cS} (hN : 600 < N) (h : shp p = (3, n)) (hn : n < 600) (hk : qI s p 0 = Int32.ofNat k) (hkn : k ≤ n) (h1 : 1 ≤ k) : ∃ b, b < k ∧ (∀ t, t < k → nfar s p mx my mz t b) ∧ fxX3_farthest N p mx my mz (hC s) = some (hC s, Int32.ofNat b) := by
  obtain ⟨h3, e1, e2, e3⟩ := pt_sh h
  obtain ⟨b, b1, b2, b3⟩ := c_f38 (N := N) (mx := mx) (my := my) (mz := mz) h (by omega) hk hkn (k - 1) N 1 0 (by omega) (by omega) (by omega) (fun t ht => by
    have : t = 0 := by omega
    rw [this]
    exact nfar_rf)
  refine ⟨b, b1, b2, ?_⟩
  unfold fxX3_farthest
  simp only [gR_3_1 h3, gR_3_2 h3, gR_3_3 h3, Option.bind_some, aI_0 e1 (by omega) (by omega), aI_0 e2 (by omega) (by omega), aI_0 e3 (by omega) (by omega)]
  exact b3
/-- also of an empty row the place 0 -/
theorem c_farthest0 {N p n k : Nat} {mx my mz : Int64} {s : cS} (hN : 600 < N) (h : shp p = (3, n)) (hn : n < 600) (hk : qI s p 0 = Int32.ofNat k) (hkn : k ≤ n) (h1 : 1 ≤ n) : ∃ b, b < n ∧ fxX3_farthest N p mx my mz (hC s) = some (hC s, Int32.ofNat b) := by
  by_cases c : 1 ≤ k
  · obtain ⟨b, b1, -, b3⟩ := c_farthest (mx := mx) (my := my) (mz := mz) hN h hn hk hkn c
    exact ⟨b, by omega, b3⟩
  · obtain ⟨h3, e1, e2, e3⟩ := pt_sh h
    have k0 : k = 0 := by omega
    subst k0
    obtain ⟨N', rfl⟩ : ∃ N', N = N' + 1 := ⟨N - 1, by omega⟩
    refine ⟨0, by omega, ?_⟩
    unfold fxX3_farthest
    simp only [gR_3_1 h3, gR_3_2 h3, gR_3_3 h3, Option.bind_some, aI_0 e1 (by omega) (by omega), aI_0 e2 (by omega) (by omega), aI_0 e3 (by omega) (by omega)]
    rw [fxX3_farthest_38, gI_3_0 h3, Option.bind_some, hk, if_pos (by decide)]
    rfl
