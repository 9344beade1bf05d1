theorem t34 : shp 34 = (10, 138) := rfl
theorem t35 : shp 35 = (10, 184) := rfl
theorem t36 : shp 36 = (12, 46) := rfl
theorem t37 : shp 37 = (10, 138) := rfl
theorem t38 : shp 38 = (10, 138) := rfl
theorem t39 : shp 39 = (12, 625) := rfl
theorem t40 : shp 40 = (10, 576) := rfl
theorem uA_uA (s : cS) (a : Nat) (f g : Nat → Int32) : uA (uA s a f) a g = uA s a g := by
  unfold uA
  refine Prod.ext rfl (Prod.ext rfl (Prod.ext ?_ rfl))
  funext i
  show (if i = a then g else if i = a then f else s.2.2.1 i) = if i = a then g else s.2.2.1 i
  by_cases c : i = a
  · rw [if_pos c, if_pos c]
  · rw [if_neg c, if_neg c, if_neg c]
theorem aZ_N {s : cS} {a n k : Nat} (h : shp a = (12, n)) (hk : k < n) (hn : n < 2147483648) : aZ (hC s) a (Int32.ofNat k) = some (qA s a k) := by
  rw [aZ_C h (i_nb hk hn), i_tn (by omega)]
theorem wZ_N1 {s : cS} {a n k : Nat} (h : shp a = (12, n)) (hk : k < n) (hn : n < 2147483648) : wZ (hC s) a (Int32.ofNat k) 1 = some (hC (uA s a (upd (qA s a) k 1))) := by
  rw [wZ_C h (i_nb hk hn), i_tn (by omega)]
  rfl
theorem wZ_N0 {s : cS} {a n k : Nat} (h : shp a = (12, n)) (hk : k < n) (hn : n < 2147483648) : wZ (hC s) a (Int32.ofNat k) 0 = some (hC (uA s a (upd (qA s a) k 0))) := by
  rw [wZ_C h (i_nb hk hn), i_tn (by omega)]
  rfl
theorem nar01 {x : Int32} (h : x = 0 ∨ x = 1) : vp_nar .boolean x = x := by
  rcases h with rfl | rfl
  · rfl
  · rfl
theorem wZ_Nx {s : cS} {a n k : Nat} {x : Int32} (h : shp a = (12, n)) (hk : k < n) (hn : n < 2147483648) (hx : x = 0 ∨ x = 1) : wZ (hC s) a (Int32.ofNat k) x = some (hC (uA s a (upd (qA s a) k x))) := by
  rw [wZ_C h (i_nb hk hn), i_tn (by omega), nar01 hx]
theorem i_c3 (a : Nat) : (3 : Int32) * Int32.ofNat a = Int32.ofNat (3 * a) := (Int32.ofNat_mul 3 a).symm
theorem i_c4 (a : Nat) : (4 : Int32) * Int32.ofNat a = Int32.ofNat (4 * a) := (Int32.ofNat_mul 4 a).symm
theorem i_a2 (a : Nat) : Int32.ofNat a + (2 : Int32) = Int32.ofNat (a + 2) := (Int32.ofNat_add a 2).symm
theorem i_a3 (a : Nat) : Int32.ofNat a + (3 : Int32) = Int32.ofNat (a + 3) := (Int32.ofNat_add a 3).symm
theorem i_a4 (a : Nat) : Int32.ofNat a + (4 : Int32) = Int32.ofNat (a + 4) := (Int32.ofNat_add a 4).symm
/-- the cells of the skin, without its knots -/
def sL : Nat → Prop := fun i => i = 29 ∨ 34 ≤ i ∧ i ≤ 39
/-- a row of the skin: tips, plane, whether it is settled -/
def tR (s : cS) (t : Nat) : (Int32 × Int32 × Int32) × (Int32 × Int32 × Int32 × Int32) × Int32 := ((qA s 34 (3 * t), qA s 34 (3 * t + 1), qA s 34 (3 * t + 2)), (qA s 35 (4 * t), qA s 35 (4 * t + 1), qA s 35 (4 * t + 2), qA s 35 (4 * t + 3)), qA s 36 t)
/-- the way across of a row -/
def tN (s : cS) (t : Nat) : V3 := ((qA s 35 (4 * t)).toInt, (qA s 35 (4 * t + 1)).toInt, (qA s 35 (4 * t + 2)).toInt)
def tD (s : cS) (t : Nat) : Int := (qA s 35 (4 * t + 3)).toInt
/-- a row that is well: tips within K, the plane through them -/
def tO (s : cS) (K t : Nat) : Prop := ∃ u v w, u < K ∧ v < K ∧ w < K ∧ qA s 34 (3 * t) = Int32.ofNat u ∧ qA s 34 (3 * t + 1) = Int32.ofNat v ∧ qA s 34 (3 * t + 2) = Int32.ofNat w ∧ tN s t = vx (vs (pc s 30 v) (pc s 30 u)) (vs (pc s 30 w) (pc s 30 u)) ∧ tD s t = vd (tN s t) (pc s 30 u) ∧ (qA s 36 t = 0 ∨ qA s 36 t = 1)
theorem tR_N {s s' : cS} {t t' : Nat} (e : tR s' t' = tR s t) : tN s' t' = tN s t ∧ tD s' t' = tD s t ∧ qA s' 34 (3 * t') = qA s 34 (3 * t) ∧ qA s' 34 (3 * t' + 1) = qA s 34 (3 * t + 1) ∧ qA s' 34 (3 * t' + 2) = qA s 34 (3 * t + 2) ∧ qA s' 36 t' = qA s 36 t := by
  have e1 := congrArg (fun r : (Int32 × Int32 × Int32) × (Int32 × Int32 × Int32 × Int32) × Int32 => r.1.1) e
  have e2 := congrArg (fun r : (Int32 × Int32 × Int32) × (Int32 × Int32 × Int32 × Int32) × Int32 => r.1.2.1) e
  have e3 := congrArg (fun r : (Int32 × Int32 × Int32) × (Int32 × Int32 × Int32 × Int32) × Int32 => r.1.2.2) e
  have e4 : qA s' 35 (4 * t') = qA s 35 (4 * t) := congrArg (fun r : (Int32 × Int32 × Int32) × (Int32 × Int32 × Int32 × Int32) × Int32 => r.2.1.1) e
  have e5 : qA s' 35 (4 * t' + 1) = qA s 35 (4 * t + 1) := congrArg (fun r : (Int32 × Int32 × Int32) × (Int32 × Int32 × Int32 × Int32) × Int32 => r.2.1.2.1) e
  have e6 : qA s' 35 (4 * t' + 2) = qA s 35 (4 * t + 2) := congrArg (fun r : (Int32 × Int32 × Int32) × (Int32 × Int32 × Int32 × Int32) × Int32 => r.2.1.2.2.1) e
  have e7 : qA s' 35 (4 * t' + 3) = qA s 35 (4 * t + 3) := congrArg (fun r : (Int32 × Int32 × Int32) × (Int32 × Int32 × Int32 × Int32) × Int32 => r.2.1.2.2.2) e
  have e8 := congrArg (fun r : (Int32 × Int32 × Int32) × (Int32 × Int32 × Int32 × Int32) × Int32 => r.2.2) e
  refine ⟨?_, ?_, e1, e2, e3, e8⟩
  · unfold tN
    rw [e4, e5, e6]
  · unfold tD
    rw [e7]
theorem tO_R {s s' : cS} {K t t' : Nat} (h : tO s K t) (e : tR s' t' = tR s t) (hp0 : ∀ j, j < K → pc s' 30 j = pc s 30 j) : tO s' K t' := by
  obtain ⟨u, v, w, hu, hv, hw, h1, h2, h3, h4, h5, h6⟩ := h
  obtain ⟨e1, e2, e3, e4, e5, e6⟩ := tR_N e
  exact ⟨u, v, w, hu, hv, hw, by rw [e3]; exact h1, by rw [e4]; exact h2, by rw [e5]; exact h3, by rw [e1, hp0 u hu, hp0 v hv, hp0 w hw]; exact h4, by rw [e1, e2, hp0 u hu]; exact h5, by rw [e6]; exact h6⟩
/-- isBeyond: whether a point lies beyond a row's plane -/
theorem c_beyond {N t : Nat} {x y z : Int64} {s : cS} (ht : t < 46) : (fxX5_isBeyond N 29 (Int32.ofNat t) x y z (hC s) = some (hC s, 1) ∧ ¬ ((qA s 35 (4 * t)).toInt64 * x + (qA s 35 (4 * t + 1)).toInt64 * y + (qA s 35 (4 * t + 2)).toInt64 * z ≤ (qA s 35 (4 * t + 3)).toInt64)) ∨ (fxX5_isBeyond N 29 (Int32.ofNat t) x y z (hC s) = some (hC s, 0) ∧ (qA s 35 (4 * t)).toInt64 * x + (qA s 35 (4 * t + 1)).toInt64 * y + (qA s 35 (4 * t + 2)).toInt64 * z ≤ (qA s 35 (4 * t + 3)).toInt64) := by
  unfold fxX5_isBeyond
  simp only [gR_5_3 s29, Option.bind_some, i_c4, i_s, i_a2, i_a3, aI_N t35 (by omega : 4 * t < 184) (by decide), aI_N t35 (by omega : 4 * t + 1 < 184) (by decide), aI_N t35 (by omega : 4 * t + 2 < 184) (by decide), aI_N t35 (by omega : 4 * t + 3 < 184) (by decide)]
  by_cases c : (qA s 35 (4 * t)).toInt64 * x + (qA s 35 (4 * t + 1)).toInt64 * y + (qA s 35 (4 * t + 2)).toInt64 * z ≤ (qA s 35 (4 * t + 3)).toInt64
  · right
    rw [if_pos c]
    exact ⟨rfl, c⟩
  · left
    rw [if_neg c]
    exact ⟨rfl, c⟩
theorem c_fo2 {N T : Nat} {s : cS} (hT : T ≤ 46) (h1 : qI s 29 1 = Int32.ofNat T) : ∀ (q f t : Nat), t + q = T → q < f → (∀ j, j < t → qA s 36 j ≠ 0) → ((∀ j, j < T → qA s 36 j ≠ 0) ∧ fxX5_firstOpen_2 N f 29 (Int32.ofNat t) (hC s) = some (hC s, -1)) ∨ ∃ j, j < T ∧ qA s 36 j = 0 ∧ fxX5_firstOpen_2 N f 29 (Int32.ofNat t) (hC s) = some (hC s, Int32.ofNat j) := by
  intro q
  induction q with
  | zero =>
    intro f t ht hf lo
    obtain ⟨f', rfl⟩ : ∃ f', f = f' + 1 := ⟨f - 1, by omega⟩
    have htT : t = T := by omega
    subst htT
    left
    refine ⟨lo, ?_⟩
    rw [fxX5_firstOpen_2, gI_5_1 s29, Option.bind_some, h1, if_pos (Int32.le_refl _)]
  | succ q ih =>
    intro f t ht hf lo
    obtain ⟨f', rfl⟩ : ∃ f', f = f' + 1 := ⟨f - 1, by omega⟩
    have ne : ¬ (Int32.ofNat T ≤ Int32.ofNat t) := by
      rw [i_le (by omega) (by omega)]
      omega
    rw [fxX5_firstOpen_2]
    simp only [gI_5_1 s29, gR_5_4 s29, Option.bind_some, h1, if_neg ne, aZ_N t36 (by omega : t < 46) (by decide)]
    by_cases c : qA s 36 t = 0
    · rw [if_pos c]
      exact .inr ⟨t, by omega, c, rfl⟩
    · rw [if_neg c, i_s]
      exact ih f' (t + 1) (by omega) (by omega) (fun j hj => by
        by_cases w : j = t
        · rw [w]
          exact c
        · exact lo j (by omega))
theorem c_firstOpen {N T : Nat} {s : cS} (hN : 600 < N) (hT : T ≤ 46) (h1 : qI s 29 1 = Int32.ofNat T) : ((∀ j, j < T → qA s 36 j ≠ 0) ∧ fxX5_firstOpen N 29 (hC s) = some (hC s, -1)) ∨ ∃ j, j < T ∧ qA s 36 j = 0 ∧ fxX5_firstOpen N 29 (hC s) = some (hC s, Int32.ofNat j) := c_fo2 hT h1 T N 0 (by omega) (by omega) (fun j hj => absurd hj (by omega))
theorem m32 {a b : Int32} {x y : Int} {A B : Nat} (ha : a.toInt = x) (hb : b.toInt = y) (bx : x.natAbs ≤ A) (bb : y.natAbs ≤ B) (h : A * B < 2147483648) : (a * b).toInt = x * y ∧ (x * y).natAbs ≤ A * B := by
  have h1 : (x * y).natAbs ≤ A * B := by
    rw [Int.natAbs_mul]
    exact Nat.mul_le_mul bx bb
  refine ⟨?_, h1⟩
  rw [Int32.toInt_mul, ha, hb]
  exact bm32 (by omega)
theorem a32 {a b : Int32} {x y : Int} {A B : Nat} (ha : a.toInt = x) (hb : b.toInt = y) (bx : x.natAbs ≤ A) (bb : y.natAbs ≤ B) (h : A + B < 2147483648) : (a + b).toInt = x + y ∧ (x + y).natAbs ≤ A + B := by
  refine ⟨?_, by omega⟩
  rw [Int32.toInt_add, ha, hb]
  exact bm32 (by omega)
theorem d32 {n p : V3} {a b c x y z : Int32} {A B : Nat} (h1 : a.toInt = n.1) (h2 : b.toInt = n.2.1) (h3 : c.toInt = n.2.2) (g1 : x.toInt = p.1) (g2 : y.toInt = p.2.1) (g3 : z.toInt = p.2.2) (bn : bd3 n A) (bp : bd3 p B) (h : A * B + A * B + A * B < 2147483648) : (a * x + b * y + c * z).toInt = vd n p := by
  obtain ⟨m1, m2⟩ := m32 h1 g1 bn.1 bp.1 (by omega)
  obtain ⟨m3, m4⟩ := m32 h2 g2 bn.2.1 bp.2.1 (by omega)
  obtain ⟨m5, m6⟩ := m32 h3 g3 bn.2.2 bp.2.2 (by omega)
  obtain ⟨s1, s2⟩ := a32 m1 m3 m2 m4 (by omega)
  exact (a32 s1 m5 s2 m6 (by omega)).1
theorem i64_32' {a : Int64} {x : Int} {A : Nat} (h : bv a x A) (hA : A ≤ 1000000) : a.toInt32.toInt = x := by
  rw [i64_32 (by rw [h.1]; have := h.2; omega), h.1]
theorem pc_sL {s s' : cS} (h : cf sL s s') (j : Nat) : pc s' 30 j = pc s 30 j := by
  unfold pc
  rw [h.A (fun w => by unfold sL at w; omega), h.A (fun w => by unfold sL at w; omega), h.A (fun w => by unfold sL at w; omega)]
theorem u_ne {f : Nat → Int32} {k j : Nat} {v : Int32} (h : j ≠ k) : upd f k v j = f j := by
  rw [upd_at, if_neg h]
theorem u_eq {f : Nat → Int32} {k : Nat} {v : Int32} : upd f k v k = v := by
  rw [upd_at, if_pos rfl]
theorem u3_ne {f : Nat → Int32} {k j : Nat} {a b c : Int32} (h : j < k ∨ k + 2 < j) : upd (upd (upd f k a) (k + 1) b) (k + 2) c j = f j := by
  rw [u_ne (by omega), u_ne (by omega), u_ne (by omega)]
theorem u4_ne {f : Nat → Int32} {k j : Nat} {a b c d : Int32} (h : j < k ∨ k + 3 < j) : upd (upd (upd (upd f k a) (k + 1) b) (k + 2) c) (k + 3) d j = f j := by
  rw [u_ne (by omega), u3_ne (by omega)]
theorem u4_0 {f : Nat → Int32} {k : Nat} {a b c d : Int32} : upd (upd (upd (upd f k a) (k + 1) b) (k + 2) c) (k + 3) d k = a := by
  rw [u_ne (by omega), u_ne (by omega), u_ne (by omega), u_eq]
theorem u4_1 {f : Nat → Int32} {k : Nat} {a b c d : Int32} : upd (upd (upd (upd f k a) (k + 1) b) (k + 2) c) (k + 3) d (k + 1) = b := by
  rw [u_ne (by omega), u_ne (by omega), u_eq]
theorem u4_2 {f : Nat → Int32} {k : Nat} {a b c d : Int32} : upd (upd (upd (upd f k a) (k + 1) b) (k + 2) c) (k + 3) d (k + 2) = c := by
  rw [u_ne (by omega), u_eq]
theorem u4_3 {f : Nat → Int32} {k : Nat} {a b c d : Int32} : upd (upd (upd (upd f k a) (k + 1) b) (k + 2) c) (k + 3) d (k + 3) = d := u_eq
/-- addTriangle: a new row, or none where it is full -/
theorem c_addT {N T u v w : Nat} {s : cS} (hT : T ≤ 46) (h1 : qI s 29 1 = Int32.ofNat T) (hu : u < 25) (hv : v < 25) (hw : w < 25) : ∃ s', fxX5_addTriangle N 29 (Int32.ofNat u) (Int32.ofNat v) (Int32.ofNat w) (hC s) = some (hC s') ∧ cf (fun i => i = 29 ∨ 34 ≤ i ∧ i ≤ 36) s s' ∧ qI s' 29 5 = qI s 29 5 ∧ ((T = 46 ∧ s' = s) ∨ (T < 46 ∧ qI s' 29 1 = Int32.ofNat (T + 1) ∧ (∀ t, t ≠ T → tR s' t = tR s t) ∧ qA s' 36 T = 0 ∧ qA s' 34 (3 * T) = Int32.ofNat u ∧ qA s' 34 (3 * T + 1) = Int32.ofNat v ∧ qA s' 34 (3 * T + 2) = Int32.ofNat w ∧ (bd3 (pc s 30 u) 101 → bd3 (pc s 30 v) 101 → bd3 (pc s 30 w) 101 → tN s' T = vx (vs (pc s 30 v) (pc s 30 u)) (vs (pc s 30 w) (pc s 30 u)) ∧ tD s' T = vd (tN s' T) (pc s 30 u)))) := by
  by_cases c : T < 46
  · obtain ⟨va1, q1, b1⟩ := c_acX (N := N) (s := s) s30 (by decide) hu hv hw
    obtain ⟨va2, q2, b2⟩ := c_acY (N := N) (s := s) s30 (by decide) hu hv hw
    obtain ⟨va3, q3, b3⟩ := c_acZ (N := N) (s := s) s30 (by decide) hu hv hw
    have l : Int32.ofNat T < (46 : Int32) := by
      have := i_lt (a := T) (b := 46) (by omega) (by omega)
      show Int32.ofNat T < Int32.ofNat 46
      rw [this]
      exact c
    obtain ⟨-, e1, e2, e3⟩ := pt_sh s30
    have e1' : shp 31 = (10, 25) := e1
    have e2' : shp 32 = (10, 25) := e2
    have e3' : shp 33 = (10, 25) := e3
    refine ⟨uI (uA (uA (uA s 34 (upd (upd (upd (qA s 34) (3 * T) (Int32.ofNat u)) (3 * T + 1) (Int32.ofNat v)) (3 * T + 2) (Int32.ofNat w))) 35 (upd (upd (upd (upd (qA s 35) (4 * T) va1.toInt32) (4 * T + 1) va2.toInt32) (4 * T + 2) va3.toInt32) (4 * T + 3) (va1.toInt32 * qA s 31 u + va2.toInt32 * qA s 32 u + va3.toInt32 * qA s 33 u))) 36 (upd (qA s 36) T 0)) 29 1 (Int32.ofNat (T + 1)), ?_, ?_, ?_, .inr ⟨c, ?_, ?_, ?_, ?_, ?_, ?_, ?_⟩⟩
    · unfold fxX5_addTriangle
      simp only [gI_5_1 s29, gR_5_0 s29, gR_5_2 s29, gR_5_3 s29, gR_5_4 s29, kO_3 s30', gR_3_1 s30', gR_3_2 s30', gR_3_3 s30', Option.bind_some, h1, if_pos l, q1, q2, q3, i_c3, i_c4, i_s, i_a2, i_a3, wI_N t34 (by omega : 3 * T < 138) (by decide), wI_N t34 (by omega : 3 * T + 1 < 138) (by decide), wI_N t34 (by omega : 3 * T + 2 < 138) (by decide), wI_N t35 (by omega : 4 * T < 184) (by decide), wI_N t35 (by omega : 4 * T + 1 < 184) (by decide), wI_N t35 (by omega : 4 * T + 2 < 184) (by decide), wI_N t35 (by omega : 4 * T + 3 < 184) (by decide), wZ_N0 t36 c (by decide), qI_uA, qA_uA, uA_uA, aI_N e1' hu (by decide), aI_N e2' hu (by decide), aI_N e3' hu (by decide), sI_5_1 s29]
      simp
    · exact (((cf_uA _ (.inr ⟨by omega, by omega⟩)).tr (cf_uA _ (.inr ⟨by omega, by omega⟩))).tr (cf_uA _ (.inr ⟨by omega, by omega⟩))).tr (cf_uI _ (.inl rfl))
    · rw [qI_uI, if_neg (by omega)]
      rfl
    · rw [qI_uI, if_pos ⟨rfl, rfl⟩]
    · intro t ht
      have e34 : ∀ j, (j < 3 * T ∨ 3 * T + 2 < j) → qA (uI (uA (uA (uA s 34 (upd (upd (upd (qA s 34) (3 * T) (Int32.ofNat u)) (3 * T + 1) (Int32.ofNat v)) (3 * T + 2) (Int32.ofNat w))) 35 (upd (upd (upd (upd (qA s 35) (4 * T) va1.toInt32) (4 * T + 1) va2.toInt32) (4 * T + 2) va3.toInt32) (4 * T + 3) (va1.toInt32 * qA s 31 u + va2.toInt32 * qA s 32 u + va3.toInt32 * qA s 33 u))) 36 (upd (qA s 36) T 0)) 29 1 (Int32.ofNat (T + 1))) 34 j = qA s 34 j := fun j hj => u3_ne hj
      have e35 : ∀ j, (j < 4 * T ∨ 4 * T + 3 < j) → qA (uI (uA (uA (uA s 34 (upd (upd (upd (qA s 34) (3 * T) (Int32.ofNat u)) (3 * T + 1) (Int32.ofNat v)) (3 * T + 2) (Int32.ofNat w))) 35 (upd (upd (upd (upd (qA s 35) (4 * T) va1.toInt32) (4 * T + 1) va2.toInt32) (4 * T + 2) va3.toInt32) (4 * T + 3) (va1.toInt32 * qA s 31 u + va2.toInt32 * qA s 32 u + va3.toInt32 * qA s 33 u))) 36 (upd (qA s 36) T 0)) 29 1 (Int32.ofNat (T + 1))) 35 j = qA s 35 j := fun j hj => u4_ne hj
      have e36 : qA (uI (uA (uA (uA s 34 (upd (upd (upd (qA s 34) (3 * T) (Int32.ofNat u)) (3 * T + 1) (Int32.ofNat v)) (3 * T + 2) (Int32.ofNat w))) 35 (upd (upd (upd (upd (qA s 35) (4 * T) va1.toInt32) (4 * T + 1) va2.toInt32) (4 * T + 2) va3.toInt32) (4 * T + 3) (va1.toInt32 * qA s 31 u + va2.toInt32 * qA s 32 u + va3.toInt32 * qA s 33 u))) 36 (upd (qA s 36) T 0)) 29 1 (Int32.ofNat (T + 1))) 36 t = qA s 36 t := u_ne ht
      unfold tR
      rw [e34 _ (by omega), e34 _ (by omega), e34 _ (by omega), e35 _ (by omega), e35 _ (by omega), e35 _ (by omega), e35 _ (by omega), e36]
    · simp [qA_uI, qA_uA, upd_at]
    · simp [qA_uI, qA_uA, upd_at]
    · simp [qA_uI, qA_uA, upd_at]
    · simp [qA_uI, qA_uA, upd_at]
    · intro x0 x1 x2
      have y0 := bd3_le x0 (by decide : 101 ≤ 200)
      have y1 := bd3_le x1 (by decide : 101 ≤ 200)
      have y2 := bd3_le x2 (by decide : 101 ≤ 200)
      have n1 := i64_32' (b1 y0 y1 y2) (by decide)
      have n2 := i64_32' (b2 y0 y1 y2) (by decide)
      have n3 := i64_32' (b3 y0 y1 y2) (by decide)
      have bn : bd3 (vx (vs (pc s 30 v) (pc s 30 u)) (vs (pc s 30 w) (pc s 30 u))) 81608 := by
        have d1 : bd3 (vs (pc s 30 v) (pc s 30 u)) 202 := ⟨by have := x1.1; have := x0.1; show ((pc s 30 v).1 - (pc s 30 u).1).natAbs ≤ 202; omega, by have := x1.2.1; have := x0.2.1; show ((pc s 30 v).2.1 - (pc s 30 u).2.1).natAbs ≤ 202; omega, by have := x1.2.2; have := x0.2.2; show ((pc s 30 v).2.2 - (pc s 30 u).2.2).natAbs ≤ 202; omega⟩
        have d2 : bd3 (vs (pc s 30 w) (pc s 30 u)) 202 := ⟨by have := x2.1; have := x0.1; show ((pc s 30 w).1 - (pc s 30 u).1).natAbs ≤ 202; omega, by have := x2.2.1; have := x0.2.1; show ((pc s 30 w).2.1 - (pc s 30 u).2.1).natAbs ≤ 202; omega, by have := x2.2.2; have := x0.2.2; show ((pc s 30 w).2.2 - (pc s 30 u).2.2).natAbs ≤ 202; omega⟩
        have mm : ∀ x y : Int, x.natAbs ≤ 202 → y.natAbs ≤ 202 → (x * y).natAbs ≤ 40804 := fun x y hx hy => by
          rw [Int.natAbs_mul]
          exact Nat.mul_le_mul hx hy
        have sb : ∀ x y : Int, x.natAbs ≤ 40804 → y.natAbs ≤ 40804 → (x - y).natAbs ≤ 81608 := fun x y hx hy => by omega
        exact ⟨sb _ _ (mm _ _ d1.2.1 d2.2.2) (mm _ _ d1.2.2 d2.2.1), sb _ _ (mm _ _ d1.2.2 d2.1) (mm _ _ d1.1 d2.2.2), sb _ _ (mm _ _ d1.1 d2.2.1) (mm _ _ d1.2.1 d2.1)⟩
      have eN : tN (uI (uA (uA (uA s 34 (upd (upd (upd (qA s 34) (3 * T) (Int32.ofNat u)) (3 * T + 1) (Int32.ofNat v)) (3 * T + 2) (Int32.ofNat w))) 35 (upd (upd (upd (upd (qA s 35) (4 * T) va1.toInt32) (4 * T + 1) va2.toInt32) (4 * T + 2) va3.toInt32) (4 * T + 3) (va1.toInt32 * qA s 31 u + va2.toInt32 * qA s 32 u + va3.toInt32 * qA s 33 u))) 36 (upd (qA s 36) T 0)) 29 1 (Int32.ofNat (T + 1))) T = vx (vs (pc s 30 v) (pc s 30 u)) (vs (pc s 30 w) (pc s 30 u)) := by
        refine Eq.trans ?_ (v3_ext (a := (va1.toInt32.toInt, va2.toInt32.toInt, va3.toInt32.toInt)) n1 n2 n3)
        exact v3_ext (congrArg Int32.toInt u4_0) (congrArg Int32.toInt u4_1) (congrArg Int32.toInt u4_2)
      refine ⟨eN, ?_⟩
      rw [eN]
      refine Eq.trans (congrArg Int32.toInt (u4_3 (f := qA s 35) (k := 4 * T) (a := va1.toInt32) (b := va2.toInt32) (c := va3.toInt32))) ?_
      exact d32 n1 n2 n3 rfl rfl rfl bn x0 (by decide)
  · have hT46 : T = 46 := by omega
    subst hT46
    refine ⟨s, ?_, cf.rf, rfl, .inl ⟨rfl, rfl⟩⟩
    unfold fxX5_addTriangle
    rw [gI_5_1 s29, Option.bind_some, h1, if_neg (by decide)]
