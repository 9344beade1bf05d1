/-- the hull's cells -/
def hL : Nat → Prop := rg 28 40
/-- the hull's own fields and the knots -/
def hKn : Nat → Prop := fun i => i = 28 ∨ 30 ≤ i ∧ i ≤ 33
/-- two rows of points whose sums are sought -/
def PQ (s : cS) (p q n m kp kq : Nat) : Prop := (shp p = (3, n) ∧ shp q = (3, m) ∧ n < 600 ∧ m < 600) ∧ (qI s p 0 = Int32.ofNat kp ∧ qI s q 0 = Int32.ofNat kq) ∧ (1 ≤ kp ∧ kp ≤ n ∧ 1 ≤ kq ∧ kq ≤ m) ∧ ((p + 3 < 28 ∨ 45 < p) ∧ (q + 3 < 28 ∨ 45 < q)) ∧ (∀ j, j < kp → bd3 (pc s p j) 200) ∧ (∀ j, j < kq → bd3 (pc s q j) 200)
theorem PQ_cf {s s' : cS} {p q n m kp kq : Nat} {L : Nat → Prop} (h : PQ s p q n m kp kq) (c : cf L s s') (hL : ∀ i, L i → 28 ≤ i ∧ i ≤ 45) : PQ s' p q n m kp kq ∧ (∀ j, pc s' p j = pc s p j) ∧ ∀ j, pc s' q j = pc s q j := by
  obtain ⟨h1, h2, h3, h4, h5, h6⟩ := h
  have e1 : ∀ j, pc s' p j = pc s p j := fun j => by
    unfold pc
    rw [c.A (fun w => by have := hL _ w; omega), c.A (fun w => by have := hL _ w; omega), c.A (fun w => by have := hL _ w; omega)]
  have e2 : ∀ j, pc s' q j = pc s q j := fun j => by
    unfold pc
    rw [c.A (fun w => by have := hL _ w; omega), c.A (fun w => by have := hL _ w; omega), c.A (fun w => by have := hL _ w; omega)]
  refine ⟨⟨h1, ⟨?_, ?_⟩, h3, h4, fun j hj => by rw [e1]; exact h5 j hj, fun j hj => by rw [e2]; exact h6 j hj⟩, e1, e2⟩
  · rw [c.I (fun w => by have := hL _ w; omega)]
    exact h2.1
  · rw [c.I (fun w => by have := hL _ w; omega)]
    exact h2.2
/-- the point that was sought -/
def sk (s : cS) : V3 := ((qI s 28 4).toInt, (qI s 28 5).toInt, (qI s 28 6).toInt)
theorem nfar_le {s : cS} {p j b A : Nat} {mx my mz : Int64} {d : V3} (h : nfar s p mx my mz j b) (h1 : bv mx d.1 A) (h2 : bv my d.2.1 A) (h3 : bv mz d.2.2 A) (hA : A ≤ 1000000) (hj : bd3 (pc s p j) 200) (hb : bd3 (pc s p b) 200) : vd d (pc s p j) ≤ vd d (pc s p b) := by
  have b1 := hv_bv h1 h2 h3 hj (by omega)
  have b2 := hv_bv h1 h2 h3 hb (by omega)
  rcases h with h | ⟨h, -⟩
  · rw [Int64.lt_iff_toInt_lt, b1.1, b2.1] at h
    omega
  · have := congrArg Int64.toInt h
    rw [b1.1, b2.1] at this
    omega
/-- seek: the sum that lies farthest -/
theorem c_seekM {N p q n m kp kq : Nat} {mx my mz : Int64} {s : cS} (hN : 600 < N) (h : PQ s p q n m kp kq) : ∃ s' a b, fxX2_seek N 28 p q mx my mz (hC s) = some (hC s') ∧ cf (fun i => i = 28) s s' ∧ qI s' 28 2 = qI s 28 2 ∧ qI s' 28 3 = qI s 28 3 ∧ a < kp ∧ b < kq ∧ sk s' = va (pc s p a) (pc s q b) ∧ (∀ t, t < kp → nfar s p mx my mz t a) ∧ (∀ t, t < kq → nfar s q mx my mz t b) := by
  obtain ⟨⟨g1, g2, g3, g4⟩, ⟨g5, g6⟩, g7, g8, g9, g10⟩ := h
  obtain ⟨a, ha, fa, qa⟩ := c_farthest (N := N) (mx := mx) (my := my) (mz := mz) hN g1 g3 g5 g7.2.1 g7.1
  obtain ⟨b, hb, fb, qb⟩ := c_farthest (N := N) (mx := mx) (my := my) (mz := mz) hN g2 g4 g6 g7.2.2.2 g7.2.2.1
  obtain ⟨s3, e1, e2, e3⟩ := pt_sh g1
  obtain ⟨z3, f1, f2, f3⟩ := pt_sh g2
  refine ⟨uI (uI (uI s 28 4 (qA s (p + 1) a + qA s (q + 1) b)) 28 5 (qA s (p + 2) a + qA s (q + 2) b)) 28 6 (qA s (p + 3) a + qA s (q + 3) b), a, b, ?_, ((cf_uI (L := fun i => i = 28) _ rfl).tr (cf_uI _ rfl)).tr (cf_uI _ rfl), rfl, rfl, ha, hb, ?_, fa, fb⟩
  · unfold fxX2_seek
    simp only [kO_3 s3, kO_3 z3, Option.bind_some, qa, qb, gR_3_1 s3, gR_3_2 s3, gR_3_3 s3, gR_3_1 z3, gR_3_2 z3, gR_3_3 z3, aI_N e1 (by omega : a < n) (by omega), aI_N e2 (by omega : a < n) (by omega), aI_N e3 (by omega : a < n) (by omega), aI_N f1 (by omega : b < m) (by omega), aI_N f2 (by omega : b < m) (by omega), aI_N f3 (by omega : b < m) (by omega), sI_2_4 s28, sI_2_5 s28, sI_2_6 s28, qA_uI]
  · have ba := g9 a ha
    have bb := g10 b hb
    exact v3_ext (a32 (a := qA s (p + 1) a) (b := qA s (q + 1) b) rfl rfl ba.1 bb.1 (by decide)).1 (a32 (a := qA s (p + 2) a) (b := qA s (q + 2) b) rfl rfl ba.2.1 bb.2.1 (by decide)).1 (a32 (a := qA s (p + 3) a) (b := qA s (q + 3) b) rfl rfl ba.2.2 bb.2.2 (by decide)).1
/-- what is sought lies farthest -/
theorem seek_max {s : cS} {p q n m kp kq a b A : Nat} {mx my mz : Int64} {d : V3} (h : PQ s p q n m kp kq) (ha : a < kp) (hb : b < kq) (fa : ∀ t, t < kp → nfar s p mx my mz t a) (fb : ∀ t, t < kq → nfar s q mx my mz t b) (h1 : bv mx d.1 A) (h2 : bv my d.2.1 A) (h3 : bv mz d.2.2 A) (hA : A ≤ 1000000) : ∀ i j, i < kp → j < kq → vd d (va (pc s p i) (pc s q j)) ≤ vd d (va (pc s p a) (pc s q b)) := by
  intro i j hi hj
  obtain ⟨-, -, -, -, g9, g10⟩ := h
  have x := nfar_le (fa i hi) h1 h2 h3 hA (g9 i hi) (g9 a ha)
  have y := nfar_le (fb j hj) h1 h2 h3 hA (g10 j hj) (g10 b hb)
  rw [vd_va, vd_va]
  omega
theorem pt1_bd {x : Int32} : (¬ x < -100 ∧ ¬ 100 < x) ↔ x.toInt.natAbs ≤ 100 := by
  rw [Int32.lt_iff_toInt_lt, Int32.lt_iff_toInt_lt]
  have e1 : (100 : Int32).toInt = 100 := rfl
  have e2 : (-100 : Int32).toInt = -100 := rfl
  rw [e1, e2]
  omega
theorem isPt_bd {x y z : Int32} : isPt x y z ↔ bd3 (x.toInt, y.toInt, z.toInt) 100 := ⟨fun ⟨a, b, c, d, e, f⟩ => ⟨pt1_bd.mp ⟨a, b⟩, pt1_bd.mp ⟨c, d⟩, pt1_bd.mp ⟨e, f⟩⟩, fun ⟨a, b, c⟩ => ⟨(pt1_bd.mpr a).1, (pt1_bd.mpr a).2, (pt1_bd.mpr b).1, (pt1_bd.mpr b).2, (pt1_bd.mpr c).1, (pt1_bd.mpr c).2⟩⟩
/-- what take does -/
def TK (s s' : cS) (K C : Nat) (w : V3) : Prop := cf hKn s s' ∧ qI s' 28 3 = Int32.ofNat (C + 1) ∧ qI s' 30 0 = Int32.ofNat (K + 1) ∧ pc s' 30 K = w ∧ (∀ j, j < K → pc s' 30 j = pc s 30 j) ∧ ((bd3 w 100 ∧ C < 24 ∧ qI s' 28 2 = qI s 28 2) ∨ (¬ (bd3 w 100 ∧ C < 24) ∧ qI s' 28 2 = 1))
theorem c_take32 {N K C : Nat} {s : cS} (h3 : qI s 28 3 = Int32.ofNat C) (h0 : qI s 30 0 = Int32.ofNat K) (hK : K < 25) : ∃ s', fxX2_take_32 N 28 (hC s) = some (hC s') ∧ cf hKn s s' ∧ qI s' 28 2 = qI s 28 2 ∧ qI s' 28 3 = Int32.ofNat (C + 1) ∧ qI s' 30 0 = Int32.ofNat (K + 1) ∧ pc s' 30 K = sk s ∧ ∀ j, j < K → pc s' 30 j = pc s 30 j := by
  obtain ⟨s', q, c, -, k⟩ := c_put2 (N := N) (x := qI s 28 4) (y := qI s 28 5) (z := qI s 28 6) (s := uI s 28 3 (Int32.ofNat (C + 1))) s30 (by decide) (k := K) h0 (by omega)
  obtain ⟨k1, k2⟩ := k hK
  refine ⟨s', ?_, (cf_uI _ (.inl rfl)).tr (c.mo (fun i hi => .inr ⟨hi.1, hi.2⟩)), ?_, ?_, k1, ?_, ?_⟩
  · unfold fxX2_take_32
    simp only [gI_2_3 s28, Option.bind_some, h3, i_s, sI_2_3 s28, gR_2_0 s28, gR_5_0 s29, gI_2_4 s28, gI_2_5 s28, gI_2_6 s28, kO_3 s30']
    rw [show qI (uI s 28 3 (Int32.ofNat (C + 1))) 28 4 = qI s 28 4 from rfl, show qI (uI s 28 3 (Int32.ofNat (C + 1))) 28 5 = qI s 28 5 from rfl, show qI (uI s 28 3 (Int32.ofNat (C + 1))) 28 6 = qI s 28 6 from rfl, q]
    rfl
  · rw [c.I (fun w => by unfold rg at w; omega)]
    rfl
  · rw [c.I (fun w => by unfold rg at w; omega)]
    rfl
  · rw [k2 K, if_pos rfl]
    rfl
  · intro j hj
    rw [k2 j, if_neg (by omega)]
    rfl
/-- take -/
theorem c_takeM {N K C : Nat} {s : cS} (h3 : qI s 28 3 = Int32.ofNat C) (hC0 : C < 2147483647) (h0 : qI s 30 0 = Int32.ofNat K) (hK : K < 25) : ∃ s', fxX2_take N 28 (hC s) = some (hC s') ∧ TK s s' K C (sk s) := by
  have lt : Int32.ofNat C < (24 : Int32) ↔ C < 24 := by
    have := i_lt (a := C) (b := 24) (by omega) (by omega)
    rw [← this]
    exact Iff.rfl
  have no : ¬ (bd3 (sk s) 100 ∧ C < 24) → ∃ s', fxX2_take_27 N 28 (hC s) = some (hC s') ∧ TK s s' K C (sk s) := by
    intro nb
    obtain ⟨s', q, c, r2, r3, r0, rk, rj⟩ := c_take32 (N := N) (s := uI s 28 2 1) h3 h0 hK
    refine ⟨s', ?_, (cf_uI _ (.inl rfl)).tr c, r3, r0, rk, rj, .inr ⟨nb, r2⟩⟩
    unfold fxX2_take_27
    rw [sI_2_2 s28, Option.bind_some]
    exact q
  unfold fxX2_take
  simp only [gI_2_4 s28, gI_2_5 s28, gI_2_6 s28, Option.bind_some]
  by_cases c : isPt (qI s 28 4) (qI s 28 5) (qI s 28 6)
  · rw [pt_in c]
    simp only [Option.bind_some, gI_2_3 s28, h3]
    rw [if_neg (show ¬ ((1 : Int32) = 0) by decide)]
    by_cases d : C < 24
    · rw [if_pos (lt.mpr d)]
      obtain ⟨s', q, c', r2, r3, r0, rk, rj⟩ := c_take32 (N := N) (s := s) h3 h0 hK
      exact ⟨s', q, c', r3, r0, rk, rj, .inl ⟨isPt_bd.mp c, d, r2⟩⟩
    · rw [if_neg (mt lt.mp d)]
      exact no (fun w => d w.2)
  · rw [pt_no c]
    simp only [Option.bind_some, if_true]
    exact no (fun w => c (isPt_bd.mpr w.1))
