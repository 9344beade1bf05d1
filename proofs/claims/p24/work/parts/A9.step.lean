def vm (d : V3) : V3 := (-d.1, -d.2.1, -d.2.2)
theorem vd_vm (d a : V3) : vd (vm d) a = -vd d a := by
  obtain ⟨d1, d2, d3⟩ := d
  obtain ⟨a1, a2, a3⟩ := a
  show -d1 * a1 + -d2 * a2 + -d3 * a3 = -(d1 * a1 + d2 * a2 + d3 * a3)
  rw [Int.neg_mul, Int.neg_mul, Int.neg_mul]
  omega
/-- a point of a row that lies farthest along d, the last of those by x, y, z -/
def fz (s : cS) (p k : Nat) (d : V3) (i : Nat) : Prop := ∀ t, t < k → vd d (pc s p t) < vd d (pc s p i) ∨ vd d (pc s p t) = vd d (pc s p i) ∧ ¬ lxl (pc s p i) (pc s p t)
theorem nfar_fz {s : cS} {p k b A : Nat} {mx my mz : Int64} {d : V3} (h : ∀ t, t < k → nfar s p mx my mz t b) (h1 : bv mx d.1 A) (h2 : bv my d.2.1 A) (h3 : bv mz d.2.2 A) (hA : A ≤ 1000000) (hj : ∀ j, j < k → bd3 (pc s p j) 200) (hb : b < k) : fz s p k d b := by
  intro t ht
  have b1 := hv_bv h1 h2 h3 (hj t ht) (by omega)
  have b2 := hv_bv h1 h2 h3 (hj b hb) (by omega)
  rcases h t ht with h | ⟨h, g⟩
  · rw [Int64.lt_iff_toInt_lt, b1.1, b2.1] at h
    exact .inl h
  · have := congrArg Int64.toInt h
    rw [b1.1, b2.1] at this
    exact .inr ⟨this, g⟩
theorem fz_le {s : cS} {p k i : Nat} {d : V3} (h : fz s p k d i) {t : Nat} (ht : t < k) : vd d (pc s p t) ≤ vd d (pc s p i) := by
  rcases h t ht with h | h
  · omega
  · omega
/-- a sum that lies farthest along d -/
def fzz (s : cS) (p q kp kq : Nat) (d : V3) (i j : Nat) : Prop := i < kp ∧ j < kq ∧ fz s p kp d i ∧ fz s q kq d j
theorem fzz_le {s : cS} {p q kp kq i j a b : Nat} {d : V3} (h : fzz s p q kp kq d i j) (ha : a < kp) (hb : b < kq) : vd d (va (pc s p a) (pc s q b)) ≤ vd d (va (pc s p i) (pc s q j)) := by
  have x := fz_le h.2.2.1 ha
  have y := fz_le h.2.2.2 hb
  rw [vd_va, vd_va]
  omega
theorem c_seekF {N p q n m kp kq A : Nat} {mx my mz : Int64} {d : V3} {s : cS} (hN : 600 < N) (h : PQ s p q n m kp kq) (h1 : bv mx d.1 A) (h2 : bv my d.2.1 A) (h3 : bv mz d.2.2 A) (hA : A ≤ 1000000) : ∃ s' a b, fxX2_seek N 28 p q mx my mz (hC s) = some (hC s') ∧ cf (fun i => i = 28) s s' ∧ qI s' 28 2 = qI s 28 2 ∧ qI s' 28 3 = qI s 28 3 ∧ sk s' = va (pc s p a) (pc s q b) ∧ fzz s p q kp kq d a b ∧ bd3 (sk s') 400 := by
  obtain ⟨s', a, b, q1, c, r2, r3, ha, hb, e, fa, fb⟩ := c_seekM (mx := mx) (my := my) (mz := mz) hN h
  obtain ⟨-, -, -, -, g9, g10⟩ := h
  refine ⟨s', a, b, q1, c, r2, r3, e, ⟨ha, hb, nfar_fz fa h1 h2 h3 hA g9 ha, nfar_fz fb h1 h2 h3 hA g10 hb⟩, ?_⟩
  rw [e]
  have x := g9 a ha
  have y := g10 b hb
  exact ⟨by have := x.1; have := y.1; show ((pc s p a).1 + (pc s q b).1).natAbs ≤ 400; omega, by have := x.2.1; have := y.2.1; show ((pc s p a).2.1 + (pc s q b).2.1).natAbs ≤ 400; omega, by have := x.2.2; have := y.2.2; show ((pc s p a).2.2 + (pc s q b).2.2).natAbs ≤ 400; omega⟩
theorem sk_bv {s : cS} {A : Nat} {mx my mz : Int64} {d : V3} (h1 : bv mx d.1 A) (h2 : bv my d.2.1 A) (h3 : bv mz d.2.2 A) (hA : A ≤ 1000000) (hb : bd3 (sk s) 400) : bv (mx * (qI s 28 4).toInt64 + my * (qI s 28 5).toInt64 + mz * (qI s 28 6).toInt64) (vd d (sk s)) (A * 400 + A * 400 + A * 400) := bv_dot h1 h2 h3 (bt32 rfl hb.1) (bt32 rfl hb.2.1) (bt32 rfl hb.2.2) (by omega)
theorem bv_e {a b : Int64} {x y : Int} {A B : Nat} (h : bv a x A) (g : bv b y B) : a = b ↔ x = y := by
  rw [← h.1, ← g.1]
  exact Int64.toInt_inj.symm
theorem c_step74 {N K C A : Nat} {mx my mz H : Int64} {hh : Int} {d : V3} {s : cS} (h1 : bv mx d.1 A) (h2 : bv my d.2.1 A) (h3 : bv mz d.2.2 A) (hA : A ≤ 1000000) (bH : bv H hh (A * 400 + A * 400 + A * 400)) (hb : bd3 (sk s) 400) (g3 : qI s 28 3 = Int32.ofNat C) (hC0 : C < 100) (g0 : qI s 30 0 = Int32.ofNat K) (hK : K < 25) : (fxX2_stepOff_74 N 28 mx my mz H (hC s) = some (hC s, 0) ∧ vd d (sk s) = hh) ∨ (∃ s', fxX2_stepOff_74 N 28 mx my mz H (hC s) = some (hC s', 1) ∧ vd d (sk s) ≠ hh ∧ TK s s' K C (sk s)) := by
  have e := bv_e (sk_bv h1 h2 h3 hA hb) bH
  unfold fxX2_stepOff_74
  simp only [gI_2_4 s28, gI_2_5 s28, gI_2_6 s28, Option.bind_some, kO_2 s28]
  by_cases c : mx * (qI s 28 4).toInt64 + my * (qI s 28 5).toInt64 + mz * (qI s 28 6).toInt64 = H
  · rw [if_pos c]
    exact .inl ⟨rfl, e.mp c⟩
  · rw [if_neg c]
    obtain ⟨s', q, t⟩ := c_takeM (N := N) g3 (by omega) g0 hK
    exact .inr ⟨s', by rw [q]; rfl, mt e.mpr c, t⟩
theorem TK_pre {s s1 s' : cS} {K C : Nat} {w : V3} (c : cf (fun i => i = 28) s s1) (r2 : qI s1 28 2 = qI s 28 2) (h : TK s1 s' K C w) : TK s s' K C w := by
  obtain ⟨a, b, x, y, z, o⟩ := h
  have e : ∀ j, pc s1 30 j = pc s 30 j := fun j => by
    unfold pc
    rw [c.A (fun w => by omega), c.A (fun w => by omega), c.A (fun w => by omega)]
  refine ⟨(c.mo (fun i hi => .inl hi)).tr a, b, x, y, fun j hj => (z j hj).trans (e j), ?_⟩
  rw [← r2]
  exact o
theorem c_stepE {N p q : Nat} {mx my mz : Int64} {s s1 : cS} (al : fxX3_along N 30 (0 : Int32) mx my mz (hC s) = some (hC s, hv s 30 mx my mz 0)) (q1 : fxX2_seek N 28 p q mx my mz (hC s) = some (hC s1)) : fxX2_stepOff N 28 p q mx my mz (hC s) = if mx * (qI s1 28 4).toInt64 + my * (qI s1 28 5).toInt64 + mz * (qI s1 28 6).toInt64 = hv s 30 mx my mz 0 then ((fxX2_seek N 28 p q (-mx) (-my) (-mz) (hC s1)).bind fun o => fxX2_stepOff_74 N 28 mx my mz (hv s 30 mx my mz 0) o) else fxX2_stepOff_74 N 28 mx my mz (hv s 30 mx my mz 0) (hC s1) := by
  unfold fxX2_stepOff
  rw [gR_2_0 s28, Option.bind_some, gR_5_0 s29, Option.bind_some, kO_3 s30', Option.bind_some, al, Option.bind_some]
  rw [kO_2 s28, Option.bind_some, q1, Option.bind_some, gI_2_4 s28, Option.bind_some, gI_2_5 s28, Option.bind_some, gI_2_6 s28, Option.bind_some, kO_2 s28, Option.bind_some]
/-- stepOff: a knot off the plane through knot 0, if there is one -/
theorem c_step {N p q n m kp kq K C A : Nat} {mx my mz : Int64} {d : V3} {s : cS} (hN : 600 < N) (h : PQ s p q n m kp kq) (g3 : qI s 28 3 = Int32.ofNat C) (hC0 : C < 100) (g0 : qI s 30 0 = Int32.ofNat K) (hK : K < 25) (b0 : bd3 (pc s 30 0) 400) (h1 : bv mx d.1 A) (h2 : bv my d.2.1 A) (h3 : bv mz d.2.2 A) (hA : A ≤ 1000000) : ∃ s', (fxX2_stepOff N 28 p q mx my mz (hC s) = some (hC s', 0) ∧ cf (fun i => i = 28) s s' ∧ qI s' 28 2 = qI s 28 2 ∧ qI s' 28 3 = qI s 28 3 ∧ ∀ i j, i < kp → j < kq → vd d (va (pc s p i) (pc s q j)) = vd d (pc s 30 0)) ∨ (fxX2_stepOff N 28 p q mx my mz (hC s) = some (hC s', 1) ∧ ∃ i j, (fzz s p q kp kq d i j ∨ fzz s p q kp kq (vm d) i j) ∧ vd d (va (pc s p i) (pc s q j)) ≠ vd d (pc s 30 0) ∧ TK s s' K C (va (pc s p i) (pc s q j))) := by
  have al : fxX3_along N 30 (0 : Int32) mx my mz (hC s) = some (hC s, hv s 30 mx my mz 0) := c_along (j := 0) s30 (by decide) (by decide)
  have bH := hv_bv h1 h2 h3 b0 (by omega)
  obtain ⟨s1, a, b, q1, c1, r2, r3, e1, f1, d1⟩ := c_seekF (mx := mx) (my := my) (mz := mz) hN h h1 h2 h3 hA
  have e := bv_e (sk_bv h1 h2 h3 hA d1) bH
  obtain ⟨P1, pe, qe⟩ := PQ_cf h c1 (fun i hi => by omega)
  have g0' : qI s1 30 0 = Int32.ofNat K := by
    rw [c1.I (fun w => by omega)]
    exact g0
  rw [c_stepE al q1]
  by_cases c : mx * (qI s1 28 4).toInt64 + my * (qI s1 28 5).toInt64 + mz * (qI s1 28 6).toInt64 = hv s 30 mx my mz 0
  · rw [if_pos c]
    obtain ⟨s2, a', b', q2, c2, u2, u3, e2, f2, d2⟩ := c_seekF (mx := -mx) (my := -my) (mz := -mz) (d := vm d) (A := A) hN P1 (bv_neg h1 (by omega)) (bv_neg h2 (by omega)) (bv_neg h3 (by omega)) hA
    rw [q2, Option.bind_some]
    have f2' : fzz s p q kp kq (vm d) a' b' := by
      obtain ⟨x1, x2, x3, x4⟩ := f2
      refine ⟨x1, x2, fun t ht => ?_, fun t ht => ?_⟩
      · have := x3 t ht
        rw [pe, pe] at this
        exact this
      · have := x4 t ht
        rw [qe, qe] at this
        exact this
    have e2' : sk s2 = va (pc s p a') (pc s q b') := by
      rw [e2, pe, qe]
    rcases c_step74 (N := N) h1 h2 h3 hA bH d2 (C := C) (K := K) (by rw [u3, r3]; exact g3) hC0 (by rw [c2.I (fun w => by omega)]; exact g0') hK with ⟨q3, k3⟩ | ⟨s', q3, k3, t3⟩
    · refine ⟨s2, .inl ⟨q3, c1.tr c2, u2.trans r2, u3.trans r3, fun i j hi hj => ?_⟩⟩
      have w1 := fzz_le f1 hi hj
      have w2 := fzz_le f2' hi hj
      rw [vd_vm, vd_vm, ← e2'] at w2
      rw [← e1] at w1
      have w3 := e.mp c
      omega
    · refine ⟨s', .inr ⟨q3, a', b', .inr f2', ?_, ?_⟩⟩
      · rw [← e2']
        exact k3
      · rw [← e2']
        exact TK_pre (c1.tr c2) (u2.trans r2) t3
  · rw [if_neg c]
    rcases c_step74 (N := N) h1 h2 h3 hA bH d1 (C := C) (K := K) (by rw [r3]; exact g3) hC0 g0' hK with ⟨q3, k3⟩ | ⟨s', q3, k3, t3⟩
    · exact absurd k3 (mt e.mpr c)
    · refine ⟨s', .inr ⟨q3, a, b, .inl f1, ?_, ?_⟩⟩
      · rw [← e1]
        exact k3
      · rw [← e1]
        exact TK_pre c1 r2 t3
