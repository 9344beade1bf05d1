/-- a hull of one point, in the middle of its making -/
def T1 (R : Nat → Nat → Option Nat) (F : Nat) (c x y z : Int32) (s : cS) : Prop := qR s = R ∧ qF s = F ∧ qI s 0 5 = c ∧ qI s 16 0 = 1 ∧ qI s 20 0 = 1 ∧ qA s 17 0 = x ∧ qA s 18 0 = y ∧ qA s 19 0 = z ∧ qA s 21 0 = 0 ∧ qA s 22 0 = 0 ∧ qA s 23 0 = 0 ∧ qI s 30 0 = 1 ∧ qA s 31 0 = x ∧ qA s 32 0 = y ∧ qA s 33 0 = z ∧ qI s 28 2 = 0 ∧ qI s 29 1 = 0 ∧ qI s 7 0 = 0 ∧ qI s 6 2 = 0 ∧ qI s 6 6 = 0
theorem c_along30 {N : Nat} {mx my mz : Int64} {s : cS} : fxX3_along N 30 0 mx my mz (hC s) = some (hC s, mx * (qA s 31 0).toInt64 + my * (qA s 32 0).toInt64 + mz * (qA s 33 0).toInt64) := by
  have k1 : shp 31 = (10, 25) := rfl
  have k2 : shp 32 = (10, 25) := rfl
  have k3 : shp 33 = (10, 25) := rfl
  unfold fxX3_along
  simp only [gR_3_1 s30', gR_3_2 s30', gR_3_3 s30', Option.bind_some, aI_0 k1 (by decide) (by decide), aI_0 k2 (by decide) (by decide), aI_0 k3 (by decide) (by decide)]
theorem c_step {N F : Nat} {R : Nat → Nat → Option Nat} {c x y z : Int32} {mx my mz : Int64} {s : cS} (hT : T1 R F c x y z s) : ∃ s', fxX2_stepOff (N + 1) 28 16 20 mx my mz (hC s) = some (hC s', 0) ∧ T1 R F c x y z s' := by
  obtain ⟨t1, t2, t3, t4, t5, t6, t7, t8, t9, t10, t11, t12, t13, t14, t15, t16, t17, t18, t19, t20⟩ := hT
  generalize hs1 : uI (uI (uI s 28 4 x) 28 5 y) 28 6 z = s1
  generalize hs2 : uI (uI (uI s1 28 4 x) 28 5 y) 28 6 z = s2
  have e1 : ∀ nx ny nz, fxX2_seek (N + 1) 28 16 20 nx ny nz (hC s) = some (hC s1) := by
    intro nx ny nz
    rw [c_seek s28 s16 s20 (by decide) (by decide) (by decide) (by decide) t4 t5, ← hs1]
    simp only [t6, t7, t8, t9, t10, t11, Int32.add_zero, Nat.reduceAdd]
  have e2 : ∀ nx ny nz, fxX2_seek (N + 1) 28 16 20 nx ny nz (hC s1) = some (hC s2) := by
    intro nx ny nz
    rw [c_seek s28 s16 s20 (by decide) (by decide) (by decide) (by decide) (by simp [← hs1, qI_uI, t4]) (by simp [← hs1, qI_uI, t5]), ← hs2]
    have a1 : qA s1 = qA s := by
      rw [← hs1]
      rfl
    simp only [a1, t6, t7, t8, t9, t10, t11, Int32.add_zero, Nat.reduceAdd]
  have b4 : qI s1 28 4 = x := by simp [← hs1, qI_uI]
  have b5 : qI s1 28 5 = y := by simp [← hs1, qI_uI]
  have b6 : qI s1 28 6 = z := by simp [← hs1, qI_uI]
  have d4 : qI s2 28 4 = x := by simp [← hs2, qI_uI]
  have d5 : qI s2 28 5 = y := by simp [← hs2, qI_uI]
  have d6 : qI s2 28 6 = z := by simp [← hs2, qI_uI]
  refine ⟨s2, ?_, ?_⟩
  · unfold fxX2_stepOff
    rw [gR_2_0 s28, Option.bind_some, gR_5_0 s29, Option.bind_some, kO_3 s30', Option.bind_some, c_along30, Option.bind_some]
    dsimp only
    rw [kO_2 s28, Option.bind_some, e1, Option.bind_some, gI_2_4 s28, Option.bind_some, gI_2_5 s28, Option.bind_some, gI_2_6 s28, Option.bind_some, b4, b5, b6, t13, t14, t15, if_pos rfl, kO_2 s28, Option.bind_some, e2, Option.bind_some]
    unfold fxX2_stepOff_74
    rw [gI_2_4 s28, Option.bind_some, gI_2_5 s28, Option.bind_some, gI_2_6 s28, Option.bind_some, d4, d5, d6, if_pos rfl]
  · have i2 : ∀ p k, ¬ (p = 28) → qI s2 p k = qI s p k := by
      intro p k hp
      simp [← hs2, ← hs1, qI_uI, hp]
    have a2 : qA s2 = qA s := by
      rw [← hs2, ← hs1]
      rfl
    have r2 : qR s2 = qR s := by
      rw [← hs2, ← hs1]
      rfl
    have f2 : qF s2 = qF s := by
      rw [← hs2, ← hs1]
      rfl
    have i28 : qI s2 28 2 = qI s 28 2 := by simp [← hs2, ← hs1, qI_uI]
    unfold T1
    rw [a2, r2, f2, i28, i2 0 5 (by decide), i2 16 0 (by decide), i2 20 0 (by decide), i2 30 0 (by decide), i2 29 1 (by decide), i2 7 0 (by decide), i2 6 2 (by decide), i2 6 6 (by decide)]
    exact ⟨t1, t2, t3, t4, t5, t6, t7, t8, t9, t10, t11, t12, t13, t14, t15, t16, t17, t18, t19, t20⟩
theorem c_spread {N F : Nat} {R : Nat → Nat → Option Nat} {c x y z : Int32} {s : cS} (hp : isPt x y z) (t1 : qR s = R) (t2 : qF s = F) (t3 : qI s 0 5 = c) (t4 : qI s 16 0 = 1) (t5 : qI s 20 0 = 1) (t6 : qA s 17 0 = x) (t7 : qA s 18 0 = y) (t8 : qA s 19 0 = z) (t9 : qA s 21 0 = 0) (t10 : qA s 22 0 = 0) (t11 : qA s 23 0 = 0) (t12 : qI s 30 0 = 0) (t13 : qI s 28 3 = 0) (t16 : qI s 28 2 = 0) (t17 : qI s 29 1 = 0) (t18 : qI s 7 0 = 0) (t19 : qI s 6 2 = 0) (t20 : qI s 6 6 = 0) : ∃ s', fxX2_spread (N + 1) 28 16 20 (hC s) = some (hC s', 1) ∧ T1 R F c x y z s' := by
  let s1 := uI (uI (uI s 28 4 x) 28 5 y) 28 6 z
  let s2 := putS (uI s1 28 3 (qI s1 28 3 + 1)) 30 0 (qI s1 28 4) (qI s1 28 5) (qI s1 28 6)
  have q4 : qI s1 28 4 = x := by simp [s1, qI_uI]
  have q5 : qI s1 28 5 = y := by simp [s1, qI_uI]
  have q6 : qI s1 28 6 = z := by simp [s1, qI_uI]
  have q3 : qI s1 28 3 = 0 := by simp [s1, qI_uI, t13]
  have e1 : fxX2_seek (N + 1) 28 16 20 0 0 0 (hC s) = some (hC s1) := by
    rw [c_seek s28 s16 s20 (by decide) (by decide) (by decide) (by decide) t4 t5]
    simp only [t6, t7, t8, t9, t10, t11, Int32.add_zero, Nat.reduceAdd, s1]
  have e2 : fxX2_take (N + 1) 28 (hC s1) = some (hC s2) := c_take (k := 0) (by rw [q4, q5, q6]; exact hp) (by rw [q3]; decide) (by simp [s1, qI_uI, t12]) (by decide)
  have hT2 : T1 R F c x y z s2 := by
    unfold T1
    simp [s2, putS, q4, q5, q6, q3, qI_uI, qA_uI, qR_uI, qF_uI, qI_uA, qA_uA, qR_uA, qF_uA, upd_at]
    simp [s1, qI_uI, qA_uI, qR_uI, qF_uI, t1, t2, t3, t4, t5, t6, t7, t8, t9, t10, t11, t16, t17, t18, t19, t20]
    first | done | rfl
  obtain ⟨s3, e3, hT3⟩ := c_step (N := N) (mx := 1) (my := 0) (mz := 0) hT2
  obtain ⟨s4, e4, hT4⟩ := c_step (N := N) (mx := 0) (my := 1) (mz := 0) hT3
  obtain ⟨s5, e5, hT5⟩ := c_step (N := N) (mx := 0) (my := 0) (mz := 1) hT4
  refine ⟨s5, ?_, hT5⟩
  unfold fxX2_spread
  simp only [gR_2_0 s28, gR_5_0 s29, kO_2 s28, Option.bind_some, e1, e2, e3, e4, e5, if_true]
/-- and the body that holds it -/
def T2 (R : Nat → Nat → Option Nat) (F : Nat) (c : Int32) (s : cS) : Prop := qR s = R ∧ qF s = F ∧ qI s 0 5 = c ∧ qI s 6 0 = 1 ∧ qI s 7 0 = 1 ∧ qI s 6 2 = 0
theorem c_fill {N F : Nat} {R : Nat → Nat → Option Nat} {c x y z : Int32} {s : cS} (hT : T1 R F c x y z s) : ∃ s', fxX2_fill (N + 2) 28 6 1 (hC s) = some (hC s') ∧ T2 R F c s' := by
  obtain ⟨t1, t2, t3, t4, t5, t6, t7, t8, t9, t10, t11, t12, t13, t14, t15, t16, t17, t18, t19, t20⟩ := hT
  have k1 : shp 31 = (10, 25) := rfl
  have k2 : shp 32 = (10, 25) := rfl
  have k3 : shp 33 = (10, 25) := rfl
  have j1 : shp 8 = (10, 24) := rfl
  have j2 : shp 9 = (10, 24) := rfl
  have j3 : shp 10 = (10, 24) := rfl
  have s7' : (shp 7).1 = 3 := rfl
  refine ⟨uA (uA (uA (uI (uI s 6 0 1) 7 0 1) 8 (upd (qA s 8) 0 x)) 9 (upd (qA s 9) 0 y)) 10 (upd (qA s 10) 0 z), ?_, ?_⟩
  · unfold fxX2_fill
    simp only [gR_2_0 s28, gR_5_0 s29, Option.bind_some, sI_0_0 s6, Nat.reduceAdd]
    rw [fxX2_fill_16]
    simp only [gI_3_0 s30', Option.bind_some, qI_uI, t12, show ¬ ((30 : Nat) = 6) by decide, false_and, if_false, show ¬ ((1 : Int32) ≤ 0) by decide, show ¬ ((1 : Int32) = 3) by decide]
    unfold fxX2_fill_36
    simp only [gR_0_1 s6, gR_3_1 s30', gR_3_2 s30', gR_3_3 s30', Option.bind_some, aI_0 k1 (by decide) (by decide), aI_0 k2 (by decide) (by decide), aI_0 k3 (by decide) (by decide), qA_uI, t13, t14, t15, kO_3 s7', Nat.reduceAdd]
    unfold fxX3_putInOrder
    simp only [gI_3_0 s7', gR_3_1 s7', aL_10 j1, Option.bind_some, qI_uI, show ¬ ((7 : Nat) = 6) by decide, false_and, if_false, t18, show (0 : Int32) < Int32.ofNat 24 by decide, if_true, sI_3_0 s7', Nat.reduceAdd]
    rw [fxX3_putInOrder_29, if_pos (by decide)]
    unfold fxX3_putInOrder_88
    simp only [kO_3 s7', Option.bind_some]
    unfold fxX3_replace
    simp only [show ¬ ((0 : Int32) < 0) by decide, if_false, gI_3_0 s7', Option.bind_some, qI_uI, and_self, if_true, show (0 : Int32) < 0 + 1 by decide, gR_3_1 s7', gR_3_2 s7', gR_3_3 s7', wI_0 j1 (by decide) (by decide), wI_0 j2 (by decide) (by decide), wI_0 j3 (by decide) (by decide), Nat.reduceAdd]
    unfold fxX2_fill_64
    rw [fxX2_fill_16]
    simp only [gI_3_0 s30', Option.bind_some, qI_uI, qI_uA, t12, show ¬ ((30 : Nat) = 6) by decide, show ¬ ((30 : Nat) = 7) by decide, false_and, if_false, show ((1 : Int32) ≤ 0 + 1) by decide, if_true]
    rw [fxX2_fill_73]
    simp only [gR_2_0 s28, gI_5_1 s29, Option.bind_some, qI_uI, qI_uA, t17, show ¬ ((29 : Nat) = 6) by decide, show ¬ ((29 : Nat) = 7) by decide, false_and, if_false, if_true, show ((0 : Int32) ≤ 0) by decide, Nat.reduceAdd]
    simp [qA_uA, qA_uI]
  · unfold T2
    simp [qI_uI, qR_uI, qF_uI, qI_uA, qR_uA, qF_uA, t1, t2, t3, t19]
