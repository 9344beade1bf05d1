theorem cross_bd {a b c : V3} (x0 : bd3 a 101) (x1 : bd3 b 101) (x2 : bd3 c 101) : bd3 (vx (vs b a) (vs c a)) 81608 := by
  have d1 : bd3 (vs b a) 202 := ⟨by have := x1.1; have := x0.1; show (b.1 - a.1).natAbs ≤ 202; omega, by have := x1.2.1; have := x0.2.1; show (b.2.1 - a.2.1).natAbs ≤ 202; omega, by have := x1.2.2; have := x0.2.2; show (b.2.2 - a.2.2).natAbs ≤ 202; omega⟩
  have d2 : bd3 (vs c a) 202 := ⟨by have := x2.1; have := x0.1; show (c.1 - a.1).natAbs ≤ 202; omega, by have := x2.2.1; have := x0.2.1; show (c.2.1 - a.2.1).natAbs ≤ 202; omega, by have := x2.2.2; have := x0.2.2; show (c.2.2 - a.2.2).natAbs ≤ 202; omega⟩
  have mm : ∀ x y : Int, x.natAbs ≤ 202 → y.natAbs ≤ 202 → (x * y).natAbs ≤ 40804 := fun x y hx hy => by
    rw [Int.natAbs_mul]
    exact Nat.mul_le_mul hx hy
  have sb : ∀ x y : Int, x.natAbs ≤ 40804 → y.natAbs ≤ 40804 → (x - y).natAbs ≤ 81608 := fun x y hx hy => by omega
  exact ⟨sb _ _ (mm _ _ d1.2.1 d2.2.2) (mm _ _ d1.2.2 d2.2.1), sb _ _ (mm _ _ d1.2.2 d2.1) (mm _ _ d1.1 d2.2.2), sb _ _ (mm _ _ d1.1 d2.2.1) (mm _ _ d1.2.1 d2.1)⟩
theorem tN_bd {s : cS} {K T t : Nat} (h : SK s K T) (ht : t < T) : bd3 (tN s t) 81608 := by
  obtain ⟨u, v, w, hu, hv, hw, -, -, -, e, -⟩ := h.2.2.2.1 t ht
  rw [e]
  exact cross_bd (h.2.2.2.2.1 u hu) (h.2.2.2.2.1 v hv) (h.2.2.2.2.1 w hw)
/-- whether a sought point lies beyond a row, in whole numbers -/
theorem byd_iff {s : cS} {t : Nat} {x y z : Int32} (hb : bd3 (tN s t) 81608) (hw : bd3 (x.toInt, y.toInt, z.toInt) 400) : ((qA s 35 (4 * t)).toInt64 * x.toInt64 + (qA s 35 (4 * t + 1)).toInt64 * y.toInt64 + (qA s 35 (4 * t + 2)).toInt64 * z.toInt64 ≤ (qA s 35 (4 * t + 3)).toInt64) ↔ vd (tN s t) (x.toInt, y.toInt, z.toInt) ≤ tD s t := by
  have b := bv_dot (x := tN s t) (y := (x.toInt, y.toInt, z.toInt)) (bt32 (a := qA s 35 (4 * t)) rfl hb.1) (bt32 (a := qA s 35 (4 * t + 1)) rfl hb.2.1) (bt32 (a := qA s 35 (4 * t + 2)) rfl hb.2.2) (bt32 (a := x) rfl hw.1) (bt32 (a := y) rfl hw.2.1) (bt32 (a := z) rfl hw.2.2) (by decide)
  rw [Int64.le_iff_toInt_le, b.1, Int32.toInt_toInt64]
  exact Iff.rfl
/-- the rows that are open -/
def op (s : cS) : Nat → Nat
  | 0 => 0
  | T + 1 => op s T + if qA s 36 T = 0 then 1 else 0
theorem op_le (s : cS) (T : Nat) : op s T ≤ T := by
  induction T with
  | zero => exact Nat.le_refl _
  | succ T ih =>
    show op s T + (if qA s 36 T = 0 then 1 else 0) ≤ T + 1
    by_cases c : qA s 36 T = 0
    · rw [if_pos c]
      omega
    · rw [if_neg c]
      omega
theorem op_set {s s' : cS} {j : Nat} (h : qA s 36 j = 0) (e : qA s' 36 = upd (qA s 36) j 1) : ∀ T, op s' T + (if j < T then 1 else 0) = op s T := by
  intro T
  induction T with
  | zero => rfl
  | succ T ih =>
    show op s' T + (if qA s' 36 T = 0 then 1 else 0) + (if j < T + 1 then 1 else 0) = op s T + (if qA s 36 T = 0 then 1 else 0)
    rw [e, upd_at]
    by_cases c : T = j
    · rw [if_pos c, if_neg (show ¬ ((1 : Int32) = 0) by decide), if_pos (show j < T + 1 by omega), c, if_pos h]
      rw [if_neg (show ¬ j < T by omega)] at ih
      rw [c] at ih
      omega
    · rw [if_neg c]
      by_cases l : j < T
      · rw [if_pos l] at ih
        rw [if_pos (show j < T + 1 by omega)]
        omega
      · rw [if_neg l] at ih
        rw [if_neg (show ¬ j < T + 1 by omega)]
        omega
/-- take when there are 24 corners already: it is refused -/
theorem c_takeR {N K C : Nat} {s : cS} (h3 : qI s 28 3 = Int32.ofNat C) (hC0 : C < 2147483647) (hC24 : 24 ≤ C) (h0 : qI s 30 0 = Int32.ofNat K) (hK : K ≤ 25) : ∃ s', fxX2_take N 28 (hC s) = some (hC s') ∧ cf hKn s s' ∧ qI s' 28 2 = 1 := by
  have lt : ¬ (Int32.ofNat C < (24 : Int32)) := by
    have := i_lt (a := C) (b := 24) (by omega) (by omega)
    show ¬ (Int32.ofNat C < Int32.ofNat 24)
    rw [this]
    omega
  have no : ∃ s', fxX2_take_27 N 28 (hC s) = some (hC s') ∧ cf hKn s s' ∧ qI s' 28 2 = 1 := by
    obtain ⟨s', q, c, -, -⟩ := c_put2 (N := N) (x := qI s 28 4) (y := qI s 28 5) (z := qI s 28 6) (s := uI (uI s 28 2 1) 28 3 (Int32.ofNat (C + 1))) s30 (by decide) (k := K) h0 (by omega)
    refine ⟨s', ?_, ((cf_uI _ (.inl rfl)).tr (cf_uI _ (.inl rfl))).tr (c.mo (fun i hi => .inr ⟨hi.1, hi.2⟩)), ?_⟩
    · unfold fxX2_take_27 fxX2_take_32
      rw [sI_2_2 s28, Option.bind_some, gI_2_3 s28, Option.bind_some, show qI (uI s 28 2 1) 28 3 = Int32.ofNat C from h3, i_s, sI_2_3 s28, Option.bind_some, gR_2_0 s28, Option.bind_some, gR_5_0 s29, Option.bind_some, gI_2_4 s28, Option.bind_some, gI_2_5 s28, Option.bind_some, gI_2_6 s28, Option.bind_some, kO_3 s30', Option.bind_some]
      rw [show qI (uI (uI s 28 2 1) 28 3 (Int32.ofNat (C + 1))) 28 4 = qI s 28 4 from rfl, show qI (uI (uI s 28 2 1) 28 3 (Int32.ofNat (C + 1))) 28 5 = qI s 28 5 from rfl, show qI (uI (uI s 28 2 1) 28 3 (Int32.ofNat (C + 1))) 28 6 = qI s 28 6 from rfl]
      exact congrArg (fun x => Option.bind x _) q
    · rw [c.I (fun w => by unfold rg at w; omega)]
      rfl
  unfold fxX2_take
  simp only [gI_2_4 s28, gI_2_5 s28, gI_2_6 s28, Option.bind_some]
  by_cases c : isPt (qI s 28 4) (qI s 28 5) (qI s 28 6)
  · rw [pt_in c]
    simp only [Option.bind_some, gI_2_3 s28, h3]
    rw [if_neg (show ¬ ((1 : Int32) = 0) by decide), if_neg lt]
    exact no
  · rw [pt_no c]
    simp only [Option.bind_some, if_true]
    exact no
/-- the skin while it is wrapped about the sums -/
def WR (Q : cS → Nat → Nat → Prop) (s0 s : cS) (p q kp kq r K T C : Nat) : Prop := cf hL s0 s ∧ SK s K T ∧ Q s K T ∧ qI s 28 2 = 0 ∧ qI s 28 3 = Int32.ofNat C ∧ (K = C + (4 - r) ∧ C ≤ 24) ∧ (∀ j, j < K → (r = 3 ∧ j = 3) ∨ (bd3 (pc s 30 j) 100 ∧ ∃ i i' d, fzz s0 p q kp kq d i i' ∧ pc s 30 j = va (pc s0 p i) (pc s0 q i'))) ∧ (∀ t, t < T → qA s 36 t ≠ 0 → ∀ i j, i < kp → j < kq → vd (tN s t) (va (pc s0 p i) (pc s0 q j)) ≤ tD s t)
/-- why it was refused while it was wrapped -/
def RW (Q : cS → Nat → Nat → Prop) (s0 : cS) (p q kp kq r : Nat) : Prop := ∃ i j d, fzz s0 p q kp kq d i j ∧ (¬ bd3 (va (pc s0 p i) (pc s0 q j)) 100 ∨ ∃ s K T t, WR Q s0 s p q kp kq r K T 24 ∧ t < T ∧ tD s t < vd (tN s t) (va (pc s0 p i) (pc s0 q j)))
/-- what is known of knot j: it is the prop, or a sum that lies farthest along some way -/
def XK (s0 : cS) (p q kp kq r : Nat) : Nat → V3 → Prop := fun j w => (r = 3 ∧ j = 3) ∨ (bd3 w 100 ∧ ∃ i i' d, fzz s0 p q kp kq d i i' ∧ w = va (pc s0 p i) (pc s0 q i'))
/-- what is kept when a row is settled or a knot is attached -/
def QO (Q : cS → Nat → Nat → Prop) (X : Nat → V3 → Prop) : Prop := (∀ s s' K T, Q s K T → qA s' 34 = qA s 34 → qA s' 35 = qA s 35 → (∀ j, j < K → pc s' 30 j = pc s 30 j) → Q s' K T) ∧ (∀ s s' K T T' t, K < 25 → (∀ t, t < T → tO s K t) → (∀ j, j < K + 1 → bd3 (pc s 30 j) 101) → (∀ j, j < K + 1 → X j (pc s 30 j)) → Q s K T → t < T → tD s t < vd (tN s t) (pc s 30 K) → SK s' (K + 1) T' → ATT s s' K T T' → (∀ j, pc s' 30 j = pc s 30 j) → Q s' (K + 1) T')
