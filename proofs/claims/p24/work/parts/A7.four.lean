/-- a row's tips -/
def tip (s : cS) (t u v w : Nat) : Prop := qA s 34 (3 * t) = Int32.ofNat u ∧ qA s 34 (3 * t + 1) = Int32.ofNat v ∧ qA s 34 (3 * t + 2) = Int32.ofNat w
theorem tip_R {s s' : cS} {t u v w : Nat} (h : tip s t u v w) (e : tR s' t = tR s t) : tip s' t u v w := by
  obtain ⟨-, -, a3, a4, a5, -⟩ := tR_N e
  exact ⟨a3.trans h.1, a4.trans h.2.1, a5.trans h.2.2⟩
theorem c_add1 {N K T u v w : Nat} {s : cS} (h : SK s K T) (hT : T < 46) (hu : u < K) (hv : v < K) (hw : w < K) : ∃ s', fxX5_addTriangle N 29 (Int32.ofNat u) (Int32.ofNat v) (Int32.ofNat w) (hC s) = some (hC s') ∧ cf sN s s' ∧ SK s' K (T + 1) ∧ (∀ t, t ≠ T → tR s' t = tR s t) ∧ tip s' T u v w ∧ qA s' 36 T = 0 := by
  obtain ⟨h1, h2, h3, h4, h5, h6⟩ := h
  obtain ⟨s', q, c, k5, k⟩ := c_addT (N := N) (T := T) (u := u) (v := v) (w := w) (s := s) h1.2 h3 (by omega) (by omega) (by omega)
  rcases k with ⟨k1, -⟩ | ⟨k1, k2, k3, k4, k6, k7, k8, k9⟩
  · omega
  · have c' : cf sN s s' := c
    refine ⟨s', q, c', ⟨⟨h1.1, by omega⟩, ?_, k2, ?_, ?_, ?_⟩, k3, ⟨k6, k7, k8⟩, k4⟩
    · rw [c'.I (fun w => by unfold sN at w; omega)]
      exact h2
    · intro t ht
      by_cases d : t = T
      · subst d
        obtain ⟨z1, z2⟩ := k9 (h5 u hu) (h5 v hv) (h5 w hw)
        refine ⟨u, v, w, hu, hv, hw, k6, k7, k8, ?_, ?_, .inl k4⟩
        · rw [sN_pc c', sN_pc c', sN_pc c']
          exact z1
        · rw [sN_pc c']
          exact z2
      · exact tO_R (h4 t (by omega)) (k3 t d) (fun j _ => sN_pc c' j)
    · intro j hj
      rw [sN_pc c']
      exact h5 j hj
    · intro j hj
      rw [c'.A (fun w => by unfold sN at w; omega)]
      exact h6 j hj
/-- the four first rows about a = 2, b = 1, or a = 1, b = 2 -/
def fourR (s : cS) (a b : Nat) : Prop := tip s 0 0 a b ∧ tip s 1 a 0 3 ∧ tip s 2 b a 3 ∧ tip s 3 0 b 3 ∧ ∀ t, t < 4 → qA s 36 t = 0
theorem c_four41 {N K a b : Nat} {s : cS} (h : SK s K 0) (hK : 4 ≤ K) (ha : a < 3) (hb : b < 3) : ∃ s', fxX5_beginWithFour_41 N 29 (Int32.ofNat a) (Int32.ofNat b) (hC s) = some (hC s') ∧ cf sN s s' ∧ SK s' K 4 ∧ fourR s' a b := by
  obtain ⟨s1, q1, c1, k1, r1, p1, o1⟩ := c_add1 (N := N) (u := 0) (v := a) (w := b) h (by omega) (by omega) (by omega) (by omega)
  obtain ⟨s2, q2, c2, k2, r2, p2, o2⟩ := c_add1 (N := N) (u := a) (v := 0) (w := 3) k1 (by omega) (by omega) (by omega) (by omega)
  obtain ⟨s3, q3, c3, k3, r3, p3, o3⟩ := c_add1 (N := N) (u := b) (v := a) (w := 3) k2 (by omega) (by omega) (by omega) (by omega)
  obtain ⟨s4, q4, c4, k4, r4, p4, o4⟩ := c_add1 (N := N) (u := 0) (v := b) (w := 3) k3 (by omega) (by omega) (by omega) (by omega)
  refine ⟨s4, ?_, ((c1.tr c2).tr c3).tr c4, k4, tip_R (tip_R (tip_R p1 (r2 0 (by omega))) (r3 0 (by omega))) (r4 0 (by omega)), tip_R (tip_R p2 (r3 1 (by omega))) (r4 1 (by omega)), tip_R p3 (r4 2 (by omega)), p4, ?_⟩
  · unfold fxX5_beginWithFour_41
    rw [kO_5 s29, Option.bind_some]
    refine Eq.trans (congrArg (fun x => Option.bind x _) q1) ?_
    rw [Option.bind_some, kO_5 s29, Option.bind_some]
    refine Eq.trans (congrArg (fun x => Option.bind x _) q2) ?_
    rw [Option.bind_some, kO_5 s29, Option.bind_some]
    refine Eq.trans (congrArg (fun x => Option.bind x _) q3) ?_
    rw [Option.bind_some, kO_5 s29, Option.bind_some]
    exact congrArg (fun x => Option.bind x _) q4
  · intro t ht
    have e2 : ∀ t, t ≠ 1 → qA s2 36 t = qA s1 36 t := fun t d => (tR_N (r2 t d)).2.2.2.2.2
    have e3 : ∀ t, t ≠ 2 → qA s3 36 t = qA s2 36 t := fun t d => (tR_N (r3 t d)).2.2.2.2.2
    have e4 : ∀ t, t ≠ 3 → qA s4 36 t = qA s3 36 t := fun t d => (tR_N (r4 t d)).2.2.2.2.2
    match t, ht with
    | 0, _ => rw [e4 0 (by omega), e3 0 (by omega), e2 0 (by omega)]; exact o1
    | 1, _ => rw [e4 1 (by omega), e3 1 (by omega)]; exact o2
    | 2, _ => rw [e4 2 (by omega)]; exact o3
    | 3, _ => exact o4
theorem bd3_200 {s : cS} {K T j : Nat} (h : SK s K T) (hj : j < K) : bd3 (pc s 30 j) 200 := bd3_le (h.2.2.2.2.1 j hj) (by decide)
/-- beginWithFour -/
theorem c_four {N K : Nat} {s : cS} (h : SK s K 0) (hK : 4 ≤ K) : ∃ s' a b, fxX5_beginWithFour N 29 (hC s) = some (hC s') ∧ cf sN s s' ∧ SK s' K 4 ∧ fourR s' a b ∧ ((a = 2 ∧ b = 1 ∧ 0 ≤ vd (vx (vs (pc s 30 1) (pc s 30 0)) (vs (pc s 30 2) (pc s 30 0))) (vs (pc s 30 3) (pc s 30 0))) ∨ (a = 1 ∧ b = 2 ∧ vd (vx (vs (pc s 30 1) (pc s 30 0)) (vs (pc s 30 2) (pc s 30 0))) (vs (pc s 30 3) (pc s 30 0)) < 0)) := by
  obtain ⟨v, q, b⟩ := c_box (N := N) (o := 0) (i := 1) (j := 2) (k := 3) (s := s) s30 (by decide) (by decide) (by decide) (by decide) (by decide)
  have bb := b (bd3_200 h (by omega)) (bd3_200 h (by omega)) (bd3_200 h (by omega)) (bd3_200 h (by omega))
  have q' : fxX3_boxOf N 30 (0 : Int32) (1 : Int32) (2 : Int32) (3 : Int32) (hC s) = some (hC s, v) := q
  have le : (0 : Int64) ≤ v ↔ 0 ≤ vd (vx (vs (pc s 30 1) (pc s 30 0)) (vs (pc s 30 2) (pc s 30 0))) (vs (pc s 30 3) (pc s 30 0)) := by
    rw [Int64.le_iff_toInt_le, bb.1]
    exact Iff.rfl
  by_cases c : (0 : Int64) ≤ v
  · obtain ⟨s', q2, c2, k2, f2⟩ := c_four41 (N := N) (a := 2) (b := 1) h hK (by decide) (by decide)
    refine ⟨s', 2, 1, ?_, c2, k2, f2, .inl ⟨rfl, rfl, le.mp c⟩⟩
    unfold fxX5_beginWithFour
    simp only [gR_5_0 s29, kO_3 s30', Option.bind_some, q', if_pos c]
    exact q2
  · obtain ⟨s', q2, c2, k2, f2⟩ := c_four41 (N := N) (a := 1) (b := 2) h hK (by decide) (by decide)
    refine ⟨s', 1, 2, ?_, c2, k2, f2, .inr ⟨rfl, rfl, by have := mt le.mpr c; omega⟩⟩
    unfold fxX5_beginWithFour
    simp only [gR_5_0 s29, kO_3 s30', Option.bind_some, q', if_neg c]
    exact q2
theorem a32_1 {a : Int32} (h : a.toInt.natAbs ≤ 100) : (a + 1).toInt = a.toInt + 1 := by
  rw [Int32.toInt_add]
  exact bm32 (by show (a.toInt + 1).natAbs < 2147483648; omega)
/-- the way in which the prop goes off -/
def propV (n : V3) : V3 := if n.1 = 0 then (if n.2.1 = 0 then (0, 0, 1) else (0, 1, 0)) else (1, 0, 0)
/-- addProp: a knot off the plane of the first three -/
theorem c_prop {N K : Nat} {s : cS} (hK : K < 25) (h3 : 3 ≤ K) (h0 : qI s 30 0 = Int32.ofNat K) (hP : ∀ j, j < K → bd3 (pc s 30 j) 100) : ∃ s', fxX5_addProp N 29 (hC s) = some (hC s') ∧ cf (rg 30 33) s s' ∧ qI s' 30 0 = Int32.ofNat (K + 1) ∧ (∀ j, j < K → pc s' 30 j = pc s 30 j) ∧ pc s' 30 K = va (pc s 30 0) (propV (vx (vs (pc s 30 1) (pc s 30 0)) (vs (pc s 30 2) (pc s 30 0)))) := by
  obtain ⟨v1, q1, b1⟩ := c_acX (N := N) (s := s) (o := 0) (i := 1) (j := 2) s30 (by decide) (by decide) (by decide) (by decide)
  obtain ⟨v2, q2, b2⟩ := c_acY (N := N) (s := s) (o := 0) (i := 1) (j := 2) s30 (by decide) (by decide) (by decide) (by decide)
  have y0 := bd3_le (hP 0 (by omega)) (by decide : 100 ≤ 200)
  have y1 := bd3_le (hP 1 (by omega)) (by decide : 100 ≤ 200)
  have y2 := bd3_le (hP 2 (by omega)) (by decide : 100 ≤ 200)
  have B1 := b1 y0 y1 y2
  have B2 := b2 y0 y1 y2
  have z1 : v1 = 0 ↔ (vx (vs (pc s 30 1) (pc s 30 0)) (vs (pc s 30 2) (pc s 30 0))).1 = 0 := by
    rw [← B1.1, ← Int64.toInt_inj]
    exact Iff.rfl
  have z2 : v2 = 0 ↔ (vx (vs (pc s 30 1) (pc s 30 0)) (vs (pc s 30 2) (pc s 30 0))).2.1 = 0 := by
    rw [← B2.1, ← Int64.toInt_inj]
    exact Iff.rfl
  obtain ⟨-, e1, e2, e3⟩ := pt_sh s30
  have e1' : shp 31 = (10, 25) := e1
  have e2' : shp 32 = (10, 25) := e2
  have e3' : shp 33 = (10, 25) := e3
  have q1' : fxX3_acrossX N 30 (0 : Int32) (1 : Int32) (2 : Int32) (hC s) = some (hC s, v1) := q1
  have q2' : fxX3_acrossY N 30 (0 : Int32) (1 : Int32) (2 : Int32) (hC s) = some (hC s, v2) := q2
  have i1 : aI (hC s) 31 (0 : Int32) = some (qA s 31 0) := aI_N (k := 0) e1' (by decide) (by decide)
  have i2 : aI (hC s) 32 (0 : Int32) = some (qA s 32 0) := aI_N (k := 0) e2' (by decide) (by decide)
  have i3 : aI (hC s) 33 (0 : Int32) = some (qA s 33 0) := aI_N (k := 0) e3' (by decide) (by decide)
  have w1 := a32_1 (a := qA s 31 0) (hP 0 (by omega)).1
  have w2 := a32_1 (a := qA s 32 0) (hP 0 (by omega)).2.1
  have w3 := a32_1 (a := qA s 33 0) (hP 0 (by omega)).2.2
  unfold fxX5_addProp
  simp only [gR_5_0 s29, kO_3 s30', gR_3_1 s30', gR_3_2 s30', gR_3_3 s30', Option.bind_some, q1', q2', i1, i2, i3]
  have fin : ∀ (x y z : Int32) (d : V3), (x.toInt, y.toInt, z.toInt) = va (pc s 30 0) d → propV (vx (vs (pc s 30 1) (pc s 30 0)) (vs (pc s 30 2) (pc s 30 0))) = d → ∃ s', ((fxX3_put N 30 x y z (hC s)).bind fun o => some o) = some (hC s') ∧ cf (rg 30 33) s s' ∧ qI s' 30 0 = Int32.ofNat (K + 1) ∧ (∀ j, j < K → pc s' 30 j = pc s 30 j) ∧ pc s' 30 K = va (pc s 30 0) (propV (vx (vs (pc s 30 1) (pc s 30 0)) (vs (pc s 30 2) (pc s 30 0)))) := by
    intro x y z d e pe
    obtain ⟨s', q, c, -, k⟩ := c_put2 (N := N) (x := x) (y := y) (z := z) s30 (by decide) h0 (by omega)
    obtain ⟨k1, k2⟩ := k hK
    refine ⟨s', by rw [q]; rfl, c, k1, fun j hj => ?_, ?_⟩
    · rw [k2 j, if_neg (by omega)]
    · rw [k2 K, if_pos rfl, pe]
      exact e
  by_cases c1 : v1 = 0
  · rw [if_pos c1]
    by_cases c2 : v2 = 0
    · rw [if_pos c2]
      refine fin _ _ _ (0, 0, 1) ?_ ?_
      · rw [w3]
        exact v3_ext (Int.add_zero _).symm (Int.add_zero _).symm rfl
      · unfold propV
        rw [if_pos (z1.mp c1), if_pos (z2.mp c2)]
    · rw [if_neg c2]
      refine fin _ _ _ (0, 1, 0) ?_ ?_
      · rw [w2]
        exact v3_ext (Int.add_zero _).symm rfl (Int.add_zero _).symm
      · unfold propV
        rw [if_pos (z1.mp c1), if_neg (mt z2.mpr c2)]
  · rw [if_neg c1]
    refine fin _ _ _ (1, 0, 0) ?_ ?_
    · rw [w1]
      exact v3_ext rfl (Int.add_zero _).symm (Int.add_zero _).symm
    · unfold propV
      rw [if_neg (mt z1.mpr c1)]
/-- touches: whether a row has a tip -/
theorem c_touches {N t u v w k : Nat} {s : cS} (ht : t < 46) (h : tip s t u v w) (hu : u < 25) (hv : v < 25) (hw : w < 25) (hk : k < 25) : fxX5_touches N 29 (Int32.ofNat t) (Int32.ofNat k) (hC s) = some (hC s, if u = k ∨ v = k ∨ w = k then 1 else 0) := by
  have ie : ∀ a, a < 25 → ((Int32.ofNat a = Int32.ofNat k) ↔ a = k) := fun a ha => ⟨fun e => i_inj (by omega) (by omega) e, fun e => by rw [e]⟩
  unfold fxX5_touches
  simp only [gR_5_2 s29, Option.bind_some, i_c3, i_s, i_a2, aI_N t34 (by omega : 3 * t < 138) (by decide), aI_N t34 (by omega : 3 * t + 1 < 138) (by decide), aI_N t34 (by omega : 3 * t + 2 < 138) (by decide), h.1, h.2.1, h.2.2, ie u hu, ie v hv, ie w hw]
  by_cases c1 : u = k
  · rw [if_pos c1, if_pos (.inl c1)]
  · rw [if_neg c1]
    by_cases c2 : v = k
    · rw [if_pos c2, if_pos (.inr (.inl c2))]
    · rw [if_neg c2]
      by_cases c3 : w = k
      · rw [if_pos c3, if_pos (.inr (.inr c3))]
      · rw [if_neg c3, if_neg (by omega)]
/-- clear: no row, no knot -/
theorem c_sclear {N : Nat} {s : cS} : fxX5_clear N 29 (hC s) = some (hC (uI (uI s 30 0 0) 29 1 0)) := by
  unfold fxX5_clear fxX3_clear
  simp only [gR_5_0 s29, kO_3 s30', Option.bind_some, sI_3_0 s30', sI_5_1 s29]
