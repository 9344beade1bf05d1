/-- the least of the thicknesses along the ways that are done -/
def WI (A : Nat → V3) (m : Nat) (done : V3 → Prop) (T U : Int) : Prop := 0 ≤ T ∧ 0 < U ∧ (∃ w g, SPN A m w g ∧ g * g * U = T * vd w w) ∧ ∀ w g, done w → SPN A m w g → T * vd w w ≤ g * g * U
/-- v is as thick as w -/
def SM (A : Nat → V3) (m : Nat) (w : V3) (gw : Int) (v : V3) : Prop := ∀ g, SPN A m v g → g * g * vd w w = gw * gw * vd v v
theorem SM_rf {A : Nat → V3} {m : Nat} {w : V3} {gw : Int} (h : SPN A m w gw) : SM A m w gw w := fun g hg => by
  rw [SPN_u hg h]
theorem wi_1 (G W g : Int) : G * g * (G * g) * W = g * g * (G * (G * W + 0 * 0) + 0 * 0) := by grind
theorem SPN_sc {A : Nat → V3} {m : Nat} {w v : V3} {gw G : Int} (G0 : 0 < G) (e : v = vl G w 0 v0) (h : SPN A m w gw) : SPN A m v (G * gw) := by
  obtain ⟨hw, i, j, hi, hj, h1, h2, eg⟩ := h
  have up : ∀ x, vd v x = G * vd w x := fun x => by
    rw [e, vd_vl_l, Int.zero_mul, Int.add_zero]
  refine ⟨fun z => hw (vl_z G0 (e.symm.trans z)), i, j, hi, hj, fun t ht => ?_, fun t ht => ?_, ?_⟩
  · rw [up, up]
    exact Int.mul_le_mul_of_nonneg_left (h1 t ht) (by omega)
  · rw [up, up]
    exact Int.mul_le_mul_of_nonneg_left (h2 t ht) (by omega)
  · rw [up, up, eg, Int.mul_sub]
theorem SM_sc {A : Nat → V3} {m : Nat} {w v : V3} {gw G : Int} (G0 : 0 < G) (e : v = vl G w 0 v0) (h : SPN A m w gw) : SM A m w gw v := fun g hg => by
  rw [SPN_u hg (SPN_sc G0 e h)]
  have vv : vd v v = G * (G * vd w w + 0 * 0) + 0 * 0 := by
    rw [e, vd_vl_l, vd_vl, vd_comm w v0, vd_0, vd_0]
  rw [vv]
  exact wi_1 _ _ _
theorem wi_a {T U X W V Y : Int} (U0 : 0 < U) (V0 : 0 ≤ V) (W0 : 0 ≤ W) (h : T * V ≤ Y * U) (lt : X * U ≤ T * W) : X * V ≤ Y * W := by
  have a1 := Int.mul_le_mul_of_nonneg_right lt V0
  have a2 := Int.mul_le_mul_of_nonneg_right h W0
  have b1 : X * U * V = U * (X * V) := by grind
  have b2 : T * W * V = T * V * W := by grind
  have b3 : Y * U * W = U * (Y * W) := by grind
  exact Int.le_of_mul_le_mul_left (by omega) U0
theorem wi_b {T U X W V Y : Int} (W0 : 0 < W) (U0 : 0 ≤ U) (e : X * U = T * W) (h : X * V ≤ Y * W) : T * V ≤ Y * U := by
  have a1 := Int.mul_le_mul_of_nonneg_right h U0
  have b1 : X * V * U = X * U * V := by grind
  have b2 : T * W * V = W * (T * V) := by grind
  have b3 : Y * W * U = W * (Y * U) := by grind
  rw [b1, e] at a1
  exact Int.le_of_mul_le_mul_left (by omega) W0
theorem wi_c {T U X W V Y : Int} (W0 : 0 < W) (U0 : 0 ≤ U) (V0 : 0 ≤ V) (e : T * W ≤ X * U) (h : Y * W = X * V) : T * V ≤ Y * U := by
  have a1 := Int.mul_le_mul_of_nonneg_right e V0
  have b1 : T * W * V = W * (T * V) := by grind
  have b2 : X * U * V = X * V * U := by grind
  rw [b1, b2, ← h] at a1
  have b3 : Y * W * U = W * (Y * U) := by grind
  exact Int.le_of_mul_le_mul_left (by omega) W0
theorem WI_mo {A : Nat → V3} {m : Nat} {d d' : V3 → Prop} {T U : Int} (h : WI A m d T U) (e : ∀ v, d' v → d v) : WI A m d' T U := ⟨h.1, h.2.1, h.2.2.1, fun w g hd => h.2.2.2 w g (e w hd)⟩
theorem WI_first {A : Nat → V3} {m : Nat} {d : V3 → Prop} {w : V3} {gw T U : Int} (c : SPN A m w gw) (sim : ∀ v, d v → SM A m w gw v) (T0 : 0 ≤ T) (U0 : 0 < U) (e : gw * gw * U = T * vd w w) : WI A m d T U := ⟨T0, U0, ⟨w, gw, c, e⟩, fun v g hd hg => wi_b (vd_pos c.1) (by omega) e (Int.le_of_eq (sim v hd g hg).symm)⟩
theorem WI_new {A : Nat → V3} {m : Nat} {done d : V3 → Prop} {w : V3} {gw T U T' U' : Int} (h : WI A m done T U) (c : SPN A m w gw) (sim : ∀ v, d v → SM A m w gw v) (lt : gw * gw * U < T * vd w w) (T0 : 0 ≤ T') (U0 : 0 < U') (e : gw * gw * U' = T' * vd w w) : WI A m (fun v => done v ∨ d v) T' U' := by
  refine ⟨T0, U0, ⟨w, gw, c, e⟩, fun v g hd hg => ?_⟩
  rcases hd with hd | hd
  · exact wi_b (vd_pos c.1) (by omega) e (wi_a h.2.1 (vd_nn v) (vd_nn w) (h.2.2.2 v g hd hg) (Int.le_of_lt lt))
  · exact wi_b (vd_pos c.1) (by omega) e (Int.le_of_eq (sim v hd g hg).symm)
theorem WI_old {A : Nat → V3} {m : Nat} {done d : V3 → Prop} {w : V3} {gw T U : Int} (h : WI A m done T U) (c : SPN A m w gw) (sim : ∀ v, d v → SM A m w gw v) (le : ¬ gw * gw * U < T * vd w w) : WI A m (fun v => done v ∨ d v) T U := by
  refine ⟨h.1, h.2.1, h.2.2.1, fun v g hd hg => ?_⟩
  rcases hd with hd | hd
  · exact h.2.2.2 v g hd hg
  · exact wi_c (vd_pos c.1) (by have := h.2.1; omega) (vd_nn v) (by omega) (sim v hd g hg)
/-- where a way that is done is as thin as any: the WIDTH -/
theorem WI_IsW {A : Nat → V3} {m : Nat} {done : V3 → Prop} {T U : Int} (h : WI A m done T U) (g1 : gc 1 T U) (cov : ∀ v g, SPN A m v g → ∃ w g', done w ∧ SPN A m w g' ∧ g' * g' * vd v v ≤ g * g * vd w w) : IsW A m T U := by
  obtain ⟨h1, h2, h3, h4⟩ := h
  refine ⟨h2, g1, h3, fun v g hv => ?_⟩
  obtain ⟨w, g', d, s, l⟩ := cov v g hv
  have k := h4 w g' d s
  have a1 := Int.mul_le_mul_of_nonneg_right k (vd_nn v)
  have a2 := Int.mul_le_mul_of_nonneg_right l (show 0 ≤ U by omega)
  have b1 : T * vd w w * vd v v = vd w w * (T * vd v v) := by grind
  have b2 : g' * g' * U * vd v v = g' * g' * vd v v * U := by grind
  have b3 : g * g * vd w w * U = vd w w * (g * g * U) := by grind
  exact Int.le_of_mul_le_mul_left (show vd w w * (T * vd v v) ≤ vd w w * (g * g * U) by omega) (vd_pos s.1)
theorem low_u {t u t' u' : Int} (u0 : 0 < u) (u0' : 0 < u') (g : gc 1 t u) (g' : gc 1 t' u') (e : t' * u = t * u') : t = t' ∧ u = u' := by
  obtain ⟨-, -, ⟨i, j, k⟩, -, -⟩ := g
  obtain ⟨-, -, ⟨i', j', k'⟩, -, -⟩ := g'
  have d1 : u ∣ u' := by
    refine ⟨i * t' + j * u', ?_⟩
    have : u' = u' * (i * t + j * u) := by rw [← k, Int.mul_one]
    have h : u' * (i * t + j * u) = i * (t * u') + j * u * u' := by grind
    rw [h, ← e] at this
    have h2 : u * (i * t' + j * u') = i * (t' * u) + j * u * u' := by grind
    omega
  have d2 : u' ∣ u := by
    refine ⟨i' * t + j' * u, ?_⟩
    have : u = u * (i' * t' + j' * u') := by rw [← k', Int.mul_one]
    have h : u * (i' * t' + j' * u') = i' * (t' * u) + j' * u' * u := by grind
    rw [h, e] at this
    have h2 : u' * (i' * t + j' * u) = i' * (t * u') + j' * u' * u := by grind
    omega
  have eu := Int.dvd_antisymm (by omega) (by omega) d1 d2
  refine ⟨?_, eu⟩
  rw [eu] at e
  exact (Int.eq_of_mul_eq_mul_right (by omega) e).symm
theorem IsW_u {A : Nat → V3} {m : Nat} {t u t' u' : Int} (h : IsW A m t u) (h' : IsW A m t' u') : t = t' ∧ u = u' := by
  have half : ∀ t u t' u' : Int, IsW A m t u → IsW A m t' u' → t' * u ≤ t * u' := fun t u t' u' h h' => by
    obtain ⟨u0, -, ⟨v, g, s, e⟩, -⟩ := h
    obtain ⟨u0', -, -, l⟩ := h'
    have k := Int.mul_le_mul_of_nonneg_right (l v g s) (show 0 ≤ u by omega)
    have b1 : g * g * u' * u = g * g * u * u' := by grind
    rw [b1, e] at k
    have b2 : t' * vd v v * u = vd v v * (t' * u) := by grind
    have b3 : t * vd v v * u' = vd v v * (t * u') := by grind
    exact Int.le_of_mul_le_mul_left (show vd v v * (t' * u) ≤ vd v v * (t * u') by omega) (vd_pos s.1)
  have h1 := half t u t' u' h h'
  have h2 := half t' u' t u h' h
  exact low_u h.1 h'.1 h.2.1 h'.2.1 (by omega)
theorem SPN_neg {A : Nat → V3} {m : Nat} {w : V3} {g : Int} (h : SPN A m w g) : SPN A m (vs v0 w) g := by
  obtain ⟨hw, i, j, hi, hj, h1, h2, e⟩ := h
  refine ⟨fun z => hw (vs0_z z), j, i, hj, hi, fun t ht => ?_, fun t ht => ?_, ?_⟩
  · rw [neg_vd, neg_vd]
    have := h2 t ht
    omega
  · rw [neg_vd, neg_vd]
    have := h1 t ht
    omega
  · rw [neg_vd, neg_vd]
    omega
theorem vd_neg2 (w : V3) : vd (vs v0 w) (vs v0 w) = vd w w := by
  rw [neg_vd, vd_comm, neg_vd]
  omega
theorem sp_a (W M g K L : Int) (h1 : W * g = K * L) (h2 : W * M = K * K) : W * (g * g * W) = W * (L * L * M) := by
  have e1 : W * (g * g * W) = (W * g) * (W * g) := by grind
  have e2 : W * (L * L * M) = L * L * (W * M) := by grind
  rw [e1, e2, h1, h2]
  grind
/-- ways that lie along one another are as thick -/
theorem SPN_par {A : Nat → V3} {m : Nat} {w M : V3} {gw g : Int} (par : vx M w = v0) (hw : SPN A m w gw) (hM : SPN A m M g) : g * g * vd w w = gw * gw * vd M M := by
  have w0 := vd_pos hw.1
  have al : ∀ x, vd w w * vd M x = vd M w * vd w x := fun x => by
    have := along_u x par
    rw [vd_comm x M, vd_comm x w] at this
    exact this
  have k2 := al M
  rw [vd_comm w M] at k2
  obtain ⟨-, i, j, hi, hj, h1, h2, e⟩ := hw
  obtain ⟨hM0, i', j', hi', hj', h1', h2', e'⟩ := hM
  have M0 := vd_pos hM0
  have s0 : vd M w ≠ 0 := fun z => by
    rw [z, Int.zero_mul] at k2
    have := Int.mul_pos w0 M0
    omega
  have fin : ∀ L : Int, vd w w * g = vd M w * L → L * L = gw * gw → g * g * vd w w = gw * gw * vd M M := fun L hL hL2 => by
    have := sp_a _ _ _ _ _ hL k2
    rw [hL2] at this
    exact Int.eq_of_mul_eq_mul_left (by omega) this
  by_cases s : 0 < vd M w
  · refine fin gw ?_ rfl
    -- the same ends
    have a1 : vd M (A i') = vd M (A i) := by
      have l1 := h1' i hi
      have l2 := Int.mul_le_mul_of_nonneg_left (h1 i' hi') (show 0 ≤ vd M w by omega)
      rw [← al, ← al] at l2
      have := Int.le_of_mul_le_mul_left l2 w0
      omega
    have a2 : vd M (A j') = vd M (A j) := by
      have l1 := h2' j hj
      have l2 := Int.mul_le_mul_of_nonneg_left (h2 j' hj') (show 0 ≤ vd M w by omega)
      rw [← al, ← al] at l2
      have := Int.le_of_mul_le_mul_left l2 w0
      omega
    rw [e', a1, a2, e, Int.mul_sub, Int.mul_sub, al, al]
  · refine fin (-gw) ?_ (by rw [Int.neg_mul_neg])
    have a1 : vd M (A i') = vd M (A j) := by
      have l1 := h1' j hj
      have l2 := Int.mul_le_mul_of_nonpos_left (show vd M w ≤ 0 by omega) (h2 i' hi')
      rw [← al, ← al] at l2
      have := Int.le_of_mul_le_mul_left l2 w0
      omega
    have a2 : vd M (A j') = vd M (A i) := by
      have l1 := h2' i hi
      have l2 := Int.mul_le_mul_of_nonpos_left (show vd M w ≤ 0 by omega) (h1 j' hj')
      rw [← al, ← al] at l2
      have := Int.le_of_mul_le_mul_left l2 w0
      omega
    rw [e', a1, a2, e, Int.mul_sub, al, al, Int.mul_neg, Int.mul_sub]
    omega
