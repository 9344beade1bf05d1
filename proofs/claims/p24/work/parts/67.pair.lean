/-- every way is a whole number of times one without a common divisor -/
theorem prim_of {v : V3} (h : v ≠ v0) : ∃ G w, 0 < G ∧ v = vl G w 0 v0 ∧ ∃ x, vd w x = 1 := by
  have hp := vd_pos h
  obtain ⟨g, ⟨g0, x, hx⟩, -, gl⟩ := least (Q := fun k : Nat => 0 < k ∧ ∃ x, vd v x = (k : Int)) (vd v v).toNat ⟨by omega, v, by omega⟩
  have dv : ∀ y, (g : Int) ∣ vd v y := by
    intro y
    have m0 := Int.emod_nonneg (vd v y) (show (g : Int) ≠ 0 by omega)
    have m1 := Int.emod_lt_of_pos (vd v y) (show (0 : Int) < (g : Int) by omega)
    have hm := Int.emod_def (vd v y) (g : Int)
    by_cases c : vd v y % (g : Int) = 0
    · exact Int.dvd_of_emod_eq_zero c
    · exfalso
      refine gl (vd v y % (g : Int)).toNat (by omega) ⟨by omega, vl 1 y (-(vd v y / (g : Int))) x, ?_⟩
      rw [vd_vl, hx, Int.one_mul, Int.neg_mul, Int.mul_comm (vd v y / (g : Int))]
      omega
  obtain ⟨a, ha⟩ := dv (1, 0, 0)
  obtain ⟨b, hb⟩ := dv (0, 1, 0)
  obtain ⟨c, hc⟩ := dv (0, 0, 1)
  have ha' : v.1 = (g : Int) * a := by
    rw [← ha]
    simp [vd]
  have hb' : v.2.1 = (g : Int) * b := by
    rw [← hb]
    simp [vd]
  have hc' : v.2.2 = (g : Int) * c := by
    rw [← hc]
    simp [vd]
  have hv : v = vl (g : Int) (a, b, c) 0 v0 := by
    refine v3_ext ?_ ?_ ?_
    · show v.1 = (g : Int) * a + 0 * 0
      omega
    · show v.2.1 = (g : Int) * b + 0 * 0
      omega
    · show v.2.2 = (g : Int) * c + 0 * 0
      omega
  refine ⟨(g : Int), (a, b, c), by omega, hv, x, ?_⟩
  rw [hv, vd_vl_l, Int.zero_mul, Int.add_zero] at hx
  have h1 : (g : Int) * vd (a, b, c) x = (g : Int) * 1 := by omega
  exact Int.eq_of_mul_eq_mul_left (by omega) h1
/-- of finitely many with H above 0, one with the least X / H -/
theorem least_ratio (X H : Nat → Int) : ∀ m, (∃ k, k < m ∧ 0 < H k) → ∃ k, k < m ∧ 0 < H k ∧ ∀ j, j < m → 0 < H j → X k * H j ≤ X j * H k := by
  intro m
  induction m with
  | zero =>
    intro h
    obtain ⟨k, hk, -⟩ := h
    exact absurd hk (by omega)
  | succ m ih =>
    intro h
    by_cases c : ∃ k, k < m ∧ 0 < H k
    · obtain ⟨k, hk, h0, hl⟩ := ih c
      by_cases hm : 0 < H m
      · by_cases q : X k * H m ≤ X m * H k
        · refine ⟨k, by omega, h0, fun j hj hj0 => ?_⟩
          by_cases w : j = m
          · rw [w]
            exact q
          · exact hl j (by omega) hj0
        · refine ⟨m, by omega, hm, fun j hj hj0 => ?_⟩
          by_cases w : j = m
          · rw [w]
            exact Int.le_refl _
          · have h1 := hl j (by omega) hj0
            -- X m * H k < X k * H m and X k * H j ≤ X j * H k
            have t1 : X m * H k * H j ≤ X k * H m * H j := Int.mul_le_mul_of_nonneg_right (by omega) (by omega)
            have t2 : X k * H j * H m ≤ X j * H k * H m := Int.mul_le_mul_of_nonneg_right h1 (by omega)
            have e1 : X k * H m * H j = X k * H j * H m := by rw [Int.mul_assoc, Int.mul_comm (H m), ← Int.mul_assoc]
            have e2 : X m * H k * H j = H k * (X m * H j) := by rw [Int.mul_comm (X m) (H k), Int.mul_assoc]
            have e3 : X j * H k * H m = H k * (X j * H m) := by rw [Int.mul_comm (X j) (H k), Int.mul_assoc]
            rw [e1] at t1
            rw [e3] at t2
            rw [e2] at t1
            have t3 : 0 ≤ H k * (X j * H m - X m * H j) := by
              rw [Int.mul_sub]
              omega
            have := nn_of_mul h0 t3
            omega
      · refine ⟨k, by omega, h0, fun j hj hj0 => ?_⟩
        by_cases w : j = m
        · rw [w] at hj0
          exact absurd hj0 hm
        · exact hl j (by omega) hj0
    · obtain ⟨k, hk, h0⟩ := h
      have hkm : k = m := by
        by_cases w : k = m
        · exact w
        · exact absurd ⟨k, by omega, h0⟩ c
      rw [hkm] at h0
      refine ⟨m, by omega, h0, fun j hj hj0 => ?_⟩
      by_cases w : j = m
      · rw [w]
        exact Int.le_refl _
      · exact absurd ⟨j, by omega, hj0⟩ c
theorem rp_1 (n1 n2 n3 e1 e2 e3 y1 y2 y3 : Int) : (n2 * e3 - n3 * e2) * (e2 * y3 - e3 * y2) + (n3 * e1 - n1 * e3) * (e3 * y1 - e1 * y3) + (n1 * e2 - n2 * e1) * (e1 * y2 - e2 * y1) = (n1 * e1 + n2 * e2 + n3 * e3) * (e1 * y1 + e2 * y2 + e3 * y3) - (n1 * y1 + n2 * y2 + n3 * y3) * (e1 * e1 + e2 * e2 + e3 * e3) := by grind
theorem lagr (n e y : V3) : vd (vx n e) (vx e y) = vd n e * vd e y - vd n y * vd e e := rp_1 n.1 n.2.1 n.2.2 e.1 e.2.1 e.2.2 y.1 y.2.1 y.2.2
theorem rp_2 (e1 e2 e3 y1 y2 y3 : Int) : (0 - e2) * (y3 - e3) - (0 - e3) * (y2 - e2) = 0 - (e2 * y3 - e3 * y2) := by grind
/-- the plane that is reached by turning about the edge from p to q -/
theorem turn_edge {P : Nat → V3} {m p q : Nat} {n : V3} {d : Int} (hfull : full P m) (hf : fc P m n d) (hp : p < m) (hq : q < m) (ep : vd n (P p) = d) (eq : vd n (P q) = d) (hpq : vs (P q) (P p) ≠ v0) (hl : ∀ k, k < m → vd n (P k) = d → 0 ≤ br n (P p) (P q) (P k)) :
    ∃ n' d', fc P m n' d' ∧ vd n' (P p) = d' ∧ vd n' (P q) = d' ∧ (∃ k, k < m ∧ vd n' (P k) = d' ∧ vd n (P k) < d) ∧ ∀ k, k < m → vd n' (P k) = d' → 0 ≤ br n' (P q) (P p) (P k) ∧ (br n' (P q) (P p) (P k) = 0 → vd n (P k) = d ∧ br n (P p) (P q) (P k) = 0) := by
  have hn0 := prim_pos hf.2.2
  obtain ⟨i0, hi0, hi1⟩ := hfull n d hf.2.2
  have hi2 := hf.1 i0 hi0
  obtain ⟨t, ht, t0, tl⟩ := least_ratio (fun k => br n (P p) (P q) (P k)) (fun k => d - vd n (P k)) m ⟨i0, hi0, by omega⟩
  generalize hE : vs (P q) (P p) = e at *
  have hne : vd n e = 0 := by
    rw [← hE, vd_vs]
    omega
  have E0 := vd_pos hpq
  have hX : ∀ k, br n (P p) (P q) (P k) = vd (vx n e) (vs (P k) (P p)) := by
    intro k
    unfold br
    rw [hE]
    exact tri n e _
  generalize hXt : br n (P p) (P q) (P t) = X at *
  generalize hHt : d - vd n (P t) = H at *
  -- the new way across
  generalize hv : vl (-X) n (-H) (vx n e) = v
  have vval : ∀ k, vd v (vs (P k) (P p)) = X * (d - vd n (P k)) - H * br n (P p) (P q) (P k) := by
    intro k
    rw [← hv, vd_vl_l, ← hX, vd_vs, ep, Int.neg_mul, Int.neg_mul, Int.mul_sub, Int.mul_sub]
    omega
  have vle : ∀ k, k < m → vd v (vs (P k) (P p)) ≤ 0 := by
    intro k hk
    rw [vval k]
    have h1 := hf.1 k hk
    by_cases c : 0 < d - vd n (P k)
    · have h2 : X * (d - vd n (P k)) ≤ br n (P p) (P q) (P k) * H := tl k hk c
      rw [Int.mul_comm H]
      omega
    · have h2 : vd n (P k) = d := by omega
      have h3 := hl k hk h2
      have h4 : d - vd n (P k) = 0 := by omega
      rw [h4, Int.mul_zero]
      have := Int.mul_nonneg (show 0 ≤ H by omega) h3
      omega
  have vq : vd v e = 0 := by
    have h1 := vval q
    rw [hE] at h1
    rw [h1]
    have h2 : d - vd n (P q) = 0 := by omega
    have h3 : br n (P p) (P q) (P q) = 0 := by
      unfold br
      rw [vx_self]
      simp [vd, v0]
    rw [h2, h3, Int.mul_zero, Int.mul_zero]
    rfl
  have vt : vd v (vs (P t) (P p)) = 0 := by
    rw [vval t, hXt, hHt, Int.mul_comm]
    omega
  have vne : v ≠ v0 := by
    intro z
    have h1 : vd v (vx n e) = -H * vd (vx n e) (vx n e) := by
      rw [← hv, vd_vl_l]
      have : vd n (vx n e) = 0 := by
        rw [tri, vx_self]
        simp [vd, v0]
      rw [this, Int.mul_zero, Int.zero_add]
    rw [z] at h1
    have h2 : vd v0 (vx n e) = 0 := by simp [vd, v0]
    rw [h2] at h1
    have h3 : vx n e ≠ v0 := by
      intro z2
      obtain ⟨a1, a2, a3⟩ := along_eq z2
      rw [hne, Int.zero_mul] at a1 a2 a3
      have y : n = v0 := v3_ext (z_of_mul E0 a1) (z_of_mul E0 a2) (z_of_mul E0 a3)
      rw [y] at hn0
      simp [vd, v0] at hn0
    have h4 := vd_pos h3
    have h5 : 0 < H * vd (vx n e) (vx n e) := Int.mul_pos (by omega) h4
    rw [Int.neg_mul] at h1
    omega
  obtain ⟨G, w, G0, hG, hw⟩ := prim_of vne
  have sw : ∀ y, vd v y = G * vd w y := by
    intro y
    rw [hG, vd_vl_l, Int.zero_mul, Int.add_zero]
  have wle : ∀ k, k < m → vd w (P k) ≤ vd w (P p) := by
    intro k hk
    have h1 := vle k hk
    rw [sw, vd_vs] at h1
    by_cases c : vd w (P k) ≤ vd w (P p)
    · exact c
    · have := Int.mul_pos G0 (show 0 < vd w (P k) - vd w (P p) by omega)
      omega
  have wz : ∀ k, vd v (vs (P k) (P p)) = 0 ↔ vd w (P k) = vd w (P p) := by
    intro k
    rw [sw, vd_vs]
    constructor
    · intro h
      have := z_of_mul G0 h
      omega
    · intro h
      have : vd w (P k) - vd w (P p) = 0 := by omega
      rw [this, Int.mul_zero]
  have wq : vd w (P q) = vd w (P p) := (wz q).mp (by rw [hE]; exact vq)
  have wt : vd w (P t) = vd w (P p) := (wz t).mp vt
  refine ⟨w, vd w (P p), ⟨wle, ⟨p, q, t, hp, hq, ht, rfl, wq, wt, ?_⟩, hw⟩, rfl, wq, ⟨t, ht, wt, by omega⟩, ?_⟩
  · rw [hE]
    intro z
    -- then t lies on the line, at height d
    have h1 := along_u n (vx_anti0 z)
    rw [hne, Int.mul_zero] at h1
    have h2 := z_of_mul E0 h1
    rw [vd_vs] at h2
    omega
  · intro k hk hk2
    have hz := (wz k).mpr hk2
    rw [vval k] at hz
    have h1 := hf.1 k hk
    have bw : G * br w (P q) (P p) (P k) = br v (P q) (P p) (P k) := by
      unfold br
      rw [sw]
    have bq : br v (P q) (P p) (P k) = X * br n (P p) (P q) (P k) + H * ((d - vd n (P k)) * vd e e) := by
      have r1 : br v (P q) (P p) (P k) = - br v (P p) (P q) (P k) := by
        rw [br_cyc v (P q) (P p) (P k), br_sw]
      have r2 : br v (P p) (P q) (P k) = vd v (vx e (vs (P k) (P p))) := by
        unfold br
        rw [hE]
      rw [r1, r2, ← hv, vd_vl_l]
      have r3 : vd n (vx e (vs (P k) (P p))) = br n (P p) (P q) (P k) := by
        unfold br
        rw [hE]
      have r4 := lagr n e (vs (P k) (P p))
      rw [hne, Int.zero_mul, vd_vs n, ep] at r4
      rw [r3, r4, Int.neg_mul, Int.neg_mul]
      have r5 : 0 - (vd n (P k) - d) * vd e e = (d - vd n (P k)) * vd e e := by
        rw [Int.sub_mul, Int.sub_mul]
        omega
      rw [r5]
      omega
    generalize br n (P p) (P q) (P k) = Y at *
    generalize hD : d - vd n (P k) = Dk at *
    have d0 : 0 ≤ Dk := by omega
    have hzz : H * Y = X * Dk := by omega
    have key : H * (X * Y + H * (Dk * vd e e)) = Dk * (X * X + H * (H * vd e e)) := by
      have k1 : H * (X * Y) = X * (H * Y) := by rw [← Int.mul_assoc, Int.mul_comm H X, Int.mul_assoc]
      rw [Int.mul_add, k1, hzz, Int.mul_add]
      have k2 : X * (X * Dk) = Dk * (X * X) := by rw [← Int.mul_assoc, Int.mul_comm]
      have k3 : H * (H * (Dk * vd e e)) = Dk * (H * (H * vd e e)) := by
        rw [← Int.mul_assoc Dk, Int.mul_comm Dk H, Int.mul_assoc H Dk, ← Int.mul_assoc Dk H, Int.mul_comm Dk H, Int.mul_assoc H Dk]
      rw [k2, k3]
    have H0 : 0 < H := by omega
    have s1 : 0 < X * X + H * (H * vd e e) := by
      have := sq_nn X
      have := Int.mul_pos H0 (Int.mul_pos H0 E0)
      omega
    have b0 : 0 ≤ X * Y + H * (Dk * vd e e) := nn_of_mul H0 (by rw [key]; exact Int.mul_nonneg d0 (by omega))
    refine ⟨nn_of_mul G0 (by rw [bw, bq]; exact b0), fun z => ?_⟩
    rw [z, Int.mul_zero, bq] at bw
    rw [← bw, Int.mul_zero] at key
    have dz : Dk = 0 := by
      rcases Int.mul_eq_zero.mp key.symm with q | q
      · exact q
      · omega
    rw [dz, Int.mul_zero] at hzz
    exact ⟨by omega, z_of_mul H0 hzz⟩
