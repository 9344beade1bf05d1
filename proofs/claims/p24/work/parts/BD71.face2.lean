theorem eq64 {a : Int32} {v : Int64} (h : a.toInt = v.toInt) : a.toInt64 = v := Int64.toInt_inj.mp (by rw [Int32.toInt_toInt64]; exact h)
theorem bd_pc {C : cS} {b m : Nat} {s : mS} (h : ∀ j, j < m → pc C (b + 1) j = hp s j ∧ bd3 (hp s j) 100) : ∀ j, j < m → bd3 (pc C (b + 1) j) 100 := fun j hj => by
  rw [(h j hj).1]
  exact (h j hj).2
theorem fc_cg {P P' : Nat → V3} {n : Nat} {m : V3} {d : Int} (e : ∀ j, j < n → P' j = P j) (h : fc P n m d) : fc P' n m d := by
  obtain ⟨a, ⟨i, j, k, hi, hj, hk, b⟩, c⟩ := h
  refine ⟨fun i hi => by rw [e i hi]; exact a i hi, ⟨i, j, k, hi, hj, hk, ?_⟩, c⟩
  rw [e i hi, e j hj, e k hk]
  exact b
theorem aT_cg {P P' : Nat → V3} {n : Nat} {x : V3} {ρ : Nat → Nat} {r : Nat} (e : ∀ j, j < n → P' j = P j) (hρ : ∀ j, j < r → ρ j < n) : ∀ k, k + 2 ≤ r → zs (aT P' x ρ) k = zs (aT P x ρ) k := fun k hk => zs_ext k (fun j hj => by
  unfold aT
  rw [e _ (hρ _ (by omega)), e _ (hρ _ (by omega)), e _ (hρ _ (by omega))])
set_option maxHeartbeats 1000000 in
/-- face -/
theorem sv_face {N : Nat} {C : cS} {s : mS} (hN : 4611686018427387904 < N) (j : JK C s) (a b c : Int32) : ∃ C' v o, fxX6_face N 0 a b c (hC C) = some (hC C', v) ∧ mxX7_face N a b c s = some o ∧ v = o.2 ∧ JK C' o.1 := by
  have j' := j
  obtain ⟨bo, xx, cc, jx⟩ := j
  have ci := jx.1
  have fin : ∀ v s', fi s s' → fxX6_face N 0 a b c (hC C) = some (hC C, v) → mxX7_face N a b c s = some (s', v) → ∃ C' v o, fxX6_face N 0 a b c (hC C) = some (hC C', v) ∧ mxX7_face N a b c s = some o ∧ v = o.2 ∧ JK C' o.1 := fun v s' f e1 e2 => ⟨C, v, _, e1, e2, rfl, JK_read j' cf.rf f⟩
  rcases slot_or a with ha | ⟨i, hi, rfl⟩
  · refine fin (-2000000000) s fi.rf ?_ ?_
    · unfold fxX6_face
      rw [slot_no ha, Option.bind_some]
      rfl
    · unfold mxX7_face
      rw [solid_no ha, Option.bind_some]
      rfl
  · obtain ⟨hb, -, b0, n2⟩ := bodyOf ci hi
    obtain ⟨-, -, b5, b6, b7, b8, -⟩ := isB_sh hb
    by_cases w0 : b < 0
    · have nb : ¬ (0 ≤ b) := fun w => nn_rng w w0
      refine fin (-2000000000) s fi.rf ?_ ?_
      · unfold fxX6_face
        rw [slot_in hi, Option.bind_some]
        dsimp only
        rw [if_neg no1, if_pos w0]
      · unfold mxX7_face
        rw [solid_in hi, Option.bind_some]
        dsimp only
        rw [if_neg (by decide), if_neg nb]
    · have nb : 0 ≤ b := Int32.not_lt.mp w0
      obtain ⟨s1, m, k, F, E, R, rf, ρ, e1, h4, h5, ok, K, br'⟩ := slot_kn (N := N) (g := 0) (by omega) jx hi (by omega)
      have e1' : mxX7_knows N (Int32.ofNat i) 0 s = some s1 := e1
      have f1 : fi s s1 := K.1.fi (by decide)
      obtain ⟨⟨m24, -, F44, E66⟩, ⟨-, -, y3, y4⟩, pts, pls, rzF, ht, er, -⟩ := br'
      have t27 : s1.2.2.1 27 0 = Int32.ofNat F := K.2.2.2.2.2.2.2.1.1
      have m2 : mxX7_face N (Int32.ofNat i) b c s = if b < Int32.ofNat F then (if c = (0 : Int32) then ((rG s1 28 b).bind fun v => some (s1, v)) else (if c = (1 : Int32) then ((rG s1 29 b).bind fun v => some (s1, v)) else (if c = (2 : Int32) then ((rG s1 30 b).bind fun v => some (s1, v)) else (if c = (3 : Int32) then ((rG s1 31 b).bind fun v => some (s1, v)) else (if c = (4 : Int32) then ((rA s1 32 b).bind fun v => some (s1, v.toInt64)) else (if c = (5 : Int32) then ((mxX7_area N b s1).bind fun o => some (o.1, o.2)) else (if c ≤ (5 : Int32) then some (s1, (-2000000000 : Int64)) else ((rA s1 32 b).bind fun v29 => if v29 ≤ (c - (6 : Int32)) then some (s1, (-2000000000 : Int64)) else ((rA s1 33 ((((25 : Int32) * b) + c) - (6 : Int32))).bind fun v32 => some (s1, v32.toInt64)))))))))) else some (s1, (-2000000000 : Int64)) := by
        unfold mxX7_face
        rw [solid_in hi, Option.bind_some]
        dsimp only
        rw [if_neg (by decide), if_pos nb, e1', Option.bind_some, rA_0 (by decide), Option.bind_some, t27]
      by_cases w : b < Int32.ofNat F
      · obtain ⟨f, hf, rfl⟩ := in_rng (by omega) w0 w
        have nle : ¬ (Int32.ofNat F ≤ Int32.ofNat f) := Int32.not_le.mpr w
        rw [if_pos w] at m2
        have rz := rzF (by omega)
        have R0 := rz.2.2.1 f (by omega)
        have R1 := rz.2.2.1 (f + 1) (by omega)
        have Rs := rz.2.1 f hf
        obtain ⟨r3, ring⟩ := rz.2.2.2 f hf
        have t := ht f hf
        rw [Nat.mul_zero, Nat.zero_add] at t
        obtain ⟨t1, t2, t3, t4, t5, t6, t7⟩ := t
        have t6' : ∀ j, j < rf f → s1.2.2.1 33 (25 * f + j) = Int32.ofNat (ρ f j) ∧ ρ f j < m := t6
        have pl := pls f hf
        rw [Nat.mul_zero, Nat.zero_add] at pl
        obtain ⟨pN, pD, bn⟩ := pl
        have c1 : fxX6_face N 0 (Int32.ofNat i) (Int32.ofNat f) c (hC C) = if 0 ≤ c then ((gR (hC C) 0 6 2).bind fun v13 => (aR (hC C) v13 (Int32.ofNat i)).bind fun v15 => if (3 : Int32) < c then ((gR (hC C) v15 0 4).bind fun v18 => (aI (hC C) v18 (Int32.ofNat f)).bind fun v20 => (gR (hC C) v15 0 4).bind fun v22 => (aI (hC C) v22 (Int32.ofNat f + (1 : Int32))).bind fun v24 => if c = (4 : Int32) then some (hC C, (v24 - v20).toInt64) else (if c = (5 : Int32) then ((kO (hC C) v15 0).bind fun _ => (fxX0_wholeArea N v15 (Int32.ofNat f) (hC C)).bind fun o28 => some (o28.1, o28.2)) else (if (v24 - v20) ≤ (c - (6 : Int32)) then some (hC C, (-2000000000 : Int64)) else ((gR (hC C) v15 0 5).bind fun v33 => (aI (hC C) v33 ((v20 + c) - (6 : Int32))).bind fun v35 => some (hC C, v35.toInt64))))) else ((gR (hC C) v15 0 3).bind fun v37 => (aI (hC C) v37 (((4 : Int32) * Int32.ofNat f) + c)).bind fun v39 => some (hC C, v39.toInt64))) else some (hC C, (-2000000000 : Int64)) := by
          unfold fxX6_face
          rw [slot_in hi, Option.bind_some]
          dsimp only
          rw [if_neg no1, if_neg w0]
          refine bndE (gR_6_2 x06) (bndE (aR3 hi (ci.1.2.1 i hi)) (bndE (gI_0_2 b0) ?_))
          rw [y3]
          exact if_neg nle
        have low : ∀ t, t < 4 → c = Int32.ofNat t → fxX6_face N 0 (Int32.ofNat i) (Int32.ofNat f) c (hC C) = some (hC C, (qA C (bo (1 + i) + 5) (4 * f + t)).toInt64) := fun t ht ec => by
          subst ec
          have q1 : 0 ≤ Int32.ofNat t := Int32.not_lt.mp (i_lt0 (by omega))
          have q2 : ¬ ((3 : Int32) < Int32.ofNat t) := by
            have := i_lt (a := 3) (b := t) (by omega) (by omega)
            show ¬ (Int32.ofNat 3 < Int32.ofNat t)
            rw [this]
            omega
          rw [if_pos q1] at c1
          have ea : aI (hC C) (bo (1 + i) + 5) ((4 : Int32) * Int32.ofNat f + Int32.ofNat t) = some (qA C (bo (1 + i) + 5) (4 * f + t)) := by
            rw [i_c4, i_ad]
            exact aI_N b5 (show 4 * f + t < 176 by omega) (by decide)
          exact c1.trans (bndE (gR_6_2 x06) (bndE (aR3 hi (ci.1.2.1 i hi)) ((if_neg q2).trans (bndE (gR_0_3 b0) (bndE ea rfl)))))
        have hN1 : (qA C (bo (1 + i) + 5) (4 * f)).toInt = (s1.2.2.2 28 f).toInt := congrArg (fun v : V3 => v.1) pN
        have hN2 : (qA C (bo (1 + i) + 5) (4 * f + 1)).toInt = (s1.2.2.2 29 f).toInt := congrArg (fun v : V3 => v.2.1) pN
        have hN3 : (qA C (bo (1 + i) + 5) (4 * f + 2)).toInt = (s1.2.2.2 30 f).toInt := congrArg (fun v : V3 => v.2.2) pN
        have hN4 : (qA C (bo (1 + i) + 5) (4 * f + 3)).toInt = (s1.2.2.2 31 f).toInt := pD
        by_cases z0 : c = 0
        · exact fin _ s1 f1 (low 0 (by omega) z0) (m2.trans ((if_pos z0).trans (bndE (rG128 rfl (by omega)) (by rw [← eq64 hN1]; rfl))))
        by_cases z1 : c = 1
        · exact fin _ s1 f1 (low 1 (by omega) z1) (m2.trans ((if_neg z0).trans ((if_pos z1).trans (bndE (rG128 rfl (by omega)) (by rw [← eq64 hN2])))))
        by_cases z2 : c = 2
        · exact fin _ s1 f1 (low 2 (by omega) z2) (m2.trans ((if_neg z0).trans ((if_neg z1).trans ((if_pos z2).trans (bndE (rG128 rfl (by omega)) (by rw [← eq64 hN3]))))))
        by_cases z3 : c = 3
        · exact fin _ s1 f1 (low 3 (by omega) z3) (m2.trans ((if_neg z0).trans ((if_neg z1).trans ((if_neg z2).trans ((if_pos z3).trans (bndE (rG128 rfl (by omega)) (by rw [← eq64 hN4])))))))
        rw [if_neg z0, if_neg z1, if_neg z2, if_neg z3] at m2
        have small : c < 0 → ∃ C' v o, fxX6_face N 0 (Int32.ofNat i) (Int32.ofNat f) c (hC C) = some (hC C', v) ∧ mxX7_face N (Int32.ofNat i) (Int32.ofNat f) c s = some o ∧ v = o.2 ∧ JK C' o.1 := fun lt => by
          have q1 : ¬ (0 ≤ c) := Int32.not_le.mpr lt
          have lt' : c.toInt < 0 := by
            rw [Int32.lt_iff_toInt_lt] at lt
            exact lt
          have n4 : ¬ (c = 4) := fun e => by
            rw [e] at lt'
            exact absurd lt' (by decide)
          have n5 : ¬ (c = 5) := fun e => by
            rw [e] at lt'
            exact absurd lt' (by decide)
          have le5 : c ≤ 5 := by
            rw [Int32.le_iff_toInt_le]
            have : (5 : Int32).toInt = 5 := rfl
            omega
          rw [if_neg q1] at c1
          exact fin (-2000000000) s1 f1 c1 (m2.trans ((if_neg n4).trans ((if_neg n5).trans (if_pos le5))))
        by_cases lt0 : c < 0
        · exact small lt0
        obtain ⟨t, t31, et⟩ : ∃ t : Nat, t < 2147483648 ∧ c = Int32.ofNat t := by
          have hl := Int32.toInt_lt c
          have h0 : 0 ≤ c.toInt := by
            have := Int32.not_lt.mp lt0
            rw [Int32.le_iff_toInt_le] at this
            exact this
          refine ⟨c.toInt.toNat, by omega, ?_⟩
          apply Int32.toInt_inj.mp
          rw [Int32.toInt_ofNat_of_lt (by omega)]
          omega
        subst et
        have t4' : 4 ≤ t := by
          refine Classical.byContradiction fun q => ?_
          rcases (show t = 0 ∨ t = 1 ∨ t = 2 ∨ t = 3 by omega) with e | e | e | e
          · exact z0 (by rw [e]; rfl)
          · exact z1 (by rw [e]; rfl)
          · exact z2 (by rw [e]; rfl)
          · exact z3 (by rw [e]; rfl)
        have q1 : 0 ≤ Int32.ofNat t := Int32.not_lt.mp (i_lt0 (by omega))
        have q2 : (3 : Int32) < Int32.ofNat t := by
          have := i_lt (a := 3) (b := t) (by omega) (by omega)
          show Int32.ofNat 3 < Int32.ofNat t
          rw [this]
          omega
        have len : Int32.ofNat (R (f + 1)) - Int32.ofNat (R f) = Int32.ofNat (rf f) := by
          rw [i_sub (by omega)]
          rw [show R (f + 1) - R f = rf f by omega]
        have c2 : fxX6_face N 0 (Int32.ofNat i) (Int32.ofNat f) (Int32.ofNat t) (hC C) = if Int32.ofNat t = (4 : Int32) then some (hC C, (Int32.ofNat (rf f)).toInt64) else (if Int32.ofNat t = (5 : Int32) then ((kO (hC C) (bo (1 + i)) 0).bind fun _ => (fxX0_wholeArea N (bo (1 + i)) (Int32.ofNat f) (hC C)).bind fun o28 => some (o28.1, o28.2)) else (if Int32.ofNat (rf f) ≤ (Int32.ofNat t - (6 : Int32)) then some (hC C, (-2000000000 : Int64)) else ((gR (hC C) (bo (1 + i)) 0 5).bind fun v33 => (aI (hC C) v33 ((Int32.ofNat (R f) + Int32.ofNat t) - (6 : Int32))).bind fun v35 => some (hC C, v35.toInt64)))) := by
          rw [if_pos q1] at c1
          refine c1.trans (bndE (gR_6_2 x06) (bndE (aR3 hi (ci.1.2.1 i hi)) ((if_pos q2).trans (bndE (gR_0_4 b0) (bndE (aI_N b6 (show f < 45 by omega) (by decide)) (bndE (gR_0_4 b0) ?_))))))
          rw [i_s]
          refine bndE (aI_N b6 (show f + 1 < 45 by omega) (by decide)) ?_
          rw [R0.2, R1.2, len]
        by_cases z4 : Int32.ofNat t = (4 : Int32)
        · exact fin _ s1 f1 (c2.trans (if_pos z4)) (m2.trans ((if_pos z4).trans (bndE (rA128 rfl (by omega)) (by rw [t5]))))
        by_cases z5 : Int32.ofNat t = (5 : Int32)
        · have pe : ∀ j, j < m → pc C (bo (1 + i) + 1) j = hp s1 j := fun j hj => (pts j hj).1
          obtain ⟨x0, hx0⟩ := t1.2.2
          have hx0' := hx0
          rw [← pN] at hx0'
          have fcC : fc (pc C (bo (1 + i) + 1)) m (bN C (bo (1 + i)) f) (bD C (bo (1 + i)) f) := by
            rw [pN, pD]
            exact fc_cg pe t1
          have rgC : rgF (pc C (bo (1 + i) + 1)) m (bN C (bo (1 + i)) f) (bD C (bo (1 + i)) f) (rf f) (ρ f) := by
            rw [pN, pD]
            exact rgF_cg pe t7
          obtain ⟨v, qv, ev⟩ := d_wholeArea (N := N) (x0 := x0) (by omega) hb F44 m24 rz hf bn (bd_pc pts) t3 hx0' fcC rgC
          obtain ⟨h', v', qv', frv, ev'⟩ := m_area (N := N) (x0 := x0) (by omega) m24 F44 hf ht (fun t ht => (pts t ht).2) hx0
          have evv : v' = v := Int64.toInt_inj.mp (by
            rw [ev, ev']
            exact (aT_cg (n := m) (r := rf f) pe (fun j hj => (ring j hj).2) (rf f - 2) (by omega)).symm)
          subst evv
          exact fin v' h' (f1.tr (frv.fi (by decide))) (c2.trans ((if_neg z4).trans ((if_pos z5).trans (bndE (kO_0 b0) (bndE qv rfl))))) (m2.trans ((if_neg z4).trans ((if_pos z5).trans (bndE qv' rfl))))
        have t6 : 6 ≤ t := by
          refine Classical.byContradiction fun q => ?_
          rcases (show t = 4 ∨ t = 5 by omega) with e | e
          · exact z4 (by rw [e]; rfl)
          · exact z5 (by rw [e]; rfl)
        have nle5 : ¬ (Int32.ofNat t ≤ (5 : Int32)) := by
          have := i_le (a := t) (b := 5) (by omega) (by omega)
          show ¬ (Int32.ofNat t ≤ Int32.ofNat 5)
          rw [this]
          omega
        have e6 : Int32.ofNat t - 6 = Int32.ofNat (t - 6) := i_sub (b := 6) (by omega)
        rw [if_neg z4, if_neg z5, e6] at c2
        rw [if_neg z4, if_neg z5, if_neg nle5, e6] at m2
        have m3 := m2.trans (bndE (rA128 rfl (by omega)) rfl)
        rw [t5] at m3
        by_cases le : Int32.ofNat (rf f) ≤ Int32.ofNat (t - 6)
        · exact fin (-2000000000) s1 f1 (c2.trans (if_pos le)) (m3.trans (if_pos le))
        · have lt : t - 6 < rf f := by
            rw [i_le (by omega) (by omega)] at le
            omega
          have i1 : Int32.ofNat (R f) + Int32.ofNat t - 6 = Int32.ofNat (R f + (t - 6)) := by
            rw [i_ad]
            have := i_sub (a := R f + t) (b := 6) (by omega)
            rw [show R f + t - 6 = R f + (t - 6) by omega] at this
            exact this
          have i2 : (25 : Int32) * Int32.ofNat f + Int32.ofNat t - 6 = Int32.ofNat (25 * f + (t - 6)) := by
            rw [i_25]
            have := i_sub (a := 25 * f + t) (b := 6) (by omega)
            rw [show 25 * f + t - 6 = 25 * f + (t - 6) by omega] at this
            exact this
          rw [if_neg le, i1] at c2
          rw [if_neg le, i2] at m3
          exact fin _ s1 f1 (c2.trans (bndE (gR_0_5 b0) (bndE (aI_N b7 (show R f + (t - 6) < 132 by omega) (by decide)) (by rw [(ring _ lt).1])))) (m3.trans (bndE (rA3200 rfl (by omega)) (by rw [(t6' _ lt).1])))
      · rw [if_neg w] at m2
        have le : Int32.ofNat F ≤ b := Int32.not_lt.mp w
        refine fin (-2000000000) s1 f1 ?_ m2
        unfold fxX6_face
        rw [slot_in hi, Option.bind_some]
        dsimp only
        rw [if_neg no1, if_neg w0]
        refine bndE (gR_6_2 x06) (bndE (aR3 hi (ci.1.2.1 i hi)) (bndE (gI_0_2 b0) ?_))
        rw [y3]
        exact if_pos le
