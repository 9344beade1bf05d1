theorem dv64b {a G : Int64} {g T : Int} (hG : G.toInt = g) (g0 : g ≠ 0) (h : a.toInt = T * g) (hT : T.natAbs < 9223372036854775808) : (a / G).toInt = T := by
  rw [Int64.toInt_div, h, hG, Int.mul_tdiv_cancel _ g0]
  exact bm hT
theorem pm_0 (a b c d x y n1 n2 n3 m1 : Int) (h : a * n1 - 1 * m1 = x * 0 - y * 0) : m1 = a * n1 + 0 * 0 := by omega
/-- what lies along a way without a common divisor is a whole multiple of it -/
theorem par_mul {n M x : V3} (hx : vd n x = 1) (h : vx n M = v0) : M = vl (vd M x) n 0 v0 := by
  have r1 := ri_10 n.1 n.2.1 n.2.2 M.1 M.2.1 M.2.2 x.1 x.2.1 x.2.2
  have r2 := ri_11 n.1 n.2.1 n.2.2 M.1 M.2.1 M.2.2 x.1 x.2.1 x.2.2
  have r3 := ri_12 n.1 n.2.1 n.2.2 M.1 M.2.1 M.2.2 x.1 x.2.1 x.2.2
  have hx' : n.1 * x.1 + n.2.1 * x.2.1 + n.2.2 * x.2.2 = 1 := hx
  rw [vx_3 h, vx_2 h, hx'] at r1
  rw [vx_1 h, vx_3 h, hx'] at r2
  rw [vx_2 h, vx_1 h, hx'] at r3
  refine v3_ext ?_ ?_ ?_
  · show M.1 = (M.1 * x.1 + M.2.1 * x.2.1 + M.2.2 * x.2.2) * n.1 + 0 * 0
    omega
  · show M.2.1 = (M.1 * x.1 + M.2.1 * x.2.1 + M.2.2 * x.2.2) * n.2.1 + 0 * 0
    omega
  · show M.2.2 = (M.1 * x.1 + M.2.1 * x.2.1 + M.2.2 * x.2.2) * n.2.2 + 0 * 0
    omega
/-- the pieces of a ring's area -/
def aT (P : Nat → V3) (x : V3) (ρ : Nat → Nat) (j : Nat) : Int := vd (vx (vs (P (ρ (j + 1))) (P (ρ 0))) (vs (P (ρ (j + 2))) (P (ρ 0)))) x
theorem aT_v {P : Nat → V3} {n r j : Nat} {m x : V3} {d : Int} {ρ : Nat → Nat} (hx : vd m x = 1) (hf : fc P n m d) (h : rgF P n m d r ρ) (hj : j + 2 < r) : vx (vs (P (ρ (j + 1))) (P (ρ 0))) (vs (P (ρ (j + 2))) (P (ρ 0))) = vl (aT P x ρ j) m 0 v0 := by
  obtain ⟨v, -⟩ := rgF_v hf h
  refine par_mul hx (cross_along ?_ ?_)
  · rw [vd_vs, (v _ (by omega)).2.1, (v 0 (by omega)).2.1]
    omega
  · rw [vd_vs, (v _ (by omega)).2.1, (v 0 (by omega)).2.1]
    omega
theorem aT_bd {P : Nat → V3} {n r j : Nat} {m x : V3} {d : Int} {ρ : Nat → Nat} (hx : vd m x = 1) (hf : fc P n m d) (h : rgF P n m d r ρ) (hj : j + 2 < r) (bd : ∀ j, j < n → bd3 (P j) 100) : (aT P x ρ j).natAbs ≤ 80000 := by
  have e := aT_v hx hf h hj
  obtain ⟨v, -⟩ := rgF_v hf h
  have b0 := bd _ (v 0 (by omega)).1
  have b1 := bd _ (v (j + 1) (by omega)).1
  have b2 := bd _ (v (j + 2) (by omega)).1
  have cb : bd3 (vx (vs (P (ρ (j + 1))) (P (ρ 0))) (vs (P (ρ (j + 2))) (P (ρ 0)))) 80000 := by
    have s : ∀ a b : Int, a.natAbs ≤ 100 → b.natAbs ≤ 100 → (a - b).natAbs ≤ 200 := fun a b ha hb => by omega
    have p : ∀ a b : Int, a.natAbs ≤ 200 → b.natAbs ≤ 200 → (a * b).natAbs ≤ 40000 := fun a b ha hb => by
      rw [Int.natAbs_mul]
      exact Nat.mul_le_mul ha hb
    have q : ∀ a b c d : Int, a.natAbs ≤ 200 → b.natAbs ≤ 200 → c.natAbs ≤ 200 → d.natAbs ≤ 200 → (a * b - c * d).natAbs ≤ 80000 := fun a b c d h1 h2 h3 h4 => by
      have := p a b h1 h2
      have := p c d h3 h4
      omega
    have x1 := s _ _ b1.1 b0.1
    have x2 := s _ _ b1.2.1 b0.2.1
    have x3 := s _ _ b1.2.2 b0.2.2
    have y1 := s _ _ b2.1 b0.1
    have y2 := s _ _ b2.2.1 b0.2.1
    have y3 := s _ _ b2.2.2 b0.2.2
    exact ⟨q _ _ _ _ x2 y3 x3 y2, q _ _ _ _ x3 y1 x1 y3, q _ _ _ _ x1 y2 x2 y1⟩
  rw [e] at cb
  obtain ⟨c1, c2, c3⟩ := cb
  have nz : m.1 ≠ 0 ∨ m.2.1 ≠ 0 ∨ m.2.2 ≠ 0 := by
    by_cases z1 : m.1 = 0
    · by_cases z2 : m.2.1 = 0
      · by_cases z3 : m.2.2 = 0
        · exfalso
          have : m.1 * x.1 + m.2.1 * x.2.1 + m.2.2 * x.2.2 = 1 := hx
          rw [z1, z2, z3] at this
          omega
        · exact .inr (.inr z3)
      · exact .inr (.inl z2)
    · exact .inl z1
  have g : ∀ a b : Int, b ≠ 0 → (a * b + 0 * 0).natAbs ≤ 80000 → a.natAbs ≤ 80000 := fun a b hb h => by
    rw [show a * b + 0 * 0 = a * b by omega, Int.natAbs_mul] at h
    have h1 : a.natAbs * 1 ≤ a.natAbs * b.natAbs := Nat.mul_le_mul_left _ (by omega)
    omega
  rcases nz with z | z | z
  · exact g _ _ z c1
  · exact g _ _ z c2
  · exact g _ _ z c3
theorem zs_bd {f : Nat → Int} {A : Nat} : ∀ n, (∀ k, k < n → (f k).natAbs ≤ A) → (zs f n).natAbs ≤ A * n := by
  intro n
  induction n with
  | zero =>
    intro _
    show (0 : Int).natAbs ≤ _
    omega
  | succ n ih =>
    intro h
    have h1 := ih (fun k hk => h k (by omega))
    have h2 := h n (by omega)
    show (zs f n + f n).natAbs ≤ A * (n + 1)
    have e : A * (n + 1) = A * n + A := Nat.mul_succ A n
    omega
/-- wholeArea, and its value -/
theorem d_wa16 {N b n F f : Nat} {R rf : Nat → Nat} {ρ : Nat → Nat → Nat} {C : cS} {x0 : V3} (hb : isB b) (hF : F ≤ 44) (hn : n ≤ 24) (rz : RZ C b n F R rf ρ) (hf : f < F) (bn : bd3 (bN C b f) 81608) (bd : ∀ j, j < n → bd3 (pc C (b + 1) j) 100) (r25 : rf f ≤ 25) (hx : vd (bN C b f) x0 = 1) (hfc : fc (pc C (b + 1)) n (bN C b f) (bD C b f)) (rg : rgF (pc C (b + 1)) n (bN C b f) (bD C b f) (rf f) (ρ f)) : ∀ (q j fu : Nat) (x : Int64), j + q + 2 = rf f → q < fu → bv x (zs (aT (pc C (b + 1)) x0 (ρ f)) j * vd (bN C b f) (bN C b f)) (78343680000 * j) → ∃ v : Int64, fxX0_wholeArea_16 N fu b (Int32.ofNat f) x (Int32.ofNat (R f)) (Int32.ofNat (R f + (j + 1))) (hC C) = some (hC C, v) ∧ v.toInt = zs (aT (pc C (b + 1)) x0 (ρ f)) (rf f - 2) := by
  obtain ⟨h0, hp, h5, h6, h7, -⟩ := isB_sh hb
  obtain ⟨-, hR, hQ, hρ⟩ := rz
  have R132 := (hQ (f + 1) (by omega)).1
  have e1 := (hQ (f + 1) (by omega)).2
  have Rs := hR f hf
  obtain ⟨r3, hρ⟩ := hρ f hf
  have hm := prim_pos hfc.2.2
  intro q
  induction q with
  | zero =>
    intro j fu x hj hfu hx'
    obtain ⟨fu', rfl⟩ : ∃ f', fu = f' + 1 := ⟨fu - 1, by omega⟩
    have le : Int32.ofNat (R (f + 1)) ≤ Int32.ofNat (R f + (j + 1) + 1) := by
      rw [i_le (by omega) (by omega)]
      omega
    obtain ⟨c1, c2, -⟩ := i_c4s f
    have st : bv ((qA C (b + 5) (4 * f)).toInt64 * (qA C (b + 5) (4 * f)).toInt64 + (qA C (b + 5) (4 * f + 1)).toInt64 * (qA C (b + 5) (4 * f + 1)).toInt64 + (qA C (b + 5) (4 * f + 2)).toInt64 * (qA C (b + 5) (4 * f + 2)).toInt64) (vd (bN C b f) (bN C b f)) (81608 * 81608 + 81608 * 81608 + 81608 * 81608) := bv_dot (x := bN C b f) (y := bN C b f) (bt32 (a := qA C (b + 5) (4 * f)) rfl bn.1) (bt32 (a := qA C (b + 5) (4 * f + 1)) rfl bn.2.1) (bt32 (a := qA C (b + 5) (4 * f + 2)) rfl bn.2.2) (bt32 (a := qA C (b + 5) (4 * f)) rfl bn.1) (bt32 (a := qA C (b + 5) (4 * f + 1)) rfl bn.2.1) (bt32 (a := qA C (b + 5) (4 * f + 2)) rfl bn.2.2) (by decide)
    have nle : ¬ ((qA C (b + 5) (4 * f)).toInt64 * (qA C (b + 5) (4 * f)).toInt64 + (qA C (b + 5) (4 * f + 1)).toInt64 * (qA C (b + 5) (4 * f + 1)).toInt64 + (qA C (b + 5) (4 * f + 2)).toInt64 * (qA C (b + 5) (4 * f + 2)).toInt64 ≤ (0 : Int64)) := by
      rw [i64_le (y := 0) st.1 rfl]
      omega
    have nz : ¬ ((qA C (b + 5) (4 * f)).toInt64 * (qA C (b + 5) (4 * f)).toInt64 + (qA C (b + 5) (4 * f + 1)).toInt64 * (qA C (b + 5) (4 * f + 1)).toInt64 + (qA C (b + 5) (4 * f + 2)).toInt64 * (qA C (b + 5) (4 * f + 2)).toInt64 = (0 : Int64)) := by
      rw [i64_eq (y := 0) st.1 rfl]
      omega
    refine ⟨x / ((qA C (b + 5) (4 * f)).toInt64 * (qA C (b + 5) (4 * f)).toInt64 + (qA C (b + 5) (4 * f + 1)).toInt64 * (qA C (b + 5) (4 * f + 1)).toInt64 + (qA C (b + 5) (4 * f + 2)).toInt64 * (qA C (b + 5) (4 * f + 2)).toInt64), ?_, ?_⟩
    · rw [fxX0_wholeArea_16, i_s, i_s, c1, c2, i_c4]
      refine bndE (gR_0_4 h0) (bndE (aI_N h6 (show f + 1 < 45 by omega) (by decide)) ?_)
      rw [e1]
      exact (if_pos le).trans (bndE (gR_0_3 h0) (bndE (aI_N h5 (show 4 * f < 176 by omega) (by decide)) (bndE (gR_0_3 h0) (bndE (aI_N h5 (show 4 * f + 1 < 176 by omega) (by decide)) (bndE (gR_0_3 h0) (bndE (aI_N h5 (show 4 * f + 2 < 176 by omega) (by decide)) (bndE c_steep ((if_neg nle).trans (if_neg nz)))))))))
    · have ej : rf f - 2 = j := by omega
      rw [ej]
      refine dv64b st.1 (by omega) hx'.1 ?_
      have := zs_bd (f := aT (pc C (b + 1)) x0 (ρ f)) (A := 80000) j (fun k hk => aT_bd hx hfc rg (by omega) bd)
      have : 80000 * j ≤ 80000 * 25 := Nat.mul_le_mul_left _ (by omega)
      omega
  | succ q ih =>
    intro j fu x hj hfu hx'
    obtain ⟨fu', rfl⟩ : ∃ f', fu = f' + 1 := ⟨fu - 1, by omega⟩
    have nle : ¬ (Int32.ofNat (R (f + 1)) ≤ Int32.ofNat (R f + (j + 1) + 1)) := by
      rw [i_le (by omega) (by omega)]
      omega
    obtain ⟨y0, l0⟩ := hρ 0 (by omega)
    obtain ⟨y1, l1⟩ := hρ (j + 1) (by omega)
    obtain ⟨y2, l2⟩ := hρ (j + 2) (by omega)
    obtain ⟨v, qv, bvv⟩ := c_facingV (N := N) (s := C) hb (show f < 44 by omega) (show ρ f 0 < 24 by omega) (show ρ f (j + 1) < 24 by omega) (show ρ f (j + 2) < 24 by omega) bn (bd _ l0) (bd _ l1) (bd _ l2)
    have br' : br (bN C b f) (pc C (b + 1) (ρ f 0)) (pc C (b + 1) (ρ f (j + 1))) (pc C (b + 1) (ρ f (j + 2))) = aT (pc C (b + 1)) x0 (ρ f) j * vd (bN C b f) (bN C b f) := by
      unfold br
      rw [aT_v hx hfc rg (by omega), vl_d2]
    have sum : bv (x + v) (zs (aT (pc C (b + 1)) x0 (ρ f)) (j + 1) * vd (bN C b f) (bN C b f)) (78343680000 * (j + 1)) := by
      have h1 := bv_add hx' bvv (by omega)
      rw [br', ← Int.add_mul] at h1
      exact bv_le h1 (by omega)
    obtain ⟨v', q', ev⟩ := ih (j + 1) fu' (x + v) (by omega) (by omega) sum
    refine ⟨v', ?_, ev⟩
    have es : Int32.ofNat (R f + (j + 1)) + 1 = Int32.ofNat (R f + (j + 2)) := i_s (R f + (j + 1))
    have nle' : ¬ (Int32.ofNat (R (f + 1)) ≤ Int32.ofNat (R f + (j + 2))) := nle
    rw [fxX0_wholeArea_16, i_s, es]
    refine bndE (gR_0_4 h0) (bndE (aI_N h6 (show f + 1 < 45 by omega) (by decide)) ?_)
    rw [e1]
    refine (if_neg nle').trans (bndE (gR_0_5 h0) (bndE (aI_N h7 (show R f < 132 by omega) (by decide)) (bndE (gR_0_5 h0) (bndE (aI_N h7 (show R f + (j + 1) < 132 by omega) (by decide)) (bndE (gR_0_5 h0) (bndE (aI_N h7 (show R f + (j + 2) < 132 by omega) (by decide)) (bndE (kO_0 h0) ?_)))))))
    have y0' : qA C (b + 7) (R f) = Int32.ofNat (ρ f 0) := y0
    rw [y0', y1, y2]
    exact bndE qv q'
theorem d_wholeArea {N b n F f : Nat} {R rf : Nat → Nat} {ρ : Nat → Nat → Nat} {C : cS} {x0 : V3} (hN : 600 < N) (hb : isB b) (hF : F ≤ 44) (hn : n ≤ 24) (rz : RZ C b n F R rf ρ) (hf : f < F) (bn : bd3 (bN C b f) 81608) (bd : ∀ j, j < n → bd3 (pc C (b + 1) j) 100) (r25 : rf f ≤ 25) (hx : vd (bN C b f) x0 = 1) (hfc : fc (pc C (b + 1)) n (bN C b f) (bD C b f)) (rg : rgF (pc C (b + 1)) n (bN C b f) (bD C b f) (rf f) (ρ f)) : ∃ v : Int64, fxX0_wholeArea N b (Int32.ofNat f) (hC C) = some (hC C, v) ∧ v.toInt = zs (aT (pc C (b + 1)) x0 (ρ f)) (rf f - 2) := by
  obtain ⟨h0, hp, h5, h6, h7, -⟩ := isB_sh hb
  have R0 := rz.2.2.1 f (by omega)
  have r3 := (rz.2.2.2 f hf).1
  obtain ⟨v, q, e⟩ := d_wa16 (N := N) hb hF hn rz hf bn bd r25 hx hfc rg (rf f - 2) 0 N 0 (by omega) (by omega) ⟨by rw [show zs (aT (pc C (b + 1)) x0 (ρ f)) 0 = 0 from rfl, Int.zero_mul]; rfl, by rw [show zs (aT (pc C (b + 1)) x0 (ρ f)) 0 = 0 from rfl, Int.zero_mul]; exact Nat.zero_le _⟩
  refine ⟨v, ?_, e⟩
  unfold fxX0_wholeArea
  refine bndE (gR_0_4 h0) (bndE (aI_N h6 (show f < 45 by omega) (by decide)) ?_)
  rw [R0.2, i_s]
  exact q
/-- the reference's area, and its value -/
theorem m_ar26 {N m F f : Nat} {rf : Nat → Nat} {ρ : Nat → Nat → Nat} {s : mS} {x0 : V3} (hm : m ≤ 24) (hF : F ≤ 44) (hf : f < F) (ht : tbF (hp s) m s 0 F rf ρ) (bd : ∀ t, t < m → bd3 (hp s t) 100) (hx : vd (fN s f) x0 = 1) : ∀ (q j fu : Nat) (x y z : Int64) (h : mS), j + q + 2 = rf f → q < fu → fr [24, 25, 26] s h → bv x (zs (aT (hp s) x0 (ρ f)) j * (fN s f).1) (320000 * j) → bv y (zs (aT (hp s) x0 (ρ f)) j * (fN s f).2.1) (320000 * j) → bv z (zs (aT (hp s) x0 (ρ f)) j * (fN s f).2.2) (320000 * j) → ∃ (h' : mS) (v : Int64), mxX7_area_26 N fu (Int32.ofNat f) x y z (Int32.ofNat (j + 1)) h = some (h', v) ∧ fr [24, 25, 26] s h' ∧ v.toInt = zs (aT (hp s) x0 (ρ f)) (rf f - 2) := by
  have t := ht f hf
  rw [Nat.mul_zero, Nat.zero_add] at t
  obtain ⟨t1, t2, t3, t4, t5, t6, t7⟩ := t
  have t6' : ∀ j, j < rf f → s.2.2.1 33 (25 * f + j) = Int32.ofNat (ρ f j) ∧ ρ f j < m := t6
  intro q
  induction q with
  | zero =>
    intro j fu x y z h hj hfu f1 bx by' bz
    obtain ⟨fu', rfl⟩ : ∃ f', fu = f' + 1 := ⟨fu - 1, by omega⟩
    have e28 : h.2.2.2 28 = s.2.2.2 28 := f1.G (by decide)
    have e29 : h.2.2.2 29 = s.2.2.2 29 := f1.G (by decide)
    have e30 : h.2.2.2 30 = s.2.2.2 30 := f1.G (by decide)
    have ej : rf f - 2 = j := by omega
    have zb := zs_bd (f := aT (hp s) x0 (ρ f)) (A := 80000) j (fun k hk => aT_bd hx t1 t7 (by omega) bd)
    have jb : 80000 * j ≤ 80000 * 25 := Nat.mul_le_mul_left _ (by omega)
    have le : Int32.ofNat (rf f) ≤ Int32.ofNat (j + 1 + 1) := by
      rw [i_le (by omega) (by omega)]
      omega
    have nz : ∀ a : Int64, ¬ a = 0 → a.toInt ≠ 0 := fun a ha e => ha (Int64.toInt_inj.mp e)
    rw [mxX7_area_26, rA128 rfl (by omega), Option.bind_some, f1.A (by decide), t5, i_s, if_pos le, rG128 rfl (by omega), Option.bind_some, e28, ej]
    by_cases z1 : s.2.2.2 28 f = 0
    · rw [if_pos z1, rG128 rfl (by omega), Option.bind_some, e29]
      by_cases z2 : s.2.2.2 29 f = 0
      · rw [if_pos z2, rG128 rfl (by omega), Option.bind_some, e30]
        have z3 : ¬ (s.2.2.2 30 f = 0) := by
          intro z3
          refine prim_ne0 t1.2.2 (v3_ext ?_ ?_ ?_)
          · show (s.2.2.2 28 f).toInt = 0
            rw [z1]
            rfl
          · show (s.2.2.2 29 f).toInt = 0
            rw [z2]
            rfl
          · show (s.2.2.2 30 f).toInt = 0
            rw [z3]
            rfl
        rw [if_neg z3]
        exact ⟨h, _, rfl, f1, dv64b (g := (fN s f).2.2) rfl (nz _ z3) bz.1 (by omega)⟩
      · rw [if_neg z2, Option.bind_some, if_neg z2]
        exact ⟨h, _, rfl, f1, dv64b (g := (fN s f).2.1) rfl (nz _ z2) by'.1 (by omega)⟩
    · rw [if_neg z1, Option.bind_some, if_neg z1]
      exact ⟨h, _, rfl, f1, dv64b (g := (fN s f).1) rfl (nz _ z1) bx.1 (by omega)⟩
  | succ q ih =>
    intro j fu x y z h hj hfu f1 bx by' bz
    obtain ⟨fu', rfl⟩ : ∃ f', fu = f' + 1 := ⟨fu - 1, by omega⟩
    have ne : ¬ (Int32.ofNat (rf f) ≤ Int32.ofNat (j + 1 + 1)) := by
      rw [i_le (by omega) (by omega)]
      omega
    obtain ⟨p2, p1⟩ := t6' 0 (by omega)
    obtain ⟨q2, q1⟩ := t6' (j + 1) (by omega)
    obtain ⟨u2, u1⟩ := t6' (j + 2) (by omega)
    rw [Nat.add_zero] at p2
    have hpe : ∀ t, hp h t = hp s t := by
      intro t
      unfold hp
      rw [f1.G (by decide), f1.G (by decide), f1.G (by decide)]
    have bd2 : ∀ t, t < m → bd3 (hp s t) 200 := fun t ht => bd3_le (bd t ht) (by decide)
    obtain ⟨s1, e1, n1, b1, sm1⟩ := x_across (N := N) (p := ρ f 0) (q := ρ f (j + 1)) (r := ρ f (j + 2)) (s := h) (by omega) (by omega) (by omega) (by rw [hpe]; exact bd2 _ p1) (by rw [hpe]; exact bd2 _ q1) (by rw [hpe]; exact bd2 _ u1)
    rw [hpe, hpe, hpe, aT_v hx t1 t7 (by omega)] at n1
    have z' : zs (aT (hp s) x0 (ρ f)) (j + 1) = zs (aT (hp s) x0 (ρ f)) j + aT (hp s) x0 (ρ f) j := rfl
    have add : ∀ (a c : Int64) (u w : Int), bv a (zs (aT (hp s) x0 (ρ f)) j * w) (320000 * j) → c.toInt = u → u = aT (hp s) x0 (ρ f) j * w + 0 * 0 → u.natAbs ≤ 320000 → bv (a + c) (zs (aT (hp s) x0 (ρ f)) (j + 1) * w) (320000 * (j + 1)) := fun a c u w ha hc hu hb => by
      have h1 := bv_add ha (show bv c u 320000 from ⟨hc, hb⟩) (by omega)
      rw [hu, show aT (hp s) x0 (ρ f) j * w + 0 * 0 = aT (hp s) x0 (ρ f) j * w by omega, ← Int.add_mul, ← z'] at h1
      exact bv_le h1 (by omega)
    obtain ⟨h', v, q', fr', ev⟩ := ih (j + 1) fu' (x + s1.2.1 24) (y + s1.2.1 25) (z + s1.2.1 26) s1 (by omega) (by omega) (f1.tr (smN_fr sm1)) (add _ _ _ _ bx rfl (congrArg (fun v : V3 => v.1) n1) b1.1) (add _ _ _ _ by' rfl (congrArg (fun v : V3 => v.2.1) n1) b1.2.1) (add _ _ _ _ bz rfl (congrArg (fun v : V3 => v.2.2) n1) b1.2.2)
    refine ⟨h', v, ?_, fr', ev⟩
    rw [mxX7_area_26, rA128 rfl (by omega), Option.bind_some, f1.A (by decide), t5, i_s, if_neg ne, i_c25, rA3200 rfl (by omega), Option.bind_some, i_ad, rA3200 rfl (by omega), Option.bind_some, i_s, rA3200 rfl (by omega), Option.bind_some, f1.A (by decide), p2, q2, show 25 * f + (j + 1) + 1 = 25 * f + (j + 2) by omega, u2, e1, Option.bind_some]
    exact q'
theorem m_area {N m F f : Nat} {rf : Nat → Nat} {ρ : Nat → Nat → Nat} {s : mS} {x0 : V3} (hN : 600 < N) (hm : m ≤ 24) (hF : F ≤ 44) (hf : f < F) (ht : tbF (hp s) m s 0 F rf ρ) (bd : ∀ t, t < m → bd3 (hp s t) 100) (hx : vd (fN s f) x0 = 1) : ∃ (h' : mS) (v : Int64), mxX7_area N (Int32.ofNat f) s = some (h', v) ∧ fr [24, 25, 26] s h' ∧ v.toInt = zs (aT (hp s) x0 (ρ f)) (rf f - 2) := by
  unfold mxX7_area
  rw [Option.bind_some, Option.bind_some, Option.bind_some]
  have f1 : fr [24, 25, 26] s (pJ (pJ (pJ s 24 0) 25 0) 26 0) := (((fr_pJ _ _ _).mo (by decide)).tr ((fr_pJ _ _ _).mo (by decide))).tr ((fr_pJ _ _ _).mo (by decide))
  have t := ht f hf
  have z0 : ∀ w : Int, bv 0 (zs (aT (hp s) x0 (ρ f)) 0 * w) (320000 * 0) := fun w => ⟨by rw [show zs (aT (hp s) x0 (ρ f)) 0 = 0 from rfl, Int.zero_mul]; rfl, by rw [show zs (aT (hp s) x0 (ρ f)) 0 = 0 from rfl, Int.zero_mul]; exact Nat.zero_le _⟩
  exact m_ar26 hm hF hf ht bd hx (rf f - 2) 0 N 0 0 0 _ (by have := t.2.2.2.1; omega) (by have := t.2.2.1; omega) f1 (z0 _) (z0 _) (z0 _)
