theorem tr_0 (e1 e2 e3 n1 n2 n3 w1 w2 w3 : Int) : (e2 * n3 - e3 * n2) * w1 + (e3 * n1 - e1 * n3) * w2 + (e1 * n2 - e2 * n1) * w3 = -((e2 * w3 - e3 * w2) * n1 + (e3 * w1 - e1 * w3) * n2 + (e1 * w2 - e2 * w1) * n3) := by grind
theorem tr_n (e n w : V3) : vd (vx e n) w = - vd (vx e w) n := tr_0 e.1 e.2.1 e.2.2 n.1 n.2.1 n.2.2 w.1 w.2.1 w.2.2
theorem bv_tri {e1 e2 e3 n1 n2 n3 w1 w2 w3 : Int64} {e n w : V3} {A B D : Nat} (a1 : bv e1 e.1 A) (a2 : bv e2 e.2.1 A) (a3 : bv e3 e.2.2 A) (b1 : bv n1 n.1 B) (b2 : bv n2 n.2.1 B) (b3 : bv n3 n.2.2 B) (d1 : bv w1 w.1 D) (d2 : bv w2 w.2.1 D) (d3 : bv w3 w.2.2 D) (h1 : A * B + A * B < 9223372036854775808) (h2 : (A * B + A * B) * D + (A * B + A * B) * D + (A * B + A * B) * D < 9223372036854775808) : bv ((e2 * n3 - e3 * n2) * w1 + (e3 * n1 - e1 * n3) * w2 + (e1 * n2 - e2 * n1) * w3) (vd (vx e n) w) ((A * B + A * B) * D + (A * B + A * B) * D + (A * B + A * B) * D) :=
  bv_dot (x := vx e n) (y := w) (bv_sub (bv_mul a2 b3 (by omega)) (bv_mul a3 b2 (by omega)) h1) (bv_sub (bv_mul a3 b1 (by omega)) (bv_mul a1 b3 (by omega)) h1) (bv_sub (bv_mul a1 b2 (by omega)) (bv_mul a2 b1 (by omega)) h1) d1 d2 d3 h2
/-- outward on one side, left on the other: the same -/
theorem tri_cmp {e1 e2 e3 n1 n2 n3 w1 w2 w3 : Int64} {e n w : V3} (a1 : bv e1 e.1 200) (a2 : bv e2 e.2.1 200) (a3 : bv e3 e.2.2 200) (b1 : bv n1 n.1 81608) (b2 : bv n2 n.2.1 81608) (b3 : bv n3 n.2.2 81608) (d1 : bv w1 w.1 1100000) (d2 : bv w2 w.2.1 1100000) (d3 : bv w3 w.2.2 1100000) : ((e2 * n3 - e3 * n2) * w1 + (e3 * n1 - e1 * n3) * w2 + (e1 * n2 - e2 * n1) * w3 ≤ (0 : Int64)) ↔ ((0 : Int64) ≤ (e2 * w3 - e3 * w2) * n1 + (e3 * w1 - e1 * w3) * n2 + (e1 * w2 - e2 * w1) * n3) := by
  have h1 := bv_tri a1 a2 a3 b1 b2 b3 d1 d2 d3 (by decide) (by decide)
  have h2 := bv_tri a1 a2 a3 d1 d2 d3 b1 b2 b3 (by decide) (by decide)
  rw [i64_le (y := 0) h1.1 rfl, i64_le (x := 0) rfl h2.1, tr_n]
  omega
/-- both sides look at the same planes, rings, points and place -/
def WS (C : cS) (b : Nat) (t : mS) (m F : Nat) (R rf : Nat → Nat) (ρ : Nat → Nat → Nat) (x y z q : Int64) : Prop := (m ≤ 24 ∧ F ≤ 44) ∧ (qI C (b + 1) 0 = Int32.ofNat m ∧ qI C b 2 = Int32.ofNat F) ∧ (∀ f, f < F → (qA C (b + 5) (4 * f)).toInt64 = t.2.2.2 28 f ∧ (qA C (b + 5) (4 * f + 1)).toInt64 = t.2.2.2 29 f ∧ (qA C (b + 5) (4 * f + 2)).toInt64 = t.2.2.2 30 f ∧ (qA C (b + 5) (4 * f + 3)).toInt64 = t.2.2.2 31 f ∧ bd3 (bN C b f) 81608) ∧ (∀ j, j < m → (qA C (b + 1 + 1) j).toInt64 = t.2.2.2 43 j ∧ (qA C (b + 1 + 2) j).toInt64 = t.2.2.2 44 j ∧ (qA C (b + 1 + 3) j).toInt64 = t.2.2.2 45 j ∧ bd3 (pc C (b + 1) j) 100) ∧ (t.2.1 39 = x ∧ t.2.1 40 = y ∧ t.2.1 41 = z ∧ t.2.1 42 = q) ∧ t.2.2.1 27 0 = Int32.ofNat F ∧ (∀ f, f < F → t.2.2.1 32 f = Int32.ofNat (rf f) ∧ rf f ≤ 25 ∧ 3 ≤ rf f ∧ ∀ j, j < rf f → t.2.2.1 33 (25 * f + j) = Int32.ofNat (ρ f j) ∧ ρ f j < m) ∧ (0 < F → RZ C b m F R rf ρ)
theorem w_exc {N b m F f : Nat} {R rf : Nat → Nat} {ρ : Nat → Nat → Nat} {x y z q : Int64} {C : cS} {t : mS} (hb : isB b) (h : WS C b t m F R rf ρ x y z q) (hf : f < F) : ∃ w, fxX0_excess N b (Int32.ofNat f) x y z q (hC C) = some (hC C, w) ∧ mxX7_overFace N (Int32.ofNat f) t = some (t, w) := by
  obtain ⟨⟨m24, F44⟩, -, pl, -, ⟨q1, q2, q3, q4⟩, -⟩ := h
  obtain ⟨p1, p2, p3, p4, -⟩ := pl f hf
  refine ⟨_, c_excess hb (by omega), ?_⟩
  unfold mxX7_overFace
  rw [rG128 rfl (by omega), Option.bind_some, rG128 rfl (by omega), Option.bind_some, rG128 rfl (by omega), Option.bind_some, rG128 rfl (by omega), Option.bind_some, p1, p2, p3, p4, q1, q2, q3, q4]
theorem w_faces {N b m F : Nat} {R rf : Nat → Nat} {ρ : Nat → Nat → Nat} {x y z q : Int64} {C : cS} {t : mS} (hb : isB b) (h : WS C b t m F R rf ρ x y z q) : ∀ (r f fu fu' : Nat) (a : Int32), f + r = F → r < fu → r < fu' → ∃ v, fxX0_locateAmongFaces_6 N fu b x y z q a (Int32.ofNat f) (hC C) = some (hC C, v) ∧ mxX7_where_146 N fu' 0 a (Int32.ofNat f) t = some (t, v) := by
  obtain ⟨h0, -⟩ := isB_sh hb
  have F44 := h.1.2
  have e2 := h.2.1.2
  have e27 := h.2.2.2.2.2.1
  have z64 : (64 : Int32) * 0 + Int32.ofNat F = Int32.ofNat F := by
    have := i_64 0 F
    rw [Nat.mul_zero, Nat.zero_add] at this
    exact this
  intro r
  induction r with
  | zero =>
    intro f fu fu' a hf h1 h2
    obtain ⟨g, rfl⟩ : ∃ g, fu = g + 1 := ⟨fu - 1, by omega⟩
    obtain ⟨g', rfl⟩ : ∃ g, fu' = g + 1 := ⟨fu' - 1, by omega⟩
    have e : f = F := by omega
    subst e
    refine ⟨a, ?_, ?_⟩
    · rw [fxX0_locateAmongFaces_6, gI_0_2 h0, Option.bind_some, e2, if_pos (Int32.le_refl _)]
    · rw [mxX7_where_146, rA_0 (by decide), Option.bind_some, e27, z64, if_pos (Int32.le_refl _)]
  | succ r ih =>
    intro f fu fu' a hf h1 h2
    obtain ⟨g, rfl⟩ : ∃ g, fu = g + 1 := ⟨fu - 1, by omega⟩
    obtain ⟨g', rfl⟩ : ∃ g, fu' = g + 1 := ⟨fu' - 1, by omega⟩
    have ne : ¬ (Int32.ofNat F ≤ Int32.ofNat f) := by
      rw [i_le (by omega) (by omega)]
      omega
    obtain ⟨w, x1, x2⟩ := w_exc (N := N) hb h (show f < F by omega)
    rw [fxX0_locateAmongFaces_6, gI_0_2 h0, Option.bind_some, e2, if_neg ne, kO_0 h0, Option.bind_some, x1, Option.bind_some, mxX7_where_146, rA_0 (by decide), Option.bind_some, e27, z64, if_neg ne, x2, Option.bind_some]
    dsimp only
    unfold fxX0_locateAmongFaces_48 mxX7_where_189
    rw [i_s]
    by_cases c1 : w ≤ 0
    · rw [if_pos c1, if_pos c1]
      by_cases c2 : w = 0
      · rw [if_pos c2, if_pos c2]
        exact ih (f + 1) g g' 1 (by omega) (by omega) (by omega)
      · rw [if_neg c2, if_neg c2]
        exact ih (f + 1) g g' a (by omega) (by omega) (by omega)
    · rw [if_neg c1, if_neg c1]
      exact ⟨0, rfl, rfl⟩
theorem s64 {a b : Int32} (ha : a.toInt.natAbs ≤ 100) (hb : b.toInt.natAbs ≤ 100) : (a - b).toInt64 = a.toInt64 - b.toInt64 := Int64.toInt_inj.mp (by
  rw [(bs32 (A := 100) (B := 100) rfl rfl ha hb (by decide)).1, (bv_sub (bt32 (a := a) rfl ha) (bt32 (a := b) rfl hb) (by decide)).1])
/-- on a line, as both reckon it -/
def lnC {α : Type} (h : α) (ex ey ez wx wy wz q : Int64) : Option (α × Int32) := if ey * wz = ez * wy then (if ez * wx = ex * wz then (if ex * wy = ey * wx then (if ex * wx + ey * wy + ez * wz < (0 : Int64) then some (h, (0 : Int32)) else (if q * (ex * ex + ey * ey + ez * ez) < ex * wx + ey * wy + ez * wz then some (h, (0 : Int32)) else some (h, (1 : Int32)))) else some (h, (0 : Int32))) else some (h, (0 : Int32))) else some (h, (0 : Int32))
theorem lnC_v {α β : Type} (h : α) (g : β) (ex ey ez wx wy wz q : Int64) : ∃ v, lnC h ex ey ez wx wy wz q = some (h, v) ∧ lnC g ex ey ez wx wy wz q = some (g, v) := by
  unfold lnC
  by_cases c1 : ey * wz = ez * wy
  · rw [if_pos c1, if_pos c1]
    by_cases c2 : ez * wx = ex * wz
    · rw [if_pos c2, if_pos c2]
      by_cases c3 : ex * wy = ey * wx
      · rw [if_pos c3, if_pos c3]
        by_cases c4 : ex * wx + ey * wy + ez * wz < (0 : Int64)
        · rw [if_pos c4, if_pos c4]
          exact ⟨0, rfl, rfl⟩
        · rw [if_neg c4, if_neg c4]
          by_cases c5 : q * (ex * ex + ey * ey + ez * ez) < ex * wx + ey * wy + ez * wz
          · rw [if_pos c5, if_pos c5]
            exact ⟨0, rfl, rfl⟩
          · rw [if_neg c5, if_neg c5]
            exact ⟨1, rfl, rfl⟩
      · rw [if_neg c3, if_neg c3]
        exact ⟨0, rfl, rfl⟩
    · rw [if_neg c2, if_neg c2]
      exact ⟨0, rfl, rfl⟩
  · rw [if_neg c1, if_neg c1]
    exact ⟨0, rfl, rfl⟩
theorem w_line {N b F : Nat} {R rf : Nat → Nat} {ρ : Nat → Nat → Nat} {x y z q : Int64} {C : cS} {t : mS} (hb : isB b) (h : WS C b t 2 F R rf ρ x y z q) : ∃ v, fxX0_isOnLine N b x y z q (hC C) = some (hC C, v) ∧ mxX7_onLine N 0 1 t = some (t, v) := by
  obtain ⟨h0, hp, -⟩ := isB_sh hb
  obtain ⟨hp3, d1, d2, d3⟩ := pt_sh hp
  obtain ⟨-, ⟨e1, -⟩, -, pt, ⟨q1, q2, q3, q4⟩, -⟩ := h
  obtain ⟨a1, a2, a3, ba⟩ := pt 0 (by omega)
  obtain ⟨b1, b2, b3, bb⟩ := pt 1 (by omega)
  obtain ⟨v, l1, l2⟩ := lnC_v (hC C) t (t.2.2.2 43 1 - t.2.2.2 43 0) (t.2.2.2 44 1 - t.2.2.2 44 0) (t.2.2.2 45 1 - t.2.2.2 45 0) (x - q * t.2.2.2 43 0) (y - q * t.2.2.2 44 0) (z - q * t.2.2.2 45 0) q
  refine ⟨v, ?_, ?_⟩
  · rw [← l1]
    have x1 : ∀ k, k < 24 → aI (hC C) (b + 1 + 1) (Int32.ofNat k) = some (qA C (b + 1 + 1) k) := fun k hk => aI_N d1 hk (by decide)
    have x2 : ∀ k, k < 24 → aI (hC C) (b + 1 + 2) (Int32.ofNat k) = some (qA C (b + 1 + 2) k) := fun k hk => aI_N d2 hk (by decide)
    have x3 : ∀ k, k < 24 → aI (hC C) (b + 1 + 3) (Int32.ofNat k) = some (qA C (b + 1 + 3) k) := fun k hk => aI_N d3 hk (by decide)
    have lt : (1 : Nat) < 24 := by omega
    have z24 : (0 : Nat) < 24 := by omega
    unfold fxX0_isOnLine
    refine bndE (gR_0_1 h0) (bndE (gI_3_0 hp3) ?_)
    rw [e1, show Int32.ofNat 2 - (1 : Int32) = Int32.ofNat 1 from rfl]
    refine (if_pos (by decide)).trans ?_
    refine bndE (gR_0_1 h0) (bndE (gR_3_1 hp3) (bndE (x1 1 lt) (bndE (gR_0_1 h0) (bndE (gR_3_1 hp3) (bndE (x1 0 z24) ?_)))))
    refine bndE (gR_0_1 h0) (bndE (gR_3_2 hp3) (bndE (x2 1 lt) (bndE (gR_0_1 h0) (bndE (gR_3_2 hp3) (bndE (x2 0 z24) ?_)))))
    refine bndE (gR_0_1 h0) (bndE (gR_3_3 hp3) (bndE (x3 1 lt) (bndE (gR_0_1 h0) (bndE (gR_3_3 hp3) (bndE (x3 0 z24) ?_)))))
    refine bndE (gR_0_1 h0) (bndE (gR_3_1 hp3) (bndE (x1 0 z24) (bndE (gR_0_1 h0) (bndE (gR_3_2 hp3) (bndE (x2 0 z24) (bndE (gR_0_1 h0) (bndE (gR_3_3 hp3) (bndE (x3 0 z24) ?_))))))))
    refine (if_neg (by decide)).trans ?_
    rw [c_steep, Option.bind_some, s64 bb.1 ba.1, s64 bb.2.1 ba.2.1, s64 bb.2.2 ba.2.2, a1, a2, a3, b1, b2, b3]
    rfl
  · rw [← l2]
    have r : ∀ k j, aN k = 48 → j < 48 → rG t k (Int32.ofNat j) = some (t.2.2.2 k j) := fun k j hk hj => rG48 hk hj
    unfold mxX7_onLine
    refine bndE (r 43 1 rfl (by omega)) (bndE (r 43 0 rfl (by omega)) (bndE (r 44 1 rfl (by omega)) (bndE (r 44 0 rfl (by omega)) (bndE (r 45 1 rfl (by omega)) (bndE (r 45 0 rfl (by omega)) (bndE (r 43 0 rfl (by omega)) (bndE (r 44 0 rfl (by omega)) (bndE (r 45 0 rfl (by omega)) ?_))))))))
    rw [q1, q2, q3, q4]
    rfl
theorem sub0 {a b : Int64} : a - b = 0 ↔ a = b := by
  constructor
  · intro h
    have := congrArg (fun v => v + b) h
    rw [Int64.sub_add_cancel, Int64.zero_add] at this
    exact this
  · intro h
    rw [h, Int64.sub_self]
/-- one point -/
theorem w_pt {N b F : Nat} {R rf : Nat → Nat} {ρ : Nat → Nat → Nat} {x y z q : Int64} {C : cS} {t : mS} (hb : isB b) (h : WS C b t 1 F R rf ρ x y z q) : (fxX0_isOnLine N b x y z q (hC C) = some (hC C, 1) ∧ mxX7_where N 1 0 t = some (t, 1)) ∨ (fxX0_isOnLine N b x y z q (hC C) = some (hC C, 0) ∧ mxX7_where N 1 0 t = some (t, 0)) := by
  obtain ⟨h0, hp, -⟩ := isB_sh hb
  obtain ⟨hp3, d1, d2, d3⟩ := pt_sh hp
  obtain ⟨-, ⟨e1, -⟩, -, pt, ⟨q1, q2, q3, q4⟩, -⟩ := h
  obtain ⟨a1, a2, a3, ba⟩ := pt 0 (by omega)
  have c1 : fxX0_isOnLine N b x y z q (hC C) = if x - q * t.2.2.2 43 0 = 0 then (if y - q * t.2.2.2 44 0 = 0 then (if z - q * t.2.2.2 45 0 = 0 then some (hC C, (1 : Int32)) else some (hC C, (0 : Int32))) else some (hC C, (0 : Int32))) else some (hC C, (0 : Int32)) := by
    have x1 : ∀ k, k < 24 → aI (hC C) (b + 1 + 1) (Int32.ofNat k) = some (qA C (b + 1 + 1) k) := fun k hk => aI_N d1 hk (by decide)
    have x2 : ∀ k, k < 24 → aI (hC C) (b + 1 + 2) (Int32.ofNat k) = some (qA C (b + 1 + 2) k) := fun k hk => aI_N d2 hk (by decide)
    have x3 : ∀ k, k < 24 → aI (hC C) (b + 1 + 3) (Int32.ofNat k) = some (qA C (b + 1 + 3) k) := fun k hk => aI_N d3 hk (by decide)
    have z24 : (0 : Nat) < 24 := by omega
    unfold fxX0_isOnLine
    refine bndE (gR_0_1 h0) (bndE (gI_3_0 hp3) ?_)
    rw [e1, show Int32.ofNat 1 - (1 : Int32) = Int32.ofNat 0 from rfl]
    refine (if_pos (by decide)).trans ?_
    refine bndE (gR_0_1 h0) (bndE (gR_3_1 hp3) (bndE (x1 0 z24) (bndE (gR_0_1 h0) (bndE (gR_3_1 hp3) (bndE (x1 0 z24) ?_)))))
    refine bndE (gR_0_1 h0) (bndE (gR_3_2 hp3) (bndE (x2 0 z24) (bndE (gR_0_1 h0) (bndE (gR_3_2 hp3) (bndE (x2 0 z24) ?_)))))
    refine bndE (gR_0_1 h0) (bndE (gR_3_3 hp3) (bndE (x3 0 z24) (bndE (gR_0_1 h0) (bndE (gR_3_3 hp3) (bndE (x3 0 z24) ?_)))))
    refine bndE (gR_0_1 h0) (bndE (gR_3_1 hp3) (bndE (x1 0 z24) (bndE (gR_0_1 h0) (bndE (gR_3_2 hp3) (bndE (x2 0 z24) (bndE (gR_0_1 h0) (bndE (gR_3_3 hp3) (bndE (x3 0 z24) ?_))))))))
    refine (if_pos rfl).trans ?_
    rw [a1, a2, a3]
  have c2 : mxX7_where N 1 0 t = if x = q * t.2.2.2 43 0 then (if y = q * t.2.2.2 44 0 then (if z = q * t.2.2.2 45 0 then some (t, (1 : Int32)) else some (t, (0 : Int32))) else some (t, (0 : Int32))) else some (t, (0 : Int32)) := by
    have r : ∀ k, aN k = 48 → rG t k ((24 : Int32) * 0) = some (t.2.2.2 k 0) := fun k hk => rG48 (j := 0) hk (by omega)
    unfold mxX7_where
    refine (if_neg (by decide)).trans ((if_pos rfl).trans (bndE (r 43 rfl) ?_))
    rw [r 44 rfl, Option.bind_some, r 45 rfl, Option.bind_some, q1, q2, q3, q4]
  by_cases z1 : x = q * t.2.2.2 43 0
  · rw [if_pos (sub0.mpr z1)] at c1
    rw [if_pos z1] at c2
    by_cases z2 : y = q * t.2.2.2 44 0
    · rw [if_pos (sub0.mpr z2)] at c1
      rw [if_pos z2] at c2
      by_cases z3 : z = q * t.2.2.2 45 0
      · rw [if_pos (sub0.mpr z3)] at c1
        rw [if_pos z3] at c2
        exact .inl ⟨c1, c2⟩
      · rw [if_neg (fun w => z3 (sub0.mp w))] at c1
        rw [if_neg z3] at c2
        exact .inr ⟨c1, c2⟩
    · rw [if_neg (fun w => z2 (sub0.mp w))] at c1
      rw [if_neg z2] at c2
      exact .inr ⟨c1, c2⟩
  · rw [if_neg (fun w => z1 (sub0.mp w))] at c1
    rw [if_neg z1] at c2
    exact .inr ⟨c1, c2⟩
theorem w_off {x q a : Int64} {X Q : Int} (bx : bv x X 1000000) (bq : bv q Q 1000) {A : Int} (ba : bv a A 100) : bv (x - q * a) (X - Q * A) 1100000 := bv_sub bx (bv_mul bq ba (by decide)) (by decide)
/-- in a plane figure -/
theorem w_fig {N b m F : Nat} {R rf : Nat → Nat} {ρ : Nat → Nat → Nat} {x y z q : Int64} {X Y Z Q : Int} {C : cS} {t : mS} (hb : isB b) (h : WS C b t m F R rf ρ x y z q) (F0 : 0 < F) (bx : bv x X 1000000) (by' : bv y Y 1000000) (bz : bv z Z 1000000) (bq : bv q Q 1000) : ∀ (r j fu fu' : Nat), j + r = rf 0 → r < fu → r < fu' → ∃ v, fxX0_isInFigure_28 N fu b x y z q (Int32.ofNat j) (hC C) = some (hC C, v) ∧ mxX7_isOver_10 N fu' 0 0 (Int32.ofNat (rf 0)) (Int32.ofNat j) t = some (t, v) := by
  obtain ⟨h0, hp, h5, h6, h7, -⟩ := isB_sh hb
  obtain ⟨hp3, d1, d2, d3⟩ := pt_sh hp
  obtain ⟨⟨m24, F44⟩, -, pls, pts, ⟨q1, q2, q3, q4⟩, -, rows, rz⟩ := h
  obtain ⟨n1, n2, n3, -, bn⟩ := pls 0 F0
  obtain ⟨t32, r25, r3, t33⟩ := rows 0 F0
  obtain ⟨R0, Rs, RQ', Rρ⟩ := rz F0
  have R1 : R 1 = rf 0 := by
    have : R 1 = R 0 + rf 0 := Rs 0 F0
    omega
  obtain ⟨-, ring⟩ := Rρ 0 F0
  have e1 : aI (hC C) (b + 6) 1 = some (Int32.ofNat (rf 0)) := by
    rw [← R1, ← (RQ' 1 (by omega)).2]
    exact aI_N (k := 1) h6 (by omega) (by decide)
  intro r
  induction r with
  | zero =>
    intro j fu fu' hj f1 f2
    obtain ⟨g, rfl⟩ : ∃ g, fu = g + 1 := ⟨fu - 1, by omega⟩
    obtain ⟨g', rfl⟩ : ∃ g, fu' = g + 1 := ⟨fu' - 1, by omega⟩
    have e : j = rf 0 := by omega
    subst e
    refine ⟨1, ?_, ?_⟩
    · rw [fxX0_isInFigure_28]
      exact bndE (gR_0_4 h0) (bndE e1 (if_pos (Int32.le_refl _)))
    · rw [mxX7_isOver_10, if_pos (Int32.le_refl _)]
  | succ r ih =>
    intro j fu fu' hj f1 f2
    obtain ⟨g, rfl⟩ : ∃ g, fu = g + 1 := ⟨fu - 1, by omega⟩
    obtain ⟨g', rfl⟩ : ∃ g, fu' = g + 1 := ⟨fu' - 1, by omega⟩
    have ne : ¬ (Int32.ofNat (rf 0) ≤ Int32.ofNat j) := by
      rw [i_le (by omega) (by omega)]
      omega
    have nz : ¬ (Int32.ofNat (rf 0) = 0) := fun e => by
      have := i_inj (a := rf 0) (b := 0) (by omega) (by omega) e
      omega
    obtain ⟨i, hi, ei⟩ : ∃ i, i < rf 0 ∧ (if j + 1 < rf 0 then j + 1 else 0) = i := by
      by_cases c : j + 1 < rf 0
      · exact ⟨j + 1, c, if_pos c⟩
      · exact ⟨0, by omega, if_neg c⟩
    obtain ⟨yu, lu⟩ := ring j (by omega)
    obtain ⟨yw, lw⟩ := ring i hi
    rw [R0, Nat.zero_add] at yu yw
    obtain ⟨tu, -⟩ := t33 j (by omega)
    obtain ⟨tw, -⟩ := t33 i hi
    rw [Nat.mul_zero, Nat.zero_add] at tu tw
    obtain ⟨u1, u2, u3, bu⟩ := pts _ lu
    obtain ⟨w1, w2, w3, bw⟩ := pts _ lw
    have cmp := tri_cmp (e := vs (pc C (b + 1) (ρ 0 i)) (pc C (b + 1) (ρ 0 j))) (n := bN C b 0) (w := (X - Q * (pc C (b + 1) (ρ 0 j)).1, Y - Q * (pc C (b + 1) (ρ 0 j)).2.1, Z - Q * (pc C (b + 1) (ρ 0 j)).2.2)) (bs32 (a := qA C (b + 1 + 1) (ρ 0 i)) (b := qA C (b + 1 + 1) (ρ 0 j)) (A := 100) (B := 100) rfl rfl bw.1 bu.1 (by decide)) (bs32 (a := qA C (b + 1 + 2) (ρ 0 i)) (b := qA C (b + 1 + 2) (ρ 0 j)) (A := 100) (B := 100) rfl rfl bw.2.1 bu.2.1 (by decide)) (bs32 (a := qA C (b + 1 + 3) (ρ 0 i)) (b := qA C (b + 1 + 3) (ρ 0 j)) (A := 100) (B := 100) rfl rfl bw.2.2 bu.2.2 (by decide)) (bt32 (a := qA C (b + 5) 0) rfl bn.1) (bt32 (a := qA C (b + 5) 1) rfl bn.2.1) (bt32 (a := qA C (b + 5) 2) rfl bn.2.2) (w_off bx bq (bt32 (a := qA C (b + 1 + 1) (ρ 0 j)) rfl bu.1)) (w_off by' bq (bt32 (a := qA C (b + 1 + 2) (ρ 0 j)) rfl bu.2.1)) (w_off bz bq (bt32 (a := qA C (b + 1 + 3) (ρ 0 j)) rfl bu.2.2))
    have st : fxX0_isInFigure_28 N (g + 1) b x y z q (Int32.ofNat j) (hC C) = fxX0_isInFigure_73 N (fxX0_isInFigure_28 N g) b x y z q (Int32.ofNat j) (Int32.ofNat (ρ 0 j)) (Int32.ofNat i) (b + 7) (hC C) := by
      rw [fxX0_isInFigure_28, i_s]
      refine bndE (gR_0_4 h0) (bndE e1 ((if_neg ne).trans (bndE (gR_0_5 h0) (bndE (aI_N h7 (show j < 132 by omega) (by decide)) (bndE (gR_0_5 h0) (bndE (gR_0_4 h0) (bndE e1 ?_)))))))
      rw [yu]
      by_cases c : j + 1 < rf 0
      · rw [if_pos c] at ei
        refine (if_neg ?_).trans (by rw [← ei])
        rw [i_le (by omega) (by omega)]
        omega
      · rw [if_neg c] at ei
        refine (if_pos ?_).trans (by rw [← ei]; rfl)
        rw [i_le (by omega) (by omega)]
        omega
    have pl : ∀ k, k < 176 → aI (hC C) (b + 5) (Int32.ofNat k) = some (qA C (b + 5) k) := fun k hk => aI_N h5 hk (by decide)
    have x1 : ∀ k, k < 24 → aI (hC C) (b + 1 + 1) (Int32.ofNat k) = some (qA C (b + 1 + 1) k) := fun k hk => aI_N d1 hk (by decide)
    have x2 : ∀ k, k < 24 → aI (hC C) (b + 1 + 2) (Int32.ofNat k) = some (qA C (b + 1 + 2) k) := fun k hk => aI_N d2 hk (by decide)
    have x3 : ∀ k, k < 24 → aI (hC C) (b + 1 + 3) (Int32.ofNat k) = some (qA C (b + 1 + 3) k) := fun k hk => aI_N d3 hk (by decide)
    have m1 : ρ 0 j < 24 := by omega
    have m2 : ρ 0 i < 24 := by omega
    have cE : fxX0_isInFigure_28 N (g + 1) b x y z q (Int32.ofNat j) (hC C) = if ((qA C (b + 1 + 2) (ρ 0 i) - qA C (b + 1 + 2) (ρ 0 j)).toInt64 * (qA C (b + 5) 2).toInt64 - (qA C (b + 1 + 3) (ρ 0 i) - qA C (b + 1 + 3) (ρ 0 j)).toInt64 * (qA C (b + 5) 1).toInt64) * (x - q * (qA C (b + 1 + 1) (ρ 0 j)).toInt64) + ((qA C (b + 1 + 3) (ρ 0 i) - qA C (b + 1 + 3) (ρ 0 j)).toInt64 * (qA C (b + 5) 0).toInt64 - (qA C (b + 1 + 1) (ρ 0 i) - qA C (b + 1 + 1) (ρ 0 j)).toInt64 * (qA C (b + 5) 2).toInt64) * (y - q * (qA C (b + 1 + 2) (ρ 0 j)).toInt64) + ((qA C (b + 1 + 1) (ρ 0 i) - qA C (b + 1 + 1) (ρ 0 j)).toInt64 * (qA C (b + 5) 1).toInt64 - (qA C (b + 1 + 2) (ρ 0 i) - qA C (b + 1 + 2) (ρ 0 j)).toInt64 * (qA C (b + 5) 0).toInt64) * (z - q * (qA C (b + 1 + 3) (ρ 0 j)).toInt64) ≤ (0 : Int64) then fxX0_isInFigure_28 N g b x y z q (Int32.ofNat (j + 1)) (hC C) else some (hC C, (0 : Int32)) := by
      rw [st]
      unfold fxX0_isInFigure_73
      rw [i_s]
      refine bndE (aI_N h7 (show i < 132 by omega) (by decide)) ?_
      rw [yw]
      refine bndE (gR_0_1 h0) (bndE (gR_3_1 hp3) (bndE (x1 _ m2) (bndE (gR_0_1 h0) (bndE (gR_3_1 hp3) (bndE (x1 _ m1) ?_)))))
      refine bndE (gR_0_1 h0) (bndE (gR_3_2 hp3) (bndE (x2 _ m2) (bndE (gR_0_1 h0) (bndE (gR_3_2 hp3) (bndE (x2 _ m1) ?_)))))
      refine bndE (gR_0_1 h0) (bndE (gR_3_3 hp3) (bndE (x3 _ m2) (bndE (gR_0_1 h0) (bndE (gR_3_3 hp3) (bndE (x3 _ m1) ?_)))))
      refine bndE (gR_0_3 h0) (bndE (pl 2 (by omega)) (bndE (gR_0_3 h0) (bndE (pl 1 (by omega)) (bndE (gR_0_1 h0) (bndE (gR_3_1 hp3) (bndE (x1 _ m1) ?_))))))
      refine bndE (gR_0_3 h0) (bndE (pl 0 (by omega)) (bndE (gR_0_3 h0) (bndE (pl 2 (by omega)) (bndE (gR_0_1 h0) (bndE (gR_3_2 hp3) (bndE (x2 _ m1) ?_))))))
      exact bndE (gR_0_3 h0) (bndE (pl 1 (by omega)) (bndE (gR_0_3 h0) (bndE (pl 0 (by omega)) (bndE (gR_0_1 h0) (bndE (gR_3_3 hp3) (bndE (x3 _ m1) rfl))))))
    have z25 : ∀ k, (25 : Int32) * 0 + Int32.ofNat k = Int32.ofNat k := fun k => by
      have := i_25 0 k
      rw [Nat.mul_zero, Nat.zero_add] at this
      exact this
    have z24 : ∀ k, (24 : Int32) * 0 + Int32.ofNat k = Int32.ofNat k := fun k => by
      have := i_24 0 k
      rw [Nat.mul_zero, Nat.zero_add] at this
      exact this
    have r28 : ∀ k, aN k = 128 → rG t k 0 = some (t.2.2.2 k 0) := fun k hk => rG128 (j := 0) hk (by omega)
    have n1' : (qA C (b + 5) 0).toInt64 = t.2.2.2 28 0 := n1
    have n2' : (qA C (b + 5) 1).toInt64 = t.2.2.2 29 0 := n2
    have n3' : (qA C (b + 5) 2).toInt64 = t.2.2.2 30 0 := n3
    have mE : mxX7_isOver_10 N (g' + 1) 0 0 (Int32.ofNat (rf 0)) (Int32.ofNat j) t = if (0 : Int64) ≤ ((qA C (b + 1 + 2) (ρ 0 i) - qA C (b + 1 + 2) (ρ 0 j)).toInt64 * (z - q * (qA C (b + 1 + 3) (ρ 0 j)).toInt64) - (qA C (b + 1 + 3) (ρ 0 i) - qA C (b + 1 + 3) (ρ 0 j)).toInt64 * (y - q * (qA C (b + 1 + 2) (ρ 0 j)).toInt64)) * (qA C (b + 5) 0).toInt64 + ((qA C (b + 1 + 3) (ρ 0 i) - qA C (b + 1 + 3) (ρ 0 j)).toInt64 * (x - q * (qA C (b + 1 + 1) (ρ 0 j)).toInt64) - (qA C (b + 1 + 1) (ρ 0 i) - qA C (b + 1 + 1) (ρ 0 j)).toInt64 * (z - q * (qA C (b + 1 + 3) (ρ 0 j)).toInt64)) * (qA C (b + 5) 1).toInt64 + ((qA C (b + 1 + 1) (ρ 0 i) - qA C (b + 1 + 1) (ρ 0 j)).toInt64 * (y - q * (qA C (b + 1 + 2) (ρ 0 j)).toInt64) - (qA C (b + 1 + 2) (ρ 0 i) - qA C (b + 1 + 2) (ρ 0 j)).toInt64 * (x - q * (qA C (b + 1 + 1) (ρ 0 j)).toInt64)) * (qA C (b + 5) 2).toInt64 then mxX7_isOver_10 N g' 0 0 (Int32.ofNat (rf 0)) (Int32.ofNat (j + 1)) t else some (t, (0 : Int32)) := by
      rw [mxX7_isOver_10, if_neg ne, z25, rA3200 rfl (by omega), Option.bind_some, tu, if_neg nz, i_mod (rf 0) (by omega) j (by omega), ei, z25, rA3200 rfl (by omega), Option.bind_some, tw, z24, z24]
      rw [rG48 rfl (by omega), Option.bind_some, rG48 rfl (by omega), Option.bind_some, rG48 rfl (by omega), Option.bind_some, rG48 rfl (by omega), Option.bind_some, rG48 rfl (by omega), Option.bind_some, rG48 rfl (by omega), Option.bind_some, Option.bind_some, Option.bind_some, Option.bind_some, r28 28 rfl, Option.bind_some, r28 29 rfl, Option.bind_some, r28 30 rfl, Option.bind_some]
      rw [s64 bw.1 bu.1, s64 bw.2.1 bu.2.1, s64 bw.2.2 bu.2.2, u1, u2, u3, w1, w2, w3, n1', n2', n3', q1, q2, q3, q4, i_s]
    rw [cE, mE]
    by_cases c : ((qA C (b + 1 + 2) (ρ 0 i) - qA C (b + 1 + 2) (ρ 0 j)).toInt64 * (qA C (b + 5) 2).toInt64 - (qA C (b + 1 + 3) (ρ 0 i) - qA C (b + 1 + 3) (ρ 0 j)).toInt64 * (qA C (b + 5) 1).toInt64) * (x - q * (qA C (b + 1 + 1) (ρ 0 j)).toInt64) + ((qA C (b + 1 + 3) (ρ 0 i) - qA C (b + 1 + 3) (ρ 0 j)).toInt64 * (qA C (b + 5) 0).toInt64 - (qA C (b + 1 + 1) (ρ 0 i) - qA C (b + 1 + 1) (ρ 0 j)).toInt64 * (qA C (b + 5) 2).toInt64) * (y - q * (qA C (b + 1 + 2) (ρ 0 j)).toInt64) + ((qA C (b + 1 + 1) (ρ 0 i) - qA C (b + 1 + 1) (ρ 0 j)).toInt64 * (qA C (b + 5) 1).toInt64 - (qA C (b + 1 + 2) (ρ 0 i) - qA C (b + 1 + 2) (ρ 0 j)).toInt64 * (qA C (b + 5) 0).toInt64) * (z - q * (qA C (b + 1 + 3) (ρ 0 j)).toInt64) ≤ (0 : Int64)
    · rw [if_pos c, if_pos (cmp.mp c)]
      exact ih (j + 1) g g' (by omega) (by omega) (by omega)
    · rw [if_neg c, if_neg (fun w => c (cmp.mpr w))]
      exact ⟨0, rfl, rfl⟩
