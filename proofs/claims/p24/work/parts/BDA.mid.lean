/-- two greatest common divisors of the same are one -/
theorem gc_u {g g' a b : Int} (h : gc g a b) (h' : gc g' a b) : g = g' := by
  obtain ⟨g0, -, ⟨i, j, e⟩, d1, d2⟩ := h
  obtain ⟨g0', -, ⟨i', j', e'⟩, d1', d2'⟩ := h'
  refine Int.dvd_antisymm g0 g0' ?_ ?_
  · rw [e']
    exact Int.dvd_add (Int.dvd_trans d1 (Int.dvd_mul_left i' a)) (Int.dvd_trans d2 (Int.dvd_mul_left j' b))
  · rw [e]
    exact Int.dvd_add (Int.dvd_trans d1' (Int.dvd_mul_left i a)) (Int.dvd_trans d2' (Int.dvd_mul_left j b))
theorem gc_st0 (i j X Y q : Int) : i * Y + j * (X - Y * q) = j * X + (i - j * q) * Y := by grind
theorem gc_step {g x y : Int} (hy : 0 < y) (h : gc g y (x % y)) : gc g x y := by
  obtain ⟨g0, gz, ⟨i, j, gij⟩, gx, gy⟩ := h
  have hm := Int.emod_def x y
  refine ⟨g0, fun e => ?_, ⟨j, i - j * (x / y), ?_⟩, ?_, gx⟩
  · exfalso
    have := (gz e).1
    omega
  · rw [gij, hm]
    exact gc_st0 _ _ _ _ _
  · rw [hm] at gy
    have h3 := Int.dvd_add gy (Int.dvd_trans gx (Int.dvd_mul_right y (x / y)))
    rw [Int.sub_add_cancel] at h3
    exact h3
theorem half_mod {y r : Int} (h0 : 0 < r) (h1 : r < y) : 2 * (y % r) < y := by
  have m := Int.emod_def y r
  have q : 1 ≤ y / r := Int.le_ediv_of_mul_le h0 (by omega)
  have p : r * 1 ≤ r * (y / r) := Int.mul_le_mul_of_nonneg_left q (by omega)
  have l := Int.emod_lt_of_pos y h0
  rw [Int.mul_one] at p
  omega
theorem z64 : (0 : Int64).toInt = 0 := rfl
/-- what is left over of a division -/
theorem rem64 {x y : Int64} (hx : 0 ≤ x.toInt) (hy : 0 < y.toInt) : (x - x / y * y).toInt = x.toInt % y.toInt ∧ (x / y).toInt = x.toInt / y.toInt := by
  have hx2 := Int64.toInt_lt x
  have h1 : x.toInt / y.toInt ≤ x.toInt := Int.ediv_le_self _ hx
  have h2 : 0 ≤ x.toInt / y.toInt := Int.ediv_nonneg hx (by omega)
  have hq : (x / y).toInt = x.toInt / y.toInt := by
    rw [Int64.toInt_div, Int.tdiv_eq_ediv_of_nonneg hx]
    apply bm
    omega
  have hm := Int.emod_def x.toInt y.toInt
  have m0 := Int.emod_nonneg x.toInt (show y.toInt ≠ 0 by omega)
  have m1 := Int.emod_lt_of_pos x.toInt hy
  have h3 : 0 ≤ y.toInt * (x.toInt / y.toInt) := Int.mul_nonneg (by omega) h2
  have hqy : (x / y * y).toInt = x.toInt / y.toInt * y.toInt := by
    rw [Int64.toInt_mul, hq]
    apply bm
    rw [Int.mul_comm]
    omega
  refine ⟨?_, hq⟩
  rw [Int64.toInt_sub, hqy, hm, Int.mul_comm]
  apply bm
  rw [← hm]
  omega
theorem pos64 {y : Int64} : (y ≤ 0 ↔ y.toInt ≤ 0) ∧ (y = 0 ↔ y.toInt = 0) := by
  refine ⟨by rw [Int64.le_iff_toInt_le, z64], ⟨fun e => by rw [e]; rfl, fun e => Int64.toInt_inj.mp (by rw [e]; rfl)⟩⟩
theorem dv_step {N f c : Nat} {x y : Int64} {h : mh} (hx : 0 ≤ x.toInt) (hy : 0 < y.toInt) (hc : c < 100000) : ∃ r : Int64, r.toInt = x.toInt % y.toInt ∧ fxX6_divisor_9 N (f + 1) x y (Int32.ofNat c) h = fxX6_divisor_9 N f y r (Int32.ofNat (c + 1)) h := by
  refine ⟨_, (rem64 hx hy).1, ?_⟩
  rw [fxX6_divisor_9, if_neg (n100 hc), if_neg (by rw [pos64.1]; omega), if_neg (by rw [pos64.2]; omega), i_s]
theorem dv_end {N f c : Nat} {x y : Int64} {h : mh} (hx : 0 ≤ x.toInt) (hy : y.toInt = 0) (hc : c < 100000) : fxX6_divisor_9 N (f + 1) x y (Int32.ofNat c) h = some (h, x) ∧ gc x.toInt x.toInt y.toInt := by
  refine ⟨?_, hx, fun e => ⟨e, hy⟩, ⟨1, 0, by omega⟩, Int.dvd_refl _, by rw [hy]; exact Int.dvd_zero _⟩
  rw [fxX6_divisor_9, if_neg (n100 hc), if_pos (by rw [pos64.1]; omega)]
/-- divisor, of long numbers: each two rounds halve the lesser one -/
theorem c_dvL {N : Nat} {h : mh} : ∀ (k f c : Nat) (x y : Int64), 0 ≤ y.toInt → y.toInt < 2 ^ k → 0 ≤ x.toInt → 2 * k + 2 ≤ f → c + 2 * k + 2 < 100000 → ∃ g, fxX6_divisor_9 N f x y (Int32.ofNat c) h = some (h, g) ∧ gc g.toInt x.toInt y.toInt := by
  intro k
  induction k with
  | zero =>
    intro f c x y hy hy2 hx hf hc
    obtain ⟨f', rfl⟩ : ∃ f', f = f' + 1 := ⟨f - 1, by omega⟩
    have e : (2 : Int) ^ 0 = 1 := rfl
    rw [e] at hy2
    exact ⟨x, dv_end hx (by omega) (by omega)⟩
  | succ k ih =>
    intro f c x y hy hy2 hx hf hc
    obtain ⟨f', rfl⟩ : ∃ f', f = f' + 1 + 1 := ⟨f - 2, by omega⟩
    have e : (2 : Int) ^ (k + 1) = 2 * 2 ^ k := by rw [Int.pow_succ, Int.mul_comm]
    rw [e] at hy2
    by_cases y0 : y.toInt = 0
    · exact ⟨x, dv_end hx y0 (by omega)⟩
    · obtain ⟨r, er, q⟩ := dv_step (N := N) (f := f' + 1) (c := c) (h := h) hx (show 0 < y.toInt by omega) (by omega)
      have r0 := Int.emod_nonneg x.toInt (show y.toInt ≠ 0 by omega)
      have r1 := Int.emod_lt_of_pos x.toInt (show 0 < y.toInt by omega)
      rw [q]
      by_cases rz : r.toInt = 0
      · obtain ⟨q2, g2⟩ := dv_end (N := N) (f := f') (c := c + 1) (x := y) (y := r) (h := h) hy rz (by omega)
        refine ⟨y, q2, gc_step (by omega) ?_⟩
        rw [← er]
        exact g2
      · obtain ⟨t, et, q2⟩ := dv_step (N := N) (f := f') (c := c + 1) (x := y) (y := r) (h := h) hy (by omega) (by omega)
        have t0 := Int.emod_nonneg y.toInt (show r.toInt ≠ 0 by omega)
        have hm := half_mod (y := y.toInt) (r := r.toInt) (by omega) (by omega)
        obtain ⟨g, e3, g3⟩ := ih f' (c + 1 + 1) r t (by omega) (by omega) (by omega) (by omega) (by omega)
        rw [q2]
        refine ⟨g, e3, gc_step (by omega) ?_⟩
        rw [← er]
        refine gc_step (by omega) ?_
        rw [← et]
        exact g3
theorem c_dvLong {N : Nat} {x y : Int64} {h : mh} (hN : 100000 < N) (hx : 0 ≤ x.toInt) (hy : 0 ≤ y.toInt) : ∃ g, fxX6_divisor N x y h = some (h, g) ∧ gc g.toInt x.toInt y.toInt := by
  have l := Int64.toInt_lt y
  exact c_dvL 63 N 0 x y hy (by omega) hx (by omega) (by omega)
/-- put: the fraction in lowest terms -/
theorem d_rput {N p : Nat} {x y : Int64} {s : cS} (hN : 100000 < N) (h4 : (shp p).1 = 4) (hx : x.toInt.natAbs < 9223372036854775808) (hy : 0 < y.toInt) : ∃ g s', fxX4_put N p x y (hC s) = some (hC s') ∧ cf (fun i => i = p) s s' ∧ gc g.toInt x.toInt y.toInt ∧ 0 < g.toInt ∧ qJ s' p 0 = x / g ∧ qJ s' p 1 = y / g := by
  have ab : (if 0 < x then x else -x).toInt = x.toInt ∨ (if 0 < x then x else -x).toInt = -x.toInt := by
    by_cases c : 0 < x
    · rw [if_pos c]
      exact .inl rfl
    · rw [if_neg c]
      refine .inr ?_
      rw [Int64.toInt_neg]
      exact bm (by omega)
  have a0 : 0 ≤ (if 0 < x then x else -x).toInt := by
    by_cases c : 0 < x
    · rw [if_pos c]
      rw [Int64.lt_iff_toInt_lt, z64] at c
      omega
    · rw [if_neg c, Int64.toInt_neg, bm (by omega)]
      rw [Int64.lt_iff_toInt_lt, z64] at c
      omega
  obtain ⟨g, e, gg⟩ := c_dvLong (N := N) (h := hC s) hN a0 (show 0 ≤ y.toInt by omega)
  have gg' : gc g.toInt x.toInt y.toInt := gc_sg gg ab (.inl rfl)
  have g0 : 0 < g.toInt := by
    have := gg'.1
    by_cases c : g.toInt = 0
    · have := (gg'.2.1 c).2
      omega
    · omega
  refine ⟨g, uJ (uJ s p 0 (x / g)) p 1 (y / g), ?_, (cf_uJ (L := fun i => i = p) _ (rfl : p = p)).tr (cf_uJ (L := fun i => i = p) _ (rfl : p = p)), gg', g0, ?_, ?_⟩
  · have n1 : ¬ (g ≤ 0) := by
      rw [pos64.1]
      omega
    have n2 : ¬ (g = 0) := by
      rw [pos64.2]
      omega
    unfold fxX4_put
    refine bndE e ((if_neg n1).trans ((if_neg n2).trans (bndE (sJ_4_0 h4) ((if_neg n2).trans (bndE (sJ_4_1 h4) rfl)))))
  · rw [qJ_uJ, if_neg (by omega), qJ_uJ, if_pos ⟨rfl, rfl⟩]
  · rw [qJ_uJ, if_pos ⟨rfl, rfl⟩]
theorem d_part {N p : Nat} {w : Int32} {s : cS} (h4 : (shp p).1 = 4) (hw : w = 0 ∨ w = 1) : fxX4_part N p w (hC s) = some (hC s, if w = 0 then qJ s p 0 else qJ s p 1) := by
  unfold fxX4_part
  rcases hw with e | e
  · subst e
    exact (if_pos rfl).trans (bndE (gJ_4_0 h4) rfl)
  · subst e
    exact (if_neg (by decide)).trans (bndE (gJ_4_1 h4) rfl)
theorem d_tb {N : Nat} {w : Int32} {h : mh} : (w = 0 ∨ w = 1) ∧ fxX6_isTopOrBottom N w h = some (h, 1) ∨ (w ≠ 0 ∧ w ≠ 1) ∧ fxX6_isTopOrBottom N w h = some (h, 0) := by
  unfold fxX6_isTopOrBottom
  by_cases e : w = 0
  · exact .inl ⟨.inl e, if_pos e⟩
  · by_cases e1 : w = 1
    · exact .inl ⟨.inr e1, (if_neg e).trans (if_pos e1)⟩
    · exact .inr ⟨⟨e, e1⟩, (if_neg e).trans (if_neg e1)⟩
theorem four64 {v : Int64} (h0 : 0 < v.toInt) (h : v.toInt ≤ 6600000000) : (4 * v).toInt = 4 * v.toInt := by
  have := bv_mul (⟨rfl, by decide⟩ : bv (4 : Int64) 4 4) (⟨rfl, by omega⟩ : bv v v.toInt 6600000000) (by decide)
  exact this.1
/-- middle -/
theorem sv_middle {N : Nat} {C : cS} {s : mS} (hN : 4611686018427387904 < N) (j : JK C s) (a b w : Int32) : ∃ C' v o, fxX6_middle N 0 a b w (hC C) = some (hC C', v) ∧ mxX7_middle N a b w s = some o ∧ v = o.2 ∧ JK C' o.1 := by
  have j' := j
  obtain ⟨bo, xx, cc, jx⟩ := j
  have ci := jx.1
  have fin : ∀ v, fxX6_middle N 0 a b w (hC C) = some (hC C, v) → mxX7_middle N a b w s = some (s, v) → ∃ C' v o, fxX6_middle N 0 a b w (hC C) = some (hC C', v) ∧ mxX7_middle N a b w s = some o ∧ v = o.2 ∧ JK C' o.1 := fun v e1 e2 => ⟨C, v, _, e1, e2, rfl, j'⟩
  rcases slot_or a with ha | ⟨i, hi, rfl⟩
  · refine fin 0 ?_ ?_
    · unfold fxX6_middle
      rw [slot_no ha, Option.bind_some]
      rfl
    · unfold mxX7_middle
      rw [solid_no ha, Option.bind_some]
      rfl
  · obtain ⟨hb, -, b0, n2⟩ := bodyOf ci hi
    obtain ⟨s1, m, k, F, E, R, rf, ρ, e1, h4, h5, ok, K, br'⟩ := slot_kn (N := N) (g := 0) (by omega) jx hi (by omega)
    have e1' : mxX7_knows N (Int32.ofNat i) 0 s = some s1 := e1
    have k4 := okP_k ok
    have l4 : (Int32.ofNat k < (4 : Int32)) = (k < 4) := i_lt (a := k) (b := 4) (by omega) (by omega)
    have y1 : qI C (bo (1 + i)) 0 = Int32.ofNat k := br'.2.1.1
    have c0 : fxX6_middle N 0 (Int32.ofNat i) b w (hC C) = if Int32.ofNat k = (4 : Int32) then (if b < 0 then some (hC C, 0) else (if (2 : Int32) < b then some (hC C, 0) else ((fxX6_isTopOrBottom N w (hC C)).bind fun o13 => if o13.2 = 0 then some (o13.1, (0 : Int64)) else ((gR o13.1 0 6 12).bind fun v16 => (gR o13.1 0 6 2).bind fun v18 => (aR o13.1 v18 (Int32.ofNat i)).bind fun v20 => (kO o13.1 v20 0).bind fun f24 => (fxX0_moment N v20 b o13.1).bind fun o22 => (gR o22.1 0 6 2).bind fun v26 => (aR o22.1 v26 (Int32.ofNat i)).bind fun v28 => (kO o22.1 v28 0).bind fun f32 => (fxX0_sixVolumes N v28 o22.1).bind fun o30 => (kO o30.1 v16 4).bind fun f36 => (fxX4_put N v16 o22.2 ((4 : Int64) * o30.2) o30.1).bind fun o34 => (gR o34 0 6 12).bind fun v38 => (kO o34 v38 4).bind fun f42 => (fxX4_part N v38 w o34).bind fun o40 => some (o40.1, o40.2))))) else some (hC C, 0) := by
      unfold fxX6_middle
      rw [slot_in hi, Option.bind_some]
      dsimp only
      rw [if_neg no1]
      refine bndE (gR_6_2 x06) (bndE (aR3 hi (ci.1.2.1 i hi)) (bndE (gI_0_0 b0) ?_))
      rw [y1]
    have m0 : mxX7_middle N (Int32.ofNat i) b w s = if Int32.ofNat k < (4 : Int32) then some (s, 0) else (if b < 0 then some (s, 0) else (if (2 : Int32) < b then some (s, 0) else (if w = 0 then mxX7_middle_37 N (Int32.ofNat i) b w s else (if w = (1 : Int32) then mxX7_middle_37 N (Int32.ofNat i) b w s else some (s, 0))))) := by
      unfold mxX7_middle
      rw [solid_in hi, Option.bind_some]
      dsimp only
      rw [if_neg (by decide), rA8 rfl hi, Option.bind_some, h5]
    by_cases c : k < 4
    · have n4 : ¬ (Int32.ofNat k = (4 : Int32)) := fun w => by
        have := i_inj (b := 4) (by omega) (by omega) w
        omega
      exact fin 0 (c0.trans (if_neg n4)) (m0.trans (if_pos (by rw [l4]; exact c)))
    have ek : k = 4 := by omega
    have p4 : Int32.ofNat k = (4 : Int32) := by rw [ek]; rfl
    have n4 : ¬ (Int32.ofNat k < (4 : Int32)) := by
      rw [l4]
      exact c
    by_cases w0 : b < 0
    · exact fin 0 (c0.trans ((if_pos p4).trans (if_pos w0))) (m0.trans ((if_neg n4).trans (if_pos w0)))
    by_cases w2 : (2 : Int32) < b
    · exact fin 0 (c0.trans ((if_pos p4).trans ((if_neg w0).trans (if_pos w2)))) (m0.trans ((if_neg n4).trans ((if_neg w0).trans (if_pos w2))))
    rcases d_tb (N := N) (w := w) (h := hC C) with ⟨hw, et⟩ | ⟨hw, et⟩
    · obtain ⟨ax, hax, rfl⟩ := ax_or (n := 2) (by omega) w0 (Int32.not_lt.mp w2)
      obtain ⟨s2, e2, f2, ⟨v6, p6, q6⟩, vm⟩ := vol_both (N := N) (by omega) hb ok K br' ek
      obtain ⟨vm1, vm2⟩ := vm ax (by omega)
      have e4 := four64 p6 q6
      obtain ⟨g, C1, ep, cf1, gg, g0, j0, j1⟩ := d_rput (N := N) (p := 46) (x := s2.2.1 (48 + ax)) (y := 4 * s2.2.1 47) (s := C) (by omega) x46 (by omega) (by omega)
      obtain ⟨g', e3, gg', -⟩ := x_common (N := N) (M := 4611686018427387903) (a := s2.2.1 (48 + ax)) (b := 4 * s2.2.1 47) (s := s2) (by omega) (by omega) (by decide) (by omega)
      have eg : g' = g := Int64.toInt_inj.mp (gc_u gg' gg)
      subst eg
      have gn : ¬ (g' = 0) := by
        rw [pos64.2]
        omega
      have m74 : mxX7_middle_74 N w (s2.2.1 (48 + ax)) s2 = some (s2, if w = 0 then s2.2.1 (48 + ax) / g' else 4 * s2.2.1 47 / g') := by
        unfold mxX7_middle_74
        rw [e3, Option.bind_some]
        dsimp only
        rcases hw with e | e
        · rw [if_pos e, if_neg gn, if_pos e]
        · have nw : ¬ (w = 0) := fun z => by
            rw [z] at e
            exact absurd e (by decide)
          rw [if_neg nw, if_neg gn, if_neg nw]
      have m37 : mxX7_middle_37 N (Int32.ofNat i) (Int32.ofNat ax) w s = some (s2, if w = 0 then s2.2.1 (48 + ax) / g' else 4 * s2.2.1 47 / g') := by
        unfold mxX7_middle_37
        rw [e1', Option.bind_some, e2, Option.bind_some]
        rcases (show ax = 0 ∨ ax = 1 ∨ ax = 2 by omega) with z | z | z
        · subst z
          exact (if_pos rfl).trans m74
        · subst z
          exact (if_neg (by decide)).trans ((if_pos rfl).trans m74)
        · subst z
          exact (if_neg (by decide)).trans ((if_neg (by decide)).trans m74)
      refine ⟨C1, _, (s2, if w = 0 then s2.2.1 (48 + ax) / g' else 4 * s2.2.1 47 / g'), c0.trans ((if_pos p4).trans ((if_neg w0).trans ((if_neg w2).trans (bndE et ((if_neg no1).trans (bndE (gR_6_12 x06) (bndE (gR_6_2 x06) (bndE (aR3 hi (ci.1.2.1 i hi)) (bndE (kO_0 b0) (bndE vm1 (bndE (gR_6_2 x06) (bndE (aR3 hi (ci.1.2.1 i hi)) (bndE (kO_0 b0) (bndE v6 (bndE (kO_4 x46) (bndE ep (bndE (gR_6_12 x06) (bndE (kO_4 x46) (bndE (d_part x46 hw) rfl))))))))))))))))))), m0.trans ((if_neg n4).trans ((if_neg w0).trans ((if_neg w2).trans ?_))), ?_, JK_read j' (cf1.mo (fun i hi => fre_46 hi)) f2⟩
      · rcases hw with e | e
        · exact (if_pos e).trans m37
        · have nw : ¬ (w = 0) := fun z => by
            rw [z] at e
            exact absurd e (by decide)
          exact (if_neg nw).trans ((if_pos e).trans m37)
      · show (if w = 0 then qJ C1 46 0 else qJ C1 46 1) = _
        rw [j0, j1]
    · refine fin 0 (c0.trans ((if_pos p4).trans ((if_neg w0).trans ((if_neg w2).trans (bndE et rfl))))) (m0.trans ((if_neg n4).trans ((if_neg w0).trans ((if_neg w2).trans ((if_neg hw.1).trans (if_neg hw.2))))))
