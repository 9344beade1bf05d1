/-- the ways gone through: the FACES', and those of EDGES up to e, k -/
def QE (A : Nat → V3) (F E : Nat) (nf : Nat → V3) (pe qe fe ge : Nat → Nat) (e k : Nat) : V3 → Prop := fun v => (∃ f, f < F ∧ v = nf f) ∨ ∃ e' k', e' < k' ∧ k' < E ∧ (e' < e ∨ e' = e ∧ k' < k) ∧ CE A nf pe qe fe ge e' k' v
def ZW (C0 : cS) (b m F E : Nat) (A nf : Nat → V3) (pe qe fe ge : Nat → Nat) (h : mh) : Prop := ∃ C', h = hC C' ∧ cf (fun i => i = b + 9) C0 C' ∧ WIs A m (DN A F E nf pe qe fe ge) C' b
theorem d_rs144 {N b m F E e : Nat} {A nf : Nat → V3} {df : Nat → Int} {pe qe fe ge : Nat → Nat} {C0 : cS} {rec : Nat → Int32 → mh → Option mh} (hN : 100000 < N) (hb : isB b) (cw : CW C0 b m F E A nf df pe qe fe ge) (he : e < E) (hr : ∀ C, cf (fun i => i = b + 9) C0 C → WIs A m (QE A F E nf pe qe fe ge (e + 1) (e + 2)) C b → OK (ZW C0 b m F E A nf pe qe fe ge) (rec b (Int32.ofNat (e + 1)) (hC C))) : ∀ (r k fu : Nat) (C : cS), k + r = E → r < fu → e < k → cf (fun i => i = b + 9) C0 C → WIs A m (QE A F E nf pe qe fe ge e k) C b → OK (ZW C0 b m F E A nf pe qe fe ge) (fxX0_reckonSlit_144 N rec fu b (Int32.ofNat e) (Int32.ofNat k) (hC C)) := by
  obtain ⟨h0, -⟩ := isB_sh hb
  have E66 := cw.1.2.2
  intro r
  induction r with
  | zero =>
    intro k fu C hk hfu ek c st
    obtain ⟨fu', rfl⟩ : ∃ f', fu = f' + 1 := ⟨fu - 1, by omega⟩
    have e0 : k = E := by omega
    subst e0
    have cw' := CW_cf cw c
    rw [fxX0_reckonSlit_144, i_s]
    refine OK_b (gI_0_6 h0) ?_
    rw [cw'.2.1.2.2]
    refine OK_p (Int32.le_refl _) (hr C c (WIs_mo st (fun v hv => ?_)))
    rcases hv with hv | ⟨e', k', h1, h2, h3, h4⟩
    · exact .inl hv
    · exact .inr ⟨e', k', h1, h2, by omega, h4⟩
  | succ r ih =>
    intro k fu C hk hfu ek c st
    obtain ⟨fu', rfl⟩ : ∃ f', fu = f' + 1 := ⟨fu - 1, by omega⟩
    have cw' := CW_cf cw c
    rw [fxX0_reckonSlit_144, i_s, i_s]
    refine OK_b (gI_0_6 h0) ?_
    rw [cw'.2.1.2.2]
    refine OK_n (by rw [i_le (by omega) (by omega)]; omega) (OK_b (kO_0 h0) (OK_c (d_offerE hN hb cw' he (show k < E by omega) st) (fun h' e' => ?_)))
    obtain ⟨C', e'', c', st'⟩ := e'
    subst e''
    refine ih (k + 1) fu' C' (by omega) (by omega) (by omega) (c.tr c') (WIs_mo st' (fun v hv => ?_))
    rcases hv with hv | ⟨e', k', h1, h2, h3, h4⟩
    · exact .inl (.inl hv)
    · by_cases q : e' = e ∧ k' = k
      · rw [q.1, q.2] at h4
        exact .inr h4
      · exact .inl (.inr ⟨e', k', h1, h2, by omega, h4⟩)
theorem d_rs132 {N b m F E : Nat} {A nf : Nat → V3} {df : Nat → Int} {pe qe fe ge : Nat → Nat} {C0 : cS} (hN : 100000 < N) (hb : isB b) (cw : CW C0 b m F E A nf df pe qe fe ge) : ∀ (r e fu : Nat) (C : cS), e + r = E → r < fu → cf (fun i => i = b + 9) C0 C → WIs A m (QE A F E nf pe qe fe ge e (e + 1)) C b → OK (ZW C0 b m F E A nf pe qe fe ge) (fxX0_reckonSlit_132 N fu b (Int32.ofNat e) (hC C)) := by
  obtain ⟨h0, -⟩ := isB_sh hb
  have E66 := cw.1.2.2
  intro r
  induction r with
  | zero =>
    intro e fu C he hfu c st
    obtain ⟨fu', rfl⟩ : ∃ f', fu = f' + 1 := ⟨fu - 1, by omega⟩
    have e0 : e = E := by omega
    subst e0
    have cw' := CW_cf cw c
    rw [fxX0_reckonSlit_132]
    refine OK_b (gI_0_6 h0) ?_
    rw [cw'.2.1.2.2]
    refine OK_p (Int32.le_refl _) (OK_s ⟨C, rfl, c, WIs_mo st (fun v hv => ?_)⟩)
    rcases hv with hv | ⟨e', k', h1, h2, h4⟩
    · exact .inl hv
    · exact .inr ⟨e', k', h1, h2, .inl (by omega), h4⟩
  | succ r ih =>
    intro e fu C he hfu c st
    obtain ⟨fu', rfl⟩ : ∃ f', fu = f' + 1 := ⟨fu - 1, by omega⟩
    have cw' := CW_cf cw c
    rw [fxX0_reckonSlit_132, i_s]
    refine OK_b (gI_0_6 h0) ?_
    rw [cw'.2.1.2.2]
    exact OK_n (by rw [i_le (by omega) (by omega)]; omega) (d_rs144 hN hb cw (by omega) (fun C' c' st' => ih (e + 1) fu' C' (by omega) (by omega) c' st') (E - (e + 1)) (e + 1) N C (by omega) (by omega) (by omega) c st)
theorem d_rs23 {N b m F E : Nat} {A nf : Nat → V3} {df : Nat → Int} {pe qe fe ge : Nat → Nat} {C0 : cS} (hN : 100000 < N) (hb : isB b) (cw : CW C0 b m F E A nf df pe qe fe ge) : ∀ (r f fu : Nat) (C : cS), f + r = F → r < fu → cf (fun i => i = b + 9) C0 C → WIs A m (fun v => ∃ f', f' < f ∧ v = nf f') C b → OK (ZW C0 b m F E A nf pe qe fe ge) (fxX0_reckonSlit_23 N fu b (Int32.ofNat f) (hC C)) := by
  obtain ⟨h0, hp, h5, -⟩ := isB_sh hb
  obtain ⟨hp3, -⟩ := pt_sh hp
  have E66 := cw.1.2.2
  have F44 := cw.1.2.1
  have m24 := cw.1.1
  intro r
  induction r with
  | zero =>
    intro f fu C hf hfu c st
    obtain ⟨fu', rfl⟩ : ∃ f', fu = f' + 1 := ⟨fu - 1, by omega⟩
    have e0 : f = F := by omega
    subst e0
    have cw' := CW_cf cw c
    rw [fxX0_reckonSlit_23]
    refine OK_b (gI_0_2 h0) ?_
    rw [cw'.2.1.2.1]
    refine OK_p (Int32.le_refl _) (d_rs132 hN hb cw E 0 N C (by omega) (by omega) c (WIs_mo st (fun v hv => ?_)))
    rcases hv with hv | ⟨e', k', h1, h2, h3, -⟩
    · exact hv
    · omega
  | succ r ih =>
    intro f fu C hf hfu c st
    obtain ⟨fu', rfl⟩ : ∃ f', fu = f' + 1 := ⟨fu - 1, by omega⟩
    have cw' := CW_cf cw c
    obtain ⟨-, ⟨q1, q2, q3⟩, pts, pls, -, wb⟩ := cw'
    obtain ⟨n1, n2, bn⟩ := pls f (by omega)
    obtain ⟨fc1, ⟨i0, -, -, hi0, -, -, ei0, -⟩, -⟩ := wb.2.1 f (by omega)
    obtain ⟨c1, c2, c3⟩ := i_c4s f
    have pl : ∀ k, k < 176 → aI (hC C) (b + 5) (Int32.ofNat k) = some (qA C (b + 5) k) := fun k hk => aI_N h5 hk (by decide)
    have e1 : (qA C (b + 5) (4 * f)).toInt = (nf f).1 := congrArg (fun v : V3 => v.1) n1
    have e2 : (qA C (b + 5) (4 * f + 1)).toInt = (nf f).2.1 := congrArg (fun v : V3 => v.2.1) n1
    have e3 : (qA C (b + 5) (4 * f + 2)).toInt = (nf f).2.2 := congrArg (fun v : V3 => v.2.2) n1
    have w1 : bv (qA C (b + 5) (4 * f)).toInt64 (nf f).1 81608 := bt32 e1 bn.1
    have w2 : bv (qA C (b + 5) (4 * f + 1)).toInt64 (nf f).2.1 81608 := bt32 e2 bn.2.1
    have w3 : bv (qA C (b + 5) (4 * f + 2)).toInt64 (nf f).2.2 81608 := bt32 e3 bn.2.2
    have b1 := bn.1
    have b2 := bn.2.1
    have b3 := bn.2.2
    have u1 : bv (-qA C (b + 5) (4 * f)).toInt64 (vs v0 (nf f)).1 81608 := bt32 (by rw [neg32b (by omega), e1]; show -(nf f).1 = 0 - (nf f).1; omega) (by show (0 - (nf f).1).natAbs ≤ 81608; omega)
    have u2 : bv (-qA C (b + 5) (4 * f + 1)).toInt64 (vs v0 (nf f)).2.1 81608 := bt32 (by rw [neg32b (by omega), e2]; show -(nf f).2.1 = 0 - (nf f).2.1; omega) (by show (0 - (nf f).2.1).natAbs ≤ 81608; omega)
    have u3 : bv (-qA C (b + 5) (4 * f + 2)).toInt64 (vs v0 (nf f)).2.2 81608 := bt32 (by rw [neg32b (by omega), e3]; show -(nf f).2.2 = 0 - (nf f).2.2; omega) (by show (0 - (nf f).2.2).natAbs ≤ 81608; omega)
    have bd : ∀ j, j < m → bd3 (pc C (b + 1) j) 100 := fun j hj => by
      rw [(pts j hj).1]
      exact (pts j hj).2
    obtain ⟨j, lj, far, qf⟩ := c_farthest (N := N) (p := b + 1) (n := 24) (k := m) (mx := (-qA C (b + 5) (4 * f)).toInt64) (my := (-qA C (b + 5) (4 * f + 1)).toInt64) (mz := (-qA C (b + 5) (4 * f + 2)).toInt64) (s := C) (by omega) hp (by omega) q1 m24 (by omega)
    have low : ∀ t, t < m → vd (nf f) (A j) ≤ vd (nf f) (A t) := fun t ht => by
      have := nfar_le (far t ht) u1 u2 u3 (by decide) (bd3_le (bd t ht) (by decide)) (bd3_le (bd j lj) (by decide))
      rw [(pts t ht).1, (pts j lj).1, neg_vd, neg_vd] at this
      omega
    have hw0 : nf f ≠ v0 := fun z => by
      obtain ⟨x, hx⟩ := (wb.2.1 f (by omega)).2.2
      rw [z, vd_0] at hx
      omega
    have sp : SPN A m (nf f) (df f - vd (nf f) (A j)) := ⟨hw0, i0, j, hi0, lj, fun t ht => by rw [ei0]; exact fc1 t ht, low, by rw [ei0]⟩
    have hd : bv (qA C (b + 5) (4 * f + 3)).toInt64 (df f) (81608 * 100 + 81608 * 100 + 81608 * 100) := bt32 n2 (by
      rw [← ei0]
      exact vd_bd2 bn (pts i0 hi0).2)
    have ha := hv_bv (s := C) (p := b + 1) (j := j) (m := nf f) w1 w2 w3 (bd j lj) (by decide)
    rw [(pts j lj).1] at ha
    have hx := bv_le (bv_sub hd ha (by decide)) (show _ ≤ 100000000 by decide)
    have sq := bv_vd (x := nf f) w1 w2 w3 (by decide)
    rw [fxX0_reckonSlit_23, c1, c2, c3, i_c4, i_s]
    refine OK_b (gI_0_2 h0) ?_
    rw [q2]
    obtain ⟨C', ec, cc, st'⟩ := d_offer (N := N) (d := fun v => v = nf f) hN hb hx sq.1 sp rfl (fun v hv => by
      rw [hv]
      exact SM_rf sp) st
    refine OK_n (by rw [i_le (by omega) (by omega)]; omega) (OK_b (gR_0_3 h0) (OK_b (pl _ (by omega)) (OK_b (gR_0_3 h0) (OK_b (pl _ (by omega)) (OK_b (gR_0_3 h0) (OK_b (pl _ (by omega)) (OK_b (gR_0_1 h0) (OK_b (kO_3 hp3) (OK_b qf (OK_b (gR_0_3 h0) (OK_b (pl _ (by omega)) (OK_b (gR_0_1 h0) (OK_b (kO_3 hp3) (OK_b (c_along hp (by decide) (show j < 24 by omega)) (OK_b c_steep (OK_b (kO_0 h0) (OK_b ec ?_)))))))))))))))))
    refine ih (f + 1) fu' C' (by omega) (by omega) (c.tr cc) (WIs_mo st' (fun v ⟨f', h1, h2⟩ => ?_))
    by_cases q : f' = f
    · rw [q] at h2
      exact .inr h2
    · exact .inl ⟨f', by omega, h2⟩
/-- reckonSlit: the WIDTH -/
theorem d_slit {N b m F E : Nat} {A nf : Nat → V3} {df : Nat → Int} {pe qe fe ge : Nat → Nat} {C : cS} (hN : 100000 < N) (hb : isB b) (cw : CW C b m F E A nf df pe qe fe ge) (k4 : qI C b 0 = 4) (F1 : 1 ≤ F) (sl : qJ C (b + 9) 1 = 0 ∨ IsW A m (qJ C (b + 9) 0).toInt (qJ C (b + 9) 1).toInt) : ∃ C', fxX0_reckonSlit N b (hC C) = some (hC C') ∧ cf (fun i => i = b + 9) C C' ∧ IsW A m (qJ C' (b + 9) 0).toInt (qJ C' (b + 9) 1).toInt := by
  obtain ⟨b0, -, -, -, -, -, b9⟩ := isB_sh hb
  by_cases z : qJ C (b + 9) 1 = 0
  · obtain ⟨h, e, C', e', c, st⟩ := d_rs23 (N := N) hN hb cw F 0 N C (by omega) (by have := cw.1.2.1; omega) cf.rf (.inl ⟨z, fun v ⟨f', h1, _⟩ => absurd h1 (by omega)⟩)
    have e2 : fxX0_reckonSlit_23 N N b 0 (hC C) = some h := e
    refine ⟨C', ?_, c, ?_⟩
    · unfold fxX0_reckonSlit
      refine bndE (gI_0_0 b0) ((if_pos k4).trans (bndE (gR_0_8 b0) (bndE (gJ_4_1 b9) ((if_pos ?_).trans (e2.trans (by rw [e']))))))
      rw [z]
      decide
    · rcases st with ⟨-, no⟩ | ⟨wi, g1⟩
      · exact absurd (.inl ⟨0, F1, rfl⟩) (no (nf 0))
      · exact WI_IsW wi g1 (fun v g hv => cover cw.2.2.2.2.2 hv)
  · have w := sl.resolve_left z
    refine ⟨C, ?_, cf.rf, w⟩
    unfold fxX0_reckonSlit
    refine bndE (gI_0_0 b0) ((if_pos k4).trans (bndE (gR_0_8 b0) (bndE (gJ_4_1 b9) (if_neg ?_))))
    rw [pos64.1]
    have := w.1
    omega
