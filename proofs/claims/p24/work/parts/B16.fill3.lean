theorem neg32b {a : Int32} (h : a.toInt.natAbs ≤ 100000000) : (-a).toInt = -a.toInt := by
  rw [Int32.toInt_neg]
  exact bm32 (by omega)
/-- when a plane is put in, the old ones stay and the new one is there -/
theorem ap_all2 {s s' : cS} {b F : Nat} {m : V3} {r : Int32 × Int32 × Int32 × Int32} (ap : apO s s' b F m r) (hF : F < 44) (h2 : qI s b 2 = Int32.ofNat F) (so : srtB s b F) (hm : (r.1.toInt, r.2.1.toInt, r.2.2.1.toInt) = m) : ∃ F', F' ≤ 44 ∧ qI s' b 2 = Int32.ofNat F' ∧ srtB s' b F' ∧ (∀ f, f < F' → (∃ f0, f0 < F ∧ bN s' b f = bN s b f0 ∧ bD s' b f = bD s b f0) ∨ bN s' b f = m ∧ bD s' b f = r.2.2.2.toInt) ∧ (∀ f0, f0 < F → ∃ f, f < F' ∧ bN s' b f = bN s b f0) ∧ (∃ f, f < F' ∧ bN s' b f = m) ∧ cf (fun i => i = b ∨ i = b + 5) s s' ∧ ∀ k, k ≠ 2 → qI s' b k = qI s b k := by
  rcases ap with ⟨e, f, hf, ef⟩ | ⟨x, hx, ⟨i1, i2, i3, i4, i5, i6⟩, lo, hi⟩
  · subst e
    exact ⟨F, by omega, h2, so, fun f hf => .inl ⟨f, hf, rfl, rfl⟩, fun f hf => ⟨f, hf, rfl⟩, ⟨f, hf, ef⟩, cf.rf, fun _ _ => rfl⟩
  · have nx : bN s' b x = m ∧ bD s' b x = r.2.2.2.toInt := by
      rw [← hm]
      unfold bR at i5
      rw [← i5]
      exact ⟨rfl, rfl⟩
    refine ⟨F + 1, by omega, i3, fun f f' l l' => ?_, fun f hf => ?_, fun f0 h0 => ?_, ⟨x, by omega, nx.1⟩, i1, i2⟩
    · by_cases c1 : f' < x
      · rw [(bR_N (i4 f (by omega))).1, (bR_N (i4 f' c1)).1]
        exact so f f' l (by omega)
      · by_cases c2 : f' = x
        · rw [c2, nx.1, (bR_N (i4 f (by omega))).1]
          exact lo f (by omega)
        · rw [(bR_N (i6 f' (by omega) (by omega))).1]
          by_cases c3 : f < x
          · rw [(bR_N (i4 f c3)).1]
            exact so f (f' - 1) (by omega) (by omega)
          · by_cases c4 : f = x
            · rw [c4, nx.1]
              exact hi (f' - 1) (by omega) (by omega)
            · rw [(bR_N (i6 f (by omega) (by omega))).1]
              exact so (f - 1) (f' - 1) (by omega) (by omega)
    · by_cases c1 : f < x
      · exact .inl ⟨f, by omega, (bR_N (i4 f c1)).1, (bR_N (i4 f c1)).2⟩
      · by_cases c2 : f = x
        · rw [c2]
          exact .inr nx
        · exact .inl ⟨f - 1, by omega, (bR_N (i6 f (by omega) (by omega))).1, (bR_N (i6 f (by omega) (by omega))).2⟩
    · by_cases c1 : f0 < x
      · exact ⟨f0, by omega, (bR_N (i4 f0 c1)).1⟩
      · have e := (bR_N (i6 (f0 + 1) (by omega) (by omega))).1
        rw [Nat.add_sub_cancel] at e
        exact ⟨f0 + 1, by omega, e⟩
/-- the body's planes while they are filled in: O says which have been offered -/
def PG (O : V3 → Int → Prop) (s0 s : cS) (b F : Nat) : Prop := cf (fun i => i = b ∨ i = b + 5) s0 s ∧ (∀ k, k ≠ 2 → qI s b k = qI s0 b k) ∧ F ≤ 44 ∧ qI s b 2 = Int32.ofNat F ∧ srtB s b F ∧ (∀ f, f < F → (∃ x, vd (bN s b f) x = 1) ∧ bd3 (bN s b f) 81608 ∧ ∃ v e g, O v e ∧ 0 < g ∧ v = vl g (bN s b f) 0 v0 ∧ e = g * bD s b f) ∧ (F < 44 → ∀ v e, O v e → ∃ f g, f < F ∧ 0 < g ∧ v = vl g (bN s b f) 0 v0)
theorem PG_O {O O' : V3 → Int → Prop} {s0 s : cS} {b F : Nat} (h : PG O s0 s b F) (e : ∀ v d, O v d ↔ O' v d) : PG O' s0 s b F := by
  obtain ⟨h1, h2, h3, h4, h5, h6, h7⟩ := h
  refine ⟨h1, h2, h3, h4, h5, fun f hf => ?_, fun lt v d hv => h7 lt v d ((e v d).mpr hv)⟩
  obtain ⟨a1, a2, v, d, g, o, a3⟩ := h6 f hf
  exact ⟨a1, a2, v, d, g, (e v d).mp o, a3⟩
theorem PG_pl {N b F : Nat} {O : V3 → Int → Prop} {s0 s : cS} {p1 p2 p3 p4 : Int32} {u : V3} (hN : 100000 < N) (hb : isB b) (h : PG O s0 s b F) (bd : bd3 (p1.toInt, p2.toInt, p3.toInt) 81608) (hu : bd3 u 101) (e4 : p4.toInt = vd (p1.toInt, p2.toInt, p3.toInt) u) : ∃ s' F', fxX0_addPlane N b p1 p2 p3 p4 (hC s) = some (hC s') ∧ PG (fun v e => O v e ∨ v = (p1.toInt, p2.toInt, p3.toInt) ∧ e = p4.toInt ∧ v ≠ v0) s0 s' b F' := by
  obtain ⟨h1, h2, h3, h4, h5, h6, h7⟩ := h
  obtain ⟨s', q, k⟩ := c_addPlane (N := N) (p4 := p4) hN (by decide) hb h3 h4 h5 bd
  rcases k with ⟨e, z⟩ | ⟨lt, G, g, m, g0, gG, eq, pr, bm, em, ap⟩
  · subst e
    refine ⟨s', F, q, h1, h2, h3, h4, h5, fun f hf => ?_, fun lt v e hv => ?_⟩
    · obtain ⟨a1, a2, v, e, g, o, a3⟩ := h6 f hf
      exact ⟨a1, a2, v, e, g, .inl o, a3⟩
    · rcases hv with o | ⟨y1, y2, y3⟩
      · exact h7 lt v e o
      · rcases z with z | z
        · exact absurd (y1.trans z) y3
        · omega
  · have dd : p4.toInt = g * vd m u := by
      rw [e4, eq, vd_vl_l, vd_0]
      omega
    have bD4 : p4.toInt.natAbs ≤ 24727224 := by
      rw [e4]
      exact vd_bd2 bd hu
    have q4 := dv32 (a := p4) (G := G) (T := vd m u) (M := 24727224) gG g0 dd bD4 (by decide)
    have ne : (p1.toInt, p2.toInt, p3.toInt) ≠ v0 := fun z => prim_ne0 pr (vl_z g0 (eq.symm.trans z))
    obtain ⟨F', f1, f2, f3, f4, f5, f6, f7, f8⟩ := ap_all2 ap lt h4 h5 em
    refine ⟨s', F', q, h1.tr f7, fun k hk => (f8 k hk).trans (h2 k hk), f1, f2, f3, fun f hf => ?_, fun lt' v e hv => ?_⟩
    · rcases f4 f hf with ⟨f0, l0, e1, e2⟩ | ⟨e1, e2⟩
      · rw [e1, e2]
        obtain ⟨a1, a2, v, e, g, o, a3⟩ := h6 f0 l0
        exact ⟨a1, a2, v, e, g, .inl o, a3⟩
      · rw [e1, e2]
        refine ⟨pr, bm, _, p4.toInt, g, .inr ⟨rfl, rfl, ne⟩, g0, eq, ?_⟩
        show p4.toInt = g * (p4 / G).toInt
        rw [q4.1]
        exact dd
    · rcases hv with o | ⟨y1, y2, y3⟩
      · obtain ⟨f0, g', l0, g0', e0⟩ := h7 lt v e o
        obtain ⟨f, hf, ef⟩ := f5 f0 l0
        exact ⟨f, g', hf, g0', by rw [ef]; exact e0⟩
      · obtain ⟨f, hf, ef⟩ := f6
        exact ⟨f, g, hf, g0, by rw [ef, y1]; exact eq⟩
/-- a row that does not touch the prop -/
def nt (s : cS) (t : Nat) : Prop := tp s (3 * t) ≠ 3 ∧ tp s (3 * t + 1) ≠ 3 ∧ tp s (3 * t + 2) ≠ 3
/-- what the first t rows offer -/
def OF (kd : Nat) (s0 : cS) (t : Nat) (v : V3) (e : Int) : Prop := ∃ t', t' < t ∧ v ≠ v0 ∧ ((kd = 4 ∧ v = tN s0 t' ∧ e = tD s0 t') ∨ (kd ≠ 4 ∧ nt s0 t' ∧ (v = tN s0 t' ∧ e = tD s0 t' ∨ v = vs v0 (tN s0 t') ∧ e = -tD s0 t')))
theorem OF_s4 {s0 : cS} {t : Nat} {v : V3} {e : Int} : (OF 4 s0 t v e ∨ v = tN s0 t ∧ e = tD s0 t ∧ v ≠ v0) ↔ OF 4 s0 (t + 1) v e := by
  constructor
  · intro h
    rcases h with ⟨t', h1, h2, h3⟩ | ⟨h1, h2, h3⟩
    · exact ⟨t', by omega, h2, h3⟩
    · exact ⟨t, by omega, h3, .inl ⟨rfl, h1, h2⟩⟩
  · intro ⟨t', h1, h2, h3⟩
    by_cases c : t' = t
    · subst c
      rcases h3 with ⟨-, a, b⟩ | ⟨a, -⟩
      · exact .inr ⟨a, b, h2⟩
      · exact absurd rfl a
    · exact .inl ⟨t', by omega, h2, h3⟩
theorem OF_s3 {kd : Nat} {s0 : cS} {t : Nat} (hk : kd ≠ 4) (n : nt s0 t) {v : V3} {e : Int} : ((OF kd s0 t v e ∨ v = tN s0 t ∧ e = tD s0 t ∧ v ≠ v0) ∨ v = vs v0 (tN s0 t) ∧ e = -tD s0 t ∧ v ≠ v0) ↔ OF kd s0 (t + 1) v e := by
  constructor
  · intro h
    rcases h with (⟨t', h1, h2, h3⟩ | ⟨h1, h2, h3⟩) | ⟨h1, h2, h3⟩
    · exact ⟨t', by omega, h2, h3⟩
    · exact ⟨t, by omega, h3, .inr ⟨hk, n, .inl ⟨h1, h2⟩⟩⟩
    · exact ⟨t, by omega, h3, .inr ⟨hk, n, .inr ⟨h1, h2⟩⟩⟩
  · intro ⟨t', h1, h2, h3⟩
    by_cases c : t' = t
    · subst c
      rcases h3 with ⟨a, -⟩ | ⟨-, -, ⟨a, b⟩ | ⟨a, b⟩⟩
      · exact absurd a hk
      · exact .inl (.inr ⟨a, b, h2⟩)
      · exact .inr ⟨a, b, h2⟩
    · exact .inl (.inl ⟨t', by omega, h2, h3⟩)
theorem OF_sn {kd : Nat} {s0 : cS} {t : Nat} (hk : kd ≠ 4) (n : ¬ nt s0 t) {v : V3} {e : Int} : OF kd s0 t v e ↔ OF kd s0 (t + 1) v e := by
  constructor
  · intro ⟨t', h1, h2, h3⟩
    exact ⟨t', by omega, h2, h3⟩
  · intro ⟨t', h1, h2, h3⟩
    by_cases c : t' = t
    · subst c
      rcases h3 with ⟨a, -⟩ | ⟨-, a, -⟩
      · exact absurd a hk
      · exact absurd a n
    · exact ⟨t', by omega, h2, h3⟩
/-- the loop over the rows -/
theorem d_fill73 {N b K T kd : Nat} {s0 : cS} (hN : 100000 < N) (hb : isB b) (hkd : kd < 5) (sk : SK s0 K T) : ∀ (r t f : Nat) (s : cS) (F : Nat), t + r = T → r < f → PG (OF kd s0 t) s0 s b F → ∃ s' F', fxX2_fill_73 N f 28 b (Int32.ofNat kd) (Int32.ofNat t) (hC s) = some (hC s') ∧ PG (OF kd s0 T) s0 s' b F' := by
  obtain ⟨hb0, -⟩ := isB_sh hb
  have rb := (isB_rg hb).1
  have K25 := sk.1.1
  intro r
  induction r with
  | zero =>
    intro t f s F ht hf h
    obtain ⟨f', rfl⟩ : ∃ f', f = f' + 1 := ⟨f - 1, by omega⟩
    have e : t = T := by omega
    subst e
    have e1 : qI s 29 1 = Int32.ofNat t := by
      rw [h.1.I (fun w => by omega)]
      exact sk.2.2.1
    refine ⟨s, F, ?_, h⟩
    rw [fxX2_fill_73, gR_2_0 s28, Option.bind_some]
    show (gI (hC s) 29 5 1).bind _ = _
    rw [gI_5_1 s29, Option.bind_some, e1, if_pos (Int32.le_refl _)]
  | succ r ih =>
    intro t f s F ht hf h
    obtain ⟨f', rfl⟩ : ∃ f', f = f' + 1 := ⟨f - 1, by omega⟩
    have T46 := sk.1.2
    have ne : ¬ (Int32.ofNat T ≤ Int32.ofNat t) := by
      rw [i_le (by omega) (by omega)]
      omega
    have e1 : qI s 29 1 = Int32.ofNat T := by
      rw [h.1.I (fun w => by omega)]
      exact sk.2.2.1
    have a35 : qA s 35 = qA s0 35 := h.1.A (fun w => by omega)
    have a34 : qA s 34 = qA s0 34 := h.1.A (fun w => by omega)
    have bn := tN_bd sk (t := t) (by omega)
    obtain ⟨c1, c2, c3⟩ := i_c4s t
    have r0 : aI (hC s) 35 (4 * Int32.ofNat t) = some (qA s0 35 (4 * t)) := by
      rw [i_c4, aI_N t35 (by omega) (by decide), a35]
    have r1 : aI (hC s) 35 (4 * Int32.ofNat t + 1) = some (qA s0 35 (4 * t + 1)) := by
      rw [c1, aI_N t35 (by omega) (by decide), a35]
    have r2 : aI (hC s) 35 (4 * Int32.ofNat t + 2) = some (qA s0 35 (4 * t + 2)) := by
      rw [c2, aI_N t35 (by omega) (by decide), a35]
    have r3 : aI (hC s) 35 (4 * Int32.ofNat t + 3) = some (qA s0 35 (4 * t + 3)) := by
      rw [c3, aI_N t35 (by omega) (by decide), a35]
    obtain ⟨u, v, w, hu, hv, hw, i1, i2, i3, i4, i5, i6⟩ := sk.2.2.2.1 t (by omega)
    have bu := sk.2.2.2.2.1 u hu
    rw [fxX2_fill_73, gR_2_0 s28, Option.bind_some]
    show ∃ s' F', (gI (hC s) 29 5 1).bind _ = _ ∧ _
    rw [gI_5_1 s29, Option.bind_some, e1, if_neg ne, Option.bind_some]
    show ∃ s' F', (gR (hC s) 29 5 3).bind _ = _ ∧ _
    rw [gR_5_3 s29, Option.bind_some]
    show ∃ s' F', (aI (hC s) 35 (4 * Int32.ofNat t)).bind _ = _ ∧ _
    rw [r0, Option.bind_some, Option.bind_some]
    show ∃ s' F', (gR (hC s) 29 5 3).bind _ = _ ∧ _
    rw [gR_5_3 s29, Option.bind_some]
    show ∃ s' F', (aI (hC s) 35 (4 * Int32.ofNat t + 1)).bind _ = _ ∧ _
    rw [r1, Option.bind_some, Option.bind_some]
    show ∃ s' F', (gR (hC s) 29 5 3).bind _ = _ ∧ _
    rw [gR_5_3 s29, Option.bind_some]
    show ∃ s' F', (aI (hC s) 35 (4 * Int32.ofNat t + 2)).bind _ = _ ∧ _
    rw [r2, Option.bind_some, Option.bind_some]
    show ∃ s' F', (gR (hC s) 29 5 3).bind _ = _ ∧ _
    rw [gR_5_3 s29, Option.bind_some]
    show ∃ s' F', (aI (hC s) 35 (4 * Int32.ofNat t + 3)).bind _ = _ ∧ _
    rw [r3, Option.bind_some]
    by_cases c : kd = 4
    · rw [if_pos (show Int32.ofNat kd = (4 : Int32) by rw [c]; rfl), kO_0 hb0, Option.bind_some]
      obtain ⟨s1, F1, q1, p1⟩ := PG_pl (p1 := qA s0 35 (4 * t)) (p2 := qA s0 35 (4 * t + 1)) (p3 := qA s0 35 (4 * t + 2)) (p4 := qA s0 35 (4 * t + 3)) hN hb h bn bu i5
      rw [q1, Option.bind_some]
      unfold fxX2_fill_208
      rw [i_s]
      subst c
      exact ih (t + 1) f' s1 F1 (by omega) (by omega) (PG_O p1 (fun _ _ => OF_s4))
    · rw [if_neg (fun w : Int32.ofNat kd = (4 : Int32) => c (i_inj (b := 4) (by omega) (by omega) w)), Option.bind_some]
      show ∃ s' F', (kO (hC s) 29 5).bind _ = _ ∧ _
      rw [kO_5 s29, Option.bind_some]
      have tt := c_touches (N := N) (t := t) (k := 3) (s := s) (by omega) (u := u) (v := v) (w := w) (by unfold tip; rw [a34]; exact ⟨i1, i2, i3⟩) (by omega) (by omega) (by omega) (by omega)
      have tt' : fxX5_touches N (28 + 1) (Int32.ofNat t) 3 (hC s) = some (hC s, if u = 3 ∨ v = 3 ∨ w = 3 then 1 else 0) := tt
      have tu := tp_of i1 (by omega)
      have tv := tp_of i2 (by omega)
      have tw := tp_of i3 (by omega)
      rw [tt', Option.bind_some]
      dsimp only
      by_cases d : u = 3 ∨ v = 3 ∨ w = 3
      · rw [if_pos d, if_neg (show ¬ ((1 : Int32) = 0) by decide)]
        unfold fxX2_fill_208
        rw [i_s]
        refine ih (t + 1) f' s F (by omega) (by omega) (PG_O h (fun _ _ => OF_sn c ?_))
        unfold nt
        rw [tu, tv, tw]
        omega
      · rw [if_neg d, if_pos rfl, kO_0 hb0, Option.bind_some]
        obtain ⟨s1, F1, q1, p1⟩ := PG_pl (p1 := qA s0 35 (4 * t)) (p2 := qA s0 35 (4 * t + 1)) (p3 := qA s0 35 (4 * t + 2)) (p4 := qA s0 35 (4 * t + 3)) hN hb h bn bu i5
        rw [q1, Option.bind_some, kO_0 hb0, Option.bind_some]
        have b1 : (qA s0 35 (4 * t)).toInt.natAbs ≤ 81608 := bn.1
        have b2 : (qA s0 35 (4 * t + 1)).toInt.natAbs ≤ 81608 := bn.2.1
        have b3 : (qA s0 35 (4 * t + 2)).toInt.natAbs ≤ 81608 := bn.2.2
        have b4 : (qA s0 35 (4 * t + 3)).toInt.natAbs ≤ 24727224 := by
          show (tD s0 t).natAbs ≤ _
          rw [i5]
          exact vd_bd2 bn bu
        have g1 := neg32b (a := qA s0 35 (4 * t)) (by omega)
        have g2 := neg32b (a := qA s0 35 (4 * t + 1)) (by omega)
        have g3 := neg32b (a := qA s0 35 (4 * t + 2)) (by omega)
        have g4 := neg32b (a := qA s0 35 (4 * t + 3)) (by omega)
        have nn : ((-qA s0 35 (4 * t)).toInt, (-qA s0 35 (4 * t + 1)).toInt, (-qA s0 35 (4 * t + 2)).toInt) = vs v0 (tN s0 t) := by
          rw [g1, g2, g3]
          refine v3_ext ?_ ?_ ?_
          · show -(qA s0 35 (4 * t)).toInt = 0 - (qA s0 35 (4 * t)).toInt
            omega
          · show -(qA s0 35 (4 * t + 1)).toInt = 0 - (qA s0 35 (4 * t + 1)).toInt
            omega
          · show -(qA s0 35 (4 * t + 2)).toInt = 0 - (qA s0 35 (4 * t + 2)).toInt
            omega
        have bn' : bd3 ((-qA s0 35 (4 * t)).toInt, (-qA s0 35 (4 * t + 1)).toInt, (-qA s0 35 (4 * t + 2)).toInt) 81608 := by
          rw [g1, g2, g3]
          refine ⟨?_, ?_, ?_⟩
          · show (-(qA s0 35 (4 * t)).toInt).natAbs ≤ 81608
            omega
          · show (-(qA s0 35 (4 * t + 1)).toInt).natAbs ≤ 81608
            omega
          · show (-(qA s0 35 (4 * t + 2)).toInt).natAbs ≤ 81608
            omega
        have n4 : (-qA s0 35 (4 * t + 3)).toInt = - tD s0 t := g4
        obtain ⟨s2, F2, q2, p2⟩ := PG_pl (p1 := -qA s0 35 (4 * t)) (p2 := -qA s0 35 (4 * t + 1)) (p3 := -qA s0 35 (4 * t + 2)) (p4 := -qA s0 35 (4 * t + 3)) hN hb p1 bn' bu (by
          rw [nn, n4, neg_vd, i5])
        rw [q2, Option.bind_some]
        unfold fxX2_fill_208
        rw [i_s]
        refine ih (t + 1) f' s2 F2 (by omega) (by omega) (PG_O p2 (fun v' d' => ?_))
        rw [nn, n4]
        refine OF_s3 c ?_
        unfold nt
        rw [tu, tv, tw]
        omega
/-- fill -/
theorem d_fill {N b K T kd : Nat} {s : cS} (hN : 100000 < N) (hb : isB b) (hkd : kd < 5) (sk : SK s K T) (hc : cn kd K ≤ 24) (z1 : qI s (b + 1) 0 = 0) (z2 : qI s b 2 = 0) : ∃ s1 s' F, fxX2_fill N 28 b (Int32.ofNat kd) (hC s) = some (hC s') ∧ FI kd (uI s b 0 (Int32.ofNat kd)) s1 b K ∧ PG (OF kd s1 T) s1 s' b F := by
  obtain ⟨hb0, -⟩ := isB_sh hb
  have rb := (isB_rg hb).1
  have fi0 : FI kd (uI s b 0 (Int32.ofNat kd)) (uI s b 0 (Int32.ofNat kd)) b 0 := by
    have c0 : cn kd 0 = 0 := by
      unfold cn
      rw [if_neg (by omega)]
    refine ⟨cf.rf, ?_, fun j hj => absurd hj (by omega), fun i hi => absurd hi (by omega), fun _ j j' _ hj => absurd hj (by omega)⟩
    rw [c0, qI_uI, if_neg (by omega)]
    exact z1
  have sk0 : SK (uI s b 0 (Int32.ofNat kd)) K T := by
    obtain ⟨g1, g2, g3, g4, g5, g6⟩ := sk
    refine ⟨g1, ?_, ?_, g4, g5, g6⟩
    · rw [qI_uI, if_neg (by omega)]
      exact g2
    · rw [qI_uI, if_neg (by omega)]
      exact g3
  obtain ⟨s1, q1, f1⟩ := c_fill16 (N := N) (kd := kd) (s0 := uI s b 0 (Int32.ofNat kd)) (by omega) hb sk.1.1 hc sk0.2.1 hkd K 0 N (uI s b 0 (Int32.ofNat kd)) (by omega) (by have := sk.1.1; omega) fi0
  have sk1 : SK s1 K T := by
    obtain ⟨g1, g2, g3, g4, g5, g6⟩ := sk0
    have pe : ∀ j, pc s1 30 j = pc (uI s b 0 (Int32.ofNat kd)) 30 j := pc_cf f1.1 (fun i a b w => by have := w.1; have := w.2; omega)
    have te : ∀ t, tR s1 t = tR (uI s b 0 (Int32.ofNat kd)) t := fun t => by
      unfold tR
      rw [f1.1.A (fun w => by have := w.1; have := w.2; omega), f1.1.A (fun w => by have := w.1; have := w.2; omega), f1.1.A (fun w => by have := w.1; have := w.2; omega)]
    refine ⟨g1, ?_, ?_, fun t ht => tO_R (g4 t ht) (te t) (fun j _ => pe j), fun j hj => by rw [pe]; exact g5 j hj, fun j hj => ?_⟩
    · rw [f1.1.I (fun w => by have := w.1; have := w.2; omega)]
      exact g2
    · rw [f1.1.I (fun w => by have := w.1; have := w.2; omega)]
      exact g3
    · rw [f1.1.A (fun w => by have := w.1; have := w.2; omega)]
      exact g6 j hj
  have pf0 : PG (OF kd s1 0) s1 s1 b 0 := by
    refine ⟨cf.rf, fun _ _ => rfl, by omega, ?_, fun f f' _ hf => absurd hf (by omega), fun f hf => absurd hf (by omega), fun _ v e ⟨t', h, _⟩ => absurd h (by omega)⟩
    rw [f1.1.I (fun w => by have := w.1; omega), qI_uI, if_neg (by omega)]
    exact z2
  obtain ⟨s', F, q2, p2⟩ := d_fill73 (N := N) (kd := kd) hN hb hkd sk1 T 0 N s1 0 (by omega) (by have := sk.1.2; omega) pf0
  refine ⟨s1, s', F, ?_, f1, p2⟩
  unfold fxX2_fill
  rw [gR_2_0 s28, Option.bind_some]
  show (gR (hC s) 29 5 0).bind _ = _
  rw [gR_5_0 s29, Option.bind_some, sI_0_0 hb0, Option.bind_some]
  exact q1.trans q2
