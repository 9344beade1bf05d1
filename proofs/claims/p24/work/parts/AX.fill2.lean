theorem neg32 {a : Int32} (h : a.toInt.natAbs ≤ 1000000) : (-a).toInt = -a.toInt := by
  rw [Int32.toInt_neg]
  exact bm32 (by omega)
/-- when a plane is put in, what held of all planes and of the new one holds of all -/
theorem ap_all {Φ : V3 → Int → Prop} {s s' : cS} {b F : Nat} {m : V3} {r : Int32 × Int32 × Int32 × Int32} (ap : apO s s' b F m r) (hF : F < 44) (h2 : qI s b 2 = Int32.ofNat F) (so : srtB s b F) (hm : (r.1.toInt, r.2.1.toInt, r.2.2.1.toInt) = m) (old : ∀ f, f < F → Φ (bN s b f) (bD s b f)) (new : Φ m r.2.2.2.toInt) : ∃ F', F' ≤ 44 ∧ qI s' b 2 = Int32.ofNat F' ∧ srtB s' b F' ∧ (∀ f, f < F' → Φ (bN s' b f) (bD s' b f)) ∧ cf (fun i => i = b ∨ i = b + 5) s s' ∧ ∀ k, k ≠ 2 → qI s' b k = qI s b k := by
  rcases ap with ⟨e, -⟩ | ⟨x, hx, ⟨i1, i2, i3, i4, i5, i6⟩, lo, hi⟩
  · subst e
    exact ⟨F, by omega, h2, so, old, cf.rf, fun _ _ => rfl⟩
  · have nx : bN s' b x = m ∧ bD s' b x = r.2.2.2.toInt := by
      rw [← hm]
      unfold bR at i5
      rw [← i5]
      exact ⟨rfl, rfl⟩
    refine ⟨F + 1, by omega, i3, fun f f' l l' => ?_, fun f hf => ?_, i1, i2⟩
    · by_cases c1 : f' < x
      · rw [(bR_N (i4 f (by omega))).1, (bR_N (i4 f' c1)).1]
        exact so f f' l (by omega)
      · by_cases c2 : f' = x
        · rw [c2, nx.1, (bR_N (i4 f (by omega))).1]
          exact lo f (by omega)
        · rw [(bR_N (i6 f' (by omega) (by omega))).1]
          by_cases c3 : f < x
          · rw [(bR_N (i4 f c3)).1]
            exact so f (f' - 1) (by omega) (by omega)
          · by_cases c4 : f = x
            · rw [c4, nx.1]
              exact hi (f' - 1) (by omega) (by omega)
            · rw [(bR_N (i6 f (by omega) (by omega))).1]
              exact so (f - 1) (f' - 1) (by omega) (by omega)
    · by_cases c1 : f < x
      · rw [(bR_N (i4 f c1)).1, (bR_N (i4 f c1)).2]
        exact old f (by omega)
      · by_cases c2 : f = x
        · rw [c2, nx.1, nx.2]
          exact new
        · rw [(bR_N (i6 f (by omega) (by omega))).1, (bR_N (i6 f (by omega) (by omega))).2]
          exact old (f - 1) (by omega)
/-- a plane of the body is that of a row, without its common divisor -/
def PH (s0 : cS) (T : Nat) (m : V3) (d : Int) : Prop := (∃ x, vd m x = 1) ∧ bd3 m 81608 ∧ ∃ t g, t < T ∧ 0 < g ∧ tN s0 t = vl g m 0 v0 ∧ tD s0 t = g * d
/-- the body's planes while they are filled in -/
def PF (kd T : Nat) (s0 s : cS) (b F : Nat) : Prop := cf (fun i => i = b ∨ i = b + 5) s0 s ∧ (∀ k, k ≠ 2 → qI s b k = qI s0 b k) ∧ F ≤ 44 ∧ qI s b 2 = Int32.ofNat F ∧ srtB s b F ∧ (kd = 4 → ∀ f, f < F → PH s0 T (bN s b f) (bD s b f))
theorem vd_bd2 {n p : V3} {A B : Nat} (hn : bd3 n A) (hp : bd3 p B) : (vd n p).natAbs ≤ A * B + A * B + A * B := by
  have m : ∀ x y : Int, x.natAbs ≤ A → y.natAbs ≤ B → (x * y).natAbs ≤ A * B := fun x y hx hy => by
    rw [Int.natAbs_mul]
    exact Nat.mul_le_mul hx hy
  have a1 := m _ _ hn.1 hp.1
  have a2 := m _ _ hn.2.1 hp.2.1
  have a3 := m _ _ hn.2.2 hp.2.2
  show (n.1 * p.1 + n.2.1 * p.2.1 + n.2.2 * p.2.2).natAbs ≤ _
  omega
theorem PF_pl {kd T N b F : Nat} {s0 s : cS} {p1 p2 p3 p4 : Int32} (hN : 100000 < N) (hb : isB b) (h : PF kd T s0 s b F) (bd : bd3 (p1.toInt, p2.toInt, p3.toInt) 81608) (kn : kd = 4 → ∃ t u, t < T ∧ (p1.toInt, p2.toInt, p3.toInt) = tN s0 t ∧ p4.toInt = tD s0 t ∧ tD s0 t = vd (tN s0 t) u ∧ bd3 u 101) : ∃ s' F', fxX0_addPlane N b p1 p2 p3 p4 (hC s) = some (hC s') ∧ PF kd T s0 s' b F' := by
  obtain ⟨h1, h2, h3, h4, h5, h6⟩ := h
  obtain ⟨s', q, k⟩ := c_addPlane (N := N) (p4 := p4) hN (by decide) hb h3 h4 h5 bd
  rcases k with ⟨e, -⟩ | ⟨lt, G, g, m, g0, gG, eq, pr, bm, em, ap⟩
  · subst e
    exact ⟨s', F, q, h1, h2, h3, h4, h5, h6⟩
  · by_cases c : kd = 4
    · obtain ⟨t, u, ht, e1, e2, e3, bu⟩ := kn c
      have dd : tD s0 t = g * vd m u := by
        rw [e3, ← e1, eq, vd_vl_l, vd_0]
        omega
      have bD4 : p4.toInt.natAbs ≤ 24727224 := by
        rw [e2, e3, ← e1]
        exact vd_bd2 bd bu
      have q4 := dv32 (a := p4) (G := G) (T := vd m u) (M := 24727224) gG g0 (e2.trans dd) bD4 (by decide)
      obtain ⟨F', f1, f2, f3, f4, f5, f6⟩ := ap_all (Φ := PH s0 T) ap lt h4 h5 em (h6 c) ⟨pr, bm, t, g, ht, g0, by rw [← e1]; exact eq, by
        show tD s0 t = g * (p4 / G).toInt
        rw [q4.1]
        exact dd⟩
      exact ⟨s', F', q, h1.tr f5, fun k hk => (f6 k hk).trans (h2 k hk), f1, f2, f3, fun _ => f4⟩
    · obtain ⟨F', f1, f2, f3, f4, f5, f6⟩ := ap_all (Φ := fun _ _ => True) ap lt h4 h5 em (fun _ _ => trivial) trivial
      exact ⟨s', F', q, h1.tr f5, fun k hk => (f6 k hk).trans (h2 k hk), f1, f2, f3, fun w => absurd w c⟩
theorem i_c4s (t : Nat) : (4 : Int32) * Int32.ofNat t + 1 = Int32.ofNat (4 * t + 1) ∧ (4 : Int32) * Int32.ofNat t + 2 = Int32.ofNat (4 * t + 2) ∧ (4 : Int32) * Int32.ofNat t + 3 = Int32.ofNat (4 * t + 3) := by
  rw [i_c4, i_s, i_a2, i_a3]
  exact ⟨rfl, rfl, rfl⟩
/-- the loop over the rows -/
theorem c_fill73 {N b K T kd : Nat} {s0 : cS} (hN : 100000 < N) (hb : isB b) (hkd : kd < 5) (sk : SK s0 K T) : ∀ (r t f : Nat) (s : cS) (F : Nat), t + r = T → r < f → PF kd T s0 s b F → ∃ s' F', fxX2_fill_73 N f 28 b (Int32.ofNat kd) (Int32.ofNat t) (hC s) = some (hC s') ∧ PF kd T s0 s' b F' := by
  obtain ⟨hb0, -⟩ := isB_sh hb
  have rb := (isB_rg hb).1
  have K25 := sk.1.1
  intro r
  induction r with
  | zero =>
    intro t f s F ht hf h
    obtain ⟨f', rfl⟩ : ∃ f', f = f' + 1 := ⟨f - 1, by omega⟩
    have e : t = T := by omega
    subst e
    have e1 : qI s 29 1 = Int32.ofNat t := by
      rw [h.1.I (fun w => by omega)]
      exact sk.2.2.1
    refine ⟨s, F, ?_, h⟩
    rw [fxX2_fill_73, gR_2_0 s28, Option.bind_some]
    show (gI (hC s) 29 5 1).bind _ = _
    rw [gI_5_1 s29, Option.bind_some, e1, if_pos (Int32.le_refl _)]
  | succ r ih =>
    intro t f s F ht hf h
    obtain ⟨f', rfl⟩ : ∃ f', f = f' + 1 := ⟨f - 1, by omega⟩
    have T46 := sk.1.2
    have ne : ¬ (Int32.ofNat T ≤ Int32.ofNat t) := by
      rw [i_le (by omega) (by omega)]
      omega
    have e1 : qI s 29 1 = Int32.ofNat T := by
      rw [h.1.I (fun w => by omega)]
      exact sk.2.2.1
    have a35 : qA s 35 = qA s0 35 := h.1.A (fun w => by omega)
    have a34 : qA s 34 = qA s0 34 := h.1.A (fun w => by omega)
    have bn := tN_bd sk (t := t) (by omega)
    obtain ⟨c1, c2, c3⟩ := i_c4s t
    have r0 : aI (hC s) 35 (4 * Int32.ofNat t) = some (qA s0 35 (4 * t)) := by
      rw [i_c4, aI_N t35 (by omega) (by decide), a35]
    have r1 : aI (hC s) 35 (4 * Int32.ofNat t + 1) = some (qA s0 35 (4 * t + 1)) := by
      rw [c1, aI_N t35 (by omega) (by decide), a35]
    have r2 : aI (hC s) 35 (4 * Int32.ofNat t + 2) = some (qA s0 35 (4 * t + 2)) := by
      rw [c2, aI_N t35 (by omega) (by decide), a35]
    have r3 : aI (hC s) 35 (4 * Int32.ofNat t + 3) = some (qA s0 35 (4 * t + 3)) := by
      rw [c3, aI_N t35 (by omega) (by decide), a35]
    obtain ⟨u, v, w, hu, hv, hw, i1, i2, i3, i4, i5, i6⟩ := sk.2.2.2.1 t (by omega)
    rw [fxX2_fill_73, gR_2_0 s28, Option.bind_some]
    show ∃ s' F', (gI (hC s) 29 5 1).bind _ = _ ∧ _
    rw [gI_5_1 s29, Option.bind_some, e1, if_neg ne, Option.bind_some]
    show ∃ s' F', (gR (hC s) 29 5 3).bind _ = _ ∧ _
    rw [gR_5_3 s29, Option.bind_some]
    show ∃ s' F', (aI (hC s) 35 (4 * Int32.ofNat t)).bind _ = _ ∧ _
    rw [r0, Option.bind_some, Option.bind_some]
    show ∃ s' F', (gR (hC s) 29 5 3).bind _ = _ ∧ _
    rw [gR_5_3 s29, Option.bind_some]
    show ∃ s' F', (aI (hC s) 35 (4 * Int32.ofNat t + 1)).bind _ = _ ∧ _
    rw [r1, Option.bind_some, Option.bind_some]
    show ∃ s' F', (gR (hC s) 29 5 3).bind _ = _ ∧ _
    rw [gR_5_3 s29, Option.bind_some]
    show ∃ s' F', (aI (hC s) 35 (4 * Int32.ofNat t + 2)).bind _ = _ ∧ _
    rw [r2, Option.bind_some, Option.bind_some]
    show ∃ s' F', (gR (hC s) 29 5 3).bind _ = _ ∧ _
    rw [gR_5_3 s29, Option.bind_some]
    show ∃ s' F', (aI (hC s) 35 (4 * Int32.ofNat t + 3)).bind _ = _ ∧ _
    rw [r3, Option.bind_some]
    by_cases c : kd = 4
    · rw [if_pos (show Int32.ofNat kd = (4 : Int32) by rw [c]; rfl), kO_0 hb0, Option.bind_some]
      obtain ⟨s1, F1, q1, p1⟩ := PF_pl (p1 := qA s0 35 (4 * t)) (p2 := qA s0 35 (4 * t + 1)) (p3 := qA s0 35 (4 * t + 2)) (p4 := qA s0 35 (4 * t + 3)) hN hb h bn (fun _ => ⟨t, pc s0 30 u, by omega, rfl, rfl, i5, sk.2.2.2.2.1 u hu⟩)
      rw [q1, Option.bind_some]
      unfold fxX2_fill_208
      rw [i_s]
      exact ih (t + 1) f' s1 F1 (by omega) (by omega) p1
    · rw [if_neg (fun w : Int32.ofNat kd = (4 : Int32) => c (i_inj (b := 4) (by omega) (by omega) w)), Option.bind_some]
      show ∃ s' F', (kO (hC s) 29 5).bind _ = _ ∧ _
      rw [kO_5 s29, Option.bind_some]
      have tt := c_touches (N := N) (t := t) (k := 3) (s := s) (by omega) (u := u) (v := v) (w := w) (by unfold tip; rw [a34]; exact ⟨i1, i2, i3⟩) (by omega) (by omega) (by omega) (by omega)
      have tt' : fxX5_touches N (28 + 1) (Int32.ofNat t) 3 (hC s) = some (hC s, if u = 3 ∨ v = 3 ∨ w = 3 then 1 else 0) := tt
      rw [tt', Option.bind_some]
      dsimp only
      by_cases d : u = 3 ∨ v = 3 ∨ w = 3
      · rw [if_pos d, if_neg (show ¬ ((1 : Int32) = 0) by decide)]
        unfold fxX2_fill_208
        rw [i_s]
        exact ih (t + 1) f' s F (by omega) (by omega) h
      · rw [if_neg d, if_pos rfl, kO_0 hb0, Option.bind_some]
        obtain ⟨s1, F1, q1, p1⟩ := PF_pl (p1 := qA s0 35 (4 * t)) (p2 := qA s0 35 (4 * t + 1)) (p3 := qA s0 35 (4 * t + 2)) (p4 := qA s0 35 (4 * t + 3)) hN hb h bn (fun w => absurd w c)
        rw [q1, Option.bind_some, kO_0 hb0, Option.bind_some]
        have bn' : bd3 ((-qA s0 35 (4 * t)).toInt, (-qA s0 35 (4 * t + 1)).toInt, (-qA s0 35 (4 * t + 2)).toInt) 81608 := by
          have b1 : (qA s0 35 (4 * t)).toInt.natAbs ≤ 81608 := bn.1
          have b2 : (qA s0 35 (4 * t + 1)).toInt.natAbs ≤ 81608 := bn.2.1
          have b3 : (qA s0 35 (4 * t + 2)).toInt.natAbs ≤ 81608 := bn.2.2
          refine ⟨?_, ?_, ?_⟩
          · show (-qA s0 35 (4 * t)).toInt.natAbs ≤ 81608
            rw [neg32 (by omega)]
            omega
          · show (-qA s0 35 (4 * t + 1)).toInt.natAbs ≤ 81608
            rw [neg32 (by omega)]
            omega
          · show (-qA s0 35 (4 * t + 2)).toInt.natAbs ≤ 81608
            rw [neg32 (by omega)]
            omega
        obtain ⟨s2, F2, q2, p2⟩ := PF_pl (p1 := -qA s0 35 (4 * t)) (p2 := -qA s0 35 (4 * t + 1)) (p3 := -qA s0 35 (4 * t + 2)) (p4 := -qA s0 35 (4 * t + 3)) hN hb p1 bn' (fun w => absurd w c)
        rw [q2, Option.bind_some]
        unfold fxX2_fill_208
        rw [i_s]
        exact ih (t + 1) f' s2 F2 (by omega) (by omega) p2
/-- fill -/
theorem c_fill {N b K T kd : Nat} {s : cS} (hN : 100000 < N) (hb : isB b) (hkd : kd < 5) (sk : SK s K T) (hc : cn kd K ≤ 24) (z1 : qI s (b + 1) 0 = 0) (z2 : qI s b 2 = 0) : ∃ s1 s' F, fxX2_fill N 28 b (Int32.ofNat kd) (hC s) = some (hC s') ∧ FI kd (uI s b 0 (Int32.ofNat kd)) s1 b K ∧ PF kd T s1 s' b F := by
  obtain ⟨hb0, -⟩ := isB_sh hb
  have rb := (isB_rg hb).1
  have fi0 : FI kd (uI s b 0 (Int32.ofNat kd)) (uI s b 0 (Int32.ofNat kd)) b 0 := by
    have c0 : cn kd 0 = 0 := by
      unfold cn
      rw [if_neg (by omega)]
    refine ⟨cf.rf, ?_, fun j hj => absurd hj (by omega), fun i hi => absurd hi (by omega), fun _ j j' _ hj => absurd hj (by omega)⟩
    rw [c0, qI_uI, if_neg (by omega)]
    exact z1
  have sk0 : SK (uI s b 0 (Int32.ofNat kd)) K T := by
    obtain ⟨g1, g2, g3, g4, g5, g6⟩ := sk
    refine ⟨g1, ?_, ?_, g4, g5, g6⟩
    · rw [qI_uI, if_neg (by omega)]
      exact g2
    · rw [qI_uI, if_neg (by omega)]
      exact g3
  obtain ⟨s1, q1, f1⟩ := c_fill16 (N := N) (kd := kd) (s0 := uI s b 0 (Int32.ofNat kd)) (by omega) hb sk.1.1 hc sk0.2.1 hkd K 0 N (uI s b 0 (Int32.ofNat kd)) (by omega) (by have := sk.1.1; omega) fi0
  have sk1 : SK s1 K T := by
    obtain ⟨g1, g2, g3, g4, g5, g6⟩ := sk0
    have pe : ∀ j, pc s1 30 j = pc (uI s b 0 (Int32.ofNat kd)) 30 j := pc_cf f1.1 (fun i a b w => by have := w.1; have := w.2; omega)
    have te : ∀ t, tR s1 t = tR (uI s b 0 (Int32.ofNat kd)) t := fun t => by
      unfold tR
      rw [f1.1.A (fun w => by have := w.1; have := w.2; omega), f1.1.A (fun w => by have := w.1; have := w.2; omega), f1.1.A (fun w => by have := w.1; have := w.2; omega)]
    refine ⟨g1, ?_, ?_, fun t ht => tO_R (g4 t ht) (te t) (fun j _ => pe j), fun j hj => by rw [pe]; exact g5 j hj, fun j hj => ?_⟩
    · rw [f1.1.I (fun w => by have := w.1; have := w.2; omega)]
      exact g2
    · rw [f1.1.I (fun w => by have := w.1; have := w.2; omega)]
      exact g3
    · rw [f1.1.A (fun w => by have := w.1; have := w.2; omega)]
      exact g6 j hj
  have pf0 : PF kd T s1 s1 b 0 := by
    refine ⟨cf.rf, fun _ _ => rfl, by omega, ?_, fun f f' _ hf => absurd hf (by omega), fun _ f hf => absurd hf (by omega)⟩
    rw [f1.1.I (fun w => by have := w.1; omega), qI_uI, if_neg (by omega)]
    exact z2
  obtain ⟨s', F, q2, p2⟩ := c_fill73 (N := N) (kd := kd) hN hb hkd sk1 T 0 N s1 0 (by omega) (by have := sk.1.2; omega) pf0
  refine ⟨s1, s', F, ?_, f1, p2⟩
  unfold fxX2_fill
  rw [gR_2_0 s28, Option.bind_some]
  show (gR (hC s) 29 5 0).bind _ = _
  rw [gR_5_0 s29, Option.bind_some, sI_0_0 hb0, Option.bind_some]
  exact q1.trans q2
