theorem wrapE {N f x j p q : Nat} {s s1 : cS} (hx : x < 100000) (h2 : qI s 28 2 = 0) (hj : j < 46) (fo : fxX5_firstOpen N 29 (hC s) = some (hC s, Int32.ofNat j)) (q1 : fxX2_seek N 28 p q (qA s 35 (4 * j)).toInt64 (qA s 35 (4 * j + 1)).toInt64 (qA s 35 (4 * j + 2)).toInt64 (hC s) = some (hC s1)) : fxX2_wrap_22 N (f + 1) 28 p q (Int32.ofNat x) (hC s) = (fxX5_isBeyond N 29 (Int32.ofNat j) (qI s1 28 4).toInt64 (qI s1 28 5).toInt64 (qI s1 28 6).toInt64 (hC s1)).bind fun o55 => if o55.2 = 0 then ((gR o55.1 28 2 0).bind fun v60 => (gR o55.1 v60 5 4).bind fun v62 => (wZ o55.1 v62 (Int32.ofNat j) (1 : Int32)).bind fun h64 => fxX2_wrap_160 N (fxX2_wrap_22 N f) 28 p q (Int32.ofNat x) h64) else ((kO o55.1 28 2).bind fun f68 => (fxX2_take N 28 o55.1).bind fun o66 => (gI o66 28 2 2).bind fun v70 => if v70 = 0 then ((gR o66 28 2 0).bind fun v73 => (kO o66 v73 5).bind fun f77 => (fxX5_attachLatest N v73 o66).bind fun o75 => fxX2_wrap_160 N (fxX2_wrap_22 N f) 28 p q (Int32.ofNat x) o75) else fxX2_wrap_160 N (fxX2_wrap_22 N f) 28 p q (Int32.ofNat x) o66) := by
  have n1 : ¬ ((100000 : Int32) ≤ Int32.ofNat x) := by
    have := i_le (a := 100000) (b := x) (by omega) (by omega)
    show ¬ (Int32.ofNat 100000 ≤ Int32.ofNat x)
    rw [this]
    omega
  have n2 : ¬ (Int32.ofNat j = (-1 : Int32)) := fun e => by
    have := congrArg Int32.toInt e
    rw [Int32.toInt_ofNat_of_lt (by omega)] at this
    have e1 : (-1 : Int32).toInt = -1 := rfl
    omega
  have fo' : fxX5_firstOpen N (28 + 1) (hC s) = some (hC s, Int32.ofNat j) := fo
  have a0 : aI (hC s) (29 + 6) (4 * Int32.ofNat j) = some (qA s 35 (4 * j)) := by
    rw [i_c4]
    exact aI_N t35 (by omega) (by decide)
  have a1 : aI (hC s) (29 + 6) (4 * Int32.ofNat j + 1) = some (qA s 35 (4 * j + 1)) := by
    rw [i_c4, i_s]
    exact aI_N t35 (by omega) (by decide)
  have a2 : aI (hC s) (29 + 6) (4 * Int32.ofNat j + 2) = some (qA s 35 (4 * j + 2)) := by
    rw [i_c4, i_a2]
    exact aI_N t35 (by omega) (by decide)
  rw [fxX2_wrap_22, if_neg n1, gI_2_2 s28, Option.bind_some, h2, if_pos rfl, gR_2_0 s28, Option.bind_some, kO_5 s29, Option.bind_some, fo', Option.bind_some, if_neg n2]
  show (gR (hC s) 28 2 0).bind _ = _
  rw [gR_2_0 s28, Option.bind_some]
  show (gR (hC s) 29 5 3).bind _ = _
  rw [gR_5_3 s29, Option.bind_some]
  refine Eq.trans (congrArg (fun x => Option.bind x _) a0) ?_
  rw [Option.bind_some, Option.bind_some]
  show (gR (hC s) 29 5 3).bind _ = _
  rw [gR_5_3 s29, Option.bind_some]
  refine Eq.trans (congrArg (fun x => Option.bind x _) a1) ?_
  rw [Option.bind_some, Option.bind_some]
  show (gR (hC s) 29 5 3).bind _ = _
  rw [gR_5_3 s29, Option.bind_some]
  refine Eq.trans (congrArg (fun x => Option.bind x _) a2) ?_
  rw [Option.bind_some]
  show (kO (hC s) 28 2).bind _ = _
  rw [kO_2 s28, Option.bind_some]
  refine Eq.trans (congrArg (fun x => Option.bind x _) q1) ?_
  rw [Option.bind_some]
  show (gR (hC s1) 28 2 0).bind _ = _
  rw [gR_2_0 s28, Option.bind_some]
  show (gI (hC s1) 28 2 4).bind _ = _
  rw [gI_2_4 s28, Option.bind_some]
  show (gI (hC s1) 28 2 5).bind _ = _
  rw [gI_2_5 s28, Option.bind_some]
  show (gI (hC s1) 28 2 6).bind _ = _
  rw [gI_2_6 s28, Option.bind_some]
  show (kO (hC s1) 29 5).bind _ = _
  rw [kO_5 s29, Option.bind_some]
theorem wrapZ {N f x p q : Nat} {s : cS} (h2 : qI s 28 2 = 0) (fo : fxX5_firstOpen N 29 (hC s) = some (hC s, -1)) : fxX2_wrap_22 N (f + 1) 28 p q (Int32.ofNat x) (hC s) = some (hC s) := by
  have fo' : fxX5_firstOpen N (28 + 1) (hC s) = some (hC s, -1) := fo
  rw [fxX2_wrap_22]
  by_cases c : (100000 : Int32) ≤ Int32.ofNat x
  · rw [if_pos c]
  · rw [if_neg c, gI_2_2 s28, Option.bind_some, h2, if_pos rfl, gR_2_0 s28, Option.bind_some, kO_5 s29, Option.bind_some, fo', Option.bind_some, if_pos rfl]
theorem wrapR {N f p q : Nat} {x : Int32} {s : cS} (h2 : qI s 28 2 = 1) : fxX2_wrap_22 N (f + 1) 28 p q x (hC s) = some (hC s) := by
  rw [fxX2_wrap_22]
  by_cases c : (100000 : Int32) ≤ x
  · rw [if_pos c]
  · rw [if_neg c, gI_2_2 s28, Option.bind_some, h2, if_neg (by decide)]
theorem op_pos {s : cS} {j T : Nat} (hj : j < T) (h : qA s 36 j = 0) : 1 ≤ op s T := by
  induction T with
  | zero => omega
  | succ T ih =>
    show 1 ≤ op s T + (if qA s 36 T = 0 then 1 else 0)
    by_cases c : j = T
    · rw [← c, if_pos h]
      omega
    · have := ih (by omega)
      omega
theorem tR_hK {s s' : cS} (c : cf hKn s s') (t : Nat) : tR s' t = tR s t := by
  unfold tR
  rw [c.A (fun w => by unfold hKn at w; omega), c.A (fun w => by unfold hKn at w; omega), c.A (fun w => by unfold hKn at w; omega)]
theorem SK_28 {s s' : cS} {K T : Nat} (h : SK s K T) (c : cf (fun i => i = 28) s s') : SK s' K T := by
  obtain ⟨h1, h2, h3, h4, h5, h6⟩ := h
  refine ⟨h1, by rw [c.I (fun w => by omega)]; exact h2, by rw [c.I (fun w => by omega)]; exact h3, fun t ht => tO_R (h4 t ht) (tR_hK (c.mo (fun i hi => .inl hi)) t) (fun j _ => c28_pc c j), fun j hj => by rw [c28_pc c]; exact h5 j hj, fun j hj => by rw [c.A (fun w => by omega)]; exact h6 j hj⟩
theorem SK_set {s : cS} {K T j : Nat} (h : SK s K T) : SK (uA s 36 (upd (qA s 36) j 1)) K T := by
  obtain ⟨h1, h2, h3, h4, h5, h6⟩ := h
  refine ⟨h1, h2, h3, fun t ht => ?_, h5, h6⟩
  obtain ⟨u, v, w, hu, hv, hw, e1, e2, e3, e4, e5, e6⟩ := h4 t ht
  refine ⟨u, v, w, hu, hv, hw, e1, e2, e3, e4, e5, ?_⟩
  show upd (qA s 36) j 1 t = 0 ∨ upd (qA s 36) j 1 t = 1
  rw [upd_at]
  by_cases c : t = j
  · rw [if_pos c]
    exact .inr rfl
  · rw [if_neg c]
    exact e6
/-- wrap's loop: it ends with every row settled, or it is refused -/
theorem c_wrapLoop {Q : cS → Nat → Nat → Prop} {N p q n m kp kq r : Nat} {s0 : cS} (hQ : QO Q (XK s0 p q kp kq r)) (hN : 600 < N) (h : PQ s0 p q n m kp kq) (hr : r = 3 ∨ r = 4) : ∀ (μ x f : Nat) (s : cS) (K T C : Nat), WR Q s0 s p q kp kq r K T C → 100 * (25 - K) + op s T ≤ μ → x + μ < 99999 → μ + 2 < f → ∃ s', fxX2_wrap_22 N f 28 p q (Int32.ofNat x) (hC s) = some (hC s') ∧ cf hL s0 s' ∧ (∀ j, j < 625 → qA s' 39 j = 0) ∧ ((qI s' 28 2 = 1 ∧ RW Q s0 p q kp kq r) ∨ (∃ K T C, WR Q s0 s' p q kp kq r K T C ∧ ∀ t, t < T → qA s' 36 t ≠ 0)) := by
  intro μ
  induction μ with
  | zero =>
    intro x f s K T C w hm hx hf
    obtain ⟨f', rfl⟩ : ∃ f', f = f' + 1 := ⟨f - 1, by omega⟩
    have w' := w
    obtain ⟨c0, skn, -, r2, -⟩ := w'
    rcases c_firstOpen (N := N) hN skn.1.2 skn.2.2.1 with ⟨al, fo⟩ | ⟨j, hj, oj, fo⟩
    · exact ⟨s, wrapZ r2 fo, c0, skn.2.2.2.2.2, .inr ⟨K, T, C, w, al⟩⟩
    · have := op_pos hj oj
      omega
  | succ μ ih =>
    intro x f s K T C w hm hx hf
    obtain ⟨f', rfl⟩ : ∃ f', f = f' + 1 := ⟨f - 1, by omega⟩
    have w' := w
    obtain ⟨c0, skn, qq, r2, r3, ⟨ek, hc24⟩, kn, se⟩ := w'
    rcases c_firstOpen (N := N) hN skn.1.2 skn.2.2.1 with ⟨al, fo⟩ | ⟨j, hj, oj, fo⟩
    · exact ⟨s, wrapZ r2 fo, c0, skn.2.2.2.2.2, .inr ⟨K, T, C, w, al⟩⟩
    · have j46 : j < 46 := by
        have := skn.1.2
        omega
      have hop := op_pos hj oj
      have bn := tN_bd skn hj
      obtain ⟨P, pe, qe⟩ := PQ_cf h c0 (fun i hi => by unfold hL rg at hi; omega)
      obtain ⟨s1, a, b, q1, c1, u2, u3, e1, f1, d1⟩ := c_seekF (N := N) (mx := (qA s 35 (4 * j)).toInt64) (my := (qA s 35 (4 * j + 1)).toInt64) (mz := (qA s 35 (4 * j + 2)).toInt64) (d := tN s j) (A := 81608) hN P (bt32 rfl bn.1) (bt32 rfl bn.2.1) (bt32 rfl bn.2.2) (by decide)
      rw [pe, qe] at e1
      have f1' := fzz_cf pe qe f1
      have a35 : qA s1 35 = qA s 35 := c1.A (fun w => by omega)
      have a36 : qA s1 36 = qA s 36 := c1.A (fun w => by omega)
      have tn : ∀ t, tN s1 t = tN s t := fun t => by
        unfold tN
        rw [a35]
      have td : ∀ t, tD s1 t = tD s t := fun t => by
        unfold tD
        rw [a35]
      have iff := byd_iff (s := s1) (t := j) (x := qI s1 28 4) (y := qI s1 28 5) (z := qI s1 28 6) (by rw [tn]; exact bn) d1
      have sk1 := SK_28 skn c1
      have c1' : cf hL s s1 := c1.mo (fun i hi => ⟨by omega, by omega⟩)
      rw [wrapE (by omega) r2 j46 fo q1]
      rcases c_beyond (N := N) (t := j) (x := (qI s1 28 4).toInt64) (y := (qI s1 28 5).toInt64) (z := (qI s1 28 6).toInt64) (s := s1) j46 with ⟨qb, by0⟩ | ⟨qb, by0⟩
      · rw [qb, Option.bind_some, if_neg (show ¬ ((1 : Int32) = 0) by decide)]
        have gt : tD s j < vd (tN s j) (va (pc s0 p a) (pc s0 q b)) := by
          have := mt iff.mpr by0
          rw [tn, td] at this
          rw [← e1]
          exact Int.lt_of_not_ge this
        show ∃ s', ((kO (hC s1) 28 2).bind _) = _ ∧ _
        rw [kO_2 s28, Option.bind_some]
        by_cases cC : C = 24
        · obtain ⟨s2, q2, c2, k2⟩ := c_takeR (N := N) (s := s1) (C := C) (K := K) (u3.trans r3) (by omega) (by omega) sk1.2.1 sk1.1.1
          rw [q2, Option.bind_some, gI_2_2 s28, Option.bind_some, k2, if_neg (show ¬ ((1 : Int32) = 0) by decide)]
          unfold fxX2_wrap_160
          obtain ⟨f'', rfl⟩ : ∃ f'', f' = f'' + 1 := ⟨f' - 1, by omega⟩
          refine ⟨s2, wrapR k2, (c0.tr c1').tr (c2.mo (fun i hi => by unfold hKn at hi; exact ⟨by omega, by omega⟩)), fun y hy => by rw [c2.A (fun w => by unfold hKn at w; omega)]; exact sk1.2.2.2.2.2 y hy, .inl ⟨k2, a, b, tN s j, f1', .inr ⟨s, K, T, j, ?_, hj, gt⟩⟩⟩
          rw [← cC]
          exact w
        · have K25 : K < 25 := by omega
          obtain ⟨s2, q2, t2⟩ := c_takeM (N := N) (s := s1) (C := C) (K := K) (u3.trans r3) (by omega) sk1.2.1 K25
          rw [e1] at t2
          obtain ⟨v1, v2, v3, v4, v5, v6⟩ := t2
          have v1' : cf hL s1 s2 := v1.mo (fun i hi => by unfold hKn at hi; exact ⟨by omega, by omega⟩)
          rw [q2, Option.bind_some, gI_2_2 s28, Option.bind_some]
          rcases v6 with ⟨x1, x2, x3⟩ | ⟨x1, x2⟩
          · have z2 : qI s2 28 2 = 0 := x3.trans (u2.trans r2)
            rw [z2, if_pos rfl, gR_2_0 s28, Option.bind_some]
            show ∃ s', ((kO (hC s2) 29 5).bind _) = _ ∧ _
            rw [kO_5 s29, Option.bind_some]
            have pk : ∀ j, j < K → pc s2 30 j = pc s 30 j := fun j hj => (v5 j hj).trans (c28_pc c1 j)
            have trs : ∀ t, tR s2 t = tR s t := fun t => (tR_hK v1 t).trans (tR_hK (c1.mo (fun i hi => .inl hi)) t)
            have ro2 : ∀ t, t < T → tO s2 K t := fun t ht => tO_R (skn.2.2.2.1 t ht) (trs t) pk
            have bd2 : ∀ j, j < K + 1 → bd3 (pc s2 30 j) 101 := fun y hy => by
              by_cases d : y = K
              · rw [d, v4]
                exact bd3_le x1 (by decide)
              · rw [pk y (by omega)]
                exact skn.2.2.2.2.1 y (by omega)
            have xk2 : ∀ j, j < K + 1 → XK s0 p q kp kq r j (pc s2 30 j) := fun y hy => by
              by_cases d : y = K
              · rw [d, v4]
                exact .inr ⟨x1, a, b, tN s j, f1', rfl⟩
              · rw [pk y (by omega)]
                exact kn y (by omega)
            obtain ⟨s3, T', q3, c3, sk3, at3⟩ := c_attach (N := N) (K := K) (T := T) (s := s2) hN K25 skn.1.2 v3 (by rw [v1.I (fun w => by unfold hKn at w; omega)]; exact sk1.2.2.1) ro2 bd2 (fun y hy => by rw [v1.A (fun w => by unfold hKn at w; omega)]; exact sk1.2.2.2.2.2 y hy)
            have c3' : cf hL s2 s3 := c3.mo (fun i hi => by unfold sL at hi; exact ⟨by omega, by omega⟩)
            have p3 : ∀ y, pc s3 30 y = pc s2 30 y := fun y => pc_sL c3 y
            have q3' : fxX5_attachLatest N (28 + 1) (hC s2) = some (hC s3) := q3
            rw [q3', Option.bind_some]
            unfold fxX2_wrap_160
            rw [i_s]
            have tn2 : tN s2 j = tN s j := (tR_N (trs j)).1
            have td2 : tD s2 j = tD s j := (tR_N (trs j)).2.1
            have Q2 : Q s2 K T := hQ.1 s s2 K T qq (by rw [v1.A (fun w => by unfold hKn at w; omega), c1.A (fun w => by omega)]) (by rw [v1.A (fun w => by unfold hKn at w; omega), c1.A (fun w => by omega)]) pk
            refine ih (x + 1) f' s3 (K + 1) T' (C + 1) ⟨((c0.tr c1').tr v1').tr c3', sk3, hQ.2 s2 s3 K T T' j K25 ro2 bd2 xk2 Q2 hj (by rw [tn2, td2, v4]; exact gt) sk3 at3 p3, ?_, ?_, ⟨by omega, by omega⟩, ?_, ?_⟩ ?_ (by omega) (by omega)
            · rw [c3.I (fun w => by unfold sL at w; omega)]
              exact z2
            · rw [c3.I (fun w => by unfold sL at w; omega)]
              exact v2
            · intro y hy
              by_cases d : y = K
              · rw [d, p3, v4]
                exact .inr ⟨x1, a, b, tN s j, f1', rfl⟩
              · rw [p3, pk y (by omega)]
                exact kn y (by omega)
            · intro t ht ne
              obtain ⟨z1, zz2, T1, M, p', o, F, G, q', ti, -, -, ai, te⟩ := at3
              obtain ⟨-, -, -, -, g5, -⟩ := ti
              obtain ⟨-, -, -, -, l5, l6, -⟩ := ai
              by_cases l : t < T1
              · obtain ⟨y1, y2⟩ := g5 t l
                have y3 : tR s3 t = tR s (p' t) := (te t).trans ((l5 t l).trans (y2.trans (trs (p' t))))
                obtain ⟨o1, o2, -, -, -, o6⟩ := tR_N y3
                rw [o1, o2]
                exact se (p' t) y1 (by rw [← o6]; exact ne)
              · obtain ⟨-, -, -, -, -, y6, -⟩ := l6 t (by omega) ht
                obtain ⟨-, -, -, -, -, o6⟩ := tR_N (te t)
                exact absurd (o6.trans y6) ne
            · have := op_le s3 T'
              have := sk3.1.2
              omega
          · rw [x2, if_neg (show ¬ ((1 : Int32) = 0) by decide)]
            unfold fxX2_wrap_160
            obtain ⟨f'', rfl⟩ : ∃ f'', f' = f'' + 1 := ⟨f' - 1, by omega⟩
            refine ⟨s2, wrapR x2, (c0.tr c1').tr v1', fun y hy => by rw [v1.A (fun w => by unfold hKn at w; omega)]; exact sk1.2.2.2.2.2 y hy, .inl ⟨x2, a, b, tN s j, f1', .inl (fun w => x1 ⟨w, by omega⟩)⟩⟩
      · rw [qb, Option.bind_some, if_pos rfl]
        show ∃ s', ((gR (hC s1) 28 2 0).bind _) = _ ∧ _
        rw [gR_2_0 s28, Option.bind_some]
        show ∃ s', ((gR (hC s1) 29 5 4).bind _) = _ ∧ _
        rw [gR_5_4 s29, Option.bind_some]
        have wz : wZ (hC s1) (29 + 7) (Int32.ofNat j) 1 = some (hC (uA s1 36 (upd (qA s1 36) j 1))) := wZ_N1 t36 j46 (by decide)
        show ∃ s', ((wZ (hC s1) (29 + 7) (Int32.ofNat j) 1).bind _) = _ ∧ _
        rw [wz, Option.bind_some]
        unfold fxX2_wrap_160
        rw [i_s]
        have le := iff.mp by0
        rw [tn, td] at le
        have os := op_set (s := s) (s' := uA s1 36 (upd (qA s1 36) j 1)) oj (by show upd (qA s1 36) j 1 = _; rw [a36]) T
        rw [if_pos hj] at os
        refine ih (x + 1) f' (uA s1 36 (upd (qA s1 36) j 1)) K T C ⟨(c0.tr c1').tr (cf_uA _ ⟨by omega, by omega⟩), SK_set sk1, hQ.1 s _ K T qq (c1.A (fun w => by omega)) a35 (fun y _ => c28_pc c1 y), u2.trans r2, u3.trans r3, ⟨ek, hc24⟩, fun y hy => ?_, fun t ht ne => ?_⟩ (by omega) (by omega) (by omega)
        · have := kn y hy
          rw [← c28_pc c1 y] at this
          exact this
        · show ∀ i i', i < kp → i' < kq → vd (tN s1 t) (va (pc s0 p i) (pc s0 q i')) ≤ tD s1 t
          rw [tn, td]
          by_cases d : t = j
          · rw [d]
            intro i i' hi hi'
            have y1 := fzz_le f1' hi hi'
            rw [← e1] at y1
            exact Int.le_trans y1 le
          · refine se t ht ?_
            have y2 : upd (qA s1 36) j 1 t ≠ 0 := ne
            rw [u_ne d, a36] at y2
            exact y2
