/-- what the reference's fraction is known for while it is looked for -/
def RWs (A : Nat → V3) (m : Nat) (done : V3 → Prop) (s : mS) : Prop := (s.1 51 = 0 ∧ ∀ v, ¬ done v) ∨ (s.1 51 = 1 ∧ okQ (s.2.1 52) (s.2.1 53) ∧ WI A m done (s.2.1 52).toInt (s.2.1 53).toInt)
theorem RWs_mo {A : Nat → V3} {m : Nat} {d d' : V3 → Prop} {s : mS} (h : RWs A m d s) (e : ∀ v, d' v → d v) : RWs A m d' s := by
  rcases h with ⟨h1, h2⟩ | ⟨h1, h2, h3⟩
  · exact .inl ⟨h1, fun v hv => h2 v (e v hv)⟩
  · exact .inr ⟨h1, h2, WI_mo h3 e⟩
theorem RWs_fr {A : Nat → V3} {m : Nat} {d : V3 → Prop} {L : List Nat} {s s' : mS} (h : RWs A m d s) (f : fr L s s') (h1 : ¬ 51 ∈ L) (h2 : ¬ 52 ∈ L) (h3 : ¬ 53 ∈ L) : RWs A m d s' := by
  unfold RWs at *
  rw [f.I h1, f.J h2, f.J h3]
  exact h
/-- tries -/
theorem m_tries {N m : Nat} {a b : Int64} {A : Nat → V3} {done d : V3 → Prop} {w : V3} {gw : Int} {s : mS} (hN : 4611686018427387904 < N) (ea : a.toInt = gw * gw) (eb : b.toInt = vd w w) (ok : okQ a b) (c : SPN A m w gw) (sim : ∀ v, d v → SM A m w gw v) (st : RWs A m done s) : ∃ s', mxX7_tries N a b s = some s' ∧ fr [51, 52, 53] s s' ∧ RWs A m (fun v => done v ∨ d v) s' := by
  have new : (∀ T U, T = a.toInt → U = b.toInt → WI A m (fun v => done v ∨ d v) T U) → ∃ s', mxX7_tries_24 N a b s = some s' ∧ fr [51, 52, 53] s s' ∧ RWs A m (fun v => done v ∨ d v) s' := fun wi => by
    unfold mxX7_tries_24
    rw [Option.bind_some, Option.bind_some, Option.bind_some]
    exact ⟨_, rfl, (((fr_pI _ _ _).mo (by decide)).tr ((fr_pJ _ _ _).mo (by decide))).tr ((fr_pJ _ _ _).mo (by decide)), .inr ⟨rfl, ok, wi _ _ rfl rfl⟩⟩
  obtain ⟨a0, a1, b0, b1⟩ := ok
  unfold mxX7_tries
  rcases st with ⟨h0, no⟩ | ⟨h1, ⟨t0, t1, u0, u1⟩, wi⟩
  · rw [if_pos h0]
    exact new (fun T U eT eU => by
      subst eT
      subst eU
      exact WI_mo (WI_first c sim a0 b0 (by rw [ea, eb])) (fun v hv => hv.resolve_left (no v)))
  · rw [if_neg (by rw [h1]; decide)]
    have e := m_f17 (N := N) (s := s) b.toInt.toNat N a b (s.2.1 52) (s.2.1 53) 1 (by omega) (by omega) (by omega) a0 t0 u0
    have e' : mxX7_fractions N a b (s.2.1 52) (s.2.1 53) s = some (s, if (s.2.1 52).toInt * b.toInt < a.toInt * (s.2.1 53).toInt then 1 else if a.toInt * (s.2.1 53).toInt < (s.2.1 52).toInt * b.toInt then -1 else 0) := e
    rw [e', Option.bind_some]
    dsimp only
    by_cases lt : gw * gw * (s.2.1 53).toInt < (s.2.1 52).toInt * vd w w
    · rw [ea, eb, if_neg (show ¬ (s.2.1 52).toInt * vd w w < gw * gw * (s.2.1 53).toInt by omega), if_pos lt, if_pos (by decide)]
      exact new (fun T U eT eU => by
        subst eT
        subst eU
        exact WI_new wi c sim lt a0 b0 (by rw [ea, eb]))
    · have nn : ¬ ((if (s.2.1 52).toInt * b.toInt < a.toInt * (s.2.1 53).toInt then (1 : Int32) else if a.toInt * (s.2.1 53).toInt < (s.2.1 52).toInt * b.toInt then -1 else 0) < 0) := by
        rw [ea, eb, if_neg lt]
        by_cases c2 : (s.2.1 52).toInt * vd w w < gw * gw * (s.2.1 53).toInt
        · rw [if_pos c2]
          decide
        · rw [if_neg c2]
          decide
      rw [if_neg nn]
      exact ⟨s, rfl, fr.rf, .inr ⟨h1, ⟨t0, t1, u0, u1⟩, WI_old wi c sim lt⟩⟩
theorem bind_id {α : Type} (o : Option α) : (o.bind fun x => some x) = o := by
  cases o <;> rfl
theorem m_th23 {N n : Nat} {s : mS} (hn : n ≤ 600) (hO : hpO s n) (hne : nv s ≠ v0) (bn : bd3 (nv s) 320000) : ∀ (q fu j : Nat) (x y : Int64) (i1 i2 : Nat), j + q = n → q < fu → i1 < j → i2 < j → bv x (vd (nv s) (hp s i1)) 192000000 → (∀ k, k < j → vd (nv s) (hp s i1) ≤ vd (nv s) (hp s k)) → bv y (vd (nv s) (hp s i2)) 192000000 → (∀ k, k < j → vd (nv s) (hp s k) ≤ vd (nv s) (hp s i2)) → ∃ a b gw, SPN (hp s) n (nv s) gw ∧ a.toInt = gw * gw ∧ b.toInt = vd (nv s) (nv s) ∧ okQ a b ∧ mxX7_thick_23 N fu x y (Int32.ofNat j) s = mxX7_tries N a b s := by
  intro q
  induction q with
  | zero =>
    intro fu j x y i1 i2 hj hfu l1 l2 hx mx hy my
    obtain ⟨f', rfl⟩ : ∃ f', fu = f' + 1 := ⟨fu - 1, by omega⟩
    have hjn : j = n := by omega
    subst hjn
    have b1 := bv_sub hy hx (by decide)
    have sq := bv_mul b1 b1 (by decide)
    have vv := bv_vd (x := nv s) (nb1 bn) (nb2 bn) (nb3 bn) (by decide)
    refine ⟨_, _, vd (nv s) (hp s i2) - vd (nv s) (hp s i1), ⟨hne, i2, i1, l2, l1, my, mx, rfl⟩, sq.1, vv.1, okQ_of sq vv (sq_nn _) (vd_pos hne) (by decide) (by decide), ?_⟩
    rw [mxX7_thick_23, hO.1, if_pos (Int32.le_refl _)]
    exact bind_id _
  | succ q ih =>
    intro fu j x y i1 i2 hj hfu l1 l2 hx mx hy my
    obtain ⟨f', rfl⟩ : ∃ f', fu = f' + 1 := ⟨fu - 1, by omega⟩
    have ne : ¬ (Int32.ofNat n ≤ Int32.ofNat j) := by
      rw [i_le (by omega) (by omega)]
      omega
    obtain ⟨v, e, hv⟩ := x_height (N := N) (p := j) (s := s) (by omega) (hO.2.1 j (by omega)) bn
    rw [mxX7_thick_23, hO.1, if_neg ne, e, Option.bind_some]
    dsimp only
    unfold mxX7_thick_50 mxX7_thick_60
    rw [i_s]
    have lo : ∀ i, vd (nv s) (hp s i) ≤ vd (nv s) (hp s j) → (∀ k, k < j → vd (nv s) (hp s i) ≤ vd (nv s) (hp s k)) → ∀ k, k < j + 1 → vd (nv s) (hp s i) ≤ vd (nv s) (hp s k) := fun i h1 h2 k hk => by
      by_cases c : k = j
      · rw [c]
        exact h1
      · exact h2 k (by omega)
    have hi : ∀ i, vd (nv s) (hp s j) ≤ vd (nv s) (hp s i) → (∀ k, k < j → vd (nv s) (hp s k) ≤ vd (nv s) (hp s i)) → ∀ k, k < j + 1 → vd (nv s) (hp s k) ≤ vd (nv s) (hp s i) := fun i h1 h2 k hk => by
      by_cases c : k = j
      · rw [c]
        exact h1
      · exact h2 k (by omega)
    by_cases c1 : x ≤ v
    · rw [if_pos c1]
      rw [Int64.le_iff_toInt_le, hx.1, hv.1] at c1
      by_cases c2 : v ≤ y
      · rw [if_pos c2]
        rw [Int64.le_iff_toInt_le, hv.1, hy.1] at c2
        exact ih f' (j + 1) x y i1 i2 (by omega) (by omega) (by omega) (by omega) hx (lo i1 c1 mx) hy (hi i2 c2 my)
      · rw [if_neg c2]
        rw [Int64.le_iff_toInt_le, hv.1, hy.1] at c2
        exact ih f' (j + 1) x v i1 j (by omega) (by omega) (by omega) (by omega) hx (lo i1 c1 mx) hv (hi j (Int.le_refl _) (fun k hk => by have := my k hk; omega))
    · rw [if_neg c1]
      rw [Int64.le_iff_toInt_le, hx.1, hv.1] at c1
      have lj := lo j (Int.le_refl _) (fun k hk => by have := mx k hk; omega)
      by_cases c2 : v ≤ y
      · rw [if_pos c2]
        rw [Int64.le_iff_toInt_le, hv.1, hy.1] at c2
        exact ih f' (j + 1) v y j i2 (by omega) (by omega) (by omega) (by omega) hv lj hy (hi i2 c2 my)
      · rw [if_neg c2]
        rw [Int64.le_iff_toInt_le, hv.1, hy.1] at c2
        exact ih f' (j + 1) v v j j (by omega) (by omega) (by omega) (by omega) hv lj hv (hi j (Int.le_refl _) (fun k hk => by have := my k hk; omega))
/-- thick -/
theorem m_thick {N n : Nat} {A : Nat → V3} {done : V3 → Prop} {s : mS} (hN : 4611686018427387904 < N) (h1 : 1 ≤ n) (hn : n ≤ 600) (hO : hpO s n) (eA : hp s = A) (bn : bd3 (nv s) 320000) (st : RWs A n done s) : ∃ s', mxX7_thick N s = some s' ∧ fr [24, 25, 26, 51, 52, 53] s s' ∧ RWs A n (fun v => done v ∨ v = nv s ∧ v ≠ v0) s' := by
  unfold mxX7_thick
  by_cases c : nv s = v0
  · rw [(x_flat (N := N)).1 c, Option.bind_some]
    dsimp only
    rw [if_neg (by decide)]
    exact ⟨s, rfl, fr.rf, RWs_mo st (fun v hv => hv.resolve_right (fun w => w.2 (w.1.trans c)))⟩
  · rw [(x_flat (N := N)).2 c, Option.bind_some]
    dsimp only
    rw [if_pos rfl]
    obtain ⟨s1, G, e1, G0, eG, hx, b1, sm1⟩ := x_plain (N := N) (M := 320000) c bn (by decide) (by omega)
    have f1 := smN_fr sm1
    have O1 := hpO_N sm1 hO
    have eA1 : hp s1 = A := by
      rw [← eA]
      funext t
      unfold hp
      rw [f1.G (by decide), f1.G (by decide), f1.G (by decide)]
    obtain ⟨v, e2, hv⟩ := x_height (N := N) (p := 0) (s := s1) (by omega) (O1.2.1 0 (by omega)) b1
    have e2' : mxX7_height N 0 s1 = some (s1, v) := e2
    rw [e1, Option.bind_some, e2', Option.bind_some]
    dsimp only
    obtain ⟨a, b, gw, sp, ea, eb, okq, e3⟩ := m_th23 (N := N) hn O1 (prim_ne0 hx) b1 (n - 1) N 1 v v 0 0 (by omega) (by omega) (by omega) (by omega) hv (fun k hk => by rw [show k = 0 by omega]; exact Int.le_refl _) hv (fun k hk => by rw [show k = 0 by omega]; exact Int.le_refl _)
    rw [eA1] at sp
    obtain ⟨s2, e4, f2, st2⟩ := m_tries (N := N) (d := fun v => v = nv s ∧ v ≠ v0) hN ea eb okq sp (fun v hv => SM_sc G0 (hv.1.trans eG) sp) (RWs_fr st f1 (by decide) (by decide) (by decide))
    have e3' : mxX7_thick_23 N N v v 1 s1 = mxX7_tries N a b s1 := e3
    rw [e3', e4]
    exact ⟨s2, rfl, (f1.mo (by decide)).tr (f2.mo (by decide)), st2⟩
/-- the ways gone through -/
def RQ2 (A : Nat → V3) (F E : Nat) (nf : Nat → V3) (pe qe : Nat → Nat) (e k : Nat) : V3 → Prop := fun v => (∃ f, f < F ∧ v = nf f) ∨ ∃ e' k', e' < k' ∧ k' < E ∧ (e' < e ∨ e' = e ∧ k' < k) ∧ v = vx (vs (A (qe e')) (A (pe e'))) (vs (A (qe k')) (A (pe k'))) ∧ v ≠ v0
def WR2 (A : Nat → V3) (n : Nat) (d : V3 → Prop) (s0 s : mS) : Prop := fr [24, 25, 26, 51, 52, 53] s0 s ∧ RWs A n d s
theorem m_w101 {N n F E e0 : Nat} {A nf : Nat → V3} {pe qe : Nat → Nat} {w : Int32} {rec86 : Int32 → Int32 → mS → Option (mS × Int64)} {s0 : mS} {R : mS × Int64 → Prop} (hN : 4611686018427387904 < N) (h1 : 1 ≤ n) (n24 : n ≤ 24) (hO : hpO s0 n) (eA : hp s0 = A) (bA : ∀ j, j < n → bd3 (hp s0 j) 100) (E80 : E ≤ 80) (t3 : s0.2.2.1 34 0 = Int32.ofNat E) (rows : ∀ e, e < E → s0.2.2.1 35 e = Int32.ofNat (pe e) ∧ s0.2.2.1 36 e = Int32.ofNat (qe e) ∧ pe e < n ∧ qe e < n) (he : e0 < E) (hrec : ∀ s, WR2 A n (RQ2 A F E nf pe qe (e0 + 1) (e0 + 2)) s0 s → Hd (rec86 w (Int32.ofNat (e0 + 1)) s) R) : ∀ (q fu j : Nat) (s : mS), j + q = E → q < fu → e0 < j → WR2 A n (RQ2 A F E nf pe qe e0 j) s0 s → Hd (mxX7_width_101 N rec86 fu w (Int32.ofNat e0) (Int32.ofNat j) s) R := by
  obtain ⟨a1, a2, a3, a4⟩ := rows e0 he
  intro q
  induction q with
  | zero =>
    intro fu j s hj hfu ej hI
    obtain ⟨f', rfl⟩ : ∃ f', fu = f' + 1 := ⟨fu - 1, by omega⟩
    have hjE : j = E := by omega
    subst hjE
    rw [mxX7_width_101, rA_0 (by decide), Option.bind_some, hI.1.A (by decide), t3, if_pos (Int32.le_refl _), i_s]
    refine hrec s ⟨hI.1, RWs_mo hI.2 (fun v hv => ?_)⟩
    rcases hv with hv | ⟨e', k', h1, h2, h3, h4⟩
    · exact .inl hv
    · exact .inr ⟨e', k', h1, h2, by omega, h4⟩
  | succ q ih =>
    intro fu j s hj hfu ej hI
    obtain ⟨f', rfl⟩ : ∃ f', fu = f' + 1 := ⟨fu - 1, by omega⟩
    have ne : ¬ (Int32.ofNat E ≤ Int32.ofNat j) := by
      rw [i_le (by omega) (by omega)]
      omega
    obtain ⟨c1, c2, c3, c4⟩ := rows j (by omega)
    have e35 : s.2.2.1 35 = s0.2.2.1 35 := hI.1.A (by decide)
    have e36 : s.2.2.1 36 = s0.2.2.1 36 := hI.1.A (by decide)
    have hps : hp s = hp s0 := by
      funext t
      unfold hp
      rw [hI.1.G (by decide), hI.1.G (by decide), hI.1.G (by decide)]
    have O1 : hpO s n := ⟨by rw [hI.1.I (by decide)]; exact hO.1, by rw [hps]; exact hO.2.1, by rw [hps]; exact hO.2.2⟩
    have bd : ∀ j, j < n → bd3 (hp s j) 100 := by
      rw [hps]
      exact bA
    have x1 := bd (pe e0) (by omega)
    have x2 := bd (qe e0) (by omega)
    have x3 := bd (pe j) (by omega)
    have x4 := bd (qe j) (by omega)
    have k1 := bv_sub (b16 x2) (b16 x1) (by decide)
    have k2 := bv_sub (b17 x2) (b17 x1) (by decide)
    have k3 := bv_sub (b18 x2) (b18 x1) (by decide)
    have k4 := bv_sub (b16 x4) (b16 x3) (by decide)
    have k5 := bv_sub (b17 x4) (b17 x3) (by decide)
    have k6 := bv_sub (b18 x4) (b18 x3) (by decide)
    obtain ⟨s1, e1, sm1, n1, bn1⟩ := x_crosses (N := N) (x := vs (hp s (qe e0)) (hp s (pe e0))) (y := vs (hp s (qe j)) (hp s (pe j))) (s := s) k1 k2 k3 k4 k5 k6 (by decide)
    have g1 := smN_fr sm1
    have eA1 : hp s1 = A := by
      rw [← eA, ← hps]
      funext t
      unfold hp
      rw [g1.G (by decide), g1.G (by decide), g1.G (by decide)]
    obtain ⟨s2, e2, g2, st2⟩ := m_thick (N := N) hN h1 (by omega) (hpO_N sm1 O1) eA1 bn1 (RWs_fr hI.2 g1 (by decide) (by decide) (by decide))
    rw [mxX7_width_101, rA_0 (by decide), Option.bind_some, hI.1.A (by decide), t3, if_neg ne, rA160 rfl (by omega), Option.bind_some, e36, a2, rG600 rfl (by omega), Option.bind_some, rA160 rfl (by omega), Option.bind_some, e35, a1, rG600 rfl (by omega), Option.bind_some, Option.bind_some, rG600 rfl (by omega), Option.bind_some, Option.bind_some, rG600 rfl (by omega), Option.bind_some, Option.bind_some, rG600 rfl (by omega), Option.bind_some, Option.bind_some, rG600 rfl (by omega), Option.bind_some, rA160 rfl (by omega), Option.bind_some, e36, c2, rG600 rfl (by omega), Option.bind_some, rA160 rfl (by omega), Option.bind_some, e35, c1, rG600 rfl (by omega), Option.bind_some, Option.bind_some, rG600 rfl (by omega), Option.bind_some, Option.bind_some, rG600 rfl (by omega), Option.bind_some, Option.bind_some, rG600 rfl (by omega), Option.bind_some, Option.bind_some, rG600 rfl (by omega), Option.bind_some, e1, Option.bind_some, e2, Option.bind_some, i_s]
    refine ih f' (j + 1) s2 (by omega) (by omega) (by omega) ⟨(hI.1.tr (g1.mo (by decide))).tr (g2.mo (by decide)), RWs_mo st2 (fun v hv => ?_)⟩
    rcases hv with hv | ⟨e', k', y1, y2, y3, y4, y5⟩
    · exact .inl (.inl hv)
    · by_cases z : e' = e0 ∧ k' = j
      · rw [z.1, z.2] at y4
        refine .inr ⟨?_, y5⟩
        rw [y4, n1, hps, eA]
      · exact .inl (.inr ⟨e', k', y1, y2, by omega, y4, y5⟩)
theorem WI_red {A : Nat → V3} {m : Nat} {d : V3 → Prop} {g T U : Int} (g0 : 0 < g) (h : WI A m d (g * T) (g * U)) : WI A m d T U := by
  obtain ⟨h1, h2, ⟨w, x, s, e⟩, h4⟩ := h
  refine ⟨nn_of_mul g0 h1, pos_of_mul g0 h2, ⟨w, x, s, ?_⟩, fun v y hv hs => ?_⟩
  · have a1 : x * x * (g * U) = g * (x * x * U) := by grind
    have a2 : g * T * vd w w = g * (T * vd w w) := by grind
    rw [a1, a2] at e
    exact Int.eq_of_mul_eq_mul_left (by omega) e
  · have l := h4 v y hv hs
    have a1 : y * y * (g * U) = g * (y * y * U) := by grind
    have a2 : g * T * vd v v = g * (T * vd v v) := by grind
    rw [a1, a2] at l
    exact Int.le_of_mul_le_mul_left l g0
/-- told, of the WIDTH -/
theorem m_told {N n : Nat} {A : Nat → V3} {d : V3 → Prop} {w : Int32} {s : mS} (hN : 4611686018427387904 < N) (ok : okQ (s.2.1 52) (s.2.1 53)) (wi : WI A n d (s.2.1 52).toInt (s.2.1 53).toInt) (cov : ∀ v g, SPN A n v g → ∃ w g', d w ∧ SPN A n w g' ∧ g' * g' * vd v v ≤ g * g * vd w w) : ∃ T U : Int64, IsW A n T.toInt U.toInt ∧ mxX7_told N w s = some (s, if w = 0 then T else if w = 1 then U else -1) := by
  obtain ⟨h1, h2, h3, h4⟩ := ok
  obtain ⟨g, e, gg, -⟩ := x_common (N := N) (M := 4611686018427387903) (a := s.2.1 52) (b := s.2.1 53) (s := s) (by omega) (by omega) (by decide) (by omega)
  have g0 : 0 < g.toInt := by
    have := gg.1
    by_cases c : g.toInt = 0
    · have := (gg.2.1 c).2
      omega
    · omega
  have gn : ¬ (g = 0) := by
    rw [pos64.2]
    omega
  have q0 := (rem64 h1 g0).2
  have q1 := (rem64 (show 0 ≤ (s.2.1 53).toInt by omega) g0).2
  obtain ⟨-, l2, l3, l4⟩ := low_of gg g0
  refine ⟨s.2.1 52 / g, s.2.1 53 / g, ?_, ?_⟩
  · rw [q0, q1]
    refine WI_IsW (WI_red g0 ?_) l2 cov
    rw [← l3, ← l4]
    exact wi
  · unfold mxX7_told
    rw [e, Option.bind_some]
    dsimp only
    rw [if_neg gn, if_neg gn]
    by_cases z : w = 0
    · rw [if_pos z, if_pos z]
    · rw [if_neg z, if_neg z]
      by_cases z1 : w = 1
      · rw [if_pos z1, if_pos z1]
      · rw [if_neg z1, if_neg z1]
