def TL (A : Nat → V3) (n : Nat) (w : Int32) (s0 : mS) (o : mS × Int64) : Prop := fr [24, 25, 26, 51, 52, 53] s0 o.1 ∧ ∃ T U : Int64, IsW A n T.toInt U.toInt ∧ o.2 = if w = 0 then T else if w = 1 then U else -1
theorem m_w86 {N n F E : Nat} {A nf : Nat → V3} {df : Nat → Int} {pe qe fe ge : Nat → Nat} {w : Int32} {s0 : mS} (hN : 4611686018427387904 < N) (h1 : 1 ≤ n) (n24 : n ≤ 24) (hO : hpO s0 n) (eA : hp s0 = A) (bA : ∀ j, j < n → bd3 (hp s0 j) 100) (E80 : E ≤ 80) (F1 : 1 ≤ F) (t3 : s0.2.2.1 34 0 = Int32.ofNat E) (rows : ∀ e, e < E → s0.2.2.1 35 e = Int32.ofNat (pe e) ∧ s0.2.2.1 36 e = Int32.ofNat (qe e) ∧ pe e < n ∧ qe e < n) (wb : WB A n F E nf df pe qe fe ge) : ∀ (q fu e : Nat) (s : mS), e + q = E → q < fu → WR2 A n (RQ2 A F E nf pe qe e (e + 1)) s0 s → Hd (mxX7_width_86 N fu w (Int32.ofNat e) s) (TL A n w s0) := by
  intro q
  induction q with
  | zero =>
    intro fu e s he hfu hI
    obtain ⟨f', rfl⟩ : ∃ f', fu = f' + 1 := ⟨fu - 1, by omega⟩
    have heE : e = E := by omega
    subst heE
    rw [mxX7_width_86, rA_0 (by decide), Option.bind_some, hI.1.A (by decide), t3, if_pos (Int32.le_refl _)]
    rcases hI.2 with ⟨-, no⟩ | ⟨-, ok, wi⟩
    · exact absurd (.inl ⟨0, F1, rfl⟩) (no (nf 0))
    · have wi' : WI A n (DN A F e nf pe qe fe ge) (s.2.1 52).toInt (s.2.1 53).toInt := WI_mo wi (fun v hv => by
        rcases hv with hv | ⟨e', k', h1, h2, cv, -, -, c⟩
        · exact .inl hv
        · refine .inr ⟨e', k', h1, h2, .inl (by omega), cv, fun z => c ?_⟩
          rw [z, vd_0, vd_0]
          rfl)
      obtain ⟨T, U, iw, et⟩ := m_told (N := N) (w := w) hN ok wi' (fun v g hv => cover wb hv)
      rw [et, Option.bind_some]
      exact Hd.ret ⟨hI.1, T, U, iw, rfl⟩
  | succ q ih =>
    intro fu e s he hfu hI
    obtain ⟨f', rfl⟩ : ∃ f', fu = f' + 1 := ⟨fu - 1, by omega⟩
    have ne : ¬ (Int32.ofNat E ≤ Int32.ofNat e) := by
      rw [i_le (by omega) (by omega)]
      omega
    rw [mxX7_width_86, rA_0 (by decide), Option.bind_some, hI.1.A (by decide), t3, if_neg ne, i_s]
    exact m_w101 hN h1 n24 hO eA bA E80 t3 rows (by omega) (fun s hI => ih f' (e + 1) s (by omega) (by omega) hI) (E - (e + 1)) N (e + 1) s (by omega) (by omega) (by omega) hI
theorem m_w34 {N n F E : Nat} {A : Nat → V3} {pe qe fe ge : Nat → Nat} {w : Int32} {s0 : mS} (hN : 4611686018427387904 < N) (h1 : 1 ≤ n) (n24 : n ≤ 24) (hO : hpO s0 n) (eA : hp s0 = A) (bA : ∀ j, j < n → bd3 (hp s0 j) 100) (F44 : F ≤ 44) (E80 : E ≤ 80) (F1 : 1 ≤ F) (t1 : s0.2.2.1 27 0 = Int32.ofNat F) (t3 : s0.2.2.1 34 0 = Int32.ofNat E) (bF : ∀ f, f < F → bd3 (fN s0 f) 320000) (rows : ∀ e, e < E → s0.2.2.1 35 e = Int32.ofNat (pe e) ∧ s0.2.2.1 36 e = Int32.ofNat (qe e) ∧ pe e < n ∧ qe e < n) (wb : WB A n F E (fN s0) (fD s0) pe qe fe ge) : ∀ (q fu f : Nat) (s : mS), f + q = F → q < fu → WR2 A n (fun v => ∃ f', f' < f ∧ v = fN s0 f') s0 s → Hd (mxX7_width_34 N fu w (Int32.ofNat f) s) (TL A n w s0) := by
  intro q
  induction q with
  | zero =>
    intro fu f s hf hfu hI
    obtain ⟨f', rfl⟩ : ∃ f', fu = f' + 1 := ⟨fu - 1, by omega⟩
    have hfF : f = F := by omega
    subst hfF
    rw [mxX7_width_34, rA_0 (by decide), Option.bind_some, hI.1.A (by decide), t1, if_pos (Int32.le_refl _)]
    refine m_w86 hN h1 n24 hO eA bA E80 F1 t3 rows wb E N 0 s (by omega) (by omega) ⟨hI.1, RWs_mo hI.2 (fun v hv => ?_)⟩
    rcases hv with hv | ⟨e', k', y1, y2, y3, -⟩
    · exact hv
    · omega
  | succ q ih =>
    intro fu f s hf hfu hI
    obtain ⟨f', rfl⟩ : ∃ f', fu = f' + 1 := ⟨fu - 1, by omega⟩
    have ne : ¬ (Int32.ofNat F ≤ Int32.ofNat f) := by
      rw [i_le (by omega) (by omega)]
      omega
    rw [mxX7_width_34, rA_0 (by decide), Option.bind_some, hI.1.A (by decide), t1, if_neg ne, rG128 rfl (by omega), Option.bind_some, Option.bind_some, rG128 rfl (by omega), Option.bind_some, Option.bind_some, rG128 rfl (by omega), Option.bind_some, Option.bind_some]
    have g1 : fr [24, 25, 26] s (pJ (pJ (pJ s 24 (s.2.2.2 28 f)) 25 ((pJ s 24 (s.2.2.2 28 f)).2.2.2 29 f)) 26 ((pJ (pJ s 24 (s.2.2.2 28 f)) 25 ((pJ s 24 (s.2.2.2 28 f)).2.2.2 29 f)).2.2.2 30 f)) := (((fr_pJ _ _ _).mo (by decide)).tr ((fr_pJ _ _ _).mo (by decide))).tr ((fr_pJ _ _ _).mo (by decide))
    have nve : nv (pJ (pJ (pJ s 24 (s.2.2.2 28 f)) 25 ((pJ s 24 (s.2.2.2 28 f)).2.2.2 29 f)) 26 ((pJ (pJ s 24 (s.2.2.2 28 f)) 25 ((pJ s 24 (s.2.2.2 28 f)).2.2.2 29 f)).2.2.2 30 f)) = fN s0 f := by
      unfold fN
      rw [← hI.1.G (k := 28) (by decide), ← hI.1.G (k := 29) (by decide), ← hI.1.G (k := 30) (by decide)]
      rfl
    generalize (pJ (pJ (pJ s 24 (s.2.2.2 28 f)) 25 ((pJ s 24 (s.2.2.2 28 f)).2.2.2 29 f)) 26 ((pJ (pJ s 24 (s.2.2.2 28 f)) 25 ((pJ s 24 (s.2.2.2 28 f)).2.2.2 29 f)).2.2.2 30 f)) = s1 at g1 nve ⊢
    have f1 : fr [24, 25, 26, 51, 52, 53] s0 s1 := hI.1.tr (g1.mo (by decide))
    have hps : hp s1 = hp s0 := by
      funext t
      unfold hp
      rw [f1.G (by decide), f1.G (by decide), f1.G (by decide)]
    have O1 : hpO s1 n := ⟨by rw [f1.I (by decide)]; exact hO.1, by rw [hps]; exact hO.2.1, by rw [hps]; exact hO.2.2⟩
    obtain ⟨s2, e2, g2, st2⟩ := m_thick (N := N) hN h1 (by omega) O1 (hps.trans eA) (by rw [nve]; exact bF f (by omega)) (RWs_fr hI.2 g1 (by decide) (by decide) (by decide))
    rw [e2, Option.bind_some, i_s]
    refine ih f' (f + 1) s2 (by omega) (by omega) ⟨f1.tr (g2.mo (by decide)), RWs_mo st2 (fun v ⟨x, hx, ev⟩ => ?_)⟩
    by_cases z : x = f
    · rw [z] at ev
      refine .inr ⟨by rw [nve]; exact ev, ?_⟩
      rw [ev]
      exact prim_ne0 (wb.2.1 f (by omega)).2.2
    · exact .inl ⟨x, by omega, ev⟩
theorem SPN_cg {A A' : Nat → V3} {m : Nat} {w : V3} {g : Int} (e : ∀ j, j < m → A' j = A j) (h : SPN A m w g) : SPN A' m w g := by
  obtain ⟨hw, i, j, hi, hj, h1, h2, eg⟩ := h
  exact ⟨hw, i, j, hi, hj, fun t ht => by rw [e t ht, e i hi]; exact h1 t ht, fun t ht => by rw [e t ht, e j hj]; exact h2 t ht, by rw [e i hi, e j hj]; exact eg⟩
theorem IsW_cg {A A' : Nat → V3} {m : Nat} {t u : Int} (e : ∀ j, j < m → A' j = A j) (h : IsW A m t u) : IsW A' m t u := by
  obtain ⟨h1, h2, ⟨v, g, s, k⟩, h4⟩ := h
  exact ⟨h1, h2, ⟨v, g, SPN_cg e s, k⟩, fun v g hs => h4 v g (SPN_cg (fun j hj => (e j hj).symm) hs)⟩
/-- the slit of a body was reckoned -/
theorem BO_slit {C C' : cS} {b m : Nat} (h : BO C b) (c : cf (fun i => i = b + 9) C C') (k4 : qI C b 0 = 4) (h1 : qI C (b + 1) 0 = Int32.ofNat m) (hm : m ≤ 24) (iw : IsW (pc C (b + 1)) m (qJ C' (b + 9) 0).toInt (qJ C' (b + 9) 1).toInt) : BO C' b := by
  obtain ⟨kd, n, F, E, R, a1, a2, a3, a4, a5, a6, a7, a8, a9, a10, a11, a12, a13⟩ := h
  have en : n = m := i_inj (by omega) (by omega) (a6.symm.trans h1)
  have ek : kd = 4 := i_inj (b := 4) (by omega) (by omega) (a5.symm.trans k4)
  subst en
  have pe := pc_cf c (p := b + 1) (fun i a b w => by omega)
  refine ⟨kd, n, F, E, R, a1, a2, a3, a4, ?_, ?_, ?_, ?_, fun j hj => by rw [pe]; exact a9 j hj, fun w => RS_cf (a10 w) c (fun w => by omega) (fun w => by omega), fun w => ⟨EG_cf (a11 w).1 c (fun w => by omega) (fun w => by omega), (a11 w).2⟩, FB_cf a12 c (fun i x y w => by omega), .inr ⟨ek, ?_⟩⟩
  · rw [c.I (fun w => by omega)]
    exact a5
  · rw [c.I (fun w => by omega)]
    exact a6
  · rw [c.I (fun w => by omega)]
    exact a7
  · rw [c.I (fun w => by omega)]
    exact a8
  · have : pc C' (b + 1) = pc C (b + 1) := funext pe
    rw [this]
    exact iw
theorem CI_slit {s s' : cS} {bo : Nat → Nat} {k : Nat} (h : CI s bo) (hk : k < 17) (c : cf (fun i => i = bo k + 9) s s') (bn : BO s' (bo k)) : CI s' bo ∧ TF s s' ∧ FR s s' bo ∧ qI s' 0 5 = qI s 0 5 ∧ qA s' 5 = qA s 5 := by
  obtain ⟨⟨b1, b2, b3, b4, b5⟩, h2, h3, ⟨n, h4, h5, h6⟩, ⟨h7, h8⟩, h9⟩ := h
  have b0 := b4 k hk
  have no : ∀ i, i < 6 ∨ (20 ≤ i ∧ i < 24) ∨ i = 39 → ¬ (i = bo k + 9) := fun i hi w => by
    rcases b0 with y | ⟨j, _, y⟩ | ⟨j, _, y⟩ <;> omega
  have tf : TF s s' := TF_cf c (no 2 (by omega)) (fun i w j hj z => isB_tr b0 (show bo k ≤ i by omega) (by omega) hj z)
  have dis : ∀ k', k' < 17 → ∀ i, bo k' ≤ i → i ≤ bo k' + 9 → k' ≠ k → ¬ (i = bo k + 9) := fun k' hk' i x y ne w => by
    have kb := b4 k' hk'
    have d : bo k ≠ bo k' := fun e => ne (b5 k k' hk hk' e).symm
    rcases isB_dis b0 kb d with z | z <;> omega
  refine ⟨⟨⟨by rw [c.F]; exact b1, fun j hj => by rw [c.R (no 3 (by omega))]; exact b2 j hj, fun j hj => by rw [c.R (no 4 (by omega))]; exact b3 j hj, b4, b5⟩, fun k' hk' => ?_, fun j hj => ⟨by rw [c.R (no 1 (by omega))]; exact (h3 j hj).1, trP_TF tf hj (h3 j hj).2⟩, ⟨n, h4, by rw [c.I (no 0 (by omega))]; exact h5, fun i hi => by rw [c.A (no 5 (by omega))]; exact h6 i hi⟩, ⟨by rw [c.I (no 20 (by omega))]; exact h7, by rw [pc_cf c (fun i a b => no i (by omega))]; exact h8⟩, fun j hj => by rw [c.A (no 39 (by omega))]; exact h9 j hj⟩, tf, fun k' _ hk' i x y => ?_, by rw [c.I (no 0 (by omega))], c.A (no 5 (by omega))⟩
  · by_cases e : k' = k
    · rw [e]
      exact bn
    · exact BO_cf (h2 k' hk') c (fun i a b => dis k' hk' i a b e)
  · have ni : ¬ (i = bo k + 9) := fun w => by
      by_cases e : k' = k
      · rw [e] at y
        omega
      · exact dis k' hk' i x (by omega) e w
    exact ⟨c.I ni, c.A ni⟩
/-- width -/
theorem sv_width {N : Nat} {C : cS} {s : mS} (hN : 4611686018427387904 < N) (j : JK C s) (a w : Int32) : ∃ C' v o, fxX6_width N 0 a w (hC C) = some (hC C', v) ∧ mxX7_width N a w s = some o ∧ v = o.2 ∧ JK C' o.1 := by
  have j' := j
  obtain ⟨bo, xx, cc, jx⟩ := j
  have ci := jx.1
  rcases slot_or a with ha | ⟨i, hi, rfl⟩
  · refine ⟨C, -1, (s, -1), ?_, ?_, rfl, j'⟩
    · unfold fxX6_width
      rw [slot_no ha, Option.bind_some]
      rfl
    · unfold mxX7_width
      rw [solid_no ha, Option.bind_some]
      rfl
  · obtain ⟨hb, bo', b0, n2⟩ := bodyOf ci hi
    obtain ⟨-, -, -, -, -, -, b9⟩ := isB_sh hb
    obtain ⟨s1, m, k, F, E, R, rf, ρ, e1, h4, h5, ok, K, br'⟩ := slot_kn (N := N) (g := 0) (by omega) jx hi (by omega)
    have e1' : mxX7_knows N (Int32.ofNat i) 0 s = some s1 := e1
    have k4 := okP_k ok
    have l4 : ((4 : Int32) ≤ Int32.ofNat k) = (4 ≤ k) := i_le (a := 4) (b := k) (by omega) (by omega)
    have y1 : qI C (bo (1 + i)) 0 = Int32.ofNat k := br'.2.1.1
    have c0 : fxX6_width N 0 (Int32.ofNat i) w (hC C) = if Int32.ofNat k = (4 : Int32) then ((fxX6_isTopOrBottom N w (hC C)).bind fun o11 => if o11.2 = 0 then some (o11.1, (-1 : Int64)) else ((gR o11.1 0 6 2).bind fun v14 => (aR o11.1 v14 (Int32.ofNat i)).bind fun v16 => (kO o11.1 v16 0).bind fun f20 => (fxX0_reckonSlit N v16 o11.1).bind fun o18 => (gR o18 0 6 2).bind fun v22 => (aR o18 v22 (Int32.ofNat i)).bind fun v24 => (gR o18 v24 0 8).bind fun v26 => (kO o18 v26 4).bind fun f30 => (fxX4_part N v26 w o18).bind fun o28 => some (o28.1, o28.2))) else some (hC C, (-1 : Int64)) := by
      unfold fxX6_width
      rw [slot_in hi, Option.bind_some]
      dsimp only
      rw [if_neg no1]
      refine bndE (gR_6_2 x06) (bndE (aR3 hi (ci.1.2.1 i hi)) (bndE (gI_0_0 b0) ?_))
      rw [y1]
    have m0 : mxX7_width N (Int32.ofNat i) w s = if (4 : Int32) ≤ Int32.ofNat k then mxX7_width_34 N N w 0 (pI s1 51 0) else some (s, -1) := by
      unfold mxX7_width
      rw [solid_in hi, Option.bind_some]
      dsimp only
      rw [if_neg (by decide), rA8 rfl hi, Option.bind_some, h5, e1', Option.bind_some, Option.bind_some]
    by_cases c : k < 4
    · have n4 : ¬ (Int32.ofNat k = (4 : Int32)) := fun w => by
        have := i_inj (b := 4) (by omega) (by omega) w
        omega
      exact ⟨C, -1, (s, -1), c0.trans (if_neg n4), m0.trans (if_neg (by rw [l4]; omega)), rfl, j'⟩
    have ek : k = 4 := by omega
    subst ek
    have F1 := kn_F4 ok K rfl
    have f1 : fi s s1 := K.1.fi (by decide)
    obtain ⟨⟨m24, -, F44, E66⟩, ⟨-, y2, y3, y4⟩, pts, pls, -, ht, er, ok1⟩ := br'
    obtain ⟨pe, qe, fe, ge, wb, rows⟩ := kn_WB ok1 K
    have O1 : hpO s1 m := K.2.2.2.2.2.1
    have hm1 : 1 ≤ m := by
      rcases ok1.2.2.2.2 with ⟨q1, q2⟩ | ⟨q1, q2, -⟩ | ⟨q1, q2, -⟩ <;> omega
    have t27 : s1.2.2.1 27 0 = Int32.ofNat F := K.2.2.2.2.2.2.2.1.1
    have t34 : s1.2.2.1 34 0 = Int32.ofNat E := K.2.2.2.2.2.2.2.2.2.2.2.2.1
    -- the reference
    have f51 : fr [51] s1 (pI s1 51 0) := fr_pI _ _ _
    have eh : hp (pI s1 51 0) = hp s1 := rfl
    obtain ⟨o, eo, fo, T, U, iw, ev⟩ := m_w34 (N := N) (w := w) (s0 := pI s1 51 0) (A := hp s1) (pe := pe) (qe := qe) (fe := fe) (ge := ge) hN hm1 m24 ⟨by rw [f51.I (by decide)]; exact O1.1, O1.2.1, O1.2.2⟩ eh (fun j hj => (pts j hj).2) F44 (by omega) F1 t27 t34 (fun f hf => by
      have := (ht f hf).2.1
      rw [show 64 * 0 + f = f by omega] at this
      exact this) (fun e he => by
      obtain ⟨⟨a1, a2, -, -⟩, -⟩ := wb.2.2.2.1 e he
      exact ⟨(rows e he).1, (rows e he).2.1, by omega, a2⟩) wb F N 0 (pI s1 51 0) (by omega) (by omega) ⟨fr.rf, .inl ⟨rfl, fun v ⟨x, hx, _⟩ => absurd hx (by omega)⟩⟩
    have mo : mxX7_width N (Int32.ofNat i) w s = some o := m0.trans ((if_pos (by rw [l4]; omega)).trans eo)
    have fo' : fi s o.1 := f1.tr ((f51.fi (by decide)).tr (fo.fi (by decide)))
    have p4 : Int32.ofNat 4 = (4 : Int32) := rfl
    rcases d_tb (N := N) (w := w) (h := hC C) with ⟨hw, et⟩ | ⟨hw, et⟩
    · have cw : CW C (bo (1 + i)) m F E (hp s1) (fN s1) (fD s1) pe qe fe ge := by
        refine ⟨⟨m24, F44, E66⟩, ⟨y2, y3, y4⟩, pts, fun f hf => ?_, fun e he => ?_, wb⟩
        · have := pls f hf
          rw [show 64 * 0 + f = f by omega] at this
          exact ⟨this.1, this.2.1, by rw [← this.1]; exact this.2.2⟩
        · obtain ⟨z1, z2, z3, z4⟩ := er e he
          rw [show 80 * 0 + e = e by omega] at z1 z2 z3 z4
          obtain ⟨w1, w2, w3, w4⟩ := rows e he
          exact ⟨z1.trans w1, z2.trans w2, z3.trans w3, z4.trans w4⟩
      have pe' : ∀ j, j < m → hp s1 j = pc C (bo (1 + i) + 1) j := fun j hj => (pts j hj).1.symm
      have sl : qJ C (bo (1 + i) + 9) 1 = 0 ∨ IsW (hp s1) m (qJ C (bo (1 + i) + 9) 0).toInt (qJ C (bo (1 + i) + 9) 1).toInt := by
        obtain ⟨kd, n, F', E', R', a1, a2, a3, a4, a5, a6, a7, a8, a9, a10, a11, a12, a13⟩ := bo'
        have en : n = m := i_inj (by omega) (by omega) (a6.symm.trans y2)
        subst en
        rcases a13 with z | ⟨-, z⟩
        · exact .inl z
        · exact .inr (IsW_cg pe' z)
      obtain ⟨C', es, c', iw'⟩ := d_slit (N := N) (by omega) hb cw y1 F1 sl
      have bn := BO_slit (m := m) bo' c' y1 y2 m24 (IsW_cg (fun j hj => (pe' j hj).symm) iw')
      obtain ⟨ci', tf, frr, q0, q5⟩ := CI_slit ci (show 1 + i < 17 by omega) c' bn
      obtain ⟨eT, eU⟩ := IsW_u iw' iw
      have eT' : qJ C' (bo (1 + i) + 9) 0 = T := Int64.toInt_inj.mp eT
      have eU' : qJ C' (bo (1 + i) + 9) 1 = U := Int64.toInt_inj.mp eU
      refine ⟨C', _, o, c0.trans ((if_pos p4).trans (bndE et ((if_neg no1).trans (bndE (gR_6_2 x06) (bndE (aR3 hi (ci.1.2.1 i hi)) (bndE (kO_0 b0) (bndE es (bndE (gR_6_2 x06) (bndE (aR3 hi (ci'.1.2.1 i hi)) (bndE (gR_0_8 b0) (bndE (kO_4 b9) (bndE (d_part b9 hw) rfl)))))))))))), mo, ?_, ⟨bo, xx, cc, JX_same jx ci' tf frr q0 q5 fo'⟩⟩
      show (if w = 0 then qJ C' (bo (1 + i) + 9) 0 else qJ C' (bo (1 + i) + 9) 1) = o.2
      rw [ev, eT', eU']
      rcases hw with e | e
      · rw [if_pos e, if_pos e]
      · have nw : ¬ (w = 0) := fun z => by
          rw [z] at e
          exact absurd e (by decide)
        rw [if_neg nw, if_neg nw, if_pos e]
    · refine ⟨C, -1, o, c0.trans ((if_pos p4).trans (bndE et (if_pos rfl))), mo, ?_, JK_read j' cf.rf fo'⟩
      rw [ev, if_neg hw.1, if_neg hw.2]
