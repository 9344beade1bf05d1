theorem smZ_eq {s s' : mS} {m0 m1 : Nat} (h : ∀ k, oP s' k = oP s k) : smZ s' m0 m1 = smZ s m0 m1 := by
  funext x
  unfold smZ
  simp only [h]
/-- across two ways both, one way or back -/
theorem across2 {a b w : V3} (ha : vd w a = 0) (hb : vd w b = 0) (hx : ∃ x, vd w x = 1) (hne : vx a b ≠ v0) : ∃ G, 0 < G ∧ (vx a b = vl G w 0 v0 ∨ vs v0 (vx a b) = vl G w 0 v0) := by
  obtain ⟨G, w', G0, e, hx'⟩ := prim_of hne
  have c1 := cross_along ha hb
  have z : vx w w' = v0 := by
    have : vx w (vx a b) = v0 := c1
    rw [e] at this
    have k1 : ∀ p q p' q' : Int, p * (G * q' + 0 * 0) - q * (G * p' + 0 * 0) = G * (p * q' - q * p') := by
      intro p q p' q'
      grind
    have e1 := vx_1 this
    have e2 := vx_2 this
    have e3 := vx_3 this
    refine v3_ext ?_ ?_ ?_
    · exact z_of_mul G0 ((k1 _ _ _ _).symm.trans e1)
    · exact z_of_mul G0 ((k1 _ _ _ _).symm.trans e2)
    · exact z_of_mul G0 ((k1 _ _ _ _).symm.trans e3)
  obtain ⟨x, hx⟩ := hx
  obtain ⟨y, hy⟩ := hx'
  refine ⟨G, G0, ?_⟩
  rcases prim_eq hx hy z with q | q
  · left
    rw [e, q]
  · right
    rw [e, q]
    refine v3_ext ?_ ?_ ?_
    · show 0 - (G * (0 - w.1) + 0 * 0) = G * w.1 + 0 * 0
      rw [Int.mul_sub]
      omega
    · show 0 - (G * (0 - w.2.1) + 0 * 0) = G * w.2.1 + 0 * 0
      rw [Int.mul_sub]
      omega
    · show 0 - (G * (0 - w.2.2) + 0 * 0) = G * w.2.2 + 0 * 0
      rw [Int.mul_sub]
      omega
theorem x_send {N u m0 m1 F0 E0 F1 E1 k0 k1 n : Nat} {sB s2 h : mS} (hN : 1000000 < N) (hu : u < 8) (hI : INV sB) (f2 : fi sB s2) (T0 : tbS s2 0 F0 E0 m0) (O0 : owS s2 0 m0) (G0 : gmC s2 0 F0 E0 m0 k0 (fun t => oP s2 t)) (ok0 : okP (fun t => oP s2 t) m0 k0) (T1 : tbS s2 1 F1 E1 m1) (O1 : owS s2 1 m1) (G1 : gmC s2 1 F1 E1 m1 k1 (fun t => oP s2 (24 + t))) (ok1 : okP (fun t => oP s2 (24 + t)) m1 k1) (smh : smH s2 h) (H : hpZ h n 576 (smZ s2 m0 m1)) : Hd ((mxX7_kindOfHeap N h).bind fun o19 => if o19.2 = (4 : Int32) then ((mxX7_looksAll N o19.1).bind fun o22 => if (o22.1 54) = 0 then ((some (pI o22 15 (0 : Int32))).bind fun s25 => mxX7_sum_172 N N (Int32.ofNat u) o19.2 (0 : Int32) s25) else some (o22, (-2 : Int32))) else ((mxX7_hulls N (0 : Int32) o19.1).bind fun o27 => mxX7_sum_247 N (Int32.ofNat u) o19.2 o27.1)) (smR1 sB u (smZ s2 m0 m1)) := by
  obtain ⟨hO, hn, hZ1, hZ2⟩ := H
  have hm0 := T0.2.2.2.2.1
  have hm1 := T1.2.2.2.2.1
  obtain ⟨o, k, ek, smo, kd⟩ := x_kind (N := N) (by omega : n ≤ 600) hN hO
  have k4 := kdO_le kd
  have k4e : (Int32.ofNat k = 4) = (k = 4) := propext ⟨fun e => i_inj (a := k) (b := 4) (by omega) (by omega) e, fun e => by rw [e]; rfl⟩
  have f2o : fr [15, 16, 17, 18, 24, 25, 26] s2 o := ((smH_fr smh).mo (by decide)).tr ((smN_fr smo).mo (by decide))
  have fBo : fi sB o := f2.tr (f2o.fi (by decide))
  have hpo : hp o = hp h := by
    funext t
    exact smN_hp smo t
  have Oo : hpO o n := hpO_N smo hO
  have hR : srz (hp h) n (smZ s2 m0 m1) := ⟨hpO_ord hO, hZ1, hZ2⟩
  rw [ek, Option.bind_some]
  dsimp only
  by_cases c4 : k = 4
  · rw [if_pos (by rw [k4e]; exact c4)]
    have oPe : ∀ t, oP o t = oP s2 t := fr_oP f2o (by decide) (by decide) (by decide)
    have kd4 : kdO (hp h) (nv o) n 4 := by rw [← c4]; exact kd
    have n3 : 3 ≤ n := by
      rcases kd with ⟨q1, q2⟩ | ⟨q1, q2, -⟩ | ⟨q1, -⟩ <;> omega
    have hfull := kd_full kd4 n3
    obtain ⟨i0, j0, i0m, j0m, -⟩ := hZ1 0 (by omega)
    have T0o : tbS o 0 F0 E0 m0 := tbS_fr T0 f2o (by decide)
    have T1o : tbS o 1 F1 E1 m1 := tbS_fr T1 f2o (by decide)
    have fNe : ∀ t, fN o t = fN s2 t := by
      intro t
      unfold fN
      rw [f2o.G (by decide), f2o.G (by decide), f2o.G (by decide)]
    refine (x_looksAll (N := N) (n := n) (P := hp h) hN (by omega) (by omega) (owS_fr O0 f2o (by decide)) (owS_fr O1 f2o (by decide)) (by rw [smZ_eq oPe]; exact hR) T0o T1o (fun f hf => by rw [fNe]; exact G0.2.1 f hf) (fun f hf => by rw [fNe]; exact G1.2.1 f hf)).bnd (fun s3 J => ?_)
    have f3 : fi sB s3 := fBo.tr (J.1.fi (by decide))
    rcases J.2 with ⟨t1, t2⟩ | ⟨W, ⟨w54, c, hc, w55, wW, wW2, wd⟩, w2, w3⟩
    · rw [if_neg (by rw [t1]; decide)]
      exact Hd.ret (.inl ⟨rfl, f3, hp h, n, hR, t2⟩)
    · rw [if_pos w54, Option.bind_some, c4]
      -- all that are farthest along some way are found
      have allW : ∀ v, v < n → ex (hp h) n v → W (hp h v) := by
        intro v hv xv
        obtain ⟨w, D, hf, ev⟩ := ex_face hfull hv xv
        refine w3 w ?_ D hf v hv ev xv
        obtain ⟨a, b, hab, la, lb, hcase⟩ := mink ok0 ok1 hR hf
        rcases hcase with fa | fb | ⟨p, q, r, t, hpq, hq, hrt, ht, ep, eq, lp, er, et, lr, hne⟩
        · left
          left
          right
          have k3 : 3 ≤ k0 := by
            obtain ⟨-, ⟨x1, x2, x3, y1, y2, y3, -, -, -, hne⟩, -⟩ := fa
            have a1 : x1 ≠ x2 := by
              intro e
              rw [e, vs_self, vx_0] at hne
              exact hne rfl
            have a2 : x1 ≠ x3 := by
              intro e
              rw [e, vs_self] at hne
              exact hne (vx_anti0 (vx_0 _))
            have a3 : x2 ≠ x3 := by
              intro e
              rw [e, vx_self] at hne
              exact hne rfl
            rcases ok0.2.2.2.2 with ⟨q1, q2⟩ | ⟨q1, q2, -⟩ | ⟨q1, q2, -⟩ <;> omega
          obtain ⟨j, j1, j2⟩ := G0.1 k3 w a fa
          exact ⟨j, j1, by rw [fNe, j2]⟩
        · left
          right
          have k3 : 3 ≤ k1 := by
            obtain ⟨-, ⟨x1, x2, x3, y1, y2, y3, -, -, -, hne⟩, -⟩ := fb
            have a1 : x1 ≠ x2 := by
              intro e
              rw [e, vs_self, vx_0] at hne
              exact hne rfl
            have a2 : x1 ≠ x3 := by
              intro e
              rw [e, vs_self] at hne
              exact hne (vx_anti0 (vx_0 _))
            have a3 : x2 ≠ x3 := by
              intro e
              rw [e, vx_self] at hne
              exact hne rfl
            rcases ok1.2.2.2.2 with ⟨q1, q2⟩ | ⟨q1, q2, -⟩ | ⟨q1, q2, -⟩ <;> omega
          obtain ⟨j, j1, j2⟩ := G1.1 k3 w b fb
          exact ⟨j, j1, by rw [fNe, j2]⟩
        · right
          obtain ⟨e, e1, e2, e3⟩ := G0.2.2 w a p q hpq hq ep eq lp
          obtain ⟨k', k1', k2', k3'⟩ := G1.2.2 w b r t hrt ht er et lr
          rw [Nat.mul_zero, Nat.zero_add] at e2 e3
          rw [Nat.mul_one] at k2' k3'
          obtain ⟨G, G0', hG⟩ := across2 (a := vs (oP s2 q) (oP s2 p)) (b := vs (oP s2 (24 + t)) (oP s2 (24 + r))) (w := w) (by rw [vd_vs]; omega) (by rw [vd_vs]; omega) hf.2.2 hne
          exact ⟨e, k', e1, k1', hf.2.2, p, q, r, t, G, by rw [f2o.A (by decide)]; exact e2, by rw [f2o.A (by decide)]; exact e3, by rw [f2o.A (by decide)]; exact k2', by rw [f2o.A (by decide)]; exact k3', hpq, by omega, hrt, by omega, G0', by rw [oPe, oPe, oPe, oPe]; exact hG⟩
      refine x_s172 (N := N) (c := c) (k := 4) (s := s3) (by omega) hc w55 (fun j hj => (wW j hj).2) (fun h3 nh smh3 S3 => ?_) c N 0 0 (pI s3 15 0) (by omega) (by omega) (smH_0 s3) (hpS_0 s3 _)
      have nh24 : nh ≤ 24 := by
        have := S3.2.1
        omega
      obtain ⟨h4, smc, mk, e4⟩ := x_s215 (N := N) (n := nh) (k := 4) (x3 := Int32.ofNat u) (s := h3) (by omega) S3.1.1 nh N 0 h3 (by omega) (by omega) ⟨rfl, rfl, rfl, fun _ _ => rfl⟩ (fun t ht => absurd ht (by omega))
      have e4' : mxX7_sum_215 N N (Int32.ofNat u) (Int32.ofNat 4) 0 h3 = mxX7_sum_247 N (Int32.ofNat u) (Int32.ofNat 4) h4 := e4
      rw [e4']
      have hp4 : hp h4 = hp h3 := by
        funext t
        unfold hp
        rw [smc.2.2.1]
      have O4 : hpO h4 nh := by
        refine ⟨by rw [smc.1]; exact S3.1.1, by rw [hp4]; exact S3.1.2.1, by rw [hp4]; exact S3.1.2.2⟩
      have di4 := hpO_di O4
      have diP := hpO_di hO
      -- the heap's points are just those of the sum that are farthest along some way
      have inP : ∀ t, t < nh → ∃ v, v < n ∧ ex (hp h) n v ∧ hp h4 t = hp h v := by
        intro t ht
        obtain ⟨a, a1, a2⟩ := S3.2.2.1 t ht
        obtain ⟨v, v1, v2, v3⟩ := w2 _ (wW a a1).1
        exact ⟨v, v1, v2, by rw [hp4, a2, v3]⟩
      have inH : ∀ v, v < n → ex (hp h) n v → ∃ t, t < nh ∧ hp h4 t = hp h v := by
        intro v hv xv
        obtain ⟨j, j1, j2⟩ := wW2 _ (allW v hv xv)
        obtain ⟨t, t1, t2⟩ := S3.2.2.2 j j1
        exact ⟨t, t1, by rw [hp4, t2, j2]⟩
      have exH : ∀ t, t < nh → ex (hp h4) nh t := by
        intro t ht
        obtain ⟨v, v1, ⟨u', hu'⟩, v3⟩ := inP t ht
        refine ⟨u', fun t' ht' hne => ?_⟩
        obtain ⟨v', v1', -, v3'⟩ := inP t' ht'
        rw [v3, v3']
        refine hu' v' v1' (fun e => di4 t' t ht' ht hne ?_)
        rw [v3, v3', e]
      have same : ∀ m c, exL (hp h4) nh m c → ∃ cR, exL (hp h) n m cR ∧ ∀ j, j < m → hp h4 (c j) = hp h (cR j) := by
        intro m cc hL
        obtain ⟨mP, cP', hLP⟩ := exL_has (hp h) n
        have o1 : inOrd wO (fun j => hp h4 (cc j)) m := fun i j hij hj => by
          have := O4.2.2 (cc i) (cc j) (hL.2.1 i j hij hj) (hL.1 j hj).1
          show 0 < vd wO (vs (hp h4 (cc j)) (hp h4 (cc i)))
          rw [vd_vs]
          omega
        have o2 : inOrd wO (fun j => hp h (cP' j)) mP := fun i j hij hj => by
          have := hO.2.2 (cP' i) (cP' j) (hLP.2.1 i j hij hj) (hLP.1 j hj).1
          show 0 < vd wO (vs (hp h (cP' j)) (hp h (cP' i)))
          rw [vd_vs]
          omega
        obtain ⟨mm, ee⟩ := sort_uniq o1 o2 (fun i hi => by
          obtain ⟨v, v1, v2, v3⟩ := inP (cc i) (hL.1 i hi).1
          obtain ⟨j, j1, j2⟩ := hLP.2.2 v v1 v2
          exact ⟨j, j1, by show hp h4 (cc i) = hp h (cP' j); rw [v3, j2]⟩) (fun j hj => by
          obtain ⟨t, t1, t2⟩ := inH (cP' j) (hLP.1 j hj).1 (hLP.1 j hj).2
          obtain ⟨i, i1, i2⟩ := hL.2.2 t t1 (exH t t1)
          exact ⟨i, i1, by show hp h4 (cc i) = hp h (cP' j); rw [i2, t2]⟩)
        subst mm
        exact ⟨cP', hLP, ee⟩
      refine x_s247 (N := N) (n := nh) (k := 4) (R := hp h) (nR := n) (v := nv o) hN hu (by omega) hI (((f3.tr ((smH_fr smh3).fi (by decide))).tr ((smC_fr smc).fi (by decide)))) O4 (fun p hp0 => .inl ⟨mk p hp0, exH p hp0⟩) (by omega) (fun m cc hL => ?_) hR kd4 same
      obtain ⟨cR, hLR, eRR⟩ := same m cc hL
      have := kd_ex hO hLR kd4
      rcases this with ⟨q1, q2⟩ | ⟨q1, q2, -⟩ | ⟨q1, q2, q3⟩
      · omega
      · omega
      · refine .inr (.inr ⟨q1, rfl, fun uu d hx => ?_⟩)
        obtain ⟨i, hi, hi2⟩ := q3 uu d hx
        refine ⟨i, hi, ?_⟩
        show vd uu (hp h4 (cc i)) ≠ d
        rw [eRR i hi]
        exact hi2
  · rw [if_neg (by rw [k4e]; exact c4)]
    have kdo : kdO (hp o) (nv o) n k := by rw [hpo]; exact kd
    obtain ⟨s3, k', e3, sm3, mk3, ⟨v', kd'⟩, -⟩ := x_hulls (N := N) (g := 0) hN (by omega) (by omega) Oo (fun v hv => absurd (kdO_uniq Oo kdo hv) (by omega))
    have kk := kdO_uniq Oo kdo kd'
    subst kk
    have e3' : mxX7_hulls N 0 o = some (s3, Int32.ofNat k') := e3
    rw [e3', Option.bind_some]
    dsimp only
    have hp3 : hp s3 = hp h := by rw [smP_hp sm3, hpo]
    have O3 := hpO_P sm3 Oo
    refine x_s247 (N := N) (n := n) (k := k') (R := hp h) (nR := n) (v := nv o) hN hu (by omega) hI (fBo.tr ((smP_fr sm3).fi (by decide))) O3 (fun p hp0 => ?_) k4 (fun m c hL => kd_ex O3 hL (by rw [hp3]; exact kd)) hR kd (fun m c hL => ⟨c, by rw [hp3] at hL; exact hL, fun j _ => by rw [hp3]⟩)
    rw [hp3, ← hpo]
    exact mk3 p hp0
theorem x_s43 {N u m0 m1 : Nat} {s : mS} {R : mS × Int32 → Prop} (hN : 600 < N) (hm0 : m0 ≤ 24) (hm1 : m1 ≤ 24) (O0 : owS s 0 m0) (O1 : owS s 1 m1) (hend : ∀ h n, smH s h → hpZ h n 576 (smZ s m0 m1) → Hd ((mxX7_kindOfHeap N h).bind fun o19 => if o19.2 = (4 : Int32) then ((mxX7_looksAll N o19.1).bind fun o22 => if (o22.1 54) = 0 then ((some (pI o22 15 (0 : Int32))).bind fun s25 => mxX7_sum_172 N N (Int32.ofNat u) o19.2 (0 : Int32) s25) else some (o22, (-2 : Int32))) else ((mxX7_hulls N (0 : Int32) o19.1).bind fun o27 => mxX7_sum_247 N (Int32.ofNat u) o19.2 o27.1)) R) : ∀ (q fu i n : Nat) (h : mS), i + q = m0 → q < fu → smH s h → hpZ h n (24 * i) (smK s m0 m1 i 0) → Hd (mxX7_sum_43 N fu (Int32.ofNat u) (Int32.ofNat i) h) R := by
  have o0 : s.2.2.1 46 0 = Int32.ofNat m0 := O0.1
  intro q
  induction q with
  | zero =>
    intro fu i n h hi hfu sm H
    obtain ⟨f', rfl⟩ : ∃ f', fu = f' + 1 := ⟨fu - 1, by omega⟩
    obtain ⟨e1, e2, e3⟩ := smH_same sm
    have him : i = m0 := by omega
    subst him
    rw [mxX7_sum_43, rA_0 (by decide), Option.bind_some, e3, o0, if_pos (Int32.le_refl _)]
    refine hend h n sm (hpZ_Z H (by omega) (fun x => ?_))
    constructor
    · rintro ⟨i', k', h1, h2, h5, -⟩
      exact ⟨i', k', h1, h2, h5⟩
    · rintro ⟨i', k', h1, h2, h5⟩
      exact ⟨i', k', h1, h2, h5, by omega⟩
  | succ q ih =>
    intro fu i n h hi hfu sm H
    obtain ⟨f', rfl⟩ : ∃ f', fu = f' + 1 := ⟨fu - 1, by omega⟩
    obtain ⟨e1, e2, e3⟩ := smH_same sm
    have ne : ¬ (Int32.ofNat m0 ≤ Int32.ofNat i) := by
      rw [i_le (by omega) (by omega)]
      omega
    rw [mxX7_sum_43, rA_0 (by decide), Option.bind_some, e3, o0, if_neg ne]
    exact x_s57 (rec43 := mxX7_sum_43 N f') hN hm0 hm1 O0 O1 (by omega) (fun h n sm H => ih f' (i + 1) n h (by omega) (by omega) sm H) m1 N 0 n h (by omega) (by omega) sm H
/-- sum: refused, or what it leaves -/
theorem x_sum {N : Nat} {a b t : Int32} {s : mS} (hN : 1000000 < N) (hI : INV s) : (mxX7_sum N a b t s = some (s, -1) ∧ ((a < 0 ∨ 8 ≤ a) ∨ (b < 0 ∨ 8 ≤ b) ∨ (t < 0 ∨ 8 ≤ t))) ∨ ∃ i j u m0 m1 k0 k1, i < 8 ∧ a = Int32.ofNat i ∧ j < 8 ∧ b = Int32.ofNat j ∧ u < 8 ∧ t = Int32.ofNat u ∧ s.2.2.1 4 i = Int32.ofNat m0 ∧ okP (cP s i) m0 k0 ∧ s.2.2.1 4 j = Int32.ofNat m1 ∧ okP (cP s j) m1 k1 ∧ Hd (mxX7_sum N a b t s) (smR1 s u (fun x => ∃ p q, p < m0 ∧ q < m1 ∧ x = va (cP s i p) (cP s j q))) := by
  unfold mxX7_sum
  rcases slot_or a with ha | ⟨i, hi, rfl⟩
  · left
    rw [solid_no ha, Option.bind_some]
    exact ⟨rfl, .inl ha⟩
  rw [solid_in hi, Option.bind_some]
  dsimp only
  rw [if_neg (by decide)]
  rcases slot_or b with hb | ⟨j, hj, rfl⟩
  · left
    rw [solid_no hb, Option.bind_some]
    exact ⟨rfl, .inr (.inl hb)⟩
  rw [solid_in hj, Option.bind_some]
  dsimp only
  rw [if_neg (by decide)]
  rcases slot_or t with ht | ⟨u, hu, rfl⟩
  · left
    rw [solid_no ht, Option.bind_some]
    exact ⟨rfl, .inr (.inr ht)⟩
  rw [solid_in hu, Option.bind_some]
  dsimp only
  rw [if_neg (by decide)]
  right
  obtain ⟨s1, F0, E0, m0, k0, e1, f1, a4, a5, ok0, T0, O0, G0, ow0, oo0, -⟩ := x_ownG (N := N) (g := 0) hN hI hi (by omega)
  have I1 := INV_fi hI f1
  obtain ⟨s2, F1, E1, m1, k1, e2, f2, b4, b5, ok1, T1, O1, G1, ow1, oo1, keep⟩ := x_ownG (N := N) (g := 1) hN I1 hj (by omega)
  obtain ⟨T0', O0', G0'⟩ := keep 0 F0 E0 m0 k0 (cP s i) (by omega) (by omega) T0 O0 G0
  have e1' : mxX7_owns N (Int32.ofNat i) 0 s = some s1 := e1
  have e2' : mxX7_owns N (Int32.ofNat j) 1 s1 = some s2 := e2
  have cPe : cP s1 j = cP s j := by
    unfold cP
    rw [f1.2 6 (by omega), f1.2 7 (by omega), f1.2 8 (by omega)]
  rw [cPe] at ok1 G1 ow1
  rw [f1.2 4 (by omega)] at b4
  have m24 := ok0.1
  have m24' := ok1.1
  have oA : ∀ p, p < m0 → oP s2 p = cP s i p := by
    intro p hp0
    rw [oo1 p (by omega)]
    have := ow0 p hp0
    rw [Nat.mul_zero, Nat.zero_add] at this
    exact this
  have oB : ∀ q, q < m1 → oP s2 (24 + q) = cP s j q := by
    intro q hq
    have := ow1 q hq
    rw [Nat.mul_one] at this
    exact this
  refine ⟨i, j, u, m0, m1, k0, k1, hi, rfl, hj, rfl, hu, rfl, a4, ok0, b4, ok1, ?_⟩
  have eZ : (fun x => ∃ p q, p < m0 ∧ q < m1 ∧ x = va (cP s i p) (cP s j q)) = smZ s2 m0 m1 := by
    funext x
    refine propext ⟨fun ⟨p, q, hp0, hq, e⟩ => ⟨p, q, hp0, hq, by rw [e, oA p hp0, oB q hq]⟩, fun ⟨p, q, hp0, hq, e⟩ => ⟨p, q, hp0, hq, by rw [e, oA p hp0, oB q hq]⟩⟩
  have gm0 : gmC s2 0 F0 E0 m0 k0 (fun t => oP s2 t) := by
    obtain ⟨c1, c2, c3⟩ := G0'
    refine ⟨fun h3 n d hf => c1 h3 n d (fc_congr (fun j hj => (oA j hj).symm) hf), c2, fun w a p q x1 x2 x3 x4 x5 => c3 w a p q x1 x2 ?_ ?_ (fun t t1 t2 t3 => ?_)⟩
    · rw [← oA p (by omega)]
      exact x3
    · rw [← oA q x2]
      exact x4
    · rw [← oA t t1]
      exact x5 t t1 t2 t3
  have gm1 : gmC s2 1 F1 E1 m1 k1 (fun t => oP s2 (24 + t)) := by
    obtain ⟨c1, c2, c3⟩ := G1
    refine ⟨fun h3 n d hf => c1 h3 n d (fc_congr (fun j hj => (oB j hj).symm) hf), c2, fun w a p q x1 x2 x3 x4 x5 => c3 w a p q x1 x2 ?_ ?_ (fun t t1 t2 t3 => ?_)⟩
    · rw [← oB p (by omega)]
      exact x3
    · rw [← oB q x2]
      exact x4
    · rw [← oB t t1]
      exact x5 t t1 t2 t3
  rw [e1', Option.bind_some, e2', Option.bind_some, Option.bind_some, eZ]
  exact x_s43 (N := N) (u := u) (s := s2) (by omega) m24 m24' O0' O1 (fun h n sm H => x_send hN hu hI (f1.tr f2) T0' O0' gm0 (okP_congr oA ok0) T1 O1 gm1 (okP_congr oB ok1) sm H) m0 N 0 0 (pI s2 15 0) (by omega) (by omega) (smH_0 s2) ⟨hpO_0 s2, Nat.le_refl 0, fun t ht => absurd ht (by omega), fun x hx => by
    obtain ⟨i', k', -, -, -, h⟩ := hx
    omega⟩
