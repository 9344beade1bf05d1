theorem x_cornerAt {N c : Nat} {s : mS} (hc : c < 48) : ∃ s', mxX7_cornerAt N (Int32.ofNat c) s = some s' ∧ fr [39, 40, 41, 42] s s' ∧ s'.2.1 39 = s.2.2.2 43 c ∧ s'.2.1 40 = s.2.2.2 44 c ∧ s'.2.1 41 = s.2.2.2 45 c ∧ s'.2.1 42 = 1 := by
  unfold mxX7_cornerAt
  rw [rG48 rfl hc, Option.bind_some, rG48 rfl hc, Option.bind_some, rG48 rfl hc, Option.bind_some]
  unfold mxX7_points
  rw [Option.bind_some, Option.bind_some, Option.bind_some, Option.bind_some, Option.bind_some]
  exact ⟨_, rfl, ((((fr_pJ _ _ _).mo (by decide)).tr ((fr_pJ _ _ _).mo (by decide))).tr ((fr_pJ _ _ _).mo (by decide))).tr ((fr_pJ _ _ _).mo (by decide)), rfl, rfl, rfl, rfl⟩
theorem fr_oP {L : List Nat} {s s' : mS} (f : fr L s s') (h1 : ¬ 43 ∈ L) (h2 : ¬ 44 ∈ L) (h3 : ¬ 45 ∈ L) (k : Nat) : oP s' k = oP s k := by
  unfold oP
  rw [f.G h1, f.G h2, f.G h3]
/-- a try that keeps what is found well -/
def trO1 (s s' : mS) : Prop := fr [24, 25, 26, 39, 40, 41, 42, 51, 52, 53] s s' ∧ fnd s' ∧ (s.1 51 = 1 → s'.1 51 = 1)
theorem tr_of {L : List Nat} {s s1 s' : mS} (f1 : fr L s s1) (hL : ∀ k, k ∈ L → k ∈ [24, 25, 26, 39, 40, 41, 42]) (h : fr [51, 52, 53] s1 s' ∧ s'.1 51 = 1 ∧ okQ (s'.2.1 52) (s'.2.1 53)) : trO1 s s' := ⟨(f1.mo (fun k hk => List.mem_append_left [51, 52, 53] (hL k hk))).tr (h.1.mo (by decide)), fnd_1 h.2, fun _ => h.2.1⟩
theorem tr_id {L : List Nat} {s s1 : mS} (hf : fnd s) (f1 : fr L s s1) (hL : ∀ k, k ∈ L → k ∈ [24, 25, 26, 39, 40, 41, 42]) : trO1 s s1 := by
  have f2 : fr [24, 25, 26, 39, 40, 41, 42] s s1 := f1.mo hL
  exact ⟨f2.mo (by decide), fnd_fr hf f2 (by decide) (by decide) (by decide), fun h => by rw [f2.I (by decide)]; exact h⟩
theorem okQ01 : okQ 0 1 := ⟨by decide, by decide, by decide, by decide⟩
theorem x_toCorner {N c k : Nat} {s : mS} (hN : 4611686018427387904 < N) (hc : c < 48) (hk : k < 48) (bc : bd3 (oP s c) 100) (bk : bd3 (oP s k) 100) (hf : fnd s) : ∃ s', mxX7_toCorner N (Int32.ofNat c) (Int32.ofNat k) s = some s' ∧ trO1 s s' ∧ s'.1 51 = 1 := by
  unfold mxX7_toCorner
  rw [rG48 rfl hc, Option.bind_some, rG48 rfl hk, Option.bind_some, rG48 rfl hc, Option.bind_some, rG48 rfl hk, Option.bind_some, rG48 rfl hc, Option.bind_some, rG48 rfl hk, Option.bind_some]
  have k1 := bv_sub (bo1 bc) (bo1 bk) (by decide)
  have k2 := bv_sub (bo2 bc) (bo2 bk) (by decide)
  have k3 := bv_sub (bo3 bc) (bo3 bk) (by decide)
  have sq := bv_vd (x := vs (oP s c) (oP s k)) k1 k2 k3 (by decide)
  have nn : 0 ≤ vd (vs (oP s c) (oP s k)) (vs (oP s c) (oP s k)) := by
    have h1 := sq_nn (vs (oP s c) (oP s k)).1
    have h2 := sq_nn (vs (oP s c) (oP s k)).2.1
    have h3 := sq_nn (vs (oP s c) (oP s k)).2.2
    unfold vd
    omega
  obtain ⟨s', e, h⟩ := x_tries (N := N) hN hf (okQ_of sq (⟨rfl, by decide⟩ : bv 1 1 1) nn (by decide) (by decide) (by decide))
  rw [e, Option.bind_some]
  exact ⟨s', rfl, tr_of fr.rf (L := []) (fun k hk => absurd hk (by simp)) h, h.2.1⟩
theorem vd_nn (x : V3) : 0 ≤ vd x x := by
  have h1 := sq_nn x.1
  have h2 := sq_nn x.2.1
  have h3 := sq_nn x.2.2
  unfold vd
  omega
theorem bv_dot {a b c d e f : Int64} {x y : V3} {A B : Nat} (h1 : bv a x.1 A) (h2 : bv b x.2.1 A) (h3 : bv c x.2.2 A) (h4 : bv d y.1 B) (h5 : bv e y.2.1 B) (h6 : bv f y.2.2 B) (hA : A * B + A * B + A * B < 9223372036854775808) : bv (a * d + b * e + c * f) (vd x y) (A * B + A * B + A * B) := bv_add (bv_add (bv_mul h1 h4 (by omega)) (bv_mul h2 h5 (by omega)) (by omega)) (bv_mul h3 h6 (by omega)) hA
theorem vs_ne {a b : V3} (h : a ≠ b) : vs a b ≠ v0 := by
  intro e
  apply h
  have e1 : a.1 - b.1 = 0 := congrArg (fun v : V3 => v.1) e
  have e2 : a.2.1 - b.2.1 = 0 := congrArg (fun v : V3 => v.2.1) e
  have e3 : a.2.2 - b.2.2 = 0 := congrArg (fun v : V3 => v.2.2) e
  exact v3_ext (by omega) (by omega) (by omega)
theorem x_toEdge {N c p q : Nat} {s : mS} (hN : 4611686018427387904 < N) (hc : c < 48) (hp0 : p < 48) (hq : q < 48) (bc : bd3 (oP s c) 100) (bp : bd3 (oP s p) 100) (bq : bd3 (oP s q) 100) (hne : oP s q ≠ oP s p) (hf : fnd s) : ∃ s', mxX7_toEdge N (Int32.ofNat c) (Int32.ofNat p) (Int32.ofNat q) s = some s' ∧ trO1 s s' := by
  unfold mxX7_toEdge
  rw [rG48 rfl hq, Option.bind_some, rG48 rfl hp0, Option.bind_some, rG48 rfl hq, Option.bind_some, rG48 rfl hp0, Option.bind_some, rG48 rfl hq, Option.bind_some, rG48 rfl hp0, Option.bind_some, rG48 rfl hc, Option.bind_some, Option.bind_some, rG48 rfl hc, Option.bind_some, Option.bind_some, rG48 rfl hc, Option.bind_some, Option.bind_some]
  have a1 := bv_sub (bo1 bq) (bo1 bp) (by decide)
  have a2 := bv_sub (bo2 bq) (bo2 bp) (by decide)
  have a3 := bv_sub (bo3 bq) (bo3 bp) (by decide)
  have b1 := bv_sub (bo1 bc) (bo1 bp) (by decide)
  have b2 := bv_sub (bo2 bc) (bo2 bp) (by decide)
  have b3 := bv_sub (bo3 bc) (bo3 bp) (by decide)
  have l := bv_vd (x := vs (oP s q) (oP s p)) a1 a2 a3 (by decide)
  have bb := bv_vd (x := vs (oP s c) (oP s p)) b1 b2 b3 (by decide)
  have d := bv_dot (x := vs (oP s q) (oP s p)) (y := vs (oP s c) (oP s p)) a1 a2 a3 b1 b2 b3 (by decide)
  have top := bv_sub (bv_mul bb l (by decide)) (bv_mul d d (by decide)) (by decide)
  have nn : 0 ≤ vd (vs (oP s c) (oP s p)) (vs (oP s c) (oP s p)) * vd (vs (oP s q) (oP s p)) (vs (oP s q) (oP s p)) - vd (vs (oP s q) (oP s p)) (vs (oP s c) (oP s p)) * vd (vs (oP s q) (oP s p)) (vs (oP s c) (oP s p)) := by
    have h1 := vx_len (vs (oP s q) (oP s p)) (vs (oP s c) (oP s p))
    have h2 := vd_nn (vx (vs (oP s q) (oP s p)) (vs (oP s c) (oP s p)))
    rw [Int.mul_comm (vd (vs (oP s c) (oP s p)) (vs (oP s c) (oP s p)))]
    omega
  obtain ⟨s', e, h⟩ := x_tries (N := N) hN hf (okQ_of top l nn (vd_pos (vs_ne hne)) (by decide) (by decide))
  split
  · exact ⟨s, rfl, tr_id hf fr.rf (L := []) (fun k hk => absurd hk (by simp))⟩
  · split
    · rw [e, Option.bind_some]
      exact ⟨s', rfl, tr_of fr.rf (L := []) (fun k hk => absurd hk (by simp)) h⟩
    · exact ⟨s, rfl, tr_id hf fr.rf (L := []) (fun k hk => absurd hk (by simp))⟩
theorem x_toFace {N c g F E m f : Nat} {s : mS} (hN : 4611686018427387904 < N) (hc : c < 48) (hg : g < 2) (hT : tbS s g F E m) (hf0 : f < F) (bc : bd3 (oP s c) 100) (hf : fnd s) : ∃ s', mxX7_toFace N (Int32.ofNat c) (Int32.ofNat g) (Int32.ofNat (64 * g + f)) s = some s' ∧ trO1 s s' := by
  unfold mxX7_toFace
  have hF := hT.2.1
  obtain ⟨s1, e1, f1, q1, q2, q3, q4⟩ := x_cornerAt (N := N) (s := s) hc
  have T1 := tbS_fr hT f1 (by decide)
  obtain ⟨v, e2⟩ := x_isOver (N := N) (by omega) hg T1 hf0
  rw [e1, Option.bind_some, e2, Option.bind_some]
  dsimp only
  by_cases z : v = 0
  · rw [if_pos z]
    exact ⟨s1, rfl, tr_id hf f1 (by decide)⟩
  · rw [if_neg z]
    have hk : 64 * g + f < 128 := by omega
    obtain ⟨-, a5, a6, a7⟩ := T1.2.2.2.2.2.1 f hf0
    have p1 : bv (s1.2.1 39) (oP s c).1 100 := by rw [q1]; exact bo1 bc
    have p2 : bv (s1.2.1 40) (oP s c).2.1 100 := by rw [q2]; exact bo2 bc
    have p3 : bv (s1.2.1 41) (oP s c).2.2 100 := by rw [q3]; exact bo3 bc
    have p4 : bv (s1.2.1 42) 1 1 := by rw [q4]; exact ⟨rfl, by decide⟩
    have n1 : bv (s1.2.2.2 28 (64 * g + f)) (fN s1 (64 * g + f)).1 320000 := ⟨rfl, a5.1⟩
    have n2 : bv (s1.2.2.2 29 (64 * g + f)) (fN s1 (64 * g + f)).2.1 320000 := ⟨rfl, a5.2.1⟩
    have n3 : bv (s1.2.2.2 30 (64 * g + f)) (fN s1 (64 * g + f)).2.2 320000 := ⟨rfl, a5.2.2⟩
    have n4 : bv (s1.2.2.2 31 (64 * g + f)) (fD s1 (64 * g + f)) 192000000 := ⟨rfl, a7⟩
    have h := bv_sub (bv_dot n1 n2 n3 p1 p2 p3 (by decide)) (bv_mul n4 p4 (by decide)) (by decide)
    have len := bv_vd n1 n2 n3 (by decide)
    unfold mxX7_overFace
    rw [rG128 rfl hk, Option.bind_some, rG128 rfl hk, Option.bind_some, rG128 rfl hk, Option.bind_some, rG128 rfl hk, Option.bind_some, Option.bind_some]
    dsimp only
    rw [rG128 rfl hk, Option.bind_some, Option.bind_some, rG128 rfl hk, Option.bind_some, Option.bind_some, rG128 rfl hk, Option.bind_some, Option.bind_some]
    obtain ⟨s', e3, r⟩ := x_tries (N := N) hN (fnd_fr hf f1 (by decide) (by decide) (by decide)) (okQ_of (bv_mul h h (by decide)) len (sq_nn _) (vd_pos a6) (by decide) (by decide))
    rw [e3, Option.bind_some]
    exact ⟨s', rfl, tr_of f1 (by decide) r⟩
theorem x_toEdges {N p q r t : Nat} {s : mS} (hN : 4611686018427387904 < N) (hp0 : p < 48) (hq : q < 48) (hr : r < 48) (ht : t < 48) (bp : bd3 (oP s p) 100) (bq : bd3 (oP s q) 100) (b_r : bd3 (oP s r) 100) (bt : bd3 (oP s t) 100) (hf : fnd s) : ∃ s', mxX7_toEdges N (Int32.ofNat p) (Int32.ofNat q) (Int32.ofNat r) (Int32.ofNat t) s = some s' ∧ trO1 s s' := by
  unfold mxX7_toEdges
  rw [rG48 rfl hq, Option.bind_some, rG48 rfl hp0, Option.bind_some, rG48 rfl hq, Option.bind_some, rG48 rfl hp0, Option.bind_some, rG48 rfl hq, Option.bind_some, rG48 rfl hp0, Option.bind_some, rG48 rfl ht, Option.bind_some, rG48 rfl hr, Option.bind_some, rG48 rfl ht, Option.bind_some, rG48 rfl hr, Option.bind_some, rG48 rfl ht, Option.bind_some, rG48 rfl hr, Option.bind_some, Option.bind_some, Option.bind_some, Option.bind_some, Option.bind_some, Option.bind_some, Option.bind_some]
  have a1 := bv_sub (bo1 bq) (bo1 bp) (by decide)
  have a2 := bv_sub (bo2 bq) (bo2 bp) (by decide)
  have a3 := bv_sub (bo3 bq) (bo3 bp) (by decide)
  have c1 := bv_sub (bo1 bt) (bo1 b_r) (by decide)
  have c2 := bv_sub (bo2 bt) (bo2 b_r) (by decide)
  have c3 := bv_sub (bo3 bt) (bo3 b_r) (by decide)
  have w1 := bv_sub (bo1 b_r) (bo1 bp) (by decide)
  have w2 := bv_sub (bo2 b_r) (bo2 bp) (by decide)
  have w3 := bv_sub (bo3 b_r) (bo3 bp) (by decide)
  obtain ⟨s1, e1, sm1, n1, bn1⟩ := x_crosses (N := N) (x := vs (oP s q) (oP s p)) (y := vs (oP s t) (oP s r)) (s := s) a1 a2 a3 c1 c2 c3 (by decide)
  have f1 := smN_fr sm1
  rw [e1, Option.bind_some]
  by_cases z : nv s1 = v0
  · rw [(x_flat (N := N)).1 z, Option.bind_some]
    dsimp only
    rw [if_neg (by decide)]
    exact ⟨s1, rfl, tr_id hf f1 (by decide)⟩
  · rw [(x_flat (N := N)).2 z, Option.bind_some]
    dsimp only
    rw [if_pos rfl]
    have h := bv_dot (x := vs (oP s r) (oP s p)) (y := nv s1) w1 w2 w3 (nb1 bn1) (nb2 bn1) (nb3 bn1) (by decide)
    have len := bv_vd (x := nv s1) (nb1 bn1) (nb2 bn1) (nb3 bn1) (by decide)
    obtain ⟨s', e3, r3⟩ := x_tries (N := N) hN (fnd_fr hf f1 (by decide) (by decide) (by decide)) (okQ_of (bv_mul h h (by decide)) len (sq_nn _) (vd_pos z) (by decide) (by decide))
    split
    · exact ⟨s1, rfl, tr_id hf f1 (by decide)⟩
    · split
      · exact ⟨s1, rfl, tr_id hf f1 (by decide)⟩
      · split
        · exact ⟨s1, rfl, tr_id hf f1 (by decide)⟩
        · split
          · rw [e3, Option.bind_some]
            exact ⟨s', rfl, tr_of f1 (by decide) r3⟩
          · exact ⟨s1, rfl, tr_id hf f1 (by decide)⟩
theorem x_through {N p q g F E m f : Nat} {s : mS} (hN : 4611686018427387904 < N) (hp0 : p < 48) (hq : q < 48) (hg : g < 2) (hT : tbS s g F E m) (hf0 : f < F) (hf : fnd s) : ∃ s', mxX7_through N (Int32.ofNat p) (Int32.ofNat q) (Int32.ofNat g) (Int32.ofNat (64 * g + f)) s = some s' ∧ trO1 s s' := by
  unfold mxX7_through
  have hF := hT.2.1
  obtain ⟨s1, e1, f1, -⟩ := x_cornerAt (N := N) (s := s) hp0
  obtain ⟨v1, o1⟩ := x_over (N := N) (f := 64 * g + f) (s := s1) (by omega)
  obtain ⟨s2, e2, f2, -⟩ := x_cornerAt (N := N) (s := s1) hq
  obtain ⟨v2, o2⟩ := x_over (N := N) (f := 64 * g + f) (s := s2) (by omega)
  have f12 : fr [39, 40, 41, 42] s s2 := f1.tr f2
  have T2 := tbS_fr hT f12 (by decide)
  rw [e1, Option.bind_some, o1, Option.bind_some]
  dsimp only
  rw [e2, Option.bind_some, o2, Option.bind_some]
  dsimp only
  have no : ∃ s', some s2 = some s' ∧ trO1 s s' := ⟨s2, rfl, tr_id hf f12 (by decide)⟩
  have t87 : ∀ a b, ∃ s', mxX7_through_87 N (Int32.ofNat p) (Int32.ofNat q) (Int32.ofNat g) (Int32.ofNat (64 * g + f)) a b s2 = some s' ∧ trO1 s s' := by
    intro a b
    unfold mxX7_through_87
    rw [rG48 rfl hp0, Option.bind_some, rG48 rfl hq, Option.bind_some, rG48 rfl hp0, Option.bind_some, rG48 rfl hq, Option.bind_some, rG48 rfl hp0, Option.bind_some, rG48 rfl hq, Option.bind_some]
    obtain ⟨s3, e3, f3⟩ := x_points N (s2.2.2.2 43 p * b + s2.2.2.2 43 q * a) (s2.2.2.2 44 p * b + s2.2.2.2 44 q * a) (s2.2.2.2 45 p * b + s2.2.2.2 45 q * a) (a + b) s2
    have f13 : fr [39, 40, 41, 42] s s3 := f12.tr f3
    obtain ⟨v3, o3⟩ := x_isOver (N := N) (by omega) hg (tbS_fr hT f13 (by decide)) hf0
    rw [e3, Option.bind_some, o3, Option.bind_some]
    dsimp only
    split
    · exact ⟨s3, rfl, tr_id hf f13 (by decide)⟩
    · obtain ⟨s', e4, r4⟩ := x_tries (N := N) hN (fnd_fr hf f13 (by decide) (by decide) (by decide)) okQ01
      rw [e4, Option.bind_some]
      exact ⟨s', rfl, tr_of f13 (by decide) r4⟩
  have t55 : ∀ a b, ∃ s', mxX7_through_55 N (Int32.ofNat p) (Int32.ofNat q) (Int32.ofNat g) (Int32.ofNat (64 * g + f)) a b s2 = some s' ∧ trO1 s s' := by
    intro a b
    unfold mxX7_through_55 mxX7_through_70
    split
    · split
      · exact t87 _ _
      · exact t87 _ _
    · split
      · exact t87 _ _
      · exact t87 _ _
  have t40 : ∀ a b, ∃ s', mxX7_through_40 N (Int32.ofNat p) (Int32.ofNat q) (Int32.ofNat g) (Int32.ofNat (64 * g + f)) a b s2 = some s' ∧ trO1 s s' := by
    intro a b
    unfold mxX7_through_40
    split
    · exact t55 _ _
    · split
      · exact t55 _ _
      · exact no
  split
  · exact t40 _ _
  · split
    · exact no
    · exact t40 _ _
/-- what stands in against -/
def agI (s0 : mS) (z : Prop) (s : mS) : Prop := fr [24, 25, 26, 39, 40, 41, 42, 51, 52, 53] s0 s ∧ fnd s ∧ (z → s.1 51 = 1)
theorem agI_tr {s0 s s' : mS} {z : Prop} (h : agI s0 z s) (t : trO1 s s') : agI s0 z s' := ⟨h.1.tr t.1, t.2.1, fun q => t.2.2 (h.2.2 q)⟩
theorem agI_mo {s0 s : mS} {z z' : Prop} (h : agI s0 z s) (hz : z' → z) : agI s0 z' s := ⟨h.1, h.2.1, fun q => h.2.2 (hz q)⟩
/-- two tables that are well -/
def two (s : mS) (g h F E m F' E' m' : Nat) : Prop := g < 2 ∧ h < 2 ∧ tbS s g F E m ∧ owS s g m ∧ tbS s h F' E' m' ∧ owS s h m'
theorem two_fr {s0 s : mS} {g h F E m F' E' m' : Nat} {z : Prop} (H : two s0 g h F E m F' E' m') (I : agI s0 z s) : two s g h F E m F' E' m' := ⟨H.1, H.2.1, tbS_fr H.2.2.1 I.1 (by decide), owS_fr H.2.2.2.1 I.1 (by decide), tbS_fr H.2.2.2.2.1 I.1 (by decide), owS_fr H.2.2.2.2.2 I.1 (by decide)⟩
theorem x_a147 {N g h F E m F' E' m' c : Nat} {x2 : Int32} {z : Prop} {R : mS → Prop} {rec10 : Int32 → Int32 → Int32 → Int32 → mS → Option mS} {s0 : mS} (hN : 4611686018427387904 < N) (H : two s0 g h F E m F' E' m') (hc : c < m) (hrec : ∀ s, agI s0 z s → Hd (rec10 (Int32.ofNat g) x2 (Int32.ofNat h) (Int32.ofNat (24 * g + c + 1)) s) R) : ∀ (q fu f : Nat) (s : mS), f + q = F' → q < fu → agI s0 z s → Hd (mxX7_against_147 N rec10 fu (Int32.ofNat g) x2 (Int32.ofNat h) (Int32.ofNat (24 * g + c)) (Int32.ofNat (64 * h + f)) s) R := by
  have hF := H.2.2.2.2.1.2.1
  have hg := H.1
  have hh := H.2.1
  have hm := H.2.2.1.2.2.2.2.1
  intro q
  induction q with
  | zero =>
    intro fu f s hf hfu I
    obtain ⟨f', rfl⟩ : ∃ f', fu = f' + 1 := ⟨fu - 1, by omega⟩
    have hfF : f = F' := by omega
    subst hfF
    rw [mxX7_against_147, rA2 rfl hh, Option.bind_some, (two_fr H I).2.2.2.2.1.1, i_64, if_pos (Int32.le_refl _), i_s]
    exact hrec s I
  | succ q ih =>
    intro fu f s hf hfu I
    obtain ⟨f', rfl⟩ : ∃ f', fu = f' + 1 := ⟨fu - 1, by omega⟩
    have ne : ¬ (Int32.ofNat (64 * h + F') ≤ Int32.ofNat (64 * h + f)) := by
      rw [i_le (by omega) (by omega)]
      omega
    have W := two_fr H I
    obtain ⟨s1, e1, t1⟩ := x_toFace (N := N) (c := 24 * g + c) (f := f) hN (by omega) hh W.2.2.2.2.1 (by omega) (W.2.2.2.1.2.1 c hc) I.2.1
    rw [mxX7_against_147, rA2 rfl hh, Option.bind_some, W.2.2.2.2.1.1, i_64, if_neg ne, e1, Option.bind_some, i_s]
    exact ih f' (f + 1) s1 (by omega) (by omega) (agI_tr I t1)
theorem x_a89 {N g h F E m F' E' m' c : Nat} {x2 : Int32} {z : Prop} {R : mS → Prop} {rec10 : Int32 → Int32 → Int32 → Int32 → mS → Option mS} {s0 : mS} (hN : 4611686018427387904 < N) (H : two s0 g h F E m F' E' m') (hc : c < m) (hrec : ∀ s, agI s0 z s → Hd (rec10 (Int32.ofNat g) x2 (Int32.ofNat h) (Int32.ofNat (24 * g + c + 1)) s) R) : ∀ (q fu e : Nat) (s : mS), e + q = E' → q < fu → agI s0 z s → Hd (mxX7_against_89 N rec10 fu (Int32.ofNat g) x2 (Int32.ofNat h) (Int32.ofNat (24 * g + c)) (Int32.ofNat (80 * h + e)) s) R := by
  have hF := H.2.2.2.2.1.2.1
  have hE := H.2.2.2.2.1.2.2.2.1
  have hg := H.1
  have hh := H.2.1
  have hm := H.2.2.1.2.2.2.2.1
  have hm' := H.2.2.2.2.1.2.2.2.2.1
  intro q
  induction q with
  | zero =>
    intro fu e s he hfu I
    obtain ⟨f', rfl⟩ : ∃ f', fu = f' + 1 := ⟨fu - 1, by omega⟩
    have heE : e = E' := by omega
    subst heE
    rw [mxX7_against_89, rA2 rfl hh, Option.bind_some, (two_fr H I).2.2.2.2.1.2.2.1, i_80, if_pos (Int32.le_refl _), i_64']
    have := x_a147 hN H hc hrec F' N 0 s (by omega) (by omega) I
    rw [Nat.add_zero] at this
    exact this
  | succ q ih =>
    intro fu e s he hfu I
    obtain ⟨f', rfl⟩ : ∃ f', fu = f' + 1 := ⟨fu - 1, by omega⟩
    have ne : ¬ (Int32.ofNat (80 * h + E') ≤ Int32.ofNat (80 * h + e)) := by
      rw [i_le (by omega) (by omega)]
      omega
    have W := two_fr H I
    obtain ⟨p, p', a1, a2, a3, a4⟩ := W.2.2.2.2.1.2.2.2.2.2.2 e (by omega)
    obtain ⟨s1, e1, t1⟩ := x_toEdge (N := N) (c := 24 * g + c) (p := 24 * h + p) (q := 24 * h + p') (s := s) hN (by omega) (by omega) (by omega) (W.2.2.2.1.2.1 c hc) (W.2.2.2.2.2.2.1 p (by omega)) (W.2.2.2.2.2.2.1 p' a4) (fun q => W.2.2.2.2.2.2.2 p p' a3 a4 q.symm) I.2.1
    rw [mxX7_against_89, rA2 rfl hh, Option.bind_some, W.2.2.2.2.1.2.2.1, i_80, if_neg ne, rA160 rfl (by omega), Option.bind_some, a1, rA160 rfl (by omega), Option.bind_some, a2, i_24, i_24, e1, Option.bind_some, i_s]
    exact ih f' (e + 1) s1 (by omega) (by omega) (agI_tr I t1)
theorem x_a53 {N g h F E m F' E' m' c : Nat} {x2 : Int32} {z : Prop} {R : mS → Prop} {rec10 : Int32 → Int32 → Int32 → Int32 → mS → Option mS} {s0 : mS} (hN : 4611686018427387904 < N) (H : two s0 g h F E m F' E' m') (hc : c < m) (hrec : ∀ s, agI s0 (z ∨ 0 < m') s → Hd (rec10 (Int32.ofNat g) x2 (Int32.ofNat h) (Int32.ofNat (24 * g + c + 1)) s) R) : ∀ (q fu k : Nat) (s : mS), k + q = m' → q < fu → agI s0 (z ∨ 0 < k) s → Hd (mxX7_against_53 N rec10 fu (Int32.ofNat g) x2 (Int32.ofNat h) (Int32.ofNat (24 * g + c)) (Int32.ofNat (24 * h + k)) s) R := by
  have hE := H.2.2.2.2.1.2.2.2.1
  have hg := H.1
  have hh := H.2.1
  have hm := H.2.2.1.2.2.2.2.1
  have hm' := H.2.2.2.2.1.2.2.2.2.1
  intro q
  induction q with
  | zero =>
    intro fu k s hk hfu I
    obtain ⟨f', rfl⟩ : ∃ f', fu = f' + 1 := ⟨fu - 1, by omega⟩
    have hkm : k = m' := by omega
    subst hkm
    rw [mxX7_against_53, rA2 rfl hh, Option.bind_some, (two_fr H I).2.2.2.2.2.1, i_24, if_pos (Int32.le_refl _), i_c80]
    have := x_a89 hN H hc hrec E' N 0 s (by omega) (by omega) I
    rw [Nat.add_zero] at this
    exact this
  | succ q ih =>
    intro fu k s hk hfu I
    obtain ⟨f', rfl⟩ : ∃ f', fu = f' + 1 := ⟨fu - 1, by omega⟩
    have ne : ¬ (Int32.ofNat (24 * h + m') ≤ Int32.ofNat (24 * h + k)) := by
      rw [i_le (by omega) (by omega)]
      omega
    have W := two_fr H I
    obtain ⟨s1, e1, t1, h51⟩ := x_toCorner (N := N) (c := 24 * g + c) (k := 24 * h + k) (s := s) hN (by omega) (by omega) (W.2.2.2.1.2.1 c hc) (W.2.2.2.2.2.2.1 k (by omega)) I.2.1
    rw [mxX7_against_53, rA2 rfl hh, Option.bind_some, W.2.2.2.2.2.1, i_24, if_neg ne, e1, Option.bind_some, i_s]
    exact ih f' (k + 1) s1 (by omega) (by omega) ⟨I.1.tr t1.1, t1.2.1, fun _ => h51⟩
theorem x_a279 {N g h F E m F' E' m' e0 p p' : Nat} {z : Prop} {R : mS → Prop} {rec190 : Int32 → Int32 → Int32 → mS → Option mS} {s0 : mS} (hN : 4611686018427387904 < N) (H : two s0 g h F E m F' E' m') (hp0 : p < m) (hp1 : p' < m) (hrec : ∀ s, agI s0 z s → Hd (rec190 (Int32.ofNat g) (Int32.ofNat h) (Int32.ofNat (80 * g + e0 + 1)) s) R) : ∀ (q fu e : Nat) (s : mS), e + q = E' → q < fu → agI s0 z s → Hd (mxX7_against_279 N rec190 fu (Int32.ofNat g) (Int32.ofNat h) (Int32.ofNat (80 * g + e0)) (Int32.ofNat (24 * g + p)) (Int32.ofNat (24 * g + p')) (Int32.ofNat (80 * h + e)) s) R := by
  have hE := H.2.2.2.2.1.2.2.2.1
  have hg := H.1
  have hh := H.2.1
  have hm := H.2.2.1.2.2.2.2.1
  have hm' := H.2.2.2.2.1.2.2.2.2.1
  intro q
  induction q with
  | zero =>
    intro fu e s he hfu I
    obtain ⟨f', rfl⟩ : ∃ f', fu = f' + 1 := ⟨fu - 1, by omega⟩
    have heE : e = E' := by omega
    subst heE
    rw [mxX7_against_279, rA2 rfl hh, Option.bind_some, (two_fr H I).2.2.2.2.1.2.2.1, i_80, if_pos (Int32.le_refl _), i_s]
    exact hrec s I
  | succ q ih =>
    intro fu e s he hfu I
    obtain ⟨f', rfl⟩ : ∃ f', fu = f' + 1 := ⟨fu - 1, by omega⟩
    have ne : ¬ (Int32.ofNat (80 * h + E') ≤ Int32.ofNat (80 * h + e)) := by
      rw [i_le (by omega) (by omega)]
      omega
    have W := two_fr H I
    obtain ⟨u, u', a1, a2, a3, a4⟩ := W.2.2.2.2.1.2.2.2.2.2.2 e (by omega)
    obtain ⟨s1, e1, t1⟩ := x_toEdges (N := N) (p := 24 * g + p) (q := 24 * g + p') (r := 24 * h + u) (t := 24 * h + u') (s := s) hN (by omega) (by omega) (by omega) (by omega) (W.2.2.2.1.2.1 p hp0) (W.2.2.2.1.2.1 p' hp1) (W.2.2.2.2.2.2.1 u (by omega)) (W.2.2.2.2.2.2.1 u' a4) I.2.1
    rw [mxX7_against_279, rA2 rfl hh, Option.bind_some, W.2.2.2.2.1.2.2.1, i_80, if_neg ne, rA160 rfl (by omega), Option.bind_some, a1, rA160 rfl (by omega), Option.bind_some, a2, i_24, i_24, e1, Option.bind_some, i_s]
    exact ih f' (e + 1) s1 (by omega) (by omega) (agI_tr I t1)
theorem x_a240 {N g h F E m F' E' m' e0 p p' : Nat} {z : Prop} {R : mS → Prop} {rec190 : Int32 → Int32 → Int32 → mS → Option mS} {s0 : mS} (hN : 4611686018427387904 < N) (H : two s0 g h F E m F' E' m') (hp0 : p < m) (hp1 : p' < m) (hrec : ∀ s, agI s0 z s → Hd (rec190 (Int32.ofNat g) (Int32.ofNat h) (Int32.ofNat (80 * g + e0 + 1)) s) R) : ∀ (q fu f : Nat) (s : mS), f + q = F' → q < fu → agI s0 z s → Hd (mxX7_against_240 N rec190 fu (Int32.ofNat g) (Int32.ofNat h) (Int32.ofNat (80 * g + e0)) (Int32.ofNat (24 * g + p)) (Int32.ofNat (24 * g + p')) (Int32.ofNat (64 * h + f)) s) R := by
  have hF := H.2.2.2.2.1.2.1
  have hE := H.2.2.2.2.1.2.2.2.1
  have hg := H.1
  have hh := H.2.1
  have hm := H.2.2.1.2.2.2.2.1
  intro q
  induction q with
  | zero =>
    intro fu f s hf hfu I
    obtain ⟨f', rfl⟩ : ∃ f', fu = f' + 1 := ⟨fu - 1, by omega⟩
    have hfF : f = F' := by omega
    subst hfF
    rw [mxX7_against_240, rA2 rfl hh, Option.bind_some, (two_fr H I).2.2.2.2.1.1, i_64, if_pos (Int32.le_refl _), i_c80]
    have := x_a279 hN H hp0 hp1 hrec E' N 0 s (by omega) (by omega) I
    rw [Nat.add_zero] at this
    exact this
  | succ q ih =>
    intro fu f s hf hfu I
    obtain ⟨f', rfl⟩ : ∃ f', fu = f' + 1 := ⟨fu - 1, by omega⟩
    have ne : ¬ (Int32.ofNat (64 * h + F') ≤ Int32.ofNat (64 * h + f)) := by
      rw [i_le (by omega) (by omega)]
      omega
    have W := two_fr H I
    obtain ⟨s1, e1, t1⟩ := x_through (N := N) (p := 24 * g + p) (q := 24 * g + p') (f := f) hN (by omega) (by omega) hh W.2.2.2.2.1 (by omega) I.2.1
    rw [mxX7_against_240, rA2 rfl hh, Option.bind_some, W.2.2.2.2.1.1, i_64, if_neg ne, e1, Option.bind_some, i_s]
    exact ih f' (f + 1) s1 (by omega) (by omega) (agI_tr I t1)
theorem x_a190 {N g h F E m F' E' m' : Nat} {z : Prop} {s0 : mS} (hN : 4611686018427387904 < N) (H : two s0 g h F E m F' E' m') : ∀ (q fu e : Nat) (s : mS), e + q = E → q < fu → agI s0 z s → Hd (mxX7_against_190 N fu (Int32.ofNat g) (Int32.ofNat h) (Int32.ofNat (80 * g + e)) s) (agI s0 z) := by
  have hF := H.2.2.2.2.1.2.1
  have hE := H.2.2.1.2.2.2.1
  have hg := H.1
  have hh := H.2.1
  have hm := H.2.2.1.2.2.2.2.1
  intro q
  induction q with
  | zero =>
    intro fu e s he hfu I
    obtain ⟨f', rfl⟩ : ∃ f', fu = f' + 1 := ⟨fu - 1, by omega⟩
    have heE : e = E := by omega
    subst heE
    rw [mxX7_against_190, rA2 rfl hg, Option.bind_some, (two_fr H I).2.2.1.2.2.1, i_80, if_pos (Int32.le_refl _)]
    exact Hd.ret I
  | succ q ih =>
    intro fu e s he hfu I
    obtain ⟨f', rfl⟩ : ∃ f', fu = f' + 1 := ⟨fu - 1, by omega⟩
    have ne : ¬ (Int32.ofNat (80 * g + E) ≤ Int32.ofNat (80 * g + e)) := by
      rw [i_le (by omega) (by omega)]
      omega
    have W := two_fr H I
    obtain ⟨p, p', a1, a2, a3, a4⟩ := W.2.2.1.2.2.2.2.2.2 e (by omega)
    rw [mxX7_against_190, rA2 rfl hg, Option.bind_some, W.2.2.1.2.2.1, i_80, if_neg ne, rA160 rfl (by omega), Option.bind_some, a1, rA160 rfl (by omega), Option.bind_some, a2, i_24, i_24, i_64']
    have := x_a240 (N := N) (e0 := e) (p := p) (p' := p') (R := agI s0 z) (rec190 := mxX7_against_190 N f') hN H (by omega) a4 (fun s I => ih f' (e + 1) s (by omega) (by omega) I) F' N 0 s (by omega) (by omega) I
    rw [Nat.add_zero] at this
    exact this
theorem x_a10 {N g h F E m F' E' m' k : Nat} {z : Prop} {s0 : mS} (hN : 4611686018427387904 < N) (H : two s0 g h F E m F' E' m') (hk : k ≤ 4) (h3 : k = 3 → 1 ≤ F') (hm1 : 1 ≤ m') : ∀ (q fu c : Nat) (s : mS), c + q = m → q < fu → agI s0 (z ∨ 0 < c) s → Hd (mxX7_against_10 N fu (Int32.ofNat g) (Int32.ofNat k) (Int32.ofNat h) (Int32.ofNat (24 * g + c)) s) (agI s0 (z ∨ 0 < m)) := by
  have hF := H.2.2.2.2.1.2.1
  have hE := H.2.2.1.2.2.2.1
  have hg := H.1
  have hh := H.2.1
  have hm := H.2.2.1.2.2.2.2.1
  have hm' := H.2.2.2.2.1.2.2.2.2.1
  intro q
  induction q with
  | zero =>
    intro fu c s hc hfu I
    obtain ⟨f', rfl⟩ : ∃ f', fu = f' + 1 := ⟨fu - 1, by omega⟩
    have hcm : c = m := by omega
    subst hcm
    rw [mxX7_against_10, rA2 rfl hg, Option.bind_some, (two_fr H I).2.2.2.1.1, i_24, if_pos (Int32.le_refl _), i_c80]
    have := x_a190 (N := N) hN H E N 0 s (by omega) (by omega) I
    rw [Nat.add_zero] at this
    exact this
  | succ q ih =>
    intro fu c s hc hfu I
    obtain ⟨f', rfl⟩ : ∃ f', fu = f' + 1 := ⟨fu - 1, by omega⟩
    have ne : ¬ (Int32.ofNat (24 * g + m) ≤ Int32.ofNat (24 * g + c)) := by
      rw [i_le (by omega) (by omega)]
      omega
    have W := two_fr H I
    obtain ⟨s1, e1, f1, -⟩ := x_cornerAt (N := N) (c := 24 * g + c) (s := s) (by omega)
    have I1 : agI s0 (z ∨ 0 < c) s1 := agI_tr I (tr_id I.2.1 f1 (by decide))
    obtain ⟨v, e2⟩ := x_where (N := N) (g := h) (k := k) (s := s1) (by omega) hh (two_fr H I1).2.2.2.2.1 hk h3
    rw [mxX7_against_10, rA2 rfl hg, Option.bind_some, W.2.2.2.1.1, i_24, if_neg ne, e1, Option.bind_some, e2, Option.bind_some]
    dsimp only
    have go : ∀ s, agI s0 (z ∨ 0 < c) s → Hd (mxX7_against_47 N (mxX7_against_10 N f') (Int32.ofNat g) (Int32.ofNat k) (Int32.ofNat h) (Int32.ofNat (24 * g + c)) s) (agI s0 (z ∨ 0 < m)) := by
      intro s I
      unfold mxX7_against_47
      rw [i_c24]
      have := x_a53 (N := N) (x2 := Int32.ofNat k) (z := z ∨ 0 < c) (R := agI s0 (z ∨ 0 < m)) (rec10 := mxX7_against_10 N f') hN H (by omega : c < m) (fun s I => ih f' (c + 1) s (by omega) (by omega) (agI_mo I (fun _ => .inr (by omega)))) m' N 0 s (by omega) (by omega) (agI_mo I (fun q => q.elim id (fun q => absurd q (by omega))))
      rw [Nat.add_zero] at this
      exact this
    split
    · exact go s1 I1
    · obtain ⟨s2, e3, r3⟩ := x_tries (N := N) hN I1.2.1 okQ01
      rw [e3, Option.bind_some]
      exact go s2 (agI_tr I1 (tr_of fr.rf (L := []) (fun k hk => absurd hk (by simp)) r3))
theorem x_against {N g h F E m F' E' m' k : Nat} {z : Prop} {s : mS} (hN : 4611686018427387904 < N) (H : two s g h F E m F' E' m') (hgh : h = 1 - g) (hk : k ≤ 4) (h3 : k = 3 → 1 ≤ F') (hm1 : 1 ≤ m') (hf : fnd s) (hz : z → s.1 51 = 1) : Hd (mxX7_against N (Int32.ofNat g) (Int32.ofNat k) s) (agI s (z ∨ 0 < m)) := by
  unfold mxX7_against
  have hg := H.1
  have e : (1 : Int32) - Int32.ofNat g = Int32.ofNat h := by
    rcases (by omega : g = 0 ∨ g = 1) with rfl | rfl
    · rw [hgh]
      rfl
    · rw [hgh]
      rfl
  rw [e, i_c24]
  have := x_a10 (N := N) (z := z) hN H hk h3 hm1 m N 0 s (by omega) (by have := H.2.2.1.2.2.2.2.1; omega) ⟨fr.rf, hf, fun q => q.elim hz (fun q => absurd q (by omega))⟩
  rw [Nat.add_zero] at this
  exact this
theorem okP_m1 {P : Nat → V3} {m k : Nat} (ok : okP P m k) (h : k ≠ 0) : 1 ≤ m := by
  rcases ok.2.2.2.2 with ⟨q1, q2⟩ | ⟨q1, q2, -⟩ | ⟨q1, q2, -⟩ <;> omega
theorem x_nears {N i t : Nat} {s : mS} (hN : 4611686018427387904 < N) (hI : INV s) (hi : i < 8) (ht : t < 8) (h1 : s.2.2.1 5 i ≠ 0) (h2 : s.2.2.1 5 t ≠ 0) : Hd (mxX7_nears N (Int32.ofNat i) (Int32.ofNat t) s) (fun s' => fi s s' ∧ okQ (s'.2.1 52) (s'.2.1 53)) := by
  unfold mxX7_nears
  obtain ⟨s1, F, E, m, k, e1, f1, g1, a4, a5, ok1, T1, O1, F3, -⟩ := x_ownS (N := N) (g := 0) (by omega) hI hi (by omega)
  have I1 := INV_fi hI f1
  obtain ⟨s2, F', E', m', k', e2, f2, g2, b4, b5, ok2, T2, O2, F3', -, keep⟩ := x_ownS (N := N) (g := 1) (by omega) I1 ht (by omega)
  obtain ⟨T1', O1'⟩ := keep 0 F E m (by omega) (by omega) T1 O1
  have e1' : mxX7_owns N (Int32.ofNat i) 0 s = some s1 := e1
  have e2' : mxX7_owns N (Int32.ofNat t) 1 s1 = some s2 := e2
  have k1 : k ≠ 0 := fun q => by
    rw [a5, q] at h1
    exact h1 rfl
  have k2 : k' ≠ 0 := fun q => by
    rw [f1.2 5 (by omega)] at b5
    rw [b5, q] at h2
    exact h2 rfl
  have m1 := okP_m1 ok1 k1
  have m2 := okP_m1 ok2 k2
  rw [e1', Option.bind_some, e2', Option.bind_some, Option.bind_some, rA8 rfl ht, Option.bind_some]
  have f0 : fr [51] s2 (pI s2 51 0) := fr_pI _ _ _
  have H : two (pI s2 51 0) 0 1 F E m F' E' m' := ⟨by omega, by omega, tbS_fr T1' f0 (by decide), owS_fr O1' f0 (by decide), tbS_fr T2 f0 (by decide), owS_fr O2 f0 (by decide)⟩
  have v5 : (pI s2 51 0).2.2.1 5 t = Int32.ofNat k' := by
    rw [f0.A (by decide), f2.2 5 (by omega)]
    exact b5
  rw [v5]
  refine (x_against (N := N) (z := False) hN H rfl (okP_k ok2) F3' m2 (.inl rfl) (fun q => q.elim)).bnd (fun s3 I3 => ?_)
  rw [rA8 rfl hi, Option.bind_some]
  have v5' : s3.2.2.1 5 i = Int32.ofNat k := by
    rw [I3.1.A (by decide), f0.A (by decide), f2.2 5 (by omega), f1.2 5 (by omega)]
    exact a5
  rw [v5']
  have W := two_fr H I3
  have H' : two s3 1 0 F' E' m' F E m := ⟨W.2.1, W.1, W.2.2.2.2.1, W.2.2.2.2.2, W.2.2.1, W.2.2.2.1⟩
  have h51 : s3.1 51 = 1 := I3.2.2 (.inr (by omega))
  refine (x_against (N := N) (z := True) hN H' rfl (okP_k ok1) F3 m1 I3.2.1 (fun _ => h51)).bnd (fun s4 I4 => ?_)
  refine Hd.ret ⟨((f1.tr f2).tr (f0.fi (by decide))).tr ((I3.1.fi (by decide)).tr (I4.1.fi (by decide))), ?_⟩
  rcases I4.2.1 with q | q
  · have := I4.2.2 (.inl trivial)
    rw [this] at q
    exact absurd q (by decide)
  · exact q.2
theorem x_apart {N : Nat} {a b : Int32} {s : mS} (hN : 4611686018427387904 < N) (hI : INV s) : Hd (mxX7_apart N a b s) (fun o => fi s o.1) := by
  unfold mxX7_apart
  rcases slot_or a with ha | ⟨i, hi, rfl⟩
  · rw [solid_no ha, Option.bind_some]
    exact Hd.ret fi.rf
  rw [solid_in hi, Option.bind_some]
  dsimp only
  rw [if_neg (by decide)]
  rcases slot_or b with hb | ⟨t, ht, rfl⟩
  · rw [solid_no hb, Option.bind_some]
    exact Hd.ret fi.rf
  rw [solid_in ht, Option.bind_some]
  dsimp only
  rw [if_neg (by decide), rA8 rfl hi, Option.bind_some, rA8 rfl ht]
  by_cases c1 : s.2.2.1 5 i = 0
  · rw [if_pos c1]
    exact Hd.ret fi.rf
  rw [if_neg c1, Option.bind_some]
  by_cases c2 : s.2.2.1 5 t = 0
  · rw [if_pos c2]
    exact Hd.ret fi.rf
  rw [if_neg c2]
  refine (x_nears hN hI hi ht c1 c2).bnd (fun s' h => ?_)
  split
  · exact Hd.ret h.1
  · exact Hd.ret h.1
theorem x_near {N : Nat} {a b w : Int32} {s : mS} (hN : 4611686018427387904 < N) (hI : INV s) : Hd (mxX7_near N a b w s) (fun o => fi s o.1) := by
  unfold mxX7_near
  rcases slot_or a with ha | ⟨i, hi, rfl⟩
  · rw [solid_no ha, Option.bind_some]
    exact Hd.ret fi.rf
  rw [solid_in hi, Option.bind_some]
  dsimp only
  rw [if_neg (by decide)]
  rcases slot_or b with hb | ⟨t, ht, rfl⟩
  · rw [solid_no hb, Option.bind_some]
    exact Hd.ret fi.rf
  rw [solid_in ht, Option.bind_some]
  dsimp only
  rw [if_neg (by decide), rA8 rfl hi, Option.bind_some, rA8 rfl ht]
  by_cases c1 : s.2.2.1 5 i = 0
  · rw [if_pos c1]
    exact Hd.ret fi.rf
  rw [if_neg c1, Option.bind_some]
  by_cases c2 : s.2.2.1 5 t = 0
  · rw [if_pos c2]
    exact Hd.ret fi.rf
  rw [if_neg c2]
  refine (x_nears hN hI hi ht c1 c2).bnd (fun s' h => ?_)
  obtain ⟨v, e⟩ := x_told (N := N) (w := w) hN h.2
  rw [e, Option.bind_some]
  exact Hd.ret h.1
