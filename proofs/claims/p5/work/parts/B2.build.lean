/-- a body is well -/
def BO (s : cS) (b : Nat) : Prop := ∃ kd n F E R, kd ≤ 4 ∧ n ≤ 24 ∧ F ≤ 44 ∧ E ≤ 66 ∧ qI s b 0 = Int32.ofNat kd ∧ qI s (b + 1) 0 = Int32.ofNat n ∧ qI s b 2 = Int32.ofNat F ∧ qI s b 6 = Int32.ofNat E ∧ (∀ j, j < n → bd3 (pc s (b + 1) j) 100) ∧ (0 < F → RS s b n F R) ∧ (kd = 4 → EG s b F E ∧ ∀ f, f < F → R f < 132)
theorem BO_cf {L : Nat → Prop} {s s' : cS} {b : Nat} (h : BO s b) (c : cf L s s') (hL : ∀ i, b ≤ i → i ≤ b + 8 → ¬ L i) : BO s' b := by
  obtain ⟨kd, n, F, E, R, h1, h2, h3, h4, h5, h6, h7, h8, h9, h10, h11⟩ := h
  have pe := pc_cf c (p := b + 1) (fun i a b => hL i (by omega) (by omega))
  refine ⟨kd, n, F, E, R, h1, h2, h3, h4, ?_, ?_, ?_, ?_, fun j hj => by rw [pe]; exact h9 j hj, fun w => RS_cf (h10 w) c (hL _ (by omega) (by omega)) (hL _ (by omega) (by omega)), fun w => ⟨?_, (h11 w).2⟩⟩
  · rw [c.I (hL b (by omega) (by omega))]
    exact h5
  · rw [c.I (hL (b + 1) (by omega) (by omega))]
    exact h6
  · rw [c.I (hL b (by omega) (by omega))]
    exact h7
  · rw [c.I (hL b (by omega) (by omega))]
    exact h8
  · obtain ⟨g1, g2, g3⟩ := (h11 w).1
    refine ⟨g1, ?_, fun e he => ?_⟩
    · rw [c.I (hL b (by omega) (by omega))]
      exact g2
    · rw [c.A (hL (b + 8) (by omega) (by omega))]
      exact g3 e he
theorem BO_cl {s : cS} {b : Nat} (k0 : qI s b 0 = 0) (k1 : qI s (b + 1) 0 = 0) (k2 : qI s b 2 = 0) (k6 : qI s b 6 = 0) : BO s b := ⟨0, 0, 0, 0, fun _ => 0, by omega, by omega, by omega, by omega, k0, k1, k2, k6, fun j hj => absurd hj (by omega), fun w => absurd w (by omega), fun w => absurd w (by omega)⟩
theorem bcl_v (s : cS) (b : Nat) : qI (bcl s b) b 0 = 0 ∧ qI (bcl s b) (b + 1) 0 = 0 ∧ qI (bcl s b) b 2 = 0 ∧ qI (bcl s b) b 6 = 0 := by
  unfold bcl
  rw [qI_uJ, qI_uI, qI_uI, qI_uI, qI_uI, qI_uI, qI_uI, qI_uI, qI_uI, qI_uI, qI_uI, qI_uI, qI_uI, qI_uI, qI_uI, qI_uI, qI_uI]
  refine ⟨?_, ?_, ?_, ?_⟩
  · rw [if_neg (by omega), if_neg (by omega), if_neg (by omega), if_pos ⟨rfl, rfl⟩]
  · rw [if_neg (by omega), if_neg (by omega), if_pos ⟨rfl, rfl⟩]
  · rw [if_neg (by omega), if_pos ⟨rfl, rfl⟩]
  · rw [if_pos ⟨rfl, rfl⟩]
/-- what the hull has found, in state s1: the knots, and why there are no more -/
def HF (s s1 : cS) (p q kp kq kd K : Nat) : Prop := (kd < 3 ∧ K = kd ∧ ST s s1 p q kp kq kd ∧ qI s1 28 2 = 0 ∧ KF s s1 p q kp kq kd) ∨ (kd = 3 ∧ ∃ k T C, WR (QG 25 k) s s1 p q kp kq 3 K T C ∧ (∀ t, t < T → qA s1 36 t ≠ 0) ∧ nu k ≠ v0 ∧ ∀ i j, i < kp → j < kq → vd (nu k) (va (pc s p i) (pc s q j)) = vd (nu k) (k 0)) ∨ (kd = 4 ∧ ∃ k T C, WR (QG 24 k) s s1 p q kp kq 4 K T C ∧ ∀ t, t < T → qA s1 36 t ≠ 0)
/-- fill, layRings and layEdges after the hull was found -/
theorem c_b66 {N b p q n m kp kq kd K T : Nat} {s s1 : cS} (hN : 100000 < N) (hb : isB b) (h : PQ s p q n m kp kq) (hk1 : 1 ≤ kd) (hk4 : kd ≤ 4) (hf : HF s s1 p q kp kq kd K) (sk : SK s1 K T) (z1 : qI s1 (b + 1) 0 = 0) (z2 : qI s1 b 2 = 0) (z6 : qI s1 b 6 = 0) (r2 : qI s1 28 2 = 0) (eT : kd = 4 → ∃ k C, WR (QG 24 k) s s1 p q kp kq 4 K T C) : ∃ s', fxX2_build_66 N 28 b (Int32.ofNat kd) (hC s1) = some (hC s', Int32.ofNat kd) ∧ cf (fun i => rg b (b + 8) i ∨ i = 40) s1 s' ∧ BO s' b ∧ qI s' b 0 = Int32.ofNat kd ∧ qI s' (b + 1) 0 = Int32.ofNat (cn kd K) ∧ (∀ j, j < cn kd K → ∃ i, i < K ∧ okk kd i ∧ pc s' (b + 1) j = pc s1 30 i) ∧ (∀ i, i < K → okk kd i → ∃ j, j < cn kd K ∧ pc s' (b + 1) j = pc s1 30 i) ∧ ((∀ i i', i < K → i' < K → okk kd i → okk kd i' → pc s1 30 i = pc s1 30 i' → i = i') → ∀ j j', j < j' → j' < cn kd K → lxl (pc s' (b + 1) j) (pc s' (b + 1) j')) := by
  obtain ⟨b0, -⟩ := isB_sh hb
  have rb := (isB_rg hb).1
  have hc : cn kd K ≤ 24 := by
    unfold cn
    rcases hf with ⟨a, e, -⟩ | ⟨a, k', T', C, w, -⟩ | ⟨a, k', T', C, w, -⟩
    · rw [if_neg (by omega)]
      omega
    · have := w.2.2.2.2.2.1
      by_cases k3 : 3 < K
      · rw [if_pos ⟨a, k3⟩]
        omega
      · rw [if_neg (fun w => k3 w.2)]
        omega
    · have := w.2.2.2.2.2.1
      rw [if_neg (by omega)]
      omega
  have bk : ∀ i, i < K → okk kd i → bd3 (pc s1 30 i) 100 := fun i hi ok => by
    rcases hf with ⟨a, e, st, z, -⟩ | ⟨a, k', T', C, w, -⟩ | ⟨a, k', T', C, w, -⟩
    · rcases st.2.2.2.2 with ⟨y, -⟩ | ⟨-, y⟩
      · exact absurd (z.symm.trans y) (by decide)
      · exact (y i (by omega)).1
    · rcases w.2.2.2.2.2.2.1 i hi with y | y
      · exact absurd ⟨a, y.2⟩ ok
      · exact y.1
    · rcases w.2.2.2.2.2.2.1 i hi with y | y
      · omega
      · exact y.1
  obtain ⟨s2, s3, F, qf, fi, pf⟩ := c_fill (N := N) hN hb (show kd < 5 by omega) sk hc z1 z2
  obtain ⟨f1, f2, f3, f4, f5⟩ := fi
  obtain ⟨g1, g2, g3, g4, g5, g6⟩ := pf
  have c0 : cf (rg b (b + 8)) s1 (uI s1 b 0 (Int32.ofNat kd)) := cf_uI _ ⟨by omega, by omega⟩
  have c2 : cf (rg b (b + 8)) s1 s2 := c0.tr (f1.mo (fun i hi => ⟨by have := hi.1; omega, by have := hi.2; omega⟩))
  have c3 : cf (rg b (b + 8)) s1 s3 := c2.tr (g1.mo (fun i hi => ⟨by omega, by omega⟩))
  have p3 : ∀ j, pc s3 (b + 1) j = pc s2 (b + 1) j := pc_cf g1 (fun i a b w => by omega)
  have i3 : qI s3 (b + 1) 0 = Int32.ofNat (cn kd K) := by
    rw [g1.I (fun w => by omega)]
    exact f2
  have kd3 : qI s3 b 0 = Int32.ofNat kd := by
    rw [g2 0 (by omega), f1.I (fun w => by have := w.1; omega), qI_uI, if_pos ⟨rfl, rfl⟩]
  have e3 : qI s3 b 6 = 0 := by
    rw [g2 6 (by omega), f1.I (fun w => by have := w.1; omega), qI_uI, if_neg (by omega)]
    exact z6
  obtain ⟨s4, R, ql, ⟨r1, rr0, rr1, rr2, rr3, rr4⟩, rF⟩ := c_layRings (N := N) (by omega) hb g3 hc i3 g4
  have rs : RS s4 b (cn kd K) F R := ⟨fun f hf => (rr1 f hf).1, fun f hf => ⟨rr2 f hf, by
    by_cases d : f = F
    · rw [d]
      exact rF
    · exact rr3 f (by omega)⟩, rr4⟩
  have c4 : cf (rg b (b + 8)) s3 s4 := r1.mo (fun i hi => ⟨by omega, by omega⟩)
  have p4 : ∀ j, pc s4 (b + 1) j = pc s3 (b + 1) j := pc_cf r1 (fun i a b w => by omega)
  obtain ⟨s5, E, qe, e66, e6, eg, c5, k5⟩ := c_layEdges (N := N) (kd := kd) (by omega) hb (by omega) g3 hc (by rw [r1.I (fun w => by omega)]; exact kd3) (by rw [r1.I (fun w => by omega)]; exact i3) (by rw [r1.I (fun w => by omega)]; exact g4) (by rw [r1.I (fun w => by omega)]; exact e3) rs
  have p5 : ∀ j, pc s5 (b + 1) j = pc s4 (b + 1) j := pc_cf c5 (fun i a b w => by omega)
  have pt : ∀ j, pc s5 (b + 1) j = pc s2 (b + 1) j := fun j => (p5 j).trans ((p4 j).trans (p3 j))
  have bdn : ∀ j, j < cn kd K → bd3 (pc s2 (b + 1) j) 100 := fun j hj => by
    obtain ⟨i, hi, ok, e⟩ := f3 j hj
    rw [e]
    exact bk i hi ok
  have P1 : ∀ j, j < cn kd K → ∃ i, i < K ∧ okk kd i ∧ pc s5 (b + 1) j = pc s1 30 i := fun j hj => by
    rw [pt]
    exact f3 j hj
  refine ⟨s5, ?_, (c3.tr c4).mo (fun i hi => .inl hi) |>.tr (c5.mo (fun i hi => by
    rcases hi with w | w | w
    · exact .inl ⟨by omega, by omega⟩
    · exact .inl ⟨by omega, by omega⟩
    · exact .inr w)), ⟨kd, cn kd K, F, E, R, hk4, hc, g3, e66, ?_, ?_, ?_, e6, fun j hj => ?_, fun _ => RS_cf rs c5 (fun w => by omega) (fun w => by omega), fun w => ⟨eg (by omega), ?_⟩⟩, ?_, ?_, P1, fun i hi ok => ?_, fun D j j' hj hj' => ?_⟩
  · unfold fxX2_build_66
    rw [gI_2_2 s28, Option.bind_some, r2, if_pos rfl, kO_2 s28, Option.bind_some, qf, Option.bind_some, kO_0 b0, Option.bind_some, ql, Option.bind_some, gR_2_1 s28, Option.bind_some, kO_0 b0, Option.bind_some]
    show (fxX0_layEdges N b 40 (hC s4)).bind _ = _
    rw [qe, Option.bind_some]
  · rw [k5 0 (by omega), r1.I (fun w => by omega)]
    exact kd3
  · rw [c5.I (fun w => by omega), r1.I (fun w => by omega)]
    exact i3
  · rw [k5 2 (by omega), r1.I (fun w => by omega)]
    exact g4
  · rw [pt]
    exact bdn j hj
  · -- room for the rings
    obtain ⟨k', C, wr⟩ := eT w
    have K24 : K ≤ 24 := by
      have := wr.2.2.2.2.2.1
      omega
    have cnK : cn kd K = K := by
      unfold cn
      rw [if_neg (by omega)]
    have okw : ∀ i, okk kd i := fun i z => by omega
    have q2 : QC s2 K T := QG_QC <| (QG_4 s p q kp kq).1 s1 s2 K T wr.2.2.1 (c2.A (fun w => by have := w.1; have := w.2; omega)) (c2.A (fun w => by have := w.1; have := w.2; omega)) (fun j _ => pc_cf c2 (fun i a b w => by have := w.1; have := w.2; omega) j)
    have pe2 : ∀ j, pc s2 30 j = pc s1 30 j := pc_cf c2 (fun i a b w => by have := w.1; have := w.2; omega)
    have te2 : ∀ t, tR s2 t = tR s1 t := fun t => by
      unfold tR
      rw [c2.A (fun w => by have := w.1; have := w.2; omega), c2.A (fun w => by have := w.1; have := w.2; omega), c2.A (fun w => by have := w.1; have := w.2; omega)]
    have nb2 : NB (pc s2 30) K := NB_of (s0 := s) (p := p) (q := q) (kp := kp) (kq := kq) (fun j hj => by
      rw [pe2]
      exact wr.2.2.2.2.2.2.1 j hj)
    have di := (q2 K24).2.2.1
    have rm := QC_room (s1 := s2) (s' := s3) (b := b) (n := cn kd K) (F := F) (fun t ht => tO_R (sk.2.2.2.1 t ht) (te2 t) (fun j _ => pe2 j)) K24 q2 nb2 (fun j hj => by rw [p3]; exact bdn j hj) (fun j hj => by
      obtain ⟨i, hi, -, e⟩ := f3 j hj
      exact ⟨i, hi, by rw [p3, pe2]; exact e⟩) (fun i hi => by
      obtain ⟨j, hj, e⟩ := f4 i hi (okw i)
      exact ⟨j, hj, by rw [p3, pe2]; exact e⟩) (fun j j' hj hj' => by
      rw [p3, p3]
      exact f5 (fun i i' hi hi' _ _ e => di i i' hi hi' (by rw [pe2, pe2]; exact e)) j j' hj hj') cnK g5 (g6 w)
    obtain ⟨-, -, -, rm⟩ := rm
    intro f hf
    have le : ∀ x, x ≤ F → R x ≤ sm (fun k => sm (onp (pc s3 (b + 1)) (bN s3 b) (bD s3 b) k) (cn kd K)) x := by
      intro x
      induction x with
      | zero =>
        intro _
        rw [rr0]
        exact Nat.zero_le _
      | succ x ih =>
        intro hx
        have h1 := ih (by omega)
        have h2 := (rr1 x (by omega)).2
        have h3 := oc_le (s := s3) (b := b) (f := x) (n := cn kd K) (g6 w x (by omega)).2.1 (fun j hj => by rw [p3]; exact bdn j hj)
        show R (x + 1) ≤ sm (fun k => sm (onp (pc s3 (b + 1)) (bN s3 b) (bD s3 b) k) (cn kd K)) x + sm (onp (pc s3 (b + 1)) (bN s3 b) (bD s3 b) x) (cn kd K)
        omega
    have a1 := le f (by omega)
    have a2 := rm f hf
    omega
  · rw [k5 0 (by omega), r1.I (fun w => by omega)]
    exact kd3
  · rw [c5.I (fun w => by omega), r1.I (fun w => by omega)]
    exact i3
  · obtain ⟨j, hj, e⟩ := f4 i hi ok
    exact ⟨j, hj, by rw [pt]; exact e⟩
  · rw [pt, pt]
    exact f5 D j j' hj hj'
