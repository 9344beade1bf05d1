theorem tO_mo {s : cS} {K K' t : Nat} (h : tO s K t) (l : K ≤ K') : tO s K' t := by
  obtain ⟨u, v, w, hu, hv, hw, r⟩ := h
  exact ⟨u, v, w, by omega, by omega, by omega, r⟩
/-- the skin is well: K knots, T rows -/
def SK (s : cS) (K T : Nat) : Prop := (K ≤ 25 ∧ T ≤ 46) ∧ qI s 30 0 = Int32.ofNat K ∧ qI s 29 1 = Int32.ofNat T ∧ (∀ t, t < T → tO s K t) ∧ (∀ j, j < K → bd3 (pc s 30 j) 101) ∧ ∀ j, j < 625 → qA s 39 j = 0
/-- what attachLatest does, in full -/
def ATT (s s' : cS) (K T T' : Nat) : Prop := ∃ s1 s2 T1 M p o F G q, TI (fun r => byd r (qA s 31 K).toInt64 (qA s 32 K).toInt64 (qA s 33 K).toInt64) (uI s 29 5 0) s1 T T1 0 M p o ∧ (∀ i, i < 3 * M → F i < K ∧ qA s1 37 i = Int32.ofNat (F i)) ∧ (∀ i, i < 3 * M → G i < K ∧ qA s1 38 i = Int32.ofNat (G i)) ∧ AI F G K s1 s2 T1 T' (3 * M) q ∧ ∀ t, tR s' t = tR s2 t
theorem c_attach {N K T : Nat} {s : cS} (hN : 600 < N) (hK : K < 25) (hT : T ≤ 46) (h0 : qI s 30 0 = Int32.ofNat (K + 1)) (h1 : qI s 29 1 = Int32.ofNat T) (ro : ∀ t, t < T → tO s K t) (hP : ∀ j, j < K + 1 → bd3 (pc s 30 j) 101) (mk : ∀ j, j < 625 → qA s 39 j = 0) : ∃ s' T', fxX5_attachLatest N 29 (hC s) = some (hC s') ∧ cf sL s s' ∧ SK s' (K + 1) T' ∧ ATT s s' K T T' := by
  have ti0 : TI (fun r => byd r (qA s 31 K).toInt64 (qA s 32 K).toInt64 (qA s 33 K).toInt64) (uI s 29 5 0) (uI s 29 5 0) T T T 0 (fun t => t) (fun t => t) := by
    refine ⟨cf.rf, ⟨by omega, by omega⟩, ⟨h1, rfl⟩, fun t _ => rfl, fun t ht => ⟨ht, rfl⟩, fun t a b => absurd b (by omega), fun t t' _ _ e => e, fun t0 a b => absurd b (by omega), fun b hb => absurd hb (by omega), fun b b' _ hb => absurd hb (by omega), fun t0 a b => absurd b (by omega), fun a b ha hb => ⟨fun h => absurd (mk (a * 25 + b) (by omega)) h, fun ⟨i, x, _⟩ => absurd x (by omega)⟩⟩
  have ro' : ∀ t, t < T → tO (uI s 29 5 0) K t := ro
  obtain ⟨s1, T1, M, p, o, q1, ti⟩ := c_tearLoop (N := N) (K := K) (kn := K) (T0 := T) (s0 := uI s 29 5 0) hN hT (by omega) hK ro' T N (uI s 29 5 0) T 0 (fun t => t) (fun t => t) (by omega) ti0
  have TI' := ti
  obtain ⟨c1, c2, c3, c4, c5, c6, c7, c8, c9, c10, c11, c12⟩ := TI'
  have sF : ∀ i, i < 3 * M → ∃ f g, f < K ∧ g < K ∧ qA s1 37 i = Int32.ofNat f ∧ qA s1 38 i = Int32.ofNat g := by
    intro i hi
    obtain ⟨-, g2, -, g4⟩ := c9 (i / 3) (by omega)
    obtain ⟨u, v, w, hu, hv, hw, e1, e2, e3, -⟩ := ro' _ g2
    have := g4 (i % 3) (Nat.mod_lt _ (by decide))
    rw [show 3 * (i / 3) + i % 3 = i by omega] at this
    have m3 : i % 3 = 0 ∨ i % 3 = 1 ∨ i % 3 = 2 := by omega
    rcases m3 with m3 | m3 | m3
    · rw [m3] at this
      exact ⟨u, v, hu, hv, this.1.trans e1, this.2.trans e2⟩
    · rw [m3] at this
      exact ⟨v, w, hv, hw, this.1.trans e2, this.2.trans e3⟩
    · rw [m3] at this
      exact ⟨w, u, hw, hu, this.1.trans e3, this.2.trans e1⟩
  obtain ⟨F, G, hF, hG⟩ : ∃ F G : Nat → Nat, (∀ i, i < 3 * M → F i < K ∧ qA s1 37 i = Int32.ofNat (F i)) ∧ (∀ i, i < 3 * M → G i < K ∧ qA s1 38 i = Int32.ofNat (G i)) := by
    classical
    refine ⟨fun i => if h : i < 3 * M then Classical.choose (sF i h) else 0, fun i => if h : i < 3 * M then Classical.choose (Classical.choose_spec (sF i h)) else 0, fun i hi => ?_, fun i hi => ?_⟩
    · have z := Classical.choose_spec (Classical.choose_spec (sF i hi))
      show (if h : i < 3 * M then Classical.choose (sF i h) else 0) < K ∧ qA s1 37 i = Int32.ofNat (if h : i < 3 * M then Classical.choose (sF i h) else 0)
      rw [dif_pos hi]
      exact ⟨z.1, z.2.2.1⟩
    · have z := Classical.choose_spec (Classical.choose_spec (sF i hi))
      show (if h : i < 3 * M then Classical.choose (Classical.choose_spec (sF i h)) else 0) < K ∧ qA s1 38 i = Int32.ofNat (if h : i < 3 * M then Classical.choose (Classical.choose_spec (sF i h)) else 0)
      rw [dif_pos hi]
      exact ⟨z.2.1, z.2.2.2⟩
  have p1 : ∀ j, pc s1 30 j = pc s 30 j := fun j => pc_sL (s := uI s 29 5 0) c1 j
  have ai0 : AI F G K s1 s1 T1 T1 0 (fun t => t) := ⟨cf.rf, ⟨by omega, by omega⟩, c3.1, rfl, fun t _ => rfl, fun t a b => absurd b (by omega), fun t t' a b d => absurd d (by omega), .inr (fun j hj => absurd hj (by omega))⟩
  obtain ⟨s2, T', q, q2, ai⟩ := c_addLoop (N := N) (kn := K) (m := 3 * M) (T1 := T1) (F := F) (G := G) (s1 := s1) (by omega) c3.2 hK (fun i hi => ⟨by have := (hF i hi).1; omega, (hF i hi).2⟩) (fun i hi => ⟨by have := (hG i hi).1; omega, (hG i hi).2⟩) (fun j hj => ⟨by rw [p1]; exact hP _ (by have := (hF j hj).1; omega), by rw [p1]; exact hP _ (by have := (hG j hj).1; omega)⟩) (by rw [p1]; exact hP K (by omega)) (3 * M) 0 N s1 T1 (fun t => t) (by omega) (by omega) ai0
  have AI' := ai
  obtain ⟨d1, d2, d3, d4, d5, d6, d7, d8⟩ := AI'
  have a37 : qA s2 37 = qA s1 37 := d1.A (fun w => by unfold sN at w; omega)
  have a38 : qA s2 38 = qA s1 38 := d1.A (fun w => by unfold sN at w; omega)
  have a39 : qA s2 39 = qA s1 39 := d1.A (fun w => by unfold sN at w; omega)
  have self : uA s2 39 (qA s2 39) = s2 := by
    unfold uA
    refine Prod.ext rfl (Prod.ext rfl (Prod.ext ?_ rfl))
    funext i
    show (if i = 39 then qA s2 39 else s2.2.2.1 i) = s2.2.2.1 i
    by_cases c : i = 39
    · rw [if_pos c, c]
      rfl
    · rw [if_neg c]
  obtain ⟨g', q3, z⟩ := c_clrLoop (N := N) (m := 3 * M) (F := F) (G := G) (s1 := s2) (by omega) (d4.trans c3.2) (fun i hi => ⟨by have := (hF i hi).1; omega, by rw [a37]; exact (hF i hi).2⟩) (fun i hi => ⟨by have := (hG i hi).1; omega, by rw [a38]; exact (hG i hi).2⟩) (3 * M) 0 N (qA s2 39) (by omega) (by omega) (fun j hj => hj.elim id (fun ⟨x, a, _⟩ => absurd a (by omega)))
  rw [self] at q3
  have c0 : cf sL s (uI s 29 5 0) := cf_uI _ (.inl rfl)
  have d1' : cf sL s1 s2 := d1.mo (fun i hi => by unfold sN at hi; unfold sL; omega)
  have cc : cf sL s (uA s2 39 g') := ((c0.tr c1).tr d1').tr (cf_uA _ (.inr ⟨by omega, by omega⟩))
  refine ⟨uA s2 39 g', T', ?_, cc, ?_, s1, s2, T1, M, p, o, F, G, q, ti, hF, hG, ai, fun t => rfl⟩
  · unfold fxX5_attachLatest
    simp only [gR_5_0 s29, gI_3_0 s30', Option.bind_some, h0, i_m1, sI_5_5 s29, gI_5_1 s29]
    rw [show qI (uI s 29 5 0) 29 1 = Int32.ofNat T from h1]
    exact q1.trans (q2.trans q3)
  · refine ⟨⟨by omega, d2.2⟩, ?_, d3, ?_, ?_, ?_⟩
    · rw [cc.I (fun w => by unfold sL at w; omega)]
      exact h0
    · intro t ht
      have pe : ∀ j, pc (uA s2 39 g') 30 j = pc s 30 j := fun j => pc_sL cc j
      by_cases l : t < T1
      · obtain ⟨w1, w2⟩ := c5 t l
        refine tO_mo (tO_R (s := s) (t := p t) (ro _ w1) ?_ (fun j _ => pe j)) (by omega)
        exact (d5 t l).trans w2
      · obtain ⟨w1, w2, w3, w4, w5, w6, w7, w8⟩ := d6 t (by omega) ht
        refine ⟨F (q t), G (q t), K, by have := (hF _ w1).1; omega, by have := (hG _ w1).1; omega, by omega, w3, w4, w5, ?_, ?_, .inl w6⟩
        · rw [pe, pe, pe, ← p1, ← p1, ← p1]
          exact w7
        · rw [pe, ← p1]
          exact w8
    · intro j hj
      rw [pc_sL cc]
      exact hP j hj
    · intro j hj
      show (if 39 = 39 then g' else qA s2 39) j = 0
      rw [if_pos rfl]
      refine z j ?_
      rw [a39]
      by_cases w : qA s1 39 j = 0
      · exact .inl w
      · right
        have := (c12 (j / 25) (j % 25) (by omega) (Nat.mod_lt _ (by decide))).mp (by rw [show j / 25 * 25 + j % 25 = j by omega]; exact w)
        obtain ⟨i, x1, x2, x3⟩ := this
        refine ⟨i, x1, ?_⟩
        rw [(hF i x1).2] at x2
        rw [(hG i x1).2] at x3
        have y1 := i_inj (by have := (hF i x1).1; omega) (by omega) x2
        have y2 := i_inj (by have := (hG i x1).1; omega) (by omega) x3
        omega
