/-- two rows of points, perhaps empty -/
def PZ (s : cS) (p q n m kp kq : Nat) : Prop := (shp p = (3, n) ∧ shp q = (3, m) ∧ n < 600 ∧ m < 600) ∧ (qI s p 0 = Int32.ofNat kp ∧ qI s q 0 = Int32.ofNat kq) ∧ (kp ≤ n ∧ kq ≤ m) ∧ ((p + 3 < 28 ∨ 45 < p) ∧ (q + 3 < 28 ∨ 45 < q)) ∧ (1 ≤ kp → 1 ≤ kq → (∀ j, j < kp → bd3 (pc s p j) 200) ∧ (∀ j, j < kq → bd3 (pc s q j) 200))
theorem PZ_cf {L : Nat → Prop} {s s' : cS} {p q n m kp kq : Nat} (h : PZ s p q n m kp kq) (c : cf L s s') (lp : ∀ i, p ≤ i → i ≤ p + 3 → ¬ L i) (lq : ∀ i, q ≤ i → i ≤ q + 3 → ¬ L i) : PZ s' p q n m kp kq ∧ (∀ j, pc s' p j = pc s p j) ∧ ∀ j, pc s' q j = pc s q j := by
  obtain ⟨h1, h2, h3, h4, h5⟩ := h
  have pe := pc_cf c (p := p) (fun i a b => lp i (by omega) (by omega))
  have qe := pc_cf c (p := q) (fun i a b => lq i (by omega) (by omega))
  refine ⟨⟨h1, ⟨?_, ?_⟩, h3, h4, fun y1 y2 => ⟨fun j hj => by rw [pe]; exact (h5 y1 y2).1 j hj, fun j hj => by rw [qe]; exact (h5 y1 y2).2 j hj⟩⟩, pe, qe⟩
  · rw [c.I (lp p (by omega) (by omega))]
    exact h2.1
  · rw [c.I (lq q (by omega) (by omega))]
    exact h2.2
theorem PZ_PQ {s : cS} {p q n m kp kq : Nat} (h : PZ s p q n m kp kq) (h1 : 1 ≤ kp) (h2 : 1 ≤ kq) : PQ s p q n m kp kq := ⟨h.1, h.2.1, ⟨h1, h.2.2.1.1, h2, h.2.2.1.2⟩, h.2.2.2.1, (h.2.2.2.2 h1 h2).1, (h.2.2.2.2 h1 h2).2⟩
/-- why a hull was refused -/
def RF (s : cS) (p q kp kq : Nat) : Prop := (∃ i j, i < kp ∧ j < kq ∧ ¬ bd3 (va (pc s p i) (pc s q j)) 100) ∨ (∃ k, (∀ i j, i < kp → j < kq → vd (nu k) (va (pc s p i) (pc s q j)) = vd (nu k) (k 0)) ∧ RW (QG 25 k) s p q kp kq 3) ∨ ∃ k, RW (QG 24 k) s p q kp kq 4
/-- what build leaves in the body b -/
def BL (s s' : cS) (b p q kp kq kd : Nat) : Prop := ∃ s1 K, HF s s1 p q kp kq kd K ∧ qI s' b 0 = Int32.ofNat kd ∧ qI s' (b + 1) 0 = Int32.ofNat (cn kd K) ∧ (∀ j, j < cn kd K → ∃ i, i < K ∧ okk kd i ∧ pc s' (b + 1) j = pc s1 30 i) ∧ (∀ i, i < K → okk kd i → ∃ j, j < cn kd K ∧ pc s' (b + 1) j = pc s1 30 i) ∧ ((∀ i i', i < K → i' < K → okk kd i → okk kd i' → pc s1 30 i = pc s1 30 i' → i = i') → ∀ j j', j < j' → j' < cn kd K → lxl (pc s' (b + 1) j) (pc s' (b + 1) j'))
theorem QT_QO (X : Nat → V3 → Prop) : QO (fun _ _ _ => True) X := ⟨fun _ _ _ _ _ _ _ _ => trivial, fun _ _ _ _ _ _ _ _ _ _ _ _ _ _ _ _ => trivial⟩
theorem QT_Q0 (X : Nat → V3 → Prop) (k : Nat → V3) : Q0 (fun _ _ _ => True) X k := fun _ _ _ _ _ _ _ _ _ => trivial
theorem b66R {N b : Nat} {kd : Int32} {s1 : cS} (r2 : qI s1 28 2 = 1) : fxX2_build_66 N 28 b kd (hC s1) = some (hC s1, -2) := by
  unfold fxX2_build_66
  rw [gI_2_2 s28, Option.bind_some, r2, if_neg (show ¬ ((1 : Int32) = 0) by decide)]
/-- build -/
theorem c_build {N b p q n m kp kq : Nat} {s : cS} (hN : 100000 < N) (hb : isB b) (h : PZ s p q n m kp kq) (dp : p + 3 < b ∨ b + 9 < p) (dq : q + 3 < b ∨ b + 9 < q) (mk : ∀ j, j < 625 → qA s 39 j = 0) : ∃ s' r, fxX2_build N 28 p q b (hC s) = some (hC s', r) ∧ cf (fun i => rg b (b + 9) i ∨ rg 28 40 i) s s' ∧ (∀ j, j < 625 → qA s' 39 j = 0) ∧ BO s' b ∧ (((kp = 0 ∨ kq = 0) ∧ r = 0 ∧ qI s' b 0 = 0 ∧ qI s' (b + 1) 0 = 0) ∨ (1 ≤ kp ∧ 1 ≤ kq ∧ ∃ sA, (∀ j, pc sA p j = pc s p j) ∧ (∀ j, pc sA q j = pc s q j) ∧ ((r = -2 ∧ RF sA p q kp kq) ∨ ∃ kd, 1 ≤ kd ∧ kd ≤ 4 ∧ r = Int32.ofNat kd ∧ BL sA s' b p q kp kq kd))) := by
  obtain ⟨b0, -⟩ := isB_sh hb
  have rb := (isB_rg hb).1
  have b28 : ∀ i, 28 ≤ i → i ≤ 40 → ¬ rg b (b + 9) i := fun i a b w => by have := w.1; have := w.2; omega
  have cb := cf_bcl s b
  obtain ⟨v0', v1, v2, v6⟩ := bcl_v s b
  obtain ⟨hp3, -⟩ := pt_sh h.1.1
  obtain ⟨hq3, -⟩ := pt_sh h.1.2.1
  have cbo : cf (fun i => rg b (b + 9) i ∨ rg 28 40 i) s (bcl s b) := cb.mo (fun i hi => .inl hi)
  obtain ⟨zc, pec, qec⟩ := PZ_cf h cb (fun i a b w => by have := w.1; have := w.2; omega) (fun i a b w => by have := w.1; have := w.2; omega)
  have mk0 : ∀ j, j < 625 → qA (bcl s b) 39 j = 0 := fun j hj => by
    rw [cb.A (b28 39 (by omega) (by omega))]
    exact mk j hj
  unfold fxX2_build
  rw [kO_0 b0, Option.bind_some, c_bclear hb, Option.bind_some, gI_3_0 hp3, Option.bind_some, zc.2.1.1]
  by_cases c1 : kp = 0
  · rw [if_pos (show Int32.ofNat kp = 0 by rw [c1]; rfl)]
    exact ⟨bcl s b, 0, rfl, cbo, mk0, BO_cl v0' v1 v2 v6 (bcl_9 s b), .inl ⟨.inl c1, rfl, v0', v1⟩⟩
  · have k600 : kp < 2147483648 := by
      have := h.1
      have := h.2.2.1
      omega
    have q600 : kq < 2147483648 := by
      have := h.1
      have := h.2.2.1
      omega
    rw [if_neg (fun w : Int32.ofNat kp = 0 => c1 (i_inj (b := 0) k600 (by omega) w)), gI_3_0 hq3, Option.bind_some, zc.2.1.2]
    by_cases c2 : kq = 0
    · rw [if_pos (show Int32.ofNat kq = 0 by rw [c2]; rfl)]
      exact ⟨bcl s b, 0, rfl, cbo, mk0, BO_cl v0' v1 v2 v6 (bcl_9 s b), .inl ⟨.inr c2, rfl, v0', v1⟩⟩
    · rw [if_neg (fun w : Int32.ofNat kq = 0 => c2 (i_inj (b := 0) q600 (by omega) w)), gR_2_0 s28, Option.bind_some]
      show ∃ s' r, (kO (hC (bcl s b)) 29 5).bind _ = _ ∧ _
      rw [kO_5 s29, Option.bind_some]
      show ∃ s' r, (fxX5_clear N 29 (hC (bcl s b))).bind _ = _ ∧ _
      rw [c_sclear, Option.bind_some, sI_2_2 s28, Option.bind_some, sI_2_3 s28, Option.bind_some, kO_2 s28, Option.bind_some]
      generalize hA : uI (uI (uI (uI (bcl s b) 30 0 0) 29 1 0) 28 2 0) 28 3 0 = sA
      have cA : cf (rg 28 40) (bcl s b) sA := by
        rw [← hA]
        exact (((cf_uI _ ⟨by omega, by omega⟩).tr (cf_uI _ ⟨by omega, by omega⟩)).tr (cf_uI _ ⟨by omega, by omega⟩)).tr (cf_uI _ ⟨by omega, by omega⟩)
      have a30 : qI sA 30 0 = 0 := by
        rw [← hA]
        rfl
      have a29 : qI sA 29 1 = 0 := by
        rw [← hA]
        rfl
      have a2 : qI sA 28 2 = 0 := by
        rw [← hA]
        rfl
      have a3 : qI sA 28 3 = 0 := by
        rw [← hA]
        rfl
      have aA : qA sA = qA (bcl s b) := by
        rw [← hA]
        rfl
      have nb28 : ∀ i, b ≤ i → i ≤ b + 9 → ¬ rg 28 40 i := fun i a b w => by have := w.1; have := w.2; omega
      obtain ⟨zA, peA, qeA⟩ := PZ_cf zc cA (fun i a b w => by have := w.1; have := w.2; have := h.2.2.2.1; omega) (fun i a b w => by have := w.1; have := w.2; have := h.2.2.2.1; omega)
      have PA := PZ_PQ zA (by omega) (by omega)
      have mkA : ∀ j, j < 625 → qA sA 39 j = 0 := fun j hj => by
        rw [aA]
        exact mk0 j hj
      have cAo : cf (fun i => rg b (b + 9) i ∨ rg 28 40 i) s sA := cbo.tr (cA.mo (fun i hi => .inr hi))
      have rows : (∀ j, pc sA p j = pc s p j) ∧ (∀ j, pc sA q j = pc s q j) := ⟨fun j => (peA j).trans (pec j), fun j => (qeA j).trans (qec j)⟩
      -- body's cells are still clear in every state that the hull leaves
      have clr : ∀ s1, cf hL sA s1 → qI s1 b 0 = 0 ∧ qI s1 (b + 1) 0 = 0 ∧ qI s1 b 2 = 0 ∧ qI s1 b 6 = 0 ∧ qJ s1 (b + 9) 1 = 0 := fun s1 c => by
        refine ⟨?_, ?_, ?_, ?_, ?_⟩
        · rw [c.I (nb28 b (by omega) (by omega)), cA.I (nb28 b (by omega) (by omega))]
          exact v0'
        · rw [c.I (nb28 (b + 1) (by omega) (by omega)), cA.I (nb28 (b + 1) (by omega) (by omega))]
          exact v1
        · rw [c.I (nb28 b (by omega) (by omega)), cA.I (nb28 b (by omega) (by omega))]
          exact v2
        · rw [c.I (nb28 b (by omega) (by omega)), cA.I (nb28 b (by omega) (by omega))]
          exact v6
        · rw [c.J (nb28 (b + 9) (by omega) (by omega)), cA.J (nb28 (b + 9) (by omega) (by omega))]
          exact bcl_9 s b
      have refd : ∀ s1 (kd : Int32), cf hL sA s1 → (∀ j, j < 625 → qA s1 39 j = 0) → qI s1 28 2 = 1 → RF sA p q kp kq → ∃ s' r, fxX2_build_66 N 28 b kd (hC s1) = some (hC s', r) ∧ cf (fun i => rg b (b + 9) i ∨ rg 28 40 i) s s' ∧ (∀ j, j < 625 → qA s' 39 j = 0) ∧ BO s' b ∧ (((kp = 0 ∨ kq = 0) ∧ r = 0 ∧ qI s' b 0 = 0 ∧ qI s' (b + 1) 0 = 0) ∨ (1 ≤ kp ∧ 1 ≤ kq ∧ ∃ sA, (∀ j, pc sA p j = pc s p j) ∧ (∀ j, pc sA q j = pc s q j) ∧ ((r = -2 ∧ RF sA p q kp kq) ∨ ∃ kd, 1 ≤ kd ∧ kd ≤ 4 ∧ r = Int32.ofNat kd ∧ BL sA s' b p q kp kq kd))) := fun s1 kd c m1 r1 rf => by
        obtain ⟨x0, x1, x2, x6, x9⟩ := clr s1 c
        exact ⟨s1, -2, b66R r1, cAo.tr (c.mo (fun i hi => .inr hi)), m1, BO_cl x0 x1 x2 x6 x9, .inr ⟨by omega, by omega, sA, rows.1, rows.2, .inl ⟨rfl, rf⟩⟩⟩
      have good : ∀ s1 kd K T, 1 ≤ kd → kd ≤ 4 → cf hL sA s1 → HF sA s1 p q kp kq kd K → SK s1 K T → qI s1 28 2 = 0 → (kd < 3 → T = 0) → ∃ s' r, fxX2_build_66 N 28 b (Int32.ofNat kd) (hC s1) = some (hC s', r) ∧ cf (fun i => rg b (b + 9) i ∨ rg 28 40 i) s s' ∧ (∀ j, j < 625 → qA s' 39 j = 0) ∧ BO s' b ∧ (((kp = 0 ∨ kq = 0) ∧ r = 0 ∧ qI s' b 0 = 0 ∧ qI s' (b + 1) 0 = 0) ∨ (1 ≤ kp ∧ 1 ≤ kq ∧ ∃ sA, (∀ j, pc sA p j = pc s p j) ∧ (∀ j, pc sA q j = pc s q j) ∧ ((r = -2 ∧ RF sA p q kp kq) ∨ ∃ kd, 1 ≤ kd ∧ kd ≤ 4 ∧ r = Int32.ofNat kd ∧ BL sA s' b p q kp kq kd))) := fun s1 kd K T g1 g4 c hf sk r2 eT => by
        obtain ⟨x0, x1, x2, x6, x9⟩ := clr s1 c
        obtain ⟨s', q1, c', bo, y0, y1, y2, y3, y4⟩ := c_b66 (N := N) hN hb PA g1 g4 hf sk x1 x2 x6 x9 r2 eT
        refine ⟨s', Int32.ofNat kd, q1, (cAo.tr (c.mo (fun i hi => .inr hi))).tr (c'.mo (fun i hi => ?_)), fun j hj => ?_, bo, .inr ⟨by omega, by omega, sA, rows.1, rows.2, .inr ⟨kd, g1, g4, rfl, s1, K, hf, y0, y1, y2, y3, y4⟩⟩⟩
        · rcases hi with w | w
          · exact .inl ⟨w.1, by have := w.2; omega⟩
          · exact .inr ⟨by omega, by omega⟩
        · rw [c'.A (fun w => by
            rcases w with w | w
            · have := w.1
              have := w.2
              omega
            · omega)]
          exact sk.2.2.2.2.2 j hj
      obtain ⟨s2, r, qs, r1, r4, st, kf⟩ := c_spread (N := N) (s := sA) (by omega) PA a30 a3 a2
      rw [qs, Option.bind_some]
      dsimp only
      have cs : cf hL sA s2 := hK_hL st.1
      have mk2 : ∀ j, j < 625 → qA s2 39 j = 0 := fun j hj => by
        rw [st.1.A (fun w => by unfold hKn at w; omega)]
        exact mkA j hj
      have i29 : qI s2 29 1 = 0 := by
        rw [st.1.I (fun w => by unfold hKn at w; omega)]
        exact a29
      rcases st.2.2.2.2 with ⟨z, no⟩ | ⟨z, kn⟩
      · -- refused while spreading
        have rf : RF sA p q kp kq := .inl no
        by_cases lt : Int32.ofNat r < (3 : Int32)
        · rw [if_pos lt]
          exact refd s2 _ cs mk2 z rf
        · rw [if_neg lt, gI_2_2 s28, Option.bind_some, z, if_neg (show ¬ ((1 : Int32) = 0) by decide)]
          exact refd s2 _ cs mk2 z rf
      · have KFr := kf z
        by_cases c3 : r < 3
        · have lt : Int32.ofNat r < (3 : Int32) := by
            have := i_lt (a := r) (b := 3) (by omega) (by omega)
            show Int32.ofNat r < Int32.ofNat 3
            rw [this]
            exact c3
          rw [if_pos lt]
          exact good s2 r r 0 r1 r4 cs (.inl ⟨c3, rfl, st, z, KFr⟩) ⟨⟨by omega, by omega⟩, st.2.1, i29, fun t ht => absurd ht (by omega), fun j hj => bd3_le (kn j hj).1 (by decide), mk2⟩ z (fun _ => rfl)
        · have lt : ¬ (Int32.ofNat r < (3 : Int32)) := by
            have := i_lt (a := r) (b := 3) (by omega) (by omega)
            show ¬ (Int32.ofNat r < Int32.ofNat 3)
            rw [this]
            exact c3
          rw [if_neg lt, gI_2_2 s28, Option.bind_some, z, if_pos rfl, kO_2 s28, Option.bind_some]
          by_cases c4 : r = 3
          · subst c4
            have fl : (∀ i j, i < kp → j < kq → vd (nu (k4 s2 3)) (va (pc sA p i) (pc sA q j)) = vd (nu (k4 s2 3)) (k4 s2 3 0)) ∧ nu (k4 s2 3) ≠ v0 := by
              rcases KFr with ⟨e, -⟩ | ⟨e, -⟩ | ⟨-, y1, y2⟩ | ⟨e, -⟩
              · omega
              · omega
              · exact ⟨y2, y1⟩
              · omega
            obtain ⟨s3, q3, cw, mw, k⟩ := c_wrap (Q := QG 25 (k4 s2 3)) (N := N) (QG_3 sA p q kp kq fl.1) (QG_Q0 _ _) hN PA (.inl rfl) st z KFr i29 mk2
            rw [q3, Option.bind_some]
            rcases k with ⟨k1, k2⟩ | ⟨K, T, C, wr, al⟩
            · exact refd s3 _ cw mw k1 (.inr (.inl ⟨_, fl.1, k2⟩))
            · exact good s3 3 K T (by omega) (by omega) cw (.inr (.inl ⟨rfl, _, T, C, wr, al, fl.2, fl.1⟩)) wr.2.1 wr.2.2.2.1 (fun w => by omega)
          · have r4' : r = 4 := by omega
            subst r4'
            obtain ⟨s3, q3, cw, mw, k⟩ := c_wrap (Q := QG 24 (k4 s2 4)) (N := N) (QG_4 sA p q kp kq) (QG_Q0 _ _) hN PA (.inr rfl) st z KFr i29 mk2
            rw [q3, Option.bind_some]
            rcases k with ⟨k1, k2⟩ | ⟨K, T, C, wr, al⟩
            · exact refd s3 _ cw mw k1 (.inr (.inr ⟨_, k2⟩))
            · exact good s3 4 K T (by omega) (by omega) cw (.inr (.inr ⟨rfl, _, T, C, wr, al⟩)) wr.2.1 wr.2.2.2.1 (fun w => by omega)
