/-- the cells of a body -/
theorem isB_rg {b : Nat} (h : isB b) : (b + 9 < 28 ∨ 46 < b) ∧ b + 9 < 239 := by
  rcases h with h | ⟨j, hj, h⟩ | ⟨j, hj, h⟩ <;> omega
theorem pc_cf {L : Nat → Prop} {s s' : cS} (c : cf L s s') {p : Nat} (hp : ∀ i, p + 1 ≤ i → i ≤ p + 3 → ¬ L i) (j : Nat) : pc s' p j = pc s p j := by
  unfold pc
  rw [c.A (hp _ (by omega) (by omega)), c.A (hp _ (by omega) (by omega)), c.A (hp _ (by omega) (by omega))]
/-- clear, of a body -/
def bcl (s : cS) (b : Nat) : cS := uJ (uI (uI (uI (uI s b 0 0) (b + 1) 0 0) b 2 0) b 6 0) (b + 9) 1 0
theorem c_bclear {N b : Nat} {s : cS} (hb : isB b) : fxX0_clear N b (hC s) = some (hC (bcl s b)) := by
  obtain ⟨h0, h1, -, -, -, -, h9⟩ := isB_sh hb
  have h1' : (shp (b + 1)).1 = 3 := by rw [h1]
  unfold fxX0_clear bcl
  rw [sI_0_0 h0, Option.bind_some, gR_0_1 h0, Option.bind_some, kO_3 h1', Option.bind_some, c_clear h1', Option.bind_some, sI_0_2 h0, Option.bind_some, sI_0_6 h0, Option.bind_some, gR_0_8 h0, Option.bind_some, sJ_4_1 h9, Option.bind_some]
theorem cf_bcl (s : cS) (b : Nat) : cf (rg b (b + 9)) s (bcl s b) := ((((cf_uI _ ⟨by omega, by omega⟩).tr (cf_uI _ ⟨by omega, by omega⟩)).tr (cf_uI _ ⟨by omega, by omega⟩)).tr (cf_uI _ ⟨by omega, by omega⟩)).tr (cf_uJ _ ⟨by omega, by omega⟩)
/-- which knots become points of the body -/
def okk (kd i : Nat) : Prop := ¬ (kd = 3 ∧ i = 3)
/-- how many of the first k knots do -/
def cn (kd k : Nat) : Nat := if kd = 3 ∧ 3 < k then k - 1 else k
theorem cn_s {kd k : Nat} (h : okk kd k) : cn kd (k + 1) = cn kd k + 1 := by
  unfold okk at h
  unfold cn
  by_cases c : kd = 3
  · by_cases d : 3 < k
    · rw [if_pos ⟨c, by omega⟩, if_pos ⟨c, d⟩]
      omega
    · rw [if_neg (fun w => by omega), if_neg (fun w => by omega)]
  · rw [if_neg (fun w => c w.1), if_neg (fun w => c w.1)]
theorem cn_n {kd k : Nat} (h : ¬ okk kd k) : cn kd (k + 1) = cn kd k := by
  have h' : kd = 3 ∧ k = 3 := Classical.byContradiction h
  unfold cn
  rw [if_pos ⟨h'.1, by omega⟩, if_neg (fun w => by omega)]
  omega
theorem cn_mo {kd k l : Nat} (h : k ≤ l) : cn kd k ≤ cn kd l := by
  unfold cn
  by_cases c : kd = 3 ∧ 3 < k
  · rw [if_pos c, if_pos ⟨c.1, by omega⟩]
    omega
  · rw [if_neg c]
    by_cases d : kd = 3 ∧ 3 < l
    · rw [if_pos d]
      omega
    · rw [if_neg d]
      exact h
/-- the body's points while they are filled in: those of the first k knots, in order -/
def FI (kd : Nat) (s0 s : cS) (b k : Nat) : Prop := cf (rg (b + 1) (b + 4)) s0 s ∧ qI s (b + 1) 0 = Int32.ofNat (cn kd k) ∧ (∀ j, j < cn kd k → ∃ i, i < k ∧ okk kd i ∧ pc s (b + 1) j = pc s0 30 i) ∧ (∀ i, i < k → okk kd i → ∃ j, j < cn kd k ∧ pc s (b + 1) j = pc s0 30 i) ∧ ((∀ i i', i < k → i' < k → okk kd i → okk kd i' → pc s0 30 i = pc s0 30 i' → i = i') → ∀ j j', j < j' → j' < cn kd k → lxl (pc s (b + 1) j) (pc s (b + 1) j'))
theorem FI_put {kd : Nat} {s0 s s' : cS} {b k q : Nat} (ok : okk kd k) (h : FI kd s0 s b k) (p : pio s s' (b + 1) (cn kd k) q (pc s0 30 k)) : FI kd s0 s' b (k + 1) := by
  obtain ⟨h1, h2, h3, h4, h5⟩ := h
  obtain ⟨p1, p2, p3, p4, p5, p6, p7, p8⟩ := p
  refine ⟨h1.tr (p1.mo (fun i hi => ⟨hi.1, hi.2⟩)), by rw [cn_s ok]; exact p2, ?_, ?_, ?_⟩
  · rw [cn_s ok]
    intro j hj
    by_cases c : j < q
    · obtain ⟨i, a1, a2, a3⟩ := h3 j (by omega)
      exact ⟨i, by omega, a2, (p4 j c).trans a3⟩
    · by_cases d : j = q
      · exact ⟨k, by omega, ok, by rw [d]; exact p5⟩
      · obtain ⟨i, a1, a2, a3⟩ := h3 (j - 1) (by omega)
        exact ⟨i, by omega, a2, (p6 j (by omega) (by omega)).trans a3⟩
  · rw [cn_s ok]
    intro i hi oi
    by_cases c : i = k
    · exact ⟨q, by omega, by rw [c]; exact p5⟩
    · obtain ⟨j, a1, a2⟩ := h4 i (by omega) oi
      by_cases d : j < q
      · exact ⟨j, by omega, (p4 j d).trans a2⟩
      · refine ⟨j + 1, by omega, (p6 (j + 1) (by omega) (by omega)).trans ?_⟩
        rw [Nat.add_sub_cancel]
        exact a2
  · intro D j j' hj hj'
    rw [cn_s ok] at hj'
    have old := h5 (fun i i' hi hi' => D i i' (by omega) (by omega))
    have below : ∀ j, j < q → lxl (pc s (b + 1) j) (pc s0 30 k) := by
      intro j hj
      have last : lxl (pc s (b + 1) (q - 1)) (pc s0 30 k) := by
        rcases lxl_tri (pc s (b + 1) (q - 1)) (pc s0 30 k) with w | w | w
        · exact w
        · exact absurd w (p8 (by omega))
        · obtain ⟨i, a1, a2, a3⟩ := h3 (q - 1) (by omega)
          have := D i k (by omega) (by omega) a2 ok (a3.symm.trans w)
          omega
      by_cases c : j = q - 1
      · rw [c]
        exact last
      · exact lxl_tr (old j (q - 1) (by omega) (by omega)) last
    by_cases c1 : j' < q
    · rw [p4 j (by omega), p4 j' c1]
      exact old j j' hj (by omega)
    · by_cases c2 : j' = q
      · rw [c2, p5, p4 j (by omega)]
        exact below j (by omega)
      · rw [p6 j' (by omega) (by omega)]
        by_cases c3 : j < q
        · rw [p4 j c3]
          exact lxl_tr (below j c3) (p7 (j' - 1) (by omega) (by omega))
        · by_cases c4 : j = q
          · rw [c4, p5]
            exact p7 (j' - 1) (by omega) (by omega)
          · rw [p6 j (by omega) (by omega)]
            exact old (j - 1) (j' - 1) (by omega) (by omega)
theorem FI_skip {kd : Nat} {s0 s : cS} {b k : Nat} (nk : ¬ okk kd k) (h : FI kd s0 s b k) : FI kd s0 s b (k + 1) := by
  obtain ⟨h1, h2, h3, h4, h5⟩ := h
  refine ⟨h1, by rw [cn_n nk]; exact h2, ?_, ?_, ?_⟩
  · rw [cn_n nk]
    intro j hj
    obtain ⟨i, a1, a2⟩ := h3 j hj
    exact ⟨i, by omega, a2⟩
  · rw [cn_n nk]
    intro i hi oi
    by_cases c : i = k
    · exact absurd (c ▸ oi) nk
    · exact h4 i (by omega) oi
  · rw [cn_n nk]
    intro D
    exact h5 (fun i i' hi hi' => D i i' (by omega) (by omega))
/-- the loop over the knots -/
theorem c_fill16 {N b K kd : Nat} {s0 : cS} (hN : 600 < N) (hb : isB b) (hK : K ≤ 25) (hc : cn kd K ≤ 24) (h0 : qI s0 30 0 = Int32.ofNat K) (hkd : kd < 5) : ∀ (r k f : Nat) (s : cS), k + r = K → r < f → FI kd s0 s b k → ∃ s', fxX2_fill_16 N f 28 b (Int32.ofNat kd) 30 (Int32.ofNat k) (hC s) = fxX2_fill_73 N N 28 b (Int32.ofNat kd) 0 (hC s') ∧ FI kd s0 s' b K := by
  obtain ⟨hb0, hb1, -⟩ := isB_sh hb
  have rb := (isB_rg hb).1
  have e1' : shp 31 = (10, 25) := (pt_sh s30).2.1
  have e2' : shp 32 = (10, 25) := (pt_sh s30).2.2.1
  have e3' : shp 33 = (10, 25) := (pt_sh s30).2.2.2
  have hb1' : (shp (b + 1)).1 = 3 := by rw [hb1]
  intro r
  induction r with
  | zero =>
    intro k f s hk hf h
    obtain ⟨f', rfl⟩ : ∃ f', f = f' + 1 := ⟨f - 1, by omega⟩
    have e : k = K := by omega
    subst e
    refine ⟨s, ?_, h⟩
    rw [fxX2_fill_16, gI_3_0 s30', Option.bind_some, h.1.I (fun w => by have := w.1; have := w.2; omega), h0, if_pos (Int32.le_refl _)]
  | succ r ih =>
    intro k f s hk hf h
    obtain ⟨f', rfl⟩ : ∃ f', f = f' + 1 := ⟨f - 1, by omega⟩
    have ne : ¬ (Int32.ofNat K ≤ Int32.ofNat k) := by
      rw [i_le (by omega) (by omega)]
      omega
    rw [fxX2_fill_16, gI_3_0 s30', Option.bind_some, h.1.I (fun w => by have := w.1; have := w.2; omega), h0, if_neg ne]
    have pe : pc s 30 k = pc s0 30 k := pc_cf h.1 (fun i a b w => by have := w.1; have := w.2; omega) k
    have go : okk kd k → ∃ s', fxX2_fill_36 N (fxX2_fill_16 N f') 28 b (Int32.ofNat kd) 30 (Int32.ofNat k) (hC s) = fxX2_fill_73 N N 28 b (Int32.ofNat kd) 0 (hC s') ∧ FI kd s0 s' b K := by
      intro ok
      have hm := cn_mo (kd := kd) (show k + 1 ≤ K by omega)
      rw [cn_s ok] at hm
      obtain ⟨s1, q, q1, p1⟩ := c_putInOrder (N := N) (x := qA s 31 k) (y := qA s 32 k) (z := qA s 33 k) (s := s) hN hb1 (by omega) h.2.1 (by omega)
      have p1' : pio s s1 (b + 1) (cn kd k) q (pc s0 30 k) := by
        rw [← pe]
        exact p1
      unfold fxX2_fill_36
      rw [gR_0_1 hb0, Option.bind_some, gR_3_1 s30', Option.bind_some, aI_N e1' (show k < 25 by omega) (by decide), Option.bind_some, gR_3_2 s30', Option.bind_some, aI_N e2' (show k < 25 by omega) (by decide), Option.bind_some, gR_3_3 s30', Option.bind_some, aI_N e3' (show k < 25 by omega) (by decide), Option.bind_some, kO_3 hb1', Option.bind_some, q1, Option.bind_some]
      unfold fxX2_fill_64
      rw [i_s]
      exact ih (k + 1) f' s1 (by omega) (by omega) (FI_put ok h p1')
    by_cases c : kd = 3
    · subst c
      rw [if_pos (show Int32.ofNat 3 = (3 : Int32) from rfl)]
      by_cases d : k = 3
      · subst d
        rw [if_pos (show Int32.ofNat 3 = (3 : Int32) from rfl)]
        unfold fxX2_fill_64
        rw [i_s]
        exact ih (3 + 1) f' s (by omega) (by omega) (FI_skip (fun w => w ⟨rfl, rfl⟩) h)
      · rw [if_neg (fun w : Int32.ofNat k = (3 : Int32) => d (i_inj (b := 3) (by omega) (by omega) w))]
        exact go (fun w => d w.2)
    · rw [if_neg (fun w : Int32.ofNat kd = (3 : Int32) => c (i_inj (b := 3) (by omega) (by omega) w))]
      exact go (fun w => c w.1)
