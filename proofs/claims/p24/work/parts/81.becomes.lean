/-- of what is kept between calls, only SOLIDS have changed -/
def fj (s s' : mS) : Prop := s'.1 9 = s.1 9 ∧ ∀ k, k < 15 → ¬ k ∈ [4, 5, 6, 7, 8] → s'.2.2.1 k = s.2.2.1 k
theorem fr.fj {L : List Nat} {s s' : mS} (h : fr L s s') (hL : ∀ k, k ∈ L → 15 ≤ k ∨ k ∈ [4, 5, 6, 7, 8]) : fj s s' := by
  refine ⟨h.I (fun q => ?_), fun k hk hk2 => h.A (fun q => ?_)⟩
  · rcases hL 9 q with w | w
    · omega
    · exact absurd w (by decide)
  · rcases hL k q with w | w
    · omega
    · exact hk2 w
/-- another SOLID i -/
theorem INV_slot {s s' : mS} {i : Nat} (h : INV s) (f : fj s s') (h1 : ∀ t, t ≠ i → s'.2.2.1 4 t = s.2.2.1 4 t ∧ s'.2.2.1 5 t = s.2.2.1 5 t) (h2 : ∀ t, t < 24 * i ∨ 24 * i + 24 ≤ t → s'.2.2.1 6 t = s.2.2.1 6 t ∧ s'.2.2.1 7 t = s.2.2.1 7 t ∧ s'.2.2.1 8 t = s.2.2.1 8 t) (h3 : slt (s'.2.2.1 4) (s'.2.2.1 5) (s'.2.2.1 6) (s'.2.2.1 7) (s'.2.2.1 8) i) : INV s' := by
  obtain ⟨c, g1, g2, g3, g4, g5⟩ := h
  refine ⟨c, g1, by rw [f.1]; exact g2, fun j hj => ?_, ?_, ?_⟩
  · by_cases w : j = i
    · rw [w]
      exact h3
    · obtain ⟨m, k, e1, e2, e3⟩ := g3 j hj
      refine ⟨m, k, by rw [(h1 j w).1]; exact e1, by rw [(h1 j w).2]; exact e2, okP_congr (fun t ht => ?_) e3⟩
      have := e3.1
      obtain ⟨a, b, c⟩ := h2 (24 * j + t) (by omega)
      unfold cP3
      rw [a, b, c]
  · rw [f.2 _ (by decide) (by decide), f.2 _ (by decide) (by decide), f.2 _ (by decide) (by decide), f.2 _ (by decide) (by decide), f.2 _ (by decide) (by decide)]
    exact g4
  · rw [f.2 _ (by decide) (by decide), f.2 _ (by decide) (by decide), f.2 _ (by decide) (by decide), f.2 _ (by decide) (by decide)]
    exact g5
theorem x_isPt {N : Nat} {x y z : Int64} {s : mS} : (bd3 (x.toInt, y.toInt, z.toInt) 100 ∧ mxX7_isPoint N x y z s = some (s, 1)) ∨ (¬ bd3 (x.toInt, y.toInt, z.toInt) 100 ∧ mxX7_isPoint N x y z s = some (s, 0)) := by
  have lo : (-100 : Int64).toInt = -100 := rfl
  have hi : (100 : Int64).toInt = 100 := rfl
  unfold mxX7_isPoint bd3
  simp only [Int64.lt_iff_toInt_lt, lo, hi]
  by_cases a : x.toInt < -100
  · right
    refine ⟨fun q => ?_, if_pos a⟩
    have := q.1
    omega
  rw [if_neg a]
  by_cases b : 100 < x.toInt
  · right
    refine ⟨fun q => ?_, if_pos b⟩
    have := q.1
    omega
  rw [if_neg b]
  by_cases c : y.toInt < -100
  · right
    refine ⟨fun q => ?_, if_pos c⟩
    have := q.2.1
    omega
  rw [if_neg c]
  by_cases d : 100 < y.toInt
  · right
    refine ⟨fun q => ?_, if_pos d⟩
    have := q.2.1
    omega
  rw [if_neg d]
  by_cases e : z.toInt < -100
  · right
    refine ⟨fun q => ?_, if_pos e⟩
    have := q.2.2
    omega
  rw [if_neg e]
  by_cases f : 100 < z.toInt
  · right
    refine ⟨fun q => ?_, if_pos f⟩
    have := q.2.2
    omega
  rw [if_neg f]
  left
  refine ⟨⟨?_, ?_, ?_⟩, rfl⟩
  · show x.toInt.natAbs ≤ 100
    omega
  · show y.toInt.natAbs ≤ 100
    omega
  · show z.toInt.natAbs ≤ 100
    omega
/-- those of the first p that are farthest along some way -/
def exK (P : Nat → V3) (n p m : Nat) (c : Nat → Nat) : Prop := (∀ j, j < m → c j < p ∧ ex P n (c j)) ∧ (∀ i j, i < j → j < m → c i < c j) ∧ ∀ q, q < p → ex P n q → ∃ j, j < m ∧ c j = q
theorem exK_no {P : Nat → V3} {n p m : Nat} {c : Nat → Nat} (h : exK P n p m c) (hp : ¬ ex P n p) : exK P n (p + 1) m c := by
  refine ⟨fun j hj => ⟨by have := (h.1 j hj).1; omega, (h.1 j hj).2⟩, h.2.1, fun q hq xq => ?_⟩
  by_cases w : q = p
  · rw [w] at xq
    exact absurd xq hp
  · exact h.2.2 q (by omega) xq
theorem exK_yes {P : Nat → V3} {n p m : Nat} {c : Nat → Nat} (h : exK P n p m c) (hp : ex P n p) : exK P n (p + 1) (m + 1) (fun j => if j < m then c j else p) := by
  refine ⟨fun j hj => ?_, fun i j hij hj => ?_, fun q hq xq => ?_⟩
  · by_cases w : j < m
    · simp only [if_pos w]
      exact ⟨by have := (h.1 j w).1; omega, (h.1 j w).2⟩
    · simp only [if_neg w]
      exact ⟨by omega, hp⟩
  · by_cases w : j < m
    · simp only [if_pos w, if_pos (show i < m by omega)]
      exact h.2.1 i j hij w
    · simp only [if_neg w, if_pos (show i < m by omega)]
      exact (h.1 i (by omega)).1
  · by_cases w : q = p
    · refine ⟨m, by omega, ?_⟩
      simp only [if_neg (show ¬ m < m by omega)]
      exact w.symm
    · obtain ⟨j, j1, j2⟩ := h.2.2 q (by omega) xq
      refine ⟨j, by omega, ?_⟩
      simp only [if_pos j1]
      exact j2
theorem exK_L {P : Nat → V3} {n m : Nat} {c : Nat → Nat} (h : exK P n n m c) : exL P n m c := h
/-- as many as are found, at least -/
theorem exK_le {P : Nat → V3} {n p m m' : Nat} {c c' : Nat → Nat} (hp : p ≤ n) (h : exK P n p m c) (h' : exL P n m' c') : m ≤ m' := by
  have ch : ∀ j, ∃ t, j < m → t < m' ∧ c' t = c j := by
    intro j
    by_cases w : j < m
    · obtain ⟨t, t1, t2⟩ := h'.2.2 (c j) (by have := (h.1 j w).1; omega) (h.1 j w).2
      exact ⟨t, fun _ => ⟨t1, t2⟩⟩
    · exact ⟨0, fun q => absurd q w⟩
  refine pigeon m' m (fun j => (ch j).choose) (fun k hk => ((ch k).choose_spec hk).1) (fun a b hab hb e => ?_)
  have e1 := ((ch a).choose_spec (by omega)).2
  have e2 := ((ch b).choose_spec hb).2
  have e' : (ch a).choose = (ch b).choose := e
  rw [e'] at e1
  have := h.2.1 a b hab hb
  omega
/-- just the marks of those that are farthest along some way -/
def mkX (s : mS) (n : Nat) : Prop := ∀ p, p < n → s.2.2.1 19 p = 1 ∧ ex (hp s) n p ∨ s.2.2.1 19 p = 0 ∧ ¬ ex (hp s) n p
theorem x_b5 {N i k n : Nat} {s : mS} (hn : n ≤ 600) (h15 : s.1 15 = Int32.ofNat n) (hm : mkX s n) : ∀ (q f p m : Nat) (c : Nat → Nat), p + q = n → q < f → exK (hp s) n p m c → m ≤ 24 → (∀ j, j < m → bd3 (hp s (c j)) 100) → (mxX7_becomes_5 N f (Int32.ofNat i) (Int32.ofNat k) (Int32.ofNat m) (Int32.ofNat p) s = some (s, 0) ∧ ∀ m' c', exL (hp s) n m' c' → ¬ (m' ≤ 24 ∧ ∀ j, j < m' → bd3 (hp s (c' j)) 100)) ∨ (mxX7_becomes_5 N f (Int32.ofNat i) (Int32.ofNat k) (Int32.ofNat m) (Int32.ofNat p) s = ((mxX7_keeps N s).bind fun o2 => mxX7_becomes_80 N N (Int32.ofNat i) (Int32.ofNat k) 0 0 o2) ∧ ∃ m' c', exL (hp s) n m' c' ∧ m' ≤ 24 ∧ ∀ j, j < m' → bd3 (hp s (c' j)) 100) := by
  intro q
  induction q with
  | zero =>
    intro f p m c hp hf hc h24 hb
    obtain ⟨f', rfl⟩ : ∃ f', f = f' + 1 := ⟨f - 1, by omega⟩
    have hpn : p = n := by omega
    subst hpn
    right
    refine ⟨?_, m, c, hc, h24, hb⟩
    rw [mxX7_becomes_5, h15, if_pos (Int32.le_refl _)]
  | succ q ih =>
    intro f p m c hp0 hf hc h24 hb
    obtain ⟨f', rfl⟩ : ∃ f', f = f' + 1 := ⟨f - 1, by omega⟩
    have ne : ¬ (Int32.ofNat n ≤ Int32.ofNat p) := by
      rw [i_le (by omega) (by omega)]
      omega
    rw [mxX7_becomes_5, h15, if_neg ne, rA600 rfl (by omega), Option.bind_some]
    rcases hm p (by omega) with ⟨m1, xp⟩ | ⟨m0, xp⟩
    · rw [m1, if_neg (by decide), i_s]
      have l24 : ((24 : Int32) < Int32.ofNat (m + 1)) = (24 < m + 1) := i_lt (a := 24) (b := m + 1) (by omega) (by omega)
      by_cases c24 : 24 < m + 1
      · rw [if_pos (by rw [l24]; exact c24)]
        left
        refine ⟨rfl, fun m' c' hL h => ?_⟩
        have := exK_le (by omega : p + 1 ≤ n) (exK_yes hc xp) hL
        omega
      · rw [if_neg (by rw [l24]; exact c24), rG600 rfl (by omega), Option.bind_some, rG600 rfl (by omega), Option.bind_some, rG600 rfl (by omega), Option.bind_some]
        rcases x_isPt (N := N) (x := s.2.2.2 16 p) (y := s.2.2.2 17 p) (z := s.2.2.2 18 p) (s := s) with ⟨b1, e⟩ | ⟨b1, e⟩
        · rw [e, Option.bind_some]
          dsimp only
          rw [if_neg (by decide)]
          unfold mxX7_becomes_65
          rw [i_s]
          refine ih f' (p + 1) (m + 1) _ (by omega) (by omega) (exK_yes hc xp) (by omega) (fun j hj => ?_)
          by_cases w : j < m
          · simp only [if_pos w]
            exact hb j w
          · simp only [if_neg w]
            exact b1
        · rw [e, Option.bind_some]
          dsimp only
          rw [if_pos rfl]
          left
          refine ⟨rfl, fun m' c' hL h => ?_⟩
          obtain ⟨j, j1, j2⟩ := hL.2.2 p (by omega) xp
          have := h.2 j j1
          rw [j2] at this
          exact b1 this
    · rw [m0, if_pos rfl]
      unfold mxX7_becomes_65
      rw [i_s]
      exact ih f' (p + 1) m c (by omega) (by omega) (exK_no hc xp) h24 hb
theorem bm32 {x : Int} (h : x.natAbs < 2147483648) : Int.bmod x (2 ^ 32) = x := by
  have e : (((2 ^ 32 : Nat)) : Int) = 4294967296 := rfl
  apply Int.bmod_eq_of_le
  · rw [e]
    omega
  · rw [e]
    omega
theorem i64_32 {a : Int64} (h : a.toInt.natAbs ≤ 1000000) : a.toInt32.toInt = a.toInt := by
  rw [Int64.toInt_toInt32]
  exact bm32 (by omega)
/-- SOLID i is written -/
def bcO (s s' : mS) (i m k : Nat) (Q : Nat → V3) : Prop := fj s s' ∧ (∀ t, t ≠ i → s'.2.2.1 4 t = s.2.2.1 4 t ∧ s'.2.2.1 5 t = s.2.2.1 5 t) ∧ (∀ t, t < 24 * i ∨ 24 * i + 24 ≤ t → s'.2.2.1 6 t = s.2.2.1 6 t ∧ s'.2.2.1 7 t = s.2.2.1 7 t ∧ s'.2.2.1 8 t = s.2.2.1 8 t) ∧ s'.2.2.1 4 i = Int32.ofNat m ∧ s'.2.2.1 5 i = Int32.ofNat k ∧ ∀ j, j < m → cP s' i j = Q j
def sC (s : mS) (k : Nat) (a b c : Int32) : mS := sA (sA (sA s 6 k a) 7 k b) 8 k c
theorem fr_sC (s : mS) (k : Nat) (a b c : Int32) : fr [6, 7, 8] s (sC s k a b c) := (((fr_sA s 6 k a).mo (by decide)).tr ((fr_sA _ 7 k b).mo (by decide))).tr ((fr_sA _ 8 k c).mo (by decide))
theorem sC_6 (s : mS) (k : Nat) (a b c : Int32) (t : Nat) : (sC s k a b c).2.2.1 6 t = if t = k then a else s.2.2.1 6 t := by
  unfold sC
  simp only [sA_at]
  simp
theorem sC_7 (s : mS) (k : Nat) (a b c : Int32) (t : Nat) : (sC s k a b c).2.2.1 7 t = if t = k then b else s.2.2.1 7 t := by
  unfold sC
  simp only [sA_at]
  simp
theorem sC_8 (s : mS) (k : Nat) (a b c : Int32) (t : Nat) : (sC s k a b c).2.2.1 8 t = if t = k then c else s.2.2.1 8 t := by
  unfold sC
  simp only [sA_at]
  simp
theorem x_b80 {N i k n m' : Nat} {c' : Nat → Nat} {s : mS} (hi : i < 8) (hn : n ≤ 600) (h15 : s.1 15 = Int32.ofNat n) (hm : mkX s n) (hL : exL (hp s) n m' c') (h24 : m' ≤ 24) (hb : ∀ j, j < m' → bd3 (hp s (c' j)) 100) : ∀ (q f p m : Nat) (h : mS), p + q = n → q < f → fr [6, 7, 8] s h → m ≤ m' → (∀ j, j < m → c' j < p) → (∀ j, m ≤ j → j < m' → p ≤ c' j) → (∀ t, t < 24 * i ∨ 24 * i + 24 ≤ t → h.2.2.1 6 t = s.2.2.1 6 t ∧ h.2.2.1 7 t = s.2.2.1 7 t ∧ h.2.2.1 8 t = s.2.2.1 8 t) → (∀ j, j < m → cP h i j = hp s (c' j)) → ∃ s', mxX7_becomes_80 N f (Int32.ofNat i) (Int32.ofNat k) (Int32.ofNat m) (Int32.ofNat p) h = some (s', 1) ∧ bcO s s' i m' k (fun j => hp s (c' j)) := by
  intro q
  induction q with
  | zero =>
    intro f p m h hp0 hf f1 hmm lo hi2 out cp
    obtain ⟨f', rfl⟩ : ∃ f', f = f' + 1 := ⟨f - 1, by omega⟩
    have hpn : p = n := by omega
    subst hpn
    have mm : m = m' := by
      by_cases w : m = m'
      · exact w
      · have h1 := hi2 m (Nat.le_refl m) (by omega)
        have h2 := (hL.1 m (by omega)).1
        omega
    subst mm
    refine ⟨sA (sA h 4 i (Int32.ofNat m)) 5 i (Int32.ofNat k), ?_, ?_⟩
    · rw [mxX7_becomes_80, f1.I (by decide), h15, if_pos (Int32.le_refl _), wA8 rfl hi, Option.bind_some, wA8 rfl hi, Option.bind_some]
    · have g1 : fr [4, 5] h (sA (sA h 4 i (Int32.ofNat m)) 5 i (Int32.ofNat k)) := ((fr_sA _ _ _ _).mo (by decide)).tr ((fr_sA _ _ _ _).mo (by decide))
      have at4 : ∀ t, (sA (sA h 4 i (Int32.ofNat m)) 5 i (Int32.ofNat k)).2.2.1 4 t = if t = i then Int32.ofNat m else h.2.2.1 4 t := by
        intro t
        simp only [sA_at]
        simp
      have at5 : ∀ t, (sA (sA h 4 i (Int32.ofNat m)) 5 i (Int32.ofNat k)).2.2.1 5 t = if t = i then Int32.ofNat k else h.2.2.1 5 t := by
        intro t
        simp only [sA_at]
        simp
      refine ⟨(((f1.mo (by decide)).tr (g1.mo (by decide)) : fr [4, 5, 6, 7, 8] s _)).fj (by decide), fun t ht => ?_, fun t ht => ?_, ?_, ?_, fun j hj => ?_⟩
      · rw [at4, at5, if_neg ht, if_neg ht, f1.A (by decide), f1.A (by decide)]
        exact ⟨rfl, rfl⟩
      · rw [g1.A (by decide), g1.A (by decide), g1.A (by decide)]
        exact out t ht
      · rw [at4, if_pos rfl]
      · rw [at5, if_pos rfl]
      · have : cP (sA (sA h 4 i (Int32.ofNat m)) 5 i (Int32.ofNat k)) i j = cP h i j := by
          unfold cP
          rw [g1.A (by decide), g1.A (by decide), g1.A (by decide)]
        rw [this]
        exact cp j hj
  | succ q ih =>
    intro f p m h hp0 hf f1 hmm lo hi2 out cp
    obtain ⟨f', rfl⟩ : ∃ f', f = f' + 1 := ⟨f - 1, by omega⟩
    have ne : ¬ (Int32.ofNat n ≤ Int32.ofNat p) := by
      rw [i_le (by omega) (by omega)]
      omega
    rw [mxX7_becomes_80, f1.I (by decide), h15, if_neg ne, rA600 rfl (by omega), Option.bind_some, f1.A (by decide)]
    rcases hm p (by omega) with ⟨m1, xp⟩ | ⟨m0, xp⟩
    · obtain ⟨j, j1, j2⟩ := hL.2.2 p (by omega) xp
      have jm : j = m := by
        by_cases w : j < m
        · have := lo j w
          omega
        · by_cases w2 : j = m
          · exact w2
          · have := hi2 m (Nat.le_refl m) (by omega)
            have := hL.2.1 m j (by omega) j1
            omega
      subst jm
      rw [m1, if_neg (by decide), rG600 rfl (by omega), Option.bind_some, i_24, wA192 rfl (by omega), Option.bind_some, rG600 rfl (by omega), Option.bind_some, wA192 rfl (by omega), Option.bind_some, rG600 rfl (by omega), Option.bind_some, wA192 rfl (by omega), Option.bind_some]
      have key : sA (sA (sA h 6 (24 * i + j) (h.2.2.2 16 p).toInt32) 7 (24 * i + j) ((sA h 6 (24 * i + j) (h.2.2.2 16 p).toInt32).2.2.2 17 p).toInt32) 8 (24 * i + j) ((sA (sA h 6 (24 * i + j) (h.2.2.2 16 p).toInt32) 7 (24 * i + j) ((sA h 6 (24 * i + j) (h.2.2.2 16 p).toInt32).2.2.2 17 p).toInt32).2.2.2 18 p).toInt32 = sC h (24 * i + j) (s.2.2.2 16 p).toInt32 (s.2.2.2 17 p).toInt32 (s.2.2.2 18 p).toInt32 := by
        unfold sC
        rw [f1.G (by decide)]
        show sA (sA (sA h 6 (24 * i + j) (s.2.2.2 16 p).toInt32) 7 (24 * i + j) (h.2.2.2 17 p).toInt32) 8 (24 * i + j) (h.2.2.2 18 p).toInt32 = _
        rw [f1.G (by decide), f1.G (by decide)]
      rw [key]
      unfold mxX7_becomes_162
      rw [i_s, i_s]
      have bp := hb j j1
      rw [j2] at bp
      refine ih f' (p + 1) (j + 1) _ (by omega) (by omega) (f1.tr (fr_sC _ _ _ _ _)) (by omega) (fun t ht => ?_) (fun t t1 t2 => ?_) (fun t ht => ?_) (fun t ht => ?_)
      · by_cases w : t = j
        · rw [w, j2]
          omega
        · have := lo t (by omega)
          omega
      · have := hL.2.1 j t (by omega) t2
        omega
      · rw [sC_6, sC_7, sC_8, if_neg (by omega), if_neg (by omega), if_neg (by omega)]
        exact out t ht
      · unfold cP cP3
        rw [sC_6, sC_7, sC_8]
        by_cases w : t = j
        · rw [if_pos (by omega), if_pos (by omega), if_pos (by omega), w, j2, i64_32 (by have := bp.1; unfold hp at this; simp only at this; omega), i64_32 (by have := bp.2.1; unfold hp at this; simp only at this; omega), i64_32 (by have := bp.2.2; unfold hp at this; simp only at this; omega)]
          rfl
        · rw [if_neg (by omega), if_neg (by omega), if_neg (by omega)]
          exact cp t (by omega)
    · rw [m0, if_pos rfl]
      unfold mxX7_becomes_162
      rw [i_s]
      refine ih f' (p + 1) m h (by omega) (by omega) f1 hmm (fun t ht => ?_) (fun t t1 t2 => ?_) out cp
      · have := lo t ht
        omega
      · have h1 := hi2 t t1 t2
        by_cases w : c' t = p
        · have := (hL.1 t t2).2
          rw [w] at this
          exact absurd this xp
        · omega
/-- becomes: refused, or the points that are farthest along some way are SOLID i -/
theorem x_becomes {N i k n : Nat} {s : mS} (hN : 1000000 < N) (hi : i < 8) (hn : n ≤ 600) (hI : INV s) (hO : hpO s n) (hm : mkX s n) (kd : ∀ m c, exL (hp s) n m c → kdP (fun j => hp s (c j)) m k) : (mxX7_becomes N (Int32.ofNat i) (Int32.ofNat k) s = some (s, 0) ∧ ∀ m' c', exL (hp s) n m' c' → ¬ (m' ≤ 24 ∧ ∀ j, j < m' → bd3 (hp s (c' j)) 100)) ∨ ∃ s1 s' m c, mxX7_becomes N (Int32.ofNat i) (Int32.ofNat k) s = some (s', 1) ∧ exL (hp s) n m c ∧ okP (fun j => hp s (c j)) m k ∧ kpO s s1 ∧ bcO s1 s' i m k (fun j => hp s (c j)) ∧ INV s' := by
  unfold mxX7_becomes
  rcases x_b5 (N := N) (i := i) (k := k) hn hO.1 hm n N 0 0 (fun _ => 0) (by omega) (by omega) ⟨fun j hj => absurd hj (by omega), fun a b _ hb => absurd hb (by omega), fun q hq => absurd hq (by omega)⟩ (by omega) (fun j hj => absurd hj (by omega)) with ⟨e, h⟩ | ⟨e, m, c, hL, h24, hb⟩
  · exact .inl ⟨e, h⟩
  · right
    have hI' := hI
    obtain ⟨c0, g1, g2, -⟩ := hI'
    obtain ⟨s1, e1, K⟩ := x_keeps (N := N) (by omega) g1 g2
    have f := K.1
    have hp1 : hp s1 = hp s := by
      funext t
      unfold hp
      rw [f.G (by decide), f.G (by decide), f.G (by decide)]
    have hm1 : mkX s1 n := by
      intro p hp0
      rw [f.A (by decide), hp1]
      exact hm p hp0
    obtain ⟨s', e2, B⟩ := x_b80 (N := N) (i := i) (k := k) (s := s1) hi hn (by rw [f.I (by decide)]; exact hO.1) hm1 (by rw [hp1]; exact hL) h24 (by rw [hp1]; exact hb) n N 0 0 s1 (by omega) (by omega) fr.rf (by omega) (fun j hj => absurd hj (by omega)) (fun j _ _ => by omega) (fun t _ => ⟨rfl, rfl, rfl⟩) (fun j hj => absurd hj (by omega))
    rw [hp1] at B
    have ok := ok_exP hO hL (kd m c hL) h24 hb
    have e' : mxX7_becomes_5 N N (Int32.ofNat i) (Int32.ofNat k) 0 0 s = some (s', 1) := by
      have e0 : mxX7_becomes_5 N N (Int32.ofNat i) (Int32.ofNat k) 0 0 s = (mxX7_keeps N s).bind fun o2 => mxX7_becomes_80 N N (Int32.ofNat i) (Int32.ofNat k) 0 0 o2 := e
      rw [e0, e1, Option.bind_some]
      exact e2
    refine ⟨s1, s', m, c, e', hL, ok, K, B, ?_⟩
    obtain ⟨b1, b2, b3, b4, b5, b6⟩ := B
    exact INV_slot (INV_keeps hI K) b1 b2 b3 ⟨m, k, b4, b5, okP_congr b6 ok⟩
