theorem x_over {N f : Nat} {s : mS} (hf : f < 128) : ∃ v, mxX7_overFace N (Int32.ofNat f) s = some (s, v) := by
  unfold mxX7_overFace
  rw [rG128 rfl hf, Option.bind_some, rG128 rfl hf, Option.bind_some, rG128 rfl hf, Option.bind_some, rG128 rfl hf, Option.bind_some]
  exact ⟨_, rfl⟩
theorem x_onLine {N p q : Nat} {s : mS} (hp0 : p < 48) (hq : q < 48) : ∃ v, mxX7_onLine N (Int32.ofNat p) (Int32.ofNat q) s = some (s, v) := by
  unfold mxX7_onLine
  rw [rG48 rfl hq, Option.bind_some, rG48 rfl hp0, Option.bind_some, rG48 rfl hq, Option.bind_some, rG48 rfl hp0, Option.bind_some, rG48 rfl hq, Option.bind_some, rG48 rfl hp0, Option.bind_some, Option.bind_some, Option.bind_some, Option.bind_some]
  split
  · split
    · split
      · split
        · exact ⟨_, rfl⟩
        · split
          · exact ⟨_, rfl⟩
          · exact ⟨_, rfl⟩
      · exact ⟨_, rfl⟩
    · exact ⟨_, rfl⟩
  · exact ⟨_, rfl⟩
theorem x_io10 {N g F E m f r : Nat} {s : mS} (hg : g < 2) (hT : tbS s g F E m) (hf : f < F) (hr : s.2.2.1 32 (64 * g + f) = Int32.ofNat r) (hr25 : r ≤ 25) : ∀ (q fu j : Nat), j + q = r → q < fu → ∃ v, mxX7_isOver_10 N fu (Int32.ofNat g) (Int32.ofNat (64 * g + f)) (Int32.ofNat r) (Int32.ofNat j) s = some (s, v) := by
  obtain ⟨t1, t2, t3, t4, t5, t6, t7⟩ := hT
  obtain ⟨⟨r', a1, a2, a3, a4⟩, -⟩ := t6 f hf
  have rr : r' = r := i_inj (by omega) (by omega) (a3.symm.trans hr)
  subst rr
  intro q
  induction q with
  | zero =>
    intro fu j hj hfu
    obtain ⟨f', rfl⟩ : ∃ f', fu = f' + 1 := ⟨fu - 1, by omega⟩
    rw [mxX7_isOver_10, if_pos (by rw [i_le (by omega) (by omega)]; omega)]
    exact ⟨_, rfl⟩
  | succ q ih =>
    intro fu j hj hfu
    obtain ⟨f', rfl⟩ : ∃ f', fu = f' + 1 := ⟨fu - 1, by omega⟩
    have ne : ¬ (Int32.ofNat r' ≤ Int32.ofNat j) := by
      rw [i_le (by omega) (by omega)]
      omega
    have nz : ¬ (Int32.ofNat r' = 0) := fun e => by
      have := i_inj (a := r') (b := 0) (by omega) (by omega) e
      omega
    have bN : (if j + 1 < r' then j + 1 else 0) < r' := by
      by_cases c : j + 1 < r'
      · rw [if_pos c]
        exact c
      · rw [if_neg c]
        omega
    obtain ⟨p, p1, p2⟩ := a4 j (by omega)
    obtain ⟨u, u1, u2⟩ := a4 _ bN
    rw [mxX7_isOver_10, if_neg ne, i_25, rA3200 rfl (by omega), Option.bind_some, p2, if_neg nz, i_mod r' (by omega) j (by omega), i_25, rA3200 rfl (by omega), Option.bind_some, u2, i_24, i_24]
    rw [rG48 rfl (by omega), Option.bind_some, rG48 rfl (by omega), Option.bind_some, rG48 rfl (by omega), Option.bind_some, rG48 rfl (by omega), Option.bind_some, rG48 rfl (by omega), Option.bind_some, rG48 rfl (by omega), Option.bind_some, Option.bind_some, Option.bind_some, Option.bind_some, rG128 rfl (by omega), Option.bind_some, rG128 rfl (by omega), Option.bind_some, rG128 rfl (by omega), Option.bind_some]
    split
    · rw [i_s]
      exact ih f' (j + 1) (by omega) (by omega)
    · exact ⟨_, rfl⟩
theorem x_isOver {N g F E m f : Nat} {s : mS} (hN : 600 < N) (hg : g < 2) (hT : tbS s g F E m) (hf : f < F) : ∃ v, mxX7_isOver N (Int32.ofNat g) (Int32.ofNat (64 * g + f)) s = some (s, v) := by
  have hF := hT.2.1
  obtain ⟨⟨r, a1, a2, a3, -⟩, -⟩ := hT.2.2.2.2.2.1 f hf
  unfold mxX7_isOver
  rw [rA128 rfl (by omega), Option.bind_some, a3]
  exact x_io10 hg hT hf a3 a2 r N 0 (by omega) (by omega)
theorem x_w146 {N g F E m : Nat} {s : mS} (hg : g < 2) (hT : tbS s g F E m) : ∀ (q fu f : Nat) (x : Int32), f + q = F → q < fu → ∃ v, mxX7_where_146 N fu (Int32.ofNat g) x (Int32.ofNat (64 * g + f)) s = some (s, v) := by
  have hF := hT.2.1
  intro q
  induction q with
  | zero =>
    intro fu f x hf hfu
    obtain ⟨f', rfl⟩ : ∃ f', fu = f' + 1 := ⟨fu - 1, by omega⟩
    have hfF : f = F := by omega
    subst hfF
    rw [mxX7_where_146, rA2 rfl hg, Option.bind_some, hT.1, i_64, if_pos (Int32.le_refl _)]
    exact ⟨_, rfl⟩
  | succ q ih =>
    intro fu f x hf hfu
    obtain ⟨f', rfl⟩ : ∃ f', fu = f' + 1 := ⟨fu - 1, by omega⟩
    have ne : ¬ (Int32.ofNat (64 * g + F) ≤ Int32.ofNat (64 * g + f)) := by
      rw [i_le (by omega) (by omega)]
      omega
    obtain ⟨v, e⟩ := x_over (N := N) (f := 64 * g + f) (s := s) (by omega)
    rw [mxX7_where_146, rA2 rfl hg, Option.bind_some, hT.1, i_64, if_neg ne, e, Option.bind_some]
    dsimp only
    unfold mxX7_where_189
    rw [i_s]
    split
    · split
      · exact ih f' (f + 1) _ (by omega) (by omega)
      · exact ih f' (f + 1) _ (by omega) (by omega)
    · exact ⟨_, rfl⟩
/-- where comes back, and changes nothing -/
theorem x_where {N g F E m k : Nat} {s : mS} (hN : 600 < N) (hg : g < 2) (hT : tbS s g F E m) (hk : k ≤ 4) (h3 : k = 3 → 1 ≤ F) : ∃ v, mxX7_where N (Int32.ofNat k) (Int32.ofNat g) s = some (s, v) := by
  have hF := hT.2.1
  unfold mxX7_where
  rcases (by omega : k = 0 ∨ k = 1 ∨ k = 2 ∨ k = 3 ∨ k = 4) with rfl | rfl | rfl | rfl | rfl
  · rw [if_pos (by decide)]
    exact ⟨_, rfl⟩
  · rw [if_neg (by decide), if_pos (by decide), i_c24, rG48 rfl (by omega), Option.bind_some, rG48 rfl (by omega), rG48 rfl (by omega)]
    split
    · rw [Option.bind_some]
      split
      · rw [Option.bind_some]
        split
        · exact ⟨_, rfl⟩
        · exact ⟨_, rfl⟩
      · exact ⟨_, rfl⟩
    · exact ⟨_, rfl⟩
  · rw [if_neg (by decide), if_neg (by decide), if_pos (by decide), i_c24, i_s]
    obtain ⟨v, e⟩ := x_onLine (N := N) (p := 24 * g) (q := 24 * g + 1) (s := s) (by omega) (by omega)
    rw [e, Option.bind_some]
    dsimp only
    split
    · exact ⟨_, rfl⟩
    · exact ⟨_, rfl⟩
  · rw [if_neg (by decide), if_neg (by decide), if_neg (by decide), if_pos (by decide), i_64']
    obtain ⟨v, e⟩ := x_over (N := N) (f := 64 * g) (s := s) (by omega)
    rw [e, Option.bind_some]
    dsimp only
    split
    · obtain ⟨v', e'⟩ := x_isOver (N := N) (f := 0) hN hg hT (by have := h3 rfl; omega)
      rw [Nat.add_zero] at e'
      rw [e', Option.bind_some]
      dsimp only
      split
      · exact ⟨_, rfl⟩
      · exact ⟨_, rfl⟩
    · exact ⟨_, rfl⟩
  · rw [if_neg (by decide), if_neg (by decide), if_neg (by decide), if_neg (by decide), i_64']
    have := x_w146 (N := N) hg hT F N 0 2 (by omega) (by omega)
    rw [Nat.add_zero] at this
    exact this
theorem x_isFar (N : Nat) (p : Int32) (s : mS) : ∃ v, mxX7_isFar N p s = some (s, v) := by
  unfold mxX7_isFar
  split
  · exact ⟨_, rfl⟩
  · split
    · exact ⟨_, rfl⟩
    · exact ⟨_, rfl⟩
theorem x_isSmall (N : Nat) (p : Int32) (s : mS) : ∃ v, mxX7_isSmall N p s = some (s, v) := by
  unfold mxX7_isSmall
  split
  · exact ⟨_, rfl⟩
  · split
    · exact ⟨_, rfl⟩
    · exact ⟨_, rfl⟩
theorem x_points (N : Nat) (a b c d : Int64) (s : mS) : ∃ s', mxX7_points N a b c d s = some s' ∧ fr [39, 40, 41, 42] s s' := by
  unfold mxX7_points
  rw [Option.bind_some, Option.bind_some, Option.bind_some, Option.bind_some]
  exact ⟨_, rfl, ((((fr_pJ _ _ _).mo (by decide)).tr ((fr_pJ _ _ _).mo (by decide))).tr ((fr_pJ _ _ _).mo (by decide))).tr ((fr_pJ _ _ _).mo (by decide))⟩
theorem x_in {N : Nat} {a x y z q : Int32} {s : mS} (hN : 1000000 < N) (hI : INV s) : Hd (mxX7_in N a x y z q s) (fun o => fi s o.1) := by
  unfold mxX7_in
  rcases slot_or a with ha | ⟨i, hi, rfl⟩
  · rw [solid_no ha, Option.bind_some]
    exact Hd.ret fi.rf
  rw [solid_in hi, Option.bind_some]
  dsimp only
  rw [if_neg (by decide)]
  by_cases q1 : q < 1
  · rw [if_pos q1]
    exact Hd.ret fi.rf
  rw [if_neg q1]
  by_cases q2 : 1000 < q
  · rw [if_pos q2]
    exact Hd.ret fi.rf
  rw [if_neg q2]
  obtain ⟨v1, e1⟩ := x_isFar N x s
  obtain ⟨v2, e2⟩ := x_isFar N y s
  obtain ⟨v3, e3⟩ := x_isFar N z s
  rw [e1, Option.bind_some]
  dsimp only
  by_cases w1 : v1 = 0
  · rw [if_pos w1, e2, Option.bind_some]
    dsimp only
    by_cases w2 : v2 = 0
    · rw [if_pos w2, e3, Option.bind_some]
      dsimp only
      by_cases w3 : v3 = 0
      · rw [if_pos w3]
        obtain ⟨s1, F, E, m, k, e4, f1, -, h4, h5, ok, T, O, F3, -⟩ := x_ownS (N := N) (g := 0) hN hI hi (by omega)
        have e4' : mxX7_owns N (Int32.ofNat i) 0 s = some s1 := e4
        obtain ⟨s2, e5, f2⟩ := x_points N x.toInt64 y.toInt64 z.toInt64 q.toInt64 s1
        obtain ⟨v, e6⟩ := x_where (N := N) (g := 0) (k := k) (by omega) (by omega) (tbS_fr T f2 (by decide)) (okP_k ok) F3
        have e6' : mxX7_where N (Int32.ofNat k) 0 s2 = some (s2, v) := e6
        rw [e4', Option.bind_some, e5, Option.bind_some, rA8 rfl hi, Option.bind_some, f2.A (by decide), f1.2 5 (by omega), h5, e6', Option.bind_some]
        exact Hd.ret (f1.tr (f2.fi (by decide)))
      · rw [if_neg w3]
        exact Hd.ret fi.rf
    · rw [if_neg w2]
      exact Hd.ret fi.rf
  · rw [if_neg w1]
    exact Hd.ret fi.rf
theorem x_sd58 {N i m : Nat} {a b c d : Int32} {s : mS} (hi : i < 8) (hm : m ≤ 24) (h4 : s.2.2.1 4 i = Int32.ofNat m) : ∀ (q fu j : Nat) (x : Int32), j + q = m → q < fu → ∃ v, mxX7_side_58 N fu (Int32.ofNat i) a b c d x (Int32.ofNat j) s = some (s, v) := by
  intro q
  induction q with
  | zero =>
    intro fu j x hj hfu
    obtain ⟨f', rfl⟩ : ∃ f', fu = f' + 1 := ⟨fu - 1, by omega⟩
    have hjm : j = m := by omega
    subst hjm
    rw [mxX7_side_58, rA8 rfl hi, Option.bind_some, h4, if_pos (Int32.le_refl _)]
    exact ⟨_, rfl⟩
  | succ q ih =>
    intro fu j x hj hfu
    obtain ⟨f', rfl⟩ : ∃ f', fu = f' + 1 := ⟨fu - 1, by omega⟩
    have ne : ¬ (Int32.ofNat m ≤ Int32.ofNat j) := by
      rw [i_le (by omega) (by omega)]
      omega
    obtain ⟨c0, c1, c2⟩ := x_cor (N := N) hi (by omega : j < m) hm h4
    rw [mxX7_side_58, rA8 rfl hi, Option.bind_some, h4, if_neg ne, c0, Option.bind_some]
    dsimp only
    rw [c1, Option.bind_some]
    dsimp only
    rw [c2, Option.bind_some]
    dsimp only
    unfold mxX7_side_128
    rw [i_s]
    split
    · split
      · exact ih f' (j + 1) _ (by omega) (by omega)
      · exact ih f' (j + 1) _ (by omega) (by omega)
    · exact ih f' (j + 1) _ (by omega) (by omega)
theorem x_side {N : Nat} {a x y z d : Int32} {s : mS} (hN : 1000000 < N) (hI : INV s) : ∃ v, mxX7_side N a x y z d s = some (s, v) := by
  unfold mxX7_side
  rcases slot_or a with ha | ⟨i, hi, rfl⟩
  · rw [solid_no ha, Option.bind_some]
    exact ⟨_, rfl⟩
  rw [solid_in hi, Option.bind_some]
  dsimp only
  rw [if_neg (by decide)]
  obtain ⟨v1, e1⟩ := x_isSmall N x s
  obtain ⟨v2, e2⟩ := x_isSmall N y s
  obtain ⟨v3, e3⟩ := x_isSmall N z s
  obtain ⟨v4, e4⟩ := x_isFar N d s
  obtain ⟨-, -, -, g3, -⟩ := hI
  obtain ⟨m, k, h4, h5, ok⟩ := g3 i hi
  have m24 := ok.1
  have fin : ∃ v, mxX7_side_52 N (Int32.ofNat i) x y z d s = some (s, v) := x_sd58 hi m24 h4 m N 0 0 (by omega) (by omega)
  rw [e1, Option.bind_some]
  dsimp only
  split
  · exact ⟨_, rfl⟩
  rw [e2, Option.bind_some]
  dsimp only
  split
  · exact ⟨_, rfl⟩
  rw [e3, Option.bind_some]
  dsimp only
  split
  · exact ⟨_, rfl⟩
  rw [e4, Option.bind_some]
  dsimp only
  split
  · split
    · split
      · split
        · exact ⟨_, rfl⟩
        · exact fin
      · exact fin
    · exact fin
  · exact ⟨_, rfl⟩
theorem x_f47 {N m p : Nat} {w : Int32} {rec32 : Int32 → Int32 → Int32 → Int32 → mS → Option (mS × Int32)} {s : mS} (hm : m ≤ 24) (hO : hpO s m) (hp0 : p < m) (hrec : ∀ a b, a < m → b < m → ∃ v, rec32 w (Int32.ofNat a) (Int32.ofNat b) (Int32.ofNat (p + 1)) s = some (s, v)) : ∀ (q fu j a b : Nat), j + q = m → q < fu → a < m → b < m → ∃ v, mxX7_far_47 N rec32 fu w (Int32.ofNat a) (Int32.ofNat b) (Int32.ofNat p) (Int32.ofNat j) s = some (s, v) := by
  intro q
  induction q with
  | zero =>
    intro fu j a b hj hfu ha hb
    obtain ⟨f', rfl⟩ : ∃ f', fu = f' + 1 := ⟨fu - 1, by omega⟩
    have hjm : j = m := by omega
    subst hjm
    rw [mxX7_far_47, hO.1, if_pos (Int32.le_refl _), i_s]
    exact hrec a b ha hb
  | succ q ih =>
    intro fu j a b hj hfu ha hb
    obtain ⟨f', rfl⟩ : ∃ f', fu = f' + 1 := ⟨fu - 1, by omega⟩
    have ne : ¬ (Int32.ofNat m ≤ Int32.ofNat j) := by
      rw [i_le (by omega) (by omega)]
      omega
    obtain ⟨v1, e1, -⟩ := x_apartOf (N := N) (p := p) (q := j) (s := s) (by omega) (by omega) (hO.2.1 p hp0) (hO.2.1 j (by omega))
    obtain ⟨v2, e2, -⟩ := x_apartOf (N := N) (p := a) (q := b) (s := s) (by omega) (by omega) (hO.2.1 a ha) (hO.2.1 b hb)
    rw [mxX7_far_47, hO.1, if_neg ne, e1, Option.bind_some]
    dsimp only
    rw [e2, Option.bind_some]
    dsimp only
    unfold mxX7_far_85
    rw [i_s]
    split
    · exact ih f' (j + 1) p j (by omega) (by omega) hp0 (by omega)
    · exact ih f' (j + 1) a b (by omega) (by omega) ha hb
theorem x_f32 {N m : Nat} {w : Int32} {s : mS} (hN : 600 < N) (hm : m ≤ 24) (hO : hpO s m) : ∀ (q fu p a b : Nat), p + q = m → q < fu → a < m → b < m → ∃ v, mxX7_far_32 N fu w (Int32.ofNat a) (Int32.ofNat b) (Int32.ofNat p) s = some (s, v) := by
  intro q
  induction q with
  | zero =>
    intro fu p a b hp0 hfu ha hb
    obtain ⟨f', rfl⟩ : ∃ f', fu = f' + 1 := ⟨fu - 1, by omega⟩
    have hpm : p = m := by omega
    subst hpm
    obtain ⟨v2, e2, -⟩ := x_apartOf (N := N) (p := a) (q := b) (s := s) (by omega) (by omega) (hO.2.1 a ha) (hO.2.1 b hb)
    rw [mxX7_far_32, hO.1, if_pos (Int32.le_refl _)]
    split
    · exact ⟨_, rfl⟩
    · split
      · exact ⟨_, rfl⟩
      · split
        · rw [e2, Option.bind_some]
          exact ⟨_, rfl⟩
        · exact ⟨_, rfl⟩
  | succ q ih =>
    intro fu p a b hp0 hfu ha hb
    obtain ⟨f', rfl⟩ : ∃ f', fu = f' + 1 := ⟨fu - 1, by omega⟩
    have ne : ¬ (Int32.ofNat m ≤ Int32.ofNat p) := by
      rw [i_le (by omega) (by omega)]
      omega
    rw [mxX7_far_32, hO.1, if_neg ne, i_s]
    exact x_f47 hm hO (by omega) (fun a b ha hb => ih f' (p + 1) a b (by omega) (by omega) ha hb) (m - (p + 1)) N (p + 1) a b (by omega) (by omega) ha hb
theorem x_far {N : Nat} {a w : Int32} {s : mS} (hN : 1000000 < N) (hI : INV s) : Hd (mxX7_far N a w s) (fun o => fi s o.1) := by
  unfold mxX7_far
  rcases slot_or a with ha | ⟨i, hi, rfl⟩
  · rw [solid_no ha, Option.bind_some]
    exact Hd.ret fi.rf
  rw [solid_in hi, Option.bind_some]
  dsimp only
  rw [if_neg (by decide), rA8 rfl hi, Option.bind_some]
  obtain ⟨-, -, -, g3, -⟩ := hI
  obtain ⟨m, k, h4, h5, ok⟩ := g3 i hi
  have m24 := ok.1
  rw [h4]
  have l2 : ((2 : Int32) ≤ Int32.ofNat m) = (2 ≤ m) := i_le (a := 2) (b := m) (by omega) (by omega)
  by_cases c : 2 ≤ m
  · rw [if_pos (by rw [l2]; exact c)]
    obtain ⟨s1, e1, sm1, O1, -⟩ := x_loadsO (N := N) (by omega) hi h4 ok
    rw [e1, Option.bind_some]
    obtain ⟨v, e2⟩ := x_f32 (N := N) (w := w) (s := s1) (by omega) m24 O1 m N 0 0 1 (by omega) (by omega) (by omega) (by omega)
    have e2' : mxX7_far_32 N N w 0 1 0 s1 = some (s1, v) := e2
    rw [e2']
    exact Hd.ret ((smH_fr sm1).fi (by decide))
  · rw [if_neg (by rw [l2]; exact c)]
    exact Hd.ret fi.rf
theorem x_same {N : Nat} {a b : Int32} {s : mS} (hN : 1000000 < N) (hI : INV s) : ∃ v, mxX7_same N a b s = some (s, v) := by
  unfold mxX7_same
  rcases slot_or a with ha | ⟨i, hi, rfl⟩
  · rw [solid_no ha, Option.bind_some]
    exact ⟨_, rfl⟩
  rw [solid_in hi, Option.bind_some]
  dsimp only
  rw [if_neg (by decide)]
  rcases slot_or b with hb | ⟨t, ht, rfl⟩
  · rw [solid_no hb, Option.bind_some]
    exact ⟨_, rfl⟩
  rw [solid_in ht, Option.bind_some]
  dsimp only
  rw [if_neg (by decide), rA8 rfl hi, Option.bind_some, rA8 rfl ht, Option.bind_some]
  have hI' := hI
  obtain ⟨-, -, -, g3, -⟩ := hI'
  obtain ⟨m, k, h4, h5, ok⟩ := g3 i hi
  have m24 := ok.1
  have in58 : ∀ (rec40 : Int32 → Int32 → Int32 → Int32 → mS → Option (mS × Int32)) (j : Nat), (∀ x, ∃ v, rec40 (Int32.ofNat i) (Int32.ofNat t) x (Int32.ofNat (j + 1)) s = some (s, v)) → ∀ (q fu ax : Nat) (x : Int32), ax + q = 3 → q < fu → ∃ v, mxX7_same_58 N rec40 fu (Int32.ofNat i) (Int32.ofNat t) x (Int32.ofNat j) (Int32.ofNat ax) s = some (s, v) := by
    intro rec40 j hrec q
    induction q with
    | zero =>
      intro fu ax x hax hfu
      obtain ⟨f', rfl⟩ : ∃ f', fu = f' + 1 := ⟨fu - 1, by omega⟩
      have h3 : ax = 3 := by omega
      subst h3
      rw [mxX7_same_58, if_pos (by decide), i_s]
      exact hrec x
    | succ q ih =>
      intro fu ax x hax hfu
      obtain ⟨f', rfl⟩ : ∃ f', fu = f' + 1 := ⟨fu - 1, by omega⟩
      have ne : ¬ ((3 : Int32) ≤ Int32.ofNat ax) := by
        have := i_le (a := 3) (b := ax) (by omega) (by omega)
        intro h
        have h2 : 3 ≤ ax := by
          rw [← this]
          exact h
        omega
      obtain ⟨v1, e1⟩ := x_corner (N := N) (a := Int32.ofNat i) (b := Int32.ofNat j) (c := Int32.ofNat ax) hI
      obtain ⟨v2, e2⟩ := x_corner (N := N) (a := Int32.ofNat t) (b := Int32.ofNat j) (c := Int32.ofNat ax) hI
      rw [mxX7_same_58, if_neg ne]
      unfold mxX7_same_93 mxX7_same_94
      rw [i_s]
      split
      · exact ih f' (ax + 1) _ (by omega) (by omega)
      · rw [e1, Option.bind_some]
        dsimp only
        rw [e2, Option.bind_some]
        dsimp only
        split
        · exact ih f' (ax + 1) _ (by omega) (by omega)
        · exact ih f' (ax + 1) _ (by omega) (by omega)
  have o107 : ∀ x, ∃ v, mxX7_same_107 N x s = some (s, v) := by
    intro x
    unfold mxX7_same_107
    split
    · exact ⟨_, rfl⟩
    · exact ⟨_, rfl⟩
  have out : ∀ (q fu j : Nat) (x : Int32), j + q = m → q < fu → ∃ v, mxX7_same_40 N fu (Int32.ofNat i) (Int32.ofNat t) x (Int32.ofNat j) s = some (s, v) := by
    intro q
    induction q with
    | zero =>
      intro fu j x hj hfu
      obtain ⟨f', rfl⟩ : ∃ f', fu = f' + 1 := ⟨fu - 1, by omega⟩
      have hjm : j = m := by omega
      subst hjm
      rw [mxX7_same_40, rA8 rfl hi, Option.bind_some, h4, if_pos (Int32.le_refl _)]
      exact o107 x
    | succ q ih =>
      intro fu j x hj hfu
      obtain ⟨f', rfl⟩ : ∃ f', fu = f' + 1 := ⟨fu - 1, by omega⟩
      have ne : ¬ (Int32.ofNat m ≤ Int32.ofNat j) := by
        rw [i_le (by omega) (by omega)]
        omega
      rw [mxX7_same_40, rA8 rfl hi, Option.bind_some, h4, if_neg ne]
      split
      · exact o107 x
      · exact in58 (mxX7_same_40 N f') j (fun x => ih f' (j + 1) x (by omega) (by omega)) 3 N 0 x (by omega) (by omega)
  unfold mxX7_same_36
  split
  · exact out m N 0 1 (by omega) (by omega)
  · exact out m N 0 0 (by omega) (by omega)
