theorem bndE {α β : Type} {x : Option α} {a : α} {f : α → Option β} {r : Option β} (h : x = some a) (k : f a = r) : x.bind f = r := by
  rw [h]
  exact k
/-- a corner's numbers are alike -/
theorem cor_eq {C : cS} {s : mS} {b i j : Nat} (h : pc C (b + 1) j = cP s i j) : qA C (b + 1 + 1) j = s.2.2.1 6 (24 * i + j) ∧ qA C (b + 1 + 2) j = s.2.2.1 7 (24 * i + j) ∧ qA C (b + 1 + 3) j = s.2.2.1 8 (24 * i + j) := by
  have h1 := congrArg (fun v : V3 => v.1) h
  have h2 := congrArg (fun v : V3 => v.2.1) h
  have h3 := congrArg (fun v : V3 => v.2.2) h
  exact ⟨Int32.toInt_inj.mp h1, Int32.toInt_inj.mp h2, Int32.toInt_inj.mp h3⟩
theorem x8 {s : mS} {k i : Nat} (hk : aN k = 8) (hi : i < 8) : rA s k (Int32.ofNat i) = some (s.2.2.1 k i) := rA_N (by omega) (by omega)
theorem x192 {s : mS} {k i j : Nat} (hk : aN k = 192) (hi : i < 8) (hj : j < 24) : rA s k ((24 : Int32) * Int32.ofNat i + Int32.ofNat j) = some (s.2.2.1 k (24 * i + j)) := by
  rw [i_c24, i_ad]
  exact rA_N (by omega) (by omega)
/-- the reference's corner -/
theorem m_cor {N i j m : Nat} {s : mS} (hi : i < 8) (h4 : s.2.2.1 4 i = Int32.ofNat m) (m24 : m ≤ 24) (hj : j < m) : mxX7_corner N (Int32.ofNat i) (Int32.ofNat j) 0 s = some (s, s.2.2.1 6 (24 * i + j)) ∧ mxX7_corner N (Int32.ofNat i) (Int32.ofNat j) 1 s = some (s, s.2.2.1 7 (24 * i + j)) ∧ mxX7_corner N (Int32.ofNat i) (Int32.ofNat j) 2 s = some (s, s.2.2.1 8 (24 * i + j)) := by
  have lt : Int32.ofNat j < Int32.ofNat m := by
    rw [i_lt (by omega) (by omega)]
    exact hj
  have base : ∀ c : Int32, mxX7_corner N (Int32.ofNat i) (Int32.ofNat j) c s = (if c = 0 then (rA s 6 (((24 : Int32) * Int32.ofNat i) + Int32.ofNat j)).bind fun v9 => some (s, v9) else if c = (1 : Int32) then (rA s 7 (((24 : Int32) * Int32.ofNat i) + Int32.ofNat j)).bind fun v12 => some (s, v12) else if c = (2 : Int32) then (rA s 8 (((24 : Int32) * Int32.ofNat i) + Int32.ofNat j)).bind fun v15 => some (s, v15) else some (s, (-1000 : Int32))) := fun c => by
    unfold mxX7_corner
    rw [solid_in hi, Option.bind_some]
    dsimp only
    rw [if_neg (by decide), if_neg (i_lt0 (by omega)), x8 rfl hi, Option.bind_some, h4, if_pos lt]
  refine ⟨?_, ?_, ?_⟩
  · rw [base, if_pos rfl, x192 rfl hi (by omega)]
    rfl
  · rw [base, if_neg (by decide), if_pos rfl, x192 rfl hi (by omega)]
    rfl
  · rw [base, if_neg (by decide), if_neg (by decide), if_pos rfl, x192 rfl hi (by omega)]
    rfl
theorem sv_corner {N : Nat} {C : cS} {s : mS} (hN : 4611686018427387904 < N) (j : JK C s) (a b c : Int32) : ∃ C' v o, fxX6_corner N 0 a b c (hC C) = some (hC C', v) ∧ mxX7_corner N a b c s = some o ∧ v = o.2 ∧ JK C' o.1 := by
  have j' := j
  obtain ⟨bo, xx, cc, jx⟩ := j
  have ci := jx.1
  have fin : ∀ v, fxX6_corner N 0 a b c (hC C) = some (hC C, v) → mxX7_corner N a b c s = some (s, v) → ∃ C' v o, fxX6_corner N 0 a b c (hC C) = some (hC C', v) ∧ mxX7_corner N a b c s = some o ∧ v = o.2 ∧ JK C' o.1 := fun v e1 e2 => ⟨C, v, _, e1, e2, rfl, j'⟩
  rcases slot_or a with ha | ⟨i, hi, rfl⟩
  · refine fin (-1000) ?_ ?_
    · unfold fxX6_corner
      rw [slot_no ha, Option.bind_some]
      rfl
    · unfold mxX7_corner
      rw [solid_no ha, Option.bind_some]
      rfl
  · obtain ⟨m, k, m24, k4, h3, h4, h5, h6, h7⟩ := jx.2.2.2.2.2.1 i hi
    obtain ⟨hb, -, b0, n2⟩ := bodyOf ci hi
    obtain ⟨p3, d1, d2, d3⟩ := pt_sh n2
    by_cases w0 : b < 0
    · refine fin (-1000) ?_ ?_
      · unfold fxX6_corner
        rw [slot_in hi, Option.bind_some]
        dsimp only
        rw [if_neg no1, if_pos w0]
      · unfold mxX7_corner
        rw [solid_in hi, Option.bind_some]
        dsimp only
        rw [if_neg no1, if_pos w0]
    · have c1 : fxX6_corner N 0 (Int32.ofNat i) b c (hC C) = if b < Int32.ofNat m then ((gR (hC C) 0 6 2).bind fun v14 => (aR (hC C) v14 (Int32.ofNat i)).bind fun v16 => (gR (hC C) v16 0 1).bind fun v18 => if c = (0 : Int32) then ((gR (hC C) v18 3 1).bind fun v21 => (aI (hC C) v21 b).bind fun v23 => some (hC C, v23)) else (if c = (1 : Int32) then ((gR (hC C) v18 3 2).bind fun v26 => (aI (hC C) v26 b).bind fun v28 => some (hC C, v28)) else (if c = (2 : Int32) then ((gR (hC C) v18 3 3).bind fun v31 => (aI (hC C) v31 b).bind fun v33 => some (hC C, v33)) else some (hC C, (-1000 : Int32))))) else some (hC C, (-1000 : Int32)) := by
        unfold fxX6_corner
        rw [slot_in hi, Option.bind_some]
        dsimp only
        rw [if_neg no1, if_neg w0]
        refine bndE (gR_6_2 x06) (bndE (aR3 hi (ci.1.2.1 i hi)) (bndE (gR_0_1 b0) (bndE (gI_3_0 p3) ?_)))
        rw [h5]
      have c2 : mxX7_corner N (Int32.ofNat i) b c s = if b < Int32.ofNat m then (if c = 0 then ((rA s 6 (((24 : Int32) * Int32.ofNat i) + b)).bind fun v9 => some (s, v9)) else (if c = (1 : Int32) then ((rA s 7 (((24 : Int32) * Int32.ofNat i) + b)).bind fun v12 => some (s, v12)) else (if c = (2 : Int32) then ((rA s 8 (((24 : Int32) * Int32.ofNat i) + b)).bind fun v15 => some (s, v15)) else some (s, (-1000 : Int32))))) else some (s, (-1000 : Int32)) := by
        unfold mxX7_corner
        rw [solid_in hi, Option.bind_some]
        dsimp only
        rw [if_neg no1, if_neg w0, x8 rfl hi, Option.bind_some, h3]
      by_cases w : b < Int32.ofNat m
      · obtain ⟨t, ht, e⟩ := ix (by omega) w0 w
        subst e
        obtain ⟨q1, q2, q3⟩ := cor_eq (h7 t ht)
        rw [if_pos w] at c1 c2
        have c1' := c1.trans (bndE (gR_6_2 x06) (bndE (aR3 hi (ci.1.2.1 i hi)) (bndE (gR_0_1 b0) rfl)))
        by_cases z0 : c = 0
        · refine fin (s.2.2.1 6 (24 * i + t)) (c1'.trans ((if_pos z0).trans (bndE (gR_3_1 p3) (bndE (aI_N d1 (show t < 24 by omega) (by decide)) (by rw [q1]))))) (c2.trans ((if_pos z0).trans (bndE (x192 rfl hi (by omega)) rfl)))
        · by_cases z1 : c = 1
          · refine fin (s.2.2.1 7 (24 * i + t)) (c1'.trans ((if_neg z0).trans ((if_pos z1).trans (bndE (gR_3_2 p3) (bndE (aI_N d2 (show t < 24 by omega) (by decide)) (by rw [q2])))))) (c2.trans ((if_neg z0).trans ((if_pos z1).trans (bndE (x192 rfl hi (by omega)) rfl))))
          · by_cases z2 : c = 2
            · refine fin (s.2.2.1 8 (24 * i + t)) (c1'.trans ((if_neg z0).trans ((if_neg z1).trans ((if_pos z2).trans (bndE (gR_3_3 p3) (bndE (aI_N d3 (show t < 24 by omega) (by decide)) (by rw [q3]))))))) (c2.trans ((if_neg z0).trans ((if_neg z1).trans ((if_pos z2).trans (bndE (x192 rfl hi (by omega)) rfl)))))
            · exact fin (-1000) (c1'.trans ((if_neg z0).trans ((if_neg z1).trans (if_neg z2)))) (c2.trans ((if_neg z0).trans ((if_neg z1).trans (if_neg z2))))
      · rw [if_neg w] at c1 c2
        exact fin (-1000) c1 c2
/-- the reference's same, over corners -/
theorem m_s58 {N i k t m : Nat} {s : mS} {rec : Int32 → Int32 → Int32 → Int32 → mS → Option (mS × Int32)} (hN : 600 < N) (hi : i < 8) (hk : k < 8) (h4 : s.2.2.1 4 i = Int32.ofNat m) (h4' : s.2.2.1 4 k = Int32.ofNat m) (m24 : m ≤ 24) (ht : t < m) : mxX7_same_58 N rec N (Int32.ofNat i) (Int32.ofNat k) 1 (Int32.ofNat t) 0 s = rec (Int32.ofNat i) (Int32.ofNat k) (if s.2.2.1 6 (24 * i + t) = s.2.2.1 6 (24 * k + t) ∧ s.2.2.1 7 (24 * i + t) = s.2.2.1 7 (24 * k + t) ∧ s.2.2.1 8 (24 * i + t) = s.2.2.1 8 (24 * k + t) then 1 else 0) (Int32.ofNat (t + 1)) s := by
  obtain ⟨N', rfl⟩ : ∃ N', N = N' + 4 := ⟨N - 4, by omega⟩
  obtain ⟨a0, a1, a2⟩ := m_cor (N := N' + 4) hi h4 m24 ht
  obtain ⟨b0, b1, b2⟩ := m_cor (N := N' + 4) hk h4' m24 ht
  have n3 : ∀ v : Int32, mxX7_same_58 (N' + 4) rec (N' + 1) (Int32.ofNat i) (Int32.ofNat k) v (Int32.ofNat t) 3 s = rec (Int32.ofNat i) (Int32.ofNat k) v (Int32.ofNat (t + 1)) s := fun v => by
    rw [mxX7_same_58, if_pos (by decide), i_s]
  have z0 : ∀ n x, mxX7_same_58 (N' + 4) rec (n + 1) (Int32.ofNat i) (Int32.ofNat k) 0 (Int32.ofNat t) x s = if (3 : Int32) ≤ x then rec (Int32.ofNat i) (Int32.ofNat k) 0 (Int32.ofNat t + 1) s else mxX7_same_58 (N' + 4) rec n (Int32.ofNat i) (Int32.ofNat k) 0 (Int32.ofNat t) (x + 1) s := fun n x => by
    rw [mxX7_same_58]
    by_cases c : (3 : Int32) ≤ x
    · rw [if_pos c, if_pos c]
    · rw [if_neg c, if_neg c, if_pos rfl]
      rfl
  have z1 : mxX7_same_58 (N' + 4) rec (N' + 3) (Int32.ofNat i) (Int32.ofNat k) 0 (Int32.ofNat t) 1 s = rec (Int32.ofNat i) (Int32.ofNat k) 0 (Int32.ofNat (t + 1)) s := by
    rw [z0, if_neg (by decide), show (1 : Int32) + 1 = 2 from rfl, z0, if_neg (by decide), show (2 : Int32) + 1 = 3 from rfl]
    exact n3 0
  have z2 : mxX7_same_58 (N' + 4) rec (N' + 2) (Int32.ofNat i) (Int32.ofNat k) 0 (Int32.ofNat t) 2 s = rec (Int32.ofNat i) (Int32.ofNat k) 0 (Int32.ofNat (t + 1)) s := by
    rw [z0, if_neg (by decide), show (2 : Int32) + 1 = 3 from rfl]
    exact n3 0
  rw [mxX7_same_58, if_neg (by decide), if_neg no1, a0, Option.bind_some]
  dsimp only
  rw [b0, Option.bind_some]
  dsimp only
  unfold mxX7_same_93 mxX7_same_94
  by_cases e0 : s.2.2.1 6 (24 * i + t) = s.2.2.1 6 (24 * k + t)
  · rw [if_pos e0, show (0 : Int32) + 1 = 1 from rfl, mxX7_same_58, if_neg (by decide), if_neg no1, a1, Option.bind_some]
    dsimp only
    rw [b1, Option.bind_some]
    dsimp only
    unfold mxX7_same_93 mxX7_same_94
    by_cases e1 : s.2.2.1 7 (24 * i + t) = s.2.2.1 7 (24 * k + t)
    · rw [if_pos e1, show (1 : Int32) + 1 = 2 from rfl, mxX7_same_58, if_neg (by decide), if_neg no1, a2, Option.bind_some]
      dsimp only
      rw [b2, Option.bind_some]
      dsimp only
      unfold mxX7_same_93 mxX7_same_94
      rw [show (2 : Int32) + 1 = 3 from rfl]
      by_cases e2 : s.2.2.1 8 (24 * i + t) = s.2.2.1 8 (24 * k + t)
      · rw [if_pos e2, if_pos ⟨e0, e1, e2⟩]
        exact n3 1
      · rw [if_neg e2, if_neg (fun w => e2 w.2.2)]
        exact n3 0
    · rw [if_neg e1, if_neg (fun w => e1 w.2.1), show (1 : Int32) + 1 = 2 from rfl]
      exact z2
  · rw [if_neg e0, if_neg (fun w => e0 w.1), show (0 : Int32) + 1 = 1 from rfl]
    exact z1
theorem m_s40 {N i k m : Nat} {s : mS} (hN : 600 < N) (hi : i < 8) (hk : k < 8) (h4 : s.2.2.1 4 i = Int32.ofNat m) (h4' : s.2.2.1 4 k = Int32.ofNat m) (m24 : m ≤ 24) : ∀ (r t f : Nat), t + r = m → r < f → (∀ u, u < t → cP s i u = cP s k u) → ((∀ u, u < m → cP s i u = cP s k u) ∧ mxX7_same_40 N f (Int32.ofNat i) (Int32.ofNat k) 1 (Int32.ofNat t) s = some (s, 1)) ∨ (¬ (∀ u, u < m → cP s i u = cP s k u) ∧ mxX7_same_40 N f (Int32.ofNat i) (Int32.ofNat k) 1 (Int32.ofNat t) s = some (s, 0)) := by
  have z : ∀ f t, mxX7_same_40 N (f + 1) (Int32.ofNat i) (Int32.ofNat k) 0 (Int32.ofNat t) s = some (s, 0) := fun f t => by
    rw [mxX7_same_40, x8 rfl hi, Option.bind_some]
    unfold mxX7_same_107
    by_cases c : s.2.2.1 4 i ≤ Int32.ofNat t
    · rw [if_pos c, if_pos rfl]
    · rw [if_neg c, if_pos rfl, if_pos rfl]
  intro r
  induction r with
  | zero =>
    intro t f ht hf h
    obtain ⟨f', rfl⟩ : ∃ f', f = f' + 1 := ⟨f - 1, by omega⟩
    have e : t = m := by omega
    subst e
    refine .inl ⟨h, ?_⟩
    rw [mxX7_same_40, x8 rfl hi, Option.bind_some, h4, if_pos (Int32.le_refl _)]
    unfold mxX7_same_107
    rw [if_neg no1]
  | succ r ih =>
    intro t f ht hf h
    obtain ⟨f', rfl⟩ : ∃ f', f = f' + 1 := ⟨f - 1, by omega⟩
    have ne : ¬ (Int32.ofNat m ≤ Int32.ofNat t) := by
      rw [i_le (by omega) (by omega)]
      omega
    have step : mxX7_same_40 N (f' + 1) (Int32.ofNat i) (Int32.ofNat k) 1 (Int32.ofNat t) s = mxX7_same_40 N f' (Int32.ofNat i) (Int32.ofNat k) (if s.2.2.1 6 (24 * i + t) = s.2.2.1 6 (24 * k + t) ∧ s.2.2.1 7 (24 * i + t) = s.2.2.1 7 (24 * k + t) ∧ s.2.2.1 8 (24 * i + t) = s.2.2.1 8 (24 * k + t) then 1 else 0) (Int32.ofNat (t + 1)) s := by
      rw [mxX7_same_40, x8 rfl hi, Option.bind_some, h4, if_neg ne, if_neg no1]
      exact m_s58 hN hi hk h4 h4' m24 (by omega)
    rw [step]
    by_cases c : s.2.2.1 6 (24 * i + t) = s.2.2.1 6 (24 * k + t) ∧ s.2.2.1 7 (24 * i + t) = s.2.2.1 7 (24 * k + t) ∧ s.2.2.1 8 (24 * i + t) = s.2.2.1 8 (24 * k + t)
    · rw [if_pos c]
      refine ih (t + 1) f' (by omega) (by omega) (fun u hu => ?_)
      by_cases d : u = t
      · rw [d]
        unfold cP cP3
        rw [c.1, c.2.1, c.2.2]
      · exact h u (by omega)
    · rw [if_neg c]
      refine .inr ⟨fun w => c ?_, ?_⟩
      · have q := w t (by omega)
        have h1 := congrArg (fun v : V3 => v.1) q
        have h2 := congrArg (fun v : V3 => v.2.1) q
        have h3 := congrArg (fun v : V3 => v.2.2) q
        exact ⟨Int32.toInt_inj.mp h1, Int32.toInt_inj.mp h2, Int32.toInt_inj.mp h3⟩
      · obtain ⟨f'', rfl⟩ : ∃ f'', f' = f'' + 1 := ⟨f' - 1, by omega⟩
        exact z f'' (t + 1)
theorem m_s36 {N i k m m' : Nat} {s : mS} (hN : 600 < N) (hi : i < 8) (hk : k < 8) (h4 : s.2.2.1 4 i = Int32.ofNat m) (h4' : s.2.2.1 4 k = Int32.ofNat m') (m24 : m ≤ 24) (m24' : m' ≤ 24) : ((m = m' ∧ ∀ u, u < m → cP s i u = cP s k u) ∧ mxX7_same N (Int32.ofNat i) (Int32.ofNat k) s = some (s, 1)) ∨ (¬ (m = m' ∧ ∀ u, u < m → cP s i u = cP s k u) ∧ mxX7_same N (Int32.ofNat i) (Int32.ofNat k) s = some (s, 0)) := by
  have hd : mxX7_same N (Int32.ofNat i) (Int32.ofNat k) s = if Int32.ofNat m = Int32.ofNat m' then mxX7_same_40 N N (Int32.ofNat i) (Int32.ofNat k) 1 0 s else mxX7_same_40 N N (Int32.ofNat i) (Int32.ofNat k) 0 0 s := by
    unfold mxX7_same
    rw [solid_in hi, Option.bind_some]
    dsimp only
    rw [if_neg no1, solid_in hk, Option.bind_some]
    dsimp only
    rw [if_neg no1, x8 rfl hi, Option.bind_some, x8 rfl hk, Option.bind_some, h4, h4']
    rfl
  rw [hd]
  by_cases c : m = m'
  · subst c
    rw [if_pos rfl]
    rcases m_s40 hN hi hk h4 h4' m24 m 0 N (by omega) (by omega) (fun u hu => absurd hu (by omega)) with ⟨w, e⟩ | ⟨w, e⟩
    · exact .inl ⟨⟨rfl, w⟩, e⟩
    · exact .inr ⟨fun q => w q.2, e⟩
  · rw [if_neg (fun w => c (i_inj (by omega) (by omega) w))]
    refine .inr ⟨fun q => c q.1, ?_⟩
    obtain ⟨N', rfl⟩ : ∃ N', N = N' + 1 := ⟨N - 1, by omega⟩
    rw [mxX7_same_40, x8 rfl hi, Option.bind_some]
    unfold mxX7_same_107
    by_cases d : s.2.2.1 4 i ≤ 0
    · rw [if_pos d, if_pos rfl]
    · rw [if_neg d, if_pos rfl, if_pos rfl]
theorem sv_same {N : Nat} {C : cS} {s : mS} (hN : 4611686018427387904 < N) (j : JK C s) (a b : Int32) : ∃ C' v o, fxX6_same N 0 a b (hC C) = some (hC C', v) ∧ mxX7_same N a b s = some o ∧ v = o.2 ∧ JK C' o.1 := by
  have j' := j
  obtain ⟨bo, xx, cc, jx⟩ := j
  have ci := jx.1
  have fin : ∀ v, fxX6_same N 0 a b (hC C) = some (hC C, v) → mxX7_same N a b s = some (s, v) → ∃ C' v o, fxX6_same N 0 a b (hC C) = some (hC C', v) ∧ mxX7_same N a b s = some o ∧ v = o.2 ∧ JK C' o.1 := fun v e1 e2 => ⟨C, v, _, e1, e2, rfl, j'⟩
  rcases slot_or a with ha | ⟨i, hi, rfl⟩
  · refine fin (-1) ?_ ?_
    · unfold fxX6_same
      rw [slot_no ha, Option.bind_some]
      rfl
    · unfold mxX7_same
      rw [solid_no ha, Option.bind_some]
      rfl
  · rcases slot_or b with hb | ⟨k, hk, rfl⟩
    · refine fin (-1) ?_ ?_
      · unfold fxX6_same
        rw [slot_in hi, Option.bind_some]
        dsimp only
        rw [if_neg no1, slot_no hb, Option.bind_some]
        rfl
      · unfold mxX7_same
        rw [solid_in hi, Option.bind_some]
        dsimp only
        rw [if_neg no1, solid_no hb, Option.bind_some]
        rfl
    · obtain ⟨m, k1, m24, -, h3, h4, h5, h6, h7⟩ := jx.2.2.2.2.2.1 i hi
      obtain ⟨m', k1', m24', -, g3, g4, g5, g6, g7⟩ := jx.2.2.2.2.2.1 k hk
      obtain ⟨hb, -, b0, n2⟩ := bodyOf ci hi
      obtain ⟨hc, -, c0, n2'⟩ := bodyOf ci hk
      obtain ⟨p3, -⟩ := pt_sh n2
      have cl : ∀ v, fxX3_isLike N (bo (1 + i) + 1) (bo (1 + k) + 1) (hC C) = some (hC C, v) → (v = 0 ∨ v = 1) → fxX6_same N 0 (Int32.ofNat i) (Int32.ofNat k) (hC C) = some (hC C, v) := fun v q hv => by
        unfold fxX6_same
        rw [slot_in hi, Option.bind_some]
        dsimp only
        rw [if_neg no1, slot_in hk, Option.bind_some]
        dsimp only
        rw [if_neg no1]
        refine bndE (gR_6_2 x06) (bndE (aR3 hi (ci.1.2.1 i hi)) (bndE (gR_0_1 b0) (bndE (gR_6_2 x06) (bndE (aR3 hk (ci.1.2.1 k hk)) (bndE (gR_0_1 c0) (bndE (kO_3 p3) (bndE q ?_)))))))
        rcases hv with hv | hv
        · subst hv
          rfl
        · subst hv
          rfl
      have iff : (m = m' ∧ ∀ u, u < m → cP s i u = cP s k u) ↔ (m = m' ∧ ∀ u, u < m → pc C (bo (1 + i) + 1) u = pc C (bo (1 + k) + 1) u) := by
        constructor
        · rintro ⟨e, w⟩
          exact ⟨e, fun u hu => (h7 u hu).trans ((w u hu).trans (g7 u (by omega)).symm)⟩
        · rintro ⟨e, w⟩
          exact ⟨e, fun u hu => (h7 u hu).symm.trans ((w u hu).trans (g7 u (by omega)))⟩
      rcases c_isLike (N := N) (s := C) (by omega) n2 (by omega) n2' (by omega) h5 m24 g5 m24' with ⟨w, q⟩ | ⟨w, q⟩
      · rcases m_s36 (N := N) (by omega) hi hk h3 g3 m24 m24' with ⟨_, e2⟩ | ⟨w2, _⟩
        · exact fin 1 (cl 1 q (.inr rfl)) e2
        · exact absurd (iff.mpr w) w2
      · rcases m_s36 (N := N) (by omega) hi hk h3 g3 m24 m24' with ⟨w2, _⟩ | ⟨_, e2⟩
        · exact absurd (iff.mp w2) w
        · exact fin 0 (cl 0 q (.inl rfl)) e2
