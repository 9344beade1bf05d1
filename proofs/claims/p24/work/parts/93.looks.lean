/-- the heap holds just the points of Z, in order -/
def hpZ (h : mS) (n j : Nat) (Z : V3 → Prop) : Prop := hpO h n ∧ n ≤ j ∧ (∀ t, t < n → Z (hp h t)) ∧ ∀ x, Z x → ∃ t, t < n ∧ hp h t = x
theorem hpZ_Z {h : mS} {n j j' : Nat} {Z Z' : V3 → Prop} (H : hpZ h n j Z) (hj : j ≤ j') (e : ∀ x, Z x ↔ Z' x) : hpZ h n j' Z' := ⟨H.1, Nat.le_trans H.2.1 hj, fun t ht => (e _).mp (H.2.2.1 t ht), fun x hx => H.2.2.2 x ((e x).mpr hx)⟩
theorem x_addZ {N n j : Nat} {Z : V3 → Prop} {x y z : Int64} {p : V3} {h : mS} (hN : 600 < N) (hj : j < 600) (H : hpZ h n j Z) (e : (x.toInt, y.toInt, z.toInt) = p) (b : bd3 p 200) : ∃ h' n', mxX7_heaps N x y z h = some h' ∧ smH h h' ∧ hpZ h' n' (j + 1) (fun x => Z x ∨ x = p) := by
  obtain ⟨hO, hn, A, B⟩ := H
  obtain ⟨h', n', e1, O', sm, n1, n2, n3, A', B', C'⟩ := x_heaps (N := N) (x := x) (y := y) (z := z) (by omega : n < 600) hN hO (by rw [e]; exact b)
  refine ⟨h', n', e1, sm, O', by omega, fun t ht => ?_, fun q hq => ?_⟩
  · rcases A' t ht with ⟨u, q1, q2⟩ | q
    · left
      rw [q2]
      exact A u q1
    · right
      rw [q, e]
  · rcases hq with hq | hq
    · obtain ⟨t, t1, t2⟩ := B q hq
      obtain ⟨i, i1, i2⟩ := B' t t1
      exact ⟨i, i1, by rw [i2, t2]⟩
    · obtain ⟨i, i1, i2⟩ := C'
      exact ⟨i, i1, by rw [i2, e, hq]⟩
theorem x_along {N k : Nat} {s : mS} (hk : k < 48) (bn : bd3 (nv s) 320000) (bk : bd3 (oP s k) 100) : ∃ v, mxX7_along N (Int32.ofNat k) s = some (s, v) ∧ v.toInt = vd (nv s) (oP s k) := by
  unfold mxX7_along
  rw [rG48 rfl hk, Option.bind_some, rG48 rfl hk, Option.bind_some, rG48 rfl hk, Option.bind_some]
  exact ⟨_, rfl, (bv_dot (nb1 bn) (nb2 bn) (nb3 bn) (bo1 bk) (bo2 bk) (bo3 bk) (by decide)).1⟩
/-- the greatest height of a table's points -/
def hiO (s : mS) (g m : Nat) (v : Int) : Prop := (∀ t, t < m → vd (nv s) (oP s (24 * g + t)) ≤ v) ∧ ∃ t, t < m ∧ vd (nv s) (oP s (24 * g + t)) = v
theorem x_hi12 {N g m : Nat} {s : mS} (hg : g < 2) (hm : m ≤ 24) (O : owS s g m) (bn : bd3 (nv s) 320000) : ∀ (q fu j : Nat) (x : Int64), j + q = m → q < fu → (∀ t, t < j → vd (nv s) (oP s (24 * g + t)) ≤ x.toInt) → (∃ t, t < m ∧ vd (nv s) (oP s (24 * g + t)) = x.toInt) → ∃ v, mxX7_highest_12 N fu (Int32.ofNat g) x (Int32.ofNat j) s = some (s, v) ∧ hiO s g m v.toInt := by
  intro q
  induction q with
  | zero =>
    intro fu j x hj hfu h1 h2
    obtain ⟨f', rfl⟩ : ∃ f', fu = f' + 1 := ⟨fu - 1, by omega⟩
    have hjm : j = m := by omega
    subst hjm
    rw [mxX7_highest_12, rA2 rfl hg, Option.bind_some, O.1, if_pos (Int32.le_refl _)]
    exact ⟨x, rfl, h1, h2⟩
  | succ q ih =>
    intro fu j x hj hfu h1 h2
    obtain ⟨f', rfl⟩ : ∃ f', fu = f' + 1 := ⟨fu - 1, by omega⟩
    have ne : ¬ (Int32.ofNat m ≤ Int32.ofNat j) := by
      rw [i_le (by omega) (by omega)]
      omega
    obtain ⟨v, e, hv⟩ := x_along (N := N) (k := 24 * g + j) (s := s) (by omega) bn (O.2.1 j (by omega))
    rw [mxX7_highest_12, rA2 rfl hg, Option.bind_some, O.1, if_neg ne, i_24, e, Option.bind_some]
    dsimp only
    unfold mxX7_highest_51
    rw [i_s]
    by_cases c : v ≤ x
    · rw [if_pos c]
      rw [Int64.le_iff_toInt_le] at c
      refine ih f' (j + 1) x (by omega) (by omega) (fun t ht => ?_) h2
      by_cases w : t = j
      · rw [w]
        omega
      · exact h1 t (by omega)
    · rw [if_neg c, e, Option.bind_some]
      dsimp only
      rw [Int64.le_iff_toInt_le] at c
      refine ih f' (j + 1) v (by omega) (by omega) (fun t ht => ?_) ⟨j, by omega, hv.symm⟩
      by_cases w : t = j
      · rw [w]
        omega
      · have := h1 t (by omega)
        omega
theorem x_highest {N g m : Nat} {s : mS} (hN : 600 < N) (hg : g < 2) (hm : m ≤ 24) (h1 : 1 ≤ m) (O : owS s g m) (bn : bd3 (nv s) 320000) : ∃ v, mxX7_highest N (Int32.ofNat g) s = some (s, v) ∧ hiO s g m v.toInt := by
  unfold mxX7_highest
  obtain ⟨v, e, hv⟩ := x_along (N := N) (k := 24 * g) (s := s) (by omega) bn (O.2.1 0 (by omega))
  rw [i_c24, e, Option.bind_some]
  dsimp only
  exact x_hi12 hg hm O bn (m - 1) N 1 v (by omega) (by omega) (fun t ht => by
    have : t = 0 := by omega
    rw [this, hv]
    exact Int.le_refl _) ⟨0, by omega, hv.symm⟩
/-- pairs of points farthest along nv, before i0 and k0 -/
def pZ (s : mS) (m0 m1 : Nat) (a b : Int) (i0 k0 : Nat) : V3 → Prop := fun x => ∃ i k, i < m0 ∧ k < m1 ∧ vd (nv s) (oP s i) = a ∧ vd (nv s) (oP s (24 + k)) = b ∧ x = va (oP s i) (oP s (24 + k)) ∧ (i < i0 ∨ i = i0 ∧ k < k0)
theorem i24p (k : Nat) : (24 : Int32) + Int32.ofNat k = Int32.ofNat (24 + k) := i_ad 24 k
theorem smH_same {s h : mS} (f : smH s h) : nv h = nv s ∧ (∀ k, oP h k = oP s k) ∧ h.2.2.1 = s.2.2.1 := by
  refine ⟨?_, fun k => ?_, f.2.2.1⟩
  · unfold nv
    rw [f.2.1]
  · unfold oP
    rw [f.2.2.2 43 (by decide) (by decide) (by decide), f.2.2.2 44 (by decide) (by decide) (by decide), f.2.2.2 45 (by decide) (by decide) (by decide)]
theorem rA46 (s : mS) : rA s 46 1 = some (s.2.2.1 46 1) := rA_N (j := 1) (by decide) (by decide)
theorem x_l67 {N m0 m1 i : Nat} {xa xb : Int64} {rec39 : Int64 → Int64 → Int32 → mS → Option mS} {R : mS → Prop} {s : mS} (hN : 600 < N) (hm0 : m0 ≤ 24) (hm1 : m1 ≤ 24) (O0 : owS s 0 m0) (O1 : owS s 1 m1) (bn : bd3 (nv s) 320000) (hi : i < m0) (ha : vd (nv s) (oP s i) = xa.toInt) (hrec : ∀ h n, smH s h → hpZ h n (24 * (i + 1)) (pZ s m0 m1 xa.toInt xb.toInt (i + 1) 0) → Hd (rec39 xa xb (Int32.ofNat (i + 1)) h) R) : ∀ (q fu k n : Nat) (h : mS), k + q = m1 → q < fu → smH s h → hpZ h n (24 * i + k) (pZ s m0 m1 xa.toInt xb.toInt i k) → Hd (mxX7_looks_67 N rec39 fu xa xb (Int32.ofNat i) (Int32.ofNat k) h) R := by
  intro q
  induction q with
  | zero =>
    intro fu k n h hk hfu sm H
    obtain ⟨f', rfl⟩ : ∃ f', fu = f' + 1 := ⟨fu - 1, by omega⟩
    obtain ⟨e1, e2, e3⟩ := smH_same sm
    have hkm : k = m1 := by omega
    subst hkm
    rw [mxX7_looks_67, rA46, Option.bind_some, e3]
    have o1 : s.2.2.1 46 1 = Int32.ofNat k := O1.1
    rw [o1, if_pos (Int32.le_refl _)]
    unfold mxX7_looks_156
    rw [i_s]
    refine hrec h n sm (hpZ_Z H (by omega) (fun x => ?_))
    constructor
    · rintro ⟨i', k', h1, h2, h3, h4, h5, h6⟩
      exact ⟨i', k', h1, h2, h3, h4, h5, by omega⟩
    · rintro ⟨i', k', h1, h2, h3, h4, h5, h6⟩
      exact ⟨i', k', h1, h2, h3, h4, h5, by omega⟩
  | succ q ih =>
    intro fu k n h hk hfu sm H
    obtain ⟨f', rfl⟩ : ∃ f', fu = f' + 1 := ⟨fu - 1, by omega⟩
    obtain ⟨e1, e2, e3⟩ := smH_same sm
    have ne : ¬ (Int32.ofNat m1 ≤ Int32.ofNat k) := by
      rw [i_le (by omega) (by omega)]
      omega
    have o1 : s.2.2.1 46 1 = Int32.ofNat m1 := O1.1
    have b0 := O0.2.1 i hi
    rw [Nat.mul_zero, Nat.zero_add] at b0
    have b1 := O1.2.1 k (by omega)
    rw [Nat.mul_one] at b1
    obtain ⟨v, ev, hv⟩ := x_along (N := N) (k := 24 + k) (s := h) (by omega) (by rw [e1]; exact bn) (by rw [e2]; exact b1)
    rw [e1, e2] at hv
    rw [mxX7_looks_67, rA46, Option.bind_some, e3, o1, if_neg ne, i24p, ev, Option.bind_some]
    dsimp only
    unfold mxX7_looks_150
    rw [i_s]
    by_cases c : v = xb
    · have hb : vd (nv s) (oP s (24 + k)) = xb.toInt := by rw [← hv, c]
      rw [if_pos c, rG48 rfl (by omega), Option.bind_some, rG48 rfl (by omega), Option.bind_some, rG48 rfl (by omega), Option.bind_some, rG48 rfl (by omega), Option.bind_some, rG48 rfl (by omega), Option.bind_some, rG48 rfl (by omega), Option.bind_some]
      have bi : bd3 (oP h i) 100 := by rw [e2]; exact b0
      have bk : bd3 (oP h (24 + k)) 100 := by rw [e2]; exact b1
      have a1 := bv_add (bo1 bi) (bo1 bk) (by decide)
      have a2 := bv_add (bo2 bi) (bo2 bk) (by decide)
      have a3 := bv_add (bo3 bi) (bo3 bk) (by decide)
      obtain ⟨h', n', eh, sm', H'⟩ := x_addZ (N := N) (x := h.2.2.2 43 i + h.2.2.2 43 (24 + k)) (y := h.2.2.2 44 i + h.2.2.2 44 (24 + k)) (z := h.2.2.2 45 i + h.2.2.2 45 (24 + k)) (p := va (oP h i) (oP h (24 + k))) hN (by omega) H (v3_ext a1.1 a2.1 a3.1) ⟨a1.2, a2.2, a3.2⟩
      rw [eh, Option.bind_some]
      rw [e2, e2] at H'
      refine ih f' (k + 1) n' h' (by omega) (by omega) (sm.tr sm') (hpZ_Z H' (by omega) (fun x => ?_))
      constructor
      · rintro (⟨i', k', h1, h2, h3, h4, h5, h6⟩ | h5)
        · exact ⟨i', k', h1, h2, h3, h4, h5, by omega⟩
        · exact ⟨i, k, hi, by omega, ha, hb, h5, by omega⟩
      · rintro ⟨i', k', h1, h2, h3, h4, h5, h6⟩
        by_cases w : i' = i ∧ k' = k
        · right
          rw [h5, w.1, w.2]
        · exact .inl ⟨i', k', h1, h2, h3, h4, h5, by omega⟩
    · rw [if_neg c]
      refine ih f' (k + 1) n h (by omega) (by omega) sm (hpZ_Z H (by omega) (fun x => ?_))
      constructor
      · rintro ⟨i', k', h1, h2, h3, h4, h5, h6⟩
        exact ⟨i', k', h1, h2, h3, h4, h5, by omega⟩
      · rintro ⟨i', k', h1, h2, h3, h4, h5, h6⟩
        refine ⟨i', k', h1, h2, h3, h4, h5, ?_⟩
        by_cases w : i' = i ∧ k' = k
        · exfalso
          rw [w.2] at h4
          exact c (Int64.toInt_inj.mp (by rw [hv, h4]))
        · omega
theorem x_l39 {N m0 m1 : Nat} {xa xb : Int64} {R : mS → Prop} {s : mS} (hN : 600 < N) (hm0 : m0 ≤ 24) (hm1 : m1 ≤ 24) (O0 : owS s 0 m0) (O1 : owS s 1 m1) (bn : bd3 (nv s) 320000) (hend : ∀ h n, smH s h → hpZ h n 576 (pZ s m0 m1 xa.toInt xb.toInt m0 0) → Hd ((mxX7_kindOfHeap N h).bind fun o16 => if o16.2 = (3 : Int32) then mxX7_looks_193 N (h.2.1 24) (h.2.1 25) (h.2.1 26) (1 : Int32) o16.1 else mxX7_looks_193 N (h.2.1 24) (h.2.1 25) (h.2.1 26) (0 : Int32) o16.1) R) : ∀ (q fu i n : Nat) (h : mS), i + q = m0 → q < fu → smH s h → hpZ h n (24 * i) (pZ s m0 m1 xa.toInt xb.toInt i 0) → Hd (mxX7_looks_39 N fu xa xb (Int32.ofNat i) h) R := by
  intro q
  induction q with
  | zero =>
    intro fu i n h hi hfu sm H
    obtain ⟨f', rfl⟩ : ∃ f', fu = f' + 1 := ⟨fu - 1, by omega⟩
    obtain ⟨e1, e2, e3⟩ := smH_same sm
    have him : i = m0 := by omega
    subst him
    have o0 : s.2.2.1 46 0 = Int32.ofNat i := O0.1
    rw [mxX7_looks_39, rA_0 (by decide), Option.bind_some, e3, o0, if_pos (Int32.le_refl _)]
    exact hend h n sm (hpZ_Z H (by omega) (fun x => Iff.rfl))
  | succ q ih =>
    intro fu i n h hi hfu sm H
    obtain ⟨f', rfl⟩ : ∃ f', fu = f' + 1 := ⟨fu - 1, by omega⟩
    obtain ⟨e1, e2, e3⟩ := smH_same sm
    have ne : ¬ (Int32.ofNat m0 ≤ Int32.ofNat i) := by
      rw [i_le (by omega) (by omega)]
      omega
    have o0 : s.2.2.1 46 0 = Int32.ofNat m0 := O0.1
    have b0 := O0.2.1 i (by omega)
    rw [Nat.mul_zero, Nat.zero_add] at b0
    obtain ⟨v, ev, hv⟩ := x_along (N := N) (k := i) (s := h) (by omega) (by rw [e1]; exact bn) (by rw [e2]; exact b0)
    rw [e1, e2] at hv
    rw [mxX7_looks_39, rA_0 (by decide), Option.bind_some, e3, o0, if_neg ne, ev, Option.bind_some]
    dsimp only
    by_cases c : v = xa
    · rw [if_pos c]
      exact x_l67 (rec39 := mxX7_looks_39 N f') hN hm0 hm1 O0 O1 bn (by omega) (by rw [← hv, c]) (fun h n sm H => ih f' (i + 1) n h (by omega) (by omega) sm H) m1 N 0 n h (by omega) (by omega) sm H
    · rw [if_neg c]
      unfold mxX7_looks_156
      rw [i_s]
      refine ih f' (i + 1) n h (by omega) (by omega) sm (hpZ_Z H (by omega) (fun x => ?_))
      constructor
      · rintro ⟨i', k', h1, h2, h3, h4, h5, h6⟩
        exact ⟨i', k', h1, h2, h3, h4, h5, by omega⟩
      · rintro ⟨i', k', h1, h2, h3, h4, h5, h6⟩
        refine ⟨i', k', h1, h2, h3, h4, h5, ?_⟩
        by_cases w : i' = i
        · exfalso
          rw [w] at h3
          exact c (Int64.toInt_inj.mp (by rw [hv, h3]))
        · omega
/-- the found points -/
def fdP (s : mS) (j : Nat) : V3 := ((s.2.2.2 56 j).toInt, (s.2.2.2 57 j).toInt, (s.2.2.2 58 j).toInt)
/-- what is found is just W -/
def fdZ (s : mS) (W : V3 → Prop) : Prop := s.1 54 = 0 ∧ ∃ c, c ≤ 24 ∧ s.1 55 = Int32.ofNat c ∧ (∀ j, j < c → W (fdP s j) ∧ bd3 (fdP s j) 100) ∧ (∀ x, W x → ∃ j, j < c ∧ fdP s j = x) ∧ ∀ i j, i < j → j < c → fdP s i ≠ fdP s j
/-- too many: p can't be found beside W -/
def bad (W : V3 → Prop) (p : V3) : Prop := ¬ bd3 p 100 ∨ ∃ f : Nat → V3, (∀ j, j < 24 → W (f j)) ∧ (∀ i j, i < j → j < 24 → f i ≠ f j) ∧ ∀ j, j < 24 → f j ≠ p
def sF (s : mS) (k : Nat) (a b c : Int64) : mS := sG (sG (sG s 56 k a) 57 k b) 58 k c
theorem fdP_sF (s : mS) (k : Nat) (a b c : Int64) (t : Nat) : fdP (sF s k a b c) t = if t = k then (a.toInt, b.toInt, c.toInt) else fdP s t := by
  unfold fdP sF
  simp only [sG_at]
  by_cases w : t = k
  · simp [w]
  · simp [w]
theorem fr_sF (s : mS) (k : Nat) (a b c : Int64) : fr [56, 57, 58] s (sF s k a b c) := (((fr_sG s 56 k a).mo (by decide)).tr ((fr_sG _ 57 k b).mo (by decide))).tr ((fr_sG _ 58 k c).mo (by decide))
theorem x_fd3 {N c : Nat} {x y z : Int64} {W : V3 → Prop} {s : mS} (h54 : s.1 54 = 0) (hc : c ≤ 24) (h55 : s.1 55 = Int32.ofNat c) (hW : ∀ j, j < c → W (fdP s j) ∧ bd3 (fdP s j) 100) (hW2 : ∀ x, W x → ∃ j, j < c ∧ fdP s j = x) (hd : ∀ i j, i < j → j < c → fdP s i ≠ fdP s j) : ∀ (q fu k : Nat), k + q = c → q < fu → (∀ j, j < k → fdP s j ≠ (x.toInt, y.toInt, z.toInt)) → ∃ s', mxX7_finds_3 N fu x y z (Int32.ofNat k) s = some s' ∧ fr [54, 55, 56, 57, 58] s s' ∧ (fdZ s' (fun q => W q ∨ q = (x.toInt, y.toInt, z.toInt)) ∨ s'.1 54 = 1 ∧ bad W (x.toInt, y.toInt, z.toInt)) := by
  intro q
  induction q with
  | zero =>
    intro fu k hk hfu no
    obtain ⟨f', rfl⟩ : ∃ f', fu = f' + 1 := ⟨fu - 1, by omega⟩
    have hkc : k = c := by omega
    subst hkc
    rw [mxX7_finds_3, h55, if_pos (Int32.le_refl _)]
    have l24 : (Int32.ofNat k = 24) = (k = 24) := propext ⟨fun e => i_inj (a := k) (b := 24) (by omega) (by omega) e, fun e => by rw [e]; rfl⟩
    by_cases c24 : k = 24
    · rw [if_pos (by rw [l24]; exact c24), Option.bind_some]
      refine ⟨pI s 54 1, rfl, (fr_pI _ _ _).mo (by decide), .inr ⟨rfl, .inr ⟨fdP s, fun j hj => (hW j (by omega)).1, fun i j hij hj => hd i j hij (by omega), fun j hj => no j (by omega)⟩⟩⟩
    · rw [if_neg (by rw [l24]; exact c24)]
      rcases x_isPt (N := N) (x := x) (y := y) (z := z) (s := s) with ⟨b1, e⟩ | ⟨b1, e⟩
      · rw [e, Option.bind_some]
        dsimp only
        rw [if_neg (by decide), h55, wG32 rfl (by omega), Option.bind_some]
        have g1 : (sG s 56 k x).1 55 = Int32.ofNat k := h55
        rw [g1, wG32 rfl (by omega), Option.bind_some]
        have g2 : (sG (sG s 56 k x) 57 k y).1 55 = Int32.ofNat k := h55
        rw [g2, wG32 rfl (by omega), Option.bind_some]
        have g3 : (sG (sG (sG s 56 k x) 57 k y) 58 k z).1 55 = Int32.ofNat k := h55
        rw [g3, i_s, Option.bind_some]
        have fs : ∀ t, fdP (pI (sF s k x y z) 55 (Int32.ofNat (k + 1))) t = if t = k then (x.toInt, y.toInt, z.toInt) else fdP s t := fun t => fdP_sF s k x y z t
        refine ⟨pI (sF s k x y z) 55 (Int32.ofNat (k + 1)), rfl, ((fr_sF _ _ _ _ _).mo (by decide)).tr ((fr_pI _ _ _).mo (by decide)), .inl ⟨h54, k + 1, by omega, rfl, fun j hj => ?_, fun u hu => ?_, fun i j hij hj => ?_⟩⟩
        · rw [fs]
          by_cases w : j = k
          · rw [if_pos w]
            exact ⟨.inr rfl, b1⟩
          · rw [if_neg w]
            exact ⟨.inl (hW j (by omega)).1, (hW j (by omega)).2⟩
        · rcases hu with hu | hu
          · obtain ⟨j, j1, j2⟩ := hW2 u hu
            exact ⟨j, by omega, by rw [fs, if_neg (by omega)]; exact j2⟩
          · exact ⟨k, by omega, by rw [fs, if_pos rfl]; exact hu.symm⟩
        · rw [fs, fs, if_neg (by omega : ¬ i = k)]
          by_cases w : j = k
          · rw [if_pos w]
            exact no i (by omega)
          · rw [if_neg w]
            exact hd i j hij (by omega)
      · rw [e, Option.bind_some]
        dsimp only
        rw [if_pos rfl, Option.bind_some]
        exact ⟨pI s 54 1, rfl, (fr_pI _ _ _).mo (by decide), .inr ⟨rfl, .inl b1⟩⟩
  | succ q ih =>
    intro fu k hk hfu no
    obtain ⟨f', rfl⟩ : ∃ f', fu = f' + 1 := ⟨fu - 1, by omega⟩
    have ne : ¬ (Int32.ofNat c ≤ Int32.ofNat k) := by
      rw [i_le (by omega) (by omega)]
      omega
    rw [mxX7_finds_3, h55, if_neg ne, rG32 rfl (by omega), Option.bind_some]
    unfold mxX7_finds_50
    rw [i_s]
    have nxt : fdP s k ≠ (x.toInt, y.toInt, z.toInt) → ∃ s', mxX7_finds_3 N f' x y z (Int32.ofNat (k + 1)) s = some s' ∧ fr [54, 55, 56, 57, 58] s s' ∧ (fdZ s' (fun q => W q ∨ q = (x.toInt, y.toInt, z.toInt)) ∨ s'.1 54 = 1 ∧ bad W (x.toInt, y.toInt, z.toInt)) := fun h => ih f' (k + 1) (by omega) (by omega) (fun j hj => by
      by_cases w : j = k
      · rw [w]
        exact h
      · exact no j (by omega))
    by_cases c1 : s.2.2.2 56 k = x
    · rw [if_pos c1, rG32 rfl (by omega), Option.bind_some]
      by_cases c2 : s.2.2.2 57 k = y
      · rw [if_pos c2, rG32 rfl (by omega), Option.bind_some]
        by_cases c3 : s.2.2.2 58 k = z
        · rw [if_pos c3]
          have ek : fdP s k = (x.toInt, y.toInt, z.toInt) := by
            unfold fdP
            rw [c1, c2, c3]
          refine ⟨s, rfl, fr.rf, .inl ⟨h54, c, hc, h55, fun j hj => ⟨.inl (hW j hj).1, (hW j hj).2⟩, fun u hu => ?_, hd⟩⟩
          rcases hu with hu | hu
          · exact hW2 u hu
          · exact ⟨k, by omega, by rw [ek, hu]⟩
        · rw [if_neg c3]
          refine nxt (fun e => c3 (Int64.toInt_inj.mp ?_))
          exact congrArg (fun v : V3 => v.2.2) e
      · rw [if_neg c2]
        refine nxt (fun e => c2 (Int64.toInt_inj.mp ?_))
        exact congrArg (fun v : V3 => v.2.1) e
    · rw [if_neg c1]
      refine nxt (fun e => c1 (Int64.toInt_inj.mp ?_))
      exact congrArg (fun v : V3 => v.1) e
/-- finds -/
theorem x_finds {N : Nat} {x y z : Int64} {W : V3 → Prop} {s : mS} (hN : 600 < N) (h : fdZ s W) : ∃ s', mxX7_finds N x y z s = some s' ∧ fr [54, 55, 56, 57, 58] s s' ∧ (fdZ s' (fun q => W q ∨ q = (x.toInt, y.toInt, z.toInt)) ∨ s'.1 54 = 1 ∧ bad W (x.toInt, y.toInt, z.toInt)) := by
  obtain ⟨h54, c, hc, h55, hW, hW2, hd⟩ := h
  unfold mxX7_finds
  exact x_fd3 h54 hc h55 hW hW2 hd c N 0 (by omega) (by omega) (fun j hj => absurd hj (by omega))
/-- the RING's points, one after the other -/
theorem x_l261 {N r n : Nat} {ρ : Nat → Nat} {s : mS} (hN : 600 < N) (hr : r ≤ 600) (h23 : s.1 23 = Int32.ofNat r) (h22 : ∀ j, j < r → s.2.2.1 22 j = Int32.ofNat (ρ j) ∧ ρ j < 600) : ∀ (q fu i : Nat) (W : V3 → Prop) (h : mS), i + q = r → q < fu → fr [54, 55, 56, 57, 58] s h → fdZ h W → ∃ s', mxX7_looks_261 N fu (Int32.ofNat i) h = some s' ∧ fr [54, 55, 56, 57, 58] s s' ∧ (fdZ s' (fun x => W x ∨ ∃ j, i ≤ j ∧ j < r ∧ x = hp s (ρ j)) ∨ s'.1 54 = 1 ∧ ∃ (W' : V3 → Prop) (j : Nat), j < r ∧ (∀ x, W' x → W x ∨ ∃ j, j < r ∧ x = hp s (ρ j)) ∧ bad W' (hp s (ρ j))) := by
  intro q
  induction q with
  | zero =>
    intro fu i W h hi hfu f1 hf
    obtain ⟨f', rfl⟩ : ∃ f', fu = f' + 1 := ⟨fu - 1, by omega⟩
    have hir : i = r := by omega
    subst hir
    rw [mxX7_looks_261, f1.I (by decide), h23, if_pos (Int32.le_refl _)]
    have eW : (fun x => W x ∨ ∃ j, i ≤ j ∧ j < i ∧ x = hp s (ρ j)) = W := by
      funext x
      refine propext ⟨fun w => ?_, fun w => .inl w⟩
      rcases w with w | ⟨j, j1, j2, -⟩
      · exact w
      · omega
    rw [eW]
    exact ⟨h, rfl, f1, .inl hf⟩
  | succ q ih =>
    intro fu i W h hi hfu f1 hf
    obtain ⟨f', rfl⟩ : ∃ f', fu = f' + 1 := ⟨fu - 1, by omega⟩
    have ne : ¬ (Int32.ofNat r ≤ Int32.ofNat i) := by
      rw [i_le (by omega) (by omega)]
      omega
    obtain ⟨q1, q2⟩ := h22 i (by omega)
    have e22 : h.2.2.1 22 = s.2.2.1 22 := f1.A (by decide)
    rw [mxX7_looks_261, f1.I (by decide), h23, if_neg ne, if_pos hf.1, rA600 rfl (by omega), Option.bind_some, e22, q1, rG600 rfl (by omega), Option.bind_some, Option.bind_some, rG600 rfl (by omega), Option.bind_some, Option.bind_some, rG600 rfl (by omega), Option.bind_some]
    obtain ⟨s1, e1, f2, h2⟩ := x_finds (N := N) (x := h.2.2.2 16 (ρ i)) (y := h.2.2.2 17 (ρ i)) (z := h.2.2.2 18 (ρ i)) hN hf
    have ep : ((h.2.2.2 16 (ρ i)).toInt, (h.2.2.2 17 (ρ i)).toInt, (h.2.2.2 18 (ρ i)).toInt) = hp s (ρ i) := by
      unfold hp
      rw [f1.G (by decide), f1.G (by decide), f1.G (by decide)]
    rw [ep] at h2
    rw [e1, Option.bind_some, i_s]
    rcases h2 with h2 | ⟨h2, b⟩
    · obtain ⟨s', e3, f3, h3⟩ := ih f' (i + 1) _ s1 (by omega) (by omega) (f1.tr f2) h2
      refine ⟨s', e3, f3, ?_⟩
      rcases h3 with h3 | ⟨h3, W', j, j1, j2, j3⟩
      · left
        have eW : (fun x => (W x ∨ x = hp s (ρ i)) ∨ ∃ j, i + 1 ≤ j ∧ j < r ∧ x = hp s (ρ j)) = (fun x => W x ∨ ∃ j, i ≤ j ∧ j < r ∧ x = hp s (ρ j)) := by
          funext x
          refine propext ⟨fun w => ?_, fun w => ?_⟩
          · rcases w with (w | w) | ⟨j, j1, j2, j3⟩
            · exact .inl w
            · exact .inr ⟨i, by omega, by omega, w⟩
            · exact .inr ⟨j, by omega, j2, j3⟩
          · rcases w with w | ⟨j, j1, j2, j3⟩
            · exact .inl (.inl w)
            · by_cases e : j = i
              · rw [e] at j3
                exact .inl (.inr j3)
              · exact .inr ⟨j, by omega, j2, j3⟩
        rw [← eW]
        exact h3
      · refine .inr ⟨h3, W', j, j1, fun x hx => ?_, j3⟩
        rcases j2 x hx with (w | w) | w
        · exact .inl w
        · exact .inr ⟨i, by omega, w⟩
        · exact .inr w
    · -- too many: the next round ends it
      obtain ⟨f'', rfl⟩ : ∃ f'', f' = f'' + 1 := ⟨f' - 1, by omega⟩
      refine ⟨s1, ?_, f1.tr f2, .inr ⟨h2, W, i, by omega, fun x hx => .inl hx, b⟩⟩
      rw [mxX7_looks_261]
      by_cases c : s1.1 23 ≤ Int32.ofNat (i + 1)
      · rw [if_pos c]
      · rw [if_neg c, if_neg (by rw [h2]; decide)]
/-- list: the numbers themselves -/
theorem x_l230 {N n : Nat} {s : mS} (hn : n ≤ 600) (h15 : s.1 15 = Int32.ofNat n) : ∀ (q fu k : Nat) (h : mS), k + q = n → q < fu → fr [20] s h → (∀ j, j < k → h.2.2.1 20 j = Int32.ofNat j) → ∃ h', fr [20] s h' ∧ (∀ j, j < n → h'.2.2.1 20 j = Int32.ofNat j) ∧ mxX7_looks_230 N fu (Int32.ofNat k) h = (mxX7_rings N h').bind fun o52 => mxX7_looks_261 N N (0 : Int32) o52 := by
  intro q
  induction q with
  | zero =>
    intro fu k h hk hfu f1 hl
    obtain ⟨f', rfl⟩ : ∃ f', fu = f' + 1 := ⟨fu - 1, by omega⟩
    have hkn : k = n := by omega
    subst hkn
    refine ⟨h, f1, hl, ?_⟩
    rw [mxX7_looks_230, f1.I (by decide), h15, if_pos (Int32.le_refl _)]
  | succ q ih =>
    intro fu k h hk hfu f1 hl
    obtain ⟨f', rfl⟩ : ∃ f', fu = f' + 1 := ⟨fu - 1, by omega⟩
    have ne : ¬ (Int32.ofNat n ≤ Int32.ofNat k) := by
      rw [i_le (by omega) (by omega)]
      omega
    rw [mxX7_looks_230, f1.I (by decide), h15, if_neg ne, wA600 rfl (by omega), Option.bind_some, i_s]
    refine ih f' (k + 1) _ (by omega) (by omega) (f1.tr (fr_sA _ _ _ _)) (fun j hj => ?_)
    rw [sA_at]
    by_cases w : j = k
    · rw [if_pos ⟨rfl, w⟩, w]
    · rw [if_neg (fun q => w q.2)]
      exact hl j (by omega)
