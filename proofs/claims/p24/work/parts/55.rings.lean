/-- the next one round is one alone -/
theorem nx_uniq {n : V3} {Q : Nat → V3} {m a b c : Nat} {d : Int} (hn : 0 < vd n n) (hpl : ∀ k, k < m → vd n (Q k) = d) (hdi : ∀ i j, i < m → j < m → i ≠ j → Q i ≠ Q j) (ha : a < m) (hb : b < m) (hc : c < m) (hba : b ≠ a) (hca : c ≠ a) (ea : ex Q m a) (h1 : nx1 n Q a b (fun k => k < m)) (h2 : nx1 n Q a c (fun k => k < m)) : b = c := by
  have pl : ∀ k, k < m → vd n (vs (Q k) (Q a)) = 0 := by
    intro k hk
    rw [vd_vs, hpl k hk, hpl a ha]
    omega
  obtain ⟨p1, p2⟩ := h1 c hc hca
  obtain ⟨q1, q2⟩ := h2 b hb hba
  have an : br n (Q a) (Q c) (Q b) = - br n (Q a) (Q b) (Q c) := br_anti n _ _
  have z : br n (Q a) (Q b) (Q c) = 0 := by omega
  have l1 := p2 z
  have l2 := q2 (by omega)
  have par : vx (vs (Q b) (Q a)) (vs (Q c) (Q a)) = v0 := par0 hn (pl b hb) (pl c hc) z
  obtain ⟨u, hu⟩ := ea
  have u1 := hu b hb hba
  have u2 := hu c hc hca
  have A1 := along_u u par
  have A3 := along_u (vs (Q b) (Q a)) par
  obtain ⟨y1, y2, y3⟩ := along_eq par
  have xne : vs (Q c) (Q a) ≠ v0 := by
    intro e
    have : vd u (vs (Q c) (Q a)) = 0 := by
      rw [e]
      simp [vd, v0]
    rw [vd_vs] at this
    omega
  have X := vd_pos xne
  rw [vd_vs u, vd_vs u] at A1
  have el : vd (vs (Q b) (Q a)) (vs (Q b) (Q a)) = vd (vs (Q c) (Q a)) (vs (Q c) (Q a)) := by omega
  rw [el] at A3
  have Yp : 0 < vd (vs (Q b) (Q a)) (vs (Q c) (Q a)) := by
    by_cases y : 0 < vd (vs (Q b) (Q a)) (vs (Q c) (Q a))
    · exact y
    · have t1 : vd (vs (Q c) (Q a)) (vs (Q c) (Q a)) * (vd u (Q b) - vd u (Q a)) < 0 := Int.mul_neg_of_pos_of_neg X (by omega)
      have t2 : 0 ≤ vd (vs (Q b) (Q a)) (vs (Q c) (Q a)) * (vd u (Q c) - vd u (Q a)) := Int.mul_nonneg_of_nonpos_of_nonpos (by omega) (by omega)
      omega
  have ce : vd (vs (Q b) (Q a)) (vs (Q c) (Q a)) = vd (vs (Q c) (Q a)) (vs (Q c) (Q a)) := by
    have t1 := sq_le (q := vd (vs (Q b) (Q a)) (vs (Q c) (Q a))) (p := vd (vs (Q c) (Q a)) (vs (Q c) (Q a))) Yp (by omega) (by omega)
    have t2 := sq_le (p := vd (vs (Q b) (Q a)) (vs (Q c) (Q a))) (q := vd (vs (Q c) (Q a)) (vs (Q c) (Q a))) X (by omega) (by omega)
    omega
  rw [ce] at y1 y2 y3
  have g1 := Int.eq_of_mul_eq_mul_left (by omega) y1
  have g2 := Int.eq_of_mul_eq_mul_left (by omega) y2
  have g3 := Int.eq_of_mul_eq_mul_left (by omega) y3
  have g1' : (Q b).1 - (Q a).1 = (Q c).1 - (Q a).1 := g1
  have g2' : (Q b).2.1 - (Q a).2.1 = (Q c).2.1 - (Q a).2.1 := g2
  have g3' : (Q b).2.2 - (Q a).2.2 = (Q c).2.2 - (Q a).2.2 := g3
  by_cases hbc : b = c
  · exact hbc
  · exact absurd (v3_ext (by omega) (by omega) (by omega)) (hdi b c hb hc hbc)
/-- the list of those that lie on a plane -/
def lsO (s : mS) (c : Nat) (l : Nat → Nat) : Prop := s.1 21 = Int32.ofNat c ∧ ∀ j, j < c → s.2.2.1 20 j = Int32.ofNat (l j)
/-- what rings needs of the state: a list l of c points of the heap, in order, on a plane across nv -/
def rgP (s : mS) (c : Nat) (l : Nat → Nat) : Prop := lsO s c l ∧ c ≤ 600 ∧ (∀ j, j < c → l j < 600 ∧ bd3 (hp s (l j)) 200) ∧ bd3 (nv s) 320000 ∧ (∀ i j, i < j → j < c → l i < l j)
/-- only what rings writes has changed -/
def smR (s s' : mS) : Prop := (∀ k, ¬ k = 23 → s'.1 k = s.1 k) ∧ s'.2.1 = s.2.1 ∧ (∀ k, ¬ k = 22 → s'.2.2.1 k = s.2.2.1 k) ∧ s'.2.2.2 = s.2.2.2
theorem smR.rf {s : mS} : smR s s := ⟨fun _ _ => rfl, rfl, fun _ _ => rfl, rfl⟩
theorem smR.tr {a b c : mS} (h : smR a b) (g : smR b c) : smR a c := ⟨fun k q => (g.1 k q).trans (h.1 k q), g.2.1.trans h.2.1, fun k q => (g.2.2.1 k q).trans (h.2.2.1 k q), g.2.2.2.trans h.2.2.2⟩
theorem smR_hp {s s' : mS} (h : smR s s') (k : Nat) : hp s' k = hp s k := by
  unfold hp
  rw [h.2.2.2]
theorem smR_nv {s s' : mS} (h : smR s s') : nv s' = nv s := by
  unfold nv
  rw [h.2.1]
theorem rgP_sm {s s' : mS} {c : Nat} {l : Nat → Nat} (h : rgP s c l) (g : smR s s') : rgP s' c l := by
  obtain ⟨⟨h1, h2⟩, h3, h4, h5, h6⟩ := h
  refine ⟨⟨by rw [g.1 21 (by decide), h1], fun j hj => by rw [g.2.2.1 20 (by decide), h2 j hj]⟩, h3, fun j hj => ⟨(h4 j hj).1, ?_⟩, ?_, h6⟩
  · rw [smR_hp g]
    exact (h4 j hj).2
  · rw [smR_nv g]
    exact h5
theorem l_inj {c : Nat} {l : Nat → Nat} (h : ∀ i j, i < j → j < c → l i < l j) {i j : Nat} (hi : i < c) (hj : j < c) (e : l i = l j) : i = j := by
  by_cases c1 : i < j
  · have := h i j c1 hj
    omega
  · by_cases c2 : j < i
    · have := h j i c2 hi
      omega
    · omega
theorem n1_ne {k : Nat} (h : k < 2147483648) : ¬ (Int32.ofNat k = -1) := by
  intro e
  have := congrArg Int32.toInt e
  rw [Int32.toInt_ofNat_of_lt h] at this
  have e1 : (-1 : Int32).toInt = -1 := rfl
  omega
theorem i64_lt {a b : Int64} {x y : Int} (ha : a.toInt = x) (hb : b.toInt = y) : (a < b) = (x < y) := by
  rw [Int64.lt_iff_toInt_lt, ha, hb]
theorem i64_le {a b : Int64} {x y : Int} (ha : a.toInt = x) (hb : b.toInt = y) : (a ≤ b) = (x ≤ y) := by
  rw [Int64.le_iff_toInt_le, ha, hb]
theorem i64_eq {a b : Int64} {x y : Int} (ha : a.toInt = x) (hb : b.toInt = y) : (a = b) = (x = y) := by
  rw [← Int64.toInt_inj, ha, hb]
/-- the search for the next one round -/
theorem x_inner {N c a : Nat} {l : Nat → Nat} {d : Int} {s : mS} {rec12 : Int32 → mS → Option mS} (hP : rgP s c l) (hn : 0 < vd (nv s) (nv s)) (hpl : ∀ k, k < c → vd (nv s) (hp s (l k)) = d) (ha : a < c) (hex : ex (fun k => hp s (l k)) c a) (hc2 : 2 ≤ c) :
    ∀ (m f k : Nat) (best : Int32), k + m = c → m < f → (best = -1 ∧ (∀ j, j < k → j = a) ∨ ∃ b, b < k ∧ b ≠ a ∧ best = Int32.ofNat (l b) ∧ nx1 (nv s) (fun k => hp s (l k)) a b (fun j => j < k)) →
    ∃ b, b < c ∧ b ≠ a ∧ nx1 (nv s) (fun k => hp s (l k)) a b (fun j => j < c) ∧ mxX7_rings_36 N rec12 f (Int32.ofNat (l a)) best (Int32.ofNat k) s = if b = 0 then some s else rec12 (Int32.ofNat (l b)) s := by
  obtain ⟨⟨h21, h20⟩, hc6, hl, hbn, hlt⟩ := hP
  have r20 : ∀ k, k < c → rA s 20 (Int32.ofNat k) = some (Int32.ofNat (l k)) := by
    intro k hk
    have hk6 : k < aN 20 := by show k < 600; omega
    rw [rA_N hk6 (by decide), h20 k hk]
  have ofl : ∀ i j, i < c → j < c → (Int32.ofNat (l i) = Int32.ofNat (l j)) = (i = j) := by
    intro i j hi hj
    apply propext
    constructor
    · intro e
      have h1 := (hl i hi).1
      have h2 := (hl j hj).1
      exact l_inj hlt hi hj (i_inj (by omega) (by omega) e)
    · intro e
      rw [e]
  intro m
  induction m with
  | zero =>
    intro f k best hk hf hb
    obtain ⟨f', rfl⟩ : ∃ f', f = f' + 1 := ⟨f - 1, by omega⟩
    have hkc : k = c := by omega
    subst hkc
    rcases hb with ⟨-, hb⟩ | ⟨b, hb1, hb2, rfl, hb3⟩
    · exfalso
      have e0 := hb 0 (by omega)
      have e1 := hb 1 (by omega)
      omega
    · refine ⟨b, hb1, hb2, hb3, ?_⟩
      have r0 : rA s 20 0 = some (Int32.ofNat (l 0)) := r20 0 (by omega)
      rw [mxX7_rings_36, h21, if_pos (Int32.le_refl _), r0, Option.bind_some]
      simp only [ofl b 0 hb1 (by omega)]
      by_cases q : b = 0
      · rw [if_pos q, if_pos q]
      · rw [if_neg q, if_neg q, if_neg (n1_ne (by have := (hl b hb1).1; omega))]
  | succ m ih =>
    intro f k best hk hf hb
    obtain ⟨f', rfl⟩ : ∃ f', f = f' + 1 := ⟨f - 1, by omega⟩
    have hkc : k < c := by omega
    have ne1 : ¬ (Int32.ofNat c ≤ Int32.ofNat k) := by
      rw [i_le (by omega) (by omega)]
      omega
    rw [mxX7_rings_36, h21, if_neg ne1, r20 k hkc, Option.bind_some]
    simp only [ofl k a hkc ha]
    by_cases q : k = a
    · rw [if_pos q]
      unfold mxX7_rings_116
      rw [i_s]
      refine ih f' (k + 1) best (by omega) (by omega) ?_
      rcases hb with ⟨e, hb⟩ | ⟨b, hb1, hb2, e, hb3⟩
      · left
        refine ⟨e, fun j hj => ?_⟩
        by_cases w : j = k
        · omega
        · exact hb j (by omega)
      · right
        refine ⟨b, by omega, hb2, e, fun j hj hja => ?_⟩
        have hj' : j < k + 1 := hj
        exact hb3 j (by show j < k; omega) hja
    · rw [if_neg q]
      rcases hb with ⟨rfl, hb⟩ | ⟨b, hb1, hb2, rfl, hb3⟩
      · rw [if_pos rfl]
        unfold mxX7_rings_80
        rw [if_pos (by decide)]
        unfold mxX7_rings_113 mxX7_rings_116
        rw [i_s]
        refine ih f' (k + 1) _ (by omega) (by omega) (.inr ⟨k, by omega, q, rfl, fun j hj hja => ?_⟩)
        have hj' : j < k + 1 := hj
        have hjk : j = k := by
          by_cases w : j = k
          · exact w
          · exact absurd (hb j (by omega)) hja
        rw [hjk]
        have self : br (nv s) (hp s (l a)) (hp s (l k)) (hp s (l k)) = 0 := by
          unfold br
          rw [vx_self]
          simp [vd, v0]
        exact ⟨by rw [self]; exact Int.le_refl 0, fun _ => Int.le_refl _⟩
      · have hla := hl a ha
        have hlb := hl b (by omega)
        have hlk := hl k hkc
        rw [if_neg (n1_ne (by omega))]
        obtain ⟨v, ev, hv⟩ := x_leftOf (N := N) hla.1 hlb.1 hlk.1 hla.2 hlb.2 hlk.2 hbn
        obtain ⟨v1, ev1, hv1, -⟩ := x_apartOf (N := N) (s := s) hla.1 hlk.1 hla.2 hlk.2
        obtain ⟨v2, ev2, hv2, -⟩ := x_apartOf (N := N) (s := s) hla.1 hlb.1 hla.2 hlb.2
        rw [vd_swap] at hv1 hv2
        have z0 : (0 : Int64).toInt = 0 := rfl
        rw [ev, Option.bind_some]
        dsimp only
        unfold mxX7_rings_80
        simp only [i64_lt hv z0, i64_eq hv z0, ev1, ev2, Option.bind_some, i64_le hv1 hv2]
        unfold mxX7_rings_113 mxX7_rings_116
        rw [i_s]
        have st := nx_step (n := nv s) (Q := fun k => hp s (l k)) (m := c) (a := a) (b := b) (r := k) (d := d) (K := fun j => j < k) hn hpl ha hex (by omega) hb2 hkc q (fun j hj => by have hj' : j < k := hj; omega) hb3
        by_cases t : br (nv s) (hp s (l a)) (hp s (l b)) (hp s (l k)) < 0 ∨ br (nv s) (hp s (l a)) (hp s (l b)) (hp s (l k)) = 0 ∧ vd (vs (hp s (l b)) (hp s (l a))) (vs (hp s (l b)) (hp s (l a))) < vd (vs (hp s (l k)) (hp s (l a))) (vs (hp s (l k)) (hp s (l a)))
        · have nx := st.1 t
          have go := ih f' (k + 1) (Int32.ofNat (l k)) (by omega) (by omega) (.inr ⟨k, by omega, q, rfl, fun j hj hja => nx j (by have hj' : j < k + 1 := hj; by_cases w : j = k; exact .inr w; exact .inl (show j < k by omega)) hja⟩)
          rcases t with t | ⟨t1, t2⟩
          · rw [if_pos t]
            exact go
          · rw [if_neg (by omega), if_pos t1, if_neg (by omega)]
            exact go
        · have nx := st.2 t
          have go := ih f' (k + 1) (Int32.ofNat (l b)) (by omega) (by omega) (.inr ⟨b, by omega, hb2, rfl, fun j hj hja => nx j (by have hj' : j < k + 1 := hj; by_cases w : j = k; exact .inr w; exact .inl (show j < k by omega)) hja⟩)
          by_cases t1 : br (nv s) (hp s (l a)) (hp s (l b)) (hp s (l k)) < 0
          · exact absurd (.inl t1) t
          · rw [if_neg t1]
            by_cases t2 : br (nv s) (hp s (l a)) (hp s (l b)) (hp s (l k)) = 0
            · rw [if_pos t2, if_pos]
              · exact go
              · by_cases t3 : vd (vs (hp s (l b)) (hp s (l a))) (vs (hp s (l b)) (hp s (l a))) < vd (vs (hp s (l k)) (hp s (l a))) (vs (hp s (l k)) (hp s (l a)))
                · exact absurd (.inr ⟨t2, t3⟩) t
                · omega
            · rw [if_neg t2]
              exact go
