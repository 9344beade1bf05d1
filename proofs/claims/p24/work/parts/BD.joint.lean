/-- a body of the class is a slot of the reference: as many corners, the same, the same kind -/
def AL (C : cS) (b : Nat) (M K X Y Z : Nat → Int32) (i : Nat) : Prop := ∃ m k, m ≤ 24 ∧ k ≤ 4 ∧ M i = Int32.ofNat m ∧ K i = Int32.ofNat k ∧ qI C (b + 1) 0 = Int32.ofNat m ∧ qI C b 0 = Int32.ofNat k ∧ ∀ j, j < m → pc C (b + 1) j = cP3 X Y Z (24 * i) j
theorem AL_IA {C C' : cS} {b i : Nat} {M K X Y Z : Nat → Int32} (h : AL C b M K X Y Z i) (e : ∀ x, b ≤ x → x ≤ b + 8 → qI C' x = qI C x ∧ qA C' x = qA C x) : AL C' b M K X Y Z i := by
  obtain ⟨m, k, h1, h2, h3, h4, h5, h6, h7⟩ := h
  refine ⟨m, k, h1, h2, h3, h4, by rw [(e (b + 1) (by omega) (by omega)).1]; exact h5, by rw [(e b (by omega) (by omega)).1]; exact h6, fun j hj => ?_⟩
  rw [← h7 j hj]
  unfold pc
  rw [(e (b + 1 + 1) (by omega) (by omega)).2, (e (b + 1 + 2) (by omega) (by omega)).2, (e (b + 1 + 3) (by omega) (by omega)).2]
theorem AL_ref {C : cS} {b i : Nat} {M K X Y Z M' K' X' Y' Z' : Nat → Int32} (h : AL C b M K X Y Z i) (e1 : M' i = M i) (e2 : K' i = K i) (e3 : ∀ t, t < 24 → X' (24 * i + t) = X (24 * i + t) ∧ Y' (24 * i + t) = Y (24 * i + t) ∧ Z' (24 * i + t) = Z (24 * i + t)) : AL C b M' K' X' Y' Z' i := by
  obtain ⟨m, k, h1, h2, h3, h4, h5, h6, h7⟩ := h
  refine ⟨m, k, h1, h2, e1.trans h3, e2.trans h4, h5, h6, fun j hj => ?_⟩
  rw [h7 j hj]
  obtain ⟨y1, y2, y3⟩ := e3 j (by omega)
  unfold cP3
  rw [y1, y2, y3]
/-- the current slots -/
def AL0 (C : cS) (b : Nat) (s : mS) (i : Nat) : Prop := AL C b (s.2.2.1 4) (s.2.2.1 5) (s.2.2.1 6) (s.2.2.1 7) (s.2.2.1 8) i
/-- the slots as they were at change h -/
def ALh (C : cS) (b : Nat) (s : mS) (h i : Nat) : Prop := AL C b (fun t => s.2.2.1 10 (8 * h + t)) (fun t => s.2.2.1 11 (8 * h + t)) (fun t => s.2.2.1 12 (192 * h + t)) (fun t => s.2.2.1 13 (192 * h + t)) (fun t => s.2.2.1 14 (192 * h + t)) i
/-- the body that slot i had d changes ago -/
def vb (bo x : Nat → Nat) (c : Nat) : Nat → Nat → Nat
  | 0, i => bo (1 + i)
  | d + 1, i => if x (c - (d + 1)) = i then bo (9 + (c - (d + 1))) else vb bo x c d i
theorem vb_k {bo x : Nat → Nat} {c : Nat} (hc : c ≤ 8) {i : Nat} (hi : i < 8) : ∀ d, d ≤ c → ∃ k, 1 ≤ k ∧ k < 17 ∧ vb bo x c d i = bo k := by
  intro d
  induction d with
  | zero =>
    intro _
    exact ⟨1 + i, by omega, by omega, rfl⟩
  | succ d ih =>
    intro hd
    show ∃ k, 1 ≤ k ∧ k < 17 ∧ (if x (c - (d + 1)) = i then bo (9 + (c - (d + 1))) else vb bo x c d i) = bo k
    by_cases e : x (c - (d + 1)) = i
    · rw [if_pos e]
      exact ⟨9 + (c - (d + 1)), by omega, by omega, rfl⟩
    · rw [if_neg e]
      exact ih (by omega)
theorem vb_keep {bo bo' x x' : Nat → Nat} {c j : Nat} (hj : j < 8) (hb : ∀ k, bo' k = bo (pK c j k)) (hx : ∀ h, h < c → x' h = x h) (hxc : x' c = j) {i : Nat} (hi : i < 8) : ∀ d, d ≤ c → vb bo' x' (c + 1) (d + 1) i = vb bo x c d i := by
  intro d
  induction d with
  | zero =>
    intro _
    show (if x' (c + 1 - 1) = i then bo' (9 + (c + 1 - 1)) else bo' (1 + i)) = bo (1 + i)
    rw [Nat.add_sub_cancel, hxc, hb, hb]
    have p1 := pK_v c j (9 + c)
    have p2 := pK_v c j (1 + i)
    by_cases e : j = i
    · rw [if_pos e, show pK c j (9 + c) = 1 + j by omega, e]
    · rw [if_neg e, show pK c j (1 + i) = 1 + i by omega]
  | succ d ih =>
    intro hd
    show (if x' (c + 1 - (d + 2)) = i then bo' (9 + (c + 1 - (d + 2))) else vb bo' x' (c + 1) (d + 1) i) = (if x (c - (d + 1)) = i then bo (9 + (c - (d + 1))) else vb bo x c d i)
    rw [show c + 1 - (d + 2) = c - (d + 1) by omega, hx _ (by omega), hb, ih (by omega)]
    have p1 := pK_v c j (9 + (c - (d + 1)))
    rw [show pK c j (9 + (c - (d + 1))) = 9 + (c - (d + 1)) by omega]
theorem vb_forget {bo bo' x x' : Nat → Nat} (hb : ∀ k, bo' k = bo (sD k)) (hx : ∀ h, h < 7 → x' h = x (h + 1)) {i : Nat} (hi : i < 8) : ∀ d, d ≤ 7 → vb bo' x' 7 d i = vb bo x 8 d i := by
  intro d
  induction d with
  | zero =>
    intro _
    show bo' (1 + i) = bo (1 + i)
    have := sD_v (1 + i)
    rw [hb, show sD (1 + i) = 1 + i by omega]
  | succ d ih =>
    intro hd
    show (if x' (7 - (d + 1)) = i then bo' (9 + (7 - (d + 1))) else vb bo' x' 7 d i) = (if x (8 - (d + 1)) = i then bo (9 + (8 - (d + 1))) else vb bo x 8 d i)
    have := sD_v (9 + (7 - (d + 1)))
    rw [hx _ (by omega), hb, ih (by omega), show 7 - (d + 1) + 1 = 8 - (d + 1) by omega, show sD (9 + (7 - (d + 1))) = 9 + (8 - (d + 1)) by omega]
theorem vb_undo {bo bo' x : Nat → Nat} {c j : Nat} (hj : j < 8) (hb : ∀ k, bo' k = bo (pU c j k)) (hxc : x c = j) {i : Nat} (hi : i < 8) : ∀ d, d ≤ c → vb bo' x c d i = vb bo x (c + 1) (d + 1) i := by
  intro d
  induction d with
  | zero =>
    intro _
    show bo' (1 + i) = (if x (c + 1 - 1) = i then bo (9 + (c + 1 - 1)) else bo (1 + i))
    rw [Nat.add_sub_cancel, hxc, hb]
    have p2 := pU_v c j (1 + i)
    by_cases e : j = i
    · rw [if_pos e, show pU c j (1 + i) = 9 + c by omega]
    · rw [if_neg e, show pU c j (1 + i) = 1 + i by omega]
  | succ d ih =>
    intro hd
    show (if x (c - (d + 1)) = i then bo' (9 + (c - (d + 1))) else vb bo' x c d i) = (if x (c + 1 - (d + 2)) = i then bo (9 + (c + 1 - (d + 2))) else vb bo x (c + 1) (d + 1) i)
    have p2 := pU_v c j (9 + (c - (d + 1)))
    rw [show c + 1 - (d + 2) = c - (d + 1) by omega, hb, ih (by omega), show pU c j (9 + (c - (d + 1))) = 9 + (c - (d + 1)) by omega]
/-- the trays are alike, with their points -/
def TK2 (C : cS) (s : mS) : Prop := ∀ j, j < 8 → (s.2.2.1 0 j = -1 ∧ qA C 2 j = 0) ∨ ∃ n, n ≤ 24 ∧ s.2.2.1 0 j = Int32.ofNat n ∧ qA C 2 j = 1 ∧ qI C (47 + 14 * j) 0 = Int32.ofNat n ∧ ∀ k, k < n → pc C (47 + 14 * j) k = cP3 (s.2.2.1 1) (s.2.2.1 2) (s.2.2.1 3) (24 * j) k
/-- both sides are well and alike: trays, solids, and all that undo brings back -/
def JX (C : cS) (s : mS) (bo x : Nat → Nat) (c : Nat) : Prop := CI C bo ∧ INV s ∧ TK2 C s ∧ (c ≤ 8 ∧ qI C 0 5 = Int32.ofNat c ∧ s.1 9 = Int32.ofNat c) ∧ (∀ h, h < c → x h < 8 ∧ qA C 5 h = Int32.ofNat (x h)) ∧ (∀ i, i < 8 → AL0 C (bo (1 + i)) s i) ∧ ∀ d, d < c → ∀ i, i < 8 → ALh C (vb bo x c (d + 1) i) s (c - (d + 1)) i
def JK (C : cS) (s : mS) : Prop := ∃ bo x c, JX C s bo x c
theorem TK2_TF {C C' : cS} {s s' : mS} (h : TK2 C s) (t : TF C C') (e : ∀ k, k < 4 → s'.2.2.1 k = s.2.2.1 k) : TK2 C' s' := fun j hj => by
  have pe : ∀ k, pc C' (47 + 14 * j) k = pc C (47 + 14 * j) k := fun k => by
    unfold pc
    rw [(t.2 (47 + 14 * j + 1) ⟨j, hj, by omega, by omega⟩).2, (t.2 (47 + 14 * j + 2) ⟨j, hj, by omega, by omega⟩).2, (t.2 (47 + 14 * j + 3) ⟨j, hj, by omega, by omega⟩).2]
  rw [e 0 (by omega), e 1 (by omega), e 2 (by omega), e 3 (by omega), t.1, (t.2 (47 + 14 * j) ⟨j, hj, by omega, by omega⟩).1]
  rcases h j hj with w | ⟨n, w1, w2, w3, w4, w5⟩
  · exact .inl w
  · exact .inr ⟨n, w1, w2, w3, w4, fun k hk => by rw [pe]; exact w5 k hk⟩
/-- nothing that counts has changed -/
theorem JX_same {C C' : cS} {s s' : mS} {bo x : Nat → Nat} {c : Nat} (j : JX C s bo x c) (ci : CI C' bo) (tf : TF C C') (fr : FR C C' bo) (e0 : qI C' 0 5 = qI C 0 5) (e5 : qA C' 5 = qA C 5) (f : fi s s') : JX C' s' bo x c := by
  obtain ⟨j1, j2, j3, ⟨j4, j5, j6⟩, j7, j8, j9⟩ := j
  refine ⟨ci, INV_fi j2 f, TK2_TF j3 tf (fun k hk => f.2 k (by omega)), ⟨j4, e0.trans j5, f.1.trans j6⟩, fun h hh => by rw [e5]; exact j7 h hh, fun i hi => ?_, fun d hd i hi => ?_⟩
  · unfold AL0
    rw [f.2 4 (by omega), f.2 5 (by omega), f.2 6 (by omega), f.2 7 (by omega), f.2 8 (by omega)]
    exact AL_IA (j8 i hi) (fr (1 + i) (by omega) (by omega))
  · unfold ALh
    rw [f.2 10 (by omega), f.2 11 (by omega), f.2 12 (by omega), f.2 13 (by omega), f.2 14 (by omega)]
    obtain ⟨k, k1, k17, e⟩ := vb_k (bo := bo) (x := x) j4 hi (d + 1) (by omega)
    have := j9 d hd i hi
    rw [e] at this ⊢
    exact AL_IA this (fr k k1 k17)
theorem FR_cf {s s' : cS} {bo : Nat → Nat} (ci : CI s bo) (c : cf fre s s') : FR s s' bo := fun k _ k17 i a b => ⟨c.I (fre_b ci k17 a b), c.A (fre_b ci k17 a b)⟩
/-- after a read -/
theorem JK_read {C C' : cS} {s s' : mS} (j : JK C s) (c : cf fre C C') (f : fi s s') : JK C' s' := by
  obtain ⟨bo, x, c0, jx⟩ := j
  obtain ⟨ci', tf⟩ := CI_cf jx.1 c (fun i hi => hi)
  exact ⟨bo, x, c0, JX_same jx ci' tf (FR_cf jx.1 c) (by rw [c.I (fre_lo (by omega))]) (c.A (fre_lo (by omega))) f⟩
/-- after a change that was made -/
theorem JX_chg {C C' : cS} {s s' : mS} {bo bo' x : Nat → Nat} {c j kd n m k : Nat} {Z : V3 → Prop} {Q : Nat → V3} (jx : JX C s bo x c) (hj : j < 8) (ci : CI C' bo') (tf : TF C C') (fr : FR C C' bo) (kf : KF2 C C' bo bo' j) (k4 : kd ≤ 4) (q1 : qI C' (bo 0) 0 = Int32.ofNat kd) (q2 : qI C' (bo 0 + 1) 0 = Int32.ofNat n) (cls : CLS Z kd n (pc C' (bo 0 + 1))) (el : EL Z m k Q) (I' : INV s') (ch : chO s s' j m k Q) : JK C' s' ∧ k = kd := by
  obtain ⟨j1, j2, j3, ⟨j4, j5, j6⟩, j7, j8, j9⟩ := jx
  obtain ⟨em, ek, eQ⟩ := CLS_EL cls el
  subst em
  subst ek
  refine ⟨?_, rfl⟩
  obtain ⟨s2, s1, f, ⟨kfr, c0, d0, kc⟩, bfj, b1, b2, b3, b4, b5⟩ := ch
  obtain ⟨kc1, kc2, kc3, kc4, kc5, kc6, kc7, kc8, kc9, kc10⟩ := kc
  obtain ⟨c', e1, e2, kf⟩ := kf
  have ecc : c' = c := i_inj (by omega) (by omega) (e2.symm.trans j5)
  subst ecc
  have e9 : c0 + d0 = c' := i_inj (by omega) (by omega) (by rw [← kc3, f.1]; exact j6)
  -- the arrays of trays
  have tr : ∀ k, k < 4 → s'.2.2.1 k = s.2.2.1 k := fun k hk => by
    have h1 := bfj.2 k (by omega) (by
      intro w
      simp at w
      omega)
    have h2 := (kfr k (by
      intro w
      simp at w
      omega)).2.2.1
    exact h1.trans (h2.trans (f.2 k (by omega)))
  have old : ∀ k, 4 ≤ k → k < 9 → s1.2.2.1 k = s.2.2.1 k := fun k h1 h2 => by
    have h3 := (kfr k (by
      intro w
      simp at w
      omega)).2.2.1
    exact h3.trans (f.2 k (by omega))
  have his : ∀ k, 10 ≤ k → k < 15 → s'.2.2.1 k = s1.2.2.1 k := fun k h1 h2 => bfj.2 k h2 (by
    intro w
    simp at w
    omega)
  have c9 : s'.1 9 = Int32.ofNat (c0 + 1) := bfj.1.trans kc4
  -- the current slots
  have cur : (bo' (1 + j) = bo 0) → (∀ i, i < 8 → i ≠ j → bo' (1 + i) = bo (1 + i)) → ∀ i, i < 8 → AL0 C' (bo' (1 + i)) s' i := fun hb1 hb2 i hi => by
    by_cases d : i = j
    · subst d
      rw [hb1]
      refine ⟨m, k, cls.1, k4, b3, b4, q2, q1, fun t ht => ?_⟩
      have := b5 t ht
      unfold cP at this
      rw [this]
      exact (eQ t ht).symm
    · rw [hb2 i hi d]
      have a1 := AL_IA (j8 i hi) (fr (1 + i) (by omega) (by omega))
      have r1 := b1 i d
      refine AL_ref a1 (by rw [r1.1, old 4 (by omega) (by omega)]) (by rw [r1.2, old 5 (by omega) (by omega)]) (fun t ht => ?_)
      have r2 := b2 (24 * i + t) (by omega)
      rw [r2.1, r2.2.1, r2.2.2, old 6 (by omega) (by omega), old 7 (by omega) (by omega), old 8 (by omega) (by omega)]
      exact ⟨rfl, rfl, rfl⟩
  -- slots of the change that is kept now: those of s
  have now : ∀ i, i < 8 → ALh C' (bo (1 + i)) s' c0 i := fun i hi => by
    have a1 := AL_IA (j8 i hi) (fr (1 + i) (by omega) (by omega))
    have r := kc7 i hi
    refine AL_ref a1 ?_ ?_ (fun t ht => ?_)
    · show s'.2.2.1 10 (8 * c0 + i) = s.2.2.1 4 i
      rw [his 10 (by omega) (by omega), r.1, f.2 4 (by omega)]
    · show s'.2.2.1 11 (8 * c0 + i) = s.2.2.1 5 i
      rw [his 11 (by omega) (by omega), r.2, f.2 5 (by omega)]
    · have r2 := kc9 (24 * i + t) (by omega)
      show s'.2.2.1 12 (192 * c0 + (24 * i + t)) = s.2.2.1 6 (24 * i + t) ∧ s'.2.2.1 13 (192 * c0 + (24 * i + t)) = s.2.2.1 7 (24 * i + t) ∧ s'.2.2.1 14 (192 * c0 + (24 * i + t)) = s.2.2.1 8 (24 * i + t)
      rw [his 12 (by omega) (by omega), his 13 (by omega) (by omega), his 14 (by omega) (by omega), r2.1, r2.2.1, r2.2.2, f.2 6 (by omega), f.2 7 (by omega), f.2 8 (by omega)]
      exact ⟨rfl, rfl, rfl⟩
  -- slots of earlier changes: those of s, d0 places further
  have bef : ∀ h i b, h < c0 → i < 8 → ALh C' b s (h + d0) i → ALh C' b s' h i := fun h i b hh hi a => by
    have r := kc8 (8 * h + i) (by omega)
    refine AL_ref a ?_ ?_ (fun t ht => ?_)
    · show s'.2.2.1 10 (8 * h + i) = s.2.2.1 10 (8 * (h + d0) + i)
      rw [his 10 (by omega) (by omega), r.1, f.2 10 (by omega), show 8 * h + i + 8 * d0 = 8 * (h + d0) + i by omega]
    · show s'.2.2.1 11 (8 * h + i) = s.2.2.1 11 (8 * (h + d0) + i)
      rw [his 11 (by omega) (by omega), r.2, f.2 11 (by omega), show 8 * h + i + 8 * d0 = 8 * (h + d0) + i by omega]
    · have r2 := kc10 (192 * h + (24 * i + t)) (by omega)
      show s'.2.2.1 12 (192 * h + (24 * i + t)) = s.2.2.1 12 (192 * (h + d0) + (24 * i + t)) ∧ s'.2.2.1 13 (192 * h + (24 * i + t)) = s.2.2.1 13 (192 * (h + d0) + (24 * i + t)) ∧ s'.2.2.1 14 (192 * h + (24 * i + t)) = s.2.2.1 14 (192 * (h + d0) + (24 * i + t))
      rw [his 12 (by omega) (by omega), his 13 (by omega) (by omega), his 14 (by omega) (by omega), r2.1, r2.2.1, r2.2.2, f.2 12 (by omega), f.2 13 (by omega), f.2 14 (by omega), show 192 * h + (24 * i + t) + 192 * d0 = 192 * (h + d0) + (24 * i + t) by omega]
      exact ⟨rfl, rfl, rfl⟩
  have hst : ∀ d, d < c' → ∀ i, i < 8 → ALh C' (vb bo x c' (d + 1) i) s (c' - (d + 1)) i := fun d hd i hi => by
    obtain ⟨kk, k1, k17, e⟩ := vb_k (bo := bo) (x := x) e1 hi (d + 1) (by omega)
    have := j9 d hd i hi
    rw [e] at this ⊢
    exact AL_IA this (fr kk k1 k17)
  rcases kf with ⟨l8, hb, i5, a5⟩ | ⟨l8, hb, i5, a5⟩
  · -- no change is forgotten
    have d00 : d0 = 0 := by
      rcases kc5 with w | w
      · exact w
      · have := kc6 w
        omega
    have c00 : c0 = c' := by omega
    refine ⟨bo', fun h => if h = c' then j else x h, c' + 1, ci, I', TK2_TF j3 tf tr, ⟨by omega, i5, by rw [c9, c00]⟩, fun h hh => ?_, cur ?_ (fun i hi ne => ?_), fun d hd i hi => ?_⟩
    · show (if h = c' then j else x h) < 8 ∧ qA C' 5 h = Int32.ofNat (if h = c' then j else x h)
      rw [a5 h (by omega)]
      by_cases e : h = c'
      · rw [if_pos e, if_pos e]
        exact ⟨hj, rfl⟩
      · rw [if_neg e, if_neg e]
        exact j7 h (by omega)
    · have := pK_v c' j (1 + j)
      rw [hb, show pK c' j (1 + j) = 0 by omega]
    · have := pK_v c' j (1 + i)
      rw [hb, show pK c' j (1 + i) = 1 + i by omega]
    · rw [vb_keep (x := x) (x' := fun h => if h = c' then j else x h) hj hb (fun h hh => if_neg (by omega)) (if_pos rfl) hi d (by omega)]
      by_cases d1 : d = 0
      · subst d1
        have := now i hi
        rw [c00] at this
        rw [show c' + 1 - (0 + 1) = c' by omega]
        exact this
      · obtain ⟨d', rfl⟩ : ∃ d', d = d' + 1 := ⟨d - 1, by omega⟩
        rw [show c' + 1 - (d' + 1 + 1) = c' - (d' + 1) by omega]
        refine bef _ i _ (by omega) hi ?_
        rw [d00, Nat.add_zero]
        exact hst d' (by omega) i hi
  · -- the oldest is forgotten
    have d01 : d0 = 1 := by
      rcases kc5 with w | w
      · omega
      · exact w
    have c07 : c0 = 7 := kc6 d01
    refine ⟨bo', fun h => if h = 7 then j else x (h + 1), 8, ci, I', TK2_TF j3 tf tr, ⟨by omega, i5, by rw [c9, c07]⟩, fun h hh => ?_, cur ?_ (fun i hi ne => ?_), fun d hd i hi => ?_⟩
    · show (if h = 7 then j else x (h + 1)) < 8 ∧ qA C' 5 h = Int32.ofNat (if h = 7 then j else x (h + 1))
      rw [a5 h hh]
      by_cases e : h = 7
      · rw [if_pos e, if_pos e]
        exact ⟨hj, rfl⟩
      · rw [if_neg e, if_neg e]
        exact j7 (h + 1) (by omega)
    · have := pK_v 7 j (1 + j)
      rw [hb, show pK 7 j (1 + j) = 0 by omega]
      rfl
    · have := pK_v 7 j (1 + i)
      have := sD_v (1 + i)
      rw [hb, show pK 7 j (1 + i) = 1 + i by omega, show sD (1 + i) = 1 + i by omega]
    · rw [vb_keep (bo := fun k => bo (sD k)) (x := fun h => x (h + 1)) (x' := fun h => if h = 7 then j else x (h + 1)) (c := 7) hj hb (fun h hh => if_neg (by omega)) (if_pos rfl) hi d (by omega), vb_forget (bo := bo) (x := x) (fun k => rfl) (fun h _ => rfl) hi d (by omega)]
      by_cases d1 : d = 0
      · subst d1
        have := now i hi
        rw [c07] at this
        exact this
      · obtain ⟨d', rfl⟩ : ∃ d', d = d' + 1 := ⟨d - 1, by omega⟩
        refine bef _ i _ (by omega) hi ?_
        have := hst d' (by omega) i hi
        rw [l8] at this
        rw [d01, show 8 - (d' + 1 + 1) + 1 = 8 - (d' + 1) by omega]
        exact this
