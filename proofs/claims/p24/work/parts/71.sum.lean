/-- no three bounding planes have the point v in the middle -/
theorem three_mid {w : V3} {P : Nat → V3} {m v a1 a2 a3 b1 b2 b3 : Nat} {n1 n2 n3 : V3} {d1 d2 d3 : Int} (hw : 0 < vd w w) (ho : inOrd w P m) (hfull : full P m) (F1 : fc P m n1 d1) (F2 : fc P m n2 d2) (F3 : fc P m n3 d3) (h12 : ¬ (n2 = n1 ∧ d2 = d1)) (h13 : ¬ (n3 = n1 ∧ d3 = d1)) (h23 : ¬ (n3 = n2 ∧ d3 = d2)) (p1 : a1 < v) (q1 : v < b1) (r1 : b1 < m) (s1 : vd n1 (P a1) = d1) (t1 : vd n1 (P v) = d1) (u1 : vd n1 (P b1) = d1) (z1 : vx (vs (P v) (P a1)) (vs (P b1) (P a1)) ≠ v0) (p2 : a2 < v) (q2 : v < b2) (r2 : b2 < m) (s2 : vd n2 (P a2) = d2) (t2 : vd n2 (P v) = d2) (u2 : vd n2 (P b2) = d2) (z2 : vx (vs (P v) (P a2)) (vs (P b2) (P a2)) ≠ v0) (p3 : a3 < v) (q3 : v < b3) (r3 : b3 < m) (s3 : vd n3 (P a3) = d3) (t3 : vd n3 (P v) = d3) (u3 : vd n3 (P b3) = d3) (z3 : vx (vs (P v) (P a3)) (vs (P b3) (P a3)) ≠ v0) : False := by
  have nn : ∀ (n n' : V3) (d d' : Int) (a b : Nat), fc P m n d → fc P m n' d' → ¬ (n' = n ∧ d' = d) → a < m → b < m → vd n (P v) = d → vd n' (P a) = d' → vd n' (P v) = d' → vd n' (P b) = d' → vx (vs (P v) (P a)) (vs (P b) (P a)) ≠ v0 → vd n (vs (P a) (P v)) ≤ 0 ∧ vd n (vs (P b) (P v)) ≤ 0 ∧ (vd n (vs (P a) (P v)) < 0 ∨ vd n (vs (P b) (P v)) < 0) := by
    intro n n' d d' a b g g' hne ha hb ev ea' ev' eb' z
    have l1 := g.1 a ha
    have l2 := g.1 b hb
    rw [vd_vs, vd_vs]
    refine ⟨by omega, by omega, ?_⟩
    by_cases c1 : vd n (P a) = d
    · by_cases c2 : vd n (P b) = d
      · exact absurd (fc_same hfull g g' c1 ev c2 ea' ev' eb' z) hne
      · right
        omega
    · left
      omega
  have sym : ∀ {n n' : V3} {d d' : Int}, ¬ (n' = n ∧ d' = d) → ¬ (n = n' ∧ d = d') := fun h e => h ⟨e.1.symm, e.2.symm⟩
  have n12 := nn _ _ _ _ a2 b2 F1 F2 h12 (by omega) (by omega) t1 s2 t2 u2 z2
  have n13 := nn _ _ _ _ a3 b3 F1 F3 h13 (by omega) (by omega) t1 s3 t3 u3 z3
  have n21 := nn _ _ _ _ a1 b1 F2 F1 (sym h12) (by omega) (by omega) t2 s1 t1 u1 z1
  have n23 := nn _ _ _ _ a3 b3 F2 F3 h23 (by omega) (by omega) t2 s3 t3 u3 z3
  have n31 := nn _ _ _ _ a1 b1 F3 F1 (sym h13) (by omega) (by omega) t3 s1 t1 u1 z1
  have n32 := nn _ _ _ _ a2 b2 F3 F2 (sym h23) (by omega) (by omega) t3 s2 t2 u2 z2
  exact three_no (v := P v) (p1 := P a1) (p2 := P a2) (p3 := P a3) (q1 := P b1) (q2 := P b2) (q3 := P b3) hw (ho a1 v p1 (by omega)) (ho a2 v p2 (by omega)) (ho a3 v p3 (by omega)) (ho v b1 q1 r1) (ho v b2 q2 r2) (ho v b3 q3 r3) (by rw [vd_vs]; omega) (by rw [vd_vs]; omega) (by rw [vd_vs]; omega) (by rw [vd_vs]; omega) (by rw [vd_vs]; omega) (by rw [vd_vs]; omega) n12.1 n12.2.1 n12.2.2 n13.1 n13.2.1 n13.2.2 n21.1 n21.2.1 n21.2.2 n23.1 n23.2.1 n23.2.2 n31.1 n31.2.1 n31.2.2 n32.1 n32.2.1 n32.2.2
def dl (a x : Nat) : Nat := if x = a then 1 else 0
theorem sm_dl (a : Nat) : ∀ n, sm (dl a) n = if a < n then 1 else 0 := by
  intro n
  induction n with
  | zero => rfl
  | succ n ih =>
    show sm (dl a) n + dl a n = _
    rw [ih]
    unfold dl
    by_cases c : n = a
    · rw [if_pos c, if_neg (by omega), if_pos (by omega)]
    · rw [if_neg c]
      by_cases c2 : a < n
      · rw [if_pos c2, if_pos (by omega)]
      · rw [if_neg c2, if_neg (by omega)]
/-- a RING's vertices: in the plane, apart, each farthest along some way -/
theorem rgF_v {P : Nat → V3} {m r : Nat} {n : V3} {d : Int} {ρ : Nat → Nat} (hf : fc P m n d) (h : rgF P m n d r ρ) : (∀ j, j < r → ρ j < m ∧ vd n (P (ρ j)) = d ∧ ex P m (ρ j)) ∧ ∀ i j, i < j → j < r → ρ i ≠ ρ j := by
  obtain ⟨c, l, g, hc, hl, hlt, hall, r1, rc, g0, hg, gd, gx, gr⟩ := h
  refine ⟨fun j hj => ?_, fun i j hij hj e => ?_⟩
  · have q := hg j hj
    rw [q.1]
    exact ⟨(hl _ q.2.1).1, (hl _ q.2.1).2, ex_all hf.1 hall hl q.2.1 q.2.2⟩
  · have q1 := hg i (by omega)
    have q2 := hg j hj
    rw [q1.1, q2.1] at e
    exact gd i j hij hj (l_inj hlt q1.2.1 q2.2.1 e)
/-- all RINGS together -/
theorem rings_sum {w : V3} {P : Nat → V3} {n F : Nat} {nf : Nat → V3} {df : Nat → Int} {rf : Nat → Nat} {ρf : Nat → Nat → Nat} (hw : 0 < vd w w) (ho : inOrd w P n) (hfull : full P n) (hdi : ∀ i j, i < n → j < n → i ≠ j → P i ≠ P j) (hf : ∀ k, k < F → fc P n (nf k) (df k)) (hd : ∀ i j, i < j → j < F → ¬ (nf j = nf i ∧ df j = df i)) (hr : ∀ k, k < F → rgF P n (nf k) (df k) (rf k) (ρf k)) (hn : 2 ≤ n) : sm rf F ≤ 2 * F + 2 * (n - 2) := by
  have ch : ∀ k, ∃ lo hi : Nat, k < F → (∃ j, j < rf k ∧ ρf k j = lo) ∧ (∃ j, j < rf k ∧ ρf k j = hi) ∧ ∀ j, j < rf k → lo ≤ ρf k j ∧ ρf k j ≤ hi := by
    intro k
    by_cases hk : k < F
    · have h3 := ring3 (hf k hk) hdi (hr k hk)
      have V := (rgF_v (hf k hk) (hr k hk)).1
      obtain ⟨lo, l1, -, l3⟩ := least (Q := fun x => ∃ j, j < rf k ∧ ρf k j = x) (ρf k 0) ⟨0, by omega, rfl⟩
      obtain ⟨hi, h1, h2, -, h4⟩ := greatest (m := n) (Q := fun x => ∃ j, j < rf k ∧ ρf k j = x) (V 0 (by omega)).1 ⟨0, by omega, rfl⟩
      refine ⟨lo, hi, fun _ => ⟨l1, h2, fun j hj => ⟨?_, ?_⟩⟩⟩
      · by_cases c : ρf k j < lo
        · exact absurd ⟨j, hj, rfl⟩ (l3 _ c)
        · omega
      · by_cases c : hi < ρf k j
        · exact absurd ⟨j, hj, rfl⟩ (h4 _ c (V j hj).1)
        · omega
    · exact ⟨0, 0, fun h => absurd h hk⟩
  have chs : ∀ k, k < F → (∃ j, j < rf k ∧ ρf k j = (ch k).choose) ∧ (∃ j, j < rf k ∧ ρf k j = (ch k).choose_spec.choose) ∧ ∀ j, j < rf k → (ch k).choose ≤ ρf k j ∧ ρf k j ≤ (ch k).choose_spec.choose := fun k => (ch k).choose_spec.choose_spec
  generalize hlo : (fun k => (ch k).choose) = lo at chs
  generalize hhi : (fun k => (ch k).choose_spec.choose) = hi at chs
  have cs : ∀ k, k < F → (∃ j, j < rf k ∧ ρf k j = lo k) ∧ (∃ j, j < rf k ∧ ρf k j = hi k) ∧ ∀ j, j < rf k → lo k ≤ ρf k j ∧ ρf k j ≤ hi k := by
    intro k hk
    rw [← hlo, ← hhi]
    exact chs k hk
  generalize hb : (fun k x : Nat => if (∃ j, j < rf k ∧ ρf k j = x) ∧ x ≠ lo k ∧ x ≠ hi k then 1 else 0) = b
  have bv : ∀ k x, b k x = if (∃ j, j < rf k ∧ ρf k j = x) ∧ x ≠ lo k ∧ x ≠ hi k then 1 else 0 := by
    intro k x
    rw [← hb]
  have b1 : ∀ k x, b k x ≤ 1 := by
    intro k x
    rw [bv]
    by_cases c : (∃ j, j < rf k ∧ ρf k j = x) ∧ x ≠ lo k ∧ x ≠ hi k
    · rw [if_pos c]
      exact Nat.le_refl _
    · rw [if_neg c]
      omega
  have bI : ∀ k x, b k x = 1 → (∃ j, j < rf k ∧ ρf k j = x) ∧ x ≠ lo k ∧ x ≠ hi k := by
    intro k x h
    rw [bv] at h
    by_cases c : (∃ j, j < rf k ∧ ρf k j = x) ∧ x ≠ lo k ∧ x ≠ hi k
    · exact c
    · rw [if_neg c] at h
      omega
  -- each RING: its middle ones and two more
  have one : ∀ k, k < F → rf k ≤ sm (b k) n + 2 := by
    intro k hk
    have V := rgF_v (hf k hk) (hr k hk)
    have h1 : rf k ≤ sm (fun x => b k x + (dl (lo k) x + dl (hi k) x)) n := by
      refine sm_inj (v := ρf k) (fun t ht => ⟨(V.1 t ht).1, ?_⟩) V.2
      show 1 ≤ b k (ρf k t) + (dl (lo k) (ρf k t) + dl (hi k) (ρf k t))
      unfold dl
      by_cases c1 : ρf k t = lo k
      · rw [if_pos c1]
        omega
      · by_cases c2 : ρf k t = hi k
        · rw [if_pos c2]
          omega
        · rw [bv, if_pos ⟨⟨t, ht, rfl⟩, c1, c2⟩]
          omega
    rw [sm_add, sm_add, sm_dl, sm_dl] at h1
    have e1 : (if lo k < n then 1 else 0) ≤ 1 := by
      by_cases c : lo k < n
      · rw [if_pos c]
        exact Nat.le_refl _
      · rw [if_neg c]
        omega
    have e2 : (if hi k < n then 1 else 0) ≤ 1 := by
      by_cases c : hi k < n
      · rw [if_pos c]
        exact Nat.le_refl _
      · rw [if_neg c]
        omega
    omega
  have tot : sm rf F ≤ sm (fun k => sm (b k) n) F + 2 * F := by
    have h1 := sm_le (f := rf) (g := fun k => sm (b k) n + 2) F one
    rw [sm_add, sm_c] at h1
    exact h1
  rw [sm_swap] at tot
  -- each point: the middle one of at most two
  have pt : ∀ x, x < n → sm (fun k => b k x) F + (2 * dl 0 x + 2 * dl (n - 1) x) ≤ 2 := by
    intro x hx
    by_cases c : x = 0 ∨ x = n - 1
    · have z : sm (fun k => b k x) F ≤ sm (fun _ => 0) F := by
        refine sm_le F (fun k hk => ?_)
        by_cases q : b k x = 1
        · exfalso
          obtain ⟨⟨j, hj, ej⟩, q1, q2⟩ := bI k x q
          obtain ⟨⟨jl, jl1, jl2⟩, ⟨jh, jh1, jh2⟩, al⟩ := cs k hk
          have a1 := al j hj
          have V := (rgF_v (hf k hk) (hr k hk)).1
          have v2 := (V jh jh1).1
          omega
        · have := b1 k x
          show b k x ≤ 0
          omega
      rw [sm_c] at z
      unfold dl
      rcases c with c | c
      · rw [if_pos c, if_neg (by omega)]
        omega
      · rw [if_pos c, if_neg (by omega)]
        omega
    · unfold dl
      rw [if_neg (by omega), if_neg (by omega)]
      refine sm_two (b := fun k => b k x) (fun k => b1 k x) ?_
      intro i j k hij hjk hk q1 q2 q3
      have get : ∀ t, t < F → b t x = 1 → ∃ a e, a < x ∧ x < e ∧ e < n ∧ vd (nf t) (P a) = df t ∧ vd (nf t) (P x) = df t ∧ vd (nf t) (P e) = df t ∧ vx (vs (P x) (P a)) (vs (P e) (P a)) ≠ v0 := by
        intro t ht q
        obtain ⟨⟨j, hj, ej⟩, q1, q2⟩ := bI t x q
        obtain ⟨⟨jl, jl1, jl2⟩, ⟨jh, jh1, jh2⟩, al⟩ := cs t ht
        have V := (rgF_v (hf t ht) (hr t ht)).1
        have a1 := al j hj
        have vj := V j hj
        have vl' := V jl jl1
        have vh := V jh jh1
        rw [ej] at vj a1
        rw [jl2] at vl'
        rw [jh2] at vh
        exact ⟨lo t, hi t, by omega, by omega, vh.1, vl'.2.1, vj.2.1, vh.2.1, mid_off ho (by omega) (by omega) vh.1 vj.2.2⟩
      obtain ⟨a1, e1, x1, x2, x3, x4, x5, x6, x7⟩ := get i (by omega) q1
      obtain ⟨a2, e2, y1, y2, y3, y4, y5, y6, y7⟩ := get j (by omega) q2
      obtain ⟨a3, e3, z1, z2, z3, z4, z5, z6, z7⟩ := get k hk q3
      exact three_mid hw ho hfull (hf i (by omega)) (hf j (by omega)) (hf k hk) (hd i j hij (by omega)) (hd i k (by omega) hk) (hd j k hjk hk) x1 x2 x3 x4 x5 x6 x7 y1 y2 y3 y4 y5 y6 y7 z1 z2 z3 z4 z5 z6 z7
  have sum2 := sm_le (f := fun x => sm (fun k => b k x) F + (2 * dl 0 x + 2 * dl (n - 1) x)) (g := fun _ => 2) n pt
  have dbl : ∀ a, sm (fun x => 2 * dl a x) n = 2 * sm (dl a) n := by
    intro a
    have : (fun x => 2 * dl a x) = fun x => dl a x + dl a x := by
      funext x
      omega
    rw [this, sm_add]
    omega
  rw [sm_add, sm_add, dbl, dbl, sm_dl, sm_dl, if_pos (by omega), if_pos (by omega), sm_c] at sum2
  omega
