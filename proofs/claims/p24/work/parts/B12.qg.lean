/-- one row more over a horizon side that has none -/
theorem NW_more {P : Nat → V3} {K T M T1 T' j : Nat} {a σ a' p g : Nat → Nat} (nw : NW P K T a M σ T1 T' a' p g) (hj : j < 3 * M) (ho : hor a σ M j) (nj : ∀ t, T1 ≤ t → t < T' → g t ≠ j) : NW P K T a M σ T1 (T' + 1) (fun i => if i < 3 * T' then a' i else if i = 3 * T' then a (σ j) else if i = 3 * T' + 1 then a (nxs (σ j)) else K) p (fun t => if t = T' then j else g t) := by
  obtain ⟨n1, n2, n3, n4, n5, n6⟩ := nw
  refine ⟨fun i hi => ?_, n2, n3, by omega, fun t h1 h2 => ?_, fun t t' h1 h1' h2 h2' e => ?_⟩
  · obtain ⟨x1, x2, x3, x4⟩ := n1 i hi
    refine ⟨x1, x2, ?_, x4⟩
    show (if i < 3 * T' then a' i else _) = _
    rw [if_pos (by omega)]
    exact x3
  · show (if t = T' then j else g t) < 3 * M ∧ hor a σ M (if t = T' then j else g t) ∧ (if 3 * t < 3 * T' then a' (3 * t) else if 3 * t = 3 * T' then a (σ j) else if 3 * t = 3 * T' + 1 then a (nxs (σ j)) else K) = a (σ (if t = T' then j else g t)) ∧ (if 3 * t + 1 < 3 * T' then a' (3 * t + 1) else if 3 * t + 1 = 3 * T' then a (σ j) else if 3 * t + 1 = 3 * T' + 1 then a (nxs (σ j)) else K) = a (nxs (σ (if t = T' then j else g t))) ∧ (if 3 * t + 2 < 3 * T' then a' (3 * t + 2) else if 3 * t + 2 = 3 * T' then a (σ j) else if 3 * t + 2 = 3 * T' + 1 then a (nxs (σ j)) else K) = K
    by_cases c : t = T'
    · rw [if_pos c, if_neg (by omega), if_pos (by omega), if_neg (by omega), if_neg (by omega), if_pos (by omega), if_neg (by omega), if_neg (by omega), if_neg (by omega)]
      exact ⟨hj, ho, rfl, rfl, rfl⟩
    · rw [if_neg c, if_pos (by omega), if_pos (by omega), if_pos (by omega)]
      exact n5 t h1 (by omega)
  · have e' : (if t = T' then j else g t) = (if t' = T' then j else g t') := e
    by_cases c : t = T'
    · by_cases d : t' = T'
      · omega
      · rw [if_pos c, if_neg d] at e'
        exact absurd e'.symm (nj t' h1' (by omega))
    · by_cases d : t' = T'
      · rw [if_neg c, if_pos d] at e'
        exact absurd e' (nj t h1 (by omega))
      · rw [if_neg c, if_neg d] at e'
        exact n6 t t' h1 h1' (by omega) (by omega) e'
/-- the convex skin over at most M knots that begin with k -/
def QG (M : Nat) (k : Nat → V3) (s : cS) (K T : Nat) : Prop := K ≤ M → 4 ≤ K ∧ bx4 s ≠ 0 ∧ (∀ i j, i < K → j < K → pc s 30 i = pc s 30 j → i = j) ∧ SB (pc s 30) K T (tp s) ∧ SU T (tp s) ∧ SR T (tp s) ∧ 0 < T ∧ ∀ j, j < 4 → pc s 30 j = k j
theorem QG_QC {k : Nat → V3} {s : cS} {K T : Nat} (h : QG 24 k s K T) : QC s K T := fun hk => by
  obtain ⟨h1, h2, h3, h4, h5, h6, -⟩ := h hk
  exact ⟨h1, h2, h3, h4, h5, h6⟩
theorem QG_QO {M : Nat} (hM : M ≤ 25) {k : Nat → V3} {X : Nat → V3 → Prop} (hNB : ∀ s K, 4 ≤ K → bx4 s ≠ 0 → (∀ j, j < 4 → pc s 30 j = k j) → (∀ j, j < K → X j (pc s 30 j)) → NB (pc s 30) K) : QO (QG M k) X := by
  refine ⟨fun s s' K T h e4 e5 pe hk => ?_, fun s s' K T T' t hK ro hP hX h ht gt sk at' pe hk => ?_⟩
  · obtain ⟨h1, h2, h3, h4, h5, h6, h7, h8⟩ := h hk
    have te : tp s' = tp s := by
      funext i
      unfold tp
      rw [e4]
    refine ⟨h1, ?_, fun i j hi hj e => ?_, ?_, ?_, ?_, h7, fun j hj => by rw [pe j (by omega)]; exact h8 j hj⟩
    · unfold bx4
      rw [pe 0 (by omega), pe 1 (by omega), pe 2 (by omega), pe 3 (by omega)]
      exact h2
    · rw [pe i hi, pe j hj] at e
      exact h3 i j hi hj e
    · rw [te]
      exact SB_cg h4 pe
    · rw [te]
      exact h5
    · rw [te]
      exact h6
  · obtain ⟨h1, h2, h3, h4, h5, h6, h7, h8⟩ := h (by omega)
    have fl := FL_of (K := K) h2 h1
    have nb : NB (pc s 30) K := hNB s K h1 h2 h8 (fun j hj => hX j (by omega))
    obtain ⟨T1, Mt, σ, p', g, tr, nw, al⟩ := ATT_NW hK ro hP at'
    obtain ⟨-, -, e1, e2⟩ := tO_tp (by omega) (ro t ht)
    have tt : trn (pc s 30) (tp s) K (3 * t) := by
      unfold trn
      rw [← e1, ← e2]
      exact gt
    have nk := hor_new h4 (show 3 * t < 3 * T by omega) tt
    have pe' : pc s' 30 = pc s 30 := funext pe
    have di : ∀ i j, i < K + 1 → j < K + 1 → pc s 30 i = pc s 30 j → i = j := fun i j hi hj e => by
      by_cases c : i = K
      · by_cases d : j = K
        · omega
        · rw [c] at e
          exact absurd e.symm (nk j (by omega))
      · by_cases d : j = K
        · rw [d] at e
          exact absurd e (nk i (by omega))
        · exact h3 i j (by omega) (by omega) e
    have hd : ∀ i j, i < K + 1 → j < K + 1 → vd wO (pc s 30 i) = vd wO (pc s 30 j) → i = j := fun i j hi hj e => di i j hi hj (lx_eq (bd3_le (hP i hi) (by decide)) (bd3_le (hP j hj) (by decide)) e)
    have sb := NW_SB h4 h5 h6 fl nb h3 tr nw
    have al' : ∀ j, j < 3 * Mt → hor (tp s) σ Mt j → ∃ t, T1 ≤ t ∧ t < T' ∧ g t = j := fun j hj ho => by
      rcases al with w | w
      · apply Classical.byContradiction
        intro no
        have nw' := NW_more nw hj ho (fun t h1 h2 e => no ⟨t, h1, h2, e⟩)
        have le := SB_le (NW_SB h4 h5 h6 fl nb h3 tr nw') (h := wO) hd
        omega
      · exact w j hj ho
    rw [pe']
    have sr := NW_SR h4 h5 h6 fl nb h3 tr nw al'
    refine ⟨by omega, ?_, di, sb, NW_SU h4 h5 h6 fl nb h3 tr nw, sr, ?_, h8⟩
    · unfold bx4
      rw [pe']
      exact h2
    · -- the row's side gives a horizon side, or another row stays
      apply Classical.byContradiction
      intro no
      have T0 : T' = 0 := by omega
      have T10 : T1 = 0 := by
        have := nw.2.2.2.1
        omega
      -- every row is torn; then no row bounds all: the ways of all rows add up to nothing
      have allt : ∀ i, i < 3 * T → trn (pc s 30) (tp s) K i := fun i hi => by
        apply Classical.byContradiction
        intro w
        obtain ⟨i', hi', -⟩ := nw.2.2.1 i hi w
        omega
      have ns : zs (fun t => vd (nri (pc s 30) (tp s) (3 * t)) (vs (pc s 30 K) (pc s 30 0))) T = 0 := by
        have h := edge_zs h5 h6 (g := fun p q => vd (vx (pc s 30 p) (pc s 30 q)) (vs (pc s 30 K) (pc s 30 0))) (fun p q => bxs (pc s 30 p) (pc s 30 q) _)
        rw [zs3] at h
        rw [← h]
        refine zs_ext T (fun t ht => ?_)
        have := nsum (pc s 30 (tp s (3 * t))) (pc s 30 (tp s (3 * t + 1))) (pc s 30 (tp s (3 * t + 2))) (vs (pc s 30 K) (pc s 30 0))
        unfold nri
        rw [nx_0, nx_1, nx_2]
        exact this
      have ps := zs_pos (f := fun t => vd (nri (pc s 30) (tp s) (3 * t)) (vs (pc s 30 K) (pc s 30 0))) (a := 0) T (fun k hk => by
        have y1 := allt (3 * k) (by omega)
        have y2 := h4.2.2.1 (3 * k) (by omega) 0 (by omega)
        unfold trn at y1
        show 0 ≤ vd (nri (pc s 30) (tp s) (3 * k)) (vs (pc s 30 K) (pc s 30 0))
        rw [vd_vs']
        omega) h7 (by
        have y1 := allt (3 * 0) (by omega)
        have y2 := h4.2.2.1 (3 * 0) (by omega) 0 (by omega)
        unfold trn at y1
        show 0 < vd (nri (pc s 30) (tp s) (3 * 0)) (vs (pc s 30 K) (pc s 30 0))
        rw [vd_vs']
        omega)
      omega
theorem QG_Q0 {M : Nat} (X : Nat → V3 → Prop) (k : Nat → V3) : Q0 (QG M k) X k := fun s a b sk f o nz ke _ _ => by
  obtain ⟨h1, h2, h3, h4, h5, h6⟩ := QC_four sk f o nz (by omega)
  exact ⟨h1, h2, h3, h4, h5, h6, by omega, ke⟩
/-- in a plane figure: no knot between two others, the prop among them -/
theorem NB_3 {s0 s : cS} {p q kp kq K : Nat} {ν : V3} {e : Int} (flat : ∀ i j, i < kp → j < kq → vd ν (va (pc s0 p i) (pc s0 q j)) = e) (off : vd ν (pc s 30 3) ≠ e) (hx : ∀ j, j < K → XK s0 p q kp kq 3 j (pc s 30 j)) : NB (pc s 30) K := by
  intro i b c x y hi hb hc h0 h1 h
  have get : ∀ j, j < K → j ≠ 3 → ∃ i i' d, fzz s0 p q kp kq d i i' ∧ pc s 30 j = va (pc s0 p i) (pc s0 q i') := fun j hj ne => by
    rcases hx j hj with w | w
    · exact absurd w.2 ne
    · exact w.2
  have pl : ∀ j, j < K → j ≠ 3 → vd ν (pc s 30 j) = e := fun j hj ne => by
    obtain ⟨i1, i2, d, f, e'⟩ := get j hj ne
    rw [e']
    exact flat _ _ f.1 f.2.1
  have hν := h ν
  rw [vd_vs', vd_vs'] at hν
  by_cases c3 : c = 3
  · by_cases i3 : i = 3
    · rw [c3, i3]
    · exfalso
      rw [c3, pl i hi i3] at hν
      by_cases b3 : b = 3
      · rw [b3, Int.sub_self, Int.mul_zero] at hν
        rcases Int.mul_eq_zero.mp hν with w | w <;> omega
      · rw [pl b hb b3] at hν
        have := Int.eq_of_mul_eq_mul_right (a := e - vd ν (pc s 30 3)) (by omega) hν
        omega
  · rw [pl c hc c3] at hν
    by_cases i3 : i = 3
    · exfalso
      rw [i3] at hν
      by_cases b3 : b = 3
      · rw [b3] at hν
        have := Int.eq_of_mul_eq_mul_right (a := vd ν (pc s 30 3) - e) (by omega) hν
        omega
      · rw [pl b hb b3, Int.sub_self, Int.mul_zero] at hν
        rcases Int.mul_eq_zero.mp hν with w | w <;> omega
    · rw [pl i hi i3, Int.sub_self, Int.mul_zero] at hν
      by_cases b3 : b = 3
      · exfalso
        rw [b3] at hν
        rcases Int.mul_eq_zero.mp hν.symm with w | w <;> omega
      · obtain ⟨i1, i2, d, f, e1⟩ := get i hi i3
        obtain ⟨b1, b2, d2, f2, e2⟩ := get b hb b3
        obtain ⟨c1, c2, d3, f3, e3⟩ := get c hc c3
        rw [e1, e2, e3] at h
        rw [e1, e3]
        exact no_bet f f2.1 f2.2.1 f3.1 f3.2.1 h0 h1 h
/-- the way across of the first three knots -/
def nu (k : Nat → V3) : V3 := vx (vs (k 1) (k 0)) (vs (k 2) (k 0))
theorem QG_3 (s0 : cS) (p q kp kq : Nat) {k : Nat → V3} (flat : ∀ i j, i < kp → j < kq → vd (nu k) (va (pc s0 p i) (pc s0 q j)) = vd (nu k) (k 0)) : QO (QG 25 k) (XK s0 p q kp kq 3) := QG_QO (by omega) (fun s K h4 hb ke hx => by
  refine NB_3 flat (fun w => hb ?_) hx
  unfold bx4
  rw [ke 0 (by omega), ke 1 (by omega), ke 2 (by omega), ke 3 (by omega), vd_vs']
  rw [ke 3 (by omega)] at w
  unfold nu at w
  omega)
theorem QG_4 (s0 : cS) (p q kp kq : Nat) {k : Nat → V3} : QO (QG 24 k) (XK s0 p q kp kq 4) := QG_QO (by omega) (fun s K h4 hb ke hx => NB_of hx)
