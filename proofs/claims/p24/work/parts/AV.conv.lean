/-- the tips, as places of knots -/
def tp (s : cS) (i : Nat) : Nat := (qA s 34 i).toInt.toNat
theorem tp_of {s : cS} {i u : Nat} (h : qA s 34 i = Int32.ofNat u) (hu : u < 2147483648) : tp s i = u := by
  unfold tp
  rw [h, Int32.toInt_ofNat_of_lt (by omega)]
  exact Int.toNat_natCast u
theorem tO_tp {s : cS} {K t : Nat} (hK : K ≤ 25) (h : tO s K t) : (tp s (3 * t) < K ∧ tp s (3 * t + 1) < K ∧ tp s (3 * t + 2) < K) ∧ (qA s 34 (3 * t) = Int32.ofNat (tp s (3 * t)) ∧ qA s 34 (3 * t + 1) = Int32.ofNat (tp s (3 * t + 1)) ∧ qA s 34 (3 * t + 2) = Int32.ofNat (tp s (3 * t + 2))) ∧ tN s t = nri (pc s 30) (tp s) (3 * t) ∧ tD s t = vd (tN s t) (pc s 30 (tp s (3 * t))) := by
  obtain ⟨u, v, w, hu, hv, hw, e1, e2, e3, e4, e5, -⟩ := h
  have q1 := tp_of e1 (by omega)
  have q2 := tp_of e2 (by omega)
  have q3 := tp_of e3 (by omega)
  refine ⟨by omega, ⟨by rw [q1]; exact e1, by rw [q2]; exact e2, by rw [q3]; exact e3⟩, ?_, by rw [q1]; exact e5⟩
  unfold nri
  rw [nx_0, nx_1, q1, q2, q3]
  exact e4
theorem tp_k {s : cS} {K T : Nat} (hK : K ≤ 25) (ro : ∀ t, t < T → tO s K t) {i : Nat} (hi : i < 3 * T) : tp s i < K ∧ qA s 34 i = Int32.ofNat (tp s i) := by
  obtain ⟨a, b, -⟩ := tO_tp hK (ro (i / 3) (by omega))
  have m3 : i = 3 * (i / 3) ∨ i = 3 * (i / 3) + 1 ∨ i = 3 * (i / 3) + 2 := by omega
  rcases m3 with m3 | m3 | m3
  · rw [m3]
    exact ⟨a.1, b.1⟩
  · rw [m3]
    exact ⟨a.2.1, b.2.1⟩
  · rw [m3]
    exact ⟨a.2.2, b.2.2⟩
theorem trn_row {P : Nat → V3} {a : Nat → Nat} {K i : Nat} : trn P a K i ↔ trn P a K (3 * (i / 3)) := by
  have m3 : i = 3 * (i / 3) ∨ i = 3 * (i / 3) + 1 ∨ i = 3 * (i / 3) + 2 := by omega
  generalize i / 3 = t at *
  rcases m3 with m3 | m3 | m3
  · rw [m3]
  · rw [m3, ← nx_0, trn_nx]
  · rw [m3, ← nx_1, trn_nx, ← nx_0, trn_nx]
/-- a row is torn just when the new knot lies beyond it -/
theorem byd_trn {s : cS} {K T i : Nat} (hK : K < 25) (ro : ∀ t, t < T → tO s K t) (hP : ∀ j, j < K + 1 → bd3 (pc s 30 j) 101) (hi : i < 3 * T) : byd (tR s (i / 3)) (qA s 31 K).toInt64 (qA s 32 K).toInt64 (qA s 33 K).toInt64 ↔ trn (pc s 30) (tp s) K i := by
  obtain ⟨a, -, e1, e2⟩ := tO_tp (by omega) (ro (i / 3) (by omega))
  have bn : bd3 (tN s (i / 3)) 81608 := by
    rw [e1]
    exact cross_bd (hP _ (by omega)) (hP _ (by rw [nx_0]; omega)) (hP _ (by rw [nx_0, nx_1]; omega))
  have iff := byd_iff (s := s) (t := i / 3) (x := qA s 31 K) (y := qA s 32 K) (z := qA s 33 K) bn (bd3_le (hP K (by omega)) (by decide))
  rw [trn_row]
  unfold trn
  rw [← e1, ← e2]
  show ¬ _ ↔ _
  rw [show (((tR s (i / 3)).2.1.1.toInt64 * (qA s 31 K).toInt64 + (tR s (i / 3)).2.1.2.1.toInt64 * (qA s 32 K).toInt64 + (tR s (i / 3)).2.1.2.2.1.toInt64 * (qA s 33 K).toInt64 ≤ (tR s (i / 3)).2.1.2.2.2.toInt64) = ((qA s 35 (4 * (i / 3))).toInt64 * (qA s 31 K).toInt64 + (qA s 35 (4 * (i / 3) + 1)).toInt64 * (qA s 32 K).toInt64 + (qA s 35 (4 * (i / 3) + 2)).toInt64 * (qA s 33 K).toInt64 ≤ (qA s 35 (4 * (i / 3) + 3)).toInt64)) from rfl, iff]
  exact Int.not_le
/-- attachLatest, as a skin of tips: the rows that stay and the new ones; all horizon sides get one unless the rows are full -/
theorem ATT_NW {s s' : cS} {K T T' : Nat} (hK : K < 25) (ro : ∀ t, t < T → tO s K t) (hP : ∀ j, j < K + 1 → bd3 (pc s 30 j) 101) (h : ATT s s' K T T') : ∃ T1 M σ p g, TR (pc s 30) K T (tp s) M σ ∧ NW (pc s 30) K T (tp s) M σ T1 T' (tp s') p g ∧ (T' = 46 ∨ ∀ j, j < 3 * M → hor (tp s) σ M j → ∃ t, T1 ≤ t ∧ t < T' ∧ g t = j) := by
  obtain ⟨s1, s2, T1, M, p, o, F, G, q, ti, hF, hG, ai, te⟩ := h
  obtain ⟨-, t2, -, -, t5, t6, t7, t8, t9, t10, t11, t12⟩ := ti
  obtain ⟨-, a2, -, -, a5, a6, a7, a8⟩ := ai
  have K25 : K ≤ 25 := by omega
  have s1e : ∀ i, i < 3 * M → (nxs i) / 3 = i / 3 ∧ (nxs i) % 3 = (i % 3 + 1) % 3 := fun i hi => by
    unfold nxs
    omega
  have oinj : ∀ b b', b < M → b' < M → o b = o b' → b = b' := fun b b' hb hb' e => by
    by_cases c : b < b'
    · have := t10 b b' c hb'
      omega
    · by_cases c' : b' < b
      · have := t10 b' b c' hb
        omega
      · omega
  have sl : ∀ i, i < 3 * M → 3 * o (i / 3) + i % 3 < 3 * T := fun i hi => by
    have := (t9 (i / 3) (by omega)).2.1
    omega
  have sn : ∀ i, i < 3 * M → nxs (3 * o (i / 3) + i % 3) = 3 * o (i / 3) + (i % 3 + 1) % 3 := fun i hi => by
    unfold nxs
    omega
  have eF : ∀ i, i < 3 * M → tp s (3 * o (i / 3) + i % 3) = F i := fun i hi => by
    have h1 := ((t9 (i / 3) (by omega)).2.2.2 (i % 3) (by omega)).1
    rw [show 3 * (i / 3) + i % 3 = i by omega, (hF i hi).2] at h1
    exact tp_of h1.symm (by have := (hF i hi).1; omega)
  have eG : ∀ i, i < 3 * M → tp s (nxs (3 * o (i / 3) + i % 3)) = G i := fun i hi => by
    have h1 := ((t9 (i / 3) (by omega)).2.2.2 (i % 3) (by omega)).2
    rw [show 3 * (i / 3) + i % 3 = i by omega, (hG i hi).2] at h1
    rw [sn i hi]
    exact tp_of h1.symm (by have := (hG i hi).1; omega)
  have hm : ∀ j, j < 3 * M → (qA s1 39 (G j * 25 + F j) = 0 ↔ hor (tp s) (fun i => 3 * o (i / 3) + i % 3) M j) := fun j hj => by
    have iff := t12 (G j) (F j) (by have := (hG j hj).1; omega) (by have := (hF j hj).1; omega)
    constructor
    · intro z i hi ⟨x1, x2⟩
      have x1' : tp s (3 * o (i / 3) + i % 3) = tp s (nxs (3 * o (j / 3) + j % 3)) := x1
      have x2' : tp s (nxs (3 * o (i / 3) + i % 3)) = tp s (3 * o (j / 3) + j % 3) := x2
      rw [eF i hi, eG j hj] at x1'
      rw [eG i hi, eF j hj] at x2'
      exact iff.mpr ⟨i, hi, by rw [(hF i hi).2, x1'], by rw [(hG i hi).2, x2']⟩ z
    · intro ho
      apply Classical.byContradiction
      intro z
      obtain ⟨i, hi, x1, x2⟩ := iff.mp z
      rw [(hF i hi).2] at x1
      rw [(hG i hi).2] at x2
      have y1 := i_inj (by have := (hF i hi).1; omega) (by have := (hG j hj).1; omega) x1
      have y2 := i_inj (by have := (hG i hi).1; omega) (by have := (hF j hj).1; omega) x2
      refine ho i hi ⟨?_, ?_⟩
      · show tp s (3 * o (i / 3) + i % 3) = tp s (nxs (3 * o (j / 3) + j % 3))
        rw [eF i hi, eG j hj, y1]
      · show tp s (nxs (3 * o (i / 3) + i % 3)) = tp s (3 * o (j / 3) + j % 3)
        rw [eG i hi, eF j hj, y2]
  have cell : ∀ t, t < T1 → ∀ k, k < 3 → tp s' (3 * t + k) = tp s (3 * p t + k) := fun t ht k hk => by
    have e : tR s' t = tR s (p t) := (te t).trans ((a5 t ht).trans (t5 t ht).2)
    obtain ⟨-, -, r0, r1, r2, -⟩ := tR_N e
    unfold tp
    match k, hk with
    | 0, _ => rw [show qA s' 34 (3 * t + 0) = qA s 34 (3 * p t + 0) from r0]
    | 1, _ => rw [r1]
    | 2, _ => rw [r2]
  refine ⟨T1, M, fun i => 3 * o (i / 3) + i % 3, fun i => 3 * p (i / 3) + i % 3, q, ⟨fun i hi => ⟨sl i hi, ?_, ?_⟩, fun i j hi hj e => ?_, fun i hi w => ?_⟩, ⟨fun i hi => ⟨?_, ?_, ?_, ?_⟩, fun i j hi hj e => ?_, fun i hi w => ?_, a2.1, fun t h1 h2 => ?_, fun t t' h1 h1' h2 h2' e => ?_⟩, ?_⟩
  · show trn (pc s 30) (tp s) K (3 * o (i / 3) + i % 3)
    rw [← byd_trn hK ro hP (sl i hi), show (3 * o (i / 3) + i % 3) / 3 = o (i / 3) by omega]
    exact (t9 (i / 3) (by omega)).2.2.1
  · show 3 * o (nxs i / 3) + nxs i % 3 = nxs (3 * o (i / 3) + i % 3)
    rw [(s1e i hi).1, (s1e i hi).2, sn i hi]
  · have e' : 3 * o (i / 3) + i % 3 = 3 * o (j / 3) + j % 3 := e
    have := oinj (i / 3) (j / 3) (by omega) (by omega) (by omega)
    omega
  · rw [← byd_trn hK ro hP hi] at w
    obtain ⟨b, hb, eb⟩ := t11 (i / 3) (by omega) (by omega) w
    refine ⟨3 * b + i % 3, by omega, ?_⟩
    show 3 * o ((3 * b + i % 3) / 3) + (3 * b + i % 3) % 3 = i
    rw [show (3 * b + i % 3) / 3 = b by omega, eb]
    omega
  · show 3 * p (i / 3) + i % 3 < 3 * T
    have := (t5 (i / 3) (by omega)).1
    omega
  · show ¬ trn (pc s 30) (tp s) K (3 * p (i / 3) + i % 3)
    have l := (t5 (i / 3) (by omega)).1
    rw [← byd_trn hK ro hP (show 3 * p (i / 3) + i % 3 < 3 * T by omega), show (3 * p (i / 3) + i % 3) / 3 = p (i / 3) by omega]
    exact (t6 (i / 3) (by omega) (by omega)).2
  · show tp s' i = tp s (3 * p (i / 3) + i % 3)
    rw [← cell (i / 3) (by omega) (i % 3) (by omega), show 3 * (i / 3) + i % 3 = i by omega]
  · show 3 * p (nxs i / 3) + nxs i % 3 = nxs (3 * p (i / 3) + i % 3)
    have z1 : nxs i / 3 = i / 3 := by
      unfold nxs
      omega
    have z2 : nxs i % 3 = (i % 3 + 1) % 3 := by
      unfold nxs
      omega
    rw [z1, z2]
    unfold nxs
    omega
  · have e' : 3 * p (i / 3) + i % 3 = 3 * p (j / 3) + j % 3 := e
    have := t7 (i / 3) (j / 3) (by omega) (by omega) (by omega)
    omega
  · rw [← byd_trn hK ro hP hi] at w
    obtain ⟨b, hb, eb⟩ := t8 (i / 3) (by omega) (by omega) w
    refine ⟨3 * b + i % 3, by omega, ?_⟩
    show 3 * p ((3 * b + i % 3) / 3) + (3 * b + i % 3) % 3 = i
    rw [show (3 * b + i % 3) / 3 = b by omega, eb]
    omega
  · obtain ⟨g1, g2, g3, g4, g5, -⟩ := a6 t h1 h2
    obtain ⟨-, -, r0, r1, r2, -⟩ := tR_N (te t)
    have fl := (hF _ g1).1
    have gl := (hG _ g1).1
    refine ⟨g1, (hm _ g1).mp g2, ?_, ?_, ?_⟩
    · rw [tp_of (r0.trans g3) (by omega), eF _ g1]
    · rw [tp_of (r1.trans g4) (by omega), eG _ g1]
    · exact tp_of (r2.trans g5) (by omega)
  · by_cases c : t < t'
    · have := a7 t t' h1 c h2'
      omega
    · by_cases c' : t' < t
      · have := a7 t' t h1' c' h2
        omega
      · omega
  · rcases a8 with w | w
    · exact .inl w
    · exact .inr (fun j hj ho => w j hj ((hm j hj).mpr ho))
theorem nri_cg {P P' : Nat → V3} {K T : Nat} {a : Nat → Nat} (la : ∀ i, i < 3 * T → a i < K) (pe : ∀ j, j < K → P' j = P j) {i : Nat} (hi : i < 3 * T) : nri P' a i = nri P a i := by
  unfold nri
  rw [pe _ (la _ hi), pe _ (la _ (nxs_lt hi)), pe _ (la _ (nxs_lt (nxs_lt hi)))]
theorem SB_cg {P P' : Nat → V3} {K T : Nat} {a : Nat → Nat} (sb : SB P K T a) (pe : ∀ j, j < K → P' j = P j) : SB P' K T a := by
  obtain ⟨b1, b2, b3, b4⟩ := sb
  refine ⟨b1, fun i hi => by rw [nri_cg b1 pe hi]; exact b2 i hi, fun i hi j hj => by rw [nri_cg b1 pe hi, pe j hj, pe _ (b1 i hi)]; exact b3 i hi j hj, fun h i j hi hj e ri rj => b4 h i j hi hj e ?_ ?_⟩
  · unfold ris at ri ⊢
    rw [pe _ (b1 _ hi), pe _ (b1 _ (nxs_lt hi)), pe _ (b1 _ (nxs_lt (nxs_lt hi)))] at ri
    exact ri
  · unfold ris at rj ⊢
    rw [pe _ (b1 _ hj), pe _ (b1 _ (nxs_lt hj)), pe _ (b1 _ (nxs_lt (nxs_lt hj)))] at rj
    exact rj
theorem FL_of {s : cS} {K : Nat} (hb : bx4 s ≠ 0) (hK : 4 ≤ K) : FL (pc s 30) K := fun n d hn => by
  apply Classical.byContradiction
  intro no
  have eq : ∀ j, j < K → vd n (pc s 30 j) = d := fun j hj => Classical.byContradiction fun w => no ⟨j, hj, w⟩
  obtain ⟨j, hj, l⟩ := full4 hb hn (d := d) (fun j hj => by rw [eq j (by omega)]; exact Int.le_refl _)
  rw [eq j (by omega)] at l
  omega
/-- the convex skin over at most 24 knots, as it is carried along -/
def QC (s : cS) (K T : Nat) : Prop := K ≤ 24 → 4 ≤ K ∧ bx4 s ≠ 0 ∧ (∀ i j, i < K → j < K → pc s 30 i = pc s 30 j → i = j) ∧ SB (pc s 30) K T (tp s) ∧ SU T (tp s) ∧ SR T (tp s)
theorem NB_of {s0 s : cS} {p q kp kq K : Nat} (hx : ∀ j, j < K → XK s0 p q kp kq 4 j (pc s 30 j)) : NB (pc s 30) K := by
  intro i b c x y hi hb hc h0 h1 h
  have get : ∀ j, j < K → ∃ i i' d, fzz s0 p q kp kq d i i' ∧ pc s 30 j = va (pc s0 p i) (pc s0 q i') := fun j hj => by
    rcases hx j hj with w | w
    · omega
    · exact w.2
  obtain ⟨i1, i2, d, f, e⟩ := get i hi
  obtain ⟨b1, b2, d2, f2, e2⟩ := get b hb
  obtain ⟨c1, c2, d3, f3, e3⟩ := get c hc
  rw [e, e2, e3] at h
  rw [e, e3]
  exact no_bet f f2.1 f2.2.1 f3.1 f3.2.1 h0 h1 h
theorem QC_QO (s0 : cS) (p q kp kq : Nat) : QO QC (XK s0 p q kp kq 4) := by
  refine ⟨fun s s' K T h e4 e5 pe hk => ?_, fun s s' K T T' t hK ro hP hX h ht gt sk at' pe hk => ?_⟩
  · obtain ⟨h1, h2, h3, h4, h5, h6⟩ := h hk
    have te : tp s' = tp s := by
      funext i
      unfold tp
      rw [e4]
    refine ⟨h1, ?_, fun i j hi hj e => ?_, ?_, ?_, ?_⟩
    · unfold bx4
      rw [pe 0 (by omega), pe 1 (by omega), pe 2 (by omega), pe 3 (by omega)]
      exact h2
    · rw [pe i hi, pe j hj] at e
      exact h3 i j hi hj e
    · rw [te]
      exact SB_cg h4 pe
    · rw [te]
      exact h5
    · rw [te]
      exact h6
  · obtain ⟨h1, h2, h3, h4, h5, h6⟩ := h (by omega)
    have fl := FL_of (K := K) h2 h1
    have nb : NB (pc s 30) K := NB_of (K := K) (fun j hj => hX j (by omega))
    obtain ⟨T1, M, σ, p', g, tr, nw, al⟩ := ATT_NW hK ro hP at'
    obtain ⟨-, -, e1, e2⟩ := tO_tp (by omega) (ro t ht)
    have tt : trn (pc s 30) (tp s) K (3 * t) := by
      unfold trn
      rw [← e1, ← e2]
      exact gt
    have nk := hor_new h4 (show 3 * t < 3 * T by omega) tt
    have pe' : pc s' 30 = pc s 30 := funext pe
    have di : ∀ i j, i < K + 1 → j < K + 1 → pc s 30 i = pc s 30 j → i = j := fun i j hi hj e => by
      by_cases c : i = K
      · by_cases d : j = K
        · omega
        · rw [c] at e
          exact absurd e.symm (nk j (by omega))
      · by_cases d : j = K
        · rw [d] at e
          exact absurd e (nk i (by omega))
        · exact h3 i j (by omega) (by omega) e
    have sb := NW_SB h4 h5 h6 fl nb h3 tr nw
    have le := SB_le sb (h := wO) (fun i j hi hj e => di i j hi hj (lx_eq (bd3_le (hP i hi) (by decide)) (bd3_le (hP j hj) (by decide)) e))
    have al' := al.resolve_left (by omega)
    rw [pe']
    refine ⟨by omega, ?_, di, sb, NW_SU h4 h5 h6 fl nb h3 tr nw, NW_SR h4 h5 h6 fl nb h3 tr nw al'⟩
    unfold bx4
    rw [pe']
    exact h2
theorem vd_0r (x : V3) : vd x v0 = 0 := by
  show _ * (0 : Int) + _ * 0 + _ * 0 = 0
  omega
theorem c12_d : ∀ i, i < 12 → c12 2 1 i ≠ c12 2 1 (nxs i) ∧ c12 1 2 i ≠ c12 1 2 (nxs i) := by decide
theorem cov_21 : ∀ n, n < 48 → (n / 12 = (n % 12) / 3) ∨ (∀ k, k < 4 → c12 2 1 (3 * (n / 12)) = k ∨ c12 2 1 (3 * (n / 12) + 1) = k ∨ c12 2 1 (3 * (n / 12) + 2) = k ∨ c12 2 1 (n % 12) = k ∨ c12 2 1 (nxs (n % 12)) = k ∨ c12 2 1 (nxs (nxs (n % 12))) = k) := by decide
theorem cov_12 : ∀ n, n < 48 → (n / 12 = (n % 12) / 3) ∨ (∀ k, k < 4 → c12 1 2 (3 * (n / 12)) = k ∨ c12 1 2 (3 * (n / 12) + 1) = k ∨ c12 1 2 (3 * (n / 12) + 2) = k ∨ c12 1 2 (n % 12) = k ∨ c12 1 2 (nxs (n % 12)) = k ∨ c12 1 2 (nxs (nxs (n % 12))) = k) := by decide
theorem nri_row {P : Nat → V3} {a : Nat → Nat} {i : Nat} : nri P a i = nri P a (3 * (i / 3)) := by
  have m3 : i = 3 * (i / 3) ∨ i = 3 * (i / 3) + 1 ∨ i = 3 * (i / 3) + 2 := by omega
  generalize i / 3 = t at *
  rcases m3 with m3 | m3 | m3
  · rw [m3]
  · rw [m3, ← nx_0, nri_nx]
  · rw [m3, ← nx_1, nri_nx, ← nx_0, nri_nx]
/-- every tip of a row lies in its plane -/
theorem nri_tip {P : Nat → V3} {a : Nat → Nat} {i j : Nat} (h : i / 3 = j / 3) : vd (nri P a i) (P (a j)) = vd (nri P a i) (P (a i)) := by
  have on := nri_on P a i
  have m3 : j = i ∨ j = nxs i ∨ j = nxs (nxs i) := by
    unfold nxs
    omega
  rcases m3 with m3 | m3 | m3
  · rw [m3]
  · rw [m3]
    exact on.1
  · rw [m3]
    exact on.2
/-- the four first rows -/
theorem QC_four {s : cS} {a b : Nat} (sk : SK s 4 4) (f : fourR s a b) (o : (a = 2 ∧ b = 1 ∧ 0 ≤ bx4 s) ∨ (a = 1 ∧ b = 2 ∧ bx4 s < 0)) (nz : bx4 s ≠ 0) : QC s 4 4 := by
  intro _
  obtain ⟨-, -, c3, c4, c5, c6⟩ := CV_four sk f o nz
  have fc := four_c f
  have ro := sk.2.2.2.1
  have l4 : ∀ i, i < 12 → c12 a b i < 4 := by
    rcases o with ⟨rfl, rfl, -⟩ | ⟨rfl, rfl, -⟩
    · exact l12_21
    · exact l12_12
  have te : ∀ i, i < 12 → tp s i = c12 a b i := fun i hi => tp_of (fc i hi) (by have := l4 i hi; omega)
  have n4 : ∀ i, i < 12 → nxs i < 12 := fun i hi => by
    unfold nxs
    omega
  have row : ∀ i, i < 12 → nri (pc s 30) (tp s) i = tN s (i / 3) ∧ tD s (i / 3) = vd (tN s (i / 3)) (pc s 30 (tp s i)) := fun i hi => by
    obtain ⟨-, -, e1, e2⟩ := tO_tp (by omega) (ro (i / 3) (by omega))
    refine ⟨by rw [nri_row, e1], ?_⟩
    rw [e2, e1]
    have := nri_tip (P := pc s 30) (a := tp s) (i := 3 * (i / 3)) (j := i) (by omega)
    exact this.symm
  have su : SU 4 (tp s) := fun i j hi hj e f => by
    have q1 : tp s i = c12 a b i := te i (by omega)
    have q2 : tp s j = c12 a b j := te j (by omega)
    have q3 := te _ (n4 i (by omega))
    have q4 := te _ (n4 j (by omega))
    rw [q1, q2] at e
    rw [q3, q4] at f
    rcases o with ⟨rfl, rfl, -⟩ | ⟨rfl, rfl, -⟩
    · exact c12_21 i (by omega) j (by omega) e f
    · exact c12_12 i (by omega) j (by omega) e f
  have fl := FL_of (K := 4) nz (by omega)
  have bnd : ∀ i, i < 3 * 4 → ∀ j, j < 4 → vd (nri (pc s 30) (tp s) i) (pc s 30 j) ≤ vd (nri (pc s 30) (tp s) i) (pc s 30 (tp s i)) := fun i hi j hj => by
    obtain ⟨r1, r2⟩ := row i (by omega)
    rw [r1, ← r2]
    exact c6 (i / 3) (by omega) j hj
  have nz' : ∀ i, i < 3 * 4 → nri (pc s 30) (tp s) i ≠ v0 := fun i hi => by
    rw [(row i (by omega)).1]
    exact c3 (i / 3) (by omega)
  have tl : ∀ i, i < 3 * 4 → tp s i < 4 := fun i hi => by
    rw [te i (by omega)]
    exact l4 i (by omega)
  refine ⟨by omega, nz, fun i j hi hj e => ?_, ⟨tl, nz', bnd, fun h i j hi hj e ri rj => ?_⟩, su, fun i hi => ?_⟩
  · -- four knots that span space are apart
    apply Classical.byContradiction
    intro ne
    have key : ∀ x y, x < y → y < 4 → pc s 30 x = pc s 30 y → False := by
      intro x y hxy hy e
      apply nz
      unfold bx4
      have cs : (x = 0 ∧ y = 1) ∨ (x = 0 ∧ y = 2) ∨ (x = 0 ∧ y = 3) ∨ (x = 1 ∧ y = 2) ∨ (x = 1 ∧ y = 3) ∨ (x = 2 ∧ y = 3) := by omega
      rcases cs with ⟨rfl, rfl⟩ | ⟨rfl, rfl⟩ | ⟨rfl, rfl⟩ | ⟨rfl, rfl⟩ | ⟨rfl, rfl⟩ | ⟨rfl, rfl⟩
      · rw [← e, vs_self, vx_0, vd_0]
      · rw [← e, vs_self, trc, vx_0, vd_0]
      · rw [← e, vs_self, vd_0r]
      · rw [e, vx_self, vd_0]
      · rw [e, vx_l]
      · rw [e, vx_r]
    by_cases c : i < j
    · exact key i j c hj e
    · exact key j i (by omega) hi e.symm
  · by_cases c : i / 3 = j / 3
    · have m3 : j = i ∨ j = nxs i ∨ i = nxs j := by
        unfold nxs
        omega
      have d := c12_d i (by omega)
      have d' := c12_d j (by omega)
      rcases m3 with m3 | m3 | m3
      · exact m3.symm
      · exfalso
        rw [m3, te i (by omega), te _ (n4 i (by omega))] at e
        rcases o with ⟨rfl, rfl, -⟩ | ⟨rfl, rfl, -⟩
        · exact d.1 e
        · exact d.2 e
      · exfalso
        rw [m3, te j (by omega), te _ (n4 j (by omega))] at e
        rcases o with ⟨rfl, rfl, -⟩ | ⟨rfl, rfl, -⟩
        · exact d'.1 e.symm
        · exact d'.2 e.symm
    · exfalso
      have ej : nri (pc s 30) (tp s) j = vx (vs (pc s 30 (tp s (nxs j))) (pc s 30 (tp s i))) (vs (pc s 30 (tp s (nxs (nxs j)))) (pc s 30 (tp s i))) := by
        rw [e]
        rfl
      have bi := bnd i hi
      have bj := bnd j hj
      rw [← e] at bj
      unfold ris at ri rj
      rw [← e] at rj
      have pl := ris_pl (a := vs (pc s 30 (tp s (nxs (nxs i)))) (pc s 30 (tp s i))) (b := vs (pc s 30 (tp s (nxs i))) (pc s 30 (tp s i))) (a' := vs (pc s 30 (tp s (nxs (nxs j)))) (pc s 30 (tp s i))) (b' := vs (pc s 30 (tp s (nxs j))) (pc s 30 (tp s i))) (h := h) (by rw [vd_vs']; omega) (by rw [vd_vs']; omega) (by rw [vd_vs']; omega) (by rw [vd_vs']; omega) (by rw [vd_vs']; have := bi _ (tl _ (nxs_lt (nxs_lt hj))); unfold nri at this; omega) (by rw [vd_vs']; have := bi _ (tl _ (nxs_lt hj)); unfold nri at this; omega) (by rw [← ej, vd_vs']; have := bj _ (tl _ (nxs_lt (nxs_lt hi))); omega) (by rw [← ej, vd_vs']; have := bj _ (tl _ (nxs_lt hi)); omega)
      have pl' : vd (nri (pc s 30) (tp s) i) (vs (pc s 30 (tp s (nxs (nxs j)))) (pc s 30 (tp s i))) = 0 ∧ vd (nri (pc s 30) (tp s) i) (vs (pc s 30 (tp s (nxs j))) (pc s 30 (tp s i))) = 0 := pl
      rw [vd_vs', vd_vs'] at pl'
      obtain ⟨k, hk, ne⟩ := fl (nri (pc s 30) (tp s) i) (vd (nri (pc s 30) (tp s) i) (pc s 30 (tp s i))) (nz' i hi)
      have cv : tp s (3 * (i / 3)) = k ∨ tp s (3 * (i / 3) + 1) = k ∨ tp s (3 * (i / 3) + 2) = k ∨ tp s j = k ∨ tp s (nxs j) = k ∨ tp s (nxs (nxs j)) = k := by
        rw [te _ (show 3 * (i / 3) < 12 by omega), te _ (show 3 * (i / 3) + 1 < 12 by omega), te _ (show 3 * (i / 3) + 2 < 12 by omega), te j (by omega), te _ (n4 j (by omega)), te _ (n4 _ (n4 j (by omega)))]
        have z1 : (12 * (i / 3) + j) / 12 = i / 3 := by omega
        have z2 : (12 * (i / 3) + j) % 12 = j := by omega
        rcases o with ⟨rfl, rfl, -⟩ | ⟨rfl, rfl, -⟩
        · have := cov_21 (12 * (i / 3) + j) (by omega)
          rw [z1, z2] at this
          exact (this.resolve_left c) k hk
        · have := cov_12 (12 * (i / 3) + j) (by omega)
          rw [z1, z2] at this
          exact (this.resolve_left c) k hk
      apply ne
      rcases cv with w | w | w | w | w | w
      · rw [← w]
        exact nri_tip (by omega)
      · rw [← w]
        exact nri_tip (by omega)
      · rw [← w]
        exact nri_tip (by omega)
      · rw [← w, ← e]
      · rw [← w]
        omega
      · rw [← w]
        omega
  · have ei : 3 * (i / 3) + i % 3 = i := by omega
    obtain ⟨t', k', ht', hk', e1, e2⟩ := c5 (i / 3) (i % 3) (by omega) (by omega)
    have en : 3 * (i / 3) + (i % 3 + 1) % 3 = nxs i := rfl
    rw [en] at e1
    rw [ei] at e2
    refine ⟨3 * t' + k', by omega, ?_, ?_⟩
    · unfold tp
      rw [e1]
    · unfold tp
      rw [nxs_tk hk', e2]
theorem QC_Q0 (s0 : cS) (p q kp kq : Nat) (k : Nat → V3) : Q0 QC (XK s0 p q kp kq 4) k := fun _ _ _ sk f o nz _ _ => QC_four sk f o nz
