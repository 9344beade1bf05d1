/-- within all rows of the skin, and beyond all knots: no -/
theorem QG_out {s s1 : cS} {p q kp kq r K T C M : Nat} {k : Nat → V3} {x u : V3} (wr : WR (QG M k) s s1 p q kp kq r K T C) (hK : K ≤ M) (hM : M ≤ 25) (al : ∀ t, t < T → qA s1 36 t ≠ 0) (zx : sZ s p q kp kq x) (far : ∀ j, j < K → vd u (pc s1 30 j) < vd u x) : False := by
  obtain ⟨h1, h2, h3, sb, su, sr, T0, -⟩ := wr.2.2.1 hK
  have ro := wr.2.1.2.2.2.1
  refine out_no sb su sr (FL_of h2 h1) T0 (x := x) (u := u) (fun i hi => ?_) far
  obtain ⟨-, -, e1, e2⟩ := tO_tp (show K ≤ 25 by omega) (ro (i / 3) (by omega))
  have tipe := nri_tip (P := pc s1 30) (a := tp s1) (i := 3 * (i / 3)) (j := i) (by omega)
  rw [nri_row, tipe, ← e1, ← e2]
  obtain ⟨i', j', hi', hj', e⟩ := zx
  rw [e]
  exact wr.2.2.2.2.2.2.2 (i / 3) (by omega) (al _ (by omega)) i' j' hi' hj'
theorem lean_c {A h : Int} (hh : h ≠ 0) : ∃ c, A < c * h := by
  by_cases p : 0 < h
  · refine ⟨(A.natAbs : Int) + 1, ?_⟩
    have : ((A.natAbs : Int) + 1) * 1 ≤ ((A.natAbs : Int) + 1) * h := Int.mul_le_mul_of_nonneg_left (by omega) (by omega)
    omega
  · refine ⟨-((A.natAbs : Int) + 1), ?_⟩
    have : ((A.natAbs : Int) + 1) * 1 ≤ ((A.natAbs : Int) + 1) * -h := Int.mul_le_mul_of_nonneg_left (by omega) (by omega)
    rw [Int.mul_neg] at this
    rw [Int.neg_mul]
    omega
/-- every point that lies strictly farthest is a knot -/
theorem HF_all {s s1 : cS} {p q kp kq kd K : Nat} (bp : ∀ j, j < kp → bd3 (pc s p j) 200) (bq : ∀ j, j < kq → bd3 (pc s q j) 200) (hf : HF s s1 p q kp kq kd K) (hk1 : 1 ≤ kd) {x : V3} (ex : eZ (sZ s p q kp kq) x) : ∃ i, i < K ∧ okk kd i ∧ pc s1 30 i = x := by
  obtain ⟨zx, u, hu⟩ := ex
  rcases hf with ⟨a, e, st, z, kf⟩ | ⟨a, k, T, C, wr, al, nz, fl⟩ | ⟨a, k, T, C, wr, al⟩
  · have kn : KN s s1 p q kp kq kd := by
      rcases st.2.2.2.2 with ⟨w, -⟩ | ⟨-, w⟩
      · exact absurd (z.symm.trans w) (by decide)
      · exact w
    rcases kf with ⟨e1, k1⟩ | ⟨e1, k1, k2⟩ | ⟨e1, -⟩ | ⟨e1, -⟩
    · obtain ⟨i, j, hi, hj, ey⟩ := zx
      exact ⟨0, by omega, fun w => by omega, by rw [ey]; exact (k1 i j hi hj).symm⟩
    · have eK : ∀ j, j < 2 → eZ (sZ s p q kp kq) (pc s1 30 j) := fun j hj => by
        obtain ⟨-, i, i', d, f, e'⟩ := kn j (by omega)
        rw [e']
        exact fzz_eZ bp bq f
      have all : ∀ j, j < 3 → eZ (sZ s p q kp kq) (if j = 0 then pc s1 30 0 else if j = 1 then pc s1 30 1 else x) := fun j hj => by
        by_cases c0 : j = 0
        · rw [if_pos c0]
          exact eK 0 (by omega)
        · rw [if_neg c0]
          by_cases c1 : j = 1
          · rw [if_pos c1]
            exact eK 1 (by omega)
          · rw [if_neg c1]
            exact ⟨zx, u, hu⟩
      have nb := NB_eZ (P := fun j => if j = 0 then pc s1 30 0 else if j = 1 then pc s1 30 1 else x) (K := 3) all
      obtain ⟨i, j, hi, hj, ey⟩ := zx
      have par := vx_fl (k2 i j hi hj)
      rw [← ey] at par
      have ol := on_line nb (u := 1) (v := 0) (u' := 2) (by omega) (by omega) (by omega) k1 par
      rcases ol with w | w
      · exact ⟨1, by omega, fun w => by omega, w.symm⟩
      · exact ⟨0, by omega, fun w => by omega, w.symm⟩
    · omega
    · omega
  · apply Classical.byContradiction
    intro no
    have sk := wr.2.1
    have hK : K ≤ 25 := sk.1.1
    obtain ⟨h1, h2, h3, -, -, -, -, h8⟩ := wr.2.2.1 hK
    have kn := wr.2.2.2.2.2.2.1
    have zk : ∀ j, j < K → j ≠ 3 → sZ s p q kp kq (pc s1 30 j) ∧ vd u (pc s1 30 j) < vd u x := fun j hj ne => by
      rcases kn j hj with w | ⟨-, i, i', d, f, e⟩
      · exact absurd w.2 ne
      · have zz : sZ s p q kp kq (pc s1 30 j) := ⟨i, i', f.1, f.2.1, e⟩
        exact ⟨zz, hu _ zz (fun w => no ⟨j, hj, fun y => ne y.2, w⟩)⟩
    have flz : ∀ y, sZ s p q kp kq y → vd (nu k) y = vd (nu k) (k 0) := fun y ⟨i, j, hi, hj, e⟩ => by
      rw [e]
      exact fl i j hi hj
    have off : vd (nu k) (pc s1 30 3) ≠ vd (nu k) (k 0) := fun w => h2 (by
      unfold bx4
      rw [h8 0 (by omega), h8 1 (by omega), h8 2 (by omega), vd_vs']
      unfold nu at w
      rw [w]
      omega)
    -- lean the way so that the prop lies low
    obtain ⟨c, hc⟩ := lean_c (A := vd u (pc s1 30 3) - vd u x) (h := vd (nu k) (pc s1 30 3) - vd (nu k) (k 0)) (by omega)
    refine QG_out wr hK (by omega) al zx (u := vl 1 u (-c) (nu k)) (fun j hj => ?_)
    rw [vd_vl_l, vd_vl_l, flz x zx, Int.one_mul, Int.one_mul]
    by_cases d : j = 3
    · rw [d]
      rw [Int.mul_sub] at hc
      rw [Int.neg_mul, Int.neg_mul]
      omega
    · obtain ⟨y1, y2⟩ := zk j hj d
      rw [flz _ y1]
      omega
  · apply Classical.byContradiction
    intro no
    have kn := wr.2.2.2.2.2.2.1
    have hK : K ≤ 24 := by
      have := wr.2.2.2.2.2.1
      omega
    refine QG_out wr hK (by omega) al zx (u := u) (fun j hj => ?_)
    rcases kn j hj with w | ⟨-, i, i', d, f, e⟩
    · omega
    · exact hu _ ⟨i, i', f.1, f.2.1, e⟩ (fun w => no ⟨j, hj, fun y => by omega, w⟩)
/-- what the class finds: all points that lie strictly farthest, in order, and the kind -/
def CLS (Z : V3 → Prop) (kd n : Nat) (P : Nat → V3) : Prop := n ≤ 24 ∧ (∀ j, j < n → bd3 (P j) 100 ∧ eZ Z (P j)) ∧ (∀ x, eZ Z x → ∃ j, j < n ∧ P j = x) ∧ inOrd wO P n ∧ ((kd < 3 ∧ n = kd) ∨ (kd = 3 ∧ 3 ≤ n ∧ ∃ ν e, ν ≠ v0 ∧ ∀ j, j < n → vd ν (P j) = e) ∨ (kd = 4 ∧ 3 ≤ n ∧ ∀ v d, v ≠ v0 → ∃ j, j < n ∧ vd v (P j) ≠ d))
theorem BL_CLS {s s' : cS} {b p q kp kq kd : Nat} (bp : ∀ j, j < kp → bd3 (pc s p j) 200) (bq : ∀ j, j < kq → bd3 (pc s q j) 200) (hk1 : 1 ≤ kd) (hk4 : kd ≤ 4) (bl : BL s s' b p q kp kq kd) : ∃ n', qI s' (b + 1) 0 = Int32.ofNat n' ∧ qI s' b 0 = Int32.ofNat kd ∧ CLS (sZ s p q kp kq) kd n' (pc s' (b + 1)) := by
  obtain ⟨s1, K, hf, h1, h2, h3, h4, h5⟩ := bl
  -- each knot that counts is a sum, farthest along some way, and within bounds
  have kn : ∀ i, i < K → okk kd i → bd3 (pc s1 30 i) 100 ∧ eZ (sZ s p q kp kq) (pc s1 30 i) := fun i hi ok => by
    rcases hf with ⟨a, e, st, z, -⟩ | ⟨a, k', T', C, w, -⟩ | ⟨a, k', T', C, w, -⟩
    · rcases st.2.2.2.2 with ⟨y, -⟩ | ⟨-, y⟩
      · exact absurd (z.symm.trans y) (by decide)
      · obtain ⟨y1, i1, i2, d, f, e'⟩ := y i (by omega)
        refine ⟨y1, ?_⟩
        rw [e']
        exact fzz_eZ bp bq f
    · rcases w.2.2.2.2.2.2.1 i hi with y | ⟨y1, i1, i2, d, f, e'⟩
      · exact absurd ⟨a, y.2⟩ ok
      · refine ⟨y1, ?_⟩
        rw [e']
        exact fzz_eZ bp bq f
    · rcases w.2.2.2.2.2.2.1 i hi with y | ⟨y1, i1, i2, d, f, e'⟩
      · omega
      · refine ⟨y1, ?_⟩
        rw [e']
        exact fzz_eZ bp bq f
  have di : ∀ i i', i < K → i' < K → okk kd i → okk kd i' → pc s1 30 i = pc s1 30 i' → i = i' := fun i i' hi hi' ok ok' e => by
    rcases hf with ⟨a, eK, st, z, kf⟩ | ⟨a, k', T', C, w, -⟩ | ⟨a, k', T', C, w, -⟩
    · rcases kf with ⟨e1, -⟩ | ⟨e1, k1, -⟩ | ⟨e1, -⟩ | ⟨e1, -⟩
      · omega
      · by_cases c : i = i'
        · exact c
        · exfalso
          have cs : (i = 0 ∧ i' = 1) ∨ (i = 1 ∧ i' = 0) := by omega
          rcases cs with ⟨y1, y2⟩ | ⟨y1, y2⟩
          · rw [y1, y2] at e
            exact k1 e.symm
          · rw [y1, y2] at e
            exact k1 e
      · omega
      · omega
    · exact (w.2.2.1 w.2.1.1.1).2.2.1 i i' hi hi' e
    · have hK : K ≤ 24 := by
        have := w.2.2.2.2.2.1
        omega
      exact (w.2.2.1 hK).2.2.1 i i' hi hi' e
  have so := h5 di
  have bd : ∀ j, j < cn kd K → bd3 (pc s' (b + 1) j) 100 := fun j hj => by
    obtain ⟨i, hi, ok, e⟩ := h3 j hj
    rw [e]
    exact (kn i hi ok).1
  have c24 : cn kd K ≤ 24 := by
    unfold cn
    rcases hf with ⟨a, e, -⟩ | ⟨a, k', T', C, w, -⟩ | ⟨a, k', T', C, w, -⟩
    · rw [if_neg (by omega)]
      omega
    · have := w.2.2.2.2.2.1
      by_cases k3 : 3 < K
      · rw [if_pos ⟨a, k3⟩]
        omega
      · rw [if_neg (fun w => k3 w.2)]
        omega
    · have := w.2.2.2.2.2.1
      rw [if_neg (by omega)]
      omega
  refine ⟨cn kd K, h2, h1, c24, fun j hj => ⟨bd j hj, ?_⟩, fun x ex => ?_, fun i j hij hj => ?_, ?_⟩
  · obtain ⟨i, hi, ok, e⟩ := h3 j hj
    rw [e]
    exact (kn i hi ok).2
  · obtain ⟨i, hi, ok, e⟩ := HF_all bp bq hf hk1 ex
    obtain ⟨j, hj, e'⟩ := h4 i hi ok
    exact ⟨j, hj, e'.trans e⟩
  · have := (lx_or (bd3_le (bd i (by omega)) (by decide)) (bd3_le (bd j hj) (by decide))).mp (so i j hij hj)
    rw [vd_vs']
    omega
  · rcases hf with ⟨a, e, -⟩ | ⟨a, k', T', C, w, -, nz, fl⟩ | ⟨a, k', T', C, w, -⟩
    · left
      refine ⟨a, ?_⟩
      unfold cn
      rw [if_neg (by omega)]
      exact e
    · right
      left
      obtain ⟨g1, -⟩ := w.2.2.1 w.2.1.1.1
      refine ⟨a, ?_, nu k', vd (nu k') (k' 0), nz, fun j hj => ?_⟩
      · unfold cn
        rw [if_pos ⟨a, by omega⟩]
        omega
      · obtain ⟨i, hi, ok, e⟩ := h3 j hj
        obtain ⟨⟨i1, i2, l1, l2, e'⟩, -⟩ := (kn i hi ok).2
        rw [e, e']
        exact fl i1 i2 l1 l2
    · right
      right
      have hK : K ≤ 24 := by
        have := w.2.2.2.2.2.1
        omega
      obtain ⟨g1, g2, -⟩ := w.2.2.1 hK
      refine ⟨a, ?_, fun v d hv => ?_⟩
      · unfold cn
        rw [if_neg (by omega)]
        omega
      · obtain ⟨i, hi, ne⟩ := FL_of (K := K) g2 g1 v d hv
        obtain ⟨j, hj, e⟩ := h4 i hi (fun y => by omega)
        exact ⟨j, hj, by rw [e]; exact ne⟩
/-- the reference's corners are the points that lie strictly farthest -/
def EL (Z : V3 → Prop) (m k : Nat) (Q : Nat → V3) : Prop := okP Q m k ∧ (∀ t, t < m → eZ Z (Q t)) ∧ ∀ x, eZ Z x → ∃ t, t < m ∧ Q t = x
theorem bld_eZ {Z : V3 → Prop} {m k : Nat} {Q : Nat → V3} (h : bld Z m k Q) : EL Z m k Q := by
  obtain ⟨R, n, v, c, ⟨r1, r2, r3⟩, -, ⟨x1, x2, x3⟩, ok, eq⟩ := h
  have dR : ∀ i j, i < n → j < n → R i = R j → i = j := fun i j hi hj e => by
    by_cases c1 : i < j
    · have := r1 i j c1 hj
      rw [e, vs_self, vd_0r] at this
      omega
    · by_cases c2 : j < i
      · have := r1 j i c2 hi
        rw [e, vs_self, vd_0r] at this
        omega
      · omega
  refine ⟨ok, fun t ht => ?_, fun x ⟨zx, u, hu⟩ => ?_⟩
  · obtain ⟨y1, u, hu⟩ := x1 t ht
    rw [eq t ht]
    refine ⟨r2 _ y1, u, fun y zy ne => ?_⟩
    obtain ⟨p, hp, ep⟩ := r3 y zy
    rw [← ep]
    exact hu p hp (fun w => ne (by rw [← ep, w]))
  · obtain ⟨p, hp, ep⟩ := r3 x zx
    obtain ⟨t, ht, et⟩ := x3 p hp ⟨u, fun y hy ne => by
      rw [ep]
      exact hu _ (r2 y hy) (fun w => ne (dR y p hy hp (w.trans ep.symm)))⟩
    exact ⟨t, ht, by rw [eq t ht, et, ep]⟩
theorem CLS_EL {Z : V3 → Prop} {kd n m k : Nat} {P Q : Nat → V3} (h : CLS Z kd n P) (b : EL Z m k Q) : m = n ∧ k = kd ∧ ∀ j, j < n → Q j = P j := by
  obtain ⟨h1, h2, h3, h4, h5⟩ := h
  obtain ⟨ok, b1, b2⟩ := b
  obtain ⟨e, eq⟩ := sort_uniq ok.2.2.1 h4 (fun i hi => by
    obtain ⟨j, hj, e⟩ := h3 _ (b1 i hi)
    exact ⟨j, hj, e.symm⟩) (fun j hj => by
    obtain ⟨t, ht, e⟩ := b2 _ (h2 j hj).2
    exact ⟨t, ht, e⟩)
  refine ⟨e, ?_, fun j hj => eq j (by omega)⟩
  rcases ok.2.2.2.2 with ⟨k1, k2⟩ | ⟨k1, k2, v, d, ⟨x, hx⟩, k3⟩ | ⟨k1, k2, k3⟩
  · rcases h5 with ⟨y1, y2⟩ | ⟨y1, y2, -⟩ | ⟨y1, y2, -⟩ <;> omega
  · rcases h5 with ⟨y1, y2⟩ | ⟨y1, y2, -⟩ | ⟨y1, y2, y3⟩
    · omega
    · omega
    · exfalso
      obtain ⟨j, hj, ne⟩ := y3 v d (fun w => by
        rw [w, vd_0] at hx
        omega)
      apply ne
      rw [← eq j (by omega)]
      exact k3 j (by omega)
  · rcases h5 with ⟨y1, y2⟩ | ⟨y1, y2, ν, e', nz, y3⟩ | ⟨y1, y2, y3⟩
    · omega
    · exfalso
      obtain ⟨G, w, g0, ew, pw⟩ := prim_of nz
      obtain ⟨i, hi, ne⟩ := k3 w (vd w (Q 0)) pw
      apply ne
      have z1 := y3 i (by omega)
      have z2 := y3 0 (by omega)
      rw [← eq i hi, ew, vl_d] at z1
      rw [← eq 0 (by omega), ew, vl_d] at z2
      exact Int.eq_of_mul_eq_mul_left (by omega) (z1.trans z2.symm)
    · omega
theorem CLS_noB {Z : V3 → Prop} {kd n : Nat} {P : Nat → V3} (h : CLS Z kd n P) (b : noB Z) : False := by
  obtain ⟨h1, h2, h3, h4, h5⟩ := h
  obtain ⟨R, l, ⟨r1, r2, r3⟩, no⟩ := b
  obtain ⟨m, c, xl⟩ := exL_has R l
  have dR : ∀ i j, i < j → j < l → R i ≠ R j := fun i j c1 hj e => by
    have := r1 i j c1 hj
    rw [e, vs_self, vd_0r] at this
    omega
  have ez : ∀ t, t < m → eZ Z (R (c t)) := fun t ht => by
    obtain ⟨y1, u, hu⟩ := xl.1 t ht
    refine ⟨r2 _ y1, u, fun y zy ne => ?_⟩
    obtain ⟨p, hp, ep⟩ := r3 y zy
    rw [← ep]
    exact hu p hp (fun w => ne (by rw [← ep, w]))
  have ch : ∀ t, t < m → ∃ j, j < n ∧ P j = R (c t) := fun t ht => h3 _ (ez t ht)
  refine no m c xl ⟨?_, fun t ht => ?_⟩
  · classical
    have := pigeon n m (fun t => if ht : t < m then Classical.choose (ch t ht) else 0) (fun t ht => by
      show (if ht : t < m then Classical.choose (ch t ht) else 0) < n
      rw [dif_pos ht]
      exact (Classical.choose_spec (ch t ht)).1) (fun i j hij hj e => by
      have e' : (if ht : i < m then Classical.choose (ch i ht) else 0) = (if ht : j < m then Classical.choose (ch j ht) else 0) := e
      have hi : i < m := by omega
      rw [dif_pos hi, dif_pos hj] at e'
      have q1 := (Classical.choose_spec (ch i hi)).2
      have q2 := (Classical.choose_spec (ch j hj)).2
      rw [e'] at q1
      exact dR _ _ (xl.2.1 i j hij hj) (xl.1 j hj).1 (q1.symm.trans q2))
    omega
  · obtain ⟨j, hj, e⟩ := ch t ht
    rw [← e]
    exact (h2 j hj).1
/-- points that are all strictly farthest of their set -/
theorem EL_of {Z : V3 → Prop} {m k : Nat} {Q : Nat → V3} (ok : okP Q m k) (hz : ∀ x, Z x ↔ ∃ t, t < m ∧ x = Q t) : EL Z m k Q := by
  refine ⟨ok, fun t ht => ⟨(hz _).mpr ⟨t, ht, rfl⟩, ?_⟩, fun x ex => ?_⟩
  · obtain ⟨u, hu⟩ := ok.2.2.2.1 t ht
    refine ⟨u, fun y zy ne => ?_⟩
    obtain ⟨t', ht', e⟩ := (hz y).mp zy
    rw [e]
    exact hu t' ht' (fun w => ne (by rw [e, w]))
  · obtain ⟨t, ht, e⟩ := (hz x).mp ex.1
    exact ⟨t, ht, e.symm⟩
theorem eZ_cg {Z Z' : V3 → Prop} (h : ∀ x, Z x ↔ Z' x) : Z = Z' := funext fun x => propext (h x)
