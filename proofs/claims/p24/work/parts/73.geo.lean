/-- a way that isn't along u -/
theorem off_way {u : V3} (h : u ≠ v0) : ∃ c, vx c u ≠ v0 := by
  by_cases h1 : u.1 = 0
  · by_cases h2 : u.2.1 = 0
    · refine ⟨(1, 0, 0), fun e => h ?_⟩
      have e2 : (0 : Int) * u.1 - 1 * u.2.2 = 0 := vx_2 e
      exact v3_ext h1 h2 (by show u.2.2 = 0; omega)
    · refine ⟨(0, 0, 1), fun e => h2 ?_⟩
      have e2 : (0 : Int) * u.2.2 - 1 * u.2.1 = 0 := vx_1 e
      omega
  · refine ⟨(0, 1, 0), fun e => h1 ?_⟩
    have e2 : (0 : Int) * u.2.1 - 1 * u.1 = 0 := vx_3 e
    omega
theorem ru_1 (a b c u v w : Int) : (a * c + b * u) * w - (a * v + b * w) * u = a * (c * w - v * u) := by grind
theorem vx_vl_l (a : Int) (c : V3) (b : Int) (u : V3) : vx (vl a c b u) u = vl a (vx c u) 0 v0 := by
  refine v3_ext ?_ ?_ ?_
  · show (a * c.2.1 + b * u.2.1) * u.2.2 - (a * c.2.2 + b * u.2.2) * u.2.1 = a * (c.2.1 * u.2.2 - c.2.2 * u.2.1) + 0 * 0
    rw [ru_1]
    omega
  · show (a * c.2.2 + b * u.2.2) * u.1 - (a * c.1 + b * u.1) * u.2.2 = a * (c.2.2 * u.1 - c.1 * u.2.2) + 0 * 0
    rw [ru_1]
    omega
  · show (a * c.1 + b * u.1) * u.2.1 - (a * c.2.1 + b * u.2.1) * u.1 = a * (c.1 * u.2.1 - c.2.1 * u.1) + 0 * 0
    rw [ru_1]
    omega
theorem vl_z {a : Int} {x : V3} (ha : 0 < a) (h : vl a x 0 v0 = v0) : x = v0 := by
  have e1 : a * x.1 + 0 * 0 = 0 := congrArg (fun v : V3 => v.1) h
  have e2 : a * x.2.1 + 0 * 0 = 0 := congrArg (fun v : V3 => v.2.1) h
  have e3 : a * x.2.2 + 0 * 0 = 0 := congrArg (fun v : V3 => v.2.2) h
  exact v3_ext (z_of_mul ha (by omega)) (z_of_mul ha (by omega)) (z_of_mul ha (by omega))
theorem ru_2 (a b A A' B B' : Int) : a * A + -b * B - (a * A' + -b * B') = a * (A - A') - b * (B - B') := by grind
/-- the turn from u toward c, as far as the points let it -/
theorem turn_ht {P : Nat → V3} {m v : Nat} {u c : V3} (H : ∃ k, k < m ∧ vd u (P k) < vd u (P v)) (h0 : ∀ k, k < m → vd u (P k) ≤ vd u (P v)) (hz : ∀ k, k < m → vd u (P k) = vd u (P v) → vd c (P k) = vd c (P v)) : ∃ t a b, t < m ∧ vd u (P t) < vd u (P v) ∧ 0 < a ∧ (∀ k, k < m → vd (vl a c b u) (P k) ≤ vd (vl a c b u) (P v)) ∧ vd (vl a c b u) (P t) = vd (vl a c b u) (P v) ∧ ∀ k, k < m → vd u (P k) = vd u (P v) → vd (vl a c b u) (P k) = vd (vl a c b u) (P v) := by
  obtain ⟨k0, k1, k2⟩ := H
  obtain ⟨t, t1, t2, t3⟩ := least_ratio (fun k => vd c (P v) - vd c (P k)) (fun k => vd u (P v) - vd u (P k)) m ⟨k0, k1, by show 0 < vd u (P v) - vd u (P k0); omega⟩
  have t2' : 0 < vd u (P v) - vd u (P t) := t2
  have key : ∀ k, vd (vl (vd u (P v) - vd u (P t)) c (-(vd c (P v) - vd c (P t))) u) (P v) - vd (vl (vd u (P v) - vd u (P t)) c (-(vd c (P v) - vd c (P t))) u) (P k) = (vd u (P v) - vd u (P t)) * (vd c (P v) - vd c (P k)) - (vd c (P v) - vd c (P t)) * (vd u (P v) - vd u (P k)) := by
    intro k
    rw [vd_vl_l, vd_vl_l, ru_2]
  have on : ∀ k, k < m → vd u (P k) = vd u (P v) → vd (vl (vd u (P v) - vd u (P t)) c (-(vd c (P v) - vd c (P t))) u) (P k) = vd (vl (vd u (P v) - vd u (P t)) c (-(vd c (P v) - vd c (P t))) u) (P v) := by
    intro k hk e
    have := key k
    rw [e, hz k hk e, Int.sub_self, Int.sub_self, Int.mul_zero, Int.mul_zero] at this
    omega
  refine ⟨t, _, _, t1, by omega, t2', fun k hk => ?_, ?_, on⟩
  · by_cases e : vd u (P k) = vd u (P v)
    · rw [on k hk e]
      exact Int.le_refl _
    · have l := h0 k hk
      have := t3 k hk (by show 0 < vd u (P v) - vd u (P k); omega)
      have this' : (vd c (P v) - vd c (P t)) * (vd u (P v) - vd u (P k)) ≤ (vd c (P v) - vd c (P k)) * (vd u (P v) - vd u (P t)) := this
      have e1 := key k
      rw [Int.mul_comm (vd u (P v) - vd u (P t))] at e1
      omega
  · have e1 := key t
    rw [Int.mul_comm (vd u (P v) - vd u (P t))] at e1
    omega
/-- a plane on one side of the points that has v and t, and a third one off their line -/
theorem fc_of {P : Nat → V3} {m v t k : Nat} {u : V3} (hu : u ≠ v0) (hv : v < m) (ht : t < m) (hk : k < m) (h0 : ∀ k, k < m → vd u (P k) ≤ vd u (P v)) (et : vd u (P t) = vd u (P v)) (ek : vd u (P k) = vd u (P v)) (hne : vx (vs (P t) (P v)) (vs (P k) (P v)) ≠ v0) : ∃ n d, fc P m n d ∧ vd n (P v) = d ∧ ∀ j, vd u (P j) = vd u (P v) → vd n (P j) = d := by
  obtain ⟨G, w, G0, e, hx⟩ := prim_of hu
  have up : ∀ j, vd u (P j) = G * vd w (P j) := by
    intro j
    rw [e, vd_vl_l, Int.zero_mul, Int.add_zero]
  have eq : ∀ j, vd u (P j) = vd u (P v) → vd w (P j) = vd w (P v) := by
    intro j h
    rw [up, up] at h
    exact Int.eq_of_mul_eq_mul_left (by omega) h
  refine ⟨w, vd w (P v), ⟨fun i hi => ?_, ⟨v, t, k, hv, ht, hk, rfl, eq t et, eq k ek, hne⟩, hx⟩, rfl, eq⟩
  have h := h0 i hi
  rw [up, up] at h
  exact Int.le_of_mul_le_mul_left h G0
theorem ru_3 (n1 n2 n3 e1 e2 e3 : Int) : (n2 * e3 - n3 * e2) * (n2 * e3 - n3 * e2) + (n3 * e1 - n1 * e3) * (n3 * e1 - n1 * e3) + (n1 * e2 - n2 * e1) * (n1 * e2 - n2 * e1) = (n1 * n1 + n2 * n2 + n3 * n3) * (e1 * e1 + e2 * e2 + e3 * e3) - (n1 * e1 + n2 * e2 + n3 * e3) * (n1 * e1 + n2 * e2 + n3 * e3) := by grind
theorem vx_len (n e : V3) : vd (vx n e) (vx n e) = vd n n * vd e e - vd n e * vd n e := ru_3 n.1 n.2.1 n.2.2 e.1 e.2.1 e.2.2
theorem ru_4 (n1 n2 n3 e1 e2 e3 : Int) : (n2 * e3 - n3 * e2) * n1 + (n3 * e1 - n1 * e3) * n2 + (n1 * e2 - n2 * e1) * n3 = 0 := by grind
theorem vx_at (n e : V3) : vd (vx n e) n = 0 := ru_4 n.1 n.2.1 n.2.2 e.1 e.2.1 e.2.2
theorem vd_0 (x : V3) : vd v0 x = 0 := by simp [vd, v0]
/-- from a plane that has v and t: one with a third point off their line -/
theorem sup_face {P : Nat → V3} {m v t : Nat} {u : V3} (hfull : full P m) (hu : u ≠ v0) (hv : v < m) (ht : t < m) (h0 : ∀ k, k < m → vd u (P k) ≤ vd u (P v)) (et : vd u (P t) = vd u (P v)) (hne : vs (P t) (P v) ≠ v0) : ∃ n d, fc P m n d ∧ vd n (P v) = d ∧ vd n (P t) = d := by
  by_cases c : ∃ k, k < m ∧ vd u (P k) = vd u (P v) ∧ vx (vs (P t) (P v)) (vs (P k) (P v)) ≠ v0
  · obtain ⟨k, hk, ek, hk2⟩ := c
    obtain ⟨n, d, h1, h2, h3⟩ := fc_of hu hv ht hk h0 et ek hk2
    exact ⟨n, d, h1, h2, h3 t et⟩
  · have ue : vd u (vs (P t) (P v)) = 0 := by
      rw [vd_vs]
      omega
    have hz : ∀ k, k < m → vd u (P k) = vd u (P v) → vd (vx u (vs (P t) (P v))) (P k) = vd (vx u (vs (P t) (P v))) (P v) := by
      intro k hk ek
      have q : vx (vs (P t) (P v)) (vs (P k) (P v)) = v0 := by
        by_cases q : vx (vs (P t) (P v)) (vs (P k) (P v)) = v0
        · exact q
        · exact absurd ⟨k, hk, ek, q⟩ c
      have : vd (vx u (vs (P t) (P v))) (vs (P k) (P v)) = 0 := by
        rw [← tri, q, vd_comm, vd_0]
      rw [vd_vs] at this
      omega
    have H : ∃ k, k < m ∧ vd u (P k) < vd u (P v) := by
      obtain ⟨G, w, G0, e, hx⟩ := prim_of hu
      obtain ⟨i, hi, hi2⟩ := hfull w (vd w (P v)) hx
      refine ⟨i, hi, ?_⟩
      have l := h0 i hi
      by_cases q : vd u (P i) = vd u (P v)
      · exfalso
        rw [e, vd_vl_l, vd_vl_l, Int.zero_mul, Int.add_zero, Int.zero_mul, Int.add_zero] at q
        exact hi2 (Int.eq_of_mul_eq_mul_left (by omega) q)
      · omega
    obtain ⟨k, a, b, hk, k1, a0, h1, h2, h3⟩ := turn_ht H h0 hz
    have cc : 0 < vd (vx u (vs (P t) (P v))) (vx u (vs (P t) (P v))) := by
      rw [vx_len, ue, Int.mul_zero, Int.sub_zero]
      exact Int.mul_pos (vd_pos hu) (vd_pos hne)
    have ne0 : vl a (vx u (vs (P t) (P v))) b u ≠ v0 := by
      intro e
      have e1 : vd (vl a (vx u (vs (P t) (P v))) b u) (vx u (vs (P t) (P v))) = 0 := by
        rw [e, vd_0]
      rw [vd_vl_l, vd_comm u, vx_at, Int.mul_zero, Int.add_zero] at e1
      have := Int.mul_pos a0 cc
      omega
    obtain ⟨n, d, g1, g2, g3⟩ := fc_of (k := k) ne0 hv ht hk h1 (h3 t ht et) h2 (by
      intro q
      have q1 := along_u u (vx_anti0 q)
      rw [ue, Int.mul_zero] at q1
      have q2 := z_of_mul (vd_pos hne) q1
      rw [vd_vs] at q2
      omega)
    exact ⟨n, d, g1, g2, g3 t (h3 t ht et)⟩
/-- a point that is farthest along some way lies on a bounding plane -/
theorem ex_face {P : Nat → V3} {m v : Nat} (hfull : full P m) (hv : v < m) (hex : ex P m v) : ∃ n d, fc P m n d ∧ vd n (P v) = d := by
  obtain ⟨u, hu⟩ := hex
  obtain ⟨i, hi, hi2⟩ := hfull (1, 0, 0) (vd (1, 0, 0) (P v)) ⟨(1, 0, 0), rfl⟩
  have iv : i ≠ v := by
    intro e
    rw [e] at hi2
    exact hi2 rfl
  have hiv := hu i hi iv
  have u0 : u ≠ v0 := by
    intro e
    rw [e, vd_0, vd_0] at hiv
    omega
  obtain ⟨c, hc⟩ := off_way u0
  have h0 : ∀ k, k < m → vd u (P k) ≤ vd u (P v) := by
    intro k hk
    by_cases e : k = v
    · rw [e]
      exact Int.le_refl _
    · exact Int.le_of_lt (hu k hk e)
  have hz : ∀ k, k < m → vd u (P k) = vd u (P v) → vd c (P k) = vd c (P v) := by
    intro k hk e
    by_cases q : k = v
    · rw [q]
    · have := hu k hk q
      omega
  obtain ⟨t, a, b, ht, t1, a0, h1, h2, -⟩ := turn_ht ⟨i, hi, hiv⟩ h0 hz
  have w0 : vl a c b u ≠ v0 := by
    intro e
    have e1 := vx_vl_l a c b u
    rw [e, vx_0] at e1
    exact hc (vl_z a0 e1.symm)
  obtain ⟨n, d, f1, f2, -⟩ := sup_face hfull w0 hv ht h1 h2 (fun e => by
    have e1 : vd u (vs (P t) (P v)) = 0 := by
      rw [e, vd_comm, vd_0]
    rw [vd_vs] at e1
    omega)
  exact ⟨n, d, f1, f2⟩
theorem max_at (f : Nat → Int) : ∀ m, 0 < m → ∃ v, v < m ∧ ∀ k, k < m → f k ≤ f v := by
  intro m
  induction m with
  | zero =>
    intro h
    omega
  | succ m ih =>
    intro _
    by_cases h : 0 < m
    · obtain ⟨v, h1, h2⟩ := ih h
      by_cases c : f m ≤ f v
      · refine ⟨v, by omega, fun k hk => ?_⟩
        by_cases e : k = m
        · rw [e]
          exact c
        · exact h2 k (by omega)
      · refine ⟨m, by omega, fun k hk => ?_⟩
        by_cases e : k = m
        · rw [e]
          exact Int.le_refl _
        · have := h2 k (by omega)
          omega
    · refine ⟨0, by omega, fun k hk => ?_⟩
      have : k = 0 := by omega
      rw [this]
      exact Int.le_refl _
theorem ru_5 {K x y a b : Int} (hK : x - y < K) (h : K * a + x ≤ K * b + y) (hx : y - x < K) : a ≤ b ∧ (a = b → x ≤ y) := by
  have e : K * (a - b) = K * a - K * b := Int.mul_sub K a b
  constructor
  · by_cases c : a ≤ b
    · exact c
    · have : K * 1 ≤ K * (a - b) := Int.mul_le_mul_of_nonneg_left (by omega) (by omega)
      omega
  · intro q
    rw [q] at h
    omega
/-- along every way one is farthest that is so along some way alone -/
theorem ex_max {w : V3} {P : Nat → V3} {m : Nat} (ho : inOrd w P m) (h0 : 0 < m) (n : V3) : ∃ v, v < m ∧ ex P m v ∧ ∀ k, k < m → vd n (P k) ≤ vd n (P v) := by
  obtain ⟨K1, k1, b1⟩ := bound_all (fun k => vd w (P k)) m
  obtain ⟨K2, k2, b2⟩ := bound_all (fun k => - vd w (P k)) m
  obtain ⟨v, hv, hm⟩ := max_at (fun k => vd (vl (K1 + K2) n 1 w) (P k)) m h0
  have bd : ∀ i j, i < m → j < m → vd w (P i) - vd w (P j) < K1 + K2 := by
    intro i j hi hj
    have := b1 i hi
    have := b2 j hj
    omega
  have le : ∀ k, k < m → (K1 + K2) * vd n (P k) + vd w (P k) ≤ (K1 + K2) * vd n (P v) + vd w (P v) := by
    intro k hk
    have := hm k hk
    simp only [vd_vl_l, Int.one_mul] at this
    exact this
  refine ⟨v, hv, ⟨vl (K1 + K2) n 1 w, fun k hk hkv => ?_⟩, fun k hk => (ru_5 (bd k v hk hv) (le k hk) (bd v k hv hk)).1⟩
  have l := le k hk
  rw [vd_vl_l, vd_vl_l, Int.one_mul, Int.one_mul]
  by_cases c : (K1 + K2) * vd n (P k) + vd w (P k) < (K1 + K2) * vd n (P v) + vd w (P v)
  · exact c
  · exfalso
    have l' := le k hk
    have a1 := (ru_5 (bd k v hk hv) l' (bd v k hv hk))
    have a2 := (ru_5 (bd v k hv hk) (by omega : (K1 + K2) * vd n (P v) + vd w (P v) ≤ (K1 + K2) * vd n (P k) + vd w (P k)) (bd k v hk hv))
    have e : vd n (P k) = vd n (P v) := by omega
    have x1 := a1.2 e
    have x2 := a2.2 e.symm
    by_cases q : k < v
    · have := ho k v q hv
      rw [vd_vs] at this
      omega
    · have := ho v k (by omega) hk
      rw [vd_vs] at this
      omega
/-- the points that are farthest along some way, in order -/
def exL (P : Nat → V3) (n m : Nat) (c : Nat → Nat) : Prop := (∀ j, j < m → c j < n ∧ ex P n (c j)) ∧ (∀ i j, i < j → j < m → c i < c j) ∧ ∀ p, p < n → ex P n p → ∃ j, j < m ∧ c j = p
theorem exL_ex {P : Nat → V3} {n m : Nat} {c : Nat → Nat} (h : exL P n m c) : ∀ j, j < m → ex (fun k => P (c k)) m j := by
  intro j hj
  obtain ⟨h1, u, hu⟩ := h.1 j hj
  refine ⟨u, fun k hk hkj => hu (c k) (h.1 k hk).1 (fun e => hkj ?_)⟩
  exact l_inj h.2.1 hk hj e
/-- they are off one plane, if all are -/
theorem exL_full {w : V3} {P : Nat → V3} {n m : Nat} {c : Nat → Nat} (ho : inOrd w P n) (h0 : 0 < n) (h : exL P n m c) (hf : full P n) : full (fun k => P (c k)) m := by
  intro u d hx
  obtain ⟨a, ha, xa, ma⟩ := ex_max ho h0 u
  obtain ⟨b, hb, xb, mb⟩ := ex_max ho h0 (vs v0 u)
  obtain ⟨ja, ja1, ja2⟩ := h.2.2 a ha xa
  obtain ⟨jb, jb1, jb2⟩ := h.2.2 b hb xb
  by_cases c1 : vd u (P a) = d
  · by_cases c2 : vd u (P b) = d
    · exfalso
      obtain ⟨i, hi, hi2⟩ := hf u d hx
      have l1 := ma i hi
      have l2 := mb i hi
      rw [neg_vd, neg_vd] at l2
      omega
    · refine ⟨jb, jb1, ?_⟩
      show vd u (P (c jb)) ≠ d
      rw [jb2]
      exact c2
  · refine ⟨ja, ja1, ?_⟩
    show vd u (P (c ja)) ≠ d
    rw [ja2]
    exact c1
/-- three that are each farthest along some way don't lie in a line -/
theorem ex_line {w : V3} {P : Nat → V3} {m a b c : Nat} (ho : inOrd w P m) (h : ∀ j, j < m → ex P m j) (hab : a < b) (hbc : b < c) (hc : c < m) : vx (vs (P b) (P a)) (vs (P c) (P a)) ≠ v0 := mid_off ho hab hbc hc (h b (by omega))
/-- in order both, and the same: one by one the same -/
theorem sort_uniq {w : V3} {f g : Nat → V3} {n m : Nat} (hf : inOrd w f n) (hg : inOrd w g m) (h1 : ∀ i, i < n → ∃ j, j < m ∧ f i = g j) (h2 : ∀ j, j < m → ∃ i, i < n ∧ f i = g j) : n = m ∧ ∀ i, i < n → f i = g i := by
  have lf : ∀ i j, i ≤ j → j < n → vd w (f i) ≤ vd w (f j) := by
    intro i j hij hj
    by_cases e : i = j
    · rw [e]
      exact Int.le_refl _
    · have := hf i j (by omega) hj
      rw [vd_vs] at this
      omega
  have lg : ∀ i j, i ≤ j → j < m → vd w (g i) ≤ vd w (g j) := by
    intro i j hij hj
    by_cases e : i = j
    · rw [e]
      exact Int.le_refl _
    · have := hg i j (by omega) hj
      rw [vd_vs] at this
      omega
  have nf : ∀ i j, i < n → j < n → f i = f j → i = j := by
    intro i j hi hj e
    by_cases c : i = j
    · exact c
    · by_cases d : i < j
      · have := hf i j d hj
        rw [vd_vs, e] at this
        omega
      · have := hf j i (by omega) hi
        rw [vd_vs, e] at this
        omega
  have ng : ∀ i j, i < m → j < m → g i = g j → i = j := by
    intro i j hi hj e
    by_cases c : i = j
    · exact c
    · by_cases d : i < j
      · have := hg i j d hj
        rw [vd_vs, e] at this
        omega
      · have := hg j i (by omega) hi
        rw [vd_vs, e] at this
        omega
  have key : ∀ i, i < n → i < m → f i = g i := by
    intro i
    induction i using Nat.strongRecOn with
    | ind i ih =>
      intro hn hm
      obtain ⟨j, j1, j2⟩ := h1 i hn
      obtain ⟨k, k1, k2⟩ := h2 i hm
      have ji : i ≤ j := by
        by_cases c : i ≤ j
        · exact c
        · have e := ih j (by omega) (by omega) j1
          have := nf i j hn (by omega) (by rw [j2, e])
          omega
      have ki : i ≤ k := by
        by_cases c : i ≤ k
        · exact c
        · have e := ih k (by omega) k1 (by omega)
          have := ng k i (by omega) hm (by rw [← e, k2])
          omega
      have q1 := lg i j ji j1
      have q2 := lf i k ki k1
      rw [← j2] at q1
      rw [k2] at q2
      by_cases c : j = i
      · rw [j2, c]
      · have := hg i j (by omega) j1
        rw [vd_vs, ← j2] at this
        omega
  have nm : n = m := by
    by_cases c : n < m
    · obtain ⟨i, i1, i2⟩ := h2 n c
      have e := key i i1 (by omega)
      have := ng i n (by omega) c (by rw [← e, i2])
      omega
    · by_cases d : m < n
      · obtain ⟨j, j1, j2⟩ := h1 m d
        have e := key j (by omega) j1
        have := nf m j d (by omega) (by rw [j2, e])
        omega
      · omega
  exact ⟨nm, fun i hi => key i hi (by omega)⟩
