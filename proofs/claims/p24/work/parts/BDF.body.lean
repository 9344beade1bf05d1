/-- b leads out of one of two planes at most, or into one -/
def PB (n1 n2 b : V3) : Prop := (vd n1 b ≤ 0 ∧ 0 ≤ vd n2 b) ∨ (0 ≤ vd n1 b ∧ vd n2 b ≤ 0)
/-- an EDGE with its two FACES -/
def ER (A : Nat → V3) (m F : Nat) (nf : Nat → V3) (df : Nat → Int) (p q f g : Nat) : Prop := (p < q ∧ q < m ∧ f < F ∧ g < F) ∧ vx (nf f) (nf g) ≠ v0 ∧ nf f ≠ nf g ∧ (vd (nf f) (A p) = df f ∧ vd (nf f) (A q) = df f) ∧ vd (nf g) (A p) = df g ∧ vd (nf g) (A q) = df g
/-- a body of KIND 4 with all its FACES and EDGES -/
def WB (A : Nat → V3) (m F E : Nat) (nf : Nat → V3) (df : Nat → Int) (pe qe fe ge : Nat → Nat) : Prop := (okP A m 4 ∧ full A m) ∧ (∀ f, f < F → fc A m (nf f) (df f)) ∧ (∀ n d, fc A m n d → ∃ f, f < F ∧ nf f = n ∧ df f = d) ∧ (∀ e, e < E → ER A m F nf df (pe e) (qe e) (fe e) (ge e)) ∧ ∀ (w : V3) (a : Int) (p q : Nat), p < q → q < m → vd w (A p) = a → vd w (A q) = a → (∀ t, t < m → t ≠ p → t ≠ q → vd w (A t) < a) → ∃ e, e < E ∧ pe e = p ∧ qe e = q
/-- the way across two EDGES, if it counts -/
def CE (A : Nat → V3) (nf : Nat → V3) (pe qe fe ge : Nat → Nat) (e k : Nat) (v : V3) : Prop := v = vx (vs (A (qe e)) (A (pe e))) (vs (A (qe k)) (A (pe k))) ∧ PB (nf (fe e)) (nf (ge e)) (vs (A (qe k)) (A (pe k))) ∧ PB (nf (fe k)) (nf (ge k)) (vs (A (qe e)) (A (pe e))) ∧ vd v (A (pe e)) - vd v (A (pe k)) ≠ 0
/-- the ways that count -/
def DN (A : Nat → V3) (F E : Nat) (nf : Nat → V3) (pe qe fe ge : Nat → Nat) : V3 → Prop := fun v => (∃ f, f < F ∧ v = nf f) ∨ ∃ e k, e < k ∧ k < E ∧ CE A nf pe qe fe ge e k v
theorem side_pb {A : Nat → V3} {m p : Nat} {e b n1 n2 : V3} {d1 d2 : Int} (F1 : ∀ y, y < m → vd n1 (A y) ≤ d1) (F2 : ∀ y, y < m → vd n2 (A y) ≤ d2) (hp : p < m) (p1 : vd n1 (A p) = d1) (p2 : vd n2 (A p) = d2) (e1 : vd n1 e = 0) (e2 : vd n2 e = 0) (K : vx n1 n2 ≠ v0) (N : vx e b ≠ v0) (pb : PB n1 n2 b) : (∀ y, y < m → vd (vx e b) (A y) ≤ vd (vx e b) (A p)) ∨ (∀ y, y < m → vd (vx e b) (A p) ≤ vd (vx e b) (A y)) := by
  rcases pb with ⟨o1, o2⟩ | ⟨o1, o2⟩
  · exact side_ok F1 F2 hp p1 p2 e1 e2 K N o1 o2
  · exact side_ok F2 F1 hp p2 p1 e2 e1 (fun z => K (vx_anti0 z)) N o2 o1
/-- the way across two EDGES that counts has the points between the two planes -/
theorem edge_spn {A : Nat → V3} {m F E e k : Nat} {nf : Nat → V3} {df : Nat → Int} {pe qe fe ge : Nat → Nat} {v : V3} (wb : WB A m F E nf df pe qe fe ge) (he : e < E) (hk : k < E) (c : CE A nf pe qe fe ge e k v) : ∃ gw, SPN A m v gw ∧ gw * gw = (vd v (A (pe e)) - vd v (A (pe k))) * (vd v (A (pe e)) - vd v (A (pe k))) := by
  obtain ⟨cv, c1, c2, c3⟩ := c
  obtain ⟨-, hf, -, er, -⟩ := wb
  obtain ⟨⟨a1, a2, a3, a4⟩, a5, a6, ⟨a7, a8⟩, a9, a10⟩ := er e he
  obtain ⟨⟨b1, b2, b3, b4⟩, b5, b6, ⟨b7, b8⟩, b9, b10⟩ := er k hk
  have v0' : v ≠ v0 := fun z => c3 (by rw [z, vd_0, vd_0]; rfl)
  have v1 : vx (vs (A (qe e)) (A (pe e))) (vs (A (qe k)) (A (pe k))) ≠ v0 := by
    rw [← cv]
    exact v0'
  have v2 : vx (vs (A (qe k)) (A (pe k))) (vs (A (qe e)) (A (pe e))) ≠ v0 := fun z => v1 (vx_anti0 z)
  have s1 := side_pb (p := pe e) (hf _ a3).1 (hf _ a4).1 (by omega) a7 a9 (by rw [vd_vs]; omega) (by rw [vd_vs]; omega) a5 v1 c1
  have s2 := side_pb (p := pe k) (hf _ b3).1 (hf _ b4).1 (by omega) b7 b9 (by rw [vd_vs]; omega) (by rw [vd_vs]; omega) b5 v2 c2
  have ng : ∀ x, vd (vx (vs (A (qe k)) (A (pe k))) (vs (A (qe e)) (A (pe e)))) x = - vd v x := fun x => by
    rw [cv]
    exact vd_anti _ _ _
  rw [← cv] at s1
  rcases s1 with s1 | s1
  · rcases s2 with s2 | s2
    · -- highest at e, lowest at k
      refine ⟨vd v (A (pe e)) - vd v (A (pe k)), ⟨v0', pe e, pe k, by omega, by omega, s1, fun t ht => ?_, rfl⟩, rfl⟩
      have := s2 t ht
      rw [ng, ng] at this
      omega
    · exfalso
      have h1 := s1 (pe k) (by omega)
      have h2 := s2 (pe e) (by omega)
      rw [ng, ng] at h2
      omega
  · rcases s2 with s2 | s2
    · exfalso
      have h1 := s1 (pe k) (by omega)
      have h2 := s2 (pe e) (by omega)
      rw [ng, ng] at h2
      omega
    · refine ⟨vd v (A (pe k)) - vd v (A (pe e)), ⟨v0', pe k, pe e, by omega, by omega, fun t ht => ?_, s1, rfl⟩, ?_⟩
      · have := s2 t ht
        rw [ng, ng] at this
        omega
      · have : vd v (A (pe k)) - vd v (A (pe e)) = -(vd v (A (pe e)) - vd v (A (pe k))) := by omega
        rw [this, Int.neg_mul_neg]
/-- of the ways that count one is as thin as any -/
theorem cover {A : Nat → V3} {m F E : Nat} {nf : Nat → V3} {df : Nat → Int} {pe qe fe ge : Nat → Nat} (wb : WB A m F E nf df pe qe fe ge) {v : V3} {g : Int} (h : SPN A m v g) : ∃ w g', DN A F E nf pe qe fe ge w ∧ SPN A m w g' ∧ g' * g' * vd v v ≤ g * g * vd w w := by
  have wb' := wb
  obtain ⟨⟨ok, hfull⟩, hf, comp, er, ec⟩ := wb'
  obtain ⟨w, a, b, hx, s, l, cs⟩ := thin4 ok hfull h
  rcases cs with fa | fb | ⟨p, q, r, t, hpq, hq, hrt, ht, ep, eq, la, e_r, e_t, lb, ne⟩
  · obtain ⟨f, h1, h2, -⟩ := comp _ _ fa
    exact ⟨w, a + b, .inl ⟨f, h1, h2.symm⟩, s, l⟩
  · obtain ⟨f, h1, h2, -⟩ := comp _ _ fb
    exact ⟨vs v0 w, a + b, .inl ⟨f, h1, h2.symm⟩, SPN_neg s, by rw [vd_neg2]; exact l⟩
  · obtain ⟨e, he, e1, e2⟩ := ec w a p q hpq hq ep eq la
    obtain ⟨k, hk, k1, k2⟩ := ec (vs v0 w) b r t hrt ht e_r e_t lb
    subst e1
    subst e2
    subst k1
    subst k2
    obtain ⟨-, c5, c6, ⟨c7, c8⟩, c9, c10⟩ := er e he
    obtain ⟨⟨-, -, x3, x4⟩, -⟩ := er e he
    obtain ⟨⟨-, -, y3, y4⟩, d5, d6, ⟨d7, d8⟩, d9, d10⟩ := er k hk
    have we : vd w (vs (A (qe e)) (A (pe e))) = 0 := by
      rw [vd_vs]
      omega
    have nr := neg_vd w (A (pe k))
    have nt := neg_vd w (A (qe k))
    have wk : vd w (vs (A (qe k)) (A (pe k))) = 0 := by
      rw [vd_vs]
      omega
    have wk' : vd (vs v0 w) (vs (A (qe e)) (A (pe e))) = 0 := by
      rw [neg_vd, we]
      rfl
    have hdi := okP_hdi ok
    have ab : 0 < a + b := by
      obtain ⟨i, hi, ne'⟩ := hfull w a hx
      have i1 : i ≠ pe e := fun z => ne' (by rw [z]; exact ep)
      have i2 : i ≠ qe e := fun z => ne' (by rw [z]; exact eq)
      have h1 := la i hi i1 i2
      have h2 : vd (vs v0 w) (A i) ≤ b := by
        by_cases z : i = pe k
        · rw [z]
          omega
        · by_cases z2 : i = qe k
          · rw [z2]
            omega
          · exact Int.le_of_lt (lb i hi z z2)
      rw [neg_vd] at h2
      omega
    have pb1 := passed_ok (w := w) (b := vs (A (qe k)) (A (pe k))) hfull (hf _ x3) (hf _ x4) c6 (by omega) hq (vs_ne (hdi _ _ hq (by omega) (by omega))) c7 c8 c9 c10 ep eq la wk
    have pb2 := passed_ok (w := vs v0 w) (b := vs (A (qe e)) (A (pe e))) hfull (hf _ y3) (hf _ y4) d6 (by omega) ht (vs_ne (hdi _ _ ht (by omega) (by omega))) d7 d8 d9 d10 e_r e_t lb wk'
    have go : ∀ e' k', e' < k' → k' < E → vx (vs (A (qe e')) (A (pe e'))) (vs (A (qe k')) (A (pe k'))) ≠ v0 → vd w (vs (A (qe e')) (A (pe e'))) = 0 → vd w (vs (A (qe k')) (A (pe k'))) = 0 → PB (nf (fe e')) (nf (ge e')) (vs (A (qe k')) (A (pe k'))) → PB (nf (fe k')) (nf (ge k')) (vs (A (qe e')) (A (pe e'))) → vd w (A (pe e')) - vd w (A (pe k')) ≠ 0 → ∃ w g', DN A F E nf pe qe fe ge w ∧ SPN A m w g' ∧ g' * g' * vd v v ≤ g * g * vd w w := by
      intro e' k' lt hk' M0 z1 z2 q1 q2 df'
      have par := vx_anti0 (cross_along z1 z2)
      obtain ⟨gM, sM⟩ := SPN_ex (A := A) (m := m) M0 (by omega)
      have eqn := SPN_par par s sM
      have w0 := vd_pos s.1
      have al : ∀ x, vd w w * vd (vx (vs (A (qe e')) (A (pe e'))) (vs (A (qe k')) (A (pe k')))) x = vd (vx (vs (A (qe e')) (A (pe e'))) (vs (A (qe k')) (A (pe k')))) w * vd w x := fun x => by
        have := along_u x par
        rw [vd_comm x (vx _ _), vd_comm x w] at this
        exact this
      refine ⟨_, gM, .inr ⟨e', k', lt, hk', rfl, q1, q2, fun z => df' ?_⟩, sM, ?_⟩
      · have a1 := al (A (pe e'))
        have a2 := al (A (pe k'))
        have a3 := al (vx (vs (A (qe e')) (A (pe e'))) (vs (A (qe k')) (A (pe k'))))
        generalize vx (vs (A (qe e')) (A (pe e'))) (vs (A (qe k')) (A (pe k'))) = M at *
        rw [vd_comm w M] at a3
        have s0 : vd M w ≠ 0 := fun y => by
          rw [y, Int.zero_mul] at a3
          have := Int.mul_pos w0 (vd_pos M0)
          omega
        have a4 : vd M w * (vd w (A (pe e')) - vd w (A (pe k'))) = 0 := by
          rw [Int.mul_sub, ← a1, ← a2, show vd M (A (pe e')) = vd M (A (pe k')) by omega]
          omega
        rcases Int.mul_eq_zero.mp a4 with y | y
        · exact absurd y s0
        · exact y
      · refine rat_tr w0 (vd_nn v) (vd_nn _) ?_ l
        exact Int.le_of_eq eqn
    have ne2 : vx (vs (A (qe k)) (A (pe k))) (vs (A (qe e)) (A (pe e))) ≠ v0 := fun z => ne (vx_anti0 z)
    rcases Nat.lt_trichotomy e k with z | z | z
    · exact go e k z hk ne we wk pb1 pb2 (by omega)
    · rw [z] at ne
      exact absurd (vx_self _) ne
    · exact go k e z he ne2 wk we pb2 pb1 (by omega)
theorem ring_no2 {r j j' : Nat} {ρ : Nat → Nat} (r3 : 3 ≤ r) (inj : ∀ i j, i < j → j < r → ρ i ≠ ρ j) (hj : j < r) (hj' : j' < r) (e1 : ρ j' = nxr r ρ j) (e2 : nxr r ρ j' = ρ j) : False := by
  have un : ∀ a b, a < r → b < r → ρ a = ρ b → a = b := fun a b ha hb e => by
    rcases Nat.lt_trichotomy a b with z | z | z
    · exact absurd e (inj a b z hb)
    · exact z
    · exact absurd e.symm (inj b a z ha)
  unfold nxr at e1 e2
  by_cases c : j + 1 < r
  · rw [if_pos c] at e1
    have := un _ _ hj' c e1
    by_cases c' : j' + 1 < r
    · rw [if_pos c'] at e2
      have := un _ _ c' hj e2
      omega
    · rw [if_neg c'] at e2
      have := un _ _ (by omega) hj e2
      omega
  · rw [if_neg c] at e1
    have := un _ _ hj' (by omega) e1
    by_cases c' : j' + 1 < r
    · rw [if_pos c'] at e2
      have := un _ _ c' hj e2
      omega
    · omega
/-- each EDGE lies in two RINGS -/
theorem two_faces {A : Nat → V3} {m g F f j p q : Nat} {s : mS} {rf : Nat → Nat} {ρ : Nat → Nat → Nat} (hfull : full A m) (hdi : ∀ i j, i < m → j < m → i ≠ j → A i ≠ A j) (ht : tbF A m s g F rf ρ) (hall : ∀ n d, fc A m n d → ∃ j, j < F ∧ fN s (64 * g + j) = n ∧ fD s (64 * g + j) = d) (h : plc F rf ρ f j p q) : ∃ f' j', plc F rf ρ f' j' p q ∧ f' ≠ f := by
  obtain ⟨a1, a2, a3, a4⟩ := h
  obtain ⟨t1, -, -, t4, -, -, t7⟩ := ht f a1
  obtain ⟨n', d', g1, g2⟩ := pair hfull hdi t1 t7 a2
  obtain ⟨f', l', e1, e2⟩ := hall n' d' g1
  have r' := (ht f' l').2.2.2.2.2.2
  rw [e1, e2] at r'
  obtain ⟨j', j1, j2, j3⟩ := g2 _ _ r'
  refine ⟨f', j', ⟨l', j1, a3, ?_⟩, fun e => ?_⟩
  · rcases a4 with ⟨b1, b2⟩ | ⟨b1, b2⟩
    · exact .inr ⟨by rw [j2, b2], by rw [j3, b1]⟩
    · exact .inl ⟨by rw [j2, b2], by rw [j3, b1]⟩
  · subst e
    exact ring_no2 t4 (rgF_v t1 t7).2 a2 j1 j2 j3
/-- an EDGE's ends lie on the plane in whose RING it is -/
theorem plc_on {A : Nat → V3} {m g F f j p q : Nat} {s : mS} {rf : Nat → Nat} {ρ : Nat → Nat → Nat} (ht : tbF A m s g F rf ρ) (h : plc F rf ρ f j p q) : vd (fN s (64 * g + f)) (A p) = fD s (64 * g + f) ∧ vd (fN s (64 * g + f)) (A q) = fD s (64 * g + f) := by
  obtain ⟨a1, a2, a3, a4⟩ := h
  obtain ⟨t1, -, -, t4, -, -, t7⟩ := ht f a1
  have v := (rgF_v t1 t7).1
  have n : vd (fN s (64 * g + f)) (A (nxr (rf f) (ρ f) j)) = fD s (64 * g + f) := by
    unfold nxr
    by_cases c : j + 1 < rf f
    · rw [if_pos c]
      exact (v _ c).2.1
    · rw [if_neg c]
      exact (v 0 (by omega)).2.1
  have y := (v j a2).2.1
  rcases a4 with ⟨b1, b2⟩ | ⟨b1, b2⟩
  · rw [b1] at y
    rw [b2] at n
    exact ⟨y, n⟩
  · rw [b1] at y
    rw [b2] at n
    exact ⟨n, y⟩
theorem planes_off {A : Nat → V3} {m p : Nat} {n1 n2 : V3} {d1 d2 : Int} (hfull : full A m) (f1 : fc A m n1 d1) (f2 : fc A m n2 d2) (p1 : vd n1 (A p) = d1) (p2 : vd n2 (A p) = d2) (ne : n1 ≠ n2) : vx n1 n2 ≠ v0 := fun z => by
  obtain ⟨x, hx⟩ := f1.2.2
  obtain ⟨y, hy⟩ := f2.2.2
  rcases prim_eq hx hy z with e | e
  · exact ne e.symm
  · obtain ⟨i, hi, no⟩ := hfull n1 d1 f1.2.2
    have h1 := f1.1 i hi
    have h2 := f2.1 i hi
    rw [e, neg_vd] at h2 p2
    omega
/-- what the reference knows of a slot of KIND 4 -/
theorem kn_WB {s s' : mS} {i m F E : Nat} (ok : okP (hp s') m 4) (K : knO s s' i 0 m 4 F E) : ∃ pe qe fe ge, WB (hp s') m F E (fN s') (fD s') pe qe fe ge ∧ ∀ e, e < E → s'.2.2.1 35 e = Int32.ofNat (pe e) ∧ s'.2.2.1 36 e = Int32.ofNat (qe e) ∧ s'.2.2.1 37 e = Int32.ofNat (fe e) ∧ s'.2.2.1 38 e = Int32.ofNat (ge e) := by
  obtain ⟨k1, k2, k3, k4, k5, k6, k7, k8, k9, k10, k11, k12, k13, k14, k15, k16, k17⟩ := K
  have comp := k12 (by omega)
  have hfull : full (hp s') m := by
    rcases ok.2.2.2.2 with ⟨w1, w2⟩ | ⟨w1, w2, -⟩ | ⟨w1, w2, w3⟩
    · omega
    · omega
    · exact w3
  have hdi := okP_hdi ok
  obtain ⟨rf, ρ, ht, -, -, pe, qe, fe, ge, hrow, -, hall⟩ := k16 (by omega)
  have z0 : ∀ f, 64 * 0 + f = f := fun f => by omega
  have z8 : ∀ e, 80 * 0 + e = e := fun e => by omega
  have hf : ∀ f, f < F → fc (hp s') m (fN s' f) (fD s' f) := fun f hf => by
    have := (ht f hf).1
    rw [z0] at this
    exact this
  have dif : ∀ f g, f < F → g < F → f ≠ g → fN s' f ≠ fN s' g := fun f g h1 h2 fg e => by
    have f1 := hf f h1
    have f2 := hf g h2
    rw [e] at f1
    have ed := fc_d f1 f2
    rcases Nat.lt_or_gt_of_ne fg with z | z
    · have := tbO_ne k8 f g z h2
      rw [z0, z0] at this
      exact this ⟨e.symm, ed.symm⟩
    · have := tbO_ne k8 g f z h1
      rw [z0, z0] at this
      exact this ⟨e, ed⟩
  refine ⟨pe, qe, fe, ge, ⟨⟨ok, hfull⟩, hf, fun n d h => ?_, fun e he => ?_, fun w a p q hpq hq ep eq lt => ?_⟩, fun e he => ?_⟩
  · obtain ⟨f, h1, h2, h3⟩ := comp n d h
    rw [z0] at h2 h3
    exact ⟨f, h1, h2, h3⟩
  · obtain ⟨-, -, -, ⟨j, hj, -⟩, ⟨j', hj', -⟩, le⟩ := hrow e he
    obtain ⟨p, q, -, -, -, q4⟩ := k17 e he
    have on1 := plc_on ht hj
    have on2 := plc_on ht hj'
    rw [z0] at on1 on2
    obtain ⟨f', j2, hp2, ne⟩ := two_faces hfull hdi ht comp hj
    have l2 := le f' ⟨j2, hp2, .inl hp2.1⟩
    have fg : fe e ≠ ge e := by omega
    have rv := (rgF_v (ht _ hj.1).1 (ht _ hj.1).2.2.2.2.2.2).1
    have qm : qe e < m := by
      obtain ⟨b1, b2, b3, b4⟩ := hj
      have t4 := (ht _ b1).2.2.2.1
      have n : nxr (rf (fe e)) (ρ (fe e)) j < m := by
        unfold nxr
        by_cases c : j + 1 < rf (fe e)
        · rw [if_pos c]
          exact (rv _ c).1
        · rw [if_neg c]
          exact (rv 0 (by omega)).1
      have y := (rv j b2).1
      rcases b4 with b4 | b4
      · omega
      · omega
    have d := dif _ _ hj.1 hj'.1 fg
    exact ⟨⟨hj.2.2.1, qm, hj.1, hj'.1⟩, planes_off hfull (hf _ hj.1) (hf _ hj'.1) on1.1 on2.1 d, d, on1, on2⟩
  · obtain ⟨f, j, hp'⟩ := ex_edge (w := w) (a := a) ok (by omega) ht comp (by omega : p < m) hq hpq ep eq lt
    obtain ⟨e, e1, e2, e3⟩ := hall f p q ⟨j, hp', .inl hp'.1⟩
    exact ⟨e, e1, e2, e3⟩
  · have r := (hrow e he).1
    rw [z8] at r
    exact ⟨congrArg (fun t : Int32 × Int32 × Int32 × Int32 => t.1) r, congrArg (fun t : Int32 × Int32 × Int32 × Int32 => t.2.1) r, congrArg (fun t : Int32 × Int32 × Int32 × Int32 => t.2.2.1) r, congrArg (fun t : Int32 × Int32 × Int32 × Int32 => t.2.2.2) r⟩
