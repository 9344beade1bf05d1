/-- the sum of two points -/
def va (a b : V3) : V3 := (a.1 + b.1, a.2.1 + b.2.1, a.2.2 + b.2.2)
theorem vd_va (n a b : V3) : vd n (va a b) = vd n a + vd n b := rw_1 _ _ _ _ _ _ _ _ _
/-- two CORNERS that alone are farthest along w lie side by side in a RING -/
theorem ex_edge {A : Nat → V3} {m k g F p q : Nat} {s : mS} {rf : Nat → Nat} {ρf : Nat → Nat → Nat} {w : V3} {a : Int} (ok : okP A m k) (k3 : 3 ≤ k) (ht : tbF A m s g F rf ρf) (hall : ∀ n e, fc A m n e → ∃ j, j < F ∧ fN s (64 * g + j) = n ∧ fD s (64 * g + j) = e) (hp0 : p < m) (hq : q < m) (hpq : p < q) (ep : vd w (A p) = a) (eq : vd w (A q) = a) (lt : ∀ t, t < m → t ≠ p → t ≠ q → vd w (A t) < a) : ∃ f j, plc F rf ρf f j p q := by
  have hdi := okP_hdi ok
  have ne : vs (A q) (A p) ≠ v0 := vs_ne (hdi q p hq hp0 (by omega))
  have h0 : ∀ t, t < m → vd w (A t) ≤ vd w (A p) := by
    intro t ht'
    by_cases c1 : t = p
    · rw [c1]
      exact Int.le_refl _
    · by_cases c2 : t = q
      · rw [c2]
        omega
      · have := lt t ht' c1 c2
        omega
  have m3 : 3 ≤ m := by
    rcases ok.2.2.2.2 with ⟨q1, q2⟩ | ⟨q1, q2, -⟩ | ⟨q1, q2, -⟩ <;> omega
  have w0 : w ≠ v0 := by
    intro e
    have : ∃ t, t < m ∧ t ≠ p ∧ t ≠ q := by
      by_cases c0 : p = 0
      · by_cases c1 : q = 1
        · exact ⟨2, by omega, by omega, by omega⟩
        · exact ⟨1, by omega, by omega, by omega⟩
      · exact ⟨0, by omega, by omega, by omega⟩
    obtain ⟨t, t1, t2, t3⟩ := this
    have := lt t t1 t2 t3
    rw [e, vd_0] at this
    rw [e, vd_0] at ep
    omega
  -- a bounding plane with both
  have hF : ∃ n d, fc A m n d ∧ vd n (A p) = d ∧ vd n (A q) = d := by
    rcases ok.2.2.2.2 with ⟨q1, q2⟩ | ⟨q1, q2, v, d, hx, hpl⟩ | ⟨q1, q2, q3⟩
    · omega
    · exact ⟨v, d, ⟨fun i hi => by rw [hpl i hi]; exact Int.le_refl _, ⟨0, 1, 2, by omega, by omega, by omega, hpl 0 (by omega), hpl 1 (by omega), hpl 2 (by omega), ex_line ok.2.2.1 ok.2.2.2.1 (by omega) (by omega) (by omega)⟩, hx⟩, hpl p hp0, hpl q hq⟩
    · exact sup_face q3 w0 hp0 hq h0 (by omega) ne
  obtain ⟨n, d, hf, np, nq⟩ := hF
  obtain ⟨f, f1, f2, f3⟩ := hall n d hf
  obtain ⟨t1, -, -, t4, -, t6, t7⟩ := ht f f1
  rw [f2, f3] at t1 t7
  have nn := prim_pos hf.2.2
  have ee := vd_pos ne
  have n_e : vd n (vs (A q) (A p)) = 0 := by
    rw [vd_vs]
    omega
  have e_n : vd (vs (A q) (A p)) n = 0 := by
    rw [vd_comm]
    exact n_e
  have e_w : vd (vs (A q) (A p)) w = 0 := by
    rw [vd_comm, vd_vs]
    omega
  have key : ∀ t, t < m → vd n (A t) = d → br n (A p) (A q) (A t) * dt n (vs (A q) (A p)) w = vd n n * (vd (vs (A q) (A p)) (vs (A q) (A p)) * vd (vs (A t) (A p)) w) := by
    intro t ht' et
    have id := dt_mul n (vs (A q) (A p)) (vs (A t) (A p)) n (vs (A q) (A p)) w
    have e3 : dt n (vs (A q) (A p)) (vs (A t) (A p)) = br n (A p) (A q) (A t) := (tri n (vs (A q) (A p)) (vs (A t) (A p))).symm
    have w1 : vd (vs (A t) (A p)) n = 0 := by
      rw [vd_comm, vd_vs]
      omega
    rw [e3, w1, e_w, n_e, e_n] at id
    simp only [Int.zero_mul, Int.mul_zero, Int.sub_zero, Int.add_zero, Int.sub_self] at id
    exact id
  have neg : ∀ t, t < m → vd n (A t) = d → t ≠ p → t ≠ q → br n (A p) (A q) (A t) * dt n (vs (A q) (A p)) w < 0 := by
    intro t ht' et tp tq
    rw [key t ht' et]
    refine Int.mul_neg_of_pos_of_neg nn (Int.mul_neg_of_pos_of_neg ee ?_)
    rw [vd_comm, vd_vs]
    have := lt t ht' tp tq
    omega
  -- the list of the plane's points
  obtain ⟨c, l, γ, hc, hl, hlt, hall', r1, rc, g0, hg, gd, gx, gr⟩ := t7
  have t7' : rgF A m n d (rf f) (ρf f) := ⟨c, l, γ, hc, hl, hlt, hall', r1, rc, g0, hg, gd, gx, gr⟩
  obtain ⟨ip, ip1, ip2⟩ := hall' p hp0 np
  obtain ⟨iq, iq1, iq2⟩ := hall' q hq nq
  have ipq : ip ≠ iq := by
    intro e
    rw [e] at ip2
    omega
  have plQ : ∀ t, t < c → vd n (A (l t)) = d := fun t h => (hl t h).2
  have diQ : ∀ i j, i < c → j < c → i ≠ j → A (l i) ≠ A (l j) := by
    intro i j hi hj hij
    refine hdi _ _ (hl i hi).1 (hl j hj).1 (fun e => hij (l_inj hlt hi hj e))
  have exQ : ∀ t, t < c → ex (fun k => A (l k)) c t := by
    intro t h
    obtain ⟨u, hu⟩ := ok.2.2.2.1 (l t) (hl t h).1
    refine ⟨u, fun t' h' hne => hu (l t') (hl t' h').1 (fun e => hne (l_inj hlt h' h e))⟩
  have nxq : ∀ j, j < rf f → nxr (rf f) (ρf f) j = l (γ (j + 1)) := by
    intro j hj
    unfold nxr
    by_cases w : j + 1 < rf f
    · rw [if_pos w, (hg (j + 1) w).1]
    · have : j + 1 = rf f := by omega
      rw [if_neg w, this, gr, (hg 0 (by omega)).1, g0]
  have gin : ∀ j, j < rf f → γ (j + 1) < c ∧ γ (j + 1) ≠ γ j := by
    intro j hj
    by_cases w : j + 1 < rf f
    · exact ⟨(hg (j + 1) w).2.1, fun e => gd j (j + 1) (by omega) w e.symm⟩
    · have e : j + 1 = rf f := by omega
      rw [e, gr]
      refine ⟨by omega, fun q => ?_⟩
      rw [← g0] at q
      exact gd 0 j (by omega) hj q
  have fin : ∀ x y : Nat, x < c → y < c → x ≠ y → (∀ t, t < c → t ≠ x → t ≠ y → 0 < br n (A (l x)) (A (l y)) (A (l t))) → ∃ j, j < rf f ∧ ρf f j = l x ∧ nxr (rf f) (ρf f) j = l y := by
    intro x y hx hy hxy pos
    obtain ⟨j, j1, j2⟩ := ring_ex hf hdi t7' (hl x hx).1 (hl x hx).2 (ok.2.2.2.1 _ (hl x hx).1)
    have gj : γ j = x := l_inj hlt (hg j j1).2.1 hx (by rw [← (hg j j1).1, j2])
    have n1 : nx1 n (fun k => A (l k)) x y (fun k => k < c) := by
      intro t ht' htx
      by_cases ty : t = y
      · rw [ty]
        have z : br n (A (l x)) (A (l y)) (A (l y)) = 0 := by
          unfold br
          rw [vx_self, vd_comm, vd_0]
        exact ⟨by show 0 ≤ br n (A (l x)) (A (l y)) (A (l y)); omega, fun _ => Int.le_refl _⟩
      · have := pos t ht' htx ty
        exact ⟨by show 0 ≤ br n (A (l x)) (A (l y)) (A (l t)); omega, fun z => by
          have z' : br n (A (l x)) (A (l y)) (A (l t)) = 0 := z
          omega⟩
    have n2 := gx j j1
    rw [gj] at n2
    obtain ⟨gi1, gi2⟩ := gin j j1
    rw [gj] at gi2
    have := nx_uniq (Q := fun k => A (l k)) nn plQ diQ hx hy gi1 (fun e => hxy e.symm) gi2 (exQ x hx) n1 n2
    refine ⟨j, j1, j2, ?_⟩
    rw [nxq j j1, ← this]
  by_cases sg : dt n (vs (A q) (A p)) w < 0
  · obtain ⟨j, j1, j2, j3⟩ := fin ip iq ip1 iq1 ipq (fun t h1 h2 h3 => by
      rw [ip2, iq2]
      have hn := neg (l t) (hl t h1).1 (hl t h1).2 (fun e => h2 (l_inj hlt h1 ip1 (by rw [e, ip2]))) (fun e => h3 (l_inj hlt h1 iq1 (by rw [e, iq2])))
      by_cases c0 : 0 < br n (A p) (A q) (A (l t))
      · exact c0
      · exfalso
        have := Int.mul_nonneg_of_nonpos_of_nonpos (by omega : br n (A p) (A q) (A (l t)) ≤ 0) (by omega : dt n (vs (A q) (A p)) w ≤ 0)
        omega)
    exact ⟨f, j, f1, j1, hpq, .inl ⟨by rw [j2, ip2], by rw [j3, iq2]⟩⟩
  · obtain ⟨j, j1, j2, j3⟩ := fin iq ip iq1 ip1 (fun e => ipq e.symm) (fun t h1 h2 h3 => by
      rw [ip2, iq2]
      have hn := neg (l t) (hl t h1).1 (hl t h1).2 (fun e => h3 (l_inj hlt h1 ip1 (by rw [e, ip2]))) (fun e => h2 (l_inj hlt h1 iq1 (by rw [e, iq2])))
      have sw : br n (A q) (A p) (A (l t)) = - br n (A p) (A q) (A (l t)) := by
        rw [br_cyc, br_sw, br_cyc, br_cyc]
      by_cases c0 : 0 < br n (A q) (A p) (A (l t))
      · exact c0
      · exfalso
        have := Int.mul_nonneg (by omega : 0 ≤ br n (A p) (A q) (A (l t))) (by omega : 0 ≤ dt n (vs (A q) (A p)) w)
        omega)
    exact ⟨f, j, f1, j1, hpq, .inr ⟨by rw [j2, iq2], by rw [j3, ip2]⟩⟩
/-- the pair stands in the table of EDGES -/
def inE (s : mS) (g E p q : Nat) : Prop := ∃ e, e < E ∧ s.2.2.1 35 (80 * g + e) = Int32.ofNat p ∧ s.2.2.1 36 (80 * g + e) = Int32.ofNat q
/-- of the points farthest along w: three off a line, or two that are an EDGE, or one -/
theorem face_of {A : Nat → V3} {m k : Nat} (ok : okP A m k) {w : V3} {a : Int} (ha : ∀ t, t < m → vd w (A t) ≤ a) (hx : ∃ x, vd w x = 1) : fc A m w a ∨ (∃ p q, p < q ∧ q < m ∧ vd w (A p) = a ∧ vd w (A q) = a ∧ ∀ t, t < m → t ≠ p → t ≠ q → vd w (A t) < a) ∨ ∀ i j, i < m → j < m → vd w (A i) = a → vd w (A j) = a → i = j := by
  by_cases c1 : ∀ i j, i < m → j < m → vd w (A i) = a → vd w (A j) = a → i = j
  · exact .inr (.inr c1)
  · have h2 : ∃ p q, p < q ∧ q < m ∧ vd w (A p) = a ∧ vd w (A q) = a := by
      by_cases c : ∃ p q, p < q ∧ q < m ∧ vd w (A p) = a ∧ vd w (A q) = a
      · exact c
      · exfalso
        refine c1 (fun i j hi hj ei ej => ?_)
        by_cases w1 : i = j
        · exact w1
        · exfalso
          by_cases w2 : i < j
          · exact c ⟨i, j, w2, hj, ei, ej⟩
          · exact c ⟨j, i, by omega, hi, ej, ei⟩
    obtain ⟨p, q, hpq, hq, ep, eq⟩ := h2
    by_cases c2 : ∃ t, t < m ∧ t ≠ p ∧ t ≠ q ∧ vd w (A t) = a
    · obtain ⟨t, t1, t2, t3, et⟩ := c2
      left
      have three : ∀ x y z, x < y → y < z → z < m → vd w (A x) = a → vd w (A y) = a → vd w (A z) = a → fc A m w a := fun x y z h1 h2 h3 e1 e2 e3 => ⟨ha, ⟨x, y, z, by omega, by omega, h3, e1, e2, e3, ex_line ok.2.2.1 ok.2.2.2.1 h1 h2 h3⟩, hx⟩
      rcases (by omega : t < p ∨ p < t ∧ t < q ∨ q < t) with h | h | h
      · exact three t p q h hpq hq et ep eq
      · exact three p t q h.1 h.2 hq ep et eq
      · exact three p q t hpq h t1 ep eq et
    · right
      left
      refine ⟨p, q, hpq, hq, ep, eq, fun t t1 t2 t3 => ?_⟩
      have := ha t t1
      by_cases e : vd w (A t) = a
      · exact absurd ⟨t, t1, t2, t3, e⟩ c2
      · omega
theorem rz_1 (a b c d : V3) : vs (va a b) (va c d) = va (vs a c) (vs b d) := by
  refine v3_ext ?_ ?_ ?_
  · show a.1 + b.1 - (c.1 + d.1) = a.1 - c.1 + (b.1 - d.1)
    omega
  · show a.2.1 + b.2.1 - (c.2.1 + d.2.1) = a.2.1 - c.2.1 + (b.2.1 - d.2.1)
    omega
  · show a.2.2 + b.2.2 - (c.2.2 + d.2.2) = a.2.2 - c.2.2 + (b.2.2 - d.2.2)
    omega
theorem va_0 (b : V3) : va v0 b = b := by
  refine v3_ext ?_ ?_ ?_
  · show 0 + b.1 = b.1
    omega
  · show 0 + b.2.1 = b.2.1
    omega
  · show 0 + b.2.2 = b.2.2
    omega
theorem va_0r (b : V3) : va b v0 = b := by
  refine v3_ext ?_ ?_ ?_
  · show b.1 + 0 = b.1
    omega
  · show b.2.1 + 0 = b.2.1
    omega
  · show b.2.2 + 0 = b.2.2
    omega
/-- the ways whose FACES of a sum can be: a FACE of one, or across an EDGE of each -/
theorem mink {A B P : Nat → V3} {m0 m1 n ka kb : Nat} {w : V3} {D : Int} (oka : okP A m0 ka) (okb : okP B m1 kb) (hP : srz P n (fun x => ∃ i k, i < m0 ∧ k < m1 ∧ x = va (A i) (B k))) (hf : fc P n w D) : ∃ a b, a + b = D ∧ (∀ t, t < m0 → vd w (A t) ≤ a) ∧ (∀ t, t < m1 → vd w (B t) ≤ b) ∧ (fc A m0 w a ∨ fc B m1 w b ∨ ∃ p q r t, p < q ∧ q < m0 ∧ r < t ∧ t < m1 ∧ vd w (A p) = a ∧ vd w (A q) = a ∧ (∀ x, x < m0 → x ≠ p → x ≠ q → vd w (A x) < a) ∧ vd w (B r) = b ∧ vd w (B t) = b ∧ (∀ x, x < m1 → x ≠ r → x ≠ t → vd w (B x) < b) ∧ vx (vs (A q) (A p)) (vs (B t) (B r)) ≠ v0) := by
  obtain ⟨hs, ⟨x1, x2, x3, h1, h2, h3, e1, e2, e3, hne⟩, hx⟩ := hf
  obtain ⟨i1, k1, i1m, k1m, p1⟩ := hP.2.1 x1 h1
  obtain ⟨i2, k2, i2m, k2m, p2⟩ := hP.2.1 x2 h2
  obtain ⟨i3, k3, i3m, k3m, p3⟩ := hP.2.1 x3 h3
  obtain ⟨ia, ia1, ia2⟩ := max_at (fun i => vd w (A i)) m0 (by omega)
  obtain ⟨ib, ib1, ib2⟩ := max_at (fun i => vd w (B i)) m1 (by omega)
  have ab : vd w (A ia) + vd w (B ib) = D := by
    obtain ⟨t, t1, t2⟩ := hP.2.2 (va (A ia) (B ib)) ⟨ia, ib, ia1, ib1, rfl⟩
    have l1 := hs t t1
    rw [t2, vd_va] at l1
    rw [p1, vd_va] at e1
    have l2 := ia2 i1 i1m
    have l3 := ib2 k1 k1m
    omega
  have mx : ∀ i k, i < m0 → k < m1 → vd w (va (A i) (B k)) = D → vd w (A i) = vd w (A ia) ∧ vd w (B k) = vd w (B ib) := by
    intro i k hi hk e
    rw [vd_va] at e
    have l2 := ia2 i hi
    have l3 := ib2 k hk
    omega
  have q1 := mx i1 k1 i1m k1m (by rw [← p1]; exact e1)
  have q2 := mx i2 k2 i2m k2m (by rw [← p2]; exact e2)
  have q3 := mx i3 k3 i3m k3m (by rw [← p3]; exact e3)
  rw [p1, p2, p3, rz_1, rz_1] at hne
  refine ⟨vd w (A ia), vd w (B ib), ab, ia2, ib2, ?_⟩
  rcases face_of oka ia2 hx with fa | ⟨p, q, hpq, hq, ep, eq, la⟩ | one
  · exact .inl fa
  · rcases face_of okb ib2 hx with fb | ⟨r, t, hrt, ht, er, et, lb⟩ | one
    · exact .inr (.inl fb)
    · refine .inr (.inr ⟨p, q, r, t, hpq, hq, hrt, ht, ep, eq, la, er, et, lb, fun z => ?_⟩)
      -- both along one line: so is the sum
      have ina : ∀ i, i < m0 → vd w (A i) = vd w (A ia) → i = p ∨ i = q := by
        intro i hi e
        by_cases c1 : i = p
        · exact .inl c1
        · by_cases c2 : i = q
          · exact .inr c2
          · have := la i hi c1 c2
            omega
      have inb : ∀ i, i < m1 → vd w (B i) = vd w (B ib) → i = r ∨ i = t := by
        intro i hi e
        by_cases c1 : i = r
        · exact .inl c1
        · by_cases c2 : i = t
          · exact .inr c2
          · have := lb i hi c1 c2
            omega
      have ne : vs (A q) (A p) ≠ v0 := vs_ne (okP_hdi oka q p hq (by omega) (by omega))
      have pa : ∀ i j, (i = p ∨ i = q) → (j = p ∨ j = q) → vx (vs (A i) (A j)) (vs (A q) (A p)) = v0 := by
        intro i j hi hj
        have l0 : vx (vs (A p) (A p)) (vs (A q) (A p)) = v0 := by rw [vs_self, vx_0]
        have l1 : vx (vs (A q) (A p)) (vs (A q) (A p)) = v0 := vx_self _
        have lx : ∀ i, (i = p ∨ i = q) → vx (vs (A i) (A p)) (vs (A q) (A p)) = v0 := by
          intro i hi
          rcases hi with e | e
          · rw [e]
            exact l0
          · rw [e]
            exact l1
        have := vx_vs_l (lx i hi) (lx j hj)
        rw [vs_vs] at this
        exact this
      have zb : vx (vs (B t) (B r)) (vs (A q) (A p)) = v0 := vx_anti0 z
      have pb : ∀ i j, (i = r ∨ i = t) → (j = r ∨ j = t) → vx (vs (B i) (B j)) (vs (A q) (A p)) = v0 := by
        intro i j hi hj
        have l0 : vx (vs (B r) (B r)) (vs (A q) (A p)) = v0 := by rw [vs_self, vx_0]
        have lx : ∀ i, (i = r ∨ i = t) → vx (vs (B i) (B r)) (vs (A q) (A p)) = v0 := by
          intro i hi
          rcases hi with e | e
          · rw [e]
            exact l0
          · rw [e]
            exact zb
        have := vx_vs_l (lx i hi) (lx j hj)
        rw [vs_vs] at this
        exact this
      have vxa : ∀ x y e : V3, vx x e = v0 → vx y e = v0 → vx (va x y) e = v0 := by
        intro x y e hx hy
        have e1 : va x y = vs x (vs v0 y) := by
          refine v3_ext ?_ ?_ ?_
          · show x.1 + y.1 = x.1 - (0 - y.1)
            omega
          · show x.2.1 + y.2.1 = x.2.1 - (0 - y.2.1)
            omega
          · show x.2.2 + y.2.2 = x.2.2 - (0 - y.2.2)
            omega
        rw [e1]
        exact vx_vs_l hx (vx_vs_l (vx_0 e) hy)
      exact hne (along_along ne (vxa _ _ _ (pa i2 i1 (ina _ i2m q2.1) (ina _ i1m q1.1)) (pb k2 k1 (inb _ k2m q2.2) (inb _ k1m q1.2))) (vxa _ _ _ (pa i3 i1 (ina _ i3m q3.1) (ina _ i1m q1.1)) (pb k3 k1 (inb _ k3m q3.2) (inb _ k1m q1.2))))
    · exfalso
      -- B's point is one: A's part has three off a line, or is a line
      have ek2 : k2 = k1 := one k2 k1 k2m k1m q2.2 q1.2
      have ek3 : k3 = k1 := one k3 k1 k3m k1m q3.2 q1.2
      rw [ek2, ek3, vs_self, va_0r, va_0r] at hne
      have ina : ∀ i, i < m0 → vd w (A i) = vd w (A ia) → i = p ∨ i = q := by
        intro i hi e
        by_cases c1 : i = p
        · exact .inl c1
        · by_cases c2 : i = q
          · exact .inr c2
          · have := la i hi c1 c2
            omega
      have a1 := ina _ i1m q1.1
      have a2 := ina _ i2m q2.1
      have a3 := ina _ i3m q3.1
      have : i2 = i1 ∨ i3 = i1 ∨ i2 = i3 := by omega
      rcases this with e | e | e
      · rw [e, vs_self, vx_0] at hne
        exact hne rfl
      · rw [e, vs_self] at hne
        exact hne (vx_anti0 (vx_0 _))
      · rw [e, vx_self] at hne
        exact hne rfl
  · rcases face_of okb ib2 hx with fb | ⟨r, t, hrt, ht, er, et, lb⟩ | one'
    · exact .inr (.inl fb)
    · exfalso
      have ek2 : i2 = i1 := one i2 i1 i2m i1m q2.1 q1.1
      have ek3 : i3 = i1 := one i3 i1 i3m i1m q3.1 q1.1
      rw [ek2, ek3, vs_self, va_0, va_0] at hne
      have inb : ∀ i, i < m1 → vd w (B i) = vd w (B ib) → i = r ∨ i = t := by
        intro i hi e
        by_cases c1 : i = r
        · exact .inl c1
        · by_cases c2 : i = t
          · exact .inr c2
          · have := lb i hi c1 c2
            omega
      have a1 := inb _ k1m q1.2
      have a2 := inb _ k2m q2.2
      have a3 := inb _ k3m q3.2
      have : k2 = k1 ∨ k3 = k1 ∨ k2 = k3 := by omega
      rcases this with e | e | e
      · rw [e, vs_self, vx_0] at hne
        exact hne rfl
      · rw [e, vs_self] at hne
        exact hne (vx_anti0 (vx_0 _))
      · rw [e, vx_self] at hne
        exact hne rfl
    · exfalso
      have e2 : i2 = i1 := one i2 i1 i2m i1m q2.1 q1.1
      have e4 : k2 = k1 := one' k2 k1 k2m k1m q2.2 q1.2
      rw [e2, e4, vs_self, vs_self, va_0, vx_0] at hne
      exact hne rfl
