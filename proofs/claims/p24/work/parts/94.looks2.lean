/-- too many, or one that is no POINT -/
def noX (P : Nat → V3) (n : Nat) : Prop := ∀ m c, exL P n m c → ¬ (m ≤ 24 ∧ ∀ t, t < m → bd3 (P (c t)) 100)
/-- a point that is farthest along some way -/
def exS (P : Nat → V3) (n : Nat) (x : V3) : Prop := ∃ v, v < n ∧ ex P n v ∧ x = P v
theorem bad_no {P : Nat → V3} {n : Nat} {W : V3 → Prop} {p : V3} (hW : ∀ x, W x → exS P n x) (hp0 : exS P n p) (hb : bad W p) : noX P n := by
  intro m c hL ⟨m24, bd⟩
  obtain ⟨v, v1, v2, v3⟩ := hp0
  obtain ⟨jp, jp1, jp2⟩ := hL.2.2 v v1 v2
  rcases hb with hb | ⟨f, f1, f2, f3⟩
  · have := bd jp jp1
    rw [jp2, ← v3] at this
    exact hb this
  · have ch : ∀ j, ∃ t, j < 25 → t < m ∧ P (c t) = if j < 24 then f j else p := by
      intro j
      by_cases w : j < 24
      · obtain ⟨u, u1, u2, u3⟩ := hW (f j) (f1 j w)
        obtain ⟨t, t1, t2⟩ := hL.2.2 u u1 u2
        exact ⟨t, fun _ => ⟨t1, by rw [t2, if_pos w, u3]⟩⟩
      · exact ⟨jp, fun _ => ⟨jp1, by rw [jp2, if_neg w, v3]⟩⟩
    have := pigeon m 25 (fun j => (ch j).choose) (fun k hk => ((ch k).choose_spec hk).1) (fun a b hab hb' e => by
      have e1 := ((ch a).choose_spec (by omega)).2
      have e2 := ((ch b).choose_spec hb').2
      have e' : (ch a).choose = (ch b).choose := e
      have e3 : (if a < 24 then f a else p) = (if b < 24 then f b else p) := by
        rw [← e1, ← e2]
        exact congrArg (fun t => P (c t)) e'
      rw [if_pos (by omega)] at e3
      by_cases w : b < 24
      · rw [if_pos w] at e3
        exact f2 a b hab w e3
      · rw [if_neg w] at e3
        exact f3 a (by omega) e3)
    omega
/-- the sums of the owned points -/
def smZ (s : mS) (m0 m1 : Nat) : V3 → Prop := fun x => ∃ i k, i < m0 ∧ k < m1 ∧ x = va (oP s i) (oP s (24 + k))
/-- what stands while FACES of the sum are looked for: the planes across Cov are done -/
def lkJ (s0 : mS) (P : Nat → V3) (n : Nat) (Cov : V3 → Prop) (s : mS) : Prop := fr [15, 16, 17, 18, 20, 21, 22, 23, 24, 25, 26, 54, 55, 56, 57, 58] s0 s ∧ (s.1 54 = 1 ∧ noX P n ∨ ∃ W, fdZ s W ∧ (∀ x, W x → exS P n x) ∧ ∀ w, Cov w → ∀ D, fc P n w D → ∀ v, v < n → vd w (P v) = D → ex P n v → W (P v))
theorem fdZ_fr {L : List Nat} {s s' : mS} {W : V3 → Prop} (h : fdZ s W) (f : fr L s s') (hL : ∀ k, k ∈ L → k < 54 ∨ 58 < k) : fdZ s' W := by
  have n : ∀ k, 54 ≤ k → k ≤ 58 → ¬ k ∈ L := fun k h1 h2 q => by
    have := hL k q
    omega
  have e : ∀ t, fdP s' t = fdP s t := by
    intro t
    unfold fdP
    rw [f.G (n 56 (by omega) (by omega)), f.G (n 57 (by omega) (by omega)), f.G (n 58 (by omega) (by omega))]
  obtain ⟨h1, c, h2, h3, h4, h5, h6⟩ := h
  refine ⟨by rw [f.I (n 54 (by omega) (by omega))]; exact h1, c, h2, by rw [f.I (n 55 (by omega) (by omega))]; exact h3, fun j hj => by rw [e]; exact h4 j hj, fun x hx => ?_, fun i j hij hj => by rw [e, e]; exact h6 i j hij hj⟩
  obtain ⟨j, j1, j2⟩ := h5 x hx
  exact ⟨j, j1, by rw [e]; exact j2⟩
/-- a way has one form without a common divisor -/
theorem prim_one {w w' : V3} {G G' : Int} (h : ∃ x, vd w x = 1) (h' : ∃ x, vd w' x = 1) (hG : 0 < G) (hG' : 0 < G') (e : vl G w 0 v0 = vl G' w' 0 v0) : w' = w := by
  obtain ⟨x, hx⟩ := h
  obtain ⟨y, hy⟩ := h'
  have par : vx w w' = v0 := by
    have e1 : G * w.1 = G' * w'.1 := by
      have : G * w.1 + 0 * 0 = G' * w'.1 + 0 * 0 := congrArg (fun v : V3 => v.1) e
      omega
    have e2 : G * w.2.1 = G' * w'.2.1 := by
      have : G * w.2.1 + 0 * 0 = G' * w'.2.1 + 0 * 0 := congrArg (fun v : V3 => v.2.1) e
      omega
    have e3 : G * w.2.2 = G' * w'.2.2 := by
      have : G * w.2.2 + 0 * 0 = G' * w'.2.2 + 0 * 0 := congrArg (fun v : V3 => v.2.2) e
      omega
    have k : ∀ a b a' b' : Int, G * a = G' * a' → G * b = G' * b' → a * b' - b * a' = 0 := by
      intro a b a' b' h1 h2
      have h3 : G * G' * (a * b' - b * a') = 0 := by
        have h4 : G * G' * (a * b' - b * a') = (G * a) * (G' * b') - (G * b) * (G' * a') := by grind
        rw [h4, h1, h2]
        grind
      exact z_of_mul (Int.mul_pos hG hG') h3
    exact v3_ext (k _ _ _ _ e2 e3) (k _ _ _ _ e3 e1) (k _ _ _ _ e1 e2)
  rcases prim_eq hx hy par with q | q
  · exact q
  · exfalso
    have e1 : vd (vl G w 0 v0) x = vd (vl G' w' 0 v0) x := by rw [e]
    rw [vd_vl_l, vd_vl_l, q, neg_vd, hx] at e1
    omega
theorem vl_1 (w : V3) : vl 1 w 0 v0 = w := by
  refine v3_ext ?_ ?_ ?_
  · show 1 * w.1 + 0 * 0 = w.1
    omega
  · show 1 * w.2.1 + 0 * 0 = w.2.1
    omega
  · show 1 * w.2.2 + 0 * 0 = w.2.2
    omega
theorem n3_idx {s : mS} {n : Nat} {t1 t2 t3 : Nat} (h1 : t1 < n) (h2 : t2 < n) (h3 : t3 < n) (hne : vx (vs (hp s t2) (hp s t1)) (vs (hp s t3) (hp s t1)) ≠ v0) : 3 ≤ n := by
  have a : t1 ≠ t2 := by
    intro e
    rw [e, vs_self, vx_0] at hne
    exact hne rfl
  have b : t1 ≠ t3 := by
    intro e
    rw [e, vs_self] at hne
    exact hne (vx_anti0 (vx_0 _))
  have c : t2 ≠ t3 := by
    intro e
    rw [e, vx_self] at hne
    exact hne rfl
  omega
theorem x_looks {N m0 m1 n : Nat} {P : Nat → V3} {s0 s : mS} {Cov : V3 → Prop} (hN : 1000000 < N) (hm0 : m0 ≤ 24) (hm1 : m1 ≤ 24) (h0 : 1 ≤ m0) (h1 : 1 ≤ m1) (O0 : owS s0 0 m0) (O1 : owS s0 1 m1) (hP : srz P n (smZ s0 m0 m1)) (J : lkJ s0 P n Cov s) (bn : bd3 (nv s) 320000) : ∃ s', mxX7_looks N s = some s' ∧ lkJ s0 P n (fun w => Cov w ∨ (∃ x, vd w x = 1) ∧ ∃ G, 0 < G ∧ nv s = vl G w 0 v0) s' ∧ bd3 (nv s') 320000 ∧ (s'.1 54 = 0 → nv s ≠ v0 → (∃ x, vd (nv s') x = 1) ∧ ∃ G, 0 < G ∧ nv s = vl G (nv s') 0 v0) := by
  unfold mxX7_looks
  by_cases fl : nv s = v0
  · rw [(x_flat (N := N)).1 fl, Option.bind_some]
    dsimp only
    rw [if_neg (by decide)]
    refine ⟨s, rfl, ⟨J.1, ?_⟩, bn, fun _ h => absurd fl h⟩
    rcases J.2 with t | ⟨W, w1, w2, w3⟩
    · exact .inl t
    · refine .inr ⟨W, w1, w2, fun w hw => ?_⟩
      rcases hw with hw | ⟨hx, G, G0, e⟩
      · exact w3 w hw
      · exfalso
        rw [fl] at e
        exact prim_ne0 hx (vl_z G0 e.symm)
  rw [(x_flat (N := N)).2 fl, Option.bind_some]
  dsimp only
  rw [if_pos rfl]
  rcases J.2 with ⟨t1, t2⟩ | ⟨W, w1, w2, w3⟩
  · rw [if_neg (by rw [t1]; decide)]
    exact ⟨s, rfl, ⟨J.1, .inl ⟨t1, t2⟩⟩, bn, fun h => by rw [t1] at h; exact absurd h (by decide)⟩
  rw [if_pos w1.1]
  obtain ⟨s1, G, e1, G0, hG, hx, b1, sm1⟩ := x_plain (N := N) (M := 320000) fl bn (by decide) (by omega)
  have f1 := smN_fr sm1
  have f01 : fr [15, 16, 17, 18, 20, 21, 22, 23, 24, 25, 26, 54, 55, 56, 57, 58] s0 s1 := J.1.tr (f1.mo (by decide))
  have O0' : owS s1 0 m0 := owS_fr O0 f01 (by decide)
  have O1' : owS s1 1 m1 := owS_fr O1 f01 (by decide)
  have oPe : ∀ k, oP s1 k = oP s0 k := fr_oP f01 (by decide) (by decide) (by decide)
  obtain ⟨xa, ea, ha1, ha2⟩ := x_highest (N := N) (g := 0) (by omega) (by omega) hm0 h0 O0' b1
  obtain ⟨xb, eb, hb1, hb2⟩ := x_highest (N := N) (g := 1) (by omega) (by omega) hm1 h1 O1' b1
  have ea' : mxX7_highest N 0 s1 = some (s1, xa) := ea
  have eb' : mxX7_highest N 1 s1 = some (s1, xb) := eb
  have ha1' : ∀ t, t < m0 → vd (nv s1) (oP s1 t) ≤ xa.toInt := by
    intro t ht
    have := ha1 t ht
    rw [Nat.mul_zero, Nat.zero_add] at this
    exact this
  have hb1' : ∀ t, t < m1 → vd (nv s1) (oP s1 (24 + t)) ≤ xb.toInt := by
    intro t ht
    have := hb1 t ht
    rw [Nat.mul_one] at this
    exact this
  obtain ⟨ia, ia1, ia2⟩ := ha2
  rw [Nat.mul_zero, Nat.zero_add] at ia2
  obtain ⟨ib, ib1, ib2⟩ := hb2
  rw [Nat.mul_one] at ib2
  -- the sum's points farthest along nv are just those of the heap
  have top : ∀ x, smZ s0 m0 m1 x → vd (nv s1) x ≤ xa.toInt + xb.toInt ∧ (vd (nv s1) x = xa.toInt + xb.toInt → pZ s1 m0 m1 xa.toInt xb.toInt m0 0 x) := by
    rintro x ⟨i, k, hi, hk, e⟩
    have l1 := ha1' i hi
    have l2 := hb1' k hk
    rw [e, ← oPe, ← oPe, vd_va]
    refine ⟨by omega, fun q => ⟨i, k, hi, hk, by omega, by omega, rfl, by omega⟩⟩
  have sub : ∀ x, pZ s1 m0 m1 xa.toInt xb.toInt m0 0 x → smZ s0 m0 m1 x ∧ vd (nv s1) x = xa.toInt + xb.toInt := by
    rintro x ⟨i, k, hi, hk, q1, q2, e, -⟩
    refine ⟨⟨i, k, hi, hk, by rw [e, oPe, oPe]⟩, ?_⟩
    rw [e, vd_va]
    omega
  have Dab : ∀ D, fc P n (nv s1) D → D = xa.toInt + xb.toInt := by
    rintro D ⟨hs, ⟨x1, -, -, h1, -, -, q1, -⟩, -⟩
    obtain ⟨t, t1, t2⟩ := hP.2.2 (va (oP s0 ia) (oP s0 (24 + ib))) ⟨ia, ib, ia1, ib1, rfl⟩
    have l1 := hs t t1
    rw [t2, vd_va, ← oPe, ← oPe] at l1
    have l2 := (top _ (hP.2.1 x1 h1)).1
    omega
  have covw : ∀ w, (∃ x, vd w x = 1) → (∃ G, 0 < G ∧ nv s = vl G w 0 v0) → w = nv s1 := by
    rintro w hw ⟨G', G0', e'⟩
    exact prim_one hx hw G0 G0' (by rw [← hG, ← e'])
  rw [e1, Option.bind_some, ea', Option.bind_some]
  dsimp only
  rw [eb', Option.bind_some, Option.bind_some]
  dsimp only
  have main : Hd (mxX7_looks_39 N N xa xb (Int32.ofNat 0) (pI s1 15 0)) (fun s' => lkJ s0 P n (fun w => Cov w ∨ (∃ x, vd w x = 1) ∧ ∃ G, 0 < G ∧ nv s = vl G w 0 v0) s' ∧ bd3 (nv s') 320000 ∧ (s'.1 54 = 0 → nv s ≠ v0 → (∃ x, vd (nv s') x = 1) ∧ ∃ G, 0 < G ∧ nv s = vl G (nv s') 0 v0)) := by
    refine x_l39 (N := N) (m0 := m0) (m1 := m1) (s := s1) (by omega) hm0 hm1 O0' O1' b1 ?_ m0 N 0 0 (pI s1 15 0) (by omega) (by omega) (smH_0 s1) ⟨hpO_0 s1, Nat.le_refl 0, fun t ht => absurd ht (by omega), fun x hx => by
      obtain ⟨i, k, -, -, -, -, -, h⟩ := hx
      omega⟩
    intro h nh smh H
    have fh : fr [15, 16, 17, 18, 20, 21, 22, 23, 24, 25, 26, 54, 55, 56, 57, 58] s0 h := f01.tr ((smH_fr smh).mo (by decide))
    have fdh : fdZ h W := fdZ_fr (fdZ_fr w1 f1 (by decide)) (smH_fr smh) (by decide)
    have nvh : nv h = nv s1 := (smH_same smh).1
    obtain ⟨hO, hn, hZ1, hZ2⟩ := H
    obtain ⟨o, k, ek, smo, kd⟩ := x_kind (N := N) (by omega : nh ≤ 600) hN hO
    have k4 := kdO_le kd
    have k3e : (Int32.ofNat k = 3) = (k = 3) := propext ⟨fun e => i_inj (a := k) (b := 3) (by omega) (by omega) e, fun e => by rw [e]; rfl⟩
    rw [ek, Option.bind_some]
    dsimp only
    -- nv is put back
    have f46 : fr [24, 25, 26] h (pJ (pJ (pJ o 24 (h.2.1 24)) 25 (h.2.1 25)) 26 (h.2.1 26)) := (smN_fr smo).tr ((((fr_pJ _ _ _).mo (by decide)).tr ((fr_pJ _ _ _).mo (by decide))).tr ((fr_pJ _ _ _).mo (by decide)))
    have nv46 : nv (pJ (pJ (pJ o 24 (h.2.1 24)) 25 (h.2.1 25)) 26 (h.2.1 26)) = nv s1 := by
      rw [← nvh]
      rfl
    have hp46 : hp (pJ (pJ (pJ o 24 (h.2.1 24)) 25 (h.2.1 25)) 26 (h.2.1 26)) = hp h := by
      funext t
      unfold hp
      rw [f46.G (by decide), f46.G (by decide), f46.G (by decide)]
    unfold mxX7_looks_193
    simp only [Option.bind_some]
    generalize pJ (pJ (pJ o 24 (h.2.1 24)) 25 (h.2.1 25)) 26 (h.2.1 26) = s46 at f46 nv46 hp46 ⊢
    have f046 : fr [15, 16, 17, 18, 20, 21, 22, 23, 24, 25, 26, 54, 55, 56, 57, 58] s0 s46 := fh.tr (f46.mo (by decide))
    have fd46 : fdZ s46 W := fdZ_fr fdh f46 (by decide)
    -- three points of the sum off a line, on the plane across nv, are three of the heap
    have in3 : ∀ D, fc P n (nv s1) D → ∃ t1 t2 t3, t1 < nh ∧ t2 < nh ∧ t3 < nh ∧ vx (vs (hp h t2) (hp h t1)) (vs (hp h t3) (hp h t1)) ≠ v0 := by
      intro D hf
      have eD := Dab D hf
      obtain ⟨hs, ⟨x1, x2, x3, h1, h2, h3, q1, q2, q3, hne⟩, -⟩ := hf
      rw [eD] at q1 q2 q3
      obtain ⟨t1, a1, a2⟩ := hZ2 (P x1) ((top _ (hP.2.1 x1 h1)).2 q1)
      obtain ⟨t2, b1', b2⟩ := hZ2 (P x2) ((top _ (hP.2.1 x2 h2)).2 q2)
      obtain ⟨t3, c1, c2⟩ := hZ2 (P x3) ((top _ (hP.2.1 x3 h3)).2 q3)
      exact ⟨t1, t2, t3, a1, b1', c1, by rw [a2, b2, c2]; exact hne⟩
    have onh : ∀ t, t < nh → vd (nv s1) (hp h t) = xa.toInt + xb.toInt := fun t ht => (sub _ (hZ1 t ht)).2
    have is3 : ∀ D, fc P n (nv s1) D → k = 3 := by
      intro D hf
      obtain ⟨t1, t2, t3, a1, a2, a3, hne⟩ := in3 D hf
      have n3 := n3_idx a1 a2 a3 hne
      rcases kd with ⟨q1, q2⟩ | ⟨q1, q2, q3⟩ | ⟨q1, q2, q3, q4, r⟩
      · omega
      · exfalso
        have ne10 : vs (hp h 1) (hp h 0) ≠ v0 := vs_ne (fun e => hpO_di hO 1 0 (by omega) (by omega) (by omega) e)
        exact hne (line_line ne10 (vx_anti0 (q3 _ a1)) (vx_anti0 (q3 _ a2)) (vx_anti0 (q3 _ a3)))
      · rcases q2 with ⟨k3, -⟩ | ⟨k4', i, hi, q2⟩
        · exact k3
        · exfalso
          have kd4 : kdO (hp h) (nv o) nh 4 := .inr (.inr ⟨q1, .inr ⟨rfl, i, hi, q2⟩, q3, q4, r⟩)
          obtain ⟨t, t1, t2⟩ := kd_full kd4 q1 (nv s1) (xa.toInt + xb.toInt) hx
          exact t2 (onh t t1)
    have nvq : (∃ x, vd (nv s46) x = 1) ∧ ∃ G, 0 < G ∧ nv s = vl G (nv s46) 0 v0 := by
      rw [nv46]
      exact ⟨hx, G, G0, hG⟩
    by_cases c3 : k = 3
    · rw [if_pos (by rw [k3e]; exact c3), if_neg (by decide)]
      have h15 : s46.1 15 = Int32.ofNat nh := by rw [f46.I (by decide)]; exact hO.1
      have fL : fr [21] s46 (pI s46 21 (s46.1 15)) := fr_pI _ _ _
      obtain ⟨h2, f2, l2, e2⟩ := x_l230 (N := N) (n := nh) (s := pI s46 21 (s46.1 15)) (by omega) (by rw [fL.I (by decide)]; exact h15) nh N 0 _ (by omega) (by omega) fr.rf (fun j hj => absurd hj (by omega))
      have e2' : mxX7_looks_230 N N 0 (pI s46 21 (s46.1 15)) = (mxX7_rings N h2).bind fun o52 => mxX7_looks_261 N N (0 : Int32) o52 := e2
      rw [e2']
      have fL2 : fr [20, 21] s46 h2 := (fL.mo (by decide)).tr (f2.mo (by decide))
      have hp2 : hp h2 = hp h := by
        rw [← hp46]
        funext t
        unfold hp
        rw [fL2.G (by decide), fL2.G (by decide), fL2.G (by decide)]
      have nv2 : nv h2 = nv s1 := by
        rw [← nv46]
        unfold nv
        rw [fL2.J (by decide), fL2.J (by decide), fL2.J (by decide)]
      have h21 : h2.1 21 = Int32.ofNat nh := by
        rw [f2.I (by decide)]
        exact h15
      have q1 : 3 ≤ nh := by
        rcases kd with ⟨w1, w2⟩ | ⟨w1, w2, -⟩ | ⟨w1, -⟩ <;> omega
      obtain ⟨r0, hr0, hne0⟩ : ∃ r, r < nh ∧ vx (vs (hp h 1) (hp h 0)) (vs (hp h r) (hp h 0)) ≠ v0 := by
        rcases kd with ⟨w1, w2⟩ | ⟨w1, w2, -⟩ | ⟨w1, -, -, -, r, G', r1, -, -, q6⟩
        · omega
        · omega
        · exact ⟨r, r1, q6⟩
      have hdi := hpO_di hO
      have hfcH : fc (hp h) nh (nv s1) (xa.toInt + xb.toInt) := ⟨fun i hi => by rw [onh i hi]; exact Int.le_refl _, ⟨0, 1, r0, by omega, by omega, hr0, onh 0 (by omega), onh 1 (by omega), onh r0 hr0, hne0⟩, hx⟩
      obtain ⟨s3, r, g, e3, smr, hrg⟩ := x_rings (N := N) (c := nh) (l := fun j => j) (d := xa.toInt + xb.toInt) (s := h2) ⟨⟨h21, l2⟩, by omega, fun j hj => ⟨by show j < 600; omega, by rw [hp2]; exact hO.2.1 j hj⟩, by rw [nv2]; exact b1, fun i j hij _ => hij⟩ (by rw [nv2]; exact prim_pos hx) (by intro k hk; rw [nv2, hp2]; exact onh k hk) (by rw [hp2]; exact fun i j hi hj hij => hdi i j hi hj hij) (by omega) (by omega) (by rw [hp2]; exact ex_first hO)
      rw [nv2, hp2] at hrg
      obtain ⟨R1, R2, R3, R4, R5, R6, R7, R8⟩ := hrg
      have hrgF : rgF (hp h) nh (nv s1) (xa.toInt + xb.toInt) r g := ⟨nh, fun j => j, g, Nat.le_refl _, fun j hj => ⟨hj, onh j hj⟩, fun i j hij _ => hij, fun i hi _ => ⟨i, hi, rfl⟩, R2, R3, R4, fun j hj => ⟨rfl, (R5 j hj).2⟩, R6, R7, R8⟩
      rw [e3, Option.bind_some]
      have fr3 := smR_fr smr
      have f23 : fr [20, 21, 22, 23] s46 s3 := (fL2.mo (by decide)).tr (fr3.mo (by decide))
      have fd3 : fdZ s3 W := fdZ_fr fd46 f23 (by decide)
      have hp3 : hp s3 = hp h := by
        rw [← hp2]
        funext t
        exact smR_hp smr t
      obtain ⟨s4, e4, f4, h4⟩ := x_l261 (N := N) (r := r) (n := nh) (ρ := g) (s := s3) (by omega) (by omega) R1 (fun j hj => ⟨(R5 j hj).1, by have := (R5 j hj).2.1; omega⟩) r N 0 W s3 (by omega) (by omega) fr.rf fd3
      have e4' : mxX7_looks_261 N N 0 s3 = some s4 := e4
      rw [e4']
      rw [hp3] at h4
      have f04 : fr [15, 16, 17, 18, 20, 21, 22, 23, 24, 25, 26, 54, 55, 56, 57, 58] s0 s4 := (f046.tr (f23.mo (by decide))).tr (f4.mo (by decide))
      have nv4 : nv s4 = nv s46 := by
        unfold nv
        rw [f4.J (by decide), f4.J (by decide), f4.J (by decide), f23.J (by decide), f23.J (by decide), f23.J (by decide)]
      -- the place of a heap's point among the sum's points
      have ch : ∀ t, ∃ v, t < nh → v < n ∧ P v = hp h t := by
        intro t
        by_cases w : t < nh
        · obtain ⟨v, v1, v2⟩ := hP.2.2 _ (sub _ (hZ1 t w)).1
          exact ⟨v, fun _ => ⟨v1, v2⟩⟩
        · exact ⟨0, fun q => absurd q w⟩
      obtain ⟨l, hl⟩ : ∃ l : Nat → Nat, ∀ t, t < nh → l t < n ∧ P (l t) = hp h t := ⟨fun t => (ch t).choose, fun t => (ch t).choose_spec⟩
      have exr : ∀ j, j < r → exS P n (hp h (g j)) := by
        intro j hj
        obtain ⟨gj1, u, hu⟩ := (R5 j hj).2
        refine ⟨l (g j), (hl _ gj1).1, ?_, (hl _ gj1).2.symm⟩
        refine ex_all (c := nh) (n := nv s1) (d := xa.toInt + xb.toInt) (l := l) (fun i hi => (top _ (hP.2.1 i hi)).1) (fun i hi ei => ?_) (fun t ht => ⟨(hl t ht).1, by rw [(hl t ht).2]; exact onh t ht⟩) gj1 ⟨u, fun t ht hne => ?_⟩
        · obtain ⟨t, t1, t2⟩ := hZ2 (P i) ((top _ (hP.2.1 i hi)).2 ei)
          refine ⟨t, t1, ?_⟩
          have e5 : P (l t) = P i := by rw [(hl t t1).2, t2]
          by_cases w : l t = i
          · exact w
          · exfalso
            by_cases w2 : l t < i
            · exact ord_ne hP.1 w2 hi e5
            · exact ord_ne hP.1 (by omega : i < l t) (hl t t1).1 e5.symm
        · show vd u (P (l t)) < vd u (P (l (g j)))
          rw [(hl t ht).2, (hl _ gj1).2]
          exact hu t ht hne
      refine Hd.ret ⟨⟨f04, ?_⟩, by rw [nv4, nv46]; exact b1, fun _ _ => by rw [nv4]; exact nvq⟩
      rcases h4 with h4 | ⟨h4, W', j, j1, j2, j3⟩
      · right
        refine ⟨_, h4, fun x hx' => ?_, fun w hw D hf v hv ev xv => ?_⟩
        · rcases hx' with hx' | ⟨j, -, j2, j3⟩
          · exact w2 x hx'
          · rw [j3]
            exact exr j j2
        · rcases hw with hw | ⟨hw1, hw2⟩
          · exact .inl (w3 w hw D hf v hv ev xv)
          · right
            have ew := covw w hw1 hw2
            rw [ew] at hf ev
            rw [Dab D hf] at ev
            obtain ⟨t, t1, t2⟩ := hZ2 (P v) ((top _ (hP.2.1 v hv)).2 ev)
            have xt : ex (hp h) nh t := by
              obtain ⟨u, hu⟩ := xv
              refine ⟨u, fun t' ht' hne => ?_⟩
              rw [t2, ← (hl t' ht').2]
              refine hu (l t') (hl t' ht').1 (fun e5 => hdi t' t ht' t1 hne ?_)
              rw [← (hl t' ht').2, e5, t2]
            obtain ⟨j, j1, j2⟩ := ring_ex hfcH hdi hrgF t1 (onh t t1) xt
            exact ⟨j, by omega, j1, by rw [j2, t2]⟩
      · left
        refine ⟨h4, bad_no (fun x hx' => ?_) (exr j j1) j3⟩
        rcases j2 x hx' with w | ⟨j', j1', j2'⟩
        · exact w2 x w
        · rw [j2']
          exact exr j' j1'
    · rw [if_neg (by rw [k3e]; exact c3), if_pos trivial]
      refine Hd.ret ⟨⟨f046, .inr ⟨W, fd46, w2, fun w hw D hf v hv ev xv => ?_⟩⟩, by rw [nv46]; exact b1, fun _ _ => nvq⟩
      rcases hw with hw | ⟨hw1, hw2⟩
      · exact w3 w hw D hf v hv ev xv
      · exfalso
        rw [covw w hw1 hw2] at hf
        exact c3 (is3 D hf)
  obtain ⟨s', e', r'⟩ := main
  exact ⟨s', e', r'⟩
