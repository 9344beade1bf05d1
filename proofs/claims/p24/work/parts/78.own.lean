theorem okP_congr {P Q : Nat → V3} {m k : Nat} (e : ∀ j, j < m → Q j = P j) (h : okP P m k) : okP Q m k := by
  obtain ⟨h1, h2, h3, h4, h5⟩ := h
  refine ⟨h1, fun j hj => by rw [e j hj]; exact h2 j hj, fun i j hij hj => ?_, fun j hj => ?_, ?_⟩
  · rw [e i (by omega), e j hj]
    exact h3 i j hij hj
  · obtain ⟨u, hu⟩ := h4 j hj
    refine ⟨u, fun k hk hkj => ?_⟩
    rw [e k hk, e j hj]
    exact hu k hk hkj
  · rcases h5 with h5 | ⟨h5, h6, v, d, h7, h8⟩ | ⟨h5, h6, h7⟩
    · exact .inl h5
    · exact .inr (.inl ⟨h5, h6, v, d, h7, fun i hi => by rw [e i hi]; exact h8 i hi⟩)
    · refine .inr (.inr ⟨h5, h6, fun n d hx => ?_⟩)
      obtain ⟨i, hi, hi2⟩ := h7 n d hx
      exact ⟨i, hi, by rw [e i hi]; exact hi2⟩
theorem okP_k {P : Nat → V3} {m k : Nat} (h : okP P m k) : k ≤ 4 := by
  rcases h.2.2.2.2 with h5 | ⟨h5, h6, -⟩ | ⟨h5, h6, -⟩ <;> omega
/-- one KIND alone -/
theorem kd_same {P : Nat → V3} {v : V3} {m k k' : Nat} (ho : inOrd wO P m) (hx : ∀ j, j < m → ex P m j) (h : kdP P m k) (h' : kdO P v m k') : k' = k := by
  rcases h' with ⟨q1, q2⟩ | ⟨q1, q2, q3⟩ | ⟨q1, q2, q3, q4, r⟩
  · rcases h with h | ⟨h, -⟩ | ⟨h, -⟩ <;> omega
  · exfalso
    refine ex_line ho hx (a := 0) (b := 1) (c := 2) (by omega) (by omega) (by omega) (q3 2 (by omega))
  · rcases q2 with ⟨k3, q2⟩ | ⟨k4, i, hi, q2⟩
    · rcases h with h | ⟨h, h2, -⟩ | ⟨h, h2, h3⟩
      · omega
      · omega
      · exfalso
        obtain ⟨i, hi, hi2⟩ := h3 v (vd v (P 0)) q4
        exact hi2 (q2 i hi)
    · rcases h with h | ⟨h, h2, w, d, hw, h3⟩ | ⟨h, h2, h3⟩
      · omega
      · exfalso
        have kd4 : kdO P v m 4 := .inr (.inr ⟨q1, .inr ⟨rfl, i, hi, q2⟩, q3, q4, r⟩)
        obtain ⟨i, hi, hi2⟩ := kd_full kd4 q1 w d hw
        exact hi2 (h3 i hi)
      · omega
/-- what knows leaves -/
def knO (s s' : mS) (i g m k F E : Nat) : Prop := fr [15, 16, 17, 18, 19, 20, 21, 22, 23, 24, 25, 26, 27, 28, 29, 30, 31, 32, 33, 34, 35, 36, 37, 38] s s' ∧ (∀ t, t < 128 → t < 64 * g ∨ 64 * g + 64 ≤ t → rwE s' t s t) ∧ (∀ j, j < 2 → ¬ j = g → s'.2.2.1 27 j = s.2.2.1 27 j) ∧ (∀ t, t < 80 * g ∨ 80 * g + 80 ≤ t → eR s' t = eR s t) ∧ (∀ j, j < 2 → ¬ j = g → s'.2.2.1 34 j = s.2.2.1 34 j) ∧ hpO s' m ∧ (∀ j, j < m → hp s' j = cP s i j) ∧ tbO (hp s') m s' g F ∧ (k < 3 → F = 0) ∧ (k = 3 → F ≤ 2) ∧ F ≤ 44 ∧ (3 ≤ k → ∀ n e, fc (hp s') m n e → ∃ j, j < F ∧ fN s' (64 * g + j) = n ∧ fD s' (64 * g + j) = e) ∧ s'.2.2.1 34 g = Int32.ofNat E ∧ E ≤ 80 ∧ (k = 2 → E = 1 ∧ eR s' (80 * g) = (0, 1, -1, -1)) ∧ (¬ k = 2 → ∃ rf ρf, tbF (hp s') m s' g F rf ρf ∧ edT s' g E (pDn F rf ρf F 0)) ∧ ∀ e, e < E → ∃ p q, s'.2.2.1 35 (80 * g + e) = Int32.ofNat p ∧ s'.2.2.1 36 (80 * g + e) = Int32.ofNat q ∧ p < q ∧ q < m
theorem tbO_ne {P : Nat → V3} {n g F : Nat} {s : mS} (h : tbO P n s g F) : ∀ i j, i < j → j < F → ¬ (fN s (64 * g + j) = fN s (64 * g + i) ∧ fD s (64 * g + j) = fD s (64 * g + i)) := by
  intro i j hij hj e
  have := h.2.2 i j hij hj
  rw [e.1, e.2] at this
  exact ahd_ir this
theorem tbF_same {P : Nat → V3} {n g F : Nat} {s s' : mS} {rf : Nat → Nat} {ρf : Nat → Nat → Nat} (h : tbF P n s g F rf ρf) (e : ∀ k, k < F → rwE s' (64 * g + k) s (64 * g + k)) : tbF P n s' g F rf ρf := by
  intro k hk
  obtain ⟨h1, h2, h3, h4, h5, h6, h7⟩ := h k hk
  obtain ⟨e1, e2, e3, e4⟩ := e k hk
  refine ⟨by rw [e1, e2]; exact h1, by rw [e1]; exact h2, h3, h4, by rw [e3]; exact h5, fun j hj => ⟨by rw [e4 j (by omega)]; exact (h6 j hj).1, (h6 j hj).2⟩, by rw [e1, e2]; exact h7⟩
theorem eMax_of {P : Nat → V3} {m k g F : Nat} {s : mS} {rf : Nat → Nat} {ρf : Nat → Nat → Nat} (ok : okP P m k) (tb : tbO P m s g F) (ht : tbF P m s g F rf ρf) (h0 : k < 3 → F = 0) (h2 : k = 3 → F ≤ 2) (hall : 3 ≤ k → ∀ n e, fc P m n e → ∃ j, j < F ∧ fN s (64 * g + j) = n ∧ fD s (64 * g + j) = e) : eMax F rf ρf := by
  intro E pe qe he hd
  have hdi : ∀ i j, i < m → j < m → i ≠ j → P i ≠ P j := by
    intro i j hi hj hij e
    by_cases w : i < j
    · have h2 := ok.2.2.1 i j w hj
      rw [e, vs_self, vd_comm, vd_0] at h2
      omega
    · have h2 := ok.2.2.1 j i (by omega) hi
      rw [e, vs_self, vd_comm, vd_0] at h2
      omega
  have hm := ok.1
  rcases ok.2.2.2.2 with ⟨q1, q2⟩ | ⟨q1, q2, -⟩ | ⟨q1, q2, q3⟩
  · have := edges_le1 (fun k hk => (ht k hk).2.2.1) he hd
    rw [h0 (by omega)] at this
    have z : sm rf 0 = 0 := rfl
    omega
  · have := edges_le1 (fun k hk => (ht k hk).2.2.1) he hd
    have l := sm_le (f := rf) (g := fun _ => 25) F (fun k hk => (ht k hk).2.2.1)
    rw [sm_c] at l
    have := h2 q2
    omega
  · have l2 := edges_le2 q3 hdi ht (hall (by omega)) he hd
    have l1 := rings_sum wO_pos ok.2.2.1 q3 hdi (fun k hk => (ht k hk).1) (tbO_ne tb) (fun k hk => (ht k hk).2.2.2.2.2.2) (by omega)
    have l3 := tbO_le ok.2.2.1 q3 tb
    omega
theorem F_le {P : Nat → V3} {m k g F : Nat} {s : mS} (ok : okP P m k) (tb : tbO P m s g F) (h0 : k < 3 → F = 0) (h2 : k = 3 → F ≤ 2) : F ≤ 44 := by
  have hm := ok.1
  rcases ok.2.2.2.2 with ⟨q1, q2⟩ | ⟨q1, q2, -⟩ | ⟨q1, q2, q3⟩
  · have := h0 (by omega)
    omega
  · have := h2 q2
    omega
  · have l3 := tbO_le ok.2.2.1 q3 tb
    omega
theorem edT_0 {s : mS} {g F : Nat} {rf : Nat → Nat} {ρf : Nat → Nat → Nat} (h : s.2.2.1 34 g = 0) : edT s g 0 (pDn F rf ρf 0 0) := ⟨h, by omega, fun _ => 0, fun _ => 0, fun _ => 0, fun _ => 0, fun e he => absurd he (by omega), fun a b _ hb => absurd hb (by omega), fun f p q hD => by
  obtain ⟨j, -, w⟩ := hD
  omega⟩
/-- knows: FACES and EDGES of a SOLID that is well -/
theorem x_knows {N i g m k : Nat} {s : mS} (hN : 1000000 < N) (hi : i < 8) (hg : g < 2) (h4 : s.2.2.1 4 i = Int32.ofNat m) (h5 : s.2.2.1 5 i = Int32.ofNat k) (ok : okP (cP s i) m k) : ∃ s' F E, mxX7_knows N (Int32.ofNat i) (Int32.ofNat g) s = some s' ∧ knO s s' i g m k F E := by
  unfold mxX7_knows
  obtain ⟨s1, e1, sm1, O1, P1⟩ := x_loadsO (N := N) (by omega) hi h4 ok
  rw [e1, Option.bind_some]
  have ok1 : okP (hp s1) m k := okP_congr P1 ok
  have hm := ok.1
  obtain ⟨s2, k', e2, sm2, mk2, ⟨v, kd⟩, F, tb2, F0, F2, all2⟩ := x_hulls (N := N) (g := g) hN hg (by omega) O1 (fun _ _ => by omega)
  have kk := kd_same ok1.2.2.1 ok1.2.2.2.1 ok1.2.2.2.2 kd
  subst kk
  rw [e2, Option.bind_some]
  dsimp only
  have f1 := smH_fr sm1
  have f2 := smP_fr sm2
  have hp2 : hp s2 = hp s1 := smP_hp sm2
  have tbh : tbO (hp s2) m s2 g F := by rw [hp2]; exact tb2
  have O2 : hpO s2 m := hpO_P sm2 O1
  have ok2 : okP (hp s2) m k' := by rw [hp2]; exact ok1
  have all2' : 3 ≤ k' → ∀ n e, fc (hp s2) m n e → ∃ j, j < F ∧ fN s2 (64 * g + j) = n ∧ fD s2 (64 * g + j) = e := by
    intro h3
    rw [hp2]
    exact all2 h3 (.inl hm)
  have k5 : s2.2.2.1 5 = s.2.2.1 5 := by rw [f2.A (by decide), f1.A (by decide)]
  have FL := F_le ok2 tbh F0 F2
  have hdi := hpO_di O2
  obtain ⟨rf, ρf, ht⟩ := tb_fun hdi tbh
  have hM := eMax_of ok2 tbh ht F0 F2 all2'
  have k4 := okP_k ok
  have k2e : (Int32.ofNat k' = 2) = (k' = 2) := by
    apply propext
    constructor
    · intro e
      exact i_inj (a := k') (b := 2) (by omega) (by omega) e
    · intro e
      rw [e]
      rfl
  -- what stands behind all that is written to the table of EDGES
  have fin : ∀ s' E, fr [34, 35, 36, 37, 38] s2 s' → (∀ t, t < 80 * g ∨ 80 * g + 80 ≤ t → eR s' t = eR s2 t) → (∀ j, j < 2 → ¬ j = g → s'.2.2.1 34 j = s2.2.2.1 34 j) → s'.2.2.1 34 g = Int32.ofNat E → E ≤ 80 → (k' = 2 → E = 1 ∧ eR s' (80 * g) = (0, 1, -1, -1)) → (¬ k' = 2 → edT s' g E (pDn F rf ρf F 0)) → (∀ e, e < E → ∃ p q, s'.2.2.1 35 (80 * g + e) = Int32.ofNat p ∧ s'.2.2.1 36 (80 * g + e) = Int32.ofNat q ∧ p < q ∧ q < m) → knO s s' i g m k' F E := by
    intro s' E f3 x1 x2 x3 x4 x5 x6 x7
    have hp3 : hp s' = hp s2 := by
      funext j
      unfold hp
      rw [f3.G (by decide), f3.G (by decide), f3.G (by decide)]
    have er : ∀ t, rwE s' t s2 t := by
      intro t
      refine ⟨?_, ?_, by rw [f3.A (by decide)], fun j _ => ?_⟩
      · unfold fN
        rw [f3.G (by decide), f3.G (by decide), f3.G (by decide)]
      · unfold fD
        rw [f3.G (by decide)]
      · unfold fQ
        rw [f3.A (by decide)]
    have er1 : ∀ t, rwE s1 t s t := by
      intro t
      refine ⟨?_, ?_, by rw [f1.A (by decide)], fun j _ => ?_⟩
      · unfold fN
        rw [f1.G (by decide), f1.G (by decide), f1.G (by decide)]
      · unfold fD
        rw [f1.G (by decide)]
      · unfold fQ
        rw [f1.A (by decide)]
    have tb3 : tbO (hp s') m s' g F := by
      rw [hp3]
      refine ⟨by rw [f3.A (by decide)]; exact tbh.1, fun t ht' => rowO_E (tbh.2.1 t ht') (er _), fun a b hab hb => ?_⟩
      rw [(er _).1, (er _).2.1, (er _).1, (er _).2.1]
      exact tbh.2.2 a b hab hb
    refine ⟨((f1.mo (by decide)).tr (f2.mo (by decide))).tr (f3.mo (by decide)), fun t t1 t2 => ((er t).tr (sm2.2.2.2.2.1 t t1 t2)).tr (er1 t), fun j j1 j2 => ?_, fun t ht' => ?_, fun j j1 j2 => ?_, ⟨by rw [f3.I (by decide)]; exact O2.1, by rw [hp3]; exact O2.2.1, by rw [hp3]; exact O2.2.2⟩, fun j hj => by rw [hp3, hp2, P1 j hj], tb3, F0, F2, FL, fun h3 n e hf => ?_, x3, x4, x5, fun hk => ⟨rf, ρf, by rw [hp3]; exact tbF_same ht (fun k _ => er _), x6 hk⟩, x7⟩
    · rw [f3.A (by decide), sm2.2.2.2.2.2 j j1 j2, f1.A (by decide)]
    · rw [x1 t ht', fr_eR f2 (by decide) (by decide) (by decide) (by decide), fr_eR f1 (by decide) (by decide) (by decide) (by decide)]
    · rw [x2 j j1 j2, f2.A (by decide), f1.A (by decide)]
    · rw [hp3] at hf
      obtain ⟨j, j1, j2, j3⟩ := all2' h3 n e hf
      exact ⟨j, j1, by rw [(er _).1, j2], by rw [(er _).2.1, j3]⟩
  have w34 : fr [34] s2 (sA s2 34 g 0) := fr_sA _ _ _ _
  rw [wA2 rfl hg, Option.bind_some, rA8 rfl hi, Option.bind_some, w34.A (by decide), k5, h5]
  by_cases c2 : k' = 2
  · rw [if_pos (by rw [k2e]; exact c2), i_c80, wA160 rfl (by omega), Option.bind_some, wA160 rfl (by omega), Option.bind_some, wA160 rfl (by omega), Option.bind_some, wA160 rfl (by omega), Option.bind_some, wA2 rfl hg, Option.bind_some]
    have F00 := F0 (by omega)
    subst F00
    unfold mxX7_knows_75
    obtain ⟨N', rfl⟩ : ∃ N', N = N' + 1 := ⟨N - 1, by omega⟩
    have key : sA (sA (sA (sA (sA (sA s2 34 g 0) 35 (80 * g) 0) 36 (80 * g) 1) 37 (80 * g) (-1)) 38 (80 * g) (-1)) 34 g 1 = sA (sE (sA s2 34 g 0) (80 * g) 0 1 (-1) (-1)) 34 g 1 := rfl
    rw [key]
    have fE : fr [34, 35, 36, 37, 38] s2 (sA (sE (sA s2 34 g 0) (80 * g) 0 1 (-1) (-1)) 34 g 1) := ((w34.mo (by decide)).tr ((fr_sE _ _ _ _ _ _).mo (by decide))).tr ((fr_sA _ 34 g 1).mo (by decide))
    have eE : ∀ t, eR (sA (sE (sA s2 34 g 0) (80 * g) 0 1 (-1) (-1)) 34 g 1) t = if t = 80 * g then (0, 1, -1, -1) else eR s2 t := by
      intro t
      rw [fr_eR (fr_sA _ 34 g 1) (by decide) (by decide) (by decide) (by decide), eR_sE, fr_eR w34 (by decide) (by decide) (by decide) (by decide)]
    have h34 : ∀ j, (sA (sE (sA s2 34 g 0) (80 * g) 0 1 (-1) (-1)) 34 g 1).2.2.1 34 j = if j = g then 1 else s2.2.2.1 34 j := by
      intro j
      rw [sA_at]
      by_cases w : j = g
      · rw [if_pos ⟨rfl, w⟩, if_pos w]
      · rw [if_neg (fun q => w q.2), if_neg w, (fr_sE _ _ _ _ _ _).A (by decide), sA_at, if_neg (fun q => w q.2)]
    refine ⟨_, 0, 1, ?_, fin _ 1 fE (fun t ht' => ?_) (fun j j1 j2 => ?_) ?_ (by omega) (fun _ => ⟨rfl, ?_⟩) (fun h => absurd c2 h) (fun e he => ?_)⟩
    · rw [mxX7_knows_77, rA2 rfl hg, Option.bind_some, fE.A (by decide), tb2.1, if_pos (by decide)]
    · rw [eE, if_neg (by omega)]
    · rw [h34, if_neg j2]
    · rw [h34, if_pos rfl]
      rfl
    · rw [eE, if_pos rfl]
    · have e0 : e = 0 := by omega
      subst e0
      have er := eE (80 * g)
      rw [if_pos rfl] at er
      refine ⟨0, 1, congrArg (fun t : Int32 × Int32 × Int32 × Int32 => t.1) er, congrArg (fun t : Int32 × Int32 × Int32 × Int32 => t.2.1) er, by omega, ?_⟩
      rcases ok.2.2.2.2 with ⟨q1, q2⟩ | ⟨q1, q2, -⟩ | ⟨q1, q2, -⟩ <;> omega
  · rw [if_neg (by rw [k2e]; exact c2)]
    unfold mxX7_knows_75
    have er0 : ∀ t, rwE (sA s2 34 g 0) t s2 t := fun t => rwE_of rfl (w34.A (by decide)) (w34.A (by decide))
    have z34 : (sA s2 34 g 0).2.2.1 34 g = 0 := by rw [sA_at, if_pos ⟨rfl, rfl⟩]
    obtain ⟨s', ⟨I1, I2, I3, E, I4⟩, e3⟩ := x_kn77 (N := N) (s0 := sA s2 34 g 0) (by omega) hg (by omega : m ≤ 25) (by omega : F ≤ 64) (by rw [w34.A (by decide)]; exact tb2.1) (tbF_same ht (fun k _ => er0 _)) hM F N 0 (sA s2 34 g 0) (by omega) (by omega) ⟨fr.rf, fun _ _ => rfl, fun _ _ _ => rfl, 0, edT_0 z34⟩
    refine ⟨s', F, E, e3, fin s' E ((w34.mo (by decide)).tr I1) (fun t ht' => ?_) (fun j j1 j2 => ?_) I4.1 I4.2.1 (fun h => absurd h c2) (fun _ => I4) (fun e he => ?_)⟩
    · rw [I2 t ht', fr_eR w34 (by decide) (by decide) (by decide) (by decide)]
    · rw [I3 j j1 j2, sA_at, if_neg (fun q => j2 q.2)]
    · obtain ⟨-, -, pe, qe, fe, ge, hrow, -, -⟩ := I4
      obtain ⟨r1, -, -, ⟨j, ⟨p1, p2, p3, p4⟩, -⟩, -, -⟩ := hrow e he
      refine ⟨pe e, qe e, congrArg (fun t : Int32 × Int32 × Int32 × Int32 => t.1) r1, congrArg (fun t : Int32 × Int32 × Int32 × Int32 => t.2.1) r1, p3, ?_⟩
      obtain ⟨-, -, -, -, -, t6, -⟩ := ht (fe e) p1
      rcases p4 with ⟨a, b⟩ | ⟨a, b⟩
      · rw [← b]
        unfold nxr
        by_cases c : j + 1 < rf (fe e)
        · rw [if_pos c]
          exact (t6 _ c).2
        · rw [if_neg c]
          exact (t6 0 (by omega)).2
      · rw [← a]
        exact (t6 j p2).2
/-- the owned points -/
def oP (s : mS) (k : Nat) : V3 := ((s.2.2.2 43 k).toInt, (s.2.2.2 44 k).toInt, (s.2.2.2 45 k).toInt)
def sO (s : mS) (k : Nat) (a b c : Int64) : mS := sG (sG (sG s 43 k a) 44 k b) 45 k c
theorem oP_sO (s : mS) (k : Nat) (a b c : Int64) (t : Nat) : oP (sO s k a b c) t = if t = k then (a.toInt, b.toInt, c.toInt) else oP s t := by
  unfold oP sO
  simp only [sG_at]
  by_cases w : t = k
  · simp [w]
  · simp [w]
theorem fr_sO (s : mS) (k : Nat) (a b c : Int64) : fr [43, 44, 45] s (sO s k a b c) := (((fr_sG s 43 k a).mo (by decide)).tr ((fr_sG _ 44 k b).mo (by decide))).tr ((fr_sG _ 45 k c).mo (by decide))
theorem x_ow18 {N g m : Nat} {s : mS} (hg : g < 2) (hm : m ≤ 24) (h15 : s.1 15 = Int32.ofNat m) : ∀ (q fu j : Nat) (h : mS), j + q = m → q < fu → fr [43, 44, 45] s h → (∀ t, t < 24 * g ∨ 24 * g + 24 ≤ t → oP h t = oP s t) → (∀ t, t < j → oP h (24 * g + t) = hp s t) → ∃ s', mxX7_owns_18 N fu (Int32.ofNat g) (Int32.ofNat j) h = some s' ∧ fr [43, 44, 45] s s' ∧ (∀ t, t < 24 * g ∨ 24 * g + 24 ≤ t → oP s' t = oP s t) ∧ ∀ t, t < m → oP s' (24 * g + t) = hp s t := by
  intro q
  induction q with
  | zero =>
    intro fu j h hj hf f1 o1 o2
    obtain ⟨f', rfl⟩ : ∃ f', fu = f' + 1 := ⟨fu - 1, by omega⟩
    have hjm : j = m := by omega
    subst hjm
    refine ⟨h, ?_, f1, o1, o2⟩
    rw [mxX7_owns_18, f1.I (by decide), h15, if_pos (Int32.le_refl _)]
  | succ q ih =>
    intro fu j h hj hf f1 o1 o2
    obtain ⟨f', rfl⟩ : ∃ f', fu = f' + 1 := ⟨fu - 1, by omega⟩
    have ne : ¬ (Int32.ofNat m ≤ Int32.ofNat j) := by
      rw [i_le (by omega) (by omega)]
      omega
    rw [mxX7_owns_18, f1.I (by decide), h15, if_neg ne, rG600 rfl (by omega), Option.bind_some, i_24, wG48 rfl (by omega), Option.bind_some, rG600 rfl (by omega), Option.bind_some, wG48 rfl (by omega), Option.bind_some, rG600 rfl (by omega), Option.bind_some, wG48 rfl (by omega), Option.bind_some, i_s]
    have key : sG (sG (sG h 43 (24 * g + j) (h.2.2.2 16 j)) 44 (24 * g + j) ((sG h 43 (24 * g + j) (h.2.2.2 16 j)).2.2.2 17 j)) 45 (24 * g + j) ((sG (sG h 43 (24 * g + j) (h.2.2.2 16 j)) 44 (24 * g + j) ((sG h 43 (24 * g + j) (h.2.2.2 16 j)).2.2.2 17 j)).2.2.2 18 j) = sO h (24 * g + j) (h.2.2.2 16 j) (h.2.2.2 17 j) (h.2.2.2 18 j) := by
      unfold sO
      simp only [sG_at]
      simp
    rw [key]
    have hpj : ((h.2.2.2 16 j).toInt, (h.2.2.2 17 j).toInt, (h.2.2.2 18 j).toInt) = hp s j := by
      unfold hp
      rw [f1.G (by decide), f1.G (by decide), f1.G (by decide)]
    refine ih f' (j + 1) _ (by omega) (by omega) (f1.tr (fr_sO _ _ _ _ _)) (fun t ht => ?_) (fun t ht => ?_)
    · rw [oP_sO, if_neg (by omega), o1 t ht]
    · rw [oP_sO]
      by_cases w : t = j
      · rw [if_pos (by omega), hpj, w]
      · rw [if_neg (by omega), o2 t (by omega)]
/-- owns: what knows leaves, and a copy of the CORNERS -/
theorem x_owns {N i g m k : Nat} {s : mS} (hN : 1000000 < N) (hi : i < 8) (hg : g < 2) (h4 : s.2.2.1 4 i = Int32.ofNat m) (h5 : s.2.2.1 5 i = Int32.ofNat k) (ok : okP (cP s i) m k) : ∃ s1 s' F E, mxX7_owns N (Int32.ofNat i) (Int32.ofNat g) s = some s' ∧ knO s s1 i g m k F E ∧ fr [43, 44, 45, 46] s1 s' ∧ s'.2.2.1 46 g = Int32.ofNat m ∧ (∀ j, j < 2 → ¬ j = g → s'.2.2.1 46 j = s.2.2.1 46 j) ∧ (∀ t, t < 24 * g ∨ 24 * g + 24 ≤ t → oP s' t = oP s t) ∧ ∀ t, t < m → oP s' (24 * g + t) = cP s i t := by
  unfold mxX7_owns
  obtain ⟨s1, F, E, e1, K⟩ := x_knows hN hi hg h4 h5 ok
  have K' := K
  obtain ⟨k1, k2, k3, k4, k5, k6, k7, -⟩ := K'
  rw [e1, Option.bind_some, wA2 rfl hg, Option.bind_some, k6.1]
  have f46 : fr [46] s1 (sA s1 46 g (Int32.ofNat m)) := fr_sA _ _ _ _
  obtain ⟨s', e2, f2, o1, o2⟩ := x_ow18 (N := N) (g := g) (m := m) (s := sA s1 46 g (Int32.ofNat m)) hg ok.1 (by rw [f46.I (by decide)]; exact k6.1) m N 0 _ (by omega) (by have := ok.1; omega) fr.rf (fun _ _ => rfl) (fun t ht => absurd ht (by omega))
  have oS : ∀ t, oP (sA s1 46 g (Int32.ofNat m)) t = oP s t := by
    intro t
    unfold oP
    rw [f46.G (by decide), f46.G (by decide), f46.G (by decide), k1.G (by decide), k1.G (by decide), k1.G (by decide)]
  refine ⟨s1, s', F, E, e2, K, (f46.mo (by decide)).tr (f2.mo (by decide)), ?_, fun j j1 j2 => ?_, fun t ht => ?_, fun t ht => ?_⟩
  · rw [f2.A (by decide), sA_at, if_pos ⟨rfl, rfl⟩]
  · rw [f2.A (by decide), sA_at, if_neg (fun q => j2 q.2), k1.A (by decide)]
  · rw [o1 t ht, oS]
  · rw [o2 t ht, ← k7 t ht]
    unfold hp
    rw [f46.G (by decide), f46.G (by decide), f46.G (by decide)]
