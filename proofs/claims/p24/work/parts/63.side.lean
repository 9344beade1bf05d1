theorem wB_N1 {s : mS} {k j : Nat} (h : j < aN k) (hk : aN k < 2147483648) : wB s k (Int32.ofNat j) 1 = some (sA s k j 1) := by
  have e := i_nb h hk
  have t := i_tn (j := j) (by omega)
  unfold wB sA
  rw [if_neg e, t]
  rfl
/-- only the marks of CORNERS have changed: those of ρ are set -/
def mkO (s s' : mS) (r : Nat) (ρ : Nat → Nat) : Prop := s'.1 = s.1 ∧ s'.2.1 = s.2.1 ∧ s'.2.2.2 = s.2.2.2 ∧ (∀ k, ¬ k = 19 → s'.2.2.1 k = s.2.2.1 k) ∧ (∀ j, j < r → s'.2.2.1 19 (ρ j) = 1) ∧ ∀ t, s'.2.2.1 19 t = s.2.2.1 19 t ∨ s'.2.2.1 19 t = 1 ∧ ∃ j, j < r ∧ t = ρ j
theorem smP_M {g r : Nat} {ρ : Nat → Nat} {s s' : mS} (h : mkO s s' r ρ) : smP g s s' := ⟨fun k _ _ => by rw [h.1], fun k _ _ _ => by rw [h.2.1], fun k q _ _ _ _ _ => h.2.2.2.1 k q, fun k _ _ _ _ => by rw [h.2.2.1], fun k _ _ => rwE_of h.2.2.1 (h.2.2.2.1 32 (by decide)) (h.2.2.2.1 33 (by decide)), fun j _ _ => by rw [h.2.2.2.1 27 (by decide)]⟩
theorem x_mark {N r : Nat} {ρ : Nat → Nat} {x1 x2 x3 x4 x5 : Int32} {d : Int64} {rec2 : Int32 → Int32 → mS → Option mS} {rec14 : Int32 → Int32 → Int32 → mS → Option mS} {rec27 : Int32 → Int32 → Int32 → Int32 → mS → Option mS} {rec61 : Int32 → Int32 → Int32 → Int32 → Int32 → mS → Option mS} {s : mS} (hr : r ≤ 600) (h23 : s.1 23 = Int32.ofNat r) (h22 : ∀ j, j < r → s.2.2.1 22 j = Int32.ofNat (ρ j) ∧ ρ j < 600) : ∀ (m f i : Nat) (h : mS), i + m = r → m < f → mkO s h i ρ →
    ∃ h', mkO s h' r ρ ∧ mxX7_planes_100 N rec2 rec14 rec27 rec61 f x1 x2 x3 x4 x5 d (Int32.ofNat i) h = (mxX7_faceHere N x1 d h').bind fun o => mxX7_planes_135 N rec2 rec14 rec27 rec61 x1 x2 x3 x4 x5 o := by
  intro m
  induction m with
  | zero =>
    intro f i h hi hf hm
    obtain ⟨f', rfl⟩ : ∃ f', f = f' + 1 := ⟨f - 1, by omega⟩
    have hir : i = r := by omega
    subst hir
    refine ⟨h, hm, ?_⟩
    rw [mxX7_planes_100, hm.1, h23, if_pos (Int32.le_refl _)]
  | succ m ih =>
    intro f i h hi hf hm
    obtain ⟨f', rfl⟩ : ∃ f', f = f' + 1 := ⟨f - 1, by omega⟩
    have ne : ¬ (Int32.ofNat r ≤ Int32.ofNat i) := by
      rw [i_le (by omega) (by omega)]
      omega
    have b22 : i < aN 22 := by show i < 600; omega
    obtain ⟨q1, q2⟩ := h22 i (by omega)
    have b19 : ρ i < aN 19 := by show ρ i < 600; omega
    obtain ⟨m1, m2, m3, m4, m5, m6⟩ := hm
    rw [mxX7_planes_100, m1, h23, if_neg ne, rA_N b22 (by decide), Option.bind_some, m4 22 (by decide), q1, wB_N1 b19 (by decide), Option.bind_some, i_s]
    refine ih f' (i + 1) _ (by omega) (by omega) ⟨m1, m2, m3, fun k hk => ?_, fun j hj => ?_, fun t => ?_⟩
    · funext t
      rw [sA_at, if_neg (by omega), m4 k hk]
    · rw [sA_at]
      by_cases w : ρ j = ρ i
      · rw [if_pos ⟨rfl, w⟩]
      · rw [if_neg (fun q => w q.2)]
        have : j < i := by
          by_cases w2 : j = i
          · rw [w2] at w
            exact absurd rfl w
          · omega
        exact m5 j this
    · rw [sA_at]
      by_cases w : t = ρ i
      · rw [if_pos ⟨rfl, w⟩]
        exact .inr ⟨rfl, i, by omega, w⟩
      · rw [if_neg (fun q => w q.2)]
        rcases m6 t with h1 | ⟨h1, j, hj, h2⟩
        · exact .inl h1
        · exact .inr ⟨h1, j, by omega, h2⟩
theorem x_turns {N : Nat} {s : mS} (bn : bd3 (nv s) 320000) : ∃ s', mxX7_turnsAbout N s = some s' ∧ nv s' = vs v0 (nv s) ∧ bd3 (nv s') 320000 ∧ smN s s' := by
  have n1 := bv_neg (nb1 bn) (by decide)
  have n2 := bv_neg (nb2 bn) (by decide)
  have n3 := bv_neg (nb3 bn) (by decide)
  unfold mxX7_turnsAbout
  rw [Option.bind_some, Option.bind_some, Option.bind_some]
  have e : nv (pJ (pJ (pJ s 24 (-(s.2.1 24))) 25 (-((pJ s 24 (-(s.2.1 24))).2.1 25))) 26 (-((pJ (pJ s 24 (-(s.2.1 24))) 25 (-((pJ s 24 (-(s.2.1 24))).2.1 25))).2.1 26))) = vs v0 (nv s) := by
    refine v3_ext ?_ ?_ ?_
    · show (-(s.2.1 24)).toInt = 0 - (s.2.1 24).toInt
      rw [n1.1]
      show -(s.2.1 24).toInt = 0 - (s.2.1 24).toInt
      omega
    · show (-(s.2.1 25)).toInt = 0 - (s.2.1 25).toInt
      rw [n2.1]
      show -(s.2.1 25).toInt = 0 - (s.2.1 25).toInt
      omega
    · show (-(s.2.1 26)).toInt = 0 - (s.2.1 26).toInt
      rw [n3.1]
      show -(s.2.1 26).toInt = 0 - (s.2.1 26).toInt
      omega
  refine ⟨_, rfl, e, ?_, rfl, rfl, ?_⟩
  · rw [e]
    obtain ⟨c1, c2, c3⟩ := bn
    refine ⟨?_, ?_, ?_⟩
    · show (0 - (nv s).1).natAbs ≤ 320000
      omega
    · show (0 - (nv s).2.1).natAbs ≤ 320000
      omega
    · show (0 - (nv s).2.2).natAbs ≤ 320000
      omega
  · intro k k1 k2 k3
    simp [pJ, vp_updL, k1, k2, k3]
theorem hpO_P {g n : Nat} {s s' : mS} (h : smP g s s') (hO : hpO s n) : hpO s' n := by
  refine ⟨by rw [h.1 15 (by decide) (by decide)]; exact hO.1, fun k hk => ?_, fun i j hij hj => ?_⟩
  · rw [smP_hp h]
    exact hO.2.1 k hk
  · rw [smP_hp h]
    exact hO.2.2 i j hij hj
theorem hpO_ord {s : mS} {n : Nat} (h : hpO s n) : inOrd wO (hp s) n := by
  intro i j hij hj
  rw [vd_vs]
  have := h.2.2 i j hij hj
  omega
theorem tbO_same {P : Nat → V3} {n g F : Nat} {s s' : mS} (h : tbO P n s g F) (h1 : s'.2.2.2 = s.2.2.2) (h2 : s'.2.2.1 32 = s.2.2.1 32) (h3 : s'.2.2.1 33 = s.2.2.1 33) (h4 : s'.2.2.1 27 = s.2.2.1 27) : tbO P n s' g F := by
  have e : ∀ k, rwE s' k s k := fun k => rwE_of h1 h2 h3
  refine ⟨by rw [h4]; exact h.1, fun k hk => rowO_E (h.2.1 k hk) (e _), fun i j hij hj => ?_⟩
  rw [(e _).1, (e _).2.1, (e _).1, (e _).2.1]
  exact h.2.2 i j hij hj
