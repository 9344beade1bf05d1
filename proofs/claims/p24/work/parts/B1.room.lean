theorem vl_d (g : Int) (m p : V3) : vd (vl g m 0 v0) p = g * vd m p := by
  rw [vd_vl_l, vd_0]
  omega
/-- points that are knots of a convex skin, in order, and planes that are those of its rows: all rings together have room -/
theorem QC_room {s1 s' : cS} {K T b n F : Nat} (ro : ∀ t, t < T → tO s1 K t) (hK : K ≤ 24) (qc : QC s1 K T) (nb : NB (pc s1 30) K) (bd : ∀ j, j < n → bd3 (pc s' (b + 1) j) 100) (p1 : ∀ j, j < n → ∃ i, i < K ∧ pc s' (b + 1) j = pc s1 30 i) (p2 : ∀ i, i < K → ∃ j, j < n ∧ pc s' (b + 1) j = pc s1 30 i) (so : ∀ j j', j < j' → j' < n → lxl (pc s' (b + 1) j) (pc s' (b + 1) j')) (nK : n = K) (sr : srtB s' b F) (ph : ∀ f, f < F → PH s1 T (bN s' b f) (bD s' b f)) : inOrd wO (pc s' (b + 1)) n ∧ full (pc s' (b + 1)) n ∧ (∀ f, f < F → fc (pc s' (b + 1)) n (bN s' b f) (bD s' b f)) ∧ ∀ f, f < F → sm (fun k => sm (onp (pc s' (b + 1)) (bN s' b) (bD s' b) k) n) f + 3 ≤ 132 := by
  obtain ⟨q1, q2, q3, sb, -, -⟩ := qc hK
  have fl := FL_of (K := K) q2 q1
  have ho : inOrd wO (pc s' (b + 1)) n := fun i j hij hj => by
    have := (lx_or (bd3_le (bd i (by omega)) (by decide)) (bd3_le (bd j hj) (by decide))).mp (so i j hij hj)
    rw [vd_vs']
    omega
  have hfull : full (pc s' (b + 1)) n := fun m d ⟨x, hx⟩ => by
    obtain ⟨i, hi, ne⟩ := fl m d (fun e => by
      rw [e, vd_0] at hx
      omega)
    obtain ⟨j, hj, e⟩ := p2 i hi
    exact ⟨j, hj, by rw [e]; exact ne⟩
  have nbP : NB (pc s' (b + 1)) n := fun i b' c x y hi hb hc h0 h1 h => by
    obtain ⟨i1, l1, e1⟩ := p1 i hi
    obtain ⟨i2, l2, e2⟩ := p1 b' hb
    obtain ⟨i3, l3, e3⟩ := p1 c hc
    rw [e1, e2, e3] at h
    rw [e1, e3]
    exact nb i1 i2 i3 x y l1 l2 l3 h0 h1 h
  have apart : ∀ i j, i < j → j < n → pc s' (b + 1) i ≠ pc s' (b + 1) j := fun i j hij hj e => by
    have := so i j hij hj
    rw [e] at this
    exact lxl_ir _ this
  have nbt : ∀ a x e, a < x → x < e → e < n → vx (vs (pc s' (b + 1) x) (pc s' (b + 1) a)) (vs (pc s' (b + 1) e) (pc s' (b + 1) a)) ≠ v0 := fun a x e h1 h2 h3 z => by
    rcases on_line nbP (u := e) (v := a) (u' := x) h3 (by omega) (by omega) (fun w => apart a e (by omega) h3 w.symm) z with w | w
    · exact apart x e h2 h3 w
    · exact apart a x h1 (by omega) w.symm
  have hf : ∀ f, f < F → fc (pc s' (b + 1)) n (bN s' b f) (bD s' b f) := fun f hf => by
    obtain ⟨pr, -, t, g, ht, g0, en, ed⟩ := ph f hf
    obtain ⟨⟨l0, l1, l2⟩, -, e1, e2⟩ := tO_tp (show K ≤ 25 by omega) (ro t ht)
    have bn := sb.2.2.1 (3 * t) (by omega)
    have nz := sb.2.1 (3 * t) (by omega)
    have on := nri_on (pc s1 30) (tp s1) (3 * t)
    rw [nx_0, nx_1] at on
    rw [← e1] at bn nz on
    rw [← e2] at bn on
    have e2' := e2
    refine ⟨fun i hi => ?_, ?_, pr⟩
    · obtain ⟨j, hj, e⟩ := p1 i hi
      have := bn j hj
      rw [en, vl_d, ed] at this
      rw [e]
      exact Int.le_of_mul_le_mul_left this g0
    · obtain ⟨i, hi, ei⟩ := p2 _ l0
      obtain ⟨j, hj, ej⟩ := p2 _ l1
      obtain ⟨k, hk, ek⟩ := p2 _ l2
      refine ⟨i, j, k, hi, hj, hk, ?_, ?_, ?_, ?_⟩
      · rw [ei]
        rw [en, vl_d, ed] at e2'
        exact (Int.eq_of_mul_eq_mul_left (by omega) e2').symm
      · rw [ej]
        have := on.1
        rw [en, vl_d, ed] at this
        exact Int.eq_of_mul_eq_mul_left (by omega) this
      · rw [ek]
        have := on.2
        rw [en, vl_d, ed] at this
        exact Int.eq_of_mul_eq_mul_left (by omega) this
      · rw [ei, ej, ek]
        rw [e1] at nz
        unfold nri at nz
        rw [nx_0, nx_1] at nz
        exact nz
  have hd : ∀ i j, i < j → j < F → ¬ (bN s' b j = bN s' b i ∧ bD s' b j = bD s' b i) := fun i j hij hj e => by
    have := sr i j hij hj
    rw [e.1] at this
    exact lxl_ir _ this
  have F2 := faces_le (nf := bN s' b) (df := bD s' b) wO_pos ho hfull hf hd
  have S := on_sum (nf := bN s' b) (df := bD s' b) wO_pos ho hfull nbt hf hd (by omega)
  refine ⟨ho, hfull, hf, fun f hf' => ?_⟩
  have m := sm_mono (fun k => sm (onp (pc s' (b + 1)) (bN s' b) (bD s' b) k) n) (show f + 1 ≤ F by omega)
  have m' : sm (fun k => sm (onp (pc s' (b + 1)) (bN s' b) (bD s' b) k) n) (f + 1) = sm (fun k => sm (onp (pc s' (b + 1)) (bN s' b) (bD s' b) k) n) f + sm (onp (pc s' (b + 1)) (bN s' b) (bD s' b) f) n := rfl
  have t3 := on_three (hf f hf')
  omega
/-- a point that layRing takes lies in the plane -/
theorem oc_le {s : cS} {b f n : Nat} (bn : bd3 (bN s b f) 81608) (bd : ∀ j, j < n → bd3 (pc s (b + 1) j) 100) : oc s b f n ≤ sm (onp (pc s (b + 1)) (bN s b) (bD s b) f) n := by
  refine sm_le n (fun x hx => ?_)
  show (if exv s b f x = 0 then 1 else 0) ≤ onp (pc s (b + 1)) (bN s b) (bD s b) f x
  by_cases z : exv s b f x = 0
  · have dot := bv_dot (x := bN s b f) (y := pc s (b + 1) x) (bt32 (a := qA s (b + 5) (4 * f)) rfl bn.1) (bt32 (a := qA s (b + 5) (4 * f + 1)) rfl bn.2.1) (bt32 (a := qA s (b + 5) (4 * f + 2)) rfl bn.2.2) (bt32 (a := qA s (b + 1 + 1) x) rfl (bd x hx).1) (bt32 (a := qA s (b + 1 + 2) x) rfl (bd x hx).2.1) (bt32 (a := qA s (b + 1 + 3) x) rfl (bd x hx).2.2) (by decide)
    have e : vd (bN s b f) (pc s (b + 1) x) = bD s b f := by
      unfold exv at z
      have z' := congrArg (fun v => v + (qA s (b + 5) (4 * f + 3)).toInt64 * 1) z
      rw [Int64.sub_add_cancel, Int64.mul_one, Int64.zero_add] at z'
      have z2 := congrArg Int64.toInt z'
      rw [dot.1] at z2
      rw [z2, Int32.toInt_toInt64]
      rfl
    unfold onp
    rw [if_pos z, if_pos e]
    exact Nat.le_refl _
  · rw [if_neg z]
    exact Nat.zero_le _
