theorem x_mark92 {N r : Nat} {ρ : Nat → Nat} {x1 x2 x3 : Int32} {rec70 : Int32 → Int32 → Int32 → mS → Option (mS × Int32)} {s : mS} (hr : r ≤ 600) (h23 : s.1 23 = Int32.ofNat r) (h22 : ∀ j, j < r → s.2.2.1 22 j = Int32.ofNat (ρ j) ∧ ρ j < 600) : ∀ (m f i : Nat) (h : mS), i + m = r → m < f → mkO s h i ρ →
    ∃ h', mkO s h' r ρ ∧ mxX7_hulls_92 N rec70 f x1 x2 x3 (Int32.ofNat i) h = if (24 : Int32) < Int32.ofNat r then mxX7_hulls_139 N rec70 x1 x2 x3 h' else (mxX7_height N 0 h').bind fun o25 => (mxX7_faceHere N x1 o25.2 o25.1).bind fun o27 => mxX7_hulls_139 N rec70 x1 x2 x3 o27 := by
  intro m
  induction m with
  | zero =>
    intro f i h hi hf hm
    obtain ⟨f', rfl⟩ : ∃ f', f = f' + 1 := ⟨f - 1, by omega⟩
    have hir : i = r := by omega
    subst hir
    refine ⟨h, hm, ?_⟩
    rw [mxX7_hulls_92, hm.1, h23, if_pos (Int32.le_refl _)]
  | succ m ih =>
    intro f i h hi hf hm
    obtain ⟨f', rfl⟩ : ∃ f', f = f' + 1 := ⟨f - 1, by omega⟩
    have ne : ¬ (Int32.ofNat r ≤ Int32.ofNat i) := by
      rw [i_le (by omega) (by omega)]
      omega
    have b22 : i < aN 22 := by show i < 600; omega
    obtain ⟨q1, q2⟩ := h22 i (by omega)
    have b19 : ρ i < aN 19 := by show ρ i < 600; omega
    obtain ⟨m1, m2, m3, m4, m5, m6⟩ := hm
    rw [mxX7_hulls_92, m1, h23, if_neg ne, rA_N b22 (by decide), Option.bind_some, m4 22 (by decide), q1, wB_N1 b19 (by decide), Option.bind_some, i_s]
    refine ih f' (i + 1) _ (by omega) (by omega) ⟨m1, m2, m3, fun k hk => ?_, fun j hj => ?_, fun t => ?_⟩
    · funext t
      rw [sA_at, if_neg (by omega), m4 k hk]
    · rw [sA_at]
      by_cases w : ρ j = ρ i
      · rw [if_pos ⟨rfl, w⟩]
      · rw [if_neg (fun q => w q.2)]
        have : j < i := by
          by_cases w2 : j = i
          · rw [w2] at w
            exact absurd rfl w
          · omega
        exact m5 j this
    · rw [sA_at]
      by_cases w : t = ρ i
      · rw [if_pos ⟨rfl, w⟩]
        exact .inr ⟨rfl, i, by omega, w⟩
      · rw [if_neg (fun q => w q.2)]
        rcases m6 t with h1 | ⟨h1, j, hj, h2⟩
        · exact .inl h1
        · exact .inr ⟨h1, j, by omega, h2⟩
theorem hpO_di {s : mS} {n : Nat} (hO : hpO s n) : ∀ i j, i < n → j < n → i ≠ j → hp s i ≠ hp s j := by
  intro i j hi hj hij e
  by_cases w : i < j
  · have h2 := hO.2.2 i j w hj
    rw [e] at h2
    omega
  · have h2 := hO.2.2 j i (by omega) hi
    rw [e] at h2
    omega
theorem prim_ne0 {n : V3} (h : ∃ x, vd n x = 1) : n ≠ v0 := by
  intro e
  have := prim_pos h
  rw [e, vd_0] at this
  omega
theorem prim_neg {n : V3} (h : ∃ x, vd n x = 1) : ∃ x, vd (vs v0 n) x = 1 := by
  obtain ⟨x, hx⟩ := h
  refine ⟨vs v0 x, ?_⟩
  rw [vd_comm, neg_vd, vd_comm, neg_vd, hx]
  rfl
/-- hulls, one side of a plane figure -/
theorem x_flat1 {N g n F f : Nat} {sd : Int32} {s : mS} (hN : 1000000 < N) (hg : g < 2) (hn : n ≤ 600) (h3 : 3 ≤ n) (hO : hpO s n) (ht : tbO (hp s) n s g F) (hF : F < 64) (hx : ∃ x, vd (nv s) x = 1) (bn : bd3 (nv s) 320000) (hpl : ∀ i, i < n → vd (nv s) (hp s i) = vd (nv s) (hp s 0)) (hne : ∃ i j k, i < n ∧ j < n ∧ k < n ∧ vx (vs (hp s j) (hp s i)) (vs (hp s k) (hp s i)) ≠ v0) (hk : ∀ k, k < F → ¬ (fN s (64 * g + k) = nv s ∧ fD s (64 * g + k) = vd (nv s) (hp s 0))) (hsd : ¬ ((2 : Int32) ≤ sd)) :
    ∃ s' F', smP g s s' ∧ nv s' = vs v0 (nv s) ∧ bd3 (nv s') 320000 ∧ tbO (hp s) n s' g F' ∧ mkR (hp s) n s s' ∧ (∀ v, v < n → ex (hp s) n v → s'.2.2.1 19 v = 1) ∧ F' ≤ F + 1 ∧ (∀ k', k' < F' → (∃ k, k < F ∧ fN s' (64 * g + k') = fN s (64 * g + k) ∧ fD s' (64 * g + k') = fD s (64 * g + k)) ∨ fN s' (64 * g + k') = nv s ∧ fD s' (64 * g + k') = vd (nv s) (hp s 0)) ∧ (∀ k, k < F → ∃ k', k' < F' ∧ fN s' (64 * g + k') = fN s (64 * g + k) ∧ fD s' (64 * g + k') = fD s (64 * g + k)) ∧ (n ≤ 24 → ∃ k', k' < F' ∧ fN s' (64 * g + k') = nv s ∧ fD s' (64 * g + k') = vd (nv s) (hp s 0)) ∧ mxX7_hulls_70 N (f + 1) (Int32.ofNat g) 3 sd s = mxX7_hulls_70 N f (Int32.ofNat g) 3 (sd + 1) s' := by
  have tail : ∀ (t : mS) (F' : Nat), smP g s t → nv t = nv s → tbO (hp s) n t g F' → mkR (hp s) n s t → (∀ v, v < n → ex (hp s) n v → t.2.2.1 19 v = 1) → F' ≤ F + 1 → (∀ k', k' < F' → (∃ k, k < F ∧ fN t (64 * g + k') = fN s (64 * g + k) ∧ fD t (64 * g + k') = fD s (64 * g + k)) ∨ fN t (64 * g + k') = nv s ∧ fD t (64 * g + k') = vd (nv s) (hp s 0)) → (∀ k, k < F → ∃ k', k' < F' ∧ fN t (64 * g + k') = fN s (64 * g + k) ∧ fD t (64 * g + k') = fD s (64 * g + k)) → (n ≤ 24 → ∃ k', k' < F' ∧ fN t (64 * g + k') = nv s ∧ fD t (64 * g + k') = vd (nv s) (hp s 0)) → ∃ s' F', smP g s s' ∧ nv s' = vs v0 (nv s) ∧ bd3 (nv s') 320000 ∧ tbO (hp s) n s' g F' ∧ mkR (hp s) n s s' ∧ (∀ v, v < n → ex (hp s) n v → s'.2.2.1 19 v = 1) ∧ F' ≤ F + 1 ∧ (∀ k', k' < F' → (∃ k, k < F ∧ fN s' (64 * g + k') = fN s (64 * g + k) ∧ fD s' (64 * g + k') = fD s (64 * g + k)) ∨ fN s' (64 * g + k') = nv s ∧ fD s' (64 * g + k') = vd (nv s) (hp s 0)) ∧ (∀ k, k < F → ∃ k', k' < F' ∧ fN s' (64 * g + k') = fN s (64 * g + k) ∧ fD s' (64 * g + k') = fD s (64 * g + k)) ∧ (n ≤ 24 → ∃ k', k' < F' ∧ fN s' (64 * g + k') = nv s ∧ fD s' (64 * g + k') = vd (nv s) (hp s 0)) ∧ mxX7_hulls_139 N (mxX7_hulls_70 N f) (Int32.ofNat g) 3 sd t = mxX7_hulls_70 N f (Int32.ofNat g) 3 (sd + 1) s' := by
    intro t F' sm en tb mR mA hF' rows mono new
    obtain ⟨t', e, e1, e2, smn⟩ := x_turns (N := N) (s := t) (by rw [en]; exact bn)
    have er : ∀ k, rwE t' k t k := fun k => rwE_of (by rw [smn.2.1]) (by rw [smn.2.1]) (by rw [smn.2.1])
    refine ⟨t', F', sm.tr (smP_N smn), by rw [e1, en], e2, tbO_same tb (by rw [smn.2.1]) (by rw [smn.2.1]) (by rw [smn.2.1]) (by rw [smn.2.1]), mkR_e mR (by rw [smn.2.1]), fun v hv xv => by rw [smn.2.1]; exact mA v hv xv, hF', ?_, ?_, ?_, ?_⟩
    · intro k' hk'
      rw [(er _).1, (er _).2.1]
      exact rows k' hk'
    · intro k hk
      obtain ⟨k', h1, h2, h3⟩ := mono k hk
      exact ⟨k', h1, by rw [(er _).1, h2], by rw [(er _).2.1, h3]⟩
    · intro h24
      obtain ⟨k', h1, h2, h3⟩ := new h24
      exact ⟨k', h1, by rw [(er _).1, h2], by rw [(er _).2.1, h3]⟩
    · unfold mxX7_hulls_139
      rw [e, Option.bind_some]
  obtain ⟨d, ed, hd, -⟩ := x_height (N := N) (p := 0) (s := s) (by omega) (hO.2.1 0 (by omega)) bn
  have ed' : mxX7_height N 0 s = some (s, d) := ed
  obtain ⟨i0, j0, k0, hi0, hj0, hk0, hne0⟩ := hne
  have hfc : fc (hp s) n (nv s) (vd (nv s) (hp s 0)) := ⟨fun i hi => by rw [hpl i hi]; exact Int.le_refl _, ⟨i0, j0, k0, hi0, hj0, hk0, hpl _ hi0, hpl _ hj0, hpl _ hk0, hne0⟩, hx⟩
  rw [mxX7_hulls_70, if_neg hsd, ed', Option.bind_some]
  dsimp only
  obtain ⟨s1, sml, h1⟩ := x_lists (N := N) (d := d) (s := s) hn (by omega) hO bn
  rcases h1 with ⟨e2, i, hi, hi2⟩ | ⟨e2, c, l, hlo, hcn, hK⟩
  · exfalso
    rw [hpl i hi, hd] at hi2
    omega
  · rw [e2, Option.bind_some]
    dsimp only
    rw [hd] at hK
    obtain ⟨K1, K2, K3, K4⟩ := hK
    obtain ⟨jp, jp1, jp2⟩ := K4 0 (by omega) rfl
    obtain ⟨jq, jq1, jq2⟩ := K4 1 (by omega) (hpl 1 (by omega))
    have hc2 : 2 ≤ c := by
      by_cases w : jp = jq
      · rw [w] at jp2
        omega
      · omega
    have hhp : hp s1 = hp s := funext fun k => smL_hp sml k
    have hnv : nv s1 = nv s := smL_nv sml
    have hdi' := hpO_di hO
    have hdi : ∀ i j, i < c → j < c → i ≠ j → hp s1 (l i) ≠ hp s1 (l j) := by
      intro i j hi hj hij e
      rw [hhp] at e
      refine hdi' (l i) (l j) (K2 i hi).1 (K2 j hj).1 (fun q => hij (l_inj K3 hi hj q)) e
    have he0 : ex (fun k => hp s1 (l k)) c 0 := by
      refine ⟨vs v0 wO, fun k hk hk0 => ?_⟩
      rw [neg_vd, neg_vd, hhp]
      show - vd wO (hp s (l k)) < - vd wO (hp s (l 0))
      have := hO.2.2 (l 0) (l k) (K3 0 k (by omega) hk) (K2 k hk).1
      omega
    obtain ⟨s2, r', g', e3, smr, hrg⟩ := x_rings (N := N) (c := c) (l := l) (d := vd (nv s) (hp s 0)) (s := s1) ⟨hlo, by omega, fun j hj => ⟨by have := (K2 j hj).1; omega, by rw [hhp]; exact hO.2.1 _ (K2 j hj).1⟩, by rw [hnv]; exact bn, K3⟩ (by rw [hnv]; exact prim_pos hx) (by intro k hk; rw [hnv, hhp]; exact (K2 k hk).2) hdi hc2 (by omega) he0
    rw [hnv, hhp] at hrg
    obtain ⟨R1, R2, R3, R4, R5, R6, R7, R8⟩ := hrg
    rw [e3, Option.bind_some]
    obtain ⟨s3, hm, e4⟩ := x_mark92 (N := N) (r := r') (ρ := fun j => l (g' j)) (x1 := Int32.ofNat g) (x2 := 3) (x3 := sd) (rec70 := mxX7_hulls_70 N f) (s := s2) (by omega) R1 (fun j hj => ⟨(R5 j hj).1, by have := (K2 (g' j) (R5 j hj).2.1).1; show l (g' j) < 600; omega⟩) r' N 0 s2 (by omega) (by omega) ⟨rfl, rfl, rfl, fun _ _ => rfl, fun j hj => absurd hj (by omega), fun _ => .inl rfl⟩
    have e4' : mxX7_hulls_92 N (mxX7_hulls_70 N f) N (Int32.ofNat g) 3 sd 0 s2 = if (24 : Int32) < Int32.ofNat r' then mxX7_hulls_139 N (mxX7_hulls_70 N f) (Int32.ofNat g) 3 sd s3 else (mxX7_height N 0 s3).bind fun o25 => (mxX7_faceHere N (Int32.ofNat g) o25.2 o25.1).bind fun o27 => mxX7_hulls_139 N (mxX7_hulls_70 N f) (Int32.ofNat g) 3 sd o27 := e4
    rw [e4']
    have sm13 : smP g s s3 := ((smP_L sml).tr (smP_R smr)).tr (smP_M hm)
    have G3 : s3.2.2.2 = s.2.2.2 := by rw [hm.2.2.1, smr.2.2.2, sml.2.2.2]
    have A3 : ∀ k, ¬ k = 19 → ¬ k = 20 → ¬ k = 22 → s3.2.2.1 k = s.2.2.1 k := fun k k1 k2 k3 => by rw [hm.2.2.2.1 k k1, smr.2.2.1 k k3, sml.2.2.1 k k2]
    have tb3 : tbO (hp s) n s3 g F := tbO_same ht G3 (A3 32 (by decide) (by decide) (by decide)) (A3 33 (by decide) (by decide) (by decide)) (A3 27 (by decide) (by decide) (by decide))
    have er3 : ∀ k, rwE s3 k s k := fun k => rwE_of G3 (A3 32 (by decide) (by decide) (by decide)) (A3 33 (by decide) (by decide) (by decide))
    have nv3 : nv s3 = nv s := by
      unfold nv
      rw [hm.2.1, smr.2.1, sml.2.1]
    have hp3 : hp s3 = hp s := smP_hp sm13
    have R23 : s3.1 23 = Int32.ofNat r' := by rw [hm.1, R1]
    have hrgF : rgF (hp s) n (nv s) (vd (nv s) (hp s 0)) r' (fun j => l (g' j)) := ⟨c, l, g', hcn, K2, K3, K4, R2, R3, R4, fun j hj => ⟨rfl, (R5 j hj).2⟩, R6, R7, R8⟩
    have rv := rgF_v hfc hrgF
    have b19 : s2.2.2.1 19 = s.2.2.1 19 := by rw [smr.2.2.1 19 (by decide), sml.2.2.1 19 (by decide)]
    have mR3 : mkR (hp s) n s s3 := by
      intro t
      rcases hm.2.2.2.2.2 t with q | ⟨q, j, hj, hj2⟩
      · rw [q, b19]
        exact .inl rfl
      · refine .inr ⟨q, ?_⟩
        have := rv.1 j hj
        rw [hj2]
        exact ⟨this.1, this.2.2⟩
    have mA3 : ∀ v, v < n → ex (hp s) n v → s3.2.2.1 19 v = 1 := by
      intro v hv xv
      obtain ⟨j, j1, j2⟩ := ring_ex hfc hdi' hrgF hv (hpl v hv) xv
      rw [← j2]
      exact hm.2.2.2.2.1 j j1
    have hr24 : ((24 : Int32) < Int32.ofNat r') = (24 < r') := i_lt (a := 24) (b := r') (by omega) (by omega)
    by_cases c24 : 24 < r'
    · rw [if_pos (by rw [hr24]; exact c24)]
      exact tail s3 F sm13 nv3 tb3 mR3 mA3 (by omega) (fun k' hk' => .inl ⟨k', hk', (er3 _).1, (er3 _).2.1⟩) (fun k hk => ⟨k, hk, (er3 _).1, (er3 _).2.1⟩) (fun h => absurd h (by omega))
    · rw [if_neg (by rw [hr24]; exact c24)]
      obtain ⟨d', ed2, hd', -⟩ := x_height (N := N) (p := 0) (s := s3) (by omega) (by rw [hp3]; exact hO.2.1 0 (by omega)) (by rw [nv3]; exact bn)
      have ed2' : mxX7_height N 0 s3 = some (s3, d') := ed2
      rw [nv3, hp3] at hd'
      rw [ed2', Option.bind_some]
      dsimp only
      obtain ⟨s4, pp, e5, p1, p2, p3, hI⟩ := x_faceHere (N := N) (g := g) (F := F) (r := r') (d := d') (s := s3) (by omega) hg hF (by omega) R23 tb3.1
      rw [hd'] at p2 p3 hI
      have tn := tbO_new (P := hp s) (ρ := fun j => l (g' j)) hg hF (by omega) tb3 p1 p2 p3 hI (by
        intro k hk' q
        rw [(er3 _).1, (er3 _).2.1, nv3] at q
        exact hk k hk' q) (by rw [nv3]; exact hfc) (by rw [nv3]; exact bn) (fun j hj => by rw [hm.2.2.2.1 22 (by decide)]; exact (R5 j hj).1) (by rw [nv3]; exact hrgF)
      rw [e5, Option.bind_some]
      have nv4 : nv s4 = nv s := by
        rw [← nv3]
        unfold nv
        rw [hI.1.2.1]
      have m19 : s4.2.2.1 19 = s3.2.2.1 19 := hI.1.2.2.1 19 (by decide) (by decide) (by decide)
      refine tail s4 (F + 1) (sm13.tr (smP_F hF hI)) nv4 tn.1 (mkR_e mR3 m19) (fun v hv xv => by rw [m19]; exact mA3 v hv xv) (by omega) (fun k' hk' => ?_) (fun k hk => ?_) (fun _ => ?_)
      · rcases rows_new hF p1 hI k' hk' with ⟨k1, q1, q2⟩ | ⟨q1, q2⟩
        · exact .inl ⟨k1, q1, by rw [q2.1, (er3 _).1], by rw [q2.2.1, (er3 _).2.1]⟩
        · exact .inr ⟨by rw [q1, nv3], q2⟩
      · obtain ⟨k', h2, h3, h4⟩ := tn.2.1 k hk
        exact ⟨k', h2, by rw [h3, (er3 _).1], by rw [h4, (er3 _).2.1]⟩
      · obtain ⟨k', h2, h3, h4⟩ := tn.2.2
        exact ⟨k', h2, by rw [h3, nv3], h4⟩
/-- the bounding planes of a plane figure: the plane from both sides -/
theorem fc_flat {P : Nat → V3} {n : Nat} {v m : V3} {d e : Int} (hx : ∃ x, vd v x = 1) (hpl : ∀ i, i < n → vd v (P i) = d) (hf : fc P n m e) : (m = v ∧ e = d) ∨ (m = vs v0 v ∧ e = -d) := by
  obtain ⟨-, ⟨i, j, k, hi, hj, hk, ei, ej, ek, hne⟩, ⟨y, hy⟩⟩ := hf
  have p1 := hpl i hi
  have p2 := hpl j hj
  have p3 := hpl k hk
  have c1 : vx m (vx (vs (P j) (P i)) (vs (P k) (P i))) = v0 := cross_along (by rw [vd_vs]; omega) (by rw [vd_vs]; omega)
  have c2 : vx v (vx (vs (P j) (P i)) (vs (P k) (P i))) = v0 := cross_along (by rw [vd_vs]; omega) (by rw [vd_vs]; omega)
  have c3 := along_along hne c2 c1
  obtain ⟨x, hx⟩ := hx
  rcases prim_eq hx hy c3 with q | q
  · rw [q] at ei
    exact .inl ⟨q, by omega⟩
  · rw [q, neg_vd] at ei
    exact .inr ⟨q, by omega⟩
theorem ex_first {s : mS} {n : Nat} (hO : hpO s n) : ex (hp s) n 0 := by
  refine ⟨vs v0 wO, fun k hk hk0 => ?_⟩
  rw [neg_vd, neg_vd]
  have := hO.2.2 0 k (by omega) hk
  omega
theorem ex_last {s : mS} {n : Nat} (hO : hpO s n) : ex (hp s) n (n - 1) := by
  refine ⟨wO, fun k hk hk0 => ?_⟩
  exact hO.2.2 k (n - 1) (by omega) (by omega)
/-- what hulls leaves: the marks of just those that are farthest along some way, and the table of FACES -/
def hlO (s s' : mS) (g n k : Nat) : Prop := smP g s s' ∧ (∀ p, p < n → s'.2.2.1 19 p = 1 ∧ ex (hp s) n p ∨ s'.2.2.1 19 p = 0 ∧ ¬ ex (hp s) n p) ∧ (∃ v, kdO (hp s) v n k) ∧ ∃ F, tbO (hp s) n s' g F ∧ (k < 3 → F = 0) ∧ (k = 3 → F ≤ 2) ∧ (3 ≤ k → n ≤ 24 ∨ k = 4 → ∀ m e, fc (hp s) n m e → ∃ j, j < F ∧ fN s' (64 * g + j) = m ∧ fD s' (64 * g + j) = e)
theorem kdO_le {P : Nat → V3} {v : V3} {n k : Nat} (h : kdO P v n k) : k ≤ 4 := by
  rcases h with ⟨h1, h2⟩ | ⟨h1, h2, h3⟩ | ⟨h1, ⟨h2, -⟩ | ⟨h2, -⟩, -⟩ <;> omega
theorem smP_C {g : Nat} {s s' : mS} (h : smC s s') : smP g s s' := ⟨fun k _ _ => by rw [h.1], fun k _ _ _ => by rw [h.2.1], fun k q _ _ _ _ _ => h.2.2.2 k q, fun k _ _ _ _ => by rw [h.2.2.1], fun k _ _ => rwE_of h.2.2.1 (h.2.2.2 32 (by decide)) (h.2.2.2 33 (by decide)), fun j _ _ => by rw [h.2.2.2 27 (by decide)]⟩
theorem smP_27 {g : Nat} (s : mS) (v : Int32) : smP g s (sA s 27 g v) := by
  refine ⟨fun k _ _ => rfl, fun k _ _ _ => rfl, fun k _ _ _ h _ _ => ?_, fun k _ _ _ _ => rfl, fun k _ _ => rwE_of rfl ?_ ?_, fun j hj hne => ?_⟩
  · exact (fr_sA s 27 g v).A (by simp [h])
  · exact (fr_sA s 27 g v).A (by decide)
  · exact (fr_sA s 27 g v).A (by decide)
  · rw [sA_at, if_neg (by omega)]
theorem x_hulls {N g n : Nat} {s : mS} (hN : 1000000 < N) (hg : g < 2) (hn : n ≤ 600) (hO : hpO s n) (h25 : ∀ v, kdO (hp s) v n 4 → n ≤ 25) : ∃ s' k, mxX7_hulls N (Int32.ofNat g) s = some (s', Int32.ofNat k) ∧ hlO s s' g n k := by
  unfold mxX7_hulls
  rw [wA2 rfl hg, Option.bind_some]
  have sm1 : smP g s (sA s 27 g 0) := smP_27 s 0
  have hp1 : hp (sA s 27 g 0) = hp s := smP_hp sm1
  have O1 : hpO (sA s 27 g 0) n := hpO_P sm1 hO
  obtain ⟨s2, k, e2, sm2, kd⟩ := x_kind (N := N) hn hN O1
  rw [hp1] at kd
  rw [e2, Option.bind_some]
  dsimp only
  have k4 := kdO_le kd
  have hp2 : hp s2 = hp s := by
    rw [smP_hp (smP_N (g := g) sm2), hp1]
  have O2 : hpO s2 n := hpO_P (smP_N (g := g) sm2) O1
  obtain ⟨h', smc, mk, e3⟩ := x_h14 (N := N) (g := g) hn k4 O2.1 n N 0 s2 (by omega) (by omega) ⟨rfl, rfl, rfl, fun _ _ => rfl⟩ (fun j hj => absurd hj (by omega))
  have e3' : mxX7_hulls_14 N N (Int32.ofNat g) (Int32.ofNat k) 0 s2 = if k = 3 then mxX7_hulls_70 N N (Int32.ofNat g) (Int32.ofNat k) 0 h' else mxX7_hulls_149 N (Int32.ofNat g) (Int32.ofNat k) h' := e3
  rw [e3']
  have smh : smP g s h' := (sm1.tr (smP_N sm2)).tr (smP_C smc)
  have hph : hp h' = hp s := smP_hp smh
  have Oh : hpO h' n := hpO_P smh hO
  have nvh : nv h' = nv s2 := by
    unfold nv
    rw [smc.2.1]
  have h27 : h'.2.2.1 27 g = 0 := by
    rw [smc.2.2.2 27 (by decide), sm2.2.1, sA_at, if_pos ⟨rfl, rfl⟩]
  have tb0 : tbO (hp s) n h' g 0 := ⟨h27, fun k hk => absurd hk (by omega), fun i j _ hj => absurd hj (by omega)⟩
  have k4e : (Int32.ofNat k = 4) = (k = 4) := by
    apply propext
    constructor
    · intro e
      exact i_inj (a := k) (b := 4) (by omega) (by omega) e
    · intro e
      rw [e]
      rfl
  rcases kd with ⟨q1, q2⟩ | ⟨q1, q2, q3⟩ | ⟨q1, q2, q3, q4, r, G, r1, G0, q5, q6⟩
  · rw [if_neg (by omega)]
    unfold mxX7_hulls_149
    rw [if_neg (by rw [k4e]; omega)]
    refine ⟨h', k, rfl, smh, fun p hp0 => .inl ⟨?_, ?_⟩, ⟨nv s2, .inl ⟨q1, q2⟩⟩, 0, tb0, fun _ => rfl, fun _ => by omega, fun h => absurd h (by omega)⟩
    · rw [mk p hp0]
      unfold mk0
      rw [if_pos]
      omega
    · by_cases w : p = 0
      · rw [w]
        exact ex_first hO
      · have : p = n - 1 := by omega
        rw [this]
        exact ex_last hO
  · rw [if_neg (by omega)]
    unfold mxX7_hulls_149
    rw [if_neg (by rw [k4e]; omega)]
    refine ⟨h', k, rfl, smh, fun p hp0 => ?_, ⟨nv s2, .inr (.inl ⟨q1, q2, q3⟩)⟩, 0, tb0, fun _ => rfl, fun _ => by omega, fun h => absurd h (by omega)⟩
    rw [mk p hp0]
    unfold mk0
    by_cases w : p = 0
    · rw [if_pos (.inr ⟨q2, .inl w⟩), w]
      exact .inl ⟨rfl, ex_first hO⟩
    · by_cases w2 : p = n - 1
      · rw [if_pos (.inr ⟨q2, .inr w2⟩), w2]
        exact .inl ⟨rfl, ex_last hO⟩
      · rw [if_neg (by omega)]
        refine .inr ⟨rfl, fun xp => ?_⟩
        have ne10 : vs (hp s 1) (hp s 0) ≠ v0 := by
          intro e
          have := hO.2.2 0 1 (by omega) (by omega)
          have e2 : vd wO (vs (hp s 1) (hp s 0)) = 0 := by
            rw [e, vd_comm, vd_0]
          rw [vd_vs] at e2
          omega
        refine mid_off (hpO_ord hO) (a := 0) (b := n - 1) (by omega) (by omega) (by omega) xp ?_
        exact line_line ne10 (by rw [vs_self, vx_0]) (vx_anti0 (q3 p hp0)) (vx_anti0 (q3 (n - 1) (by omega)))
  · rcases q2 with ⟨k3, q2⟩ | ⟨k4', i, hi, q2⟩
    · rw [if_pos k3]
      have mk' : ∀ p, p < n → h'.2.2.1 19 p = 0 := by
        intro p hp0
        rw [mk p hp0]
        unfold mk0
        rw [if_neg (by omega)]
      have hne : ∃ i j k, i < n ∧ j < n ∧ k < n ∧ vx (vs (hp h' j) (hp h' i)) (vs (hp h' k) (hp h' i)) ≠ v0 := by
        rw [hph]
        exact ⟨0, 1, r, by omega, by omega, r1, q6⟩
      obtain ⟨N', rfl⟩ : ∃ N', N = N' + 3 := ⟨N - 3, by omega⟩
      obtain ⟨s3, F3, sm3, nv3, b3, tb3, mR3, mA3, F3', rows3, -, new3, e4⟩ := x_flat1 (N := N' + 3) (f := N' + 2) (sd := 0) hN hg hn q1 Oh (by rw [hph]; exact tb0) (by omega) (by rw [nvh]; exact q4) (by rw [nvh]; exact q3) (by rw [nvh, hph]; exact q2) hne (fun k hk => absurd hk (by omega)) (by decide)
      have hp3 : hp s3 = hp s := by rw [smP_hp sm3, hph]
      rw [hph, nvh] at rows3 new3
      rw [hph] at tb3 mR3 mA3
      rw [nvh] at nv3
      have hne3 : ∃ i j k, i < n ∧ j < n ∧ k < n ∧ vx (vs (hp s3 j) (hp s3 i)) (vs (hp s3 k) (hp s3 i)) ≠ v0 := by
        rw [hp3]
        exact ⟨0, 1, r, by omega, by omega, r1, q6⟩
      obtain ⟨s4, F4, sm4, nv4, b4, tb4, mR4, mA4, F4', rows4, mono4, new4, e5⟩ := x_flat1 (N := N' + 3) (f := N' + 1) (sd := 1) hN hg hn q1 (hpO_P sm3 Oh) (by rw [hp3]; exact tb3) (by omega) (by rw [nv3]; exact prim_neg q4) b3 (by rw [nv3, hp3]; intro i hi; rw [neg_vd, neg_vd, q2 i hi]) hne3 (by
        intro k hk q
        rcases rows3 k hk with ⟨k1, w1, -⟩ | ⟨w1, -⟩
        · omega
        · rw [w1, nv3] at q
          have p0 := prim_pos q4
          have e : vd (nv s2) (nv s2) = - vd (nv s2) (nv s2) := by
            have := congrArg (fun v => vd v (nv s2)) q.1
            rw [neg_vd] at this
            exact this
          omega) (by decide)
      rw [hp3, nv3] at rows4 new4
      rw [hp3] at tb4 mR4 mA4
      subst k3
      refine ⟨s4, 3, ?_, (smh.tr sm3).tr sm4, fun p hp0 => ?_, ⟨nv s2, .inr (.inr ⟨q1, .inl ⟨rfl, q2⟩, q3, q4, r, G, r1, G0, q5, q6⟩)⟩, F4, tb4, fun h => absurd h (by omega), fun _ => by omega, fun _ h24 m e hf => ?_⟩
      · have e4' : mxX7_hulls_70 (N' + 3) (N' + 3) (Int32.ofNat g) (Int32.ofNat 3) 0 h' = mxX7_hulls_70 (N' + 3) (N' + 2) (Int32.ofNat g) 3 (0 + 1) s3 := e4
        have e5' : mxX7_hulls_70 (N' + 3) (N' + 2) (Int32.ofNat g) 3 (0 + 1) s3 = mxX7_hulls_70 (N' + 3) (N' + 1) (Int32.ofNat g) 3 (1 + 1) s4 := e5
        rw [e4', e5', mxX7_hulls_70, if_pos (by decide)]
        unfold mxX7_hulls_149
        rw [if_neg (by decide)]
        rfl
      · by_cases xp : ex (hp s) n p
        · exact .inl ⟨mA4 p hp0 xp, xp⟩
        · refine .inr ⟨?_, xp⟩
          rcases mR4 p with w | ⟨-, -, w⟩
          · rw [w]
            rcases mR3 p with w | ⟨-, -, w⟩
            · rw [w, mk' p hp0]
            · exact absurd w xp
          · exact absurd w xp
      · have n24 : n ≤ 24 := by omega
        rcases fc_flat q4 q2 hf with ⟨w1, w2⟩ | ⟨w1, w2⟩
        · obtain ⟨j, j1, j2, j3⟩ := new3 n24
          obtain ⟨j', l1, l2, l3⟩ := mono4 j j1
          exact ⟨j', l1, by rw [l2, j2, w1], by rw [l3, j3, w2]⟩
        · obtain ⟨j, j1, j2, j3⟩ := new4 n24
          exact ⟨j, j1, by rw [j2, w1], by rw [j3, w2, neg_vd]⟩
    · have kd4 : kdO (hp s) (nv s2) n 4 := .inr (.inr ⟨q1, .inr ⟨rfl, i, hi, q2⟩, q3, q4, r, G, r1, G0, q5, q6⟩)
      have hfull := kd_full kd4 q1
      have n25 := h25 _ kd4
      rw [if_neg (by omega)]
      unfold mxX7_hulls_149
      rw [if_pos (by rw [k4e]; exact k4')]
      obtain ⟨s3, F, e4, sm3, mR, tb, mA, all⟩ := x_planes (N := N) hN hg n25 Oh (by rw [hph]; exact hfull) h27
      rw [hph] at mR tb mA all
      rw [e4, Option.bind_some]
      refine ⟨s3, k, rfl, smh.tr sm3, fun p hp0 => ?_, ⟨nv s2, by rw [k4']; exact kd4⟩, F, tb, fun h => absurd h (by omega), fun h => absurd h (by omega), fun _ _ => all⟩
      by_cases xp : ex (hp s) n p
      · obtain ⟨m, e, f1, f2⟩ := ex_face hfull hp0 xp
        obtain ⟨j, j1, j2, j3⟩ := all m e f1
        exact .inl ⟨mA j j1 p hp0 (by rw [j2, j3]; exact f2) xp, xp⟩
      · refine .inr ⟨?_, xp⟩
        rcases mR p with w | ⟨-, -, w⟩
        · rw [w, mk p hp0]
          unfold mk0
          rw [if_neg (by omega)]
        · exact absurd w xp
