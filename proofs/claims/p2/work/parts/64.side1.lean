theorem prim_pos {n : V3} (h : ∃ x, vd n x = 1) : 0 < vd n n := by
  apply vd_pos
  intro e
  obtain ⟨x, hx⟩ := h
  rw [e] at hx
  simp [vd, v0] at hx
theorem neg_vd (n p : V3) : vd (vs v0 n) p = - vd n p := by
  obtain ⟨n1, n2, n3⟩ := n
  obtain ⟨p1, p2, p3⟩ := p
  simp only [vd, vs, v0]
  grind
/-- planes, one side of three points' plane -/
theorem x_side1 {N g n F p q r f : Nat} {sd : Int32} {rec2 : Int32 → Int32 → mS → Option mS} {rec14 : Int32 → Int32 → Int32 → mS → Option mS} {rec27 : Int32 → Int32 → Int32 → Int32 → mS → Option mS} {s : mS} (hN : 1000000 < N) (hg : g < 2) (hn : n ≤ 25) (hO : hpO s n) (hfull : full (hp s) n) (ht : tbO (hp s) n s g F) (hx : ∃ x, vd (nv s) x = 1) (bn : bd3 (nv s) 320000) (hpq : p < q) (hqr : q < r) (hr : r < n) (eq1 : vd (nv s) (hp s q) = vd (nv s) (hp s p)) (eq2 : vd (nv s) (hp s r) = vd (nv s) (hp s p)) (hne : vx (vs (hp s q) (hp s p)) (vs (hp s r) (hp s p)) ≠ v0) (hsd : ¬ ((2 : Int32) ≤ sd)) :
    ∃ s' F', smP g s s' ∧ nv s' = vs v0 (nv s) ∧ bd3 (nv s') 320000 ∧ tbO (hp s) n s' g F' ∧ (∀ k, k < F → ∃ k', k' < F' ∧ fN s' (64 * g + k') = fN s (64 * g + k) ∧ fD s' (64 * g + k') = fD s (64 * g + k)) ∧ (fc (hp s) n (nv s) (vd (nv s) (hp s p)) → ∃ k', k' < F' ∧ fN s' (64 * g + k') = nv s ∧ fD s' (64 * g + k') = vd (nv s) (hp s p)) ∧ mxX7_planes_61 N rec2 rec14 rec27 (f + 1) (Int32.ofNat g) (Int32.ofNat p) (Int32.ofNat q) (Int32.ofNat r) sd s = mxX7_planes_61 N rec2 rec14 rec27 f (Int32.ofNat g) (Int32.ofNat p) (Int32.ofNat q) (Int32.ofNat r) (sd + 1) s' := by
  have tail : ∀ (t : mS) (F' : Nat), smP g s t → nv t = nv s → tbO (hp s) n t g F' → (∀ k, k < F → ∃ k', k' < F' ∧ fN t (64 * g + k') = fN s (64 * g + k) ∧ fD t (64 * g + k') = fD s (64 * g + k)) → (fc (hp s) n (nv s) (vd (nv s) (hp s p)) → ∃ k', k' < F' ∧ fN t (64 * g + k') = nv s ∧ fD t (64 * g + k') = vd (nv s) (hp s p)) → ∃ s' F', smP g s s' ∧ nv s' = vs v0 (nv s) ∧ bd3 (nv s') 320000 ∧ tbO (hp s) n s' g F' ∧ (∀ k, k < F → ∃ k', k' < F' ∧ fN s' (64 * g + k') = fN s (64 * g + k) ∧ fD s' (64 * g + k') = fD s (64 * g + k)) ∧ (fc (hp s) n (nv s) (vd (nv s) (hp s p)) → ∃ k', k' < F' ∧ fN s' (64 * g + k') = nv s ∧ fD s' (64 * g + k') = vd (nv s) (hp s p)) ∧ mxX7_planes_135 N rec2 rec14 rec27 (mxX7_planes_61 N rec2 rec14 rec27 f) (Int32.ofNat g) (Int32.ofNat p) (Int32.ofNat q) (Int32.ofNat r) sd t = mxX7_planes_61 N rec2 rec14 rec27 f (Int32.ofNat g) (Int32.ofNat p) (Int32.ofNat q) (Int32.ofNat r) (sd + 1) s' := by
    intro t F' sm en tb mono new
    obtain ⟨t', e, e1, e2, smn⟩ := x_turns (N := N) (s := t) (by rw [en]; exact bn)
    have er : ∀ k, rwE t' k t k := fun k => rwE_of (by rw [smn.2.1]) (by rw [smn.2.1]) (by rw [smn.2.1])
    refine ⟨t', F', sm.tr (smP_N smn), by rw [e1, en], e2, tbO_same tb (by rw [smn.2.1]) (by rw [smn.2.1]) (by rw [smn.2.1]) (by rw [smn.2.1]), ?_, ?_, ?_⟩
    · intro k hk
      obtain ⟨k', h1, h2, h3⟩ := mono k hk
      exact ⟨k', h1, by rw [(er _).1, h2], by rw [(er _).2.1, h3]⟩
    · intro hf
      obtain ⟨k', h1, h2, h3⟩ := new hf
      exact ⟨k', h1, by rw [(er _).1, h2], by rw [(er _).2.1, h3]⟩
    · unfold mxX7_planes_135
      rw [e, Option.bind_some]
  have hFle := tbO_le (hpO_ord hO) hfull ht
  have hF : F < 64 := by omega
  obtain ⟨d, ed, hd, -⟩ := x_height (N := N) (p := p) (s := s) (by omega) (hO.2.1 p (by omega)) bn
  rw [mxX7_planes_61, if_neg hsd, ed, Option.bind_some]
  dsimp only
  rcases x_known (N := N) (g := g) (F := F) (d := d) (s := s) hg (by omega) (by omega) ht.1 with ⟨e1, k, hk, k1, k2⟩ | ⟨e1, hk⟩
  · rw [e1, Option.bind_some]
    dsimp only
    rw [if_neg (by decide)]
    rw [hd] at k2
    exact tail s F smP.rf rfl ht (fun k hk => ⟨k, hk, rfl, rfl⟩) (fun _ => ⟨k, hk, k1, k2⟩)
  · rw [e1, Option.bind_some]
    dsimp only
    rw [if_pos rfl]
    obtain ⟨s1, sml, h1⟩ := x_lists (N := N) (d := d) (s := s) (by omega) (by omega) hO bn
    have tb1 : tbO (hp s) n s1 g F := tbO_same ht sml.2.2.2 (sml.2.2.1 32 (by decide)) (sml.2.2.1 33 (by decide)) (sml.2.2.1 27 (by decide))
    have er1 : ∀ k, rwE s1 k s k := fun k => rwE_of sml.2.2.2 (sml.2.2.1 32 (by decide)) (sml.2.2.1 33 (by decide))
    rcases h1 with ⟨e2, i, hi, hi2⟩ | ⟨e2, c, l, hlo, hcn, hK⟩
    · rw [e2, Option.bind_some]
      dsimp only
      rw [if_pos rfl]
      refine tail s1 F (smP_L sml) (smL_nv sml) tb1 (fun k hk => ⟨k, hk, (er1 _).1, (er1 _).2.1⟩) (fun hf => ?_)
      have := hf.1 i hi
      omega
    · rw [e2, Option.bind_some]
      dsimp only
      rw [if_neg (by decide)]
      rw [hd] at hK
      obtain ⟨K1, K2, K3, K4⟩ := hK
      have hfc : fc (hp s) n (nv s) (vd (nv s) (hp s p)) := ⟨K1, ⟨p, q, r, by omega, by omega, hr, rfl, eq1, eq2, hne⟩, hx⟩
      obtain ⟨jp, jp1, jp2⟩ := K4 p (by omega) rfl
      obtain ⟨jq, jq1, jq2⟩ := K4 q (by omega) eq1
      have hc2 : 2 ≤ c := by
        by_cases w : jp = jq
        · rw [w] at jp2
          omega
        · omega
      have hhp : hp s1 = hp s := funext fun k => smL_hp sml k
      have hnv : nv s1 = nv s := smL_nv sml
      have hdi : ∀ i j, i < c → j < c → i ≠ j → hp s1 (l i) ≠ hp s1 (l j) := by
        intro i j hi hj hij e
        rw [hhp] at e
        by_cases w : i < j
        · have h2 := hO.2.2 (l i) (l j) (K3 i j w hj) (K2 j hj).1
          rw [e] at h2
          omega
        · have h2 := hO.2.2 (l j) (l i) (K3 j i (by omega) hi) (K2 i hi).1
          rw [e] at h2
          omega
      have he0 : ex (fun k => hp s1 (l k)) c 0 := by
        refine ⟨vs v0 wO, fun k hk hk0 => ?_⟩
        rw [neg_vd, neg_vd, hhp]
        show - vd wO (hp s (l k)) < - vd wO (hp s (l 0))
        have := hO.2.2 (l 0) (l k) (K3 0 k (by omega) hk) (K2 k hk).1
        omega
      obtain ⟨s2, r', g', e3, smr, hrg⟩ := x_rings (N := N) (c := c) (l := l) (d := vd (nv s) (hp s p)) (s := s1) ⟨hlo, by omega, fun j hj => ⟨by have := (K2 j hj).1; omega, by rw [hhp]; exact hO.2.1 _ (K2 j hj).1⟩, by rw [hnv]; exact bn, K3⟩ (by rw [hnv]; exact prim_pos hx) (by intro k hk; rw [hnv, hhp]; exact (K2 k hk).2) hdi hc2 (by omega) he0
      rw [hnv, hhp] at hrg
      obtain ⟨R1, R2, R3, R4, R5, R6, R7, R8⟩ := hrg
      rw [e3, Option.bind_some]
      obtain ⟨s3, hm, e4⟩ := x_mark (N := N) (r := r') (ρ := fun j => l (g' j)) (x1 := Int32.ofNat g) (x2 := Int32.ofNat p) (x3 := Int32.ofNat q) (x4 := Int32.ofNat r) (x5 := sd) (d := d) (rec2 := rec2) (rec14 := rec14) (rec27 := rec27) (rec61 := mxX7_planes_61 N rec2 rec14 rec27 f) (s := s2) (by omega) R1 (fun j hj => ⟨(R5 j hj).1, by have := (K2 (g' j) (R5 j hj).2.1).1; show l (g' j) < 600; omega⟩) r' N 0 s2 (by omega) (by omega) ⟨rfl, rfl, rfl, fun _ _ => rfl, fun j hj => absurd hj (by omega), fun _ => .inl rfl⟩
      have e4' : mxX7_planes_100 N rec2 rec14 rec27 (mxX7_planes_61 N rec2 rec14 rec27 f) N (Int32.ofNat g) (Int32.ofNat p) (Int32.ofNat q) (Int32.ofNat r) sd d 0 s2 = (mxX7_faceHere N (Int32.ofNat g) d s3).bind fun o => mxX7_planes_135 N rec2 rec14 rec27 (mxX7_planes_61 N rec2 rec14 rec27 f) (Int32.ofNat g) (Int32.ofNat p) (Int32.ofNat q) (Int32.ofNat r) sd o := e4
      rw [e4']
      have sm13 : smP g s s3 := ((smP_L sml).tr (smP_R smr)).tr (smP_M hm)
      have G3 : s3.2.2.2 = s.2.2.2 := by rw [hm.2.2.1, smr.2.2.2, sml.2.2.2]
      have A3 : ∀ k, ¬ k = 19 → ¬ k = 20 → ¬ k = 22 → s3.2.2.1 k = s.2.2.1 k := fun k k1 k2 k3 => by rw [hm.2.2.2.1 k k1, smr.2.2.1 k k3, sml.2.2.1 k k2]
      have tb3 : tbO (hp s) n s3 g F := tbO_same ht G3 (A3 32 (by decide) (by decide) (by decide)) (A3 33 (by decide) (by decide) (by decide)) (A3 27 (by decide) (by decide) (by decide))
      have er3 : ∀ k, rwE s3 k s k := fun k => rwE_of G3 (A3 32 (by decide) (by decide) (by decide)) (A3 33 (by decide) (by decide) (by decide))
      have nv3 : nv s3 = nv s := by
        unfold nv
        rw [hm.2.1, smr.2.1, sml.2.1]
      have R23 : s3.1 23 = Int32.ofNat r' := by rw [hm.1, R1]
      obtain ⟨s4, pp, e5, p1, p2, p3, hI⟩ := x_faceHere (N := N) (g := g) (F := F) (r := r') (d := d) (s := s3) (by omega) hg hF (by omega) R23 tb3.1
      rw [hd] at p2 p3 hI
      have hrgF : rgF (hp s) n (nv s) (vd (nv s) (hp s p)) r' (fun j => l (g' j)) := ⟨c, l, g', hcn, K2, K3, K4, R2, R3, R4, fun j hj => ⟨rfl, (R5 j hj).2⟩, R6, R7, R8⟩
      have tn := tbO_new (P := hp s) (ρ := fun j => l (g' j)) hg hF (by omega) tb3 p1 p2 p3 hI (by
        intro k hk' q
        rw [(er3 _).1, (er3 _).2.1, nv3] at q
        exact hk k hk' ⟨q.1, by rw [hd]; exact q.2⟩) (by rw [nv3]; exact hfc) (by rw [nv3]; exact bn) (fun j hj => by rw [hm.2.2.2.1 22 (by decide)]; exact (R5 j hj).1) (by rw [nv3]; exact hrgF)
      rw [e5, Option.bind_some]
      have nv4 : nv s4 = nv s := by
        rw [← nv3]
        unfold nv
        rw [hI.1.2.1]
      refine tail s4 (F + 1) (sm13.tr (smP_F hF hI)) nv4 tn.1 (fun k hk => ?_) (fun _ => ?_)
      · obtain ⟨k', h2, h3, h4⟩ := tn.2.1 k hk
        exact ⟨k', h2, by rw [h3, (er3 _).1], by rw [h4, (er3 _).2.1]⟩
      · obtain ⟨k', h2, h3, h4⟩ := tn.2.2
        exact ⟨k', h2, by rw [h3, nv3], h4⟩
