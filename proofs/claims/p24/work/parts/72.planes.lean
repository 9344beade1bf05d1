/-- the marks that were set since: of points that are farthest along some way -/
def mkR (P : Nat → V3) (n : Nat) (s s' : mS) : Prop := ∀ t, s'.2.2.1 19 t = s.2.2.1 19 t ∨ s'.2.2.1 19 t = 1 ∧ t < n ∧ ex P n t
theorem mkR.rf {P : Nat → V3} {n : Nat} {s : mS} : mkR P n s s := fun _ => .inl rfl
theorem mkR.tr {P : Nat → V3} {n : Nat} {a b c : mS} (h : mkR P n a b) (g : mkR P n b c) : mkR P n a c := by
  intro t
  rcases g t with e | e
  · rw [e]
    exact h t
  · exact .inr e
theorem mkR_e {P : Nat → V3} {n : Nat} {a b c : mS} (h : mkR P n a b) (e : c.2.2.1 19 = b.2.2.1 19) : mkR P n a c := by
  intro t
  rw [e]
  exact h t
/-- every point of a plane of the table that is farthest along some way is marked -/
def mkA (P : Nat → V3) (n : Nat) (s : mS) (g F : Nat) : Prop := ∀ k, k < F → ∀ v, v < n → vd (fN s (64 * g + k)) (P v) = fD s (64 * g + k) → ex P n v → s.2.2.1 19 v = 1
theorem mkA_same {P : Nat → V3} {n g F : Nat} {s s' : mS} (h : mkA P n s g F) (h1 : s'.2.2.2 = s.2.2.2) (h2 : s'.2.2.1 19 = s.2.2.1 19) : mkA P n s' g F := by
  intro k hk v hv e
  have e1 : fN s' (64 * g + k) = fN s (64 * g + k) := by
    unfold fN
    rw [h1]
  have e2 : fD s' (64 * g + k) = fD s (64 * g + k) := by
    unfold fD
    rw [h1]
  rw [e1, e2] at e
  rw [h2]
  exact h k hk v hv e
/-- the rows behind a new FACE: an old one each, or the new one -/
theorem rows_new {g p F r : Nat} {d : Int} {s s' : mS} (hF : F < 64) (hp : p ≤ F) (hI : fcI s s' g (64 * g + p) (64 * g + F) r d) : ∀ k', k' < F + 1 → (∃ k, k < F ∧ rwE s' (64 * g + k') s (64 * g + k)) ∨ fN s' (64 * g + k') = nv s ∧ fD s' (64 * g + k') = d := by
  intro k' hk
  obtain ⟨-, ilo, ⟨i1, i2, -, -⟩, imid, -, -⟩ := hI
  by_cases w1 : k' < p
  · exact .inl ⟨k', by omega, ilo _ (by omega)⟩
  · by_cases w2 : k' = p
    · rw [w2]
      exact .inr ⟨i1, i2⟩
    · have := imid (64 * g + k') (by omega) (by omega)
      rw [show 64 * g + k' - 1 = 64 * g + (k' - 1) by omega] at this
      exact .inl ⟨k' - 1, by omega, this⟩
/-- every point of a bounding plane that is farthest along some way stands in its RING -/
theorem ring_ex {P : Nat → V3} {m r v : Nat} {n : V3} {d : Int} {ρ : Nat → Nat} (hf : fc P m n d) (hdi : ∀ i j, i < m → j < m → i ≠ j → P i ≠ P j) (h : rgF P m n d r ρ) (hv : v < m) (ev : vd n (P v) = d) (xv : ex P m v) : ∃ j, j < r ∧ ρ j = v := by
  have r3 := ring3 hf hdi h
  obtain ⟨c, l, g, hc, hl, hlt, hall, r1, rc, g0, hg, gd, gx, gr⟩ := h
  obtain ⟨w, w1, w2⟩ := hall v hv ev
  have xw : ex (fun k => P (l k)) c w := by
    obtain ⟨u, hu⟩ := xv
    refine ⟨u, fun k hk hkw => ?_⟩
    show vd u (P (l k)) < vd u (P (l w))
    rw [w2]
    refine hu (l k) (hl k hk).1 (fun q => hkw ?_)
    exact l_inj hlt hk w1 (by rw [q, w2])
  obtain ⟨j, j1, j2⟩ := ring_all (Q := fun k => P (l k)) (prim_pos hf.2.2) (fun k hk => (hl k hk).2) r3 g0 gr (fun j hj => (hg j hj).2) gd gx w1 xw
  exact ⟨j, j1, by rw [(hg j j1).1, j2, w2]⟩
/-- planes, one side of three points' plane -/
theorem x_side1 {N g n F p q r f : Nat} {sd : Int32} {rec2 : Int32 → Int32 → mS → Option mS} {rec14 : Int32 → Int32 → Int32 → mS → Option mS} {rec27 : Int32 → Int32 → Int32 → Int32 → mS → Option mS} {s : mS} (hN : 1000000 < N) (hg : g < 2) (hn : n ≤ 25) (hO : hpO s n) (hfull : full (hp s) n) (ht : tbO (hp s) n s g F) (hA : mkA (hp s) n s g F) (hx : ∃ x, vd (nv s) x = 1) (bn : bd3 (nv s) 320000) (hpq : p < q) (hqr : q < r) (hr : r < n) (eq1 : vd (nv s) (hp s q) = vd (nv s) (hp s p)) (eq2 : vd (nv s) (hp s r) = vd (nv s) (hp s p)) (hne : vx (vs (hp s q) (hp s p)) (vs (hp s r) (hp s p)) ≠ v0) (hsd : ¬ ((2 : Int32) ≤ sd)) :
    ∃ s' F', smP g s s' ∧ nv s' = vs v0 (nv s) ∧ bd3 (nv s') 320000 ∧ tbO (hp s) n s' g F' ∧ mkR (hp s) n s s' ∧ mkA (hp s) n s' g F' ∧ (∀ k, k < F → ∃ k', k' < F' ∧ fN s' (64 * g + k') = fN s (64 * g + k) ∧ fD s' (64 * g + k') = fD s (64 * g + k)) ∧ (fc (hp s) n (nv s) (vd (nv s) (hp s p)) → ∃ k', k' < F' ∧ fN s' (64 * g + k') = nv s ∧ fD s' (64 * g + k') = vd (nv s) (hp s p)) ∧ mxX7_planes_61 N rec2 rec14 rec27 (f + 1) (Int32.ofNat g) (Int32.ofNat p) (Int32.ofNat q) (Int32.ofNat r) sd s = mxX7_planes_61 N rec2 rec14 rec27 f (Int32.ofNat g) (Int32.ofNat p) (Int32.ofNat q) (Int32.ofNat r) (sd + 1) s' := by
  have tail : ∀ (t : mS) (F' : Nat), smP g s t → nv t = nv s → tbO (hp s) n t g F' → mkR (hp s) n s t → mkA (hp s) n t g F' → (∀ k, k < F → ∃ k', k' < F' ∧ fN t (64 * g + k') = fN s (64 * g + k) ∧ fD t (64 * g + k') = fD s (64 * g + k)) → (fc (hp s) n (nv s) (vd (nv s) (hp s p)) → ∃ k', k' < F' ∧ fN t (64 * g + k') = nv s ∧ fD t (64 * g + k') = vd (nv s) (hp s p)) → ∃ s' F', smP g s s' ∧ nv s' = vs v0 (nv s) ∧ bd3 (nv s') 320000 ∧ tbO (hp s) n s' g F' ∧ mkR (hp s) n s s' ∧ mkA (hp s) n s' g F' ∧ (∀ k, k < F → ∃ k', k' < F' ∧ fN s' (64 * g + k') = fN s (64 * g + k) ∧ fD s' (64 * g + k') = fD s (64 * g + k)) ∧ (fc (hp s) n (nv s) (vd (nv s) (hp s p)) → ∃ k', k' < F' ∧ fN s' (64 * g + k') = nv s ∧ fD s' (64 * g + k') = vd (nv s) (hp s p)) ∧ mxX7_planes_135 N rec2 rec14 rec27 (mxX7_planes_61 N rec2 rec14 rec27 f) (Int32.ofNat g) (Int32.ofNat p) (Int32.ofNat q) (Int32.ofNat r) sd t = mxX7_planes_61 N rec2 rec14 rec27 f (Int32.ofNat g) (Int32.ofNat p) (Int32.ofNat q) (Int32.ofNat r) (sd + 1) s' := by
    intro t F' sm en tb mR mA mono new
    obtain ⟨t', e, e1, e2, smn⟩ := x_turns (N := N) (s := t) (by rw [en]; exact bn)
    have er : ∀ k, rwE t' k t k := fun k => rwE_of (by rw [smn.2.1]) (by rw [smn.2.1]) (by rw [smn.2.1])
    refine ⟨t', F', sm.tr (smP_N smn), by rw [e1, en], e2, tbO_same tb (by rw [smn.2.1]) (by rw [smn.2.1]) (by rw [smn.2.1]) (by rw [smn.2.1]), mkR_e mR (by rw [smn.2.1]), mkA_same mA (by rw [smn.2.1]) (by rw [smn.2.1]), ?_, ?_, ?_⟩
    · intro k hk
      obtain ⟨k', h1, h2, h3⟩ := mono k hk
      exact ⟨k', h1, by rw [(er _).1, h2], by rw [(er _).2.1, h3]⟩
    · intro hf
      obtain ⟨k', h1, h2, h3⟩ := new hf
      exact ⟨k', h1, by rw [(er _).1, h2], by rw [(er _).2.1, h3]⟩
    · unfold mxX7_planes_135
      rw [e, Option.bind_some]
  have hFle := tbO_le (hpO_ord hO) hfull ht
  have hF : F < 64 := by omega
  obtain ⟨d, ed, hd, -⟩ := x_height (N := N) (p := p) (s := s) (by omega) (hO.2.1 p (by omega)) bn
  rw [mxX7_planes_61, if_neg hsd, ed, Option.bind_some]
  dsimp only
  rcases x_known (N := N) (g := g) (F := F) (d := d) (s := s) hg (by omega) (by omega) ht.1 with ⟨e1, k, hk, k1, k2⟩ | ⟨e1, hk⟩
  · rw [e1, Option.bind_some]
    dsimp only
    rw [if_neg (by decide)]
    rw [hd] at k2
    exact tail s F smP.rf rfl ht mkR.rf hA (fun k hk => ⟨k, hk, rfl, rfl⟩) (fun _ => ⟨k, hk, k1, k2⟩)
  · rw [e1, Option.bind_some]
    dsimp only
    rw [if_pos rfl]
    obtain ⟨s1, sml, h1⟩ := x_lists (N := N) (d := d) (s := s) (by omega) (by omega) hO bn
    have tb1 : tbO (hp s) n s1 g F := tbO_same ht sml.2.2.2 (sml.2.2.1 32 (by decide)) (sml.2.2.1 33 (by decide)) (sml.2.2.1 27 (by decide))
    have er1 : ∀ k, rwE s1 k s k := fun k => rwE_of sml.2.2.2 (sml.2.2.1 32 (by decide)) (sml.2.2.1 33 (by decide))
    rcases h1 with ⟨e2, i, hi, hi2⟩ | ⟨e2, c, l, hlo, hcn, hK⟩
    · rw [e2, Option.bind_some]
      dsimp only
      rw [if_pos rfl]
      refine tail s1 F (smP_L sml) (smL_nv sml) tb1 (mkR_e mkR.rf (sml.2.2.1 19 (by decide))) (mkA_same hA sml.2.2.2 (sml.2.2.1 19 (by decide))) (fun k hk => ⟨k, hk, (er1 _).1, (er1 _).2.1⟩) (fun hf => ?_)
      have := hf.1 i hi
      omega
    · rw [e2, Option.bind_some]
      dsimp only
      rw [if_neg (by decide)]
      rw [hd] at hK
      obtain ⟨K1, K2, K3, K4⟩ := hK
      have hfc : fc (hp s) n (nv s) (vd (nv s) (hp s p)) := ⟨K1, ⟨p, q, r, by omega, by omega, hr, rfl, eq1, eq2, hne⟩, hx⟩
      obtain ⟨jp, jp1, jp2⟩ := K4 p (by omega) rfl
      obtain ⟨jq, jq1, jq2⟩ := K4 q (by omega) eq1
      have hc2 : 2 ≤ c := by
        by_cases w : jp = jq
        · rw [w] at jp2
          omega
        · omega
      have hhp : hp s1 = hp s := funext fun k => smL_hp sml k
      have hnv : nv s1 = nv s := smL_nv sml
      have hdi : ∀ i j, i < c → j < c → i ≠ j → hp s1 (l i) ≠ hp s1 (l j) := by
        intro i j hi hj hij e
        rw [hhp] at e
        by_cases w : i < j
        · have h2 := hO.2.2 (l i) (l j) (K3 i j w hj) (K2 j hj).1
          rw [e] at h2
          omega
        · have h2 := hO.2.2 (l j) (l i) (K3 j i (by omega) hi) (K2 i hi).1
          rw [e] at h2
          omega
      have he0 : ex (fun k => hp s1 (l k)) c 0 := by
        refine ⟨vs v0 wO, fun k hk hk0 => ?_⟩
        rw [neg_vd, neg_vd, hhp]
        show - vd wO (hp s (l k)) < - vd wO (hp s (l 0))
        have := hO.2.2 (l 0) (l k) (K3 0 k (by omega) hk) (K2 k hk).1
        omega
      obtain ⟨s2, r', g', e3, smr, hrg⟩ := x_rings (N := N) (c := c) (l := l) (d := vd (nv s) (hp s p)) (s := s1) ⟨hlo, by omega, fun j hj => ⟨by have := (K2 j hj).1; omega, by rw [hhp]; exact hO.2.1 _ (K2 j hj).1⟩, by rw [hnv]; exact bn, K3⟩ (by rw [hnv]; exact prim_pos hx) (by intro k hk; rw [hnv, hhp]; exact (K2 k hk).2) hdi hc2 (by omega) he0
      rw [hnv, hhp] at hrg
      obtain ⟨R1, R2, R3, R4, R5, R6, R7, R8⟩ := hrg
      rw [e3, Option.bind_some]
      obtain ⟨s3, hm, e4⟩ := x_mark (N := N) (r := r') (ρ := fun j => l (g' j)) (x1 := Int32.ofNat g) (x2 := Int32.ofNat p) (x3 := Int32.ofNat q) (x4 := Int32.ofNat r) (x5 := sd) (d := d) (rec2 := rec2) (rec14 := rec14) (rec27 := rec27) (rec61 := mxX7_planes_61 N rec2 rec14 rec27 f) (s := s2) (by omega) R1 (fun j hj => ⟨(R5 j hj).1, by have := (K2 (g' j) (R5 j hj).2.1).1; show l (g' j) < 600; omega⟩) r' N 0 s2 (by omega) (by omega) ⟨rfl, rfl, rfl, fun _ _ => rfl, fun j hj => absurd hj (by omega), fun _ => .inl rfl⟩
      have e4' : mxX7_planes_100 N rec2 rec14 rec27 (mxX7_planes_61 N rec2 rec14 rec27 f) N (Int32.ofNat g) (Int32.ofNat p) (Int32.ofNat q) (Int32.ofNat r) sd d 0 s2 = (mxX7_faceHere N (Int32.ofNat g) d s3).bind fun o => mxX7_planes_135 N rec2 rec14 rec27 (mxX7_planes_61 N rec2 rec14 rec27 f) (Int32.ofNat g) (Int32.ofNat p) (Int32.ofNat q) (Int32.ofNat r) sd o := e4
      rw [e4']
      have sm13 : smP g s s3 := ((smP_L sml).tr (smP_R smr)).tr (smP_M hm)
      have G3 : s3.2.2.2 = s.2.2.2 := by rw [hm.2.2.1, smr.2.2.2, sml.2.2.2]
      have A3 : ∀ k, ¬ k = 19 → ¬ k = 20 → ¬ k = 22 → s3.2.2.1 k = s.2.2.1 k := fun k k1 k2 k3 => by rw [hm.2.2.2.1 k k1, smr.2.2.1 k k3, sml.2.2.1 k k2]
      have tb3 : tbO (hp s) n s3 g F := tbO_same ht G3 (A3 32 (by decide) (by decide) (by decide)) (A3 33 (by decide) (by decide) (by decide)) (A3 27 (by decide) (by decide) (by decide))
      have er3 : ∀ k, rwE s3 k s k := fun k => rwE_of G3 (A3 32 (by decide) (by decide) (by decide)) (A3 33 (by decide) (by decide) (by decide))
      have nv3 : nv s3 = nv s := by
        unfold nv
        rw [hm.2.1, smr.2.1, sml.2.1]
      have R23 : s3.1 23 = Int32.ofNat r' := by rw [hm.1, R1]
      obtain ⟨s4, pp, e5, p1, p2, p3, hI⟩ := x_faceHere (N := N) (g := g) (F := F) (r := r') (d := d) (s := s3) (by omega) hg hF (by omega) R23 tb3.1
      rw [hd] at p2 p3 hI
      have hrgF : rgF (hp s) n (nv s) (vd (nv s) (hp s p)) r' (fun j => l (g' j)) := ⟨c, l, g', hcn, K2, K3, K4, R2, R3, R4, fun j hj => ⟨rfl, (R5 j hj).2⟩, R6, R7, R8⟩
      have tn := tbO_new (P := hp s) (ρ := fun j => l (g' j)) hg hF (by omega) tb3 p1 p2 p3 hI (by
        intro k hk' q
        rw [(er3 _).1, (er3 _).2.1, nv3] at q
        exact hk k hk' ⟨q.1, by rw [hd]; exact q.2⟩) (by rw [nv3]; exact hfc) (by rw [nv3]; exact bn) (fun j hj => by rw [hm.2.2.2.1 22 (by decide)]; exact (R5 j hj).1) (by rw [nv3]; exact hrgF)
      rw [e5, Option.bind_some]
      have nv4 : nv s4 = nv s := by
        rw [← nv3]
        unfold nv
        rw [hI.1.2.1]
      have m19 : s4.2.2.1 19 = s3.2.2.1 19 := hI.1.2.2.1 19 (by decide) (by decide) (by decide)
      have hdi' : ∀ i j, i < n → j < n → i ≠ j → hp s i ≠ hp s j := by
        intro i j hi hj hij e
        by_cases w : i < j
        · have h2 := hO.2.2 i j w hj
          rw [e] at h2
          omega
        · have h2 := hO.2.2 j i (by omega) hi
          rw [e] at h2
          omega
      have rv := rgF_v hfc hrgF
      have b19 : s2.2.2.1 19 = s.2.2.1 19 := by rw [smr.2.2.1 19 (by decide), sml.2.2.1 19 (by decide)]
      have mR : mkR (hp s) n s s4 := by
        intro t
        rw [m19]
        rcases hm.2.2.2.2.2 t with q | ⟨q, j, hj, hj2⟩
        · rw [q, b19]
          exact .inl rfl
        · refine .inr ⟨q, ?_⟩
          have := rv.1 j hj
          rw [hj2]
          exact ⟨this.1, this.2.2⟩
      have mA : mkA (hp s) n s4 g (F + 1) := by
        intro k hk v hv ev xv
        rw [m19]
        rcases rows_new hF p1 hI k hk with ⟨k0, hk0, e0⟩ | ⟨q1, q2⟩
        · have o := hA k0 hk0 v hv (by rw [← (er3 _).1, ← (er3 _).2.1, ← e0.1, ← e0.2.1]; exact ev) xv
          rcases hm.2.2.2.2.2 v with q | ⟨q, -⟩
          · rw [q, b19]
            exact o
          · exact q
        · rw [q1, q2, nv3] at ev
          obtain ⟨j, j1, j2⟩ := ring_ex hfc hdi' hrgF hv ev xv
          rw [← j2]
          exact hm.2.2.2.2.1 j j1
      refine tail s4 (F + 1) (sm13.tr (smP_F hF hI)) nv4 tn.1 mR mA (fun k hk => ?_) (fun _ => ?_)
      · obtain ⟨k', h2, h3, h4⟩ := tn.2.1 k hk
        exact ⟨k', h2, by rw [h3, (er3 _).1], by rw [h4, (er3 _).2.1]⟩
      · obtain ⟨k', h2, h3, h4⟩ := tn.2.2
        exact ⟨k', h2, by rw [h3, nv3], h4⟩
/-- what stands while planes goes through the triples: the heap, the table; every bounding plane of a triple that D has is in it -/
def plI (s0 : mS) (g n : Nat) (D : Nat → Nat → Nat → Prop) (s : mS) : Prop := smP g s0 s ∧ mkR (hp s0) n s0 s ∧ ∃ F, tbO (hp s0) n s g F ∧ mkA (hp s0) n s g F ∧ ∀ p q r m e, D p q r → p < q → q < r → r < n → fc (hp s0) n m e → vd m (hp s0 p) = e → vd m (hp s0 q) = e → vd m (hp s0 r) = e → vx (vs (hp s0 q) (hp s0 p)) (vs (hp s0 r) (hp s0 p)) ≠ v0 → ∃ k, k < F ∧ fN s (64 * g + k) = m ∧ fD s (64 * g + k) = e
/-- planes, both sides of three points' plane -/
theorem x_both {N g n p q r f : Nat} {rec2 : Int32 → Int32 → mS → Option mS} {rec14 : Int32 → Int32 → Int32 → mS → Option mS} {rec27 : Int32 → Int32 → Int32 → Int32 → mS → Option mS} {s0 s : mS} {D : Nat → Nat → Nat → Prop} (hN : 1000000 < N) (hg : g < 2) (hn : n ≤ 25) (hO : hpO s0 n) (hfull : full (hp s0) n) (hI : plI s0 g n D s) (hx : ∃ x, vd (nv s) x = 1) (bn : bd3 (nv s) 320000) (hpq : p < q) (hqr : q < r) (hr : r < n) (hne : vx (vs (hp s0 q) (hp s0 p)) (vs (hp s0 r) (hp s0 p)) ≠ v0) {G : Int} (hG : vx (vs (hp s0 q) (hp s0 p)) (vs (hp s0 r) (hp s0 p)) = vl G (nv s) 0 v0) (G0 : 0 < G) :
    ∃ s', plI s0 g n (fun a b c => D a b c ∨ a = p ∧ b = q ∧ c = r) s' ∧ mxX7_planes_61 N rec2 rec14 rec27 (f + 3) (Int32.ofNat g) (Int32.ofNat p) (Int32.ofNat q) (Int32.ofNat r) 0 s = rec27 (Int32.ofNat g) (Int32.ofNat p) (Int32.ofNat q) (Int32.ofNat (r + 1)) s' := by
  obtain ⟨sm, mR, F, tb, mA, hD⟩ := hI
  have hhp : hp s = hp s0 := smP_hp sm
  have hO1 := hpO_P sm hO
  have z : ∀ x : V3, vd (nv s) x = 0 ↔ vd (vl G (nv s) 0 v0) x = 0 := by
    intro x
    rw [vd_vl_l, Int.zero_mul, Int.add_zero]
    exact ⟨fun h => by rw [h, Int.mul_zero], fun h => z_of_mul G0 h⟩
  have sq : ∀ a b : V3, vd (vx a b) a = 0 ∧ vd (vx a b) b = 0 := by
    intro a b
    obtain ⟨a1, a2, a3⟩ := a
    obtain ⟨b1, b2, b3⟩ := b
    simp only [vd, vx]
    constructor <;> grind
  have eq1 : vd (nv s) (hp s0 q) = vd (nv s) (hp s0 p) := by
    have h1 := (z (vs (hp s0 q) (hp s0 p))).mpr (by rw [← hG]; exact (sq _ _).1)
    rw [vd_vs] at h1
    omega
  have eq2 : vd (nv s) (hp s0 r) = vd (nv s) (hp s0 p) := by
    have h1 := (z (vs (hp s0 r) (hp s0 p))).mpr (by rw [← hG]; exact (sq _ _).2)
    rw [vd_vs] at h1
    omega
  obtain ⟨s1, F1, sm1, n1, b1, tb1, mR1, mA1, mo1, ne1, e1⟩ := x_side1 (N := N) (g := g) (n := n) (F := F) (p := p) (q := q) (r := r) (f := f + 2) (sd := 0) (rec2 := rec2) (rec14 := rec14) (rec27 := rec27) (s := s) hN hg hn hO1 (by rw [hhp]; exact hfull) (by rw [hhp]; exact tb) (by rw [hhp]; exact mA) hx bn hpq hqr hr (by rw [hhp]; exact eq1) (by rw [hhp]; exact eq2) (by rw [hhp]; exact hne) (by decide)
  have hhp1 : hp s1 = hp s0 := by rw [smP_hp sm1, hhp]
  rw [hhp] at tb1 ne1 mR1 mA1
  have hx1 : ∃ x, vd (nv s1) x = 1 := by
    obtain ⟨x, hx⟩ := hx
    refine ⟨vs v0 x, ?_⟩
    rw [n1, vd_comm, neg_vd, vd_comm, neg_vd, hx]
    rfl
  obtain ⟨s2, F2, sm2, n2, b2, tb2, mR2, mA2, mo2, ne2, e2⟩ := x_side1 (N := N) (g := g) (n := n) (F := F1) (p := p) (q := q) (r := r) (f := f + 1) (sd := 1) (rec2 := rec2) (rec14 := rec14) (rec27 := rec27) (s := s1) hN hg hn (hpO_P sm1 hO1) (by rw [hhp1]; exact hfull) (by rw [hhp1]; exact tb1) (by rw [hhp1]; exact mA1) hx1 b1 hpq hqr hr (by rw [hhp1, n1, neg_vd, neg_vd, eq1]) (by rw [hhp1, n1, neg_vd, neg_vd, eq2]) (by rw [hhp1]; exact hne) (by decide)
  rw [hhp1] at tb2 ne2 mR2 mA2
  refine ⟨s2, ⟨(sm.tr sm1).tr sm2, (mR.tr mR1).tr mR2, F2, tb2, mA2, ?_⟩, ?_⟩
  · intro a b c m e hd hab hbc hc hf ea eb ec hne'
    rcases hd with hd | ⟨rfl, rfl, rfl⟩
    · obtain ⟨k, k1, k2, k3⟩ := hD a b c m e hd hab hbc hc hf ea eb ec hne'
      obtain ⟨k', l1, l2, l3⟩ := mo1 k k1
      obtain ⟨k'', m1, m2, m3⟩ := mo2 k' l1
      exact ⟨k'', m1, by rw [m2, l2, k2], by rw [m3, l3, k3]⟩
    · have c1 : vx m (vx (vs (hp s0 b) (hp s0 a)) (vs (hp s0 c) (hp s0 a))) = v0 := cross_along (by rw [vd_vs]; omega) (by rw [vd_vs]; omega)
      have c2 : vx (nv s) (vx (vs (hp s0 b) (hp s0 a)) (vs (hp s0 c) (hp s0 a))) = v0 := cross_along (by rw [vd_vs]; omega) (by rw [vd_vs]; omega)
      have c3 := along_along hne' c2 c1
      obtain ⟨x, hx⟩ := hx
      obtain ⟨y, hy⟩ := hf.2.2
      rcases prim_eq hx hy c3 with q | q
      · rw [q] at ea hf ⊢
        rw [← ea] at hf
        obtain ⟨k', l1, l2, l3⟩ := ne1 hf
        obtain ⟨k'', m1, m2, m3⟩ := mo2 k' l1
        exact ⟨k'', m1, by rw [m2, l2], by rw [m3, l3, ea]⟩
      · rw [n1] at ne2
        rw [q] at ea hf ⊢
        rw [← ea] at hf
        obtain ⟨k', l1, l2, l3⟩ := ne2 hf
        exact ⟨k', l1, l2, by rw [l3, ea]⟩
  · rw [e1]
    have w1 : (0 : Int32) + 1 = 1 := rfl
    rw [w1, e2, mxX7_planes_61, if_pos (by decide)]
    unfold mxX7_planes_145
    rw [i_s]
theorem plI_D {s0 s : mS} {g n : Nat} {D E : Nat → Nat → Nat → Prop} (h : plI s0 g n D s) (hE : ∀ p q r, p < q → q < r → r < n → E p q r → D p q r) : plI s0 g n E s := by
  obtain ⟨sm, mR, F, tb, mA, hD⟩ := h
  exact ⟨sm, mR, F, tb, mA, fun p q r m e he h1 h2 h3 => hD p q r m e (hE p q r h1 h2 h3 he) h1 h2 h3⟩
theorem plI_N {s0 s s' : mS} {g n : Nat} {D : Nat → Nat → Nat → Prop} (hn : n ≤ 25) (h : plI s0 g n D s) (sm' : smN s s') : plI s0 g n D s' := by
  obtain ⟨sm, mR, F, tb, mA, hD⟩ := h
  have er : ∀ k, rwE s' k s k := fun k => rwE_of (by rw [sm'.2.1]) (by rw [sm'.2.1]) (by rw [sm'.2.1])
  refine ⟨sm.tr (smP_N sm'), mkR_e mR (by rw [sm'.2.1]), F, tbO_same tb (by rw [sm'.2.1]) (by rw [sm'.2.1]) (by rw [sm'.2.1]) (by rw [sm'.2.1]), mkA_same mA (by rw [sm'.2.1]) (by rw [sm'.2.1]), ?_⟩
  intro p q r m e hd h1 h2 h3 h4 h5 h6 h7 h8
  obtain ⟨k, k1, k2, k3⟩ := hD p q r m e hd h1 h2 h3 h4 h5 h6 h7 h8
  exact ⟨k, k1, by rw [(er _).1, k2], by rw [(er _).2.1, k3]⟩
/-- a triple is done: before the triple p, q, r -/
def dn (p q r : Nat) : Nat → Nat → Nat → Prop := fun a b c => a < p ∨ a = p ∧ (b < q ∨ b = q ∧ c < r)
theorem x_p27 {N g n p q : Nat} {rec2 : Int32 → Int32 → mS → Option mS} {rec14 : Int32 → Int32 → Int32 → mS → Option mS} {s0 : mS} (hN : 1000000 < N) (hg : g < 2) (hn : n ≤ 25) (hO : hpO s0 n) (hfull : full (hp s0) n) (hpq : p < q) (hq : q < n) : ∀ (m f r : Nat) (s : mS), r + m = n → m < f → q < r → plI s0 g n (dn p q r) s →
    ∃ s', plI s0 g n (dn p (q + 1) 0) s' ∧ mxX7_planes_27 N rec2 rec14 f (Int32.ofNat g) (Int32.ofNat p) (Int32.ofNat q) (Int32.ofNat r) s = rec14 (Int32.ofNat g) (Int32.ofNat p) (Int32.ofNat (q + 1)) s' := by
  intro m
  induction m with
  | zero =>
    intro f r s hr hf hqr hI
    obtain ⟨f', rfl⟩ : ∃ f', f = f' + 1 := ⟨f - 1, by omega⟩
    have hrn : r = n := by omega
    subst hrn
    refine ⟨s, plI_D hI (fun a b c h1 h2 h3 h => ?_), ?_⟩
    · unfold dn at *
      omega
    · rw [mxX7_planes_27, (hpO_P hI.1 hO).1, if_pos (Int32.le_refl _), i_s]
  | succ m ih =>
    intro f r s hr hf hqr hI
    obtain ⟨f', rfl⟩ : ∃ f', f = f' + 1 := ⟨f - 1, by omega⟩
    have hO1 := hpO_P hI.1 hO
    have hhp : hp s = hp s0 := smP_hp hI.1
    have ne : ¬ (Int32.ofNat n ≤ Int32.ofNat r) := by
      rw [i_le (by omega) (by omega)]
      omega
    obtain ⟨s1, e1, n1, b1, sm1⟩ := x_across (N := N) (p := p) (q := q) (r := r) (s := s) (by omega) (by omega) (by omega) (hO1.2.1 p (by omega)) (hO1.2.1 q (by omega)) (hO1.2.1 r (by omega))
    rw [hhp] at n1
    have I1 := plI_N hn hI sm1
    rw [mxX7_planes_27, hO1.1, if_neg ne, e1, Option.bind_some]
    by_cases c : nv s1 = v0
    · rw [(x_flat (N := N)).1 c, Option.bind_some]
      dsimp only
      rw [if_neg (by decide)]
      unfold mxX7_planes_145
      rw [i_s]
      obtain ⟨sm, mR, F, tb, mA, hD⟩ := I1
      refine ih f' (r + 1) s1 (by omega) (by omega) (by omega) ⟨sm, mR, F, tb, mA, ?_⟩
      intro a b d m' e hd h1 h2 h3 h4 h5 h6 h7 h8
      by_cases w : a = p ∧ b = q ∧ d = r
      · rw [w.1, w.2.1, w.2.2, ← n1] at h8
        exact absurd c h8
      · refine hD a b d m' e ?_ h1 h2 h3 h4 h5 h6 h7 h8
        unfold dn at *
        omega
    · rw [(x_flat (N := N)).2 c, Option.bind_some]
      dsimp only
      rw [if_pos rfl]
      obtain ⟨s2, G, e2, G0, hG, hx, b2, sm2⟩ := x_plain (N := N) (M := 320000) c b1 (by decide) (by omega)
      rw [e2, Option.bind_some]
      obtain ⟨N', rfl⟩ : ∃ N', N = N' + 3 := ⟨N - 3, by omega⟩
      obtain ⟨s3, I3, e3⟩ := x_both (N := N' + 3) (f := N') (rec2 := rec2) (rec14 := rec14) (rec27 := mxX7_planes_27 (N' + 3) rec2 rec14 f') hN hg hn hO hfull (plI_N hn I1 sm2) hx b2 hpq hqr (by omega) (by rw [← n1]; exact c) (by rw [← n1]; exact hG) G0
      rw [e3]
      refine ih f' (r + 1) s3 (by omega) (by omega) (by omega) (plI_D I3 (fun a b d h1 h2 h3 h => ?_))
      unfold dn at *
      omega
theorem x_p14 {N g n p : Nat} {rec2 : Int32 → Int32 → mS → Option mS} {s0 : mS} (hN : 1000000 < N) (hg : g < 2) (hn : n ≤ 25) (hO : hpO s0 n) (hfull : full (hp s0) n) (hp0 : p < n) : ∀ (m f q : Nat) (s : mS), q + m = n → m < f → p < q → plI s0 g n (dn p q 0) s →
    ∃ s', plI s0 g n (dn (p + 1) 0 0) s' ∧ mxX7_planes_14 N rec2 f (Int32.ofNat g) (Int32.ofNat p) (Int32.ofNat q) s = rec2 (Int32.ofNat g) (Int32.ofNat (p + 1)) s' := by
  intro m
  induction m with
  | zero =>
    intro f q s hq hf hpq hI
    obtain ⟨f', rfl⟩ : ∃ f', f = f' + 1 := ⟨f - 1, by omega⟩
    have hqn : q = n := by omega
    subst hqn
    refine ⟨s, plI_D hI (fun a b c h1 h2 h3 h => ?_), ?_⟩
    · unfold dn at *
      omega
    · rw [mxX7_planes_14, (hpO_P hI.1 hO).1, if_pos (Int32.le_refl _), i_s]
  | succ m ih =>
    intro f q s hq hf hpq hI
    obtain ⟨f', rfl⟩ : ∃ f', f = f' + 1 := ⟨f - 1, by omega⟩
    have ne : ¬ (Int32.ofNat n ≤ Int32.ofNat q) := by
      rw [i_le (by omega) (by omega)]
      omega
    rw [mxX7_planes_14, (hpO_P hI.1 hO).1, if_neg ne, i_s]
    obtain ⟨s', I', e⟩ := x_p27 (N := N) (rec2 := rec2) (rec14 := mxX7_planes_14 N rec2 f') hN hg hn hO hfull hpq (by omega) (n - (q + 1)) N (q + 1) s (by omega) (by omega) (by omega) (plI_D hI (fun a b c h1 h2 h3 h => by unfold dn at *; omega))
    rw [e]
    exact ih f' (q + 1) s' (by omega) (by omega) (by omega) I'
theorem x_p2 {N g n : Nat} {s0 : mS} (hN : 1000000 < N) (hg : g < 2) (hn : n ≤ 25) (hO : hpO s0 n) (hfull : full (hp s0) n) : ∀ (m f p : Nat) (s : mS), p + m = n → m < f → plI s0 g n (dn p 0 0) s →
    ∃ s', plI s0 g n (fun _ _ _ => True) s' ∧ mxX7_planes_2 N f (Int32.ofNat g) (Int32.ofNat p) s = some s' := by
  intro m
  induction m with
  | zero =>
    intro f p s hp hf hI
    obtain ⟨f', rfl⟩ : ∃ f', f = f' + 1 := ⟨f - 1, by omega⟩
    have hpn : p = n := by omega
    subst hpn
    refine ⟨s, plI_D hI (fun a b c h1 h2 h3 h => ?_), ?_⟩
    · unfold dn at *
      omega
    · rw [mxX7_planes_2, (hpO_P hI.1 hO).1, if_pos (Int32.le_refl _)]
  | succ m ih =>
    intro f p s hp hf hI
    obtain ⟨f', rfl⟩ : ∃ f', f = f' + 1 := ⟨f - 1, by omega⟩
    have ne : ¬ (Int32.ofNat n ≤ Int32.ofNat p) := by
      rw [i_le (by omega) (by omega)]
      omega
    rw [mxX7_planes_2, (hpO_P hI.1 hO).1, if_neg ne, i_s]
    obtain ⟨s', I', e⟩ := x_p14 (N := N) (p := p) (rec2 := mxX7_planes_2 N f') hN hg hn hO hfull (by omega) (n - (p + 1)) N (p + 1) s (by omega) (by omega) (by omega) (plI_D hI (fun a b c h1 h2 h3 h => by unfold dn at *; omega))
    rw [e]
    exact ih f' (p + 1) s' (by omega) (by omega) I'
/-- planes: the table of all bounding planes -/
theorem x_planes {N g n : Nat} {s : mS} (hN : 1000000 < N) (hg : g < 2) (hn : n ≤ 25) (hO : hpO s n) (hfull : full (hp s) n) (h27 : s.2.2.1 27 g = 0) : ∃ s' F, mxX7_planes N (Int32.ofNat g) s = some s' ∧ smP g s s' ∧ mkR (hp s) n s s' ∧ tbO (hp s) n s' g F ∧ mkA (hp s) n s' g F ∧ ∀ m e, fc (hp s) n m e → ∃ k, k < F ∧ fN s' (64 * g + k) = m ∧ fD s' (64 * g + k) = e := by
  unfold mxX7_planes
  obtain ⟨s', ⟨sm, mR, F, tb, mA, hD⟩, e⟩ := x_p2 (N := N) hN hg hn hO hfull n N 0 s (by omega) (by omega) ⟨smP.rf, mkR.rf, 0, ⟨h27, fun k hk => absurd hk (by omega), fun i j _ hj => absurd hj (by omega)⟩, fun k hk => absurd hk (by omega), fun p q r m e h _ _ _ => by unfold dn at h; omega⟩
  refine ⟨s', F, e, sm, mR, tb, mA, fun m e' hf => ?_⟩
  obtain ⟨a, x, b, h1, h2, h3, h4, h5, h6, h7⟩ := fc_mid (hpO_ord hO) hf
  exact hD a x b m e' trivial h1 h2 h3 hf h4 h5 h6 h7
