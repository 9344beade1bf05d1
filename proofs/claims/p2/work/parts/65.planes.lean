/-- what stands while planes goes through the triples: the heap, the table; every bounding plane of a triple that D has is in it -/
def plI (s0 : mS) (g n : Nat) (D : Nat → Nat → Nat → Prop) (s : mS) : Prop := smP g s0 s ∧ ∃ F, tbO (hp s0) n s g F ∧ ∀ p q r m e, D p q r → p < q → q < r → r < n → fc (hp s0) n m e → vd m (hp s0 p) = e → vd m (hp s0 q) = e → vd m (hp s0 r) = e → vx (vs (hp s0 q) (hp s0 p)) (vs (hp s0 r) (hp s0 p)) ≠ v0 → ∃ k, k < F ∧ fN s (64 * g + k) = m ∧ fD s (64 * g + k) = e
theorem ofN_le {a b : Nat} (ha : a < 2147483648) (hb : b < 2147483648) : (Int32.ofNat a ≤ Int32.ofNat b) = (a ≤ b) := i_le ha hb
/-- planes, both sides of three points' plane -/
theorem x_both {N g n p q r f : Nat} {rec2 : Int32 → Int32 → mS → Option mS} {rec14 : Int32 → Int32 → Int32 → mS → Option mS} {rec27 : Int32 → Int32 → Int32 → Int32 → mS → Option mS} {s0 s : mS} {D : Nat → Nat → Nat → Prop} (hN : 1000000 < N) (hg : g < 2) (hn : n ≤ 25) (hO : hpO s0 n) (hfull : full (hp s0) n) (hI : plI s0 g n D s) (hx : ∃ x, vd (nv s) x = 1) (bn : bd3 (nv s) 320000) (hpq : p < q) (hqr : q < r) (hr : r < n) (hne : vx (vs (hp s0 q) (hp s0 p)) (vs (hp s0 r) (hp s0 p)) ≠ v0) {G : Int} (hG : vx (vs (hp s0 q) (hp s0 p)) (vs (hp s0 r) (hp s0 p)) = vl G (nv s) 0 v0) (G0 : 0 < G) :
    ∃ s', plI s0 g n (fun a b c => D a b c ∨ a = p ∧ b = q ∧ c = r) s' ∧ mxX7_planes_61 N rec2 rec14 rec27 (f + 3) (Int32.ofNat g) (Int32.ofNat p) (Int32.ofNat q) (Int32.ofNat r) 0 s = rec27 (Int32.ofNat g) (Int32.ofNat p) (Int32.ofNat q) (Int32.ofNat (r + 1)) s' := by
  obtain ⟨sm, F, tb, hD⟩ := hI
  have hhp : hp s = hp s0 := smP_hp sm
  have hO1 := hpO_P sm hO
  have z : ∀ x : V3, vd (nv s) x = 0 ↔ vd (vl G (nv s) 0 v0) x = 0 := by
    intro x
    rw [vd_vl_l, Int.zero_mul, Int.add_zero]
    exact ⟨fun h => by rw [h, Int.mul_zero], fun h => z_of_mul G0 h⟩
  have sq : ∀ a b : V3, vd (vx a b) a = 0 ∧ vd (vx a b) b = 0 := by
    intro a b
    obtain ⟨a1, a2, a3⟩ := a
    obtain ⟨b1, b2, b3⟩ := b
    simp only [vd, vx]
    constructor <;> grind
  have eq1 : vd (nv s) (hp s0 q) = vd (nv s) (hp s0 p) := by
    have h1 := (z (vs (hp s0 q) (hp s0 p))).mpr (by rw [← hG]; exact (sq _ _).1)
    rw [vd_vs] at h1
    omega
  have eq2 : vd (nv s) (hp s0 r) = vd (nv s) (hp s0 p) := by
    have h1 := (z (vs (hp s0 r) (hp s0 p))).mpr (by rw [← hG]; exact (sq _ _).2)
    rw [vd_vs] at h1
    omega
  obtain ⟨s1, F1, sm1, n1, b1, tb1, mo1, ne1, e1⟩ := x_side1 (N := N) (g := g) (n := n) (F := F) (p := p) (q := q) (r := r) (f := f + 2) (sd := 0) (rec2 := rec2) (rec14 := rec14) (rec27 := rec27) (s := s) hN hg hn hO1 (by rw [hhp]; exact hfull) (by rw [hhp]; exact tb) hx bn hpq hqr hr (by rw [hhp]; exact eq1) (by rw [hhp]; exact eq2) (by rw [hhp]; exact hne) (by decide)
  have hhp1 : hp s1 = hp s0 := by rw [smP_hp sm1, hhp]
  rw [hhp] at tb1 ne1
  have hx1 : ∃ x, vd (nv s1) x = 1 := by
    obtain ⟨x, hx⟩ := hx
    refine ⟨vs v0 x, ?_⟩
    rw [n1, vd_comm, neg_vd, vd_comm, neg_vd, hx]
    rfl
  obtain ⟨s2, F2, sm2, n2, b2, tb2, mo2, ne2, e2⟩ := x_side1 (N := N) (g := g) (n := n) (F := F1) (p := p) (q := q) (r := r) (f := f + 1) (sd := 1) (rec2 := rec2) (rec14 := rec14) (rec27 := rec27) (s := s1) hN hg hn (hpO_P sm1 hO1) (by rw [hhp1]; exact hfull) (by rw [hhp1]; exact tb1) hx1 b1 hpq hqr hr (by rw [hhp1, n1, neg_vd, neg_vd, eq1]) (by rw [hhp1, n1, neg_vd, neg_vd, eq2]) (by rw [hhp1]; exact hne) (by decide)
  rw [hhp1] at tb2 ne2
  refine ⟨s2, ⟨(sm.tr sm1).tr sm2, F2, tb2, ?_⟩, ?_⟩
  · intro a b c m e hd hab hbc hc hf ea eb ec hne'
    rcases hd with hd | ⟨rfl, rfl, rfl⟩
    · obtain ⟨k, k1, k2, k3⟩ := hD a b c m e hd hab hbc hc hf ea eb ec hne'
      obtain ⟨k', l1, l2, l3⟩ := mo1 k k1
      obtain ⟨k'', m1, m2, m3⟩ := mo2 k' l1
      exact ⟨k'', m1, by rw [m2, l2, k2], by rw [m3, l3, k3]⟩
    · have c1 : vx m (vx (vs (hp s0 b) (hp s0 a)) (vs (hp s0 c) (hp s0 a))) = v0 := cross_along (by rw [vd_vs]; omega) (by rw [vd_vs]; omega)
      have c2 : vx (nv s) (vx (vs (hp s0 b) (hp s0 a)) (vs (hp s0 c) (hp s0 a))) = v0 := cross_along (by rw [vd_vs]; omega) (by rw [vd_vs]; omega)
      have c3 := along_along hne' c2 c1
      obtain ⟨x, hx⟩ := hx
      obtain ⟨y, hy⟩ := hf.2.2
      rcases prim_eq hx hy c3 with q | q
      · rw [q] at ea hf ⊢
        rw [← ea] at hf
        obtain ⟨k', l1, l2, l3⟩ := ne1 hf
        obtain ⟨k'', m1, m2, m3⟩ := mo2 k' l1
        exact ⟨k'', m1, by rw [m2, l2], by rw [m3, l3, ea]⟩
      · rw [n1] at ne2
        rw [q] at ea hf ⊢
        rw [← ea] at hf
        obtain ⟨k', l1, l2, l3⟩ := ne2 hf
        exact ⟨k', l1, l2, by rw [l3, ea]⟩
  · rw [e1]
    have w1 : (0 : Int32) + 1 = 1 := rfl
    rw [w1, e2, mxX7_planes_61, if_pos (by decide)]
    unfold mxX7_planes_145
    rw [i_s]
theorem plI_D {s0 s : mS} {g n : Nat} {D E : Nat → Nat → Nat → Prop} (h : plI s0 g n D s) (hE : ∀ p q r, p < q → q < r → r < n → E p q r → D p q r) : plI s0 g n E s := by
  obtain ⟨sm, F, tb, hD⟩ := h
  exact ⟨sm, F, tb, fun p q r m e he h1 h2 h3 => hD p q r m e (hE p q r h1 h2 h3 he) h1 h2 h3⟩
theorem plI_N {s0 s s' : mS} {g n : Nat} {D : Nat → Nat → Nat → Prop} (hn : n ≤ 25) (h : plI s0 g n D s) (sm' : smN s s') : plI s0 g n D s' := by
  obtain ⟨sm, F, tb, hD⟩ := h
  have er : ∀ k, rwE s' k s k := fun k => rwE_of (by rw [sm'.2.1]) (by rw [sm'.2.1]) (by rw [sm'.2.1])
  refine ⟨sm.tr (smP_N sm'), F, tbO_same tb (by rw [sm'.2.1]) (by rw [sm'.2.1]) (by rw [sm'.2.1]) (by rw [sm'.2.1]), ?_⟩
  intro p q r m e hd h1 h2 h3 h4 h5 h6 h7 h8
  obtain ⟨k, k1, k2, k3⟩ := hD p q r m e hd h1 h2 h3 h4 h5 h6 h7 h8
  exact ⟨k, k1, by rw [(er _).1, k2], by rw [(er _).2.1, k3]⟩
/-- a triple is done: before the triple p, q, r -/
def dn (p q r : Nat) : Nat → Nat → Nat → Prop := fun a b c => a < p ∨ a = p ∧ (b < q ∨ b = q ∧ c < r)
theorem x_p27 {N g n p q : Nat} {rec2 : Int32 → Int32 → mS → Option mS} {rec14 : Int32 → Int32 → Int32 → mS → Option mS} {s0 : mS} (hN : 1000000 < N) (hg : g < 2) (hn : n ≤ 25) (hO : hpO s0 n) (hfull : full (hp s0) n) (hpq : p < q) (hq : q < n) : ∀ (m f r : Nat) (s : mS), r + m = n → m < f → q < r → plI s0 g n (dn p q r) s →
    ∃ s', plI s0 g n (dn p (q + 1) 0) s' ∧ mxX7_planes_27 N rec2 rec14 f (Int32.ofNat g) (Int32.ofNat p) (Int32.ofNat q) (Int32.ofNat r) s = rec14 (Int32.ofNat g) (Int32.ofNat p) (Int32.ofNat (q + 1)) s' := by
  intro m
  induction m with
  | zero =>
    intro f r s hr hf hqr hI
    obtain ⟨f', rfl⟩ : ∃ f', f = f' + 1 := ⟨f - 1, by omega⟩
    have hrn : r = n := by omega
    subst hrn
    refine ⟨s, plI_D hI (fun a b c h1 h2 h3 h => ?_), ?_⟩
    · unfold dn at *
      omega
    · rw [mxX7_planes_27, (hpO_P hI.1 hO).1, if_pos (Int32.le_refl _), i_s]
  | succ m ih =>
    intro f r s hr hf hqr hI
    obtain ⟨f', rfl⟩ : ∃ f', f = f' + 1 := ⟨f - 1, by omega⟩
    have hO1 := hpO_P hI.1 hO
    have hhp : hp s = hp s0 := smP_hp hI.1
    have ne : ¬ (Int32.ofNat n ≤ Int32.ofNat r) := by
      rw [i_le (by omega) (by omega)]
      omega
    obtain ⟨s1, e1, n1, b1, sm1⟩ := x_across (N := N) (p := p) (q := q) (r := r) (s := s) (by omega) (by omega) (by omega) (hO1.2.1 p (by omega)) (hO1.2.1 q (by omega)) (hO1.2.1 r (by omega))
    rw [hhp] at n1
    have I1 := plI_N hn hI sm1
    rw [mxX7_planes_27, hO1.1, if_neg ne, e1, Option.bind_some]
    by_cases c : nv s1 = v0
    · rw [(x_flat (N := N)).1 c, Option.bind_some]
      dsimp only
      rw [if_neg (by decide)]
      unfold mxX7_planes_145
      rw [i_s]
      obtain ⟨sm, F, tb, hD⟩ := I1
      refine ih f' (r + 1) s1 (by omega) (by omega) (by omega) ⟨sm, F, tb, ?_⟩
      intro a b d m' e hd h1 h2 h3 h4 h5 h6 h7 h8
      by_cases w : a = p ∧ b = q ∧ d = r
      · rw [w.1, w.2.1, w.2.2, ← n1] at h8
        exact absurd c h8
      · refine hD a b d m' e ?_ h1 h2 h3 h4 h5 h6 h7 h8
        unfold dn at *
        omega
    · rw [(x_flat (N := N)).2 c, Option.bind_some]
      dsimp only
      rw [if_pos rfl]
      obtain ⟨s2, G, e2, G0, hG, hx, b2, sm2⟩ := x_plain (N := N) (M := 320000) c b1 (by decide) (by omega)
      rw [e2, Option.bind_some]
      obtain ⟨N', rfl⟩ : ∃ N', N = N' + 3 := ⟨N - 3, by omega⟩
      obtain ⟨s3, I3, e3⟩ := x_both (N := N' + 3) (f := N') (rec2 := rec2) (rec14 := rec14) (rec27 := mxX7_planes_27 (N' + 3) rec2 rec14 f') hN hg hn hO hfull (plI_N hn I1 sm2) hx b2 hpq hqr (by omega) (by rw [← n1]; exact c) (by rw [← n1]; exact hG) G0
      rw [e3]
      refine ih f' (r + 1) s3 (by omega) (by omega) (by omega) (plI_D I3 (fun a b d h1 h2 h3 h => ?_))
      unfold dn at *
      omega
theorem x_p14 {N g n p : Nat} {rec2 : Int32 → Int32 → mS → Option mS} {s0 : mS} (hN : 1000000 < N) (hg : g < 2) (hn : n ≤ 25) (hO : hpO s0 n) (hfull : full (hp s0) n) (hp0 : p < n) : ∀ (m f q : Nat) (s : mS), q + m = n → m < f → p < q → plI s0 g n (dn p q 0) s →
    ∃ s', plI s0 g n (dn (p + 1) 0 0) s' ∧ mxX7_planes_14 N rec2 f (Int32.ofNat g) (Int32.ofNat p) (Int32.ofNat q) s = rec2 (Int32.ofNat g) (Int32.ofNat (p + 1)) s' := by
  intro m
  induction m with
  | zero =>
    intro f q s hq hf hpq hI
    obtain ⟨f', rfl⟩ : ∃ f', f = f' + 1 := ⟨f - 1, by omega⟩
    have hqn : q = n := by omega
    subst hqn
    refine ⟨s, plI_D hI (fun a b c h1 h2 h3 h => ?_), ?_⟩
    · unfold dn at *
      omega
    · rw [mxX7_planes_14, (hpO_P hI.1 hO).1, if_pos (Int32.le_refl _), i_s]
  | succ m ih =>
    intro f q s hq hf hpq hI
    obtain ⟨f', rfl⟩ : ∃ f', f = f' + 1 := ⟨f - 1, by omega⟩
    have ne : ¬ (Int32.ofNat n ≤ Int32.ofNat q) := by
      rw [i_le (by omega) (by omega)]
      omega
    rw [mxX7_planes_14, (hpO_P hI.1 hO).1, if_neg ne, i_s]
    obtain ⟨s', I', e⟩ := x_p27 (N := N) (rec2 := rec2) (rec14 := mxX7_planes_14 N rec2 f') hN hg hn hO hfull hpq (by omega) (n - (q + 1)) N (q + 1) s (by omega) (by omega) (by omega) (plI_D hI (fun a b c h1 h2 h3 h => by unfold dn at *; omega))
    rw [e]
    exact ih f' (q + 1) s' (by omega) (by omega) (by omega) I'
theorem x_p2 {N g n : Nat} {s0 : mS} (hN : 1000000 < N) (hg : g < 2) (hn : n ≤ 25) (hO : hpO s0 n) (hfull : full (hp s0) n) : ∀ (m f p : Nat) (s : mS), p + m = n → m < f → plI s0 g n (dn p 0 0) s →
    ∃ s', plI s0 g n (fun _ _ _ => True) s' ∧ mxX7_planes_2 N f (Int32.ofNat g) (Int32.ofNat p) s = some s' := by
  intro m
  induction m with
  | zero =>
    intro f p s hp hf hI
    obtain ⟨f', rfl⟩ : ∃ f', f = f' + 1 := ⟨f - 1, by omega⟩
    have hpn : p = n := by omega
    subst hpn
    refine ⟨s, plI_D hI (fun a b c h1 h2 h3 h => ?_), ?_⟩
    · unfold dn at *
      omega
    · rw [mxX7_planes_2, (hpO_P hI.1 hO).1, if_pos (Int32.le_refl _)]
  | succ m ih =>
    intro f p s hp hf hI
    obtain ⟨f', rfl⟩ : ∃ f', f = f' + 1 := ⟨f - 1, by omega⟩
    have ne : ¬ (Int32.ofNat n ≤ Int32.ofNat p) := by
      rw [i_le (by omega) (by omega)]
      omega
    rw [mxX7_planes_2, (hpO_P hI.1 hO).1, if_neg ne, i_s]
    obtain ⟨s', I', e⟩ := x_p14 (N := N) (p := p) (rec2 := mxX7_planes_2 N f') hN hg hn hO hfull (by omega) (n - (p + 1)) N (p + 1) s (by omega) (by omega) (by omega) (plI_D hI (fun a b c h1 h2 h3 h => by unfold dn at *; omega))
    rw [e]
    exact ih f' (p + 1) s' (by omega) (by omega) I'
/-- planes: the table of all bounding planes -/
theorem x_planes {N g n : Nat} {s : mS} (hN : 1000000 < N) (hg : g < 2) (hn : n ≤ 25) (hO : hpO s n) (hfull : full (hp s) n) (h27 : s.2.2.1 27 g = 0) : ∃ s' F, mxX7_planes N (Int32.ofNat g) s = some s' ∧ smP g s s' ∧ tbO (hp s) n s' g F ∧ ∀ m e, fc (hp s) n m e → ∃ k, k < F ∧ fN s' (64 * g + k) = m ∧ fD s' (64 * g + k) = e := by
  unfold mxX7_planes
  obtain ⟨s', ⟨sm, F, tb, hD⟩, e⟩ := x_p2 (N := N) hN hg hn hO hfull n N 0 s (by omega) (by omega) ⟨smP.rf, 0, ⟨h27, fun k hk => absurd hk (by omega), fun i j _ hj => absurd hj (by omega)⟩, fun p q r m e h _ _ _ => by unfold dn at h; omega⟩
  refine ⟨s', F, e, sm, tb, fun m e' hf => ?_⟩
  obtain ⟨a, x, b, h1, h2, h3, h4, h5, h6, h7⟩ := fc_mid (hpO_ord hO) hf
  exact hD a x b m e' trivial h1 h2 h3 hf h4 h5 h6 h7
