/-- only cells of L have changed -/
def CF (L : Nat → Prop) (s : cS) (h : mh) : Prop := ∃ s', h = hC s' ∧ cf L s s'
theorem n100 {c : Nat} (h : c < 100000) : ¬ ((100000 : Int32) ≤ Int32.ofNat c) := by
  have := i_le (a := 100000) (b := c) (by omega) (by omega)
  show ¬ (Int32.ofNat 100000 ≤ Int32.ofNat c)
  rw [this]
  omega
/-- divisor comes back -/
theorem c_dvS {N : Nat} {s : cS} : ∀ (r c fu : Nat) (x y : Int64), c + r = 100000 → r < fu → OK (RD s) (fxX6_divisor_9 N fu x y (Int32.ofNat c) (hC s)) := by
  intro r
  induction r with
  | zero =>
    intro c fu x y hc hfu
    obtain ⟨fu', rfl⟩ : ∃ f', fu = f' + 1 := ⟨fu - 1, by omega⟩
    have e : c = 100000 := by omega
    subst e
    rw [fxX6_divisor_9]
    exact OK_p (by decide) (OK_s rfl)
  | succ r ih =>
    intro c fu x y hc hfu
    obtain ⟨fu', rfl⟩ : ∃ f', fu = f' + 1 := ⟨fu - 1, by omega⟩
    rw [fxX6_divisor_9, i_s]
    refine OK_n (n100 (by omega)) (OK_i (fun _ => OK_s rfl) (fun w => OK_n (fun e => w ?_) (ih (c + 1) fu' _ _ (by omega) (by omega))))
    rw [e]
    exact Int64.le_refl _
theorem c_iaS {N : Nat} {s : cS} : ∀ (r c fu : Nat) (x5 x7 x9 x11 : Int64), c + r = 100000 → r < fu → OK (RD s) (fxX4_isAbove_21 N fu x5 x7 x9 x11 (Int32.ofNat c) (hC s)) := by
  have fin : ∀ x y, OK (RD s) (fxX4_isAbove_106 N x y (hC s)) := fun x y => by
    unfold fxX4_isAbove_106
    exact OK_i (fun _ => OK_s rfl) (fun _ => OK_s rfl)
  intro r
  induction r with
  | zero =>
    intro c fu x5 x7 x9 x11 hc hfu
    obtain ⟨fu', rfl⟩ : ∃ f', fu = f' + 1 := ⟨fu - 1, by omega⟩
    have e : c = 100000 := by omega
    subst e
    rw [fxX4_isAbove_21]
    exact OK_p (by decide) (OK_s rfl)
  | succ r ih =>
    intro c fu x5 x7 x9 x11 hc hfu
    obtain ⟨fu', rfl⟩ : ∃ f', fu = f' + 1 := ⟨fu - 1, by omega⟩
    rw [fxX4_isAbove_21, i_s]
    refine OK_n (n100 (by omega)) (OK_i (fun _ => OK_s rfl) (fun w => OK_i (fun _ => OK_s rfl) (fun w' => ?_)))
    have n7 : ¬ x7 = 0 := fun e => w (by rw [e]; exact Int64.le_refl _)
    have n11 : ¬ x11 = 0 := fun e => w' (by rw [e]; exact Int64.le_refl _)
    refine OK_n n7 (OK_n n11 (OK_i (fun _ => OK_n n7 (OK_n n11 (OK_i (fun _ => fin _ _) (fun _ => OK_i (fun _ => fin _ _) (fun _ => ih (c + 1) fu' _ _ _ _ (by omega) (by omega)))))) (fun _ => OK_i (fun _ => OK_s rfl) (fun _ => OK_s rfl))))
/-- put, of a fraction -/
theorem c_rput {N p : Nat} {x y : Int64} {s : cS} (hN : 100000 < N) (h4 : (shp p).1 = 4) : OK (CF (fun i => i = p) s) (fxX4_put N p x y (hC s)) := by
  unfold fxX4_put fxX6_divisor
  refine OK_c (c_dvS 100000 0 N _ _ (by omega) (by omega)) (fun r e => ?_)
  obtain ⟨h', g⟩ := r
  have e' : h' = hC s := e
  subst e'
  dsimp only
  refine OK_i (fun _ => OK_s ⟨s, rfl, cf.rf⟩) (fun w => ?_)
  have n0 : ¬ g = 0 := fun e => w (by rw [e]; exact Int64.le_refl _)
  exact OK_n n0 (OK_b (sJ_4_0 h4) (OK_n n0 (OK_b (sJ_4_1 h4) (OK_s ⟨_, rfl, (cf_uJ (L := fun i => i = p) _ (rfl : p = p)).tr (cf_uJ (L := fun i => i = p) _ (rfl : p = p))⟩))))
/-- offerSlit -/
theorem c_offer {N b : Nat} {x y : Int64} {s : cS} (hN : 100000 < N) (hb : isB b) : OK (CF (fun i => i = b + 9) s) (fxX0_offerSlit N b x y (hC s)) := by
  obtain ⟨h0, -, -, -, -, -, h9⟩ := isB_sh hb
  have fin : OK (CF (fun i => i = b + 9) s) (fxX0_offerSlit_26 N b x y (hC s)) := by
    unfold fxX0_offerSlit_26
    exact OK_b (gR_0_8 h0) (OK_b (kO_4 h9) (OK_c (c_rput hN h9) (fun r e => OK_s e)))
  unfold fxX0_offerSlit
  refine OK_b (gR_0_8 h0) (OK_b (gJ_4_1 h9) (OK_i (fun _ => fin) (fun _ => OK_b (gR_0_8 h0) (OK_b (kO_4 h9) (OK_c (Q' := RD s) ?_ (fun r e => ?_))))))
  · unfold fxX4_isAbove
    exact OK_b (gJ_4_0 h9) (OK_b (gJ_4_1 h9) (c_iaS 100000 0 N _ _ _ _ (by omega) (by omega)))
  · obtain ⟨h', g⟩ := r
    have e' : h' = hC s := e
    subst e'
    exact OK_i (fun _ => OK_s ⟨s, rfl, cf.rf⟩) (fun _ => fin)
/-- isPassedBy -/
theorem c_passed {N b F E e : Nat} {x y z : Int64} {s : cS} (hb : isB b) (hF : F ≤ 44) (eg : EG s b F E) (he : e < E) : OK (RD s) (fxX0_isPassedBy N b (Int32.ofNat e) x y z (hC s)) := by
  obtain ⟨h0, -, h5, -, -, h8, -⟩ := isB_sh hb
  obtain ⟨u, w, f, g, -, -, lf, lg, -, -, ef, eg'⟩ := eg.2.2 e he
  have E66 := eg.1
  have fin : ∀ x y, OK (RD s) (fxX0_isPassedBy_122 N x y (hC s)) := fun x y => by
    unfold fxX0_isPassedBy_122
    exact OK_i (fun _ => OK_s rfl) (fun _ => OK_i (fun _ => OK_s rfl) (fun _ => OK_s rfl))
  have pl : ∀ k, k < 176 → aI (hC s) (b + 5) (Int32.ofNat k) = some (qA s (b + 5) k) := fun k hk => aI_N h5 hk (by decide)
  obtain ⟨c1, c2, c3⟩ := i_c4s e
  obtain ⟨f1, f2, -⟩ := i_c4s f
  obtain ⟨g1, g2, -⟩ := i_c4s g
  unfold fxX0_isPassedBy
  rw [c2, c3]
  refine OK_b (gR_0_7 h0) (OK_b (aI_N h8 (show 4 * e + 2 < 264 by omega) (by decide)) (OK_b (gR_0_7 h0) (OK_b (aI_N h8 (show 4 * e + 3 < 264 by omega) (by decide)) ?_)))
  rw [ef, eg', f1, f2, g1, g2, i_c4, i_c4]
  exact OK_b (gR_0_3 h0) (OK_b (pl _ (by omega)) (OK_b (gR_0_3 h0) (OK_b (pl _ (by omega)) (OK_b (gR_0_3 h0) (OK_b (pl _ (by omega)) (OK_b (gR_0_3 h0) (OK_b (pl _ (by omega)) (OK_b (gR_0_3 h0) (OK_b (pl _ (by omega)) (OK_b (gR_0_3 h0) (OK_b (pl _ (by omega)) (OK_i (fun _ => fin _ _) (fun _ => OK_i (fun _ => OK_s rfl) (fun _ => fin _ _))))))))))))))
/-- offerEdges -/
theorem c_offerE {N b F E e g : Nat} {s : cS} (hN : 100000 < N) (hb : isB b) (hF : F ≤ 44) (eg : EG s b F E) (he : e < E) (hg : g < E) : OK (CF (fun i => i = b + 9) s) (fxX0_offerEdges N b (Int32.ofNat e) (Int32.ofNat g) (hC s)) := by
  obtain ⟨h0, hp, h5, -, -, h8, -⟩ := isB_sh hb
  obtain ⟨hp3, d1, d2, d3⟩ := pt_sh hp
  have E66 := eg.1
  obtain ⟨u, w, -, -, lu, lw, -, -, eu, ew, -, -⟩ := eg.2.2 e he
  obtain ⟨u', w', -, -, lu', lw', -, -, eu', ew', -, -⟩ := eg.2.2 g hg
  have ed : ∀ k, k < 264 → aI (hC s) (b + 8) (Int32.ofNat k) = some (qA s (b + 8) k) := fun k hk => aI_N h8 hk (by decide)
  have x1 : ∀ k, k < 24 → aI (hC s) (b + 1 + 1) (Int32.ofNat k) = some (qA s (b + 1 + 1) k) := fun k hk => aI_N d1 hk (by decide)
  have x2 : ∀ k, k < 24 → aI (hC s) (b + 1 + 2) (Int32.ofNat k) = some (qA s (b + 1 + 2) k) := fun k hk => aI_N d2 hk (by decide)
  have x3 : ∀ k, k < 24 → aI (hC s) (b + 1 + 3) (Int32.ofNat k) = some (qA s (b + 1 + 3) k) := fun k hk => aI_N d3 hk (by decide)
  obtain ⟨c1, -, -⟩ := i_c4s e
  obtain ⟨g1, -, -⟩ := i_c4s g
  unfold fxX0_offerEdges
  rw [c1, g1, i_c4, i_c4]
  refine OK_b (gR_0_7 h0) (OK_b (ed _ (by omega)) (OK_b (gR_0_7 h0) (OK_b (ed _ (by omega)) (OK_b (gR_0_7 h0) (OK_b (ed _ (by omega)) (OK_b (gR_0_7 h0) (OK_b (ed _ (by omega)) ?_)))))))
  rw [eu, ew, eu', ew']
  refine OK_b (gR_0_1 h0) (OK_b (gR_3_1 hp3) (OK_b (x1 _ lw) (OK_b (gR_0_1 h0) (OK_b (gR_3_1 hp3) (OK_b (x1 _ lu) ?_)))))
  refine OK_b (gR_0_1 h0) (OK_b (gR_3_2 hp3) (OK_b (x2 _ lw) (OK_b (gR_0_1 h0) (OK_b (gR_3_2 hp3) (OK_b (x2 _ lu) ?_)))))
  refine OK_b (gR_0_1 h0) (OK_b (gR_3_3 hp3) (OK_b (x3 _ lw) (OK_b (gR_0_1 h0) (OK_b (gR_3_3 hp3) (OK_b (x3 _ lu) ?_)))))
  refine OK_b (gR_0_1 h0) (OK_b (gR_3_1 hp3) (OK_b (x1 _ lw') (OK_b (gR_0_1 h0) (OK_b (gR_3_1 hp3) (OK_b (x1 _ lu') ?_)))))
  refine OK_b (gR_0_1 h0) (OK_b (gR_3_2 hp3) (OK_b (x2 _ lw') (OK_b (gR_0_1 h0) (OK_b (gR_3_2 hp3) (OK_b (x2 _ lu') ?_)))))
  refine OK_b (gR_0_1 h0) (OK_b (gR_3_3 hp3) (OK_b (x3 _ lw') (OK_b (gR_0_1 h0) (OK_b (gR_3_3 hp3) (OK_b (x3 _ lu') ?_)))))
  refine OK_b (kO_0 h0) (OK_c (c_passed hb hF eg he) (fun r er => ?_))
  obtain ⟨h', v⟩ := r
  have er' : h' = hC s := er
  subst er'
  refine OK_i (fun _ => OK_s ⟨s, rfl, cf.rf⟩) (fun _ => OK_b (kO_0 h0) (OK_c (c_passed hb hF eg hg) (fun r er => ?_)))
  obtain ⟨h', v⟩ := r
  have er' : h' = hC s := er
  subst er'
  refine OK_i (fun _ => OK_s ⟨s, rfl, cf.rf⟩) (fun _ => OK_b (gR_0_1 h0) (OK_b (kO_3 hp3) (OK_b (c_along hp (by decide) lu) (OK_b (gR_0_1 h0) (OK_b (kO_3 hp3) (OK_b (c_along hp (by decide) lu') (OK_i (fun _ => OK_s ⟨s, rfl, cf.rf⟩) (fun _ => OK_b c_steep (OK_b (kO_0 h0) (OK_c (c_offer hN hb) (fun r er => OK_s er)))))))))))
theorem EG_cf {L : Nat → Prop} {s s' : cS} {b F E : Nat} (h : EG s b F E) (c : cf L s s') (hb : ¬ L b) (h8 : ¬ L (b + 8)) : EG s' b F E := by
  obtain ⟨g1, g2, g3⟩ := h
  refine ⟨g1, ?_, fun e he => ?_⟩
  · rw [c.I hb]
    exact g2
  · rw [c.A h8]
    exact g3 e he
theorem c_rs144 {N b F E e : Nat} {s0 : cS} {rec : Nat → Int32 → mh → Option mh} (hN : 100000 < N) (hb : isB b) (hF : F ≤ 44) (eg : EG s0 b F E) (he : e < E) (hr : ∀ s, cf (fun i => i = b + 9) s0 s → OK (CF (fun i => i = b + 9) s0) (rec b (Int32.ofNat (e + 1)) (hC s))) : ∀ (r g fu : Nat) (s : cS), g + r = E → r < fu → cf (fun i => i = b + 9) s0 s → OK (CF (fun i => i = b + 9) s0) (fxX0_reckonSlit_144 N rec fu b (Int32.ofNat e) (Int32.ofNat g) (hC s)) := by
  obtain ⟨h0, -⟩ := isB_sh hb
  have E66 := eg.1
  intro r
  induction r with
  | zero =>
    intro g fu s hg hfu c
    obtain ⟨fu', rfl⟩ : ∃ f', fu = f' + 1 := ⟨fu - 1, by omega⟩
    have e0 : g = E := by omega
    subst e0
    have eg' := EG_cf eg c (fun w => by omega) (fun w => by omega)
    rw [fxX0_reckonSlit_144, i_s]
    refine OK_b (gI_0_6 h0) ?_
    rw [eg'.2.1]
    exact OK_p (Int32.le_refl _) (hr s c)
  | succ r ih =>
    intro g fu s hg hfu c
    obtain ⟨fu', rfl⟩ : ∃ f', fu = f' + 1 := ⟨fu - 1, by omega⟩
    have eg' := EG_cf eg c (fun w => by omega) (fun w => by omega)
    rw [fxX0_reckonSlit_144, i_s, i_s]
    refine OK_b (gI_0_6 h0) ?_
    rw [eg'.2.1]
    refine OK_n (by rw [i_le (by omega) (by omega)]; omega) (OK_b (kO_0 h0) (OK_c (c_offerE hN hb hF eg' he (by omega)) (fun h' e' => ?_)))
    obtain ⟨s', e'', c'⟩ := e'
    subst e''
    exact ih (g + 1) fu' s' (by omega) (by omega) (c.tr c')
theorem c_rs132 {N b F E : Nat} {s0 : cS} (hN : 100000 < N) (hb : isB b) (hF : F ≤ 44) (eg : EG s0 b F E) : ∀ (r e fu : Nat) (s : cS), e + r = E → r < fu → cf (fun i => i = b + 9) s0 s → OK (CF (fun i => i = b + 9) s0) (fxX0_reckonSlit_132 N fu b (Int32.ofNat e) (hC s)) := by
  obtain ⟨h0, -⟩ := isB_sh hb
  have E66 := eg.1
  intro r
  induction r with
  | zero =>
    intro e fu s he hfu c
    obtain ⟨fu', rfl⟩ : ∃ f', fu = f' + 1 := ⟨fu - 1, by omega⟩
    have e0 : e = E := by omega
    subst e0
    have eg' := EG_cf eg c (fun w => by omega) (fun w => by omega)
    rw [fxX0_reckonSlit_132]
    refine OK_b (gI_0_6 h0) ?_
    rw [eg'.2.1]
    exact OK_p (Int32.le_refl _) (OK_s ⟨s, rfl, c⟩)
  | succ r ih =>
    intro e fu s he hfu c
    obtain ⟨fu', rfl⟩ : ∃ f', fu = f' + 1 := ⟨fu - 1, by omega⟩
    have eg' := EG_cf eg c (fun w => by omega) (fun w => by omega)
    rw [fxX0_reckonSlit_132, i_s]
    refine OK_b (gI_0_6 h0) ?_
    rw [eg'.2.1]
    exact OK_n (by rw [i_le (by omega) (by omega)]; omega) (c_rs144 hN hb hF eg (by omega) (fun s' c' => ih (e + 1) fu' s' (by omega) (by omega) c') (E - (e + 1)) (e + 1) N s (by omega) (by omega) c)
theorem c_rs23 {N b n F E : Nat} {s0 : cS} (hN : 100000 < N) (hb : isB b) (hF : F ≤ 44) (hn : n ≤ 24) (h1 : qI s0 (b + 1) 0 = Int32.ofNat n) (h2 : qI s0 b 2 = Int32.ofNat F) (eg : EG s0 b F E) : ∀ (r f fu : Nat) (s : cS), f + r = F → r < fu → cf (fun i => i = b + 9) s0 s → OK (CF (fun i => i = b + 9) s0) (fxX0_reckonSlit_23 N fu b (Int32.ofNat f) (hC s)) := by
  obtain ⟨h0, hp, h5, -⟩ := isB_sh hb
  obtain ⟨hp3, -⟩ := pt_sh hp
  have E66 := eg.1
  intro r
  induction r with
  | zero =>
    intro f fu s hf hfu c
    obtain ⟨fu', rfl⟩ : ∃ f', fu = f' + 1 := ⟨fu - 1, by omega⟩
    have e0 : f = F := by omega
    subst e0
    rw [fxX0_reckonSlit_23]
    refine OK_b (gI_0_2 h0) ?_
    rw [c.I (fun w => by omega), h2]
    exact OK_p (Int32.le_refl _) (c_rs132 hN hb hF eg E 0 N s (by omega) (by omega) c)
  | succ r ih =>
    intro f fu s hf hfu c
    obtain ⟨fu', rfl⟩ : ∃ f', fu = f' + 1 := ⟨fu - 1, by omega⟩
    obtain ⟨c1, c2, c3⟩ := i_c4s f
    have pl : ∀ k, k < 176 → aI (hC s) (b + 5) (Int32.ofNat k) = some (qA s (b + 5) k) := fun k hk => aI_N h5 hk (by decide)
    rw [fxX0_reckonSlit_23, c1, c2, c3, i_c4, i_s]
    refine OK_b (gI_0_2 h0) ?_
    rw [c.I (fun w => by omega), h2]
    obtain ⟨j, lj, qf⟩ := c_farthest0 (N := N) (p := b + 1) (n := 24) (k := n) (mx := (-qA s (b + 5) (4 * f)).toInt64) (my := (-qA s (b + 5) (4 * f + 1)).toInt64) (mz := (-qA s (b + 5) (4 * f + 2)).toInt64) (s := s) (by omega) hp (by omega) (by rw [c.I (fun w => by omega)]; exact h1) hn (by omega)
    refine OK_n (by rw [i_le (by omega) (by omega)]; omega) (OK_b (gR_0_3 h0) (OK_b (pl _ (by omega)) (OK_b (gR_0_3 h0) (OK_b (pl _ (by omega)) (OK_b (gR_0_3 h0) (OK_b (pl _ (by omega)) (OK_b (gR_0_1 h0) (OK_b (kO_3 hp3) (OK_b qf (OK_b (gR_0_3 h0) (OK_b (pl _ (by omega)) (OK_b (gR_0_1 h0) (OK_b (kO_3 hp3) (OK_b (c_along hp (by decide) lj) (OK_b c_steep (OK_b (kO_0 h0) (OK_c (c_offer hN hb) (fun h' e' => ?_))))))))))))))))))
    obtain ⟨s', e'', c'⟩ := e'
    subst e''
    exact ih (f + 1) fu' s' (by omega) (by omega) (c.tr c')
/-- reckonSlit -/
theorem c_slit {N b : Nat} {s : cS} (hN : 100000 < N) (hb : isB b) (bo : BO s b) : OK (CF (fun i => i = b + 9) s) (fxX0_reckonSlit N b (hC s)) := by
  obtain ⟨kd, n, F, E, R, h1, h2, h3, h4, h5, h6, h7, h8, h9, h10, h11, -⟩ := bo
  obtain ⟨b0, -, -, -, -, -, b9⟩ := isB_sh hb
  unfold fxX0_reckonSlit
  refine OK_b (gI_0_0 b0) ?_
  rw [h5]
  refine OK_i (fun w => ?_) (fun _ => OK_s ⟨s, rfl, cf.rf⟩)
  have k4 : kd = 4 := i_inj (b := 4) (by omega) (by omega) w
  exact OK_b (gR_0_8 b0) (OK_b (gJ_4_1 b9) (OK_i (fun _ => c_rs23 hN hb h3 h2 h6 h7 (h11 k4).1 F 0 N s (by omega) (by omega) cf.rf) (fun _ => OK_s ⟨s, rfl, cf.rf⟩)))
