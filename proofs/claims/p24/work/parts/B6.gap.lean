theorem g41 : (shp 41).1 = 1 := rfl
theorem g42 : shp 42 = (10, 4) := rfl
theorem g43 : shp 43 = (10, 4) := rfl
theorem g44 : shp 44 = (10, 4) := rfl
theorem g45 : shp 45 = (10, 4) := rfl
/-- only the gap's cells have changed, and not how many there are -/
def GG (s0 s : cS) : Prop := cf (rg 41 45) s0 s ∧ qI s 41 2 = qI s0 41 2
theorem GG_rf {s : cS} : GG s s := ⟨cf.rf, rfl⟩
theorem GG_J {s0 s : cS} {k : Nat} {v : Int64} (h : GG s0 s) : GG s0 (uJ s 41 k v) := ⟨h.1.tr (cf_uJ _ ⟨by omega, by omega⟩), h.2⟩
theorem GG_A {s0 s : cS} {a : Nat} {f : Nat → Int32} (h : GG s0 s) (l : 42 ≤ a) (u : a ≤ 45) : GG s0 (uA s a f) := ⟨h.1.tr (cf_uA _ ⟨by omega, by omega⟩), h.2⟩
theorem GG_tr {a b c : cS} (h : GG a b) (g : GG b c) : GG a c := ⟨h.1.tr g.1, g.2.trans h.2⟩
def GQ (s : cS) {α : Type} (r : mh × α) : Prop := ∃ s', r.1 = hC s' ∧ GG s s'
theorem ax {s : cS} {i : Nat} (hi : i < 4) : aI (hC s) (41 + 1) (Int32.ofNat i) = some (qA s 42 i) := aI_N g42 hi (by decide)
theorem ay {s : cS} {i : Nat} (hi : i < 4) : aI (hC s) (41 + 2) (Int32.ofNat i) = some (qA s 43 i) := aI_N g43 hi (by decide)
theorem az {s : cS} {i : Nat} (hi : i < 4) : aI (hC s) (41 + 3) (Int32.ofNat i) = some (qA s 44 i) := aI_N g44 hi (by decide)
theorem ap {s : cS} {i : Nat} (hi : i < 4) : aI (hC s) (41 + 4) (Int32.ofNat i) = some (qA s 45 i) := aI_N g45 hi (by decide)
theorem c_galong {N i : Nat} {s : cS} (hi : i < 4) : OK (RD s) (fxX1_along N 41 (Int32.ofNat i) (hC s)) := by
  unfold fxX1_along
  exact OK_b (gJ_1_7 g41) (OK_b (gR_1_3 g41) (OK_b (ax hi) (OK_b (gJ_1_8 g41) (OK_b (gR_1_4 g41) (OK_b (ay hi) (OK_b (gJ_1_9 g41) (OK_b (gR_1_5 g41) (OK_b (az hi) (OK_s rfl)))))))))
theorem c_gcX {N i j : Nat} {s : cS} (hi : i < 4) (hj : j < 4) : OK (RD s) (fxX1_crossX N 41 (Int32.ofNat i) (Int32.ofNat j) (hC s)) := by
  unfold fxX1_crossX
  exact OK_b (gR_1_4 g41) (OK_b (ay hi) (OK_b (gR_1_5 g41) (OK_b (az hj) (OK_b (gR_1_5 g41) (OK_b (az hi) (OK_b (gR_1_4 g41) (OK_b (ay hj) (OK_s rfl))))))))
theorem c_gcY {N i j : Nat} {s : cS} (hi : i < 4) (hj : j < 4) : OK (RD s) (fxX1_crossY N 41 (Int32.ofNat i) (Int32.ofNat j) (hC s)) := by
  unfold fxX1_crossY
  exact OK_b (gR_1_5 g41) (OK_b (az hi) (OK_b (gR_1_3 g41) (OK_b (ax hj) (OK_b (gR_1_3 g41) (OK_b (ax hi) (OK_b (gR_1_5 g41) (OK_b (az hj) (OK_s rfl))))))))
theorem c_gcZ {N i j : Nat} {s : cS} (hi : i < 4) (hj : j < 4) : OK (RD s) (fxX1_crossZ N 41 (Int32.ofNat i) (Int32.ofNat j) (hC s)) := by
  unfold fxX1_crossZ
  exact OK_b (gR_1_3 g41) (OK_b (ax hi) (OK_b (gR_1_4 g41) (OK_b (ay hj) (OK_b (gR_1_4 g41) (OK_b (ay hi) (OK_b (gR_1_3 g41) (OK_b (ax hj) (OK_s rfl))))))))
/-- a call that changes nothing, within another -/
theorem OK_r {α β : Type} {s : cS} {Q : β → Prop} {x : Option (mh × α)} {f : mh × α → Option β} (h : OK (RD s) x) (k : ∀ v, OK Q (f (hC s, v))) : OK Q (x.bind f) := by
  refine OK_c h (fun r e => ?_)
  obtain ⟨h', v⟩ := r
  have e' : h' = hC s := e
  subst e'
  exact k v
theorem c_gshare {N i j : Nat} {s : cS} (hi : i < 4) (hj : j < 4) : OK (RD s) (fxX1_share N 41 (Int32.ofNat i) (Int32.ofNat j) (hC s)) := by
  unfold fxX1_share
  exact OK_b (gJ_1_7 g41) (OK_b (kO_1 g41) (OK_r (c_gcX hi hj) (fun _ => OK_b (gJ_1_8 g41) (OK_b (kO_1 g41) (OK_r (c_gcY hi hj) (fun _ => OK_b (gJ_1_9 g41) (OK_b (kO_1 g41) (OK_r (c_gcZ hi hj) (fun _ => OK_s rfl)))))))))
/-- what a step answers: 0 or 1 -/
def G01 (s : cS) (r : mh × Int32) : Prop := (∃ s', r.1 = hC s' ∧ GG s s') ∧ (r.2 = 0 ∨ r.2 = 1)
theorem c_stPoint {N i : Nat} {s : cS} (hi : i < 4) : OK (G01 s) (fxX1_stepToPoint N 41 (Int32.ofNat i) (hC s)) := by
  unfold fxX1_stepToPoint
  exact OK_b (gR_1_3 g41) (OK_b (ax hi) (OK_b (sJ_1_7 g41) (OK_b (gR_1_4 g41) (OK_b (ay hi) (OK_b (sJ_1_8 g41) (OK_b (gR_1_5 g41) (OK_b (az hi) (OK_b (sJ_1_9 g41) (OK_b (kO_1 g41) (OK_r (c_galong hi) (fun _ => OK_b (sJ_1_0 g41) (OK_b (sJ_1_1 g41) (OK_s ⟨⟨_, rfl, GG_J (GG_J (GG_J (GG_J (GG_J GG_rf))))⟩, .inr rfl⟩)))))))))))))
theorem c_stLine {N i j : Nat} {s : cS} (hi : i < 4) (hj : j < 4) : OK (G01 s) (fxX1_stepToLine N 41 (Int32.ofNat i) (Int32.ofNat j) (hC s)) := by
  unfold fxX1_stepToLine
  refine OK_b (gR_1_3 g41) (OK_b (ax hj) (OK_b (gR_1_3 g41) (OK_b (ax hi) (OK_b (gR_1_4 g41) (OK_b (ay hj) (OK_b (gR_1_4 g41) (OK_b (ay hi) (OK_b (gR_1_5 g41) (OK_b (az hj) (OK_b (gR_1_5 g41) (OK_b (az hi) ?_)))))))))))
  refine OK_b (gR_1_3 g41) (OK_b (ax hi) (OK_b (gR_1_4 g41) (OK_b (ay hi) (OK_b (gR_1_5 g41) (OK_b (az hi) (OK_b (gR_1_3 g41) (OK_b (ax hj) (OK_b (gR_1_4 g41) (OK_b (ay hj) (OK_b (gR_1_5 g41) (OK_b (az hj) ?_)))))))))))
  refine OK_i (fun _ => OK_s ⟨⟨_, rfl, GG_rf⟩, .inl rfl⟩) (fun _ => OK_i (fun _ => ?_) (fun _ => OK_s ⟨⟨_, rfl, GG_rf⟩, .inl rfl⟩))
  refine OK_b (gR_1_3 g41) (OK_b (ax hi) (OK_b (gR_1_3 g41) (OK_b (ax hj) (OK_b (sJ_1_7 g41) ?_))))
  refine OK_b (gR_1_4 g41) (OK_b (ay hi) (OK_b (gR_1_4 g41) (OK_b (ay hj) (OK_b (sJ_1_8 g41) ?_))))
  refine OK_b (gR_1_5 g41) (OK_b (az hi) (OK_b (gR_1_5 g41) (OK_b (az hj) (OK_b (sJ_1_9 g41) ?_))))
  exact OK_b (kO_1 g41) (OK_r (c_galong hi) (fun _ => OK_b (sJ_1_0 g41) (OK_b (sJ_1_1 g41) (OK_s ⟨⟨_, rfl, GG_J (GG_J (GG_J (GG_J (GG_J GG_rf))))⟩, .inr rfl⟩))))
theorem c_stPlane {N i j k : Nat} {s : cS} (hi : i < 4) (hj : j < 4) (hk : k < 4) : OK (G01 s) (fxX1_stepToPlane N 41 (Int32.ofNat i) (Int32.ofNat j) (Int32.ofNat k) (hC s)) := by
  unfold fxX1_stepToPlane
  refine OK_b (kO_1 g41) (OK_r (c_gcX hi hj) (fun _ => OK_b (kO_1 g41) (OK_r (c_gcX hj hk) (fun _ => OK_b (kO_1 g41) (OK_r (c_gcX hk hi) (fun _ => OK_b (sJ_1_7 g41) ?_))))))
  refine OK_b (kO_1 g41) (OK_r (c_gcY hi hj) (fun _ => OK_b (kO_1 g41) (OK_r (c_gcY hj hk) (fun _ => OK_b (kO_1 g41) (OK_r (c_gcY hk hi) (fun _ => OK_b (sJ_1_8 g41) ?_))))))
  refine OK_b (kO_1 g41) (OK_r (c_gcZ hi hj) (fun _ => OK_b (kO_1 g41) (OK_r (c_gcZ hj hk) (fun _ => OK_b (kO_1 g41) (OK_r (c_gcZ hk hi) (fun _ => OK_b (sJ_1_9 g41) ?_))))))
  refine OK_b (kO_1 g41) (OK_r (c_gshare hi hj) (fun _ => OK_i (fun _ => OK_s ⟨⟨_, rfl, GG_J (GG_J (GG_J GG_rf))⟩, .inl rfl⟩) (fun _ => ?_)))
  refine OK_b (kO_1 g41) (OK_r (c_gshare hj hk) (fun _ => OK_i (fun _ => OK_s ⟨⟨_, rfl, GG_J (GG_J (GG_J GG_rf))⟩, .inl rfl⟩) (fun _ => ?_)))
  refine OK_b (kO_1 g41) (OK_r (c_gshare hk hi) (fun _ => OK_i (fun _ => ?_) (fun _ => OK_s ⟨⟨_, rfl, GG_J (GG_J (GG_J GG_rf))⟩, .inl rfl⟩)))
  refine OK_b (gJ_1_7 g41) (OK_b (gJ_1_7 g41) (OK_b (gJ_1_8 g41) (OK_b (gJ_1_8 g41) (OK_b (gJ_1_9 g41) (OK_b (gJ_1_9 g41) (OK_b (sJ_1_1 g41) ?_))))))
  refine OK_b (kO_1 g41) (OK_r (c_galong hi) (fun _ => OK_b (gJ_1_7 g41) (OK_b (sJ_1_7 g41) (OK_b (gJ_1_8 g41) (OK_b (sJ_1_8 g41) (OK_b (gJ_1_9 g41) (OK_b (sJ_1_9 g41) ?_)))))))
  exact OK_b (kO_1 g41) (OK_r (c_galong hi) (fun _ => OK_b (sJ_1_0 g41) (OK_s ⟨⟨_, rfl, GG_J (GG_J (GG_J (GG_J (GG_J (GG_J (GG_J (GG_J GG_rf)))))))⟩, .inr rfl⟩)))
theorem and01 {x : Int32} (h : x = 0 ∨ x = 1) : x &&& 1 = x := by
  rcases h with h | h
  · rw [h]
    decide
  · rw [h]
    decide
theorem c_hn118 {N k : Nat} {m : Int32} {s : cS} (hk : k ≤ 4) (h2 : qI s 41 2 = Int32.ofNat k) : ∀ (r i fu : Nat) (x : Int32), i + r = k → r < fu → (x = 0 ∨ x = 1) → OK (G01 s) (fxX1_holdsNearest_118 N fu 41 m x (Int32.ofNat i) (hC s)) := by
  intro r
  induction r with
  | zero =>
    intro i fu x hi hfu hx
    obtain ⟨fu', rfl⟩ : ∃ f', fu = f' + 1 := ⟨fu - 1, by omega⟩
    have e : i = k := by omega
    subst e
    rw [fxX1_holdsNearest_118]
    refine OK_b (gI_1_2 g41) ?_
    rw [h2]
    exact OK_p (Int32.le_refl _) (OK_p (and01 hx) (OK_s ⟨⟨s, rfl, GG_rf⟩, hx⟩))
  | succ r ih =>
    intro i fu x hi hfu hx
    obtain ⟨fu', rfl⟩ : ∃ f', fu = f' + 1 := ⟨fu - 1, by omega⟩
    rw [fxX1_holdsNearest_118]
    unfold fxX1_holdsNearest_155 fxX1_holdsNearest_160
    rw [i_s]
    refine OK_b (gI_1_2 g41) ?_
    rw [h2]
    refine OK_n (by rw [i_le (by omega) (by omega)]; omega) (OK_i (fun _ => OK_p (and01 hx) (OK_s ⟨⟨s, rfl, GG_rf⟩, hx⟩)) (fun _ => OK_i (fun _ => ih (i + 1) fu' 1 (by omega) (by omega) (.inr rfl)) (fun _ => ?_)))
    exact OK_b (kO_1 g41) (OK_r (c_galong (by omega)) (fun _ => OK_b (gJ_1_0 g41) (OK_i (fun _ => ih (i + 1) fu' 0 (by omega) (by omega) (.inl rfl)) (fun _ => ih (i + 1) fu' 1 (by omega) (by omega) (.inr rfl)))))
theorem c_hn114 {N k : Nat} {m x : Int32} {s0 s : cS} (hN : 600 < N) (hk : k ≤ 4) (h2 : qI s0 41 2 = Int32.ofNat k) (g : GG s0 s) (hx : x = 0 ∨ x = 1) : OK (G01 s0) (fxX1_holdsNearest_114 N 41 m x (hC s)) := by
  unfold fxX1_holdsNearest_114
  obtain ⟨r, e, ⟨s', e', g'⟩, o⟩ := c_hn118 (N := N) (m := m) (s := s) hk (g.2.trans h2) k 0 N x (by omega) (by omega) hx
  exact ⟨r, e, ⟨s', e', GG_tr g g'⟩, o⟩
theorem c_hn4 {N k : Nat} {m : Int32} {s0 : cS} (hN : 600 < N) (hk : k ≤ 4) (h2 : qI s0 41 2 = Int32.ofNat k) : ∀ (r i c fu : Nat) (s : cS), i + r = k → r < fu → c ≤ i → GG s0 s → (∀ j, j < c → ∃ x, x < 4 ∧ qA s 45 j = Int32.ofNat x) → OK (G01 s0) (fxX1_holdsNearest_4 N fu 41 m (Int32.ofNat c) (Int32.ofNat i) (hC s)) := by
  intro r
  induction r with
  | zero =>
    intro i c fu s hi hfu hc g pk
    obtain ⟨fu', rfl⟩ : ∃ f', fu = f' + 1 := ⟨fu - 1, by omega⟩
    have e : i = k := by omega
    subst e
    rw [fxX1_holdsNearest_4]
    refine OK_b (gI_1_2 g41) ?_
    rw [g.2, h2]
    refine OK_p (Int32.le_refl _) (OK_i (fun w => ?_) (fun _ => OK_i (fun w => ?_) (fun _ => OK_i (fun w => ?_) (fun _ => ?_))))
    · have c1 : c = 1 := i_inj (b := 1) (by omega) (by omega) w
      obtain ⟨x, lx', ex⟩ := pk 0 (by omega)
      refine OK_b (gR_1_6 g41) (OK_b (ap (i := 0) (by omega)) (OK_b (kO_1 g41) ?_))
      rw [ex]
      refine OK_c (c_stPoint lx') (fun r h => ?_)
      obtain ⟨h', v⟩ := r
      obtain ⟨⟨s', e', g'⟩, o⟩ := h
      have e'' : h' = hC s' := e'
      subst e''
      exact c_hn114 hN hk h2 (GG_tr g g') o
    · have c1 : c = 2 := i_inj (b := 2) (by omega) (by omega) w
      obtain ⟨x, lx', ex⟩ := pk 0 (by omega)
      obtain ⟨y, ly', ey⟩ := pk 1 (by omega)
      refine OK_b (gR_1_6 g41) (OK_b (ap (i := 0) (by omega)) (OK_b (gR_1_6 g41) (OK_b (ap (i := 1) (by omega)) (OK_b (kO_1 g41) ?_))))
      rw [ex, ey]
      refine OK_c (c_stLine lx' ly') (fun r h => ?_)
      obtain ⟨h', v⟩ := r
      obtain ⟨⟨s', e', g'⟩, o⟩ := h
      have e'' : h' = hC s' := e'
      subst e''
      exact c_hn114 hN hk h2 (GG_tr g g') o
    · have c1 : c = 3 := i_inj (b := 3) (by omega) (by omega) w
      obtain ⟨x, lx', ex⟩ := pk 0 (by omega)
      obtain ⟨y, ly', ey⟩ := pk 1 (by omega)
      obtain ⟨z, lz', ez⟩ := pk 2 (by omega)
      refine OK_b (gR_1_6 g41) (OK_b (ap (i := 0) (by omega)) (OK_b (gR_1_6 g41) (OK_b (ap (i := 1) (by omega)) (OK_b (gR_1_6 g41) (OK_b (ap (i := 2) (by omega)) (OK_b (kO_1 g41) ?_))))))
      rw [ex, ey, ez]
      refine OK_c (c_stPlane lx' ly' lz') (fun r h => ?_)
      obtain ⟨h', v⟩ := r
      obtain ⟨⟨s', e', g'⟩, o⟩ := h
      have e'' : h' = hC s' := e'
      subst e''
      unfold fxX1_holdsNearest_113
      exact OK_i (fun _ => c_hn114 hN hk h2 (GG_tr g g') (.inl rfl)) (fun _ => c_hn114 hN hk h2 (GG_tr g g') (.inr rfl))
    · unfold fxX1_holdsNearest_113
      exact c_hn114 hN hk h2 g (.inl rfl)
  | succ r ih =>
    intro i c fu s hi hfu hc g pk
    obtain ⟨fu', rfl⟩ : ∃ f', fu = f' + 1 := ⟨fu - 1, by omega⟩
    rw [fxX1_holdsNearest_4]
    unfold fxX1_holdsNearest_31
    rw [i_s c, i_s i]
    refine OK_b (gI_1_2 g41) ?_
    rw [g.2, h2]
    refine OK_n (by rw [i_le (by omega) (by omega)]; omega) (OK_i (fun _ => OK_b (gR_1_6 g41) (OK_b (wI_N g45 (show c < 4 by omega) (by decide)) ?_)) (fun _ => ih (i + 1) c fu' s (by omega) (by omega) (by omega) g pk))
    refine ih (i + 1) (c + 1) fu' _ (by omega) (by omega) (by omega) (GG_A g (by omega) (by omega)) (fun j hj => ?_)
    rw [qA_eq]
    by_cases d : j = c
    · rw [d, u_eq]
      exact ⟨i, by omega, rfl⟩
    · rw [u_ne d]
      exact pk j (by omega)
/-- holdsNearest -/
theorem c_holds {N k : Nat} {m : Int32} {s : cS} (hN : 600 < N) (hk : k ≤ 4) (h2 : qI s 41 2 = Int32.ofNat k) : OK (G01 s) (fxX1_holdsNearest N 41 m (hC s)) := by
  unfold fxX1_holdsNearest
  exact c_hn4 hN hk h2 k 0 0 N s (by omega) (by omega) (by omega) GG_rf (fun j hj => absurd hj (by omega))
/-- the gap's own cells have changed, and there are at most 4 differences -/
def GK (s0 : cS) (h : mh) : Prop := ∃ s k, h = hC s ∧ cf (rg 41 45) s0 s ∧ k ≤ 4 ∧ qI s 41 2 = Int32.ofNat k
theorem c_kp4 {N k : Nat} {m : Int32} {s0 : cS} (hk : k ≤ 4) (h2 : qI s0 41 2 = Int32.ofNat k) : ∀ (r i c fu : Nat) (s : cS), i + r = k → r < fu → c ≤ i → GG s0 s → OK (GK s0) (fxX1_keepPicked_4 N fu 41 m (Int32.ofNat c) (Int32.ofNat i) (hC s)) := by
  intro r
  induction r with
  | zero =>
    intro i c fu s hi hfu hc g
    obtain ⟨fu', rfl⟩ : ∃ f', fu = f' + 1 := ⟨fu - 1, by omega⟩
    have e : i = k := by omega
    subst e
    rw [fxX1_keepPicked_4]
    refine OK_b (gI_1_2 g41) ?_
    rw [g.2, h2]
    refine OK_p (Int32.le_refl _) (OK_b (sI_1_2 g41) (OK_s ⟨_, c, rfl, g.1.tr (cf_uI _ ⟨by omega, by omega⟩), by omega, ?_⟩))
    rw [qI_uI, if_pos ⟨rfl, rfl⟩]
  | succ r ih =>
    intro i c fu s hi hfu hc g
    obtain ⟨fu', rfl⟩ : ∃ f', fu = f' + 1 := ⟨fu - 1, by omega⟩
    have hi4 : i < 4 := by omega
    have hc4 : c < 4 := by omega
    rw [fxX1_keepPicked_4]
    unfold fxX1_keepPicked_60
    rw [i_s c, i_s i]
    refine OK_b (gI_1_2 g41) ?_
    rw [g.2, h2]
    refine OK_n (by rw [i_le (by omega) (by omega)]; omega) (OK_i (fun _ => ?_) (fun _ => ih (i + 1) c fu' s (by omega) (by omega) (by omega) g))
    refine OK_b (gR_1_3 g41) (OK_b (gR_1_3 g41) (OK_b (ax hi4) (OK_b (wI_N g42 hc4 (by decide)) ?_)))
    refine OK_b (gR_1_4 g41) (OK_b (gR_1_4 g41) (OK_b (ay hi4) (OK_b (wI_N g43 hc4 (by decide)) ?_)))
    refine OK_b (gR_1_5 g41) (OK_b (gR_1_5 g41) (OK_b (az hi4) (OK_b (wI_N g44 hc4 (by decide)) ?_)))
    exact ih (i + 1) (c + 1) fu' _ (by omega) (by omega) (by omega) (GG_A (GG_A (GG_A g (by omega) (by omega)) (by omega) (by omega)) (by omega) (by omega))
theorem c_sh11 {N k w : Nat} {s0 : cS} (hN : 600 < N) (hk : k ≤ 4) (h2 : qI s0 41 2 = Int32.ofNat k) (hw : w ≤ 8) : ∀ (r x fu : Nat) (s : cS), x + r = w → r < fu → GG s0 s → OK (fun r : mh × Int32 => GK s0 r.1) (fxX1_shrink_11 N fu 41 (Int32.ofNat w) (Int32.ofNat x) (hC s)) := by
  intro r
  induction r with
  | zero =>
    intro x fu s hx hfu g
    obtain ⟨fu', rfl⟩ : ∃ f', fu = f' + 1 := ⟨fu - 1, by omega⟩
    have e : x = w := by omega
    subst e
    rw [fxX1_shrink_11]
    exact OK_p (Int32.le_refl _) (OK_s ⟨s, k, rfl, g.1, hk, g.2.trans h2⟩)
  | succ r ih =>
    intro x fu s hx hfu g
    obtain ⟨fu', rfl⟩ : ∃ f', fu = f' + 1 := ⟨fu - 1, by omega⟩
    rw [fxX1_shrink_11, i_s]
    refine OK_n (by rw [i_le (by omega) (by omega)]; omega) (OK_b (kO_1 g41) (OK_c (c_holds hN hk (g.2.trans h2)) (fun r h => ?_)))
    obtain ⟨h', v⟩ := r
    obtain ⟨⟨s', e', g'⟩, o⟩ := h
    have e'' : h' = hC s' := e'
    subst e''
    refine OK_i (fun _ => ih (x + 1) fu' s' (by omega) (by omega) (GG_tr g g')) (fun _ => OK_b (kO_1 g41) (OK_c (Q' := GK s0) ?_ (fun h' e => OK_s e)))
    unfold fxX1_keepPicked
    exact c_kp4 hk h2 k 0 0 N s' (by omega) (by omega) (by omega) (GG_tr g g')
/-- shrink -/
theorem c_shrink {N k : Nat} {s : cS} (hN : 600 < N) (hk1 : 1 ≤ k) (hk : k ≤ 4) (h2 : qI s 41 2 = Int32.ofNat k) : OK (fun r : mh × Int32 => GK s r.1) (fxX1_shrink N 41 (hC s)) := by
  unfold fxX1_shrink
  refine OK_b (gI_1_2 g41) ?_
  have sh : ∃ w, w ≤ 8 ∧ (1 : Int32) <<< ((qI s 41 2 - (1 : Int32)) &&& 31) = Int32.ofNat w := by
    have cs : k = 1 ∨ k = 2 ∨ k = 3 ∨ k = 4 := by omega
    rw [h2]
    rcases cs with e | e | e | e
    · exact ⟨1, by omega, by rw [e]; decide⟩
    · exact ⟨2, by omega, by rw [e]; decide⟩
    · exact ⟨4, by omega, by rw [e]; decide⟩
    · exact ⟨8, by omega, by rw [e]; decide⟩
  obtain ⟨w, hw, e⟩ := sh
  rw [e]
  exact c_sh11 hN hk h2 hw w 0 N s (by omega) (by omega) GG_rf
/-- addDifference -/
theorem c_addDiff {N p q n m i j k : Nat} {s : cS} (hp : shp p = (3, n)) (hq : shp q = (3, m)) (hn : n < 600) (hm : m < 600) (hi : i < n) (hj : j < m) (hk : k ≤ 4) (h2 : qI s 41 2 = Int32.ofNat k) : OK (fun h => ∃ s' k', h = hC s' ∧ cf (rg 41 45) s s' ∧ 1 ≤ k' ∧ k' ≤ 4 ∧ qI s' 41 2 = Int32.ofNat k') (fxX1_addDifference N 41 p (Int32.ofNat i) q (Int32.ofNat j) (hC s)) := by
  obtain ⟨p3, d1, d2, d3⟩ := pt_sh hp
  obtain ⟨q3, f1, f2, f3⟩ := pt_sh hq
  unfold fxX1_addDifference
  refine OK_b (gI_1_2 g41) (OK_b (gR_1_3 g41) (OK_b (aL_10 g42) ?_))
  rw [h2]
  by_cases c : k = 4
  · exact OK_p (by rw [c]; exact Int32.le_refl _) (OK_s ⟨s, k, rfl, cf.rf, by omega, by omega, h2⟩)
  · have hk4 : k < 4 := by omega
    refine OK_n (by rw [i_le (by omega) (by omega)]; omega) ?_
    refine OK_b (gR_1_3 g41) (OK_b (gI_1_2 g41) (OK_b (gR_3_1 p3) (OK_b (aI_N d1 hi (by omega)) (OK_b (gR_3_1 q3) (OK_b (aI_N f1 hj (by omega)) ?_)))))
    rw [h2]
    refine OK_b (wI_N g42 hk4 (by decide)) (OK_b (gR_1_4 g41) (OK_b (gI_1_2 g41) (OK_b (gR_3_2 p3) (OK_b (aI_N d2 hi (by omega)) (OK_b (gR_3_2 q3) (OK_b (aI_N f2 hj (by omega)) ?_))))))
    rw [qI_uA, h2]
    refine OK_b (wI_N g43 hk4 (by decide)) (OK_b (gR_1_5 g41) (OK_b (gI_1_2 g41) (OK_b (gR_3_3 p3) (OK_b (aI_N d3 hi (by omega)) (OK_b (gR_3_3 q3) (OK_b (aI_N f3 hj (by omega)) ?_))))))
    rw [qI_uA, qI_uA, h2]
    refine OK_b (wI_N g44 hk4 (by decide)) (OK_b (gI_1_2 g41) ?_)
    rw [qI_uA, qI_uA, qI_uA, h2, i_s]
    refine OK_b (sI_1_2 g41) (OK_s ⟨_, k + 1, rfl, ?_, by omega, by omega, ?_⟩)
    · exact (((cf_uA _ ⟨by omega, by omega⟩).tr (cf_uA _ ⟨by omega, by omega⟩)).tr (cf_uA _ ⟨by omega, by omega⟩)).tr (cf_uI _ ⟨by omega, by omega⟩)
    · rw [qI_uI, if_pos ⟨rfl, rfl⟩]
theorem c_rk15 {N p q n m kp kq : Nat} {s0 : cS} (hN : 100000 < N) (hp : shp p = (3, n)) (hq : shp q = (3, m)) (hn : n < 600) (hm : m < 600) (hn1 : 1 ≤ n) (hm1 : 1 ≤ m) (pp : p + 3 < 41 ∨ 45 < p) (pq : q + 3 < 41 ∨ 45 < q) (kpe : qI s0 p 0 = Int32.ofNat kp) (kqe : qI s0 q 0 = Int32.ofNat kq) (hkp : kp ≤ n) (hkq : kq ≤ m) : ∀ (r c fu : Nat) (s : cS) (k : Nat), c + r = 100000 → r < fu → cf (rg 41 45) s0 s → 1 ≤ k → k ≤ 4 → qI s 41 2 = Int32.ofNat k → OK (CF (rg 41 45) s0) (fxX1_reckon_15 N fu 41 p q (Int32.ofNat c) (hC s)) := by
  obtain ⟨p3, -⟩ := pt_sh hp
  obtain ⟨q3, -⟩ := pt_sh hq
  have fin : ∀ s, cf (rg 41 45) s0 s → OK (CF (rg 41 45) s0) (fxX1_reckon_37 N 41 (hC s)) := fun s c => by
    unfold fxX1_reckon_37
    exact OK_b (sJ_1_0 g41) (OK_b (sJ_1_1 g41) (OK_s ⟨_, rfl, (c.tr (cf_uJ _ ⟨by omega, by omega⟩)).tr (cf_uJ _ ⟨by omega, by omega⟩)⟩))
  intro r
  induction r with
  | zero =>
    intro c fu s k hc hfu cc h1 h4 h2
    obtain ⟨fu', rfl⟩ : ∃ f', fu = f' + 1 := ⟨fu - 1, by omega⟩
    have e : c = 100000 := by omega
    subst e
    rw [fxX1_reckon_15]
    exact OK_p (by decide) (OK_s ⟨s, rfl, cc⟩)
  | succ r ih =>
    intro c fu s k hc hfu cc h1 h4 h2
    obtain ⟨fu', rfl⟩ : ∃ f', fu = f' + 1 := ⟨fu - 1, by omega⟩
    rw [fxX1_reckon_15, i_s]
    refine OK_n (n100 (by omega)) (OK_b (kO_1 g41) (OK_c (c_shrink (by omega) h1 h4 h2) (fun r h => ?_)))
    obtain ⟨h', v⟩ := r
    obtain ⟨s1, k1, e1, c1, l1, z1⟩ := h
    have e1' : h' = hC s1 := e1
    subst e1'
    have cs1 := cc.tr c1
    refine OK_i (fun _ => fin s1 cs1) (fun _ => OK_b (gJ_1_0 g41) (OK_i (fun _ => fin s1 cs1) (fun _ => ?_)))
    obtain ⟨i, li, qi⟩ := c_farthest0 (N := N) (p := p) (n := n) (k := kp) (mx := -qJ s1 41 7) (my := -qJ s1 41 8) (mz := -qJ s1 41 9) (s := s1) (by omega) hp hn (by rw [cs1.I (fun w => by have := w.1; have := w.2; omega)]; exact kpe) hkp hn1
    obtain ⟨j, lj, qj⟩ := c_farthest0 (N := N) (p := q) (n := m) (k := kq) (mx := qJ s1 41 7) (my := qJ s1 41 8) (mz := qJ s1 41 9) (s := s1) (by omega) hq hm (by rw [cs1.I (fun w => by have := w.1; have := w.2; omega)]; exact kqe) hkq hm1
    refine OK_b (gJ_1_7 g41) (OK_b (gJ_1_8 g41) (OK_b (gJ_1_9 g41) (OK_b (kO_3 p3) (OK_b qi (OK_b (gJ_1_7 g41) (OK_b (gJ_1_8 g41) (OK_b (gJ_1_9 g41) (OK_b (kO_3 q3) (OK_b qj (OK_b (kO_1 g41) (OK_c (c_addDiff hp hq hn hm li lj l1 z1) (fun h' e' => ?_))))))))))))
    obtain ⟨s2, k2, e2, c2, m1, m4, z2⟩ := e'
    subst e2
    have cs2 := cs1.tr c2
    obtain ⟨k3, rfl⟩ : ∃ k3, k2 = k3 + 1 := ⟨k2 - 1, by omega⟩
    refine OK_b (gI_1_2 g41) (OK_b (kO_1 g41) ?_)
    rw [z2, i_m1]
    exact OK_r (c_galong (by omega)) (fun _ => OK_b (gJ_1_0 g41) (OK_i (fun _ => ih (c + 1) fu' s2 (k3 + 1) (by omega) (by omega) cs2 m1 m4 z2) (fun _ => OK_s ⟨s2, rfl, cs2⟩)))
/-- reckon, of the gap: it comes back -/
theorem c_reckon {N p q n m kp kq : Nat} {s : cS} (hN : 100000 < N) (hp : shp p = (3, n)) (hq : shp q = (3, m)) (hn : n < 600) (hm : m < 600) (hn1 : 1 ≤ n) (hm1 : 1 ≤ m) (pp : p + 3 < 41 ∨ 45 < p) (pq : q + 3 < 41 ∨ 45 < q) (kpe : qI s p 0 = Int32.ofNat kp) (kqe : qI s q 0 = Int32.ofNat kq) (hkp : kp ≤ n) (hkq : kq ≤ m) : OK (CF (rg 41 45) s) (fxX1_reckon N 41 p q (hC s)) := by
  have c0 : cf (rg 41 45) s (uI s 41 2 0) := cf_uI _ ⟨by omega, by omega⟩
  unfold fxX1_reckon
  refine OK_b (sI_1_2 g41) (OK_b (kO_1 g41) (OK_c (c_addDiff (i := 0) (j := 0) (k := 0) hp hq hn hm (by omega) (by omega) (by omega) (by rw [qI_uI, if_pos ⟨rfl, rfl⟩]; rfl)) (fun h' e' => ?_)))
  obtain ⟨s2, k2, e2, c2, m1, m4, z2⟩ := e'
  subst e2
  exact c_rk15 hN hp hq hn hm hn1 hm1 pp pq kpe kqe hkp hkq 100000 0 N s2 k2 (by omega) (by omega) (c0.tr c2) m1 m4 z2
