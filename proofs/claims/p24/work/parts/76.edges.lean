theorem sm_app (b : Nat → Nat) (x : Nat) : ∀ y, sm b (x + y) = sm b x + sm (fun i => b (x + i)) y := by
  intro y
  induction y with
  | zero => rfl
  | succ y ih =>
    show sm b (x + y) + b (x + y) = sm b x + (sm (fun i => b (x + i)) y + b (x + y))
    rw [ih]
    omega
theorem sm_blk (b : Nat → Nat) (w : Nat) : ∀ F, sm b (w * F) = sm (fun f => sm (fun i => b (w * f + i)) w) F := by
  intro F
  induction F with
  | zero => rfl
  | succ F ih =>
    rw [Nat.mul_succ, sm_app, ih]
    rfl
theorem sm_cut {r : Nat} : ∀ w, r ≤ w → sm (fun i => if i < r then 1 else 0) w = r := by
  intro w
  induction w with
  | zero =>
    intro h
    show 0 = r
    omega
  | succ w ih =>
    intro h
    show sm (fun i => if i < r then 1 else 0) w + (if w < r then 1 else 0) = r
    by_cases c : r ≤ w
    · rw [ih c, if_neg (by omega)]
      rfl
    · have hr : r = w + 1 := by omega
      have : sm (fun i => if i < r then 1 else 0) w = sm (fun i => if i < w then 1 else 0) w := by
        have : ∀ v, v ≤ w → sm (fun i => if i < r then 1 else 0) v = v := by
          intro v
          induction v with
          | zero =>
            intro _
            rfl
          | succ v ihv =>
            intro hv
            show sm (fun i => if i < r then 1 else 0) v + (if v < r then 1 else 0) = v + 1
            rw [ihv (by omega), if_pos (by omega)]
        have h2 : ∀ v, v ≤ w → sm (fun i => if i < w then 1 else 0) v = v := by
          intro v
          induction v with
          | zero =>
            intro _
            rfl
          | succ v ihv =>
            intro hv
            show sm (fun i => if i < w then 1 else 0) v + (if v < w then 1 else 0) = v + 1
            rw [ihv (by omega), if_pos (by omega)]
        rw [this w (Nat.le_refl w), h2 w (Nat.le_refl w)]
      rw [if_pos (by omega)]
      have h2 : ∀ v, v ≤ w → sm (fun i => if i < r then 1 else 0) v = v := by
        intro v
        induction v with
        | zero =>
          intro _
          rfl
        | succ v ihv =>
          intro hv
          show sm (fun i => if i < r then 1 else 0) v + (if v < r then 1 else 0) = v + 1
          rw [ihv (by omega), if_pos (by omega)]
      rw [h2 w (Nat.le_refl w), hr]
theorem sm_ext {f g : Nat → Nat} : ∀ n, (∀ k, k < n → f k = g k) → sm f n = sm g n := by
  intro n
  induction n with
  | zero =>
    intro _
    rfl
  | succ n ih =>
    intro h
    show sm f n + f n = sm g n + g n
    rw [ih (fun k hk => h k (by omega)), h n (by omega)]
/-- no more than there are places in the rows -/
theorem places_le {F E : Nat} {rf : Nat → Nat} (h25 : ∀ k, k < F → rf k ≤ 25) (pl : Nat → Nat × Nat) (hp : ∀ t, t < E → (pl t).1 < F ∧ (pl t).2 < rf (pl t).1) (hd : ∀ i j, i < j → j < E → pl i ≠ pl j) : E ≤ sm rf F := by
  have e1 : sm (fun x => if x % 25 < rf (x / 25) then 1 else 0) (25 * F) = sm rf F := by
    rw [sm_blk]
    refine sm_ext F (fun k hk => ?_)
    have : sm (fun i => (fun x => if x % 25 < rf (x / 25) then 1 else 0) (25 * k + i)) 25 = sm (fun i => if i < rf k then 1 else 0) 25 := by
      refine sm_ext 25 (fun i hi => ?_)
      show (if (25 * k + i) % 25 < rf ((25 * k + i) / 25) then 1 else 0) = _
      rw [show (25 * k + i) % 25 = i by omega, show (25 * k + i) / 25 = k by omega]
    rw [this]
    exact sm_cut 25 (h25 k hk)
  rw [← e1]
  refine sm_inj (v := fun t => 25 * (pl t).1 + (pl t).2) (fun t ht => ?_) (fun i j hij hj e => ?_)
  · obtain ⟨p1, p2⟩ := hp t ht
    have := h25 _ p1
    refine ⟨by show 25 * (pl t).1 + (pl t).2 < 25 * F; omega, ?_⟩
    show 1 ≤ if (25 * (pl t).1 + (pl t).2) % 25 < rf ((25 * (pl t).1 + (pl t).2) / 25) then 1 else 0
    rw [show (25 * (pl t).1 + (pl t).2) % 25 = (pl t).2 by omega, show (25 * (pl t).1 + (pl t).2) / 25 = (pl t).1 by omega, if_pos p2]
    exact Nat.le_refl 1
  · obtain ⟨p1, p2⟩ := hp i (by omega)
    obtain ⟨q1, q2⟩ := hp j hj
    have := h25 _ p1
    have := h25 _ q1
    have e' : 25 * (pl i).1 + (pl i).2 = 25 * (pl j).1 + (pl j).2 := e
    refine hd i j hij hj (Prod.ext ?_ ?_)
    · show (pl i).1 = (pl j).1
      omega
    · show (pl i).2 = (pl j).2
      omega
/-- the rows of a table of FACES, as functions -/
def tbF (P : Nat → V3) (n : Nat) (s : mS) (g F : Nat) (rf : Nat → Nat) (ρf : Nat → Nat → Nat) : Prop := ∀ k, k < F → fc P n (fN s (64 * g + k)) (fD s (64 * g + k)) ∧ bd3 (fN s (64 * g + k)) 320000 ∧ rf k ≤ 25 ∧ 3 ≤ rf k ∧ s.2.2.1 32 (64 * g + k) = Int32.ofNat (rf k) ∧ (∀ j, j < rf k → fQ s (64 * g + k) j = Int32.ofNat (ρf k j) ∧ ρf k j < n) ∧ rgF P n (fN s (64 * g + k)) (fD s (64 * g + k)) (rf k) (ρf k)
theorem tb_fun {P : Nat → V3} {n g F : Nat} {s : mS} (hdi : ∀ i j, i < n → j < n → i ≠ j → P i ≠ P j) (h : tbO P n s g F) : ∃ rf ρf, tbF P n s g F rf ρf := by
  have ch : ∀ k, ∃ (r : Nat) (ρ : Nat → Nat), k < F → r ≤ 25 ∧ s.2.2.1 32 (64 * g + k) = Int32.ofNat r ∧ (∀ j, j < r → fQ s (64 * g + k) j = Int32.ofNat (ρ j)) ∧ rgF P n (fN s (64 * g + k)) (fD s (64 * g + k)) r ρ := by
    intro k
    by_cases c : k < F
    · obtain ⟨-, -, r, ρ, h1⟩ := h.2.1 k c
      exact ⟨r, ρ, fun _ => h1⟩
    · exact ⟨0, fun _ => 0, fun q => absurd q c⟩
  refine ⟨fun k => (ch k).choose, fun k => (ch k).choose_spec.choose, fun k hk => ?_⟩
  obtain ⟨h1, h2, h3, h4⟩ := (ch k).choose_spec.choose_spec hk
  obtain ⟨f1, f2, -⟩ := h.2.1 k hk
  exact ⟨f1, f2, h1, ring3 f1 hdi h4, h2, fun j hj => ⟨h3 j hj, ((rgF_v f1 h4).1 j hj).1⟩, h4⟩
/-- place j of RING f goes between p and q -/
def plc (F : Nat) (rf : Nat → Nat) (ρf : Nat → Nat → Nat) (f j p q : Nat) : Prop := f < F ∧ j < rf f ∧ p < q ∧ (ρf f j = p ∧ nxr (rf f) (ρf f) j = q ∨ ρf f j = q ∧ nxr (rf f) (ρf f) j = p)
theorem choice2 {Q : Nat → Nat → Nat → Prop} (h : ∀ t, ∃ f j, Q t f j) : ∃ pl : Nat → Nat × Nat, ∀ t, Q t (pl t).1 (pl t).2 := ⟨fun t => ((h t).choose, (h t).choose_spec.choose), fun t => (h t).choose_spec.choose_spec⟩
/-- as many lines between CORNERS as places, at most -/
theorem edges_le1 {F E : Nat} {rf : Nat → Nat} {ρf : Nat → Nat → Nat} (h25 : ∀ k, k < F → rf k ≤ 25) {pe qe : Nat → Nat} (he : ∀ e, e < E → ∃ f j, plc F rf ρf f j (pe e) (qe e)) (hd : ∀ a b, a < b → b < E → ¬ (pe a = pe b ∧ qe a = qe b)) : E ≤ sm rf F := by
  have ch : ∀ e, ∃ f j, e < E → plc F rf ρf f j (pe e) (qe e) := by
    intro e
    by_cases c : e < E
    · obtain ⟨f, j, h⟩ := he e c
      exact ⟨f, j, fun _ => h⟩
    · exact ⟨0, 0, fun q => absurd q c⟩
  obtain ⟨pl, hpl⟩ := choice2 ch
  refine places_le h25 pl (fun t ht => ?_) (fun i j hij hj e => ?_)
  · have := hpl t ht
    exact ⟨this.1, this.2.1⟩
  · obtain ⟨a1, a2, a3, a4⟩ := hpl i (by omega)
    obtain ⟨b1, b2, b3, b4⟩ := hpl j hj
    rw [e] at a4
    refine hd i j hij hj ?_
    generalize ρf (pl j).1 (pl j).2 = x at a4 b4
    generalize nxr (rf (pl j).1) (ρf (pl j).1) (pl j).2 = y at a4 b4
    omega
/-- each line between CORNERS has two places -/
theorem edges_le2 {P : Nat → V3} {n g F E : Nat} {s : mS} {rf : Nat → Nat} {ρf : Nat → Nat → Nat} (hfull : full P n) (hdi : ∀ i j, i < n → j < n → i ≠ j → P i ≠ P j) (ht : tbF P n s g F rf ρf) (hall : ∀ m e, fc P n m e → ∃ j, j < F ∧ fN s (64 * g + j) = m ∧ fD s (64 * g + j) = e) {pe qe : Nat → Nat} (he : ∀ e, e < E → ∃ f j, plc F rf ρf f j (pe e) (qe e)) (hd : ∀ a b, a < b → b < E → ¬ (pe a = pe b ∧ qe a = qe b)) : 2 * E ≤ sm rf F := by
  have both : ∀ e, e < E → (∃ f j, f < F ∧ j < rf f ∧ ρf f j = pe e ∧ nxr (rf f) (ρf f) j = qe e) ∧ (∃ f j, f < F ∧ j < rf f ∧ ρf f j = qe e ∧ nxr (rf f) (ρf f) j = pe e) ∧ pe e < qe e := by
    intro e h
    obtain ⟨f, j, h1, h2, h3, h4⟩ := he e h
    obtain ⟨t1, -, -, -, -, -, t7⟩ := ht f h1
    obtain ⟨n', d', f1, f2⟩ := pair hfull hdi t1 t7 h2
    obtain ⟨k, k1, k2, k3⟩ := hall n' d' f1
    have t' := (ht k k1).2.2.2.2.2.2
    rw [k2, k3] at t'
    obtain ⟨j', j1, j2, j3⟩ := f2 _ _ t'
    rcases h4 with ⟨a, b⟩ | ⟨a, b⟩
    · exact ⟨⟨f, j, h1, h2, a, b⟩, ⟨k, j', k1, j1, by rw [j2, b], by rw [j3, a]⟩, h3⟩
    · exact ⟨⟨k, j', k1, j1, by rw [j2, b], by rw [j3, a]⟩, ⟨f, j, h1, h2, a, b⟩, h3⟩
  have ch : ∀ t, ∃ f j, t < 2 * E → f < F ∧ j < rf f ∧ (t % 2 = 0 → ρf f j = pe (t / 2) ∧ nxr (rf f) (ρf f) j = qe (t / 2)) ∧ (t % 2 = 1 → ρf f j = qe (t / 2) ∧ nxr (rf f) (ρf f) j = pe (t / 2)) := by
    intro t
    by_cases c : t < 2 * E
    · obtain ⟨⟨f, j, a1, a2, a3, a4⟩, ⟨f', j', b1, b2, b3, b4⟩, -⟩ := both (t / 2) (by omega)
      by_cases w : t % 2 = 0
      · exact ⟨f, j, fun _ => ⟨a1, a2, fun _ => ⟨a3, a4⟩, fun h => absurd h (by omega)⟩⟩
      · exact ⟨f', j', fun _ => ⟨b1, b2, fun h => absurd h w, fun _ => ⟨b3, b4⟩⟩⟩
    · exact ⟨0, 0, fun q => absurd q c⟩
  obtain ⟨pl, hpl⟩ := choice2 ch
  refine places_le (fun k hk => (ht k hk).2.2.1) pl (fun t ht' => ?_) (fun i j hij hj e => ?_)
  · have := hpl t ht'
    exact ⟨this.1, this.2.1⟩
  · obtain ⟨-, -, a3, a4⟩ := hpl i (by omega)
    obtain ⟨-, -, b3, b4⟩ := hpl j hj
    rw [e] at a3 a4
    have p1 := (both (i / 2) (by omega)).2.2
    have p2 := (both (j / 2) (by omega)).2.2
    generalize ρf (pl j).1 (pl j).2 = x at a3 a4 b3 b4
    generalize nxr (rf (pl j).1) (ρf (pl j).1) (pl j).2 = y at a3 a4 b3 b4
    by_cases ei : i % 2 = 0
    · by_cases ej : j % 2 = 0
      · have := a3 ei
        have := b3 ej
        exact hd (i / 2) (j / 2) (by omega) (by omega) (by omega)
      · have := a3 ei
        have := b4 (by omega)
        omega
    · by_cases ej : j % 2 = 0
      · have := a4 (by omega)
        have := b3 ej
        omega
      · have := a4 (by omega)
        have := b4 (by omega)
        exact hd (i / 2) (j / 2) (by omega) (by omega) (by omega)
/-- a row of the table of EDGES -/
def eR (s : mS) (k : Nat) : Int32 × Int32 × Int32 × Int32 := (s.2.2.1 35 k, s.2.2.1 36 k, s.2.2.1 37 k, s.2.2.1 38 k)
def sE (s : mS) (k : Nat) (a b c d : Int32) : mS := sA (sA (sA (sA s 35 k a) 36 k b) 37 k c) 38 k d
theorem eR_sE (s : mS) (k : Nat) (a b c d : Int32) (t : Nat) : eR (sE s k a b c d) t = if t = k then (a, b, c, d) else eR s t := by
  unfold eR sE
  simp only [sA_at]
  by_cases w : t = k
  · simp [w]
  · simp [w]
theorem fr_sE (s : mS) (k : Nat) (a b c d : Int32) : fr [35, 36, 37, 38] s (sE s k a b c d) := ((((fr_sA s 35 k a).mo (by decide)).tr ((fr_sA _ 36 k b).mo (by decide))).tr ((fr_sA _ 37 k c).mo (by decide))).tr ((fr_sA _ 38 k d).mo (by decide))
theorem fr_eR {L : List Nat} {s s' : mS} (h : fr L s s') (h1 : ¬ 35 ∈ L) (h2 : ¬ 36 ∈ L) (h3 : ¬ 37 ∈ L) (h4 : ¬ 38 ∈ L) (k : Nat) : eR s' k = eR s k := by
  unfold eR
  rw [h.A h1, h.A h2, h.A h3, h.A h4]
/-- what edgeHere leaves where the line is new: the row e0 -/
def egI (s s' : mS) (g e0 top : Nat) (p q f : Int32) : Prop := fr [34, 35, 36, 37, 38] s s' ∧ (∀ k, k < e0 → eR s' k = eR s k) ∧ eR s' e0 = (p, q, f, f) ∧ (∀ k, e0 < k → k ≤ top → eR s' k = eR s (k - 1)) ∧ (∀ k, top < k → eR s' k = eR s k) ∧ ∀ j, j < 2 → s'.2.2.1 34 j = if j = g then s.2.2.1 34 j + 1 else s.2.2.1 34 j
theorem x_e108 {N g e0 top : Nat} {p q f : Int32} (hg : g < 2) (ht : top < 160) (s : mS) : ∀ (m fu i : Nat) (h : mS), i = e0 + m → m < fu → i ≤ top → fr [35, 36, 37, 38] s h → (∀ k, k ≤ i → eR h k = eR s k) → (∀ k, i < k → k ≤ top → eR h k = eR s (k - 1)) → (∀ k, top < k → eR h k = eR s k) → ∃ s', mxX7_edgeHere_108 N fu (Int32.ofNat g) p q f (Int32.ofNat e0) (Int32.ofNat i) h = some s' ∧ egI s s' g e0 top p q f := by
  intro m
  induction m with
  | zero =>
    intro fu i h hi hf hit sm lo mid hi2
    obtain ⟨f', rfl⟩ : ∃ f', fu = f' + 1 := ⟨fu - 1, by omega⟩
    have hie : i = e0 := by omega
    subst hie
    refine ⟨sA (sE h i p q f f) 34 g ((sE h i p q f f).2.2.1 34 g + 1), ?_, ?_⟩
    · rw [mxX7_edgeHere_108, if_pos (Int32.le_refl _), wA160 rfl (by omega), Option.bind_some, wA160 rfl (by omega), Option.bind_some, wA160 rfl (by omega), Option.bind_some, wA160 rfl (by omega), Option.bind_some, rA2 rfl hg, Option.bind_some, wA2 rfl hg, Option.bind_some]
      rfl
    · have f1 : fr [35, 36, 37, 38] h (sE h i p q f f) := fr_sE _ _ _ _ _ _
      have f2 : fr [34] (sE h i p q f f) (sA (sE h i p q f f) 34 g ((sE h i p q f f).2.2.1 34 g + 1)) := fr_sA _ _ _ _
      have e34 : (sE h i p q f f).2.2.1 34 = s.2.2.1 34 := by rw [f1.A (by decide), sm.A (by decide)]
      have er : ∀ k, eR (sA (sE h i p q f f) 34 g ((sE h i p q f f).2.2.1 34 g + 1)) k = if k = i then (p, q, f, f) else eR h k := by
        intro k
        rw [fr_eR f2 (by decide) (by decide) (by decide) (by decide), eR_sE]
      refine ⟨((sm.mo (by decide)).tr (f1.mo (by decide))).tr (f2.mo (by decide)), fun k hk => ?_, ?_, fun k h1 h2 => ?_, fun k hk => ?_, fun j hj => ?_⟩
      · rw [er, if_neg (by omega), lo k (by omega)]
      · rw [er, if_pos rfl]
      · rw [er, if_neg (by omega), mid k h1 h2]
      · rw [er, if_neg (by omega), hi2 k hk]
      · rw [sA_at, e34]
        by_cases w : j = g
        · rw [if_pos ⟨rfl, w⟩, if_pos w, w]
        · rw [if_neg (fun q => w q.2), if_neg w]
  | succ m ih =>
    intro fu i h hi hf hit sm lo mid hi2
    obtain ⟨f', rfl⟩ : ∃ f', fu = f' + 1 := ⟨fu - 1, by omega⟩
    obtain ⟨i', rfl⟩ : ∃ i', i = i' + 1 := ⟨i - 1, by omega⟩
    have ne : ¬ (Int32.ofNat (i' + 1) ≤ Int32.ofNat e0) := by
      rw [i_le (by omega) (by omega)]
      omega
    rw [mxX7_edgeHere_108, if_neg ne]
    simp only [i_p, i_p']
    rw [rA160 rfl (by omega), Option.bind_some, wA160 rfl (by omega), Option.bind_some, rA160 rfl (by omega), Option.bind_some, wA160 rfl (by omega), Option.bind_some, rA160 rfl (by omega), Option.bind_some, wA160 rfl (by omega), Option.bind_some, rA160 rfl (by omega), Option.bind_some, wA160 rfl (by omega), Option.bind_some]
    have key : sA (sA (sA (sA h 35 (i' + 1) (h.2.2.1 35 i')) 36 (i' + 1) ((sA h 35 (i' + 1) (h.2.2.1 35 i')).2.2.1 36 i')) 37 (i' + 1) ((sA (sA h 35 (i' + 1) (h.2.2.1 35 i')) 36 (i' + 1) ((sA h 35 (i' + 1) (h.2.2.1 35 i')).2.2.1 36 i')).2.2.1 37 i')) 38 (i' + 1) ((sA (sA (sA h 35 (i' + 1) (h.2.2.1 35 i')) 36 (i' + 1) ((sA h 35 (i' + 1) (h.2.2.1 35 i')).2.2.1 36 i')) 37 (i' + 1) ((sA (sA h 35 (i' + 1) (h.2.2.1 35 i')) 36 (i' + 1) ((sA h 35 (i' + 1) (h.2.2.1 35 i')).2.2.1 36 i')).2.2.1 37 i')).2.2.1 38 i') = sE h (i' + 1) (eR h i').1 (eR h i').2.1 (eR h i').2.2.1 (eR h i').2.2.2 := by
      unfold sE eR
      simp only [sA_at]
      simp
    rw [key]
    refine ih f' i' _ (by omega) (by omega) (by omega) (sm.tr (fr_sE _ _ _ _ _ _)) (fun k hk => ?_) (fun k h1 h2 => ?_) (fun k hk => ?_)
    · rw [eR_sE, if_neg (by omega), lo k (by omega)]
    · rw [eR_sE]
      by_cases w : k = i' + 1
      · rw [if_pos w, w, Nat.add_sub_cancel, lo i' (by omega)]
      · rw [if_neg w, mid k (by omega) h2]
    · rw [eR_sE, if_neg (by omega), hi2 k hk]
/-- the table of EDGES: those of D in order, each with the first and the last FACE -/
def edT (s : mS) (g E : Nat) (D : Nat → Nat → Nat → Prop) : Prop := s.2.2.1 34 g = Int32.ofNat E ∧ E ≤ 80 ∧ ∃ pe qe fe ge : Nat → Nat, (∀ e, e < E → eR s (80 * g + e) = (Int32.ofNat (pe e), Int32.ofNat (qe e), Int32.ofNat (fe e), Int32.ofNat (ge e)) ∧ pe e < 25 ∧ qe e < 25 ∧ D (fe e) (pe e) (qe e) ∧ D (ge e) (pe e) (qe e) ∧ ∀ f, D f (pe e) (qe e) → fe e ≤ f ∧ f ≤ ge e) ∧ (∀ a b, a < b → b < E → pe a < pe b ∨ pe a = pe b ∧ qe a < qe b) ∧ ∀ f p q, D f p q → ∃ e, e < E ∧ pe e = p ∧ qe e = q
