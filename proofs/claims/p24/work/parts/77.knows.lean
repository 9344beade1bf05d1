theorem x_e19 {N g E p q : Nat} {f : Int32} {s : mS} {pe qe : Nat → Nat} (hg : g < 2) (hE : E ≤ 80) (hp : p < 25) (hq : q < 25) (hr : ∀ e, e < E → s.2.2.1 35 (80 * g + e) = Int32.ofNat (pe e) ∧ s.2.2.1 36 (80 * g + e) = Int32.ofNat (qe e) ∧ pe e < 25 ∧ qe e < 25) : ∀ (m fu k : Nat), k + m = E → m < fu → (∀ j, j < k → pe j < p ∨ pe j = p ∧ qe j < q) → ∃ e, e ≤ E ∧ (∀ j, j < e → pe j < p ∨ pe j = p ∧ qe j < q) ∧ (e < E → ¬ (pe e < p ∨ pe e = p ∧ qe e < q)) ∧ mxX7_edgeHere_19 N fu (Int32.ofNat g) (Int32.ofNat p) (Int32.ofNat q) f (Int32.ofNat (80 * g + k)) (Int32.ofNat (80 * g + E)) s = mxX7_edgeHere_65 N (Int32.ofNat g) (Int32.ofNat p) (Int32.ofNat q) f (Int32.ofNat (80 * g + e)) (Int32.ofNat (80 * g + E)) s := by
  intro m
  induction m with
  | zero =>
    intro fu k hk hf lo
    obtain ⟨f', rfl⟩ : ∃ f', fu = f' + 1 := ⟨fu - 1, by omega⟩
    have hkE : k = E := by omega
    subst hkE
    refine ⟨k, Nat.le_refl k, lo, fun h => absurd h (by omega), ?_⟩
    rw [mxX7_edgeHere_19, if_pos (Int32.le_refl _)]
  | succ m ih =>
    intro fu k hk hf lo
    obtain ⟨f', rfl⟩ : ∃ f', fu = f' + 1 := ⟨fu - 1, by omega⟩
    have ne : ¬ (Int32.ofNat (80 * g + E) ≤ Int32.ofNat (80 * g + k)) := by
      rw [i_le (by omega) (by omega)]
      omega
    obtain ⟨r1, r2, r3, r4⟩ := hr k (by omega)
    rw [mxX7_edgeHere_19, if_neg ne, rA160 rfl (by omega), Option.bind_some, r1]
    have l1 : (Int32.ofNat (pe k) < Int32.ofNat p) = (pe k < p) := i_lt (by omega) (by omega)
    have l2 : (Int32.ofNat (pe k) = Int32.ofNat p) = (pe k = p) := propext ⟨fun e => i_inj (by omega) (by omega) e, fun e => by rw [e]⟩
    have l3 : (Int32.ofNat q ≤ Int32.ofNat (qe k)) = (q ≤ qe k) := i_le (by omega) (by omega)
    have nxt : (pe k < p ∨ pe k = p ∧ qe k < q) → ∃ e, e ≤ E ∧ (∀ j, j < e → pe j < p ∨ pe j = p ∧ qe j < q) ∧ (e < E → ¬ (pe e < p ∨ pe e = p ∧ qe e < q)) ∧ mxX7_edgeHere_59 N (mxX7_edgeHere_19 N f') (Int32.ofNat g) (Int32.ofNat p) (Int32.ofNat q) f (Int32.ofNat (80 * g + k)) (Int32.ofNat (80 * g + E)) s = mxX7_edgeHere_65 N (Int32.ofNat g) (Int32.ofNat p) (Int32.ofNat q) f (Int32.ofNat (80 * g + e)) (Int32.ofNat (80 * g + E)) s := by
      intro w
      unfold mxX7_edgeHere_59
      rw [i_s]
      exact ih f' (k + 1) (by omega) (by omega) (fun j hj => by
        by_cases e : j = k
        · rw [e]
          exact w
        · exact lo j (by omega))
    by_cases c1 : pe k < p
    · rw [if_pos (by rw [l1]; exact c1)]
      exact nxt (.inl c1)
    · rw [if_neg (by rw [l1]; exact c1), Option.bind_some]
      by_cases c2 : pe k = p
      · rw [if_pos (by rw [l2]; exact c2), rA160 rfl (by omega), Option.bind_some, r2]
        by_cases c3 : q ≤ qe k
        · rw [if_pos (by rw [l3]; exact c3)]
          exact ⟨k, by omega, lo, fun _ => by omega, rfl⟩
        · rw [if_neg (by rw [l3]; exact c3)]
          exact nxt (.inr ⟨c2, by omega⟩)
      · rw [if_neg (by rw [l2]; exact c2)]
        exact ⟨k, by omega, lo, fun _ => by omega, rfl⟩
/-- edgeHere: the line between p and q, of FACE f -/
theorem x_edgeHere {N g E p q f : Nat} {s : mS} {D : Nat → Nat → Nat → Prop} (hN : 600 < N) (hg : g < 2) (hp : p < 25) (hq : q < 25) (h : edT s g E D) (hmax : (∀ e, ¬ D e p q) → E < 80) (hf : ∀ f' a b, D f' a b → f' ≤ f) : ∃ s' E', mxX7_edgeHere N (Int32.ofNat g) (Int32.ofNat p) (Int32.ofNat q) (Int32.ofNat f) s = some s' ∧ fr [34, 35, 36, 37, 38] s s' ∧ (∀ k, k < 80 * g ∨ 80 * g + 80 ≤ k → eR s' k = eR s k) ∧ (∀ j, j < 2 → ¬ j = g → s'.2.2.1 34 j = s.2.2.1 34 j) ∧ edT s' g E' (fun f' a b => D f' a b ∨ f' = f ∧ a = p ∧ b = q) := by
  obtain ⟨h34, hE, pe, qe, fe, ge, hrow, hord, hall⟩ := h
  have hr : ∀ e, e < E → s.2.2.1 35 (80 * g + e) = Int32.ofNat (pe e) ∧ s.2.2.1 36 (80 * g + e) = Int32.ofNat (qe e) ∧ pe e < 25 ∧ qe e < 25 := by
    intro e he
    obtain ⟨r1, r2, r3, -⟩ := hrow e he
    exact ⟨congrArg (fun t : Int32 × Int32 × Int32 × Int32 => t.1) r1, congrArg (fun t : Int32 × Int32 × Int32 × Int32 => t.2.1) r1, r2, r3⟩
  obtain ⟨e, e1, e2, e3, e4⟩ := x_e19 (N := N) (f := Int32.ofNat f) hg hE hp hq hr E N 0 (by omega) (by omega) (fun j hj => absurd hj (by omega))
  have e4' : mxX7_edgeHere N (Int32.ofNat g) (Int32.ofNat p) (Int32.ofNat q) (Int32.ofNat f) s = mxX7_edgeHere_65 N (Int32.ofNat g) (Int32.ofNat p) (Int32.ofNat q) (Int32.ofNat f) (Int32.ofNat (80 * g + e)) (Int32.ofNat (80 * g + E)) s := by
    unfold mxX7_edgeHere
    rw [rA2 rfl hg, Option.bind_some, h34, i_80, i_c80, ← e4]
    rfl
  rw [e4']
  have ins : (e < E → ¬ (pe e = p ∧ qe e = q)) → ∃ s' E', mxX7_edgeHere_104 N (Int32.ofNat g) (Int32.ofNat p) (Int32.ofNat q) (Int32.ofNat f) (Int32.ofNat (80 * g + e)) (Int32.ofNat (80 * g + E)) s = some s' ∧ fr [34, 35, 36, 37, 38] s s' ∧ (∀ k, k < 80 * g ∨ 80 * g + 80 ≤ k → eR s' k = eR s k) ∧ (∀ j, j < 2 → ¬ j = g → s'.2.2.1 34 j = s.2.2.1 34 j) ∧ edT s' g E' (fun f' a b => D f' a b ∨ f' = f ∧ a = p ∧ b = q) := by
    intro hne
    have above : ∀ j, e ≤ j → j < E → p < pe j ∨ p = pe j ∧ q < qe j := by
      intro j h1 h2
      have a := e3 (by omega)
      have b := hne (by omega)
      by_cases w : j = e
      · rw [w]
        omega
      · have := hord e j (by omega) h2
        omega
    have nD : ∀ f', ¬ D f' p q := by
      intro f' hD
      obtain ⟨k, k1, k2, k3⟩ := hall f' p q hD
      by_cases w : k < e
      · have := e2 k w
        omega
      · have := above k (by omega) k1
        omega
    have hE2 := hmax nD
    obtain ⟨s', q1, q2, q3, q4, q5, q6, q7⟩ := x_e108 (N := N) (g := g) (e0 := 80 * g + e) (top := 80 * g + E) (p := Int32.ofNat p) (q := Int32.ofNat q) (f := Int32.ofNat f) hg (by omega) s (E - e) N (80 * g + E) s (by omega) (by omega) (Nat.le_refl _) fr.rf (fun k _ => rfl) (fun k h1 h2 => absurd h1 (by omega)) (fun k _ => rfl)
    refine ⟨s', E + 1, by unfold mxX7_edgeHere_104; exact q1, q2, fun k hk => ?_, fun j hj hjg => ?_, ?_, by omega, fun k => if k < e then pe k else if k = e then p else pe (k - 1), fun k => if k < e then qe k else if k = e then q else qe (k - 1), fun k => if k < e then fe k else if k = e then f else fe (k - 1), fun k => if k < e then ge k else if k = e then f else ge (k - 1), fun k hk => ?_, fun a b hab hb => ?_, fun f' a b hD => ?_⟩
    · rcases hk with hk | hk
      · exact q3 k (by omega)
      · exact q6 k (by omega)
    · rw [q7 j hj, if_neg hjg]
    · rw [q7 g hg, if_pos rfl, h34, i_s]
    · have old : ∀ k', k' < E → ∀ f', D f' (pe k') (qe k') ∨ f' = f ∧ pe k' = p ∧ qe k' = q → fe k' ≤ f' ∧ f' ≤ ge k' := by
        intro k' hk' f' w
        rcases w with w | ⟨-, w1, w2⟩
        · exact (hrow k' hk').2.2.2.2.2 f' w
        · exfalso
          have := (hrow k' hk').2.2.2.1
          rw [w1, w2] at this
          exact nD _ this
      by_cases w1 : k < e
      · simp only [if_pos w1]
        rw [q3 (80 * g + k) (by omega)]
        obtain ⟨r1, r2, r3, r4, r5, r6⟩ := hrow k (by omega)
        exact ⟨r1, r2, r3, .inl r4, .inl r5, old k (by omega)⟩
      · by_cases w2 : k = e
        · subst w2
          simp only [if_neg w1, if_pos rfl, if_true]
          refine ⟨q4, hp, hq, .inr (by simp), .inr (by simp), fun f' w => ?_⟩
          rcases w with w | ⟨w, -, -⟩
          · exact absurd w (nD f')
          · omega
        · simp only [if_neg w1, if_neg w2]
          have := q5 (80 * g + k) (by omega) (by omega)
          rw [show 80 * g + k - 1 = 80 * g + (k - 1) by omega] at this
          rw [this]
          obtain ⟨r1, r2, r3, r4, r5, r6⟩ := hrow (k - 1) (by omega)
          exact ⟨r1, r2, r3, .inl r4, .inl r5, old (k - 1) (by omega)⟩
    · by_cases w1 : b < e
      · simp only [if_pos w1, if_pos (show a < e by omega)]
        exact hord a b hab (by omega)
      · by_cases w2 : b = e
        · subst w2
          simp only [if_neg w1, if_pos rfl, if_true, if_pos hab]
          exact e2 a hab
        · simp only [if_neg w1, if_neg w2]
          by_cases w3 : a < e
          · simp only [if_pos w3]
            by_cases w4 : b - 1 = e
            · have g1 := e2 a w3
              have g2 := above (b - 1) (by omega) (by omega)
              omega
            · exact hord a (b - 1) (by omega) (by omega)
          · by_cases w4 : a = e
            · subst w4
              simp only [if_neg w3, if_pos rfl, if_true]
              exact above (b - 1) (by omega) (by omega)
            · simp only [if_neg w3, if_neg w4]
              exact hord (a - 1) (b - 1) (by omega) (by omega)
    · rcases hD with hD | ⟨-, w2, w3⟩
      · obtain ⟨k, k1, k2, k3⟩ := hall f' a b hD
        by_cases w : k < e
        · exact ⟨k, by omega, by simp only [if_pos w]; exact k2, by simp only [if_pos w]; exact k3⟩
        · have c1 : ¬ (k + 1 < e) := by omega
          have c2 : ¬ (k + 1 = e) := by omega
          exact ⟨k + 1, by omega, by simp only [if_neg c1, if_neg c2, Nat.add_sub_cancel]; exact k2, by simp only [if_neg c1, if_neg c2, Nat.add_sub_cancel]; exact k3⟩
      · have c1 : ¬ (e < e) := by omega
        exact ⟨e, by omega, by simp only [if_neg c1, if_pos rfl, if_true]; exact w2.symm, by simp only [if_neg c1, if_pos rfl, if_true]; exact w3.symm⟩
  unfold mxX7_edgeHere_65
  by_cases c0 : e = E
  · subst c0
    rw [if_pos (Int32.le_refl _)]
    exact ins (fun h => absurd h (by omega))
  · have ne : ¬ (Int32.ofNat (80 * g + E) ≤ Int32.ofNat (80 * g + e)) := by
      rw [i_le (by omega) (by omega)]
      omega
    obtain ⟨r1, r2, r3, r4⟩ := hr e (by omega)
    have l2 : (Int32.ofNat (pe e) = Int32.ofNat p) = (pe e = p) := propext ⟨fun e => i_inj (by omega) (by omega) e, fun e => by rw [e]⟩
    have l3 : (Int32.ofNat (qe e) = Int32.ofNat q) = (qe e = q) := propext ⟨fun e => i_inj (by omega) (by omega) e, fun e => by rw [e]⟩
    rw [if_neg ne, rA160 rfl (by omega), Option.bind_some, r1]
    by_cases c1 : pe e = p
    · rw [if_pos (by rw [l2]; exact c1), rA160 rfl (by omega), Option.bind_some, r2]
      by_cases c2 : qe e = q
      · rw [if_pos (by rw [l3]; exact c2), wA160 rfl (by omega), Option.bind_some]
        have f2 : fr [38] s (sA s 38 (80 * g + e) (Int32.ofNat f)) := fr_sA _ _ _ _
        have er : ∀ k, k ≠ 80 * g + e → eR (sA s 38 (80 * g + e) (Int32.ofNat f)) k = eR s k := by
          intro k hk
          unfold eR
          rw [f2.A (by decide), f2.A (by decide), f2.A (by decide), sA_at, if_neg (by omega)]
        refine ⟨_, E, rfl, f2.mo (by decide), fun k hk => er k (by omega), fun j _ _ => by rw [f2.A (by decide)], by rw [f2.A (by decide)]; exact h34, hE, pe, qe, fe, fun k => if k = e then f else ge k, fun k hk => ?_, hord, fun f' a b hD => ?_⟩
        · obtain ⟨t1, t2, t3, t4, t5, t6⟩ := hrow k hk
          by_cases w : k = e
          · subst w
            simp only [if_true]
            refine ⟨?_, t2, t3, .inl t4, .inr (by simp [c1, c2]), fun f' w => ?_⟩
            · have t37 : s.2.2.1 37 (80 * g + k) = Int32.ofNat (fe k) := congrArg (fun t : Int32 × Int32 × Int32 × Int32 => t.2.2.1) t1
              unfold eR
              rw [f2.A (by decide), f2.A (by decide), f2.A (by decide), sA_at, if_pos ⟨rfl, rfl⟩, r1, r2, t37]
            · rcases w with w | ⟨w, -, -⟩
              · exact ⟨(t6 f' w).1, hf _ _ _ w⟩
              · rw [w]
                exact ⟨hf _ _ _ t4, Nat.le_refl f⟩
          · simp only [if_neg w]
            rw [er _ (by omega)]
            refine ⟨t1, t2, t3, .inl t4, .inl t5, fun f' w' => ?_⟩
            rcases w' with w' | ⟨-, w1, w2⟩
            · exact t6 f' w'
            · exfalso
              by_cases w3 : k < e
              · have := hord k e w3 (by omega)
                omega
              · have := hord e k (by omega) hk
                omega
        · rcases hD with hD | ⟨-, w2, w3⟩
          · exact hall f' a b hD
          · exact ⟨e, by omega, by rw [c1, w2], by rw [c2, w3]⟩
      · rw [if_neg (by rw [l3]; exact c2)]
        exact ins (fun _ w => c2 w.2)
    · rw [if_neg (by rw [l2]; exact c1)]
      exact ins (fun _ w => c1 w.1)
theorem i_mod : ∀ r, r < 26 → ∀ j, j < r → Int32.ofNat j + 1 - (Int32.ofNat j + 1) / Int32.ofNat r * Int32.ofNat r = Int32.ofNat (if j + 1 < r then j + 1 else 0) := by decide +kernel
/-- the places that are done -/
def pDn (F : Nat) (rf : Nat → Nat) (ρf : Nat → Nat → Nat) (f0 i0 : Nat) : Nat → Nat → Nat → Prop := fun f p q => ∃ j, plc F rf ρf f j p q ∧ (f < f0 ∨ f = f0 ∧ j < i0)
theorem edT_D {s : mS} {g E : Nat} {D D' : Nat → Nat → Nat → Prop} (h : edT s g E D) (e : ∀ f p q, D f p q ↔ D' f p q) : edT s g E D' := by
  have : D = D' := by
    funext f p q
    exact propext (e f p q)
  rw [← this]
  exact h
/-- the bound of the EDGES' number -/
def eMax (F : Nat) (rf : Nat → Nat) (ρf : Nat → Nat → Nat) : Prop := ∀ (E : Nat) (pe qe : Nat → Nat), (∀ e, e < E → ∃ f j, plc F rf ρf f j (pe e) (qe e)) → (∀ a b, a < b → b < E → ¬ (pe a = pe b ∧ qe a = qe b)) → E ≤ 80
theorem edT_max {s : mS} {g E F f0 i0 p q f j : Nat} {rf : Nat → Nat} {ρf : Nat → Nat → Nat} (hM : eMax F rf ρf) (h : edT s g E (pDn F rf ρf f0 i0)) (hp : plc F rf ρf f j p q) (hn : ∀ e, ¬ pDn F rf ρf f0 i0 e p q) : E < 80 := by
  obtain ⟨-, -, pe, qe, fe, ge, hrow, hord, -⟩ := h
  have := hM (E + 1) (fun k => if k < E then pe k else p) (fun k => if k < E then qe k else q) (fun e he => by
    by_cases c : e < E
    · simp only [if_pos c]
      obtain ⟨j, h1, -⟩ := (hrow e c).2.2.2.1
      exact ⟨_, j, h1⟩
    · simp only [if_neg c]
      exact ⟨f, j, hp⟩) (fun a b hab hb w => by
    by_cases c : b < E
    · simp only [if_pos c, if_pos (show a < E by omega)] at w
      have := hord a b hab c
      omega
    · simp only [if_neg c, if_pos (show a < E by omega)] at w
      have := (hrow a (by omega)).2.2.2.1
      rw [w.1, w.2] at this
      exact hn _ this)
  omega
/-- what stands while knows goes round the RINGS -/
def knI (s0 : mS) (g F : Nat) (rf : Nat → Nat) (ρf : Nat → Nat → Nat) (f0 i0 : Nat) (s : mS) : Prop := fr [34, 35, 36, 37, 38] s0 s ∧ (∀ k, k < 80 * g ∨ 80 * g + 80 ≤ k → eR s k = eR s0 k) ∧ (∀ j, j < 2 → ¬ j = g → s.2.2.1 34 j = s0.2.2.1 34 j) ∧ ∃ E, edT s g E (pDn F rf ρf f0 i0)
theorem x_kn98 {N g n F f0 : Nat} {rf : Nat → Nat} {ρf : Nat → Nat → Nat} {P : Nat → V3} {rec77 : Int32 → Int32 → mS → Option mS} {s0 : mS} (hN : 600 < N) (hg : g < 2) (hn : n ≤ 25) (hF : F ≤ 64) (ht : tbF P n s0 g F rf ρf) (hM : eMax F rf ρf) (hf0 : f0 < F) : ∀ (m fu i : Nat) (s : mS), i + m = rf f0 → m < fu → knI s0 g F rf ρf f0 i s → ∃ s', knI s0 g F rf ρf (f0 + 1) 0 s' ∧ mxX7_knows_98 N rec77 fu (Int32.ofNat g) (Int32.ofNat f0) (Int32.ofNat (64 * g + f0)) (Int32.ofNat i) s = rec77 (Int32.ofNat g) (Int32.ofNat (f0 + 1)) s' := by
  obtain ⟨t1, t2, t3, t4, t5, t6, t7⟩ := ht f0 hf0
  have rv := rgF_v t1 t7
  intro m
  induction m with
  | zero =>
    intro fu i s hi hf hI
    obtain ⟨f', rfl⟩ : ∃ f', fu = f' + 1 := ⟨fu - 1, by omega⟩
    obtain ⟨I1, I2, I3, E, I4⟩ := hI
    refine ⟨s, ⟨I1, I2, I3, E, edT_D I4 (fun f p q => ?_)⟩, ?_⟩
    · constructor
      · rintro ⟨j, h1, h2⟩
        exact ⟨j, h1, by omega⟩
      · rintro ⟨j, h1, h2⟩
        refine ⟨j, h1, ?_⟩
        by_cases w : f = f0
        · have := h1.2.1
          rw [w] at this
          omega
        · omega
    · rw [mxX7_knows_98, rA128 rfl (by omega), Option.bind_some, I1.A (by decide), t5, if_pos (by rw [i_le (by omega) (by omega)]; omega), i_s]
  | succ m ih =>
    intro fu i s hi hf hI
    obtain ⟨f', rfl⟩ : ∃ f', fu = f' + 1 := ⟨fu - 1, by omega⟩
    obtain ⟨I1, I2, I3, E, I4⟩ := hI
    have ne : ¬ (Int32.ofNat (rf f0) ≤ Int32.ofNat i) := by
      rw [i_le (by omega) (by omega)]
      omega
    have nz : ¬ (Int32.ofNat (rf f0) = 0) := fun e => by
      have := i_inj (a := rf f0) (b := 0) (by omega) (by omega) e
      omega
    obtain ⟨a1, a2⟩ := t6 i (by omega)
    have bN : (if i + 1 < rf f0 then i + 1 else 0) < rf f0 := by
      by_cases c : i + 1 < rf f0
      · rw [if_pos c]
        exact c
      · rw [if_neg c]
        omega
    obtain ⟨b1, b2⟩ := t6 _ bN
    have bx : ρf f0 (if i + 1 < rf f0 then i + 1 else 0) = nxr (rf f0) (ρf f0) i := by
      unfold nxr
      by_cases c : i + 1 < rf f0
      · rw [if_pos c, if_pos c]
      · rw [if_neg c, if_neg c]
    rw [bx] at b1 b2
    have ab : ρf f0 i ≠ nxr (rf f0) (ρf f0) i := by
      unfold nxr
      by_cases c : i + 1 < rf f0
      · rw [if_pos c]
        exact rv.2 i (i + 1) (by omega) c
      · rw [if_neg c]
        exact fun e => rv.2 0 i (by omega) (by omega) e.symm
    have go : ∀ p q, plc F rf ρf f0 i p q → p < 25 → q < 25 → ∃ s', knI s0 g F rf ρf (f0 + 1) 0 s' ∧ ((mxX7_edgeHere N (Int32.ofNat g) (Int32.ofNat p) (Int32.ofNat q) (Int32.ofNat f0) s).bind fun o35 => mxX7_knows_98 N rec77 f' (Int32.ofNat g) (Int32.ofNat f0) (Int32.ofNat (64 * g + f0)) (Int32.ofNat i + 1) o35) = rec77 (Int32.ofNat g) (Int32.ofNat (f0 + 1)) s' := by
      intro p q hpl hp hq
      obtain ⟨s1, E1, e1, fr1, er1, j1, ed1⟩ := x_edgeHere (N := N) (f := f0) hN hg hp hq I4 (fun hn => edT_max hM I4 hpl hn) (fun f a b hD => by
        obtain ⟨j, -, w⟩ := hD
        omega)
      rw [e1, Option.bind_some, i_s]
      refine ih f' (i + 1) s1 (by omega) (by omega) ⟨I1.tr fr1, fun k hk => by rw [er1 k hk, I2 k hk], fun j hj hjg => by rw [j1 j hj hjg, I3 j hj hjg], E1, edT_D ed1 (fun f a b => ?_)⟩
      constructor
      · rintro (⟨j, h1, h2⟩ | ⟨h1, h2, h3⟩)
        · exact ⟨j, h1, by omega⟩
        · rw [h1, h2, h3]
          exact ⟨i, hpl, by omega⟩
      · rintro ⟨j, h1, h2⟩
        by_cases w : f = f0 ∧ j = i
        · right
          obtain ⟨-, -, x3, x4⟩ := h1
          obtain ⟨-, -, y3, y4⟩ := hpl
          rw [w.1, w.2] at x4
          exact ⟨w.1, by omega, by omega⟩
        · exact .inl ⟨j, h1, by omega⟩
    rw [mxX7_knows_98, rA128 rfl (by omega), Option.bind_some, I1.A (by decide), t5, if_neg ne, i_25, rA3200 rfl (by omega), Option.bind_some, I1.A (by decide), Option.bind_some, if_neg nz, i_mod (rf f0) (by omega) i (by omega), i_25, rA3200 rfl (by omega), Option.bind_some, I1.A (by decide)]
    have a1' : s0.2.2.1 33 (25 * (64 * g + f0) + i) = Int32.ofNat (ρf f0 i) := a1
    have b1' : s0.2.2.1 33 (25 * (64 * g + f0) + if i + 1 < rf f0 then i + 1 else 0) = Int32.ofNat (nxr (rf f0) (ρf f0) i) := b1
    rw [a1', b1']
    unfold mxX7_knows_166 mxX7_knows_180
    have le : (Int32.ofNat (nxr (rf f0) (ρf f0) i) ≤ Int32.ofNat (ρf f0 i)) = (nxr (rf f0) (ρf f0) i ≤ ρf f0 i) := i_le (by omega) (by omega)
    by_cases c : nxr (rf f0) (ρf f0) i ≤ ρf f0 i
    · rw [if_pos (by rw [le]; exact c), if_pos (by rw [le]; exact c)]
      exact go _ _ ⟨hf0, by omega, by omega, .inr ⟨rfl, rfl⟩⟩ (by omega) (by omega)
    · rw [if_neg (by rw [le]; exact c), if_neg (by rw [le]; exact c)]
      exact go _ _ ⟨hf0, by omega, by omega, .inl ⟨rfl, rfl⟩⟩ (by omega) (by omega)
theorem x_kn77 {N g n F : Nat} {rf : Nat → Nat} {ρf : Nat → Nat → Nat} {P : Nat → V3} {s0 : mS} (hN : 600 < N) (hg : g < 2) (hn : n ≤ 25) (hF : F ≤ 64) (h27 : s0.2.2.1 27 g = Int32.ofNat F) (ht : tbF P n s0 g F rf ρf) (hM : eMax F rf ρf) : ∀ (m fu f0 : Nat) (s : mS), f0 + m = F → m < fu → knI s0 g F rf ρf f0 0 s → ∃ s', knI s0 g F rf ρf F 0 s' ∧ mxX7_knows_77 N fu (Int32.ofNat g) (Int32.ofNat f0) s = some s' := by
  intro m
  induction m with
  | zero =>
    intro fu f0 s hf0 hf hI
    obtain ⟨f', rfl⟩ : ∃ f', fu = f' + 1 := ⟨fu - 1, by omega⟩
    have hfF : f0 = F := by omega
    subst hfF
    refine ⟨s, hI, ?_⟩
    rw [mxX7_knows_77, rA2 rfl hg, Option.bind_some, hI.1.A (by decide), h27, if_pos (Int32.le_refl _)]
  | succ m ih =>
    intro fu f0 s hf0 hf hI
    obtain ⟨f', rfl⟩ : ∃ f', fu = f' + 1 := ⟨fu - 1, by omega⟩
    have ne : ¬ (Int32.ofNat F ≤ Int32.ofNat f0) := by
      rw [i_le (by omega) (by omega)]
      omega
    obtain ⟨s1, I1, e1⟩ := x_kn98 (N := N) (rec77 := mxX7_knows_77 N f') hN hg hn hF ht hM (by omega : f0 < F) (rf f0) N 0 s (by omega) (by have := (ht f0 (by omega)).2.2.1; omega) hI
    rw [mxX7_knows_77, rA2 rfl hg, Option.bind_some, hI.1.A (by decide), h27, if_neg ne, i_64]
    have e1' : mxX7_knows_98 N (mxX7_knows_77 N f') N (Int32.ofNat g) (Int32.ofNat f0) (Int32.ofNat (64 * g + f0)) 0 s = mxX7_knows_77 N f' (Int32.ofNat g) (Int32.ofNat (f0 + 1)) s1 := e1
    rw [e1']
    exact ih f' (f0 + 1) s1 (by omega) (by omega) I1
