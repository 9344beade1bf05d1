/-- addEdge -/
theorem c_addEdge {N b E : Nat} {u w f g : Int32} {s : cS} (hb : isB b) (hE : E ≤ 66) (h6 : qI s b 6 = Int32.ofNat E) : ∃ s', fxX0_addEdge N b u w f g (hC s) = some (hC s') ∧ ((E = 66 ∧ s' = s) ∨ (E < 66 ∧ cf (fun i => i = b ∨ i = b + 8) s s' ∧ (∀ k, k ≠ 6 → qI s' b k = qI s b k) ∧ qI s' b 6 = Int32.ofNat (E + 1) ∧ qA s' (b + 8) = upd (upd (upd (upd (qA s (b + 8)) (4 * E) u) (4 * E + 1) w) (4 * E + 2) f) (4 * E + 3) g)) := by
  obtain ⟨h0, -, -, -, -, h8, -⟩ := isB_sh hb
  unfold fxX0_addEdge
  rw [gI_0_6 h0, Option.bind_some, h6]
  by_cases c : E = 66
  · have le : (66 : Int32) ≤ Int32.ofNat E := by
      have := i_le (a := 66) (b := E) (by omega) (by omega)
      show Int32.ofNat 66 ≤ Int32.ofNat E
      rw [this]
      omega
    rw [if_pos le]
    exact ⟨s, rfl, .inl ⟨c, rfl⟩⟩
  · have le : ¬ ((66 : Int32) ≤ Int32.ofNat E) := by
      have := i_le (a := 66) (b := E) (by omega) (by omega)
      show ¬ (Int32.ofNat 66 ≤ Int32.ofNat E)
      rw [this]
      omega
    obtain ⟨c1, c2, c3⟩ := i_c4s E
    rw [if_neg le, gR_0_7 h0, Option.bind_some, Option.bind_some, i_c4, wI_N h8 (show 4 * E < 264 by omega) (by decide), Option.bind_some, gR_0_7 h0, Option.bind_some, gI_0_6 h0, Option.bind_some, qI_uA, h6, c1, wI_N h8 (show 4 * E + 1 < 264 by omega) (by decide), Option.bind_some, uA_uA, qA_eq, gR_0_7 h0, Option.bind_some, gI_0_6 h0, Option.bind_some, qI_uA, h6, c2, wI_N h8 (show 4 * E + 2 < 264 by omega) (by decide), Option.bind_some, uA_uA, qA_eq, gR_0_7 h0, Option.bind_some, gI_0_6 h0, Option.bind_some, qI_uA, h6, c3, wI_N h8 (show 4 * E + 3 < 264 by omega) (by decide), Option.bind_some, uA_uA, qA_eq, gI_0_6 h0, Option.bind_some, qI_uA, h6, i_s, sI_0_6 h0, Option.bind_some]
    refine ⟨_, rfl, .inr ⟨by omega, (cf_uA _ (.inr rfl)).tr (cf_uI _ (.inl rfl)), fun k hk => ?_, ?_, ?_⟩⟩
    · rw [qI_uI, if_neg (fun w => hk w.2), qI_uA]
    · rw [qI_uI, if_pos ⟨rfl, rfl⟩]
    · rw [qA_uI, qA_eq]
/-- Arrays.fill of the table -/
theorem c_fillA {N : Nat} {v : Int32} {s : cS} (hN : 600 < N) : ∃ g, fxJ7_fill_53178 N 40 v (hC s) = some (hC (uA s 40 g)) ∧ ∀ i, i < 576 → g i = v := by
  have key : ∀ (r i f : Nat) (g : Nat → Int32), i + r = 576 → r < f → (∀ j, j < i → g j = v) → ∃ g', fxJ7_fill_53178_5 N f 40 v (Int32.ofNat i) (Int32.ofNat 576) (hC (uA s 40 g)) = some (hC (uA s 40 g')) ∧ ∀ i, i < 576 → g' i = v := by
    intro r
    induction r with
    | zero =>
      intro i f g hi hf h
      obtain ⟨f', rfl⟩ : ∃ f', f = f' + 1 := ⟨f - 1, by omega⟩
      have e : i = 576 := by omega
      subst e
      rw [fxJ7_fill_53178_5, if_pos (Int32.le_refl _)]
      exact ⟨g, rfl, h⟩
    | succ r ih =>
      intro i f g hi hf h
      obtain ⟨f', rfl⟩ : ∃ f', f = f' + 1 := ⟨f - 1, by omega⟩
      have ne : ¬ (Int32.ofNat 576 ≤ Int32.ofNat i) := by
        rw [i_le (by omega) (by omega)]
        omega
      rw [fxJ7_fill_53178_5, if_neg ne, wI_N t40 (show i < 576 by omega) (by decide), Option.bind_some, uA_uA, qA_eq, i_s]
      refine ih (i + 1) f' _ (by omega) (by omega) (fun j hj => ?_)
      by_cases c : j = i
      · rw [c, u_eq]
      · rw [u_ne c]
        exact h j (by omega)
  obtain ⟨g, q, h⟩ := key 576 0 N (qA s 40) (by omega) (by omega) (fun j hj => absurd hj (by omega))
  rw [uA_self] at q
  refine ⟨g, ?_, h⟩
  unfold fxJ7_fill_53178
  rw [aL_10 t40, Option.bind_some]
  exact q
/-- the table: faces' numbers or -1 -/
def FA (F : Nat) (g : Nat → Int32) : Prop := ∀ i, i < 576 → g i = -1 ∨ ∃ f, f < F ∧ g i = Int32.ofNat f
/-- the rings as they stand in the state -/
def RS (s : cS) (b n F : Nat) (R : Nat → Nat) : Prop := (∀ f, f < F → R f ≤ R (f + 1)) ∧ (∀ f, f ≤ F → R f ≤ 132 ∧ qA s (b + 6) f = Int32.ofNat (R f)) ∧ ∀ i, i < R F → ∃ k, k < n ∧ qA s (b + 7) i = Int32.ofNat k
theorem RS_le {s : cS} {b n F : Nat} {R : Nat → Nat} (h : RS s b n F R) {f : Nat} (hf : f ≤ F) : R f ≤ R F := by
  have : ∀ d, d ≤ F → R (F - d) ≤ R F := by
    intro d
    induction d with
    | zero =>
      intro _
      exact Nat.le_refl _
    | succ d ih =>
      intro hd
      have h1 := ih (by omega)
      have h2 := h.1 (F - (d + 1)) (by omega)
      rw [show F - (d + 1) + 1 = F - d by omega] at h2
      omega
  have := this (F - f) (by omega)
  rw [show F - (F - f) = f by omega] at this
  exact this
theorem RS_cf {L : Nat → Prop} {s s' : cS} {b n F : Nat} {R : Nat → Nat} (h : RS s b n F R) (c : cf L s s') (h6 : ¬ L (b + 6)) (h7 : ¬ L (b + 7)) : RS s' b n F R := by
  obtain ⟨h1, h2, h3⟩ := h
  refine ⟨h1, fun f hf => ?_, fun i hi => ?_⟩
  · rw [c.A h6]
    exact h2 f hf
  · rw [c.A h7]
    exact h3 i hi
theorem c_le39 {N b n F f : Nat} {R : Nat → Nat} {s : cS} {rec : Nat → Nat → Int32 → mh → Option mh} (hb : isB b) (hF : F ≤ 44) (hn : n ≤ 24) (h : RS s b n F R) (hf : f < F) : ∀ (r i fu : Nat) (g : Nat → Int32), i + r = R (f + 1) → r < fu → R f ≤ i → FA F g → ∃ g', fxX0_layEdges_39 N rec fu b 40 (Int32.ofNat f) (Int32.ofNat i) (hC (uA s 40 g)) = rec b 40 (Int32.ofNat (f + 1)) (hC (uA s 40 g')) ∧ FA F g' := by
  obtain ⟨h0, hp, h5, h6, h7, -⟩ := isB_sh hb
  have rb := (isB_rg hb).1
  have R132 := (h.2.1 (f + 1) (by omega)).1
  have e1 := (h.2.1 (f + 1) (by omega)).2
  have e0 := (h.2.1 f (by omega)).2
  have Rl := h.1 f hf
  have RF := RS_le h (show f + 1 ≤ F by omega)
  intro r
  induction r with
  | zero =>
    intro i fu g hi hfu hR fa
    obtain ⟨fu', rfl⟩ : ∃ f', fu = f' + 1 := ⟨fu - 1, by omega⟩
    have e : i = R (f + 1) := by omega
    rw [fxX0_layEdges_39, gR_0_4 h0, Option.bind_some, i_s, aI_N h6 (show f + 1 < 45 by omega) (by decide), Option.bind_some, qA_ne (by omega), e1, e, if_pos (Int32.le_refl _)]
    exact ⟨g, rfl, fa⟩
  | succ r ih =>
    intro i fu g hi hfu hR fa
    obtain ⟨fu', rfl⟩ : ∃ f', fu = f' + 1 := ⟨fu - 1, by omega⟩
    have ne : ¬ (Int32.ofNat (R (f + 1)) ≤ Int32.ofNat i) := by
      rw [i_le (by omega) (by omega)]
      omega
    have st : ∀ j, j < R F → ∃ g', fxX0_layEdges_77 N rec (fxX0_layEdges_39 N rec fu') b 40 (Int32.ofNat f) (Int32.ofNat i) (Int32.ofNat j) (hC (uA s 40 g)) = rec b 40 (Int32.ofNat (f + 1)) (hC (uA s 40 g')) ∧ FA F g' := by
      intro j hj
      have RF132 := (h.2.1 F (by omega)).1
      obtain ⟨k1, l1, k1e⟩ := h.2.2 i (by omega)
      obtain ⟨k2, l2, k2e⟩ := h.2.2 j hj
      unfold fxX0_layEdges_77
      have e24 : (24 : Int32) = Int32.ofNat 24 := rfl
      rw [gR_0_5 h0, Option.bind_some, aI_N h7 (show i < 132 by omega) (by decide), Option.bind_some, Option.bind_some, aI_N h7 (show j < 132 by omega) (by decide), Option.bind_some, qA_ne (by omega), k1e, k2e, e24, i_mc, i_ad, wI_N t40 (show k1 * 24 + k2 < 576 by omega) (by decide), Option.bind_some, uA_uA, qA_eq, i_s]
      refine ih (i + 1) fu' _ (by omega) (by omega) (by omega) (fun x hx => ?_)
      by_cases c : x = k1 * 24 + k2
      · rw [c, u_eq]
        exact .inr ⟨f, hf, rfl⟩
      · rw [u_ne c]
        exact fa x hx
    rw [fxX0_layEdges_39, gR_0_4 h0, Option.bind_some, i_s, aI_N h6 (show f + 1 < 45 by omega) (by decide), Option.bind_some, qA_ne (by omega), e1, if_neg ne, Option.bind_some, Option.bind_some, i_s, aI_N h6 (show f + 1 < 45 by omega) (by decide), Option.bind_some, qA_ne (by omega), e1]
    by_cases c : R (f + 1) ≤ i + 1
    · have le : Int32.ofNat (R (f + 1)) ≤ Int32.ofNat (i + 1) := by
        rw [i_le (by omega) (by omega)]
        exact c
      rw [if_pos le, aI_N h6 (show f < 45 by omega) (by decide), Option.bind_some, qA_ne (by omega), e0]
      exact st (R f) (by omega)
    · have le : ¬ (Int32.ofNat (R (f + 1)) ≤ Int32.ofNat (i + 1)) := by
        rw [i_le (by omega) (by omega)]
        exact c
      rw [if_neg le]
      exact st (i + 1) (by omega)
theorem c_le24 {N b n F : Nat} {R : Nat → Nat} {s : cS} (hN : 600 < N) (hb : isB b) (hF : F ≤ 44) (hn : n ≤ 24) (h : RS s b n F R) (h2 : qI s b 2 = Int32.ofNat F) : ∀ (r f fu : Nat) (g : Nat → Int32), f + r = F → r < fu → FA F g → ∃ g', fxX0_layEdges_24 N fu b 40 (Int32.ofNat f) (hC (uA s 40 g)) = fxX0_layEdges_113 N N b 40 0 (hC (uA s 40 g')) ∧ FA F g' := by
  obtain ⟨h0, hp, h5, h6, h7, -⟩ := isB_sh hb
  have rb := (isB_rg hb).1
  intro r
  induction r with
  | zero =>
    intro f fu g hf hfu fa
    obtain ⟨fu', rfl⟩ : ∃ f', fu = f' + 1 := ⟨fu - 1, by omega⟩
    have e : f = F := by omega
    subst e
    rw [fxX0_layEdges_24, gI_0_2 h0, Option.bind_some, qI_uA, h2, if_pos (Int32.le_refl _)]
    exact ⟨g, rfl, fa⟩
  | succ r ih =>
    intro f fu g hf hfu fa
    obtain ⟨fu', rfl⟩ : ∃ f', fu = f' + 1 := ⟨fu - 1, by omega⟩
    have ne : ¬ (Int32.ofNat F ≤ Int32.ofNat f) := by
      rw [i_le (by omega) (by omega)]
      omega
    have R1 := (h.2.1 (f + 1) (by omega)).1
    have Rl := h.1 f (by omega)
    obtain ⟨g', q, fa'⟩ := c_le39 (N := N) (rec := fxX0_layEdges_24 N fu') hb hF hn h (show f < F by omega) (R (f + 1) - R f) (R f) N g (by omega) (by omega) (by omega) fa
    rw [fxX0_layEdges_24, gI_0_2 h0, Option.bind_some, qI_uA, h2, if_neg ne, gR_0_4 h0, Option.bind_some, aI_N h6 (show f < 45 by omega) (by decide), Option.bind_some, qA_ne (by omega), (h.2.1 f (by omega)).2, q]
    exact ih (f + 1) fu' g' (by omega) (by omega) fa'
/-- the edges of a body: two points' numbers and two faces' numbers each (or none) -/
def EG (s : cS) (b F E : Nat) : Prop := E ≤ 66 ∧ qI s b 6 = Int32.ofNat E ∧ ∀ e, e < E → ∃ u w f g, u < 24 ∧ w < 24 ∧ f < F ∧ g < F ∧ qA s (b + 8) (4 * e) = Int32.ofNat u ∧ qA s (b + 8) (4 * e + 1) = Int32.ofNat w ∧ qA s (b + 8) (4 * e + 2) = Int32.ofNat f ∧ qA s (b + 8) (4 * e + 3) = Int32.ofNat g
theorem EG_add {s s' : cS} {b F E u w f g : Nat} (hu : u < 24) (hw : w < 24) (hf : f < F) (hg : g < F) (h : EG s b F E) (k : (E = 66 ∧ s' = s) ∨ (E < 66 ∧ cf (fun i => i = b ∨ i = b + 8) s s' ∧ (∀ k, k ≠ 6 → qI s' b k = qI s b k) ∧ qI s' b 6 = Int32.ofNat (E + 1) ∧ qA s' (b + 8) = upd (upd (upd (upd (qA s (b + 8)) (4 * E) (Int32.ofNat u)) (4 * E + 1) (Int32.ofNat w)) (4 * E + 2) (Int32.ofNat f)) (4 * E + 3) (Int32.ofNat g))) : ∃ E', EG s' b F E' ∧ cf (fun i => i = b ∨ i = b + 8) s s' ∧ ∀ k, k ≠ 6 → qI s' b k = qI s b k := by
  rcases k with ⟨-, e⟩ | ⟨k1, k2, k3, k4, k5⟩
  · subst e
    exact ⟨E, h, cf.rf, fun _ _ => rfl⟩
  · refine ⟨E + 1, ⟨by omega, k4, fun e he => ?_⟩, k2, k3⟩
    rw [k5]
    by_cases c : e = E
    · rw [c]
      refine ⟨u, w, f, g, hu, hw, hf, hg, ?_, ?_, ?_, ?_⟩
      · rw [u_ne (by omega), u_ne (by omega), u_ne (by omega), u_eq]
      · rw [u_ne (by omega), u_ne (by omega), u_eq]
      · rw [u_ne (by omega), u_eq]
      · rw [u_eq]
    · rw [u_ne (by omega), u_ne (by omega), u_ne (by omega), u_ne (by omega), u_ne (by omega), u_ne (by omega), u_ne (by omega), u_ne (by omega), u_ne (by omega), u_ne (by omega), u_ne (by omega), u_ne (by omega), u_ne (by omega), u_ne (by omega), u_ne (by omega), u_ne (by omega)]
      exact h.2.2 e (by omega)
theorem c_le128 {N b n F u : Nat} {g : Nat → Int32} {s0 : cS} {rec : Nat → Nat → Int32 → mh → Option mh} (hb : isB b) (hF : F ≤ 44) (hn : n ≤ 24) (h1 : qI s0 (b + 1) 0 = Int32.ofNat n) (hg : qA s0 40 = g) (fa : FA F g) (hu : u < n) : ∀ (r w fu : Nat) (s : cS) (E : Nat), w + r = n → r < fu → EG s b F E → cf (fun i => i = b ∨ i = b + 8) s0 s → (∀ k, k ≠ 6 → qI s b k = qI s0 b k) → ∃ s' E', fxX0_layEdges_128 N rec fu b 40 (Int32.ofNat u) (Int32.ofNat w) (hC s) = rec b 40 (Int32.ofNat (u + 1)) (hC s') ∧ EG s' b F E' ∧ cf (fun i => i = b ∨ i = b + 8) s0 s' ∧ ∀ k, k ≠ 6 → qI s' b k = qI s0 b k := by
  obtain ⟨h0, hp, -⟩ := isB_sh hb
  obtain ⟨hp3, -⟩ := pt_sh hp
  have rb := (isB_rg hb).1
  intro r
  induction r with
  | zero =>
    intro w fu s E hw hfu eg c k
    obtain ⟨fu', rfl⟩ : ∃ f', fu = f' + 1 := ⟨fu - 1, by omega⟩
    have e : w = n := by omega
    subst e
    have e1 : qI s (b + 1) 0 = Int32.ofNat w := by
      rw [c.I (fun w => by omega)]
      exact h1
    rw [fxX0_layEdges_128, gR_0_1 h0, Option.bind_some, gI_3_0 hp3, Option.bind_some, e1, if_pos (Int32.le_refl _), i_s]
    exact ⟨s, E, rfl, eg, c, k⟩
  | succ r ih =>
    intro w fu s E hw hfu eg c k
    obtain ⟨fu', rfl⟩ : ∃ f', fu = f' + 1 := ⟨fu - 1, by omega⟩
    have e1 : qI s (b + 1) 0 = Int32.ofNat n := by
      rw [c.I (fun w => by omega)]
      exact h1
    have eg40 : qA s 40 = g := by
      rw [c.A (fun w => by omega)]
      exact hg
    have ne : ¬ (Int32.ofNat n ≤ Int32.ofNat w) := by
      rw [i_le (by omega) (by omega)]
      omega
    have e24 : (24 : Int32) = Int32.ofNat 24 := rfl
    rw [fxX0_layEdges_128, gR_0_1 h0, Option.bind_some, gI_3_0 hp3, Option.bind_some, e1, if_neg ne, e24, i_mc, i_ad, i_mc, i_ad, aI_N t40 (show u * 24 + w < 576 by omega) (by decide), Option.bind_some, aI_N t40 (show w * 24 + u < 576 by omega) (by decide), Option.bind_some, eg40]
    have skip : ∃ s' E', fxX0_layEdges_191 N rec (fxX0_layEdges_128 N rec fu') b 40 (Int32.ofNat u) (Int32.ofNat w) (hC s) = rec b 40 (Int32.ofNat (u + 1)) (hC s') ∧ EG s' b F E' ∧ cf (fun i => i = b ∨ i = b + 8) s0 s' ∧ ∀ k, k ≠ 6 → qI s' b k = qI s0 b k := by
      unfold fxX0_layEdges_191
      rw [i_s]
      exact ih (w + 1) fu' s E (by omega) (by omega) eg c k
    rcases fa (u * 24 + w) (by omega) with z | ⟨f1, l1, z1⟩
    · rw [z, if_pos rfl]
      exact skip
    · have n1 : ¬ (Int32.ofNat f1 = (-1 : Int32)) := fun e => by
        have := congrArg Int32.toInt e
        rw [Int32.toInt_ofNat_of_lt (by omega)] at this
        have e1 : (-1 : Int32).toInt = -1 := rfl
        omega
      rw [z1, if_neg n1]
      rcases fa (w * 24 + u) (by omega) with z | ⟨f2, l2, z2⟩
      · rw [z, if_pos rfl]
        exact skip
      · have n2 : ¬ (Int32.ofNat f2 = (-1 : Int32)) := fun e => by
          have := congrArg Int32.toInt e
          rw [Int32.toInt_ofNat_of_lt (by omega)] at this
          have e1 : (-1 : Int32).toInt = -1 := rfl
          omega
        rw [z2, if_neg n2, kO_0 h0, Option.bind_some]
        have mn : ∃ x, x < F ∧ (if Int32.ofNat f2 < Int32.ofNat f1 then Int32.ofNat f2 else Int32.ofNat f1) = Int32.ofNat x := by
          by_cases d : Int32.ofNat f2 < Int32.ofNat f1
          · rw [if_pos d]
            exact ⟨f2, l2, rfl⟩
          · rw [if_neg d]
            exact ⟨f1, l1, rfl⟩
        have mx : ∃ x, x < F ∧ (if Int32.ofNat f1 < Int32.ofNat f2 then Int32.ofNat f2 else Int32.ofNat f1) = Int32.ofNat x := by
          by_cases d : Int32.ofNat f1 < Int32.ofNat f2
          · rw [if_pos d]
            exact ⟨f2, l2, rfl⟩
          · rw [if_neg d]
            exact ⟨f1, l1, rfl⟩
        obtain ⟨x1, y1, m1⟩ := mn
        obtain ⟨x2, y2, m2⟩ := mx
        rw [m1, m2]
        obtain ⟨s1, q1, k1⟩ := c_addEdge (N := N) (u := Int32.ofNat u) (w := Int32.ofNat w) (f := Int32.ofNat x1) (g := Int32.ofNat x2) hb eg.1 eg.2.1
        obtain ⟨E1, eg1, c1, kk1⟩ := EG_add (by omega) (by omega) y1 y2 eg k1
        rw [q1, Option.bind_some]
        unfold fxX0_layEdges_191
        rw [i_s]
        exact ih (w + 1) fu' s1 E1 (by omega) (by omega) eg1 (c.tr c1) (fun x hx => (kk1 x hx).trans (k x hx))
theorem c_le113 {N b n F : Nat} {g : Nat → Int32} {s0 : cS} (hN : 600 < N) (hb : isB b) (hF : F ≤ 44) (hn : n ≤ 24) (h1 : qI s0 (b + 1) 0 = Int32.ofNat n) (hg : qA s0 40 = g) (fa : FA F g) : ∀ (r u fu : Nat) (s : cS) (E : Nat), u + r = n → r < fu → EG s b F E → cf (fun i => i = b ∨ i = b + 8) s0 s → (∀ k, k ≠ 6 → qI s b k = qI s0 b k) → ∃ s' E', fxX0_layEdges_113 N fu b 40 (Int32.ofNat u) (hC s) = some (hC s') ∧ EG s' b F E' ∧ cf (fun i => i = b ∨ i = b + 8) s0 s' ∧ ∀ k, k ≠ 6 → qI s' b k = qI s0 b k := by
  obtain ⟨h0, hp, -⟩ := isB_sh hb
  obtain ⟨hp3, -⟩ := pt_sh hp
  have rb := (isB_rg hb).1
  intro r
  induction r with
  | zero =>
    intro u fu s E hu hfu eg c k
    obtain ⟨fu', rfl⟩ : ∃ f', fu = f' + 1 := ⟨fu - 1, by omega⟩
    have e : u = n := by omega
    subst e
    have e1 : qI s (b + 1) 0 = Int32.ofNat u := by
      rw [c.I (fun w => by omega)]
      exact h1
    rw [fxX0_layEdges_113, gR_0_1 h0, Option.bind_some, gI_3_0 hp3, Option.bind_some, e1, if_pos (Int32.le_refl _)]
    exact ⟨s, E, rfl, eg, c, k⟩
  | succ r ih =>
    intro u fu s E hu hfu eg c k
    obtain ⟨fu', rfl⟩ : ∃ f', fu = f' + 1 := ⟨fu - 1, by omega⟩
    have e1 : qI s (b + 1) 0 = Int32.ofNat n := by
      rw [c.I (fun w => by omega)]
      exact h1
    have ne : ¬ (Int32.ofNat n ≤ Int32.ofNat u) := by
      rw [i_le (by omega) (by omega)]
      omega
    rw [fxX0_layEdges_113, gR_0_1 h0, Option.bind_some, gI_3_0 hp3, Option.bind_some, e1, if_neg ne, i_s]
    obtain ⟨s1, E1, q1, eg1, c1, k1⟩ := c_le128 (N := N) (rec := fxX0_layEdges_113 N fu') hb hF hn h1 hg fa (show u < n by omega) (n - (u + 1)) (u + 1) N s E (by omega) (by omega) eg c k
    rw [q1]
    exact ih (u + 1) fu' s1 E1 (by omega) (by omega) eg1 c1 k1
/-- layEdges -/
theorem c_layEdges {N b n F kd : Nat} {R : Nat → Nat} {s : cS} (hN : 600 < N) (hb : isB b) (hkd : kd < 5) (hF : F ≤ 44) (hn : n ≤ 24) (h0 : qI s b 0 = Int32.ofNat kd) (h1 : qI s (b + 1) 0 = Int32.ofNat n) (h2 : qI s b 2 = Int32.ofNat F) (h6 : qI s b 6 = 0) (rs : RS s b n F R) : ∃ s' E, fxX0_layEdges N b 40 (hC s) = some (hC s') ∧ E ≤ 66 ∧ qI s' b 6 = Int32.ofNat E ∧ (kd ≠ 2 → EG s' b F E) ∧ cf (fun i => i = b ∨ i = b + 8 ∨ i = 40) s s' ∧ ∀ k, k ≠ 6 → qI s' b k = qI s b k := by
  obtain ⟨b0, -⟩ := isB_sh hb
  have rb := (isB_rg hb).1
  unfold fxX0_layEdges
  rw [gI_0_0 b0, Option.bind_some, h0]
  by_cases c : kd = 2
  · rw [if_pos (show Int32.ofNat kd = (2 : Int32) by rw [c]; rfl), kO_0 b0, Option.bind_some]
    obtain ⟨s1, q1, k1⟩ := c_addEdge (N := N) (E := 0) (u := 0) (w := 1) (f := -1) (g := -1) (s := s) hb (by omega) h6
    rw [q1, Option.bind_some]
    rcases k1 with ⟨k1, -⟩ | ⟨-, k2, k3, k4, -⟩
    · omega
    · exact ⟨s1, 1, rfl, by omega, k4, fun w => absurd c w, k2.mo (fun i hi => by omega), k3⟩
  · rw [if_neg (fun w : Int32.ofNat kd = (2 : Int32) => c (i_inj (b := 2) (by omega) (by omega) w))]
    obtain ⟨g, q, fg⟩ := c_fillA (N := N) (v := -1) (s := s) hN
    rw [q, Option.bind_some]
    obtain ⟨g', q', fa⟩ := c_le24 (N := N) hN hb hF hn rs h2 F 0 N g (by omega) (by omega) (fun i hi => .inl (fg i hi))
    have c40 : cf (fun i => i = 40) s (uA s 40 g') := cf_uA _ rfl
    obtain ⟨s1, E, q1, eg, c1, k1⟩ := c_le113 (N := N) (s0 := uA s 40 g') (g := g') hN hb hF hn h1 qA_eq fa n 0 N (uA s 40 g') 0 (by omega) (by omega) ⟨by omega, h6, fun e he => absurd he (by omega)⟩ cf.rf (fun _ _ => rfl)
    refine ⟨s1, E, q'.trans q1, eg.1, eg.2.1, fun _ => eg, (c40.mo (fun i hi => .inr (.inr hi))).tr (c1.mo (fun i hi => by omega)), fun k hk => (k1 k hk)⟩
