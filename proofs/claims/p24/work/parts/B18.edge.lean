/-- a row of numbers with one more -/
def ndU (f : Nat → Nat) (E u : Nat) : Nat → Nat := fun e => if e = E then u else f e
/-- the rings as they stand in the state, with their points -/
def RZ (s : cS) (b n F : Nat) (R rf : Nat → Nat) (ρ : Nat → Nat → Nat) : Prop := R 0 = 0 ∧ (∀ f, f < F → R (f + 1) = R f + rf f) ∧ (∀ f, f ≤ F → R f ≤ 132 ∧ qA s (b + 6) f = Int32.ofNat (R f)) ∧ ∀ f, f < F → 3 ≤ rf f ∧ ∀ j, j < rf f → qA s (b + 7) (R f + j) = Int32.ofNat (ρ f j) ∧ ρ f j < n
theorem RZ_cf {L : Nat → Prop} {s s' : cS} {b n F : Nat} {R rf : Nat → Nat} {ρ : Nat → Nat → Nat} (h : RZ s b n F R rf ρ) (c : cf L s s') (h6 : ¬ L (b + 6)) (h7 : ¬ L (b + 7)) : RZ s' b n F R rf ρ := by
  obtain ⟨h1, h2, h3, h4⟩ := h
  refine ⟨h1, h2, fun f hf => ?_, fun f hf => ?_⟩
  · rw [c.A h6]
    exact h3 f hf
  · rw [c.A h7]
    exact h4 f hf
theorem R_find {F : Nat} {R rf : Nat → Nat} (h0 : R 0 = 0) (h : ∀ f, f < F → R (f + 1) = R f + rf f) : ∀ x, x ≤ F → ∀ i, i < R x → ∃ f j, f < x ∧ j < rf f ∧ i = R f + j := by
  intro x
  induction x with
  | zero =>
    intro _ i hi
    omega
  | succ x ih =>
    intro hx i hi
    rw [h x (by omega)] at hi
    by_cases c : i < R x
    · obtain ⟨f, j, h1, h2, h3⟩ := ih (by omega) i c
      exact ⟨f, j, by omega, h2, h3⟩
    · exact ⟨x, i - R x, by omega, by omega, by omega⟩
theorem RZ_RS {s : cS} {b n F : Nat} {R rf : Nat → Nat} {ρ : Nat → Nat → Nat} (h : RZ s b n F R rf ρ) : RS s b n F R := by
  obtain ⟨h1, h2, h3, h4⟩ := h
  refine ⟨fun f hf => by rw [h2 f hf]; omega, h3, fun i hi => ?_⟩
  obtain ⟨f, j, a1, a2, a3⟩ := R_find h1 h2 F (Nat.le_refl F) i hi
  exact ⟨ρ f j, ((h4 f a1).2 j a2).2, by rw [a3]; exact ((h4 f a1).2 j a2).1⟩
/-- a place of a ring that has been gone through -/
def prc (rf : Nat → Nat) (f0 i0 f j : Nat) : Prop := j < rf f ∧ (f < f0 ∨ f = f0 ∧ j < i0)
/-- the table: the face whose ring goes on from one point to another -/
def TA (rf : Nat → Nat) (ρ : Nat → Nat → Nat) (f0 i0 : Nat) (g : Nat → Int32) : Prop := ∀ u w, u < 24 → w < 24 → (g (u * 24 + w) = -1 ∧ ∀ f j, prc rf f0 i0 f j → ¬ (ρ f j = u ∧ nxr (rf f) (ρ f) j = w)) ∨ ∃ f j, prc rf f0 i0 f j ∧ g (u * 24 + w) = Int32.ofNat f ∧ ρ f j = u ∧ nxr (rf f) (ρ f) j = w
theorem TA_e {rf : Nat → Nat} {ρ : Nat → Nat → Nat} {f0 i0 f1 i1 : Nat} {g : Nat → Int32} (h : TA rf ρ f0 i0 g) (e : ∀ f j, prc rf f0 i0 f j ↔ prc rf f1 i1 f j) : TA rf ρ f1 i1 g := by
  intro u w hu hw
  rcases h u w hu hw with ⟨a, b⟩ | ⟨f, j, a, b⟩
  · exact .inl ⟨a, fun f j q => b f j ((e f j).mpr q)⟩
  · exact .inr ⟨f, j, (e f j).mp a, b⟩
theorem nxr_lt {r n j : Nat} {ρ : Nat → Nat} (h : ∀ j, j < r → ρ j < n) (hj : j < r) : nxr r ρ j < n := by
  unfold nxr
  by_cases c : j + 1 < r
  · rw [if_pos c]
    exact h _ c
  · rw [if_neg c]
    exact h _ (by omega)
theorem d_le39 {N b n F f : Nat} {R rf : Nat → Nat} {ρ : Nat → Nat → Nat} {s : cS} {rec : Nat → Nat → Int32 → mh → Option mh} (hb : isB b) (hF : F ≤ 44) (hn : n ≤ 24) (h : RZ s b n F R rf ρ) (hf : f < F) : ∀ (r i fu : Nat) (g : Nat → Int32), i + r = rf f → r < fu → TA rf ρ f i g → ∃ g', fxX0_layEdges_39 N rec fu b 40 (Int32.ofNat f) (Int32.ofNat (R f + i)) (hC (uA s 40 g)) = rec b 40 (Int32.ofNat (f + 1)) (hC (uA s 40 g')) ∧ TA rf ρ (f + 1) 0 g' := by
  obtain ⟨h0, hp, h5, h6, h7, -⟩ := isB_sh hb
  have rb := (isB_rg hb).1
  obtain ⟨-, hR, hQ, hρ⟩ := h
  have R132 := (hQ (f + 1) (by omega)).1
  have e1 := (hQ (f + 1) (by omega)).2
  have e0 := (hQ f (by omega)).2
  have Rs := hR f hf
  obtain ⟨r3, hρ⟩ := hρ f hf
  intro r
  induction r with
  | zero =>
    intro i fu g hi hfu ta
    obtain ⟨fu', rfl⟩ : ∃ f', fu = f' + 1 := ⟨fu - 1, by omega⟩
    have e : R f + i = R (f + 1) := by omega
    rw [fxX0_layEdges_39, gR_0_4 h0, Option.bind_some, i_s, aI_N h6 (show f + 1 < 45 by omega) (by decide), Option.bind_some, qA_ne (by omega), e1, e, if_pos (Int32.le_refl _)]
    refine ⟨g, rfl, TA_e ta (fun f' j => ?_)⟩
    unfold prc
    constructor
    · intro ⟨a, c⟩
      exact ⟨a, by omega⟩
    · intro ⟨a, c⟩
      refine ⟨a, ?_⟩
      rcases c with c | c
      · by_cases d : f' = f
        · rw [d] at a
          exact .inr ⟨d, by omega⟩
        · exact .inl (by omega)
      · omega
  | succ r ih =>
    intro i fu g hi hfu ta
    obtain ⟨fu', rfl⟩ : ∃ f', fu = f' + 1 := ⟨fu - 1, by omega⟩
    have ne : ¬ (Int32.ofNat (R (f + 1)) ≤ Int32.ofNat (R f + i)) := by
      rw [i_le (by omega) (by omega)]
      omega
    have st : ∀ j, j < rf f → ρ f j = nxr (rf f) (ρ f) i → ∃ g', fxX0_layEdges_77 N rec (fxX0_layEdges_39 N rec fu') b 40 (Int32.ofNat f) (Int32.ofNat (R f + i)) (Int32.ofNat (R f + j)) (hC (uA s 40 g)) = rec b 40 (Int32.ofNat (f + 1)) (hC (uA s 40 g')) ∧ TA rf ρ (f + 1) 0 g' := by
      intro j hj enx
      obtain ⟨k1e, l1⟩ := hρ i (by omega)
      obtain ⟨k2e, l2⟩ := hρ j hj
      unfold fxX0_layEdges_77
      have e24 : (24 : Int32) = Int32.ofNat 24 := rfl
      have es : Int32.ofNat (R f + i) + 1 = Int32.ofNat (R f + (i + 1)) := i_s (R f + i)
      rw [gR_0_5 h0, Option.bind_some, aI_N h7 (show R f + i < 132 by omega) (by decide), Option.bind_some, Option.bind_some, aI_N h7 (show R f + j < 132 by omega) (by decide), Option.bind_some, qA_ne (by omega), k1e, k2e, e24, i_mc, i_ad, wI_N t40 (show ρ f i * 24 + ρ f j < 576 by omega) (by decide), Option.bind_some, uA_uA, qA_eq, es]
      refine ih (i + 1) fu' _ (by omega) (by omega) (fun u w hu hw => ?_)
      by_cases c : u = ρ f i ∧ w = ρ f j
      · obtain ⟨c1, c2⟩ := c
        subst c1
        subst c2
        refine .inr ⟨f, i, ⟨by omega, .inr ⟨rfl, by omega⟩⟩, u_eq, rfl, enx.symm⟩
      · rw [u_ne (by omega)]
        rcases ta u w hu hw with ⟨a, z⟩ | ⟨f', j', a, z⟩
        · refine .inl ⟨a, fun f' j' q z' => ?_⟩
          by_cases d : f' = f ∧ j' = i
          · obtain ⟨d1, d2⟩ := d
            subst d1
            subst d2
            exact c ⟨z'.1.symm, by rw [enx]; exact z'.2.symm⟩
          · refine z f' j' ⟨q.1, ?_⟩ z'
            have := q.2
            omega
        · refine .inr ⟨f', j', ⟨a.1, ?_⟩, z⟩
          have := a.2
          omega
    have es : Int32.ofNat (R f + i) + 1 = Int32.ofNat (R f + (i + 1)) := i_s (R f + i)
    rw [fxX0_layEdges_39, gR_0_4 h0, Option.bind_some, i_s, aI_N h6 (show f + 1 < 45 by omega) (by decide), Option.bind_some, qA_ne (by omega), e1, if_neg ne, Option.bind_some, Option.bind_some, es, aI_N h6 (show f + 1 < 45 by omega) (by decide), Option.bind_some, qA_ne (by omega), e1]
    by_cases c : R (f + 1) ≤ R f + (i + 1)
    · have le : Int32.ofNat (R (f + 1)) ≤ Int32.ofNat (R f + (i + 1)) := by
        rw [i_le (by omega) (by omega)]
        exact c
      rw [if_pos le, aI_N h6 (show f < 45 by omega) (by decide), Option.bind_some, qA_ne (by omega), e0]
      refine st 0 (by omega) ?_
      unfold nxr
      rw [if_neg (by omega)]
    · have le : ¬ (Int32.ofNat (R (f + 1)) ≤ Int32.ofNat (R f + (i + 1))) := by
        rw [i_le (by omega) (by omega)]
        exact c
      rw [if_neg le]
      refine st (i + 1) (by omega) ?_
      unfold nxr
      rw [if_pos (by omega)]
theorem d_le24 {N b n F : Nat} {R rf : Nat → Nat} {ρ : Nat → Nat → Nat} {s : cS} (hN : 600 < N) (hb : isB b) (hF : F ≤ 44) (hn : n ≤ 24) (h : RZ s b n F R rf ρ) (h2 : qI s b 2 = Int32.ofNat F) : ∀ (r f fu : Nat) (g : Nat → Int32), f + r = F → r < fu → TA rf ρ f 0 g → ∃ g', fxX0_layEdges_24 N fu b 40 (Int32.ofNat f) (hC (uA s 40 g)) = fxX0_layEdges_113 N N b 40 0 (hC (uA s 40 g')) ∧ TA rf ρ F 0 g' := by
  obtain ⟨h0, hp, h5, h6, h7, -⟩ := isB_sh hb
  have rb := (isB_rg hb).1
  intro r
  induction r with
  | zero =>
    intro f fu g hf hfu fa
    obtain ⟨fu', rfl⟩ : ∃ f', fu = f' + 1 := ⟨fu - 1, by omega⟩
    have e : f = F := by omega
    subst e
    rw [fxX0_layEdges_24, gI_0_2 h0, Option.bind_some, qI_uA, h2, if_pos (Int32.le_refl _)]
    exact ⟨g, rfl, fa⟩
  | succ r ih =>
    intro f fu g hf hfu fa
    obtain ⟨fu', rfl⟩ : ∃ f', fu = f' + 1 := ⟨fu - 1, by omega⟩
    have ne : ¬ (Int32.ofNat F ≤ Int32.ofNat f) := by
      rw [i_le (by omega) (by omega)]
      omega
    have R1 := (h.2.2.1 (f + 1) (by omega)).1
    have Rl := h.2.1 f (by omega)
    obtain ⟨g', q, fa'⟩ := d_le39 (N := N) (rec := fxX0_layEdges_24 N fu') hb hF hn h (show f < F by omega) (rf f) 0 N g (by omega) (by omega) fa
    have q' : fxX0_layEdges_39 N (fxX0_layEdges_24 N fu') N b 40 (Int32.ofNat f) (Int32.ofNat (R f)) (hC (uA s 40 g)) = fxX0_layEdges_24 N fu' b 40 (Int32.ofNat (f + 1)) (hC (uA s 40 g')) := q
    rw [fxX0_layEdges_24, gI_0_2 h0, Option.bind_some, qI_uA, h2, if_neg ne, gR_0_4 h0, Option.bind_some, aI_N h6 (show f < 45 by omega) (by decide), Option.bind_some, qA_ne (by omega), (h.2.2.1 f (by omega)).2, q']
    exact ih (f + 1) fu' g' (by omega) (by omega) fa'
/-- the rows of edges: in order, each pair of points that D knows of some face, with the least and the greatest of its faces -/
def edS (E : Nat) (pe qe fe ge : Nat → Nat) (D : Nat → Nat → Nat → Prop) : Prop := (∀ e, e < E → pe e < 25 ∧ qe e < 25 ∧ D (fe e) (pe e) (qe e) ∧ D (ge e) (pe e) (qe e) ∧ ∀ f, D f (pe e) (qe e) → fe e ≤ f ∧ f ≤ ge e) ∧ (∀ a b, a < b → b < E → pe a < pe b ∨ pe a = pe b ∧ qe a < qe b) ∧ ∀ f p q, D f p q → ∃ e, e < E ∧ pe e = p ∧ qe e = q
def ebC (s : cS) (b E : Nat) (D : Nat → Nat → Nat → Prop) : Prop := E ≤ 66 ∧ qI s b 6 = Int32.ofNat E ∧ ∃ pe qe fe ge : Nat → Nat, (∀ e, e < E → qA s (b + 8) (4 * e) = Int32.ofNat (pe e) ∧ qA s (b + 8) (4 * e + 1) = Int32.ofNat (qe e) ∧ qA s (b + 8) (4 * e + 2) = Int32.ofNat (fe e) ∧ qA s (b + 8) (4 * e + 3) = Int32.ofNat (ge e)) ∧ edS E pe qe fe ge D
theorem ebC_D {s : cS} {b E : Nat} {D D' : Nat → Nat → Nat → Prop} (h : ebC s b E D) (e : ∀ f p q, D f p q ↔ D' f p q) : ebC s b E D' := by
  have : D = D' := by
    funext f p q
    exact propext (e f p q)
  rw [← this]
  exact h
theorem ebC_cf {L : Nat → Prop} {s s' : cS} {b E : Nat} {D : Nat → Nat → Nat → Prop} (h : ebC s b E D) (c : cf L s s') (h0 : ¬ L b) (h8 : ¬ L (b + 8)) : ebC s' b E D := by
  obtain ⟨h1, h2, pe, qe, fe, ge, h3, h4⟩ := h
  refine ⟨h1, ?_, pe, qe, fe, ge, fun e he => ?_, h4⟩
  · rw [c.I h0]
    exact h2
  · rw [c.A h8]
    exact h3 e he
/-- a new row behind the others -/
theorem ebC_add {s s' : cS} {b E u w f g : Nat} {D : Nat → Nat → Nat → Prop} (hu : u < 25) (hw : w < 25) (h : ebC s b E D) (lo : ∀ f' p q, D f' p q → p < u ∨ p = u ∧ q < w) (k : E < 66 ∧ cf (fun i => i = b ∨ i = b + 8) s s' ∧ (∀ k, k ≠ 6 → qI s' b k = qI s b k) ∧ qI s' b 6 = Int32.ofNat (E + 1) ∧ qA s' (b + 8) = upd (upd (upd (upd (qA s (b + 8)) (4 * E) (Int32.ofNat u)) (4 * E + 1) (Int32.ofNat w)) (4 * E + 2) (Int32.ofNat f)) (4 * E + 3) (Int32.ofNat g)) {D' : Nat → Nat → Nat → Prop} (d1 : ∀ f' p q, D f' p q → D' f' p q) (d2 : ∀ f' p q, D' f' p q → D f' p q ∨ p = u ∧ q = w ∧ (f' = f ∨ f' = g)) (df : D' f u w) (dg : D' g u w) (fg : f ≤ g) : ebC s' b (E + 1) D' := by
  obtain ⟨h1, h2, pe, qe, fe, ge, h3, h4, h5, h6⟩ := h
  obtain ⟨k1, k2, k3, k4, k5⟩ := k
  have oP : ∀ e, e < E → (ndU pe E u) e = pe e := fun e he => if_neg (by omega)
  have oQ : ∀ e, e < E → (ndU qe E w) e = qe e := fun e he => if_neg (by omega)
  have oF : ∀ e, e < E → (ndU fe E f) e = fe e := fun e he => if_neg (by omega)
  have oG : ∀ e, e < E → (ndU ge E g) e = ge e := fun e he => if_neg (by omega)
  have nP : (ndU pe E u) E = u := if_pos rfl
  have nQ : (ndU qe E w) E = w := if_pos rfl
  have nF : (ndU fe E f) E = f := if_pos rfl
  have nG : (ndU ge E g) E = g := if_pos rfl
  refine ⟨by omega, k4, ndU pe E u, ndU qe E w, ndU fe E f, ndU ge E g, fun e he => ?_, fun e he => ?_, fun x y hxy hy => ?_, fun f' p q hD => ?_⟩
  · rw [k5]
    by_cases c : e = E
    · subst c
      rw [nP, nQ, nF, nG]
      refine ⟨?_, ?_, ?_, ?_⟩
      · rw [u_ne (by omega), u_ne (by omega), u_ne (by omega), u_eq]
      · rw [u_ne (by omega), u_ne (by omega), u_eq]
      · rw [u_ne (by omega), u_eq]
      · rw [u_eq]
    · rw [oP e (by omega), oQ e (by omega), oF e (by omega), oG e (by omega), u_ne (by omega), u_ne (by omega), u_ne (by omega), u_ne (by omega), u_ne (by omega), u_ne (by omega), u_ne (by omega), u_ne (by omega), u_ne (by omega), u_ne (by omega), u_ne (by omega), u_ne (by omega), u_ne (by omega), u_ne (by omega), u_ne (by omega), u_ne (by omega)]
      exact h3 e (by omega)
  · by_cases c : e = E
    · subst c
      rw [nP, nQ, nF, nG]
      refine ⟨hu, hw, df, dg, fun f' hD => ?_⟩
      rcases d2 f' u w hD with z | ⟨-, -, z | z⟩
      · have := lo f' u w z
        omega
      · omega
      · omega
    · rw [oP e (by omega), oQ e (by omega), oF e (by omega), oG e (by omega)]
      obtain ⟨a1, a2, a3, a4, a5⟩ := h4 e (by omega)
      refine ⟨a1, a2, d1 _ _ _ a3, d1 _ _ _ a4, fun f' hD => ?_⟩
      rcases d2 f' _ _ hD with z | ⟨z1, z2, -⟩
      · exact a5 f' z
      · have := lo _ _ _ a3
        omega
  · by_cases c : y = E
    · subst c
      rw [nP, nQ, oP x hxy, oQ x hxy]
      exact lo _ _ _ (h4 x hxy).2.2.1
    · rw [oP x (by omega), oQ x (by omega), oP y (by omega), oQ y (by omega)]
      exact h5 x y hxy (by omega)
  · rcases d2 f' p q hD with z | ⟨z1, z2, -⟩
    · obtain ⟨e, he, e1, e2⟩ := h6 f' p q z
      exact ⟨e, by omega, by rw [oP e he]; exact e1, by rw [oQ e he]; exact e2⟩
    · exact ⟨E, by omega, by rw [nP]; exact z1.symm, by rw [nQ]; exact z2.symm⟩
/-- the pairs gone through: up to u, w -/
def pUW (F : Nat) (rf : Nat → Nat) (ρ : Nat → Nat → Nat) (u w : Nat) : Nat → Nat → Nat → Prop := fun f p q => (∃ j, plc F rf ρ f j p q) ∧ (p < u ∨ p = u ∧ q < w)
/-- what the rings are known for: one ring alone goes on from one point to another, and some ring goes back -/
def RU (F : Nat) (rf : Nat → Nat) (ρ : Nat → Nat → Nat) : Prop := (∀ f j f' j', f < F → j < rf f → f' < F → j' < rf f' → ρ f j = ρ f' j' → nxr (rf f) (ρ f) j = nxr (rf f') (ρ f') j' → f = f') ∧ (∀ f j, f < F → j < rf f → ∃ f' j', f' < F ∧ j' < rf f' ∧ ρ f' j' = nxr (rf f) (ρ f) j ∧ nxr (rf f') (ρ f') j' = ρ f j) ∧ ∀ (E : Nat) (pe qe : Nat → Nat), (∀ e, e < E → ∃ f j, plc F rf ρ f j (pe e) (qe e)) → (∀ a b, a < b → b < E → ¬ (pe a = pe b ∧ qe a = qe b)) → E ≤ 66
theorem d_le128 {N b n F u : Nat} {rf : Nat → Nat} {ρ : Nat → Nat → Nat} {g : Nat → Int32} {s0 : cS} {rec : Nat → Nat → Int32 → mh → Option mh} (hb : isB b) (hF : F ≤ 44) (hn : n ≤ 24) (h1 : qI s0 (b + 1) 0 = Int32.ofNat n) (hg : qA s0 40 = g) (ta : TA rf ρ F 0 g) (ru : RU F rf ρ) (hu : u < n) : ∀ (r w fu : Nat) (s : cS) (E : Nat), w + r = n → r < fu → u < w → ebC s b E (pUW F rf ρ u w) → cf (fun i => i = b ∨ i = b + 8) s0 s → (∀ k, k ≠ 6 → qI s b k = qI s0 b k) → ∃ s' E', fxX0_layEdges_128 N rec fu b 40 (Int32.ofNat u) (Int32.ofNat w) (hC s) = rec b 40 (Int32.ofNat (u + 1)) (hC s') ∧ ebC s' b E' (pUW F rf ρ u n) ∧ cf (fun i => i = b ∨ i = b + 8) s0 s' ∧ ∀ k, k ≠ 6 → qI s' b k = qI s0 b k := by
  obtain ⟨h0, hp, -⟩ := isB_sh hb
  obtain ⟨hp3, -⟩ := pt_sh hp
  have rb := (isB_rg hb).1
  obtain ⟨U, V, M⟩ := ru
  intro r
  induction r with
  | zero =>
    intro w fu s E hw hfu huw eg c k
    obtain ⟨fu', rfl⟩ : ∃ f', fu = f' + 1 := ⟨fu - 1, by omega⟩
    have e : w = n := by omega
    subst e
    have e1 : qI s (b + 1) 0 = Int32.ofNat w := by
      rw [c.I (fun w => by omega)]
      exact h1
    rw [fxX0_layEdges_128, gR_0_1 h0, Option.bind_some, gI_3_0 hp3, Option.bind_some, e1, if_pos (Int32.le_refl _), i_s]
    exact ⟨s, E, rfl, eg, c, k⟩
  | succ r ih =>
    intro w fu s E hw hfu huw eg c k
    obtain ⟨fu', rfl⟩ : ∃ f', fu = f' + 1 := ⟨fu - 1, by omega⟩
    have e1 : qI s (b + 1) 0 = Int32.ofNat n := by
      rw [c.I (fun w => by omega)]
      exact h1
    have eg40 : qA s 40 = g := by
      rw [c.A (fun w => by omega)]
      exact hg
    have ne : ¬ (Int32.ofNat n ≤ Int32.ofNat w) := by
      rw [i_le (by omega) (by omega)]
      omega
    have e24 : (24 : Int32) = Int32.ofNat 24 := rfl
    rw [fxX0_layEdges_128, gR_0_1 h0, Option.bind_some, gI_3_0 hp3, Option.bind_some, e1, if_neg ne, e24, i_mc, i_ad, i_mc, i_ad, aI_N t40 (show u * 24 + w < 576 by omega) (by decide), Option.bind_some, aI_N t40 (show w * 24 + u < 576 by omega) (by decide), Option.bind_some, eg40]
    have pw : ∀ f j, prc rf F 0 f j ↔ f < F ∧ j < rf f := fun f j => by
      unfold prc
      omega
    have skip : (∀ f j, ¬ plc F rf ρ f j u w) → ∃ s' E', fxX0_layEdges_191 N rec (fxX0_layEdges_128 N rec fu') b 40 (Int32.ofNat u) (Int32.ofNat w) (hC s) = rec b 40 (Int32.ofNat (u + 1)) (hC s') ∧ ebC s' b E' (pUW F rf ρ u n) ∧ cf (fun i => i = b ∨ i = b + 8) s0 s' ∧ ∀ k, k ≠ 6 → qI s' b k = qI s0 b k := by
      intro no
      unfold fxX0_layEdges_191
      rw [i_s]
      refine ih (w + 1) fu' s E (by omega) (by omega) (by omega) (ebC_D eg (fun f p q => ?_)) c k
      unfold pUW
      constructor
      · intro ⟨a, d⟩
        exact ⟨a, by omega⟩
      · intro ⟨⟨j, a⟩, d⟩
        refine ⟨⟨j, a⟩, ?_⟩
        by_cases z : p = u ∧ q = w
        · rw [z.1, z.2] at a
          exact absurd a (no f j)
        · omega
    rcases ta u w (by omega) (by omega) with ⟨z, no⟩ | ⟨f1, j1, l1, z1, y1, y2⟩
    · rw [z, if_pos rfl]
      refine skip (fun f j ⟨a1, a2, a3, a4⟩ => ?_)
      rcases a4 with a4 | a4
      · exact no f j ((pw f j).mpr ⟨a1, a2⟩) a4
      · obtain ⟨f', j', b1, b2, b3, b4⟩ := V f j a1 a2
        exact no f' j' ((pw f' j').mpr ⟨b1, b2⟩) ⟨by rw [b3]; exact a4.2, by rw [b4]; exact a4.1⟩
    · have l1' := (pw f1 j1).mp l1
      have n1 : ¬ (Int32.ofNat f1 = (-1 : Int32)) := n1_ne (by omega)
      rw [z1, if_neg n1]
      rcases ta w u (by omega) (by omega) with ⟨z, no⟩ | ⟨f2, j2, l2, z2, y3, y4⟩
      · exfalso
        obtain ⟨f', j', b1, b2, b3, b4⟩ := V f1 j1 l1'.1 l1'.2
        exact no f' j' ((pw f' j').mpr ⟨b1, b2⟩) ⟨by rw [b3]; exact y2, by rw [b4]; exact y1⟩
      · have l2' := (pw f2 j2).mp l2
        have n2 : ¬ (Int32.ofNat f2 = (-1 : Int32)) := n1_ne (by omega)
        rw [z2, if_neg n2, kO_0 h0, Option.bind_some]
        have mn : ∃ x y, x ≤ y ∧ (x = f1 ∧ y = f2 ∨ x = f2 ∧ y = f1) ∧ (if Int32.ofNat f2 < Int32.ofNat f1 then Int32.ofNat f2 else Int32.ofNat f1) = Int32.ofNat x ∧ (if Int32.ofNat f1 < Int32.ofNat f2 then Int32.ofNat f2 else Int32.ofNat f1) = Int32.ofNat y := by
          have q12 := i_lt (a := f1) (b := f2) (by omega) (by omega)
          have q21 := i_lt (a := f2) (b := f1) (by omega) (by omega)
          by_cases d : f2 < f1
          · exact ⟨f2, f1, by omega, .inr ⟨rfl, rfl⟩, if_pos (by rw [q21]; exact d), if_neg (by rw [q12]; omega)⟩
          · by_cases d' : f1 < f2
            · exact ⟨f1, f2, by omega, .inl ⟨rfl, rfl⟩, if_neg (by rw [q21]; exact d), if_pos (by rw [q12]; exact d')⟩
            · have e12 : f1 = f2 := by omega
              exact ⟨f1, f2, by omega, .inl ⟨rfl, rfl⟩, if_neg (by rw [q21]; exact d), (if_neg (by rw [q12]; exact d')).trans (by rw [e12])⟩
        obtain ⟨x1, x2, xle, xo, m1, m2⟩ := mn
        rw [m1, m2]
        have p1 : plc F rf ρ f1 j1 u w := ⟨l1'.1, l1'.2, huw, .inl ⟨y1, y2⟩⟩
        have p2 : plc F rf ρ f2 j2 u w := ⟨l2'.1, l2'.2, huw, .inr ⟨y3, y4⟩⟩
        have E66 : E < 66 := by
          obtain ⟨-, -, pe, qe, fe, ge, -, q4, q5, -⟩ := eg
          have oP : ∀ e, e < E → (ndU pe E u) e = pe e := fun e he => if_neg (by omega)
          have oQ : ∀ e, e < E → (ndU qe E w) e = qe e := fun e he => if_neg (by omega)
          have nP : (ndU pe E u) E = u := if_pos rfl
          have nQ : (ndU qe E w) E = w := if_pos rfl
          have := M (E + 1) (ndU pe E u) (ndU qe E w) (fun e he => by
            by_cases d : e = E
            · subst d
              rw [nP, nQ]
              exact ⟨f1, j1, p1⟩
            · rw [oP e (by omega), oQ e (by omega)]
              obtain ⟨⟨j, hj⟩, -⟩ := (q4 e (by omega)).2.2.1
              exact ⟨_, j, hj⟩) (fun x y hxy hy => by
            by_cases d : y = E
            · subst d
              rw [nP, nQ, oP x hxy, oQ x hxy]
              have := (q4 x hxy).2.2.1.2
              omega
            · rw [oP x (by omega), oQ x (by omega), oP y (by omega), oQ y (by omega)]
              have := q5 x y hxy (by omega)
              omega)
          omega
        obtain ⟨s1, q1, k1⟩ := c_addEdge (N := N) (u := Int32.ofNat u) (w := Int32.ofNat w) (f := Int32.ofNat x1) (g := Int32.ofNat x2) hb eg.1 eg.2.1
        have k1' := k1.resolve_left (fun z => by omega)
        have Dx : ∀ f j, plc F rf ρ f j u w → f = f1 ∨ f = f2 := fun f j ⟨a1, a2, a3, a4⟩ => by
          rcases a4 with a4 | a4
          · exact .inl (U f j f1 j1 a1 a2 l1'.1 l1'.2 (by rw [a4.1, y1]) (by rw [a4.2, y2]))
          · exact .inr (U f j f2 j2 a1 a2 l2'.1 l2'.2 (by rw [a4.1, y3]) (by rw [a4.2, y4]))
        have eg1 : ebC s1 b (E + 1) (pUW F rf ρ u (w + 1)) := by
          refine ebC_add (u := u) (w := w) (f := x1) (g := x2) (by omega) (by omega) eg (fun f' p q hD => hD.2) k1' (fun f' p q hD => ⟨hD.1, by have := hD.2; omega⟩) (fun f' p q hD => ?_) ?_ ?_ xle
          · by_cases d : p = u ∧ q = w
            · obtain ⟨⟨j, hj⟩, -⟩ := hD
              rw [d.1, d.2] at hj
              have := Dx f' j hj
              exact .inr ⟨d.1, d.2, by omega⟩
            · exact .inl ⟨hD.1, by have := hD.2; omega⟩
          · refine ⟨?_, .inr ⟨rfl, by omega⟩⟩
            rcases xo with ⟨xa, -⟩ | ⟨xa, -⟩
            · rw [xa]
              exact ⟨j1, p1⟩
            · rw [xa]
              exact ⟨j2, p2⟩
          · refine ⟨?_, .inr ⟨rfl, by omega⟩⟩
            rcases xo with ⟨-, xa⟩ | ⟨-, xa⟩
            · rw [xa]
              exact ⟨j2, p2⟩
            · rw [xa]
              exact ⟨j1, p1⟩
        rw [q1, Option.bind_some]
        unfold fxX0_layEdges_191
        rw [i_s]
        exact ih (w + 1) fu' s1 (E + 1) (by omega) (by omega) (by omega) eg1 (c.tr k1'.2.1) (fun x hx => (k1'.2.2.1 x hx).trans (k x hx))
theorem d_le113 {N b n F : Nat} {rf : Nat → Nat} {ρ : Nat → Nat → Nat} {g : Nat → Int32} {s0 : cS} (hN : 600 < N) (hb : isB b) (hF : F ≤ 44) (hn : n ≤ 24) (h1 : qI s0 (b + 1) 0 = Int32.ofNat n) (hg : qA s0 40 = g) (ta : TA rf ρ F 0 g) (ru : RU F rf ρ) (hρ : ∀ f j p q, plc F rf ρ f j p q → q < n) : ∀ (r u fu : Nat) (s : cS) (E : Nat), u + r = n → r < fu → ebC s b E (pUW F rf ρ u (u + 1)) → cf (fun i => i = b ∨ i = b + 8) s0 s → (∀ k, k ≠ 6 → qI s b k = qI s0 b k) → ∃ s' E', fxX0_layEdges_113 N fu b 40 (Int32.ofNat u) (hC s) = some (hC s') ∧ ebC s' b E' (pDn F rf ρ F 0) ∧ cf (fun i => i = b ∨ i = b + 8) s0 s' ∧ ∀ k, k ≠ 6 → qI s' b k = qI s0 b k := by
  obtain ⟨h0, hp, -⟩ := isB_sh hb
  obtain ⟨hp3, -⟩ := pt_sh hp
  have rb := (isB_rg hb).1
  intro r
  induction r with
  | zero =>
    intro u fu s E hu hfu eg c k
    obtain ⟨fu', rfl⟩ : ∃ f', fu = f' + 1 := ⟨fu - 1, by omega⟩
    have e : u = n := by omega
    subst e
    have e1 : qI s (b + 1) 0 = Int32.ofNat u := by
      rw [c.I (fun w => by omega)]
      exact h1
    rw [fxX0_layEdges_113, gR_0_1 h0, Option.bind_some, gI_3_0 hp3, Option.bind_some, e1, if_pos (Int32.le_refl _)]
    refine ⟨s, E, rfl, ebC_D eg (fun f p q => ?_), c, k⟩
    unfold pUW pDn
    constructor
    · rintro ⟨⟨j, a⟩, -⟩
      exact ⟨j, a, .inl a.1⟩
    · rintro ⟨j, a, -⟩
      have := hρ f j p q a
      have := a.2.2.1
      exact ⟨⟨j, a⟩, .inl (by omega)⟩
  | succ r ih =>
    intro u fu s E hu hfu eg c k
    obtain ⟨fu', rfl⟩ : ∃ f', fu = f' + 1 := ⟨fu - 1, by omega⟩
    have e1 : qI s (b + 1) 0 = Int32.ofNat n := by
      rw [c.I (fun w => by omega)]
      exact h1
    have ne : ¬ (Int32.ofNat n ≤ Int32.ofNat u) := by
      rw [i_le (by omega) (by omega)]
      omega
    rw [fxX0_layEdges_113, gR_0_1 h0, Option.bind_some, gI_3_0 hp3, Option.bind_some, e1, if_neg ne, i_s]
    obtain ⟨s1, E1, q1, eg1, c1, k1⟩ := d_le128 (N := N) (rec := fxX0_layEdges_113 N fu') hb hF hn h1 hg ta ru (show u < n by omega) (n - (u + 1)) (u + 1) N s E (by omega) (by omega) (by omega) eg c k
    rw [q1]
    refine ih (u + 1) fu' s1 E1 (by omega) (by omega) (ebC_D eg1 (fun f p q => ?_)) c1 k1
    unfold pUW
    constructor
    · intro ⟨a, d⟩
      exact ⟨a, by omega⟩
    · intro ⟨⟨j, a⟩, d⟩
      have := hρ f j p q a
      have := a.2.2.1
      exact ⟨⟨j, a⟩, by omega⟩
theorem plc_lt {s : cS} {b n F : Nat} {R rf : Nat → Nat} {ρ : Nat → Nat → Nat} (h : RZ s b n F R rf ρ) {f j p q : Nat} (hp : plc F rf ρ f j p q) : p < n ∧ q < n := by
  obtain ⟨a1, a2, a3, a4⟩ := hp
  have l1 := ((h.2.2.2 f a1).2 j a2).2
  have l2 := nxr_lt (fun j hj => ((h.2.2.2 f a1).2 j hj).2) a2
  rcases a4 with a4 | a4
  · rw [a4.1] at l1
    rw [a4.2] at l2
    exact ⟨l1, l2⟩
  · rw [a4.1] at l1
    rw [a4.2] at l2
    exact ⟨l2, l1⟩
/-- layEdges -/
theorem d_layEdges {N b n F kd : Nat} {R rf : Nat → Nat} {ρ : Nat → Nat → Nat} {s : cS} (hN : 600 < N) (hb : isB b) (hkd : kd < 5) (hF : F ≤ 44) (hn : n ≤ 24) (h0 : qI s b 0 = Int32.ofNat kd) (h1 : qI s (b + 1) 0 = Int32.ofNat n) (h2 : qI s b 2 = Int32.ofNat F) (h6 : qI s b 6 = 0) (rz : RZ s b n F R rf ρ) (ru : RU F rf ρ) : ∃ s' E, fxX0_layEdges N b 40 (hC s) = some (hC s') ∧ E ≤ 66 ∧ qI s' b 6 = Int32.ofNat E ∧ (kd = 2 → E = 1 ∧ qA s' (b + 8) 0 = 0 ∧ qA s' (b + 8) 1 = 1 ∧ qA s' (b + 8) 2 = -1 ∧ qA s' (b + 8) 3 = -1) ∧ (kd ≠ 2 → ebC s' b E (pDn F rf ρ F 0)) ∧ cf (fun i => i = b ∨ i = b + 8 ∨ i = 40) s s' ∧ ∀ k, k ≠ 6 → qI s' b k = qI s b k := by
  obtain ⟨b0, -⟩ := isB_sh hb
  have rb := (isB_rg hb).1
  unfold fxX0_layEdges
  rw [gI_0_0 b0, Option.bind_some, h0]
  by_cases c : kd = 2
  · rw [if_pos (show Int32.ofNat kd = (2 : Int32) by rw [c]; rfl), kO_0 b0, Option.bind_some]
    obtain ⟨s1, q1, k1⟩ := c_addEdge (N := N) (E := 0) (u := 0) (w := 1) (f := -1) (g := -1) (s := s) hb (by omega) h6
    rw [q1, Option.bind_some]
    rcases k1 with ⟨k1, -⟩ | ⟨-, k2, k3, k4, k5⟩
    · omega
    · refine ⟨s1, 1, rfl, by omega, k4, fun _ => ⟨rfl, ?_, ?_, ?_, ?_⟩, fun w => absurd c w, k2.mo (fun i hi => by omega), k3⟩
      · rw [k5, u_ne (by omega), u_ne (by omega), u_ne (by omega), u_eq]
      · rw [k5, u_ne (by omega), u_ne (by omega), u_eq]
      · rw [k5, u_ne (by omega), u_eq]
      · rw [k5, u_eq]
  · rw [if_neg (fun w : Int32.ofNat kd = (2 : Int32) => c (i_inj (b := 2) (by omega) (by omega) w))]
    obtain ⟨g, q, fg⟩ := c_fillA (N := N) (v := -1) (s := s) hN
    rw [q, Option.bind_some]
    obtain ⟨g', q', fa⟩ := d_le24 (N := N) hN hb hF hn rz h2 F 0 N g (by omega) (by omega) (fun u w hu hw => .inl ⟨fg _ (by omega), fun f j hp => by
      have := hp.2
      omega⟩)
    have c40 : cf (fun i => i = 40) s (uA s 40 g') := cf_uA _ rfl
    obtain ⟨s1, E, q1, eg, c1, k1⟩ := d_le113 (N := N) (s0 := uA s 40 g') (g := g') hN hb hF hn h1 qA_eq fa ru (fun f j p q hp => (plc_lt rz hp).2) n 0 N (uA s 40 g') 0 (by omega) (by omega) ⟨by omega, h6, fun _ => 0, fun _ => 0, fun _ => 0, fun _ => 0, fun e he => absurd he (by omega), fun e he => absurd he (by omega), fun x y _ hy => absurd hy (by omega), fun f p q hD => by
      have h1 := hD.2
      obtain ⟨⟨j, hj⟩, -⟩ := hD
      have := hj.2.2.1
      omega⟩ cf.rf (fun _ _ => rfl)
    exact ⟨s1, E, q'.trans q1, eg.1, eg.2.1, fun w => absurd w c, fun _ => eg, (c40.mo (fun i hi => .inr (.inr hi))).tr (c1.mo (fun i hi => by omega)), fun k hk => (k1 k hk)⟩
theorem ebC_EG {s : cS} {b n F E : Nat} {R rf : Nat → Nat} {ρ : Nat → Nat → Nat} (hn : n ≤ 24) (rz : RZ s b n F R rf ρ) (h : ebC s b E (pDn F rf ρ F 0)) : EG s b F E := by
  obtain ⟨h1, h2, pe, qe, fe, ge, h3, h4, -⟩ := h
  refine ⟨h1, h2, fun e he => ?_⟩
  obtain ⟨-, -, ⟨j, a, -⟩, ⟨j', a', -⟩, -⟩ := h4 e he
  have := plc_lt rz a
  exact ⟨pe e, qe e, fe e, ge e, by omega, by omega, a.1, a'.1, h3 e he⟩
theorem edS_u {E E' : Nat} {pe qe fe ge pe' qe' fe' ge' : Nat → Nat} {D : Nat → Nat → Nat → Prop} (h : edS E pe qe fe ge D) (h' : edS E' pe' qe' fe' ge' D) : E = E' ∧ ∀ e, e < E → pe e = pe' e ∧ qe e = qe' e ∧ fe e = fe' e ∧ ge e = ge' e := by
  obtain ⟨a, b, c⟩ := h
  obtain ⟨a', b', c'⟩ := h'
  obtain ⟨e1, q⟩ := srt_u (lt := fun x y : Nat × Nat => x.1 < y.1 ∨ x.1 = y.1 ∧ x.2 < y.2) (l := fun e => (pe e, qe e)) (l' := fun e => (pe' e, qe' e)) (c := E) (c' := E') (fun x h => by omega) (fun x y z h g => by omega) b (fun i hi => by
    obtain ⟨e, he, e1, e2⟩ := c _ _ _ (a' i hi).2.2.1
    exact ⟨e, he, Prod.ext e1 e2⟩) b' (fun i hi => by
    obtain ⟨e, he, e1, e2⟩ := c' _ _ _ (a i hi).2.2.1
    exact ⟨e, he, Prod.ext e1 e2⟩)
  refine ⟨e1, fun e he => ?_⟩
  have p1 : pe e = pe' e := congrArg Prod.fst (q e he)
  have p2 : qe e = qe' e := congrArg Prod.snd (q e he)
  obtain ⟨-, -, d1, d2, d3⟩ := a e he
  obtain ⟨-, -, d1', d2', d3'⟩ := a' e (by omega)
  rw [p1, p2] at d1 d2 d3
  have := d3 _ d1'
  have := d3 _ d2'
  have := d3' _ d1
  have := d3' _ d2
  exact ⟨p1, p2, by omega, by omega⟩
