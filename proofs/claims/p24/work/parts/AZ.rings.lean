theorem uA_self (s : cS) (a : Nat) : uA s a (qA s a) = s := by
  unfold uA
  refine Prod.ext rfl (Prod.ext rfl (Prod.ext ?_ rfl))
  funext i
  show (if i = a then qA s a else s.2.2.1 i) = s.2.2.1 i
  by_cases c : i = a
  · rw [if_pos c, c]
    rfl
  · rw [if_neg c]
theorem qA_ne {s : cS} {a i : Nat} {g : Nat → Int32} (h : i ≠ a) : qA (uA s a g) i = qA s i := by
  rw [qA_uA, if_neg h]
theorem qA_eq {s : cS} {a : Nat} {g : Nat → Int32} : qA (uA s a g) a = g := by
  rw [qA_uA, if_pos rfl]
/-- excess -/
theorem c_excess {N b f : Nat} {x y z q : Int64} {s : cS} (hb : isB b) (hf : f < 44) : fxX0_excess N b (Int32.ofNat f) x y z q (hC s) = some (hC s, (qA s (b + 5) (4 * f)).toInt64 * x + (qA s (b + 5) (4 * f + 1)).toInt64 * y + (qA s (b + 5) (4 * f + 2)).toInt64 * z - (qA s (b + 5) (4 * f + 3)).toInt64 * q) := by
  obtain ⟨h0, -, h5, -⟩ := isB_sh hb
  unfold fxX0_excess
  simp only [gR_0_3 h0, Option.bind_some, i_c4, i_s, i_a2, i_a3, aI_N h5 (show 4 * f < 176 by omega) (by decide), aI_N h5 (show 4 * f + 1 < 176 by omega) (by decide), aI_N h5 (show 4 * f + 2 < 176 by omega) (by decide), aI_N h5 (show 4 * f + 3 < 176 by omega) (by decide)]
/-- facing: it comes back -/
theorem c_facing {N b f i j k : Nat} {s : cS} (hb : isB b) (hf : f < 44) (hi : i < 24) (hj : j < 24) (hk : k < 24) : ∃ v, fxX0_facing N b (Int32.ofNat f) (Int32.ofNat i) (Int32.ofNat j) (Int32.ofNat k) (hC s) = some (hC s, v) := by
  obtain ⟨h0, h1, h5, -⟩ := isB_sh hb
  have h1' : (shp (b + 1)).1 = 3 := by rw [h1]
  obtain ⟨v1, q1, -⟩ := c_acX (N := N) (s := s) h1 (by decide) hi hj hk
  obtain ⟨v2, q2, -⟩ := c_acY (N := N) (s := s) h1 (by decide) hi hj hk
  obtain ⟨v3, q3, -⟩ := c_acZ (N := N) (s := s) h1 (by decide) hi hj hk
  unfold fxX0_facing
  simp only [gR_0_3 h0, gR_0_1 h0, kO_3 h1', Option.bind_some, i_c4, i_s, i_a2, aI_N h5 (show 4 * f < 176 by omega) (by decide), aI_N h5 (show 4 * f + 1 < 176 by omega) (by decide), aI_N h5 (show 4 * f + 2 < 176 by omega) (by decide), q1, q2, q3]
  exact ⟨_, rfl⟩
/-- excess of the body's point x over plane f -/
def exv (s : cS) (b f x : Nat) : Int64 := (qA s (b + 5) (4 * f)).toInt64 * (qA s (b + 1 + 1) x).toInt64 + (qA s (b + 5) (4 * f + 1)).toInt64 * (qA s (b + 1 + 2) x).toInt64 + (qA s (b + 5) (4 * f + 2)).toInt64 * (qA s (b + 1 + 3) x).toInt64 - (qA s (b + 5) (4 * f + 3)).toInt64 * 1
/-- how many of the first k points lie in plane f -/
def oc (s : cS) (b f k : Nat) : Nat := sm (fun x => if exv s b f x = 0 then 1 else 0) k
theorem oc_cf {L : Nat → Prop} {s s' : cS} (c : cf L s s') {b : Nat} (hL : ∀ i, b + 2 ≤ i → i ≤ b + 5 → ¬ L i) (f k : Nat) : oc s' b f k = oc s b f k := by
  unfold oc
  have : (fun x => if exv s' b f x = 0 then 1 else 0) = (fun x => if exv s b f x = 0 then 1 else 0) := by
    funext x
    unfold exv
    rw [c.A (hL (b + 5) (by omega) (by omega)), c.A (hL (b + 1 + 1) (by omega) (by omega)), c.A (hL (b + 1 + 2) (by omega) (by omega)), c.A (hL (b + 1 + 3) (by omega) (by omega))]
  rw [this]
/-- what stands in the row of rings up to e: points' numbers; before start it is as it was -/
def RG (s : cS) (b n start e : Nat) (g : Nat → Int32) : Prop := start ≤ e ∧ e ≤ 132 ∧ (∀ i, i < start → g i = qA s (b + 7) i) ∧ ∀ i, start ≤ i → i < e → ∃ k, k < n ∧ g i = Int32.ofNat k
theorem c_lr5 {N b n f start : Nat} {s : cS} (hb : isB b) (hf : f < 44) (hn : n ≤ 24) (h1 : qI s (b + 1) 0 = Int32.ofNat n) : ∀ (r k fu e : Nat) (g : Nat → Int32), k + r = n → r < fu → RG s b n start e g → e ≤ start + oc s b f k → ∃ e' g', fxX0_layRing_5 N fu b (Int32.ofNat f) (Int32.ofNat start) (Int32.ofNat e) (Int32.ofNat k) (hC (uA s (b + 7) g)) = fxX0_layRing_87 N b (Int32.ofNat f) (Int32.ofNat start) (Int32.ofNat e') (hC (uA s (b + 7) g')) ∧ RG s b n start e' g' ∧ e' ≤ start + oc s b f n := by
  obtain ⟨h0, hp, h5, -, h7, -⟩ := isB_sh hb
  obtain ⟨hp3, d1, d2, d3⟩ := pt_sh hp
  intro r
  induction r with
  | zero =>
    intro k fu e g hk hfu h he
    obtain ⟨fu', rfl⟩ : ∃ f', fu = f' + 1 := ⟨fu - 1, by omega⟩
    have e0 : k = n := by omega
    subst e0
    refine ⟨e, g, ?_, h, he⟩
    rw [fxX0_layRing_5, gR_0_1 h0, Option.bind_some, gI_3_0 hp3, Option.bind_some, qI_uA, h1, if_pos (Int32.le_refl _)]
  | succ r ih =>
    intro k fu e g hk hfu h he
    obtain ⟨fu', rfl⟩ : ∃ f', fu = f' + 1 := ⟨fu - 1, by omega⟩
    have H := h
    obtain ⟨g1, g2, g3, g4⟩ := H
    have ne : ¬ (Int32.ofNat n ≤ Int32.ofNat k) := by
      rw [i_le (by omega) (by omega)]
      omega
    have ocs : oc s b f (k + 1) = oc s b f k + (if exv s b f k = 0 then 1 else 0) := rfl
    rw [fxX0_layRing_5, gR_0_1 h0, Option.bind_some, gI_3_0 hp3, Option.bind_some, qI_uA, h1, if_neg ne, gR_0_5 h0, Option.bind_some, aL_10 h7, Option.bind_some]
    by_cases c : e = 132
    · have le : Int32.ofNat 132 ≤ Int32.ofNat e := by
        rw [i_le (by omega) (by omega)]
        omega
      rw [if_pos le]
      refine ⟨e, g, rfl, h, ?_⟩
      have := sm_mono (fun x => if exv s b f x = 0 then 1 else 0) (show k ≤ n by omega)
      have y1 : oc s b f k = sm (fun x => if exv s b f x = 0 then 1 else 0) k := rfl
      have y2 : oc s b f n = sm (fun x => if exv s b f x = 0 then 1 else 0) n := rfl
      omega
    · have le : ¬ (Int32.ofNat 132 ≤ Int32.ofNat e) := by
        rw [i_le (by omega) (by omega)]
        omega
      rw [if_neg le, Option.bind_some, gR_3_1 hp3, Option.bind_some, aI_N d1 (show k < 24 by omega) (by decide), Option.bind_some, Option.bind_some, gR_3_2 hp3, Option.bind_some, aI_N d2 (show k < 24 by omega) (by decide), Option.bind_some, Option.bind_some, gR_3_3 hp3, Option.bind_some, aI_N d3 (show k < 24 by omega) (by decide), Option.bind_some, kO_0 h0, Option.bind_some, c_excess hb hf, Option.bind_some]
      dsimp only
      rw [qA_ne (show b + 5 ≠ b + 7 by omega), qA_ne (show b + 1 + 1 ≠ b + 7 by omega), qA_ne (show b + 1 + 2 ≠ b + 7 by omega), qA_ne (show b + 1 + 3 ≠ b + 7 by omega)]
      show ∃ e' g', (if exv s b f k = 0 then _ else _) = _ ∧ _
      by_cases z : exv s b f k = 0
      · rw [if_pos z, gR_0_5 h0, Option.bind_some, wI_N h7 (show e < 132 by omega) (by decide), Option.bind_some, uA_uA, qA_eq]
        unfold fxX0_layRing_81
        rw [i_s, i_s]
        refine ih (k + 1) fu' (e + 1) _ (by omega) (by omega) ⟨by omega, by omega, fun i hi => ?_, fun i hi hi' => ?_⟩ ?_
        · rw [u_ne (by omega)]
          exact g3 i hi
        · by_cases d : i = e
          · rw [d, u_eq]
            exact ⟨k, by omega, rfl⟩
          · rw [u_ne d]
            exact g4 i hi (by omega)
        · rw [ocs, if_pos z]
          omega
      · rw [if_neg z]
        unfold fxX0_layRing_81
        rw [i_s]
        refine ih (k + 1) fu' e g (by omega) (by omega) h ?_
        rw [ocs]
        omega
theorem c_lr110 {N b n f start e i : Nat} {s : cS} {g : Nat → Int32} {rec : Nat → Int32 → Int32 → Int32 → mh → Option (mh × Int32)} (hb : isB b) (hf : f < 44) (hn : n ≤ 24) (h : RG s b n start e g) (hi : start ≤ i) (hi2 : i + 2 < e) : ∀ (r j fu nx : Nat), j + r = e → r < fu → i + 1 ≤ nx → nx < e → i + 2 ≤ j → ∃ g', fxX0_layRing_110 N rec fu b (Int32.ofNat f) (Int32.ofNat e) (Int32.ofNat i) (Int32.ofNat nx) (Int32.ofNat j) (hC (uA s (b + 7) g)) = rec b (Int32.ofNat f) (Int32.ofNat e) (Int32.ofNat (i + 1)) (hC (uA s (b + 7) g')) ∧ RG s b n start e g' := by
  obtain ⟨h0, hp, h5, -, h7, -⟩ := isB_sh hb
  obtain ⟨g1, g2, g3, g4⟩ := h
  intro r
  induction r with
  | zero =>
    intro j fu nx hj hfu n1 n2 j2
    obtain ⟨fu', rfl⟩ : ∃ f', fu = f' + 1 := ⟨fu - 1, by omega⟩
    have e0 : j = e := by omega
    subst e0
    rw [fxX0_layRing_110, if_pos (Int32.le_refl _), gR_0_5 h0, Option.bind_some, i_s, aI_N h7 (show i + 1 < 132 by omega) (by decide), Option.bind_some, Option.bind_some, Option.bind_some, aI_N h7 (show nx < 132 by omega) (by decide), Option.bind_some, wI_N h7 (show i + 1 < 132 by omega) (by decide), Option.bind_some, uA_uA, qA_eq, gR_0_5 h0, Option.bind_some, wI_N h7 (show nx < 132 by omega) (by decide), Option.bind_some, uA_uA, qA_eq]
    refine ⟨_, rfl, g1, g2, fun x hx => ?_, fun x hx hx' => ?_⟩
    · rw [u_ne (by omega), u_ne (by omega)]
      exact g3 x hx
    · by_cases c : x = nx
      · rw [c, u_eq]
        exact g4 (i + 1) (by omega) (by omega)
      · rw [u_ne c]
        by_cases d : x = i + 1
        · rw [d, u_eq]
          exact g4 nx (by omega) n2
        · rw [u_ne d]
          exact g4 x hx hx'
  | succ r ih =>
    intro j fu nx hj hfu n1 n2 j2
    obtain ⟨fu', rfl⟩ : ∃ f', fu = f' + 1 := ⟨fu - 1, by omega⟩
    have ne : ¬ (Int32.ofNat e ≤ Int32.ofNat j) := by
      rw [i_le (by omega) (by omega)]
      omega
    obtain ⟨k1, l1, e1⟩ := g4 i hi (by omega)
    obtain ⟨k2, l2, e2⟩ := g4 nx (by omega) n2
    obtain ⟨k3, l3, e3⟩ := g4 j (by omega) (by omega)
    obtain ⟨v, q⟩ := c_facing (N := N) (s := uA s (b + 7) g) hb hf (show k1 < 24 by omega) (show k2 < 24 by omega) (show k3 < 24 by omega)
    rw [fxX0_layRing_110, if_neg ne, gR_0_5 h0, Option.bind_some, aI_N h7 (show i < 132 by omega) (by decide), Option.bind_some, Option.bind_some, aI_N h7 (show nx < 132 by omega) (by decide), Option.bind_some, Option.bind_some, aI_N h7 (show j < 132 by omega) (by decide), Option.bind_some, kO_0 h0, Option.bind_some, qA_eq, e1, e2, e3, q, Option.bind_some]
    dsimp only
    unfold fxX0_layRing_151
    rw [i_s]
    by_cases c : (0 : Int64) ≤ v
    · rw [if_pos c]
      exact ih (j + 1) fu' nx (by omega) (by omega) n1 n2 (by omega)
    · rw [if_neg c]
      exact ih (j + 1) fu' j (by omega) (by omega) (by omega) (by omega) (by omega)
theorem c_lr90 {N b n f start e : Nat} {s : cS} (hN : 600 < N) (hb : isB b) (hf : f < 44) (hn : n ≤ 24) : ∀ (r i fu : Nat) (g : Nat → Int32), e ≤ i + 2 + r → r < fu → start ≤ i → i ≤ 132 → RG s b n start e g → ∃ g', fxX0_layRing_90 N fu b (Int32.ofNat f) (Int32.ofNat e) (Int32.ofNat i) (hC (uA s (b + 7) g)) = some (hC (uA s (b + 7) g'), Int32.ofNat e) ∧ RG s b n start e g' := by
  intro r
  induction r with
  | zero =>
    intro i fu g hi hfu h1 h2 h
    obtain ⟨fu', rfl⟩ : ∃ f', fu = f' + 1 := ⟨fu - 1, by omega⟩
    have le : Int32.ofNat e ≤ Int32.ofNat (i + 2) := by
      have := h.2.1
      rw [i_le (by omega) (by omega)]
      omega
    rw [fxX0_layRing_90, i_a2, if_pos le]
    exact ⟨g, rfl, h⟩
  | succ r ih =>
    intro i fu g hi hfu h1 h2 h
    obtain ⟨fu', rfl⟩ : ∃ f', fu = f' + 1 := ⟨fu - 1, by omega⟩
    have e132 := h.2.1
    rw [fxX0_layRing_90, i_a2]
    by_cases c : e ≤ i + 2
    · have le : Int32.ofNat e ≤ Int32.ofNat (i + 2) := by
        rw [i_le (by omega) (by omega)]
        omega
      rw [if_pos le]
      exact ⟨g, rfl, h⟩
    · have le : ¬ (Int32.ofNat e ≤ Int32.ofNat (i + 2)) := by
        rw [i_le (by omega) (by omega)]
        omega
      rw [if_neg le, i_s]
      obtain ⟨g', q, h'⟩ := c_lr110 (N := N) (rec := fxX0_layRing_90 N fu') hb hf hn h h1 (by omega) (e - (i + 2)) (i + 2) N (i + 1) (by omega) (by omega) (by omega) (by omega) (by omega)
      rw [q]
      exact ih (i + 1) fu' g' (by omega) (by omega) (by omega) (by omega) h'
/-- layRing -/
theorem c_layRing {N b n f start : Nat} {s : cS} (hN : 600 < N) (hb : isB b) (hf : f < 44) (hn : n ≤ 24) (h1 : qI s (b + 1) 0 = Int32.ofNat n) (hs : start ≤ 132) : ∃ e g, fxX0_layRing N b (Int32.ofNat f) (Int32.ofNat start) (hC s) = some (hC (uA s (b + 7) g), Int32.ofNat e) ∧ RG s b n start e g ∧ e ≤ start + oc s b f n := by
  obtain ⟨e, g, q, h, le⟩ := c_lr5 (N := N) (f := f) (start := start) hb hf hn h1 n 0 N start (qA s (b + 7)) (by omega) (by omega) ⟨by omega, hs, fun _ _ => rfl, fun i a b => absurd b (by omega)⟩ (by omega)
  rw [uA_self] at q
  obtain ⟨g', q', h'⟩ := c_lr90 (N := N) hN hb hf hn e start N g (by omega) (by have := h.2.1; omega) (by omega) hs h
  refine ⟨e, g', ?_, h', le⟩
  unfold fxX0_layRing
  exact q.trans q'
/-- the rings: where each begins, and that they hold points' numbers -/
def RGS (s0 s : cS) (b n F : Nat) (R : Nat → Nat) : Prop := cf (fun i => i = b + 6 ∨ i = b + 7) s0 s ∧ R 0 = 0 ∧ (∀ f, f < F → R f ≤ R (f + 1) ∧ R (f + 1) ≤ R f + oc s0 b f n) ∧ (∀ f, f ≤ F → R f ≤ 132) ∧ (∀ f, f < F → qA s (b + 6) f = Int32.ofNat (R f)) ∧ ∀ i, i < R F → ∃ k, k < n ∧ qA s (b + 7) i = Int32.ofNat k
theorem c_lrs4 {N b n F : Nat} {s0 : cS} (hN : 600 < N) (hb : isB b) (hF : F ≤ 44) (hn : n ≤ 24) (h1 : qI s0 (b + 1) 0 = Int32.ofNat n) (h2 : qI s0 b 2 = Int32.ofNat F) : ∀ (r f fu : Nat) (s : cS) (R : Nat → Nat), f + r = F → r < fu → RGS s0 s b n f R → ∃ s' R', fxX0_layRings_4 N fu b (Int32.ofNat (R f)) (Int32.ofNat f) (hC s) = some (hC s') ∧ RGS s0 s' b n F R' ∧ qA s' (b + 6) F = Int32.ofNat (R' F) := by
  obtain ⟨h0, hp, h5, h6, h7, -⟩ := isB_sh hb
  intro r
  induction r with
  | zero =>
    intro f fu s R hf hfu h
    obtain ⟨fu', rfl⟩ : ∃ f', fu = f' + 1 := ⟨fu - 1, by omega⟩
    have e0 : f = F := by omega
    subst e0
    obtain ⟨c, g1, g2, g3, g4, g5⟩ := h
    have e2 : qI s b 2 = Int32.ofNat f := by
      rw [c.I (fun w => by omega)]
      exact h2
    rw [fxX0_layRings_4, gI_0_2 h0, Option.bind_some, e2, if_pos (Int32.le_refl _), gR_0_4 h0, Option.bind_some, Option.bind_some, wI_N h6 (show f < 45 by omega) (by decide), Option.bind_some]
    refine ⟨_, R, rfl, ⟨c.tr (cf_uA _ (.inl rfl)), g1, g2, g3, fun f' hf' => ?_, fun i hi => ?_⟩, ?_⟩
    · rw [qA_eq, u_ne (by omega)]
      exact g4 f' hf'
    · rw [qA_ne (by omega)]
      exact g5 i hi
    · rw [qA_eq, u_eq]
  | succ r ih =>
    intro f fu s R hf hfu h
    obtain ⟨fu', rfl⟩ : ∃ f', fu = f' + 1 := ⟨fu - 1, by omega⟩
    obtain ⟨c, g1, g2, g3, g4, g5⟩ := h
    have e2 : qI s b 2 = Int32.ofNat F := by
      rw [c.I (fun w => by omega)]
      exact h2
    have ne : ¬ (Int32.ofNat F ≤ Int32.ofNat f) := by
      rw [i_le (by omega) (by omega)]
      omega
    have c1 : cf (fun i => i = b + 6 ∨ i = b + 7) s0 (uA s (b + 6) (upd (qA s (b + 6)) f (Int32.ofNat (R f)))) := c.tr (cf_uA _ (.inl rfl))
    obtain ⟨e, g, q, rg, le⟩ := c_layRing (N := N) (f := f) (start := R f) (s := uA s (b + 6) (upd (qA s (b + 6)) f (Int32.ofNat (R f)))) hN hb (by omega) hn (by rw [c1.I (fun w => by omega)]; exact h1) (g3 f (by omega))
    rw [oc_cf c1 (fun i a b w => by omega)] at le
    rw [fxX0_layRings_4, gI_0_2 h0, Option.bind_some, e2, if_neg ne, gR_0_4 h0, Option.bind_some, wI_N h6 (show f < 45 by omega) (by decide), Option.bind_some, kO_0 h0, Option.bind_some, q, Option.bind_some]
    dsimp only
    rw [i_s]
    have Re : ∀ x, x ≠ f + 1 → (fun x => if x = f + 1 then e else R x) x = R x := fun x hx => if_neg hx
    have Rf : (fun x => if x = f + 1 then e else R x) (f + 1) = e := if_pos rfl
    have := ih (f + 1) fu' (uA (uA s (b + 6) (upd (qA s (b + 6)) f (Int32.ofNat (R f)))) (b + 7) g) (fun x => if x = f + 1 then e else R x) (by omega) (by omega) ⟨c1.tr (cf_uA _ (.inr rfl)), by rw [Re 0 (by omega)]; exact g1, fun x hx => ?_, fun x hx => ?_, fun x hx => ?_, fun i hi => ?_⟩
    · rw [show (if f + 1 = f + 1 then e else R (f + 1)) = e from if_pos rfl] at this
      exact this
    · by_cases d : x = f
      · rw [d, Rf, Re f (by omega)]
        exact ⟨rg.1, le⟩
      · rw [Re x (by omega), Re (x + 1) (by omega)]
        exact g2 x (by omega)
    · by_cases d : x = f + 1
      · rw [d, Rf]
        exact rg.2.1
      · rw [Re x d]
        exact g3 x (by omega)
    · rw [qA_ne (by omega), qA_eq, Re x (by omega)]
      by_cases d : x = f
      · rw [d, u_eq]
      · rw [u_ne d]
        exact g4 x (by omega)
    · rw [Rf] at hi
      rw [qA_eq]
      by_cases d : i < R f
      · rw [rg.2.2.1 i d, qA_ne (by omega)]
        exact g5 i d
      · exact rg.2.2.2 i (by omega) hi
/-- layRings -/
theorem c_layRings {N b n F : Nat} {s : cS} (hN : 600 < N) (hb : isB b) (hF : F ≤ 44) (hn : n ≤ 24) (h1 : qI s (b + 1) 0 = Int32.ofNat n) (h2 : qI s b 2 = Int32.ofNat F) : ∃ s' R, fxX0_layRings N b (hC s) = some (hC s') ∧ RGS s s' b n F R ∧ qA s' (b + 6) F = Int32.ofNat (R F) := by
  have := c_lrs4 (N := N) hN hb hF hn h1 h2 F 0 N s (fun _ => 0) (by omega) (by omega) ⟨cf.rf, rfl, fun f hf => absurd hf (by omega), fun f hf => Nat.zero_le _, fun f hf => absurd hf (by omega), fun i hi => absurd hi (Nat.not_lt_zero i)⟩
  unfold fxX0_layRings
  exact this
