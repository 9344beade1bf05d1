theorem x06 : (shp 0).1 = 6 := rfl
theorem r1 : shp 1 = (13, 8) := rfl
theorem r2 : shp 2 = (12, 8) := rfl
theorem r3 : shp 3 = (14, 8) := rfl
theorem r4 : shp 4 = (14, 8) := rfl
theorem r5 : shp 5 = (10, 8) := rfl
theorem aR3 {s : cS} {j x : Nat} (hj : j < 8) (h : qR s 3 j = some x) : aR (hC s) (0 + 3) (Int32.ofNat j) = some x := by
  show aR (hC s) 3 (Int32.ofNat j) = some x
  rw [aR_14 r3 (i_nb hj (by decide)), i_tn (by omega)]
  exact h
theorem aR4 {s : cS} {j x : Nat} (hj : j < 8) (h : qR s 4 j = some x) : aR (hC s) (0 + 4) (Int32.ofNat j) = some x := by
  show aR (hC s) 4 (Int32.ofNat j) = some x
  rw [aR_14 r4 (i_nb hj (by decide)), i_tn (by omega)]
  exact h
theorem aR1 {s : cS} {j x : Nat} (hj : j < 8) (h : qR s 1 j = some x) : aR (hC s) (0 + 1) (Int32.ofNat j) = some x := by
  show aR (hC s) 1 (Int32.ofNat j) = some x
  rw [aR_13 r1 (i_nb hj (by decide)), i_tn (by omega)]
  exact h
def upR (f : Nat → Option Nat) (k : Nat) (x : Option Nat) : Nat → Option Nat := fun j => if j = k then x else f j
theorem wR3 {s : cS} {j v : Nat} (hj : j < 8) (hv : isB v) : wR (hC s) (0 + 3) (Int32.ofNat j) v = some (hC (uR s 3 (upR (qR s 3) j (some v)))) := by
  show wR (hC s) 3 (Int32.ofNat j) v = _
  rw [wR_14 r3 (isB_sh hv).1 (i_nb hj (by decide)), i_tn (by omega)]
  rfl
theorem wR4 {s : cS} {j v : Nat} (hj : j < 8) (hv : isB v) : wR (hC s) (0 + 4) (Int32.ofNat j) v = some (hC (uR s 4 (upR (qR s 4) j (some v)))) := by
  show wR (hC s) 4 (Int32.ofNat j) v = _
  rw [wR_14 r4 (isB_sh hv).1 (i_nb hj (by decide)), i_tn (by omega)]
  rfl
/-- bodies' places don't overlap -/
theorem isB_dis {b c : Nat} (hb : isB b) (hc : isB c) (ne : b ≠ c) : b + 9 < c ∨ c + 9 < b := by
  rcases hb with hb | ⟨i, hi, hb⟩ | ⟨i, hi, hb⟩ <;> rcases hc with hc | ⟨j, hj, hc⟩ | ⟨j, hj, hc⟩ <;> omega
/-- a body is nowhere in a tray's cells -/
theorem isB_tr {b i j : Nat} (hb : isB b) (h1 : b ≤ i) (h2 : i ≤ b + 9) (hj : j < 8) : ¬ (47 + 14 * j ≤ i ∧ i ≤ 50 + 14 * j) := by
  rcases hb with hb | ⟨k, hk, hb⟩ | ⟨k, hk, hb⟩ <;> omega
/-- the trays are as they were -/
def TF (s s' : cS) : Prop := qA s' 2 = qA s 2 ∧ ∀ i, (∃ j, j < 8 ∧ 47 + 14 * j ≤ i ∧ i ≤ 50 + 14 * j) → qI s' i = qI s i ∧ qA s' i = qA s i
theorem TF_rf {s : cS} : TF s s := ⟨rfl, fun _ _ => ⟨rfl, rfl⟩⟩
theorem TF_tr {a b c : cS} (h : TF a b) (g : TF b c) : TF a c := ⟨g.1.trans h.1, fun i hi => ⟨(g.2 i hi).1.trans (h.2 i hi).1, (g.2 i hi).2.trans (h.2 i hi).2⟩⟩
/-- cells that no call but tray, point and the changes touches -/
def fre (i : Nat) : Prop := (16 ≤ i ∧ i ≤ 19) ∨ (24 ≤ i ∧ i ≤ 46 ∧ i ≠ 39)
theorem TF_cf {L : Nat → Prop} {s s' : cS} (c : cf L s s') (h2 : ¬ L 2) (hL : ∀ i, L i → ∀ j, j < 8 → ¬ (47 + 14 * j ≤ i ∧ i ≤ 50 + 14 * j)) : TF s s' := ⟨c.A h2, fun i ⟨j, hj, a, b⟩ => ⟨c.I (fun w => hL i w j hj ⟨a, b⟩), c.A (fun w => hL i w j hj ⟨a, b⟩)⟩⟩
/-- a tray's row of points -/
def trP (s : cS) (j : Nat) : Prop := ∃ n, n ≤ 24 ∧ qI s (47 + 14 * j) 0 = Int32.ofNat n ∧ ∀ i, i < n → bd3 (pc s (47 + 14 * j) i) 100
theorem trP_TF {s s' : cS} (h : TF s s') {j : Nat} (hj : j < 8) (t : trP s j) : trP s' j := by
  obtain ⟨n, h1, h2, h3⟩ := t
  refine ⟨n, h1, ?_, fun i hi => ?_⟩
  · rw [(h.2 (47 + 14 * j) ⟨j, hj, by omega, by omega⟩).1]
    exact h2
  · unfold pc
    rw [(h.2 (47 + 14 * j + 1) ⟨j, hj, by omega, by omega⟩).2, (h.2 (47 + 14 * j + 2) ⟨j, hj, by omega, by omega⟩).2, (h.2 (47 + 14 * j + 3) ⟨j, hj, by omega, by omega⟩).2]
    exact h3 i hi
/-- where the bodies are: the fresh one, the solids', the earlier ones' -/
def BP (s : cS) (bo : Nat → Nat) : Prop := bo 0 = qF s ∧ (∀ j, j < 8 → qR s 3 j = some (bo (1 + j))) ∧ (∀ i, i < 8 → qR s 4 i = some (bo (9 + i))) ∧ (∀ k, k < 17 → isB (bo k)) ∧ ∀ k k', k < 17 → k' < 17 → bo k = bo k' → k = k'
/-- what else holds between calls -/
def CR (s : cS) : Prop := (∀ j, j < 8 → qR s 1 j = some (47 + 14 * j) ∧ trP s j) ∧ (∃ c, c ≤ 8 ∧ qI s 0 5 = Int32.ofNat c ∧ ∀ i, i < c → ∃ x, x < 8 ∧ qA s 5 i = Int32.ofNat x) ∧ (qI s 20 0 = 1 ∧ pc s 20 0 = v0) ∧ ∀ j, j < 625 → qA s 39 j = 0
/-- the class's state is well -/
def CI (s : cS) (bo : Nat → Nat) : Prop := BP s bo ∧ (∀ k, k < 17 → BO s (bo k)) ∧ CR s
theorem CI_cf {L : Nat → Prop} {s s' : cS} {bo : Nat → Nat} (h : CI s bo) (c : cf L s s') (hL : ∀ i, L i → fre i) : CI s' bo ∧ TF s s' := by
  obtain ⟨⟨b1, b2, b3, b4, b5⟩, h2, h3, ⟨n, h4, h5, h6⟩, ⟨h7, h8⟩, h9⟩ := h
  have no : ∀ i, i < 16 ∧ i ≠ 15 ∨ (20 ≤ i ∧ i < 24) ∨ i = 39 → ¬ L i := fun i hi w => by
    rcases hL i w with z | z <;> omega
  have tf : TF s s' := TF_cf c (no 2 (by omega)) (fun i w j hj z => by
    rcases hL i w with y | y <;> omega)
  refine ⟨⟨⟨by rw [c.F]; exact b1, fun j hj => by rw [c.R (no 3 (by omega))]; exact b2 j hj, fun j hj => by rw [c.R (no 4 (by omega))]; exact b3 j hj, b4, b5⟩, fun k hk => ?_, fun j hj => ⟨by rw [c.R (no 1 (by omega))]; exact (h3 j hj).1, trP_TF tf hj (h3 j hj).2⟩, ⟨n, h4, by rw [c.I (no 0 (by omega))]; exact h5, fun i hi => by rw [c.A (no 5 (by omega))]; exact h6 i hi⟩, ⟨by rw [c.I (no 20 (by omega))]; exact h7, by rw [pc_cf c (fun i a b => no i (by omega))]; exact h8⟩, fun j hj => by rw [c.A (no 39 (by omega))]; exact h9 j hj⟩, tf⟩
  refine BO_cf (h2 k hk) c (fun i a b w => ?_)
  have kb := b4 k hk
  rcases hL i w with z | z
  · rcases kb with kb | ⟨j, _, kb⟩ | ⟨j, _, kb⟩ <;> omega
  · rcases kb with kb | ⟨j, _, kb⟩ | ⟨j, _, kb⟩ <;> omega
/-- after the fresh body was built -/
theorem CI_build {s s' : cS} {bo : Nat → Nat} (h : CI s bo) (c : cf (fun i => rg (bo 0) (bo 0 + 9) i ∨ rg 28 40 i) s s') (mk : ∀ j, j < 625 → qA s' 39 j = 0) (bn : BO s' (bo 0)) : CI s' bo ∧ TF s s' := by
  obtain ⟨⟨b1, b2, b3, b4, b5⟩, h2, h3, ⟨n, h4, h5, h6⟩, ⟨h7, h8⟩, h9⟩ := h
  have b0 := b4 0 (by omega)
  have no : ∀ i, i < 6 ∨ (20 ≤ i ∧ i < 24) → ¬ (rg (bo 0) (bo 0 + 9) i ∨ rg 28 40 i) := fun i hi w => by
    rcases w with z | z
    · have := z.1
      have := z.2
      rcases b0 with y | ⟨j, _, y⟩ | ⟨j, _, y⟩ <;> omega
    · have := z.1
      have := z.2
      omega
  have tf : TF s s' := TF_cf c (no 2 (by omega)) (fun i w j hj z => by
    rcases w with y | y
    · exact isB_tr b0 y.1 y.2 hj z
    · have := y.1
      have := y.2
      omega)
  refine ⟨⟨⟨by rw [c.F]; exact b1, fun j hj => by rw [c.R (no 3 (by omega))]; exact b2 j hj, fun j hj => by rw [c.R (no 4 (by omega))]; exact b3 j hj, b4, b5⟩, fun k hk => ?_, fun j hj => ⟨by rw [c.R (no 1 (by omega))]; exact (h3 j hj).1, trP_TF tf hj (h3 j hj).2⟩, ⟨n, h4, by rw [c.I (no 0 (by omega))]; exact h5, fun i hi => by rw [c.A (no 5 (by omega))]; exact h6 i hi⟩, ⟨by rw [c.I (no 20 (by omega))]; exact h7, by rw [pc_cf c (fun i a b => no i (by omega))]; exact h8⟩, mk⟩, tf⟩
  by_cases k0 : k = 0
  · rw [k0]
    exact bn
  · refine BO_cf (h2 k hk) c (fun i a b w => ?_)
    have kb := b4 k hk
    have ne : bo 0 ≠ bo k := fun e => k0 (b5 0 k (by omega) hk e).symm
    rcases w with z | z
    · have := z.1
      have := z.2
      rcases isB_dis b0 kb ne with y | y <;> omega
    · have := z.1
      have := z.2
      rcases kb with kb | ⟨j, _, kb⟩ | ⟨j, _, kb⟩ <;> omega
/-- BO asks only for ints, rows of ints and the slit's numbers -/
theorem BO_IA {s s' : cS} {b : Nat} (h : BO s b) (e : ∀ i, b ≤ i → i ≤ b + 9 → qI s' i = qI s i ∧ qA s' i = qA s i) (ej : qJ s' = qJ s) : BO s' b := by
  have c : cf (fun i => ¬ (b ≤ i ∧ i ≤ b + 9)) s (s'.1, s'.2.1, s'.2.2.1, s.2.2.2.1, s.2.2.2.2) := ⟨fun i hi => by
    have hi' : b ≤ i ∧ i ≤ b + 9 := Classical.byContradiction hi
    exact ⟨(e i hi'.1 hi'.2).1, congrFun ej i, (e i hi'.1 hi'.2).2, rfl⟩, rfl⟩
  have := BO_cf h c (fun i a b w => w ⟨a, b⟩)
  obtain ⟨kd, n, F, E, R, h1⟩ := this
  exact ⟨kd, n, F, E, R, h1⟩
/-- the bodies while the earlier ones move one place down -/
theorem c_fo9 {N : Nat} {s0 : cS} {bo : Nat → Nat} (ci : CI s0 bo) (h5 : qI s0 0 5 = Int32.ofNat 8) : ∀ (r i fu : Nat) (s : cS), i + r = 8 → r < fu → 1 ≤ i → qI s = qI s0 → qJ s = qJ s0 → (∀ a, a ≠ 5 → qA s a = qA s0 a) → (∀ a, a ≠ 4 → qR s a = qR s0 a) → qF s = qF s0 → (∀ x, x < 8 → ∃ y, y < 8 ∧ qA s 5 x = Int32.ofNat y) → (∀ x, x + 1 < i → qA s 5 x = qA s0 5 (x + 1)) → (∀ x, i ≤ x + 1 → qA s 5 x = qA s0 5 x) → (∀ x, x + 1 < i → qR s 4 x = some (bo (9 + x + 1))) → (∀ x, i ≤ x → x < 8 → qR s 4 x = some (bo (9 + x))) → OK (fun h => ∃ s', h = hC s' ∧ qI s' = qI (uI s0 0 5 (Int32.ofNat 7)) ∧ (∀ a, a ≠ 5 → qA s' a = qA s0 a) ∧ (∀ a, a ≠ 4 → qR s' a = qR s0 a) ∧ qF s' = qF s0 ∧ (∀ x, x < 8 → ∃ y, y < 8 ∧ qA s' 5 x = Int32.ofNat y) ∧ (∀ x, x < 7 → qA s' 5 x = qA s0 5 (x + 1)) ∧ (∀ x, x < 7 → qR s' 4 x = some (bo (9 + x + 1))) ∧ qR s' 4 7 = some (bo 9) ∧ qJ s' = qJ s0) (fxX6_forgetOldest_9 N fu 0 (bo 9) (Int32.ofNat i) (hC s)) := by
  intro r
  induction r with
  | zero =>
    intro i fu s hi hfu h1 e1 e2 e3 e4 e5 e6 e61 e62 e7 e8
    obtain ⟨fu', rfl⟩ : ∃ f', fu = f' + 1 := ⟨fu - 1, by omega⟩
    have e : i = 8 := by omega
    subst e
    rw [fxX6_forgetOldest_9]
    refine OK_p (by decide) (OK_b (sI_6_5 x06) (OK_b (gR_6_3 x06) (OK_b (gI_6_5 x06) ?_)))
    rw [qI_uI, if_pos ⟨rfl, rfl⟩]
    refine OK_b (wR4 (j := 7) (by omega) (ci.1.2.2.2.1 9 (by omega))) (OK_s ⟨_, rfl, ?_, fun a ha => e3 a ha, fun a ha => ?_, e5, e6, fun x hx => e61 x (by omega), fun x hx => ?_, ?_, e2⟩)
    · rw [qI_uR]
      funext p k
      rw [qI_uI, qI_uI, e1]
      rfl
    · rw [qR_uR, if_neg ha]
      exact e4 a ha
    · rw [qR_uR, if_pos rfl]
      show (if x = 7 then some (bo 9) else qR s 4 x) = _
      rw [if_neg (by omega)]
      exact e7 x (by omega)
    · rw [qR_uR, if_pos rfl]
      show (if 7 = 7 then some (bo 9) else qR s 4 7) = _
      rw [if_pos rfl]
  | succ r ih =>
    intro i fu s hi hfu h1 e1 e2 e3 e4 e5 e6 e61 e62 e7 e8
    obtain ⟨fu', rfl⟩ : ∃ f', fu = f' + 1 := ⟨fu - 1, by omega⟩
    obtain ⟨k, rfl⟩ : ∃ k, i = k + 1 := ⟨i - 1, by omega⟩
    have n8 : ¬ ((8 : Int32) ≤ Int32.ofNat (k + 1)) := by
      have := i_le (a := 8) (b := k + 1) (by omega) (by omega)
      show ¬ (Int32.ofNat 8 ≤ Int32.ofNat (k + 1))
      rw [this]
      omega
    obtain ⟨y, ly, ey⟩ := e6 (k + 1) (by omega)
    rw [fxX6_forgetOldest_9, i_m1, i_s]
    refine OK_n n8 (OK_b (gR_6_3 x06) (OK_b (gR_6_3 x06) (OK_b (aR4 (by omega) (e8 (k + 1) (by omega) (by omega))) (OK_b (wR4 (j := k) (by omega) (ci.1.2.2.2.1 _ (by omega))) (OK_b (gR_6_4 x06) (OK_b (gR_6_4 x06) (OK_b (aI_N (k := k + 1) r5 (by omega) (by decide)) (OK_b (wI_N (k := k) r5 (by omega) (by decide)) ?_))))))))
    refine ih (k + 2) fu' _ (by omega) (by omega) (by omega) ?_ ?_ (fun a ha => ?_) (fun a ha => ?_) ?_ (fun x hx => ?_) (fun x hx => ?_) (fun x hx => ?_) (fun x hx => ?_) (fun x hx hx' => ?_)
    · rw [qI_uA, qI_uR]
      exact e1
    · rw [qJ_uA, qJ_uR]
      exact e2
    · rw [qA_ne ha]
      exact e3 a ha
    · rw [qR_uA, qR_uR, if_neg ha]
      exact e4 a ha
    · exact e5
    · show ∃ y, y < 8 ∧ qA (uA (uR s 4 _) 5 _) 5 x = Int32.ofNat y
      rw [qA_eq]
      by_cases c : x = k
      · rw [c, u_eq]
        exact ⟨y, ly, ey⟩
      · rw [u_ne c]
        exact e6 x hx
    · show qA (uA (uR s 4 _) 5 _) 5 x = _
      rw [qA_eq]
      by_cases c : x = k
      · rw [c, u_eq]
        exact e62 (k + 1) (by omega)
      · rw [u_ne c]
        exact e61 x (by omega)
    · show qA (uA (uR s 4 _) 5 _) 5 x = _
      rw [qA_eq, u_ne (by omega)]
      exact e62 x (by omega)
    · rw [qR_uA, qR_uR, if_pos rfl]
      show (if x = k then some (bo (9 + (k + 1))) else qR s 4 x) = _
      by_cases c : x = k
      · rw [if_pos c, c]
        rfl
      · rw [if_neg c]
        exact e7 x (by omega)
    · rw [qR_uA, qR_uR, if_pos rfl]
      show (if x = k then some (bo (9 + (k + 1))) else qR s 4 x) = _
      rw [if_neg (by omega)]
      exact e8 x (by omega) hx'
