/-- it comes back, and Q holds of what it brings -/
def Hd {α : Type} (o : Option α) (Q : α → Prop) : Prop := ∃ v, o = some v ∧ Q v
theorem Hd.ret {α : Type} {v : α} {Q : α → Prop} (h : Q v) : Hd (some v) Q := ⟨v, rfl, h⟩
theorem Hd.bnd {α β : Type} {o : Option α} {f : α → Option β} {Q : α → Prop} {R : β → Prop} (h : Hd o Q) (k : ∀ v, Q v → Hd (f v) R) : Hd (o.bind f) R := by
  obtain ⟨v, e, q⟩ := h
  rw [e]
  exact k v q
theorem Hd.mo {α : Type} {o : Option α} {Q R : α → Prop} (h : Hd o Q) (k : ∀ v, Q v → R v) : Hd o R := by
  obtain ⟨v, e, q⟩ := h
  exact ⟨v, e, k v q⟩
theorem Hd.eq {α : Type} {o o' : Option α} {Q : α → Prop} (e : o = o') (h : Hd o' Q) : Hd o Q := by
  rw [e]
  exact h
/-- only fields of L have changed -/
def fr (L : List Nat) (s s' : mS) : Prop := ∀ k, ¬ k ∈ L → s'.1 k = s.1 k ∧ s'.2.1 k = s.2.1 k ∧ s'.2.2.1 k = s.2.2.1 k ∧ s'.2.2.2 k = s.2.2.2 k
theorem fr.rf {L : List Nat} {s : mS} : fr L s s := fun _ _ => ⟨rfl, rfl, rfl, rfl⟩
theorem fr.tr {L : List Nat} {a b c : mS} (h : fr L a b) (g : fr L b c) : fr L a c := fun k hk => ⟨(g k hk).1.trans (h k hk).1, (g k hk).2.1.trans (h k hk).2.1, (g k hk).2.2.1.trans (h k hk).2.2.1, (g k hk).2.2.2.trans (h k hk).2.2.2⟩
theorem fr.mo {L M : List Nat} {s s' : mS} (h : fr L s s') (hs : ∀ k, k ∈ L → k ∈ M) : fr M s s' := fun k hk => h k (fun q => hk (hs k q))
theorem fr.I {L : List Nat} {s s' : mS} (h : fr L s s') {k : Nat} (hk : ¬ k ∈ L) : s'.1 k = s.1 k := (h k hk).1
theorem fr.J {L : List Nat} {s s' : mS} (h : fr L s s') {k : Nat} (hk : ¬ k ∈ L) : s'.2.1 k = s.2.1 k := (h k hk).2.1
theorem fr.A {L : List Nat} {s s' : mS} (h : fr L s s') {k : Nat} (hk : ¬ k ∈ L) : s'.2.2.1 k = s.2.2.1 k := (h k hk).2.2.1
theorem fr.G {L : List Nat} {s s' : mS} (h : fr L s s') {k : Nat} (hk : ¬ k ∈ L) : s'.2.2.2 k = s.2.2.2 k := (h k hk).2.2.2
theorem fr_pI (s : mS) (k : Nat) (v : Int32) : fr [k] s (pI s k v) := fun i hi => ⟨if_neg (fun e => hi (by rw [e]; exact List.mem_singleton.mpr rfl)), rfl, rfl, rfl⟩
theorem fr_pJ (s : mS) (k : Nat) (v : Int64) : fr [k] s (pJ s k v) := fun i hi => ⟨rfl, if_neg (fun e => hi (by rw [e]; exact List.mem_singleton.mpr rfl)), rfl, rfl⟩
theorem fr_sA (s : mS) (k j : Nat) (v : Int32) : fr [k] s (sA s k j v) := fun i hi => ⟨rfl, rfl, if_neg (fun e => hi (by rw [e]; exact List.mem_singleton.mpr rfl)), rfl⟩
theorem fr_sG (s : mS) (k j : Nat) (v : Int64) : fr [k] s (sG s k j v) := fun i hi => ⟨rfl, rfl, rfl, if_neg (fun e => hi (by rw [e]; exact List.mem_singleton.mpr rfl))⟩
theorem smN_fr {s s' : mS} (h : smN s s') : fr [24, 25, 26] s s' := fun k hk => ⟨by rw [h.1], h.2.2 k (fun e => hk (by simp [e])) (fun e => hk (by simp [e])) (fun e => hk (by simp [e])), by rw [h.2.1], by rw [h.2.1]⟩
theorem smH_fr {s s' : mS} (h : smH s s') : fr [15, 16, 17, 18] s s' := fun k hk => ⟨h.1 k (fun e => hk (by simp [e])), by rw [h.2.1], by rw [h.2.2.1], h.2.2.2 k (fun e => hk (by simp [e])) (fun e => hk (by simp [e])) (fun e => hk (by simp [e]))⟩
theorem smL_fr {s s' : mS} (h : smL s s') : fr [20, 21] s s' := fun k hk => ⟨h.1 k (fun e => hk (by simp [e])), by rw [h.2.1], h.2.2.1 k (fun e => hk (by simp [e])), by rw [h.2.2.2]⟩
theorem smR_fr {s s' : mS} (h : smR s s') : fr [22, 23] s s' := fun k hk => ⟨h.1 k (fun e => hk (by simp [e])), by rw [h.2.1], h.2.2.1 k (fun e => hk (by simp [e])), by rw [h.2.2.2]⟩
theorem smP_fr {g : Nat} {s s' : mS} (h : smP g s s') : fr [19, 20, 21, 22, 23, 24, 25, 26, 27, 28, 29, 30, 31, 32, 33] s s' := fun k hk => ⟨h.1 k (fun e => hk (by simp [e])) (fun e => hk (by simp [e])), h.2.1 k (fun e => hk (by simp [e])) (fun e => hk (by simp [e])) (fun e => hk (by simp [e])), h.2.2.1 k (fun e => hk (by simp [e])) (fun e => hk (by simp [e])) (fun e => hk (by simp [e])) (fun e => hk (by simp [e])) (fun e => hk (by simp [e])) (fun e => hk (by simp [e])), h.2.2.2.1 k (fun e => hk (by simp [e])) (fun e => hk (by simp [e])) (fun e => hk (by simp [e])) (fun e => hk (by simp [e]))⟩
/-- what a call that changes nothing leaves as it was: trays, SOLIDS, what was -/
def fi (s s' : mS) : Prop := s'.1 9 = s.1 9 ∧ ∀ k, k < 15 → s'.2.2.1 k = s.2.2.1 k
theorem fi.rf {s : mS} : fi s s := ⟨rfl, fun _ _ => rfl⟩
theorem fi.tr {a b c : mS} (h : fi a b) (g : fi b c) : fi a c := ⟨g.1.trans h.1, fun k hk => (g.2 k hk).trans (h.2 k hk)⟩
theorem fr.fi {L : List Nat} {s s' : mS} (h : fr L s s') (hL : ∀ k, k ∈ L → 15 ≤ k) : fi s s' := ⟨h.I (fun q => absurd (hL 9 q) (by omega)), fun k hk => h.A (fun q => absurd (hL k q) (by omega))⟩
/-- KINDS by points that are all farthest along some way -/
def kdP (P : Nat → V3) (m k : Nat) : Prop := (m < 3 ∧ k = m) ∨ (3 ≤ m ∧ k = 3 ∧ ∃ v d, (∃ x, vd v x = 1) ∧ ∀ i, i < m → vd v (P i) = d) ∨ (3 ≤ m ∧ k = 4 ∧ full P m)
/-- the CORNERS of a SOLID, and its KIND -/
def okP (P : Nat → V3) (m k : Nat) : Prop := m ≤ 24 ∧ (∀ j, j < m → bd3 (P j) 100) ∧ inOrd wO P m ∧ (∀ j, j < m → ex P m j) ∧ kdP P m k
def cP3 (X Y Z : Nat → Int32) (o j : Nat) : V3 := ((X (o + j)).toInt, (Y (o + j)).toInt, (Z (o + j)).toInt)
def slt (M K X Y Z : Nat → Int32) (i : Nat) : Prop := ∃ m k, M i = Int32.ofNat m ∧ K i = Int32.ofNat k ∧ okP (cP3 X Y Z (24 * i)) m k
/-- CORNER j of SOLID i -/
def cP (s : mS) (i : Nat) : Nat → V3 := cP3 (s.2.2.1 6) (s.2.2.1 7) (s.2.2.1 8) (24 * i)
/-- what the reference keeps between calls -/
def INV (s : mS) : Prop := ∃ c, c ≤ 8 ∧ s.1 9 = Int32.ofNat c ∧ (∀ i, i < 8 → slt (s.2.2.1 4) (s.2.2.1 5) (s.2.2.1 6) (s.2.2.1 7) (s.2.2.1 8) i) ∧ (∀ h, h < c → ∀ i, i < 8 → slt (fun t => s.2.2.1 10 (8 * h + t)) (fun t => s.2.2.1 11 (8 * h + t)) (fun t => s.2.2.1 12 (192 * h + t)) (fun t => s.2.2.1 13 (192 * h + t)) (fun t => s.2.2.1 14 (192 * h + t)) i) ∧ ∀ t, t < 8 → (s.2.2.1 0 t = -1 ∨ ∃ n, n ≤ 24 ∧ s.2.2.1 0 t = Int32.ofNat n) ∧ ∀ k, k < 24 → bd3 (cP3 (s.2.2.1 1) (s.2.2.1 2) (s.2.2.1 3) (24 * t) k) 100
theorem INV_fi {s s' : mS} (h : INV s) (f : fi s s') : INV s' := by
  obtain ⟨c, h1, h2, h3, h4, h5⟩ := h
  have e : ∀ k, k < 15 → s'.2.2.1 k = s.2.2.1 k := f.2
  refine ⟨c, h1, by rw [f.1, h2], ?_, ?_, ?_⟩
  · rw [e 4 (by omega), e 5 (by omega), e 6 (by omega), e 7 (by omega), e 8 (by omega)]
    exact h3
  · rw [e 10 (by omega), e 11 (by omega), e 12 (by omega), e 13 (by omega), e 14 (by omega)]
    exact h4
  · rw [e 0 (by omega), e 1 (by omega), e 2 (by omega), e 3 (by omega)]
    exact h5
/-- the heap holds the first j of P's points, in order, each once -/
def hpS (h : mS) (n j : Nat) (P : Nat → V3) : Prop := hpO h n ∧ n ≤ j ∧ (∀ t, t < n → ∃ a, a < j ∧ hp h t = P a) ∧ ∀ a, a < j → ∃ t, t < n ∧ hp h t = P a
theorem x_add {N n j : Nat} {P : Nat → V3} {x y z : Int64} {h : mS} (hN : 600 < N) (hj : j < 600) (hS : hpS h n j P) (e : (x.toInt, y.toInt, z.toInt) = P j) (b : bd3 (P j) 200) : ∃ h' n', mxX7_heaps N x y z h = some h' ∧ smH h h' ∧ hpS h' n' (j + 1) P := by
  obtain ⟨hO, hn, A, B⟩ := hS
  obtain ⟨h', n', e1, O', sm, n1, n2, n3, A', B', C'⟩ := x_heaps (N := N) (x := x) (y := y) (z := z) (by omega : n < 600) hN hO (by rw [e]; exact b)
  refine ⟨h', n', e1, sm, O', by omega, fun t ht => ?_, fun a ha => ?_⟩
  · rcases A' t ht with ⟨q, q1, q2⟩ | q
    · obtain ⟨a, a1, a2⟩ := A q q1
      exact ⟨a, by omega, by rw [q2, a2]⟩
    · exact ⟨j, by omega, by rw [q, e]⟩
  · by_cases w : a = j
    · obtain ⟨i, i1, i2⟩ := C'
      exact ⟨i, i1, by rw [i2, e, w]⟩
    · obtain ⟨t, t1, t2⟩ := B a (by omega)
      obtain ⟨i, i1, i2⟩ := B' t t1
      exact ⟨i, i1, by rw [i2, t2]⟩
theorem hpO_0 (s : mS) : hpO (pI s 15 0) 0 := ⟨rfl, fun k hk => absurd hk (by omega), fun i j _ hj => absurd hj (by omega)⟩
theorem hpS_0 (s : mS) (P : Nat → V3) : hpS (pI s 15 0) 0 0 P := ⟨hpO_0 s, Nat.le_refl 0, fun t ht => absurd ht (by omega), fun a ha => absurd ha (by omega)⟩
theorem smH_0 (s : mS) : smH s (pI s 15 0) := ⟨fun k hk => if_neg hk, rfl, rfl, fun _ _ _ _ => rfl⟩
/-- of points that are in order the heap is just these -/
theorem hpS_ord {h : mS} {n j : Nat} {P : Nat → V3} (hS : hpS h n j P) (ho : inOrd wO P j) : n = j ∧ ∀ i, i < n → hp h i = P i := sort_uniq (hpO_ord hS.1) ho (fun i hi => hS.2.2.1 i hi) (fun k hk => hS.2.2.2 k hk)
/-- of points that are apart the heap has as many -/
theorem hpS_cnt {h : mS} {n j : Nat} {P : Nat → V3} (hS : hpS h n j P) (hd : ∀ a b, a < b → b < j → P a ≠ P b) : n = j := by
  have ch : ∀ a, ∃ t, a < j → t < n ∧ hp h t = P a := by
    intro a
    by_cases c : a < j
    · obtain ⟨t, h1, h2⟩ := hS.2.2.2 a c
      exact ⟨t, fun _ => ⟨h1, h2⟩⟩
    · exact ⟨0, fun q => absurd q c⟩
  have := pigeon n j (fun a => (ch a).choose) (fun k hk => ((ch k).choose_spec hk).1) (fun a b hab hb e => by
    have e1 := ((ch a).choose_spec (by omega)).2
    have e2 := ((ch b).choose_spec hb).2
    have e' : (ch a).choose = (ch b).choose := e
    rw [e'] at e1
    exact hd a b hab hb (e1.symm.trans e2))
  have := hS.2.1
  omega
theorem i_24 (a b : Nat) : (24 : Int32) * Int32.ofNat a + Int32.ofNat b = Int32.ofNat (24 * a + b) := i_ma 24 a b
theorem i_8 (a b : Nat) : (8 : Int32) * Int32.ofNat a + Int32.ofNat b = Int32.ofNat (8 * a + b) := i_ma 8 a b
theorem i_80 (a b : Nat) : (80 : Int32) * Int32.ofNat a + Int32.ofNat b = Int32.ofNat (80 * a + b) := i_ma 80 a b
theorem i_192 (a b : Nat) : (192 : Int32) * Int32.ofNat a + Int32.ofNat b = Int32.ofNat (192 * a + b) := i_ma 192 a b
theorem i_c24 (a : Nat) : (24 : Int32) * Int32.ofNat a = Int32.ofNat (24 * a) := (Int32.ofNat_mul 24 a).symm
theorem i_c80 (a : Nat) : (80 : Int32) * Int32.ofNat a = Int32.ofNat (80 * a) := (Int32.ofNat_mul 80 a).symm
theorem i_c25 (a : Nat) : (25 : Int32) * Int32.ofNat a = Int32.ofNat (25 * a) := (Int32.ofNat_mul 25 a).symm
theorem i_ad (a b : Nat) : Int32.ofNat a + Int32.ofNat b = Int32.ofNat (a + b) := (Int32.ofNat_add a b).symm
theorem rA8 {s : mS} {k j : Nat} (hk : aN k = 8) (h : j < 8) : rA s k (Int32.ofNat j) = some (s.2.2.1 k j) := rA_N (by rw [hk]; exact h) (by rw [hk]; decide)
theorem rA192 {s : mS} {k j : Nat} (hk : aN k = 192) (h : j < 192) : rA s k (Int32.ofNat j) = some (s.2.2.1 k j) := rA_N (by rw [hk]; exact h) (by rw [hk]; decide)
theorem rA600 {s : mS} {k j : Nat} (hk : aN k = 600) (h : j < 600) : rA s k (Int32.ofNat j) = some (s.2.2.1 k j) := rA_N (by rw [hk]; exact h) (by rw [hk]; decide)
theorem rA2 {s : mS} {k j : Nat} (hk : aN k = 2) (h : j < 2) : rA s k (Int32.ofNat j) = some (s.2.2.1 k j) := rA_N (by rw [hk]; exact h) (by rw [hk]; decide)
theorem rA128 {s : mS} {k j : Nat} (hk : aN k = 128) (h : j < 128) : rA s k (Int32.ofNat j) = some (s.2.2.1 k j) := rA_N (by rw [hk]; exact h) (by rw [hk]; decide)
theorem rA160 {s : mS} {k j : Nat} (hk : aN k = 160) (h : j < 160) : rA s k (Int32.ofNat j) = some (s.2.2.1 k j) := rA_N (by rw [hk]; exact h) (by rw [hk]; decide)
theorem rA3200 {s : mS} {k j : Nat} (hk : aN k = 3200) (h : j < 3200) : rA s k (Int32.ofNat j) = some (s.2.2.1 k j) := rA_N (by rw [hk]; exact h) (by rw [hk]; decide)
theorem rA64 {s : mS} {k j : Nat} (hk : aN k = 64) (h : j < 64) : rA s k (Int32.ofNat j) = some (s.2.2.1 k j) := rA_N (by rw [hk]; exact h) (by rw [hk]; decide)
theorem rA1536 {s : mS} {k j : Nat} (hk : aN k = 1536) (h : j < 1536) : rA s k (Int32.ofNat j) = some (s.2.2.1 k j) := rA_N (by rw [hk]; exact h) (by rw [hk]; decide)
theorem wA8 {s : mS} {k j : Nat} {v : Int32} (hk : aN k = 8) (h : j < 8) : wA s k (Int32.ofNat j) v = some (sA s k j v) := wA_N (by rw [hk]; exact h) (by rw [hk]; decide)
theorem wA192 {s : mS} {k j : Nat} {v : Int32} (hk : aN k = 192) (h : j < 192) : wA s k (Int32.ofNat j) v = some (sA s k j v) := wA_N (by rw [hk]; exact h) (by rw [hk]; decide)
theorem wA600 {s : mS} {k j : Nat} {v : Int32} (hk : aN k = 600) (h : j < 600) : wA s k (Int32.ofNat j) v = some (sA s k j v) := wA_N (by rw [hk]; exact h) (by rw [hk]; decide)
theorem wA2 {s : mS} {k j : Nat} {v : Int32} (hk : aN k = 2) (h : j < 2) : wA s k (Int32.ofNat j) v = some (sA s k j v) := wA_N (by rw [hk]; exact h) (by rw [hk]; decide)
theorem wA160 {s : mS} {k j : Nat} {v : Int32} (hk : aN k = 160) (h : j < 160) : wA s k (Int32.ofNat j) v = some (sA s k j v) := wA_N (by rw [hk]; exact h) (by rw [hk]; decide)
theorem wA64 {s : mS} {k j : Nat} {v : Int32} (hk : aN k = 64) (h : j < 64) : wA s k (Int32.ofNat j) v = some (sA s k j v) := wA_N (by rw [hk]; exact h) (by rw [hk]; decide)
theorem wA1536 {s : mS} {k j : Nat} {v : Int32} (hk : aN k = 1536) (h : j < 1536) : wA s k (Int32.ofNat j) v = some (sA s k j v) := wA_N (by rw [hk]; exact h) (by rw [hk]; decide)
theorem rG600 {s : mS} {k j : Nat} (hk : aN k = 600) (h : j < 600) : rG s k (Int32.ofNat j) = some (s.2.2.2 k j) := rG_N (by rw [hk]; exact h) (by rw [hk]; decide)
theorem rG48 {s : mS} {k j : Nat} (hk : aN k = 48) (h : j < 48) : rG s k (Int32.ofNat j) = some (s.2.2.2 k j) := rG_N (by rw [hk]; exact h) (by rw [hk]; decide)
theorem rG128 {s : mS} {k j : Nat} (hk : aN k = 128) (h : j < 128) : rG s k (Int32.ofNat j) = some (s.2.2.2 k j) := rG_N (by rw [hk]; exact h) (by rw [hk]; decide)
theorem rG32 {s : mS} {k j : Nat} (hk : aN k = 32) (h : j < 32) : rG s k (Int32.ofNat j) = some (s.2.2.2 k j) := rG_N (by rw [hk]; exact h) (by rw [hk]; decide)
theorem wG48 {s : mS} {k j : Nat} {v : Int64} (hk : aN k = 48) (h : j < 48) : wG s k (Int32.ofNat j) v = some (sG s k j v) := wG_N (by rw [hk]; exact h) (by rw [hk]; decide)
theorem wG32 {s : mS} {k j : Nat} {v : Int64} (hk : aN k = 32) (h : j < 32) : wG s k (Int32.ofNat j) v = some (sG s k j v) := wG_N (by rw [hk]; exact h) (by rw [hk]; decide)
/-- the three reads of an int array's point, as longs -/
theorem cP3_64 (X Y Z : Nat → Int32) (o j : Nat) : ((X (o + j)).toInt64.toInt, (Y (o + j)).toInt64.toInt, (Z (o + j)).toInt64.toInt) = cP3 X Y Z o j := by
  unfold cP3
  rw [Int32.toInt_toInt64, Int32.toInt_toInt64, Int32.toInt_toInt64]
theorem bd3_le {v : V3} {A B : Nat} (h : bd3 v A) (hAB : A ≤ B) : bd3 v B := ⟨Nat.le_trans h.1 hAB, Nat.le_trans h.2.1 hAB, Nat.le_trans h.2.2 hAB⟩
theorem x_ld7 {N i m : Nat} {s : mS} (hN : 600 < N) (hi : i < 8) (h4 : s.2.2.1 4 i = Int32.ofNat m) (hm : m ≤ 24) (bd : ∀ j, j < m → bd3 (cP s i j) 200) : ∀ (q f j n : Nat) (h : mS), j + q = m → q < f → smH s h → hpS h n j (cP s i) → ∃ s' n', mxX7_loads_7 N f (Int32.ofNat i) (Int32.ofNat j) h = some s' ∧ smH s s' ∧ hpS s' n' m (cP s i) := by
  intro q
  induction q with
  | zero =>
    intro f j n h hj hf sm hS
    obtain ⟨f', rfl⟩ : ∃ f', f = f' + 1 := ⟨f - 1, by omega⟩
    have hjm : j = m := by omega
    subst hjm
    refine ⟨h, n, ?_, sm, hS⟩
    rw [mxX7_loads_7, rA8 rfl hi, Option.bind_some, sm.2.2.1, h4, if_pos (Int32.le_refl _)]
  | succ q ih =>
    intro f j n h hj hf sm hS
    obtain ⟨f', rfl⟩ : ∃ f', f = f' + 1 := ⟨f - 1, by omega⟩
    have ne : ¬ (Int32.ofNat m ≤ Int32.ofNat j) := by
      rw [i_le (by omega) (by omega)]
      omega
    obtain ⟨h', n', e1, sm1, S1⟩ := x_add (N := N) (x := (s.2.2.1 6 (24 * i + j)).toInt64) (y := (s.2.2.1 7 (24 * i + j)).toInt64) (z := (s.2.2.1 8 (24 * i + j)).toInt64) hN (by omega) hS (cP3_64 _ _ _ _ _) (bd j (by omega))
    obtain ⟨s', n'', e2, sm2, S2⟩ := ih f' (j + 1) n' h' (by omega) (by omega) (sm.tr sm1) S1
    refine ⟨s', n'', ?_, sm2, S2⟩
    rw [mxX7_loads_7, rA8 rfl hi, Option.bind_some, sm.2.2.1, h4, if_neg ne, i_24, rA192 rfl (by omega), Option.bind_some, rA192 rfl (by omega), Option.bind_some, rA192 rfl (by omega), Option.bind_some, sm.2.2.1, e1, Option.bind_some, i_s, e2]
/-- loads: the heap holds a SOLID's CORNERS -/
theorem x_loads {N i m : Nat} {s : mS} (hN : 600 < N) (hi : i < 8) (h4 : s.2.2.1 4 i = Int32.ofNat m) (hm : m ≤ 24) (bd : ∀ j, j < m → bd3 (cP s i j) 200) : ∃ s' n, mxX7_loads N (Int32.ofNat i) s = some s' ∧ smH s s' ∧ hpS s' n m (cP s i) := by
  unfold mxX7_loads
  rw [Option.bind_some]
  exact x_ld7 hN hi h4 hm bd m N 0 0 _ (by omega) (by omega) (smH_0 s) (hpS_0 s _)
/-- loads of a SOLID that is well: just its CORNERS -/
theorem x_loadsO {N i m k : Nat} {s : mS} (hN : 600 < N) (hi : i < 8) (h4 : s.2.2.1 4 i = Int32.ofNat m) (ok : okP (cP s i) m k) : ∃ s', mxX7_loads N (Int32.ofNat i) s = some s' ∧ smH s s' ∧ hpO s' m ∧ ∀ j, j < m → hp s' j = cP s i j := by
  obtain ⟨s', n, e, sm, S⟩ := x_loads hN hi h4 ok.1 (fun j hj => bd3_le (ok.2.1 j hj) (by decide))
  obtain ⟨h1, h2⟩ := hpS_ord S ok.2.2.1
  subst h1
  exact ⟨s', e, sm, S.1, h2⟩
