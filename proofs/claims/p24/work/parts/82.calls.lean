theorem exK_has (P : Nat → V3) (n : Nat) : ∀ p, ∃ m c, exK P n p m c := by
  intro p
  induction p with
  | zero => exact ⟨0, fun _ => 0, fun j hj => absurd hj (by omega), fun a b _ hb => absurd hb (by omega), fun q hq => absurd hq (by omega)⟩
  | succ p ih =>
    obtain ⟨m, c, h⟩ := ih
    by_cases x : ex P n p
    · exact ⟨m + 1, _, exK_yes h x⟩
    · exact ⟨m, c, exK_no h x⟩
theorem exL_has (P : Nat → V3) (n : Nat) : ∃ m c, exL P n m c := exK_has P n n
/-- Q is P's points in order, each once -/
def srt (Q : Nat → V3) (n : Nat) (P : Nat → V3) (j : Nat) : Prop := inOrd wO Q n ∧ n ≤ j ∧ (∀ t, t < n → ∃ a, a < j ∧ Q t = P a) ∧ ∀ a, a < j → ∃ t, t < n ∧ Q t = P a
theorem hpS_srt {h : mS} {n j : Nat} {P : Nat → V3} (H : hpS h n j P) : srt (hp h) n P j := ⟨hpO_ord H.1, H.2⟩
/-- SOLID i becomes Q's points, of KIND k; what was is kept -/
def chO (s s' : mS) (i m k : Nat) (Q : Nat → V3) : Prop := ∃ s2 s1, fi s s2 ∧ kpO s2 s1 ∧ bcO s1 s' i m k Q
/-- the first j of P -/
def setP (P : Nat → V3) (j : Nat) : V3 → Prop := fun x => ∃ a, a < j ∧ x = P a
/-- Q is a set's points in order, each once -/
def srz (Q : Nat → V3) (n : Nat) (Z : V3 → Prop) : Prop := inOrd wO Q n ∧ (∀ t, t < n → Z (Q t)) ∧ ∀ x, Z x → ∃ t, t < n ∧ Q t = x
theorem srt_srz {Q : Nat → V3} {n : Nat} {P : Nat → V3} {j : Nat} (h : srt Q n P j) : srz Q n (setP P j) := ⟨h.1, fun t ht => h.2.2.1 t ht, fun x hx => by
  obtain ⟨a, a1, rfl⟩ := hx
  exact h.2.2.2 a a1⟩
/-- a SOLID out of the points of Z: what it becomes, if it becomes it -/
def bld (Z : V3 → Prop) (m k : Nat) (Q : Nat → V3) : Prop := ∃ R n v c, srz R n Z ∧ kdO R v n k ∧ exL R n m c ∧ okP Q m k ∧ ∀ t, t < m → Q t = R (c t)
/-- it has too many, or one that is no POINT -/
def noB (Z : V3 → Prop) : Prop := ∃ R n, srz R n Z ∧ ∀ m c, exL R n m c → ¬ (m ≤ 24 ∧ ∀ t, t < m → bd3 (R (c t)) 100)
theorem srz_le {Q : Nat → V3} {n : Nat} {P : Nat → V3} {j : Nat} (h : srz Q n (setP P j)) : n ≤ j := by
  have ch : ∀ t, ∃ a, t < n → a < j ∧ Q t = P a := by
    intro t
    by_cases c : t < n
    · obtain ⟨a, h1, h2⟩ := h.2.1 t c
      exact ⟨a, fun _ => ⟨h1, h2⟩⟩
    · exact ⟨0, fun q => absurd q c⟩
  refine pigeon j n (fun t => (ch t).choose) (fun k hk => ((ch k).choose_spec hk).1) (fun a b hab hb e => ?_)
  have e1 := ((ch a).choose_spec (by omega)).2
  have e2 := ((ch b).choose_spec hb).2
  have e' : (ch a).choose = (ch b).choose := e
  rw [e'] at e1
  have := h.1 a b hab hb
  have q : Q a = Q b := e1.trans e2.symm
  rw [q, vs_self] at this
  simp [vd, v0] at this
/-- hulls and becomes -/
theorem x_hb {N i n j : Nat} {P : Nat → V3} {s : mS} (hN : 1000000 < N) (hi : i < 8) (hj : j ≤ 25) (hI : INV s) (hS : hpS s n j P) : ∃ s1 k, mxX7_hulls N 0 s = some (s1, Int32.ofNat k) ∧ k ≤ 4 ∧ ((mxX7_becomes N (Int32.ofNat i) (Int32.ofNat k) s1 = some (s1, 0) ∧ fi s s1 ∧ noB (setP P j)) ∨ ∃ s' m Q, mxX7_becomes N (Int32.ofNat i) (Int32.ofNat k) s1 = some (s', 1) ∧ INV s' ∧ chO s s' i m k Q ∧ bld (setP P j) m k Q) := by
  have n25 : n ≤ 25 := by have := hS.2.1; omega
  obtain ⟨s1, k, e1, sm1, mk1, ⟨v, kd⟩, -⟩ := x_hulls (N := N) (g := 0) hN (by omega) (by omega) hS.1 (fun _ _ => n25)
  have hp1 : hp s1 = hp s := smP_hp sm1
  have f1 : fi s s1 := (smP_fr sm1).fi (by decide)
  have O1 := hpO_P sm1 hS.1
  have mk' : mkX s1 n := by
    intro p hp0
    rw [hp1]
    exact mk1 p hp0
  refine ⟨s1, k, e1, kdO_le kd, ?_⟩
  rcases x_becomes (N := N) hN hi (by omega) (INV_fi hI f1) O1 mk' (fun m c hL => kd_ex O1 hL (by rw [hp1]; exact kd)) with ⟨e2, h2⟩ | ⟨s2, s', m, c, e2, hL, ok, K, B, I'⟩
  · left
    rw [hp1] at h2
    exact ⟨e2, f1, hp s, n, srt_srz (hpS_srt hS), h2⟩
  · right
    rw [hp1] at hL ok B
    exact ⟨s', m, _, e2, I', ⟨s1, s2, f1, K, B⟩, hp s, n, v, c, srt_srz (hpS_srt hS), kd, hL, ok, fun t _ => rfl⟩
theorem chO_5 {s s' : mS} {i m k : Nat} {Q : Nat → V3} (h : chO s s' i m k Q) : s'.2.2.1 5 i = Int32.ofNat k := by
  obtain ⟨s2, s1, -, -, b⟩ := h
  exact b.2.2.2.2.1
theorem x_so33 {N i t nn : Nat} {s : mS} (hN : 1000000 < N) (hi : i < 8) (ht : t < 8) (hI : INV s) (h0 : s.2.2.1 0 t = Int32.ofNat nn) (hnn : nn ≤ 24) (bd : ∀ k, k < 24 → bd3 (cP3 (s.2.2.1 1) (s.2.2.1 2) (s.2.2.1 3) (24 * t) k) 100) : ∀ (q f j n : Nat) (h : mS), j + q = nn → q < f → smH s h → hpS h n j (cP3 (s.2.2.1 1) (s.2.2.1 2) (s.2.2.1 3) (24 * t)) → ∃ s' m k Q, mxX7_solid_33 N f (Int32.ofNat i) (Int32.ofNat t) (Int32.ofNat j) h = some (s', Int32.ofNat k) ∧ k ≤ 4 ∧ INV s' ∧ chO s s' i m k Q ∧ bld (setP (cP3 (s.2.2.1 1) (s.2.2.1 2) (s.2.2.1 3) (24 * t)) nn) m k Q := by
  intro q
  induction q with
  | zero =>
    intro f j n h hj hf sm hS
    obtain ⟨f', rfl⟩ : ∃ f', f = f' + 1 := ⟨f - 1, by omega⟩
    have hjn : j = nn := by omega
    subst hjn
    have fh : fi s h := (smH_fr sm).fi (by decide)
    obtain ⟨s1, k, e1, k4, h1⟩ := x_hb (N := N) hN hi (by omega) (INV_fi hI fh) hS
    rcases h1 with ⟨e2, -, R, n', S', no⟩ | ⟨s', m, Q, e2, I', C, B⟩
    · exfalso
      obtain ⟨m, c, hL⟩ := exL_has R n'
      refine no m c hL ⟨?_, fun u hu => ?_⟩
      · have mn : m ≤ n' := by
          by_cases z : m = 0
          · omega
          · have := exL_inc hL (m - 1) (by omega)
            have := (hL.1 (m - 1) (by omega)).1
            omega
        have := srz_le S'
        omega
      · obtain ⟨a, a1, a2⟩ := S'.2.1 (c u) (hL.1 u hu).1
        rw [a2]
        exact bd a (by omega)
    · refine ⟨s', m, k, Q, ?_, k4, I', ?_, B⟩
      · rw [mxX7_solid_33, rA8 rfl ht, Option.bind_some, sm.2.2.1, h0, if_pos (Int32.le_refl _), e1, Option.bind_some]
        dsimp only
        rw [e2, Option.bind_some]
        dsimp only
        rw [rA8 rfl hi, Option.bind_some, chO_5 C]
      · obtain ⟨s2, s3, c1, c2, c3⟩ := C
        exact ⟨s2, s3, fh.tr c1, c2, c3⟩
  | succ q ih =>
    intro f j n h hj hf sm hS
    obtain ⟨f', rfl⟩ : ∃ f', f = f' + 1 := ⟨f - 1, by omega⟩
    have ne : ¬ (Int32.ofNat nn ≤ Int32.ofNat j) := by
      rw [i_le (by omega) (by omega)]
      omega
    obtain ⟨h', n', e1, sm1, S1⟩ := x_add (N := N) (x := (s.2.2.1 1 (24 * t + j)).toInt64) (y := (s.2.2.1 2 (24 * t + j)).toInt64) (z := (s.2.2.1 3 (24 * t + j)).toInt64) (by omega) (by omega) hS (cP3_64 _ _ _ _ _) (bd3_le (bd j (by omega)) (by decide))
    obtain ⟨s', m, k, Q, e2, r⟩ := ih f' (j + 1) n' h' (by omega) (by omega) (sm.tr sm1) S1
    refine ⟨s', m, k, Q, ?_, r⟩
    rw [mxX7_solid_33, rA8 rfl ht, Option.bind_some, sm.2.2.1, h0, if_neg ne, i_24, rA192 rfl (by omega), Option.bind_some, rA192 rfl (by omega), Option.bind_some, rA192 rfl (by omega), Option.bind_some, sm.2.2.1, e1, Option.bind_some, i_s, e2]
/-- solid: refused, or the TRAY's points -/
theorem x_solid {N : Nat} {a b : Int32} {s : mS} (hN : 1000000 < N) (hI : INV s) : (mxX7_solid N a b s = some (s, -1) ∧ ((a < 0 ∨ 8 ≤ a) ∨ (b < 0 ∨ 8 ≤ b) ∨ ∃ t, t < 8 ∧ b = Int32.ofNat t ∧ s.2.2.1 0 t = -1)) ∨ ∃ i t nn s' m k Q, i < 8 ∧ a = Int32.ofNat i ∧ t < 8 ∧ b = Int32.ofNat t ∧ nn ≤ 24 ∧ s.2.2.1 0 t = Int32.ofNat nn ∧ mxX7_solid N a b s = some (s', Int32.ofNat k) ∧ k ≤ 4 ∧ INV s' ∧ chO s s' i m k Q ∧ bld (setP (cP3 (s.2.2.1 1) (s.2.2.1 2) (s.2.2.1 3) (24 * t)) nn) m k Q := by
  unfold mxX7_solid
  rcases slot_or a with ha | ⟨i, hi, rfl⟩
  · left
    rw [solid_no ha, Option.bind_some]
    exact ⟨rfl, .inl ha⟩
  rw [solid_in hi, Option.bind_some]
  dsimp only
  rw [if_neg (by decide)]
  rcases slot_or b with hb | ⟨t, ht, rfl⟩
  · left
    rw [solid_no hb, Option.bind_some]
    exact ⟨rfl, .inr (.inl hb)⟩
  rw [solid_in ht, Option.bind_some]
  dsimp only
  rw [if_neg (by decide), rA8 rfl ht, Option.bind_some]
  obtain ⟨c, g1, g2, g3, g4, g5⟩ := hI
  rcases (g5 t ht).1 with h0 | ⟨nn, hnn, h0⟩
  · left
    rw [h0, if_pos rfl]
    exact ⟨rfl, .inr (.inr ⟨t, ht, rfl, h0⟩)⟩
  · right
    rw [h0, if_neg (n1_ne (by omega)), Option.bind_some]
    obtain ⟨s', m, k, Q, e, r⟩ := x_so33 (N := N) hN hi ht ⟨c, g1, g2, g3, g4, g5⟩ h0 hnn (g5 t ht).2 nn N 0 0 _ (by omega) (by omega) (smH_0 s) (hpS_0 s _)
    exact ⟨i, t, nn, s', m, k, Q, hi, rfl, ht, rfl, hnn, h0, e, r⟩
/-- a SOLID's CORNERS, and one point more -/
def grP (s : mS) (i m : Nat) (x : V3) : Nat → V3 := fun j => if j < m then cP s i j else x
theorem i32b {x y z : Int32} (h : isPt x y z) : bd3 (x.toInt64.toInt, y.toInt64.toInt, z.toInt64.toInt) 100 := by
  obtain ⟨a, b, c, d, e, f⟩ := h
  have lo : (-100 : Int32).toInt = -100 := rfl
  have hi : (100 : Int32).toInt = 100 := rfl
  rw [Int32.lt_iff_toInt_lt] at a b c d e f
  rw [lo] at a c e
  rw [hi] at b d f
  rw [Int32.toInt_toInt64, Int32.toInt_toInt64, Int32.toInt_toInt64]
  refine ⟨?_, ?_, ?_⟩
  · show x.toInt.natAbs ≤ 100
    omega
  · show y.toInt.natAbs ≤ 100
    omega
  · show z.toInt.natAbs ≤ 100
    omega
/-- grow: refused, too many, or one point more -/
theorem x_grow {N : Nat} {a x y z : Int32} {s : mS} (hN : 1000000 < N) (hI : INV s) : (mxX7_grow N a x y z s = some (s, -1) ∧ ((a < 0 ∨ 8 ≤ a) ∨ ¬ isPt x y z)) ∨ ∃ i m0 k0, i < 8 ∧ a = Int32.ofNat i ∧ isPt x y z ∧ s.2.2.1 4 i = Int32.ofNat m0 ∧ okP (cP s i) m0 k0 ∧ ((∃ s', mxX7_grow N a x y z s = some (s', -2) ∧ fi s s' ∧ noB (setP (grP s i m0 (x.toInt, y.toInt, z.toInt)) (m0 + 1))) ∨ ∃ s' m k Q, mxX7_grow N a x y z s = some (s', Int32.ofNat k) ∧ k ≤ 4 ∧ INV s' ∧ chO s s' i m k Q ∧ bld (setP (grP s i m0 (x.toInt, y.toInt, z.toInt)) (m0 + 1)) m k Q) := by
  unfold mxX7_grow
  rcases slot_or a with ha | ⟨i, hi, rfl⟩
  · left
    rw [solid_no ha, Option.bind_some]
    exact ⟨rfl, .inl ha⟩
  rw [solid_in hi, Option.bind_some]
  dsimp only
  rw [if_neg (by decide)]
  by_cases hp0 : isPt x y z
  · rw [pt64_in hp0, Option.bind_some]
    dsimp only
    rw [if_neg (by decide)]
    right
    obtain ⟨c, g1, g2, g3, g4, g5⟩ := hI
    obtain ⟨m0, k0, h4, h5, ok⟩ := g3 i hi
    have m24 := ok.1
    refine ⟨i, m0, k0, hi, rfl, hp0, h4, ok, ?_⟩
    obtain ⟨s1, n1, e1, sm1, S1⟩ := x_loads (N := N) (by omega) hi h4 m24 (fun j hj => bd3_le (ok.2.1 j hj) (by decide))
    rw [e1, Option.bind_some]
    have S1' : hpS s1 n1 m0 (grP s i m0 (x.toInt, y.toInt, z.toInt)) := by
      refine ⟨S1.1, S1.2.1, fun t ht => ?_, fun a ha => ?_⟩
      · obtain ⟨a, a1, a2⟩ := S1.2.2.1 t ht
        exact ⟨a, a1, by unfold grP; rw [if_pos a1]; exact a2⟩
      · obtain ⟨t, t1, t2⟩ := S1.2.2.2 a ha
        exact ⟨t, t1, by unfold grP; rw [if_pos ha]; exact t2⟩
    have eP : (x.toInt64.toInt, y.toInt64.toInt, z.toInt64.toInt) = grP s i m0 (x.toInt, y.toInt, z.toInt) m0 := by
      unfold grP
      rw [if_neg (by omega), Int32.toInt_toInt64, Int32.toInt_toInt64, Int32.toInt_toInt64]
    obtain ⟨s2, n2, e2, sm2, S2⟩ := x_add (N := N) (x := x.toInt64) (y := y.toInt64) (z := z.toInt64) (by omega) (by omega) S1' eP (by rw [← eP]; exact bd3_le (i32b hp0) (by decide))
    rw [e2, Option.bind_some]
    have f2 : fi s s2 := ((smH_fr sm1).tr (smH_fr sm2)).fi (by decide)
    obtain ⟨s3, k, e3, k4, h3⟩ := x_hb (N := N) hN hi (by omega) (INV_fi ⟨c, g1, g2, g3, g4, g5⟩ f2) S2
    rw [e3, Option.bind_some]
    dsimp only
    rcases h3 with ⟨e4, f3, no⟩ | ⟨s', m, Q, e4, I', ⟨s5, s6, c1, c2, c3⟩, B⟩
    · left
      rw [e4, Option.bind_some]
      exact ⟨s3, rfl, f2.tr f3, no⟩
    · right
      rw [e4, Option.bind_some]
      dsimp only
      rw [if_neg (by decide), rA8 rfl hi, Option.bind_some, c3.2.2.2.2.1]
      exact ⟨s', m, k, Q, rfl, k4, I', ⟨s5, s6, f2.tr c1, c2, c3⟩, B⟩
  · left
    rw [pt64_no hp0, Option.bind_some]
    exact ⟨rfl, .inr hp0⟩
