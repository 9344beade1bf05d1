abbrev tRw : Type := (Int32 × Int32 × Int32) × (Int32 × Int32 × Int32 × Int32) × Int32
/-- whether a point lies beyond a row -/
def byd (r : tRw) (x y z : Int64) : Prop := ¬ (r.2.1.1.toInt64 * x + r.2.1.2.1.toInt64 * y + r.2.1.2.2.1.toInt64 * z ≤ r.2.1.2.2.2.toInt64)
/-- the skin while rows are torn off, from the last to the first -/
def TI (B : tRw → Prop) (s0 s : cS) (T0 T x M : Nat) (p o : Nat → Nat) : Prop := cf sL s0 s ∧ (x ≤ T ∧ T + M = T0) ∧ (qI s 29 1 = Int32.ofNat T ∧ qI s 29 5 = Int32.ofNat (3 * M)) ∧ (∀ t, t < x → p t = t) ∧ (∀ t, t < T → p t < T0 ∧ tR s t = tR s0 (p t)) ∧ (∀ t, x ≤ t → t < T → x ≤ p t ∧ ¬ B (tR s0 (p t))) ∧ (∀ t t', t < T → t' < T → p t = p t' → t = t') ∧ (∀ t0, x ≤ t0 → t0 < T0 → ¬ B (tR s0 t0) → ∃ t, t < T ∧ p t = t0) ∧ (∀ b, b < M → x ≤ o b ∧ o b < T0 ∧ B (tR s0 (o b)) ∧ ∀ k, k < 3 → qA s 37 (3 * b + k) = qA s0 34 (3 * o b + k) ∧ qA s 38 (3 * b + k) = qA s0 34 (3 * o b + (k + 1) % 3)) ∧ (∀ b b', b < b' → b' < M → o b' < o b) ∧ (∀ t0, x ≤ t0 → t0 < T0 → B (tR s0 t0) → ∃ b, b < M ∧ o b = t0) ∧ (∀ a b, a < 25 → b < 25 → (qA s 39 (a * 25 + b) ≠ 0 ↔ ∃ i, i < 3 * M ∧ qA s 37 i = Int32.ofNat a ∧ qA s 38 i = Int32.ofNat b))
theorem TI_keep {B : tRw → Prop} {s0 s : cS} {T0 T y M : Nat} {p o : Nat → Nat} (h : TI B s0 s T0 T (y + 1) M p o) (hb : ¬ B (tR s0 y)) : TI B s0 s T0 T y M p o := by
  obtain ⟨h1, h2, h3, h4, h5, h6, h7, h8, h9, h10, h11, h12⟩ := h
  refine ⟨h1, ⟨by omega, h2.2⟩, h3, fun t ht => h4 t (by omega), h5, ?_, h7, ?_, ?_, h10, ?_, h12⟩
  · intro t a b
    by_cases c : t = y
    · subst c
      rw [h4 t (by omega)]
      exact ⟨by omega, hb⟩
    · have := h6 t (by omega) b
      exact ⟨by omega, this.2⟩
  · intro t0 a b c
    by_cases d : t0 = y
    · subst d
      exact ⟨t0, by omega, h4 t0 (by omega)⟩
    · exact h8 t0 (by omega) b c
  · intro b hb
    have := h9 b hb
    exact ⟨by omega, this.2⟩
  · intro t0 a b c
    by_cases d : t0 = y
    · subst d
      exact absurd c hb
    · exact h11 t0 (by omega) b c
theorem u3_0 {f : Nat → Int32} {k : Nat} {a b c : Int32} : upd (upd (upd f k a) (k + 1) b) (k + 2) c k = a := by
  rw [u_ne (by omega), u_ne (by omega), u_eq]
theorem u3_1 {f : Nat → Int32} {k : Nat} {a b c : Int32} : upd (upd (upd f k a) (k + 1) b) (k + 2) c (k + 1) = b := by
  rw [u_ne (by omega), u_eq]
theorem TI_tear {B : tRw → Prop} {s0 s s' : cS} {T0 T y M u v w : Nat} {p o : Nat → Nat} (h : TI B s0 s T0 (T + 1) (y + 1) M p o) (hb : B (tR s0 y)) (c : cf sL s s') (q1 : qI s' 29 1 = Int32.ofNat T) (q5 : qI s' 29 5 = Int32.ofNat (3 * M + 3)) (r1 : ∀ x, x ≠ y → tR s' x = tR s x) (r2 : tR s' y = tR s T) (b1 : qA s' 37 = upd (upd (upd (qA s 37) (3 * M) (Int32.ofNat u)) (3 * M + 1) (Int32.ofNat v)) (3 * M + 2) (Int32.ofNat w)) (b2 : qA s' 38 = upd (upd (upd (qA s 38) (3 * M) (Int32.ofNat v)) (3 * M + 1) (Int32.ofNat w)) (3 * M + 2) (Int32.ofNat u)) (b3 : qA s' 39 = upd (upd (upd (qA s 39) (u * 25 + v) 1) (v * 25 + w) 1) (w * 25 + u) 1) (e0 : qA s0 34 (3 * y) = Int32.ofNat u) (e1 : qA s0 34 (3 * y + 1) = Int32.ofNat v) (e2 : qA s0 34 (3 * y + 2) = Int32.ofNat w) (hu : u < 25) (hv : v < 25) (hw : w < 25) : TI B s0 s' T0 T y (M + 1) (fun t => if t = y then p T else p t) (fun b => if b = M then y else o b) := by
  obtain ⟨h1, h2, h3, h4, h5, h6, h7, h8, h9, h10, h11, h12⟩ := h
  have o37 : ∀ i, i < 3 * M → qA s' 37 i = qA s 37 i := fun i hi => by rw [b1, u3_ne (.inl hi)]
  have o38 : ∀ i, i < 3 * M → qA s' 38 i = qA s 38 i := fun i hi => by rw [b2, u3_ne (.inl hi)]
  have n37 : qA s' 37 (3 * M) = Int32.ofNat u ∧ qA s' 37 (3 * M + 1) = Int32.ofNat v ∧ qA s' 37 (3 * M + 2) = Int32.ofNat w := by
    rw [b1]
    exact ⟨u3_0, u3_1, u_eq⟩
  have n38 : qA s' 38 (3 * M) = Int32.ofNat v ∧ qA s' 38 (3 * M + 1) = Int32.ofNat w ∧ qA s' 38 (3 * M + 2) = Int32.ofNat u := by
    rw [b2]
    exact ⟨u3_0, u3_1, u_eq⟩
  refine ⟨h1.tr c, ⟨by omega, by omega⟩, ⟨q1, q5⟩, ?_, ?_, ?_, ?_, ?_, ?_, ?_, ?_, ?_⟩
  · intro t ht
    show (if t = y then p T else p t) = t
    rw [if_neg (by omega)]
    exact h4 t (by omega)
  · intro t ht
    show (if t = y then p T else p t) < T0 ∧ tR s' t = tR s0 (if t = y then p T else p t)
    by_cases d : t = y
    · rw [if_pos d, d, r2]
      exact h5 T (by omega)
    · rw [if_neg d, r1 t d]
      exact h5 t (by omega)
  · intro t a b
    show y ≤ (if t = y then p T else p t) ∧ ¬ B (tR s0 (if t = y then p T else p t))
    by_cases d : t = y
    · rw [if_pos d]
      have := h6 T (by omega) (by omega)
      exact ⟨by omega, this.2⟩
    · rw [if_neg d]
      have := h6 t (by omega) (by omega)
      exact ⟨by omega, this.2⟩
  · intro t t' ht ht' e
    have e' : (if t = y then p T else p t) = (if t' = y then p T else p t') := e
    by_cases d : t = y
    · by_cases d' : t' = y
      · omega
      · rw [if_pos d, if_neg d'] at e'
        have := h7 T t' (by omega) (by omega) e'
        omega
    · by_cases d' : t' = y
      · rw [if_neg d, if_pos d'] at e'
        have := h7 t T (by omega) (by omega) e'
        omega
      · rw [if_neg d, if_neg d'] at e'
        exact h7 t t' (by omega) (by omega) e'
  · intro t0 a b nb
    have ne : t0 ≠ y := fun e => nb (e ▸ hb)
    obtain ⟨t, ht, e⟩ := h8 t0 (by omega) b nb
    have ty : t ≠ y := fun d => by
      rw [d, h4 y (by omega)] at e
      omega
    by_cases d : t = T
    · refine ⟨y, by omega, ?_⟩
      show (if y = y then p T else p y) = t0
      rw [if_pos rfl, ← d]
      exact e
    · refine ⟨t, by omega, ?_⟩
      show (if t = y then p T else p t) = t0
      rw [if_neg ty]
      exact e
  · intro b hbM
    show y ≤ (if b = M then y else o b) ∧ (if b = M then y else o b) < T0 ∧ B (tR s0 (if b = M then y else o b)) ∧ ∀ k, k < 3 → qA s' 37 (3 * b + k) = qA s0 34 (3 * (if b = M then y else o b) + k) ∧ qA s' 38 (3 * b + k) = qA s0 34 (3 * (if b = M then y else o b) + (k + 1) % 3)
    by_cases d : b = M
    · rw [if_pos d, d]
      refine ⟨by omega, by omega, hb, fun k hk => ?_⟩
      match k, hk with
      | 0, _ => exact ⟨n37.1.trans e0.symm, n38.1.trans e1.symm⟩
      | 1, _ => exact ⟨n37.2.1.trans e1.symm, n38.2.1.trans e2.symm⟩
      | 2, _ => exact ⟨n37.2.2.trans e2.symm, n38.2.2.trans e0.symm⟩
    · rw [if_neg d]
      obtain ⟨g1, g2, g3, g4⟩ := h9 b (by omega)
      refine ⟨by omega, g2, g3, fun k hk => ?_⟩
      rw [o37 _ (by omega), o38 _ (by omega)]
      exact g4 k hk
  · intro b b' l l'
    show (if b' = M then y else o b') < (if b = M then y else o b)
    rw [if_neg (show ¬ b = M by omega)]
    by_cases d : b' = M
    · rw [if_pos d]
      have := h9 b (by omega)
      omega
    · rw [if_neg d]
      exact h10 b b' l (by omega)
  · intro t0 a b bt
    by_cases d : t0 = y
    · refine ⟨M, by omega, ?_⟩
      show (if M = M then y else o M) = t0
      rw [if_pos rfl, d]
    · obtain ⟨b', g1, g2⟩ := h11 t0 (by omega) b bt
      refine ⟨b', by omega, ?_⟩
      show (if b' = M then y else o b') = t0
      rw [if_neg (by omega)]
      exact g2
  · intro a b ha hb
    have key : qA s' 39 (a * 25 + b) ≠ 0 ↔ (a = u ∧ b = v) ∨ (a = v ∧ b = w) ∨ (a = w ∧ b = u) ∨ qA s 39 (a * 25 + b) ≠ 0 := by
      rw [b3, upd_at, upd_at, upd_at]
      by_cases c3 : a * 25 + b = w * 25 + u
      · rw [if_pos c3]
        exact ⟨fun _ => .inr (.inr (.inl (by omega))), fun _ => by decide⟩
      · rw [if_neg c3]
        by_cases c2 : a * 25 + b = v * 25 + w
        · rw [if_pos c2]
          exact ⟨fun _ => .inr (.inl (by omega)), fun _ => by decide⟩
        · rw [if_neg c2]
          by_cases c1 : a * 25 + b = u * 25 + v
          · rw [if_pos c1]
            exact ⟨fun _ => .inl (by omega), fun _ => by decide⟩
          · rw [if_neg c1]
            refine ⟨fun h => .inr (.inr (.inr h)), fun h => ?_⟩
            rcases h with ⟨x, z⟩ | ⟨x, z⟩ | ⟨x, z⟩ | h
            · subst x
              subst z
              exact absurd rfl c1
            · subst x
              subst z
              exact absurd rfl c2
            · subst x
              subst z
              exact absurd rfl c3
            · exact h
    rw [key, h12 a b ha hb]
    constructor
    · rintro (⟨x, z⟩ | ⟨x, z⟩ | ⟨x, z⟩ | ⟨i, x, z⟩)
      · exact ⟨3 * M, by omega, by rw [n37.1, x], by rw [n38.1, z]⟩
      · exact ⟨3 * M + 1, by omega, by rw [n37.2.1, x], by rw [n38.2.1, z]⟩
      · exact ⟨3 * M + 2, by omega, by rw [n37.2.2, x], by rw [n38.2.2, z]⟩
      · exact ⟨i, by omega, by rw [o37 i x]; exact z.1, by rw [o38 i x]; exact z.2⟩
    · rintro ⟨i, x, z1, z2⟩
      by_cases d : i < 3 * M
      · rw [o37 i d] at z1
        rw [o38 i d] at z2
        exact .inr (.inr (.inr ⟨i, d, z1, z2⟩))
      · have : i = 3 * M ∨ i = 3 * M + 1 ∨ i = 3 * M + 2 := by omega
        rcases this with g | g | g
        · rw [g, n37.1] at z1
          rw [g, n38.1] at z2
          exact .inl ⟨(i_inj (by omega) (by omega) z1).symm, (i_inj (by omega) (by omega) z2).symm⟩
        · rw [g, n37.2.1] at z1
          rw [g, n38.2.1] at z2
          exact .inr (.inl ⟨(i_inj (by omega) (by omega) z1).symm, (i_inj (by omega) (by omega) z2).symm⟩)
        · rw [g, n37.2.2] at z1
          rw [g, n38.2.2] at z2
          exact .inr (.inr (.inl ⟨(i_inj (by omega) (by omega) z1).symm, (i_inj (by omega) (by omega) z2).symm⟩))
theorem i_pm (a : Nat) : Int32.ofNat a + (-1 : Int32) = Int32.ofNat a - 1 := (Int32.sub_eq_add_neg _ _).symm
/-- the loop that tears off: every row beyond the new knot goes, every other stays -/
theorem c_tearLoop {N K kn T0 : Nat} {s0 : cS} (hN : 600 < N) (hT0 : T0 ≤ 46) (hK : K ≤ 25) (hkn : kn < 25) (ro : ∀ t, t < T0 → tO s0 K t) : ∀ (x f : Nat) (s : cS) (T M : Nat) (p o : Nat → Nat), x < f → TI (fun r => byd r (qA s0 31 kn).toInt64 (qA s0 32 kn).toInt64 (qA s0 33 kn).toInt64) s0 s T0 T x M p o → ∃ s' T' M' p' o', fxX5_attachLatest_22 N f 29 (Int32.ofNat kn) (Int32.ofNat x - 1) (hC s) = fxX5_attachLatest_77 N N 29 (Int32.ofNat kn) 0 (hC s') ∧ TI (fun r => byd r (qA s0 31 kn).toInt64 (qA s0 32 kn).toInt64 (qA s0 33 kn).toInt64) s0 s' T0 T' 0 M' p' o' := by
  obtain ⟨-, e1, e2, e3⟩ := pt_sh s30
  have e1' : shp 31 = (10, 25) := e1
  have e2' : shp 32 = (10, 25) := e2
  have e3' : shp 33 = (10, 25) := e3
  intro x
  induction x with
  | zero =>
    intro f s T M p o hf h
    obtain ⟨f', rfl⟩ : ∃ f', f = f' + 1 := ⟨f - 1, by omega⟩
    refine ⟨s, T, M, p, o, ?_, h⟩
    rw [fxX5_attachLatest_22, if_pos (show Int32.ofNat 0 - 1 < 0 by decide)]
  | succ y ih =>
    intro f s T M p o hf h
    obtain ⟨f', rfl⟩ : ∃ f', f = f' + 1 := ⟨f - 1, by omega⟩
    have H := h
    obtain ⟨h1, h2, h3, h4, h5, -⟩ := H
    have a1 : qA s 31 = qA s0 31 := h1.A (fun w => by unfold sL at w; omega)
    have a2 : qA s 32 = qA s0 32 := h1.A (fun w => by unfold sL at w; omega)
    have a3 : qA s 33 = qA s0 33 := h1.A (fun w => by unfold sL at w; omega)
    have ry : tR s y = tR s0 y := by
      have := (h5 y (by omega)).2
      rw [h4 y (by omega)] at this
      exact this
    rw [fxX5_attachLatest_22]
    simp only [i_m1, if_neg (i_lt0 (by omega : y < 2147483648)), gR_5_0 s29, gR_3_1 s30', gR_3_2 s30', gR_3_3 s30', Option.bind_some, aI_N e1' hkn (by decide), aI_N e2' hkn (by decide), aI_N e3' hkn (by decide), kO_5 s29]
    rcases c_beyond (N := N) (t := y) (x := (qA s 31 kn).toInt64) (y := (qA s 32 kn).toInt64) (z := (qA s 33 kn).toInt64) (s := s) (by omega) with ⟨q, b⟩ | ⟨q, b⟩
    · have hb : byd (tR s0 y) (qA s0 31 kn).toInt64 (qA s0 32 kn).toInt64 (qA s0 33 kn).toInt64 := by
        rw [← ry, ← a1, ← a2, ← a3]
        exact b
      obtain ⟨T1, rfl⟩ : ∃ T1, T = T1 + 1 := ⟨T - 1, by omega⟩
      obtain ⟨u, v, w, hu, hv, hw, g1, g2, g3, -⟩ := ro y (by omega)
      obtain ⟨-, -, r3, r4, r5, -⟩ := tR_N ry
      have bT : qA s 36 T1 = 0 ∨ qA s 36 T1 = 1 := by
        obtain ⟨w1, w2⟩ := h5 T1 (by omega)
        obtain ⟨-, -, -, -, -, z⟩ := tR_N w2
        obtain ⟨_, _, _, _, _, _, _, _, _, _, _, zz⟩ := ro _ w1
        rw [z]
        exact zz
      obtain ⟨s', q', c, k1, k5, r1, r2, b1, b2, b3⟩ := c_tear (N := N) (t := y) (T := T1) (m := 3 * M) (s := s) hN (by omega) (by omega) h3.1 h3.2 (by omega) bT (r3.trans g1) (r4.trans g2) (r5.trans g3) (by omega) (by omega) (by omega)
      rw [q, Option.bind_some, if_neg (show ¬ ((1 : Int32) = 0) by decide)]
      simp only [kO_5 s29, Option.bind_some, q']
      unfold fxX5_attachLatest_69
      rw [i_pm]
      exact ih f' s' T1 (M + 1) _ _ (by omega) (TI_tear h hb c k1 k5 r1 r2 b1 b2 b3 g1 g2 g3 (by omega) (by omega) (by omega))
    · have hb : ¬ byd (tR s0 y) (qA s0 31 kn).toInt64 (qA s0 32 kn).toInt64 (qA s0 33 kn).toInt64 := by
        rw [← ry, ← a1, ← a2, ← a3]
        exact fun w => w b
      rw [q, Option.bind_some, if_pos rfl]
      unfold fxX5_attachLatest_69
      rw [i_pm]
      exact ih f' s T M p o (by omega) (TI_keep h hb)
