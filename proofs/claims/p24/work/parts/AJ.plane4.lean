/-- the planes stand in order, none twice -/
def srtB (s : cS) (b F : Nat) : Prop := ∀ f f', f < f' → f' < F → lxl (bN s b f) (bN s b f')
theorem lxl_ir (a : V3) : ¬ lxl a a := by
  unfold lxl
  omega
/-- what addPlane does with a plane whose way is w -/
def apO (s s' : cS) (b F : Nat) (w : V3) (r : Int32 × Int32 × Int32 × Int32) : Prop := (s' = s ∧ ∃ f, f < F ∧ bN s b f = w) ∨ ∃ x, x ≤ F ∧ bpI s s' b F x r ∧ (∀ f, f < x → lxl (bN s b f) w) ∧ (∀ f, x ≤ f → f < F → lxl w (bN s b f))
theorem c_pl78 {N b F x : Nat} {p1 p2 p3 p4 G : Int32} {s : cS} (hb : isB b) (hF : F < 44) (hx : x ≤ F) (h2 : qI s b 2 = Int32.ofNat F) (hG : G ≠ 0) (so : srtB s b F) (lo : ∀ f, f < x → lxl (bN s b f) ((p1 / G).toInt, (p2 / G).toInt, (p3 / G).toInt)) (hi : x < F → ¬ lxl (bN s b x) ((p1 / G).toInt, (p2 / G).toInt, (p3 / G).toInt)) : ∃ s', fxX0_addPlane_78 N b p1 p2 p3 p4 G (Int32.ofNat x) (hC s) = some (hC s') ∧ apO s s' b F ((p1 / G).toInt, (p2 / G).toInt, (p3 / G).toInt) (p1 / G, p2 / G, p3 / G, p4 / G) := by
  obtain ⟨h0, -⟩ := isB_sh hb
  obtain ⟨s', q, k⟩ := c_pl109 (N := N) (p1 := p1) (p2 := p2) (p3 := p3) (p4 := p4) hb hF hx h2 hG
  unfold fxX0_addPlane_78
  rw [gI_0_2 h0, Option.bind_some, h2]
  by_cases c : x < F
  · have n1 : ¬ (Int32.ofNat F ≤ Int32.ofNat x) := by
      rw [i_le (by omega) (by omega)]
      omega
    rw [if_neg n1, if_neg hG, if_neg hG, if_neg hG, kO_0 h0, Option.bind_some]
    obtain ⟨r, q2, k2⟩ := c_cmp (N := N) (f := x) (x := p1 / G) (y := p2 / G) (z := p3 / G) (s := s) hb (by omega)
    rw [q2, Option.bind_some]
    rcases k2 with ⟨e, l⟩ | ⟨e, l⟩ | ⟨e, l⟩
    · exact absurd l (hi c)
    · subst e
      exact ⟨s, by rw [if_pos rfl], .inl ⟨rfl, x, c, l⟩⟩
    · subst e
      refine ⟨s', by rw [if_neg (show ¬ ((1 : Int32) = 0) by decide)]; exact q, .inr ⟨x, hx, k, lo, fun f h1 h3 => ?_⟩⟩
      by_cases d : f = x
      · rw [d]
        exact l
      · exact lxl_tr l (so x f (by omega) h3)
  · have e : x = F := by omega
    rw [if_pos (by rw [e]; exact Int32.le_refl _)]
    exact ⟨s', q, .inr ⟨x, hx, k, lo, fun f h1 h3 => absurd h3 (by omega)⟩⟩
theorem c_pl42 {N b F : Nat} {p1 p2 p3 p4 G : Int32} {s : cS} (hb : isB b) (hF : F < 44) (h2 : qI s b 2 = Int32.ofNat F) (hG : G ≠ 0) (so : srtB s b F) : ∀ (y f x : Nat), x + y = F → y < f → (∀ f, f < x → lxl (bN s b f) ((p1 / G).toInt, (p2 / G).toInt, (p3 / G).toInt)) → ∃ s', fxX0_addPlane_42 N f b p1 p2 p3 p4 G (Int32.ofNat x) (hC s) = some (hC s') ∧ apO s s' b F ((p1 / G).toInt, (p2 / G).toInt, (p3 / G).toInt) (p1 / G, p2 / G, p3 / G, p4 / G) := by
  obtain ⟨h0, -⟩ := isB_sh hb
  intro y
  induction y with
  | zero =>
    intro f x hx hf lo
    obtain ⟨f', rfl⟩ : ∃ f', f = f' + 1 := ⟨f - 1, by omega⟩
    rw [fxX0_addPlane_42, gI_0_2 h0, Option.bind_some, h2, if_pos (by rw [show x = F by omega]; exact Int32.le_refl _)]
    exact c_pl78 hb hF (by omega) h2 hG so lo (fun w => absurd w (by omega))
  | succ y ih =>
    intro f x hx hf lo
    obtain ⟨f', rfl⟩ : ∃ f', f = f' + 1 := ⟨f - 1, by omega⟩
    have n1 : ¬ (Int32.ofNat F ≤ Int32.ofNat x) := by
      rw [i_le (by omega) (by omega)]
      omega
    rw [fxX0_addPlane_42, gI_0_2 h0, Option.bind_some, h2, if_neg n1, if_neg hG, if_neg hG, if_neg hG, kO_0 h0, Option.bind_some]
    obtain ⟨r, q2, k2⟩ := c_cmp (N := N) (f := x) (x := p1 / G) (y := p2 / G) (z := p3 / G) (s := s) hb (by omega)
    rw [q2, Option.bind_some]
    rcases k2 with ⟨e, l⟩ | ⟨e, l⟩ | ⟨e, l⟩
    · subst e
      rw [if_neg (show ¬ ((0 : Int32) ≤ -1) by decide), i_s]
      exact ih f' (x + 1) (by omega) (by omega) (fun f hf => by
        by_cases d : f = x
        · rw [d]
          exact l
        · exact lo f (by omega))
    · subst e
      rw [if_pos (show (0 : Int32) ≤ 0 by decide)]
      exact c_pl78 hb hF (by omega) h2 hG so lo (fun _ w => by rw [l] at w; exact lxl_ir _ w)
    · subst e
      rw [if_pos (show (0 : Int32) ≤ 1 by decide)]
      exact c_pl78 hb hF (by omega) h2 hG so lo (fun _ w => lxl_ir _ (lxl_tr w l))
/-- addPlane: the plane without its common divisor is put in at its place, unless there is none, or it is there, or there are 44 -/
theorem c_addPlane {N M b F : Nat} {p1 p2 p3 p4 : Int32} {s : cS} (hN : 100000 < N) (hM : M < 99999) (hb : isB b) (hF : F ≤ 44) (h2 : qI s b 2 = Int32.ofNat F) (so : srtB s b F) (bd : bd3 (p1.toInt, p2.toInt, p3.toInt) M) : ∃ s', fxX0_addPlane N b p1 p2 p3 p4 (hC s) = some (hC s') ∧ ((s' = s ∧ ((p1.toInt, p2.toInt, p3.toInt) = v0 ∨ F = 44)) ∨ (F < 44 ∧ ∃ G g m, 0 < g ∧ G.toInt = g ∧ (p1.toInt, p2.toInt, p3.toInt) = vl g m 0 v0 ∧ (∃ x, vd m x = 1) ∧ bd3 m M ∧ ((p1 / G).toInt, (p2 / G).toInt, (p3 / G).toInt) = m ∧ apO s s' b F m (p1 / G, p2 / G, p3 / G, p4 / G))) := by
  obtain ⟨h0, -⟩ := isB_sh hb
  obtain ⟨g1, g2, e1, e2, k⟩ := c_gcd3 (N := N) (h := hC s) bd hM hN
  unfold fxX0_addPlane
  rw [e1, Option.bind_some]
  dsimp only
  rw [e2, Option.bind_some]
  dsimp only
  rcases k with ⟨k1, k2⟩ | ⟨k1, k2, g, m, k3, k4, k5, k6, k7, k8, k9, k10⟩
  · rw [if_pos k2]
    exact ⟨s, rfl, .inl ⟨rfl, .inl k1⟩⟩
  · rw [if_neg k2, gI_0_2 h0, Option.bind_some, h2]
    by_cases c : F < 44
    · have l : Int32.ofNat F < (44 : Int32) := by
        have := i_lt (a := F) (b := 44) (by omega) (by omega)
        show Int32.ofNat F < Int32.ofNat 44
        rw [this]
        exact c
      rw [if_pos l]
      obtain ⟨s', q, a⟩ := c_pl42 (N := N) (p1 := p1) (p2 := p2) (p3 := p3) (p4 := p4) hb c h2 k2 so F N 0 (by omega) (by omega) (fun f hf => absurd hf (by omega))
      have em : ((p1 / g2.toInt32).toInt, (p2 / g2.toInt32).toInt, (p3 / g2.toInt32).toInt) = m := v3_ext k7 k8 k9
      rw [em] at a
      exact ⟨s', q, .inr ⟨c, g2.toInt32, g, m, k3, k4, k5, k6, k10, em, a⟩⟩
    · have l : ¬ (Int32.ofNat F < (44 : Int32)) := by
        have := i_lt (a := F) (b := 44) (by omega) (by omega)
        show ¬ (Int32.ofNat F < Int32.ofNat 44)
        rw [this]
        exact c
      rw [if_neg l]
      exact ⟨s, rfl, .inl ⟨rfl, .inr (by omega)⟩⟩
