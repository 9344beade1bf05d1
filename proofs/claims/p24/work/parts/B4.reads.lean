/-- it comes back, and what comes back is such -/
def OK {β : Type} (Q : β → Prop) (o : Option β) : Prop := ∃ r, o = some r ∧ Q r
theorem OK_s {β : Type} {Q : β → Prop} {r : β} (h : Q r) : OK Q (some r) := ⟨r, rfl, h⟩
theorem OK_b {α β : Type} {Q : β → Prop} {x : Option α} {a : α} {f : α → Option β} (h : x = some a) (k : OK Q (f a)) : OK Q (x.bind f) := by
  rw [h]
  exact k
theorem OK_c {α β : Type} {Q' : α → Prop} {Q : β → Prop} {x : Option α} {f : α → Option β} (h : OK Q' x) (k : ∀ r, Q' r → OK Q (f r)) : OK Q (x.bind f) := by
  obtain ⟨r, e, q⟩ := h
  rw [e]
  exact k r q
theorem OK_i {β : Type} {Q : β → Prop} {c : Prop} [Decidable c] {a b : Option β} (h1 : c → OK Q a) (h2 : ¬ c → OK Q b) : OK Q (if c then a else b) := by
  by_cases w : c
  · rw [if_pos w]
    exact h1 w
  · rw [if_neg w]
    exact h2 w
theorem OK_p {β : Type} {Q : β → Prop} {c : Prop} [Decidable c] {a b : Option β} (w : c) (h : OK Q a) : OK Q (if c then a else b) := by
  rw [if_pos w]
  exact h
theorem OK_n {β : Type} {Q : β → Prop} {c : Prop} [Decidable c] {a b : Option β} (w : ¬ c) (h : OK Q b) : OK Q (if c then a else b) := by
  rw [if_neg w]
  exact h
/-- nothing has changed -/
def RD (s : cS) {α : Type} (r : mh × α) : Prop := r.1 = hC s
theorem c_steep {N : Nat} {x y z : Int64} {s : cS} : fxX0_steepness N x y z (hC s) = some (hC s, x * x + y * y + z * z) := rfl
theorem c_wa16 {N b n F f : Nat} {R : Nat → Nat} {s : cS} (hb : isB b) (hF : F ≤ 44) (hn : n ≤ 24) (h : RS s b n F R) (hf : f < F) : ∀ (r i fu : Nat) (x : Int64), R (f + 1) ≤ i + 1 + r → r < fu → R f < i → i ≤ 133 → OK (RD s) (fxX0_wholeArea_16 N fu b (Int32.ofNat f) x (Int32.ofNat (R f)) (Int32.ofNat i) (hC s)) := by
  obtain ⟨h0, hp, h5, h6, h7, -⟩ := isB_sh hb
  have R132 := (h.2.1 (f + 1) (by omega)).1
  have e1 := (h.2.1 (f + 1) (by omega)).2
  have RF := RS_le h (show f + 1 ≤ F by omega)
  have fin : ∀ x : Int64, OK (RD s) ((gR (hC s) b 0 3).bind fun v10 => (aI (hC s) v10 ((4 : Int32) * Int32.ofNat f)).bind fun v12 => (gR (hC s) b 0 3).bind fun v14 => (aI (hC s) v14 (((4 : Int32) * Int32.ofNat f) + (1 : Int32))).bind fun v16 => (gR (hC s) b 0 3).bind fun v18 => (aI (hC s) v18 (((4 : Int32) * Int32.ofNat f) + (2 : Int32))).bind fun v20 => (fxX0_steepness N v12.toInt64 v16.toInt64 v20.toInt64 (hC s)).bind fun o22 => if o22.2 ≤ (0 : Int64) then (some (o22.1, (0 : Int64))) else (if o22.2 = 0 then none else some (o22.1, (x / o22.2)))) := by
    intro x
    obtain ⟨c1, c2, -⟩ := i_c4s f
    rw [c1, c2, i_c4]
    refine OK_b (gR_0_3 h0) (OK_b (aI_N h5 (show 4 * f < 176 by omega) (by decide)) (OK_b (gR_0_3 h0) (OK_b (aI_N h5 (show 4 * f + 1 < 176 by omega) (by decide)) (OK_b (gR_0_3 h0) (OK_b (aI_N h5 (show 4 * f + 2 < 176 by omega) (by decide)) (OK_b c_steep (OK_i (fun _ => OK_s rfl) (fun w => OK_n (fun e => w ?_) (OK_s rfl)))))))))
    dsimp only at e ⊢
    rw [e]
    exact Int64.le_refl _
  intro r
  induction r with
  | zero =>
    intro i fu x hi hfu h1 h2
    obtain ⟨fu', rfl⟩ : ∃ f', fu = f' + 1 := ⟨fu - 1, by omega⟩
    have le : Int32.ofNat (R (f + 1)) ≤ Int32.ofNat (i + 1) := by
      rw [i_le (by omega) (by omega)]
      omega
    rw [fxX0_wholeArea_16, i_s, i_s]
    refine OK_b (gR_0_4 h0) (OK_b (aI_N h6 (show f + 1 < 45 by omega) (by decide)) ?_)
    rw [e1]
    exact OK_p le (fin x)
  | succ r ih =>
    intro i fu x hi hfu h1 h2
    obtain ⟨fu', rfl⟩ : ∃ f', fu = f' + 1 := ⟨fu - 1, by omega⟩
    rw [fxX0_wholeArea_16, i_s, i_s]
    refine OK_b (gR_0_4 h0) (OK_b (aI_N h6 (show f + 1 < 45 by omega) (by decide)) ?_)
    rw [e1]
    refine OK_i (fun _ => fin x) (fun w => ?_)
    rw [i_le (by omega) (by omega)] at w
    obtain ⟨k1, l1, y1⟩ := h.2.2 (R f) (by omega)
    obtain ⟨k2, l2, y2⟩ := h.2.2 i (by omega)
    obtain ⟨k3, l3, y3⟩ := h.2.2 (i + 1) (by omega)
    obtain ⟨v, q⟩ := c_facing (N := N) (s := s) hb (show f < 44 by omega) (show k1 < 24 by omega) (show k2 < 24 by omega) (show k3 < 24 by omega)
    refine OK_b (gR_0_5 h0) (OK_b (aI_N h7 (show R f < 132 by omega) (by decide)) (OK_b (gR_0_5 h0) (OK_b (aI_N h7 (show i < 132 by omega) (by decide)) (OK_b (gR_0_5 h0) (OK_b (aI_N h7 (show i + 1 < 132 by omega) (by decide)) (OK_b (kO_0 h0) ?_))))))
    rw [y1, y2, y3]
    exact OK_b q (ih (i + 1) fu' (x + v) (by omega) (by omega) (by omega) (by omega))
/-- wholeArea -/
theorem c_wholeArea {N b n F f : Nat} {R : Nat → Nat} {s : cS} (hN : 600 < N) (hb : isB b) (hF : F ≤ 44) (hn : n ≤ 24) (h : RS s b n F R) (hf : f < F) : OK (RD s) (fxX0_wholeArea N b (Int32.ofNat f) (hC s)) := by
  obtain ⟨h0, hp, h5, h6, h7, -⟩ := isB_sh hb
  have R132 := (h.2.1 (f + 1) (by omega)).1
  have R0 := h.2.1 f (by omega)
  unfold fxX0_wholeArea
  refine OK_b (gR_0_4 h0) (OK_b (aI_N h6 (show f < 45 by omega) (by decide)) ?_)
  rw [R0.2, i_s]
  exact c_wa16 hb hF hn h hf 132 (R f + 1) N 0 (by omega) (by omega) (by omega) (by omega)
theorem c_au86 {N b n F f a : Nat} {x1 : Int32} {R : Nat → Nat} {s : cS} {x6 : Int32} {rec : Nat → Int32 → Nat → Int64 → Int32 → mh → Option (mh × Int64)} (hb : isB b) (ha : shp a = (10, 24)) (hF : F ≤ 44) (hn : n ≤ 24) (h : RS s b n F R) (hf : f < F) (hx6 : R f + 1 < R (f + 1) → ∃ k, k < 24 ∧ x6 = Int32.ofNat k) (hr : ∀ x, OK (RD s) (rec b x1 a x (Int32.ofNat (f + 1)) (hC s))) : ∀ (r i fu : Nat) (x : Int64), R (f + 1) ≤ i + 1 + r → r < fu → i ≤ 133 → R f < i → OK (RD s) (fxX0_addUpPieces_86 N rec fu b x1 a x (Int32.ofNat f) x6 (Int32.ofNat i) (hC s)) := by
  obtain ⟨h0, hp, h5, h6, h7, -⟩ := isB_sh hb
  obtain ⟨hp3, -⟩ := pt_sh hp
  have R132 := (h.2.1 (f + 1) (by omega)).1
  have e1 := (h.2.1 (f + 1) (by omega)).2
  have RF := RS_le h (show f + 1 ≤ F by omega)
  intro r
  induction r with
  | zero =>
    intro i fu x hi hfu h2 hRi
    obtain ⟨fu', rfl⟩ : ∃ f', fu = f' + 1 := ⟨fu - 1, by omega⟩
    have le : Int32.ofNat (R (f + 1)) ≤ Int32.ofNat (i + 1) := by
      rw [i_le (by omega) (by omega)]
      omega
    rw [fxX0_addUpPieces_86, i_s, i_s]
    refine OK_b (gR_0_4 h0) (OK_b (aI_N h6 (show f + 1 < 45 by omega) (by decide)) ?_)
    rw [e1]
    exact OK_p le (hr x)
  | succ r ih =>
    intro i fu x hi hfu h2 hRi
    obtain ⟨fu', rfl⟩ : ∃ f', fu = f' + 1 := ⟨fu - 1, by omega⟩
    rw [fxX0_addUpPieces_86, i_s, i_s]
    refine OK_b (gR_0_4 h0) (OK_b (aI_N h6 (show f + 1 < 45 by omega) (by decide)) ?_)
    rw [e1]
    refine OK_i (fun _ => hr x) (fun w => ?_)
    rw [i_le (by omega) (by omega)] at w
    obtain ⟨k1, hk1, ek1⟩ := hx6 (by omega)
    subst ek1
    obtain ⟨k2, l2, y2⟩ := h.2.2 i (by omega)
    obtain ⟨k3, l3, y3⟩ := h.2.2 (i + 1) (by omega)
    obtain ⟨v, q, -⟩ := c_box (N := N) (s := s) hp (by decide) (show 0 < 24 by omega) hk1 (show k2 < 24 by omega) (show k3 < 24 by omega)
    have q' : fxX3_boxOf N (b + 1) 0 (Int32.ofNat k1) (Int32.ofNat k2) (Int32.ofNat k3) (hC s) = some (hC s, v) := q
    have st : ∀ y : Int64, OK (RD s) (fxX0_addUpPieces_153 N rec (fxX0_addUpPieces_86 N rec fu') b x1 a x (Int32.ofNat f) (Int32.ofNat k1) (Int32.ofNat i) (Int32.ofNat k2) (Int32.ofNat k3) y (hC s)) := by
      intro y
      unfold fxX0_addUpPieces_153
      rw [i_s]
      exact OK_b (gR_0_1 h0) (OK_b (kO_3 hp3) (OK_b q' (ih (i + 1) fu' _ (by omega) (by omega) (by omega) (by omega))))
    refine OK_b (gR_0_5 h0) (OK_b (aI_N h7 (show i < 132 by omega) (by decide)) (OK_b (gR_0_5 h0) (OK_b (aI_N h7 (show i + 1 < 132 by omega) (by decide)) ?_)))
    rw [y2, y3]
    refine OK_i (fun _ => st _) (fun _ => ?_)
    refine OK_b (aI_N (k := 0) ha (by omega) (by decide)) (OK_b (aI_N ha hk1 (by decide)) (OK_b (aI_N ha (show k2 < 24 by omega) (by decide)) (OK_b (aI_N ha (show k3 < 24 by omega) (by decide)) (st _))))
theorem c_au52 {N b n F a : Nat} {x1 : Int32} {R : Nat → Nat} {s : cS} (hN : 600 < N) (hb : isB b) (ha : shp a = (10, 24)) (hF : F ≤ 44) (hn : n ≤ 24) (h : 0 < F → RS s b n F R) (h2 : qI s b 2 = Int32.ofNat F) (hR : ∀ f, f < F → R f < 132) : ∀ (r f fu : Nat) (x : Int64), f + r = F → r < fu → OK (RD s) (fxX0_addUpPieces_52 N fu b x1 a x (Int32.ofNat f) (hC s)) := by
  obtain ⟨h0, hp, h5, h6, h7, -⟩ := isB_sh hb
  intro r
  induction r with
  | zero =>
    intro f fu x hf hfu
    obtain ⟨fu', rfl⟩ : ∃ f', fu = f' + 1 := ⟨fu - 1, by omega⟩
    have e : f = F := by omega
    subst e
    rw [fxX0_addUpPieces_52]
    refine OK_b (gI_0_2 h0) ?_
    rw [h2]
    exact OK_p (Int32.le_refl _) (OK_s rfl)
  | succ r ih =>
    intro f fu x hf hfu
    obtain ⟨fu', rfl⟩ : ∃ f', fu = f' + 1 := ⟨fu - 1, by omega⟩
    have ne : ¬ (Int32.ofNat F ≤ Int32.ofNat f) := by
      rw [i_le (by omega) (by omega)]
      omega
    have rs := h (by omega)
    have Rf := rs.2.1 f (by omega)
    have R1 := rs.2.1 (f + 1) (by omega)
    have RF := RS_le rs (show f + 1 ≤ F by omega)
    rw [fxX0_addUpPieces_52]
    refine OK_b (gI_0_2 h0) ?_
    rw [h2]
    refine OK_n ne (OK_b (gR_0_5 h0) (OK_b (gR_0_4 h0) (OK_b (aI_N h6 (show f < 45 by omega) (by decide)) ?_)))
    rw [Rf.2]
    refine OK_b (aI_N h7 (hR f (by omega)) (by decide)) (OK_b (gR_0_4 h0) (OK_b (aI_N h6 (show f < 45 by omega) (by decide)) ?_))
    rw [Rf.2, i_s]
    refine c_au86 hb ha hF hn rs (by omega) (fun w => ?_) (fun x => ih (f + 1) fu' x (by omega) (by omega)) 132 (R f + 1) N x (by omega) (by omega) (by omega) (by omega)
    obtain ⟨k1, l1, y1⟩ := rs.2.2 (R f) (by omega)
    exact ⟨k1, by omega, y1⟩
/-- addUpPieces -/
theorem c_addUp {N b : Nat} {x1 : Int32} {s : cS} (hN : 600 < N) (hb : isB b) (bo : BO s b) : OK (RD s) (fxX0_addUpPieces N b x1 (hC s)) := by
  obtain ⟨kd, n, F, E, R, h1, h2, h3, h4, h5, h6, h7, h8, h9, h10, h11, -⟩ := bo
  obtain ⟨b0, hp, -⟩ := isB_sh hb
  obtain ⟨hp3, d1, d2, d3⟩ := pt_sh hp
  unfold fxX0_addUpPieces
  refine OK_b (gI_0_0 b0) ?_
  rw [h5]
  refine OK_i (fun w => ?_) (fun _ => OK_s rfl)
  have k4 : kd = 4 := i_inj (b := 4) (by omega) (by omega) w
  have go : ∀ a, shp a = (10, 24) → OK (RD s) (fxX0_addUpPieces_46 N b x1 a (hC s)) := fun a ha => by
    unfold fxX0_addUpPieces_46
    exact c_au52 hN hb ha h3 h2 h10 h7 (h11 k4).2 F 0 N 0 (by omega) (by omega)
  refine OK_i (fun _ => OK_b (gR_0_1 b0) (OK_b (gR_3_1 hp3) (go _ d1))) (fun _ => OK_i (fun _ => OK_b (gR_0_1 b0) (OK_b (gR_3_2 hp3) (go _ d2))) (fun _ => OK_b (gR_0_1 b0) (OK_b (gR_3_3 hp3) (go _ d3))))
theorem c_six {N b : Nat} {s : cS} (hN : 600 < N) (hb : isB b) (bo : BO s b) : OK (RD s) (fxX0_sixVolumes N b (hC s)) := by
  obtain ⟨b0, -⟩ := isB_sh hb
  unfold fxX0_sixVolumes
  exact OK_b (kO_0 b0) (OK_c (c_addUp hN hb bo) (fun r e => OK_s e))
theorem c_moment {N b : Nat} {x : Int32} {s : cS} (hN : 600 < N) (hb : isB b) (bo : BO s b) : OK (RD s) (fxX0_moment N b x (hC s)) := by
  obtain ⟨b0, -⟩ := isB_sh hb
  unfold fxX0_moment
  exact OK_b (kO_0 b0) (OK_c (c_addUp hN hb bo) (fun r e => OK_s e))
theorem c_laf6 {N b F : Nat} {x y z q : Int64} {s : cS} (hb : isB b) (hF : F ≤ 44) (h2 : qI s b 2 = Int32.ofNat F) : ∀ (r f fu : Nat) (a : Int32), f + r = F → r < fu → OK (RD s) (fxX0_locateAmongFaces_6 N fu b x y z q a (Int32.ofNat f) (hC s)) := by
  obtain ⟨h0, -⟩ := isB_sh hb
  intro r
  induction r with
  | zero =>
    intro f fu a hf hfu
    obtain ⟨fu', rfl⟩ : ∃ f', fu = f' + 1 := ⟨fu - 1, by omega⟩
    have e : f = F := by omega
    subst e
    rw [fxX0_locateAmongFaces_6]
    refine OK_b (gI_0_2 h0) ?_
    rw [h2]
    exact OK_p (Int32.le_refl _) (OK_s rfl)
  | succ r ih =>
    intro f fu a hf hfu
    obtain ⟨fu', rfl⟩ : ∃ f', fu = f' + 1 := ⟨fu - 1, by omega⟩
    have ne : ¬ (Int32.ofNat F ≤ Int32.ofNat f) := by
      rw [i_le (by omega) (by omega)]
      omega
    rw [fxX0_locateAmongFaces_6]
    unfold fxX0_locateAmongFaces_48
    rw [i_s]
    refine OK_b (gI_0_2 h0) ?_
    rw [h2]
    exact OK_n ne (OK_b (kO_0 h0) (OK_b (c_excess hb (by omega)) (OK_i (fun _ => OK_i (fun _ => ih (f + 1) fu' _ (by omega) (by omega)) (fun _ => ih (f + 1) fu' _ (by omega) (by omega))) (fun _ => OK_s rfl))))
theorem c_if28 {N b n F : Nat} {R : Nat → Nat} {x y z q : Int64} {s : cS} (hb : isB b) (hF : F ≤ 44) (hF0 : 0 < F) (hn : n ≤ 24) (h : RS s b n F R) : ∀ (r i fu : Nat), R 1 ≤ i + r → r < fu → i ≤ 132 → OK (RD s) (fxX0_isInFigure_28 N fu b x y z q (Int32.ofNat i) (hC s)) := by
  obtain ⟨h0, hp, h5, h6, h7, -⟩ := isB_sh hb
  obtain ⟨hp3, d1, d2, d3⟩ := pt_sh hp
  have R1 := h.2.1 1 (by omega)
  have RF := RS_le h (show 1 ≤ F by omega)
  have e1 : aI (hC s) (b + 6) 1 = some (Int32.ofNat (R 1)) := by
    rw [← R1.2]
    exact aI_N (k := 1) h6 (by omega) (by decide)
  intro r
  induction r with
  | zero =>
    intro i fu hi hfu h2
    obtain ⟨fu', rfl⟩ : ∃ f', fu = f' + 1 := ⟨fu - 1, by omega⟩
    rw [fxX0_isInFigure_28]
    refine OK_b (gR_0_4 h0) (OK_b e1 ?_)
    exact OK_p (by rw [i_le (by omega) (by omega)]; omega) (OK_s rfl)
  | succ r ih =>
    intro i fu hi hfu h2
    obtain ⟨fu', rfl⟩ : ∃ f', fu = f' + 1 := ⟨fu - 1, by omega⟩
    rw [fxX0_isInFigure_28, i_s]
    refine OK_b (gR_0_4 h0) (OK_b e1 (OK_i (fun _ => OK_s rfl) (fun w => ?_)))
    rw [i_le (by omega) (by omega)] at w
    obtain ⟨k1, l1, y1⟩ := h.2.2 i (by omega)
    refine OK_b (gR_0_5 h0) (OK_b (aI_N h7 (show i < 132 by omega) (by decide)) (OK_b (gR_0_5 h0) (OK_b (gR_0_4 h0) (OK_b e1 ?_))))
    rw [y1]
    have st : ∀ j, j < R 1 → OK (RD s) (fxX0_isInFigure_73 N (fxX0_isInFigure_28 N fu') b x y z q (Int32.ofNat i) (Int32.ofNat k1) (Int32.ofNat j) (b + 7) (hC s)) := by
      intro j hj
      obtain ⟨k2, l2, y2⟩ := h.2.2 j (by omega)
      unfold fxX0_isInFigure_73
      rw [i_s]
      refine OK_b (aI_N h7 (show j < 132 by omega) (by decide)) ?_
      rw [y2]
      have pl : ∀ k, k < 176 → aI (hC s) (b + 5) (Int32.ofNat k) = some (qA s (b + 5) k) := fun k hk => aI_N h5 hk (by decide)
      have x1 : ∀ k, k < 24 → aI (hC s) (b + 1 + 1) (Int32.ofNat k) = some (qA s (b + 1 + 1) k) := fun k hk => aI_N d1 hk (by decide)
      have x2 : ∀ k, k < 24 → aI (hC s) (b + 1 + 2) (Int32.ofNat k) = some (qA s (b + 1 + 2) k) := fun k hk => aI_N d2 hk (by decide)
      have x3 : ∀ k, k < 24 → aI (hC s) (b + 1 + 3) (Int32.ofNat k) = some (qA s (b + 1 + 3) k) := fun k hk => aI_N d3 hk (by decide)
      have m1 : k1 < 24 := by omega
      have m2 : k2 < 24 := by omega
      refine OK_b (gR_0_1 h0) (OK_b (gR_3_1 hp3) (OK_b (x1 k2 m2) (OK_b (gR_0_1 h0) (OK_b (gR_3_1 hp3) (OK_b (x1 k1 m1) ?_)))))
      refine OK_b (gR_0_1 h0) (OK_b (gR_3_2 hp3) (OK_b (x2 k2 m2) (OK_b (gR_0_1 h0) (OK_b (gR_3_2 hp3) (OK_b (x2 k1 m1) ?_)))))
      refine OK_b (gR_0_1 h0) (OK_b (gR_3_3 hp3) (OK_b (x3 k2 m2) (OK_b (gR_0_1 h0) (OK_b (gR_3_3 hp3) (OK_b (x3 k1 m1) ?_)))))
      refine OK_b (gR_0_3 h0) (OK_b (pl 2 (by omega)) (OK_b (gR_0_3 h0) (OK_b (pl 1 (by omega)) (OK_b (gR_0_1 h0) (OK_b (gR_3_1 hp3) (OK_b (x1 k1 m1) ?_))))))
      refine OK_b (gR_0_3 h0) (OK_b (pl 0 (by omega)) (OK_b (gR_0_3 h0) (OK_b (pl 2 (by omega)) (OK_b (gR_0_1 h0) (OK_b (gR_3_2 hp3) (OK_b (x2 k1 m1) ?_))))))
      refine OK_b (gR_0_3 h0) (OK_b (pl 1 (by omega)) (OK_b (gR_0_3 h0) (OK_b (pl 0 (by omega)) (OK_b (gR_0_1 h0) (OK_b (gR_3_3 hp3) (OK_b (x3 k1 m1) ?_))))))
      exact OK_i (fun _ => ih (i + 1) fu' (by omega) (by omega) (by omega)) (fun _ => OK_s rfl)
    refine OK_i (fun _ => st 0 (by omega)) (fun w2 => ?_)
    rw [i_le (by omega) (by omega)] at w2
    exact st (i + 1) (by omega)
/-- isOnLine -/
theorem c_onLine {N b n : Nat} {x y z q : Int64} {s : cS} (hb : isB b) (hn : n ≤ 24) (h1 : qI s (b + 1) 0 = Int32.ofNat n) : OK (RD s) (fxX0_isOnLine N b x y z q (hC s)) := by
  obtain ⟨h0, hp, -⟩ := isB_sh hb
  obtain ⟨hp3, d1, d2, d3⟩ := pt_sh hp
  unfold fxX0_isOnLine
  refine OK_b (gR_0_1 h0) (OK_b (gI_3_0 hp3) ?_)
  rw [h1]
  by_cases c : n = 0
  · subst c
    exact OK_n (by decide) (OK_s rfl)
  · obtain ⟨m, rfl⟩ : ∃ m, n = m + 1 := ⟨n - 1, by omega⟩
    rw [i_m1]
    have lt : m < 24 := by omega
    have x1 : ∀ k, k < 24 → aI (hC s) (b + 1 + 1) (Int32.ofNat k) = some (qA s (b + 1 + 1) k) := fun k hk => aI_N d1 hk (by decide)
    have x2 : ∀ k, k < 24 → aI (hC s) (b + 1 + 2) (Int32.ofNat k) = some (qA s (b + 1 + 2) k) := fun k hk => aI_N d2 hk (by decide)
    have x3 : ∀ k, k < 24 → aI (hC s) (b + 1 + 3) (Int32.ofNat k) = some (qA s (b + 1 + 3) k) := fun k hk => aI_N d3 hk (by decide)
    refine OK_i (fun _ => ?_) (fun _ => OK_s rfl)
    refine OK_b (gR_0_1 h0) (OK_b (gR_3_1 hp3) (OK_b (x1 m lt) (OK_b (gR_0_1 h0) (OK_b (gR_3_1 hp3) (OK_b (x1 0 (by omega)) ?_)))))
    refine OK_b (gR_0_1 h0) (OK_b (gR_3_2 hp3) (OK_b (x2 m lt) (OK_b (gR_0_1 h0) (OK_b (gR_3_2 hp3) (OK_b (x2 0 (by omega)) ?_)))))
    refine OK_b (gR_0_1 h0) (OK_b (gR_3_3 hp3) (OK_b (x3 m lt) (OK_b (gR_0_1 h0) (OK_b (gR_3_3 hp3) (OK_b (x3 0 (by omega)) ?_)))))
    refine OK_b (gR_0_1 h0) (OK_b (gR_3_1 hp3) (OK_b (x1 0 (by omega)) (OK_b (gR_0_1 h0) (OK_b (gR_3_2 hp3) (OK_b (x2 0 (by omega)) (OK_b (gR_0_1 h0) (OK_b (gR_3_3 hp3) (OK_b (x3 0 (by omega)) ?_))))))))
    refine OK_i (fun _ => OK_i (fun _ => OK_i (fun _ => OK_i (fun _ => OK_s rfl) (fun _ => OK_s rfl)) (fun _ => OK_s rfl)) (fun _ => OK_s rfl)) (fun _ => OK_i (fun _ => OK_i (fun _ => OK_i (fun _ => OK_i (fun _ => OK_s rfl) (fun _ => OK_b c_steep (OK_i (fun _ => OK_s rfl) (fun _ => OK_s rfl)))) (fun _ => OK_s rfl)) (fun _ => OK_s rfl)) (fun _ => OK_s rfl))
/-- locate -/
theorem c_locate {N b : Nat} {x y z q : Int64} {s : cS} (hN : 600 < N) (hb : isB b) (bo : BO s b) : OK (RD s) (fxX0_locate N b x y z q (hC s)) := by
  obtain ⟨kd, n, F, E, R, h1, h2, h3, h4, h5, h6, h7, h8, h9, h10, h11, -⟩ := bo
  obtain ⟨b0, -⟩ := isB_sh hb
  have fin : ∀ (a : Int32) (h' : mh), h' = hC s → OK (RD s) (fxX0_locate_59 N a h') := fun a h' e => by
    unfold fxX0_locate_59
    exact OK_i (fun _ => OK_s e) (fun _ => OK_s e)
  unfold fxX0_locate
  refine OK_b (gI_0_0 b0) (OK_i (fun _ => OK_s rfl) (fun _ => OK_b (gI_0_0 b0) (OK_i (fun _ => OK_b (kO_0 b0) (OK_c (Q' := RD s) ?_ (fun r e => OK_s e))) (fun _ => OK_b (gI_0_0 b0) (OK_i (fun _ => OK_b (kO_0 b0) (OK_c (Q' := RD s) ?_ (fun r e => fin _ _ e))) (fun _ => OK_b (kO_0 b0) (OK_c (c_onLine hb h2 h6) (fun r e => fin _ _ e))))))))
  · unfold fxX0_locateAmongFaces
    exact c_laf6 hb h3 h7 F 0 N _ (by omega) (by omega)
  · unfold fxX0_isInFigure
    refine OK_b (gI_0_2 b0) ?_
    rw [h7]
    refine OK_i (fun _ => OK_s rfl) (fun w => ?_)
    have F0 : 0 < F := by
      by_cases c : F = 0
      · exact absurd (by rw [c]; rfl) w
      · omega
    refine OK_b (kO_0 b0) (OK_b (c_excess (f := 0) hb (by omega)) (OK_i (fun _ => ?_) (fun _ => OK_s rfl)))
    exact c_if28 hb h3 F0 h2 (h10 F0) 132 0 N (by have := ((h10 F0).2.1 1 (by omega)).1; omega) (by omega) (by omega)
