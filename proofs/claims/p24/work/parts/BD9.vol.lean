/-- a number of a point -/
def cx : Nat → V3 → Int
  | 0, v => v.1
  | 1, v => v.2.1
  | _ + 2, v => v.2.2
theorem cx_bd {v : V3} {A : Nat} (h : bd3 v A) (ax : Nat) : (cx ax v).natAbs ≤ A := by
  match ax with
  | 0 => exact h.1
  | 1 => exact h.2.1
  | _ + 2 => exact h.2.2
/-- how far a piece reaches along an axis; 3: each piece counts once -/
def rch (ax : Nat) (c p q r : V3) : Int := if ax = 3 then 1 else cx ax c + cx ax p + cx ax q + cx ax r
/-- a piece of four points -/
def cb (c p q r : V3) : Int := vd (vx (vs p c) (vs q c)) (vs r c)
def tV (P : Nat → V3) (ax : Nat) (ρ : Nat → Nat) (j : Nat) : Int := rch ax (P 0) (P (ρ 0)) (P (ρ (j + 1))) (P (ρ (j + 2))) * cb (P 0) (P (ρ 0)) (P (ρ (j + 1))) (P (ρ (j + 2)))
/-- the same as the reference has it -/
def sTr (ax : Nat) (p q r : V3) : Int := if ax = 3 then dt p q r else dt p q r * (cx ax p + cx ax q + cx ax r)
/-- what lies between, by sides -/
def gV (ax : Nat) (c p q : V3) : Int := if ax = 3 then -(vd c (vx p q)) else -(vd c (vx p q)) * (cx ax c + cx ax p + cx ax q)
theorem gV_sw (ax : Nat) (c p q : V3) : gV ax c p q = - gV ax c q p := by
  unfold gV
  by_cases e : ax = 3
  · rw [if_pos e, if_pos e, vx_sw c p q]
  · rw [if_neg e, if_neg e, vx_sw c p q, Int.neg_neg, Int.neg_mul, Int.neg_neg]
    congr 1
    omega
theorem sp_3 (c1 c2 c3 p1 p2 p3 q1 q2 q3 r1 r2 r3 : Int) : ((p2 - c2) * (q3 - c3) - (p3 - c3) * (q2 - c2)) * (r1 - c1) + ((p3 - c3) * (q1 - c1) - (p1 - c1) * (q3 - c3)) * (r2 - c2) + ((p1 - c1) * (q2 - c2) - (p2 - c2) * (q1 - c1)) * (r3 - c3) = ((p2 * q3 - p3 * q2) * r1 + (p3 * q1 - p1 * q3) * r2 + (p1 * q2 - p2 * q1) * r3) + (-(c1 * (p2 * q3 - p3 * q2) + c2 * (p3 * q1 - p1 * q3) + c3 * (p1 * q2 - p2 * q1)) + -(c1 * (q2 * r3 - q3 * r2) + c2 * (q3 * r1 - q1 * r3) + c3 * (q1 * r2 - q2 * r1)) + -(c1 * (r2 * p3 - r3 * p2) + c2 * (r3 * p1 - r1 * p3) + c3 * (r1 * p2 - r2 * p1))) := by grind
theorem sp_0 (c1 c2 c3 p1 p2 p3 q1 q2 q3 r1 r2 r3 : Int) : (c1 + p1 + q1 + r1) * (((p2 - c2) * (q3 - c3) - (p3 - c3) * (q2 - c2)) * (r1 - c1) + ((p3 - c3) * (q1 - c1) - (p1 - c1) * (q3 - c3)) * (r2 - c2) + ((p1 - c1) * (q2 - c2) - (p2 - c2) * (q1 - c1)) * (r3 - c3)) = ((p2 * q3 - p3 * q2) * r1 + (p3 * q1 - p1 * q3) * r2 + (p1 * q2 - p2 * q1) * r3) * (p1 + q1 + r1) + (-(c1 * (p2 * q3 - p3 * q2) + c2 * (p3 * q1 - p1 * q3) + c3 * (p1 * q2 - p2 * q1)) * (c1 + p1 + q1) + -(c1 * (q2 * r3 - q3 * r2) + c2 * (q3 * r1 - q1 * r3) + c3 * (q1 * r2 - q2 * r1)) * (c1 + q1 + r1) + -(c1 * (r2 * p3 - r3 * p2) + c2 * (r3 * p1 - r1 * p3) + c3 * (r1 * p2 - r2 * p1)) * (c1 + r1 + p1)) := by grind
theorem sp_1 (c1 c2 c3 p1 p2 p3 q1 q2 q3 r1 r2 r3 : Int) : (c2 + p2 + q2 + r2) * (((p2 - c2) * (q3 - c3) - (p3 - c3) * (q2 - c2)) * (r1 - c1) + ((p3 - c3) * (q1 - c1) - (p1 - c1) * (q3 - c3)) * (r2 - c2) + ((p1 - c1) * (q2 - c2) - (p2 - c2) * (q1 - c1)) * (r3 - c3)) = ((p2 * q3 - p3 * q2) * r1 + (p3 * q1 - p1 * q3) * r2 + (p1 * q2 - p2 * q1) * r3) * (p2 + q2 + r2) + (-(c1 * (p2 * q3 - p3 * q2) + c2 * (p3 * q1 - p1 * q3) + c3 * (p1 * q2 - p2 * q1)) * (c2 + p2 + q2) + -(c1 * (q2 * r3 - q3 * r2) + c2 * (q3 * r1 - q1 * r3) + c3 * (q1 * r2 - q2 * r1)) * (c2 + q2 + r2) + -(c1 * (r2 * p3 - r3 * p2) + c2 * (r3 * p1 - r1 * p3) + c3 * (r1 * p2 - r2 * p1)) * (c2 + r2 + p2)) := by grind
theorem sp_2 (c1 c2 c3 p1 p2 p3 q1 q2 q3 r1 r2 r3 : Int) : (c3 + p3 + q3 + r3) * (((p2 - c2) * (q3 - c3) - (p3 - c3) * (q2 - c2)) * (r1 - c1) + ((p3 - c3) * (q1 - c1) - (p1 - c1) * (q3 - c3)) * (r2 - c2) + ((p1 - c1) * (q2 - c2) - (p2 - c2) * (q1 - c1)) * (r3 - c3)) = ((p2 * q3 - p3 * q2) * r1 + (p3 * q1 - p1 * q3) * r2 + (p1 * q2 - p2 * q1) * r3) * (p3 + q3 + r3) + (-(c1 * (p2 * q3 - p3 * q2) + c2 * (p3 * q1 - p1 * q3) + c3 * (p1 * q2 - p2 * q1)) * (c3 + p3 + q3) + -(c1 * (q2 * r3 - q3 * r2) + c2 * (q3 * r1 - q1 * r3) + c3 * (q1 * r2 - q2 * r1)) * (c3 + q3 + r3) + -(c1 * (r2 * p3 - r3 * p2) + c2 * (r3 * p1 - r1 * p3) + c3 * (r1 * p2 - r2 * p1)) * (c3 + r3 + p3)) := by grind
/-- a piece seen from c, and the same seen from 0 0 0 -/
theorem tV_split {ax : Nat} (h : ax ≤ 3) (c p q r : V3) : rch ax c p q r * cb c p q r = sTr ax p q r + (gV ax c p q + gV ax c q r + gV ax c r p) := by
  obtain ⟨c1, c2, c3⟩ := c
  obtain ⟨p1, p2, p3⟩ := p
  obtain ⟨q1, q2, q3⟩ := q
  obtain ⟨r1, r2, r3⟩ := r
  rcases (show ax = 0 ∨ ax = 1 ∨ ax = 2 ∨ ax = 3 by omega) with e | e | e | e
  · subst e
    exact sp_0 c1 c2 c3 p1 p2 p3 q1 q2 q3 r1 r2 r3
  · subst e
    exact sp_1 c1 c2 c3 p1 p2 p3 q1 q2 q3 r1 r2 r3
  · subst e
    exact sp_2 c1 c2 c3 p1 p2 p3 q1 q2 q3 r1 r2 r3
  · subst e
    have := sp_3 c1 c2 c3 p1 p2 p3 q1 q2 q3 r1 r2 r3
    have e1 : rch 3 (c1, c2, c3) (p1, p2, p3) (q1, q2, q3) (r1, r2, r3) = 1 := rfl
    rw [e1, Int.one_mul]
    exact this
/-- all pieces together -/
theorem tV_all {P : Nat → V3} {n g F ax : Nat} {s : mS} {rf : Nat → Nat} {ρf : Nat → Nat → Nat} (hax : ax ≤ 3) (hfull : full P n) (hdi : ∀ i j, i < n → j < n → i ≠ j → P i ≠ P j) (tb : tbO P n s g F) (ht : tbF P n s g F rf ρf) (hall : ∀ m e, fc P n m e → ∃ j, j < F ∧ fN s (64 * g + j) = m ∧ fD s (64 * g + j) = e) : zs (fun f => zs (tV P ax (ρf f)) (rf f - 2)) F = zs (fun f => zs (fun j => sTr ax (P (ρf f 0)) (P (ρf f (j + 1))) (P (ρf f (j + 2)))) (rf f - 2)) F := by
  have z := rings_zero (G := fun u v => gV ax (P 0) (P u) (P v)) hfull hdi tb ht hall (fun u v => gV_sw ax (P 0) (P u) (P v))
  have e : zs (fun f => zs (tV P ax (ρf f)) (rf f - 2)) F = zs (fun f => zs (fun j => sTr ax (P (ρf f 0)) (P (ρf f (j + 1))) (P (ρf f (j + 2)))) (rf f - 2) + zs (fun i => gV ax (P 0) (P (ρf f i)) (P (nxr (rf f) (ρf f) i))) (rf f)) F := by
    refine zs_ext F (fun f hf => ?_)
    obtain ⟨-, -, -, t4, -⟩ := ht f hf
    rw [← fan_ring (g := fun u v => gV ax (P 0) (P u) (P v)) (fun u v => gV_sw ax (P 0) (P u) (P v)) (fun p q r => gV ax (P 0) (P p) (P q) + gV ax (P 0) (P q) (P r) + gV ax (P 0) (P r) (P p)) (fun _ _ _ => rfl) (ρf f) (by omega), ← zs_add]
    refine zs_ext (rf f - 2) (fun j hj => ?_)
    exact tV_split hax _ _ _ _
  rw [e, zs_add, z]
  omega
theorem tV_cg {P P' : Nat → V3} {n ax r j : Nat} {ρ : Nat → Nat} (n0 : 0 < n) (e : ∀ j, j < n → P' j = P j) (hρ : ∀ j, j < r → ρ j < n) (hj : j + 2 < r) : tV P' ax ρ j = tV P ax ρ j := by
  unfold tV
  rw [e 0 n0, e _ (hρ 0 (by omega)), e _ (hρ (j + 1) (by omega)), e _ (hρ (j + 2) hj)]
/-- the pieces of a FACE -/
theorem d_au86 {N b n F f a ax : Nat} {R rf : Nat → Nat} {ρ : Nat → Nat → Nat} {C : cS} {rec : Nat → Int32 → Nat → Int64 → Int32 → mh → Option (mh × Int64)} {Z : mh × Int64 → Prop} {S0 : Int} {B0 : Nat} (hb : isB b) (hF : F ≤ 44) (hn : n ≤ 24) (hax : ax ≤ 3) (rz : RZ C b n F R rf ρ) (hf : f < F) (bd : ∀ j, j < n → bd3 (pc C (b + 1) j) 100) (r25 : rf f ≤ 25) (hB : B0 ≤ 168960000000000) (ha : ax = 3 ∨ ax ≠ 3 ∧ shp a = (10, 24) ∧ ∀ j, j < n → (qA C a j).toInt = cx ax (pc C (b + 1) j)) (hr : ∀ x, bv x (S0 + zs (tV (pc C (b + 1)) ax (ρ f)) (rf f - 2)) (B0 + 153600000000 * 25) → OK Z (rec b (Int32.ofNat ax) a x (Int32.ofNat (f + 1)) (hC C))) : ∀ (q j fu : Nat) (x : Int64), j + q + 2 = rf f → q < fu → bv x (S0 + zs (tV (pc C (b + 1)) ax (ρ f)) j) (B0 + 153600000000 * j) → OK Z (fxX0_addUpPieces_86 N rec fu b (Int32.ofNat ax) a x (Int32.ofNat f) (Int32.ofNat (ρ f 0)) (Int32.ofNat (R f + (j + 1))) (hC C)) := by
  obtain ⟨h0, hp, h5, h6, h7, -⟩ := isB_sh hb
  obtain ⟨hp3, -⟩ := pt_sh hp
  obtain ⟨-, hR, hQ, hρ⟩ := rz
  have R132 := (hQ (f + 1) (by omega)).1
  have e1 := (hQ (f + 1) (by omega)).2
  have Rs := hR f hf
  obtain ⟨r3, hρ⟩ := hρ f hf
  intro q
  induction q with
  | zero =>
    intro j fu x hj hfu hx
    obtain ⟨fu', rfl⟩ : ∃ f', fu = f' + 1 := ⟨fu - 1, by omega⟩
    have le : Int32.ofNat (R (f + 1)) ≤ Int32.ofNat (R f + (j + 1) + 1) := by
      rw [i_le (by omega) (by omega)]
      omega
    rw [fxX0_addUpPieces_86, i_s, i_s]
    refine OK_b (gR_0_4 h0) (OK_b (aI_N h6 (show f + 1 < 45 by omega) (by decide)) ?_)
    rw [e1]
    refine OK_p le (hr x (bv_le (bv_eq hx ?_) (by omega)))
    rw [show rf f - 2 = j by omega]
  | succ q ih =>
    intro j fu x hj hfu hx
    obtain ⟨fu', rfl⟩ : ∃ f', fu = f' + 1 := ⟨fu - 1, by omega⟩
    have ne : ¬ (Int32.ofNat (R (f + 1)) ≤ Int32.ofNat (R f + (j + 1) + 1)) := by
      rw [i_le (by omega) (by omega)]
      omega
    obtain ⟨-, l1⟩ := hρ 0 (by omega)
    obtain ⟨y2, l2⟩ := hρ (j + 1) (by omega)
    obtain ⟨y3, l3⟩ := hρ (j + 2) (by omega)
    have n0 : 0 < n := by omega
    have y3' : qA C (b + 7) (R f + (j + 1) + 1) = Int32.ofNat (ρ f (j + 2)) := y3
    rw [fxX0_addUpPieces_86, i_s, i_s]
    refine OK_b (gR_0_4 h0) (OK_b (aI_N h6 (show f + 1 < 45 by omega) (by decide)) ?_)
    rw [e1]
    refine OK_n ne ?_
    have b200 : ∀ t, t < n → bd3 (pc C (b + 1) t) 200 := fun t ht => bd3_le (bd t ht) (show 100 ≤ 200 by decide)
    obtain ⟨v, q1, w1⟩ := c_box (N := N) (s := C) hp (by decide) (show 0 < 24 by omega) (show ρ f 0 < 24 by omega) (show ρ f (j + 1) < 24 by omega) (show ρ f (j + 2) < 24 by omega)
    have w := w1 (b200 0 n0) (b200 _ l1) (b200 _ l2) (b200 _ l3)
    have q' : fxX3_boxOf N (b + 1) 0 (Int32.ofNat (ρ f 0)) (Int32.ofNat (ρ f (j + 1))) (Int32.ofNat (ρ f (j + 2))) (hC C) = some (hC C, v) := q1
    have st : ∀ y : Int64, bv y (rch ax (pc C (b + 1) 0) (pc C (b + 1) (ρ f 0)) (pc C (b + 1) (ρ f (j + 1))) (pc C (b + 1) (ρ f (j + 2)))) 400 → OK Z (fxX0_addUpPieces_153 N rec (fxX0_addUpPieces_86 N rec fu') b (Int32.ofNat ax) a x (Int32.ofNat f) (Int32.ofNat (ρ f 0)) (Int32.ofNat (R f + (j + 1))) (Int32.ofNat (ρ f (j + 1))) (Int32.ofNat (ρ f (j + 2))) y (hC C)) := by
      intro y hy
      unfold fxX0_addUpPieces_153
      have es : Int32.ofNat (R f + (j + 1)) + 1 = Int32.ofNat (R f + (j + 1 + 1)) := i_s (R f + (j + 1))
      rw [es]
      have m := bv_mul hy w (by decide)
      exact OK_b (gR_0_1 h0) (OK_b (kO_3 hp3) (OK_b q' (ih (j + 1) fu' _ (by omega) (by omega) (bv_le (bv_eq (bv_add hx m (by omega)) (Int.add_assoc _ _ _)) (by omega)))))
    refine OK_b (gR_0_5 h0) (OK_b (aI_N h7 (show R f + (j + 1) < 132 by omega) (by decide)) (OK_b (gR_0_5 h0) (OK_b (aI_N h7 (show R f + (j + 1) + 1 < 132 by omega) (by decide)) ?_)))
    rw [y2, y3']
    rcases ha with ha | ⟨ha1, ha3, ha4⟩
    · refine OK_p (by rw [ha]; rfl) (st 1 ?_)
      subst ha
      exact ⟨rfl, by show (1 : Int).natAbs ≤ 400; decide⟩
    · refine OK_n (fun w : Int32.ofNat ax = (3 : Int32) => ha1 (i_inj (b := 3) (by omega) (by omega) w)) ?_
      have z : ∀ t, t < n → bv (qA C a t).toInt64 (cx ax (pc C (b + 1) t)) 100 := fun t ht => bt32 (ha4 t ht) (cx_bd (bd t ht) ax)
      have r := bv_add (bv_add (bv_add (z 0 n0) (z _ l1) (by decide)) (z _ l2) (by decide)) (z _ l3) (by decide)
      refine OK_b (aI_N (k := 0) ha3 (by omega) (by decide)) (OK_b (aI_N ha3 (show ρ f 0 < 24 by omega) (by decide)) (OK_b (aI_N ha3 (show ρ f (j + 1) < 24 by omega) (by decide)) (OK_b (aI_N ha3 (show ρ f (j + 2) < 24 by omega) (by decide)) (st _ (bv_eq (bv_le r (by decide)) ?_)))))
      unfold rch
      rw [if_neg ha1]
theorem d_au52 {N b n F a ax : Nat} {R rf : Nat → Nat} {ρ : Nat → Nat → Nat} {C : cS} (hN : 600 < N) (hb : isB b) (hF : F ≤ 44) (hn : n ≤ 24) (hax : ax ≤ 3) (rz : 0 < F → RZ C b n F R rf ρ) (bd : ∀ j, j < n → bd3 (pc C (b + 1) j) 100) (r25 : ∀ f, f < F → rf f ≤ 25) (h2 : qI C b 2 = Int32.ofNat F) (ha : ax = 3 ∨ ax ≠ 3 ∧ shp a = (10, 24) ∧ ∀ j, j < n → (qA C a j).toInt = cx ax (pc C (b + 1) j)) : ∀ (r f fu : Nat) (x : Int64), f + r = F → r < fu → bv x (zs (fun f => zs (tV (pc C (b + 1)) ax (ρ f)) (rf f - 2)) f) (153600000000 * (25 * f)) → OK (fun o => o.1 = hC C ∧ bv o.2 (zs (fun f => zs (tV (pc C (b + 1)) ax (ρ f)) (rf f - 2)) F) 168960000000000) (fxX0_addUpPieces_52 N fu b (Int32.ofNat ax) a x (Int32.ofNat f) (hC C)) := by
  obtain ⟨h0, hp, h5, h6, h7, -⟩ := isB_sh hb
  intro r
  induction r with
  | zero =>
    intro f fu x hf hfu hx
    obtain ⟨fu', rfl⟩ : ∃ f', fu = f' + 1 := ⟨fu - 1, by omega⟩
    have e : f = F := by omega
    subst e
    rw [fxX0_addUpPieces_52]
    refine OK_b (gI_0_2 h0) ?_
    rw [h2]
    exact OK_p (Int32.le_refl _) (OK_s ⟨rfl, bv_le hx (by omega)⟩)
  | succ r ih =>
    intro f fu x hf hfu hx
    obtain ⟨fu', rfl⟩ : ∃ f', fu = f' + 1 := ⟨fu - 1, by omega⟩
    have ne : ¬ (Int32.ofNat F ≤ Int32.ofNat f) := by
      rw [i_le (by omega) (by omega)]
      omega
    have rz' := rz (by omega)
    have Rf := rz'.2.2.1 f (by omega)
    have R1 := rz'.2.2.1 (f + 1) (by omega)
    have Rs := rz'.2.1 f (by omega)
    obtain ⟨r3, rr⟩ := rz'.2.2.2 f (by omega)
    have y0 : qA C (b + 7) (R f) = Int32.ofNat (ρ f 0) := (rr 0 (by omega)).1
    rw [fxX0_addUpPieces_52]
    refine OK_b (gI_0_2 h0) ?_
    rw [h2]
    refine OK_n ne (OK_b (gR_0_5 h0) (OK_b (gR_0_4 h0) (OK_b (aI_N h6 (show f < 45 by omega) (by decide)) ?_)))
    rw [Rf.2]
    refine OK_b (aI_N h7 (show R f < 132 by omega) (by decide)) (OK_b (gR_0_4 h0) (OK_b (aI_N h6 (show f < 45 by omega) (by decide)) ?_))
    rw [Rf.2, i_s, y0]
    exact d_au86 (S0 := zs (fun f => zs (tV (pc C (b + 1)) ax (ρ f)) (rf f - 2)) f) (B0 := 153600000000 * (25 * f)) hb hF hn hax rz' (by omega) bd (r25 f (by omega)) (by omega) ha (fun x hx => ih (f + 1) fu' x (by omega) (by omega) (bv_le hx (by omega))) (rf f - 2) 0 N x (by omega) (by have := r25 f (by omega); omega) (bv_le (bv_eq hx (Int.add_zero _).symm) (by omega))
/-- addUpPieces, of KIND 4 -/
theorem d_addUp {N b n F ax : Nat} {R rf : Nat → Nat} {ρ : Nat → Nat → Nat} {C : cS} (hN : 600 < N) (hb : isB b) (k4 : qI C b 0 = 4) (hF : F ≤ 44) (hn : n ≤ 24) (hax : ax ≤ 3) (rz : 0 < F → RZ C b n F R rf ρ) (bd : ∀ j, j < n → bd3 (pc C (b + 1) j) 100) (r25 : ∀ f, f < F → rf f ≤ 25) (h2 : qI C b 2 = Int32.ofNat F) : ∃ v, fxX0_addUpPieces N b (Int32.ofNat ax) (hC C) = some (hC C, v) ∧ bv v (zs (fun f => zs (tV (pc C (b + 1)) ax (ρ f)) (rf f - 2)) F) 168960000000000 := by
  obtain ⟨b0, hp, -⟩ := isB_sh hb
  obtain ⟨hp3, d1, d2, d3⟩ := pt_sh hp
  have ok : OK (fun o : mh × Int64 => o.1 = hC C ∧ bv o.2 (zs (fun f => zs (tV (pc C (b + 1)) ax (ρ f)) (rf f - 2)) F) 168960000000000) (fxX0_addUpPieces N b (Int32.ofNat ax) (hC C)) := by
    have go : ∀ a, (ax = 3 ∨ ax ≠ 3 ∧ shp a = (10, 24) ∧ ∀ j, j < n → (qA C a j).toInt = cx ax (pc C (b + 1) j)) → OK (fun o : mh × Int64 => o.1 = hC C ∧ bv o.2 (zs (fun f => zs (tV (pc C (b + 1)) ax (ρ f)) (rf f - 2)) F) 168960000000000) (fxX0_addUpPieces_46 N b (Int32.ofNat ax) a (hC C)) := fun a ha => by
      unfold fxX0_addUpPieces_46
      exact d_au52 hN hb hF hn hax rz bd r25 h2 ha F 0 N 0 (by omega) (by omega) ⟨rfl, Nat.zero_le _⟩
    unfold fxX0_addUpPieces
    refine OK_b (gI_0_0 b0) ?_
    rw [k4]
    refine OK_p rfl ?_
    rcases (show ax = 0 ∨ ax = 1 ∨ ax = 2 ∨ ax = 3 by omega) with e | e | e | e
    · subst e
      exact OK_p rfl (OK_b (gR_0_1 b0) (OK_b (gR_3_1 hp3) (go _ (.inr ⟨by decide, d1, fun j _ => rfl⟩))))
    · subst e
      exact OK_n (by decide) (OK_p rfl (OK_b (gR_0_1 b0) (OK_b (gR_3_2 hp3) (go _ (.inr ⟨by decide, d2, fun j _ => rfl⟩)))))
    · subst e
      exact OK_n (by decide) (OK_n (by decide) (OK_b (gR_0_1 b0) (OK_b (gR_3_3 hp3) (go _ (.inr ⟨by decide, d3, fun j _ => rfl⟩)))))
    · subst e
      exact OK_n (by decide) (OK_n (by decide) (OK_b (gR_0_1 b0) (OK_b (gR_3_3 hp3) (go _ (.inl rfl)))))
  obtain ⟨⟨h', v⟩, e, e1, e2⟩ := ok
  have e1' : h' = hC C := e1
  subst e1'
  exact ⟨v, e, e2⟩
theorem d_six0 {N b k : Nat} {C : cS} (hb : isB b) (hk : qI C b 0 = Int32.ofNat k) (k4 : k < 4) : fxX0_sixVolumes N b (hC C) = some (hC C, 0) := by
  obtain ⟨b0, -⟩ := isB_sh hb
  have q : fxX0_addUpPieces N b 3 (hC C) = some (hC C, 0) := by
    unfold fxX0_addUpPieces
    exact bndE (gI_0_0 b0) (if_neg (fun w => by
      rw [hk] at w
      have := i_inj (b := 4) (by omega) (by omega) w
      omega))
  unfold fxX0_sixVolumes
  exact bndE (kO_0 b0) (bndE q rfl)
/-- what both sides add up, of KIND 4 -/
theorem vol_both {N i m k F E b : Nat} {R rf : Nat → Nat} {ρ : Nat → Nat → Nat} {C : cS} {s s1 : mS} (hN : 600 < N) (hb : isB b) (ok : okP (cP s i) m k) (K : knO s s1 i 0 m k F E) (br' : BR C b s1 0 m k F E R rf ρ) (k4 : k = 4) : ∃ s2, mxX7_adds N s1 = some s2 ∧ fi s s2 ∧ (fxX0_sixVolumes N b (hC C) = some (hC C, s2.2.1 47) ∧ 0 < (s2.2.1 47).toInt ∧ (s2.2.1 47).toInt ≤ 6600000000) ∧ ∀ ax, ax < 3 → fxX0_moment N b (Int32.ofNat ax) (hC C) = some (hC C, s2.2.1 (48 + ax)) ∧ (s2.2.1 (48 + ax)).toInt.natAbs ≤ 1980000000000 := by
  have F1 := kn_F4 ok K k4
  obtain ⟨b0, -⟩ := isB_sh hb
  obtain ⟨q1, q2, q3, q4, q5, q6, q7, q8, q9, q10, q11, q12, q13, q14, q15, q16, q17⟩ := K
  obtain ⟨⟨m24, k44, F44, E66⟩, ⟨y1, y2, y3, y4⟩, pe, pn, rz, ht, er, ok1⟩ := br'
  obtain ⟨s2, e2, I2⟩ := x_adds (N := N) hN m24 F44 q8.1 ok1.2.1 ht
  obtain ⟨b1, b2, b3, b4⟩ := ad_end F44 I2
  have hfull : full (hp s1) m := by
    rcases ok1.2.2.2.2 with ⟨w1, w2⟩ | ⟨w1, w2, -⟩ | ⟨w1, w2, w3⟩
    · omega
    · omega
    · exact w3
  have hdi := okP_hdi ok1
  have comp := q12 (by omega)
  have bd : ∀ j, j < m → bd3 (pc C (b + 1) j) 100 := fun j hj => by
    rw [(pe j hj).1]
    exact (pe j hj).2
  have r25 : ∀ f, f < F → rf f ≤ 25 := fun f hf => (ht f hf).2.2.1
  have rz' := rz F1
  have n0 : 0 < m := by
    obtain ⟨r3, rr⟩ := rz'.2.2.2 0 F1
    have := (rr 0 (by omega)).2
    omega
  have tot : ∀ ax, ax ≤ 3 → ∃ v, fxX0_addUpPieces N b (Int32.ofNat ax) (hC C) = some (hC C, v) ∧ v.toInt = zs (fun f => zs (fun j => sTr ax (hp s1 (ρ f 0)) (hp s1 (ρ f (j + 1))) (hp s1 (ρ f (j + 2)))) (rf f - 2)) F := fun ax hax => by
    obtain ⟨v, e, w⟩ := d_addUp (N := N) hN hb (by rw [y1, k4]; rfl) F44 m24 hax rz bd r25 y3
    refine ⟨v, e, w.1.trans ?_⟩
    rw [← tV_all hax hfull hdi q8 ht comp]
    refine zs_ext F (fun f hf => zs_ext (rf f - 2) (fun j hj => ?_))
    exact tV_cg n0 (fun j hj => (pe j hj).1) (fun j hj => ((rz'.2.2.2 f hf).2 j hj).2) (show j + 2 < rf f by omega)
  have pos := sixV_pos ok1.2.2.1 hfull hdi q8 ht comp F1
  refine ⟨s2, e2, (q1.fi (by decide)).tr (I2.1.fi (by decide)), ⟨?_, by rw [b1.1]; exact pos, by have := b1.2; rw [b1.1]; omega⟩, fun ax hax => ?_⟩
  · obtain ⟨v, e, w⟩ := tot 3 (by omega)
    have w' : v.toInt = sixV (hp s1) F rf ρ := w
    have ev : v = s2.2.1 47 := Int64.toInt_inj.mp (w'.trans b1.1.symm)
    unfold fxX0_sixVolumes
    refine bndE (kO_0 b0) (bndE e ?_)
    rw [ev]
  · obtain ⟨v, e, w⟩ := tot ax (by omega)
    have ev : v = s2.2.1 (48 + ax) ∧ (s2.2.1 (48 + ax)).toInt.natAbs ≤ 1980000000000 := by
      rcases (show ax = 0 ∨ ax = 1 ∨ ax = 2 by omega) with z | z | z
      · subst z
        have w' : v.toInt = momV (hp s1) (fun p => p.1) F rf ρ := w
        exact ⟨Int64.toInt_inj.mp (w'.trans b2.1.symm), by rw [b2.1]; exact b2.2⟩
      · subst z
        have w' : v.toInt = momV (hp s1) (fun p => p.2.1) F rf ρ := w
        exact ⟨Int64.toInt_inj.mp (w'.trans b3.1.symm), by rw [b3.1]; exact b3.2⟩
      · subst z
        have w' : v.toInt = momV (hp s1) (fun p => p.2.2) F rf ρ := w
        exact ⟨Int64.toInt_inj.mp (w'.trans b4.1.symm), by rw [b4.1]; exact b4.2⟩
    refine ⟨?_, ev.2⟩
    unfold fxX0_moment
    refine bndE (kO_0 b0) (bndE e ?_)
    rw [ev.1]
/-- volume -/
theorem sv_volume {N : Nat} {C : cS} {s : mS} (hN : 4611686018427387904 < N) (j : JK C s) (a : Int32) : ∃ C' v o, fxX6_volume N 0 a (hC C) = some (hC C', v) ∧ mxX7_volume N a s = some o ∧ v = o.2 ∧ JK C' o.1 := by
  have j' := j
  obtain ⟨bo, xx, cc, jx⟩ := j
  have ci := jx.1
  have fin : ∀ v s', fi s s' → fxX6_volume N 0 a (hC C) = some (hC C, v) → mxX7_volume N a s = some (s', v) → ∃ C' v o, fxX6_volume N 0 a (hC C) = some (hC C', v) ∧ mxX7_volume N a s = some o ∧ v = o.2 ∧ JK C' o.1 := fun v s' f e1 e2 => ⟨C, v, _, e1, e2, rfl, JK_read j' cf.rf f⟩
  rcases slot_or a with ha | ⟨i, hi, rfl⟩
  · refine fin (-1) s fi.rf ?_ ?_
    · unfold fxX6_volume
      rw [slot_no ha, Option.bind_some]
      rfl
    · unfold mxX7_volume
      rw [solid_no ha, Option.bind_some]
      rfl
  · obtain ⟨hb, -, b0, n2⟩ := bodyOf ci hi
    obtain ⟨s1, m, k, F, E, R, rf, ρ, e1, h4, h5, ok, K, br'⟩ := slot_kn (N := N) (g := 0) (by omega) jx hi (by omega)
    have e1' : mxX7_knows N (Int32.ofNat i) 0 s = some s1 := e1
    have k4 := okP_k ok
    have l4 : ((4 : Int32) ≤ Int32.ofNat k) = (4 ≤ k) := i_le (a := 4) (b := k) (by omega) (by omega)
    have c1 : ∀ v, fxX0_sixVolumes N (bo (1 + i)) (hC C) = some (hC C, v) → fxX6_volume N 0 (Int32.ofNat i) (hC C) = some (hC C, v) := fun v e => by
      unfold fxX6_volume
      rw [slot_in hi, Option.bind_some]
      dsimp only
      rw [if_neg no1]
      exact bndE (gR_6_2 x06) (bndE (aR3 hi (ci.1.2.1 i hi)) (bndE (kO_0 b0) (bndE e rfl)))
    by_cases c : 4 ≤ k
    · obtain ⟨s2, e2, f2, ⟨v1, -, -⟩, -⟩ := vol_both (N := N) (by omega) hb ok K br' (by omega)
      refine fin _ s2 f2 (c1 _ v1) ?_
      unfold mxX7_volume
      rw [solid_in hi, Option.bind_some]
      dsimp only
      rw [if_neg (by decide), rA8 rfl hi, Option.bind_some, h5, if_pos (by rw [l4]; exact c), e1', Option.bind_some, e2, Option.bind_some]
    · refine fin _ s fi.rf (c1 _ (d_six0 hb br'.2.1.1 (by omega))) ?_
      unfold mxX7_volume
      rw [solid_in hi, Option.bind_some]
      dsimp only
      rw [if_neg (by decide), rA8 rfl hi, Option.bind_some, h5, if_neg (by rw [l4]; exact c)]
