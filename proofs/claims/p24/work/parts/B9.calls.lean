theorem OK_slot {β : Type} {Q : β → Prop} {N : Nat} {a : Int32} {s : cS} {f : mh × Int32 → Option β} (h1 : ∀ j, j < 8 → a = Int32.ofNat j → OK Q (f (hC s, 1))) (h0 : (a < 0 ∨ 8 ≤ a) → OK Q (f (hC s, 0))) : OK Q ((fxX6_isSlot N a (hC s)).bind f) := by
  rcases rng_or (n := 8) (by decide) a with w | ⟨j, hj, e⟩
  · exact OK_b (slot_no w) (h0 w)
  · refine OK_b ?_ (h1 j hj e)
    rw [e]
    exact slot_in hj
theorem OK_pt {β : Type} {Q : β → Prop} {N : Nat} {x y z : Int32} {s : cS} {f : mh × Int32 → Option β} (h1 : isPt x y z → OK Q (f (hC s, 1))) (h0 : ¬ isPt x y z → OK Q (f (hC s, 0))) : OK Q ((fxX6_isPoint N x y z (hC s)).bind f) := by
  by_cases w : isPt x y z
  · exact OK_b (pt_in w) (h1 w)
  · exact OK_b (pt_no w) (h0 w)
theorem OK_win {β : Type} {Q : β → Prop} {N : Nat} {x m : Int32} {s : cS} {f : mh × Int32 → Option β} (h1 : ¬ x < -m → ¬ m < x → OK Q (f (hC s, 1))) (h0 : OK Q (f (hC s, 0))) : OK Q ((fxX6_isWithin N x m (hC s)).bind f) := by
  unfold fxX6_isWithin
  by_cases w : x < -m
  · exact OK_b (if_pos w) h0
  · by_cases w' : m < x
    · exact OK_b ((if_neg w).trans (if_pos w')) h0
    · exact OK_b ((if_neg w).trans (if_neg w')) (h1 w w')
theorem OK_tb {β : Type} {Q : β → Prop} {N : Nat} {x : Int32} {s : cS} {f : mh × Int32 → Option β} (h1 : OK Q (f (hC s, 1))) (h0 : OK Q (f (hC s, 0))) : OK Q ((fxX6_isTopOrBottom N x (hC s)).bind f) := by
  unfold fxX6_isTopOrBottom
  by_cases w : x = 0
  · exact OK_b (if_pos w) h1
  · by_cases w' : x = 1
    · exact OK_b ((if_neg w).trans (if_pos w')) h1
    · exact OK_b ((if_neg w).trans (if_neg w')) h0
/-- a read: only cells have changed that no other call reads -/
def RQ (s : cS) {α : Type} (r : mh × α) : Prop := ∃ s', r.1 = hC s' ∧ cf fre s s'
theorem RQ_rf {s : cS} {α : Type} {v : α} : RQ s (hC s, v) := ⟨s, rfl, cf.rf⟩
theorem no1 : ¬ ((1 : Int32) = 0) := by decide
theorem BL_IA {s s1 s2 : cS} {b p q kp kq kd : Nat} (h : BL s s1 b p q kp kq kd) (e : ∀ i, b ≤ i → i ≤ b + 9 → qI s2 i = qI s1 i ∧ qA s2 i = qA s1 i) : BL s s2 b p q kp kq kd := by
  obtain ⟨t, K, h1, h2, h3, h4, h5, h6⟩ := h
  have pe : ∀ j, pc s2 (b + 1) j = pc s1 (b + 1) j := fun j => by
    unfold pc
    rw [(e (b + 1 + 1) (by omega) (by omega)).2, (e (b + 1 + 2) (by omega) (by omega)).2, (e (b + 1 + 3) (by omega) (by omega)).2]
  refine ⟨t, K, h1, by rw [(e b (by omega) (by omega)).1]; exact h2, by rw [(e (b + 1) (by omega) (by omega)).1]; exact h3, fun j hj => by rw [pe]; exact h4 j hj, fun i hi ok => ?_, fun D j j' hj hj' => by rw [pe, pe]; exact h6 D j j' hj hj'⟩
  obtain ⟨j, hj, e'⟩ := h5 i hi ok
  exact ⟨j, hj, by rw [pe]; exact e'⟩
/-- every body but the fresh one is as it was -/
def FR (s s' : cS) (bo : Nat → Nat) : Prop := ∀ k, 1 ≤ k → k < 17 → ∀ i, bo k ≤ i → i ≤ bo k + 8 → qI s' i = qI s i ∧ qA s' i = qA s i
/-- what a change does: it is refused, since there is no such body; or solid j is the body of the points Z -/
def CHG (s s' : cS) (bo bo' : Nat → Nat) (j : Nat) (Z : V3 → Prop) (r : Int32) : Prop := FR s s' bo ∧ ((r = -2 ∧ bo' = bo ∧ qI s' 0 5 = qI s 0 5 ∧ qA s' 5 = qA s 5 ∧ ∀ m k Q, ¬ EL Z m k Q) ∨ ∃ kd n, kd ≤ 4 ∧ r = Int32.ofNat kd ∧ KF2 s s' bo bo' j ∧ qI s' (bo 0) 0 = Int32.ofNat kd ∧ qI s' (bo 0 + 1) 0 = Int32.ofNat n ∧ CLS Z kd n (pc s' (bo 0 + 1)))
theorem sZ_cg {s s' : cS} {p q kp kq : Nat} (hp : ∀ j, pc s' p j = pc s p j) (hq : ∀ j, pc s' q j = pc s q j) : sZ s' p q kp kq = sZ s p q kp kq := by
  unfold sZ
  funext x
  apply propext
  constructor
  · rintro ⟨i, j, hi, hj, e⟩
    exact ⟨i, j, hi, hj, by rw [e, hp, hq]⟩
  · rintro ⟨i, j, hi, hj, e⟩
    exact ⟨i, j, hi, hj, by rw [e, hp, hq]⟩
theorem CLS_0 {Z : V3 → Prop} {P : Nat → V3} (h : ∀ x, ¬ Z x) : CLS Z 0 0 P := ⟨by omega, fun j hj => absurd hj (by omega), fun x ex => absurd ex.1 (h x), fun i j _ hj => absurd hj (by omega), .inl ⟨by omega, rfl⟩⟩
/-- become -/
theorem c_become {N j p q n m kp kq : Nat} {s : cS} {bo : Nat → Nat} (hN : 100000 < N) (ci : CI s bo) (hj : j < 8) (z : PZ s p q n m kp kq) (dp : p + 3 < bo 0 ∨ bo 0 + 9 < p) (dq : q + 3 < bo 0 ∨ bo 0 + 9 < q) : OK (fun r => ∃ s' bo', r.1 = hC s' ∧ CI s' bo' ∧ TF s s' ∧ CHG s s' bo bo' j (sZ s p q kp kq) r.2) (fxX6_become N 0 (Int32.ofNat j) p q (hC s)) := by
  have hb := ci.1.2.2.2.1 0 (by omega)
  obtain ⟨s1, r, qb, c, mk, bn, k⟩ := c_build (N := N) hN hb z dp dq ci.2.2.2.2.2
  obtain ⟨ci1, t1⟩ := CI_build ci c mk bn
  have b6 : 6 ≤ bo 0 := by
    rcases hb with y | ⟨i, _, y⟩ | ⟨i, _, y⟩ <;> omega
  have lo : ∀ i, i < 6 → ¬ (rg (bo 0) (bo 0 + 9) i ∨ rg 28 40 i) := fun i hi w => by
    rcases w with w | w
    · have := w.1
      omega
    · have := w.1
      omega
  have fr1 : FR s s1 bo := fun k k1 k17 i a b => by
    have kb := ci.1.2.2.2.1 k k17
    have ne : bo 0 ≠ bo k := fun e => by
      have := ci.1.2.2.2.2 0 k (by omega) k17 e
      omega
    have ni : ¬ (rg (bo 0) (bo 0 + 9) i ∨ rg 28 40 i) := fun w => by
      rcases w with z | z
      · have := z.1
        have := z.2
        rcases isB_dis hb kb ne with y | y <;> omega
      · have := z.1
        have := z.2
        rcases kb with kb | ⟨j, _, kb⟩ | ⟨j, _, kb⟩ <;> omega
    exact ⟨c.I ni, c.A ni⟩
  unfold fxX6_become
  refine OK_b (gR_6_10 x06) (OK_b (gR_6_6 x06) (OK_b (kO_2 s28) ?_))
  rw [← ci.1.1]
  have qb' : fxX2_build N (0 + 28) p q (bo 0) (hC s) = some (hC s1, r) := qb
  refine OK_b qb' (OK_i (fun w => OK_s ⟨s1, bo, rfl, ci1, t1, fr1, .inl ?_⟩) (fun w => OK_b (kO_6 x06) (OK_c (c_keepFresh (by omega) ci1 hj) (fun h e => ?_))))
  · have w' : r = -2 := w
    refine ⟨w', rfl, by rw [c.I (lo 0 (by omega))], c.A (lo 5 (by omega)), fun m' k' Q el => ?_⟩
    rcases k with ⟨-, k2, -⟩ | ⟨k1, k2, sA, k3, k4, k5⟩
    · rw [k2] at w'
      exact absurd w' (by decide)
    · rcases k5 with k5 | ⟨kd, _, k7, k6, _⟩
      · have bds := z.2.2.2.2 k1 k2
        refine RF_EL (s := sA) (fun j hj => by rw [k3]; exact bds.1 j hj) (fun j hj => by rw [k4]; exact bds.2 j hj) k5.2 (m' := m') (k' := k') (Q := Q) ?_
        rw [sZ_cg k3 k4]
        exact el
      · rw [k6] at w'
        have := congrArg Int32.toInt w'
        rw [Int32.toInt_ofNat_of_lt (by omega)] at this
        have e1 : (-2 : Int32).toInt = -2 := rfl
        omega
  · obtain ⟨s2, bo2, e2, ci2, t2, f2, g1⟩ := e
    subst e2
    have fr2 : FR s s2 bo := fun k k1 k17 i a b => by
      have kb := ci.1.2.2.2.1 k k17
      have i6 : 6 ≤ i := by
        rcases kb with kb | ⟨j, _, kb⟩ | ⟨j, _, kb⟩ <;> omega
      exact ⟨(f2 i i6).1.trans (fr1 k k1 k17 i a b).1, (f2 i i6).2.trans (fr1 k k1 k17 i a b).2⟩
    have kf : KF2 s s2 bo bo2 j := by
      obtain ⟨c', h1, h2, h3⟩ := g1
      rw [c.I (lo 0 (by omega))] at h2
      rw [c.A (lo 5 (by omega))] at h3
      exact ⟨c', h1, h2, h3⟩
    refine OK_s ⟨s2, bo2, rfl, ci2, TF_tr t1 t2, fr2, .inr ?_⟩
    rcases k with ⟨k1, k2, k3, k4⟩ | ⟨k1, k2, sA, k3, k4, k5⟩
    · refine ⟨0, 0, by omega, k2, kf, by rw [(f2 (bo 0) b6).1]; exact k3, by rw [(f2 (bo 0 + 1) (by omega)).1]; exact k4, CLS_0 (fun x ⟨i, j, hi, hj, _⟩ => by omega)⟩
    · rcases k5 with k5 | ⟨kd, y1, y2, y3, y4⟩
      · exact absurd k5.1 w
      · have bds := z.2.2.2.2 k1 k2
        obtain ⟨n', z1, z2, z3⟩ := BL_CLS (s := sA) (fun j hj => by rw [k3]; exact bds.1 j hj) (fun j hj => by rw [k4]; exact bds.2 j hj) y1 y2 (BL_IA y4 (fun i a b => f2 i (by omega)))
        rw [sZ_cg k3 k4] at z3
        exact ⟨kd, n', y2, y3, kf, z2, z1, z3⟩
/-- rows of points that may be given to become -/
theorem row_b {s : cS} {bo : Nat → Nat} (ci : CI s bo) {k : Nat} (hk : k < 17) : ∃ n, n ≤ 24 ∧ shp (bo k + 1) = (3, 24) ∧ qI s (bo k + 1) 0 = Int32.ofNat n ∧ (∀ i, i < n → bd3 (pc s (bo k + 1) i) 100) ∧ (bo k + 1 + 3 < 28 ∨ 45 < bo k + 1) := by
  obtain ⟨kd, n, F, E, R, h1, h2, h3, h4, h5, h6, h7, h8, h9, -⟩ := ci.2.1 k hk
  have hb := ci.1.2.2.2.1 k hk
  have := (isB_rg hb).1
  exact ⟨n, h2, (isB_sh hb).2.1, h6, h9, by omega⟩
theorem row_d {s : cS} {bo : Nat → Nat} (ci : CI s bo) {k : Nat} (hk : k < 17) (k0 : k ≠ 0) : bo k + 1 + 3 < bo 0 ∨ bo 0 + 9 < bo k + 1 := by
  have h0 := ci.1.2.2.2.1 0 (by omega)
  have hb := ci.1.2.2.2.1 k hk
  rcases isB_dis h0 hb (fun e => k0 (ci.1.2.2.2.2 0 k (by omega) hk e).symm) with y | y <;> omega
theorem sh_tr {j : Nat} (hj : j < 8) : shp (47 + 14 * j) = (3, 24) := by
  have : ∀ j, j < 8 → shp (47 + 14 * j) = (3, 24) := by decide
  exact this j hj
theorem tr_d {s : cS} {bo : Nat → Nat} (ci : CI s bo) {j : Nat} (hj : j < 8) : 47 + 14 * j + 3 < bo 0 ∨ bo 0 + 9 < 47 + 14 * j := by
  have h0 := ci.1.2.2.2.1 0 (by omega)
  rcases h0 with y | ⟨i, hi, y⟩ | ⟨i, hi, y⟩ <;> omega
theorem lo_d {s : cS} {bo : Nat → Nat} (ci : CI s bo) {p : Nat} (h1 : 16 ≤ p) (h2 : p + 3 < 28) : p + 3 < bo 0 ∨ bo 0 + 9 < p := by
  have h0 := ci.1.2.2.2.1 0 (by omega)
  rcases h0 with y | ⟨i, hi, y⟩ | ⟨i, hi, y⟩ <;> omega
theorem v0_bd : bd3 v0 200 := ⟨by decide, by decide, by decide⟩
theorem org {s : cS} {bo : Nat → Nat} (ci : CI s bo) : ∀ j, j < 1 → bd3 (pc s 20 j) 200 := fun j hj => by
  have : j = 0 := by omega
  rw [this, ci.2.2.2.2.1.2]
  exact v0_bd
/-- a row and the origin -/
theorem PZ_o {s : cS} {bo : Nat → Nat} (ci : CI s bo) {p n k : Nat} (hp : shp p = (3, n)) (hn : n < 600) (hk : qI s p 0 = Int32.ofNat k) (hkn : k ≤ n) (hp2 : p + 3 < 28 ∨ 45 < p) (bd : ∀ j, j < k → bd3 (pc s p j) 200) : PZ s p 20 n 1 k 1 := ⟨⟨hp, s20, hn, by omega⟩, ⟨hk, ci.2.2.2.2.1.1⟩, ⟨hkn, by omega⟩, ⟨hp2, by omega⟩, fun _ _ => ⟨bd, org ci⟩⟩
