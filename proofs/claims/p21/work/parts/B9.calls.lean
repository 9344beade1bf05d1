theorem OK_slot {β : Type} {Q : β → Prop} {N : Nat} {a : Int32} {s : cS} {f : mh × Int32 → Option β} (h1 : ∀ j, j < 8 → a = Int32.ofNat j → OK Q (f (hC s, 1))) (h0 : (a < 0 ∨ 8 ≤ a) → OK Q (f (hC s, 0))) : OK Q ((fxX6_isSlot N a (hC s)).bind f) := by
  rcases rng_or (n := 8) (by decide) a with w | ⟨j, hj, e⟩
  · exact OK_b (slot_no w) (h0 w)
  · refine OK_b ?_ (h1 j hj e)
    rw [e]
    exact slot_in hj
theorem OK_pt {β : Type} {Q : β → Prop} {N : Nat} {x y z : Int32} {s : cS} {f : mh × Int32 → Option β} (h1 : isPt x y z → OK Q (f (hC s, 1))) (h0 : ¬ isPt x y z → OK Q (f (hC s, 0))) : OK Q ((fxX6_isPoint N x y z (hC s)).bind f) := by
  by_cases w : isPt x y z
  · exact OK_b (pt_in w) (h1 w)
  · exact OK_b (pt_no w) (h0 w)
theorem OK_win {β : Type} {Q : β → Prop} {N : Nat} {x m : Int32} {s : cS} {f : mh × Int32 → Option β} (h1 : ¬ x < -m → ¬ m < x → OK Q (f (hC s, 1))) (h0 : OK Q (f (hC s, 0))) : OK Q ((fxX6_isWithin N x m (hC s)).bind f) := by
  unfold fxX6_isWithin
  by_cases w : x < -m
  · exact OK_b (if_pos w) h0
  · by_cases w' : m < x
    · exact OK_b ((if_neg w).trans (if_pos w')) h0
    · exact OK_b ((if_neg w).trans (if_neg w')) (h1 w w')
theorem OK_tb {β : Type} {Q : β → Prop} {N : Nat} {x : Int32} {s : cS} {f : mh × Int32 → Option β} (h1 : OK Q (f (hC s, 1))) (h0 : OK Q (f (hC s, 0))) : OK Q ((fxX6_isTopOrBottom N x (hC s)).bind f) := by
  unfold fxX6_isTopOrBottom
  by_cases w : x = 0
  · exact OK_b (if_pos w) h1
  · by_cases w' : x = 1
    · exact OK_b ((if_neg w).trans (if_pos w')) h1
    · exact OK_b ((if_neg w).trans (if_neg w')) h0
/-- the state is well after the call, the trays are as before -/
def SQ (s : cS) {α : Type} (r : mh × α) : Prop := ∃ s' bo', r.1 = hC s' ∧ CI s' bo' ∧ TF s s'
theorem SQ_rf {s : cS} {bo : Nat → Nat} (ci : CI s bo) {α : Type} {v : α} : SQ s (hC s, v) := ⟨s, bo, rfl, ci, TF_rf⟩
theorem no1 : ¬ ((1 : Int32) = 0) := by decide
theorem BL_IA {s s1 s2 : cS} {b p q kp kq kd : Nat} (h : BL s s1 b p q kp kq kd) (e : ∀ i, b ≤ i → i ≤ b + 9 → qI s2 i = qI s1 i ∧ qA s2 i = qA s1 i) : BL s s2 b p q kp kq kd := by
  obtain ⟨t, K, h1, h2, h3, h4, h5, h6⟩ := h
  have pe : ∀ j, pc s2 (b + 1) j = pc s1 (b + 1) j := fun j => by
    unfold pc
    rw [(e (b + 1 + 1) (by omega) (by omega)).2, (e (b + 1 + 2) (by omega) (by omega)).2, (e (b + 1 + 3) (by omega) (by omega)).2]
  refine ⟨t, K, h1, by rw [(e b (by omega) (by omega)).1]; exact h2, by rw [(e (b + 1) (by omega) (by omega)).1]; exact h3, fun j hj => by rw [pe]; exact h4 j hj, fun i hi ok => ?_, fun D j j' hj hj' => by rw [pe, pe]; exact h6 D j j' hj hj'⟩
  obtain ⟨j, hj, e'⟩ := h5 i hi ok
  exact ⟨j, hj, by rw [pe]; exact e'⟩
/-- what become does -/
def BC (s s' : cS) (bo bo' : Nat → Nat) (j p q kp kq : Nat) (r : Int32) : Prop := (∀ i, 6 ≤ i → ¬ (rg (bo 0) (bo 0 + 9) i ∨ rg 28 40 i) → qI s' i = qI s i ∧ qA s' i = qA s i) ∧ ((r = -2 ∧ bo' = bo ∧ 1 ≤ kp ∧ 1 ≤ kq ∧ ∃ sA, (∀ j, pc sA p j = pc s p j) ∧ (∀ j, pc sA q j = pc s q j) ∧ RF sA p q kp kq) ∨ (r ≠ -2 ∧ bo' (1 + j) = bo 0 ∧ (∀ x, x < 8 → x ≠ j → bo' (1 + x) = bo (1 + x)) ∧ (((kp = 0 ∨ kq = 0) ∧ r = 0 ∧ qI s' (bo 0) 0 = 0 ∧ qI s' (bo 0 + 1) 0 = 0) ∨ (1 ≤ kp ∧ 1 ≤ kq ∧ ∃ sA kd, (∀ j, pc sA p j = pc s p j) ∧ (∀ j, pc sA q j = pc s q j) ∧ 1 ≤ kd ∧ kd ≤ 4 ∧ r = Int32.ofNat kd ∧ BL sA s' (bo 0) p q kp kq kd))))
/-- become -/
theorem c_become {N j p q n m kp kq : Nat} {s : cS} {bo : Nat → Nat} (hN : 100000 < N) (ci : CI s bo) (hj : j < 8) (z : PZ s p q n m kp kq) (dp : p + 3 < bo 0 ∨ bo 0 + 9 < p) (dq : q + 3 < bo 0 ∨ bo 0 + 9 < q) : OK (fun r => ∃ s' bo', r.1 = hC s' ∧ CI s' bo' ∧ TF s s' ∧ BC s s' bo bo' j p q kp kq r.2) (fxX6_become N 0 (Int32.ofNat j) p q (hC s)) := by
  have hb := ci.1.2.2.2.1 0 (by omega)
  obtain ⟨s1, r, qb, c, mk, bn, k⟩ := c_build (N := N) hN hb z dp dq ci.2.2.2.2.2
  obtain ⟨ci1, t1⟩ := CI_build ci c mk bn
  have b6 : 6 ≤ bo 0 := by
    rcases hb with y | ⟨i, _, y⟩ | ⟨i, _, y⟩ <;> omega
  unfold fxX6_become
  refine OK_b (gR_6_10 x06) (OK_b (gR_6_6 x06) (OK_b (kO_2 s28) ?_))
  rw [← ci.1.1]
  have qb' : fxX2_build N (0 + 28) p q (bo 0) (hC s) = some (hC s1, r) := qb
  refine OK_b qb' (OK_i (fun w => OK_s ⟨s1, bo, rfl, ci1, t1, fun i _ ni => ⟨c.I ni, c.A ni⟩, .inl ?_⟩) (fun w => OK_b (kO_6 x06) (OK_c (c_keepFresh (by omega) ci1 hj) (fun h e => ?_))))
  · have w' : r = -2 := w
    rcases k with ⟨-, k2, -⟩ | ⟨k1, k2, sA, k3, k4, k5⟩
    · rw [k2] at w'
      exact absurd w' (by decide)
    · rcases k5 with k5 | ⟨kd, _, k7, k6, _⟩
      · exact ⟨w', rfl, k1, k2, sA, k3, k4, k5.2⟩
      · rw [k6] at w'
        have := congrArg Int32.toInt w'
        rw [Int32.toInt_ofNat_of_lt (by omega)] at this
        have e1 : (-2 : Int32).toInt = -2 := rfl
        omega
  · obtain ⟨s2, bo2, e2, ci2, t2, f2, g1, g2⟩ := e
    subst e2
    refine OK_s ⟨s2, bo2, rfl, ci2, TF_tr t1 t2, fun i hi ni => ⟨(f2 i hi).1.trans (c.I ni), (f2 i hi).2.trans (c.A ni)⟩, .inr ⟨w, g1, g2, ?_⟩⟩
    rcases k with ⟨k1, k2, k3, k4⟩ | ⟨k1, k2, sA, k3, k4, k5⟩
    · exact .inl ⟨k1, k2, by rw [(f2 (bo 0) b6).1]; exact k3, by rw [(f2 (bo 0 + 1) (by omega)).1]; exact k4⟩
    · rcases k5 with k5 | ⟨kd, y1, y2, y3, y4⟩
      · exact absurd k5.1 w
      · exact .inr ⟨k1, k2, sA, kd, k3, k4, y1, y2, y3, BL_IA y4 (fun i a b => f2 i (by omega))⟩
/-- rows of points that may be given to become -/
theorem row_b {s : cS} {bo : Nat → Nat} (ci : CI s bo) {k : Nat} (hk : k < 17) : ∃ n, n ≤ 24 ∧ shp (bo k + 1) = (3, 24) ∧ qI s (bo k + 1) 0 = Int32.ofNat n ∧ (∀ i, i < n → bd3 (pc s (bo k + 1) i) 100) ∧ (bo k + 1 + 3 < 28 ∨ 45 < bo k + 1) := by
  obtain ⟨kd, n, F, E, R, h1, h2, h3, h4, h5, h6, h7, h8, h9, -⟩ := ci.2.1 k hk
  have hb := ci.1.2.2.2.1 k hk
  have := (isB_rg hb).1
  exact ⟨n, h2, (isB_sh hb).2.1, h6, h9, by omega⟩
theorem row_d {s : cS} {bo : Nat → Nat} (ci : CI s bo) {k : Nat} (hk : k < 17) (k0 : k ≠ 0) : bo k + 1 + 3 < bo 0 ∨ bo 0 + 9 < bo k + 1 := by
  have h0 := ci.1.2.2.2.1 0 (by omega)
  have hb := ci.1.2.2.2.1 k hk
  rcases isB_dis h0 hb (fun e => k0 (ci.1.2.2.2.2 0 k (by omega) hk e).symm) with y | y <;> omega
theorem sh_tr {j : Nat} (hj : j < 8) : shp (47 + 14 * j) = (3, 24) := by
  have : ∀ j, j < 8 → shp (47 + 14 * j) = (3, 24) := by decide
  exact this j hj
theorem tr_d {s : cS} {bo : Nat → Nat} (ci : CI s bo) {j : Nat} (hj : j < 8) : 47 + 14 * j + 3 < bo 0 ∨ bo 0 + 9 < 47 + 14 * j := by
  have h0 := ci.1.2.2.2.1 0 (by omega)
  rcases h0 with y | ⟨i, hi, y⟩ | ⟨i, hi, y⟩ <;> omega
theorem lo_d {s : cS} {bo : Nat → Nat} (ci : CI s bo) {p : Nat} (h1 : 16 ≤ p) (h2 : p + 3 < 28) : p + 3 < bo 0 ∨ bo 0 + 9 < p := by
  have h0 := ci.1.2.2.2.1 0 (by omega)
  rcases h0 with y | ⟨i, hi, y⟩ | ⟨i, hi, y⟩ <;> omega
theorem v0_bd : bd3 v0 200 := ⟨by decide, by decide, by decide⟩
theorem org {s : cS} {bo : Nat → Nat} (ci : CI s bo) : ∀ j, j < 1 → bd3 (pc s 20 j) 200 := fun j hj => by
  have : j = 0 := by omega
  rw [this, ci.2.2.2.2.1.2]
  exact v0_bd
/-- a row and the origin -/
theorem PZ_o {s : cS} {bo : Nat → Nat} (ci : CI s bo) {p n k : Nat} (hp : shp p = (3, n)) (hn : n < 600) (hk : qI s p 0 = Int32.ofNat k) (hkn : k ≤ n) (hp2 : p + 3 < 28 ∨ 45 < p) (bd : ∀ j, j < k → bd3 (pc s p j) 200) : PZ s p 20 n 1 k 1 := ⟨⟨hp, s20, hn, by omega⟩, ⟨hk, ci.2.2.2.2.1.1⟩, ⟨hkn, by omega⟩, ⟨hp2, by omega⟩, fun _ _ => ⟨bd, org ci⟩⟩
theorem SQ_bc {N j p q n m kp kq : Nat} {s0 s : cS} {bo : Nat → Nat} (hN : 100000 < N) (ci : CI s bo) (tf : TF s0 s) (hj : j < 8) (z : PZ s p q n m kp kq) (dp : p + 3 < bo 0 ∨ bo 0 + 9 < p) (dq : q + 3 < bo 0 ∨ bo 0 + 9 < q) : OK (SQ s0) (fxX6_become N 0 (Int32.ofNat j) p q (hC s)) := by
  obtain ⟨r, e, s', bo', e', ci', t', -⟩ := c_become (N := N) hN ci hj z dp dq
  exact ⟨r, e, s', bo', e', ci', TF_tr tf t'⟩
/-- solid -/
theorem y_solid {N : Nat} {a t : Int32} {s : cS} {bo : Nat → Nat} (hN : 100000 < N) (ci : CI s bo) : OK (SQ s) (fxX6_solid N 0 a t (hC s)) := by
  unfold fxX6_solid
  refine OK_slot (fun j hj ej => ?_) (fun _ => OK_p rfl (OK_s (SQ_rf ci)))
  refine OK_n no1 (OK_slot (fun i hi ei => ?_) (fun _ => OK_p rfl (OK_s (SQ_rf ci))))
  subst ej
  subst ei
  obtain ⟨q1, n, n1, n2, n3⟩ := ci.2.2.1 i hi
  refine OK_n no1 (OK_b (gR_6_1 x06) (OK_b (aZ_N (k := i) r2 hi (by decide)) (OK_i (fun _ => OK_s (SQ_rf ci)) (fun _ => OK_b (gR_6_0 x06) (OK_b (aR1 hi q1) (OK_b (gR_6_8 x06) (OK_b (kO_6 x06) (OK_c (Q' := SQ s) ?_ (fun r e => OK_s e)))))))))
  exact SQ_bc hN ci TF_rf hj (PZ_o ci (sh_tr hi) (by omega) n2 n1 (by omega) (fun j hj => bd3_le (n3 j hj) (by decide))) (tr_d ci hi) (lo_d ci (by omega) (by omega))
theorem pt100 {x y z : Int32} (h : isPt x y z) : bd3 (x.toInt, y.toInt, z.toInt) 100 := by
  obtain ⟨a, b, c, d, e, f⟩ := h
  rw [Int32.lt_iff_toInt_lt] at a b c d e f
  have m : (-100 : Int32).toInt = -100 := rfl
  have p : (100 : Int32).toInt = 100 := rfl
  rw [m] at a c e
  rw [p] at b d f
  exact ⟨by show x.toInt.natAbs ≤ 100; omega, by show y.toInt.natAbs ≤ 100; omega, by show z.toInt.natAbs ≤ 100; omega⟩
theorem fre_16 {i : Nat} (h : rg 16 19 i) : fre i := .inl ⟨h.1, h.2⟩
theorem fre_24 {i : Nat} (h : rg 24 27 i) : fre i := .inr (.inl ⟨by have := h.1; omega, by have := h.2; omega, by have := h.2; omega⟩)
theorem fre_41 {i : Nat} (h : rg 41 45 i) : fre i := .inr (.inl ⟨by have := h.1; omega, by have := h.2; omega, by have := h.1; omega⟩)
/-- grow -/
theorem y_grow {N : Nat} {a x y z : Int32} {s : cS} {bo : Nat → Nat} (hN : 100000 < N) (ci : CI s bo) : OK (SQ s) (fxX6_grow N 0 a x y z (hC s)) := by
  unfold fxX6_grow
  refine OK_slot (fun j hj ej => ?_) (fun _ => OK_p rfl (OK_s (SQ_rf ci)))
  refine OK_n no1 (OK_pt (fun hpt => ?_) (fun _ => OK_p rfl (OK_s (SQ_rf ci))))
  subst ej
  obtain ⟨n, n1, n2, n3, n4, n5⟩ := row_b ci (show 1 + j < 17 by omega)
  have hb := ci.1.2.2.2.1 (1 + j) (by omega)
  obtain ⟨b0, -⟩ := isB_sh hb
  have k16 : (shp 16).1 = 3 := rfl
  have rb := isB_rg hb
  obtain ⟨s1, q1, c1, i1, p1⟩ := c_takeAll (N := N) (p := 16) (n := 25) (q := bo (1 + j) + 1) (m := 24) (k := n) (s := s) (by omega) s16 (by omega) n2 (by omega) (by
    rcases hb with y | ⟨i, _, y⟩ | ⟨i, _, y⟩ <;> omega) n3 n1 (by omega)
  obtain ⟨ci1, t1⟩ := CI_cf ci (c1.mo (M := rg 16 19) (fun i hi => ⟨hi.1, hi.2⟩)) (fun i hi => fre_16 hi)
  obtain ⟨s2, q2, c2, -, p2⟩ := c_put2 (N := N) (p := 16) (n := 25) (k := n) (x := x) (y := y) (z := z) (s := s1) s16 (by omega) i1 (by omega)
  obtain ⟨i2, p2'⟩ := p2 (by omega)
  obtain ⟨ci2, t2⟩ := CI_cf ci1 (c2.mo (M := rg 16 19) (fun i hi => ⟨hi.1, hi.2⟩)) (fun i hi => fre_16 hi)
  have q1' : fxX3_takeAll N (0 + 16) (bo (1 + j) + 1) (hC s) = some (hC s1) := q1
  have q2' : fxX3_put N (0 + 16) x y z (hC s1) = some (hC s2) := q2
  refine OK_n no1 (OK_b (gR_6_7 x06) (OK_b (gR_6_2 x06) (OK_b (aR3 hj (ci.1.2.1 j hj)) (OK_b (gR_0_1 b0) (OK_b (kO_3 k16) (OK_b q1' (OK_b (gR_6_7 x06) (OK_b (kO_3 k16) (OK_b q2' (OK_b (gR_6_7 x06) (OK_b (gR_6_8 x06) (OK_b (kO_6 x06) (OK_c (Q' := SQ s) ?_ (fun r e => OK_s e))))))))))))))
  refine SQ_bc hN ci2 (TF_tr t1 t2) hj (PZ_o ci2 s16 (by omega) i2 (by omega) (by omega) (fun i hi => ?_)) (lo_d ci2 (by omega) (by omega)) (lo_d ci2 (by omega) (by omega))
  rw [p2']
  by_cases d : i = n
  · rw [if_pos d]
    exact bd3_le (pt100 hpt) (by decide)
  · rw [if_neg d, p1 i (by omega)]
    exact bd3_le (n4 i (by omega)) (by decide)
/-- sum -/
theorem y_sum {N : Nat} {a b t : Int32} {s : cS} {bo : Nat → Nat} (hN : 100000 < N) (ci : CI s bo) : OK (SQ s) (fxX6_sum N 0 a b t (hC s)) := by
  unfold fxX6_sum
  refine OK_slot (fun i hi ei => ?_) (fun _ => OK_p rfl (OK_s (SQ_rf ci)))
  refine OK_n no1 (OK_slot (fun k hk ek => ?_) (fun _ => OK_p rfl (OK_s (SQ_rf ci))))
  refine OK_n no1 (OK_slot (fun j hj ej => ?_) (fun _ => OK_p rfl (OK_s (SQ_rf ci))))
  subst ei
  subst ek
  subst ej
  obtain ⟨n, n1, n2, n3, n4, n5⟩ := row_b ci (show 1 + i < 17 by omega)
  obtain ⟨m, m1, m2, m3, m4, m5⟩ := row_b ci (show 1 + k < 17 by omega)
  obtain ⟨b0, -⟩ := isB_sh (ci.1.2.2.2.1 (1 + i) (by omega))
  obtain ⟨c0, -⟩ := isB_sh (ci.1.2.2.2.1 (1 + k) (by omega))
  refine OK_n no1 (OK_b (gR_6_2 x06) (OK_b (aR3 hi (ci.1.2.1 i hi)) (OK_b (gR_0_1 b0) (OK_b (gR_6_2 x06) (OK_b (aR3 hk (ci.1.2.1 k hk)) (OK_b (gR_0_1 c0) (OK_b (kO_6 x06) (OK_c (Q' := SQ s) ?_ (fun r e => OK_s e)))))))))
  exact SQ_bc hN ci TF_rf hj ⟨⟨n2, m2, by omega, by omega⟩, ⟨n3, m3⟩, ⟨n1, m1⟩, ⟨n5, m5⟩, fun _ _ => ⟨fun j hj => bd3_le (n4 j hj) (by decide), fun j hj => bd3_le (m4 j hj) (by decide)⟩⟩ (row_d ci (by omega) (by omega)) (row_d ci (by omega) (by omega))
/-- copy: it answers by its slots alone -/
theorem y_copy {N : Nat} {a t : Int32} {s : cS} {bo : Nat → Nat} (hN : 100000 < N) (ci : CI s bo) : OK (fun r => SQ s r ∧ r.2 = if (a < 0 ∨ 8 ≤ a) ∨ (t < 0 ∨ 8 ≤ t) then 0 else 1) (fxX6_copy N 0 a t (hC s)) := by
  unfold fxX6_copy
  have sl : ∀ {j : Nat}, j < 8 → ¬ (Int32.ofNat j < 0 ∨ 8 ≤ Int32.ofNat j) := fun {j} hj w => by
    rcases w with w | w
    · exact i_lt0 (by omega) w
    · have := i_le (a := 8) (b := j) (by omega) (by omega)
      have w' : Int32.ofNat 8 ≤ Int32.ofNat j := w
      rw [this] at w'
      omega
  refine OK_slot (fun i hi ei => ?_) (fun w => OK_p rfl (OK_s ⟨SQ_rf ci, by rw [if_pos (.inl w)]⟩))
  refine OK_n no1 (OK_slot (fun j hj ej => ?_) (fun w => OK_p rfl (OK_s ⟨SQ_rf ci, by rw [if_pos (.inr w)]⟩)))
  subst ei
  subst ej
  obtain ⟨n, n1, n2, n3, n4, n5⟩ := row_b ci (show 1 + i < 17 by omega)
  obtain ⟨b0, -⟩ := isB_sh (ci.1.2.2.2.1 (1 + i) (by omega))
  refine OK_n no1 (OK_b (gR_6_2 x06) (OK_b (aR3 hi (ci.1.2.1 i hi)) (OK_b (gR_0_1 b0) (OK_b (gR_6_8 x06) (OK_b (kO_6 x06) (OK_c (Q' := SQ s) ?_ (fun r e => OK_s ⟨e, ?_⟩)))))))
  · exact SQ_bc hN ci TF_rf hj (PZ_o ci n2 (by omega) n3 n1 n5 (fun j hj => bd3_le (n4 j hj) (by decide))) (row_d ci (by omega) (by omega)) (lo_d ci (by omega) (by omega))
  · rw [if_neg (fun w => w.elim (sl hi) (sl hj))]
