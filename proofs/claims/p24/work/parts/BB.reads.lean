/-- a solid's body -/
theorem bodyOf {s : cS} {bo : Nat → Nat} (ci : CI s bo) {j : Nat} (hj : j < 8) : isB (bo (1 + j)) ∧ BO s (bo (1 + j)) ∧ (shp (bo (1 + j))).1 = 0 ∧ shp (bo (1 + j) + 1) = (3, 24) := ⟨ci.1.2.2.2.1 _ (by omega), ci.2.1 _ (by omega), (isB_sh (ci.1.2.2.2.1 _ (by omega))).1, (isB_sh (ci.1.2.2.2.1 _ (by omega))).2.1⟩
/-- count -/
theorem y_count {N : Nat} {a b : Int32} {s : cS} {bo : Nat → Nat} (ci : CI s bo) : OK (RQ s) (fxX6_count N 0 a b (hC s)) := by
  unfold fxX6_count
  refine OK_slot (fun j hj ej => ?_) (fun _ => OK_p rfl (OK_s (RQ_rf)))
  subst ej
  obtain ⟨hb, -, b0, n2⟩ := bodyOf ci hj
  obtain ⟨p3, -⟩ := pt_sh n2
  exact OK_n no1 (OK_b (gR_6_2 x06) (OK_b (aR3 hj (ci.1.2.1 j hj)) (OK_i (fun _ => OK_b (gI_0_0 b0) (OK_s (RQ_rf))) (fun _ => OK_i (fun _ => OK_b (gR_0_1 b0) (OK_b (gI_3_0 p3) (OK_s (RQ_rf)))) (fun _ => OK_i (fun _ => OK_b (gI_0_6 b0) (OK_s (RQ_rf))) (fun _ => OK_i (fun _ => OK_b (gI_0_2 b0) (OK_s (RQ_rf))) (fun _ => OK_s (RQ_rf))))))))
/-- an index that was tested -/
theorem ix {n : Nat} {k : Int32} (hn : n < 2147483648) (h0 : ¬ k < 0) (h1 : k < Int32.ofNat n) : ∃ i, i < n ∧ k = Int32.ofNat i := by
  rcases rng_or hn k with (w | w) | ⟨i, hi, e⟩
  · exact absurd w h0
  · rw [Int32.le_iff_toInt_le] at w
    rw [Int32.lt_iff_toInt_lt] at h1
    omega
  · exact ⟨i, hi, e⟩
theorem ix' {n : Nat} {k : Int32} (hn : n < 2147483648) (h0 : ¬ k < 0) (h1 : ¬ Int32.ofNat n ≤ k) : ∃ i, i < n ∧ k = Int32.ofNat i := by
  rcases rng_or hn k with (w | w) | ⟨i, hi, e⟩
  · exact absurd w h0
  · exact absurd w h1
  · exact ⟨i, hi, e⟩
/-- corner -/
theorem y_corner {N : Nat} {a b c : Int32} {s : cS} {bo : Nat → Nat} (ci : CI s bo) : OK (RQ s) (fxX6_corner N 0 a b c (hC s)) := by
  unfold fxX6_corner
  refine OK_slot (fun j hj ej => ?_) (fun _ => OK_p rfl (OK_s (RQ_rf)))
  subst ej
  obtain ⟨hb, -, b0, n2⟩ := bodyOf ci hj
  obtain ⟨n, n1, -, n3, -⟩ := row_b ci (show 1 + j < 17 by omega)
  obtain ⟨p3, d1, d2, d3⟩ := pt_sh n2
  refine OK_n no1 (OK_i (fun _ => OK_s (RQ_rf)) (fun w0 => OK_b (gR_6_2 x06) (OK_b (aR3 hj (ci.1.2.1 j hj)) (OK_b (gR_0_1 b0) (OK_b (gI_3_0 p3) ?_)))))
  rw [n3]
  refine OK_i (fun w => ?_) (fun _ => OK_s (RQ_rf))
  obtain ⟨i, hi, e⟩ := ix (by omega) w0 w
  subst e
  exact OK_b (gR_6_2 x06) (OK_b (aR3 hj (ci.1.2.1 j hj)) (OK_b (gR_0_1 b0) (OK_i (fun _ => OK_b (gR_3_1 p3) (OK_b (aI_N d1 (show i < 24 by omega) (by decide)) (OK_s (RQ_rf)))) (fun _ => OK_i (fun _ => OK_b (gR_3_2 p3) (OK_b (aI_N d2 (show i < 24 by omega) (by decide)) (OK_s (RQ_rf)))) (fun _ => OK_i (fun _ => OK_b (gR_3_3 p3) (OK_b (aI_N d3 (show i < 24 by omega) (by decide)) (OK_s (RQ_rf)))) (fun _ => OK_s (RQ_rf)))))))
/-- edge -/
theorem y_edge {N : Nat} {a b c : Int32} {s : cS} {bo : Nat → Nat} (ci : CI s bo) : OK (RQ s) (fxX6_edge N 0 a b c (hC s)) := by
  unfold fxX6_edge
  refine OK_slot (fun j hj ej => ?_) (fun _ => OK_p rfl (OK_s (RQ_rf)))
  subst ej
  obtain ⟨hb, ⟨kd, n, F, E, R, h1, h2, h3, h4, h5, h6, h7, h8, -⟩, b0, n2⟩ := bodyOf ci hj
  obtain ⟨-, -, -, -, -, b8, -⟩ := isB_sh hb
  refine OK_n no1 (OK_i (fun _ => OK_s (RQ_rf)) (fun w0 => OK_b (gR_6_2 x06) (OK_b (aR3 hj (ci.1.2.1 j hj)) (OK_b (gI_0_6 b0) ?_))))
  rw [h8]
  refine OK_i (fun _ => OK_s (RQ_rf)) (fun w => OK_i (fun _ => OK_s (RQ_rf)) (fun c0 => OK_i (fun c3 => ?_) (fun _ => OK_s (RQ_rf))))
  obtain ⟨i, hi, e⟩ := ix' (by omega) w0 w
  obtain ⟨k, hk, e'⟩ := ax_or (n := 3) (by omega) c0 c3
  subst e
  subst e'
  rw [i_c4, i_ad]
  exact OK_b (gR_6_2 x06) (OK_b (aR3 hj (ci.1.2.1 j hj)) (OK_b (gR_0_7 b0) (OK_b (aI_N b8 (show 4 * i + k < 264 by omega) (by decide)) (OK_s (RQ_rf)))))
theorem RQ_RD {s : cS} {α : Type} {r : mh × α} (h : RD s r) : RQ s r := ⟨s, h, cf.rf⟩
/-- the place of a ring's number -/
theorem ring_ix {u v c : Int32} {A B : Nat} (hA : A ≤ B) (hB : B ≤ 132) (eu : u = Int32.ofNat A) (ev : v = Int32.ofNat B) (c3 : (3 : Int32) < c) (c4 : ¬ c = 4) (c5 : ¬ c = 5) (h : ¬ v - u ≤ c - 6) : ∃ i, i < B ∧ (u + c) - 6 = Int32.ofNat i := by
  subst eu
  subst ev
  have c3' : 3 < c.toInt := by
    rw [Int32.lt_iff_toInt_lt] at c3
    exact c3
  have n4 : c.toInt ≠ 4 := fun e => c4 (Int32.toInt_inj.mp (by rw [e]; rfl))
  have n5 : c.toInt ≠ 5 := fun e => c5 (Int32.toInt_inj.mp (by rw [e]; rfl))
  obtain ⟨k, hk, e⟩ : ∃ k : Nat, 6 ≤ k ∧ c = Int32.ofNat k ∧ k < 2147483648 := by
    have hl := Int32.toInt_lt c
    refine ⟨c.toInt.toNat, by omega, ?_, by omega⟩
    apply Int32.toInt_inj.mp
    rw [Int32.toInt_ofNat_of_lt (by omega)]
    omega
  obtain ⟨e, k31⟩ := e
  subst e
  have e6 : Int32.ofNat k - 6 = Int32.ofNat (k - 6) := i_sub (b := 6) (by omega)
  rw [i_sub hA, e6, i_le (by omega) (by omega)] at h
  refine ⟨A + (k - 6), by omega, ?_⟩
  rw [i_ad]
  have := i_sub (a := A + k) (b := 6) (by omega)
  rw [show A + k - 6 = A + (k - 6) by omega] at this
  exact this
/-- face -/
theorem y_face {N : Nat} {a b c : Int32} {s : cS} {bo : Nat → Nat} (hN : 100000 < N) (ci : CI s bo) : OK (RQ s) (fxX6_face N 0 a b c (hC s)) := by
  unfold fxX6_face
  refine OK_slot (fun j hj ej => ?_) (fun _ => OK_p rfl (OK_s (RQ_rf)))
  subst ej
  obtain ⟨hb, ⟨kd, n, F, E, R, h1, h2, h3, h4, h5, h6, h7, h8, h9, h10, h11, -⟩, b0, n2⟩ := bodyOf ci hj
  obtain ⟨-, -, b5, b6, b7, b8, -⟩ := isB_sh hb
  refine OK_n no1 (OK_i (fun _ => OK_s (RQ_rf)) (fun w0 => OK_b (gR_6_2 x06) (OK_b (aR3 hj (ci.1.2.1 j hj)) (OK_b (gI_0_2 b0) ?_))))
  rw [h7]
  refine OK_i (fun _ => OK_s (RQ_rf)) (fun w => OK_i (fun c0 => OK_b (gR_6_2 x06) (OK_b (aR3 hj (ci.1.2.1 j hj)) ?_)) (fun _ => OK_s (RQ_rf)))
  obtain ⟨f, hf, e⟩ := ix' (by omega) w0 w
  subst e
  have rs := h10 (by omega)
  have R0 := rs.2.1 f (by omega)
  have R1 := rs.2.1 (f + 1) (by omega)
  have Rl := rs.1 f hf
  have RF := RS_le rs (show f + 1 ≤ F by omega)
  refine OK_i (fun c3 => ?_) (fun c3 => ?_)
  · rw [i_s]
    refine OK_b (gR_0_4 b0) (OK_b (aI_N b6 (show f < 45 by omega) (by decide)) (OK_b (gR_0_4 b0) (OK_b (aI_N b6 (show f + 1 < 45 by omega) (by decide)) (OK_i (fun _ => OK_s (RQ_rf)) (fun c4 => OK_i (fun _ => OK_b (kO_0 b0) (OK_c (c_wholeArea (by omega) hb h3 h2 rs hf) (fun r e => OK_s (RQ_RD e)))) (fun c5 => OK_i (fun _ => OK_s (RQ_rf)) (fun c6 => ?_)))))))
    obtain ⟨i, hi, e⟩ := ring_ix Rl R1.1 R0.2 R1.2 c3 c4 c5 c6
    rw [e]
    exact OK_b (gR_0_5 b0) (OK_b (aI_N b7 (show i < 132 by omega) (by decide)) (OK_s (RQ_rf)))
  · obtain ⟨k, hk, e'⟩ := ax_or (n := 3) (b := c) (by omega) (fun w => by
      rw [Int32.lt_iff_toInt_lt] at w
      rw [Int32.le_iff_toInt_le] at c0
      have : (0 : Int32).toInt = 0 := rfl
      omega) (by
      rw [Int32.lt_iff_toInt_lt] at c3
      rw [Int32.le_iff_toInt_le]
      have : (3 : Int32).toInt = (Int32.ofNat 3).toInt := rfl
      omega)
    subst e'
    rw [i_c4, i_ad]
    exact OK_b (gR_0_3 b0) (OK_b (aI_N b5 (show 4 * f + k < 176 by omega) (by decide)) (OK_s (RQ_rf)))
/-- in -/
theorem y_in {N : Nat} {a x y z q : Int32} {s : cS} {bo : Nat → Nat} (hN : 100000 < N) (ci : CI s bo) : OK (RQ s) (fxX6_in N 0 a x y z q (hC s)) := by
  unfold fxX6_in
  refine OK_slot (fun j hj ej => ?_) (fun _ => OK_p rfl (OK_s (RQ_rf)))
  subst ej
  obtain ⟨hb, bo', b0, n2⟩ := bodyOf ci hj
  have no : ∀ v : Int32, OK (RQ s) (some (hC s, v)) := fun v => OK_s (RQ_rf)
  exact OK_n no1 (OK_i (fun _ => no _) (fun _ => OK_i (fun _ => OK_win (fun _ _ => OK_n no1 (OK_win (fun _ _ => OK_n no1 (OK_win (fun _ _ => OK_n no1 (OK_b (gR_6_2 x06) (OK_b (aR3 hj (ci.1.2.1 j hj)) (OK_b (kO_0 b0) (OK_c (c_locate (by omega) hb bo') (fun r e => OK_s (RQ_RD e))))))) (OK_p rfl (no _)))) (OK_p rfl (no _)))) (OK_p rfl (no _))) (fun _ => no _)))
/-- side -/
theorem y_side {N : Nat} {a x y z d : Int32} {s : cS} {bo : Nat → Nat} (hN : 100000 < N) (ci : CI s bo) : OK (RQ s) (fxX6_side N 0 a x y z d (hC s)) := by
  unfold fxX6_side
  refine OK_slot (fun j hj ej => ?_) (fun _ => OK_p rfl (OK_s (RQ_rf)))
  subst ej
  obtain ⟨hb, -, b0, n2⟩ := bodyOf ci hj
  obtain ⟨n, n1, -, n3, -⟩ := row_b ci (show 1 + j < 17 by omega)
  obtain ⟨p3, -⟩ := pt_sh n2
  have no : ∀ v : Int32, OK (RQ s) (some (hC s, v)) := fun v => OK_s (RQ_rf)
  have lp : ∀ (r k fu : Nat) (v : Int32), k + r = n → r < fu → OK (RQ s) (fxX6_side_82 N fu x y z d (bo (1 + j) + 1) v (Int32.ofNat k) (hC s)) := by
    intro r
    induction r with
    | zero =>
      intro k fu v hk hfu
      obtain ⟨fu', rfl⟩ : ∃ f', fu = f' + 1 := ⟨fu - 1, by omega⟩
      have e : k = n := by omega
      subst e
      rw [fxX6_side_82]
      refine OK_b (gI_3_0 p3) ?_
      rw [n3]
      exact OK_p (Int32.le_refl _) (no _)
    | succ r ih =>
      intro k fu v hk hfu
      obtain ⟨fu', rfl⟩ : ∃ f', fu = f' + 1 := ⟨fu - 1, by omega⟩
      rw [fxX6_side_82]
      unfold fxX6_side_137
      rw [i_s]
      refine OK_b (gI_3_0 p3) ?_
      rw [n3]
      exact OK_n (by rw [i_le (by omega) (by omega)]; omega) (OK_b (kO_3 p3) (OK_b (c_along n2 (by decide) (show k < 24 by omega)) (OK_i (fun _ => OK_i (fun _ => ih (k + 1) fu' _ (by omega) (by omega)) (fun _ => ih (k + 1) fu' _ (by omega) (by omega))) (fun _ => ih (k + 1) fu' _ (by omega) (by omega)))))
  have go : OK (RQ s) (fxX6_side_20 N 0 (Int32.ofNat j) x y z d (hC s)) := by
    unfold fxX6_side_20
    exact OK_win (fun _ _ => OK_n no1 (OK_win (fun _ _ => OK_n no1 (OK_win (fun _ _ => OK_n no1 (OK_win (fun _ _ => OK_n no1 (OK_b (gR_6_2 x06) (OK_b (aR3 hj (ci.1.2.1 j hj)) (OK_b (gR_0_1 b0) (lp n 0 N 0 (by omega) (by omega)))))) (OK_p rfl (no _)))) (OK_p rfl (no _)))) (OK_p rfl (no _)))) (OK_p rfl (no _))
  exact OK_n no1 (OK_i (fun _ => OK_i (fun _ => OK_i (fun _ => no _) (fun _ => go)) (fun _ => go)) (fun _ => go))
/-- volume -/
theorem y_volume {N : Nat} {a : Int32} {s : cS} {bo : Nat → Nat} (hN : 100000 < N) (ci : CI s bo) : OK (RQ s) (fxX6_volume N 0 a (hC s)) := by
  unfold fxX6_volume
  refine OK_slot (fun j hj ej => ?_) (fun _ => OK_p rfl (OK_s (RQ_rf)))
  subst ej
  obtain ⟨hb, bo', b0, n2⟩ := bodyOf ci hj
  exact OK_n no1 (OK_b (gR_6_2 x06) (OK_b (aR3 hj (ci.1.2.1 j hj)) (OK_b (kO_0 b0) (OK_c (c_six (by omega) hb bo') (fun r e => OK_s (RQ_RD e))))))
theorem x46 : (shp 46).1 = 4 := rfl
theorem c_part {N p : Nat} {x : Int32} {s : cS} (h : (shp p).1 = 4) : OK (RD s) (fxX4_part N p x (hC s)) := by
  unfold fxX4_part
  exact OK_i (fun _ => OK_b (gJ_4_0 h) (OK_s rfl)) (fun _ => OK_b (gJ_4_1 h) (OK_s rfl))
theorem fre_46 {i : Nat} (h : i = 0 + 46) : fre i := .inr ⟨by omega, by omega, by omega⟩
/-- middle -/
theorem y_middle {N : Nat} {a b w : Int32} {s : cS} {bo : Nat → Nat} (hN : 100000 < N) (ci : CI s bo) : OK (RQ s) (fxX6_middle N 0 a b w (hC s)) := by
  unfold fxX6_middle
  refine OK_slot (fun j hj ej => ?_) (fun _ => OK_p rfl (OK_s (RQ_rf)))
  subst ej
  obtain ⟨hb, bo', b0, n2⟩ := bodyOf ci hj
  have no : ∀ v : Int64, OK (RQ s) (some (hC s, v)) := fun v => OK_s (RQ_rf)
  refine OK_n no1 (OK_b (gR_6_2 x06) (OK_b (aR3 hj (ci.1.2.1 j hj)) (OK_b (gI_0_0 b0) (OK_i (fun _ => OK_i (fun _ => no _) (fun _ => OK_i (fun _ => no _) (fun _ => OK_tb (OK_n no1 (OK_b (gR_6_12 x06) (OK_b (gR_6_2 x06) (OK_b (aR3 hj (ci.1.2.1 j hj)) (OK_b (kO_0 b0) (OK_r (c_moment (by omega) hb bo') (fun _ => OK_b (gR_6_2 x06) (OK_b (aR3 hj (ci.1.2.1 j hj)) (OK_b (kO_0 b0) (OK_r (c_six (by omega) hb bo') (fun _ => OK_b (kO_4 x46) (OK_c (c_rput hN x46) (fun h e => ?_)))))))))))))  (OK_p rfl (no _))))) (fun _ => no _)))))
  obtain ⟨s1, e1, c1⟩ := e
  subst e1
  have f1 : cf fre s s1 := c1.mo (fun i hi => fre_46 hi)
  exact OK_b (gR_6_12 x06) (OK_b (kO_4 x46) (OK_r (c_part x46) (fun _ => OK_s ⟨s1, rfl, f1⟩)))
/-- same -/
theorem y_same {N : Nat} {a b : Int32} {s : cS} {bo : Nat → Nat} (hN : 100000 < N) (ci : CI s bo) : OK (RQ s) (fxX6_same N 0 a b (hC s)) := by
  unfold fxX6_same
  refine OK_slot (fun i hi ei => ?_) (fun _ => OK_p rfl (OK_s (RQ_rf)))
  refine OK_n no1 (OK_slot (fun k hk ek => ?_) (fun _ => OK_p rfl (OK_s (RQ_rf))))
  subst ei
  subst ek
  obtain ⟨hb, -, b0, n2⟩ := bodyOf ci hi
  obtain ⟨hc, -, c0, m2⟩ := bodyOf ci hk
  obtain ⟨n, n1, -, n3, -⟩ := row_b ci (show 1 + i < 17 by omega)
  obtain ⟨m, m1, -, m3, -⟩ := row_b ci (show 1 + k < 17 by omega)
  obtain ⟨p3, -⟩ := pt_sh n2
  refine OK_n no1 (OK_b (gR_6_2 x06) (OK_b (aR3 hi (ci.1.2.1 i hi)) (OK_b (gR_0_1 b0) (OK_b (gR_6_2 x06) (OK_b (aR3 hk (ci.1.2.1 k hk)) (OK_b (gR_0_1 c0) (OK_b (kO_3 p3) ?_)))))))
  rcases c_isLike (N := N) (s := s) (by omega) n2 (by omega) m2 (by omega) n3 n1 m3 m1 with ⟨-, q⟩ | ⟨-, q⟩
  · exact OK_b q (OK_i (fun _ => OK_s (RQ_rf)) (fun _ => OK_s (RQ_rf)))
  · exact OK_b q (OK_i (fun _ => OK_s (RQ_rf)) (fun _ => OK_s (RQ_rf)))
theorem c_rk {N i k : Nat} {s : cS} {bo : Nat → Nat} (hN : 100000 < N) (ci : CI s bo) (hi : i < 8) (hk : k < 8) : OK (CF (rg 41 45) s) (fxX1_reckon N (0 + 41) (bo (1 + i) + 1) (bo (1 + k) + 1) (hC s)) := by
  obtain ⟨n, n1, n2, n3, n4, n5⟩ := row_b ci (show 1 + i < 17 by omega)
  obtain ⟨m, m1, m2, m3, m4, m5⟩ := row_b ci (show 1 + k < 17 by omega)
  exact c_reckon hN n2 m2 (by omega) (by omega) (by omega) (by omega) (by omega) (by omega) n3 m3 n1 m1
/-- apart -/
theorem y_apart {N : Nat} {a b : Int32} {s : cS} {bo : Nat → Nat} (hN : 100000 < N) (ci : CI s bo) : OK (RQ s) (fxX6_apart N 0 a b (hC s)) := by
  unfold fxX6_apart
  refine OK_slot (fun i hi ei => ?_) (fun _ => OK_p rfl (OK_s (RQ_rf)))
  refine OK_n no1 (OK_slot (fun k hk ek => ?_) (fun _ => OK_p rfl (OK_s (RQ_rf))))
  subst ei
  subst ek
  obtain ⟨hb, -, b0, n2⟩ := bodyOf ci hi
  obtain ⟨hc, -, c0, m2⟩ := bodyOf ci hk
  refine OK_n no1 (OK_b (gR_6_2 x06) (OK_b (aR3 hi (ci.1.2.1 i hi)) (OK_b (gI_0_0 b0) (OK_i (fun _ => OK_s (RQ_rf)) (fun _ => OK_b (gR_6_2 x06) (OK_b (aR3 hk (ci.1.2.1 k hk)) (OK_b (gI_0_0 c0) (OK_i (fun _ => OK_s (RQ_rf)) (fun _ => OK_b (gR_6_11 x06) (OK_b (gR_6_2 x06) (OK_b (aR3 hi (ci.1.2.1 i hi)) (OK_b (gR_0_1 b0) (OK_b (gR_6_2 x06) (OK_b (aR3 hk (ci.1.2.1 k hk)) (OK_b (gR_0_1 c0) (OK_b (kO_1 g41) (OK_c (c_rk hN ci hi hk) (fun h e => ?_))))))))))))))))))
  obtain ⟨s1, e1, c1⟩ := e
  subst e1
  have f1 : cf fre s s1 := c1.mo (fun i hi => fre_41 hi)
  exact OK_b (gR_6_11 x06) (OK_b (gJ_1_0 g41) (OK_i (fun _ => OK_s ⟨s1, rfl, f1⟩) (fun _ => OK_s ⟨s1, rfl, f1⟩)))
/-- near -/
theorem y_near {N : Nat} {a b w : Int32} {s : cS} {bo : Nat → Nat} (hN : 100000 < N) (ci : CI s bo) : OK (RQ s) (fxX6_near N 0 a b w (hC s)) := by
  unfold fxX6_near
  refine OK_slot (fun i hi ei => ?_) (fun _ => OK_p rfl (OK_s (RQ_rf)))
  refine OK_n no1 (OK_slot (fun k hk ek => ?_) (fun _ => OK_p rfl (OK_s (RQ_rf))))
  refine OK_n no1 (OK_tb ?_ (OK_p rfl (OK_s (RQ_rf))))
  subst ei
  subst ek
  obtain ⟨hb, -, b0, n2⟩ := bodyOf ci hi
  obtain ⟨hc, -, c0, m2⟩ := bodyOf ci hk
  refine OK_n no1 (OK_b (gR_6_2 x06) (OK_b (aR3 hi (ci.1.2.1 i hi)) (OK_b (gI_0_0 b0) (OK_i (fun _ => OK_s (RQ_rf)) (fun _ => OK_b (gR_6_2 x06) (OK_b (aR3 hk (ci.1.2.1 k hk)) (OK_b (gI_0_0 c0) (OK_i (fun _ => OK_s (RQ_rf)) (fun _ => OK_b (gR_6_11 x06) (OK_b (gR_6_2 x06) (OK_b (aR3 hi (ci.1.2.1 i hi)) (OK_b (gR_0_1 b0) (OK_b (gR_6_2 x06) (OK_b (aR3 hk (ci.1.2.1 k hk)) (OK_b (gR_0_1 c0) (OK_b (kO_1 g41) (OK_c (c_rk hN ci hi hk) (fun h e => ?_))))))))))))))))))
  obtain ⟨s1, e1, c1⟩ := e
  subst e1
  have f1 : cf fre s s1 := c1.mo (fun i hi => fre_41 hi)
  refine OK_b (gR_6_12 x06) (OK_b (gR_6_11 x06) (OK_b (gJ_1_0 g41) (OK_b (gR_6_11 x06) (OK_b (gJ_1_1 g41) (OK_b (kO_4 x46) (OK_c (c_rput hN x46) (fun h e => ?_)))))))
  obtain ⟨s2, e2, c2⟩ := e
  subst e2
  have f2 : cf fre s s2 := f1.tr (c2.mo (fun i hi => fre_46 hi))
  exact OK_b (gR_6_12 x06) (OK_b (kO_4 x46) (OK_r (c_part x46) (fun _ => OK_s ⟨s2, rfl, f2⟩)))
/-- far -/
theorem y_far {N : Nat} {a w : Int32} {s : cS} {bo : Nat → Nat} (hN : 100000 < N) (ci : CI s bo) : OK (RQ s) (fxX6_far N 0 a w (hC s)) := by
  unfold fxX6_far
  refine OK_slot (fun j hj ej => ?_) (fun _ => OK_p rfl (OK_s (RQ_rf)))
  subst ej
  obtain ⟨hb, -, b0, n2⟩ := bodyOf ci hj
  obtain ⟨n, n1, -, n3, -⟩ := row_b ci (show 1 + j < 17 by omega)
  obtain ⟨p3, -⟩ := pt_sh n2
  have no : ∀ v : Int32, OK (RQ s) (some (hC s, v)) := fun v => OK_s (RQ_rf)
  have sq : ∀ {x y : Nat}, x < 24 → y < 24 → OK (RD s) (fxX3_squareBetween N (bo (1 + j) + 1) (Int32.ofNat x) (Int32.ofNat y) (hC s)) := fun hx hy => by
    obtain ⟨v, q⟩ := c_square (N := N) (s := s) n2 (by omega) hx hy
    exact ⟨_, q, rfl⟩
  have l59 : ∀ (rec : Int32 → Nat → Int32 → Int32 → Int32 → mh → Option (mh × Int32)) (i : Nat), i < n → (∀ x y, x < 24 → y < 24 → OK (RQ s) (rec w (bo (1 + j) + 1) (Int32.ofNat x) (Int32.ofNat y) (Int32.ofNat (i + 1)) (hC s))) → ∀ (r k fu x y : Nat), k + r = n → r < fu → x < 24 → y < 24 → OK (RQ s) (fxX6_far_59 N rec fu w (bo (1 + j) + 1) (Int32.ofNat x) (Int32.ofNat y) (Int32.ofNat i) (Int32.ofNat k) (hC s)) := by
    intro rec i hi hr r
    induction r with
    | zero =>
      intro k fu x y hk hfu hx hy
      obtain ⟨fu', rfl⟩ : ∃ f', fu = f' + 1 := ⟨fu - 1, by omega⟩
      have e : k = n := by omega
      subst e
      rw [fxX6_far_59, i_s]
      refine OK_b (gI_3_0 p3) ?_
      rw [n3]
      exact OK_p (Int32.le_refl _) (hr x y hx hy)
    | succ r ih =>
      intro k fu x y hk hfu hx hy
      obtain ⟨fu', rfl⟩ : ∃ f', fu = f' + 1 := ⟨fu - 1, by omega⟩
      rw [fxX6_far_59]
      unfold fxX6_far_95
      rw [i_s k]
      refine OK_b (gI_3_0 p3) ?_
      rw [n3]
      exact OK_n (by rw [i_le (by omega) (by omega)]; omega) (OK_b (kO_3 p3) (OK_r (sq (by omega) (by omega)) (fun _ => OK_b (kO_3 p3) (OK_r (sq hx hy) (fun _ => OK_i (fun _ => ih (k + 1) fu' x y (by omega) (by omega) hx hy) (fun _ => ih (k + 1) fu' i k (by omega) (by omega) (by omega) (by omega)))))))
  have l44 : ∀ (r i fu x y : Nat), i + r = n → r < fu → x < 24 → y < 24 → OK (RQ s) (fxX6_far_44 N fu w (bo (1 + j) + 1) (Int32.ofNat x) (Int32.ofNat y) (Int32.ofNat i) (hC s)) := by
    intro r
    induction r with
    | zero =>
      intro i fu x y hi hfu hx hy
      obtain ⟨fu', rfl⟩ : ∃ f', fu = f' + 1 := ⟨fu - 1, by omega⟩
      have e : i = n := by omega
      subst e
      rw [fxX6_far_44]
      refine OK_b (gI_3_0 p3) ?_
      rw [n3]
      exact OK_p (Int32.le_refl _) (OK_i (fun _ => no _) (fun _ => OK_i (fun _ => no _) (fun _ => OK_i (fun _ => OK_b (kO_3 p3) (OK_r (sq hx hy) (fun _ => no _))) (fun _ => no _))))
    | succ r ih =>
      intro i fu x y hi hfu hx hy
      obtain ⟨fu', rfl⟩ : ∃ f', fu = f' + 1 := ⟨fu - 1, by omega⟩
      rw [fxX6_far_44, i_s]
      refine OK_b (gI_3_0 p3) ?_
      rw [n3]
      exact OK_n (by rw [i_le (by omega) (by omega)]; omega) (l59 _ i (by omega) (fun x y hx hy => ih (i + 1) fu' x y (by omega) (by omega) hx hy) (n - (i + 1)) (i + 1) N x y (by omega) (by omega) hx hy)
  refine OK_n no1 (OK_b (gR_6_2 x06) (OK_b (aR3 hj (ci.1.2.1 j hj)) (OK_b (gR_0_1 b0) (OK_b (gI_3_0 p3) (OK_i (fun _ => OK_b (gR_6_2 x06) (OK_b (aR3 hj (ci.1.2.1 j hj)) (OK_b (gR_0_1 b0) ?_))) (fun _ => no _))))))
  exact l44 n 0 N 0 1 (by omega) (by omega) (by omega) (by omega)
