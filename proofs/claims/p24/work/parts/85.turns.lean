/-- a way to turn or mirror, and the way back -/
def iso (T Ti : V3 → V3) : Prop := (∀ u x, vd (T u) (T x) = vd u x) ∧ (∀ x, T (Ti x) = x) ∧ ∀ x B, bd3 x B → bd3 (T x) B
theorem v_eq {x y : V3} (h : ∀ u, vd u x = vd u y) : x = y := by
  have h1 := h (1, 0, 0)
  have h2 := h (0, 1, 0)
  have h3 := h (0, 0, 1)
  unfold vd at h1 h2 h3
  simp only [Int.one_mul, Int.zero_mul, Int.add_zero, Int.zero_add] at h1 h2 h3
  exact v3_ext h1 h2 h3
theorem iso_inj {T Ti : V3 → V3} (h : iso T Ti) {x y : V3} (e : T x = T y) : x = y := by
  refine v_eq (fun u => ?_)
  rw [← h.1 u x, ← h.1 u y, e]
theorem srt_cnt {Q : Nat → V3} {n j : Nat} {P : Nat → V3} (hS : srt Q n P j) (hd : ∀ a b, a < b → b < j → P a ≠ P b) : n = j := by
  have ch : ∀ a, ∃ t, a < j → t < n ∧ Q t = P a := by
    intro a
    by_cases c : a < j
    · obtain ⟨t, h1, h2⟩ := hS.2.2.2 a c
      exact ⟨t, fun _ => ⟨h1, h2⟩⟩
    · exact ⟨0, fun q => absurd q c⟩
  have := pigeon n j (fun a => (ch a).choose) (fun k hk => ((ch k).choose_spec hk).1) (fun a b hab hb e => by
    have e1 := ((ch a).choose_spec (by omega)).2
    have e2 := ((ch b).choose_spec hb).2
    have e' : (ch a).choose = (ch b).choose := e
    rw [e'] at e1
    exact hd a b hab hb (e1.symm.trans e2))
  have := hS.2.1
  omega
theorem ord_ne {w : V3} {P : Nat → V3} {m a b : Nat} (ho : inOrd w P m) (hab : a < b) (hb : b < m) : P a ≠ P b := by
  intro e
  have := ho a b hab hb
  rw [e, vs_self, vd_comm, vd_0] at this
  omega
/-- what is turned is well -/
theorem ok_map {P Q : Nat → V3} {m k n : Nat} {T Ti : V3 → V3} (ok : okP P m k) (hT : iso T Ti) (hS : srt Q n (fun j => T (P j)) m) : n = m ∧ okP Q m k := by
  have nm : n = m := srt_cnt hS (fun a b hab hb e => ord_ne ok.2.2.1 hab hb (iso_inj hT e))
  subst nm
  obtain ⟨h1, h2, h3, h4, h5⟩ := ok
  refine ⟨rfl, h1, fun t ht => ?_, hS.1, fun t ht => ?_, ?_⟩
  · obtain ⟨a, a1, a2⟩ := hS.2.2.1 t ht
    rw [a2]
    exact hT.2.2 _ _ (h2 a a1)
  · obtain ⟨a, a1, a2⟩ := hS.2.2.1 t ht
    obtain ⟨u, hu⟩ := h4 a a1
    refine ⟨T u, fun t' ht' hne => ?_⟩
    obtain ⟨a', b1, b2⟩ := hS.2.2.1 t' ht'
    rw [a2, b2, hT.1, hT.1]
    refine hu a' b1 (fun e => ?_)
    rw [e, ← a2] at b2
    by_cases w : t < t'
    · exact ord_ne hS.1 w ht' b2.symm
    · exact ord_ne hS.1 (by omega : t' < t) ht b2
  · rcases h5 with h5 | ⟨h5, h6, v, e, ⟨x, hx⟩, h8⟩ | ⟨h5, h6, h7⟩
    · exact .inl h5
    · refine .inr (.inl ⟨h5, h6, T v, e, ⟨T x, by rw [hT.1]; exact hx⟩, fun i hi => ?_⟩)
      obtain ⟨a, a1, a2⟩ := hS.2.2.1 i hi
      rw [a2, hT.1, h8 a a1]
    · refine .inr (.inr ⟨h5, h6, fun u e hx => ?_⟩)
      obtain ⟨x, hx⟩ := hx
      have tv : ∀ y, vd (Ti u) y = vd u (T y) := by
        intro y
        rw [← hT.1 (Ti u) y, hT.2.1]
      obtain ⟨i, hi, hi2⟩ := h7 (Ti u) e ⟨Ti x, by rw [tv, hT.2.1]; exact hx⟩
      obtain ⟨t, t1, t2⟩ := hS.2.2.2 i hi
      refine ⟨t, t1, ?_⟩
      rw [t2, ← tv]
      exact hi2
def mrT (ax : Nat) : V3 → V3 := fun p => (if ax = 0 ∨ ax = 3 then -p.1 else p.1, if ax = 1 ∨ ax = 3 then -p.2.1 else p.2.1, if ax = 2 ∨ ax = 3 then -p.2.2 else p.2.2)
theorem mr_iso {ax : Nat} (h : ax < 4) : iso (mrT ax) (mrT ax) := by
  rcases (by omega : ax = 0 ∨ ax = 1 ∨ ax = 2 ∨ ax = 3) with rfl | rfl | rfl | rfl
  · refine ⟨fun u x => ?_, fun x => ?_, fun x B hb => ⟨?_, hb.2.1, hb.2.2⟩⟩
    · show -u.1 * -x.1 + u.2.1 * x.2.1 + u.2.2 * x.2.2 = _
      rw [Int.neg_mul_neg]
      rfl
    · refine v3_ext ?_ rfl rfl
      show - -x.1 = x.1
      omega
    · show (-x.1).natAbs ≤ B
      have := hb.1
      omega
  · refine ⟨fun u x => ?_, fun x => ?_, fun x B hb => ⟨hb.1, ?_, hb.2.2⟩⟩
    · show u.1 * x.1 + -u.2.1 * -x.2.1 + u.2.2 * x.2.2 = _
      rw [Int.neg_mul_neg]
      rfl
    · refine v3_ext rfl ?_ rfl
      show - -x.2.1 = x.2.1
      omega
    · show (-x.2.1).natAbs ≤ B
      have := hb.2.1
      omega
  · refine ⟨fun u x => ?_, fun x => ?_, fun x B hb => ⟨hb.1, hb.2.1, ?_⟩⟩
    · show u.1 * x.1 + u.2.1 * x.2.1 + -u.2.2 * -x.2.2 = _
      rw [Int.neg_mul_neg]
      rfl
    · refine v3_ext rfl rfl ?_
      show - -x.2.2 = x.2.2
      omega
    · show (-x.2.2).natAbs ≤ B
      have := hb.2.2
      omega
  · refine ⟨fun u x => ?_, fun x => ?_, fun x B hb => ⟨?_, ?_, ?_⟩⟩
    · show -u.1 * -x.1 + -u.2.1 * -x.2.1 + -u.2.2 * -x.2.2 = _
      rw [Int.neg_mul_neg, Int.neg_mul_neg, Int.neg_mul_neg]
      rfl
    · refine v3_ext ?_ ?_ ?_
      · show - -x.1 = x.1
        omega
      · show - -x.2.1 = x.2.1
        omega
      · show - -x.2.2 = x.2.2
        omega
    · show (-x.1).natAbs ≤ B
      have := hb.1
      omega
    · show (-x.2.1).natAbs ≤ B
      have := hb.2.1
      omega
    · show (-x.2.2).natAbs ≤ B
      have := hb.2.2
      omega
def tnT (ax : Nat) : V3 → V3 := fun p => if ax = 0 then (p.1, -p.2.2, p.2.1) else if ax = 1 then (p.2.2, p.2.1, -p.1) else (-p.2.1, p.1, p.2.2)
def tnI (ax : Nat) : V3 → V3 := fun p => if ax = 0 then (p.1, p.2.2, -p.2.1) else if ax = 1 then (-p.2.2, p.2.1, p.1) else (p.2.1, -p.1, p.2.2)
theorem rw_2 (a b c x y z : Int) : a * x + -c * -z + b * y = a * x + b * y + c * z := by grind
theorem rw_3 (a b c x y z : Int) : c * z + b * y + -a * -x = a * x + b * y + c * z := by grind
theorem rw_4 (a b c x y z : Int) : -b * -y + a * x + c * z = a * x + b * y + c * z := by grind
theorem tn_iso {ax : Nat} (h : ax < 3) : iso (tnT ax) (tnI ax) := by
  rcases (by omega : ax = 0 ∨ ax = 1 ∨ ax = 2) with rfl | rfl | rfl
  · refine ⟨fun u x => rw_2 _ _ _ _ _ _, fun x => ?_, fun x B hb => ⟨hb.1, ?_, hb.2.1⟩⟩
    · refine v3_ext rfl ?_ rfl
      show - -x.2.1 = x.2.1
      omega
    · show (-x.2.2).natAbs ≤ B
      have := hb.2.2
      omega
  · refine ⟨fun u x => rw_3 _ _ _ _ _ _, fun x => ?_, fun x B hb => ⟨hb.2.2, hb.2.1, ?_⟩⟩
    · refine v3_ext rfl rfl ?_
      show - -x.2.2 = x.2.2
      omega
    · show (-x.1).natAbs ≤ B
      have := hb.1
      omega
  · refine ⟨fun u x => rw_4 _ _ _ _ _ _, fun x => ?_, fun x B hb => ⟨?_, hb.1, hb.2.2⟩⟩
    · refine v3_ext ?_ rfl rfl
      show - -x.1 = x.1
      omega
    · show (-x.2.1).natAbs ≤ B
      have := hb.2.1
      omega
/-- one CORNER is written anew -/
def wr1 (h h' : mS) (k : Nat) (v : V3) : Prop := fr [6, 7, 8] h h' ∧ (∀ u, u ≠ k → h'.2.2.1 6 u = h.2.2.1 6 u ∧ h'.2.2.1 7 u = h.2.2.1 7 u ∧ h'.2.2.1 8 u = h.2.2.1 8 u) ∧ ((h'.2.2.1 6 k).toInt, (h'.2.2.1 7 k).toInt, (h'.2.2.1 8 k).toInt) = v
def at3 (h : mS) (k : Nat) : V3 := ((h.2.2.1 6 k).toInt, (h.2.2.1 7 k).toInt, (h.2.2.1 8 k).toInt)
theorem wr1_6 {h : mS} {k : Nat} {a : Int32} : wr1 h (sA h 6 k a) k (a.toInt, (h.2.2.1 7 k).toInt, (h.2.2.1 8 k).toInt) := by
  refine ⟨(fr_sA _ _ _ _).mo (by decide), fun u hu => ?_, ?_⟩
  · simp only [sA_at]
    simp [hu]
  · simp only [sA_at]
    simp
theorem wr1_7 {h : mS} {k : Nat} {a : Int32} : wr1 h (sA h 7 k a) k ((h.2.2.1 6 k).toInt, a.toInt, (h.2.2.1 8 k).toInt) := by
  refine ⟨(fr_sA _ _ _ _).mo (by decide), fun u hu => ?_, ?_⟩
  · simp only [sA_at]
    simp [hu]
  · simp only [sA_at]
    simp
theorem wr1_8 {h : mS} {k : Nat} {a : Int32} : wr1 h (sA h 8 k a) k ((h.2.2.1 6 k).toInt, (h.2.2.1 7 k).toInt, a.toInt) := by
  refine ⟨(fr_sA _ _ _ _).mo (by decide), fun u hu => ?_, ?_⟩
  · simp only [sA_at]
    simp [hu]
  · simp only [sA_at]
    simp
theorem wr1_C {h : mS} {k : Nat} {a b c : Int32} : wr1 h (sC h k a b c) k (a.toInt, b.toInt, c.toInt) := by
  refine ⟨fr_sC _ _ _ _ _, fun u hu => ?_, ?_⟩
  · rw [sC_6, sC_7, sC_8, if_neg hu, if_neg hu, if_neg hu]
    exact ⟨rfl, rfl, rfl⟩
  · rw [sC_6, sC_7, sC_8, if_pos rfl, if_pos rfl, if_pos rfl]
/-- what turns all CORNERS leaves, ahead of orders -/
def mpO (s h : mS) (i m : Nat) (T : V3 → V3) : Prop := fr [6, 7, 8] s h ∧ (∀ u, u < 24 * i ∨ 24 * i + 24 ≤ u → h.2.2.1 6 u = s.2.2.1 6 u ∧ h.2.2.1 7 u = s.2.2.1 7 u ∧ h.2.2.1 8 u = s.2.2.1 8 u) ∧ ∀ u, u < m → cP h i u = T (cP s i u)
theorem x_mr1 {N i m ax f j : Nat} {h : mS} (hi : i < 8) (h4 : h.2.2.1 4 i = Int32.ofNat m) (hm : m ≤ 24) (hj : j < m) (hax : ax < 4) (b : bd3 (at3 h (24 * i + j)) 100) : ∃ h', wr1 h h' (24 * i + j) (mrT ax (at3 h (24 * i + j))) ∧ mxX7_mirror_27 N (f + 1) (Int32.ofNat i) (Int32.ofNat ax) (Int32.ofNat (24 * i + j)) h = mxX7_mirror_27 N f (Int32.ofNat i) (Int32.ofNat ax) (Int32.ofNat (24 * i + (j + 1))) h' := by
  have ne : ¬ (Int32.ofNat (24 * i + m) ≤ Int32.ofNat (24 * i + j)) := by
    rw [i_le (by omega) (by omega)]
    omega
  obtain ⟨b1, b2, b3⟩ := b
  rcases (by omega : ax = 0 ∨ ax = 1 ∨ ax = 2 ∨ ax = 3) with rfl | rfl | rfl | rfl
  · refine ⟨sA h 6 (24 * i + j) (-(h.2.2.1 6 (24 * i + j))), ?_, ?_⟩
    · have := @wr1_6 h (24 * i + j) (-(h.2.2.1 6 (24 * i + j)))
      rw [n32 b1] at this
      exact this
    · rw [mxX7_mirror_27, rA8 rfl hi, Option.bind_some, h4, i_24, if_neg ne, if_pos (by decide)]
      unfold mxX7_mirror_51 mxX7_mirror_64 mxX7_mirror_87 mxX7_mirror_110
      rw [rA192 rfl (by omega), Option.bind_some, wA192 rfl (by omega), Option.bind_some, if_neg (by decide), if_neg (by decide), if_neg (by decide), if_neg (by decide), i_s]
      rfl
  · refine ⟨sA h 7 (24 * i + j) (-(h.2.2.1 7 (24 * i + j))), ?_, ?_⟩
    · have := @wr1_7 h (24 * i + j) (-(h.2.2.1 7 (24 * i + j)))
      rw [n32 b2] at this
      exact this
    · rw [mxX7_mirror_27, rA8 rfl hi, Option.bind_some, h4, i_24, if_neg ne, if_neg (by decide), if_neg (by decide)]
      unfold mxX7_mirror_64 mxX7_mirror_74 mxX7_mirror_87 mxX7_mirror_110
      rw [if_pos (by decide), rA192 rfl (by omega), Option.bind_some, wA192 rfl (by omega), Option.bind_some, if_neg (by decide), if_neg (by decide), i_s]
      rfl
  · refine ⟨sA h 8 (24 * i + j) (-(h.2.2.1 8 (24 * i + j))), ?_, ?_⟩
    · have := @wr1_8 h (24 * i + j) (-(h.2.2.1 8 (24 * i + j)))
      rw [n32 b3] at this
      exact this
    · rw [mxX7_mirror_27, rA8 rfl hi, Option.bind_some, h4, i_24, if_neg ne, if_neg (by decide), if_neg (by decide)]
      unfold mxX7_mirror_64 mxX7_mirror_87 mxX7_mirror_97 mxX7_mirror_110
      rw [if_neg (by decide), if_neg (by decide), if_pos (by decide), rA192 rfl (by omega), Option.bind_some, wA192 rfl (by omega), Option.bind_some, i_s]
      rfl
  · refine ⟨sC h (24 * i + j) (-(h.2.2.1 6 (24 * i + j))) (-(h.2.2.1 7 (24 * i + j))) (-(h.2.2.1 8 (24 * i + j))), ?_, ?_⟩
    · have := @wr1_C h (24 * i + j) (-(h.2.2.1 6 (24 * i + j))) (-(h.2.2.1 7 (24 * i + j))) (-(h.2.2.1 8 (24 * i + j)))
      rw [n32 b1, n32 b2, n32 b3] at this
      exact this
    · rw [mxX7_mirror_27, rA8 rfl hi, Option.bind_some, h4, i_24, if_neg ne, if_neg (by decide), if_pos (by decide)]
      unfold mxX7_mirror_51 mxX7_mirror_64 mxX7_mirror_74 mxX7_mirror_87 mxX7_mirror_97 mxX7_mirror_110
      rw [rA192 rfl (by omega), Option.bind_some, wA192 rfl (by omega), Option.bind_some, if_neg (by decide), if_pos (by decide), rA192 rfl (by omega), Option.bind_some, wA192 rfl (by omega), Option.bind_some, if_neg (by decide), if_pos (by decide), rA192 rfl (by omega), Option.bind_some, wA192 rfl (by omega), Option.bind_some, i_s]
      unfold sC
      simp only [sA_at]
      simp only [show ¬ ((7 : Nat) = 6) from by decide, show ¬ ((8 : Nat) = 7) from by decide, show ¬ ((8 : Nat) = 6) from by decide, false_and, if_false]
      rfl
theorem x_tn1 {N i m ax f j : Nat} {h : mS} (hi : i < 8) (h4 : h.2.2.1 4 i = Int32.ofNat m) (hm : m ≤ 24) (hj : j < m) (hax : ax < 3) (b : bd3 (at3 h (24 * i + j)) 100) : ∃ h', wr1 h h' (24 * i + j) (tnT ax (at3 h (24 * i + j))) ∧ mxX7_turn_27 N (f + 1) (Int32.ofNat i) (Int32.ofNat ax) (Int32.ofNat (24 * i + j)) h = mxX7_turn_27 N f (Int32.ofNat i) (Int32.ofNat ax) (Int32.ofNat (24 * i + (j + 1))) h' := by
  have ne : ¬ (Int32.ofNat (24 * i + m) ≤ Int32.ofNat (24 * i + j)) := by
    rw [i_le (by omega) (by omega)]
    omega
  obtain ⟨b1, b2, b3⟩ := b
  rcases (by omega : ax = 0 ∨ ax = 1 ∨ ax = 2) with rfl | rfl | rfl
  · refine ⟨sC h (24 * i + j) (h.2.2.1 6 (24 * i + j)) (-(h.2.2.1 8 (24 * i + j))) (h.2.2.1 7 (24 * i + j)), ?_, ?_⟩
    · have := @wr1_C h (24 * i + j) (h.2.2.1 6 (24 * i + j)) (-(h.2.2.1 8 (24 * i + j))) (h.2.2.1 7 (24 * i + j))
      rw [n32 b3] at this
      exact this
    · rw [mxX7_turn_27, rA8 rfl hi, Option.bind_some, h4, i_24, if_neg ne, rA192 rfl (by omega), Option.bind_some, rA192 rfl (by omega), Option.bind_some, rA192 rfl (by omega), Option.bind_some, if_pos (by decide)]
      unfold mxX7_turn_93 mxX7_turn_121 mxX7_turn_149
      rw [wA192 rfl (by omega), Option.bind_some, if_pos (by decide), wA192 rfl (by omega), Option.bind_some, if_pos (by decide), wA192 rfl (by omega), Option.bind_some, i_s]
      rfl
  · refine ⟨sC h (24 * i + j) (h.2.2.1 8 (24 * i + j)) (h.2.2.1 7 (24 * i + j)) (-(h.2.2.1 6 (24 * i + j))), ?_, ?_⟩
    · have := @wr1_C h (24 * i + j) (h.2.2.1 8 (24 * i + j)) (h.2.2.1 7 (24 * i + j)) (-(h.2.2.1 6 (24 * i + j)))
      rw [n32 b1] at this
      exact this
    · rw [mxX7_turn_27, rA8 rfl hi, Option.bind_some, h4, i_24, if_neg ne, rA192 rfl (by omega), Option.bind_some, rA192 rfl (by omega), Option.bind_some, rA192 rfl (by omega), Option.bind_some, if_neg (by decide), if_pos (by decide)]
      unfold mxX7_turn_93 mxX7_turn_121 mxX7_turn_149
      rw [wA192 rfl (by omega), Option.bind_some, if_neg (by decide), if_pos (by decide), wA192 rfl (by omega), Option.bind_some, if_neg (by decide), if_pos (by decide), wA192 rfl (by omega), Option.bind_some, i_s]
      rfl
  · refine ⟨sC h (24 * i + j) (-(h.2.2.1 7 (24 * i + j))) (h.2.2.1 6 (24 * i + j)) (h.2.2.1 8 (24 * i + j)), ?_, ?_⟩
    · have := @wr1_C h (24 * i + j) (-(h.2.2.1 7 (24 * i + j))) (h.2.2.1 6 (24 * i + j)) (h.2.2.1 8 (24 * i + j))
      rw [n32 b2] at this
      exact this
    · rw [mxX7_turn_27, rA8 rfl hi, Option.bind_some, h4, i_24, if_neg ne, rA192 rfl (by omega), Option.bind_some, rA192 rfl (by omega), Option.bind_some, rA192 rfl (by omega), Option.bind_some, if_neg (by decide), if_neg (by decide)]
      unfold mxX7_turn_93 mxX7_turn_121 mxX7_turn_149
      rw [wA192 rfl (by omega), Option.bind_some, if_neg (by decide), if_neg (by decide), wA192 rfl (by omega), Option.bind_some, if_neg (by decide), if_neg (by decide), wA192 rfl (by omega), Option.bind_some, i_s]
      rfl
/-- all CORNERS, one after the other -/
theorem x_map {i m : Nat} {T : V3 → V3} {F : Nat → Int32 → mS → Option (mS × Int32)} {G : mS → Option (mS × Int32)} {s : mS} (hm : m ≤ 24) (h4 : s.2.2.1 4 i = Int32.ofNat m) (bd : ∀ j, j < m → bd3 (cP s i j) 100) (stp : ∀ f j h, j < m → h.2.2.1 4 i = Int32.ofNat m → bd3 (at3 h (24 * i + j)) 100 → ∃ h', wr1 h h' (24 * i + j) (T (at3 h (24 * i + j))) ∧ F (f + 1) (Int32.ofNat (24 * i + j)) h = F f (Int32.ofNat (24 * i + (j + 1))) h') (fin : ∀ f h, h.2.2.1 4 i = Int32.ofNat m → F (f + 1) (Int32.ofNat (24 * i + m)) h = G h) : ∀ (q f j : Nat) (h : mS), j + q = m → q < f → fr [6, 7, 8] s h → (∀ u, u < 24 * i ∨ 24 * i + j ≤ u → h.2.2.1 6 u = s.2.2.1 6 u ∧ h.2.2.1 7 u = s.2.2.1 7 u ∧ h.2.2.1 8 u = s.2.2.1 8 u) → (∀ u, u < j → cP h i u = T (cP s i u)) → ∃ h', F f (Int32.ofNat (24 * i + j)) h = G h' ∧ mpO s h' i m T := by
  intro q
  induction q with
  | zero =>
    intro f j h hj hf f1 a1 a2
    obtain ⟨f', rfl⟩ : ∃ f', f = f' + 1 := ⟨f - 1, by omega⟩
    have hj' : j = m := by omega
    subst hj'
    exact ⟨h, fin f' h (by rw [f1.A (by decide)]; exact h4), f1, fun u hu => a1 u (by omega), a2⟩
  | succ q ih =>
    intro f j h hj hf f1 a1 a2
    obtain ⟨f', rfl⟩ : ∃ f', f = f' + 1 := ⟨f - 1, by omega⟩
    obtain ⟨c1, c2, c3⟩ := a1 (24 * i + j) (by omega)
    have eat : at3 h (24 * i + j) = cP s i j := by
      unfold at3 cP cP3
      rw [c1, c2, c3]
    obtain ⟨h', ⟨w1, w2, w3⟩, e⟩ := stp f' j h (by omega) (by rw [f1.A (by decide)]; exact h4) (by rw [eat]; exact bd j (by omega))
    rw [e]
    refine ih f' (j + 1) h' (by omega) (by omega) (f1.tr w1) (fun u hu => ?_) (fun u hu => ?_)
    · obtain ⟨x1, x2, x3⟩ := w2 u (by omega)
      rw [x1, x2, x3]
      exact a1 u (by omega)
    · by_cases w : u = j
      · subst w
        rw [eat] at w3
        exact w3
      · obtain ⟨x1, x2, x3⟩ := w2 (24 * i + u) (by omega)
        have := a2 u (by omega)
        unfold cP cP3 at this ⊢
        rw [x1, x2, x3]
        exact this
theorem x_or7 {N i m : Nat} {s : mS} (hi : i < 8) (hm : m ≤ 24) (h15 : s.1 15 = Int32.ofNat m) (bd : ∀ j, j < m → bd3 (hp s j) 100) : ∀ (q f j : Nat) (h : mS), j + q = m → q < f → fr [6, 7, 8] s h → (∀ u, u < 24 * i ∨ 24 * i + j ≤ u → h.2.2.1 6 u = s.2.2.1 6 u ∧ h.2.2.1 7 u = s.2.2.1 7 u ∧ h.2.2.1 8 u = s.2.2.1 8 u) → (∀ u, u < j → cP h i u = hp s u) → ∃ s', mxX7_orders_7 N f (Int32.ofNat i) (Int32.ofNat j) h = some s' ∧ fr [6, 7, 8] s s' ∧ (∀ u, u < 24 * i ∨ 24 * i + 24 ≤ u → s'.2.2.1 6 u = s.2.2.1 6 u ∧ s'.2.2.1 7 u = s.2.2.1 7 u ∧ s'.2.2.1 8 u = s.2.2.1 8 u) ∧ ∀ u, u < m → cP s' i u = hp s u := by
  intro q
  induction q with
  | zero =>
    intro f j h hj hf f1 a1 a2
    obtain ⟨f', rfl⟩ : ∃ f', f = f' + 1 := ⟨f - 1, by omega⟩
    have hj' : j = m := by omega
    subst hj'
    refine ⟨h, ?_, f1, fun u hu => a1 u (by omega), a2⟩
    rw [mxX7_orders_7, f1.I (by decide), h15, if_pos (Int32.le_refl _)]
  | succ q ih =>
    intro f j h hj hf f1 a1 a2
    obtain ⟨f', rfl⟩ : ∃ f', f = f' + 1 := ⟨f - 1, by omega⟩
    have ne : ¬ (Int32.ofNat m ≤ Int32.ofNat j) := by
      rw [i_le (by omega) (by omega)]
      omega
    rw [mxX7_orders_7, f1.I (by decide), h15, if_neg ne, rG600 rfl (by omega), Option.bind_some, i_24, wA192 rfl (by omega), Option.bind_some, rG600 rfl (by omega), Option.bind_some, wA192 rfl (by omega), Option.bind_some, rG600 rfl (by omega), Option.bind_some, wA192 rfl (by omega), Option.bind_some, i_s]
    have key : sA (sA (sA h 6 (24 * i + j) (h.2.2.2 16 j).toInt32) 7 (24 * i + j) ((sA h 6 (24 * i + j) (h.2.2.2 16 j).toInt32).2.2.2 17 j).toInt32) 8 (24 * i + j) ((sA (sA h 6 (24 * i + j) (h.2.2.2 16 j).toInt32) 7 (24 * i + j) ((sA h 6 (24 * i + j) (h.2.2.2 16 j).toInt32).2.2.2 17 j).toInt32).2.2.2 18 j).toInt32 = sC h (24 * i + j) (s.2.2.2 16 j).toInt32 (s.2.2.2 17 j).toInt32 (s.2.2.2 18 j).toInt32 := by
      unfold sC
      rw [f1.G (by decide)]
      show sA (sA (sA h 6 (24 * i + j) (s.2.2.2 16 j).toInt32) 7 (24 * i + j) (h.2.2.2 17 j).toInt32) 8 (24 * i + j) (h.2.2.2 18 j).toInt32 = _
      rw [f1.G (by decide), f1.G (by decide)]
    rw [key]
    have bj := bd j (by omega)
    refine ih f' (j + 1) _ (by omega) (by omega) (f1.tr (fr_sC _ _ _ _ _)) (fun u hu => ?_) (fun u hu => ?_)
    · rw [sC_6, sC_7, sC_8, if_neg (by omega), if_neg (by omega), if_neg (by omega)]
      exact a1 u (by omega)
    · unfold cP cP3
      rw [sC_6, sC_7, sC_8]
      by_cases w : u = j
      · rw [if_pos (by omega), if_pos (by omega), if_pos (by omega), w, i64_32 (by have := bj.1; unfold hp at this; simp only at this; omega), i64_32 (by have := bj.2.1; unfold hp at this; simp only at this; omega), i64_32 (by have := bj.2.2; unfold hp at this; simp only at this; omega)]
        rfl
      · rw [if_neg (by omega), if_neg (by omega), if_neg (by omega)]
        exact a2 u (by omega)
/-- orders, behind a turn -/
theorem x_orders {N i m k : Nat} {T Ti : V3 → V3} {s h : mS} (hN : 600 < N) (hi : i < 8) (h4 : s.2.2.1 4 i = Int32.ofNat m) (h5 : s.2.2.1 5 i = Int32.ofNat k) (ok : okP (cP s i) m k) (hT : iso T Ti) (hM : mpO s h i m T) : ∃ s' Q, mxX7_orders N (Int32.ofNat i) h = some s' ∧ okP Q m k ∧ srt Q m (fun j => T (cP s i j)) m ∧ bcO s s' i m k Q := by
  obtain ⟨f1, o1, c1⟩ := hM
  unfold mxX7_orders
  obtain ⟨s1, n, e1, sm1, S1⟩ := x_loads (N := N) (s := h) hN hi (by rw [f1.A (by decide)]; exact h4) ok.1 (fun j hj => by rw [c1 j hj]; exact bd3_le (hT.2.2 _ _ (ok.2.1 j hj)) (by decide))
  have S2 : srt (hp s1) n (fun j => T (cP s i j)) m := by
    refine ⟨hpO_ord S1.1, S1.2.1, fun t ht => ?_, fun a ha => ?_⟩
    · obtain ⟨a, a1, a2⟩ := S1.2.2.1 t ht
      exact ⟨a, a1, by rw [a2, c1 a a1]⟩
    · obtain ⟨t, t1, t2⟩ := S1.2.2.2 a ha
      exact ⟨t, t1, by rw [t2, c1 a ha]⟩
  obtain ⟨nm, okQ⟩ := ok_map ok hT S2
  subst nm
  have g1 := smH_fr sm1
  rw [e1, Option.bind_some]
  obtain ⟨s', e2, f2, o2, c2⟩ := x_or7 (N := N) (i := i) (m := n) (s := s1) hi ok.1 S1.1.1 okQ.2.1 n N 0 s1 (by omega) (by have := ok.1; omega) fr.rf (fun _ _ => ⟨rfl, rfl, rfl⟩) (fun u hu => absurd hu (by omega))
  refine ⟨s', hp s1, e2, okQ, S2, (((f1.mo (by decide)).tr (g1.mo (by decide))).tr (f2.mo (by decide)) : fr [6, 7, 8, 15, 16, 17, 18] s s').fj (by decide), fun t ht => ?_, fun t ht => ?_, ?_, ?_, c2⟩
  · rw [f2.A (by decide), f2.A (by decide), g1.A (by decide), g1.A (by decide), f1.A (by decide), f1.A (by decide)]
    exact ⟨rfl, rfl⟩
  · obtain ⟨x1, x2, x3⟩ := o2 t ht
    rw [x1, x2, x3, g1.A (by decide), g1.A (by decide), g1.A (by decide)]
    exact o1 t ht
  · rw [f2.A (by decide), g1.A (by decide), f1.A (by decide)]
    exact h4
  · rw [f2.A (by decide), g1.A (by decide), f1.A (by decide)]
    exact h5
/-- mirror -/
theorem x_mirror {N : Nat} {a b : Int32} {s : mS} (hN : 1000000 < N) (hI : INV s) : (mxX7_mirror N a b s = some (s, 0) ∧ ((a < 0 ∨ 8 ≤ a) ∨ b < 0 ∨ ¬ b ≤ 3)) ∨ ∃ i ax m k s' Q, i < 8 ∧ a = Int32.ofNat i ∧ ax < 4 ∧ b = Int32.ofNat ax ∧ s.2.2.1 4 i = Int32.ofNat m ∧ s.2.2.1 5 i = Int32.ofNat k ∧ okP (cP s i) m k ∧ okP Q m k ∧ srt Q m (fun j => mrT ax (cP s i j)) m ∧ mxX7_mirror N a b s = some (s', 1) ∧ INV s' ∧ chO s s' i m k Q := by
  unfold mxX7_mirror
  rcases slot_or a with ha | ⟨i, hi, rfl⟩
  · left
    rw [solid_no ha, Option.bind_some]
    exact ⟨rfl, .inl ha⟩
  rw [solid_in hi, Option.bind_some]
  dsimp only
  rw [if_neg (by decide)]
  by_cases c1 : b < 0
  · left
    rw [if_pos c1]
    exact ⟨rfl, .inr (.inl c1)⟩
  rw [if_neg c1]
  by_cases c2 : b ≤ 3
  · right
    rw [if_pos c2]
    obtain ⟨ax, hax, rfl⟩ : ∃ ax, ax < 4 ∧ b = Int32.ofNat ax := by
      have h0 : (0 : Int32).toInt = 0 := rfl
      have h3 : (3 : Int32).toInt = 3 := rfl
      rw [Int32.lt_iff_toInt_lt, h0] at c1
      rw [Int32.le_iff_toInt_le, h3] at c2
      refine ⟨b.toInt.toNat, by omega, Int32.toInt_inj.mp ?_⟩
      rw [Int32.toInt_ofNat_of_lt (by omega)]
      omega
    have hI' := hI
    obtain ⟨c, g1, g2, g3, -⟩ := hI'
    obtain ⟨m, k, h4, h5, ok⟩ := g3 i hi
    obtain ⟨s1, e1, K⟩ := x_keeps (N := N) (by omega) g1 g2
    obtain ⟨k4, k5, kc⟩ := kpO_slot K
    rw [e1, Option.bind_some, i_c24]
    have h41 : s1.2.2.1 4 i = Int32.ofNat m := by rw [k4]; exact h4
    obtain ⟨h', e2, M⟩ := x_map (i := i) (m := m) (T := mrT ax) (F := fun f x h => mxX7_mirror_27 N f (Int32.ofNat i) (Int32.ofNat ax) x h) (G := fun h => (mxX7_orders N (Int32.ofNat i) h).bind fun o11 => some (o11, 1)) (s := s1) ok.1 h41 (by rw [kc]; exact ok.2.1) (fun f j h hj hh4 hb => x_mr1 hi hh4 ok.1 hj hax hb) (fun f h hh4 => by
      show mxX7_mirror_27 N (f + 1) (Int32.ofNat i) (Int32.ofNat ax) (Int32.ofNat (24 * i + m)) h = _
      rw [mxX7_mirror_27, rA8 rfl hi, Option.bind_some, hh4, i_24, if_pos (Int32.le_refl _)]) m N 0 s1 (by omega) (by have := ok.1; omega) fr.rf (fun _ _ => ⟨rfl, rfl, rfl⟩) (fun u hu => absurd hu (by omega))
    obtain ⟨s', Q, e3, okQ, S, B⟩ := x_orders (N := N) (k := k) (by omega) hi h41 (by rw [k5]; exact h5) (by rw [kc]; exact ok) (mr_iso hax) M
    rw [kc] at S
    refine ⟨i, ax, m, k, s', Q, hi, rfl, hax, rfl, h4, h5, ok, okQ, S, ?_, INV_bc (INV_keeps hI K) B okQ, s, s1, fi.rf, K, B⟩
    have e2' : mxX7_mirror_27 N N (Int32.ofNat i) (Int32.ofNat ax) (Int32.ofNat (24 * i + 0)) s1 = (mxX7_orders N (Int32.ofNat i) h').bind fun o11 => some (o11, 1) := e2
    rw [Nat.add_zero] at e2'
    rw [e2', e3, Option.bind_some]
  · left
    rw [if_neg c2]
    exact ⟨rfl, .inr (.inr c2)⟩
/-- turn -/
theorem x_turn {N : Nat} {a b : Int32} {s : mS} (hN : 1000000 < N) (hI : INV s) : (mxX7_turn N a b s = some (s, 0) ∧ ((a < 0 ∨ 8 ≤ a) ∨ b < 0 ∨ ¬ b ≤ 2)) ∨ ∃ i ax m k s' Q, i < 8 ∧ a = Int32.ofNat i ∧ ax < 3 ∧ b = Int32.ofNat ax ∧ s.2.2.1 4 i = Int32.ofNat m ∧ s.2.2.1 5 i = Int32.ofNat k ∧ okP (cP s i) m k ∧ okP Q m k ∧ srt Q m (fun j => tnT ax (cP s i j)) m ∧ mxX7_turn N a b s = some (s', 1) ∧ INV s' ∧ chO s s' i m k Q := by
  unfold mxX7_turn
  rcases slot_or a with ha | ⟨i, hi, rfl⟩
  · left
    rw [solid_no ha, Option.bind_some]
    exact ⟨rfl, .inl ha⟩
  rw [solid_in hi, Option.bind_some]
  dsimp only
  rw [if_neg (by decide)]
  by_cases c1 : b < 0
  · left
    rw [if_pos c1]
    exact ⟨rfl, .inr (.inl c1)⟩
  rw [if_neg c1]
  by_cases c2 : b ≤ 2
  · right
    rw [if_pos c2]
    obtain ⟨ax, hax, rfl⟩ : ∃ ax, ax < 3 ∧ b = Int32.ofNat ax := by
      have h0 : (0 : Int32).toInt = 0 := rfl
      have h3 : (2 : Int32).toInt = 2 := rfl
      rw [Int32.lt_iff_toInt_lt, h0] at c1
      rw [Int32.le_iff_toInt_le, h3] at c2
      refine ⟨b.toInt.toNat, by omega, Int32.toInt_inj.mp ?_⟩
      rw [Int32.toInt_ofNat_of_lt (by omega)]
      omega
    have hI' := hI
    obtain ⟨c, g1, g2, g3, -⟩ := hI'
    obtain ⟨m, k, h4, h5, ok⟩ := g3 i hi
    obtain ⟨s1, e1, K⟩ := x_keeps (N := N) (by omega) g1 g2
    obtain ⟨k4, k5, kc⟩ := kpO_slot K
    rw [e1, Option.bind_some, i_c24]
    have h41 : s1.2.2.1 4 i = Int32.ofNat m := by rw [k4]; exact h4
    obtain ⟨h', e2, M⟩ := x_map (i := i) (m := m) (T := tnT ax) (F := fun f x h => mxX7_turn_27 N f (Int32.ofNat i) (Int32.ofNat ax) x h) (G := fun h => (mxX7_orders N (Int32.ofNat i) h).bind fun o11 => some (o11, 1)) (s := s1) ok.1 h41 (by rw [kc]; exact ok.2.1) (fun f j h hj hh4 hb => x_tn1 hi hh4 ok.1 hj hax hb) (fun f h hh4 => by
      show mxX7_turn_27 N (f + 1) (Int32.ofNat i) (Int32.ofNat ax) (Int32.ofNat (24 * i + m)) h = _
      rw [mxX7_turn_27, rA8 rfl hi, Option.bind_some, hh4, i_24, if_pos (Int32.le_refl _)]) m N 0 s1 (by omega) (by have := ok.1; omega) fr.rf (fun _ _ => ⟨rfl, rfl, rfl⟩) (fun u hu => absurd hu (by omega))
    obtain ⟨s', Q, e3, okQ, S, B⟩ := x_orders (N := N) (k := k) (by omega) hi h41 (by rw [k5]; exact h5) (by rw [kc]; exact ok) (tn_iso hax) M
    rw [kc] at S
    refine ⟨i, ax, m, k, s', Q, hi, rfl, hax, rfl, h4, h5, ok, okQ, S, ?_, INV_bc (INV_keeps hI K) B okQ, s, s1, fi.rf, K, B⟩
    have e2' : mxX7_turn_27 N N (Int32.ofNat i) (Int32.ofNat ax) (Int32.ofNat (24 * i + 0)) s1 = (mxX7_orders N (Int32.ofNat i) h').bind fun o11 => some (o11, 1) := e2
    rw [Nat.add_zero] at e2'
    rw [e2', e3, Option.bind_some]
  · left
    rw [if_neg c2]
    exact ⟨rfl, .inr (.inr c2)⟩
