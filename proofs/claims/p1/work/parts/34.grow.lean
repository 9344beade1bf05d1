/-- only the array at a has changed -/
def fA (a : Nat) (s s' : cS) : Prop := qI s' = qI s ∧ qR s' = qR s ∧ qF s' = qF s ∧ ∀ b, ¬ b = a → qA s' b = qA s b
theorem c_arr {N a n : Nat} {v : Int32} (h : shp a = (10, n)) (hn : n < 2147483648) : ∀ (m f j : Nat) (s : cS), j + m = n → m < f → ∃ s', fxJ7_fill_53178_5 N f a v (Int32.ofNat j) (Int32.ofNat n) (hC s) = some (hC s') ∧ fA a s s' := by
  intro m
  induction m with
  | zero =>
    intro f j s hj hf
    obtain ⟨f', rfl⟩ : ∃ f', f = f' + 1 := ⟨f - 1, by omega⟩
    refine ⟨s, ?_, rfl, rfl, rfl, fun _ _ => rfl⟩
    rw [fxJ7_fill_53178_5, if_pos]
    rw [i_le hn (by omega)]
    omega
  | succ m ih =>
    intro f j s hj hf
    obtain ⟨f', rfl⟩ : ∃ f', f = f' + 1 := ⟨f - 1, by omega⟩
    obtain ⟨s', e, h1, h2, h3, h4⟩ := ih f' (j + 1) (uA s a (upd (qA s a) j v)) (by omega) (by omega)
    refine ⟨s', ?_, ?_, ?_, ?_, ?_⟩
    · rw [fxJ7_fill_53178_5, if_neg (by rw [i_le hn (by omega)]; omega), wI_N h (by omega) hn, Option.bind_some, i_s]
      exact e
    · rw [h1]
      rfl
    · rw [h2]
      rfl
    · rw [h3]
      rfl
    · intro b hb
      rw [h4 b hb, qA_uA, if_neg hb]
theorem c_rings0 {N : Nat} {s : cS} (h : qI s 6 2 = 0) : fxX0_layRings (N + 1) 6 (hC s) = some (hC (uA s 12 (upd (qA s 12) 0 0))) := by
  have k : shp 12 = (10, 45) := rfl
  unfold fxX0_layRings
  rw [fxX0_layRings_4]
  simp only [gI_0_2 s6, Option.bind_some, h, if_pos (Int32.le_refl (0 : Int32)), gR_0_4 s6, wI_0 k (by decide) (by decide), Nat.reduceAdd]
theorem c_edges1 {N F : Nat} {R : Nat → Nat → Option Nat} {c : Int32} {s : cS} (hT : T2 R F c s) : ∃ s', fxX0_layEdges (N + 600) 6 40 (hC s) = some (hC s') ∧ T2 R F c s' := by
  obtain ⟨t1, t2, t3, t4, t5, t6⟩ := hT
  have k : shp 40 = (10, 576) := rfl
  have s7' : (shp 7).1 = 3 := rfl
  obtain ⟨s', e, h1, h2, h3, h4⟩ := c_arr (N := N + 600) (v := -1) k (by decide) 576 (N + 600) 0 s rfl (by omega)
  have e' : fxJ7_fill_53178 (N + 600) 40 (-1) (hC s) = some (hC s') := by
    unfold fxJ7_fill_53178
    rw [aL_10 k, Option.bind_some]
    exact e
  refine ⟨s', ?_, by rw [h2, t1], by rw [h3, t2], by rw [h1, t3], by rw [h1, t4], by rw [h1, t5], by rw [h1, t6]⟩
  unfold fxX0_layEdges
  rw [gI_0_0 s6, Option.bind_some, t4, if_neg (by decide), e', Option.bind_some, fxX0_layEdges_24, gI_0_2 s6, Option.bind_some, h1, t6, if_pos (Int32.le_refl (0 : Int32)), fxX0_layEdges_113, gR_0_1 s6, Option.bind_some, gI_3_0 s7', Option.bind_some, h1, t5, if_neg (by decide), fxX0_layEdges_128, gR_0_1 s6, Option.bind_some, gI_3_0 s7', Option.bind_some, h1, t5, if_pos (by decide), fxX0_layEdges_113, gR_0_1 s6, Option.bind_some, gI_3_0 s7', Option.bind_some, h1, t5, if_pos (by decide)]
/-- a body emptied -/
def clrB (s : cS) (b : Nat) : cS := uJ (uI (uI (uI (uI s b 0 0) (b + 1) 0 0) b 2 0) b 6 0) (b + 9) 1 0
theorem c_clearB {N b : Nat} {s : cS} (hb : (shp b).1 = 0) : fxX0_clear N b (hC s) = some (hC (clrB s b)) := by
  obtain ⟨e1, e2, e3, e4, e5, e6⟩ := sh_0 b (shp_lt (by rw [hb]; decide)) hb
  have f1 : (shp (b + 1)).1 = 3 := by rw [e1]
  have f9 : (shp (b + 9)).1 = 4 := by rw [e6]
  unfold fxX0_clear clrB
  simp only [sI_0_0 hb, gR_0_1 hb, kO_3 f1, c_clear f1, sI_0_2 hb, sI_0_6 hb, gR_0_8 hb, sJ_4_1 f9, Option.bind_some]
/-- the sum of a row without points is empty -/
theorem c_build0 {N b p q : Nat} {s : cS} (hb : (shp b).1 = 0) (hp : (shp p).1 = 3) (h : qI (clrB s b) p 0 = 0) : fxX2_build N 28 p q b (hC s) = some (hC (clrB s b), 0) := by
  unfold fxX2_build
  rw [kO_0 hb, Option.bind_some, c_clearB hb, Option.bind_some, gI_3_0 hp, Option.bind_some, h, if_pos rfl]
theorem c_build1 {N F : Nat} {R : Nat → Nat → Option Nat} {c x y z : Int32} {s : cS} (hp : isPt x y z) (t1 : qR s = R) (t2 : qF s = F) (t3 : qI s 0 5 = c) (t4 : qI s 16 0 = 1) (t5 : qI s 20 0 = 1) (t6 : qA s 17 0 = x) (t7 : qA s 18 0 = y) (t8 : qA s 19 0 = z) (t9 : qA s 21 0 = 0) (t10 : qA s 22 0 = 0) (t11 : qA s 23 0 = 0) : ∃ s', fxX2_build (N + 600) 28 16 20 6 (hC s) = some (hC s', 1) ∧ T2 R F c s' := by
  have s16' : (shp 16).1 = 3 := rfl
  have s20' : (shp 20).1 = 3 := rfl
  generalize hs1 : uI (uI (uI (uI (clrB s 6) 30 0 0) 29 1 0) 28 2 0) 28 3 0 = s1
  have i1 : ∀ p k, ¬ p = 6 → ¬ p = 7 → ¬ p = 28 → ¬ p = 29 → ¬ p = 30 → qI s1 p k = qI s p k := by
    intro p k h6 h7 h28 h29 h30
    simp [← hs1, clrB, qI_uI, qI_uJ, h6, h7, h28, h29, h30]
  have a1 : qA s1 = qA s := by
    rw [← hs1]
    rfl
  have z30 : qI s1 30 0 = 0 := by simp [← hs1, qI_uI]
  have z28 : qI s1 28 3 = 0 := by simp [← hs1, qI_uI]
  have z282 : qI s1 28 2 = 0 := by simp [← hs1, qI_uI]
  have z29 : qI s1 29 1 = 0 := by simp [← hs1, qI_uI]
  have z7 : qI s1 7 0 = 0 := by simp [← hs1, clrB, qI_uI, qI_uJ]
  have z62 : qI s1 6 2 = 0 := by simp [← hs1, clrB, qI_uI, qI_uJ]
  have z66 : qI s1 6 6 = 0 := by simp [← hs1, clrB, qI_uI, qI_uJ]
  obtain ⟨s2, e2, hT2⟩ := c_spread (N := N + 599) (R := R) (F := F) (c := c) (s := s1) hp (by rw [← t1, ← hs1]; rfl) (by rw [← t2, ← hs1]; rfl) (by rw [i1 0 5 (by decide) (by decide) (by decide) (by decide) (by decide), t3]) (by rw [i1 16 0 (by decide) (by decide) (by decide) (by decide) (by decide), t4]) (by rw [i1 20 0 (by decide) (by decide) (by decide) (by decide) (by decide), t5]) (by rw [a1, t6]) (by rw [a1, t7]) (by rw [a1, t8]) (by rw [a1, t9]) (by rw [a1, t10]) (by rw [a1, t11]) z30 z28 z282 z29 z7 z62 z66
  obtain ⟨s3, e3, hT3⟩ := c_fill (N := N + 598) hT2
  have hr : qI s2 28 2 = 0 := hT2.2.2.2.2.2.2.2.2.2.2.2.2.2.2.2.1
  have e4 := c_rings0 (N := N + 599) hT3.2.2.2.2.2
  obtain ⟨s5, e5, hT5⟩ := c_edges1 (N := N) (s := uA s3 12 (upd (qA s3 12) 0 0)) hT3
  refine ⟨s5, ?_, hT5⟩
  unfold fxX2_build
  have o1 : qI (clrB s 6) 16 0 = 1 := by simp [clrB, qI_uI, qI_uJ, t4]
  have o2 : qI (clrB s 6) 20 0 = 1 := by simp [clrB, qI_uI, qI_uJ, t5]
  have e1 : fxX5_clear (N + 600) 29 (hC (clrB s 6)) = some (hC (uI (uI (clrB s 6) 30 0 0) 29 1 0)) := by
    unfold fxX5_clear
    simp only [gR_5_0 s29, Option.bind_some, Nat.reduceAdd, kO_3 s30', c_clear s30', sI_5_1 s29]
  rw [kO_0 s6, Option.bind_some, c_clearB s6, Option.bind_some, gI_3_0 s16', Option.bind_some, o1, if_neg (by decide), gI_3_0 s20', Option.bind_some, o2, if_neg (by decide), gR_2_0 s28, Option.bind_some, kO_5 s29, Option.bind_some, e1, Option.bind_some, sI_2_2 s28, Option.bind_some, sI_2_3 s28, Option.bind_some, hs1, kO_2 s28, Option.bind_some, e2, Option.bind_some]
  rw [if_pos (show (1 : Int32) < 3 by decide)]
  unfold fxX2_build_66
  rw [gI_2_2 s28, Option.bind_some, hr, if_pos rfl, kO_2 s28, Option.bind_some, e3, Option.bind_some, kO_0 s6, Option.bind_some, e4, Option.bind_some, gR_2_1 s28, Option.bind_some, kO_0 s6, Option.bind_some, e5, Option.bind_some]
theorem s3 : shp 3 = (14, 8) := rfl
theorem s4 : shp 4 = (14, 8) := rfl
theorem s5 : shp 5 = (10, 8) := rfl
/-- the fresh body takes its slot -/
def keepS (s : cS) (k j b b2 : Nat) : cS := uF (uR (uI (uA (uR s 4 (va_up (qR s 4) k (some b))) 5 (upd (qA s 5) k (Int32.ofNat j))) 0 5 (Int32.ofNat (k + 1))) 3 (va_up (qR s 3) j (some (qF s)))) b2
theorem c_keep {N k j b b2 : Nat} {s : cS} (hk : k < 8) (hj : j < 8) (hc : qI s 0 5 = Int32.ofNat k) (hb : qR s 3 j = some b) (b0 : (shp b).1 = 0) (hb2 : qR s 4 k = some b2) (f0 : (shp (qF s)).1 = 0) : fxX6_keepFresh N 0 (Int32.ofNat j) (hC s) = some (hC (keepS s k j b b2)) := by
  have n8 : ¬ (Int32.ofNat k = 8) := fun h => by
    have := i_inj (a := k) (b := 8) (by omega) (by omega) h
    omega
  unfold fxX6_keepFresh
  rw [gI_6_5 s0, Option.bind_some, hc, if_neg n8]
  unfold fxX6_keepFresh_13 keepS
  have bk := i_nb hk (show 8 < 2147483648 by decide)
  have bj := i_nb hj (show 8 < 2147483648 by decide)
  rw [gR_6_3 s0, Option.bind_some, gI_6_5 s0, Option.bind_some, hc]
  simp only [Nat.zero_add]
  rw [aR_14 s4 bk, i_tn (by omega), hb2, Option.bind_some, Option.bind_some, Option.bind_some, gR_6_2 s0, Option.bind_some]
  simp only [Nat.zero_add]
  rw [aR_14 s3 bj, i_tn (by omega), hb, Option.bind_some, wR_14 s4 b0 bk, i_tn (by omega), Option.bind_some, gR_6_4 s0, Option.bind_some, gI_6_5 s0, Option.bind_some]
  simp only [Nat.zero_add, qI_uR, hc]
  rw [wI_N s5 hk (by decide), Option.bind_some, gI_6_5 s0, Option.bind_some]
  simp only [qI_uR, qI_uA, hc, i_s]
  rw [sI_6_5 s0, Option.bind_some, gR_6_2 s0, Option.bind_some, gR_6_6 s0, Option.bind_some]
  simp only [Nat.zero_add, qF_uI, qF_uA, qF_uR]
  rw [wR_14 s3 f0 bj, i_tn (by omega), Option.bind_some, sF_6_6 s0, Option.bind_some]
  simp [qR_uR, qR_uI, qR_uA, qA_uR]
theorem s1 : shp 1 = (13, 8) := rfl
theorem st_sol : ∀ j, j < 8 → qR cs0 3 j = some (51 + 14 * j) ∧ (shp (51 + 14 * j)).1 = 0 ∧ shp (51 + 14 * j + 1) = (3, 24) ∧ (shp (51 + 14 * j + 1)).1 = 3 ∧ (∀ k, k < 10 → qI cs0 (51 + 14 * j) k = 0) ∧ qI cs0 (51 + 14 * j + 1) 0 = 0 := by decide +kernel
theorem st_is : shp 2 = (12, 8) := rfl
/-- the start's become: of one POINT -/
theorem c_grow0 {j : Nat} {x y z : Int32} (N : Nat) (hj : j < 8) (hp : isPt x y z) : ∃ s', fxX6_grow (N + 600) 0 (Int32.ofNat j) x y z (hC cs0) = some (hC s', 1) := by
  obtain ⟨g1, g2, g3, g4, g5, g6⟩ := st_sol j hj
  have s16' : (shp 16).1 = 3 := rfl
  have bj := i_nb hj (show 8 < 2147483648 by decide)
  have u1 : qI (uI cs0 16 0 0) (51 + 14 * j + 1) 0 = 0 := by
    rw [qI_uI, if_neg (by omega), g6]
  have e1 : fxX3_takeAll (N + 600) 16 (51 + 14 * j + 1) (hC cs0) = some (hC (uI cs0 16 0 0)) := by
    unfold fxX3_takeAll
    rw [kO_3 s16', Option.bind_some, c_clear s16', Option.bind_some, fxX3_takeAll_6, gI_3_0 g4, Option.bind_some, u1, if_pos (Int32.le_refl (0 : Int32))]
  have e2 := c_put (N := N + 600) (k := 0) (x := x) (y := y) (z := z) (s := uI cs0 16 0 0) s16 (by decide) (by simp [qI_uI]) (by decide)
  generalize hs2 : putS (uI cs0 16 0 0) 16 0 x y z = s2 at e2
  obtain ⟨s3', e3, hT⟩ := c_build1 (N := N) (R := qR cs0) (F := 6) (c := 0) (s := s2) hp (by rw [← hs2]; rfl) (by rw [← hs2]; rfl) (by simp [← hs2, putS, qI_uI, qI_uA]; rfl) (by simp [← hs2, putS, qI_uI, qI_uA]) (by simp [← hs2, putS, qI_uI, qI_uA]; rfl) (by simp [← hs2, putS, qA_uI, qA_uA, upd_at]) (by simp [← hs2, putS, qA_uI, qA_uA, upd_at]) (by simp [← hs2, putS, qA_uI, qA_uA, upd_at]) (by simp [← hs2, putS, qA_uI, qA_uA, upd_at]; rfl) (by simp [← hs2, putS, qA_uI, qA_uA, upd_at]; rfl) (by simp [← hs2, putS, qA_uI, qA_uA, upd_at]; rfl)
  obtain ⟨r1, r2, r3, r4, r5, r6⟩ := hT
  have e4 := c_keep (N := N + 600) (k := 0) (j := j) (b := 51 + 14 * j) (b2 := 159) (s := s3') (by decide) hj r3 (by rw [r1, g1]) g2 (by rw [r1]; rfl) (by rw [r2]; rfl)
  refine ⟨keepS s3' 0 j (51 + 14 * j) 159, ?_⟩
  unfold fxX6_grow
  rw [slot_in hj, Option.bind_some]
  dsimp only
  rw [if_neg (by decide), pt_in hp, Option.bind_some]
  dsimp only
  rw [if_neg (by decide), gR_6_7 s0, Option.bind_some, gR_6_2 s0, Option.bind_some]
  simp only [Nat.zero_add]
  rw [aR_14 s3 bj, i_tn (by omega), g1, Option.bind_some, gR_0_1 g2, Option.bind_some, kO_3 s16', Option.bind_some, e1, Option.bind_some, gR_6_7 s0, Option.bind_some]
  simp only [Nat.zero_add]
  rw [kO_3 s16', Option.bind_some, e2, Option.bind_some, gR_6_7 s0, Option.bind_some, gR_6_8 s0, Option.bind_some, kO_6 s0, Option.bind_some]
  unfold fxX6_become
  have f6 : qF s2 = 6 := by
    rw [← hs2]
    rfl
  rw [gR_6_10 s0, Option.bind_some, gR_6_6 s0, Option.bind_some, f6]
  simp only [Nat.zero_add]
  rw [kO_2 s28, Option.bind_some, e3, Option.bind_some]
  dsimp only
  rw [if_neg (by decide), kO_6 s0, Option.bind_some, e4, Option.bind_some, Option.bind_some]
