/-- a plane of a body -/
def bR (s : cS) (b f : Nat) : Int32 × Int32 × Int32 × Int32 := (qA s (b + 5) (4 * f), qA s (b + 5) (4 * f + 1), qA s (b + 5) (4 * f + 2), qA s (b + 5) (4 * f + 3))
def bN (s : cS) (b f : Nat) : V3 := ((qA s (b + 5) (4 * f)).toInt, (qA s (b + 5) (4 * f + 1)).toInt, (qA s (b + 5) (4 * f + 2)).toInt)
def bD (s : cS) (b f : Nat) : Int := (qA s (b + 5) (4 * f + 3)).toInt
theorem bR_N {s s' : cS} {b f f' : Nat} (e : bR s' b f' = bR s b f) : bN s' b f' = bN s b f ∧ bD s' b f' = bD s b f := by
  have e4 : qA s' (b + 5) (4 * f') = qA s (b + 5) (4 * f) := congrArg (fun r : Int32 × Int32 × Int32 × Int32 => r.1) e
  have e5 : qA s' (b + 5) (4 * f' + 1) = qA s (b + 5) (4 * f + 1) := congrArg (fun r : Int32 × Int32 × Int32 × Int32 => r.2.1) e
  have e6 : qA s' (b + 5) (4 * f' + 2) = qA s (b + 5) (4 * f + 2) := congrArg (fun r : Int32 × Int32 × Int32 × Int32 => r.2.2.1) e
  have e7 : qA s' (b + 5) (4 * f' + 3) = qA s (b + 5) (4 * f + 3) := congrArg (fun r : Int32 × Int32 × Int32 × Int32 => r.2.2.2) e
  unfold bN bD
  rw [e4, e5, e6, e7]
  exact ⟨rfl, rfl⟩
theorem cmp32 {N : Nat} {x y : Int32} {h : mh} : ∃ r, fxJ6_compare_7cf53 N x y h = some (h, r) ∧ ((r = -1 ∧ x.toInt < y.toInt) ∨ (r = 0 ∧ x = y) ∨ (r = 1 ∧ y.toInt < x.toInt)) := by
  unfold fxJ6_compare_7cf53
  by_cases c : y ≤ x
  · rw [if_pos c]
    by_cases d : x = y
    · rw [if_pos d]
      exact ⟨0, rfl, .inr (.inl ⟨rfl, d⟩)⟩
    · rw [if_neg d]
      refine ⟨1, rfl, .inr (.inr ⟨rfl, ?_⟩)⟩
      rw [Int32.le_iff_toInt_le] at c
      have : x.toInt ≠ y.toInt := fun e => d (Int32.toInt_inj.mp e)
      omega
  · rw [if_neg c]
    rw [Int32.le_iff_toInt_le] at c
    exact ⟨-1, rfl, .inl ⟨rfl, by omega⟩⟩
/-- comparePlane: by x, then y, then z -/
theorem c_cmp {N b f : Nat} {x y z : Int32} {s : cS} (hb : isB b) (hf : f < 44) : ∃ r, fxX0_comparePlane N b (Int32.ofNat f) x y z (hC s) = some (hC s, r) ∧ ((r = -1 ∧ lxl (bN s b f) (x.toInt, y.toInt, z.toInt)) ∨ (r = 0 ∧ bN s b f = (x.toInt, y.toInt, z.toInt)) ∨ (r = 1 ∧ lxl (x.toInt, y.toInt, z.toInt) (bN s b f))) := by
  obtain ⟨h0, -, h5, -⟩ := isB_sh hb
  have ti : ∀ {u v : Int32}, u = v → u.toInt = v.toInt := fun e => by rw [e]
  unfold fxX0_comparePlane
  simp only [gR_0_3 h0, Option.bind_some, i_c4, i_s, i_a2, aI_N h5 (by omega : 4 * f < 176) (by decide), aI_N h5 (by omega : 4 * f + 1 < 176) (by decide), aI_N h5 (by omega : 4 * f + 2 < 176) (by decide)]
  by_cases c1 : qA s (b + 5) (4 * f) = x
  · rw [if_pos c1]
    by_cases c2 : qA s (b + 5) (4 * f + 1) = y
    · rw [if_pos c2]
      obtain ⟨r, q, k⟩ := cmp32 (N := N) (x := qA s (b + 5) (4 * f + 2)) (y := z) (h := hC s)
      refine ⟨r, by rw [q]; rfl, ?_⟩
      rcases k with ⟨k1, k2⟩ | ⟨k1, k2⟩ | ⟨k1, k2⟩
      · exact .inl ⟨k1, .inr ⟨ti c1, .inr ⟨ti c2, k2⟩⟩⟩
      · exact .inr (.inl ⟨k1, v3_ext (ti c1) (ti c2) (ti k2)⟩)
      · exact .inr (.inr ⟨k1, .inr ⟨(ti c1).symm, .inr ⟨(ti c2).symm, k2⟩⟩⟩)
    · rw [if_neg c2]
      obtain ⟨r, q, k⟩ := cmp32 (N := N) (x := qA s (b + 5) (4 * f + 1)) (y := y) (h := hC s)
      refine ⟨r, by rw [q]; rfl, ?_⟩
      rcases k with ⟨k1, k2⟩ | ⟨k1, k2⟩ | ⟨k1, k2⟩
      · exact .inl ⟨k1, .inr ⟨ti c1, .inl k2⟩⟩
      · exact absurd k2 c2
      · exact .inr (.inr ⟨k1, .inr ⟨(ti c1).symm, .inl k2⟩⟩)
  · rw [if_neg c1]
    obtain ⟨r, q, k⟩ := cmp32 (N := N) (x := qA s (b + 5) (4 * f)) (y := x) (h := hC s)
    refine ⟨r, by rw [q]; rfl, ?_⟩
    rcases k with ⟨k1, k2⟩ | ⟨k1, k2⟩ | ⟨k1, k2⟩
    · exact .inl ⟨k1, .inl k2⟩
    · exact absurd k2 c1
    · exact .inr (.inr ⟨k1, .inl k2⟩)
theorem i_sub {a b : Nat} (h : b ≤ a) : Int32.ofNat a - Int32.ofNat b = Int32.ofNat (a - b) := by
  have e : Int32.ofNat a = Int32.ofNat (a - b) + Int32.ofNat b := by
    rw [i_ad]
    exact congrArg Int32.ofNat (by omega)
  rw [e]
  exact Int32.add_sub_cancel _ _
/-- a plane was put in at x -/
def bpI (s s' : cS) (b F x : Nat) (r : Int32 × Int32 × Int32 × Int32) : Prop := cf (fun i => i = b ∨ i = b + 5) s s' ∧ (∀ k, k ≠ 2 → qI s' b k = qI s b k) ∧ qI s' b 2 = Int32.ofNat (F + 1) ∧ (∀ f, f < x → bR s' b f = bR s b f) ∧ bR s' b x = r ∧ (∀ f, x < f → f ≤ F → bR s' b f = bR s b (f - 1))
theorem c_pl109 {N b F x : Nat} {p1 p2 p3 p4 G : Int32} {s : cS} (hb : isB b) (hF : F < 44) (hx : x ≤ F) (h2 : qI s b 2 = Int32.ofNat F) (hG : G ≠ 0) : ∃ s', fxX0_addPlane_109 N b p1 p2 p3 p4 G (Int32.ofNat x) (hC s) = some (hC s') ∧ bpI s s' b F x (p1 / G, p2 / G, p3 / G, p4 / G) := by
  obtain ⟨h0, -, h5, -⟩ := isB_sh hb
  have e4 : (4 : Int32) = Int32.ofNat 4 := rfl
  have cp : cpI (hC s) (b + 5) (Int32.ofNat (4 * x)) (b + 5) (Int32.ofNat (4 * x + 4)) (Int32.ofNat (4 * (F - x))) = some (hC (uA s (b + 5) (va_cpy (qA s (b + 5)) (qA s (b + 5)) (4 * x) (4 * x + 4) (4 * (F - x))))) := cpI_N h5 h5 (by omega) (by omega) (by decide) (by decide)
  refine ⟨uI (uA s (b + 5) (upd (upd (upd (upd (va_cpy (qA s (b + 5)) (qA s (b + 5)) (4 * x) (4 * x + 4) (4 * (F - x))) (4 * x) (p1 / G)) (4 * x + 1) (p2 / G)) (4 * x + 2) (p3 / G)) (4 * x + 3) (p4 / G))) b 2 (Int32.ofNat (F + 1)), ?_, ?_⟩
  · unfold fxX0_addPlane_109
    simp only [gR_0_3 h0, gI_0_2 h0, Option.bind_some, h2, i_sub hx, i_c4, i_a4, cp, if_neg hG, i_s, i_a2, i_a3, wI_N h5 (by omega : 4 * x < 176) (by decide), wI_N h5 (by omega : 4 * x + 1 < 176) (by decide), wI_N h5 (by omega : 4 * x + 2 < 176) (by decide), wI_N h5 (by omega : 4 * x + 3 < 176) (by decide), qA_uA, uA_uA, if_true, qI_uA, sI_0_2 h0]
  · have eA : qA (uI (uA s (b + 5) (upd (upd (upd (upd (va_cpy (qA s (b + 5)) (qA s (b + 5)) (4 * x) (4 * x + 4) (4 * (F - x))) (4 * x) (p1 / G)) (4 * x + 1) (p2 / G)) (4 * x + 2) (p3 / G)) (4 * x + 3) (p4 / G))) b 2 (Int32.ofNat (F + 1))) (b + 5) = upd (upd (upd (upd (va_cpy (qA s (b + 5)) (qA s (b + 5)) (4 * x) (4 * x + 4) (4 * (F - x))) (4 * x) (p1 / G)) (4 * x + 1) (p2 / G)) (4 * x + 2) (p3 / G)) (4 * x + 3) (p4 / G) := by
      rw [qA_uI, qA_uA, if_pos rfl]
    refine ⟨(cf_uA _ (.inr rfl)).tr (cf_uI _ (.inl rfl)), fun k hk => ?_, ?_, fun f hf => ?_, ?_, fun f h1 h2 => ?_⟩
    · rw [qI_uI, if_neg (by omega)]
      rfl
    · rw [qI_uI, if_pos ⟨rfl, rfl⟩]
    · unfold bR
      rw [eA, u4_ne (by omega), u4_ne (by omega), u4_ne (by omega), u4_ne (by omega), cpy_out (by omega), cpy_out (by omega), cpy_out (by omega), cpy_out (by omega)]
    · unfold bR
      rw [eA, u4_0, u4_1, u4_2, u4_3]
    · unfold bR
      rw [eA, u4_ne (by omega), u4_ne (by omega), u4_ne (by omega), u4_ne (by omega), cpy_in (by omega), cpy_in (by omega), cpy_in (by omega), cpy_in (by omega), show 4 * x + (4 * f - (4 * x + 4)) = 4 * (f - 1) by omega, show 4 * x + (4 * f + 1 - (4 * x + 4)) = 4 * (f - 1) + 1 by omega, show 4 * x + (4 * f + 2 - (4 * x + 4)) = 4 * (f - 1) + 2 by omega, show 4 * x + (4 * f + 3 - (4 * x + 4)) = 4 * (f - 1) + 3 by omega]
