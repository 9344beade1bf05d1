/-- calls of constructors (0: by a link, 1: between nest mates), and of Points.put (2) -/
def gd (M : mM) : Prop := mOK M ∧ mOd M
def ccP (o : Nat) (q : Nat × Nat × mM) : Prop := gd q.2.2 ∧ ((q.2.1 = 0 → mLI o q.1 q.2.2) ∧ (q.2.1 = 1 → mNI o q.1 q.2.2) ∧ (q.2.1 = 2 → mLV o q.1 q.2.2))
def ccL_0 : List (Nat × Nat × mM) := [(17, 0, mX3_init), (45, 1, mX4_init)]
theorem ccK_0 : ∀ q ∈ ccL_0, ccP 0 q := List.forall_mem_cons.mpr ⟨⟨⟨okX3_init, odX3_init⟩, fun _ => lk_0_17, fun h => absurd h (by decide), fun h => absurd h (by decide)⟩, List.forall_mem_cons.mpr ⟨⟨⟨okX4_init, odX4_init⟩, fun h => absurd h (by decide), fun _ => lk_0_45, fun h => absurd h (by decide)⟩, fun _ h => absurd h List.not_mem_nil⟩⟩
def ccL_2 : List (Nat × Nat × mM) := [(11, 1, mX5_init)]
theorem ccK_2 : ∀ q ∈ ccL_2, ccP 2 q := List.forall_mem_cons.mpr ⟨⟨⟨okX5_init, odX5_init⟩, fun h => absurd h (by decide), fun _ => lk_2_11, fun h => absurd h (by decide)⟩, fun _ h => absurd h List.not_mem_nil⟩
def ccL_5 : List (Nat × Nat × mM) := [(13, 0, mX3_init)]
theorem ccK_5 : ∀ q ∈ ccL_5, ccP 5 q := List.forall_mem_cons.mpr ⟨⟨⟨okX3_init, odX3_init⟩, fun _ => lk_5_13, fun h => absurd h (by decide), fun h => absurd h (by decide)⟩, fun _ h => absurd h List.not_mem_nil⟩
def ccL_6 : List (Nat × Nat × mM) := [(36, 1, mX0_init), (41, 0, mX3_init), (56, 1, mX2_init), (63, 1, mX1_init), (70, 1, mX4_init), (75, 2, mX3_put)]
theorem ccK_6 : ∀ q ∈ ccL_6, ccP 6 q := List.forall_mem_cons.mpr ⟨⟨⟨okX0_init, odX0_init⟩, fun h => absurd h (by decide), fun _ => lk_6_36, fun h => absurd h (by decide)⟩, List.forall_mem_cons.mpr ⟨⟨⟨okX3_init, odX3_init⟩, fun _ => lk_6_41, fun h => absurd h (by decide), fun h => absurd h (by decide)⟩, List.forall_mem_cons.mpr ⟨⟨⟨okX2_init, odX2_init⟩, fun h => absurd h (by decide), fun _ => lk_6_56, fun h => absurd h (by decide)⟩, List.forall_mem_cons.mpr ⟨⟨⟨okX1_init, odX1_init⟩, fun h => absurd h (by decide), fun _ => lk_6_63, fun h => absurd h (by decide)⟩, List.forall_mem_cons.mpr ⟨⟨⟨okX4_init, odX4_init⟩, fun h => absurd h (by decide), fun _ => lk_6_70, fun h => absurd h (by decide)⟩, List.forall_mem_cons.mpr ⟨⟨⟨okX3_put, odX3_put⟩, fun h => absurd h (by decide), fun h => absurd h (by decide), fun _ => lk_6_75⟩, fun _ h => absurd h List.not_mem_nil⟩⟩⟩⟩⟩⟩
def ccT (o i : Nat) : Option (Nat × mM) := match o with
  | 0 => asc ccL_0 i
  | 2 => asc ccL_2 i
  | 5 => asc ccL_5 i
  | 6 => asc ccL_6 i
  | _ => none
theorem ccT_ok {o i : Nat} {v : Nat × mM} (h : ccT o i = some v) : ccP o (i, v) := by
  unfold ccT at h
  split at h
  · exact ccK_0 _ (asc_mem h)
  · exact ccK_2 _ (asc_mem h)
  · exact ccK_5 _ (asc_mem h)
  · exact ccK_6 _ (asc_mem h)
  · cases h
def mcl (ex : mM → List Value → mh → Option (mh × Option Value)) (M : mM) (f : mF) : Option mF := match asc (mTb M) f.1 with
  | some (.invokespecial i, 3) => (match ccT (mOw M) i with
    | some (kd, M2) => (match f.2.2.1.drop (mAr M2) with
      | .ref a :: rest => if kd ≤ 1 ∧ (f.2.2.1.take (mAr M2)).length = mAr M2 ∧ mRo M M2 f.2.2.2.2.1 f.2.2.2.2.2 rest = true then (match ex M2 (.ref a :: (f.2.2.1.take (mAr M2)).reverse) f.2.2.2.1 with
        | some o => some (f.1 + 3, f.2.1, o.2.toList ++ rest, o.1, f.2.2.2.2.1 + mCe M2, f.2.2.2.2.2 + mSl M2)
        | none => none) else none
      | _ => none)
    | none => none)
  | some (.invokevirtual i, 3) => (match ccT (mOw M) i with
    | some (kd, M2) => (match f.2.2.1.drop (mAr M2) with
      | .ref a :: rest => (match f.2.2.2.1[a]? with
        | some (.inr (ci, _)) => if kd = 2 ∧ ci = mOw M2 ∧ (f.2.2.1.take (mAr M2)).length = mAr M2 ∧ mRo M M2 f.2.2.2.2.1 f.2.2.2.2.2 rest = true then (match ex M2 (.ref a :: (f.2.2.1.take (mAr M2)).reverse) f.2.2.2.1 with
          | some o => some (f.1 + 3, f.2.1, o.2.toList ++ rest, o.1, f.2.2.2.2.1 + mCe M2, f.2.2.2.2.2 + mSl M2)
          | none => none) else none
        | _ => none)
      | _ => none)
    | none => none)
  | _ => none
def mlp (ex : mM → List Value → mh → Option (mh × Option Value)) (M : mM) : Nat → mF → Option (mh × Option Value)
  | 0, _ => none
  | n + 1, f => match mret M f with
    | some o => some o
    | none => match mst M f with
      | some g => mlp ex M n g
      | none => match mcl ex M f with
        | some g => mlp ex M n g
        | none => none
def mex : Nat → mM → List Value → mh → Option (mh × Option Value)
  | 0, _, _, _ => none
  | d + 1, M, a, h => if (lg_sl a).length ≤ mLx M then mlp (mex d) M 100000 (0, lv_args 0 a, [], h, 0, 0) else none
theorem mcl_ok {Γ : mG} {ex : mM → List Value → mh → Option (mh × Option Value)} {M : mM} (hex : ∀ M2, gd M2 → ∀ a h o, ex M2 a h = some o → mC M2 a h o) (hod : mOd M) {f g : mF} (hq : mcl ex M f = some g) (hk : mB Γ M g) : mB Γ M f := by
  obtain ⟨pc, lv, st, h, k, n⟩ := f
  unfold mcl at hq
  split at hq
  · rename_i i hd
    split at hq
    · rename_i kd M2 hcc
      split at hq
      · rename_i a rest hdr
        split at hq
        · rename_i hc
          split at hq
          · rename_i o ho
            cases hq
            obtain ⟨hg, h0, h1, -⟩ := ccT_ok hcc
            dsimp only at *
            have hst : st = ((st.take (mAr M2)).reverse).reverse ++ .ref a :: rest := by rw [List.reverse_reverse, ← hdr, List.take_append_drop]
            have hlen : (st.take (mAr M2)).reverse.length = mAr M2 := by rw [List.length_reverse]; exact hc.2.1
            rcases (show kd = 0 ∨ kd = 1 by omega) with e | e
            · exact mB_I hod hg.1 (h0 e) hd (hex M2 hg _ _ _ ho) hlen hc.2.2 hst hk
            · exact mB_NI hod hg.1 (h1 e) hd (hex M2 hg _ _ _ ho) hlen hc.2.2 hst hk
          · cases hq
        · cases hq
      · cases hq
    · cases hq
  · rename_i i hd
    split at hq
    · rename_i kd M2 hcc
      split at hq
      · rename_i a rest hdr
        split at hq
        · rename_i ci fs ha
          split at hq
          · rename_i hc
            split at hq
            · rename_i o ho
              cases hq
              obtain ⟨hg, -, -, h2⟩ := ccT_ok hcc
              dsimp only at *
              have hst : st = ((st.take (mAr M2)).reverse).reverse ++ .ref a :: rest := by rw [List.reverse_reverse, ← hdr, List.take_append_drop]
              have hlen : (st.take (mAr M2)).reverse.length = mAr M2 := by rw [List.length_reverse]; exact hc.2.2.1
              obtain ⟨e2, e3, -, hro⟩ := hc
              subst e3
              exact mB_V hod hg.1 (h2 e2) hd (hex M2 hg _ _ _ ho) ha hlen hro hst hk
            · cases hq
          · cases hq
        · cases hq
      · cases hq
    · cases hq
  · cases hq
theorem mlp_ok {ex : mM → List Value → mh → Option (mh × Option Value)} {M : mM} (hex : ∀ M2, gd M2 → ∀ a h o, ex M2 a h = some o → mC M2 a h o) (hod : mOd M) : ∀ (n : Nat) {f : mF} {o : mh × Option Value}, mlp ex M n f = some o → mB (gO M o) M f
  | 0, f, o, hq => by cases hq
  | n + 1, f, o, hq => by
    unfold mlp at hq
    split at hq
    · rename_i o' ho
      cases hq
      obtain ⟨pc, lv, st, h, k, n⟩ := f
      exact mB_ret hod ho
    · split at hq
      · rename_i g hg
        exact mB_st hod hg (mlp_ok hex hod n hq)
      · split at hq
        · rename_i g hg
          exact mcl_ok hex hod hg (mlp_ok hex hod n hq)
        · cases hq
theorem mex_ok : ∀ (d : Nat) (M : mM), gd M → ∀ a h o, mex d M a h = some o → mC M a h o
  | 0, M, _, a, h, o, hq => by cases hq
  | d + 1, M, hg, a, h, o, hq => by
    unfold mex at hq
    split at hq
    · rename_i hl
      exact mC_of hg.1 hl (mlp_ok (mex_ok d) hg.2 100000 hq)
    · cases hq
/-- two lists of cells that a heap can't tell apart -/
def ceq (x y : va_E) : Bool := match x, y with
  | .inr (c, fs), .inr (c', fs') => c == c' && fs == fs'
  | .inl (t, n, .inl f), .inl (t', n', .inl f') => t == t' && (n == n' && (List.range n).all fun j => f j == f' j)
  | .inl (t, n, .inr (.inl f)), .inl (t', n', .inr (.inl f')) => t == t' && (n == n' && (List.range n).all fun j => f j == f' j)
  | .inl (t, n, .inr (.inr (.inr (.inr f)))), .inl (t', n', .inr (.inr (.inr (.inr f')))) => t == t' && (n == n' && (List.range n).all fun j => f j == f' j)
  | _, _ => false
def heq : mh → mh → Bool
  | [], [] => true
  | x :: h, y :: h' => ceq x y && heq h h'
  | _, _ => false
theorem arrV_ext {cA n : Nat} {f g : Nat → Value} (h : ∀ j, j < n → f j = g j) : arrV cA n f = arrV cA n g := by
  unfold arrV
  congr 2
  funext j
  exact h j.1 j.2
theorem ceq_ok {B b : Nat} {D : va_G} {dA : Nat → ClassId} {x y : va_E} (h : ceq x y = true) {a : Nat} {H : Heap} (hx : va_at D vwCl (a, mcv B b dA x) H) : va_at D vwCl (a, mcv B b dA y) H := by
  unfold ceq at h
  split at h
  · rename_i c fs c' fs'
    simp only [Bool.and_eq_true, beq_iff_eq] at h
    obtain ⟨rfl, rfl⟩ := h
    exact hx
  · rename_i t n f t' n' f'
    simp only [Bool.and_eq_true, beq_iff_eq, List.all_eq_true, List.mem_range] at h
    obtain ⟨rfl, rfl, h3⟩ := h
    have hx : H[a]? = some (vp_cell (dA t) (n, .inl f)) := hx
    show H[a]? = some (vp_cell (dA t) (n, .inl f'))
    rw [hx, vp_cell_i, vp_cell_i, arrV_ext (fun j hj => by rw [h3 j hj])]
  · rename_i t n f t' n' f'
    simp only [Bool.and_eq_true, beq_iff_eq, List.all_eq_true, List.mem_range] at h
    obtain ⟨rfl, rfl, h3⟩ := h
    have hx : H[a]? = some (vp_cell (dA t) (n, .inr (.inl f))) := hx
    show H[a]? = some (vp_cell (dA t) (n, .inr (.inl f')))
    rw [hx, vp_cell_l, vp_cell_l, arrV_ext (fun j hj => by rw [h3 j hj])]
  · rename_i t n f t' n' f'
    simp only [Bool.and_eq_true, beq_iff_eq, List.all_eq_true, List.mem_range] at h
    obtain ⟨rfl, rfl, h3⟩ := h
    have hx : H[a]? = some (vp_cell (dA t) (n, .inr (.inr (.inr (.inr (mrf B f)))))) := hx
    show H[a]? = some (vp_cell (dA t) (n, .inr (.inr (.inr (.inr (mrf B f'))))))
    rw [hx, vp_cell_q, vp_cell_q, arrV_ext (fun j hj => by unfold mrf; rw [h3 j hj])]
    rfl
  · cases h
theorem heq_len : ∀ {h h' : mh}, heq h h' = true → h.length = h'.length
  | [], [], _ => rfl
  | x :: h, y :: h', e => by
    unfold heq at e
    rw [Bool.and_eq_true] at e
    rw [List.length_cons, List.length_cons, heq_len e.2]
  | [], _ :: _, e => by cases e
  | _ :: _, [], e => by cases e
theorem heq_at : ∀ {h h' : mh}, heq h h' = true → ∀ {i : Nat} {y : va_E}, h'[i]? = some y → ∃ x, h[i]? = some x ∧ ceq x y = true
  | [], [], _, i, y, hy => by simp at hy
  | x :: h, z :: h', e, i, y, hy => by
    unfold heq at e
    rw [Bool.and_eq_true] at e
    cases i with
    | zero =>
      simp only [List.getElem?_cons_zero, Option.some.injEq] at hy ⊢
      subst hy
      exact ⟨x, rfl, e.1⟩
    | succ i =>
      simp only [List.getElem?_cons_succ] at hy ⊢
      exact heq_at e.2 hy
  | [], _ :: _, e, _, _, _ => by cases e
  | _ :: _, [], e, _, _, _ => by cases e
theorem mR_ext {B b : Nat} {D : va_G} {dA : Nat → ClassId} {h h' : mh} {H : Heap} (e : heq h h' = true) (hR : mR B b D dA h H) : mR B b D dA h' H := by
  refine ⟨by rw [hR.1, heq_len e], fun i q hq => ?_⟩
  unfold mW at hq
  rw [List.getElem?_mapIdx] at hq
  cases hy : h'[i]? with
  | none => rw [hy] at hq; cases hq
  | some y =>
    rw [hy] at hq
    cases hq
    obtain ⟨x, hx, hc⟩ := heq_at e hy
    exact ceq_ok hc (hR.2 i _ (mW_at hx))
theorem mB_ext {M : mM} {f : mF} {h h' : mh} {v : Option Value} (e : heq h h' = true) (hk : mB (gO M (h, v)) M f) : mB (gO M (h', v)) M f := by
  intro p l ev R s m args below meth c B b D dA Q hG E H locs ls hR hS hl T hT X
  obtain ⟨rfl, hr, hlk⟩ := hG
  obtain ⟨t, a1, oc, b1, b2, ⟨q1, q2, q3⟩, b4⟩ := hk p l ev R s m args below meth c B b D dA _ ⟨rfl, hr, hlk⟩ E H locs ls hR hS hl T hT X
  exact ⟨t, a1, oc, b1, b2, ⟨q1, mR_ext e q2, q3⟩, b4⟩
/-- a closed run, compared with the cells as written down -/
def mexq (d : Nat) (M : mM) (a : List Value) (h h' : mh) : Bool := match mex d M a h with
  | some (h2, none) => heq h2 h'
  | _ => false
theorem mexq_ok {d : Nat} {M : mM} (hg : gd M) {a : List Value} {h h' : mh} (e : mexq d M a h h' = true) : mC M a h (h', none) := by
  unfold mexq at e
  split at e
  · rename_i h2 he
    cases d with
    | zero => cases he
    | succ d =>
      unfold mex at he
      split at he
      · rename_i hl
        exact mC_of hg.1 hl (mB_ext e (mlp_ok (mex_ok d) hg.2 100000 he))
      · cases he
  · cases e
def lR (l : List Nat) : Nat → Option Nat := fun j => l[j]?
def hpC_0 : mh := [.inr (6, [.ref 1, .ref 2, .ref 3, .ref 4, .ref 5, .int 0, .ref 6, .ref 16, .ref 20, .ref 24, .ref 28, .ref 41, .ref 46]),
  .inl (3, 8, .inr (.inr (.inr (.inr (lR [47, 61, 75, 89, 103, 117, 131, 145]))))),
  .inl (2, 8, .inl (fun _ => 0)),
  .inl (4, 8, .inr (.inr (.inr (.inr (lR [51, 65, 79, 93, 107, 121, 135, 149]))))),
  .inl (4, 8, .inr (.inr (.inr (.inr (lR [159, 169, 179, 189, 199, 209, 219, 229]))))),
  .inl (0, 8, .inl (fun _ => 0)),
  .inr (0, [.int 0, .ref 7, .int 0, .ref 11, .ref 12, .ref 13, .int 0, .ref 14, .ref 15]),
  .inr (3, [.int 0, .ref 8, .ref 9, .ref 10]),
  .inl (0, 24, .inl (fun _ => 0)),
  .inl (0, 24, .inl (fun _ => 0)),
  .inl (0, 24, .inl (fun _ => 0)),
  .inl (0, 176, .inl (fun _ => 0)),
  .inl (0, 45, .inl (fun _ => 0)),
  .inl (0, 132, .inl (fun _ => 0)),
  .inl (0, 264, .inl (fun _ => 0)),
  .inr (4, [.long 0, .long 0]),
  .inr (3, [.int 0, .ref 17, .ref 18, .ref 19]),
  .inl (0, 25, .inl (fun _ => 0)),
  .inl (0, 25, .inl (fun _ => 0)),
  .inl (0, 25, .inl (fun _ => 0)),
  .inr (3, [.int 1, .ref 21, .ref 22, .ref 23]),
  .inl (0, 1, .inl (fun _ => 0)),
  .inl (0, 1, .inl (fun _ => 0)),
  .inl (0, 1, .inl (fun _ => 0)),
  .inr (3, [.int 0, .ref 25, .ref 26, .ref 27]),
  .inl (0, 1, .inl (fun _ => 0)),
  .inl (0, 1, .inl (fun _ => 0)),
  .inl (0, 1, .inl (fun _ => 0)),
  .inr (2, [.ref 29, .ref 40, .int 0, .int 0, .int 0, .int 0, .int 0]),
  .inr (5, [.ref 30, .int 0, .ref 34, .ref 35, .ref 36, .int 0, .ref 37, .ref 38, .ref 39]),
  .inr (3, [.int 0, .ref 31, .ref 32, .ref 33]),
  .inl (0, 25, .inl (fun _ => 0)),
  .inl (0, 25, .inl (fun _ => 0)),
  .inl (0, 25, .inl (fun _ => 0)),
  .inl (0, 138, .inl (fun _ => 0)),
  .inl (0, 184, .inl (fun _ => 0)),
  .inl (2, 46, .inl (fun _ => 0)),
  .inl (0, 138, .inl (fun _ => 0)),
  .inl (0, 138, .inl (fun _ => 0)),
  .inl (2, 625, .inl (fun _ => 0))]
def hpC_1 : mh := [.inl (0, 576, .inl (fun _ => 0)),
  .inr (1, [.long 0, .long 1, .int 0, .ref 42, .ref 43, .ref 44, .ref 45, .long 0, .long 0, .long 0]),
  .inl (0, 4, .inl (fun _ => 0)),
  .inl (0, 4, .inl (fun _ => 0)),
  .inl (0, 4, .inl (fun _ => 0)),
  .inl (0, 4, .inl (fun _ => 0)),
  .inr (4, [.long 0, .long 0]),
  .inr (3, [.int 0, .ref 48, .ref 49, .ref 50]),
  .inl (0, 24, .inl (fun _ => 0)),
  .inl (0, 24, .inl (fun _ => 0)),
  .inl (0, 24, .inl (fun _ => 0)),
  .inr (0, [.int 0, .ref 52, .int 0, .ref 56, .ref 57, .ref 58, .int 0, .ref 59, .ref 60]),
  .inr (3, [.int 0, .ref 53, .ref 54, .ref 55]),
  .inl (0, 24, .inl (fun _ => 0)),
  .inl (0, 24, .inl (fun _ => 0)),
  .inl (0, 24, .inl (fun _ => 0)),
  .inl (0, 176, .inl (fun _ => 0)),
  .inl (0, 45, .inl (fun _ => 0)),
  .inl (0, 132, .inl (fun _ => 0)),
  .inl (0, 264, .inl (fun _ => 0)),
  .inr (4, [.long 0, .long 0]),
  .inr (3, [.int 0, .ref 62, .ref 63, .ref 64]),
  .inl (0, 24, .inl (fun _ => 0)),
  .inl (0, 24, .inl (fun _ => 0)),
  .inl (0, 24, .inl (fun _ => 0)),
  .inr (0, [.int 0, .ref 66, .int 0, .ref 70, .ref 71, .ref 72, .int 0, .ref 73, .ref 74]),
  .inr (3, [.int 0, .ref 67, .ref 68, .ref 69]),
  .inl (0, 24, .inl (fun _ => 0)),
  .inl (0, 24, .inl (fun _ => 0)),
  .inl (0, 24, .inl (fun _ => 0)),
  .inl (0, 176, .inl (fun _ => 0)),
  .inl (0, 45, .inl (fun _ => 0)),
  .inl (0, 132, .inl (fun _ => 0)),
  .inl (0, 264, .inl (fun _ => 0)),
  .inr (4, [.long 0, .long 0]),
  .inr (3, [.int 0, .ref 76, .ref 77, .ref 78]),
  .inl (0, 24, .inl (fun _ => 0)),
  .inl (0, 24, .inl (fun _ => 0)),
  .inl (0, 24, .inl (fun _ => 0)),
  .inr (0, [.int 0, .ref 80, .int 0, .ref 84, .ref 85, .ref 86, .int 0, .ref 87, .ref 88])]
def hpC_2 : mh := [.inr (3, [.int 0, .ref 81, .ref 82, .ref 83]),
  .inl (0, 24, .inl (fun _ => 0)),
  .inl (0, 24, .inl (fun _ => 0)),
  .inl (0, 24, .inl (fun _ => 0)),
  .inl (0, 176, .inl (fun _ => 0)),
  .inl (0, 45, .inl (fun _ => 0)),
  .inl (0, 132, .inl (fun _ => 0)),
  .inl (0, 264, .inl (fun _ => 0)),
  .inr (4, [.long 0, .long 0]),
  .inr (3, [.int 0, .ref 90, .ref 91, .ref 92]),
  .inl (0, 24, .inl (fun _ => 0)),
  .inl (0, 24, .inl (fun _ => 0)),
  .inl (0, 24, .inl (fun _ => 0)),
  .inr (0, [.int 0, .ref 94, .int 0, .ref 98, .ref 99, .ref 100, .int 0, .ref 101, .ref 102]),
  .inr (3, [.int 0, .ref 95, .ref 96, .ref 97]),
  .inl (0, 24, .inl (fun _ => 0)),
  .inl (0, 24, .inl (fun _ => 0)),
  .inl (0, 24, .inl (fun _ => 0)),
  .inl (0, 176, .inl (fun _ => 0)),
  .inl (0, 45, .inl (fun _ => 0)),
  .inl (0, 132, .inl (fun _ => 0)),
  .inl (0, 264, .inl (fun _ => 0)),
  .inr (4, [.long 0, .long 0]),
  .inr (3, [.int 0, .ref 104, .ref 105, .ref 106]),
  .inl (0, 24, .inl (fun _ => 0)),
  .inl (0, 24, .inl (fun _ => 0)),
  .inl (0, 24, .inl (fun _ => 0)),
  .inr (0, [.int 0, .ref 108, .int 0, .ref 112, .ref 113, .ref 114, .int 0, .ref 115, .ref 116]),
  .inr (3, [.int 0, .ref 109, .ref 110, .ref 111]),
  .inl (0, 24, .inl (fun _ => 0)),
  .inl (0, 24, .inl (fun _ => 0)),
  .inl (0, 24, .inl (fun _ => 0)),
  .inl (0, 176, .inl (fun _ => 0)),
  .inl (0, 45, .inl (fun _ => 0)),
  .inl (0, 132, .inl (fun _ => 0)),
  .inl (0, 264, .inl (fun _ => 0)),
  .inr (4, [.long 0, .long 0]),
  .inr (3, [.int 0, .ref 118, .ref 119, .ref 120]),
  .inl (0, 24, .inl (fun _ => 0)),
  .inl (0, 24, .inl (fun _ => 0))]
def hpC_3 : mh := [.inl (0, 24, .inl (fun _ => 0)),
  .inr (0, [.int 0, .ref 122, .int 0, .ref 126, .ref 127, .ref 128, .int 0, .ref 129, .ref 130]),
  .inr (3, [.int 0, .ref 123, .ref 124, .ref 125]),
  .inl (0, 24, .inl (fun _ => 0)),
  .inl (0, 24, .inl (fun _ => 0)),
  .inl (0, 24, .inl (fun _ => 0)),
  .inl (0, 176, .inl (fun _ => 0)),
  .inl (0, 45, .inl (fun _ => 0)),
  .inl (0, 132, .inl (fun _ => 0)),
  .inl (0, 264, .inl (fun _ => 0)),
  .inr (4, [.long 0, .long 0]),
  .inr (3, [.int 0, .ref 132, .ref 133, .ref 134]),
  .inl (0, 24, .inl (fun _ => 0)),
  .inl (0, 24, .inl (fun _ => 0)),
  .inl (0, 24, .inl (fun _ => 0)),
  .inr (0, [.int 0, .ref 136, .int 0, .ref 140, .ref 141, .ref 142, .int 0, .ref 143, .ref 144]),
  .inr (3, [.int 0, .ref 137, .ref 138, .ref 139]),
  .inl (0, 24, .inl (fun _ => 0)),
  .inl (0, 24, .inl (fun _ => 0)),
  .inl (0, 24, .inl (fun _ => 0)),
  .inl (0, 176, .inl (fun _ => 0)),
  .inl (0, 45, .inl (fun _ => 0)),
  .inl (0, 132, .inl (fun _ => 0)),
  .inl (0, 264, .inl (fun _ => 0)),
  .inr (4, [.long 0, .long 0]),
  .inr (3, [.int 0, .ref 146, .ref 147, .ref 148]),
  .inl (0, 24, .inl (fun _ => 0)),
  .inl (0, 24, .inl (fun _ => 0)),
  .inl (0, 24, .inl (fun _ => 0)),
  .inr (0, [.int 0, .ref 150, .int 0, .ref 154, .ref 155, .ref 156, .int 0, .ref 157, .ref 158]),
  .inr (3, [.int 0, .ref 151, .ref 152, .ref 153]),
  .inl (0, 24, .inl (fun _ => 0)),
  .inl (0, 24, .inl (fun _ => 0)),
  .inl (0, 24, .inl (fun _ => 0)),
  .inl (0, 176, .inl (fun _ => 0)),
  .inl (0, 45, .inl (fun _ => 0)),
  .inl (0, 132, .inl (fun _ => 0)),
  .inl (0, 264, .inl (fun _ => 0)),
  .inr (4, [.long 0, .long 0]),
  .inr (0, [.int 0, .ref 160, .int 0, .ref 164, .ref 165, .ref 166, .int 0, .ref 167, .ref 168])]
def hpC_4 : mh := [.inr (3, [.int 0, .ref 161, .ref 162, .ref 163]),
  .inl (0, 24, .inl (fun _ => 0)),
  .inl (0, 24, .inl (fun _ => 0)),
  .inl (0, 24, .inl (fun _ => 0)),
  .inl (0, 176, .inl (fun _ => 0)),
  .inl (0, 45, .inl (fun _ => 0)),
  .inl (0, 132, .inl (fun _ => 0)),
  .inl (0, 264, .inl (fun _ => 0)),
  .inr (4, [.long 0, .long 0]),
  .inr (0, [.int 0, .ref 170, .int 0, .ref 174, .ref 175, .ref 176, .int 0, .ref 177, .ref 178]),
  .inr (3, [.int 0, .ref 171, .ref 172, .ref 173]),
  .inl (0, 24, .inl (fun _ => 0)),
  .inl (0, 24, .inl (fun _ => 0)),
  .inl (0, 24, .inl (fun _ => 0)),
  .inl (0, 176, .inl (fun _ => 0)),
  .inl (0, 45, .inl (fun _ => 0)),
  .inl (0, 132, .inl (fun _ => 0)),
  .inl (0, 264, .inl (fun _ => 0)),
  .inr (4, [.long 0, .long 0]),
  .inr (0, [.int 0, .ref 180, .int 0, .ref 184, .ref 185, .ref 186, .int 0, .ref 187, .ref 188]),
  .inr (3, [.int 0, .ref 181, .ref 182, .ref 183]),
  .inl (0, 24, .inl (fun _ => 0)),
  .inl (0, 24, .inl (fun _ => 0)),
  .inl (0, 24, .inl (fun _ => 0)),
  .inl (0, 176, .inl (fun _ => 0)),
  .inl (0, 45, .inl (fun _ => 0)),
  .inl (0, 132, .inl (fun _ => 0)),
  .inl (0, 264, .inl (fun _ => 0)),
  .inr (4, [.long 0, .long 0]),
  .inr (0, [.int 0, .ref 190, .int 0, .ref 194, .ref 195, .ref 196, .int 0, .ref 197, .ref 198]),
  .inr (3, [.int 0, .ref 191, .ref 192, .ref 193]),
  .inl (0, 24, .inl (fun _ => 0)),
  .inl (0, 24, .inl (fun _ => 0)),
  .inl (0, 24, .inl (fun _ => 0)),
  .inl (0, 176, .inl (fun _ => 0)),
  .inl (0, 45, .inl (fun _ => 0)),
  .inl (0, 132, .inl (fun _ => 0)),
  .inl (0, 264, .inl (fun _ => 0)),
  .inr (4, [.long 0, .long 0]),
  .inr (0, [.int 0, .ref 200, .int 0, .ref 204, .ref 205, .ref 206, .int 0, .ref 207, .ref 208])]
def hpC_5 : mh := [.inr (3, [.int 0, .ref 201, .ref 202, .ref 203]),
  .inl (0, 24, .inl (fun _ => 0)),
  .inl (0, 24, .inl (fun _ => 0)),
  .inl (0, 24, .inl (fun _ => 0)),
  .inl (0, 176, .inl (fun _ => 0)),
  .inl (0, 45, .inl (fun _ => 0)),
  .inl (0, 132, .inl (fun _ => 0)),
  .inl (0, 264, .inl (fun _ => 0)),
  .inr (4, [.long 0, .long 0]),
  .inr (0, [.int 0, .ref 210, .int 0, .ref 214, .ref 215, .ref 216, .int 0, .ref 217, .ref 218]),
  .inr (3, [.int 0, .ref 211, .ref 212, .ref 213]),
  .inl (0, 24, .inl (fun _ => 0)),
  .inl (0, 24, .inl (fun _ => 0)),
  .inl (0, 24, .inl (fun _ => 0)),
  .inl (0, 176, .inl (fun _ => 0)),
  .inl (0, 45, .inl (fun _ => 0)),
  .inl (0, 132, .inl (fun _ => 0)),
  .inl (0, 264, .inl (fun _ => 0)),
  .inr (4, [.long 0, .long 0]),
  .inr (0, [.int 0, .ref 220, .int 0, .ref 224, .ref 225, .ref 226, .int 0, .ref 227, .ref 228]),
  .inr (3, [.int 0, .ref 221, .ref 222, .ref 223]),
  .inl (0, 24, .inl (fun _ => 0)),
  .inl (0, 24, .inl (fun _ => 0)),
  .inl (0, 24, .inl (fun _ => 0)),
  .inl (0, 176, .inl (fun _ => 0)),
  .inl (0, 45, .inl (fun _ => 0)),
  .inl (0, 132, .inl (fun _ => 0)),
  .inl (0, 264, .inl (fun _ => 0)),
  .inr (4, [.long 0, .long 0]),
  .inr (0, [.int 0, .ref 230, .int 0, .ref 234, .ref 235, .ref 236, .int 0, .ref 237, .ref 238]),
  .inr (3, [.int 0, .ref 231, .ref 232, .ref 233]),
  .inl (0, 24, .inl (fun _ => 0)),
  .inl (0, 24, .inl (fun _ => 0)),
  .inl (0, 24, .inl (fun _ => 0)),
  .inl (0, 176, .inl (fun _ => 0)),
  .inl (0, 45, .inl (fun _ => 0)),
  .inl (0, 132, .inl (fun _ => 0)),
  .inl (0, 264, .inl (fun _ => 0)),
  .inr (4, [.long 0, .long 0])]
def hpC : mh := hpC_0 ++ (hpC_1 ++ (hpC_2 ++ (hpC_3 ++ (hpC_4 ++ (hpC_5)))))
def hpM_0 : mh := [.inr (7, [.ref 240, .ref 241, .ref 242, .ref 243, .ref 244, .ref 245, .ref 246, .ref 247, .ref 248, .int 0, .ref 249, .ref 250, .ref 251, .ref 252, .ref 253, .int 0, .ref 254, .ref 255, .ref 256, .ref 257, .ref 258, .int 0, .ref 259, .int 0, .long 0, .long 0, .long 0, .ref 260, .ref 261, .ref 262, .ref 263, .ref 264, .ref 265, .ref 266, .ref 267, .ref 268, .ref 269, .ref 270, .ref 271, .long 0, .long 0, .long 0, .long 0, .ref 272, .ref 273, .ref 274, .ref 275, .long 0, .long 0, .long 0, .long 0, .int 0, .long 0, .long 0, .int 0, .int 0, .ref 276, .ref 277, .ref 278]),
  .inl (0, 8, .inl (fun _ => (-1))),
  .inl (0, 192, .inl (fun _ => 0)),
  .inl (0, 192, .inl (fun _ => 0)),
  .inl (0, 192, .inl (fun _ => 0)),
  .inl (0, 8, .inl (fun _ => 0)),
  .inl (0, 8, .inl (fun _ => 0)),
  .inl (0, 192, .inl (fun _ => 0)),
  .inl (0, 192, .inl (fun _ => 0)),
  .inl (0, 192, .inl (fun _ => 0)),
  .inl (0, 64, .inl (fun _ => 0)),
  .inl (0, 64, .inl (fun _ => 0)),
  .inl (0, 1536, .inl (fun _ => 0)),
  .inl (0, 1536, .inl (fun _ => 0)),
  .inl (0, 1536, .inl (fun _ => 0)),
  .inl (1, 600, .inr (.inl (fun _ => 0))),
  .inl (1, 600, .inr (.inl (fun _ => 0))),
  .inl (1, 600, .inr (.inl (fun _ => 0))),
  .inl (2, 600, .inl (fun _ => 0)),
  .inl (0, 600, .inl (fun _ => 0)),
  .inl (0, 600, .inl (fun _ => 0)),
  .inl (0, 2, .inl (fun _ => 0)),
  .inl (1, 128, .inr (.inl (fun _ => 0))),
  .inl (1, 128, .inr (.inl (fun _ => 0))),
  .inl (1, 128, .inr (.inl (fun _ => 0))),
  .inl (1, 128, .inr (.inl (fun _ => 0))),
  .inl (0, 128, .inl (fun _ => 0)),
  .inl (0, 3200, .inl (fun _ => 0)),
  .inl (0, 2, .inl (fun _ => 0)),
  .inl (0, 160, .inl (fun _ => 0)),
  .inl (0, 160, .inl (fun _ => 0)),
  .inl (0, 160, .inl (fun _ => 0)),
  .inl (0, 160, .inl (fun _ => 0)),
  .inl (1, 48, .inr (.inl (fun _ => 0))),
  .inl (1, 48, .inr (.inl (fun _ => 0))),
  .inl (1, 48, .inr (.inl (fun _ => 0))),
  .inl (0, 2, .inl (fun _ => 0)),
  .inl (1, 32, .inr (.inl (fun _ => 0))),
  .inl (1, 32, .inr (.inl (fun _ => 0))),
  .inl (1, 32, .inr (.inl (fun _ => 0)))]
def hpM : mh := hpM_0
def hp0 : mh := hpC ++ hpM
theorem hpC_len : hpC.length = 239 := by decide +kernel
theorem hp0_len : hp0.length = 279 := by decide +kernel
theorem in_C : mC mX6_init [.ref 0] [.inr (6, dfl 6)] (hpC, none) := mexq_ok (d := 8) ⟨okX6_init, odX6_init⟩ (by decide +kernel)
theorem in_M : mC mX7_init [.ref 239] (hpC ++ [.inr (7, dfl 7)]) (hp0, none) := mexq_ok (d := 8) ⟨okX7_init, odX7_init⟩ (by decide +kernel)
