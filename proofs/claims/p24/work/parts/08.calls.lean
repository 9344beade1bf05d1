section MS
variable {p : Program} {l : Launch} {e : Env} {R : Room} {s : State} {m : MethodId} {args : Array Value} {below : List Frame} {meth : Method} {c : Code} {Q : State → Prop} {B b : Nat} {D : va_G} {dA : Nat → ClassId} {M : mM}
/-- what a method must be, to be called -/
def mOK (M : mM) : Prop := plainName (mNm M).cls = true ∧ Cond.code (mNm M) (mCd M) (mLx M) (mRt M) ∈ lw_tbl ∧ (mNm M).cls = cN (mOw M) ∧ ((mNm M).cls ≠ "java/lang/invoke/MethodHandle" ∧ (mNm M).cls ≠ "java/lang/invoke/VarHandle") ∧ (parseMethodDescriptor (mNm M).desc).map (fun d => d.parameters.length) = some (mAr M) ∧ (mIn M = true → (mNm M).name = "<init>")
def mws (M : mM) : List Cond := Cond.code (mNm M) (mCd M) (mLx M) (mRt M) :: lw_g
theorem gin {ws : List Cond} (h : ∀ w ∈ ws, w ∈ lw_g) : GoodIn lw_g ws := fun w hw => ⟨h w hw, good_of_word (List.mem_filter.mp (h w hw)).2⟩
theorem mws_in (ok : mOK M) : ∀ w ∈ mws M, w ∈ lw_g := fun w hw => by
  rcases List.mem_cons.mp hw with rfl | h
  · exact lg_in ok.2.1 rfl
  · exact h
def mQ (B b : Nat) (D : va_G) (dA : Nat → ClassId) (o : mh × Option Value) : Array Value → State → Outcome → State → Prop := fun _ st oc t => oc = .returned (o.2.map (mv B b)) ∧ mR B b D dA o.1 t.heap ∧ va_F (mA B) st t
def mPc (B b : Nat) (D : va_G) (dA : Nat → ClassId) (a : List Value) (h : mh) : Array Value → State → Prop := va_Pc (a.map (mv B b)) (fun U => mR B b D dA h U.heap ∧ B ≤ U.heap.size ∧ va_K D vwCl (mtys dA) U ∧ mNs U)
/-- THE CONTRACT: called with a over the cells h, the method returns with o's cells and o's answer -/
def mC (M : mM) (a : List Value) (h : mh) (o : mh × Option Value) : Prop := ∀ (l : Launch) (B b : Nat) (D : va_G) (dA : Nat → ClassId), Met l (mNm M) (mws M) (mRm M) (mPc B b D dA a h) (mQ B b D dA o) (mCe M) (mSl M) (mA B)
theorem mPc_blind {a : List Value} {h : mh} : FrameBlind (mPc B b D dA a h) := fun x U g mk q => by
  obtain ⟨q0, q1, q2, q3, q4⟩ := q
  exact ⟨q0, q1, q2, va_K.moved (u := U) (U := U.calling g mk x) (Vm.Alike.refl U.vm) q3, mNs.same (s := U) (U := U.calling g mk x) rfl q4⟩
/-- behind a call -/
theorem mV_back {mc ms pc : Nat} {lv : List (Nat × Value)} {st rest : List Value} {k n : Nat} {o : mh × Option Value} {aa : Array Value} {H : Heap} {locs : List Loc} {ls : Array Slot} (hS : va_S (mA B) s.heap H locs) (hl : lv_has ls (mLx M) (lv.map (mg B b))) (hrun : va_Run p l e R s m args below meth c H locs k n mc ms (F0 m pc ls (st.map (mv B b))) (rest.map (mv B b)) (mQ B b D dA o aa) (mA B)) (hk : mV p l e R s m args below meth c Q B b D dA (mLx M) (pc + 3, lv, o.2.toList ++ rest, o.1, k + mc, n + ms)) : W p l e R s m args below meth c H locs k n Q (F0 m pc ls (st.map (mv B b))) := by
  intro T hT X
  obtain ⟨v, st₀, t, T', L, h0, X', hL, e1, e2, ⟨hv, hR1, hz, hkp⟩, stp⟩ := hrun T hT X
  cases hv
  rw [h0] at hz hkp
  have hS1 : va_S (mA B) s.heap T'.heap (locs ++ L) := ⟨Nat.le_trans hS.1 (by rw [e1]; exact hz), fun q h1 h2 => by rw [e1, hkp q (Nat.lt_of_lt_of_le h1 hS.1) h2]; exact hS.2.1 q h1 h2, fun q hq => by
    rcases List.mem_append.mp hq with h | h
    · exact hS.2.2 q h
    · exact hL q h⟩
  obtain ⟨t2, a1, b1⟩ := hk T'.heap (locs ++ L) ls (by rw [e1]; exact hR1) hS1 hl T' rfl X'
  refine ⟨t2, stp t2 ?_, b1⟩
  have e5 : (o.2.map (mv B b)).toList ++ rest.map (mv B b) = (o.2.toList ++ rest).map (mv B b) := by cases o.2 <;> rfl
  rw [e5]
  exact a1
theorem mPc_at {H : Heap} {locs : List Loc} {a : List Value} {h : mh} (E : mE p R s m args meth c B D dA M) (hS : va_S (mA B) s.heap H locs) (hR : mR B b D dA h H) {U : State} (hU : U.heap = H) (hW : s.WarmedH U.vm) : mPc B b D dA a h (a.map (mv B b)).toArray U :=
  ⟨rfl, by rw [hU]; exact hR, by rw [hU]; exact Nat.le_trans E.hz hS.1, va_K.moved hW.alike E.hK, mNs.warm hW E.hn⟩
def mRo (M M2 : mM) (k n : Nat) (rest : List Value) : Bool := decide (mFr M2 + 1 ≤ mFr M) && decide (8 + (mLx M2 + 11) + mLo M2 ≤ mLo M) && decide (k + mCe M2 ≤ mCe M) && decide (n + mSl M2 ≤ mSl M) && decide ((rest.map fun v => v.category).sum ≤ 8)
theorem mRo_ok {M2 : mM} {k n : Nat} {rest : List Value} (h : mRo M M2 k n rest = true) : mFr M2 + 1 ≤ mFr M ∧ 8 + (mLx M2 + 11) + mLo M2 ≤ mLo M ∧ k + mCe M2 ≤ mCe M ∧ n + mSl M2 ≤ mSl M ∧ (rest.map fun v => v.category).sum ≤ 8 := by
  unfold mRo at h
  simp only [Bool.and_eq_true, decide_eq_true_eq] at h
  exact ⟨h.1.1.1.1, h.1.1.1.2, h.1.1.2, h.1.2, h.2⟩
/-- calls: by a link of the class's own -/
def mLV (o i : Nat) (M2 : mM) : Prop := Cond.methodLink (cN o) i (mNm M2) ∈ lw_tbl ∧ Cond.instanceMethod (mNm M2) ∈ lw_tbl ∧ Cond.selects (cN (mOw M2)) (mNm M2) (mNm M2) ∈ lw_tbl ∧ Cond.initialized (cN (mOw M2)) ∈ lw_tbl ∧ mOw M2 < 8
def mLS (o i : Nat) (M2 : mM) : Prop := Cond.methodLink (cN o) i (mNm M2) ∈ lw_tbl ∧ Cond.static (mNm M2) ∈ lw_tbl ∧ Cond.initialized (cN (mOw M2)) ∈ lw_tbl
def mLI (o i : Nat) (M2 : mM) : Prop := Cond.methodLink (cN o) i (mNm M2) ∈ lw_tbl ∧ Cond.instanceMethod (mNm M2) ∈ lw_tbl ∧ Cond.initialized (cN (mOw M2)) ∈ lw_tbl ∧ mIn M2 = true ∧ mRt M2 = none
def mNS (o i : Nat) (M2 : mM) : Prop := (∃ x, (o, i, mNm M2, x) ∈ nT) ∧ Cond.static (mNm M2) ∈ lw_tbl ∧ Cond.initialized (cN (mOw M2)) ∈ lw_tbl
def mNI (o i : Nat) (M2 : mM) : Prop := (∃ x, (o, i, mNm M2, x) ∈ nT) ∧ Cond.instanceMethod (mNm M2) ∈ lw_tbl ∧ Cond.initialized (cN (mOw M2)) ∈ lw_tbl ∧ mIn M2 = true ∧ mRt M2 = none
variable {M2 : mM} {i pc : Nat} {lv : List (Nat × Value)} {st rest as : List Value} {h : mh} {k n a : Nat} {o : mh × Option Value} {fs : List Value}
theorem mCB (E : mE p R s m args meth c B D dA M) (ok2 : mOK M2) (hl : Cond.methodLink (cN (mOw M)) i (mNm M2) ∈ lw_tbl) (hi : Cond.initialized (cN (mOw M2)) ∈ lw_tbl) (hr : mFr M2 + 1 ≤ mFr M ∧ 8 + (mLx M2 + 11) + mLo M2 ≤ mLo M) : CallB R s args (cN (mOw M)) i (mNm M2) (mCd M2) (mLx M2) (mRt M2) (mws M2) (mRm M2) (mCe M2) (mSl M2) (mAr M2) :=
  callB_of (mAr M2) E.hg (gin (mws_in ok2)) rfl rfl rfl (by rw [ok2.2.2.1]; exact E.ht hi rfl) (E.ht hl rfl) ⟨ok2.2.2.2.1.1, ok2.2.2.2.1.2, ok2.2.2.2.2.1⟩ (by rw [E.hr]; exact hr)
theorem mCN (E : mE p R s m args meth c B D dA M) (ok2 : mOK M2) (hl : ∃ x, (mOw M, i, mNm M2, x) ∈ nT) (hi : Cond.initialized (cN (mOw M2)) ∈ lw_tbl) (hr : mFr M2 + 1 ≤ mFr M ∧ 8 + (mLx M2 + 11) + mLo M2 ≤ mLo M) : ∃ x, va_CN R s args (cN (mOw M)) i (mNm M2) x (mCd M2) (mLx M2) (mRt M2) (mws M2) (mRm M2) (mCe M2) (mSl M2) (mAr M2) := by
  obtain ⟨x, hx⟩ := hl
  exact ⟨x, va_cnB (mAr M2) E.hg (gin (mws_in ok2)) rfl rfl rfl (E.hn.1 _ hx) (by rw [ok2.2.2.1]; exact E.ht hi rfl) ⟨ok2.2.2.2.1.1, ok2.2.2.2.1.2, ok2.2.2.2.2.1⟩ (by rw [E.hr]; exact hr)⟩
theorem mV_callV (E : mE p R s m args meth c B D dA M) (ok2 : mOK M2) (hl : mLV (mOw M) i M2) (hd : decode (mCd M) pc = .ok (.invokevirtual i, 3)) (hC : mC M2 (.ref a :: as) h o) (ha : h[a]? = some (.inr (mOw M2, fs))) (hn : as.length = mAr M2) (hro : mRo M M2 k n rest = true) (hst : st = as.reverse ++ .ref a :: rest) (hk : mV p l e R s m args below meth c Q B b D dA (mLx M) (pc + 3, lv, o.2.toList ++ rest, o.1, k + mCe M2, n + mSl M2)) : mV p l e R s m args below meth c Q B b D dA (mLx M) (pc, lv, st, h, k, n) := by
  subst hst
  obtain ⟨r1, r2, r3, r4, r5⟩ := mRo_ok hro
  intro H locs ls hR hS hv
  refine mV_back hS hv (va_runV (As := as.map (mv B b)) (b := B + a) (C := cN (mOw M2)) ⟨E.hx, E.hb, E.hm, E.ho, E.hg⟩ (hC l B b D dA) ⟨mCB E ok2 hl.1 hl.2.2.2.1 ⟨r1, r2⟩, E.ht hl.2.1 rfl, E.ht hl.2.2.1 rfl⟩ ⟨mPc_blind, va_recv E.hK hR.2 (cl_at hl.2.2.2.2) (mW_at ha), fun U hU hW => mPc_at E hS hR hU hW⟩ rfl (by rw [List.length_map]; exact hn) hv.1 ?_ ?_ hd ⟨by rw [E.hr]; exact r3, by rw [E.hr]; exact r4⟩) hk
  · show List.map _ _ = _
    rw [List.map_append, List.map_reverse]
    rfl
  · exact lv_room (by rw [cat_mv]; exact r5)
theorem mV_callS (E : mE p R s m args meth c B D dA M) (ok2 : mOK M2) (hl : mLS (mOw M) i M2) (hd : decode (mCd M) pc = .ok (.invokestatic i, 3)) (hC : mC M2 as h o) (hn : as.length = mAr M2) (hro : mRo M M2 k n rest = true) (hst : st = as.reverse ++ rest) (hk : mV p l e R s m args below meth c Q B b D dA (mLx M) (pc + 3, lv, o.2.toList ++ rest, o.1, k + mCe M2, n + mSl M2)) : mV p l e R s m args below meth c Q B b D dA (mLx M) (pc, lv, st, h, k, n) := by
  subst hst
  obtain ⟨r1, r2, r3, r4, r5⟩ := mRo_ok hro
  intro H locs ls hR hS hv
  refine mV_back hS hv (va_runS (As := as.map (mv B b)) ⟨E.hx, E.hb, E.hm, E.ho, E.hg⟩ (hC l B b D dA) ⟨mCB E ok2 hl.1 hl.2.2 ⟨r1, r2⟩, E.ht hl.2.1 rfl⟩ ⟨mPc_blind, fun U hU hW => mPc_at E hS hR hU hW⟩ rfl (by rw [List.length_map]; exact hn) hv.1 ?_ ?_ hd ⟨by rw [E.hr]; exact r3, by rw [E.hr]; exact r4⟩) hk
  · show List.map _ _ = _
    rw [List.map_append, List.map_reverse]
  · exact lv_room (by rw [cat_mv]; exact r5)
theorem mV_callI (E : mE p R s m args meth c B D dA M) (ok2 : mOK M2) (hl : mLI (mOw M) i M2) (hd : decode (mCd M) pc = .ok (.invokespecial i, 3)) (hC : mC M2 (.ref a :: as) h o) (hn : as.length = mAr M2) (hro : mRo M M2 k n rest = true) (hst : st = as.reverse ++ .ref a :: rest) (hk : mV p l e R s m args below meth c Q B b D dA (mLx M) (pc + 3, lv, o.2.toList ++ rest, o.1, k + mCe M2, n + mSl M2)) : mV p l e R s m args below meth c Q B b D dA (mLx M) (pc, lv, st, h, k, n) := by
  subst hst
  obtain ⟨r1, r2, r3, r4, r5⟩ := mRo_ok hro
  intro H locs ls hR hS hv
  have hcb := mCB E ok2 hl.1 hl.2.2.1 ⟨r1, r2⟩
  rw [hl.2.2.2.2] at hcb
  refine mV_back hS hv (va_runI (As := as.map (mv B b)) (b := B + a) ⟨E.hx, E.hb, E.hm, E.ho, E.hg⟩ (hC l B b D dA) ⟨hcb, ok2.2.2.2.2.2 hl.2.2.2.1, E.ht hl.2.1 rfl⟩ ⟨mPc_blind, fun U hU hW => mPc_at (a := .ref a :: as) E hS hR hU hW⟩ rfl (by rw [List.length_map]; exact hn) hv.1 ?_ ?_ hd ⟨by rw [E.hr]; exact r3, by rw [E.hr]; exact r4⟩) hk
  · show List.map _ _ = _
    rw [List.map_append, List.map_reverse]
    rfl
  · exact lv_room (by rw [cat_mv]; exact r5)
theorem mV_callNS (E : mE p R s m args meth c B D dA M) (ok2 : mOK M2) (hl : mNS (mOw M) i M2) (hd : decode (mCd M) pc = .ok (.invokestatic i, 3)) (hC : mC M2 as h o) (hn : as.length = mAr M2) (hro : mRo M M2 k n rest = true) (hst : st = as.reverse ++ rest) (hk : mV p l e R s m args below meth c Q B b D dA (mLx M) (pc + 3, lv, o.2.toList ++ rest, o.1, k + mCe M2, n + mSl M2)) : mV p l e R s m args below meth c Q B b D dA (mLx M) (pc, lv, st, h, k, n) := by
  subst hst
  obtain ⟨r1, r2, r3, r4, r5⟩ := mRo_ok hro
  intro H locs ls hR hS hv
  obtain ⟨x, hcn⟩ := mCN E ok2 hl.1 hl.2.2 ⟨r1, r2⟩
  refine mV_back hS hv (va_runSN (As := as.map (mv B b)) ⟨E.hx, E.hb, E.hm, E.ho, E.hg⟩ (hC l B b D dA) ⟨hcn, E.ht hl.2.1 rfl, trivial⟩ ⟨mPc_blind, fun U hU hW => mPc_at E hS hR hU hW⟩ rfl (by rw [List.length_map]; exact hn) hv.1 ?_ ?_ hd ⟨by rw [E.hr]; exact r3, by rw [E.hr]; exact r4⟩) hk
  · show List.map _ _ = _
    rw [List.map_append, List.map_reverse]
  · exact lv_room (by rw [cat_mv]; exact r5)
theorem mV_callNI (E : mE p R s m args meth c B D dA M) (ok2 : mOK M2) (hl : mNI (mOw M) i M2) (hd : decode (mCd M) pc = .ok (.invokespecial i, 3)) (hC : mC M2 (.ref a :: as) h o) (hn : as.length = mAr M2) (hro : mRo M M2 k n rest = true) (hst : st = as.reverse ++ .ref a :: rest) (hk : mV p l e R s m args below meth c Q B b D dA (mLx M) (pc + 3, lv, o.2.toList ++ rest, o.1, k + mCe M2, n + mSl M2)) : mV p l e R s m args below meth c Q B b D dA (mLx M) (pc, lv, st, h, k, n) := by
  subst hst
  obtain ⟨r1, r2, r3, r4, r5⟩ := mRo_ok hro
  intro H locs ls hR hS hv
  obtain ⟨x, hcn⟩ := mCN E ok2 hl.1 hl.2.2.1 ⟨r1, r2⟩
  rw [hl.2.2.2.2] at hcn
  refine mV_back hS hv (va_runIN (As := as.map (mv B b)) (b := B + a) ⟨E.hx, E.hb, E.hm, E.ho, E.hg⟩ (hC l B b D dA) ⟨hcn, ok2.2.2.2.2.2 hl.2.2.2.1, E.ht hl.2.1 rfl⟩ ⟨mPc_blind, fun U hU hW => mPc_at (a := .ref a :: as) E hS hR hU hW⟩ rfl (by rw [List.length_map]; exact hn) hv.1 ?_ ?_ hd ⟨by rw [E.hr]; exact r3, by rw [E.hr]; exact r4⟩) hk
  · show List.map _ _ = _
    rw [List.map_append, List.map_reverse]
    rfl
  · exact lv_room (by rw [cat_mv]; exact r5)
end MS
