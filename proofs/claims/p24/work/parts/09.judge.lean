/-- what is asked at the end, with the machine's own names around it -/
abbrev mG : Type := Program → Launch → Env → State → MethodId → Array Value → List Frame → Method → Code → Nat → Nat → va_G → (Nat → ClassId) → (State → Prop) → Prop
def mB (Γ : mG) (M : mM) (f : mF) : Prop := ∀ (p : Program) (l : Launch) (e : Env) (R : Room) (s : State) (m : MethodId) (args : Array Value) (below : List Frame) (meth : Method) (c : Code) (B b : Nat) (D : va_G) (dA : Nat → ClassId) (Q : State → Prop), Γ p l e s m args below meth c B b D dA Q → mE p R s m args meth c B D dA M → mV p l e R s m args below meth c Q B b D dA (mLx M) f
/-- a method's end: these cells, this answer -/
def gO (M : mM) (o : mh × Option Value) : mG := fun _ _ _ s _ args below meth _ B b D dA Q => Q = MQ below (mQ B b D dA o) args s (mCe M) (mSl M) (mA B) ∧ meth.sig.returnType = mRt M ∧ meth.locks = false
section MB
variable {Γ : mG} {M M2 : mM} {i pc : Nat} {lv : List (Nat × Value)} {st rest as : List Value} {h : mh} {k n a : Nat} {o : mh × Option Value} {fs : List Value} {f g : mF}
theorem mB_run (hod : mOd M) (j : Nat) (hq : mrun M j f = some g) (hk : mB Γ M g) : mB Γ M f := fun p l e R s m args below meth c B b D dA Q hG E => mrun_ok E hod j hq (hk p l e R s m args below meth c B b D dA Q hG E)
theorem mB_st (hod : mOd M) (hq : mst M f = some g) (hk : mB Γ M g) : mB Γ M f := fun p l e R s m args below meth c B b D dA Q hG E => mst_ok E hod hq (hk p l e R s m args below meth c B b D dA Q hG E)
theorem mB_V (hod : mOd M) (ok2 : mOK M2) (hl : mLV (mOw M) i M2) (hd : asc (mTb M) pc = some (.invokevirtual i, 3)) (hC : mC M2 (.ref a :: as) h o) (ha : h[a]? = some (.inr (mOw M2, fs))) (hn : as.length = mAr M2) (hro : mRo M M2 k n rest = true) (hst : st = as.reverse ++ .ref a :: rest) (hk : mB Γ M (pc + 3, lv, o.2.toList ++ rest, o.1, k + mCe M2, n + mSl M2)) : mB Γ M (pc, lv, st, h, k, n) := fun p l e R s m args below meth c B b D dA Q hG E => mV_callV E ok2 hl (hod.get hd) hC ha hn hro hst (hk p l e R s m args below meth c B b D dA Q hG E)
theorem mB_S (hod : mOd M) (ok2 : mOK M2) (hl : mLS (mOw M) i M2) (hd : asc (mTb M) pc = some (.invokestatic i, 3)) (hC : mC M2 as h o) (hn : as.length = mAr M2) (hro : mRo M M2 k n rest = true) (hst : st = as.reverse ++ rest) (hk : mB Γ M (pc + 3, lv, o.2.toList ++ rest, o.1, k + mCe M2, n + mSl M2)) : mB Γ M (pc, lv, st, h, k, n) := fun p l e R s m args below meth c B b D dA Q hG E => mV_callS E ok2 hl (hod.get hd) hC hn hro hst (hk p l e R s m args below meth c B b D dA Q hG E)
theorem mB_I (hod : mOd M) (ok2 : mOK M2) (hl : mLI (mOw M) i M2) (hd : asc (mTb M) pc = some (.invokespecial i, 3)) (hC : mC M2 (.ref a :: as) h o) (hn : as.length = mAr M2) (hro : mRo M M2 k n rest = true) (hst : st = as.reverse ++ .ref a :: rest) (hk : mB Γ M (pc + 3, lv, o.2.toList ++ rest, o.1, k + mCe M2, n + mSl M2)) : mB Γ M (pc, lv, st, h, k, n) := fun p l e R s m args below meth c B b D dA Q hG E => mV_callI E ok2 hl (hod.get hd) hC hn hro hst (hk p l e R s m args below meth c B b D dA Q hG E)
theorem mB_NS (hod : mOd M) (ok2 : mOK M2) (hl : mNS (mOw M) i M2) (hd : asc (mTb M) pc = some (.invokestatic i, 3)) (hC : mC M2 as h o) (hn : as.length = mAr M2) (hro : mRo M M2 k n rest = true) (hst : st = as.reverse ++ rest) (hk : mB Γ M (pc + 3, lv, o.2.toList ++ rest, o.1, k + mCe M2, n + mSl M2)) : mB Γ M (pc, lv, st, h, k, n) := fun p l e R s m args below meth c B b D dA Q hG E => mV_callNS E ok2 hl (hod.get hd) hC hn hro hst (hk p l e R s m args below meth c B b D dA Q hG E)
theorem mB_NI (hod : mOd M) (ok2 : mOK M2) (hl : mNI (mOw M) i M2) (hd : asc (mTb M) pc = some (.invokespecial i, 3)) (hC : mC M2 (.ref a :: as) h o) (hn : as.length = mAr M2) (hro : mRo M M2 k n rest = true) (hst : st = as.reverse ++ .ref a :: rest) (hk : mB Γ M (pc + 3, lv, o.2.toList ++ rest, o.1, k + mCe M2, n + mSl M2)) : mB Γ M (pc, lv, st, h, k, n) := fun p l e R s m args below meth c B b D dA Q hG E => mV_callNI E ok2 hl (hod.get hd) hC hn hro hst (hk p l e R s m args below meth c B b D dA Q hG E)
/-- returns -/
def mret (M : mM) (f : mF) : Option (mh × Option Value) := if f.2.2.2.2.1 ≤ mCe M ∧ f.2.2.2.2.2 ≤ mSl M then (match asc (mTb M) f.1, mRt M, f.2.2.1 with
  | some (.ireturn, 1), some .int, [.int v] => some (f.2.2.2.1, some (.int v))
  | some (.ireturn, 1), some .boolean, [.int v] => if v &&& 1 = v then some (f.2.2.2.1, some (.int v)) else none
  | some (.lreturn, 1), some .long, [.long v] => some (f.2.2.2.1, some (.long v))
  | some (.return_, 1), none, [] => some (f.2.2.2.1, none)
  | _, _, _ => none) else none
theorem mB_ret (hod : mOd M) (hq : mret M (pc, lv, st, h, k, n) = some o) : mB (gO M o) M (pc, lv, st, h, k, n) := by
  intro p l e R s m args below meth c B b D dA Q hG E H locs ls hR hS hl
  obtain ⟨rfl, hr, hlocks⟩ := hG
  unfold mret at hq
  split at hq
  · rename_i hw
    refine W.widen (k := mCe M) (n := mSl M) hw.1 hw.2 ?_
    split at hq
    · rename_i v hd ht hst
      cases hq
      dsimp only at hst hd
      subst hst
      exact W.iret E.hx E.hb (hr.trans ht) (fun t ht hW => ⟨rfl, by rw [ht]; exact hR, hS.F ht⟩) hS.2.2 (hod.get hd) hlocks
    · rename_i v hd ht hst
      split at hq
      · rename_i hv
        cases hq
        dsimp only at hst hd
        subst hst
        exact W.zret E.hx E.hb (hr.trans ht) (by show Value.int (v &&& 1) = _; rw [hv]) (fun t ht hW => ⟨rfl, by rw [ht]; exact hR, hS.F ht⟩) hS.2.2 (hod.get hd) hlocks
      · cases hq
    · rename_i v hd ht hst
      cases hq
      dsimp only at hst hd
      subst hst
      exact W.lret E.hx E.hb (hr.trans ht) (fun t ht hW => ⟨rfl, by rw [ht]; exact hR, hS.F ht⟩) hS.2.2 (hod.get hd) hlocks
    · rename_i hd ht hst
      cases hq
      dsimp only at hst hd
      subst hst
      exact W.vret E.hx E.hb (hr.trans ht) (fun t ht hW => ⟨rfl, by rw [ht]; exact hR, hS.F ht⟩) hS.2.2 (hod.get hd) hlocks
    · cases hq
  · cases hq
/-- a contract out of the judgement at the entry -/
theorem mC_of (ok : mOK M) (hL : (lg_sl as).length ≤ mLx M) (hb : mB (gO M o) M (0, lv_args 0 as, [], h, 0, 0)) : mC M as h o := by
  intro l B b D dA
  refine Met.ofW (cc := mCd M) (maxL := mLx M) (ret := mRt M) ok.1 rfl ?_
  intro p e s m args below meth c s₁ Bd hml hv
  obtain ⟨rfl, hR, hz, hK, hN⟩ := hv
  have hts := atoms_spec (ws := mws M) Bd.pre
  have E : mE p (headSpec (mws M) (mRm M)).room s m (as.map (mv B b)).toArray meth c B D dA M := ⟨Bd.exec, Bd.bytes, hml, by rw [← ok.2.2.1]; exact findClass_of_methodNamed Bd.named, fun w hw => hts w (List.mem_cons_of_mem _ hw), fun hi => ((name_of_methodNamed Bd.named Bd.method).1).trans (ok.2.2.2.2.2 hi), hK, hz, rfl, hN⟩
  rw [lg_entry_eq]
  have hl := lv_entry (as.map (mv B b)) (n := mLx M) (by rw [lg_sl_mv]; exact hL)
  rw [lv_args_mv] at hl
  exact hb p l e _ s m _ below meth c B b D dA _ ⟨rfl, Bd.returns, Bd.notSynchronized⟩ E s.heap [] _ hR va_S.rf hl
end MB
/-- the law's own end -/
def gL (L : Nat) (xs : Nat → Int32) : mG := fun _ _ _ s _ args below meth c B b _ _ Q => Q = lw_Z below #[Value.ref b] s ∧ args = #[Value.ref b] ∧ meth.sig.returnType = ret ∧ meth.locks = false ∧ B = s.heap.size ∧ b < B ∧ va_X b L xs s s.heap ∧ c.code = code
section ML
variable {M : mM} {L pc : Nat} {xs : Nat → Int32} {lv : List (Nat × Value)} {r : List Value} {h : mh} {k n j : Nat} {i : Int32}
theorem mL_len (hod : mOd M) (hd : asc (mTb M) pc = some (.arraylength, 1)) (hk : mB (gL L xs) M (pc + 1, lv, .int (Int32.ofNat L) :: r, h, k, n)) : mB (gL L xs) M (pc, lv, .retAddr j :: r, h, k, n) := by
  intro p l e R s m args below meth c B b D dA Q hG E H locs ls hR hS hl
  exact va_slen (A := mA B) E.hx E.hb hG.2.2.2.2.2.2.1 (by rw [← hG.2.2.2.2.1]; exact hG.2.2.2.2.2.1) (Nat.not_le.mpr hG.2.2.2.2.2.1) hS (hod.get hd) (hk p l e R s m args below meth c B b D dA Q hG E H locs ls hR hS hl)
theorem mL_ld (hod : mOd M) (hd : asc (mTb M) pc = some (.iaload, 1)) (hi : vp_in i L) (hk : mB (gL L xs) M (pc + 1, lv, .int (xs i.toNatClampNeg) :: r, h, k, n)) : mB (gL L xs) M (pc, lv, .int i :: .retAddr j :: r, h, k, n) := by
  intro p l e R s m args below meth c B b D dA Q hG E H locs ls hR hS hl
  exact va_sld (A := mA B) E.hx E.hb hG.2.2.2.2.2.2.1 (by rw [← hG.2.2.2.2.1]; exact hG.2.2.2.2.2.1) (Nat.not_le.mpr hG.2.2.2.2.2.1) hS hi (hod.get hd) (hk p l e R s m args below meth c B b D dA Q hG E H locs ls hR hS hl)
theorem mL_ret (hod : mOd M) (hm : mCd M = code) (hrm : mRm M = room_1) (hd : asc (mTb M) pc = some (.ireturn, 1)) (h1 : k ≤ (mRm M).cells) (h2 : n ≤ (mRm M).slots) : mB (gL L xs) M (pc, lv, [.int 1], h, k, n) := by
  intro p l e R s m args below meth c B b D dA Q hG E H locs ls hR hS hl
  obtain ⟨rfl, rfl, hr, hlocks, hB, -, -, hcc⟩ := hG
  have hR1 : R = room_1 := E.hr.trans hrm
  subst hR1
  rw [hrm] at h1 h2
  refine va_forget (fun q hq => by rw [← hB]; exact hS.2.2 q hq) ?_
  refine W.widen (k := room_1.cells) (n := room_1.slots) h1 h2 ?_
  have hd2 := hod.get hd
  rw [hm] at hd2
  exact lw_ret E.hx hcc hr hlocks hd2
end ML

