/-! THE CLAIM OUT OF ONE WALK OF THE LAW'S BODY. Your part is whole_start (and what it stands on); all else here is the same for every law, but numbers. -/
def R_law : String := "HullFoundryLaw"
def lw_P (b : Addr) (xs : List Int32) (args : Array Value) (s : State) : Prop := args = #[.ref b] ∧ s.IntsAt b xs ∧ xs.length ≤ 3072 ∧ (Jvm.Cond.and given_1 narrow_1).before args s = true
def lw_Q (_ : Array Value) (s : State) (o : Outcome) (t : State) : Prop := o = .returned (some (.int 1)) ∧ Framed s o t [] 600000 7302250
def lw_Z (below : List Frame) (a : Array Value) (s : State) : State → Prop := fun t => ∃ o, t.status = .running ∧ Ended t below o ∧ lw_Q a s o t
/-- the law's own end, with 1 on the stack, nothing written that was there before, its room as the claim has it -/
theorem lw_ret {p : Program} {l : Launch} {e : Env} {s : State} {m : MethodId} {below : List Frame} {meth : Method} {c : Code} {b : Nat} (hx : p.tables.exec = Jvm.exec) (hb : c.code = code) (hr : meth.sig.returnType = ret) (hlocks : meth.locks = false) {pc : Nat} {H : Heap} {ls : Array Slot} (hdg : decode code pc = .ok (.ireturn, 1)) : W p l e room_1 s m #[Value.ref b] below meth c H [] 600000 7302250 (lw_Z below #[Value.ref b] s) (F0 m pc ls [.int 1]) := by
  intro T hT X
  obtain ⟨fs, hret, hrun, hended, hW, hframe⟩ := X.leave (v := some (.int 1)) (hlocks := hlocks) (fun h => by rw [hr] at h; cases h)
  have hmeth' : T.vm.method? m = some meth := X.method'
  refine ⟨T.setFrames fs, ?_, .returned (some (.int 1)), hrun, hended, rfl, ⟨_, rfl⟩, hW, hframe⟩
  jvm_step X.here [X.here.top, hx, hb, hdg, hmeth', hr, ret, narrow_b1]
  (try refine ⟨rfl, ?_⟩); (try refine ⟨rfl, ?_⟩)
  first | (intro acts; rw [hret _ acts rfl rfl rfl]) | rw [hret _ _ rfl rfl rfl]
  exact Steps.refl _
/-- what holds at the law's entry: the machine, the code, the tables' words (any of lw_tbl by 'hts w (by decide +kernel)'), the script of L ints xs at the cell b, what the Statement gives of the start (any of its parts by flat_of_before) -/
def lw_At (p : Program) (s : State) (m : MethodId) (meth : Method) (c : Code) (b L : Nat) (xs : Nat → Int32) : Prop :=
  p.tables.exec = Jvm.exec ∧ c.code = code ∧ meth.sig.returnType = ret ∧ c.maxLocals = 4 ∧ s.vm.findClass R_law = some m.cls ∧ (∀ w ∈ lw_tbl, w.before #[Value.ref b] s = true) ∧ va_X b L xs s s.heap ∧ b < s.heap.size ∧ meth.locks = false ∧ (Jvm.Cond.and given_1 narrow_1).before #[Value.ref b] s = true

def mins (M : mM) (ins : Instr) (len pc : Nat) (lv : List (Nat × Value)) (st : List Value) (h : mh) (k n : Nat) : Option mF := match ins with
  | .iadd => q_iadd  len pc lv st h k n
  | .isub => q_isub  len pc lv st h k n
  | .imul => q_imul  len pc lv st h k n
  | .iand => q_iand  len pc lv st h k n
  | .ior => q_ior  len pc lv st h k n
  | .ishl => q_ishl  len pc lv st h k n
  | .ishr => q_ishr  len pc lv st h k n
  | .idiv => q_idiv  len pc lv st h k n
  | .irem => q_irem  len pc lv st h k n
  | .ladd => q_ladd  len pc lv st h k n
  | .lsub => q_lsub  len pc lv st h k n
  | .lmul => q_lmul  len pc lv st h k n
  | .ldiv => q_ldiv  len pc lv st h k n
  | .lrem => q_lrem  len pc lv st h k n
  | .ineg => q_ineg  len pc lv st h k n
  | .lneg => q_lneg  len pc lv st h k n
  | .i2l => q_i2l  len pc lv st h k n
  | .l2i => q_l2i  len pc lv st h k n
  | .lcmp => q_lcmp  len pc lv st h k n
  | .dup => q_dup  len pc lv st h k n
  | .pop => q_pop  len pc lv st h k n
  | .pop2 => q_pop2  len pc lv st h k n
  | .dup2 => q_dup2  len pc lv st h k n
  | .iconst i => q_iconst i len pc lv st h k n
  | .bipush i => q_bipush i len pc lv st h k n
  | .sipush i => q_sipush i len pc lv st h k n
  | .lconst i => q_lconst i len pc lv st h k n
  | .iload i => q_iload i len pc lv st h k n
  | .iload_n i => q_iload_n i len pc lv st h k n
  | .lload i => q_lload i len pc lv st h k n
  | .lload_n i => q_lload_n i len pc lv st h k n
  | .aload i => q_aload i len pc lv st h k n
  | .aload_n i => q_aload_n i len pc lv st h k n
  | .istore i => q_istore i (mLx M) len pc lv st h k n
  | .istore_n i => q_istore_n i (mLx M) len pc lv st h k n
  | .lstore i => q_lstore i (mLx M) len pc lv st h k n
  | .lstore_n i => q_lstore_n i (mLx M) len pc lv st h k n
  | .astore i => q_astore i (mLx M) len pc lv st h k n
  | .astore_n i => q_astore_n i (mLx M) len pc lv st h k n
  | .iinc i d => q_iinc i d (mLx M) len pc lv st h k n
  | .ifCond .eq d => q_if_eq d len pc lv st h k n
  | .if_icmp .eq d => q_icmp_eq d len pc lv st h k n
  | .ifCond .ne d => q_if_ne d len pc lv st h k n
  | .if_icmp .ne d => q_icmp_ne d len pc lv st h k n
  | .ifCond .lt d => q_if_lt d len pc lv st h k n
  | .if_icmp .lt d => q_icmp_lt d len pc lv st h k n
  | .ifCond .ge d => q_if_ge d len pc lv st h k n
  | .if_icmp .ge d => q_icmp_ge d len pc lv st h k n
  | .ifCond .gt d => q_if_gt d len pc lv st h k n
  | .if_icmp .gt d => q_icmp_gt d len pc lv st h k n
  | .ifCond .le d => q_if_le d len pc lv st h k n
  | .if_icmp .le d => q_icmp_le d len pc lv st h k n
  | .goto d => q_goto d len pc lv st h k n
  | .tableswitch df lo hi offs => q_tabsw df lo hi offs len pc lv st h k n
  | .ldc i => q_ldc (mOw M) i len pc lv st h k n
  | .ldc_w i => q_ldc_w (mOw M) i len pc lv st h k n
  | .ldc2_w i => q_ldc2 (mOw M) i len pc lv st h k n
  | .getfield i => q_getf (mOw M) i len pc lv st h k n
  | .putfield i => q_putf (mOw M) i (mIn M) len pc lv st h k n
  | .iaload => q_iald  len pc lv st h k n
  | .laload => q_lald  len pc lv st h k n
  | .baload => q_bald  len pc lv st h k n
  | .aaload => q_aald  len pc lv st h k n
  | .arraylength => q_alen  len pc lv st h k n
  | .iastore => q_iast  len pc lv st h k n
  | .lastore => q_last  len pc lv st h k n
  | .bastore => q_bast  len pc lv st h k n
  | .aastore => q_aast  len pc lv st h k n
  | .invokespecial i => q_oini (mOw M) i (mFr M) (mLo M) len pc lv st h k n
  | .newarray .int => q_newi (mCe M) (mSl M) len pc lv st h k n
  | .newarray .long => q_newl (mCe M) (mSl M) len pc lv st h k n
  | .newarray .boolean => q_newz (mCe M) (mSl M) len pc lv st h k n
  | .anewarray i => q_anew (mOw M) i (mCe M) (mSl M) len pc lv st h k n
  | .new i => q_new (mOw M) i (mCe M) (mSl M) len pc lv st h k n
  | .invokestatic i => q_stat (mOw M) i (mFr M) (mLo M) (mCe M) (mSl M) len pc lv st h k n
  | _ => none
section MS
variable {p : Program} {l : Launch} {e : Env} {R : Room} {s : State} {m : MethodId} {args : Array Value} {below : List Frame} {meth : Method} {c : Code} {Q : State → Prop} {B b : Nat} {D : va_G} {dA : Nat → ClassId} {M : mM}
theorem mins_ok (E : mE p R s m args meth c B D dA M) {ins : Instr} {len pc : Nat} {lv : List (Nat × Value)} {st : List Value} {h : mh} {k n : Nat} {f : mF} (hd : decode (mCd M) pc = .ok (ins, len)) (hq : mins M ins len pc lv st h k n = some f) (hk : mV p l e R s m args below meth c Q B b D dA (mLx M) f) : mV p l e R s m args below meth c Q B b D dA (mLx M) (pc, lv, st, h, k, n) := by
  unfold mins at hq
  split at hq
  · exact o_iadd E hd hq hk
  · exact o_isub E hd hq hk
  · exact o_imul E hd hq hk
  · exact o_iand E hd hq hk
  · exact o_ior E hd hq hk
  · exact o_ishl E hd hq hk
  · exact o_ishr E hd hq hk
  · exact o_idiv E hd hq hk
  · exact o_irem E hd hq hk
  · exact o_ladd E hd hq hk
  · exact o_lsub E hd hq hk
  · exact o_lmul E hd hq hk
  · exact o_ldiv E hd hq hk
  · exact o_lrem E hd hq hk
  · exact o_ineg E hd hq hk
  · exact o_lneg E hd hq hk
  · exact o_i2l E hd hq hk
  · exact o_l2i E hd hq hk
  · exact o_lcmp E hd hq hk
  · exact o_dup E hd hq hk
  · exact o_pop E hd hq hk
  · exact o_pop2 E hd hq hk
  · exact o_dup2 E hd hq hk
  · exact o_iconst E hd hq hk
  · exact o_bipush E hd hq hk
  · exact o_sipush E hd hq hk
  · exact o_lconst E hd hq hk
  · exact o_iload E hd hq hk
  · exact o_iload_n E hd hq hk
  · exact o_lload E hd hq hk
  · exact o_lload_n E hd hq hk
  · exact o_aload E hd hq hk
  · exact o_aload_n E hd hq hk
  · exact o_istore E hd hq hk
  · exact o_istore_n E hd hq hk
  · exact o_lstore E hd hq hk
  · exact o_lstore_n E hd hq hk
  · exact o_astore E hd hq hk
  · exact o_astore_n E hd hq hk
  · exact o_iinc E hd hq hk
  · exact o_if_eq E hd hq hk
  · exact o_icmp_eq E hd hq hk
  · exact o_if_ne E hd hq hk
  · exact o_icmp_ne E hd hq hk
  · exact o_if_lt E hd hq hk
  · exact o_icmp_lt E hd hq hk
  · exact o_if_ge E hd hq hk
  · exact o_icmp_ge E hd hq hk
  · exact o_if_gt E hd hq hk
  · exact o_icmp_gt E hd hq hk
  · exact o_if_le E hd hq hk
  · exact o_icmp_le E hd hq hk
  · exact o_goto E hd hq hk
  · exact o_tabsw E hd hq hk
  · exact o_ldc E hd hq hk
  · exact o_ldc_w E hd hq hk
  · exact o_ldc2 E hd hq hk
  · exact o_getf E hd hq hk
  · exact o_putf E hd hq hk
  · exact o_iald E hd hq hk
  · exact o_lald E hd hq hk
  · exact o_bald E hd hq hk
  · exact o_aald E hd hq hk
  · exact o_alen E hd hq hk
  · exact o_iast E hd hq hk
  · exact o_last E hd hq hk
  · exact o_bast E hd hq hk
  · exact o_aast E hd hq hk
  · exact o_oini E hd hq hk
  · exact o_newi E hd hq hk
  · exact o_newl E hd hq hk
  · exact o_newz E hd hq hk
  · exact o_anew E hd hq hk
  · exact o_new E hd hq hk
  · exact o_stat E hd hq hk
  · cases hq
/-- the decode rows of a method, in one -/
def mOd (M : mM) : Prop := ∀ q ∈ mTb M, decode (mCd M) q.1 = .ok q.2
theorem mOd.get (h : mOd M) {pc : Nat} {x : Instr × Nat} (hx : asc (mTb M) pc = some x) : decode (mCd M) pc = .ok x := by
  have h2 := h (pc, x) (asc_mem hx)
  exact h2
def mst (M : mM) (f : mF) : Option mF := match asc (mTb M) f.1 with
  | some (ins, len) => mins M ins len f.1 f.2.1 f.2.2.1 f.2.2.2.1 f.2.2.2.2.1 f.2.2.2.2.2
  | none => none
def mrun (M : mM) : Nat → mF → Option mF
  | 0, f => some f
  | n + 1, f => match mst M f with
    | some g => mrun M n g
    | none => none
theorem mst_ok (E : mE p R s m args meth c B D dA M) (hod : mOd M) {f g : mF} (hq : mst M f = some g) (hk : mV p l e R s m args below meth c Q B b D dA (mLx M) g) : mV p l e R s m args below meth c Q B b D dA (mLx M) f := by
  unfold mst at hq
  split at hq
  · rename_i ins len hx
    exact mins_ok E (hod.get hx) hq hk
  · cases hq
theorem mrun_ok (E : mE p R s m args meth c B D dA M) (hod : mOd M) : ∀ (n : Nat) {f g : mF}, mrun M n f = some g → mV p l e R s m args below meth c Q B b D dA (mLx M) g → mV p l e R s m args below meth c Q B b D dA (mLx M) f
  | 0, f, g, hq, hk => by cases hq; exact hk
  | n + 1, f, g, hq, hk => by
    unfold mrun at hq
    split at hq
    · rename_i f1 h1
      exact mst_ok E hod h1 (mrun_ok E hod n hq hk)
    · cases hq
end MS
