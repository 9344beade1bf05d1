/-! THE SMALL MACHINE: frames, locals and stacks as lists, the system's cells as a list (cell i lies at address B + i), references as places in that list. A step of it is a function; each step is carried over to the kit's judgement W once and for all. -/
abbrev mh : Type := List va_E
abbrev mF : Type := Nat × List (Nat × Value) × List Value × mh × Nat × Nat
/-- a method: name, number of its class, bytes, locals, return type, instructions by pc, room (frames, locals, cells, slots), parameters, is it a constructor -/
abbrev mM : Type := MethodName × Nat × ByteArray × Nat × Option FieldType × List (Nat × Instr × Nat) × (Nat × Nat × Nat × Nat) × Nat × Bool
def mNm (M : mM) : MethodName := M.1
def mOw (M : mM) : Nat := M.2.1
def mCd (M : mM) : ByteArray := M.2.2.1
def mLx (M : mM) : Nat := M.2.2.2.1
def mRt (M : mM) : Option FieldType := M.2.2.2.2.1
def mTb (M : mM) : List (Nat × Instr × Nat) := M.2.2.2.2.2.1
def mFr (M : mM) : Nat := M.2.2.2.2.2.2.1.1
def mLo (M : mM) : Nat := M.2.2.2.2.2.2.1.2.1
def mCe (M : mM) : Nat := M.2.2.2.2.2.2.1.2.2.1
def mSl (M : mM) : Nat := M.2.2.2.2.2.2.1.2.2.2
def mAr (M : mM) : Nat := M.2.2.2.2.2.2.2.1
def mIn (M : mM) : Bool := M.2.2.2.2.2.2.2.2
def mRm (M : mM) : Room := { frames := mFr M, cells := mCe M, slots := mSl M, locals := mLo M }
/-- values: a reference is a place in the list of cells; the script is .retAddr -/
def mv (B b : Nat) (v : Value) : Value := match v with
  | .ref a => .ref (B + a)
  | .retAddr _ => .ref b
  | .int x => .int x
  | .long x => .long x
  | .float x => .float x
  | .double x => .double x
  | .null => .null
theorem mv_cat (B b : Nat) (v : Value) : (mv B b v).category = v.category := by cases v <;> rfl
def mg (B b : Nat) (q : Nat × Value) : Nat × Value := (q.1, mv B b q.2)
def mrf (B : Nat) (f : Nat → Option Nat) : Nat → Option Nat := fun j => (f j).map (fun a => B + a)
def mcv (B b : Nat) (dA : Nat → ClassId) (x : va_E) : va_E := match x with
  | .inl (t, n, .inr (.inr (.inr (.inr f)))) => .inl (dA t, n, .inr (.inr (.inr (.inr (mrf B f)))))
  | .inl (t, n, .inr (.inr (.inr (.inl f)))) => .inl (dA t, n, .inr (.inr (.inr (.inl f))))
  | .inl (t, n, .inr (.inr (.inl f))) => .inl (dA t, n, .inr (.inr (.inl f)))
  | .inl (t, n, .inr (.inl f)) => .inl (dA t, n, .inr (.inl f))
  | .inl (t, n, .inl f) => .inl (dA t, n, .inl f)
  | .inr (ci, fs) => .inr (ci, fs.map (mv B b))
def mW (B b : Nat) (dA : Nat → ClassId) (h : mh) : va_W := h.mapIdx (fun i x => (B + i, mcv B b dA x))
def mR (B b : Nat) (D : va_G) (dA : Nat → ClassId) (h : mh) (H : Heap) : Prop := H.size = B + h.length ∧ va_P D vwCl (mW B b dA h) H
def mtys (dA : Nat → ClassId) : List (ClassId × FieldType) := [(dA 0, .int), (dA 1, .long), (dA 2, .boolean), (dA 3, .object RX3), (dA 4, .object RX0)]
def mA (B : Nat) : Nat → Prop := fun q => B ≤ q
theorem mW_at {B b : Nat} {dA : Nat → ClassId} {h : mh} {i : Nat} {x : va_E} (hx : h[i]? = some x) : (mW B b dA h)[i]? = some (B + i, mcv B b dA x) := by
  unfold mW
  rw [List.getElem?_mapIdx, hx]
  rfl
theorem mW_len {B b : Nat} {dA : Nat → ClassId} {h : mh} : (mW B b dA h).length = h.length := by
  unfold mW
  rw [List.length_mapIdx]
theorem mW_set {B b : Nat} {dA : Nat → ClassId} {h : mh} {i : Nat} (x : va_E) : (mW B b dA h).set i (B + i, mcv B b dA x) = mW B b dA (h.set i x) := by
  apply List.ext_getElem?
  intro j
  unfold mW
  rw [List.getElem?_set, List.getElem?_mapIdx, List.getElem?_mapIdx, List.getElem?_set, List.length_mapIdx]
  by_cases hj : i = j
  · subst hj
    by_cases hl : i < h.length <;> simp [hl]
  · simp [hj]
theorem mW_app {B b : Nat} {dA : Nat → ClassId} {h : mh} (x : va_E) : mW B b dA (h ++ [x]) = mW B b dA h ++ [(B + h.length, mcv B b dA x)] := by
  unfold mW
  rw [List.mapIdx_append]
  simp
theorem mW_D {B b : Nat} {dA : Nat → ClassId} {h : mh} : va_D (mA B) (mW B b dA h) := by
  have key : ∀ (i : Nat) (q : Nat × va_E), (mW B b dA h)[i]? = some q → q.1 = B + i := by
    intro i q hq
    unfold mW at hq
    rw [List.getElem?_mapIdx] at hq
    cases hh : h[i]? with
    | none => rw [hh] at hq; cases hq
    | some x => rw [hh] at hq; cases hq; rfl
  refine ⟨fun i j p q hp hq hpq => ?_, fun k q hq => ?_⟩
  · have h1 := key i p hp
    have h2 := key j q hq
    omega
  · have h1 := key k q hq
    show B ≤ q.1
    omega
theorem mR_set {B b : Nat} {D : va_G} {dA : Nat → ClassId} {h : mh} {H H1 : Heap} {i : Nat} {x : va_E} {y : Nat × va_E} (hy : y = (B + i, mcv B b dA x)) (hz : H1.size = H.size) (hR : mR B b D dA h H) (hP : va_P D vwCl ((mW B b dA h).set i y) H1) : mR B b D dA (h.set i x) H1 := by
  subst hy
  refine ⟨?_, ?_⟩
  · rw [List.length_set, hz]; exact hR.1
  · rw [← mW_set]; exact hP
def ls1 (lv : List (Nat × Value)) (i : Nat) (v : Value) : List (Nat × Value) := (i, v) :: lv.filter (fun q => !(q.1 == i) && !(q.1 + 1 == i && q.2.category == 2))
def ls2 (lv : List (Nat × Value)) (i : Nat) (v : Value) : List (Nat × Value) := (i, v) :: lv.filter (fun q => !(q.1 == i) && (!(q.1 == i + 1) && !(q.1 + 1 == i && q.2.category == 2)))
theorem ls1_map {B b : Nat} {lv : List (Nat × Value)} {i : Nat} {v : Value} : (i, mv B b v) :: (lv.map (mg B b)).filter (fun q => !(q.1 == i) && !(q.1 + 1 == i && q.2.category == 2)) = (ls1 lv i v).map (mg B b) := by
  unfold ls1
  rw [List.map_cons, List.filter_map]
  congr 2
  apply congrArg (fun p => List.filter p lv)
  funext q
  simp [mg, mv_cat]
theorem ls2_map {B b : Nat} {lv : List (Nat × Value)} {i : Nat} {v : Value} : (i, mv B b v) :: (lv.map (mg B b)).filter (fun q => !(q.1 == i) && (!(q.1 == i + 1) && !(q.1 + 1 == i && q.2.category == 2))) = (ls2 lv i v).map (mg B b) := by
  unfold ls2
  rw [List.map_cons, List.filter_map]
  congr 2
  apply congrArg (fun p => List.filter p lv)
  funext q
  simp [mg, mv_cat]
def lget (lv : List (Nat × Value)) (i : Nat) : Option Value := match lv with
  | [] => none
  | q :: r => if q.1 = i then some q.2 else lget r i
theorem lget_mem {i : Nat} {v : Value} : ∀ {lv : List (Nat × Value)}, lget lv i = some v → (i, v) ∈ lv
  | [], h => by cases h
  | q :: r, h => by
    unfold lget at h
    split at h
    · cases h; rename_i hq; subst hq; exact List.mem_cons_self
    · exact List.mem_cons_of_mem _ (lget_mem h)
theorem lget_at {B b i nL : Nat} {v : Value} {lv : List (Nat × Value)} {ls : Array Slot} (hl : lv_has ls nL (lv.map (mg B b))) (h : lget lv i = some v) : ls[i]? = some (.val (mv B b v)) := hl.2.2 (i, mv B b v) (List.mem_map.mpr ⟨(i, v), lget_mem h, rfl⟩)
theorem lget_ix {B b i : Nat} {v : Value} {lv : List (Nat × Value)} (h : lget lv i = some v) : ∃ k : Nat, (lv.map (mg B b))[k]? = some (i, mv B b v) := List.getElem?_of_mem (List.mem_map.mpr ⟨(i, v), lget_mem h, rfl⟩)
theorem lv_args_mv {B b : Nat} : ∀ (vs : List Value) (i : Nat), lv_args i (vs.map (mv B b)) = (lv_args i vs).map (mg B b)
  | [], i => rfl
  | v :: vs, i => by
    show (i, mv B b v) :: lv_args (if (mv B b v).category = 2 then i + 2 else i + 1) (vs.map (mv B b)) = (i, mv B b v) :: (lv_args (if v.category = 2 then i + 2 else i + 1) vs).map (mg B b)
    rw [mv_cat, lv_args_mv]
theorem lg_sl_mv {B b : Nat} (vs : List Value) : (lg_sl (vs.map (mv B b))).length = (lg_sl vs).length := by
  induction vs with
  | nil => rfl
  | cons v vs ih =>
    unfold lg_sl at ih ⊢
    simp only [List.map_cons, List.flatMap_cons, List.length_append, mv_cat, ih]
    split <;> rfl
theorem cat_mv {B b : Nat} (vs : List Value) : ((vs.map (mv B b)).map fun v => v.category).sum = (vs.map fun v => v.category).sum := by
  rw [List.map_map]
  congr 1
  apply congrArg (fun f => List.map f vs)
  funext v
  exact mv_cat B b v

section MV
variable {p : Program} {l : Launch} {e : Env} {R : Room} {s : State} {m : MethodId} {args : Array Value} {below : List Frame} {meth : Method} {c : Code} {Q : State → Prop} {B b : Nat} {D : va_G} {dA : Nat → ClassId} {M : mM}
/-- what stands around a method's run -/
def mE (p : Program) (R : Room) (s : State) (m : MethodId) (args : Array Value) (meth : Method) (c : Code) (B : Nat) (D : va_G) (dA : Nat → ClassId) (M : mM) : Prop := p.tables.exec = Jvm.exec ∧ c.code = mCd M ∧ c.maxLocals = mLx M ∧ s.vm.findClass (cN (mOw M)) = some m.cls ∧ (∀ w ∈ lw_g, w.before args s = true) ∧ (mIn M = true → meth.name = "<init>") ∧ va_K D vwCl (mtys dA) s ∧ B ≤ s.heap.size ∧ R = mRm M ∧ mNs s
/-- the judgement: from this frame on, over every heap that holds the cells, the machine comes to Q -/
def mV (p : Program) (l : Launch) (e : Env) (R : Room) (s : State) (m : MethodId) (args : Array Value) (below : List Frame) (meth : Method) (c : Code) (Q : State → Prop) (B b : Nat) (D : va_G) (dA : Nat → ClassId) (nL : Nat) (f : mF) : Prop :=
  ∀ (H : Heap) (locs : List Loc) (ls : Array Slot), mR B b D dA f.2.2.2.1 H → va_S (mA B) s.heap H locs → lv_has ls nL (f.2.1.map (mg B b)) → W p l e R s m args below meth c H locs f.2.2.2.2.1 f.2.2.2.2.2 Q (F0 m f.1 ls (f.2.2.1.map (mv B b)))

def q_iadd (len pc : Nat) (lv : List (Nat × Value)) (st : List Value) (h : mh) (k n : Nat) : Option mF := match len, st with
  | 1, .int y :: .int x :: r => some (pc + 1, lv, .int (x + y) :: r, h, k, n)
  | _, _ => none
theorem o_iadd (E : mE p R s m args meth c B D dA M) {len pc : Nat} {lv : List (Nat × Value)} {st : List Value} {h : mh} {k n : Nat} {f : mF} (hd : decode (mCd M) pc = .ok (.iadd, len)) (hq : q_iadd len pc lv st h k n = some f) (hk : mV p l e R s m args below meth c Q B b D dA (mLx M) f) : mV p l e R s m args below meth c Q B b D dA (mLx M) (pc, lv, st, h, k, n) := by
  unfold q_iadd at hq
  split at hq
  · cases hq
    intro H locs ls hR hS hl
    exact lv_iadd E.1 E.2.1 hd (hk H locs ls hR hS hl)
  · cases hq
def q_isub (len pc : Nat) (lv : List (Nat × Value)) (st : List Value) (h : mh) (k n : Nat) : Option mF := match len, st with
  | 1, .int y :: .int x :: r => some (pc + 1, lv, .int (x - y) :: r, h, k, n)
  | _, _ => none
theorem o_isub (E : mE p R s m args meth c B D dA M) {len pc : Nat} {lv : List (Nat × Value)} {st : List Value} {h : mh} {k n : Nat} {f : mF} (hd : decode (mCd M) pc = .ok (.isub, len)) (hq : q_isub len pc lv st h k n = some f) (hk : mV p l e R s m args below meth c Q B b D dA (mLx M) f) : mV p l e R s m args below meth c Q B b D dA (mLx M) (pc, lv, st, h, k, n) := by
  unfold q_isub at hq
  split at hq
  · cases hq
    intro H locs ls hR hS hl
    exact lv_isub E.1 E.2.1 hd (hk H locs ls hR hS hl)
  · cases hq
def q_imul (len pc : Nat) (lv : List (Nat × Value)) (st : List Value) (h : mh) (k n : Nat) : Option mF := match len, st with
  | 1, .int y :: .int x :: r => some (pc + 1, lv, .int (x * y) :: r, h, k, n)
  | _, _ => none
theorem o_imul (E : mE p R s m args meth c B D dA M) {len pc : Nat} {lv : List (Nat × Value)} {st : List Value} {h : mh} {k n : Nat} {f : mF} (hd : decode (mCd M) pc = .ok (.imul, len)) (hq : q_imul len pc lv st h k n = some f) (hk : mV p l e R s m args below meth c Q B b D dA (mLx M) f) : mV p l e R s m args below meth c Q B b D dA (mLx M) (pc, lv, st, h, k, n) := by
  unfold q_imul at hq
  split at hq
  · cases hq
    intro H locs ls hR hS hl
    exact lv_imul E.1 E.2.1 hd (hk H locs ls hR hS hl)
  · cases hq
def q_iand (len pc : Nat) (lv : List (Nat × Value)) (st : List Value) (h : mh) (k n : Nat) : Option mF := match len, st with
  | 1, .int y :: .int x :: r => some (pc + 1, lv, .int (x &&& y) :: r, h, k, n)
  | _, _ => none
theorem o_iand (E : mE p R s m args meth c B D dA M) {len pc : Nat} {lv : List (Nat × Value)} {st : List Value} {h : mh} {k n : Nat} {f : mF} (hd : decode (mCd M) pc = .ok (.iand, len)) (hq : q_iand len pc lv st h k n = some f) (hk : mV p l e R s m args below meth c Q B b D dA (mLx M) f) : mV p l e R s m args below meth c Q B b D dA (mLx M) (pc, lv, st, h, k, n) := by
  unfold q_iand at hq
  split at hq
  · cases hq
    intro H locs ls hR hS hl
    exact lv_iand E.1 E.2.1 hd (hk H locs ls hR hS hl)
  · cases hq
def q_ior (len pc : Nat) (lv : List (Nat × Value)) (st : List Value) (h : mh) (k n : Nat) : Option mF := match len, st with
  | 1, .int y :: .int x :: r => some (pc + 1, lv, .int (x ||| y) :: r, h, k, n)
  | _, _ => none
theorem o_ior (E : mE p R s m args meth c B D dA M) {len pc : Nat} {lv : List (Nat × Value)} {st : List Value} {h : mh} {k n : Nat} {f : mF} (hd : decode (mCd M) pc = .ok (.ior, len)) (hq : q_ior len pc lv st h k n = some f) (hk : mV p l e R s m args below meth c Q B b D dA (mLx M) f) : mV p l e R s m args below meth c Q B b D dA (mLx M) (pc, lv, st, h, k, n) := by
  unfold q_ior at hq
  split at hq
  · cases hq
    intro H locs ls hR hS hl
    exact lv_ior E.1 E.2.1 hd (hk H locs ls hR hS hl)
  · cases hq
def q_ishl (len pc : Nat) (lv : List (Nat × Value)) (st : List Value) (h : mh) (k n : Nat) : Option mF := match len, st with
  | 1, .int y :: .int x :: r => some (pc + 1, lv, .int (x <<< (y &&& 31)) :: r, h, k, n)
  | _, _ => none
theorem o_ishl (E : mE p R s m args meth c B D dA M) {len pc : Nat} {lv : List (Nat × Value)} {st : List Value} {h : mh} {k n : Nat} {f : mF} (hd : decode (mCd M) pc = .ok (.ishl, len)) (hq : q_ishl len pc lv st h k n = some f) (hk : mV p l e R s m args below meth c Q B b D dA (mLx M) f) : mV p l e R s m args below meth c Q B b D dA (mLx M) (pc, lv, st, h, k, n) := by
  unfold q_ishl at hq
  split at hq
  · cases hq
    intro H locs ls hR hS hl
    exact lv_ishl E.1 E.2.1 hd (hk H locs ls hR hS hl)
  · cases hq
def q_ishr (len pc : Nat) (lv : List (Nat × Value)) (st : List Value) (h : mh) (k n : Nat) : Option mF := match len, st with
  | 1, .int y :: .int x :: r => some (pc + 1, lv, .int (x >>> (y &&& 31)) :: r, h, k, n)
  | _, _ => none
theorem o_ishr (E : mE p R s m args meth c B D dA M) {len pc : Nat} {lv : List (Nat × Value)} {st : List Value} {h : mh} {k n : Nat} {f : mF} (hd : decode (mCd M) pc = .ok (.ishr, len)) (hq : q_ishr len pc lv st h k n = some f) (hk : mV p l e R s m args below meth c Q B b D dA (mLx M) f) : mV p l e R s m args below meth c Q B b D dA (mLx M) (pc, lv, st, h, k, n) := by
  unfold q_ishr at hq
  split at hq
  · cases hq
    intro H locs ls hR hS hl
    exact lv_ishr E.1 E.2.1 hd (hk H locs ls hR hS hl)
  · cases hq
def q_idiv (len pc : Nat) (lv : List (Nat × Value)) (st : List Value) (h : mh) (k n : Nat) : Option mF := match len, st with
  | 1, .int y :: .int x :: r => if y = 0 then none else some (pc + 1, lv, .int (x / y) :: r, h, k, n)
  | _, _ => none
theorem o_idiv (E : mE p R s m args meth c B D dA M) {len pc : Nat} {lv : List (Nat × Value)} {st : List Value} {h : mh} {k n : Nat} {f : mF} (hd : decode (mCd M) pc = .ok (.idiv, len)) (hq : q_idiv len pc lv st h k n = some f) (hk : mV p l e R s m args below meth c Q B b D dA (mLx M) f) : mV p l e R s m args below meth c Q B b D dA (mLx M) (pc, lv, st, h, k, n) := by
  unfold q_idiv at hq
  split at hq
  · split at hq
    · cases hq
    · rename_i hc
      cases hq
      intro H locs ls hR hS hl
      exact lv_idiv E.1 E.2.1 hd hc (hk H locs ls hR hS hl)
  · cases hq
def q_irem (len pc : Nat) (lv : List (Nat × Value)) (st : List Value) (h : mh) (k n : Nat) : Option mF := match len, st with
  | 1, .int y :: .int x :: r => if y = 0 then none else some (pc + 1, lv, .int (x - x / y * y) :: r, h, k, n)
  | _, _ => none
theorem o_irem (E : mE p R s m args meth c B D dA M) {len pc : Nat} {lv : List (Nat × Value)} {st : List Value} {h : mh} {k n : Nat} {f : mF} (hd : decode (mCd M) pc = .ok (.irem, len)) (hq : q_irem len pc lv st h k n = some f) (hk : mV p l e R s m args below meth c Q B b D dA (mLx M) f) : mV p l e R s m args below meth c Q B b D dA (mLx M) (pc, lv, st, h, k, n) := by
  unfold q_irem at hq
  split at hq
  · split at hq
    · cases hq
    · rename_i hc
      cases hq
      intro H locs ls hR hS hl
      exact lv_irem E.1 E.2.1 hd hc (hk H locs ls hR hS hl)
  · cases hq
def q_ladd (len pc : Nat) (lv : List (Nat × Value)) (st : List Value) (h : mh) (k n : Nat) : Option mF := match len, st with
  | 1, .long y :: .long x :: r => some (pc + 1, lv, .long (x + y) :: r, h, k, n)
  | _, _ => none
theorem o_ladd (E : mE p R s m args meth c B D dA M) {len pc : Nat} {lv : List (Nat × Value)} {st : List Value} {h : mh} {k n : Nat} {f : mF} (hd : decode (mCd M) pc = .ok (.ladd, len)) (hq : q_ladd len pc lv st h k n = some f) (hk : mV p l e R s m args below meth c Q B b D dA (mLx M) f) : mV p l e R s m args below meth c Q B b D dA (mLx M) (pc, lv, st, h, k, n) := by
  unfold q_ladd at hq
  split at hq
  · cases hq
    intro H locs ls hR hS hl
    exact lv_ladd E.1 E.2.1 hd (hk H locs ls hR hS hl)
  · cases hq
def q_lsub (len pc : Nat) (lv : List (Nat × Value)) (st : List Value) (h : mh) (k n : Nat) : Option mF := match len, st with
  | 1, .long y :: .long x :: r => some (pc + 1, lv, .long (x - y) :: r, h, k, n)
  | _, _ => none
theorem o_lsub (E : mE p R s m args meth c B D dA M) {len pc : Nat} {lv : List (Nat × Value)} {st : List Value} {h : mh} {k n : Nat} {f : mF} (hd : decode (mCd M) pc = .ok (.lsub, len)) (hq : q_lsub len pc lv st h k n = some f) (hk : mV p l e R s m args below meth c Q B b D dA (mLx M) f) : mV p l e R s m args below meth c Q B b D dA (mLx M) (pc, lv, st, h, k, n) := by
  unfold q_lsub at hq
  split at hq
  · cases hq
    intro H locs ls hR hS hl
    exact lv_lsub E.1 E.2.1 hd (hk H locs ls hR hS hl)
  · cases hq
def q_lmul (len pc : Nat) (lv : List (Nat × Value)) (st : List Value) (h : mh) (k n : Nat) : Option mF := match len, st with
  | 1, .long y :: .long x :: r => some (pc + 1, lv, .long (x * y) :: r, h, k, n)
  | _, _ => none
theorem o_lmul (E : mE p R s m args meth c B D dA M) {len pc : Nat} {lv : List (Nat × Value)} {st : List Value} {h : mh} {k n : Nat} {f : mF} (hd : decode (mCd M) pc = .ok (.lmul, len)) (hq : q_lmul len pc lv st h k n = some f) (hk : mV p l e R s m args below meth c Q B b D dA (mLx M) f) : mV p l e R s m args below meth c Q B b D dA (mLx M) (pc, lv, st, h, k, n) := by
  unfold q_lmul at hq
  split at hq
  · cases hq
    intro H locs ls hR hS hl
    exact lv_lmul E.1 E.2.1 hd (hk H locs ls hR hS hl)
  · cases hq
def q_ldiv (len pc : Nat) (lv : List (Nat × Value)) (st : List Value) (h : mh) (k n : Nat) : Option mF := match len, st with
  | 1, .long y :: .long x :: r => if y = 0 then none else some (pc + 1, lv, .long (x / y) :: r, h, k, n)
  | _, _ => none
theorem o_ldiv (E : mE p R s m args meth c B D dA M) {len pc : Nat} {lv : List (Nat × Value)} {st : List Value} {h : mh} {k n : Nat} {f : mF} (hd : decode (mCd M) pc = .ok (.ldiv, len)) (hq : q_ldiv len pc lv st h k n = some f) (hk : mV p l e R s m args below meth c Q B b D dA (mLx M) f) : mV p l e R s m args below meth c Q B b D dA (mLx M) (pc, lv, st, h, k, n) := by
  unfold q_ldiv at hq
  split at hq
  · split at hq
    · cases hq
    · rename_i hc
      cases hq
      intro H locs ls hR hS hl
      exact lv_ldiv E.1 E.2.1 hd hc (hk H locs ls hR hS hl)
  · cases hq
def q_lrem (len pc : Nat) (lv : List (Nat × Value)) (st : List Value) (h : mh) (k n : Nat) : Option mF := match len, st with
  | 1, .long y :: .long x :: r => if y = 0 then none else some (pc + 1, lv, .long (x - x / y * y) :: r, h, k, n)
  | _, _ => none
theorem o_lrem (E : mE p R s m args meth c B D dA M) {len pc : Nat} {lv : List (Nat × Value)} {st : List Value} {h : mh} {k n : Nat} {f : mF} (hd : decode (mCd M) pc = .ok (.lrem, len)) (hq : q_lrem len pc lv st h k n = some f) (hk : mV p l e R s m args below meth c Q B b D dA (mLx M) f) : mV p l e R s m args below meth c Q B b D dA (mLx M) (pc, lv, st, h, k, n) := by
  unfold q_lrem at hq
  split at hq
  · split at hq
    · cases hq
    · rename_i hc
      cases hq
      intro H locs ls hR hS hl
      exact lv_lrem E.1 E.2.1 hd hc (hk H locs ls hR hS hl)
  · cases hq
def q_ineg (len pc : Nat) (lv : List (Nat × Value)) (st : List Value) (h : mh) (k n : Nat) : Option mF := match len, st with
  | 1, .int x :: r => some (pc + 1, lv, .int (-x) :: r, h, k, n)
  | _, _ => none
theorem o_ineg (E : mE p R s m args meth c B D dA M) {len pc : Nat} {lv : List (Nat × Value)} {st : List Value} {h : mh} {k n : Nat} {f : mF} (hd : decode (mCd M) pc = .ok (.ineg, len)) (hq : q_ineg len pc lv st h k n = some f) (hk : mV p l e R s m args below meth c Q B b D dA (mLx M) f) : mV p l e R s m args below meth c Q B b D dA (mLx M) (pc, lv, st, h, k, n) := by
  unfold q_ineg at hq
  split at hq
  · cases hq
    intro H locs ls hR hS hl
    exact lv_ineg E.1 E.2.1 hd (hk H locs ls hR hS hl)
  · cases hq
def q_lneg (len pc : Nat) (lv : List (Nat × Value)) (st : List Value) (h : mh) (k n : Nat) : Option mF := match len, st with
  | 1, .long x :: r => some (pc + 1, lv, .long (-x) :: r, h, k, n)
  | _, _ => none
theorem o_lneg (E : mE p R s m args meth c B D dA M) {len pc : Nat} {lv : List (Nat × Value)} {st : List Value} {h : mh} {k n : Nat} {f : mF} (hd : decode (mCd M) pc = .ok (.lneg, len)) (hq : q_lneg len pc lv st h k n = some f) (hk : mV p l e R s m args below meth c Q B b D dA (mLx M) f) : mV p l e R s m args below meth c Q B b D dA (mLx M) (pc, lv, st, h, k, n) := by
  unfold q_lneg at hq
  split at hq
  · cases hq
    intro H locs ls hR hS hl
    exact lv_lneg E.1 E.2.1 hd (hk H locs ls hR hS hl)
  · cases hq
def q_i2l (len pc : Nat) (lv : List (Nat × Value)) (st : List Value) (h : mh) (k n : Nat) : Option mF := match len, st with
  | 1, .int x :: r => some (pc + 1, lv, .long x.toInt64 :: r, h, k, n)
  | _, _ => none
theorem o_i2l (E : mE p R s m args meth c B D dA M) {len pc : Nat} {lv : List (Nat × Value)} {st : List Value} {h : mh} {k n : Nat} {f : mF} (hd : decode (mCd M) pc = .ok (.i2l, len)) (hq : q_i2l len pc lv st h k n = some f) (hk : mV p l e R s m args below meth c Q B b D dA (mLx M) f) : mV p l e R s m args below meth c Q B b D dA (mLx M) (pc, lv, st, h, k, n) := by
  unfold q_i2l at hq
  split at hq
  · cases hq
    intro H locs ls hR hS hl
    exact lv_i2l E.1 E.2.1 hd rfl (hk H locs ls hR hS hl)
  · cases hq
def q_l2i (len pc : Nat) (lv : List (Nat × Value)) (st : List Value) (h : mh) (k n : Nat) : Option mF := match len, st with
  | 1, .long x :: r => some (pc + 1, lv, .int x.toInt32 :: r, h, k, n)
  | _, _ => none
theorem o_l2i (E : mE p R s m args meth c B D dA M) {len pc : Nat} {lv : List (Nat × Value)} {st : List Value} {h : mh} {k n : Nat} {f : mF} (hd : decode (mCd M) pc = .ok (.l2i, len)) (hq : q_l2i len pc lv st h k n = some f) (hk : mV p l e R s m args below meth c Q B b D dA (mLx M) f) : mV p l e R s m args below meth c Q B b D dA (mLx M) (pc, lv, st, h, k, n) := by
  unfold q_l2i at hq
  split at hq
  · cases hq
    intro H locs ls hR hS hl
    exact lv_l2i E.1 E.2.1 hd rfl (hk H locs ls hR hS hl)
  · cases hq
def q_lcmp (len pc : Nat) (lv : List (Nat × Value)) (st : List Value) (h : mh) (k n : Nat) : Option mF := match len, st with
  | 1, .long y :: .long x :: r => some (pc + 1, lv, .int (lg_cmp x y) :: r, h, k, n)
  | _, _ => none
theorem o_lcmp (E : mE p R s m args meth c B D dA M) {len pc : Nat} {lv : List (Nat × Value)} {st : List Value} {h : mh} {k n : Nat} {f : mF} (hd : decode (mCd M) pc = .ok (.lcmp, len)) (hq : q_lcmp len pc lv st h k n = some f) (hk : mV p l e R s m args below meth c Q B b D dA (mLx M) f) : mV p l e R s m args below meth c Q B b D dA (mLx M) (pc, lv, st, h, k, n) := by
  unfold q_lcmp at hq
  split at hq
  · cases hq
    intro H locs ls hR hS hl
    exact W.lcmp E.1 E.2.1 hd (hk H locs ls hR hS hl)
  · cases hq
def q_dup  (len pc : Nat) (lv : List (Nat × Value)) (st : List Value) (h : mh) (k n : Nat) : Option mF := match len, st with
  | 1, v :: r => if v.category = 1 then some (pc + 1, lv, v :: v :: r, h, k, n) else none
  | _, _ => none
theorem o_dup (E : mE p R s m args meth c B D dA M)  {len pc : Nat} {lv : List (Nat × Value)} {st : List Value} {h : mh} {k n : Nat} {f : mF} (hd : decode (mCd M) pc = .ok (.dup, len)) (hq : q_dup  len pc lv st h k n = some f) (hk : mV p l e R s m args below meth c Q B b D dA (mLx M) f) : mV p l e R s m args below meth c Q B b D dA (mLx M) (pc, lv, st, h, k, n) := by
  unfold q_dup at hq
  split at hq
  · split at hq
    · rename_i hc
      cases hq
      intro H locs ls hR hS hl
      exact lv_dup E.1 E.2.1 hd (by rw [mv_cat]; exact hc) (hk H locs ls hR hS hl)
    · cases hq
  · cases hq
def q_pop  (len pc : Nat) (lv : List (Nat × Value)) (st : List Value) (h : mh) (k n : Nat) : Option mF := match len, st with
  | 1, v :: r => if v.category = 1 then some (pc + 1, lv, r, h, k, n) else none
  | _, _ => none
theorem o_pop (E : mE p R s m args meth c B D dA M)  {len pc : Nat} {lv : List (Nat × Value)} {st : List Value} {h : mh} {k n : Nat} {f : mF} (hd : decode (mCd M) pc = .ok (.pop, len)) (hq : q_pop  len pc lv st h k n = some f) (hk : mV p l e R s m args below meth c Q B b D dA (mLx M) f) : mV p l e R s m args below meth c Q B b D dA (mLx M) (pc, lv, st, h, k, n) := by
  unfold q_pop at hq
  split at hq
  · split at hq
    · rename_i hc
      cases hq
      intro H locs ls hR hS hl
      exact lv_pop E.1 E.2.1 hd (by rw [mv_cat]; exact hc) (hk H locs ls hR hS hl)
    · cases hq
  · cases hq
def q_pop2  (len pc : Nat) (lv : List (Nat × Value)) (st : List Value) (h : mh) (k n : Nat) : Option mF := match len, st with
  | 1, .long v :: r => some (pc + 1, lv, r, h, k, n)
  | _, _ => none
theorem o_pop2 (E : mE p R s m args meth c B D dA M)  {len pc : Nat} {lv : List (Nat × Value)} {st : List Value} {h : mh} {k n : Nat} {f : mF} (hd : decode (mCd M) pc = .ok (.pop2, len)) (hq : q_pop2  len pc lv st h k n = some f) (hk : mV p l e R s m args below meth c Q B b D dA (mLx M) f) : mV p l e R s m args below meth c Q B b D dA (mLx M) (pc, lv, st, h, k, n) := by
  unfold q_pop2 at hq
  split at hq
  · cases hq
    intro H locs ls hR hS hl
    exact lv_pop2_2 E.1 E.2.1 hd rfl (hk H locs ls hR hS hl)
  · cases hq
def q_dup2  (len pc : Nat) (lv : List (Nat × Value)) (st : List Value) (h : mh) (k n : Nat) : Option mF := match len, st with
  | 1, .long v :: r => some (pc + 1, lv, .long v :: .long v :: r, h, k, n)
  | 1, .int v :: u :: r => if u.category = 1 then some (pc + 1, lv, .int v :: u :: .int v :: u :: r, h, k, n) else none
  | _, _ => none
theorem o_dup2 (E : mE p R s m args meth c B D dA M)  {len pc : Nat} {lv : List (Nat × Value)} {st : List Value} {h : mh} {k n : Nat} {f : mF} (hd : decode (mCd M) pc = .ok (.dup2, len)) (hq : q_dup2  len pc lv st h k n = some f) (hk : mV p l e R s m args below meth c Q B b D dA (mLx M) f) : mV p l e R s m args below meth c Q B b D dA (mLx M) (pc, lv, st, h, k, n) := by
  unfold q_dup2 at hq
  split at hq
  · cases hq
    intro H locs ls hR hS hl
    exact lv_dup2_2 E.1 E.2.1 hd rfl (hk H locs ls hR hS hl)
  · split at hq
    · rename_i hc
      cases hq
      intro H locs ls hR hS hl
      exact lv_dup2_11 E.1 E.2.1 hd rfl (by rw [mv_cat]; exact hc) (hk H locs ls hR hS hl)
    · cases hq
  · cases hq
def q_iconst (i : Int) (len pc : Nat) (lv : List (Nat × Value)) (st : List Value) (h : mh) (k n : Nat) : Option mF := if len = 1 then some (pc + 1, lv, .int (Int32.ofInt i) :: st, h, k, n) else none
theorem o_iconst (E : mE p R s m args meth c B D dA M) {i : Int} {len pc : Nat} {lv : List (Nat × Value)} {st : List Value} {h : mh} {k n : Nat} {f : mF} (hd : decode (mCd M) pc = .ok (.iconst i, len)) (hq : q_iconst i len pc lv st h k n = some f) (hk : mV p l e R s m args below meth c Q B b D dA (mLx M) f) : mV p l e R s m args below meth c Q B b D dA (mLx M) (pc, lv, st, h, k, n) := by
  unfold q_iconst at hq
  split at hq
  · rename_i hc
    subst hc
    cases hq
    intro H locs ls hR hS hl
    exact lv_iconst E.1 E.2.1 hd rfl (hk H locs ls hR hS hl)
  · cases hq
def q_bipush (i : Int) (len pc : Nat) (lv : List (Nat × Value)) (st : List Value) (h : mh) (k n : Nat) : Option mF := if len = 2 then some (pc + 2, lv, .int (Int8.ofInt i).toInt32 :: st, h, k, n) else none
theorem o_bipush (E : mE p R s m args meth c B D dA M) {i : Int} {len pc : Nat} {lv : List (Nat × Value)} {st : List Value} {h : mh} {k n : Nat} {f : mF} (hd : decode (mCd M) pc = .ok (.bipush i, len)) (hq : q_bipush i len pc lv st h k n = some f) (hk : mV p l e R s m args below meth c Q B b D dA (mLx M) f) : mV p l e R s m args below meth c Q B b D dA (mLx M) (pc, lv, st, h, k, n) := by
  unfold q_bipush at hq
  split at hq
  · rename_i hc
    subst hc
    cases hq
    intro H locs ls hR hS hl
    exact lv_bipush E.1 E.2.1 hd rfl (hk H locs ls hR hS hl)
  · cases hq
def q_sipush (i : Int) (len pc : Nat) (lv : List (Nat × Value)) (st : List Value) (h : mh) (k n : Nat) : Option mF := if len = 3 then some (pc + 3, lv, .int (Int16.ofInt i).toInt32 :: st, h, k, n) else none
theorem o_sipush (E : mE p R s m args meth c B D dA M) {i : Int} {len pc : Nat} {lv : List (Nat × Value)} {st : List Value} {h : mh} {k n : Nat} {f : mF} (hd : decode (mCd M) pc = .ok (.sipush i, len)) (hq : q_sipush i len pc lv st h k n = some f) (hk : mV p l e R s m args below meth c Q B b D dA (mLx M) f) : mV p l e R s m args below meth c Q B b D dA (mLx M) (pc, lv, st, h, k, n) := by
  unfold q_sipush at hq
  split at hq
  · rename_i hc
    subst hc
    cases hq
    intro H locs ls hR hS hl
    exact lv_sipush E.1 E.2.1 hd rfl (hk H locs ls hR hS hl)
  · cases hq
def q_lconst (i : Fin 2) (len pc : Nat) (lv : List (Nat × Value)) (st : List Value) (h : mh) (k n : Nat) : Option mF := if len = 1 then some (pc + 1, lv, .long (Int64.ofNat (i : Nat)) :: st, h, k, n) else none
theorem o_lconst (E : mE p R s m args meth c B D dA M) {i : Fin 2} {len pc : Nat} {lv : List (Nat × Value)} {st : List Value} {h : mh} {k n : Nat} {f : mF} (hd : decode (mCd M) pc = .ok (.lconst i, len)) (hq : q_lconst i len pc lv st h k n = some f) (hk : mV p l e R s m args below meth c Q B b D dA (mLx M) f) : mV p l e R s m args below meth c Q B b D dA (mLx M) (pc, lv, st, h, k, n) := by
  unfold q_lconst at hq
  split at hq
  · rename_i hc
    subst hc
    cases hq
    intro H locs ls hR hS hl
    exact lv_lconst E.1 E.2.1 hd rfl (hk H locs ls hR hS hl)
  · cases hq
def q_iload (i : Nat) (len pc : Nat) (lv : List (Nat × Value)) (st : List Value) (h : mh) (k n : Nat) : Option mF := match len, lget lv i with
  | 2, some (.int x) => some (pc + 2, lv, .int x :: st, h, k, n)
  | _, _ => none
theorem o_iload (E : mE p R s m args meth c B D dA M) {i : Nat} {len pc : Nat} {lv : List (Nat × Value)} {st : List Value} {h : mh} {k n : Nat} {f : mF} (hd : decode (mCd M) pc = .ok (.iload i, len)) (hq : q_iload i len pc lv st h k n = some f) (hk : mV p l e R s m args below meth c Q B b D dA (mLx M) f) : mV p l e R s m args below meth c Q B b D dA (mLx M) (pc, lv, st, h, k, n) := by
  unfold q_iload at hq
  split at hq
  · rename_i hc
    cases hq
    intro H locs ls hR hS hl
    exact lv_iload E.1 E.2.1 hd (lget_at hl hc) (hk H locs ls hR hS hl)
  · cases hq
def q_iload_n (i : Fin 4) (len pc : Nat) (lv : List (Nat × Value)) (st : List Value) (h : mh) (k n : Nat) : Option mF := match len, lget lv (i : Nat) with
  | 1, some (.int x) => some (pc + 1, lv, .int x :: st, h, k, n)
  | _, _ => none
theorem o_iload_n (E : mE p R s m args meth c B D dA M) {i : Fin 4} {len pc : Nat} {lv : List (Nat × Value)} {st : List Value} {h : mh} {k n : Nat} {f : mF} (hd : decode (mCd M) pc = .ok (.iload_n i, len)) (hq : q_iload_n i len pc lv st h k n = some f) (hk : mV p l e R s m args below meth c Q B b D dA (mLx M) f) : mV p l e R s m args below meth c Q B b D dA (mLx M) (pc, lv, st, h, k, n) := by
  unfold q_iload_n at hq
  split at hq
  · rename_i hc
    cases hq
    intro H locs ls hR hS hl
    exact lv_iload_n E.1 E.2.1 hd rfl (lget_at hl hc) (hk H locs ls hR hS hl)
  · cases hq
def q_lload (i : Nat) (len pc : Nat) (lv : List (Nat × Value)) (st : List Value) (h : mh) (k n : Nat) : Option mF := match len, lget lv i with
  | 2, some (.long x) => some (pc + 2, lv, .long x :: st, h, k, n)
  | _, _ => none
theorem o_lload (E : mE p R s m args meth c B D dA M) {i : Nat} {len pc : Nat} {lv : List (Nat × Value)} {st : List Value} {h : mh} {k n : Nat} {f : mF} (hd : decode (mCd M) pc = .ok (.lload i, len)) (hq : q_lload i len pc lv st h k n = some f) (hk : mV p l e R s m args below meth c Q B b D dA (mLx M) f) : mV p l e R s m args below meth c Q B b D dA (mLx M) (pc, lv, st, h, k, n) := by
  unfold q_lload at hq
  split at hq
  · rename_i hc
    cases hq
    intro H locs ls hR hS hl
    exact lv_lload E.1 E.2.1 hd (lget_at hl hc) (hk H locs ls hR hS hl)
  · cases hq
def q_lload_n (i : Fin 4) (len pc : Nat) (lv : List (Nat × Value)) (st : List Value) (h : mh) (k n : Nat) : Option mF := match len, lget lv (i : Nat) with
  | 1, some (.long x) => some (pc + 1, lv, .long x :: st, h, k, n)
  | _, _ => none
theorem o_lload_n (E : mE p R s m args meth c B D dA M) {i : Fin 4} {len pc : Nat} {lv : List (Nat × Value)} {st : List Value} {h : mh} {k n : Nat} {f : mF} (hd : decode (mCd M) pc = .ok (.lload_n i, len)) (hq : q_lload_n i len pc lv st h k n = some f) (hk : mV p l e R s m args below meth c Q B b D dA (mLx M) f) : mV p l e R s m args below meth c Q B b D dA (mLx M) (pc, lv, st, h, k, n) := by
  unfold q_lload_n at hq
  split at hq
  · rename_i hc
    cases hq
    intro H locs ls hR hS hl
    exact lv_lload_n E.1 E.2.1 hd rfl (lget_at hl hc) (hk H locs ls hR hS hl)
  · cases hq
def q_aload (i : Nat) (len pc : Nat) (lv : List (Nat × Value)) (st : List Value) (h : mh) (k n : Nat) : Option mF := match len, lget lv i with
  | 2, some (.ref x) => some (pc + 2, lv, .ref x :: st, h, k, n)
  | 2, some (.retAddr x) => some (pc + 2, lv, .retAddr x :: st, h, k, n)
  | _, _ => none
theorem o_aload (E : mE p R s m args meth c B D dA M) {i : Nat} {len pc : Nat} {lv : List (Nat × Value)} {st : List Value} {h : mh} {k n : Nat} {f : mF} (hd : decode (mCd M) pc = .ok (.aload i, len)) (hq : q_aload i len pc lv st h k n = some f) (hk : mV p l e R s m args below meth c Q B b D dA (mLx M) f) : mV p l e R s m args below meth c Q B b D dA (mLx M) (pc, lv, st, h, k, n) := by
  unfold q_aload at hq
  split at hq
  · rename_i hc
    cases hq
    intro H locs ls hR hS hl
    exact lv_aload E.1 E.2.1 hd (lget_at hl hc) (hk H locs ls hR hS hl)
  · rename_i hc
    cases hq
    intro H locs ls hR hS hl
    exact lv_aload E.1 E.2.1 hd (lget_at hl hc) (hk H locs ls hR hS hl)
  · cases hq
def q_aload_n (i : Fin 4) (len pc : Nat) (lv : List (Nat × Value)) (st : List Value) (h : mh) (k n : Nat) : Option mF := match len, lget lv (i : Nat) with
  | 1, some (.ref x) => some (pc + 1, lv, .ref x :: st, h, k, n)
  | 1, some (.retAddr x) => some (pc + 1, lv, .retAddr x :: st, h, k, n)
  | _, _ => none
theorem o_aload_n (E : mE p R s m args meth c B D dA M) {i : Fin 4} {len pc : Nat} {lv : List (Nat × Value)} {st : List Value} {h : mh} {k n : Nat} {f : mF} (hd : decode (mCd M) pc = .ok (.aload_n i, len)) (hq : q_aload_n i len pc lv st h k n = some f) (hk : mV p l e R s m args below meth c Q B b D dA (mLx M) f) : mV p l e R s m args below meth c Q B b D dA (mLx M) (pc, lv, st, h, k, n) := by
  unfold q_aload_n at hq
  split at hq
  · rename_i hc
    cases hq
    intro H locs ls hR hS hl
    exact lv_aload_n E.1 E.2.1 hd rfl (lget_at hl hc) (hk H locs ls hR hS hl)
  · rename_i hc
    cases hq
    intro H locs ls hR hS hl
    exact lv_aload_n E.1 E.2.1 hd rfl (lget_at hl hc) (hk H locs ls hR hS hl)
  · cases hq
def q_istore (i : Nat) (mx : Nat) (len pc : Nat) (lv : List (Nat × Value)) (st : List Value) (h : mh) (k n : Nat) : Option mF := match len, st with
  | 2, .int x :: r => if i < mx then some (pc + 2, ls1 lv i (.int x), r, h, k, n) else none
  | _, _ => none
theorem o_istore (E : mE p R s m args meth c B D dA M) {i : Nat} {len pc : Nat} {lv : List (Nat × Value)} {st : List Value} {h : mh} {k n : Nat} {f : mF} (hd : decode (mCd M) pc = .ok (.istore i, len)) (hq : q_istore i (mLx M) len pc lv st h k n = some f) (hk : mV p l e R s m args below meth c Q B b D dA (mLx M) f) : mV p l e R s m args below meth c Q B b D dA (mLx M) (pc, lv, st, h, k, n) := by
  unfold q_istore at hq
  split at hq
  · split at hq
    · rename_i x r hc
      cases hq
      intro H locs ls hR hS hl
      exact lv_istore E.1 E.2.1 hd hl hc (ls1_map (v := .int x)) (fun ls hl => hk H locs ls hR hS hl)
    · cases hq
  · cases hq
def q_istore_n (i : Fin 4) (mx : Nat) (len pc : Nat) (lv : List (Nat × Value)) (st : List Value) (h : mh) (k n : Nat) : Option mF := match len, st with
  | 1, .int x :: r => if (i : Nat) < mx then some (pc + 1, ls1 lv (i : Nat) (.int x), r, h, k, n) else none
  | _, _ => none
theorem o_istore_n (E : mE p R s m args meth c B D dA M) {i : Fin 4} {len pc : Nat} {lv : List (Nat × Value)} {st : List Value} {h : mh} {k n : Nat} {f : mF} (hd : decode (mCd M) pc = .ok (.istore_n i, len)) (hq : q_istore_n i (mLx M) len pc lv st h k n = some f) (hk : mV p l e R s m args below meth c Q B b D dA (mLx M) f) : mV p l e R s m args below meth c Q B b D dA (mLx M) (pc, lv, st, h, k, n) := by
  unfold q_istore_n at hq
  split at hq
  · split at hq
    · rename_i x r hc
      cases hq
      intro H locs ls hR hS hl
      exact lv_istore_n E.1 E.2.1 hd rfl hl hc (ls1_map (v := .int x)) (fun ls hl => hk H locs ls hR hS hl)
    · cases hq
  · cases hq
def q_lstore (i : Nat) (mx : Nat) (len pc : Nat) (lv : List (Nat × Value)) (st : List Value) (h : mh) (k n : Nat) : Option mF := match len, st with
  | 2, .long x :: r => if i + 1 < mx then some (pc + 2, ls2 lv i (.long x), r, h, k, n) else none
  | _, _ => none
theorem o_lstore (E : mE p R s m args meth c B D dA M) {i : Nat} {len pc : Nat} {lv : List (Nat × Value)} {st : List Value} {h : mh} {k n : Nat} {f : mF} (hd : decode (mCd M) pc = .ok (.lstore i, len)) (hq : q_lstore i (mLx M) len pc lv st h k n = some f) (hk : mV p l e R s m args below meth c Q B b D dA (mLx M) f) : mV p l e R s m args below meth c Q B b D dA (mLx M) (pc, lv, st, h, k, n) := by
  unfold q_lstore at hq
  split at hq
  · split at hq
    · rename_i x r hc
      cases hq
      intro H locs ls hR hS hl
      exact lv_lstore E.1 E.2.1 hd hl hc (ls2_map (v := .long x)) (fun ls hl => hk H locs ls hR hS hl)
    · cases hq
  · cases hq
def q_lstore_n (i : Fin 4) (mx : Nat) (len pc : Nat) (lv : List (Nat × Value)) (st : List Value) (h : mh) (k n : Nat) : Option mF := match len, st with
  | 1, .long x :: r => if (i : Nat) + 1 < mx then some (pc + 1, ls2 lv (i : Nat) (.long x), r, h, k, n) else none
  | _, _ => none
theorem o_lstore_n (E : mE p R s m args meth c B D dA M) {i : Fin 4} {len pc : Nat} {lv : List (Nat × Value)} {st : List Value} {h : mh} {k n : Nat} {f : mF} (hd : decode (mCd M) pc = .ok (.lstore_n i, len)) (hq : q_lstore_n i (mLx M) len pc lv st h k n = some f) (hk : mV p l e R s m args below meth c Q B b D dA (mLx M) f) : mV p l e R s m args below meth c Q B b D dA (mLx M) (pc, lv, st, h, k, n) := by
  unfold q_lstore_n at hq
  split at hq
  · split at hq
    · rename_i x r hc
      cases hq
      intro H locs ls hR hS hl
      exact lv_lstore_n E.1 E.2.1 hd rfl hl hc (ls2_map (v := .long x)) (fun ls hl => hk H locs ls hR hS hl)
    · cases hq
  · cases hq
def q_astore (i : Nat) (mx : Nat) (len pc : Nat) (lv : List (Nat × Value)) (st : List Value) (h : mh) (k n : Nat) : Option mF := match len, st with
  | 2, .ref x :: r => if i < mx then some (pc + 2, ls1 lv i (.ref x), r, h, k, n) else none
  | _, _ => none
theorem o_astore (E : mE p R s m args meth c B D dA M) {i : Nat} {len pc : Nat} {lv : List (Nat × Value)} {st : List Value} {h : mh} {k n : Nat} {f : mF} (hd : decode (mCd M) pc = .ok (.astore i, len)) (hq : q_astore i (mLx M) len pc lv st h k n = some f) (hk : mV p l e R s m args below meth c Q B b D dA (mLx M) f) : mV p l e R s m args below meth c Q B b D dA (mLx M) (pc, lv, st, h, k, n) := by
  unfold q_astore at hq
  split at hq
  · split at hq
    · rename_i x r hc
      cases hq
      intro H locs ls hR hS hl
      exact lv_astore E.1 E.2.1 hd hl hc (ls1_map (v := .ref x)) (fun ls hl => hk H locs ls hR hS hl)
    · cases hq
  · cases hq
def q_astore_n (i : Fin 4) (mx : Nat) (len pc : Nat) (lv : List (Nat × Value)) (st : List Value) (h : mh) (k n : Nat) : Option mF := match len, st with
  | 1, .ref x :: r => if (i : Nat) < mx then some (pc + 1, ls1 lv (i : Nat) (.ref x), r, h, k, n) else none
  | _, _ => none
theorem o_astore_n (E : mE p R s m args meth c B D dA M) {i : Fin 4} {len pc : Nat} {lv : List (Nat × Value)} {st : List Value} {h : mh} {k n : Nat} {f : mF} (hd : decode (mCd M) pc = .ok (.astore_n i, len)) (hq : q_astore_n i (mLx M) len pc lv st h k n = some f) (hk : mV p l e R s m args below meth c Q B b D dA (mLx M) f) : mV p l e R s m args below meth c Q B b D dA (mLx M) (pc, lv, st, h, k, n) := by
  unfold q_astore_n at hq
  split at hq
  · split at hq
    · rename_i x r hc
      cases hq
      intro H locs ls hR hS hl
      exact lv_astore_n E.1 E.2.1 hd rfl hl hc (ls1_map (v := .ref x)) (fun ls hl => hk H locs ls hR hS hl)
    · cases hq
  · cases hq
def q_iinc (i : Nat) (d : Int) (mx : Nat) (len pc : Nat) (lv : List (Nat × Value)) (st : List Value) (h : mh) (k n : Nat) : Option mF := match len, lget lv i with
  | 3, some (.int x) => if i < mx then some (pc + 3, ls1 lv i (.int (x + Int32.ofInt d)), st, h, k, n) else none
  | _, _ => none
theorem o_iinc (E : mE p R s m args meth c B D dA M) {i : Nat} {d : Int} {len pc : Nat} {lv : List (Nat × Value)} {st : List Value} {h : mh} {k n : Nat} {f : mF} (hd : decode (mCd M) pc = .ok (.iinc i d, len)) (hq : q_iinc i d (mLx M) len pc lv st h k n = some f) (hk : mV p l e R s m args below meth c Q B b D dA (mLx M) f) : mV p l e R s m args below meth c Q B b D dA (mLx M) (pc, lv, st, h, k, n) := by
  unfold q_iinc at hq
  split at hq
  · rename_i x hg
    split at hq
    · rename_i hc
      cases hq
      intro H locs ls hR hS hl
      obtain ⟨j, hj⟩ := lget_ix (B := B) (b := b) hg
      exact lv_iinc E.1 E.2.1 hd hl hj rfl hc (ls1_map (v := .int (x + Int32.ofInt d))) (fun ls hl => hk H locs ls hR hS hl)
    · cases hq
  · cases hq
def q_if_eq (d : Int) (len pc : Nat) (lv : List (Nat × Value)) (st : List Value) (h : mh) (k n : Nat) : Option mF := match len, st with
  | 3, .int x :: r => if (pc : Int) + d < 0 then none else if x = 0 then some (((pc : Int) + d).toNat, lv, r, h, k, n) else some (pc + 3, lv, r, h, k, n)
  | _, _ => none
theorem o_if_eq (E : mE p R s m args meth c B D dA M) {d : Int} {len pc : Nat} {lv : List (Nat × Value)} {st : List Value} {h : mh} {k n : Nat} {f : mF} (hd : decode (mCd M) pc = .ok (.ifCond .eq d, len)) (hq : q_if_eq d len pc lv st h k n = some f) (hk : mV p l e R s m args below meth c Q B b D dA (mLx M) f) : mV p l e R s m args below meth c Q B b D dA (mLx M) (pc, lv, st, h, k, n) := by
  unfold q_if_eq at hq
  split at hq
  · split at hq
    · cases hq
    · intro H locs ls hR hS hl
      refine lv_if_eq (tgt := ((pc : Int) + d).toNat) E.1 E.2.1 hd (by omega) (fun hc => ?_) (fun hc => ?_)
      · rw [if_pos hc] at hq
        cases hq
        exact hk H locs ls hR hS hl
      · rw [if_neg hc] at hq
        cases hq
        exact hk H locs ls hR hS hl
  · cases hq
def q_icmp_eq (d : Int) (len pc : Nat) (lv : List (Nat × Value)) (st : List Value) (h : mh) (k n : Nat) : Option mF := match len, st with
  | 3, .int y :: .int x :: r => if (pc : Int) + d < 0 then none else if x = y then some (((pc : Int) + d).toNat, lv, r, h, k, n) else some (pc + 3, lv, r, h, k, n)
  | _, _ => none
theorem o_icmp_eq (E : mE p R s m args meth c B D dA M) {d : Int} {len pc : Nat} {lv : List (Nat × Value)} {st : List Value} {h : mh} {k n : Nat} {f : mF} (hd : decode (mCd M) pc = .ok (.if_icmp .eq d, len)) (hq : q_icmp_eq d len pc lv st h k n = some f) (hk : mV p l e R s m args below meth c Q B b D dA (mLx M) f) : mV p l e R s m args below meth c Q B b D dA (mLx M) (pc, lv, st, h, k, n) := by
  unfold q_icmp_eq at hq
  split at hq
  · split at hq
    · cases hq
    · intro H locs ls hR hS hl
      refine lv_icmp_eq (tgt := ((pc : Int) + d).toNat) E.1 E.2.1 hd (by omega) (fun hc => ?_) (fun hc => ?_)
      · rw [if_pos hc] at hq
        cases hq
        exact hk H locs ls hR hS hl
      · rw [if_neg hc] at hq
        cases hq
        exact hk H locs ls hR hS hl
  · cases hq
def q_if_ne (d : Int) (len pc : Nat) (lv : List (Nat × Value)) (st : List Value) (h : mh) (k n : Nat) : Option mF := match len, st with
  | 3, .int x :: r => if (pc : Int) + d < 0 then none else if x = 0 then some (pc + 3, lv, r, h, k, n) else some (((pc : Int) + d).toNat, lv, r, h, k, n)
  | _, _ => none
theorem o_if_ne (E : mE p R s m args meth c B D dA M) {d : Int} {len pc : Nat} {lv : List (Nat × Value)} {st : List Value} {h : mh} {k n : Nat} {f : mF} (hd : decode (mCd M) pc = .ok (.ifCond .ne d, len)) (hq : q_if_ne d len pc lv st h k n = some f) (hk : mV p l e R s m args below meth c Q B b D dA (mLx M) f) : mV p l e R s m args below meth c Q B b D dA (mLx M) (pc, lv, st, h, k, n) := by
  unfold q_if_ne at hq
  split at hq
  · split at hq
    · cases hq
    · intro H locs ls hR hS hl
      refine lv_if_ne (tgt := ((pc : Int) + d).toNat) E.1 E.2.1 hd (by omega) (fun hc => ?_) (fun hc => ?_)
      · rw [if_neg hc] at hq
        cases hq
        exact hk H locs ls hR hS hl
      · rw [if_pos hc] at hq
        cases hq
        exact hk H locs ls hR hS hl
  · cases hq
def q_icmp_ne (d : Int) (len pc : Nat) (lv : List (Nat × Value)) (st : List Value) (h : mh) (k n : Nat) : Option mF := match len, st with
  | 3, .int y :: .int x :: r => if (pc : Int) + d < 0 then none else if x = y then some (pc + 3, lv, r, h, k, n) else some (((pc : Int) + d).toNat, lv, r, h, k, n)
  | _, _ => none
theorem o_icmp_ne (E : mE p R s m args meth c B D dA M) {d : Int} {len pc : Nat} {lv : List (Nat × Value)} {st : List Value} {h : mh} {k n : Nat} {f : mF} (hd : decode (mCd M) pc = .ok (.if_icmp .ne d, len)) (hq : q_icmp_ne d len pc lv st h k n = some f) (hk : mV p l e R s m args below meth c Q B b D dA (mLx M) f) : mV p l e R s m args below meth c Q B b D dA (mLx M) (pc, lv, st, h, k, n) := by
  unfold q_icmp_ne at hq
  split at hq
  · split at hq
    · cases hq
    · intro H locs ls hR hS hl
      refine lv_icmp_ne (tgt := ((pc : Int) + d).toNat) E.1 E.2.1 hd (by omega) (fun hc => ?_) (fun hc => ?_)
      · rw [if_neg hc] at hq
        cases hq
        exact hk H locs ls hR hS hl
      · rw [if_pos hc] at hq
        cases hq
        exact hk H locs ls hR hS hl
  · cases hq
def q_if_lt (d : Int) (len pc : Nat) (lv : List (Nat × Value)) (st : List Value) (h : mh) (k n : Nat) : Option mF := match len, st with
  | 3, .int x :: r => if (pc : Int) + d < 0 then none else if x < 0 then some (((pc : Int) + d).toNat, lv, r, h, k, n) else some (pc + 3, lv, r, h, k, n)
  | _, _ => none
theorem o_if_lt (E : mE p R s m args meth c B D dA M) {d : Int} {len pc : Nat} {lv : List (Nat × Value)} {st : List Value} {h : mh} {k n : Nat} {f : mF} (hd : decode (mCd M) pc = .ok (.ifCond .lt d, len)) (hq : q_if_lt d len pc lv st h k n = some f) (hk : mV p l e R s m args below meth c Q B b D dA (mLx M) f) : mV p l e R s m args below meth c Q B b D dA (mLx M) (pc, lv, st, h, k, n) := by
  unfold q_if_lt at hq
  split at hq
  · split at hq
    · cases hq
    · intro H locs ls hR hS hl
      refine lv_if_lt (tgt := ((pc : Int) + d).toNat) E.1 E.2.1 hd (by omega) (fun hc => ?_) (fun hc => ?_)
      · rw [if_pos hc] at hq
        cases hq
        exact hk H locs ls hR hS hl
      · rw [if_neg hc] at hq
        cases hq
        exact hk H locs ls hR hS hl
  · cases hq
def q_icmp_lt (d : Int) (len pc : Nat) (lv : List (Nat × Value)) (st : List Value) (h : mh) (k n : Nat) : Option mF := match len, st with
  | 3, .int y :: .int x :: r => if (pc : Int) + d < 0 then none else if x < y then some (((pc : Int) + d).toNat, lv, r, h, k, n) else some (pc + 3, lv, r, h, k, n)
  | _, _ => none
theorem o_icmp_lt (E : mE p R s m args meth c B D dA M) {d : Int} {len pc : Nat} {lv : List (Nat × Value)} {st : List Value} {h : mh} {k n : Nat} {f : mF} (hd : decode (mCd M) pc = .ok (.if_icmp .lt d, len)) (hq : q_icmp_lt d len pc lv st h k n = some f) (hk : mV p l e R s m args below meth c Q B b D dA (mLx M) f) : mV p l e R s m args below meth c Q B b D dA (mLx M) (pc, lv, st, h, k, n) := by
  unfold q_icmp_lt at hq
  split at hq
  · split at hq
    · cases hq
    · intro H locs ls hR hS hl
      refine lv_icmp_lt (tgt := ((pc : Int) + d).toNat) E.1 E.2.1 hd (by omega) (fun hc => ?_) (fun hc => ?_)
      · rw [if_pos hc] at hq
        cases hq
        exact hk H locs ls hR hS hl
      · rw [if_neg hc] at hq
        cases hq
        exact hk H locs ls hR hS hl
  · cases hq
def q_if_ge (d : Int) (len pc : Nat) (lv : List (Nat × Value)) (st : List Value) (h : mh) (k n : Nat) : Option mF := match len, st with
  | 3, .int x :: r => if (pc : Int) + d < 0 then none else if 0 ≤ x then some (((pc : Int) + d).toNat, lv, r, h, k, n) else some (pc + 3, lv, r, h, k, n)
  | _, _ => none
theorem o_if_ge (E : mE p R s m args meth c B D dA M) {d : Int} {len pc : Nat} {lv : List (Nat × Value)} {st : List Value} {h : mh} {k n : Nat} {f : mF} (hd : decode (mCd M) pc = .ok (.ifCond .ge d, len)) (hq : q_if_ge d len pc lv st h k n = some f) (hk : mV p l e R s m args below meth c Q B b D dA (mLx M) f) : mV p l e R s m args below meth c Q B b D dA (mLx M) (pc, lv, st, h, k, n) := by
  unfold q_if_ge at hq
  split at hq
  · split at hq
    · cases hq
    · intro H locs ls hR hS hl
      refine lv_if_ge (tgt := ((pc : Int) + d).toNat) E.1 E.2.1 hd (by omega) (fun hc => ?_) (fun hc => ?_)
      · rw [if_pos hc] at hq
        cases hq
        exact hk H locs ls hR hS hl
      · rw [if_neg hc] at hq
        cases hq
        exact hk H locs ls hR hS hl
  · cases hq
def q_icmp_ge (d : Int) (len pc : Nat) (lv : List (Nat × Value)) (st : List Value) (h : mh) (k n : Nat) : Option mF := match len, st with
  | 3, .int y :: .int x :: r => if (pc : Int) + d < 0 then none else if y ≤ x then some (((pc : Int) + d).toNat, lv, r, h, k, n) else some (pc + 3, lv, r, h, k, n)
  | _, _ => none
theorem o_icmp_ge (E : mE p R s m args meth c B D dA M) {d : Int} {len pc : Nat} {lv : List (Nat × Value)} {st : List Value} {h : mh} {k n : Nat} {f : mF} (hd : decode (mCd M) pc = .ok (.if_icmp .ge d, len)) (hq : q_icmp_ge d len pc lv st h k n = some f) (hk : mV p l e R s m args below meth c Q B b D dA (mLx M) f) : mV p l e R s m args below meth c Q B b D dA (mLx M) (pc, lv, st, h, k, n) := by
  unfold q_icmp_ge at hq
  split at hq
  · split at hq
    · cases hq
    · intro H locs ls hR hS hl
      refine lv_icmp_ge (tgt := ((pc : Int) + d).toNat) E.1 E.2.1 hd (by omega) (fun hc => ?_) (fun hc => ?_)
      · rw [if_pos hc] at hq
        cases hq
        exact hk H locs ls hR hS hl
      · rw [if_neg hc] at hq
        cases hq
        exact hk H locs ls hR hS hl
  · cases hq
def q_if_gt (d : Int) (len pc : Nat) (lv : List (Nat × Value)) (st : List Value) (h : mh) (k n : Nat) : Option mF := match len, st with
  | 3, .int x :: r => if (pc : Int) + d < 0 then none else if 0 < x then some (((pc : Int) + d).toNat, lv, r, h, k, n) else some (pc + 3, lv, r, h, k, n)
  | _, _ => none
theorem o_if_gt (E : mE p R s m args meth c B D dA M) {d : Int} {len pc : Nat} {lv : List (Nat × Value)} {st : List Value} {h : mh} {k n : Nat} {f : mF} (hd : decode (mCd M) pc = .ok (.ifCond .gt d, len)) (hq : q_if_gt d len pc lv st h k n = some f) (hk : mV p l e R s m args below meth c Q B b D dA (mLx M) f) : mV p l e R s m args below meth c Q B b D dA (mLx M) (pc, lv, st, h, k, n) := by
  unfold q_if_gt at hq
  split at hq
  · split at hq
    · cases hq
    · intro H locs ls hR hS hl
      refine lv_if_gt (tgt := ((pc : Int) + d).toNat) E.1 E.2.1 hd (by omega) (fun hc => ?_) (fun hc => ?_)
      · rw [if_pos hc] at hq
        cases hq
        exact hk H locs ls hR hS hl
      · rw [if_neg hc] at hq
        cases hq
        exact hk H locs ls hR hS hl
  · cases hq
def q_icmp_gt (d : Int) (len pc : Nat) (lv : List (Nat × Value)) (st : List Value) (h : mh) (k n : Nat) : Option mF := match len, st with
  | 3, .int y :: .int x :: r => if (pc : Int) + d < 0 then none else if y < x then some (((pc : Int) + d).toNat, lv, r, h, k, n) else some (pc + 3, lv, r, h, k, n)
  | _, _ => none
theorem o_icmp_gt (E : mE p R s m args meth c B D dA M) {d : Int} {len pc : Nat} {lv : List (Nat × Value)} {st : List Value} {h : mh} {k n : Nat} {f : mF} (hd : decode (mCd M) pc = .ok (.if_icmp .gt d, len)) (hq : q_icmp_gt d len pc lv st h k n = some f) (hk : mV p l e R s m args below meth c Q B b D dA (mLx M) f) : mV p l e R s m args below meth c Q B b D dA (mLx M) (pc, lv, st, h, k, n) := by
  unfold q_icmp_gt at hq
  split at hq
  · split at hq
    · cases hq
    · intro H locs ls hR hS hl
      refine lv_icmp_gt (tgt := ((pc : Int) + d).toNat) E.1 E.2.1 hd (by omega) (fun hc => ?_) (fun hc => ?_)
      · rw [if_pos hc] at hq
        cases hq
        exact hk H locs ls hR hS hl
      · rw [if_neg hc] at hq
        cases hq
        exact hk H locs ls hR hS hl
  · cases hq
def q_if_le (d : Int) (len pc : Nat) (lv : List (Nat × Value)) (st : List Value) (h : mh) (k n : Nat) : Option mF := match len, st with
  | 3, .int x :: r => if (pc : Int) + d < 0 then none else if x ≤ 0 then some (((pc : Int) + d).toNat, lv, r, h, k, n) else some (pc + 3, lv, r, h, k, n)
  | _, _ => none
theorem o_if_le (E : mE p R s m args meth c B D dA M) {d : Int} {len pc : Nat} {lv : List (Nat × Value)} {st : List Value} {h : mh} {k n : Nat} {f : mF} (hd : decode (mCd M) pc = .ok (.ifCond .le d, len)) (hq : q_if_le d len pc lv st h k n = some f) (hk : mV p l e R s m args below meth c Q B b D dA (mLx M) f) : mV p l e R s m args below meth c Q B b D dA (mLx M) (pc, lv, st, h, k, n) := by
  unfold q_if_le at hq
  split at hq
  · split at hq
    · cases hq
    · intro H locs ls hR hS hl
      refine lv_if_le (tgt := ((pc : Int) + d).toNat) E.1 E.2.1 hd (by omega) (fun hc => ?_) (fun hc => ?_)
      · rw [if_pos hc] at hq
        cases hq
        exact hk H locs ls hR hS hl
      · rw [if_neg hc] at hq
        cases hq
        exact hk H locs ls hR hS hl
  · cases hq
def q_icmp_le (d : Int) (len pc : Nat) (lv : List (Nat × Value)) (st : List Value) (h : mh) (k n : Nat) : Option mF := match len, st with
  | 3, .int y :: .int x :: r => if (pc : Int) + d < 0 then none else if x ≤ y then some (((pc : Int) + d).toNat, lv, r, h, k, n) else some (pc + 3, lv, r, h, k, n)
  | _, _ => none
theorem o_icmp_le (E : mE p R s m args meth c B D dA M) {d : Int} {len pc : Nat} {lv : List (Nat × Value)} {st : List Value} {h : mh} {k n : Nat} {f : mF} (hd : decode (mCd M) pc = .ok (.if_icmp .le d, len)) (hq : q_icmp_le d len pc lv st h k n = some f) (hk : mV p l e R s m args below meth c Q B b D dA (mLx M) f) : mV p l e R s m args below meth c Q B b D dA (mLx M) (pc, lv, st, h, k, n) := by
  unfold q_icmp_le at hq
  split at hq
  · split at hq
    · cases hq
    · intro H locs ls hR hS hl
      refine lv_icmp_le (tgt := ((pc : Int) + d).toNat) E.1 E.2.1 hd (by omega) (fun hc => ?_) (fun hc => ?_)
      · rw [if_pos hc] at hq
        cases hq
        exact hk H locs ls hR hS hl
      · rw [if_neg hc] at hq
        cases hq
        exact hk H locs ls hR hS hl
  · cases hq
def q_goto (d : Int) (len pc : Nat) (lv : List (Nat × Value)) (st : List Value) (h : mh) (k n : Nat) : Option mF := if len = 3 then (if (pc : Int) + d < 0 then none else some (((pc : Int) + d).toNat, lv, st, h, k, n)) else none
theorem o_goto (E : mE p R s m args meth c B D dA M) {d : Int} {len pc : Nat} {lv : List (Nat × Value)} {st : List Value} {h : mh} {k n : Nat} {f : mF} (hd : decode (mCd M) pc = .ok (.goto d, len)) (hq : q_goto d len pc lv st h k n = some f) (hk : mV p l e R s m args below meth c Q B b D dA (mLx M) f) : mV p l e R s m args below meth c Q B b D dA (mLx M) (pc, lv, st, h, k, n) := by
  unfold q_goto at hq
  split at hq
  · rename_i hc
    subst hc
    split at hq
    · cases hq
    · cases hq
      intro H locs ls hR hS hl
      exact lv_goto (tgt := ((pc : Int) + d).toNat) E.1 E.2.1 hd (by omega) (hk H locs ls hR hS hl)
  · cases hq
def q_tabsw (df lo hi : Int) (offs : Array Int) (len pc : Nat) (lv : List (Nat × Value)) (st : List Value) (h : mh) (k n : Nat) : Option mF := match st with
  | .int x :: r => if x.toInt < lo ∨ hi < x.toInt then (if (pc : Int) + df < 0 then none else some (((pc : Int) + df).toNat, lv, r, h, k, n)) else (match offs[(x.toInt - lo).toNat]? with
    | some d => if (pc : Int) + d < 0 then none else some (((pc : Int) + d).toNat, lv, r, h, k, n)
    | none => none)
  | _ => none
theorem o_tabsw (E : mE p R s m args meth c B D dA M) {df lo hi : Int} {offs : Array Int} {len pc : Nat} {lv : List (Nat × Value)} {st : List Value} {h : mh} {k n : Nat} {f : mF} (hd : decode (mCd M) pc = .ok (.tableswitch df lo hi offs, len)) (hq : q_tabsw df lo hi offs len pc lv st h k n = some f) (hk : mV p l e R s m args below meth c Q B b D dA (mLx M) f) : mV p l e R s m args below meth c Q B b D dA (mLx M) (pc, lv, st, h, k, n) := by
  unfold q_tabsw at hq
  split at hq
  · split at hq
    · rename_i hc
      split at hq
      · cases hq
      · cases hq
        intro H locs ls hR hS hl
        exact lv_tableOut (tgt := ((pc : Int) + df).toNat) E.1 E.2.1 hd hc (by omega) (hk H locs ls hR hS hl)
    · rename_i hc
      split at hq
      · rename_i d hd2
        split at hq
        · cases hq
        · cases hq
          intro H locs ls hR hS hl
          exact lv_tableIn (tgt := ((pc : Int) + d).toNat) E.1 E.2.1 hd (fun z => hc (Or.inl z)) (fun z => hc (Or.inr z)) hd2 (by omega) (hk H locs ls hR hS hl)
      · cases hq
  · cases hq
end MV
