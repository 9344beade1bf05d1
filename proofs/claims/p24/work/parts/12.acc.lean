theorem bsm {α β : Type} {x : Option α} {f : α → Option β} {b : β} (h : x.bind f = some b) : ∃ a, x = some a ∧ f a = some b := Option.bind_eq_some_iff.mp h
/-- the fields of an object of class ci at place a -/
def kO (h : mh) (a ci : Nat) : Option (List Value) := match h[a]? with
  | some (.inr (c, fs)) => if c = ci then some fs else none
  | _ => none
theorem kO_at {h : mh} {a ci : Nat} {fs : List Value} (hk : kO h a ci = some fs) : h[a]? = some (.inr (ci, fs)) := by
  unfold kO at hk
  split at hk
  · rename_i c fs' ha
    split at hk
    · rename_i hc
      cases hk
      rw [ha, hc]
    · cases hk
  · cases hk
def vI (v : Option Value) : Option Int32 := match v with
  | some (.int x) => some x
  | _ => none
def vJ (v : Option Value) : Option Int64 := match v with
  | some (.long x) => some x
  | _ => none
def vR (v : Option Value) : Option Nat := match v with
  | some (.ref x) => some x
  | _ => none
theorem vI_at {v : Option Value} {x : Int32} (h : vI v = some x) : v = some (.int x) := by
  unfold vI at h
  split at h
  · cases h; rfl
  · cases h
theorem vJ_at {v : Option Value} {x : Int64} (h : vJ v = some x) : v = some (.long x) := by
  unfold vJ at h
  split at h
  · cases h; rfl
  · cases h
theorem vR_at {v : Option Value} {x : Nat} (h : vR v = some x) : v = some (.ref x) := by
  unfold vR at h
  split at h
  · cases h; rfl
  · cases h
def gI (h : mh) (a ci k : Nat) : Option Int32 := (kO h a ci).bind fun fs => vI fs[k]?
def gJ (h : mh) (a ci k : Nat) : Option Int64 := (kO h a ci).bind fun fs => vJ fs[k]?
def gR (h : mh) (a ci k : Nat) : Option Nat := (kO h a ci).bind fun fs => vR fs[k]?
def sV (h : mh) (a ci k : Nat) (v : Value) : Option mh := (kO h a ci).bind fun fs => if k < fs.length then some (h.set a (.inr (ci, fs.set k v))) else none
def aI (h : mh) (a : Nat) (i : Int32) : Option Int32 := match h[a]? with
  | some (.inl (0, z, .inl f)) => if i < 0 ∨ z ≤ i.toNatClampNeg then none else some (f i.toNatClampNeg)
  | _ => none
def aJ (h : mh) (a : Nat) (i : Int32) : Option Int64 := match h[a]? with
  | some (.inl (1, z, .inr (.inl f))) => if i < 0 ∨ z ≤ i.toNatClampNeg then none else some (f i.toNatClampNeg)
  | _ => none
def aZ (h : mh) (a : Nat) (i : Int32) : Option Int32 := match h[a]? with
  | some (.inl (2, z, .inl f)) => if i < 0 ∨ z ≤ i.toNatClampNeg then none else some (f i.toNatClampNeg)
  | _ => none
def aR (h : mh) (a : Nat) (i : Int32) : Option Nat := match h[a]? with
  | some (.inl (t, z, .inr (.inr (.inr (.inr f))))) => if t = 3 ∨ t = 4 then (if i < 0 ∨ z ≤ i.toNatClampNeg then none else f i.toNatClampNeg) else none
  | _ => none
def aL (h : mh) (a : Nat) : Option Int32 := match h[a]? with
  | some (.inl (t, z, _)) => if t < 5 then some (Int32.ofNat z) else none
  | _ => none
def wI (h : mh) (a : Nat) (i x : Int32) : Option mh := match h[a]? with
  | some (.inl (0, z, .inl f)) => if i < 0 ∨ z ≤ i.toNatClampNeg then none else some (h.set a (.inl (0, z, .inl (upd f i.toNatClampNeg x))))
  | _ => none
def wJ (h : mh) (a : Nat) (i : Int32) (x : Int64) : Option mh := match h[a]? with
  | some (.inl (1, z, .inr (.inl f))) => if i < 0 ∨ z ≤ i.toNatClampNeg then none else some (h.set a (.inl (1, z, .inr (.inl (vp_updL f i.toNatClampNeg x)))))
  | _ => none
def wZ (h : mh) (a : Nat) (i x : Int32) : Option mh := match h[a]? with
  | some (.inl (2, z, .inl f)) => if i < 0 ∨ z ≤ i.toNatClampNeg then none else some (h.set a (.inl (2, z, .inl (upd f i.toNatClampNeg (vp_nar .boolean x)))))
  | _ => none
def wR (h : mh) (a : Nat) (i : Int32) (v : Nat) : Option mh := match h[a]?, h[v]? with
  | some (.inl (t, z, .inr (.inr (.inr (.inr f))))), some (.inr (ci, _)) => if (t = 3 ∧ ci = 3) ∨ (t = 4 ∧ ci = 0) then (if i < 0 ∨ z ≤ i.toNatClampNeg then none else some (h.set a (.inl (t, z, .inr (.inr (.inr (.inr (va_up f i.toNatClampNeg (some v))))))))) else none
  | _, _ => none
def cpI (h : mh) (a0 : Nat) (sp : Int32) (a : Nat) (dp q : Int32) : Option mh := match h[a0]?, h[a]? with
  | some (.inl (0, n0, .inl u)), some (.inl (0, n1, .inl g)) => if sp < 0 ∨ dp < 0 ∨ q < 0 ∨ n0 < sp.toNatClampNeg + q.toNatClampNeg ∨ n1 < dp.toNatClampNeg + q.toNatClampNeg then none else some (h.set a (.inl (0, n1, .inl (va_cpy u g sp.toNatClampNeg dp.toNatClampNeg q.toNatClampNeg))))
  | _, _ => none
theorem lg_lt {x y : Int64} : lg_cmp x y < 0 ↔ x < y := by
  unfold lg_cmp
  by_cases h1 : x > y
  · rw [if_pos h1]
    exact ⟨fun h => absurd h (by decide), fun h => absurd (Int64.lt_trans h h1) Int64.lt_irrefl⟩
  · rw [if_neg h1]
    by_cases h2 : x = y
    · rw [if_pos h2]; subst h2
      exact ⟨fun h => absurd h (by decide), fun h => absurd h Int64.lt_irrefl⟩
    · rw [if_neg h2]
      exact ⟨fun _ => Int64.lt_of_le_of_ne (Int64.not_lt.mp h1) h2, fun _ => by decide⟩
theorem lg_gt {x y : Int64} : 0 < lg_cmp x y ↔ y < x := by
  unfold lg_cmp
  by_cases h1 : x > y
  · rw [if_pos h1]
    exact ⟨fun _ => h1, fun _ => by decide⟩
  · rw [if_neg h1]
    by_cases h2 : x = y
    · rw [if_pos h2]
      exact ⟨fun h => absurd h (by decide), fun h => absurd h h1⟩
    · rw [if_neg h2]
      exact ⟨fun h => absurd h (by decide), fun h => absurd h h1⟩
theorem lg_eq {x y : Int64} : lg_cmp x y = 0 ↔ x = y := by
  unfold lg_cmp
  by_cases h1 : x > y
  · rw [if_pos h1]
    exact ⟨fun h => absurd h (by decide), fun h => by subst h; exact absurd h1 Int64.lt_irrefl⟩
  · rw [if_neg h1]
    by_cases h2 : x = y
    · rw [if_pos h2]
      exact ⟨fun _ => h2, fun _ => rfl⟩
    · rw [if_neg h2]
      exact ⟨fun h => absurd h (by decide), fun h => absurd h h2⟩
theorem lg_le {x y : Int64} : lg_cmp x y ≤ 0 ↔ x ≤ y := by
  rw [← Int32.not_lt, lg_gt, Int64.not_lt]
theorem lg_ge {x y : Int64} : 0 ≤ lg_cmp x y ↔ y ≤ x := by
  rw [← Int32.not_lt, lg_lt, Int64.not_lt]
section AC
variable {Γ : mG} {M M2 : mM} {i pc : Nat} {lv lv' : List (Nat × Value)} {st r : List Value} {h h1 : mh} {k n a ci j t : Nat} {d : Int}
theorem mB_lv (ks : List Nat) (hl : lv_pick lv ks = lv') (hk : mB Γ M (pc, lv', st, h, k, n)) : mB Γ M (pc, lv, st, h, k, n) := by
  intro p l e R s m args below meth c B b D dA Q hG E H locs ls hR hS hv
  refine hk p l e R s m args below meth c B b D dA Q hG E H locs ls hR hS ?_
  refine ⟨hv.1, hv.2.1, fun q hq => hv.2.2 q ?_⟩
  obtain ⟨q', hq', rfl⟩ := List.mem_map.mp hq
  refine List.mem_map.mpr ⟨q', ?_, rfl⟩
  change q' ∈ lv' at hq'
  rw [← hl] at hq'
  obtain ⟨z, -, hz⟩ := List.mem_filterMap.mp hq'
  exact List.mem_of_getElem? hz
theorem r_gV {v : Value} {fs : List Value} (hod : mOd M) (hd : asc (mTb M) pc = some (.getfield i, 3)) (hf : fT (mOw M) i = some (ci, j)) (ha : kO h a ci = some fs) (hv : fs[j]? = some v) (hk : mB Γ M (pc + 3, lv, v :: r, h, k, n)) : mB Γ M (pc, lv, .ref a :: r, h, k, n) := by
  refine mB_st hod ?_ hk
  have h1 := kO_at ha
  simp only [mst, hd, mins, q_getf, hf, h1, hv, if_true]
theorem r_gI {v : Int32} (hod : mOd M) (hd : asc (mTb M) pc = some (.getfield i, 3)) (hf : fT (mOw M) i = some (ci, j)) (hg : gI h a ci j = some v) (hk : mB Γ M (pc + 3, lv, .int v :: r, h, k, n)) : mB Γ M (pc, lv, .ref a :: r, h, k, n) := by
  obtain ⟨fs, h1, h2⟩ := bsm hg
  exact r_gV hod hd hf h1 (vI_at h2) hk
theorem r_gJ {v : Int64} (hod : mOd M) (hd : asc (mTb M) pc = some (.getfield i, 3)) (hf : fT (mOw M) i = some (ci, j)) (hg : gJ h a ci j = some v) (hk : mB Γ M (pc + 3, lv, .long v :: r, h, k, n)) : mB Γ M (pc, lv, .ref a :: r, h, k, n) := by
  obtain ⟨fs, h1, h2⟩ := bsm hg
  exact r_gV hod hd hf h1 (vJ_at h2) hk
theorem r_gR {v : Nat} (hod : mOd M) (hd : asc (mTb M) pc = some (.getfield i, 3)) (hf : fT (mOw M) i = some (ci, j)) (hg : gR h a ci j = some v) (hk : mB Γ M (pc + 3, lv, .ref v :: r, h, k, n)) : mB Γ M (pc, lv, .ref a :: r, h, k, n) := by
  obtain ⟨fs, h1, h2⟩ := bsm hg
  exact r_gV hod hd hf h1 (vR_at h2) hk
theorem r_sV {v : Value} (hod : mOd M) (hd : asc (mTb M) pc = some (.putfield i, 3)) (hf : fT (mOw M) i = some (ci, j)) (hfit : mfit (cY ci j) v = true) (hfin : (cT ci j).2.2.2 = false) (hg : sV h a ci j v = some h1) (hk : mB Γ M (pc + 3, lv, r, h1, k, n)) : mB Γ M (pc, lv, v :: .ref a :: r, h, k, n) := by
  refine mB_st hod ?_ hk
  obtain ⟨fs, h2, h3⟩ := bsm hg
  have h4 := kO_at h2
  split at h3
  · rename_i hj
    cases h3
    simp only [mst, hd, mins, q_putf, hf, h4]
    rw [if_pos ⟨trivial, hfit, hj, Or.inl hfin⟩]
  · cases h3
theorem r_aI {v : Int32} {x : Int32} (hod : mOd M) (hd : asc (mTb M) pc = some (.iaload, 1)) (hg : aI h a x = some v) (hk : mB Γ M (pc + 1, lv, .int v :: r, h, k, n)) : mB Γ M (pc, lv, .int x :: .ref a :: r, h, k, n) := by
  refine mB_st hod ?_ hk
  unfold aI at hg
  split at hg
  · rename_i z f ha
    split at hg
    · cases hg
    · rename_i hc
      cases hg
      simp only [mst, hd, mins, q_iald, ha]
      rw [if_neg hc]
  · cases hg
theorem r_aJ {v : Int64} {x : Int32} (hod : mOd M) (hd : asc (mTb M) pc = some (.laload, 1)) (hg : aJ h a x = some v) (hk : mB Γ M (pc + 1, lv, .long v :: r, h, k, n)) : mB Γ M (pc, lv, .int x :: .ref a :: r, h, k, n) := by
  refine mB_st hod ?_ hk
  unfold aJ at hg
  split at hg
  · rename_i z f ha
    split at hg
    · cases hg
    · rename_i hc
      cases hg
      simp only [mst, hd, mins, q_lald, ha]
      rw [if_neg hc]
  · cases hg
theorem r_aZ {v : Int32} {x : Int32} (hod : mOd M) (hd : asc (mTb M) pc = some (.baload, 1)) (hg : aZ h a x = some v) (hk : mB Γ M (pc + 1, lv, .int v :: r, h, k, n)) : mB Γ M (pc, lv, .int x :: .ref a :: r, h, k, n) := by
  refine mB_st hod ?_ hk
  unfold aZ at hg
  split at hg
  · rename_i z f ha
    split at hg
    · cases hg
    · rename_i hc
      cases hg
      simp only [mst, hd, mins, q_bald, ha]
      rw [if_neg hc]
  · cases hg
theorem r_aR {v : Nat} {x : Int32} (hod : mOd M) (hd : asc (mTb M) pc = some (.aaload, 1)) (hg : aR h a x = some v) (hk : mB Γ M (pc + 1, lv, .ref v :: r, h, k, n)) : mB Γ M (pc, lv, .int x :: .ref a :: r, h, k, n) := by
  refine mB_st hod ?_ hk
  unfold aR at hg
  split at hg
  · rename_i t z f ha
    split at hg
    · rename_i ht
      split at hg
      · cases hg
      · rename_i hc
        simp only [mst, hd, mins, q_aald, ha]
        rw [if_pos ht, if_neg hc, hg]
        rfl
    · cases hg
  · cases hg
theorem r_aL {v : Int32} (hod : mOd M) (hd : asc (mTb M) pc = some (.arraylength, 1)) (hg : aL h a = some v) (hk : mB Γ M (pc + 1, lv, .int v :: r, h, k, n)) : mB Γ M (pc, lv, .ref a :: r, h, k, n) := by
  refine mB_st hod ?_ hk
  unfold aL at hg
  split at hg
  · rename_i t z g ha
    split at hg
    · rename_i ht
      cases hg
      simp only [mst, hd, mins, q_alen, ha]
      rw [if_pos ht]
    · cases hg
  · cases hg
theorem r_wI {v : Int32} {x : Int32} (hod : mOd M) (hd : asc (mTb M) pc = some (.iastore, 1)) (hg : wI h a x v = some h1) (hk : mB Γ M (pc + 1, lv, r, h1, k, n)) : mB Γ M (pc, lv, .int v :: .int x :: .ref a :: r, h, k, n) := by
  refine mB_st hod ?_ hk
  unfold wI at hg
  split at hg
  · rename_i z f ha
    split at hg
    · cases hg
    · rename_i hc
      cases hg
      simp only [mst, hd, mins, q_iast, ha]
      rw [if_neg hc]
  · cases hg
theorem r_wJ {v : Int64} {x : Int32} (hod : mOd M) (hd : asc (mTb M) pc = some (.lastore, 1)) (hg : wJ h a x v = some h1) (hk : mB Γ M (pc + 1, lv, r, h1, k, n)) : mB Γ M (pc, lv, .long v :: .int x :: .ref a :: r, h, k, n) := by
  refine mB_st hod ?_ hk
  unfold wJ at hg
  split at hg
  · rename_i z f ha
    split at hg
    · cases hg
    · rename_i hc
      cases hg
      simp only [mst, hd, mins, q_last, ha]
      rw [if_neg hc]
  · cases hg
theorem r_wZ {v : Int32} {x : Int32} (hod : mOd M) (hd : asc (mTb M) pc = some (.bastore, 1)) (hg : wZ h a x v = some h1) (hk : mB Γ M (pc + 1, lv, r, h1, k, n)) : mB Γ M (pc, lv, .int v :: .int x :: .ref a :: r, h, k, n) := by
  refine mB_st hod ?_ hk
  unfold wZ at hg
  split at hg
  · rename_i z f ha
    split at hg
    · cases hg
    · rename_i hc
      cases hg
      simp only [mst, hd, mins, q_bast, ha]
      rw [if_neg hc]
  · cases hg
theorem r_wR {v : Nat} {x : Int32} (hod : mOd M) (hd : asc (mTb M) pc = some (.aastore, 1)) (hg : wR h a x v = some h1) (hk : mB Γ M (pc + 1, lv, r, h1, k, n)) : mB Γ M (pc, lv, .ref v :: .int x :: .ref a :: r, h, k, n) := by
  refine mB_st hod ?_ hk
  unfold wR at hg
  split at hg
  · rename_i t z f ci vs ha hv
    split at hg
    · rename_i ht
      split at hg
      · cases hg
      · rename_i hc
        cases hg
        simp only [mst, hd, mins, q_aast, ha, hv]
        rw [if_pos ht, if_neg hc]
    · cases hg
  · cases hg
theorem r_cp {a0 : Nat} {sp dp q : Int32} (hod : mOd M) (hd : asc (mTb M) pc = some (.invokestatic i, 3)) (hkm : kmT (mOw M) i = none) (hka : kaT (mOw M) i = some ()) (hro : (decide (1 ≤ mFr M) && decide ((r.map fun v => v.category).sum + (nativeFrameWords "java/lang/System" "arraycopy" 5 + 11) ≤ mLo M)) = true) (hg : cpI h a0 sp a dp q = some h1) (hk : mB Γ M (pc + 3, lv, r, h1, k, n)) : mB Γ M (pc, lv, .int q :: .int dp :: .ref a :: .int sp :: .ref a0 :: r, h, k, n) := by
  refine mB_st hod ?_ hk
  simp only [Bool.and_eq_true, decide_eq_true_eq] at hro
  unfold cpI at hg
  split at hg
  · rename_i n0 u n1 g ha0 ha
    split at hg
    · cases hg
    · rename_i hc
      cases hg
      simp only [mst, hd, mins, q_stat, hkm, q_acopy, hka, ha0, ha]
      rw [if_neg hc, if_pos hro]
  · cases hg
theorem if_eq_T {x : Int32} (hod : mOd M) (hd : asc (mTb M) pc = some (.ifCond .eq d, 3)) (ht : (pc : Int) + d = (t : Int)) (hc : x = 0) (hk : mB Γ M (t, lv, r, h, k, n)) : mB Γ M (pc, lv, .int x :: r, h, k, n) := by
  refine mB_st hod ?_ hk
  simp only [mst, hd, mins, q_if_eq, ht]
  rw [if_neg (by omega)]
  rw [if_pos hc]
  try rfl
theorem if_eq_F {x : Int32} (hod : mOd M) (hd : asc (mTb M) pc = some (.ifCond .eq d, 3)) (ht : (pc : Int) + d = (t : Int)) (hc : ¬ x = 0) (hk : mB Γ M (pc + 3, lv, r, h, k, n)) : mB Γ M (pc, lv, .int x :: r, h, k, n) := by
  refine mB_st hod ?_ hk
  simp only [mst, hd, mins, q_if_eq, ht]
  rw [if_neg (by omega)]
  rw [if_neg hc]
  try rfl
theorem ic_eq_T {x y : Int32} (hod : mOd M) (hd : asc (mTb M) pc = some (.if_icmp .eq d, 3)) (ht : (pc : Int) + d = (t : Int)) (hc : x = y) (hk : mB Γ M (t, lv, r, h, k, n)) : mB Γ M (pc, lv, .int y :: .int x :: r, h, k, n) := by
  refine mB_st hod ?_ hk
  simp only [mst, hd, mins, q_icmp_eq, ht]
  rw [if_neg (by omega)]
  rw [if_pos hc]
  try rfl
theorem ic_eq_F {x y : Int32} (hod : mOd M) (hd : asc (mTb M) pc = some (.if_icmp .eq d, 3)) (ht : (pc : Int) + d = (t : Int)) (hc : ¬ x = y) (hk : mB Γ M (pc + 3, lv, r, h, k, n)) : mB Γ M (pc, lv, .int y :: .int x :: r, h, k, n) := by
  refine mB_st hod ?_ hk
  simp only [mst, hd, mins, q_icmp_eq, ht]
  rw [if_neg (by omega)]
  rw [if_neg hc]
  try rfl
theorem lc_eq_T {x y : Int64} (hod : mOd M) (hd0 : asc (mTb M) pc = some (.lcmp, 1)) (hd : asc (mTb M) (pc + 1) = some (.ifCond .eq d, 3)) (ht : ((pc + 1 : Nat) : Int) + d = (t : Int)) (hc : x = y) (hk : mB Γ M (t, lv, r, h, k, n)) : mB Γ M (pc, lv, .long y :: .long x :: r, h, k, n) := by
  refine mB_st hod (g := (pc + 1, lv, .int (lg_cmp x y) :: r, h, k, n)) ?_ (if_eq_T hod hd ht (lg_eq.mpr hc) hk)
  simp only [mst, hd0, mins, q_lcmp]
theorem lc_eq_F {x y : Int64} (hod : mOd M) (hd0 : asc (mTb M) pc = some (.lcmp, 1)) (hd : asc (mTb M) (pc + 1) = some (.ifCond .eq d, 3)) (ht : ((pc + 1 : Nat) : Int) + d = (t : Int)) (hc : ¬ x = y) (hk : mB Γ M (pc + 1 + 3, lv, r, h, k, n)) : mB Γ M (pc, lv, .long y :: .long x :: r, h, k, n) := by
  refine mB_st hod (g := (pc + 1, lv, .int (lg_cmp x y) :: r, h, k, n)) ?_ (if_eq_F hod hd ht (fun z => hc (lg_eq.mp z)) hk)
  simp only [mst, hd0, mins, q_lcmp]
theorem if_ne_T {x : Int32} (hod : mOd M) (hd : asc (mTb M) pc = some (.ifCond .ne d, 3)) (ht : (pc : Int) + d = (t : Int)) (hc : ¬ x = 0) (hk : mB Γ M (t, lv, r, h, k, n)) : mB Γ M (pc, lv, .int x :: r, h, k, n) := by
  refine mB_st hod ?_ hk
  simp only [mst, hd, mins, q_if_ne, ht]
  rw [if_neg (by omega)]
  rw [if_neg hc]
  try rfl
theorem if_ne_F {x : Int32} (hod : mOd M) (hd : asc (mTb M) pc = some (.ifCond .ne d, 3)) (ht : (pc : Int) + d = (t : Int)) (hc : x = 0) (hk : mB Γ M (pc + 3, lv, r, h, k, n)) : mB Γ M (pc, lv, .int x :: r, h, k, n) := by
  refine mB_st hod ?_ hk
  simp only [mst, hd, mins, q_if_ne, ht]
  rw [if_neg (by omega)]
  rw [if_pos hc]
  try rfl
theorem ic_ne_T {x y : Int32} (hod : mOd M) (hd : asc (mTb M) pc = some (.if_icmp .ne d, 3)) (ht : (pc : Int) + d = (t : Int)) (hc : ¬ x = y) (hk : mB Γ M (t, lv, r, h, k, n)) : mB Γ M (pc, lv, .int y :: .int x :: r, h, k, n) := by
  refine mB_st hod ?_ hk
  simp only [mst, hd, mins, q_icmp_ne, ht]
  rw [if_neg (by omega)]
  rw [if_neg hc]
  try rfl
theorem ic_ne_F {x y : Int32} (hod : mOd M) (hd : asc (mTb M) pc = some (.if_icmp .ne d, 3)) (ht : (pc : Int) + d = (t : Int)) (hc : x = y) (hk : mB Γ M (pc + 3, lv, r, h, k, n)) : mB Γ M (pc, lv, .int y :: .int x :: r, h, k, n) := by
  refine mB_st hod ?_ hk
  simp only [mst, hd, mins, q_icmp_ne, ht]
  rw [if_neg (by omega)]
  rw [if_pos hc]
  try rfl
theorem lc_ne_T {x y : Int64} (hod : mOd M) (hd0 : asc (mTb M) pc = some (.lcmp, 1)) (hd : asc (mTb M) (pc + 1) = some (.ifCond .ne d, 3)) (ht : ((pc + 1 : Nat) : Int) + d = (t : Int)) (hc : ¬ x = y) (hk : mB Γ M (t, lv, r, h, k, n)) : mB Γ M (pc, lv, .long y :: .long x :: r, h, k, n) := by
  refine mB_st hod (g := (pc + 1, lv, .int (lg_cmp x y) :: r, h, k, n)) ?_ (if_ne_T hod hd ht (fun z => hc (lg_eq.mp z)) hk)
  simp only [mst, hd0, mins, q_lcmp]
theorem lc_ne_F {x y : Int64} (hod : mOd M) (hd0 : asc (mTb M) pc = some (.lcmp, 1)) (hd : asc (mTb M) (pc + 1) = some (.ifCond .ne d, 3)) (ht : ((pc + 1 : Nat) : Int) + d = (t : Int)) (hc : x = y) (hk : mB Γ M (pc + 1 + 3, lv, r, h, k, n)) : mB Γ M (pc, lv, .long y :: .long x :: r, h, k, n) := by
  refine mB_st hod (g := (pc + 1, lv, .int (lg_cmp x y) :: r, h, k, n)) ?_ (if_ne_F hod hd ht (lg_eq.mpr hc) hk)
  simp only [mst, hd0, mins, q_lcmp]
theorem if_lt_T {x : Int32} (hod : mOd M) (hd : asc (mTb M) pc = some (.ifCond .lt d, 3)) (ht : (pc : Int) + d = (t : Int)) (hc : x < 0) (hk : mB Γ M (t, lv, r, h, k, n)) : mB Γ M (pc, lv, .int x :: r, h, k, n) := by
  refine mB_st hod ?_ hk
  simp only [mst, hd, mins, q_if_lt, ht]
  rw [if_neg (by omega)]
  rw [if_pos hc]
  try rfl
theorem if_lt_F {x : Int32} (hod : mOd M) (hd : asc (mTb M) pc = some (.ifCond .lt d, 3)) (ht : (pc : Int) + d = (t : Int)) (hc : ¬ x < 0) (hk : mB Γ M (pc + 3, lv, r, h, k, n)) : mB Γ M (pc, lv, .int x :: r, h, k, n) := by
  refine mB_st hod ?_ hk
  simp only [mst, hd, mins, q_if_lt, ht]
  rw [if_neg (by omega)]
  rw [if_neg hc]
  try rfl
theorem ic_lt_T {x y : Int32} (hod : mOd M) (hd : asc (mTb M) pc = some (.if_icmp .lt d, 3)) (ht : (pc : Int) + d = (t : Int)) (hc : x < y) (hk : mB Γ M (t, lv, r, h, k, n)) : mB Γ M (pc, lv, .int y :: .int x :: r, h, k, n) := by
  refine mB_st hod ?_ hk
  simp only [mst, hd, mins, q_icmp_lt, ht]
  rw [if_neg (by omega)]
  rw [if_pos hc]
  try rfl
theorem ic_lt_F {x y : Int32} (hod : mOd M) (hd : asc (mTb M) pc = some (.if_icmp .lt d, 3)) (ht : (pc : Int) + d = (t : Int)) (hc : ¬ x < y) (hk : mB Γ M (pc + 3, lv, r, h, k, n)) : mB Γ M (pc, lv, .int y :: .int x :: r, h, k, n) := by
  refine mB_st hod ?_ hk
  simp only [mst, hd, mins, q_icmp_lt, ht]
  rw [if_neg (by omega)]
  rw [if_neg hc]
  try rfl
theorem lc_lt_T {x y : Int64} (hod : mOd M) (hd0 : asc (mTb M) pc = some (.lcmp, 1)) (hd : asc (mTb M) (pc + 1) = some (.ifCond .lt d, 3)) (ht : ((pc + 1 : Nat) : Int) + d = (t : Int)) (hc : x < y) (hk : mB Γ M (t, lv, r, h, k, n)) : mB Γ M (pc, lv, .long y :: .long x :: r, h, k, n) := by
  refine mB_st hod (g := (pc + 1, lv, .int (lg_cmp x y) :: r, h, k, n)) ?_ (if_lt_T hod hd ht (lg_lt.mpr hc) hk)
  simp only [mst, hd0, mins, q_lcmp]
theorem lc_lt_F {x y : Int64} (hod : mOd M) (hd0 : asc (mTb M) pc = some (.lcmp, 1)) (hd : asc (mTb M) (pc + 1) = some (.ifCond .lt d, 3)) (ht : ((pc + 1 : Nat) : Int) + d = (t : Int)) (hc : ¬ x < y) (hk : mB Γ M (pc + 1 + 3, lv, r, h, k, n)) : mB Γ M (pc, lv, .long y :: .long x :: r, h, k, n) := by
  refine mB_st hod (g := (pc + 1, lv, .int (lg_cmp x y) :: r, h, k, n)) ?_ (if_lt_F hod hd ht (fun z => hc (lg_lt.mp z)) hk)
  simp only [mst, hd0, mins, q_lcmp]
theorem if_ge_T {x : Int32} (hod : mOd M) (hd : asc (mTb M) pc = some (.ifCond .ge d, 3)) (ht : (pc : Int) + d = (t : Int)) (hc : 0 ≤ x) (hk : mB Γ M (t, lv, r, h, k, n)) : mB Γ M (pc, lv, .int x :: r, h, k, n) := by
  refine mB_st hod ?_ hk
  simp only [mst, hd, mins, q_if_ge, ht]
  rw [if_neg (by omega)]
  rw [if_pos hc]
  try rfl
theorem if_ge_F {x : Int32} (hod : mOd M) (hd : asc (mTb M) pc = some (.ifCond .ge d, 3)) (ht : (pc : Int) + d = (t : Int)) (hc : ¬ 0 ≤ x) (hk : mB Γ M (pc + 3, lv, r, h, k, n)) : mB Γ M (pc, lv, .int x :: r, h, k, n) := by
  refine mB_st hod ?_ hk
  simp only [mst, hd, mins, q_if_ge, ht]
  rw [if_neg (by omega)]
  rw [if_neg hc]
  try rfl
theorem ic_ge_T {x y : Int32} (hod : mOd M) (hd : asc (mTb M) pc = some (.if_icmp .ge d, 3)) (ht : (pc : Int) + d = (t : Int)) (hc : y ≤ x) (hk : mB Γ M (t, lv, r, h, k, n)) : mB Γ M (pc, lv, .int y :: .int x :: r, h, k, n) := by
  refine mB_st hod ?_ hk
  simp only [mst, hd, mins, q_icmp_ge, ht]
  rw [if_neg (by omega)]
  rw [if_pos hc]
  try rfl
theorem ic_ge_F {x y : Int32} (hod : mOd M) (hd : asc (mTb M) pc = some (.if_icmp .ge d, 3)) (ht : (pc : Int) + d = (t : Int)) (hc : ¬ y ≤ x) (hk : mB Γ M (pc + 3, lv, r, h, k, n)) : mB Γ M (pc, lv, .int y :: .int x :: r, h, k, n) := by
  refine mB_st hod ?_ hk
  simp only [mst, hd, mins, q_icmp_ge, ht]
  rw [if_neg (by omega)]
  rw [if_neg hc]
  try rfl
theorem lc_ge_T {x y : Int64} (hod : mOd M) (hd0 : asc (mTb M) pc = some (.lcmp, 1)) (hd : asc (mTb M) (pc + 1) = some (.ifCond .ge d, 3)) (ht : ((pc + 1 : Nat) : Int) + d = (t : Int)) (hc : y ≤ x) (hk : mB Γ M (t, lv, r, h, k, n)) : mB Γ M (pc, lv, .long y :: .long x :: r, h, k, n) := by
  refine mB_st hod (g := (pc + 1, lv, .int (lg_cmp x y) :: r, h, k, n)) ?_ (if_ge_T hod hd ht (lg_ge.mpr hc) hk)
  simp only [mst, hd0, mins, q_lcmp]
theorem lc_ge_F {x y : Int64} (hod : mOd M) (hd0 : asc (mTb M) pc = some (.lcmp, 1)) (hd : asc (mTb M) (pc + 1) = some (.ifCond .ge d, 3)) (ht : ((pc + 1 : Nat) : Int) + d = (t : Int)) (hc : ¬ y ≤ x) (hk : mB Γ M (pc + 1 + 3, lv, r, h, k, n)) : mB Γ M (pc, lv, .long y :: .long x :: r, h, k, n) := by
  refine mB_st hod (g := (pc + 1, lv, .int (lg_cmp x y) :: r, h, k, n)) ?_ (if_ge_F hod hd ht (fun z => hc (lg_ge.mp z)) hk)
  simp only [mst, hd0, mins, q_lcmp]
theorem if_gt_T {x : Int32} (hod : mOd M) (hd : asc (mTb M) pc = some (.ifCond .gt d, 3)) (ht : (pc : Int) + d = (t : Int)) (hc : 0 < x) (hk : mB Γ M (t, lv, r, h, k, n)) : mB Γ M (pc, lv, .int x :: r, h, k, n) := by
  refine mB_st hod ?_ hk
  simp only [mst, hd, mins, q_if_gt, ht]
  rw [if_neg (by omega)]
  rw [if_pos hc]
  try rfl
theorem if_gt_F {x : Int32} (hod : mOd M) (hd : asc (mTb M) pc = some (.ifCond .gt d, 3)) (ht : (pc : Int) + d = (t : Int)) (hc : ¬ 0 < x) (hk : mB Γ M (pc + 3, lv, r, h, k, n)) : mB Γ M (pc, lv, .int x :: r, h, k, n) := by
  refine mB_st hod ?_ hk
  simp only [mst, hd, mins, q_if_gt, ht]
  rw [if_neg (by omega)]
  rw [if_neg hc]
  try rfl
theorem ic_gt_T {x y : Int32} (hod : mOd M) (hd : asc (mTb M) pc = some (.if_icmp .gt d, 3)) (ht : (pc : Int) + d = (t : Int)) (hc : y < x) (hk : mB Γ M (t, lv, r, h, k, n)) : mB Γ M (pc, lv, .int y :: .int x :: r, h, k, n) := by
  refine mB_st hod ?_ hk
  simp only [mst, hd, mins, q_icmp_gt, ht]
  rw [if_neg (by omega)]
  rw [if_pos hc]
  try rfl
theorem ic_gt_F {x y : Int32} (hod : mOd M) (hd : asc (mTb M) pc = some (.if_icmp .gt d, 3)) (ht : (pc : Int) + d = (t : Int)) (hc : ¬ y < x) (hk : mB Γ M (pc + 3, lv, r, h, k, n)) : mB Γ M (pc, lv, .int y :: .int x :: r, h, k, n) := by
  refine mB_st hod ?_ hk
  simp only [mst, hd, mins, q_icmp_gt, ht]
  rw [if_neg (by omega)]
  rw [if_neg hc]
  try rfl
theorem lc_gt_T {x y : Int64} (hod : mOd M) (hd0 : asc (mTb M) pc = some (.lcmp, 1)) (hd : asc (mTb M) (pc + 1) = some (.ifCond .gt d, 3)) (ht : ((pc + 1 : Nat) : Int) + d = (t : Int)) (hc : y < x) (hk : mB Γ M (t, lv, r, h, k, n)) : mB Γ M (pc, lv, .long y :: .long x :: r, h, k, n) := by
  refine mB_st hod (g := (pc + 1, lv, .int (lg_cmp x y) :: r, h, k, n)) ?_ (if_gt_T hod hd ht (lg_gt.mpr hc) hk)
  simp only [mst, hd0, mins, q_lcmp]
theorem lc_gt_F {x y : Int64} (hod : mOd M) (hd0 : asc (mTb M) pc = some (.lcmp, 1)) (hd : asc (mTb M) (pc + 1) = some (.ifCond .gt d, 3)) (ht : ((pc + 1 : Nat) : Int) + d = (t : Int)) (hc : ¬ y < x) (hk : mB Γ M (pc + 1 + 3, lv, r, h, k, n)) : mB Γ M (pc, lv, .long y :: .long x :: r, h, k, n) := by
  refine mB_st hod (g := (pc + 1, lv, .int (lg_cmp x y) :: r, h, k, n)) ?_ (if_gt_F hod hd ht (fun z => hc (lg_gt.mp z)) hk)
  simp only [mst, hd0, mins, q_lcmp]
theorem if_le_T {x : Int32} (hod : mOd M) (hd : asc (mTb M) pc = some (.ifCond .le d, 3)) (ht : (pc : Int) + d = (t : Int)) (hc : x ≤ 0) (hk : mB Γ M (t, lv, r, h, k, n)) : mB Γ M (pc, lv, .int x :: r, h, k, n) := by
  refine mB_st hod ?_ hk
  simp only [mst, hd, mins, q_if_le, ht]
  rw [if_neg (by omega)]
  rw [if_pos hc]
  try rfl
theorem if_le_F {x : Int32} (hod : mOd M) (hd : asc (mTb M) pc = some (.ifCond .le d, 3)) (ht : (pc : Int) + d = (t : Int)) (hc : ¬ x ≤ 0) (hk : mB Γ M (pc + 3, lv, r, h, k, n)) : mB Γ M (pc, lv, .int x :: r, h, k, n) := by
  refine mB_st hod ?_ hk
  simp only [mst, hd, mins, q_if_le, ht]
  rw [if_neg (by omega)]
  rw [if_neg hc]
  try rfl
theorem ic_le_T {x y : Int32} (hod : mOd M) (hd : asc (mTb M) pc = some (.if_icmp .le d, 3)) (ht : (pc : Int) + d = (t : Int)) (hc : x ≤ y) (hk : mB Γ M (t, lv, r, h, k, n)) : mB Γ M (pc, lv, .int y :: .int x :: r, h, k, n) := by
  refine mB_st hod ?_ hk
  simp only [mst, hd, mins, q_icmp_le, ht]
  rw [if_neg (by omega)]
  rw [if_pos hc]
  try rfl
theorem ic_le_F {x y : Int32} (hod : mOd M) (hd : asc (mTb M) pc = some (.if_icmp .le d, 3)) (ht : (pc : Int) + d = (t : Int)) (hc : ¬ x ≤ y) (hk : mB Γ M (pc + 3, lv, r, h, k, n)) : mB Γ M (pc, lv, .int y :: .int x :: r, h, k, n) := by
  refine mB_st hod ?_ hk
  simp only [mst, hd, mins, q_icmp_le, ht]
  rw [if_neg (by omega)]
  rw [if_neg hc]
  try rfl
theorem lc_le_T {x y : Int64} (hod : mOd M) (hd0 : asc (mTb M) pc = some (.lcmp, 1)) (hd : asc (mTb M) (pc + 1) = some (.ifCond .le d, 3)) (ht : ((pc + 1 : Nat) : Int) + d = (t : Int)) (hc : x ≤ y) (hk : mB Γ M (t, lv, r, h, k, n)) : mB Γ M (pc, lv, .long y :: .long x :: r, h, k, n) := by
  refine mB_st hod (g := (pc + 1, lv, .int (lg_cmp x y) :: r, h, k, n)) ?_ (if_le_T hod hd ht (lg_le.mpr hc) hk)
  simp only [mst, hd0, mins, q_lcmp]
theorem lc_le_F {x y : Int64} (hod : mOd M) (hd0 : asc (mTb M) pc = some (.lcmp, 1)) (hd : asc (mTb M) (pc + 1) = some (.ifCond .le d, 3)) (ht : ((pc + 1 : Nat) : Int) + d = (t : Int)) (hc : ¬ x ≤ y) (hk : mB Γ M (pc + 1 + 3, lv, r, h, k, n)) : mB Γ M (pc, lv, .long y :: .long x :: r, h, k, n) := by
  refine mB_st hod (g := (pc + 1, lv, .int (lg_cmp x y) :: r, h, k, n)) ?_ (if_le_F hod hd ht (fun z => hc (lg_le.mp z)) hk)
  simp only [mst, hd0, mins, q_lcmp]
theorem r_idiv {x y : Int32} (hod : mOd M) (hd : asc (mTb M) pc = some (.idiv, 1)) (hc : ¬ y = 0) (hk : mB Γ M (pc + 1, lv, .int (x / y) :: r, h, k, n)) : mB Γ M (pc, lv, .int y :: .int x :: r, h, k, n) := by
  refine mB_st hod ?_ hk
  simp only [mst, hd, mins, q_idiv]
  rw [if_neg hc]
theorem r_irem {x y : Int32} (hod : mOd M) (hd : asc (mTb M) pc = some (.irem, 1)) (hc : ¬ y = 0) (hk : mB Γ M (pc + 1, lv, .int (x - x / y * y) :: r, h, k, n)) : mB Γ M (pc, lv, .int y :: .int x :: r, h, k, n) := by
  refine mB_st hod ?_ hk
  simp only [mst, hd, mins, q_irem]
  rw [if_neg hc]
theorem r_ldiv {x y : Int64} (hod : mOd M) (hd : asc (mTb M) pc = some (.ldiv, 1)) (hc : ¬ y = 0) (hk : mB Γ M (pc + 1, lv, .long (x / y) :: r, h, k, n)) : mB Γ M (pc, lv, .long y :: .long x :: r, h, k, n) := by
  refine mB_st hod ?_ hk
  simp only [mst, hd, mins, q_ldiv]
  rw [if_neg hc]
theorem r_lrem {x y : Int64} (hod : mOd M) (hd : asc (mTb M) pc = some (.lrem, 1)) (hc : ¬ y = 0) (hk : mB Γ M (pc + 1, lv, .long (x - x / y * y) :: r, h, k, n)) : mB Γ M (pc, lv, .long y :: .long x :: r, h, k, n) := by
  refine mB_st hod ?_ hk
  simp only [mst, hd, mins, q_lrem]
  rw [if_neg hc]
theorem mB_retz {v : Int32} (hod : mOd M) (hd : asc (mTb M) pc = some (.ireturn, 1)) (ht : mRt M = some .boolean) (hv : v &&& 1 = v) (hw : (decide (k ≤ mCe M) && decide (n ≤ mSl M)) = true) : mB (gO M (h, some (.int v))) M (pc, lv, [.int v], h, k, n) := by
  refine mB_ret hod ?_
  simp only [Bool.and_eq_true, decide_eq_true_eq] at hw
  unfold mret
  rw [if_pos hw]
  simp only [hd, ht]
  rw [if_pos hv]
theorem r_tab {x : Int32} {df lo hi : Int} {offs : Array Int} {len : Nat} {q : Int32} (hod : mOd M) (hd : asc (mTb M) pc = some (.tableswitch df lo hi offs, len)) (hx : x = q) (ht : (if q.toInt < lo ∨ hi < q.toInt then none else (match offs[(q.toInt - lo).toNat]? with
    | some d => if (pc : Int) + d < 0 then none else some (((pc : Int) + d).toNat)
    | none => none)) = some t) (hk : mB Γ M (t, lv, r, h, k, n)) : mB Γ M (pc, lv, .int x :: r, h, k, n) := by
  subst hx
  refine mB_st hod ?_ hk
  simp only [mst, hd, mins, q_tabsw]
  split at ht
  · cases ht
  · rename_i h1
    rw [if_neg h1]
    split at ht
    · rename_i d h2
      split at ht
      · cases ht
      · rename_i h3
        cases ht
        simp only [h2]
        rw [if_neg h3]
    · cases ht
theorem r_tabd {x : Int32} {df lo hi : Int} {offs : Array Int} {len : Nat} (hod : mOd M) (hd : asc (mTb M) pc = some (.tableswitch df lo hi offs, len)) (ht : (pc : Int) + df = (t : Int)) (hx : x.toInt < lo ∨ hi < x.toInt) (hk : mB Γ M (t, lv, r, h, k, n)) : mB Γ M (pc, lv, .int x :: r, h, k, n) := by
  refine mB_st hod ?_ hk
  simp only [mst, hd, mins, q_tabsw]
  rw [if_pos hx, ht, if_neg (by omega)]
  rfl
theorem ts_ne {x : Int32} {c : Int32} {i : Int} (h : ¬ x = c) (hc : c.toInt = i) : x.toInt ≠ i := fun z => h (Int32.toInt_inj.mp (z.trans hc.symm))
theorem ts_out3 {x : Int32} (h0 : ¬ x = 0) (h1 : ¬ x = 1) (h2 : ¬ x = 2) : x.toInt < 0 ∨ 2 < x.toInt := by
  have a0 := ts_ne h0 (i := 0) (by decide)
  have a1 := ts_ne h1 (i := 1) (by decide)
  have a2 := ts_ne h2 (i := 2) (by decide)
  omega
theorem ts_out4 {x : Int32} (h0 : ¬ x = 0) (h1 : ¬ x = 1) (h2 : ¬ x = 2) (h3 : ¬ x = 3) : x.toInt < 0 ∨ 3 < x.toInt := by
  have a0 := ts_ne h0 (i := 0) (by decide)
  have a1 := ts_ne h1 (i := 1) (by decide)
  have a2 := ts_ne h2 (i := 2) (by decide)
  have a3 := ts_ne h3 (i := 3) (by decide)
  omega
theorem ts_out6 {x : Int32} (h0 : ¬ x = 0) (h1 : ¬ x = 1) (h2 : ¬ x = 2) (h3 : ¬ x = 3) (h4 : ¬ x = 4) (h5 : ¬ x = 5) : x.toInt < 0 ∨ 5 < x.toInt := by
  have a0 := ts_ne h0 (i := 0) (by decide)
  have a1 := ts_ne h1 (i := 1) (by decide)
  have a2 := ts_ne h2 (i := 2) (by decide)
  have a3 := ts_ne h3 (i := 3) (by decide)
  have a4 := ts_ne h4 (i := 4) (by decide)
  have a5 := ts_ne h5 (i := 5) (by decide)
  omega
end AC
