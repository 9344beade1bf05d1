section MH
variable {p : Program} {l : Launch} {e : Env} {R : Room} {s : State} {m : MethodId} {args : Array Value} {below : List Frame} {meth : Method} {c : Code} {Q : State → Prop} {B b : Nat} {D : va_G} {dA : Nat → ClassId} {M : mM}
theorem mE.hx (E : mE p R s m args meth c B D dA M) : p.tables.exec = Jvm.exec := E.1
theorem mE.hb (E : mE p R s m args meth c B D dA M) : c.code = mCd M := E.2.1
theorem mE.hm (E : mE p R s m args meth c B D dA M) : c.maxLocals = mLx M := E.2.2.1
theorem mE.ho (E : mE p R s m args meth c B D dA M) : s.vm.findClass (cN (mOw M)) = some m.cls := E.2.2.2.1
theorem mE.hg (E : mE p R s m args meth c B D dA M) : ∀ w ∈ lw_g, w.before args s = true := E.2.2.2.2.1
theorem mE.ht (E : mE p R s m args meth c B D dA M) {w : Cond} (h : w ∈ lw_tbl) (g : goodWord w = true) : w.before args s = true := E.hg w (lg_in h g)
theorem mE.hi (E : mE p R s m args meth c B D dA M) : mIn M = true → meth.name = "<init>" := E.2.2.2.2.2.1
theorem mE.hK (E : mE p R s m args meth c B D dA M) : va_K D vwCl (mtys dA) s := E.2.2.2.2.2.2.1
theorem mE.hz (E : mE p R s m args meth c B D dA M) : B ≤ s.heap.size := E.2.2.2.2.2.2.2.1
theorem mE.hr (E : mE p R s m args meth c B D dA M) : R = mRm M := E.2.2.2.2.2.2.2.2.1
theorem mE.hn (E : mE p R s m args meth c B D dA M) : mNs s := E.2.2.2.2.2.2.2.2.2
theorem mfs_at {B b j : Nat} {fs : List Value} {v : Value} (h : fs[j]? = some v) : (fs.map (mv B b))[j]? = some (mv B b v) := by rw [List.getElem?_map, h]; rfl
theorem mfs_set {B b j : Nat} {fs : List Value} {v : Value} : (fs.map (mv B b)).set j (mv B b v) = (fs.set j v).map (mv B b) := (List.map_set ..).symm
theorem lt_five {t : Nat} (h : t < 5) : t = 0 ∨ t = 1 ∨ t = 2 ∨ t = 3 ∨ t = 4 := by omega
def q_ldc (o i : Nat) (len pc : Nat) (lv : List (Nat × Value)) (st : List Value) (h : mh) (k n : Nat) : Option mF := match len, kiT o i with
  | 2, some v => some (pc + 2, lv, .int v :: st, h, k, n)
  | _, _ => none
theorem o_ldc (E : mE p R s m args meth c B D dA M) {i : Nat} {len pc : Nat} {lv : List (Nat × Value)} {st : List Value} {h : mh} {k n : Nat} {f : mF} (hd : decode (mCd M) pc = .ok (.ldc i, len)) (hq : q_ldc (mOw M) i len pc lv st h k n = some f) (hk : mV p l e R s m args below meth c Q B b D dA (mLx M) f) : mV p l e R s m args below meth c Q B b D dA (mLx M) (pc, lv, st, h, k, n) := by
  unfold q_ldc at hq
  split at hq
  · rename_i v hv
    cases hq
    intro H locs ls hR hS hl
    exact lv_ldc E.hx E.hb E.ho (E.ht (kiT_ok hv) rfl) hd (hk H locs ls hR hS hl)
  · cases hq
def q_ldc_w (o i : Nat) (len pc : Nat) (lv : List (Nat × Value)) (st : List Value) (h : mh) (k n : Nat) : Option mF := match len, kiT o i with
  | 3, some v => some (pc + 3, lv, .int v :: st, h, k, n)
  | _, _ => none
theorem o_ldc_w (E : mE p R s m args meth c B D dA M) {i : Nat} {len pc : Nat} {lv : List (Nat × Value)} {st : List Value} {h : mh} {k n : Nat} {f : mF} (hd : decode (mCd M) pc = .ok (.ldc_w i, len)) (hq : q_ldc_w (mOw M) i len pc lv st h k n = some f) (hk : mV p l e R s m args below meth c Q B b D dA (mLx M) f) : mV p l e R s m args below meth c Q B b D dA (mLx M) (pc, lv, st, h, k, n) := by
  unfold q_ldc_w at hq
  split at hq
  · rename_i v hv
    cases hq
    intro H locs ls hR hS hl
    exact lv_ldcw E.hx E.hb E.ho (E.ht (kiT_ok hv) rfl) hd (hk H locs ls hR hS hl)
  · cases hq
def q_ldc2 (o i : Nat) (len pc : Nat) (lv : List (Nat × Value)) (st : List Value) (h : mh) (k n : Nat) : Option mF := match len, klT o i with
  | 3, some v => some (pc + 3, lv, .long v :: st, h, k, n)
  | _, _ => none
theorem o_ldc2 (E : mE p R s m args meth c B D dA M) {i : Nat} {len pc : Nat} {lv : List (Nat × Value)} {st : List Value} {h : mh} {k n : Nat} {f : mF} (hd : decode (mCd M) pc = .ok (.ldc2_w i, len)) (hq : q_ldc2 (mOw M) i len pc lv st h k n = some f) (hk : mV p l e R s m args below meth c Q B b D dA (mLx M) f) : mV p l e R s m args below meth c Q B b D dA (mLx M) (pc, lv, st, h, k, n) := by
  unfold q_ldc2 at hq
  split at hq
  · rename_i v hv
    cases hq
    intro H locs ls hR hS hl
    exact lv_ldc2 E.hx E.hb E.ho (E.ht (klT_ok hv) rfl) hd (hk H locs ls hR hS hl)
  · cases hq
def q_getf (o i : Nat) (len pc : Nat) (lv : List (Nat × Value)) (st : List Value) (h : mh) (k n : Nat) : Option mF := match len, st with
  | 3, .ref a :: r => (match fT o i with
    | some (ci, j) => (match h[a]? with
      | some (.inr (ci', fs)) => if ci' = ci then (match fs[j]? with
        | some v => some (pc + 3, lv, v :: r, h, k, n)
        | none => none) else none
      | _ => none)
    | none => none)
  | _, _ => none
theorem o_getf (E : mE p R s m args meth c B D dA M) {i : Nat} {len pc : Nat} {lv : List (Nat × Value)} {st : List Value} {h : mh} {k n : Nat} {f : mF} (hd : decode (mCd M) pc = .ok (.getfield i, len)) (hq : q_getf (mOw M) i len pc lv st h k n = some f) (hk : mV p l e R s m args below meth c Q B b D dA (mLx M) f) : mV p l e R s m args below meth c Q B b D dA (mLx M) (pc, lv, st, h, k, n) := by
  unfold q_getf at hq
  split at hq
  · rename_i a r
    split at hq
    · rename_i ci j hf
      split at hq
      · rename_i ci' fs ha
        split at hq
        · rename_i hc
          split at hq
          · rename_i v hv
            cases hq
            subst hc
            intro H locs ls hR hS hl
            obtain ⟨h8, hj, hw⟩ := fT_ok hf
            exact va_get (D := D) (v := mv B b v) (C := cN ci') (T := cT ci') (N := cF ci') (ref := (cT ci' j).1) E.hx E.hb E.hg (cl_ig h8) E.ho E.hK hR.2 a (mW_at ha) (cl_at h8) j hj (E.ht hw rfl) (fun _ z => z) (mfs_at hv) hd (hk H locs ls hR hS hl)
          · cases hq
        · cases hq
      · cases hq
    · cases hq
  · cases hq
def mfit (ty : FieldType) (v : Value) : Bool := match ty, v with
  | .int, .int _ => true
  | .long, .long _ => true
  | .boolean, .int x => x == 0 || x == 1
  | .object _, .ref _ => true
  | .array _, .ref _ => true
  | _, _ => false
theorem mfit_ok {ty : FieldType} {v : Value} (h : mfit ty v = true) : narrow ty (mv B b v) = mv B b v ∧ fits ty (mv B b v) = true := by
  unfold mfit at h
  split at h
  · exact ⟨rfl, rfl⟩
  · exact ⟨rfl, rfl⟩
  · rename_i x
    refine ⟨?_, h⟩
    rw [Bool.or_eq_true, beq_iff_eq, beq_iff_eq] at h
    rcases h with rfl | rfl
    · exact (show Value.int ((0 : Int32) &&& 1) = Value.int 0 by decide)
    · exact (show Value.int ((1 : Int32) &&& 1) = Value.int 1 by decide)
  · exact ⟨rfl, rfl⟩
  · exact ⟨rfl, rfl⟩
  · cases h
/-- what a write of a field leaves -/
theorem mR_put {H H' : Heap} {h : mh} {a ci j : Nat} {fs : List Value} {v : Value} {cell : Cell} (h8 : ci < 8) (hj : j < cF ci) (hR : mR B b D dA h H) (ha : h[a]? = some (.inr (ci, fs))) (hl : j < fs.length) (hap : ∀ x y : Nat, x < cF ci → y < cF ci → x ≠ y → D.2 ci x ≠ D.2 ci y) (q1 : H[B + a]? = some cell) (q2 : cell.cls = D.1 ci) (q3 : cell.vm = .none) (q4 : ∀ k, k < cF ci → cell.slots[D.2 ci k]? = some (vp_V (fs.map (mv B b)) k)) (e1 : H'[B + a]? = some (cell.setSlot (D.2 ci j) (mv B b v))) (e2 : H'.size = H.size) (e3 : ∀ q : Nat, q ≠ B + a → H'[q]? = H[q]?) : mR B b D dA (h.set a (.inr (ci, fs.set j v))) H' := by
  refine mR_set (y := (B + a, .inr (ci, (fs.map (mv B b)).set j (mv B b v)))) (by show _ = (B + a, Sum.inr (ci, (fs.set j v).map (mv B b))); rw [mfs_set]) e2 hR ?_
  exact hR.2.set mW_D (mW_at ha) ⟨_, cl_at h8, t_OB.to (V := updV (vp_V (fs.map (mv B b))) j (mv B b v)) ⟨_, e1, q2, q3, t_set q4 hap hj (mv B b v)⟩ (fun i _ => vp_updV_set (by rw [List.length_map]; exact hl) (mv B b v) i)⟩ e3
def q_putf (o i : Nat) (ini : Bool) (len pc : Nat) (lv : List (Nat × Value)) (st : List Value) (h : mh) (k n : Nat) : Option mF := match len, st with
  | 3, v :: .ref a :: r => (match fT o i with
    | some (ci, j) => (match h[a]? with
      | some (.inr (ci', fs)) => if ci' = ci ∧ mfit (cY ci j) v = true ∧ j < fs.length ∧ ((cT ci j).2.2.2 = false ∨ (ini = true ∧ o = ci)) then some (pc + 3, lv, r, h.set a (.inr (ci, fs.set j v)), k, n) else none
      | _ => none)
    | none => none)
  | _, _ => none
theorem o_putf (E : mE p R s m args meth c B D dA M) {i : Nat} {len pc : Nat} {lv : List (Nat × Value)} {st : List Value} {h : mh} {k n : Nat} {f : mF} (hd : decode (mCd M) pc = .ok (.putfield i, len)) (hq : q_putf (mOw M) i (mIn M) len pc lv st h k n = some f) (hk : mV p l e R s m args below meth c Q B b D dA (mLx M) f) : mV p l e R s m args below meth c Q B b D dA (mLx M) (pc, lv, st, h, k, n) := by
  unfold q_putf at hq
  split at hq
  · rename_i v a r
    split at hq
    · rename_i ci j hf
      split at hq
      · rename_i ci' fs ha
        split at hq
        · rename_i hc
          obtain ⟨hc, hfit, hjl, hfin⟩ := hc
          cases hq
          subst hc
          intro H locs ls hR hS hl
          obtain ⟨h8, hj, hw⟩ := fT_ok hf
          obtain ⟨hn, hfi⟩ := mfit_ok (B := B) (b := b) hfit
          have hd2 := cl_ty h8 j hj
          have hap := va_apart (own := cN (mOw M)) E.hg (cl_ig h8) (cY ci') (cl_ty h8) (cl_nm h8) E.hK (cl_at h8)
          obtain ⟨r2, h1, cell, q1, q2, q3, q4⟩ := hR.2 a _ (mW_at ha)
          have hr : r2 = (cN ci', cT ci', cF ci') := Option.some.inj (h1.symm.trans (cl_at h8))
          subst hr
          obtain ⟨hSl, hfc, kC, hkC, hkind⟩ := E.hK.1 ci' _ (cl_at h8)
          obtain ⟨cf, kf, fi, fd, hi, hsl⟩ := hSl j hj
          have hlay := E.hg _ (cl_ig h8 _ (u_in_lay hj))
          unfold u_lay at hlay
          have hst := (u_facts hfc hkC (u_lays E.hg (cl_ig h8) hj) hi).1
          by_cases hfl : (cT ci' j).2.2.2 = false
          · rw [if_neg (by rw [hfl]; decide)] at hlay
            have h6 := u_store hfc hkC hkind hlay hi hd2 hn hfi
            refine W.putK E.hx E.hb (f := fd) ⟨E.ho, E.ht hw rfl, ⟨_, _, _, hi⟩, hst⟩ (by rw [q2]; exact h6) q1 q3 (by rw [hsl]; exact k2_hasslot (q4 j hj)) rfl rfl hd fun H' e1 e2 e3 => ?_
            rw [hsl] at e1 ⊢
            exact hk H' _ ls (mR_put h8 hj hR ha hjl hap q1 q2 q3 q4 e1 e2 e3) (hS.put e2 e3 (Nat.le_add_right B a)) hl
          · have hfl2 : (cT ci' j).2.2.2 = true := by cases hz : (cT ci' j).2.2.2 with
              | true => rfl
              | false => exact absurd hz hfl
            obtain ⟨hi0, hoc⟩ : mIn M = true ∧ mOw M = ci' := by
              rcases hfin with z | z
              · exact absurd z hfl
              · exact z
            rw [if_pos hfl2] at hlay
            have hcf : m.cls = cf := by
              obtain ⟨_, _, c', _, _, _, -, -, hf', -, -, -, hown2, -⟩ := Cond.laysFinal_spec hlay
              have e1 : c' = cf := by have := hi.symm.trans hf'; simp at this; exact this.1.symm
              rw [cl_dc h8 j hj, ← hoc] at hown2
              rw [← e1]; exact Option.some.inj (E.ho.symm.trans hown2)
            have h6 := u_fits hfc hkC hkind (Or.inr hlay) hi hd2 hn hfi
            refine W.putFinK E.hx E.hb E.ho (E.ht hw rfl) hi hst hcf (E.hi hi0) (by rw [q2]; exact h6) q1 q3 (by rw [hsl]; exact k2_hasslot (q4 j hj)) rfl rfl hd fun H' e1 e2 e3 => ?_
            rw [hsl] at e1 ⊢
            exact hk H' _ ls (mR_put h8 hj hR ha hjl hap q1 q2 q3 q4 e1 e2 e3) (hS.put e2 e3 (Nat.le_add_right B a)) hl
        · cases hq
      · cases hq
    · cases hq
  · cases hq
def q_iald  (len pc : Nat) (lv : List (Nat × Value)) (st : List Value) (h : mh) (k n : Nat) : Option mF := match len, st with
  | 1, .int i :: .ref a :: r => (match h[a]? with
    | some (.inl (0, z, .inl f)) => if i < 0 ∨ z ≤ i.toNatClampNeg then none else some (pc + 1, lv, .int (f i.toNatClampNeg) :: r, h, k, n)
    | _ => none)
  | _, _ => none
theorem o_iald (E : mE p R s m args meth c B D dA M)  {len pc : Nat} {lv : List (Nat × Value)} {st : List Value} {h : mh} {k n : Nat} {f : mF} (hd : decode (mCd M) pc = .ok (.iaload, len)) (hq : q_iald  len pc lv st h k n = some f) (hk : mV p l e R s m args below meth c Q B b D dA (mLx M) f) : mV p l e R s m args below meth c Q B b D dA (mLx M) (pc, lv, st, h, k, n) := by
  unfold q_iald at hq
  split at hq
  · rename_i i a r
    split at hq
    · rename_i z f ha
      split at hq
      · cases hq
      · rename_i hc
        cases hq
        intro H locs ls hR hS hl
        exact va_iald (D := D) E.hx E.hb E.hK hR.2 a 0 (mW_at ha) rfl hc hd (hk H locs ls hR hS hl)
    · cases hq
  · cases hq
def q_lald  (len pc : Nat) (lv : List (Nat × Value)) (st : List Value) (h : mh) (k n : Nat) : Option mF := match len, st with
  | 1, .int i :: .ref a :: r => (match h[a]? with
    | some (.inl (1, z, .inr (.inl f))) => if i < 0 ∨ z ≤ i.toNatClampNeg then none else some (pc + 1, lv, .long (f i.toNatClampNeg) :: r, h, k, n)
    | _ => none)
  | _, _ => none
theorem o_lald (E : mE p R s m args meth c B D dA M)  {len pc : Nat} {lv : List (Nat × Value)} {st : List Value} {h : mh} {k n : Nat} {f : mF} (hd : decode (mCd M) pc = .ok (.laload, len)) (hq : q_lald  len pc lv st h k n = some f) (hk : mV p l e R s m args below meth c Q B b D dA (mLx M) f) : mV p l e R s m args below meth c Q B b D dA (mLx M) (pc, lv, st, h, k, n) := by
  unfold q_lald at hq
  split at hq
  · rename_i i a r
    split at hq
    · rename_i z f ha
      split at hq
      · cases hq
      · rename_i hc
        cases hq
        intro H locs ls hR hS hl
        exact va_lald (D := D) E.hx E.hb E.hK hR.2 a 1 (mW_at ha) rfl hc hd (hk H locs ls hR hS hl)
    · cases hq
  · cases hq
def q_bald  (len pc : Nat) (lv : List (Nat × Value)) (st : List Value) (h : mh) (k n : Nat) : Option mF := match len, st with
  | 1, .int i :: .ref a :: r => (match h[a]? with
    | some (.inl (2, z, .inl f)) => if i < 0 ∨ z ≤ i.toNatClampNeg then none else some (pc + 1, lv, .int (f i.toNatClampNeg) :: r, h, k, n)
    | _ => none)
  | _, _ => none
theorem o_bald (E : mE p R s m args meth c B D dA M)  {len pc : Nat} {lv : List (Nat × Value)} {st : List Value} {h : mh} {k n : Nat} {f : mF} (hd : decode (mCd M) pc = .ok (.baload, len)) (hq : q_bald  len pc lv st h k n = some f) (hk : mV p l e R s m args below meth c Q B b D dA (mLx M) f) : mV p l e R s m args below meth c Q B b D dA (mLx M) (pc, lv, st, h, k, n) := by
  unfold q_bald at hq
  split at hq
  · rename_i i a r
    split at hq
    · rename_i z f ha
      split at hq
      · cases hq
      · rename_i hc
        cases hq
        intro H locs ls hR hS hl
        exact va_zald (D := D) E.hx E.hb E.hK hR.2 a 2 (mW_at ha) rfl hc hd (hk H locs ls hR hS hl)
    · cases hq
  · cases hq
def q_aald  (len pc : Nat) (lv : List (Nat × Value)) (st : List Value) (h : mh) (k n : Nat) : Option mF := match len, st with
  | 1, .int i :: .ref a :: r => (match h[a]? with
    | some (.inl (t, z, .inr (.inr (.inr (.inr f))))) => if t = 3 ∨ t = 4 then (if i < 0 ∨ z ≤ i.toNatClampNeg then none else some (pc + 1, lv, va_rf (f i.toNatClampNeg) :: r, h, k, n)) else none
    | _ => none)
  | _, _ => none
theorem o_aald (E : mE p R s m args meth c B D dA M)  {len pc : Nat} {lv : List (Nat × Value)} {st : List Value} {h : mh} {k n : Nat} {f : mF} (hd : decode (mCd M) pc = .ok (.aaload, len)) (hq : q_aald  len pc lv st h k n = some f) (hk : mV p l e R s m args below meth c Q B b D dA (mLx M) f) : mV p l e R s m args below meth c Q B b D dA (mLx M) (pc, lv, st, h, k, n) := by
  unfold q_aald at hq
  split at hq
  · rename_i i a r
    split at hq
    · rename_i t z f ha
      split at hq
      · rename_i ht
        split at hq
        · cases hq
        · rename_i hc
          cases hq
          intro H locs ls hR hS hl
          have e : mv B b (va_rf (f i.toNatClampNeg)) = va_rf (mrf B f i.toNatClampNeg) := by
            unfold mrf
            cases f i.toNatClampNeg <;> rfl
          have hk2 := hk H locs ls hR hS hl
          simp only [List.map_cons, e] at hk2
          rcases ht with rfl | rfl
          · exact va_aldq (D := D) (C := RX3) E.hx E.hb E.hK hR.2 a 3 (mW_at ha) rfl hc hd hk2
          · exact va_aldq (D := D) (C := RX0) E.hx E.hb E.hK hR.2 a 4 (mW_at ha) rfl hc hd hk2
      · cases hq
    · cases hq
  · cases hq
def q_alen  (len pc : Nat) (lv : List (Nat × Value)) (st : List Value) (h : mh) (k n : Nat) : Option mF := match len, st with
  | 1, .ref a :: r => (match h[a]? with
    | some (.inl (t, z, g)) => if t < 5 then some (pc + 1, lv, .int (Int32.ofNat z) :: r, h, k, n) else none
    | _ => none)
  | _, _ => none
theorem o_alen (E : mE p R s m args meth c B D dA M)  {len pc : Nat} {lv : List (Nat × Value)} {st : List Value} {h : mh} {k n : Nat} {f : mF} (hd : decode (mCd M) pc = .ok (.arraylength, len)) (hq : q_alen  len pc lv st h k n = some f) (hk : mV p l e R s m args below meth c Q B b D dA (mLx M) f) : mV p l e R s m args below meth c Q B b D dA (mLx M) (pc, lv, st, h, k, n) := by
  unfold q_alen at hq
  split at hq
  · rename_i a r
    split at hq
    · rename_i t z g ha
      split at hq
      · rename_i ht
        cases hq
        intro H locs ls hR hS hl
        have ht : @LT.lt Nat _ t 5 := ht
        have hty : ∃ ty, (mtys dA)[t]? = some (dA t, ty) := by
          rcases lt_five ht with rfl | rfl | rfl | rfl | rfl <;> exact ⟨_, rfl⟩
        obtain ⟨ty, hty⟩ := hty
        have hw := mW_at (B := B) (b := b) (dA := dA) ha
        have hx : ∃ x : vp_A, mcv B b dA (.inl (t, z, g)) = .inl (dA t, x) ∧ x.1 = z := by
          rcases g with g | g | g | g | g <;> exact ⟨_, rfl, rfl⟩
        obtain ⟨x, hx, hz⟩ := hx
        rw [hx] at hw
        exact va_alen (D := D) E.hx E.hb E.hK hR.2 a t hw hty (by rw [hz]) hd (hk H locs ls hR hS hl)
      · cases hq
    · cases hq
  · cases hq
def q_iast  (len pc : Nat) (lv : List (Nat × Value)) (st : List Value) (h : mh) (k n : Nat) : Option mF := match len, st with
  | 1, .int x :: .int i :: .ref a :: r => (match h[a]? with
    | some (.inl (0, z, .inl f)) => if i < 0 ∨ z ≤ i.toNatClampNeg then none else some (pc + 1, lv, r, h.set a (.inl (0, z, .inl (upd f i.toNatClampNeg x))), k, n)
    | _ => none)
  | _, _ => none
theorem o_iast (E : mE p R s m args meth c B D dA M)  {len pc : Nat} {lv : List (Nat × Value)} {st : List Value} {h : mh} {k n : Nat} {f : mF} (hd : decode (mCd M) pc = .ok (.iastore, len)) (hq : q_iast  len pc lv st h k n = some f) (hk : mV p l e R s m args below meth c Q B b D dA (mLx M) f) : mV p l e R s m args below meth c Q B b D dA (mLx M) (pc, lv, st, h, k, n) := by
  unfold q_iast at hq
  split at hq
  · rename_i x i a r
    split at hq
    · rename_i z f ha
      split at hq
      · cases hq
      · rename_i hc
        cases hq
        intro H locs ls hR hS hl
        refine W.iast E.hx E.hb (hR.2 a _ (mW_at ha)) ((E.hK.2 0 _ rfl).1 z (fun j => .int (f j))) (fun q => by cases q) (by show ¬ (i < 0 ∨ (arrV _ _ _).slots.size ≤ _); rw [arrV_size]; exact hc) rfl rfl hd fun H1 e1 z1 oq => ?_
        refine hk H1 _ ls (mR_set rfl z1 hR (hR.2.set mW_D (mW_at ha) ?_ oq)) (hS.put z1 oq (Nat.le_add_right B a)) hl
        show H1[B + a]? = some (vp_cell _ _)
        rw [e1]
        rw [vp_cell_i, vp_cell_i, arrV_store]
        congr 2
        funext q
        by_cases hq : q = i.toNatClampNeg
        · subst hq
          simp [updV, upd]
          try rfl
        · simp [updV, upd, hq]
    · cases hq
  · cases hq
def q_last  (len pc : Nat) (lv : List (Nat × Value)) (st : List Value) (h : mh) (k n : Nat) : Option mF := match len, st with
  | 1, .long x :: .int i :: .ref a :: r => (match h[a]? with
    | some (.inl (1, z, .inr (.inl f))) => if i < 0 ∨ z ≤ i.toNatClampNeg then none else some (pc + 1, lv, r, h.set a (.inl (1, z, .inr (.inl (vp_updL f i.toNatClampNeg x)))), k, n)
    | _ => none)
  | _, _ => none
theorem o_last (E : mE p R s m args meth c B D dA M)  {len pc : Nat} {lv : List (Nat × Value)} {st : List Value} {h : mh} {k n : Nat} {f : mF} (hd : decode (mCd M) pc = .ok (.lastore, len)) (hq : q_last  len pc lv st h k n = some f) (hk : mV p l e R s m args below meth c Q B b D dA (mLx M) f) : mV p l e R s m args below meth c Q B b D dA (mLx M) (pc, lv, st, h, k, n) := by
  unfold q_last at hq
  split at hq
  · rename_i x i a r
    split at hq
    · rename_i z f ha
      split at hq
      · cases hq
      · rename_i hc
        cases hq
        intro H locs ls hR hS hl
        refine W.last E.hx E.hb (hR.2 a _ (mW_at ha)) ((E.hK.2 1 _ rfl).1 z (fun j => .long (f j))) (fun q => by cases q) (by show ¬ (i < 0 ∨ (arrV _ _ _).slots.size ≤ _); rw [arrV_size]; exact hc) rfl rfl hd fun H1 e1 z1 oq => ?_
        refine hk H1 _ ls (mR_set rfl z1 hR (hR.2.set mW_D (mW_at ha) ?_ oq)) (hS.put z1 oq (Nat.le_add_right B a)) hl
        show H1[B + a]? = some (vp_cell _ _)
        rw [e1]
        rw [vp_cell_l, vp_cell_l, arrV_store]
        congr 2
        funext q
        by_cases hq : q = i.toNatClampNeg
        · subst hq
          simp [updV, vp_updL]
          try rfl
        · simp [updV, vp_updL, hq]
    · cases hq
  · cases hq
def q_bast  (len pc : Nat) (lv : List (Nat × Value)) (st : List Value) (h : mh) (k n : Nat) : Option mF := match len, st with
  | 1, .int x :: .int i :: .ref a :: r => (match h[a]? with
    | some (.inl (2, z, .inl f)) => if i < 0 ∨ z ≤ i.toNatClampNeg then none else some (pc + 1, lv, r, h.set a (.inl (2, z, .inl (upd f i.toNatClampNeg (vp_nar .boolean x)))), k, n)
    | _ => none)
  | _, _ => none
theorem o_bast (E : mE p R s m args meth c B D dA M)  {len pc : Nat} {lv : List (Nat × Value)} {st : List Value} {h : mh} {k n : Nat} {f : mF} (hd : decode (mCd M) pc = .ok (.bastore, len)) (hq : q_bast  len pc lv st h k n = some f) (hk : mV p l e R s m args below meth c Q B b D dA (mLx M) f) : mV p l e R s m args below meth c Q B b D dA (mLx M) (pc, lv, st, h, k, n) := by
  unfold q_bast at hq
  split at hq
  · rename_i x i a r
    split at hq
    · rename_i z f ha
      split at hq
      · cases hq
      · rename_i hc
        cases hq
        intro H locs ls hR hS hl
        refine W.zast E.hx E.hb (hR.2 a _ (mW_at ha)) ((E.hK.2 2 _ rfl).1 z (fun j => .int (f j))) (fun q => by cases q) (by show ¬ (i < 0 ∨ (arrV _ _ _).slots.size ≤ _); rw [arrV_size]; exact hc) rfl rfl hd fun H1 e1 z1 oq => ?_
        refine hk H1 _ ls (mR_set rfl z1 hR (hR.2.set mW_D (mW_at ha) ?_ oq)) (hS.put z1 oq (Nat.le_add_right B a)) hl
        show H1[B + a]? = some (vp_cell _ _)
        rw [e1]
        rw [vp_cell_i, vp_cell_i, arrV_store]
        congr 2
        funext q
        by_cases hq : q = i.toNatClampNeg
        · subst hq
          simp [updV, upd, vp_nar]
          try rfl
        · simp [updV, upd, hq]
    · cases hq
  · cases hq
def q_aast  (len pc : Nat) (lv : List (Nat × Value)) (st : List Value) (h : mh) (k n : Nat) : Option mF := match len, st with
  | 1, .ref v :: .int i :: .ref a :: r => (match h[a]?, h[v]? with
    | some (.inl (t, z, .inr (.inr (.inr (.inr f))))), some (.inr (ci, vs)) => if (t = 3 ∧ ci = 3) ∨ (t = 4 ∧ ci = 0) then (if i < 0 ∨ z ≤ i.toNatClampNeg then none else some (pc + 1, lv, r, h.set a (.inl (t, z, .inr (.inr (.inr (.inr (va_up f i.toNatClampNeg (some v))))))), k, n)) else none
    | _, _ => none)
  | _, _ => none
theorem o_aast (E : mE p R s m args meth c B D dA M)  {len pc : Nat} {lv : List (Nat × Value)} {st : List Value} {h : mh} {k n : Nat} {f : mF} (hd : decode (mCd M) pc = .ok (.aastore, len)) (hq : q_aast  len pc lv st h k n = some f) (hk : mV p l e R s m args below meth c Q B b D dA (mLx M) f) : mV p l e R s m args below meth c Q B b D dA (mLx M) (pc, lv, st, h, k, n) := by
  unfold q_aast at hq
  split at hq
  · rename_i v i a r
    split at hq
    · rename_i t z f ci vs ha hv
      split at hq
      · rename_i ht
        split at hq
        · cases hq
        · rename_i hc
          cases hq
          intro H locs ls hR hS hl
          have hlt : i.toNatClampNeg < z := Nat.not_le.mp fun q => hc (Or.inr q)
          have h0 : ¬ i < 0 := fun q => hc (Or.inl q)
          have h8 : ci < 8 := by omega
          obtain ⟨r', hr', cellV, g1, g2, g3, -⟩ := hR.2 v _ (mW_at hv)
          have hcls := (E.hK.1 ci _ (cl_at h8)).2
          have hty : (mtys dA)[t]? = some (dA t, .object (cN ci)) := by rcases ht with ⟨rfl, rfl⟩ | ⟨rfl, rfl⟩ <;> rfl
          obtain ⟨kA, comp, k1, k2, k3, -⟩ := (E.hK.2 t _ hty).2
          have hcomp : comp = D.1 ci := Option.some.inj (k3.symm.trans hcls.1)
          subst hcomp
          obtain ⟨kC, hkC, -⟩ := hcls.2
          refine W.aast E.hx E.hb (hR.2 a _ (mW_at ha)) (fun q h => by cases h) (fun h => by cases h) k1 k2 rfl hkC ⟨h0, by show _ < (arrV _ _ _).slots.size; rw [arrV_size]; exact hlt⟩ g1 (fun q h => by rw [g3] at h; cases h) (by rw [g2]; exact hkC) (by rw [g2]; exact va_assign hcls) rfl rfl hd fun H1 e1 z1 oq => ?_
          refine hk H1 _ ls (mR_set rfl z1 hR (hR.2.set mW_D (mW_at ha) ?_ oq)) (hS.put z1 oq (Nat.le_add_right B a)) hl
          show H1[B + a]? = some (vp_cell _ _)
          rw [e1]
          rw [vp_cell_q, vp_cell_q, arrV_store]
          congr 2
          funext q
          by_cases hq : q = i.toNatClampNeg
          · subst hq
            simp [updV, va_up, va_rf, mrf]
          · simp [updV, va_up, hq, mrf]
      · cases hq
    · cases hq
  · cases hq
def q_oini (o i fr lo : Nat) (len pc : Nat) (lv : List (Nat × Value)) (st : List Value) (h : mh) (k n : Nat) : Option mF := match len, st with
  | 3, .ref a :: r => (match koT o i with
    | some _ => if 1 ≤ fr ∧ (r.map fun v => v.category).sum + 12 ≤ lo then some (pc + 3, lv, r, h, k, n) else none
    | none => none)
  | _, _ => none
theorem o_oini (E : mE p R s m args meth c B D dA M) {i : Nat} {len pc : Nat} {lv : List (Nat × Value)} {st : List Value} {h : mh} {k n : Nat} {f : mF} (hd : decode (mCd M) pc = .ok (.invokespecial i, len)) (hq : q_oini (mOw M) i (mFr M) (mLo M) len pc lv st h k n = some f) (hk : mV p l e R s m args below meth c Q B b D dA (mLx M) f) : mV p l e R s m args below meth c Q B b D dA (mLx M) (pc, lv, st, h, k, n) := by
  unfold q_oini at hq
  split at hq
  · rename_i a r
    split at hq
    · rename_i u hu
      split at hq
      · rename_i hc
        cases hq
        intro H locs ls hR hS hl
        exact W.objInit E.hx E.hb E.ho (E.ht (koT_ok hu) rfl) (E.ht tb_oi rfl) (E.ht tb_oc rfl) rfl (by rw [E.hm]; exact hl.1) rfl hd (by rw [E.hr]; exact hc.1) (by rw [E.hr]; show 2 * 0 + ((r.map (mv B b)).map fun v => v.category).sum + 12 ≤ mLo M; rw [cat_mv]; omega) (hk H locs ls hR hS hl)
      · cases hq
    · cases hq
  · cases hq
end MH
