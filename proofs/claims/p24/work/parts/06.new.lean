section MN
variable {p : Program} {l : Launch} {e : Env} {R : Room} {s : State} {m : MethodId} {args : Array Value} {below : List Frame} {meth : Method} {c : Code} {Q : State → Prop} {B b : Nat} {D : va_G} {dA : Nat → ClassId} {M : mM}
/-- a new cell at the end -/
theorem mR_push {H H1 : Heap} {h : mh} {x : va_E} (hR : mR B b D dA h H) (z1 : H1.size = H.size + 1) (o1 : ∀ q : Nat, q < H.size → H1[q]? = H[q]?) (e1 : va_at D vwCl (H.size, mcv B b dA x) H1) : mR B b D dA (h ++ [x]) H1 := by
  refine ⟨by rw [z1, hR.1, List.length_append]; show B + h.length + 1 = B + (h.length + 1); omega, ?_⟩
  rw [mW_app, ← hR.1]
  refine va_P.app (hR.2.kept (fun j x hx => o1 x.1 ((hR.2 j x hx).lt))) (fun j x hx => ?_)
  have hz : j < 1 := (List.getElem?_eq_some_iff.mp hx).1
  rw [show j = 0 by omega] at hx
  cases hx
  exact e1
theorem mS_push {H H1 : Heap} {locs : List Loc} {s : State} (hS : va_S (mA B) s.heap H locs) (z1 : H1.size = H.size + 1) (o1 : ∀ q : Nat, q < H.size → H1[q]? = H[q]?) : va_S (mA B) s.heap H1 locs :=
  ⟨Nat.le_trans hS.1 (by omega), fun x h1 h2 => (o1 x (Nat.lt_of_lt_of_le h1 hS.1)).trans (hS.2.1 x h1 h2), hS.2.2⟩
theorem nb_le {N : Nat} {ty : FieldType} (h8 : componentBytes ty ≤ 8) (hN : N ≤ 60000000) : N * componentBytes ty ≤ 536870912 := Nat.le_trans (Nat.mul_le_mul hN h8) (by decide)
def q_newi (ce sl : Nat) (len pc : Nat) (lv : List (Nat × Value)) (st : List Value) (h : mh) (k n : Nat) : Option mF := match len, st with
  | 2, .int i :: r => if i < 0 then none else (if k + 1 ≤ ce ∧ n + i.toNatClampNeg ≤ sl ∧ i.toNatClampNeg ≤ 60000000 then some (pc + 2, lv, .ref h.length :: r, h ++ [.inl (0, i.toNatClampNeg, .inl (fun _ => 0))], k + 1, n + i.toNatClampNeg) else none)
  | _, _ => none
theorem o_newi (E : mE p R s m args meth c B D dA M)  {len pc : Nat} {lv : List (Nat × Value)} {st : List Value} {h : mh} {k n : Nat} {f : mF} (hd : decode (mCd M) pc = .ok (.newarray .int, len)) (hq : q_newi (mCe M) (mSl M) len pc lv st h k n = some f) (hk : mV p l e R s m args below meth c Q B b D dA (mLx M) f) : mV p l e R s m args below meth c Q B b D dA (mLx M) (pc, lv, st, h, k, n) := by
  unfold q_newi at hq
  split at hq
  · rename_i i r
    split at hq
    · cases hq
    · rename_i h0
      split at hq
      · rename_i hc
        cases hq
        intro H locs ls hR hS hl
        have hw0 : (Cond.arrayClass .int).before args s = true := E.ht tb_ci rfl
        refine va_newaK E.hx E.hb (atype := .int) hw0 rfl hd rfl h0 rfl (nb_le (ty := .int) (by decide) hc.2.2) (by rw [E.hr]; exact hc.1) (by rw [E.hr]; exact hc.2.1) rfl fun H1 cA e1 z1 o1 hAr hNm => ?_
        have hcA : cA = dA 0 := by
          have h2 : s.vm.findClass ("[" ++ (FieldType.toString .int)) = some (dA 0) := (E.hK.2 0 _ rfl).2
          exact Option.some.inj (hNm.symm.trans h2)
        subst hcA
        refine W.eq (g2 := F0 m (pc + 2) ls (((Value.ref h.length) :: r).map (mv B b))) (by rw [hR.1]; rfl) ?_
        exact hk H1 locs ls (mR_push hR z1 o1 e1) (mS_push hS z1 o1) hl
      · cases hq
  · cases hq
def q_newl (ce sl : Nat) (len pc : Nat) (lv : List (Nat × Value)) (st : List Value) (h : mh) (k n : Nat) : Option mF := match len, st with
  | 2, .int i :: r => if i < 0 then none else (if k + 1 ≤ ce ∧ n + i.toNatClampNeg ≤ sl ∧ i.toNatClampNeg ≤ 60000000 then some (pc + 2, lv, .ref h.length :: r, h ++ [.inl (1, i.toNatClampNeg, .inr (.inl (fun _ => 0)))], k + 1, n + i.toNatClampNeg) else none)
  | _, _ => none
theorem o_newl (E : mE p R s m args meth c B D dA M)  {len pc : Nat} {lv : List (Nat × Value)} {st : List Value} {h : mh} {k n : Nat} {f : mF} (hd : decode (mCd M) pc = .ok (.newarray .long, len)) (hq : q_newl (mCe M) (mSl M) len pc lv st h k n = some f) (hk : mV p l e R s m args below meth c Q B b D dA (mLx M) f) : mV p l e R s m args below meth c Q B b D dA (mLx M) (pc, lv, st, h, k, n) := by
  unfold q_newl at hq
  split at hq
  · rename_i i r
    split at hq
    · cases hq
    · rename_i h0
      split at hq
      · rename_i hc
        cases hq
        intro H locs ls hR hS hl
        have hw0 : (Cond.arrayClass .long).before args s = true := E.ht tb_cl rfl
        refine va_newaK E.hx E.hb (atype := .long) hw0 rfl hd rfl h0 rfl (nb_le (ty := .long) (by decide) hc.2.2) (by rw [E.hr]; exact hc.1) (by rw [E.hr]; exact hc.2.1) rfl fun H1 cA e1 z1 o1 hAr hNm => ?_
        have hcA : cA = dA 1 := by
          have h2 : s.vm.findClass ("[" ++ (FieldType.toString .long)) = some (dA 1) := (E.hK.2 1 _ rfl).2
          exact Option.some.inj (hNm.symm.trans h2)
        subst hcA
        refine W.eq (g2 := F0 m (pc + 2) ls (((Value.ref h.length) :: r).map (mv B b))) (by rw [hR.1]; rfl) ?_
        exact hk H1 locs ls (mR_push hR z1 o1 e1) (mS_push hS z1 o1) hl
      · cases hq
  · cases hq
def q_newz (ce sl : Nat) (len pc : Nat) (lv : List (Nat × Value)) (st : List Value) (h : mh) (k n : Nat) : Option mF := match len, st with
  | 2, .int i :: r => if i < 0 then none else (if k + 1 ≤ ce ∧ n + i.toNatClampNeg ≤ sl ∧ i.toNatClampNeg ≤ 60000000 then some (pc + 2, lv, .ref h.length :: r, h ++ [.inl (2, i.toNatClampNeg, .inl (fun _ => 0))], k + 1, n + i.toNatClampNeg) else none)
  | _, _ => none
theorem o_newz (E : mE p R s m args meth c B D dA M)  {len pc : Nat} {lv : List (Nat × Value)} {st : List Value} {h : mh} {k n : Nat} {f : mF} (hd : decode (mCd M) pc = .ok (.newarray .boolean, len)) (hq : q_newz (mCe M) (mSl M) len pc lv st h k n = some f) (hk : mV p l e R s m args below meth c Q B b D dA (mLx M) f) : mV p l e R s m args below meth c Q B b D dA (mLx M) (pc, lv, st, h, k, n) := by
  unfold q_newz at hq
  split at hq
  · rename_i i r
    split at hq
    · cases hq
    · rename_i h0
      split at hq
      · rename_i hc
        cases hq
        intro H locs ls hR hS hl
        have hw0 : (Cond.arrayClass .boolean).before args s = true := E.ht tb_cz rfl
        refine va_newaK E.hx E.hb (atype := .boolean) hw0 rfl hd rfl h0 rfl (nb_le (ty := .boolean) (by decide) hc.2.2) (by rw [E.hr]; exact hc.1) (by rw [E.hr]; exact hc.2.1) rfl fun H1 cA e1 z1 o1 hAr hNm => ?_
        have hcA : cA = dA 2 := by
          have h2 : s.vm.findClass ("[" ++ (FieldType.toString .boolean)) = some (dA 2) := (E.hK.2 2 _ rfl).2
          exact Option.some.inj (hNm.symm.trans h2)
        subst hcA
        refine W.eq (g2 := F0 m (pc + 2) ls (((Value.ref h.length) :: r).map (mv B b))) (by rw [hR.1]; rfl) ?_
        exact hk H1 locs ls (mR_push hR z1 o1 e1) (mS_push hS z1 o1) hl
      · cases hq
  · cases hq
def q_anew (o i ce sl : Nat) (len pc : Nat) (lv : List (Nat × Value)) (st : List Value) (h : mh) (k n : Nat) : Option mF := match len, st with
  | 3, .int j :: r => (match kcT o i with
    | some ci => if j < 0 then none else (if k + 1 ≤ ce ∧ n + j.toNatClampNeg ≤ sl ∧ j.toNatClampNeg ≤ 60000000 ∧ (ci = 3 ∨ ci = 0) then some (pc + 3, lv, .ref h.length :: r, h ++ [.inl ((if ci = 3 then 3 else 4), j.toNatClampNeg, .inr (.inr (.inr (.inr (fun _ => none)))))], k + 1, n + j.toNatClampNeg) else none)
    | none => none)
  | _, _ => none
theorem o_anew (E : mE p R s m args meth c B D dA M) {i : Nat} {len pc : Nat} {lv : List (Nat × Value)} {st : List Value} {h : mh} {k n : Nat} {f : mF} (hd : decode (mCd M) pc = .ok (.anewarray i, len)) (hq : q_anew (mOw M) i (mCe M) (mSl M) len pc lv st h k n = some f) (hk : mV p l e R s m args below meth c Q B b D dA (mLx M) f) : mV p l e R s m args below meth c Q B b D dA (mLx M) (pc, lv, st, h, k, n) := by
  unfold q_anew at hq
  split at hq
  · rename_i j r
    split at hq
    · rename_i ci hci
      split at hq
      · cases hq
      · rename_i h0
        split at hq
        · rename_i hc
          cases hq
          intro H locs ls hR hS hl
          obtain ⟨h8, hcl, -, -⟩ := kcT_ok hci
          have hov : (Cond.arrayOver (.object (cN ci))).before args s = true := by
            rcases hc.2.2.2 with rfl | rfl
            · exact va_AO.use E.hn.2.1
            · exact va_AO.use E.hn.2.2
          have hty : (mtys dA)[if ci = 3 then 3 else 4]? = some (dA (if ci = 3 then 3 else 4), .object (cN ci)) := by
            rcases hc.2.2.2 with rfl | rfl <;> rfl
          refine W.anew E.hx E.hb E.ho (E.ht hcl rfl) hov rfl hd rfl h0 (by have := hc.2.2.1; omega) (by rw [E.hr]; exact hc.1) (by rw [E.hr]; exact hc.2.1) fun cA kA comp f1 f2 f3 f4 => ?_
          obtain ⟨kA', comp', -, -, -, hNm⟩ := (E.hK.2 _ _ hty).2
          have hcA : cA = dA (if ci = 3 then 3 else 4) := Option.some.inj (f1.symm.trans hNm)
          subst hcA
          generalize hH1 : H.push ({ cls := dA (if ci = 3 then 3 else 4), slots := Array.replicate j.toNatClampNeg .null, vm := .none } : Cell) = H1
          have z1 : H1.size = H.size + 1 := by rw [← hH1, Array.size_push]
          have e1 : H1[H.size]? = some (arrV (dA (if ci = 3 then 3 else 4)) j.toNatClampNeg (fun _ => .null)) := by rw [← hH1, Array.getElem?_push_size, ← arrV_new]
          have o1 : ∀ q : Nat, q < H.size → H1[q]? = H[q]? := fun q hq => by rw [← hH1, Array.getElem?_push, if_neg (Nat.ne_of_lt hq)]
          refine W.eq (g2 := F0 m (pc + 3) ls (((Value.ref h.length) :: r).map (mv B b))) (by rw [hR.1]; rfl) ?_
          exact hk H1 locs ls (mR_push hR z1 o1 e1) (mS_push hS z1 o1) hl
        · cases hq
    · cases hq
  · cases hq
def dfl (ci : Nat) : List Value := (List.range (cF ci)).map (fun j => defaultValue (cY ci j))
theorem dfl_at {ci j : Nat} (hj : j < cF ci) : defaultValue (cY ci j) = vp_V ((dfl ci).map (mv B b)) j := by
  unfold vp_V dfl
  rw [List.getD_eq_getElem?_getD, List.getElem?_map, List.getElem?_map, List.getElem?_range hj]
  show _ = mv B b (defaultValue (cY ci j))
  cases cY ci j <;> rfl
def q_new (o i ce sl : Nat) (len pc : Nat) (lv : List (Nat × Value)) (st : List Value) (h : mh) (k n : Nat) : Option mF := match len, kcT o i with
  | 3, some ci => if k + 1 ≤ ce ∧ n + cF ci ≤ sl then some (pc + 3, lv, .ref h.length :: st, h ++ [.inr (ci, dfl ci)], k + 1, n + cF ci) else none
  | _, _ => none
theorem o_new (E : mE p R s m args meth c B D dA M) {i : Nat} {len pc : Nat} {lv : List (Nat × Value)} {st : List Value} {h : mh} {k n : Nat} {f : mF} (hd : decode (mCd M) pc = .ok (.new i, len)) (hq : q_new (mOw M) i (mCe M) (mSl M) len pc lv st h k n = some f) (hk : mV p l e R s m args below meth c Q B b D dA (mLx M) f) : mV p l e R s m args below meth c Q B b D dA (mLx M) (pc, lv, st, h, k, n) := by
  unfold q_new at hq
  split at hq
  · rename_i ci hci
    split at hq
    · rename_i hc
      cases hq
      intro H locs ls hR hS hl
      obtain ⟨h8, hcl, hin, hini⟩ := kcT_ok hci
      have hKn := E.hK.1 ci _ (cl_at h8)
      refine W.newcK E.hx E.hb E.ho (E.ht hcl rfl) (E.ht hin rfl) (E.ht hini rfl) rfl hd (by rw [E.hr]; exact hc.1) (by rw [E.hr]; exact hc.2) hKn.2.1 rfl fun H1 kC hkC e1 z1 o1 => ?_
      refine W.eq (g2 := F0 m (pc + 3) ls (((Value.ref h.length) :: st).map (mv B b))) (by rw [hR.1]; rfl) ?_
      exact hk H1 locs ls (mR_push hR z1 o1 ⟨_, cl_at h8, (u_born (cY ci) E.hg (cl_ig h8) hKn hkC e1 (cl_ty h8)).to (fun j hj => dfl_at hj)⟩) (mS_push hS z1 o1) hl
    · cases hq
  · cases hq
def q_acopy (o i fr lo : Nat) (len pc : Nat) (lv : List (Nat × Value)) (st : List Value) (h : mh) (k n : Nat) : Option mF := match len, st with
  | 3, .int q :: .int dp :: .ref a :: .int sp :: .ref a0 :: r => (match kaT o i, h[a0]?, h[a]? with
    | some _, some (.inl (0, n0, .inl u)), some (.inl (0, n1, .inl g)) => if sp < 0 ∨ dp < 0 ∨ q < 0 ∨ n0 < sp.toNatClampNeg + q.toNatClampNeg ∨ n1 < dp.toNatClampNeg + q.toNatClampNeg then none else (if 1 ≤ fr ∧ (r.map fun v => v.category).sum + (nativeFrameWords "java/lang/System" "arraycopy" 5 + 11) ≤ lo then some (pc + 3, lv, r, h.set a (.inl (0, n1, .inl (va_cpy u g sp.toNatClampNeg dp.toNatClampNeg q.toNatClampNeg))), k, n) else none)
    | _, _, _ => none)
  | _, _ => none
theorem o_acopy (E : mE p R s m args meth c B D dA M) {i : Nat} {len pc : Nat} {lv : List (Nat × Value)} {st : List Value} {h : mh} {k n : Nat} {f : mF} (hd : decode (mCd M) pc = .ok (.invokestatic i, len)) (hq : q_acopy (mOw M) i (mFr M) (mLo M) len pc lv st h k n = some f) (hk : mV p l e R s m args below meth c Q B b D dA (mLx M) f) : mV p l e R s m args below meth c Q B b D dA (mLx M) (pc, lv, st, h, k, n) := by
  unfold q_acopy at hq
  split at hq
  · rename_i q dp a sp a0 r
    split at hq
    · rename_i w1 n0 u n1 g hka ha0 ha
      split at hq
      · cases hq
      · rename_i hc
        split at hq
        · rename_i hroom
          cases hq
          intro H locs ls hR hS hl T hT X
          have h1 : ¬ sp < 0 := fun z => hc (Or.inl z)
          have h2 : ¬ dp < 0 := fun z => hc (Or.inr (Or.inl z))
          have h3 : ¬ q < 0 := fun z => hc (Or.inr (Or.inr (Or.inl z)))
          have h4 : sp.toNatClampNeg + q.toNatClampNeg ≤ n0 := Nat.not_lt.mp fun z => hc (Or.inr (Or.inr (Or.inr (Or.inl z))))
          have h5 : dp.toNatClampNeg + q.toNatClampNeg ≤ n1 := Nat.not_lt.mp fun z => hc (Or.inr (Or.inr (Or.inr (Or.inr z))))
          have nn : ∀ z : Int32, ¬ z < 0 → z.toInt = (z.toNatClampNeg : Int) := by
            intro z hz
            have hz0 : (0 : Int) ≤ z.toInt := by
              have := Int32.not_lt.mp hz
              simpa using Int32.le_iff_toInt_le.mp this
            show z.toInt = ((z.toInt.toNat : Nat) : Int)
            omega
          have c0 : H[B + a0]? = some (vp_cell (dA 0) (n0, .inl u)) := hR.2 a0 _ (mW_at ha0)
          have c1 : H[B + a]? = some (vp_cell (dA 0) (n1, .inl g)) := hR.2 a _ (mW_at ha)
          obtain ⟨-, k0, hk0, cm0, hkk0⟩ := (E.hK.2 0 _ rfl).1 n0 (fun j => .int (u j))
          obtain ⟨vm', X', stp⟩ := X.arraycopy E.hx E.ho (E.ht (kaT_ok hka) rfl) (E.ht tb_an rfl) (E.ht tb_as rfl) (E.ht tb_ai rfl) (src := B + a0) (dst := B + a) (cs := vp_cell (dA 0) (n0, .inl u)) (cd := vp_cell (dA 0) (n1, .inl g)) (srcPos := sp) (destPos := dp) (n := q) (by rw [hT]; exact c0) (by rw [hT]; exact c1) (fun _ h => by cases h) (fun _ h => by cases h) (fun h => by cases h) (fun h => by cases h) hk0 hk0 hkk0 hkk0 (by simp [refKind]) h1 h2 h3
            (by rw [nn sp h1, nn q h3]; show ¬ _ > ((arrV (dA 0) n0 (fun j => .int (u j))).slots.size : Int); rw [arrV_size]; omega)
            (by rw [nn dp h2, nn q h3]; show ¬ _ > ((arrV (dA 0) n1 (fun j => .int (g j))).slots.size : Int); rw [arrV_size]; omega)
            (fun vm₁ _ i hi => by
              have e9 : (vp_cell (dA 0) (n0, .inl u)).slots.getD (sp.toNatClampNeg + i) .null = .int (u (sp.toNatClampNeg + i)) := by
                show (arrV (dA 0) n0 (fun j => .int (u j))).slots.getD _ _ = _
                rw [Array.getD_eq_getD_getElem?, arrV_read _ _ (by omega)]
                rfl
              exact ⟨by rw [e9]; rfl, by rw [e9]; trivial⟩)
            (g := F0 m pc ls ((Value.int q :: .int dp :: .ref a :: .int sp :: .ref a0 :: r).map (mv B b))) rfl (by rw [E.hm]; exact hl.1) (rest := r.map (mv B b)) rfl (by rw [E.hb]; exact hd) (by rw [E.hr]; exact hroom.1) (by rw [E.hr]; show 2 * 0 + ((r.map (mv B b)).map fun v => v.category).sum + _ ≤ mLo M; rw [cat_mv]; have := hroom.2; omega)
          rw [show copied (vp_cell (dA 0) (n0, .inl u)) (vp_cell (dA 0) (n1, .inl g)) sp dp q = vp_cell (dA 0) (n1, .inl (va_cpy u g sp.toNatClampNeg dp.toNatClampNeg q.toNatClampNeg)) from va_copied (fun z => .int z) (dA 0) (dA 0) u g h4] at X' stp
          have hlt : B + a < H.size := (Array.getElem?_eq_some_iff.mp c1).1
          generalize hH1 : H.setIfInBounds (B + a) (vp_cell (dA 0) (n1, .inl (va_cpy u g sp.toNatClampNeg dp.toNatClampNeg q.toNatClampNeg))) = H1
          have z1 : H1.size = H.size := by rw [← hH1]; simp
          have oq : ∀ x : Nat, x ≠ B + a → H1[x]? = H[x]? := fun x hx => by rw [← hH1]; simp [Array.getElem?_setIfInBounds, Ne.symm hx]
          have e1 : H1[B + a]? = some (vp_cell (dA 0) (n1, .inl (va_cpy u g sp.toNatClampNeg dp.toNatClampNeg q.toNatClampNeg))) := by rw [← hH1]; simp [Array.getElem?_setIfInBounds, hlt]
          obtain ⟨t, a1, b1⟩ := hk H1 _ ls (mR_set rfl z1 hR (hR.2.set mW_D (mW_at ha) e1 oq)) ⟨by rw [z1]; exact hS.1, fun x g1 g2 => by
              rw [oq x (fun e => g2 (by rw [e]; exact Nat.le_add_right B a))]
              exact hS.2.1 x g1 g2, fun x hx => by
              rcases List.mem_append.mp hx with h | h
              · exact hS.2.2 x h
              · obtain ⟨z, -, hz⟩ := List.mem_map.mp h
                rw [← hz]
                exact Nat.le_add_right B a⟩ hl _ (by rw [← hH1, ← hT]; rfl) X'
          exact ⟨t, stp t a1, b1⟩
        · cases hq
    · cases hq
  · cases hq
theorem mx_if {x y : Int32} : (if x < y then Value.int y else .int x) = .int (if x < y then y else x) := by split <;> rfl
def q_math0 (o i fr lo ce sl : Nat) (len pc : Nat) (lv : List (Nat × Value)) (st : List Value) (h : mh) (k n : Nat) : Option mF := match len, st with
  | 3, .int x :: r => if 1 ≤ fr ∧ (r.map fun v => v.category).sum + 20 ≤ lo ∧ k ≤ ce ∧ n ≤ sl then some (pc + 3, lv, .int (if 0 ≤ x then x else 0 - x) :: r, h, k, n) else none
  | _, _ => none
theorem o_math0 (E : mE p R s m args meth c B D dA M) {i : Nat} {len pc : Nat} {lv : List (Nat × Value)} {st : List Value} {h : mh} {k n : Nat} {f : mF} (hkm : kmT (mOw M) i = some 0) (hd : decode (mCd M) pc = .ok (.invokestatic i, len)) (hq : q_math0 (mOw M) i (mFr M) (mLo M) (mCe M) (mSl M) len pc lv st h k n = some f) (hk : mV p l e R s m args below meth c Q B b D dA (mLx M) f) : mV p l e R s m args below meth c Q B b D dA (mLx M) (pc, lv, st, h, k, n) := by
  unfold q_math0 at hq
  split at hq
  · split at hq
    · rename_i r hc
      cases hq
      intro H locs ls hR hS hl
      exact va_mabs E.hx E.hb (by rw [E.hm]; exact hl.1.symm) E.ho (E.ht (kmT_ok hkm) rfl) (E.ht tb_ms0 rfl) (E.ht tb_mi rfl) (E.ht tb_mc0 rfl) (by rw [E.hr]; exact hc.1) (by rw [E.hr]; show ((r.map (mv B b)).map fun v => v.category).sum + 13 ≤ mLo M; rw [cat_mv]; have := hc.2.1; omega) (by rw [E.hr]; exact hc.2.2.1) (by rw [E.hr]; exact hc.2.2.2) hd (hk H locs ls hR hS hl)
    · cases hq
  · cases hq
def q_math1 (o i fr lo ce sl : Nat) (len pc : Nat) (lv : List (Nat × Value)) (st : List Value) (h : mh) (k n : Nat) : Option mF := match len, st with
  | 3, .long x :: r => if 1 ≤ fr ∧ (r.map fun v => v.category).sum + 20 ≤ lo ∧ k ≤ ce ∧ n ≤ sl then some (pc + 3, lv, .long (if 0 < x then x else -x) :: r, h, k, n) else none
  | _, _ => none
theorem o_math1 (E : mE p R s m args meth c B D dA M) {i : Nat} {len pc : Nat} {lv : List (Nat × Value)} {st : List Value} {h : mh} {k n : Nat} {f : mF} (hkm : kmT (mOw M) i = some 1) (hd : decode (mCd M) pc = .ok (.invokestatic i, len)) (hq : q_math1 (mOw M) i (mFr M) (mLo M) (mCe M) (mSl M) len pc lv st h k n = some f) (hk : mV p l e R s m args below meth c Q B b D dA (mLx M) f) : mV p l e R s m args below meth c Q B b D dA (mLx M) (pc, lv, st, h, k, n) := by
  unfold q_math1 at hq
  split at hq
  · split at hq
    · rename_i r hc
      cases hq
      intro H locs ls hR hS hl
      exact va_mabs_long E.hx E.hb (by rw [E.hm]; exact hl.1.symm) E.ho (E.ht (kmT_ok hkm) rfl) (E.ht tb_ms1 rfl) (E.ht tb_mi rfl) (E.ht tb_mc1 rfl) (by rw [E.hr]; exact hc.1) (by rw [E.hr]; show ((r.map (mv B b)).map fun v => v.category).sum + 13 ≤ mLo M; rw [cat_mv]; have := hc.2.1; omega) (by rw [E.hr]; exact hc.2.2.1) (by rw [E.hr]; exact hc.2.2.2) hd (hk H locs ls hR hS hl)
    · cases hq
  · cases hq
def q_math2 (o i fr lo ce sl : Nat) (len pc : Nat) (lv : List (Nat × Value)) (st : List Value) (h : mh) (k n : Nat) : Option mF := match len, st with
  | 3, .int y :: .int x :: r => if 1 ≤ fr ∧ (r.map fun v => v.category).sum + 20 ≤ lo ∧ k ≤ ce ∧ n ≤ sl then some (pc + 3, lv, .int (if x < y then y else x) :: r, h, k, n) else none
  | _, _ => none
theorem o_math2 (E : mE p R s m args meth c B D dA M) {i : Nat} {len pc : Nat} {lv : List (Nat × Value)} {st : List Value} {h : mh} {k n : Nat} {f : mF} (hkm : kmT (mOw M) i = some 2) (hd : decode (mCd M) pc = .ok (.invokestatic i, len)) (hq : q_math2 (mOw M) i (mFr M) (mLo M) (mCe M) (mSl M) len pc lv st h k n = some f) (hk : mV p l e R s m args below meth c Q B b D dA (mLx M) f) : mV p l e R s m args below meth c Q B b D dA (mLx M) (pc, lv, st, h, k, n) := by
  unfold q_math2 at hq
  split at hq
  · split at hq
    · rename_i r hc
      cases hq
      intro H locs ls hR hS hl
      exact va_mmax E.hx E.hb (by rw [E.hm]; exact hl.1.symm) E.ho (E.ht (kmT_ok hkm) rfl) (E.ht tb_ms2 rfl) (E.ht tb_mi rfl) (E.ht tb_mc2 rfl) (by rw [E.hr]; exact hc.1) (by rw [E.hr]; show ((r.map (mv B b)).map fun v => v.category).sum + 13 ≤ mLo M; rw [cat_mv]; have := hc.2.1; omega) (by rw [E.hr]; exact hc.2.2.1) (by rw [E.hr]; exact hc.2.2.2) hd (hk H locs ls hR hS hl)
    · cases hq
  · cases hq
def q_math3 (o i fr lo ce sl : Nat) (len pc : Nat) (lv : List (Nat × Value)) (st : List Value) (h : mh) (k n : Nat) : Option mF := match len, st with
  | 3, .int y :: .int x :: r => if 1 ≤ fr ∧ (r.map fun v => v.category).sum + 20 ≤ lo ∧ k ≤ ce ∧ n ≤ sl then some (pc + 3, lv, .int (if y < x then y else x) :: r, h, k, n) else none
  | _, _ => none
theorem o_math3 (E : mE p R s m args meth c B D dA M) {i : Nat} {len pc : Nat} {lv : List (Nat × Value)} {st : List Value} {h : mh} {k n : Nat} {f : mF} (hkm : kmT (mOw M) i = some 3) (hd : decode (mCd M) pc = .ok (.invokestatic i, len)) (hq : q_math3 (mOw M) i (mFr M) (mLo M) (mCe M) (mSl M) len pc lv st h k n = some f) (hk : mV p l e R s m args below meth c Q B b D dA (mLx M) f) : mV p l e R s m args below meth c Q B b D dA (mLx M) (pc, lv, st, h, k, n) := by
  unfold q_math3 at hq
  split at hq
  · split at hq
    · rename_i r hc
      cases hq
      intro H locs ls hR hS hl
      exact va_mmin E.hx E.hb (by rw [E.hm]; exact hl.1.symm) E.ho (E.ht (kmT_ok hkm) rfl) (E.ht tb_ms3 rfl) (E.ht tb_mi rfl) (E.ht tb_mc3 rfl) (by rw [E.hr]; exact hc.1) (by rw [E.hr]; show ((r.map (mv B b)).map fun v => v.category).sum + 13 ≤ mLo M; rw [cat_mv]; have := hc.2.1; omega) (by rw [E.hr]; exact hc.2.2.1) (by rw [E.hr]; exact hc.2.2.2) hd (hk H locs ls hR hS hl)
    · cases hq
  · cases hq
def q_stat (o i fr lo ce sl : Nat) (len pc : Nat) (lv : List (Nat × Value)) (st : List Value) (h : mh) (k n : Nat) : Option mF := match kmT o i with
  | some 0 => q_math0 o i fr lo ce sl len pc lv st h k n
  | some 1 => q_math1 o i fr lo ce sl len pc lv st h k n
  | some 2 => q_math2 o i fr lo ce sl len pc lv st h k n
  | some 3 => q_math3 o i fr lo ce sl len pc lv st h k n
  | _ => q_acopy o i fr lo len pc lv st h k n
theorem o_stat (E : mE p R s m args meth c B D dA M) {i : Nat} {len pc : Nat} {lv : List (Nat × Value)} {st : List Value} {h : mh} {k n : Nat} {f : mF} (hd : decode (mCd M) pc = .ok (.invokestatic i, len)) (hq : q_stat (mOw M) i (mFr M) (mLo M) (mCe M) (mSl M) len pc lv st h k n = some f) (hk : mV p l e R s m args below meth c Q B b D dA (mLx M) f) : mV p l e R s m args below meth c Q B b D dA (mLx M) (pc, lv, st, h, k, n) := by
  unfold q_stat at hq
  split at hq
  · rename_i hm
    exact o_math0 E hm hd hq hk
  · rename_i hm
    exact o_math1 E hm hd hq hk
  · rename_i hm
    exact o_math2 E hm hd hq hk
  · rename_i hm
    exact o_math3 E hm hd hq hk
  · exact o_acopy E hd hq hk
end MN
