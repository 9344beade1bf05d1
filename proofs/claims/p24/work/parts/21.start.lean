/-- the reference's state behind its constructor -/
def ms0 : mS := (fun _ => 0, fun _ => 0, fun k => match k with | 0 => fun _ => (-1) | _ => fun _ => 0, fun _ _ => 0)
theorem hp0_eq : heq hp0 (hM hpC ms0) = true := by decide +kernel
theorem in_M2 : mC mX7_init [.ref 239] (hpC ++ [.inr (7, dfl 7)]) (hM hpC ms0, none) := mexq_ok (d := 8) ⟨okX7_init, odX7_init⟩ (by decide +kernel)
theorem law_entry {L : Nat} {xs : Nat → Int32} {N : Nat} {o : Unit} (hq : lx L xs N hpC ms0 = some o) : mB (gL L xs) mL_law (0, [(0, .retAddr 0)], [], [], 0, 0) := by
  refine mB_run odL_law 2 (g := (4, [(0, .retAddr 0)], [.ref 0, .ref 0], [.inr (6, dfl 6)], 1, 13)) rfl ?_
  refine mB_I (a := 0) (as := []) (rest := [.ref 0]) odL_law okX6_init lk_12_9 rfl in_C rfl rfl rfl ?_
  show mB _ mL_law (7, [(0, .retAddr 0)], [.ref 0], hpC, 2001, 60013)
  refine mB_st odL_law (g := (8, [(1, .ref 0), (0, .retAddr 0)], [], hpC, 2001, 60013)) rfl ?_
  refine mB_st odL_law (g := (11, [(1, .ref 0), (0, .retAddr 0)], [.ref 239], hpC ++ [.inr (7, dfl 7)], 2002, 60072)) ?_ ?_
  · rw [← hpC_len]
    rfl
  refine mB_st odL_law (g := (12, [(1, .ref 0), (0, .retAddr 0)], [.ref 239, .ref 239], hpC ++ [.inr (7, dfl 7)], 2002, 60072)) rfl ?_
  refine mB_I (a := 239) (as := []) (rest := [.ref 239]) odL_law okX7_init lk_12_12 rfl in_M2 rfl rfl rfl ?_
  show mB _ mL_law (15, [(1, .ref 0), (0, .retAddr 0)], [.ref 239], (hM hpC ms0), 2202, 110072)
  refine mB_st odL_law (g := (16, [(2, .ref 239), (1, .ref 0), (0, .retAddr 0)], [], (hM hpC ms0), 2202, 110072)) rfl ?_
  exact lex hpC_len hq

/-- the classes of arrays, as the tables have them -/
theorem mtys_of {s : State} {args : Array Value} (hts : ∀ w ∈ lw_tbl, w.before args s = true) : ∃ dA : Nat → ClassId, ∀ (k : Nat) (q : ClassId × FieldType), (mtys dA)[k]? = some q → ArrOfT s q.1 q.2 ∧ va_RA s q.1 q.2 := by
  have prim : ∀ ty : FieldType, (∀ C, ty ≠ .object C) → Cond.arrayClass ty ∈ lw_tbl → ∃ cA, ArrOfT s cA ty ∧ va_RA s cA ty := by
    intro ty hno hw
    obtain ⟨cA, kA, comp, h1, h2, h3⟩ := Cond.arrayClass_spec (hts _ hw)
    refine ⟨cA, fun n z => ⟨(fun k h => by cases h), kA, h2, comp, h3⟩, ?_⟩
    cases ty with
    | object C => exact absurd rfl (hno C)
    | _ => exact h1
  have robj : ∀ C : String, Cond.arrayOver (.object C) ∈ lw_tbl → ∃ cA, ArrOfT s cA (.object C) ∧ va_RA s cA (.object C) := by
    intro C hw
    obtain ⟨comp, cA, kA, h1, h2, h3, h4, h5⟩ := Cond.arrayOver_spec (hts _ hw)
    exact ⟨cA, fun n z => ⟨(fun k h => by cases h), kA, h3, comp, h4⟩, kA, comp, h3, h4, h1, h5⟩
  obtain ⟨a0, p0⟩ := prim .int (fun C h => by cases h) tb_ci
  obtain ⟨a1, p1⟩ := prim .long (fun C h => by cases h) tb_cl
  obtain ⟨a2, p2⟩ := prim .boolean (fun C h => by cases h) tb_cz
  obtain ⟨a3, p3⟩ := robj RX3 tb_c3
  obtain ⟨a4, p4⟩ := robj RX0 tb_c0
  refine ⟨fun k => match k with | 0 => a0 | 1 => a1 | 2 => a2 | 3 => a3 | _ => a4, ?_⟩
  intro k q hq
  match k, hq with
  | 0, hq => cases hq; exact p0
  | 1, hq => cases hq; exact p1
  | 2, hq => cases hq; exact p2
  | 3, hq => cases hq; exact p3
  | 4, hq => cases hq; exact p4
  | k + 5, hq => simp [mtys] at hq
theorem cl_inst : ∀ {i : Nat}, i < 8 → ∃ n, Cond.instantiable (cN i) n ∈ lw_tbl
  | 0, _ => ⟨9, List.mem_append_right _ (List.mem_of_getElem? (i := 25) (by decide +kernel))⟩
  | 1, _ => ⟨10, List.mem_append_right _ (List.mem_of_getElem? (i := 193) (by decide +kernel))⟩
  | 2, _ => ⟨7, List.mem_append_right _ (List.mem_of_getElem? (i := 125) (by decide +kernel))⟩
  | 3, _ => ⟨4, List.mem_append_right _ (List.mem_of_getElem? (i := 31) (by decide +kernel))⟩
  | 4, _ => ⟨2, List.mem_append_right _ (List.mem_of_getElem? (i := 71) (by decide +kernel))⟩
  | 5, _ => ⟨9, List.mem_append_right _ (List.mem_of_getElem? (i := 131) (by decide +kernel))⟩
  | 6, _ => ⟨13, List.mem_append_right _ (List.mem_of_getElem? (i := 14) (by decide +kernel))⟩
  | 7, _ => ⟨59, List.mem_append_right _ (List.mem_of_getElem? (i := 719) (by decide +kernel))⟩
  | n + 8, h => absurd h (by omega)
theorem nT_ok : ∀ q ∈ nT, Cond.methodLinkNest (cN q.1) q.2.1 q.2.2.1 q.2.2.2 ∈ lw_tbl := by decide +kernel
set_option maxHeartbeats 4000000 in
/-- the whole claim out of the law as a function: if it says true for every script, the law does -/
theorem whole_of (hall : ∀ (L : Nat) (xs : Nat → Int32), L ≤ 3072 → ∃ N, lx L xs N hpC ms0 = some ()) {p : Program} {e : Env} {s : State} {m : MethodId} {below : List Frame} {meth : Method} {c : Code} (l : Launch) {b L : Nat} {xs : Nat → Int32} (hL : L ≤ 3072) (C0 : lw_At p s m meth c b L xs) : W p l e room_1 s m #[Value.ref b] below meth c s.heap [] 0 0 (lw_Z below #[Value.ref b] s) (entryFrame m ([Value.ref b] : List Value).toArray 4) := by
  obtain ⟨hx, hb, hr, hml, hown, hts, hX, hbl, hlocks, hgv⟩ := C0
  obtain ⟨N, hN⟩ := hall L xs hL
  have hK8 : ∀ k : Nat, k < 8 → ∃ (cC : ClassId) (iS : Nat → Nat), u_Kn s (cN k) (cT k) (cF k) cC iS := fun k hk => by
    obtain ⟨n, hn⟩ := cl_inst hk
    exact u_known (C := cN k) (T := cT k) (N := cF k) (n := n) hts (cl_in hk) (hts _ hn)
  have hD : ∃ D : va_G, ∀ (k : Nat) (q : vw_C), vwCl[k]? = some q → u_Kn s q.1 q.2.1 q.2.2 (D.1 k) (D.2 k) := by
    refine ⟨(fun k => if h : k < 8 then (hK8 k h).choose else 0, fun k => if h : k < 8 then (hK8 k h).choose_spec.choose else fun _ => 0), fun k q hq => ?_⟩
    have hk : k < 8 := (List.getElem?_eq_some_iff.mp hq).1
    rw [cl_at hk] at hq
    cases hq
    simp only [hk, dif_pos]
    exact (hK8 k hk).choose_spec.choose_spec
  obtain ⟨D, hKc⟩ := hD
  obtain ⟨dA, hKt⟩ := mtys_of hts
  have hNs : mNs s := ⟨fun q hq => va_Nw.of rfl (hts _ (nT_ok q hq)), va_AO.of (hts _ tb_c3), va_AO.of (hts _ tb_c0)⟩
  have E : mE p room_1 s m #[Value.ref b] meth c s.heap.size D dA mL_law := ⟨hx, hb, hml, hown, fun w hw => hts w (List.mem_filter.mp hw).1, fun h => absurd h (by decide), ⟨hKc, hKt⟩, Nat.le_refl _, rfl, hNs⟩
  rw [lg_entry_eq]
  have hl := lv_entry ([.ref b]) (n := 4) (Nat.le_of_ble_eq_true rfl)
  exact law_entry hN p l e room_1 s m #[Value.ref b] below meth c s.heap.size b D dA _ ⟨rfl, rfl, hr, hlocks, rfl, hbl, hX, hb⟩ E s.heap [] _ ⟨rfl, fun k q h => by simp [mW] at h⟩ va_S.rf hl
