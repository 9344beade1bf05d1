theorem cl_at : ∀ {i : Nat}, i < 8 → vwCl[i]? = some (cN i, cT i, cF i)
  | 0, _ => rfl
  | 1, _ => rfl
  | 2, _ => rfl
  | 3, _ => rfl
  | 4, _ => rfl
  | 5, _ => rfl
  | 6, _ => rfl
  | 7, _ => rfl
  | n + 8, h => absurd h (by omega)
theorem cl_in : ∀ {i : Nat}, i < 8 → ∀ w ∈ u_ws (cN i) (cT i) (cF i), w ∈ lw_tbl
  | 0, _ => inX0
  | 1, _ => inX1
  | 2, _ => inX2
  | 3, _ => inX3
  | 4, _ => inX4
  | 5, _ => inX5
  | 6, _ => inX6
  | 7, _ => inX7
  | n + 8, h => absurd h (by omega)
theorem cl_ty : ∀ {i : Nat}, i < 8 → ∀ k, k < cF i → parseFieldDescriptor (cT i k).2.2.1 = some (cY i k)
  | 0, _ => tyX0_ok
  | 1, _ => tyX1_ok
  | 2, _ => tyX2_ok
  | 3, _ => tyX3_ok
  | 4, _ => tyX4_ok
  | 5, _ => tyX5_ok
  | 6, _ => tyX6_ok
  | 7, _ => tyX7_ok
  | n + 8, h => absurd h (by omega)
theorem cl_nm : ∀ {i : Nat}, i < 8 → ∀ a, a < cF i → ∀ b, b < cF i → a ≠ b → (cT i a).2.1 ≠ (cT i b).2.1
  | 0, _ => nmX0
  | 1, _ => nmX1
  | 2, _ => nmX2
  | 3, _ => nmX3
  | 4, _ => nmX4
  | 5, _ => nmX5
  | 6, _ => nmX6
  | 7, _ => nmX7
  | n + 8, h => absurd h (by omega)
theorem dcX0 : ∀ k, k < cF 0 → (cT 0 k).1 = cN 0 := by decide +kernel
theorem dcX1 : ∀ k, k < cF 1 → (cT 1 k).1 = cN 1 := by decide +kernel
theorem dcX2 : ∀ k, k < cF 2 → (cT 2 k).1 = cN 2 := by decide +kernel
theorem dcX3 : ∀ k, k < cF 3 → (cT 3 k).1 = cN 3 := by decide +kernel
theorem dcX4 : ∀ k, k < cF 4 → (cT 4 k).1 = cN 4 := by decide +kernel
theorem dcX5 : ∀ k, k < cF 5 → (cT 5 k).1 = cN 5 := by decide +kernel
theorem dcX6 : ∀ k, k < cF 6 → (cT 6 k).1 = cN 6 := by decide +kernel
theorem dcX7 : ∀ k, k < cF 7 → (cT 7 k).1 = cN 7 := by decide +kernel
theorem cl_dc : ∀ {i : Nat}, i < 8 → ∀ k, k < cF i → (cT i k).1 = cN i
  | 0, _ => dcX0
  | 1, _ => dcX1
  | 2, _ => dcX2
  | 3, _ => dcX3
  | 4, _ => dcX4
  | 5, _ => dcX5
  | 6, _ => dcX6
  | 7, _ => dcX7
  | n + 8, h => absurd h (by omega)
def asc {α : Type} : List (Nat × α) → Nat → Option α
  | [], _ => none
  | q :: r, i => if q.1 = i then some q.2 else asc r i
theorem asc_mem {α : Type} {i : Nat} {v : α} : ∀ {l : List (Nat × α)}, asc l i = some v → (i, v) ∈ l
  | [], h => by cases h
  | q :: r, h => by
    unfold asc at h
    split at h
    · cases h; rename_i hq; subst hq; exact List.mem_cons_self
    · exact List.mem_cons_of_mem _ (asc_mem h)
def fP (o : Nat) (q : Nat × Nat × Nat) : Prop := q.2.1 < 8 ∧ q.2.2 < cF q.2.1 ∧ Cond.fieldLink (cN o) q.1 (cT q.2.1 q.2.2).1 (cT q.2.1 q.2.2).2.1 (cT q.2.1 q.2.2).2.2.1 ∈ lw_tbl
theorem fp_0_86 : fP 0 (86, 3, 0) := ⟨by decide, by decide, List.mem_append_right _ (List.mem_of_getElem? (i := 39) (by decide +kernel))⟩
theorem fp_0_89 : fP 0 (89, 3, 1) := ⟨by decide, by decide, List.mem_append_right _ (List.mem_of_getElem? (i := 45) (by decide +kernel))⟩
theorem fp_0_92 : fP 0 (92, 3, 2) := ⟨by decide, by decide, List.mem_append_right _ (List.mem_of_getElem? (i := 51) (by decide +kernel))⟩
theorem fp_0_95 : fP 0 (95, 3, 3) := ⟨by decide, by decide, List.mem_append_right _ (List.mem_of_getElem? (i := 57) (by decide +kernel))⟩
theorem fp_0_53 : fP 0 (53, 4, 1) := ⟨by decide, by decide, List.mem_append_right _ (List.mem_of_getElem? (i := 78) (by decide +kernel))⟩
theorem fp_0_9 : fP 0 (9, 0, 0) := ⟨by decide, by decide, List.mem_append_right _ (List.mem_of_getElem? (i := 84) (by decide +kernel))⟩
theorem fp_0_20 : fP 0 (20, 0, 1) := ⟨by decide, by decide, List.mem_append_right _ (List.mem_of_getElem? (i := 87) (by decide +kernel))⟩
theorem fp_0_24 : fP 0 (24, 0, 2) := ⟨by decide, by decide, List.mem_append_right _ (List.mem_of_getElem? (i := 90) (by decide +kernel))⟩
theorem fp_0_27 : fP 0 (27, 0, 3) := ⟨by decide, by decide, List.mem_append_right _ (List.mem_of_getElem? (i := 92) (by decide +kernel))⟩
theorem fp_0_31 : fP 0 (31, 0, 4) := ⟨by decide, by decide, List.mem_append_right _ (List.mem_of_getElem? (i := 94) (by decide +kernel))⟩
theorem fp_0_34 : fP 0 (34, 0, 5) := ⟨by decide, by decide, List.mem_append_right _ (List.mem_of_getElem? (i := 96) (by decide +kernel))⟩
theorem fp_0_37 : fP 0 (37, 0, 6) := ⟨by decide, by decide, List.mem_append_right _ (List.mem_of_getElem? (i := 98) (by decide +kernel))⟩
theorem fp_0_40 : fP 0 (40, 0, 7) := ⟨by decide, by decide, List.mem_append_right _ (List.mem_of_getElem? (i := 100) (by decide +kernel))⟩
theorem fp_0_46 : fP 0 (46, 0, 8) := ⟨by decide, by decide, List.mem_append_right _ (List.mem_of_getElem? (i := 102) (by decide +kernel))⟩
def fL_0_0 : List (Nat × Nat × Nat) := [(86, 3, 0), (89, 3, 1), (92, 3, 2), (95, 3, 3), (53, 4, 1), (9, 0, 0), (20, 0, 1), (24, 0, 2), (27, 0, 3), (31, 0, 4), (34, 0, 5), (37, 0, 6), (40, 0, 7), (46, 0, 8)]
theorem fK_0_0 : ∀ q ∈ fL_0_0, fP 0 q := List.forall_mem_cons.mpr ⟨fp_0_86, List.forall_mem_cons.mpr ⟨fp_0_89, List.forall_mem_cons.mpr ⟨fp_0_92, List.forall_mem_cons.mpr ⟨fp_0_95, List.forall_mem_cons.mpr ⟨fp_0_53, List.forall_mem_cons.mpr ⟨fp_0_9, List.forall_mem_cons.mpr ⟨fp_0_20, List.forall_mem_cons.mpr ⟨fp_0_24, List.forall_mem_cons.mpr ⟨fp_0_27, List.forall_mem_cons.mpr ⟨fp_0_31, List.forall_mem_cons.mpr ⟨fp_0_34, List.forall_mem_cons.mpr ⟨fp_0_37, List.forall_mem_cons.mpr ⟨fp_0_40, List.forall_mem_cons.mpr ⟨fp_0_46, fun _ h => absurd h List.not_mem_nil⟩⟩⟩⟩⟩⟩⟩⟩⟩⟩⟩⟩⟩⟩
def fL_0 : List (Nat × Nat × Nat) := fL_0_0
theorem fK_0 : ∀ q ∈ fL_0, fP 0 q := fK_0_0
theorem fp_1_63 : fP 1 (63, 3, 1) := ⟨by decide, by decide, List.mem_append_right _ (List.mem_of_getElem? (i := 42) (by decide +kernel))⟩
theorem fp_1_64 : fP 1 (64, 3, 2) := ⟨by decide, by decide, List.mem_append_right _ (List.mem_of_getElem? (i := 49) (by decide +kernel))⟩
theorem fp_1_65 : fP 1 (65, 3, 3) := ⟨by decide, by decide, List.mem_append_right _ (List.mem_of_getElem? (i := 55) (by decide +kernel))⟩
theorem fp_1_9 : fP 1 (9, 1, 0) := ⟨by decide, by decide, List.mem_append_right _ (List.mem_of_getElem? (i := 198) (by decide +kernel))⟩
theorem fp_1_15 : fP 1 (15, 1, 1) := ⟨by decide, by decide, List.mem_append_right _ (List.mem_of_getElem? (i := 200) (by decide +kernel))⟩
theorem fp_1_18 : fP 1 (18, 1, 2) := ⟨by decide, by decide, List.mem_append_right _ (List.mem_of_getElem? (i := 202) (by decide +kernel))⟩
theorem fp_1_22 : fP 1 (22, 1, 3) := ⟨by decide, by decide, List.mem_append_right _ (List.mem_of_getElem? (i := 203) (by decide +kernel))⟩
theorem fp_1_26 : fP 1 (26, 1, 4) := ⟨by decide, by decide, List.mem_append_right _ (List.mem_of_getElem? (i := 204) (by decide +kernel))⟩
theorem fp_1_29 : fP 1 (29, 1, 5) := ⟨by decide, by decide, List.mem_append_right _ (List.mem_of_getElem? (i := 205) (by decide +kernel))⟩
theorem fp_1_32 : fP 1 (32, 1, 6) := ⟨by decide, by decide, List.mem_append_right _ (List.mem_of_getElem? (i := 206) (by decide +kernel))⟩
theorem fp_1_35 : fP 1 (35, 1, 7) := ⟨by decide, by decide, List.mem_append_right _ (List.mem_of_getElem? (i := 207) (by decide +kernel))⟩
theorem fp_1_38 : fP 1 (38, 1, 8) := ⟨by decide, by decide, List.mem_append_right _ (List.mem_of_getElem? (i := 208) (by decide +kernel))⟩
theorem fp_1_41 : fP 1 (41, 1, 9) := ⟨by decide, by decide, List.mem_append_right _ (List.mem_of_getElem? (i := 209) (by decide +kernel))⟩
def fL_1_0 : List (Nat × Nat × Nat) := [(63, 3, 1), (64, 3, 2), (65, 3, 3), (9, 1, 0), (15, 1, 1), (18, 1, 2), (22, 1, 3), (26, 1, 4), (29, 1, 5), (32, 1, 6), (35, 1, 7), (38, 1, 8), (41, 1, 9)]
theorem fK_1_0 : ∀ q ∈ fL_1_0, fP 1 q := List.forall_mem_cons.mpr ⟨fp_1_63, List.forall_mem_cons.mpr ⟨fp_1_64, List.forall_mem_cons.mpr ⟨fp_1_65, List.forall_mem_cons.mpr ⟨fp_1_9, List.forall_mem_cons.mpr ⟨fp_1_15, List.forall_mem_cons.mpr ⟨fp_1_18, List.forall_mem_cons.mpr ⟨fp_1_22, List.forall_mem_cons.mpr ⟨fp_1_26, List.forall_mem_cons.mpr ⟨fp_1_29, List.forall_mem_cons.mpr ⟨fp_1_32, List.forall_mem_cons.mpr ⟨fp_1_35, List.forall_mem_cons.mpr ⟨fp_1_38, List.forall_mem_cons.mpr ⟨fp_1_41, fun _ h => absurd h List.not_mem_nil⟩⟩⟩⟩⟩⟩⟩⟩⟩⟩⟩⟩⟩
def fL_1 : List (Nat × Nat × Nat) := fL_1_0
theorem fK_1 : ∀ q ∈ fL_1, fP 1 q := fK_1_0
theorem fp_2_44 : fP 2 (44, 3, 0) := ⟨by decide, by decide, List.mem_append_right _ (List.mem_of_getElem? (i := 37) (by decide +kernel))⟩
theorem fp_2_84 : fP 2 (84, 3, 1) := ⟨by decide, by decide, List.mem_append_right _ (List.mem_of_getElem? (i := 44) (by decide +kernel))⟩
theorem fp_2_87 : fP 2 (87, 3, 2) := ⟨by decide, by decide, List.mem_append_right _ (List.mem_of_getElem? (i := 50) (by decide +kernel))⟩
theorem fp_2_90 : fP 2 (90, 3, 3) := ⟨by decide, by decide, List.mem_append_right _ (List.mem_of_getElem? (i := 56) (by decide +kernel))⟩
theorem fp_2_144 : fP 2 (144, 0, 0) := ⟨by decide, by decide, List.mem_append_right _ (List.mem_of_getElem? (i := 86) (by decide +kernel))⟩
theorem fp_2_147 : fP 2 (147, 0, 1) := ⟨by decide, by decide, List.mem_append_right _ (List.mem_of_getElem? (i := 89) (by decide +kernel))⟩
theorem fp_2_69 : fP 2 (69, 5, 0) := ⟨by decide, by decide, List.mem_append_right _ (List.mem_of_getElem? (i := 139) (by decide +kernel))⟩
theorem fp_2_152 : fP 2 (152, 5, 1) := ⟨by decide, by decide, List.mem_append_right _ (List.mem_of_getElem? (i := 141) (by decide +kernel))⟩
theorem fp_2_130 : fP 2 (130, 5, 3) := ⟨by decide, by decide, List.mem_append_right _ (List.mem_of_getElem? (i := 144) (by decide +kernel))⟩
theorem fp_2_137 : fP 2 (137, 5, 4) := ⟨by decide, by decide, List.mem_append_right _ (List.mem_of_getElem? (i := 146) (by decide +kernel))⟩
theorem fp_2_12 : fP 2 (12, 2, 0) := ⟨by decide, by decide, List.mem_append_right _ (List.mem_of_getElem? (i := 170) (by decide +kernel))⟩
theorem fp_2_18 : fP 2 (18, 2, 1) := ⟨by decide, by decide, List.mem_append_right _ (List.mem_of_getElem? (i := 171) (by decide +kernel))⟩
theorem fp_2_22 : fP 2 (22, 2, 2) := ⟨by decide, by decide, List.mem_append_right _ (List.mem_of_getElem? (i := 172) (by decide +kernel))⟩
theorem fp_2_26 : fP 2 (26, 2, 3) := ⟨by decide, by decide, List.mem_append_right _ (List.mem_of_getElem? (i := 173) (by decide +kernel))⟩
theorem fp_2_30 : fP 2 (30, 2, 4) := ⟨by decide, by decide, List.mem_append_right _ (List.mem_of_getElem? (i := 174) (by decide +kernel))⟩
theorem fp_2_33 : fP 2 (33, 2, 5) := ⟨by decide, by decide, List.mem_append_right _ (List.mem_of_getElem? (i := 175) (by decide +kernel))⟩
def fL_2_0 : List (Nat × Nat × Nat) := [(44, 3, 0), (84, 3, 1), (87, 3, 2), (90, 3, 3), (144, 0, 0), (147, 0, 1), (69, 5, 0), (152, 5, 1), (130, 5, 3), (137, 5, 4), (12, 2, 0), (18, 2, 1), (22, 2, 2), (26, 2, 3), (30, 2, 4), (33, 2, 5)]
theorem fK_2_0 : ∀ q ∈ fL_2_0, fP 2 q := List.forall_mem_cons.mpr ⟨fp_2_44, List.forall_mem_cons.mpr ⟨fp_2_84, List.forall_mem_cons.mpr ⟨fp_2_87, List.forall_mem_cons.mpr ⟨fp_2_90, List.forall_mem_cons.mpr ⟨fp_2_144, List.forall_mem_cons.mpr ⟨fp_2_147, List.forall_mem_cons.mpr ⟨fp_2_69, List.forall_mem_cons.mpr ⟨fp_2_152, List.forall_mem_cons.mpr ⟨fp_2_130, List.forall_mem_cons.mpr ⟨fp_2_137, List.forall_mem_cons.mpr ⟨fp_2_12, List.forall_mem_cons.mpr ⟨fp_2_18, List.forall_mem_cons.mpr ⟨fp_2_22, List.forall_mem_cons.mpr ⟨fp_2_26, List.forall_mem_cons.mpr ⟨fp_2_30, List.forall_mem_cons.mpr ⟨fp_2_33, fun _ h => absurd h List.not_mem_nil⟩⟩⟩⟩⟩⟩⟩⟩⟩⟩⟩⟩⟩⟩⟩⟩
theorem fp_2_36 : fP 2 (36, 2, 6) := ⟨by decide, by decide, List.mem_append_right _ (List.mem_of_getElem? (i := 176) (by decide +kernel))⟩
def fL_2_1 : List (Nat × Nat × Nat) := [(36, 2, 6)]
theorem fK_2_1 : ∀ q ∈ fL_2_1, fP 2 q := List.forall_mem_cons.mpr ⟨fp_2_36, fun _ h => absurd h List.not_mem_nil⟩
def fL_2 : List (Nat × Nat × Nat) := fL_2_0 ++ (fL_2_1)
theorem fK_2 : ∀ q ∈ fL_2, fP 2 q := List.forall_mem_append.mpr ⟨fK_2_0, fK_2_1⟩
theorem fp_3_7 : fP 3 (7, 3, 0) := ⟨by decide, by decide, List.mem_append_right _ (List.mem_of_getElem? (i := 36) (by decide +kernel))⟩
theorem fp_3_13 : fP 3 (13, 3, 1) := ⟨by decide, by decide, List.mem_append_right _ (List.mem_of_getElem? (i := 41) (by decide +kernel))⟩
theorem fp_3_17 : fP 3 (17, 3, 2) := ⟨by decide, by decide, List.mem_append_right _ (List.mem_of_getElem? (i := 47) (by decide +kernel))⟩
theorem fp_3_20 : fP 3 (20, 3, 3) := ⟨by decide, by decide, List.mem_append_right _ (List.mem_of_getElem? (i := 53) (by decide +kernel))⟩
def fL_3_0 : List (Nat × Nat × Nat) := [(7, 3, 0), (13, 3, 1), (17, 3, 2), (20, 3, 3)]
theorem fK_3_0 : ∀ q ∈ fL_3_0, fP 3 q := List.forall_mem_cons.mpr ⟨fp_3_7, List.forall_mem_cons.mpr ⟨fp_3_13, List.forall_mem_cons.mpr ⟨fp_3_17, List.forall_mem_cons.mpr ⟨fp_3_20, fun _ h => absurd h List.not_mem_nil⟩⟩⟩⟩
def fL_3 : List (Nat × Nat × Nat) := fL_3_0
theorem fK_3 : ∀ q ∈ fL_3, fP 3 q := fK_3_0
theorem fp_4_9 : fP 4 (9, 4, 0) := ⟨by decide, by decide, List.mem_append_right _ (List.mem_of_getElem? (i := 76) (by decide +kernel))⟩
theorem fp_4_15 : fP 4 (15, 4, 1) := ⟨by decide, by decide, List.mem_append_right _ (List.mem_of_getElem? (i := 77) (by decide +kernel))⟩
def fL_4_0 : List (Nat × Nat × Nat) := [(9, 4, 0), (15, 4, 1)]
theorem fK_4_0 : ∀ q ∈ fL_4_0, fP 4 q := List.forall_mem_cons.mpr ⟨fp_4_9, List.forall_mem_cons.mpr ⟨fp_4_15, fun _ h => absurd h List.not_mem_nil⟩⟩
def fL_4 : List (Nat × Nat × Nat) := fL_4_0
theorem fK_4 : ∀ q ∈ fL_4, fP 4 q := fK_4_0
theorem fp_5_77 : fP 5 (77, 3, 0) := ⟨by decide, by decide, List.mem_append_right _ (List.mem_of_getElem? (i := 40) (by decide +kernel))⟩
theorem fp_5_54 : fP 5 (54, 3, 1) := ⟨by decide, by decide, List.mem_append_right _ (List.mem_of_getElem? (i := 43) (by decide +kernel))⟩
theorem fp_5_57 : fP 5 (57, 3, 2) := ⟨by decide, by decide, List.mem_append_right _ (List.mem_of_getElem? (i := 48) (by decide +kernel))⟩
theorem fp_5_60 : fP 5 (60, 3, 3) := ⟨by decide, by decide, List.mem_append_right _ (List.mem_of_getElem? (i := 54) (by decide +kernel))⟩
theorem fp_5_16 : fP 5 (16, 5, 0) := ⟨by decide, by decide, List.mem_append_right _ (List.mem_of_getElem? (i := 138) (by decide +kernel))⟩
theorem fp_5_20 : fP 5 (20, 5, 1) := ⟨by decide, by decide, List.mem_append_right _ (List.mem_of_getElem? (i := 140) (by decide +kernel))⟩
theorem fp_5_24 : fP 5 (24, 5, 2) := ⟨by decide, by decide, List.mem_append_right _ (List.mem_of_getElem? (i := 142) (by decide +kernel))⟩
theorem fp_5_28 : fP 5 (28, 5, 3) := ⟨by decide, by decide, List.mem_append_right _ (List.mem_of_getElem? (i := 143) (by decide +kernel))⟩
theorem fp_5_31 : fP 5 (31, 5, 4) := ⟨by decide, by decide, List.mem_append_right _ (List.mem_of_getElem? (i := 145) (by decide +kernel))⟩
theorem fp_5_35 : fP 5 (35, 5, 5) := ⟨by decide, by decide, List.mem_append_right _ (List.mem_of_getElem? (i := 147) (by decide +kernel))⟩
theorem fp_5_38 : fP 5 (38, 5, 6) := ⟨by decide, by decide, List.mem_append_right _ (List.mem_of_getElem? (i := 148) (by decide +kernel))⟩
theorem fp_5_41 : fP 5 (41, 5, 7) := ⟨by decide, by decide, List.mem_append_right _ (List.mem_of_getElem? (i := 149) (by decide +kernel))⟩
theorem fp_5_44 : fP 5 (44, 5, 8) := ⟨by decide, by decide, List.mem_append_right _ (List.mem_of_getElem? (i := 150) (by decide +kernel))⟩
def fL_5_0 : List (Nat × Nat × Nat) := [(77, 3, 0), (54, 3, 1), (57, 3, 2), (60, 3, 3), (16, 5, 0), (20, 5, 1), (24, 5, 2), (28, 5, 3), (31, 5, 4), (35, 5, 5), (38, 5, 6), (41, 5, 7), (44, 5, 8)]
theorem fK_5_0 : ∀ q ∈ fL_5_0, fP 5 q := List.forall_mem_cons.mpr ⟨fp_5_77, List.forall_mem_cons.mpr ⟨fp_5_54, List.forall_mem_cons.mpr ⟨fp_5_57, List.forall_mem_cons.mpr ⟨fp_5_60, List.forall_mem_cons.mpr ⟨fp_5_16, List.forall_mem_cons.mpr ⟨fp_5_20, List.forall_mem_cons.mpr ⟨fp_5_24, List.forall_mem_cons.mpr ⟨fp_5_28, List.forall_mem_cons.mpr ⟨fp_5_31, List.forall_mem_cons.mpr ⟨fp_5_35, List.forall_mem_cons.mpr ⟨fp_5_38, List.forall_mem_cons.mpr ⟨fp_5_41, List.forall_mem_cons.mpr ⟨fp_5_44, fun _ h => absurd h List.not_mem_nil⟩⟩⟩⟩⟩⟩⟩⟩⟩⟩⟩⟩⟩
def fL_5 : List (Nat × Nat × Nat) := fL_5_0
theorem fK_5 : ∀ q ∈ fL_5, fP 5 q := fK_5_0
theorem fp_6_108 : fP 6 (108, 3, 0) := ⟨by decide, by decide, List.mem_append_right _ (List.mem_of_getElem? (i := 38) (by decide +kernel))⟩
theorem fp_6_117 : fP 6 (117, 3, 1) := ⟨by decide, by decide, List.mem_append_right _ (List.mem_of_getElem? (i := 46) (by decide +kernel))⟩
theorem fp_6_120 : fP 6 (120, 3, 2) := ⟨by decide, by decide, List.mem_append_right _ (List.mem_of_getElem? (i := 52) (by decide +kernel))⟩
theorem fp_6_123 : fP 6 (123, 3, 3) := ⟨by decide, by decide, List.mem_append_right _ (List.mem_of_getElem? (i := 58) (by decide +kernel))⟩
theorem fp_6_105 : fP 6 (105, 0, 0) := ⟨by decide, by decide, List.mem_append_right _ (List.mem_of_getElem? (i := 85) (by decide +kernel))⟩
theorem fp_6_98 : fP 6 (98, 0, 1) := ⟨by decide, by decide, List.mem_append_right _ (List.mem_of_getElem? (i := 88) (by decide +kernel))⟩
theorem fp_6_114 : fP 6 (114, 0, 2) := ⟨by decide, by decide, List.mem_append_right _ (List.mem_of_getElem? (i := 91) (by decide +kernel))⟩
theorem fp_6_131 : fP 6 (131, 0, 3) := ⟨by decide, by decide, List.mem_append_right _ (List.mem_of_getElem? (i := 93) (by decide +kernel))⟩
theorem fp_6_134 : fP 6 (134, 0, 4) := ⟨by decide, by decide, List.mem_append_right _ (List.mem_of_getElem? (i := 95) (by decide +kernel))⟩
theorem fp_6_141 : fP 6 (141, 0, 5) := ⟨by decide, by decide, List.mem_append_right _ (List.mem_of_getElem? (i := 97) (by decide +kernel))⟩
theorem fp_6_111 : fP 6 (111, 0, 6) := ⟨by decide, by decide, List.mem_append_right _ (List.mem_of_getElem? (i := 99) (by decide +kernel))⟩
theorem fp_6_126 : fP 6 (126, 0, 7) := ⟨by decide, by decide, List.mem_append_right _ (List.mem_of_getElem? (i := 101) (by decide +kernel))⟩
theorem fp_6_184 : fP 6 (184, 0, 8) := ⟨by decide, by decide, List.mem_append_right _ (List.mem_of_getElem? (i := 103) (by decide +kernel))⟩
theorem fp_6_191 : fP 6 (191, 1, 0) := ⟨by decide, by decide, List.mem_append_right _ (List.mem_of_getElem? (i := 199) (by decide +kernel))⟩
theorem fp_6_195 : fP 6 (195, 1, 1) := ⟨by decide, by decide, List.mem_append_right _ (List.mem_of_getElem? (i := 201) (by decide +kernel))⟩
theorem fp_6_11 : fP 6 (11, 6, 0) := ⟨by decide, by decide, List.mem_append_right _ (List.mem_of_getElem? (i := 237) (by decide +kernel))⟩
def fL_6_0 : List (Nat × Nat × Nat) := [(108, 3, 0), (117, 3, 1), (120, 3, 2), (123, 3, 3), (105, 0, 0), (98, 0, 1), (114, 0, 2), (131, 0, 3), (134, 0, 4), (141, 0, 5), (111, 0, 6), (126, 0, 7), (184, 0, 8), (191, 1, 0), (195, 1, 1), (11, 6, 0)]
theorem fK_6_0 : ∀ q ∈ fL_6_0, fP 6 q := List.forall_mem_cons.mpr ⟨fp_6_108, List.forall_mem_cons.mpr ⟨fp_6_117, List.forall_mem_cons.mpr ⟨fp_6_120, List.forall_mem_cons.mpr ⟨fp_6_123, List.forall_mem_cons.mpr ⟨fp_6_105, List.forall_mem_cons.mpr ⟨fp_6_98, List.forall_mem_cons.mpr ⟨fp_6_114, List.forall_mem_cons.mpr ⟨fp_6_131, List.forall_mem_cons.mpr ⟨fp_6_134, List.forall_mem_cons.mpr ⟨fp_6_141, List.forall_mem_cons.mpr ⟨fp_6_111, List.forall_mem_cons.mpr ⟨fp_6_126, List.forall_mem_cons.mpr ⟨fp_6_184, List.forall_mem_cons.mpr ⟨fp_6_191, List.forall_mem_cons.mpr ⟨fp_6_195, List.forall_mem_cons.mpr ⟨fp_6_11, fun _ h => absurd h List.not_mem_nil⟩⟩⟩⟩⟩⟩⟩⟩⟩⟩⟩⟩⟩⟩⟩⟩
theorem fp_6_15 : fP 6 (15, 6, 1) := ⟨by decide, by decide, List.mem_append_right _ (List.mem_of_getElem? (i := 238) (by decide +kernel))⟩
theorem fp_6_21 : fP 6 (21, 6, 2) := ⟨by decide, by decide, List.mem_append_right _ (List.mem_of_getElem? (i := 239) (by decide +kernel))⟩
theorem fp_6_25 : fP 6 (25, 6, 3) := ⟨by decide, by decide, List.mem_append_right _ (List.mem_of_getElem? (i := 240) (by decide +kernel))⟩
theorem fp_6_28 : fP 6 (28, 6, 4) := ⟨by decide, by decide, List.mem_append_right _ (List.mem_of_getElem? (i := 241) (by decide +kernel))⟩
theorem fp_6_32 : fP 6 (32, 6, 5) := ⟨by decide, by decide, List.mem_append_right _ (List.mem_of_getElem? (i := 242) (by decide +kernel))⟩
theorem fp_6_37 : fP 6 (37, 6, 6) := ⟨by decide, by decide, List.mem_append_right _ (List.mem_of_getElem? (i := 243) (by decide +kernel))⟩
theorem fp_6_44 : fP 6 (44, 6, 7) := ⟨by decide, by decide, List.mem_append_right _ (List.mem_of_getElem? (i := 244) (by decide +kernel))⟩
theorem fp_6_48 : fP 6 (48, 6, 8) := ⟨by decide, by decide, List.mem_append_right _ (List.mem_of_getElem? (i := 245) (by decide +kernel))⟩
theorem fp_6_51 : fP 6 (51, 6, 9) := ⟨by decide, by decide, List.mem_append_right _ (List.mem_of_getElem? (i := 246) (by decide +kernel))⟩
theorem fp_6_57 : fP 6 (57, 6, 10) := ⟨by decide, by decide, List.mem_append_right _ (List.mem_of_getElem? (i := 247) (by decide +kernel))⟩
theorem fp_6_64 : fP 6 (64, 6, 11) := ⟨by decide, by decide, List.mem_append_right _ (List.mem_of_getElem? (i := 248) (by decide +kernel))⟩
theorem fp_6_71 : fP 6 (71, 6, 12) := ⟨by decide, by decide, List.mem_append_right _ (List.mem_of_getElem? (i := 249) (by decide +kernel))⟩
def fL_6_1 : List (Nat × Nat × Nat) := [(15, 6, 1), (21, 6, 2), (25, 6, 3), (28, 6, 4), (32, 6, 5), (37, 6, 6), (44, 6, 7), (48, 6, 8), (51, 6, 9), (57, 6, 10), (64, 6, 11), (71, 6, 12)]
theorem fK_6_1 : ∀ q ∈ fL_6_1, fP 6 q := List.forall_mem_cons.mpr ⟨fp_6_15, List.forall_mem_cons.mpr ⟨fp_6_21, List.forall_mem_cons.mpr ⟨fp_6_25, List.forall_mem_cons.mpr ⟨fp_6_28, List.forall_mem_cons.mpr ⟨fp_6_32, List.forall_mem_cons.mpr ⟨fp_6_37, List.forall_mem_cons.mpr ⟨fp_6_44, List.forall_mem_cons.mpr ⟨fp_6_48, List.forall_mem_cons.mpr ⟨fp_6_51, List.forall_mem_cons.mpr ⟨fp_6_57, List.forall_mem_cons.mpr ⟨fp_6_64, List.forall_mem_cons.mpr ⟨fp_6_71, fun _ h => absurd h List.not_mem_nil⟩⟩⟩⟩⟩⟩⟩⟩⟩⟩⟩⟩
def fL_6 : List (Nat × Nat × Nat) := fL_6_0 ++ (fL_6_1)
theorem fK_6 : ∀ q ∈ fL_6, fP 6 q := List.forall_mem_append.mpr ⟨fK_6_0, fK_6_1⟩
theorem fp_7_7 : fP 7 (7, 7, 0) := ⟨by decide, by decide, List.mem_append_right _ (List.mem_of_getElem? (i := 724) (by decide +kernel))⟩
theorem fp_7_13 : fP 7 (13, 7, 1) := ⟨by decide, by decide, List.mem_append_right _ (List.mem_of_getElem? (i := 725) (by decide +kernel))⟩
theorem fp_7_16 : fP 7 (16, 7, 2) := ⟨by decide, by decide, List.mem_append_right _ (List.mem_of_getElem? (i := 726) (by decide +kernel))⟩
theorem fp_7_19 : fP 7 (19, 7, 3) := ⟨by decide, by decide, List.mem_append_right _ (List.mem_of_getElem? (i := 727) (by decide +kernel))⟩
theorem fp_7_22 : fP 7 (22, 7, 4) := ⟨by decide, by decide, List.mem_append_right _ (List.mem_of_getElem? (i := 728) (by decide +kernel))⟩
theorem fp_7_25 : fP 7 (25, 7, 5) := ⟨by decide, by decide, List.mem_append_right _ (List.mem_of_getElem? (i := 729) (by decide +kernel))⟩
theorem fp_7_28 : fP 7 (28, 7, 6) := ⟨by decide, by decide, List.mem_append_right _ (List.mem_of_getElem? (i := 730) (by decide +kernel))⟩
theorem fp_7_31 : fP 7 (31, 7, 7) := ⟨by decide, by decide, List.mem_append_right _ (List.mem_of_getElem? (i := 731) (by decide +kernel))⟩
theorem fp_7_34 : fP 7 (34, 7, 8) := ⟨by decide, by decide, List.mem_append_right _ (List.mem_of_getElem? (i := 732) (by decide +kernel))⟩
theorem fp_7_141 : fP 7 (141, 7, 9) := ⟨by decide, by decide, List.mem_append_right _ (List.mem_of_getElem? (i := 733) (by decide +kernel))⟩
theorem fp_7_37 : fP 7 (37, 7, 10) := ⟨by decide, by decide, List.mem_append_right _ (List.mem_of_getElem? (i := 734) (by decide +kernel))⟩
theorem fp_7_40 : fP 7 (40, 7, 11) := ⟨by decide, by decide, List.mem_append_right _ (List.mem_of_getElem? (i := 735) (by decide +kernel))⟩
theorem fp_7_43 : fP 7 (43, 7, 12) := ⟨by decide, by decide, List.mem_append_right _ (List.mem_of_getElem? (i := 736) (by decide +kernel))⟩
theorem fp_7_46 : fP 7 (46, 7, 13) := ⟨by decide, by decide, List.mem_append_right _ (List.mem_of_getElem? (i := 737) (by decide +kernel))⟩
theorem fp_7_49 : fP 7 (49, 7, 14) := ⟨by decide, by decide, List.mem_append_right _ (List.mem_of_getElem? (i := 738) (by decide +kernel))⟩
theorem fp_7_145 : fP 7 (145, 7, 15) := ⟨by decide, by decide, List.mem_append_right _ (List.mem_of_getElem? (i := 739) (by decide +kernel))⟩
def fL_7_0 : List (Nat × Nat × Nat) := [(7, 7, 0), (13, 7, 1), (16, 7, 2), (19, 7, 3), (22, 7, 4), (25, 7, 5), (28, 7, 6), (31, 7, 7), (34, 7, 8), (141, 7, 9), (37, 7, 10), (40, 7, 11), (43, 7, 12), (46, 7, 13), (49, 7, 14), (145, 7, 15)]
theorem fK_7_0 : ∀ q ∈ fL_7_0, fP 7 q := List.forall_mem_cons.mpr ⟨fp_7_7, List.forall_mem_cons.mpr ⟨fp_7_13, List.forall_mem_cons.mpr ⟨fp_7_16, List.forall_mem_cons.mpr ⟨fp_7_19, List.forall_mem_cons.mpr ⟨fp_7_22, List.forall_mem_cons.mpr ⟨fp_7_25, List.forall_mem_cons.mpr ⟨fp_7_28, List.forall_mem_cons.mpr ⟨fp_7_31, List.forall_mem_cons.mpr ⟨fp_7_34, List.forall_mem_cons.mpr ⟨fp_7_141, List.forall_mem_cons.mpr ⟨fp_7_37, List.forall_mem_cons.mpr ⟨fp_7_40, List.forall_mem_cons.mpr ⟨fp_7_43, List.forall_mem_cons.mpr ⟨fp_7_46, List.forall_mem_cons.mpr ⟨fp_7_49, List.forall_mem_cons.mpr ⟨fp_7_145, fun _ h => absurd h List.not_mem_nil⟩⟩⟩⟩⟩⟩⟩⟩⟩⟩⟩⟩⟩⟩⟩⟩
theorem fp_7_52 : fP 7 (52, 7, 16) := ⟨by decide, by decide, List.mem_append_right _ (List.mem_of_getElem? (i := 740) (by decide +kernel))⟩
theorem fp_7_56 : fP 7 (56, 7, 17) := ⟨by decide, by decide, List.mem_append_right _ (List.mem_of_getElem? (i := 741) (by decide +kernel))⟩
theorem fp_7_59 : fP 7 (59, 7, 18) := ⟨by decide, by decide, List.mem_append_right _ (List.mem_of_getElem? (i := 742) (by decide +kernel))⟩
theorem fp_7_62 : fP 7 (62, 7, 19) := ⟨by decide, by decide, List.mem_append_right _ (List.mem_of_getElem? (i := 743) (by decide +kernel))⟩
theorem fp_7_66 : fP 7 (66, 7, 20) := ⟨by decide, by decide, List.mem_append_right _ (List.mem_of_getElem? (i := 744) (by decide +kernel))⟩
theorem fp_7_165 : fP 7 (165, 7, 21) := ⟨by decide, by decide, List.mem_append_right _ (List.mem_of_getElem? (i := 745) (by decide +kernel))⟩
theorem fp_7_69 : fP 7 (69, 7, 22) := ⟨by decide, by decide, List.mem_append_right _ (List.mem_of_getElem? (i := 746) (by decide +kernel))⟩
theorem fp_7_162 : fP 7 (162, 7, 23) := ⟨by decide, by decide, List.mem_append_right _ (List.mem_of_getElem? (i := 747) (by decide +kernel))⟩
theorem fp_7_148 : fP 7 (148, 7, 24) := ⟨by decide, by decide, List.mem_append_right _ (List.mem_of_getElem? (i := 748) (by decide +kernel))⟩
theorem fp_7_152 : fP 7 (152, 7, 25) := ⟨by decide, by decide, List.mem_append_right _ (List.mem_of_getElem? (i := 749) (by decide +kernel))⟩
theorem fp_7_155 : fP 7 (155, 7, 26) := ⟨by decide, by decide, List.mem_append_right _ (List.mem_of_getElem? (i := 750) (by decide +kernel))⟩
theorem fp_7_72 : fP 7 (72, 7, 27) := ⟨by decide, by decide, List.mem_append_right _ (List.mem_of_getElem? (i := 751) (by decide +kernel))⟩
theorem fp_7_75 : fP 7 (75, 7, 28) := ⟨by decide, by decide, List.mem_append_right _ (List.mem_of_getElem? (i := 752) (by decide +kernel))⟩
theorem fp_7_78 : fP 7 (78, 7, 29) := ⟨by decide, by decide, List.mem_append_right _ (List.mem_of_getElem? (i := 753) (by decide +kernel))⟩
theorem fp_7_81 : fP 7 (81, 7, 30) := ⟨by decide, by decide, List.mem_append_right _ (List.mem_of_getElem? (i := 754) (by decide +kernel))⟩
theorem fp_7_84 : fP 7 (84, 7, 31) := ⟨by decide, by decide, List.mem_append_right _ (List.mem_of_getElem? (i := 755) (by decide +kernel))⟩
def fL_7_1 : List (Nat × Nat × Nat) := [(52, 7, 16), (56, 7, 17), (59, 7, 18), (62, 7, 19), (66, 7, 20), (165, 7, 21), (69, 7, 22), (162, 7, 23), (148, 7, 24), (152, 7, 25), (155, 7, 26), (72, 7, 27), (75, 7, 28), (78, 7, 29), (81, 7, 30), (84, 7, 31)]
theorem fK_7_1 : ∀ q ∈ fL_7_1, fP 7 q := List.forall_mem_cons.mpr ⟨fp_7_52, List.forall_mem_cons.mpr ⟨fp_7_56, List.forall_mem_cons.mpr ⟨fp_7_59, List.forall_mem_cons.mpr ⟨fp_7_62, List.forall_mem_cons.mpr ⟨fp_7_66, List.forall_mem_cons.mpr ⟨fp_7_165, List.forall_mem_cons.mpr ⟨fp_7_69, List.forall_mem_cons.mpr ⟨fp_7_162, List.forall_mem_cons.mpr ⟨fp_7_148, List.forall_mem_cons.mpr ⟨fp_7_152, List.forall_mem_cons.mpr ⟨fp_7_155, List.forall_mem_cons.mpr ⟨fp_7_72, List.forall_mem_cons.mpr ⟨fp_7_75, List.forall_mem_cons.mpr ⟨fp_7_78, List.forall_mem_cons.mpr ⟨fp_7_81, List.forall_mem_cons.mpr ⟨fp_7_84, fun _ h => absurd h List.not_mem_nil⟩⟩⟩⟩⟩⟩⟩⟩⟩⟩⟩⟩⟩⟩⟩⟩
theorem fp_7_87 : fP 7 (87, 7, 32) := ⟨by decide, by decide, List.mem_append_right _ (List.mem_of_getElem? (i := 756) (by decide +kernel))⟩
theorem fp_7_90 : fP 7 (90, 7, 33) := ⟨by decide, by decide, List.mem_append_right _ (List.mem_of_getElem? (i := 757) (by decide +kernel))⟩
theorem fp_7_93 : fP 7 (93, 7, 34) := ⟨by decide, by decide, List.mem_append_right _ (List.mem_of_getElem? (i := 758) (by decide +kernel))⟩
theorem fp_7_96 : fP 7 (96, 7, 35) := ⟨by decide, by decide, List.mem_append_right _ (List.mem_of_getElem? (i := 759) (by decide +kernel))⟩
theorem fp_7_99 : fP 7 (99, 7, 36) := ⟨by decide, by decide, List.mem_append_right _ (List.mem_of_getElem? (i := 760) (by decide +kernel))⟩
theorem fp_7_102 : fP 7 (102, 7, 37) := ⟨by decide, by decide, List.mem_append_right _ (List.mem_of_getElem? (i := 761) (by decide +kernel))⟩
theorem fp_7_105 : fP 7 (105, 7, 38) := ⟨by decide, by decide, List.mem_append_right _ (List.mem_of_getElem? (i := 762) (by decide +kernel))⟩
theorem fp_7_253 : fP 7 (253, 7, 39) := ⟨by decide, by decide, List.mem_append_right _ (List.mem_of_getElem? (i := 763) (by decide +kernel))⟩
theorem fp_7_256 : fP 7 (256, 7, 40) := ⟨by decide, by decide, List.mem_append_right _ (List.mem_of_getElem? (i := 764) (by decide +kernel))⟩
theorem fp_7_259 : fP 7 (259, 7, 41) := ⟨by decide, by decide, List.mem_append_right _ (List.mem_of_getElem? (i := 765) (by decide +kernel))⟩
theorem fp_7_262 : fP 7 (262, 7, 42) := ⟨by decide, by decide, List.mem_append_right _ (List.mem_of_getElem? (i := 766) (by decide +kernel))⟩
theorem fp_7_108 : fP 7 (108, 7, 43) := ⟨by decide, by decide, List.mem_append_right _ (List.mem_of_getElem? (i := 767) (by decide +kernel))⟩
theorem fp_7_111 : fP 7 (111, 7, 44) := ⟨by decide, by decide, List.mem_append_right _ (List.mem_of_getElem? (i := 768) (by decide +kernel))⟩
theorem fp_7_114 : fP 7 (114, 7, 45) := ⟨by decide, by decide, List.mem_append_right _ (List.mem_of_getElem? (i := 769) (by decide +kernel))⟩
theorem fp_7_117 : fP 7 (117, 7, 46) := ⟨by decide, by decide, List.mem_append_right _ (List.mem_of_getElem? (i := 770) (by decide +kernel))⟩
theorem fp_7_296 : fP 7 (296, 7, 47) := ⟨by decide, by decide, List.mem_append_right _ (List.mem_of_getElem? (i := 771) (by decide +kernel))⟩
def fL_7_2 : List (Nat × Nat × Nat) := [(87, 7, 32), (90, 7, 33), (93, 7, 34), (96, 7, 35), (99, 7, 36), (102, 7, 37), (105, 7, 38), (253, 7, 39), (256, 7, 40), (259, 7, 41), (262, 7, 42), (108, 7, 43), (111, 7, 44), (114, 7, 45), (117, 7, 46), (296, 7, 47)]
theorem fK_7_2 : ∀ q ∈ fL_7_2, fP 7 q := List.forall_mem_cons.mpr ⟨fp_7_87, List.forall_mem_cons.mpr ⟨fp_7_90, List.forall_mem_cons.mpr ⟨fp_7_93, List.forall_mem_cons.mpr ⟨fp_7_96, List.forall_mem_cons.mpr ⟨fp_7_99, List.forall_mem_cons.mpr ⟨fp_7_102, List.forall_mem_cons.mpr ⟨fp_7_105, List.forall_mem_cons.mpr ⟨fp_7_253, List.forall_mem_cons.mpr ⟨fp_7_256, List.forall_mem_cons.mpr ⟨fp_7_259, List.forall_mem_cons.mpr ⟨fp_7_262, List.forall_mem_cons.mpr ⟨fp_7_108, List.forall_mem_cons.mpr ⟨fp_7_111, List.forall_mem_cons.mpr ⟨fp_7_114, List.forall_mem_cons.mpr ⟨fp_7_117, List.forall_mem_cons.mpr ⟨fp_7_296, fun _ h => absurd h List.not_mem_nil⟩⟩⟩⟩⟩⟩⟩⟩⟩⟩⟩⟩⟩⟩⟩⟩
theorem fp_7_299 : fP 7 (299, 7, 48) := ⟨by decide, by decide, List.mem_append_right _ (List.mem_of_getElem? (i := 772) (by decide +kernel))⟩
theorem fp_7_302 : fP 7 (302, 7, 49) := ⟨by decide, by decide, List.mem_append_right _ (List.mem_of_getElem? (i := 773) (by decide +kernel))⟩
theorem fp_7_305 : fP 7 (305, 7, 50) := ⟨by decide, by decide, List.mem_append_right _ (List.mem_of_getElem? (i := 774) (by decide +kernel))⟩
theorem fp_7_313 : fP 7 (313, 7, 51) := ⟨by decide, by decide, List.mem_append_right _ (List.mem_of_getElem? (i := 775) (by decide +kernel))⟩
theorem fp_7_317 : fP 7 (317, 7, 52) := ⟨by decide, by decide, List.mem_append_right _ (List.mem_of_getElem? (i := 776) (by decide +kernel))⟩
theorem fp_7_320 : fP 7 (320, 7, 53) := ⟨by decide, by decide, List.mem_append_right _ (List.mem_of_getElem? (i := 777) (by decide +kernel))⟩
theorem fp_7_344 : fP 7 (344, 7, 54) := ⟨by decide, by decide, List.mem_append_right _ (List.mem_of_getElem? (i := 778) (by decide +kernel))⟩
theorem fp_7_353 : fP 7 (353, 7, 55) := ⟨by decide, by decide, List.mem_append_right _ (List.mem_of_getElem? (i := 779) (by decide +kernel))⟩
theorem fp_7_120 : fP 7 (120, 7, 56) := ⟨by decide, by decide, List.mem_append_right _ (List.mem_of_getElem? (i := 780) (by decide +kernel))⟩
theorem fp_7_123 : fP 7 (123, 7, 57) := ⟨by decide, by decide, List.mem_append_right _ (List.mem_of_getElem? (i := 781) (by decide +kernel))⟩
theorem fp_7_126 : fP 7 (126, 7, 58) := ⟨by decide, by decide, List.mem_append_right _ (List.mem_of_getElem? (i := 782) (by decide +kernel))⟩
def fL_7_3 : List (Nat × Nat × Nat) := [(299, 7, 48), (302, 7, 49), (305, 7, 50), (313, 7, 51), (317, 7, 52), (320, 7, 53), (344, 7, 54), (353, 7, 55), (120, 7, 56), (123, 7, 57), (126, 7, 58)]
theorem fK_7_3 : ∀ q ∈ fL_7_3, fP 7 q := List.forall_mem_cons.mpr ⟨fp_7_299, List.forall_mem_cons.mpr ⟨fp_7_302, List.forall_mem_cons.mpr ⟨fp_7_305, List.forall_mem_cons.mpr ⟨fp_7_313, List.forall_mem_cons.mpr ⟨fp_7_317, List.forall_mem_cons.mpr ⟨fp_7_320, List.forall_mem_cons.mpr ⟨fp_7_344, List.forall_mem_cons.mpr ⟨fp_7_353, List.forall_mem_cons.mpr ⟨fp_7_120, List.forall_mem_cons.mpr ⟨fp_7_123, List.forall_mem_cons.mpr ⟨fp_7_126, fun _ h => absurd h List.not_mem_nil⟩⟩⟩⟩⟩⟩⟩⟩⟩⟩⟩
def fL_7 : List (Nat × Nat × Nat) := fL_7_0 ++ (fL_7_1 ++ (fL_7_2 ++ (fL_7_3)))
theorem fK_7 : ∀ q ∈ fL_7, fP 7 q := List.forall_mem_append.mpr ⟨fK_7_0, List.forall_mem_append.mpr ⟨fK_7_1, List.forall_mem_append.mpr ⟨fK_7_2, fK_7_3⟩⟩⟩
def fT (o i : Nat) : Option (Nat × Nat) := match o with
  | 0 => asc fL_0 i
  | 1 => asc fL_1 i
  | 2 => asc fL_2 i
  | 3 => asc fL_3 i
  | 4 => asc fL_4 i
  | 5 => asc fL_5 i
  | 6 => asc fL_6 i
  | 7 => asc fL_7 i
  | _ => none
theorem fT_ok {o i ci k : Nat} (h : fT o i = some (ci, k)) : fP o (i, ci, k) := by
  unfold fT at h
  split at h
  · exact fK_0 _ (asc_mem h)
  · exact fK_1 _ (asc_mem h)
  · exact fK_2 _ (asc_mem h)
  · exact fK_3 _ (asc_mem h)
  · exact fK_4 _ (asc_mem h)
  · exact fK_5 _ (asc_mem h)
  · exact fK_6 _ (asc_mem h)
  · exact fK_7 _ (asc_mem h)
  · cases h
def kiP (o : Nat) (q : Nat × Int32) : Prop := Cond.constant (cN o) q.1 q.2 ∈ lw_tbl
def kiL_1 : List (Nat × Int32) := [(48, (100000))]
theorem kiK_1 : ∀ q ∈ kiL_1, kiP 1 q := List.forall_mem_cons.mpr ⟨List.mem_append_right _ (List.mem_of_getElem? (i := 640) (by decide +kernel)), fun _ h => absurd h List.not_mem_nil⟩
def kiL_2 : List (Nat × Int32) := [(125, (100000))]
theorem kiK_2 : ∀ q ∈ kiL_2, kiP 2 q := List.forall_mem_cons.mpr ⟨List.mem_append_right _ (List.mem_of_getElem? (i := 386) (by decide +kernel)), fun _ h => absurd h List.not_mem_nil⟩
def kiL_4 : List (Nat × Int32) := [(28, (100000))]
theorem kiK_4 : ∀ q ∈ kiL_4, kiP 4 q := List.forall_mem_cons.mpr ⟨List.mem_append_right _ (List.mem_of_getElem? (i := 614) (by decide +kernel)), fun _ h => absurd h List.not_mem_nil⟩
def kiL_6 : List (Nat × Int32) := [(202, (100000)), (144, (1000000))]
theorem kiK_6 : ∀ q ∈ kiL_6, kiP 6 q := List.forall_mem_cons.mpr ⟨List.mem_append_right _ (List.mem_of_getElem? (i := 430) (by decide +kernel)), List.forall_mem_cons.mpr ⟨List.mem_append_right _ (List.mem_of_getElem? (i := 525) (by decide +kernel)), fun _ h => absurd h List.not_mem_nil⟩⟩
def kiL_7 : List (Nat × Int32) := [(274, (-1000000)), (275, (1000000))]
theorem kiK_7 : ∀ q ∈ kiL_7, kiP 7 q := List.forall_mem_cons.mpr ⟨List.mem_append_right _ (List.mem_of_getElem? (i := 1047) (by decide +kernel)), List.forall_mem_cons.mpr ⟨List.mem_append_right _ (List.mem_of_getElem? (i := 1048) (by decide +kernel)), fun _ h => absurd h List.not_mem_nil⟩⟩
def kiT (o i : Nat) : Option (Int32) := match o with
  | 1 => asc kiL_1 i
  | 2 => asc kiL_2 i
  | 4 => asc kiL_4 i
  | 6 => asc kiL_6 i
  | 7 => asc kiL_7 i
  | _ => none
theorem kiT_ok {o i : Nat} {v : Int32} (h : kiT o i = some v) : kiP o (i, v) := by
  unfold kiT at h
  split at h
  · exact kiK_1 _ (asc_mem h)
  · exact kiK_2 _ (asc_mem h)
  · exact kiK_4 _ (asc_mem h)
  · exact kiK_6 _ (asc_mem h)
  · exact kiK_7 _ (asc_mem h)
  · cases h
def klP (o : Nat) (q : Nat × Int64) : Prop := Cond.constantLong (cN o) q.1 q.2 ∈ lw_tbl
def klL_6 : List (Nat × Int64) := [(129, (-2000000000)), (161, (-1)), (169, (4))]
theorem klK_6 : ∀ q ∈ klL_6, klP 6 q := List.forall_mem_cons.mpr ⟨List.mem_append_right _ (List.mem_of_getElem? (i := 513) (by decide +kernel)), List.forall_mem_cons.mpr ⟨List.mem_append_right _ (List.mem_of_getElem? (i := 563) (by decide +kernel)), List.forall_mem_cons.mpr ⟨List.mem_append_right _ (List.mem_of_getElem? (i := 575) (by decide +kernel)), fun _ h => absurd h List.not_mem_nil⟩⟩⟩
def klL_7 : List (Nat × Int64) := [(129, (-100)), (131, (100)), (168, (-1)), (248, (-2000000000)), (311, (4))]
theorem klK_7 : ∀ q ∈ klL_7, klP 7 q := List.forall_mem_cons.mpr ⟨List.mem_append_right _ (List.mem_of_getElem? (i := 917) (by decide +kernel)), List.forall_mem_cons.mpr ⟨List.mem_append_right _ (List.mem_of_getElem? (i := 918) (by decide +kernel)), List.forall_mem_cons.mpr ⟨List.mem_append_right _ (List.mem_of_getElem? (i := 966) (by decide +kernel)), List.forall_mem_cons.mpr ⟨List.mem_append_right _ (List.mem_of_getElem? (i := 1035) (by decide +kernel)), List.forall_mem_cons.mpr ⟨List.mem_append_right _ (List.mem_of_getElem? (i := 1093) (by decide +kernel)), fun _ h => absurd h List.not_mem_nil⟩⟩⟩⟩⟩
def klT (o i : Nat) : Option (Int64) := match o with
  | 6 => asc klL_6 i
  | 7 => asc klL_7 i
  | _ => none
theorem klT_ok {o i : Nat} {v : Int64} (h : klT o i = some v) : klP o (i, v) := by
  unfold klT at h
  split at h
  · exact klK_6 _ (asc_mem h)
  · exact klK_7 _ (asc_mem h)
  · cases h
def kcP (o : Nat) (q : Nat × Nat) : Prop := q.2 < 8 ∧ Cond.classLink (cN o) q.1 (cN q.2) ∈ lw_tbl ∧ Cond.instantiable (cN q.2) (cF q.2) ∈ lw_tbl ∧ Cond.initialized (cN q.2) ∈ lw_tbl
def kcL_0 : List (Nat × Nat) := [(15, 3), (43, 4)]
theorem kcK_0 : ∀ q ∈ kcL_0, kcP 0 q := List.forall_mem_cons.mpr ⟨⟨by decide, List.mem_append_right _ (List.mem_of_getElem? (i := 30) (by decide +kernel)), List.mem_append_right _ (List.mem_of_getElem? (i := 31) (by decide +kernel)), List.mem_append_right _ (List.mem_of_getElem? (i := 3) (by decide +kernel))⟩, List.forall_mem_cons.mpr ⟨⟨by decide, List.mem_append_right _ (List.mem_of_getElem? (i := 70) (by decide +kernel)), List.mem_append_right _ (List.mem_of_getElem? (i := 71) (by decide +kernel)), List.mem_append_right _ (List.mem_of_getElem? (i := 4) (by decide +kernel))⟩, fun _ h => absurd h List.not_mem_nil⟩⟩
def kcL_2 : List (Nat × Nat) := [(9, 5)]
theorem kcK_2 : ∀ q ∈ kcL_2, kcP 2 q := List.forall_mem_cons.mpr ⟨⟨by decide, List.mem_append_right _ (List.mem_of_getElem? (i := 130) (by decide +kernel)), List.mem_append_right _ (List.mem_of_getElem? (i := 131) (by decide +kernel)), List.mem_append_right _ (List.mem_of_getElem? (i := 6) (by decide +kernel))⟩, fun _ h => absurd h List.not_mem_nil⟩
def kcL_5 : List (Nat × Nat) := [(11, 3)]
theorem kcK_5 : ∀ q ∈ kcL_5, kcP 5 q := List.forall_mem_cons.mpr ⟨⟨by decide, List.mem_append_right _ (List.mem_of_getElem? (i := 136) (by decide +kernel)), List.mem_append_right _ (List.mem_of_getElem? (i := 31) (by decide +kernel)), List.mem_append_right _ (List.mem_of_getElem? (i := 3) (by decide +kernel))⟩, fun _ h => absurd h List.not_mem_nil⟩
def kcL_6 : List (Nat × Nat) := [(9, 3), (19, 0), (54, 2), (61, 1), (68, 4)]
theorem kcK_6 : ∀ q ∈ kcL_6, kcP 6 q := List.forall_mem_cons.mpr ⟨⟨by decide, List.mem_append_right _ (List.mem_of_getElem? (i := 21) (by decide +kernel)), List.mem_append_right _ (List.mem_of_getElem? (i := 31) (by decide +kernel)), List.mem_append_right _ (List.mem_of_getElem? (i := 3) (by decide +kernel))⟩, List.forall_mem_cons.mpr ⟨⟨by decide, List.mem_append_right _ (List.mem_of_getElem? (i := 23) (by decide +kernel)), List.mem_append_right _ (List.mem_of_getElem? (i := 25) (by decide +kernel)), List.mem_append_right _ (List.mem_of_getElem? (i := 2) (by decide +kernel))⟩, List.forall_mem_cons.mpr ⟨⟨by decide, List.mem_append_right _ (List.mem_of_getElem? (i := 124) (by decide +kernel)), List.mem_append_right _ (List.mem_of_getElem? (i := 125) (by decide +kernel)), List.mem_append_right _ (List.mem_of_getElem? (i := 5) (by decide +kernel))⟩, List.forall_mem_cons.mpr ⟨⟨by decide, List.mem_append_right _ (List.mem_of_getElem? (i := 192) (by decide +kernel)), List.mem_append_right _ (List.mem_of_getElem? (i := 193) (by decide +kernel)), List.mem_append_right _ (List.mem_of_getElem? (i := 7) (by decide +kernel))⟩, List.forall_mem_cons.mpr ⟨⟨by decide, List.mem_append_right _ (List.mem_of_getElem? (i := 231) (by decide +kernel)), List.mem_append_right _ (List.mem_of_getElem? (i := 71) (by decide +kernel)), List.mem_append_right _ (List.mem_of_getElem? (i := 4) (by decide +kernel))⟩, fun _ h => absurd h List.not_mem_nil⟩⟩⟩⟩⟩
def kcL_12 : List (Nat × Nat) := [(7, 6), (10, 7)]
theorem kcK_12 : ∀ q ∈ kcL_12, kcP 12 q := List.forall_mem_cons.mpr ⟨⟨by decide, List.mem_append_right _ (List.mem_of_getElem? (i := 13) (by decide +kernel)), List.mem_append_right _ (List.mem_of_getElem? (i := 14) (by decide +kernel)), List.mem_append_right _ (List.mem_of_getElem? (i := 1) (by decide +kernel))⟩, List.forall_mem_cons.mpr ⟨⟨by decide, List.mem_append_right _ (List.mem_of_getElem? (i := 718) (by decide +kernel)), List.mem_append_right _ (List.mem_of_getElem? (i := 719) (by decide +kernel)), List.mem_append_right _ (List.mem_of_getElem? (i := 8) (by decide +kernel))⟩, fun _ h => absurd h List.not_mem_nil⟩⟩
def kcT (o i : Nat) : Option (Nat) := match o with
  | 0 => asc kcL_0 i
  | 2 => asc kcL_2 i
  | 5 => asc kcL_5 i
  | 6 => asc kcL_6 i
  | 12 => asc kcL_12 i
  | _ => none
theorem kcT_ok {o i : Nat} {v : Nat} (h : kcT o i = some v) : kcP o (i, v) := by
  unfold kcT at h
  split at h
  · exact kcK_0 _ (asc_mem h)
  · exact kcK_2 _ (asc_mem h)
  · exact kcK_5 _ (asc_mem h)
  · exact kcK_6 _ (asc_mem h)
  · exact kcK_12 _ (asc_mem h)
  · cases h
def koP (o : Nat) (q : Nat × Unit) : Prop := Cond.methodLink (cN o) q.1 objectInit ∈ lw_tbl
def koL_0 : List (Nat × Unit) := [(3, ())]
theorem koK_0 : ∀ q ∈ koL_0, koP 0 q := List.forall_mem_cons.mpr ⟨List.mem_append_right _ (List.mem_of_getElem? (i := 29) (by decide +kernel)), fun _ h => absurd h List.not_mem_nil⟩
def koL_1 : List (Nat × Unit) := [(3, ())]
theorem koK_1 : ∀ q ∈ koL_1, koP 1 q := List.forall_mem_cons.mpr ⟨List.mem_append_right _ (List.mem_of_getElem? (i := 197) (by decide +kernel)), fun _ h => absurd h List.not_mem_nil⟩
def koL_2 : List (Nat × Unit) := [(3, ())]
theorem koK_2 : ∀ q ∈ koL_2, koP 2 q := List.forall_mem_cons.mpr ⟨List.mem_append_right _ (List.mem_of_getElem? (i := 129) (by decide +kernel)), fun _ h => absurd h List.not_mem_nil⟩
def koL_3 : List (Nat × Unit) := [(1, ())]
theorem koK_3 : ∀ q ∈ koL_3, koP 3 q := List.forall_mem_cons.mpr ⟨List.mem_append_right _ (List.mem_of_getElem? (i := 35) (by decide +kernel)), fun _ h => absurd h List.not_mem_nil⟩
def koL_4 : List (Nat × Unit) := [(3, ())]
theorem koK_4 : ∀ q ∈ koL_4, koP 4 q := List.forall_mem_cons.mpr ⟨List.mem_append_right _ (List.mem_of_getElem? (i := 75) (by decide +kernel)), fun _ h => absurd h List.not_mem_nil⟩
def koL_5 : List (Nat × Unit) := [(5, ())]
theorem koK_5 : ∀ q ∈ koL_5, koP 5 q := List.forall_mem_cons.mpr ⟨List.mem_append_right _ (List.mem_of_getElem? (i := 135) (by decide +kernel)), fun _ h => absurd h List.not_mem_nil⟩
def koL_6 : List (Nat × Unit) := [(1, ())]
theorem koK_6 : ∀ q ∈ koL_6, koP 6 q := List.forall_mem_cons.mpr ⟨List.mem_append_right _ (List.mem_of_getElem? (i := 18) (by decide +kernel)), fun _ h => absurd h List.not_mem_nil⟩
def koL_7 : List (Nat × Unit) := [(1, ())]
theorem koK_7 : ∀ q ∈ koL_7, koP 7 q := List.forall_mem_cons.mpr ⟨List.mem_append_right _ (List.mem_of_getElem? (i := 723) (by decide +kernel)), fun _ h => absurd h List.not_mem_nil⟩
def koT (o i : Nat) : Option (Unit) := match o with
  | 0 => asc koL_0 i
  | 1 => asc koL_1 i
  | 2 => asc koL_2 i
  | 3 => asc koL_3 i
  | 4 => asc koL_4 i
  | 5 => asc koL_5 i
  | 6 => asc koL_6 i
  | 7 => asc koL_7 i
  | _ => none
theorem koT_ok {o i : Nat} {v : Unit} (h : koT o i = some v) : koP o (i, v) := by
  unfold koT at h
  split at h
  · exact koK_0 _ (asc_mem h)
  · exact koK_1 _ (asc_mem h)
  · exact koK_2 _ (asc_mem h)
  · exact koK_3 _ (asc_mem h)
  · exact koK_4 _ (asc_mem h)
  · exact koK_5 _ (asc_mem h)
  · exact koK_6 _ (asc_mem h)
  · exact koK_7 _ (asc_mem h)
  · cases h
def kaP (o : Nat) (q : Nat × Unit) : Prop := Cond.methodLink (cN o) q.1 arraycopyName ∈ lw_tbl
def kaL_0 : List (Nat × Unit) := [(71, ())]
theorem kaK_0 : ∀ q ∈ kaL_0, kaP 0 q := List.forall_mem_cons.mpr ⟨List.mem_append_right _ (List.mem_of_getElem? (i := 438) (by decide +kernel)), fun _ h => absurd h List.not_mem_nil⟩
def kaL_5 : List (Nat × Unit) := [(87, ())]
theorem kaK_5 : ∀ q ∈ kaL_5, kaP 5 q := List.forall_mem_cons.mpr ⟨List.mem_append_right _ (List.mem_of_getElem? (i := 404) (by decide +kernel)), fun _ h => absurd h List.not_mem_nil⟩
def kaT (o i : Nat) : Option (Unit) := match o with
  | 0 => asc kaL_0 i
  | 5 => asc kaL_5 i
  | _ => none
theorem kaT_ok {o i : Nat} {v : Unit} (h : kaT o i = some v) : kaP o (i, v) := by
  unfold kaT at h
  split at h
  · exact kaK_0 _ (asc_mem h)
  · exact kaK_5 _ (asc_mem h)
  · cases h
def mathN (i : Nat) : MethodName := match i with
  | 0 => Lib.Math.abs.name
  | 1 => Lib.MathLoose.abs_long.x
  | 2 => Lib.Math.max.name
  | _ => Lib.Math.min.name
def kmP (o : Nat) (q : Nat × Nat) : Prop := Cond.methodLink (cN o) q.1 (mathN q.2) ∈ lw_tbl
def kmL_0 : List (Nat × Nat) := [(57, 0), (126, 3), (129, 2)]
theorem kmK_0 : ∀ q ∈ kmL_0, kmP 0 q := List.forall_mem_cons.mpr ⟨List.mem_append_right _ (List.mem_of_getElem? (i := 424) (by decide +kernel)), List.forall_mem_cons.mpr ⟨List.mem_append_right _ (List.mem_of_getElem? (i := 473) (by decide +kernel)), List.forall_mem_cons.mpr ⟨List.mem_append_right _ (List.mem_of_getElem? (i := 476) (by decide +kernel)), fun _ h => absurd h List.not_mem_nil⟩⟩⟩
def kmL_4 : List (Nat × Nat) := [(18, 1)]
theorem kmK_4 : ∀ q ∈ kmL_4, kmP 4 q := List.forall_mem_cons.mpr ⟨List.mem_append_right _ (List.mem_of_getElem? (i := 580) (by decide +kernel)), fun _ h => absurd h List.not_mem_nil⟩
def kmT (o i : Nat) : Option (Nat) := match o with
  | 0 => asc kmL_0 i
  | 4 => asc kmL_4 i
  | _ => none
theorem kmT_ok {o i : Nat} {v : Nat} (h : kmT o i = some v) : kmP o (i, v) := by
  unfold kmT at h
  split at h
  · exact kmK_0 _ (asc_mem h)
  · exact kmK_4 _ (asc_mem h)
  · cases h
theorem tb_oi : Cond.instanceMethod objectInit ∈ lw_tbl := List.mem_append_right _ (List.mem_of_getElem? (i := 19) (by decide +kernel))
theorem tb_oc : Cond.code objectInit ⟨#[0xb1]⟩ 1 none ∈ lw_tbl := List.mem_append_right _ (List.mem_of_getElem? (i := 20) rfl)
theorem tb_an : Cond.native arraycopyName ∈ lw_tbl := List.mem_append_right _ (List.mem_of_getElem? (i := 406) (by decide +kernel))
theorem tb_as : Cond.static arraycopyName ∈ lw_tbl := List.mem_append_right _ (List.mem_of_getElem? (i := 405) (by decide +kernel))
theorem tb_ai : Cond.initialized "java/lang/System" ∈ lw_tbl := List.mem_append_right _ (List.mem_of_getElem? (i := 9) (by decide +kernel))
theorem tb_ms0 : Cond.static Lib.Math.abs.name ∈ lw_tbl := List.mem_append_right _ (List.mem_of_getElem? (i := 425) (by decide +kernel))
set_option maxRecDepth 100000 in
theorem tb_mc0 : Cond.code Lib.Math.abs.name Lib.Math.abs.code 1 (some .int) ∈ lw_tbl := List.mem_append_right _ (List.mem_of_getElem? (i := 426) (by first | rfl | decide +kernel))
theorem tb_ms1 : Cond.static Lib.MathLoose.abs_long.x ∈ lw_tbl := List.mem_append_right _ (List.mem_of_getElem? (i := 581) (by decide +kernel))
set_option maxRecDepth 100000 in
theorem tb_mc1 : Cond.code Lib.MathLoose.abs_long.x Lib.MathLoose.abs_long.code 2 (some .long) ∈ lw_tbl := List.mem_append_right _ (List.mem_of_getElem? (i := 582) (by first | rfl | decide +kernel))
theorem tb_ms2 : Cond.static Lib.Math.max.name ∈ lw_tbl := List.mem_append_right _ (List.mem_of_getElem? (i := 477) (by decide +kernel))
set_option maxRecDepth 100000 in
theorem tb_mc2 : Cond.code Lib.Math.max.name Lib.Math.max.code 2 (some .int) ∈ lw_tbl := List.mem_append_right _ (List.mem_of_getElem? (i := 478) (by first | rfl | decide +kernel))
theorem tb_ms3 : Cond.static Lib.Math.min.name ∈ lw_tbl := List.mem_append_right _ (List.mem_of_getElem? (i := 474) (by decide +kernel))
set_option maxRecDepth 100000 in
theorem tb_mc3 : Cond.code Lib.Math.min.name Lib.Math.min.code 2 (some .int) ∈ lw_tbl := List.mem_append_right _ (List.mem_of_getElem? (i := 475) (by first | rfl | decide +kernel))
theorem tb_mi : Cond.initialized "java/lang/Math" ∈ lw_tbl := List.mem_append_right _ (List.mem_of_getElem? (i := 10) (by decide +kernel))
theorem tb_ci : Cond.arrayClass .int ∈ lw_tbl := List.mem_append_right _ (List.mem_of_getElem? (i := 69) (by decide +kernel))
theorem tb_cl : Cond.arrayClass .long ∈ lw_tbl := List.mem_append_right _ (List.mem_of_getElem? (i := 902) (by decide +kernel))
theorem tb_cz : Cond.arrayClass .boolean ∈ lw_tbl := List.mem_append_right _ (List.mem_of_getElem? (i := 68) (by decide +kernel))
theorem tb_c3 : Cond.arrayOver (.object RX3) ∈ lw_tbl := List.mem_append_right _ (List.mem_of_getElem? (i := 22) (by decide +kernel))
theorem tb_c0 : Cond.arrayOver (.object RX0) ∈ lw_tbl := List.mem_append_right _ (List.mem_of_getElem? (i := 24) (by decide +kernel))
theorem cl_ig {i : Nat} (h : i < 8) : ∀ w ∈ u_ws (cN i) (cT i) (cF i), w ∈ lw_g := by
  intro w hw
  refine lg_in (cl_in h w hw) ?_
  obtain ⟨k, -, rfl⟩ := List.mem_map.mp hw
  unfold u_lay
  split <;> rfl
