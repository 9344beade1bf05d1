/-- the class's cells as a state: ints and longs by object and field, arrays by place, arrays of references, the body that is built next -/
abbrev cS : Type := (Nat → Nat → Int32) × (Nat → Nat → Int64) × (Nat → Nat → Int32) × (Nat → Nat → Option Nat) × Nat
def qI (s : cS) : Nat → Nat → Int32 := s.1
def qJ (s : cS) : Nat → Nat → Int64 := s.2.1
def qA (s : cS) : Nat → Nat → Int32 := s.2.2.1
def qR (s : cS) : Nat → Nat → Option Nat := s.2.2.2.1
def qF (s : cS) : Nat := s.2.2.2.2
def uI (s : cS) (p k : Nat) (v : Int32) : cS := (fun i j => if i = p ∧ j = k then v else s.1 i j, s.2)
def uJ (s : cS) (p k : Nat) (v : Int64) : cS := (s.1, (fun i j => if i = p ∧ j = k then v else s.2.1 i j), s.2.2)
def uA (s : cS) (a : Nat) (f : Nat → Int32) : cS := (s.1, s.2.1, (fun i => if i = a then f else s.2.2.1 i), s.2.2.2)
def uR (s : cS) (a : Nat) (f : Nat → Option Nat) : cS := (s.1, s.2.1, s.2.2.1, (fun i => if i = a then f else s.2.2.2.1 i), s.2.2.2.2)
def uF (s : cS) (p : Nat) : cS := (s.1, s.2.1, s.2.2.1, s.2.2.2.1, p)
theorem qJ_uI (s : cS) (p k : Nat) (v : Int32) : qJ (uI s p k v) = qJ s := rfl
theorem qA_uI (s : cS) (p k : Nat) (v : Int32) : qA (uI s p k v) = qA s := rfl
theorem qR_uI (s : cS) (p k : Nat) (v : Int32) : qR (uI s p k v) = qR s := rfl
theorem qF_uI (s : cS) (p k : Nat) (v : Int32) : qF (uI s p k v) = qF s := rfl
theorem qI_uJ (s : cS) (p k : Nat) (v : Int64) : qI (uJ s p k v) = qI s := rfl
theorem qA_uJ (s : cS) (p k : Nat) (v : Int64) : qA (uJ s p k v) = qA s := rfl
theorem qR_uJ (s : cS) (p k : Nat) (v : Int64) : qR (uJ s p k v) = qR s := rfl
theorem qF_uJ (s : cS) (p k : Nat) (v : Int64) : qF (uJ s p k v) = qF s := rfl
theorem qI_uA (s : cS) (a : Nat) (f : Nat → Int32) : qI (uA s a f) = qI s := rfl
theorem qJ_uA (s : cS) (a : Nat) (f : Nat → Int32) : qJ (uA s a f) = qJ s := rfl
theorem qR_uA (s : cS) (a : Nat) (f : Nat → Int32) : qR (uA s a f) = qR s := rfl
theorem qF_uA (s : cS) (a : Nat) (f : Nat → Int32) : qF (uA s a f) = qF s := rfl
theorem qI_uR (s : cS) (a : Nat) (f : Nat → Option Nat) : qI (uR s a f) = qI s := rfl
theorem qJ_uR (s : cS) (a : Nat) (f : Nat → Option Nat) : qJ (uR s a f) = qJ s := rfl
theorem qA_uR (s : cS) (a : Nat) (f : Nat → Option Nat) : qA (uR s a f) = qA s := rfl
theorem qF_uR (s : cS) (a : Nat) (f : Nat → Option Nat) : qF (uR s a f) = qF s := rfl
theorem qI_uF (s : cS) (p : Nat) : qI (uF s p) = qI s := rfl
theorem qJ_uF (s : cS) (p : Nat) : qJ (uF s p) = qJ s := rfl
theorem qA_uF (s : cS) (p : Nat) : qA (uF s p) = qA s := rfl
theorem qR_uF (s : cS) (p : Nat) : qR (uF s p) = qR s := rfl
theorem qI_uI (s : cS) (p k : Nat) (v : Int32) (i j : Nat) : qI (uI s p k v) i j = if i = p ∧ j = k then v else qI s i j := id rfl
theorem qJ_uJ (s : cS) (p k : Nat) (v : Int64) (i j : Nat) : qJ (uJ s p k v) i j = if i = p ∧ j = k then v else qJ s i j := id rfl
theorem qA_uA (s : cS) (a : Nat) (f : Nat → Int32) (i : Nat) : qA (uA s a f) i = if i = a then f else qA s i := id rfl
theorem qR_uR (s : cS) (a : Nat) (f : Nat → Option Nat) (i : Nat) : qR (uR s a f) i = if i = a then f else qR s i := id rfl
theorem qF_uF (s : cS) (p : Nat) : qF (uF s p) = p := id rfl
def shL : List (Nat × Nat) := [(6, 0), (13, 8), (12, 8), (14, 8), (14, 8), (10, 8), (0, 0), (3, 24), (10, 24), (10, 24), (10, 24), (10, 176), (10, 45), (10, 132), (10, 264), (4, 0), (3, 25), (10, 25), (10, 25), (10, 25), (3, 1), (10, 1), (10, 1), (10, 1), (3, 1), (10, 1), (10, 1), (10, 1), (2, 0), (5, 0), (3, 25), (10, 25), (10, 25), (10, 25), (10, 138), (10, 184), (12, 46), (10, 138), (10, 138), (12, 625), (10, 576), (1, 0), (10, 4), (10, 4), (10, 4), (10, 4), (4, 0), (3, 24), (10, 24), (10, 24), (10, 24), (0, 0), (3, 24), (10, 24), (10, 24), (10, 24), (10, 176), (10, 45), (10, 132), (10, 264), (4, 0), (3, 24), (10, 24), (10, 24), (10, 24), (0, 0), (3, 24), (10, 24), (10, 24), (10, 24), (10, 176), (10, 45), (10, 132), (10, 264), (4, 0), (3, 24), (10, 24), (10, 24), (10, 24), (0, 0), (3, 24), (10, 24), (10, 24), (10, 24), (10, 176), (10, 45), (10, 132), (10, 264), (4, 0), (3, 24), (10, 24), (10, 24), (10, 24), (0, 0), (3, 24), (10, 24), (10, 24), (10, 24), (10, 176), (10, 45), (10, 132), (10, 264), (4, 0), (3, 24), (10, 24), (10, 24), (10, 24), (0, 0), (3, 24), (10, 24), (10, 24), (10, 24), (10, 176), (10, 45), (10, 132), (10, 264), (4, 0), (3, 24), (10, 24), (10, 24), (10, 24), (0, 0), (3, 24), (10, 24), (10, 24), (10, 24), (10, 176), (10, 45), (10, 132), (10, 264), (4, 0), (3, 24), (10, 24), (10, 24), (10, 24), (0, 0), (3, 24), (10, 24), (10, 24), (10, 24), (10, 176), (10, 45), (10, 132), (10, 264), (4, 0), (3, 24), (10, 24), (10, 24), (10, 24), (0, 0), (3, 24), (10, 24), (10, 24), (10, 24), (10, 176), (10, 45), (10, 132), (10, 264), (4, 0), (0, 0), (3, 24), (10, 24), (10, 24), (10, 24), (10, 176), (10, 45), (10, 132), (10, 264), (4, 0), (0, 0), (3, 24), (10, 24), (10, 24), (10, 24), (10, 176), (10, 45), (10, 132), (10, 264), (4, 0), (0, 0), (3, 24), (10, 24), (10, 24), (10, 24), (10, 176), (10, 45), (10, 132), (10, 264), (4, 0), (0, 0), (3, 24), (10, 24), (10, 24), (10, 24), (10, 176), (10, 45), (10, 132), (10, 264), (4, 0), (0, 0), (3, 24), (10, 24), (10, 24), (10, 24), (10, 176), (10, 45), (10, 132), (10, 264), (4, 0), (0, 0), (3, 24), (10, 24), (10, 24), (10, 24), (10, 176), (10, 45), (10, 132), (10, 264), (4, 0), (0, 0), (3, 24), (10, 24), (10, 24), (10, 24), (10, 176), (10, 45), (10, 132), (10, 264), (4, 0), (0, 0), (3, 24), (10, 24), (10, 24), (10, 24), (10, 176), (10, 45), (10, 132), (10, 264), (4, 0)]
def shp (i : Nat) : Nat × Nat := (shL[i]?).getD (99, 0)
theorem shp_lt {p : Nat} (h : (shp p).1 < 20) : p < 239 := by
  by_cases hp : p < shL.length
  · exact hp
  · unfold shp at h
    rw [List.getElem?_eq_none (by omega)] at h
    exact absurd h (by decide)
def cel (s : cS) (i : Nat) : va_E := match (shp i).1 with
  | 0 => .inr (0, [.int (qI s i 0), .ref (i + 1), .int (qI s i 2), .ref (i + 5), .ref (i + 6), .ref (i + 7), .int (qI s i 6), .ref (i + 8), .ref (i + 9)])
  | 1 => .inr (1, [.long (qJ s i 0), .long (qJ s i 1), .int (qI s i 2), .ref (i + 1), .ref (i + 2), .ref (i + 3), .ref (i + 4), .long (qJ s i 7), .long (qJ s i 8), .long (qJ s i 9)])
  | 2 => .inr (2, [.ref (i + 1), .ref (i + 12), .int (qI s i 2), .int (qI s i 3), .int (qI s i 4), .int (qI s i 5), .int (qI s i 6)])
  | 3 => .inr (3, [.int (qI s i 0), .ref (i + 1), .ref (i + 2), .ref (i + 3)])
  | 4 => .inr (4, [.long (qJ s i 0), .long (qJ s i 1)])
  | 5 => .inr (5, [.ref (i + 1), .int (qI s i 1), .ref (i + 5), .ref (i + 6), .ref (i + 7), .int (qI s i 5), .ref (i + 8), .ref (i + 9), .ref (i + 10)])
  | 6 => .inr (6, [.ref (i + 1), .ref (i + 2), .ref (i + 3), .ref (i + 4), .ref (i + 5), .int (qI s i 5), .ref (qF s), .ref (i + 16), .ref (i + 20), .ref (i + 24), .ref (i + 28), .ref (i + 41), .ref (i + 46)])
  | 10 => .inl (0, (shp i).2, .inl (qA s i))
  | 12 => .inl (2, (shp i).2, .inl (qA s i))
  | 13 => .inl (3, (shp i).2, .inr (.inr (.inr (.inr (qR s i)))))
  | 14 => .inl (4, (shp i).2, .inr (.inr (.inr (.inr (qR s i)))))
  | _ => .inl (0, 0, .inl (fun _ => 0))
def hC (s : cS) : mh := (List.range 239).map (cel s)
theorem hC_len (s : cS) : (hC s).length = 239 := by
  unfold hC
  rw [List.length_map, List.length_range]
theorem hC_at (s : cS) {p : Nat} (hp : p < 239) : (hC s)[p]? = some (cel s p) := by
  unfold hC
  rw [List.getElem?_map, List.getElem?_range hp]
  rfl
theorem hC_set {s s' : cS} {p : Nat} {c : va_E} (hp : p < 239) (h1 : cel s' p = c) (h2 : ∀ i, i ≠ p → cel s' i = cel s i) : (hC s).set p c = hC s' := by
  apply List.ext_getElem?
  intro i
  by_cases hi : i < 239
  · rw [hC_at s' hi]
    by_cases hip : p = i
    · subst hip
      rw [List.getElem?_set_self (by rw [hC_len]; exact hp), h1]
    · rw [List.getElem?_set_ne hip, hC_at s hi, h2 i (fun h => hip h.symm)]
  · rw [List.getElem?_eq_none (by rw [List.length_set, hC_len]; omega), List.getElem?_eq_none (by rw [hC_len]; omega)]
theorem cel_uI (s : cS) (p k : Nat) (v : Int32) (i : Nat) (h : i ≠ p) : cel (uI s p k v) i = cel s i := by
  unfold cel
  simp only [qI_uI, h, false_and, if_false, qJ_uI, qA_uI, qR_uI, qF_uI]
theorem cel_uJ (s : cS) (p k : Nat) (v : Int64) (i : Nat) (h : i ≠ p) : cel (uJ s p k v) i = cel s i := by
  unfold cel
  simp only [qJ_uJ, h, false_and, if_false, qI_uJ, qA_uJ, qR_uJ, qF_uJ]
theorem cel_uA (s : cS) (a : Nat) (f : Nat → Int32) (i : Nat) (h : i ≠ a) : cel (uA s a f) i = cel s i := by
  unfold cel
  simp only [qA_uA, h, false_and, if_false, qI_uA, qJ_uA, qR_uA, qF_uA]
theorem cel_uR (s : cS) (a : Nat) (f : Nat → Option Nat) (i : Nat) (h : i ≠ a) : cel (uR s a f) i = cel s i := by
  unfold cel
  simp only [qR_uR, h, false_and, if_false, qI_uR, qJ_uR, qA_uR, qF_uR]
theorem cel_uF (s : cS) (p : Nat) (i : Nat) (h : ¬ (shp i).1 = 6) : cel (uF s p) i = cel s i := by
  unfold cel
  split <;> first | rfl | (exfalso; apply h; assumption)
theorem cel_0 {s : cS} {p : Nat} (h : (shp p).1 = 0) : cel s p = .inr (0, [.int (qI s p 0), .ref (p + 1), .int (qI s p 2), .ref (p + 5), .ref (p + 6), .ref (p + 7), .int (qI s p 6), .ref (p + 8), .ref (p + 9)]) := by
  unfold cel
  rw [h]
  rfl
theorem cel_1 {s : cS} {p : Nat} (h : (shp p).1 = 1) : cel s p = .inr (1, [.long (qJ s p 0), .long (qJ s p 1), .int (qI s p 2), .ref (p + 1), .ref (p + 2), .ref (p + 3), .ref (p + 4), .long (qJ s p 7), .long (qJ s p 8), .long (qJ s p 9)]) := by
  unfold cel
  rw [h]
  rfl
theorem cel_2 {s : cS} {p : Nat} (h : (shp p).1 = 2) : cel s p = .inr (2, [.ref (p + 1), .ref (p + 12), .int (qI s p 2), .int (qI s p 3), .int (qI s p 4), .int (qI s p 5), .int (qI s p 6)]) := by
  unfold cel
  rw [h]
  rfl
theorem cel_3 {s : cS} {p : Nat} (h : (shp p).1 = 3) : cel s p = .inr (3, [.int (qI s p 0), .ref (p + 1), .ref (p + 2), .ref (p + 3)]) := by
  unfold cel
  rw [h]
  rfl
theorem cel_4 {s : cS} {p : Nat} (h : (shp p).1 = 4) : cel s p = .inr (4, [.long (qJ s p 0), .long (qJ s p 1)]) := by
  unfold cel
  rw [h]
  rfl
theorem cel_5 {s : cS} {p : Nat} (h : (shp p).1 = 5) : cel s p = .inr (5, [.ref (p + 1), .int (qI s p 1), .ref (p + 5), .ref (p + 6), .ref (p + 7), .int (qI s p 5), .ref (p + 8), .ref (p + 9), .ref (p + 10)]) := by
  unfold cel
  rw [h]
  rfl
theorem cel_6 {s : cS} {p : Nat} (h : (shp p).1 = 6) : cel s p = .inr (6, [.ref (p + 1), .ref (p + 2), .ref (p + 3), .ref (p + 4), .ref (p + 5), .int (qI s p 5), .ref (qF s), .ref (p + 16), .ref (p + 20), .ref (p + 24), .ref (p + 28), .ref (p + 41), .ref (p + 46)]) := by
  unfold cel
  rw [h]
  rfl
theorem cel_10 {s : cS} {p n : Nat} (h : shp p = (10, n)) : cel s p = .inl (0, n, .inl (qA s p)) := by
  unfold cel
  rw [h]
  rfl
theorem cel_12 {s : cS} {p n : Nat} (h : shp p = (12, n)) : cel s p = .inl (2, n, .inl (qA s p)) := by
  unfold cel
  rw [h]
  rfl
theorem cel_13 {s : cS} {p n : Nat} (h : shp p = (13, n)) : cel s p = .inl (3, n, .inr (.inr (.inr (.inr (qR s p))))) := by
  unfold cel
  rw [h]
  rfl
theorem cel_14 {s : cS} {p n : Nat} (h : shp p = (14, n)) : cel s p = .inl (4, n, .inr (.inr (.inr (.inr (qR s p))))) := by
  unfold cel
  rw [h]
  rfl
theorem kO_0 {s : cS} {p : Nat} (h : (shp p).1 = 0) : kO (hC s) p 0 = some [.int (qI s p 0), .ref (p + 1), .int (qI s p 2), .ref (p + 5), .ref (p + 6), .ref (p + 7), .int (qI s p 6), .ref (p + 8), .ref (p + 9)] := by
  unfold kO
  rw [hC_at s (shp_lt (by rw [h]; decide)), cel_0 h]
  rfl
theorem gI_0_0 {s : cS} {p : Nat} (h : (shp p).1 = 0) : gI (hC s) p 0 0 = some (qI s p 0) := by
  unfold gI
  rw [kO_0 h]
  rfl
theorem sI_0_0 {s : cS} {p : Nat} {v : Int32} (h : (shp p).1 = 0) : sV (hC s) p 0 0 (.int v) = some (hC (uI s p 0 v)) := by
  have hp : p < 239 := shp_lt (by rw [h]; decide)
  unfold sV
  rw [kO_0 h]
  refine congrArg some (hC_set hp ?_ (fun i hi => cel_uI s p 0 v i hi))
  rw [cel_0 h]
  simp [qI_uI, qJ_uI, qA_uI, qR_uI, qF_uI]
theorem gR_0_1 {s : cS} {p : Nat} (h : (shp p).1 = 0) : gR (hC s) p 0 1 = some (p + 1) := by
  unfold gR
  rw [kO_0 h]
  rfl
theorem gI_0_2 {s : cS} {p : Nat} (h : (shp p).1 = 0) : gI (hC s) p 0 2 = some (qI s p 2) := by
  unfold gI
  rw [kO_0 h]
  rfl
theorem sI_0_2 {s : cS} {p : Nat} {v : Int32} (h : (shp p).1 = 0) : sV (hC s) p 0 2 (.int v) = some (hC (uI s p 2 v)) := by
  have hp : p < 239 := shp_lt (by rw [h]; decide)
  unfold sV
  rw [kO_0 h]
  refine congrArg some (hC_set hp ?_ (fun i hi => cel_uI s p 2 v i hi))
  rw [cel_0 h]
  simp [qI_uI, qJ_uI, qA_uI, qR_uI, qF_uI]
theorem gR_0_3 {s : cS} {p : Nat} (h : (shp p).1 = 0) : gR (hC s) p 0 3 = some (p + 5) := by
  unfold gR
  rw [kO_0 h]
  rfl
theorem gR_0_4 {s : cS} {p : Nat} (h : (shp p).1 = 0) : gR (hC s) p 0 4 = some (p + 6) := by
  unfold gR
  rw [kO_0 h]
  rfl
theorem gR_0_5 {s : cS} {p : Nat} (h : (shp p).1 = 0) : gR (hC s) p 0 5 = some (p + 7) := by
  unfold gR
  rw [kO_0 h]
  rfl
theorem gI_0_6 {s : cS} {p : Nat} (h : (shp p).1 = 0) : gI (hC s) p 0 6 = some (qI s p 6) := by
  unfold gI
  rw [kO_0 h]
  rfl
theorem sI_0_6 {s : cS} {p : Nat} {v : Int32} (h : (shp p).1 = 0) : sV (hC s) p 0 6 (.int v) = some (hC (uI s p 6 v)) := by
  have hp : p < 239 := shp_lt (by rw [h]; decide)
  unfold sV
  rw [kO_0 h]
  refine congrArg some (hC_set hp ?_ (fun i hi => cel_uI s p 6 v i hi))
  rw [cel_0 h]
  simp [qI_uI, qJ_uI, qA_uI, qR_uI, qF_uI]
theorem gR_0_7 {s : cS} {p : Nat} (h : (shp p).1 = 0) : gR (hC s) p 0 7 = some (p + 8) := by
  unfold gR
  rw [kO_0 h]
  rfl
theorem gR_0_8 {s : cS} {p : Nat} (h : (shp p).1 = 0) : gR (hC s) p 0 8 = some (p + 9) := by
  unfold gR
  rw [kO_0 h]
  rfl
theorem kO_1 {s : cS} {p : Nat} (h : (shp p).1 = 1) : kO (hC s) p 1 = some [.long (qJ s p 0), .long (qJ s p 1), .int (qI s p 2), .ref (p + 1), .ref (p + 2), .ref (p + 3), .ref (p + 4), .long (qJ s p 7), .long (qJ s p 8), .long (qJ s p 9)] := by
  unfold kO
  rw [hC_at s (shp_lt (by rw [h]; decide)), cel_1 h]
  rfl
theorem gJ_1_0 {s : cS} {p : Nat} (h : (shp p).1 = 1) : gJ (hC s) p 1 0 = some (qJ s p 0) := by
  unfold gJ
  rw [kO_1 h]
  rfl
theorem sJ_1_0 {s : cS} {p : Nat} {v : Int64} (h : (shp p).1 = 1) : sV (hC s) p 1 0 (.long v) = some (hC (uJ s p 0 v)) := by
  have hp : p < 239 := shp_lt (by rw [h]; decide)
  unfold sV
  rw [kO_1 h]
  refine congrArg some (hC_set hp ?_ (fun i hi => cel_uJ s p 0 v i hi))
  rw [cel_1 h]
  simp [qJ_uJ, qI_uJ, qA_uJ, qR_uJ, qF_uJ]
theorem gJ_1_1 {s : cS} {p : Nat} (h : (shp p).1 = 1) : gJ (hC s) p 1 1 = some (qJ s p 1) := by
  unfold gJ
  rw [kO_1 h]
  rfl
theorem sJ_1_1 {s : cS} {p : Nat} {v : Int64} (h : (shp p).1 = 1) : sV (hC s) p 1 1 (.long v) = some (hC (uJ s p 1 v)) := by
  have hp : p < 239 := shp_lt (by rw [h]; decide)
  unfold sV
  rw [kO_1 h]
  refine congrArg some (hC_set hp ?_ (fun i hi => cel_uJ s p 1 v i hi))
  rw [cel_1 h]
  simp [qJ_uJ, qI_uJ, qA_uJ, qR_uJ, qF_uJ]
theorem gI_1_2 {s : cS} {p : Nat} (h : (shp p).1 = 1) : gI (hC s) p 1 2 = some (qI s p 2) := by
  unfold gI
  rw [kO_1 h]
  rfl
theorem sI_1_2 {s : cS} {p : Nat} {v : Int32} (h : (shp p).1 = 1) : sV (hC s) p 1 2 (.int v) = some (hC (uI s p 2 v)) := by
  have hp : p < 239 := shp_lt (by rw [h]; decide)
  unfold sV
  rw [kO_1 h]
  refine congrArg some (hC_set hp ?_ (fun i hi => cel_uI s p 2 v i hi))
  rw [cel_1 h]
  simp [qI_uI, qJ_uI, qA_uI, qR_uI, qF_uI]
theorem gR_1_3 {s : cS} {p : Nat} (h : (shp p).1 = 1) : gR (hC s) p 1 3 = some (p + 1) := by
  unfold gR
  rw [kO_1 h]
  rfl
theorem gR_1_4 {s : cS} {p : Nat} (h : (shp p).1 = 1) : gR (hC s) p 1 4 = some (p + 2) := by
  unfold gR
  rw [kO_1 h]
  rfl
theorem gR_1_5 {s : cS} {p : Nat} (h : (shp p).1 = 1) : gR (hC s) p 1 5 = some (p + 3) := by
  unfold gR
  rw [kO_1 h]
  rfl
theorem gR_1_6 {s : cS} {p : Nat} (h : (shp p).1 = 1) : gR (hC s) p 1 6 = some (p + 4) := by
  unfold gR
  rw [kO_1 h]
  rfl
theorem gJ_1_7 {s : cS} {p : Nat} (h : (shp p).1 = 1) : gJ (hC s) p 1 7 = some (qJ s p 7) := by
  unfold gJ
  rw [kO_1 h]
  rfl
theorem sJ_1_7 {s : cS} {p : Nat} {v : Int64} (h : (shp p).1 = 1) : sV (hC s) p 1 7 (.long v) = some (hC (uJ s p 7 v)) := by
  have hp : p < 239 := shp_lt (by rw [h]; decide)
  unfold sV
  rw [kO_1 h]
  refine congrArg some (hC_set hp ?_ (fun i hi => cel_uJ s p 7 v i hi))
  rw [cel_1 h]
  simp [qJ_uJ, qI_uJ, qA_uJ, qR_uJ, qF_uJ]
theorem gJ_1_8 {s : cS} {p : Nat} (h : (shp p).1 = 1) : gJ (hC s) p 1 8 = some (qJ s p 8) := by
  unfold gJ
  rw [kO_1 h]
  rfl
theorem sJ_1_8 {s : cS} {p : Nat} {v : Int64} (h : (shp p).1 = 1) : sV (hC s) p 1 8 (.long v) = some (hC (uJ s p 8 v)) := by
  have hp : p < 239 := shp_lt (by rw [h]; decide)
  unfold sV
  rw [kO_1 h]
  refine congrArg some (hC_set hp ?_ (fun i hi => cel_uJ s p 8 v i hi))
  rw [cel_1 h]
  simp [qJ_uJ, qI_uJ, qA_uJ, qR_uJ, qF_uJ]
theorem gJ_1_9 {s : cS} {p : Nat} (h : (shp p).1 = 1) : gJ (hC s) p 1 9 = some (qJ s p 9) := by
  unfold gJ
  rw [kO_1 h]
  rfl
theorem sJ_1_9 {s : cS} {p : Nat} {v : Int64} (h : (shp p).1 = 1) : sV (hC s) p 1 9 (.long v) = some (hC (uJ s p 9 v)) := by
  have hp : p < 239 := shp_lt (by rw [h]; decide)
  unfold sV
  rw [kO_1 h]
  refine congrArg some (hC_set hp ?_ (fun i hi => cel_uJ s p 9 v i hi))
  rw [cel_1 h]
  simp [qJ_uJ, qI_uJ, qA_uJ, qR_uJ, qF_uJ]
theorem kO_2 {s : cS} {p : Nat} (h : (shp p).1 = 2) : kO (hC s) p 2 = some [.ref (p + 1), .ref (p + 12), .int (qI s p 2), .int (qI s p 3), .int (qI s p 4), .int (qI s p 5), .int (qI s p 6)] := by
  unfold kO
  rw [hC_at s (shp_lt (by rw [h]; decide)), cel_2 h]
  rfl
theorem gR_2_0 {s : cS} {p : Nat} (h : (shp p).1 = 2) : gR (hC s) p 2 0 = some (p + 1) := by
  unfold gR
  rw [kO_2 h]
  rfl
theorem gR_2_1 {s : cS} {p : Nat} (h : (shp p).1 = 2) : gR (hC s) p 2 1 = some (p + 12) := by
  unfold gR
  rw [kO_2 h]
  rfl
theorem gI_2_2 {s : cS} {p : Nat} (h : (shp p).1 = 2) : gI (hC s) p 2 2 = some (qI s p 2) := by
  unfold gI
  rw [kO_2 h]
  rfl
theorem sI_2_2 {s : cS} {p : Nat} {v : Int32} (h : (shp p).1 = 2) : sV (hC s) p 2 2 (.int v) = some (hC (uI s p 2 v)) := by
  have hp : p < 239 := shp_lt (by rw [h]; decide)
  unfold sV
  rw [kO_2 h]
  refine congrArg some (hC_set hp ?_ (fun i hi => cel_uI s p 2 v i hi))
  rw [cel_2 h]
  simp [qI_uI, qJ_uI, qA_uI, qR_uI, qF_uI]
theorem gI_2_3 {s : cS} {p : Nat} (h : (shp p).1 = 2) : gI (hC s) p 2 3 = some (qI s p 3) := by
  unfold gI
  rw [kO_2 h]
  rfl
theorem sI_2_3 {s : cS} {p : Nat} {v : Int32} (h : (shp p).1 = 2) : sV (hC s) p 2 3 (.int v) = some (hC (uI s p 3 v)) := by
  have hp : p < 239 := shp_lt (by rw [h]; decide)
  unfold sV
  rw [kO_2 h]
  refine congrArg some (hC_set hp ?_ (fun i hi => cel_uI s p 3 v i hi))
  rw [cel_2 h]
  simp [qI_uI, qJ_uI, qA_uI, qR_uI, qF_uI]
theorem gI_2_4 {s : cS} {p : Nat} (h : (shp p).1 = 2) : gI (hC s) p 2 4 = some (qI s p 4) := by
  unfold gI
  rw [kO_2 h]
  rfl
theorem sI_2_4 {s : cS} {p : Nat} {v : Int32} (h : (shp p).1 = 2) : sV (hC s) p 2 4 (.int v) = some (hC (uI s p 4 v)) := by
  have hp : p < 239 := shp_lt (by rw [h]; decide)
  unfold sV
  rw [kO_2 h]
  refine congrArg some (hC_set hp ?_ (fun i hi => cel_uI s p 4 v i hi))
  rw [cel_2 h]
  simp [qI_uI, qJ_uI, qA_uI, qR_uI, qF_uI]
theorem gI_2_5 {s : cS} {p : Nat} (h : (shp p).1 = 2) : gI (hC s) p 2 5 = some (qI s p 5) := by
  unfold gI
  rw [kO_2 h]
  rfl
theorem sI_2_5 {s : cS} {p : Nat} {v : Int32} (h : (shp p).1 = 2) : sV (hC s) p 2 5 (.int v) = some (hC (uI s p 5 v)) := by
  have hp : p < 239 := shp_lt (by rw [h]; decide)
  unfold sV
  rw [kO_2 h]
  refine congrArg some (hC_set hp ?_ (fun i hi => cel_uI s p 5 v i hi))
  rw [cel_2 h]
  simp [qI_uI, qJ_uI, qA_uI, qR_uI, qF_uI]
theorem gI_2_6 {s : cS} {p : Nat} (h : (shp p).1 = 2) : gI (hC s) p 2 6 = some (qI s p 6) := by
  unfold gI
  rw [kO_2 h]
  rfl
theorem sI_2_6 {s : cS} {p : Nat} {v : Int32} (h : (shp p).1 = 2) : sV (hC s) p 2 6 (.int v) = some (hC (uI s p 6 v)) := by
  have hp : p < 239 := shp_lt (by rw [h]; decide)
  unfold sV
  rw [kO_2 h]
  refine congrArg some (hC_set hp ?_ (fun i hi => cel_uI s p 6 v i hi))
  rw [cel_2 h]
  simp [qI_uI, qJ_uI, qA_uI, qR_uI, qF_uI]
theorem kO_3 {s : cS} {p : Nat} (h : (shp p).1 = 3) : kO (hC s) p 3 = some [.int (qI s p 0), .ref (p + 1), .ref (p + 2), .ref (p + 3)] := by
  unfold kO
  rw [hC_at s (shp_lt (by rw [h]; decide)), cel_3 h]
  rfl
theorem gI_3_0 {s : cS} {p : Nat} (h : (shp p).1 = 3) : gI (hC s) p 3 0 = some (qI s p 0) := by
  unfold gI
  rw [kO_3 h]
  rfl
theorem sI_3_0 {s : cS} {p : Nat} {v : Int32} (h : (shp p).1 = 3) : sV (hC s) p 3 0 (.int v) = some (hC (uI s p 0 v)) := by
  have hp : p < 239 := shp_lt (by rw [h]; decide)
  unfold sV
  rw [kO_3 h]
  refine congrArg some (hC_set hp ?_ (fun i hi => cel_uI s p 0 v i hi))
  rw [cel_3 h]
  simp [qI_uI, qJ_uI, qA_uI, qR_uI, qF_uI]
theorem gR_3_1 {s : cS} {p : Nat} (h : (shp p).1 = 3) : gR (hC s) p 3 1 = some (p + 1) := by
  unfold gR
  rw [kO_3 h]
  rfl
theorem gR_3_2 {s : cS} {p : Nat} (h : (shp p).1 = 3) : gR (hC s) p 3 2 = some (p + 2) := by
  unfold gR
  rw [kO_3 h]
  rfl
theorem gR_3_3 {s : cS} {p : Nat} (h : (shp p).1 = 3) : gR (hC s) p 3 3 = some (p + 3) := by
  unfold gR
  rw [kO_3 h]
  rfl
theorem kO_4 {s : cS} {p : Nat} (h : (shp p).1 = 4) : kO (hC s) p 4 = some [.long (qJ s p 0), .long (qJ s p 1)] := by
  unfold kO
  rw [hC_at s (shp_lt (by rw [h]; decide)), cel_4 h]
  rfl
theorem gJ_4_0 {s : cS} {p : Nat} (h : (shp p).1 = 4) : gJ (hC s) p 4 0 = some (qJ s p 0) := by
  unfold gJ
  rw [kO_4 h]
  rfl
theorem sJ_4_0 {s : cS} {p : Nat} {v : Int64} (h : (shp p).1 = 4) : sV (hC s) p 4 0 (.long v) = some (hC (uJ s p 0 v)) := by
  have hp : p < 239 := shp_lt (by rw [h]; decide)
  unfold sV
  rw [kO_4 h]
  refine congrArg some (hC_set hp ?_ (fun i hi => cel_uJ s p 0 v i hi))
  rw [cel_4 h]
  simp [qJ_uJ, qI_uJ, qA_uJ, qR_uJ, qF_uJ]
theorem gJ_4_1 {s : cS} {p : Nat} (h : (shp p).1 = 4) : gJ (hC s) p 4 1 = some (qJ s p 1) := by
  unfold gJ
  rw [kO_4 h]
  rfl
theorem sJ_4_1 {s : cS} {p : Nat} {v : Int64} (h : (shp p).1 = 4) : sV (hC s) p 4 1 (.long v) = some (hC (uJ s p 1 v)) := by
  have hp : p < 239 := shp_lt (by rw [h]; decide)
  unfold sV
  rw [kO_4 h]
  refine congrArg some (hC_set hp ?_ (fun i hi => cel_uJ s p 1 v i hi))
  rw [cel_4 h]
  simp [qJ_uJ, qI_uJ, qA_uJ, qR_uJ, qF_uJ]
theorem kO_5 {s : cS} {p : Nat} (h : (shp p).1 = 5) : kO (hC s) p 5 = some [.ref (p + 1), .int (qI s p 1), .ref (p + 5), .ref (p + 6), .ref (p + 7), .int (qI s p 5), .ref (p + 8), .ref (p + 9), .ref (p + 10)] := by
  unfold kO
  rw [hC_at s (shp_lt (by rw [h]; decide)), cel_5 h]
  rfl
theorem gR_5_0 {s : cS} {p : Nat} (h : (shp p).1 = 5) : gR (hC s) p 5 0 = some (p + 1) := by
  unfold gR
  rw [kO_5 h]
  rfl
theorem gI_5_1 {s : cS} {p : Nat} (h : (shp p).1 = 5) : gI (hC s) p 5 1 = some (qI s p 1) := by
  unfold gI
  rw [kO_5 h]
  rfl
theorem sI_5_1 {s : cS} {p : Nat} {v : Int32} (h : (shp p).1 = 5) : sV (hC s) p 5 1 (.int v) = some (hC (uI s p 1 v)) := by
  have hp : p < 239 := shp_lt (by rw [h]; decide)
  unfold sV
  rw [kO_5 h]
  refine congrArg some (hC_set hp ?_ (fun i hi => cel_uI s p 1 v i hi))
  rw [cel_5 h]
  simp [qI_uI, qJ_uI, qA_uI, qR_uI, qF_uI]
theorem gR_5_2 {s : cS} {p : Nat} (h : (shp p).1 = 5) : gR (hC s) p 5 2 = some (p + 5) := by
  unfold gR
  rw [kO_5 h]
  rfl
theorem gR_5_3 {s : cS} {p : Nat} (h : (shp p).1 = 5) : gR (hC s) p 5 3 = some (p + 6) := by
  unfold gR
  rw [kO_5 h]
  rfl
theorem gR_5_4 {s : cS} {p : Nat} (h : (shp p).1 = 5) : gR (hC s) p 5 4 = some (p + 7) := by
  unfold gR
  rw [kO_5 h]
  rfl
theorem gI_5_5 {s : cS} {p : Nat} (h : (shp p).1 = 5) : gI (hC s) p 5 5 = some (qI s p 5) := by
  unfold gI
  rw [kO_5 h]
  rfl
theorem sI_5_5 {s : cS} {p : Nat} {v : Int32} (h : (shp p).1 = 5) : sV (hC s) p 5 5 (.int v) = some (hC (uI s p 5 v)) := by
  have hp : p < 239 := shp_lt (by rw [h]; decide)
  unfold sV
  rw [kO_5 h]
  refine congrArg some (hC_set hp ?_ (fun i hi => cel_uI s p 5 v i hi))
  rw [cel_5 h]
  simp [qI_uI, qJ_uI, qA_uI, qR_uI, qF_uI]
theorem gR_5_6 {s : cS} {p : Nat} (h : (shp p).1 = 5) : gR (hC s) p 5 6 = some (p + 8) := by
  unfold gR
  rw [kO_5 h]
  rfl
theorem gR_5_7 {s : cS} {p : Nat} (h : (shp p).1 = 5) : gR (hC s) p 5 7 = some (p + 9) := by
  unfold gR
  rw [kO_5 h]
  rfl
theorem gR_5_8 {s : cS} {p : Nat} (h : (shp p).1 = 5) : gR (hC s) p 5 8 = some (p + 10) := by
  unfold gR
  rw [kO_5 h]
  rfl
theorem kO_6 {s : cS} {p : Nat} (h : (shp p).1 = 6) : kO (hC s) p 6 = some [.ref (p + 1), .ref (p + 2), .ref (p + 3), .ref (p + 4), .ref (p + 5), .int (qI s p 5), .ref (qF s), .ref (p + 16), .ref (p + 20), .ref (p + 24), .ref (p + 28), .ref (p + 41), .ref (p + 46)] := by
  unfold kO
  rw [hC_at s (shp_lt (by rw [h]; decide)), cel_6 h]
  rfl
theorem gR_6_0 {s : cS} {p : Nat} (h : (shp p).1 = 6) : gR (hC s) p 6 0 = some (p + 1) := by
  unfold gR
  rw [kO_6 h]
  rfl
theorem gR_6_1 {s : cS} {p : Nat} (h : (shp p).1 = 6) : gR (hC s) p 6 1 = some (p + 2) := by
  unfold gR
  rw [kO_6 h]
  rfl
theorem gR_6_2 {s : cS} {p : Nat} (h : (shp p).1 = 6) : gR (hC s) p 6 2 = some (p + 3) := by
  unfold gR
  rw [kO_6 h]
  rfl
theorem gR_6_3 {s : cS} {p : Nat} (h : (shp p).1 = 6) : gR (hC s) p 6 3 = some (p + 4) := by
  unfold gR
  rw [kO_6 h]
  rfl
theorem gR_6_4 {s : cS} {p : Nat} (h : (shp p).1 = 6) : gR (hC s) p 6 4 = some (p + 5) := by
  unfold gR
  rw [kO_6 h]
  rfl
theorem gI_6_5 {s : cS} {p : Nat} (h : (shp p).1 = 6) : gI (hC s) p 6 5 = some (qI s p 5) := by
  unfold gI
  rw [kO_6 h]
  rfl
theorem sI_6_5 {s : cS} {p : Nat} {v : Int32} (h : (shp p).1 = 6) : sV (hC s) p 6 5 (.int v) = some (hC (uI s p 5 v)) := by
  have hp : p < 239 := shp_lt (by rw [h]; decide)
  unfold sV
  rw [kO_6 h]
  refine congrArg some (hC_set hp ?_ (fun i hi => cel_uI s p 5 v i hi))
  rw [cel_6 h]
  simp [qI_uI, qJ_uI, qA_uI, qR_uI, qF_uI]
theorem gR_6_6 {s : cS} {p : Nat} (h : (shp p).1 = 6) : gR (hC s) p 6 6 = some (qF s) := by
  unfold gR
  rw [kO_6 h]
  rfl
theorem sF_6_6 {s : cS} {p v : Nat} (h : (shp p).1 = 6) : sV (hC s) p 6 6 (.ref v) = some (hC (uF s v)) := by
  have hp : p < 239 := shp_lt (by rw [h]; decide)
  have one : ∀ i, i < 239 → (shp i).1 = 6 → i = 0 := by decide +kernel
  have h0 : p = 0 := one p hp h
  subst h0
  unfold sV
  rw [kO_6 h]
  refine congrArg some (hC_set hp ?_ (fun i hi => cel_uF s v i (fun h6 => hi ?_)))
  · rw [cel_6 h]
    rfl
  · exact one i (shp_lt (by rw [h6]; decide)) h6
theorem gR_6_7 {s : cS} {p : Nat} (h : (shp p).1 = 6) : gR (hC s) p 6 7 = some (p + 16) := by
  unfold gR
  rw [kO_6 h]
  rfl
theorem gR_6_8 {s : cS} {p : Nat} (h : (shp p).1 = 6) : gR (hC s) p 6 8 = some (p + 20) := by
  unfold gR
  rw [kO_6 h]
  rfl
theorem gR_6_9 {s : cS} {p : Nat} (h : (shp p).1 = 6) : gR (hC s) p 6 9 = some (p + 24) := by
  unfold gR
  rw [kO_6 h]
  rfl
theorem gR_6_10 {s : cS} {p : Nat} (h : (shp p).1 = 6) : gR (hC s) p 6 10 = some (p + 28) := by
  unfold gR
  rw [kO_6 h]
  rfl
theorem gR_6_11 {s : cS} {p : Nat} (h : (shp p).1 = 6) : gR (hC s) p 6 11 = some (p + 41) := by
  unfold gR
  rw [kO_6 h]
  rfl
theorem gR_6_12 {s : cS} {p : Nat} (h : (shp p).1 = 6) : gR (hC s) p 6 12 = some (p + 46) := by
  unfold gR
  rw [kO_6 h]
  rfl
theorem aI_C {s : cS} {a n : Nat} {i : Int32} (h : shp a = (10, n)) (hi : ¬ (i < 0 ∨ n ≤ i.toNatClampNeg)) : aI (hC s) a i = some (qA s a i.toNatClampNeg) := by
  unfold aI
  rw [hC_at s (shp_lt (by rw [h]; exact (Nat.le_of_ble_eq_true rfl))), cel_10 h]
  exact if_neg hi
theorem wI_C {s : cS} {a n : Nat} {i x : Int32} (h : shp a = (10, n)) (hi : ¬ (i < 0 ∨ n ≤ i.toNatClampNeg)) : wI (hC s) a i x = some (hC (uA s a (upd (qA s a) i.toNatClampNeg x))) := by
  have hp : a < 239 := shp_lt (by rw [h]; exact (Nat.le_of_ble_eq_true rfl))
  unfold wI
  rw [hC_at s hp, cel_10 h]
  refine (if_neg hi).trans (congrArg some (hC_set hp ?_ (fun i hi => cel_uA s a _ i hi)))
  rw [cel_10 h, qA_uA, if_pos rfl]
theorem aZ_C {s : cS} {a n : Nat} {i : Int32} (h : shp a = (12, n)) (hi : ¬ (i < 0 ∨ n ≤ i.toNatClampNeg)) : aZ (hC s) a i = some (qA s a i.toNatClampNeg) := by
  unfold aZ
  rw [hC_at s (shp_lt (by rw [h]; exact (Nat.le_of_ble_eq_true rfl))), cel_12 h]
  exact if_neg hi
theorem wZ_C {s : cS} {a n : Nat} {i x : Int32} (h : shp a = (12, n)) (hi : ¬ (i < 0 ∨ n ≤ i.toNatClampNeg)) : wZ (hC s) a i x = some (hC (uA s a (upd (qA s a) i.toNatClampNeg (vp_nar .boolean x)))) := by
  have hp : a < 239 := shp_lt (by rw [h]; exact (Nat.le_of_ble_eq_true rfl))
  unfold wZ
  rw [hC_at s hp, cel_12 h]
  refine (if_neg hi).trans (congrArg some (hC_set hp ?_ (fun i hi => cel_uA s a _ i hi)))
  rw [cel_12 h, qA_uA, if_pos rfl]
theorem aL_10 {s : cS} {a n : Nat} (h : shp a = (10, n)) : aL (hC s) a = some (Int32.ofNat n) := by
  unfold aL
  rw [hC_at s (shp_lt (by rw [h]; exact (Nat.le_of_ble_eq_true rfl))), cel_10 h]
  rfl
theorem aL_12 {s : cS} {a n : Nat} (h : shp a = (12, n)) : aL (hC s) a = some (Int32.ofNat n) := by
  unfold aL
  rw [hC_at s (shp_lt (by rw [h]; exact (Nat.le_of_ble_eq_true rfl))), cel_12 h]
  rfl
theorem aL_13 {s : cS} {a n : Nat} (h : shp a = (13, n)) : aL (hC s) a = some (Int32.ofNat n) := by
  unfold aL
  rw [hC_at s (shp_lt (by rw [h]; exact (Nat.le_of_ble_eq_true rfl))), cel_13 h]
  rfl
theorem aL_14 {s : cS} {a n : Nat} (h : shp a = (14, n)) : aL (hC s) a = some (Int32.ofNat n) := by
  unfold aL
  rw [hC_at s (shp_lt (by rw [h]; exact (Nat.le_of_ble_eq_true rfl))), cel_14 h]
  rfl
theorem aR_13 {s : cS} {a n : Nat} {i : Int32} (h : shp a = (13, n)) (hi : ¬ (i < 0 ∨ n ≤ i.toNatClampNeg)) : aR (hC s) a i = qR s a i.toNatClampNeg := by
  unfold aR
  rw [hC_at s (shp_lt (by rw [h]; exact (Nat.le_of_ble_eq_true rfl))), cel_13 h]
  exact if_neg hi
theorem wR_13 {s : cS} {a n v : Nat} {i : Int32} (h : shp a = (13, n)) (hv : (shp v).1 = 3) (hi : ¬ (i < 0 ∨ n ≤ i.toNatClampNeg)) : wR (hC s) a i v = some (hC (uR s a (va_up (qR s a) i.toNatClampNeg (some v)))) := by
  have hp : a < 239 := shp_lt (by rw [h]; exact (Nat.le_of_ble_eq_true rfl))
  unfold wR
  rw [hC_at s hp, cel_13 h, hC_at s (shp_lt (by rw [hv]; decide)), cel_3 hv]
  refine (if_neg hi).trans (congrArg some (hC_set hp ?_ (fun i hi => cel_uR s a _ i hi)))
  rw [cel_13 h, qR_uR, if_pos rfl]
theorem aR_14 {s : cS} {a n : Nat} {i : Int32} (h : shp a = (14, n)) (hi : ¬ (i < 0 ∨ n ≤ i.toNatClampNeg)) : aR (hC s) a i = qR s a i.toNatClampNeg := by
  unfold aR
  rw [hC_at s (shp_lt (by rw [h]; exact (Nat.le_of_ble_eq_true rfl))), cel_14 h]
  exact if_neg hi
theorem wR_14 {s : cS} {a n v : Nat} {i : Int32} (h : shp a = (14, n)) (hv : (shp v).1 = 0) (hi : ¬ (i < 0 ∨ n ≤ i.toNatClampNeg)) : wR (hC s) a i v = some (hC (uR s a (va_up (qR s a) i.toNatClampNeg (some v)))) := by
  have hp : a < 239 := shp_lt (by rw [h]; exact (Nat.le_of_ble_eq_true rfl))
  unfold wR
  rw [hC_at s hp, cel_14 h, hC_at s (shp_lt (by rw [hv]; decide)), cel_0 hv]
  refine (if_neg hi).trans (congrArg some (hC_set hp ?_ (fun i hi => cel_uR s a _ i hi)))
  rw [cel_14 h, qR_uR, if_pos rfl]
theorem sh_3 : ∀ p, p < 239 → (shp p).1 = 3 → shp (p + 1) = (10, (shp p).2) ∧ shp (p + 2) = (10, (shp p).2) ∧ shp (p + 3) = (10, (shp p).2) := by decide +kernel
theorem sh_0 : ∀ p, p < 239 → (shp p).1 = 0 → shp (p + 1) = (3, 24) ∧ shp (p + 5) = (10, 176) ∧ shp (p + 6) = (10, 45) ∧ shp (p + 7) = (10, 132) ∧ shp (p + 8) = (10, 264) ∧ shp (p + 9) = (4, 0) := by decide +kernel
def cs0 : cS := (fun p k => match p, k with | 20, 0 => 1 | _, _ => 0, fun p k => match p, k with | 41, 1 => 1 | _, _ => 0, fun _ _ => 0, fun a => match a with | 1 => lR [47, 61, 75, 89, 103, 117, 131, 145] | 3 => lR [51, 65, 79, 93, 107, 121, 135, 149] | 4 => lR [159, 169, 179, 189, 199, 209, 219, 229] | _ => fun _ => none, 6)
set_option maxRecDepth 100000 in
theorem hpC_cs0 : hpC = hC cs0 := rfl
