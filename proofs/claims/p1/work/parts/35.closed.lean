/-- both answer, and alike -/
def okP {α : Type} (o1 : Option (mh × α)) (o2 : Option (mS × α)) : Prop := ∃ C r s', o1 = some (C, r) ∧ C.length = 239 ∧ o2 = some (s', r)
def ckI (o1 : Option (mh × Int32)) (o2 : Option (mS × Int32)) : Bool := match o1, o2 with
  | some a, some b => decide (a.1.length = 239) && decide (a.2 = b.2)
  | _, _ => false
def ckJ (o1 : Option (mh × Int64)) (o2 : Option (mS × Int64)) : Bool := match o1, o2 with
  | some a, some b => decide (a.1.length = 239) && decide (a.2 = b.2)
  | _, _ => false
theorem ckI_ok {o1 : Option (mh × Int32)} {o2 : Option (mS × Int32)} (h : ckI o1 o2 = true) : okP o1 o2 := by
  unfold ckI at h
  split at h
  · rename_i a b
    rw [Bool.and_eq_true] at h
    have h1 := of_decide_eq_true h.1
    have h2 := of_decide_eq_true h.2
    refine ⟨a.1, a.2, b.1, rfl, h1, ?_⟩
    rw [h2]
  · cases h
theorem ckJ_ok {o1 : Option (mh × Int64)} {o2 : Option (mS × Int64)} (h : ckJ o1 o2 = true) : okP o1 o2 := by
  unfold ckJ at h
  split at h
  · rename_i a b
    rw [Bool.and_eq_true] at h
    have h1 := of_decide_eq_true h.1
    have h2 := of_decide_eq_true h.2
    refine ⟨a.1, a.2, b.1, rfl, h1, ?_⟩
    rw [h2]
  · cases h
theorem al1 {n : Nat} {f : Nat → Bool} (h : (List.range n).all f = true) {i : Nat} (hi : i < n) : f i = true := List.all_eq_true.mp h i (List.mem_range.mpr hi)
theorem al2 {n m : Nat} {f : Nat → Nat → Bool} (h : ((List.range n).all fun i => (List.range m).all fun k => f i k) = true) {i k : Nat} (hi : i < n) (hk : k < m) : f i k = true := al1 (al1 h hi) hk
theorem al3 {n m l : Nat} {f : Nat → Nat → Nat → Bool} (h : ((List.range n).all fun i => (List.range m).all fun k => (List.range l).all fun r => f i k r) = true) {i k r : Nat} (hi : i < n) (hk : k < m) (hr : r < l) : f i k r = true := al1 (al1 (al1 h hi) hk) hr
set_option maxRecDepth 100000 in
theorem q_copy : ((List.range 8).all fun i => (List.range 8).all fun k => ckI (fxX6_copy 1000 0 (Int32.ofNat i) (Int32.ofNat k) hpC) (mxX7_copy 1000 (Int32.ofNat i) (Int32.ofNat k) ms0)) = true := by decide +kernel
set_option maxRecDepth 100000 in
theorem q_solid : ((List.range 8).all fun i => (List.range 8).all fun k => ckI (fxX6_solid 1000 0 (Int32.ofNat i) (Int32.ofNat k) hpC) (mxX7_solid 1000 (Int32.ofNat i) (Int32.ofNat k) ms0)) = true := by decide +kernel
set_option maxRecDepth 100000 in
theorem q_mirror : ((List.range 8).all fun i => (List.range 4).all fun k => ckI (fxX6_mirror 1000 0 (Int32.ofNat i) (Int32.ofNat k) hpC) (mxX7_mirror 1000 (Int32.ofNat i) (Int32.ofNat k) ms0)) = true := by decide +kernel
set_option maxRecDepth 100000 in
theorem q_turn : ((List.range 8).all fun i => (List.range 3).all fun k => ckI (fxX6_turn 1000 0 (Int32.ofNat i) (Int32.ofNat k) hpC) (mxX7_turn 1000 (Int32.ofNat i) (Int32.ofNat k) ms0)) = true := by decide +kernel
set_option maxRecDepth 100000 in
theorem q_same : ((List.range 8).all fun i => (List.range 8).all fun k => ckI (fxX6_same 1000 0 (Int32.ofNat i) (Int32.ofNat k) hpC) (mxX7_same 1000 (Int32.ofNat i) (Int32.ofNat k) ms0)) = true := by decide +kernel
set_option maxRecDepth 100000 in
theorem q_apart : ((List.range 8).all fun i => (List.range 8).all fun k => ckI (fxX6_apart 1000 0 (Int32.ofNat i) (Int32.ofNat k) hpC) (mxX7_apart 1000 (Int32.ofNat i) (Int32.ofNat k) ms0)) = true := by decide +kernel
theorem q_volume : ((List.range 8).all fun i => ckJ (fxX6_volume 1000 0 (Int32.ofNat i) hpC) (mxX7_volume 1000 (Int32.ofNat i) ms0)) = true := by decide +kernel
theorem q_undo : ckI (fxX6_undo 1000 0 hpC) (mxX7_undo 1000 ms0) = true := by decide +kernel
theorem q_tray : ((List.range 8).all fun i => (List.range 26).all fun k => ckI (fxX6_tray 1000 0 (Int32.ofNat i) (Int32.ofInt ((k : Int) - 1)) hpC) (mxX7_tray 1000 (Int32.ofNat i) (Int32.ofInt ((k : Int) - 1)) ms0)) = true := by decide +kernel
