theorem i_lt0 {j : Nat} (h : j < 2147483648) : ¬ Int32.ofNat j < 0 := by
  rw [Int32.lt_iff_toInt_lt, Int32.toInt_ofNat_of_lt h]
  simp
theorem i_tn {j : Nat} (h : j < 2147483648) : (Int32.ofNat j).toNatClampNeg = j := Int32.toNatClampNeg_ofNat_of_lt h
theorem i_nb {j n : Nat} (hj : j < n) (hn : n < 2147483648) : ¬ (Int32.ofNat j < 0 ∨ n ≤ (Int32.ofNat j).toNatClampNeg) := by
  rw [i_tn (by omega)]
  intro h
  cases h with
  | inl h => exact i_lt0 (by omega) h
  | inr h => omega
theorem i_le {a b : Nat} (ha : a < 2147483648) (hb : b < 2147483648) : (Int32.ofNat a ≤ Int32.ofNat b) = (a ≤ b) := by
  rw [Int32.le_iff_toInt_le, Int32.toInt_ofNat_of_lt ha, Int32.toInt_ofNat_of_lt hb]
  simp
theorem i_lt {a b : Nat} (ha : a < 2147483648) (hb : b < 2147483648) : (Int32.ofNat a < Int32.ofNat b) = (a < b) := by
  rw [Int32.lt_iff_toInt_lt, Int32.toInt_ofNat_of_lt ha, Int32.toInt_ofNat_of_lt hb]
  simp
theorem i_s (j : Nat) : Int32.ofNat j + 1 = Int32.ofNat (j + 1) := (Int32.ofNat_add j 1).symm
theorem i_inj {a b : Nat} (ha : a < 2147483648) (hb : b < 2147483648) (h : Int32.ofNat a = Int32.ofNat b) : a = b := by
  have := congrArg Int32.toInt h
  rw [Int32.toInt_ofNat_of_lt ha, Int32.toInt_ofNat_of_lt hb] at this
  omega
/-- a slot's number, or none -/
theorem slot_or (a : Int32) : (a < 0 ∨ 8 ≤ a) ∨ ∃ j, j < 8 ∧ a = Int32.ofNat j := by
  by_cases h0 : a < 0
  · exact .inl (.inl h0)
  by_cases h8 : (8 : Int32) ≤ a
  · exact .inl (.inr h8)
  refine .inr ⟨a.toInt.toNat, ?_, ?_⟩
  · rw [Int32.le_iff_toInt_le] at h8
    have e8 : (8 : Int32).toInt = 8 := rfl
    rw [e8] at h8
    rw [Int32.lt_iff_toInt_lt] at h0
    have e0 : (0 : Int32).toInt = 0 := rfl
    rw [e0] at h0
    omega
  · apply Int32.toInt_inj.mp
    rw [Int32.le_iff_toInt_le] at h8
    have e8 : (8 : Int32).toInt = 8 := rfl
    rw [e8] at h8
    rw [Int32.lt_iff_toInt_lt] at h0
    have e0 : (0 : Int32).toInt = 0 := rfl
    rw [e0] at h0
    rw [Int32.toInt_ofNat_of_lt (by omega)]
    omega
theorem slot_no {N : Nat} {a : Int32} {h : mh} (q : a < 0 ∨ 8 ≤ a) : fxX6_isSlot N a h = some (h, 0) := by
  unfold fxX6_isSlot
  by_cases h0 : a < 0
  · rw [if_pos h0]
  · rw [if_neg h0, if_pos (q.resolve_left h0)]
theorem slot_in {N j : Nat} {h : mh} (q : j < 8) : fxX6_isSlot N (Int32.ofNat j) h = some (h, 1) := by
  unfold fxX6_isSlot
  rw [if_neg (i_lt0 (by omega)), if_neg]
  have := i_le (a := 8) (b := j) (by omega) (by omega)
  intro h
  have h2 : 8 ≤ j := by
    rw [← this]
    exact h
  omega
theorem solid_no {N : Nat} {a : Int32} {s : mS} (q : a < 0 ∨ 8 ≤ a) : mxX7_isSolid N a s = some (s, 0) := by
  unfold mxX7_isSolid
  by_cases h0 : a < 0
  · rw [if_pos h0]
  · rw [if_neg h0, if_pos (q.resolve_left h0)]
theorem solid_in {N j : Nat} {s : mS} (q : j < 8) : mxX7_isSolid N (Int32.ofNat j) s = some (s, 1) := by
  unfold mxX7_isSolid
  rw [if_neg (i_lt0 (by omega)), if_neg]
  have := i_le (a := 8) (b := j) (by omega) (by omega)
  intro h
  have h2 : 8 ≤ j := by
    rw [← this]
    exact h
  omega
