section AP
variable {h h1 R : mh} {a ci k : Nat}
theorem ap_at {x : va_E} {i : Nat} (hx : h[i]? = some x) : (h ++ R)[i]? = some x := by
  have hl : i < h.length := (List.getElem?_eq_some_iff.mp hx).1
  rw [List.getElem?_append_left hl]
  exact hx
theorem ap_set {x y : va_E} {i : Nat} (hx : h[i]? = some x) : (h ++ R).set i y = h.set i y ++ R := by
  have hl : i < h.length := (List.getElem?_eq_some_iff.mp hx).1
  rw [List.set_append_left _ _ hl]
theorem kO_ap {fs : List Value} (e : kO h a ci = some fs) : kO (h ++ R) a ci = some fs := by
  have h1 := ap_at (R := R) (kO_at e)
  unfold kO
  rw [h1]
  show (if ci = ci then some fs else none) = some fs
  rw [if_pos rfl]
theorem gI_ap {v : Int32} (e : gI h a ci k = some v) : gI (h ++ R) a ci k = some v := by
  obtain ⟨fs, h1, h2⟩ := bsm e
  unfold gI
  rw [kO_ap h1]
  exact h2
theorem gJ_ap {v : Int64} (e : gJ h a ci k = some v) : gJ (h ++ R) a ci k = some v := by
  obtain ⟨fs, h1, h2⟩ := bsm e
  unfold gJ
  rw [kO_ap h1]
  exact h2
theorem gR_ap {v : Nat} (e : gR h a ci k = some v) : gR (h ++ R) a ci k = some v := by
  obtain ⟨fs, h1, h2⟩ := bsm e
  unfold gR
  rw [kO_ap h1]
  exact h2
theorem sV_ap {v : Value} (e : sV h a ci k v = some h1) : sV (h ++ R) a ci k v = some (h1 ++ R) := by
  obtain ⟨fs, h2, h3⟩ := bsm e
  unfold sV
  rw [kO_ap h2, Option.bind_some]
  split at h3
  · rename_i hk
    cases h3
    rw [if_pos hk, ap_set (kO_at h2)]
  · cases h3
theorem aI_ap {v : Int32} {i : Int32} (e : aI h a i = some v) : aI (h ++ R) a i = some v := by
  unfold aI at e ⊢
  split at e
  · rename_i z f ha
    rw [ap_at ha]
    exact e
  · cases e
theorem aJ_ap {v : Int64} {i : Int32} (e : aJ h a i = some v) : aJ (h ++ R) a i = some v := by
  unfold aJ at e ⊢
  split at e
  · rename_i z f ha
    rw [ap_at ha]
    exact e
  · cases e
theorem aZ_ap {v : Int32} {i : Int32} (e : aZ h a i = some v) : aZ (h ++ R) a i = some v := by
  unfold aZ at e ⊢
  split at e
  · rename_i z f ha
    rw [ap_at ha]
    exact e
  · cases e
theorem aR_ap {v : Nat} {i : Int32} (e : aR h a i = some v) : aR (h ++ R) a i = some v := by
  unfold aR at e ⊢
  split at e
  · rename_i t z f ha
    rw [ap_at ha]
    exact e
  · cases e
theorem aL_ap {v : Int32} (e : aL h a = some v) : aL (h ++ R) a = some v := by
  unfold aL at e ⊢
  split at e
  · rename_i t z f ha
    rw [ap_at ha]
    exact e
  · cases e
theorem wI_ap {v : Int32} {i : Int32} (e : wI h a i v = some h1) : wI (h ++ R) a i v = some (h1 ++ R) := by
  unfold wI at e ⊢
  split at e
  · rename_i z f ha
    rw [ap_at ha]
    split at e
    · cases e
    · rename_i hc
      cases e
      show (if i < 0 ∨ z ≤ i.toNatClampNeg then none else some ((h ++ R).set a _)) = _
      rw [if_neg hc, ap_set ha]
  · cases e
theorem wJ_ap {v : Int64} {i : Int32} (e : wJ h a i v = some h1) : wJ (h ++ R) a i v = some (h1 ++ R) := by
  unfold wJ at e ⊢
  split at e
  · rename_i z f ha
    rw [ap_at ha]
    split at e
    · cases e
    · rename_i hc
      cases e
      show (if i < 0 ∨ z ≤ i.toNatClampNeg then none else some ((h ++ R).set a _)) = _
      rw [if_neg hc, ap_set ha]
  · cases e
theorem wZ_ap {v : Int32} {i : Int32} (e : wZ h a i v = some h1) : wZ (h ++ R) a i v = some (h1 ++ R) := by
  unfold wZ at e ⊢
  split at e
  · rename_i z f ha
    rw [ap_at ha]
    split at e
    · cases e
    · rename_i hc
      cases e
      show (if i < 0 ∨ z ≤ i.toNatClampNeg then none else some ((h ++ R).set a _)) = _
      rw [if_neg hc, ap_set ha]
  · cases e
theorem wR_ap {v : Nat} {i : Int32} (e : wR h a i v = some h1) : wR (h ++ R) a i v = some (h1 ++ R) := by
  unfold wR at e ⊢
  split at e
  · rename_i t z f ci vs ha hv
    rw [ap_at ha, ap_at hv]
    split at e
    · rename_i ht
      split at e
      · cases e
      · rename_i hc
        cases e
        show (if (t = 3 ∧ ci = 3) ∨ (t = 4 ∧ ci = 0) then (if i < 0 ∨ z ≤ i.toNatClampNeg then none else some ((h ++ R).set a _)) else none) = _
        rw [if_pos ht, if_neg hc, ap_set ha]
    · cases e
  · cases e
theorem cpI_ap {a0 : Nat} {sp dp q : Int32} (e : cpI h a0 sp a dp q = some h1) : cpI (h ++ R) a0 sp a dp q = some (h1 ++ R) := by
  unfold cpI at e ⊢
  split at e
  · rename_i n0 u n1 g ha0 ha
    rw [ap_at ha0, ap_at ha]
    split at e
    · cases e
    · rename_i hc
      cases e
      show (if sp < 0 ∨ dp < 0 ∨ q < 0 ∨ n0 < sp.toNatClampNeg + q.toNatClampNeg ∨ n1 < dp.toNatClampNeg + q.toNatClampNeg then none else some ((h ++ R).set a _)) = _
      rw [if_neg hc, ap_set ha]
  · cases e
end AP
