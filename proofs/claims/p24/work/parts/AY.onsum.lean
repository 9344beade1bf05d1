/-- how many of the points lie in plane k -/
def onp (P : Nat → V3) (nf : Nat → V3) (df : Nat → Int) (k x : Nat) : Nat := if vd (nf k) (P x) = df k then 1 else 0
/-- points and bounding planes: on how many planes all points lie, together, where no point lies between two others -/
theorem on_sum {w : V3} {P : Nat → V3} {n F : Nat} {nf : Nat → V3} {df : Nat → Int} (hw : 0 < vd w w) (ho : inOrd w P n) (hfull : full P n) (nbt : ∀ a x b, a < x → x < b → b < n → vx (vs (P x) (P a)) (vs (P b) (P a)) ≠ v0) (hf : ∀ k, k < F → fc P n (nf k) (df k)) (hd : ∀ i j, i < j → j < F → ¬ (nf j = nf i ∧ df j = df i)) (hn : 2 ≤ n) : sm (fun k => sm (onp P nf df k) n) F ≤ 2 * F + 2 * (n - 2) := by
  classical
  generalize hb : (fun k x : Nat => if vd (nf k) (P x) = df k ∧ (∃ a, a < x ∧ vd (nf k) (P a) = df k) ∧ (∃ e, x < e ∧ e < n ∧ vd (nf k) (P e) = df k) then 1 else 0) = b
  have bv : ∀ k x, b k x = if vd (nf k) (P x) = df k ∧ (∃ a, a < x ∧ vd (nf k) (P a) = df k) ∧ (∃ e, x < e ∧ e < n ∧ vd (nf k) (P e) = df k) then 1 else 0 := by
    intro k x
    rw [← hb]
  have b1 : ∀ k x, b k x ≤ 1 := by
    intro k x
    rw [bv]
    by_cases c : vd (nf k) (P x) = df k ∧ (∃ a, a < x ∧ vd (nf k) (P a) = df k) ∧ (∃ e, x < e ∧ e < n ∧ vd (nf k) (P e) = df k)
    · rw [if_pos c]
      exact Nat.le_refl _
    · rw [if_neg c]
      omega
  have bI : ∀ k x, b k x = 1 → vd (nf k) (P x) = df k ∧ (∃ a, a < x ∧ vd (nf k) (P a) = df k) ∧ (∃ e, x < e ∧ e < n ∧ vd (nf k) (P e) = df k) := by
    intro k x h
    rw [bv] at h
    by_cases c : vd (nf k) (P x) = df k ∧ (∃ a, a < x ∧ vd (nf k) (P a) = df k) ∧ (∃ e, x < e ∧ e < n ∧ vd (nf k) (P e) = df k)
    · exact c
    · rw [if_neg c] at h
      omega
  have one : ∀ k, k < F → sm (onp P nf df k) n ≤ sm (b k) n + 2 := by
    intro k hk
    obtain ⟨-, ⟨i, -, -, hi, -, -, ei, -⟩, -⟩ := hf k hk
    obtain ⟨lo, l1, l2, l3⟩ := least (Q := fun t => vd (nf k) (P t) = df k) i ei
    obtain ⟨hi', h1, h2, h3, h4⟩ := greatest (m := n) (Q := fun t => vd (nf k) (P t) = df k) hi ei
    have h5 : sm (onp P nf df k) n ≤ sm (fun x => b k x + (dl lo x + dl hi' x)) n := by
      refine sm_le n (fun x hx => ?_)
      show onp P nf df k x ≤ b k x + (dl lo x + dl hi' x)
      unfold onp dl
      by_cases c : vd (nf k) (P x) = df k
      · rw [if_pos c]
        by_cases c1 : x = lo
        · rw [if_pos c1]
          omega
        · by_cases c2 : x = hi'
          · rw [if_pos c2]
            omega
          · have y1 : ∃ a, a < x ∧ vd (nf k) (P a) = df k := ⟨lo, by
              by_cases w : x < lo
              · exact absurd c (l3 x w)
              · omega, l1⟩
            have y2 : ∃ e, x < e ∧ e < n ∧ vd (nf k) (P e) = df k := ⟨hi', by
              by_cases w : hi' < x
              · exact absurd c (h4 x w hx)
              · omega, h1, h2⟩
            rw [bv, if_pos ⟨c, y1, y2⟩]
            omega
      · rw [if_neg c]
        omega
    rw [sm_add, sm_add, sm_dl, sm_dl] at h5
    have e1 : (if lo < n then 1 else 0) ≤ 1 := by
      by_cases c : lo < n
      · rw [if_pos c]
        exact Nat.le_refl _
      · rw [if_neg c]
        omega
    have e2 : (if hi' < n then 1 else 0) ≤ 1 := by
      by_cases c : hi' < n
      · rw [if_pos c]
        exact Nat.le_refl _
      · rw [if_neg c]
        omega
    omega
  have tot : sm (fun k => sm (onp P nf df k) n) F ≤ sm (fun k => sm (b k) n) F + 2 * F := by
    have h1 := sm_le (f := fun k => sm (onp P nf df k) n) (g := fun k => sm (b k) n + 2) F one
    rw [sm_add, sm_c] at h1
    exact h1
  have sw : sm (fun k => sm (b k) n) F = sm (fun x => sm (fun k => b k x) F) n := sm_swap b n F
  rw [sw] at tot
  have pt : ∀ x, x < n → sm (fun k => b k x) F + (2 * dl 0 x + 2 * dl (n - 1) x) ≤ 2 := by
    intro x hx
    by_cases c : x = 0 ∨ x = n - 1
    · have z : sm (fun k => b k x) F ≤ sm (fun _ => 0) F := by
        refine sm_le F (fun k hk => ?_)
        by_cases q : b k x = 1
        · exfalso
          obtain ⟨-, ⟨a, a1, -⟩, ⟨e, e1, e2, -⟩⟩ := bI k x q
          omega
        · have := b1 k x
          show b k x ≤ 0
          omega
      rw [sm_c] at z
      unfold dl
      rcases c with c | c
      · rw [if_pos c, if_neg (by omega)]
        omega
      · rw [if_pos c, if_neg (by omega)]
        omega
    · unfold dl
      rw [if_neg (by omega), if_neg (by omega)]
      refine sm_two (b := fun k => b k x) (fun k => b1 k x) ?_
      intro i j k hij hjk hk q1 q2 q3
      obtain ⟨x5, ⟨a1, x1, x4⟩, ⟨e1, x2, x3, x6⟩⟩ := bI i x q1
      obtain ⟨y5, ⟨a2, y1, y4⟩, ⟨e2, y2, y3, y6⟩⟩ := bI j x q2
      obtain ⟨z5, ⟨a3, z1, z4⟩, ⟨e3, z2, z3, z6⟩⟩ := bI k x q3
      exact three_mid hw ho hfull (hf i (by omega)) (hf j (by omega)) (hf k hk) (hd i j hij (by omega)) (hd i k (by omega) hk) (hd j k hjk hk) x1 x2 x3 x4 x5 x6 (nbt _ _ _ x1 x2 x3) y1 y2 y3 y4 y5 y6 (nbt _ _ _ y1 y2 y3) z1 z2 z3 z4 z5 z6 (nbt _ _ _ z1 z2 z3)
  have sum2 := sm_le (f := fun x => sm (fun k => b k x) F + (2 * dl 0 x + 2 * dl (n - 1) x)) (g := fun _ => 2) n pt
  have dbl : ∀ a, sm (fun x => 2 * dl a x) n = 2 * sm (dl a) n := by
    intro a
    have : (fun x => 2 * dl a x) = fun x => dl a x + dl a x := by
      funext x
      omega
    rw [this, sm_add]
    omega
  rw [sm_add, sm_add, dbl, dbl, sm_dl, sm_dl, if_pos (by omega), if_pos (by omega), sm_c] at sum2
  omega
/-- a bounding plane holds three of the points -/
theorem on_three {P : Nat → V3} {n : Nat} {nf : Nat → V3} {df : Nat → Int} {k : Nat} (hf : fc P n (nf k) (df k)) : 3 ≤ sm (onp P nf df k) n := by
  obtain ⟨-, ⟨i, j, l, hi, hj, hl, ei, ej, el, nz⟩, -⟩ := hf
  have d1 : i ≠ j := fun e => nz (by rw [e, vs_self, vx_0])
  have d2 : j ≠ l := fun e => nz (by rw [e, vx_self])
  have d3 : i ≠ l := fun e => nz (by
    rw [← e, vs_self]
    exact v3_ext (by show _ * (0 : Int) - _ * 0 = 0; omega) (by show _ * (0 : Int) - _ * 0 = 0; omega) (by show _ * (0 : Int) - _ * 0 = 0; omega))
  have on : ∀ t, vd (nf k) (P t) = df k → 1 ≤ onp P nf df k t := fun t e => by
    unfold onp
    rw [if_pos e]
    omega
  refine sm_inj (v := fun t => if t = 0 then i else if t = 1 then j else l) (fun t ht => ?_) (fun a b hab hb => ?_)
  · show (if t = 0 then i else if t = 1 then j else l) < n ∧ 1 ≤ onp P nf df k (if t = 0 then i else if t = 1 then j else l)
    by_cases c0 : t = 0
    · rw [if_pos c0]
      exact ⟨hi, on i ei⟩
    · rw [if_neg c0]
      by_cases c1 : t = 1
      · rw [if_pos c1]
        exact ⟨hj, on j ej⟩
      · rw [if_neg c1]
        exact ⟨hl, on l el⟩
  · show (if a = 0 then i else if a = 1 then j else l) ≠ (if b = 0 then i else if b = 1 then j else l)
    have cs : (a = 0 ∧ b = 1) ∨ (a = 0 ∧ b = 2) ∨ (a = 1 ∧ b = 2) := by omega
    rcases cs with ⟨rfl, rfl⟩ | ⟨rfl, rfl⟩ | ⟨rfl, rfl⟩
    · exact d1
    · exact d3
    · exact d2
