def pK (c j k : Nat) : Nat := if k = 0 then 9 + c else if k = 1 + j then 0 else if k = 9 + c then 1 + j else k
theorem pK_lt {c j k : Nat} (hc : c < 8) (hj : j < 8) (hk : k < 17) : pK c j k < 17 := by
  unfold pK
  by_cases c1 : k = 0
  · rw [if_pos c1]
    omega
  · rw [if_neg c1]
    by_cases c2 : k = 1 + j
    · rw [if_pos c2]
      omega
    · rw [if_neg c2]
      by_cases c3 : k = 9 + c
      · rw [if_pos c3]
        omega
      · rw [if_neg c3]
        exact hk
theorem pK_v (c j k : Nat) : (k = 0 ∧ pK c j k = 9 + c) ∨ (k ≠ 0 ∧ k = 1 + j ∧ pK c j k = 0) ∨ (k ≠ 0 ∧ k ≠ 1 + j ∧ k = 9 + c ∧ pK c j k = 1 + j) ∨ (k ≠ 0 ∧ k ≠ 1 + j ∧ k ≠ 9 + c ∧ pK c j k = k) := by
  unfold pK
  by_cases c1 : k = 0
  · rw [if_pos c1]
    exact .inl ⟨c1, rfl⟩
  · rw [if_neg c1]
    by_cases c2 : k = 1 + j
    · rw [if_pos c2]
      exact .inr (.inl ⟨c1, c2, rfl⟩)
    · rw [if_neg c2]
      by_cases c3 : k = 9 + c
      · rw [if_pos c3]
        exact .inr (.inr (.inl ⟨c1, c2, c3, rfl⟩))
      · rw [if_neg c3]
        exact .inr (.inr (.inr ⟨c1, c2, c3, rfl⟩))
theorem pK_inj {c j k k' : Nat} (hj : j < 8) (e : pK c j k = pK c j k') : k = k' := by
  have h1 := pK_v c j k
  have h2 := pK_v c j k'
  omega
/-- keepFresh, where there is room -/
theorem c_kf13 {N c j : Nat} {s : cS} {bo : Nat → Nat} (ci : CI s bo) (hc : c < 8) (hj : j < 8) (h5 : qI s 0 5 = Int32.ofNat c) : OK (fun h => ∃ s', h = hC s' ∧ CI s' (fun k => bo (pK c j k)) ∧ TF s s' ∧ (∀ i, 6 ≤ i → qI s' i = qI s i ∧ qA s' i = qA s i) ∧ qI s' 0 5 = Int32.ofNat (c + 1) ∧ ∀ x, qA s' 5 x = if x = c then Int32.ofNat j else qA s 5 x) (fxX6_keepFresh_13 N 0 (Int32.ofNat j) (hC s)) := by
  obtain ⟨⟨b1, b2, b3, b4, b5⟩, h2, h3, ⟨n, h4, h5', h6⟩, ⟨h7, h8⟩, h9⟩ := ci
  have nc : n = c := i_inj (by omega) (by omega) (h5'.symm.trans h5)
  subst nc
  unfold fxX6_keepFresh_13
  refine OK_b (gR_6_3 x06) (OK_b (gI_6_5 x06) ?_)
  rw [h5]
  refine OK_b (aR4 hc (b3 n hc)) (OK_b (gR_6_3 x06) (OK_b (gI_6_5 x06) (OK_b (gR_6_2 x06) (OK_b (aR3 hj (b2 j hj)) ?_))))
  rw [h5]
  refine OK_b (wR4 hc (b4 _ (by omega))) (OK_b (gR_6_4 x06) (OK_b (gI_6_5 x06) ?_))
  rw [qI_uR, h5]
  refine OK_b (wI_N (k := n) r5 hc (by decide)) (OK_b (gI_6_5 x06) ?_)
  rw [qI_uA, qI_uR, h5, i_s]
  refine OK_b (sI_6_5 x06) (OK_b (gR_6_2 x06) (OK_b (gR_6_6 x06) ?_))
  rw [show qF (uI (uA (uR s 4 (upR (qR s 4) n (some (bo (1 + j))))) (0 + 5) (upd (qA (uR s 4 (upR (qR s 4) n (some (bo (1 + j))))) (0 + 5)) n (Int32.ofNat j))) 0 5 (Int32.ofNat (n + 1))) = bo 0 from b1.symm]
  refine OK_b (wR3 hj (b4 0 (by omega))) (OK_b (sF_6_6 x06) (OK_s ⟨_, rfl, ?_, ?_, ?_, ?_, fun x => rfl⟩))
  · have iq : ∀ i, i ≠ 0 → qI (uF (uR (uI (uA (uR s 4 (upR (qR s 4) n (some (bo (1 + j))))) (0 + 5) (upd (qA (uR s 4 (upR (qR s 4) n (some (bo (1 + j))))) (0 + 5)) n (Int32.ofNat j))) 0 5 (Int32.ofNat (n + 1))) 3 (upR (qR (uI (uA (uR s 4 (upR (qR s 4) n (some (bo (1 + j))))) (0 + 5) (upd (qA (uR s 4 (upR (qR s 4) n (some (bo (1 + j))))) (0 + 5)) n (Int32.ofNat j))) 0 5 (Int32.ofNat (n + 1))) 3) j (some (bo 0)))) (bo (9 + n))) i = qI s i := fun i hi => by
      funext k
      rw [qI_uF, qI_uR, qI_uI, if_neg (fun w => hi w.1), qI_uA, qI_uR]
    have aq : ∀ i, i ≠ 5 → qA (uF (uR (uI (uA (uR s 4 (upR (qR s 4) n (some (bo (1 + j))))) (0 + 5) (upd (qA (uR s 4 (upR (qR s 4) n (some (bo (1 + j))))) (0 + 5)) n (Int32.ofNat j))) 0 5 (Int32.ofNat (n + 1))) 3 (upR (qR (uI (uA (uR s 4 (upR (qR s 4) n (some (bo (1 + j))))) (0 + 5) (upd (qA (uR s 4 (upR (qR s 4) n (some (bo (1 + j))))) (0 + 5)) n (Int32.ofNat j))) 0 5 (Int32.ofNat (n + 1))) 3) j (some (bo 0)))) (bo (9 + n))) i = qA s i := fun i hi => by
      rw [qA_uF, qA_uR, qA_uI, qA_ne hi, qA_uR]
    generalize hS : uF (uR (uI (uA (uR s 4 (upR (qR s 4) n (some (bo (1 + j))))) (0 + 5) (upd (qA (uR s 4 (upR (qR s 4) n (some (bo (1 + j))))) (0 + 5)) n (Int32.ofNat j))) 0 5 (Int32.ofNat (n + 1))) 3 (upR (qR (uI (uA (uR s 4 (upR (qR s 4) n (some (bo (1 + j))))) (0 + 5) (upd (qA (uR s 4 (upR (qR s 4) n (some (bo (1 + j))))) (0 + 5)) n (Int32.ofNat j))) 0 5 (Int32.ofNat (n + 1))) 3) j (some (bo 0)))) (bo (9 + n)) = S at iq aq ⊢
    have R3 : ∀ x, qR S 3 x = if x = j then some (bo 0) else qR s 3 x := fun x => by
      rw [← hS]
      rfl
    have R4 : ∀ x, qR S 4 x = if x = n then some (bo (1 + j)) else qR s 4 x := fun x => by
      rw [← hS]
      rfl
    have R1 : qR S 1 = qR s 1 := by
      rw [← hS]
      rfl
    have JS : qJ S = qJ s := by
      rw [← hS]
      rfl
    have FS : qF S = bo (9 + n) := by
      rw [← hS]
      rfl
    have A5 : ∀ x, qA S 5 x = if x = n then Int32.ofNat j else qA s 5 x := fun x => by
      rw [← hS]
      rfl
    have I5 : qI S 0 5 = Int32.ofNat (n + 1) := by
      rw [← hS]
      rfl
    have pe : ∀ p j, 6 ≤ p → pc S p j = pc s p j := fun p j hp => by
      unfold pc
      rw [aq _ (by omega), aq _ (by omega), aq _ (by omega)]
    refine ⟨⟨?_, fun x hx => ?_, fun x hx => ?_, fun k hk => b4 _ (pK_lt hc hj hk), fun k k' hk hk' e => pK_inj hj (b5 _ _ (pK_lt hc hj hk) (pK_lt hc hj hk') e)⟩, fun k hk => ?_, fun x hx => ⟨?_, ?_⟩, ⟨n + 1, by omega, I5, fun i hi => ?_⟩, ⟨?_, ?_⟩, fun x hx => ?_⟩
    · rw [FS]
      rfl
    · rw [R3]
      have := pK_v n j (1 + x)
      by_cases d : x = j
      · rw [if_pos d]
        show _ = some (bo (pK n j (1 + x)))
        rw [show pK n j (1 + x) = 0 by omega]
      · rw [if_neg d, b2 x hx]
        show _ = some (bo (pK n j (1 + x)))
        rw [show pK n j (1 + x) = 1 + x by omega]
    · rw [R4]
      have := pK_v n j (9 + x)
      by_cases d : x = n
      · rw [if_pos d]
        show _ = some (bo (pK n j (9 + x)))
        rw [show pK n j (9 + x) = 1 + j by omega]
      · rw [if_neg d, b3 x hx]
        show _ = some (bo (pK n j (9 + x)))
        rw [show pK n j (9 + x) = 9 + x by omega]
    · have kb := b4 _ (pK_lt hc hj hk)
      show BO S (bo (pK n j k))
      refine BO_IA (h2 _ (pK_lt hc hj hk)) (fun i a b => ⟨iq i ?_, aq i ?_⟩) JS
      · rcases kb with kb | ⟨y, _, kb⟩ | ⟨y, _, kb⟩ <;> omega
      · rcases kb with kb | ⟨y, _, kb⟩ | ⟨y, _, kb⟩ <;> omega
    · rw [R1]
      exact (h3 x hx).1
    · obtain ⟨m, m1, m2, m3⟩ := (h3 x hx).2
      refine ⟨m, m1, ?_, fun i hi => ?_⟩
      · rw [iq _ (by omega)]
        exact m2
      · rw [pe _ _ (by omega)]
        exact m3 i hi
    · rw [A5]
      by_cases d : i = n
      · rw [if_pos d]
        exact ⟨j, hj, rfl⟩
      · rw [if_neg d]
        exact h6 i (by omega)
    · rw [iq _ (by omega)]
      exact h7
    · rw [pe _ _ (by omega)]
      exact h8
    · rw [aq _ (by omega)]
      exact h9 x hx
  · refine ⟨?_, fun i ⟨x, hx, a, b⟩ => ⟨?_, ?_⟩⟩
    · rw [qA_uF, qA_uR, qA_uI, qA_ne (by omega), qA_uR]
    · funext k
      rw [qI_uF, qI_uR, qI_uI, if_neg (by omega), qI_uA, qI_uR]
    · rw [qA_uF, qA_uR, qA_uI, qA_ne (by omega), qA_uR]
  · intro i hi
    constructor
    · funext k
      rw [qI_uF, qI_uR, qI_uI, if_neg (by omega), qI_uA, qI_uR]
    · rw [qA_uF, qA_uR, qA_uI, qA_ne (by omega), qA_uR]
  · rw [qI_uF, qI_uR, qI_uI, if_pos ⟨rfl, rfl⟩]
/-- the earlier bodies moved one place down -/
def sD (k : Nat) : Nat := if 9 ≤ k ∧ k < 16 then k + 1 else if k = 16 then 9 else k
theorem sD_v (k : Nat) : (9 ≤ k ∧ k < 16 ∧ sD k = k + 1) ∨ (k = 16 ∧ sD k = 9) ∨ (¬ (9 ≤ k ∧ k ≤ 16) ∧ sD k = k) := by
  unfold sD
  by_cases c1 : 9 ≤ k ∧ k < 16
  · rw [if_pos c1]
    exact .inl ⟨c1.1, c1.2, rfl⟩
  · rw [if_neg c1]
    by_cases c2 : k = 16
    · rw [if_pos c2]
      exact .inr (.inl ⟨c2, rfl⟩)
    · rw [if_neg c2]
      exact .inr (.inr ⟨by omega, rfl⟩)
/-- forgetOldest -/
theorem c_forget {N : Nat} {s : cS} {bo : Nat → Nat} (hN : 600 < N) (ci : CI s bo) (h5 : qI s 0 5 = Int32.ofNat 8) : OK (fun h => ∃ s', h = hC s' ∧ CI s' (fun k => bo (sD k)) ∧ TF s s' ∧ (∀ i, 6 ≤ i → qI s' i = qI s i ∧ qA s' i = qA s i) ∧ qI s' 0 5 = Int32.ofNat 7 ∧ ∀ x, x < 7 → qA s' 5 x = qA s 5 (x + 1)) (fxX6_forgetOldest N 0 (hC s)) := by
  have ci' := ci
  obtain ⟨⟨b1, b2, b3, b4, b5⟩, h2, h3, ⟨n, h4, h5', h6⟩, ⟨h7, h8⟩, h9⟩ := ci
  have n8 : n = 8 := i_inj (by omega) (by omega) (h5'.symm.trans h5)
  subst n8
  unfold fxX6_forgetOldest
  refine OK_b (gR_6_3 x06) (OK_b (aR4 (j := 0) (by omega) (b3 0 (by omega))) ?_)
  obtain ⟨h, e, s', e', q1, q2, q3, q4, q5, q51, q6, q7, q8⟩ := c_fo9 (N := N) ci' h5 7 1 N s (by omega) (by omega) (by omega) rfl rfl (fun _ _ => rfl) (fun _ _ => rfl) rfl h6 (fun x hx => by omega) (fun x hx => rfl) (fun x hx => by omega) (fun x _ hx => b3 x hx)
  refine ⟨h, e, s', e', ?_, ?_, ?_, ?_, q51⟩
  · have iq : ∀ i, i ≠ 0 → qI s' i = qI s i := fun i hi => by
      rw [q1]
      funext k
      rw [qI_uI, if_neg (fun w => hi w.1)]
    have pe : ∀ p j, 6 ≤ p → pc s' p j = pc s p j := fun p j hp => by
      unfold pc
      rw [q2 _ (by omega), q2 _ (by omega), q2 _ (by omega)]
    refine ⟨⟨?_, fun x hx => ?_, fun x hx => ?_, fun k hk => b4 _ (by have := sD_v k; omega), fun k k' hk hk' e => ?_⟩, fun k hk => ?_, fun x hx => ⟨?_, ?_⟩, ⟨7, by omega, ?_, fun i hi => q5 i (by omega)⟩, ⟨?_, ?_⟩, fun x hx => ?_⟩
    · rw [q4]
      exact b1
    · have := sD_v (1 + x)
      show _ = some (bo (sD (1 + x)))
      rw [q3 3 (by omega), b2 x hx, show sD (1 + x) = 1 + x by omega]
    · have := sD_v (9 + x)
      show _ = some (bo (sD (9 + x)))
      by_cases d : x = 7
      · rw [d, q7, show sD (9 + 7) = 9 from rfl]
      · rw [q6 x (by omega), show sD (9 + x) = 9 + x + 1 by omega]
    · have := b5 _ _ (show sD k < 17 by have := sD_v k; omega) (show sD k' < 17 by have := sD_v k'; omega) e
      have := sD_v k
      have := sD_v k'
      omega
    · have hk' : sD k < 17 := by
        have := sD_v k
        omega
      have kb := b4 _ hk'
      show BO s' (bo (sD k))
      refine BO_IA (h2 _ hk') (fun i a b => ⟨iq i ?_, q2 i ?_⟩) q8
      · rcases kb with kb | ⟨y, _, kb⟩ | ⟨y, _, kb⟩ <;> omega
      · rcases kb with kb | ⟨y, _, kb⟩ | ⟨y, _, kb⟩ <;> omega
    · rw [q3 1 (by omega)]
      exact (h3 x hx).1
    · obtain ⟨m, m1, m2, m3⟩ := (h3 x hx).2
      refine ⟨m, m1, ?_, fun i hi => ?_⟩
      · rw [iq _ (by omega)]
        exact m2
      · rw [pe _ _ (by omega)]
        exact m3 i hi
    · rw [q1, qI_uI, if_pos ⟨rfl, rfl⟩]
    · rw [iq _ (by omega)]
      exact h7
    · rw [pe _ _ (by omega)]
      exact h8
    · rw [q2 _ (by omega)]
      exact h9 x hx
  · refine ⟨q2 2 (by omega), fun i ⟨x, hx, a, b⟩ => ⟨?_, q2 i (by omega)⟩⟩
    rw [q1]
    funext k
    rw [qI_uI, if_neg (by omega)]
  · intro i hi
    refine ⟨?_, q2 i (by omega)⟩
    rw [q1]
    funext k
    rw [qI_uI, if_neg (by omega)]
  · rw [q1, qI_uI, if_pos ⟨rfl, rfl⟩]
/-- what keepFresh does to the places and the changes -/
def KF2 (s s' : cS) (bo bo' : Nat → Nat) (j : Nat) : Prop := ∃ c, c ≤ 8 ∧ qI s 0 5 = Int32.ofNat c ∧ ((c < 8 ∧ (∀ k, bo' k = bo (pK c j k)) ∧ qI s' 0 5 = Int32.ofNat (c + 1) ∧ ∀ h, h < 8 → qA s' 5 h = if h = c then Int32.ofNat j else qA s 5 h) ∨ (c = 8 ∧ (∀ k, bo' k = bo (sD (pK 7 j k))) ∧ qI s' 0 5 = Int32.ofNat 8 ∧ ∀ h, h < 8 → qA s' 5 h = if h = 7 then Int32.ofNat j else qA s 5 (h + 1)))
theorem c_keepFresh {N j : Nat} {s : cS} {bo : Nat → Nat} (hN : 600 < N) (ci : CI s bo) (hj : j < 8) : OK (fun h => ∃ s' bo', h = hC s' ∧ CI s' bo' ∧ TF s s' ∧ (∀ i, 6 ≤ i → qI s' i = qI s i ∧ qA s' i = qA s i) ∧ KF2 s s' bo bo' j) (fxX6_keepFresh N 0 (Int32.ofNat j) (hC s)) := by
  obtain ⟨c, c8, hc, -⟩ := ci.2.2.2.1
  unfold fxX6_keepFresh
  refine OK_b (gI_6_5 x06) ?_
  rw [hc]
  refine OK_i (fun w => ?_) (fun w => ?_)
  · have e : c = 8 := i_inj (b := 8) (by omega) (by omega) w
    subst e
    refine OK_b (kO_6 x06) (OK_c (c_forget hN ci hc) (fun h e => ?_))
    obtain ⟨s1, e1, ci1, t1, f1, k1, a1⟩ := e
    subst e1
    obtain ⟨h, e, s2, e2, ci2, t2, f2, k2, a2⟩ := c_kf13 (N := N) ci1 (by omega) hj k1
    refine ⟨h, e, s2, _, e2, ci2, TF_tr t1 t2, fun i hi => ⟨((f2 i hi).1).trans (f1 i hi).1, ((f2 i hi).2).trans (f1 i hi).2⟩, 8, by omega, hc, .inr ⟨rfl, fun k => rfl, k2, fun x hx => ?_⟩⟩
    rw [a2]
    by_cases d : x = 7
    · rw [if_pos d, if_pos d]
    · rw [if_neg d, if_neg d]
      exact a1 x (by omega)
  · have c8' : c < 8 := by
      by_cases d : c = 8
      · exact absurd (by rw [d]; rfl) w
      · omega
    obtain ⟨h, e, s2, e2, ci2, t2, f2, k2, a2⟩ := c_kf13 (N := N) ci c8' hj hc
    exact ⟨h, e, s2, _, e2, ci2, t2, f2, c, c8, hc, .inl ⟨c8', fun k => rfl, k2, fun x _ => a2 x⟩⟩
