def pU (c j k : Nat) : Nat := if k = 1 + j then 9 + c else if k = 9 + c then 1 + j else k
theorem pU_v (c j k : Nat) : (k = 1 + j ∧ pU c j k = 9 + c) ∨ (k ≠ 1 + j ∧ k = 9 + c ∧ pU c j k = 1 + j) ∨ (k ≠ 1 + j ∧ k ≠ 9 + c ∧ pU c j k = k) := by
  unfold pU
  by_cases c1 : k = 1 + j
  · rw [if_pos c1]
    exact .inl ⟨c1, rfl⟩
  · rw [if_neg c1]
    by_cases c2 : k = 9 + c
    · rw [if_pos c2]
      exact .inr (.inl ⟨c1, c2, rfl⟩)
    · rw [if_neg c2]
      exact .inr (.inr ⟨c1, c2, rfl⟩)
theorem aI5 {s : cS} {k : Nat} (hk : k < 8) : aI (hC s) (0 + 5) (Int32.ofNat k) = some (qA s 5 k) := aI_N r5 hk (by decide)
/-- undo -/
theorem y_undo {N : Nat} {s : cS} {bo : Nat → Nat} (ci : CI s bo) : OK (fun r => (r.2 = -1 ∧ r.1 = hC s ∧ qI s 0 5 = 0) ∨ ∃ c j s', c < 8 ∧ j < 8 ∧ qI s 0 5 = Int32.ofNat (c + 1) ∧ qA s 5 c = Int32.ofNat j ∧ r.2 = Int32.ofNat c ∧ r.1 = hC s' ∧ CI s' (fun k => bo (pU c j k)) ∧ TF s s' ∧ (∀ i, i ≠ 0 → qI s' i = qI s i) ∧ qA s' = qA s ∧ qI s' 0 5 = Int32.ofNat c) (fxX6_undo N 0 (hC s)) := by
  have ci' := ci
  obtain ⟨⟨b1, b2, b3, b4, b5⟩, h2, h3, ⟨n, h4, h5, h6⟩, ⟨h7, h8⟩, h9⟩ := ci
  unfold fxX6_undo
  refine OK_b (gI_6_5 x06) ?_
  rw [h5]
  refine OK_i (fun w => OK_s (.inl ⟨rfl, rfl, w⟩)) (fun w => ?_)
  obtain ⟨c, rfl⟩ : ∃ c, n = c + 1 := ⟨n - 1, by
    by_cases d : n = 0
    · exact absurd (by rw [d]; rfl) w
    · omega⟩
  have hc : c < 8 := by omega
  obtain ⟨j, hj, ej⟩ := h6 c (by omega)
  refine OK_b (gI_6_5 x06) ?_
  rw [h5, i_m1]
  refine OK_b (sI_6_5 x06) (OK_b (gR_6_4 x06) (OK_b (gI_6_5 x06) ?_))
  rw [qI_uI, if_pos ⟨rfl, rfl⟩]
  refine OK_b (aI5 hc) ?_
  rw [qA_uI, ej]
  refine OK_b (gR_6_2 x06) (OK_b (aR3 (s := uI s 0 5 (Int32.ofNat c)) hj (b2 j hj)) (OK_b (gR_6_2 x06) (OK_b (gR_6_3 x06) (OK_b (gI_6_5 x06) ?_))))
  rw [qI_uI, if_pos ⟨rfl, rfl⟩]
  refine OK_b (aR4 (s := uI s 0 5 (Int32.ofNat c)) hc (b3 c hc)) (OK_b (wR3 hj (b4 _ (by omega))) (OK_b (gR_6_3 x06) (OK_b (gI_6_5 x06) ?_)))
  rw [qI_uR, qI_uI, if_pos ⟨rfl, rfl⟩]
  refine OK_b (wR4 hc (b4 _ (by omega))) (OK_b (gI_6_5 x06) (OK_s (.inr ⟨c, j, _, hc, hj, rfl, ej, ?_, rfl, ?_, ?_, ?_, rfl, ?_⟩)))
  · rw [qI_uR, qI_uR, qI_uI, if_pos ⟨rfl, rfl⟩]
  · generalize hS : uR (uR (uI s 0 5 (Int32.ofNat c)) 3 (upR (qR (uI s 0 5 (Int32.ofNat c)) 3) j (some (bo (9 + c))))) 4 (upR (qR (uR (uI s 0 5 (Int32.ofNat c)) 3 (upR (qR (uI s 0 5 (Int32.ofNat c)) 3) j (some (bo (9 + c))))) 4) c (some (bo (1 + j)))) = S
    have iq : ∀ i, i ≠ 0 → qI S i = qI s i := fun i hi => by
      rw [← hS]
      funext k
      rw [qI_uR, qI_uR, qI_uI, if_neg (fun w => hi w.1)]
    have aq : qA S = qA s := by
      rw [← hS]
      rfl
    have R3 : ∀ x, qR S 3 x = if x = j then some (bo (9 + c)) else qR s 3 x := fun x => by
      rw [← hS]
      rfl
    have R4 : ∀ x, qR S 4 x = if x = c then some (bo (1 + j)) else qR s 4 x := fun x => by
      rw [← hS]
      rfl
    have R1 : qR S 1 = qR s 1 := by
      rw [← hS]
      rfl
    have JS : qJ S = qJ s := by
      rw [← hS]
      rfl
    have FS : qF S = qF s := by
      rw [← hS]
      rfl
    have I5 : qI S 0 5 = Int32.ofNat c := by
      rw [← hS]
      rfl
    have pe : ∀ p j, pc S p j = pc s p j := fun p j => by
      unfold pc
      rw [aq]
    have lt : ∀ k, k < 17 → pU c j k < 17 := fun k hk => by
      have := pU_v c j k
      omega
    refine ⟨⟨?_, fun x hx => ?_, fun x hx => ?_, fun k hk => b4 _ (lt k hk), fun k k' hk hk' e => ?_⟩, fun k hk => ?_, fun x hx => ⟨?_, ?_⟩, ⟨c, by omega, I5, fun i hi => ?_⟩, ⟨?_, ?_⟩, fun x hx => ?_⟩
    · rw [FS, ← b1]
      show bo (pU c j 0) = bo 0
      have := pU_v c j 0
      rw [show pU c j 0 = 0 by omega]
    · rw [R3]
      show _ = some (bo (pU c j (1 + x)))
      have := pU_v c j (1 + x)
      by_cases d : x = j
      · rw [if_pos d, show pU c j (1 + x) = 9 + c by omega]
      · rw [if_neg d, b2 x hx, show pU c j (1 + x) = 1 + x by omega]
    · rw [R4]
      show _ = some (bo (pU c j (9 + x)))
      have := pU_v c j (9 + x)
      by_cases d : x = c
      · rw [if_pos d, show pU c j (9 + x) = 1 + j by omega]
      · rw [if_neg d, b3 x hx, show pU c j (9 + x) = 9 + x by omega]
    · have := b5 _ _ (lt k hk) (lt k' hk') e
      have := pU_v c j k
      have := pU_v c j k'
      omega
    · show BO S (bo (pU c j k))
      have kb := b4 _ (lt k hk)
      refine BO_IA (h2 _ (lt k hk)) (fun i a b => ⟨iq i ?_, by rw [aq]⟩) JS
      rcases kb with kb | ⟨y, _, kb⟩ | ⟨y, _, kb⟩ <;> omega
    · rw [R1]
      exact (h3 x hx).1
    · obtain ⟨m, m1, m2, m3⟩ := (h3 x hx).2
      refine ⟨m, m1, ?_, fun i hi => ?_⟩
      · rw [iq _ (by omega)]
        exact m2
      · rw [pe]
        exact m3 i hi
    · rw [aq]
      exact h6 i (by omega)
    · rw [iq _ (by omega)]
      exact h7
    · rw [pe]
      exact h8
    · rw [aq]
      exact h9 x hx
  · refine ⟨rfl, fun i ⟨x, hx, a, b⟩ => ⟨?_, rfl⟩⟩
    funext k
    rw [qI_uR, qI_uR, qI_uI, if_neg (by omega)]
  · intro i hi
    funext k
    rw [qI_uR, qI_uR, qI_uI, if_neg (fun w => hi w.1)]
  · rw [qI_uR, qI_uR, qI_uI, if_pos ⟨rfl, rfl⟩]
/-- a tray's cells have changed alone -/
theorem CI_tr {s s' : cS} {bo : Nat → Nat} {i : Nat} (ci : CI s bo) (hi : i < 8) (c : cf (fun x => x = 2 ∨ rg (47 + 14 * i) (50 + 14 * i) x) s s') (t : trP s' i) : CI s' bo := by
  obtain ⟨⟨b1, b2, b3, b4, b5⟩, h2, h3, ⟨n, h4, h5, h6⟩, ⟨h7, h8⟩, h9⟩ := ci
  have no : ∀ x, (x < 47 ∧ x ≠ 2) → ¬ (x = 2 ∨ rg (47 + 14 * i) (50 + 14 * i) x) := fun x hx w => by
    rcases w with w | w
    · omega
    · have := w.1
      omega
  refine ⟨⟨by rw [c.F]; exact b1, fun j hj => by rw [c.R (no 3 (by omega))]; exact b2 j hj, fun j hj => by rw [c.R (no 4 (by omega))]; exact b3 j hj, b4, b5⟩, fun k hk => ?_, fun j hj => ⟨by rw [c.R (no 1 (by omega))]; exact (h3 j hj).1, ?_⟩, ⟨n, h4, by rw [c.I (no 0 (by omega))]; exact h5, fun i hi => by rw [c.A (no 5 (by omega))]; exact h6 i hi⟩, ⟨by rw [c.I (no 20 (by omega))]; exact h7, by rw [pc_cf c (fun i a b => no i (by omega))]; exact h8⟩, fun j hj => by rw [c.A (no 39 (by omega))]; exact h9 j hj⟩
  · refine BO_cf (h2 k hk) c (fun x a b w => ?_)
    have kb := b4 k hk
    rcases w with w | w
    · rcases kb with kb | ⟨y, _, kb⟩ | ⟨y, _, kb⟩ <;> omega
    · exact isB_tr kb a (by omega) hi ⟨w.1, w.2⟩
  · by_cases d : j = i
    · rw [d]
      exact t
    · obtain ⟨m, m1, m2, m3⟩ := (h3 j hj).2
      have nj : ∀ x, 47 + 14 * j ≤ x → x ≤ 50 + 14 * j → ¬ (x = 2 ∨ rg (47 + 14 * i) (50 + 14 * i) x) := fun x a b w => by
        rcases w with w | w
        · omega
        · have := w.1
          have := w.2
          omega
      refine ⟨m, m1, ?_, fun y hy => ?_⟩
      · rw [c.I (nj _ (by omega) (by omega))]
        exact m2
      · rw [pc_cf c (fun x a b => nj x (by omega) (by omega))]
        exact m3 y hy
/-- what tray leaves -/
def TY (s s' : cS) (i m : Nat) (v : Int32) : Prop := cf (fun x => x = 2 ∨ rg (47 + 14 * i) (50 + 14 * i) x) s s' ∧ qA s' 2 = upd (qA s 2) i v ∧ qI s' (47 + 14 * i) 0 = Int32.ofNat m ∧ ∀ k, k < m → pc s' (47 + 14 * i) k = v0
theorem n_or {n : Int32} (h1 : ¬ n < -1) (h2 : n ≤ 24) : n = -1 ∨ ∃ m, m ≤ 24 ∧ n = Int32.ofNat m := by
  by_cases c : n < 0
  · left
    rw [Int32.lt_iff_toInt_lt] at h1 c
    have e1 : (-1 : Int32).toInt = -1 := rfl
    have e0 : (0 : Int32).toInt = 0 := rfl
    apply Int32.toInt_inj.mp
    omega
  · right
    exact ax_or (n := 24) (by omega) c h2
theorem c_ty47 {N i m : Nat} {n : Int32} {s0 : cS} {v : Int32} (hi : i < 8) (hm : m ≤ 24) (q1 : ∀ s, qR s 1 = qR s0 1 → aR (hC s) (0 + 1) (Int32.ofNat i) = some (47 + 14 * i)) (hn : (n = -1 ∧ m = 0) ∨ n = Int32.ofNat m) : ∀ (r k fu : Nat) (s : cS), k + r = m → r < fu → TY s0 s i k v → OK (fun r => r.2 = 1 ∧ ∃ s', r.1 = hC s' ∧ TY s0 s' i m v) (fxX6_tray_47 N fu 0 (Int32.ofNat i) n (Int32.ofNat k) (hC s)) := by
  have h3 : (shp (47 + 14 * i)).1 = 3 := by rw [sh_tr hi]
  intro r
  induction r with
  | zero =>
    intro k fu s hk hfu h
    obtain ⟨fu', rfl⟩ : ∃ f', fu = f' + 1 := ⟨fu - 1, by omega⟩
    have e : k = m := by omega
    subst e
    rw [fxX6_tray_47]
    refine OK_p ?_ (OK_s ⟨rfl, s, rfl, h⟩)
    rcases hn with ⟨e, e'⟩ | e
    · rw [e, e']
      decide
    · rw [e]
      exact Int32.le_refl _
  | succ r ih =>
    intro k fu s hk hfu h
    obtain ⟨fu', rfl⟩ : ∃ f', fu = f' + 1 := ⟨fu - 1, by omega⟩
    obtain ⟨c, a2, i0, pz⟩ := h
    have en : n = Int32.ofNat m := hn.resolve_left (by omega)
    obtain ⟨s2, q2, c2, -, p2⟩ := c_put2 (N := N) (p := 47 + 14 * i) (n := 24) (k := k) (x := 0) (y := 0) (z := 0) (s := s) (sh_tr hi) (by omega) i0 (by omega)
    obtain ⟨i2, p2'⟩ := p2 (by omega)
    rw [fxX6_tray_47, i_s]
    refine OK_n (by rw [en, i_le (by omega) (by omega)]; omega) (OK_b (gR_6_0 x06) (OK_b (q1 s (c.R (fun w => by
      rcases w with w | w
      · omega
      · have := w.1
        omega))) (OK_b (kO_3 h3) (OK_b q2 (ih (k + 1) fu' s2 (by omega) (by omega) ⟨c.tr (c2.mo (fun x hx => .inr ⟨hx.1, by have := hx.2; omega⟩)), ?_, i2, fun y hy => ?_⟩)))))
    · rw [c2.A (fun w => by have := w.1; omega)]
      exact a2
    · rw [p2']
      by_cases d : y = k
      · rw [if_pos d]
        rfl
      · rw [if_neg d]
        exact pz y (by omega)
/-- tray: it answers by slot and number alone -/
theorem y_tray {N : Nat} {a n : Int32} {s : cS} {bo : Nat → Nat} (hN : 100000 < N) (ci : CI s bo) : OK (fun r => (r.2 = 0 ∧ r.1 = hC s ∧ ((a < 0 ∨ 8 ≤ a) ∨ n < -1 ∨ ¬ n ≤ 24)) ∨ (r.2 = 1 ∧ ¬ n < -1 ∧ n ≤ 24 ∧ ∃ i m s', i < 8 ∧ a = Int32.ofNat i ∧ m ≤ 24 ∧ ((n = -1 ∧ m = 0) ∨ n = Int32.ofNat m) ∧ r.1 = hC s' ∧ CI s' bo ∧ TY s s' i m (if n = -1 then 0 else 1))) (fxX6_tray N 0 a n (hC s)) := by
  unfold fxX6_tray
  refine OK_slot (fun i hi ei => ?_) (fun w => OK_p rfl (OK_s (.inl ⟨rfl, rfl, .inl w⟩)))
  refine OK_n no1 (OK_i (fun w => OK_s (.inl ⟨rfl, rfl, .inr (.inl w)⟩)) (fun w1 => OK_i (fun w2 => ?_) (fun w => OK_s (.inl ⟨rfl, rfl, .inr (.inr w)⟩))))
  subst ei
  obtain ⟨q1, -⟩ := ci.2.2.1 i hi
  have h3 : (shp (47 + 14 * i)).1 = 3 := by rw [sh_tr hi]
  have q1' : ∀ s', qR s' 1 = qR s 1 → aR (hC s') (0 + 1) (Int32.ofNat i) = some (47 + 14 * i) := fun s' e => aR1 hi (by rw [e]; exact q1)
  obtain ⟨m, hm, hn⟩ : ∃ m, m ≤ 24 ∧ ((n = -1 ∧ m = 0) ∨ n = Int32.ofNat m) := by
    rcases n_or w1 w2 with e | ⟨m, hm, e⟩
    · exact ⟨0, by omega, .inl ⟨e, rfl⟩⟩
    · exact ⟨m, hm, .inr e⟩
  have go : ∀ v : Int32, (v = 0 ∨ v = 1) → v = (if n = -1 then 0 else 1) → OK (fun r => (r.2 = 0 ∧ r.1 = hC s ∧ ((Int32.ofNat i < 0 ∨ 8 ≤ Int32.ofNat i) ∨ n < -1 ∨ ¬ n ≤ 24)) ∨ (r.2 = 1 ∧ ¬ n < -1 ∧ n ≤ 24 ∧ ∃ i' m s', i' < 8 ∧ Int32.ofNat i = Int32.ofNat i' ∧ m ≤ 24 ∧ ((n = -1 ∧ m = 0) ∨ n = Int32.ofNat m) ∧ r.1 = hC s' ∧ CI s' bo ∧ TY s s' i' m (if n = -1 then 0 else 1))) (fxX6_tray_35 N 0 (Int32.ofNat i) n v (Int32.ofNat i) (0 + 2) (hC s)) := fun v hv ev => by
    have wz : wZ (hC s) (0 + 2) (Int32.ofNat i) v = some (hC (uA s 2 (upd (qA s 2) i v))) := wZ_Nx r2 hi (by decide) hv
    have t0 : TY s (uI (uA s 2 (upd (qA s 2) i v)) (47 + 14 * i) 0 0) i 0 v := by
      refine ⟨(cf_uA _ (.inl rfl)).tr (cf_uI _ (.inr ⟨by omega, by omega⟩)), ?_, ?_, fun k hk => absurd hk (by omega)⟩
      · rw [qA_uI, qA_eq]
      · rw [qI_uI, if_pos ⟨rfl, rfl⟩]
        rfl
    unfold fxX6_tray_35
    refine OK_b wz (OK_b (gR_6_0 x06) (OK_b (q1' _ rfl) (OK_b (kO_3 h3) (OK_b (c_clear h3) ?_))))
    obtain ⟨r, e, e1, s', e2, ty⟩ := c_ty47 (N := N) (v := v) hi hm q1' hn m 0 N (uI (uA s 2 (upd (qA s 2) i v)) (47 + 14 * i) 0 0) (by omega) (by omega) t0
    have tp' : trP s' i := ⟨m, hm, ty.2.2.1, fun k hk => by rw [ty.2.2.2 k hk]; exact ⟨by decide, by decide, by decide⟩⟩
    exact ⟨r, e, .inr ⟨e1, w1, w2, i, m, s', hi, rfl, hm, hn, e2, CI_tr ci hi ty.1 tp', by rw [← ev]; exact ty⟩⟩
  exact OK_b (gR_6_1 x06) (OK_i (fun w => go 0 (.inl rfl) (by rw [if_pos w])) (fun w => go 1 (.inr rfl) (by rw [if_neg w])))
/-- point -/
theorem y_point {N : Nat} {a k x y z : Int32} {s : cS} {bo : Nat → Nat} (hN : 100000 < N) (ci : CI s bo) : OK (fun r => (r.2 = 0 ∧ r.1 = hC s ∧ ((a < 0 ∨ 8 ≤ a) ∨ k < 0 ∨ (∃ i, i < 8 ∧ a = Int32.ofNat i ∧ (qA s 2 i = 0 ∨ qI s (47 + 14 * i) 0 ≤ k)) ∨ ¬ isPt x y z)) ∨ (r.2 = 1 ∧ ∃ i j n, i < 8 ∧ a = Int32.ofNat i ∧ k = Int32.ofNat j ∧ j < n ∧ n ≤ 24 ∧ qI s (47 + 14 * i) 0 = Int32.ofNat n ∧ qA s 2 i ≠ 0 ∧ isPt x y z ∧ r.1 = hC (wp s (47 + 14 * i) j x y z) ∧ CI (wp s (47 + 14 * i) j x y z) bo)) (fxX6_point N 0 a k x y z (hC s)) := by
  unfold fxX6_point
  refine OK_slot (fun i hi ei => ?_) (fun w => OK_p rfl (OK_s (.inl ⟨rfl, rfl, .inl w⟩)))
  subst ei
  obtain ⟨q1, n, n1, n2, n3⟩ := ci.2.2.1 i hi
  have h3 : (shp (47 + 14 * i)).1 = 3 := by rw [sh_tr hi]
  refine OK_n no1 (OK_b (gR_6_1 x06) (OK_b (aZ_N (k := i) r2 hi (by decide)) (OK_i (fun w => OK_s (.inl ⟨rfl, rfl, .inr (.inr (.inl ⟨i, hi, rfl, .inl w⟩))⟩)) (fun w2 => OK_pt (fun hpt => OK_n no1 (OK_b (gR_6_0 x06) (OK_b (aR1 hi q1) (OK_b (kO_3 h3) ?_)))) (fun w => OK_p rfl (OK_s (.inl ⟨rfl, rfl, .inr (.inr (.inr w))⟩)))))))
  by_cases k0 : k < 0
  · have e : fxX3_replace N (47 + 14 * i) k x y z (hC s) = some (hC s, 0) := by
      unfold fxX3_replace
      rw [if_pos k0]
    exact OK_b e (OK_p (show (0 : Int32) &&& 1 = 0 by decide) (OK_s (.inl ⟨rfl, rfl, .inr (.inl k0)⟩)))
  · by_cases kn : k < Int32.ofNat n
    · obtain ⟨j, hj, ej⟩ := ix (by omega) k0 kn
      subst ej
      have e := c_replace (N := N) (j := j) (x := x) (y := y) (z := z) (s := s) (sh_tr hi) (by omega) n2 n1 hj
      refine OK_b e (OK_p (show (1 : Int32) &&& 1 = 1 by decide) (OK_s (.inr ⟨rfl, i, j, n, hi, rfl, rfl, hj, n1, n2, w2, hpt, rfl, ?_⟩)))
      have cw := cf_wp s (47 + 14 * i) j x y z
      refine CI_tr ci hi (cw.mo (fun x hx => .inr ⟨by have := hx.1; omega, by have := hx.2; omega⟩)) ⟨n, n1, ?_, fun y' hy => ?_⟩
      · rw [cw.I (fun w => by have := w.1; omega)]
        exact n2
      · rw [pc_wp]
        by_cases d : y' = j
        · rw [if_pos d]
          exact pt100 hpt
        · rw [if_neg d]
          exact n3 y' hy
    · have e : fxX3_replace N (47 + 14 * i) k x y z (hC s) = some (hC s, 0) := by
        unfold fxX3_replace
        rw [if_neg k0, gI_3_0 h3, Option.bind_some, n2, if_neg kn]
      refine OK_b e (OK_p (show (0 : Int32) &&& 1 = 0 by decide) (OK_s (.inl ⟨rfl, rfl, .inr (.inr (.inl ⟨i, hi, rfl, .inr ?_⟩))⟩)))
      rw [n2]
      rw [Int32.lt_iff_toInt_lt] at kn
      rw [Int32.le_iff_toInt_le]
      omega
