/-- only cells of L have changed -/
def cf (L : Nat → Prop) (s s' : cS) : Prop := (∀ i, ¬ L i → qI s' i = qI s i ∧ qJ s' i = qJ s i ∧ qA s' i = qA s i ∧ qR s' i = qR s i) ∧ qF s' = qF s
theorem cf.rf {L : Nat → Prop} {s : cS} : cf L s s := ⟨fun _ _ => ⟨rfl, rfl, rfl, rfl⟩, rfl⟩
theorem cf.tr {L : Nat → Prop} {a b c : cS} (h : cf L a b) (g : cf L b c) : cf L a c := ⟨fun i hi => ⟨(g.1 i hi).1.trans (h.1 i hi).1, (g.1 i hi).2.1.trans (h.1 i hi).2.1, (g.1 i hi).2.2.1.trans (h.1 i hi).2.2.1, (g.1 i hi).2.2.2.trans (h.1 i hi).2.2.2⟩, g.2.trans h.2⟩
theorem cf.mo {L M : Nat → Prop} {s s' : cS} (h : cf L s s') (hs : ∀ i, L i → M i) : cf M s s' := ⟨fun i hi => h.1 i (fun q => hi (hs i q)), h.2⟩
theorem cf.I {L : Nat → Prop} {s s' : cS} (h : cf L s s') {i : Nat} (hi : ¬ L i) : qI s' i = qI s i := (h.1 i hi).1
theorem cf.J {L : Nat → Prop} {s s' : cS} (h : cf L s s') {i : Nat} (hi : ¬ L i) : qJ s' i = qJ s i := (h.1 i hi).2.1
theorem cf.A {L : Nat → Prop} {s s' : cS} (h : cf L s s') {i : Nat} (hi : ¬ L i) : qA s' i = qA s i := (h.1 i hi).2.2.1
theorem cf.R {L : Nat → Prop} {s s' : cS} (h : cf L s s') {i : Nat} (hi : ¬ L i) : qR s' i = qR s i := (h.1 i hi).2.2.2
theorem cf.F {L : Nat → Prop} {s s' : cS} (h : cf L s s') : qF s' = qF s := h.2
/-- the cells from a to b -/
def rg (a b : Nat) : Nat → Prop := fun i => a ≤ i ∧ i ≤ b
theorem cf_uI {L : Nat → Prop} (s : cS) {p k : Nat} {v : Int32} (h : L p) : cf L s (uI s p k v) := ⟨fun i hi => ⟨by
  funext j
  rw [qI_uI, if_neg (fun q => hi (by rw [q.1]; exact h))], rfl, rfl, rfl⟩, rfl⟩
theorem cf_uJ {L : Nat → Prop} (s : cS) {p k : Nat} {v : Int64} (h : L p) : cf L s (uJ s p k v) := ⟨fun i hi => ⟨rfl, by
  funext j
  rw [qJ_uJ, if_neg (fun q => hi (by rw [q.1]; exact h))], rfl, rfl⟩, rfl⟩
theorem cf_uA {L : Nat → Prop} (s : cS) {a : Nat} {f : Nat → Int32} (h : L a) : cf L s (uA s a f) := ⟨fun i hi => ⟨rfl, rfl, by
  rw [qA_uA, if_neg (fun q => hi (by rw [q]; exact h))], rfl⟩, rfl⟩
theorem cf_uR {L : Nat → Prop} (s : cS) {a : Nat} {f : Nat → Option Nat} (h : L a) : cf L s (uR s a f) := ⟨fun i hi => ⟨rfl, rfl, rfl, by
  rw [qR_uR, if_neg (fun q => hi (by rw [q]; exact h))]⟩, rfl⟩
/-- a point of the row p is written -/
def wp (s : cS) (p k : Nat) (x y z : Int32) : cS := uA (uA (uA s (p + 1) (upd (qA s (p + 1)) k x)) (p + 2) (upd (qA s (p + 2)) k y)) (p + 3) (upd (qA s (p + 3)) k z)
theorem cf_wp (s : cS) (p k : Nat) (x y z : Int32) : cf (rg (p + 1) (p + 3)) s (wp s p k x y z) := ((cf_uA _ ⟨by omega, by omega⟩).tr (cf_uA _ ⟨by omega, by omega⟩)).tr (cf_uA _ ⟨by omega, by omega⟩)
theorem pc_wp (s : cS) (p k : Nat) (x y z : Int32) (j : Nat) : pc (wp s p k x y z) p j = if j = k then (x.toInt, y.toInt, z.toInt) else pc s p j := by
  unfold pc wp
  simp only [qA_uA, show ¬ (p + 1 = p + 3) by omega, show ¬ (p + 1 = p + 2) by omega, show ¬ (p + 2 = p + 3) by omega, if_false, if_true, upd_at, show ¬ (p + 2 = p + 1) by omega, show ¬ (p + 3 = p + 1) by omega, show ¬ (p + 3 = p + 2) by omega]
  by_cases w : j = k
  · simp [w]
  · simp [w]
theorem c_wp {p n k : Nat} {x y z : Int32} {s : cS} (e1 : shp (p + 1) = (10, n)) (e2 : shp (p + 2) = (10, n)) (e3 : shp (p + 3) = (10, n)) (hk : k < n) (hn : n < 2147483648) : wI (hC s) (p + 1) (Int32.ofNat k) x = some (hC (uA s (p + 1) (upd (qA s (p + 1)) k x))) ∧ wI (hC (uA s (p + 1) (upd (qA s (p + 1)) k x))) (p + 2) (Int32.ofNat k) y = some (hC (uA (uA s (p + 1) (upd (qA s (p + 1)) k x)) (p + 2) (upd (qA s (p + 2)) k y))) ∧ wI (hC (uA (uA s (p + 1) (upd (qA s (p + 1)) k x)) (p + 2) (upd (qA s (p + 2)) k y))) (p + 3) (Int32.ofNat k) z = some (hC (wp s p k x y z)) := by
  refine ⟨wI_N e1 hk hn, ?_, ?_⟩
  · rw [wI_N e2 hk hn, qA_uA, if_neg (by omega)]
  · rw [wI_N e3 hk hn, qA_uA, if_neg (by omega), qA_uA, if_neg (by omega)]
    rfl
/-- put: behind the k that are there, or nothing where it is full -/
theorem c_put2 {N p n k : Nat} {x y z : Int32} {s : cS} (h : shp p = (3, n)) (hn : n < 600) (hk : qI s p 0 = Int32.ofNat k) (hkn : k ≤ n) : ∃ s', fxX3_put N p x y z (hC s) = some (hC s') ∧ cf (rg p (p + 3)) s s' ∧ (k = n → s' = s) ∧ (k < n → qI s' p 0 = Int32.ofNat (k + 1) ∧ ∀ j, pc s' p j = if j = k then (x.toInt, y.toInt, z.toInt) else pc s p j) := by
  obtain ⟨h3, e1, e2, e3⟩ := pt_sh h
  by_cases c : k < n
  · refine ⟨putS s p k x y z, c_put h (by omega) hk c, ?_, fun e => absurd e (by omega), fun _ => ⟨?_, fun j => ?_⟩⟩
    · exact ((cf_wp s p k x y z).mo (fun i hi => ⟨by have := hi.1; omega, hi.2⟩)).tr (cf_uI _ ⟨by omega, by omega⟩)
    · unfold putS
      rw [qI_uI, if_pos ⟨rfl, rfl⟩]
    · exact pc_wp s p k x y z j
  · have kn : k = n := by omega
    refine ⟨s, ?_, cf.rf, fun _ => rfl, fun e => absurd e (by omega)⟩
    unfold fxX3_put
    simp only [gI_3_0 h3, gR_3_1 h3, Option.bind_some, aL_10 e1, hk]
    rw [kn, if_pos (Int32.le_refl _)]
/-- replace within the row -/
theorem c_replace {N p n k j : Nat} {x y z : Int32} {s : cS} (h : shp p = (3, n)) (hn : n < 600) (hk : qI s p 0 = Int32.ofNat k) (hkn : k ≤ n) (hj : j < k) : fxX3_replace N p (Int32.ofNat j) x y z (hC s) = some (hC (wp s p j x y z), 1) := by
  obtain ⟨h3, e1, e2, e3⟩ := pt_sh h
  obtain ⟨w1, w2, w3⟩ := c_wp (x := x) (y := y) (z := z) (s := s) e1 e2 e3 (by omega : j < n) (by omega)
  have l : Int32.ofNat j < Int32.ofNat k := by
    rw [i_lt (by omega) (by omega)]
    exact hj
  unfold fxX3_replace
  rw [if_neg (i_lt0 (by omega))]
  simp only [gI_3_0 h3, gR_3_1 h3, gR_3_2 h3, gR_3_3 h3, Option.bind_some, hk, if_pos l, w1, w2, w3]
theorem c_isLess {N p n j : Nat} {x y z : Int32} {s : cS} (h : shp p = (3, n)) (hn : n < 600) (hj : j < n) : (lxl (x.toInt, y.toInt, z.toInt) (pc s p j) ∧ fxX3_isLess N p x y z (Int32.ofNat j) (hC s) = some (hC s, 1)) ∨ (¬ lxl (x.toInt, y.toInt, z.toInt) (pc s p j) ∧ fxX3_isLess N p x y z (Int32.ofNat j) (hC s) = some (hC s, 0)) := by
  obtain ⟨h3, e1, e2, e3⟩ := pt_sh h
  have t1 : ∀ a b : Int32, (a = b) = (a.toInt = b.toInt) := fun a b => propext Int32.toInt_inj.symm
  unfold fxX3_isLess
  simp only [gR_3_1 h3, gR_3_2 h3, gR_3_3 h3, Option.bind_some, aI_N e1 hj (by omega), aI_N e2 hj (by omega), aI_N e3 hj (by omega)]
  by_cases c1 : x = qA s (p + 1) j
  · rw [if_pos c1]
    rw [t1] at c1
    by_cases c2 : y = qA s (p + 2) j
    · rw [if_pos c2]
      rw [t1] at c2
      by_cases c3 : qA s (p + 3) j ≤ z
      · rw [if_pos c3]
        rw [Int32.le_iff_toInt_le] at c3
        right
        refine ⟨fun w => ?_, rfl⟩
        unfold lxl pc at w
        simp only at w
        omega
      · rw [if_neg c3]
        rw [Int32.le_iff_toInt_le] at c3
        left
        refine ⟨?_, rfl⟩
        unfold lxl pc
        simp only
        omega
    · rw [if_neg c2]
      rw [t1] at c2
      by_cases c3 : qA s (p + 2) j ≤ y
      · rw [if_pos c3]
        rw [Int32.le_iff_toInt_le] at c3
        right
        refine ⟨fun w => ?_, rfl⟩
        unfold lxl pc at w
        simp only at w
        omega
      · rw [if_neg c3]
        rw [Int32.le_iff_toInt_le] at c3
        left
        refine ⟨?_, rfl⟩
        unfold lxl pc
        simp only
        omega
  · rw [if_neg c1]
    rw [t1] at c1
    by_cases c3 : qA s (p + 1) j ≤ x
    · rw [if_pos c3]
      rw [Int32.le_iff_toInt_le] at c3
      right
      refine ⟨fun w => ?_, rfl⟩
      unfold lxl pc at w
      simp only at w
      omega
    · rw [if_neg c3]
      rw [Int32.le_iff_toInt_le] at c3
      left
      refine ⟨?_, rfl⟩
      unfold lxl pc
      simp only
      omega
/-- what putInOrder leaves: the new one at q, those from q on moved up -/
def pio (s s' : cS) (p k q : Nat) (v : V3) : Prop := cf (rg p (p + 3)) s s' ∧ qI s' p 0 = Int32.ofNat (k + 1) ∧ q ≤ k ∧ (∀ j, j < q → pc s' p j = pc s p j) ∧ pc s' p q = v ∧ (∀ j, q < j → j ≤ k → pc s' p j = pc s p (j - 1)) ∧ (∀ j, q ≤ j → j < k → lxl v (pc s p j)) ∧ (0 < q → ¬ lxl v (pc s p (q - 1)))
theorem c_pio29 {N p n k : Nat} {x y z : Int32} {s : cS} (h : shp p = (3, n)) (hn : n < 600) (hkn : k < n) : ∀ (q f : Nat) (h' : cS), q < f → q ≤ k → cf (rg p (p + 3)) s h' → qI h' p 0 = Int32.ofNat (k + 1) → (∀ j, j < q → pc h' p j = pc s p j) → (∀ j, q < j → j ≤ k → pc h' p j = pc s p (j - 1)) → (∀ j, q ≤ j → j < k → lxl (x.toInt, y.toInt, z.toInt) (pc s p j)) → ∃ s' q', fxX3_putInOrder_29 N f p x y z (Int32.ofNat q) (hC h') = some (hC s') ∧ pio s s' p k q' (x.toInt, y.toInt, z.toInt) := by
  obtain ⟨h3, e1, e2, e3⟩ := pt_sh h
  have e88 : ∀ (q : Nat) (h' : cS), q ≤ k → cf (rg p (p + 3)) s h' → qI h' p 0 = Int32.ofNat (k + 1) → (∀ j, j < q → pc h' p j = pc s p j) → (∀ j, q < j → j ≤ k → pc h' p j = pc s p (j - 1)) → (∀ j, q ≤ j → j < k → lxl (x.toInt, y.toInt, z.toInt) (pc s p j)) → (0 < q → ¬ lxl (x.toInt, y.toInt, z.toInt) (pc s p (q - 1))) → ∃ s' q', fxX3_putInOrder_88 N p x y z (Int32.ofNat q) (hC h') = some (hC s') ∧ pio s s' p k q' (x.toInt, y.toInt, z.toInt) := by
    intro q h' hq f1 sz lo hi mid end'
    unfold fxX3_putInOrder_88
    rw [kO_3 h3, Option.bind_some, c_replace h hn sz (by omega) (by omega), Option.bind_some]
    refine ⟨wp h' p q x y z, q, rfl, f1.tr ((cf_wp _ _ _ _ _ _).mo (fun i hi => ⟨by have := hi.1; omega, hi.2⟩)), by rw [(cf_wp h' p q x y z).I (fun w => by have := w.1; omega)]; exact sz, hq, fun j hj => ?_, ?_, fun j j1 j2 => ?_, mid, end'⟩
    · rw [pc_wp, if_neg (by omega)]
      exact lo j hj
    · rw [pc_wp, if_pos rfl]
    · rw [pc_wp, if_neg (by omega)]
      exact hi j j1 j2
  intro q
  induction q with
  | zero =>
    intro f h' hf hq f1 sz lo hi mid
    obtain ⟨f', rfl⟩ : ∃ f', f = f' + 1 := ⟨f - 1, by omega⟩
    rw [fxX3_putInOrder_29, if_pos (by decide)]
    exact e88 0 h' (by omega) f1 sz lo hi mid (fun w => absurd w (by omega))
  | succ q ih =>
    intro f h' hf hq f1 sz lo hi mid
    obtain ⟨f', rfl⟩ : ∃ f', f = f' + 1 := ⟨f - 1, by omega⟩
    have ne : ¬ (Int32.ofNat (q + 1) ≤ 0) := by
      intro w
      have := i_le (a := q + 1) (b := 0) (by omega) (by omega)
      have w2 : q + 1 ≤ 0 := by
        rw [← this]
        exact w
      omega
    have pq : pc h' p q = pc s p q := lo q (by omega)
    rw [fxX3_putInOrder_29, if_neg ne, kO_3 h3, Option.bind_some, i_p]
    rcases c_isLess (N := N) (x := x) (y := y) (z := z) (s := h') h hn (by omega : q < n) with ⟨l1, l2⟩ | ⟨l1, l2⟩
    · rw [l2, Option.bind_some]
      dsimp only
      rw [if_neg (by decide)]
      simp only [gR_3_1 h3, gR_3_2 h3, gR_3_3 h3, kO_3 h3, Option.bind_some, aI_N e1 (by omega : q < n) (by omega), aI_N e2 (by omega : q < n) (by omega), aI_N e3 (by omega : q < n) (by omega)]
      rw [c_replace h hn sz (by omega) (by omega), Option.bind_some, i_p']
      have cw := cf_wp h' p (q + 1) (qA h' (p + 1) q) (qA h' (p + 2) q) (qA h' (p + 3) q)
      refine ih f' _ (by omega) (by omega) (f1.tr (cw.mo (fun i hi => ⟨by have := hi.1; omega, hi.2⟩))) (by rw [cw.I (fun w => by have := w.1; omega)]; exact sz) (fun j hj => ?_) (fun j j1 j2 => ?_) (fun j j1 j2 => ?_)
      · rw [pc_wp, if_neg (by omega)]
        exact lo j (by omega)
      · rw [pc_wp]
        by_cases w : j = q + 1
        · rw [if_pos w, w, Nat.add_sub_cancel, ← pq]
          rfl
        · rw [if_neg w]
          exact hi j (by omega) j2
      · by_cases w : j = q
        · rw [w, ← pq]
          exact l1
        · exact mid j (by omega) j2
    · rw [l2, Option.bind_some]
      dsimp only
      rw [if_pos rfl]
      refine e88 (q + 1) h' hq f1 sz lo hi mid (fun _ => ?_)
      rw [Nat.add_sub_cancel, ← pq]
      exact l1
/-- putInOrder, where there is room -/
theorem c_putInOrder {N p n k : Nat} {x y z : Int32} {s : cS} (hN : 600 < N) (h : shp p = (3, n)) (hn : n < 600) (hk : qI s p 0 = Int32.ofNat k) (hkn : k < n) : ∃ s' q, fxX3_putInOrder N p x y z (hC s) = some (hC s') ∧ pio s s' p k q (x.toInt, y.toInt, z.toInt) := by
  obtain ⟨h3, e1, e2, e3⟩ := pt_sh h
  have l : Int32.ofNat k < Int32.ofNat n := by
    rw [i_lt (by omega) (by omega)]
    exact hkn
  unfold fxX3_putInOrder
  simp only [gI_3_0 h3, gR_3_1 h3, Option.bind_some, aL_10 e1, hk, if_pos l, sI_3_0 h3, i_s]
  have c1 : cf (rg p (p + 3)) s (uI s p 0 (Int32.ofNat (k + 1))) := cf_uI _ ⟨by omega, by omega⟩
  exact c_pio29 h hn hkn k N _ (by omega) (Nat.le_refl k) c1 (by rw [qI_uI, if_pos ⟨rfl, rfl⟩]) (fun j _ => rfl) (fun j j1 j2 => absurd j1 (by omega)) (fun j j1 j2 => absurd j2 (by omega))
theorem c_ta6 {N p n q m k : Nat} {s : cS} (h : shp p = (3, n)) (hn : n < 600) (hq : shp q = (3, m)) (hm : m < 600) (hpq : p + 3 < q ∨ q + 3 < p) (hk : qI s q 0 = Int32.ofNat k) (hkm : k ≤ m) (hkn : k ≤ n) : ∀ (u f j : Nat) (h' : cS), j + u = k → u < f → cf (rg p (p + 3)) s h' → qI h' p 0 = Int32.ofNat j → (∀ t, t < j → pc h' p t = pc s q t) → ∃ s', fxX3_takeAll_6 N f p q (Int32.ofNat j) (hC h') = some (hC s') ∧ cf (rg p (p + 3)) s s' ∧ qI s' p 0 = Int32.ofNat k ∧ ∀ t, t < k → pc s' p t = pc s q t := by
  obtain ⟨h3, e1, e2, e3⟩ := pt_sh h
  obtain ⟨g3, d1, d2, d3⟩ := pt_sh hq
  intro u
  induction u with
  | zero =>
    intro f j h' hj hf f1 sz lo
    obtain ⟨f', rfl⟩ : ∃ f', f = f' + 1 := ⟨f - 1, by omega⟩
    have hjk : j = k := by omega
    subst hjk
    refine ⟨h', ?_, f1, sz, lo⟩
    rw [fxX3_takeAll_6, gI_3_0 g3, Option.bind_some, f1.I (fun w => by have := w.1; have := w.2; omega), hk, if_pos (Int32.le_refl _)]
  | succ u ih =>
    intro f j h' hj hf f1 sz lo
    obtain ⟨f', rfl⟩ : ∃ f', f = f' + 1 := ⟨f - 1, by omega⟩
    have ne : ¬ (Int32.ofNat k ≤ Int32.ofNat j) := by
      rw [i_le (by omega) (by omega)]
      omega
    have szq : qI h' q 0 = Int32.ofNat k := by
      rw [f1.I (fun w => by have := w.1; have := w.2; omega)]
      exact hk
    rw [fxX3_takeAll_6]
    simp only [gI_3_0 g3, gR_3_1 g3, gR_3_2 g3, gR_3_3 g3, kO_3 h3, Option.bind_some, szq, if_neg ne, aI_N d1 (by omega : j < m) (by omega), aI_N d2 (by omega : j < m) (by omega), aI_N d3 (by omega : j < m) (by omega)]
    obtain ⟨s1, e4, f2, -, f3⟩ := c_put2 (N := N) (x := qA h' (q + 1) j) (y := qA h' (q + 2) j) (z := qA h' (q + 3) j) h hn sz (by omega)
    obtain ⟨sz1, pt1⟩ := f3 (by omega)
    rw [e4, Option.bind_some, i_s]
    refine ih f' (j + 1) s1 (by omega) (by omega) (f1.tr f2) sz1 (fun t ht => ?_)
    rw [pt1]
    by_cases w : t = j
    · rw [if_pos w, w]
      show pc h' q j = pc s q j
      unfold pc
      rw [f1.A (fun w => by have := w.1; have := w.2; omega), f1.A (fun w => by have := w.1; have := w.2; omega), f1.A (fun w => by have := w.1; have := w.2; omega)]
    · rw [if_neg w]
      exact lo t (by omega)
theorem c_takeAll {N p n q m k : Nat} {s : cS} (hN : 600 < N) (h : shp p = (3, n)) (hn : n < 600) (hq : shp q = (3, m)) (hm : m < 600) (hpq : p + 3 < q ∨ q + 3 < p) (hk : qI s q 0 = Int32.ofNat k) (hkm : k ≤ m) (hkn : k ≤ n) : ∃ s', fxX3_takeAll N p q (hC s) = some (hC s') ∧ cf (rg p (p + 3)) s s' ∧ qI s' p 0 = Int32.ofNat k ∧ ∀ t, t < k → pc s' p t = pc s q t := by
  obtain ⟨h3, e1, e2, e3⟩ := pt_sh h
  unfold fxX3_takeAll
  rw [kO_3 h3, Option.bind_some, c_clear h3, Option.bind_some]
  have c1 : cf (rg p (p + 3)) s (uI s p 0 0) := cf_uI _ ⟨by omega, by omega⟩
  exact c_ta6 h hn hq hm hpq hk hkm hkn k N 0 _ (by omega) (by omega) c1 (by rw [qI_uI, if_pos ⟨rfl, rfl⟩]; rfl) (fun t ht => absurd ht (by omega))
theorem c_isLike {N p n q m k k' : Nat} {s : cS} (hN : 600 < N) (h : shp p = (3, n)) (hn : n < 600) (hq : shp q = (3, m)) (hm : m < 600) (hk : qI s p 0 = Int32.ofNat k) (hkn : k ≤ n) (hk' : qI s q 0 = Int32.ofNat k') (hkm : k' ≤ m) : ((k = k' ∧ ∀ j, j < k → pc s p j = pc s q j) ∧ fxX3_isLike N p q (hC s) = some (hC s, 1)) ∨ (¬ (k = k' ∧ ∀ j, j < k → pc s p j = pc s q j) ∧ fxX3_isLike N p q (hC s) = some (hC s, 0)) := by
  obtain ⟨h3, e1, e2, e3⟩ := pt_sh h
  obtain ⟨g3, d1, d2, d3⟩ := pt_sh hq
  have t1 : ∀ a b : Int32, (a = b) = (a.toInt = b.toInt) := fun a b => propext Int32.toInt_inj.symm
  unfold fxX3_isLike
  simp only [gI_3_0 h3, gI_3_0 g3, Option.bind_some, hk, hk']
  by_cases ck : k = k'
  · subst ck
    rw [if_pos rfl]
    have key : ∀ (u f j : Nat), j + u = k → u < f → (∀ t, t < j → pc s p t = pc s q t) → ((∀ j, j < k → pc s p j = pc s q j) ∧ fxX3_isLike_15 N f p q (Int32.ofNat j) (hC s) = some (hC s, 1)) ∨ (¬ (∀ j, j < k → pc s p j = pc s q j) ∧ fxX3_isLike_15 N f p q (Int32.ofNat j) (hC s) = some (hC s, 0)) := by
      intro u
      induction u with
      | zero =>
        intro f j hj hf lo
        obtain ⟨f', rfl⟩ : ∃ f', f = f' + 1 := ⟨f - 1, by omega⟩
        have hjk : j = k := by omega
        subst hjk
        left
        refine ⟨lo, ?_⟩
        rw [fxX3_isLike_15, gI_3_0 h3, Option.bind_some, hk, if_pos (Int32.le_refl _)]
      | succ u ih =>
        intro f j hj hf lo
        obtain ⟨f', rfl⟩ : ∃ f', f = f' + 1 := ⟨f - 1, by omega⟩
        have ne : ¬ (Int32.ofNat k ≤ Int32.ofNat j) := by
          rw [i_le (by omega) (by omega)]
          omega
        rw [fxX3_isLike_15]
        simp only [gI_3_0 h3, gR_3_1 h3, gR_3_2 h3, gR_3_3 h3, gR_3_1 g3, gR_3_2 g3, gR_3_3 g3, Option.bind_some, hk, if_neg ne, aI_N e1 (by omega : j < n) (by omega), aI_N e2 (by omega : j < n) (by omega), aI_N e3 (by omega : j < n) (by omega), aI_N d1 (by omega : j < m) (by omega), aI_N d2 (by omega : j < m) (by omega), aI_N d3 (by omega : j < m) (by omega)]
        have bad : pc s p j ≠ pc s q j → ¬ (∀ j, j < k → pc s p j = pc s q j) := fun w q => w (q j (by omega))
        by_cases c1 : qA s (p + 1) j = qA s (q + 1) j
        · rw [if_pos c1]
          by_cases c2 : qA s (p + 2) j = qA s (q + 2) j
          · rw [if_pos c2]
            by_cases c3 : qA s (p + 3) j = qA s (q + 3) j
            · rw [if_pos c3, i_s]
              refine ih f' (j + 1) (by omega) (by omega) (fun t ht => ?_)
              by_cases w : t = j
              · rw [w]
                unfold pc
                rw [c1, c2, c3]
              · exact lo t (by omega)
            · rw [if_neg c3]
              refine .inr ⟨bad (fun w => c3 ?_), rfl⟩
              rw [t1]
              exact congrArg (fun v : V3 => v.2.2) w
          · rw [if_neg c2]
            refine .inr ⟨bad (fun w => c2 ?_), rfl⟩
            rw [t1]
            exact congrArg (fun v : V3 => v.2.1) w
        · rw [if_neg c1]
          refine .inr ⟨bad (fun w => c1 ?_), rfl⟩
          rw [t1]
          exact congrArg (fun v : V3 => v.1) w
    rcases key k N 0 (by omega) (by omega) (fun t ht => absurd ht (by omega)) with ⟨w1, w2⟩ | ⟨w1, w2⟩
    · exact .inl ⟨⟨rfl, w1⟩, w2⟩
    · exact .inr ⟨fun w => w1 w.2, w2⟩
  · rw [if_neg (fun w => ck (i_inj (by omega) (by omega) w))]
    exact .inr ⟨fun w => ck w.1, rfl⟩
theorem c_square {N p n i j : Nat} {s : cS} (h : shp p = (3, n)) (hn : n < 600) (hi : i < n) (hj : j < n) : ∃ v, fxX3_squareBetween N p (Int32.ofNat i) (Int32.ofNat j) (hC s) = some (hC s, v) := by
  obtain ⟨h3, e1, e2, e3⟩ := pt_sh h
  unfold fxX3_squareBetween
  simp only [gR_3_1 h3, gR_3_2 h3, gR_3_3 h3, Option.bind_some, aI_N e1 hi (by omega), aI_N e2 hi (by omega), aI_N e3 hi (by omega), aI_N e1 hj (by omega), aI_N e2 hj (by omega), aI_N e3 hj (by omega)]
  exact ⟨_, rfl⟩
