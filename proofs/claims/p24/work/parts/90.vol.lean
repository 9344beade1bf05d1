/-- sums of finitely many whole numbers -/
def zs (f : Nat → Int) : Nat → Int
  | 0 => 0
  | n + 1 => zs f n + f n
theorem zs_ext {f g : Nat → Int} : ∀ n, (∀ k, k < n → f k = g k) → zs f n = zs g n := by
  intro n
  induction n with
  | zero =>
    intro _
    rfl
  | succ n ih =>
    intro h
    show zs f n + f n = zs g n + g n
    rw [ih (fun k hk => h k (by omega)), h n (by omega)]
theorem zs_zero {f : Nat → Int} : ∀ n, (∀ k, k < n → f k = 0) → zs f n = 0 := by
  intro n
  induction n with
  | zero =>
    intro _
    rfl
  | succ n ih =>
    intro h
    show zs f n + f n = 0
    rw [ih (fun k hk => h k (by omega)), h n (by omega)]
    rfl
theorem zs_add (f g : Nat → Int) : ∀ n, zs (fun k => f k + g k) n = zs f n + zs g n := by
  intro n
  induction n with
  | zero => rfl
  | succ n ih =>
    show zs (fun k => f k + g k) n + (f n + g n) = (zs f n + f n) + (zs g n + g n)
    rw [ih]
    omega
theorem zs_neg (f : Nat → Int) : ∀ n, zs (fun k => - f k) n = - zs f n := by
  intro n
  induction n with
  | zero => rfl
  | succ n ih =>
    show zs (fun k => - f k) n + - f n = - (zs f n + f n)
    rw [ih]
    omega
theorem zs_mul (c : Int) (f : Nat → Int) : ∀ n, zs (fun k => f k * c) n = zs f n * c := by
  intro n
  induction n with
  | zero => exact (Int.zero_mul c).symm
  | succ n ih =>
    show zs (fun k => f k * c) n + f n * c = (zs f n + f n) * c
    rw [ih, Int.add_mul]
theorem zs_swap (b : Nat → Nat → Int) (m : Nat) : ∀ n, zs (fun i => zs (fun j => b i j) m) n = zs (fun j => zs (fun i => b i j) n) m := by
  intro n
  induction n with
  | zero => exact (zs_zero m (fun _ _ => rfl)).symm
  | succ n ih =>
    show zs (fun i => zs (fun j => b i j) m) n + zs (fun j => b n j) m = zs (fun j => zs (fun i => b i j) n + b n j) m
    rw [ih, zs_add]
theorem zs_single {f : Nat → Int} {a : Nat} : ∀ n, a < n → (∀ k, k < n → k ≠ a → f k = 0) → zs f n = f a := by
  intro n
  induction n with
  | zero =>
    intro h
    omega
  | succ n ih =>
    intro h h0
    show zs f n + f n = f a
    by_cases c : a = n
    · rw [zs_zero n (fun k hk => h0 k (by omega) (by omega)), c]
      omega
    · rw [ih (by omega) (fun k hk => h0 k (by omega)), h0 n (by omega) (by omega)]
      omega
theorem zs_nn {f : Nat → Int} : ∀ n, (∀ k, k < n → 0 ≤ f k) → 0 ≤ zs f n := by
  intro n
  induction n with
  | zero =>
    intro _
    exact Int.le_refl 0
  | succ n ih =>
    intro h
    show 0 ≤ zs f n + f n
    have h1 := ih (fun k hk => h k (by omega))
    have h2 := h n (by omega)
    omega
theorem zs_pos {f : Nat → Int} {a : Nat} : ∀ n, (∀ k, k < n → 0 ≤ f k) → a < n → 0 < f a → 0 < zs f n := by
  intro n
  induction n with
  | zero =>
    intro _ h
    omega
  | succ n ih =>
    intro h ha hp
    show 0 < zs f n + f n
    have h2 := h n (by omega)
    by_cases c : a = n
    · have h1 := zs_nn n (fun k hk => h k (by omega))
      rw [c] at hp
      omega
    · have h1 := ih (fun k hk => h k (by omega)) (by omega) hp
      omega
theorem rx_0 (n1 n2 n3 e1 e2 e3 : Int) : e1 * (n2 * e3 - n3 * e2) + e2 * (n3 * e1 - n1 * e3) + e3 * (n1 * e2 - n2 * e1) = 0 := by grind
theorem vx_at2 (n e : V3) : vd e (vx n e) = 0 := rx_0 n.1 n.2.1 n.2.2 e.1 e.2.1 e.2.2
/-- two planes that bound the points and have the way from u to v, with all on the left of it, are one -/
theorem dir_uniq {P : Nat → V3} {m u v : Nat} {n n' : V3} {d d' : Int} (hfull : full P m) (F1 : fc P m n d) (F2 : fc P m n' d') (u1 : vd n (P u) = d) (v1 : vd n (P v) = d) (u2 : vd n' (P u) = d') (v2 : vd n' (P v) = d') (huv : vs (P v) (P u) ≠ v0) (l1 : ∀ k, k < m → vd n (P k) = d → 0 ≤ br n (P u) (P v) (P k)) (l2 : ∀ k, k < m → vd n' (P k) = d' → 0 ≤ br n' (P u) (P v) (P k)) : n' = n ∧ d' = d := by
  have half : ∀ (n n' : V3) (d d' : Int), fc P m n d → fc P m n' d' → vd n (P u) = d → vd n (P v) = d → vd n' (P u) = d' → vd n' (P v) = d' → (∀ k, k < m → vd n (P k) = d → 0 ≤ br n (P u) (P v) (P k)) → dt n (vs (P v) (P u)) n' ≤ 0 := by
    intro n n' d d' F1 F2 u1 v1 u2 v2 l1
    obtain ⟨-, ⟨i, j, k, hi, hj, hk, ei, ej, ek, hne⟩, hp⟩ := F1
    have np := prim_pos hp
    have ep := vd_pos huv
    have ne0 : vd n (vs (P v) (P u)) = 0 := by
      rw [vd_vs]
      omega
    have ne1 : vd (vs (P v) (P u)) n' = 0 := by
      rw [vd_comm, vd_vs]
      omega
    have ex1 : ∃ t, t < m ∧ vd n (P t) = d ∧ br n (P u) (P v) (P t) ≠ 0 := by
      by_cases c : ∃ t, t < m ∧ vd n (P t) = d ∧ br n (P u) (P v) (P t) ≠ 0
      · exact c
      · exfalso
        have al : ∀ t, t < m → vd n (P t) = d → vx (vs (P t) (P u)) (vs (P v) (P u)) = v0 := by
          intro t ht et
          have z : br n (P u) (P v) (P t) = 0 := by
            by_cases z : br n (P u) (P v) (P t) = 0
            · exact z
            · exact absurd ⟨t, ht, et, z⟩ c
          exact vx_anti0 (par0 np ne0 (by rw [vd_vs]; omega) z)
        exact hne (line_line huv (al i hi ei) (al j hj ej) (al k hk ek))
    obtain ⟨t, ht, et, hb⟩ := ex1
    have b0 := l1 t ht et
    have id := dt_mul n (vs (P v) (P u)) (vs (P t) (P u)) n (vs (P v) (P u)) n'
    have w0 : vd (vs (P t) (P u)) n = 0 := by
      rw [vd_comm, vd_vs]
      omega
    have w1 : vd (vs (P t) (P u)) n' ≤ 0 := by
      rw [vd_comm, vd_vs]
      have := F2.1 t ht
      omega
    have e3 : dt n (vs (P v) (P u)) (vs (P t) (P u)) = br n (P u) (P v) (P t) := (tri n (vs (P v) (P u)) (vs (P t) (P u))).symm
    have e4 : vd (vs (P v) (P u)) n = 0 := by
      rw [vd_comm]
      exact ne0
    rw [e3, w0, ne1, ne0, e4] at id
    simp only [Int.zero_mul, Int.mul_zero, Int.sub_zero, Int.add_zero, Int.sub_self] at id
    by_cases c : dt n (vs (P v) (P u)) n' ≤ 0
    · exact c
    · exfalso
      have p1 : 0 < br n (P u) (P v) (P t) * dt n (vs (P v) (P u)) n' := Int.mul_pos (by omega) (by omega)
      have p2 : vd n n * (vd (vs (P v) (P u)) (vs (P v) (P u)) * vd (vs (P t) (P u)) n') ≤ 0 := Int.mul_nonpos_of_nonneg_of_nonpos (by omega) (Int.mul_nonpos_of_nonneg_of_nonpos (by omega) w1)
      omega
  have h1 := half n n' d d' F1 F2 u1 v1 u2 v2 l1
  have h2 := half n' n d' d F2 F1 u2 v2 u1 v1 l2
  have an : dt n' (vs (P v) (P u)) n = - dt n (vs (P v) (P u)) n' := by
    generalize vs (P v) (P u) = e
    obtain ⟨n1, n2, n3⟩ := n
    obtain ⟨m1, m2, m3⟩ := n'
    obtain ⟨e1, e2, e3⟩ := e
    simp only [dt, vd, vx]
    grind
  have z : vd n' (vx n (vs (P v) (P u))) = 0 := by
    have : dt n (vs (P v) (P u)) n' = vd n' (vx n (vs (P v) (P u))) := vd_comm _ _
    omega
  have ze : vd n' (vs (P v) (P u)) = 0 := by
    rw [vd_vs]
    omega
  have zn : vd n (vs (P v) (P u)) = 0 := by
    rw [vd_vs]
    omega
  have c1 : vx n' (vx (vs (P v) (P u)) (vx n (vs (P v) (P u)))) = v0 := cross_along ze z
  have c2 : vx n (vx (vs (P v) (P u)) (vx n (vs (P v) (P u)))) = v0 := cross_along zn (by rw [vd_comm]; exact vx_at n _)
  have ne : vx (vs (P v) (P u)) (vx n (vs (P v) (P u))) ≠ v0 := by
    intro e
    have := vx_len (vs (P v) (P u)) (vx n (vs (P v) (P u)))
    have e0 : vd (vs (P v) (P u)) (vx n (vs (P v) (P u))) = 0 := vx_at2 _ _
    rw [e, vd_0, e0, Int.mul_zero, Int.sub_zero, vx_len, zn, Int.mul_zero, Int.sub_zero] at this
    have p1 := vd_pos huv
    have p2 := prim_pos F1.2.2
    have := Int.mul_pos p1 (Int.mul_pos p2 p1)
    omega
  have c3 := along_along ne c2 c1
  obtain ⟨x, hx⟩ := F1.2.2
  obtain ⟨y, hy⟩ := F2.2.2
  rcases prim_eq hx hy c3 with q | q
  · refine ⟨q, ?_⟩
    rw [q] at u2
    omega
  · exfalso
    obtain ⟨i, hi, hi2⟩ := hfull n d ⟨x, hx⟩
    have s1 := F1.1 i hi
    have s2 := F2.1 i hi
    rw [q, neg_vd] at s2 u2
    omega
/-- a RING's ways have all points of its plane on the left -/
theorem ring_left {P : Nat → V3} {m r j k : Nat} {n : V3} {d : Int} {ρ : Nat → Nat} (hf : fc P m n d) (h : rgF P m n d r ρ) (hj : j < r) (hk : k < m) (ek : vd n (P k) = d) : 0 ≤ br n (P (ρ j)) (P (nxr r ρ j)) (P k) := by
  obtain ⟨c, l, g, hc, hl, hlt, hall, r1, rc, g0, hg, gd, gx, gr⟩ := h
  obtain ⟨t, t1, t2⟩ := hall k hk ek
  have hgj := hg j hj
  have nx : nxr r ρ j = l (g (j + 1)) := by
    unfold nxr
    by_cases w : j + 1 < r
    · rw [if_pos w, (hg (j + 1) w).1]
    · have : j + 1 = r := by omega
      rw [if_neg w, this, gr, (hg 0 (by omega)).1, g0]
  rw [nx, hgj.1, ← t2]
  by_cases w : t = g j
  · rw [w]
    have : br n (P (l (g j))) (P (l (g (j + 1)))) (P (l (g j))) = 0 := by
      unfold br
      rw [vs_self]
      have z : ∀ a : V3, vx a v0 = v0 := fun a => vx_anti0 (vx_0 a)
      rw [z, vd_comm, vd_0]
    rw [this]
    exact Int.le_refl 0
  · exact (gx j hj t t1 w).1
/-- what goes back and forth adds up to nothing -/
theorem sum_anti {n : Nat} {D : Nat → Nat → Int} {g : Nat → Nat → Int} (hD : ∀ u v, u < n → v < n → D u v = D v u) (hg : ∀ u v, g u v = - g v u) : zs (fun u => zs (fun v => D u v * g u v) n) n = 0 := by
  have e1 : zs (fun u => zs (fun v => D u v * g u v) n) n = zs (fun u => zs (fun v => D v u * g v u) n) n := zs_swap (fun u v => D u v * g u v) n n
  have e2 : zs (fun u => zs (fun v => D v u * g v u) n) n = - zs (fun u => zs (fun v => D u v * g u v) n) n := by
    rw [← zs_neg]
    refine zs_ext n (fun u hu => ?_)
    rw [← zs_neg]
    refine zs_ext n (fun v hv => ?_)
    rw [hD v u hv hu, hg v u, Int.mul_neg]
  omega
/-- the sum over all places, by what they go between -/
theorem sum_places {n F : Nat} {rf : Nat → Nat} {a b : Nat → Nat → Nat} {g : Nat → Nat → Int} (hab : ∀ f i, f < F → i < rf f → a f i < n ∧ b f i < n) : zs (fun f => zs (fun i => g (a f i) (b f i)) (rf f)) F = zs (fun u => zs (fun v => zs (fun f => zs (fun i => if a f i = u ∧ b f i = v then 1 else 0) (rf f)) F * g u v) n) n := by
  have e1 : zs (fun f => zs (fun i => g (a f i) (b f i)) (rf f)) F = zs (fun f => zs (fun u => zs (fun v => zs (fun i => (if a f i = u ∧ b f i = v then 1 else 0) * g u v) (rf f)) n) n) F := by
    refine zs_ext F (fun f hf => ?_)
    have s1 : zs (fun u => zs (fun v => zs (fun i => (if a f i = u ∧ b f i = v then 1 else 0) * g u v) (rf f)) n) n = zs (fun u => zs (fun i => zs (fun v => (if a f i = u ∧ b f i = v then 1 else 0) * g u v) n) (rf f)) n := zs_ext n (fun u hu => zs_swap _ _ _)
    rw [s1, zs_swap]
    refine zs_ext (rf f) (fun i hi => ?_)
    obtain ⟨h1, h2⟩ := hab f i hf hi
    rw [zs_single (a := a f i) n h1 (fun u hu hne => zs_zero n (fun v hv => by rw [if_neg (fun q => hne q.1.symm), Int.zero_mul])), zs_single (a := b f i) n h2 (fun v hv hne => by rw [if_neg (fun q => hne q.2.symm), Int.zero_mul]), if_pos ⟨rfl, rfl⟩, Int.one_mul]
  rw [e1, zs_swap]
  refine zs_ext n (fun u hu => ?_)
  rw [zs_swap]
  refine zs_ext n (fun v hv => ?_)
  rw [← zs_mul]
  refine zs_ext F (fun f hf => ?_)
  rw [zs_mul]
/-- all RINGS together go round nothing: any measure that changes its sign with the way adds up to 0 -/
theorem rings_zero {P : Nat → V3} {n g F : Nat} {s : mS} {rf : Nat → Nat} {ρf : Nat → Nat → Nat} {G : Nat → Nat → Int} (hfull : full P n) (hdi : ∀ i j, i < n → j < n → i ≠ j → P i ≠ P j) (tb : tbO P n s g F) (ht : tbF P n s g F rf ρf) (hall : ∀ m e, fc P n m e → ∃ j, j < F ∧ fN s (64 * g + j) = m ∧ fD s (64 * g + j) = e) (hG : ∀ u v, G u v = - G v u) : zs (fun f => zs (fun i => G (ρf f i) (nxr (rf f) (ρf f) i)) (rf f)) F = 0 := by
  have inb : ∀ f i, f < F → i < rf f → ρf f i < n ∧ nxr (rf f) (ρf f) i < n := by
    intro f i hf hi
    obtain ⟨-, -, -, t4, -, t6, -⟩ := ht f hf
    refine ⟨(t6 i hi).2, ?_⟩
    unfold nxr
    by_cases w : i + 1 < rf f
    · rw [if_pos w]
      exact (t6 _ w).2
    · rw [if_neg w]
      exact (t6 0 (by omega)).2
  rw [sum_places inb]
  refine sum_anti (fun u v hu hv => ?_) hG
  -- one place at most goes from u to v
  have val : ∀ u v, (∃ f i, f < F ∧ i < rf f ∧ ρf f i = u ∧ nxr (rf f) (ρf f) i = v) → zs (fun f => zs (fun i => if ρf f i = u ∧ nxr (rf f) (ρf f) i = v then (1 : Int) else 0) (rf f)) F = 1 := by
    rintro u v ⟨f, i, hf, hi, e1, e2⟩
    obtain ⟨t1, -, -, t4, -, t6, t7⟩ := ht f hf
    have rv := rgF_v t1 t7
    have ine : ∀ f i, f < F → i < rf f → ρf f i ≠ nxr (rf f) (ρf f) i := by
      intro f i hf hi
      obtain ⟨t1, -, -, t4, -, t6, t7⟩ := ht f hf
      have rv := rgF_v t1 t7
      unfold nxr
      by_cases c : i + 1 < rf f
      · rw [if_pos c]
        exact rv.2 i (i + 1) (by omega) c
      · rw [if_neg c]
        exact fun e => rv.2 0 i (by omega) (by omega) e.symm
    have inF : ∀ i', i' < rf f → ρf f i' = u → i' = i := by
      intro i' hi' e
      by_cases w : i' = i
      · exact w
      · exfalso
        by_cases w2 : i' < i
        · exact rv.2 i' i w2 hi (by rw [e, e1])
        · exact rv.2 i i' (by omega) hi' (by rw [e, e1])
    have oth : ∀ f', f' < F → f' ≠ f → ∀ i', i' < rf f' → ¬ (ρf f' i' = u ∧ nxr (rf f') (ρf f') i' = v) := by
      intro f' hf' hne i' hi' q
      obtain ⟨t1', -, -, t4', -, t6', t7'⟩ := ht f' hf'
      have rv' := rgF_v t1' t7'
      have pu := (rv.1 i hi).2.1
      have pu' := (rv'.1 i' hi').2.1
      rw [e1] at pu
      rw [q.1] at pu'
      have onv : ∀ f i, f < F → i < rf f → vd (fN s (64 * g + f)) (P (nxr (rf f) (ρf f) i)) = fD s (64 * g + f) := by
        intro f i hf hi
        obtain ⟨t1, -, -, t4, -, t6, t7⟩ := ht f hf
        have rv := rgF_v t1 t7
        unfold nxr
        by_cases w : i + 1 < rf f
        · rw [if_pos w]
          exact (rv.1 _ w).2.1
        · rw [if_neg w]
          exact (rv.1 0 (by omega)).2.1
      have pv := onv f i hf hi
      have pv' := onv f' i' hf' hi'
      rw [e2] at pv
      rw [q.2] at pv'
      have uv : vs (P v) (P u) ≠ v0 := by
        have h1 := inb f i hf hi
        rw [e1, e2] at h1
        have h2 := ine f i hf hi
        rw [e1, e2] at h2
        exact vs_ne (hdi v u h1.2 h1.1 (fun q => h2 q.symm))
      have := dir_uniq hfull t1 t1' pu pv pu' pv' uv (fun k hk ek => by
        have := ring_left t1 t7 hi hk ek
        rw [e1, e2] at this
        exact this) (fun k hk ek => by
        have := ring_left t1' t7' hi' hk ek
        rw [q.1, q.2] at this
        exact this)
      by_cases w : f' < f
      · exact tbO_ne tb f' f w hf ⟨this.1.symm, this.2.symm⟩
      · exact tbO_ne tb f f' (by omega) hf' this
    rw [zs_single (a := f) F hf (fun f' hf' hne => zs_zero (rf f') (fun i' hi' => if_neg (oth f' hf' hne i' hi'))), zs_single (a := i) (rf f) hi (fun i' hi' hne => if_neg (fun q => hne (inF i' hi' q.1))), if_pos ⟨e1, e2⟩]
  have non : ∀ u v, (¬ ∃ f i, f < F ∧ i < rf f ∧ ρf f i = u ∧ nxr (rf f) (ρf f) i = v) → zs (fun f => zs (fun i => if ρf f i = u ∧ nxr (rf f) (ρf f) i = v then (1 : Int) else 0) (rf f)) F = 0 := by
    intro u v h
    refine zs_zero F (fun f hf => zs_zero (rf f) (fun i hi => if_neg (fun q => h ⟨f, i, hf, hi, q⟩)))
  have back : ∀ u v, (∃ f i, f < F ∧ i < rf f ∧ ρf f i = u ∧ nxr (rf f) (ρf f) i = v) → ∃ f i, f < F ∧ i < rf f ∧ ρf f i = v ∧ nxr (rf f) (ρf f) i = u := by
    rintro u v ⟨f, i, hf, hi, e1, e2⟩
    obtain ⟨t1, -, -, -, -, -, t7⟩ := ht f hf
    obtain ⟨n', d', f1, f2⟩ := pair hfull hdi t1 t7 hi
    obtain ⟨k, k1, k2, k3⟩ := hall n' d' f1
    have t' := (ht k k1).2.2.2.2.2.2
    rw [k2, k3] at t'
    obtain ⟨j', j1, j2, j3⟩ := f2 _ _ t'
    exact ⟨k, j', k1, j1, by rw [j2, e2], by rw [j3, e1]⟩
  by_cases c : ∃ f i, f < F ∧ i < rf f ∧ ρf f i = u ∧ nxr (rf f) (ρf f) i = v
  · rw [val u v c, val v u (back u v c)]
  · rw [non u v c, non v u (fun q => c (back v u q))]
/-- a RING in triangles from its first place -/
theorem fan {g : Nat → Nat → Int} (hg : ∀ u v, g u v = - g v u) (hT : Nat → Nat → Nat → Int) (e : ∀ p q r, hT p q r = g p q + g q r + g r p) (ρ : Nat → Nat) : ∀ k, zs (fun j => hT (ρ 0) (ρ (j + 1)) (ρ (j + 2))) k = zs (fun i => g (ρ i) (ρ (i + 1))) (k + 1) + g (ρ (k + 1)) (ρ 0) := by
  intro k
  induction k with
  | zero =>
    show (0 : Int) = 0 + g (ρ 0) (ρ 1) + g (ρ 1) (ρ 0)
    rw [hg (ρ 0) (ρ 1)]
    omega
  | succ k ih =>
    show zs (fun j => hT (ρ 0) (ρ (j + 1)) (ρ (j + 2))) k + hT (ρ 0) (ρ (k + 1)) (ρ (k + 2)) = zs (fun i => g (ρ i) (ρ (i + 1))) (k + 1) + g (ρ (k + 1)) (ρ (k + 2)) + g (ρ (k + 2)) (ρ 0)
    rw [ih, e, hg (ρ 0) (ρ (k + 1))]
    omega
theorem fan_ring {g : Nat → Nat → Int} (hg : ∀ u v, g u v = - g v u) (hT : Nat → Nat → Nat → Int) (e : ∀ p q r, hT p q r = g p q + g q r + g r p) (ρ : Nat → Nat) {r : Nat} (hr : 2 ≤ r) : zs (fun j => hT (ρ 0) (ρ (j + 1)) (ρ (j + 2))) (r - 2) = zs (fun i => g (ρ i) (nxr r ρ i)) r := by
  obtain ⟨k, rfl⟩ : ∃ k, r = k + 2 := ⟨r - 2, by omega⟩
  rw [Nat.add_sub_cancel, fan hg hT e]
  show _ = zs (fun i => g (ρ i) (nxr (k + 2) ρ i)) (k + 1) + g (ρ (k + 1)) (nxr (k + 2) ρ (k + 1))
  have e1 : zs (fun i => g (ρ i) (nxr (k + 2) ρ i)) (k + 1) = zs (fun i => g (ρ i) (ρ (i + 1))) (k + 1) := by
    refine zs_ext (k + 1) (fun i hi => ?_)
    unfold nxr
    rw [if_pos (by omega)]
  have e2 : nxr (k + 2) ρ (k + 1) = ρ 0 := by
    unfold nxr
    rw [if_neg (by omega)]
  rw [e1, e2]
/-- six times the volume, as the reference adds it up -/
def sixV (P : Nat → V3) (F : Nat) (rf : Nat → Nat) (ρf : Nat → Nat → Nat) : Int := zs (fun f => zs (fun j => dt (P (ρf f 0)) (P (ρf f (j + 1))) (P (ρf f (j + 2)))) (rf f - 2)) F
theorem rx_1 (p1 p2 p3 q1 q2 q3 r1 r2 r3 c1 c2 c3 : Int) : ((p2 * q3 - p3 * q2) * r1 + (p3 * q1 - p1 * q3) * r2 + (p1 * q2 - p2 * q1) * r3) = ((p1 - c1) * ((q2 - p2) * (r3 - p3) - (q3 - p3) * (r2 - p2)) + (p2 - c2) * ((q3 - p3) * (r1 - p1) - (q1 - p1) * (r3 - p3)) + (p3 - c3) * ((q1 - p1) * (r2 - p2) - (q2 - p2) * (r1 - p1))) + ((c1 * (p2 * q3 - p3 * q2) + c2 * (p3 * q1 - p1 * q3) + c3 * (p1 * q2 - p2 * q1)) + (c1 * (q2 * r3 - q3 * r2) + c2 * (q3 * r1 - q1 * r3) + c3 * (q1 * r2 - q2 * r1)) + (c1 * (r2 * p3 - r3 * p2) + c2 * (r3 * p1 - r1 * p3) + c3 * (r1 * p2 - r2 * p1))) := by grind
theorem dt_from (p q r c : V3) : dt p q r = vd (vs p c) (vx (vs q p) (vs r p)) + (vd c (vx p q) + vd c (vx q r) + vd c (vx r p)) := rx_1 _ _ _ _ _ _ _ _ _ _ _ _
theorem rx_2 (c1 c2 c3 p1 p2 p3 q1 q2 q3 : Int) : c1 * (p2 * q3 - p3 * q2) + c2 * (p3 * q1 - p1 * q3) + c3 * (p1 * q2 - p2 * q1) = -(c1 * (q2 * p3 - q3 * p2) + c2 * (q3 * p1 - q1 * p3) + c3 * (q1 * p2 - q2 * p1)) := by grind
theorem vx_sw (c p q : V3) : vd c (vx p q) = - vd c (vx q p) := rx_2 _ _ _ _ _ _ _ _ _
/-- the volume seen from any point c -/
theorem sixV_from {P : Nat → V3} {n g F : Nat} {s : mS} {rf : Nat → Nat} {ρf : Nat → Nat → Nat} (hfull : full P n) (hdi : ∀ i j, i < n → j < n → i ≠ j → P i ≠ P j) (tb : tbO P n s g F) (ht : tbF P n s g F rf ρf) (hall : ∀ m e, fc P n m e → ∃ j, j < F ∧ fN s (64 * g + j) = m ∧ fD s (64 * g + j) = e) (c : V3) : sixV P F rf ρf = zs (fun f => zs (fun j => vd (vs (P (ρf f 0)) c) (vx (vs (P (ρf f (j + 1))) (P (ρf f 0))) (vs (P (ρf f (j + 2))) (P (ρf f 0))))) (rf f - 2)) F := by
  have z := rings_zero (G := fun u v => vd c (vx (P u) (P v))) hfull hdi tb ht hall (fun u v => vx_sw c (P u) (P v))
  have e : sixV P F rf ρf = zs (fun f => zs (fun j => vd (vs (P (ρf f 0)) c) (vx (vs (P (ρf f (j + 1))) (P (ρf f 0))) (vs (P (ρf f (j + 2))) (P (ρf f 0))))) (rf f - 2) + zs (fun i => vd c (vx (P (ρf f i)) (P (nxr (rf f) (ρf f) i)))) (rf f)) F := by
    unfold sixV
    refine zs_ext F (fun f hf => ?_)
    obtain ⟨-, -, -, t4, -⟩ := ht f hf
    rw [← fan_ring (g := fun u v => vd c (vx (P u) (P v))) (fun u v => vx_sw c (P u) (P v)) (fun p q r => vd c (vx (P p) (P q)) + vd c (vx (P q) (P r)) + vd c (vx (P r) (P p))) (fun _ _ _ => rfl) (ρf f) (by omega), ← zs_add]
    refine zs_ext (rf f - 2) (fun j hj => ?_)
    exact dt_from _ _ _ c
  rw [e, zs_add, z]
  omega
/-- a SOLID that isn't flat has a volume above 0 -/
theorem sixV_pos {P : Nat → V3} {n g F : Nat} {s : mS} {rf : Nat → Nat} {ρf : Nat → Nat → Nat} (ho : inOrd wO P n) (hfull : full P n) (hdi : ∀ i j, i < n → j < n → i ≠ j → P i ≠ P j) (tb : tbO P n s g F) (ht : tbF P n s g F rf ρf) (hall : ∀ m e, fc P n m e → ∃ j, j < F ∧ fN s (64 * g + j) = m ∧ fD s (64 * g + j) = e) (F1 : 1 ≤ F) : 0 < sixV P F rf ρf := by
  obtain ⟨c, hc, hc2⟩ := hfull (fN s (64 * g + 0)) (fD s (64 * g + 0)) (ht 0 (by omega)).1.2.2
  rw [sixV_from hfull hdi tb ht hall (P c)]
  have term : ∀ f, f < F → ∀ j, j < rf f - 2 → ∃ B, 0 ≤ B ∧ (j = 0 → 0 < B) ∧ vd (fN s (64 * g + f)) (fN s (64 * g + f)) * vd (vs (P (ρf f 0)) (P c)) (vx (vs (P (ρf f (j + 1))) (P (ρf f 0))) (vs (P (ρf f (j + 2))) (P (ρf f 0)))) = B * (fD s (64 * g + f) - vd (fN s (64 * g + f)) (P c)) := by
    intro f hf j hj
    obtain ⟨t1, -, -, t4, -, t6, t7⟩ := ht f hf
    have rv := rgF_v t1 t7
    have np := prim_pos t1.2.2
    have p0 := rv.1 0 (by omega)
    have p1 := rv.1 (j + 1) (by omega)
    have p2 := rv.1 (j + 2) (by omega)
    have q1 : vd (fN s (64 * g + f)) (vs (P (ρf f (j + 1))) (P (ρf f 0))) = 0 := by
      rw [vd_vs, p1.2.1, p0.2.1]
      omega
    have q2 : vd (fN s (64 * g + f)) (vs (P (ρf f (j + 2))) (P (ρf f 0))) = 0 := by
      rw [vd_vs, p2.2.1, p0.2.1]
      omega
    have al := along_u (vs (P (ρf f 0)) (P c)) (vx_anti0 (cross_along q1 q2))
    have nx : nxr (rf f) (ρf f) (j + 1) = ρf f (j + 2) := by
      unfold nxr
      rw [if_pos (by omega)]
    have lf := ring_left t1 t7 (j := j + 1) (k := ρf f 0) (by omega) p0.1 p0.2.1
    rw [nx, ← br_cyc] at lf
    have e0 : vd (vx (vs (P (ρf f (j + 1))) (P (ρf f 0))) (vs (P (ρf f (j + 2))) (P (ρf f 0)))) (fN s (64 * g + f)) = br (fN s (64 * g + f)) (P (ρf f 0)) (P (ρf f (j + 1))) (P (ρf f (j + 2))) := vd_comm _ _
    refine ⟨br (fN s (64 * g + f)) (P (ρf f 0)) (P (ρf f (j + 1))) (P (ρf f (j + 2))), lf, fun hj0 => ?_, ?_⟩
    · by_cases z : br (fN s (64 * g + f)) (P (ρf f 0)) (P (ρf f (j + 1))) (P (ρf f (j + 2))) = 0
      · exfalso
        have zz := par0 np q1 q2 z
        -- three of a RING in one line
        have i01 := rv.2 0 (j + 1) (by omega) (by omega)
        have i02 := rv.2 0 (j + 2) (by omega) (by omega)
        have i12 := rv.2 (j + 1) (j + 2) (by omega) (by omega)
        have col : ∀ a b c, a < n → b < n → c < n → a < b → b < c → ex P n b → vx (vs (P b) (P a)) (vs (P c) (P a)) ≠ v0 := fun a b c ha hb hc hab hbc xb => mid_off ho hab hbc hc xb
        have base := vs_ne (hdi _ _ p1.1 p0.1 (fun q => i01 q.symm))
        have l0 : vx (vs (P (ρf f 0)) (P (ρf f 0))) (vs (P (ρf f (j + 1))) (P (ρf f 0))) = v0 := by rw [vs_self, vx_0]
        have l1 : vx (vs (P (ρf f (j + 1))) (P (ρf f 0))) (vs (P (ρf f (j + 1))) (P (ρf f 0))) = v0 := vx_self _
        have l2 : vx (vs (P (ρf f (j + 2))) (P (ρf f 0))) (vs (P (ρf f (j + 1))) (P (ρf f 0))) = v0 := vx_anti0 zz
        rcases (by omega : ρf f 0 < ρf f (j + 1) ∧ ρf f (j + 1) < ρf f (j + 2) ∨ ρf f 0 < ρf f (j + 2) ∧ ρf f (j + 2) < ρf f (j + 1) ∨ ρf f (j + 1) < ρf f 0 ∧ ρf f 0 < ρf f (j + 2) ∨ ρf f (j + 1) < ρf f (j + 2) ∧ ρf f (j + 2) < ρf f 0 ∨ ρf f (j + 2) < ρf f 0 ∧ ρf f 0 < ρf f (j + 1) ∨ ρf f (j + 2) < ρf f (j + 1) ∧ ρf f (j + 1) < ρf f 0) with w | w | w | w | w | w
        · exact col _ _ _ p0.1 p1.1 p2.1 w.1 w.2 p1.2.2 (line_line base l0 l1 l2)
        · exact col _ _ _ p0.1 p2.1 p1.1 w.1 w.2 p2.2.2 (line_line base l0 l2 l1)
        · exact col _ _ _ p1.1 p0.1 p2.1 w.1 w.2 p0.2.2 (line_line base l1 l0 l2)
        · exact col _ _ _ p1.1 p2.1 p0.1 w.1 w.2 p2.2.2 (line_line base l1 l2 l0)
        · exact col _ _ _ p2.1 p0.1 p1.1 w.1 w.2 p0.2.2 (line_line base l2 l0 l1)
        · exact col _ _ _ p2.1 p1.1 p0.1 w.1 w.2 p1.2.2 (line_line base l2 l1 l0)
      · omega
    · rw [al, e0, vd_comm (vs (P (ρf f 0)) (P c)), vd_vs, p0.2.1]
  have nn : ∀ f, f < F → ∀ j, j < rf f - 2 → 0 ≤ vd (vs (P (ρf f 0)) (P c)) (vx (vs (P (ρf f (j + 1))) (P (ρf f 0))) (vs (P (ρf f (j + 2))) (P (ρf f 0)))) := by
    intro f hf j hj
    obtain ⟨B, b0, -, e⟩ := term f hf j hj
    have t1 := (ht f hf).1
    have h1 := t1.1 c hc
    refine nn_of_mul (prim_pos t1.2.2) ?_
    rw [e]
    exact Int.mul_nonneg b0 (by omega)
  refine zs_pos (a := 0) F (fun f hf => zs_nn _ (nn f hf)) (by omega) ?_
  have t0 := (ht 0 (by omega)).2.2.2.1
  refine zs_pos (a := 0) (rf 0 - 2) (nn 0 (by omega)) (by omega) ?_
  obtain ⟨B, -, b1, e⟩ := term 0 (by omega) 0 (by omega)
  have t1 := (ht 0 (by omega)).1
  have h1 := t1.1 c hc
  refine pos_of_mul (prim_pos t1.2.2) ?_
  rw [e]
  exact Int.mul_pos (b1 rfl) (by omega)
