/-- a way with the points between two planes across it, g apart (drawn out by its length) -/
def SPN (A : Nat → V3) (m : Nat) (w : V3) (g : Int) : Prop := w ≠ v0 ∧ ∃ i j, i < m ∧ j < m ∧ (∀ t, t < m → vd w (A t) ≤ vd w (A i)) ∧ (∀ t, t < m → vd w (A j) ≤ vd w (A t)) ∧ g = vd w (A i) - vd w (A j)
/-- the WIDTH, as a fraction in lowest terms -/
def IsW (A : Nat → V3) (m : Nat) (t u : Int) : Prop := 0 < u ∧ gc 1 t u ∧ (∃ v g, SPN A m v g ∧ g * g * u = t * vd v v) ∧ ∀ v g, SPN A m v g → t * vd v v ≤ g * g * u
/-- the body's slit is not reckoned yet, or it is the WIDTH -/
def SL (s : cS) (b kd n : Nat) : Prop := qJ s (b + 9) 1 = 0 ∨ kd = 4 ∧ IsW (pc s (b + 1)) n (qJ s (b + 9) 0).toInt (qJ s (b + 9) 1).toInt
theorem SL_cf {L : Nat → Prop} {s s' : cS} {b kd n : Nat} (h : SL s b kd n) (c : cf L s s') (hL : ∀ i, b ≤ i → i ≤ b + 9 → ¬ L i) : SL s' b kd n := by
  have pe : pc s' (b + 1) = pc s (b + 1) := funext (pc_cf c (fun i a b => hL i (by omega) (by omega)))
  unfold SL
  rw [c.J (hL (b + 9) (by omega) (by omega)), pe]
  exact h
/-- what a body holds beside its points: all planes in order, their rings, its edges -/
def FB (s : cS) (b kd n F E : Nat) (R : Nat → Nat) : Prop := (∀ a, a < n → ex (pc s (b + 1)) n a) ∧ TB (pc s (b + 1)) n F (bN s b) (bD s b) ∧ (∀ f, f < F → bd3 (bN s b f) 81608) ∧ ∃ rf ρ, (0 < F → RZ s b n F R rf ρ) ∧ (∀ f, f < F → rgF (pc s (b + 1)) n (bN s b f) (bD s b f) (rf f) (ρ f)) ∧ (kd = 2 → E = 1 ∧ qA s (b + 8) 0 = 0 ∧ qA s (b + 8) 1 = 1 ∧ qA s (b + 8) 2 = -1 ∧ qA s (b + 8) 3 = -1) ∧ (kd ≠ 2 → ebC s b E (pDn F rf ρ F 0))
theorem FB_cf {L : Nat → Prop} {s s' : cS} {b kd n F E : Nat} {R : Nat → Nat} (h : FB s b kd n F E R) (c : cf L s s') (hL : ∀ i, b ≤ i → i ≤ b + 8 → ¬ L i) : FB s' b kd n F E R := by
  have pe : pc s' (b + 1) = pc s (b + 1) := funext (pc_cf c (p := b + 1) (fun i a b => hL i (by omega) (by omega)))
  have ne : bN s' b = bN s b := by
    funext f
    unfold bN
    rw [c.A (hL (b + 5) (by omega) (by omega))]
  have de : bD s' b = bD s b := by
    funext f
    unfold bD
    rw [c.A (hL (b + 5) (by omega) (by omega))]
  obtain ⟨h1, h2, h3, rf, ρ, h4, h5, h6, h7⟩ := h
  unfold FB
  rw [pe, ne, de, c.A (hL (b + 8) (by omega) (by omega))]
  exact ⟨h1, h2, h3, rf, ρ, fun w => RZ_cf (h4 w) c (hL _ (by omega) (by omega)) (hL _ (by omega) (by omega)), h5, h6, fun w => ebC_cf (h7 w) c (hL _ (by omega) (by omega)) (hL _ (by omega) (by omega))⟩
theorem TB_0 {P : Nat → V3} {n : Nat} {nf : Nat → V3} {df : Nat → Int} (hn : n ≤ 2) : TB P n 0 nf df := ⟨fun f hf => absurd hf (by omega), fun i j _ hj => absurd hj (by omega), fun m e hm => (fc_no hn hm).elim⟩
theorem RU_0 {rf : Nat → Nat} {ρ : Nat → Nat → Nat} : RU 0 rf ρ := ⟨fun f j f' j' hf => absurd hf (by omega), fun f j hf => absurd hf (by omega), fun E pe qe he hd => by
  by_cases c : E = 0
  · omega
  · obtain ⟨f, j, h⟩ := he 0 (by omega)
    have := h.1
    omega⟩
theorem FB_0 {s : cS} {b : Nat} {R : Nat → Nat} (k6 : qI s b 6 = 0) : FB s b 0 0 0 0 R := ⟨fun a ha => absurd ha (by omega), TB_0 (by omega), fun f hf => absurd hf (by omega), fun _ => 0, fun _ _ => 0, fun w => absurd w (by omega), fun f hf => absurd hf (by omega), fun w => absurd w (by omega), fun _ => ⟨by omega, k6, fun _ => 0, fun _ => 0, fun _ => 0, fun _ => 0, fun e he => absurd he (by omega), fun e he => absurd he (by omega), fun x y _ hy => absurd hy (by omega), fun f p q ⟨j, hj, _⟩ => by
  have := hj.1
  omega⟩⟩
/-- a body is well -/
def BO (s : cS) (b : Nat) : Prop := ∃ kd n F E R, kd ≤ 4 ∧ n ≤ 24 ∧ F ≤ 44 ∧ E ≤ 66 ∧ qI s b 0 = Int32.ofNat kd ∧ qI s (b + 1) 0 = Int32.ofNat n ∧ qI s b 2 = Int32.ofNat F ∧ qI s b 6 = Int32.ofNat E ∧ (∀ j, j < n → bd3 (pc s (b + 1) j) 100) ∧ (0 < F → RS s b n F R) ∧ (kd = 4 → EG s b F E ∧ ∀ f, f < F → R f < 132) ∧ FB s b kd n F E R ∧ SL s b kd n
theorem BO_cf {L : Nat → Prop} {s s' : cS} {b : Nat} (h : BO s b) (c : cf L s s') (hL : ∀ i, b ≤ i → i ≤ b + 9 → ¬ L i) : BO s' b := by
  obtain ⟨kd, n, F, E, R, h1, h2, h3, h4, h5, h6, h7, h8, h9, h10, h11, h12, h13⟩ := h
  have pe := pc_cf c (p := b + 1) (fun i a b => hL i (by omega) (by omega))
  refine ⟨kd, n, F, E, R, h1, h2, h3, h4, ?_, ?_, ?_, ?_, fun j hj => by rw [pe]; exact h9 j hj, fun w => RS_cf (h10 w) c (hL _ (by omega) (by omega)) (hL _ (by omega) (by omega)), fun w => ⟨?_, (h11 w).2⟩, FB_cf h12 c (fun i a b => hL i a (by omega)), SL_cf h13 c hL⟩
  · rw [c.I (hL b (by omega) (by omega))]
    exact h5
  · rw [c.I (hL (b + 1) (by omega) (by omega))]
    exact h6
  · rw [c.I (hL b (by omega) (by omega))]
    exact h7
  · rw [c.I (hL b (by omega) (by omega))]
    exact h8
  · obtain ⟨g1, g2, g3⟩ := (h11 w).1
    refine ⟨g1, ?_, fun e he => ?_⟩
    · rw [c.I (hL b (by omega) (by omega))]
      exact g2
    · rw [c.A (hL (b + 8) (by omega) (by omega))]
      exact g3 e he
theorem BO_cl {s : cS} {b : Nat} (k0 : qI s b 0 = 0) (k1 : qI s (b + 1) 0 = 0) (k2 : qI s b 2 = 0) (k6 : qI s b 6 = 0) (k9 : qJ s (b + 9) 1 = 0) : BO s b := ⟨0, 0, 0, 0, fun _ => 0, by omega, by omega, by omega, by omega, k0, k1, k2, k6, fun j hj => absurd hj (by omega), fun w => absurd w (by omega), fun w => absurd w (by omega), FB_0 k6, .inl k9⟩
theorem bcl_9 (s : cS) (b : Nat) : qJ (bcl s b) (b + 9) 1 = 0 := by
  unfold bcl
  rw [qJ_uJ, if_pos ⟨rfl, rfl⟩]
theorem bcl_v (s : cS) (b : Nat) : qI (bcl s b) b 0 = 0 ∧ qI (bcl s b) (b + 1) 0 = 0 ∧ qI (bcl s b) b 2 = 0 ∧ qI (bcl s b) b 6 = 0 := by
  unfold bcl
  rw [qI_uJ, qI_uI, qI_uI, qI_uI, qI_uI, qI_uI, qI_uI, qI_uI, qI_uI, qI_uI, qI_uI, qI_uI, qI_uI, qI_uI, qI_uI, qI_uI, qI_uI]
  refine ⟨?_, ?_, ?_, ?_⟩
  · rw [if_neg (by omega), if_neg (by omega), if_neg (by omega), if_pos ⟨rfl, rfl⟩]
  · rw [if_neg (by omega), if_neg (by omega), if_pos ⟨rfl, rfl⟩]
  · rw [if_neg (by omega), if_pos ⟨rfl, rfl⟩]
  · rw [if_pos ⟨rfl, rfl⟩]
/-- the body's planes and what its rings are known for, behind fill -/
theorem HF_TB {s s1 s2 s3 : cS} {b p q n m kp kq kd K T F : Nat} (h : PQ s p q n m kp kq) (hk4 : kd ≤ 4) (hf : HF s s1 p q kp kq kd K) (sk : SK s1 K T) (hT : kd < 3 → T = 0) (hc : cn kd K ≤ 24) (e34 : qA s2 34 = qA s1 34) (e35 : qA s2 35 = qA s1 35) (e36 : qA s2 36 = qA s1 36) (pe2 : ∀ j, pc s2 30 j = pc s1 30 j) (P3 : ∀ j, j < cn kd K → ∃ i, i < K ∧ okk kd i ∧ pc s3 (b + 1) j = pc s1 30 i) (Q3 : ∀ i, i < K → okk kd i → ∃ j, j < cn kd K ∧ pc s3 (b + 1) j = pc s1 30 i) (bd : ∀ j, j < cn kd K → bd3 (pc s3 (b + 1) j) 100) (so : ∀ j j', j < j' → j' < cn kd K → lxl (pc s3 (b + 1) j) (pc s3 (b + 1) j')) (hex : ∀ a, a < cn kd K → ex (pc s3 (b + 1)) (cn kd K) a) (pg : PG (OF kd s2 T) s2 s3 b F) : TB (pc s3 (b + 1)) (cn kd K) F (bN s3 b) (bD s3 b) ∧ Rb s3 b (cn kd K) F ≤ 132 ∧ ∀ rf ρ, (∀ f, f < F → rgF (pc s3 (b + 1)) (cn kd K) (bN s3 b f) (bD s3 b f) (rf f) (ρ f)) → (∀ f, f < F → rf f ≤ 25) → sm rf F ≤ 132 → RU F rf ρ := by
  have te2 : ∀ t, tR s2 t = tR s1 t := fun t => by
    unfold tR
    rw [e34, e35, e36]
  have Teq : ∀ T', SK s1 K T' → T' = T := fun T' sk' => i_inj (by have := sk'.1.2; omega) (by have := sk.1.2; omega) (sk'.2.2.1.symm.trans sk.2.2.1)
  have ro : ∀ t, t < T → tO s2 K t := fun t ht => tO_R (sk.2.2.2.1 t ht) (te2 t) (fun j _ => pe2 j)
  rcases hf with ⟨a, e, -⟩ | ⟨a, k, T', C, wr, al, nz, fl⟩ | ⟨a, k, T', C, wr, al⟩
  · have cK : cn kd K ≤ 2 := by
      unfold cn
      rw [if_neg (by omega)]
      omega
    have F0 : F = 0 := by
      refine Classical.byContradiction fun c => ?_
      obtain ⟨-, -, v, e', g, ⟨t, ht, -⟩, -⟩ := pg.2.2.2.2.2.1 0 (by omega)
      rw [hT a] at ht
      omega
    subst F0
    exact ⟨TB_0 cK, Nat.zero_le _, fun _ _ _ _ _ => RU_0⟩
  · have eT := Teq T' wr.2.1
    subst eT
    subst a
    have K25 := sk.1.1
    have qg2 : QG 25 k s2 K T' := (QG_3 s p q kp kq fl).1 s1 s2 K T' wr.2.2.1 e34 e35 (fun j _ => pe2 j)
    obtain ⟨h1, h2, -, -, -, -, -, h8⟩ := wr.2.2.1 K25
    have off : vd (nu k) (pc s1 30 3) ≠ vd (nu k) (k 0) := fun w => h2 (by
      unfold bx4
      rw [h8 0 (by omega), h8 1 (by omega), h8 2 (by omega), vd_vs']
      unfold nu at w
      rw [w]
      omega)
    obtain ⟨tb, F2, v, d, pv, pl⟩ := TB_3 (s2 := s2) (s3 := s3) (b := b) (n := cn 3 K) ro K25 qg2 nz (e0 := vd (nu k) (k 0)) (fun i hi i3 => by
      rw [pe2]
      rcases wr.2.2.2.2.2.2.1 i hi with w | ⟨-, i1, i2, d, f, e'⟩
      · exact absurd w.2 i3
      · rw [e']
        exact fl i1 i2 f.1 f.2.1) (by rw [pe2]; exact off) (fun j hj => by
      obtain ⟨i, hi, ok, e⟩ := P3 j hj
      exact ⟨i, hi, fun w => ok ⟨rfl, w⟩, by rw [pe2]; exact e⟩) (fun i hi i3 => by
      obtain ⟨j, hj, e⟩ := Q3 i hi (fun w => i3 w.2)
      exact ⟨j, hj, by rw [pe2]; exact e⟩) pg
    refine ⟨tb, ?_, fun rf ρ hr h25 cap => RU_of tb hex hr (.inr ⟨v, d, pv, pl⟩) h25 cap⟩
    have o24 : ∀ x, oc s3 b x (cn 3 K) ≤ 24 := fun x => by
      have h1 := sm_le (f := fun y => if exv s3 b x y = 0 then 1 else 0) (g := fun _ => 1) (cn 3 K) (fun y _ => by
        by_cases c : exv s3 b x y = 0
        · rw [if_pos c]
          exact Nat.le_refl _
        · rw [if_neg c]
          exact Nat.zero_le _)
      rw [sm_c] at h1
      have : oc s3 b x (cn 3 K) = sm (fun y => if exv s3 b x y = 0 then 1 else 0) (cn 3 K) := rfl
      omega
    have h2 := sm_le (f := fun x => oc s3 b x (cn 3 K)) (g := fun _ => 24) F (fun x _ => o24 x)
    rw [sm_c] at h2
    have : Rb s3 b (cn 3 K) F = sm (fun x => oc s3 b x (cn 3 K)) F := rfl
    omega
  · have eT := Teq T' wr.2.1
    subst eT
    subst a
    have K24 : K ≤ 24 := by
      have := wr.2.2.2.2.2.1
      omega
    have cnK : cn 4 K = K := by
      unfold cn
      rw [if_neg (by omega)]
    have okw : ∀ i, okk 4 i := fun i z => by omega
    have qg2 : QG 24 k s2 K T' := (QG_4 s p q kp kq).1 s1 s2 K T' wr.2.2.1 e34 e35 (fun j _ => pe2 j)
    have nb2 : NB (pc s2 30) K := NB_of (s0 := s) (p := p) (q := q) (kp := kp) (kq := kq) (fun j hj => by
      rw [pe2]
      exact wr.2.2.2.2.2.2.1 j hj)
    obtain ⟨hfull, tb, cap⟩ := TB_4 (s2 := s2) (s3 := s3) (b := b) (n := cn 4 K) ro K24 qg2 nb2 bd (fun j hj => by
      obtain ⟨i, hi, -, e⟩ := P3 j hj
      exact ⟨i, hi, by rw [pe2]; exact e⟩) (fun i hi => by
      obtain ⟨j, hj, e⟩ := Q3 i hi (okw i)
      exact ⟨j, hj, by rw [pe2]; exact e⟩) so cnK hex pg
    exact ⟨tb, cap, fun rf ρ hr h25 cap => RU_of tb hex hr (.inl hfull) h25 cap⟩
/-- fill, layRings and layEdges after the hull was found -/
theorem c_b66 {N b p q n m kp kq kd K T : Nat} {s s1 : cS} (hN : 100000 < N) (hb : isB b) (h : PQ s p q n m kp kq) (hk1 : 1 ≤ kd) (hk4 : kd ≤ 4) (hf : HF s s1 p q kp kq kd K) (sk : SK s1 K T) (z1 : qI s1 (b + 1) 0 = 0) (z2 : qI s1 b 2 = 0) (z6 : qI s1 b 6 = 0) (z9 : qJ s1 (b + 9) 1 = 0) (r2 : qI s1 28 2 = 0) (hT : kd < 3 → T = 0) : ∃ s', fxX2_build_66 N 28 b (Int32.ofNat kd) (hC s1) = some (hC s', Int32.ofNat kd) ∧ cf (fun i => rg b (b + 8) i ∨ i = 40) s1 s' ∧ BO s' b ∧ qI s' b 0 = Int32.ofNat kd ∧ qI s' (b + 1) 0 = Int32.ofNat (cn kd K) ∧ (∀ j, j < cn kd K → ∃ i, i < K ∧ okk kd i ∧ pc s' (b + 1) j = pc s1 30 i) ∧ (∀ i, i < K → okk kd i → ∃ j, j < cn kd K ∧ pc s' (b + 1) j = pc s1 30 i) ∧ ((∀ i i', i < K → i' < K → okk kd i → okk kd i' → pc s1 30 i = pc s1 30 i' → i = i') → ∀ j j', j < j' → j' < cn kd K → lxl (pc s' (b + 1) j) (pc s' (b + 1) j')) := by
  obtain ⟨b0, -⟩ := isB_sh hb
  have rb := (isB_rg hb).1
  have hc : cn kd K ≤ 24 := by
    unfold cn
    rcases hf with ⟨a, e, -⟩ | ⟨a, k', T', C, w, -⟩ | ⟨a, k', T', C, w, -⟩
    · rw [if_neg (by omega)]
      omega
    · have := w.2.2.2.2.2.1
      by_cases k3 : 3 < K
      · rw [if_pos ⟨a, k3⟩]
        omega
      · rw [if_neg (fun w => k3 w.2)]
        omega
    · have := w.2.2.2.2.2.1
      rw [if_neg (by omega)]
      omega
  have bk : ∀ i, i < K → okk kd i → bd3 (pc s1 30 i) 100 := fun i hi ok => by
    rcases hf with ⟨a, e, st, z, -⟩ | ⟨a, k', T', C, w, -⟩ | ⟨a, k', T', C, w, -⟩
    · rcases st.2.2.2.2 with ⟨y, -⟩ | ⟨-, y⟩
      · exact absurd (z.symm.trans y) (by decide)
      · exact (y i (by omega)).1
    · rcases w.2.2.2.2.2.2.1 i hi with y | y
      · exact absurd ⟨a, y.2⟩ ok
      · exact y.1
    · rcases w.2.2.2.2.2.2.1 i hi with y | y
      · omega
      · exact y.1
  obtain ⟨s2, s3, F, qf, fi, pg⟩ := d_fill (N := N) hN hb (show kd < 5 by omega) sk hc z1 z2
  obtain ⟨f1, f2, f3, f4, f5⟩ := fi
  obtain ⟨g1, g2, g3, g4, g5, g6, g7⟩ := pg
  have c0 : cf (rg b (b + 8)) s1 (uI s1 b 0 (Int32.ofNat kd)) := cf_uI _ ⟨by omega, by omega⟩
  have c2 : cf (rg b (b + 8)) s1 s2 := c0.tr (f1.mo (fun i hi => ⟨by have := hi.1; omega, by have := hi.2; omega⟩))
  have c3 : cf (rg b (b + 8)) s1 s3 := c2.tr (g1.mo (fun i hi => ⟨by omega, by omega⟩))
  have p3 : ∀ j, pc s3 (b + 1) j = pc s2 (b + 1) j := pc_cf g1 (fun i a b w => by omega)
  have i3 : qI s3 (b + 1) 0 = Int32.ofNat (cn kd K) := by
    rw [g1.I (fun w => by omega)]
    exact f2
  have kd3 : qI s3 b 0 = Int32.ofNat kd := by
    rw [g2 0 (by omega), f1.I (fun w => by have := w.1; omega), qI_uI, if_pos ⟨rfl, rfl⟩]
  have e3 : qI s3 b 6 = 0 := by
    rw [g2 6 (by omega), f1.I (fun w => by have := w.1; omega), qI_uI, if_neg (by omega)]
    exact z6
  have P3 : ∀ j, j < cn kd K → ∃ i, i < K ∧ okk kd i ∧ pc s3 (b + 1) j = pc s1 30 i := fun j hj => by
    rw [p3]
    exact f3 j hj
  have Q3 : ∀ i, i < K → okk kd i → ∃ j, j < cn kd K ∧ pc s3 (b + 1) j = pc s1 30 i := fun i hi ok => by
    obtain ⟨j, hj, e⟩ := f4 i hi ok
    exact ⟨j, hj, by rw [p3]; exact e⟩
  have bd : ∀ j, j < cn kd K → bd3 (pc s3 (b + 1) j) 100 := fun j hj => by
    obtain ⟨i, hi, ok, e⟩ := P3 j hj
    rw [e]
    exact bk i hi ok
  have di := HF_di hf
  have so : ∀ j j', j < j' → j' < cn kd K → lxl (pc s3 (b + 1) j) (pc s3 (b + 1) j') := fun j j' hj hj' => by
    rw [p3, p3]
    exact f5 (fun i i' hi hi' _ _ e => di i i' hi hi' e) j j' hj hj'
  have ez := HF_ex h.2.2.2.2.1 h.2.2.2.2.2 hf
  have hex : ∀ a, a < cn kd K → ex (pc s3 (b + 1)) (cn kd K) a := fun a ha => by
    obtain ⟨i, hi, ok, e⟩ := P3 a ha
    obtain ⟨-, u, hu⟩ := ez i hi ok
    refine ⟨u, fun k hk ka => ?_⟩
    obtain ⟨i', hi', ok', e'⟩ := P3 k hk
    rw [e, e']
    refine hu _ (ez i' hi' ok').1 (fun w => ?_)
    rcases Nat.lt_or_gt_of_ne ka with z | z
    · have := so k a z ha
      rw [e, e', w] at this
      exact lxl_ir _ this
    · have := so a k z hk
      rw [e, e', w] at this
      exact lxl_ir _ this
  obtain ⟨tb, cap, rux⟩ := HF_TB (s2 := s2) (s3 := s3) (b := b) h hk4 hf sk hT hc (c2.A (fun w => by have := w.1; have := w.2; omega)) (c2.A (fun w => by have := w.1; have := w.2; omega)) (c2.A (fun w => by have := w.1; have := w.2; omega)) (pc_cf c2 (fun i a b w => by have := w.1; have := w.2; omega)) P3 Q3 bd so hex ⟨g1, g2, g3, g4, g5, g6, g7⟩
  obtain ⟨s4, ρ, ql, ⟨r1, r3, r4⟩, rF⟩ := d_layRings (N := N) (by omega) hb g3 hc i3 g4 (fun f hf => (g6 f hf).2.1) bd tb.1 hex cap
  have Rm : ∀ f, f ≤ F → Rb s3 b (cn kd K) f ≤ Rb s3 b (cn kd K) F := fun f hf => sm_mono _ hf
  have rz : RZ s4 b (cn kd K) F (Rb s3 b (cn kd K)) (fun f => oc s3 b f (cn kd K)) ρ := ⟨rfl, fun f hf => rfl, fun f hf => ⟨by have := Rm f hf; omega, by
    by_cases d : f = F
    · rw [d]
      exact rF
    · exact r3 f (by omega)⟩, fun f hf => ⟨(r4 f hf).2.1, (r4 f hf).2.2⟩⟩
  have o25 : ∀ f, f < F → oc s3 b f (cn kd K) ≤ 25 := fun f hf => by
    obtain ⟨c, l, g, h1, -, -, -, -, h6, -⟩ := (r4 f hf).1
    omega
  have ru := rux (fun f => oc s3 b f (cn kd K)) ρ (fun f hf => (r4 f hf).1) o25 cap
  have c4 : cf (rg b (b + 8)) s3 s4 := r1.mo (fun i hi => ⟨by omega, by omega⟩)
  have p4 : ∀ j, pc s4 (b + 1) j = pc s3 (b + 1) j := pc_cf r1 (fun i a b w => by omega)
  obtain ⟨s5, E, qe, e66, e6, ek2, ekn, c5, k5⟩ := d_layEdges (N := N) (kd := kd) (by omega) hb (by omega) g3 hc (by rw [r1.I (fun w => by omega)]; exact kd3) (by rw [r1.I (fun w => by omega)]; exact i3) (by rw [r1.I (fun w => by omega)]; exact g4) (by rw [r1.I (fun w => by omega)]; exact e3) rz ru
  have p5 : ∀ j, pc s5 (b + 1) j = pc s4 (b + 1) j := pc_cf c5 (fun i a b w => by omega)
  have pt3 : ∀ j, pc s5 (b + 1) j = pc s3 (b + 1) j := fun j => (p5 j).trans (p4 j)
  have pt : ∀ j, pc s5 (b + 1) j = pc s2 (b + 1) j := fun j => (pt3 j).trans (p3 j)
  have pe : pc s5 (b + 1) = pc s3 (b + 1) := funext pt3
  have a55 : qA s5 (b + 5) = qA s3 (b + 5) := (c5.A (fun w => by omega)).trans (r1.A (fun w => by omega))
  have ne : bN s5 b = bN s3 b := by
    funext f
    unfold bN
    rw [a55]
  have de : bD s5 b = bD s3 b := by
    funext f
    unfold bD
    rw [a55]
  have rz5 := RZ_cf rz c5 (fun w => by omega) (fun w => by omega)
  have cAll : cf (fun i => rg b (b + 8) i ∨ i = 40) s1 s5 := (c3.tr c4).mo (fun i hi => .inl hi) |>.tr (c5.mo (fun i hi => by
    rcases hi with w | w | w
    · exact .inl ⟨by omega, by omega⟩
    · exact .inl ⟨by omega, by omega⟩
    · exact .inr w))
  refine ⟨s5, ?_, cAll, ⟨kd, cn kd K, F, E, Rb s3 b (cn kd K), hk4, hc, g3, e66, ?_, ?_, ?_, e6, fun j hj => ?_, fun _ => RZ_RS rz5, fun w => ⟨ebC_EG hc rz5 (ekn (by omega)), fun f hf => ?_⟩, ?_, .inl ?_⟩, ?_, ?_, fun j hj => ?_, fun i hi ok => ?_, fun D j j' hj hj' => ?_⟩
  · unfold fxX2_build_66
    rw [gI_2_2 s28, Option.bind_some, r2, if_pos rfl, kO_2 s28, Option.bind_some, qf, Option.bind_some, kO_0 b0, Option.bind_some, ql, Option.bind_some, gR_2_1 s28, Option.bind_some, kO_0 b0, Option.bind_some]
    show (fxX0_layEdges N b 40 (hC s4)).bind _ = _
    rw [qe, Option.bind_some]
  · rw [k5 0 (by omega), r1.I (fun w => by omega)]
    exact kd3
  · rw [c5.I (fun w => by omega), r1.I (fun w => by omega)]
    exact i3
  · rw [k5 2 (by omega), r1.I (fun w => by omega)]
    exact g4
  · rw [pt3]
    exact bd j hj
  · have h1 := Rm (f + 1) (by omega)
    have h2 : Rb s3 b (cn kd K) (f + 1) = Rb s3 b (cn kd K) f + oc s3 b f (cn kd K) := rfl
    have h3 := (r4 f hf).2.1
    omega
  · unfold FB
    rw [pe, ne, de]
    exact ⟨hex, tb, fun f hf => (g6 f hf).2.1, _, ρ, fun _ => rz5, fun f hf => (r4 f hf).1, ek2, ekn⟩
  · rw [cAll.J (fun w => by
      rcases w with w | w
      · have := w.2
        omega
      · omega)]
    exact z9
  · rw [k5 0 (by omega), r1.I (fun w => by omega)]
    exact kd3
  · rw [c5.I (fun w => by omega), r1.I (fun w => by omega)]
    exact i3
  · rw [pt3]
    exact P3 j hj
  · obtain ⟨j, hj, e⟩ := f4 i hi ok
    exact ⟨j, hj, by rw [pt]; exact e⟩
  · rw [pt, pt]
    exact f5 D j j' hj hj'
