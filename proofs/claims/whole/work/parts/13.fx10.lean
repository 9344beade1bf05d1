def fxX7_hulls_56 (N : Nat) (rec14 : Nat → Int32 → Int32 → Int32 → mh → Option (mh × Int32)) (x0 : Nat) (x1 : Int32) (x2 : Int32) (x3 : Int32) (s0 : Int32) (s1 : Int32) (s2 : Nat) (h : mh) : Option (mh × Int32) :=
  (wZ h s2 s1 s0).bind fun h21 =>
  rec14 x0 x1 x2 (x3 + (1 : Int32)) h21
set_option maxHeartbeats 4000000 in
set_option maxRecDepth 100000 in
theorem exX7_hulls_56 {N : Nat} {rec14 : Nat → Int32 → Int32 → Int32 → mh → Option (mh × Int32)} (hrec14 : ∀ (x0 : Nat) (x1 : Int32) (x2 : Int32) (x3 : Int32) (h : mh) {o : (mh × Int32)}, rec14 x0 x1 x2 x3 h = some o → mB (gO mX7_hulls (o.1, some (.int o.2))) mX7_hulls (14, [(0, .ref x0), (1, .int x1), (2, .int x2), (3, .int x3)], [], h, 0, 0)) (x0 : Nat) (x1 : Int32) (x2 : Int32) (x3 : Int32) (s0 : Int32) (s1 : Int32) (s2 : Nat) (h : mh) {o : (mh × Int32)} (hq : fxX7_hulls_56 N rec14 x0 x1 x2 x3 s0 s1 s2 h = some o) : mB (gO mX7_hulls (o.1, some (.int o.2))) mX7_hulls (56, [(0, .ref x0), (1, .int x1), (2, .int x2), (3, .int x3)], [.int s0, .int s1, .ref s2], h, 0, 0) := by
  unfold fxX7_hulls_56 at hq
  obtain ⟨h21, e22, hq⟩ := bsm hq
  refine r_wZ odX7_hulls rfl e22 ?_
  refine mB_run odX7_hulls 2 (g := (14, [(3, .int (x3 + (1 : Int32))), (0, .ref x0), (1, .int x1), (2, .int x2)], [], h21, 0, 0)) rfl ?_
  refine mB_lv [1, 2, 3, 0] (lv' := [(0, .ref x0), (1, .int x1), (2, .int x2), (3, .int (x3 + (1 : Int32)))]) rfl ?_
  exact hrec14 _ _ _ _ _ hq
def fxX7_hulls_51 (N : Nat) (rec14 : Nat → Int32 → Int32 → Int32 → mh → Option (mh × Int32)) (x0 : Nat) (x1 : Int32) (x2 : Int32) (x3 : Int32) (s0 : Int32) (s1 : Nat) (h : mh) : Option (mh × Int32) :=
  fxX7_hulls_56 N rec14 x0 x1 x2 x3 (1 : Int32) s0 s1 h
set_option maxHeartbeats 4000000 in
set_option maxRecDepth 100000 in
theorem exX7_hulls_51 {N : Nat} {rec14 : Nat → Int32 → Int32 → Int32 → mh → Option (mh × Int32)} (hrec14 : ∀ (x0 : Nat) (x1 : Int32) (x2 : Int32) (x3 : Int32) (h : mh) {o : (mh × Int32)}, rec14 x0 x1 x2 x3 h = some o → mB (gO mX7_hulls (o.1, some (.int o.2))) mX7_hulls (14, [(0, .ref x0), (1, .int x1), (2, .int x2), (3, .int x3)], [], h, 0, 0)) (x0 : Nat) (x1 : Int32) (x2 : Int32) (x3 : Int32) (s0 : Int32) (s1 : Nat) (h : mh) {o : (mh × Int32)} (hq : fxX7_hulls_51 N rec14 x0 x1 x2 x3 s0 s1 h = some o) : mB (gO mX7_hulls (o.1, some (.int o.2))) mX7_hulls (51, [(0, .ref x0), (1, .int x1), (2, .int x2), (3, .int x3)], [.int s0, .ref s1], h, 0, 0) := by
  unfold fxX7_hulls_51 at hq
  refine mB_run odX7_hulls 2 (g := (56, [(0, .ref x0), (1, .int x1), (2, .int x2), (3, .int x3)], [.int (1 : Int32), .int s0, .ref s1], h, 0, 0)) rfl ?_
  refine mB_lv [0, 1, 2, 3] (lv' := [(0, .ref x0), (1, .int x1), (2, .int x2), (3, .int x3)]) rfl ?_
  exact exX7_hulls_56 hrec14 _ _ _ _ _ _ _ _ hq
def fxX7_hulls_55 (N : Nat) (rec14 : Nat → Int32 → Int32 → Int32 → mh → Option (mh × Int32)) (x0 : Nat) (x1 : Int32) (x2 : Int32) (x3 : Int32) (s0 : Int32) (s1 : Nat) (h : mh) : Option (mh × Int32) :=
  fxX7_hulls_56 N rec14 x0 x1 x2 x3 (0 : Int32) s0 s1 h
set_option maxHeartbeats 4000000 in
set_option maxRecDepth 100000 in
theorem exX7_hulls_55 {N : Nat} {rec14 : Nat → Int32 → Int32 → Int32 → mh → Option (mh × Int32)} (hrec14 : ∀ (x0 : Nat) (x1 : Int32) (x2 : Int32) (x3 : Int32) (h : mh) {o : (mh × Int32)}, rec14 x0 x1 x2 x3 h = some o → mB (gO mX7_hulls (o.1, some (.int o.2))) mX7_hulls (14, [(0, .ref x0), (1, .int x1), (2, .int x2), (3, .int x3)], [], h, 0, 0)) (x0 : Nat) (x1 : Int32) (x2 : Int32) (x3 : Int32) (s0 : Int32) (s1 : Nat) (h : mh) {o : (mh × Int32)} (hq : fxX7_hulls_55 N rec14 x0 x1 x2 x3 s0 s1 h = some o) : mB (gO mX7_hulls (o.1, some (.int o.2))) mX7_hulls (55, [(0, .ref x0), (1, .int x1), (2, .int x2), (3, .int x3)], [.int s0, .ref s1], h, 0, 0) := by
  unfold fxX7_hulls_55 at hq
  refine mB_run odX7_hulls 1 (g := (56, [(0, .ref x0), (1, .int x1), (2, .int x2), (3, .int x3)], [.int (0 : Int32), .int s0, .ref s1], h, 0, 0)) rfl ?_
  refine mB_lv [0, 1, 2, 3] (lv' := [(0, .ref x0), (1, .int x1), (2, .int x2), (3, .int x3)]) rfl ?_
  exact exX7_hulls_56 hrec14 _ _ _ _ _ _ _ _ hq
def fxX7_hulls_139 (N : Nat) (rec70 : Nat → Int32 → Int32 → Int32 → mh → Option (mh × Int32)) (x0 : Nat) (x1 : Int32) (x2 : Int32) (x3 : Int32) (h : mh) : Option (mh × Int32) :=
  (kO h x0 7).bind fun f65 =>
  (fxX7_turnsAbout N x0 h).bind fun o63 =>
  rec70 x0 x1 x2 (x3 + (1 : Int32)) o63
set_option maxHeartbeats 4000000 in
set_option maxRecDepth 100000 in
theorem exX7_hulls_139 {N : Nat} {rec70 : Nat → Int32 → Int32 → Int32 → mh → Option (mh × Int32)} (hrec70 : ∀ (x0 : Nat) (x1 : Int32) (x2 : Int32) (x3 : Int32) (h : mh) {o : (mh × Int32)}, rec70 x0 x1 x2 x3 h = some o → mB (gO mX7_hulls (o.1, some (.int o.2))) mX7_hulls (70, [(0, .ref x0), (1, .int x1), (2, .int x2), (3, .int x3)], [], h, 0, 0)) (x0 : Nat) (x1 : Int32) (x2 : Int32) (x3 : Int32) (h : mh) {o : (mh × Int32)} (hq : fxX7_hulls_139 N rec70 x0 x1 x2 x3 h = some o) : mB (gO mX7_hulls (o.1, some (.int o.2))) mX7_hulls (139, [(0, .ref x0), (1, .int x1), (2, .int x2), (3, .int x3)], [], h, 0, 0) := by
  unfold fxX7_hulls_139 at hq
  refine mB_run odX7_hulls 1 (g := (140, [(0, .ref x0), (1, .int x1), (2, .int x2), (3, .int x3)], [.ref x0], h, 0, 0)) rfl ?_
  obtain ⟨f65, k66, hq⟩ := bsm hq
  obtain ⟨o63, e64, hq⟩ := bsm hq
  refine mB_V (as := []) odX7_hulls okX7_turnsAbout lk_7_212 rfl (exX7_turnsAbout e64) (kO_at k66) rfl rfl rfl ?_
  show mB _ mX7_hulls (143, [(0, .ref x0), (1, .int x1), (2, .int x2), (3, .int x3)], [], o63, 0, 0)
  refine mB_run odX7_hulls 2 (g := (70, [(3, .int (x3 + (1 : Int32))), (0, .ref x0), (1, .int x1), (2, .int x2)], [], o63, 0, 0)) rfl ?_
  refine mB_lv [1, 2, 3, 0] (lv' := [(0, .ref x0), (1, .int x1), (2, .int x2), (3, .int (x3 + (1 : Int32)))]) rfl ?_
  exact hrec70 _ _ _ _ _ hq
def fxX7_hulls_92 (N : Nat) (rec70 : Nat → Int32 → Int32 → Int32 → mh → Option (mh × Int32)) : Nat → Nat → Int32 → Int32 → Int32 → Int32 → mh → Option (mh × Int32)
  | 0, _, _, _, _, _, _ => none
  | n + 1, x0, x1, x2, x3, x4, h =>
    (gI h x0 7 23).bind fun v41 =>
    if v41 ≤ x4 then (
      (gI h x0 7 23).bind fun v44 =>
      if (24 : Int32) < v44 then (
        fxX7_hulls_139 N rec70 x0 x1 x2 x3 h) else (
        (kO h x0 7).bind fun f49 =>
        (fxX7_height N x0 (0 : Int32) h).bind fun o47 =>
        (kO o47.1 x0 7).bind fun f53 =>
        (fxX7_faceHere N x0 x1 o47.2 o47.1).bind fun o51 =>
        fxX7_hulls_139 N rec70 x0 x1 x2 x3 o51)) else (
      (gR h x0 7 19).bind fun v55 =>
      (gR h x0 7 22).bind fun v57 =>
      (aI h v57 x4).bind fun v59 =>
      (wZ h v55 v59 (1 : Int32)).bind fun h61 =>
      fxX7_hulls_92 N rec70 n x0 x1 x2 x3 (x4 + (1 : Int32)) h61)
set_option maxHeartbeats 4000000 in
set_option maxRecDepth 100000 in
theorem exX7_hulls_92 {N : Nat} {rec70 : Nat → Int32 → Int32 → Int32 → mh → Option (mh × Int32)} (hrec70 : ∀ (x0 : Nat) (x1 : Int32) (x2 : Int32) (x3 : Int32) (h : mh) {o : (mh × Int32)}, rec70 x0 x1 x2 x3 h = some o → mB (gO mX7_hulls (o.1, some (.int o.2))) mX7_hulls (70, [(0, .ref x0), (1, .int x1), (2, .int x2), (3, .int x3)], [], h, 0, 0)) : ∀ (n : Nat) (x0 : Nat) (x1 : Int32) (x2 : Int32) (x3 : Int32) (x4 : Int32) (h : mh) {o : (mh × Int32)}, fxX7_hulls_92 N rec70 n x0 x1 x2 x3 x4 h = some o → mB (gO mX7_hulls (o.1, some (.int o.2))) mX7_hulls (92, [(0, .ref x0), (1, .int x1), (2, .int x2), (3, .int x3), (4, .int x4)], [], h, 0, 0) := by
  intro n
  induction n with
  | zero => intro x0 x1 x2 x3 x4 h o hq; cases hq
  | succ n ih =>
    intro x0 x1 x2 x3 x4 h o hq
    unfold fxX7_hulls_92 at hq
    refine mB_run odX7_hulls 2 (g := (95, [(0, .ref x0), (1, .int x1), (2, .int x2), (3, .int x3), (4, .int x4)], [.ref x0, .int x4], h, 0, 0)) rfl ?_
    obtain ⟨v41, e42, hq⟩ := bsm hq
    refine r_gI odX7_hulls rfl rfl e42 ?_
    by_cases c43 : v41 ≤ x4
    · rw [if_pos c43] at hq
      refine ic_ge_T (t := 120) odX7_hulls rfl rfl c43 ?_
      refine mB_run odX7_hulls 1 (g := (121, [(0, .ref x0), (1, .int x1), (2, .int x2), (3, .int x3), (4, .int x4)], [.ref x0], h, 0, 0)) rfl ?_
      obtain ⟨v44, e45, hq⟩ := bsm hq
      refine r_gI odX7_hulls rfl rfl e45 ?_
      refine mB_run odX7_hulls 1 (g := (126, [(0, .ref x0), (1, .int x1), (2, .int x2), (3, .int x3), (4, .int x4)], [.int (24 : Int32), .int v44], h, 0, 0)) rfl ?_
      by_cases c46 : (24 : Int32) < v44
      · rw [if_pos c46] at hq
        refine ic_gt_T (t := 139) odX7_hulls rfl rfl c46 ?_
        refine mB_lv [0, 1, 2, 3] (lv' := [(0, .ref x0), (1, .int x1), (2, .int x2), (3, .int x3)]) rfl ?_
        exact exX7_hulls_139 hrec70 _ _ _ _ _ hq
      · rw [if_neg c46] at hq
        refine ic_gt_F (t := 139) odX7_hulls rfl rfl c46 ?_
        refine mB_run odX7_hulls 4 (g := (133, [(0, .ref x0), (1, .int x1), (2, .int x2), (3, .int x3), (4, .int x4)], [.int (0 : Int32), .ref x0, .int x1, .ref x0], h, 0, 0)) rfl ?_
        obtain ⟨f49, k50, hq⟩ := bsm hq
        obtain ⟨o47, e48, hq⟩ := bsm hq
        refine mB_V (as := [.int (0 : Int32)]) odX7_hulls okX7_height lk_7_189 rfl (exX7_height e48) (kO_at k50) rfl rfl rfl ?_
        show mB _ mX7_hulls (136, [(0, .ref x0), (1, .int x1), (2, .int x2), (3, .int x3), (4, .int x4)], [.long o47.2, .int x1, .ref x0], o47.1, 0, 0)
        obtain ⟨f53, k54, hq⟩ := bsm hq
        obtain ⟨o51, e52, hq⟩ := bsm hq
        refine mB_V (as := [.int x1, .long o47.2]) odX7_hulls okX7_faceHere lk_7_208 rfl (exX7_faceHere e52) (kO_at k54) rfl rfl rfl ?_
        show mB _ mX7_hulls (139, [(0, .ref x0), (1, .int x1), (2, .int x2), (3, .int x3), (4, .int x4)], [], o51, 0, 0)
        refine mB_lv [0, 1, 2, 3] (lv' := [(0, .ref x0), (1, .int x1), (2, .int x2), (3, .int x3)]) rfl ?_
        exact exX7_hulls_139 hrec70 _ _ _ _ _ hq
    · rw [if_neg c43] at hq
      refine ic_ge_F (t := 120) odX7_hulls rfl rfl c43 ?_
      refine mB_run odX7_hulls 1 (g := (102, [(0, .ref x0), (1, .int x1), (2, .int x2), (3, .int x3), (4, .int x4)], [.ref x0], h, 0, 0)) rfl ?_
      obtain ⟨v55, e56, hq⟩ := bsm hq
      refine r_gR odX7_hulls rfl rfl e56 ?_
      refine mB_run odX7_hulls 1 (g := (106, [(0, .ref x0), (1, .int x1), (2, .int x2), (3, .int x3), (4, .int x4)], [.ref x0, .ref v55], h, 0, 0)) rfl ?_
      obtain ⟨v57, e58, hq⟩ := bsm hq
      refine r_gR odX7_hulls rfl rfl e58 ?_
      refine mB_run odX7_hulls 1 (g := (111, [(0, .ref x0), (1, .int x1), (2, .int x2), (3, .int x3), (4, .int x4)], [.int x4, .ref v57, .ref v55], h, 0, 0)) rfl ?_
      obtain ⟨v59, e60, hq⟩ := bsm hq
      refine r_aI odX7_hulls rfl e60 ?_
      refine mB_run odX7_hulls 1 (g := (113, [(0, .ref x0), (1, .int x1), (2, .int x2), (3, .int x3), (4, .int x4)], [.int (1 : Int32), .int v59, .ref v55], h, 0, 0)) rfl ?_
      obtain ⟨h61, e62, hq⟩ := bsm hq
      refine r_wZ odX7_hulls rfl e62 ?_
      refine mB_run odX7_hulls 2 (g := (92, [(4, .int (x4 + (1 : Int32))), (0, .ref x0), (1, .int x1), (2, .int x2), (3, .int x3)], [], h61, 0, 0)) rfl ?_
      refine mB_lv [1, 2, 3, 4, 0] (lv' := [(0, .ref x0), (1, .int x1), (2, .int x2), (3, .int x3), (4, .int (x4 + (1 : Int32)))]) rfl ?_
      exact ih _ _ _ _ _ _ hq
def fxX7_hulls_149 (N : Nat) (x0 : Nat) (x1 : Int32) (x2 : Int32) (h : mh) : Option (mh × Int32) :=
  if x2 = (4 : Int32) then (
    (kO h x0 7).bind fun f26 =>
    (fxX7_planes N x0 x1 h).bind fun o24 =>
    some (o24, x2)) else (
    some (h, x2))
set_option maxHeartbeats 4000000 in
set_option maxRecDepth 100000 in
theorem exX7_hulls_149 {N : Nat} (x0 : Nat) (x1 : Int32) (x2 : Int32) (h : mh) {o : (mh × Int32)} (hq : fxX7_hulls_149 N x0 x1 x2 h = some o) : mB (gO mX7_hulls (o.1, some (.int o.2))) mX7_hulls (149, [(0, .ref x0), (1, .int x1), (2, .int x2)], [], h, 0, 0) := by
  unfold fxX7_hulls_149 at hq
  refine mB_run odX7_hulls 2 (g := (151, [(0, .ref x0), (1, .int x1), (2, .int x2)], [.int (4 : Int32), .int x2], h, 0, 0)) rfl ?_
  by_cases c23 : x2 = (4 : Int32)
  · rw [if_pos c23] at hq
    refine ic_ne_F (t := 159) odX7_hulls rfl rfl c23 ?_
    refine mB_run odX7_hulls 2 (g := (156, [(0, .ref x0), (1, .int x1), (2, .int x2)], [.int x1, .ref x0], h, 0, 0)) rfl ?_
    obtain ⟨f26, k27, hq⟩ := bsm hq
    obtain ⟨o24, e25, hq⟩ := bsm hq
    refine mB_V (as := [.int x1]) odX7_hulls okX7_planes lk_7_215 rfl (exX7_planes e25) (kO_at k27) rfl rfl rfl ?_
    show mB _ mX7_hulls (159, [(0, .ref x0), (1, .int x1), (2, .int x2)], [], o24, 0, 0)
    refine mB_run odX7_hulls 1 (g := (160, [(0, .ref x0), (1, .int x1), (2, .int x2)], [.int x2], o24, 0, 0)) rfl ?_
    cases hq
    exact mB_ret odX7_hulls rfl
  · rw [if_neg c23] at hq
    refine ic_ne_T (t := 159) odX7_hulls rfl rfl c23 ?_
    refine mB_run odX7_hulls 1 (g := (160, [(0, .ref x0), (1, .int x1), (2, .int x2)], [.int x2], h, 0, 0)) rfl ?_
    cases hq
    exact mB_ret odX7_hulls rfl
def fxX7_hulls_70 (N : Nat) : Nat → Nat → Int32 → Int32 → Int32 → mh → Option (mh × Int32)
  | 0, _, _, _, _, _ => none
  | n + 1, x0, x1, x2, x3, h =>
    if (2 : Int32) ≤ x3 then (
      fxX7_hulls_149 N x0 x1 x2 h) else (
      (kO h x0 7).bind fun f31 =>
      (fxX7_height N x0 (0 : Int32) h).bind fun o29 =>
      (kO o29.1 x0 7).bind fun f35 =>
      (fxX7_lists N x0 o29.2 o29.1).bind fun o33 =>
      (kO o33.1 x0 7).bind fun f39 =>
      (fxX7_rings N x0 o33.1).bind fun o37 =>
      fxX7_hulls_92 N (fxX7_hulls_70 N n) N x0 x1 x2 x3 (0 : Int32) o37)
set_option maxHeartbeats 4000000 in
set_option maxRecDepth 100000 in
theorem exX7_hulls_70 {N : Nat} : ∀ (n : Nat) (x0 : Nat) (x1 : Int32) (x2 : Int32) (x3 : Int32) (h : mh) {o : (mh × Int32)}, fxX7_hulls_70 N n x0 x1 x2 x3 h = some o → mB (gO mX7_hulls (o.1, some (.int o.2))) mX7_hulls (70, [(0, .ref x0), (1, .int x1), (2, .int x2), (3, .int x3)], [], h, 0, 0) := by
  intro n
  induction n with
  | zero => intro x0 x1 x2 x3 h o hq; cases hq
  | succ n ih =>
    intro x0 x1 x2 x3 h o hq
    unfold fxX7_hulls_70 at hq
    refine mB_run odX7_hulls 2 (g := (72, [(0, .ref x0), (1, .int x1), (2, .int x2), (3, .int x3)], [.int (2 : Int32), .int x3], h, 0, 0)) rfl ?_
    by_cases c28 : (2 : Int32) ≤ x3
    · rw [if_pos c28] at hq
      refine ic_ge_T (t := 149) odX7_hulls rfl rfl c28 ?_
      refine mB_lv [0, 1, 2] (lv' := [(0, .ref x0), (1, .int x1), (2, .int x2)]) rfl ?_
      exact exX7_hulls_149 _ _ _ _ hq
    · rw [if_neg c28] at hq
      refine ic_ge_F (t := 149) odX7_hulls rfl rfl c28 ?_
      refine mB_run odX7_hulls 3 (g := (78, [(0, .ref x0), (1, .int x1), (2, .int x2), (3, .int x3)], [.int (0 : Int32), .ref x0, .ref x0], h, 0, 0)) rfl ?_
      obtain ⟨f31, k32, hq⟩ := bsm hq
      obtain ⟨o29, e30, hq⟩ := bsm hq
      refine mB_V (as := [.int (0 : Int32)]) odX7_hulls okX7_height lk_7_189 rfl (exX7_height e30) (kO_at k32) rfl rfl rfl ?_
      show mB _ mX7_hulls (81, [(0, .ref x0), (1, .int x1), (2, .int x2), (3, .int x3)], [.long o29.2, .ref x0], o29.1, 0, 0)
      obtain ⟨f35, k36, hq⟩ := bsm hq
      obtain ⟨o33, e34, hq⟩ := bsm hq
      refine mB_V (as := [.long o29.2]) odX7_hulls okX7_lists lk_7_201 rfl (exX7_lists e34) (kO_at k36) rfl rfl rfl ?_
      show mB _ mX7_hulls (84, [(0, .ref x0), (1, .int x1), (2, .int x2), (3, .int x3)], [.int o33.2], o33.1, 0, 0)
      refine mB_run odX7_hulls 2 (g := (86, [(0, .ref x0), (1, .int x1), (2, .int x2), (3, .int x3)], [.ref x0], o33.1, 0, 0)) rfl ?_
      obtain ⟨f39, k40, hq⟩ := bsm hq
      obtain ⟨o37, e38, hq⟩ := bsm hq
      refine mB_V (as := []) odX7_hulls okX7_rings lk_7_205 rfl (exX7_rings e38) (kO_at k40) rfl rfl rfl ?_
      show mB _ mX7_hulls (89, [(0, .ref x0), (1, .int x1), (2, .int x2), (3, .int x3)], [], o37, 0, 0)
      refine mB_run odX7_hulls 2 (g := (92, [(4, .int (0 : Int32)), (0, .ref x0), (1, .int x1), (2, .int x2), (3, .int x3)], [], o37, 0, 0)) rfl ?_
      refine mB_lv [1, 2, 3, 4, 0] (lv' := [(0, .ref x0), (1, .int x1), (2, .int x2), (3, .int x3), (4, .int (0 : Int32))]) rfl ?_
      exact exX7_hulls_92 ih N _ _ _ _ _ _ hq
def fxX7_hulls_14 (N : Nat) : Nat → Nat → Int32 → Int32 → Int32 → mh → Option (mh × Int32)
  | 0, _, _, _, _, _ => none
  | n + 1, x0, x1, x2, x3, h =>
    (gI h x0 7 15).bind fun v9 =>
    if v9 ≤ x3 then (
      if x2 = (3 : Int32) then (
        fxX7_hulls_70 N N x0 x1 x2 (0 : Int32) h) else (
        fxX7_hulls_149 N x0 x1 x2 h)) else (
      (gR h x0 7 19).bind fun v13 =>
      if x2 < (2 : Int32) then (
        fxX7_hulls_51 N (fxX7_hulls_14 N n) x0 x1 x2 x3 x3 v13 h) else (
        if x2 = (2 : Int32) then (
          if x3 = 0 then (
            fxX7_hulls_51 N (fxX7_hulls_14 N n) x0 x1 x2 x3 x3 v13 h) else (
            (gI h x0 7 15).bind fun v18 =>
            if x3 = (v18 - (1 : Int32)) then (
              fxX7_hulls_51 N (fxX7_hulls_14 N n) x0 x1 x2 x3 x3 v13 h) else (
              fxX7_hulls_55 N (fxX7_hulls_14 N n) x0 x1 x2 x3 x3 v13 h))) else (
          fxX7_hulls_55 N (fxX7_hulls_14 N n) x0 x1 x2 x3 x3 v13 h)))
set_option maxHeartbeats 4000000 in
set_option maxRecDepth 100000 in
theorem exX7_hulls_14 {N : Nat} : ∀ (n : Nat) (x0 : Nat) (x1 : Int32) (x2 : Int32) (x3 : Int32) (h : mh) {o : (mh × Int32)}, fxX7_hulls_14 N n x0 x1 x2 x3 h = some o → mB (gO mX7_hulls (o.1, some (.int o.2))) mX7_hulls (14, [(0, .ref x0), (1, .int x1), (2, .int x2), (3, .int x3)], [], h, 0, 0) := by
  intro n
  induction n with
  | zero => intro x0 x1 x2 x3 h o hq; cases hq
  | succ n ih =>
    intro x0 x1 x2 x3 h o hq
    unfold fxX7_hulls_14 at hq
    refine mB_run odX7_hulls 2 (g := (16, [(0, .ref x0), (1, .int x1), (2, .int x2), (3, .int x3)], [.ref x0, .int x3], h, 0, 0)) rfl ?_
    obtain ⟨v9, e10, hq⟩ := bsm hq
    refine r_gI odX7_hulls rfl rfl e10 ?_
    by_cases c11 : v9 ≤ x3
    · rw [if_pos c11] at hq
      refine ic_ge_T (t := 63) odX7_hulls rfl rfl c11 ?_
      refine mB_run odX7_hulls 2 (g := (65, [(0, .ref x0), (1, .int x1), (2, .int x2), (3, .int x3)], [.int (3 : Int32), .int x2], h, 0, 0)) rfl ?_
      by_cases c12 : x2 = (3 : Int32)
      · rw [if_pos c12] at hq
        refine ic_ne_F (t := 149) odX7_hulls rfl rfl c12 ?_
        refine mB_run odX7_hulls 2 (g := (70, [(3, .int (0 : Int32)), (0, .ref x0), (1, .int x1), (2, .int x2)], [], h, 0, 0)) rfl ?_
        refine mB_lv [1, 2, 3, 0] (lv' := [(0, .ref x0), (1, .int x1), (2, .int x2), (3, .int (0 : Int32))]) rfl ?_
        exact exX7_hulls_70 N _ _ _ _ _ hq
      · rw [if_neg c12] at hq
        refine ic_ne_T (t := 149) odX7_hulls rfl rfl c12 ?_
        refine mB_lv [0, 1, 2] (lv' := [(0, .ref x0), (1, .int x1), (2, .int x2)]) rfl ?_
        exact exX7_hulls_149 _ _ _ _ hq
    · rw [if_neg c11] at hq
      refine ic_ge_F (t := 63) odX7_hulls rfl rfl c11 ?_
      refine mB_run odX7_hulls 1 (g := (23, [(0, .ref x0), (1, .int x1), (2, .int x2), (3, .int x3)], [.ref x0], h, 0, 0)) rfl ?_
      obtain ⟨v13, e14, hq⟩ := bsm hq
      refine r_gR odX7_hulls rfl rfl e14 ?_
      refine mB_run odX7_hulls 3 (g := (29, [(0, .ref x0), (1, .int x1), (2, .int x2), (3, .int x3)], [.int (2 : Int32), .int x2, .int x3, .ref v13], h, 0, 0)) rfl ?_
      by_cases c15 : x2 < (2 : Int32)
      · rw [if_pos c15] at hq
        refine ic_lt_T (t := 51) odX7_hulls rfl rfl c15 ?_
        refine mB_lv [0, 1, 2, 3] (lv' := [(0, .ref x0), (1, .int x1), (2, .int x2), (3, .int x3)]) rfl ?_
        exact exX7_hulls_51 ih _ _ _ _ _ _ _ hq
      · rw [if_neg c15] at hq
        refine ic_lt_F (t := 51) odX7_hulls rfl rfl c15 ?_
        refine mB_run odX7_hulls 2 (g := (34, [(0, .ref x0), (1, .int x1), (2, .int x2), (3, .int x3)], [.int (2 : Int32), .int x2, .int x3, .ref v13], h, 0, 0)) rfl ?_
        by_cases c16 : x2 = (2 : Int32)
        · rw [if_pos c16] at hq
          refine ic_ne_F (t := 55) odX7_hulls rfl rfl c16 ?_
          refine mB_run odX7_hulls 1 (g := (38, [(0, .ref x0), (1, .int x1), (2, .int x2), (3, .int x3)], [.int x3, .int x3, .ref v13], h, 0, 0)) rfl ?_
          by_cases c17 : x3 = 0
          · rw [if_pos c17] at hq
            refine if_eq_T (t := 51) odX7_hulls rfl rfl c17 ?_
            refine mB_lv [0, 1, 2, 3] (lv' := [(0, .ref x0), (1, .int x1), (2, .int x2), (3, .int x3)]) rfl ?_
            exact exX7_hulls_51 ih _ _ _ _ _ _ _ hq
          · rw [if_neg c17] at hq
            refine if_eq_F (t := 51) odX7_hulls rfl rfl c17 ?_
            refine mB_run odX7_hulls 2 (g := (43, [(0, .ref x0), (1, .int x1), (2, .int x2), (3, .int x3)], [.ref x0, .int x3, .int x3, .ref v13], h, 0, 0)) rfl ?_
            obtain ⟨v18, e19, hq⟩ := bsm hq
            refine r_gI odX7_hulls rfl rfl e19 ?_
            refine mB_run odX7_hulls 2 (g := (48, [(0, .ref x0), (1, .int x1), (2, .int x2), (3, .int x3)], [.int (v18 - (1 : Int32)), .int x3, .int x3, .ref v13], h, 0, 0)) rfl ?_
            by_cases c20 : x3 = (v18 - (1 : Int32))
            · rw [if_pos c20] at hq
              refine ic_ne_F (t := 55) odX7_hulls rfl rfl c20 ?_
              refine mB_lv [0, 1, 2, 3] (lv' := [(0, .ref x0), (1, .int x1), (2, .int x2), (3, .int x3)]) rfl ?_
              exact exX7_hulls_51 ih _ _ _ _ _ _ _ hq
            · rw [if_neg c20] at hq
              refine ic_ne_T (t := 55) odX7_hulls rfl rfl c20 ?_
              refine mB_lv [0, 1, 2, 3] (lv' := [(0, .ref x0), (1, .int x1), (2, .int x2), (3, .int x3)]) rfl ?_
              exact exX7_hulls_55 ih _ _ _ _ _ _ _ hq
        · rw [if_neg c16] at hq
          refine ic_ne_T (t := 55) odX7_hulls rfl rfl c16 ?_
          refine mB_lv [0, 1, 2, 3] (lv' := [(0, .ref x0), (1, .int x1), (2, .int x2), (3, .int x3)]) rfl ?_
          exact exX7_hulls_55 ih _ _ _ _ _ _ _ hq
def fxX7_hulls (N : Nat) (p0 : Nat) (p1 : Int32) (h : mh) : Option (mh × Int32) :=
  (gR h p0 7 27).bind fun v1 =>
  (wI h v1 p1 (0 : Int32)).bind fun h3 =>
  (kO h3 p0 7).bind fun f7 =>
  (fxX7_kindOfHeap N p0 h3).bind fun o5 =>
  fxX7_hulls_14 N N p0 p1 o5.2 (0 : Int32) o5.1
set_option maxHeartbeats 4000000 in
set_option maxRecDepth 100000 in
theorem exX7_hulls {N : Nat} {p0 : Nat} {p1 : Int32} {h : mh} {o : (mh × Int32)} (hq : fxX7_hulls N p0 p1 h = some o) : mC mX7_hulls [.ref p0, .int p1] h (o.1, some (.int o.2)) := by
  refine mC_of okX7_hulls (Nat.le_of_ble_eq_true rfl) ?_
  unfold fxX7_hulls at hq
  show mB _ mX7_hulls (0, [(0, .ref p0), (1, .int p1)], [], h, 0, 0)
  refine mB_run odX7_hulls 1 (g := (1, [(0, .ref p0), (1, .int p1)], [.ref p0], h, 0, 0)) rfl ?_
  obtain ⟨v1, e2, hq⟩ := bsm hq
  refine r_gR odX7_hulls rfl rfl e2 ?_
  refine mB_run odX7_hulls 2 (g := (6, [(0, .ref p0), (1, .int p1)], [.int (0 : Int32), .int p1, .ref v1], h, 0, 0)) rfl ?_
  obtain ⟨h3, e4, hq⟩ := bsm hq
  refine r_wI odX7_hulls rfl e4 ?_
  refine mB_run odX7_hulls 1 (g := (8, [(0, .ref p0), (1, .int p1)], [.ref p0], h3, 0, 0)) rfl ?_
  obtain ⟨f7, k8, hq⟩ := bsm hq
  obtain ⟨o5, e6, hq⟩ := bsm hq
  refine mB_V (as := []) odX7_hulls okX7_kindOfHeap lk_7_197 rfl (exX7_kindOfHeap e6) (kO_at k8) rfl rfl rfl ?_
  show mB _ mX7_hulls (11, [(0, .ref p0), (1, .int p1)], [.int o5.2], o5.1, 0, 0)
  refine mB_run odX7_hulls 3 (g := (14, [(3, .int (0 : Int32)), (2, .int o5.2), (0, .ref p0), (1, .int p1)], [], o5.1, 0, 0)) rfl ?_
  refine mB_lv [2, 3, 1, 0] (lv' := [(0, .ref p0), (1, .int p1), (2, .int o5.2), (3, .int (0 : Int32))]) rfl ?_
  exact exX7_hulls_14 N _ _ _ _ _ hq
def fxX7_loads_7 (N : Nat) : Nat → Nat → Int32 → Int32 → mh → Option mh
  | 0, _, _, _, _ => none
  | n + 1, x0, x1, x2, h =>
    (gR h x0 7 4).bind fun v3 =>
    (aI h v3 x1).bind fun v5 =>
    if v5 ≤ x2 then (
      some h) else (
      (gR h x0 7 6).bind fun v8 =>
      (aI h v8 (((24 : Int32) * x1) + x2)).bind fun v10 =>
      (gR h x0 7 7).bind fun v12 =>
      (aI h v12 (((24 : Int32) * x1) + x2)).bind fun v14 =>
      (gR h x0 7 8).bind fun v16 =>
      (aI h v16 (((24 : Int32) * x1) + x2)).bind fun v18 =>
      (kO h x0 7).bind fun f22 =>
      (fxX7_heaps N x0 v10.toInt64 v14.toInt64 v18.toInt64 h).bind fun o20 =>
      fxX7_loads_7 N n x0 x1 (x2 + (1 : Int32)) o20)
set_option maxHeartbeats 4000000 in
set_option maxRecDepth 100000 in
theorem exX7_loads_7 {N : Nat} : ∀ (n : Nat) (x0 : Nat) (x1 : Int32) (x2 : Int32) (h : mh) {o : mh}, fxX7_loads_7 N n x0 x1 x2 h = some o → mB (gO mX7_loads (o, none)) mX7_loads (7, [(0, .ref x0), (1, .int x1), (2, .int x2)], [], h, 0, 0) := by
  intro n
  induction n with
  | zero => intro x0 x1 x2 h o hq; cases hq
  | succ n ih =>
    intro x0 x1 x2 h o hq
    unfold fxX7_loads_7 at hq
    refine mB_run odX7_loads 2 (g := (9, [(0, .ref x0), (1, .int x1), (2, .int x2)], [.ref x0, .int x2], h, 0, 0)) rfl ?_
    obtain ⟨v3, e4, hq⟩ := bsm hq
    refine r_gR odX7_loads rfl rfl e4 ?_
    refine mB_run odX7_loads 1 (g := (13, [(0, .ref x0), (1, .int x1), (2, .int x2)], [.int x1, .ref v3, .int x2], h, 0, 0)) rfl ?_
    obtain ⟨v5, e6, hq⟩ := bsm hq
    refine r_aI odX7_loads rfl e6 ?_
    by_cases c7 : v5 ≤ x2
    · rw [if_pos c7] at hq
      refine ic_ge_T (t := 63) odX7_loads rfl rfl c7 ?_
      cases hq
      exact mB_ret odX7_loads rfl
    · rw [if_neg c7] at hq
      refine ic_ge_F (t := 63) odX7_loads rfl rfl c7 ?_
      refine mB_run odX7_loads 2 (g := (19, [(0, .ref x0), (1, .int x1), (2, .int x2)], [.ref x0, .ref x0], h, 0, 0)) rfl ?_
      obtain ⟨v8, e9, hq⟩ := bsm hq
      refine r_gR odX7_loads rfl rfl e9 ?_
      refine mB_run odX7_loads 5 (g := (28, [(0, .ref x0), (1, .int x1), (2, .int x2)], [.int (((24 : Int32) * x1) + x2), .ref v8, .ref x0], h, 0, 0)) rfl ?_
      obtain ⟨v10, e11, hq⟩ := bsm hq
      refine r_aI odX7_loads rfl e11 ?_
      refine mB_run odX7_loads 2 (g := (31, [(0, .ref x0), (1, .int x1), (2, .int x2)], [.ref x0, .long v10.toInt64, .ref x0], h, 0, 0)) rfl ?_
      obtain ⟨v12, e13, hq⟩ := bsm hq
      refine r_gR odX7_loads rfl rfl e13 ?_
      refine mB_run odX7_loads 5 (g := (40, [(0, .ref x0), (1, .int x1), (2, .int x2)], [.int (((24 : Int32) * x1) + x2), .ref v12, .long v10.toInt64, .ref x0], h, 0, 0)) rfl ?_
      obtain ⟨v14, e15, hq⟩ := bsm hq
      refine r_aI odX7_loads rfl e15 ?_
      refine mB_run odX7_loads 2 (g := (43, [(0, .ref x0), (1, .int x1), (2, .int x2)], [.ref x0, .long v14.toInt64, .long v10.toInt64, .ref x0], h, 0, 0)) rfl ?_
      obtain ⟨v16, e17, hq⟩ := bsm hq
      refine r_gR odX7_loads rfl rfl e17 ?_
      refine mB_run odX7_loads 5 (g := (52, [(0, .ref x0), (1, .int x1), (2, .int x2)], [.int (((24 : Int32) * x1) + x2), .ref v16, .long v14.toInt64, .long v10.toInt64, .ref x0], h, 0, 0)) rfl ?_
      obtain ⟨v18, e19, hq⟩ := bsm hq
      refine r_aI odX7_loads rfl e19 ?_
      refine mB_run odX7_loads 1 (g := (54, [(0, .ref x0), (1, .int x1), (2, .int x2)], [.long v18.toInt64, .long v14.toInt64, .long v10.toInt64, .ref x0], h, 0, 0)) rfl ?_
      obtain ⟨f22, k23, hq⟩ := bsm hq
      obtain ⟨o20, e21, hq⟩ := bsm hq
      refine mB_V (as := [.long v10.toInt64, .long v14.toInt64, .long v18.toInt64]) odX7_loads okX7_heaps lk_7_222 rfl (exX7_heaps e21) (kO_at k23) rfl rfl rfl ?_
      show mB _ mX7_loads (57, [(0, .ref x0), (1, .int x1), (2, .int x2)], [], o20, 0, 0)
      refine mB_run odX7_loads 2 (g := (7, [(2, .int (x2 + (1 : Int32))), (0, .ref x0), (1, .int x1)], [], o20, 0, 0)) rfl ?_
      refine mB_lv [1, 2, 0] (lv' := [(0, .ref x0), (1, .int x1), (2, .int (x2 + (1 : Int32)))]) rfl ?_
      exact ih _ _ _ _ hq
def fxX7_loads (N : Nat) (p0 : Nat) (p1 : Int32) (h : mh) : Option mh :=
  (sV h p0 7 15 (.int (0 : Int32))).bind fun h1 =>
  fxX7_loads_7 N N p0 p1 (0 : Int32) h1
set_option maxHeartbeats 4000000 in
set_option maxRecDepth 100000 in
theorem exX7_loads {N : Nat} {p0 : Nat} {p1 : Int32} {h : mh} {o : mh} (hq : fxX7_loads N p0 p1 h = some o) : mC mX7_loads [.ref p0, .int p1] h (o, none) := by
  refine mC_of okX7_loads (Nat.le_of_ble_eq_true rfl) ?_
  unfold fxX7_loads at hq
  show mB _ mX7_loads (0, [(0, .ref p0), (1, .int p1)], [], h, 0, 0)
  refine mB_run odX7_loads 2 (g := (2, [(0, .ref p0), (1, .int p1)], [.int (0 : Int32), .ref p0], h, 0, 0)) rfl ?_
  obtain ⟨h1, e2, hq⟩ := bsm hq
  refine r_sV odX7_loads rfl rfl rfl rfl e2 ?_
  refine mB_run odX7_loads 2 (g := (7, [(2, .int (0 : Int32)), (0, .ref p0), (1, .int p1)], [], h1, 0, 0)) rfl ?_
  refine mB_lv [1, 2, 0] (lv' := [(0, .ref p0), (1, .int p1), (2, .int (0 : Int32))]) rfl ?_
  exact exX7_loads_7 N _ _ _ _ hq
def fxX7_edgeHere_59 (N : Nat) (rec19 : Nat → Int32 → Int32 → Int32 → Int32 → Int32 → Int32 → mh → Option mh) (x0 : Nat) (x1 : Int32) (x2 : Int32) (x3 : Int32) (x4 : Int32) (x5 : Int32) (x6 : Int32) (h : mh) : Option mh :=
  rec19 x0 x1 x2 x3 x4 (x5 + (1 : Int32)) x6 h
set_option maxHeartbeats 4000000 in
set_option maxRecDepth 100000 in
theorem exX7_edgeHere_59 {N : Nat} {rec19 : Nat → Int32 → Int32 → Int32 → Int32 → Int32 → Int32 → mh → Option mh} (hrec19 : ∀ (x0 : Nat) (x1 : Int32) (x2 : Int32) (x3 : Int32) (x4 : Int32) (x5 : Int32) (x6 : Int32) (h : mh) {o : mh}, rec19 x0 x1 x2 x3 x4 x5 x6 h = some o → mB (gO mX7_edgeHere (o, none)) mX7_edgeHere (19, [(0, .ref x0), (1, .int x1), (2, .int x2), (3, .int x3), (4, .int x4), (5, .int x5), (6, .int x6)], [], h, 0, 0)) (x0 : Nat) (x1 : Int32) (x2 : Int32) (x3 : Int32) (x4 : Int32) (x5 : Int32) (x6 : Int32) (h : mh) {o : mh} (hq : fxX7_edgeHere_59 N rec19 x0 x1 x2 x3 x4 x5 x6 h = some o) : mB (gO mX7_edgeHere (o, none)) mX7_edgeHere (59, [(0, .ref x0), (1, .int x1), (2, .int x2), (3, .int x3), (4, .int x4), (5, .int x5), (6, .int x6)], [], h, 0, 0) := by
  unfold fxX7_edgeHere_59 at hq
  refine mB_run odX7_edgeHere 2 (g := (19, [(5, .int (x5 + (1 : Int32))), (0, .ref x0), (1, .int x1), (2, .int x2), (3, .int x3), (4, .int x4), (6, .int x6)], [], h, 0, 0)) rfl ?_
  refine mB_lv [1, 2, 3, 4, 5, 0, 6] (lv' := [(0, .ref x0), (1, .int x1), (2, .int x2), (3, .int x3), (4, .int x4), (5, .int (x5 + (1 : Int32))), (6, .int x6)]) rfl ?_
  exact hrec19 _ _ _ _ _ _ _ _ hq
def fxX7_edgeHere_108 (N : Nat) : Nat → Nat → Int32 → Int32 → Int32 → Int32 → Int32 → Int32 → mh → Option mh
  | 0, _, _, _, _, _, _, _, _ => none
  | n + 1, x0, x1, x2, x3, x4, x5, x7, h =>
    if x7 ≤ x5 then (
      (gR h x0 7 35).bind fun v37 =>
      (wI h v37 x5 x2).bind fun h39 =>
      (gR h39 x0 7 36).bind fun v41 =>
      (wI h39 v41 x5 x3).bind fun h43 =>
      (gR h43 x0 7 37).bind fun v45 =>
      (wI h43 v45 x5 x4).bind fun h47 =>
      (gR h47 x0 7 38).bind fun v49 =>
      (wI h47 v49 x5 x4).bind fun h51 =>
      (gR h51 x0 7 34).bind fun v53 =>
      (aI h51 v53 x1).bind fun v55 =>
      (wI h51 v53 x1 (v55 + (1 : Int32))).bind fun h57 =>
      some h57) else (
      (gR h x0 7 35).bind fun v59 =>
      (gR h x0 7 35).bind fun v61 =>
      (aI h v61 (x7 - (1 : Int32))).bind fun v63 =>
      (wI h v59 x7 v63).bind fun h65 =>
      (gR h65 x0 7 36).bind fun v67 =>
      (gR h65 x0 7 36).bind fun v69 =>
      (aI h65 v69 (x7 - (1 : Int32))).bind fun v71 =>
      (wI h65 v67 x7 v71).bind fun h73 =>
      (gR h73 x0 7 37).bind fun v75 =>
      (gR h73 x0 7 37).bind fun v77 =>
      (aI h73 v77 (x7 - (1 : Int32))).bind fun v79 =>
      (wI h73 v75 x7 v79).bind fun h81 =>
      (gR h81 x0 7 38).bind fun v83 =>
      (gR h81 x0 7 38).bind fun v85 =>
      (aI h81 v85 (x7 - (1 : Int32))).bind fun v87 =>
      (wI h81 v83 x7 v87).bind fun h89 =>
      fxX7_edgeHere_108 N n x0 x1 x2 x3 x4 x5 (x7 + (-1 : Int32)) h89)
set_option maxHeartbeats 4000000 in
set_option maxRecDepth 100000 in
theorem exX7_edgeHere_108 {N : Nat} : ∀ (n : Nat) (x0 : Nat) (x1 : Int32) (x2 : Int32) (x3 : Int32) (x4 : Int32) (x5 : Int32) (x7 : Int32) (h : mh) {o : mh}, fxX7_edgeHere_108 N n x0 x1 x2 x3 x4 x5 x7 h = some o → mB (gO mX7_edgeHere (o, none)) mX7_edgeHere (108, [(0, .ref x0), (1, .int x1), (2, .int x2), (3, .int x3), (4, .int x4), (5, .int x5), (7, .int x7)], [], h, 0, 0) := by
  intro n
  induction n with
  | zero => intro x0 x1 x2 x3 x4 x5 x7 h o hq; cases hq
  | succ n ih =>
    intro x0 x1 x2 x3 x4 x5 x7 h o hq
    unfold fxX7_edgeHere_108 at hq
    refine mB_run odX7_edgeHere 2 (g := (112, [(0, .ref x0), (1, .int x1), (2, .int x2), (3, .int x3), (4, .int x4), (5, .int x5), (7, .int x7)], [.int x5, .int x7], h, 0, 0)) rfl ?_
    by_cases c36 : x7 ≤ x5
    · rw [if_pos c36] at hq
      refine ic_le_T (t := 185) odX7_edgeHere rfl rfl c36 ?_
      refine mB_run odX7_edgeHere 1 (g := (186, [(0, .ref x0), (1, .int x1), (2, .int x2), (3, .int x3), (4, .int x4), (5, .int x5), (7, .int x7)], [.ref x0], h, 0, 0)) rfl ?_
      obtain ⟨v37, e38, hq⟩ := bsm hq
      refine r_gR odX7_edgeHere rfl rfl e38 ?_
      refine mB_run odX7_edgeHere 2 (g := (192, [(0, .ref x0), (1, .int x1), (2, .int x2), (3, .int x3), (4, .int x4), (5, .int x5), (7, .int x7)], [.int x2, .int x5, .ref v37], h, 0, 0)) rfl ?_
      obtain ⟨h39, e40, hq⟩ := bsm hq
      refine r_wI odX7_edgeHere rfl e40 ?_
      refine mB_run odX7_edgeHere 1 (g := (194, [(0, .ref x0), (1, .int x1), (2, .int x2), (3, .int x3), (4, .int x4), (5, .int x5), (7, .int x7)], [.ref x0], h39, 0, 0)) rfl ?_
      obtain ⟨v41, e42, hq⟩ := bsm hq
      refine r_gR odX7_edgeHere rfl rfl e42 ?_
      refine mB_run odX7_edgeHere 2 (g := (200, [(0, .ref x0), (1, .int x1), (2, .int x2), (3, .int x3), (4, .int x4), (5, .int x5), (7, .int x7)], [.int x3, .int x5, .ref v41], h39, 0, 0)) rfl ?_
      obtain ⟨h43, e44, hq⟩ := bsm hq
      refine r_wI odX7_edgeHere rfl e44 ?_
      refine mB_run odX7_edgeHere 1 (g := (202, [(0, .ref x0), (1, .int x1), (2, .int x2), (3, .int x3), (4, .int x4), (5, .int x5), (7, .int x7)], [.ref x0], h43, 0, 0)) rfl ?_
      obtain ⟨v45, e46, hq⟩ := bsm hq
      refine r_gR odX7_edgeHere rfl rfl e46 ?_
      refine mB_run odX7_edgeHere 2 (g := (209, [(0, .ref x0), (1, .int x1), (2, .int x2), (3, .int x3), (4, .int x4), (5, .int x5), (7, .int x7)], [.int x4, .int x5, .ref v45], h43, 0, 0)) rfl ?_
      obtain ⟨h47, e48, hq⟩ := bsm hq
      refine r_wI odX7_edgeHere rfl e48 ?_
      refine mB_run odX7_edgeHere 1 (g := (211, [(0, .ref x0), (1, .int x1), (2, .int x2), (3, .int x3), (4, .int x4), (5, .int x5), (7, .int x7)], [.ref x0], h47, 0, 0)) rfl ?_
      obtain ⟨v49, e50, hq⟩ := bsm hq
      refine r_gR odX7_edgeHere rfl rfl e50 ?_
      refine mB_run odX7_edgeHere 2 (g := (218, [(0, .ref x0), (1, .int x1), (2, .int x2), (3, .int x3), (4, .int x4), (5, .int x5), (7, .int x7)], [.int x4, .int x5, .ref v49], h47, 0, 0)) rfl ?_
      obtain ⟨h51, e52, hq⟩ := bsm hq
      refine r_wI odX7_edgeHere rfl e52 ?_
      refine mB_run odX7_edgeHere 1 (g := (220, [(0, .ref x0), (1, .int x1), (2, .int x2), (3, .int x3), (4, .int x4), (5, .int x5), (7, .int x7)], [.ref x0], h51, 0, 0)) rfl ?_
      obtain ⟨v53, e54, hq⟩ := bsm hq
      refine r_gR odX7_edgeHere rfl rfl e54 ?_
      refine mB_run odX7_edgeHere 2 (g := (225, [(0, .ref x0), (1, .int x1), (2, .int x2), (3, .int x3), (4, .int x4), (5, .int x5), (7, .int x7)], [.int x1, .ref v53, .int x1, .ref v53], h51, 0, 0)) rfl ?_
      obtain ⟨v55, e56, hq⟩ := bsm hq
      refine r_aI odX7_edgeHere rfl e56 ?_
      refine mB_run odX7_edgeHere 2 (g := (228, [(0, .ref x0), (1, .int x1), (2, .int x2), (3, .int x3), (4, .int x4), (5, .int x5), (7, .int x7)], [.int (v55 + (1 : Int32)), .int x1, .ref v53], h51, 0, 0)) rfl ?_
      obtain ⟨h57, e58, hq⟩ := bsm hq
      refine r_wI odX7_edgeHere rfl e58 ?_
      cases hq
      exact mB_ret odX7_edgeHere rfl
    · rw [if_neg c36] at hq
      refine ic_le_F (t := 185) odX7_edgeHere rfl rfl c36 ?_
      refine mB_run odX7_edgeHere 1 (g := (116, [(0, .ref x0), (1, .int x1), (2, .int x2), (3, .int x3), (4, .int x4), (5, .int x5), (7, .int x7)], [.ref x0], h, 0, 0)) rfl ?_
      obtain ⟨v59, e60, hq⟩ := bsm hq
      refine r_gR odX7_edgeHere rfl rfl e60 ?_
      refine mB_run odX7_edgeHere 2 (g := (122, [(0, .ref x0), (1, .int x1), (2, .int x2), (3, .int x3), (4, .int x4), (5, .int x5), (7, .int x7)], [.ref x0, .int x7, .ref v59], h, 0, 0)) rfl ?_
      obtain ⟨v61, e62, hq⟩ := bsm hq
      refine r_gR odX7_edgeHere rfl rfl e62 ?_
      refine mB_run odX7_edgeHere 3 (g := (129, [(0, .ref x0), (1, .int x1), (2, .int x2), (3, .int x3), (4, .int x4), (5, .int x5), (7, .int x7)], [.int (x7 - (1 : Int32)), .ref v61, .int x7, .ref v59], h, 0, 0)) rfl ?_
      obtain ⟨v63, e64, hq⟩ := bsm hq
      refine r_aI odX7_edgeHere rfl e64 ?_
      obtain ⟨h65, e66, hq⟩ := bsm hq
      refine r_wI odX7_edgeHere rfl e66 ?_
      refine mB_run odX7_edgeHere 1 (g := (132, [(0, .ref x0), (1, .int x1), (2, .int x2), (3, .int x3), (4, .int x4), (5, .int x5), (7, .int x7)], [.ref x0], h65, 0, 0)) rfl ?_
      obtain ⟨v67, e68, hq⟩ := bsm hq
      refine r_gR odX7_edgeHere rfl rfl e68 ?_
      refine mB_run odX7_edgeHere 2 (g := (138, [(0, .ref x0), (1, .int x1), (2, .int x2), (3, .int x3), (4, .int x4), (5, .int x5), (7, .int x7)], [.ref x0, .int x7, .ref v67], h65, 0, 0)) rfl ?_
      obtain ⟨v69, e70, hq⟩ := bsm hq
      refine r_gR odX7_edgeHere rfl rfl e70 ?_
      refine mB_run odX7_edgeHere 3 (g := (145, [(0, .ref x0), (1, .int x1), (2, .int x2), (3, .int x3), (4, .int x4), (5, .int x5), (7, .int x7)], [.int (x7 - (1 : Int32)), .ref v69, .int x7, .ref v67], h65, 0, 0)) rfl ?_
      obtain ⟨v71, e72, hq⟩ := bsm hq
      refine r_aI odX7_edgeHere rfl e72 ?_
      obtain ⟨h73, e74, hq⟩ := bsm hq
      refine r_wI odX7_edgeHere rfl e74 ?_
      refine mB_run odX7_edgeHere 1 (g := (148, [(0, .ref x0), (1, .int x1), (2, .int x2), (3, .int x3), (4, .int x4), (5, .int x5), (7, .int x7)], [.ref x0], h73, 0, 0)) rfl ?_
      obtain ⟨v75, e76, hq⟩ := bsm hq
      refine r_gR odX7_edgeHere rfl rfl e76 ?_
      refine mB_run odX7_edgeHere 2 (g := (154, [(0, .ref x0), (1, .int x1), (2, .int x2), (3, .int x3), (4, .int x4), (5, .int x5), (7, .int x7)], [.ref x0, .int x7, .ref v75], h73, 0, 0)) rfl ?_
      obtain ⟨v77, e78, hq⟩ := bsm hq
      refine r_gR odX7_edgeHere rfl rfl e78 ?_
      refine mB_run odX7_edgeHere 3 (g := (161, [(0, .ref x0), (1, .int x1), (2, .int x2), (3, .int x3), (4, .int x4), (5, .int x5), (7, .int x7)], [.int (x7 - (1 : Int32)), .ref v77, .int x7, .ref v75], h73, 0, 0)) rfl ?_
      obtain ⟨v79, e80, hq⟩ := bsm hq
      refine r_aI odX7_edgeHere rfl e80 ?_
      obtain ⟨h81, e82, hq⟩ := bsm hq
      refine r_wI odX7_edgeHere rfl e82 ?_
      refine mB_run odX7_edgeHere 1 (g := (164, [(0, .ref x0), (1, .int x1), (2, .int x2), (3, .int x3), (4, .int x4), (5, .int x5), (7, .int x7)], [.ref x0], h81, 0, 0)) rfl ?_
      obtain ⟨v83, e84, hq⟩ := bsm hq
      refine r_gR odX7_edgeHere rfl rfl e84 ?_
      refine mB_run odX7_edgeHere 2 (g := (170, [(0, .ref x0), (1, .int x1), (2, .int x2), (3, .int x3), (4, .int x4), (5, .int x5), (7, .int x7)], [.ref x0, .int x7, .ref v83], h81, 0, 0)) rfl ?_
      obtain ⟨v85, e86, hq⟩ := bsm hq
      refine r_gR odX7_edgeHere rfl rfl e86 ?_
      refine mB_run odX7_edgeHere 3 (g := (177, [(0, .ref x0), (1, .int x1), (2, .int x2), (3, .int x3), (4, .int x4), (5, .int x5), (7, .int x7)], [.int (x7 - (1 : Int32)), .ref v85, .int x7, .ref v83], h81, 0, 0)) rfl ?_
      obtain ⟨v87, e88, hq⟩ := bsm hq
      refine r_aI odX7_edgeHere rfl e88 ?_
      obtain ⟨h89, e90, hq⟩ := bsm hq
      refine r_wI odX7_edgeHere rfl e90 ?_
      refine mB_run odX7_edgeHere 2 (g := (108, [(7, .int (x7 + (-1 : Int32))), (0, .ref x0), (1, .int x1), (2, .int x2), (3, .int x3), (4, .int x4), (5, .int x5)], [], h89, 0, 0)) rfl ?_
      refine mB_lv [1, 2, 3, 4, 5, 6, 0] (lv' := [(0, .ref x0), (1, .int x1), (2, .int x2), (3, .int x3), (4, .int x4), (5, .int x5), (7, .int (x7 + (-1 : Int32)))]) rfl ?_
      exact ih _ _ _ _ _ _ _ _ hq
def fxX7_edgeHere_104 (N : Nat) (x0 : Nat) (x1 : Int32) (x2 : Int32) (x3 : Int32) (x4 : Int32) (x5 : Int32) (x6 : Int32) (h : mh) : Option mh :=
  fxX7_edgeHere_108 N N x0 x1 x2 x3 x4 x5 x6 h
set_option maxHeartbeats 4000000 in
set_option maxRecDepth 100000 in
theorem exX7_edgeHere_104 {N : Nat} (x0 : Nat) (x1 : Int32) (x2 : Int32) (x3 : Int32) (x4 : Int32) (x5 : Int32) (x6 : Int32) (h : mh) {o : mh} (hq : fxX7_edgeHere_104 N x0 x1 x2 x3 x4 x5 x6 h = some o) : mB (gO mX7_edgeHere (o, none)) mX7_edgeHere (104, [(0, .ref x0), (1, .int x1), (2, .int x2), (3, .int x3), (4, .int x4), (5, .int x5), (6, .int x6)], [], h, 0, 0) := by
  unfold fxX7_edgeHere_104 at hq
  refine mB_run odX7_edgeHere 2 (g := (108, [(7, .int x6), (0, .ref x0), (1, .int x1), (2, .int x2), (3, .int x3), (4, .int x4), (5, .int x5), (6, .int x6)], [], h, 0, 0)) rfl ?_
  refine mB_lv [1, 2, 3, 4, 5, 6, 0] (lv' := [(0, .ref x0), (1, .int x1), (2, .int x2), (3, .int x3), (4, .int x4), (5, .int x5), (7, .int x6)]) rfl ?_
  exact exX7_edgeHere_108 N _ _ _ _ _ _ _ _ hq
def fxX7_edgeHere_65 (N : Nat) (x0 : Nat) (x1 : Int32) (x2 : Int32) (x3 : Int32) (x4 : Int32) (x5 : Int32) (x6 : Int32) (h : mh) : Option mh :=
  if x6 ≤ x5 then (
    fxX7_edgeHere_104 N x0 x1 x2 x3 x4 x5 x6 h) else (
    (gR h x0 7 35).bind fun v22 =>
    (aI h v22 x5).bind fun v24 =>
    if v24 = x2 then (
      (gR h x0 7 36).bind fun v27 =>
      (aI h v27 x5).bind fun v29 =>
      if v29 = x3 then (
        (gR h x0 7 38).bind fun v32 =>
        (wI h v32 x5 x4).bind fun h34 =>
        some h34) else (
        fxX7_edgeHere_104 N x0 x1 x2 x3 x4 x5 x6 h)) else (
      fxX7_edgeHere_104 N x0 x1 x2 x3 x4 x5 x6 h))
set_option maxHeartbeats 4000000 in
set_option maxRecDepth 100000 in
theorem exX7_edgeHere_65 {N : Nat} (x0 : Nat) (x1 : Int32) (x2 : Int32) (x3 : Int32) (x4 : Int32) (x5 : Int32) (x6 : Int32) (h : mh) {o : mh} (hq : fxX7_edgeHere_65 N x0 x1 x2 x3 x4 x5 x6 h = some o) : mB (gO mX7_edgeHere (o, none)) mX7_edgeHere (65, [(0, .ref x0), (1, .int x1), (2, .int x2), (3, .int x3), (4, .int x4), (5, .int x5), (6, .int x6)], [], h, 0, 0) := by
  unfold fxX7_edgeHere_65 at hq
  refine mB_run odX7_edgeHere 2 (g := (69, [(0, .ref x0), (1, .int x1), (2, .int x2), (3, .int x3), (4, .int x4), (5, .int x5), (6, .int x6)], [.int x6, .int x5], h, 0, 0)) rfl ?_
  by_cases c21 : x6 ≤ x5
  · rw [if_pos c21] at hq
    refine ic_ge_T (t := 104) odX7_edgeHere rfl rfl c21 ?_
    refine mB_lv [0, 1, 2, 3, 4, 5, 6] (lv' := [(0, .ref x0), (1, .int x1), (2, .int x2), (3, .int x3), (4, .int x4), (5, .int x5), (6, .int x6)]) rfl ?_
    exact exX7_edgeHere_104 _ _ _ _ _ _ _ _ hq
  · rw [if_neg c21] at hq
    refine ic_ge_F (t := 104) odX7_edgeHere rfl rfl c21 ?_
    refine mB_run odX7_edgeHere 1 (g := (73, [(0, .ref x0), (1, .int x1), (2, .int x2), (3, .int x3), (4, .int x4), (5, .int x5), (6, .int x6)], [.ref x0], h, 0, 0)) rfl ?_
    obtain ⟨v22, e23, hq⟩ := bsm hq
    refine r_gR odX7_edgeHere rfl rfl e23 ?_
    refine mB_run odX7_edgeHere 1 (g := (78, [(0, .ref x0), (1, .int x1), (2, .int x2), (3, .int x3), (4, .int x4), (5, .int x5), (6, .int x6)], [.int x5, .ref v22], h, 0, 0)) rfl ?_
    obtain ⟨v24, e25, hq⟩ := bsm hq
    refine r_aI odX7_edgeHere rfl e25 ?_
    refine mB_run odX7_edgeHere 1 (g := (80, [(0, .ref x0), (1, .int x1), (2, .int x2), (3, .int x3), (4, .int x4), (5, .int x5), (6, .int x6)], [.int x2, .int v24], h, 0, 0)) rfl ?_
    by_cases c26 : v24 = x2
    · rw [if_pos c26] at hq
      refine ic_ne_F (t := 104) odX7_edgeHere rfl rfl c26 ?_
      refine mB_run odX7_edgeHere 1 (g := (84, [(0, .ref x0), (1, .int x1), (2, .int x2), (3, .int x3), (4, .int x4), (5, .int x5), (6, .int x6)], [.ref x0], h, 0, 0)) rfl ?_
      obtain ⟨v27, e28, hq⟩ := bsm hq
      refine r_gR odX7_edgeHere rfl rfl e28 ?_
      refine mB_run odX7_edgeHere 1 (g := (89, [(0, .ref x0), (1, .int x1), (2, .int x2), (3, .int x3), (4, .int x4), (5, .int x5), (6, .int x6)], [.int x5, .ref v27], h, 0, 0)) rfl ?_
      obtain ⟨v29, e30, hq⟩ := bsm hq
      refine r_aI odX7_edgeHere rfl e30 ?_
      refine mB_run odX7_edgeHere 1 (g := (91, [(0, .ref x0), (1, .int x1), (2, .int x2), (3, .int x3), (4, .int x4), (5, .int x5), (6, .int x6)], [.int x3, .int v29], h, 0, 0)) rfl ?_
      by_cases c31 : v29 = x3
      · rw [if_pos c31] at hq
        refine ic_ne_F (t := 104) odX7_edgeHere rfl rfl c31 ?_
        refine mB_run odX7_edgeHere 1 (g := (95, [(0, .ref x0), (1, .int x1), (2, .int x2), (3, .int x3), (4, .int x4), (5, .int x5), (6, .int x6)], [.ref x0], h, 0, 0)) rfl ?_
        obtain ⟨v32, e33, hq⟩ := bsm hq
        refine r_gR odX7_edgeHere rfl rfl e33 ?_
        refine mB_run odX7_edgeHere 2 (g := (102, [(0, .ref x0), (1, .int x1), (2, .int x2), (3, .int x3), (4, .int x4), (5, .int x5), (6, .int x6)], [.int x4, .int x5, .ref v32], h, 0, 0)) rfl ?_
        obtain ⟨h34, e35, hq⟩ := bsm hq
        refine r_wI odX7_edgeHere rfl e35 ?_
        cases hq
        exact mB_ret odX7_edgeHere rfl
      · rw [if_neg c31] at hq
        refine ic_ne_T (t := 104) odX7_edgeHere rfl rfl c31 ?_
        refine mB_lv [0, 1, 2, 3, 4, 5, 6] (lv' := [(0, .ref x0), (1, .int x1), (2, .int x2), (3, .int x3), (4, .int x4), (5, .int x5), (6, .int x6)]) rfl ?_
        exact exX7_edgeHere_104 _ _ _ _ _ _ _ _ hq
    · rw [if_neg c26] at hq
      refine ic_ne_T (t := 104) odX7_edgeHere rfl rfl c26 ?_
      refine mB_lv [0, 1, 2, 3, 4, 5, 6] (lv' := [(0, .ref x0), (1, .int x1), (2, .int x2), (3, .int x3), (4, .int x4), (5, .int x5), (6, .int x6)]) rfl ?_
      exact exX7_edgeHere_104 _ _ _ _ _ _ _ _ hq
def fxX7_edgeHere_19 (N : Nat) : Nat → Nat → Int32 → Int32 → Int32 → Int32 → Int32 → Int32 → mh → Option mh
  | 0, _, _, _, _, _, _, _, _ => none
  | n + 1, x0, x1, x2, x3, x4, x5, x6, h =>
    if x6 ≤ x5 then (
      fxX7_edgeHere_65 N x0 x1 x2 x3 x4 x5 x6 h) else (
      (gR h x0 7 35).bind fun v6 =>
      (aI h v6 x5).bind fun v8 =>
      if v8 < x2 then (
        fxX7_edgeHere_59 N (fxX7_edgeHere_19 N n) x0 x1 x2 x3 x4 x5 x6 h) else (
        (gR h x0 7 35).bind fun v11 =>
        (aI h v11 x5).bind fun v13 =>
        if v13 = x2 then (
          (gR h x0 7 36).bind fun v16 =>
          (aI h v16 x5).bind fun v18 =>
          if x3 ≤ v18 then (
            fxX7_edgeHere_65 N x0 x1 x2 x3 x4 x5 x6 h) else (
            fxX7_edgeHere_59 N (fxX7_edgeHere_19 N n) x0 x1 x2 x3 x4 x5 x6 h)) else (
          fxX7_edgeHere_65 N x0 x1 x2 x3 x4 x5 x6 h)))
set_option maxHeartbeats 4000000 in
set_option maxRecDepth 100000 in
theorem exX7_edgeHere_19 {N : Nat} : ∀ (n : Nat) (x0 : Nat) (x1 : Int32) (x2 : Int32) (x3 : Int32) (x4 : Int32) (x5 : Int32) (x6 : Int32) (h : mh) {o : mh}, fxX7_edgeHere_19 N n x0 x1 x2 x3 x4 x5 x6 h = some o → mB (gO mX7_edgeHere (o, none)) mX7_edgeHere (19, [(0, .ref x0), (1, .int x1), (2, .int x2), (3, .int x3), (4, .int x4), (5, .int x5), (6, .int x6)], [], h, 0, 0) := by
  intro n
  induction n with
  | zero => intro x0 x1 x2 x3 x4 x5 x6 h o hq; cases hq
  | succ n ih =>
    intro x0 x1 x2 x3 x4 x5 x6 h o hq
    unfold fxX7_edgeHere_19 at hq
    refine mB_run odX7_edgeHere 2 (g := (23, [(0, .ref x0), (1, .int x1), (2, .int x2), (3, .int x3), (4, .int x4), (5, .int x5), (6, .int x6)], [.int x6, .int x5], h, 0, 0)) rfl ?_
    by_cases c5 : x6 ≤ x5
    · rw [if_pos c5] at hq
      refine ic_ge_T (t := 65) odX7_edgeHere rfl rfl c5 ?_
      refine mB_lv [0, 1, 2, 3, 4, 5, 6] (lv' := [(0, .ref x0), (1, .int x1), (2, .int x2), (3, .int x3), (4, .int x4), (5, .int x5), (6, .int x6)]) rfl ?_
      exact exX7_edgeHere_65 _ _ _ _ _ _ _ _ hq
    · rw [if_neg c5] at hq
      refine ic_ge_F (t := 65) odX7_edgeHere rfl rfl c5 ?_
      refine mB_run odX7_edgeHere 1 (g := (27, [(0, .ref x0), (1, .int x1), (2, .int x2), (3, .int x3), (4, .int x4), (5, .int x5), (6, .int x6)], [.ref x0], h, 0, 0)) rfl ?_
      obtain ⟨v6, e7, hq⟩ := bsm hq
      refine r_gR odX7_edgeHere rfl rfl e7 ?_
      refine mB_run odX7_edgeHere 1 (g := (32, [(0, .ref x0), (1, .int x1), (2, .int x2), (3, .int x3), (4, .int x4), (5, .int x5), (6, .int x6)], [.int x5, .ref v6], h, 0, 0)) rfl ?_
      obtain ⟨v8, e9, hq⟩ := bsm hq
      refine r_aI odX7_edgeHere rfl e9 ?_
      refine mB_run odX7_edgeHere 1 (g := (34, [(0, .ref x0), (1, .int x1), (2, .int x2), (3, .int x3), (4, .int x4), (5, .int x5), (6, .int x6)], [.int x2, .int v8], h, 0, 0)) rfl ?_
      by_cases c10 : v8 < x2
      · rw [if_pos c10] at hq
        refine ic_lt_T (t := 59) odX7_edgeHere rfl rfl c10 ?_
        refine mB_lv [0, 1, 2, 3, 4, 5, 6] (lv' := [(0, .ref x0), (1, .int x1), (2, .int x2), (3, .int x3), (4, .int x4), (5, .int x5), (6, .int x6)]) rfl ?_
        exact exX7_edgeHere_59 ih _ _ _ _ _ _ _ _ hq
      · rw [if_neg c10] at hq
        refine ic_lt_F (t := 59) odX7_edgeHere rfl rfl c10 ?_
        refine mB_run odX7_edgeHere 1 (g := (38, [(0, .ref x0), (1, .int x1), (2, .int x2), (3, .int x3), (4, .int x4), (5, .int x5), (6, .int x6)], [.ref x0], h, 0, 0)) rfl ?_
        obtain ⟨v11, e12, hq⟩ := bsm hq
        refine r_gR odX7_edgeHere rfl rfl e12 ?_
        refine mB_run odX7_edgeHere 1 (g := (43, [(0, .ref x0), (1, .int x1), (2, .int x2), (3, .int x3), (4, .int x4), (5, .int x5), (6, .int x6)], [.int x5, .ref v11], h, 0, 0)) rfl ?_
        obtain ⟨v13, e14, hq⟩ := bsm hq
        refine r_aI odX7_edgeHere rfl e14 ?_
        refine mB_run odX7_edgeHere 1 (g := (45, [(0, .ref x0), (1, .int x1), (2, .int x2), (3, .int x3), (4, .int x4), (5, .int x5), (6, .int x6)], [.int x2, .int v13], h, 0, 0)) rfl ?_
        by_cases c15 : v13 = x2
        · rw [if_pos c15] at hq
          refine ic_ne_F (t := 65) odX7_edgeHere rfl rfl c15 ?_
          refine mB_run odX7_edgeHere 1 (g := (49, [(0, .ref x0), (1, .int x1), (2, .int x2), (3, .int x3), (4, .int x4), (5, .int x5), (6, .int x6)], [.ref x0], h, 0, 0)) rfl ?_
          obtain ⟨v16, e17, hq⟩ := bsm hq
          refine r_gR odX7_edgeHere rfl rfl e17 ?_
          refine mB_run odX7_edgeHere 1 (g := (54, [(0, .ref x0), (1, .int x1), (2, .int x2), (3, .int x3), (4, .int x4), (5, .int x5), (6, .int x6)], [.int x5, .ref v16], h, 0, 0)) rfl ?_
          obtain ⟨v18, e19, hq⟩ := bsm hq
          refine r_aI odX7_edgeHere rfl e19 ?_
          refine mB_run odX7_edgeHere 1 (g := (56, [(0, .ref x0), (1, .int x1), (2, .int x2), (3, .int x3), (4, .int x4), (5, .int x5), (6, .int x6)], [.int x3, .int v18], h, 0, 0)) rfl ?_
          by_cases c20 : x3 ≤ v18
          · rw [if_pos c20] at hq
            refine ic_ge_T (t := 65) odX7_edgeHere rfl rfl c20 ?_
            refine mB_lv [0, 1, 2, 3, 4, 5, 6] (lv' := [(0, .ref x0), (1, .int x1), (2, .int x2), (3, .int x3), (4, .int x4), (5, .int x5), (6, .int x6)]) rfl ?_
            exact exX7_edgeHere_65 _ _ _ _ _ _ _ _ hq
          · rw [if_neg c20] at hq
            refine ic_ge_F (t := 65) odX7_edgeHere rfl rfl c20 ?_
            refine mB_lv [0, 1, 2, 3, 4, 5, 6] (lv' := [(0, .ref x0), (1, .int x1), (2, .int x2), (3, .int x3), (4, .int x4), (5, .int x5), (6, .int x6)]) rfl ?_
            exact exX7_edgeHere_59 ih _ _ _ _ _ _ _ _ hq
        · rw [if_neg c15] at hq
          refine ic_ne_T (t := 65) odX7_edgeHere rfl rfl c15 ?_
          refine mB_lv [0, 1, 2, 3, 4, 5, 6] (lv' := [(0, .ref x0), (1, .int x1), (2, .int x2), (3, .int x3), (4, .int x4), (5, .int x5), (6, .int x6)]) rfl ?_
          exact exX7_edgeHere_65 _ _ _ _ _ _ _ _ hq
def fxX7_edgeHere (N : Nat) (p0 : Nat) (p1 : Int32) (p2 : Int32) (p3 : Int32) (p4 : Int32) (h : mh) : Option mh :=
  (gR h p0 7 34).bind fun v1 =>
  (aI h v1 p1).bind fun v3 =>
  fxX7_edgeHere_19 N N p0 p1 p2 p3 p4 ((80 : Int32) * p1) (((80 : Int32) * p1) + v3) h
set_option maxHeartbeats 4000000 in
set_option maxRecDepth 100000 in
theorem exX7_edgeHere {N : Nat} {p0 : Nat} {p1 : Int32} {p2 : Int32} {p3 : Int32} {p4 : Int32} {h : mh} {o : mh} (hq : fxX7_edgeHere N p0 p1 p2 p3 p4 h = some o) : mC mX7_edgeHere [.ref p0, .int p1, .int p2, .int p3, .int p4] h (o, none) := by
  refine mC_of okX7_edgeHere (Nat.le_of_ble_eq_true rfl) ?_
  unfold fxX7_edgeHere at hq
  show mB _ mX7_edgeHere (0, [(0, .ref p0), (1, .int p1), (2, .int p2), (3, .int p3), (4, .int p4)], [], h, 0, 0)
  refine mB_run odX7_edgeHere 8 (g := (11, [(5, .int ((80 : Int32) * p1)), (0, .ref p0), (1, .int p1), (2, .int p2), (3, .int p3), (4, .int p4)], [.ref p0, .int ((80 : Int32) * p1)], h, 0, 0)) rfl ?_
  obtain ⟨v1, e2, hq⟩ := bsm hq
  refine r_gR odX7_edgeHere rfl rfl e2 ?_
  refine mB_run odX7_edgeHere 1 (g := (15, [(5, .int ((80 : Int32) * p1)), (0, .ref p0), (1, .int p1), (2, .int p2), (3, .int p3), (4, .int p4)], [.int p1, .ref v1, .int ((80 : Int32) * p1)], h, 0, 0)) rfl ?_
  obtain ⟨v3, e4, hq⟩ := bsm hq
  refine r_aI odX7_edgeHere rfl e4 ?_
  refine mB_run odX7_edgeHere 2 (g := (19, [(6, .int (((80 : Int32) * p1) + v3)), (5, .int ((80 : Int32) * p1)), (0, .ref p0), (1, .int p1), (2, .int p2), (3, .int p3), (4, .int p4)], [], h, 0, 0)) rfl ?_
  refine mB_lv [2, 3, 4, 5, 6, 1, 0] (lv' := [(0, .ref p0), (1, .int p1), (2, .int p2), (3, .int p3), (4, .int p4), (5, .int ((80 : Int32) * p1)), (6, .int (((80 : Int32) * p1) + v3))]) rfl ?_
  exact exX7_edgeHere_19 N _ _ _ _ _ _ _ _ hq
def fxX7_knows_180 (N : Nat) (rec77 : Nat → Int32 → Int32 → mh → Option mh) (rec98 : Nat → Int32 → Int32 → Int32 → Int32 → mh → Option mh) (x0 : Nat) (x2 : Int32) (x3 : Int32) (x4 : Int32) (x5 : Int32) (s0 : Int32) (s1 : Int32) (s2 : Int32) (s3 : Nat) (h : mh) : Option mh :=
  (kO h s3 7).bind fun f65 =>
  (fxX7_edgeHere N s3 s2 s1 s0 x3 h).bind fun o63 =>
  rec98 x0 x2 x3 x4 (x5 + (1 : Int32)) o63
set_option maxHeartbeats 4000000 in
set_option maxRecDepth 100000 in
theorem exX7_knows_180 {N : Nat} {rec77 : Nat → Int32 → Int32 → mh → Option mh} {rec98 : Nat → Int32 → Int32 → Int32 → Int32 → mh → Option mh} (hrec77 : ∀ (x0 : Nat) (x2 : Int32) (x3 : Int32) (h : mh) {o : mh}, rec77 x0 x2 x3 h = some o → mB (gO mX7_knows (o, none)) mX7_knows (77, [(0, .ref x0), (2, .int x2), (3, .int x3)], [], h, 0, 0)) (hrec98 : ∀ (x0 : Nat) (x2 : Int32) (x3 : Int32) (x4 : Int32) (x5 : Int32) (h : mh) {o : mh}, rec98 x0 x2 x3 x4 x5 h = some o → mB (gO mX7_knows (o, none)) mX7_knows (98, [(0, .ref x0), (2, .int x2), (3, .int x3), (4, .int x4), (5, .int x5)], [], h, 0, 0)) (x0 : Nat) (x2 : Int32) (x3 : Int32) (x4 : Int32) (x5 : Int32) (s0 : Int32) (s1 : Int32) (s2 : Int32) (s3 : Nat) (h : mh) {o : mh} (hq : fxX7_knows_180 N rec77 rec98 x0 x2 x3 x4 x5 s0 s1 s2 s3 h = some o) : mB (gO mX7_knows (o, none)) mX7_knows (180, [(0, .ref x0), (2, .int x2), (3, .int x3), (4, .int x4), (5, .int x5)], [.int s0, .int s1, .int s2, .ref s3], h, 0, 0) := by
  unfold fxX7_knows_180 at hq
  refine mB_run odX7_knows 1 (g := (181, [(0, .ref x0), (2, .int x2), (3, .int x3), (4, .int x4), (5, .int x5)], [.int x3, .int s0, .int s1, .int s2, .ref s3], h, 0, 0)) rfl ?_
  obtain ⟨f65, k66, hq⟩ := bsm hq
  obtain ⟨o63, e64, hq⟩ := bsm hq
  refine mB_V (as := [.int s2, .int s1, .int s0, .int x3]) odX7_knows okX7_edgeHere lk_7_233 rfl (exX7_edgeHere e64) (kO_at k66) rfl rfl rfl ?_
  show mB _ mX7_knows (184, [(0, .ref x0), (2, .int x2), (3, .int x3), (4, .int x4), (5, .int x5)], [], o63, 0, 0)
  refine mB_run odX7_knows 2 (g := (98, [(5, .int (x5 + (1 : Int32))), (0, .ref x0), (2, .int x2), (3, .int x3), (4, .int x4)], [], o63, 0, 0)) rfl ?_
  refine mB_lv [1, 2, 3, 4, 0] (lv' := [(0, .ref x0), (2, .int x2), (3, .int x3), (4, .int x4), (5, .int (x5 + (1 : Int32)))]) rfl ?_
  exact hrec98 _ _ _ _ _ _ hq
def fxX7_knows_166 (N : Nat) (rec77 : Nat → Int32 → Int32 → mh → Option mh) (rec98 : Nat → Int32 → Int32 → Int32 → Int32 → mh → Option mh) (x0 : Nat) (x2 : Int32) (x3 : Int32) (x4 : Int32) (x5 : Int32) (x6 : Int32) (x7 : Int32) (s0 : Int32) (s1 : Int32) (s2 : Nat) (h : mh) : Option mh :=
  if x7 ≤ x6 then (
    fxX7_knows_180 N rec77 rec98 x0 x2 x3 x4 x5 x6 s0 s1 s2 h) else (
    fxX7_knows_180 N rec77 rec98 x0 x2 x3 x4 x5 x7 s0 s1 s2 h)
set_option maxHeartbeats 4000000 in
set_option maxRecDepth 100000 in
theorem exX7_knows_166 {N : Nat} {rec77 : Nat → Int32 → Int32 → mh → Option mh} {rec98 : Nat → Int32 → Int32 → Int32 → Int32 → mh → Option mh} (hrec77 : ∀ (x0 : Nat) (x2 : Int32) (x3 : Int32) (h : mh) {o : mh}, rec77 x0 x2 x3 h = some o → mB (gO mX7_knows (o, none)) mX7_knows (77, [(0, .ref x0), (2, .int x2), (3, .int x3)], [], h, 0, 0)) (hrec98 : ∀ (x0 : Nat) (x2 : Int32) (x3 : Int32) (x4 : Int32) (x5 : Int32) (h : mh) {o : mh}, rec98 x0 x2 x3 x4 x5 h = some o → mB (gO mX7_knows (o, none)) mX7_knows (98, [(0, .ref x0), (2, .int x2), (3, .int x3), (4, .int x4), (5, .int x5)], [], h, 0, 0)) (x0 : Nat) (x2 : Int32) (x3 : Int32) (x4 : Int32) (x5 : Int32) (x6 : Int32) (x7 : Int32) (s0 : Int32) (s1 : Int32) (s2 : Nat) (h : mh) {o : mh} (hq : fxX7_knows_166 N rec77 rec98 x0 x2 x3 x4 x5 x6 x7 s0 s1 s2 h = some o) : mB (gO mX7_knows (o, none)) mX7_knows (166, [(0, .ref x0), (2, .int x2), (3, .int x3), (4, .int x4), (5, .int x5), (6, .int x6), (7, .int x7)], [.int s0, .int s1, .ref s2], h, 0, 0) := by
  unfold fxX7_knows_166 at hq
  refine mB_run odX7_knows 2 (g := (170, [(0, .ref x0), (2, .int x2), (3, .int x3), (4, .int x4), (5, .int x5), (6, .int x6), (7, .int x7)], [.int x7, .int x6, .int s0, .int s1, .ref s2], h, 0, 0)) rfl ?_
  by_cases c62 : x7 ≤ x6
  · rw [if_pos c62] at hq
    refine ic_ge_T (t := 178) odX7_knows rfl rfl c62 ?_
    refine mB_run odX7_knows 1 (g := (180, [(0, .ref x0), (2, .int x2), (3, .int x3), (4, .int x4), (5, .int x5), (6, .int x6), (7, .int x7)], [.int x6, .int s0, .int s1, .ref s2], h, 0, 0)) rfl ?_
    refine mB_lv [0, 1, 2, 3, 4] (lv' := [(0, .ref x0), (2, .int x2), (3, .int x3), (4, .int x4), (5, .int x5)]) rfl ?_
    exact exX7_knows_180 hrec77 hrec98 _ _ _ _ _ _ _ _ _ _ hq
  · rw [if_neg c62] at hq
    refine ic_ge_F (t := 178) odX7_knows rfl rfl c62 ?_
    refine mB_run odX7_knows 2 (g := (180, [(0, .ref x0), (2, .int x2), (3, .int x3), (4, .int x4), (5, .int x5), (6, .int x6), (7, .int x7)], [.int x7, .int s0, .int s1, .ref s2], h, 0, 0)) rfl ?_
    refine mB_lv [0, 1, 2, 3, 4] (lv' := [(0, .ref x0), (2, .int x2), (3, .int x3), (4, .int x4), (5, .int x5)]) rfl ?_
    exact exX7_knows_180 hrec77 hrec98 _ _ _ _ _ _ _ _ _ _ hq
def fxX7_knows_98 (N : Nat) (rec77 : Nat → Int32 → Int32 → mh → Option mh) : Nat → Nat → Int32 → Int32 → Int32 → Int32 → mh → Option mh
  | 0, _, _, _, _, _, _ => none
  | n + 1, x0, x2, x3, x4, x5, h =>
    (gR h x0 7 32).bind fun v43 =>
    (aI h v43 x4).bind fun v45 =>
    if v45 ≤ x5 then (
      rec77 x0 x2 (x3 + (1 : Int32)) h) else (
      (gR h x0 7 33).bind fun v48 =>
      (aI h v48 (((25 : Int32) * x4) + x5)).bind fun v50 =>
      (gR h x0 7 33).bind fun v52 =>
      (gR h x0 7 32).bind fun v54 =>
      (aI h v54 x4).bind fun v56 =>
      if v56 = 0 then none else
      (aI h v52 (((25 : Int32) * x4) + ((x5 + (1 : Int32)) - (x5 + (1 : Int32)) / v56 * v56))).bind fun v59 =>
      if v59 ≤ v50 then (
        fxX7_knows_166 N rec77 (fxX7_knows_98 N rec77 n) x0 x2 x3 x4 x5 v50 v59 v59 x2 x0 h) else (
        fxX7_knows_166 N rec77 (fxX7_knows_98 N rec77 n) x0 x2 x3 x4 x5 v50 v59 v50 x2 x0 h))
set_option maxHeartbeats 4000000 in
set_option maxRecDepth 100000 in
theorem exX7_knows_98 {N : Nat} {rec77 : Nat → Int32 → Int32 → mh → Option mh} (hrec77 : ∀ (x0 : Nat) (x2 : Int32) (x3 : Int32) (h : mh) {o : mh}, rec77 x0 x2 x3 h = some o → mB (gO mX7_knows (o, none)) mX7_knows (77, [(0, .ref x0), (2, .int x2), (3, .int x3)], [], h, 0, 0)) : ∀ (n : Nat) (x0 : Nat) (x2 : Int32) (x3 : Int32) (x4 : Int32) (x5 : Int32) (h : mh) {o : mh}, fxX7_knows_98 N rec77 n x0 x2 x3 x4 x5 h = some o → mB (gO mX7_knows (o, none)) mX7_knows (98, [(0, .ref x0), (2, .int x2), (3, .int x3), (4, .int x4), (5, .int x5)], [], h, 0, 0) := by
  intro n
  induction n with
  | zero => intro x0 x2 x3 x4 x5 h o hq; cases hq
  | succ n ih =>
    intro x0 x2 x3 x4 x5 h o hq
    unfold fxX7_knows_98 at hq
    refine mB_run odX7_knows 2 (g := (101, [(0, .ref x0), (2, .int x2), (3, .int x3), (4, .int x4), (5, .int x5)], [.ref x0, .int x5], h, 0, 0)) rfl ?_
    obtain ⟨v43, e44, hq⟩ := bsm hq
    refine r_gR odX7_knows rfl rfl e44 ?_
    refine mB_run odX7_knows 1 (g := (106, [(0, .ref x0), (2, .int x2), (3, .int x3), (4, .int x4), (5, .int x5)], [.int x4, .ref v43, .int x5], h, 0, 0)) rfl ?_
    obtain ⟨v45, e46, hq⟩ := bsm hq
    refine r_aI odX7_knows rfl e46 ?_
    by_cases c47 : v45 ≤ x5
    · rw [if_pos c47] at hq
      refine ic_ge_T (t := 190) odX7_knows rfl rfl c47 ?_
      refine mB_run odX7_knows 2 (g := (77, [(3, .int (x3 + (1 : Int32))), (0, .ref x0), (2, .int x2), (4, .int x4), (5, .int x5)], [], h, 0, 0)) rfl ?_
      refine mB_lv [1, 2, 0] (lv' := [(0, .ref x0), (2, .int x2), (3, .int (x3 + (1 : Int32)))]) rfl ?_
      exact hrec77 _ _ _ _ hq
    · rw [if_neg c47] at hq
      refine ic_ge_F (t := 190) odX7_knows rfl rfl c47 ?_
      refine mB_run odX7_knows 1 (g := (111, [(0, .ref x0), (2, .int x2), (3, .int x3), (4, .int x4), (5, .int x5)], [.ref x0], h, 0, 0)) rfl ?_
      obtain ⟨v48, e49, hq⟩ := bsm hq
      refine r_gR odX7_knows rfl rfl e49 ?_
      refine mB_run odX7_knows 5 (g := (122, [(0, .ref x0), (2, .int x2), (3, .int x3), (4, .int x4), (5, .int x5)], [.int (((25 : Int32) * x4) + x5), .ref v48], h, 0, 0)) rfl ?_
      obtain ⟨v50, e51, hq⟩ := bsm hq
      refine r_aI odX7_knows rfl e51 ?_
      refine mB_run odX7_knows 2 (g := (126, [(6, .int v50), (0, .ref x0), (2, .int x2), (3, .int x3), (4, .int x4), (5, .int x5)], [.ref x0], h, 0, 0)) rfl ?_
      obtain ⟨v52, e53, hq⟩ := bsm hq
      refine r_gR odX7_knows rfl rfl e53 ?_
      refine mB_run odX7_knows 7 (g := (139, [(6, .int v50), (0, .ref x0), (2, .int x2), (3, .int x3), (4, .int x4), (5, .int x5)], [.ref x0, .int (x5 + (1 : Int32)), .int ((25 : Int32) * x4), .ref v52], h, 0, 0)) rfl ?_
      obtain ⟨v54, e55, hq⟩ := bsm hq
      refine r_gR odX7_knows rfl rfl e55 ?_
      refine mB_run odX7_knows 1 (g := (144, [(6, .int v50), (0, .ref x0), (2, .int x2), (3, .int x3), (4, .int x4), (5, .int x5)], [.int x4, .ref v54, .int (x5 + (1 : Int32)), .int ((25 : Int32) * x4), .ref v52], h, 0, 0)) rfl ?_
      obtain ⟨v56, e57, hq⟩ := bsm hq
      refine r_aI odX7_knows rfl e57 ?_
      by_cases c58 : v56 = 0
      · rw [if_pos c58] at hq; cases hq
      rw [if_neg c58] at hq
      refine r_irem odX7_knows rfl c58 ?_
      refine mB_run odX7_knows 1 (g := (147, [(6, .int v50), (0, .ref x0), (2, .int x2), (3, .int x3), (4, .int x4), (5, .int x5)], [.int (((25 : Int32) * x4) + ((x5 + (1 : Int32)) - (x5 + (1 : Int32)) / v56 * v56)), .ref v52], h, 0, 0)) rfl ?_
      obtain ⟨v59, e60, hq⟩ := bsm hq
      refine r_aI odX7_knows rfl e60 ?_
      refine mB_run odX7_knows 5 (g := (156, [(7, .int v59), (6, .int v50), (0, .ref x0), (2, .int x2), (3, .int x3), (4, .int x4), (5, .int x5)], [.int v59, .int v50, .int x2, .ref x0], h, 0, 0)) rfl ?_
      by_cases c61 : v59 ≤ v50
      · rw [if_pos c61] at hq
        refine ic_ge_T (t := 164) odX7_knows rfl rfl c61 ?_
        refine mB_run odX7_knows 1 (g := (166, [(7, .int v59), (6, .int v50), (0, .ref x0), (2, .int x2), (3, .int x3), (4, .int x4), (5, .int x5)], [.int v59, .int x2, .ref x0], h, 0, 0)) rfl ?_
        refine mB_lv [2, 3, 4, 5, 6, 1, 0] (lv' := [(0, .ref x0), (2, .int x2), (3, .int x3), (4, .int x4), (5, .int x5), (6, .int v50), (7, .int v59)]) rfl ?_
        exact exX7_knows_166 hrec77 ih _ _ _ _ _ _ _ _ _ _ _ hq
      · rw [if_neg c61] at hq
        refine ic_ge_F (t := 164) odX7_knows rfl rfl c61 ?_
        refine mB_run odX7_knows 2 (g := (166, [(7, .int v59), (6, .int v50), (0, .ref x0), (2, .int x2), (3, .int x3), (4, .int x4), (5, .int x5)], [.int v50, .int x2, .ref x0], h, 0, 0)) rfl ?_
        refine mB_lv [2, 3, 4, 5, 6, 1, 0] (lv' := [(0, .ref x0), (2, .int x2), (3, .int x3), (4, .int x4), (5, .int x5), (6, .int v50), (7, .int v59)]) rfl ?_
        exact exX7_knows_166 hrec77 ih _ _ _ _ _ _ _ _ _ _ _ hq
def fxX7_knows_77 (N : Nat) : Nat → Nat → Int32 → Int32 → mh → Option mh
  | 0, _, _, _, _ => none
  | n + 1, x0, x2, x3, h =>
    (gR h x0 7 27).bind fun v38 =>
    (aI h v38 x2).bind fun v40 =>
    if v40 ≤ x3 then (
      some h) else (
      fxX7_knows_98 N (fxX7_knows_77 N n) N x0 x2 x3 (((64 : Int32) * x2) + x3) (0 : Int32) h)
set_option maxHeartbeats 4000000 in
set_option maxRecDepth 100000 in
theorem exX7_knows_77 {N : Nat} : ∀ (n : Nat) (x0 : Nat) (x2 : Int32) (x3 : Int32) (h : mh) {o : mh}, fxX7_knows_77 N n x0 x2 x3 h = some o → mB (gO mX7_knows (o, none)) mX7_knows (77, [(0, .ref x0), (2, .int x2), (3, .int x3)], [], h, 0, 0) := by
  intro n
  induction n with
  | zero => intro x0 x2 x3 h o hq; cases hq
  | succ n ih =>
    intro x0 x2 x3 h o hq
    unfold fxX7_knows_77 at hq
    refine mB_run odX7_knows 2 (g := (79, [(0, .ref x0), (2, .int x2), (3, .int x3)], [.ref x0, .int x3], h, 0, 0)) rfl ?_
    obtain ⟨v38, e39, hq⟩ := bsm hq
    refine r_gR odX7_knows rfl rfl e39 ?_
    refine mB_run odX7_knows 1 (g := (83, [(0, .ref x0), (2, .int x2), (3, .int x3)], [.int x2, .ref v38, .int x3], h, 0, 0)) rfl ?_
    obtain ⟨v40, e41, hq⟩ := bsm hq
    refine r_aI odX7_knows rfl e41 ?_
    by_cases c42 : v40 ≤ x3
    · rw [if_pos c42] at hq
      refine ic_ge_T (t := 196) odX7_knows rfl rfl c42 ?_
      cases hq
      exact mB_ret odX7_knows rfl
    · rw [if_neg c42] at hq
      refine ic_ge_F (t := 196) odX7_knows rfl rfl c42 ?_
      refine mB_run odX7_knows 8 (g := (98, [(5, .int (0 : Int32)), (4, .int (((64 : Int32) * x2) + x3)), (0, .ref x0), (2, .int x2), (3, .int x3)], [], h, 0, 0)) rfl ?_
      refine mB_lv [2, 3, 4, 1, 0] (lv' := [(0, .ref x0), (2, .int x2), (3, .int x3), (4, .int (((64 : Int32) * x2) + x3)), (5, .int (0 : Int32))]) rfl ?_
      exact exX7_knows_98 ih N _ _ _ _ _ _ hq
def fxX7_knows_75 (N : Nat) (x0 : Nat) (x2 : Int32) (h : mh) : Option mh :=
  fxX7_knows_77 N N x0 x2 (0 : Int32) h
set_option maxHeartbeats 4000000 in
set_option maxRecDepth 100000 in
theorem exX7_knows_75 {N : Nat} (x0 : Nat) (x2 : Int32) (h : mh) {o : mh} (hq : fxX7_knows_75 N x0 x2 h = some o) : mB (gO mX7_knows (o, none)) mX7_knows (75, [(0, .ref x0), (2, .int x2)], [], h, 0, 0) := by
  unfold fxX7_knows_75 at hq
  refine mB_run odX7_knows 2 (g := (77, [(3, .int (0 : Int32)), (0, .ref x0), (2, .int x2)], [], h, 0, 0)) rfl ?_
  refine mB_lv [1, 2, 0] (lv' := [(0, .ref x0), (2, .int x2), (3, .int (0 : Int32))]) rfl ?_
  exact exX7_knows_77 N _ _ _ _ hq
def fxX7_knows (N : Nat) (p0 : Nat) (p1 : Int32) (p2 : Int32) (h : mh) : Option mh :=
  (kO h p0 7).bind fun f3 =>
  (fxX7_loads N p0 p1 h).bind fun o1 =>
  (kO o1 p0 7).bind fun f7 =>
  (fxX7_hulls N p0 p2 o1).bind fun o5 =>
  (gR o5.1 p0 7 34).bind fun v9 =>
  (wI o5.1 v9 p2 (0 : Int32)).bind fun h11 =>
  (gR h11 p0 7 5).bind fun v13 =>
  (aI h11 v13 p1).bind fun v15 =>
  if v15 = (2 : Int32) then (
    (gR h11 p0 7 35).bind fun v18 =>
    (wI h11 v18 ((80 : Int32) * p2) (0 : Int32)).bind fun h20 =>
    (gR h20 p0 7 36).bind fun v22 =>
    (wI h20 v22 ((80 : Int32) * p2) (1 : Int32)).bind fun h24 =>
    (gR h24 p0 7 37).bind fun v26 =>
    (wI h24 v26 ((80 : Int32) * p2) (-1 : Int32)).bind fun h28 =>
    (gR h28 p0 7 38).bind fun v30 =>
    (wI h28 v30 ((80 : Int32) * p2) (-1 : Int32)).bind fun h32 =>
    (gR h32 p0 7 34).bind fun v34 =>
    (wI h32 v34 p2 (1 : Int32)).bind fun h36 =>
    fxX7_knows_75 N p0 p2 h36) else (
    fxX7_knows_75 N p0 p2 h11)
set_option maxHeartbeats 4000000 in
set_option maxRecDepth 100000 in
theorem exX7_knows {N : Nat} {p0 : Nat} {p1 : Int32} {p2 : Int32} {h : mh} {o : mh} (hq : fxX7_knows N p0 p1 p2 h = some o) : mC mX7_knows [.ref p0, .int p1, .int p2] h (o, none) := by
  refine mC_of okX7_knows (Nat.le_of_ble_eq_true rfl) ?_
  unfold fxX7_knows at hq
  show mB _ mX7_knows (0, [(0, .ref p0), (1, .int p1), (2, .int p2)], [], h, 0, 0)
  refine mB_run odX7_knows 2 (g := (2, [(0, .ref p0), (1, .int p1), (2, .int p2)], [.int p1, .ref p0], h, 0, 0)) rfl ?_
  obtain ⟨f3, k4, hq⟩ := bsm hq
  obtain ⟨o1, e2, hq⟩ := bsm hq
  refine mB_V (as := [.int p1]) odX7_knows okX7_loads lk_7_226 rfl (exX7_loads e2) (kO_at k4) rfl rfl rfl ?_
  show mB _ mX7_knows (5, [(0, .ref p0), (1, .int p1), (2, .int p2)], [], o1, 0, 0)
  refine mB_run odX7_knows 2 (g := (7, [(0, .ref p0), (1, .int p1), (2, .int p2)], [.int p2, .ref p0], o1, 0, 0)) rfl ?_
  obtain ⟨f7, k8, hq⟩ := bsm hq
  obtain ⟨o5, e6, hq⟩ := bsm hq
  refine mB_V (as := [.int p2]) odX7_knows okX7_hulls lk_7_229 rfl (exX7_hulls e6) (kO_at k8) rfl rfl rfl ?_
  show mB _ mX7_knows (10, [(0, .ref p0), (1, .int p1), (2, .int p2)], [.int o5.2], o5.1, 0, 0)
  refine mB_run odX7_knows 2 (g := (12, [(0, .ref p0), (1, .int p1), (2, .int p2)], [.ref p0], o5.1, 0, 0)) rfl ?_
  obtain ⟨v9, e10, hq⟩ := bsm hq
  refine r_gR odX7_knows rfl rfl e10 ?_
  refine mB_run odX7_knows 2 (g := (17, [(0, .ref p0), (1, .int p1), (2, .int p2)], [.int (0 : Int32), .int p2, .ref v9], o5.1, 0, 0)) rfl ?_
  obtain ⟨h11, e12, hq⟩ := bsm hq
  refine r_wI odX7_knows rfl e12 ?_
  refine mB_run odX7_knows 1 (g := (19, [(0, .ref p0), (1, .int p1), (2, .int p2)], [.ref p0], h11, 0, 0)) rfl ?_
  obtain ⟨v13, e14, hq⟩ := bsm hq
  refine r_gR odX7_knows rfl rfl e14 ?_
  refine mB_run odX7_knows 1 (g := (23, [(0, .ref p0), (1, .int p1), (2, .int p2)], [.int p1, .ref v13], h11, 0, 0)) rfl ?_
  obtain ⟨v15, e16, hq⟩ := bsm hq
  refine r_aI odX7_knows rfl e16 ?_
  refine mB_run odX7_knows 1 (g := (25, [(0, .ref p0), (1, .int p1), (2, .int p2)], [.int (2 : Int32), .int v15], h11, 0, 0)) rfl ?_
  by_cases c17 : v15 = (2 : Int32)
  · rw [if_pos c17] at hq
    refine ic_ne_F (t := 75) odX7_knows rfl rfl c17 ?_
    refine mB_run odX7_knows 1 (g := (29, [(0, .ref p0), (1, .int p1), (2, .int p2)], [.ref p0], h11, 0, 0)) rfl ?_
    obtain ⟨v18, e19, hq⟩ := bsm hq
    refine r_gR odX7_knows rfl rfl e19 ?_
    refine mB_run odX7_knows 4 (g := (37, [(0, .ref p0), (1, .int p1), (2, .int p2)], [.int (0 : Int32), .int ((80 : Int32) * p2), .ref v18], h11, 0, 0)) rfl ?_
    obtain ⟨h20, e21, hq⟩ := bsm hq
    refine r_wI odX7_knows rfl e21 ?_
    refine mB_run odX7_knows 1 (g := (39, [(0, .ref p0), (1, .int p1), (2, .int p2)], [.ref p0], h20, 0, 0)) rfl ?_
    obtain ⟨v22, e23, hq⟩ := bsm hq
    refine r_gR odX7_knows rfl rfl e23 ?_
    refine mB_run odX7_knows 4 (g := (47, [(0, .ref p0), (1, .int p1), (2, .int p2)], [.int (1 : Int32), .int ((80 : Int32) * p2), .ref v22], h20, 0, 0)) rfl ?_
    obtain ⟨h24, e25, hq⟩ := bsm hq
    refine r_wI odX7_knows rfl e25 ?_
    refine mB_run odX7_knows 1 (g := (49, [(0, .ref p0), (1, .int p1), (2, .int p2)], [.ref p0], h24, 0, 0)) rfl ?_
    obtain ⟨v26, e27, hq⟩ := bsm hq
    refine r_gR odX7_knows rfl rfl e27 ?_
    refine mB_run odX7_knows 4 (g := (57, [(0, .ref p0), (1, .int p1), (2, .int p2)], [.int (-1 : Int32), .int ((80 : Int32) * p2), .ref v26], h24, 0, 0)) rfl ?_
    obtain ⟨h28, e29, hq⟩ := bsm hq
    refine r_wI odX7_knows rfl e29 ?_
    refine mB_run odX7_knows 1 (g := (59, [(0, .ref p0), (1, .int p1), (2, .int p2)], [.ref p0], h28, 0, 0)) rfl ?_
    obtain ⟨v30, e31, hq⟩ := bsm hq
    refine r_gR odX7_knows rfl rfl e31 ?_
    refine mB_run odX7_knows 4 (g := (67, [(0, .ref p0), (1, .int p1), (2, .int p2)], [.int (-1 : Int32), .int ((80 : Int32) * p2), .ref v30], h28, 0, 0)) rfl ?_
    obtain ⟨h32, e33, hq⟩ := bsm hq
    refine r_wI odX7_knows rfl e33 ?_
    refine mB_run odX7_knows 1 (g := (69, [(0, .ref p0), (1, .int p1), (2, .int p2)], [.ref p0], h32, 0, 0)) rfl ?_
    obtain ⟨v34, e35, hq⟩ := bsm hq
    refine r_gR odX7_knows rfl rfl e35 ?_
    refine mB_run odX7_knows 2 (g := (74, [(0, .ref p0), (1, .int p1), (2, .int p2)], [.int (1 : Int32), .int p2, .ref v34], h32, 0, 0)) rfl ?_
    obtain ⟨h36, e37, hq⟩ := bsm hq
    refine r_wI odX7_knows rfl e37 ?_
    refine mB_lv [0, 2] (lv' := [(0, .ref p0), (2, .int p2)]) rfl ?_
    exact exX7_knows_75 _ _ _ hq
  · rw [if_neg c17] at hq
    refine ic_ne_T (t := 75) odX7_knows rfl rfl c17 ?_
    refine mB_lv [0, 2] (lv' := [(0, .ref p0), (2, .int p2)]) rfl ?_
    exact exX7_knows_75 _ _ _ hq
def fxX7_becomes_65 (N : Nat) (rec5 : Nat → Int32 → Int32 → Int32 → Int32 → mh → Option (mh × Int32)) (x0 : Nat) (x1 : Int32) (x2 : Int32) (x3 : Int32) (x4 : Int32) (h : mh) : Option (mh × Int32) :=
  rec5 x0 x1 x2 x3 (x4 + (1 : Int32)) h
set_option maxHeartbeats 4000000 in
set_option maxRecDepth 100000 in
theorem exX7_becomes_65 {N : Nat} {rec5 : Nat → Int32 → Int32 → Int32 → Int32 → mh → Option (mh × Int32)} (hrec5 : ∀ (x0 : Nat) (x1 : Int32) (x2 : Int32) (x3 : Int32) (x4 : Int32) (h : mh) {o : (mh × Int32)}, rec5 x0 x1 x2 x3 x4 h = some o → mB (gO mX7_becomes (o.1, some (.int o.2))) mX7_becomes (5, [(0, .ref x0), (1, .int x1), (2, .int x2), (3, .int x3), (4, .int x4)], [], h, 0, 0)) (x0 : Nat) (x1 : Int32) (x2 : Int32) (x3 : Int32) (x4 : Int32) (h : mh) {o : (mh × Int32)} (hq : fxX7_becomes_65 N rec5 x0 x1 x2 x3 x4 h = some o) : mB (gO mX7_becomes (o.1, some (.int o.2))) mX7_becomes (65, [(0, .ref x0), (1, .int x1), (2, .int x2), (3, .int x3), (4, .int x4)], [], h, 0, 0) := by
  unfold fxX7_becomes_65 at hq
  refine mB_run odX7_becomes 2 (g := (5, [(4, .int (x4 + (1 : Int32))), (0, .ref x0), (1, .int x1), (2, .int x2), (3, .int x3)], [], h, 0, 0)) rfl ?_
  refine mB_lv [1, 2, 3, 4, 0] (lv' := [(0, .ref x0), (1, .int x1), (2, .int x2), (3, .int x3), (4, .int (x4 + (1 : Int32)))]) rfl ?_
  exact hrec5 _ _ _ _ _ _ hq
def fxX7_becomes_162 (N : Nat) (rec80 : Nat → Int32 → Int32 → Int32 → Int32 → mh → Option (mh × Int32)) (x0 : Nat) (x1 : Int32) (x2 : Int32) (x3 : Int32) (x4 : Int32) (h : mh) : Option (mh × Int32) :=
  rec80 x0 x1 x2 x3 (x4 + (1 : Int32)) h
set_option maxHeartbeats 4000000 in
set_option maxRecDepth 100000 in
theorem exX7_becomes_162 {N : Nat} {rec80 : Nat → Int32 → Int32 → Int32 → Int32 → mh → Option (mh × Int32)} (hrec80 : ∀ (x0 : Nat) (x1 : Int32) (x2 : Int32) (x3 : Int32) (x4 : Int32) (h : mh) {o : (mh × Int32)}, rec80 x0 x1 x2 x3 x4 h = some o → mB (gO mX7_becomes (o.1, some (.int o.2))) mX7_becomes (80, [(0, .ref x0), (1, .int x1), (2, .int x2), (3, .int x3), (4, .int x4)], [], h, 0, 0)) (x0 : Nat) (x1 : Int32) (x2 : Int32) (x3 : Int32) (x4 : Int32) (h : mh) {o : (mh × Int32)} (hq : fxX7_becomes_162 N rec80 x0 x1 x2 x3 x4 h = some o) : mB (gO mX7_becomes (o.1, some (.int o.2))) mX7_becomes (162, [(0, .ref x0), (1, .int x1), (2, .int x2), (3, .int x3), (4, .int x4)], [], h, 0, 0) := by
  unfold fxX7_becomes_162 at hq
  refine mB_run odX7_becomes 2 (g := (80, [(4, .int (x4 + (1 : Int32))), (0, .ref x0), (1, .int x1), (2, .int x2), (3, .int x3)], [], h, 0, 0)) rfl ?_
  refine mB_lv [1, 2, 3, 4, 0] (lv' := [(0, .ref x0), (1, .int x1), (2, .int x2), (3, .int x3), (4, .int (x4 + (1 : Int32)))]) rfl ?_
  exact hrec80 _ _ _ _ _ _ hq
def fxX7_becomes_80 (N : Nat) : Nat → Nat → Int32 → Int32 → Int32 → Int32 → mh → Option (mh × Int32)
  | 0, _, _, _, _, _, _ => none
  | n + 1, x0, x1, x2, x3, x4, h =>
    (gI h x0 7 15).bind fun v29 =>
    if v29 ≤ x4 then (
      (gR h x0 7 4).bind fun v32 =>
      (wI h v32 x1 x3).bind fun h34 =>
      (gR h34 x0 7 5).bind fun v36 =>
      (wI h34 v36 x1 x2).bind fun h38 =>
      some (h38, (1 : Int32))) else (
      (gR h x0 7 19).bind fun v40 =>
      (aZ h v40 x4).bind fun v42 =>
      if v42 = 0 then (
        fxX7_becomes_162 N (fxX7_becomes_80 N n) x0 x1 x2 x3 x4 h) else (
        (gR h x0 7 6).bind fun v45 =>
        (gR h x0 7 16).bind fun v47 =>
        (aJ h v47 x4).bind fun v49 =>
        (wI h v45 (((24 : Int32) * x1) + x3) v49.toInt32).bind fun h51 =>
        (gR h51 x0 7 7).bind fun v53 =>
        (gR h51 x0 7 17).bind fun v55 =>
        (aJ h51 v55 x4).bind fun v57 =>
        (wI h51 v53 (((24 : Int32) * x1) + x3) v57.toInt32).bind fun h59 =>
        (gR h59 x0 7 8).bind fun v61 =>
        (gR h59 x0 7 18).bind fun v63 =>
        (aJ h59 v63 x4).bind fun v65 =>
        (wI h59 v61 (((24 : Int32) * x1) + x3) v65.toInt32).bind fun h67 =>
        fxX7_becomes_162 N (fxX7_becomes_80 N n) x0 x1 x2 (x3 + (1 : Int32)) x4 h67))
set_option maxHeartbeats 4000000 in
set_option maxRecDepth 100000 in
theorem exX7_becomes_80 {N : Nat} : ∀ (n : Nat) (x0 : Nat) (x1 : Int32) (x2 : Int32) (x3 : Int32) (x4 : Int32) (h : mh) {o : (mh × Int32)}, fxX7_becomes_80 N n x0 x1 x2 x3 x4 h = some o → mB (gO mX7_becomes (o.1, some (.int o.2))) mX7_becomes (80, [(0, .ref x0), (1, .int x1), (2, .int x2), (3, .int x3), (4, .int x4)], [], h, 0, 0) := by
  intro n
  induction n with
  | zero => intro x0 x1 x2 x3 x4 h o hq; cases hq
  | succ n ih =>
    intro x0 x1 x2 x3 x4 h o hq
    unfold fxX7_becomes_80 at hq
    refine mB_run odX7_becomes 2 (g := (83, [(0, .ref x0), (1, .int x1), (2, .int x2), (3, .int x3), (4, .int x4)], [.ref x0, .int x4], h, 0, 0)) rfl ?_
    obtain ⟨v29, e30, hq⟩ := bsm hq
    refine r_gI odX7_becomes rfl rfl e30 ?_
    by_cases c31 : v29 ≤ x4
    · rw [if_pos c31] at hq
      refine ic_ge_T (t := 168) odX7_becomes rfl rfl c31 ?_
      refine mB_run odX7_becomes 1 (g := (169, [(0, .ref x0), (1, .int x1), (2, .int x2), (3, .int x3), (4, .int x4)], [.ref x0], h, 0, 0)) rfl ?_
      obtain ⟨v32, e33, hq⟩ := bsm hq
      refine r_gR odX7_becomes rfl rfl e33 ?_
      refine mB_run odX7_becomes 2 (g := (174, [(0, .ref x0), (1, .int x1), (2, .int x2), (3, .int x3), (4, .int x4)], [.int x3, .int x1, .ref v32], h, 0, 0)) rfl ?_
      obtain ⟨h34, e35, hq⟩ := bsm hq
      refine r_wI odX7_becomes rfl e35 ?_
      refine mB_run odX7_becomes 1 (g := (176, [(0, .ref x0), (1, .int x1), (2, .int x2), (3, .int x3), (4, .int x4)], [.ref x0], h34, 0, 0)) rfl ?_
      obtain ⟨v36, e37, hq⟩ := bsm hq
      refine r_gR odX7_becomes rfl rfl e37 ?_
      refine mB_run odX7_becomes 2 (g := (181, [(0, .ref x0), (1, .int x1), (2, .int x2), (3, .int x3), (4, .int x4)], [.int x2, .int x1, .ref v36], h34, 0, 0)) rfl ?_
      obtain ⟨h38, e39, hq⟩ := bsm hq
      refine r_wI odX7_becomes rfl e39 ?_
      refine mB_run odX7_becomes 1 (g := (183, [(0, .ref x0), (1, .int x1), (2, .int x2), (3, .int x3), (4, .int x4)], [.int (1 : Int32)], h38, 0, 0)) rfl ?_
      cases hq
      exact mB_ret odX7_becomes rfl
    · rw [if_neg c31] at hq
      refine ic_ge_F (t := 168) odX7_becomes rfl rfl c31 ?_
      refine mB_run odX7_becomes 1 (g := (90, [(0, .ref x0), (1, .int x1), (2, .int x2), (3, .int x3), (4, .int x4)], [.ref x0], h, 0, 0)) rfl ?_
      obtain ⟨v40, e41, hq⟩ := bsm hq
      refine r_gR odX7_becomes rfl rfl e41 ?_
      refine mB_run odX7_becomes 1 (g := (95, [(0, .ref x0), (1, .int x1), (2, .int x2), (3, .int x3), (4, .int x4)], [.int x4, .ref v40], h, 0, 0)) rfl ?_
      obtain ⟨v42, e43, hq⟩ := bsm hq
      refine r_aZ odX7_becomes rfl e43 ?_
      by_cases c44 : v42 = 0
      · rw [if_pos c44] at hq
        refine if_ne_F (t := 102) odX7_becomes rfl rfl c44 ?_
        refine mB_run odX7_becomes 1 (g := (162, [(0, .ref x0), (1, .int x1), (2, .int x2), (3, .int x3), (4, .int x4)], [], h, 0, 0)) rfl ?_
        refine mB_lv [0, 1, 2, 3, 4] (lv' := [(0, .ref x0), (1, .int x1), (2, .int x2), (3, .int x3), (4, .int x4)]) rfl ?_
        exact exX7_becomes_162 ih _ _ _ _ _ _ hq
      · rw [if_neg c44] at hq
        refine if_ne_T (t := 102) odX7_becomes rfl rfl c44 ?_
        refine mB_run odX7_becomes 1 (g := (103, [(0, .ref x0), (1, .int x1), (2, .int x2), (3, .int x3), (4, .int x4)], [.ref x0], h, 0, 0)) rfl ?_
        obtain ⟨v45, e46, hq⟩ := bsm hq
        refine r_gR odX7_becomes rfl rfl e46 ?_
        refine mB_run odX7_becomes 6 (g := (113, [(0, .ref x0), (1, .int x1), (2, .int x2), (3, .int x3), (4, .int x4)], [.ref x0, .int (((24 : Int32) * x1) + x3), .ref v45], h, 0, 0)) rfl ?_
        obtain ⟨v47, e48, hq⟩ := bsm hq
        refine r_gR odX7_becomes rfl rfl e48 ?_
        refine mB_run odX7_becomes 1 (g := (118, [(0, .ref x0), (1, .int x1), (2, .int x2), (3, .int x3), (4, .int x4)], [.int x4, .ref v47, .int (((24 : Int32) * x1) + x3), .ref v45], h, 0, 0)) rfl ?_
        obtain ⟨v49, e50, hq⟩ := bsm hq
        refine r_aJ odX7_becomes rfl e50 ?_
        refine mB_run odX7_becomes 1 (g := (120, [(0, .ref x0), (1, .int x1), (2, .int x2), (3, .int x3), (4, .int x4)], [.int v49.toInt32, .int (((24 : Int32) * x1) + x3), .ref v45], h, 0, 0)) rfl ?_
        obtain ⟨h51, e52, hq⟩ := bsm hq
        refine r_wI odX7_becomes rfl e52 ?_
        refine mB_run odX7_becomes 1 (g := (122, [(0, .ref x0), (1, .int x1), (2, .int x2), (3, .int x3), (4, .int x4)], [.ref x0], h51, 0, 0)) rfl ?_
        obtain ⟨v53, e54, hq⟩ := bsm hq
        refine r_gR odX7_becomes rfl rfl e54 ?_
        refine mB_run odX7_becomes 6 (g := (132, [(0, .ref x0), (1, .int x1), (2, .int x2), (3, .int x3), (4, .int x4)], [.ref x0, .int (((24 : Int32) * x1) + x3), .ref v53], h51, 0, 0)) rfl ?_
        obtain ⟨v55, e56, hq⟩ := bsm hq
        refine r_gR odX7_becomes rfl rfl e56 ?_
        refine mB_run odX7_becomes 1 (g := (137, [(0, .ref x0), (1, .int x1), (2, .int x2), (3, .int x3), (4, .int x4)], [.int x4, .ref v55, .int (((24 : Int32) * x1) + x3), .ref v53], h51, 0, 0)) rfl ?_
        obtain ⟨v57, e58, hq⟩ := bsm hq
        refine r_aJ odX7_becomes rfl e58 ?_
        refine mB_run odX7_becomes 1 (g := (139, [(0, .ref x0), (1, .int x1), (2, .int x2), (3, .int x3), (4, .int x4)], [.int v57.toInt32, .int (((24 : Int32) * x1) + x3), .ref v53], h51, 0, 0)) rfl ?_
        obtain ⟨h59, e60, hq⟩ := bsm hq
        refine r_wI odX7_becomes rfl e60 ?_
        refine mB_run odX7_becomes 1 (g := (141, [(0, .ref x0), (1, .int x1), (2, .int x2), (3, .int x3), (4, .int x4)], [.ref x0], h59, 0, 0)) rfl ?_
        obtain ⟨v61, e62, hq⟩ := bsm hq
        refine r_gR odX7_becomes rfl rfl e62 ?_
        refine mB_run odX7_becomes 6 (g := (151, [(0, .ref x0), (1, .int x1), (2, .int x2), (3, .int x3), (4, .int x4)], [.ref x0, .int (((24 : Int32) * x1) + x3), .ref v61], h59, 0, 0)) rfl ?_
        obtain ⟨v63, e64, hq⟩ := bsm hq
        refine r_gR odX7_becomes rfl rfl e64 ?_
        refine mB_run odX7_becomes 1 (g := (156, [(0, .ref x0), (1, .int x1), (2, .int x2), (3, .int x3), (4, .int x4)], [.int x4, .ref v63, .int (((24 : Int32) * x1) + x3), .ref v61], h59, 0, 0)) rfl ?_
        obtain ⟨v65, e66, hq⟩ := bsm hq
        refine r_aJ odX7_becomes rfl e66 ?_
        refine mB_run odX7_becomes 1 (g := (158, [(0, .ref x0), (1, .int x1), (2, .int x2), (3, .int x3), (4, .int x4)], [.int v65.toInt32, .int (((24 : Int32) * x1) + x3), .ref v61], h59, 0, 0)) rfl ?_
        obtain ⟨h67, e68, hq⟩ := bsm hq
        refine r_wI odX7_becomes rfl e68 ?_
        refine mB_run odX7_becomes 1 (g := (162, [(3, .int (x3 + (1 : Int32))), (0, .ref x0), (1, .int x1), (2, .int x2), (4, .int x4)], [], h67, 0, 0)) rfl ?_
        refine mB_lv [1, 2, 3, 0, 4] (lv' := [(0, .ref x0), (1, .int x1), (2, .int x2), (3, .int (x3 + (1 : Int32))), (4, .int x4)]) rfl ?_
        exact exX7_becomes_162 ih _ _ _ _ _ _ hq
def fxX7_becomes_5 (N : Nat) : Nat → Nat → Int32 → Int32 → Int32 → Int32 → mh → Option (mh × Int32)
  | 0, _, _, _, _, _, _ => none
  | n + 1, x0, x1, x2, x3, x4, h =>
    (gI h x0 7 15).bind fun v1 =>
    if v1 ≤ x4 then (
      (kO h x0 7).bind fun f6 =>
      (fxX7_keeps N x0 h).bind fun o4 =>
      fxX7_becomes_80 N N x0 x1 x2 (0 : Int32) (0 : Int32) o4) else (
      (gR h x0 7 19).bind fun v8 =>
      (aZ h v8 x4).bind fun v10 =>
      if v10 = 0 then (
        fxX7_becomes_65 N (fxX7_becomes_5 N n) x0 x1 x2 x3 x4 h) else (
        if (24 : Int32) < (x3 + (1 : Int32)) then (
          some (h, (0 : Int32))) else (
          (gR h x0 7 16).bind fun v14 =>
          (aJ h v14 x4).bind fun v16 =>
          (gR h x0 7 17).bind fun v18 =>
          (aJ h v18 x4).bind fun v20 =>
          (gR h x0 7 18).bind fun v22 =>
          (aJ h v22 x4).bind fun v24 =>
          (fxX7_isPoint N v16 v20 v24 h).bind fun o26 =>
          if o26.2 = 0 then (
            some (o26.1, (0 : Int32))) else (
            fxX7_becomes_65 N (fxX7_becomes_5 N n) x0 x1 x2 (x3 + (1 : Int32)) x4 o26.1))))
set_option maxHeartbeats 4000000 in
set_option maxRecDepth 100000 in
theorem exX7_becomes_5 {N : Nat} : ∀ (n : Nat) (x0 : Nat) (x1 : Int32) (x2 : Int32) (x3 : Int32) (x4 : Int32) (h : mh) {o : (mh × Int32)}, fxX7_becomes_5 N n x0 x1 x2 x3 x4 h = some o → mB (gO mX7_becomes (o.1, some (.int o.2))) mX7_becomes (5, [(0, .ref x0), (1, .int x1), (2, .int x2), (3, .int x3), (4, .int x4)], [], h, 0, 0) := by
  intro n
  induction n with
  | zero => intro x0 x1 x2 x3 x4 h o hq; cases hq
  | succ n ih =>
    intro x0 x1 x2 x3 x4 h o hq
    unfold fxX7_becomes_5 at hq
    refine mB_run odX7_becomes 2 (g := (8, [(0, .ref x0), (1, .int x1), (2, .int x2), (3, .int x3), (4, .int x4)], [.ref x0, .int x4], h, 0, 0)) rfl ?_
    obtain ⟨v1, e2, hq⟩ := bsm hq
    refine r_gI odX7_becomes rfl rfl e2 ?_
    by_cases c3 : v1 ≤ x4
    · rw [if_pos c3] at hq
      refine ic_ge_T (t := 71) odX7_becomes rfl rfl c3 ?_
      refine mB_run odX7_becomes 1 (g := (72, [(0, .ref x0), (1, .int x1), (2, .int x2), (3, .int x3), (4, .int x4)], [.ref x0], h, 0, 0)) rfl ?_
      obtain ⟨f6, k7, hq⟩ := bsm hq
      obtain ⟨o4, e5, hq⟩ := bsm hq
      refine mB_V (as := []) odX7_becomes okX7_keeps lk_7_237 rfl (exX7_keeps e5) (kO_at k7) rfl rfl rfl ?_
      show mB _ mX7_becomes (75, [(0, .ref x0), (1, .int x1), (2, .int x2), (3, .int x3), (4, .int x4)], [], o4, 0, 0)
      refine mB_run odX7_becomes 4 (g := (80, [(4, .int (0 : Int32)), (3, .int (0 : Int32)), (0, .ref x0), (1, .int x1), (2, .int x2)], [], o4, 0, 0)) rfl ?_
      refine mB_lv [2, 3, 4, 1, 0] (lv' := [(0, .ref x0), (1, .int x1), (2, .int x2), (3, .int (0 : Int32)), (4, .int (0 : Int32))]) rfl ?_
      exact exX7_becomes_80 N _ _ _ _ _ _ hq
    · rw [if_neg c3] at hq
      refine ic_ge_F (t := 71) odX7_becomes rfl rfl c3 ?_
      refine mB_run odX7_becomes 1 (g := (15, [(0, .ref x0), (1, .int x1), (2, .int x2), (3, .int x3), (4, .int x4)], [.ref x0], h, 0, 0)) rfl ?_
      obtain ⟨v8, e9, hq⟩ := bsm hq
      refine r_gR odX7_becomes rfl rfl e9 ?_
      refine mB_run odX7_becomes 1 (g := (20, [(0, .ref x0), (1, .int x1), (2, .int x2), (3, .int x3), (4, .int x4)], [.int x4, .ref v8], h, 0, 0)) rfl ?_
      obtain ⟨v10, e11, hq⟩ := bsm hq
      refine r_aZ odX7_becomes rfl e11 ?_
      by_cases c12 : v10 = 0
      · rw [if_pos c12] at hq
        refine if_ne_F (t := 27) odX7_becomes rfl rfl c12 ?_
        refine mB_run odX7_becomes 1 (g := (65, [(0, .ref x0), (1, .int x1), (2, .int x2), (3, .int x3), (4, .int x4)], [], h, 0, 0)) rfl ?_
        refine mB_lv [0, 1, 2, 3, 4] (lv' := [(0, .ref x0), (1, .int x1), (2, .int x2), (3, .int x3), (4, .int x4)]) rfl ?_
        exact exX7_becomes_65 ih _ _ _ _ _ _ hq
      · rw [if_neg c12] at hq
        refine if_ne_T (t := 27) odX7_becomes rfl rfl c12 ?_
        refine mB_run odX7_becomes 3 (g := (33, [(3, .int (x3 + (1 : Int32))), (0, .ref x0), (1, .int x1), (2, .int x2), (4, .int x4)], [.int (24 : Int32), .int (x3 + (1 : Int32))], h, 0, 0)) rfl ?_
        by_cases c13 : (24 : Int32) < (x3 + (1 : Int32))
        · rw [if_pos c13] at hq
          refine ic_gt_T (t := 63) odX7_becomes rfl rfl c13 ?_
          refine mB_run odX7_becomes 1 (g := (64, [(3, .int (x3 + (1 : Int32))), (0, .ref x0), (1, .int x1), (2, .int x2), (4, .int x4)], [.int (0 : Int32)], h, 0, 0)) rfl ?_
          cases hq
          exact mB_ret odX7_becomes rfl
        · rw [if_neg c13] at hq
          refine ic_gt_F (t := 63) odX7_becomes rfl rfl c13 ?_
          refine mB_run odX7_becomes 1 (g := (37, [(3, .int (x3 + (1 : Int32))), (0, .ref x0), (1, .int x1), (2, .int x2), (4, .int x4)], [.ref x0], h, 0, 0)) rfl ?_
          obtain ⟨v14, e15, hq⟩ := bsm hq
          refine r_gR odX7_becomes rfl rfl e15 ?_
          refine mB_run odX7_becomes 1 (g := (42, [(3, .int (x3 + (1 : Int32))), (0, .ref x0), (1, .int x1), (2, .int x2), (4, .int x4)], [.int x4, .ref v14], h, 0, 0)) rfl ?_
          obtain ⟨v16, e17, hq⟩ := bsm hq
          refine r_aJ odX7_becomes rfl e17 ?_
          refine mB_run odX7_becomes 1 (g := (44, [(3, .int (x3 + (1 : Int32))), (0, .ref x0), (1, .int x1), (2, .int x2), (4, .int x4)], [.ref x0, .long v16], h, 0, 0)) rfl ?_
          obtain ⟨v18, e19, hq⟩ := bsm hq
          refine r_gR odX7_becomes rfl rfl e19 ?_
          refine mB_run odX7_becomes 1 (g := (49, [(3, .int (x3 + (1 : Int32))), (0, .ref x0), (1, .int x1), (2, .int x2), (4, .int x4)], [.int x4, .ref v18, .long v16], h, 0, 0)) rfl ?_
          obtain ⟨v20, e21, hq⟩ := bsm hq
          refine r_aJ odX7_becomes rfl e21 ?_
          refine mB_run odX7_becomes 1 (g := (51, [(3, .int (x3 + (1 : Int32))), (0, .ref x0), (1, .int x1), (2, .int x2), (4, .int x4)], [.ref x0, .long v20, .long v16], h, 0, 0)) rfl ?_
          obtain ⟨v22, e23, hq⟩ := bsm hq
          refine r_gR odX7_becomes rfl rfl e23 ?_
          refine mB_run odX7_becomes 1 (g := (56, [(3, .int (x3 + (1 : Int32))), (0, .ref x0), (1, .int x1), (2, .int x2), (4, .int x4)], [.int x4, .ref v22, .long v20, .long v16], h, 0, 0)) rfl ?_
          obtain ⟨v24, e25, hq⟩ := bsm hq
          refine r_aJ odX7_becomes rfl e25 ?_
          obtain ⟨o26, e27, hq⟩ := bsm hq
          refine mB_S (as := [.long v16, .long v20, .long v24]) odX7_becomes okX7_isPoint lk_7_137 rfl (exX7_isPoint e27) rfl rfl rfl ?_
          show mB _ mX7_becomes (60, [(3, .int (x3 + (1 : Int32))), (0, .ref x0), (1, .int x1), (2, .int x2), (4, .int x4)], [.int o26.2], o26.1, 0, 0)
          by_cases c28 : o26.2 = 0
          · rw [if_pos c28] at hq
            refine if_ne_F (t := 65) odX7_becomes rfl rfl c28 ?_
            refine mB_run odX7_becomes 1 (g := (64, [(3, .int (x3 + (1 : Int32))), (0, .ref x0), (1, .int x1), (2, .int x2), (4, .int x4)], [.int (0 : Int32)], o26.1, 0, 0)) rfl ?_
            cases hq
            exact mB_ret odX7_becomes rfl
          · rw [if_neg c28] at hq
            refine if_ne_T (t := 65) odX7_becomes rfl rfl c28 ?_
            refine mB_lv [1, 2, 3, 0, 4] (lv' := [(0, .ref x0), (1, .int x1), (2, .int x2), (3, .int (x3 + (1 : Int32))), (4, .int x4)]) rfl ?_
            exact exX7_becomes_65 ih _ _ _ _ _ _ hq
def fxX7_becomes (N : Nat) (p0 : Nat) (p1 : Int32) (p2 : Int32) (h : mh) : Option (mh × Int32) :=
  fxX7_becomes_5 N N p0 p1 p2 (0 : Int32) (0 : Int32) h
set_option maxHeartbeats 4000000 in
set_option maxRecDepth 100000 in
theorem exX7_becomes {N : Nat} {p0 : Nat} {p1 : Int32} {p2 : Int32} {h : mh} {o : (mh × Int32)} (hq : fxX7_becomes N p0 p1 p2 h = some o) : mC mX7_becomes [.ref p0, .int p1, .int p2] h (o.1, some (.int o.2)) := by
  refine mC_of okX7_becomes (Nat.le_of_ble_eq_true rfl) ?_
  unfold fxX7_becomes at hq
  show mB _ mX7_becomes (0, [(0, .ref p0), (1, .int p1), (2, .int p2)], [], h, 0, 0)
  refine mB_run odX7_becomes 4 (g := (5, [(4, .int (0 : Int32)), (3, .int (0 : Int32)), (0, .ref p0), (1, .int p1), (2, .int p2)], [], h, 0, 0)) rfl ?_
  refine mB_lv [2, 3, 4, 1, 0] (lv' := [(0, .ref p0), (1, .int p1), (2, .int p2), (3, .int (0 : Int32)), (4, .int (0 : Int32))]) rfl ?_
  exact exX7_becomes_5 N _ _ _ _ _ _ hq
def fxX7_solid_33 (N : Nat) : Nat → Nat → Int32 → Int32 → Int32 → mh → Option (mh × Int32)
  | 0, _, _, _, _, _ => none
  | n + 1, x0, x1, x2, x3, h =>
    (gR h x0 7 0).bind fun v14 =>
    (aI h v14 x2).bind fun v16 =>
    if v16 ≤ x3 then (
      (kO h x0 7).bind fun f21 =>
      (fxX7_hulls N x0 (0 : Int32) h).bind fun o19 =>
      (kO o19.1 x0 7).bind fun f25 =>
      (fxX7_becomes N x0 x1 o19.2 o19.1).bind fun o23 =>
      (gR o23.1 x0 7 5).bind fun v27 =>
      (aI o23.1 v27 x1).bind fun v29 =>
      some (o23.1, v29)) else (
      (gR h x0 7 1).bind fun v31 =>
      (aI h v31 (((24 : Int32) * x2) + x3)).bind fun v33 =>
      (gR h x0 7 2).bind fun v35 =>
      (aI h v35 (((24 : Int32) * x2) + x3)).bind fun v37 =>
      (gR h x0 7 3).bind fun v39 =>
      (aI h v39 (((24 : Int32) * x2) + x3)).bind fun v41 =>
      (kO h x0 7).bind fun f45 =>
      (fxX7_heaps N x0 v33.toInt64 v37.toInt64 v41.toInt64 h).bind fun o43 =>
      fxX7_solid_33 N n x0 x1 x2 (x3 + (1 : Int32)) o43)
set_option maxHeartbeats 4000000 in
set_option maxRecDepth 100000 in
theorem exX7_solid_33 {N : Nat} : ∀ (n : Nat) (x0 : Nat) (x1 : Int32) (x2 : Int32) (x3 : Int32) (h : mh) {o : (mh × Int32)}, fxX7_solid_33 N n x0 x1 x2 x3 h = some o → mB (gO mX7_solid (o.1, some (.int o.2))) mX7_solid (33, [(0, .ref x0), (1, .int x1), (2, .int x2), (3, .int x3)], [], h, 0, 0) := by
  intro n
  induction n with
  | zero => intro x0 x1 x2 x3 h o hq; cases hq
  | succ n ih =>
    intro x0 x1 x2 x3 h o hq
    unfold fxX7_solid_33 at hq
    refine mB_run odX7_solid 2 (g := (35, [(0, .ref x0), (1, .int x1), (2, .int x2), (3, .int x3)], [.ref x0, .int x3], h, 0, 0)) rfl ?_
    obtain ⟨v14, e15, hq⟩ := bsm hq
    refine r_gR odX7_solid rfl rfl e15 ?_
    refine mB_run odX7_solid 1 (g := (39, [(0, .ref x0), (1, .int x1), (2, .int x2), (3, .int x3)], [.int x2, .ref v14, .int x3], h, 0, 0)) rfl ?_
    obtain ⟨v16, e17, hq⟩ := bsm hq
    refine r_aI odX7_solid rfl e17 ?_
    by_cases c18 : v16 ≤ x3
    · rw [if_pos c18] at hq
      refine ic_ge_T (t := 89) odX7_solid rfl rfl c18 ?_
      refine mB_run odX7_solid 4 (g := (93, [(0, .ref x0), (1, .int x1), (2, .int x2), (3, .int x3)], [.int (0 : Int32), .ref x0, .int x1, .ref x0], h, 0, 0)) rfl ?_
      obtain ⟨f21, k22, hq⟩ := bsm hq
      obtain ⟨o19, e20, hq⟩ := bsm hq
      refine mB_V (as := [.int (0 : Int32)]) odX7_solid okX7_hulls lk_7_229 rfl (exX7_hulls e20) (kO_at k22) rfl rfl rfl ?_
      show mB _ mX7_solid (96, [(0, .ref x0), (1, .int x1), (2, .int x2), (3, .int x3)], [.int o19.2, .int x1, .ref x0], o19.1, 0, 0)
      obtain ⟨f25, k26, hq⟩ := bsm hq
      obtain ⟨o23, e24, hq⟩ := bsm hq
      refine mB_V (as := [.int x1, .int o19.2]) odX7_solid okX7_becomes lk_7_240 rfl (exX7_becomes e24) (kO_at k26) rfl rfl rfl ?_
      show mB _ mX7_solid (99, [(0, .ref x0), (1, .int x1), (2, .int x2), (3, .int x3)], [.int o23.2], o23.1, 0, 0)
      refine mB_run odX7_solid 2 (g := (101, [(0, .ref x0), (1, .int x1), (2, .int x2), (3, .int x3)], [.ref x0], o23.1, 0, 0)) rfl ?_
      obtain ⟨v27, e28, hq⟩ := bsm hq
      refine r_gR odX7_solid rfl rfl e28 ?_
      refine mB_run odX7_solid 1 (g := (105, [(0, .ref x0), (1, .int x1), (2, .int x2), (3, .int x3)], [.int x1, .ref v27], o23.1, 0, 0)) rfl ?_
      obtain ⟨v29, e30, hq⟩ := bsm hq
      refine r_aI odX7_solid rfl e30 ?_
      cases hq
      exact mB_ret odX7_solid rfl
    · rw [if_neg c18] at hq
      refine ic_ge_F (t := 89) odX7_solid rfl rfl c18 ?_
      refine mB_run odX7_solid 2 (g := (45, [(0, .ref x0), (1, .int x1), (2, .int x2), (3, .int x3)], [.ref x0, .ref x0], h, 0, 0)) rfl ?_
      obtain ⟨v31, e32, hq⟩ := bsm hq
      refine r_gR odX7_solid rfl rfl e32 ?_
      refine mB_run odX7_solid 5 (g := (54, [(0, .ref x0), (1, .int x1), (2, .int x2), (3, .int x3)], [.int (((24 : Int32) * x2) + x3), .ref v31, .ref x0], h, 0, 0)) rfl ?_
      obtain ⟨v33, e34, hq⟩ := bsm hq
      refine r_aI odX7_solid rfl e34 ?_
      refine mB_run odX7_solid 2 (g := (57, [(0, .ref x0), (1, .int x1), (2, .int x2), (3, .int x3)], [.ref x0, .long v33.toInt64, .ref x0], h, 0, 0)) rfl ?_
      obtain ⟨v35, e36, hq⟩ := bsm hq
      refine r_gR odX7_solid rfl rfl e36 ?_
      refine mB_run odX7_solid 5 (g := (66, [(0, .ref x0), (1, .int x1), (2, .int x2), (3, .int x3)], [.int (((24 : Int32) * x2) + x3), .ref v35, .long v33.toInt64, .ref x0], h, 0, 0)) rfl ?_
      obtain ⟨v37, e38, hq⟩ := bsm hq
      refine r_aI odX7_solid rfl e38 ?_
      refine mB_run odX7_solid 2 (g := (69, [(0, .ref x0), (1, .int x1), (2, .int x2), (3, .int x3)], [.ref x0, .long v37.toInt64, .long v33.toInt64, .ref x0], h, 0, 0)) rfl ?_
      obtain ⟨v39, e40, hq⟩ := bsm hq
      refine r_gR odX7_solid rfl rfl e40 ?_
      refine mB_run odX7_solid 5 (g := (78, [(0, .ref x0), (1, .int x1), (2, .int x2), (3, .int x3)], [.int (((24 : Int32) * x2) + x3), .ref v39, .long v37.toInt64, .long v33.toInt64, .ref x0], h, 0, 0)) rfl ?_
      obtain ⟨v41, e42, hq⟩ := bsm hq
      refine r_aI odX7_solid rfl e42 ?_
      refine mB_run odX7_solid 1 (g := (80, [(0, .ref x0), (1, .int x1), (2, .int x2), (3, .int x3)], [.long v41.toInt64, .long v37.toInt64, .long v33.toInt64, .ref x0], h, 0, 0)) rfl ?_
      obtain ⟨f45, k46, hq⟩ := bsm hq
      obtain ⟨o43, e44, hq⟩ := bsm hq
      refine mB_V (as := [.long v33.toInt64, .long v37.toInt64, .long v41.toInt64]) odX7_solid okX7_heaps lk_7_222 rfl (exX7_heaps e44) (kO_at k46) rfl rfl rfl ?_
      show mB _ mX7_solid (83, [(0, .ref x0), (1, .int x1), (2, .int x2), (3, .int x3)], [], o43, 0, 0)
      refine mB_run odX7_solid 2 (g := (33, [(3, .int (x3 + (1 : Int32))), (0, .ref x0), (1, .int x1), (2, .int x2)], [], o43, 0, 0)) rfl ?_
      refine mB_lv [1, 2, 3, 0] (lv' := [(0, .ref x0), (1, .int x1), (2, .int x2), (3, .int (x3 + (1 : Int32)))]) rfl ?_
      exact ih _ _ _ _ _ hq
def fxX7_solid (N : Nat) (p0 : Nat) (p1 : Int32) (p2 : Int32) (h : mh) : Option (mh × Int32) :=
  (fxX7_isSolid N p1 h).bind fun o1 =>
  if o1.2 = 0 then (
    some (o1.1, (-1 : Int32))) else (
    (fxX7_isSolid N p2 o1.1).bind fun o4 =>
    if o4.2 = 0 then (
      some (o4.1, (-1 : Int32))) else (
      (gR o4.1 p0 7 0).bind fun v7 =>
      (aI o4.1 v7 p2).bind fun v9 =>
      if v9 = (-1 : Int32) then (
        some (o4.1, (-1 : Int32))) else (
        (sV o4.1 p0 7 15 (.int (0 : Int32))).bind fun h12 =>
        fxX7_solid_33 N N p0 p1 p2 (0 : Int32) h12)))
set_option maxHeartbeats 4000000 in
set_option maxRecDepth 100000 in
theorem exX7_solid {N : Nat} {p0 : Nat} {p1 : Int32} {p2 : Int32} {h : mh} {o : (mh × Int32)} (hq : fxX7_solid N p0 p1 p2 h = some o) : mC mX7_solid [.ref p0, .int p1, .int p2] h (o.1, some (.int o.2)) := by
  refine mC_of okX7_solid (Nat.le_of_ble_eq_true rfl) ?_
  unfold fxX7_solid at hq
  show mB _ mX7_solid (0, [(0, .ref p0), (1, .int p1), (2, .int p2)], [], h, 0, 0)
  refine mB_run odX7_solid 1 (g := (1, [(0, .ref p0), (1, .int p1), (2, .int p2)], [.int p1], h, 0, 0)) rfl ?_
  obtain ⟨o1, e2, hq⟩ := bsm hq
  refine mB_S (as := [.int p1]) odX7_solid okX7_isSolid lk_7_133 rfl (exX7_isSolid e2) rfl rfl rfl ?_
  show mB _ mX7_solid (4, [(0, .ref p0), (1, .int p1), (2, .int p2)], [.int o1.2], o1.1, 0, 0)
  by_cases c3 : o1.2 = 0
  · rw [if_pos c3] at hq
    refine if_eq_T (t := 24) odX7_solid rfl rfl c3 ?_
    refine mB_run odX7_solid 1 (g := (25, [(0, .ref p0), (1, .int p1), (2, .int p2)], [.int (-1 : Int32)], o1.1, 0, 0)) rfl ?_
    cases hq
    exact mB_ret odX7_solid rfl
  · rw [if_neg c3] at hq
    refine if_eq_F (t := 24) odX7_solid rfl rfl c3 ?_
    refine mB_run odX7_solid 1 (g := (8, [(0, .ref p0), (1, .int p1), (2, .int p2)], [.int p2], o1.1, 0, 0)) rfl ?_
    obtain ⟨o4, e5, hq⟩ := bsm hq
    refine mB_S (as := [.int p2]) odX7_solid okX7_isSolid lk_7_133 rfl (exX7_isSolid e5) rfl rfl rfl ?_
    show mB _ mX7_solid (11, [(0, .ref p0), (1, .int p1), (2, .int p2)], [.int o4.2], o4.1, 0, 0)
    by_cases c6 : o4.2 = 0
    · rw [if_pos c6] at hq
      refine if_eq_T (t := 24) odX7_solid rfl rfl c6 ?_
      refine mB_run odX7_solid 1 (g := (25, [(0, .ref p0), (1, .int p1), (2, .int p2)], [.int (-1 : Int32)], o4.1, 0, 0)) rfl ?_
      cases hq
      exact mB_ret odX7_solid rfl
    · rw [if_neg c6] at hq
      refine if_eq_F (t := 24) odX7_solid rfl rfl c6 ?_
      refine mB_run odX7_solid 1 (g := (15, [(0, .ref p0), (1, .int p1), (2, .int p2)], [.ref p0], o4.1, 0, 0)) rfl ?_
      obtain ⟨v7, e8, hq⟩ := bsm hq
      refine r_gR odX7_solid rfl rfl e8 ?_
      refine mB_run odX7_solid 1 (g := (19, [(0, .ref p0), (1, .int p1), (2, .int p2)], [.int p2, .ref v7], o4.1, 0, 0)) rfl ?_
      obtain ⟨v9, e10, hq⟩ := bsm hq
      refine r_aI odX7_solid rfl e10 ?_
      refine mB_run odX7_solid 1 (g := (21, [(0, .ref p0), (1, .int p1), (2, .int p2)], [.int (-1 : Int32), .int v9], o4.1, 0, 0)) rfl ?_
      by_cases c11 : v9 = (-1 : Int32)
      · rw [if_pos c11] at hq
        refine ic_ne_F (t := 26) odX7_solid rfl rfl c11 ?_
        refine mB_run odX7_solid 1 (g := (25, [(0, .ref p0), (1, .int p1), (2, .int p2)], [.int (-1 : Int32)], o4.1, 0, 0)) rfl ?_
        cases hq
        exact mB_ret odX7_solid rfl
      · rw [if_neg c11] at hq
        refine ic_ne_T (t := 26) odX7_solid rfl rfl c11 ?_
        refine mB_run odX7_solid 2 (g := (28, [(0, .ref p0), (1, .int p1), (2, .int p2)], [.int (0 : Int32), .ref p0], o4.1, 0, 0)) rfl ?_
        obtain ⟨h12, e13, hq⟩ := bsm hq
        refine r_sV odX7_solid rfl rfl rfl rfl e13 ?_
        refine mB_run odX7_solid 2 (g := (33, [(3, .int (0 : Int32)), (0, .ref p0), (1, .int p1), (2, .int p2)], [], h12, 0, 0)) rfl ?_
        refine mB_lv [1, 2, 3, 0] (lv' := [(0, .ref p0), (1, .int p1), (2, .int p2), (3, .int (0 : Int32))]) rfl ?_
        exact exX7_solid_33 N _ _ _ _ _ hq
def fxX7_grow (N : Nat) (p0 : Nat) (p1 : Int32) (p2 : Int32) (p3 : Int32) (p4 : Int32) (h : mh) : Option (mh × Int32) :=
  (fxX7_isSolid N p1 h).bind fun o1 =>
  if o1.2 = 0 then (
    some (o1.1, (-1 : Int32))) else (
    (fxX7_isPoint N p2.toInt64 p3.toInt64 p4.toInt64 o1.1).bind fun o4 =>
    if o4.2 = 0 then (
      some (o4.1, (-1 : Int32))) else (
      (kO o4.1 p0 7).bind fun f9 =>
      (fxX7_loads N p0 p1 o4.1).bind fun o7 =>
      (kO o7 p0 7).bind fun f13 =>
      (fxX7_heaps N p0 p2.toInt64 p3.toInt64 p4.toInt64 o7).bind fun o11 =>
      (kO o11 p0 7).bind fun f17 =>
      (fxX7_hulls N p0 (0 : Int32) o11).bind fun o15 =>
      (kO o15.1 p0 7).bind fun f21 =>
      (fxX7_becomes N p0 p1 o15.2 o15.1).bind fun o19 =>
      if o19.2 = 0 then (
        some (o19.1, (-2 : Int32))) else (
        (gR o19.1 p0 7 5).bind fun v24 =>
        (aI o19.1 v24 p1).bind fun v26 =>
        some (o19.1, v26))))
set_option maxHeartbeats 4000000 in
set_option maxRecDepth 100000 in
theorem exX7_grow {N : Nat} {p0 : Nat} {p1 : Int32} {p2 : Int32} {p3 : Int32} {p4 : Int32} {h : mh} {o : (mh × Int32)} (hq : fxX7_grow N p0 p1 p2 p3 p4 h = some o) : mC mX7_grow [.ref p0, .int p1, .int p2, .int p3, .int p4] h (o.1, some (.int o.2)) := by
  refine mC_of okX7_grow (Nat.le_of_ble_eq_true rfl) ?_
  unfold fxX7_grow at hq
  show mB _ mX7_grow (0, [(0, .ref p0), (1, .int p1), (2, .int p2), (3, .int p3), (4, .int p4)], [], h, 0, 0)
  refine mB_run odX7_grow 1 (g := (1, [(0, .ref p0), (1, .int p1), (2, .int p2), (3, .int p3), (4, .int p4)], [.int p1], h, 0, 0)) rfl ?_
  obtain ⟨o1, e2, hq⟩ := bsm hq
  refine mB_S (as := [.int p1]) odX7_grow okX7_isSolid lk_7_133 rfl (exX7_isSolid e2) rfl rfl rfl ?_
  show mB _ mX7_grow (4, [(0, .ref p0), (1, .int p1), (2, .int p2), (3, .int p3), (4, .int p4)], [.int o1.2], o1.1, 0, 0)
  by_cases c3 : o1.2 = 0
  · rw [if_pos c3] at hq
    refine if_eq_T (t := 20) odX7_grow rfl rfl c3 ?_
    refine mB_run odX7_grow 1 (g := (21, [(0, .ref p0), (1, .int p1), (2, .int p2), (3, .int p3), (4, .int p4)], [.int (-1 : Int32)], o1.1, 0, 0)) rfl ?_
    cases hq
    exact mB_ret odX7_grow rfl
  · rw [if_neg c3] at hq
    refine if_eq_F (t := 20) odX7_grow rfl rfl c3 ?_
    refine mB_run odX7_grow 6 (g := (14, [(0, .ref p0), (1, .int p1), (2, .int p2), (3, .int p3), (4, .int p4)], [.long p4.toInt64, .long p3.toInt64, .long p2.toInt64], o1.1, 0, 0)) rfl ?_
    obtain ⟨o4, e5, hq⟩ := bsm hq
    refine mB_S (as := [.long p2.toInt64, .long p3.toInt64, .long p4.toInt64]) odX7_grow okX7_isPoint lk_7_137 rfl (exX7_isPoint e5) rfl rfl rfl ?_
    show mB _ mX7_grow (17, [(0, .ref p0), (1, .int p1), (2, .int p2), (3, .int p3), (4, .int p4)], [.int o4.2], o4.1, 0, 0)
    by_cases c6 : o4.2 = 0
    · rw [if_pos c6] at hq
      refine if_ne_F (t := 22) odX7_grow rfl rfl c6 ?_
      refine mB_run odX7_grow 1 (g := (21, [(0, .ref p0), (1, .int p1), (2, .int p2), (3, .int p3), (4, .int p4)], [.int (-1 : Int32)], o4.1, 0, 0)) rfl ?_
      cases hq
      exact mB_ret odX7_grow rfl
    · rw [if_neg c6] at hq
      refine if_ne_T (t := 22) odX7_grow rfl rfl c6 ?_
      refine mB_run odX7_grow 2 (g := (24, [(0, .ref p0), (1, .int p1), (2, .int p2), (3, .int p3), (4, .int p4)], [.int p1, .ref p0], o4.1, 0, 0)) rfl ?_
      obtain ⟨f9, k10, hq⟩ := bsm hq
      obtain ⟨o7, e8, hq⟩ := bsm hq
      refine mB_V (as := [.int p1]) odX7_grow okX7_loads lk_7_226 rfl (exX7_loads e8) (kO_at k10) rfl rfl rfl ?_
      show mB _ mX7_grow (27, [(0, .ref p0), (1, .int p1), (2, .int p2), (3, .int p3), (4, .int p4)], [], o7, 0, 0)
      refine mB_run odX7_grow 7 (g := (35, [(0, .ref p0), (1, .int p1), (2, .int p2), (3, .int p3), (4, .int p4)], [.long p4.toInt64, .long p3.toInt64, .long p2.toInt64, .ref p0], o7, 0, 0)) rfl ?_
      obtain ⟨f13, k14, hq⟩ := bsm hq
      obtain ⟨o11, e12, hq⟩ := bsm hq
      refine mB_V (as := [.long p2.toInt64, .long p3.toInt64, .long p4.toInt64]) odX7_grow okX7_heaps lk_7_222 rfl (exX7_heaps e12) (kO_at k14) rfl rfl rfl ?_
      show mB _ mX7_grow (38, [(0, .ref p0), (1, .int p1), (2, .int p2), (3, .int p3), (4, .int p4)], [], o11, 0, 0)
      refine mB_run odX7_grow 4 (g := (42, [(0, .ref p0), (1, .int p1), (2, .int p2), (3, .int p3), (4, .int p4)], [.int (0 : Int32), .ref p0, .int p1, .ref p0], o11, 0, 0)) rfl ?_
      obtain ⟨f17, k18, hq⟩ := bsm hq
      obtain ⟨o15, e16, hq⟩ := bsm hq
      refine mB_V (as := [.int (0 : Int32)]) odX7_grow okX7_hulls lk_7_229 rfl (exX7_hulls e16) (kO_at k18) rfl rfl rfl ?_
      show mB _ mX7_grow (45, [(0, .ref p0), (1, .int p1), (2, .int p2), (3, .int p3), (4, .int p4)], [.int o15.2, .int p1, .ref p0], o15.1, 0, 0)
      obtain ⟨f21, k22, hq⟩ := bsm hq
      obtain ⟨o19, e20, hq⟩ := bsm hq
      refine mB_V (as := [.int p1, .int o15.2]) odX7_grow okX7_becomes lk_7_240 rfl (exX7_becomes e20) (kO_at k22) rfl rfl rfl ?_
      show mB _ mX7_grow (48, [(0, .ref p0), (1, .int p1), (2, .int p2), (3, .int p3), (4, .int p4)], [.int o19.2], o19.1, 0, 0)
      by_cases c23 : o19.2 = 0
      · rw [if_pos c23] at hq
        refine if_eq_T (t := 60) odX7_grow rfl rfl c23 ?_
        refine mB_run odX7_grow 1 (g := (62, [(0, .ref p0), (1, .int p1), (2, .int p2), (3, .int p3), (4, .int p4)], [.int (-2 : Int32)], o19.1, 0, 0)) rfl ?_
        cases hq
        exact mB_ret odX7_grow rfl
      · rw [if_neg c23] at hq
        refine if_eq_F (t := 60) odX7_grow rfl rfl c23 ?_
        refine mB_run odX7_grow 1 (g := (52, [(0, .ref p0), (1, .int p1), (2, .int p2), (3, .int p3), (4, .int p4)], [.ref p0], o19.1, 0, 0)) rfl ?_
        obtain ⟨v24, e25, hq⟩ := bsm hq
        refine r_gR odX7_grow rfl rfl e25 ?_
        refine mB_run odX7_grow 1 (g := (56, [(0, .ref p0), (1, .int p1), (2, .int p2), (3, .int p3), (4, .int p4)], [.int p1, .ref v24], o19.1, 0, 0)) rfl ?_
        obtain ⟨v26, e27, hq⟩ := bsm hq
        refine r_aI odX7_grow rfl e27 ?_
        refine mB_run odX7_grow 1 (g := (62, [(0, .ref p0), (1, .int p1), (2, .int p2), (3, .int p3), (4, .int p4)], [.int v26], o19.1, 0, 0)) rfl ?_
        cases hq
        exact mB_ret odX7_grow rfl
def fxX7_count_44 (N : Nat) (x0 : Nat) (x1 : Int32) (x2 : Int32) (h : mh) : Option (mh × Int32) :=
  (kO h x0 7).bind fun f18 =>
  (fxX7_knows N x0 x1 (0 : Int32) h).bind fun o16 =>
  if x2 = (2 : Int32) then (
    (gR o16 x0 7 34).bind fun v21 =>
    (aI o16 v21 (0 : Int32)).bind fun v23 =>
    some (o16, v23)) else (
    (gR o16 x0 7 27).bind fun v25 =>
    (aI o16 v25 (0 : Int32)).bind fun v27 =>
    some (o16, v27))
set_option maxHeartbeats 4000000 in
set_option maxRecDepth 100000 in
theorem exX7_count_44 {N : Nat} (x0 : Nat) (x1 : Int32) (x2 : Int32) (h : mh) {o : (mh × Int32)} (hq : fxX7_count_44 N x0 x1 x2 h = some o) : mB (gO mX7_count (o.1, some (.int o.2))) mX7_count (44, [(0, .ref x0), (1, .int x1), (2, .int x2)], [], h, 0, 0) := by
  unfold fxX7_count_44 at hq
  refine mB_run odX7_count 3 (g := (47, [(0, .ref x0), (1, .int x1), (2, .int x2)], [.int (0 : Int32), .int x1, .ref x0], h, 0, 0)) rfl ?_
  obtain ⟨f18, k19, hq⟩ := bsm hq
  obtain ⟨o16, e17, hq⟩ := bsm hq
  refine mB_V (as := [.int x1, .int (0 : Int32)]) odX7_count okX7_knows lk_7_244 rfl (exX7_knows e17) (kO_at k19) rfl rfl rfl ?_
  show mB _ mX7_count (50, [(0, .ref x0), (1, .int x1), (2, .int x2)], [], o16, 0, 0)
  refine mB_run odX7_count 2 (g := (52, [(0, .ref x0), (1, .int x1), (2, .int x2)], [.int (2 : Int32), .int x2], o16, 0, 0)) rfl ?_
  by_cases c20 : x2 = (2 : Int32)
  · rw [if_pos c20] at hq
    refine ic_ne_F (t := 64) odX7_count rfl rfl c20 ?_
    refine mB_run odX7_count 1 (g := (56, [(0, .ref x0), (1, .int x1), (2, .int x2)], [.ref x0], o16, 0, 0)) rfl ?_
    obtain ⟨v21, e22, hq⟩ := bsm hq
    refine r_gR odX7_count rfl rfl e22 ?_
    refine mB_run odX7_count 1 (g := (60, [(0, .ref x0), (1, .int x1), (2, .int x2)], [.int (0 : Int32), .ref v21], o16, 0, 0)) rfl ?_
    obtain ⟨v23, e24, hq⟩ := bsm hq
    refine r_aI odX7_count rfl e24 ?_
    refine mB_run odX7_count 1 (g := (70, [(0, .ref x0), (1, .int x1), (2, .int x2)], [.int v23], o16, 0, 0)) rfl ?_
    cases hq
    exact mB_ret odX7_count rfl
  · rw [if_neg c20] at hq
    refine ic_ne_T (t := 64) odX7_count rfl rfl c20 ?_
    refine mB_run odX7_count 1 (g := (65, [(0, .ref x0), (1, .int x1), (2, .int x2)], [.ref x0], o16, 0, 0)) rfl ?_
    obtain ⟨v25, e26, hq⟩ := bsm hq
    refine r_gR odX7_count rfl rfl e26 ?_
    refine mB_run odX7_count 1 (g := (69, [(0, .ref x0), (1, .int x1), (2, .int x2)], [.int (0 : Int32), .ref v25], o16, 0, 0)) rfl ?_
    obtain ⟨v27, e28, hq⟩ := bsm hq
    refine r_aI odX7_count rfl e28 ?_
    cases hq
    exact mB_ret odX7_count rfl
def fxX7_count (N : Nat) (p0 : Nat) (p1 : Int32) (p2 : Int32) (h : mh) : Option (mh × Int32) :=
  (fxX7_isSolid N p1 h).bind fun o1 =>
  if o1.2 = 0 then (
    some (o1.1, (-1 : Int32))) else (
    if p2 = 0 then (
      (gR o1.1 p0 7 5).bind fun v5 =>
      (aI o1.1 v5 p1).bind fun v7 =>
      some (o1.1, v7)) else (
      if p2 = (1 : Int32) then (
        (gR o1.1 p0 7 4).bind fun v10 =>
        (aI o1.1 v10 p1).bind fun v12 =>
        some (o1.1, v12)) else (
        if p2 = (2 : Int32) then (
          fxX7_count_44 N p0 p1 p2 o1.1) else (
          if p2 = (3 : Int32) then (
            fxX7_count_44 N p0 p1 p2 o1.1) else (
            some (o1.1, (-1 : Int32)))))))
set_option maxHeartbeats 4000000 in
set_option maxRecDepth 100000 in
theorem exX7_count {N : Nat} {p0 : Nat} {p1 : Int32} {p2 : Int32} {h : mh} {o : (mh × Int32)} (hq : fxX7_count N p0 p1 p2 h = some o) : mC mX7_count [.ref p0, .int p1, .int p2] h (o.1, some (.int o.2)) := by
  refine mC_of okX7_count (Nat.le_of_ble_eq_true rfl) ?_
  unfold fxX7_count at hq
  show mB _ mX7_count (0, [(0, .ref p0), (1, .int p1), (2, .int p2)], [], h, 0, 0)
  refine mB_run odX7_count 1 (g := (1, [(0, .ref p0), (1, .int p1), (2, .int p2)], [.int p1], h, 0, 0)) rfl ?_
  obtain ⟨o1, e2, hq⟩ := bsm hq
  refine mB_S (as := [.int p1]) odX7_count okX7_isSolid lk_7_133 rfl (exX7_isSolid e2) rfl rfl rfl ?_
  show mB _ mX7_count (4, [(0, .ref p0), (1, .int p1), (2, .int p2)], [.int o1.2], o1.1, 0, 0)
  by_cases c3 : o1.2 = 0
  · rw [if_pos c3] at hq
    refine if_ne_F (t := 9) odX7_count rfl rfl c3 ?_
    refine mB_run odX7_count 1 (g := (8, [(0, .ref p0), (1, .int p1), (2, .int p2)], [.int (-1 : Int32)], o1.1, 0, 0)) rfl ?_
    cases hq
    exact mB_ret odX7_count rfl
  · rw [if_neg c3] at hq
    refine if_ne_T (t := 9) odX7_count rfl rfl c3 ?_
    refine mB_run odX7_count 1 (g := (10, [(0, .ref p0), (1, .int p1), (2, .int p2)], [.int p2], o1.1, 0, 0)) rfl ?_
    by_cases c4 : p2 = 0
    · rw [if_pos c4] at hq
      refine if_ne_F (t := 20) odX7_count rfl rfl c4 ?_
      refine mB_run odX7_count 1 (g := (14, [(0, .ref p0), (1, .int p1), (2, .int p2)], [.ref p0], o1.1, 0, 0)) rfl ?_
      obtain ⟨v5, e6, hq⟩ := bsm hq
      refine r_gR odX7_count rfl rfl e6 ?_
      refine mB_run odX7_count 1 (g := (18, [(0, .ref p0), (1, .int p1), (2, .int p2)], [.int p1, .ref v5], o1.1, 0, 0)) rfl ?_
      obtain ⟨v7, e8, hq⟩ := bsm hq
      refine r_aI odX7_count rfl e8 ?_
      cases hq
      exact mB_ret odX7_count rfl
    · rw [if_neg c4] at hq
      refine if_ne_T (t := 20) odX7_count rfl rfl c4 ?_
      refine mB_run odX7_count 2 (g := (22, [(0, .ref p0), (1, .int p1), (2, .int p2)], [.int (1 : Int32), .int p2], o1.1, 0, 0)) rfl ?_
      by_cases c9 : p2 = (1 : Int32)
      · rw [if_pos c9] at hq
        refine ic_ne_F (t := 32) odX7_count rfl rfl c9 ?_
        refine mB_run odX7_count 1 (g := (26, [(0, .ref p0), (1, .int p1), (2, .int p2)], [.ref p0], o1.1, 0, 0)) rfl ?_
        obtain ⟨v10, e11, hq⟩ := bsm hq
        refine r_gR odX7_count rfl rfl e11 ?_
        refine mB_run odX7_count 1 (g := (30, [(0, .ref p0), (1, .int p1), (2, .int p2)], [.int p1, .ref v10], o1.1, 0, 0)) rfl ?_
        obtain ⟨v12, e13, hq⟩ := bsm hq
        refine r_aI odX7_count rfl e13 ?_
        cases hq
        exact mB_ret odX7_count rfl
      · rw [if_neg c9] at hq
        refine ic_ne_T (t := 32) odX7_count rfl rfl c9 ?_
        refine mB_run odX7_count 2 (g := (34, [(0, .ref p0), (1, .int p1), (2, .int p2)], [.int (2 : Int32), .int p2], o1.1, 0, 0)) rfl ?_
        by_cases c14 : p2 = (2 : Int32)
        · rw [if_pos c14] at hq
          refine ic_eq_T (t := 44) odX7_count rfl rfl c14 ?_
          refine mB_lv [0, 1, 2] (lv' := [(0, .ref p0), (1, .int p1), (2, .int p2)]) rfl ?_
          exact exX7_count_44 _ _ _ _ hq
        · rw [if_neg c14] at hq
          refine ic_eq_F (t := 44) odX7_count rfl rfl c14 ?_
          refine mB_run odX7_count 2 (g := (39, [(0, .ref p0), (1, .int p1), (2, .int p2)], [.int (3 : Int32), .int p2], o1.1, 0, 0)) rfl ?_
          by_cases c15 : p2 = (3 : Int32)
          · rw [if_pos c15] at hq
            refine ic_eq_T (t := 44) odX7_count rfl rfl c15 ?_
            refine mB_lv [0, 1, 2] (lv' := [(0, .ref p0), (1, .int p1), (2, .int p2)]) rfl ?_
            exact exX7_count_44 _ _ _ _ hq
          · rw [if_neg c15] at hq
            refine ic_eq_F (t := 44) odX7_count rfl rfl c15 ?_
            refine mB_run odX7_count 1 (g := (43, [(0, .ref p0), (1, .int p1), (2, .int p2)], [.int (-1 : Int32)], o1.1, 0, 0)) rfl ?_
            cases hq
            exact mB_ret odX7_count rfl
