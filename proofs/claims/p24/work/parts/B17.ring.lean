theorem exv_iff {s : cS} {b f x : Nat} (bn : bd3 (bN s b f) 81608) (bd : bd3 (pc s (b + 1) x) 100) : exv s b f x = 0 ↔ vd (bN s b f) (pc s (b + 1) x) = bD s b f := by
  have dot := bv_dot (x := bN s b f) (y := pc s (b + 1) x) (bt32 (a := qA s (b + 5) (4 * f)) rfl bn.1) (bt32 (a := qA s (b + 5) (4 * f + 1)) rfl bn.2.1) (bt32 (a := qA s (b + 5) (4 * f + 2)) rfl bn.2.2) (bt32 (a := qA s (b + 1 + 1) x) rfl bd.1) (bt32 (a := qA s (b + 1 + 2) x) rfl bd.2.1) (bt32 (a := qA s (b + 1 + 3) x) rfl bd.2.2) (by decide)
  constructor
  · intro z
    unfold exv at z
    have z' := congrArg (fun v => v + (qA s (b + 5) (4 * f + 3)).toInt64 * 1) z
    rw [Int64.sub_add_cancel, Int64.mul_one, Int64.zero_add] at z'
    have z2 := congrArg Int64.toInt z'
    rw [dot.1] at z2
    rw [z2, Int32.toInt_toInt64]
    rfl
  · intro e
    have d1 := dot.1
    rw [e] at d1
    have d2 : ((qA s (b + 5) (4 * f + 3)).toInt64).toInt = bD s b f := Int32.toInt_toInt64 _
    have d3 := Int64.toInt_inj.mp (d1.trans d2.symm)
    unfold exv
    rw [d3, Int64.mul_one, Int64.sub_self]
theorem oc_eq {s : cS} {b f n : Nat} (bn : bd3 (bN s b f) 81608) (bd : ∀ j, j < n → bd3 (pc s (b + 1) j) 100) : oc s b f n = sm (onp (pc s (b + 1)) (bN s b) (bD s b) f) n := by
  refine sm_ext n (fun x hx => ?_)
  unfold onp
  by_cases c : vd (bN s b f) (pc s (b + 1) x) = bD s b f
  · rw [if_pos c, if_pos ((exv_iff bn (bd x hx)).mpr c)]
  · rw [if_neg c, if_neg (fun w => c ((exv_iff bn (bd x hx)).mp w))]
/-- facing, and its value -/
theorem c_facingV {N b f i j k : Nat} {s : cS} (hb : isB b) (hf : f < 44) (hi : i < 24) (hj : j < 24) (hk : k < 24) (bn : bd3 (bN s b f) 81608) (bi : bd3 (pc s (b + 1) i) 100) (bj : bd3 (pc s (b + 1) j) 100) (bk : bd3 (pc s (b + 1) k) 100) : ∃ v, fxX0_facing N b (Int32.ofNat f) (Int32.ofNat i) (Int32.ofNat j) (Int32.ofNat k) (hC s) = some (hC s, v) ∧ bv v (br (bN s b f) (pc s (b + 1) i) (pc s (b + 1) j) (pc s (b + 1) k)) 78343680000 := by
  obtain ⟨h0, h1, h5, -⟩ := isB_sh hb
  have h1' : (shp (b + 1)).1 = 3 := by rw [h1]
  obtain ⟨v1, q1, w1⟩ := c_acX (N := N) (s := s) h1 (by decide) hi hj hk
  obtain ⟨v2, q2, w2⟩ := c_acY (N := N) (s := s) h1 (by decide) hi hj hk
  obtain ⟨v3, q3, w3⟩ := c_acZ (N := N) (s := s) h1 (by decide) hi hj hk
  have bi' := bd3_le bi (show 100 ≤ 200 by decide)
  have bj' := bd3_le bj (show 100 ≤ 200 by decide)
  have bk' := bd3_le bk (show 100 ≤ 200 by decide)
  have dot := bv_dot (x := bN s b f) (y := vx (vs (pc s (b + 1) j) (pc s (b + 1) i)) (vs (pc s (b + 1) k) (pc s (b + 1) i))) (bt32 (a := qA s (b + 5) (4 * f)) rfl bn.1) (bt32 (a := qA s (b + 5) (4 * f + 1)) rfl bn.2.1) (bt32 (a := qA s (b + 5) (4 * f + 2)) rfl bn.2.2) (w1 bi' bj' bk') (w2 bi' bj' bk') (w3 bi' bj' bk') (by decide)
  unfold fxX0_facing
  simp only [gR_0_3 h0, gR_0_1 h0, kO_3 h1', Option.bind_some, i_c4, i_s, i_a2, aI_N h5 (show 4 * f < 176 by omega) (by decide), aI_N h5 (show 4 * f + 1 < 176 by omega) (by decide), aI_N h5 (show 4 * f + 2 < 176 by omega) (by decide), q1, q2, q3]
  exact ⟨_, rfl, bv_le dot (by decide)⟩
/-- the points of plane f among the first k, laid into the row of rings from start on -/
def LI (s : cS) (b f start k c : Nat) (l : Nat → Nat) (g : Nat → Int32) : Prop := (∀ i, i < start → g i = qA s (b + 7) i) ∧ (∀ j, j < c → g (start + j) = Int32.ofNat (l j) ∧ l j < k ∧ vd (bN s b f) (pc s (b + 1) (l j)) = bD s b f) ∧ (∀ i j, i < j → j < c → l i < l j) ∧ (∀ i, i < k → vd (bN s b f) (pc s (b + 1) i) = bD s b f → ∃ j, j < c ∧ l j = i) ∧ c = oc s b f k
theorem d_lr5 {N b n f start : Nat} {s : cS} (hb : isB b) (hf : f < 44) (hn : n ≤ 24) (h1 : qI s (b + 1) 0 = Int32.ofNat n) (bn : bd3 (bN s b f) 81608) (bd : ∀ j, j < n → bd3 (pc s (b + 1) j) 100) (cap : start + oc s b f n ≤ 132) : ∀ (r k fu c : Nat) (l : Nat → Nat) (g : Nat → Int32), k + r = n → r < fu → LI s b f start k c l g → ∃ c' l' g', fxX0_layRing_5 N fu b (Int32.ofNat f) (Int32.ofNat start) (Int32.ofNat (start + c)) (Int32.ofNat k) (hC (uA s (b + 7) g)) = fxX0_layRing_87 N b (Int32.ofNat f) (Int32.ofNat start) (Int32.ofNat (start + c')) (hC (uA s (b + 7) g')) ∧ LI s b f start n c' l' g' := by
  obtain ⟨h0, hp, h5, -, h7, -⟩ := isB_sh hb
  obtain ⟨hp3, d1, d2, d3⟩ := pt_sh hp
  intro r
  induction r with
  | zero =>
    intro k fu c l g hk hfu h
    obtain ⟨fu', rfl⟩ : ∃ f', fu = f' + 1 := ⟨fu - 1, by omega⟩
    have e0 : k = n := by omega
    subst e0
    refine ⟨c, l, g, ?_, h⟩
    rw [fxX0_layRing_5, gR_0_1 h0, Option.bind_some, gI_3_0 hp3, Option.bind_some, qI_uA, h1, if_pos (Int32.le_refl _)]
  | succ r ih =>
    intro k fu c l g hk hfu h
    obtain ⟨fu', rfl⟩ : ∃ f', fu = f' + 1 := ⟨fu - 1, by omega⟩
    have H := h
    obtain ⟨g1, g2, g3, g4, g5⟩ := H
    have ne : ¬ (Int32.ofNat n ≤ Int32.ofNat k) := by
      rw [i_le (by omega) (by omega)]
      omega
    have mono : ∀ x y, x ≤ y → oc s b f x ≤ oc s b f y := fun x y hxy => sm_mono (fun x => if exv s b f x = 0 then 1 else 0) hxy
    have ocs : ∀ x, oc s b f (x + 1) = oc s b f x + (if exv s b f x = 0 then 1 else 0) := fun x => rfl
    have lekn := mono k n (by omega)
    rw [fxX0_layRing_5, gR_0_1 h0, Option.bind_some, gI_3_0 hp3, Option.bind_some, qI_uA, h1, if_neg ne, gR_0_5 h0, Option.bind_some, aL_10 h7, Option.bind_some]
    by_cases cc : start + c = 132
    · have le : Int32.ofNat 132 ≤ Int32.ofNat (start + c) := by
        rw [i_le (by omega) (by omega)]
        omega
      rw [if_pos le]
      refine ⟨c, l, g, rfl, g1, fun j hj => ⟨(g2 j hj).1, by have := (g2 j hj).2.1; omega, (g2 j hj).2.2⟩, g3, fun i hi e => ?_, by omega⟩
      by_cases ik : i < k
      · exact g4 i ik e
      · exfalso
        have m1 := mono k i (by omega)
        have m2 := mono (i + 1) n (by omega)
        have m3 := ocs i
        rw [if_pos ((exv_iff bn (bd i hi)).mpr e)] at m3
        omega
    · have le : ¬ (Int32.ofNat 132 ≤ Int32.ofNat (start + c)) := by
        rw [i_le (by omega) (by omega)]
        omega
      rw [if_neg le, Option.bind_some, gR_3_1 hp3, Option.bind_some, aI_N d1 (show k < 24 by omega) (by decide), Option.bind_some, Option.bind_some, gR_3_2 hp3, Option.bind_some, aI_N d2 (show k < 24 by omega) (by decide), Option.bind_some, Option.bind_some, gR_3_3 hp3, Option.bind_some, aI_N d3 (show k < 24 by omega) (by decide), Option.bind_some, kO_0 h0, Option.bind_some, c_excess hb hf, Option.bind_some]
      dsimp only
      rw [qA_ne (show b + 5 ≠ b + 7 by omega), qA_ne (show b + 1 + 1 ≠ b + 7 by omega), qA_ne (show b + 1 + 2 ≠ b + 7 by omega), qA_ne (show b + 1 + 3 ≠ b + 7 by omega)]
      show ∃ c' l' g', (if exv s b f k = 0 then _ else _) = _ ∧ _
      have iff := exv_iff (s := s) (b := b) (f := f) (x := k) bn (bd k (by omega))
      by_cases z : exv s b f k = 0
      · rw [if_pos z, gR_0_5 h0, Option.bind_some, wI_N h7 (show start + c < 132 by omega) (by decide), Option.bind_some, uA_uA, qA_eq]
        unfold fxX0_layRing_81
        rw [i_s, i_s]
        have lo : ∀ j, j < c → (fun j => if j = c then k else l j) j = l j := fun j hj => if_neg (by omega)
        have lc : (fun j => if j = c then k else l j) c = k := if_pos rfl
        refine ih (k + 1) fu' (c + 1) (fun j => if j = c then k else l j) _ (by omega) (by omega) ⟨fun i hi => ?_, fun j hj => ?_, fun i j hij hj => ?_, fun i hi e => ?_, ?_⟩
        · rw [u_ne (by omega)]
          exact g1 i hi
        · by_cases d : j = c
          · rw [d, u_eq, lc]
            exact ⟨rfl, by omega, iff.mp z⟩
          · rw [u_ne (by omega), lo j (by omega)]
            have := g2 j (by omega)
            exact ⟨this.1, by omega, this.2.2⟩
        · by_cases d : j = c
          · rw [d, lc, lo i (by omega)]
            have := g2 i (by omega)
            omega
          · rw [lo i (by omega), lo j (by omega)]
            exact g3 i j hij (by omega)
        · by_cases d : i = k
          · exact ⟨c, by omega, by rw [lc, d]⟩
          · obtain ⟨j, hj, ej⟩ := g4 i (by omega) e
            exact ⟨j, by omega, by rw [lo j hj]; exact ej⟩
        · rw [ocs, if_pos z]
          omega
      · rw [if_neg z]
        unfold fxX0_layRing_81
        rw [i_s]
        refine ih (k + 1) fu' c l g (by omega) (by omega) ⟨g1, fun j hj => ⟨(g2 j hj).1, by have := (g2 j hj).2.1; omega, (g2 j hj).2.2⟩, g3, fun i hi e => ?_, ?_⟩
        · by_cases d : i = k
          · rw [d] at e
            exact absurd (iff.mpr e) z
          · exact g4 i (by omega) e
        · rw [ocs, if_neg z]
          omega
/-- the row of rings holds the points l in the order π -/
def GI (s : cS) (b start c : Nat) (l π : Nat → Nat) (g : Nat → Int32) : Prop := (∀ i, i < start → g i = qA s (b + 7) i) ∧ (∀ j, j < c → g (start + j) = Int32.ofNat (l (π j)) ∧ π j < c) ∧ (∀ i j, i < c → j < c → π i = π j → i = j) ∧ ∀ x, x < c → ∃ y, y < c ∧ π y = x
/-- the search for the next one round, and the change of places -/
theorem d_lr110 {N b n f start c i : Nat} {s : cS} {g : Nat → Int32} {l π : Nat → Nat} {rec : Nat → Int32 → Int32 → Int32 → mh → Option (mh × Int32)} {d : Int} (hb : isB b) (hf : f < 44) (hn : n ≤ 24) (bn : bd3 (bN s b f) 81608) (bd : ∀ j, j < n → bd3 (pc s (b + 1) j) 100) (hm : 0 < vd (bN s b f) (bN s b f)) (hl : ∀ j, j < c → l j < n) (hpl : ∀ k, k < c → vd (bN s b f) (pc s (b + 1) (l k)) = d) (hex : ∀ a, a < c → ex (fun k => pc s (b + 1) (l k)) c a) (cap : start + c ≤ 132) (h : GI s b start c l π g) (hi2 : i + 2 < c) : ∀ (r j fu nx : Nat), j + r = c → r < fu → i + 1 ≤ nx → nx < c → i + 2 ≤ j → nx < j → nx1 (bN s b f) (fun k => pc s (b + 1) (l k)) (π i) (π nx) (fun k => ∃ x, i + 1 ≤ x ∧ x < j ∧ k = π x) → ∃ g' π', fxX0_layRing_110 N rec fu b (Int32.ofNat f) (Int32.ofNat (start + c)) (Int32.ofNat (start + i)) (Int32.ofNat (start + nx)) (Int32.ofNat (start + j)) (hC (uA s (b + 7) g)) = rec b (Int32.ofNat f) (Int32.ofNat (start + c)) (Int32.ofNat (start + (i + 1))) (hC (uA s (b + 7) g')) ∧ GI s b start c l π' g' ∧ (∀ x, x ≤ i → π' x = π x) ∧ nx1 (bN s b f) (fun k => pc s (b + 1) (l k)) (π i) (π' (i + 1)) (fun k => ∃ x, i + 1 ≤ x ∧ x < c ∧ k = π' x) := by
  obtain ⟨h0, hp, h5, -, h7, -⟩ := isB_sh hb
  obtain ⟨g1, g2, g3, g4⟩ := h
  intro r
  induction r with
  | zero =>
    intro j fu nx hj hfu n1 n2 j2 nj hnx
    obtain ⟨fu', rfl⟩ : ∃ f', fu = f' + 1 := ⟨fu - 1, by omega⟩
    have e0 : j = c := by omega
    subst e0
    have ei : Int32.ofNat (start + i) + 1 = Int32.ofNat (start + (i + 1)) := i_s (start + i)
    rw [fxX0_layRing_110, if_pos (Int32.le_refl _), gR_0_5 h0, Option.bind_some, ei, aI_N h7 (show start + (i + 1) < 132 by omega) (by decide), Option.bind_some, Option.bind_some, Option.bind_some, aI_N h7 (show start + nx < 132 by omega) (by decide), Option.bind_some, wI_N h7 (show start + (i + 1) < 132 by omega) (by decide), Option.bind_some, uA_uA, qA_eq, gR_0_5 h0, Option.bind_some, wI_N h7 (show start + nx < 132 by omega) (by decide), Option.bind_some, uA_uA, qA_eq]
    have pn : (fun x => if x = nx then π (i + 1) else if x = i + 1 then π nx else π x) nx = π (i + 1) := if_pos rfl
    have pi1 : (fun x => if x = nx then π (i + 1) else if x = i + 1 then π nx else π x) (i + 1) = π nx := by
      dsimp only
      by_cases q : i + 1 = nx
      · rw [if_pos q, q]
      · rw [if_neg q, if_pos rfl]
    have po : ∀ x, x ≠ nx → x ≠ i + 1 → (fun x => if x = nx then π (i + 1) else if x = i + 1 then π nx else π x) x = π x := fun x a b => by
      dsimp only
      rw [if_neg a, if_neg b]
    generalize hπ : (fun x => if x = nx then π (i + 1) else if x = i + 1 then π nx else π x) = π' at pn pi1 po
    have back : ∀ x, i + 1 ≤ x → x < j → ∃ y, i + 1 ≤ y ∧ y < j ∧ π' x = π y := fun x a b => by
      by_cases q : x = nx
      · exact ⟨i + 1, by omega, by omega, by rw [q]; exact pn⟩
      · by_cases q2 : x = i + 1
        · exact ⟨nx, by omega, by omega, by rw [q2]; exact pi1⟩
        · exact ⟨x, a, b, po x q q2⟩
    refine ⟨_, π', rfl, ⟨fun x hx => ?_, fun x hx => ?_, fun x y hx hy e => ?_, fun x hx => ?_⟩, fun x hx => po x (by omega) (by omega), ?_⟩
    · rw [u_ne (by omega), u_ne (by omega)]
      exact g1 x hx
    · by_cases q : x = nx
      · rw [q, u_eq, pn]
        exact g2 (i + 1) (by omega)
      · rw [u_ne (by omega)]
        by_cases q2 : x = i + 1
        · rw [q2, u_eq, pi1]
          exact g2 nx n2
        · rw [u_ne (by omega), po x q q2]
          exact g2 x hx
    · by_cases q : x = nx
      · rw [q, pn] at e
        by_cases q2 : y = nx
        · omega
        · by_cases q3 : y = i + 1
          · rw [q3, pi1] at e
            have := g3 _ _ (by omega) n2 e
            omega
          · rw [po y q2 q3] at e
            have := g3 _ _ (by omega) hy e
            omega
      · by_cases q1 : x = i + 1
        · rw [q1, pi1] at e
          by_cases q2 : y = nx
          · rw [q2, pn] at e
            have := g3 _ _ n2 (by omega) e
            omega
          · by_cases q3 : y = i + 1
            · omega
            · rw [po y q2 q3] at e
              have := g3 _ _ n2 hy e
              omega
        · rw [po x q q1] at e
          by_cases q2 : y = nx
          · rw [q2, pn] at e
            have := g3 _ _ hx (by omega) e
            omega
          · by_cases q3 : y = i + 1
            · rw [q3, pi1] at e
              have := g3 _ _ hx n2 e
              omega
            · rw [po y q2 q3] at e
              exact g3 _ _ hx hy e
    · obtain ⟨y, hy, ey⟩ := g4 x hx
      by_cases q2 : y = nx
      · exact ⟨i + 1, by omega, by rw [pi1, ← q2]; exact ey⟩
      · by_cases q3 : y = i + 1
        · exact ⟨nx, n2, by rw [pn, ← q3]; exact ey⟩
        · exact ⟨y, hy, by rw [po y q2 q3]; exact ey⟩
    · intro k ⟨x, a, b, e⟩ ka
      obtain ⟨y, a', b', e'⟩ := back x a b
      rw [pi1]
      exact hnx k ⟨y, a', b', e.trans e'⟩ ka
  | succ r ih =>
    intro j fu nx hj hfu n1 n2 j2 nj hnx
    obtain ⟨fu', rfl⟩ : ∃ f', fu = f' + 1 := ⟨fu - 1, by omega⟩
    have ne : ¬ (Int32.ofNat (start + c) ≤ Int32.ofNat (start + j)) := by
      rw [i_le (by omega) (by omega)]
      omega
    obtain ⟨e1, p1⟩ := g2 i (by omega)
    obtain ⟨e2, p2⟩ := g2 nx n2
    obtain ⟨e3, p3⟩ := g2 j (by omega)
    have l1 := hl _ p1
    have l2 := hl _ p2
    have l3 := hl _ p3
    have pe : ∀ x, pc (uA s (b + 7) g) (b + 1) x = pc s (b + 1) x := fun x => by
      unfold pc
      rw [qA_ne (show b + 1 + 1 ≠ b + 7 by omega), qA_ne (show b + 1 + 2 ≠ b + 7 by omega), qA_ne (show b + 1 + 3 ≠ b + 7 by omega)]
    have be : bN (uA s (b + 7) g) b f = bN s b f := by
      unfold bN
      rw [qA_ne (show b + 5 ≠ b + 7 by omega)]
    obtain ⟨v, q, bvv⟩ := c_facingV (N := N) (s := uA s (b + 7) g) hb hf (show l (π i) < 24 by omega) (show l (π nx) < 24 by omega) (show l (π j) < 24 by omega) (by rw [be]; exact bn) (by rw [pe]; exact bd _ l1) (by rw [pe]; exact bd _ l2) (by rw [pe]; exact bd _ l3)
    rw [be, pe, pe, pe] at bvv
    have v0' := i64_le (a := 0) (b := v) (x := 0) rfl bvv.1
    have ja : π j ≠ π i := fun e => by
      have := g3 j i (by omega) (by omega) e
      omega
    have na : π nx ≠ π i := fun e => by
      have := g3 nx i (by omega) (by omega) e
      omega
    have jn : π nx ≠ π j := fun e => by
      have := g3 nx j (by omega) (by omega) e
      omega
    obtain ⟨st1, st2⟩ := nx_step (r := π j) hm hpl p1 (hex _ p1) p2 na p3 ja (fun k ⟨x, _, _, e⟩ => by rw [e]; exact (g2 x (by omega)).2) hnx
    have col := br_col hm hpl hex p1 p2 p3 (Ne.symm na) (Ne.symm ja) jn
    rw [fxX0_layRing_110, if_neg ne, gR_0_5 h0, Option.bind_some, aI_N h7 (show start + i < 132 by omega) (by decide), Option.bind_some, Option.bind_some, aI_N h7 (show start + nx < 132 by omega) (by decide), Option.bind_some, Option.bind_some, aI_N h7 (show start + j < 132 by omega) (by decide), Option.bind_some, kO_0 h0, Option.bind_some, qA_eq, e1, e2, e3, q, Option.bind_some]
    dsimp only
    unfold fxX0_layRing_151
    have ej : Int32.ofNat (start + j) + 1 = Int32.ofNat (start + (j + 1)) := i_s (start + j)
    rw [ej]
    have mo : ∀ z, nx1 (bN s b f) (fun k => pc s (b + 1) (l k)) (π i) (π z) (fun k => (∃ x, i + 1 ≤ x ∧ x < j ∧ k = π x) ∨ k = π j) → nx1 (bN s b f) (fun k => pc s (b + 1) (l k)) (π i) (π z) (fun k => ∃ x, i + 1 ≤ x ∧ x < j + 1 ∧ k = π x) := fun z hz k ⟨x, a, b, e⟩ ka => hz k (by
      by_cases q : x = j
      · exact .inr (by rw [e, q])
      · exact .inl ⟨x, a, by omega, e⟩) ka
    by_cases cc : (0 : Int64) ≤ v
    · rw [if_pos cc]
      rw [v0'] at cc
      refine ih (j + 1) fu' nx (by omega) (by omega) n1 n2 (by omega) (by omega) (mo nx (st2 (fun w => ?_)))
      rcases w with w | w
      · exact absurd w (by omega)
      · exact col w.1
    · rw [if_neg cc]
      rw [v0'] at cc
      exact ih (j + 1) fu' j (by omega) (by omega) (by omega) (by omega) (by omega) (by omega) (mo j (st1 (.inl (Int.not_le.mp cc))))
theorem nx1_self {n : V3} {Q : Nat → V3} {a b : Nat} : nx1 n Q a b (fun k => k = b) := fun k e _ => by
  subst e
  have z : br n (Q a) (Q k) (Q k) = 0 := by
    unfold br
    rw [vx_self, vd_0r]
  exact ⟨by omega, fun _ => Int.le_refl _⟩
/-- the ring is laid in the order of the way round -/
theorem d_lr90 {N b n f start c : Nat} {s : cS} {l w : Nat → Nat} {d : Int} (hN : 600 < N) (hb : isB b) (hf : f < 44) (hn : n ≤ 24) (bn : bd3 (bN s b f) 81608) (bd : ∀ j, j < n → bd3 (pc s (b + 1) j) 100) (hm : 0 < vd (bN s b f) (bN s b f)) (hl : ∀ j, j < c → l j < n) (hpl : ∀ k, k < c → vd (bN s b f) (pc s (b + 1) (l k)) = d) (hex : ∀ a, a < c → ex (fun k => pc s (b + 1) (l k)) c a) (cap : start + c ≤ 132) (w1 : ∀ j, j < c → w j < c) (w2 : ∀ i j, i < j → j < c → w i ≠ w j) (w3 : ∀ j, j < c → nx1 (bN s b f) (fun k => pc s (b + 1) (l k)) (w j) (w (j + 1)) (fun k => k < c)) : ∀ (r i fu : Nat) (g : Nat → Int32) (π : Nat → Nat), c ≤ i + 2 + r → r < fu → i + 2 ≤ c → GI s b start c l π g → (∀ x, x ≤ i → π x = w x) → ∃ g', fxX0_layRing_90 N fu b (Int32.ofNat f) (Int32.ofNat (start + c)) (Int32.ofNat (start + i)) (hC (uA s (b + 7) g)) = some (hC (uA s (b + 7) g'), Int32.ofNat (start + c)) ∧ (∀ i, i < start → g' i = qA s (b + 7) i) ∧ ∀ j, j < c → g' (start + j) = Int32.ofNat (l (w j)) := by
  have fin : ∀ (i : Nat) (g : Nat → Int32) (π : Nat → Nat), c ≤ i + 2 → i + 2 ≤ c → GI s b start c l π g → (∀ x, x ≤ i → π x = w x) → (∀ i, i < start → g i = qA s (b + 7) i) ∧ ∀ j, j < c → g (start + j) = Int32.ofNat (l (w j)) := fun i g π h1 h2 h hw => by
    obtain ⟨g1, g2, g3, g4⟩ := h
    refine ⟨g1, fun j hj => ?_⟩
    rw [(g2 j hj).1]
    by_cases q : j ≤ i
    · rw [hw j q]
    · have ej : j = i + 1 := by omega
      obtain ⟨y, hy, ey⟩ := g4 (w j) (w1 j hj)
      by_cases q2 : y ≤ i
      · rw [hw y q2] at ey
        exact absurd ey (w2 y j (by omega) hj)
      · rw [show y = j by omega] at ey
        rw [ey]
  intro r
  induction r with
  | zero =>
    intro i fu g π hi hfu h2 h hw
    obtain ⟨fu', rfl⟩ : ∃ f', fu = f' + 1 := ⟨fu - 1, by omega⟩
    have le : Int32.ofNat (start + c) ≤ Int32.ofNat (start + i + 2) := by
      rw [i_le (by omega) (by omega)]
      omega
    rw [fxX0_layRing_90, i_a2, if_pos le]
    exact ⟨g, rfl, fin i g π hi h2 h hw⟩
  | succ r ih =>
    intro i fu g π hi hfu h2 h hw
    obtain ⟨fu', rfl⟩ : ∃ f', fu = f' + 1 := ⟨fu - 1, by omega⟩
    rw [fxX0_layRing_90, i_a2]
    by_cases cc : c ≤ i + 2
    · have le : Int32.ofNat (start + c) ≤ Int32.ofNat (start + i + 2) := by
        rw [i_le (by omega) (by omega)]
        omega
      rw [if_pos le]
      exact ⟨g, rfl, fin i g π cc h2 h hw⟩
    · have le : ¬ (Int32.ofNat (start + c) ≤ Int32.ofNat (start + i + 2)) := by
        rw [i_le (by omega) (by omega)]
        omega
      rw [if_neg le, i_s]
      obtain ⟨g', π', q, h', hw', nx⟩ := d_lr110 (N := N) (rec := fxX0_layRing_90 N fu') hb hf hn bn bd hm hl hpl hex cap h (show i + 2 < c by omega) (c - (i + 2)) (i + 2) N (i + 1) (by omega) (by omega) (by omega) (by omega) (by omega) (by omega) (fun k ⟨x, xa, xb, e⟩ ka => nx1_self (n := bN s b f) (Q := fun k => pc s (b + 1) (l k)) (a := π i) (b := π (i + 1)) k (by rw [e, show x = i + 1 by omega]) ka)
      have q' : fxX0_layRing_110 N (fxX0_layRing_90 N fu') N b (Int32.ofNat f) (Int32.ofNat (start + c)) (Int32.ofNat (start + i)) (Int32.ofNat (start + i + 1)) (Int32.ofNat (start + i + 2)) (hC (uA s (b + 7) g)) = fxX0_layRing_90 N fu' b (Int32.ofNat f) (Int32.ofNat (start + c)) (Int32.ofNat (start + (i + 1))) (hC (uA s (b + 7) g')) := q
      rw [q']
      have wi : ∀ x, x ≤ i → π' x = w x := fun x hx => (hw' x hx).trans (hw x hx)
      obtain ⟨g1', g2', g3', g4'⟩ := h'
      have nxt : π' (i + 1) = w (i + 1) := by
        rw [hw i (Nat.le_refl i)] at nx
        refine sel_next hm hpl hex (w1 i (by omega)) (g2' (i + 1) (by omega)).2 (w1 (i + 1) (by omega)) (fun e => ?_) (fun e => w2 i (i + 1) (by omega) (by omega) e.symm) (w3 i (by omega)) (fun _ => ?_)
        · rw [← wi i (Nat.le_refl i)] at e
          have := g3' _ _ (by omega) (by omega) e
          omega
        · obtain ⟨y, hy, ey⟩ := g4' (w (i + 1)) (w1 (i + 1) (by omega))
          have yi : i + 1 ≤ y := by
            by_cases q2 : y ≤ i
            · rw [wi y q2] at ey
              exact absurd ey (w2 y (i + 1) (by omega) (by omega))
            · omega
          exact (nx (w (i + 1)) ⟨y, yi, hy, ey.symm⟩ (fun e => w2 i (i + 1) (by omega) (by omega) e.symm)).1
      refine ih (i + 1) fu' g' π' (by omega) (by omega) (by omega) ⟨g1', g2', g3', g4'⟩ (fun x hx => ?_)
      by_cases q2 : x = i + 1
      · rw [q2]
        exact nxt
      · exact wi x (by omega)
/-- layRing: the ring as the reference has it -/
theorem d_layRing {N b n f start : Nat} {s : cS} (hN : 600 < N) (hb : isB b) (hf : f < 44) (hn : n ≤ 24) (h1 : qI s (b + 1) 0 = Int32.ofNat n) (bn : bd3 (bN s b f) 81608) (bd : ∀ j, j < n → bd3 (pc s (b + 1) j) 100) (hfc : fc (pc s (b + 1)) n (bN s b f) (bD s b f)) (hex : ∀ a, a < n → ex (pc s (b + 1)) n a) (cap : start + oc s b f n ≤ 132) : ∃ ρ g, fxX0_layRing N b (Int32.ofNat f) (Int32.ofNat start) (hC s) = some (hC (uA s (b + 7) g), Int32.ofNat (start + oc s b f n)) ∧ (∀ i, i < start → g i = qA s (b + 7) i) ∧ (∀ j, j < oc s b f n → g (start + j) = Int32.ofNat (ρ j) ∧ ρ j < n) ∧ rgF (pc s (b + 1)) n (bN s b f) (bD s b f) (oc s b f n) ρ ∧ 3 ≤ oc s b f n := by
  have hm : 0 < vd (bN s b f) (bN s b f) := prim_pos hfc.2.2
  obtain ⟨c, l, g, q, g1, g2, g3, g4, g5⟩ := d_lr5 (N := N) (f := f) (start := start) hb hf hn h1 bn bd cap n 0 N 0 (fun _ => 0) (qA s (b + 7)) (by omega) (by omega) ⟨fun _ _ => rfl, fun j hj => absurd hj (by omega), fun i j _ hj => absurd hj (by omega), fun i hi => absurd hi (by omega), rfl⟩
  rw [uA_self] at q
  subst g5
  have c3 : 3 ≤ oc s b f n := by
    rw [oc_eq bn bd]
    exact on_three (nf := bN s b) (df := bD s b) hfc
  have lj : ∀ k a, k < oc s b f n → a < oc s b f n → l k = l a → k = a := fun k a hk ha e => by
    rcases Nat.lt_trichotomy k a with z | z | z
    · have := g3 k a z ha
      omega
    · exact z
    · have := g3 a k z hk
      omega
  have hex' : ∀ a, a < oc s b f n → ex (fun k => pc s (b + 1) (l k)) (oc s b f n) a := fun a ha => by
    obtain ⟨u, hu⟩ := hex (l a) (g2 a ha).2.1
    exact ⟨u, fun k hk ka => hu (l k) (g2 k hk).2.1 (fun e => ka (lj k a hk ha e))⟩
  have hdi : ∀ i j, i < oc s b f n → j < oc s b f n → i ≠ j → pc s (b + 1) (l i) ≠ pc s (b + 1) (l j) := fun i j hi hj ij e => by
    obtain ⟨u, hu⟩ := hex' i hi
    have := hu j hj (Ne.symm ij)
    dsimp only at this
    rw [e] at this
    omega
  obtain ⟨w, w0, wc, w1, w2, w3, w4⟩ := walk (Q := fun k => pc s (b + 1) (l k)) hm (fun k hk => (g2 k hk).2.2) hdi hex' c3
  have le24 : oc s b f n ≤ 24 := by
    have := pigeon n (oc s b f n) l (fun k hk => (g2 k hk).2.1) (fun i j hij hj e => by
      have := g3 i j hij hj
      omega)
    omega
  obtain ⟨g', q', r1, r2⟩ := d_lr90 (N := N) (f := f) (start := start) (l := l) (w := w) (d := bD s b f) hN hb hf hn bn bd hm (fun j hj => (g2 j hj).2.1) (fun k hk => (g2 k hk).2.2) hex' cap w1 w2 w4 (oc s b f n) 0 N g (fun x => x) (by omega) (by omega) (by omega) ⟨g1, fun j hj => ⟨(g2 j hj).1, hj⟩, fun i j _ _ e => e, fun x hx => ⟨x, hx, rfl⟩⟩ (fun x hx => by rw [show x = 0 by omega, w0])
  refine ⟨fun j => l (w j), g', ?_, r1, fun j hj => ⟨r2 j hj, (g2 _ (w1 j hj)).2.1⟩, ?_, c3⟩
  · unfold fxX0_layRing
    exact q.trans q'
  · have cn' : oc s b f n ≤ n := pigeon n (oc s b f n) l (fun k hk => (g2 k hk).2.1) (fun i j hij hj e => by
      have := g3 i j hij hj
      omega)
    exact ⟨oc s b f n, l, w, cn', fun j hj => (g2 j hj).2, g3, g4, by omega, Nat.le_refl _, w0, fun j hj => ⟨rfl, w1 j hj, hex' _ (w1 j hj)⟩, w2, w4, wc⟩
/-- where ring f begins -/
def Rb (s : cS) (b n : Nat) : Nat → Nat := sm (fun x => oc s b x n)
/-- the rings as they are laid -/
def RX (s0 s : cS) (b n F : Nat) (ρ : Nat → Nat → Nat) : Prop := cf (fun i => i = b + 6 ∨ i = b + 7) s0 s ∧ (∀ f, f < F → qA s (b + 6) f = Int32.ofNat (Rb s0 b n f)) ∧ ∀ f, f < F → rgF (pc s0 (b + 1)) n (bN s0 b f) (bD s0 b f) (oc s0 b f n) (ρ f) ∧ 3 ≤ oc s0 b f n ∧ ∀ j, j < oc s0 b f n → qA s (b + 7) (Rb s0 b n f + j) = Int32.ofNat (ρ f j) ∧ ρ f j < n
theorem d_lrs4 {N b n F : Nat} {s0 : cS} (hN : 600 < N) (hb : isB b) (hF : F ≤ 44) (hn : n ≤ 24) (h1 : qI s0 (b + 1) 0 = Int32.ofNat n) (h2 : qI s0 b 2 = Int32.ofNat F) (bn : ∀ f, f < F → bd3 (bN s0 b f) 81608) (bd : ∀ j, j < n → bd3 (pc s0 (b + 1) j) 100) (hfc : ∀ f, f < F → fc (pc s0 (b + 1)) n (bN s0 b f) (bD s0 b f)) (hex : ∀ a, a < n → ex (pc s0 (b + 1)) n a) (cap : Rb s0 b n F ≤ 132) : ∀ (r f fu : Nat) (s : cS) (ρ : Nat → Nat → Nat), f + r = F → r < fu → RX s0 s b n f ρ → ∃ s' ρ', fxX0_layRings_4 N fu b (Int32.ofNat (Rb s0 b n f)) (Int32.ofNat f) (hC s) = some (hC s') ∧ RX s0 s' b n F ρ' ∧ qA s' (b + 6) F = Int32.ofNat (Rb s0 b n F) := by
  obtain ⟨h0, hp, h5, h6, h7, -⟩ := isB_sh hb
  intro r
  induction r with
  | zero =>
    intro f fu s ρ hf hfu h
    obtain ⟨fu', rfl⟩ : ∃ f', fu = f' + 1 := ⟨fu - 1, by omega⟩
    have e0 : f = F := by omega
    subst e0
    obtain ⟨c, g1, g2⟩ := h
    have e2 : qI s b 2 = Int32.ofNat f := by
      rw [c.I (fun w => by omega)]
      exact h2
    rw [fxX0_layRings_4, gI_0_2 h0, Option.bind_some, e2, if_pos (Int32.le_refl _), gR_0_4 h0, Option.bind_some, Option.bind_some, wI_N h6 (show f < 45 by omega) (by decide), Option.bind_some]
    refine ⟨_, ρ, rfl, ⟨c.tr (cf_uA _ (.inl rfl)), fun f' hf' => ?_, fun f' hf' => ⟨(g2 f' hf').1, (g2 f' hf').2.1, fun j hj => ?_⟩⟩, ?_⟩
    · rw [qA_eq, u_ne (by omega)]
      exact g1 f' hf'
    · rw [qA_ne (by omega)]
      exact (g2 f' hf').2.2 j hj
    · rw [qA_eq, u_eq]
  | succ r ih =>
    intro f fu s ρ hf hfu h
    obtain ⟨fu', rfl⟩ : ∃ f', fu = f' + 1 := ⟨fu - 1, by omega⟩
    obtain ⟨c, g1, g2⟩ := h
    have e2 : qI s b 2 = Int32.ofNat F := by
      rw [c.I (fun w => by omega)]
      exact h2
    have ne : ¬ (Int32.ofNat F ≤ Int32.ofNat f) := by
      rw [i_le (by omega) (by omega)]
      omega
    have c1 : cf (fun i => i = b + 6 ∨ i = b + 7) s0 (uA s (b + 6) (upd (qA s (b + 6)) f (Int32.ofNat (Rb s0 b n f)))) := c.tr (cf_uA _ (.inl rfl))
    have pe : ∀ x, pc (uA s (b + 6) (upd (qA s (b + 6)) f (Int32.ofNat (Rb s0 b n f)))) (b + 1) x = pc s0 (b + 1) x := pc_cf c1 (fun i a b w => by omega)
    have pe' : pc (uA s (b + 6) (upd (qA s (b + 6)) f (Int32.ofNat (Rb s0 b n f)))) (b + 1) = pc s0 (b + 1) := funext pe
    have be : bN (uA s (b + 6) (upd (qA s (b + 6)) f (Int32.ofNat (Rb s0 b n f)))) b f = bN s0 b f := by
      unfold bN
      rw [c1.A (fun w => by omega)]
    have de : bD (uA s (b + 6) (upd (qA s (b + 6)) f (Int32.ofNat (Rb s0 b n f)))) b f = bD s0 b f := by
      unfold bD
      rw [c1.A (fun w => by omega)]
    have oe := oc_cf c1 (b := b) (fun i a b w => by omega) f n
    have Rs : Rb s0 b n (f + 1) = Rb s0 b n f + oc s0 b f n := rfl
    have Rm : Rb s0 b n (f + 1) ≤ Rb s0 b n F := sm_mono _ (show f + 1 ≤ F by omega)
    obtain ⟨ρf, g, q, r1, r2, r3, r4⟩ := d_layRing (N := N) (f := f) (start := Rb s0 b n f) (s := uA s (b + 6) (upd (qA s (b + 6)) f (Int32.ofNat (Rb s0 b n f)))) hN hb (by omega) hn (by rw [c1.I (fun w => by omega)]; exact h1) (by rw [be]; exact bn f (by omega)) (fun j hj => by rw [pe]; exact bd j hj) (by rw [be, de, pe']; exact hfc f (by omega)) (fun a ha => by rw [pe']; exact hex a ha) (by rw [oe]; omega)
    rw [oe, be, de, pe'] at r3
    rw [oe] at q r2 r4
    rw [fxX0_layRings_4, gI_0_2 h0, Option.bind_some, e2, if_neg ne, gR_0_4 h0, Option.bind_some, wI_N h6 (show f < 45 by omega) (by decide), Option.bind_some, kO_0 h0, Option.bind_some, q, Option.bind_some]
    dsimp only
    rw [i_s]
    have ρe : ∀ x, x ≠ f → (fun x => if x = f then ρf else ρ x) x = ρ x := fun x hx => if_neg hx
    have ρn : (fun x => if x = f then ρf else ρ x) f = ρf := if_pos rfl
    refine ih (f + 1) fu' (uA (uA s (b + 6) (upd (qA s (b + 6)) f (Int32.ofNat (Rb s0 b n f)))) (b + 7) g) (fun x => if x = f then ρf else ρ x) (by omega) (by omega) ⟨c1.tr (cf_uA _ (.inr rfl)), fun x hx => ?_, fun x hx => ?_⟩
    · rw [qA_ne (by omega), qA_eq]
      by_cases d : x = f
      · rw [d, u_eq]
      · rw [u_ne d]
        exact g1 x (by omega)
    · by_cases d : x = f
      · subst d
        rw [ρn]
        refine ⟨r3, r4, fun j hj => ?_⟩
        rw [qA_eq]
        exact r2 j hj
      · rw [ρe x d]
        obtain ⟨y1, y2, y3⟩ := g2 x (by omega)
        refine ⟨y1, y2, fun j hj => ?_⟩
        have Rx : Rb s0 b n (x + 1) = Rb s0 b n x + oc s0 b x n := rfl
        have Rxm : Rb s0 b n (x + 1) ≤ Rb s0 b n f := sm_mono _ (show x + 1 ≤ f by omega)
        rw [qA_eq, r1 _ (by omega), qA_ne (by omega)]
        exact y3 j hj
/-- layRings -/
theorem d_layRings {N b n F : Nat} {s : cS} (hN : 600 < N) (hb : isB b) (hF : F ≤ 44) (hn : n ≤ 24) (h1 : qI s (b + 1) 0 = Int32.ofNat n) (h2 : qI s b 2 = Int32.ofNat F) (bn : ∀ f, f < F → bd3 (bN s b f) 81608) (bd : ∀ j, j < n → bd3 (pc s (b + 1) j) 100) (hfc : ∀ f, f < F → fc (pc s (b + 1)) n (bN s b f) (bD s b f)) (hex : ∀ a, a < n → ex (pc s (b + 1)) n a) (cap : Rb s b n F ≤ 132) : ∃ s' ρ, fxX0_layRings N b (hC s) = some (hC s') ∧ RX s s' b n F ρ ∧ qA s' (b + 6) F = Int32.ofNat (Rb s b n F) := by
  have := d_lrs4 (N := N) hN hb hF hn h1 h2 bn bd hfc hex cap F 0 N s (fun _ _ => 0) (by omega) (by omega) ⟨cf.rf, fun f hf => absurd hf (by omega), fun f hf => absurd hf (by omega)⟩
  unfold fxX0_layRings
  exact this
