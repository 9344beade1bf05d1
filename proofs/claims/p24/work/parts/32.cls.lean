theorem upd_at (f : Nat → Int32) (k : Nat) (x : Int32) (j : Nat) : upd f k x j = if j = k then x else f j := id rfl
theorem aI_N {s : cS} {a n k : Nat} (h : shp a = (10, n)) (hk : k < n) (hn : n < 2147483648) : aI (hC s) a (Int32.ofNat k) = some (qA s a k) := by
  rw [aI_C h (i_nb hk hn), i_tn (by omega)]
theorem wI_N {s : cS} {a n k : Nat} {x : Int32} (h : shp a = (10, n)) (hk : k < n) (hn : n < 2147483648) : wI (hC s) a (Int32.ofNat k) x = some (hC (uA s a (upd (qA s a) k x))) := by
  rw [wI_C h (i_nb hk hn), i_tn (by omega)]
theorem aI_0 {s : cS} {a n : Nat} (h : shp a = (10, n)) (hn : 0 < n) (h2 : n < 2147483648) : aI (hC s) a 0 = some (qA s a 0) := aI_N (k := 0) h hn h2
theorem wI_0 {s : cS} {a n : Nat} {x : Int32} (h : shp a = (10, n)) (hn : 0 < n) (h2 : n < 2147483648) : wI (hC s) a 0 x = some (hC (uA s a (upd (qA s a) 0 x))) := wI_N (k := 0) h hn h2
theorem pt_sh {p n : Nat} (h : shp p = (3, n)) : (shp p).1 = 3 ∧ shp (p + 1) = (10, n) ∧ shp (p + 2) = (10, n) ∧ shp (p + 3) = (10, n) := by
  have h3 : (shp p).1 = 3 := by rw [h]
  have e := sh_3 p (shp_lt (by rw [h3]; decide)) h3
  rw [h] at e
  exact ⟨h3, e⟩
theorem c_clear {N p : Nat} {s : cS} (h : (shp p).1 = 3) : fxX3_clear N p (hC s) = some (hC (uI s p 0 0)) := by
  unfold fxX3_clear
  rw [sI_3_0 h]
  rfl
/-- a point put behind the k that are there -/
def putS (s : cS) (p k : Nat) (x y z : Int32) : cS := uI (uA (uA (uA s (p + 1) (upd (qA s (p + 1)) k x)) (p + 2) (upd (qA s (p + 2)) k y)) (p + 3) (upd (qA s (p + 3)) k z)) p 0 (Int32.ofNat (k + 1))
theorem c_put {N p n k : Nat} {x y z : Int32} {s : cS} (h : shp p = (3, n)) (hn : n < 2147483648) (hk : qI s p 0 = Int32.ofNat k) (hkn : k < n) : fxX3_put N p x y z (hC s) = some (hC (putS s p k x y z)) := by
  obtain ⟨h3, e1, e2, e3⟩ := pt_sh h
  have c1 : ¬ (Int32.ofNat n ≤ Int32.ofNat k) := by
    rw [i_le (by omega) (by omega)]
    omega
  unfold fxX3_put putS
  simp only [gI_3_0 h3, gR_3_1 h3, gR_3_2 h3, gR_3_3 h3, Option.bind_some, aL_10 e1, hk, if_neg c1, wI_N e1 hkn hn, wI_N e2 hkn hn, wI_N e3 hkn hn, qI_uA, sI_3_0 h3, i_s]
  simp [qA_uA]
theorem c_far1 {N p n : Nat} {mx my mz : Int64} {s : cS} (h : shp p = (3, n)) (hn : n < 2147483648) (h0 : 0 < n) (h1 : qI s p 0 = 1) : fxX3_farthest (N + 1) p mx my mz (hC s) = some (hC s, 0) := by
  obtain ⟨h3, e1, e2, e3⟩ := pt_sh h
  unfold fxX3_farthest
  simp only [gR_3_1 h3, gR_3_2 h3, gR_3_3 h3, Option.bind_some, aI_0 e1 h0 hn, aI_0 e2 h0 hn, aI_0 e3 h0 hn]
  rw [fxX3_farthest_38, gI_3_0 h3, Option.bind_some, h1, if_pos (Int32.le_refl _)]
theorem c_seek {N p a b n m : Nat} {mx my mz : Int64} {s : cS} (hp : (shp p).1 = 2) (ha : shp a = (3, n)) (hb : shp b = (3, m)) (hn : n < 2147483648) (hm : m < 2147483648) (n0 : 0 < n) (m0 : 0 < m) (h1 : qI s a 0 = 1) (h2 : qI s b 0 = 1) : fxX2_seek (N + 1) p a b mx my mz (hC s) = some (hC (uI (uI (uI s p 4 (qA s (a + 1) 0 + qA s (b + 1) 0)) p 5 (qA s (a + 2) 0 + qA s (b + 2) 0)) p 6 (qA s (a + 3) 0 + qA s (b + 3) 0))) := by
  obtain ⟨a3, f1, f2, f3⟩ := pt_sh ha
  obtain ⟨b3, g1, g2, g3⟩ := pt_sh hb
  unfold fxX2_seek
  simp only [kO_3 a3, kO_3 b3, Option.bind_some, c_far1 ha hn n0 h1, c_far1 hb hm m0 h2, gR_3_1 a3, gR_3_2 a3, gR_3_3 a3, gR_3_1 b3, gR_3_2 b3, gR_3_3 b3, aI_0 f1 n0 hn, aI_0 f2 n0 hn, aI_0 f3 n0 hn, aI_0 g1 m0 hm, aI_0 g2 m0 hm, aI_0 g3 m0 hm, sI_2_4 hp, sI_2_5 hp, sI_2_6 hp, qA_uI]
def isPt (x y z : Int32) : Prop := ¬ x < -100 ∧ ¬ 100 < x ∧ ¬ y < -100 ∧ ¬ 100 < y ∧ ¬ z < -100 ∧ ¬ 100 < z
theorem pt_in {N : Nat} {x y z : Int32} {h : mh} (hp : isPt x y z) : fxX6_isPoint N x y z h = some (h, 1) := by
  obtain ⟨a, b, c, d, e, f⟩ := hp
  unfold fxX6_isPoint
  rw [if_neg a, if_neg b, if_neg c, if_neg d, if_neg e, if_neg f]
theorem pt_no {N : Nat} {x y z : Int32} {h : mh} (hp : ¬ isPt x y z) : fxX6_isPoint N x y z h = some (h, 0) := by
  unfold fxX6_isPoint
  by_cases a : x < -100
  · rw [if_pos a]
  by_cases b : 100 < x
  · rw [if_neg a, if_pos b]
  by_cases c : y < -100
  · rw [if_neg a, if_neg b, if_pos c]
  by_cases d : 100 < y
  · rw [if_neg a, if_neg b, if_neg c, if_pos d]
  by_cases e : z < -100
  · rw [if_neg a, if_neg b, if_neg c, if_neg d, if_pos e]
  by_cases f : 100 < z
  · rw [if_neg a, if_neg b, if_neg c, if_neg d, if_neg e, if_pos f]
  exact absurd ⟨a, b, c, d, e, f⟩ hp
theorem s28 : (shp 28).1 = 2 := rfl
theorem s29 : (shp 29).1 = 5 := rfl
theorem s30 : shp 30 = (3, 25) := rfl
theorem s30' : (shp 30).1 = 3 := rfl
theorem s16 : shp 16 = (3, 25) := rfl
theorem s20 : shp 20 = (3, 1) := rfl
theorem s6 : (shp 6).1 = 0 := rfl
theorem s7 : shp 7 = (3, 24) := rfl
theorem s0 : (shp 0).1 = 6 := rfl
theorem c_take {N k : Nat} {s : cS} (hx : isPt (qI s 28 4) (qI s 28 5) (qI s 28 6)) (hc : qI s 28 3 < 24) (hk : qI s 30 0 = Int32.ofNat k) (hkn : k < 25) : fxX2_take N 28 (hC s) = some (hC (putS (uI s 28 3 (qI s 28 3 + 1)) 30 k (qI s 28 4) (qI s 28 5) (qI s 28 6))) := by
  have hk' : qI (uI s 28 3 (qI s 28 3 + 1)) 30 0 = Int32.ofNat k := by
    rw [qI_uI, if_neg (by decide), hk]
  unfold fxX2_take
  simp only [gI_2_4 s28, gI_2_5 s28, gI_2_6 s28, gI_2_3 s28, Option.bind_some, pt_in hx, if_pos hc]
  rw [if_neg (by decide)]
  unfold fxX2_take_32
  simp only [gI_2_3 s28, Option.bind_some, sI_2_3 s28, gR_2_0 s28, gR_5_0 s29, gI_2_4 s28, gI_2_5 s28, gI_2_6 s28, kO_3 s30', c_put s30 (by decide) hk' hkn]
  simp [qI_uI]
