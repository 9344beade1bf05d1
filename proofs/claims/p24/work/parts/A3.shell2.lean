theorem cpy_in {f g : Nat → Int32} {sp dp n k : Nat} (h : dp ≤ k ∧ k < dp + n) : va_cpy f g sp dp n k = f (sp + (k - dp)) := if_pos h
theorem cpy_out {f g : Nat → Int32} {sp dp n k : Nat} (h : ¬ (dp ≤ k ∧ k < dp + n)) : va_cpy f g sp dp n k = g k := if_neg h
/-- a copy from a row of numbers into a row of numbers -/
theorem cpI_N {s : cS} {a b n m i j q : Nat} (h : shp a = (10, n)) (g : shp b = (10, m)) (hi : i + q ≤ n) (hj : j + q ≤ m) (hn : n < 2147483648) (hm : m < 2147483648) : cpI (hC s) a (Int32.ofNat i) b (Int32.ofNat j) (Int32.ofNat q) = some (hC (uA s b (va_cpy (qA s a) (qA s b) i j q))) := by
  have ha : a < 239 := shp_lt (by rw [h]; exact (Nat.le_of_ble_eq_true rfl))
  have hb : b < 239 := shp_lt (by rw [g]; exact (Nat.le_of_ble_eq_true rfl))
  unfold cpI
  rw [hC_at s ha, hC_at s hb, cel_10 h, cel_10 g]
  have c : ¬ (Int32.ofNat i < 0 ∨ Int32.ofNat j < 0 ∨ Int32.ofNat q < 0 ∨ n < (Int32.ofNat i).toNatClampNeg + (Int32.ofNat q).toNatClampNeg ∨ m < (Int32.ofNat j).toNatClampNeg + (Int32.ofNat q).toNatClampNeg) := by
    rw [i_tn (by omega), i_tn (by omega), i_tn (by omega)]
    rintro (w | w | w | w | w)
    · exact i_lt0 (by omega) w
    · exact i_lt0 (by omega) w
    · exact i_lt0 (by omega) w
    · omega
    · omega
  refine (if_neg c).trans ?_
  rw [i_tn (by omega), i_tn (by omega), i_tn (by omega)]
  refine congrArg some (hC_set hb ?_ (fun i hi => cel_uA s b _ i hi))
  rw [cel_10 g, qA_uA, if_pos rfl]
theorem i_m1 (a : Nat) : Int32.ofNat (a + 1) - (1 : Int32) = Int32.ofNat a := by
  have e := Int32.ofNat_add a 1
  rw [e]
  exact Int32.add_sub_cancel _ _
theorem i_mc (a b : Nat) : Int32.ofNat a * Int32.ofNat b = Int32.ofNat (a * b) := (Int32.ofNat_mul a b).symm
/-- one more torn side -/
def sdp (s : cS) (m u v : Nat) : cS := uI (uA (uA (uA s 37 (upd (qA s 37) m (Int32.ofNat u))) 38 (upd (qA s 38) m (Int32.ofNat v))) 39 (upd (qA s 39) (u * 25 + v) 1)) 29 5 (Int32.ofNat (m + 1))
theorem sdp_37 (s : cS) (m u v : Nat) : qA (sdp s m u v) 37 = upd (qA s 37) m (Int32.ofNat u) := rfl
theorem sdp_38 (s : cS) (m u v : Nat) : qA (sdp s m u v) 38 = upd (qA s 38) m (Int32.ofNat v) := rfl
theorem sdp_39 (s : cS) (m u v : Nat) : qA (sdp s m u v) 39 = upd (qA s 39) (u * 25 + v) 1 := rfl
theorem sdp_5 (s : cS) (m u v : Nat) : qI (sdp s m u v) 29 5 = Int32.ofNat (m + 1) := rfl
theorem sdp_1 (s : cS) (m u v : Nat) : qI (sdp s m u v) 29 1 = qI s 29 1 := rfl
theorem sdp_34 (s : cS) (m u v : Nat) : qA (sdp s m u v) 34 = qA s 34 := rfl
theorem sdp_35 (s : cS) (m u v : Nat) : qA (sdp s m u v) 35 = qA s 35 := rfl
theorem sdp_36 (s : cS) (m u v : Nat) : qA (sdp s m u v) 36 = qA s 36 := rfl
theorem sdp_cf (s : cS) (m u v : Nat) : cf sL s (sdp s m u v) := (((cf_uA _ (.inr ⟨by omega, by omega⟩)).tr (cf_uA _ (.inr ⟨by omega, by omega⟩))).tr (cf_uA _ (.inr ⟨by omega, by omega⟩))).tr (cf_uI _ (.inl rfl))
theorem mod3 {k : Nat} (h : k < 3) : Int32.ofNat (k + 1) - Int32.ofNat (k + 1) / 3 * 3 = Int32.ofNat ((k + 1) % 3) := by
  match k, h with
  | 0, _ => decide
  | 1, _ => decide
  | 2, _ => decide
theorem c_tearS {N f t k m u v : Nat} {s : cS} (ht : t < 46) (hk : k < 3) (h5 : qI s 29 5 = Int32.ofNat m) (hm : m < 138) (eu : qA s 34 (3 * t + k) = Int32.ofNat u) (ev : qA s 34 (3 * t + (k + 1) % 3) = Int32.ofNat v) (hu : u < 25) (hv : v < 25) : fxX5_tearOff_2 N (f + 1) 29 (Int32.ofNat t) (Int32.ofNat k) (hC s) = fxX5_tearOff_2 N f 29 (Int32.ofNat t) (Int32.ofNat (k + 1)) (hC (sdp s m u v)) := by
  have n1 : ¬ ((3 : Int32) ≤ Int32.ofNat k) := by
    have := i_le (a := 3) (b := k) (by omega) (by omega)
    show ¬ (Int32.ofNat 3 ≤ Int32.ofNat k)
    rw [this]
    omega
  have n2 : ¬ (Int32.ofNat 138 ≤ Int32.ofNat m) := by
    rw [i_le (by omega) (by omega)]
    omega
  have k3 : (k + 1) % 3 < 3 := Nat.mod_lt _ (by decide)
  have e25 : (25 : Int32) = Int32.ofNat 25 := rfl
  have luv : u * 25 + v < 625 := by omega
  rw [fxX5_tearOff_2]
  simp only [if_neg n1, gI_5_5 s29, gR_5_2 s29, gR_5_6 s29, gR_5_7 s29, gR_5_8 s29, Option.bind_some, aL_10 t37, h5, if_neg n2, i_c3, i_ad, mod3 hk, aI_N t34 (by omega : 3 * t + k < 138) (by decide), wI_N t37 hm (by decide), qI_uA, qA_uA, if_neg (show ¬ ((3 : Int32) = 0) by decide), aI_N t34 (by omega : 3 * t + (k + 1) % 3 < 138) (by decide), wI_N t38 hm (by decide), aI_N t37 hm (by decide), aI_N t38 hm (by decide), eu, ev, if_neg (show ¬ (34 = 37) by decide), if_neg (show ¬ (38 = 37) by decide), if_neg (show ¬ (37 = 38) by decide), if_pos rfl, u_eq, e25, i_mc, wZ_N1 t39 luv (by decide), sI_5_5 s29, if_neg (show ¬ (39 = 38) by decide), if_neg (show ¬ (39 = 37) by decide), i_s, if_true]
  rfl
theorem c_tearE {N t T : Nat} {s : cS} (hT : T < 46) (ht : t ≤ T) (h1 : qI s 29 1 = Int32.ofNat (T + 1)) (hb : qA s 36 T = 0 ∨ qA s 36 T = 1) : ∃ s', fxX5_tearOff_105 N 29 (Int32.ofNat t) (hC s) = some (hC s') ∧ cf sL s s' ∧ qI s' 29 1 = Int32.ofNat T ∧ qI s' 29 5 = qI s 29 5 ∧ (∀ x, x ≠ t → tR s' x = tR s x) ∧ tR s' t = tR s T ∧ qA s' 37 = qA s 37 ∧ qA s' 38 = qA s 38 ∧ qA s' 39 = qA s 39 := by
  have e3 : (3 : Int32) = Int32.ofNat 3 := rfl
  have e4 : (4 : Int32) = Int32.ofNat 4 := rfl
  refine ⟨uA (uA (uA (uI s 29 1 (Int32.ofNat T)) 34 (va_cpy (qA s 34) (qA s 34) (3 * T) (3 * t) 3)) 35 (va_cpy (qA s 35) (qA s 35) (4 * T) (4 * t) 4)) 36 (upd (qA s 36) t (qA s 36 T)), ?_, ?_, rfl, rfl, ?_, ?_, rfl, rfl, rfl⟩
  · unfold fxX5_tearOff_105
    simp only [gI_5_1 s29, Option.bind_some, h1, i_m1, sI_5_1 s29, gR_5_2 s29, gR_5_3 s29, gR_5_4 s29, qI_uI, qI_uA, qA_uI, qA_uA, and_self, if_true, e3, e4, i_mc, cpI_N t34 t34 (by omega : 3 * T + 3 ≤ 138) (by omega : 3 * t + 3 ≤ 138) (by decide) (by decide), cpI_N t35 t35 (by omega : 4 * T + 4 ≤ 184) (by omega : 4 * t + 4 ≤ 184) (by decide) (by decide), if_neg (show ¬ (35 = 34) by decide), if_neg (show ¬ (36 = 35) by decide), if_neg (show ¬ (36 = 34) by decide), aZ_N t36 hT (by decide), wZ_Nx t36 (by omega : t < 46) (by decide) hb]
  · exact (((cf_uI _ (.inl rfl)).tr (cf_uA _ (.inr ⟨by omega, by omega⟩))).tr (cf_uA _ (.inr ⟨by omega, by omega⟩))).tr (cf_uA _ (.inr ⟨by omega, by omega⟩))
  · intro x hx
    show ((va_cpy (qA s 34) (qA s 34) (3 * T) (3 * t) 3 (3 * x), va_cpy (qA s 34) (qA s 34) (3 * T) (3 * t) 3 (3 * x + 1), va_cpy (qA s 34) (qA s 34) (3 * T) (3 * t) 3 (3 * x + 2)), (va_cpy (qA s 35) (qA s 35) (4 * T) (4 * t) 4 (4 * x), va_cpy (qA s 35) (qA s 35) (4 * T) (4 * t) 4 (4 * x + 1), va_cpy (qA s 35) (qA s 35) (4 * T) (4 * t) 4 (4 * x + 2), va_cpy (qA s 35) (qA s 35) (4 * T) (4 * t) 4 (4 * x + 3)), upd (qA s 36) t (qA s 36 T) x) = tR s x
    rw [cpy_out (by omega), cpy_out (by omega), cpy_out (by omega), cpy_out (by omega), cpy_out (by omega), cpy_out (by omega), cpy_out (by omega), u_ne hx]
    rfl
  · show ((va_cpy (qA s 34) (qA s 34) (3 * T) (3 * t) 3 (3 * t), va_cpy (qA s 34) (qA s 34) (3 * T) (3 * t) 3 (3 * t + 1), va_cpy (qA s 34) (qA s 34) (3 * T) (3 * t) 3 (3 * t + 2)), (va_cpy (qA s 35) (qA s 35) (4 * T) (4 * t) 4 (4 * t), va_cpy (qA s 35) (qA s 35) (4 * T) (4 * t) 4 (4 * t + 1), va_cpy (qA s 35) (qA s 35) (4 * T) (4 * t) 4 (4 * t + 2), va_cpy (qA s 35) (qA s 35) (4 * T) (4 * t) 4 (4 * t + 3)), upd (qA s 36) t (qA s 36 T) t) = tR s T
    rw [cpy_in (by omega), cpy_in (by omega), cpy_in (by omega), cpy_in (by omega), cpy_in (by omega), cpy_in (by omega), cpy_in (by omega), u_eq, show 3 * T + (3 * t - 3 * t) = 3 * T by omega, show 3 * T + (3 * t + 1 - 3 * t) = 3 * T + 1 by omega, show 3 * T + (3 * t + 2 - 3 * t) = 3 * T + 2 by omega, show 4 * T + (4 * t - 4 * t) = 4 * T by omega, show 4 * T + (4 * t + 1 - 4 * t) = 4 * T + 1 by omega, show 4 * T + (4 * t + 2 - 4 * t) = 4 * T + 2 by omega, show 4 * T + (4 * t + 3 - 4 * t) = 4 * T + 3 by omega]
    rfl
/-- tearOff: a row goes, its three sides are marked -/
theorem c_tear {N t T m u v w : Nat} {s : cS} (hN : 600 < N) (hT : T < 46) (ht : t ≤ T) (h1 : qI s 29 1 = Int32.ofNat (T + 1)) (h5 : qI s 29 5 = Int32.ofNat m) (hm : m + 3 ≤ 138) (hb : qA s 36 T = 0 ∨ qA s 36 T = 1) (e0 : qA s 34 (3 * t) = Int32.ofNat u) (e1 : qA s 34 (3 * t + 1) = Int32.ofNat v) (e2 : qA s 34 (3 * t + 2) = Int32.ofNat w) (hu : u < 25) (hv : v < 25) (hw : w < 25) : ∃ s', fxX5_tearOff N 29 (Int32.ofNat t) (hC s) = some (hC s') ∧ cf sL s s' ∧ qI s' 29 1 = Int32.ofNat T ∧ qI s' 29 5 = Int32.ofNat (m + 3) ∧ (∀ x, x ≠ t → tR s' x = tR s x) ∧ tR s' t = tR s T ∧ qA s' 37 = upd (upd (upd (qA s 37) m (Int32.ofNat u)) (m + 1) (Int32.ofNat v)) (m + 2) (Int32.ofNat w) ∧ qA s' 38 = upd (upd (upd (qA s 38) m (Int32.ofNat v)) (m + 1) (Int32.ofNat w)) (m + 2) (Int32.ofNat u) ∧ qA s' 39 = upd (upd (upd (qA s 39) (u * 25 + v) 1) (v * 25 + w) 1) (w * 25 + u) 1 := by
  obtain ⟨f, rfl⟩ : ∃ f, N = f + 4 := ⟨N - 4, by omega⟩
  obtain ⟨s', q, c, a1, a5, r1, r2, b1, b2, b3⟩ := c_tearE (N := f + 4) (t := t) (T := T) (s := sdp (sdp (sdp s m u v) (m + 1) v w) (m + 2) w u) hT ht h1 hb
  refine ⟨s', ?_, ((sdp_cf _ _ _ _).tr ((sdp_cf _ _ _ _).tr (sdp_cf _ _ _ _))).tr c, a1, a5, r1, r2, b1, b2, b3⟩
  unfold fxX5_tearOff
  have q0 := c_tearS (N := f + 4) (f := f + 3) (k := 0) (s := s) (by omega : t < 46) (by decide) h5 (by omega) e0 e1 hu hv
  have q1 := c_tearS (N := f + 4) (f := f + 2) (k := 1) (s := sdp s m u v) (by omega : t < 46) (by decide) rfl (by omega) e1 e2 hv hw
  have q2 := c_tearS (N := f + 4) (f := f + 1) (k := 2) (s := sdp (sdp s m u v) (m + 1) v w) (by omega : t < 46) (by decide) rfl (by omega) e2 e0 hw hu
  refine q0.trans (q1.trans (q2.trans ?_))
  rw [fxX5_tearOff_2, if_pos (show (3 : Int32) ≤ Int32.ofNat (2 + 1) by decide)]
  exact q
