theorem bnd {α β : Type} {x : Option α} {a : α} {f : α → Option β} {r : Option β} (h : x = some a) (k : f a = r) : x.bind f = r := by
  rw [h]
  exact k
theorem i_a5 (a : Nat) : Int32.ofNat a + (5 : Int32) = Int32.ofNat (a + 5) := (Int32.ofNat_add a 5).symm
theorem i_a6 (a : Nat) : Int32.ofNat a + (6 : Int32) = Int32.ofNat (a + 6) := (Int32.ofNat_add a 6).symm
theorem tst {L m : Nat} (hL : L ≤ 3072) (hm : m ≤ 600) : (Int32.ofNat L - (6 : Int32) < Int32.ofNat (6 * m)) ↔ L < 6 * m + 6 := by
  have e6 : (6 : Int32).toInt = 6 := rfl
  have e : (Int32.ofNat L - (6 : Int32)).toInt = (L : Int) - 6 := by
    rw [sub32 (by rw [Int32.toInt_ofNat_of_lt (by omega)]; omega) (by rw [e6]; decide), Int32.toInt_ofNat_of_lt (by omega), e6]
  rw [Int32.lt_iff_toInt_lt, e, Int32.toInt_ofNat_of_lt (by omega)]
  omega
set_option maxHeartbeats 4000000 in
set_option maxRecDepth 100000 in
theorem loop_all {L : Nat} {xs : Nat → Int32} {N : Nat} (hN : 4611686018427387904 < N) (hL : L ≤ 3072) : ∀ (r m n : Nat) (C : cS) (s : mS), m + r = 600 → r < n → JK C s → lx_18 L xs N n (Int32.ofNat (6 * m)) (hC C) s = some () := by
  intro r
  induction r with
  | zero =>
    intro m n C s hm hn j
    obtain ⟨n', rfl⟩ : ∃ n', n = n' + 1 := ⟨n - 1, by omega⟩
    rw [lx_18]
    exact if_pos ((tst hL (by omega)).mpr (by omega))
  | succ r ih =>
    intro m n C s hm hn j
    obtain ⟨n', rfl⟩ : ∃ n', n = n' + 1 := ⟨n - 1, by omega⟩
    have go : ∀ (C' : cS) (s' : mS), JK C' s' → lx_1059 (lx_18 L xs N n') (Int32.ofNat (6 * m)) (hC C') s' = some () := fun C' s' j' => by
      unfold lx_1059
      rw [i_a6]
      exact ih (m + 1) n' C' s' (by omega) (by omega) j'
    rw [lx_18]
    by_cases fin : Int32.ofNat L - (6 : Int32) < Int32.ofNat (6 * m)
    · exact if_pos fin
    have l6 : ¬ L < 6 * m + 6 := fun q => fin ((tst hL (by omega)).mpr q)
    have ck : ∀ x, x < 6 → ¬ (Int32.ofNat (6 * m + x) < 0 ∨ L ≤ (Int32.ofNat (6 * m + x)).toNatClampNeg) := fun x hx => i_nb (by omega) (by omega)
    rw [i_s, i_a2, i_a3, i_a4, i_a5]
    refine (if_neg fin).trans ((if_neg (ck 0 (by omega))).trans ?_)
    by_cases h0 : ((xs (Int32.ofNat (6 * m)).toNatClampNeg) &&& (31 : Int32)) = (0 : Int32)
    · obtain ⟨C', v, o, e1, e2, ev, j'⟩ := st_tray hN j (xs (Int32.ofNat (6 * m + 1)).toNatClampNeg) (xs (Int32.ofNat (6 * m + 2)).toNatClampNeg)
      refine (if_pos h0).trans ?_
      refine (if_neg (ck 1 (by omega))).trans ?_
      refine (if_neg (ck 2 (by omega))).trans ?_
      refine bnd (kO_6 x06) (bnd e1 ((if_neg (not_not_intro (hC_len C'))).trans ?_))
      refine (if_neg (ck 1 (by omega))).trans ?_
      refine (if_neg (ck 2 (by omega))).trans ?_
      exact bnd e2 (go C' o.1 j')
    refine (if_neg h0).trans ?_
    by_cases h1 : ((xs (Int32.ofNat (6 * m)).toNatClampNeg) &&& (31 : Int32)) = (1 : Int32)
    · obtain ⟨C', v, o, e1, e2, ev, j'⟩ := st_point hN j (xs (Int32.ofNat (6 * m + 1)).toNatClampNeg) (xs (Int32.ofNat (6 * m + 2)).toNatClampNeg) (xs (Int32.ofNat (6 * m + 3)).toNatClampNeg) (xs (Int32.ofNat (6 * m + 4)).toNatClampNeg) (xs (Int32.ofNat (6 * m + 5)).toNatClampNeg)
      refine (if_pos h1).trans ?_
      refine (if_neg (ck 1 (by omega))).trans ?_
      refine (if_neg (ck 2 (by omega))).trans ?_
      refine (if_neg (ck 3 (by omega))).trans ?_
      refine (if_neg (ck 4 (by omega))).trans ?_
      refine (if_neg (ck 5 (by omega))).trans ?_
      refine bnd (kO_6 x06) (bnd e1 ((if_neg (not_not_intro (hC_len C'))).trans ?_))
      refine (if_neg (ck 1 (by omega))).trans ?_
      refine (if_neg (ck 2 (by omega))).trans ?_
      refine (if_neg (ck 3 (by omega))).trans ?_
      refine (if_neg (ck 4 (by omega))).trans ?_
      refine (if_neg (ck 5 (by omega))).trans ?_
      exact bnd e2 (go C' o.1 j')
    refine (if_neg h1).trans ?_
    by_cases h2 : ((xs (Int32.ofNat (6 * m)).toNatClampNeg) &&& (31 : Int32)) = (2 : Int32)
    · obtain ⟨C', v, o, e1, e2, ev, j'⟩ := st_solid hN j (xs (Int32.ofNat (6 * m + 1)).toNatClampNeg) (xs (Int32.ofNat (6 * m + 2)).toNatClampNeg)
      refine (if_pos h2).trans ?_
      refine (if_neg (ck 1 (by omega))).trans ?_
      refine (if_neg (ck 2 (by omega))).trans ?_
      refine bnd (kO_6 x06) (bnd e1 ((if_neg (not_not_intro (hC_len C'))).trans ?_))
      refine (if_neg (ck 1 (by omega))).trans ?_
      refine (if_neg (ck 2 (by omega))).trans ?_
      exact bnd e2 (go C' o.1 j')
    refine (if_neg h2).trans ?_
    by_cases h3 : ((xs (Int32.ofNat (6 * m)).toNatClampNeg) &&& (31 : Int32)) = (3 : Int32)
    · obtain ⟨C', v, o, e1, e2, ev, j'⟩ := st_grow hN j (xs (Int32.ofNat (6 * m + 1)).toNatClampNeg) (xs (Int32.ofNat (6 * m + 2)).toNatClampNeg) (xs (Int32.ofNat (6 * m + 3)).toNatClampNeg) (xs (Int32.ofNat (6 * m + 4)).toNatClampNeg)
      refine (if_pos h3).trans ?_
      refine (if_neg (ck 1 (by omega))).trans ?_
      refine (if_neg (ck 2 (by omega))).trans ?_
      refine (if_neg (ck 3 (by omega))).trans ?_
      refine (if_neg (ck 4 (by omega))).trans ?_
      refine bnd (kO_6 x06) (bnd e1 ((if_neg (not_not_intro (hC_len C'))).trans ?_))
      refine (if_neg (ck 1 (by omega))).trans ?_
      refine (if_neg (ck 2 (by omega))).trans ?_
      refine (if_neg (ck 3 (by omega))).trans ?_
      refine (if_neg (ck 4 (by omega))).trans ?_
      exact bnd e2 (go C' o.1 j')
    refine (if_neg h3).trans ?_
    by_cases h4 : ((xs (Int32.ofNat (6 * m)).toNatClampNeg) &&& (31 : Int32)) = (4 : Int32)
    · obtain ⟨C', v, o, e1, e2, ev, j'⟩ := sv_count hN j (xs (Int32.ofNat (6 * m + 1)).toNatClampNeg) (xs (Int32.ofNat (6 * m + 2)).toNatClampNeg)
      refine (if_pos h4).trans ?_
      refine (if_neg (ck 1 (by omega))).trans ?_
      refine (if_neg (ck 2 (by omega))).trans ?_
      refine bnd (kO_6 x06) (bnd e1 ((if_neg (not_not_intro (hC_len C'))).trans ?_))
      refine (if_neg (ck 1 (by omega))).trans ?_
      refine (if_neg (ck 2 (by omega))).trans ?_
      exact bnd e2 (go C' o.1 j')
    refine (if_neg h4).trans ?_
    by_cases h5 : ((xs (Int32.ofNat (6 * m)).toNatClampNeg) &&& (31 : Int32)) = (5 : Int32)
    · obtain ⟨C', v, o, e1, e2, ev, j'⟩ := sv_corner hN j (xs (Int32.ofNat (6 * m + 1)).toNatClampNeg) (xs (Int32.ofNat (6 * m + 2)).toNatClampNeg) (xs (Int32.ofNat (6 * m + 3)).toNatClampNeg)
      refine (if_pos h5).trans ?_
      refine (if_neg (ck 1 (by omega))).trans ?_
      refine (if_neg (ck 2 (by omega))).trans ?_
      refine (if_neg (ck 3 (by omega))).trans ?_
      refine bnd (kO_6 x06) (bnd e1 ((if_neg (not_not_intro (hC_len C'))).trans ?_))
      refine (if_neg (ck 1 (by omega))).trans ?_
      refine (if_neg (ck 2 (by omega))).trans ?_
      refine (if_neg (ck 3 (by omega))).trans ?_
      exact bnd e2 (go C' o.1 j')
    refine (if_neg h5).trans ?_
    by_cases h6 : ((xs (Int32.ofNat (6 * m)).toNatClampNeg) &&& (31 : Int32)) = (6 : Int32)
    · obtain ⟨C', v, o, e1, e2, ev, j'⟩ := sv_edge hN j (xs (Int32.ofNat (6 * m + 1)).toNatClampNeg) (xs (Int32.ofNat (6 * m + 2)).toNatClampNeg) (xs (Int32.ofNat (6 * m + 3)).toNatClampNeg)
      refine (if_pos h6).trans ?_
      refine (if_neg (ck 1 (by omega))).trans ?_
      refine (if_neg (ck 2 (by omega))).trans ?_
      refine (if_neg (ck 3 (by omega))).trans ?_
      refine bnd (kO_6 x06) (bnd e1 ((if_neg (not_not_intro (hC_len C'))).trans ?_))
      refine (if_neg (ck 1 (by omega))).trans ?_
      refine (if_neg (ck 2 (by omega))).trans ?_
      refine (if_neg (ck 3 (by omega))).trans ?_
      exact bnd e2 (go C' o.1 j')
    refine (if_neg h6).trans ?_
    by_cases h7 : ((xs (Int32.ofNat (6 * m)).toNatClampNeg) &&& (31 : Int32)) = (7 : Int32)
    · obtain ⟨C', v, o, e1, e2, ev, j'⟩ := sv_face hN j (xs (Int32.ofNat (6 * m + 1)).toNatClampNeg) (xs (Int32.ofNat (6 * m + 2)).toNatClampNeg) (xs (Int32.ofNat (6 * m + 3)).toNatClampNeg)
      refine (if_pos h7).trans ?_
      refine (if_neg (ck 1 (by omega))).trans ?_
      refine (if_neg (ck 2 (by omega))).trans ?_
      refine (if_neg (ck 3 (by omega))).trans ?_
      refine bnd (kO_6 x06) (bnd e1 ((if_neg (not_not_intro (hC_len C'))).trans ?_))
      refine (if_neg (ck 1 (by omega))).trans ?_
      refine (if_neg (ck 2 (by omega))).trans ?_
      refine (if_neg (ck 3 (by omega))).trans ?_
      exact bnd e2 (go C' o.1 j')
    refine (if_neg h7).trans ?_
    by_cases h8 : ((xs (Int32.ofNat (6 * m)).toNatClampNeg) &&& (31 : Int32)) = (8 : Int32)
    · obtain ⟨C', v, o, e1, e2, ev, j'⟩ := sv_in hN j (xs (Int32.ofNat (6 * m + 1)).toNatClampNeg) (xs (Int32.ofNat (6 * m + 2)).toNatClampNeg) (xs (Int32.ofNat (6 * m + 3)).toNatClampNeg) (xs (Int32.ofNat (6 * m + 4)).toNatClampNeg) (xs (Int32.ofNat (6 * m + 5)).toNatClampNeg)
      refine (if_pos h8).trans ?_
      refine (if_neg (ck 1 (by omega))).trans ?_
      refine (if_neg (ck 2 (by omega))).trans ?_
      refine (if_neg (ck 3 (by omega))).trans ?_
      refine (if_neg (ck 4 (by omega))).trans ?_
      refine (if_neg (ck 5 (by omega))).trans ?_
      refine bnd (kO_6 x06) (bnd e1 ((if_neg (not_not_intro (hC_len C'))).trans ?_))
      refine (if_neg (ck 1 (by omega))).trans ?_
      refine (if_neg (ck 2 (by omega))).trans ?_
      refine (if_neg (ck 3 (by omega))).trans ?_
      refine (if_neg (ck 4 (by omega))).trans ?_
      refine (if_neg (ck 5 (by omega))).trans ?_
      exact bnd e2 (go C' o.1 j')
    refine (if_neg h8).trans ?_
    by_cases h9 : ((xs (Int32.ofNat (6 * m)).toNatClampNeg) &&& (31 : Int32)) = (9 : Int32)
    · obtain ⟨C', v, o, e1, e2, ev, j'⟩ := sv_side hN j (xs (Int32.ofNat (6 * m + 1)).toNatClampNeg) (xs (Int32.ofNat (6 * m + 2)).toNatClampNeg) (xs (Int32.ofNat (6 * m + 3)).toNatClampNeg) (xs (Int32.ofNat (6 * m + 4)).toNatClampNeg) (xs (Int32.ofNat (6 * m + 5)).toNatClampNeg)
      refine (if_pos h9).trans ?_
      refine (if_neg (ck 1 (by omega))).trans ?_
      refine (if_neg (ck 2 (by omega))).trans ?_
      refine (if_neg (ck 3 (by omega))).trans ?_
      refine (if_neg (ck 4 (by omega))).trans ?_
      refine (if_neg (ck 5 (by omega))).trans ?_
      refine bnd (kO_6 x06) (bnd e1 ((if_neg (not_not_intro (hC_len C'))).trans ?_))
      refine (if_neg (ck 1 (by omega))).trans ?_
      refine (if_neg (ck 2 (by omega))).trans ?_
      refine (if_neg (ck 3 (by omega))).trans ?_
      refine (if_neg (ck 4 (by omega))).trans ?_
      refine (if_neg (ck 5 (by omega))).trans ?_
      exact bnd e2 (go C' o.1 j')
    refine (if_neg h9).trans ?_
    by_cases h10 : ((xs (Int32.ofNat (6 * m)).toNatClampNeg) &&& (31 : Int32)) = (10 : Int32)
    · obtain ⟨C', v, o, e1, e2, ev, j'⟩ := sv_volume hN j (xs (Int32.ofNat (6 * m + 1)).toNatClampNeg)
      refine (if_pos h10).trans ?_
      refine (if_neg (ck 1 (by omega))).trans ?_
      refine bnd (kO_6 x06) (bnd e1 ((if_neg (not_not_intro (hC_len C'))).trans ?_))
      refine (if_neg (ck 1 (by omega))).trans ?_
      exact bnd e2 (go C' o.1 j')
    refine (if_neg h10).trans ?_
    by_cases h11 : ((xs (Int32.ofNat (6 * m)).toNatClampNeg) &&& (31 : Int32)) = (11 : Int32)
    · obtain ⟨C', v, o, e1, e2, ev, j'⟩ := sv_middle hN j (xs (Int32.ofNat (6 * m + 1)).toNatClampNeg) (xs (Int32.ofNat (6 * m + 2)).toNatClampNeg) (xs (Int32.ofNat (6 * m + 3)).toNatClampNeg)
      refine (if_pos h11).trans ?_
      refine (if_neg (ck 1 (by omega))).trans ?_
      refine (if_neg (ck 2 (by omega))).trans ?_
      refine (if_neg (ck 3 (by omega))).trans ?_
      refine bnd (kO_6 x06) (bnd e1 ((if_neg (not_not_intro (hC_len C'))).trans ?_))
      refine (if_neg (ck 1 (by omega))).trans ?_
      refine (if_neg (ck 2 (by omega))).trans ?_
      refine (if_neg (ck 3 (by omega))).trans ?_
      exact bnd e2 (go C' o.1 j')
    refine (if_neg h11).trans ?_
    by_cases h12 : ((xs (Int32.ofNat (6 * m)).toNatClampNeg) &&& (31 : Int32)) = (12 : Int32)
    · obtain ⟨C', v, o, e1, e2, ev, j'⟩ := sv_far hN j (xs (Int32.ofNat (6 * m + 1)).toNatClampNeg) (xs (Int32.ofNat (6 * m + 2)).toNatClampNeg)
      refine (if_pos h12).trans ?_
      refine (if_neg (ck 1 (by omega))).trans ?_
      refine (if_neg (ck 2 (by omega))).trans ?_
      refine bnd (kO_6 x06) (bnd e1 ((if_neg (not_not_intro (hC_len C'))).trans ?_))
      refine (if_neg (ck 1 (by omega))).trans ?_
      refine (if_neg (ck 2 (by omega))).trans ?_
      exact bnd e2 (go C' o.1 j')
    refine (if_neg h12).trans ?_
    by_cases h13 : ((xs (Int32.ofNat (6 * m)).toNatClampNeg) &&& (31 : Int32)) = (13 : Int32)
    · obtain ⟨C', v, o, e1, e2, ev, j'⟩ := sv_width hN j (xs (Int32.ofNat (6 * m + 1)).toNatClampNeg) (xs (Int32.ofNat (6 * m + 2)).toNatClampNeg)
      refine (if_pos h13).trans ?_
      refine (if_neg (ck 1 (by omega))).trans ?_
      refine (if_neg (ck 2 (by omega))).trans ?_
      refine bnd (kO_6 x06) (bnd e1 ((if_neg (not_not_intro (hC_len C'))).trans ?_))
      refine (if_neg (ck 1 (by omega))).trans ?_
      refine (if_neg (ck 2 (by omega))).trans ?_
      exact bnd e2 (go C' o.1 j')
    refine (if_neg h13).trans ?_
    by_cases h14 : ((xs (Int32.ofNat (6 * m)).toNatClampNeg) &&& (31 : Int32)) = (14 : Int32)
    · obtain ⟨C', v, o, e1, e2, ev, j'⟩ := st_sum hN j (xs (Int32.ofNat (6 * m + 1)).toNatClampNeg) (xs (Int32.ofNat (6 * m + 2)).toNatClampNeg) (xs (Int32.ofNat (6 * m + 3)).toNatClampNeg)
      refine (if_pos h14).trans ?_
      refine (if_neg (ck 1 (by omega))).trans ?_
      refine (if_neg (ck 2 (by omega))).trans ?_
      refine (if_neg (ck 3 (by omega))).trans ?_
      refine bnd (kO_6 x06) (bnd e1 ((if_neg (not_not_intro (hC_len C'))).trans ?_))
      refine (if_neg (ck 1 (by omega))).trans ?_
      refine (if_neg (ck 2 (by omega))).trans ?_
      refine (if_neg (ck 3 (by omega))).trans ?_
      exact bnd e2 (go C' o.1 j')
    refine (if_neg h14).trans ?_
    by_cases h15 : ((xs (Int32.ofNat (6 * m)).toNatClampNeg) &&& (31 : Int32)) = (15 : Int32)
    · obtain ⟨C', v, o, e1, e2, j'⟩ := st_apart hN j (xs (Int32.ofNat (6 * m + 1)).toNatClampNeg) (xs (Int32.ofNat (6 * m + 2)).toNatClampNeg)
      refine (if_pos h15).trans ?_
      refine (if_neg (ck 1 (by omega))).trans ?_
      refine (if_neg (ck 2 (by omega))).trans ?_
      refine bnd (kO_6 x06) (bnd e1 ((if_neg (not_not_intro (hC_len C'))).trans ?_))
      refine (if_neg (ck 1 (by omega))).trans ?_
      refine (if_neg (ck 2 (by omega))).trans ?_
      exact bnd e2 (go C' o.1 j')
    refine (if_neg h15).trans ?_
    by_cases h16 : ((xs (Int32.ofNat (6 * m)).toNatClampNeg) &&& (31 : Int32)) = (16 : Int32)
    · obtain ⟨C', v, o, e1, e2, j'⟩ := st_near hN j (xs (Int32.ofNat (6 * m + 1)).toNatClampNeg) (xs (Int32.ofNat (6 * m + 2)).toNatClampNeg) (xs (Int32.ofNat (6 * m + 3)).toNatClampNeg)
      refine (if_pos h16).trans ?_
      refine (if_neg (ck 1 (by omega))).trans ?_
      refine (if_neg (ck 2 (by omega))).trans ?_
      refine (if_neg (ck 3 (by omega))).trans ?_
      refine bnd (kO_6 x06) (bnd e1 ((if_neg (not_not_intro (hC_len C'))).trans ?_))
      refine (if_neg (ck 1 (by omega))).trans ?_
      refine (if_neg (ck 2 (by omega))).trans ?_
      refine (if_neg (ck 3 (by omega))).trans ?_
      exact bnd e2 (go C' o.1 j')
    refine (if_neg h16).trans ?_
    by_cases h17 : ((xs (Int32.ofNat (6 * m)).toNatClampNeg) &&& (31 : Int32)) = (17 : Int32)
    · obtain ⟨C', v, o, e1, e2, ev, j'⟩ := sv_same hN j (xs (Int32.ofNat (6 * m + 1)).toNatClampNeg) (xs (Int32.ofNat (6 * m + 2)).toNatClampNeg)
      refine (if_pos h17).trans ?_
      refine (if_neg (ck 1 (by omega))).trans ?_
      refine (if_neg (ck 2 (by omega))).trans ?_
      refine bnd (kO_6 x06) (bnd e1 ((if_neg (not_not_intro (hC_len C'))).trans ?_))
      refine (if_neg (ck 1 (by omega))).trans ?_
      refine (if_neg (ck 2 (by omega))).trans ?_
      exact bnd e2 (go C' o.1 j')
    refine (if_neg h17).trans ?_
    by_cases h18 : ((xs (Int32.ofNat (6 * m)).toNatClampNeg) &&& (31 : Int32)) = (18 : Int32)
    · obtain ⟨C', v, o, e1, e2, ev, j'⟩ := st_move hN j (xs (Int32.ofNat (6 * m + 1)).toNatClampNeg) (xs (Int32.ofNat (6 * m + 2)).toNatClampNeg) (xs (Int32.ofNat (6 * m + 3)).toNatClampNeg) (xs (Int32.ofNat (6 * m + 4)).toNatClampNeg)
      refine (if_pos h18).trans ?_
      refine (if_neg (ck 1 (by omega))).trans ?_
      refine (if_neg (ck 2 (by omega))).trans ?_
      refine (if_neg (ck 3 (by omega))).trans ?_
      refine (if_neg (ck 4 (by omega))).trans ?_
      refine bnd (kO_6 x06) (bnd e1 ((if_neg (not_not_intro (hC_len C'))).trans ?_))
      refine (if_neg (ck 1 (by omega))).trans ?_
      refine (if_neg (ck 2 (by omega))).trans ?_
      refine (if_neg (ck 3 (by omega))).trans ?_
      refine (if_neg (ck 4 (by omega))).trans ?_
      exact bnd e2 (go C' o.1 j')
    refine (if_neg h18).trans ?_
    by_cases h19 : ((xs (Int32.ofNat (6 * m)).toNatClampNeg) &&& (31 : Int32)) = (19 : Int32)
    · obtain ⟨C', v, o, e1, e2, ev, j'⟩ := st_mirror hN j (xs (Int32.ofNat (6 * m + 1)).toNatClampNeg) (xs (Int32.ofNat (6 * m + 2)).toNatClampNeg)
      refine (if_pos h19).trans ?_
      refine (if_neg (ck 1 (by omega))).trans ?_
      refine (if_neg (ck 2 (by omega))).trans ?_
      refine bnd (kO_6 x06) (bnd e1 ((if_neg (not_not_intro (hC_len C'))).trans ?_))
      refine (if_neg (ck 1 (by omega))).trans ?_
      refine (if_neg (ck 2 (by omega))).trans ?_
      exact bnd e2 (go C' o.1 j')
    refine (if_neg h19).trans ?_
    by_cases h20 : ((xs (Int32.ofNat (6 * m)).toNatClampNeg) &&& (31 : Int32)) = (20 : Int32)
    · obtain ⟨C', v, o, e1, e2, ev, j'⟩ := st_turn hN j (xs (Int32.ofNat (6 * m + 1)).toNatClampNeg) (xs (Int32.ofNat (6 * m + 2)).toNatClampNeg)
      refine (if_pos h20).trans ?_
      refine (if_neg (ck 1 (by omega))).trans ?_
      refine (if_neg (ck 2 (by omega))).trans ?_
      refine bnd (kO_6 x06) (bnd e1 ((if_neg (not_not_intro (hC_len C'))).trans ?_))
      refine (if_neg (ck 1 (by omega))).trans ?_
      refine (if_neg (ck 2 (by omega))).trans ?_
      exact bnd e2 (go C' o.1 j')
    refine (if_neg h20).trans ?_
    by_cases h21 : ((xs (Int32.ofNat (6 * m)).toNatClampNeg) &&& (31 : Int32)) = (21 : Int32)
    · obtain ⟨C', v, o, e1, e2, ev, j'⟩ := st_copy hN j (xs (Int32.ofNat (6 * m + 1)).toNatClampNeg) (xs (Int32.ofNat (6 * m + 2)).toNatClampNeg)
      refine (if_pos h21).trans ?_
      refine (if_neg (ck 1 (by omega))).trans ?_
      refine (if_neg (ck 2 (by omega))).trans ?_
      refine bnd (kO_6 x06) (bnd e1 ((if_neg (not_not_intro (hC_len C'))).trans ?_))
      refine (if_neg (ck 1 (by omega))).trans ?_
      refine (if_neg (ck 2 (by omega))).trans ?_
      exact bnd e2 (go C' o.1 j')
    refine (if_neg h21).trans ?_
    by_cases h22 : ((xs (Int32.ofNat (6 * m)).toNatClampNeg) &&& (31 : Int32)) = (22 : Int32)
    · obtain ⟨C', v, o, e1, e2, ev, j'⟩ := st_undo hN j 
      refine (if_pos h22).trans ?_
      refine bnd (kO_6 x06) (bnd e1 ((if_neg (not_not_intro (hC_len C'))).trans ?_))
      exact bnd e2 ((if_pos ev).trans (go C' o.1 j'))
    refine (if_neg h22).trans ?_
    exact go C s j
theorem all_runs : ∀ (L : Nat) (xs : Nat → Int32), L ≤ 3072 → ∃ N, lx L xs N hpC ms0 = some () := by
  intro L xs hL
  refine ⟨4611686018427387905, ?_⟩
  rw [hpC_cs0]
  unfold lx
  exact loop_all (by omega) hL 600 0 _ cs0 ms0 (by omega) (by omega) JK_0
