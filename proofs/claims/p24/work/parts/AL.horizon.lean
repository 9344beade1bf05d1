/-- the next side of the same row -/
def nxs (i : Nat) : Nat := 3 * (i / 3) + (i % 3 + 1) % 3
theorem nxs_lt {i M : Nat} (h : i < 3 * M) : nxs i < 3 * M := by
  unfold nxs
  omega
theorem nxs_inj {a b : Nat} (h : nxs a = nxs b) : a = b := by
  unfold nxs at h
  omega
/-- where a side of the horizon ends, another one begins -/
theorem hor_next {M : Nat} {F G : Nat → Nat} (hn : ∀ i, i < 3 * M → F (nxs i) = G i) (un : ∀ i j, i < 3 * M → j < 3 * M → F i = F j → G i = G j → i = j) {i0 : Nat} (h0 : i0 < 3 * M) (ho : ∀ j, j < 3 * M → ¬ (F j = G i0 ∧ G j = F i0)) : ∃ j, j < 3 * M ∧ F j = G i0 ∧ ∀ j', j' < 3 * M → ¬ (F j' = G j ∧ G j' = F j) := by
  apply Classical.byContradiction
  intro hno
  have ex : ∀ i, i < 3 * M ∧ G i = G i0 → ∃ j', j' < 3 * M ∧ F j' = G (nxs i) ∧ G j' = F (nxs i) := by
    intro i hi
    apply Classical.byContradiction
    intro w
    exact hno ⟨nxs i, nxs_lt hi.1, (hn i hi.1).trans hi.2, fun j' hj' e => w ⟨j', hj', e⟩⟩
  classical
  have fE : ∃ f : Nat → Nat, ∀ i, i < 3 * M ∧ G i = G i0 → f i < 3 * M ∧ F (f i) = G (nxs i) ∧ G (f i) = F (nxs i) := by
    refine ⟨fun i => if h : i < 3 * M ∧ G i = G i0 then Classical.choose (ex i h) else 0, fun i h => ?_⟩
    show (if h : i < 3 * M ∧ G i = G i0 then Classical.choose (ex i h) else 0) < 3 * M ∧ F (if h : i < 3 * M ∧ G i = G i0 then Classical.choose (ex i h) else 0) = G (nxs i) ∧ G (if h : i < 3 * M ∧ G i = G i0 then Classical.choose (ex i h) else 0) = F (nxs i)
    rw [dif_pos h]
    exact Classical.choose_spec (ex i h)
  obtain ⟨f, hf⟩ := fE
  have hE : ∀ a, (a < 3 * M ∧ G a = G i0) → a < 3 * M ∧ (f a < 3 * M ∧ G (f a) = G i0) := fun a ha => by
    obtain ⟨x, y, z⟩ := hf a ha
    exact ⟨ha.1, x, z.trans ((hn a ha.1).trans ha.2)⟩
  have hi : ∀ a b, (a < 3 * M ∧ G a = G i0) → (b < 3 * M ∧ G b = G i0) → f a = f b → a = b := fun a b ha hb e => by
    obtain ⟨-, y1, z1⟩ := hf a ha
    obtain ⟨-, y2, z2⟩ := hf b hb
    rw [e] at y1 z1
    exact nxs_inj (un _ _ (nxs_lt ha.1) (nxs_lt hb.1) (z1.symm.trans z2) (y1.symm.trans y2))
  obtain ⟨r, r1, -, rc, -, -, al⟩ := cyc (E := fun a => a < 3 * M ∧ G a = G i0) hE hi (s := i0) ⟨h0, rfl⟩
  obtain ⟨r', rfl⟩ : ∃ r', r = r' + 1 := ⟨r - 1, by omega⟩
  have e : f (itr f r' i0) = i0 := rc
  have E' : itr f r' i0 < 3 * M ∧ G (itr f r' i0) = G i0 := al r'
  obtain ⟨x, y, z⟩ := hf _ E'
  rw [e] at y z
  exact ho (nxs (itr f r' i0)) (nxs_lt E'.1) ⟨z.symm, y.symm⟩
