/-! a map of n onto n is one to one -/
theorem pg_inj : ∀ (n m : Nat) (g : Nat → Nat), (∀ i, i < m → g i < n) → (∀ i j, i < m → j < m → g i = g j → i = j) → m ≤ n
  | 0, m, g, hg, _ => by
    rcases Nat.eq_zero_or_pos m with h | h
    · omega
    · exact absurd (hg 0 h) (by omega)
  | n + 1, m, g, hg, hi => by
    by_cases hx : ∃ i, i < m ∧ g i = n
    · obtain ⟨i, him, hin⟩ := hx
      have := pg_inj n (m - 1) (fun k => if k < i then g k else g (k + 1)) (fun k hk => by
        show (if k < i then g k else g (k + 1)) < n
        split
        · have h1 := hg k (by omega)
          have h2 : g k ≠ n := fun e => by have := hi k i (by omega) him (e.trans hin.symm); omega
          omega
        · have h1 := hg (k + 1) (by omega)
          have h2 : g (k + 1) ≠ n := fun e => by have := hi (k + 1) i (by omega) him (e.trans hin.symm); omega
          omega) (fun a b ha hb e => by
        have e : (if a < i then g a else g (a + 1)) = (if b < i then g b else g (b + 1)) := e
        split at e <;> split at e
        · exact hi a b (by omega) (by omega) e
        · have := hi a (b + 1) (by omega) (by omega) e; omega
        · have := hi (a + 1) b (by omega) (by omega) e; omega
        · have := hi (a + 1) (b + 1) (by omega) (by omega) e; omega)
      omega
    · have := pg_inj n m g (fun i h => by
        have h1 := hg i h
        have h2 : g i ≠ n := fun e => hx ⟨i, h, e⟩
        omega) hi
      omega
theorem pg_onto {n : Nat} {f : Nat → Nat} (h : ∀ j, j < n → ∃ k, k < n ∧ f k = j) {j k : Nat} (hj : j < n) (hk : k < n) (e : f j = f k) (hf : f j < n) : j = k := by
  have hs : ∀ j, ∃ k, j < n → (k < n ∧ f k = j) := fun j => by
    by_cases hj : j < n
    · obtain ⟨k, hk⟩ := h j hj
      exact ⟨k, fun _ => hk⟩
    · exact ⟨0, fun q => absurd q hj⟩
  have key : ∀ z, z < n → (∀ j, j < n → (hs j).choose ≠ z) → False := fun z hz hne => by
    have := pg_inj (n - 1) n (fun j => if (hs j).choose < z then (hs j).choose else (hs j).choose - 1) (fun i hi => by
      have h1 := ((hs i).choose_spec hi).1
      have h2 := hne i hi
      show (if (hs i).choose < z then (hs i).choose else (hs i).choose - 1) < n - 1
      split <;> omega) (fun a b ha hb e => by
      have e : (if (hs a).choose < z then (hs a).choose else (hs a).choose - 1) = (if (hs b).choose < z then (hs b).choose else (hs b).choose - 1) := e
      have h1 := hne a ha
      have h2 := hne b hb
      have e2 : (hs a).choose = (hs b).choose := by split at e <;> split at e <;> omega
      have h3 := ((hs a).choose_spec ha).2
      have h4 := ((hs b).choose_spec hb).2
      rw [e2] at h3
      exact h3.symm.trans h4)
    omega
  by_cases hjk : j = k
  · exact hjk
  · exfalso
    by_cases hc : (hs (f j)).choose = j
    · refine key k hk (fun i hi q => ?_)
      have h3 := ((hs i).choose_spec hi).2
      rw [q, ← e] at h3
      subst h3
      omega
    · refine key j hj (fun i hi q => ?_)
      have h3 := ((hs i).choose_spec hi).2
      rw [q] at h3
      subst h3
      exact hc q
