theorem sk_bit (a j : Nat) : ∀ k, (sk a k).testBit j = true ↔ ∃ i, i < k ∧ a / 8 ^ i % 8 = j
  | 0 => by
    constructor
    · intro h
      rw [show sk a 0 = 0 from rfl, Nat.zero_testBit] at h
      cases h
    · rintro ⟨i, h, -⟩
      omega
  | k + 1 => by
    rw [show sk a (k + 1) = mi (sk a k) (a / 8 ^ k % 8) from rfl, mi_bit, Bool.or_eq_true, decide_eq_true_eq, sk_bit a j k]
    constructor
    · rintro (⟨i, h1, h2⟩ | h)
      · exact ⟨i, by omega, h2⟩
      · exact ⟨k, by omega, h.symm⟩
    · rintro ⟨i, h1, h2⟩
      by_cases e : i = k
      · subst e; exact Or.inr h2.symm
      · exact Or.inl ⟨i, by omega, h2⟩
theorem pz_dig (a : Nat) : ∀ n, pz (fun k => a / 8 ^ k % 8) n = a % 8 ^ n
  | 0 => by rw [Nat.pow_zero, Nat.mod_one]; rfl
  | n + 1 => by
    show pz (fun k => a / 8 ^ k % 8) n + a / 8 ^ n % 8 * 8 ^ n = _
    rw [pz_dig a n, Nat.mod_pow_succ, Nat.mul_comm]
/-- what the desk takes for an order is one -/
theorem oo_isO {x : Int32} {n : Nat} (h : oo x n) : ∃ f, isO n f ∧ x = nI (pz f n) := by
  obtain ⟨a, rfl, h1, h2⟩ := h
  have hb : ∀ j, (∃ i, i < n ∧ a / 8 ^ i % 8 = j) ↔ j < n := fun j => by
    rw [← sk_bit a j n, h2, Nat.testBit_two_pow_sub_one, decide_eq_true_eq]
  have hlt : ∀ k, k < n → a / 8 ^ k % 8 < n := fun k hk => (hb _).mp ⟨k, hk, rfl⟩
  refine ⟨fun k => a / 8 ^ k % 8, ⟨hlt, fun j k hj hk e => pg_onto (f := fun k => a / 8 ^ k % 8) (fun j hj => (hb j).mpr hj) hj hk e (hlt j hj)⟩, ?_⟩
  rw [pz_dig, Nat.mod_eq_of_lt h1]
