/-! sets as numbers: the machine's operations on them -/
theorem mb_sh : ∀ c, c < 31 → ((nI c &&& 31).toBitVec.smod 32).toNat = c := by decide +kernel
theorem mb_one {c : Nat} (hc : c < 31) : (1 : Int32) <<< (nI c &&& 31) = nI (2 ^ c) := by
  have h : 2 ^ c ≤ 2 ^ 30 := Nat.pow_le_pow_right (by decide) (by omega)
  have := pk_shlN (n := 1) (nI c &&& 31) c (mb_sh c hc) (by omega)
  rw [Nat.one_mul] at this
  exact this
theorem mb_shr {s c : Nat} (hs : s < 2 ^ 31) (hc : c < 31) : nI s >>> (nI c &&& 31) = nI (s / 2 ^ c) := pk_shrN hs _ c (mb_sh c hc)
theorem mb_get {s c : Nat} (hs : s < 2 ^ 31) (hc : c < 31) : (nI s >>> (nI c &&& 31)) &&& 1 = nI (s.testBit c).toNat := by
  rw [mb_shr hs hc, pk_andN (Nat.lt_of_le_of_lt (Nat.div_le_self _ _) (by omega)) 1 rfl, Nat.testBit_eq_decide_div_mod_eq]
  have h : s / 2 ^ c % 2 = 0 ∨ s / 2 ^ c % 2 = 1 := by omega
  rcases h with h | h <;> rw [show (2 : Nat) ^ 1 = 2 from rfl, h] <;> rfl
theorem mb_and (a b : Nat) : nI a &&& nI b = nI (a &&& b) := by
  apply Int32.toBitVec_inj.mp
  rw [Int32.toBitVec_and]
  show BitVec.ofNat 32 a &&& BitVec.ofNat 32 b = BitVec.ofNat 32 (a &&& b)
  apply BitVec.eq_of_toNat_eq
  simp [Nat.and_mod_two_pow]
theorem mb_xor (a b : Nat) : nI a ^^^ nI b = nI (a ^^^ b) := by
  apply Int32.toBitVec_inj.mp
  rw [Int32.toBitVec_xor]
  show BitVec.ofNat 32 a ^^^ BitVec.ofNat 32 b = BitVec.ofNat 32 (a ^^^ b)
  apply BitVec.eq_of_toNat_eq
  simp [Nat.xor_mod_two_pow]
theorem mb_m1 : (-1 : Int32) = nI (2 ^ 32 - 1) := by decide +kernel
/-- s without c -/
def md (s c : Nat) : Nat := s &&& (2 ^ c ^^^ (2 ^ 32 - 1))
theorem mb_del {s c : Nat} : nI s &&& (nI (2 ^ c) ^^^ (-1)) = nI (md s c) := by
  rw [mb_m1, mb_xor, mb_and]
  rfl
theorem md_bit {s c j : Nat} (hs : s < 2 ^ 31) : (md s c).testBit j = (s.testBit j && decide (j ≠ c)) := by
  unfold md
  rw [Nat.testBit_and, Nat.testBit_xor, Nat.testBit_two_pow, Nat.testBit_two_pow_sub_one]
  by_cases hj : j < 32
  · by_cases e : c = j
    · subst e; simp [hj]
    · simp [hj, e, Ne.symm e]
  · rw [Nat.testBit_lt_two_pow (Nat.lt_of_lt_of_le hs (Nat.pow_le_pow_right (by decide) (by omega)))]
    simp
theorem md_le {s c : Nat} : md s c ≤ s := Nat.and_le_left
/-- s with c -/
def mi (s c : Nat) : Nat := s ||| 2 ^ c
theorem mi_bit {s c j : Nat} : (mi s c).testBit j = (s.testBit j || decide (j = c)) := by
  unfold mi
  rw [Nat.testBit_or, Nat.testBit_two_pow]
  by_cases e : c = j
  · subst e; simp
  · simp [e, Ne.symm e]
theorem mi_lt {s c n : Nat} (hs : s < 2 ^ n) (hc : c < n) : mi s c < 2 ^ n := Nat.or_lt_two_pow hs (Nat.pow_lt_pow_right (by decide) hc)
theorem mb_ins {s c : Nat} (hc : c < 31) : nI s ||| (1 : Int32) <<< (nI c &&& 31) = nI (mi s c) := by
  rw [mb_one hc, pa_or]
  rfl
theorem m_ext {s t n : Nat} (hs : s < 2 ^ n) (ht : t < 2 ^ n) (h : ∀ j, j < n → s.testBit j = t.testBit j) : s = t := by
  apply Nat.eq_of_testBit_eq
  intro j
  by_cases hj : j < n
  · exact h j hj
  · rw [Nat.testBit_lt_two_pow (Nat.lt_of_lt_of_le hs (Nat.pow_le_pow_right (by decide) (by omega))), Nat.testBit_lt_two_pow (Nat.lt_of_lt_of_le ht (Nat.pow_le_pow_right (by decide) (by omega)))]
theorem mb_all {n : Nat} (hn : n < 31) : ((1 : Int32) <<< (nI n &&& 31)) - 1 = nI (2 ^ n - 1) := by
  rw [mb_one hn]
  exact pk_sub (a := 2 ^ n) (b := 1) (Nat.pos_of_ne_zero (by simp))
