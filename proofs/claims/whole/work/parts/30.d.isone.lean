/-! what is an order -/
def sk (a : Nat) : Nat → Nat
  | 0 => 0
  | k + 1 => mi (sk a k) (a / 8 ^ k % 8)
theorem sk_lt (a : Nat) : ∀ k, sk a k < 2 ^ 8
  | 0 => by show 0 < 256; decide
  | k + 1 => mi_lt (sk_lt a k) (by omega)
def oo (x : Int32) (n : Nat) : Prop := ∃ a : Nat, x = nI a ∧ a < 8 ^ n ∧ sk a n = 2 ^ n - 1
theorem p8_lt {n : Nat} (hn : n < 8) : 8 ^ n < 2 ^ 31 := by
  have h2 : 8 ^ n ≤ 8 ^ 7 := Nat.pow_le_pow_right (by decide) (by omega)
  omega
theorem p2_lt {n : Nat} (hn : n < 8) : 2 ^ n ≤ 128 := by
  have h2 : 2 ^ n ≤ 2 ^ 7 := Nat.pow_le_pow_right (by decide) (by omega)
  omega
theorem oo_pos {x : Int32} {n : Nat} (hn : n < 8) (h : oo x n) : ¬ x < 0 := by
  obtain ⟨a, rfl, h1, -⟩ := h
  have := p8_lt hn
  exact nI_pos (by omega)
theorem oo_iff {a n : Nat} (hn : n < 8) (ha : a < 2 ^ 31) : oo (nI a) n ↔ a < 8 ^ n ∧ sk a n = 2 ^ n - 1 := by
  constructor
  · rintro ⟨b, e, h1, h2⟩
    have := p8_lt hn
    have e := (nI_eq ha (by omega)).mp e
    subst e
    exact ⟨h1, h2⟩
  · exact fun h => ⟨a, rfl, h⟩
theorem sp_isOne {F n : Nat} {x : Int32} {M : om_M} {Q : Int32 → om_M → Prop} (hn : n < 8) (hF : n < F) (h1 : oo x n → Q 1 M) (h0 : ¬ oo x n → Q 0 M) : wp_O_isOne F x (nI n) M Q := by
  refine ⟨fun hneg => h0 (fun q => oo_pos hn q hneg), fun hpos => ?_⟩
  obtain ⟨a, ha, rfl⟩ := nI_of hpos
  rw [pa_shr ha hn]
  have h8 := p8_lt hn
  have hd : a / 8 ^ n < 2 ^ 31 := Nat.lt_of_le_of_lt (Nat.div_le_self _ _) ha
  refine pk_eq (a / 8 ^ n) 0 (fun hz => ?_) (fun hz => h0 (fun q => hz (Nat.div_eq_of_lt ((oo_iff hn ha).mp q).1)))
  have hlt : a < 8 ^ n := by
    rcases Nat.lt_or_ge a (8 ^ n) with q | q
    · exact q
    · have := Nat.div_pos q (Nat.pow_pos (by decide))
      omega
  refine pu_loop n (fun i z => z = (M, nI (sk a i), nI i)) (fun i z K hi hJ hK => ?_) (i := 0) (by omega) (by omega) rfl
  subst hJ
  refine pk_le n i (fun hle => ?_) (fun hi2 => ?_)
  · rw [show i = n by omega]
    show ((nI (sk a n) = ((1 : Int32) <<< (nI n &&& 31)) - 1 → Q 1 M) ∧ (¬ nI (sk a n) = ((1 : Int32) <<< (nI n &&& 31)) - 1 → Q 0 M))
    rw [mb_all (by omega)]
    have := sk_lt a n
    have := p2_lt hn
    exact pk_eq (sk a n) (2 ^ n - 1) (fun e => h1 ((oo_iff hn ha).mpr ⟨hlt, e⟩)) (fun e => h0 (fun q => e ((oo_iff hn ha).mp q).2))
  · refine hK hi2 _ ?_
    show (M, nI (sk a i) ||| (1 : Int32) <<< (((nI a >>> (((3 : Int32) * nI i) &&& 31)) &&& 7) &&& 31), nI i + 1) = (M, nI (sk a (i + 1)), nI (i + 1))
    rw [pa_at ha (by omega), mb_ins (by omega), ← nI_succ]
    rfl
