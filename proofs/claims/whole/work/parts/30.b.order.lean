/-! orders as numbers: the machine's operations on them -/
theorem pa_sh : ∀ k, k < 8 → ((((3 : Int32) * nI k) &&& 31).toBitVec.smod 32).toNat = 3 * k := by decide +kernel
theorem pa_pw (k : Nat) : 2 ^ (3 * k) = 8 ^ k := by rw [Nat.pow_mul]
theorem pa_shr {a k : Nat} (ha : a < 2 ^ 31) (hk : k < 8) : nI a >>> (((3 : Int32) * nI k) &&& 31) = nI (a / 8 ^ k) := by
  rw [pk_shrN ha _ (3 * k) (pa_sh k hk), pa_pw]
theorem pa_and7 {a : Nat} (ha : a < 2 ^ 32) : nI a &&& 7 = nI (a % 8) := pk_andN ha 3 rfl
theorem pa_at {a k : Nat} (ha : a < 2 ^ 31) (hk : k < 8) : (nI a >>> (((3 : Int32) * nI k) &&& 31)) &&& 7 = nI (a / 8 ^ k % 8) := by
  rw [pa_shr ha hk, pa_and7 (Nat.lt_of_le_of_lt (Nat.div_le_self _ _) (by omega))]
theorem pa_shl {v k : Nat} (hv : v < 8) (hk : k < 8) : nI v <<< (((3 : Int32) * nI k) &&& 31) = nI (v * 8 ^ k) := by
  have hb : ∀ v, v < 8 → ∀ k, k < 8 → v * 2 ^ (3 * k) < 2 ^ 32 := by decide +kernel
  rw [pk_shlN _ (3 * k) (pa_sh k hk) (hb v hv k hk), pa_pw]
theorem pa_or (a b : Nat) : nI a ||| nI b = nI (a ||| b) := by
  apply Int32.toBitVec_inj.mp
  rw [Int32.toBitVec_or]
  show BitVec.ofNat 32 a ||| BitVec.ofNat 32 b = BitVec.ofNat 32 (a ||| b)
  apply BitVec.eq_of_toNat_eq
  simp [Nat.or_mod_two_pow]
theorem pa_or8 {a b i : Nat} (h : a < 8 ^ i) : nI a ||| nI (b * 8 ^ i) = nI (a + b * 8 ^ i) := by
  have e := Nat.shiftLeft_add_eq_or_of_lt (i := 3 * i) (b := a) (by rw [pa_pw]; exact h) b
  rw [Nat.shiftLeft_eq, pa_pw] at e
  rw [pa_or, Nat.or_comm, ← e, Nat.add_comm]
theorem pz_8 {f : Nat → Nat} {n : Nat} (hn : n < 8) (h : ∀ k, k < n → f k < 8) : pz f n < 2 ^ 31 := by
  have h1 := pz_lt h
  have h2 : 8 ^ n ≤ 8 ^ 7 := Nat.pow_le_pow_right (by decide) (by omega)
  omega
/-- the next place of an order is put in -/
theorem pa_put {f : Nat → Nat} {k : Nat} (h : ∀ j, j < k + 1 → f j < 8) (hk : k < 8) : nI (pz f k) ||| nI (f k) <<< (((3 : Int32) * nI k) &&& 31) = nI (pz f (k + 1)) := by
  rw [pa_shl (h k (by omega)) hk, pa_or8 (pz_lt (fun j hj => h j (by omega)))]
  rfl
theorem pa_get {f : Nat → Nat} {n k : Nat} (h : ∀ j, j < n → f j < 8) (hn : n < 8) (hk : k < n) : (nI (pz f n) >>> (((3 : Int32) * nI k) &&& 31)) &&& 7 = nI (f k) := by
  rw [pa_at (pz_8 hn h) (by omega), pz_at h hk]
theorem sp_asc {F n : Nat} {M : om_M} {Q : Int32 → om_M → Prop} (hn : n < 8) (hF : n < F) (h : Q (nI (pz id n)) M) : wp_O_ascending F (nI n) M Q := by
  refine pu_loop n (fun i z => z = (M, nI (pz id i), nI i)) (fun i z K hi hJ hK => ?_) (i := 0) (by omega) (by omega) rfl
  subst hJ
  refine pk_le n i (fun hle => ?_) (fun hlt => hK hlt _ ?_)
  · rw [show i = n by omega]; exact h
  · rw [← nI_succ]
    exact congrArg (fun x => (M, x, nI (i + 1))) (pa_put (f := id) (fun j hj => by show j < 8; omega) (by omega))
