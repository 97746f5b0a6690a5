/-! the pure part: loops that count -/
theorem pu_loop {σ : Type} {body : σ → (σ → Prop) → Prop} (N : Nat) (J : Nat → σ → Prop) (hs : ∀ (i : Nat) (z : σ) (K : σ → Prop), i ≤ N → J i z → (i < N → ∀ z', J (i + 1) z' → K z') → body z K) : ∀ {F : Nat} {i : Nat} {z : σ}, N - i < F → i ≤ N → J i z → ow_lp body F z
  | 0, i, z, hF, _, _ => absurd hF (by omega)
  | F + 1, i, z, hF, hi, h => hs i z _ hi h (fun hlt z' h' => pu_loop N J hs (by omega) hlt h')
theorem pu_up1 {M : om_M} {o k : Nat} {v : Int32} : (om_up M o k v).1 o k = v := by simp [om_up, upd]
theorem pu_up2 {M : om_M} {o k j : Nat} {v : Int32} (h : j ≠ k) : (om_up M o k v).1 o j = M.1 o j := by simp [om_up, upd, h]
theorem pu_up3 {M : om_M} {o o' k j : Nat} {v : Int32} (h : o' ≠ o) : (om_up M o k v).1 o' j = M.1 o' j := by simp [om_up, h]
theorem pu_up4 {M : om_M} {o k : Nat} {v : Int32} : (om_up M o k v).2 = M.2 := rfl
/-- two memories agree but at an object -/
def pu_off (o : Nat) (M M' : om_M) : Prop := (∀ o', o' ≠ o → M'.1 o' = M.1 o') ∧ M'.2 = M.2
theorem pu_off.refl {o : Nat} {M : om_M} : pu_off o M M := ⟨fun _ _ => rfl, rfl⟩
theorem pu_off.up {o k : Nat} {v : Int32} {M M' : om_M} (h : pu_off o M M') : pu_off o M (om_up M' o k v) := ⟨fun o' ho => by
  rw [← h.1 o' ho]
  show (if o' = o then _ else _) = _
  rw [if_neg ho], h.2⟩
theorem sp_fill {F o n : Nat} {v : Int32} {M : om_M} {Q : om_M → Prop} (hn : n < 2 ^ 31) (hF : n < F) (h : ∀ M', pu_off o M M' → (∀ j, j < n → M'.1 o j = v) → (∀ j, n ≤ j → M'.1 o j = M.1 o j) → Q M') : wp_JA_fill F o n v M Q := by
  refine pu_loop n (fun i z => z.2 = nI i ∧ pu_off o M z.1 ∧ (∀ j, j < i → z.1.1 o j = v) ∧ ∀ j, n ≤ j → z.1.1 o j = M.1 o j) (fun i z K hi hJ hK => ?_) (i := 0) (by omega) (by omega) ⟨rfl, pu_off.refl, fun j hj => absurd hj (by omega), fun j _ => rfl⟩
  obtain ⟨M1, x⟩ := z
  obtain ⟨rfl, h1, h2, h3⟩ := hJ
  refine pk_le n i (fun hle => h M1 h1 (fun j hj => h2 j (by omega)) h3) (fun hlt => ⟨vp_in_nI hlt hn, hK hlt _ ⟨(nI_succ i).symm, ?_, fun j hj => ?_, fun j hj => ?_⟩⟩)
  · exact h1.up
  · rw [nI_clamp (by omega)]
    by_cases e : j = i
    · subst e; exact pu_up1
    · rw [pu_up2 e]; exact h2 j (by omega)
  · rw [nI_clamp (by omega), pu_up2 (by omega)]
    exact h3 j hj
/-- an order as a number, three bits a place -/
def pz (f : Nat → Nat) : Nat → Nat
  | 0 => 0
  | k + 1 => pz f k + f k * 8 ^ k
theorem pz_lt {f : Nat → Nat} : ∀ {n : Nat}, (∀ k, k < n → f k < 8) → pz f n < 8 ^ n
  | 0, _ => by show 0 < 1; decide
  | n + 1, h => by
    have h1 := pz_lt (n := n) (fun k hk => h k (by omega))
    have h2 : f n * 8 ^ n ≤ 7 * 8 ^ n := Nat.mul_le_mul_right _ (by have := h n (by omega); omega)
    show pz f n + f n * 8 ^ n < 8 ^ (n + 1)
    rw [Nat.pow_succ]
    omega
theorem pz_at {f : Nat → Nat} : ∀ {n : Nat}, (∀ k, k < n → f k < 8) → ∀ {k : Nat}, k < n → pz f n / 8 ^ k % 8 = f k
  | 0, _, k, hk => absurd hk (by omega)
  | n + 1, h, k, hk => by
    have hlt := pz_lt (n := n) (fun k hk => h k (by omega))
    by_cases hn : k = n
    · subst hn
      show (pz f k + f k * 8 ^ k) / 8 ^ k % 8 = f k
      rw [Nat.add_mul_div_right _ _ (Nat.pow_pos (by decide)), Nat.div_eq_of_lt hlt, Nat.zero_add]
      exact Nat.mod_eq_of_lt (h k (by omega))
    · have ih := pz_at (n := n) (fun k hk => h k (by omega)) (k := k) (by omega)
      show (pz f n + f n * 8 ^ n) / 8 ^ k % 8 = f k
      obtain ⟨d, rfl⟩ : ∃ d, n = k + (d + 1) := ⟨n - k - 1, by omega⟩
      have e : f (k + (d + 1)) * 8 ^ (k + (d + 1)) = 8 ^ k * (8 * (f (k + (d + 1)) * 8 ^ d)) := by
        rw [Nat.pow_add, Nat.pow_succ, Nat.mul_comm (8 ^ d) 8, Nat.mul_left_comm, Nat.mul_left_comm (f _) 8]
      rw [e, Nat.add_mul_div_left _ _ (Nat.pow_pos (by decide)), Nat.add_mul_mod_self_left]
      exact ih
theorem pz_gone {f : Nat → Nat} {n : Nat} (h : ∀ k, k < n → f k < 8) : pz f n / 8 ^ n = 0 := Nat.div_eq_of_lt (pz_lt h)
