theorem sp_misOrder {F o n : Nat} {x : Int32} {M : om_M} {Q : Int32 → om_M → Prop} (hn : n < 8) (hM : M.1 o 1 = nI n) (hF : n < F) (h1 : oo x n → Q 1 M) (h0 : ¬ oo x n → Q 0 M) : wp_M_isOrder F o x M Q := by
  refine pu_loop n (fun i z => z.1 = M ∧ z.2.2 = nI i ∧ ∀ a, a < 2 ^ 31 → x = nI a → z.2.1 = nI (sk a i)) (fun i z K hi hJ hK => ?_) (i := 0) (by omega) (by omega) ⟨rfl, rfl, fun a _ _ => rfl⟩
  obtain ⟨M', y, w⟩ := z
  obtain ⟨rfl, rfl, hs⟩ := hJ
  refine pk_le n i (fun hle => ?_) (fun hi2 => hK hi2 _ ⟨rfl, (nI_succ i).symm, fun a ha e => ?_⟩) hM
  · have hi : i = n := by omega
    subst hi
    refine ⟨fun hneg => h0 (fun q => oo_pos hn q hneg), fun hpos => ?_⟩
    obtain ⟨a, ha, rfl⟩ := nI_of hpos
    have e := hs a ha rfl
    simp only at e
    subst e
    show ((nI a >>> (((3 : Int32) * M'.1 o 1) &&& 31) = 0 → _) ∧ _)
    have hM : M'.1 o 1 = nI i := hM
    rw [hM]
    rw [pa_shr ha hn, mb_all (by omega)]
    have h8 := p8_lt hn
    have hd : a / 8 ^ i < 2 ^ 31 := Nat.lt_of_le_of_lt (Nat.div_le_self _ _) ha
    refine pk_eq (a / 8 ^ i) 0 (fun hz => ?_) (fun hz => h0 (fun q => hz (Nat.div_eq_of_lt ((oo_iff hn ha).mp q).1)))
    have hlt : a < 8 ^ i := by
      rcases Nat.lt_or_ge a (8 ^ i) with q | q
      · exact q
      · have := Nat.div_pos q (Nat.pow_pos (by decide))
        omega
    have := sk_lt a i
    have := p2_lt hn
    exact pk_eq (sk a i) (2 ^ i - 1) (fun e => h1 ((oo_iff hn ha).mpr ⟨hlt, e⟩)) (fun e => h0 (fun q => e ((oo_iff hn ha).mp q).2))
  · subst e
    have e := hs a ha rfl
    simp only at e
    subst e
    show nI (sk a i) ||| (1 : Int32) <<< (((nI a >>> (((3 : Int32) * nI i) &&& 31)) &&& 7) &&& 31) = nI (sk a (i + 1))
    rw [pa_at ha (by omega), mb_ins (by omega)]
    rfl
/-- goes: the code of what is thrown, and whether none is -/
theorem sp_goes {F o : Nat} {a b : Int32} {M : om_M} {Q : Int32 → om_M → Prop} (h1 : a = 0 → Q 0 (om_up M o 0 1)) (h2 : ¬ a = 0 → b = 0 → Q 0 (om_up M o 0 2)) (h3 : ¬ a = 0 → ¬ b = 0 → Q 1 (om_up M o 0 0)) : wp_M_goes F o a b M Q := by
  have key : ∀ v : Int32, (v = 0 → Q 1 (om_up M o 0 v)) → (¬ v = 0 → Q 0 (om_up M o 0 v)) → wp_M_goes_18 F o a b Q M o v := fun v g1 g2 => by
    unfold wp_M_goes_18
    rw [pu_up1]
    exact ⟨g1, g2⟩
  exact ⟨fun ha => key 1 (fun e => absurd e (by decide)) (fun _ => h1 ha), fun ha => ⟨fun hb => key 2 (fun e => absurd e (by decide)) (fun _ => h2 ha hb), fun hb => key 0 (fun _ => h3 ha hb) (fun e => absurd rfl e)⟩⟩
theorem sp_within {F : Nat} {x lo hi : Int32} {M : om_M} {Q : Int32 → om_M → Prop} (h1 : ¬ x < lo → ¬ hi < x → Q 1 M) (h0 : (x < lo ∨ hi < x) → Q 0 M) : wp_M_within F x lo hi M Q :=
  ⟨fun h => h0 (Or.inl h), fun h => ⟨fun g => h0 (Or.inr g), fun g => h1 h g⟩⟩
