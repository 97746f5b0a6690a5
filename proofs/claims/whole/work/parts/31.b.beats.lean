/-! who beats whom; pair -/
theorem ab_pos {n i j a b : Nat} {f : Nat → Nat} (h : isO n f) (hij : i < j) (hj : j < n) (ha : f i = a) (hb : f j = b) : ab 1 n f a b = 1 := by
  unfold ab
  rw [su_one (t := i) (by omega) (fun s hs hne => su_zero (fun t ht => if_neg (fun q => hne (h.2 s i hs (by omega) (q.2.1.trans ha.symm)))))]
  rw [su_one (t := j) hj (fun s hs hne => if_neg (fun q => hne (h.2 s j hs hj (q.2.2.trans hb.symm))))]
  exact if_pos ⟨hij, ha, hb⟩
theorem ab_zero {n a b : Nat} {f : Nat → Nat} (h : ∀ i j, i < j → j < n → f i = a → f j ≠ b) : ab 1 n f a b = 0 :=
  su_zero (fun i hi => su_zero (fun j hj => if_neg (fun q => h i j q.1 hj q.2.1 q.2.2)))
theorem ab_le {n a b : Nat} {f : Nat → Nat} (h : isO n f) : ab 1 n f a b ≤ 1 := by
  by_cases e : ∃ i j, i < j ∧ j < n ∧ f i = a ∧ f j = b
  · obtain ⟨i, j, h1, h2, h3, h4⟩ := e
    rw [ab_pos h h1 h2 h3 h4]
    exact Nat.le_refl _
  · rw [ab_zero (fun i j h1 h2 h3 h4 => e ⟨i, j, h1, h2, h3, h4⟩)]
    exact Nat.zero_le _
theorem S_le {P : pv} {G : (Nat → Nat) → Nat} (h : ∀ t, t < P.T → G (P.od t) ≤ 1) : P.S G ≤ su P.am P.T := su_le (fun t ht => by
  have := Nat.mul_le_mul_left (P.am t) (h t ht)
  omega)
theorem ah_le {P : pv} (h : gd P) (a b : Nat) : P.ah a b ≤ 2000001 := by
  rw [ah_S]
  exact Nat.le_trans (S_le (fun t ht => ab_le (h.2.2.2.2.1 t ht))) h.2.2.2.1
theorem pl_le {P : pv} (h : gd P) (c p : Nat) : P.pl c p ≤ 2000001 := by
  rw [pl_S]
  refine Nat.le_trans (S_le (fun t ht => ?_)) h.2.2.2.1
  unfold p1
  split <;> omega
def pv.bt (P : pv) (a b : Nat) : Prop := P.ah b a < P.ah a b
theorem bt_irr {P : pv} {a : Nat} : ¬ P.bt a a := Nat.lt_irrefl _
theorem bt_asym {P : pv} {a b : Nat} (h : P.bt a b) : ¬ P.bt b a := fun g => by unfold pv.bt at *; omega
theorem sp_beats {F o a b : Nat} {P : pv} {M : om_M} {Q : Int32 → om_M → Prop} (hP : RP o M P) (hg : gd P) (ha : a < 7) (hb : b < 7) (h1 : P.bt a b → Q 1 M) (h0 : ¬ P.bt a b → Q 0 M) : wp_P_beats F o (nI a) (nI b) M Q := by
  refine ⟨pk_in a 7 ha, pk_in b 7 hb, ?_⟩
  rw [nI_clamp (n := a) (by omega), nI_clamp (n := b) (by omega)]
  have := ah_le hg a b
  have := ah_le hg b a
  exact pk_le (P.ah a b) (P.ah b a) (fun h => h0 (Nat.not_lt.mpr h)) (fun h => h1 h) (hP.2.2.2.2.2.2.2.2 a b ha hb) (hP.2.2.2.2.2.2.2.2 b a hb ha)
theorem sp_mbeats {F a b : Nat} {P : pv} {M : om_M} {Q : Int32 → om_M → Prop} (hP : RT M P) (hg : gd P) (ha : a < 7) (hb : b < 7) (h1 : P.bt a b → Q 1 M) (h0 : ¬ P.bt a b → Q 0 M) : wp_M_beats F 71 (nI a) (nI b) M Q := by
  unfold wp_M_beats
  rw [i7, i7, nI_clamp (n := 7 * a + b) (by omega), nI_clamp (n := 7 * b + a) (by omega)]
  refine ⟨pk_in (7 * a + b) 49 (by omega), pk_in (7 * b + a) 49 (by omega), ?_⟩
  have := ah_le hg a b
  have := ah_le hg b a
  exact pk_le (P.ah a b) (P.ah b a) (fun h => h0 (Nat.not_lt.mpr h)) (fun h => h1 h) (hP a b ha hb) (hP b a hb ha)
theorem nar0 : vp_nar .boolean 0 = 0 := by rfl
theorem nar1 : vp_nar .boolean 1 = 1 := by rfl
theorem sp_isCand {F n : Nat} {x : Int32} {M : om_M} {Q : Int32 → om_M → Prop} (hn : M.1 1 5 = nI n) (hn2 : n ≤ 7) (h1 : ∀ c, c < n → x = nI c → Q 1 M) (h0 : (∀ c, c < n → x ≠ nI c) → Q 0 M) : wp_D_isCandidate F 0 x M Q := by
  refine ⟨fun q => h0 (fun t ht e => absurd q (e ▸ nI_pos (by omega))), fun q => ?_⟩
  obtain ⟨t, ht, rfl⟩ := nI_of q
  refine pk_le n t (fun hle => h0 (fun s hs e => ?_)) (fun hlt => h1 t hlt rfl) hn
  have := (nI_eq ht (by omega)).mp e
  omega
theorem sp_win0 {F n : Nat} {x hi : Int32} {M : om_M} {Q : Int32 → om_M → Prop} (hh : hi = nI n) (hn : n < 1000) (h1 : ∀ c, c ≤ n → x = nI c → Q 1 M) (h0 : (∀ c, c ≤ n → x ≠ nI c) → Q 0 M) : wp_M_within F x 0 hi M Q := by
  subst hh
  refine sp_within (fun g1 g2 => ?_) (fun g => h0 (fun c hc e => ?_))
  · obtain ⟨t, ht, rfl⟩ := nI_of g1
    exact h1 t (by
      rcases Nat.lt_or_ge n t with g | g
      · exact absurd (nI_lt g ht) g2
      · exact g) rfl
  · subst e
    exact g.elim (nI_pos (by omega)) (nI_nlt hc (by omega))
theorem sp_misCand {F n : Nat} {x : Int32} {M : om_M} {Q : Int32 → om_M → Prop} (hn : M.1 71 1 = nI n) (h2 : 2 ≤ n) (hn2 : n ≤ 7) (h1 : ∀ c, c < n → x = nI c → Q 1 M) (h0 : (∀ c, c < n → x ≠ nI c) → Q 0 M) : wp_M_isCandidate F 71 x M Q := by
  refine sp_win0 (n := n - 1) (by rw [hn]; exact pk_sub (a := n) (b := 1) (by omega)) (by omega) (fun c hc e => ⟨nar1, h1 c (by omega) e⟩) (fun g => ⟨nar0, h0 (fun c hc => g c (by omega))⟩)
theorem sp_isRule {F : Nat} {x : Int32} {M : om_M} {Q : Int32 → om_M → Prop} (h1 : ∀ c, c < 12 → x = nI c → Q 1 M) (h0 : (∀ c, c < 12 → x ≠ nI c) → Q 0 M) : wp_D_isRule F x M Q := by
  refine ⟨fun q => h0 (fun t ht e => absurd q (e ▸ nI_pos (by omega))), fun q => ?_⟩
  obtain ⟨t, ht, rfl⟩ := nI_of q
  refine pk_le 12 t (fun hle => h0 (fun s hs e => ?_)) (fun hlt => h1 t hlt rfl)
  have := (nI_eq ht (by omega)).mp e
  omega
theorem sp_misRule {F : Nat} {x : Int32} {M : om_M} {Q : Int32 → om_M → Prop} (h1 : ∀ c, c < 12 → x = nI c → Q 1 M) (h0 : (∀ c, c < 12 → x ≠ nI c) → Q 0 M) : wp_M_isRule F x M Q :=
  sp_win0 (n := 11) rfl (by omega) (fun c hc e => ⟨nar1, h1 c (by omega) e⟩) (fun g => ⟨nar0, h0 (fun c hc => g c (by omega))⟩)
theorem RM.up0 {M : om_M} {P : pv} {v : Int32} (h : RM M P) : RM (om_up M 71 0 v) P := h.congr (fun q _ _ => om_up_n _ _ (by omega)) (pu_up2 (by decide)) (pu_up2 (by decide))
theorem wl_10_eq {F : Nat} {a1 a2 a3 : Int32} {M : om_M} {I : om_M → Prop} : wl_10 F 0 71 89 a1 a2 a3 M I = wp_L_pair F 0 a1 a2 89 1 M (fun r2 M1 => wp_M_pair F 71 a1 a2 M1 (fun r4 M3 => lt_i I r2 r4 M3)) := rfl
theorem iv_10 {F : Nat} (hF : 10000 ≤ F) (M : om_M) (a1 a2 a3 : Int32) (h : II M) : wl_10 F 0 71 89 a1 a2 a3 M II := by
  rw [wl_10_eq]
  obtain ⟨⟨P, hg, hP, hM⟩, -⟩ := id h
  have hn := hg.gn
  have hn2 : 2 ≤ P.n := hg.1
  have badm : ((∀ c, c < P.n → a1 ≠ nI c) ∨ (∀ c, c < P.n → a2 ≠ nI c)) → wp_M_pair F 71 a1 a2 M (fun r4 M3 => lt_i II 1 r4 M3) := by
    intro hb
    have fin : wp_M_pair_21 F 71 a1 a2 (fun r4 M3 => lt_i II 1 r4 M3) M 71 := sp_goes (fun _ => ⟨fun _ => lt_bad (by decide) pu_up1 h.thrown, fun e => absurd rfl e⟩) (fun e => absurd rfl e) (fun e => absurd rfl e)
    refine sp_misCand hM.1 hn2 hn (fun a ha e => ⟨fun e => absurd e (by decide), fun _ => ?_⟩) (fun _ => ⟨fun _ => fin, fun e => absurd rfl e⟩)
    exact sp_misCand hM.1 hn2 hn (fun b hb2 e2 => hb.elim (fun q => absurd e (q a ha)) (fun q => absurd e2 (q b hb2))) (fun _ => ⟨fun _ => fin, fun e => absurd rfl e⟩)
  refine sp_isCand hP.1 hn (fun a ha e => ⟨fun e => absurd e (by decide), fun _ => ?_⟩) (fun q => ⟨fun _ => ⟨fun _ => ⟨fun _ => badm (Or.inl q), fun e => absurd rfl e⟩, fun e => absurd rfl e⟩, fun e => absurd rfl e⟩)
  refine sp_isCand hP.1 hn (fun b hb e2 => ⟨fun e => absurd e (by decide), fun _ => ⟨fun e => absurd e (by decide), fun _ => ?_⟩⟩) (fun q => ⟨fun _ => ⟨fun _ => ⟨fun _ => badm (Or.inr q), fun e => absurd rfl e⟩, fun e => absurd rfl e⟩, fun e => absurd rfl e⟩)
  subst e e2
  refine ⟨pk_in a 7 (by omega), pk_in b 7 (by omega), pk_in 0 1 (by decide), ?_⟩
  rw [nI_clamp (n := a) (by omega), nI_clamp (n := b) (by omega), show M.1 (0 + 1 + 12 + 1 + a) b = nI (P.ah a b) from hP.2.2.2.2.2.2.2.2 a b (by omega) (by omega)]
  show wp_M_pair F 71 (nI a) (nI b) (om_ul M 89 0 (nI (P.ah a b)).toInt64) _
  refine sp_misCand (n := P.n) hM.1 hn2 hn (fun _ _ _ => ⟨fun e => absurd e (by decide), fun _ => ?_⟩) (fun q => absurd rfl (q a ha))
  refine sp_misCand (n := P.n) hM.1 hn2 hn (fun _ _ _ => ⟨fun e => absurd e (by decide), fun _ => ?_⟩) (fun q => absurd rfl (q b hb))
  refine sp_goes (fun e => absurd e (by decide)) (fun _ e => absurd e (by decide)) (fun _ _ => ⟨fun e => absurd e (by decide), fun _ => ?_⟩)
  refine sp_load (P := P) (RM.up0 hM) hn hg.gT (by omega) (fun M2 k1 k2 => ?_)
  refine sp_mtally k2 hn (by have := hg.gT; omega) (fun t ht => (hg.go t ht).1) (by omega) (fun M3 l1 l2 => ?_)
  rw [i7, nI_clamp (n := 7 * a + b) (by omega)]
  refine ⟨pk_in (7 * a + b) 49 (by omega), ?_⟩
  rw [l2 a b (by omega) (by omega)]
  refine lt_ok ?_ ?_ (II.asked (M1' := om_ul M 89 0 (nI (P.ah a b)).toInt64) h (cq.refl h.ta) rfl ?_)
  · rw [l1.1 71 (by decide), k1.2.1 0 (by decide) (by decide)]; exact pu_up1
  · rw [l1.2, k1.2.2]; exact ul_out (M := M)
  · exact (mq.th.trans k1.mq).trans ⟨fun q hq => l1.1 q (by omega), fun k _ _ _ => congrFun (l1.1 71 (by decide)) k, by rw [l1.2]⟩
