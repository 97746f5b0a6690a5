/-! the model: one leaves; over -/
theorem sp_mwithout {F c fr o2 n2 n : Nat} {f : Nat → Nat} {M : om_M} {Q : om_M → Prop} (hn : n ≤ 7) (hM : M.1 71 8 = nI n) (ho : o2 ≠ 71) (hf : isO n f) (hc : c < n) (hv : ∀ k, k < n → M.1 o2 (fr + k) = nI (f k)) (hr : fr + n ≤ n2) (hr2 : n2 < 1000) (hF : 10 ≤ F) (h : ∀ M', pu_off o2 M M' → (∀ k, k < n - 1 → M'.1 o2 (fr + k) = nI (wof n c f k)) → (∀ j, (j < fr ∨ fr + n ≤ j) → M'.1 o2 j = M.1 o2 j) → Q M') : wp_M_without F 71 (nI c) o2 n2 (nI fr) M Q := by
  obtain ⟨l1, e1⟩ := ixp_lt hf hc
  refine pu_loop n (fun i z => ∃ j, z.2 = (nI (fr + j), nI (fr + i)) ∧ j = (if i ≤ ixp n f c then i else i - 1) ∧ pu_off o2 M z.1 ∧ (∀ k, k < j → z.1.1 o2 (fr + k) = nI (wof n c f k)) ∧ (∀ k, i ≤ k → k < n → z.1.1 o2 (fr + k) = nI (f k)) ∧ ∀ j, (j < fr ∨ fr + n ≤ j) → z.1.1 o2 j = M.1 o2 j) (fun i z K hi hJ hK => ?_) (i := 0) (by omega) (by omega) ⟨0, rfl, by rw [if_pos (by omega)], pu_off.refl, fun k hk => absurd hk (by omega), fun k _ hk => hv k hk, fun _ _ => rfl⟩
  obtain ⟨M1, y⟩ := z
  obtain ⟨j, rfl, hj, j1, j2, j3, j4⟩ := hJ
  have e8 : nI fr + M1.1 71 8 = nI (fr + n) := by rw [j1.1 71 (Ne.symm ho), hM, nI_add]
  refine pk_le (fr + n) (fr + i) (fun hle => ?_) (fun hlt2 => ?_) e8
  · rw [if_neg (by omega)] at hj
    exact h M1 j1 (fun k hk => j2 k (by omega)) j4
  · have hlt : i < n := by omega
    have hfi := hf.1 i hlt
    rw [nI_clamp (n := fr + i) (by omega), show (M1, nI (fr + j), nI (fr + i)).1.1 o2 (fr + i) = nI (f i) from j3 i (Nat.le_refl _) hlt]
    refine ⟨pk_in (fr + i) n2 (by omega), pk_eq (f i) c (fun e => hK hlt _ ⟨j, by rw [nI_1]; rfl, ?_, j1, j2, fun k h1 h2 => j3 k (by omega) h2, j4⟩) (fun ne => ?_)⟩
    · have := hf.2 i (ixp n f c) hlt l1 (e.trans e1.symm)
      rw [if_pos (by omega)] at hj
      rw [if_neg (by omega)]
      omega
    · have hni : i ≠ ixp n f c := fun z => ne (by rw [z]; exact e1)
      have ej : (if j < ixp n f c then j else j + 1) = i := by
        by_cases q : i ≤ ixp n f c
        · rw [if_pos q] at hj
          rw [if_pos (by omega)]; omega
        · rw [if_neg q] at hj
          rw [if_neg (by omega)]; omega
      have ew : wof n c f j = dn c (f i) := by unfold wof; rw [ej]
      have hji : j ≤ i := by
        by_cases q : i ≤ ixp n f c
        · rw [if_pos q] at hj; omega
        · rw [if_neg q] at hj; omega
      have put : wp_M_without_47 F 71 (nI c) o2 n2 (nI fr) Q K M1 (nI (fr + j)) (nI (fr + i)) o2 (nI (fr + j)) (nI (dn c (f i))) := by
        refine ⟨pk_in (fr + j) n2 (by omega), hK hlt _ ⟨j + 1, ?_, ?_, j1.up, fun k hk => ?_, fun k h1 h2 => ?_, fun q hq => ?_⟩⟩
        · rw [nI_1, nI_1]; rfl
        · by_cases q : i ≤ ixp n f c
          · rw [if_pos q] at hj
            rw [if_pos (by omega)]; omega
          · rw [if_neg q] at hj
            rw [if_neg (by omega)]; omega
        · rw [nI_clamp (n := fr + j) (by omega)]
          by_cases z : k = j
          · subst z; rw [ew]; exact pu_up1
          · exact (pu_up2 (by omega)).trans (j2 k (by omega))
        · rw [nI_clamp (n := fr + j) (by omega)]
          exact (pu_up2 (by omega)).trans (j3 k (by omega) h2)
        · rw [nI_clamp (n := fr + j) (by omega)]
          exact (pu_up2 (by omega)).trans (j4 q hq)
      refine pk_le (f i) c (fun q => ?_) (fun q => ?_)
      · rw [show dn c (f i) = f i from if_neg (by omega)] at put; exact put
      · rw [show dn c (f i) = f i - 1 from if_pos q] at put
        rw [show nI (f i) - 1 = nI (f i - 1) from pk_sub (a := f i) (b := 1) (by omega)]
        exact put
theorem sp_leaveOut {F c : Nat} {P : pv} {M : om_M} {Q : om_M → Prop} (hL : RL M P) (hg : gd P) (hc : c < P.n) (hF : 100 ≤ F) (h : ∀ M', ml M M' → RL M' (P.wo c) → Q M') : wp_M_leaveOut F 71 (nI c) M Q := by
  have hn := hg.2.1
  have hn2 : 2 ≤ P.n := hg.1
  have hT := hg.2.2.1
  obtain ⟨q1, q2, q3, q4, q5, q6, q7⟩ := hL
  refine pu_loop P.T (fun t z => z.2 = nI t ∧ pu_off 77 M z.1 ∧ (∀ s k, s < t → k < P.n - 1 → z.1.1 77 (7 * s + k) = nI (wof P.n c (P.od s) k)) ∧ ∀ s k, t ≤ s → s < P.T → k < P.n → z.1.1 77 (7 * s + k) = nI (P.od s k)) (fun t z K hi hJ hK => ?_) (i := 0) (by omega) (by omega) ⟨rfl, pu_off.refl, fun s k hs => absurd hs (by omega), fun s k _ hs hk => q3 s k hs hk⟩
  obtain ⟨M1, y⟩ := z
  obtain ⟨rfl, j1, j2, j3⟩ := hJ
  have e71 : M1.1 71 = M.1 71 := j1.1 71 (by decide)
  refine pk_le P.T t (fun hle => ?_) (fun ht => ?_) (by rw [e71]; exact q2)
  · refine sp_mwithout (fr := 0) (f := P.ti) hn (by rw [e71]; exact q1) (by decide) hg.2.2.2.2.2.1 hc (fun k hk => by rw [Nat.zero_add, j1.1 _ (by decide)]; exact q5 k hk) (by omega) (by decide) (by omega) (fun M2 k1 k2 k3 => ?_)
    refine sp_mwithout (fr := 0) (f := P.ag) hn (by rw [k1.1 71 (by decide), e71]; exact q1) (by decide) hg.2.2.2.2.2.2.1 hc (fun k hk => by rw [Nat.zero_add, k1.1 _ (by decide), j1.1 _ (by decide)]; exact q6 k hk) (by omega) (by decide) (by omega) (fun M3 l1 l2 l3 => ?_)
    have e3 : M3.1 71 = M.1 71 := by rw [l1.1 71 (by decide), k1.1 71 (by decide), e71]
    have e38 : M3.1 71 8 - 1 = nI (P.n - 1) := by rw [e3, q1]; exact pk_sub (a := P.n) (b := 1) (by omega)
    rw [e38]
    refine h _ ⟨fun q hq => ?_, fun k h1 h2 => ?_, ?_⟩ ⟨pu_up1, ?_, fun s k (hs : s < P.T) (hk : k < P.n - 1) => ?_, fun s hs => ?_, fun k (hk : k < P.n - 1) => ?_, fun k (hk : k < P.n - 1) => ?_, fun k (hk : k < P.n - 1) => ?_⟩
    · rw [om_up_n _ _ (by omega), l1.1 q (by omega), k1.1 q (by omega), j1.1 q (by omega)]
    · rw [pu_up2 h1, e3]
    · show M3.2 = M.2
      rw [l1.2, k1.2, j1.2]
    · rw [pu_up2 (by decide), e3]; exact q2
    · rw [om_up_n _ _ (by decide), l1.1 _ (by decide), k1.1 _ (by decide)]; exact j2 s k (by omega) hk
    · rw [om_up_n _ _ (by decide), l1.1 _ (by decide), k1.1 _ (by decide), j1.1 _ (by decide)]; exact q4 s hs
    · rw [om_up_n _ _ (by decide), l1.1 _ (by decide)]
      have := k2 k hk
      rw [Nat.zero_add] at this
      exact this
    · rw [om_up_n _ _ (by decide)]
      have := l2 k hk
      rw [Nat.zero_add] at this
      exact this
    · rw [om_up_n _ _ (by decide), l1.1 _ (by decide), k1.1 _ (by decide), j1.1 _ (by decide)]; exact q7 k (by omega)
  · rw [show (7 : Int32) * nI t = nI (7 * t) from pk_mul 7 t]
    refine sp_mwithout (fr := 7 * t) (f := P.od t) hn (by rw [e71]; exact q1) (by decide) (hg.2.2.2.2.1 t ht) hc (fun k hk => j3 t k (Nat.le_refl _) ht hk) (by omega) (by decide) (by omega) (fun M2 k1 k2 k3 => hK ht _ ⟨by rw [nI_1], ⟨fun q hq => by rw [k1.1 q hq]; exact j1.1 q hq, k1.2.trans j1.2⟩, fun s k hs hk => ?_, fun s k h1 h2 hk => ?_⟩)
    · by_cases e : s = t
      · subst e; exact k2 k hk
      · exact (k3 _ (by omega)).trans (j2 s k (by omega) hk)
    · exact (k3 _ (by omega)).trans (j3 s k (by omega) h2 hk)
theorem sp_over2 {F c : Nat} {x2 : Int32} {P : pv} {M : om_M} {Q : Int32 → om_M → Prop} (R : Nat → Prop) (hL : M.1 71 8 = nI P.n) (hR : RT M P) (hg : gd P) (hc : c < P.n) (hx : (x2 = 0 ∧ ∀ b, R b ↔ P.bt b c) ∨ (¬ x2 = 0 ∧ ∀ b, R b ↔ P.bt c b)) (hF : 10 ≤ F) (h1 : (∀ b, b < P.n → b ≠ c → R b) → Q 1 M) (h0 : ¬ (∀ b, b < P.n → b ≠ c → R b) → Q 0 M) : wp_M_over2 F 71 (nI c) x2 M Q := by
  have hn := hg.2.1
  refine pu_loop P.n (fun j z => ∃ y : Int32, z = (M, y, nI j) ∧ ((y = 1 ∧ ∀ b, b < j → b ≠ c → R b) ∨ (y = 0 ∧ ¬ ∀ b, b < P.n → b ≠ c → R b))) (fun b z K hj hJ hK => ?_) (i := 0) (by omega) (by omega) ⟨1, rfl, Or.inl ⟨rfl, fun d hd => absurd hd (by omega)⟩⟩
  obtain ⟨y, rfl, hy⟩ := hJ
  refine pk_le P.n b (fun hle => ?_) (fun hb => ?_) hL
  · rcases hy with ⟨rfl, hy⟩ | ⟨rfl, hy⟩
    · exact ⟨nar1, h1 (fun b' hb' => hy b' (by omega))⟩
    · exact ⟨nar0, h0 hy⟩
  · have no : ¬ (∀ b, b < P.n → b ≠ c → R b) → wp_M_over2_55 F 71 (nI c) x2 Q K M (nI b) := fun hh => hK hb _ ⟨0, by rw [nI_1], Or.inr ⟨rfl, hh⟩⟩
    refine ⟨fun e => no (hy.resolve_left (fun q => absurd (q.1.symm.trans e) (by decide))).2, fun ne => ?_⟩
    have hy1 := hy.resolve_right (fun q => ne q.1)
    have yes : (b ≠ c → R b) → wp_M_over2_51 F 71 (nI c) x2 Q K M (nI b) := fun hh => hK hb _ ⟨1, by rw [nI_1], Or.inl ⟨rfl, fun d hd hne => by
      by_cases z : d = b
      · subst z; exact hh hne
      · exact hy1.2 d (by omega) hne⟩⟩
    refine pk_eq b c (fun e => yes (fun z => absurd e z)) (fun nbc => ?_)
    rcases hx with ⟨e, hx⟩ | ⟨e, hx⟩
    · exact ⟨fun _ => sp_mbeats hR hg (by omega) (by omega) (fun q => ⟨fun z => absurd z (by decide), fun _ => yes (fun _ => (hx b).mpr q)⟩) (fun q => ⟨fun _ => no (fun z => q ((hx b).mp (z b hb nbc))), fun z => absurd rfl z⟩), fun z => absurd e z⟩
    · exact ⟨fun z => absurd z e, fun _ => sp_mbeats hR hg (by omega) (by omega) (fun q => ⟨fun z => absurd z (by decide), fun _ => yes (fun _ => (hx b).mpr q)⟩) (fun q => ⟨fun _ => no (fun z => q ((hx b).mp (z b hb nbc))), fun z => absurd rfl z⟩)⟩
