/-! the next order: both sides -/
theorem sp_mnext {F n : Nat} {f : Nat → Nat} {M : om_M} {Q : Int32 → om_M → Prop} (hn : 2 ≤ n) (hn7 : n ≤ 7) (hs : M.1 71 1 = nI n) (hf : isO n f) (hv : ∀ k, k < n → M.1 87 k = nI (f k)) (hF : 10 ≤ F) (h1 : tn f (n - 1) ≠ 0 → ∀ M', pu_off 87 M M' → (∀ k, k < n → M'.1 87 k = nI (nxf n f k)) → Q 1 M') (h0 : tn f (n - 1) = 0 → Q 0 M) : wp_M_nextOrder F 71 M Q := by
  unfold wp_M_nextOrder
  rw [hs, show nI n - 2 = nI (n - 1) + (-1) by
    rw [show nI n - 2 = nI (n - 2) from pk_sub (a := n) (b := 2) (by omega), show n - 1 = n - 2 + 1 by omega, pk_m1]]
  have b7 : ∀ k, k < n → f k < 7 := fun k hk => by have := hf.1 k hk; omega
  refine pu_loop (n - 1) (fun i z => z = (M, nI (n - 1 - i) + (-1)) ∧ tn f (n - 1) = tn f (n - 1 - i)) (fun i z K hi hJ hK => ?_) (i := 0) (by omega) (by omega) ⟨rfl, rfl⟩
  obtain ⟨rfl, e0⟩ := hJ
  obtain ⟨m, em⟩ : ∃ m, m = n - 1 - i := ⟨_, rfl⟩
  rw [← em] at e0 ⊢
  rcases Nat.eq_zero_or_pos m with z | z
  · subst z
    refine ⟨fun _ => ⟨fun q => absurd q (show ¬ (0 : Int32) ≤ nI 0 + (-1) by decide), fun _ => h0 e0⟩, fun q => absurd (show nI 0 + (-1) < (0 : Int32) by decide) q⟩
  · obtain ⟨t, rfl⟩ : ∃ t, m = t + 1 := ⟨m - 1, by omega⟩
    rw [pk_m1]
    unfold wp_M_nextOrder_7b
    rw [nI_1]
    have b1 := b7 t (by omega)
    have b2 := b7 (t + 1) (by omega)
    refine ⟨fun q => absurd q (nI_pos (by omega)), fun _ => ⟨pk_in t 7 (by omega), pk_in (t + 1) 7 (by omega), ?_⟩⟩
    rw [nI_clamp (n := t) (by omega), nI_clamp (n := t + 1) (by omega)]
    refine pk_le (f t) (f (t + 1)) (fun hle => ?_) (fun hgt => hK (by omega) _ ⟨by rw [show n - 1 - (i + 1) = t by omega], ?_⟩) (hv t (by omega)) (hv (t + 1) (by omega))
    · have et : tn f (n - 1) = t + 1 := by rw [e0]; exact if_pos hle
      have hne : tn f (n - 1) ≠ 0 := by omega
      refine ⟨fun _ => ?_, fun q => absurd (Int32.not_lt.mp (nI_pos (by omega))) q⟩
      show wp_M_nextOrder_47 F 71 Q (nI t) M (M.1 71 1 - 1)
      rw [hs, show nI n - 1 = nI (n - 1) from pk_sub (a := n) (b := 1) (by omega)]
      have fin : ∀ j, oj f t (n - 1) = j → t < j → j < n → wp_M_nextOrder_68 F 71 Q M (nI t) (nI j) := by
        intro j ej hj1 hj2
        refine ⟨pk_in t 7 (by omega), pk_in j 7 (by omega), ?_⟩
        rw [nI_clamp (n := t) (by omega), nI_clamp (n := j) (by omega), hv t (by omega), hv j hj2]
        rw [nI_1, om_up_n _ _ (by decide), om_up_n _ _ (by decide), hs, show nI n - 1 = nI (n - 1) from pk_sub (a := n) (b := 1) (by omega)]
        have sws : ∀ k, k < n → (om_up (om_up M 87 t (nI (f j))) 87 j (nI (f t))).1 87 k = nI (sw f t j k) := fun k hk => by
          unfold sw
          by_cases y1 : k = j
          · subst y1; rw [pu_up1, if_neg (by omega), if_pos rfl]
          · rw [pu_up2 y1]
            by_cases y2 : k = t
            · subst y2; rw [pu_up1, if_pos rfl]
            · rw [pu_up2 y2, if_neg y2, if_neg y1]; exact hv k hk
        refine pu_loop n (fun i z => z.2 = (nI (t + 1 + i), nI (n - 1 - i)) ∧ (t + 1 + i ≤ n) ∧ pu_off 87 M z.1 ∧ ∀ k, k < n → z.1.1 87 k = nI (sw f t j (if t < k ∧ (k < t + 1 + i ∨ n - 1 - i < k) then n + t - k else k))) (fun i z K2 hi2 hJ hK2 => ?_) (i := 0) (by omega) (by omega) ⟨rfl, by omega, pu_off.refl.up.up, fun k hk => ?_⟩
        · obtain ⟨M2, y⟩ := z
          obtain ⟨rfl, l0, l1, l2⟩ := hJ
          refine pk_le (n - 1 - i) (t + 1 + i) (fun hle2 => h1 hne M2 l1 (fun k hk => ?_)) (fun hgt2 => ?_)
          · rw [l2 k hk, nxf_eq et ej]
            by_cases y1 : k ≤ t
            · rw [if_pos y1, if_neg (by omega)]
            · rw [if_neg y1]
              by_cases y2 : k < t + 1 + i ∨ n - 1 - i < k
              · rw [if_pos ⟨by omega, y2⟩]
              · rw [if_neg (by omega), show n + t - k = k by omega]
          · refine ⟨pk_in (t + 1 + i) 7 (by omega), pk_in (n - 1 - i) 7 (by omega), ?_⟩
            rw [nI_clamp (n := t + 1 + i) (by omega), nI_clamp (n := n - 1 - i) (by omega), show (M2, nI (t + 1 + i), nI (n - 1 - i)).1.1 87 (t + 1 + i) = _ from l2 (t + 1 + i) (by omega), show (M2, nI (t + 1 + i), nI (n - 1 - i)).1.1 87 (n - 1 - i) = _ from l2 (n - 1 - i) (by omega), if_neg (by omega), if_neg (by omega)]
            refine hK2 (by omega) _ ⟨by rw [nI_1, show n - 1 - i = n - 1 - (i + 1) + 1 by omega, pk_m1]; rfl, by omega, l1.up.up, fun k hk => ?_⟩
            by_cases y1 : k = n - 1 - i
            · subst y1
              rw [pu_up1, if_pos (by omega), show n + t - (n - 1 - i) = t + 1 + i by omega]
            · rw [pu_up2 y1]
              by_cases y2 : k = t + 1 + i
              · subst y2
                rw [pu_up1, if_pos (by omega), show n + t - (t + 1 + i) = n - 1 - i by omega]
              · rw [pu_up2 y2, show (M2, nI (t + 1 + i), nI (n - 1 - i)).1.1 87 k = _ from l2 k hk]
                by_cases y3 : t < k ∧ (k < t + 1 + i ∨ n - 1 - i < k)
                · rw [if_pos y3, if_pos (by omega)]
                · rw [if_neg y3, if_neg (by omega)]
        · rw [if_neg (by omega)]
          exact sws k hk
      refine pu_loop (n - 1 - t) (fun i z => z = (M, nI (n - 1 - i)) ∧ oj f t (n - 1) = oj f t (n - 1 - i) ∧ t < n - 1 - i) (fun i z K2 hi2 hJ hK2 => ?_) (i := 0) (by omega) (by omega) ⟨rfl, rfl, by omega⟩
      obtain ⟨rfl, f0, f1⟩ := hJ
      obtain ⟨jm, ejm⟩ : ∃ jm, jm + 1 = n - 1 - i := ⟨n - 1 - i - 1, by omega⟩
      rw [← ejm] at f0 f1 ⊢
      have b3 := b7 (jm + 1) (by omega)
      refine ⟨pk_in (jm + 1) 7 (by omega), pk_in t 7 (by omega), ?_⟩
      rw [nI_clamp (n := t) (by omega), nI_clamp (n := jm + 1) (by omega)]
      refine pk_le (f t) (f (jm + 1)) (fun hle2 => fin (jm + 1) (by rw [f0]; exact if_pos hle2) (by omega) (by omega)) (fun hgt2 => hK2 ?_ _ ⟨by rw [pk_m1, show n - 1 - (i + 1) = jm by omega], ?_, ?_⟩) (hv t (by omega)) (hv (jm + 1) (by omega))
      · have : jm ≠ t := fun w => by rw [w] at hgt2; omega
        omega
      · rw [f0, show n - 1 - (i + 1) = jm by omega]
        exact if_neg (by omega)
      · have : jm ≠ t := fun w => by rw [w] at hgt2; omega
        omega
    · rw [e0, show n - 1 - (i + 1) = t by omega]
      exact if_neg (by omega)
theorem sp_cnext {F n : Nat} {f : Nat → Nat} {M : om_M} {Q : Int32 → om_M → Prop} (hn : 2 ≤ n) (hn7 : n ≤ 7) (hs : M.1 69 1 = nI n) (hf : isO n f) (hv : ∀ k, k < n → M.1 70 k = nI (f k)) (hF : 10 ≤ F) (h1 : tn f (n - 1) ≠ 0 → ∀ M', pu_off 70 M M' → (∀ k, k < n → M'.1 70 k = nI (nxf n f k)) → Q 1 M') (h0 : tn f (n - 1) = 0 → Q 0 M) : wp_S_advance F 69 M Q := by
  unfold wp_S_advance
  rw [hs, show nI n - 2 = nI (n - 1) + (-1) by
    rw [show nI n - 2 = nI (n - 2) from pk_sub (a := n) (b := 2) (by omega), show n - 1 = n - 2 + 1 by omega, pk_m1]]
  have b7 : ∀ k, k < n → f k < 7 := fun k hk => by have := hf.1 k hk; omega
  refine pu_loop (n - 1) (fun i z => z = (M, nI (n - 1 - i) + (-1)) ∧ tn f (n - 1) = tn f (n - 1 - i)) (fun i z K hi hJ hK => ?_) (i := 0) (by omega) (by omega) ⟨rfl, rfl⟩
  obtain ⟨rfl, e0⟩ := hJ
  obtain ⟨m, em⟩ : ∃ m, m = n - 1 - i := ⟨_, rfl⟩
  rw [← em] at e0 ⊢
  rcases Nat.eq_zero_or_pos m with z | z
  · subst z
    refine ⟨fun _ => ⟨fun q => absurd q (show ¬ (0 : Int32) ≤ nI 0 + (-1) by decide), fun _ => h0 e0⟩, fun q => absurd (show nI 0 + (-1) < (0 : Int32) by decide) q⟩
  · obtain ⟨t, rfl⟩ : ∃ t, m = t + 1 := ⟨m - 1, by omega⟩
    rw [pk_m1]
    unfold wp_S_advance_7b
    rw [nI_1]
    have b1 := b7 t (by omega)
    have b2 := b7 (t + 1) (by omega)
    refine ⟨fun q => absurd q (nI_pos (by omega)), fun _ => ⟨pk_in t 7 (by omega), pk_in (t + 1) 7 (by omega), ?_⟩⟩
    rw [nI_clamp (n := t) (by omega), nI_clamp (n := t + 1) (by omega)]
    refine pk_le (f t) (f (t + 1)) (fun hle => ?_) (fun hgt => hK (by omega) _ ⟨by rw [show n - 1 - (i + 1) = t by omega], ?_⟩) (hv t (by omega)) (hv (t + 1) (by omega))
    · have et : tn f (n - 1) = t + 1 := by rw [e0]; exact if_pos hle
      have hne : tn f (n - 1) ≠ 0 := by omega
      refine ⟨fun _ => ?_, fun q => absurd (Int32.not_lt.mp (nI_pos (by omega))) q⟩
      show wp_S_advance_47 F 69 Q (nI t) M (M.1 69 1 - 1)
      rw [hs, show nI n - 1 = nI (n - 1) from pk_sub (a := n) (b := 1) (by omega)]
      have fin : ∀ j, oj f t (n - 1) = j → t < j → j < n → wp_S_advance_75 F 69 Q M (nI t) (nI j) := by
        intro j ej hj1 hj2
        refine ⟨pk_in t 7 (by omega), pk_in j 7 (by omega), ?_⟩
        rw [nI_clamp (n := t) (by omega), nI_clamp (n := j) (by omega), hv t (by omega), hv j hj2]
        dsimp only
        rw [nI_1, om_up_n _ _ (by decide), om_up_n _ _ (by decide), hs, show nI n - 1 = nI (n - 1) from pk_sub (a := n) (b := 1) (by omega)]
        have sws : ∀ k, k < n → (om_up (om_up M 70 t (nI (f j))) 70 j (nI (f t))).1 70 k = nI (sw f t j k) := fun k hk => by
          unfold sw
          by_cases y1 : k = j
          · subst y1; rw [pu_up1, if_neg (by omega), if_pos rfl]
          · rw [pu_up2 y1]
            by_cases y2 : k = t
            · subst y2; rw [pu_up1, if_pos rfl]
            · rw [pu_up2 y2, if_neg y2, if_neg y1]; exact hv k hk
        refine pu_loop n (fun i z => z.2 = (nI (t + 1 + i), nI (n - 1 - i)) ∧ (t + 1 + i ≤ n) ∧ pu_off 70 M z.1 ∧ ∀ k, k < n → z.1.1 70 k = nI (sw f t j (if t < k ∧ (k < t + 1 + i ∨ n - 1 - i < k) then n + t - k else k))) (fun i z K2 hi2 hJ hK2 => ?_) (i := 0) (by omega) (by omega) ⟨rfl, by omega, pu_off.refl.up.up, fun k hk => ?_⟩
        · obtain ⟨M2, y⟩ := z
          obtain ⟨rfl, l0, l1, l2⟩ := hJ
          refine pk_le (n - 1 - i) (t + 1 + i) (fun hle2 => h1 hne M2 l1 (fun k hk => ?_)) (fun hgt2 => ?_)
          · rw [l2 k hk, nxf_eq et ej]
            by_cases y1 : k ≤ t
            · rw [if_pos y1, if_neg (by omega)]
            · rw [if_neg y1]
              by_cases y2 : k < t + 1 + i ∨ n - 1 - i < k
              · rw [if_pos ⟨by omega, y2⟩]
              · rw [if_neg (by omega), show n + t - k = k by omega]
          · refine ⟨pk_in (t + 1 + i) 7 (by omega), pk_in (n - 1 - i) 7 (by omega), ?_⟩
            rw [nI_clamp (n := t + 1 + i) (by omega), nI_clamp (n := n - 1 - i) (by omega), show (M2, nI (t + 1 + i), nI (n - 1 - i)).1.1 70 (t + 1 + i) = _ from l2 (t + 1 + i) (by omega), show (M2, nI (t + 1 + i), nI (n - 1 - i)).1.1 70 (n - 1 - i) = _ from l2 (n - 1 - i) (by omega), if_neg (by omega), if_neg (by omega)]
            refine hK2 (by omega) _ ⟨by rw [nI_1, show n - 1 - i = n - 1 - (i + 1) + 1 by omega, pk_m1]; rfl, by omega, l1.up.up, fun k hk => ?_⟩
            by_cases y1 : k = n - 1 - i
            · subst y1
              rw [pu_up1, if_pos (by omega), show n + t - (n - 1 - i) = t + 1 + i by omega]
            · rw [pu_up2 y1]
              by_cases y2 : k = t + 1 + i
              · subst y2
                rw [pu_up1, if_pos (by omega), show n + t - (t + 1 + i) = n - 1 - i by omega]
              · rw [pu_up2 y2, show (M2, nI (t + 1 + i), nI (n - 1 - i)).1.1 70 k = _ from l2 k hk]
                by_cases y3 : t < k ∧ (k < t + 1 + i ∨ n - 1 - i < k)
                · rw [if_pos y3, if_pos (by omega)]
                · rw [if_neg y3, if_neg (by omega)]
        · rw [if_neg (by omega)]
          exact sws k hk
      refine pu_loop (n - 1 - t) (fun i z => z = (M, nI (n - 1 - i)) ∧ oj f t (n - 1) = oj f t (n - 1 - i) ∧ t < n - 1 - i) (fun i z K2 hi2 hJ hK2 => ?_) (i := 0) (by omega) (by omega) ⟨rfl, rfl, by omega⟩
      obtain ⟨rfl, f0, f1⟩ := hJ
      obtain ⟨jm, ejm⟩ : ∃ jm, jm + 1 = n - 1 - i := ⟨n - 1 - i - 1, by omega⟩
      rw [← ejm] at f0 f1 ⊢
      have b3 := b7 (jm + 1) (by omega)
      refine pk_le (jm + 1) (t + 1) (fun hle3 => ?_) (fun hgt3 => ⟨pk_in (jm + 1) 7 (by omega), pk_in t 7 (by omega), ?_⟩) rfl (nI_1 t)
      · have ejt : jm = t := by omega
        exact fin (jm + 1) (by rw [f0]; exact if_pos (by rw [ejt]; exact hle)) (by omega) (by omega)
      · rw [nI_clamp (n := t) (by omega), nI_clamp (n := jm + 1) (by omega)]
        refine pk_le (f t) (f (jm + 1)) (fun hle2 => fin (jm + 1) (by rw [f0]; exact if_pos hle2) (by omega) (by omega)) (fun hgt2 => hK2 (by omega) _ ⟨by rw [pk_m1, show n - 1 - (i + 1) = jm by omega], ?_, by omega⟩) (hv t (by omega)) (hv (jm + 1) (by omega))
        rw [f0, show n - 1 - (i + 1) = jm by omega]
        exact if_neg (by omega)
    · rw [e0, show n - 1 - (i + 1) = t by omega]
      exact if_neg (by omega)
