/-! the model's scores -/
theorem ld_all {P : pv} (hg : gd P) (c : Nat) : P.ld (fun _ => True) c = P.pl c 0 := su_congr (fun t ht => by
  have hn : 0 < P.n := by have := hg.1; omega
  show ci _ _ = (if 0 < P.n ∧ P.od t 0 = c then P.am t else 0)
  by_cases e : P.od t 0 = c
  · rw [if_pos ⟨hn, e⟩, ci_pos ⟨0, ⟨hn, trivial, fun j hj => absurd hj (by omega)⟩, e⟩]
  · rw [if_neg (fun q => e q.2), ci_neg]
    rintro ⟨k, hk, q⟩
    have : k = 0 := by
      rcases Nat.eq_zero_or_pos k with z | z
      · exact z
      · exact absurd trivial (hk.2.2 0 z)
    subst this
    exact e q)
theorem pt_ex {P : pv} {c t k : Nat} (ho : isO P.n (P.od t)) (hk : k < P.n) (e : P.od t k = c) : su (fun k => P.we k * (if k < P.n ∧ P.od t k = c then P.am t else 0)) P.n = P.we k * P.am t := by
  rw [su_one (t := k) hk (fun s hs hne => by rw [if_neg (fun q => hne (ho.2 s k hs hk (q.2.trans e.symm))), Nat.mul_zero]), if_pos ⟨hk, e⟩]
theorem pt_sum {P : pv} (c : Nat) : su (fun t => su (fun k => P.we k * (if k < P.n ∧ P.od t k = c then P.am t else 0)) P.n) P.T = su (fun k => P.we k * P.pl c k) P.n := by
  rw [su_comm]
  exact su_congr (fun k _ => su_mul)
theorem sp_scored {F r c : Nat} {P : pv} {M : om_M} {Q : Int64 → om_M → Prop} (hL : RL M P) (hR : RT M P) (hg : gd P) (hr : r < 3 ∨ r = 5 ∨ r = 6) (hc : c < P.n) (hF : 100 ≤ F) (h : Q (lN (P.sc r c)) M) : wp_M_scored F 71 (nI r) (nI c) M Q := by
  have hn := hg.2.1
  have hn2 : 2 ≤ P.n := hg.1
  have hT := hg.2.2.1
  refine pk_eq r 0 (fun e => ?_) (fun n0 => ?_)
  · show wp_M_ahead F 71 (nI c) (((1 : Int32) <<< ((M.1 71 8) &&& 31)) - 1) M _
    rw [hL.1]
    refine sp_mahead hL hg (iS.every hn) ⟨0, by omega, trivial⟩ hc hF ?_
    have := pl_le hg c 0
    rw [ld_all hg, nI_l (by omega)]
    unfold pv.sc at h
    rw [if_pos e] at h
    exact h
  · have tail : ∀ s : Nat, (r < 5 → P.sc r c = s) → (5 ≤ r → s = 0) → s < 2 ^ 63 → wp_M_scored_100 F 71 (nI r) (nI c) Q M (lN s) := by
      intro s h1 h2 hs
      by_cases q5 : r < 5
      · have e := h1 q5
        refine pu_loop 0 (fun i z => i = 0 ∧ z = (M, lN s, 0)) (fun i z K hi hJ hK => ?_) (i := 0) (by omega) (by omega) ⟨rfl, rfl⟩
        obtain ⟨rfl, rfl⟩ := hJ
        refine pk_le P.n 0 (fun q => absurd q (by omega)) (fun _ => pk_lt r 5 (fun _ => ?_) (fun q => absurd q (by omega))) hL.1
        rw [← e]; exact h
      · have e0 := h2 (by omega)
        subst e0
        by_cases q6 : r = 5
        · subst q6
          refine pu_loop P.n (fun i z => z = (M, lN (P.df c i), nI i)) (fun i z K hi hJ hK => ?_) (i := 0) (by omega) (by omega) rfl
          subst hJ
          have b1 := df_le hg c i
          have b2 := ah_le hg i c
          have step : ∀ v : Nat, v = P.df c (i + 1) → i < P.n → wp_M_scored_174 F 71 (nI 5) (nI c) Q K M (lN v) (nI i) := fun v hv hlt => pk_eq 5 6 (fun e => absurd e (by decide)) (fun _ => hK hlt _ (by subst hv; rw [nI_1]))
          refine pk_le P.n i (fun hle => ?_) (fun hlt => pk_lt 5 5 (fun q => absurd q (by decide)) (fun _ => pk_eq 5 5 (fun _ => pk_eq i c (fun e => ?_) (fun ne => ?_)) (fun q => absurd rfl q))) hL.1
          · rw [show i = P.n by omega]; exact h
          · exact step _ (by
              show P.df c i = (if P.ah c i < P.ah i c ∧ P.df c i < P.ah i c then P.ah i c else P.df c i)
              rw [if_neg (by subst e; omega)]) hlt
          · refine sp_mbeats hR hg (by omega) (by omega) (fun hb => ⟨fun e => absurd e (by decide), fun _ => ?_⟩) (fun hb => ⟨fun _ => step _ (by
              show P.df c i = (if P.ah c i < P.ah i c ∧ P.df c i < P.ah i c then P.ah i c else P.df c i)
              rw [if_neg (fun z => hb z.1)]) hlt, fun e => absurd rfl e⟩)
            rw [i7, nI_clamp (n := 7 * i + c) (by omega), hR i c (by omega) (by omega), nI_l (by omega)]
            refine ⟨pk_in (7 * i + c) 49 (by omega), pkl_lt (P.df c i) (P.ah i c) (fun q => step _ (by
              show P.ah i c = (if P.ah c i < P.ah i c ∧ P.df c i < P.ah i c then P.ah i c else P.df c i)
              rw [if_pos ⟨hb, q⟩]) hlt) (fun q => step _ (by
              show P.df c i = (if P.ah c i < P.ah i c ∧ P.df c i < P.ah i c then P.ah i c else P.df c i)
              rw [if_neg (by omega)]) hlt)⟩
        · have q7 : r = 6 := by omega
          subst q7
          refine pu_loop P.n (fun i z => z = (M, lN (su (P.w1 c) i), nI i)) (fun i z K hi hJ hK => ?_) (i := 0) (by omega) (by omega) rfl
          subst hJ
          have step : ∀ v : Nat, v = P.w1 c i → i < P.n → K (M, lN (su (P.w1 c) i) + lN v, nI i + 1) := fun v hv hlt => hK hlt _ (by subst hv; rw [nI_1, lN_add]; rfl)
          refine pk_le P.n i (fun hle => ?_) (fun hlt => pk_lt 6 5 (fun q => absurd q (by decide)) (fun _ => pk_eq 6 5 (fun q => absurd q (by decide)) (fun _ => pk_eq 6 6 (fun _ => pk_eq i c (fun e => ?_) (fun ne => ?_)) (fun q => absurd rfl q)))) hL.1
          · rw [show i = P.n by omega]; exact h
          · have := step 0 (by unfold pv.w1; rw [if_pos e]) hlt
            rw [show lN (su (P.w1 c) i) + lN 0 = lN (su (P.w1 c) i) by rw [lN_add, Nat.add_zero]] at this
            exact this
          · refine sp_mbeats hR hg (by omega) (by omega) (fun hb => ⟨fun e => absurd e (by decide), fun _ => step 2 (w1_2 ne hb).symm hlt⟩) (fun hb => ⟨fun _ => ?_, fun e => absurd rfl e⟩)
            refine sp_mbeats hR hg (by omega) (by omega) (fun hb2 => ⟨fun e => absurd e (by decide), fun _ => ?_⟩) (fun hb2 => ⟨fun _ => step 1 (w1_1 ne hb hb2).symm hlt, fun e => absurd rfl e⟩)
            have := step 0 (w1_0 ne hb2).symm hlt
            rw [show lN (su (P.w1 c) i) + lN 0 = lN (su (P.w1 c) i) by rw [lN_add, Nat.add_zero]] at this
            exact this
    have exit : ∀ j3 : Int64, ∀ i : Nat, i ≤ P.T → 3 ≤ r → j3 = lN 0 → wp_M_scored_20b F 71 (nI r) (nI c) Q (ow_lp (fun (z : om_M × Int64 × Int32) K => wp_M_scored_20b F 71 (nI r) (nI c) Q K z.1 z.2.1 z.2.2) (F - 1)) M j3 (nI i) := by
      intro j3 i hi h3 e
      subst e
      have t := tail 0 (fun q => absurd q (by omega)) (fun _ => rfl) (by decide)
      exact pk_le P.T i (fun _ => t) (fun _ => pk_le 3 r (fun _ => t) (fun q => absurd q (by omega))) hL.2.1
    by_cases h3 : 3 ≤ r
    · refine pu_loop 0 (fun i z => i = 0 ∧ z = (M, lN 0, nI 0)) (fun i z K hi hJ hK => ?_) (i := 0) (by omega) (by omega) ⟨rfl, rfl⟩
      obtain ⟨rfl, rfl⟩ := hJ
      have t := tail 0 (fun q => absurd q (by omega)) (fun _ => rfl) (by decide)
      exact pk_le P.T 0 (fun _ => t) (fun _ => pk_le 3 r (fun _ => t) (fun q => absurd q (by omega))) hL.2.1
    · by_cases h1 : r = 1
      · subst h1
        refine pu_loop P.T (fun i z => z = (M, lN (su (fun t => if P.n - 1 < P.n ∧ P.od t (P.n - 1) = c then P.am t else 0) i), nI i)) (fun t z K hi hJ hK => ?_) (i := 0) (by omega) (by omega) rfl
        subst hJ
        refine pk_le P.T t (fun hle => ?_) (fun ht => pk_le 3 1 (fun q => absurd q (by decide)) (fun _ => ?_)) hL.2.1
        · have e : t = P.T := by omega
          subst e
          refine tail _ (fun _ => rfl) (fun q => absurd q (by decide)) ?_
          have := pl_le hg c (P.n - 1)
          show P.pl c (P.n - 1) < _
          omega
        · have ho := hg.2.2.2.2.1 t ht
          have hm : P.am t ≤ 2000001 := by
            refine Nat.le_trans ?_ hg.2.2.2.1
            have := su_le (n := P.T) (g := fun s => if s = t then P.am s else 0) (h := P.am) (fun s _ => by split <;> omega)
            rw [su_one (t := t) ht (fun s _ hne => if_neg hne), if_pos rfl] at this
            exact this
          refine sp_mplaceOf hL hg ht hc (by omega) (fun k hk e => pk_eq 1 1 (fun _ => pk_eq k (P.n - 1) (fun ek => ⟨pk_in t 22 (by omega), hK ht _ ?_⟩) (fun nk => hK ht _ ?_) rfl (by rw [hL.1]; exact pk_sub (a := P.n) (b := 1) (by omega))) (fun q => absurd rfl q))
          · rw [nI_clamp (n := t) (by omega), hL.2.2.2.1 t ht, nI_l (by omega), lN_add, nI_1]
            show _ = (M, lN (su _ t + (if P.n - 1 < P.n ∧ P.od t (P.n - 1) = c then P.am t else 0)), nI (t + 1))
            rw [if_pos ⟨by omega, by rw [← ek]; exact e⟩]
          · show (M, lN _ + lN 0, nI t + 1) = (M, lN (su _ t + (if P.n - 1 < P.n ∧ P.od t (P.n - 1) = c then P.am t else 0)), nI (t + 1))
            rw [if_neg (fun q => nk (ho.2 k (P.n - 1) hk (by omega) (e.trans q.2.symm))), lN_add, nI_1]
      · have h2 : r = 2 := by omega
        subst h2
        refine pu_loop P.T (fun i z => z = (M, lN (su (fun t => su (fun k => P.we k * (if k < P.n ∧ P.od t k = c then P.am t else 0)) P.n) i), nI i)) (fun t z K hi hJ hK => ?_) (i := 0) (by omega) (by omega) rfl
        subst hJ
        refine pk_le P.T t (fun hle => ?_) (fun ht => pk_le 3 2 (fun q => absurd q (by decide)) (fun _ => ?_)) hL.2.1
        · have e : t = P.T := by omega
          subst e
          show wp_M_scored_100 F 71 (nI 2) (nI c) Q M (lN (su (fun t => su (fun k => P.we k * (if k < P.n ∧ P.od t k = c then P.am t else 0)) P.n) P.T))
          rw [pt_sum]
          refine tail _ (fun _ => rfl) (fun q => absurd q (by decide)) ?_
          have := pt_le hg c (Nat.le_refl P.n)
          omega
        · have ho := hg.2.2.2.2.1 t ht
          have hm : P.am t ≤ 2000001 := by
            refine Nat.le_trans ?_ hg.2.2.2.1
            have := su_le (n := P.T) (g := fun s => if s = t then P.am s else 0) (h := P.am) (fun s _ => by split <;> omega)
            rw [su_one (t := t) ht (fun s _ hne => if_neg hne), if_pos rfl] at this
            exact this
          refine sp_mplaceOf hL hg ht hc (by omega) (fun k hk e => pk_eq 2 1 (fun q => absurd q (by decide)) (fun _ => ⟨pk_in k 7 (by omega), pk_in t 22 (by omega), hK ht _ ?_⟩))
          have := hg.2.2.2.2.2.2.2 k hk
          rw [nI_clamp (n := t) (by omega), nI_clamp (n := k) (by omega), hL.2.2.2.1 t ht, hL.2.2.2.2.2.2 k hk, nI_l (by omega), nI_l (by omega), lN_mul, lN_add, nI_1]
          show _ = (M, lN (su _ t + su (fun k => P.we k * (if k < P.n ∧ P.od t k = c then P.am t else 0)) P.n), nI (t + 1))
          rw [pt_ex ho hk e]
