/-! candidates, and the start -/
theorem sp_empty {F o : Nat} {M : om_M} {Q : om_M → Prop} (hF : 10 ≤ F) (h : ∀ M', pf o M M' → (∀ k, k ≠ 6 → M'.1 o k = M.1 o k) → M'.1 o 6 = 0 → (∀ q, 1 ≤ q → q < 4 → M'.1 (o + q) = M.1 (o + q)) → (∀ c p, c < 7 → p < 7 → M'.1 (o + 4 + 1 + c) p = 0) → (∀ a b, a < 7 → b < 7 → M'.1 (o + 12 + 1 + a) b = 0) → Q M') : wp_P_empty F o M Q := by
  refine pu_loop 7 (fun i z => z.2 = nI i ∧ pf o M z.1 ∧ (∀ k, k ≠ 6 → z.1.1 o k = M.1 o k) ∧ z.1.1 o 6 = 0 ∧ (∀ q, 1 ≤ q → q < 4 → z.1.1 (o + q) = M.1 (o + q)) ∧ (∀ c p, c < i → p < 7 → z.1.1 (o + 4 + 1 + c) p = 0) ∧ ∀ a b, a < i → b < 7 → z.1.1 (o + 12 + 1 + a) b = 0) (fun i z K hi hJ hK => ?_) (i := 0) (by omega) (by omega) ⟨rfl, pf.refl.up (by omega), fun k hk => pu_up2 hk, pu_up1, fun q h1 h2 => om_up_n _ _ (by omega), fun c p hc => absurd hc (by omega), fun c p hc => absurd hc (by omega)⟩
  obtain ⟨M1, y⟩ := z
  obtain ⟨rfl, j1, j2, j3, j4, j5, j6⟩ := hJ
  refine pk_le 7 i (fun hle => ?_) (fun hlt => ⟨pk_in i 7 (by omega), ?_⟩)
  · have e : i = 7 := by omega
    subst e
    exact h M1 j1 j2 j3 j4 j5 j6
  · rw [nI_clamp (n := i) (by omega)]
    refine sp_fill (by decide) (by omega) (fun M2 k1 k2 k3 => sp_fill (by decide) (by omega) (fun M3 l1 l2 l3 => hK hlt _ ⟨(nI_succ i).symm, ?_, fun k hk => ?_, ?_, fun q h1 h2 => ?_, fun c p hc hp => ?_, fun a b ha hb => ?_⟩))
    · exact ⟨fun o' ho => by rw [l1.1 _ (by omega), k1.1 _ (by omega)]; exact j1.1 o' ho, by rw [l1.2, k1.2]; exact j1.2⟩
    · show M3.1 o k = _
      rw [l1.1 _ (by omega), k1.1 _ (by omega)]; exact j2 k hk
    · show M3.1 o 6 = _
      rw [l1.1 _ (by omega), k1.1 _ (by omega)]; exact j3
    · show M3.1 (o + q) = _
      rw [l1.1 _ (by omega), k1.1 _ (by omega)]; exact j4 q h1 h2
    · show M3.1 _ p = _
      rw [l1.1 _ (by omega)]
      by_cases e : c = i
      · subst e; exact k2 p hp
      · rw [k1.1 _ (by omega)]; exact j5 c p (by omega) hp
    · show M3.1 _ b = _
      by_cases e : a = i
      · subst e; exact l2 b hb
      · rw [l1.1 _ (by omega), k1.1 _ (by omega)]; exact j6 a b (by omega) hb
def pv.new (n : Nat) : pv := (n, 0, fun _ => id, fun _ => 0, id, id, fun k => n - 1 - k)
theorem new_good {n : Nat} (h2 : 2 ≤ n) (h7 : n ≤ 7) : good 20 100000 (pv.new n) := ⟨h2, h7, Nat.zero_le _, fun t ht => absurd ht (Nat.not_lt_zero _), fun t ht => absurd ht (Nat.not_lt_zero _), ⟨fun k hk => hk, fun j k _ _ e => e⟩, ⟨fun k hk => hk, fun j k _ _ e => e⟩, fun k hk => by show n - 1 - k ≤ 1000; omega⟩
theorem sp_openP {F o n : Nat} {M : om_M} {Q : om_M → Prop} (h2 : 2 ≤ n) (h7 : n ≤ 7) (hF : 10 ≤ F) (h : ∀ M', pf o M M' → RP o M' (pv.new n) → Q M') : wp_P_open F o (nI n) M Q := by
  unfold wp_P_open
  rw [pu_up1]
  refine sp_asc (by omega) (by omega) ?_
  refine pu_loop n (fun i z => z.2 = nI i ∧ pf o M z.1 ∧ z.1.1 o 5 = nI n ∧ z.1.1 o 7 = nI (pz id n) ∧ z.1.1 o 8 = nI (pz id n) ∧ ∀ k, k < i → z.1.1 (o + 3) k = nI (n - 1 - k)) (fun i z K hi hJ hK => ?_) (i := 0) (by omega) (by omega) ⟨rfl, ((pf.refl.up (by omega)).up (by omega)).up (by omega), ?_, ?_, ?_, fun k hk => absurd hk (by omega)⟩
  · obtain ⟨M1, y⟩ := z
    obtain ⟨rfl, j1, j2, j3, j4, j5⟩ := hJ
    refine pk_le n i (fun hle => ?_) (fun hlt => ⟨pk_in i 7 (by omega), hK hlt _ ⟨(nI_succ i).symm, j1.up (by omega), ?_, ?_, ?_, fun k hk => ?_⟩⟩) j2
    · refine sp_empty hF (fun M2 e1 e2 e3 e4 e5 e6 => h M2 (j1.trans e1) ⟨?_, e3, ?_, ?_, fun t ht => absurd ht (Nat.not_lt_zero _), fun t ht => absurd ht (Nat.not_lt_zero _), fun k (hk : k < n) => ?_, e5, e6⟩)
      · exact (e2 5 (by decide)).trans j2
      · exact (e2 7 (by decide)).trans j3
      · exact (e2 8 (by decide)).trans j4
      · rw [e4 3 (by decide) (by decide)]; exact j5 k (by omega)
    · rw [om_up_n _ _ (by omega)]; exact j2
    · rw [om_up_n _ _ (by omega)]; exact j3
    · rw [om_up_n _ _ (by omega)]; exact j4
    · rw [nI_clamp (n := i) (by omega)]
      by_cases e : k = i
      · subst e
        rw [pu_up1, show (M1, nI k).1.1 o 5 = nI n from j2]
        show nI n - nI 1 - nI k = nI (n - 1 - k)
        rw [pk_sub (by omega), pk_sub (by omega)]
      · rw [pu_up2 e]; exact j5 k (by omega)
  · show (om_up (om_up _ o 7 _) o 8 _).1 o 5 = _
    rw [pu_up2 (by decide), pu_up2 (by decide), pu_up1]
  · show (om_up (om_up _ o 7 _) o 8 _).1 o 7 = _
    rw [pu_up2 (by decide), pu_up1]
  · show (om_up (om_up _ o 7 _) o 8 _).1 o 8 = _
    rw [pu_up1, pu_up1]
theorem sp_reset {F o n : Nat} {M : om_M} {Q : om_M → Prop} (h2 : 2 ≤ n) (h7 : n ≤ 7) (hF : 10 ≤ F) (hM : M.1 o 1 = nI n) (h : ∀ M', (∀ q, q ≠ o → (q < o + 3 ∨ o + 6 ≤ q) → M'.1 q = M.1 q) → M'.2 = M.2 → (∀ k, k ≠ 2 → M'.1 o k = M.1 o k) → M'.1 o 2 = 0 → (∀ k, k < 7 → M'.1 (o + 3) k = nI k) → (∀ k, k < 7 → M'.1 (o + 4) k = nI k) → (∀ k, k < n → M'.1 (o + 5) k = nI (n - 1 - k)) → Q M') : wp_M_reset F o M Q := by
  refine pu_loop 7 (fun i z => z.2 = nI i ∧ (∀ q, q ≠ o → (q < o + 3 ∨ o + 6 ≤ q) → z.1.1 q = M.1 q) ∧ z.1.2 = M.2 ∧ (∀ k, k ≠ 2 → z.1.1 o k = M.1 o k) ∧ z.1.1 o 2 = 0 ∧ (∀ k, k < i → z.1.1 (o + 3) k = nI k) ∧ (∀ k, k < i → z.1.1 (o + 4) k = nI k) ∧ ∀ k, k < i → k < n → z.1.1 (o + 5) k = nI (n - 1 - k)) (fun i z K hi hJ hK => ?_) (i := 0) (by omega) (by omega) ⟨rfl, fun q h1 h2 => om_up_n _ _ h1, rfl, fun k hk => pu_up2 hk, pu_up1, fun k hk => absurd hk (by omega), fun k hk => absurd hk (by omega), fun k hk => absurd hk (by omega)⟩
  obtain ⟨M1, y⟩ := z
  obtain ⟨rfl, j1, j2, j3, j4, j5, j6, j7⟩ := hJ
  refine pk_le 7 i (fun hle => ?_) (fun hlt => ⟨pk_in i 7 (by omega), ?_⟩)
  · have e : i = 7 := by omega
    subst e
    exact h M1 j1 j2 j3 j4 j5 j6 (fun k hk => j7 k (by omega) hk)
  · rw [nI_clamp (n := i) (by omega)]
    have key : ∀ v : Int32, (i < n → v = nI (n - 1 - i)) → wp_M_reset_52 F o Q K (om_up (om_up M1 (o + 3) i (nI i)) (o + 4) i (nI i)) (nI i) (o + 5) (nI i) v := by
      intro v hv
      refine ⟨pk_in i 7 (by omega), hK hlt _ ?_⟩
      rw [nI_clamp (n := i) (by omega)]
      refine ⟨(nI_succ i).symm, fun q h1 h2 => ?_, j2, fun k hk => ?_, ?_, fun k hk => ?_, fun k hk => ?_, fun k hk hk2 => ?_⟩
      · rw [om_up_n _ _ (by omega), om_up_n _ _ (by omega), om_up_n _ _ (by omega)]; exact j1 q h1 h2
      · rw [om_up_n _ _ (by omega), om_up_n _ _ (by omega), om_up_n _ _ (by omega)]; exact j3 k hk
      · rw [om_up_n _ _ (by omega), om_up_n _ _ (by omega), om_up_n _ _ (by omega)]; exact j4
      · rw [om_up_n _ _ (by omega), om_up_n _ _ (by omega)]
        by_cases e : k = i
        · subst e; rw [pu_up1]
        · rw [pu_up2 e]; exact j5 k (by omega)
      · rw [om_up_n _ _ (by omega)]
        by_cases e : k = i
        · subst e; rw [pu_up1]
        · rw [pu_up2 e, om_up_n _ _ (by omega)]; exact j6 k (by omega)
      · by_cases e : k = i
        · subst e; rw [pu_up1]; exact hv hk2
        · rw [pu_up2 e, om_up_n _ _ (by omega), om_up_n _ _ (by omega)]; exact j7 k (by omega) hk2
    have e1 : (om_up (om_up M1 (o + 3) i (nI i)) (o + 4) i (nI i)).1 o 1 = nI n := by
      rw [om_up_n _ _ (by omega), om_up_n _ _ (by omega)]; exact (j3 1 (by decide)).trans hM
    refine pk_le n i (fun hle => key 0 (fun q => absurd q (by omega))) (fun hlt2 => ?_) e1
    rw [e1]
    refine key _ (fun _ => ?_)
    show nI n - nI 1 - nI i = nI (n - 1 - i)
    rw [pk_sub (by omega), pk_sub (by omega)]
theorem wl_0_eq {F : Nat} {a1 a2 a3 : Int32} {M : om_M} {I : om_M → Prop} : wl_0 F 0 71 89 a1 a2 a3 M I = wp_L_candidates F 0 a1 89 1 M (fun r2 M1 => wp_M_candidates F 71 a1 M1 (fun r4 M3 => lt_i I r2 r4 M3)) := rfl
theorem iv_0 {F : Nat} (hF : 10000 ≤ F) (M : om_M) (a1 a2 a3 : Int32) (h : II M) : wl_0 F 0 71 89 a1 a2 a3 M II := by
  rw [wl_0_eq]
  obtain ⟨⟨P, hg, hP, hM⟩, -⟩ := id h
  have bad : (a1 < 2 ∨ 7 < a1) → wp_D_candidates_15 F 0 a1 (fun r3 M1 => vp_in 0 1 ∧ wp_M_candidates F 71 a1 (om_ul M1 89 (0 : Int32).toNatClampNeg ((r3 : Int32).toInt64)) (fun r4 M3 => lt_i II 0 r4 M3)) (fun k M2 => ((k = 1 → wp_M_candidates F 71 a1 M2 (fun r4 M3 => lt_i II 1 r4 M3)) ∧ (¬ k = 1 → False))) M := by
    intro hb
    refine ⟨fun _ => ⟨fun _ => ?_, fun e => absurd rfl e⟩, fun e => absurd rfl e⟩
    refine sp_within (x := a1) (lo := 2) (hi := 7) (fun g1 g2 => hb.elim (fun q => absurd q g1) (fun q => absurd q g2)) (fun _ => ?_)
    exact sp_goes (fun _ => ⟨fun _ => lt_bad (by decide) pu_up1 h.thrown, fun e => absurd rfl e⟩) (fun e => absurd rfl e) (fun e => absurd rfl e)
  refine ⟨fun q => bad (Or.inl q), fun q1 => ⟨fun q => bad (Or.inr q), fun q2 => ⟨fun e => absurd e (by decide), fun _ => ?_⟩⟩⟩
  obtain ⟨n, hn, rfl⟩ := nI_of (x := a1) (fun q => q1 (Int32.lt_trans q (by decide)))
  have h2 : 2 ≤ n := by
    rcases Nat.lt_or_ge n 2 with g | g
    · exact absurd (nI_lt (b := 2) g (by decide)) q1
    · exact g
  have h7 : n ≤ 7 := by
    rcases Nat.lt_or_ge 7 n with g | g
    · exact absurd (nI_lt (a := 7) g hn) q2
    · exact g
  refine sp_openP (o := 0 + 1) h2 h7 (by omega) (fun M1 k1 k2 => ⟨pk_in 0 1 (by decide), ?_⟩)
  show wp_M_candidates F 71 (nI n) (om_ul M1 89 0 (M.1 1 5).toInt64) _
  refine sp_within (x := nI n) (lo := 2) (hi := 7) (fun _ _ => ?_) (fun q => q.elim (fun q => absurd q q1) (fun q => absurd q q2))
  refine sp_goes (fun e => absurd e (by decide)) (fun _ e => absurd e (by decide)) (fun _ _ => ⟨fun e => absurd e (by decide), fun _ => ?_⟩)
  refine sp_reset (o := 71) h2 h7 (by omega) pu_up1 (fun M2 l1 l2 l3 l4 l5 l6 l7 => ?_)
  have ev : (om_up (om_ul M1 89 0 (M.1 1 5).toInt64) 71 0 0).1 71 1 = M.1 1 5 := by
    rw [pu_up2 (by decide)]
    show M1.1 71 1 = _
    rw [k1.1 71 (by decide), hM.1]
    exact hP.1.symm
  rw [ev]
  refine lt_ok ?_ ?_ (II.made (M1 := M1) (v := (M.1 1 5).toInt64) (P := pv.new n) h (pf.s1 k1) ?_ (new_good h2 h7) k2 ?_)
  · rw [l3 0 (by decide), pu_up2 (by decide)]; exact pu_up1
  · rw [l2]; exact ul_out (M := M1)
  · refine s2.trans (s2.up0 (s2.up0 s2.refl (k := 0) (v := 0) (by omega)) (k := 1) (v := nI n) (by omega)) ⟨fun q hq => l1 q (by omega) (by omega), fun k hk => l3 k (by omega), l2⟩
  · refine ⟨?_, l4, fun t k ht => absurd ht (Nat.not_lt_zero _), fun t ht => absurd ht (Nat.not_lt_zero _), fun k (hk : k < n) => l5 k (by omega), fun k (hk : k < n) => l6 k (by omega), l7⟩
    rw [l3 1 (by decide)]; exact pu_up1
theorem iv_h0 {F : Nat} (hF : 10000 ≤ F) : wp_P_open F 0 4 om_0 (fun M1 => wp_M_reset F 0 om_Mi (fun M2 => II (om_j 89 (om_j 71 (om_j 21 (om_j 1 om_Di M1) om_0) M2) om_0))) := by
  refine sp_openP (o := 0) (n := 4) (by decide) (by decide) (by omega) (fun M1 k1 k2 => ?_)
  refine sp_reset (o := 0) (n := 4) (by decide) (by decide) (by omega) rfl (fun M2 l1 l2 l3 l4 l5 l6 l7 => ?_)
  have hj1 : ∀ q, q < 20 → (om_j 89 (om_j 71 (om_j 21 (om_j 1 om_Di M1) om_0) M2) om_0).1 (1 + q) = M1.1 q := fun q hq => by
    show (if 1 + q < 89 then (if 1 + q < 71 then (if 1 + q < 21 then (if 1 + q < 1 then _ else M1.1 (1 + q - 1)) else _) else _) else _) = _
    rw [if_pos (by omega), if_pos (by omega), if_pos (by omega), if_neg (by omega), Nat.add_sub_cancel_left]
  have hj2 : ∀ q, q < 18 → (om_j 89 (om_j 71 (om_j 21 (om_j 1 om_Di M1) om_0) M2) om_0).1 (71 + q) = M2.1 q := fun q hq => by
    show (if 71 + q < 89 then (if 71 + q < 71 then _ else M2.1 (71 + q - 71)) else _) = _
    rw [if_pos (by omega), if_neg (by omega), Nat.add_sub_cancel_left]
  have hj3 : ∀ q, 21 ≤ q → q < 71 → (om_j 89 (om_j 71 (om_j 21 (om_j 1 om_Di M1) om_0) M2) om_0).1 q = fun _ => 0 := fun q h1 h2 => by
    show (if q < 89 then (if q < 71 then (if q < 21 then _ else om_0.1 (q - 21)) else _) else _) = _
    rw [if_pos (by omega), if_pos (by omega), if_neg (by omega)]
  obtain ⟨r1, r2, r3, r4, r5, r6, r7, r8, r9⟩ := k2
  refine ⟨⟨pv.new 4, new_good (by decide) (by decide), ⟨?_, ?_, ?_, ?_, fun t ht => absurd ht (Nat.not_lt_zero _), fun t ht => absurd ht (Nat.not_lt_zero _), fun k hk => ?_, fun c p hc hp => ?_, fun c p hc hp => ?_⟩, ⟨?_, ?_, fun t k ht => absurd ht (Nat.not_lt_zero _), fun t ht => absurd ht (Nat.not_lt_zero _), fun k (hk : k < 4) => ?_, fun k (hk : k < 4) => ?_, fun k (hk : k < 4) => ?_⟩⟩, ?_, ?_, ?_, fun c hc => ?_⟩
  · rw [show (1 : Nat) = 1 + 0 from rfl, hj1 0 (by decide)]; exact r1
  · rw [show (1 : Nat) = 1 + 0 from rfl, hj1 0 (by decide)]; exact r2
  · rw [show (1 : Nat) = 1 + 0 from rfl, hj1 0 (by decide)]; exact r3
  · rw [show (1 : Nat) = 1 + 0 from rfl, hj1 0 (by decide)]; exact r4
  · rw [hj1 3 (by decide)]
    rw [show (3 : Nat) = 0 + 3 from rfl]; exact r7 k hk
  · rw [show 1 + 4 + 1 + c = 1 + (0 + 4 + 1 + c) by omega, hj1 _ (by omega)]; exact r8 c p hc hp
  · rw [show 1 + 12 + 1 + c = 1 + (0 + 12 + 1 + c) by omega, hj1 _ (by omega)]; exact r9 c p hc hp
  · rw [show (71 : Nat) = 71 + 0 from rfl, hj2 0 (by decide), l3 1 (by decide)]; rfl
  · rw [show (71 : Nat) = 71 + 0 from rfl, hj2 0 (by decide), l4]; rfl
  · rw [hj2 3 (by decide)]; exact l5 k (by omega)
  · rw [hj2 4 (by decide)]; exact l6 k (by omega)
  · rw [hj2 5 (by decide)]; exact l7 k hk
  · rw [show (71 : Nat) = 71 + 0 from rfl, hj2 0 (by decide), l3 22 (by decide)]; rfl
  · rw [show (71 : Nat) = 71 + 0 from rfl, hj2 0 (by decide), l3 23 (by decide)]; rfl
  · rw [hj3 39 (by decide) (by decide)]
  · rw [hj3 _ (by omega) (by omega)]
