/-! ballot, amount, drop -/
theorem sp_isAmount {F : Nat} {x : Int32} {M : om_M} {Q : Int32 → om_M → Prop} (h1 : ¬ x < 0 → ¬ 100000 < x → Q 1 M) (h0 : (x < 0 ∨ 100000 < x) → Q 0 M) : wp_D_isAmount F x M Q := ⟨fun q => h0 (Or.inl q), fun q => ⟨fun r => h0 (Or.inr r), fun r => h1 q r⟩⟩
theorem am_of {x : Int32} (h1 : ¬ x < 0) (h2 : ¬ 100000 < x) : ∃ v, v ≤ 100000 ∧ x = nI v := by
  obtain ⟨v, hv, rfl⟩ := nI_of h1
  refine ⟨v, ?_, rfl⟩
  rcases Nat.lt_or_ge 100000 v with g | g
  · exact absurd (nI_lt (a := 100000) g hv) h2
  · exact g
theorem uf_le {g : Nat → Nat} {t v m n : Nat} (h : ∀ s, s < n → s ≠ t → g s ≤ m) (hv : v ≤ m) : ∀ s, s < n → uf g t v s ≤ m := fun s hs => by
  by_cases e : s = t
  · subst e; rw [uf_s]; exact hv
  · rw [uf_n e]; exact h s hs e
theorem uf_is {g : Nat → Nat → Nat} {t n T : Nat} {f : Nat → Nat} (h : ∀ s, s < T → s ≠ t → isO n (g s)) (hf : isO n f) : ∀ s, s < T → isO n (uf g t f s) := fun s hs => by
  by_cases e : s = t
  · subst e; rw [uf_s]; exact hf
  · rw [uf_n e]; exact h s hs e
theorem wl_1_eq {F : Nat} {a1 a2 a3 : Int32} {M : om_M} {I : om_M → Prop} : wl_1 F 0 71 89 a1 a2 a3 M I = wp_L_ballot F 0 a1 a2 89 1 M (fun r2 M1 => wp_M_ballot F 71 a1 a2 M1 (fun r4 M3 => lt_i I r2 r4 M3)) := rfl
theorem iv_1 {F : Nat} (hF : 10000 ≤ F) (M : om_M) (a1 a2 a3 : Int32) (h : II M) : wl_1 F 0 71 89 a1 a2 a3 M II := by
  rw [wl_1_eq]
  obtain ⟨⟨P, hg, hP, hM⟩, -⟩ := id h
  have hn := hg.gn
  have hT := hg.gT
  have m1 : M.1 71 1 = nI P.n := hM.1
  have m2 : M.1 71 2 = nI P.T := hM.2.1
  have badm : (¬ oo a1 P.n ∨ (a2 < 0 ∨ 100000 < a2)) → wp_M_ballot F 71 a1 a2 M (fun r4 M3 => lt_i II 1 r4 M3) := by
    intro hb
    have fin : wp_M_ballot_23 F 71 a1 a2 (fun r4 M3 => lt_i II 1 r4 M3) M 71 := by
      have f2 : ∀ r : Int32, wp_M_ballot_38 F 71 a1 a2 (fun r4 M3 => lt_i II 1 r4 M3) M 71 0 r := fun r => sp_goes (fun _ => ⟨fun _ => lt_bad (by decide) pu_up1 h.thrown, fun e => absurd rfl e⟩) (fun e => absurd rfl e) (fun e => absurd rfl e)
      exact ⟨fun _ => f2 0, fun _ => f2 1⟩
    refine sp_misOrder (n := P.n) (by omega) m1 (by omega) (fun ho => ⟨fun e => absurd e (by decide), fun _ => ?_⟩) (fun ho => ⟨fun _ => fin, fun e => absurd rfl e⟩)
    exact sp_within (x := a2) (lo := 0) (hi := 100000) (fun g1 g2 => hb.elim (fun q => absurd ho q) (fun q => q.elim (fun q => absurd q g1) (fun q => absurd q g2))) (fun _ => ⟨fun _ => fin, fun e => absurd rfl e⟩)
  unfold wp_L_ballot wp_D_ballot
  rw [show M.1 (0 + 1) 5 = nI P.n from hP.1]
  refine sp_isOne (by omega) (by omega) (fun ho => ⟨fun e => absurd e (by decide), fun _ => ?_⟩) (fun ho => ⟨fun _ => ⟨fun _ => ⟨fun _ => badm (Or.inl ho), fun e => absurd rfl e⟩, fun e => absurd rfl e⟩, fun e => absurd rfl e⟩)
  refine sp_isAmount (fun g1 g2 => ⟨fun e => absurd e (by decide), fun _ => ⟨fun e => absurd e (by decide), fun _ => ?_⟩⟩) (fun q => ⟨fun _ => ⟨fun _ => ⟨fun _ => badm (Or.inr q), fun e => absurd rfl e⟩, fun e => absurd rfl e⟩, fun e => absurd rfl e⟩)
  obtain ⟨f, hf, rfl⟩ := oo_isO ho
  obtain ⟨v, hv, rfl⟩ := am_of g1 g2
  refine pk_lt P.T 20 (fun hlt => ?_) (fun hge => ⟨fun e => absurd e (by decide), fun _ => ⟨fun _ => ?_, fun e => absurd rfl e⟩⟩) hP.2.1
  · refine sp_append (o := 0 + 1) hP hn hf.1 (by omega) (by omega) (fun M1 k1 k2 => ⟨pk_in 0 1 (by decide), ?_⟩)
    show wp_M_ballot F 71 (nI (pz f P.n)) (nI v) (om_ul M1 89 0 (nI P.T).toInt64) _
    have e71 : (om_ul M1 89 0 (nI P.T).toInt64).1 71 = M.1 71 := k1.1 71 (by decide)
    refine sp_misOrder (n := P.n) (by omega) (by rw [e71]; exact m1) (by omega) (fun _ => ⟨fun e => absurd e (by decide), fun _ => ?_⟩) (fun q => absurd ho q)
    refine sp_within (x := nI v) (lo := 0) (hi := 100000) (fun _ _ => ⟨fun e => absurd e (by decide), fun _ => ?_⟩) (fun q => q.elim (fun q => absurd q g1) (fun q => absurd q g2))
    refine pk_le 20 P.T (fun q => absurd q (by omega)) (fun _ => ?_) rfl (by rw [e71]; exact m2)
    refine sp_goes (fun e => absurd e (by decide)) (fun _ e => absurd e (by decide)) (fun _ _ => ⟨fun e => absurd e (by decide), fun _ => ?_⟩)
    have e2 : (om_up (om_ul M1 89 0 (nI P.T).toInt64) 71 0 0).1 71 2 = nI P.T := by rw [pu_up2 (by decide), e71]; exact m2
    rw [e2, show (7 : Int32) * nI P.T = nI (7 * P.T) from pk_mul 7 P.T]
    refine sp_unpack hn hf.1 (by rw [pu_up2 (by decide), e71]; exact m1) (by decide) (by omega) (by decide) (by omega) (fun M2 l1 l2 l3 => ?_)
    have e3 : M2.1 71 2 = nI P.T := by rw [l1.1 71 (by decide)]; exact e2
    refine ⟨pk_in P.T 20 (by omega) e3, ?_⟩
    rw [e3, nI_clamp (n := P.T) (by omega), pu_up1, om_up_n _ _ (by decide), e3, nI_1, show nI (P.T + 1) - 1 = nI P.T from nI_pred _]
    refine lt_ok ?_ ?_ (II.made (M1 := M1) (v := (nI P.T).toInt64) (P := P.app f v) h (pf.s1 k1) ?_ ?_ k2 ?_)
    · rw [pu_up2 (by decide), om_up_n _ _ (by decide), l1.1 71 (by decide)]; exact pu_up1
    · show M2.2 89 0 = _
      rw [l1.2]; exact ul_out (M := M1)
    · exact (((s2.up0 s2.refl (k := 0) (v := 0) (by omega)).trans ⟨fun q hq => l1.1 q (by omega), fun k _ => congrFun (l1.1 71 (by decide)) k, l1.2⟩).up (by omega)).up0 (by omega)
    · obtain ⟨c1, c2, c3, c4, c5, c6, c7, c8⟩ := hg
      refine ⟨c1, c2, hlt, uf_le (fun s hs hne => c4 s (by have : s < P.T + 1 := hs; omega)) hv, uf_is (fun s hs hne => c5 s (by have : s < P.T + 1 := hs; omega)) hf, c6, c7, c8⟩
    · obtain ⟨-, -, m3, m4, m5, m6, m7⟩ := hM
      have o1 : ∀ q, 72 ≤ q → q ≤ 76 → q ≠ 72 → M2.1 q = M.1 q := fun q h1 h2 h3 => by
        rw [l1.1 q (by omega), om_up_n _ _ (by omega)]; exact k1.1 q (by omega)
      refine ⟨?_, ?_, fun t k (ht : t < P.T + 1) hk => ?_, fun t (ht : t < P.T + 1) => ?_, fun k hk => ?_, fun k hk => ?_, fun k hk => ?_⟩
      · rw [pu_up2 (by decide), om_up_n _ _ (by decide), l1.1 71 (by decide), pu_up2 (by decide), e71]; exact m1
      · rw [pu_up1]; rfl
      · show _ = nI (uf P.od P.T f t k)
        rw [om_up_n _ _ (by decide), om_up_n _ _ (by decide)]
        by_cases e : t = P.T
        · subst e; rw [uf_s]; exact l2 k hk
        · have hk7 : k < P.n := hk
          rw [uf_n e, l3 _ (by omega), om_up_n _ _ (by decide)]
          show M1.1 (71 + 1) (7 * t + k) = _
          rw [k1.1 _ (by decide)]
          exact m3 t k (by omega) hk
      · show _ = nI (uf P.am P.T v t)
        rw [om_up_n _ _ (by decide)]
        by_cases e : t = P.T
        · subst e; rw [uf_s, pu_up1]
        · rw [uf_n e, pu_up2 e, o1 _ (by decide) (by decide) (by decide)]; exact m4 t (by omega)
      · rw [om_up_n _ _ (by decide), om_up_n _ _ (by decide), o1 _ (by decide) (by decide) (by decide)]; exact m5 k hk
      · rw [om_up_n _ _ (by decide), om_up_n _ _ (by decide), o1 _ (by decide) (by decide) (by decide)]; exact m6 k hk
      · rw [om_up_n _ _ (by decide), om_up_n _ _ (by decide), o1 _ (by decide) (by decide) (by decide)]; exact m7 k hk
  · refine sp_misOrder (n := P.n) (by omega) m1 (by omega) (fun _ => ⟨fun e => absurd e (by decide), fun _ => ?_⟩) (fun q => absurd ho q)
    refine sp_within (x := nI v) (lo := 0) (hi := 100000) (fun _ _ => ⟨fun e => absurd e (by decide), fun _ => ?_⟩) (fun q => q.elim (fun q => absurd q g1) (fun q => absurd q g2))
    refine pk_le 20 P.T (fun _ => ?_) (fun q => absurd q (by omega)) rfl m2
    exact sp_goes (fun e => absurd e (by decide)) (fun _ _ => ⟨fun _ => lt_bad (by decide) pu_up1 h.thrown, fun e => absurd rfl e⟩) (fun _ e => absurd rfl e)
/-- is it a type: the same on both sides -/
theorem sp_isType {F : Nat} {x : Int32} {T : Nat} {M : om_M} {Q : Int32 → om_M → Prop} (hT : M.1 1 6 = nI T) (hT2 : T ≤ 21) (h1 : ∀ t, t < T → x = nI t → Q 1 M) (h0 : (∀ t, t < T → x ≠ nI t) → Q 0 M) : wp_D_isType F 0 x M Q := by
  refine ⟨fun q => h0 (fun t ht e => absurd q (e ▸ nI_pos (by omega))), fun q => ?_⟩
  obtain ⟨t, ht, rfl⟩ := nI_of q
  refine pk_le T t (fun hle => h0 (fun s hs e => ?_)) (fun hlt => h1 t hlt rfl) hT
  have := (nI_eq ht (by omega)).mp e
  omega
theorem sp_misType {F : Nat} {x : Int32} {T : Nat} {M : om_M} {Q : Int32 → om_M → Prop} (hT : M.1 71 2 = nI T) (hT2 : T ≤ 21) (h1 : ∀ t, t < T → x = nI t → Q 1 M) (h0 : (∀ t, t < T → x ≠ nI t) → Q 0 M) : wp_M_isType F 71 x M Q := by
  refine ⟨fun q => h0 (fun t ht e => absurd q (e ▸ nI_pos (by omega))), fun q => ?_⟩
  obtain ⟨t, ht, rfl⟩ := nI_of q
  refine pk_le T t (fun hle => h0 (fun s hs e => ?_)) (fun hlt => h1 t hlt rfl) hT
  have := (nI_eq ht (by omega)).mp e
  omega
theorem wl_2_eq {F : Nat} {a1 a2 a3 : Int32} {M : om_M} {I : om_M → Prop} : wl_2 F 0 71 89 a1 a2 a3 M I = wp_L_amount F 0 a1 a2 89 1 M (fun r2 M1 => wp_M_amount F 71 a1 a2 M1 (fun r4 M3 => lt_i I r2 r4 M3)) := rfl
theorem iv_2 {F : Nat} (hF : 10000 ≤ F) (M : om_M) (a1 a2 a3 : Int32) (h : II M) : wl_2 F 0 71 89 a1 a2 a3 M II := by
  rw [wl_2_eq]
  obtain ⟨⟨P, hg, hP, hM⟩, -⟩ := id h
  have hn := hg.gn
  have hT := hg.gT
  have m1 : M.1 71 1 = nI P.n := hM.1
  have m2 : M.1 71 2 = nI P.T := hM.2.1
  refine sp_isType hP.2.1 (by omega) (fun t ht e => ⟨fun e => absurd e (by decide), fun _ => ?_⟩) (fun hb => ⟨fun _ => ⟨fun _ => ?_, fun e => absurd rfl e⟩, fun e => absurd rfl e⟩)
  · subst e
    refine sp_isAmount (fun g1 g2 => ⟨fun e => absurd e (by decide), fun _ => ⟨pk_in t 21 (by omega), ?_⟩⟩) (fun q => ⟨fun _ => ⟨fun e => absurd e (by decide), fun _ => ⟨fun _ => ?_, fun e => absurd rfl e⟩⟩, fun e => absurd rfl e⟩)
    · obtain ⟨v, hv, rfl⟩ := am_of g1 g2
      have ho := hg.go t ht
      rw [nI_clamp (n := t) (by omega), show M.1 (0 + 1 + 1) t = nI (pz (P.od t) P.n) from hP.2.2.2.2.1 t ht, show M.1 (0 + 1 + 2) t = nI (P.am t) from hP.2.2.2.2.2.1 t ht]
      refine sp_replace (o := 0 + 1) hP hn ho.1 ho.1 ht (by omega) (by omega) (fun M1 k1 k2 => ⟨pk_in 0 1 (by decide), ?_⟩)
      show wp_M_amount F 71 (nI t) (nI v) (om_ul M1 89 0 (nI (P.am t)).toInt64) _
      have e71 : (om_ul M1 89 0 (nI (P.am t)).toInt64).1 71 = M.1 71 := k1.1 71 (by decide)
      refine sp_misType (T := P.T) (by rw [e71]; exact m2) (by omega) (fun _ _ _ => ?_) (fun q => absurd rfl (q t ht))
      refine sp_within (x := nI v) (lo := 0) (hi := 100000) (fun _ _ => ?_) (fun q => q.elim (fun q => absurd q g1) (fun q => absurd q g2))
      refine sp_goes (fun e => absurd e (by decide)) (fun _ e => absurd e (by decide)) (fun _ _ => ⟨fun e => absurd e (by decide), fun _ => ⟨pk_in t 20 (by omega), ?_⟩⟩)
      obtain ⟨-, -, m3, m4, m5, m6, m7⟩ := hM
      rw [nI_clamp (n := t) (by omega)]
      have ev : (om_up (om_ul M1 89 0 (nI (P.am t)).toInt64) 71 0 0).1 (71 + 2) t = nI (P.am t) := by
        rw [om_up_n _ _ (by decide)]
        show M1.1 (71 + 2) t = _
        rw [k1.1 _ (by decide)]; exact m4 t ht
      rw [ev]
      refine lt_ok ?_ ?_ (II.made (M1 := M1) (v := (nI (P.am t)).toInt64) (P := P.rep t (P.od t) v) h (pf.s1 k1) ((s2.up0 s2.refl (by omega)).up (by omega)) ?_ k2 ?_)
      · rw [om_up_n _ _ (by decide)]; exact pu_up1
      · exact ul_out (M := M1)
      · obtain ⟨c1, c2, c3, c4, c5, c6, c7, c8⟩ := hg
        exact ⟨c1, c2, c3, uf_le (fun s hs hne => c4 s hs) hv, uf_is (fun s hs hne => c5 s hs) ho, c6, c7, c8⟩
      · have o1 : ∀ q, 72 ≤ q → q ≤ 76 → M1.1 q = M.1 q := fun q h1 h2 => k1.1 q (by omega)
        refine ⟨?_, ?_, fun s k hs hk => ?_, fun s hs => ?_, fun k hk => ?_, fun k hk => ?_, fun k hk => ?_⟩
        · rw [om_up_n _ _ (by decide), pu_up2 (by decide), e71]; exact m1
        · rw [om_up_n _ _ (by decide), pu_up2 (by decide), e71]; exact m2
        · show _ = nI (uf P.od t (P.od t) s k)
          rw [om_up_n _ _ (by decide), om_up_n _ _ (by decide), show uf P.od t (P.od t) s = P.od s by unfold uf; split <;> simp_all]
          show M1.1 _ _ = _
          rw [o1 _ (by decide) (by decide)]; exact m3 s k hs hk
        · show _ = nI (uf P.am t v s)
          by_cases e : s = t
          · subst e; rw [uf_s, pu_up1]
          · rw [uf_n e, pu_up2 e, om_up_n _ _ (by decide)]
            show M1.1 _ _ = _
            rw [o1 _ (by decide) (by decide)]; exact m4 s hs
        · rw [om_up_n _ _ (by decide), om_up_n _ _ (by decide)]
          show M1.1 _ _ = _
          rw [o1 _ (by decide) (by decide)]; exact m5 k hk
        · rw [om_up_n _ _ (by decide), om_up_n _ _ (by decide)]
          show M1.1 _ _ = _
          rw [o1 _ (by decide) (by decide)]; exact m6 k hk
        · rw [om_up_n _ _ (by decide), om_up_n _ _ (by decide)]
          show M1.1 _ _ = _
          rw [o1 _ (by decide) (by decide)]; exact m7 k hk
    · refine sp_misType (T := P.T) m2 (by omega) (fun _ _ _ => ?_) (fun q => absurd rfl (q t ht))
      refine sp_within (x := a2) (lo := 0) (hi := 100000) (fun g1 g2 => q.elim (fun q => absurd q g1) (fun q => absurd q g2)) (fun _ => ?_)
      exact sp_goes (fun e => absurd e (by decide)) (fun _ _ => ⟨fun _ => lt_bad (by decide) pu_up1 h.thrown, fun e => absurd rfl e⟩) (fun _ e => absurd rfl e)
  · refine sp_misType (T := P.T) m2 (by omega) (fun t ht e => absurd e (hb t ht)) (fun _ => ?_)
    have fin : ∀ r : Int32, wp_M_goes F 71 0 r M (fun r6 M5 => ((r6 = 0 → lt_i II 1 0 M5) ∧ (¬ r6 = 0 → vp_in a1 20 ∧ lt_i II 1 (M5.1 (71 + 2) a1.toNatClampNeg) (om_up M5 (71 + 2) a1.toNatClampNeg a2)))) := fun r => sp_goes (fun _ => ⟨fun _ => lt_bad (by decide) pu_up1 h.thrown, fun e => absurd rfl e⟩) (fun e => absurd rfl e) (fun e => absurd rfl e)
    exact sp_within (x := a2) (lo := 0) (hi := 100000) (fun _ _ => fin 1) (fun _ => fin 0)
