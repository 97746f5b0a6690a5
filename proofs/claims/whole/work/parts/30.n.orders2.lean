theorem sp_unpack {F o2 n2 fr n : Nat} {f : Nat → Nat} {M : om_M} {Q : om_M → Prop} (hn : n ≤ 7) (hf : ∀ k, k < n → f k < n) (hM : M.1 71 1 = nI n) (ho : o2 ≠ 71) (hr : fr + n ≤ n2) (hr2 : n2 < 1000) (hF : 10 ≤ F) (h : ∀ M', pu_off o2 M M' → (∀ k, k < n → M'.1 o2 (fr + k) = nI (f k)) → (∀ j, (j < fr ∨ fr + n ≤ j) → M'.1 o2 j = M.1 o2 j) → Q M') : wp_M_unpack F 71 (nI (pz f n)) o2 n2 (nI fr) M Q := by
  refine pu_loop n (fun i z => z.2 = nI i ∧ pu_off o2 M z.1 ∧ (∀ k, k < i → z.1.1 o2 (fr + k) = nI (f k)) ∧ ∀ j, (j < fr ∨ fr + n ≤ j) → z.1.1 o2 j = M.1 o2 j) (fun i z K hi hJ hK => ?_) (i := 0) (by omega) (by omega) ⟨rfl, pu_off.refl, fun k hk => absurd hk (by omega), fun j _ => rfl⟩
  obtain ⟨M1, y⟩ := z
  obtain ⟨rfl, j1, j2, j3⟩ := hJ
  refine pk_le n i (fun hle => h M1 j1 (fun k hk => j2 k (by omega)) j3) (fun hlt => ⟨pk_in (fr + i) n2 (by omega) (nI_add fr i), hK hlt _ ⟨(nI_succ i).symm, j1.up, fun k hk => ?_, fun j hj => ?_⟩⟩) (by
    show M1.1 71 1 = _
    rw [j1.1 71 (Ne.symm ho)]; exact hM)
  · rw [nI_add, nI_clamp (n := fr + i) (by omega), pa_get (fun j hj => by have := hf j hj; omega) (by omega) hlt]
    by_cases e : k = i
    · subst e; exact pu_up1
    · rw [pu_up2 (by omega)]; exact j2 k (by omega)
  · rw [nI_add, nI_clamp (n := fr + i) (by omega), pu_up2 (by omega)]; exact j3 j hj
theorem sp_packed {F o1 n1 fr n : Nat} {f : Nat → Nat} {M : om_M} {Q : Int32 → om_M → Prop} (hn : n ≤ 7) (hf : ∀ k, k < n → f k < 8) (hM : M.1 71 1 = nI n) (hr : fr + n ≤ n1) (hr2 : n1 < 1000) (hF : 10 ≤ F) (hv : ∀ k, k < n → M.1 o1 (fr + k) = nI (f k)) (h : Q (nI (pz f n)) M) : wp_M_packed F 71 o1 n1 (nI fr) M Q := by
  refine pu_loop n (fun i z => z = (M, nI (pz f i), nI i)) (fun i z K hi hJ hK => ?_) (i := 0) (by omega) (by omega) rfl
  subst hJ
  refine pk_le n i (fun hle => ?_) (fun hlt => ⟨pk_in (fr + i) n1 (by omega) (nI_add fr i), hK hlt _ ?_⟩) hM
  · rw [show i = n by omega]; exact h
  · show (M, nI (pz f i) ||| (M.1 o1 (nI fr + nI i).toNatClampNeg) <<< (((3 : Int32) * nI i) &&& 31), nI i + 1) = (M, nI (pz f (i + 1)), nI (i + 1))
    rw [nI_add, nI_clamp (n := fr + i) (by omega), hv i hlt, pa_put (fun j hj => hf j (by omega)) (by omega), ← nI_succ]
theorem isO.lt {n : Nat} {f : Nat → Nat} (h : isO n f) : ∀ k, k < n → f k < n := h.1
theorem wl_4_eq {F : Nat} {a1 a2 a3 : Int32} {M : om_M} {I : om_M → Prop} : wl_4 F 0 71 89 a1 a2 a3 M I = wp_L_tieOrder F 0 a1 89 1 M (fun r2 M1 => wp_M_tieOrder F 71 a1 M1 (fun r4 M3 => lt_i I r2 r4 M3)) := rfl
theorem iv_4 {F : Nat} (hF : 10000 ≤ F) (M : om_M) (a1 a2 a3 : Int32) (h : II M) : wl_4 F 0 71 89 a1 a2 a3 M II := by
  rw [wl_4_eq]
  obtain ⟨⟨P, hg, hP, hM⟩, -⟩ := id h
  obtain ⟨r1, r2, r3, r4, r5, r6, r7, r8, r9⟩ := hP
  obtain ⟨m1, m2, m3, m4, m5, m6, m7⟩ := hM
  have hn := hg.gn
  unfold wp_L_tieOrder wp_D_tieOrder
  rw [show M.1 (0 + 1) 5 = nI P.n from r1]
  refine sp_isOne (by omega) (by omega) (fun ho => ⟨fun e => absurd e (by decide), fun _ => ⟨pk_in 0 1 (by decide), ?_⟩⟩) (fun ho => ⟨fun _ => ⟨fun _ => ?_, fun e => absurd rfl e⟩, fun e => absurd rfl e⟩)
  · obtain ⟨f, hf, rfl⟩ := oo_isO ho
    show wp_M_tieOrder F 71 (nI (pz f P.n)) (om_ul (om_up M 1 7 (nI (pz f P.n))) 89 0 (M.1 1 7).toInt64) _
    refine sp_misOrder (n := P.n) (by omega) m1 (by omega) (fun _ => ?_) (fun q => absurd ho q)
    refine sp_goes (fun e => absurd e (by decide)) (fun _ e => absurd e (by decide)) (fun _ _ => ⟨fun e => absurd e (by decide), fun _ => ?_⟩)
    refine sp_packed (fr := 0) (f := P.ti) hn (fun k hk => by have := hg.2.2.2.2.2.1.1 k hk; omega) m1 (by omega) (by decide) (by omega) (fun k hk => by rw [Nat.zero_add]; exact m5 k hk) ?_
    refine sp_unpack (fr := 0) hn hf.1 m1 (by decide) (by omega) (by decide) (by omega) (fun M2 k1 k2 k3 => ?_)
    refine lt_ok ?_ ?_ (II.made (M1 := om_up M 1 7 (nI (pz f P.n))) (v := (M.1 1 7).toInt64) (P := P.wti f) h (pf.s1 (pf.refl.up (by omega))) ?_ ?_ ?_ ?_)
    · rw [k1.1 _ (by decide)]; exact pu_up1
    · rw [k1.2, ← r3]; exact ul_out (M := om_up M 1 7 (nI (pz f P.n)))
    · refine s2.trans (s2.up0 s2.refl (k := 0) (by omega)) ⟨fun q hq => k1.1 q (by omega), fun k _ => congrFun (k1.1 71 (by decide)) k, k1.2⟩
    · obtain ⟨g1, g2, g3, g4, g5, g6, g7, g8⟩ := hg
      exact ⟨g1, g2, g3, g4, g5, hf, g7, g8⟩
    · refine ⟨r1, r2, pu_up1, r4, ?_, ?_, ?_, fun c p hc hp => ?_, fun c p hc hp => ?_⟩
      · exact r5
      · exact r6
      · exact r7
      · rw [om_up_n _ _ (by omega)]; exact r8 c p hc hp
      · rw [om_up_n _ _ (by omega)]; exact r9 c p hc hp
    · have o1 : ∀ q, q ≠ 74 → M2.1 q = _ := fun q hq => k1.1 q hq
      refine ⟨(congrFun (o1 71 (by decide)) 1).trans m1, (congrFun (o1 71 (by decide)) 2).trans m2, fun t k ht hk => (congrFun (o1 72 (by decide)) _).trans (m3 t k ht hk), fun t ht => (congrFun (o1 73 (by decide)) _).trans (m4 t ht), fun k hk => by have q := k2 k hk; rw [Nat.zero_add] at q; exact q, fun t ht => (congrFun (o1 75 (by decide)) _).trans (m6 t ht), fun t ht => (congrFun (o1 76 (by decide)) _).trans (m7 t ht)⟩
  · refine sp_misOrder (n := P.n) (by omega) m1 (by omega) (fun q => absurd q ho) (fun _ => ?_)
    exact sp_goes (fun _ => ⟨fun _ => lt_bad (by decide) pu_up1 h.thrown, fun e => absurd rfl e⟩) (fun e => absurd rfl e) (fun e => absurd rfl e)
theorem wl_5_eq {F : Nat} {a1 a2 a3 : Int32} {M : om_M} {I : om_M → Prop} : wl_5 F 0 71 89 a1 a2 a3 M I = wp_L_agenda F 0 a1 89 1 M (fun r2 M1 => wp_M_agenda F 71 a1 M1 (fun r4 M3 => lt_i I r2 r4 M3)) := rfl
theorem iv_5 {F : Nat} (hF : 10000 ≤ F) (M : om_M) (a1 a2 a3 : Int32) (h : II M) : wl_5 F 0 71 89 a1 a2 a3 M II := by
  rw [wl_5_eq]
  obtain ⟨⟨P, hg, hP, hM⟩, -⟩ := id h
  obtain ⟨r1, r2, r3, r4, r5, r6, r7, r8, r9⟩ := hP
  obtain ⟨m1, m2, m3, m4, m5, m6, m7⟩ := hM
  have hn := hg.gn
  unfold wp_L_agenda wp_D_agenda
  rw [show M.1 (0 + 1) 5 = nI P.n from r1]
  refine sp_isOne (by omega) (by omega) (fun ho => ⟨fun e => absurd e (by decide), fun _ => ⟨pk_in 0 1 (by decide), ?_⟩⟩) (fun ho => ⟨fun _ => ⟨fun _ => ?_, fun e => absurd rfl e⟩, fun e => absurd rfl e⟩)
  · obtain ⟨f, hf, rfl⟩ := oo_isO ho
    show wp_M_agenda F 71 (nI (pz f P.n)) (om_ul (om_up M 1 8 (nI (pz f P.n))) 89 0 (M.1 1 8).toInt64) _
    refine sp_misOrder (n := P.n) (by omega) m1 (by omega) (fun _ => ?_) (fun q => absurd ho q)
    refine sp_goes (fun e => absurd e (by decide)) (fun _ e => absurd e (by decide)) (fun _ _ => ⟨fun e => absurd e (by decide), fun _ => ?_⟩)
    refine sp_packed (fr := 0) (f := P.ag) hn (fun k hk => by have := hg.2.2.2.2.2.2.1.1 k hk; omega) m1 (by omega) (by decide) (by omega) (fun k hk => by rw [Nat.zero_add]; exact m6 k hk) ?_
    refine sp_unpack (fr := 0) hn hf.1 m1 (by decide) (by omega) (by decide) (by omega) (fun M2 k1 k2 k3 => ?_)
    refine lt_ok ?_ ?_ (II.made (M1 := om_up M 1 8 (nI (pz f P.n))) (v := (M.1 1 8).toInt64) (P := P.wag f) h (pf.s1 (pf.refl.up (by omega))) ?_ ?_ ?_ ?_)
    · rw [k1.1 _ (by decide)]; exact pu_up1
    · rw [k1.2, ← r4]; exact ul_out (M := om_up M 1 8 (nI (pz f P.n)))
    · refine s2.trans (s2.up0 s2.refl (k := 0) (by omega)) ⟨fun q hq => k1.1 q (by omega), fun k _ => congrFun (k1.1 71 (by decide)) k, k1.2⟩
    · obtain ⟨g1, g2, g3, g4, g5, g6, g7, g8⟩ := hg
      exact ⟨g1, g2, g3, g4, g5, g6, hf, g8⟩
    · refine ⟨r1, r2, r3, pu_up1, ?_, ?_, ?_, fun c p hc hp => ?_, fun c p hc hp => ?_⟩
      · exact r5
      · exact r6
      · exact r7
      · rw [om_up_n _ _ (by omega)]; exact r8 c p hc hp
      · rw [om_up_n _ _ (by omega)]; exact r9 c p hc hp
    · have o1 : ∀ q, q ≠ 75 → M2.1 q = _ := fun q hq => k1.1 q hq
      refine ⟨(congrFun (o1 71 (by decide)) 1).trans m1, (congrFun (o1 71 (by decide)) 2).trans m2, fun t k ht hk => (congrFun (o1 72 (by decide)) _).trans (m3 t k ht hk), fun t ht => (congrFun (o1 73 (by decide)) _).trans (m4 t ht), fun t ht => (congrFun (o1 74 (by decide)) _).trans (m5 t ht), fun k hk => by have q := k2 k hk; rw [Nat.zero_add] at q; exact q, fun t ht => (congrFun (o1 76 (by decide)) _).trans (m7 t ht)⟩
  · refine sp_misOrder (n := P.n) (by omega) m1 (by omega) (fun q => absurd q ho) (fun _ => ?_)
    exact sp_goes (fun _ => ⟨fun _ => lt_bad (by decide) pu_up1 h.thrown, fun e => absurd rfl e⟩) (fun e => absurd rfl e) (fun e => absurd rfl e)
