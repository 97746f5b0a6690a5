/-! what keeps the two sides; settings -/
theorem RP.congr {o : Nat} {M M' : om_M} {P : pv} (h : RP o M P) (e : ∀ q, o ≤ q → q < o + 20 → M'.1 q = M.1 q) : RP o M' P := by
  obtain ⟨r1, r2, r3, r4, r5, r6, r7, r8, r9⟩ := h
  refine ⟨?_, ?_, ?_, ?_, fun t ht => ?_, fun t ht => ?_, fun t ht => ?_, fun c p hc hp => ?_, fun c p hc hp => ?_⟩
  · rw [e o (by omega) (by omega)]; exact r1
  · rw [e o (by omega) (by omega)]; exact r2
  · rw [e o (by omega) (by omega)]; exact r3
  · rw [e o (by omega) (by omega)]; exact r4
  · rw [e _ (by omega) (by omega)]; exact r5 t ht
  · rw [e _ (by omega) (by omega)]; exact r6 t ht
  · rw [e _ (by omega) (by omega)]; exact r7 t ht
  · rw [e _ (by omega) (by omega)]; exact r8 c p hc hp
  · rw [e _ (by omega) (by omega)]; exact r9 c p hc hp
theorem RM.congr {M M' : om_M} {P : pv} (h : RM M P) (e : ∀ q, 72 ≤ q → q ≤ 76 → M'.1 q = M.1 q) (e1 : M'.1 71 1 = M.1 71 1) (e2 : M'.1 71 2 = M.1 71 2) : RM M' P := by
  obtain ⟨q1, q2, q3, q4, q5, q6, q7⟩ := h
  refine ⟨e1.trans q1, e2.trans q2, fun t k ht hk => ?_, fun t ht => ?_, fun t ht => ?_, fun t ht => ?_, fun t ht => ?_⟩
  · rw [e _ (by omega) (by omega)]; exact q3 t k ht hk
  · rw [e _ (by omega) (by omega)]; exact q4 t ht
  · rw [e _ (by omega) (by omega)]; exact q5 t ht
  · rw [e _ (by omega) (by omega)]; exact q6 t ht
  · rw [e _ (by omega) (by omega)]; exact q7 t ht
theorem IA.congr {M M' : om_M} (h : IA M) (e0 : M'.1 0 = M.1 0) (e1 : M'.1 71 22 = M.1 71 22) (e2 : M'.1 71 23 = M.1 71 23) (e3 : ∀ q, 39 ≤ q → q < 48 → M'.1 q = M.1 q) : IA M' := by
  obtain ⟨a1, a2, a3, a4⟩ := h
  refine ⟨?_, ?_, ?_, fun c hc => ?_⟩
  · rw [e0, e1]; exact a1
  · rw [e0, e2]; exact a2
  · rw [e3 39 (by omega) (by omega)]; exact a3
  · rw [e3 _ (by omega) (by omega)]; exact a4 c hc
theorem good.gT {mt ma : Nat} {P : pv} (h : good mt ma P) : P.T ≤ mt := h.2.2.1
theorem good.gn {mt ma : Nat} {P : pv} (h : good mt ma P) : P.n ≤ 7 := h.2.1
theorem good.go {mt ma : Nat} {P : pv} (h : good mt ma P) : ∀ t, t < P.T → isO P.n (P.od t) := h.2.2.2.2.1
theorem good.ga {mt ma : Nat} {P : pv} (h : good mt ma P) : ∀ t, t < P.T → P.am t ≤ ma := h.2.2.2.1
/-- the class has stepped from M to M1, the model then to M2 -/
def s1 (M M1 : om_M) : Prop := (∀ q, (q = 0 ∨ 21 ≤ q) → M1.1 q = M.1 q) ∧ M1.2 = M.2
def s2 (M1 M2 : om_M) : Prop := (∀ q, (q < 71 ∨ 77 ≤ q) → M2.1 q = M1.1 q) ∧ (∀ k, 3 ≤ k → M2.1 71 k = M1.1 71 k) ∧ M2.2 = M1.2
theorem pf.s1 {M M1 : om_M} (h : pf 1 M M1) : s1 M M1 := ⟨fun q hq => h.1 q (by omega), h.2⟩
theorem II.made {M M1 M2 : om_M} {P : pv} {v : Int64} (h : II M) (h1 : s1 M M1) (h2 : s2 (om_ul M1 89 0 v) M2) (hg : good 20 100000 P) (hP : RP 1 M1 P) (hM : RM M2 P) : II M2 := by
  refine ⟨⟨P, hg, hP.congr (fun q hq hq2 => h2.1 q (by omega)), hM⟩, h.2.congr ?_ ?_ ?_ (fun q hq hq2 => ?_)⟩
  · rw [h2.1 0 (by omega)]; exact h1.1 0 (by omega)
  · rw [h2.2.1 22 (by omega)]; exact congrFun (h1.1 71 (by omega)) 22
  · rw [h2.2.1 23 (by omega)]; exact congrFun (h1.1 71 (by omega)) 23
  · rw [h2.1 q (by omega)]; exact h1.1 q (by omega)
theorem ul_out {M : om_M} {v : Int64} : (om_ul M 89 0 v).2 89 0 = v := by simp [om_ul, vp_updL]
theorem s2.up0 {M1 M2 : om_M} {k : Nat} {v : Int32} (h : s2 M1 M2) (hk : k < 3) : s2 M1 (om_up M2 71 k v) := ⟨fun q hq => by rw [om_up_n _ _ (by omega)]; exact h.1 q hq, fun j hj => by rw [pu_up2 (by omega)]; exact h.2.1 j hj, h.2.2⟩
theorem s2.up {M1 M2 : om_M} {o k : Nat} {v : Int32} (h : s2 M1 M2) (ho : 72 ≤ o ∧ o < 77) : s2 M1 (om_up M2 o k v) := ⟨fun q hq => by rw [om_up_n _ _ (by omega)]; exact h.1 q hq, fun j hj => by rw [om_up_n _ _ (by omega)]; exact h.2.1 j hj, h.2.2⟩
theorem s2.refl {M : om_M} : s2 M M := ⟨fun _ _ => rfl, fun _ _ => rfl, rfl⟩
theorem s2.trans {M M1 M2 : om_M} (h : s2 M M1) (g : s2 M1 M2) : s2 M M2 := ⟨fun q hq => (g.1 q hq).trans (h.1 q hq), fun k hk => (g.2.1 k hk).trans (h.2.1 k hk), g.2.2.trans h.2.2⟩
/-- weight -/
def pv.wwe (P : pv) (w : Nat → Nat) : pv := (P.n, P.T, P.od, P.am, P.ti, P.ag, w)
def pv.wti (P : pv) (f : Nat → Nat) : pv := (P.n, P.T, P.od, P.am, f, P.ag, P.we)
def pv.wag (P : pv) (f : Nat → Nat) : pv := (P.n, P.T, P.od, P.am, P.ti, f, P.we)
theorem iv_6 {F : Nat} (hF : 10000 ≤ F) (M : om_M) (a1 a2 a3 : Int32) (h : II M) : wl_6 F 0 71 89 a1 a2 a3 M II := by
  rw [wl_6_eq]
  obtain ⟨⟨P, hg, hP, hM⟩, -⟩ := id h
  have hn := hg.gn
  have hn2 : 2 ≤ P.n := hg.1
  have e1 : M.1 71 1 - 1 = nI (P.n - 1) := by rw [hM.1]; exact pk_sub (a := P.n) (b := 1) (by omega)
  have bad1 : (a1 < 0 ∨ nI (P.n - 1) < a1) → wp_D_weight_19 F 0 a1 a2 (fun r3 M1 => vp_in 0 1 ∧ wp_M_weight F 71 a1 a2 (om_ul M1 89 (0 : Int32).toNatClampNeg ((r3 : Int32).toInt64)) (fun r4 M3 => lt_i II 0 r4 M3)) (fun k M2 => ((k = 0 → wp_M_weight F 71 a1 a2 M2 (fun r4 M3 => lt_i II 1 r4 M3)) ∧ (¬ k = 0 → ((k = 1 → wp_M_weight F 71 a1 a2 M2 (fun r4 M3 => lt_i II 2 r4 M3)) ∧ (¬ k = 1 → False))))) M := by
    intro hb
    refine ⟨fun _ => ⟨fun _ => ?_, fun e => absurd rfl e⟩, fun e => absurd rfl e⟩
    refine sp_within (x := a1) (lo := 0) (hi := M.1 71 1 - 1) (fun g1 g2 => hb.elim (fun q => absurd q g1) (fun q => absurd (e1 ▸ q) g2)) (fun _ => ?_)
    have fin : ∀ r4 : Int32, wp_M_goes F 71 0 r4 M (fun r6 M5 => ((r6 = 0 → lt_i II 1 0 M5) ∧ (¬ r6 = 0 → vp_in a1 7 ∧ lt_i II 1 (M5.1 (71 + 5) a1.toNatClampNeg) (om_up M5 (71 + 5) a1.toNatClampNeg a2)))) := fun r4 => sp_goes (fun _ => ⟨fun _ => lt_bad (by decide) pu_up1 h.thrown, fun e => absurd rfl e⟩) (fun e => absurd rfl e) (fun e => absurd rfl e)
    exact sp_within (x := a2) (lo := 0) (hi := 1000) (fun _ _ => fin 1) (fun _ => fin 0)
  refine ⟨fun q => bad1 (Or.inl q), fun q1 => ?_⟩
  obtain ⟨j, hj, rfl⟩ := nI_of q1
  refine pk_le P.n j (fun hle => bad1 (Or.inr (nI_lt (by omega) hj))) (fun hlt => ⟨fun e => absurd e (by decide), fun _ => ?_⟩) hP.1
  have bad2 : (a2 < 0 ∨ 1000 < a2) → wp_D_weight_38 F 0 (nI j) a2 (fun r3 M1 => vp_in 0 1 ∧ wp_M_weight F 71 (nI j) a2 (om_ul M1 89 (0 : Int32).toNatClampNeg ((r3 : Int32).toInt64)) (fun r4 M3 => lt_i II 0 r4 M3)) (fun k M2 => ((k = 0 → wp_M_weight F 71 (nI j) a2 M2 (fun r4 M3 => lt_i II 1 r4 M3)) ∧ (¬ k = 0 → ((k = 1 → wp_M_weight F 71 (nI j) a2 M2 (fun r4 M3 => lt_i II 2 r4 M3)) ∧ (¬ k = 1 → False))))) M := by
    intro hb
    refine ⟨fun _ => ⟨fun e => absurd e (by decide), fun _ => ⟨fun _ => ?_, fun e => absurd rfl e⟩⟩, fun e => absurd rfl e⟩
    refine sp_within (x := nI j) (lo := 0) (hi := M.1 71 1 - 1) (fun _ _ => ?_) (fun q => q.elim (fun q => absurd q q1) (fun q => absurd q (by rw [e1]; exact nI_nlt (by omega) (by omega))))
    exact sp_within (x := a2) (lo := 0) (hi := 1000) (fun g1 g2 => hb.elim (fun q => absurd q g1) (fun q => absurd q g2)) (fun _ => sp_goes (fun e => absurd e (by decide)) (fun _ _ => ⟨fun _ => lt_bad (by decide) pu_up1 h.thrown, fun e => absurd rfl e⟩) (fun _ e => absurd rfl e))
  refine ⟨fun q => bad2 (Or.inl q), fun q2 => ⟨fun q => bad2 (Or.inr q), fun q3 => ⟨fun e => absurd e (by decide), fun _ => ⟨pk_in j 7 (by omega), ?_⟩⟩⟩⟩
  obtain ⟨w, hw, rfl⟩ := nI_of q2
  have hw2 : w ≤ 1000 := by
    rcases Nat.lt_or_ge 1000 w with g | g
    · exact absurd (nI_lt (a := 1000) g hw) q3
    · exact g
  refine ⟨pk_in 0 1 (by decide), ?_⟩
  rw [nI_clamp (n := j) (by omega)]
  refine sp_within (x := nI j) (lo := 0) (hi := M.1 71 1 - 1) (fun _ _ => ?_) (fun q => q.elim (fun q => absurd q q1) (fun q => absurd q (by rw [e1]; exact nI_nlt (by omega) (by omega))))
  refine sp_within (x := nI w) (lo := 0) (hi := 1000) (fun _ _ => ?_) (fun q => q.elim (fun q => absurd q q2) (fun q => absurd q q3))
  refine sp_goes (fun e => absurd e (by decide)) (fun _ e => absurd e (by decide)) (fun _ _ => ⟨fun e => absurd e (by decide), fun _ => ⟨pk_in j 7 (by omega), ?_⟩⟩)
  obtain ⟨r1, r2, r3, r4, r5, r6, r7, r8, r9⟩ := hP
  obtain ⟨m1, m2, m3, m4, m5, m6, m7⟩ := hM
  rw [nI_clamp (n := j) (by omega), om_up_n _ _ (by decide)]
  have ev : (om_ul (om_up M (0 + 1 + 3) j (nI w)) 89 (0 : Int32).toNatClampNeg ((M.1 (0 + 1 + 3) j).toInt64)).1 (71 + 5) j = M.1 (0 + 1 + 3) j := by
    show (om_up M (0 + 1 + 3) j (nI w)).1 (71 + 5) j = _
    rw [om_up_n _ _ (by decide), m7 j hlt]
    exact (r7 j hlt).symm
  rw [ev]
  refine lt_ok (by rw [om_up_n _ _ (by decide), pu_up1]) (ul_out (M := om_up M (0 + 1 + 3) j (nI w))) (II.made (M1 := om_up M (0 + 1 + 3) j (nI w)) (P := P.wwe (uf P.we j w)) h (pf.s1 (pf.refl.up (by omega))) (s2.up (s2.up0 s2.refl (by omega)) (by omega)) ?_ ?_ ?_)
  · obtain ⟨g1, g2, g3, g4, g5, g6, g7, g8⟩ := hg
    refine ⟨g1, g2, g3, g4, g5, g6, g7, fun k hk => ?_⟩
    show uf P.we j w k ≤ 1000
    unfold uf
    split
    · exact hw2
    · exact g8 k hk
  · refine ⟨?_, ?_, ?_, ?_, ?_, ?_, fun k hk => ?_, fun c p hc hp => ?_, fun c p hc hp => ?_⟩
    · exact r1
    · exact r2
    · exact r3
    · exact r4
    · exact r5
    · exact r6
    · show (om_up M (0 + 1 + 3) j (nI w)).1 4 k = nI (uf P.we j w k)
      by_cases e : k = j
      · subst e; rw [uf_s]; exact pu_up1
      · rw [uf_n e]; exact (pu_up2 e).trans (r7 k hk)
    · rw [om_up_n _ _ (by omega)]; exact r8 c p hc hp
    · rw [om_up_n _ _ (by omega)]; exact r9 c p hc hp
  · refine ⟨?_, ?_, fun t k ht hk => ?_, fun t ht => ?_, fun t ht => ?_, fun t ht => ?_, fun k hk => ?_⟩
    · exact m1
    · exact m2
    · exact m3 t k ht hk
    · exact m4 t ht
    · exact m5 t ht
    · exact m6 t ht
    · show (om_up _ (71 + 5) j (nI w)).1 (71 + 5) k = nI (uf P.we j w k)
      by_cases e : k = j
      · subst e; rw [pu_up1, uf_s]
      · rw [pu_up2 e, uf_n e]; exact m7 k hk
