theorem II.out {M : om_M} {k : Nat} {v : Int64} (h : II M) : II (om_ul M 89 k v) := h.kept (fun _ _ => rfl) (fun _ _ _ => rfl)
theorem sp_allVoters {F o T : Nat} {am : Nat → Nat} {M : om_M} {Q : Int32 → om_M → Prop} (hT : M.1 o 6 = nI T) (hv : ∀ t, t < T → M.1 (o + 2) t = nI (am t)) (h21 : T ≤ 21) (hF : T < F) (h : Q (nI (su am T)) M) : wp_P_allVoters F o M Q := by
  refine pu_loop T (fun i z => z = (M, nI (su am i), nI i)) (fun i z K hi hJ hK => ?_) (i := 0) (by omega) (by omega) rfl
  subst hJ
  refine pk_le T i (fun hle => ?_) (fun hlt => ⟨vp_in_nI (by omega) (by decide), hK hlt _ ?_⟩) hT
  · rw [show i = T by omega]; exact h
  · show (M, nI (su am i) + M.1 (o + 2) (nI i).toNatClampNeg, nI i + 1) = _
    rw [nI_clamp (by omega), hv i hlt, nI_add, ← nI_succ]
    rfl
theorem sp_mcount {F o T : Nat} {x : Int32} {am : Nat → Nat} {M : om_M} {Q : Int32 → om_M → Prop} (hT : M.1 o 2 = nI T) (hv : ∀ t, t < T → M.1 (o + 2) t = nI (am t)) (h20 : T ≤ 20) (hF : T < F) (h : wp_M_count_43 F o x Q M (nI (su am T))) : wp_M_count_20 F o x Q M 0 0 := by
  refine pu_loop T (fun i z => z = (M, nI (su am i), nI i)) (fun i z K hi hJ hK => ?_) (i := 0) (by omega) (by omega) rfl
  subst hJ
  refine pk_le T i (fun hle => ?_) (fun hlt => ⟨vp_in_nI (by omega) (by decide), hK hlt _ ?_⟩) hT
  · rw [show i = T by omega]; exact h
  · show (M, nI (su am i) + M.1 (o + 2) (nI i).toNatClampNeg, nI i + 1) = _
    rw [nI_clamp (by omega), hv i hlt, nI_add, ← nI_succ]
    rfl
theorem iv_22 {F : Nat} (hF : 10000 ≤ F) (M : om_M) (a1 a2 a3 : Int32) (h : II M) : wl_22 F 0 71 89 a1 a2 a3 M II := by
  unfold wl_22 wp_L_count wp_D_count
  have bad : (a1 < 0 ∨ 2 < a1) → wp_D_count_13 F 0 a1 (fun r3 M1 => vp_in 0 1 ∧ wp_M_count F 71 a1 (om_ul M1 89 (0 : Int32).toNatClampNeg ((r3 : Int32).toInt64)) (fun r4 M3 => wp_M_thrown F 71 M3 (fun r6 M5 => ((r6 = 0 → (((0 : Int32) = 0 → vp_in 0 1 ∧ (((M5.2 89 (0 : Int32).toNatClampNeg) = ((r4 : Int32).toInt64) → II M5) ∧ (¬ (M5.2 89 (0 : Int32).toNatClampNeg) = ((r4 : Int32).toInt64) → False))) ∧ (¬ (0 : Int32) = 0 → II M5))) ∧ (¬ r6 = 0 → False))))) (fun k M2 => ((k = 1 → wp_M_count F 71 a1 M2 (fun r4 M3 => wp_M_thrown F 71 M3 (fun r6 M5 => ((r6 = 1 → (((1 : Int32) = 0 → vp_in 0 1 ∧ (((M5.2 89 (0 : Int32).toNatClampNeg) = ((r4 : Int32).toInt64) → II M5) ∧ (¬ (M5.2 89 (0 : Int32).toNatClampNeg) = ((r4 : Int32).toInt64) → False))) ∧ (¬ (1 : Int32) = 0 → II M5))) ∧ (¬ r6 = 1 → False))))) ∧ (¬ k = 1 → False))) M := by
    intro hbad
    refine ⟨fun _ => ⟨fun _ => ?_, fun e => e rfl⟩, fun e => absurd rfl e⟩
    refine sp_within (x := a1) (lo := 0) (hi := 2) (fun g1 g2 => hbad.elim (fun q => absurd q g1) (fun q => absurd q g2)) (fun _ => ?_)
    refine sp_goes (fun _ => ⟨fun _ => ?_, fun e => absurd rfl e⟩) (fun e => absurd rfl e) (fun e => absurd rfl e)
    exact ⟨fun _ => ⟨fun e => absurd e (by decide), fun _ => h.thrown⟩, fun e => e pu_up1⟩
  refine ⟨fun q => bad (Or.inl q), fun q1 => ⟨fun q => bad (Or.inr q), fun q2 => ⟨fun e => absurd e (by decide), fun _ => ?_⟩⟩⟩
  obtain ⟨⟨P, hg, hP, hM⟩, -⟩ := id h
  obtain ⟨r1, r2, -, -, -, r6, -⟩ := hP
  obtain ⟨m1, m2, -, m4, -⟩ := hM
  have hT : P.T ≤ 20 := hg.2.2.1
  have fin : ∀ v : Int32, (∀ M' : om_M, M'.1 71 1 = nI P.n → M'.1 71 2 = nI P.T → ∀ Q : Int32 → om_M → Prop, Q v M' → wp_M_count_43 F 71 a1 Q M' (nI (su P.am P.T))) → vp_in 0 1 ∧ wp_M_count F 71 a1 (om_ul M 89 (0 : Int32).toNatClampNeg (v.toInt64)) (fun r4 M3 => wp_M_thrown F 71 M3 (fun r6 M5 => ((r6 = 0 → (((0 : Int32) = 0 → vp_in 0 1 ∧ (((M5.2 89 (0 : Int32).toNatClampNeg) = ((r4 : Int32).toInt64) → II M5) ∧ (¬ (M5.2 89 (0 : Int32).toNatClampNeg) = ((r4 : Int32).toInt64) → False))) ∧ (¬ (0 : Int32) = 0 → II M5))) ∧ (¬ r6 = 0 → False)))) := by
    intro v hv
    refine ⟨pk_in 0 1 (by decide), sp_within (x := a1) (lo := 0) (hi := 2) (fun _ _ => ?_) (fun g => g.elim (fun q => absurd q q1) (fun q => absurd q q2))⟩
    refine sp_goes (fun e => absurd e (by decide)) (fun _ e => absurd e (by decide)) (fun _ _ => ⟨fun e => absurd e (by decide), fun _ => ?_⟩)
    refine sp_mcount (T := P.T) (am := P.am) (by rw [pu_up2 (by decide)]; exact m2) (fun t ht => by rw [pu_up3 (by decide)]; exact m4 t ht) hT (by omega) ?_
    refine hv _ (by rw [pu_up2 (by decide)]; exact m1) (by rw [pu_up2 (by decide)]; exact m2) _ ?_
    exact ⟨fun _ => ⟨fun _ => ⟨pk_in 0 1 (by decide), fun _ => h.out.thrown, fun e => e (by simp [vp_updL, om_up, om_ul])⟩, fun e => absurd rfl e⟩, fun e => e pu_up1⟩
  refine ⟨fun e0 => ?_, fun n0 => ⟨fun e1 => ?_, fun n1 => ?_⟩⟩
  · show vp_in 0 1 ∧ wp_M_count F 71 a1 (om_ul M 89 (0 : Int32).toNatClampNeg ((M.1 1 5).toInt64)) _
    rw [r1]
    exact fin (nI P.n) (fun M' g1 g2 Q hQ => ⟨fun _ => by rw [g1]; exact hQ, fun e => absurd e0 e⟩)
  · show vp_in 0 1 ∧ wp_M_count F 71 a1 (om_ul M 89 (0 : Int32).toNatClampNeg ((M.1 1 6).toInt64)) _
    rw [r2]
    exact fin (nI P.T) (fun M' g1 g2 Q hQ => ⟨fun e => absurd e n0, fun _ => ⟨fun _ => by rw [g2]; exact hQ, fun e => absurd e1 e⟩⟩)
  · refine sp_allVoters (o := 1) r2 r6 (by omega) (by omega) ?_
    exact fin (nI (su P.am P.T)) (fun M' g1 g2 Q hQ => ⟨fun e => absurd e n0, fun _ => ⟨fun e => absurd e n1, fun _ => hQ⟩⟩)
