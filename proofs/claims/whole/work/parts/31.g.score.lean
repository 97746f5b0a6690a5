/-! score -/
def lt_l (I : om_M → Prop) (r2 : Int32) (r4 : Int64) (M5 : om_M) : Prop := ((M5.1 71 0 = r2 → ((r2 = 0 → vp_in 0 1 ∧ (((M5.2 89 (0 : Int32).toNatClampNeg) = r4 → I M5) ∧ (¬ (M5.2 89 (0 : Int32).toNatClampNeg) = r4 → False))) ∧ (¬ r2 = 0 → I M5))) ∧ (¬ M5.1 71 0 = r2 → False))
theorem ll_ok {I : om_M → Prop} {v : Int64} {M : om_M} (h0 : M.1 71 0 = 0) (ho : M.2 89 0 = v) (hI : I M) : lt_l I 0 v M := ⟨fun _ => ⟨fun _ => ⟨pk_in 0 1 (by decide), fun _ => hI, fun e => e ho⟩, fun _ => hI⟩, fun e => e h0⟩
theorem ll_bad {I : om_M → Prop} {c : Int32} {v : Int64} {M : om_M} (hc : ¬ c = 0) (h0 : M.1 71 0 = c) (hI : I M) : lt_l I c v M := ⟨fun _ => ⟨fun e => absurd e hc, fun _ => hI⟩, fun e => e h0⟩
theorem wl_9_eq {F : Nat} {a1 a2 a3 : Int32} {M : om_M} {I : om_M → Prop} : wl_9 F 0 71 89 a1 a2 a3 M I = wp_L_score F 0 a1 a2 89 1 M (fun r2 M1 => wp_M_score F 71 a1 a2 M1 (fun r4 M3 => lt_l I r2 r4 M3)) := rfl
theorem sp_kept {F r : Nat} {M : om_M} {Q : Int32 → om_M → Prop} (hr : r < 12) (h1 : (r < 3 ∨ r = 5 ∨ r = 6) → Q 1 M) (h0 : ¬ (r < 3 ∨ r = 5 ∨ r = 6) → Q 0 M) : wp_C_areKeptBy F (nI r) M Q :=
  pk_eq r 0 (fun e => h1 (by omega)) (fun n0 => pk_eq r 1 (fun e => h1 (by omega)) (fun n1 => pk_eq r 2 (fun e => h1 (by omega)) (fun n2 => pk_eq r 5 (fun e => h1 (by omega)) (fun n5 => pk_eq r 6 (fun e => h1 (by omega)) (fun n6 => h0 (by omega))))))
theorem sp_win56 {F r : Nat} {M : om_M} {Q : Int32 → om_M → Prop} (hr : r < 12) (h1 : (r = 5 ∨ r = 6) → Q 1 M) (h0 : ¬ (r = 5 ∨ r = 6) → Q 0 M) : wp_M_within F (nI r) 5 6 M Q :=
  pk_lt r 5 (fun q => h0 (by omega)) (fun q => pk_lt 6 r (fun z => h0 (by omega)) (fun z => h1 (by omega)))
theorem iv_9 {F : Nat} (hF : 10000 ≤ F) (M : om_M) (a1 a2 a3 : Int32) (h : II M) : wl_9 F 0 71 89 a1 a2 a3 M II := by
  rw [wl_9_eq]
  obtain ⟨⟨P, hg, hP, hM⟩, -⟩ := id h
  have hn := hg.gn
  have hn2 : 2 ≤ P.n := hg.1
  have badm : ((∀ c, c < 12 → a1 ≠ nI c) ∨ (∀ c, c < P.n → a2 ≠ nI c)) → wp_M_score F 71 a1 a2 M (fun r4 M3 => lt_l II 1 r4 M3) := by
    intro hb
    have f1 : ∀ v : Int32, wp_M_score_45 F 71 a1 a2 (fun r4 M3 => lt_l II 1 r4 M3) M 71 0 v := fun v => sp_goes (fun _ => ⟨fun _ => ll_bad (by decide) pu_up1 h.thrown, fun e => absurd rfl e⟩) (fun e => absurd rfl e) (fun e => absurd rfl e)
    have fin : wp_M_score_20 F 71 a1 a2 (fun r4 M3 => lt_l II 1 r4 M3) M 71 := by
      refine sp_within (x := a1) (lo := 0) (hi := 2) (fun _ _ => ⟨fun e => absurd e (by decide), fun _ => f1 1⟩) (fun _ => ⟨fun _ => ?_, fun e => absurd rfl e⟩)
      exact sp_within (x := a1) (lo := 5) (hi := 6) (fun _ _ => ⟨fun e => absurd e (by decide), fun _ => f1 1⟩) (fun _ => ⟨fun _ => f1 0, fun e => absurd rfl e⟩)
    refine sp_misRule (fun a ha e => ⟨fun e => absurd e (by decide), fun _ => ?_⟩) (fun _ => ⟨fun _ => fin, fun e => absurd rfl e⟩)
    exact sp_misCand hM.1 hn2 hn (fun b hb2 e2 => hb.elim (fun q => absurd e (q a ha)) (fun q => absurd e2 (q b hb2))) (fun _ => ⟨fun _ => fin, fun e => absurd rfl e⟩)
  refine sp_isRule (fun r hr e => ⟨fun e => absurd e (by decide), fun _ => ?_⟩) (fun q => ⟨fun _ => ⟨fun _ => ⟨fun _ => badm (Or.inl q), fun e => absurd rfl e⟩, fun e => absurd rfl e⟩, fun e => absurd rfl e⟩)
  refine sp_isCand hP.1 hn (fun c hc e2 => ⟨fun e => absurd e (by decide), fun _ => ⟨fun e => absurd e (by decide), fun _ => ?_⟩⟩) (fun q => ⟨fun _ => ⟨fun _ => ⟨fun _ => badm (Or.inr q), fun e => absurd rfl e⟩, fun e => absurd rfl e⟩, fun e => absurd rfl e⟩)
  subst e e2
  refine sp_kept hr (fun hk => ⟨fun e => absurd e (by decide), fun _ => ?_⟩) (fun hk => ⟨fun _ => ⟨fun e => absurd e (by decide), fun _ => ⟨fun _ => ?_, fun e => absurd rfl e⟩⟩, fun e => absurd rfl e⟩)
  · refine sp_Cof (o := 0 + 1) hP hg.gd hr hc (by omega) ⟨pk_in 0 1 (by decide), ?_⟩
    show wp_M_score F 71 (nI r) (nI c) (om_ul M 89 0 (lN (P.sc r c))) _
    refine sp_misRule (fun _ _ _ => ⟨fun e => absurd e (by decide), fun _ => ?_⟩) (fun q => absurd rfl (q r hr))
    refine sp_misCand (n := P.n) hM.1 hn2 hn (fun _ _ _ => ⟨fun e => absurd e (by decide), fun _ => ?_⟩) (fun q => absurd rfl (q c hc))
    have fin : wp_M_score_45 F 71 (nI r) (nI c) (fun r4 M3 => lt_l II 0 r4 M3) (om_ul M 89 0 (lN (P.sc r c))) 71 1 1 := by
      refine sp_goes (fun e => absurd e (by decide)) (fun _ e => absurd e (by decide)) (fun _ _ => ⟨fun e => absurd e (by decide), fun _ => ?_⟩)
      refine sp_load (P := P) (RM.up0 hM) hn hg.gT (by omega) (fun M2 k1 k2 => ?_)
      refine sp_mtally k2 hn (by have := hg.gT; omega) (fun t ht => (hg.go t ht).1) (by omega) (fun M3 l1 l2 => ?_)
      refine sp_scored (l1.RL (by decide) k2) l2 hg.gd hk hc (by omega) ?_
      refine ll_ok ?_ ?_ (II.asked (M1' := om_ul M 89 0 (lN (P.sc r c))) h (cq.refl h.ta) rfl ?_)
      · rw [l1.1 71 (by decide), k1.2.1 0 (by decide) (by decide)]; exact pu_up1
      · rw [l1.2, k1.2.2]; exact ul_out (M := M)
      · exact (mq.th.trans k1.mq).trans ⟨fun q hq => l1.1 q (by omega), fun k _ _ _ => congrFun (l1.1 71 (by decide)) k, by rw [l1.2]⟩
    refine sp_win0 (n := 2) rfl (by omega) (fun _ _ _ => ⟨fun e => absurd e (by decide), fun _ => fin⟩) (fun q => ⟨fun _ => ?_, fun e => absurd rfl e⟩)
    refine sp_win56 hr (fun _ => ⟨fun e => absurd e (by decide), fun _ => fin⟩) (fun z => ?_)
    rcases hk with y | y
    · exact absurd rfl (q r (by omega))
    · exact absurd y z
  · refine sp_misRule (fun _ _ _ => ⟨fun e => absurd e (by decide), fun _ => ?_⟩) (fun q => absurd rfl (q r hr))
    refine sp_misCand (n := P.n) hM.1 hn2 hn (fun _ _ _ => ⟨fun e => absurd e (by decide), fun _ => ?_⟩) (fun q => absurd rfl (q c hc))
    refine sp_win0 (n := 2) rfl (by omega) (fun d hd e => ?_) (fun q => ⟨fun _ => ?_, fun e => absurd rfl e⟩)
    · have := (nI_eq (by omega) (by omega)).mp e
      exact absurd (Or.inl (by omega)) hk
    · refine sp_win56 hr (fun z => absurd (Or.inr z) hk) (fun z => ⟨fun _ => ?_, fun e => absurd rfl e⟩)
      exact sp_goes (fun e => absurd e (by decide)) (fun _ _ => ⟨fun _ => ll_bad (by decide) pu_up1 h.thrown, fun e => absurd rfl e⟩) (fun _ e => absurd rfl e)
