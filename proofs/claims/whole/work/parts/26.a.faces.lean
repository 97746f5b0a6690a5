def wp_D_needElement (F : Nat) (x0 : Int32) (M : om_M) (Q : om_M → Prop) (X : Nat → om_M → Prop) : Prop := ((x0 = 0 → X 0 M) ∧ (¬ x0 = 0 → Q M))
def wp_D_needArgument (F : Nat) (x0 : Int32) (M : om_M) (Q : om_M → Prop) (X : Nat → om_M → Prop) : Prop := ((x0 = 0 → X 1 M) ∧ (¬ x0 = 0 → Q M))
def wp_D_candidates_16 (F : Nat) (o0 : Nat) (x1 : Int32) (Q : Int32 → om_M → Prop) (X : Nat → om_M → Prop)   (M : om_M)  (t0 : Int32) : Prop := wp_D_needArgument F t0 M (fun M1 => wp_P_open F (o0 + 1) x1 M1 (fun M2 => Q (M1.1 (o0 + 1) 5) M2)) X
def wp_D_candidates_15 (F : Nat) (o0 : Nat) (x1 : Int32) (Q : Int32 → om_M → Prop) (X : Nat → om_M → Prop)   (M : om_M)   : Prop := wp_D_candidates_16 F o0 x1 Q X M 0
def wp_D_candidates (F : Nat) (o0 : Nat) (x1 : Int32) (M : om_M) (Q : Int32 → om_M → Prop) (X : Nat → om_M → Prop) : Prop := ((x1 < 2 → wp_D_candidates_15 F o0 x1 Q X M) ∧ (¬ x1 < 2 → ((7 < x1 → wp_D_candidates_15 F o0 x1 Q X M) ∧ (¬ 7 < x1 → wp_D_candidates_16 F o0 x1 Q X M 1))))
def wp_D_ballot_26 (F : Nat) (o0 : Nat) (x1 : Int32) (x2 : Int32) (Q : Int32 → om_M → Prop) (X : Nat → om_M → Prop)   (M : om_M)  (t0 : Int32) : Prop := wp_D_needArgument F t0 M (fun M1 => (((M1.1 (o0 + 1) 6) < 20 → wp_P_append F (o0 + 1) x1 x2 M1 (fun r3 M2 => Q r3 M2)) ∧ (¬ (M1.1 (o0 + 1) 6) < 20 → X 2 M1))) X
def wp_D_ballot_25 (F : Nat) (o0 : Nat) (x1 : Int32) (x2 : Int32) (Q : Int32 → om_M → Prop) (X : Nat → om_M → Prop)   (M : om_M)   : Prop := wp_D_ballot_26 F o0 x1 x2 Q X M 0
def wp_D_ballot (F : Nat) (o0 : Nat) (x1 : Int32) (x2 : Int32) (M : om_M) (Q : Int32 → om_M → Prop) (X : Nat → om_M → Prop) : Prop := wp_O_isOne F x1 (M.1 (o0 + 1) 5) M (fun r5 M4 => ((r5 = 0 → wp_D_ballot_25 F o0 x1 x2 Q X M4) ∧ (¬ r5 = 0 → wp_D_isAmount F x2 M4 (fun r7 M6 => ((r7 = 0 → wp_D_ballot_25 F o0 x1 x2 Q X M6) ∧ (¬ r7 = 0 → wp_D_ballot_26 F o0 x1 x2 Q X M6 1))))))
def wp_D_amount (F : Nat) (o0 : Nat) (x1 : Int32) (x2 : Int32) (M : om_M) (Q : Int32 → om_M → Prop) (X : Nat → om_M → Prop) : Prop := wp_D_isType F o0 x1 M (fun r2 M1 => wp_D_needElement F r2 M1 (fun M3 => wp_D_isAmount F x2 M3 (fun r5 M4 => wp_D_needArgument F r5 M4 (fun M6 => vp_in x1 21 ∧ wp_P_replace F (o0 + 1) x1 (M6.1 (o0 + 1 + 1) x1.toNatClampNeg) x2 M6 (fun M8 => Q (M6.1 (o0 + 1 + 2) x1.toNatClampNeg) M8)) X)) X)
def wp_D_drop (F : Nat) (o0 : Nat) (x1 : Int32) (M : om_M) (Q : Int32 → om_M → Prop) (X : Nat → om_M → Prop) : Prop := wp_D_isType F o0 x1 M (fun r2 M1 => wp_D_needElement F r2 M1 (fun M3 => wp_P_remove F (o0 + 1) x1 M3 (fun M4 => Q (M4.1 (o0 + 1) 6) M4)) X)
def wp_D_tieOrder (F : Nat) (o0 : Nat) (x1 : Int32) (M : om_M) (Q : Int32 → om_M → Prop) (X : Nat → om_M → Prop) : Prop := wp_O_isOne F x1 (M.1 (o0 + 1) 5) M (fun r2 M1 => wp_D_needArgument F r2 M1 (fun M3 => Q (M3.1 (o0 + 1) 7) (om_up M3 (o0 + 1) 7 x1)) X)
def wp_D_agenda (F : Nat) (o0 : Nat) (x1 : Int32) (M : om_M) (Q : Int32 → om_M → Prop) (X : Nat → om_M → Prop) : Prop := wp_O_isOne F x1 (M.1 (o0 + 1) 5) M (fun r2 M1 => wp_D_needArgument F r2 M1 (fun M3 => Q (M3.1 (o0 + 1) 8) (om_up M3 (o0 + 1) 8 x1)) X)
def wp_D_weight_39 (F : Nat) (o0 : Nat) (x1 : Int32) (x2 : Int32) (Q : Int32 → om_M → Prop) (X : Nat → om_M → Prop)   (M : om_M)  (t0 : Int32) : Prop := wp_D_needArgument F t0 M (fun M1 => vp_in x1 7 ∧ Q (M1.1 (o0 + 1 + 3) x1.toNatClampNeg) (om_up M1 (o0 + 1 + 3) x1.toNatClampNeg x2)) X
def wp_D_weight_38 (F : Nat) (o0 : Nat) (x1 : Int32) (x2 : Int32) (Q : Int32 → om_M → Prop) (X : Nat → om_M → Prop)   (M : om_M)   : Prop := wp_D_weight_39 F o0 x1 x2 Q X M 0
def wp_D_weight_20 (F : Nat) (o0 : Nat) (x1 : Int32) (x2 : Int32) (Q : Int32 → om_M → Prop) (X : Nat → om_M → Prop)   (M : om_M)  (t0 : Int32) : Prop := wp_D_needElement F t0 M (fun M3 => ((x2 < 0 → wp_D_weight_38 F o0 x1 x2 Q X M3) ∧ (¬ x2 < 0 → ((1000 < x2 → wp_D_weight_38 F o0 x1 x2 Q X M3) ∧ (¬ 1000 < x2 → wp_D_weight_39 F o0 x1 x2 Q X M3 1))))) X
def wp_D_weight_19 (F : Nat) (o0 : Nat) (x1 : Int32) (x2 : Int32) (Q : Int32 → om_M → Prop) (X : Nat → om_M → Prop)   (M : om_M)   : Prop := wp_D_weight_20 F o0 x1 x2 Q X M 0
def wp_D_weight (F : Nat) (o0 : Nat) (x1 : Int32) (x2 : Int32) (M : om_M) (Q : Int32 → om_M → Prop) (X : Nat → om_M → Prop) : Prop := ((x1 < 0 → wp_D_weight_19 F o0 x1 x2 Q X M) ∧ (¬ x1 < 0 → (((M.1 (o0 + 1) 5) ≤ x1 → wp_D_weight_19 F o0 x1 x2 Q X M) ∧ (¬ (M.1 (o0 + 1) 5) ≤ x1 → wp_D_weight_20 F o0 x1 x2 Q X M 1))))
def wp_D_winners (F : Nat) (o0 : Nat) (x1 : Int32) (M : om_M) (Q : Int32 → om_M → Prop) (X : Nat → om_M → Prop) : Prop := wp_D_isRule F x1 M (fun r2 M1 => wp_D_needElement F r2 M1 (fun M3 => wp_R_winnerSet F (o0 + 22) (o0 + 1) x1 M3 (fun r5 M4 => Q r5 M4)) X)
def wp_D_winner (F : Nat) (o0 : Nat) (x1 : Int32) (M : om_M) (Q : Int32 → om_M → Prop) (X : Nat → om_M → Prop) : Prop := wp_D_isRule F x1 M (fun r2 M1 => wp_D_needElement F r2 M1 (fun M3 => wp_R_theWinner F (o0 + 22) (o0 + 1) x1 M3 (fun r5 M4 => Q r5 M4)) X)
def wp_D_score_20 (F : Nat) (o0 : Nat) (x1 : Int32) (x2 : Int32) (Q : Int64 → om_M → Prop) (X : Nat → om_M → Prop)   (M : om_M)  (t0 : Int32) : Prop := wp_D_needElement F t0 M (fun M1 => wp_C_areKeptBy F x1 M1 (fun r3 M2 => wp_D_needArgument F r3 M2 (fun M4 => wp_C_of F (o0 + 1) x1 x2 M4 (fun r6 M5 => Q r6 M5)) X)) X
def wp_D_score_19 (F : Nat) (o0 : Nat) (x1 : Int32) (x2 : Int32) (Q : Int64 → om_M → Prop) (X : Nat → om_M → Prop)   (M : om_M)   : Prop := wp_D_score_20 F o0 x1 x2 Q X M 0
def wp_D_score (F : Nat) (o0 : Nat) (x1 : Int32) (x2 : Int32) (M : om_M) (Q : Int64 → om_M → Prop) (X : Nat → om_M → Prop) : Prop := wp_D_isRule F x1 M (fun r8 M7 => ((r8 = 0 → wp_D_score_19 F o0 x1 x2 Q X M7) ∧ (¬ r8 = 0 → wp_D_isCandidate F o0 x2 M7 (fun r10 M9 => ((r10 = 0 → wp_D_score_19 F o0 x1 x2 Q X M9) ∧ (¬ r10 = 0 → wp_D_score_20 F o0 x1 x2 Q X M9 1))))))
def wp_D_pair_21 (F : Nat) (o0 : Nat) (x1 : Int32) (x2 : Int32) (Q : Int32 → om_M → Prop) (X : Nat → om_M → Prop)   (M : om_M)  (t0 : Int32) : Prop := wp_D_needElement F t0 M (fun M1 => vp_in x1 7 ∧ vp_in x2 7 ∧ Q (M1.1 (o0 + 1 + 12 + 1 + x1.toNatClampNeg) x2.toNatClampNeg) M1) X
def wp_D_pair_20 (F : Nat) (o0 : Nat) (x1 : Int32) (x2 : Int32) (Q : Int32 → om_M → Prop) (X : Nat → om_M → Prop)   (M : om_M)   : Prop := wp_D_pair_21 F o0 x1 x2 Q X M 0
def wp_D_pair (F : Nat) (o0 : Nat) (x1 : Int32) (x2 : Int32) (M : om_M) (Q : Int32 → om_M → Prop) (X : Nat → om_M → Prop) : Prop := wp_D_isCandidate F o0 x1 M (fun r5 M4 => ((r5 = 0 → wp_D_pair_20 F o0 x1 x2 Q X M4) ∧ (¬ r5 = 0 → wp_D_isCandidate F o0 x2 M4 (fun r7 M6 => ((r7 = 0 → wp_D_pair_20 F o0 x1 x2 Q X M6) ∧ (¬ r7 = 0 → wp_D_pair_21 F o0 x1 x2 Q X M6 1))))))
def wp_D_path_21 (F : Nat) (o0 : Nat) (x1 : Int32) (x2 : Int32) (Q : Int32 → om_M → Prop) (X : Nat → om_M → Prop)   (M : om_M)  (t0 : Int32) : Prop := wp_D_needElement F t0 M (fun M1 => wp_H_measure F (o0 + 22 + 4) (o0 + 1) M1 (fun M2 => vp_in x1 7 ∧ vp_in x2 7 ∧ Q (M2.1 (o0 + 22 + 4 + 1 + 1 + x1.toNatClampNeg) x2.toNatClampNeg) M2)) X
def wp_D_path_20 (F : Nat) (o0 : Nat) (x1 : Int32) (x2 : Int32) (Q : Int32 → om_M → Prop) (X : Nat → om_M → Prop)   (M : om_M)   : Prop := wp_D_path_21 F o0 x1 x2 Q X M 0
def wp_D_path (F : Nat) (o0 : Nat) (x1 : Int32) (x2 : Int32) (M : om_M) (Q : Int32 → om_M → Prop) (X : Nat → om_M → Prop) : Prop := wp_D_isCandidate F o0 x1 M (fun r6 M5 => ((r6 = 0 → wp_D_path_20 F o0 x1 x2 Q X M5) ∧ (¬ r6 = 0 → wp_D_isCandidate F o0 x2 M5 (fun r8 M7 => ((r8 = 0 → wp_D_path_20 F o0 x1 x2 Q X M7) ∧ (¬ r8 = 0 → wp_D_path_21 F o0 x1 x2 Q X M7 1))))))
def wp_D_step_20 (F : Nat) (o0 : Nat) (x1 : Int32) (Q : Int32 → om_M → Prop) (X : Nat → om_M → Prop)   (M : om_M)  (t0 : Int32) : Prop := wp_D_needElement F t0 M (fun M1 => wp_E_goerAt F (o0 + 22 + 1) (o0 + 1) x1 M1 (fun r3 M2 => Q r3 M2)) X
def wp_D_step_19 (F : Nat) (o0 : Nat) (x1 : Int32) (Q : Int32 → om_M → Prop) (X : Nat → om_M → Prop)   (M : om_M)   : Prop := wp_D_step_20 F o0 x1 Q X M 0
def wp_D_step (F : Nat) (o0 : Nat) (x1 : Int32) (M : om_M) (Q : Int32 → om_M → Prop) (X : Nat → om_M → Prop) : Prop := ((x1 < 0 → wp_D_step_19 F o0 x1 Q X M) ∧ (¬ x1 < 0 → (((M.1 (o0 + 1) 5) ≤ x1 → wp_D_step_19 F o0 x1 Q X M) ∧ (¬ (M.1 (o0 + 1) 5) ≤ x1 → wp_D_step_20 F o0 x1 Q X M 1))))
abbrev rm_D_needElement : Room := { frames := 6, cells := 1, slots := 6, locals := 100 }
theorem hd_D_needElement : yn_D_needElement.cls ≠ "java/lang/invoke/MethodHandle" ∧ yn_D_needElement.cls ≠ "java/lang/invoke/VarHandle" ∧ (parseMethodDescriptor yn_D_needElement.desc).map (fun d => d.parameters.length) = some 1 := by decide +kernel
set_option maxHeartbeats 4000000 in
set_option maxRecDepth 100000 in
theorem ct_D_needElement (l : Launch) (hfl : l.flags = Jvm.pinnedFlags ++ [Jvm.noTraceFlag]) (G : List (Nat × Nat)) (hG : ow_lay G) (D : va_G) (cA : Nat → ClassId) (ad : Nat → Nat) (F : Nat) (x0 : Int32) (M : om_M) (Q : om_M → Prop) (X : Nat → om_M → Prop) (h : wp_D_needElement F x0 M Q X) : xw_Met l yn_D_needElement (ow_ws yn_D_needElement cb_D_needElement 1 none) rm_D_needElement (xw_Pc G D cA ad M [.int x0]) (xw_Q G D cA ad (xw_rv Q) X) 1 6 (ow_A G ad) := by
  refine xw_ofW (cc := cb_D_needElement) (maxL := 1) (ret := none) (by decide) rfl ?_
  intro p e s m args below meth c s₁ B hml hno hv
  obtain ⟨rfl, hB, hZ⟩ := hv
  have htr := Launch.traces_off hfl B.admits
  have hx := B.exec
  have hb := B.bytes
  have hr := B.returns
  have hlocks := B.notSynchronized
  have hts : ∀ w ∈ lw_g, w.before ([.int x0] : List Value).toArray s = true := fun w h => atoms_spec (ws := ow_ws yn_D_needElement cb_D_needElement 1 none) B.pre w (List.mem_cons_of_mem _ h)
  have hown : s.vm.findClass "BallotDesk" = some m.cls := findClass_of_methodNamed B.named
  clear B
  have hl := lv_entry ([.int x0]) (n := 1) (Nat.le_of_ble_eq_true rfl)
  rw [lg_entry_eq]
  generalize (lg_sl ([.int x0]) ++ List.replicate (1 - (lg_sl ([.int x0])).length) Slot.unset).toArray = ls at hl ⊢
  have hl : lv_has ls 1 [(0, .int x0)] := hl
  show W p l e rm_D_needElement s m _ below meth c s.heap [] 0 0 _ _
  refine lv_iload_n hx hb dc_D_needElement_0 rfl (lv_at hl 0 rfl) ?_
  obtain ⟨h1, h2⟩ := h
  refine lv_if_ne hx hb dc_D_needElement_1 rfl (fun hc => ?_) (fun hc => ?_)
  · have h := h2 hc
    refine W.widen (k := 1) (n := 6) (by decide) (by decide) ?_
    exact xw_vret hx hb hr hlocks hB h dc_D_needElement_12
  · have h := h1 hc
    exact xw_throw 0 htr hx hb hown hts hZ hB hno hlocks (hl.1.trans hml.symm) mw_451 mw_452 mw_18 dc_D_needElement_4 dc_D_needElement_7 dc_D_needElement_8 dc_D_needElement_11 (Nat.le_of_ble_eq_true rfl) (Nat.le_of_ble_eq_true rfl) (Nat.le_of_ble_eq_true rfl) (Nat.le_of_ble_eq_true rfl) h
abbrev rm_D_needArgument : Room := { frames := 6, cells := 1, slots := 6, locals := 100 }
theorem hd_D_needArgument : yn_D_needArgument.cls ≠ "java/lang/invoke/MethodHandle" ∧ yn_D_needArgument.cls ≠ "java/lang/invoke/VarHandle" ∧ (parseMethodDescriptor yn_D_needArgument.desc).map (fun d => d.parameters.length) = some 1 := by decide +kernel
set_option maxHeartbeats 4000000 in
set_option maxRecDepth 100000 in
theorem ct_D_needArgument (l : Launch) (hfl : l.flags = Jvm.pinnedFlags ++ [Jvm.noTraceFlag]) (G : List (Nat × Nat)) (hG : ow_lay G) (D : va_G) (cA : Nat → ClassId) (ad : Nat → Nat) (F : Nat) (x0 : Int32) (M : om_M) (Q : om_M → Prop) (X : Nat → om_M → Prop) (h : wp_D_needArgument F x0 M Q X) : xw_Met l yn_D_needArgument (ow_ws yn_D_needArgument cb_D_needArgument 1 none) rm_D_needArgument (xw_Pc G D cA ad M [.int x0]) (xw_Q G D cA ad (xw_rv Q) X) 1 6 (ow_A G ad) := by
  refine xw_ofW (cc := cb_D_needArgument) (maxL := 1) (ret := none) (by decide) rfl ?_
  intro p e s m args below meth c s₁ B hml hno hv
  obtain ⟨rfl, hB, hZ⟩ := hv
  have htr := Launch.traces_off hfl B.admits
  have hx := B.exec
  have hb := B.bytes
  have hr := B.returns
  have hlocks := B.notSynchronized
  have hts : ∀ w ∈ lw_g, w.before ([.int x0] : List Value).toArray s = true := fun w h => atoms_spec (ws := ow_ws yn_D_needArgument cb_D_needArgument 1 none) B.pre w (List.mem_cons_of_mem _ h)
  have hown : s.vm.findClass "BallotDesk" = some m.cls := findClass_of_methodNamed B.named
  clear B
  have hl := lv_entry ([.int x0]) (n := 1) (Nat.le_of_ble_eq_true rfl)
  rw [lg_entry_eq]
  generalize (lg_sl ([.int x0]) ++ List.replicate (1 - (lg_sl ([.int x0])).length) Slot.unset).toArray = ls at hl ⊢
  have hl : lv_has ls 1 [(0, .int x0)] := hl
  show W p l e rm_D_needArgument s m _ below meth c s.heap [] 0 0 _ _
  refine lv_iload_n hx hb dc_D_needArgument_0 rfl (lv_at hl 0 rfl) ?_
  obtain ⟨h1, h2⟩ := h
  refine lv_if_ne hx hb dc_D_needArgument_1 rfl (fun hc => ?_) (fun hc => ?_)
  · have h := h2 hc
    refine W.widen (k := 1) (n := 6) (by decide) (by decide) ?_
    exact xw_vret hx hb hr hlocks hB h dc_D_needArgument_12
  · have h := h1 hc
    exact xw_throw 1 htr hx hb hown hts hZ hB hno hlocks (hl.1.trans hml.symm) mw_334 mw_335 mw_16 dc_D_needArgument_4 dc_D_needArgument_7 dc_D_needArgument_8 dc_D_needArgument_11 (Nat.le_of_ble_eq_true rfl) (Nat.le_of_ble_eq_true rfl) (Nat.le_of_ble_eq_true rfl) (Nat.le_of_ble_eq_true rfl) h
abbrev rm_D_candidates : Room := { frames := 7, cells := 1, slots := 6, locals := 120 }
theorem hd_D_candidates : yn_D_candidates.cls ≠ "java/lang/invoke/MethodHandle" ∧ yn_D_candidates.cls ≠ "java/lang/invoke/VarHandle" ∧ (parseMethodDescriptor yn_D_candidates.desc).map (fun d => d.parameters.length) = some 1 := by decide +kernel
set_option maxHeartbeats 4000000 in
set_option maxRecDepth 100000 in
theorem ct_D_candidates (l : Launch) (hfl : l.flags = Jvm.pinnedFlags ++ [Jvm.noTraceFlag]) (G : List (Nat × Nat)) (hG : ow_lay G) (D : va_G) (cA : Nat → ClassId) (ad : Nat → Nat) (F : Nat) (o0 : Nat) (k0 : ow_kd G o0 = (3, 0)) (x1 : Int32) (M : om_M) (Q : Int32 → om_M → Prop) (X : Nat → om_M → Prop) (h : wp_D_candidates F o0 x1 M Q X) : xw_Met l yn_D_candidates (ow_ws yn_D_candidates cb_D_candidates 3 (some .int)) rm_D_candidates (xw_Pc G D cA ad M [.ref (ad o0), .int x1]) (xw_Q G D cA ad (xw_ri Q) X) 1 6 (ow_A G ad) := by
  refine xw_ofW (cc := cb_D_candidates) (maxL := 3) (ret := (some .int)) (by decide) rfl ?_
  intro p e s m args below meth c s₁ B hml hno hv
  obtain ⟨rfl, hB, hZ⟩ := hv
  have htr := Launch.traces_off hfl B.admits
  have hx := B.exec
  have hb := B.bytes
  have hr := B.returns
  have hlocks := B.notSynchronized
  have hts : ∀ w ∈ lw_g, w.before ([.ref (ad o0), .int x1] : List Value).toArray s = true := fun w h => atoms_spec (ws := ow_ws yn_D_candidates cb_D_candidates 3 (some .int)) B.pre w (List.mem_cons_of_mem _ h)
  have hown : s.vm.findClass "BallotDesk" = some m.cls := findClass_of_methodNamed B.named
  clear B
  have L16 : ∀   (M : om_M)  (t0 : Int32) (H : Heap) (locs : List Loc) (ls : Array Slot), wp_D_candidates_16 F o0 x1 Q X   M  t0 → ow_B G D cA ad (ow_A G ad) M s s.heap H locs → lv_has ls 3 [(0, .ref (ad o0)), (1, .int x1)] → W p l e rm_D_candidates s m ([.ref (ad o0), .int x1] : List Value).toArray below meth c H locs 0 0 (xw_MQ below (xw_Q G D cA ad (xw_ri Q) X) ([.ref (ad o0), .int x1] : List Value).toArray s 1 6 (ow_A G ad)) (F0 m 16 ls [.int t0]) := by
    intro   M t0 H locs ls h hB hl
    refine xw_callS (As := [.int t0]) (rest := []) (maxL := 1) (mc := 1) (ms := 6) hx hb hown hts (ct_D_needArgument l hfl G hG D cA ad F _ _ _ _ h) (ow_wsin mw_333) (xw_cd_of (hts _ mw_333)) mw_1 mw_331 mw_332 hd_D_needArgument rfl rfl (Nat.le_of_ble_eq_true rfl) (Nat.le_of_ble_eq_true rfl) hB (xw_pre hB hZ) (hl.1.trans hml.symm) (Nat.le_of_ble_eq_true rfl) rfl dc_D_candidates_16 (Nat.le_of_ble_eq_true rfl) (Nat.le_of_ble_eq_true rfl) (fun q k M1 H locs ce hX hce hv hcl hB => xw_widen (k := 1) (n := 6) (by decide) (by decide) (xw_out hno hlocks hB hX hce hv hcl)) (fun v M1 H locs h hB => ?_)
    obtain ⟨rfl, h⟩ := h
    refine lv_aload_n hx hb dc_D_candidates_19 rfl (lv_at hl 0 rfl) ?_
    refine ow_get hx hb hts iw_D hown hB k0 rfl 0 (by decide) mw_229 rfl dc_D_candidates_20 ?_
    refine ow_get hx hb hts iw_P hown hB (ly_D_poll hG k0) rfl 5 (by decide) mw_63 rfl dc_D_candidates_23 ?_
    refine lv_istore_n hx hb dc_D_candidates_26 rfl hl (by decide) rfl (fun ls hl => ?_)
    refine lv_aload_n hx hb dc_D_candidates_27 rfl (lv_at hl 1 rfl) ?_
    refine ow_get hx hb hts iw_D hown hB k0 rfl 0 (by decide) mw_229 rfl dc_D_candidates_28 ?_
    refine lv_iload_n hx hb dc_D_candidates_31 rfl (lv_at hl 2 rfl) ?_
    refine ow_callv (va_runV (As := [.int x1]) (rest := []) ⟨hx, hb, hml, hown, hts⟩ (ct_P_open l G hG D cA ad F _ (ly_D_poll hG k0) _ _ _ h) ⟨ow_cb 1 hts mw_101 mw_2 mw_98 rfl rfl hd_P_open ⟨Nat.le_of_ble_eq_true rfl, Nat.le_of_ble_eq_true rfl⟩, hts _ mw_99, hts _ mw_100⟩ (ow_preV hB (ly_D_poll hG k0) rfl) rfl rfl hl.1 rfl (lv_room (Nat.le_of_ble_eq_true rfl)) dc_D_candidates_32 ⟨Nat.le_of_ble_eq_true rfl, Nat.le_of_ble_eq_true rfl⟩) hB (fun M2 H locs h hB => ?_)
    refine lv_iload_n hx hb dc_D_candidates_35 rfl (lv_at hl 0 rfl) ?_
    exact xw_iret hx hb hr hlocks hB h dc_D_candidates_36
  have L15 : ∀   (M : om_M)   (H : Heap) (locs : List Loc) (ls : Array Slot), wp_D_candidates_15 F o0 x1 Q X   M   → ow_B G D cA ad (ow_A G ad) M s s.heap H locs → lv_has ls 3 [(0, .ref (ad o0)), (1, .int x1)] → W p l e rm_D_candidates s m ([.ref (ad o0), .int x1] : List Value).toArray below meth c H locs 0 0 (xw_MQ below (xw_Q G D cA ad (xw_ri Q) X) ([.ref (ad o0), .int x1] : List Value).toArray s 1 6 (ow_A G ad)) (F0 m 15 ls []) := by
    intro   M H locs ls h hB hl
    refine lv_iconst (v := 0) hx hb dc_D_candidates_15 rfl ?_
    exact L16 _ _ _ _ _ h hB (lv_sub hl [0, 1] rfl)
  have hl := lv_entry ([.ref (ad o0), .int x1]) (n := 3) (Nat.le_of_ble_eq_true rfl)
  rw [lg_entry_eq]
  generalize (lg_sl ([.ref (ad o0), .int x1]) ++ List.replicate (3 - (lg_sl ([.ref (ad o0), .int x1])).length) Slot.unset).toArray = ls at hl ⊢
  have hl : lv_has ls 3 [(0, .ref (ad o0)), (1, .int x1)] := hl
  show W p l e rm_D_candidates s m _ below meth c s.heap [] 0 0 _ _
  refine lv_iload_n hx hb dc_D_candidates_0 rfl (lv_at hl 1 rfl) ?_
  refine lv_iconst (v := 2) hx hb dc_D_candidates_1 rfl ?_
  obtain ⟨h1, h2⟩ := h
  refine lv_icmp_lt hx hb dc_D_candidates_2 rfl (fun hc => ?_) (fun hc => ?_)
  · have h := h1 hc
    exact L15 _ _ _ _ h hB (lv_sub hl [0, 1] rfl)
  · have h := h2 hc
    refine lv_iload_n hx hb dc_D_candidates_5 rfl (lv_at hl 1 rfl) ?_
    refine lv_bipush (v := 7) hx hb dc_D_candidates_6 rfl ?_
    obtain ⟨h1, h2⟩ := h
    refine lv_icmp_gt hx hb dc_D_candidates_8 rfl (fun hc => ?_) (fun hc => ?_)
    · have h := h1 hc
      exact L15 _ _ _ _ h hB (lv_sub hl [0, 1] rfl)
    · have h := h2 hc
      refine lv_iconst (v := 1) hx hb dc_D_candidates_11 rfl ?_
      refine lv_goto hx hb dc_D_candidates_12 rfl ?_
      exact L16 _ _ _ _ _ h hB (lv_sub hl [0, 1] rfl)
abbrev rm_D_ballot : Room := { frames := 7, cells := 2, slots := 12, locals := 120 }
theorem hd_D_ballot : yn_D_ballot.cls ≠ "java/lang/invoke/MethodHandle" ∧ yn_D_ballot.cls ≠ "java/lang/invoke/VarHandle" ∧ (parseMethodDescriptor yn_D_ballot.desc).map (fun d => d.parameters.length) = some 2 := by decide +kernel
set_option maxHeartbeats 4000000 in
set_option maxRecDepth 100000 in
theorem ct_D_ballot (l : Launch) (hfl : l.flags = Jvm.pinnedFlags ++ [Jvm.noTraceFlag]) (G : List (Nat × Nat)) (hG : ow_lay G) (D : va_G) (cA : Nat → ClassId) (ad : Nat → Nat) (F : Nat) (o0 : Nat) (k0 : ow_kd G o0 = (3, 0)) (x1 : Int32) (x2 : Int32) (M : om_M) (Q : Int32 → om_M → Prop) (X : Nat → om_M → Prop) (h : wp_D_ballot F o0 x1 x2 M Q X) : xw_Met l yn_D_ballot (ow_ws yn_D_ballot cb_D_ballot 3 (some .int)) rm_D_ballot (xw_Pc G D cA ad M [.ref (ad o0), .int x1, .int x2]) (xw_Q G D cA ad (xw_ri Q) X) 2 12 (ow_A G ad) := by
  refine xw_ofW (cc := cb_D_ballot) (maxL := 3) (ret := (some .int)) (by decide) rfl ?_
  intro p e s m args below meth c s₁ B hml hno hv
  obtain ⟨rfl, hB, hZ⟩ := hv
  have htr := Launch.traces_off hfl B.admits
  have hx := B.exec
  have hb := B.bytes
  have hr := B.returns
  have hlocks := B.notSynchronized
  have hts : ∀ w ∈ lw_g, w.before ([.ref (ad o0), .int x1, .int x2] : List Value).toArray s = true := fun w h => atoms_spec (ws := ow_ws yn_D_ballot cb_D_ballot 3 (some .int)) B.pre w (List.mem_cons_of_mem _ h)
  have hown : s.vm.findClass "BallotDesk" = some m.cls := findClass_of_methodNamed B.named
  clear B
  have L26 : ∀   (M : om_M)  (t0 : Int32) (H : Heap) (locs : List Loc) (ls : Array Slot), wp_D_ballot_26 F o0 x1 x2 Q X   M  t0 → ow_B G D cA ad (ow_A G ad) M s s.heap H locs → lv_has ls 3 [(0, .ref (ad o0)), (1, .int x1), (2, .int x2)] → W p l e rm_D_ballot s m ([.ref (ad o0), .int x1, .int x2] : List Value).toArray below meth c H locs 0 0 (xw_MQ below (xw_Q G D cA ad (xw_ri Q) X) ([.ref (ad o0), .int x1, .int x2] : List Value).toArray s 2 12 (ow_A G ad)) (F0 m 26 ls [.int t0]) := by
    intro   M t0 H locs ls h hB hl
    refine xw_callS (As := [.int t0]) (rest := []) (maxL := 1) (mc := 1) (ms := 6) hx hb hown hts (ct_D_needArgument l hfl G hG D cA ad F _ _ _ _ h) (ow_wsin mw_333) (xw_cd_of (hts _ mw_333)) mw_1 mw_331 mw_332 hd_D_needArgument rfl rfl (Nat.le_of_ble_eq_true rfl) (Nat.le_of_ble_eq_true rfl) hB (xw_pre hB hZ) (hl.1.trans hml.symm) (Nat.le_of_ble_eq_true rfl) rfl dc_D_ballot_26 (Nat.le_of_ble_eq_true rfl) (Nat.le_of_ble_eq_true rfl) (fun q k M1 H locs ce hX hce hv hcl hB => xw_widen (k := 2) (n := 12) (by decide) (by decide) (xw_out hno hlocks hB hX hce hv hcl)) (fun v M1 H locs h hB => ?_)
    obtain ⟨rfl, h⟩ := h
    refine lv_aload_n hx hb dc_D_ballot_29 rfl (lv_at hl 0 rfl) ?_
    refine ow_get hx hb hts iw_D hown hB k0 rfl 0 (by decide) mw_229 rfl dc_D_ballot_30 ?_
    refine ow_get hx hb hts iw_P hown hB (ly_D_poll hG k0) rfl 6 (by decide) mw_69 rfl dc_D_ballot_33 ?_
    refine lv_bipush (v := 20) hx hb dc_D_ballot_36 rfl ?_
    obtain ⟨h1, h2⟩ := h
    refine lv_icmp_lt hx hb dc_D_ballot_38 rfl (fun hc => ?_) (fun hc => ?_)
    · have h := h1 hc
      refine lv_aload_n hx hb dc_D_ballot_49 rfl (lv_at hl 0 rfl) ?_
      refine ow_get hx hb hts iw_D hown hB k0 rfl 0 (by decide) mw_229 rfl dc_D_ballot_50 ?_
      refine lv_iload_n hx hb dc_D_ballot_53 rfl (lv_at hl 1 rfl) ?_
      refine lv_iload_n hx hb dc_D_ballot_54 rfl (lv_at hl 2 rfl) ?_
      refine ow_calli (va_runV (As := [.int x1, .int x2]) (rest := []) ⟨hx, hb, hml, hown, hts⟩ (ct_P_append l G hG D cA ad F _ (ly_D_poll hG k0) _ _ _ _ h) ⟨ow_cb 2 hts mw_431 mw_2 mw_428 rfl rfl hd_P_append ⟨Nat.le_of_ble_eq_true rfl, Nat.le_of_ble_eq_true rfl⟩, hts _ mw_429, hts _ mw_430⟩ (ow_preV hB (ly_D_poll hG k0) rfl) rfl rfl hl.1 rfl (lv_room (Nat.le_of_ble_eq_true rfl)) dc_D_ballot_55 ⟨Nat.le_of_ble_eq_true rfl, Nat.le_of_ble_eq_true rfl⟩) hB (fun r3 M2 H locs h hB => ?_)
      refine W.widen (k := 2) (n := 12) (by decide) (by decide) ?_
      exact xw_iret hx hb hr hlocks hB h dc_D_ballot_58
    · have h := h2 hc
      exact xw_throw 2 htr hx hb hown hts hZ hB hno hlocks (hl.1.trans hml.symm) mw_413 mw_414 mw_17 dc_D_ballot_41 dc_D_ballot_44 dc_D_ballot_45 dc_D_ballot_48 (Nat.le_of_ble_eq_true rfl) (Nat.le_of_ble_eq_true rfl) (Nat.le_of_ble_eq_true rfl) (Nat.le_of_ble_eq_true rfl) h
  have L25 : ∀   (M : om_M)   (H : Heap) (locs : List Loc) (ls : Array Slot), wp_D_ballot_25 F o0 x1 x2 Q X   M   → ow_B G D cA ad (ow_A G ad) M s s.heap H locs → lv_has ls 3 [(0, .ref (ad o0)), (1, .int x1), (2, .int x2)] → W p l e rm_D_ballot s m ([.ref (ad o0), .int x1, .int x2] : List Value).toArray below meth c H locs 0 0 (xw_MQ below (xw_Q G D cA ad (xw_ri Q) X) ([.ref (ad o0), .int x1, .int x2] : List Value).toArray s 2 12 (ow_A G ad)) (F0 m 25 ls []) := by
    intro   M H locs ls h hB hl
    refine lv_iconst (v := 0) hx hb dc_D_ballot_25 rfl ?_
    exact L26 _ _ _ _ _ h hB (lv_sub hl [0, 1, 2] rfl)
  have hl := lv_entry ([.ref (ad o0), .int x1, .int x2]) (n := 3) (Nat.le_of_ble_eq_true rfl)
  rw [lg_entry_eq]
  generalize (lg_sl ([.ref (ad o0), .int x1, .int x2]) ++ List.replicate (3 - (lg_sl ([.ref (ad o0), .int x1, .int x2])).length) Slot.unset).toArray = ls at hl ⊢
  have hl : lv_has ls 3 [(0, .ref (ad o0)), (1, .int x1), (2, .int x2)] := hl
  show W p l e rm_D_ballot s m _ below meth c s.heap [] 0 0 _ _
  refine lv_iload_n hx hb dc_D_ballot_0 rfl (lv_at hl 1 rfl) ?_
  refine lv_aload_n hx hb dc_D_ballot_1 rfl (lv_at hl 0 rfl) ?_
  refine ow_get hx hb hts iw_D hown hB k0 rfl 0 (by decide) mw_229 rfl dc_D_ballot_2 ?_
  refine ow_get hx hb hts iw_P hown hB (ly_D_poll hG k0) rfl 5 (by decide) mw_63 rfl dc_D_ballot_5 ?_
  refine ow_calli (va_runS (As := [.int x1, .int (M.1 (o0 + 1) 5)]) (rest := []) ⟨hx, hb, hml, hown, hts⟩ (ct_O_isOne l G hG D cA ad F _ _ _ _ h) ⟨ow_cb 2 hts mw_407 mw_3 mw_405 rfl rfl hd_O_isOne ⟨Nat.le_of_ble_eq_true rfl, Nat.le_of_ble_eq_true rfl⟩, hts _ mw_406⟩ (ow_preS hB) rfl rfl hl.1 rfl (lv_room (Nat.le_of_ble_eq_true rfl)) dc_D_ballot_8 ⟨Nat.le_of_ble_eq_true rfl, Nat.le_of_ble_eq_true rfl⟩) hB (fun r5 M4 H locs h hB => ?_)
  obtain ⟨h1, h2⟩ := h
  refine lv_if_eq hx hb dc_D_ballot_11 rfl (fun hc => ?_) (fun hc => ?_)
  · have h := h1 hc
    exact L25 _ _ _ _ h hB (lv_sub hl [0, 1, 2] rfl)
  · have h := h2 hc
    refine lv_iload_n hx hb dc_D_ballot_14 rfl (lv_at hl 2 rfl) ?_
    refine ow_calli (va_runS (As := [.int x2]) (rest := []) ⟨hx, hb, hml, hown, hts⟩ (ct_D_isAmount l G hG D cA ad F _ _ _ h) ⟨ow_cb 1 hts mw_411 mw_1 mw_409 rfl rfl hd_D_isAmount ⟨Nat.le_of_ble_eq_true rfl, Nat.le_of_ble_eq_true rfl⟩, hts _ mw_410⟩ (ow_preS hB) rfl rfl hl.1 rfl (lv_room (Nat.le_of_ble_eq_true rfl)) dc_D_ballot_15 ⟨Nat.le_of_ble_eq_true rfl, Nat.le_of_ble_eq_true rfl⟩) hB (fun r7 M6 H locs h hB => ?_)
    obtain ⟨h1, h2⟩ := h
    refine lv_if_eq hx hb dc_D_ballot_18 rfl (fun hc => ?_) (fun hc => ?_)
    · have h := h1 hc
      exact L25 _ _ _ _ h hB (lv_sub hl [0, 1, 2] rfl)
    · have h := h2 hc
      refine lv_iconst (v := 1) hx hb dc_D_ballot_21 rfl ?_
      refine lv_goto hx hb dc_D_ballot_22 rfl ?_
      exact L26 _ _ _ _ _ h hB (lv_sub hl [0, 1, 2] rfl)
abbrev rm_D_amount : Room := { frames := 7, cells := 2, slots := 12, locals := 120 }
theorem hd_D_amount : yn_D_amount.cls ≠ "java/lang/invoke/MethodHandle" ∧ yn_D_amount.cls ≠ "java/lang/invoke/VarHandle" ∧ (parseMethodDescriptor yn_D_amount.desc).map (fun d => d.parameters.length) = some 2 := by decide +kernel
set_option maxHeartbeats 4000000 in
set_option maxRecDepth 100000 in
theorem ct_D_amount (l : Launch) (hfl : l.flags = Jvm.pinnedFlags ++ [Jvm.noTraceFlag]) (G : List (Nat × Nat)) (hG : ow_lay G) (D : va_G) (cA : Nat → ClassId) (ad : Nat → Nat) (F : Nat) (o0 : Nat) (k0 : ow_kd G o0 = (3, 0)) (x1 : Int32) (x2 : Int32) (M : om_M) (Q : Int32 → om_M → Prop) (X : Nat → om_M → Prop) (h : wp_D_amount F o0 x1 x2 M Q X) : xw_Met l yn_D_amount (ow_ws yn_D_amount cb_D_amount 4 (some .int)) rm_D_amount (xw_Pc G D cA ad M [.ref (ad o0), .int x1, .int x2]) (xw_Q G D cA ad (xw_ri Q) X) 2 12 (ow_A G ad) := by
  refine xw_ofW (cc := cb_D_amount) (maxL := 4) (ret := (some .int)) (by decide) rfl ?_
  intro p e s m args below meth c s₁ B hml hno hv
  obtain ⟨rfl, hB, hZ⟩ := hv
  have htr := Launch.traces_off hfl B.admits
  have hx := B.exec
  have hb := B.bytes
  have hr := B.returns
  have hlocks := B.notSynchronized
  have hts : ∀ w ∈ lw_g, w.before ([.ref (ad o0), .int x1, .int x2] : List Value).toArray s = true := fun w h => atoms_spec (ws := ow_ws yn_D_amount cb_D_amount 4 (some .int)) B.pre w (List.mem_cons_of_mem _ h)
  have hown : s.vm.findClass "BallotDesk" = some m.cls := findClass_of_methodNamed B.named
  clear B
  have hl := lv_entry ([.ref (ad o0), .int x1, .int x2]) (n := 4) (Nat.le_of_ble_eq_true rfl)
  rw [lg_entry_eq]
  generalize (lg_sl ([.ref (ad o0), .int x1, .int x2]) ++ List.replicate (4 - (lg_sl ([.ref (ad o0), .int x1, .int x2])).length) Slot.unset).toArray = ls at hl ⊢
  have hl : lv_has ls 4 [(0, .ref (ad o0)), (1, .int x1), (2, .int x2)] := hl
  show W p l e rm_D_amount s m _ below meth c s.heap [] 0 0 _ _
  refine lv_aload_n hx hb dc_D_amount_0 rfl (lv_at hl 0 rfl) ?_
  refine lv_iload_n hx hb dc_D_amount_1 rfl (lv_at hl 1 rfl) ?_
  refine ow_calli (va_runV (As := [.int x1]) (rest := []) ⟨hx, hb, hml, hown, hts⟩ (ct_D_isType l G hG D cA ad F _ k0 _ _ _ h) ⟨ow_cb 1 hts mw_447 mw_1 mw_444 rfl rfl hd_D_isType ⟨Nat.le_of_ble_eq_true rfl, Nat.le_of_ble_eq_true rfl⟩, hts _ mw_446, hts _ ms_9⟩ (ow_preV hB k0 rfl) rfl rfl hl.1 rfl (lv_room (Nat.le_of_ble_eq_true rfl)) dc_D_amount_2 ⟨Nat.le_of_ble_eq_true rfl, Nat.le_of_ble_eq_true rfl⟩) hB (fun r2 M1 H locs h hB => ?_)
  refine xw_callS (As := [.int r2]) (rest := []) (maxL := 1) (mc := 1) (ms := 6) hx hb hown hts (ct_D_needElement l hfl G hG D cA ad F _ _ _ _ h) (ow_wsin mw_450) (xw_cd_of (hts _ mw_450)) mw_1 mw_448 mw_449 hd_D_needElement rfl rfl (Nat.le_of_ble_eq_true rfl) (Nat.le_of_ble_eq_true rfl) hB (xw_pre hB hZ) (hl.1.trans hml.symm) (Nat.le_of_ble_eq_true rfl) rfl dc_D_amount_5 (Nat.le_of_ble_eq_true rfl) (Nat.le_of_ble_eq_true rfl) (fun q k M1 H locs ce hX hce hv hcl hB => xw_widen (k := 2) (n := 12) (by decide) (by decide) (xw_out hno hlocks hB hX hce hv hcl)) (fun v M3 H locs h hB => ?_)
  obtain ⟨rfl, h⟩ := h
  refine lv_iload_n hx hb dc_D_amount_8 rfl (lv_at hl 2 rfl) ?_
  refine ow_calli (va_runS (As := [.int x2]) (rest := []) ⟨hx, hb, hml, hown, hts⟩ (ct_D_isAmount l G hG D cA ad F _ _ _ h) ⟨ow_cb 1 hts mw_411 mw_1 mw_409 rfl rfl hd_D_isAmount ⟨Nat.le_of_ble_eq_true rfl, Nat.le_of_ble_eq_true rfl⟩, hts _ mw_410⟩ (ow_preS hB) rfl rfl hl.1 rfl (lv_room (Nat.le_of_ble_eq_true rfl)) dc_D_amount_9 ⟨Nat.le_of_ble_eq_true rfl, Nat.le_of_ble_eq_true rfl⟩) hB (fun r5 M4 H locs h hB => ?_)
  refine xw_callS (As := [.int r5]) (rest := []) (maxL := 1) (mc := 1) (ms := 6) hx hb hown hts (ct_D_needArgument l hfl G hG D cA ad F _ _ _ _ h) (ow_wsin mw_333) (xw_cd_of (hts _ mw_333)) mw_1 mw_331 mw_332 hd_D_needArgument rfl rfl (Nat.le_of_ble_eq_true rfl) (Nat.le_of_ble_eq_true rfl) hB (xw_pre hB hZ) (hl.1.trans hml.symm) (Nat.le_of_ble_eq_true rfl) rfl dc_D_amount_12 (Nat.le_of_ble_eq_true rfl) (Nat.le_of_ble_eq_true rfl) (fun q k M1 H locs ce hX hce hv hcl hB => xw_widen (k := 2) (n := 12) (by decide) (by decide) (xw_out hno hlocks hB hX hce hv hcl)) (fun v M6 H locs h hB => ?_)
  obtain ⟨rfl, h⟩ := h
  refine lv_aload_n hx hb dc_D_amount_15 rfl (lv_at hl 0 rfl) ?_
  refine ow_get hx hb hts iw_D hown hB k0 rfl 0 (by decide) mw_229 rfl dc_D_amount_16 ?_
  refine ow_get hx hb hts iw_P hown hB (ly_D_poll hG k0) rfl 1 (by decide) mw_45 rfl dc_D_amount_19 ?_
  refine lv_iload_n hx hb dc_D_amount_22 rfl (lv_at hl 1 rfl) ?_
  obtain ⟨hi7, h⟩ := h
  refine ow_iald hx hb hB (ly_P_voters hG (ly_D_poll hG k0)) hi7 dc_D_amount_23 ?_
  refine lv_istore_n hx hb dc_D_amount_24 rfl hl (by decide) rfl (fun ls hl => ?_)
  refine lv_aload_n hx hb dc_D_amount_25 rfl (lv_at hl 1 rfl) ?_
  refine ow_get hx hb hts iw_D hown hB k0 rfl 0 (by decide) mw_229 rfl dc_D_amount_26 ?_
  refine lv_iload_n hx hb dc_D_amount_29 rfl (lv_at hl 2 rfl) ?_
  refine lv_aload_n hx hb dc_D_amount_30 rfl (lv_at hl 1 rfl) ?_
  refine ow_get hx hb hts iw_D hown hB k0 rfl 0 (by decide) mw_229 rfl dc_D_amount_31 ?_
  refine ow_get hx hb hts iw_P hown hB (ly_D_poll hG k0) rfl 0 (by decide) mw_41 rfl dc_D_amount_34 ?_
  refine lv_iload_n hx hb dc_D_amount_37 rfl (lv_at hl 2 rfl) ?_
  refine ow_iald hx hb hB (ly_P_orders hG (ly_D_poll hG k0)) hi7 dc_D_amount_38 ?_
  refine lv_iload_n hx hb dc_D_amount_39 rfl (lv_at hl 3 rfl) ?_
  refine ow_callv (va_runV (As := [.int x1, .int (M6.1 (o0 + 1 + 1) x1.toNatClampNeg), .int x2]) (rest := []) ⟨hx, hb, hml, hown, hts⟩ (ct_P_replace l G hG D cA ad F _ (ly_D_poll hG k0) _ _ _ _ _ h) ⟨ow_cb 3 hts mw_469 mw_2 mw_466 rfl rfl hd_P_replace ⟨Nat.le_of_ble_eq_true rfl, Nat.le_of_ble_eq_true rfl⟩, hts _ mw_467, hts _ mw_468⟩ (ow_preV hB (ly_D_poll hG k0) rfl) rfl rfl hl.1 rfl (lv_room (Nat.le_of_ble_eq_true rfl)) dc_D_amount_40 ⟨Nat.le_of_ble_eq_true rfl, Nat.le_of_ble_eq_true rfl⟩) hB (fun M8 H locs h hB => ?_)
  refine lv_iload_n hx hb dc_D_amount_43 rfl (lv_at hl 0 rfl) ?_
  exact xw_iret hx hb hr hlocks hB h dc_D_amount_44
abbrev rm_D_drop : Room := { frames := 7, cells := 1, slots := 6, locals := 120 }
theorem hd_D_drop : yn_D_drop.cls ≠ "java/lang/invoke/MethodHandle" ∧ yn_D_drop.cls ≠ "java/lang/invoke/VarHandle" ∧ (parseMethodDescriptor yn_D_drop.desc).map (fun d => d.parameters.length) = some 1 := by decide +kernel
set_option maxHeartbeats 4000000 in
set_option maxRecDepth 100000 in
theorem ct_D_drop (l : Launch) (hfl : l.flags = Jvm.pinnedFlags ++ [Jvm.noTraceFlag]) (G : List (Nat × Nat)) (hG : ow_lay G) (D : va_G) (cA : Nat → ClassId) (ad : Nat → Nat) (F : Nat) (o0 : Nat) (k0 : ow_kd G o0 = (3, 0)) (x1 : Int32) (M : om_M) (Q : Int32 → om_M → Prop) (X : Nat → om_M → Prop) (h : wp_D_drop F o0 x1 M Q X) : xw_Met l yn_D_drop (ow_ws yn_D_drop cb_D_drop 2 (some .int)) rm_D_drop (xw_Pc G D cA ad M [.ref (ad o0), .int x1]) (xw_Q G D cA ad (xw_ri Q) X) 1 6 (ow_A G ad) := by
  refine xw_ofW (cc := cb_D_drop) (maxL := 2) (ret := (some .int)) (by decide) rfl ?_
  intro p e s m args below meth c s₁ B hml hno hv
  obtain ⟨rfl, hB, hZ⟩ := hv
  have htr := Launch.traces_off hfl B.admits
  have hx := B.exec
  have hb := B.bytes
  have hr := B.returns
  have hlocks := B.notSynchronized
  have hts : ∀ w ∈ lw_g, w.before ([.ref (ad o0), .int x1] : List Value).toArray s = true := fun w h => atoms_spec (ws := ow_ws yn_D_drop cb_D_drop 2 (some .int)) B.pre w (List.mem_cons_of_mem _ h)
  have hown : s.vm.findClass "BallotDesk" = some m.cls := findClass_of_methodNamed B.named
  clear B
  have hl := lv_entry ([.ref (ad o0), .int x1]) (n := 2) (Nat.le_of_ble_eq_true rfl)
  rw [lg_entry_eq]
  generalize (lg_sl ([.ref (ad o0), .int x1]) ++ List.replicate (2 - (lg_sl ([.ref (ad o0), .int x1])).length) Slot.unset).toArray = ls at hl ⊢
  have hl : lv_has ls 2 [(0, .ref (ad o0)), (1, .int x1)] := hl
  show W p l e rm_D_drop s m _ below meth c s.heap [] 0 0 _ _
  refine lv_aload_n hx hb dc_D_drop_0 rfl (lv_at hl 0 rfl) ?_
  refine lv_iload_n hx hb dc_D_drop_1 rfl (lv_at hl 1 rfl) ?_
  refine ow_calli (va_runV (As := [.int x1]) (rest := []) ⟨hx, hb, hml, hown, hts⟩ (ct_D_isType l G hG D cA ad F _ k0 _ _ _ h) ⟨ow_cb 1 hts mw_447 mw_1 mw_444 rfl rfl hd_D_isType ⟨Nat.le_of_ble_eq_true rfl, Nat.le_of_ble_eq_true rfl⟩, hts _ mw_446, hts _ ms_9⟩ (ow_preV hB k0 rfl) rfl rfl hl.1 rfl (lv_room (Nat.le_of_ble_eq_true rfl)) dc_D_drop_2 ⟨Nat.le_of_ble_eq_true rfl, Nat.le_of_ble_eq_true rfl⟩) hB (fun r2 M1 H locs h hB => ?_)
  refine xw_callS (As := [.int r2]) (rest := []) (maxL := 1) (mc := 1) (ms := 6) hx hb hown hts (ct_D_needElement l hfl G hG D cA ad F _ _ _ _ h) (ow_wsin mw_450) (xw_cd_of (hts _ mw_450)) mw_1 mw_448 mw_449 hd_D_needElement rfl rfl (Nat.le_of_ble_eq_true rfl) (Nat.le_of_ble_eq_true rfl) hB (xw_pre hB hZ) (hl.1.trans hml.symm) (Nat.le_of_ble_eq_true rfl) rfl dc_D_drop_5 (Nat.le_of_ble_eq_true rfl) (Nat.le_of_ble_eq_true rfl) (fun q k M1 H locs ce hX hce hv hcl hB => xw_widen (k := 1) (n := 6) (by decide) (by decide) (xw_out hno hlocks hB hX hce hv hcl)) (fun v M3 H locs h hB => ?_)
  obtain ⟨rfl, h⟩ := h
  refine lv_aload_n hx hb dc_D_drop_8 rfl (lv_at hl 0 rfl) ?_
  refine ow_get hx hb hts iw_D hown hB k0 rfl 0 (by decide) mw_229 rfl dc_D_drop_9 ?_
  refine lv_iload_n hx hb dc_D_drop_12 rfl (lv_at hl 1 rfl) ?_
  refine ow_callv (va_runV (As := [.int x1]) (rest := []) ⟨hx, hb, hml, hown, hts⟩ (ct_P_remove l G hG D cA ad F _ (ly_D_poll hG k0) _ _ _ h) ⟨ow_cb 1 hts mw_480 mw_2 mw_477 rfl rfl hd_P_remove ⟨Nat.le_of_ble_eq_true rfl, Nat.le_of_ble_eq_true rfl⟩, hts _ mw_478, hts _ mw_479⟩ (ow_preV hB (ly_D_poll hG k0) rfl) rfl rfl hl.1 rfl (lv_room (Nat.le_of_ble_eq_true rfl)) dc_D_drop_13 ⟨Nat.le_of_ble_eq_true rfl, Nat.le_of_ble_eq_true rfl⟩) hB (fun M4 H locs h hB => ?_)
  refine lv_aload_n hx hb dc_D_drop_16 rfl (lv_at hl 0 rfl) ?_
  refine ow_get hx hb hts iw_D hown hB k0 rfl 0 (by decide) mw_229 rfl dc_D_drop_17 ?_
  refine ow_get hx hb hts iw_P hown hB (ly_D_poll hG k0) rfl 6 (by decide) mw_69 rfl dc_D_drop_20 ?_
  exact xw_iret hx hb hr hlocks hB h dc_D_drop_23
abbrev rm_D_tieOrder : Room := { frames := 7, cells := 1, slots := 6, locals := 120 }
theorem hd_D_tieOrder : yn_D_tieOrder.cls ≠ "java/lang/invoke/MethodHandle" ∧ yn_D_tieOrder.cls ≠ "java/lang/invoke/VarHandle" ∧ (parseMethodDescriptor yn_D_tieOrder.desc).map (fun d => d.parameters.length) = some 1 := by decide +kernel
set_option maxHeartbeats 4000000 in
set_option maxRecDepth 100000 in
theorem ct_D_tieOrder (l : Launch) (hfl : l.flags = Jvm.pinnedFlags ++ [Jvm.noTraceFlag]) (G : List (Nat × Nat)) (hG : ow_lay G) (D : va_G) (cA : Nat → ClassId) (ad : Nat → Nat) (F : Nat) (o0 : Nat) (k0 : ow_kd G o0 = (3, 0)) (x1 : Int32) (M : om_M) (Q : Int32 → om_M → Prop) (X : Nat → om_M → Prop) (h : wp_D_tieOrder F o0 x1 M Q X) : xw_Met l yn_D_tieOrder (ow_ws yn_D_tieOrder cb_D_tieOrder 3 (some .int)) rm_D_tieOrder (xw_Pc G D cA ad M [.ref (ad o0), .int x1]) (xw_Q G D cA ad (xw_ri Q) X) 1 6 (ow_A G ad) := by
  refine xw_ofW (cc := cb_D_tieOrder) (maxL := 3) (ret := (some .int)) (by decide) rfl ?_
  intro p e s m args below meth c s₁ B hml hno hv
  obtain ⟨rfl, hB, hZ⟩ := hv
  have htr := Launch.traces_off hfl B.admits
  have hx := B.exec
  have hb := B.bytes
  have hr := B.returns
  have hlocks := B.notSynchronized
  have hts : ∀ w ∈ lw_g, w.before ([.ref (ad o0), .int x1] : List Value).toArray s = true := fun w h => atoms_spec (ws := ow_ws yn_D_tieOrder cb_D_tieOrder 3 (some .int)) B.pre w (List.mem_cons_of_mem _ h)
  have hown : s.vm.findClass "BallotDesk" = some m.cls := findClass_of_methodNamed B.named
  clear B
  have hl := lv_entry ([.ref (ad o0), .int x1]) (n := 3) (Nat.le_of_ble_eq_true rfl)
  rw [lg_entry_eq]
  generalize (lg_sl ([.ref (ad o0), .int x1]) ++ List.replicate (3 - (lg_sl ([.ref (ad o0), .int x1])).length) Slot.unset).toArray = ls at hl ⊢
  have hl : lv_has ls 3 [(0, .ref (ad o0)), (1, .int x1)] := hl
  show W p l e rm_D_tieOrder s m _ below meth c s.heap [] 0 0 _ _
  refine lv_iload_n hx hb dc_D_tieOrder_0 rfl (lv_at hl 1 rfl) ?_
  refine lv_aload_n hx hb dc_D_tieOrder_1 rfl (lv_at hl 0 rfl) ?_
  refine ow_get hx hb hts iw_D hown hB k0 rfl 0 (by decide) mw_229 rfl dc_D_tieOrder_2 ?_
  refine ow_get hx hb hts iw_P hown hB (ly_D_poll hG k0) rfl 5 (by decide) mw_63 rfl dc_D_tieOrder_5 ?_
  refine ow_calli (va_runS (As := [.int x1, .int (M.1 (o0 + 1) 5)]) (rest := []) ⟨hx, hb, hml, hown, hts⟩ (ct_O_isOne l G hG D cA ad F _ _ _ _ h) ⟨ow_cb 2 hts mw_407 mw_3 mw_405 rfl rfl hd_O_isOne ⟨Nat.le_of_ble_eq_true rfl, Nat.le_of_ble_eq_true rfl⟩, hts _ mw_406⟩ (ow_preS hB) rfl rfl hl.1 rfl (lv_room (Nat.le_of_ble_eq_true rfl)) dc_D_tieOrder_8 ⟨Nat.le_of_ble_eq_true rfl, Nat.le_of_ble_eq_true rfl⟩) hB (fun r2 M1 H locs h hB => ?_)
  refine xw_callS (As := [.int r2]) (rest := []) (maxL := 1) (mc := 1) (ms := 6) hx hb hown hts (ct_D_needArgument l hfl G hG D cA ad F _ _ _ _ h) (ow_wsin mw_333) (xw_cd_of (hts _ mw_333)) mw_1 mw_331 mw_332 hd_D_needArgument rfl rfl (Nat.le_of_ble_eq_true rfl) (Nat.le_of_ble_eq_true rfl) hB (xw_pre hB hZ) (hl.1.trans hml.symm) (Nat.le_of_ble_eq_true rfl) rfl dc_D_tieOrder_11 (Nat.le_of_ble_eq_true rfl) (Nat.le_of_ble_eq_true rfl) (fun q k M1 H locs ce hX hce hv hcl hB => xw_widen (k := 1) (n := 6) (by decide) (by decide) (xw_out hno hlocks hB hX hce hv hcl)) (fun v M3 H locs h hB => ?_)
  obtain ⟨rfl, h⟩ := h
  refine lv_aload_n hx hb dc_D_tieOrder_14 rfl (lv_at hl 0 rfl) ?_
  refine ow_get hx hb hts iw_D hown hB k0 rfl 0 (by decide) mw_229 rfl dc_D_tieOrder_15 ?_
  refine ow_get hx hb hts iw_P hown hB (ly_D_poll hG k0) rfl 7 (by decide) mw_74 rfl dc_D_tieOrder_18 ?_
  refine lv_istore_n hx hb dc_D_tieOrder_21 rfl hl (by decide) rfl (fun ls hl => ?_)
  refine lv_aload_n hx hb dc_D_tieOrder_22 rfl (lv_at hl 1 rfl) ?_
  refine ow_get hx hb hts iw_D hown hB k0 rfl 0 (by decide) mw_229 rfl dc_D_tieOrder_23 ?_
  refine lv_iload_n hx hb dc_D_tieOrder_26 rfl (lv_at hl 2 rfl) ?_
  refine ow_put hx hb hts iw_P yf_P of_P nf_P hown hB (ly_D_poll hG k0) rfl 7 (by decide) mw_74 rfl (by decide +kernel) (Nat.le_of_ble_eq_true rfl) rfl dc_D_tieOrder_27 (fun H locs hB => ?_)
  refine lv_iload_n hx hb dc_D_tieOrder_30 rfl (lv_at hl 0 rfl) ?_
  exact xw_iret hx hb hr hlocks hB h dc_D_tieOrder_31
abbrev rm_D_agenda : Room := { frames := 7, cells := 1, slots := 6, locals := 120 }
theorem hd_D_agenda : yn_D_agenda.cls ≠ "java/lang/invoke/MethodHandle" ∧ yn_D_agenda.cls ≠ "java/lang/invoke/VarHandle" ∧ (parseMethodDescriptor yn_D_agenda.desc).map (fun d => d.parameters.length) = some 1 := by decide +kernel
set_option maxHeartbeats 4000000 in
set_option maxRecDepth 100000 in
theorem ct_D_agenda (l : Launch) (hfl : l.flags = Jvm.pinnedFlags ++ [Jvm.noTraceFlag]) (G : List (Nat × Nat)) (hG : ow_lay G) (D : va_G) (cA : Nat → ClassId) (ad : Nat → Nat) (F : Nat) (o0 : Nat) (k0 : ow_kd G o0 = (3, 0)) (x1 : Int32) (M : om_M) (Q : Int32 → om_M → Prop) (X : Nat → om_M → Prop) (h : wp_D_agenda F o0 x1 M Q X) : xw_Met l yn_D_agenda (ow_ws yn_D_agenda cb_D_agenda 3 (some .int)) rm_D_agenda (xw_Pc G D cA ad M [.ref (ad o0), .int x1]) (xw_Q G D cA ad (xw_ri Q) X) 1 6 (ow_A G ad) := by
  refine xw_ofW (cc := cb_D_agenda) (maxL := 3) (ret := (some .int)) (by decide) rfl ?_
  intro p e s m args below meth c s₁ B hml hno hv
  obtain ⟨rfl, hB, hZ⟩ := hv
  have htr := Launch.traces_off hfl B.admits
  have hx := B.exec
  have hb := B.bytes
  have hr := B.returns
  have hlocks := B.notSynchronized
  have hts : ∀ w ∈ lw_g, w.before ([.ref (ad o0), .int x1] : List Value).toArray s = true := fun w h => atoms_spec (ws := ow_ws yn_D_agenda cb_D_agenda 3 (some .int)) B.pre w (List.mem_cons_of_mem _ h)
  have hown : s.vm.findClass "BallotDesk" = some m.cls := findClass_of_methodNamed B.named
  clear B
  have hl := lv_entry ([.ref (ad o0), .int x1]) (n := 3) (Nat.le_of_ble_eq_true rfl)
  rw [lg_entry_eq]
  generalize (lg_sl ([.ref (ad o0), .int x1]) ++ List.replicate (3 - (lg_sl ([.ref (ad o0), .int x1])).length) Slot.unset).toArray = ls at hl ⊢
  have hl : lv_has ls 3 [(0, .ref (ad o0)), (1, .int x1)] := hl
  show W p l e rm_D_agenda s m _ below meth c s.heap [] 0 0 _ _
  refine lv_iload_n hx hb dc_D_agenda_0 rfl (lv_at hl 1 rfl) ?_
  refine lv_aload_n hx hb dc_D_agenda_1 rfl (lv_at hl 0 rfl) ?_
  refine ow_get hx hb hts iw_D hown hB k0 rfl 0 (by decide) mw_229 rfl dc_D_agenda_2 ?_
  refine ow_get hx hb hts iw_P hown hB (ly_D_poll hG k0) rfl 5 (by decide) mw_63 rfl dc_D_agenda_5 ?_
  refine ow_calli (va_runS (As := [.int x1, .int (M.1 (o0 + 1) 5)]) (rest := []) ⟨hx, hb, hml, hown, hts⟩ (ct_O_isOne l G hG D cA ad F _ _ _ _ h) ⟨ow_cb 2 hts mw_407 mw_3 mw_405 rfl rfl hd_O_isOne ⟨Nat.le_of_ble_eq_true rfl, Nat.le_of_ble_eq_true rfl⟩, hts _ mw_406⟩ (ow_preS hB) rfl rfl hl.1 rfl (lv_room (Nat.le_of_ble_eq_true rfl)) dc_D_agenda_8 ⟨Nat.le_of_ble_eq_true rfl, Nat.le_of_ble_eq_true rfl⟩) hB (fun r2 M1 H locs h hB => ?_)
  refine xw_callS (As := [.int r2]) (rest := []) (maxL := 1) (mc := 1) (ms := 6) hx hb hown hts (ct_D_needArgument l hfl G hG D cA ad F _ _ _ _ h) (ow_wsin mw_333) (xw_cd_of (hts _ mw_333)) mw_1 mw_331 mw_332 hd_D_needArgument rfl rfl (Nat.le_of_ble_eq_true rfl) (Nat.le_of_ble_eq_true rfl) hB (xw_pre hB hZ) (hl.1.trans hml.symm) (Nat.le_of_ble_eq_true rfl) rfl dc_D_agenda_11 (Nat.le_of_ble_eq_true rfl) (Nat.le_of_ble_eq_true rfl) (fun q k M1 H locs ce hX hce hv hcl hB => xw_widen (k := 1) (n := 6) (by decide) (by decide) (xw_out hno hlocks hB hX hce hv hcl)) (fun v M3 H locs h hB => ?_)
  obtain ⟨rfl, h⟩ := h
  refine lv_aload_n hx hb dc_D_agenda_14 rfl (lv_at hl 0 rfl) ?_
  refine ow_get hx hb hts iw_D hown hB k0 rfl 0 (by decide) mw_229 rfl dc_D_agenda_15 ?_
  refine ow_get hx hb hts iw_P hown hB (ly_D_poll hG k0) rfl 8 (by decide) mw_77 rfl dc_D_agenda_18 ?_
  refine lv_istore_n hx hb dc_D_agenda_21 rfl hl (by decide) rfl (fun ls hl => ?_)
  refine lv_aload_n hx hb dc_D_agenda_22 rfl (lv_at hl 1 rfl) ?_
  refine ow_get hx hb hts iw_D hown hB k0 rfl 0 (by decide) mw_229 rfl dc_D_agenda_23 ?_
  refine lv_iload_n hx hb dc_D_agenda_26 rfl (lv_at hl 2 rfl) ?_
  refine ow_put hx hb hts iw_P yf_P of_P nf_P hown hB (ly_D_poll hG k0) rfl 8 (by decide) mw_77 rfl (by decide +kernel) (Nat.le_of_ble_eq_true rfl) rfl dc_D_agenda_27 (fun H locs hB => ?_)
  refine lv_iload_n hx hb dc_D_agenda_30 rfl (lv_at hl 0 rfl) ?_
  exact xw_iret hx hb hr hlocks hB h dc_D_agenda_31
abbrev rm_D_weight : Room := { frames := 7, cells := 2, slots := 12, locals := 120 }
theorem hd_D_weight : yn_D_weight.cls ≠ "java/lang/invoke/MethodHandle" ∧ yn_D_weight.cls ≠ "java/lang/invoke/VarHandle" ∧ (parseMethodDescriptor yn_D_weight.desc).map (fun d => d.parameters.length) = some 2 := by decide +kernel
set_option maxHeartbeats 4000000 in
set_option maxRecDepth 100000 in
theorem ct_D_weight (l : Launch) (hfl : l.flags = Jvm.pinnedFlags ++ [Jvm.noTraceFlag]) (G : List (Nat × Nat)) (hG : ow_lay G) (D : va_G) (cA : Nat → ClassId) (ad : Nat → Nat) (F : Nat) (o0 : Nat) (k0 : ow_kd G o0 = (3, 0)) (x1 : Int32) (x2 : Int32) (M : om_M) (Q : Int32 → om_M → Prop) (X : Nat → om_M → Prop) (h : wp_D_weight F o0 x1 x2 M Q X) : xw_Met l yn_D_weight (ow_ws yn_D_weight cb_D_weight 4 (some .int)) rm_D_weight (xw_Pc G D cA ad M [.ref (ad o0), .int x1, .int x2]) (xw_Q G D cA ad (xw_ri Q) X) 2 12 (ow_A G ad) := by
  refine xw_ofW (cc := cb_D_weight) (maxL := 4) (ret := (some .int)) (by decide) rfl ?_
  intro p e s m args below meth c s₁ B hml hno hv
  obtain ⟨rfl, hB, hZ⟩ := hv
  have htr := Launch.traces_off hfl B.admits
  have hx := B.exec
  have hb := B.bytes
  have hr := B.returns
  have hlocks := B.notSynchronized
  have hts : ∀ w ∈ lw_g, w.before ([.ref (ad o0), .int x1, .int x2] : List Value).toArray s = true := fun w h => atoms_spec (ws := ow_ws yn_D_weight cb_D_weight 4 (some .int)) B.pre w (List.mem_cons_of_mem _ h)
  have hown : s.vm.findClass "BallotDesk" = some m.cls := findClass_of_methodNamed B.named
  clear B
  have L39 : ∀   (M : om_M)  (t0 : Int32) (H : Heap) (locs : List Loc) (ls : Array Slot), wp_D_weight_39 F o0 x1 x2 Q X   M  t0 → ow_B G D cA ad (ow_A G ad) M s s.heap H locs → lv_has ls 4 [(0, .ref (ad o0)), (1, .int x1), (2, .int x2)] → W p l e rm_D_weight s m ([.ref (ad o0), .int x1, .int x2] : List Value).toArray below meth c H locs 1 6 (xw_MQ below (xw_Q G D cA ad (xw_ri Q) X) ([.ref (ad o0), .int x1, .int x2] : List Value).toArray s 2 12 (ow_A G ad)) (F0 m 39 ls [.int t0]) := by
    intro   M t0 H locs ls h hB hl
    refine xw_callS (As := [.int t0]) (rest := []) (maxL := 1) (mc := 1) (ms := 6) hx hb hown hts (ct_D_needArgument l hfl G hG D cA ad F _ _ _ _ h) (ow_wsin mw_333) (xw_cd_of (hts _ mw_333)) mw_1 mw_331 mw_332 hd_D_needArgument rfl rfl (Nat.le_of_ble_eq_true rfl) (Nat.le_of_ble_eq_true rfl) hB (xw_pre hB hZ) (hl.1.trans hml.symm) (Nat.le_of_ble_eq_true rfl) rfl dc_D_weight_39 (Nat.le_of_ble_eq_true rfl) (Nat.le_of_ble_eq_true rfl) (fun q k M1 H locs ce hX hce hv hcl hB => xw_widen (k := 2) (n := 12) (by decide) (by decide) (xw_out hno hlocks hB hX hce hv hcl)) (fun v M1 H locs h hB => ?_)
    obtain ⟨rfl, h⟩ := h
    refine lv_aload_n hx hb dc_D_weight_42 rfl (lv_at hl 0 rfl) ?_
    refine ow_get hx hb hts iw_D hown hB k0 rfl 0 (by decide) mw_229 rfl dc_D_weight_43 ?_
    refine ow_get hx hb hts iw_P hown hB (ly_D_poll hG k0) rfl 2 (by decide) mw_49 rfl dc_D_weight_46 ?_
    refine lv_iload_n hx hb dc_D_weight_49 rfl (lv_at hl 1 rfl) ?_
    obtain ⟨hi2, h⟩ := h
    refine ow_iald hx hb hB (ly_P_weights hG (ly_D_poll hG k0)) hi2 dc_D_weight_50 ?_
    refine lv_istore_n hx hb dc_D_weight_51 rfl hl (by decide) rfl (fun ls hl => ?_)
    refine lv_aload_n hx hb dc_D_weight_52 rfl (lv_at hl 1 rfl) ?_
    refine ow_get hx hb hts iw_D hown hB k0 rfl 0 (by decide) mw_229 rfl dc_D_weight_53 ?_
    refine ow_get hx hb hts iw_P hown hB (ly_D_poll hG k0) rfl 2 (by decide) mw_49 rfl dc_D_weight_56 ?_
    refine lv_iload_n hx hb dc_D_weight_59 rfl (lv_at hl 2 rfl) ?_
    refine lv_iload_n hx hb dc_D_weight_60 rfl (lv_at hl 3 rfl) ?_
    refine ow_iast hx hb hB (ly_P_weights hG (ly_D_poll hG k0)) hi2 dc_D_weight_61 (fun H locs hB => ?_)
    refine lv_iload_n hx hb dc_D_weight_62 rfl (lv_at hl 0 rfl) ?_
    exact xw_iret hx hb hr hlocks hB h dc_D_weight_63
  have L38 : ∀   (M : om_M)   (H : Heap) (locs : List Loc) (ls : Array Slot), wp_D_weight_38 F o0 x1 x2 Q X   M   → ow_B G D cA ad (ow_A G ad) M s s.heap H locs → lv_has ls 4 [(0, .ref (ad o0)), (1, .int x1), (2, .int x2)] → W p l e rm_D_weight s m ([.ref (ad o0), .int x1, .int x2] : List Value).toArray below meth c H locs 1 6 (xw_MQ below (xw_Q G D cA ad (xw_ri Q) X) ([.ref (ad o0), .int x1, .int x2] : List Value).toArray s 2 12 (ow_A G ad)) (F0 m 38 ls []) := by
    intro   M H locs ls h hB hl
    refine lv_iconst (v := 0) hx hb dc_D_weight_38 rfl ?_
    exact L39 _ _ _ _ _ h hB (lv_sub hl [0, 1, 2] rfl)
  have L20 : ∀   (M : om_M)  (t0 : Int32) (H : Heap) (locs : List Loc) (ls : Array Slot), wp_D_weight_20 F o0 x1 x2 Q X   M  t0 → ow_B G D cA ad (ow_A G ad) M s s.heap H locs → lv_has ls 4 [(0, .ref (ad o0)), (1, .int x1), (2, .int x2)] → W p l e rm_D_weight s m ([.ref (ad o0), .int x1, .int x2] : List Value).toArray below meth c H locs 0 0 (xw_MQ below (xw_Q G D cA ad (xw_ri Q) X) ([.ref (ad o0), .int x1, .int x2] : List Value).toArray s 2 12 (ow_A G ad)) (F0 m 20 ls [.int t0]) := by
    intro   M t0 H locs ls h hB hl
    refine xw_callS (As := [.int t0]) (rest := []) (maxL := 1) (mc := 1) (ms := 6) hx hb hown hts (ct_D_needElement l hfl G hG D cA ad F _ _ _ _ h) (ow_wsin mw_450) (xw_cd_of (hts _ mw_450)) mw_1 mw_448 mw_449 hd_D_needElement rfl rfl (Nat.le_of_ble_eq_true rfl) (Nat.le_of_ble_eq_true rfl) hB (xw_pre hB hZ) (hl.1.trans hml.symm) (Nat.le_of_ble_eq_true rfl) rfl dc_D_weight_20 (Nat.le_of_ble_eq_true rfl) (Nat.le_of_ble_eq_true rfl) (fun q k M1 H locs ce hX hce hv hcl hB => xw_widen (k := 2) (n := 12) (by decide) (by decide) (xw_out hno hlocks hB hX hce hv hcl)) (fun v M3 H locs h hB => ?_)
    obtain ⟨rfl, h⟩ := h
    refine lv_iload_n hx hb dc_D_weight_23 rfl (lv_at hl 2 rfl) ?_
    obtain ⟨h1, h2⟩ := h
    refine lv_if_lt hx hb dc_D_weight_24 rfl (fun hc => ?_) (fun hc => ?_)
    · have h := h1 hc
      exact L38 _ _ _ _ h hB (lv_sub hl [0, 1, 2] rfl)
    · have h := h2 hc
      refine lv_iload_n hx hb dc_D_weight_27 rfl (lv_at hl 2 rfl) ?_
      refine lv_sipush (v := 1000) hx hb dc_D_weight_28 rfl ?_
      obtain ⟨h1, h2⟩ := h
      refine lv_icmp_gt hx hb dc_D_weight_31 rfl (fun hc => ?_) (fun hc => ?_)
      · have h := h1 hc
        exact L38 _ _ _ _ h hB (lv_sub hl [0, 1, 2] rfl)
      · have h := h2 hc
        refine lv_iconst (v := 1) hx hb dc_D_weight_34 rfl ?_
        refine lv_goto hx hb dc_D_weight_35 rfl ?_
        exact L39 _ _ _ _ _ h hB (lv_sub hl [0, 1, 2] rfl)
  have L19 : ∀   (M : om_M)   (H : Heap) (locs : List Loc) (ls : Array Slot), wp_D_weight_19 F o0 x1 x2 Q X   M   → ow_B G D cA ad (ow_A G ad) M s s.heap H locs → lv_has ls 4 [(0, .ref (ad o0)), (1, .int x1), (2, .int x2)] → W p l e rm_D_weight s m ([.ref (ad o0), .int x1, .int x2] : List Value).toArray below meth c H locs 0 0 (xw_MQ below (xw_Q G D cA ad (xw_ri Q) X) ([.ref (ad o0), .int x1, .int x2] : List Value).toArray s 2 12 (ow_A G ad)) (F0 m 19 ls []) := by
    intro   M H locs ls h hB hl
    refine lv_iconst (v := 0) hx hb dc_D_weight_19 rfl ?_
    exact L20 _ _ _ _ _ h hB (lv_sub hl [0, 1, 2] rfl)
  have hl := lv_entry ([.ref (ad o0), .int x1, .int x2]) (n := 4) (Nat.le_of_ble_eq_true rfl)
  rw [lg_entry_eq]
  generalize (lg_sl ([.ref (ad o0), .int x1, .int x2]) ++ List.replicate (4 - (lg_sl ([.ref (ad o0), .int x1, .int x2])).length) Slot.unset).toArray = ls at hl ⊢
  have hl : lv_has ls 4 [(0, .ref (ad o0)), (1, .int x1), (2, .int x2)] := hl
  show W p l e rm_D_weight s m _ below meth c s.heap [] 0 0 _ _
  refine lv_iload_n hx hb dc_D_weight_0 rfl (lv_at hl 1 rfl) ?_
  obtain ⟨h1, h2⟩ := h
  refine lv_if_lt hx hb dc_D_weight_1 rfl (fun hc => ?_) (fun hc => ?_)
  · have h := h1 hc
    exact L19 _ _ _ _ h hB (lv_sub hl [0, 1, 2] rfl)
  · have h := h2 hc
    refine lv_iload_n hx hb dc_D_weight_4 rfl (lv_at hl 1 rfl) ?_
    refine lv_aload_n hx hb dc_D_weight_5 rfl (lv_at hl 0 rfl) ?_
    refine ow_get hx hb hts iw_D hown hB k0 rfl 0 (by decide) mw_229 rfl dc_D_weight_6 ?_
    refine ow_get hx hb hts iw_P hown hB (ly_D_poll hG k0) rfl 5 (by decide) mw_63 rfl dc_D_weight_9 ?_
    obtain ⟨h1, h2⟩ := h
    refine lv_icmp_ge hx hb dc_D_weight_12 rfl (fun hc => ?_) (fun hc => ?_)
    · have h := h1 hc
      exact L19 _ _ _ _ h hB (lv_sub hl [0, 1, 2] rfl)
    · have h := h2 hc
      refine lv_iconst (v := 1) hx hb dc_D_weight_15 rfl ?_
      refine lv_goto hx hb dc_D_weight_16 rfl ?_
      exact L20 _ _ _ _ _ h hB (lv_sub hl [0, 1, 2] rfl)
abbrev rm_D_winners : Room := { frames := 7, cells := 1, slots := 6, locals := 121 }
theorem hd_D_winners : yn_D_winners.cls ≠ "java/lang/invoke/MethodHandle" ∧ yn_D_winners.cls ≠ "java/lang/invoke/VarHandle" ∧ (parseMethodDescriptor yn_D_winners.desc).map (fun d => d.parameters.length) = some 1 := by decide +kernel
set_option maxHeartbeats 4000000 in
set_option maxRecDepth 100000 in
theorem ct_D_winners (l : Launch) (hfl : l.flags = Jvm.pinnedFlags ++ [Jvm.noTraceFlag]) (G : List (Nat × Nat)) (hG : ow_lay G) (D : va_G) (cA : Nat → ClassId) (ad : Nat → Nat) (F : Nat) (o0 : Nat) (k0 : ow_kd G o0 = (3, 0)) (x1 : Int32) (M : om_M) (Q : Int32 → om_M → Prop) (X : Nat → om_M → Prop) (h : wp_D_winners F o0 x1 M Q X) : xw_Met l yn_D_winners (ow_ws yn_D_winners cb_D_winners 2 (some .int)) rm_D_winners (xw_Pc G D cA ad M [.ref (ad o0), .int x1]) (xw_Q G D cA ad (xw_ri Q) X) 1 6 (ow_A G ad) := by
  refine xw_ofW (cc := cb_D_winners) (maxL := 2) (ret := (some .int)) (by decide) rfl ?_
  intro p e s m args below meth c s₁ B hml hno hv
  obtain ⟨rfl, hB, hZ⟩ := hv
  have htr := Launch.traces_off hfl B.admits
  have hx := B.exec
  have hb := B.bytes
  have hr := B.returns
  have hlocks := B.notSynchronized
  have hts : ∀ w ∈ lw_g, w.before ([.ref (ad o0), .int x1] : List Value).toArray s = true := fun w h => atoms_spec (ws := ow_ws yn_D_winners cb_D_winners 2 (some .int)) B.pre w (List.mem_cons_of_mem _ h)
  have hown : s.vm.findClass "BallotDesk" = some m.cls := findClass_of_methodNamed B.named
  clear B
  have hl := lv_entry ([.ref (ad o0), .int x1]) (n := 2) (Nat.le_of_ble_eq_true rfl)
  rw [lg_entry_eq]
  generalize (lg_sl ([.ref (ad o0), .int x1]) ++ List.replicate (2 - (lg_sl ([.ref (ad o0), .int x1])).length) Slot.unset).toArray = ls at hl ⊢
  have hl : lv_has ls 2 [(0, .ref (ad o0)), (1, .int x1)] := hl
  show W p l e rm_D_winners s m _ below meth c s.heap [] 0 0 _ _
  refine lv_iload_n hx hb dc_D_winners_0 rfl (lv_at hl 1 rfl) ?_
  refine ow_calli (va_runS (As := [.int x1]) (rest := []) ⟨hx, hb, hml, hown, hts⟩ (ct_D_isRule l G hG D cA ad F _ _ _ h) ⟨ow_cb 1 hts mw_511 mw_1 mw_509 rfl rfl hd_D_isRule ⟨Nat.le_of_ble_eq_true rfl, Nat.le_of_ble_eq_true rfl⟩, hts _ mw_510⟩ (ow_preS hB) rfl rfl hl.1 rfl (lv_room (Nat.le_of_ble_eq_true rfl)) dc_D_winners_1 ⟨Nat.le_of_ble_eq_true rfl, Nat.le_of_ble_eq_true rfl⟩) hB (fun r2 M1 H locs h hB => ?_)
  refine xw_callS (As := [.int r2]) (rest := []) (maxL := 1) (mc := 1) (ms := 6) hx hb hown hts (ct_D_needElement l hfl G hG D cA ad F _ _ _ _ h) (ow_wsin mw_450) (xw_cd_of (hts _ mw_450)) mw_1 mw_448 mw_449 hd_D_needElement rfl rfl (Nat.le_of_ble_eq_true rfl) (Nat.le_of_ble_eq_true rfl) hB (xw_pre hB hZ) (hl.1.trans hml.symm) (Nat.le_of_ble_eq_true rfl) rfl dc_D_winners_4 (Nat.le_of_ble_eq_true rfl) (Nat.le_of_ble_eq_true rfl) (fun q k M1 H locs ce hX hce hv hcl hB => xw_widen (k := 1) (n := 6) (by decide) (by decide) (xw_out hno hlocks hB hX hce hv hcl)) (fun v M3 H locs h hB => ?_)
  obtain ⟨rfl, h⟩ := h
  refine lv_aload_n hx hb dc_D_winners_7 rfl (lv_at hl 0 rfl) ?_
  refine ow_get hx hb hts iw_D hown hB k0 rfl 1 (by decide) mw_230 rfl dc_D_winners_8 ?_
  refine lv_aload_n hx hb dc_D_winners_11 rfl (lv_at hl 0 rfl) ?_
  refine ow_get hx hb hts iw_D hown hB k0 rfl 0 (by decide) mw_229 rfl dc_D_winners_12 ?_
  refine lv_iload_n hx hb dc_D_winners_15 rfl (lv_at hl 1 rfl) ?_
  refine ow_calli (va_runV (As := [.ref (ad (o0 + 1)), .int x1]) (rest := []) ⟨hx, hb, hml, hown, hts⟩ (ct_R_winnerSet l G hG D cA ad F _ (ly_D_rules hG k0) _ (ly_D_poll hG k0) _ _ _ h) ⟨ow_cb 2 hts mw_515 mw_6 mw_512 rfl rfl hd_R_winnerSet ⟨Nat.le_of_ble_eq_true rfl, Nat.le_of_ble_eq_true rfl⟩, hts _ mw_513, hts _ mw_514⟩ (ow_preV hB (ly_D_rules hG k0) rfl) rfl rfl hl.1 rfl (lv_room (Nat.le_of_ble_eq_true rfl)) dc_D_winners_16 ⟨Nat.le_of_ble_eq_true rfl, Nat.le_of_ble_eq_true rfl⟩) hB (fun r5 M4 H locs h hB => ?_)
  exact xw_iret hx hb hr hlocks hB h dc_D_winners_19
abbrev rm_D_winner : Room := { frames := 7, cells := 1, slots := 6, locals := 143 }
theorem hd_D_winner : yn_D_winner.cls ≠ "java/lang/invoke/MethodHandle" ∧ yn_D_winner.cls ≠ "java/lang/invoke/VarHandle" ∧ (parseMethodDescriptor yn_D_winner.desc).map (fun d => d.parameters.length) = some 1 := by decide +kernel
set_option maxHeartbeats 4000000 in
set_option maxRecDepth 100000 in
theorem ct_D_winner (l : Launch) (hfl : l.flags = Jvm.pinnedFlags ++ [Jvm.noTraceFlag]) (G : List (Nat × Nat)) (hG : ow_lay G) (D : va_G) (cA : Nat → ClassId) (ad : Nat → Nat) (F : Nat) (o0 : Nat) (k0 : ow_kd G o0 = (3, 0)) (x1 : Int32) (M : om_M) (Q : Int32 → om_M → Prop) (X : Nat → om_M → Prop) (h : wp_D_winner F o0 x1 M Q X) : xw_Met l yn_D_winner (ow_ws yn_D_winner cb_D_winner 2 (some .int)) rm_D_winner (xw_Pc G D cA ad M [.ref (ad o0), .int x1]) (xw_Q G D cA ad (xw_ri Q) X) 1 6 (ow_A G ad) := by
  refine xw_ofW (cc := cb_D_winner) (maxL := 2) (ret := (some .int)) (by decide) rfl ?_
  intro p e s m args below meth c s₁ B hml hno hv
  obtain ⟨rfl, hB, hZ⟩ := hv
  have htr := Launch.traces_off hfl B.admits
  have hx := B.exec
  have hb := B.bytes
  have hr := B.returns
  have hlocks := B.notSynchronized
  have hts : ∀ w ∈ lw_g, w.before ([.ref (ad o0), .int x1] : List Value).toArray s = true := fun w h => atoms_spec (ws := ow_ws yn_D_winner cb_D_winner 2 (some .int)) B.pre w (List.mem_cons_of_mem _ h)
  have hown : s.vm.findClass "BallotDesk" = some m.cls := findClass_of_methodNamed B.named
  clear B
  have hl := lv_entry ([.ref (ad o0), .int x1]) (n := 2) (Nat.le_of_ble_eq_true rfl)
  rw [lg_entry_eq]
  generalize (lg_sl ([.ref (ad o0), .int x1]) ++ List.replicate (2 - (lg_sl ([.ref (ad o0), .int x1])).length) Slot.unset).toArray = ls at hl ⊢
  have hl : lv_has ls 2 [(0, .ref (ad o0)), (1, .int x1)] := hl
  show W p l e rm_D_winner s m _ below meth c s.heap [] 0 0 _ _
  refine lv_iload_n hx hb dc_D_winner_0 rfl (lv_at hl 1 rfl) ?_
  refine ow_calli (va_runS (As := [.int x1]) (rest := []) ⟨hx, hb, hml, hown, hts⟩ (ct_D_isRule l G hG D cA ad F _ _ _ h) ⟨ow_cb 1 hts mw_511 mw_1 mw_509 rfl rfl hd_D_isRule ⟨Nat.le_of_ble_eq_true rfl, Nat.le_of_ble_eq_true rfl⟩, hts _ mw_510⟩ (ow_preS hB) rfl rfl hl.1 rfl (lv_room (Nat.le_of_ble_eq_true rfl)) dc_D_winner_1 ⟨Nat.le_of_ble_eq_true rfl, Nat.le_of_ble_eq_true rfl⟩) hB (fun r2 M1 H locs h hB => ?_)
  refine xw_callS (As := [.int r2]) (rest := []) (maxL := 1) (mc := 1) (ms := 6) hx hb hown hts (ct_D_needElement l hfl G hG D cA ad F _ _ _ _ h) (ow_wsin mw_450) (xw_cd_of (hts _ mw_450)) mw_1 mw_448 mw_449 hd_D_needElement rfl rfl (Nat.le_of_ble_eq_true rfl) (Nat.le_of_ble_eq_true rfl) hB (xw_pre hB hZ) (hl.1.trans hml.symm) (Nat.le_of_ble_eq_true rfl) rfl dc_D_winner_4 (Nat.le_of_ble_eq_true rfl) (Nat.le_of_ble_eq_true rfl) (fun q k M1 H locs ce hX hce hv hcl hB => xw_widen (k := 1) (n := 6) (by decide) (by decide) (xw_out hno hlocks hB hX hce hv hcl)) (fun v M3 H locs h hB => ?_)
  obtain ⟨rfl, h⟩ := h
  refine lv_aload_n hx hb dc_D_winner_7 rfl (lv_at hl 0 rfl) ?_
  refine ow_get hx hb hts iw_D hown hB k0 rfl 1 (by decide) mw_230 rfl dc_D_winner_8 ?_
  refine lv_aload_n hx hb dc_D_winner_11 rfl (lv_at hl 0 rfl) ?_
  refine ow_get hx hb hts iw_D hown hB k0 rfl 0 (by decide) mw_229 rfl dc_D_winner_12 ?_
  refine lv_iload_n hx hb dc_D_winner_15 rfl (lv_at hl 1 rfl) ?_
  refine ow_calli (va_runV (As := [.ref (ad (o0 + 1)), .int x1]) (rest := []) ⟨hx, hb, hml, hown, hts⟩ (ct_R_theWinner l G hG D cA ad F _ (ly_D_rules hG k0) _ (ly_D_poll hG k0) _ _ _ h) ⟨ow_cb 2 hts mw_615 mw_6 mw_612 rfl rfl hd_R_theWinner ⟨Nat.le_of_ble_eq_true rfl, Nat.le_of_ble_eq_true rfl⟩, hts _ mw_613, hts _ mw_614⟩ (ow_preV hB (ly_D_rules hG k0) rfl) rfl rfl hl.1 rfl (lv_room (Nat.le_of_ble_eq_true rfl)) dc_D_winner_16 ⟨Nat.le_of_ble_eq_true rfl, Nat.le_of_ble_eq_true rfl⟩) hB (fun r5 M4 H locs h hB => ?_)
  exact xw_iret hx hb hr hlocks hB h dc_D_winner_19
abbrev rm_D_score : Room := { frames := 7, cells := 2, slots := 12, locals := 120 }
theorem hd_D_score : yn_D_score.cls ≠ "java/lang/invoke/MethodHandle" ∧ yn_D_score.cls ≠ "java/lang/invoke/VarHandle" ∧ (parseMethodDescriptor yn_D_score.desc).map (fun d => d.parameters.length) = some 2 := by decide +kernel
set_option maxHeartbeats 4000000 in
set_option maxRecDepth 100000 in
theorem ct_D_score (l : Launch) (hfl : l.flags = Jvm.pinnedFlags ++ [Jvm.noTraceFlag]) (G : List (Nat × Nat)) (hG : ow_lay G) (D : va_G) (cA : Nat → ClassId) (ad : Nat → Nat) (F : Nat) (o0 : Nat) (k0 : ow_kd G o0 = (3, 0)) (x1 : Int32) (x2 : Int32) (M : om_M) (Q : Int64 → om_M → Prop) (X : Nat → om_M → Prop) (h : wp_D_score F o0 x1 x2 M Q X) : xw_Met l yn_D_score (ow_ws yn_D_score cb_D_score 3 (some .long)) rm_D_score (xw_Pc G D cA ad M [.ref (ad o0), .int x1, .int x2]) (xw_Q G D cA ad (xw_rl Q) X) 2 12 (ow_A G ad) := by
  refine xw_ofW (cc := cb_D_score) (maxL := 3) (ret := (some .long)) (by decide) rfl ?_
  intro p e s m args below meth c s₁ B hml hno hv
  obtain ⟨rfl, hB, hZ⟩ := hv
  have htr := Launch.traces_off hfl B.admits
  have hx := B.exec
  have hb := B.bytes
  have hr := B.returns
  have hlocks := B.notSynchronized
  have hts : ∀ w ∈ lw_g, w.before ([.ref (ad o0), .int x1, .int x2] : List Value).toArray s = true := fun w h => atoms_spec (ws := ow_ws yn_D_score cb_D_score 3 (some .long)) B.pre w (List.mem_cons_of_mem _ h)
  have hown : s.vm.findClass "BallotDesk" = some m.cls := findClass_of_methodNamed B.named
  clear B
  have L20 : ∀   (M : om_M)  (t0 : Int32) (H : Heap) (locs : List Loc) (ls : Array Slot), wp_D_score_20 F o0 x1 x2 Q X   M  t0 → ow_B G D cA ad (ow_A G ad) M s s.heap H locs → lv_has ls 3 [(0, .ref (ad o0)), (1, .int x1), (2, .int x2)] → W p l e rm_D_score s m ([.ref (ad o0), .int x1, .int x2] : List Value).toArray below meth c H locs 0 0 (xw_MQ below (xw_Q G D cA ad (xw_rl Q) X) ([.ref (ad o0), .int x1, .int x2] : List Value).toArray s 2 12 (ow_A G ad)) (F0 m 20 ls [.int t0]) := by
    intro   M t0 H locs ls h hB hl
    refine xw_callS (As := [.int t0]) (rest := []) (maxL := 1) (mc := 1) (ms := 6) hx hb hown hts (ct_D_needElement l hfl G hG D cA ad F _ _ _ _ h) (ow_wsin mw_450) (xw_cd_of (hts _ mw_450)) mw_1 mw_448 mw_449 hd_D_needElement rfl rfl (Nat.le_of_ble_eq_true rfl) (Nat.le_of_ble_eq_true rfl) hB (xw_pre hB hZ) (hl.1.trans hml.symm) (Nat.le_of_ble_eq_true rfl) rfl dc_D_score_20 (Nat.le_of_ble_eq_true rfl) (Nat.le_of_ble_eq_true rfl) (fun q k M1 H locs ce hX hce hv hcl hB => xw_widen (k := 2) (n := 12) (by decide) (by decide) (xw_out hno hlocks hB hX hce hv hcl)) (fun v M1 H locs h hB => ?_)
    obtain ⟨rfl, h⟩ := h
    refine lv_iload_n hx hb dc_D_score_23 rfl (lv_at hl 1 rfl) ?_
    refine ow_calli (va_runS (As := [.int x1]) (rest := []) ⟨hx, hb, hml, hown, hts⟩ (ct_C_areKeptBy l G hG D cA ad F _ _ _ h) ⟨ow_cb 1 hts mw_630 mw_21 mw_628 rfl rfl hd_C_areKeptBy ⟨Nat.le_of_ble_eq_true rfl, Nat.le_of_ble_eq_true rfl⟩, hts _ mw_629⟩ (ow_preS hB) rfl rfl hl.1 rfl (lv_room (Nat.le_of_ble_eq_true rfl)) dc_D_score_24 ⟨Nat.le_of_ble_eq_true rfl, Nat.le_of_ble_eq_true rfl⟩) hB (fun r3 M2 H locs h hB => ?_)
    refine xw_callS (As := [.int r3]) (rest := []) (maxL := 1) (mc := 1) (ms := 6) hx hb hown hts (ct_D_needArgument l hfl G hG D cA ad F _ _ _ _ h) (ow_wsin mw_333) (xw_cd_of (hts _ mw_333)) mw_1 mw_331 mw_332 hd_D_needArgument rfl rfl (Nat.le_of_ble_eq_true rfl) (Nat.le_of_ble_eq_true rfl) hB (xw_pre hB hZ) (hl.1.trans hml.symm) (Nat.le_of_ble_eq_true rfl) rfl dc_D_score_27 (Nat.le_of_ble_eq_true rfl) (Nat.le_of_ble_eq_true rfl) (fun q k M1 H locs ce hX hce hv hcl hB => xw_widen (k := 2) (n := 12) (by decide) (by decide) (xw_out hno hlocks hB hX hce hv hcl)) (fun v M4 H locs h hB => ?_)
    obtain ⟨rfl, h⟩ := h
    refine lv_aload_n hx hb dc_D_score_30 rfl (lv_at hl 0 rfl) ?_
    refine ow_get hx hb hts iw_D hown hB k0 rfl 0 (by decide) mw_229 rfl dc_D_score_31 ?_
    refine lv_iload_n hx hb dc_D_score_34 rfl (lv_at hl 1 rfl) ?_
    refine lv_iload_n hx hb dc_D_score_35 rfl (lv_at hl 2 rfl) ?_
    refine ow_calll (va_runS (As := [.ref (ad (o0 + 1)), .int x1, .int x2]) (rest := []) ⟨hx, hb, hml, hown, hts⟩ (ct_C_of l G hG D cA ad F _ (ly_D_poll hG k0) _ _ _ _ h) ⟨ow_cb 3 hts mw_593 mw_21 mw_631 rfl rfl hd_C_of ⟨Nat.le_of_ble_eq_true rfl, Nat.le_of_ble_eq_true rfl⟩, hts _ mw_592⟩ (ow_preS hB) rfl rfl hl.1 rfl (lv_room (Nat.le_of_ble_eq_true rfl)) dc_D_score_36 ⟨Nat.le_of_ble_eq_true rfl, Nat.le_of_ble_eq_true rfl⟩) hB (fun r6 M5 H locs h hB => ?_)
    exact xw_lret hx hb hr hlocks hB h dc_D_score_39
  have L19 : ∀   (M : om_M)   (H : Heap) (locs : List Loc) (ls : Array Slot), wp_D_score_19 F o0 x1 x2 Q X   M   → ow_B G D cA ad (ow_A G ad) M s s.heap H locs → lv_has ls 3 [(0, .ref (ad o0)), (1, .int x1), (2, .int x2)] → W p l e rm_D_score s m ([.ref (ad o0), .int x1, .int x2] : List Value).toArray below meth c H locs 0 0 (xw_MQ below (xw_Q G D cA ad (xw_rl Q) X) ([.ref (ad o0), .int x1, .int x2] : List Value).toArray s 2 12 (ow_A G ad)) (F0 m 19 ls []) := by
    intro   M H locs ls h hB hl
    refine lv_iconst (v := 0) hx hb dc_D_score_19 rfl ?_
    exact L20 _ _ _ _ _ h hB (lv_sub hl [0, 1, 2] rfl)
  have hl := lv_entry ([.ref (ad o0), .int x1, .int x2]) (n := 3) (Nat.le_of_ble_eq_true rfl)
  rw [lg_entry_eq]
  generalize (lg_sl ([.ref (ad o0), .int x1, .int x2]) ++ List.replicate (3 - (lg_sl ([.ref (ad o0), .int x1, .int x2])).length) Slot.unset).toArray = ls at hl ⊢
  have hl : lv_has ls 3 [(0, .ref (ad o0)), (1, .int x1), (2, .int x2)] := hl
  show W p l e rm_D_score s m _ below meth c s.heap [] 0 0 _ _
  refine lv_iload_n hx hb dc_D_score_0 rfl (lv_at hl 1 rfl) ?_
  refine ow_calli (va_runS (As := [.int x1]) (rest := []) ⟨hx, hb, hml, hown, hts⟩ (ct_D_isRule l G hG D cA ad F _ _ _ h) ⟨ow_cb 1 hts mw_511 mw_1 mw_509 rfl rfl hd_D_isRule ⟨Nat.le_of_ble_eq_true rfl, Nat.le_of_ble_eq_true rfl⟩, hts _ mw_510⟩ (ow_preS hB) rfl rfl hl.1 rfl (lv_room (Nat.le_of_ble_eq_true rfl)) dc_D_score_1 ⟨Nat.le_of_ble_eq_true rfl, Nat.le_of_ble_eq_true rfl⟩) hB (fun r8 M7 H locs h hB => ?_)
  obtain ⟨h1, h2⟩ := h
  refine lv_if_eq hx hb dc_D_score_4 rfl (fun hc => ?_) (fun hc => ?_)
  · have h := h1 hc
    exact L19 _ _ _ _ h hB (lv_sub hl [0, 1, 2] rfl)
  · have h := h2 hc
    refine lv_aload_n hx hb dc_D_score_7 rfl (lv_at hl 0 rfl) ?_
    refine lv_iload_n hx hb dc_D_score_8 rfl (lv_at hl 2 rfl) ?_
    refine ow_calli (va_runV (As := [.int x2]) (rest := []) ⟨hx, hb, hml, hown, hts⟩ (ct_D_isCandidate l G hG D cA ad F _ k0 _ _ _ h) ⟨ow_cb 1 hts mw_627 mw_1 mw_624 rfl rfl hd_D_isCandidate ⟨Nat.le_of_ble_eq_true rfl, Nat.le_of_ble_eq_true rfl⟩, hts _ mw_626, hts _ ms_15⟩ (ow_preV hB k0 rfl) rfl rfl hl.1 rfl (lv_room (Nat.le_of_ble_eq_true rfl)) dc_D_score_9 ⟨Nat.le_of_ble_eq_true rfl, Nat.le_of_ble_eq_true rfl⟩) hB (fun r10 M9 H locs h hB => ?_)
    obtain ⟨h1, h2⟩ := h
    refine lv_if_eq hx hb dc_D_score_12 rfl (fun hc => ?_) (fun hc => ?_)
    · have h := h1 hc
      exact L19 _ _ _ _ h hB (lv_sub hl [0, 1, 2] rfl)
    · have h := h2 hc
      refine lv_iconst (v := 1) hx hb dc_D_score_15 rfl ?_
      refine lv_goto hx hb dc_D_score_16 rfl ?_
      exact L20 _ _ _ _ _ h hB (lv_sub hl [0, 1, 2] rfl)
abbrev rm_D_pair : Room := { frames := 7, cells := 1, slots := 6, locals := 120 }
theorem hd_D_pair : yn_D_pair.cls ≠ "java/lang/invoke/MethodHandle" ∧ yn_D_pair.cls ≠ "java/lang/invoke/VarHandle" ∧ (parseMethodDescriptor yn_D_pair.desc).map (fun d => d.parameters.length) = some 2 := by decide +kernel
set_option maxHeartbeats 4000000 in
set_option maxRecDepth 100000 in
theorem ct_D_pair (l : Launch) (hfl : l.flags = Jvm.pinnedFlags ++ [Jvm.noTraceFlag]) (G : List (Nat × Nat)) (hG : ow_lay G) (D : va_G) (cA : Nat → ClassId) (ad : Nat → Nat) (F : Nat) (o0 : Nat) (k0 : ow_kd G o0 = (3, 0)) (x1 : Int32) (x2 : Int32) (M : om_M) (Q : Int32 → om_M → Prop) (X : Nat → om_M → Prop) (h : wp_D_pair F o0 x1 x2 M Q X) : xw_Met l yn_D_pair (ow_ws yn_D_pair cb_D_pair 3 (some .int)) rm_D_pair (xw_Pc G D cA ad M [.ref (ad o0), .int x1, .int x2]) (xw_Q G D cA ad (xw_ri Q) X) 1 6 (ow_A G ad) := by
  refine xw_ofW (cc := cb_D_pair) (maxL := 3) (ret := (some .int)) (by decide) rfl ?_
  intro p e s m args below meth c s₁ B hml hno hv
  obtain ⟨rfl, hB, hZ⟩ := hv
  have htr := Launch.traces_off hfl B.admits
  have hx := B.exec
  have hb := B.bytes
  have hr := B.returns
  have hlocks := B.notSynchronized
  have hts : ∀ w ∈ lw_g, w.before ([.ref (ad o0), .int x1, .int x2] : List Value).toArray s = true := fun w h => atoms_spec (ws := ow_ws yn_D_pair cb_D_pair 3 (some .int)) B.pre w (List.mem_cons_of_mem _ h)
  have hown : s.vm.findClass "BallotDesk" = some m.cls := findClass_of_methodNamed B.named
  clear B
  have L21 : ∀   (M : om_M)  (t0 : Int32) (H : Heap) (locs : List Loc) (ls : Array Slot), wp_D_pair_21 F o0 x1 x2 Q X   M  t0 → ow_B G D cA ad (ow_A G ad) M s s.heap H locs → lv_has ls 3 [(0, .ref (ad o0)), (1, .int x1), (2, .int x2)] → W p l e rm_D_pair s m ([.ref (ad o0), .int x1, .int x2] : List Value).toArray below meth c H locs 0 0 (xw_MQ below (xw_Q G D cA ad (xw_ri Q) X) ([.ref (ad o0), .int x1, .int x2] : List Value).toArray s 1 6 (ow_A G ad)) (F0 m 21 ls [.int t0]) := by
    intro   M t0 H locs ls h hB hl
    refine xw_callS (As := [.int t0]) (rest := []) (maxL := 1) (mc := 1) (ms := 6) hx hb hown hts (ct_D_needElement l hfl G hG D cA ad F _ _ _ _ h) (ow_wsin mw_450) (xw_cd_of (hts _ mw_450)) mw_1 mw_448 mw_449 hd_D_needElement rfl rfl (Nat.le_of_ble_eq_true rfl) (Nat.le_of_ble_eq_true rfl) hB (xw_pre hB hZ) (hl.1.trans hml.symm) (Nat.le_of_ble_eq_true rfl) rfl dc_D_pair_21 (Nat.le_of_ble_eq_true rfl) (Nat.le_of_ble_eq_true rfl) (fun q k M1 H locs ce hX hce hv hcl hB => xw_widen (k := 1) (n := 6) (by decide) (by decide) (xw_out hno hlocks hB hX hce hv hcl)) (fun v M1 H locs h hB => ?_)
    obtain ⟨rfl, h⟩ := h
    refine lv_aload_n hx hb dc_D_pair_24 rfl (lv_at hl 0 rfl) ?_
    refine ow_get hx hb hts iw_D hown hB k0 rfl 0 (by decide) mw_229 rfl dc_D_pair_25 ?_
    refine ow_get hx hb hts iw_P hown hB (ly_D_poll hG k0) rfl 4 (by decide) mw_58 rfl dc_D_pair_28 ?_
    refine lv_iload_n hx hb dc_D_pair_31 rfl (lv_at hl 1 rfl) ?_
    obtain ⟨hi2, h⟩ := h
    refine ow_aald hx hb hB (ly_P_ahead hG (ly_D_poll hG k0)) (by decide) hi2 dc_D_pair_32 ?_
    refine lv_iload_n hx hb dc_D_pair_33 rfl (lv_at hl 2 rfl) ?_
    obtain ⟨hi3, h⟩ := h
    refine ow_iald hx hb hB (ly_row2 hG (ly_P_ahead hG (ly_D_poll hG k0)) hi2) hi3 dc_D_pair_34 ?_
    exact xw_iret hx hb hr hlocks hB h dc_D_pair_35
  have L20 : ∀   (M : om_M)   (H : Heap) (locs : List Loc) (ls : Array Slot), wp_D_pair_20 F o0 x1 x2 Q X   M   → ow_B G D cA ad (ow_A G ad) M s s.heap H locs → lv_has ls 3 [(0, .ref (ad o0)), (1, .int x1), (2, .int x2)] → W p l e rm_D_pair s m ([.ref (ad o0), .int x1, .int x2] : List Value).toArray below meth c H locs 0 0 (xw_MQ below (xw_Q G D cA ad (xw_ri Q) X) ([.ref (ad o0), .int x1, .int x2] : List Value).toArray s 1 6 (ow_A G ad)) (F0 m 20 ls []) := by
    intro   M H locs ls h hB hl
    refine lv_iconst (v := 0) hx hb dc_D_pair_20 rfl ?_
    exact L21 _ _ _ _ _ h hB (lv_sub hl [0, 1, 2] rfl)
  have hl := lv_entry ([.ref (ad o0), .int x1, .int x2]) (n := 3) (Nat.le_of_ble_eq_true rfl)
  rw [lg_entry_eq]
  generalize (lg_sl ([.ref (ad o0), .int x1, .int x2]) ++ List.replicate (3 - (lg_sl ([.ref (ad o0), .int x1, .int x2])).length) Slot.unset).toArray = ls at hl ⊢
  have hl : lv_has ls 3 [(0, .ref (ad o0)), (1, .int x1), (2, .int x2)] := hl
  show W p l e rm_D_pair s m _ below meth c s.heap [] 0 0 _ _
  refine lv_aload_n hx hb dc_D_pair_0 rfl (lv_at hl 0 rfl) ?_
  refine lv_iload_n hx hb dc_D_pair_1 rfl (lv_at hl 1 rfl) ?_
  refine ow_calli (va_runV (As := [.int x1]) (rest := []) ⟨hx, hb, hml, hown, hts⟩ (ct_D_isCandidate l G hG D cA ad F _ k0 _ _ _ h) ⟨ow_cb 1 hts mw_627 mw_1 mw_624 rfl rfl hd_D_isCandidate ⟨Nat.le_of_ble_eq_true rfl, Nat.le_of_ble_eq_true rfl⟩, hts _ mw_626, hts _ ms_15⟩ (ow_preV hB k0 rfl) rfl rfl hl.1 rfl (lv_room (Nat.le_of_ble_eq_true rfl)) dc_D_pair_2 ⟨Nat.le_of_ble_eq_true rfl, Nat.le_of_ble_eq_true rfl⟩) hB (fun r5 M4 H locs h hB => ?_)
  obtain ⟨h1, h2⟩ := h
  refine lv_if_eq hx hb dc_D_pair_5 rfl (fun hc => ?_) (fun hc => ?_)
  · have h := h1 hc
    exact L20 _ _ _ _ h hB (lv_sub hl [0, 1, 2] rfl)
  · have h := h2 hc
    refine lv_aload_n hx hb dc_D_pair_8 rfl (lv_at hl 0 rfl) ?_
    refine lv_iload_n hx hb dc_D_pair_9 rfl (lv_at hl 2 rfl) ?_
    refine ow_calli (va_runV (As := [.int x2]) (rest := []) ⟨hx, hb, hml, hown, hts⟩ (ct_D_isCandidate l G hG D cA ad F _ k0 _ _ _ h) ⟨ow_cb 1 hts mw_627 mw_1 mw_624 rfl rfl hd_D_isCandidate ⟨Nat.le_of_ble_eq_true rfl, Nat.le_of_ble_eq_true rfl⟩, hts _ mw_626, hts _ ms_15⟩ (ow_preV hB k0 rfl) rfl rfl hl.1 rfl (lv_room (Nat.le_of_ble_eq_true rfl)) dc_D_pair_10 ⟨Nat.le_of_ble_eq_true rfl, Nat.le_of_ble_eq_true rfl⟩) hB (fun r7 M6 H locs h hB => ?_)
    obtain ⟨h1, h2⟩ := h
    refine lv_if_eq hx hb dc_D_pair_13 rfl (fun hc => ?_) (fun hc => ?_)
    · have h := h1 hc
      exact L20 _ _ _ _ h hB (lv_sub hl [0, 1, 2] rfl)
    · have h := h2 hc
      refine lv_iconst (v := 1) hx hb dc_D_pair_16 rfl ?_
      refine lv_goto hx hb dc_D_pair_17 rfl ?_
      exact L21 _ _ _ _ _ h hB (lv_sub hl [0, 1, 2] rfl)
abbrev rm_D_path : Room := { frames := 7, cells := 1, slots := 6, locals := 120 }
theorem hd_D_path : yn_D_path.cls ≠ "java/lang/invoke/MethodHandle" ∧ yn_D_path.cls ≠ "java/lang/invoke/VarHandle" ∧ (parseMethodDescriptor yn_D_path.desc).map (fun d => d.parameters.length) = some 2 := by decide +kernel
set_option maxHeartbeats 4000000 in
set_option maxRecDepth 100000 in
theorem ct_D_path (l : Launch) (hfl : l.flags = Jvm.pinnedFlags ++ [Jvm.noTraceFlag]) (G : List (Nat × Nat)) (hG : ow_lay G) (D : va_G) (cA : Nat → ClassId) (ad : Nat → Nat) (F : Nat) (o0 : Nat) (k0 : ow_kd G o0 = (3, 0)) (x1 : Int32) (x2 : Int32) (M : om_M) (Q : Int32 → om_M → Prop) (X : Nat → om_M → Prop) (h : wp_D_path F o0 x1 x2 M Q X) : xw_Met l yn_D_path (ow_ws yn_D_path cb_D_path 3 (some .int)) rm_D_path (xw_Pc G D cA ad M [.ref (ad o0), .int x1, .int x2]) (xw_Q G D cA ad (xw_ri Q) X) 1 6 (ow_A G ad) := by
  refine xw_ofW (cc := cb_D_path) (maxL := 3) (ret := (some .int)) (by decide) rfl ?_
  intro p e s m args below meth c s₁ B hml hno hv
  obtain ⟨rfl, hB, hZ⟩ := hv
  have htr := Launch.traces_off hfl B.admits
  have hx := B.exec
  have hb := B.bytes
  have hr := B.returns
  have hlocks := B.notSynchronized
  have hts : ∀ w ∈ lw_g, w.before ([.ref (ad o0), .int x1, .int x2] : List Value).toArray s = true := fun w h => atoms_spec (ws := ow_ws yn_D_path cb_D_path 3 (some .int)) B.pre w (List.mem_cons_of_mem _ h)
  have hown : s.vm.findClass "BallotDesk" = some m.cls := findClass_of_methodNamed B.named
  clear B
  have L21 : ∀   (M : om_M)  (t0 : Int32) (H : Heap) (locs : List Loc) (ls : Array Slot), wp_D_path_21 F o0 x1 x2 Q X   M  t0 → ow_B G D cA ad (ow_A G ad) M s s.heap H locs → lv_has ls 3 [(0, .ref (ad o0)), (1, .int x1), (2, .int x2)] → W p l e rm_D_path s m ([.ref (ad o0), .int x1, .int x2] : List Value).toArray below meth c H locs 0 0 (xw_MQ below (xw_Q G D cA ad (xw_ri Q) X) ([.ref (ad o0), .int x1, .int x2] : List Value).toArray s 1 6 (ow_A G ad)) (F0 m 21 ls [.int t0]) := by
    intro   M t0 H locs ls h hB hl
    refine xw_callS (As := [.int t0]) (rest := []) (maxL := 1) (mc := 1) (ms := 6) hx hb hown hts (ct_D_needElement l hfl G hG D cA ad F _ _ _ _ h) (ow_wsin mw_450) (xw_cd_of (hts _ mw_450)) mw_1 mw_448 mw_449 hd_D_needElement rfl rfl (Nat.le_of_ble_eq_true rfl) (Nat.le_of_ble_eq_true rfl) hB (xw_pre hB hZ) (hl.1.trans hml.symm) (Nat.le_of_ble_eq_true rfl) rfl dc_D_path_21 (Nat.le_of_ble_eq_true rfl) (Nat.le_of_ble_eq_true rfl) (fun q k M1 H locs ce hX hce hv hcl hB => xw_widen (k := 1) (n := 6) (by decide) (by decide) (xw_out hno hlocks hB hX hce hv hcl)) (fun v M1 H locs h hB => ?_)
    obtain ⟨rfl, h⟩ := h
    refine lv_aload_n hx hb dc_D_path_24 rfl (lv_at hl 0 rfl) ?_
    refine ow_get hx hb hts iw_D hown hB k0 rfl 1 (by decide) mw_230 rfl dc_D_path_25 ?_
    refine ow_get hx hb hts iw_R hown hB (ly_D_rules hG k0) rfl 1 (by decide) mw_183 rfl dc_D_path_28 ?_
    refine lv_aload_n hx hb dc_D_path_31 rfl (lv_at hl 0 rfl) ?_
    refine ow_get hx hb hts iw_D hown hB k0 rfl 0 (by decide) mw_229 rfl dc_D_path_32 ?_
    refine ow_callv (va_runV (As := [.ref (ad (o0 + 1))]) (rest := []) ⟨hx, hb, hml, hown, hts⟩ (ct_H_measure l G hG D cA ad F _ (ly_R_paths hG (ly_D_rules hG k0)) _ (ly_D_poll hG k0) _ _ h) ⟨ow_cb 1 hts mw_538 mw_8 mw_646 rfl rfl hd_H_measure ⟨Nat.le_of_ble_eq_true rfl, Nat.le_of_ble_eq_true rfl⟩, hts _ mw_536, hts _ mw_537⟩ (ow_preV hB (ly_R_paths hG (ly_D_rules hG k0)) rfl) rfl rfl hl.1 rfl (lv_room (Nat.le_of_ble_eq_true rfl)) dc_D_path_35 ⟨Nat.le_of_ble_eq_true rfl, Nat.le_of_ble_eq_true rfl⟩) hB (fun M2 H locs h hB => ?_)
    refine lv_aload_n hx hb dc_D_path_38 rfl (lv_at hl 0 rfl) ?_
    refine ow_get hx hb hts iw_D hown hB k0 rfl 1 (by decide) mw_230 rfl dc_D_path_39 ?_
    refine ow_get hx hb hts iw_R hown hB (ly_D_rules hG k0) rfl 1 (by decide) mw_183 rfl dc_D_path_42 ?_
    refine ow_get hx hb hts iw_H hown hB (ly_R_paths hG (ly_D_rules hG k0)) rfl 0 (by decide) mw_146 rfl dc_D_path_45 ?_
    refine lv_iload_n hx hb dc_D_path_48 rfl (lv_at hl 1 rfl) ?_
    obtain ⟨hi3, h⟩ := h
    refine ow_aald hx hb hB (ly_H_strength hG (ly_R_paths hG (ly_D_rules hG k0))) (by decide) hi3 dc_D_path_49 ?_
    refine lv_iload_n hx hb dc_D_path_50 rfl (lv_at hl 2 rfl) ?_
    obtain ⟨hi4, h⟩ := h
    refine ow_iald hx hb hB (ly_row2 hG (ly_H_strength hG (ly_R_paths hG (ly_D_rules hG k0))) hi3) hi4 dc_D_path_51 ?_
    exact xw_iret hx hb hr hlocks hB h dc_D_path_52
  have L20 : ∀   (M : om_M)   (H : Heap) (locs : List Loc) (ls : Array Slot), wp_D_path_20 F o0 x1 x2 Q X   M   → ow_B G D cA ad (ow_A G ad) M s s.heap H locs → lv_has ls 3 [(0, .ref (ad o0)), (1, .int x1), (2, .int x2)] → W p l e rm_D_path s m ([.ref (ad o0), .int x1, .int x2] : List Value).toArray below meth c H locs 0 0 (xw_MQ below (xw_Q G D cA ad (xw_ri Q) X) ([.ref (ad o0), .int x1, .int x2] : List Value).toArray s 1 6 (ow_A G ad)) (F0 m 20 ls []) := by
    intro   M H locs ls h hB hl
    refine lv_iconst (v := 0) hx hb dc_D_path_20 rfl ?_
    exact L21 _ _ _ _ _ h hB (lv_sub hl [0, 1, 2] rfl)
  have hl := lv_entry ([.ref (ad o0), .int x1, .int x2]) (n := 3) (Nat.le_of_ble_eq_true rfl)
  rw [lg_entry_eq]
  generalize (lg_sl ([.ref (ad o0), .int x1, .int x2]) ++ List.replicate (3 - (lg_sl ([.ref (ad o0), .int x1, .int x2])).length) Slot.unset).toArray = ls at hl ⊢
  have hl : lv_has ls 3 [(0, .ref (ad o0)), (1, .int x1), (2, .int x2)] := hl
  show W p l e rm_D_path s m _ below meth c s.heap [] 0 0 _ _
  refine lv_aload_n hx hb dc_D_path_0 rfl (lv_at hl 0 rfl) ?_
  refine lv_iload_n hx hb dc_D_path_1 rfl (lv_at hl 1 rfl) ?_
  refine ow_calli (va_runV (As := [.int x1]) (rest := []) ⟨hx, hb, hml, hown, hts⟩ (ct_D_isCandidate l G hG D cA ad F _ k0 _ _ _ h) ⟨ow_cb 1 hts mw_627 mw_1 mw_624 rfl rfl hd_D_isCandidate ⟨Nat.le_of_ble_eq_true rfl, Nat.le_of_ble_eq_true rfl⟩, hts _ mw_626, hts _ ms_15⟩ (ow_preV hB k0 rfl) rfl rfl hl.1 rfl (lv_room (Nat.le_of_ble_eq_true rfl)) dc_D_path_2 ⟨Nat.le_of_ble_eq_true rfl, Nat.le_of_ble_eq_true rfl⟩) hB (fun r6 M5 H locs h hB => ?_)
  obtain ⟨h1, h2⟩ := h
  refine lv_if_eq hx hb dc_D_path_5 rfl (fun hc => ?_) (fun hc => ?_)
  · have h := h1 hc
    exact L20 _ _ _ _ h hB (lv_sub hl [0, 1, 2] rfl)
  · have h := h2 hc
    refine lv_aload_n hx hb dc_D_path_8 rfl (lv_at hl 0 rfl) ?_
    refine lv_iload_n hx hb dc_D_path_9 rfl (lv_at hl 2 rfl) ?_
    refine ow_calli (va_runV (As := [.int x2]) (rest := []) ⟨hx, hb, hml, hown, hts⟩ (ct_D_isCandidate l G hG D cA ad F _ k0 _ _ _ h) ⟨ow_cb 1 hts mw_627 mw_1 mw_624 rfl rfl hd_D_isCandidate ⟨Nat.le_of_ble_eq_true rfl, Nat.le_of_ble_eq_true rfl⟩, hts _ mw_626, hts _ ms_15⟩ (ow_preV hB k0 rfl) rfl rfl hl.1 rfl (lv_room (Nat.le_of_ble_eq_true rfl)) dc_D_path_10 ⟨Nat.le_of_ble_eq_true rfl, Nat.le_of_ble_eq_true rfl⟩) hB (fun r8 M7 H locs h hB => ?_)
    obtain ⟨h1, h2⟩ := h
    refine lv_if_eq hx hb dc_D_path_13 rfl (fun hc => ?_) (fun hc => ?_)
    · have h := h1 hc
      exact L20 _ _ _ _ h hB (lv_sub hl [0, 1, 2] rfl)
    · have h := h2 hc
      refine lv_iconst (v := 1) hx hb dc_D_path_16 rfl ?_
      refine lv_goto hx hb dc_D_path_17 rfl ?_
      exact L21 _ _ _ _ _ h hB (lv_sub hl [0, 1, 2] rfl)
abbrev rm_D_step : Room := { frames := 7, cells := 1, slots := 6, locals := 120 }
theorem hd_D_step : yn_D_step.cls ≠ "java/lang/invoke/MethodHandle" ∧ yn_D_step.cls ≠ "java/lang/invoke/VarHandle" ∧ (parseMethodDescriptor yn_D_step.desc).map (fun d => d.parameters.length) = some 1 := by decide +kernel
set_option maxHeartbeats 4000000 in
set_option maxRecDepth 100000 in
theorem ct_D_step (l : Launch) (hfl : l.flags = Jvm.pinnedFlags ++ [Jvm.noTraceFlag]) (G : List (Nat × Nat)) (hG : ow_lay G) (D : va_G) (cA : Nat → ClassId) (ad : Nat → Nat) (F : Nat) (o0 : Nat) (k0 : ow_kd G o0 = (3, 0)) (x1 : Int32) (M : om_M) (Q : Int32 → om_M → Prop) (X : Nat → om_M → Prop) (h : wp_D_step F o0 x1 M Q X) : xw_Met l yn_D_step (ow_ws yn_D_step cb_D_step 2 (some .int)) rm_D_step (xw_Pc G D cA ad M [.ref (ad o0), .int x1]) (xw_Q G D cA ad (xw_ri Q) X) 1 6 (ow_A G ad) := by
  refine xw_ofW (cc := cb_D_step) (maxL := 2) (ret := (some .int)) (by decide) rfl ?_
  intro p e s m args below meth c s₁ B hml hno hv
  obtain ⟨rfl, hB, hZ⟩ := hv
  have htr := Launch.traces_off hfl B.admits
  have hx := B.exec
  have hb := B.bytes
  have hr := B.returns
  have hlocks := B.notSynchronized
  have hts : ∀ w ∈ lw_g, w.before ([.ref (ad o0), .int x1] : List Value).toArray s = true := fun w h => atoms_spec (ws := ow_ws yn_D_step cb_D_step 2 (some .int)) B.pre w (List.mem_cons_of_mem _ h)
  have hown : s.vm.findClass "BallotDesk" = some m.cls := findClass_of_methodNamed B.named
  clear B
  have L20 : ∀   (M : om_M)  (t0 : Int32) (H : Heap) (locs : List Loc) (ls : Array Slot), wp_D_step_20 F o0 x1 Q X   M  t0 → ow_B G D cA ad (ow_A G ad) M s s.heap H locs → lv_has ls 2 [(0, .ref (ad o0)), (1, .int x1)] → W p l e rm_D_step s m ([.ref (ad o0), .int x1] : List Value).toArray below meth c H locs 0 0 (xw_MQ below (xw_Q G D cA ad (xw_ri Q) X) ([.ref (ad o0), .int x1] : List Value).toArray s 1 6 (ow_A G ad)) (F0 m 20 ls [.int t0]) := by
    intro   M t0 H locs ls h hB hl
    refine xw_callS (As := [.int t0]) (rest := []) (maxL := 1) (mc := 1) (ms := 6) hx hb hown hts (ct_D_needElement l hfl G hG D cA ad F _ _ _ _ h) (ow_wsin mw_450) (xw_cd_of (hts _ mw_450)) mw_1 mw_448 mw_449 hd_D_needElement rfl rfl (Nat.le_of_ble_eq_true rfl) (Nat.le_of_ble_eq_true rfl) hB (xw_pre hB hZ) (hl.1.trans hml.symm) (Nat.le_of_ble_eq_true rfl) rfl dc_D_step_20 (Nat.le_of_ble_eq_true rfl) (Nat.le_of_ble_eq_true rfl) (fun q k M1 H locs ce hX hce hv hcl hB => xw_widen (k := 1) (n := 6) (by decide) (by decide) (xw_out hno hlocks hB hX hce hv hcl)) (fun v M1 H locs h hB => ?_)
    obtain ⟨rfl, h⟩ := h
    refine lv_aload_n hx hb dc_D_step_23 rfl (lv_at hl 0 rfl) ?_
    refine ow_get hx hb hts iw_D hown hB k0 rfl 1 (by decide) mw_230 rfl dc_D_step_24 ?_
    refine ow_get hx hb hts iw_R hown hB (ly_D_rules hG k0) rfl 0 (by decide) mw_181 rfl dc_D_step_27 ?_
    refine lv_aload_n hx hb dc_D_step_30 rfl (lv_at hl 0 rfl) ?_
    refine ow_get hx hb hts iw_D hown hB k0 rfl 0 (by decide) mw_229 rfl dc_D_step_31 ?_
    refine lv_iload_n hx hb dc_D_step_34 rfl (lv_at hl 1 rfl) ?_
    refine ow_calli (va_runV (As := [.ref (ad (o0 + 1)), .int x1]) (rest := []) ⟨hx, hb, hml, hown, hts⟩ (ct_E_goerAt l G hG D cA ad F _ (ly_R_elimination hG (ly_D_rules hG k0)) _ (ly_D_poll hG k0) _ _ _ h) ⟨ow_cb 2 hts mw_657 mw_7 mw_654 rfl rfl hd_E_goerAt ⟨Nat.le_of_ble_eq_true rfl, Nat.le_of_ble_eq_true rfl⟩, hts _ mw_655, hts _ mw_656⟩ (ow_preV hB (ly_R_elimination hG (ly_D_rules hG k0)) rfl) rfl rfl hl.1 rfl (lv_room (Nat.le_of_ble_eq_true rfl)) dc_D_step_35 ⟨Nat.le_of_ble_eq_true rfl, Nat.le_of_ble_eq_true rfl⟩) hB (fun r3 M2 H locs h hB => ?_)
    exact xw_iret hx hb hr hlocks hB h dc_D_step_38
  have L19 : ∀   (M : om_M)   (H : Heap) (locs : List Loc) (ls : Array Slot), wp_D_step_19 F o0 x1 Q X   M   → ow_B G D cA ad (ow_A G ad) M s s.heap H locs → lv_has ls 2 [(0, .ref (ad o0)), (1, .int x1)] → W p l e rm_D_step s m ([.ref (ad o0), .int x1] : List Value).toArray below meth c H locs 0 0 (xw_MQ below (xw_Q G D cA ad (xw_ri Q) X) ([.ref (ad o0), .int x1] : List Value).toArray s 1 6 (ow_A G ad)) (F0 m 19 ls []) := by
    intro   M H locs ls h hB hl
    refine lv_iconst (v := 0) hx hb dc_D_step_19 rfl ?_
    exact L20 _ _ _ _ _ h hB (lv_sub hl [0, 1] rfl)
  have hl := lv_entry ([.ref (ad o0), .int x1]) (n := 2) (Nat.le_of_ble_eq_true rfl)
  rw [lg_entry_eq]
  generalize (lg_sl ([.ref (ad o0), .int x1]) ++ List.replicate (2 - (lg_sl ([.ref (ad o0), .int x1])).length) Slot.unset).toArray = ls at hl ⊢
  have hl : lv_has ls 2 [(0, .ref (ad o0)), (1, .int x1)] := hl
  show W p l e rm_D_step s m _ below meth c s.heap [] 0 0 _ _
  refine lv_iload_n hx hb dc_D_step_0 rfl (lv_at hl 1 rfl) ?_
  obtain ⟨h1, h2⟩ := h
  refine lv_if_lt hx hb dc_D_step_1 rfl (fun hc => ?_) (fun hc => ?_)
  · have h := h1 hc
    exact L19 _ _ _ _ h hB (lv_sub hl [0, 1] rfl)
  · have h := h2 hc
    refine lv_iload_n hx hb dc_D_step_4 rfl (lv_at hl 1 rfl) ?_
    refine lv_aload_n hx hb dc_D_step_5 rfl (lv_at hl 0 rfl) ?_
    refine ow_get hx hb hts iw_D hown hB k0 rfl 0 (by decide) mw_229 rfl dc_D_step_6 ?_
    refine ow_get hx hb hts iw_P hown hB (ly_D_poll hG k0) rfl 5 (by decide) mw_63 rfl dc_D_step_9 ?_
    obtain ⟨h1, h2⟩ := h
    refine lv_icmp_ge hx hb dc_D_step_12 rfl (fun hc => ?_) (fun hc => ?_)
    · have h := h1 hc
      exact L19 _ _ _ _ h hB (lv_sub hl [0, 1] rfl)
    · have h := h2 hc
      refine lv_iconst (v := 1) hx hb dc_D_step_15 rfl ?_
      refine lv_goto hx hb dc_D_step_16 rfl ?_
      exact L20 _ _ _ _ _ h hB (lv_sub hl [0, 1] rfl)
