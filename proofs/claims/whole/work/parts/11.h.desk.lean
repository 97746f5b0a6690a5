def wp_D_branches (F : Nat) (o0 : Nat) (M : om_M) (Q : Int32 → om_M → Prop) : Prop := wp_E_setsThatCanBeLeft F (o0 + 22 + 1) (o0 + 1) M (fun r2 M1 => Q r2 M1)
def wp_D_disagreement (F : Nat) (o0 : Nat) (M : om_M) (Q : Int64 → om_M → Prop) : Prop := wp_A_leastOfAll F (o0 + 22 + 16) (o0 + 1) M (fun r2 M1 => Q r2 M1)
def wp_D_agreed (F : Nat) (o0 : Nat) (M : om_M) (Q : Int32 → om_M → Prop) : Prop := wp_A_bestOrder F (o0 + 22 + 16) (o0 + 1) M (fun r2 M1 => Q r2 M1)
def wp_D_changed (F : Nat) (o0 : Nat) (M : om_M) (Q : Int32 → om_M → Prop) : Prop := Q (M.1 o0 3) M
def wp_D_witness (F : Nat) (o0 : Nat) (M : om_M) (Q : Int32 → om_M → Prop) : Prop := Q (M.1 o0 4) M
def wp_D_isCandidate_19 (F : Nat) (o0 : Nat) (x1 : Int32) (Q : Int32 → om_M → Prop)   (M : om_M)   : Prop := Q 0 M
def wp_D_isCandidate (F : Nat) (o0 : Nat) (x1 : Int32) (M : om_M) (Q : Int32 → om_M → Prop) : Prop := ((x1 < 0 → wp_D_isCandidate_19 F o0 x1 Q M) ∧ (¬ x1 < 0 → (((M.1 (o0 + 1) 5) ≤ x1 → wp_D_isCandidate_19 F o0 x1 Q M) ∧ (¬ (M.1 (o0 + 1) 5) ≤ x1 → Q 1 M))))
def wp_D_isType_19 (F : Nat) (o0 : Nat) (x1 : Int32) (Q : Int32 → om_M → Prop)   (M : om_M)   : Prop := Q 0 M
def wp_D_isType (F : Nat) (o0 : Nat) (x1 : Int32) (M : om_M) (Q : Int32 → om_M → Prop) : Prop := ((x1 < 0 → wp_D_isType_19 F o0 x1 Q M) ∧ (¬ x1 < 0 → (((M.1 (o0 + 1) 6) ≤ x1 → wp_D_isType_19 F o0 x1 Q M) ∧ (¬ (M.1 (o0 + 1) 6) ≤ x1 → Q 1 M))))
def wp_D_isRule_14 (F : Nat) (x0 : Int32) (Q : Int32 → om_M → Prop)   (M : om_M)   : Prop := Q 0 M
def wp_D_isRule (F : Nat) (x0 : Int32) (M : om_M) (Q : Int32 → om_M → Prop) : Prop := ((x0 < 0 → wp_D_isRule_14 F x0 Q M) ∧ (¬ x0 < 0 → ((12 ≤ x0 → wp_D_isRule_14 F x0 Q M) ∧ (¬ 12 ≤ x0 → Q 1 M))))
def wp_D_isAmount_14 (F : Nat) (x0 : Int32) (Q : Int32 → om_M → Prop)   (M : om_M)   : Prop := Q 0 M
def wp_D_isAmount (F : Nat) (x0 : Int32) (M : om_M) (Q : Int32 → om_M → Prop) : Prop := ((x0 < 0 → wp_D_isAmount_14 F x0 Q M) ∧ (¬ x0 < 0 → ((100000 < x0 → wp_D_isAmount_14 F x0 Q M) ∧ (¬ 100000 < x0 → Q 1 M))))
abbrev rm_D_branches : Room := { frames := 4, cells := 0, slots := 0, locals := 99 }
theorem hd_D_branches : yn_D_branches.cls ≠ "java/lang/invoke/MethodHandle" ∧ yn_D_branches.cls ≠ "java/lang/invoke/VarHandle" ∧ (parseMethodDescriptor yn_D_branches.desc).map (fun d => d.parameters.length) = some 0 := by decide +kernel
set_option maxHeartbeats 4000000 in
set_option maxRecDepth 100000 in
theorem ct_D_branches (l : Launch) (G : List (Nat × Nat)) (hG : ow_lay G) (D : va_G) (cA : Nat → ClassId) (ad : Nat → Nat) (F : Nat) (o0 : Nat) (k0 : ow_kd G o0 = (3, 0)) (M : om_M) (Q : Int32 → om_M → Prop) (h : wp_D_branches F o0 M Q) : Met l yn_D_branches (ow_ws yn_D_branches cb_D_branches 1 (some .int)) rm_D_branches (ow_Pc G D cA ad M [.ref (ad o0)]) (ow_Qi G D cA ad Q) 0 0 (ow_A G ad) := by
  refine Met.ofW (cc := cb_D_branches) (maxL := 1) (ret := (some .int)) (by decide) rfl ?_
  intro p e s m args below meth c s₁ B hml hv
  obtain ⟨rfl, hB⟩ := hv
  have hx := B.exec
  have hb := B.bytes
  have hr := B.returns
  have hlocks := B.notSynchronized
  have hts : ∀ w ∈ lw_g, w.before ([.ref (ad o0)] : List Value).toArray s = true := fun w h => atoms_spec (ws := ow_ws yn_D_branches cb_D_branches 1 (some .int)) B.pre w (List.mem_cons_of_mem _ h)
  have hown : s.vm.findClass "BallotDesk" = some m.cls := findClass_of_methodNamed B.named
  clear B
  have hl := lv_entry ([.ref (ad o0)]) (n := 1) (Nat.le_of_ble_eq_true rfl)
  rw [lg_entry_eq]
  generalize (lg_sl ([.ref (ad o0)]) ++ List.replicate (1 - (lg_sl ([.ref (ad o0)])).length) Slot.unset).toArray = ls at hl ⊢
  have hl : lv_has ls 1 [(0, .ref (ad o0))] := hl
  show W p l e rm_D_branches s m _ below meth c s.heap [] 0 0 _ _
  refine lv_aload_n hx hb dc_D_branches_0 rfl (lv_at hl 0 rfl) ?_
  refine ow_get hx hb hts iw_D hown hB k0 rfl 1 (by decide) mw_230 rfl dc_D_branches_1 ?_
  refine ow_get hx hb hts iw_R hown hB (ly_D_rules hG k0) rfl 0 (by decide) mw_181 rfl dc_D_branches_4 ?_
  refine lv_aload_n hx hb dc_D_branches_7 rfl (lv_at hl 0 rfl) ?_
  refine ow_get hx hb hts iw_D hown hB k0 rfl 0 (by decide) mw_229 rfl dc_D_branches_8 ?_
  refine ow_calli (va_runV (As := [.ref (ad (o0 + 1))]) (rest := []) ⟨hx, hb, hml, hown, hts⟩ (ct_E_setsThatCanBeLeft l G hG D cA ad F _ (ly_R_elimination hG (ly_D_rules hG k0)) _ (ly_D_poll hG k0) _ _ h) ⟨ow_cb 1 hts mw_252 mw_7 mw_249 rfl rfl hd_E_setsThatCanBeLeft ⟨Nat.le_of_ble_eq_true rfl, Nat.le_of_ble_eq_true rfl⟩, hts _ mw_250, hts _ mw_251⟩ (ow_preV hB (ly_R_elimination hG (ly_D_rules hG k0)) rfl) rfl rfl hl.1 rfl (lv_room (Nat.le_of_ble_eq_true rfl)) dc_D_branches_11 ⟨Nat.zero_le _, Nat.zero_le _⟩) hB (fun r2 M1 H locs h hB => ?_)
  exact ow_iret hx hb hr hlocks hB h dc_D_branches_14
abbrev rm_D_disagreement : Room := { frames := 3, cells := 0, slots := 0, locals := 74 }
theorem hd_D_disagreement : yn_D_disagreement.cls ≠ "java/lang/invoke/MethodHandle" ∧ yn_D_disagreement.cls ≠ "java/lang/invoke/VarHandle" ∧ (parseMethodDescriptor yn_D_disagreement.desc).map (fun d => d.parameters.length) = some 0 := by decide +kernel
set_option maxHeartbeats 4000000 in
set_option maxRecDepth 100000 in
theorem ct_D_disagreement (l : Launch) (G : List (Nat × Nat)) (hG : ow_lay G) (D : va_G) (cA : Nat → ClassId) (ad : Nat → Nat) (F : Nat) (o0 : Nat) (k0 : ow_kd G o0 = (3, 0)) (M : om_M) (Q : Int64 → om_M → Prop) (h : wp_D_disagreement F o0 M Q) : Met l yn_D_disagreement (ow_ws yn_D_disagreement cb_D_disagreement 1 (some .long)) rm_D_disagreement (ow_Pc G D cA ad M [.ref (ad o0)]) (ow_Ql G D cA ad Q) 0 0 (ow_A G ad) := by
  refine Met.ofW (cc := cb_D_disagreement) (maxL := 1) (ret := (some .long)) (by decide) rfl ?_
  intro p e s m args below meth c s₁ B hml hv
  obtain ⟨rfl, hB⟩ := hv
  have hx := B.exec
  have hb := B.bytes
  have hr := B.returns
  have hlocks := B.notSynchronized
  have hts : ∀ w ∈ lw_g, w.before ([.ref (ad o0)] : List Value).toArray s = true := fun w h => atoms_spec (ws := ow_ws yn_D_disagreement cb_D_disagreement 1 (some .long)) B.pre w (List.mem_cons_of_mem _ h)
  have hown : s.vm.findClass "BallotDesk" = some m.cls := findClass_of_methodNamed B.named
  clear B
  have hl := lv_entry ([.ref (ad o0)]) (n := 1) (Nat.le_of_ble_eq_true rfl)
  rw [lg_entry_eq]
  generalize (lg_sl ([.ref (ad o0)]) ++ List.replicate (1 - (lg_sl ([.ref (ad o0)])).length) Slot.unset).toArray = ls at hl ⊢
  have hl : lv_has ls 1 [(0, .ref (ad o0))] := hl
  show W p l e rm_D_disagreement s m _ below meth c s.heap [] 0 0 _ _
  refine lv_aload_n hx hb dc_D_disagreement_0 rfl (lv_at hl 0 rfl) ?_
  refine ow_get hx hb hts iw_D hown hB k0 rfl 1 (by decide) mw_230 rfl dc_D_disagreement_1 ?_
  refine ow_get hx hb hts iw_R hown hB (ly_D_rules hG k0) rfl 3 (by decide) mw_186 rfl dc_D_disagreement_4 ?_
  refine lv_aload_n hx hb dc_D_disagreement_7 rfl (lv_at hl 0 rfl) ?_
  refine ow_get hx hb hts iw_D hown hB k0 rfl 0 (by decide) mw_229 rfl dc_D_disagreement_8 ?_
  refine ow_calll (va_runV (As := [.ref (ad (o0 + 1))]) (rest := []) ⟨hx, hb, hml, hown, hts⟩ (ct_A_leastOfAll l G hG D cA ad F _ (ly_R_agreement hG (ly_D_rules hG k0)) _ (ly_D_poll hG k0) _ _ h) ⟨ow_cb 1 hts mw_282 mw_10 mw_279 rfl rfl hd_A_leastOfAll ⟨Nat.le_of_ble_eq_true rfl, Nat.le_of_ble_eq_true rfl⟩, hts _ mw_280, hts _ mw_281⟩ (ow_preV hB (ly_R_agreement hG (ly_D_rules hG k0)) rfl) rfl rfl hl.1 rfl (lv_room (Nat.le_of_ble_eq_true rfl)) dc_D_disagreement_11 ⟨Nat.zero_le _, Nat.zero_le _⟩) hB (fun r2 M1 H locs h hB => ?_)
  exact ow_lret hx hb hr hlocks hB h dc_D_disagreement_14
abbrev rm_D_agreed : Room := { frames := 3, cells := 0, slots := 0, locals := 78 }
theorem hd_D_agreed : yn_D_agreed.cls ≠ "java/lang/invoke/MethodHandle" ∧ yn_D_agreed.cls ≠ "java/lang/invoke/VarHandle" ∧ (parseMethodDescriptor yn_D_agreed.desc).map (fun d => d.parameters.length) = some 0 := by decide +kernel
set_option maxHeartbeats 4000000 in
set_option maxRecDepth 100000 in
theorem ct_D_agreed (l : Launch) (G : List (Nat × Nat)) (hG : ow_lay G) (D : va_G) (cA : Nat → ClassId) (ad : Nat → Nat) (F : Nat) (o0 : Nat) (k0 : ow_kd G o0 = (3, 0)) (M : om_M) (Q : Int32 → om_M → Prop) (h : wp_D_agreed F o0 M Q) : Met l yn_D_agreed (ow_ws yn_D_agreed cb_D_agreed 1 (some .int)) rm_D_agreed (ow_Pc G D cA ad M [.ref (ad o0)]) (ow_Qi G D cA ad Q) 0 0 (ow_A G ad) := by
  refine Met.ofW (cc := cb_D_agreed) (maxL := 1) (ret := (some .int)) (by decide) rfl ?_
  intro p e s m args below meth c s₁ B hml hv
  obtain ⟨rfl, hB⟩ := hv
  have hx := B.exec
  have hb := B.bytes
  have hr := B.returns
  have hlocks := B.notSynchronized
  have hts : ∀ w ∈ lw_g, w.before ([.ref (ad o0)] : List Value).toArray s = true := fun w h => atoms_spec (ws := ow_ws yn_D_agreed cb_D_agreed 1 (some .int)) B.pre w (List.mem_cons_of_mem _ h)
  have hown : s.vm.findClass "BallotDesk" = some m.cls := findClass_of_methodNamed B.named
  clear B
  have hl := lv_entry ([.ref (ad o0)]) (n := 1) (Nat.le_of_ble_eq_true rfl)
  rw [lg_entry_eq]
  generalize (lg_sl ([.ref (ad o0)]) ++ List.replicate (1 - (lg_sl ([.ref (ad o0)])).length) Slot.unset).toArray = ls at hl ⊢
  have hl : lv_has ls 1 [(0, .ref (ad o0))] := hl
  show W p l e rm_D_agreed s m _ below meth c s.heap [] 0 0 _ _
  refine lv_aload_n hx hb dc_D_agreed_0 rfl (lv_at hl 0 rfl) ?_
  refine ow_get hx hb hts iw_D hown hB k0 rfl 1 (by decide) mw_230 rfl dc_D_agreed_1 ?_
  refine ow_get hx hb hts iw_R hown hB (ly_D_rules hG k0) rfl 3 (by decide) mw_186 rfl dc_D_agreed_4 ?_
  refine lv_aload_n hx hb dc_D_agreed_7 rfl (lv_at hl 0 rfl) ?_
  refine ow_get hx hb hts iw_D hown hB k0 rfl 0 (by decide) mw_229 rfl dc_D_agreed_8 ?_
  refine ow_calli (va_runV (As := [.ref (ad (o0 + 1))]) (rest := []) ⟨hx, hb, hml, hown, hts⟩ (ct_A_bestOrder l G hG D cA ad F _ (ly_R_agreement hG (ly_D_rules hG k0)) _ (ly_D_poll hG k0) _ _ h) ⟨ow_cb 1 hts mw_303 mw_10 mw_300 rfl rfl hd_A_bestOrder ⟨Nat.le_of_ble_eq_true rfl, Nat.le_of_ble_eq_true rfl⟩, hts _ mw_301, hts _ mw_302⟩ (ow_preV hB (ly_R_agreement hG (ly_D_rules hG k0)) rfl) rfl rfl hl.1 rfl (lv_room (Nat.le_of_ble_eq_true rfl)) dc_D_agreed_11 ⟨Nat.zero_le _, Nat.zero_le _⟩) hB (fun r2 M1 H locs h hB => ?_)
  exact ow_iret hx hb hr hlocks hB h dc_D_agreed_14
abbrev rm_D_changed : Room := { frames := 0, cells := 0, slots := 0, locals := 0 }
theorem hd_D_changed : yn_D_changed.cls ≠ "java/lang/invoke/MethodHandle" ∧ yn_D_changed.cls ≠ "java/lang/invoke/VarHandle" ∧ (parseMethodDescriptor yn_D_changed.desc).map (fun d => d.parameters.length) = some 0 := by decide +kernel
set_option maxHeartbeats 4000000 in
set_option maxRecDepth 100000 in
theorem ct_D_changed (l : Launch) (G : List (Nat × Nat)) (hG : ow_lay G) (D : va_G) (cA : Nat → ClassId) (ad : Nat → Nat) (F : Nat) (o0 : Nat) (k0 : ow_kd G o0 = (3, 0)) (M : om_M) (Q : Int32 → om_M → Prop) (h : wp_D_changed F o0 M Q) : Met l yn_D_changed (ow_ws yn_D_changed cb_D_changed 1 (some .int)) rm_D_changed (ow_Pc G D cA ad M [.ref (ad o0)]) (ow_Qi G D cA ad Q) 0 0 (ow_A G ad) := by
  refine Met.ofW (cc := cb_D_changed) (maxL := 1) (ret := (some .int)) (by decide) rfl ?_
  intro p e s m args below meth c s₁ B hml hv
  obtain ⟨rfl, hB⟩ := hv
  have hx := B.exec
  have hb := B.bytes
  have hr := B.returns
  have hlocks := B.notSynchronized
  have hts : ∀ w ∈ lw_g, w.before ([.ref (ad o0)] : List Value).toArray s = true := fun w h => atoms_spec (ws := ow_ws yn_D_changed cb_D_changed 1 (some .int)) B.pre w (List.mem_cons_of_mem _ h)
  have hown : s.vm.findClass "BallotDesk" = some m.cls := findClass_of_methodNamed B.named
  clear B
  have hl := lv_entry ([.ref (ad o0)]) (n := 1) (Nat.le_of_ble_eq_true rfl)
  rw [lg_entry_eq]
  generalize (lg_sl ([.ref (ad o0)]) ++ List.replicate (1 - (lg_sl ([.ref (ad o0)])).length) Slot.unset).toArray = ls at hl ⊢
  have hl : lv_has ls 1 [(0, .ref (ad o0))] := hl
  show W p l e rm_D_changed s m _ below meth c s.heap [] 0 0 _ _
  refine lv_aload_n hx hb dc_D_changed_0 rfl (lv_at hl 0 rfl) ?_
  refine ow_get hx hb hts iw_D hown hB k0 rfl 3 (by decide) mw_232 rfl dc_D_changed_1 ?_
  exact ow_iret hx hb hr hlocks hB h dc_D_changed_4
abbrev rm_D_witness : Room := { frames := 0, cells := 0, slots := 0, locals := 0 }
theorem hd_D_witness : yn_D_witness.cls ≠ "java/lang/invoke/MethodHandle" ∧ yn_D_witness.cls ≠ "java/lang/invoke/VarHandle" ∧ (parseMethodDescriptor yn_D_witness.desc).map (fun d => d.parameters.length) = some 0 := by decide +kernel
set_option maxHeartbeats 4000000 in
set_option maxRecDepth 100000 in
theorem ct_D_witness (l : Launch) (G : List (Nat × Nat)) (hG : ow_lay G) (D : va_G) (cA : Nat → ClassId) (ad : Nat → Nat) (F : Nat) (o0 : Nat) (k0 : ow_kd G o0 = (3, 0)) (M : om_M) (Q : Int32 → om_M → Prop) (h : wp_D_witness F o0 M Q) : Met l yn_D_witness (ow_ws yn_D_witness cb_D_witness 1 (some .int)) rm_D_witness (ow_Pc G D cA ad M [.ref (ad o0)]) (ow_Qi G D cA ad Q) 0 0 (ow_A G ad) := by
  refine Met.ofW (cc := cb_D_witness) (maxL := 1) (ret := (some .int)) (by decide) rfl ?_
  intro p e s m args below meth c s₁ B hml hv
  obtain ⟨rfl, hB⟩ := hv
  have hx := B.exec
  have hb := B.bytes
  have hr := B.returns
  have hlocks := B.notSynchronized
  have hts : ∀ w ∈ lw_g, w.before ([.ref (ad o0)] : List Value).toArray s = true := fun w h => atoms_spec (ws := ow_ws yn_D_witness cb_D_witness 1 (some .int)) B.pre w (List.mem_cons_of_mem _ h)
  have hown : s.vm.findClass "BallotDesk" = some m.cls := findClass_of_methodNamed B.named
  clear B
  have hl := lv_entry ([.ref (ad o0)]) (n := 1) (Nat.le_of_ble_eq_true rfl)
  rw [lg_entry_eq]
  generalize (lg_sl ([.ref (ad o0)]) ++ List.replicate (1 - (lg_sl ([.ref (ad o0)])).length) Slot.unset).toArray = ls at hl ⊢
  have hl : lv_has ls 1 [(0, .ref (ad o0))] := hl
  show W p l e rm_D_witness s m _ below meth c s.heap [] 0 0 _ _
  refine lv_aload_n hx hb dc_D_witness_0 rfl (lv_at hl 0 rfl) ?_
  refine ow_get hx hb hts iw_D hown hB k0 rfl 4 (by decide) mw_233 rfl dc_D_witness_1 ?_
  exact ow_iret hx hb hr hlocks hB h dc_D_witness_4
abbrev rm_D_isCandidate : Room := { frames := 0, cells := 0, slots := 0, locals := 0 }
theorem hd_D_isCandidate : yn_D_isCandidate.cls ≠ "java/lang/invoke/MethodHandle" ∧ yn_D_isCandidate.cls ≠ "java/lang/invoke/VarHandle" ∧ (parseMethodDescriptor yn_D_isCandidate.desc).map (fun d => d.parameters.length) = some 1 := by decide +kernel
set_option maxHeartbeats 4000000 in
set_option maxRecDepth 100000 in
theorem ct_D_isCandidate (l : Launch) (G : List (Nat × Nat)) (hG : ow_lay G) (D : va_G) (cA : Nat → ClassId) (ad : Nat → Nat) (F : Nat) (o0 : Nat) (k0 : ow_kd G o0 = (3, 0)) (x1 : Int32) (M : om_M) (Q : Int32 → om_M → Prop) (h : wp_D_isCandidate F o0 x1 M Q) : Met l yn_D_isCandidate (ow_ws yn_D_isCandidate cb_D_isCandidate 2 (some .boolean)) rm_D_isCandidate (ow_Pc G D cA ad M [.ref (ad o0), .int x1]) (ow_Qi G D cA ad Q) 0 0 (ow_A G ad) := by
  refine Met.ofW (cc := cb_D_isCandidate) (maxL := 2) (ret := (some .boolean)) (by decide) rfl ?_
  intro p e s m args below meth c s₁ B hml hv
  obtain ⟨rfl, hB⟩ := hv
  have hx := B.exec
  have hb := B.bytes
  have hr := B.returns
  have hlocks := B.notSynchronized
  have hts : ∀ w ∈ lw_g, w.before ([.ref (ad o0), .int x1] : List Value).toArray s = true := fun w h => atoms_spec (ws := ow_ws yn_D_isCandidate cb_D_isCandidate 2 (some .boolean)) B.pre w (List.mem_cons_of_mem _ h)
  have hown : s.vm.findClass "BallotDesk" = some m.cls := findClass_of_methodNamed B.named
  clear B
  have L19 : ∀   (M : om_M)   (H : Heap) (locs : List Loc) (ls : Array Slot), wp_D_isCandidate_19 F o0 x1 Q   M   → ow_B G D cA ad (ow_A G ad) M s s.heap H locs → lv_has ls 2 [] → W p l e rm_D_isCandidate s m ([.ref (ad o0), .int x1] : List Value).toArray below meth c H locs 0 0 (MQ below (ow_Qi G D cA ad Q) ([.ref (ad o0), .int x1] : List Value).toArray s 0 0 (ow_A G ad)) (F0 m 19 ls []) := by
    intro   M H locs ls h hB hl
    refine lv_iconst (v := 0) hx hb dc_D_isCandidate_19 rfl ?_
    exact ow_zret hx hb hr hlocks (by decide) hB h dc_D_isCandidate_20
  have hl := lv_entry ([.ref (ad o0), .int x1]) (n := 2) (Nat.le_of_ble_eq_true rfl)
  rw [lg_entry_eq]
  generalize (lg_sl ([.ref (ad o0), .int x1]) ++ List.replicate (2 - (lg_sl ([.ref (ad o0), .int x1])).length) Slot.unset).toArray = ls at hl ⊢
  have hl : lv_has ls 2 [(0, .ref (ad o0)), (1, .int x1)] := hl
  show W p l e rm_D_isCandidate s m _ below meth c s.heap [] 0 0 _ _
  refine lv_iload_n hx hb dc_D_isCandidate_0 rfl (lv_at hl 1 rfl) ?_
  obtain ⟨h1, h2⟩ := h
  refine lv_if_lt hx hb dc_D_isCandidate_1 rfl (fun hc => ?_) (fun hc => ?_)
  · have h := h1 hc
    exact L19 _ _ _ _ h hB (lv_sub hl [] rfl)
  · have h := h2 hc
    refine lv_iload_n hx hb dc_D_isCandidate_4 rfl (lv_at hl 1 rfl) ?_
    refine lv_aload_n hx hb dc_D_isCandidate_5 rfl (lv_at hl 0 rfl) ?_
    refine ow_get hx hb hts iw_D hown hB k0 rfl 0 (by decide) mw_229 rfl dc_D_isCandidate_6 ?_
    refine ow_get hx hb hts iw_P hown hB (ly_D_poll hG k0) rfl 5 (by decide) mw_63 rfl dc_D_isCandidate_9 ?_
    obtain ⟨h1, h2⟩ := h
    refine lv_icmp_ge hx hb dc_D_isCandidate_12 rfl (fun hc => ?_) (fun hc => ?_)
    · have h := h1 hc
      exact L19 _ _ _ _ h hB (lv_sub hl [] rfl)
    · have h := h2 hc
      refine lv_iconst (v := 1) hx hb dc_D_isCandidate_15 rfl ?_
      refine lv_goto hx hb dc_D_isCandidate_16 rfl ?_
      exact ow_zret hx hb hr hlocks (by decide) hB h dc_D_isCandidate_20
abbrev rm_D_isType : Room := { frames := 0, cells := 0, slots := 0, locals := 0 }
theorem hd_D_isType : yn_D_isType.cls ≠ "java/lang/invoke/MethodHandle" ∧ yn_D_isType.cls ≠ "java/lang/invoke/VarHandle" ∧ (parseMethodDescriptor yn_D_isType.desc).map (fun d => d.parameters.length) = some 1 := by decide +kernel
set_option maxHeartbeats 4000000 in
set_option maxRecDepth 100000 in
theorem ct_D_isType (l : Launch) (G : List (Nat × Nat)) (hG : ow_lay G) (D : va_G) (cA : Nat → ClassId) (ad : Nat → Nat) (F : Nat) (o0 : Nat) (k0 : ow_kd G o0 = (3, 0)) (x1 : Int32) (M : om_M) (Q : Int32 → om_M → Prop) (h : wp_D_isType F o0 x1 M Q) : Met l yn_D_isType (ow_ws yn_D_isType cb_D_isType 2 (some .boolean)) rm_D_isType (ow_Pc G D cA ad M [.ref (ad o0), .int x1]) (ow_Qi G D cA ad Q) 0 0 (ow_A G ad) := by
  refine Met.ofW (cc := cb_D_isType) (maxL := 2) (ret := (some .boolean)) (by decide) rfl ?_
  intro p e s m args below meth c s₁ B hml hv
  obtain ⟨rfl, hB⟩ := hv
  have hx := B.exec
  have hb := B.bytes
  have hr := B.returns
  have hlocks := B.notSynchronized
  have hts : ∀ w ∈ lw_g, w.before ([.ref (ad o0), .int x1] : List Value).toArray s = true := fun w h => atoms_spec (ws := ow_ws yn_D_isType cb_D_isType 2 (some .boolean)) B.pre w (List.mem_cons_of_mem _ h)
  have hown : s.vm.findClass "BallotDesk" = some m.cls := findClass_of_methodNamed B.named
  clear B
  have L19 : ∀   (M : om_M)   (H : Heap) (locs : List Loc) (ls : Array Slot), wp_D_isType_19 F o0 x1 Q   M   → ow_B G D cA ad (ow_A G ad) M s s.heap H locs → lv_has ls 2 [] → W p l e rm_D_isType s m ([.ref (ad o0), .int x1] : List Value).toArray below meth c H locs 0 0 (MQ below (ow_Qi G D cA ad Q) ([.ref (ad o0), .int x1] : List Value).toArray s 0 0 (ow_A G ad)) (F0 m 19 ls []) := by
    intro   M H locs ls h hB hl
    refine lv_iconst (v := 0) hx hb dc_D_isType_19 rfl ?_
    exact ow_zret hx hb hr hlocks (by decide) hB h dc_D_isType_20
  have hl := lv_entry ([.ref (ad o0), .int x1]) (n := 2) (Nat.le_of_ble_eq_true rfl)
  rw [lg_entry_eq]
  generalize (lg_sl ([.ref (ad o0), .int x1]) ++ List.replicate (2 - (lg_sl ([.ref (ad o0), .int x1])).length) Slot.unset).toArray = ls at hl ⊢
  have hl : lv_has ls 2 [(0, .ref (ad o0)), (1, .int x1)] := hl
  show W p l e rm_D_isType s m _ below meth c s.heap [] 0 0 _ _
  refine lv_iload_n hx hb dc_D_isType_0 rfl (lv_at hl 1 rfl) ?_
  obtain ⟨h1, h2⟩ := h
  refine lv_if_lt hx hb dc_D_isType_1 rfl (fun hc => ?_) (fun hc => ?_)
  · have h := h1 hc
    exact L19 _ _ _ _ h hB (lv_sub hl [] rfl)
  · have h := h2 hc
    refine lv_iload_n hx hb dc_D_isType_4 rfl (lv_at hl 1 rfl) ?_
    refine lv_aload_n hx hb dc_D_isType_5 rfl (lv_at hl 0 rfl) ?_
    refine ow_get hx hb hts iw_D hown hB k0 rfl 0 (by decide) mw_229 rfl dc_D_isType_6 ?_
    refine ow_get hx hb hts iw_P hown hB (ly_D_poll hG k0) rfl 6 (by decide) mw_69 rfl dc_D_isType_9 ?_
    obtain ⟨h1, h2⟩ := h
    refine lv_icmp_ge hx hb dc_D_isType_12 rfl (fun hc => ?_) (fun hc => ?_)
    · have h := h1 hc
      exact L19 _ _ _ _ h hB (lv_sub hl [] rfl)
    · have h := h2 hc
      refine lv_iconst (v := 1) hx hb dc_D_isType_15 rfl ?_
      refine lv_goto hx hb dc_D_isType_16 rfl ?_
      exact ow_zret hx hb hr hlocks (by decide) hB h dc_D_isType_20
abbrev rm_D_isRule : Room := { frames := 0, cells := 0, slots := 0, locals := 0 }
theorem hd_D_isRule : yn_D_isRule.cls ≠ "java/lang/invoke/MethodHandle" ∧ yn_D_isRule.cls ≠ "java/lang/invoke/VarHandle" ∧ (parseMethodDescriptor yn_D_isRule.desc).map (fun d => d.parameters.length) = some 1 := by decide +kernel
set_option maxHeartbeats 4000000 in
set_option maxRecDepth 100000 in
theorem ct_D_isRule (l : Launch) (G : List (Nat × Nat)) (hG : ow_lay G) (D : va_G) (cA : Nat → ClassId) (ad : Nat → Nat) (F : Nat) (x0 : Int32) (M : om_M) (Q : Int32 → om_M → Prop) (h : wp_D_isRule F x0 M Q) : Met l yn_D_isRule (ow_ws yn_D_isRule cb_D_isRule 1 (some .boolean)) rm_D_isRule (ow_Pc G D cA ad M [.int x0]) (ow_Qi G D cA ad Q) 0 0 (ow_A G ad) := by
  refine Met.ofW (cc := cb_D_isRule) (maxL := 1) (ret := (some .boolean)) (by decide) rfl ?_
  intro p e s m args below meth c s₁ B hml hv
  obtain ⟨rfl, hB⟩ := hv
  have hx := B.exec
  have hb := B.bytes
  have hr := B.returns
  have hlocks := B.notSynchronized
  have hts : ∀ w ∈ lw_g, w.before ([.int x0] : List Value).toArray s = true := fun w h => atoms_spec (ws := ow_ws yn_D_isRule cb_D_isRule 1 (some .boolean)) B.pre w (List.mem_cons_of_mem _ h)
  have hown : s.vm.findClass "BallotDesk" = some m.cls := findClass_of_methodNamed B.named
  clear B
  have L14 : ∀   (M : om_M)   (H : Heap) (locs : List Loc) (ls : Array Slot), wp_D_isRule_14 F x0 Q   M   → ow_B G D cA ad (ow_A G ad) M s s.heap H locs → lv_has ls 1 [] → W p l e rm_D_isRule s m ([.int x0] : List Value).toArray below meth c H locs 0 0 (MQ below (ow_Qi G D cA ad Q) ([.int x0] : List Value).toArray s 0 0 (ow_A G ad)) (F0 m 14 ls []) := by
    intro   M H locs ls h hB hl
    refine lv_iconst (v := 0) hx hb dc_D_isRule_14 rfl ?_
    exact ow_zret hx hb hr hlocks (by decide) hB h dc_D_isRule_15
  have hl := lv_entry ([.int x0]) (n := 1) (Nat.le_of_ble_eq_true rfl)
  rw [lg_entry_eq]
  generalize (lg_sl ([.int x0]) ++ List.replicate (1 - (lg_sl ([.int x0])).length) Slot.unset).toArray = ls at hl ⊢
  have hl : lv_has ls 1 [(0, .int x0)] := hl
  show W p l e rm_D_isRule s m _ below meth c s.heap [] 0 0 _ _
  refine lv_iload_n hx hb dc_D_isRule_0 rfl (lv_at hl 0 rfl) ?_
  obtain ⟨h1, h2⟩ := h
  refine lv_if_lt hx hb dc_D_isRule_1 rfl (fun hc => ?_) (fun hc => ?_)
  · have h := h1 hc
    exact L14 _ _ _ _ h hB (lv_sub hl [] rfl)
  · have h := h2 hc
    refine lv_iload_n hx hb dc_D_isRule_4 rfl (lv_at hl 0 rfl) ?_
    refine lv_bipush (v := 12) hx hb dc_D_isRule_5 rfl ?_
    obtain ⟨h1, h2⟩ := h
    refine lv_icmp_ge hx hb dc_D_isRule_7 rfl (fun hc => ?_) (fun hc => ?_)
    · have h := h1 hc
      exact L14 _ _ _ _ h hB (lv_sub hl [] rfl)
    · have h := h2 hc
      refine lv_iconst (v := 1) hx hb dc_D_isRule_10 rfl ?_
      refine lv_goto hx hb dc_D_isRule_11 rfl ?_
      exact ow_zret hx hb hr hlocks (by decide) hB h dc_D_isRule_15
abbrev rm_D_isAmount : Room := { frames := 0, cells := 0, slots := 0, locals := 0 }
theorem hd_D_isAmount : yn_D_isAmount.cls ≠ "java/lang/invoke/MethodHandle" ∧ yn_D_isAmount.cls ≠ "java/lang/invoke/VarHandle" ∧ (parseMethodDescriptor yn_D_isAmount.desc).map (fun d => d.parameters.length) = some 1 := by decide +kernel
set_option maxHeartbeats 4000000 in
set_option maxRecDepth 100000 in
theorem ct_D_isAmount (l : Launch) (G : List (Nat × Nat)) (hG : ow_lay G) (D : va_G) (cA : Nat → ClassId) (ad : Nat → Nat) (F : Nat) (x0 : Int32) (M : om_M) (Q : Int32 → om_M → Prop) (h : wp_D_isAmount F x0 M Q) : Met l yn_D_isAmount (ow_ws yn_D_isAmount cb_D_isAmount 1 (some .boolean)) rm_D_isAmount (ow_Pc G D cA ad M [.int x0]) (ow_Qi G D cA ad Q) 0 0 (ow_A G ad) := by
  refine Met.ofW (cc := cb_D_isAmount) (maxL := 1) (ret := (some .boolean)) (by decide) rfl ?_
  intro p e s m args below meth c s₁ B hml hv
  obtain ⟨rfl, hB⟩ := hv
  have hx := B.exec
  have hb := B.bytes
  have hr := B.returns
  have hlocks := B.notSynchronized
  have hts : ∀ w ∈ lw_g, w.before ([.int x0] : List Value).toArray s = true := fun w h => atoms_spec (ws := ow_ws yn_D_isAmount cb_D_isAmount 1 (some .boolean)) B.pre w (List.mem_cons_of_mem _ h)
  have hown : s.vm.findClass "BallotDesk" = some m.cls := findClass_of_methodNamed B.named
  clear B
  have L14 : ∀   (M : om_M)   (H : Heap) (locs : List Loc) (ls : Array Slot), wp_D_isAmount_14 F x0 Q   M   → ow_B G D cA ad (ow_A G ad) M s s.heap H locs → lv_has ls 1 [] → W p l e rm_D_isAmount s m ([.int x0] : List Value).toArray below meth c H locs 0 0 (MQ below (ow_Qi G D cA ad Q) ([.int x0] : List Value).toArray s 0 0 (ow_A G ad)) (F0 m 14 ls []) := by
    intro   M H locs ls h hB hl
    refine lv_iconst (v := 0) hx hb dc_D_isAmount_14 rfl ?_
    exact ow_zret hx hb hr hlocks (by decide) hB h dc_D_isAmount_15
  have hl := lv_entry ([.int x0]) (n := 1) (Nat.le_of_ble_eq_true rfl)
  rw [lg_entry_eq]
  generalize (lg_sl ([.int x0]) ++ List.replicate (1 - (lg_sl ([.int x0])).length) Slot.unset).toArray = ls at hl ⊢
  have hl : lv_has ls 1 [(0, .int x0)] := hl
  show W p l e rm_D_isAmount s m _ below meth c s.heap [] 0 0 _ _
  refine lv_iload_n hx hb dc_D_isAmount_0 rfl (lv_at hl 0 rfl) ?_
  obtain ⟨h1, h2⟩ := h
  refine lv_if_lt hx hb dc_D_isAmount_1 rfl (fun hc => ?_) (fun hc => ?_)
  · have h := h1 hc
    exact L14 _ _ _ _ h hB (lv_sub hl [] rfl)
  · have h := h2 hc
    refine lv_iload_n hx hb dc_D_isAmount_4 rfl (lv_at hl 0 rfl) ?_
    refine lv_ldc hx hb hown (hts _ mw_412) dc_D_isAmount_5 ?_
    obtain ⟨h1, h2⟩ := h
    refine lv_icmp_gt hx hb dc_D_isAmount_7 rfl (fun hc => ?_) (fun hc => ?_)
    · have h := h1 hc
      exact L14 _ _ _ _ h hB (lv_sub hl [] rfl)
    · have h := h2 hc
      refine lv_iconst (v := 1) hx hb dc_D_isAmount_10 rfl ?_
      refine lv_goto hx hb dc_D_isAmount_11 rfl ?_
      exact ow_zret hx hb hr hlocks (by decide) hB h dc_D_isAmount_15
