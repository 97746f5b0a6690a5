def wp_L_candidates (F : Nat) (o0 : Nat) (x1 : Int32) (o2 : Nat) (n2 : Nat) (M : om_M) (Q : Int32 → om_M → Prop) : Prop := wp_D_candidates F o0 x1 M (fun r3 M1 => vp_in 0 n2 ∧ Q 0 (om_ul M1 o2 (0 : Int32).toNatClampNeg ((r3 : Int32).toInt64))) (fun k M2 => ((k = 1 → Q 1 M2) ∧ (¬ k = 1 → False)))
def wp_L_ballot (F : Nat) (o0 : Nat) (x1 : Int32) (x2 : Int32) (o3 : Nat) (n3 : Nat) (M : om_M) (Q : Int32 → om_M → Prop) : Prop := wp_D_ballot F o0 x1 x2 M (fun r3 M1 => vp_in 0 n3 ∧ Q 0 (om_ul M1 o3 (0 : Int32).toNatClampNeg ((r3 : Int32).toInt64))) (fun k M2 => ((k = 1 → Q 1 M2) ∧ (¬ k = 1 → ((k = 2 → Q 2 M2) ∧ (¬ k = 2 → False)))))
def wp_L_amount (F : Nat) (o0 : Nat) (x1 : Int32) (x2 : Int32) (o3 : Nat) (n3 : Nat) (M : om_M) (Q : Int32 → om_M → Prop) : Prop := wp_D_amount F o0 x1 x2 M (fun r3 M1 => vp_in 0 n3 ∧ Q 0 (om_ul M1 o3 (0 : Int32).toNatClampNeg ((r3 : Int32).toInt64))) (fun k M2 => ((k = 0 → Q 1 M2) ∧ (¬ k = 0 → ((k = 1 → Q 2 M2) ∧ (¬ k = 1 → False)))))
def wp_L_drop (F : Nat) (o0 : Nat) (x1 : Int32) (o2 : Nat) (n2 : Nat) (M : om_M) (Q : Int32 → om_M → Prop) : Prop := wp_D_drop F o0 x1 M (fun r3 M1 => vp_in 0 n2 ∧ Q 0 (om_ul M1 o2 (0 : Int32).toNatClampNeg ((r3 : Int32).toInt64))) (fun k M2 => ((k = 0 → Q 1 M2) ∧ (¬ k = 0 → False)))
def wp_L_tieOrder (F : Nat) (o0 : Nat) (x1 : Int32) (o2 : Nat) (n2 : Nat) (M : om_M) (Q : Int32 → om_M → Prop) : Prop := wp_D_tieOrder F o0 x1 M (fun r3 M1 => vp_in 0 n2 ∧ Q 0 (om_ul M1 o2 (0 : Int32).toNatClampNeg ((r3 : Int32).toInt64))) (fun k M2 => ((k = 1 → Q 1 M2) ∧ (¬ k = 1 → False)))
def wp_L_agenda (F : Nat) (o0 : Nat) (x1 : Int32) (o2 : Nat) (n2 : Nat) (M : om_M) (Q : Int32 → om_M → Prop) : Prop := wp_D_agenda F o0 x1 M (fun r3 M1 => vp_in 0 n2 ∧ Q 0 (om_ul M1 o2 (0 : Int32).toNatClampNeg ((r3 : Int32).toInt64))) (fun k M2 => ((k = 1 → Q 1 M2) ∧ (¬ k = 1 → False)))
def wp_L_weight (F : Nat) (o0 : Nat) (x1 : Int32) (x2 : Int32) (o3 : Nat) (n3 : Nat) (M : om_M) (Q : Int32 → om_M → Prop) : Prop := wp_D_weight F o0 x1 x2 M (fun r3 M1 => vp_in 0 n3 ∧ Q 0 (om_ul M1 o3 (0 : Int32).toNatClampNeg ((r3 : Int32).toInt64))) (fun k M2 => ((k = 0 → Q 1 M2) ∧ (¬ k = 0 → ((k = 1 → Q 2 M2) ∧ (¬ k = 1 → False)))))
def wp_L_winners (F : Nat) (o0 : Nat) (x1 : Int32) (o2 : Nat) (n2 : Nat) (M : om_M) (Q : Int32 → om_M → Prop) : Prop := wp_D_winners F o0 x1 M (fun r3 M1 => vp_in 0 n2 ∧ Q 0 (om_ul M1 o2 (0 : Int32).toNatClampNeg ((r3 : Int32).toInt64))) (fun k M2 => ((k = 0 → Q 1 M2) ∧ (¬ k = 0 → False)))
def wp_L_winner (F : Nat) (o0 : Nat) (x1 : Int32) (o2 : Nat) (n2 : Nat) (M : om_M) (Q : Int32 → om_M → Prop) : Prop := wp_D_winner F o0 x1 M (fun r3 M1 => vp_in 0 n2 ∧ Q 0 (om_ul M1 o2 (0 : Int32).toNatClampNeg ((r3 : Int32).toInt64))) (fun k M2 => ((k = 0 → Q 1 M2) ∧ (¬ k = 0 → False)))
def wp_L_score (F : Nat) (o0 : Nat) (x1 : Int32) (x2 : Int32) (o3 : Nat) (n3 : Nat) (M : om_M) (Q : Int32 → om_M → Prop) : Prop := wp_D_score F o0 x1 x2 M (fun r3 M1 => vp_in 0 n3 ∧ Q 0 (om_ul M1 o3 (0 : Int32).toNatClampNeg r3)) (fun k M2 => ((k = 0 → Q 1 M2) ∧ (¬ k = 0 → ((k = 1 → Q 2 M2) ∧ (¬ k = 1 → False)))))
def wp_L_pair (F : Nat) (o0 : Nat) (x1 : Int32) (x2 : Int32) (o3 : Nat) (n3 : Nat) (M : om_M) (Q : Int32 → om_M → Prop) : Prop := wp_D_pair F o0 x1 x2 M (fun r3 M1 => vp_in 0 n3 ∧ Q 0 (om_ul M1 o3 (0 : Int32).toNatClampNeg ((r3 : Int32).toInt64))) (fun k M2 => ((k = 0 → Q 1 M2) ∧ (¬ k = 0 → False)))
def wp_L_path (F : Nat) (o0 : Nat) (x1 : Int32) (x2 : Int32) (o3 : Nat) (n3 : Nat) (M : om_M) (Q : Int32 → om_M → Prop) : Prop := wp_D_path F o0 x1 x2 M (fun r3 M1 => vp_in 0 n3 ∧ Q 0 (om_ul M1 o3 (0 : Int32).toNatClampNeg ((r3 : Int32).toInt64))) (fun k M2 => ((k = 0 → Q 1 M2) ∧ (¬ k = 0 → False)))
def wp_L_step (F : Nat) (o0 : Nat) (x1 : Int32) (o2 : Nat) (n2 : Nat) (M : om_M) (Q : Int32 → om_M → Prop) : Prop := wp_D_step F o0 x1 M (fun r3 M1 => vp_in 0 n2 ∧ Q 0 (om_ul M1 o2 (0 : Int32).toNatClampNeg ((r3 : Int32).toInt64))) (fun k M2 => ((k = 0 → Q 1 M2) ∧ (¬ k = 0 → False)))
def wp_L_change (F : Nat) (o0 : Nat) (x1 : Int32) (x2 : Int32) (x3 : Int32) (o4 : Nat) (n4 : Nat) (M : om_M) (Q : Int32 → om_M → Prop) : Prop := wp_D_change F o0 x1 x2 x3 M (fun r3 M1 => vp_in 0 n4 ∧ Q 0 (om_ul M1 o4 (0 : Int32).toNatClampNeg ((r3 : Int32).toInt64))) (fun k M2 => ((k = 0 → Q 1 M2) ∧ (¬ k = 0 → ((k = 1 → Q 2 M2) ∧ (¬ k = 1 → False)))))
def wp_L_property_16 (F : Nat) (o0 : Nat) (x1 : Int32) (x2 : Int32) (o3 : Nat) (n3 : Nat) (Q : Int32 → om_M → Prop)   (M : om_M)  (t0 : Nat) (t1 : Int32) (t2 : Int64) : Prop := vp_in t1 n3 ∧ Q 0 (om_ul M t0 t1.toNatClampNeg t2)
def wp_L_property (F : Nat) (o0 : Nat) (x1 : Int32) (x2 : Int32) (o3 : Nat) (n3 : Nat) (M : om_M) (Q : Int32 → om_M → Prop) : Prop := wp_D_property F o0 x1 x2 M (fun r4 M2 => ((r4 = 0 → wp_L_property_16 F o0 x1 x2 o3 n3 Q M2 o3 0 0) ∧ (¬ r4 = 0 → wp_L_property_16 F o0 x1 x2 o3 n3 Q M2 o3 0 1))) (fun k M3 => ((k = 0 → Q 1 M3) ∧ (¬ k = 0 → False)))
def wp_L_circle (F : Nat) (o0 : Nat) (x1 : Int32) (o2 : Nat) (n2 : Nat) (M : om_M) (Q : Int32 → om_M → Prop) : Prop := wp_D_circle F o0 x1 M (fun r3 M1 => vp_in 0 n2 ∧ Q 0 (om_ul M1 o2 (0 : Int32).toNatClampNeg ((r3 : Int32).toInt64))) (fun k M2 => ((k = 0 → Q 1 M2) ∧ (¬ k = 0 → False)))
def wp_L_clones_15 (F : Nat) (o0 : Nat) (x1 : Int32) (o2 : Nat) (n2 : Nat) (Q : Int32 → om_M → Prop)   (M : om_M)  (t0 : Nat) (t1 : Int32) (t2 : Int64) : Prop := vp_in t1 n2 ∧ Q 0 (om_ul M t0 t1.toNatClampNeg t2)
def wp_L_clones (F : Nat) (o0 : Nat) (x1 : Int32) (o2 : Nat) (n2 : Nat) (M : om_M) (Q : Int32 → om_M → Prop) : Prop := wp_D_clones F o0 x1 M (fun r4 M2 => ((r4 = 0 → wp_L_clones_15 F o0 x1 o2 n2 Q M2 o2 0 0) ∧ (¬ r4 = 0 → wp_L_clones_15 F o0 x1 o2 n2 Q M2 o2 0 1))) (fun k M3 => ((k = 1 → Q 1 M3) ∧ (¬ k = 1 → False)))
def wp_L_count (F : Nat) (o0 : Nat) (x1 : Int32) (o2 : Nat) (n2 : Nat) (M : om_M) (Q : Int32 → om_M → Prop) : Prop := wp_D_count F o0 x1 M (fun r3 M1 => vp_in 0 n2 ∧ Q 0 (om_ul M1 o2 (0 : Int32).toNatClampNeg ((r3 : Int32).toInt64))) (fun k M2 => ((k = 1 → Q 1 M2) ∧ (¬ k = 1 → False)))
theorem mh_L_candidates : Cond.codeWith yn_L_candidates cb_L_candidates 4 (some .int) [(0, 9, 12, 13)] ∈ lw_g := tg_of (tw_2 (List.mem_of_getElem? (i := 85) rfl)) rfl
theorem mh_L_ballot : Cond.codeWith yn_L_ballot cb_L_ballot 5 (some .int) [(0, 10, 13, 13), (0, 10, 17, 19)] ∈ lw_g := tg_of (tw_2 (List.mem_of_getElem? (i := 159) rfl)) rfl
theorem mh_L_amount : Cond.codeWith yn_L_amount cb_L_amount 5 (some .int) [(0, 10, 13, 24), (0, 10, 17, 13)] ∈ lw_g := tg_of (tw_2 (List.mem_of_getElem? (i := 198) rfl)) rfl
theorem mh_L_drop : Cond.codeWith yn_L_drop cb_L_drop 4 (some .int) [(0, 9, 12, 24)] ∈ lw_g := tg_of (tw_2 (List.mem_of_getElem? (i := 232) rfl)) rfl
theorem mh_L_tieOrder : Cond.codeWith yn_L_tieOrder cb_L_tieOrder 4 (some .int) [(0, 9, 12, 13)] ∈ lw_g := tg_of (tw_3 (List.mem_of_getElem? (i := 3) rfl)) rfl
theorem mh_L_agenda : Cond.codeWith yn_L_agenda cb_L_agenda 4 (some .int) [(0, 9, 12, 13)] ∈ lw_g := tg_of (tw_3 (List.mem_of_getElem? (i := 10) rfl)) rfl
theorem mh_L_weight : Cond.codeWith yn_L_weight cb_L_weight 5 (some .int) [(0, 10, 13, 24), (0, 10, 17, 13)] ∈ lw_g := tg_of (tw_3 (List.mem_of_getElem? (i := 17) rfl)) rfl
theorem mh_L_winners : Cond.codeWith yn_L_winners cb_L_winners 4 (some .int) [(0, 9, 12, 24)] ∈ lw_g := tg_of (tw_3 (List.mem_of_getElem? (i := 24) rfl)) rfl
theorem mh_L_winner : Cond.codeWith yn_L_winner cb_L_winner 4 (some .int) [(0, 9, 12, 24)] ∈ lw_g := tg_of (tw_3 (List.mem_of_getElem? (i := 127) rfl)) rfl
theorem mh_L_score : Cond.codeWith yn_L_score cb_L_score 5 (some .int) [(0, 9, 12, 24), (0, 9, 16, 13)] ∈ lw_g := tg_of (tw_3 (List.mem_of_getElem? (i := 139) rfl)) rfl
theorem mh_L_pair : Cond.codeWith yn_L_pair cb_L_pair 5 (some .int) [(0, 10, 13, 24)] ∈ lw_g := tg_of (tw_3 (List.mem_of_getElem? (i := 154) rfl)) rfl
theorem mh_L_path : Cond.codeWith yn_L_path cb_L_path 5 (some .int) [(0, 10, 13, 24)] ∈ lw_g := tg_of (tw_3 (List.mem_of_getElem? (i := 161) rfl)) rfl
theorem mh_L_step : Cond.codeWith yn_L_step cb_L_step 4 (some .int) [(0, 9, 12, 24)] ∈ lw_g := tg_of (tw_3 (List.mem_of_getElem? (i := 169) rfl)) rfl
theorem mh_L_change : Cond.codeWith yn_L_change cb_L_change 6 (some .int) [(0, 12, 15, 24), (0, 12, 19, 13)] ∈ lw_g := tg_of (tw_3 (List.mem_of_getElem? (i := 184) rfl)) rfl
theorem mh_L_property : Cond.codeWith yn_L_property cb_L_property 5 (some .int) [(0, 17, 20, 24)] ∈ lw_g := tg_of (tw_3 (List.mem_of_getElem? (i := 225) rfl)) rfl
theorem mh_L_circle : Cond.codeWith yn_L_circle cb_L_circle 4 (some .int) [(0, 9, 12, 24)] ∈ lw_g := tg_of (tw_4 (List.mem_of_getElem? (i := 32) rfl)) rfl
theorem mh_L_clones : Cond.codeWith yn_L_clones cb_L_clones 4 (some .int) [(0, 16, 19, 13)] ∈ lw_g := tg_of (tw_4 (List.mem_of_getElem? (i := 44) rfl)) rfl
theorem mh_L_count : Cond.codeWith yn_L_count cb_L_count 4 (some .int) [(0, 9, 12, 13)] ∈ lw_g := tg_of (tw_4 (List.mem_of_getElem? (i := 58) rfl)) rfl
abbrev rm_L_candidates : Room := { frames := 8, cells := 1, slots := 6, locals := 142 }
theorem hd_L_candidates : yn_L_candidates.cls ≠ "java/lang/invoke/MethodHandle" ∧ yn_L_candidates.cls ≠ "java/lang/invoke/VarHandle" ∧ (parseMethodDescriptor yn_L_candidates.desc).map (fun d => d.parameters.length) = some 3 := by decide +kernel
set_option maxHeartbeats 4000000 in
set_option maxRecDepth 100000 in
theorem ct_L_candidates (l : Launch) (hfl : l.flags = Jvm.pinnedFlags ++ [Jvm.noTraceFlag]) (G : List (Nat × Nat)) (hG : ow_lay G) (D : va_G) (cA : Nat → ClassId) (ad : Nat → Nat) (F : Nat) (o0 : Nat) (k0 : ow_kd G o0 = (3, 0)) (x1 : Int32) (o2 : Nat) (n2 : Nat) (k2 : ow_kd G o2 = (4, n2)) (M : om_M) (Q : Int32 → om_M → Prop) (h : wp_L_candidates F o0 x1 o2 n2 M Q) : xw_Met l yn_L_candidates (hw_ws yn_L_candidates cb_L_candidates 4 (some .int) [(0, 9, 12, 13)]) rm_L_candidates (hw_Pc G D cA ad M [.ref (ad o0), .int x1, .ref (ad o2)]) (xw_Q G D cA ad (xw_ri Q) (fun _ _ => False)) 1 6 (ow_A G ad) := by
  refine hw_ofW (cc := cb_L_candidates) (maxL := 4) (ret := (some .int)) (hh := [(0, 9, 12, 13)]) (by decide) rfl ?_
  intro p e s m args below meth c s₁ B hml hexc hv
  obtain ⟨rfl, ⟨hB, hZ⟩, hN⟩ := hv
  have htr := Launch.traces_off hfl B.admits
  have hx := B.exec
  have hb := B.bytes
  have hr := B.returns
  have hlocks := B.notSynchronized
  have hts : ∀ w ∈ lw_g, w.before ([.ref (ad o0), .int x1, .ref (ad o2)] : List Value).toArray s = true := fun w h => atoms_spec (ws := hw_ws yn_L_candidates cb_L_candidates 4 (some .int) [(0, 9, 12, 13)]) B.pre w (List.mem_cons_of_mem _ h)
  have hown : s.vm.findClass "BallotDeskLaw" = some m.cls := findClass_of_methodNamed B.named
  clear B
  have hl := lv_entry ([.ref (ad o0), .int x1, .ref (ad o2)]) (n := 4) (Nat.le_of_ble_eq_true rfl)
  rw [lg_entry_eq]
  generalize (lg_sl ([.ref (ad o0), .int x1, .ref (ad o2)]) ++ List.replicate (4 - (lg_sl ([.ref (ad o0), .int x1, .ref (ad o2)])).length) Slot.unset).toArray = ls at hl ⊢
  have hl : lv_has ls 4 [(0, .ref (ad o0)), (1, .int x1), (2, .ref (ad o2))] := hl
  show W p l e rm_L_candidates s m _ below meth c s.heap [] 0 0 _ _
  refine lv_aload_n hx hb dc_L_candidates_0 rfl (lv_at hl 2 rfl) ?_
  refine lv_iconst (v := 0) hx hb dc_L_candidates_1 rfl ?_
  refine lv_aload_n hx hb dc_L_candidates_2 rfl (lv_at hl 0 rfl) ?_
  refine lv_iload_n hx hb dc_L_candidates_3 rfl (lv_at hl 1 rfl) ?_
  refine xw_callV (As := [.int x1]) (rest := [.int 0, .ref (ad o2)]) (maxL := 3) (mc := 1) (ms := 6) hx hb hown hts (ct_D_candidates l hfl G hG D cA ad F _ k0 _ _ _ _ h) (ow_wsin mw_330) mw_330 mw_1 mw_327 mw_328 mw_329 hd_D_candidates rfl rfl (Nat.le_of_ble_eq_true rfl) (Nat.le_of_ble_eq_true rfl) hB k0 rfl (xw_pre hB hZ) (hl.1.trans hml.symm) (Nat.le_of_ble_eq_true rfl) rfl dc_L_candidates_4 (Nat.le_of_ble_eq_true rfl) (Nat.le_of_ble_eq_true rfl) (fun q k M2 H locs ce hX hce hv hcl hB => ?_) (fun v M1 H locs h hB => ?_)
  · obtain ⟨h1, h2⟩ := hX
    by_cases hk1 : k = 1
    · subst hk1
      have h := h1 rfl
      refine xw_catch (k := 1) hown hts [] ⟨0, 9, 12, 13⟩ [] hexc (fun z hz => by cases hz) (by decide) (by decide) mw_326 hZ.2.2.2.1 hce hv hcl ?_
      refine lv_astore_n hx hb dc_L_candidates_12 rfl hl (by decide) rfl (fun ls hl => ?_)
      refine lv_iconst (v := 1) hx hb dc_L_candidates_13 rfl ?_
      exact xw_iret hx hb hr hlocks hB h dc_L_candidates_14
    · have hX := h2 hk1
      exact False.elim hX
  · obtain ⟨r3, rfl, h⟩ := h
    refine lv_i2l hx hb dc_L_candidates_7 rfl ?_
    obtain ⟨hi4, h⟩ := h
    refine ow_last hx hb hB k2 hi4 dc_L_candidates_8 (fun H locs hB => ?_)
    refine lv_goto hx hb dc_L_candidates_9 rfl ?_
    refine lv_iconst (v := 0) hx hb dc_L_candidates_15 rfl ?_
    exact xw_iret hx hb hr hlocks hB h dc_L_candidates_16
abbrev rm_L_ballot : Room := { frames := 8, cells := 2, slots := 12, locals := 142 }
theorem hd_L_ballot : yn_L_ballot.cls ≠ "java/lang/invoke/MethodHandle" ∧ yn_L_ballot.cls ≠ "java/lang/invoke/VarHandle" ∧ (parseMethodDescriptor yn_L_ballot.desc).map (fun d => d.parameters.length) = some 4 := by decide +kernel
set_option maxHeartbeats 4000000 in
set_option maxRecDepth 100000 in
theorem ct_L_ballot (l : Launch) (hfl : l.flags = Jvm.pinnedFlags ++ [Jvm.noTraceFlag]) (G : List (Nat × Nat)) (hG : ow_lay G) (D : va_G) (cA : Nat → ClassId) (ad : Nat → Nat) (F : Nat) (o0 : Nat) (k0 : ow_kd G o0 = (3, 0)) (x1 : Int32) (x2 : Int32) (o3 : Nat) (n3 : Nat) (k3 : ow_kd G o3 = (4, n3)) (M : om_M) (Q : Int32 → om_M → Prop) (h : wp_L_ballot F o0 x1 x2 o3 n3 M Q) : xw_Met l yn_L_ballot (hw_ws yn_L_ballot cb_L_ballot 5 (some .int) [(0, 10, 13, 13), (0, 10, 17, 19)]) rm_L_ballot (hw_Pc G D cA ad M [.ref (ad o0), .int x1, .int x2, .ref (ad o3)]) (xw_Q G D cA ad (xw_ri Q) (fun _ _ => False)) 2 12 (ow_A G ad) := by
  refine hw_ofW (cc := cb_L_ballot) (maxL := 5) (ret := (some .int)) (hh := [(0, 10, 13, 13), (0, 10, 17, 19)]) (by decide) rfl ?_
  intro p e s m args below meth c s₁ B hml hexc hv
  obtain ⟨rfl, ⟨hB, hZ⟩, hN⟩ := hv
  have htr := Launch.traces_off hfl B.admits
  have hx := B.exec
  have hb := B.bytes
  have hr := B.returns
  have hlocks := B.notSynchronized
  have hts : ∀ w ∈ lw_g, w.before ([.ref (ad o0), .int x1, .int x2, .ref (ad o3)] : List Value).toArray s = true := fun w h => atoms_spec (ws := hw_ws yn_L_ballot cb_L_ballot 5 (some .int) [(0, 10, 13, 13), (0, 10, 17, 19)]) B.pre w (List.mem_cons_of_mem _ h)
  have hown : s.vm.findClass "BallotDeskLaw" = some m.cls := findClass_of_methodNamed B.named
  clear B
  have hl := lv_entry ([.ref (ad o0), .int x1, .int x2, .ref (ad o3)]) (n := 5) (Nat.le_of_ble_eq_true rfl)
  rw [lg_entry_eq]
  generalize (lg_sl ([.ref (ad o0), .int x1, .int x2, .ref (ad o3)]) ++ List.replicate (5 - (lg_sl ([.ref (ad o0), .int x1, .int x2, .ref (ad o3)])).length) Slot.unset).toArray = ls at hl ⊢
  have hl : lv_has ls 5 [(0, .ref (ad o0)), (1, .int x1), (2, .int x2), (3, .ref (ad o3))] := hl
  show W p l e rm_L_ballot s m _ below meth c s.heap [] 0 0 _ _
  refine lv_aload_n hx hb dc_L_ballot_0 rfl (lv_at hl 3 rfl) ?_
  refine lv_iconst (v := 0) hx hb dc_L_ballot_1 rfl ?_
  refine lv_aload_n hx hb dc_L_ballot_2 rfl (lv_at hl 0 rfl) ?_
  refine lv_iload_n hx hb dc_L_ballot_3 rfl (lv_at hl 1 rfl) ?_
  refine lv_iload_n hx hb dc_L_ballot_4 rfl (lv_at hl 2 rfl) ?_
  refine xw_callV (As := [.int x1, .int x2]) (rest := [.int 0, .ref (ad o3)]) (maxL := 3) (mc := 2) (ms := 12) hx hb hown hts (ct_D_ballot l hfl G hG D cA ad F _ k0 _ _ _ _ _ h) (ow_wsin mw_404) mw_404 mw_1 mw_401 mw_402 mw_403 hd_D_ballot rfl rfl (Nat.le_of_ble_eq_true rfl) (Nat.le_of_ble_eq_true rfl) hB k0 rfl (xw_pre hB hZ) (hl.1.trans hml.symm) (Nat.le_of_ble_eq_true rfl) rfl dc_L_ballot_5 (Nat.le_of_ble_eq_true rfl) (Nat.le_of_ble_eq_true rfl) (fun q k M2 H locs ce hX hce hv hcl hB => ?_) (fun v M1 H locs h hB => ?_)
  · obtain ⟨h1, h2⟩ := hX
    by_cases hk1 : k = 1
    · subst hk1
      have h := h1 rfl
      refine xw_catch (k := 1) hown hts [] ⟨0, 10, 13, 13⟩ [⟨0, 10, 17, 19⟩] hexc (fun z hz => by cases hz) (by decide) (by decide) mw_326 hZ.2.2.2.1 hce hv hcl ?_
      refine lv_astore hx hb dc_L_ballot_13 hl (by decide) rfl (fun ls hl => ?_)
      refine lv_iconst (v := 1) hx hb dc_L_ballot_15 rfl ?_
      exact xw_iret hx hb hr hlocks hB h dc_L_ballot_16
    · have hX := h2 hk1
      obtain ⟨h1, h2⟩ := hX
      by_cases hk2 : k = 2
      · subst hk2
        have h := h1 rfl
        refine xw_catch (k := 2) hown hts [⟨0, 10, 13, 13⟩] ⟨0, 10, 17, 19⟩ [] hexc (fun z hz => by rcases List.mem_singleton.mp hz with rfl; exact ⟨by decide, _, mw_326, hN.2⟩) (by decide) (by decide) mw_400 hZ.2.2.2.2.1 hce hv hcl ?_
        refine lv_astore hx hb dc_L_ballot_17 hl (by decide) rfl (fun ls hl => ?_)
        refine lv_iconst (v := 2) hx hb dc_L_ballot_19 rfl ?_
        exact xw_iret hx hb hr hlocks hB h dc_L_ballot_20
      · have hX := h2 hk2
        exact False.elim hX
  · obtain ⟨r3, rfl, h⟩ := h
    refine lv_i2l hx hb dc_L_ballot_8 rfl ?_
    obtain ⟨hi4, h⟩ := h
    refine ow_last hx hb hB k3 hi4 dc_L_ballot_9 (fun H locs hB => ?_)
    refine lv_goto hx hb dc_L_ballot_10 rfl ?_
    refine lv_iconst (v := 0) hx hb dc_L_ballot_21 rfl ?_
    exact xw_iret hx hb hr hlocks hB h dc_L_ballot_22
abbrev rm_L_amount : Room := { frames := 8, cells := 2, slots := 12, locals := 143 }
theorem hd_L_amount : yn_L_amount.cls ≠ "java/lang/invoke/MethodHandle" ∧ yn_L_amount.cls ≠ "java/lang/invoke/VarHandle" ∧ (parseMethodDescriptor yn_L_amount.desc).map (fun d => d.parameters.length) = some 4 := by decide +kernel
set_option maxHeartbeats 4000000 in
set_option maxRecDepth 100000 in
theorem ct_L_amount (l : Launch) (hfl : l.flags = Jvm.pinnedFlags ++ [Jvm.noTraceFlag]) (G : List (Nat × Nat)) (hG : ow_lay G) (D : va_G) (cA : Nat → ClassId) (ad : Nat → Nat) (F : Nat) (o0 : Nat) (k0 : ow_kd G o0 = (3, 0)) (x1 : Int32) (x2 : Int32) (o3 : Nat) (n3 : Nat) (k3 : ow_kd G o3 = (4, n3)) (M : om_M) (Q : Int32 → om_M → Prop) (h : wp_L_amount F o0 x1 x2 o3 n3 M Q) : xw_Met l yn_L_amount (hw_ws yn_L_amount cb_L_amount 5 (some .int) [(0, 10, 13, 24), (0, 10, 17, 13)]) rm_L_amount (hw_Pc G D cA ad M [.ref (ad o0), .int x1, .int x2, .ref (ad o3)]) (xw_Q G D cA ad (xw_ri Q) (fun _ _ => False)) 2 12 (ow_A G ad) := by
  refine hw_ofW (cc := cb_L_amount) (maxL := 5) (ret := (some .int)) (hh := [(0, 10, 13, 24), (0, 10, 17, 13)]) (by decide) rfl ?_
  intro p e s m args below meth c s₁ B hml hexc hv
  obtain ⟨rfl, ⟨hB, hZ⟩, hN⟩ := hv
  have htr := Launch.traces_off hfl B.admits
  have hx := B.exec
  have hb := B.bytes
  have hr := B.returns
  have hlocks := B.notSynchronized
  have hts : ∀ w ∈ lw_g, w.before ([.ref (ad o0), .int x1, .int x2, .ref (ad o3)] : List Value).toArray s = true := fun w h => atoms_spec (ws := hw_ws yn_L_amount cb_L_amount 5 (some .int) [(0, 10, 13, 24), (0, 10, 17, 13)]) B.pre w (List.mem_cons_of_mem _ h)
  have hown : s.vm.findClass "BallotDeskLaw" = some m.cls := findClass_of_methodNamed B.named
  clear B
  have hl := lv_entry ([.ref (ad o0), .int x1, .int x2, .ref (ad o3)]) (n := 5) (Nat.le_of_ble_eq_true rfl)
  rw [lg_entry_eq]
  generalize (lg_sl ([.ref (ad o0), .int x1, .int x2, .ref (ad o3)]) ++ List.replicate (5 - (lg_sl ([.ref (ad o0), .int x1, .int x2, .ref (ad o3)])).length) Slot.unset).toArray = ls at hl ⊢
  have hl : lv_has ls 5 [(0, .ref (ad o0)), (1, .int x1), (2, .int x2), (3, .ref (ad o3))] := hl
  show W p l e rm_L_amount s m _ below meth c s.heap [] 0 0 _ _
  refine lv_aload_n hx hb dc_L_amount_0 rfl (lv_at hl 3 rfl) ?_
  refine lv_iconst (v := 0) hx hb dc_L_amount_1 rfl ?_
  refine lv_aload_n hx hb dc_L_amount_2 rfl (lv_at hl 0 rfl) ?_
  refine lv_iload_n hx hb dc_L_amount_3 rfl (lv_at hl 1 rfl) ?_
  refine lv_iload_n hx hb dc_L_amount_4 rfl (lv_at hl 2 rfl) ?_
  refine xw_callV (As := [.int x1, .int x2]) (rest := [.int 0, .ref (ad o3)]) (maxL := 4) (mc := 2) (ms := 12) hx hb hown hts (ct_D_amount l hfl G hG D cA ad F _ k0 _ _ _ _ _ h) (ow_wsin mw_443) mw_443 mw_1 mw_440 mw_441 mw_442 hd_D_amount rfl rfl (Nat.le_of_ble_eq_true rfl) (Nat.le_of_ble_eq_true rfl) hB k0 rfl (xw_pre hB hZ) (hl.1.trans hml.symm) (Nat.le_of_ble_eq_true rfl) rfl dc_L_amount_5 (Nat.le_of_ble_eq_true rfl) (Nat.le_of_ble_eq_true rfl) (fun q k M2 H locs ce hX hce hv hcl hB => ?_) (fun v M1 H locs h hB => ?_)
  · obtain ⟨h1, h2⟩ := hX
    by_cases hk0 : k = 0
    · subst hk0
      have h := h1 rfl
      refine xw_catch (k := 0) hown hts [] ⟨0, 10, 13, 24⟩ [⟨0, 10, 17, 13⟩] hexc (fun z hz => by cases hz) (by decide) (by decide) mw_439 hZ.2.2.1 hce hv hcl ?_
      refine lv_astore hx hb dc_L_amount_13 hl (by decide) rfl (fun ls hl => ?_)
      refine lv_iconst (v := 1) hx hb dc_L_amount_15 rfl ?_
      exact xw_iret hx hb hr hlocks hB h dc_L_amount_16
    · have hX := h2 hk0
      obtain ⟨h1, h2⟩ := hX
      by_cases hk1 : k = 1
      · subst hk1
        have h := h1 rfl
        refine xw_catch (k := 1) hown hts [⟨0, 10, 13, 24⟩] ⟨0, 10, 17, 13⟩ [] hexc (fun z hz => by rcases List.mem_singleton.mp hz with rfl; exact ⟨by decide, _, mw_439, hN.1⟩) (by decide) (by decide) mw_326 hZ.2.2.2.1 hce hv hcl ?_
        refine lv_astore hx hb dc_L_amount_17 hl (by decide) rfl (fun ls hl => ?_)
        refine lv_iconst (v := 2) hx hb dc_L_amount_19 rfl ?_
        exact xw_iret hx hb hr hlocks hB h dc_L_amount_20
      · have hX := h2 hk1
        exact False.elim hX
  · obtain ⟨r3, rfl, h⟩ := h
    refine lv_i2l hx hb dc_L_amount_8 rfl ?_
    obtain ⟨hi4, h⟩ := h
    refine ow_last hx hb hB k3 hi4 dc_L_amount_9 (fun H locs hB => ?_)
    refine lv_goto hx hb dc_L_amount_10 rfl ?_
    refine lv_iconst (v := 0) hx hb dc_L_amount_21 rfl ?_
    exact xw_iret hx hb hr hlocks hB h dc_L_amount_22
abbrev rm_L_drop : Room := { frames := 8, cells := 1, slots := 6, locals := 141 }
theorem hd_L_drop : yn_L_drop.cls ≠ "java/lang/invoke/MethodHandle" ∧ yn_L_drop.cls ≠ "java/lang/invoke/VarHandle" ∧ (parseMethodDescriptor yn_L_drop.desc).map (fun d => d.parameters.length) = some 3 := by decide +kernel
set_option maxHeartbeats 4000000 in
set_option maxRecDepth 100000 in
theorem ct_L_drop (l : Launch) (hfl : l.flags = Jvm.pinnedFlags ++ [Jvm.noTraceFlag]) (G : List (Nat × Nat)) (hG : ow_lay G) (D : va_G) (cA : Nat → ClassId) (ad : Nat → Nat) (F : Nat) (o0 : Nat) (k0 : ow_kd G o0 = (3, 0)) (x1 : Int32) (o2 : Nat) (n2 : Nat) (k2 : ow_kd G o2 = (4, n2)) (M : om_M) (Q : Int32 → om_M → Prop) (h : wp_L_drop F o0 x1 o2 n2 M Q) : xw_Met l yn_L_drop (hw_ws yn_L_drop cb_L_drop 4 (some .int) [(0, 9, 12, 24)]) rm_L_drop (hw_Pc G D cA ad M [.ref (ad o0), .int x1, .ref (ad o2)]) (xw_Q G D cA ad (xw_ri Q) (fun _ _ => False)) 1 6 (ow_A G ad) := by
  refine hw_ofW (cc := cb_L_drop) (maxL := 4) (ret := (some .int)) (hh := [(0, 9, 12, 24)]) (by decide) rfl ?_
  intro p e s m args below meth c s₁ B hml hexc hv
  obtain ⟨rfl, ⟨hB, hZ⟩, hN⟩ := hv
  have htr := Launch.traces_off hfl B.admits
  have hx := B.exec
  have hb := B.bytes
  have hr := B.returns
  have hlocks := B.notSynchronized
  have hts : ∀ w ∈ lw_g, w.before ([.ref (ad o0), .int x1, .ref (ad o2)] : List Value).toArray s = true := fun w h => atoms_spec (ws := hw_ws yn_L_drop cb_L_drop 4 (some .int) [(0, 9, 12, 24)]) B.pre w (List.mem_cons_of_mem _ h)
  have hown : s.vm.findClass "BallotDeskLaw" = some m.cls := findClass_of_methodNamed B.named
  clear B
  have hl := lv_entry ([.ref (ad o0), .int x1, .ref (ad o2)]) (n := 4) (Nat.le_of_ble_eq_true rfl)
  rw [lg_entry_eq]
  generalize (lg_sl ([.ref (ad o0), .int x1, .ref (ad o2)]) ++ List.replicate (4 - (lg_sl ([.ref (ad o0), .int x1, .ref (ad o2)])).length) Slot.unset).toArray = ls at hl ⊢
  have hl : lv_has ls 4 [(0, .ref (ad o0)), (1, .int x1), (2, .ref (ad o2))] := hl
  show W p l e rm_L_drop s m _ below meth c s.heap [] 0 0 _ _
  refine lv_aload_n hx hb dc_L_drop_0 rfl (lv_at hl 2 rfl) ?_
  refine lv_iconst (v := 0) hx hb dc_L_drop_1 rfl ?_
  refine lv_aload_n hx hb dc_L_drop_2 rfl (lv_at hl 0 rfl) ?_
  refine lv_iload_n hx hb dc_L_drop_3 rfl (lv_at hl 1 rfl) ?_
  refine xw_callV (As := [.int x1]) (rest := [.int 0, .ref (ad o2)]) (maxL := 2) (mc := 1) (ms := 6) hx hb hown hts (ct_D_drop l hfl G hG D cA ad F _ k0 _ _ _ _ h) (ow_wsin mw_476) mw_476 mw_1 mw_473 mw_474 mw_475 hd_D_drop rfl rfl (Nat.le_of_ble_eq_true rfl) (Nat.le_of_ble_eq_true rfl) hB k0 rfl (xw_pre hB hZ) (hl.1.trans hml.symm) (Nat.le_of_ble_eq_true rfl) rfl dc_L_drop_4 (Nat.le_of_ble_eq_true rfl) (Nat.le_of_ble_eq_true rfl) (fun q k M2 H locs ce hX hce hv hcl hB => ?_) (fun v M1 H locs h hB => ?_)
  · obtain ⟨h1, h2⟩ := hX
    by_cases hk0 : k = 0
    · subst hk0
      have h := h1 rfl
      refine xw_catch (k := 0) hown hts [] ⟨0, 9, 12, 24⟩ [] hexc (fun z hz => by cases hz) (by decide) (by decide) mw_439 hZ.2.2.1 hce hv hcl ?_
      refine lv_astore_n hx hb dc_L_drop_12 rfl hl (by decide) rfl (fun ls hl => ?_)
      refine lv_iconst (v := 1) hx hb dc_L_drop_13 rfl ?_
      exact xw_iret hx hb hr hlocks hB h dc_L_drop_14
    · have hX := h2 hk0
      exact False.elim hX
  · obtain ⟨r3, rfl, h⟩ := h
    refine lv_i2l hx hb dc_L_drop_7 rfl ?_
    obtain ⟨hi4, h⟩ := h
    refine ow_last hx hb hB k2 hi4 dc_L_drop_8 (fun H locs hB => ?_)
    refine lv_goto hx hb dc_L_drop_9 rfl ?_
    refine lv_iconst (v := 0) hx hb dc_L_drop_15 rfl ?_
    exact xw_iret hx hb hr hlocks hB h dc_L_drop_16
abbrev rm_L_tieOrder : Room := { frames := 8, cells := 1, slots := 6, locals := 142 }
theorem hd_L_tieOrder : yn_L_tieOrder.cls ≠ "java/lang/invoke/MethodHandle" ∧ yn_L_tieOrder.cls ≠ "java/lang/invoke/VarHandle" ∧ (parseMethodDescriptor yn_L_tieOrder.desc).map (fun d => d.parameters.length) = some 3 := by decide +kernel
set_option maxHeartbeats 4000000 in
set_option maxRecDepth 100000 in
theorem ct_L_tieOrder (l : Launch) (hfl : l.flags = Jvm.pinnedFlags ++ [Jvm.noTraceFlag]) (G : List (Nat × Nat)) (hG : ow_lay G) (D : va_G) (cA : Nat → ClassId) (ad : Nat → Nat) (F : Nat) (o0 : Nat) (k0 : ow_kd G o0 = (3, 0)) (x1 : Int32) (o2 : Nat) (n2 : Nat) (k2 : ow_kd G o2 = (4, n2)) (M : om_M) (Q : Int32 → om_M → Prop) (h : wp_L_tieOrder F o0 x1 o2 n2 M Q) : xw_Met l yn_L_tieOrder (hw_ws yn_L_tieOrder cb_L_tieOrder 4 (some .int) [(0, 9, 12, 13)]) rm_L_tieOrder (hw_Pc G D cA ad M [.ref (ad o0), .int x1, .ref (ad o2)]) (xw_Q G D cA ad (xw_ri Q) (fun _ _ => False)) 1 6 (ow_A G ad) := by
  refine hw_ofW (cc := cb_L_tieOrder) (maxL := 4) (ret := (some .int)) (hh := [(0, 9, 12, 13)]) (by decide) rfl ?_
  intro p e s m args below meth c s₁ B hml hexc hv
  obtain ⟨rfl, ⟨hB, hZ⟩, hN⟩ := hv
  have htr := Launch.traces_off hfl B.admits
  have hx := B.exec
  have hb := B.bytes
  have hr := B.returns
  have hlocks := B.notSynchronized
  have hts : ∀ w ∈ lw_g, w.before ([.ref (ad o0), .int x1, .ref (ad o2)] : List Value).toArray s = true := fun w h => atoms_spec (ws := hw_ws yn_L_tieOrder cb_L_tieOrder 4 (some .int) [(0, 9, 12, 13)]) B.pre w (List.mem_cons_of_mem _ h)
  have hown : s.vm.findClass "BallotDeskLaw" = some m.cls := findClass_of_methodNamed B.named
  clear B
  have hl := lv_entry ([.ref (ad o0), .int x1, .ref (ad o2)]) (n := 4) (Nat.le_of_ble_eq_true rfl)
  rw [lg_entry_eq]
  generalize (lg_sl ([.ref (ad o0), .int x1, .ref (ad o2)]) ++ List.replicate (4 - (lg_sl ([.ref (ad o0), .int x1, .ref (ad o2)])).length) Slot.unset).toArray = ls at hl ⊢
  have hl : lv_has ls 4 [(0, .ref (ad o0)), (1, .int x1), (2, .ref (ad o2))] := hl
  show W p l e rm_L_tieOrder s m _ below meth c s.heap [] 0 0 _ _
  refine lv_aload_n hx hb dc_L_tieOrder_0 rfl (lv_at hl 2 rfl) ?_
  refine lv_iconst (v := 0) hx hb dc_L_tieOrder_1 rfl ?_
  refine lv_aload_n hx hb dc_L_tieOrder_2 rfl (lv_at hl 0 rfl) ?_
  refine lv_iload_n hx hb dc_L_tieOrder_3 rfl (lv_at hl 1 rfl) ?_
  refine xw_callV (As := [.int x1]) (rest := [.int 0, .ref (ad o2)]) (maxL := 3) (mc := 1) (ms := 6) hx hb hown hts (ct_D_tieOrder l hfl G hG D cA ad F _ k0 _ _ _ _ h) (ow_wsin mw_487) mw_487 mw_1 mw_484 mw_485 mw_486 hd_D_tieOrder rfl rfl (Nat.le_of_ble_eq_true rfl) (Nat.le_of_ble_eq_true rfl) hB k0 rfl (xw_pre hB hZ) (hl.1.trans hml.symm) (Nat.le_of_ble_eq_true rfl) rfl dc_L_tieOrder_4 (Nat.le_of_ble_eq_true rfl) (Nat.le_of_ble_eq_true rfl) (fun q k M2 H locs ce hX hce hv hcl hB => ?_) (fun v M1 H locs h hB => ?_)
  · obtain ⟨h1, h2⟩ := hX
    by_cases hk1 : k = 1
    · subst hk1
      have h := h1 rfl
      refine xw_catch (k := 1) hown hts [] ⟨0, 9, 12, 13⟩ [] hexc (fun z hz => by cases hz) (by decide) (by decide) mw_326 hZ.2.2.2.1 hce hv hcl ?_
      refine lv_astore_n hx hb dc_L_tieOrder_12 rfl hl (by decide) rfl (fun ls hl => ?_)
      refine lv_iconst (v := 1) hx hb dc_L_tieOrder_13 rfl ?_
      exact xw_iret hx hb hr hlocks hB h dc_L_tieOrder_14
    · have hX := h2 hk1
      exact False.elim hX
  · obtain ⟨r3, rfl, h⟩ := h
    refine lv_i2l hx hb dc_L_tieOrder_7 rfl ?_
    obtain ⟨hi4, h⟩ := h
    refine ow_last hx hb hB k2 hi4 dc_L_tieOrder_8 (fun H locs hB => ?_)
    refine lv_goto hx hb dc_L_tieOrder_9 rfl ?_
    refine lv_iconst (v := 0) hx hb dc_L_tieOrder_15 rfl ?_
    exact xw_iret hx hb hr hlocks hB h dc_L_tieOrder_16
abbrev rm_L_agenda : Room := { frames := 8, cells := 1, slots := 6, locals := 142 }
theorem hd_L_agenda : yn_L_agenda.cls ≠ "java/lang/invoke/MethodHandle" ∧ yn_L_agenda.cls ≠ "java/lang/invoke/VarHandle" ∧ (parseMethodDescriptor yn_L_agenda.desc).map (fun d => d.parameters.length) = some 3 := by decide +kernel
set_option maxHeartbeats 4000000 in
set_option maxRecDepth 100000 in
theorem ct_L_agenda (l : Launch) (hfl : l.flags = Jvm.pinnedFlags ++ [Jvm.noTraceFlag]) (G : List (Nat × Nat)) (hG : ow_lay G) (D : va_G) (cA : Nat → ClassId) (ad : Nat → Nat) (F : Nat) (o0 : Nat) (k0 : ow_kd G o0 = (3, 0)) (x1 : Int32) (o2 : Nat) (n2 : Nat) (k2 : ow_kd G o2 = (4, n2)) (M : om_M) (Q : Int32 → om_M → Prop) (h : wp_L_agenda F o0 x1 o2 n2 M Q) : xw_Met l yn_L_agenda (hw_ws yn_L_agenda cb_L_agenda 4 (some .int) [(0, 9, 12, 13)]) rm_L_agenda (hw_Pc G D cA ad M [.ref (ad o0), .int x1, .ref (ad o2)]) (xw_Q G D cA ad (xw_ri Q) (fun _ _ => False)) 1 6 (ow_A G ad) := by
  refine hw_ofW (cc := cb_L_agenda) (maxL := 4) (ret := (some .int)) (hh := [(0, 9, 12, 13)]) (by decide) rfl ?_
  intro p e s m args below meth c s₁ B hml hexc hv
  obtain ⟨rfl, ⟨hB, hZ⟩, hN⟩ := hv
  have htr := Launch.traces_off hfl B.admits
  have hx := B.exec
  have hb := B.bytes
  have hr := B.returns
  have hlocks := B.notSynchronized
  have hts : ∀ w ∈ lw_g, w.before ([.ref (ad o0), .int x1, .ref (ad o2)] : List Value).toArray s = true := fun w h => atoms_spec (ws := hw_ws yn_L_agenda cb_L_agenda 4 (some .int) [(0, 9, 12, 13)]) B.pre w (List.mem_cons_of_mem _ h)
  have hown : s.vm.findClass "BallotDeskLaw" = some m.cls := findClass_of_methodNamed B.named
  clear B
  have hl := lv_entry ([.ref (ad o0), .int x1, .ref (ad o2)]) (n := 4) (Nat.le_of_ble_eq_true rfl)
  rw [lg_entry_eq]
  generalize (lg_sl ([.ref (ad o0), .int x1, .ref (ad o2)]) ++ List.replicate (4 - (lg_sl ([.ref (ad o0), .int x1, .ref (ad o2)])).length) Slot.unset).toArray = ls at hl ⊢
  have hl : lv_has ls 4 [(0, .ref (ad o0)), (1, .int x1), (2, .ref (ad o2))] := hl
  show W p l e rm_L_agenda s m _ below meth c s.heap [] 0 0 _ _
  refine lv_aload_n hx hb dc_L_agenda_0 rfl (lv_at hl 2 rfl) ?_
  refine lv_iconst (v := 0) hx hb dc_L_agenda_1 rfl ?_
  refine lv_aload_n hx hb dc_L_agenda_2 rfl (lv_at hl 0 rfl) ?_
  refine lv_iload_n hx hb dc_L_agenda_3 rfl (lv_at hl 1 rfl) ?_
  refine xw_callV (As := [.int x1]) (rest := [.int 0, .ref (ad o2)]) (maxL := 3) (mc := 1) (ms := 6) hx hb hown hts (ct_D_agenda l hfl G hG D cA ad F _ k0 _ _ _ _ h) (ow_wsin mw_494) mw_494 mw_1 mw_491 mw_492 mw_493 hd_D_agenda rfl rfl (Nat.le_of_ble_eq_true rfl) (Nat.le_of_ble_eq_true rfl) hB k0 rfl (xw_pre hB hZ) (hl.1.trans hml.symm) (Nat.le_of_ble_eq_true rfl) rfl dc_L_agenda_4 (Nat.le_of_ble_eq_true rfl) (Nat.le_of_ble_eq_true rfl) (fun q k M2 H locs ce hX hce hv hcl hB => ?_) (fun v M1 H locs h hB => ?_)
  · obtain ⟨h1, h2⟩ := hX
    by_cases hk1 : k = 1
    · subst hk1
      have h := h1 rfl
      refine xw_catch (k := 1) hown hts [] ⟨0, 9, 12, 13⟩ [] hexc (fun z hz => by cases hz) (by decide) (by decide) mw_326 hZ.2.2.2.1 hce hv hcl ?_
      refine lv_astore_n hx hb dc_L_agenda_12 rfl hl (by decide) rfl (fun ls hl => ?_)
      refine lv_iconst (v := 1) hx hb dc_L_agenda_13 rfl ?_
      exact xw_iret hx hb hr hlocks hB h dc_L_agenda_14
    · have hX := h2 hk1
      exact False.elim hX
  · obtain ⟨r3, rfl, h⟩ := h
    refine lv_i2l hx hb dc_L_agenda_7 rfl ?_
    obtain ⟨hi4, h⟩ := h
    refine ow_last hx hb hB k2 hi4 dc_L_agenda_8 (fun H locs hB => ?_)
    refine lv_goto hx hb dc_L_agenda_9 rfl ?_
    refine lv_iconst (v := 0) hx hb dc_L_agenda_15 rfl ?_
    exact xw_iret hx hb hr hlocks hB h dc_L_agenda_16
abbrev rm_L_weight : Room := { frames := 8, cells := 2, slots := 12, locals := 143 }
theorem hd_L_weight : yn_L_weight.cls ≠ "java/lang/invoke/MethodHandle" ∧ yn_L_weight.cls ≠ "java/lang/invoke/VarHandle" ∧ (parseMethodDescriptor yn_L_weight.desc).map (fun d => d.parameters.length) = some 4 := by decide +kernel
set_option maxHeartbeats 4000000 in
set_option maxRecDepth 100000 in
theorem ct_L_weight (l : Launch) (hfl : l.flags = Jvm.pinnedFlags ++ [Jvm.noTraceFlag]) (G : List (Nat × Nat)) (hG : ow_lay G) (D : va_G) (cA : Nat → ClassId) (ad : Nat → Nat) (F : Nat) (o0 : Nat) (k0 : ow_kd G o0 = (3, 0)) (x1 : Int32) (x2 : Int32) (o3 : Nat) (n3 : Nat) (k3 : ow_kd G o3 = (4, n3)) (M : om_M) (Q : Int32 → om_M → Prop) (h : wp_L_weight F o0 x1 x2 o3 n3 M Q) : xw_Met l yn_L_weight (hw_ws yn_L_weight cb_L_weight 5 (some .int) [(0, 10, 13, 24), (0, 10, 17, 13)]) rm_L_weight (hw_Pc G D cA ad M [.ref (ad o0), .int x1, .int x2, .ref (ad o3)]) (xw_Q G D cA ad (xw_ri Q) (fun _ _ => False)) 2 12 (ow_A G ad) := by
  refine hw_ofW (cc := cb_L_weight) (maxL := 5) (ret := (some .int)) (hh := [(0, 10, 13, 24), (0, 10, 17, 13)]) (by decide) rfl ?_
  intro p e s m args below meth c s₁ B hml hexc hv
  obtain ⟨rfl, ⟨hB, hZ⟩, hN⟩ := hv
  have htr := Launch.traces_off hfl B.admits
  have hx := B.exec
  have hb := B.bytes
  have hr := B.returns
  have hlocks := B.notSynchronized
  have hts : ∀ w ∈ lw_g, w.before ([.ref (ad o0), .int x1, .int x2, .ref (ad o3)] : List Value).toArray s = true := fun w h => atoms_spec (ws := hw_ws yn_L_weight cb_L_weight 5 (some .int) [(0, 10, 13, 24), (0, 10, 17, 13)]) B.pre w (List.mem_cons_of_mem _ h)
  have hown : s.vm.findClass "BallotDeskLaw" = some m.cls := findClass_of_methodNamed B.named
  clear B
  have hl := lv_entry ([.ref (ad o0), .int x1, .int x2, .ref (ad o3)]) (n := 5) (Nat.le_of_ble_eq_true rfl)
  rw [lg_entry_eq]
  generalize (lg_sl ([.ref (ad o0), .int x1, .int x2, .ref (ad o3)]) ++ List.replicate (5 - (lg_sl ([.ref (ad o0), .int x1, .int x2, .ref (ad o3)])).length) Slot.unset).toArray = ls at hl ⊢
  have hl : lv_has ls 5 [(0, .ref (ad o0)), (1, .int x1), (2, .int x2), (3, .ref (ad o3))] := hl
  show W p l e rm_L_weight s m _ below meth c s.heap [] 0 0 _ _
  refine lv_aload_n hx hb dc_L_weight_0 rfl (lv_at hl 3 rfl) ?_
  refine lv_iconst (v := 0) hx hb dc_L_weight_1 rfl ?_
  refine lv_aload_n hx hb dc_L_weight_2 rfl (lv_at hl 0 rfl) ?_
  refine lv_iload_n hx hb dc_L_weight_3 rfl (lv_at hl 1 rfl) ?_
  refine lv_iload_n hx hb dc_L_weight_4 rfl (lv_at hl 2 rfl) ?_
  refine xw_callV (As := [.int x1, .int x2]) (rest := [.int 0, .ref (ad o3)]) (maxL := 4) (mc := 2) (ms := 12) hx hb hown hts (ct_D_weight l hfl G hG D cA ad F _ k0 _ _ _ _ _ h) (ow_wsin mw_501) mw_501 mw_1 mw_498 mw_499 mw_500 hd_D_weight rfl rfl (Nat.le_of_ble_eq_true rfl) (Nat.le_of_ble_eq_true rfl) hB k0 rfl (xw_pre hB hZ) (hl.1.trans hml.symm) (Nat.le_of_ble_eq_true rfl) rfl dc_L_weight_5 (Nat.le_of_ble_eq_true rfl) (Nat.le_of_ble_eq_true rfl) (fun q k M2 H locs ce hX hce hv hcl hB => ?_) (fun v M1 H locs h hB => ?_)
  · obtain ⟨h1, h2⟩ := hX
    by_cases hk0 : k = 0
    · subst hk0
      have h := h1 rfl
      refine xw_catch (k := 0) hown hts [] ⟨0, 10, 13, 24⟩ [⟨0, 10, 17, 13⟩] hexc (fun z hz => by cases hz) (by decide) (by decide) mw_439 hZ.2.2.1 hce hv hcl ?_
      refine lv_astore hx hb dc_L_weight_13 hl (by decide) rfl (fun ls hl => ?_)
      refine lv_iconst (v := 1) hx hb dc_L_weight_15 rfl ?_
      exact xw_iret hx hb hr hlocks hB h dc_L_weight_16
    · have hX := h2 hk0
      obtain ⟨h1, h2⟩ := hX
      by_cases hk1 : k = 1
      · subst hk1
        have h := h1 rfl
        refine xw_catch (k := 1) hown hts [⟨0, 10, 13, 24⟩] ⟨0, 10, 17, 13⟩ [] hexc (fun z hz => by rcases List.mem_singleton.mp hz with rfl; exact ⟨by decide, _, mw_439, hN.1⟩) (by decide) (by decide) mw_326 hZ.2.2.2.1 hce hv hcl ?_
        refine lv_astore hx hb dc_L_weight_17 hl (by decide) rfl (fun ls hl => ?_)
        refine lv_iconst (v := 2) hx hb dc_L_weight_19 rfl ?_
        exact xw_iret hx hb hr hlocks hB h dc_L_weight_20
      · have hX := h2 hk1
        exact False.elim hX
  · obtain ⟨r3, rfl, h⟩ := h
    refine lv_i2l hx hb dc_L_weight_8 rfl ?_
    obtain ⟨hi4, h⟩ := h
    refine ow_last hx hb hB k3 hi4 dc_L_weight_9 (fun H locs hB => ?_)
    refine lv_goto hx hb dc_L_weight_10 rfl ?_
    refine lv_iconst (v := 0) hx hb dc_L_weight_21 rfl ?_
    exact xw_iret hx hb hr hlocks hB h dc_L_weight_22
abbrev rm_L_winners : Room := { frames := 8, cells := 1, slots := 6, locals := 142 }
theorem hd_L_winners : yn_L_winners.cls ≠ "java/lang/invoke/MethodHandle" ∧ yn_L_winners.cls ≠ "java/lang/invoke/VarHandle" ∧ (parseMethodDescriptor yn_L_winners.desc).map (fun d => d.parameters.length) = some 3 := by decide +kernel
set_option maxHeartbeats 4000000 in
set_option maxRecDepth 100000 in
theorem ct_L_winners (l : Launch) (hfl : l.flags = Jvm.pinnedFlags ++ [Jvm.noTraceFlag]) (G : List (Nat × Nat)) (hG : ow_lay G) (D : va_G) (cA : Nat → ClassId) (ad : Nat → Nat) (F : Nat) (o0 : Nat) (k0 : ow_kd G o0 = (3, 0)) (x1 : Int32) (o2 : Nat) (n2 : Nat) (k2 : ow_kd G o2 = (4, n2)) (M : om_M) (Q : Int32 → om_M → Prop) (h : wp_L_winners F o0 x1 o2 n2 M Q) : xw_Met l yn_L_winners (hw_ws yn_L_winners cb_L_winners 4 (some .int) [(0, 9, 12, 24)]) rm_L_winners (hw_Pc G D cA ad M [.ref (ad o0), .int x1, .ref (ad o2)]) (xw_Q G D cA ad (xw_ri Q) (fun _ _ => False)) 1 6 (ow_A G ad) := by
  refine hw_ofW (cc := cb_L_winners) (maxL := 4) (ret := (some .int)) (hh := [(0, 9, 12, 24)]) (by decide) rfl ?_
  intro p e s m args below meth c s₁ B hml hexc hv
  obtain ⟨rfl, ⟨hB, hZ⟩, hN⟩ := hv
  have htr := Launch.traces_off hfl B.admits
  have hx := B.exec
  have hb := B.bytes
  have hr := B.returns
  have hlocks := B.notSynchronized
  have hts : ∀ w ∈ lw_g, w.before ([.ref (ad o0), .int x1, .ref (ad o2)] : List Value).toArray s = true := fun w h => atoms_spec (ws := hw_ws yn_L_winners cb_L_winners 4 (some .int) [(0, 9, 12, 24)]) B.pre w (List.mem_cons_of_mem _ h)
  have hown : s.vm.findClass "BallotDeskLaw" = some m.cls := findClass_of_methodNamed B.named
  clear B
  have hl := lv_entry ([.ref (ad o0), .int x1, .ref (ad o2)]) (n := 4) (Nat.le_of_ble_eq_true rfl)
  rw [lg_entry_eq]
  generalize (lg_sl ([.ref (ad o0), .int x1, .ref (ad o2)]) ++ List.replicate (4 - (lg_sl ([.ref (ad o0), .int x1, .ref (ad o2)])).length) Slot.unset).toArray = ls at hl ⊢
  have hl : lv_has ls 4 [(0, .ref (ad o0)), (1, .int x1), (2, .ref (ad o2))] := hl
  show W p l e rm_L_winners s m _ below meth c s.heap [] 0 0 _ _
  refine lv_aload_n hx hb dc_L_winners_0 rfl (lv_at hl 2 rfl) ?_
  refine lv_iconst (v := 0) hx hb dc_L_winners_1 rfl ?_
  refine lv_aload_n hx hb dc_L_winners_2 rfl (lv_at hl 0 rfl) ?_
  refine lv_iload_n hx hb dc_L_winners_3 rfl (lv_at hl 1 rfl) ?_
  refine xw_callV (As := [.int x1]) (rest := [.int 0, .ref (ad o2)]) (maxL := 2) (mc := 1) (ms := 6) hx hb hown hts (ct_D_winners l hfl G hG D cA ad F _ k0 _ _ _ _ h) (ow_wsin mw_508) mw_508 mw_1 mw_505 mw_506 mw_507 hd_D_winners rfl rfl (Nat.le_of_ble_eq_true rfl) (Nat.le_of_ble_eq_true rfl) hB k0 rfl (xw_pre hB hZ) (hl.1.trans hml.symm) (Nat.le_of_ble_eq_true rfl) rfl dc_L_winners_4 (Nat.le_of_ble_eq_true rfl) (Nat.le_of_ble_eq_true rfl) (fun q k M2 H locs ce hX hce hv hcl hB => ?_) (fun v M1 H locs h hB => ?_)
  · obtain ⟨h1, h2⟩ := hX
    by_cases hk0 : k = 0
    · subst hk0
      have h := h1 rfl
      refine xw_catch (k := 0) hown hts [] ⟨0, 9, 12, 24⟩ [] hexc (fun z hz => by cases hz) (by decide) (by decide) mw_439 hZ.2.2.1 hce hv hcl ?_
      refine lv_astore_n hx hb dc_L_winners_12 rfl hl (by decide) rfl (fun ls hl => ?_)
      refine lv_iconst (v := 1) hx hb dc_L_winners_13 rfl ?_
      exact xw_iret hx hb hr hlocks hB h dc_L_winners_14
    · have hX := h2 hk0
      exact False.elim hX
  · obtain ⟨r3, rfl, h⟩ := h
    refine lv_i2l hx hb dc_L_winners_7 rfl ?_
    obtain ⟨hi4, h⟩ := h
    refine ow_last hx hb hB k2 hi4 dc_L_winners_8 (fun H locs hB => ?_)
    refine lv_goto hx hb dc_L_winners_9 rfl ?_
    refine lv_iconst (v := 0) hx hb dc_L_winners_15 rfl ?_
    exact xw_iret hx hb hr hlocks hB h dc_L_winners_16
abbrev rm_L_winner : Room := { frames := 8, cells := 1, slots := 6, locals := 164 }
theorem hd_L_winner : yn_L_winner.cls ≠ "java/lang/invoke/MethodHandle" ∧ yn_L_winner.cls ≠ "java/lang/invoke/VarHandle" ∧ (parseMethodDescriptor yn_L_winner.desc).map (fun d => d.parameters.length) = some 3 := by decide +kernel
set_option maxHeartbeats 4000000 in
set_option maxRecDepth 100000 in
theorem ct_L_winner (l : Launch) (hfl : l.flags = Jvm.pinnedFlags ++ [Jvm.noTraceFlag]) (G : List (Nat × Nat)) (hG : ow_lay G) (D : va_G) (cA : Nat → ClassId) (ad : Nat → Nat) (F : Nat) (o0 : Nat) (k0 : ow_kd G o0 = (3, 0)) (x1 : Int32) (o2 : Nat) (n2 : Nat) (k2 : ow_kd G o2 = (4, n2)) (M : om_M) (Q : Int32 → om_M → Prop) (h : wp_L_winner F o0 x1 o2 n2 M Q) : xw_Met l yn_L_winner (hw_ws yn_L_winner cb_L_winner 4 (some .int) [(0, 9, 12, 24)]) rm_L_winner (hw_Pc G D cA ad M [.ref (ad o0), .int x1, .ref (ad o2)]) (xw_Q G D cA ad (xw_ri Q) (fun _ _ => False)) 1 6 (ow_A G ad) := by
  refine hw_ofW (cc := cb_L_winner) (maxL := 4) (ret := (some .int)) (hh := [(0, 9, 12, 24)]) (by decide) rfl ?_
  intro p e s m args below meth c s₁ B hml hexc hv
  obtain ⟨rfl, ⟨hB, hZ⟩, hN⟩ := hv
  have htr := Launch.traces_off hfl B.admits
  have hx := B.exec
  have hb := B.bytes
  have hr := B.returns
  have hlocks := B.notSynchronized
  have hts : ∀ w ∈ lw_g, w.before ([.ref (ad o0), .int x1, .ref (ad o2)] : List Value).toArray s = true := fun w h => atoms_spec (ws := hw_ws yn_L_winner cb_L_winner 4 (some .int) [(0, 9, 12, 24)]) B.pre w (List.mem_cons_of_mem _ h)
  have hown : s.vm.findClass "BallotDeskLaw" = some m.cls := findClass_of_methodNamed B.named
  clear B
  have hl := lv_entry ([.ref (ad o0), .int x1, .ref (ad o2)]) (n := 4) (Nat.le_of_ble_eq_true rfl)
  rw [lg_entry_eq]
  generalize (lg_sl ([.ref (ad o0), .int x1, .ref (ad o2)]) ++ List.replicate (4 - (lg_sl ([.ref (ad o0), .int x1, .ref (ad o2)])).length) Slot.unset).toArray = ls at hl ⊢
  have hl : lv_has ls 4 [(0, .ref (ad o0)), (1, .int x1), (2, .ref (ad o2))] := hl
  show W p l e rm_L_winner s m _ below meth c s.heap [] 0 0 _ _
  refine lv_aload_n hx hb dc_L_winner_0 rfl (lv_at hl 2 rfl) ?_
  refine lv_iconst (v := 0) hx hb dc_L_winner_1 rfl ?_
  refine lv_aload_n hx hb dc_L_winner_2 rfl (lv_at hl 0 rfl) ?_
  refine lv_iload_n hx hb dc_L_winner_3 rfl (lv_at hl 1 rfl) ?_
  refine xw_callV (As := [.int x1]) (rest := [.int 0, .ref (ad o2)]) (maxL := 2) (mc := 1) (ms := 6) hx hb hown hts (ct_D_winner l hfl G hG D cA ad F _ k0 _ _ _ _ h) (ow_wsin mw_611) mw_611 mw_1 mw_608 mw_609 mw_610 hd_D_winner rfl rfl (Nat.le_of_ble_eq_true rfl) (Nat.le_of_ble_eq_true rfl) hB k0 rfl (xw_pre hB hZ) (hl.1.trans hml.symm) (Nat.le_of_ble_eq_true rfl) rfl dc_L_winner_4 (Nat.le_of_ble_eq_true rfl) (Nat.le_of_ble_eq_true rfl) (fun q k M2 H locs ce hX hce hv hcl hB => ?_) (fun v M1 H locs h hB => ?_)
  · obtain ⟨h1, h2⟩ := hX
    by_cases hk0 : k = 0
    · subst hk0
      have h := h1 rfl
      refine xw_catch (k := 0) hown hts [] ⟨0, 9, 12, 24⟩ [] hexc (fun z hz => by cases hz) (by decide) (by decide) mw_439 hZ.2.2.1 hce hv hcl ?_
      refine lv_astore_n hx hb dc_L_winner_12 rfl hl (by decide) rfl (fun ls hl => ?_)
      refine lv_iconst (v := 1) hx hb dc_L_winner_13 rfl ?_
      exact xw_iret hx hb hr hlocks hB h dc_L_winner_14
    · have hX := h2 hk0
      exact False.elim hX
  · obtain ⟨r3, rfl, h⟩ := h
    refine lv_i2l hx hb dc_L_winner_7 rfl ?_
    obtain ⟨hi4, h⟩ := h
    refine ow_last hx hb hB k2 hi4 dc_L_winner_8 (fun H locs hB => ?_)
    refine lv_goto hx hb dc_L_winner_9 rfl ?_
    refine lv_iconst (v := 0) hx hb dc_L_winner_15 rfl ?_
    exact xw_iret hx hb hr hlocks hB h dc_L_winner_16
abbrev rm_L_score : Room := { frames := 8, cells := 2, slots := 12, locals := 142 }
theorem hd_L_score : yn_L_score.cls ≠ "java/lang/invoke/MethodHandle" ∧ yn_L_score.cls ≠ "java/lang/invoke/VarHandle" ∧ (parseMethodDescriptor yn_L_score.desc).map (fun d => d.parameters.length) = some 4 := by decide +kernel
set_option maxHeartbeats 4000000 in
set_option maxRecDepth 100000 in
theorem ct_L_score (l : Launch) (hfl : l.flags = Jvm.pinnedFlags ++ [Jvm.noTraceFlag]) (G : List (Nat × Nat)) (hG : ow_lay G) (D : va_G) (cA : Nat → ClassId) (ad : Nat → Nat) (F : Nat) (o0 : Nat) (k0 : ow_kd G o0 = (3, 0)) (x1 : Int32) (x2 : Int32) (o3 : Nat) (n3 : Nat) (k3 : ow_kd G o3 = (4, n3)) (M : om_M) (Q : Int32 → om_M → Prop) (h : wp_L_score F o0 x1 x2 o3 n3 M Q) : xw_Met l yn_L_score (hw_ws yn_L_score cb_L_score 5 (some .int) [(0, 9, 12, 24), (0, 9, 16, 13)]) rm_L_score (hw_Pc G D cA ad M [.ref (ad o0), .int x1, .int x2, .ref (ad o3)]) (xw_Q G D cA ad (xw_ri Q) (fun _ _ => False)) 2 12 (ow_A G ad) := by
  refine hw_ofW (cc := cb_L_score) (maxL := 5) (ret := (some .int)) (hh := [(0, 9, 12, 24), (0, 9, 16, 13)]) (by decide) rfl ?_
  intro p e s m args below meth c s₁ B hml hexc hv
  obtain ⟨rfl, ⟨hB, hZ⟩, hN⟩ := hv
  have htr := Launch.traces_off hfl B.admits
  have hx := B.exec
  have hb := B.bytes
  have hr := B.returns
  have hlocks := B.notSynchronized
  have hts : ∀ w ∈ lw_g, w.before ([.ref (ad o0), .int x1, .int x2, .ref (ad o3)] : List Value).toArray s = true := fun w h => atoms_spec (ws := hw_ws yn_L_score cb_L_score 5 (some .int) [(0, 9, 12, 24), (0, 9, 16, 13)]) B.pre w (List.mem_cons_of_mem _ h)
  have hown : s.vm.findClass "BallotDeskLaw" = some m.cls := findClass_of_methodNamed B.named
  clear B
  have hl := lv_entry ([.ref (ad o0), .int x1, .int x2, .ref (ad o3)]) (n := 5) (Nat.le_of_ble_eq_true rfl)
  rw [lg_entry_eq]
  generalize (lg_sl ([.ref (ad o0), .int x1, .int x2, .ref (ad o3)]) ++ List.replicate (5 - (lg_sl ([.ref (ad o0), .int x1, .int x2, .ref (ad o3)])).length) Slot.unset).toArray = ls at hl ⊢
  have hl : lv_has ls 5 [(0, .ref (ad o0)), (1, .int x1), (2, .int x2), (3, .ref (ad o3))] := hl
  show W p l e rm_L_score s m _ below meth c s.heap [] 0 0 _ _
  refine lv_aload_n hx hb dc_L_score_0 rfl (lv_at hl 3 rfl) ?_
  refine lv_iconst (v := 0) hx hb dc_L_score_1 rfl ?_
  refine lv_aload_n hx hb dc_L_score_2 rfl (lv_at hl 0 rfl) ?_
  refine lv_iload_n hx hb dc_L_score_3 rfl (lv_at hl 1 rfl) ?_
  refine lv_iload_n hx hb dc_L_score_4 rfl (lv_at hl 2 rfl) ?_
  refine xw_callV (As := [.int x1, .int x2]) (rest := [.int 0, .ref (ad o3)]) (maxL := 3) (mc := 2) (ms := 12) hx hb hown hts (ct_D_score l hfl G hG D cA ad F _ k0 _ _ _ _ _ h) (ow_wsin mw_623) mw_623 mw_1 mw_620 mw_621 mw_622 hd_D_score rfl rfl (Nat.le_of_ble_eq_true rfl) (Nat.le_of_ble_eq_true rfl) hB k0 rfl (xw_pre hB hZ) (hl.1.trans hml.symm) (Nat.le_of_ble_eq_true rfl) rfl dc_L_score_5 (Nat.le_of_ble_eq_true rfl) (Nat.le_of_ble_eq_true rfl) (fun q k M2 H locs ce hX hce hv hcl hB => ?_) (fun v M1 H locs h hB => ?_)
  · obtain ⟨h1, h2⟩ := hX
    by_cases hk0 : k = 0
    · subst hk0
      have h := h1 rfl
      refine xw_catch (k := 0) hown hts [] ⟨0, 9, 12, 24⟩ [⟨0, 9, 16, 13⟩] hexc (fun z hz => by cases hz) (by decide) (by decide) mw_439 hZ.2.2.1 hce hv hcl ?_
      refine lv_astore hx hb dc_L_score_12 hl (by decide) rfl (fun ls hl => ?_)
      refine lv_iconst (v := 1) hx hb dc_L_score_14 rfl ?_
      exact xw_iret hx hb hr hlocks hB h dc_L_score_15
    · have hX := h2 hk0
      obtain ⟨h1, h2⟩ := hX
      by_cases hk1 : k = 1
      · subst hk1
        have h := h1 rfl
        refine xw_catch (k := 1) hown hts [⟨0, 9, 12, 24⟩] ⟨0, 9, 16, 13⟩ [] hexc (fun z hz => by rcases List.mem_singleton.mp hz with rfl; exact ⟨by decide, _, mw_439, hN.1⟩) (by decide) (by decide) mw_326 hZ.2.2.2.1 hce hv hcl ?_
        refine lv_astore hx hb dc_L_score_16 hl (by decide) rfl (fun ls hl => ?_)
        refine lv_iconst (v := 2) hx hb dc_L_score_18 rfl ?_
        exact xw_iret hx hb hr hlocks hB h dc_L_score_19
      · have hX := h2 hk1
        exact False.elim hX
  · obtain ⟨r3, rfl, h⟩ := h
    obtain ⟨hi4, h⟩ := h
    refine ow_last hx hb hB k3 hi4 dc_L_score_8 (fun H locs hB => ?_)
    refine lv_goto hx hb dc_L_score_9 rfl ?_
    refine lv_iconst (v := 0) hx hb dc_L_score_20 rfl ?_
    exact xw_iret hx hb hr hlocks hB h dc_L_score_21
abbrev rm_L_pair : Room := { frames := 8, cells := 1, slots := 6, locals := 142 }
theorem hd_L_pair : yn_L_pair.cls ≠ "java/lang/invoke/MethodHandle" ∧ yn_L_pair.cls ≠ "java/lang/invoke/VarHandle" ∧ (parseMethodDescriptor yn_L_pair.desc).map (fun d => d.parameters.length) = some 4 := by decide +kernel
set_option maxHeartbeats 4000000 in
set_option maxRecDepth 100000 in
theorem ct_L_pair (l : Launch) (hfl : l.flags = Jvm.pinnedFlags ++ [Jvm.noTraceFlag]) (G : List (Nat × Nat)) (hG : ow_lay G) (D : va_G) (cA : Nat → ClassId) (ad : Nat → Nat) (F : Nat) (o0 : Nat) (k0 : ow_kd G o0 = (3, 0)) (x1 : Int32) (x2 : Int32) (o3 : Nat) (n3 : Nat) (k3 : ow_kd G o3 = (4, n3)) (M : om_M) (Q : Int32 → om_M → Prop) (h : wp_L_pair F o0 x1 x2 o3 n3 M Q) : xw_Met l yn_L_pair (hw_ws yn_L_pair cb_L_pair 5 (some .int) [(0, 10, 13, 24)]) rm_L_pair (hw_Pc G D cA ad M [.ref (ad o0), .int x1, .int x2, .ref (ad o3)]) (xw_Q G D cA ad (xw_ri Q) (fun _ _ => False)) 1 6 (ow_A G ad) := by
  refine hw_ofW (cc := cb_L_pair) (maxL := 5) (ret := (some .int)) (hh := [(0, 10, 13, 24)]) (by decide) rfl ?_
  intro p e s m args below meth c s₁ B hml hexc hv
  obtain ⟨rfl, ⟨hB, hZ⟩, hN⟩ := hv
  have htr := Launch.traces_off hfl B.admits
  have hx := B.exec
  have hb := B.bytes
  have hr := B.returns
  have hlocks := B.notSynchronized
  have hts : ∀ w ∈ lw_g, w.before ([.ref (ad o0), .int x1, .int x2, .ref (ad o3)] : List Value).toArray s = true := fun w h => atoms_spec (ws := hw_ws yn_L_pair cb_L_pair 5 (some .int) [(0, 10, 13, 24)]) B.pre w (List.mem_cons_of_mem _ h)
  have hown : s.vm.findClass "BallotDeskLaw" = some m.cls := findClass_of_methodNamed B.named
  clear B
  have hl := lv_entry ([.ref (ad o0), .int x1, .int x2, .ref (ad o3)]) (n := 5) (Nat.le_of_ble_eq_true rfl)
  rw [lg_entry_eq]
  generalize (lg_sl ([.ref (ad o0), .int x1, .int x2, .ref (ad o3)]) ++ List.replicate (5 - (lg_sl ([.ref (ad o0), .int x1, .int x2, .ref (ad o3)])).length) Slot.unset).toArray = ls at hl ⊢
  have hl : lv_has ls 5 [(0, .ref (ad o0)), (1, .int x1), (2, .int x2), (3, .ref (ad o3))] := hl
  show W p l e rm_L_pair s m _ below meth c s.heap [] 0 0 _ _
  refine lv_aload_n hx hb dc_L_pair_0 rfl (lv_at hl 3 rfl) ?_
  refine lv_iconst (v := 0) hx hb dc_L_pair_1 rfl ?_
  refine lv_aload_n hx hb dc_L_pair_2 rfl (lv_at hl 0 rfl) ?_
  refine lv_iload_n hx hb dc_L_pair_3 rfl (lv_at hl 1 rfl) ?_
  refine lv_iload_n hx hb dc_L_pair_4 rfl (lv_at hl 2 rfl) ?_
  refine xw_callV (As := [.int x1, .int x2]) (rest := [.int 0, .ref (ad o3)]) (maxL := 3) (mc := 1) (ms := 6) hx hb hown hts (ct_D_pair l hfl G hG D cA ad F _ k0 _ _ _ _ _ h) (ow_wsin mw_638) mw_638 mw_1 mw_635 mw_636 mw_637 hd_D_pair rfl rfl (Nat.le_of_ble_eq_true rfl) (Nat.le_of_ble_eq_true rfl) hB k0 rfl (xw_pre hB hZ) (hl.1.trans hml.symm) (Nat.le_of_ble_eq_true rfl) rfl dc_L_pair_5 (Nat.le_of_ble_eq_true rfl) (Nat.le_of_ble_eq_true rfl) (fun q k M2 H locs ce hX hce hv hcl hB => ?_) (fun v M1 H locs h hB => ?_)
  · obtain ⟨h1, h2⟩ := hX
    by_cases hk0 : k = 0
    · subst hk0
      have h := h1 rfl
      refine xw_catch (k := 0) hown hts [] ⟨0, 10, 13, 24⟩ [] hexc (fun z hz => by cases hz) (by decide) (by decide) mw_439 hZ.2.2.1 hce hv hcl ?_
      refine lv_astore hx hb dc_L_pair_13 hl (by decide) rfl (fun ls hl => ?_)
      refine lv_iconst (v := 1) hx hb dc_L_pair_15 rfl ?_
      exact xw_iret hx hb hr hlocks hB h dc_L_pair_16
    · have hX := h2 hk0
      exact False.elim hX
  · obtain ⟨r3, rfl, h⟩ := h
    refine lv_i2l hx hb dc_L_pair_8 rfl ?_
    obtain ⟨hi4, h⟩ := h
    refine ow_last hx hb hB k3 hi4 dc_L_pair_9 (fun H locs hB => ?_)
    refine lv_goto hx hb dc_L_pair_10 rfl ?_
    refine lv_iconst (v := 0) hx hb dc_L_pair_17 rfl ?_
    exact xw_iret hx hb hr hlocks hB h dc_L_pair_18
abbrev rm_L_path : Room := { frames := 8, cells := 1, slots := 6, locals := 142 }
theorem hd_L_path : yn_L_path.cls ≠ "java/lang/invoke/MethodHandle" ∧ yn_L_path.cls ≠ "java/lang/invoke/VarHandle" ∧ (parseMethodDescriptor yn_L_path.desc).map (fun d => d.parameters.length) = some 4 := by decide +kernel
set_option maxHeartbeats 4000000 in
set_option maxRecDepth 100000 in
theorem ct_L_path (l : Launch) (hfl : l.flags = Jvm.pinnedFlags ++ [Jvm.noTraceFlag]) (G : List (Nat × Nat)) (hG : ow_lay G) (D : va_G) (cA : Nat → ClassId) (ad : Nat → Nat) (F : Nat) (o0 : Nat) (k0 : ow_kd G o0 = (3, 0)) (x1 : Int32) (x2 : Int32) (o3 : Nat) (n3 : Nat) (k3 : ow_kd G o3 = (4, n3)) (M : om_M) (Q : Int32 → om_M → Prop) (h : wp_L_path F o0 x1 x2 o3 n3 M Q) : xw_Met l yn_L_path (hw_ws yn_L_path cb_L_path 5 (some .int) [(0, 10, 13, 24)]) rm_L_path (hw_Pc G D cA ad M [.ref (ad o0), .int x1, .int x2, .ref (ad o3)]) (xw_Q G D cA ad (xw_ri Q) (fun _ _ => False)) 1 6 (ow_A G ad) := by
  refine hw_ofW (cc := cb_L_path) (maxL := 5) (ret := (some .int)) (hh := [(0, 10, 13, 24)]) (by decide) rfl ?_
  intro p e s m args below meth c s₁ B hml hexc hv
  obtain ⟨rfl, ⟨hB, hZ⟩, hN⟩ := hv
  have htr := Launch.traces_off hfl B.admits
  have hx := B.exec
  have hb := B.bytes
  have hr := B.returns
  have hlocks := B.notSynchronized
  have hts : ∀ w ∈ lw_g, w.before ([.ref (ad o0), .int x1, .int x2, .ref (ad o3)] : List Value).toArray s = true := fun w h => atoms_spec (ws := hw_ws yn_L_path cb_L_path 5 (some .int) [(0, 10, 13, 24)]) B.pre w (List.mem_cons_of_mem _ h)
  have hown : s.vm.findClass "BallotDeskLaw" = some m.cls := findClass_of_methodNamed B.named
  clear B
  have hl := lv_entry ([.ref (ad o0), .int x1, .int x2, .ref (ad o3)]) (n := 5) (Nat.le_of_ble_eq_true rfl)
  rw [lg_entry_eq]
  generalize (lg_sl ([.ref (ad o0), .int x1, .int x2, .ref (ad o3)]) ++ List.replicate (5 - (lg_sl ([.ref (ad o0), .int x1, .int x2, .ref (ad o3)])).length) Slot.unset).toArray = ls at hl ⊢
  have hl : lv_has ls 5 [(0, .ref (ad o0)), (1, .int x1), (2, .int x2), (3, .ref (ad o3))] := hl
  show W p l e rm_L_path s m _ below meth c s.heap [] 0 0 _ _
  refine lv_aload_n hx hb dc_L_path_0 rfl (lv_at hl 3 rfl) ?_
  refine lv_iconst (v := 0) hx hb dc_L_path_1 rfl ?_
  refine lv_aload_n hx hb dc_L_path_2 rfl (lv_at hl 0 rfl) ?_
  refine lv_iload_n hx hb dc_L_path_3 rfl (lv_at hl 1 rfl) ?_
  refine lv_iload_n hx hb dc_L_path_4 rfl (lv_at hl 2 rfl) ?_
  refine xw_callV (As := [.int x1, .int x2]) (rest := [.int 0, .ref (ad o3)]) (maxL := 3) (mc := 1) (ms := 6) hx hb hown hts (ct_D_path l hfl G hG D cA ad F _ k0 _ _ _ _ _ h) (ow_wsin mw_645) mw_645 mw_1 mw_642 mw_643 mw_644 hd_D_path rfl rfl (Nat.le_of_ble_eq_true rfl) (Nat.le_of_ble_eq_true rfl) hB k0 rfl (xw_pre hB hZ) (hl.1.trans hml.symm) (Nat.le_of_ble_eq_true rfl) rfl dc_L_path_5 (Nat.le_of_ble_eq_true rfl) (Nat.le_of_ble_eq_true rfl) (fun q k M2 H locs ce hX hce hv hcl hB => ?_) (fun v M1 H locs h hB => ?_)
  · obtain ⟨h1, h2⟩ := hX
    by_cases hk0 : k = 0
    · subst hk0
      have h := h1 rfl
      refine xw_catch (k := 0) hown hts [] ⟨0, 10, 13, 24⟩ [] hexc (fun z hz => by cases hz) (by decide) (by decide) mw_439 hZ.2.2.1 hce hv hcl ?_
      refine lv_astore hx hb dc_L_path_13 hl (by decide) rfl (fun ls hl => ?_)
      refine lv_iconst (v := 1) hx hb dc_L_path_15 rfl ?_
      exact xw_iret hx hb hr hlocks hB h dc_L_path_16
    · have hX := h2 hk0
      exact False.elim hX
  · obtain ⟨r3, rfl, h⟩ := h
    refine lv_i2l hx hb dc_L_path_8 rfl ?_
    obtain ⟨hi4, h⟩ := h
    refine ow_last hx hb hB k3 hi4 dc_L_path_9 (fun H locs hB => ?_)
    refine lv_goto hx hb dc_L_path_10 rfl ?_
    refine lv_iconst (v := 0) hx hb dc_L_path_17 rfl ?_
    exact xw_iret hx hb hr hlocks hB h dc_L_path_18
abbrev rm_L_step : Room := { frames := 8, cells := 1, slots := 6, locals := 141 }
theorem hd_L_step : yn_L_step.cls ≠ "java/lang/invoke/MethodHandle" ∧ yn_L_step.cls ≠ "java/lang/invoke/VarHandle" ∧ (parseMethodDescriptor yn_L_step.desc).map (fun d => d.parameters.length) = some 3 := by decide +kernel
set_option maxHeartbeats 4000000 in
set_option maxRecDepth 100000 in
theorem ct_L_step (l : Launch) (hfl : l.flags = Jvm.pinnedFlags ++ [Jvm.noTraceFlag]) (G : List (Nat × Nat)) (hG : ow_lay G) (D : va_G) (cA : Nat → ClassId) (ad : Nat → Nat) (F : Nat) (o0 : Nat) (k0 : ow_kd G o0 = (3, 0)) (x1 : Int32) (o2 : Nat) (n2 : Nat) (k2 : ow_kd G o2 = (4, n2)) (M : om_M) (Q : Int32 → om_M → Prop) (h : wp_L_step F o0 x1 o2 n2 M Q) : xw_Met l yn_L_step (hw_ws yn_L_step cb_L_step 4 (some .int) [(0, 9, 12, 24)]) rm_L_step (hw_Pc G D cA ad M [.ref (ad o0), .int x1, .ref (ad o2)]) (xw_Q G D cA ad (xw_ri Q) (fun _ _ => False)) 1 6 (ow_A G ad) := by
  refine hw_ofW (cc := cb_L_step) (maxL := 4) (ret := (some .int)) (hh := [(0, 9, 12, 24)]) (by decide) rfl ?_
  intro p e s m args below meth c s₁ B hml hexc hv
  obtain ⟨rfl, ⟨hB, hZ⟩, hN⟩ := hv
  have htr := Launch.traces_off hfl B.admits
  have hx := B.exec
  have hb := B.bytes
  have hr := B.returns
  have hlocks := B.notSynchronized
  have hts : ∀ w ∈ lw_g, w.before ([.ref (ad o0), .int x1, .ref (ad o2)] : List Value).toArray s = true := fun w h => atoms_spec (ws := hw_ws yn_L_step cb_L_step 4 (some .int) [(0, 9, 12, 24)]) B.pre w (List.mem_cons_of_mem _ h)
  have hown : s.vm.findClass "BallotDeskLaw" = some m.cls := findClass_of_methodNamed B.named
  clear B
  have hl := lv_entry ([.ref (ad o0), .int x1, .ref (ad o2)]) (n := 4) (Nat.le_of_ble_eq_true rfl)
  rw [lg_entry_eq]
  generalize (lg_sl ([.ref (ad o0), .int x1, .ref (ad o2)]) ++ List.replicate (4 - (lg_sl ([.ref (ad o0), .int x1, .ref (ad o2)])).length) Slot.unset).toArray = ls at hl ⊢
  have hl : lv_has ls 4 [(0, .ref (ad o0)), (1, .int x1), (2, .ref (ad o2))] := hl
  show W p l e rm_L_step s m _ below meth c s.heap [] 0 0 _ _
  refine lv_aload_n hx hb dc_L_step_0 rfl (lv_at hl 2 rfl) ?_
  refine lv_iconst (v := 0) hx hb dc_L_step_1 rfl ?_
  refine lv_aload_n hx hb dc_L_step_2 rfl (lv_at hl 0 rfl) ?_
  refine lv_iload_n hx hb dc_L_step_3 rfl (lv_at hl 1 rfl) ?_
  refine xw_callV (As := [.int x1]) (rest := [.int 0, .ref (ad o2)]) (maxL := 2) (mc := 1) (ms := 6) hx hb hown hts (ct_D_step l hfl G hG D cA ad F _ k0 _ _ _ _ h) (ow_wsin mw_653) mw_653 mw_1 mw_650 mw_651 mw_652 hd_D_step rfl rfl (Nat.le_of_ble_eq_true rfl) (Nat.le_of_ble_eq_true rfl) hB k0 rfl (xw_pre hB hZ) (hl.1.trans hml.symm) (Nat.le_of_ble_eq_true rfl) rfl dc_L_step_4 (Nat.le_of_ble_eq_true rfl) (Nat.le_of_ble_eq_true rfl) (fun q k M2 H locs ce hX hce hv hcl hB => ?_) (fun v M1 H locs h hB => ?_)
  · obtain ⟨h1, h2⟩ := hX
    by_cases hk0 : k = 0
    · subst hk0
      have h := h1 rfl
      refine xw_catch (k := 0) hown hts [] ⟨0, 9, 12, 24⟩ [] hexc (fun z hz => by cases hz) (by decide) (by decide) mw_439 hZ.2.2.1 hce hv hcl ?_
      refine lv_astore_n hx hb dc_L_step_12 rfl hl (by decide) rfl (fun ls hl => ?_)
      refine lv_iconst (v := 1) hx hb dc_L_step_13 rfl ?_
      exact xw_iret hx hb hr hlocks hB h dc_L_step_14
    · have hX := h2 hk0
      exact False.elim hX
  · obtain ⟨r3, rfl, h⟩ := h
    refine lv_i2l hx hb dc_L_step_7 rfl ?_
    obtain ⟨hi4, h⟩ := h
    refine ow_last hx hb hB k2 hi4 dc_L_step_8 (fun H locs hB => ?_)
    refine lv_goto hx hb dc_L_step_9 rfl ?_
    refine lv_iconst (v := 0) hx hb dc_L_step_15 rfl ?_
    exact xw_iret hx hb hr hlocks hB h dc_L_step_16
abbrev rm_L_change : Room := { frames := 8, cells := 2, slots := 12, locals := 197 }
theorem hd_L_change : yn_L_change.cls ≠ "java/lang/invoke/MethodHandle" ∧ yn_L_change.cls ≠ "java/lang/invoke/VarHandle" ∧ (parseMethodDescriptor yn_L_change.desc).map (fun d => d.parameters.length) = some 5 := by decide +kernel
set_option maxHeartbeats 4000000 in
set_option maxRecDepth 100000 in
theorem ct_L_change (l : Launch) (hfl : l.flags = Jvm.pinnedFlags ++ [Jvm.noTraceFlag]) (G : List (Nat × Nat)) (hG : ow_lay G) (D : va_G) (cA : Nat → ClassId) (ad : Nat → Nat) (F : Nat) (o0 : Nat) (k0 : ow_kd G o0 = (3, 0)) (x1 : Int32) (x2 : Int32) (x3 : Int32) (o4 : Nat) (n4 : Nat) (k4 : ow_kd G o4 = (4, n4)) (M : om_M) (Q : Int32 → om_M → Prop) (h : wp_L_change F o0 x1 x2 x3 o4 n4 M Q) : xw_Met l yn_L_change (hw_ws yn_L_change cb_L_change 6 (some .int) [(0, 12, 15, 24), (0, 12, 19, 13)]) rm_L_change (hw_Pc G D cA ad M [.ref (ad o0), .int x1, .int x2, .int x3, .ref (ad o4)]) (xw_Q G D cA ad (xw_ri Q) (fun _ _ => False)) 2 12 (ow_A G ad) := by
  refine hw_ofW (cc := cb_L_change) (maxL := 6) (ret := (some .int)) (hh := [(0, 12, 15, 24), (0, 12, 19, 13)]) (by decide) rfl ?_
  intro p e s m args below meth c s₁ B hml hexc hv
  obtain ⟨rfl, ⟨hB, hZ⟩, hN⟩ := hv
  have htr := Launch.traces_off hfl B.admits
  have hx := B.exec
  have hb := B.bytes
  have hr := B.returns
  have hlocks := B.notSynchronized
  have hts : ∀ w ∈ lw_g, w.before ([.ref (ad o0), .int x1, .int x2, .int x3, .ref (ad o4)] : List Value).toArray s = true := fun w h => atoms_spec (ws := hw_ws yn_L_change cb_L_change 6 (some .int) [(0, 12, 15, 24), (0, 12, 19, 13)]) B.pre w (List.mem_cons_of_mem _ h)
  have hown : s.vm.findClass "BallotDeskLaw" = some m.cls := findClass_of_methodNamed B.named
  clear B
  have hl := lv_entry ([.ref (ad o0), .int x1, .int x2, .int x3, .ref (ad o4)]) (n := 6) (Nat.le_of_ble_eq_true rfl)
  rw [lg_entry_eq]
  generalize (lg_sl ([.ref (ad o0), .int x1, .int x2, .int x3, .ref (ad o4)]) ++ List.replicate (6 - (lg_sl ([.ref (ad o0), .int x1, .int x2, .int x3, .ref (ad o4)])).length) Slot.unset).toArray = ls at hl ⊢
  have hl : lv_has ls 6 [(0, .ref (ad o0)), (1, .int x1), (2, .int x2), (3, .int x3), (4, .ref (ad o4))] := hl
  show W p l e rm_L_change s m _ below meth c s.heap [] 0 0 _ _
  refine lv_aload hx hb dc_L_change_0 (lv_at hl 4 rfl) ?_
  refine lv_iconst (v := 0) hx hb dc_L_change_2 rfl ?_
  refine lv_aload_n hx hb dc_L_change_3 rfl (lv_at hl 0 rfl) ?_
  refine lv_iload_n hx hb dc_L_change_4 rfl (lv_at hl 1 rfl) ?_
  refine lv_iload_n hx hb dc_L_change_5 rfl (lv_at hl 2 rfl) ?_
  refine lv_iload_n hx hb dc_L_change_6 rfl (lv_at hl 3 rfl) ?_
  refine xw_callV (As := [.int x1, .int x2, .int x3]) (rest := [.int 0, .ref (ad o4)]) (maxL := 4) (mc := 2) (ms := 12) hx hb hown hts (ct_D_change l hfl G hG D cA ad F _ k0 _ _ _ _ _ _ h) (ow_wsin mw_668) mw_668 mw_1 mw_665 mw_666 mw_667 hd_D_change rfl rfl (Nat.le_of_ble_eq_true rfl) (Nat.le_of_ble_eq_true rfl) hB k0 rfl (xw_pre hB hZ) (hl.1.trans hml.symm) (Nat.le_of_ble_eq_true rfl) rfl dc_L_change_7 (Nat.le_of_ble_eq_true rfl) (Nat.le_of_ble_eq_true rfl) (fun q k M2 H locs ce hX hce hv hcl hB => ?_) (fun v M1 H locs h hB => ?_)
  · obtain ⟨h1, h2⟩ := hX
    by_cases hk0 : k = 0
    · subst hk0
      have h := h1 rfl
      refine xw_catch (k := 0) hown hts [] ⟨0, 12, 15, 24⟩ [⟨0, 12, 19, 13⟩] hexc (fun z hz => by cases hz) (by decide) (by decide) mw_439 hZ.2.2.1 hce hv hcl ?_
      refine lv_astore hx hb dc_L_change_15 hl (by decide) rfl (fun ls hl => ?_)
      refine lv_iconst (v := 1) hx hb dc_L_change_17 rfl ?_
      exact xw_iret hx hb hr hlocks hB h dc_L_change_18
    · have hX := h2 hk0
      obtain ⟨h1, h2⟩ := hX
      by_cases hk1 : k = 1
      · subst hk1
        have h := h1 rfl
        refine xw_catch (k := 1) hown hts [⟨0, 12, 15, 24⟩] ⟨0, 12, 19, 13⟩ [] hexc (fun z hz => by rcases List.mem_singleton.mp hz with rfl; exact ⟨by decide, _, mw_439, hN.1⟩) (by decide) (by decide) mw_326 hZ.2.2.2.1 hce hv hcl ?_
        refine lv_astore hx hb dc_L_change_19 hl (by decide) rfl (fun ls hl => ?_)
        refine lv_iconst (v := 2) hx hb dc_L_change_21 rfl ?_
        exact xw_iret hx hb hr hlocks hB h dc_L_change_22
      · have hX := h2 hk1
        exact False.elim hX
  · obtain ⟨r3, rfl, h⟩ := h
    refine lv_i2l hx hb dc_L_change_10 rfl ?_
    obtain ⟨hi4, h⟩ := h
    refine ow_last hx hb hB k4 hi4 dc_L_change_11 (fun H locs hB => ?_)
    refine lv_goto hx hb dc_L_change_12 rfl ?_
    refine lv_iconst (v := 0) hx hb dc_L_change_23 rfl ?_
    exact xw_iret hx hb hr hlocks hB h dc_L_change_24
abbrev rm_L_property : Room := { frames := 8, cells := 1, slots := 6, locals := 190 }
theorem hd_L_property : yn_L_property.cls ≠ "java/lang/invoke/MethodHandle" ∧ yn_L_property.cls ≠ "java/lang/invoke/VarHandle" ∧ (parseMethodDescriptor yn_L_property.desc).map (fun d => d.parameters.length) = some 4 := by decide +kernel
set_option maxHeartbeats 4000000 in
set_option maxRecDepth 100000 in
theorem ct_L_property (l : Launch) (hfl : l.flags = Jvm.pinnedFlags ++ [Jvm.noTraceFlag]) (G : List (Nat × Nat)) (hG : ow_lay G) (D : va_G) (cA : Nat → ClassId) (ad : Nat → Nat) (F : Nat) (o0 : Nat) (k0 : ow_kd G o0 = (3, 0)) (x1 : Int32) (x2 : Int32) (o3 : Nat) (n3 : Nat) (k3 : ow_kd G o3 = (4, n3)) (M : om_M) (Q : Int32 → om_M → Prop) (h : wp_L_property F o0 x1 x2 o3 n3 M Q) : xw_Met l yn_L_property (hw_ws yn_L_property cb_L_property 5 (some .int) [(0, 17, 20, 24)]) rm_L_property (hw_Pc G D cA ad M [.ref (ad o0), .int x1, .int x2, .ref (ad o3)]) (xw_Q G D cA ad (xw_ri Q) (fun _ _ => False)) 1 6 (ow_A G ad) := by
  refine hw_ofW (cc := cb_L_property) (maxL := 5) (ret := (some .int)) (hh := [(0, 17, 20, 24)]) (by decide) rfl ?_
  intro p e s m args below meth c s₁ B hml hexc hv
  obtain ⟨rfl, ⟨hB, hZ⟩, hN⟩ := hv
  have htr := Launch.traces_off hfl B.admits
  have hx := B.exec
  have hb := B.bytes
  have hr := B.returns
  have hlocks := B.notSynchronized
  have hts : ∀ w ∈ lw_g, w.before ([.ref (ad o0), .int x1, .int x2, .ref (ad o3)] : List Value).toArray s = true := fun w h => atoms_spec (ws := hw_ws yn_L_property cb_L_property 5 (some .int) [(0, 17, 20, 24)]) B.pre w (List.mem_cons_of_mem _ h)
  have hown : s.vm.findClass "BallotDeskLaw" = some m.cls := findClass_of_methodNamed B.named
  clear B
  have L16 : ∀   (M : om_M)  (t0 : Nat) (t1 : Int32) (t2 : Int64) (kt0 : ow_kd G t0 = (4, n3)) (H : Heap) (locs : List Loc) (ls : Array Slot), wp_L_property_16 F o0 x1 x2 o3 n3 Q   M  t0 t1 t2 → ow_B G D cA ad (ow_A G ad) M s s.heap H locs → lv_has ls 5 [] → W p l e rm_L_property s m ([.ref (ad o0), .int x1, .int x2, .ref (ad o3)] : List Value).toArray below meth c H locs 1 6 (xw_MQ below (xw_Q G D cA ad (xw_ri Q) (fun _ _ => False)) ([.ref (ad o0), .int x1, .int x2, .ref (ad o3)] : List Value).toArray s 1 6 (ow_A G ad)) (F0 m 16 ls [.long t2, .int t1, .ref (ad t0)]) := by
    intro   M t0 t1 t2 kt0 H locs ls h hB hl
    obtain ⟨hi1, h⟩ := h
    refine ow_last hx hb hB kt0 hi1 dc_L_property_16 (fun H locs hB => ?_)
    refine lv_goto hx hb dc_L_property_17 rfl ?_
    refine lv_iconst (v := 0) hx hb dc_L_property_24 rfl ?_
    exact xw_iret hx hb hr hlocks hB h dc_L_property_25
  have hl := lv_entry ([.ref (ad o0), .int x1, .int x2, .ref (ad o3)]) (n := 5) (Nat.le_of_ble_eq_true rfl)
  rw [lg_entry_eq]
  generalize (lg_sl ([.ref (ad o0), .int x1, .int x2, .ref (ad o3)]) ++ List.replicate (5 - (lg_sl ([.ref (ad o0), .int x1, .int x2, .ref (ad o3)])).length) Slot.unset).toArray = ls at hl ⊢
  have hl : lv_has ls 5 [(0, .ref (ad o0)), (1, .int x1), (2, .int x2), (3, .ref (ad o3))] := hl
  show W p l e rm_L_property s m _ below meth c s.heap [] 0 0 _ _
  refine lv_aload_n hx hb dc_L_property_0 rfl (lv_at hl 3 rfl) ?_
  refine lv_iconst (v := 0) hx hb dc_L_property_1 rfl ?_
  refine lv_aload_n hx hb dc_L_property_2 rfl (lv_at hl 0 rfl) ?_
  refine lv_iload_n hx hb dc_L_property_3 rfl (lv_at hl 1 rfl) ?_
  refine lv_iload_n hx hb dc_L_property_4 rfl (lv_at hl 2 rfl) ?_
  refine xw_callV (As := [.int x1, .int x2]) (rest := [.int 0, .ref (ad o3)]) (maxL := 3) (mc := 1) (ms := 6) hx hb hown hts (ct_D_property l hfl G hG D cA ad F _ k0 _ _ _ _ _ h) (ow_wsin mw_709) mw_709 mw_1 mw_706 mw_707 mw_708 hd_D_property rfl rfl (Nat.le_of_ble_eq_true rfl) (Nat.le_of_ble_eq_true rfl) hB k0 rfl (xw_pre hB hZ) (hl.1.trans hml.symm) (Nat.le_of_ble_eq_true rfl) rfl dc_L_property_5 (Nat.le_of_ble_eq_true rfl) (Nat.le_of_ble_eq_true rfl) (fun q k M3 H locs ce hX hce hv hcl hB => ?_) (fun v M2 H locs h hB => ?_)
  · obtain ⟨h1, h2⟩ := hX
    by_cases hk0 : k = 0
    · subst hk0
      have h := h1 rfl
      refine xw_catch (k := 0) hown hts [] ⟨0, 17, 20, 24⟩ [] hexc (fun z hz => by cases hz) (by decide) (by decide) mw_439 hZ.2.2.1 hce hv hcl ?_
      refine lv_astore hx hb dc_L_property_20 hl (by decide) rfl (fun ls hl => ?_)
      refine lv_iconst (v := 1) hx hb dc_L_property_22 rfl ?_
      exact xw_iret hx hb hr hlocks hB h dc_L_property_23
    · have hX := h2 hk0
      exact False.elim hX
  · obtain ⟨r4, rfl, h⟩ := h
    obtain ⟨h1, h2⟩ := h
    refine lv_if_eq hx hb dc_L_property_8 rfl (fun hc => ?_) (fun hc => ?_)
    · have h := h1 hc
      refine lv_lconst (v := 0) hx hb dc_L_property_15 rfl ?_
      exact L16 _ _ _ _ k3 _ _ _ h hB (lv_sub hl [] rfl)
    · have h := h2 hc
      refine lv_lconst (v := 1) hx hb dc_L_property_11 rfl ?_
      refine lv_goto hx hb dc_L_property_12 rfl ?_
      exact L16 _ _ _ _ k3 _ _ _ h hB (lv_sub hl [] rfl)
abbrev rm_L_circle : Room := { frames := 8, cells := 1, slots := 6, locals := 142 }
theorem hd_L_circle : yn_L_circle.cls ≠ "java/lang/invoke/MethodHandle" ∧ yn_L_circle.cls ≠ "java/lang/invoke/VarHandle" ∧ (parseMethodDescriptor yn_L_circle.desc).map (fun d => d.parameters.length) = some 3 := by decide +kernel
set_option maxHeartbeats 4000000 in
set_option maxRecDepth 100000 in
theorem ct_L_circle (l : Launch) (hfl : l.flags = Jvm.pinnedFlags ++ [Jvm.noTraceFlag]) (G : List (Nat × Nat)) (hG : ow_lay G) (D : va_G) (cA : Nat → ClassId) (ad : Nat → Nat) (F : Nat) (o0 : Nat) (k0 : ow_kd G o0 = (3, 0)) (x1 : Int32) (o2 : Nat) (n2 : Nat) (k2 : ow_kd G o2 = (4, n2)) (M : om_M) (Q : Int32 → om_M → Prop) (h : wp_L_circle F o0 x1 o2 n2 M Q) : xw_Met l yn_L_circle (hw_ws yn_L_circle cb_L_circle 4 (some .int) [(0, 9, 12, 24)]) rm_L_circle (hw_Pc G D cA ad M [.ref (ad o0), .int x1, .ref (ad o2)]) (xw_Q G D cA ad (xw_ri Q) (fun _ _ => False)) 1 6 (ow_A G ad) := by
  refine hw_ofW (cc := cb_L_circle) (maxL := 4) (ret := (some .int)) (hh := [(0, 9, 12, 24)]) (by decide) rfl ?_
  intro p e s m args below meth c s₁ B hml hexc hv
  obtain ⟨rfl, ⟨hB, hZ⟩, hN⟩ := hv
  have htr := Launch.traces_off hfl B.admits
  have hx := B.exec
  have hb := B.bytes
  have hr := B.returns
  have hlocks := B.notSynchronized
  have hts : ∀ w ∈ lw_g, w.before ([.ref (ad o0), .int x1, .ref (ad o2)] : List Value).toArray s = true := fun w h => atoms_spec (ws := hw_ws yn_L_circle cb_L_circle 4 (some .int) [(0, 9, 12, 24)]) B.pre w (List.mem_cons_of_mem _ h)
  have hown : s.vm.findClass "BallotDeskLaw" = some m.cls := findClass_of_methodNamed B.named
  clear B
  have hl := lv_entry ([.ref (ad o0), .int x1, .ref (ad o2)]) (n := 4) (Nat.le_of_ble_eq_true rfl)
  rw [lg_entry_eq]
  generalize (lg_sl ([.ref (ad o0), .int x1, .ref (ad o2)]) ++ List.replicate (4 - (lg_sl ([.ref (ad o0), .int x1, .ref (ad o2)])).length) Slot.unset).toArray = ls at hl ⊢
  have hl : lv_has ls 4 [(0, .ref (ad o0)), (1, .int x1), (2, .ref (ad o2))] := hl
  show W p l e rm_L_circle s m _ below meth c s.heap [] 0 0 _ _
  refine lv_aload_n hx hb dc_L_circle_0 rfl (lv_at hl 2 rfl) ?_
  refine lv_iconst (v := 0) hx hb dc_L_circle_1 rfl ?_
  refine lv_aload_n hx hb dc_L_circle_2 rfl (lv_at hl 0 rfl) ?_
  refine lv_iload_n hx hb dc_L_circle_3 rfl (lv_at hl 1 rfl) ?_
  refine xw_callV (As := [.int x1]) (rest := [.int 0, .ref (ad o2)]) (maxL := 3) (mc := 1) (ms := 6) hx hb hown hts (ct_D_circle l hfl G hG D cA ad F _ k0 _ _ _ _ h) (ow_wsin mw_756) mw_756 mw_1 mw_753 mw_754 mw_755 hd_D_circle rfl rfl (Nat.le_of_ble_eq_true rfl) (Nat.le_of_ble_eq_true rfl) hB k0 rfl (xw_pre hB hZ) (hl.1.trans hml.symm) (Nat.le_of_ble_eq_true rfl) rfl dc_L_circle_4 (Nat.le_of_ble_eq_true rfl) (Nat.le_of_ble_eq_true rfl) (fun q k M2 H locs ce hX hce hv hcl hB => ?_) (fun v M1 H locs h hB => ?_)
  · obtain ⟨h1, h2⟩ := hX
    by_cases hk0 : k = 0
    · subst hk0
      have h := h1 rfl
      refine xw_catch (k := 0) hown hts [] ⟨0, 9, 12, 24⟩ [] hexc (fun z hz => by cases hz) (by decide) (by decide) mw_439 hZ.2.2.1 hce hv hcl ?_
      refine lv_astore_n hx hb dc_L_circle_12 rfl hl (by decide) rfl (fun ls hl => ?_)
      refine lv_iconst (v := 1) hx hb dc_L_circle_13 rfl ?_
      exact xw_iret hx hb hr hlocks hB h dc_L_circle_14
    · have hX := h2 hk0
      exact False.elim hX
  · obtain ⟨r3, rfl, h⟩ := h
    refine lv_i2l hx hb dc_L_circle_7 rfl ?_
    obtain ⟨hi4, h⟩ := h
    refine ow_last hx hb hB k2 hi4 dc_L_circle_8 (fun H locs hB => ?_)
    refine lv_goto hx hb dc_L_circle_9 rfl ?_
    refine lv_iconst (v := 0) hx hb dc_L_circle_15 rfl ?_
    exact xw_iret hx hb hr hlocks hB h dc_L_circle_16
abbrev rm_L_clones : Room := { frames := 8, cells := 1, slots := 6, locals := 142 }
theorem hd_L_clones : yn_L_clones.cls ≠ "java/lang/invoke/MethodHandle" ∧ yn_L_clones.cls ≠ "java/lang/invoke/VarHandle" ∧ (parseMethodDescriptor yn_L_clones.desc).map (fun d => d.parameters.length) = some 3 := by decide +kernel
set_option maxHeartbeats 4000000 in
set_option maxRecDepth 100000 in
theorem ct_L_clones (l : Launch) (hfl : l.flags = Jvm.pinnedFlags ++ [Jvm.noTraceFlag]) (G : List (Nat × Nat)) (hG : ow_lay G) (D : va_G) (cA : Nat → ClassId) (ad : Nat → Nat) (F : Nat) (o0 : Nat) (k0 : ow_kd G o0 = (3, 0)) (x1 : Int32) (o2 : Nat) (n2 : Nat) (k2 : ow_kd G o2 = (4, n2)) (M : om_M) (Q : Int32 → om_M → Prop) (h : wp_L_clones F o0 x1 o2 n2 M Q) : xw_Met l yn_L_clones (hw_ws yn_L_clones cb_L_clones 4 (some .int) [(0, 16, 19, 13)]) rm_L_clones (hw_Pc G D cA ad M [.ref (ad o0), .int x1, .ref (ad o2)]) (xw_Q G D cA ad (xw_ri Q) (fun _ _ => False)) 1 6 (ow_A G ad) := by
  refine hw_ofW (cc := cb_L_clones) (maxL := 4) (ret := (some .int)) (hh := [(0, 16, 19, 13)]) (by decide) rfl ?_
  intro p e s m args below meth c s₁ B hml hexc hv
  obtain ⟨rfl, ⟨hB, hZ⟩, hN⟩ := hv
  have htr := Launch.traces_off hfl B.admits
  have hx := B.exec
  have hb := B.bytes
  have hr := B.returns
  have hlocks := B.notSynchronized
  have hts : ∀ w ∈ lw_g, w.before ([.ref (ad o0), .int x1, .ref (ad o2)] : List Value).toArray s = true := fun w h => atoms_spec (ws := hw_ws yn_L_clones cb_L_clones 4 (some .int) [(0, 16, 19, 13)]) B.pre w (List.mem_cons_of_mem _ h)
  have hown : s.vm.findClass "BallotDeskLaw" = some m.cls := findClass_of_methodNamed B.named
  clear B
  have L15 : ∀   (M : om_M)  (t0 : Nat) (t1 : Int32) (t2 : Int64) (kt0 : ow_kd G t0 = (4, n2)) (H : Heap) (locs : List Loc) (ls : Array Slot), wp_L_clones_15 F o0 x1 o2 n2 Q   M  t0 t1 t2 → ow_B G D cA ad (ow_A G ad) M s s.heap H locs → lv_has ls 4 [] → W p l e rm_L_clones s m ([.ref (ad o0), .int x1, .ref (ad o2)] : List Value).toArray below meth c H locs 1 6 (xw_MQ below (xw_Q G D cA ad (xw_ri Q) (fun _ _ => False)) ([.ref (ad o0), .int x1, .ref (ad o2)] : List Value).toArray s 1 6 (ow_A G ad)) (F0 m 15 ls [.long t2, .int t1, .ref (ad t0)]) := by
    intro   M t0 t1 t2 kt0 H locs ls h hB hl
    obtain ⟨hi1, h⟩ := h
    refine ow_last hx hb hB kt0 hi1 dc_L_clones_15 (fun H locs hB => ?_)
    refine lv_goto hx hb dc_L_clones_16 rfl ?_
    refine lv_iconst (v := 0) hx hb dc_L_clones_22 rfl ?_
    exact xw_iret hx hb hr hlocks hB h dc_L_clones_23
  have hl := lv_entry ([.ref (ad o0), .int x1, .ref (ad o2)]) (n := 4) (Nat.le_of_ble_eq_true rfl)
  rw [lg_entry_eq]
  generalize (lg_sl ([.ref (ad o0), .int x1, .ref (ad o2)]) ++ List.replicate (4 - (lg_sl ([.ref (ad o0), .int x1, .ref (ad o2)])).length) Slot.unset).toArray = ls at hl ⊢
  have hl : lv_has ls 4 [(0, .ref (ad o0)), (1, .int x1), (2, .ref (ad o2))] := hl
  show W p l e rm_L_clones s m _ below meth c s.heap [] 0 0 _ _
  refine lv_aload_n hx hb dc_L_clones_0 rfl (lv_at hl 2 rfl) ?_
  refine lv_iconst (v := 0) hx hb dc_L_clones_1 rfl ?_
  refine lv_aload_n hx hb dc_L_clones_2 rfl (lv_at hl 0 rfl) ?_
  refine lv_iload_n hx hb dc_L_clones_3 rfl (lv_at hl 1 rfl) ?_
  refine xw_callV (As := [.int x1]) (rest := [.int 0, .ref (ad o2)]) (maxL := 3) (mc := 1) (ms := 6) hx hb hown hts (ct_D_clones l hfl G hG D cA ad F _ k0 _ _ _ _ h) (ow_wsin mw_768) mw_768 mw_1 mw_765 mw_766 mw_767 hd_D_clones rfl rfl (Nat.le_of_ble_eq_true rfl) (Nat.le_of_ble_eq_true rfl) hB k0 rfl (xw_pre hB hZ) (hl.1.trans hml.symm) (Nat.le_of_ble_eq_true rfl) rfl dc_L_clones_4 (Nat.le_of_ble_eq_true rfl) (Nat.le_of_ble_eq_true rfl) (fun q k M3 H locs ce hX hce hv hcl hB => ?_) (fun v M2 H locs h hB => ?_)
  · obtain ⟨h1, h2⟩ := hX
    by_cases hk1 : k = 1
    · subst hk1
      have h := h1 rfl
      refine xw_catch (k := 1) hown hts [] ⟨0, 16, 19, 13⟩ [] hexc (fun z hz => by cases hz) (by decide) (by decide) mw_326 hZ.2.2.2.1 hce hv hcl ?_
      refine lv_astore_n hx hb dc_L_clones_19 rfl hl (by decide) rfl (fun ls hl => ?_)
      refine lv_iconst (v := 1) hx hb dc_L_clones_20 rfl ?_
      exact xw_iret hx hb hr hlocks hB h dc_L_clones_21
    · have hX := h2 hk1
      exact False.elim hX
  · obtain ⟨r4, rfl, h⟩ := h
    obtain ⟨h1, h2⟩ := h
    refine lv_if_eq hx hb dc_L_clones_7 rfl (fun hc => ?_) (fun hc => ?_)
    · have h := h1 hc
      refine lv_lconst (v := 0) hx hb dc_L_clones_14 rfl ?_
      exact L15 _ _ _ _ k2 _ _ _ h hB (lv_sub hl [] rfl)
    · have h := h2 hc
      refine lv_lconst (v := 1) hx hb dc_L_clones_10 rfl ?_
      refine lv_goto hx hb dc_L_clones_11 rfl ?_
      exact L15 _ _ _ _ k2 _ _ _ h hB (lv_sub hl [] rfl)
abbrev rm_L_count : Room := { frames := 8, cells := 1, slots := 6, locals := 141 }
theorem hd_L_count : yn_L_count.cls ≠ "java/lang/invoke/MethodHandle" ∧ yn_L_count.cls ≠ "java/lang/invoke/VarHandle" ∧ (parseMethodDescriptor yn_L_count.desc).map (fun d => d.parameters.length) = some 3 := by decide +kernel
set_option maxHeartbeats 4000000 in
set_option maxRecDepth 100000 in
theorem ct_L_count (l : Launch) (hfl : l.flags = Jvm.pinnedFlags ++ [Jvm.noTraceFlag]) (G : List (Nat × Nat)) (hG : ow_lay G) (D : va_G) (cA : Nat → ClassId) (ad : Nat → Nat) (F : Nat) (o0 : Nat) (k0 : ow_kd G o0 = (3, 0)) (x1 : Int32) (o2 : Nat) (n2 : Nat) (k2 : ow_kd G o2 = (4, n2)) (M : om_M) (Q : Int32 → om_M → Prop) (h : wp_L_count F o0 x1 o2 n2 M Q) : xw_Met l yn_L_count (hw_ws yn_L_count cb_L_count 4 (some .int) [(0, 9, 12, 13)]) rm_L_count (hw_Pc G D cA ad M [.ref (ad o0), .int x1, .ref (ad o2)]) (xw_Q G D cA ad (xw_ri Q) (fun _ _ => False)) 1 6 (ow_A G ad) := by
  refine hw_ofW (cc := cb_L_count) (maxL := 4) (ret := (some .int)) (hh := [(0, 9, 12, 13)]) (by decide) rfl ?_
  intro p e s m args below meth c s₁ B hml hexc hv
  obtain ⟨rfl, ⟨hB, hZ⟩, hN⟩ := hv
  have htr := Launch.traces_off hfl B.admits
  have hx := B.exec
  have hb := B.bytes
  have hr := B.returns
  have hlocks := B.notSynchronized
  have hts : ∀ w ∈ lw_g, w.before ([.ref (ad o0), .int x1, .ref (ad o2)] : List Value).toArray s = true := fun w h => atoms_spec (ws := hw_ws yn_L_count cb_L_count 4 (some .int) [(0, 9, 12, 13)]) B.pre w (List.mem_cons_of_mem _ h)
  have hown : s.vm.findClass "BallotDeskLaw" = some m.cls := findClass_of_methodNamed B.named
  clear B
  have hl := lv_entry ([.ref (ad o0), .int x1, .ref (ad o2)]) (n := 4) (Nat.le_of_ble_eq_true rfl)
  rw [lg_entry_eq]
  generalize (lg_sl ([.ref (ad o0), .int x1, .ref (ad o2)]) ++ List.replicate (4 - (lg_sl ([.ref (ad o0), .int x1, .ref (ad o2)])).length) Slot.unset).toArray = ls at hl ⊢
  have hl : lv_has ls 4 [(0, .ref (ad o0)), (1, .int x1), (2, .ref (ad o2))] := hl
  show W p l e rm_L_count s m _ below meth c s.heap [] 0 0 _ _
  refine lv_aload_n hx hb dc_L_count_0 rfl (lv_at hl 2 rfl) ?_
  refine lv_iconst (v := 0) hx hb dc_L_count_1 rfl ?_
  refine lv_aload_n hx hb dc_L_count_2 rfl (lv_at hl 0 rfl) ?_
  refine lv_iload_n hx hb dc_L_count_3 rfl (lv_at hl 1 rfl) ?_
  refine xw_callV (As := [.int x1]) (rest := [.int 0, .ref (ad o2)]) (maxL := 2) (mc := 1) (ms := 6) hx hb hown hts (ct_D_count l hfl G hG D cA ad F _ k0 _ _ _ _ h) (ow_wsin mw_782) mw_782 mw_1 mw_779 mw_780 mw_781 hd_D_count rfl rfl (Nat.le_of_ble_eq_true rfl) (Nat.le_of_ble_eq_true rfl) hB k0 rfl (xw_pre hB hZ) (hl.1.trans hml.symm) (Nat.le_of_ble_eq_true rfl) rfl dc_L_count_4 (Nat.le_of_ble_eq_true rfl) (Nat.le_of_ble_eq_true rfl) (fun q k M2 H locs ce hX hce hv hcl hB => ?_) (fun v M1 H locs h hB => ?_)
  · obtain ⟨h1, h2⟩ := hX
    by_cases hk1 : k = 1
    · subst hk1
      have h := h1 rfl
      refine xw_catch (k := 1) hown hts [] ⟨0, 9, 12, 13⟩ [] hexc (fun z hz => by cases hz) (by decide) (by decide) mw_326 hZ.2.2.2.1 hce hv hcl ?_
      refine lv_astore_n hx hb dc_L_count_12 rfl hl (by decide) rfl (fun ls hl => ?_)
      refine lv_iconst (v := 1) hx hb dc_L_count_13 rfl ?_
      exact xw_iret hx hb hr hlocks hB h dc_L_count_14
    · have hX := h2 hk1
      exact False.elim hX
  · obtain ⟨r3, rfl, h⟩ := h
    refine lv_i2l hx hb dc_L_count_7 rfl ?_
    obtain ⟨hi4, h⟩ := h
    refine ow_last hx hb hB k2 hi4 dc_L_count_8 (fun H locs hB => ?_)
    refine lv_goto hx hb dc_L_count_9 rfl ?_
    refine lv_iconst (v := 0) hx hb dc_L_count_15 rfl ?_
    exact xw_iret hx hb hr hlocks hB h dc_L_count_16
