def wp_D_change_46 (F : Nat) (o0 : Nat) (x1 : Int32) (x2 : Int32) (x3 : Int32) (Q : Int32 → om_M → Prop) (X : Nat → om_M → Prop)   (M : om_M)  (t0 : Int32) : Prop := wp_D_needArgument F t0 M (fun M1 => wp_W_betterOrder F (o0 + 21) (o0 + 1) x1 x2 x3 M1 (fun r3 M2 => ((((om_up M2 o0 3 r3).1 o0 3) = (-1) → Q 0 (om_up M2 o0 3 r3)) ∧ (¬ ((om_up M2 o0 3 r3).1 o0 3) = (-1) → Q (((om_up M2 o0 3 r3).1 (o0 + 21) 3) + 1) (om_up M2 o0 3 r3))))) X
def wp_D_change_45 (F : Nat) (o0 : Nat) (x1 : Int32) (x2 : Int32) (x3 : Int32) (Q : Int32 → om_M → Prop) (X : Nat → om_M → Prop)   (M : om_M)   : Prop := wp_D_change_46 F o0 x1 x2 x3 Q X M 0
def wp_D_change_20 (F : Nat) (o0 : Nat) (x1 : Int32) (x2 : Int32) (x3 : Int32) (Q : Int32 → om_M → Prop) (X : Nat → om_M → Prop)   (M : om_M)  (t0 : Int32) : Prop := wp_D_needElement F t0 M (fun M4 => ((x3 < 1 → wp_D_change_45 F o0 x1 x2 x3 Q X M4) ∧ (¬ x3 < 1 → vp_in x2 21 ∧ (((M4.1 (o0 + 1 + 2) x2.toNatClampNeg) < x3 → wp_D_change_45 F o0 x1 x2 x3 Q X M4) ∧ (¬ (M4.1 (o0 + 1 + 2) x2.toNatClampNeg) < x3 → wp_D_change_46 F o0 x1 x2 x3 Q X M4 1))))) X
def wp_D_change_19 (F : Nat) (o0 : Nat) (x1 : Int32) (x2 : Int32) (x3 : Int32) (Q : Int32 → om_M → Prop) (X : Nat → om_M → Prop)   (M : om_M)   : Prop := wp_D_change_20 F o0 x1 x2 x3 Q X M 0
def wp_D_change (F : Nat) (o0 : Nat) (x1 : Int32) (x2 : Int32) (x3 : Int32) (M : om_M) (Q : Int32 → om_M → Prop) (X : Nat → om_M → Prop) : Prop := wp_D_isRule F x1 M (fun r7 M6 => ((r7 = 0 → wp_D_change_19 F o0 x1 x2 x3 Q X M6) ∧ (¬ r7 = 0 → wp_D_isType F o0 x2 M6 (fun r9 M8 => ((r9 = 0 → wp_D_change_19 F o0 x1 x2 x3 Q X M8) ∧ (¬ r9 = 0 → wp_D_change_20 F o0 x1 x2 x3 Q X M8 1))))))
def wp_D_property_152 (F : Nat) (o0 : Nat) (x1 : Int32) (x2 : Int32) (Q : Int32 → om_M → Prop) (X : Nat → om_M → Prop)   (M : om_M)   : Prop := (((M.1 o0 4) = (-1) → Q 1 M) ∧ (¬ (M.1 o0 4) = (-1) → Q 0 M))
def wp_D_property_21 (F : Nat) (o0 : Nat) (x1 : Int32) (x2 : Int32) (Q : Int32 → om_M → Prop) (X : Nat → om_M → Prop)   (M : om_M)  (t0 : Int32) : Prop := wp_D_needElement F t0 M (fun M1 => ((x2 = 0 → wp_W_bestNotAlone F (o0 + 21) (o0 + 1) x1 M1 (fun r13 M12 => wp_D_property_152 F o0 x1 x2 Q X (om_up M12 o0 4 r13))) ∧ (¬ x2 = 0 → ((x2 = 1 → wp_W_worstAmongWinners F (o0 + 21) (o0 + 1) x1 M1 (fun r11 M10 => wp_D_property_152 F o0 x1 x2 Q X (om_up M10 o0 4 r11))) ∧ (¬ x2 = 1 → ((x2 = 2 → wp_W_typeThatHarmsByRaising F (o0 + 21) (o0 + 1) x1 M1 (fun r9 M8 => wp_D_property_152 F o0 x1 x2 Q X (om_up M8 o0 4 r9))) ∧ (¬ x2 = 2 → ((x2 = 3 → wp_W_typeThatHarmsByJoining F (o0 + 21) (o0 + 1) x1 M1 (fun r7 M6 => wp_D_property_152 F o0 x1 x2 Q X (om_up M6 o0 4 r7))) ∧ (¬ x2 = 3 → ((x2 = 4 → wp_W_loserThatHarmsByLeaving F (o0 + 21) (o0 + 1) x1 M1 (fun r5 M4 => wp_D_property_152 F o0 x1 x2 Q X (om_up M4 o0 4 r5))) ∧ (¬ x2 = 4 → wp_W_loserThatHarmsByLeaving F (o0 + 21) (o0 + 1) x1 M1 (fun r3 M2 => wp_D_property_152 F o0 x1 x2 Q X (om_up M2 o0 4 r3))))))))))))) X
def wp_D_property_20 (F : Nat) (o0 : Nat) (x1 : Int32) (x2 : Int32) (Q : Int32 → om_M → Prop) (X : Nat → om_M → Prop)   (M : om_M)   : Prop := wp_D_property_21 F o0 x1 x2 Q X M 0
def wp_D_property (F : Nat) (o0 : Nat) (x1 : Int32) (x2 : Int32) (M : om_M) (Q : Int32 → om_M → Prop) (X : Nat → om_M → Prop) : Prop := wp_D_isRule F x1 M (fun r15 M14 => ((r15 = 0 → wp_D_property_20 F o0 x1 x2 Q X M14) ∧ (¬ r15 = 0 → ((x2 < 0 → wp_D_property_20 F o0 x1 x2 Q X M14) ∧ (¬ x2 < 0 → ((5 ≤ x2 → wp_D_property_20 F o0 x1 x2 Q X M14) ∧ (¬ 5 ≤ x2 → wp_D_property_21 F o0 x1 x2 Q X M14 1)))))))
def wp_D_circle_14 (F : Nat) (o0 : Nat) (x1 : Int32) (Q : Int32 → om_M → Prop) (X : Nat → om_M → Prop)   (M : om_M)  (t0 : Int32) : Prop := wp_D_needElement F t0 M (fun M1 => wp_P_leastCircle F (o0 + 1) M1 (fun r3 M2 => ((r3 = (-1) → Q (-1) M2) ∧ (¬ r3 = (-1) → wp_O_at F r3 x1 M2 (fun r5 M4 => Q r5 M4))))) X
def wp_D_circle_13 (F : Nat) (o0 : Nat) (x1 : Int32) (Q : Int32 → om_M → Prop) (X : Nat → om_M → Prop)   (M : om_M)   : Prop := wp_D_circle_14 F o0 x1 Q X M 0
def wp_D_circle (F : Nat) (o0 : Nat) (x1 : Int32) (M : om_M) (Q : Int32 → om_M → Prop) (X : Nat → om_M → Prop) : Prop := ((x1 < 0 → wp_D_circle_13 F o0 x1 Q X M) ∧ (¬ x1 < 0 → ((3 ≤ x1 → wp_D_circle_13 F o0 x1 Q X M) ∧ (¬ 3 ≤ x1 → wp_D_circle_14 F o0 x1 Q X M 1))))
def wp_D_clones_81 (F : Nat) (o0 : Nat) (x1 : Int32) (Q : Int32 → om_M → Prop) (X : Nat → om_M → Prop)  (K33 : om_M × Int32 → Prop) (M : om_M) (x2 : Int32)  : Prop := K33 (M, x2 + 1)
def wp_D_clones_33b (F : Nat) (o0 : Nat) (x1 : Int32) (Q : Int32 → om_M → Prop) (X : Nat → om_M → Prop)   (K33 : om_M × Int32 → Prop) (M : om_M) (x2 : Int32) : Prop := (((M.1 (o0 + 1) 6) ≤ x2 → Q 1 M) ∧ (¬ (M.1 (o0 + 1) 6) ≤ x2 → vp_in x2 21 ∧ (((M.1 (o0 + 1 + 2) x2.toNatClampNeg) ≤ 0 → wp_D_clones_81 F o0 x1 Q X K33 M x2) ∧ (¬ (M.1 (o0 + 1 + 2) x2.toNatClampNeg) ≤ 0 → wp_O_standTogether F (M.1 (o0 + 1 + 1) x2.toNatClampNeg) x1 (M.1 (o0 + 1) 5) M (fun r3 M2 => ((r3 = 0 → Q 0 M2) ∧ (¬ r3 = 0 → wp_D_clones_81 F o0 x1 Q X K33 M2 x2)))))))
def wp_D_clones_33 (F : Nat) (o0 : Nat) (x1 : Int32) (Q : Int32 → om_M → Prop) (X : Nat → om_M → Prop)   (M : om_M) (x2 : Int32) : Prop := ow_lp (fun (z : om_M × Int32) K => wp_D_clones_33b F o0 x1 Q X   K z.1 z.2) F (M, x2)
def wp_D_clones_28 (F : Nat) (o0 : Nat) (x1 : Int32) (Q : Int32 → om_M → Prop) (X : Nat → om_M → Prop)   (M : om_M)  (t0 : Int32) : Prop := wp_D_needArgument F t0 M (fun M4 => wp_D_clones_33 F o0 x1 Q X M4 0) X
def wp_D_clones_27 (F : Nat) (o0 : Nat) (x1 : Int32) (Q : Int32 → om_M → Prop) (X : Nat → om_M → Prop)   (M : om_M)   : Prop := wp_D_clones_28 F o0 x1 Q X M 0
def wp_D_clones (F : Nat) (o0 : Nat) (x1 : Int32) (M : om_M) (Q : Int32 → om_M → Prop) (X : Nat → om_M → Prop) : Prop := ((x1 < 0 → wp_D_clones_27 F o0 x1 Q X M) ∧ (¬ x1 < 0 → wp_P_everyone F (o0 + 1) M (fun r6 M5 => ((r6 < x1 → wp_D_clones_27 F o0 x1 Q X M5) ∧ (¬ r6 < x1 → wp_JI_bitCount F x1 M5 (fun r8 M7 => ((r8 < 2 → wp_D_clones_27 F o0 x1 Q X M7) ∧ (¬ r8 < 2 → wp_D_clones_28 F o0 x1 Q X M7 1))))))))
def wp_D_count_14 (F : Nat) (o0 : Nat) (x1 : Int32) (Q : Int32 → om_M → Prop) (X : Nat → om_M → Prop)   (M : om_M)  (t0 : Int32) : Prop := wp_D_needArgument F t0 M (fun M1 => ((x1 = 0 → Q (M1.1 (o0 + 1) 5) M1) ∧ (¬ x1 = 0 → ((x1 = 1 → Q (M1.1 (o0 + 1) 6) M1) ∧ (¬ x1 = 1 → wp_P_allVoters F (o0 + 1) M1 (fun r3 M2 => Q r3 M2)))))) X
def wp_D_count_13 (F : Nat) (o0 : Nat) (x1 : Int32) (Q : Int32 → om_M → Prop) (X : Nat → om_M → Prop)   (M : om_M)   : Prop := wp_D_count_14 F o0 x1 Q X M 0
def wp_D_count (F : Nat) (o0 : Nat) (x1 : Int32) (M : om_M) (Q : Int32 → om_M → Prop) (X : Nat → om_M → Prop) : Prop := ((x1 < 0 → wp_D_count_13 F o0 x1 Q X M) ∧ (¬ x1 < 0 → ((2 < x1 → wp_D_count_13 F o0 x1 Q X M) ∧ (¬ 2 < x1 → wp_D_count_14 F o0 x1 Q X M 1))))
abbrev rm_D_change : Room := { frames := 7, cells := 2, slots := 12, locals := 174 }
theorem hd_D_change : yn_D_change.cls ≠ "java/lang/invoke/MethodHandle" ∧ yn_D_change.cls ≠ "java/lang/invoke/VarHandle" ∧ (parseMethodDescriptor yn_D_change.desc).map (fun d => d.parameters.length) = some 3 := by decide +kernel
set_option maxHeartbeats 4000000 in
set_option maxRecDepth 100000 in
theorem ct_D_change (l : Launch) (hfl : l.flags = Jvm.pinnedFlags ++ [Jvm.noTraceFlag]) (G : List (Nat × Nat)) (hG : ow_lay G) (D : va_G) (cA : Nat → ClassId) (ad : Nat → Nat) (F : Nat) (o0 : Nat) (k0 : ow_kd G o0 = (3, 0)) (x1 : Int32) (x2 : Int32) (x3 : Int32) (M : om_M) (Q : Int32 → om_M → Prop) (X : Nat → om_M → Prop) (h : wp_D_change F o0 x1 x2 x3 M Q X) : xw_Met l yn_D_change (ow_ws yn_D_change cb_D_change 4 (some .int)) rm_D_change (xw_Pc G D cA ad M [.ref (ad o0), .int x1, .int x2, .int x3]) (xw_Q G D cA ad (xw_ri Q) X) 2 12 (ow_A G ad) := by
  refine xw_ofW (cc := cb_D_change) (maxL := 4) (ret := (some .int)) (by decide) rfl ?_
  intro p e s m args below meth c s₁ B hml hno hv
  obtain ⟨rfl, hB, hZ⟩ := hv
  have htr := Launch.traces_off hfl B.admits
  have hx := B.exec
  have hb := B.bytes
  have hr := B.returns
  have hlocks := B.notSynchronized
  have hts : ∀ w ∈ lw_g, w.before ([.ref (ad o0), .int x1, .int x2, .int x3] : List Value).toArray s = true := fun w h => atoms_spec (ws := ow_ws yn_D_change cb_D_change 4 (some .int)) B.pre w (List.mem_cons_of_mem _ h)
  have hown : s.vm.findClass "BallotDesk" = some m.cls := findClass_of_methodNamed B.named
  clear B
  have L46 : ∀   (M : om_M)  (t0 : Int32) (H : Heap) (locs : List Loc) (ls : Array Slot), wp_D_change_46 F o0 x1 x2 x3 Q X   M  t0 → ow_B G D cA ad (ow_A G ad) M s s.heap H locs → lv_has ls 4 [(0, .ref (ad o0)), (1, .int x1), (2, .int x2), (3, .int x3)] → W p l e rm_D_change s m ([.ref (ad o0), .int x1, .int x2, .int x3] : List Value).toArray below meth c H locs 1 6 (xw_MQ below (xw_Q G D cA ad (xw_ri Q) X) ([.ref (ad o0), .int x1, .int x2, .int x3] : List Value).toArray s 2 12 (ow_A G ad)) (F0 m 46 ls [.int t0]) := by
    intro   M t0 H locs ls h hB hl
    refine xw_callS (As := [.int t0]) (rest := []) (maxL := 1) (mc := 1) (ms := 6) hx hb hown hts (ct_D_needArgument l hfl G hG D cA ad F _ _ _ _ h) (ow_wsin mw_333) (xw_cd_of (hts _ mw_333)) mw_1 mw_331 mw_332 hd_D_needArgument rfl rfl (Nat.le_of_ble_eq_true rfl) (Nat.le_of_ble_eq_true rfl) hB (xw_pre hB hZ) (hl.1.trans hml.symm) (Nat.le_of_ble_eq_true rfl) rfl dc_D_change_46 (Nat.le_of_ble_eq_true rfl) (Nat.le_of_ble_eq_true rfl) (fun q k M1 H locs ce hX hce hv hcl hB => xw_widen (k := 2) (n := 12) (by decide) (by decide) (xw_out hno hlocks hB hX hce hv hcl)) (fun v M1 H locs h hB => ?_)
    obtain ⟨rfl, h⟩ := h
    refine lv_aload_n hx hb dc_D_change_49 rfl (lv_at hl 0 rfl) ?_
    refine lv_aload_n hx hb dc_D_change_50 rfl (lv_at hl 0 rfl) ?_
    refine ow_get hx hb hts iw_D hown hB k0 rfl 2 (by decide) mw_231 rfl dc_D_change_51 ?_
    refine lv_aload_n hx hb dc_D_change_54 rfl (lv_at hl 0 rfl) ?_
    refine ow_get hx hb hts iw_D hown hB k0 rfl 0 (by decide) mw_229 rfl dc_D_change_55 ?_
    refine lv_iload_n hx hb dc_D_change_58 rfl (lv_at hl 1 rfl) ?_
    refine lv_iload_n hx hb dc_D_change_59 rfl (lv_at hl 2 rfl) ?_
    refine lv_iload_n hx hb dc_D_change_60 rfl (lv_at hl 3 rfl) ?_
    refine ow_calli (va_runV (As := [.ref (ad (o0 + 1)), .int x1, .int x2, .int x3]) (rest := [.ref (ad o0)]) ⟨hx, hb, hml, hown, hts⟩ (ct_W_betterOrder l G hG D cA ad F _ (ly_D_whatIf hG k0) _ (ly_D_poll hG k0) _ _ _ _ _ h) ⟨ow_cb 4 hts mw_672 mw_5 mw_669 rfl rfl hd_W_betterOrder ⟨Nat.le_of_ble_eq_true rfl, Nat.le_of_ble_eq_true rfl⟩, hts _ mw_670, hts _ mw_671⟩ (ow_preV hB (ly_D_whatIf hG k0) rfl) rfl rfl hl.1 rfl (lv_room (Nat.le_of_ble_eq_true rfl)) dc_D_change_61 ⟨Nat.le_of_ble_eq_true rfl, Nat.le_of_ble_eq_true rfl⟩) hB (fun r3 M2 H locs h hB => ?_)
    refine ow_put hx hb hts iw_D yf_D of_D nf_D hown hB k0 rfl 3 (by decide) mw_232 rfl (by decide +kernel) (Nat.le_of_ble_eq_true rfl) rfl dc_D_change_64 (fun H locs hB => ?_)
    refine lv_aload_n hx hb dc_D_change_67 rfl (lv_at hl 0 rfl) ?_
    refine ow_get hx hb hts iw_D hown hB k0 rfl 3 (by decide) mw_232 rfl dc_D_change_68 ?_
    refine lv_iconst (v := (-1)) hx hb dc_D_change_71 rfl ?_
    obtain ⟨h1, h2⟩ := h
    refine lv_icmp_ne hx hb dc_D_change_72 rfl (fun hc => ?_) (fun hc => ?_)
    · have h := h2 hc
      refine lv_aload_n hx hb dc_D_change_79 rfl (lv_at hl 0 rfl) ?_
      refine ow_get hx hb hts iw_D hown hB k0 rfl 2 (by decide) mw_231 rfl dc_D_change_80 ?_
      refine ow_get hx hb hts iw_W hown hB (ly_D_whatIf hG k0) rfl 3 (by decide) mw_219 rfl dc_D_change_83 ?_
      refine lv_iconst (v := 1) hx hb dc_D_change_86 rfl ?_
      refine lv_iadd hx hb dc_D_change_87 ?_
      exact xw_iret hx hb hr hlocks hB h dc_D_change_88
    · have h := h1 hc
      refine lv_iconst (v := 0) hx hb dc_D_change_75 rfl ?_
      refine lv_goto hx hb dc_D_change_76 rfl ?_
      exact xw_iret hx hb hr hlocks hB h dc_D_change_88
  have L45 : ∀   (M : om_M)   (H : Heap) (locs : List Loc) (ls : Array Slot), wp_D_change_45 F o0 x1 x2 x3 Q X   M   → ow_B G D cA ad (ow_A G ad) M s s.heap H locs → lv_has ls 4 [(0, .ref (ad o0)), (1, .int x1), (2, .int x2), (3, .int x3)] → W p l e rm_D_change s m ([.ref (ad o0), .int x1, .int x2, .int x3] : List Value).toArray below meth c H locs 1 6 (xw_MQ below (xw_Q G D cA ad (xw_ri Q) X) ([.ref (ad o0), .int x1, .int x2, .int x3] : List Value).toArray s 2 12 (ow_A G ad)) (F0 m 45 ls []) := by
    intro   M H locs ls h hB hl
    refine lv_iconst (v := 0) hx hb dc_D_change_45 rfl ?_
    exact L46 _ _ _ _ _ h hB (lv_sub hl [0, 1, 2, 3] rfl)
  have L20 : ∀   (M : om_M)  (t0 : Int32) (H : Heap) (locs : List Loc) (ls : Array Slot), wp_D_change_20 F o0 x1 x2 x3 Q X   M  t0 → ow_B G D cA ad (ow_A G ad) M s s.heap H locs → lv_has ls 4 [(0, .ref (ad o0)), (1, .int x1), (2, .int x2), (3, .int x3)] → W p l e rm_D_change s m ([.ref (ad o0), .int x1, .int x2, .int x3] : List Value).toArray below meth c H locs 0 0 (xw_MQ below (xw_Q G D cA ad (xw_ri Q) X) ([.ref (ad o0), .int x1, .int x2, .int x3] : List Value).toArray s 2 12 (ow_A G ad)) (F0 m 20 ls [.int t0]) := by
    intro   M t0 H locs ls h hB hl
    refine xw_callS (As := [.int t0]) (rest := []) (maxL := 1) (mc := 1) (ms := 6) hx hb hown hts (ct_D_needElement l hfl G hG D cA ad F _ _ _ _ h) (ow_wsin mw_450) (xw_cd_of (hts _ mw_450)) mw_1 mw_448 mw_449 hd_D_needElement rfl rfl (Nat.le_of_ble_eq_true rfl) (Nat.le_of_ble_eq_true rfl) hB (xw_pre hB hZ) (hl.1.trans hml.symm) (Nat.le_of_ble_eq_true rfl) rfl dc_D_change_20 (Nat.le_of_ble_eq_true rfl) (Nat.le_of_ble_eq_true rfl) (fun q k M1 H locs ce hX hce hv hcl hB => xw_widen (k := 2) (n := 12) (by decide) (by decide) (xw_out hno hlocks hB hX hce hv hcl)) (fun v M4 H locs h hB => ?_)
    obtain ⟨rfl, h⟩ := h
    refine lv_iload_n hx hb dc_D_change_23 rfl (lv_at hl 3 rfl) ?_
    refine lv_iconst (v := 1) hx hb dc_D_change_24 rfl ?_
    obtain ⟨h1, h2⟩ := h
    refine lv_icmp_lt hx hb dc_D_change_25 rfl (fun hc => ?_) (fun hc => ?_)
    · have h := h1 hc
      exact L45 _ _ _ _ h hB (lv_sub hl [0, 1, 2, 3] rfl)
    · have h := h2 hc
      refine lv_iload_n hx hb dc_D_change_28 rfl (lv_at hl 3 rfl) ?_
      refine lv_aload_n hx hb dc_D_change_29 rfl (lv_at hl 0 rfl) ?_
      refine ow_get hx hb hts iw_D hown hB k0 rfl 0 (by decide) mw_229 rfl dc_D_change_30 ?_
      refine ow_get hx hb hts iw_P hown hB (ly_D_poll hG k0) rfl 1 (by decide) mw_45 rfl dc_D_change_33 ?_
      refine lv_iload_n hx hb dc_D_change_36 rfl (lv_at hl 2 rfl) ?_
      obtain ⟨hi5, h⟩ := h
      refine ow_iald hx hb hB (ly_P_voters hG (ly_D_poll hG k0)) hi5 dc_D_change_37 ?_
      obtain ⟨h1, h2⟩ := h
      refine lv_icmp_gt hx hb dc_D_change_38 rfl (fun hc => ?_) (fun hc => ?_)
      · have h := h1 hc
        exact L45 _ _ _ _ h hB (lv_sub hl [0, 1, 2, 3] rfl)
      · have h := h2 hc
        refine lv_iconst (v := 1) hx hb dc_D_change_41 rfl ?_
        refine lv_goto hx hb dc_D_change_42 rfl ?_
        exact L46 _ _ _ _ _ h hB (lv_sub hl [0, 1, 2, 3] rfl)
  have L19 : ∀   (M : om_M)   (H : Heap) (locs : List Loc) (ls : Array Slot), wp_D_change_19 F o0 x1 x2 x3 Q X   M   → ow_B G D cA ad (ow_A G ad) M s s.heap H locs → lv_has ls 4 [(0, .ref (ad o0)), (1, .int x1), (2, .int x2), (3, .int x3)] → W p l e rm_D_change s m ([.ref (ad o0), .int x1, .int x2, .int x3] : List Value).toArray below meth c H locs 0 0 (xw_MQ below (xw_Q G D cA ad (xw_ri Q) X) ([.ref (ad o0), .int x1, .int x2, .int x3] : List Value).toArray s 2 12 (ow_A G ad)) (F0 m 19 ls []) := by
    intro   M H locs ls h hB hl
    refine lv_iconst (v := 0) hx hb dc_D_change_19 rfl ?_
    exact L20 _ _ _ _ _ h hB (lv_sub hl [0, 1, 2, 3] rfl)
  have hl := lv_entry ([.ref (ad o0), .int x1, .int x2, .int x3]) (n := 4) (Nat.le_of_ble_eq_true rfl)
  rw [lg_entry_eq]
  generalize (lg_sl ([.ref (ad o0), .int x1, .int x2, .int x3]) ++ List.replicate (4 - (lg_sl ([.ref (ad o0), .int x1, .int x2, .int x3])).length) Slot.unset).toArray = ls at hl ⊢
  have hl : lv_has ls 4 [(0, .ref (ad o0)), (1, .int x1), (2, .int x2), (3, .int x3)] := hl
  show W p l e rm_D_change s m _ below meth c s.heap [] 0 0 _ _
  refine lv_iload_n hx hb dc_D_change_0 rfl (lv_at hl 1 rfl) ?_
  refine ow_calli (va_runS (As := [.int x1]) (rest := []) ⟨hx, hb, hml, hown, hts⟩ (ct_D_isRule l G hG D cA ad F _ _ _ h) ⟨ow_cb 1 hts mw_511 mw_1 mw_509 rfl rfl hd_D_isRule ⟨Nat.le_of_ble_eq_true rfl, Nat.le_of_ble_eq_true rfl⟩, hts _ mw_510⟩ (ow_preS hB) rfl rfl hl.1 rfl (lv_room (Nat.le_of_ble_eq_true rfl)) dc_D_change_1 ⟨Nat.le_of_ble_eq_true rfl, Nat.le_of_ble_eq_true rfl⟩) hB (fun r7 M6 H locs h hB => ?_)
  obtain ⟨h1, h2⟩ := h
  refine lv_if_eq hx hb dc_D_change_4 rfl (fun hc => ?_) (fun hc => ?_)
  · have h := h1 hc
    exact L19 _ _ _ _ h hB (lv_sub hl [0, 1, 2, 3] rfl)
  · have h := h2 hc
    refine lv_aload_n hx hb dc_D_change_7 rfl (lv_at hl 0 rfl) ?_
    refine lv_iload_n hx hb dc_D_change_8 rfl (lv_at hl 2 rfl) ?_
    refine ow_calli (va_runV (As := [.int x2]) (rest := []) ⟨hx, hb, hml, hown, hts⟩ (ct_D_isType l G hG D cA ad F _ k0 _ _ _ h) ⟨ow_cb 1 hts mw_447 mw_1 mw_444 rfl rfl hd_D_isType ⟨Nat.le_of_ble_eq_true rfl, Nat.le_of_ble_eq_true rfl⟩, hts _ mw_446, hts _ ms_9⟩ (ow_preV hB k0 rfl) rfl rfl hl.1 rfl (lv_room (Nat.le_of_ble_eq_true rfl)) dc_D_change_9 ⟨Nat.le_of_ble_eq_true rfl, Nat.le_of_ble_eq_true rfl⟩) hB (fun r9 M8 H locs h hB => ?_)
    obtain ⟨h1, h2⟩ := h
    refine lv_if_eq hx hb dc_D_change_12 rfl (fun hc => ?_) (fun hc => ?_)
    · have h := h1 hc
      exact L19 _ _ _ _ h hB (lv_sub hl [0, 1, 2, 3] rfl)
    · have h := h2 hc
      refine lv_iconst (v := 1) hx hb dc_D_change_15 rfl ?_
      refine lv_goto hx hb dc_D_change_16 rfl ?_
      exact L20 _ _ _ _ _ h hB (lv_sub hl [0, 1, 2, 3] rfl)
abbrev rm_D_property : Room := { frames := 7, cells := 1, slots := 6, locals := 168 }
theorem hd_D_property : yn_D_property.cls ≠ "java/lang/invoke/MethodHandle" ∧ yn_D_property.cls ≠ "java/lang/invoke/VarHandle" ∧ (parseMethodDescriptor yn_D_property.desc).map (fun d => d.parameters.length) = some 2 := by decide +kernel
set_option maxHeartbeats 4000000 in
set_option maxRecDepth 100000 in
theorem ct_D_property (l : Launch) (hfl : l.flags = Jvm.pinnedFlags ++ [Jvm.noTraceFlag]) (G : List (Nat × Nat)) (hG : ow_lay G) (D : va_G) (cA : Nat → ClassId) (ad : Nat → Nat) (F : Nat) (o0 : Nat) (k0 : ow_kd G o0 = (3, 0)) (x1 : Int32) (x2 : Int32) (M : om_M) (Q : Int32 → om_M → Prop) (X : Nat → om_M → Prop) (h : wp_D_property F o0 x1 x2 M Q X) : xw_Met l yn_D_property (ow_ws yn_D_property cb_D_property 3 (some .boolean)) rm_D_property (xw_Pc G D cA ad M [.ref (ad o0), .int x1, .int x2]) (xw_Q G D cA ad (xw_ri Q) X) 1 6 (ow_A G ad) := by
  refine xw_ofW (cc := cb_D_property) (maxL := 3) (ret := (some .boolean)) (by decide) rfl ?_
  intro p e s m args below meth c s₁ B hml hno hv
  obtain ⟨rfl, hB, hZ⟩ := hv
  have htr := Launch.traces_off hfl B.admits
  have hx := B.exec
  have hb := B.bytes
  have hr := B.returns
  have hlocks := B.notSynchronized
  have hts : ∀ w ∈ lw_g, w.before ([.ref (ad o0), .int x1, .int x2] : List Value).toArray s = true := fun w h => atoms_spec (ws := ow_ws yn_D_property cb_D_property 3 (some .boolean)) B.pre w (List.mem_cons_of_mem _ h)
  have hown : s.vm.findClass "BallotDesk" = some m.cls := findClass_of_methodNamed B.named
  clear B
  have L152 : ∀   (M : om_M)   (H : Heap) (locs : List Loc) (ls : Array Slot), wp_D_property_152 F o0 x1 x2 Q X   M   → ow_B G D cA ad (ow_A G ad) M s s.heap H locs → lv_has ls 3 [(0, .ref (ad o0))] → W p l e rm_D_property s m ([.ref (ad o0), .int x1, .int x2] : List Value).toArray below meth c H locs 1 6 (xw_MQ below (xw_Q G D cA ad (xw_ri Q) X) ([.ref (ad o0), .int x1, .int x2] : List Value).toArray s 1 6 (ow_A G ad)) (F0 m 152 ls []) := by
    intro   M H locs ls h hB hl
    refine lv_aload_n hx hb dc_D_property_152 rfl (lv_at hl 0 rfl) ?_
    refine ow_get hx hb hts iw_D hown hB k0 rfl 4 (by decide) mw_233 rfl dc_D_property_153 ?_
    refine lv_iconst (v := (-1)) hx hb dc_D_property_156 rfl ?_
    obtain ⟨h1, h2⟩ := h
    refine lv_icmp_ne hx hb dc_D_property_157 rfl (fun hc => ?_) (fun hc => ?_)
    · have h := h2 hc
      refine lv_iconst (v := 0) hx hb dc_D_property_164 rfl ?_
      exact xw_zret hx hb hr hlocks (by decide) hB h dc_D_property_165
    · have h := h1 hc
      refine lv_iconst (v := 1) hx hb dc_D_property_160 rfl ?_
      refine lv_goto hx hb dc_D_property_161 rfl ?_
      exact xw_zret hx hb hr hlocks (by decide) hB h dc_D_property_165
  have L21 : ∀   (M : om_M)  (t0 : Int32) (H : Heap) (locs : List Loc) (ls : Array Slot), wp_D_property_21 F o0 x1 x2 Q X   M  t0 → ow_B G D cA ad (ow_A G ad) M s s.heap H locs → lv_has ls 3 [(0, .ref (ad o0)), (1, .int x1), (2, .int x2)] → W p l e rm_D_property s m ([.ref (ad o0), .int x1, .int x2] : List Value).toArray below meth c H locs 0 0 (xw_MQ below (xw_Q G D cA ad (xw_ri Q) X) ([.ref (ad o0), .int x1, .int x2] : List Value).toArray s 1 6 (ow_A G ad)) (F0 m 21 ls [.int t0]) := by
    intro   M t0 H locs ls h hB hl
    refine xw_callS (As := [.int t0]) (rest := []) (maxL := 1) (mc := 1) (ms := 6) hx hb hown hts (ct_D_needElement l hfl G hG D cA ad F _ _ _ _ h) (ow_wsin mw_450) (xw_cd_of (hts _ mw_450)) mw_1 mw_448 mw_449 hd_D_needElement rfl rfl (Nat.le_of_ble_eq_true rfl) (Nat.le_of_ble_eq_true rfl) hB (xw_pre hB hZ) (hl.1.trans hml.symm) (Nat.le_of_ble_eq_true rfl) rfl dc_D_property_21 (Nat.le_of_ble_eq_true rfl) (Nat.le_of_ble_eq_true rfl) (fun q k M1 H locs ce hX hce hv hcl hB => xw_widen (k := 1) (n := 6) (by decide) (by decide) (xw_out hno hlocks hB hX hce hv hcl)) (fun v M1 H locs h hB => ?_)
    obtain ⟨rfl, h⟩ := h
    refine lv_iload_n hx hb dc_D_property_24 rfl (lv_at hl 2 rfl) ?_
    obtain ⟨h1, h2⟩ := h
    by_cases hc0 : x2 = 0
    · have h := h1 hc0
      refine lv_tableIn hx hb dc_D_property_25 (by rw [hc0]; decide) (by rw [hc0]; decide) (by rw [hc0]; rfl) rfl ?_
      refine lv_aload_n hx hb dc_D_property_60 rfl (lv_at hl 0 rfl) ?_
      refine lv_aload_n hx hb dc_D_property_61 rfl (lv_at hl 0 rfl) ?_
      refine ow_get hx hb hts iw_D hown hB k0 rfl 2 (by decide) mw_231 rfl dc_D_property_62 ?_
      refine lv_aload_n hx hb dc_D_property_65 rfl (lv_at hl 0 rfl) ?_
      refine ow_get hx hb hts iw_D hown hB k0 rfl 0 (by decide) mw_229 rfl dc_D_property_66 ?_
      refine lv_iload_n hx hb dc_D_property_69 rfl (lv_at hl 1 rfl) ?_
      refine ow_calli (va_runV (As := [.ref (ad (o0 + 1)), .int x1]) (rest := [.ref (ad o0)]) ⟨hx, hb, hml, hown, hts⟩ (ct_W_bestNotAlone l G hG D cA ad F _ (ly_D_whatIf hG k0) _ (ly_D_poll hG k0) _ _ _ h) ⟨ow_cb 2 hts mw_713 mw_5 mw_710 rfl rfl hd_W_bestNotAlone ⟨Nat.le_of_ble_eq_true rfl, Nat.le_of_ble_eq_true rfl⟩, hts _ mw_711, hts _ mw_712⟩ (ow_preV hB (ly_D_whatIf hG k0) rfl) rfl rfl hl.1 rfl (lv_room (Nat.le_of_ble_eq_true rfl)) dc_D_property_70 ⟨Nat.le_of_ble_eq_true rfl, Nat.le_of_ble_eq_true rfl⟩) hB (fun r13 M12 H locs h hB => ?_)
      refine ow_put hx hb hts iw_D yf_D of_D nf_D hown hB k0 rfl 4 (by decide) mw_233 rfl (by decide +kernel) (Nat.le_of_ble_eq_true rfl) rfl dc_D_property_73 (fun H locs hB => ?_)
      refine lv_goto hx hb dc_D_property_76 rfl ?_
      exact L152 _ _ _ _ h hB (lv_sub hl [0] rfl)
    · have h := h2 hc0
      obtain ⟨h1, h2⟩ := h
      by_cases hc1 : x2 = 1
      · have h := h1 hc1
        refine lv_tableIn hx hb dc_D_property_25 (by rw [hc1]; decide) (by rw [hc1]; decide) (by rw [hc1]; rfl) rfl ?_
        refine lv_aload_n hx hb dc_D_property_79 rfl (lv_at hl 0 rfl) ?_
        refine lv_aload_n hx hb dc_D_property_80 rfl (lv_at hl 0 rfl) ?_
        refine ow_get hx hb hts iw_D hown hB k0 rfl 2 (by decide) mw_231 rfl dc_D_property_81 ?_
        refine lv_aload_n hx hb dc_D_property_84 rfl (lv_at hl 0 rfl) ?_
        refine ow_get hx hb hts iw_D hown hB k0 rfl 0 (by decide) mw_229 rfl dc_D_property_85 ?_
        refine lv_iload_n hx hb dc_D_property_88 rfl (lv_at hl 1 rfl) ?_
        refine ow_calli (va_runV (As := [.ref (ad (o0 + 1)), .int x1]) (rest := [.ref (ad o0)]) ⟨hx, hb, hml, hown, hts⟩ (ct_W_worstAmongWinners l G hG D cA ad F _ (ly_D_whatIf hG k0) _ (ly_D_poll hG k0) _ _ _ h) ⟨ow_cb 2 hts mw_720 mw_5 mw_717 rfl rfl hd_W_worstAmongWinners ⟨Nat.le_of_ble_eq_true rfl, Nat.le_of_ble_eq_true rfl⟩, hts _ mw_718, hts _ mw_719⟩ (ow_preV hB (ly_D_whatIf hG k0) rfl) rfl rfl hl.1 rfl (lv_room (Nat.le_of_ble_eq_true rfl)) dc_D_property_89 ⟨Nat.le_of_ble_eq_true rfl, Nat.le_of_ble_eq_true rfl⟩) hB (fun r11 M10 H locs h hB => ?_)
        refine ow_put hx hb hts iw_D yf_D of_D nf_D hown hB k0 rfl 4 (by decide) mw_233 rfl (by decide +kernel) (Nat.le_of_ble_eq_true rfl) rfl dc_D_property_92 (fun H locs hB => ?_)
        refine lv_goto hx hb dc_D_property_95 rfl ?_
        exact L152 _ _ _ _ h hB (lv_sub hl [0] rfl)
      · have h := h2 hc1
        obtain ⟨h1, h2⟩ := h
        by_cases hc2 : x2 = 2
        · have h := h1 hc2
          refine lv_tableIn hx hb dc_D_property_25 (by rw [hc2]; decide) (by rw [hc2]; decide) (by rw [hc2]; rfl) rfl ?_
          refine lv_aload_n hx hb dc_D_property_98 rfl (lv_at hl 0 rfl) ?_
          refine lv_aload_n hx hb dc_D_property_99 rfl (lv_at hl 0 rfl) ?_
          refine ow_get hx hb hts iw_D hown hB k0 rfl 2 (by decide) mw_231 rfl dc_D_property_100 ?_
          refine lv_aload_n hx hb dc_D_property_103 rfl (lv_at hl 0 rfl) ?_
          refine ow_get hx hb hts iw_D hown hB k0 rfl 0 (by decide) mw_229 rfl dc_D_property_104 ?_
          refine lv_iload_n hx hb dc_D_property_107 rfl (lv_at hl 1 rfl) ?_
          refine ow_calli (va_runV (As := [.ref (ad (o0 + 1)), .int x1]) (rest := [.ref (ad o0)]) ⟨hx, hb, hml, hown, hts⟩ (ct_W_typeThatHarmsByRaising l G hG D cA ad F _ (ly_D_whatIf hG k0) _ (ly_D_poll hG k0) _ _ _ h) ⟨ow_cb 2 hts mw_725 mw_5 mw_722 rfl rfl hd_W_typeThatHarmsByRaising ⟨Nat.le_of_ble_eq_true rfl, Nat.le_of_ble_eq_true rfl⟩, hts _ mw_723, hts _ mw_724⟩ (ow_preV hB (ly_D_whatIf hG k0) rfl) rfl rfl hl.1 rfl (lv_room (Nat.le_of_ble_eq_true rfl)) dc_D_property_108 ⟨Nat.le_of_ble_eq_true rfl, Nat.le_of_ble_eq_true rfl⟩) hB (fun r9 M8 H locs h hB => ?_)
          refine ow_put hx hb hts iw_D yf_D of_D nf_D hown hB k0 rfl 4 (by decide) mw_233 rfl (by decide +kernel) (Nat.le_of_ble_eq_true rfl) rfl dc_D_property_111 (fun H locs hB => ?_)
          refine lv_goto hx hb dc_D_property_114 rfl ?_
          exact L152 _ _ _ _ h hB (lv_sub hl [0] rfl)
        · have h := h2 hc2
          obtain ⟨h1, h2⟩ := h
          by_cases hc3 : x2 = 3
          · have h := h1 hc3
            refine lv_tableIn hx hb dc_D_property_25 (by rw [hc3]; decide) (by rw [hc3]; decide) (by rw [hc3]; rfl) rfl ?_
            refine lv_aload_n hx hb dc_D_property_117 rfl (lv_at hl 0 rfl) ?_
            refine lv_aload_n hx hb dc_D_property_118 rfl (lv_at hl 0 rfl) ?_
            refine ow_get hx hb hts iw_D hown hB k0 rfl 2 (by decide) mw_231 rfl dc_D_property_119 ?_
            refine lv_aload_n hx hb dc_D_property_122 rfl (lv_at hl 0 rfl) ?_
            refine ow_get hx hb hts iw_D hown hB k0 rfl 0 (by decide) mw_229 rfl dc_D_property_123 ?_
            refine lv_iload_n hx hb dc_D_property_126 rfl (lv_at hl 1 rfl) ?_
            refine ow_calli (va_runV (As := [.ref (ad (o0 + 1)), .int x1]) (rest := [.ref (ad o0)]) ⟨hx, hb, hml, hown, hts⟩ (ct_W_typeThatHarmsByJoining l G hG D cA ad F _ (ly_D_whatIf hG k0) _ (ly_D_poll hG k0) _ _ _ h) ⟨ow_cb 2 hts mw_733 mw_5 mw_730 rfl rfl hd_W_typeThatHarmsByJoining ⟨Nat.le_of_ble_eq_true rfl, Nat.le_of_ble_eq_true rfl⟩, hts _ mw_731, hts _ mw_732⟩ (ow_preV hB (ly_D_whatIf hG k0) rfl) rfl rfl hl.1 rfl (lv_room (Nat.le_of_ble_eq_true rfl)) dc_D_property_127 ⟨Nat.le_of_ble_eq_true rfl, Nat.le_of_ble_eq_true rfl⟩) hB (fun r7 M6 H locs h hB => ?_)
            refine ow_put hx hb hts iw_D yf_D of_D nf_D hown hB k0 rfl 4 (by decide) mw_233 rfl (by decide +kernel) (Nat.le_of_ble_eq_true rfl) rfl dc_D_property_130 (fun H locs hB => ?_)
            refine lv_goto hx hb dc_D_property_133 rfl ?_
            exact L152 _ _ _ _ h hB (lv_sub hl [0] rfl)
          · have h := h2 hc3
            obtain ⟨h1, h2⟩ := h
            by_cases hc4 : x2 = 4
            · have h := h1 hc4
              refine lv_tableIn hx hb dc_D_property_25 (by rw [hc4]; decide) (by rw [hc4]; decide) (by rw [hc4]; rfl) rfl ?_
              refine lv_aload_n hx hb dc_D_property_136 rfl (lv_at hl 0 rfl) ?_
              refine lv_aload_n hx hb dc_D_property_137 rfl (lv_at hl 0 rfl) ?_
              refine ow_get hx hb hts iw_D hown hB k0 rfl 2 (by decide) mw_231 rfl dc_D_property_138 ?_
              refine lv_aload_n hx hb dc_D_property_141 rfl (lv_at hl 0 rfl) ?_
              refine ow_get hx hb hts iw_D hown hB k0 rfl 0 (by decide) mw_229 rfl dc_D_property_142 ?_
              refine lv_iload_n hx hb dc_D_property_145 rfl (lv_at hl 1 rfl) ?_
              refine ow_calli (va_runV (As := [.ref (ad (o0 + 1)), .int x1]) (rest := [.ref (ad o0)]) ⟨hx, hb, hml, hown, hts⟩ (ct_W_loserThatHarmsByLeaving l G hG D cA ad F _ (ly_D_whatIf hG k0) _ (ly_D_poll hG k0) _ _ _ h) ⟨ow_cb 2 hts mw_738 mw_5 mw_735 rfl rfl hd_W_loserThatHarmsByLeaving ⟨Nat.le_of_ble_eq_true rfl, Nat.le_of_ble_eq_true rfl⟩, hts _ mw_736, hts _ mw_737⟩ (ow_preV hB (ly_D_whatIf hG k0) rfl) rfl rfl hl.1 rfl (lv_room (Nat.le_of_ble_eq_true rfl)) dc_D_property_146 ⟨Nat.le_of_ble_eq_true rfl, Nat.le_of_ble_eq_true rfl⟩) hB (fun r5 M4 H locs h hB => ?_)
              refine ow_put hx hb hts iw_D yf_D of_D nf_D hown hB k0 rfl 4 (by decide) mw_233 rfl (by decide +kernel) (Nat.le_of_ble_eq_true rfl) rfl dc_D_property_149 (fun H locs hB => ?_)
              exact L152 _ _ _ _ h hB (lv_sub hl [0] rfl)
            · have h := h2 hc4
              refine lv_tableOut hx hb dc_D_property_25 (by have a0 := lv_neT hc0 (a := 0) rfl; have a1 := lv_neT hc1 (a := 1) rfl; have a2 := lv_neT hc2 (a := 2) rfl; have a3 := lv_neT hc3 (a := 3) rfl; have a4 := lv_neT hc4 (a := 4) rfl; omega) rfl ?_
              refine lv_aload_n hx hb dc_D_property_136 rfl (lv_at hl 0 rfl) ?_
              refine lv_aload_n hx hb dc_D_property_137 rfl (lv_at hl 0 rfl) ?_
              refine ow_get hx hb hts iw_D hown hB k0 rfl 2 (by decide) mw_231 rfl dc_D_property_138 ?_
              refine lv_aload_n hx hb dc_D_property_141 rfl (lv_at hl 0 rfl) ?_
              refine ow_get hx hb hts iw_D hown hB k0 rfl 0 (by decide) mw_229 rfl dc_D_property_142 ?_
              refine lv_iload_n hx hb dc_D_property_145 rfl (lv_at hl 1 rfl) ?_
              refine ow_calli (va_runV (As := [.ref (ad (o0 + 1)), .int x1]) (rest := [.ref (ad o0)]) ⟨hx, hb, hml, hown, hts⟩ (ct_W_loserThatHarmsByLeaving l G hG D cA ad F _ (ly_D_whatIf hG k0) _ (ly_D_poll hG k0) _ _ _ h) ⟨ow_cb 2 hts mw_738 mw_5 mw_735 rfl rfl hd_W_loserThatHarmsByLeaving ⟨Nat.le_of_ble_eq_true rfl, Nat.le_of_ble_eq_true rfl⟩, hts _ mw_736, hts _ mw_737⟩ (ow_preV hB (ly_D_whatIf hG k0) rfl) rfl rfl hl.1 rfl (lv_room (Nat.le_of_ble_eq_true rfl)) dc_D_property_146 ⟨Nat.le_of_ble_eq_true rfl, Nat.le_of_ble_eq_true rfl⟩) hB (fun r3 M2 H locs h hB => ?_)
              refine ow_put hx hb hts iw_D yf_D of_D nf_D hown hB k0 rfl 4 (by decide) mw_233 rfl (by decide +kernel) (Nat.le_of_ble_eq_true rfl) rfl dc_D_property_149 (fun H locs hB => ?_)
              exact L152 _ _ _ _ h hB (lv_sub hl [0] rfl)
  have L20 : ∀   (M : om_M)   (H : Heap) (locs : List Loc) (ls : Array Slot), wp_D_property_20 F o0 x1 x2 Q X   M   → ow_B G D cA ad (ow_A G ad) M s s.heap H locs → lv_has ls 3 [(0, .ref (ad o0)), (1, .int x1), (2, .int x2)] → W p l e rm_D_property s m ([.ref (ad o0), .int x1, .int x2] : List Value).toArray below meth c H locs 0 0 (xw_MQ below (xw_Q G D cA ad (xw_ri Q) X) ([.ref (ad o0), .int x1, .int x2] : List Value).toArray s 1 6 (ow_A G ad)) (F0 m 20 ls []) := by
    intro   M H locs ls h hB hl
    refine lv_iconst (v := 0) hx hb dc_D_property_20 rfl ?_
    exact L21 _ _ _ _ _ h hB (lv_sub hl [0, 1, 2] rfl)
  have hl := lv_entry ([.ref (ad o0), .int x1, .int x2]) (n := 3) (Nat.le_of_ble_eq_true rfl)
  rw [lg_entry_eq]
  generalize (lg_sl ([.ref (ad o0), .int x1, .int x2]) ++ List.replicate (3 - (lg_sl ([.ref (ad o0), .int x1, .int x2])).length) Slot.unset).toArray = ls at hl ⊢
  have hl : lv_has ls 3 [(0, .ref (ad o0)), (1, .int x1), (2, .int x2)] := hl
  show W p l e rm_D_property s m _ below meth c s.heap [] 0 0 _ _
  refine lv_iload_n hx hb dc_D_property_0 rfl (lv_at hl 1 rfl) ?_
  refine ow_calli (va_runS (As := [.int x1]) (rest := []) ⟨hx, hb, hml, hown, hts⟩ (ct_D_isRule l G hG D cA ad F _ _ _ h) ⟨ow_cb 1 hts mw_511 mw_1 mw_509 rfl rfl hd_D_isRule ⟨Nat.le_of_ble_eq_true rfl, Nat.le_of_ble_eq_true rfl⟩, hts _ mw_510⟩ (ow_preS hB) rfl rfl hl.1 rfl (lv_room (Nat.le_of_ble_eq_true rfl)) dc_D_property_1 ⟨Nat.le_of_ble_eq_true rfl, Nat.le_of_ble_eq_true rfl⟩) hB (fun r15 M14 H locs h hB => ?_)
  obtain ⟨h1, h2⟩ := h
  refine lv_if_eq hx hb dc_D_property_4 rfl (fun hc => ?_) (fun hc => ?_)
  · have h := h1 hc
    exact L20 _ _ _ _ h hB (lv_sub hl [0, 1, 2] rfl)
  · have h := h2 hc
    refine lv_iload_n hx hb dc_D_property_7 rfl (lv_at hl 2 rfl) ?_
    obtain ⟨h1, h2⟩ := h
    refine lv_if_lt hx hb dc_D_property_8 rfl (fun hc => ?_) (fun hc => ?_)
    · have h := h1 hc
      exact L20 _ _ _ _ h hB (lv_sub hl [0, 1, 2] rfl)
    · have h := h2 hc
      refine lv_iload_n hx hb dc_D_property_11 rfl (lv_at hl 2 rfl) ?_
      refine lv_iconst (v := 5) hx hb dc_D_property_12 rfl ?_
      obtain ⟨h1, h2⟩ := h
      refine lv_icmp_ge hx hb dc_D_property_13 rfl (fun hc => ?_) (fun hc => ?_)
      · have h := h1 hc
        exact L20 _ _ _ _ h hB (lv_sub hl [0, 1, 2] rfl)
      · have h := h2 hc
        refine lv_iconst (v := 1) hx hb dc_D_property_16 rfl ?_
        refine lv_goto hx hb dc_D_property_17 rfl ?_
        exact L21 _ _ _ _ _ h hB (lv_sub hl [0, 1, 2] rfl)
abbrev rm_D_circle : Room := { frames := 7, cells := 1, slots := 6, locals := 120 }
theorem hd_D_circle : yn_D_circle.cls ≠ "java/lang/invoke/MethodHandle" ∧ yn_D_circle.cls ≠ "java/lang/invoke/VarHandle" ∧ (parseMethodDescriptor yn_D_circle.desc).map (fun d => d.parameters.length) = some 1 := by decide +kernel
set_option maxHeartbeats 4000000 in
set_option maxRecDepth 100000 in
theorem ct_D_circle (l : Launch) (hfl : l.flags = Jvm.pinnedFlags ++ [Jvm.noTraceFlag]) (G : List (Nat × Nat)) (hG : ow_lay G) (D : va_G) (cA : Nat → ClassId) (ad : Nat → Nat) (F : Nat) (o0 : Nat) (k0 : ow_kd G o0 = (3, 0)) (x1 : Int32) (M : om_M) (Q : Int32 → om_M → Prop) (X : Nat → om_M → Prop) (h : wp_D_circle F o0 x1 M Q X) : xw_Met l yn_D_circle (ow_ws yn_D_circle cb_D_circle 3 (some .int)) rm_D_circle (xw_Pc G D cA ad M [.ref (ad o0), .int x1]) (xw_Q G D cA ad (xw_ri Q) X) 1 6 (ow_A G ad) := by
  refine xw_ofW (cc := cb_D_circle) (maxL := 3) (ret := (some .int)) (by decide) rfl ?_
  intro p e s m args below meth c s₁ B hml hno hv
  obtain ⟨rfl, hB, hZ⟩ := hv
  have htr := Launch.traces_off hfl B.admits
  have hx := B.exec
  have hb := B.bytes
  have hr := B.returns
  have hlocks := B.notSynchronized
  have hts : ∀ w ∈ lw_g, w.before ([.ref (ad o0), .int x1] : List Value).toArray s = true := fun w h => atoms_spec (ws := ow_ws yn_D_circle cb_D_circle 3 (some .int)) B.pre w (List.mem_cons_of_mem _ h)
  have hown : s.vm.findClass "BallotDesk" = some m.cls := findClass_of_methodNamed B.named
  clear B
  have L14 : ∀   (M : om_M)  (t0 : Int32) (H : Heap) (locs : List Loc) (ls : Array Slot), wp_D_circle_14 F o0 x1 Q X   M  t0 → ow_B G D cA ad (ow_A G ad) M s s.heap H locs → lv_has ls 3 [(0, .ref (ad o0)), (1, .int x1)] → W p l e rm_D_circle s m ([.ref (ad o0), .int x1] : List Value).toArray below meth c H locs 0 0 (xw_MQ below (xw_Q G D cA ad (xw_ri Q) X) ([.ref (ad o0), .int x1] : List Value).toArray s 1 6 (ow_A G ad)) (F0 m 14 ls [.int t0]) := by
    intro   M t0 H locs ls h hB hl
    refine xw_callS (As := [.int t0]) (rest := []) (maxL := 1) (mc := 1) (ms := 6) hx hb hown hts (ct_D_needElement l hfl G hG D cA ad F _ _ _ _ h) (ow_wsin mw_450) (xw_cd_of (hts _ mw_450)) mw_1 mw_448 mw_449 hd_D_needElement rfl rfl (Nat.le_of_ble_eq_true rfl) (Nat.le_of_ble_eq_true rfl) hB (xw_pre hB hZ) (hl.1.trans hml.symm) (Nat.le_of_ble_eq_true rfl) rfl dc_D_circle_14 (Nat.le_of_ble_eq_true rfl) (Nat.le_of_ble_eq_true rfl) (fun q k M1 H locs ce hX hce hv hcl hB => xw_widen (k := 1) (n := 6) (by decide) (by decide) (xw_out hno hlocks hB hX hce hv hcl)) (fun v M1 H locs h hB => ?_)
    obtain ⟨rfl, h⟩ := h
    refine lv_aload_n hx hb dc_D_circle_17 rfl (lv_at hl 0 rfl) ?_
    refine ow_get hx hb hts iw_D hown hB k0 rfl 0 (by decide) mw_229 rfl dc_D_circle_18 ?_
    refine ow_calli (va_runV (As := []) (rest := []) ⟨hx, hb, hml, hown, hts⟩ (ct_P_leastCircle l G hG D cA ad F _ (ly_D_poll hG k0) _ _ h) ⟨ow_cb 0 hts mw_760 mw_2 mw_757 rfl rfl hd_P_leastCircle ⟨Nat.le_of_ble_eq_true rfl, Nat.le_of_ble_eq_true rfl⟩, hts _ mw_758, hts _ mw_759⟩ (ow_preV hB (ly_D_poll hG k0) rfl) rfl rfl hl.1 rfl (lv_room (Nat.le_of_ble_eq_true rfl)) dc_D_circle_21 ⟨Nat.le_of_ble_eq_true rfl, Nat.le_of_ble_eq_true rfl⟩) hB (fun r3 M2 H locs h hB => ?_)
    refine lv_istore_n hx hb dc_D_circle_24 rfl hl (by decide) rfl (fun ls hl => ?_)
    refine lv_iload_n hx hb dc_D_circle_25 rfl (lv_at hl 0 rfl) ?_
    refine lv_iconst (v := (-1)) hx hb dc_D_circle_26 rfl ?_
    obtain ⟨h1, h2⟩ := h
    refine lv_icmp_ne hx hb dc_D_circle_27 rfl (fun hc => ?_) (fun hc => ?_)
    · have h := h2 hc
      refine lv_iload_n hx hb dc_D_circle_34 rfl (lv_at hl 0 rfl) ?_
      refine lv_iload_n hx hb dc_D_circle_35 rfl (lv_at hl 2 rfl) ?_
      refine ow_calli (va_runS (As := [.int r3, .int x1]) (rest := []) ⟨hx, hb, hml, hown, hts⟩ (ct_O_at l G hG D cA ad F _ _ _ _ h) ⟨ow_cb 2 hts mw_314 mw_3 mw_761 rfl rfl hd_O_at ⟨Nat.le_of_ble_eq_true rfl, Nat.le_of_ble_eq_true rfl⟩, hts _ mw_313⟩ (ow_preS hB) rfl rfl hl.1 rfl (lv_room (Nat.le_of_ble_eq_true rfl)) dc_D_circle_36 ⟨Nat.le_of_ble_eq_true rfl, Nat.le_of_ble_eq_true rfl⟩) hB (fun r5 M4 H locs h hB => ?_)
      exact xw_iret hx hb hr hlocks hB h dc_D_circle_39
    · have h := h1 hc
      refine lv_iconst (v := (-1)) hx hb dc_D_circle_30 rfl ?_
      refine lv_goto hx hb dc_D_circle_31 rfl ?_
      exact xw_iret hx hb hr hlocks hB h dc_D_circle_39
  have L13 : ∀   (M : om_M)   (H : Heap) (locs : List Loc) (ls : Array Slot), wp_D_circle_13 F o0 x1 Q X   M   → ow_B G D cA ad (ow_A G ad) M s s.heap H locs → lv_has ls 3 [(0, .ref (ad o0)), (1, .int x1)] → W p l e rm_D_circle s m ([.ref (ad o0), .int x1] : List Value).toArray below meth c H locs 0 0 (xw_MQ below (xw_Q G D cA ad (xw_ri Q) X) ([.ref (ad o0), .int x1] : List Value).toArray s 1 6 (ow_A G ad)) (F0 m 13 ls []) := by
    intro   M H locs ls h hB hl
    refine lv_iconst (v := 0) hx hb dc_D_circle_13 rfl ?_
    exact L14 _ _ _ _ _ h hB (lv_sub hl [0, 1] rfl)
  have hl := lv_entry ([.ref (ad o0), .int x1]) (n := 3) (Nat.le_of_ble_eq_true rfl)
  rw [lg_entry_eq]
  generalize (lg_sl ([.ref (ad o0), .int x1]) ++ List.replicate (3 - (lg_sl ([.ref (ad o0), .int x1])).length) Slot.unset).toArray = ls at hl ⊢
  have hl : lv_has ls 3 [(0, .ref (ad o0)), (1, .int x1)] := hl
  show W p l e rm_D_circle s m _ below meth c s.heap [] 0 0 _ _
  refine lv_iload_n hx hb dc_D_circle_0 rfl (lv_at hl 1 rfl) ?_
  obtain ⟨h1, h2⟩ := h
  refine lv_if_lt hx hb dc_D_circle_1 rfl (fun hc => ?_) (fun hc => ?_)
  · have h := h1 hc
    exact L13 _ _ _ _ h hB (lv_sub hl [0, 1] rfl)
  · have h := h2 hc
    refine lv_iload_n hx hb dc_D_circle_4 rfl (lv_at hl 1 rfl) ?_
    refine lv_iconst (v := 3) hx hb dc_D_circle_5 rfl ?_
    obtain ⟨h1, h2⟩ := h
    refine lv_icmp_ge hx hb dc_D_circle_6 rfl (fun hc => ?_) (fun hc => ?_)
    · have h := h1 hc
      exact L13 _ _ _ _ h hB (lv_sub hl [0, 1] rfl)
    · have h := h2 hc
      refine lv_iconst (v := 1) hx hb dc_D_circle_9 rfl ?_
      refine lv_goto hx hb dc_D_circle_10 rfl ?_
      exact L14 _ _ _ _ _ h hB (lv_sub hl [0, 1] rfl)
abbrev rm_D_clones : Room := { frames := 7, cells := 1, slots := 6, locals := 120 }
theorem hd_D_clones : yn_D_clones.cls ≠ "java/lang/invoke/MethodHandle" ∧ yn_D_clones.cls ≠ "java/lang/invoke/VarHandle" ∧ (parseMethodDescriptor yn_D_clones.desc).map (fun d => d.parameters.length) = some 1 := by decide +kernel
set_option maxHeartbeats 4000000 in
set_option maxRecDepth 100000 in
theorem ct_D_clones (l : Launch) (hfl : l.flags = Jvm.pinnedFlags ++ [Jvm.noTraceFlag]) (G : List (Nat × Nat)) (hG : ow_lay G) (D : va_G) (cA : Nat → ClassId) (ad : Nat → Nat) (F : Nat) (o0 : Nat) (k0 : ow_kd G o0 = (3, 0)) (x1 : Int32) (M : om_M) (Q : Int32 → om_M → Prop) (X : Nat → om_M → Prop) (h : wp_D_clones F o0 x1 M Q X) : xw_Met l yn_D_clones (ow_ws yn_D_clones cb_D_clones 3 (some .boolean)) rm_D_clones (xw_Pc G D cA ad M [.ref (ad o0), .int x1]) (xw_Q G D cA ad (xw_ri Q) X) 1 6 (ow_A G ad) := by
  refine xw_ofW (cc := cb_D_clones) (maxL := 3) (ret := (some .boolean)) (by decide) rfl ?_
  intro p e s m args below meth c s₁ B hml hno hv
  obtain ⟨rfl, hB, hZ⟩ := hv
  have htr := Launch.traces_off hfl B.admits
  have hx := B.exec
  have hb := B.bytes
  have hr := B.returns
  have hlocks := B.notSynchronized
  have hts : ∀ w ∈ lw_g, w.before ([.ref (ad o0), .int x1] : List Value).toArray s = true := fun w h => atoms_spec (ws := ow_ws yn_D_clones cb_D_clones 3 (some .boolean)) B.pre w (List.mem_cons_of_mem _ h)
  have hown : s.vm.findClass "BallotDesk" = some m.cls := findClass_of_methodNamed B.named
  clear B
  have L81 : ∀  (K33 : om_M × Int32 → Prop) (hK33 : ∀ (M : om_M) (x2 : Int32) (H : Heap) (locs : List Loc) (ls : Array Slot), K33 (M, x2) → ow_B G D cA ad (ow_A G ad) M s s.heap H locs → lv_has ls 3 [(0, .ref (ad o0)), (1, .int x1), (2, .int x2)] → W p l e rm_D_clones s m ([.ref (ad o0), .int x1] : List Value).toArray below meth c H locs 1 6 (xw_MQ below (xw_Q G D cA ad (xw_ri Q) X) ([.ref (ad o0), .int x1] : List Value).toArray s 1 6 (ow_A G ad)) (F0 m 33 ls [])) (M : om_M) (x2 : Int32)  (H : Heap) (locs : List Loc) (ls : Array Slot), wp_D_clones_81 F o0 x1 Q X  K33 M x2  → ow_B G D cA ad (ow_A G ad) M s s.heap H locs → lv_has ls 3 [(0, .ref (ad o0)), (1, .int x1), (2, .int x2)] → W p l e rm_D_clones s m ([.ref (ad o0), .int x1] : List Value).toArray below meth c H locs 1 6 (xw_MQ below (xw_Q G D cA ad (xw_ri Q) X) ([.ref (ad o0), .int x1] : List Value).toArray s 1 6 (ow_A G ad)) (F0 m 81 ls []) := by
    intro  K33 hK33 M x2 H locs ls h hB hl
    refine lv_iinc hx hb dc_D_clones_81 hl (k := 2) rfl rfl (by decide) rfl (fun ls hl => ?_)
    refine lv_goto hx hb dc_D_clones_84 rfl ?_
    exact hK33 _ _ _ _ _ h hB (lv_sub hl [1, 2, 0] rfl)
  have B33 : ∀   (K33 : om_M × Int32 → Prop) (hK33 : ∀ (M : om_M) (x2 : Int32) (H : Heap) (locs : List Loc) (ls : Array Slot), K33 (M, x2) → ow_B G D cA ad (ow_A G ad) M s s.heap H locs → lv_has ls 3 [(0, .ref (ad o0)), (1, .int x1), (2, .int x2)] → W p l e rm_D_clones s m ([.ref (ad o0), .int x1] : List Value).toArray below meth c H locs 1 6 (xw_MQ below (xw_Q G D cA ad (xw_ri Q) X) ([.ref (ad o0), .int x1] : List Value).toArray s 1 6 (ow_A G ad)) (F0 m 33 ls [])) (M : om_M) (x2 : Int32) (H : Heap) (locs : List Loc) (ls : Array Slot), wp_D_clones_33b F o0 x1 Q X   K33 M x2 → ow_B G D cA ad (ow_A G ad) M s s.heap H locs → lv_has ls 3 [(0, .ref (ad o0)), (1, .int x1), (2, .int x2)] → W p l e rm_D_clones s m ([.ref (ad o0), .int x1] : List Value).toArray below meth c H locs 1 6 (xw_MQ below (xw_Q G D cA ad (xw_ri Q) X) ([.ref (ad o0), .int x1] : List Value).toArray s 1 6 (ow_A G ad)) (F0 m 33 ls []) := by
    intro   K33 hK33 M x2 H locs ls h hB hl
    refine lv_iload_n hx hb dc_D_clones_33 rfl (lv_at hl 2 rfl) ?_
    refine lv_aload_n hx hb dc_D_clones_34 rfl (lv_at hl 0 rfl) ?_
    refine ow_get hx hb hts iw_D hown hB k0 rfl 0 (by decide) mw_229 rfl dc_D_clones_35 ?_
    refine ow_get hx hb hts iw_P hown hB (ly_D_poll hG k0) rfl 6 (by decide) mw_69 rfl dc_D_clones_38 ?_
    obtain ⟨h1, h2⟩ := h
    refine lv_icmp_ge hx hb dc_D_clones_41 rfl (fun hc => ?_) (fun hc => ?_)
    · have h := h1 hc
      refine lv_iconst (v := 1) hx hb dc_D_clones_87 rfl ?_
      exact xw_zret hx hb hr hlocks (by decide) hB h dc_D_clones_88
    · have h := h2 hc
      refine lv_aload_n hx hb dc_D_clones_44 rfl (lv_at hl 0 rfl) ?_
      refine ow_get hx hb hts iw_D hown hB k0 rfl 0 (by decide) mw_229 rfl dc_D_clones_45 ?_
      refine ow_get hx hb hts iw_P hown hB (ly_D_poll hG k0) rfl 1 (by decide) mw_45 rfl dc_D_clones_48 ?_
      refine lv_iload_n hx hb dc_D_clones_51 rfl (lv_at hl 2 rfl) ?_
      obtain ⟨hi1, h⟩ := h
      refine ow_iald hx hb hB (ly_P_voters hG (ly_D_poll hG k0)) hi1 dc_D_clones_52 ?_
      obtain ⟨h1, h2⟩ := h
      refine lv_if_le hx hb dc_D_clones_53 rfl (fun hc => ?_) (fun hc => ?_)
      · have h := h1 hc
        exact L81 K33 hK33 _ _ _ _ _ h hB (lv_sub hl [0, 1, 2] rfl)
      · have h := h2 hc
        refine lv_aload_n hx hb dc_D_clones_56 rfl (lv_at hl 0 rfl) ?_
        refine ow_get hx hb hts iw_D hown hB k0 rfl 0 (by decide) mw_229 rfl dc_D_clones_57 ?_
        refine ow_get hx hb hts iw_P hown hB (ly_D_poll hG k0) rfl 0 (by decide) mw_41 rfl dc_D_clones_60 ?_
        refine lv_iload_n hx hb dc_D_clones_63 rfl (lv_at hl 2 rfl) ?_
        refine ow_iald hx hb hB (ly_P_orders hG (ly_D_poll hG k0)) hi1 dc_D_clones_64 ?_
        refine lv_iload_n hx hb dc_D_clones_65 rfl (lv_at hl 1 rfl) ?_
        refine lv_aload_n hx hb dc_D_clones_66 rfl (lv_at hl 0 rfl) ?_
        refine ow_get hx hb hts iw_D hown hB k0 rfl 0 (by decide) mw_229 rfl dc_D_clones_67 ?_
        refine ow_get hx hb hts iw_P hown hB (ly_D_poll hG k0) rfl 5 (by decide) mw_63 rfl dc_D_clones_70 ?_
        refine ow_calli (va_runS (As := [.int (M.1 (o0 + 1 + 1) x2.toNatClampNeg), .int x1, .int (M.1 (o0 + 1) 5)]) (rest := []) ⟨hx, hb, hml, hown, hts⟩ (ct_O_standTogether l G hG D cA ad F _ _ _ _ _ h) ⟨ow_cb 3 hts mw_773 mw_3 mw_771 rfl rfl hd_O_standTogether ⟨Nat.le_of_ble_eq_true rfl, Nat.le_of_ble_eq_true rfl⟩, hts _ mw_772⟩ (ow_preS hB) rfl rfl hl.1 rfl (lv_room (Nat.le_of_ble_eq_true rfl)) dc_D_clones_73 ⟨Nat.le_of_ble_eq_true rfl, Nat.le_of_ble_eq_true rfl⟩) hB (fun r3 M2 H locs h hB => ?_)
        obtain ⟨h1, h2⟩ := h
        refine lv_if_ne hx hb dc_D_clones_76 rfl (fun hc => ?_) (fun hc => ?_)
        · have h := h2 hc
          exact L81 K33 hK33 _ _ _ _ _ h hB (lv_sub hl [0, 1, 2] rfl)
        · have h := h1 hc
          refine lv_iconst (v := 0) hx hb dc_D_clones_79 rfl ?_
          exact xw_zret hx hb hr hlocks (by decide) hB h dc_D_clones_80
  have L33 : ∀   (M : om_M) (x2 : Int32) (H : Heap) (locs : List Loc) (ls : Array Slot), wp_D_clones_33 F o0 x1 Q X   M x2 → ow_B G D cA ad (ow_A G ad) M s s.heap H locs → lv_has ls 3 [(0, .ref (ad o0)), (1, .int x1), (2, .int x2)] → W p l e rm_D_clones s m ([.ref (ad o0), .int x1] : List Value).toArray below meth c H locs 1 6 (xw_MQ below (xw_Q G D cA ad (xw_ri Q) X) ([.ref (ad o0), .int x1] : List Value).toArray s 1 6 (ow_A G ad)) (F0 m 33 ls []) := by
    have step : ∀ (k : Nat) (M : om_M) (x2 : Int32) (H : Heap) (locs : List Loc) (ls : Array Slot), ow_lp (fun (z : om_M × Int32) K => wp_D_clones_33b F o0 x1 Q X   K z.1 z.2) k (M, x2) → ow_B G D cA ad (ow_A G ad) M s s.heap H locs → lv_has ls 3 [(0, .ref (ad o0)), (1, .int x1), (2, .int x2)] → W p l e rm_D_clones s m ([.ref (ad o0), .int x1] : List Value).toArray below meth c H locs 1 6 (xw_MQ below (xw_Q G D cA ad (xw_ri Q) X) ([.ref (ad o0), .int x1] : List Value).toArray s 1 6 (ow_A G ad)) (F0 m 33 ls []) := by
      intro k
      induction k with
      | zero => intro M x2 H locs ls h hB hl; exact False.elim h
      | succ k ih => intro M x2 H locs ls h hB hl; exact B33   (ow_lp _ k) (fun M x2 H locs ls h hB  hl => ih M x2  H locs ls h hB hl) M x2 H locs ls h hB hl
    intro M x2 H locs ls h hB hl
    exact step F M x2 H locs ls h hB hl
  have L28 : ∀   (M : om_M)  (t0 : Int32) (H : Heap) (locs : List Loc) (ls : Array Slot), wp_D_clones_28 F o0 x1 Q X   M  t0 → ow_B G D cA ad (ow_A G ad) M s s.heap H locs → lv_has ls 3 [(0, .ref (ad o0)), (1, .int x1)] → W p l e rm_D_clones s m ([.ref (ad o0), .int x1] : List Value).toArray below meth c H locs 0 0 (xw_MQ below (xw_Q G D cA ad (xw_ri Q) X) ([.ref (ad o0), .int x1] : List Value).toArray s 1 6 (ow_A G ad)) (F0 m 28 ls [.int t0]) := by
    intro   M t0 H locs ls h hB hl
    refine xw_callS (As := [.int t0]) (rest := []) (maxL := 1) (mc := 1) (ms := 6) hx hb hown hts (ct_D_needArgument l hfl G hG D cA ad F _ _ _ _ h) (ow_wsin mw_333) (xw_cd_of (hts _ mw_333)) mw_1 mw_331 mw_332 hd_D_needArgument rfl rfl (Nat.le_of_ble_eq_true rfl) (Nat.le_of_ble_eq_true rfl) hB (xw_pre hB hZ) (hl.1.trans hml.symm) (Nat.le_of_ble_eq_true rfl) rfl dc_D_clones_28 (Nat.le_of_ble_eq_true rfl) (Nat.le_of_ble_eq_true rfl) (fun q k M1 H locs ce hX hce hv hcl hB => xw_widen (k := 1) (n := 6) (by decide) (by decide) (xw_out hno hlocks hB hX hce hv hcl)) (fun v M4 H locs h hB => ?_)
    obtain ⟨rfl, h⟩ := h
    refine lv_iconst (v := 0) hx hb dc_D_clones_31 rfl ?_
    refine lv_istore_n hx hb dc_D_clones_32 rfl hl (by decide) rfl (fun ls hl => ?_)
    exact L33 _ _ _ _ _ h hB (lv_sub hl [1, 2, 0] rfl)
  have L27 : ∀   (M : om_M)   (H : Heap) (locs : List Loc) (ls : Array Slot), wp_D_clones_27 F o0 x1 Q X   M   → ow_B G D cA ad (ow_A G ad) M s s.heap H locs → lv_has ls 3 [(0, .ref (ad o0)), (1, .int x1)] → W p l e rm_D_clones s m ([.ref (ad o0), .int x1] : List Value).toArray below meth c H locs 0 0 (xw_MQ below (xw_Q G D cA ad (xw_ri Q) X) ([.ref (ad o0), .int x1] : List Value).toArray s 1 6 (ow_A G ad)) (F0 m 27 ls []) := by
    intro   M H locs ls h hB hl
    refine lv_iconst (v := 0) hx hb dc_D_clones_27 rfl ?_
    exact L28 _ _ _ _ _ h hB (lv_sub hl [0, 1] rfl)
  have hl := lv_entry ([.ref (ad o0), .int x1]) (n := 3) (Nat.le_of_ble_eq_true rfl)
  rw [lg_entry_eq]
  generalize (lg_sl ([.ref (ad o0), .int x1]) ++ List.replicate (3 - (lg_sl ([.ref (ad o0), .int x1])).length) Slot.unset).toArray = ls at hl ⊢
  have hl : lv_has ls 3 [(0, .ref (ad o0)), (1, .int x1)] := hl
  show W p l e rm_D_clones s m _ below meth c s.heap [] 0 0 _ _
  refine lv_iload_n hx hb dc_D_clones_0 rfl (lv_at hl 1 rfl) ?_
  obtain ⟨h1, h2⟩ := h
  refine lv_if_lt hx hb dc_D_clones_1 rfl (fun hc => ?_) (fun hc => ?_)
  · have h := h1 hc
    exact L27 _ _ _ _ h hB (lv_sub hl [0, 1] rfl)
  · have h := h2 hc
    refine lv_iload_n hx hb dc_D_clones_4 rfl (lv_at hl 1 rfl) ?_
    refine lv_aload_n hx hb dc_D_clones_5 rfl (lv_at hl 0 rfl) ?_
    refine ow_get hx hb hts iw_D hown hB k0 rfl 0 (by decide) mw_229 rfl dc_D_clones_6 ?_
    refine ow_calli (va_runV (As := []) (rest := [.int x1]) ⟨hx, hb, hml, hown, hts⟩ (ct_P_everyone l G hG D cA ad F _ (ly_D_poll hG k0) _ _ h) ⟨ow_cb 0 hts mw_260 mw_2 mw_769 rfl rfl hd_P_everyone ⟨Nat.le_of_ble_eq_true rfl, Nat.le_of_ble_eq_true rfl⟩, hts _ mw_258, hts _ mw_259⟩ (ow_preV hB (ly_D_poll hG k0) rfl) rfl rfl hl.1 rfl (lv_room (Nat.le_of_ble_eq_true rfl)) dc_D_clones_9 ⟨Nat.le_of_ble_eq_true rfl, Nat.le_of_ble_eq_true rfl⟩) hB (fun r6 M5 H locs h hB => ?_)
    obtain ⟨h1, h2⟩ := h
    refine lv_icmp_gt hx hb dc_D_clones_12 rfl (fun hc => ?_) (fun hc => ?_)
    · have h := h1 hc
      exact L27 _ _ _ _ h hB (lv_sub hl [0, 1] rfl)
    · have h := h2 hc
      refine lv_iload_n hx hb dc_D_clones_15 rfl (lv_at hl 1 rfl) ?_
      refine ow_calli (va_runS (As := [.int x1]) (rest := []) ⟨hx, hb, hml, hown, hts⟩ (ct_JI_bitCount l G hG D cA ad F _ _ _ h) ⟨ow_cb 1 hts mw_263 mw_20 mw_770 rfl rfl hd_JI_bitCount ⟨Nat.le_of_ble_eq_true rfl, Nat.le_of_ble_eq_true rfl⟩, hts _ mw_262⟩ (ow_preS hB) rfl rfl hl.1 rfl (lv_room (Nat.le_of_ble_eq_true rfl)) dc_D_clones_16 ⟨Nat.le_of_ble_eq_true rfl, Nat.le_of_ble_eq_true rfl⟩) hB (fun r8 M7 H locs h hB => ?_)
      refine lv_iconst (v := 2) hx hb dc_D_clones_19 rfl ?_
      obtain ⟨h1, h2⟩ := h
      refine lv_icmp_lt hx hb dc_D_clones_20 rfl (fun hc => ?_) (fun hc => ?_)
      · have h := h1 hc
        exact L27 _ _ _ _ h hB (lv_sub hl [0, 1] rfl)
      · have h := h2 hc
        refine lv_iconst (v := 1) hx hb dc_D_clones_23 rfl ?_
        refine lv_goto hx hb dc_D_clones_24 rfl ?_
        exact L28 _ _ _ _ _ h hB (lv_sub hl [0, 1] rfl)
abbrev rm_D_count : Room := { frames := 7, cells := 1, slots := 6, locals := 120 }
theorem hd_D_count : yn_D_count.cls ≠ "java/lang/invoke/MethodHandle" ∧ yn_D_count.cls ≠ "java/lang/invoke/VarHandle" ∧ (parseMethodDescriptor yn_D_count.desc).map (fun d => d.parameters.length) = some 1 := by decide +kernel
set_option maxHeartbeats 4000000 in
set_option maxRecDepth 100000 in
theorem ct_D_count (l : Launch) (hfl : l.flags = Jvm.pinnedFlags ++ [Jvm.noTraceFlag]) (G : List (Nat × Nat)) (hG : ow_lay G) (D : va_G) (cA : Nat → ClassId) (ad : Nat → Nat) (F : Nat) (o0 : Nat) (k0 : ow_kd G o0 = (3, 0)) (x1 : Int32) (M : om_M) (Q : Int32 → om_M → Prop) (X : Nat → om_M → Prop) (h : wp_D_count F o0 x1 M Q X) : xw_Met l yn_D_count (ow_ws yn_D_count cb_D_count 2 (some .int)) rm_D_count (xw_Pc G D cA ad M [.ref (ad o0), .int x1]) (xw_Q G D cA ad (xw_ri Q) X) 1 6 (ow_A G ad) := by
  refine xw_ofW (cc := cb_D_count) (maxL := 2) (ret := (some .int)) (by decide) rfl ?_
  intro p e s m args below meth c s₁ B hml hno hv
  obtain ⟨rfl, hB, hZ⟩ := hv
  have htr := Launch.traces_off hfl B.admits
  have hx := B.exec
  have hb := B.bytes
  have hr := B.returns
  have hlocks := B.notSynchronized
  have hts : ∀ w ∈ lw_g, w.before ([.ref (ad o0), .int x1] : List Value).toArray s = true := fun w h => atoms_spec (ws := ow_ws yn_D_count cb_D_count 2 (some .int)) B.pre w (List.mem_cons_of_mem _ h)
  have hown : s.vm.findClass "BallotDesk" = some m.cls := findClass_of_methodNamed B.named
  clear B
  have L14 : ∀   (M : om_M)  (t0 : Int32) (H : Heap) (locs : List Loc) (ls : Array Slot), wp_D_count_14 F o0 x1 Q X   M  t0 → ow_B G D cA ad (ow_A G ad) M s s.heap H locs → lv_has ls 2 [(0, .ref (ad o0)), (1, .int x1)] → W p l e rm_D_count s m ([.ref (ad o0), .int x1] : List Value).toArray below meth c H locs 0 0 (xw_MQ below (xw_Q G D cA ad (xw_ri Q) X) ([.ref (ad o0), .int x1] : List Value).toArray s 1 6 (ow_A G ad)) (F0 m 14 ls [.int t0]) := by
    intro   M t0 H locs ls h hB hl
    refine xw_callS (As := [.int t0]) (rest := []) (maxL := 1) (mc := 1) (ms := 6) hx hb hown hts (ct_D_needArgument l hfl G hG D cA ad F _ _ _ _ h) (ow_wsin mw_333) (xw_cd_of (hts _ mw_333)) mw_1 mw_331 mw_332 hd_D_needArgument rfl rfl (Nat.le_of_ble_eq_true rfl) (Nat.le_of_ble_eq_true rfl) hB (xw_pre hB hZ) (hl.1.trans hml.symm) (Nat.le_of_ble_eq_true rfl) rfl dc_D_count_14 (Nat.le_of_ble_eq_true rfl) (Nat.le_of_ble_eq_true rfl) (fun q k M1 H locs ce hX hce hv hcl hB => xw_widen (k := 1) (n := 6) (by decide) (by decide) (xw_out hno hlocks hB hX hce hv hcl)) (fun v M1 H locs h hB => ?_)
    obtain ⟨rfl, h⟩ := h
    refine lv_iload_n hx hb dc_D_count_17 rfl (lv_at hl 1 rfl) ?_
    obtain ⟨h1, h2⟩ := h
    refine lv_if_ne hx hb dc_D_count_18 rfl (fun hc => ?_) (fun hc => ?_)
    · have h := h2 hc
      refine lv_iload_n hx hb dc_D_count_29 rfl (lv_at hl 1 rfl) ?_
      refine lv_iconst (v := 1) hx hb dc_D_count_30 rfl ?_
      obtain ⟨h1, h2⟩ := h
      refine lv_icmp_ne hx hb dc_D_count_31 rfl (fun hc => ?_) (fun hc => ?_)
      · have h := h2 hc
        refine lv_aload_n hx hb dc_D_count_44 rfl (lv_at hl 0 rfl) ?_
        refine ow_get hx hb hts iw_D hown hB k0 rfl 0 (by decide) mw_229 rfl dc_D_count_45 ?_
        refine ow_calli (va_runV (As := []) (rest := []) ⟨hx, hb, hml, hown, hts⟩ (ct_P_allVoters l G hG D cA ad F _ (ly_D_poll hG k0) _ _ h) ⟨ow_cb 0 hts mw_786 mw_2 mw_783 rfl rfl hd_P_allVoters ⟨Nat.le_of_ble_eq_true rfl, Nat.le_of_ble_eq_true rfl⟩, hts _ mw_784, hts _ mw_785⟩ (ow_preV hB (ly_D_poll hG k0) rfl) rfl rfl hl.1 rfl (lv_room (Nat.le_of_ble_eq_true rfl)) dc_D_count_48 ⟨Nat.le_of_ble_eq_true rfl, Nat.le_of_ble_eq_true rfl⟩) hB (fun r3 M2 H locs h hB => ?_)
        exact xw_iret hx hb hr hlocks hB h dc_D_count_51
      · have h := h1 hc
        refine lv_aload_n hx hb dc_D_count_34 rfl (lv_at hl 0 rfl) ?_
        refine ow_get hx hb hts iw_D hown hB k0 rfl 0 (by decide) mw_229 rfl dc_D_count_35 ?_
        refine ow_get hx hb hts iw_P hown hB (ly_D_poll hG k0) rfl 6 (by decide) mw_69 rfl dc_D_count_38 ?_
        refine lv_goto hx hb dc_D_count_41 rfl ?_
        exact xw_iret hx hb hr hlocks hB h dc_D_count_51
    · have h := h1 hc
      refine lv_aload_n hx hb dc_D_count_21 rfl (lv_at hl 0 rfl) ?_
      refine ow_get hx hb hts iw_D hown hB k0 rfl 0 (by decide) mw_229 rfl dc_D_count_22 ?_
      refine ow_get hx hb hts iw_P hown hB (ly_D_poll hG k0) rfl 5 (by decide) mw_63 rfl dc_D_count_25 ?_
      exact xw_iret hx hb hr hlocks hB h dc_D_count_28
  have L13 : ∀   (M : om_M)   (H : Heap) (locs : List Loc) (ls : Array Slot), wp_D_count_13 F o0 x1 Q X   M   → ow_B G D cA ad (ow_A G ad) M s s.heap H locs → lv_has ls 2 [(0, .ref (ad o0)), (1, .int x1)] → W p l e rm_D_count s m ([.ref (ad o0), .int x1] : List Value).toArray below meth c H locs 0 0 (xw_MQ below (xw_Q G D cA ad (xw_ri Q) X) ([.ref (ad o0), .int x1] : List Value).toArray s 1 6 (ow_A G ad)) (F0 m 13 ls []) := by
    intro   M H locs ls h hB hl
    refine lv_iconst (v := 0) hx hb dc_D_count_13 rfl ?_
    exact L14 _ _ _ _ _ h hB (lv_sub hl [0, 1] rfl)
  have hl := lv_entry ([.ref (ad o0), .int x1]) (n := 2) (Nat.le_of_ble_eq_true rfl)
  rw [lg_entry_eq]
  generalize (lg_sl ([.ref (ad o0), .int x1]) ++ List.replicate (2 - (lg_sl ([.ref (ad o0), .int x1])).length) Slot.unset).toArray = ls at hl ⊢
  have hl : lv_has ls 2 [(0, .ref (ad o0)), (1, .int x1)] := hl
  show W p l e rm_D_count s m _ below meth c s.heap [] 0 0 _ _
  refine lv_iload_n hx hb dc_D_count_0 rfl (lv_at hl 1 rfl) ?_
  obtain ⟨h1, h2⟩ := h
  refine lv_if_lt hx hb dc_D_count_1 rfl (fun hc => ?_) (fun hc => ?_)
  · have h := h1 hc
    exact L13 _ _ _ _ h hB (lv_sub hl [0, 1] rfl)
  · have h := h2 hc
    refine lv_iload_n hx hb dc_D_count_4 rfl (lv_at hl 1 rfl) ?_
    refine lv_iconst (v := 2) hx hb dc_D_count_5 rfl ?_
    obtain ⟨h1, h2⟩ := h
    refine lv_icmp_gt hx hb dc_D_count_6 rfl (fun hc => ?_) (fun hc => ?_)
    · have h := h1 hc
      exact L13 _ _ _ _ h hB (lv_sub hl [0, 1] rfl)
    · have h := h2 hc
      refine lv_iconst (v := 1) hx hb dc_D_count_9 rfl ?_
      refine lv_goto hx hb dc_D_count_10 rfl ?_
      exact L14 _ _ _ _ _ h hB (lv_sub hl [0, 1] rfl)
