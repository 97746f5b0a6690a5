def wp_W_betterOrder_174 (F : Nat) (o0 : Nat) (o1 : Nat) (x2 : Int32) (x3 : Int32) (x4 : Int32) (Q : Int32 → om_M → Prop) (x5 : Int32) (x6 : Int32) (K90 : om_M × Int32 × Int32 × Int32 → Prop) (M : om_M) (x7 : Int32) (x9 : Int32)  : Prop := wp_S_advance F (o0 + 48) M (fun r2 M1 => K90 (M1, x7, r2, x9 + 1))
def wp_W_betterOrder_90b (F : Nat) (o0 : Nat) (o1 : Nat) (x2 : Int32) (x3 : Int32) (x4 : Int32) (Q : Int32 → om_M → Prop) (x5 : Int32) (x6 : Int32)  (K90 : om_M × Int32 × Int32 × Int32 → Prop) (M : om_M) (x7 : Int32) (x8 : Int32) (x9 : Int32) : Prop := ((5040 ≤ x9 → Q x7 M) ∧ (¬ 5040 ≤ x9 → ((x8 = 0 → Q x7 M) ∧ (¬ x8 = 0 → (((M.1 o0 3) ≤ 0 → Q x7 M) ∧ (¬ (M.1 o0 3) ≤ 0 → wp_S_asNumber F (o0 + 48) M (fun r4 M3 => wp_P_replace F (o0 + 28) x6 r4 x4 M3 (fun M5 => wp_R_theWinner F (o0 + 1) (o0 + 28) x2 M5 (fun r7 M6 => wp_O_placeOf F x5 r7 (M6.1 o1 5) M6 (fun r9 M8 => (((M8.1 o0 3) ≤ r9 → wp_W_betterOrder_174 F o0 o1 x2 x3 x4 Q x5 x6 K90 M8 x7 x9) ∧ (¬ (M8.1 o0 3) ≤ r9 → wp_W_betterOrder_174 F o0 o1 x2 x3 x4 Q x5 x6 K90 (om_up M8 o0 3 r9) r4 x9))))))))))))
def wp_W_betterOrder_90 (F : Nat) (o0 : Nat) (o1 : Nat) (x2 : Int32) (x3 : Int32) (x4 : Int32) (Q : Int32 → om_M → Prop) (x5 : Int32) (x6 : Int32)  (M : om_M) (x7 : Int32) (x8 : Int32) (x9 : Int32) : Prop := ow_lp (fun (z : om_M × Int32 × Int32 × Int32) K => wp_W_betterOrder_90b F o0 o1 x2 x3 x4 Q x5 x6  K z.1 z.2.1 z.2.2.1 z.2.2.2) F (M, x7, x8, x9)
def wp_W_betterOrder (F : Nat) (o0 : Nat) (o1 : Nat) (x2 : Int32) (x3 : Int32) (x4 : Int32) (M : om_M) (Q : Int32 → om_M → Prop) : Prop := vp_in x3 21 ∧ wp_R_theWinner F (o0 + 1) o1 x2 M (fun r12 M11 => wp_O_placeOf F (M.1 (o1 + 1) x3.toNatClampNeg) r12 (M11.1 o1 5) M11 (fun r14 M13 => wp_P_copy F (o0 + 28) o1 (om_up M13 o0 3 r14) (fun M15 => wp_P_replace F (o0 + 28) x3 (M.1 (o1 + 1) x3.toNatClampNeg) ((M15.1 (o1 + 2) x3.toNatClampNeg) - x4) M15 (fun M16 => wp_P_append F (o0 + 28) (M.1 (o1 + 1) x3.toNatClampNeg) x4 M16 (fun r18 M17 => wp_S_start F (o0 + 48) (M17.1 o1 5) M17 (fun M19 => wp_W_betterOrder_90 F o0 o1 x2 x3 x4 Q (M.1 (o1 + 1) x3.toNatClampNeg) r18 M19 (-1) 1 0))))))
def wp_W_bestNotAlone_2b (F : Nat) (o0 : Nat) (o1 : Nat) (x2 : Int32) (Q : Int32 → om_M → Prop)   (K2 : om_M × Int32 → Prop) (M : om_M) (x3 : Int32) : Prop := (((M.1 o1 5) ≤ x3 → Q (-1) M) ∧ (¬ (M.1 o1 5) ≤ x3 → wp_P_beatenBy F o1 x3 M (fun r2 M1 => wp_P_everyone F o1 M1 (fun r4 M3 => ((r2 = (r4 - ((1 : Int32) <<< (x3 &&& 31))) → wp_R_winnerSet F (o0 + 1) o1 x2 M3 (fun r6 M5 => ((r6 = ((1 : Int32) <<< (x3 &&& 31)) → Q (-1) M5) ∧ (¬ r6 = ((1 : Int32) <<< (x3 &&& 31)) → Q x3 M5)))) ∧ (¬ r2 = (r4 - ((1 : Int32) <<< (x3 &&& 31))) → K2 (M3, x3 + 1)))))))
def wp_W_bestNotAlone_2 (F : Nat) (o0 : Nat) (o1 : Nat) (x2 : Int32) (Q : Int32 → om_M → Prop)   (M : om_M) (x3 : Int32) : Prop := ow_lp (fun (z : om_M × Int32) K => wp_W_bestNotAlone_2b F o0 o1 x2 Q   K z.1 z.2) F (M, x3)
def wp_W_bestNotAlone (F : Nat) (o0 : Nat) (o1 : Nat) (x2 : Int32) (M : om_M) (Q : Int32 → om_M → Prop) : Prop := wp_W_bestNotAlone_2 F o0 o1 x2 Q M 0
def wp_W_worstAmongWinners_37 (F : Nat) (o0 : Nat) (o1 : Nat) (x2 : Int32) (Q : Int32 → om_M → Prop)   (M : om_M) (x3 : Int32)  : Prop := wp_R_winnerSet F (o0 + 1) o1 x2 M (fun r2 M1 => wp_P_firstInTie F o1 (x3 &&& r2) M1 (fun r4 M3 => Q r4 M3))
def wp_W_worstAmongWinners_8b (F : Nat) (o0 : Nat) (o1 : Nat) (x2 : Int32) (Q : Int32 → om_M → Prop)   (K8 : om_M × Int32 × Int32 → Prop) (M : om_M) (x3 : Int32) (x4 : Int32) : Prop := (((M.1 o1 5) ≤ x4 → wp_W_worstAmongWinners_37 F o0 o1 x2 Q M x3) ∧ (¬ (M.1 o1 5) ≤ x4 → wp_P_beatenBy F o1 x4 M (fun r6 M5 => K8 (M5, x3 &&& (r6 ||| ((1 : Int32) <<< (x4 &&& 31))), x4 + 1))))
def wp_W_worstAmongWinners_8 (F : Nat) (o0 : Nat) (o1 : Nat) (x2 : Int32) (Q : Int32 → om_M → Prop)   (M : om_M) (x3 : Int32) (x4 : Int32) : Prop := ow_lp (fun (z : om_M × Int32 × Int32) K => wp_W_worstAmongWinners_8b F o0 o1 x2 Q   K z.1 z.2.1 z.2.2) F (M, x3, x4)
def wp_W_worstAmongWinners (F : Nat) (o0 : Nat) (o1 : Nat) (x2 : Int32) (M : om_M) (Q : Int32 → om_M → Prop) : Prop := wp_P_everyone F o1 M (fun r8 M7 => wp_W_worstAmongWinners_8 F o0 o1 x2 Q M7 r8 0)
def wp_W_typeThatHarmsByRaising_21b (F : Nat) (o0 : Nat) (o1 : Nat) (x2 : Int32) (Q : Int32 → om_M → Prop) (x3 : Int32)  (K21 : om_M × Int32 → Prop) (M : om_M) (x4 : Int32) : Prop := (((M.1 o1 6) ≤ x4 → Q (-1) M) ∧ (¬ (M.1 o1 6) ≤ x4 → vp_in x4 21 ∧ wp_O_raised F (M.1 (o1 + 1) x4.toNatClampNeg) x3 (M.1 o1 5) M (fun r3 M2 => wp_P_replace F (o0 + 28) x4 r3 (M2.1 (o1 + 2) x4.toNatClampNeg) M2 (fun M4 => wp_R_theWinner F (o0 + 1) (o0 + 28) x2 M4 (fun r6 M5 => ((r6 = x3 → wp_P_replace F (o0 + 28) x4 (M.1 (o1 + 1) x4.toNatClampNeg) (M5.1 (o1 + 2) x4.toNatClampNeg) M5 (fun M7 => K21 (M7, x4 + 1))) ∧ (¬ r6 = x3 → Q x4 M5)))))))
def wp_W_typeThatHarmsByRaising_21 (F : Nat) (o0 : Nat) (o1 : Nat) (x2 : Int32) (Q : Int32 → om_M → Prop) (x3 : Int32)  (M : om_M) (x4 : Int32) : Prop := ow_lp (fun (z : om_M × Int32) K => wp_W_typeThatHarmsByRaising_21b F o0 o1 x2 Q x3  K z.1 z.2) F (M, x4)
def wp_W_typeThatHarmsByRaising (F : Nat) (o0 : Nat) (o1 : Nat) (x2 : Int32) (M : om_M) (Q : Int32 → om_M → Prop) : Prop := wp_R_theWinner F (o0 + 1) o1 x2 M (fun r9 M8 => wp_P_copy F (o0 + 28) o1 M8 (fun M10 => wp_W_typeThatHarmsByRaising_21 F o0 o1 x2 Q r9 M10 0))
def wp_W_typeThatHarmsByJoining_106 (F : Nat) (o0 : Nat) (o1 : Nat) (x2 : Int32) (Q : Int32 → om_M → Prop) (x3 : Int32) (K21 : om_M × Int32 → Prop) (M : om_M) (x4 : Int32)  : Prop := K21 (M, x4 + 1)
def wp_W_typeThatHarmsByJoining_21b (F : Nat) (o0 : Nat) (o1 : Nat) (x2 : Int32) (Q : Int32 → om_M → Prop) (x3 : Int32)  (K21 : om_M × Int32 → Prop) (M : om_M) (x4 : Int32) : Prop := (((M.1 o1 6) ≤ x4 → Q (-1) M) ∧ (¬ (M.1 o1 6) ≤ x4 → vp_in x4 21 ∧ wp_O_at F (M.1 (o1 + 1) x4.toNatClampNeg) 0 M (fun r3 M2 => ((r3 = x3 → wp_P_replace F (o0 + 28) x4 (M.1 (o1 + 1) x4.toNatClampNeg) ((M2.1 (o1 + 2) x4.toNatClampNeg) + 1) M2 (fun M4 => wp_R_theWinner F (o0 + 1) (o0 + 28) x2 M4 (fun r6 M5 => ((r6 = x3 → wp_P_replace F (o0 + 28) x4 (M.1 (o1 + 1) x4.toNatClampNeg) (M5.1 (o1 + 2) x4.toNatClampNeg) M5 (fun M7 => wp_W_typeThatHarmsByJoining_106 F o0 o1 x2 Q x3 K21 M7 x4)) ∧ (¬ r6 = x3 → Q x4 M5))))) ∧ (¬ r3 = x3 → wp_W_typeThatHarmsByJoining_106 F o0 o1 x2 Q x3 K21 M2 x4)))))
def wp_W_typeThatHarmsByJoining_21 (F : Nat) (o0 : Nat) (o1 : Nat) (x2 : Int32) (Q : Int32 → om_M → Prop) (x3 : Int32)  (M : om_M) (x4 : Int32) : Prop := ow_lp (fun (z : om_M × Int32) K => wp_W_typeThatHarmsByJoining_21b F o0 o1 x2 Q x3  K z.1 z.2) F (M, x4)
def wp_W_typeThatHarmsByJoining (F : Nat) (o0 : Nat) (o1 : Nat) (x2 : Int32) (M : om_M) (Q : Int32 → om_M → Prop) : Prop := wp_R_theWinner F (o0 + 1) o1 x2 M (fun r9 M8 => wp_P_copy F (o0 + 28) o1 M8 (fun M10 => wp_W_typeThatHarmsByJoining_21 F o0 o1 x2 Q r9 M10 0))
def wp_W_loserThatHarmsByLeaving_83 (F : Nat) (o0 : Nat) (o1 : Nat) (x2 : Int32) (Q : Int32 → om_M → Prop) (x3 : Int32) (x4 : Int32) (K30 : om_M × Int32 → Prop) (M : om_M) (x5 : Int32)  : Prop := K30 (M, x5 + 1)
def wp_W_loserThatHarmsByLeaving_30b (F : Nat) (o0 : Nat) (o1 : Nat) (x2 : Int32) (Q : Int32 → om_M → Prop) (x3 : Int32) (x4 : Int32)  (K30 : om_M × Int32 → Prop) (M : om_M) (x5 : Int32) : Prop := (((M.1 o1 5) ≤ x5 → Q (-1) M) ∧ (¬ (M.1 o1 5) ≤ x5 → ((((x3 >>> (x5 &&& 31)) &&& 1) = 0 → wp_P_copyWithout F (o0 + 28) o1 x5 M (fun M1 => wp_R_theWinner F (o0 + 1) (o0 + 28) x2 M1 (fun r3 M2 => wp_O_numberWithout F x4 x5 M2 (fun r5 M4 => ((r3 = r5 → wp_W_loserThatHarmsByLeaving_83 F o0 o1 x2 Q x3 x4 K30 M4 x5) ∧ (¬ r3 = r5 → Q x5 M4)))))) ∧ (¬ ((x3 >>> (x5 &&& 31)) &&& 1) = 0 → wp_W_loserThatHarmsByLeaving_83 F o0 o1 x2 Q x3 x4 K30 M x5))))
def wp_W_loserThatHarmsByLeaving_30 (F : Nat) (o0 : Nat) (o1 : Nat) (x2 : Int32) (Q : Int32 → om_M → Prop) (x3 : Int32) (x4 : Int32)  (M : om_M) (x5 : Int32) : Prop := ow_lp (fun (z : om_M × Int32) K => wp_W_loserThatHarmsByLeaving_30b F o0 o1 x2 Q x3 x4  K z.1 z.2) F (M, x5)
def wp_W_loserThatHarmsByLeaving (F : Nat) (o0 : Nat) (o1 : Nat) (x2 : Int32) (M : om_M) (Q : Int32 → om_M → Prop) : Prop := ((2 < (M.1 o1 5) → wp_R_winnerSet F (o0 + 1) o1 x2 M (fun r7 M6 => wp_P_firstInTie F o1 r7 M6 (fun r9 M8 => wp_W_loserThatHarmsByLeaving_30 F o0 o1 x2 Q r7 r9 M8 0))) ∧ (¬ 2 < (M.1 o1 5) → Q (-1) M))
abbrev rm_W_betterOrder : Room := { frames := 6, cells := 0, slots := 0, locals := 143 }
theorem hd_W_betterOrder : yn_W_betterOrder.cls ≠ "java/lang/invoke/MethodHandle" ∧ yn_W_betterOrder.cls ≠ "java/lang/invoke/VarHandle" ∧ (parseMethodDescriptor yn_W_betterOrder.desc).map (fun d => d.parameters.length) = some 4 := by decide +kernel
set_option maxHeartbeats 4000000 in
set_option maxRecDepth 100000 in
theorem ct_W_betterOrder (l : Launch) (G : List (Nat × Nat)) (hG : ow_lay G) (D : va_G) (cA : Nat → ClassId) (ad : Nat → Nat) (F : Nat) (o0 : Nat) (k0 : ow_kd G o0 = (3, 7)) (o1 : Nat) (k1 : ow_kd G o1 = (3, 1)) (x2 : Int32) (x3 : Int32) (x4 : Int32) (M : om_M) (Q : Int32 → om_M → Prop) (h : wp_W_betterOrder F o0 o1 x2 x3 x4 M Q) : Met l yn_W_betterOrder (ow_ws yn_W_betterOrder cb_W_betterOrder 12 (some .int)) rm_W_betterOrder (ow_Pc G D cA ad M [.ref (ad o0), .ref (ad o1), .int x2, .int x3, .int x4]) (ow_Qi G D cA ad Q) 0 0 (ow_A G ad) := by
  refine Met.ofW (cc := cb_W_betterOrder) (maxL := 12) (ret := (some .int)) (by decide) rfl ?_
  intro p e s m args below meth c s₁ B hml hv
  obtain ⟨rfl, hB⟩ := hv
  have hx := B.exec
  have hb := B.bytes
  have hr := B.returns
  have hlocks := B.notSynchronized
  have hts : ∀ w ∈ lw_g, w.before ([.ref (ad o0), .ref (ad o1), .int x2, .int x3, .int x4] : List Value).toArray s = true := fun w h => atoms_spec (ws := ow_ws yn_W_betterOrder cb_W_betterOrder 12 (some .int)) B.pre w (List.mem_cons_of_mem _ h)
  have hown : s.vm.findClass "BallotDesk$WhatIf" = some m.cls := findClass_of_methodNamed B.named
  clear B
  have L174 : ∀ (x5 : Int32) (x6 : Int32) (K90 : om_M × Int32 × Int32 × Int32 → Prop) (hK90 : ∀ (M : om_M) (x7 : Int32) (x8 : Int32) (x9 : Int32) (H : Heap) (locs : List Loc) (ls : Array Slot), K90 (M, x7, x8, x9) → ow_B G D cA ad (ow_A G ad) M s s.heap H locs → lv_has ls 12 [(0, .ref (ad o0)), (1, .ref (ad o1)), (2, .int x2), (4, .int x4), (5, .int x5), (6, .int x6), (7, .int x7), (8, .int x8), (9, .int x9)] → W p l e rm_W_betterOrder s m ([.ref (ad o0), .ref (ad o1), .int x2, .int x3, .int x4] : List Value).toArray below meth c H locs 0 0 (MQ below (ow_Qi G D cA ad Q) ([.ref (ad o0), .ref (ad o1), .int x2, .int x3, .int x4] : List Value).toArray s 0 0 (ow_A G ad)) (F0 m 90 ls [])) (M : om_M) (x7 : Int32) (x9 : Int32)  (H : Heap) (locs : List Loc) (ls : Array Slot), wp_W_betterOrder_174 F o0 o1 x2 x3 x4 Q x5 x6 K90 M x7 x9  → ow_B G D cA ad (ow_A G ad) M s s.heap H locs → lv_has ls 12 [(0, .ref (ad o0)), (1, .ref (ad o1)), (2, .int x2), (4, .int x4), (5, .int x5), (6, .int x6), (7, .int x7), (9, .int x9)] → W p l e rm_W_betterOrder s m ([.ref (ad o0), .ref (ad o1), .int x2, .int x3, .int x4] : List Value).toArray below meth c H locs 0 0 (MQ below (ow_Qi G D cA ad Q) ([.ref (ad o0), .ref (ad o1), .int x2, .int x3, .int x4] : List Value).toArray s 0 0 (ow_A G ad)) (F0 m 174 ls []) := by
    intro x5 x6 K90 hK90 M x7 x9 H locs ls h hB hl
    refine lv_aload_n hx hb dc_W_betterOrder_174 rfl (lv_at hl 0 rfl) ?_
    refine ow_get hx hb hts iw_W hown hB k0 rfl 2 (by decide) mw_217 rfl dc_W_betterOrder_175 ?_
    refine ow_calli (va_runV (As := []) (rest := []) ⟨hx, hb, hml, hown, hts⟩ (ct_S_advance l G hG D cA ad F _ (ly_W_orders hG k0) _ _ h) ⟨ow_cb 0 hts mw_698 mw_11 mw_695 rfl rfl hd_S_advance ⟨Nat.le_of_ble_eq_true rfl, Nat.le_of_ble_eq_true rfl⟩, hts _ mw_696, hts _ mw_697⟩ (ow_preV hB (ly_W_orders hG k0) rfl) rfl rfl hl.1 rfl (lv_room (Nat.le_of_ble_eq_true rfl)) dc_W_betterOrder_178 ⟨Nat.zero_le _, Nat.zero_le _⟩) hB (fun r2 M1 H locs h hB => ?_)
    refine lv_istore hx hb dc_W_betterOrder_181 hl (by decide) rfl (fun ls hl => ?_)
    refine lv_iinc hx hb dc_W_betterOrder_183 hl (k := 8) rfl rfl (by decide) rfl (fun ls hl => ?_)
    refine lv_goto hx hb dc_W_betterOrder_186 rfl ?_
    exact hK90 _ _ _ _ _ _ _ h hB (lv_sub hl [2, 3, 4, 5, 6, 7, 8, 1, 0] rfl)
  have B90 : ∀ (x5 : Int32) (x6 : Int32)  (K90 : om_M × Int32 × Int32 × Int32 → Prop) (hK90 : ∀ (M : om_M) (x7 : Int32) (x8 : Int32) (x9 : Int32) (H : Heap) (locs : List Loc) (ls : Array Slot), K90 (M, x7, x8, x9) → ow_B G D cA ad (ow_A G ad) M s s.heap H locs → lv_has ls 12 [(0, .ref (ad o0)), (1, .ref (ad o1)), (2, .int x2), (4, .int x4), (5, .int x5), (6, .int x6), (7, .int x7), (8, .int x8), (9, .int x9)] → W p l e rm_W_betterOrder s m ([.ref (ad o0), .ref (ad o1), .int x2, .int x3, .int x4] : List Value).toArray below meth c H locs 0 0 (MQ below (ow_Qi G D cA ad Q) ([.ref (ad o0), .ref (ad o1), .int x2, .int x3, .int x4] : List Value).toArray s 0 0 (ow_A G ad)) (F0 m 90 ls [])) (M : om_M) (x7 : Int32) (x8 : Int32) (x9 : Int32) (H : Heap) (locs : List Loc) (ls : Array Slot), wp_W_betterOrder_90b F o0 o1 x2 x3 x4 Q x5 x6  K90 M x7 x8 x9 → ow_B G D cA ad (ow_A G ad) M s s.heap H locs → lv_has ls 12 [(0, .ref (ad o0)), (1, .ref (ad o1)), (2, .int x2), (4, .int x4), (5, .int x5), (6, .int x6), (7, .int x7), (8, .int x8), (9, .int x9)] → W p l e rm_W_betterOrder s m ([.ref (ad o0), .ref (ad o1), .int x2, .int x3, .int x4] : List Value).toArray below meth c H locs 0 0 (MQ below (ow_Qi G D cA ad Q) ([.ref (ad o0), .ref (ad o1), .int x2, .int x3, .int x4] : List Value).toArray s 0 0 (ow_A G ad)) (F0 m 90 ls []) := by
    intro x5 x6  K90 hK90 M x7 x8 x9 H locs ls h hB hl
    refine lv_iload hx hb dc_W_betterOrder_90 (lv_at hl 8 rfl) ?_
    refine lv_sipush (v := 5040) hx hb dc_W_betterOrder_92 rfl ?_
    obtain ⟨h1, h2⟩ := h
    refine lv_icmp_ge hx hb dc_W_betterOrder_95 rfl (fun hc => ?_) (fun hc => ?_)
    · have h := h1 hc
      refine lv_iload hx hb dc_W_betterOrder_189 (lv_at hl 6 rfl) ?_
      exact ow_iret hx hb hr hlocks hB h dc_W_betterOrder_191
    · have h := h2 hc
      refine lv_iload hx hb dc_W_betterOrder_98 (lv_at hl 7 rfl) ?_
      obtain ⟨h1, h2⟩ := h
      refine lv_if_eq hx hb dc_W_betterOrder_100 rfl (fun hc => ?_) (fun hc => ?_)
      · have h := h1 hc
        refine lv_iload hx hb dc_W_betterOrder_189 (lv_at hl 6 rfl) ?_
        exact ow_iret hx hb hr hlocks hB h dc_W_betterOrder_191
      · have h := h2 hc
        refine lv_aload_n hx hb dc_W_betterOrder_103 rfl (lv_at hl 0 rfl) ?_
        refine ow_get hx hb hts iw_W hown hB k0 rfl 3 (by decide) mw_218 rfl dc_W_betterOrder_104 ?_
        obtain ⟨h1, h2⟩ := h
        refine lv_if_le hx hb dc_W_betterOrder_107 rfl (fun hc => ?_) (fun hc => ?_)
        · have h := h1 hc
          refine lv_iload hx hb dc_W_betterOrder_189 (lv_at hl 6 rfl) ?_
          exact ow_iret hx hb hr hlocks hB h dc_W_betterOrder_191
        · have h := h2 hc
          refine lv_aload_n hx hb dc_W_betterOrder_110 rfl (lv_at hl 0 rfl) ?_
          refine ow_get hx hb hts iw_W hown hB k0 rfl 2 (by decide) mw_217 rfl dc_W_betterOrder_111 ?_
          refine ow_calli (va_runV (As := []) (rest := []) ⟨hx, hb, hml, hown, hts⟩ (ct_S_asNumber l G hG D cA ad F _ (ly_W_orders hG k0) _ _ h) ⟨ow_cb 0 hts mw_694 mw_11 mw_691 rfl rfl hd_S_asNumber ⟨Nat.le_of_ble_eq_true rfl, Nat.le_of_ble_eq_true rfl⟩, hts _ mw_692, hts _ mw_693⟩ (ow_preV hB (ly_W_orders hG k0) rfl) rfl rfl hl.1 rfl (lv_room (Nat.le_of_ble_eq_true rfl)) dc_W_betterOrder_114 ⟨Nat.zero_le _, Nat.zero_le _⟩) hB (fun r4 M3 H locs h hB => ?_)
          refine lv_istore hx hb dc_W_betterOrder_117 hl (by decide) rfl (fun ls hl => ?_)
          refine lv_aload_n hx hb dc_W_betterOrder_119 rfl (lv_at hl 1 rfl) ?_
          refine ow_get hx hb hts iw_W hown hB k0 rfl 1 (by decide) mw_216 rfl dc_W_betterOrder_120 ?_
          refine lv_iload hx hb dc_W_betterOrder_123 (lv_at hl 6 rfl) ?_
          refine lv_iload hx hb dc_W_betterOrder_125 (lv_at hl 0 rfl) ?_
          refine lv_iload hx hb dc_W_betterOrder_127 (lv_at hl 4 rfl) ?_
          refine ow_callv (va_runV (As := [.int x6, .int r4, .int x4]) (rest := []) ⟨hx, hb, hml, hown, hts⟩ (ct_P_replace l G hG D cA ad F _ (ly_W_trial hG k0) _ _ _ _ _ h) ⟨ow_cb 3 hts mw_469 mw_2 mw_685 rfl rfl hd_P_replace ⟨Nat.le_of_ble_eq_true rfl, Nat.le_of_ble_eq_true rfl⟩, hts _ mw_467, hts _ mw_468⟩ (ow_preV hB (ly_W_trial hG k0) rfl) rfl rfl hl.1 rfl (lv_room (Nat.le_of_ble_eq_true rfl)) dc_W_betterOrder_129 ⟨Nat.zero_le _, Nat.zero_le _⟩) hB (fun M5 H locs h hB => ?_)
          refine lv_iload hx hb dc_W_betterOrder_132 (lv_at hl 5 rfl) ?_
          refine lv_aload_n hx hb dc_W_betterOrder_134 rfl (lv_at hl 1 rfl) ?_
          refine ow_get hx hb hts iw_W hown hB k0 rfl 0 (by decide) mw_214 rfl dc_W_betterOrder_135 ?_
          refine lv_aload_n hx hb dc_W_betterOrder_138 rfl (lv_at hl 1 rfl) ?_
          refine ow_get hx hb hts iw_W hown hB k0 rfl 1 (by decide) mw_216 rfl dc_W_betterOrder_139 ?_
          refine lv_iload_n hx hb dc_W_betterOrder_142 rfl (lv_at hl 3 rfl) ?_
          refine ow_calli (va_runV (As := [.ref (ad (o0 + 28)), .int x2]) (rest := [.int x5]) ⟨hx, hb, hml, hown, hts⟩ (ct_R_theWinner l G hG D cA ad F _ (ly_W_rules hG k0) _ (ly_W_trial hG k0) _ _ _ h) ⟨ow_cb 2 hts mw_615 mw_6 mw_673 rfl rfl hd_R_theWinner ⟨Nat.le_of_ble_eq_true rfl, Nat.le_of_ble_eq_true rfl⟩, hts _ mw_613, hts _ mw_614⟩ (ow_preV hB (ly_W_rules hG k0) rfl) rfl rfl hl.1 rfl (lv_room (Nat.le_of_ble_eq_true rfl)) dc_W_betterOrder_143 ⟨Nat.zero_le _, Nat.zero_le _⟩) hB (fun r7 M6 H locs h hB => ?_)
          refine lv_aload_n hx hb dc_W_betterOrder_146 rfl (lv_at hl 2 rfl) ?_
          refine ow_get hx hb hts iw_P hown hB k1 rfl 5 (by decide) mw_62 rfl dc_W_betterOrder_147 ?_
          refine ow_calli (va_runS (As := [.int x5, .int r7, .int (M6.1 o1 5)]) (rest := []) ⟨hx, hb, hml, hown, hts⟩ (ct_O_placeOf l G hG D cA ad F _ _ _ _ _ h) ⟨ow_cb 3 hts mw_676 mw_3 mw_674 rfl rfl hd_O_placeOf ⟨Nat.le_of_ble_eq_true rfl, Nat.le_of_ble_eq_true rfl⟩, hts _ mw_675⟩ (ow_preS hB) rfl rfl hl.1 rfl (lv_room (Nat.le_of_ble_eq_true rfl)) dc_W_betterOrder_150 ⟨Nat.zero_le _, Nat.zero_le _⟩) hB (fun r9 M8 H locs h hB => ?_)
          refine lv_istore hx hb dc_W_betterOrder_153 hl (by decide) rfl (fun ls hl => ?_)
          refine lv_iload hx hb dc_W_betterOrder_155 (lv_at hl 0 rfl) ?_
          refine lv_aload_n hx hb dc_W_betterOrder_157 rfl (lv_at hl 2 rfl) ?_
          refine ow_get hx hb hts iw_W hown hB k0 rfl 3 (by decide) mw_218 rfl dc_W_betterOrder_158 ?_
          obtain ⟨h1, h2⟩ := h
          refine lv_icmp_ge hx hb dc_W_betterOrder_161 rfl (fun hc => ?_) (fun hc => ?_)
          · have h := h1 hc
            exact L174 _ _ K90 hK90 _ _ _ _ _ _ h hB (lv_sub hl [2, 3, 4, 5, 6, 7, 8, 10] rfl)
          · have h := h2 hc
            refine lv_aload_n hx hb dc_W_betterOrder_164 rfl (lv_at hl 2 rfl) ?_
            refine lv_iload hx hb dc_W_betterOrder_165 (lv_at hl 0 rfl) ?_
            refine ow_put hx hb hts iw_W yf_W of_W nf_W hown hB k0 rfl 3 (by decide) mw_218 rfl (by decide +kernel) (Nat.le_of_ble_eq_true rfl) rfl dc_W_betterOrder_167 (fun H locs hB => ?_)
            refine lv_iload hx hb dc_W_betterOrder_170 (lv_at hl 1 rfl) ?_
            refine lv_istore hx hb dc_W_betterOrder_172 hl (by decide) rfl (fun ls hl => ?_)
            exact L174 _ _ K90 hK90 _ _ _ _ _ _ h hB (lv_sub hl [3, 4, 5, 6, 7, 8, 0, 10] rfl)
  have L90 : ∀ (x5 : Int32) (x6 : Int32)  (M : om_M) (x7 : Int32) (x8 : Int32) (x9 : Int32) (H : Heap) (locs : List Loc) (ls : Array Slot), wp_W_betterOrder_90 F o0 o1 x2 x3 x4 Q x5 x6  M x7 x8 x9 → ow_B G D cA ad (ow_A G ad) M s s.heap H locs → lv_has ls 12 [(0, .ref (ad o0)), (1, .ref (ad o1)), (2, .int x2), (4, .int x4), (5, .int x5), (6, .int x6), (7, .int x7), (8, .int x8), (9, .int x9)] → W p l e rm_W_betterOrder s m ([.ref (ad o0), .ref (ad o1), .int x2, .int x3, .int x4] : List Value).toArray below meth c H locs 0 0 (MQ below (ow_Qi G D cA ad Q) ([.ref (ad o0), .ref (ad o1), .int x2, .int x3, .int x4] : List Value).toArray s 0 0 (ow_A G ad)) (F0 m 90 ls []) := by
    intro x5 x6 
    have step : ∀ (k : Nat) (M : om_M) (x7 : Int32) (x8 : Int32) (x9 : Int32) (H : Heap) (locs : List Loc) (ls : Array Slot), ow_lp (fun (z : om_M × Int32 × Int32 × Int32) K => wp_W_betterOrder_90b F o0 o1 x2 x3 x4 Q x5 x6  K z.1 z.2.1 z.2.2.1 z.2.2.2) k (M, x7, x8, x9) → ow_B G D cA ad (ow_A G ad) M s s.heap H locs → lv_has ls 12 [(0, .ref (ad o0)), (1, .ref (ad o1)), (2, .int x2), (4, .int x4), (5, .int x5), (6, .int x6), (7, .int x7), (8, .int x8), (9, .int x9)] → W p l e rm_W_betterOrder s m ([.ref (ad o0), .ref (ad o1), .int x2, .int x3, .int x4] : List Value).toArray below meth c H locs 0 0 (MQ below (ow_Qi G D cA ad Q) ([.ref (ad o0), .ref (ad o1), .int x2, .int x3, .int x4] : List Value).toArray s 0 0 (ow_A G ad)) (F0 m 90 ls []) := by
      intro k
      induction k with
      | zero => intro M x7 x8 x9 H locs ls h hB hl; exact False.elim h
      | succ k ih => intro M x7 x8 x9 H locs ls h hB hl; exact B90 x5 x6  (ow_lp _ k) (fun M x7 x8 x9 H locs ls h hB  hl => ih M x7 x8 x9  H locs ls h hB hl) M x7 x8 x9 H locs ls h hB hl
    intro M x7 x8 x9 H locs ls h hB hl
    exact step F M x7 x8 x9 H locs ls h hB hl
  have hl := lv_entry ([.ref (ad o0), .ref (ad o1), .int x2, .int x3, .int x4]) (n := 12) (Nat.le_of_ble_eq_true rfl)
  rw [lg_entry_eq]
  generalize (lg_sl ([.ref (ad o0), .ref (ad o1), .int x2, .int x3, .int x4]) ++ List.replicate (12 - (lg_sl ([.ref (ad o0), .ref (ad o1), .int x2, .int x3, .int x4])).length) Slot.unset).toArray = ls at hl ⊢
  have hl : lv_has ls 12 [(0, .ref (ad o0)), (1, .ref (ad o1)), (2, .int x2), (3, .int x3), (4, .int x4)] := hl
  show W p l e rm_W_betterOrder s m _ below meth c s.heap [] 0 0 _ _
  refine lv_aload_n hx hb dc_W_betterOrder_0 rfl (lv_at hl 1 rfl) ?_
  refine ow_get hx hb hts iw_P hown hB k1 rfl 0 (by decide) mw_40 rfl dc_W_betterOrder_1 ?_
  refine lv_iload_n hx hb dc_W_betterOrder_4 rfl (lv_at hl 3 rfl) ?_
  obtain ⟨hi10, h⟩ := h
  refine ow_iald hx hb hB (ly_P_orders hG k1) hi10 dc_W_betterOrder_5 ?_
  refine lv_istore hx hb dc_W_betterOrder_6 hl (by decide) rfl (fun ls hl => ?_)
  refine lv_aload_n hx hb dc_W_betterOrder_8 rfl (lv_at hl 1 rfl) ?_
  refine lv_iload hx hb dc_W_betterOrder_9 (lv_at hl 0 rfl) ?_
  refine lv_aload_n hx hb dc_W_betterOrder_11 rfl (lv_at hl 1 rfl) ?_
  refine ow_get hx hb hts iw_W hown hB k0 rfl 0 (by decide) mw_214 rfl dc_W_betterOrder_12 ?_
  refine lv_aload_n hx hb dc_W_betterOrder_15 rfl (lv_at hl 2 rfl) ?_
  refine lv_iload_n hx hb dc_W_betterOrder_16 rfl (lv_at hl 3 rfl) ?_
  refine ow_calli (va_runV (As := [.ref (ad o1), .int x2]) (rest := [.int (M.1 (o1 + 1) x3.toNatClampNeg), .ref (ad o0)]) ⟨hx, hb, hml, hown, hts⟩ (ct_R_theWinner l G hG D cA ad F _ (ly_W_rules hG k0) _ k1 _ _ _ h) ⟨ow_cb 2 hts mw_615 mw_6 mw_673 rfl rfl hd_R_theWinner ⟨Nat.le_of_ble_eq_true rfl, Nat.le_of_ble_eq_true rfl⟩, hts _ mw_613, hts _ mw_614⟩ (ow_preV hB (ly_W_rules hG k0) rfl) rfl rfl hl.1 rfl (lv_room (Nat.le_of_ble_eq_true rfl)) dc_W_betterOrder_17 ⟨Nat.zero_le _, Nat.zero_le _⟩) hB (fun r12 M11 H locs h hB => ?_)
  refine lv_aload_n hx hb dc_W_betterOrder_20 rfl (lv_at hl 2 rfl) ?_
  refine ow_get hx hb hts iw_P hown hB k1 rfl 5 (by decide) mw_62 rfl dc_W_betterOrder_21 ?_
  refine ow_calli (va_runS (As := [.int (M.1 (o1 + 1) x3.toNatClampNeg), .int r12, .int (M11.1 o1 5)]) (rest := [.ref (ad o0)]) ⟨hx, hb, hml, hown, hts⟩ (ct_O_placeOf l G hG D cA ad F _ _ _ _ _ h) ⟨ow_cb 3 hts mw_676 mw_3 mw_674 rfl rfl hd_O_placeOf ⟨Nat.le_of_ble_eq_true rfl, Nat.le_of_ble_eq_true rfl⟩, hts _ mw_675⟩ (ow_preS hB) rfl rfl hl.1 rfl (lv_room (Nat.le_of_ble_eq_true rfl)) dc_W_betterOrder_24 ⟨Nat.zero_le _, Nat.zero_le _⟩) hB (fun r14 M13 H locs h hB => ?_)
  refine ow_put hx hb hts iw_W yf_W of_W nf_W hown hB k0 rfl 3 (by decide) mw_218 rfl (by decide +kernel) (Nat.le_of_ble_eq_true rfl) rfl dc_W_betterOrder_27 (fun H locs hB => ?_)
  refine lv_aload_n hx hb dc_W_betterOrder_30 rfl (lv_at hl 1 rfl) ?_
  refine ow_get hx hb hts iw_W hown hB k0 rfl 1 (by decide) mw_216 rfl dc_W_betterOrder_31 ?_
  refine lv_aload_n hx hb dc_W_betterOrder_34 rfl (lv_at hl 2 rfl) ?_
  refine ow_callv (va_runV (As := [.ref (ad o1)]) (rest := []) ⟨hx, hb, hml, hown, hts⟩ (ct_P_copy l G hG D cA ad F _ (ly_W_trial hG k0) _ k1 _ _ h) ⟨ow_cb 1 hts mw_680 mw_2 mw_677 rfl rfl hd_P_copy ⟨Nat.le_of_ble_eq_true rfl, Nat.le_of_ble_eq_true rfl⟩, hts _ mw_678, hts _ mw_679⟩ (ow_preV hB (ly_W_trial hG k0) rfl) rfl rfl hl.1 rfl (lv_room (Nat.le_of_ble_eq_true rfl)) dc_W_betterOrder_35 ⟨Nat.zero_le _, Nat.zero_le _⟩) hB (fun M15 H locs h hB => ?_)
  refine lv_aload_n hx hb dc_W_betterOrder_38 rfl (lv_at hl 1 rfl) ?_
  refine ow_get hx hb hts iw_W hown hB k0 rfl 1 (by decide) mw_216 rfl dc_W_betterOrder_39 ?_
  refine lv_iload_n hx hb dc_W_betterOrder_42 rfl (lv_at hl 4 rfl) ?_
  refine lv_iload hx hb dc_W_betterOrder_43 (lv_at hl 0 rfl) ?_
  refine lv_aload_n hx hb dc_W_betterOrder_45 rfl (lv_at hl 2 rfl) ?_
  refine ow_get hx hb hts iw_P hown hB k1 rfl 1 (by decide) mw_44 rfl dc_W_betterOrder_46 ?_
  refine lv_iload_n hx hb dc_W_betterOrder_49 rfl (lv_at hl 4 rfl) ?_
  refine ow_iald hx hb hB (ly_P_voters hG k1) hi10 dc_W_betterOrder_50 ?_
  refine lv_iload hx hb dc_W_betterOrder_51 (lv_at hl 5 rfl) ?_
  refine lv_isub hx hb dc_W_betterOrder_53 ?_
  refine ow_callv (va_runV (As := [.int x3, .int (M.1 (o1 + 1) x3.toNatClampNeg), .int ((M15.1 (o1 + 2) x3.toNatClampNeg) - x4)]) (rest := []) ⟨hx, hb, hml, hown, hts⟩ (ct_P_replace l G hG D cA ad F _ (ly_W_trial hG k0) _ _ _ _ _ h) ⟨ow_cb 3 hts mw_469 mw_2 mw_685 rfl rfl hd_P_replace ⟨Nat.le_of_ble_eq_true rfl, Nat.le_of_ble_eq_true rfl⟩, hts _ mw_467, hts _ mw_468⟩ (ow_preV hB (ly_W_trial hG k0) rfl) rfl rfl hl.1 rfl (lv_room (Nat.le_of_ble_eq_true rfl)) dc_W_betterOrder_54 ⟨Nat.zero_le _, Nat.zero_le _⟩) hB (fun M16 H locs h hB => ?_)
  refine lv_aload_n hx hb dc_W_betterOrder_57 rfl (lv_at hl 1 rfl) ?_
  refine ow_get hx hb hts iw_W hown hB k0 rfl 1 (by decide) mw_216 rfl dc_W_betterOrder_58 ?_
  refine lv_iload hx hb dc_W_betterOrder_61 (lv_at hl 0 rfl) ?_
  refine lv_iload hx hb dc_W_betterOrder_63 (lv_at hl 5 rfl) ?_
  refine ow_calli (va_runV (As := [.int (M.1 (o1 + 1) x3.toNatClampNeg), .int x4]) (rest := []) ⟨hx, hb, hml, hown, hts⟩ (ct_P_append l G hG D cA ad F _ (ly_W_trial hG k0) _ _ _ _ h) ⟨ow_cb 2 hts mw_431 mw_2 mw_686 rfl rfl hd_P_append ⟨Nat.le_of_ble_eq_true rfl, Nat.le_of_ble_eq_true rfl⟩, hts _ mw_429, hts _ mw_430⟩ (ow_preV hB (ly_W_trial hG k0) rfl) rfl rfl hl.1 rfl (lv_room (Nat.le_of_ble_eq_true rfl)) dc_W_betterOrder_65 ⟨Nat.zero_le _, Nat.zero_le _⟩) hB (fun r18 M17 H locs h hB => ?_)
  refine lv_istore hx hb dc_W_betterOrder_68 hl (by decide) rfl (fun ls hl => ?_)
  refine lv_iconst (v := (-1)) hx hb dc_W_betterOrder_70 rfl ?_
  refine lv_istore hx hb dc_W_betterOrder_71 hl (by decide) rfl (fun ls hl => ?_)
  refine lv_aload_n hx hb dc_W_betterOrder_73 rfl (lv_at hl 3 rfl) ?_
  refine ow_get hx hb hts iw_W hown hB k0 rfl 2 (by decide) mw_217 rfl dc_W_betterOrder_74 ?_
  refine lv_aload_n hx hb dc_W_betterOrder_77 rfl (lv_at hl 4 rfl) ?_
  refine ow_get hx hb hts iw_P hown hB k1 rfl 5 (by decide) mw_62 rfl dc_W_betterOrder_78 ?_
  refine ow_callv (va_runV (As := [.int (M17.1 o1 5)]) (rest := []) ⟨hx, hb, hml, hown, hts⟩ (ct_S_start l G hG D cA ad F _ (ly_W_orders hG k0) _ _ _ h) ⟨ow_cb 1 hts mw_690 mw_11 mw_687 rfl rfl hd_S_start ⟨Nat.le_of_ble_eq_true rfl, Nat.le_of_ble_eq_true rfl⟩, hts _ mw_688, hts _ mw_689⟩ (ow_preV hB (ly_W_orders hG k0) rfl) rfl rfl hl.1 rfl (lv_room (Nat.le_of_ble_eq_true rfl)) dc_W_betterOrder_81 ⟨Nat.zero_le _, Nat.zero_le _⟩) hB (fun M19 H locs h hB => ?_)
  refine lv_iconst (v := 1) hx hb dc_W_betterOrder_84 rfl ?_
  refine lv_istore hx hb dc_W_betterOrder_85 hl (by decide) rfl (fun ls hl => ?_)
  refine lv_iconst (v := 0) hx hb dc_W_betterOrder_87 rfl ?_
  refine lv_istore hx hb dc_W_betterOrder_88 hl (by decide) rfl (fun ls hl => ?_)
  exact L90 _ _ _ _ _ _ _ _ _ h hB (lv_sub hl [5, 6, 7, 9, 4, 3, 2, 1, 0] rfl)
abbrev rm_W_bestNotAlone : Room := { frames := 5, cells := 0, slots := 0, locals := 121 }
theorem hd_W_bestNotAlone : yn_W_bestNotAlone.cls ≠ "java/lang/invoke/MethodHandle" ∧ yn_W_bestNotAlone.cls ≠ "java/lang/invoke/VarHandle" ∧ (parseMethodDescriptor yn_W_bestNotAlone.desc).map (fun d => d.parameters.length) = some 2 := by decide +kernel
set_option maxHeartbeats 4000000 in
set_option maxRecDepth 100000 in
theorem ct_W_bestNotAlone (l : Launch) (G : List (Nat × Nat)) (hG : ow_lay G) (D : va_G) (cA : Nat → ClassId) (ad : Nat → Nat) (F : Nat) (o0 : Nat) (k0 : ow_kd G o0 = (3, 7)) (o1 : Nat) (k1 : ow_kd G o1 = (3, 1)) (x2 : Int32) (M : om_M) (Q : Int32 → om_M → Prop) (h : wp_W_bestNotAlone F o0 o1 x2 M Q) : Met l yn_W_bestNotAlone (ow_ws yn_W_bestNotAlone cb_W_bestNotAlone 5 (some .int)) rm_W_bestNotAlone (ow_Pc G D cA ad M [.ref (ad o0), .ref (ad o1), .int x2]) (ow_Qi G D cA ad Q) 0 0 (ow_A G ad) := by
  refine Met.ofW (cc := cb_W_bestNotAlone) (maxL := 5) (ret := (some .int)) (by decide) rfl ?_
  intro p e s m args below meth c s₁ B hml hv
  obtain ⟨rfl, hB⟩ := hv
  have hx := B.exec
  have hb := B.bytes
  have hr := B.returns
  have hlocks := B.notSynchronized
  have hts : ∀ w ∈ lw_g, w.before ([.ref (ad o0), .ref (ad o1), .int x2] : List Value).toArray s = true := fun w h => atoms_spec (ws := ow_ws yn_W_bestNotAlone cb_W_bestNotAlone 5 (some .int)) B.pre w (List.mem_cons_of_mem _ h)
  have hown : s.vm.findClass "BallotDesk$WhatIf" = some m.cls := findClass_of_methodNamed B.named
  clear B
  have B2 : ∀   (K2 : om_M × Int32 → Prop) (hK2 : ∀ (M : om_M) (x3 : Int32) (H : Heap) (locs : List Loc) (ls : Array Slot), K2 (M, x3) → ow_B G D cA ad (ow_A G ad) M s s.heap H locs → lv_has ls 5 [(0, .ref (ad o0)), (1, .ref (ad o1)), (2, .int x2), (3, .int x3)] → W p l e rm_W_bestNotAlone s m ([.ref (ad o0), .ref (ad o1), .int x2] : List Value).toArray below meth c H locs 0 0 (MQ below (ow_Qi G D cA ad Q) ([.ref (ad o0), .ref (ad o1), .int x2] : List Value).toArray s 0 0 (ow_A G ad)) (F0 m 2 ls [])) (M : om_M) (x3 : Int32) (H : Heap) (locs : List Loc) (ls : Array Slot), wp_W_bestNotAlone_2b F o0 o1 x2 Q   K2 M x3 → ow_B G D cA ad (ow_A G ad) M s s.heap H locs → lv_has ls 5 [(0, .ref (ad o0)), (1, .ref (ad o1)), (2, .int x2), (3, .int x3)] → W p l e rm_W_bestNotAlone s m ([.ref (ad o0), .ref (ad o1), .int x2] : List Value).toArray below meth c H locs 0 0 (MQ below (ow_Qi G D cA ad Q) ([.ref (ad o0), .ref (ad o1), .int x2] : List Value).toArray s 0 0 (ow_A G ad)) (F0 m 2 ls []) := by
    intro   K2 hK2 M x3 H locs ls h hB hl
    refine lv_iload_n hx hb dc_W_bestNotAlone_2 rfl (lv_at hl 3 rfl) ?_
    refine lv_aload_n hx hb dc_W_bestNotAlone_3 rfl (lv_at hl 1 rfl) ?_
    refine ow_get hx hb hts iw_P hown hB k1 rfl 5 (by decide) mw_62 rfl dc_W_bestNotAlone_4 ?_
    obtain ⟨h1, h2⟩ := h
    refine lv_icmp_ge hx hb dc_W_bestNotAlone_7 rfl (fun hc => ?_) (fun hc => ?_)
    · have h := h1 hc
      refine lv_iconst (v := (-1)) hx hb dc_W_bestNotAlone_56 rfl ?_
      exact ow_iret hx hb hr hlocks hB h dc_W_bestNotAlone_57
    · have h := h2 hc
      refine lv_iconst (v := 1) hx hb dc_W_bestNotAlone_10 rfl ?_
      refine lv_iload_n hx hb dc_W_bestNotAlone_11 rfl (lv_at hl 3 rfl) ?_
      refine lv_ishl hx hb dc_W_bestNotAlone_12 ?_
      refine lv_istore hx hb dc_W_bestNotAlone_13 hl (by decide) rfl (fun ls hl => ?_)
      refine lv_aload_n hx hb dc_W_bestNotAlone_15 rfl (lv_at hl 2 rfl) ?_
      refine lv_iload_n hx hb dc_W_bestNotAlone_16 rfl (lv_at hl 4 rfl) ?_
      refine ow_calli (va_runV (As := [.int x3]) (rest := []) ⟨hx, hb, hml, hown, hts⟩ (ct_P_beatenBy l G hG D cA ad F _ k1 _ _ _ h) ⟨ow_cb 1 hts mw_580 mw_2 mw_714 rfl rfl hd_P_beatenBy ⟨Nat.le_of_ble_eq_true rfl, Nat.le_of_ble_eq_true rfl⟩, hts _ mw_578, hts _ mw_579⟩ (ow_preV hB k1 rfl) rfl rfl hl.1 rfl (lv_room (Nat.le_of_ble_eq_true rfl)) dc_W_bestNotAlone_17 ⟨Nat.zero_le _, Nat.zero_le _⟩) hB (fun r2 M1 H locs h hB => ?_)
      refine lv_aload_n hx hb dc_W_bestNotAlone_20 rfl (lv_at hl 2 rfl) ?_
      refine ow_calli (va_runV (As := []) (rest := [.int r2]) ⟨hx, hb, hml, hown, hts⟩ (ct_P_everyone l G hG D cA ad F _ k1 _ _ h) ⟨ow_cb 0 hts mw_260 mw_2 mw_715 rfl rfl hd_P_everyone ⟨Nat.le_of_ble_eq_true rfl, Nat.le_of_ble_eq_true rfl⟩, hts _ mw_258, hts _ mw_259⟩ (ow_preV hB k1 rfl) rfl rfl hl.1 rfl (lv_room (Nat.le_of_ble_eq_true rfl)) dc_W_bestNotAlone_21 ⟨Nat.zero_le _, Nat.zero_le _⟩) hB (fun r4 M3 H locs h hB => ?_)
      refine lv_iload hx hb dc_W_bestNotAlone_24 (lv_at hl 0 rfl) ?_
      refine lv_isub hx hb dc_W_bestNotAlone_26 ?_
      obtain ⟨h1, h2⟩ := h
      refine lv_icmp_ne hx hb dc_W_bestNotAlone_27 rfl (fun hc => ?_) (fun hc => ?_)
      · have h := h2 hc
        refine lv_iinc hx hb dc_W_bestNotAlone_50 hl (k := 4) rfl rfl (by decide) rfl (fun ls hl => ?_)
        refine lv_goto hx hb dc_W_bestNotAlone_53 rfl ?_
        exact hK2 _ _ _ _ _ h hB (lv_sub hl [2, 3, 4, 0] rfl)
      · have h := h1 hc
        refine lv_aload_n hx hb dc_W_bestNotAlone_30 rfl (lv_at hl 1 rfl) ?_
        refine ow_get hx hb hts iw_W hown hB k0 rfl 0 (by decide) mw_214 rfl dc_W_bestNotAlone_31 ?_
        refine lv_aload_n hx hb dc_W_bestNotAlone_34 rfl (lv_at hl 2 rfl) ?_
        refine lv_iload_n hx hb dc_W_bestNotAlone_35 rfl (lv_at hl 3 rfl) ?_
        refine ow_calli (va_runV (As := [.ref (ad o1), .int x2]) (rest := []) ⟨hx, hb, hml, hown, hts⟩ (ct_R_winnerSet l G hG D cA ad F _ (ly_W_rules hG k0) _ k1 _ _ _ h) ⟨ow_cb 2 hts mw_515 mw_6 mw_716 rfl rfl hd_R_winnerSet ⟨Nat.le_of_ble_eq_true rfl, Nat.le_of_ble_eq_true rfl⟩, hts _ mw_513, hts _ mw_514⟩ (ow_preV hB (ly_W_rules hG k0) rfl) rfl rfl hl.1 rfl (lv_room (Nat.le_of_ble_eq_true rfl)) dc_W_bestNotAlone_36 ⟨Nat.zero_le _, Nat.zero_le _⟩) hB (fun r6 M5 H locs h hB => ?_)
        refine lv_iload hx hb dc_W_bestNotAlone_39 (lv_at hl 0 rfl) ?_
        obtain ⟨h1, h2⟩ := h
        refine lv_icmp_ne hx hb dc_W_bestNotAlone_41 rfl (fun hc => ?_) (fun hc => ?_)
        · have h := h2 hc
          refine lv_iload_n hx hb dc_W_bestNotAlone_48 rfl (lv_at hl 4 rfl) ?_
          exact ow_iret hx hb hr hlocks hB h dc_W_bestNotAlone_49
        · have h := h1 hc
          refine lv_iconst (v := (-1)) hx hb dc_W_bestNotAlone_44 rfl ?_
          refine lv_goto hx hb dc_W_bestNotAlone_45 rfl ?_
          exact ow_iret hx hb hr hlocks hB h dc_W_bestNotAlone_49
  have L2 : ∀   (M : om_M) (x3 : Int32) (H : Heap) (locs : List Loc) (ls : Array Slot), wp_W_bestNotAlone_2 F o0 o1 x2 Q   M x3 → ow_B G D cA ad (ow_A G ad) M s s.heap H locs → lv_has ls 5 [(0, .ref (ad o0)), (1, .ref (ad o1)), (2, .int x2), (3, .int x3)] → W p l e rm_W_bestNotAlone s m ([.ref (ad o0), .ref (ad o1), .int x2] : List Value).toArray below meth c H locs 0 0 (MQ below (ow_Qi G D cA ad Q) ([.ref (ad o0), .ref (ad o1), .int x2] : List Value).toArray s 0 0 (ow_A G ad)) (F0 m 2 ls []) := by
    have step : ∀ (k : Nat) (M : om_M) (x3 : Int32) (H : Heap) (locs : List Loc) (ls : Array Slot), ow_lp (fun (z : om_M × Int32) K => wp_W_bestNotAlone_2b F o0 o1 x2 Q   K z.1 z.2) k (M, x3) → ow_B G D cA ad (ow_A G ad) M s s.heap H locs → lv_has ls 5 [(0, .ref (ad o0)), (1, .ref (ad o1)), (2, .int x2), (3, .int x3)] → W p l e rm_W_bestNotAlone s m ([.ref (ad o0), .ref (ad o1), .int x2] : List Value).toArray below meth c H locs 0 0 (MQ below (ow_Qi G D cA ad Q) ([.ref (ad o0), .ref (ad o1), .int x2] : List Value).toArray s 0 0 (ow_A G ad)) (F0 m 2 ls []) := by
      intro k
      induction k with
      | zero => intro M x3 H locs ls h hB hl; exact False.elim h
      | succ k ih => intro M x3 H locs ls h hB hl; exact B2   (ow_lp _ k) (fun M x3 H locs ls h hB  hl => ih M x3  H locs ls h hB hl) M x3 H locs ls h hB hl
    intro M x3 H locs ls h hB hl
    exact step F M x3 H locs ls h hB hl
  have hl := lv_entry ([.ref (ad o0), .ref (ad o1), .int x2]) (n := 5) (Nat.le_of_ble_eq_true rfl)
  rw [lg_entry_eq]
  generalize (lg_sl ([.ref (ad o0), .ref (ad o1), .int x2]) ++ List.replicate (5 - (lg_sl ([.ref (ad o0), .ref (ad o1), .int x2])).length) Slot.unset).toArray = ls at hl ⊢
  have hl : lv_has ls 5 [(0, .ref (ad o0)), (1, .ref (ad o1)), (2, .int x2)] := hl
  show W p l e rm_W_bestNotAlone s m _ below meth c s.heap [] 0 0 _ _
  refine lv_iconst (v := 0) hx hb dc_W_bestNotAlone_0 rfl ?_
  refine lv_istore_n hx hb dc_W_bestNotAlone_1 rfl hl (by decide) rfl (fun ls hl => ?_)
  exact L2 _ _ _ _ _ h hB (lv_sub hl [1, 2, 3, 0] rfl)
abbrev rm_W_worstAmongWinners : Room := { frames := 5, cells := 0, slots := 0, locals := 121 }
theorem hd_W_worstAmongWinners : yn_W_worstAmongWinners.cls ≠ "java/lang/invoke/MethodHandle" ∧ yn_W_worstAmongWinners.cls ≠ "java/lang/invoke/VarHandle" ∧ (parseMethodDescriptor yn_W_worstAmongWinners.desc).map (fun d => d.parameters.length) = some 2 := by decide +kernel
set_option maxHeartbeats 4000000 in
set_option maxRecDepth 100000 in
theorem ct_W_worstAmongWinners (l : Launch) (G : List (Nat × Nat)) (hG : ow_lay G) (D : va_G) (cA : Nat → ClassId) (ad : Nat → Nat) (F : Nat) (o0 : Nat) (k0 : ow_kd G o0 = (3, 7)) (o1 : Nat) (k1 : ow_kd G o1 = (3, 1)) (x2 : Int32) (M : om_M) (Q : Int32 → om_M → Prop) (h : wp_W_worstAmongWinners F o0 o1 x2 M Q) : Met l yn_W_worstAmongWinners (ow_ws yn_W_worstAmongWinners cb_W_worstAmongWinners 5 (some .int)) rm_W_worstAmongWinners (ow_Pc G D cA ad M [.ref (ad o0), .ref (ad o1), .int x2]) (ow_Qi G D cA ad Q) 0 0 (ow_A G ad) := by
  refine Met.ofW (cc := cb_W_worstAmongWinners) (maxL := 5) (ret := (some .int)) (by decide) rfl ?_
  intro p e s m args below meth c s₁ B hml hv
  obtain ⟨rfl, hB⟩ := hv
  have hx := B.exec
  have hb := B.bytes
  have hr := B.returns
  have hlocks := B.notSynchronized
  have hts : ∀ w ∈ lw_g, w.before ([.ref (ad o0), .ref (ad o1), .int x2] : List Value).toArray s = true := fun w h => atoms_spec (ws := ow_ws yn_W_worstAmongWinners cb_W_worstAmongWinners 5 (some .int)) B.pre w (List.mem_cons_of_mem _ h)
  have hown : s.vm.findClass "BallotDesk$WhatIf" = some m.cls := findClass_of_methodNamed B.named
  clear B
  have L37 : ∀   (M : om_M) (x3 : Int32)  (H : Heap) (locs : List Loc) (ls : Array Slot), wp_W_worstAmongWinners_37 F o0 o1 x2 Q   M x3  → ow_B G D cA ad (ow_A G ad) M s s.heap H locs → lv_has ls 5 [(0, .ref (ad o0)), (1, .ref (ad o1)), (2, .int x2), (3, .int x3)] → W p l e rm_W_worstAmongWinners s m ([.ref (ad o0), .ref (ad o1), .int x2] : List Value).toArray below meth c H locs 0 0 (MQ below (ow_Qi G D cA ad Q) ([.ref (ad o0), .ref (ad o1), .int x2] : List Value).toArray s 0 0 (ow_A G ad)) (F0 m 37 ls []) := by
    intro   M x3 H locs ls h hB hl
    refine lv_aload_n hx hb dc_W_worstAmongWinners_37 rfl (lv_at hl 1 rfl) ?_
    refine lv_iload_n hx hb dc_W_worstAmongWinners_38 rfl (lv_at hl 3 rfl) ?_
    refine lv_aload_n hx hb dc_W_worstAmongWinners_39 rfl (lv_at hl 0 rfl) ?_
    refine ow_get hx hb hts iw_W hown hB k0 rfl 0 (by decide) mw_214 rfl dc_W_worstAmongWinners_40 ?_
    refine lv_aload_n hx hb dc_W_worstAmongWinners_43 rfl (lv_at hl 1 rfl) ?_
    refine lv_iload_n hx hb dc_W_worstAmongWinners_44 rfl (lv_at hl 2 rfl) ?_
    refine ow_calli (va_runV (As := [.ref (ad o1), .int x2]) (rest := [.int x3, .ref (ad o1)]) ⟨hx, hb, hml, hown, hts⟩ (ct_R_winnerSet l G hG D cA ad F _ (ly_W_rules hG k0) _ k1 _ _ _ h) ⟨ow_cb 2 hts mw_515 mw_6 mw_716 rfl rfl hd_R_winnerSet ⟨Nat.le_of_ble_eq_true rfl, Nat.le_of_ble_eq_true rfl⟩, hts _ mw_513, hts _ mw_514⟩ (ow_preV hB (ly_W_rules hG k0) rfl) rfl rfl hl.1 rfl (lv_room (Nat.le_of_ble_eq_true rfl)) dc_W_worstAmongWinners_45 ⟨Nat.zero_le _, Nat.zero_le _⟩) hB (fun r2 M1 H locs h hB => ?_)
    refine lv_iand hx hb dc_W_worstAmongWinners_48 ?_
    refine ow_calli (va_runV (As := [.int (x3 &&& r2)]) (rest := []) ⟨hx, hb, hml, hown, hts⟩ (ct_P_firstInTie l G hG D cA ad F _ k1 _ _ _ h) ⟨ow_cb 1 hts mw_311 mw_2 mw_721 rfl rfl hd_P_firstInTie ⟨Nat.le_of_ble_eq_true rfl, Nat.le_of_ble_eq_true rfl⟩, hts _ mw_309, hts _ mw_310⟩ (ow_preV hB k1 rfl) rfl rfl hl.1 rfl (lv_room (Nat.le_of_ble_eq_true rfl)) dc_W_worstAmongWinners_49 ⟨Nat.zero_le _, Nat.zero_le _⟩) hB (fun r4 M3 H locs h hB => ?_)
    exact ow_iret hx hb hr hlocks hB h dc_W_worstAmongWinners_52
  have B8 : ∀   (K8 : om_M × Int32 × Int32 → Prop) (hK8 : ∀ (M : om_M) (x3 : Int32) (x4 : Int32) (H : Heap) (locs : List Loc) (ls : Array Slot), K8 (M, x3, x4) → ow_B G D cA ad (ow_A G ad) M s s.heap H locs → lv_has ls 5 [(0, .ref (ad o0)), (1, .ref (ad o1)), (2, .int x2), (3, .int x3), (4, .int x4)] → W p l e rm_W_worstAmongWinners s m ([.ref (ad o0), .ref (ad o1), .int x2] : List Value).toArray below meth c H locs 0 0 (MQ below (ow_Qi G D cA ad Q) ([.ref (ad o0), .ref (ad o1), .int x2] : List Value).toArray s 0 0 (ow_A G ad)) (F0 m 8 ls [])) (M : om_M) (x3 : Int32) (x4 : Int32) (H : Heap) (locs : List Loc) (ls : Array Slot), wp_W_worstAmongWinners_8b F o0 o1 x2 Q   K8 M x3 x4 → ow_B G D cA ad (ow_A G ad) M s s.heap H locs → lv_has ls 5 [(0, .ref (ad o0)), (1, .ref (ad o1)), (2, .int x2), (3, .int x3), (4, .int x4)] → W p l e rm_W_worstAmongWinners s m ([.ref (ad o0), .ref (ad o1), .int x2] : List Value).toArray below meth c H locs 0 0 (MQ below (ow_Qi G D cA ad Q) ([.ref (ad o0), .ref (ad o1), .int x2] : List Value).toArray s 0 0 (ow_A G ad)) (F0 m 8 ls []) := by
    intro   K8 hK8 M x3 x4 H locs ls h hB hl
    refine lv_iload hx hb dc_W_worstAmongWinners_8 (lv_at hl 4 rfl) ?_
    refine lv_aload_n hx hb dc_W_worstAmongWinners_10 rfl (lv_at hl 1 rfl) ?_
    refine ow_get hx hb hts iw_P hown hB k1 rfl 5 (by decide) mw_62 rfl dc_W_worstAmongWinners_11 ?_
    obtain ⟨h1, h2⟩ := h
    refine lv_icmp_ge hx hb dc_W_worstAmongWinners_14 rfl (fun hc => ?_) (fun hc => ?_)
    · have h := h1 hc
      exact L37 _ _ _ _ _ h hB (lv_sub hl [0, 1, 2, 3] rfl)
    · have h := h2 hc
      refine lv_iload_n hx hb dc_W_worstAmongWinners_17 rfl (lv_at hl 3 rfl) ?_
      refine lv_aload_n hx hb dc_W_worstAmongWinners_18 rfl (lv_at hl 1 rfl) ?_
      refine lv_iload hx hb dc_W_worstAmongWinners_19 (lv_at hl 4 rfl) ?_
      refine ow_calli (va_runV (As := [.int x4]) (rest := [.int x3]) ⟨hx, hb, hml, hown, hts⟩ (ct_P_beatenBy l G hG D cA ad F _ k1 _ _ _ h) ⟨ow_cb 1 hts mw_580 mw_2 mw_714 rfl rfl hd_P_beatenBy ⟨Nat.le_of_ble_eq_true rfl, Nat.le_of_ble_eq_true rfl⟩, hts _ mw_578, hts _ mw_579⟩ (ow_preV hB k1 rfl) rfl rfl hl.1 rfl (lv_room (Nat.le_of_ble_eq_true rfl)) dc_W_worstAmongWinners_21 ⟨Nat.zero_le _, Nat.zero_le _⟩) hB (fun r6 M5 H locs h hB => ?_)
      refine lv_iconst (v := 1) hx hb dc_W_worstAmongWinners_24 rfl ?_
      refine lv_iload hx hb dc_W_worstAmongWinners_25 (lv_at hl 4 rfl) ?_
      refine lv_ishl hx hb dc_W_worstAmongWinners_27 ?_
      refine lv_ior hx hb dc_W_worstAmongWinners_28 ?_
      refine lv_iand hx hb dc_W_worstAmongWinners_29 ?_
      refine lv_istore_n hx hb dc_W_worstAmongWinners_30 rfl hl (by decide) rfl (fun ls hl => ?_)
      refine lv_iinc hx hb dc_W_worstAmongWinners_31 hl (k := 4) rfl rfl (by decide) rfl (fun ls hl => ?_)
      refine lv_goto hx hb dc_W_worstAmongWinners_34 rfl ?_
      exact hK8 _ _ _ _ _ _ h hB (lv_sub hl [2, 3, 4, 1, 0] rfl)
  have L8 : ∀   (M : om_M) (x3 : Int32) (x4 : Int32) (H : Heap) (locs : List Loc) (ls : Array Slot), wp_W_worstAmongWinners_8 F o0 o1 x2 Q   M x3 x4 → ow_B G D cA ad (ow_A G ad) M s s.heap H locs → lv_has ls 5 [(0, .ref (ad o0)), (1, .ref (ad o1)), (2, .int x2), (3, .int x3), (4, .int x4)] → W p l e rm_W_worstAmongWinners s m ([.ref (ad o0), .ref (ad o1), .int x2] : List Value).toArray below meth c H locs 0 0 (MQ below (ow_Qi G D cA ad Q) ([.ref (ad o0), .ref (ad o1), .int x2] : List Value).toArray s 0 0 (ow_A G ad)) (F0 m 8 ls []) := by
    have step : ∀ (k : Nat) (M : om_M) (x3 : Int32) (x4 : Int32) (H : Heap) (locs : List Loc) (ls : Array Slot), ow_lp (fun (z : om_M × Int32 × Int32) K => wp_W_worstAmongWinners_8b F o0 o1 x2 Q   K z.1 z.2.1 z.2.2) k (M, x3, x4) → ow_B G D cA ad (ow_A G ad) M s s.heap H locs → lv_has ls 5 [(0, .ref (ad o0)), (1, .ref (ad o1)), (2, .int x2), (3, .int x3), (4, .int x4)] → W p l e rm_W_worstAmongWinners s m ([.ref (ad o0), .ref (ad o1), .int x2] : List Value).toArray below meth c H locs 0 0 (MQ below (ow_Qi G D cA ad Q) ([.ref (ad o0), .ref (ad o1), .int x2] : List Value).toArray s 0 0 (ow_A G ad)) (F0 m 8 ls []) := by
      intro k
      induction k with
      | zero => intro M x3 x4 H locs ls h hB hl; exact False.elim h
      | succ k ih => intro M x3 x4 H locs ls h hB hl; exact B8   (ow_lp _ k) (fun M x3 x4 H locs ls h hB  hl => ih M x3 x4  H locs ls h hB hl) M x3 x4 H locs ls h hB hl
    intro M x3 x4 H locs ls h hB hl
    exact step F M x3 x4 H locs ls h hB hl
  have hl := lv_entry ([.ref (ad o0), .ref (ad o1), .int x2]) (n := 5) (Nat.le_of_ble_eq_true rfl)
  rw [lg_entry_eq]
  generalize (lg_sl ([.ref (ad o0), .ref (ad o1), .int x2]) ++ List.replicate (5 - (lg_sl ([.ref (ad o0), .ref (ad o1), .int x2])).length) Slot.unset).toArray = ls at hl ⊢
  have hl : lv_has ls 5 [(0, .ref (ad o0)), (1, .ref (ad o1)), (2, .int x2)] := hl
  show W p l e rm_W_worstAmongWinners s m _ below meth c s.heap [] 0 0 _ _
  refine lv_aload_n hx hb dc_W_worstAmongWinners_0 rfl (lv_at hl 1 rfl) ?_
  refine ow_calli (va_runV (As := []) (rest := []) ⟨hx, hb, hml, hown, hts⟩ (ct_P_everyone l G hG D cA ad F _ k1 _ _ h) ⟨ow_cb 0 hts mw_260 mw_2 mw_715 rfl rfl hd_P_everyone ⟨Nat.le_of_ble_eq_true rfl, Nat.le_of_ble_eq_true rfl⟩, hts _ mw_258, hts _ mw_259⟩ (ow_preV hB k1 rfl) rfl rfl hl.1 rfl (lv_room (Nat.le_of_ble_eq_true rfl)) dc_W_worstAmongWinners_1 ⟨Nat.zero_le _, Nat.zero_le _⟩) hB (fun r8 M7 H locs h hB => ?_)
  refine lv_istore_n hx hb dc_W_worstAmongWinners_4 rfl hl (by decide) rfl (fun ls hl => ?_)
  refine lv_iconst (v := 0) hx hb dc_W_worstAmongWinners_5 rfl ?_
  refine lv_istore hx hb dc_W_worstAmongWinners_6 hl (by decide) rfl (fun ls hl => ?_)
  exact L8 _ _ _ _ _ _ h hB (lv_sub hl [2, 3, 4, 1, 0] rfl)
abbrev rm_W_typeThatHarmsByRaising : Room := { frames := 6, cells := 0, slots := 0, locals := 143 }
theorem hd_W_typeThatHarmsByRaising : yn_W_typeThatHarmsByRaising.cls ≠ "java/lang/invoke/MethodHandle" ∧ yn_W_typeThatHarmsByRaising.cls ≠ "java/lang/invoke/VarHandle" ∧ (parseMethodDescriptor yn_W_typeThatHarmsByRaising.desc).map (fun d => d.parameters.length) = some 2 := by decide +kernel
set_option maxHeartbeats 4000000 in
set_option maxRecDepth 100000 in
theorem ct_W_typeThatHarmsByRaising (l : Launch) (G : List (Nat × Nat)) (hG : ow_lay G) (D : va_G) (cA : Nat → ClassId) (ad : Nat → Nat) (F : Nat) (o0 : Nat) (k0 : ow_kd G o0 = (3, 7)) (o1 : Nat) (k1 : ow_kd G o1 = (3, 1)) (x2 : Int32) (M : om_M) (Q : Int32 → om_M → Prop) (h : wp_W_typeThatHarmsByRaising F o0 o1 x2 M Q) : Met l yn_W_typeThatHarmsByRaising (ow_ws yn_W_typeThatHarmsByRaising cb_W_typeThatHarmsByRaising 6 (some .int)) rm_W_typeThatHarmsByRaising (ow_Pc G D cA ad M [.ref (ad o0), .ref (ad o1), .int x2]) (ow_Qi G D cA ad Q) 0 0 (ow_A G ad) := by
  refine Met.ofW (cc := cb_W_typeThatHarmsByRaising) (maxL := 6) (ret := (some .int)) (by decide) rfl ?_
  intro p e s m args below meth c s₁ B hml hv
  obtain ⟨rfl, hB⟩ := hv
  have hx := B.exec
  have hb := B.bytes
  have hr := B.returns
  have hlocks := B.notSynchronized
  have hts : ∀ w ∈ lw_g, w.before ([.ref (ad o0), .ref (ad o1), .int x2] : List Value).toArray s = true := fun w h => atoms_spec (ws := ow_ws yn_W_typeThatHarmsByRaising cb_W_typeThatHarmsByRaising 6 (some .int)) B.pre w (List.mem_cons_of_mem _ h)
  have hown : s.vm.findClass "BallotDesk$WhatIf" = some m.cls := findClass_of_methodNamed B.named
  clear B
  have B21 : ∀ (x3 : Int32)  (K21 : om_M × Int32 → Prop) (hK21 : ∀ (M : om_M) (x4 : Int32) (H : Heap) (locs : List Loc) (ls : Array Slot), K21 (M, x4) → ow_B G D cA ad (ow_A G ad) M s s.heap H locs → lv_has ls 6 [(0, .ref (ad o0)), (1, .ref (ad o1)), (2, .int x2), (3, .int x3), (4, .int x4)] → W p l e rm_W_typeThatHarmsByRaising s m ([.ref (ad o0), .ref (ad o1), .int x2] : List Value).toArray below meth c H locs 0 0 (MQ below (ow_Qi G D cA ad Q) ([.ref (ad o0), .ref (ad o1), .int x2] : List Value).toArray s 0 0 (ow_A G ad)) (F0 m 21 ls [])) (M : om_M) (x4 : Int32) (H : Heap) (locs : List Loc) (ls : Array Slot), wp_W_typeThatHarmsByRaising_21b F o0 o1 x2 Q x3  K21 M x4 → ow_B G D cA ad (ow_A G ad) M s s.heap H locs → lv_has ls 6 [(0, .ref (ad o0)), (1, .ref (ad o1)), (2, .int x2), (3, .int x3), (4, .int x4)] → W p l e rm_W_typeThatHarmsByRaising s m ([.ref (ad o0), .ref (ad o1), .int x2] : List Value).toArray below meth c H locs 0 0 (MQ below (ow_Qi G D cA ad Q) ([.ref (ad o0), .ref (ad o1), .int x2] : List Value).toArray s 0 0 (ow_A G ad)) (F0 m 21 ls []) := by
    intro x3  K21 hK21 M x4 H locs ls h hB hl
    refine lv_iload hx hb dc_W_typeThatHarmsByRaising_21 (lv_at hl 4 rfl) ?_
    refine lv_aload_n hx hb dc_W_typeThatHarmsByRaising_23 rfl (lv_at hl 1 rfl) ?_
    refine ow_get hx hb hts iw_P hown hB k1 rfl 6 (by decide) mw_70 rfl dc_W_typeThatHarmsByRaising_24 ?_
    obtain ⟨h1, h2⟩ := h
    refine lv_icmp_ge hx hb dc_W_typeThatHarmsByRaising_27 rfl (fun hc => ?_) (fun hc => ?_)
    · have h := h1 hc
      refine lv_iconst (v := (-1)) hx hb dc_W_typeThatHarmsByRaising_108 rfl ?_
      exact ow_iret hx hb hr hlocks hB h dc_W_typeThatHarmsByRaising_109
    · have h := h2 hc
      refine lv_aload_n hx hb dc_W_typeThatHarmsByRaising_30 rfl (lv_at hl 1 rfl) ?_
      refine ow_get hx hb hts iw_P hown hB k1 rfl 0 (by decide) mw_40 rfl dc_W_typeThatHarmsByRaising_31 ?_
      refine lv_iload hx hb dc_W_typeThatHarmsByRaising_34 (lv_at hl 4 rfl) ?_
      obtain ⟨hi1, h⟩ := h
      refine ow_iald hx hb hB (ly_P_orders hG k1) hi1 dc_W_typeThatHarmsByRaising_36 ?_
      refine lv_istore hx hb dc_W_typeThatHarmsByRaising_37 hl (by decide) rfl (fun ls hl => ?_)
      refine lv_aload_n hx hb dc_W_typeThatHarmsByRaising_39 rfl (lv_at hl 1 rfl) ?_
      refine ow_get hx hb hts iw_W hown hB k0 rfl 1 (by decide) mw_216 rfl dc_W_typeThatHarmsByRaising_40 ?_
      refine lv_iload hx hb dc_W_typeThatHarmsByRaising_43 (lv_at hl 5 rfl) ?_
      refine lv_iload hx hb dc_W_typeThatHarmsByRaising_45 (lv_at hl 0 rfl) ?_
      refine lv_iload_n hx hb dc_W_typeThatHarmsByRaising_47 rfl (lv_at hl 4 rfl) ?_
      refine lv_aload_n hx hb dc_W_typeThatHarmsByRaising_48 rfl (lv_at hl 2 rfl) ?_
      refine ow_get hx hb hts iw_P hown hB k1 rfl 5 (by decide) mw_62 rfl dc_W_typeThatHarmsByRaising_49 ?_
      refine ow_calli (va_runS (As := [.int (M.1 (o1 + 1) x4.toNatClampNeg), .int x3, .int (M.1 o1 5)]) (rest := [.int x4, .ref (ad (o0 + 28))]) ⟨hx, hb, hml, hown, hts⟩ (ct_O_raised l G hG D cA ad F _ _ _ _ _ h) ⟨ow_cb 3 hts mw_728 mw_3 mw_726 rfl rfl hd_O_raised ⟨Nat.le_of_ble_eq_true rfl, Nat.le_of_ble_eq_true rfl⟩, hts _ mw_727⟩ (ow_preS hB) rfl rfl hl.1 rfl (lv_room (Nat.le_of_ble_eq_true rfl)) dc_W_typeThatHarmsByRaising_52 ⟨Nat.zero_le _, Nat.zero_le _⟩) hB (fun r3 M2 H locs h hB => ?_)
      refine lv_aload_n hx hb dc_W_typeThatHarmsByRaising_55 rfl (lv_at hl 2 rfl) ?_
      refine ow_get hx hb hts iw_P hown hB k1 rfl 1 (by decide) mw_44 rfl dc_W_typeThatHarmsByRaising_56 ?_
      refine lv_iload hx hb dc_W_typeThatHarmsByRaising_59 (lv_at hl 5 rfl) ?_
      refine ow_iald hx hb hB (ly_P_voters hG k1) hi1 dc_W_typeThatHarmsByRaising_61 ?_
      refine ow_callv (va_runV (As := [.int x4, .int r3, .int (M2.1 (o1 + 2) x4.toNatClampNeg)]) (rest := []) ⟨hx, hb, hml, hown, hts⟩ (ct_P_replace l G hG D cA ad F _ (ly_W_trial hG k0) _ _ _ _ _ h) ⟨ow_cb 3 hts mw_469 mw_2 mw_685 rfl rfl hd_P_replace ⟨Nat.le_of_ble_eq_true rfl, Nat.le_of_ble_eq_true rfl⟩, hts _ mw_467, hts _ mw_468⟩ (ow_preV hB (ly_W_trial hG k0) rfl) rfl rfl hl.1 rfl (lv_room (Nat.le_of_ble_eq_true rfl)) dc_W_typeThatHarmsByRaising_62 ⟨Nat.zero_le _, Nat.zero_le _⟩) hB (fun M4 H locs h hB => ?_)
      refine lv_aload_n hx hb dc_W_typeThatHarmsByRaising_65 rfl (lv_at hl 1 rfl) ?_
      refine ow_get hx hb hts iw_W hown hB k0 rfl 0 (by decide) mw_214 rfl dc_W_typeThatHarmsByRaising_66 ?_
      refine lv_aload_n hx hb dc_W_typeThatHarmsByRaising_69 rfl (lv_at hl 1 rfl) ?_
      refine ow_get hx hb hts iw_W hown hB k0 rfl 1 (by decide) mw_216 rfl dc_W_typeThatHarmsByRaising_70 ?_
      refine lv_iload_n hx hb dc_W_typeThatHarmsByRaising_73 rfl (lv_at hl 3 rfl) ?_
      refine ow_calli (va_runV (As := [.ref (ad (o0 + 28)), .int x2]) (rest := []) ⟨hx, hb, hml, hown, hts⟩ (ct_R_theWinner l G hG D cA ad F _ (ly_W_rules hG k0) _ (ly_W_trial hG k0) _ _ _ h) ⟨ow_cb 2 hts mw_615 mw_6 mw_673 rfl rfl hd_R_theWinner ⟨Nat.le_of_ble_eq_true rfl, Nat.le_of_ble_eq_true rfl⟩, hts _ mw_613, hts _ mw_614⟩ (ow_preV hB (ly_W_rules hG k0) rfl) rfl rfl hl.1 rfl (lv_room (Nat.le_of_ble_eq_true rfl)) dc_W_typeThatHarmsByRaising_74 ⟨Nat.zero_le _, Nat.zero_le _⟩) hB (fun r6 M5 H locs h hB => ?_)
      refine lv_iload_n hx hb dc_W_typeThatHarmsByRaising_77 rfl (lv_at hl 4 rfl) ?_
      obtain ⟨h1, h2⟩ := h
      refine lv_icmp_eq hx hb dc_W_typeThatHarmsByRaising_78 rfl (fun hc => ?_) (fun hc => ?_)
      · have h := h1 hc
        refine lv_aload_n hx hb dc_W_typeThatHarmsByRaising_84 rfl (lv_at hl 1 rfl) ?_
        refine ow_get hx hb hts iw_W hown hB k0 rfl 1 (by decide) mw_216 rfl dc_W_typeThatHarmsByRaising_85 ?_
        refine lv_iload hx hb dc_W_typeThatHarmsByRaising_88 (lv_at hl 5 rfl) ?_
        refine lv_iload hx hb dc_W_typeThatHarmsByRaising_90 (lv_at hl 0 rfl) ?_
        refine lv_aload_n hx hb dc_W_typeThatHarmsByRaising_92 rfl (lv_at hl 2 rfl) ?_
        refine ow_get hx hb hts iw_P hown hB k1 rfl 1 (by decide) mw_44 rfl dc_W_typeThatHarmsByRaising_93 ?_
        refine lv_iload hx hb dc_W_typeThatHarmsByRaising_96 (lv_at hl 5 rfl) ?_
        refine ow_iald hx hb hB (ly_P_voters hG k1) hi1 dc_W_typeThatHarmsByRaising_98 ?_
        refine ow_callv (va_runV (As := [.int x4, .int (M.1 (o1 + 1) x4.toNatClampNeg), .int (M5.1 (o1 + 2) x4.toNatClampNeg)]) (rest := []) ⟨hx, hb, hml, hown, hts⟩ (ct_P_replace l G hG D cA ad F _ (ly_W_trial hG k0) _ _ _ _ _ h) ⟨ow_cb 3 hts mw_469 mw_2 mw_685 rfl rfl hd_P_replace ⟨Nat.le_of_ble_eq_true rfl, Nat.le_of_ble_eq_true rfl⟩, hts _ mw_467, hts _ mw_468⟩ (ow_preV hB (ly_W_trial hG k0) rfl) rfl rfl hl.1 rfl (lv_room (Nat.le_of_ble_eq_true rfl)) dc_W_typeThatHarmsByRaising_99 ⟨Nat.zero_le _, Nat.zero_le _⟩) hB (fun M7 H locs h hB => ?_)
        refine lv_iinc hx hb dc_W_typeThatHarmsByRaising_102 hl (k := 5) rfl rfl (by decide) rfl (fun ls hl => ?_)
        refine lv_goto hx hb dc_W_typeThatHarmsByRaising_105 rfl ?_
        exact hK21 _ _ _ _ _ h hB (lv_sub hl [2, 3, 4, 5, 0] rfl)
      · have h := h2 hc
        refine lv_iload hx hb dc_W_typeThatHarmsByRaising_81 (lv_at hl 5 rfl) ?_
        exact ow_iret hx hb hr hlocks hB h dc_W_typeThatHarmsByRaising_83
  have L21 : ∀ (x3 : Int32)  (M : om_M) (x4 : Int32) (H : Heap) (locs : List Loc) (ls : Array Slot), wp_W_typeThatHarmsByRaising_21 F o0 o1 x2 Q x3  M x4 → ow_B G D cA ad (ow_A G ad) M s s.heap H locs → lv_has ls 6 [(0, .ref (ad o0)), (1, .ref (ad o1)), (2, .int x2), (3, .int x3), (4, .int x4)] → W p l e rm_W_typeThatHarmsByRaising s m ([.ref (ad o0), .ref (ad o1), .int x2] : List Value).toArray below meth c H locs 0 0 (MQ below (ow_Qi G D cA ad Q) ([.ref (ad o0), .ref (ad o1), .int x2] : List Value).toArray s 0 0 (ow_A G ad)) (F0 m 21 ls []) := by
    intro x3 
    have step : ∀ (k : Nat) (M : om_M) (x4 : Int32) (H : Heap) (locs : List Loc) (ls : Array Slot), ow_lp (fun (z : om_M × Int32) K => wp_W_typeThatHarmsByRaising_21b F o0 o1 x2 Q x3  K z.1 z.2) k (M, x4) → ow_B G D cA ad (ow_A G ad) M s s.heap H locs → lv_has ls 6 [(0, .ref (ad o0)), (1, .ref (ad o1)), (2, .int x2), (3, .int x3), (4, .int x4)] → W p l e rm_W_typeThatHarmsByRaising s m ([.ref (ad o0), .ref (ad o1), .int x2] : List Value).toArray below meth c H locs 0 0 (MQ below (ow_Qi G D cA ad Q) ([.ref (ad o0), .ref (ad o1), .int x2] : List Value).toArray s 0 0 (ow_A G ad)) (F0 m 21 ls []) := by
      intro k
      induction k with
      | zero => intro M x4 H locs ls h hB hl; exact False.elim h
      | succ k ih => intro M x4 H locs ls h hB hl; exact B21 x3  (ow_lp _ k) (fun M x4 H locs ls h hB  hl => ih M x4  H locs ls h hB hl) M x4 H locs ls h hB hl
    intro M x4 H locs ls h hB hl
    exact step F M x4 H locs ls h hB hl
  have hl := lv_entry ([.ref (ad o0), .ref (ad o1), .int x2]) (n := 6) (Nat.le_of_ble_eq_true rfl)
  rw [lg_entry_eq]
  generalize (lg_sl ([.ref (ad o0), .ref (ad o1), .int x2]) ++ List.replicate (6 - (lg_sl ([.ref (ad o0), .ref (ad o1), .int x2])).length) Slot.unset).toArray = ls at hl ⊢
  have hl : lv_has ls 6 [(0, .ref (ad o0)), (1, .ref (ad o1)), (2, .int x2)] := hl
  show W p l e rm_W_typeThatHarmsByRaising s m _ below meth c s.heap [] 0 0 _ _
  refine lv_aload_n hx hb dc_W_typeThatHarmsByRaising_0 rfl (lv_at hl 0 rfl) ?_
  refine ow_get hx hb hts iw_W hown hB k0 rfl 0 (by decide) mw_214 rfl dc_W_typeThatHarmsByRaising_1 ?_
  refine lv_aload_n hx hb dc_W_typeThatHarmsByRaising_4 rfl (lv_at hl 1 rfl) ?_
  refine lv_iload_n hx hb dc_W_typeThatHarmsByRaising_5 rfl (lv_at hl 2 rfl) ?_
  refine ow_calli (va_runV (As := [.ref (ad o1), .int x2]) (rest := []) ⟨hx, hb, hml, hown, hts⟩ (ct_R_theWinner l G hG D cA ad F _ (ly_W_rules hG k0) _ k1 _ _ _ h) ⟨ow_cb 2 hts mw_615 mw_6 mw_673 rfl rfl hd_R_theWinner ⟨Nat.le_of_ble_eq_true rfl, Nat.le_of_ble_eq_true rfl⟩, hts _ mw_613, hts _ mw_614⟩ (ow_preV hB (ly_W_rules hG k0) rfl) rfl rfl hl.1 rfl (lv_room (Nat.le_of_ble_eq_true rfl)) dc_W_typeThatHarmsByRaising_6 ⟨Nat.zero_le _, Nat.zero_le _⟩) hB (fun r9 M8 H locs h hB => ?_)
  refine lv_istore_n hx hb dc_W_typeThatHarmsByRaising_9 rfl hl (by decide) rfl (fun ls hl => ?_)
  refine lv_aload_n hx hb dc_W_typeThatHarmsByRaising_10 rfl (lv_at hl 1 rfl) ?_
  refine ow_get hx hb hts iw_W hown hB k0 rfl 1 (by decide) mw_216 rfl dc_W_typeThatHarmsByRaising_11 ?_
  refine lv_aload_n hx hb dc_W_typeThatHarmsByRaising_14 rfl (lv_at hl 2 rfl) ?_
  refine ow_callv (va_runV (As := [.ref (ad o1)]) (rest := []) ⟨hx, hb, hml, hown, hts⟩ (ct_P_copy l G hG D cA ad F _ (ly_W_trial hG k0) _ k1 _ _ h) ⟨ow_cb 1 hts mw_680 mw_2 mw_677 rfl rfl hd_P_copy ⟨Nat.le_of_ble_eq_true rfl, Nat.le_of_ble_eq_true rfl⟩, hts _ mw_678, hts _ mw_679⟩ (ow_preV hB (ly_W_trial hG k0) rfl) rfl rfl hl.1 rfl (lv_room (Nat.le_of_ble_eq_true rfl)) dc_W_typeThatHarmsByRaising_15 ⟨Nat.zero_le _, Nat.zero_le _⟩) hB (fun M10 H locs h hB => ?_)
  refine lv_iconst (v := 0) hx hb dc_W_typeThatHarmsByRaising_18 rfl ?_
  refine lv_istore hx hb dc_W_typeThatHarmsByRaising_19 hl (by decide) rfl (fun ls hl => ?_)
  exact L21 _ _ _ _ _ _ h hB (lv_sub hl [2, 3, 4, 1, 0] rfl)
abbrev rm_W_typeThatHarmsByJoining : Room := { frames := 6, cells := 0, slots := 0, locals := 143 }
theorem hd_W_typeThatHarmsByJoining : yn_W_typeThatHarmsByJoining.cls ≠ "java/lang/invoke/MethodHandle" ∧ yn_W_typeThatHarmsByJoining.cls ≠ "java/lang/invoke/VarHandle" ∧ (parseMethodDescriptor yn_W_typeThatHarmsByJoining.desc).map (fun d => d.parameters.length) = some 2 := by decide +kernel
set_option maxHeartbeats 4000000 in
set_option maxRecDepth 100000 in
theorem ct_W_typeThatHarmsByJoining (l : Launch) (G : List (Nat × Nat)) (hG : ow_lay G) (D : va_G) (cA : Nat → ClassId) (ad : Nat → Nat) (F : Nat) (o0 : Nat) (k0 : ow_kd G o0 = (3, 7)) (o1 : Nat) (k1 : ow_kd G o1 = (3, 1)) (x2 : Int32) (M : om_M) (Q : Int32 → om_M → Prop) (h : wp_W_typeThatHarmsByJoining F o0 o1 x2 M Q) : Met l yn_W_typeThatHarmsByJoining (ow_ws yn_W_typeThatHarmsByJoining cb_W_typeThatHarmsByJoining 6 (some .int)) rm_W_typeThatHarmsByJoining (ow_Pc G D cA ad M [.ref (ad o0), .ref (ad o1), .int x2]) (ow_Qi G D cA ad Q) 0 0 (ow_A G ad) := by
  refine Met.ofW (cc := cb_W_typeThatHarmsByJoining) (maxL := 6) (ret := (some .int)) (by decide) rfl ?_
  intro p e s m args below meth c s₁ B hml hv
  obtain ⟨rfl, hB⟩ := hv
  have hx := B.exec
  have hb := B.bytes
  have hr := B.returns
  have hlocks := B.notSynchronized
  have hts : ∀ w ∈ lw_g, w.before ([.ref (ad o0), .ref (ad o1), .int x2] : List Value).toArray s = true := fun w h => atoms_spec (ws := ow_ws yn_W_typeThatHarmsByJoining cb_W_typeThatHarmsByJoining 6 (some .int)) B.pre w (List.mem_cons_of_mem _ h)
  have hown : s.vm.findClass "BallotDesk$WhatIf" = some m.cls := findClass_of_methodNamed B.named
  clear B
  have L106 : ∀ (x3 : Int32) (K21 : om_M × Int32 → Prop) (hK21 : ∀ (M : om_M) (x4 : Int32) (H : Heap) (locs : List Loc) (ls : Array Slot), K21 (M, x4) → ow_B G D cA ad (ow_A G ad) M s s.heap H locs → lv_has ls 6 [(0, .ref (ad o0)), (1, .ref (ad o1)), (2, .int x2), (3, .int x3), (4, .int x4)] → W p l e rm_W_typeThatHarmsByJoining s m ([.ref (ad o0), .ref (ad o1), .int x2] : List Value).toArray below meth c H locs 0 0 (MQ below (ow_Qi G D cA ad Q) ([.ref (ad o0), .ref (ad o1), .int x2] : List Value).toArray s 0 0 (ow_A G ad)) (F0 m 21 ls [])) (M : om_M) (x4 : Int32)  (H : Heap) (locs : List Loc) (ls : Array Slot), wp_W_typeThatHarmsByJoining_106 F o0 o1 x2 Q x3 K21 M x4  → ow_B G D cA ad (ow_A G ad) M s s.heap H locs → lv_has ls 6 [(0, .ref (ad o0)), (1, .ref (ad o1)), (2, .int x2), (3, .int x3), (4, .int x4)] → W p l e rm_W_typeThatHarmsByJoining s m ([.ref (ad o0), .ref (ad o1), .int x2] : List Value).toArray below meth c H locs 0 0 (MQ below (ow_Qi G D cA ad Q) ([.ref (ad o0), .ref (ad o1), .int x2] : List Value).toArray s 0 0 (ow_A G ad)) (F0 m 106 ls []) := by
    intro x3 K21 hK21 M x4 H locs ls h hB hl
    refine lv_iinc hx hb dc_W_typeThatHarmsByJoining_106 hl (k := 4) rfl rfl (by decide) rfl (fun ls hl => ?_)
    refine lv_goto hx hb dc_W_typeThatHarmsByJoining_109 rfl ?_
    exact hK21 _ _ _ _ _ h hB (lv_sub hl [1, 2, 3, 4, 0] rfl)
  have B21 : ∀ (x3 : Int32)  (K21 : om_M × Int32 → Prop) (hK21 : ∀ (M : om_M) (x4 : Int32) (H : Heap) (locs : List Loc) (ls : Array Slot), K21 (M, x4) → ow_B G D cA ad (ow_A G ad) M s s.heap H locs → lv_has ls 6 [(0, .ref (ad o0)), (1, .ref (ad o1)), (2, .int x2), (3, .int x3), (4, .int x4)] → W p l e rm_W_typeThatHarmsByJoining s m ([.ref (ad o0), .ref (ad o1), .int x2] : List Value).toArray below meth c H locs 0 0 (MQ below (ow_Qi G D cA ad Q) ([.ref (ad o0), .ref (ad o1), .int x2] : List Value).toArray s 0 0 (ow_A G ad)) (F0 m 21 ls [])) (M : om_M) (x4 : Int32) (H : Heap) (locs : List Loc) (ls : Array Slot), wp_W_typeThatHarmsByJoining_21b F o0 o1 x2 Q x3  K21 M x4 → ow_B G D cA ad (ow_A G ad) M s s.heap H locs → lv_has ls 6 [(0, .ref (ad o0)), (1, .ref (ad o1)), (2, .int x2), (3, .int x3), (4, .int x4)] → W p l e rm_W_typeThatHarmsByJoining s m ([.ref (ad o0), .ref (ad o1), .int x2] : List Value).toArray below meth c H locs 0 0 (MQ below (ow_Qi G D cA ad Q) ([.ref (ad o0), .ref (ad o1), .int x2] : List Value).toArray s 0 0 (ow_A G ad)) (F0 m 21 ls []) := by
    intro x3  K21 hK21 M x4 H locs ls h hB hl
    refine lv_iload hx hb dc_W_typeThatHarmsByJoining_21 (lv_at hl 4 rfl) ?_
    refine lv_aload_n hx hb dc_W_typeThatHarmsByJoining_23 rfl (lv_at hl 1 rfl) ?_
    refine ow_get hx hb hts iw_P hown hB k1 rfl 6 (by decide) mw_70 rfl dc_W_typeThatHarmsByJoining_24 ?_
    obtain ⟨h1, h2⟩ := h
    refine lv_icmp_ge hx hb dc_W_typeThatHarmsByJoining_27 rfl (fun hc => ?_) (fun hc => ?_)
    · have h := h1 hc
      refine lv_iconst (v := (-1)) hx hb dc_W_typeThatHarmsByJoining_112 rfl ?_
      exact ow_iret hx hb hr hlocks hB h dc_W_typeThatHarmsByJoining_113
    · have h := h2 hc
      refine lv_aload_n hx hb dc_W_typeThatHarmsByJoining_30 rfl (lv_at hl 1 rfl) ?_
      refine ow_get hx hb hts iw_P hown hB k1 rfl 0 (by decide) mw_40 rfl dc_W_typeThatHarmsByJoining_31 ?_
      refine lv_iload hx hb dc_W_typeThatHarmsByJoining_34 (lv_at hl 4 rfl) ?_
      obtain ⟨hi1, h⟩ := h
      refine ow_iald hx hb hB (ly_P_orders hG k1) hi1 dc_W_typeThatHarmsByJoining_36 ?_
      refine lv_istore hx hb dc_W_typeThatHarmsByJoining_37 hl (by decide) rfl (fun ls hl => ?_)
      refine lv_iload hx hb dc_W_typeThatHarmsByJoining_39 (lv_at hl 0 rfl) ?_
      refine lv_iconst (v := 0) hx hb dc_W_typeThatHarmsByJoining_41 rfl ?_
      refine ow_calli (va_runS (As := [.int (M.1 (o1 + 1) x4.toNatClampNeg), .int 0]) (rest := []) ⟨hx, hb, hml, hown, hts⟩ (ct_O_at l G hG D cA ad F _ _ _ _ h) ⟨ow_cb 2 hts mw_314 mw_3 mw_734 rfl rfl hd_O_at ⟨Nat.le_of_ble_eq_true rfl, Nat.le_of_ble_eq_true rfl⟩, hts _ mw_313⟩ (ow_preS hB) rfl rfl hl.1 rfl (lv_room (Nat.le_of_ble_eq_true rfl)) dc_W_typeThatHarmsByJoining_42 ⟨Nat.zero_le _, Nat.zero_le _⟩) hB (fun r3 M2 H locs h hB => ?_)
      refine lv_iload_n hx hb dc_W_typeThatHarmsByJoining_45 rfl (lv_at hl 4 rfl) ?_
      obtain ⟨h1, h2⟩ := h
      refine lv_icmp_ne hx hb dc_W_typeThatHarmsByJoining_46 rfl (fun hc => ?_) (fun hc => ?_)
      · have h := h2 hc
        exact L106 _ K21 hK21 _ _ _ _ _ h hB (lv_sub hl [1, 2, 3, 4, 5] rfl)
      · have h := h1 hc
        refine lv_aload_n hx hb dc_W_typeThatHarmsByJoining_49 rfl (lv_at hl 1 rfl) ?_
        refine ow_get hx hb hts iw_W hown hB k0 rfl 1 (by decide) mw_216 rfl dc_W_typeThatHarmsByJoining_50 ?_
        refine lv_iload hx hb dc_W_typeThatHarmsByJoining_53 (lv_at hl 5 rfl) ?_
        refine lv_iload hx hb dc_W_typeThatHarmsByJoining_55 (lv_at hl 0 rfl) ?_
        refine lv_aload_n hx hb dc_W_typeThatHarmsByJoining_57 rfl (lv_at hl 2 rfl) ?_
        refine ow_get hx hb hts iw_P hown hB k1 rfl 1 (by decide) mw_44 rfl dc_W_typeThatHarmsByJoining_58 ?_
        refine lv_iload hx hb dc_W_typeThatHarmsByJoining_61 (lv_at hl 5 rfl) ?_
        refine ow_iald hx hb hB (ly_P_voters hG k1) hi1 dc_W_typeThatHarmsByJoining_63 ?_
        refine lv_iconst (v := 1) hx hb dc_W_typeThatHarmsByJoining_64 rfl ?_
        refine lv_iadd hx hb dc_W_typeThatHarmsByJoining_65 ?_
        refine ow_callv (va_runV (As := [.int x4, .int (M.1 (o1 + 1) x4.toNatClampNeg), .int ((M2.1 (o1 + 2) x4.toNatClampNeg) + 1)]) (rest := []) ⟨hx, hb, hml, hown, hts⟩ (ct_P_replace l G hG D cA ad F _ (ly_W_trial hG k0) _ _ _ _ _ h) ⟨ow_cb 3 hts mw_469 mw_2 mw_685 rfl rfl hd_P_replace ⟨Nat.le_of_ble_eq_true rfl, Nat.le_of_ble_eq_true rfl⟩, hts _ mw_467, hts _ mw_468⟩ (ow_preV hB (ly_W_trial hG k0) rfl) rfl rfl hl.1 rfl (lv_room (Nat.le_of_ble_eq_true rfl)) dc_W_typeThatHarmsByJoining_66 ⟨Nat.zero_le _, Nat.zero_le _⟩) hB (fun M4 H locs h hB => ?_)
        refine lv_aload_n hx hb dc_W_typeThatHarmsByJoining_69 rfl (lv_at hl 1 rfl) ?_
        refine ow_get hx hb hts iw_W hown hB k0 rfl 0 (by decide) mw_214 rfl dc_W_typeThatHarmsByJoining_70 ?_
        refine lv_aload_n hx hb dc_W_typeThatHarmsByJoining_73 rfl (lv_at hl 1 rfl) ?_
        refine ow_get hx hb hts iw_W hown hB k0 rfl 1 (by decide) mw_216 rfl dc_W_typeThatHarmsByJoining_74 ?_
        refine lv_iload_n hx hb dc_W_typeThatHarmsByJoining_77 rfl (lv_at hl 3 rfl) ?_
        refine ow_calli (va_runV (As := [.ref (ad (o0 + 28)), .int x2]) (rest := []) ⟨hx, hb, hml, hown, hts⟩ (ct_R_theWinner l G hG D cA ad F _ (ly_W_rules hG k0) _ (ly_W_trial hG k0) _ _ _ h) ⟨ow_cb 2 hts mw_615 mw_6 mw_673 rfl rfl hd_R_theWinner ⟨Nat.le_of_ble_eq_true rfl, Nat.le_of_ble_eq_true rfl⟩, hts _ mw_613, hts _ mw_614⟩ (ow_preV hB (ly_W_rules hG k0) rfl) rfl rfl hl.1 rfl (lv_room (Nat.le_of_ble_eq_true rfl)) dc_W_typeThatHarmsByJoining_78 ⟨Nat.zero_le _, Nat.zero_le _⟩) hB (fun r6 M5 H locs h hB => ?_)
        refine lv_iload_n hx hb dc_W_typeThatHarmsByJoining_81 rfl (lv_at hl 4 rfl) ?_
        obtain ⟨h1, h2⟩ := h
        refine lv_icmp_eq hx hb dc_W_typeThatHarmsByJoining_82 rfl (fun hc => ?_) (fun hc => ?_)
        · have h := h1 hc
          refine lv_aload_n hx hb dc_W_typeThatHarmsByJoining_88 rfl (lv_at hl 1 rfl) ?_
          refine ow_get hx hb hts iw_W hown hB k0 rfl 1 (by decide) mw_216 rfl dc_W_typeThatHarmsByJoining_89 ?_
          refine lv_iload hx hb dc_W_typeThatHarmsByJoining_92 (lv_at hl 5 rfl) ?_
          refine lv_iload hx hb dc_W_typeThatHarmsByJoining_94 (lv_at hl 0 rfl) ?_
          refine lv_aload_n hx hb dc_W_typeThatHarmsByJoining_96 rfl (lv_at hl 2 rfl) ?_
          refine ow_get hx hb hts iw_P hown hB k1 rfl 1 (by decide) mw_44 rfl dc_W_typeThatHarmsByJoining_97 ?_
          refine lv_iload hx hb dc_W_typeThatHarmsByJoining_100 (lv_at hl 5 rfl) ?_
          refine ow_iald hx hb hB (ly_P_voters hG k1) hi1 dc_W_typeThatHarmsByJoining_102 ?_
          refine ow_callv (va_runV (As := [.int x4, .int (M.1 (o1 + 1) x4.toNatClampNeg), .int (M5.1 (o1 + 2) x4.toNatClampNeg)]) (rest := []) ⟨hx, hb, hml, hown, hts⟩ (ct_P_replace l G hG D cA ad F _ (ly_W_trial hG k0) _ _ _ _ _ h) ⟨ow_cb 3 hts mw_469 mw_2 mw_685 rfl rfl hd_P_replace ⟨Nat.le_of_ble_eq_true rfl, Nat.le_of_ble_eq_true rfl⟩, hts _ mw_467, hts _ mw_468⟩ (ow_preV hB (ly_W_trial hG k0) rfl) rfl rfl hl.1 rfl (lv_room (Nat.le_of_ble_eq_true rfl)) dc_W_typeThatHarmsByJoining_103 ⟨Nat.zero_le _, Nat.zero_le _⟩) hB (fun M7 H locs h hB => ?_)
          exact L106 _ K21 hK21 _ _ _ _ _ h hB (lv_sub hl [1, 2, 3, 4, 5] rfl)
        · have h := h2 hc
          refine lv_iload hx hb dc_W_typeThatHarmsByJoining_85 (lv_at hl 5 rfl) ?_
          exact ow_iret hx hb hr hlocks hB h dc_W_typeThatHarmsByJoining_87
  have L21 : ∀ (x3 : Int32)  (M : om_M) (x4 : Int32) (H : Heap) (locs : List Loc) (ls : Array Slot), wp_W_typeThatHarmsByJoining_21 F o0 o1 x2 Q x3  M x4 → ow_B G D cA ad (ow_A G ad) M s s.heap H locs → lv_has ls 6 [(0, .ref (ad o0)), (1, .ref (ad o1)), (2, .int x2), (3, .int x3), (4, .int x4)] → W p l e rm_W_typeThatHarmsByJoining s m ([.ref (ad o0), .ref (ad o1), .int x2] : List Value).toArray below meth c H locs 0 0 (MQ below (ow_Qi G D cA ad Q) ([.ref (ad o0), .ref (ad o1), .int x2] : List Value).toArray s 0 0 (ow_A G ad)) (F0 m 21 ls []) := by
    intro x3 
    have step : ∀ (k : Nat) (M : om_M) (x4 : Int32) (H : Heap) (locs : List Loc) (ls : Array Slot), ow_lp (fun (z : om_M × Int32) K => wp_W_typeThatHarmsByJoining_21b F o0 o1 x2 Q x3  K z.1 z.2) k (M, x4) → ow_B G D cA ad (ow_A G ad) M s s.heap H locs → lv_has ls 6 [(0, .ref (ad o0)), (1, .ref (ad o1)), (2, .int x2), (3, .int x3), (4, .int x4)] → W p l e rm_W_typeThatHarmsByJoining s m ([.ref (ad o0), .ref (ad o1), .int x2] : List Value).toArray below meth c H locs 0 0 (MQ below (ow_Qi G D cA ad Q) ([.ref (ad o0), .ref (ad o1), .int x2] : List Value).toArray s 0 0 (ow_A G ad)) (F0 m 21 ls []) := by
      intro k
      induction k with
      | zero => intro M x4 H locs ls h hB hl; exact False.elim h
      | succ k ih => intro M x4 H locs ls h hB hl; exact B21 x3  (ow_lp _ k) (fun M x4 H locs ls h hB  hl => ih M x4  H locs ls h hB hl) M x4 H locs ls h hB hl
    intro M x4 H locs ls h hB hl
    exact step F M x4 H locs ls h hB hl
  have hl := lv_entry ([.ref (ad o0), .ref (ad o1), .int x2]) (n := 6) (Nat.le_of_ble_eq_true rfl)
  rw [lg_entry_eq]
  generalize (lg_sl ([.ref (ad o0), .ref (ad o1), .int x2]) ++ List.replicate (6 - (lg_sl ([.ref (ad o0), .ref (ad o1), .int x2])).length) Slot.unset).toArray = ls at hl ⊢
  have hl : lv_has ls 6 [(0, .ref (ad o0)), (1, .ref (ad o1)), (2, .int x2)] := hl
  show W p l e rm_W_typeThatHarmsByJoining s m _ below meth c s.heap [] 0 0 _ _
  refine lv_aload_n hx hb dc_W_typeThatHarmsByJoining_0 rfl (lv_at hl 0 rfl) ?_
  refine ow_get hx hb hts iw_W hown hB k0 rfl 0 (by decide) mw_214 rfl dc_W_typeThatHarmsByJoining_1 ?_
  refine lv_aload_n hx hb dc_W_typeThatHarmsByJoining_4 rfl (lv_at hl 1 rfl) ?_
  refine lv_iload_n hx hb dc_W_typeThatHarmsByJoining_5 rfl (lv_at hl 2 rfl) ?_
  refine ow_calli (va_runV (As := [.ref (ad o1), .int x2]) (rest := []) ⟨hx, hb, hml, hown, hts⟩ (ct_R_theWinner l G hG D cA ad F _ (ly_W_rules hG k0) _ k1 _ _ _ h) ⟨ow_cb 2 hts mw_615 mw_6 mw_673 rfl rfl hd_R_theWinner ⟨Nat.le_of_ble_eq_true rfl, Nat.le_of_ble_eq_true rfl⟩, hts _ mw_613, hts _ mw_614⟩ (ow_preV hB (ly_W_rules hG k0) rfl) rfl rfl hl.1 rfl (lv_room (Nat.le_of_ble_eq_true rfl)) dc_W_typeThatHarmsByJoining_6 ⟨Nat.zero_le _, Nat.zero_le _⟩) hB (fun r9 M8 H locs h hB => ?_)
  refine lv_istore_n hx hb dc_W_typeThatHarmsByJoining_9 rfl hl (by decide) rfl (fun ls hl => ?_)
  refine lv_aload_n hx hb dc_W_typeThatHarmsByJoining_10 rfl (lv_at hl 1 rfl) ?_
  refine ow_get hx hb hts iw_W hown hB k0 rfl 1 (by decide) mw_216 rfl dc_W_typeThatHarmsByJoining_11 ?_
  refine lv_aload_n hx hb dc_W_typeThatHarmsByJoining_14 rfl (lv_at hl 2 rfl) ?_
  refine ow_callv (va_runV (As := [.ref (ad o1)]) (rest := []) ⟨hx, hb, hml, hown, hts⟩ (ct_P_copy l G hG D cA ad F _ (ly_W_trial hG k0) _ k1 _ _ h) ⟨ow_cb 1 hts mw_680 mw_2 mw_677 rfl rfl hd_P_copy ⟨Nat.le_of_ble_eq_true rfl, Nat.le_of_ble_eq_true rfl⟩, hts _ mw_678, hts _ mw_679⟩ (ow_preV hB (ly_W_trial hG k0) rfl) rfl rfl hl.1 rfl (lv_room (Nat.le_of_ble_eq_true rfl)) dc_W_typeThatHarmsByJoining_15 ⟨Nat.zero_le _, Nat.zero_le _⟩) hB (fun M10 H locs h hB => ?_)
  refine lv_iconst (v := 0) hx hb dc_W_typeThatHarmsByJoining_18 rfl ?_
  refine lv_istore hx hb dc_W_typeThatHarmsByJoining_19 hl (by decide) rfl (fun ls hl => ?_)
  exact L21 _ _ _ _ _ _ h hB (lv_sub hl [2, 3, 4, 1, 0] rfl)
abbrev rm_W_loserThatHarmsByLeaving : Room := { frames := 6, cells := 0, slots := 0, locals := 143 }
theorem hd_W_loserThatHarmsByLeaving : yn_W_loserThatHarmsByLeaving.cls ≠ "java/lang/invoke/MethodHandle" ∧ yn_W_loserThatHarmsByLeaving.cls ≠ "java/lang/invoke/VarHandle" ∧ (parseMethodDescriptor yn_W_loserThatHarmsByLeaving.desc).map (fun d => d.parameters.length) = some 2 := by decide +kernel
set_option maxHeartbeats 4000000 in
set_option maxRecDepth 100000 in
theorem ct_W_loserThatHarmsByLeaving (l : Launch) (G : List (Nat × Nat)) (hG : ow_lay G) (D : va_G) (cA : Nat → ClassId) (ad : Nat → Nat) (F : Nat) (o0 : Nat) (k0 : ow_kd G o0 = (3, 7)) (o1 : Nat) (k1 : ow_kd G o1 = (3, 1)) (x2 : Int32) (M : om_M) (Q : Int32 → om_M → Prop) (h : wp_W_loserThatHarmsByLeaving F o0 o1 x2 M Q) : Met l yn_W_loserThatHarmsByLeaving (ow_ws yn_W_loserThatHarmsByLeaving cb_W_loserThatHarmsByLeaving 6 (some .int)) rm_W_loserThatHarmsByLeaving (ow_Pc G D cA ad M [.ref (ad o0), .ref (ad o1), .int x2]) (ow_Qi G D cA ad Q) 0 0 (ow_A G ad) := by
  refine Met.ofW (cc := cb_W_loserThatHarmsByLeaving) (maxL := 6) (ret := (some .int)) (by decide) rfl ?_
  intro p e s m args below meth c s₁ B hml hv
  obtain ⟨rfl, hB⟩ := hv
  have hx := B.exec
  have hb := B.bytes
  have hr := B.returns
  have hlocks := B.notSynchronized
  have hts : ∀ w ∈ lw_g, w.before ([.ref (ad o0), .ref (ad o1), .int x2] : List Value).toArray s = true := fun w h => atoms_spec (ws := ow_ws yn_W_loserThatHarmsByLeaving cb_W_loserThatHarmsByLeaving 6 (some .int)) B.pre w (List.mem_cons_of_mem _ h)
  have hown : s.vm.findClass "BallotDesk$WhatIf" = some m.cls := findClass_of_methodNamed B.named
  clear B
  have L83 : ∀ (x3 : Int32) (x4 : Int32) (K30 : om_M × Int32 → Prop) (hK30 : ∀ (M : om_M) (x5 : Int32) (H : Heap) (locs : List Loc) (ls : Array Slot), K30 (M, x5) → ow_B G D cA ad (ow_A G ad) M s s.heap H locs → lv_has ls 6 [(0, .ref (ad o0)), (1, .ref (ad o1)), (2, .int x2), (3, .int x3), (4, .int x4), (5, .int x5)] → W p l e rm_W_loserThatHarmsByLeaving s m ([.ref (ad o0), .ref (ad o1), .int x2] : List Value).toArray below meth c H locs 0 0 (MQ below (ow_Qi G D cA ad Q) ([.ref (ad o0), .ref (ad o1), .int x2] : List Value).toArray s 0 0 (ow_A G ad)) (F0 m 30 ls [])) (M : om_M) (x5 : Int32)  (H : Heap) (locs : List Loc) (ls : Array Slot), wp_W_loserThatHarmsByLeaving_83 F o0 o1 x2 Q x3 x4 K30 M x5  → ow_B G D cA ad (ow_A G ad) M s s.heap H locs → lv_has ls 6 [(0, .ref (ad o0)), (1, .ref (ad o1)), (2, .int x2), (3, .int x3), (4, .int x4), (5, .int x5)] → W p l e rm_W_loserThatHarmsByLeaving s m ([.ref (ad o0), .ref (ad o1), .int x2] : List Value).toArray below meth c H locs 0 0 (MQ below (ow_Qi G D cA ad Q) ([.ref (ad o0), .ref (ad o1), .int x2] : List Value).toArray s 0 0 (ow_A G ad)) (F0 m 83 ls []) := by
    intro x3 x4 K30 hK30 M x5 H locs ls h hB hl
    refine lv_iinc hx hb dc_W_loserThatHarmsByLeaving_83 hl (k := 5) rfl rfl (by decide) rfl (fun ls hl => ?_)
    refine lv_goto hx hb dc_W_loserThatHarmsByLeaving_86 rfl ?_
    exact hK30 _ _ _ _ _ h hB (lv_sub hl [1, 2, 3, 4, 5, 0] rfl)
  have B30 : ∀ (x3 : Int32) (x4 : Int32)  (K30 : om_M × Int32 → Prop) (hK30 : ∀ (M : om_M) (x5 : Int32) (H : Heap) (locs : List Loc) (ls : Array Slot), K30 (M, x5) → ow_B G D cA ad (ow_A G ad) M s s.heap H locs → lv_has ls 6 [(0, .ref (ad o0)), (1, .ref (ad o1)), (2, .int x2), (3, .int x3), (4, .int x4), (5, .int x5)] → W p l e rm_W_loserThatHarmsByLeaving s m ([.ref (ad o0), .ref (ad o1), .int x2] : List Value).toArray below meth c H locs 0 0 (MQ below (ow_Qi G D cA ad Q) ([.ref (ad o0), .ref (ad o1), .int x2] : List Value).toArray s 0 0 (ow_A G ad)) (F0 m 30 ls [])) (M : om_M) (x5 : Int32) (H : Heap) (locs : List Loc) (ls : Array Slot), wp_W_loserThatHarmsByLeaving_30b F o0 o1 x2 Q x3 x4  K30 M x5 → ow_B G D cA ad (ow_A G ad) M s s.heap H locs → lv_has ls 6 [(0, .ref (ad o0)), (1, .ref (ad o1)), (2, .int x2), (3, .int x3), (4, .int x4), (5, .int x5)] → W p l e rm_W_loserThatHarmsByLeaving s m ([.ref (ad o0), .ref (ad o1), .int x2] : List Value).toArray below meth c H locs 0 0 (MQ below (ow_Qi G D cA ad Q) ([.ref (ad o0), .ref (ad o1), .int x2] : List Value).toArray s 0 0 (ow_A G ad)) (F0 m 30 ls []) := by
    intro x3 x4  K30 hK30 M x5 H locs ls h hB hl
    refine lv_iload hx hb dc_W_loserThatHarmsByLeaving_30 (lv_at hl 5 rfl) ?_
    refine lv_aload_n hx hb dc_W_loserThatHarmsByLeaving_32 rfl (lv_at hl 1 rfl) ?_
    refine ow_get hx hb hts iw_P hown hB k1 rfl 5 (by decide) mw_62 rfl dc_W_loserThatHarmsByLeaving_33 ?_
    obtain ⟨h1, h2⟩ := h
    refine lv_icmp_ge hx hb dc_W_loserThatHarmsByLeaving_36 rfl (fun hc => ?_) (fun hc => ?_)
    · have h := h1 hc
      refine lv_iconst (v := (-1)) hx hb dc_W_loserThatHarmsByLeaving_89 rfl ?_
      exact ow_iret hx hb hr hlocks hB h dc_W_loserThatHarmsByLeaving_90
    · have h := h2 hc
      refine lv_iload_n hx hb dc_W_loserThatHarmsByLeaving_39 rfl (lv_at hl 3 rfl) ?_
      refine lv_iload hx hb dc_W_loserThatHarmsByLeaving_40 (lv_at hl 5 rfl) ?_
      refine lv_ishr hx hb dc_W_loserThatHarmsByLeaving_42 ?_
      refine lv_iconst (v := 1) hx hb dc_W_loserThatHarmsByLeaving_43 rfl ?_
      refine lv_iand hx hb dc_W_loserThatHarmsByLeaving_44 ?_
      obtain ⟨h1, h2⟩ := h
      refine lv_if_ne hx hb dc_W_loserThatHarmsByLeaving_45 rfl (fun hc => ?_) (fun hc => ?_)
      · have h := h2 hc
        exact L83 _ _ K30 hK30 _ _ _ _ _ h hB (lv_sub hl [0, 1, 2, 3, 4, 5] rfl)
      · have h := h1 hc
        refine lv_aload_n hx hb dc_W_loserThatHarmsByLeaving_48 rfl (lv_at hl 0 rfl) ?_
        refine ow_get hx hb hts iw_W hown hB k0 rfl 1 (by decide) mw_216 rfl dc_W_loserThatHarmsByLeaving_49 ?_
        refine lv_aload_n hx hb dc_W_loserThatHarmsByLeaving_52 rfl (lv_at hl 1 rfl) ?_
        refine lv_iload hx hb dc_W_loserThatHarmsByLeaving_53 (lv_at hl 5 rfl) ?_
        refine ow_callv (va_runV (As := [.ref (ad o1), .int x5]) (rest := []) ⟨hx, hb, hml, hown, hts⟩ (ct_P_copyWithout l G hG D cA ad F _ (ly_W_trial hG k0) _ k1 _ _ _ h) ⟨ow_cb 2 hts mw_742 mw_2 mw_739 rfl rfl hd_P_copyWithout ⟨Nat.le_of_ble_eq_true rfl, Nat.le_of_ble_eq_true rfl⟩, hts _ mw_740, hts _ mw_741⟩ (ow_preV hB (ly_W_trial hG k0) rfl) rfl rfl hl.1 rfl (lv_room (Nat.le_of_ble_eq_true rfl)) dc_W_loserThatHarmsByLeaving_55 ⟨Nat.zero_le _, Nat.zero_le _⟩) hB (fun M1 H locs h hB => ?_)
        refine lv_aload_n hx hb dc_W_loserThatHarmsByLeaving_58 rfl (lv_at hl 0 rfl) ?_
        refine ow_get hx hb hts iw_W hown hB k0 rfl 0 (by decide) mw_214 rfl dc_W_loserThatHarmsByLeaving_59 ?_
        refine lv_aload_n hx hb dc_W_loserThatHarmsByLeaving_62 rfl (lv_at hl 0 rfl) ?_
        refine ow_get hx hb hts iw_W hown hB k0 rfl 1 (by decide) mw_216 rfl dc_W_loserThatHarmsByLeaving_63 ?_
        refine lv_iload_n hx hb dc_W_loserThatHarmsByLeaving_66 rfl (lv_at hl 2 rfl) ?_
        refine ow_calli (va_runV (As := [.ref (ad (o0 + 28)), .int x2]) (rest := []) ⟨hx, hb, hml, hown, hts⟩ (ct_R_theWinner l G hG D cA ad F _ (ly_W_rules hG k0) _ (ly_W_trial hG k0) _ _ _ h) ⟨ow_cb 2 hts mw_615 mw_6 mw_673 rfl rfl hd_R_theWinner ⟨Nat.le_of_ble_eq_true rfl, Nat.le_of_ble_eq_true rfl⟩, hts _ mw_613, hts _ mw_614⟩ (ow_preV hB (ly_W_rules hG k0) rfl) rfl rfl hl.1 rfl (lv_room (Nat.le_of_ble_eq_true rfl)) dc_W_loserThatHarmsByLeaving_67 ⟨Nat.zero_le _, Nat.zero_le _⟩) hB (fun r3 M2 H locs h hB => ?_)
        refine lv_iload hx hb dc_W_loserThatHarmsByLeaving_70 (lv_at hl 4 rfl) ?_
        refine lv_iload hx hb dc_W_loserThatHarmsByLeaving_72 (lv_at hl 5 rfl) ?_
        refine ow_calli (va_runS (As := [.int x4, .int x5]) (rest := [.int r3]) ⟨hx, hb, hml, hown, hts⟩ (ct_O_numberWithout l G hG D cA ad F _ _ _ _ h) ⟨ow_cb 2 hts mw_748 mw_3 mw_749 rfl rfl hd_O_numberWithout ⟨Nat.le_of_ble_eq_true rfl, Nat.le_of_ble_eq_true rfl⟩, hts _ mw_747⟩ (ow_preS hB) rfl rfl hl.1 rfl (lv_room (Nat.le_of_ble_eq_true rfl)) dc_W_loserThatHarmsByLeaving_74 ⟨Nat.zero_le _, Nat.zero_le _⟩) hB (fun r5 M4 H locs h hB => ?_)
        obtain ⟨h1, h2⟩ := h
        refine lv_icmp_eq hx hb dc_W_loserThatHarmsByLeaving_77 rfl (fun hc => ?_) (fun hc => ?_)
        · have h := h1 hc
          exact L83 _ _ K30 hK30 _ _ _ _ _ h hB (lv_sub hl [0, 1, 2, 3, 4, 5] rfl)
        · have h := h2 hc
          refine lv_iload hx hb dc_W_loserThatHarmsByLeaving_80 (lv_at hl 5 rfl) ?_
          exact ow_iret hx hb hr hlocks hB h dc_W_loserThatHarmsByLeaving_82
  have L30 : ∀ (x3 : Int32) (x4 : Int32)  (M : om_M) (x5 : Int32) (H : Heap) (locs : List Loc) (ls : Array Slot), wp_W_loserThatHarmsByLeaving_30 F o0 o1 x2 Q x3 x4  M x5 → ow_B G D cA ad (ow_A G ad) M s s.heap H locs → lv_has ls 6 [(0, .ref (ad o0)), (1, .ref (ad o1)), (2, .int x2), (3, .int x3), (4, .int x4), (5, .int x5)] → W p l e rm_W_loserThatHarmsByLeaving s m ([.ref (ad o0), .ref (ad o1), .int x2] : List Value).toArray below meth c H locs 0 0 (MQ below (ow_Qi G D cA ad Q) ([.ref (ad o0), .ref (ad o1), .int x2] : List Value).toArray s 0 0 (ow_A G ad)) (F0 m 30 ls []) := by
    intro x3 x4 
    have step : ∀ (k : Nat) (M : om_M) (x5 : Int32) (H : Heap) (locs : List Loc) (ls : Array Slot), ow_lp (fun (z : om_M × Int32) K => wp_W_loserThatHarmsByLeaving_30b F o0 o1 x2 Q x3 x4  K z.1 z.2) k (M, x5) → ow_B G D cA ad (ow_A G ad) M s s.heap H locs → lv_has ls 6 [(0, .ref (ad o0)), (1, .ref (ad o1)), (2, .int x2), (3, .int x3), (4, .int x4), (5, .int x5)] → W p l e rm_W_loserThatHarmsByLeaving s m ([.ref (ad o0), .ref (ad o1), .int x2] : List Value).toArray below meth c H locs 0 0 (MQ below (ow_Qi G D cA ad Q) ([.ref (ad o0), .ref (ad o1), .int x2] : List Value).toArray s 0 0 (ow_A G ad)) (F0 m 30 ls []) := by
      intro k
      induction k with
      | zero => intro M x5 H locs ls h hB hl; exact False.elim h
      | succ k ih => intro M x5 H locs ls h hB hl; exact B30 x3 x4  (ow_lp _ k) (fun M x5 H locs ls h hB  hl => ih M x5  H locs ls h hB hl) M x5 H locs ls h hB hl
    intro M x5 H locs ls h hB hl
    exact step F M x5 H locs ls h hB hl
  have hl := lv_entry ([.ref (ad o0), .ref (ad o1), .int x2]) (n := 6) (Nat.le_of_ble_eq_true rfl)
  rw [lg_entry_eq]
  generalize (lg_sl ([.ref (ad o0), .ref (ad o1), .int x2]) ++ List.replicate (6 - (lg_sl ([.ref (ad o0), .ref (ad o1), .int x2])).length) Slot.unset).toArray = ls at hl ⊢
  have hl : lv_has ls 6 [(0, .ref (ad o0)), (1, .ref (ad o1)), (2, .int x2)] := hl
  show W p l e rm_W_loserThatHarmsByLeaving s m _ below meth c s.heap [] 0 0 _ _
  refine lv_aload_n hx hb dc_W_loserThatHarmsByLeaving_0 rfl (lv_at hl 1 rfl) ?_
  refine ow_get hx hb hts iw_P hown hB k1 rfl 5 (by decide) mw_62 rfl dc_W_loserThatHarmsByLeaving_1 ?_
  refine lv_iconst (v := 2) hx hb dc_W_loserThatHarmsByLeaving_4 rfl ?_
  obtain ⟨h1, h2⟩ := h
  refine lv_icmp_gt hx hb dc_W_loserThatHarmsByLeaving_5 rfl (fun hc => ?_) (fun hc => ?_)
  · have h := h1 hc
    refine lv_aload_n hx hb dc_W_loserThatHarmsByLeaving_10 rfl (lv_at hl 0 rfl) ?_
    refine ow_get hx hb hts iw_W hown hB k0 rfl 0 (by decide) mw_214 rfl dc_W_loserThatHarmsByLeaving_11 ?_
    refine lv_aload_n hx hb dc_W_loserThatHarmsByLeaving_14 rfl (lv_at hl 1 rfl) ?_
    refine lv_iload_n hx hb dc_W_loserThatHarmsByLeaving_15 rfl (lv_at hl 2 rfl) ?_
    refine ow_calli (va_runV (As := [.ref (ad o1), .int x2]) (rest := []) ⟨hx, hb, hml, hown, hts⟩ (ct_R_winnerSet l G hG D cA ad F _ (ly_W_rules hG k0) _ k1 _ _ _ h) ⟨ow_cb 2 hts mw_515 mw_6 mw_716 rfl rfl hd_R_winnerSet ⟨Nat.le_of_ble_eq_true rfl, Nat.le_of_ble_eq_true rfl⟩, hts _ mw_513, hts _ mw_514⟩ (ow_preV hB (ly_W_rules hG k0) rfl) rfl rfl hl.1 rfl (lv_room (Nat.le_of_ble_eq_true rfl)) dc_W_loserThatHarmsByLeaving_16 ⟨Nat.zero_le _, Nat.zero_le _⟩) hB (fun r7 M6 H locs h hB => ?_)
    refine lv_istore_n hx hb dc_W_loserThatHarmsByLeaving_19 rfl hl (by decide) rfl (fun ls hl => ?_)
    refine lv_aload_n hx hb dc_W_loserThatHarmsByLeaving_20 rfl (lv_at hl 2 rfl) ?_
    refine lv_iload_n hx hb dc_W_loserThatHarmsByLeaving_21 rfl (lv_at hl 0 rfl) ?_
    refine ow_calli (va_runV (As := [.int r7]) (rest := []) ⟨hx, hb, hml, hown, hts⟩ (ct_P_firstInTie l G hG D cA ad F _ k1 _ _ _ h) ⟨ow_cb 1 hts mw_311 mw_2 mw_721 rfl rfl hd_P_firstInTie ⟨Nat.le_of_ble_eq_true rfl, Nat.le_of_ble_eq_true rfl⟩, hts _ mw_309, hts _ mw_310⟩ (ow_preV hB k1 rfl) rfl rfl hl.1 rfl (lv_room (Nat.le_of_ble_eq_true rfl)) dc_W_loserThatHarmsByLeaving_22 ⟨Nat.zero_le _, Nat.zero_le _⟩) hB (fun r9 M8 H locs h hB => ?_)
    refine lv_istore hx hb dc_W_loserThatHarmsByLeaving_25 hl (by decide) rfl (fun ls hl => ?_)
    refine lv_iconst (v := 0) hx hb dc_W_loserThatHarmsByLeaving_27 rfl ?_
    refine lv_istore hx hb dc_W_loserThatHarmsByLeaving_28 hl (by decide) rfl (fun ls hl => ?_)
    exact L30 _ _ _ _ _ _ _ h hB (lv_sub hl [3, 4, 5, 2, 1, 0] rfl)
  · have h := h2 hc
    refine lv_iconst (v := (-1)) hx hb dc_W_loserThatHarmsByLeaving_8 rfl ?_
    exact ow_iret hx hb hr hlocks hB h dc_W_loserThatHarmsByLeaving_9
