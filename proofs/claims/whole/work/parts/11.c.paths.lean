def wp_H_widen_52 (F : Nat) (o0 : Nat) (x1 : Int32) (x2 : Int32) (x3 : Int32) (Q : om_M → Prop) (o4 : Nat) (K11 : om_M × Int32 → Prop) (M : om_M) (x5 : Int32)  : Prop := K11 (M, x5 + 1)
def wp_H_widen_11b (F : Nat) (o0 : Nat) (x1 : Int32) (x2 : Int32) (x3 : Int32) (Q : om_M → Prop) (o4 : Nat)  (K11 : om_M × Int32 → Prop) (M : om_M) (x5 : Int32) : Prop := ((x3 ≤ x5 → Q M) ∧ (¬ x3 ≤ x5 → ((x5 = x1 → wp_H_widen_52 F o0 x1 x2 x3 Q o4 K11 M x5) ∧ (¬ x5 = x1 → vp_in x5 7 ∧ vp_in x2 7 ∧ wp_H_widen_52 F o0 x1 x2 x3 Q o4 K11 (om_up M o4 x5.toNatClampNeg (if (M.1 o4 x5.toNatClampNeg) < (if (M.1 (o0 + 1 + 1 + x2.toNatClampNeg) x5.toNatClampNeg) < (M.1 o4 x2.toNatClampNeg) then M.1 (o0 + 1 + 1 + x2.toNatClampNeg) x5.toNatClampNeg else M.1 o4 x2.toNatClampNeg) then (if (M.1 (o0 + 1 + 1 + x2.toNatClampNeg) x5.toNatClampNeg) < (M.1 o4 x2.toNatClampNeg) then M.1 (o0 + 1 + 1 + x2.toNatClampNeg) x5.toNatClampNeg else M.1 o4 x2.toNatClampNeg) else M.1 o4 x5.toNatClampNeg)) x5))))
def wp_H_widen_11 (F : Nat) (o0 : Nat) (x1 : Int32) (x2 : Int32) (x3 : Int32) (Q : om_M → Prop) (o4 : Nat)  (M : om_M) (x5 : Int32) : Prop := ow_lp (fun (z : om_M × Int32) K => wp_H_widen_11b F o0 x1 x2 x3 Q o4  K z.1 z.2) F (M, x5)
def wp_H_widen (F : Nat) (o0 : Nat) (x1 : Int32) (x2 : Int32) (x3 : Int32) (M : om_M) (Q : om_M → Prop) : Prop := vp_in x1 7 ∧ wp_H_widen_11 F o0 x1 x2 x3 Q (o0 + 1 + 1 + x1.toNatClampNeg) M 0
def wp_H_measure_97 (F : Nat) (o0 : Nat) (o1 : Nat) (Q : om_M → Prop)  (K63 : om_M × Int32 → Prop) (M : om_M) (x2 : Int32)  : Prop := K63 (M, x2 + 1)
def wp_H_measure_73b (F : Nat) (o0 : Nat) (o1 : Nat) (Q : om_M → Prop) (x2 : Int32) (K63 : om_M × Int32 → Prop) (K73 : om_M × Int32 → Prop) (M : om_M) (x3 : Int32) : Prop := (((M.1 o1 5) ≤ x3 → wp_H_measure_97 F o0 o1 Q K63 M x2) ∧ (¬ (M.1 o1 5) ≤ x3 → wp_H_widen F o0 x3 x2 (M.1 o1 5) M (fun M1 => K73 (M1, x3 + 1))))
def wp_H_measure_73 (F : Nat) (o0 : Nat) (o1 : Nat) (Q : om_M → Prop) (x2 : Int32) (K63 : om_M × Int32 → Prop) (M : om_M) (x3 : Int32) : Prop := ow_lp (fun (z : om_M × Int32) K => wp_H_measure_73b F o0 o1 Q x2 K63 K z.1 z.2) F (M, x3)
def wp_H_measure_63b (F : Nat) (o0 : Nat) (o1 : Nat) (Q : om_M → Prop)   (K63 : om_M × Int32 → Prop) (M : om_M) (x2 : Int32) : Prop := (((M.1 o1 5) ≤ x2 → Q M) ∧ (¬ (M.1 o1 5) ≤ x2 → wp_H_measure_73 F o0 o1 Q x2 K63 M 0))
def wp_H_measure_63 (F : Nat) (o0 : Nat) (o1 : Nat) (Q : om_M → Prop)   (M : om_M) (x2 : Int32) : Prop := ow_lp (fun (z : om_M × Int32) K => wp_H_measure_63b F o0 o1 Q   K z.1 z.2) F (M, x2)
def wp_H_measure_61 (F : Nat) (o0 : Nat) (o1 : Nat) (Q : om_M → Prop)   (M : om_M)   : Prop := wp_H_measure_63 F o0 o1 Q M 0
def wp_H_measure_55 (F : Nat) (o0 : Nat) (o1 : Nat) (Q : om_M → Prop)  (K2 : om_M × Int32 → Prop) (M : om_M) (x2 : Int32)  : Prop := K2 (M, x2 + 1)
def wp_H_measure_48 (F : Nat) (o0 : Nat) (o1 : Nat) (Q : om_M → Prop) (x2 : Int32) (K2 : om_M × Int32 → Prop) (K12 : om_M × Int32 → Prop) (M : om_M) (x3 : Int32) (t0 : Nat) (t1 : Int32) (t2 : Int32) : Prop := vp_in t1 7 ∧ K12 (om_up M t0 t1.toNatClampNeg t2, x3 + 1)
def wp_H_measure_12b (F : Nat) (o0 : Nat) (o1 : Nat) (Q : om_M → Prop) (x2 : Int32) (K2 : om_M × Int32 → Prop) (K12 : om_M × Int32 → Prop) (M : om_M) (x3 : Int32) : Prop := (((M.1 o1 5) ≤ x3 → wp_H_measure_55 F o0 o1 Q K2 M x2) ∧ (¬ (M.1 o1 5) ≤ x3 → vp_in x2 7 ∧ wp_P_beats F o1 x2 x3 M (fun r5 M4 => ((r5 = 0 → wp_H_measure_48 F o0 o1 Q x2 K2 K12 M4 x3 (o0 + 1 + 1 + x2.toNatClampNeg) x3 0) ∧ (¬ r5 = 0 → vp_in x3 7 ∧ wp_H_measure_48 F o0 o1 Q x2 K2 K12 M4 x3 (o0 + 1 + 1 + x2.toNatClampNeg) x3 (M4.1 (o1 + 12 + 1 + x2.toNatClampNeg) x3.toNatClampNeg))))))
def wp_H_measure_12 (F : Nat) (o0 : Nat) (o1 : Nat) (Q : om_M → Prop) (x2 : Int32) (K2 : om_M × Int32 → Prop) (M : om_M) (x3 : Int32) : Prop := ow_lp (fun (z : om_M × Int32) K => wp_H_measure_12b F o0 o1 Q x2 K2 K z.1 z.2) F (M, x3)
def wp_H_measure_2b (F : Nat) (o0 : Nat) (o1 : Nat) (Q : om_M → Prop)   (K2 : om_M × Int32 → Prop) (M : om_M) (x2 : Int32) : Prop := (((M.1 o1 5) ≤ x2 → wp_H_measure_61 F o0 o1 Q M) ∧ (¬ (M.1 o1 5) ≤ x2 → wp_H_measure_12 F o0 o1 Q x2 K2 M 0))
def wp_H_measure_2 (F : Nat) (o0 : Nat) (o1 : Nat) (Q : om_M → Prop)   (M : om_M) (x2 : Int32) : Prop := ow_lp (fun (z : om_M × Int32) K => wp_H_measure_2b F o0 o1 Q   K z.1 z.2) F (M, x2)
def wp_H_measure (F : Nat) (o0 : Nat) (o1 : Nat) (M : om_M) (Q : om_M → Prop) : Prop := wp_H_measure_2 F o0 o1 Q M 0
def wp_H_winnerSet_67 (F : Nat) (o0 : Nat) (o1 : Nat) (Q : Int32 → om_M → Prop)  (K12 : om_M × Int32 × Int32 → Prop) (M : om_M) (x2 : Int32) (x3 : Int32)  : Prop := K12 (M, x2, x3 + 1)
def wp_H_winnerSet_61 (F : Nat) (o0 : Nat) (o1 : Nat) (Q : Int32 → om_M → Prop) (x3 : Int32) (K12 : om_M × Int32 × Int32 → Prop) (K23 : om_M × Int32 × Int32 → Prop) (M : om_M) (x2 : Int32) (x4 : Int32)  : Prop := K23 (M, x2, x4 + 1)
def wp_H_winnerSet_23b (F : Nat) (o0 : Nat) (o1 : Nat) (Q : Int32 → om_M → Prop) (x3 : Int32) (K12 : om_M × Int32 × Int32 → Prop) (K23 : om_M × Int32 × Int32 → Prop) (M : om_M) (x2 : Int32) (x4 : Int32) : Prop := (((M.1 o1 5) ≤ x4 → wp_H_winnerSet_67 F o0 o1 Q K12 M x2 x3) ∧ (¬ (M.1 o1 5) ≤ x4 → vp_in x3 7 ∧ vp_in x4 7 ∧ (((M.1 (o0 + 1 + 1 + x4.toNatClampNeg) x3.toNatClampNeg) ≤ (M.1 (o0 + 1 + 1 + x3.toNatClampNeg) x4.toNatClampNeg) → wp_H_winnerSet_61 F o0 o1 Q x3 K12 K23 M x2 x4) ∧ (¬ (M.1 (o0 + 1 + 1 + x4.toNatClampNeg) x3.toNatClampNeg) ≤ (M.1 (o0 + 1 + 1 + x3.toNatClampNeg) x4.toNatClampNeg) → wp_H_winnerSet_61 F o0 o1 Q x3 K12 K23 M (x2 &&& (((1 : Int32) <<< (x3 &&& 31)) ^^^ (-1))) x4))))
def wp_H_winnerSet_23 (F : Nat) (o0 : Nat) (o1 : Nat) (Q : Int32 → om_M → Prop) (x3 : Int32) (K12 : om_M × Int32 × Int32 → Prop) (M : om_M) (x2 : Int32) (x4 : Int32) : Prop := ow_lp (fun (z : om_M × Int32 × Int32) K => wp_H_winnerSet_23b F o0 o1 Q x3 K12 K z.1 z.2.1 z.2.2) F (M, x2, x4)
def wp_H_winnerSet_12b (F : Nat) (o0 : Nat) (o1 : Nat) (Q : Int32 → om_M → Prop)   (K12 : om_M × Int32 × Int32 → Prop) (M : om_M) (x2 : Int32) (x3 : Int32) : Prop := (((M.1 o1 5) ≤ x3 → Q x2 M) ∧ (¬ (M.1 o1 5) ≤ x3 → wp_H_winnerSet_23 F o0 o1 Q x3 K12 M x2 0))
def wp_H_winnerSet_12 (F : Nat) (o0 : Nat) (o1 : Nat) (Q : Int32 → om_M → Prop)   (M : om_M) (x2 : Int32) (x3 : Int32) : Prop := ow_lp (fun (z : om_M × Int32 × Int32) K => wp_H_winnerSet_12b F o0 o1 Q   K z.1 z.2.1 z.2.2) F (M, x2, x3)
def wp_H_winnerSet (F : Nat) (o0 : Nat) (o1 : Nat) (M : om_M) (Q : Int32 → om_M → Prop) : Prop := wp_H_measure F o0 o1 M (fun M3 => wp_P_everyone F o1 M3 (fun r5 M4 => wp_H_winnerSet_12 F o0 o1 Q M4 r5 0))
abbrev rm_H_widen : Room := { frames := 1, cells := 0, slots := 0, locals := 21 }
theorem hd_H_widen : yn_H_widen.cls ≠ "java/lang/invoke/MethodHandle" ∧ yn_H_widen.cls ≠ "java/lang/invoke/VarHandle" ∧ (parseMethodDescriptor yn_H_widen.desc).map (fun d => d.parameters.length) = some 3 := by decide +kernel
set_option maxHeartbeats 4000000 in
set_option maxRecDepth 100000 in
theorem ct_H_widen (l : Launch) (G : List (Nat × Nat)) (hG : ow_lay G) (D : va_G) (cA : Nat → ClassId) (ad : Nat → Nat) (F : Nat) (o0 : Nat) (k0 : ow_kd G o0 = (3, 4)) (x1 : Int32) (x2 : Int32) (x3 : Int32) (M : om_M) (Q : om_M → Prop) (h : wp_H_widen F o0 x1 x2 x3 M Q) : Met l yn_H_widen (ow_ws yn_H_widen cb_H_widen 6 none) rm_H_widen (ow_Pc G D cA ad M [.ref (ad o0), .int x1, .int x2, .int x3]) (ow_Qv G D cA ad Q) 0 0 (ow_A G ad) := by
  refine Met.ofW (cc := cb_H_widen) (maxL := 6) (ret := none) (by decide) rfl ?_
  intro p e s m args below meth c s₁ B hml hv
  obtain ⟨rfl, hB⟩ := hv
  have hx := B.exec
  have hb := B.bytes
  have hr := B.returns
  have hlocks := B.notSynchronized
  have hts : ∀ w ∈ lw_g, w.before ([.ref (ad o0), .int x1, .int x2, .int x3] : List Value).toArray s = true := fun w h => atoms_spec (ws := ow_ws yn_H_widen cb_H_widen 6 none) B.pre w (List.mem_cons_of_mem _ h)
  have hown : s.vm.findClass "BallotDesk$Paths" = some m.cls := findClass_of_methodNamed B.named
  clear B
  have L52 : ∀ (o4 : Nat) (k4 : ow_kd G o4 = (0, 7)) (K11 : om_M × Int32 → Prop) (hK11 : ∀ (M : om_M) (x5 : Int32) (H : Heap) (locs : List Loc) (ls : Array Slot), K11 (M, x5) → ow_B G D cA ad (ow_A G ad) M s s.heap H locs → lv_has ls 6 [(0, .ref (ad o0)), (1, .int x1), (2, .int x2), (3, .int x3), (4, .ref (ad o4)), (5, .int x5)] → W p l e rm_H_widen s m ([.ref (ad o0), .int x1, .int x2, .int x3] : List Value).toArray below meth c H locs 0 0 (MQ below (ow_Qv G D cA ad Q) ([.ref (ad o0), .int x1, .int x2, .int x3] : List Value).toArray s 0 0 (ow_A G ad)) (F0 m 11 ls [])) (M : om_M) (x5 : Int32)  (H : Heap) (locs : List Loc) (ls : Array Slot), wp_H_widen_52 F o0 x1 x2 x3 Q o4 K11 M x5  → ow_B G D cA ad (ow_A G ad) M s s.heap H locs → lv_has ls 6 [(0, .ref (ad o0)), (1, .int x1), (2, .int x2), (3, .int x3), (4, .ref (ad o4)), (5, .int x5)] → W p l e rm_H_widen s m ([.ref (ad o0), .int x1, .int x2, .int x3] : List Value).toArray below meth c H locs 0 0 (MQ below (ow_Qv G D cA ad Q) ([.ref (ad o0), .int x1, .int x2, .int x3] : List Value).toArray s 0 0 (ow_A G ad)) (F0 m 52 ls []) := by
    intro o4 k4 K11 hK11 M x5 H locs ls h hB hl
    refine lv_iinc hx hb dc_H_widen_52 hl (k := 5) rfl rfl (by decide) rfl (fun ls hl => ?_)
    refine lv_goto hx hb dc_H_widen_55 rfl ?_
    exact hK11 _ _ _ _ _ h hB (lv_sub hl [1, 2, 3, 4, 5, 0] rfl)
  have B11 : ∀ (o4 : Nat) (k4 : ow_kd G o4 = (0, 7))  (K11 : om_M × Int32 → Prop) (hK11 : ∀ (M : om_M) (x5 : Int32) (H : Heap) (locs : List Loc) (ls : Array Slot), K11 (M, x5) → ow_B G D cA ad (ow_A G ad) M s s.heap H locs → lv_has ls 6 [(0, .ref (ad o0)), (1, .int x1), (2, .int x2), (3, .int x3), (4, .ref (ad o4)), (5, .int x5)] → W p l e rm_H_widen s m ([.ref (ad o0), .int x1, .int x2, .int x3] : List Value).toArray below meth c H locs 0 0 (MQ below (ow_Qv G D cA ad Q) ([.ref (ad o0), .int x1, .int x2, .int x3] : List Value).toArray s 0 0 (ow_A G ad)) (F0 m 11 ls [])) (M : om_M) (x5 : Int32) (H : Heap) (locs : List Loc) (ls : Array Slot), wp_H_widen_11b F o0 x1 x2 x3 Q o4  K11 M x5 → ow_B G D cA ad (ow_A G ad) M s s.heap H locs → lv_has ls 6 [(0, .ref (ad o0)), (1, .int x1), (2, .int x2), (3, .int x3), (4, .ref (ad o4)), (5, .int x5)] → W p l e rm_H_widen s m ([.ref (ad o0), .int x1, .int x2, .int x3] : List Value).toArray below meth c H locs 0 0 (MQ below (ow_Qv G D cA ad Q) ([.ref (ad o0), .int x1, .int x2, .int x3] : List Value).toArray s 0 0 (ow_A G ad)) (F0 m 11 ls []) := by
    intro o4 k4  K11 hK11 M x5 H locs ls h hB hl
    refine lv_iload hx hb dc_H_widen_11 (lv_at hl 5 rfl) ?_
    refine lv_iload_n hx hb dc_H_widen_13 rfl (lv_at hl 3 rfl) ?_
    obtain ⟨h1, h2⟩ := h
    refine lv_icmp_ge hx hb dc_H_widen_14 rfl (fun hc => ?_) (fun hc => ?_)
    · have h := h1 hc
      exact ow_vret hx hb hr hlocks hB h dc_H_widen_58
    · have h := h2 hc
      refine lv_iload hx hb dc_H_widen_17 (lv_at hl 5 rfl) ?_
      refine lv_iload_n hx hb dc_H_widen_19 rfl (lv_at hl 1 rfl) ?_
      obtain ⟨h1, h2⟩ := h
      refine lv_icmp_eq hx hb dc_H_widen_20 rfl (fun hc => ?_) (fun hc => ?_)
      · have h := h1 hc
        exact L52 _ k4 K11 hK11 _ _ _ _ _ h hB (lv_sub hl [0, 1, 2, 3, 4, 5] rfl)
      · have h := h2 hc
        refine lv_aload hx hb dc_H_widen_23 (lv_at hl 4 rfl) ?_
        refine lv_iload hx hb dc_H_widen_25 (lv_at hl 5 rfl) ?_
        refine lv_aload hx hb dc_H_widen_27 (lv_at hl 4 rfl) ?_
        refine lv_iload hx hb dc_H_widen_29 (lv_at hl 5 rfl) ?_
        obtain ⟨hi1, h⟩ := h
        refine ow_iald hx hb hB k4 hi1 dc_H_widen_31 ?_
        refine lv_aload hx hb dc_H_widen_32 (lv_at hl 4 rfl) ?_
        refine lv_iload_n hx hb dc_H_widen_34 rfl (lv_at hl 2 rfl) ?_
        obtain ⟨hi2, h⟩ := h
        refine ow_iald hx hb hB k4 hi2 dc_H_widen_35 ?_
        refine lv_aload_n hx hb dc_H_widen_36 rfl (lv_at hl 0 rfl) ?_
        refine ow_get hx hb hts iw_H hown hB k0 rfl 0 (by decide) mw_145 rfl dc_H_widen_37 ?_
        refine lv_iload_n hx hb dc_H_widen_40 rfl (lv_at hl 2 rfl) ?_
        refine ow_aald hx hb hB (ly_H_strength hG k0) (by decide) hi2 dc_H_widen_41 ?_
        refine lv_iload hx hb dc_H_widen_42 (lv_at hl 5 rfl) ?_
        refine ow_iald hx hb hB (ly_row2 hG (ly_H_strength hG k0) hi2) hi1 dc_H_widen_44 ?_
        refine va_mmin hx hb (hml.trans hl.1.symm) hown (hts _ mw_544) (hts _ mw_294) (hts _ mw_19) (hts _ mw_295) (Nat.le_of_ble_eq_true rfl) (Nat.le_of_ble_eq_true rfl) (Nat.zero_le _) (Nat.zero_le _) dc_H_widen_45 ?_
        refine va_mmax hx hb (hml.trans hl.1.symm) hown (hts _ mw_545) (hts _ mw_546) (hts _ mw_19) (hts _ mw_547) (Nat.le_of_ble_eq_true rfl) (Nat.le_of_ble_eq_true rfl) (Nat.zero_le _) (Nat.zero_le _) dc_H_widen_48 ?_
        refine ow_iast hx hb hB k4 hi1 dc_H_widen_51 (fun H locs hB => ?_)
        exact L52 _ k4 K11 hK11 _ _ _ _ _ h hB (lv_sub hl [0, 1, 2, 3, 4, 5] rfl)
  have L11 : ∀ (o4 : Nat) (k4 : ow_kd G o4 = (0, 7))  (M : om_M) (x5 : Int32) (H : Heap) (locs : List Loc) (ls : Array Slot), wp_H_widen_11 F o0 x1 x2 x3 Q o4  M x5 → ow_B G D cA ad (ow_A G ad) M s s.heap H locs → lv_has ls 6 [(0, .ref (ad o0)), (1, .int x1), (2, .int x2), (3, .int x3), (4, .ref (ad o4)), (5, .int x5)] → W p l e rm_H_widen s m ([.ref (ad o0), .int x1, .int x2, .int x3] : List Value).toArray below meth c H locs 0 0 (MQ below (ow_Qv G D cA ad Q) ([.ref (ad o0), .int x1, .int x2, .int x3] : List Value).toArray s 0 0 (ow_A G ad)) (F0 m 11 ls []) := by
    intro o4 k4 
    have step : ∀ (k : Nat) (M : om_M) (x5 : Int32) (H : Heap) (locs : List Loc) (ls : Array Slot), ow_lp (fun (z : om_M × Int32) K => wp_H_widen_11b F o0 x1 x2 x3 Q o4  K z.1 z.2) k (M, x5) → ow_B G D cA ad (ow_A G ad) M s s.heap H locs → lv_has ls 6 [(0, .ref (ad o0)), (1, .int x1), (2, .int x2), (3, .int x3), (4, .ref (ad o4)), (5, .int x5)] → W p l e rm_H_widen s m ([.ref (ad o0), .int x1, .int x2, .int x3] : List Value).toArray below meth c H locs 0 0 (MQ below (ow_Qv G D cA ad Q) ([.ref (ad o0), .int x1, .int x2, .int x3] : List Value).toArray s 0 0 (ow_A G ad)) (F0 m 11 ls []) := by
      intro k
      induction k with
      | zero => intro M x5 H locs ls h hB hl; exact False.elim h
      | succ k ih => intro M x5 H locs ls h hB hl; exact B11 o4 k4  (ow_lp _ k) (fun M x5 H locs ls h hB  hl => ih M x5  H locs ls h hB hl) M x5 H locs ls h hB hl
    intro M x5 H locs ls h hB hl
    exact step F M x5 H locs ls h hB hl
  have hl := lv_entry ([.ref (ad o0), .int x1, .int x2, .int x3]) (n := 6) (Nat.le_of_ble_eq_true rfl)
  rw [lg_entry_eq]
  generalize (lg_sl ([.ref (ad o0), .int x1, .int x2, .int x3]) ++ List.replicate (6 - (lg_sl ([.ref (ad o0), .int x1, .int x2, .int x3])).length) Slot.unset).toArray = ls at hl ⊢
  have hl : lv_has ls 6 [(0, .ref (ad o0)), (1, .int x1), (2, .int x2), (3, .int x3)] := hl
  show W p l e rm_H_widen s m _ below meth c s.heap [] 0 0 _ _
  refine lv_aload_n hx hb dc_H_widen_0 rfl (lv_at hl 0 rfl) ?_
  refine ow_get hx hb hts iw_H hown hB k0 rfl 0 (by decide) mw_145 rfl dc_H_widen_1 ?_
  refine lv_iload_n hx hb dc_H_widen_4 rfl (lv_at hl 1 rfl) ?_
  obtain ⟨hi3, h⟩ := h
  refine ow_aald hx hb hB (ly_H_strength hG k0) (by decide) hi3 dc_H_widen_5 ?_
  refine lv_astore hx hb dc_H_widen_6 hl (by decide) rfl (fun ls hl => ?_)
  refine lv_iconst (v := 0) hx hb dc_H_widen_8 rfl ?_
  refine lv_istore hx hb dc_H_widen_9 hl (by decide) rfl (fun ls hl => ?_)
  exact L11 _ (ly_row2 hG (ly_H_strength hG k0) hi3) _ _ _ _ _ h hB (lv_sub hl [2, 3, 4, 5, 1, 0] rfl)
abbrev rm_H_measure : Room := { frames := 2, cells := 0, slots := 0, locals := 46 }
theorem hd_H_measure : yn_H_measure.cls ≠ "java/lang/invoke/MethodHandle" ∧ yn_H_measure.cls ≠ "java/lang/invoke/VarHandle" ∧ (parseMethodDescriptor yn_H_measure.desc).map (fun d => d.parameters.length) = some 1 := by decide +kernel
set_option maxHeartbeats 4000000 in
set_option maxRecDepth 100000 in
theorem ct_H_measure (l : Launch) (G : List (Nat × Nat)) (hG : ow_lay G) (D : va_G) (cA : Nat → ClassId) (ad : Nat → Nat) (F : Nat) (o0 : Nat) (k0 : ow_kd G o0 = (3, 4)) (o1 : Nat) (k1 : ow_kd G o1 = (3, 1)) (M : om_M) (Q : om_M → Prop) (h : wp_H_measure F o0 o1 M Q) : Met l yn_H_measure (ow_ws yn_H_measure cb_H_measure 4 none) rm_H_measure (ow_Pc G D cA ad M [.ref (ad o0), .ref (ad o1)]) (ow_Qv G D cA ad Q) 0 0 (ow_A G ad) := by
  refine Met.ofW (cc := cb_H_measure) (maxL := 4) (ret := none) (by decide) rfl ?_
  intro p e s m args below meth c s₁ B hml hv
  obtain ⟨rfl, hB⟩ := hv
  have hx := B.exec
  have hb := B.bytes
  have hr := B.returns
  have hlocks := B.notSynchronized
  have hts : ∀ w ∈ lw_g, w.before ([.ref (ad o0), .ref (ad o1)] : List Value).toArray s = true := fun w h => atoms_spec (ws := ow_ws yn_H_measure cb_H_measure 4 none) B.pre w (List.mem_cons_of_mem _ h)
  have hown : s.vm.findClass "BallotDesk$Paths" = some m.cls := findClass_of_methodNamed B.named
  clear B
  have L97 : ∀  (K63 : om_M × Int32 → Prop) (hK63 : ∀ (M : om_M) (x2 : Int32) (H : Heap) (locs : List Loc) (ls : Array Slot), K63 (M, x2) → ow_B G D cA ad (ow_A G ad) M s s.heap H locs → lv_has ls 4 [(0, .ref (ad o0)), (1, .ref (ad o1)), (2, .int x2)] → W p l e rm_H_measure s m ([.ref (ad o0), .ref (ad o1)] : List Value).toArray below meth c H locs 0 0 (MQ below (ow_Qv G D cA ad Q) ([.ref (ad o0), .ref (ad o1)] : List Value).toArray s 0 0 (ow_A G ad)) (F0 m 63 ls [])) (M : om_M) (x2 : Int32)  (H : Heap) (locs : List Loc) (ls : Array Slot), wp_H_measure_97 F o0 o1 Q  K63 M x2  → ow_B G D cA ad (ow_A G ad) M s s.heap H locs → lv_has ls 4 [(0, .ref (ad o0)), (1, .ref (ad o1)), (2, .int x2)] → W p l e rm_H_measure s m ([.ref (ad o0), .ref (ad o1)] : List Value).toArray below meth c H locs 0 0 (MQ below (ow_Qv G D cA ad Q) ([.ref (ad o0), .ref (ad o1)] : List Value).toArray s 0 0 (ow_A G ad)) (F0 m 97 ls []) := by
    intro  K63 hK63 M x2 H locs ls h hB hl
    refine lv_iinc hx hb dc_H_measure_97 hl (k := 2) rfl rfl (by decide) rfl (fun ls hl => ?_)
    refine lv_goto hx hb dc_H_measure_100 rfl ?_
    exact hK63 _ _ _ _ _ h hB (lv_sub hl [1, 2, 0] rfl)
  have B73 : ∀ (x2 : Int32) (K63 : om_M × Int32 → Prop) (hK63 : ∀ (M : om_M) (x2 : Int32) (H : Heap) (locs : List Loc) (ls : Array Slot), K63 (M, x2) → ow_B G D cA ad (ow_A G ad) M s s.heap H locs → lv_has ls 4 [(0, .ref (ad o0)), (1, .ref (ad o1)), (2, .int x2)] → W p l e rm_H_measure s m ([.ref (ad o0), .ref (ad o1)] : List Value).toArray below meth c H locs 0 0 (MQ below (ow_Qv G D cA ad Q) ([.ref (ad o0), .ref (ad o1)] : List Value).toArray s 0 0 (ow_A G ad)) (F0 m 63 ls [])) (K73 : om_M × Int32 → Prop) (hK73 : ∀ (M : om_M) (x3 : Int32) (H : Heap) (locs : List Loc) (ls : Array Slot), K73 (M, x3) → ow_B G D cA ad (ow_A G ad) M s s.heap H locs → lv_has ls 4 [(0, .ref (ad o0)), (1, .ref (ad o1)), (2, .int x2), (3, .int x3)] → W p l e rm_H_measure s m ([.ref (ad o0), .ref (ad o1)] : List Value).toArray below meth c H locs 0 0 (MQ below (ow_Qv G D cA ad Q) ([.ref (ad o0), .ref (ad o1)] : List Value).toArray s 0 0 (ow_A G ad)) (F0 m 73 ls [])) (M : om_M) (x3 : Int32) (H : Heap) (locs : List Loc) (ls : Array Slot), wp_H_measure_73b F o0 o1 Q x2 K63 K73 M x3 → ow_B G D cA ad (ow_A G ad) M s s.heap H locs → lv_has ls 4 [(0, .ref (ad o0)), (1, .ref (ad o1)), (2, .int x2), (3, .int x3)] → W p l e rm_H_measure s m ([.ref (ad o0), .ref (ad o1)] : List Value).toArray below meth c H locs 0 0 (MQ below (ow_Qv G D cA ad Q) ([.ref (ad o0), .ref (ad o1)] : List Value).toArray s 0 0 (ow_A G ad)) (F0 m 73 ls []) := by
    intro x2 K63 hK63 K73 hK73 M x3 H locs ls h hB hl
    refine lv_iload_n hx hb dc_H_measure_73 rfl (lv_at hl 3 rfl) ?_
    refine lv_aload_n hx hb dc_H_measure_74 rfl (lv_at hl 1 rfl) ?_
    refine ow_get hx hb hts iw_P hown hB k1 rfl 5 (by decide) mw_60 rfl dc_H_measure_75 ?_
    obtain ⟨h1, h2⟩ := h
    refine lv_icmp_ge hx hb dc_H_measure_78 rfl (fun hc => ?_) (fun hc => ?_)
    · have h := h1 hc
      exact L97 K63 hK63 _ _ _ _ _ h hB (lv_sub hl [0, 1, 2] rfl)
    · have h := h2 hc
      refine lv_aload_n hx hb dc_H_measure_81 rfl (lv_at hl 0 rfl) ?_
      refine lv_iload_n hx hb dc_H_measure_82 rfl (lv_at hl 3 rfl) ?_
      refine lv_iload_n hx hb dc_H_measure_83 rfl (lv_at hl 2 rfl) ?_
      refine lv_aload_n hx hb dc_H_measure_84 rfl (lv_at hl 1 rfl) ?_
      refine ow_get hx hb hts iw_P hown hB k1 rfl 5 (by decide) mw_60 rfl dc_H_measure_85 ?_
      refine ow_callv (va_runV (As := [.int x3, .int x2, .int (M.1 o1 5)]) (rest := []) ⟨hx, hb, hml, hown, hts⟩ (ct_H_widen l G hG D cA ad F _ k0 _ _ _ _ _ h) ⟨ow_cb 3 hts mw_543 mw_8 mw_540 rfl rfl hd_H_widen ⟨Nat.le_of_ble_eq_true rfl, Nat.le_of_ble_eq_true rfl⟩, hts _ mw_542, hts _ ms_10⟩ (ow_preV hB k0 rfl) rfl rfl hl.1 rfl (lv_room (Nat.le_of_ble_eq_true rfl)) dc_H_measure_88 ⟨Nat.zero_le _, Nat.zero_le _⟩) hB (fun M1 H locs h hB => ?_)
      refine lv_iinc hx hb dc_H_measure_91 hl (k := 3) rfl rfl (by decide) rfl (fun ls hl => ?_)
      refine lv_goto hx hb dc_H_measure_94 rfl ?_
      exact hK73 _ _ _ _ _ h hB (lv_sub hl [1, 2, 3, 0] rfl)
  have L73 : ∀ (x2 : Int32) (K63 : om_M × Int32 → Prop) (hK63 : ∀ (M : om_M) (x2 : Int32) (H : Heap) (locs : List Loc) (ls : Array Slot), K63 (M, x2) → ow_B G D cA ad (ow_A G ad) M s s.heap H locs → lv_has ls 4 [(0, .ref (ad o0)), (1, .ref (ad o1)), (2, .int x2)] → W p l e rm_H_measure s m ([.ref (ad o0), .ref (ad o1)] : List Value).toArray below meth c H locs 0 0 (MQ below (ow_Qv G D cA ad Q) ([.ref (ad o0), .ref (ad o1)] : List Value).toArray s 0 0 (ow_A G ad)) (F0 m 63 ls [])) (M : om_M) (x3 : Int32) (H : Heap) (locs : List Loc) (ls : Array Slot), wp_H_measure_73 F o0 o1 Q x2 K63 M x3 → ow_B G D cA ad (ow_A G ad) M s s.heap H locs → lv_has ls 4 [(0, .ref (ad o0)), (1, .ref (ad o1)), (2, .int x2), (3, .int x3)] → W p l e rm_H_measure s m ([.ref (ad o0), .ref (ad o1)] : List Value).toArray below meth c H locs 0 0 (MQ below (ow_Qv G D cA ad Q) ([.ref (ad o0), .ref (ad o1)] : List Value).toArray s 0 0 (ow_A G ad)) (F0 m 73 ls []) := by
    intro x2 K63 hK63
    have step : ∀ (k : Nat) (M : om_M) (x3 : Int32) (H : Heap) (locs : List Loc) (ls : Array Slot), ow_lp (fun (z : om_M × Int32) K => wp_H_measure_73b F o0 o1 Q x2 K63 K z.1 z.2) k (M, x3) → ow_B G D cA ad (ow_A G ad) M s s.heap H locs → lv_has ls 4 [(0, .ref (ad o0)), (1, .ref (ad o1)), (2, .int x2), (3, .int x3)] → W p l e rm_H_measure s m ([.ref (ad o0), .ref (ad o1)] : List Value).toArray below meth c H locs 0 0 (MQ below (ow_Qv G D cA ad Q) ([.ref (ad o0), .ref (ad o1)] : List Value).toArray s 0 0 (ow_A G ad)) (F0 m 73 ls []) := by
      intro k
      induction k with
      | zero => intro M x3 H locs ls h hB hl; exact False.elim h
      | succ k ih => intro M x3 H locs ls h hB hl; exact B73 x2 K63 hK63 (ow_lp _ k) (fun M x3 H locs ls h hB  hl => ih M x3  H locs ls h hB hl) M x3 H locs ls h hB hl
    intro M x3 H locs ls h hB hl
    exact step F M x3 H locs ls h hB hl
  have B63 : ∀   (K63 : om_M × Int32 → Prop) (hK63 : ∀ (M : om_M) (x2 : Int32) (H : Heap) (locs : List Loc) (ls : Array Slot), K63 (M, x2) → ow_B G D cA ad (ow_A G ad) M s s.heap H locs → lv_has ls 4 [(0, .ref (ad o0)), (1, .ref (ad o1)), (2, .int x2)] → W p l e rm_H_measure s m ([.ref (ad o0), .ref (ad o1)] : List Value).toArray below meth c H locs 0 0 (MQ below (ow_Qv G D cA ad Q) ([.ref (ad o0), .ref (ad o1)] : List Value).toArray s 0 0 (ow_A G ad)) (F0 m 63 ls [])) (M : om_M) (x2 : Int32) (H : Heap) (locs : List Loc) (ls : Array Slot), wp_H_measure_63b F o0 o1 Q   K63 M x2 → ow_B G D cA ad (ow_A G ad) M s s.heap H locs → lv_has ls 4 [(0, .ref (ad o0)), (1, .ref (ad o1)), (2, .int x2)] → W p l e rm_H_measure s m ([.ref (ad o0), .ref (ad o1)] : List Value).toArray below meth c H locs 0 0 (MQ below (ow_Qv G D cA ad Q) ([.ref (ad o0), .ref (ad o1)] : List Value).toArray s 0 0 (ow_A G ad)) (F0 m 63 ls []) := by
    intro   K63 hK63 M x2 H locs ls h hB hl
    refine lv_iload_n hx hb dc_H_measure_63 rfl (lv_at hl 2 rfl) ?_
    refine lv_aload_n hx hb dc_H_measure_64 rfl (lv_at hl 1 rfl) ?_
    refine ow_get hx hb hts iw_P hown hB k1 rfl 5 (by decide) mw_60 rfl dc_H_measure_65 ?_
    obtain ⟨h1, h2⟩ := h
    refine lv_icmp_ge hx hb dc_H_measure_68 rfl (fun hc => ?_) (fun hc => ?_)
    · have h := h1 hc
      exact ow_vret hx hb hr hlocks hB h dc_H_measure_103
    · have h := h2 hc
      refine lv_iconst (v := 0) hx hb dc_H_measure_71 rfl ?_
      refine lv_istore_n hx hb dc_H_measure_72 rfl hl (by decide) rfl (fun ls hl => ?_)
      exact L73 _ K63 hK63 _ _ _ _ _ h hB (lv_sub hl [1, 2, 3, 0] rfl)
  have L63 : ∀   (M : om_M) (x2 : Int32) (H : Heap) (locs : List Loc) (ls : Array Slot), wp_H_measure_63 F o0 o1 Q   M x2 → ow_B G D cA ad (ow_A G ad) M s s.heap H locs → lv_has ls 4 [(0, .ref (ad o0)), (1, .ref (ad o1)), (2, .int x2)] → W p l e rm_H_measure s m ([.ref (ad o0), .ref (ad o1)] : List Value).toArray below meth c H locs 0 0 (MQ below (ow_Qv G D cA ad Q) ([.ref (ad o0), .ref (ad o1)] : List Value).toArray s 0 0 (ow_A G ad)) (F0 m 63 ls []) := by
    have step : ∀ (k : Nat) (M : om_M) (x2 : Int32) (H : Heap) (locs : List Loc) (ls : Array Slot), ow_lp (fun (z : om_M × Int32) K => wp_H_measure_63b F o0 o1 Q   K z.1 z.2) k (M, x2) → ow_B G D cA ad (ow_A G ad) M s s.heap H locs → lv_has ls 4 [(0, .ref (ad o0)), (1, .ref (ad o1)), (2, .int x2)] → W p l e rm_H_measure s m ([.ref (ad o0), .ref (ad o1)] : List Value).toArray below meth c H locs 0 0 (MQ below (ow_Qv G D cA ad Q) ([.ref (ad o0), .ref (ad o1)] : List Value).toArray s 0 0 (ow_A G ad)) (F0 m 63 ls []) := by
      intro k
      induction k with
      | zero => intro M x2 H locs ls h hB hl; exact False.elim h
      | succ k ih => intro M x2 H locs ls h hB hl; exact B63   (ow_lp _ k) (fun M x2 H locs ls h hB  hl => ih M x2  H locs ls h hB hl) M x2 H locs ls h hB hl
    intro M x2 H locs ls h hB hl
    exact step F M x2 H locs ls h hB hl
  have L61 : ∀   (M : om_M)   (H : Heap) (locs : List Loc) (ls : Array Slot), wp_H_measure_61 F o0 o1 Q   M   → ow_B G D cA ad (ow_A G ad) M s s.heap H locs → lv_has ls 4 [(0, .ref (ad o0)), (1, .ref (ad o1))] → W p l e rm_H_measure s m ([.ref (ad o0), .ref (ad o1)] : List Value).toArray below meth c H locs 0 0 (MQ below (ow_Qv G D cA ad Q) ([.ref (ad o0), .ref (ad o1)] : List Value).toArray s 0 0 (ow_A G ad)) (F0 m 61 ls []) := by
    intro   M H locs ls h hB hl
    refine lv_iconst (v := 0) hx hb dc_H_measure_61 rfl ?_
    refine lv_istore_n hx hb dc_H_measure_62 rfl hl (by decide) rfl (fun ls hl => ?_)
    exact L63 _ _ _ _ _ h hB (lv_sub hl [1, 2, 0] rfl)
  have L55 : ∀  (K2 : om_M × Int32 → Prop) (hK2 : ∀ (M : om_M) (x2 : Int32) (H : Heap) (locs : List Loc) (ls : Array Slot), K2 (M, x2) → ow_B G D cA ad (ow_A G ad) M s s.heap H locs → lv_has ls 4 [(0, .ref (ad o0)), (1, .ref (ad o1)), (2, .int x2)] → W p l e rm_H_measure s m ([.ref (ad o0), .ref (ad o1)] : List Value).toArray below meth c H locs 0 0 (MQ below (ow_Qv G D cA ad Q) ([.ref (ad o0), .ref (ad o1)] : List Value).toArray s 0 0 (ow_A G ad)) (F0 m 2 ls [])) (M : om_M) (x2 : Int32)  (H : Heap) (locs : List Loc) (ls : Array Slot), wp_H_measure_55 F o0 o1 Q  K2 M x2  → ow_B G D cA ad (ow_A G ad) M s s.heap H locs → lv_has ls 4 [(0, .ref (ad o0)), (1, .ref (ad o1)), (2, .int x2)] → W p l e rm_H_measure s m ([.ref (ad o0), .ref (ad o1)] : List Value).toArray below meth c H locs 0 0 (MQ below (ow_Qv G D cA ad Q) ([.ref (ad o0), .ref (ad o1)] : List Value).toArray s 0 0 (ow_A G ad)) (F0 m 55 ls []) := by
    intro  K2 hK2 M x2 H locs ls h hB hl
    refine lv_iinc hx hb dc_H_measure_55 hl (k := 2) rfl rfl (by decide) rfl (fun ls hl => ?_)
    refine lv_goto hx hb dc_H_measure_58 rfl ?_
    exact hK2 _ _ _ _ _ h hB (lv_sub hl [1, 2, 0] rfl)
  have L48 : ∀ (x2 : Int32) (K2 : om_M × Int32 → Prop) (hK2 : ∀ (M : om_M) (x2 : Int32) (H : Heap) (locs : List Loc) (ls : Array Slot), K2 (M, x2) → ow_B G D cA ad (ow_A G ad) M s s.heap H locs → lv_has ls 4 [(0, .ref (ad o0)), (1, .ref (ad o1)), (2, .int x2)] → W p l e rm_H_measure s m ([.ref (ad o0), .ref (ad o1)] : List Value).toArray below meth c H locs 0 0 (MQ below (ow_Qv G D cA ad Q) ([.ref (ad o0), .ref (ad o1)] : List Value).toArray s 0 0 (ow_A G ad)) (F0 m 2 ls [])) (K12 : om_M × Int32 → Prop) (hK12 : ∀ (M : om_M) (x3 : Int32) (H : Heap) (locs : List Loc) (ls : Array Slot), K12 (M, x3) → ow_B G D cA ad (ow_A G ad) M s s.heap H locs → lv_has ls 4 [(0, .ref (ad o0)), (1, .ref (ad o1)), (2, .int x2), (3, .int x3)] → W p l e rm_H_measure s m ([.ref (ad o0), .ref (ad o1)] : List Value).toArray below meth c H locs 0 0 (MQ below (ow_Qv G D cA ad Q) ([.ref (ad o0), .ref (ad o1)] : List Value).toArray s 0 0 (ow_A G ad)) (F0 m 12 ls [])) (M : om_M) (x3 : Int32) (t0 : Nat) (t1 : Int32) (t2 : Int32) (kt0 : ow_kd G t0 = (0, 7)) (H : Heap) (locs : List Loc) (ls : Array Slot), wp_H_measure_48 F o0 o1 Q x2 K2 K12 M x3 t0 t1 t2 → ow_B G D cA ad (ow_A G ad) M s s.heap H locs → lv_has ls 4 [(0, .ref (ad o0)), (1, .ref (ad o1)), (2, .int x2), (3, .int x3)] → W p l e rm_H_measure s m ([.ref (ad o0), .ref (ad o1)] : List Value).toArray below meth c H locs 0 0 (MQ below (ow_Qv G D cA ad Q) ([.ref (ad o0), .ref (ad o1)] : List Value).toArray s 0 0 (ow_A G ad)) (F0 m 48 ls [.int t2, .int t1, .ref (ad t0)]) := by
    intro x2 K2 hK2 K12 hK12 M x3 t0 t1 t2 kt0 H locs ls h hB hl
    obtain ⟨hi2, h⟩ := h
    refine ow_iast hx hb hB kt0 hi2 dc_H_measure_48 (fun H locs hB => ?_)
    refine lv_iinc hx hb dc_H_measure_49 hl (k := 3) rfl rfl (by decide) rfl (fun ls hl => ?_)
    refine lv_goto hx hb dc_H_measure_52 rfl ?_
    exact hK12 _ _ _ _ _ h hB (lv_sub hl [1, 2, 3, 0] rfl)
  have B12 : ∀ (x2 : Int32) (K2 : om_M × Int32 → Prop) (hK2 : ∀ (M : om_M) (x2 : Int32) (H : Heap) (locs : List Loc) (ls : Array Slot), K2 (M, x2) → ow_B G D cA ad (ow_A G ad) M s s.heap H locs → lv_has ls 4 [(0, .ref (ad o0)), (1, .ref (ad o1)), (2, .int x2)] → W p l e rm_H_measure s m ([.ref (ad o0), .ref (ad o1)] : List Value).toArray below meth c H locs 0 0 (MQ below (ow_Qv G D cA ad Q) ([.ref (ad o0), .ref (ad o1)] : List Value).toArray s 0 0 (ow_A G ad)) (F0 m 2 ls [])) (K12 : om_M × Int32 → Prop) (hK12 : ∀ (M : om_M) (x3 : Int32) (H : Heap) (locs : List Loc) (ls : Array Slot), K12 (M, x3) → ow_B G D cA ad (ow_A G ad) M s s.heap H locs → lv_has ls 4 [(0, .ref (ad o0)), (1, .ref (ad o1)), (2, .int x2), (3, .int x3)] → W p l e rm_H_measure s m ([.ref (ad o0), .ref (ad o1)] : List Value).toArray below meth c H locs 0 0 (MQ below (ow_Qv G D cA ad Q) ([.ref (ad o0), .ref (ad o1)] : List Value).toArray s 0 0 (ow_A G ad)) (F0 m 12 ls [])) (M : om_M) (x3 : Int32) (H : Heap) (locs : List Loc) (ls : Array Slot), wp_H_measure_12b F o0 o1 Q x2 K2 K12 M x3 → ow_B G D cA ad (ow_A G ad) M s s.heap H locs → lv_has ls 4 [(0, .ref (ad o0)), (1, .ref (ad o1)), (2, .int x2), (3, .int x3)] → W p l e rm_H_measure s m ([.ref (ad o0), .ref (ad o1)] : List Value).toArray below meth c H locs 0 0 (MQ below (ow_Qv G D cA ad Q) ([.ref (ad o0), .ref (ad o1)] : List Value).toArray s 0 0 (ow_A G ad)) (F0 m 12 ls []) := by
    intro x2 K2 hK2 K12 hK12 M x3 H locs ls h hB hl
    refine lv_iload_n hx hb dc_H_measure_12 rfl (lv_at hl 3 rfl) ?_
    refine lv_aload_n hx hb dc_H_measure_13 rfl (lv_at hl 1 rfl) ?_
    refine ow_get hx hb hts iw_P hown hB k1 rfl 5 (by decide) mw_60 rfl dc_H_measure_14 ?_
    obtain ⟨h1, h2⟩ := h
    refine lv_icmp_ge hx hb dc_H_measure_17 rfl (fun hc => ?_) (fun hc => ?_)
    · have h := h1 hc
      exact L55 K2 hK2 _ _ _ _ _ h hB (lv_sub hl [0, 1, 2] rfl)
    · have h := h2 hc
      refine lv_aload_n hx hb dc_H_measure_20 rfl (lv_at hl 0 rfl) ?_
      refine ow_get hx hb hts iw_H hown hB k0 rfl 0 (by decide) mw_145 rfl dc_H_measure_21 ?_
      refine lv_iload_n hx hb dc_H_measure_24 rfl (lv_at hl 2 rfl) ?_
      obtain ⟨hi3, h⟩ := h
      refine ow_aald hx hb hB (ly_H_strength hG k0) (by decide) hi3 dc_H_measure_25 ?_
      refine lv_iload_n hx hb dc_H_measure_26 rfl (lv_at hl 3 rfl) ?_
      refine lv_aload_n hx hb dc_H_measure_27 rfl (lv_at hl 1 rfl) ?_
      refine lv_iload_n hx hb dc_H_measure_28 rfl (lv_at hl 2 rfl) ?_
      refine lv_iload_n hx hb dc_H_measure_29 rfl (lv_at hl 3 rfl) ?_
      refine ow_calli (va_runV (As := [.int x2, .int x3]) (rest := [.int x3, .ref (ad (o0 + 1 + 1 + x2.toNatClampNeg))]) ⟨hx, hb, hml, hown, hts⟩ (ct_P_beats l G hG D cA ad F _ k1 _ _ _ _ h) ⟨ow_cb 2 hts mw_526 mw_2 mw_539 rfl rfl hd_P_beats ⟨Nat.le_of_ble_eq_true rfl, Nat.le_of_ble_eq_true rfl⟩, hts _ mw_524, hts _ mw_525⟩ (ow_preV hB k1 rfl) rfl rfl hl.1 rfl (lv_room (Nat.le_of_ble_eq_true rfl)) dc_H_measure_30 ⟨Nat.zero_le _, Nat.zero_le _⟩) hB (fun r5 M4 H locs h hB => ?_)
      obtain ⟨h1, h2⟩ := h
      refine lv_if_eq hx hb dc_H_measure_33 rfl (fun hc => ?_) (fun hc => ?_)
      · have h := h1 hc
        refine lv_iconst (v := 0) hx hb dc_H_measure_47 rfl ?_
        exact L48 _ K2 hK2 K12 hK12 _ _ _ _ _ (ly_row2 hG (ly_H_strength hG k0) hi3) _ _ _ h hB (lv_sub hl [0, 1, 2, 3] rfl)
      · have h := h2 hc
        refine lv_aload_n hx hb dc_H_measure_36 rfl (lv_at hl 1 rfl) ?_
        refine ow_get hx hb hts iw_P hown hB k1 rfl 4 (by decide) mw_54 rfl dc_H_measure_37 ?_
        refine lv_iload_n hx hb dc_H_measure_40 rfl (lv_at hl 2 rfl) ?_
        refine ow_aald hx hb hB (ly_P_ahead hG k1) (by decide) hi3 dc_H_measure_41 ?_
        refine lv_iload_n hx hb dc_H_measure_42 rfl (lv_at hl 3 rfl) ?_
        obtain ⟨hi6, h⟩ := h
        refine ow_iald hx hb hB (ly_row2 hG (ly_P_ahead hG k1) hi3) hi6 dc_H_measure_43 ?_
        refine lv_goto hx hb dc_H_measure_44 rfl ?_
        exact L48 _ K2 hK2 K12 hK12 _ _ _ _ _ (ly_row2 hG (ly_H_strength hG k0) hi3) _ _ _ h hB (lv_sub hl [0, 1, 2, 3] rfl)
  have L12 : ∀ (x2 : Int32) (K2 : om_M × Int32 → Prop) (hK2 : ∀ (M : om_M) (x2 : Int32) (H : Heap) (locs : List Loc) (ls : Array Slot), K2 (M, x2) → ow_B G D cA ad (ow_A G ad) M s s.heap H locs → lv_has ls 4 [(0, .ref (ad o0)), (1, .ref (ad o1)), (2, .int x2)] → W p l e rm_H_measure s m ([.ref (ad o0), .ref (ad o1)] : List Value).toArray below meth c H locs 0 0 (MQ below (ow_Qv G D cA ad Q) ([.ref (ad o0), .ref (ad o1)] : List Value).toArray s 0 0 (ow_A G ad)) (F0 m 2 ls [])) (M : om_M) (x3 : Int32) (H : Heap) (locs : List Loc) (ls : Array Slot), wp_H_measure_12 F o0 o1 Q x2 K2 M x3 → ow_B G D cA ad (ow_A G ad) M s s.heap H locs → lv_has ls 4 [(0, .ref (ad o0)), (1, .ref (ad o1)), (2, .int x2), (3, .int x3)] → W p l e rm_H_measure s m ([.ref (ad o0), .ref (ad o1)] : List Value).toArray below meth c H locs 0 0 (MQ below (ow_Qv G D cA ad Q) ([.ref (ad o0), .ref (ad o1)] : List Value).toArray s 0 0 (ow_A G ad)) (F0 m 12 ls []) := by
    intro x2 K2 hK2
    have step : ∀ (k : Nat) (M : om_M) (x3 : Int32) (H : Heap) (locs : List Loc) (ls : Array Slot), ow_lp (fun (z : om_M × Int32) K => wp_H_measure_12b F o0 o1 Q x2 K2 K z.1 z.2) k (M, x3) → ow_B G D cA ad (ow_A G ad) M s s.heap H locs → lv_has ls 4 [(0, .ref (ad o0)), (1, .ref (ad o1)), (2, .int x2), (3, .int x3)] → W p l e rm_H_measure s m ([.ref (ad o0), .ref (ad o1)] : List Value).toArray below meth c H locs 0 0 (MQ below (ow_Qv G D cA ad Q) ([.ref (ad o0), .ref (ad o1)] : List Value).toArray s 0 0 (ow_A G ad)) (F0 m 12 ls []) := by
      intro k
      induction k with
      | zero => intro M x3 H locs ls h hB hl; exact False.elim h
      | succ k ih => intro M x3 H locs ls h hB hl; exact B12 x2 K2 hK2 (ow_lp _ k) (fun M x3 H locs ls h hB  hl => ih M x3  H locs ls h hB hl) M x3 H locs ls h hB hl
    intro M x3 H locs ls h hB hl
    exact step F M x3 H locs ls h hB hl
  have B2 : ∀   (K2 : om_M × Int32 → Prop) (hK2 : ∀ (M : om_M) (x2 : Int32) (H : Heap) (locs : List Loc) (ls : Array Slot), K2 (M, x2) → ow_B G D cA ad (ow_A G ad) M s s.heap H locs → lv_has ls 4 [(0, .ref (ad o0)), (1, .ref (ad o1)), (2, .int x2)] → W p l e rm_H_measure s m ([.ref (ad o0), .ref (ad o1)] : List Value).toArray below meth c H locs 0 0 (MQ below (ow_Qv G D cA ad Q) ([.ref (ad o0), .ref (ad o1)] : List Value).toArray s 0 0 (ow_A G ad)) (F0 m 2 ls [])) (M : om_M) (x2 : Int32) (H : Heap) (locs : List Loc) (ls : Array Slot), wp_H_measure_2b F o0 o1 Q   K2 M x2 → ow_B G D cA ad (ow_A G ad) M s s.heap H locs → lv_has ls 4 [(0, .ref (ad o0)), (1, .ref (ad o1)), (2, .int x2)] → W p l e rm_H_measure s m ([.ref (ad o0), .ref (ad o1)] : List Value).toArray below meth c H locs 0 0 (MQ below (ow_Qv G D cA ad Q) ([.ref (ad o0), .ref (ad o1)] : List Value).toArray s 0 0 (ow_A G ad)) (F0 m 2 ls []) := by
    intro   K2 hK2 M x2 H locs ls h hB hl
    refine lv_iload_n hx hb dc_H_measure_2 rfl (lv_at hl 2 rfl) ?_
    refine lv_aload_n hx hb dc_H_measure_3 rfl (lv_at hl 1 rfl) ?_
    refine ow_get hx hb hts iw_P hown hB k1 rfl 5 (by decide) mw_60 rfl dc_H_measure_4 ?_
    obtain ⟨h1, h2⟩ := h
    refine lv_icmp_ge hx hb dc_H_measure_7 rfl (fun hc => ?_) (fun hc => ?_)
    · have h := h1 hc
      exact L61 _ _ _ _ h hB (lv_sub hl [0, 1] rfl)
    · have h := h2 hc
      refine lv_iconst (v := 0) hx hb dc_H_measure_10 rfl ?_
      refine lv_istore_n hx hb dc_H_measure_11 rfl hl (by decide) rfl (fun ls hl => ?_)
      exact L12 _ K2 hK2 _ _ _ _ _ h hB (lv_sub hl [1, 2, 3, 0] rfl)
  have L2 : ∀   (M : om_M) (x2 : Int32) (H : Heap) (locs : List Loc) (ls : Array Slot), wp_H_measure_2 F o0 o1 Q   M x2 → ow_B G D cA ad (ow_A G ad) M s s.heap H locs → lv_has ls 4 [(0, .ref (ad o0)), (1, .ref (ad o1)), (2, .int x2)] → W p l e rm_H_measure s m ([.ref (ad o0), .ref (ad o1)] : List Value).toArray below meth c H locs 0 0 (MQ below (ow_Qv G D cA ad Q) ([.ref (ad o0), .ref (ad o1)] : List Value).toArray s 0 0 (ow_A G ad)) (F0 m 2 ls []) := by
    have step : ∀ (k : Nat) (M : om_M) (x2 : Int32) (H : Heap) (locs : List Loc) (ls : Array Slot), ow_lp (fun (z : om_M × Int32) K => wp_H_measure_2b F o0 o1 Q   K z.1 z.2) k (M, x2) → ow_B G D cA ad (ow_A G ad) M s s.heap H locs → lv_has ls 4 [(0, .ref (ad o0)), (1, .ref (ad o1)), (2, .int x2)] → W p l e rm_H_measure s m ([.ref (ad o0), .ref (ad o1)] : List Value).toArray below meth c H locs 0 0 (MQ below (ow_Qv G D cA ad Q) ([.ref (ad o0), .ref (ad o1)] : List Value).toArray s 0 0 (ow_A G ad)) (F0 m 2 ls []) := by
      intro k
      induction k with
      | zero => intro M x2 H locs ls h hB hl; exact False.elim h
      | succ k ih => intro M x2 H locs ls h hB hl; exact B2   (ow_lp _ k) (fun M x2 H locs ls h hB  hl => ih M x2  H locs ls h hB hl) M x2 H locs ls h hB hl
    intro M x2 H locs ls h hB hl
    exact step F M x2 H locs ls h hB hl
  have hl := lv_entry ([.ref (ad o0), .ref (ad o1)]) (n := 4) (Nat.le_of_ble_eq_true rfl)
  rw [lg_entry_eq]
  generalize (lg_sl ([.ref (ad o0), .ref (ad o1)]) ++ List.replicate (4 - (lg_sl ([.ref (ad o0), .ref (ad o1)])).length) Slot.unset).toArray = ls at hl ⊢
  have hl : lv_has ls 4 [(0, .ref (ad o0)), (1, .ref (ad o1))] := hl
  show W p l e rm_H_measure s m _ below meth c s.heap [] 0 0 _ _
  refine lv_iconst (v := 0) hx hb dc_H_measure_0 rfl ?_
  refine lv_istore_n hx hb dc_H_measure_1 rfl hl (by decide) rfl (fun ls hl => ?_)
  exact L2 _ _ _ _ _ h hB (lv_sub hl [1, 2, 0] rfl)
abbrev rm_H_winnerSet : Room := { frames := 3, cells := 0, slots := 0, locals := 69 }
theorem hd_H_winnerSet : yn_H_winnerSet.cls ≠ "java/lang/invoke/MethodHandle" ∧ yn_H_winnerSet.cls ≠ "java/lang/invoke/VarHandle" ∧ (parseMethodDescriptor yn_H_winnerSet.desc).map (fun d => d.parameters.length) = some 1 := by decide +kernel
set_option maxHeartbeats 4000000 in
set_option maxRecDepth 100000 in
theorem ct_H_winnerSet (l : Launch) (G : List (Nat × Nat)) (hG : ow_lay G) (D : va_G) (cA : Nat → ClassId) (ad : Nat → Nat) (F : Nat) (o0 : Nat) (k0 : ow_kd G o0 = (3, 4)) (o1 : Nat) (k1 : ow_kd G o1 = (3, 1)) (M : om_M) (Q : Int32 → om_M → Prop) (h : wp_H_winnerSet F o0 o1 M Q) : Met l yn_H_winnerSet (ow_ws yn_H_winnerSet cb_H_winnerSet 5 (some .int)) rm_H_winnerSet (ow_Pc G D cA ad M [.ref (ad o0), .ref (ad o1)]) (ow_Qi G D cA ad Q) 0 0 (ow_A G ad) := by
  refine Met.ofW (cc := cb_H_winnerSet) (maxL := 5) (ret := (some .int)) (by decide) rfl ?_
  intro p e s m args below meth c s₁ B hml hv
  obtain ⟨rfl, hB⟩ := hv
  have hx := B.exec
  have hb := B.bytes
  have hr := B.returns
  have hlocks := B.notSynchronized
  have hts : ∀ w ∈ lw_g, w.before ([.ref (ad o0), .ref (ad o1)] : List Value).toArray s = true := fun w h => atoms_spec (ws := ow_ws yn_H_winnerSet cb_H_winnerSet 5 (some .int)) B.pre w (List.mem_cons_of_mem _ h)
  have hown : s.vm.findClass "BallotDesk$Paths" = some m.cls := findClass_of_methodNamed B.named
  clear B
  have L67 : ∀  (K12 : om_M × Int32 × Int32 → Prop) (hK12 : ∀ (M : om_M) (x2 : Int32) (x3 : Int32) (H : Heap) (locs : List Loc) (ls : Array Slot), K12 (M, x2, x3) → ow_B G D cA ad (ow_A G ad) M s s.heap H locs → lv_has ls 5 [(0, .ref (ad o0)), (1, .ref (ad o1)), (2, .int x2), (3, .int x3)] → W p l e rm_H_winnerSet s m ([.ref (ad o0), .ref (ad o1)] : List Value).toArray below meth c H locs 0 0 (MQ below (ow_Qi G D cA ad Q) ([.ref (ad o0), .ref (ad o1)] : List Value).toArray s 0 0 (ow_A G ad)) (F0 m 12 ls [])) (M : om_M) (x2 : Int32) (x3 : Int32)  (H : Heap) (locs : List Loc) (ls : Array Slot), wp_H_winnerSet_67 F o0 o1 Q  K12 M x2 x3  → ow_B G D cA ad (ow_A G ad) M s s.heap H locs → lv_has ls 5 [(0, .ref (ad o0)), (1, .ref (ad o1)), (2, .int x2), (3, .int x3)] → W p l e rm_H_winnerSet s m ([.ref (ad o0), .ref (ad o1)] : List Value).toArray below meth c H locs 0 0 (MQ below (ow_Qi G D cA ad Q) ([.ref (ad o0), .ref (ad o1)] : List Value).toArray s 0 0 (ow_A G ad)) (F0 m 67 ls []) := by
    intro  K12 hK12 M x2 x3 H locs ls h hB hl
    refine lv_iinc hx hb dc_H_winnerSet_67 hl (k := 3) rfl rfl (by decide) rfl (fun ls hl => ?_)
    refine lv_goto hx hb dc_H_winnerSet_70 rfl ?_
    exact hK12 _ _ _ _ _ _ h hB (lv_sub hl [1, 2, 3, 0] rfl)
  have L61 : ∀ (x3 : Int32) (K12 : om_M × Int32 × Int32 → Prop) (hK12 : ∀ (M : om_M) (x2 : Int32) (x3 : Int32) (H : Heap) (locs : List Loc) (ls : Array Slot), K12 (M, x2, x3) → ow_B G D cA ad (ow_A G ad) M s s.heap H locs → lv_has ls 5 [(0, .ref (ad o0)), (1, .ref (ad o1)), (2, .int x2), (3, .int x3)] → W p l e rm_H_winnerSet s m ([.ref (ad o0), .ref (ad o1)] : List Value).toArray below meth c H locs 0 0 (MQ below (ow_Qi G D cA ad Q) ([.ref (ad o0), .ref (ad o1)] : List Value).toArray s 0 0 (ow_A G ad)) (F0 m 12 ls [])) (K23 : om_M × Int32 × Int32 → Prop) (hK23 : ∀ (M : om_M) (x2 : Int32) (x4 : Int32) (H : Heap) (locs : List Loc) (ls : Array Slot), K23 (M, x2, x4) → ow_B G D cA ad (ow_A G ad) M s s.heap H locs → lv_has ls 5 [(0, .ref (ad o0)), (1, .ref (ad o1)), (2, .int x2), (3, .int x3), (4, .int x4)] → W p l e rm_H_winnerSet s m ([.ref (ad o0), .ref (ad o1)] : List Value).toArray below meth c H locs 0 0 (MQ below (ow_Qi G D cA ad Q) ([.ref (ad o0), .ref (ad o1)] : List Value).toArray s 0 0 (ow_A G ad)) (F0 m 23 ls [])) (M : om_M) (x2 : Int32) (x4 : Int32)  (H : Heap) (locs : List Loc) (ls : Array Slot), wp_H_winnerSet_61 F o0 o1 Q x3 K12 K23 M x2 x4  → ow_B G D cA ad (ow_A G ad) M s s.heap H locs → lv_has ls 5 [(0, .ref (ad o0)), (1, .ref (ad o1)), (2, .int x2), (3, .int x3), (4, .int x4)] → W p l e rm_H_winnerSet s m ([.ref (ad o0), .ref (ad o1)] : List Value).toArray below meth c H locs 0 0 (MQ below (ow_Qi G D cA ad Q) ([.ref (ad o0), .ref (ad o1)] : List Value).toArray s 0 0 (ow_A G ad)) (F0 m 61 ls []) := by
    intro x3 K12 hK12 K23 hK23 M x2 x4 H locs ls h hB hl
    refine lv_iinc hx hb dc_H_winnerSet_61 hl (k := 4) rfl rfl (by decide) rfl (fun ls hl => ?_)
    refine lv_goto hx hb dc_H_winnerSet_64 rfl ?_
    exact hK23 _ _ _ _ _ _ h hB (lv_sub hl [1, 2, 3, 4, 0] rfl)
  have B23 : ∀ (x3 : Int32) (K12 : om_M × Int32 × Int32 → Prop) (hK12 : ∀ (M : om_M) (x2 : Int32) (x3 : Int32) (H : Heap) (locs : List Loc) (ls : Array Slot), K12 (M, x2, x3) → ow_B G D cA ad (ow_A G ad) M s s.heap H locs → lv_has ls 5 [(0, .ref (ad o0)), (1, .ref (ad o1)), (2, .int x2), (3, .int x3)] → W p l e rm_H_winnerSet s m ([.ref (ad o0), .ref (ad o1)] : List Value).toArray below meth c H locs 0 0 (MQ below (ow_Qi G D cA ad Q) ([.ref (ad o0), .ref (ad o1)] : List Value).toArray s 0 0 (ow_A G ad)) (F0 m 12 ls [])) (K23 : om_M × Int32 × Int32 → Prop) (hK23 : ∀ (M : om_M) (x2 : Int32) (x4 : Int32) (H : Heap) (locs : List Loc) (ls : Array Slot), K23 (M, x2, x4) → ow_B G D cA ad (ow_A G ad) M s s.heap H locs → lv_has ls 5 [(0, .ref (ad o0)), (1, .ref (ad o1)), (2, .int x2), (3, .int x3), (4, .int x4)] → W p l e rm_H_winnerSet s m ([.ref (ad o0), .ref (ad o1)] : List Value).toArray below meth c H locs 0 0 (MQ below (ow_Qi G D cA ad Q) ([.ref (ad o0), .ref (ad o1)] : List Value).toArray s 0 0 (ow_A G ad)) (F0 m 23 ls [])) (M : om_M) (x2 : Int32) (x4 : Int32) (H : Heap) (locs : List Loc) (ls : Array Slot), wp_H_winnerSet_23b F o0 o1 Q x3 K12 K23 M x2 x4 → ow_B G D cA ad (ow_A G ad) M s s.heap H locs → lv_has ls 5 [(0, .ref (ad o0)), (1, .ref (ad o1)), (2, .int x2), (3, .int x3), (4, .int x4)] → W p l e rm_H_winnerSet s m ([.ref (ad o0), .ref (ad o1)] : List Value).toArray below meth c H locs 0 0 (MQ below (ow_Qi G D cA ad Q) ([.ref (ad o0), .ref (ad o1)] : List Value).toArray s 0 0 (ow_A G ad)) (F0 m 23 ls []) := by
    intro x3 K12 hK12 K23 hK23 M x2 x4 H locs ls h hB hl
    refine lv_iload hx hb dc_H_winnerSet_23 (lv_at hl 4 rfl) ?_
    refine lv_aload_n hx hb dc_H_winnerSet_25 rfl (lv_at hl 1 rfl) ?_
    refine ow_get hx hb hts iw_P hown hB k1 rfl 5 (by decide) mw_60 rfl dc_H_winnerSet_26 ?_
    obtain ⟨h1, h2⟩ := h
    refine lv_icmp_ge hx hb dc_H_winnerSet_29 rfl (fun hc => ?_) (fun hc => ?_)
    · have h := h1 hc
      exact L67 K12 hK12 _ _ _ _ _ _ h hB (lv_sub hl [0, 1, 2, 3] rfl)
    · have h := h2 hc
      refine lv_aload_n hx hb dc_H_winnerSet_32 rfl (lv_at hl 0 rfl) ?_
      refine ow_get hx hb hts iw_H hown hB k0 rfl 0 (by decide) mw_145 rfl dc_H_winnerSet_33 ?_
      refine lv_iload_n hx hb dc_H_winnerSet_36 rfl (lv_at hl 3 rfl) ?_
      obtain ⟨hi1, h⟩ := h
      refine ow_aald hx hb hB (ly_H_strength hG k0) (by decide) hi1 dc_H_winnerSet_37 ?_
      refine lv_iload hx hb dc_H_winnerSet_38 (lv_at hl 4 rfl) ?_
      obtain ⟨hi2, h⟩ := h
      refine ow_iald hx hb hB (ly_row2 hG (ly_H_strength hG k0) hi1) hi2 dc_H_winnerSet_40 ?_
      refine lv_aload_n hx hb dc_H_winnerSet_41 rfl (lv_at hl 0 rfl) ?_
      refine ow_get hx hb hts iw_H hown hB k0 rfl 0 (by decide) mw_145 rfl dc_H_winnerSet_42 ?_
      refine lv_iload hx hb dc_H_winnerSet_45 (lv_at hl 4 rfl) ?_
      refine ow_aald hx hb hB (ly_H_strength hG k0) (by decide) hi2 dc_H_winnerSet_47 ?_
      refine lv_iload_n hx hb dc_H_winnerSet_48 rfl (lv_at hl 3 rfl) ?_
      refine ow_iald hx hb hB (ly_row2 hG (ly_H_strength hG k0) hi2) hi1 dc_H_winnerSet_49 ?_
      obtain ⟨h1, h2⟩ := h
      refine lv_icmp_ge hx hb dc_H_winnerSet_50 rfl (fun hc => ?_) (fun hc => ?_)
      · have h := h1 hc
        exact L61 _ K12 hK12 K23 hK23 _ _ _ _ _ _ h hB (lv_sub hl [0, 1, 2, 3, 4] rfl)
      · have h := h2 hc
        refine lv_iload_n hx hb dc_H_winnerSet_53 rfl (lv_at hl 2 rfl) ?_
        refine lv_iconst (v := 1) hx hb dc_H_winnerSet_54 rfl ?_
        refine lv_iload_n hx hb dc_H_winnerSet_55 rfl (lv_at hl 3 rfl) ?_
        refine lv_ishl hx hb dc_H_winnerSet_56 ?_
        refine lv_iconst (v := (-1)) hx hb dc_H_winnerSet_57 rfl ?_
        refine lv_ixor hx hb dc_H_winnerSet_58 ?_
        refine lv_iand hx hb dc_H_winnerSet_59 ?_
        refine lv_istore_n hx hb dc_H_winnerSet_60 rfl hl (by decide) rfl (fun ls hl => ?_)
        exact L61 _ K12 hK12 K23 hK23 _ _ _ _ _ _ h hB (lv_sub hl [1, 2, 0, 3, 4] rfl)
  have L23 : ∀ (x3 : Int32) (K12 : om_M × Int32 × Int32 → Prop) (hK12 : ∀ (M : om_M) (x2 : Int32) (x3 : Int32) (H : Heap) (locs : List Loc) (ls : Array Slot), K12 (M, x2, x3) → ow_B G D cA ad (ow_A G ad) M s s.heap H locs → lv_has ls 5 [(0, .ref (ad o0)), (1, .ref (ad o1)), (2, .int x2), (3, .int x3)] → W p l e rm_H_winnerSet s m ([.ref (ad o0), .ref (ad o1)] : List Value).toArray below meth c H locs 0 0 (MQ below (ow_Qi G D cA ad Q) ([.ref (ad o0), .ref (ad o1)] : List Value).toArray s 0 0 (ow_A G ad)) (F0 m 12 ls [])) (M : om_M) (x2 : Int32) (x4 : Int32) (H : Heap) (locs : List Loc) (ls : Array Slot), wp_H_winnerSet_23 F o0 o1 Q x3 K12 M x2 x4 → ow_B G D cA ad (ow_A G ad) M s s.heap H locs → lv_has ls 5 [(0, .ref (ad o0)), (1, .ref (ad o1)), (2, .int x2), (3, .int x3), (4, .int x4)] → W p l e rm_H_winnerSet s m ([.ref (ad o0), .ref (ad o1)] : List Value).toArray below meth c H locs 0 0 (MQ below (ow_Qi G D cA ad Q) ([.ref (ad o0), .ref (ad o1)] : List Value).toArray s 0 0 (ow_A G ad)) (F0 m 23 ls []) := by
    intro x3 K12 hK12
    have step : ∀ (k : Nat) (M : om_M) (x2 : Int32) (x4 : Int32) (H : Heap) (locs : List Loc) (ls : Array Slot), ow_lp (fun (z : om_M × Int32 × Int32) K => wp_H_winnerSet_23b F o0 o1 Q x3 K12 K z.1 z.2.1 z.2.2) k (M, x2, x4) → ow_B G D cA ad (ow_A G ad) M s s.heap H locs → lv_has ls 5 [(0, .ref (ad o0)), (1, .ref (ad o1)), (2, .int x2), (3, .int x3), (4, .int x4)] → W p l e rm_H_winnerSet s m ([.ref (ad o0), .ref (ad o1)] : List Value).toArray below meth c H locs 0 0 (MQ below (ow_Qi G D cA ad Q) ([.ref (ad o0), .ref (ad o1)] : List Value).toArray s 0 0 (ow_A G ad)) (F0 m 23 ls []) := by
      intro k
      induction k with
      | zero => intro M x2 x4 H locs ls h hB hl; exact False.elim h
      | succ k ih => intro M x2 x4 H locs ls h hB hl; exact B23 x3 K12 hK12 (ow_lp _ k) (fun M x2 x4 H locs ls h hB  hl => ih M x2 x4  H locs ls h hB hl) M x2 x4 H locs ls h hB hl
    intro M x2 x4 H locs ls h hB hl
    exact step F M x2 x4 H locs ls h hB hl
  have B12 : ∀   (K12 : om_M × Int32 × Int32 → Prop) (hK12 : ∀ (M : om_M) (x2 : Int32) (x3 : Int32) (H : Heap) (locs : List Loc) (ls : Array Slot), K12 (M, x2, x3) → ow_B G D cA ad (ow_A G ad) M s s.heap H locs → lv_has ls 5 [(0, .ref (ad o0)), (1, .ref (ad o1)), (2, .int x2), (3, .int x3)] → W p l e rm_H_winnerSet s m ([.ref (ad o0), .ref (ad o1)] : List Value).toArray below meth c H locs 0 0 (MQ below (ow_Qi G D cA ad Q) ([.ref (ad o0), .ref (ad o1)] : List Value).toArray s 0 0 (ow_A G ad)) (F0 m 12 ls [])) (M : om_M) (x2 : Int32) (x3 : Int32) (H : Heap) (locs : List Loc) (ls : Array Slot), wp_H_winnerSet_12b F o0 o1 Q   K12 M x2 x3 → ow_B G D cA ad (ow_A G ad) M s s.heap H locs → lv_has ls 5 [(0, .ref (ad o0)), (1, .ref (ad o1)), (2, .int x2), (3, .int x3)] → W p l e rm_H_winnerSet s m ([.ref (ad o0), .ref (ad o1)] : List Value).toArray below meth c H locs 0 0 (MQ below (ow_Qi G D cA ad Q) ([.ref (ad o0), .ref (ad o1)] : List Value).toArray s 0 0 (ow_A G ad)) (F0 m 12 ls []) := by
    intro   K12 hK12 M x2 x3 H locs ls h hB hl
    refine lv_iload_n hx hb dc_H_winnerSet_12 rfl (lv_at hl 3 rfl) ?_
    refine lv_aload_n hx hb dc_H_winnerSet_13 rfl (lv_at hl 1 rfl) ?_
    refine ow_get hx hb hts iw_P hown hB k1 rfl 5 (by decide) mw_60 rfl dc_H_winnerSet_14 ?_
    obtain ⟨h1, h2⟩ := h
    refine lv_icmp_ge hx hb dc_H_winnerSet_17 rfl (fun hc => ?_) (fun hc => ?_)
    · have h := h1 hc
      refine lv_iload_n hx hb dc_H_winnerSet_73 rfl (lv_at hl 2 rfl) ?_
      exact ow_iret hx hb hr hlocks hB h dc_H_winnerSet_74
    · have h := h2 hc
      refine lv_iconst (v := 0) hx hb dc_H_winnerSet_20 rfl ?_
      refine lv_istore hx hb dc_H_winnerSet_21 hl (by decide) rfl (fun ls hl => ?_)
      exact L23 _ K12 hK12 _ _ _ _ _ _ h hB (lv_sub hl [1, 2, 3, 4, 0] rfl)
  have L12 : ∀   (M : om_M) (x2 : Int32) (x3 : Int32) (H : Heap) (locs : List Loc) (ls : Array Slot), wp_H_winnerSet_12 F o0 o1 Q   M x2 x3 → ow_B G D cA ad (ow_A G ad) M s s.heap H locs → lv_has ls 5 [(0, .ref (ad o0)), (1, .ref (ad o1)), (2, .int x2), (3, .int x3)] → W p l e rm_H_winnerSet s m ([.ref (ad o0), .ref (ad o1)] : List Value).toArray below meth c H locs 0 0 (MQ below (ow_Qi G D cA ad Q) ([.ref (ad o0), .ref (ad o1)] : List Value).toArray s 0 0 (ow_A G ad)) (F0 m 12 ls []) := by
    have step : ∀ (k : Nat) (M : om_M) (x2 : Int32) (x3 : Int32) (H : Heap) (locs : List Loc) (ls : Array Slot), ow_lp (fun (z : om_M × Int32 × Int32) K => wp_H_winnerSet_12b F o0 o1 Q   K z.1 z.2.1 z.2.2) k (M, x2, x3) → ow_B G D cA ad (ow_A G ad) M s s.heap H locs → lv_has ls 5 [(0, .ref (ad o0)), (1, .ref (ad o1)), (2, .int x2), (3, .int x3)] → W p l e rm_H_winnerSet s m ([.ref (ad o0), .ref (ad o1)] : List Value).toArray below meth c H locs 0 0 (MQ below (ow_Qi G D cA ad Q) ([.ref (ad o0), .ref (ad o1)] : List Value).toArray s 0 0 (ow_A G ad)) (F0 m 12 ls []) := by
      intro k
      induction k with
      | zero => intro M x2 x3 H locs ls h hB hl; exact False.elim h
      | succ k ih => intro M x2 x3 H locs ls h hB hl; exact B12   (ow_lp _ k) (fun M x2 x3 H locs ls h hB  hl => ih M x2 x3  H locs ls h hB hl) M x2 x3 H locs ls h hB hl
    intro M x2 x3 H locs ls h hB hl
    exact step F M x2 x3 H locs ls h hB hl
  have hl := lv_entry ([.ref (ad o0), .ref (ad o1)]) (n := 5) (Nat.le_of_ble_eq_true rfl)
  rw [lg_entry_eq]
  generalize (lg_sl ([.ref (ad o0), .ref (ad o1)]) ++ List.replicate (5 - (lg_sl ([.ref (ad o0), .ref (ad o1)])).length) Slot.unset).toArray = ls at hl ⊢
  have hl : lv_has ls 5 [(0, .ref (ad o0)), (1, .ref (ad o1))] := hl
  show W p l e rm_H_winnerSet s m _ below meth c s.heap [] 0 0 _ _
  refine lv_aload_n hx hb dc_H_winnerSet_0 rfl (lv_at hl 0 rfl) ?_
  refine lv_aload_n hx hb dc_H_winnerSet_1 rfl (lv_at hl 1 rfl) ?_
  refine ow_callv (va_runV (As := [.ref (ad o1)]) (rest := []) ⟨hx, hb, hml, hown, hts⟩ (ct_H_measure l G hG D cA ad F _ k0 _ k1 _ _ h) ⟨ow_cb 1 hts mw_538 mw_8 mw_535 rfl rfl hd_H_measure ⟨Nat.le_of_ble_eq_true rfl, Nat.le_of_ble_eq_true rfl⟩, hts _ mw_536, hts _ mw_537⟩ (ow_preV hB k0 rfl) rfl rfl hl.1 rfl (lv_room (Nat.le_of_ble_eq_true rfl)) dc_H_winnerSet_2 ⟨Nat.zero_le _, Nat.zero_le _⟩) hB (fun M3 H locs h hB => ?_)
  refine lv_aload_n hx hb dc_H_winnerSet_5 rfl (lv_at hl 1 rfl) ?_
  refine ow_calli (va_runV (As := []) (rest := []) ⟨hx, hb, hml, hown, hts⟩ (ct_P_everyone l G hG D cA ad F _ k1 _ _ h) ⟨ow_cb 0 hts mw_260 mw_2 mw_548 rfl rfl hd_P_everyone ⟨Nat.le_of_ble_eq_true rfl, Nat.le_of_ble_eq_true rfl⟩, hts _ mw_258, hts _ mw_259⟩ (ow_preV hB k1 rfl) rfl rfl hl.1 rfl (lv_room (Nat.le_of_ble_eq_true rfl)) dc_H_winnerSet_6 ⟨Nat.zero_le _, Nat.zero_le _⟩) hB (fun r5 M4 H locs h hB => ?_)
  refine lv_istore_n hx hb dc_H_winnerSet_9 rfl hl (by decide) rfl (fun ls hl => ?_)
  refine lv_iconst (v := 0) hx hb dc_H_winnerSet_10 rfl ?_
  refine lv_istore_n hx hb dc_H_winnerSet_11 rfl hl (by decide) rfl (fun ls hl => ?_)
  exact L12 _ _ _ _ _ _ h hB (lv_sub hl [2, 3, 1, 0] rfl)
