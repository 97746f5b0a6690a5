def wp_A_sumAgainst_66 (F : Nat) (o0 : Nat) (o1 : Nat) (x2 : Int32) (Q : om_M → Prop) (o3 : Nat) (K10 : om_M × Int32 → Prop) (M : om_M) (x4 : Int32)  : Prop := K10 (M, x4 + 1)
def wp_A_sumAgainst_39b (F : Nat) (o0 : Nat) (o1 : Nat) (x2 : Int32) (Q : om_M → Prop) (o3 : Nat) (x4 : Int32) (x5 : Int32) (x6 : Int32) (K10 : om_M × Int32 → Prop) (K39 : om_M × Int32 → Prop) (M : om_M) (x7 : Int32) : Prop := ((x5 ≤ x7 → wp_A_sumAgainst_66 F o0 o1 x2 Q o3 K10 M x4) ∧ (¬ x5 ≤ x7 → vp_in x7 128 ∧ vp_in (x5 + x7) 128 ∧ K39 (om_up M o3 (x5 + x7).toNatClampNeg ((M.1 o3 x7.toNatClampNeg) + x6), x7 + 1)))
def wp_A_sumAgainst_39 (F : Nat) (o0 : Nat) (o1 : Nat) (x2 : Int32) (Q : om_M → Prop) (o3 : Nat) (x4 : Int32) (x5 : Int32) (x6 : Int32) (K10 : om_M × Int32 → Prop) (M : om_M) (x7 : Int32) : Prop := ow_lp (fun (z : om_M × Int32) K => wp_A_sumAgainst_39b F o0 o1 x2 Q o3 x4 x5 x6 K10 K z.1 z.2) F (M, x7)
def wp_A_sumAgainst_10b (F : Nat) (o0 : Nat) (o1 : Nat) (x2 : Int32) (Q : om_M → Prop) (o3 : Nat)  (K10 : om_M × Int32 → Prop) (M : om_M) (x4 : Int32) : Prop := (((M.1 o1 5) ≤ x4 → Q M) ∧ (¬ (M.1 o1 5) ≤ x4 → vp_in x4 7 ∧ vp_in x2 7 ∧ wp_A_sumAgainst_39 F o0 o1 x2 Q o3 x4 ((1 : Int32) <<< (x4 &&& 31)) (M.1 (o1 + 12 + 1 + x4.toNatClampNeg) x2.toNatClampNeg) K10 M 0))
def wp_A_sumAgainst_10 (F : Nat) (o0 : Nat) (o1 : Nat) (x2 : Int32) (Q : om_M → Prop) (o3 : Nat)  (M : om_M) (x4 : Int32) : Prop := ow_lp (fun (z : om_M × Int32) K => wp_A_sumAgainst_10b F o0 o1 x2 Q o3  K z.1 z.2) F (M, x4)
def wp_A_sumAgainst (F : Nat) (o0 : Nat) (o1 : Nat) (x2 : Int32) (M : om_M) (Q : om_M → Prop) : Prop := vp_in x2 7 ∧ wp_A_sumAgainst_10 F o0 o1 x2 Q (o0 + 2 + 1 + x2.toNatClampNeg) M 0
def wp_A_weigh_97 (F : Nat) (o0 : Nat) (o1 : Nat) (Q : om_M → Prop) (x2 : Int32) (K29 : om_M × Int32 → Prop) (M : om_M) (x3 : Int32) (x4 : Int32)  : Prop := vp_in x3 128 ∧ K29 (om_up M (o0 + 1) x3.toNatClampNeg x4, x3 + 1)
def wp_A_weigh_91 (F : Nat) (o0 : Nat) (o1 : Nat) (Q : om_M → Prop) (x2 : Int32) (x3 : Int32) (K29 : om_M × Int32 → Prop) (K41 : om_M × Int32 × Int32 → Prop) (M : om_M) (x4 : Int32) (x5 : Int32)  : Prop := K41 (M, x4, x5 + 1)
def wp_A_weigh_41b (F : Nat) (o0 : Nat) (o1 : Nat) (Q : om_M → Prop) (x2 : Int32) (x3 : Int32) (K29 : om_M × Int32 → Prop) (K41 : om_M × Int32 × Int32 → Prop) (M : om_M) (x4 : Int32) (x5 : Int32) : Prop := (((M.1 o1 5) ≤ x5 → wp_A_weigh_97 F o0 o1 Q x2 K29 M x3 x4) ∧ (¬ (M.1 o1 5) ≤ x5 → (((x3 &&& (((1 : Int32) <<< (x5 &&& 31)) ^^^ (-1))) = x3 → wp_A_weigh_91 F o0 o1 Q x2 x3 K29 K41 M x4 x5) ∧ (¬ (x3 &&& (((1 : Int32) <<< (x5 &&& 31)) ^^^ (-1))) = x3 → vp_in (x3 &&& (((1 : Int32) <<< (x5 &&& 31)) ^^^ (-1))) 128 ∧ vp_in x5 7 ∧ wp_A_weigh_91 F o0 o1 Q x2 x3 K29 K41 M (if ((M.1 (o0 + 1) (x3 &&& (((1 : Int32) <<< (x5 &&& 31)) ^^^ (-1))).toNatClampNeg) + (M.1 (o0 + 2 + 1 + x5.toNatClampNeg) (x3 &&& (((1 : Int32) <<< (x5 &&& 31)) ^^^ (-1))).toNatClampNeg)) < x4 then (M.1 (o0 + 1) (x3 &&& (((1 : Int32) <<< (x5 &&& 31)) ^^^ (-1))).toNatClampNeg) + (M.1 (o0 + 2 + 1 + x5.toNatClampNeg) (x3 &&& (((1 : Int32) <<< (x5 &&& 31)) ^^^ (-1))).toNatClampNeg) else x4) x5))))
def wp_A_weigh_41 (F : Nat) (o0 : Nat) (o1 : Nat) (Q : om_M → Prop) (x2 : Int32) (x3 : Int32) (K29 : om_M × Int32 → Prop) (M : om_M) (x4 : Int32) (x5 : Int32) : Prop := ow_lp (fun (z : om_M × Int32 × Int32) K => wp_A_weigh_41b F o0 o1 Q x2 x3 K29 K z.1 z.2.1 z.2.2) F (M, x4, x5)
def wp_A_weigh_29b (F : Nat) (o0 : Nat) (o1 : Nat) (Q : om_M → Prop) (x2 : Int32)  (K29 : om_M × Int32 → Prop) (M : om_M) (x3 : Int32) : Prop := ((x2 < x3 → Q M) ∧ (¬ x2 < x3 → wp_A_weigh_41 F o0 o1 Q x2 x3 K29 M 42000021 0))
def wp_A_weigh_29 (F : Nat) (o0 : Nat) (o1 : Nat) (Q : om_M → Prop) (x2 : Int32)  (M : om_M) (x3 : Int32) : Prop := ow_lp (fun (z : om_M × Int32) K => wp_A_weigh_29b F o0 o1 Q x2  K z.1 z.2) F (M, x3)
def wp_A_weigh_22 (F : Nat) (o0 : Nat) (o1 : Nat) (Q : om_M → Prop)   (M : om_M)   : Prop := wp_P_everyone F o1 M (fun r5 M4 => wp_A_weigh_29 F o0 o1 Q r5 M4 1)
def wp_A_weigh_2b (F : Nat) (o0 : Nat) (o1 : Nat) (Q : om_M → Prop)   (K2 : om_M × Int32 → Prop) (M : om_M) (x2 : Int32) : Prop := (((M.1 o1 5) ≤ x2 → wp_A_weigh_22 F o0 o1 Q M) ∧ (¬ (M.1 o1 5) ≤ x2 → wp_A_sumAgainst F o0 o1 x2 M (fun M6 => K2 (M6, x2 + 1))))
def wp_A_weigh_2 (F : Nat) (o0 : Nat) (o1 : Nat) (Q : om_M → Prop)   (M : om_M) (x2 : Int32) : Prop := ow_lp (fun (z : om_M × Int32) K => wp_A_weigh_2b F o0 o1 Q   K z.1 z.2) F (M, x2)
def wp_A_weigh (F : Nat) (o0 : Nat) (o1 : Nat) (M : om_M) (Q : om_M → Prop) : Prop := wp_A_weigh_2 F o0 o1 Q M 0
def wp_A_bestLeaders_61 (F : Nat) (o0 : Nat) (x1 : Int32) (x2 : Int32) (Q : Int32 → om_M → Prop)  (K5 : om_M × Int32 × Int32 → Prop) (M : om_M) (x3 : Int32) (x4 : Int32)  : Prop := K5 (M, x3, x4 + 1)
def wp_A_bestLeaders_5b (F : Nat) (o0 : Nat) (x1 : Int32) (x2 : Int32) (Q : Int32 → om_M → Prop)   (K5 : om_M × Int32 × Int32 → Prop) (M : om_M) (x3 : Int32) (x4 : Int32) : Prop := ((x2 ≤ x4 → Q x3 M) ∧ (¬ x2 ≤ x4 → (((x1 &&& (((1 : Int32) <<< (x4 &&& 31)) ^^^ (-1))) = x1 → wp_A_bestLeaders_61 F o0 x1 x2 Q K5 M x3 x4) ∧ (¬ (x1 &&& (((1 : Int32) <<< (x4 &&& 31)) ^^^ (-1))) = x1 → vp_in (x1 &&& (((1 : Int32) <<< (x4 &&& 31)) ^^^ (-1))) 128 ∧ vp_in x4 7 ∧ vp_in x1 128 ∧ ((((M.1 (o0 + 1) (x1 &&& (((1 : Int32) <<< (x4 &&& 31)) ^^^ (-1))).toNatClampNeg) + (M.1 (o0 + 2 + 1 + x4.toNatClampNeg) (x1 &&& (((1 : Int32) <<< (x4 &&& 31)) ^^^ (-1))).toNatClampNeg)) = (M.1 (o0 + 1) x1.toNatClampNeg) → wp_A_bestLeaders_61 F o0 x1 x2 Q K5 M (x3 ||| ((1 : Int32) <<< (x4 &&& 31))) x4) ∧ (¬ ((M.1 (o0 + 1) (x1 &&& (((1 : Int32) <<< (x4 &&& 31)) ^^^ (-1))).toNatClampNeg) + (M.1 (o0 + 2 + 1 + x4.toNatClampNeg) (x1 &&& (((1 : Int32) <<< (x4 &&& 31)) ^^^ (-1))).toNatClampNeg)) = (M.1 (o0 + 1) x1.toNatClampNeg) → wp_A_bestLeaders_61 F o0 x1 x2 Q K5 M x3 x4))))))
def wp_A_bestLeaders_5 (F : Nat) (o0 : Nat) (x1 : Int32) (x2 : Int32) (Q : Int32 → om_M → Prop)   (M : om_M) (x3 : Int32) (x4 : Int32) : Prop := ow_lp (fun (z : om_M × Int32 × Int32) K => wp_A_bestLeaders_5b F o0 x1 x2 Q   K z.1 z.2.1 z.2.2) F (M, x3, x4)
def wp_A_bestLeaders (F : Nat) (o0 : Nat) (x1 : Int32) (x2 : Int32) (M : om_M) (Q : Int32 → om_M → Prop) : Prop := wp_A_bestLeaders_5 F o0 x1 x2 Q M 0 0
def wp_A_leastOfAll (F : Nat) (o0 : Nat) (o1 : Nat) (M : om_M) (Q : Int64 → om_M → Prop) : Prop := wp_A_weigh F o0 o1 M (fun M1 => wp_P_everyone F o1 M1 (fun r3 M2 => vp_in r3 128 ∧ Q ((M2.1 (o0 + 1) r3.toNatClampNeg : Int32).toInt64) M2))
def wp_A_winnerSet (F : Nat) (o0 : Nat) (o1 : Nat) (M : om_M) (Q : Int32 → om_M → Prop) : Prop := wp_A_weigh F o0 o1 M (fun M1 => wp_P_everyone F o1 M1 (fun r3 M2 => wp_A_bestLeaders F o0 r3 (M2.1 o1 5) M2 (fun r5 M4 => Q r5 M4)))
def wp_A_bestOrder_15b (F : Nat) (o0 : Nat) (o1 : Nat) (Q : Int32 → om_M → Prop)   (K15 : om_M × Int32 × Int32 × Int32 → Prop) (M : om_M) (x2 : Int32) (x3 : Int32) (x4 : Int32) : Prop := (((M.1 o1 5) ≤ x4 → Q x2 M) ∧ (¬ (M.1 o1 5) ≤ x4 → wp_A_bestLeaders F o0 x3 (M.1 o1 5) M (fun r2 M1 => wp_P_firstInTie F o1 r2 M1 (fun r4 M3 => K15 (M3, x2 ||| (r4 <<< (((3 : Int32) * x4) &&& 31)), x3 &&& (((1 : Int32) <<< (r4 &&& 31)) ^^^ (-1)), x4 + 1)))))
def wp_A_bestOrder_15 (F : Nat) (o0 : Nat) (o1 : Nat) (Q : Int32 → om_M → Prop)   (M : om_M) (x2 : Int32) (x3 : Int32) (x4 : Int32) : Prop := ow_lp (fun (z : om_M × Int32 × Int32 × Int32) K => wp_A_bestOrder_15b F o0 o1 Q   K z.1 z.2.1 z.2.2.1 z.2.2.2) F (M, x2, x3, x4)
def wp_A_bestOrder (F : Nat) (o0 : Nat) (o1 : Nat) (M : om_M) (Q : Int32 → om_M → Prop) : Prop := wp_A_weigh F o0 o1 M (fun M5 => wp_P_everyone F o1 M5 (fun r7 M6 => wp_A_bestOrder_15 F o0 o1 Q M6 0 r7 0))
abbrev rm_A_sumAgainst : Room := { frames := 0, cells := 0, slots := 0, locals := 0 }
theorem hd_A_sumAgainst : yn_A_sumAgainst.cls ≠ "java/lang/invoke/MethodHandle" ∧ yn_A_sumAgainst.cls ≠ "java/lang/invoke/VarHandle" ∧ (parseMethodDescriptor yn_A_sumAgainst.desc).map (fun d => d.parameters.length) = some 2 := by decide +kernel
set_option maxHeartbeats 4000000 in
set_option maxRecDepth 100000 in
theorem ct_A_sumAgainst (l : Launch) (G : List (Nat × Nat)) (hG : ow_lay G) (D : va_G) (cA : Nat → ClassId) (ad : Nat → Nat) (F : Nat) (o0 : Nat) (k0 : ow_kd G o0 = (3, 6)) (o1 : Nat) (k1 : ow_kd G o1 = (3, 1)) (x2 : Int32) (M : om_M) (Q : om_M → Prop) (h : wp_A_sumAgainst F o0 o1 x2 M Q) : Met l yn_A_sumAgainst (ow_ws yn_A_sumAgainst cb_A_sumAgainst 8 none) rm_A_sumAgainst (ow_Pc G D cA ad M [.ref (ad o0), .ref (ad o1), .int x2]) (ow_Qv G D cA ad Q) 0 0 (ow_A G ad) := by
  refine Met.ofW (cc := cb_A_sumAgainst) (maxL := 8) (ret := none) (by decide) rfl ?_
  intro p e s m args below meth c s₁ B hml hv
  obtain ⟨rfl, hB⟩ := hv
  have hx := B.exec
  have hb := B.bytes
  have hr := B.returns
  have hlocks := B.notSynchronized
  have hts : ∀ w ∈ lw_g, w.before ([.ref (ad o0), .ref (ad o1), .int x2] : List Value).toArray s = true := fun w h => atoms_spec (ws := ow_ws yn_A_sumAgainst cb_A_sumAgainst 8 none) B.pre w (List.mem_cons_of_mem _ h)
  have hown : s.vm.findClass "BallotDesk$Agreement" = some m.cls := findClass_of_methodNamed B.named
  clear B
  have L66 : ∀ (o3 : Nat) (k3 : ow_kd G o3 = (0, 128)) (K10 : om_M × Int32 → Prop) (hK10 : ∀ (M : om_M) (x4 : Int32) (H : Heap) (locs : List Loc) (ls : Array Slot), K10 (M, x4) → ow_B G D cA ad (ow_A G ad) M s s.heap H locs → lv_has ls 8 [(1, .ref (ad o1)), (2, .int x2), (3, .ref (ad o3)), (4, .int x4)] → W p l e rm_A_sumAgainst s m ([.ref (ad o0), .ref (ad o1), .int x2] : List Value).toArray below meth c H locs 0 0 (MQ below (ow_Qv G D cA ad Q) ([.ref (ad o0), .ref (ad o1), .int x2] : List Value).toArray s 0 0 (ow_A G ad)) (F0 m 10 ls [])) (M : om_M) (x4 : Int32)  (H : Heap) (locs : List Loc) (ls : Array Slot), wp_A_sumAgainst_66 F o0 o1 x2 Q o3 K10 M x4  → ow_B G D cA ad (ow_A G ad) M s s.heap H locs → lv_has ls 8 [(1, .ref (ad o1)), (2, .int x2), (3, .ref (ad o3)), (4, .int x4)] → W p l e rm_A_sumAgainst s m ([.ref (ad o0), .ref (ad o1), .int x2] : List Value).toArray below meth c H locs 0 0 (MQ below (ow_Qv G D cA ad Q) ([.ref (ad o0), .ref (ad o1), .int x2] : List Value).toArray s 0 0 (ow_A G ad)) (F0 m 66 ls []) := by
    intro o3 k3 K10 hK10 M x4 H locs ls h hB hl
    refine lv_iinc hx hb dc_A_sumAgainst_66 hl (k := 3) rfl rfl (by decide) rfl (fun ls hl => ?_)
    refine lv_goto hx hb dc_A_sumAgainst_69 rfl ?_
    exact hK10 _ _ _ _ _ h hB (lv_sub hl [1, 2, 3, 0] rfl)
  have B39 : ∀ (o3 : Nat) (x4 : Int32) (x5 : Int32) (x6 : Int32) (k3 : ow_kd G o3 = (0, 128)) (K10 : om_M × Int32 → Prop) (hK10 : ∀ (M : om_M) (x4 : Int32) (H : Heap) (locs : List Loc) (ls : Array Slot), K10 (M, x4) → ow_B G D cA ad (ow_A G ad) M s s.heap H locs → lv_has ls 8 [(1, .ref (ad o1)), (2, .int x2), (3, .ref (ad o3)), (4, .int x4)] → W p l e rm_A_sumAgainst s m ([.ref (ad o0), .ref (ad o1), .int x2] : List Value).toArray below meth c H locs 0 0 (MQ below (ow_Qv G D cA ad Q) ([.ref (ad o0), .ref (ad o1), .int x2] : List Value).toArray s 0 0 (ow_A G ad)) (F0 m 10 ls [])) (K39 : om_M × Int32 → Prop) (hK39 : ∀ (M : om_M) (x7 : Int32) (H : Heap) (locs : List Loc) (ls : Array Slot), K39 (M, x7) → ow_B G D cA ad (ow_A G ad) M s s.heap H locs → lv_has ls 8 [(1, .ref (ad o1)), (2, .int x2), (3, .ref (ad o3)), (4, .int x4), (5, .int x5), (6, .int x6), (7, .int x7)] → W p l e rm_A_sumAgainst s m ([.ref (ad o0), .ref (ad o1), .int x2] : List Value).toArray below meth c H locs 0 0 (MQ below (ow_Qv G D cA ad Q) ([.ref (ad o0), .ref (ad o1), .int x2] : List Value).toArray s 0 0 (ow_A G ad)) (F0 m 39 ls [])) (M : om_M) (x7 : Int32) (H : Heap) (locs : List Loc) (ls : Array Slot), wp_A_sumAgainst_39b F o0 o1 x2 Q o3 x4 x5 x6 K10 K39 M x7 → ow_B G D cA ad (ow_A G ad) M s s.heap H locs → lv_has ls 8 [(1, .ref (ad o1)), (2, .int x2), (3, .ref (ad o3)), (4, .int x4), (5, .int x5), (6, .int x6), (7, .int x7)] → W p l e rm_A_sumAgainst s m ([.ref (ad o0), .ref (ad o1), .int x2] : List Value).toArray below meth c H locs 0 0 (MQ below (ow_Qv G D cA ad Q) ([.ref (ad o0), .ref (ad o1), .int x2] : List Value).toArray s 0 0 (ow_A G ad)) (F0 m 39 ls []) := by
    intro o3 x4 x5 x6 k3 K10 hK10 K39 hK39 M x7 H locs ls h hB hl
    refine lv_iload hx hb dc_A_sumAgainst_39 (lv_at hl 6 rfl) ?_
    refine lv_iload hx hb dc_A_sumAgainst_41 (lv_at hl 4 rfl) ?_
    obtain ⟨h1, h2⟩ := h
    refine lv_icmp_ge hx hb dc_A_sumAgainst_43 rfl (fun hc => ?_) (fun hc => ?_)
    · have h := h1 hc
      exact L66 _ k3 K10 hK10 _ _ _ _ _ h hB (lv_sub hl [0, 1, 2, 3] rfl)
    · have h := h2 hc
      refine lv_aload_n hx hb dc_A_sumAgainst_46 rfl (lv_at hl 2 rfl) ?_
      refine lv_iload hx hb dc_A_sumAgainst_47 (lv_at hl 4 rfl) ?_
      refine lv_iload hx hb dc_A_sumAgainst_49 (lv_at hl 6 rfl) ?_
      refine lv_iadd hx hb dc_A_sumAgainst_51 ?_
      refine lv_aload_n hx hb dc_A_sumAgainst_52 rfl (lv_at hl 2 rfl) ?_
      refine lv_iload hx hb dc_A_sumAgainst_53 (lv_at hl 6 rfl) ?_
      obtain ⟨hi1, h⟩ := h
      refine ow_iald hx hb hB k3 hi1 dc_A_sumAgainst_55 ?_
      refine lv_iload hx hb dc_A_sumAgainst_56 (lv_at hl 5 rfl) ?_
      refine lv_iadd hx hb dc_A_sumAgainst_58 ?_
      obtain ⟨hi2, h⟩ := h
      refine ow_iast hx hb hB k3 hi2 dc_A_sumAgainst_59 (fun H locs hB => ?_)
      refine lv_iinc hx hb dc_A_sumAgainst_60 hl (k := 6) rfl rfl (by decide) rfl (fun ls hl => ?_)
      refine lv_goto hx hb dc_A_sumAgainst_63 rfl ?_
      exact hK39 _ _ _ _ _ h hB (lv_sub hl [1, 2, 3, 4, 5, 6, 0] rfl)
  have L39 : ∀ (o3 : Nat) (x4 : Int32) (x5 : Int32) (x6 : Int32) (k3 : ow_kd G o3 = (0, 128)) (K10 : om_M × Int32 → Prop) (hK10 : ∀ (M : om_M) (x4 : Int32) (H : Heap) (locs : List Loc) (ls : Array Slot), K10 (M, x4) → ow_B G D cA ad (ow_A G ad) M s s.heap H locs → lv_has ls 8 [(1, .ref (ad o1)), (2, .int x2), (3, .ref (ad o3)), (4, .int x4)] → W p l e rm_A_sumAgainst s m ([.ref (ad o0), .ref (ad o1), .int x2] : List Value).toArray below meth c H locs 0 0 (MQ below (ow_Qv G D cA ad Q) ([.ref (ad o0), .ref (ad o1), .int x2] : List Value).toArray s 0 0 (ow_A G ad)) (F0 m 10 ls [])) (M : om_M) (x7 : Int32) (H : Heap) (locs : List Loc) (ls : Array Slot), wp_A_sumAgainst_39 F o0 o1 x2 Q o3 x4 x5 x6 K10 M x7 → ow_B G D cA ad (ow_A G ad) M s s.heap H locs → lv_has ls 8 [(1, .ref (ad o1)), (2, .int x2), (3, .ref (ad o3)), (4, .int x4), (5, .int x5), (6, .int x6), (7, .int x7)] → W p l e rm_A_sumAgainst s m ([.ref (ad o0), .ref (ad o1), .int x2] : List Value).toArray below meth c H locs 0 0 (MQ below (ow_Qv G D cA ad Q) ([.ref (ad o0), .ref (ad o1), .int x2] : List Value).toArray s 0 0 (ow_A G ad)) (F0 m 39 ls []) := by
    intro o3 x4 x5 x6 k3 K10 hK10
    have step : ∀ (k : Nat) (M : om_M) (x7 : Int32) (H : Heap) (locs : List Loc) (ls : Array Slot), ow_lp (fun (z : om_M × Int32) K => wp_A_sumAgainst_39b F o0 o1 x2 Q o3 x4 x5 x6 K10 K z.1 z.2) k (M, x7) → ow_B G D cA ad (ow_A G ad) M s s.heap H locs → lv_has ls 8 [(1, .ref (ad o1)), (2, .int x2), (3, .ref (ad o3)), (4, .int x4), (5, .int x5), (6, .int x6), (7, .int x7)] → W p l e rm_A_sumAgainst s m ([.ref (ad o0), .ref (ad o1), .int x2] : List Value).toArray below meth c H locs 0 0 (MQ below (ow_Qv G D cA ad Q) ([.ref (ad o0), .ref (ad o1), .int x2] : List Value).toArray s 0 0 (ow_A G ad)) (F0 m 39 ls []) := by
      intro k
      induction k with
      | zero => intro M x7 H locs ls h hB hl; exact False.elim h
      | succ k ih => intro M x7 H locs ls h hB hl; exact B39 o3 x4 x5 x6 k3 K10 hK10 (ow_lp _ k) (fun M x7 H locs ls h hB  hl => ih M x7  H locs ls h hB hl) M x7 H locs ls h hB hl
    intro M x7 H locs ls h hB hl
    exact step F M x7 H locs ls h hB hl
  have B10 : ∀ (o3 : Nat) (k3 : ow_kd G o3 = (0, 128))  (K10 : om_M × Int32 → Prop) (hK10 : ∀ (M : om_M) (x4 : Int32) (H : Heap) (locs : List Loc) (ls : Array Slot), K10 (M, x4) → ow_B G D cA ad (ow_A G ad) M s s.heap H locs → lv_has ls 8 [(1, .ref (ad o1)), (2, .int x2), (3, .ref (ad o3)), (4, .int x4)] → W p l e rm_A_sumAgainst s m ([.ref (ad o0), .ref (ad o1), .int x2] : List Value).toArray below meth c H locs 0 0 (MQ below (ow_Qv G D cA ad Q) ([.ref (ad o0), .ref (ad o1), .int x2] : List Value).toArray s 0 0 (ow_A G ad)) (F0 m 10 ls [])) (M : om_M) (x4 : Int32) (H : Heap) (locs : List Loc) (ls : Array Slot), wp_A_sumAgainst_10b F o0 o1 x2 Q o3  K10 M x4 → ow_B G D cA ad (ow_A G ad) M s s.heap H locs → lv_has ls 8 [(1, .ref (ad o1)), (2, .int x2), (3, .ref (ad o3)), (4, .int x4)] → W p l e rm_A_sumAgainst s m ([.ref (ad o0), .ref (ad o1), .int x2] : List Value).toArray below meth c H locs 0 0 (MQ below (ow_Qv G D cA ad Q) ([.ref (ad o0), .ref (ad o1), .int x2] : List Value).toArray s 0 0 (ow_A G ad)) (F0 m 10 ls []) := by
    intro o3 k3  K10 hK10 M x4 H locs ls h hB hl
    refine lv_iload hx hb dc_A_sumAgainst_10 (lv_at hl 3 rfl) ?_
    refine lv_aload_n hx hb dc_A_sumAgainst_12 rfl (lv_at hl 0 rfl) ?_
    refine ow_get hx hb hts iw_P hown hB k1 rfl 5 (by decide) mw_65 rfl dc_A_sumAgainst_13 ?_
    obtain ⟨h1, h2⟩ := h
    refine lv_icmp_ge hx hb dc_A_sumAgainst_16 rfl (fun hc => ?_) (fun hc => ?_)
    · have h := h1 hc
      exact ow_vret hx hb hr hlocks hB h dc_A_sumAgainst_72
    · have h := h2 hc
      refine lv_iconst (v := 1) hx hb dc_A_sumAgainst_19 rfl ?_
      refine lv_iload hx hb dc_A_sumAgainst_20 (lv_at hl 3 rfl) ?_
      refine lv_ishl hx hb dc_A_sumAgainst_22 ?_
      refine lv_istore hx hb dc_A_sumAgainst_23 hl (by decide) rfl (fun ls hl => ?_)
      refine lv_aload_n hx hb dc_A_sumAgainst_25 rfl (lv_at hl 1 rfl) ?_
      refine ow_get hx hb hts iw_P hown hB k1 rfl 4 (by decide) mw_57 rfl dc_A_sumAgainst_26 ?_
      refine lv_iload hx hb dc_A_sumAgainst_29 (lv_at hl 4 rfl) ?_
      obtain ⟨hi3, h⟩ := h
      refine ow_aald hx hb hB (ly_P_ahead hG k1) (by decide) hi3 dc_A_sumAgainst_31 ?_
      refine lv_iload_n hx hb dc_A_sumAgainst_32 rfl (lv_at hl 2 rfl) ?_
      obtain ⟨hi4, h⟩ := h
      refine ow_iald hx hb hB (ly_row2 hG (ly_P_ahead hG k1) hi3) hi4 dc_A_sumAgainst_33 ?_
      refine lv_istore hx hb dc_A_sumAgainst_34 hl (by decide) rfl (fun ls hl => ?_)
      refine lv_iconst (v := 0) hx hb dc_A_sumAgainst_36 rfl ?_
      refine lv_istore hx hb dc_A_sumAgainst_37 hl (by decide) rfl (fun ls hl => ?_)
      exact L39 _ _ _ _ k3 K10 hK10 _ _ _ _ _ h hB (lv_sub hl [3, 4, 5, 6, 2, 1, 0] rfl)
  have L10 : ∀ (o3 : Nat) (k3 : ow_kd G o3 = (0, 128))  (M : om_M) (x4 : Int32) (H : Heap) (locs : List Loc) (ls : Array Slot), wp_A_sumAgainst_10 F o0 o1 x2 Q o3  M x4 → ow_B G D cA ad (ow_A G ad) M s s.heap H locs → lv_has ls 8 [(1, .ref (ad o1)), (2, .int x2), (3, .ref (ad o3)), (4, .int x4)] → W p l e rm_A_sumAgainst s m ([.ref (ad o0), .ref (ad o1), .int x2] : List Value).toArray below meth c H locs 0 0 (MQ below (ow_Qv G D cA ad Q) ([.ref (ad o0), .ref (ad o1), .int x2] : List Value).toArray s 0 0 (ow_A G ad)) (F0 m 10 ls []) := by
    intro o3 k3 
    have step : ∀ (k : Nat) (M : om_M) (x4 : Int32) (H : Heap) (locs : List Loc) (ls : Array Slot), ow_lp (fun (z : om_M × Int32) K => wp_A_sumAgainst_10b F o0 o1 x2 Q o3  K z.1 z.2) k (M, x4) → ow_B G D cA ad (ow_A G ad) M s s.heap H locs → lv_has ls 8 [(1, .ref (ad o1)), (2, .int x2), (3, .ref (ad o3)), (4, .int x4)] → W p l e rm_A_sumAgainst s m ([.ref (ad o0), .ref (ad o1), .int x2] : List Value).toArray below meth c H locs 0 0 (MQ below (ow_Qv G D cA ad Q) ([.ref (ad o0), .ref (ad o1), .int x2] : List Value).toArray s 0 0 (ow_A G ad)) (F0 m 10 ls []) := by
      intro k
      induction k with
      | zero => intro M x4 H locs ls h hB hl; exact False.elim h
      | succ k ih => intro M x4 H locs ls h hB hl; exact B10 o3 k3  (ow_lp _ k) (fun M x4 H locs ls h hB  hl => ih M x4  H locs ls h hB hl) M x4 H locs ls h hB hl
    intro M x4 H locs ls h hB hl
    exact step F M x4 H locs ls h hB hl
  have hl := lv_entry ([.ref (ad o0), .ref (ad o1), .int x2]) (n := 8) (Nat.le_of_ble_eq_true rfl)
  rw [lg_entry_eq]
  generalize (lg_sl ([.ref (ad o0), .ref (ad o1), .int x2]) ++ List.replicate (8 - (lg_sl ([.ref (ad o0), .ref (ad o1), .int x2])).length) Slot.unset).toArray = ls at hl ⊢
  have hl : lv_has ls 8 [(0, .ref (ad o0)), (1, .ref (ad o1)), (2, .int x2)] := hl
  show W p l e rm_A_sumAgainst s m _ below meth c s.heap [] 0 0 _ _
  refine lv_aload_n hx hb dc_A_sumAgainst_0 rfl (lv_at hl 0 rfl) ?_
  refine ow_get hx hb hts iw_A hown hB k0 rfl 1 (by decide) mw_174 rfl dc_A_sumAgainst_1 ?_
  refine lv_iload_n hx hb dc_A_sumAgainst_4 rfl (lv_at hl 2 rfl) ?_
  obtain ⟨hi5, h⟩ := h
  refine ow_aald hx hb hB (ly_A_against hG k0) (by decide) hi5 dc_A_sumAgainst_5 ?_
  refine lv_astore_n hx hb dc_A_sumAgainst_6 rfl hl (by decide) rfl (fun ls hl => ?_)
  refine lv_iconst (v := 0) hx hb dc_A_sumAgainst_7 rfl ?_
  refine lv_istore hx hb dc_A_sumAgainst_8 hl (by decide) rfl (fun ls hl => ?_)
  exact L10 _ (ly_row5 hG (ly_A_against hG k0) hi5) _ _ _ _ _ h hB (lv_sub hl [3, 4, 1, 0] rfl)
abbrev rm_A_weigh : Room := { frames := 1, cells := 0, slots := 0, locals := 27 }
theorem hd_A_weigh : yn_A_weigh.cls ≠ "java/lang/invoke/MethodHandle" ∧ yn_A_weigh.cls ≠ "java/lang/invoke/VarHandle" ∧ (parseMethodDescriptor yn_A_weigh.desc).map (fun d => d.parameters.length) = some 1 := by decide +kernel
set_option maxHeartbeats 4000000 in
set_option maxRecDepth 100000 in
theorem ct_A_weigh (l : Launch) (G : List (Nat × Nat)) (hG : ow_lay G) (D : va_G) (cA : Nat → ClassId) (ad : Nat → Nat) (F : Nat) (o0 : Nat) (k0 : ow_kd G o0 = (3, 6)) (o1 : Nat) (k1 : ow_kd G o1 = (3, 1)) (M : om_M) (Q : om_M → Prop) (h : wp_A_weigh F o0 o1 M Q) : Met l yn_A_weigh (ow_ws yn_A_weigh cb_A_weigh 7 none) rm_A_weigh (ow_Pc G D cA ad M [.ref (ad o0), .ref (ad o1)]) (ow_Qv G D cA ad Q) 0 0 (ow_A G ad) := by
  refine Met.ofW (cc := cb_A_weigh) (maxL := 7) (ret := none) (by decide) rfl ?_
  intro p e s m args below meth c s₁ B hml hv
  obtain ⟨rfl, hB⟩ := hv
  have hx := B.exec
  have hb := B.bytes
  have hr := B.returns
  have hlocks := B.notSynchronized
  have hts : ∀ w ∈ lw_g, w.before ([.ref (ad o0), .ref (ad o1)] : List Value).toArray s = true := fun w h => atoms_spec (ws := ow_ws yn_A_weigh cb_A_weigh 7 none) B.pre w (List.mem_cons_of_mem _ h)
  have hown : s.vm.findClass "BallotDesk$Agreement" = some m.cls := findClass_of_methodNamed B.named
  clear B
  have L97 : ∀ (x2 : Int32) (K29 : om_M × Int32 → Prop) (hK29 : ∀ (M : om_M) (x3 : Int32) (H : Heap) (locs : List Loc) (ls : Array Slot), K29 (M, x3) → ow_B G D cA ad (ow_A G ad) M s s.heap H locs → lv_has ls 7 [(0, .ref (ad o0)), (1, .ref (ad o1)), (2, .int x2), (3, .int x3)] → W p l e rm_A_weigh s m ([.ref (ad o0), .ref (ad o1)] : List Value).toArray below meth c H locs 0 0 (MQ below (ow_Qv G D cA ad Q) ([.ref (ad o0), .ref (ad o1)] : List Value).toArray s 0 0 (ow_A G ad)) (F0 m 29 ls [])) (M : om_M) (x3 : Int32) (x4 : Int32)  (H : Heap) (locs : List Loc) (ls : Array Slot), wp_A_weigh_97 F o0 o1 Q x2 K29 M x3 x4  → ow_B G D cA ad (ow_A G ad) M s s.heap H locs → lv_has ls 7 [(0, .ref (ad o0)), (1, .ref (ad o1)), (2, .int x2), (3, .int x3), (4, .int x4)] → W p l e rm_A_weigh s m ([.ref (ad o0), .ref (ad o1)] : List Value).toArray below meth c H locs 0 0 (MQ below (ow_Qv G D cA ad Q) ([.ref (ad o0), .ref (ad o1)] : List Value).toArray s 0 0 (ow_A G ad)) (F0 m 97 ls []) := by
    intro x2 K29 hK29 M x3 x4 H locs ls h hB hl
    refine lv_aload_n hx hb dc_A_weigh_97 rfl (lv_at hl 0 rfl) ?_
    refine ow_get hx hb hts iw_A hown hB k0 rfl 0 (by decide) mw_173 rfl dc_A_weigh_98 ?_
    refine lv_iload_n hx hb dc_A_weigh_101 rfl (lv_at hl 3 rfl) ?_
    refine lv_iload hx hb dc_A_weigh_102 (lv_at hl 4 rfl) ?_
    obtain ⟨hi1, h⟩ := h
    refine ow_iast hx hb hB (ly_A_least hG k0) hi1 dc_A_weigh_104 (fun H locs hB => ?_)
    refine lv_iinc hx hb dc_A_weigh_105 hl (k := 3) rfl rfl (by decide) rfl (fun ls hl => ?_)
    refine lv_goto hx hb dc_A_weigh_108 rfl ?_
    exact hK29 _ _ _ _ _ h hB (lv_sub hl [1, 2, 3, 0] rfl)
  have L91 : ∀ (x2 : Int32) (x3 : Int32) (K29 : om_M × Int32 → Prop) (hK29 : ∀ (M : om_M) (x3 : Int32) (H : Heap) (locs : List Loc) (ls : Array Slot), K29 (M, x3) → ow_B G D cA ad (ow_A G ad) M s s.heap H locs → lv_has ls 7 [(0, .ref (ad o0)), (1, .ref (ad o1)), (2, .int x2), (3, .int x3)] → W p l e rm_A_weigh s m ([.ref (ad o0), .ref (ad o1)] : List Value).toArray below meth c H locs 0 0 (MQ below (ow_Qv G D cA ad Q) ([.ref (ad o0), .ref (ad o1)] : List Value).toArray s 0 0 (ow_A G ad)) (F0 m 29 ls [])) (K41 : om_M × Int32 × Int32 → Prop) (hK41 : ∀ (M : om_M) (x4 : Int32) (x5 : Int32) (H : Heap) (locs : List Loc) (ls : Array Slot), K41 (M, x4, x5) → ow_B G D cA ad (ow_A G ad) M s s.heap H locs → lv_has ls 7 [(0, .ref (ad o0)), (1, .ref (ad o1)), (2, .int x2), (3, .int x3), (4, .int x4), (5, .int x5)] → W p l e rm_A_weigh s m ([.ref (ad o0), .ref (ad o1)] : List Value).toArray below meth c H locs 0 0 (MQ below (ow_Qv G D cA ad Q) ([.ref (ad o0), .ref (ad o1)] : List Value).toArray s 0 0 (ow_A G ad)) (F0 m 41 ls [])) (M : om_M) (x4 : Int32) (x5 : Int32)  (H : Heap) (locs : List Loc) (ls : Array Slot), wp_A_weigh_91 F o0 o1 Q x2 x3 K29 K41 M x4 x5  → ow_B G D cA ad (ow_A G ad) M s s.heap H locs → lv_has ls 7 [(0, .ref (ad o0)), (1, .ref (ad o1)), (2, .int x2), (3, .int x3), (4, .int x4), (5, .int x5)] → W p l e rm_A_weigh s m ([.ref (ad o0), .ref (ad o1)] : List Value).toArray below meth c H locs 0 0 (MQ below (ow_Qv G D cA ad Q) ([.ref (ad o0), .ref (ad o1)] : List Value).toArray s 0 0 (ow_A G ad)) (F0 m 91 ls []) := by
    intro x2 x3 K29 hK29 K41 hK41 M x4 x5 H locs ls h hB hl
    refine lv_iinc hx hb dc_A_weigh_91 hl (k := 5) rfl rfl (by decide) rfl (fun ls hl => ?_)
    refine lv_goto hx hb dc_A_weigh_94 rfl ?_
    exact hK41 _ _ _ _ _ _ h hB (lv_sub hl [1, 2, 3, 4, 5, 0] rfl)
  have B41 : ∀ (x2 : Int32) (x3 : Int32) (K29 : om_M × Int32 → Prop) (hK29 : ∀ (M : om_M) (x3 : Int32) (H : Heap) (locs : List Loc) (ls : Array Slot), K29 (M, x3) → ow_B G D cA ad (ow_A G ad) M s s.heap H locs → lv_has ls 7 [(0, .ref (ad o0)), (1, .ref (ad o1)), (2, .int x2), (3, .int x3)] → W p l e rm_A_weigh s m ([.ref (ad o0), .ref (ad o1)] : List Value).toArray below meth c H locs 0 0 (MQ below (ow_Qv G D cA ad Q) ([.ref (ad o0), .ref (ad o1)] : List Value).toArray s 0 0 (ow_A G ad)) (F0 m 29 ls [])) (K41 : om_M × Int32 × Int32 → Prop) (hK41 : ∀ (M : om_M) (x4 : Int32) (x5 : Int32) (H : Heap) (locs : List Loc) (ls : Array Slot), K41 (M, x4, x5) → ow_B G D cA ad (ow_A G ad) M s s.heap H locs → lv_has ls 7 [(0, .ref (ad o0)), (1, .ref (ad o1)), (2, .int x2), (3, .int x3), (4, .int x4), (5, .int x5)] → W p l e rm_A_weigh s m ([.ref (ad o0), .ref (ad o1)] : List Value).toArray below meth c H locs 0 0 (MQ below (ow_Qv G D cA ad Q) ([.ref (ad o0), .ref (ad o1)] : List Value).toArray s 0 0 (ow_A G ad)) (F0 m 41 ls [])) (M : om_M) (x4 : Int32) (x5 : Int32) (H : Heap) (locs : List Loc) (ls : Array Slot), wp_A_weigh_41b F o0 o1 Q x2 x3 K29 K41 M x4 x5 → ow_B G D cA ad (ow_A G ad) M s s.heap H locs → lv_has ls 7 [(0, .ref (ad o0)), (1, .ref (ad o1)), (2, .int x2), (3, .int x3), (4, .int x4), (5, .int x5)] → W p l e rm_A_weigh s m ([.ref (ad o0), .ref (ad o1)] : List Value).toArray below meth c H locs 0 0 (MQ below (ow_Qv G D cA ad Q) ([.ref (ad o0), .ref (ad o1)] : List Value).toArray s 0 0 (ow_A G ad)) (F0 m 41 ls []) := by
    intro x2 x3 K29 hK29 K41 hK41 M x4 x5 H locs ls h hB hl
    refine lv_iload hx hb dc_A_weigh_41 (lv_at hl 5 rfl) ?_
    refine lv_aload_n hx hb dc_A_weigh_43 rfl (lv_at hl 1 rfl) ?_
    refine ow_get hx hb hts iw_P hown hB k1 rfl 5 (by decide) mw_65 rfl dc_A_weigh_44 ?_
    obtain ⟨h1, h2⟩ := h
    refine lv_icmp_ge hx hb dc_A_weigh_47 rfl (fun hc => ?_) (fun hc => ?_)
    · have h := h1 hc
      exact L97 _ K29 hK29 _ _ _ _ _ _ h hB (lv_sub hl [0, 1, 2, 3, 4] rfl)
    · have h := h2 hc
      refine lv_iload_n hx hb dc_A_weigh_50 rfl (lv_at hl 3 rfl) ?_
      refine lv_iconst (v := 1) hx hb dc_A_weigh_51 rfl ?_
      refine lv_iload hx hb dc_A_weigh_52 (lv_at hl 5 rfl) ?_
      refine lv_ishl hx hb dc_A_weigh_54 ?_
      refine lv_iconst (v := (-1)) hx hb dc_A_weigh_55 rfl ?_
      refine lv_ixor hx hb dc_A_weigh_56 ?_
      refine lv_iand hx hb dc_A_weigh_57 ?_
      refine lv_istore hx hb dc_A_weigh_58 hl (by decide) rfl (fun ls hl => ?_)
      refine lv_iload hx hb dc_A_weigh_60 (lv_at hl 0 rfl) ?_
      refine lv_iload_n hx hb dc_A_weigh_62 rfl (lv_at hl 4 rfl) ?_
      obtain ⟨h1, h2⟩ := h
      refine lv_icmp_eq hx hb dc_A_weigh_63 rfl (fun hc => ?_) (fun hc => ?_)
      · have h := h1 hc
        exact L91 _ _ K29 hK29 K41 hK41 _ _ _ _ _ _ h hB (lv_sub hl [1, 2, 3, 4, 5, 6] rfl)
      · have h := h2 hc
        refine lv_iload hx hb dc_A_weigh_66 (lv_at hl 5 rfl) ?_
        refine lv_aload_n hx hb dc_A_weigh_68 rfl (lv_at hl 1 rfl) ?_
        refine ow_get hx hb hts iw_A hown hB k0 rfl 0 (by decide) mw_173 rfl dc_A_weigh_69 ?_
        refine lv_iload hx hb dc_A_weigh_72 (lv_at hl 0 rfl) ?_
        obtain ⟨hi2, h⟩ := h
        refine ow_iald hx hb hB (ly_A_least hG k0) hi2 dc_A_weigh_74 ?_
        refine lv_aload_n hx hb dc_A_weigh_75 rfl (lv_at hl 1 rfl) ?_
        refine ow_get hx hb hts iw_A hown hB k0 rfl 1 (by decide) mw_174 rfl dc_A_weigh_76 ?_
        refine lv_iload hx hb dc_A_weigh_79 (lv_at hl 6 rfl) ?_
        obtain ⟨hi3, h⟩ := h
        refine ow_aald hx hb hB (ly_A_against hG k0) (by decide) hi3 dc_A_weigh_81 ?_
        refine lv_iload hx hb dc_A_weigh_82 (lv_at hl 0 rfl) ?_
        refine ow_iald hx hb hB (ly_row5 hG (ly_A_against hG k0) hi3) hi2 dc_A_weigh_84 ?_
        refine lv_iadd hx hb dc_A_weigh_85 ?_
        refine va_mmin hx hb (hml.trans hl.1.symm) hown (hts _ mw_293) (hts _ mw_294) (hts _ mw_19) (hts _ mw_295) (Nat.le_of_ble_eq_true rfl) (Nat.le_of_ble_eq_true rfl) (Nat.zero_le _) (Nat.zero_le _) dc_A_weigh_86 ?_
        refine lv_istore hx hb dc_A_weigh_89 hl (by decide) rfl (fun ls hl => ?_)
        exact L91 _ _ K29 hK29 K41 hK41 _ _ _ _ _ _ h hB (lv_sub hl [2, 3, 4, 5, 0, 6] rfl)
  have L41 : ∀ (x2 : Int32) (x3 : Int32) (K29 : om_M × Int32 → Prop) (hK29 : ∀ (M : om_M) (x3 : Int32) (H : Heap) (locs : List Loc) (ls : Array Slot), K29 (M, x3) → ow_B G D cA ad (ow_A G ad) M s s.heap H locs → lv_has ls 7 [(0, .ref (ad o0)), (1, .ref (ad o1)), (2, .int x2), (3, .int x3)] → W p l e rm_A_weigh s m ([.ref (ad o0), .ref (ad o1)] : List Value).toArray below meth c H locs 0 0 (MQ below (ow_Qv G D cA ad Q) ([.ref (ad o0), .ref (ad o1)] : List Value).toArray s 0 0 (ow_A G ad)) (F0 m 29 ls [])) (M : om_M) (x4 : Int32) (x5 : Int32) (H : Heap) (locs : List Loc) (ls : Array Slot), wp_A_weigh_41 F o0 o1 Q x2 x3 K29 M x4 x5 → ow_B G D cA ad (ow_A G ad) M s s.heap H locs → lv_has ls 7 [(0, .ref (ad o0)), (1, .ref (ad o1)), (2, .int x2), (3, .int x3), (4, .int x4), (5, .int x5)] → W p l e rm_A_weigh s m ([.ref (ad o0), .ref (ad o1)] : List Value).toArray below meth c H locs 0 0 (MQ below (ow_Qv G D cA ad Q) ([.ref (ad o0), .ref (ad o1)] : List Value).toArray s 0 0 (ow_A G ad)) (F0 m 41 ls []) := by
    intro x2 x3 K29 hK29
    have step : ∀ (k : Nat) (M : om_M) (x4 : Int32) (x5 : Int32) (H : Heap) (locs : List Loc) (ls : Array Slot), ow_lp (fun (z : om_M × Int32 × Int32) K => wp_A_weigh_41b F o0 o1 Q x2 x3 K29 K z.1 z.2.1 z.2.2) k (M, x4, x5) → ow_B G D cA ad (ow_A G ad) M s s.heap H locs → lv_has ls 7 [(0, .ref (ad o0)), (1, .ref (ad o1)), (2, .int x2), (3, .int x3), (4, .int x4), (5, .int x5)] → W p l e rm_A_weigh s m ([.ref (ad o0), .ref (ad o1)] : List Value).toArray below meth c H locs 0 0 (MQ below (ow_Qv G D cA ad Q) ([.ref (ad o0), .ref (ad o1)] : List Value).toArray s 0 0 (ow_A G ad)) (F0 m 41 ls []) := by
      intro k
      induction k with
      | zero => intro M x4 x5 H locs ls h hB hl; exact False.elim h
      | succ k ih => intro M x4 x5 H locs ls h hB hl; exact B41 x2 x3 K29 hK29 (ow_lp _ k) (fun M x4 x5 H locs ls h hB  hl => ih M x4 x5  H locs ls h hB hl) M x4 x5 H locs ls h hB hl
    intro M x4 x5 H locs ls h hB hl
    exact step F M x4 x5 H locs ls h hB hl
  have B29 : ∀ (x2 : Int32)  (K29 : om_M × Int32 → Prop) (hK29 : ∀ (M : om_M) (x3 : Int32) (H : Heap) (locs : List Loc) (ls : Array Slot), K29 (M, x3) → ow_B G D cA ad (ow_A G ad) M s s.heap H locs → lv_has ls 7 [(0, .ref (ad o0)), (1, .ref (ad o1)), (2, .int x2), (3, .int x3)] → W p l e rm_A_weigh s m ([.ref (ad o0), .ref (ad o1)] : List Value).toArray below meth c H locs 0 0 (MQ below (ow_Qv G D cA ad Q) ([.ref (ad o0), .ref (ad o1)] : List Value).toArray s 0 0 (ow_A G ad)) (F0 m 29 ls [])) (M : om_M) (x3 : Int32) (H : Heap) (locs : List Loc) (ls : Array Slot), wp_A_weigh_29b F o0 o1 Q x2  K29 M x3 → ow_B G D cA ad (ow_A G ad) M s s.heap H locs → lv_has ls 7 [(0, .ref (ad o0)), (1, .ref (ad o1)), (2, .int x2), (3, .int x3)] → W p l e rm_A_weigh s m ([.ref (ad o0), .ref (ad o1)] : List Value).toArray below meth c H locs 0 0 (MQ below (ow_Qv G D cA ad Q) ([.ref (ad o0), .ref (ad o1)] : List Value).toArray s 0 0 (ow_A G ad)) (F0 m 29 ls []) := by
    intro x2  K29 hK29 M x3 H locs ls h hB hl
    refine lv_iload_n hx hb dc_A_weigh_29 rfl (lv_at hl 3 rfl) ?_
    refine lv_iload_n hx hb dc_A_weigh_30 rfl (lv_at hl 2 rfl) ?_
    obtain ⟨h1, h2⟩ := h
    refine lv_icmp_gt hx hb dc_A_weigh_31 rfl (fun hc => ?_) (fun hc => ?_)
    · have h := h1 hc
      exact ow_vret hx hb hr hlocks hB h dc_A_weigh_111
    · have h := h2 hc
      refine lv_ldc hx hb hown (hts _ mw_292) dc_A_weigh_34 ?_
      refine lv_istore hx hb dc_A_weigh_36 hl (by decide) rfl (fun ls hl => ?_)
      refine lv_iconst (v := 0) hx hb dc_A_weigh_38 rfl ?_
      refine lv_istore hx hb dc_A_weigh_39 hl (by decide) rfl (fun ls hl => ?_)
      exact L41 _ _ K29 hK29 _ _ _ _ _ _ h hB (lv_sub hl [2, 3, 4, 5, 1, 0] rfl)
  have L29 : ∀ (x2 : Int32)  (M : om_M) (x3 : Int32) (H : Heap) (locs : List Loc) (ls : Array Slot), wp_A_weigh_29 F o0 o1 Q x2  M x3 → ow_B G D cA ad (ow_A G ad) M s s.heap H locs → lv_has ls 7 [(0, .ref (ad o0)), (1, .ref (ad o1)), (2, .int x2), (3, .int x3)] → W p l e rm_A_weigh s m ([.ref (ad o0), .ref (ad o1)] : List Value).toArray below meth c H locs 0 0 (MQ below (ow_Qv G D cA ad Q) ([.ref (ad o0), .ref (ad o1)] : List Value).toArray s 0 0 (ow_A G ad)) (F0 m 29 ls []) := by
    intro x2 
    have step : ∀ (k : Nat) (M : om_M) (x3 : Int32) (H : Heap) (locs : List Loc) (ls : Array Slot), ow_lp (fun (z : om_M × Int32) K => wp_A_weigh_29b F o0 o1 Q x2  K z.1 z.2) k (M, x3) → ow_B G D cA ad (ow_A G ad) M s s.heap H locs → lv_has ls 7 [(0, .ref (ad o0)), (1, .ref (ad o1)), (2, .int x2), (3, .int x3)] → W p l e rm_A_weigh s m ([.ref (ad o0), .ref (ad o1)] : List Value).toArray below meth c H locs 0 0 (MQ below (ow_Qv G D cA ad Q) ([.ref (ad o0), .ref (ad o1)] : List Value).toArray s 0 0 (ow_A G ad)) (F0 m 29 ls []) := by
      intro k
      induction k with
      | zero => intro M x3 H locs ls h hB hl; exact False.elim h
      | succ k ih => intro M x3 H locs ls h hB hl; exact B29 x2  (ow_lp _ k) (fun M x3 H locs ls h hB  hl => ih M x3  H locs ls h hB hl) M x3 H locs ls h hB hl
    intro M x3 H locs ls h hB hl
    exact step F M x3 H locs ls h hB hl
  have L22 : ∀   (M : om_M)   (H : Heap) (locs : List Loc) (ls : Array Slot), wp_A_weigh_22 F o0 o1 Q   M   → ow_B G D cA ad (ow_A G ad) M s s.heap H locs → lv_has ls 7 [(0, .ref (ad o0)), (1, .ref (ad o1))] → W p l e rm_A_weigh s m ([.ref (ad o0), .ref (ad o1)] : List Value).toArray below meth c H locs 0 0 (MQ below (ow_Qv G D cA ad Q) ([.ref (ad o0), .ref (ad o1)] : List Value).toArray s 0 0 (ow_A G ad)) (F0 m 22 ls []) := by
    intro   M H locs ls h hB hl
    refine lv_aload_n hx hb dc_A_weigh_22 rfl (lv_at hl 1 rfl) ?_
    refine ow_calli (va_runV (As := []) (rest := []) ⟨hx, hb, hml, hown, hts⟩ (ct_P_everyone l G hG D cA ad F _ k1 _ _ h) ⟨ow_cb 0 hts mw_260 mw_2 mw_291 rfl rfl hd_P_everyone ⟨Nat.le_of_ble_eq_true rfl, Nat.le_of_ble_eq_true rfl⟩, hts _ mw_258, hts _ mw_259⟩ (ow_preV hB k1 rfl) rfl rfl hl.1 rfl (lv_room (Nat.le_of_ble_eq_true rfl)) dc_A_weigh_23 ⟨Nat.zero_le _, Nat.zero_le _⟩) hB (fun r5 M4 H locs h hB => ?_)
    refine lv_istore_n hx hb dc_A_weigh_26 rfl hl (by decide) rfl (fun ls hl => ?_)
    refine lv_iconst (v := 1) hx hb dc_A_weigh_27 rfl ?_
    refine lv_istore_n hx hb dc_A_weigh_28 rfl hl (by decide) rfl (fun ls hl => ?_)
    exact L29 _ _ _ _ _ _ h hB (lv_sub hl [2, 3, 1, 0] rfl)
  have B2 : ∀   (K2 : om_M × Int32 → Prop) (hK2 : ∀ (M : om_M) (x2 : Int32) (H : Heap) (locs : List Loc) (ls : Array Slot), K2 (M, x2) → ow_B G D cA ad (ow_A G ad) M s s.heap H locs → lv_has ls 7 [(0, .ref (ad o0)), (1, .ref (ad o1)), (2, .int x2)] → W p l e rm_A_weigh s m ([.ref (ad o0), .ref (ad o1)] : List Value).toArray below meth c H locs 0 0 (MQ below (ow_Qv G D cA ad Q) ([.ref (ad o0), .ref (ad o1)] : List Value).toArray s 0 0 (ow_A G ad)) (F0 m 2 ls [])) (M : om_M) (x2 : Int32) (H : Heap) (locs : List Loc) (ls : Array Slot), wp_A_weigh_2b F o0 o1 Q   K2 M x2 → ow_B G D cA ad (ow_A G ad) M s s.heap H locs → lv_has ls 7 [(0, .ref (ad o0)), (1, .ref (ad o1)), (2, .int x2)] → W p l e rm_A_weigh s m ([.ref (ad o0), .ref (ad o1)] : List Value).toArray below meth c H locs 0 0 (MQ below (ow_Qv G D cA ad Q) ([.ref (ad o0), .ref (ad o1)] : List Value).toArray s 0 0 (ow_A G ad)) (F0 m 2 ls []) := by
    intro   K2 hK2 M x2 H locs ls h hB hl
    refine lv_iload_n hx hb dc_A_weigh_2 rfl (lv_at hl 2 rfl) ?_
    refine lv_aload_n hx hb dc_A_weigh_3 rfl (lv_at hl 1 rfl) ?_
    refine ow_get hx hb hts iw_P hown hB k1 rfl 5 (by decide) mw_65 rfl dc_A_weigh_4 ?_
    obtain ⟨h1, h2⟩ := h
    refine lv_icmp_ge hx hb dc_A_weigh_7 rfl (fun hc => ?_) (fun hc => ?_)
    · have h := h1 hc
      exact L22 _ _ _ _ h hB (lv_sub hl [0, 1] rfl)
    · have h := h2 hc
      refine lv_aload_n hx hb dc_A_weigh_10 rfl (lv_at hl 0 rfl) ?_
      refine lv_aload_n hx hb dc_A_weigh_11 rfl (lv_at hl 1 rfl) ?_
      refine lv_iload_n hx hb dc_A_weigh_12 rfl (lv_at hl 2 rfl) ?_
      refine ow_callv (va_runV (As := [.ref (ad o1), .int x2]) (rest := []) ⟨hx, hb, hml, hown, hts⟩ (ct_A_sumAgainst l G hG D cA ad F _ k0 _ k1 _ _ _ h) ⟨ow_cb 2 hts mw_290 mw_10 mw_287 rfl rfl hd_A_sumAgainst ⟨Nat.le_of_ble_eq_true rfl, Nat.le_of_ble_eq_true rfl⟩, hts _ mw_289, hts _ ms_5⟩ (ow_preV hB k0 rfl) rfl rfl hl.1 rfl (lv_room (Nat.le_of_ble_eq_true rfl)) dc_A_weigh_13 ⟨Nat.zero_le _, Nat.zero_le _⟩) hB (fun M6 H locs h hB => ?_)
      refine lv_iinc hx hb dc_A_weigh_16 hl (k := 2) rfl rfl (by decide) rfl (fun ls hl => ?_)
      refine lv_goto hx hb dc_A_weigh_19 rfl ?_
      exact hK2 _ _ _ _ _ h hB (lv_sub hl [1, 2, 0] rfl)
  have L2 : ∀   (M : om_M) (x2 : Int32) (H : Heap) (locs : List Loc) (ls : Array Slot), wp_A_weigh_2 F o0 o1 Q   M x2 → ow_B G D cA ad (ow_A G ad) M s s.heap H locs → lv_has ls 7 [(0, .ref (ad o0)), (1, .ref (ad o1)), (2, .int x2)] → W p l e rm_A_weigh s m ([.ref (ad o0), .ref (ad o1)] : List Value).toArray below meth c H locs 0 0 (MQ below (ow_Qv G D cA ad Q) ([.ref (ad o0), .ref (ad o1)] : List Value).toArray s 0 0 (ow_A G ad)) (F0 m 2 ls []) := by
    have step : ∀ (k : Nat) (M : om_M) (x2 : Int32) (H : Heap) (locs : List Loc) (ls : Array Slot), ow_lp (fun (z : om_M × Int32) K => wp_A_weigh_2b F o0 o1 Q   K z.1 z.2) k (M, x2) → ow_B G D cA ad (ow_A G ad) M s s.heap H locs → lv_has ls 7 [(0, .ref (ad o0)), (1, .ref (ad o1)), (2, .int x2)] → W p l e rm_A_weigh s m ([.ref (ad o0), .ref (ad o1)] : List Value).toArray below meth c H locs 0 0 (MQ below (ow_Qv G D cA ad Q) ([.ref (ad o0), .ref (ad o1)] : List Value).toArray s 0 0 (ow_A G ad)) (F0 m 2 ls []) := by
      intro k
      induction k with
      | zero => intro M x2 H locs ls h hB hl; exact False.elim h
      | succ k ih => intro M x2 H locs ls h hB hl; exact B2   (ow_lp _ k) (fun M x2 H locs ls h hB  hl => ih M x2  H locs ls h hB hl) M x2 H locs ls h hB hl
    intro M x2 H locs ls h hB hl
    exact step F M x2 H locs ls h hB hl
  have hl := lv_entry ([.ref (ad o0), .ref (ad o1)]) (n := 7) (Nat.le_of_ble_eq_true rfl)
  rw [lg_entry_eq]
  generalize (lg_sl ([.ref (ad o0), .ref (ad o1)]) ++ List.replicate (7 - (lg_sl ([.ref (ad o0), .ref (ad o1)])).length) Slot.unset).toArray = ls at hl ⊢
  have hl : lv_has ls 7 [(0, .ref (ad o0)), (1, .ref (ad o1))] := hl
  show W p l e rm_A_weigh s m _ below meth c s.heap [] 0 0 _ _
  refine lv_iconst (v := 0) hx hb dc_A_weigh_0 rfl ?_
  refine lv_istore_n hx hb dc_A_weigh_1 rfl hl (by decide) rfl (fun ls hl => ?_)
  exact L2 _ _ _ _ _ h hB (lv_sub hl [1, 2, 0] rfl)
abbrev rm_A_bestLeaders : Room := { frames := 0, cells := 0, slots := 0, locals := 0 }
theorem hd_A_bestLeaders : yn_A_bestLeaders.cls ≠ "java/lang/invoke/MethodHandle" ∧ yn_A_bestLeaders.cls ≠ "java/lang/invoke/VarHandle" ∧ (parseMethodDescriptor yn_A_bestLeaders.desc).map (fun d => d.parameters.length) = some 2 := by decide +kernel
set_option maxHeartbeats 4000000 in
set_option maxRecDepth 100000 in
theorem ct_A_bestLeaders (l : Launch) (G : List (Nat × Nat)) (hG : ow_lay G) (D : va_G) (cA : Nat → ClassId) (ad : Nat → Nat) (F : Nat) (o0 : Nat) (k0 : ow_kd G o0 = (3, 6)) (x1 : Int32) (x2 : Int32) (M : om_M) (Q : Int32 → om_M → Prop) (h : wp_A_bestLeaders F o0 x1 x2 M Q) : Met l yn_A_bestLeaders (ow_ws yn_A_bestLeaders cb_A_bestLeaders 6 (some .int)) rm_A_bestLeaders (ow_Pc G D cA ad M [.ref (ad o0), .int x1, .int x2]) (ow_Qi G D cA ad Q) 0 0 (ow_A G ad) := by
  refine Met.ofW (cc := cb_A_bestLeaders) (maxL := 6) (ret := (some .int)) (by decide) rfl ?_
  intro p e s m args below meth c s₁ B hml hv
  obtain ⟨rfl, hB⟩ := hv
  have hx := B.exec
  have hb := B.bytes
  have hr := B.returns
  have hlocks := B.notSynchronized
  have hts : ∀ w ∈ lw_g, w.before ([.ref (ad o0), .int x1, .int x2] : List Value).toArray s = true := fun w h => atoms_spec (ws := ow_ws yn_A_bestLeaders cb_A_bestLeaders 6 (some .int)) B.pre w (List.mem_cons_of_mem _ h)
  have hown : s.vm.findClass "BallotDesk$Agreement" = some m.cls := findClass_of_methodNamed B.named
  clear B
  have L61 : ∀  (K5 : om_M × Int32 × Int32 → Prop) (hK5 : ∀ (M : om_M) (x3 : Int32) (x4 : Int32) (H : Heap) (locs : List Loc) (ls : Array Slot), K5 (M, x3, x4) → ow_B G D cA ad (ow_A G ad) M s s.heap H locs → lv_has ls 6 [(0, .ref (ad o0)), (1, .int x1), (2, .int x2), (3, .int x3), (4, .int x4)] → W p l e rm_A_bestLeaders s m ([.ref (ad o0), .int x1, .int x2] : List Value).toArray below meth c H locs 0 0 (MQ below (ow_Qi G D cA ad Q) ([.ref (ad o0), .int x1, .int x2] : List Value).toArray s 0 0 (ow_A G ad)) (F0 m 5 ls [])) (M : om_M) (x3 : Int32) (x4 : Int32)  (H : Heap) (locs : List Loc) (ls : Array Slot), wp_A_bestLeaders_61 F o0 x1 x2 Q  K5 M x3 x4  → ow_B G D cA ad (ow_A G ad) M s s.heap H locs → lv_has ls 6 [(0, .ref (ad o0)), (1, .int x1), (2, .int x2), (3, .int x3), (4, .int x4)] → W p l e rm_A_bestLeaders s m ([.ref (ad o0), .int x1, .int x2] : List Value).toArray below meth c H locs 0 0 (MQ below (ow_Qi G D cA ad Q) ([.ref (ad o0), .int x1, .int x2] : List Value).toArray s 0 0 (ow_A G ad)) (F0 m 61 ls []) := by
    intro  K5 hK5 M x3 x4 H locs ls h hB hl
    refine lv_iinc hx hb dc_A_bestLeaders_61 hl (k := 4) rfl rfl (by decide) rfl (fun ls hl => ?_)
    refine lv_goto hx hb dc_A_bestLeaders_64 rfl ?_
    exact hK5 _ _ _ _ _ _ h hB (lv_sub hl [1, 2, 3, 4, 0] rfl)
  have B5 : ∀   (K5 : om_M × Int32 × Int32 → Prop) (hK5 : ∀ (M : om_M) (x3 : Int32) (x4 : Int32) (H : Heap) (locs : List Loc) (ls : Array Slot), K5 (M, x3, x4) → ow_B G D cA ad (ow_A G ad) M s s.heap H locs → lv_has ls 6 [(0, .ref (ad o0)), (1, .int x1), (2, .int x2), (3, .int x3), (4, .int x4)] → W p l e rm_A_bestLeaders s m ([.ref (ad o0), .int x1, .int x2] : List Value).toArray below meth c H locs 0 0 (MQ below (ow_Qi G D cA ad Q) ([.ref (ad o0), .int x1, .int x2] : List Value).toArray s 0 0 (ow_A G ad)) (F0 m 5 ls [])) (M : om_M) (x3 : Int32) (x4 : Int32) (H : Heap) (locs : List Loc) (ls : Array Slot), wp_A_bestLeaders_5b F o0 x1 x2 Q   K5 M x3 x4 → ow_B G D cA ad (ow_A G ad) M s s.heap H locs → lv_has ls 6 [(0, .ref (ad o0)), (1, .int x1), (2, .int x2), (3, .int x3), (4, .int x4)] → W p l e rm_A_bestLeaders s m ([.ref (ad o0), .int x1, .int x2] : List Value).toArray below meth c H locs 0 0 (MQ below (ow_Qi G D cA ad Q) ([.ref (ad o0), .int x1, .int x2] : List Value).toArray s 0 0 (ow_A G ad)) (F0 m 5 ls []) := by
    intro   K5 hK5 M x3 x4 H locs ls h hB hl
    refine lv_iload hx hb dc_A_bestLeaders_5 (lv_at hl 4 rfl) ?_
    refine lv_iload_n hx hb dc_A_bestLeaders_7 rfl (lv_at hl 2 rfl) ?_
    obtain ⟨h1, h2⟩ := h
    refine lv_icmp_ge hx hb dc_A_bestLeaders_8 rfl (fun hc => ?_) (fun hc => ?_)
    · have h := h1 hc
      refine lv_iload_n hx hb dc_A_bestLeaders_67 rfl (lv_at hl 3 rfl) ?_
      exact ow_iret hx hb hr hlocks hB h dc_A_bestLeaders_68
    · have h := h2 hc
      refine lv_iload_n hx hb dc_A_bestLeaders_11 rfl (lv_at hl 1 rfl) ?_
      refine lv_iconst (v := 1) hx hb dc_A_bestLeaders_12 rfl ?_
      refine lv_iload hx hb dc_A_bestLeaders_13 (lv_at hl 4 rfl) ?_
      refine lv_ishl hx hb dc_A_bestLeaders_15 ?_
      refine lv_iconst (v := (-1)) hx hb dc_A_bestLeaders_16 rfl ?_
      refine lv_ixor hx hb dc_A_bestLeaders_17 ?_
      refine lv_iand hx hb dc_A_bestLeaders_18 ?_
      refine lv_istore hx hb dc_A_bestLeaders_19 hl (by decide) rfl (fun ls hl => ?_)
      refine lv_iload hx hb dc_A_bestLeaders_21 (lv_at hl 0 rfl) ?_
      refine lv_iload_n hx hb dc_A_bestLeaders_23 rfl (lv_at hl 2 rfl) ?_
      obtain ⟨h1, h2⟩ := h
      refine lv_icmp_eq hx hb dc_A_bestLeaders_24 rfl (fun hc => ?_) (fun hc => ?_)
      · have h := h1 hc
        exact L61 K5 hK5 _ _ _ _ _ _ h hB (lv_sub hl [1, 2, 3, 4, 5] rfl)
      · have h := h2 hc
        refine lv_aload_n hx hb dc_A_bestLeaders_27 rfl (lv_at hl 1 rfl) ?_
        refine ow_get hx hb hts iw_A hown hB k0 rfl 0 (by decide) mw_173 rfl dc_A_bestLeaders_28 ?_
        refine lv_iload hx hb dc_A_bestLeaders_31 (lv_at hl 0 rfl) ?_
        obtain ⟨hi1, h⟩ := h
        refine ow_iald hx hb hB (ly_A_least hG k0) hi1 dc_A_bestLeaders_33 ?_
        refine lv_aload_n hx hb dc_A_bestLeaders_34 rfl (lv_at hl 1 rfl) ?_
        refine ow_get hx hb hts iw_A hown hB k0 rfl 1 (by decide) mw_174 rfl dc_A_bestLeaders_35 ?_
        refine lv_iload hx hb dc_A_bestLeaders_38 (lv_at hl 5 rfl) ?_
        obtain ⟨hi2, h⟩ := h
        refine ow_aald hx hb hB (ly_A_against hG k0) (by decide) hi2 dc_A_bestLeaders_40 ?_
        refine lv_iload hx hb dc_A_bestLeaders_41 (lv_at hl 0 rfl) ?_
        refine ow_iald hx hb hB (ly_row5 hG (ly_A_against hG k0) hi2) hi1 dc_A_bestLeaders_43 ?_
        refine lv_iadd hx hb dc_A_bestLeaders_44 ?_
        refine lv_aload_n hx hb dc_A_bestLeaders_45 rfl (lv_at hl 1 rfl) ?_
        refine ow_get hx hb hts iw_A hown hB k0 rfl 0 (by decide) mw_173 rfl dc_A_bestLeaders_46 ?_
        refine lv_iload_n hx hb dc_A_bestLeaders_49 rfl (lv_at hl 2 rfl) ?_
        obtain ⟨hi3, h⟩ := h
        refine ow_iald hx hb hB (ly_A_least hG k0) hi3 dc_A_bestLeaders_50 ?_
        obtain ⟨h1, h2⟩ := h
        refine lv_icmp_ne hx hb dc_A_bestLeaders_51 rfl (fun hc => ?_) (fun hc => ?_)
        · have h := h2 hc
          exact L61 K5 hK5 _ _ _ _ _ _ h hB (lv_sub hl [1, 2, 3, 4, 5] rfl)
        · have h := h1 hc
          refine lv_iload_n hx hb dc_A_bestLeaders_54 rfl (lv_at hl 4 rfl) ?_
          refine lv_iconst (v := 1) hx hb dc_A_bestLeaders_55 rfl ?_
          refine lv_iload hx hb dc_A_bestLeaders_56 (lv_at hl 5 rfl) ?_
          refine lv_ishl hx hb dc_A_bestLeaders_58 ?_
          refine lv_ior hx hb dc_A_bestLeaders_59 ?_
          refine lv_istore_n hx hb dc_A_bestLeaders_60 rfl hl (by decide) rfl (fun ls hl => ?_)
          exact L61 K5 hK5 _ _ _ _ _ _ h hB (lv_sub hl [2, 3, 4, 0, 5] rfl)
  have L5 : ∀   (M : om_M) (x3 : Int32) (x4 : Int32) (H : Heap) (locs : List Loc) (ls : Array Slot), wp_A_bestLeaders_5 F o0 x1 x2 Q   M x3 x4 → ow_B G D cA ad (ow_A G ad) M s s.heap H locs → lv_has ls 6 [(0, .ref (ad o0)), (1, .int x1), (2, .int x2), (3, .int x3), (4, .int x4)] → W p l e rm_A_bestLeaders s m ([.ref (ad o0), .int x1, .int x2] : List Value).toArray below meth c H locs 0 0 (MQ below (ow_Qi G D cA ad Q) ([.ref (ad o0), .int x1, .int x2] : List Value).toArray s 0 0 (ow_A G ad)) (F0 m 5 ls []) := by
    have step : ∀ (k : Nat) (M : om_M) (x3 : Int32) (x4 : Int32) (H : Heap) (locs : List Loc) (ls : Array Slot), ow_lp (fun (z : om_M × Int32 × Int32) K => wp_A_bestLeaders_5b F o0 x1 x2 Q   K z.1 z.2.1 z.2.2) k (M, x3, x4) → ow_B G D cA ad (ow_A G ad) M s s.heap H locs → lv_has ls 6 [(0, .ref (ad o0)), (1, .int x1), (2, .int x2), (3, .int x3), (4, .int x4)] → W p l e rm_A_bestLeaders s m ([.ref (ad o0), .int x1, .int x2] : List Value).toArray below meth c H locs 0 0 (MQ below (ow_Qi G D cA ad Q) ([.ref (ad o0), .int x1, .int x2] : List Value).toArray s 0 0 (ow_A G ad)) (F0 m 5 ls []) := by
      intro k
      induction k with
      | zero => intro M x3 x4 H locs ls h hB hl; exact False.elim h
      | succ k ih => intro M x3 x4 H locs ls h hB hl; exact B5   (ow_lp _ k) (fun M x3 x4 H locs ls h hB  hl => ih M x3 x4  H locs ls h hB hl) M x3 x4 H locs ls h hB hl
    intro M x3 x4 H locs ls h hB hl
    exact step F M x3 x4 H locs ls h hB hl
  have hl := lv_entry ([.ref (ad o0), .int x1, .int x2]) (n := 6) (Nat.le_of_ble_eq_true rfl)
  rw [lg_entry_eq]
  generalize (lg_sl ([.ref (ad o0), .int x1, .int x2]) ++ List.replicate (6 - (lg_sl ([.ref (ad o0), .int x1, .int x2])).length) Slot.unset).toArray = ls at hl ⊢
  have hl : lv_has ls 6 [(0, .ref (ad o0)), (1, .int x1), (2, .int x2)] := hl
  show W p l e rm_A_bestLeaders s m _ below meth c s.heap [] 0 0 _ _
  refine lv_iconst (v := 0) hx hb dc_A_bestLeaders_0 rfl ?_
  refine lv_istore_n hx hb dc_A_bestLeaders_1 rfl hl (by decide) rfl (fun ls hl => ?_)
  refine lv_iconst (v := 0) hx hb dc_A_bestLeaders_2 rfl ?_
  refine lv_istore hx hb dc_A_bestLeaders_3 hl (by decide) rfl (fun ls hl => ?_)
  exact L5 _ _ _ _ _ _ h hB (lv_sub hl [2, 3, 4, 1, 0] rfl)
abbrev rm_A_leastOfAll : Room := { frames := 2, cells := 0, slots := 0, locals := 53 }
theorem hd_A_leastOfAll : yn_A_leastOfAll.cls ≠ "java/lang/invoke/MethodHandle" ∧ yn_A_leastOfAll.cls ≠ "java/lang/invoke/VarHandle" ∧ (parseMethodDescriptor yn_A_leastOfAll.desc).map (fun d => d.parameters.length) = some 1 := by decide +kernel
set_option maxHeartbeats 4000000 in
set_option maxRecDepth 100000 in
theorem ct_A_leastOfAll (l : Launch) (G : List (Nat × Nat)) (hG : ow_lay G) (D : va_G) (cA : Nat → ClassId) (ad : Nat → Nat) (F : Nat) (o0 : Nat) (k0 : ow_kd G o0 = (3, 6)) (o1 : Nat) (k1 : ow_kd G o1 = (3, 1)) (M : om_M) (Q : Int64 → om_M → Prop) (h : wp_A_leastOfAll F o0 o1 M Q) : Met l yn_A_leastOfAll (ow_ws yn_A_leastOfAll cb_A_leastOfAll 2 (some .long)) rm_A_leastOfAll (ow_Pc G D cA ad M [.ref (ad o0), .ref (ad o1)]) (ow_Ql G D cA ad Q) 0 0 (ow_A G ad) := by
  refine Met.ofW (cc := cb_A_leastOfAll) (maxL := 2) (ret := (some .long)) (by decide) rfl ?_
  intro p e s m args below meth c s₁ B hml hv
  obtain ⟨rfl, hB⟩ := hv
  have hx := B.exec
  have hb := B.bytes
  have hr := B.returns
  have hlocks := B.notSynchronized
  have hts : ∀ w ∈ lw_g, w.before ([.ref (ad o0), .ref (ad o1)] : List Value).toArray s = true := fun w h => atoms_spec (ws := ow_ws yn_A_leastOfAll cb_A_leastOfAll 2 (some .long)) B.pre w (List.mem_cons_of_mem _ h)
  have hown : s.vm.findClass "BallotDesk$Agreement" = some m.cls := findClass_of_methodNamed B.named
  clear B
  have hl := lv_entry ([.ref (ad o0), .ref (ad o1)]) (n := 2) (Nat.le_of_ble_eq_true rfl)
  rw [lg_entry_eq]
  generalize (lg_sl ([.ref (ad o0), .ref (ad o1)]) ++ List.replicate (2 - (lg_sl ([.ref (ad o0), .ref (ad o1)])).length) Slot.unset).toArray = ls at hl ⊢
  have hl : lv_has ls 2 [(0, .ref (ad o0)), (1, .ref (ad o1))] := hl
  show W p l e rm_A_leastOfAll s m _ below meth c s.heap [] 0 0 _ _
  refine lv_aload_n hx hb dc_A_leastOfAll_0 rfl (lv_at hl 0 rfl) ?_
  refine lv_aload_n hx hb dc_A_leastOfAll_1 rfl (lv_at hl 1 rfl) ?_
  refine ow_callv (va_runV (As := [.ref (ad o1)]) (rest := []) ⟨hx, hb, hml, hown, hts⟩ (ct_A_weigh l G hG D cA ad F _ k0 _ k1 _ _ h) ⟨ow_cb 1 hts mw_286 mw_10 mw_283 rfl rfl hd_A_weigh ⟨Nat.le_of_ble_eq_true rfl, Nat.le_of_ble_eq_true rfl⟩, hts _ mw_285, hts _ ms_4⟩ (ow_preV hB k0 rfl) rfl rfl hl.1 rfl (lv_room (Nat.le_of_ble_eq_true rfl)) dc_A_leastOfAll_2 ⟨Nat.zero_le _, Nat.zero_le _⟩) hB (fun M1 H locs h hB => ?_)
  refine lv_aload_n hx hb dc_A_leastOfAll_5 rfl (lv_at hl 0 rfl) ?_
  refine ow_get hx hb hts iw_A hown hB k0 rfl 0 (by decide) mw_173 rfl dc_A_leastOfAll_6 ?_
  refine lv_aload_n hx hb dc_A_leastOfAll_9 rfl (lv_at hl 1 rfl) ?_
  refine ow_calli (va_runV (As := []) (rest := [.ref (ad (o0 + 1))]) ⟨hx, hb, hml, hown, hts⟩ (ct_P_everyone l G hG D cA ad F _ k1 _ _ h) ⟨ow_cb 0 hts mw_260 mw_2 mw_291 rfl rfl hd_P_everyone ⟨Nat.le_of_ble_eq_true rfl, Nat.le_of_ble_eq_true rfl⟩, hts _ mw_258, hts _ mw_259⟩ (ow_preV hB k1 rfl) rfl rfl hl.1 rfl (lv_room (Nat.le_of_ble_eq_true rfl)) dc_A_leastOfAll_10 ⟨Nat.zero_le _, Nat.zero_le _⟩) hB (fun r3 M2 H locs h hB => ?_)
  obtain ⟨hi4, h⟩ := h
  refine ow_iald hx hb hB (ly_A_least hG k0) hi4 dc_A_leastOfAll_13 ?_
  refine lv_i2l hx hb dc_A_leastOfAll_14 rfl ?_
  exact ow_lret hx hb hr hlocks hB h dc_A_leastOfAll_15
abbrev rm_A_winnerSet : Room := { frames := 2, cells := 0, slots := 0, locals := 53 }
theorem hd_A_winnerSet : yn_A_winnerSet.cls ≠ "java/lang/invoke/MethodHandle" ∧ yn_A_winnerSet.cls ≠ "java/lang/invoke/VarHandle" ∧ (parseMethodDescriptor yn_A_winnerSet.desc).map (fun d => d.parameters.length) = some 1 := by decide +kernel
set_option maxHeartbeats 4000000 in
set_option maxRecDepth 100000 in
theorem ct_A_winnerSet (l : Launch) (G : List (Nat × Nat)) (hG : ow_lay G) (D : va_G) (cA : Nat → ClassId) (ad : Nat → Nat) (F : Nat) (o0 : Nat) (k0 : ow_kd G o0 = (3, 6)) (o1 : Nat) (k1 : ow_kd G o1 = (3, 1)) (M : om_M) (Q : Int32 → om_M → Prop) (h : wp_A_winnerSet F o0 o1 M Q) : Met l yn_A_winnerSet (ow_ws yn_A_winnerSet cb_A_winnerSet 2 (some .int)) rm_A_winnerSet (ow_Pc G D cA ad M [.ref (ad o0), .ref (ad o1)]) (ow_Qi G D cA ad Q) 0 0 (ow_A G ad) := by
  refine Met.ofW (cc := cb_A_winnerSet) (maxL := 2) (ret := (some .int)) (by decide) rfl ?_
  intro p e s m args below meth c s₁ B hml hv
  obtain ⟨rfl, hB⟩ := hv
  have hx := B.exec
  have hb := B.bytes
  have hr := B.returns
  have hlocks := B.notSynchronized
  have hts : ∀ w ∈ lw_g, w.before ([.ref (ad o0), .ref (ad o1)] : List Value).toArray s = true := fun w h => atoms_spec (ws := ow_ws yn_A_winnerSet cb_A_winnerSet 2 (some .int)) B.pre w (List.mem_cons_of_mem _ h)
  have hown : s.vm.findClass "BallotDesk$Agreement" = some m.cls := findClass_of_methodNamed B.named
  clear B
  have hl := lv_entry ([.ref (ad o0), .ref (ad o1)]) (n := 2) (Nat.le_of_ble_eq_true rfl)
  rw [lg_entry_eq]
  generalize (lg_sl ([.ref (ad o0), .ref (ad o1)]) ++ List.replicate (2 - (lg_sl ([.ref (ad o0), .ref (ad o1)])).length) Slot.unset).toArray = ls at hl ⊢
  have hl : lv_has ls 2 [(0, .ref (ad o0)), (1, .ref (ad o1))] := hl
  show W p l e rm_A_winnerSet s m _ below meth c s.heap [] 0 0 _ _
  refine lv_aload_n hx hb dc_A_winnerSet_0 rfl (lv_at hl 0 rfl) ?_
  refine lv_aload_n hx hb dc_A_winnerSet_1 rfl (lv_at hl 1 rfl) ?_
  refine ow_callv (va_runV (As := [.ref (ad o1)]) (rest := []) ⟨hx, hb, hml, hown, hts⟩ (ct_A_weigh l G hG D cA ad F _ k0 _ k1 _ _ h) ⟨ow_cb 1 hts mw_286 mw_10 mw_283 rfl rfl hd_A_weigh ⟨Nat.le_of_ble_eq_true rfl, Nat.le_of_ble_eq_true rfl⟩, hts _ mw_285, hts _ ms_4⟩ (ow_preV hB k0 rfl) rfl rfl hl.1 rfl (lv_room (Nat.le_of_ble_eq_true rfl)) dc_A_winnerSet_2 ⟨Nat.zero_le _, Nat.zero_le _⟩) hB (fun M1 H locs h hB => ?_)
  refine lv_aload_n hx hb dc_A_winnerSet_5 rfl (lv_at hl 0 rfl) ?_
  refine lv_aload_n hx hb dc_A_winnerSet_6 rfl (lv_at hl 1 rfl) ?_
  refine ow_calli (va_runV (As := []) (rest := [.ref (ad o0)]) ⟨hx, hb, hml, hown, hts⟩ (ct_P_everyone l G hG D cA ad F _ k1 _ _ h) ⟨ow_cb 0 hts mw_260 mw_2 mw_291 rfl rfl hd_P_everyone ⟨Nat.le_of_ble_eq_true rfl, Nat.le_of_ble_eq_true rfl⟩, hts _ mw_258, hts _ mw_259⟩ (ow_preV hB k1 rfl) rfl rfl hl.1 rfl (lv_room (Nat.le_of_ble_eq_true rfl)) dc_A_winnerSet_7 ⟨Nat.zero_le _, Nat.zero_le _⟩) hB (fun r3 M2 H locs h hB => ?_)
  refine lv_aload_n hx hb dc_A_winnerSet_10 rfl (lv_at hl 1 rfl) ?_
  refine ow_get hx hb hts iw_P hown hB k1 rfl 5 (by decide) mw_65 rfl dc_A_winnerSet_11 ?_
  refine ow_calli (va_runV (As := [.int r3, .int (M2.1 o1 5)]) (rest := []) ⟨hx, hb, hml, hown, hts⟩ (ct_A_bestLeaders l G hG D cA ad F _ k0 _ _ _ _ h) ⟨ow_cb 2 hts mw_307 mw_10 mw_304 rfl rfl hd_A_bestLeaders ⟨Nat.le_of_ble_eq_true rfl, Nat.le_of_ble_eq_true rfl⟩, hts _ mw_306, hts _ ms_6⟩ (ow_preV hB k0 rfl) rfl rfl hl.1 rfl (lv_room (Nat.le_of_ble_eq_true rfl)) dc_A_winnerSet_14 ⟨Nat.zero_le _, Nat.zero_le _⟩) hB (fun r5 M4 H locs h hB => ?_)
  exact ow_iret hx hb hr hlocks hB h dc_A_winnerSet_17
abbrev rm_A_bestOrder : Room := { frames := 2, cells := 0, slots := 0, locals := 53 }
theorem hd_A_bestOrder : yn_A_bestOrder.cls ≠ "java/lang/invoke/MethodHandle" ∧ yn_A_bestOrder.cls ≠ "java/lang/invoke/VarHandle" ∧ (parseMethodDescriptor yn_A_bestOrder.desc).map (fun d => d.parameters.length) = some 1 := by decide +kernel
set_option maxHeartbeats 4000000 in
set_option maxRecDepth 100000 in
theorem ct_A_bestOrder (l : Launch) (G : List (Nat × Nat)) (hG : ow_lay G) (D : va_G) (cA : Nat → ClassId) (ad : Nat → Nat) (F : Nat) (o0 : Nat) (k0 : ow_kd G o0 = (3, 6)) (o1 : Nat) (k1 : ow_kd G o1 = (3, 1)) (M : om_M) (Q : Int32 → om_M → Prop) (h : wp_A_bestOrder F o0 o1 M Q) : Met l yn_A_bestOrder (ow_ws yn_A_bestOrder cb_A_bestOrder 6 (some .int)) rm_A_bestOrder (ow_Pc G D cA ad M [.ref (ad o0), .ref (ad o1)]) (ow_Qi G D cA ad Q) 0 0 (ow_A G ad) := by
  refine Met.ofW (cc := cb_A_bestOrder) (maxL := 6) (ret := (some .int)) (by decide) rfl ?_
  intro p e s m args below meth c s₁ B hml hv
  obtain ⟨rfl, hB⟩ := hv
  have hx := B.exec
  have hb := B.bytes
  have hr := B.returns
  have hlocks := B.notSynchronized
  have hts : ∀ w ∈ lw_g, w.before ([.ref (ad o0), .ref (ad o1)] : List Value).toArray s = true := fun w h => atoms_spec (ws := ow_ws yn_A_bestOrder cb_A_bestOrder 6 (some .int)) B.pre w (List.mem_cons_of_mem _ h)
  have hown : s.vm.findClass "BallotDesk$Agreement" = some m.cls := findClass_of_methodNamed B.named
  clear B
  have B15 : ∀   (K15 : om_M × Int32 × Int32 × Int32 → Prop) (hK15 : ∀ (M : om_M) (x2 : Int32) (x3 : Int32) (x4 : Int32) (H : Heap) (locs : List Loc) (ls : Array Slot), K15 (M, x2, x3, x4) → ow_B G D cA ad (ow_A G ad) M s s.heap H locs → lv_has ls 6 [(0, .ref (ad o0)), (1, .ref (ad o1)), (2, .int x2), (3, .int x3), (4, .int x4)] → W p l e rm_A_bestOrder s m ([.ref (ad o0), .ref (ad o1)] : List Value).toArray below meth c H locs 0 0 (MQ below (ow_Qi G D cA ad Q) ([.ref (ad o0), .ref (ad o1)] : List Value).toArray s 0 0 (ow_A G ad)) (F0 m 15 ls [])) (M : om_M) (x2 : Int32) (x3 : Int32) (x4 : Int32) (H : Heap) (locs : List Loc) (ls : Array Slot), wp_A_bestOrder_15b F o0 o1 Q   K15 M x2 x3 x4 → ow_B G D cA ad (ow_A G ad) M s s.heap H locs → lv_has ls 6 [(0, .ref (ad o0)), (1, .ref (ad o1)), (2, .int x2), (3, .int x3), (4, .int x4)] → W p l e rm_A_bestOrder s m ([.ref (ad o0), .ref (ad o1)] : List Value).toArray below meth c H locs 0 0 (MQ below (ow_Qi G D cA ad Q) ([.ref (ad o0), .ref (ad o1)] : List Value).toArray s 0 0 (ow_A G ad)) (F0 m 15 ls []) := by
    intro   K15 hK15 M x2 x3 x4 H locs ls h hB hl
    refine lv_iload hx hb dc_A_bestOrder_15 (lv_at hl 4 rfl) ?_
    refine lv_aload_n hx hb dc_A_bestOrder_17 rfl (lv_at hl 1 rfl) ?_
    refine ow_get hx hb hts iw_P hown hB k1 rfl 5 (by decide) mw_65 rfl dc_A_bestOrder_18 ?_
    obtain ⟨h1, h2⟩ := h
    refine lv_icmp_ge hx hb dc_A_bestOrder_21 rfl (fun hc => ?_) (fun hc => ?_)
    · have h := h1 hc
      refine lv_iload_n hx hb dc_A_bestOrder_64 rfl (lv_at hl 2 rfl) ?_
      exact ow_iret hx hb hr hlocks hB h dc_A_bestOrder_65
    · have h := h2 hc
      refine lv_aload_n hx hb dc_A_bestOrder_24 rfl (lv_at hl 1 rfl) ?_
      refine lv_aload_n hx hb dc_A_bestOrder_25 rfl (lv_at hl 0 rfl) ?_
      refine lv_iload_n hx hb dc_A_bestOrder_26 rfl (lv_at hl 3 rfl) ?_
      refine lv_aload_n hx hb dc_A_bestOrder_27 rfl (lv_at hl 1 rfl) ?_
      refine ow_get hx hb hts iw_P hown hB k1 rfl 5 (by decide) mw_65 rfl dc_A_bestOrder_28 ?_
      refine ow_calli (va_runV (As := [.int x3, .int (M.1 o1 5)]) (rest := [.ref (ad o1)]) ⟨hx, hb, hml, hown, hts⟩ (ct_A_bestLeaders l G hG D cA ad F _ k0 _ _ _ _ h) ⟨ow_cb 2 hts mw_307 mw_10 mw_304 rfl rfl hd_A_bestLeaders ⟨Nat.le_of_ble_eq_true rfl, Nat.le_of_ble_eq_true rfl⟩, hts _ mw_306, hts _ ms_6⟩ (ow_preV hB k0 rfl) rfl rfl hl.1 rfl (lv_room (Nat.le_of_ble_eq_true rfl)) dc_A_bestOrder_31 ⟨Nat.zero_le _, Nat.zero_le _⟩) hB (fun r2 M1 H locs h hB => ?_)
      refine ow_calli (va_runV (As := [.int r2]) (rest := []) ⟨hx, hb, hml, hown, hts⟩ (ct_P_firstInTie l G hG D cA ad F _ k1 _ _ _ h) ⟨ow_cb 1 hts mw_311 mw_2 mw_308 rfl rfl hd_P_firstInTie ⟨Nat.le_of_ble_eq_true rfl, Nat.le_of_ble_eq_true rfl⟩, hts _ mw_309, hts _ mw_310⟩ (ow_preV hB k1 rfl) rfl rfl hl.1 rfl (lv_room (Nat.le_of_ble_eq_true rfl)) dc_A_bestOrder_34 ⟨Nat.zero_le _, Nat.zero_le _⟩) hB (fun r4 M3 H locs h hB => ?_)
      refine lv_istore hx hb dc_A_bestOrder_37 hl (by decide) rfl (fun ls hl => ?_)
      refine lv_iload_n hx hb dc_A_bestOrder_39 rfl (lv_at hl 3 rfl) ?_
      refine lv_iload hx hb dc_A_bestOrder_40 (lv_at hl 0 rfl) ?_
      refine lv_iconst (v := 3) hx hb dc_A_bestOrder_42 rfl ?_
      refine lv_iload hx hb dc_A_bestOrder_43 (lv_at hl 5 rfl) ?_
      refine lv_imul hx hb dc_A_bestOrder_45 ?_
      refine lv_ishl hx hb dc_A_bestOrder_46 ?_
      refine lv_ior hx hb dc_A_bestOrder_47 ?_
      refine lv_istore_n hx hb dc_A_bestOrder_48 rfl hl (by decide) rfl (fun ls hl => ?_)
      refine lv_iload_n hx hb dc_A_bestOrder_49 rfl (lv_at hl 4 rfl) ?_
      refine lv_iconst (v := 1) hx hb dc_A_bestOrder_50 rfl ?_
      refine lv_iload hx hb dc_A_bestOrder_51 (lv_at hl 1 rfl) ?_
      refine lv_ishl hx hb dc_A_bestOrder_53 ?_
      refine lv_iconst (v := (-1)) hx hb dc_A_bestOrder_54 rfl ?_
      refine lv_ixor hx hb dc_A_bestOrder_55 ?_
      refine lv_iand hx hb dc_A_bestOrder_56 ?_
      refine lv_istore_n hx hb dc_A_bestOrder_57 rfl hl (by decide) rfl (fun ls hl => ?_)
      refine lv_iinc hx hb dc_A_bestOrder_58 hl (k := 5) rfl rfl (by decide) rfl (fun ls hl => ?_)
      refine lv_goto hx hb dc_A_bestOrder_61 rfl ?_
      exact hK15 _ _ _ _ _ _ _ h hB (lv_sub hl [4, 5, 2, 1, 0] rfl)
  have L15 : ∀   (M : om_M) (x2 : Int32) (x3 : Int32) (x4 : Int32) (H : Heap) (locs : List Loc) (ls : Array Slot), wp_A_bestOrder_15 F o0 o1 Q   M x2 x3 x4 → ow_B G D cA ad (ow_A G ad) M s s.heap H locs → lv_has ls 6 [(0, .ref (ad o0)), (1, .ref (ad o1)), (2, .int x2), (3, .int x3), (4, .int x4)] → W p l e rm_A_bestOrder s m ([.ref (ad o0), .ref (ad o1)] : List Value).toArray below meth c H locs 0 0 (MQ below (ow_Qi G D cA ad Q) ([.ref (ad o0), .ref (ad o1)] : List Value).toArray s 0 0 (ow_A G ad)) (F0 m 15 ls []) := by
    have step : ∀ (k : Nat) (M : om_M) (x2 : Int32) (x3 : Int32) (x4 : Int32) (H : Heap) (locs : List Loc) (ls : Array Slot), ow_lp (fun (z : om_M × Int32 × Int32 × Int32) K => wp_A_bestOrder_15b F o0 o1 Q   K z.1 z.2.1 z.2.2.1 z.2.2.2) k (M, x2, x3, x4) → ow_B G D cA ad (ow_A G ad) M s s.heap H locs → lv_has ls 6 [(0, .ref (ad o0)), (1, .ref (ad o1)), (2, .int x2), (3, .int x3), (4, .int x4)] → W p l e rm_A_bestOrder s m ([.ref (ad o0), .ref (ad o1)] : List Value).toArray below meth c H locs 0 0 (MQ below (ow_Qi G D cA ad Q) ([.ref (ad o0), .ref (ad o1)] : List Value).toArray s 0 0 (ow_A G ad)) (F0 m 15 ls []) := by
      intro k
      induction k with
      | zero => intro M x2 x3 x4 H locs ls h hB hl; exact False.elim h
      | succ k ih => intro M x2 x3 x4 H locs ls h hB hl; exact B15   (ow_lp _ k) (fun M x2 x3 x4 H locs ls h hB  hl => ih M x2 x3 x4  H locs ls h hB hl) M x2 x3 x4 H locs ls h hB hl
    intro M x2 x3 x4 H locs ls h hB hl
    exact step F M x2 x3 x4 H locs ls h hB hl
  have hl := lv_entry ([.ref (ad o0), .ref (ad o1)]) (n := 6) (Nat.le_of_ble_eq_true rfl)
  rw [lg_entry_eq]
  generalize (lg_sl ([.ref (ad o0), .ref (ad o1)]) ++ List.replicate (6 - (lg_sl ([.ref (ad o0), .ref (ad o1)])).length) Slot.unset).toArray = ls at hl ⊢
  have hl : lv_has ls 6 [(0, .ref (ad o0)), (1, .ref (ad o1))] := hl
  show W p l e rm_A_bestOrder s m _ below meth c s.heap [] 0 0 _ _
  refine lv_aload_n hx hb dc_A_bestOrder_0 rfl (lv_at hl 0 rfl) ?_
  refine lv_aload_n hx hb dc_A_bestOrder_1 rfl (lv_at hl 1 rfl) ?_
  refine ow_callv (va_runV (As := [.ref (ad o1)]) (rest := []) ⟨hx, hb, hml, hown, hts⟩ (ct_A_weigh l G hG D cA ad F _ k0 _ k1 _ _ h) ⟨ow_cb 1 hts mw_286 mw_10 mw_283 rfl rfl hd_A_weigh ⟨Nat.le_of_ble_eq_true rfl, Nat.le_of_ble_eq_true rfl⟩, hts _ mw_285, hts _ ms_4⟩ (ow_preV hB k0 rfl) rfl rfl hl.1 rfl (lv_room (Nat.le_of_ble_eq_true rfl)) dc_A_bestOrder_2 ⟨Nat.zero_le _, Nat.zero_le _⟩) hB (fun M5 H locs h hB => ?_)
  refine lv_iconst (v := 0) hx hb dc_A_bestOrder_5 rfl ?_
  refine lv_istore_n hx hb dc_A_bestOrder_6 rfl hl (by decide) rfl (fun ls hl => ?_)
  refine lv_aload_n hx hb dc_A_bestOrder_7 rfl (lv_at hl 2 rfl) ?_
  refine ow_calli (va_runV (As := []) (rest := []) ⟨hx, hb, hml, hown, hts⟩ (ct_P_everyone l G hG D cA ad F _ k1 _ _ h) ⟨ow_cb 0 hts mw_260 mw_2 mw_291 rfl rfl hd_P_everyone ⟨Nat.le_of_ble_eq_true rfl, Nat.le_of_ble_eq_true rfl⟩, hts _ mw_258, hts _ mw_259⟩ (ow_preV hB k1 rfl) rfl rfl hl.1 rfl (lv_room (Nat.le_of_ble_eq_true rfl)) dc_A_bestOrder_8 ⟨Nat.zero_le _, Nat.zero_le _⟩) hB (fun r7 M6 H locs h hB => ?_)
  refine lv_istore_n hx hb dc_A_bestOrder_11 rfl hl (by decide) rfl (fun ls hl => ?_)
  refine lv_iconst (v := 0) hx hb dc_A_bestOrder_12 rfl ?_
  refine lv_istore hx hb dc_A_bestOrder_13 hl (by decide) rfl (fun ls hl => ?_)
  exact L15 _ _ _ _ _ _ _ h hB (lv_sub hl [3, 4, 2, 1, 0] rfl)
