def wp_E_countLeads_100 (F : Nat) (o0 : Nat) (o1 : Nat) (x2 : Int32) (Q : om_M → Prop)  (K25 : om_M × Int32 → Prop) (M : om_M) (x3 : Int32)  : Prop := K25 (M, x3 + 1)
def wp_E_countLeads_44b (F : Nat) (o0 : Nat) (o1 : Nat) (x2 : Int32) (Q : om_M → Prop) (x3 : Int32) (K25 : om_M × Int32 → Prop) (K44 : om_M × Int32 × Int32 → Prop) (M : om_M) (x4 : Int32) (x5 : Int32) : Prop := (((M.1 o1 5) ≤ x5 → wp_E_countLeads_100 F o0 o1 x2 Q K25 M x3) ∧ (¬ (M.1 o1 5) ≤ x5 → ((((x2 >>> ((x4 &&& 7) &&& 31)) &&& 1) = 0 → K44 (M, x4 >>> ((3 : Int32) &&& 31), x5 + 1)) ∧ (¬ ((x2 >>> ((x4 &&& 7) &&& 31)) &&& 1) = 0 → vp_in (x4 &&& 7) 7 ∧ vp_in x3 21 ∧ wp_E_countLeads_100 F o0 o1 x2 Q K25 (om_up M (o0 + 2) (x4 &&& 7).toNatClampNeg ((M.1 (o0 + 2) (x4 &&& 7).toNatClampNeg) + (M.1 (o1 + 2) x3.toNatClampNeg))) x3))))
def wp_E_countLeads_44 (F : Nat) (o0 : Nat) (o1 : Nat) (x2 : Int32) (Q : om_M → Prop) (x3 : Int32) (K25 : om_M × Int32 → Prop) (M : om_M) (x4 : Int32) (x5 : Int32) : Prop := ow_lp (fun (z : om_M × Int32 × Int32) K => wp_E_countLeads_44b F o0 o1 x2 Q x3 K25 K z.1 z.2.1 z.2.2) F (M, x4, x5)
def wp_E_countLeads_25b (F : Nat) (o0 : Nat) (o1 : Nat) (x2 : Int32) (Q : om_M → Prop)   (K25 : om_M × Int32 → Prop) (M : om_M) (x3 : Int32) : Prop := (((M.1 o1 6) ≤ x3 → Q M) ∧ (¬ (M.1 o1 6) ≤ x3 → vp_in x3 21 ∧ wp_E_countLeads_44 F o0 o1 x2 Q x3 K25 M (M.1 (o1 + 1) x3.toNatClampNeg) 0))
def wp_E_countLeads_25 (F : Nat) (o0 : Nat) (o1 : Nat) (x2 : Int32) (Q : om_M → Prop)   (M : om_M) (x3 : Int32) : Prop := ow_lp (fun (z : om_M × Int32) K => wp_E_countLeads_25b F o0 o1 x2 Q   K z.1 z.2) F (M, x3)
def wp_E_countLeads_23 (F : Nat) (o0 : Nat) (o1 : Nat) (x2 : Int32) (Q : om_M → Prop)   (M : om_M)   : Prop := wp_E_countLeads_25 F o0 o1 x2 Q M 0
def wp_E_countLeads_2b (F : Nat) (o0 : Nat) (o1 : Nat) (x2 : Int32) (Q : om_M → Prop)   (K2 : om_M × Int32 → Prop) (M : om_M) (x3 : Int32) : Prop := (((M.1 o1 5) ≤ x3 → wp_E_countLeads_23 F o0 o1 x2 Q M) ∧ (¬ (M.1 o1 5) ≤ x3 → vp_in x3 7 ∧ K2 (om_up M (o0 + 2) x3.toNatClampNeg 0, x3 + 1)))
def wp_E_countLeads_2 (F : Nat) (o0 : Nat) (o1 : Nat) (x2 : Int32) (Q : om_M → Prop)   (M : om_M) (x3 : Int32) : Prop := ow_lp (fun (z : om_M × Int32) K => wp_E_countLeads_2b F o0 o1 x2 Q   K z.1 z.2) F (M, x3)
def wp_E_countLeads (F : Nat) (o0 : Nat) (o1 : Nat) (x2 : Int32) (M : om_M) (Q : om_M → Prop) : Prop := wp_E_countLeads_2 F o0 o1 x2 Q M 0
def wp_E_goers_84 (F : Nat) (o0 : Nat) (o1 : Nat) (x2 : Int32) (Q : Int32 → om_M → Prop)  (K14 : om_M × Int32 × Int32 × Int32 → Prop) (M : om_M) (x3 : Int32) (x4 : Int32) (x5 : Int32)  : Prop := K14 (M, x3, x4, x5 + 1)
def wp_E_goers_48 (F : Nat) (o0 : Nat) (o1 : Nat) (x2 : Int32) (Q : Int32 → om_M → Prop)  (K14 : om_M × Int32 × Int32 × Int32 → Prop) (M : om_M) (x5 : Int32)  : Prop := vp_in x5 7 ∧ wp_E_goers_84 F o0 o1 x2 Q K14 M ((1 : Int32) <<< (x5 &&& 31)) (M.1 (o0 + 2) x5.toNatClampNeg) x5
def wp_E_goers_14b (F : Nat) (o0 : Nat) (o1 : Nat) (x2 : Int32) (Q : Int32 → om_M → Prop)   (K14 : om_M × Int32 × Int32 × Int32 → Prop) (M : om_M) (x3 : Int32) (x4 : Int32) (x5 : Int32) : Prop := (((M.1 o1 5) ≤ x5 → Q x3 M) ∧ (¬ (M.1 o1 5) ≤ x5 → ((((x2 >>> (x5 &&& 31)) &&& 1) = 0 → wp_E_goers_84 F o0 o1 x2 Q K14 M x3 x4 x5) ∧ (¬ ((x2 >>> (x5 &&& 31)) &&& 1) = 0 → ((x3 = 0 → wp_E_goers_48 F o0 o1 x2 Q K14 M x5) ∧ (¬ x3 = 0 → vp_in x5 7 ∧ ((x4 ≤ (M.1 (o0 + 2) x5.toNatClampNeg) → (((M.1 (o0 + 2) x5.toNatClampNeg) = x4 → wp_E_goers_84 F o0 o1 x2 Q K14 M (x3 ||| ((1 : Int32) <<< (x5 &&& 31))) x4 x5) ∧ (¬ (M.1 (o0 + 2) x5.toNatClampNeg) = x4 → wp_E_goers_84 F o0 o1 x2 Q K14 M x3 x4 x5))) ∧ (¬ x4 ≤ (M.1 (o0 + 2) x5.toNatClampNeg) → wp_E_goers_48 F o0 o1 x2 Q K14 M x5))))))))
def wp_E_goers_14 (F : Nat) (o0 : Nat) (o1 : Nat) (x2 : Int32) (Q : Int32 → om_M → Prop)   (M : om_M) (x3 : Int32) (x4 : Int32) (x5 : Int32) : Prop := ow_lp (fun (z : om_M × Int32 × Int32 × Int32) K => wp_E_goers_14b F o0 o1 x2 Q   K z.1 z.2.1 z.2.2.1 z.2.2.2) F (M, x3, x4, x5)
def wp_E_goers (F : Nat) (o0 : Nat) (o1 : Nat) (x2 : Int32) (M : om_M) (Q : Int32 → om_M → Prop) : Prop := wp_E_countLeads F o0 o1 x2 M (fun M3 => wp_E_goers_14 F o0 o1 x2 Q M3 0 0 0)
def wp_E_spread_103 (F : Nat) (o0 : Nat) (o1 : Nat) (Q : om_M → Prop)  (K34 : om_M × Int32 → Prop) (M : om_M) (x3 : Int32)  : Prop := K34 (M, x3 + (-1))
def wp_E_spread_97 (F : Nat) (o0 : Nat) (o1 : Nat) (Q : om_M → Prop) (x3 : Int32) (x4 : Int32) (K34 : om_M × Int32 → Prop) (K66 : om_M × Int32 → Prop) (M : om_M) (x5 : Int32)  : Prop := K66 (M, x5 + 1)
def wp_E_spread_66b (F : Nat) (o0 : Nat) (o1 : Nat) (Q : om_M → Prop) (x3 : Int32) (x4 : Int32) (K34 : om_M × Int32 → Prop) (K66 : om_M × Int32 → Prop) (M : om_M) (x5 : Int32) : Prop := (((M.1 o1 5) ≤ x5 → wp_E_spread_103 F o0 o1 Q K34 M x3) ∧ (¬ (M.1 o1 5) ≤ x5 → ((((x4 >>> (x5 &&& 31)) &&& 1) = 0 → wp_E_spread_97 F o0 o1 Q x3 x4 K34 K66 M x5) ∧ (¬ ((x4 >>> (x5 &&& 31)) &&& 1) = 0 → vp_in (x3 - ((1 : Int32) <<< (x5 &&& 31))) 128 ∧ wp_E_spread_97 F o0 o1 Q x3 x4 K34 K66 (om_up M (o0 + 1) (x3 - ((1 : Int32) <<< (x5 &&& 31))).toNatClampNeg 1) x5))))
def wp_E_spread_66 (F : Nat) (o0 : Nat) (o1 : Nat) (Q : om_M → Prop) (x3 : Int32) (x4 : Int32) (K34 : om_M × Int32 → Prop) (M : om_M) (x5 : Int32) : Prop := ow_lp (fun (z : om_M × Int32) K => wp_E_spread_66b F o0 o1 Q x3 x4 K34 K z.1 z.2) F (M, x5)
def wp_E_spread_34b (F : Nat) (o0 : Nat) (o1 : Nat) (Q : om_M → Prop)   (K34 : om_M × Int32 → Prop) (M : om_M) (x3 : Int32) : Prop := ((x3 ≤ 0 → Q M) ∧ (¬ x3 ≤ 0 → vp_in x3 128 ∧ (((M.1 (o0 + 1) x3.toNatClampNeg) = 0 → wp_E_spread_103 F o0 o1 Q K34 M x3) ∧ (¬ (M.1 (o0 + 1) x3.toNatClampNeg) = 0 → wp_JI_bitCount F x3 M (fun r4 M3 => ((r4 < 2 → wp_E_spread_103 F o0 o1 Q K34 M3 x3) ∧ (¬ r4 < 2 → wp_E_goers F o0 o1 x3 M3 (fun r6 M5 => wp_E_spread_66 F o0 o1 Q x3 r6 K34 M5 0))))))))
def wp_E_spread_34 (F : Nat) (o0 : Nat) (o1 : Nat) (Q : om_M → Prop)   (M : om_M) (x3 : Int32) : Prop := ow_lp (fun (z : om_M × Int32) K => wp_E_spread_34b F o0 o1 Q   K z.1 z.2) F (M, x3)
def wp_E_spread_25 (F : Nat) (o0 : Nat) (o1 : Nat) (Q : om_M → Prop)   (M : om_M) (x2 : Int32)  : Prop := vp_in x2 128 ∧ wp_E_spread_34 F o0 o1 Q (om_up M (o0 + 1) x2.toNatClampNeg 1) x2
def wp_E_spread_7b (F : Nat) (o0 : Nat) (o1 : Nat) (Q : om_M → Prop) (x2 : Int32)  (K7 : om_M × Int32 → Prop) (M : om_M) (x3 : Int32) : Prop := ((x2 ≤ x3 → wp_E_spread_25 F o0 o1 Q M x2) ∧ (¬ x2 ≤ x3 → vp_in x3 128 ∧ K7 (om_up M (o0 + 1) x3.toNatClampNeg 0, x3 + 1)))
def wp_E_spread_7 (F : Nat) (o0 : Nat) (o1 : Nat) (Q : om_M → Prop) (x2 : Int32)  (M : om_M) (x3 : Int32) : Prop := ow_lp (fun (z : om_M × Int32) K => wp_E_spread_7b F o0 o1 Q x2  K z.1 z.2) F (M, x3)
def wp_E_spread (F : Nat) (o0 : Nat) (o1 : Nat) (M : om_M) (Q : om_M → Prop) : Prop := wp_P_everyone F o1 M (fun r10 M9 => wp_E_spread_7 F o0 o1 Q r10 M9 0)
def wp_E_goerAt_37 (F : Nat) (o0 : Nat) (o1 : Nat) (x2 : Int32) (Q : Int32 → om_M → Prop)   (M : om_M) (x3 : Int32)  : Prop := wp_E_goers F o0 o1 x3 M (fun r2 M1 => wp_P_lastInTie F o1 r2 M1 (fun r4 M3 => Q r4 M3))
def wp_E_goerAt_8b (F : Nat) (o0 : Nat) (o1 : Nat) (x2 : Int32) (Q : Int32 → om_M → Prop)   (K8 : om_M × Int32 × Int32 → Prop) (M : om_M) (x3 : Int32) (x4 : Int32) : Prop := ((x2 ≤ x4 → wp_E_goerAt_37 F o0 o1 x2 Q M x3) ∧ (¬ x2 ≤ x4 → wp_E_goers F o0 o1 x3 M (fun r6 M5 => wp_P_lastInTie F o1 r6 M5 (fun r8 M7 => K8 (M7, x3 &&& (((1 : Int32) <<< (r8 &&& 31)) ^^^ (-1)), x4 + 1)))))
def wp_E_goerAt_8 (F : Nat) (o0 : Nat) (o1 : Nat) (x2 : Int32) (Q : Int32 → om_M → Prop)   (M : om_M) (x3 : Int32) (x4 : Int32) : Prop := ow_lp (fun (z : om_M × Int32 × Int32) K => wp_E_goerAt_8b F o0 o1 x2 Q   K z.1 z.2.1 z.2.2) F (M, x3, x4)
def wp_E_goerAt (F : Nat) (o0 : Nat) (o1 : Nat) (x2 : Int32) (M : om_M) (Q : Int32 → om_M → Prop) : Prop := wp_P_everyone F o1 M (fun r10 M9 => wp_E_goerAt_8 F o0 o1 x2 Q M9 r10 0)
def wp_E_winnerSet_34 (F : Nat) (o0 : Nat) (o1 : Nat) (Q : Int32 → om_M → Prop)  (K9 : om_M × Int32 × Int32 → Prop) (M : om_M) (x2 : Int32) (x3 : Int32)  : Prop := K9 (M, x2, x3 + 1)
def wp_E_winnerSet_9b (F : Nat) (o0 : Nat) (o1 : Nat) (Q : Int32 → om_M → Prop)   (K9 : om_M × Int32 × Int32 → Prop) (M : om_M) (x2 : Int32) (x3 : Int32) : Prop := (((M.1 o1 5) ≤ x3 → Q x2 M) ∧ (¬ (M.1 o1 5) ≤ x3 → vp_in ((1 : Int32) <<< (x3 &&& 31)) 128 ∧ (((M.1 (o0 + 1) ((1 : Int32) <<< (x3 &&& 31)).toNatClampNeg) = 0 → wp_E_winnerSet_34 F o0 o1 Q K9 M x2 x3) ∧ (¬ (M.1 (o0 + 1) ((1 : Int32) <<< (x3 &&& 31)).toNatClampNeg) = 0 → wp_E_winnerSet_34 F o0 o1 Q K9 M (x2 ||| ((1 : Int32) <<< (x3 &&& 31))) x3))))
def wp_E_winnerSet_9 (F : Nat) (o0 : Nat) (o1 : Nat) (Q : Int32 → om_M → Prop)   (M : om_M) (x2 : Int32) (x3 : Int32) : Prop := ow_lp (fun (z : om_M × Int32 × Int32) K => wp_E_winnerSet_9b F o0 o1 Q   K z.1 z.2.1 z.2.2) F (M, x2, x3)
def wp_E_winnerSet (F : Nat) (o0 : Nat) (o1 : Nat) (M : om_M) (Q : Int32 → om_M → Prop) : Prop := wp_E_spread F o0 o1 M (fun M2 => wp_E_winnerSet_9 F o0 o1 Q M2 0 0)
def wp_E_setsThatCanBeLeft_29 (F : Nat) (o0 : Nat) (o1 : Nat) (Q : Int32 → om_M → Prop)  (K9 : om_M × Int32 × Int32 → Prop) (M : om_M) (x2 : Int32) (x3 : Int32)  : Prop := K9 (M, x2, x3 + 1)
def wp_E_setsThatCanBeLeft_9b (F : Nat) (o0 : Nat) (o1 : Nat) (Q : Int32 → om_M → Prop)   (K9 : om_M × Int32 × Int32 → Prop) (M : om_M) (x2 : Int32) (x3 : Int32) : Prop := wp_P_everyone F o1 M (fun r2 M1 => ((r2 < x3 → Q x2 M1) ∧ (¬ r2 < x3 → vp_in x3 128 ∧ (((M1.1 (o0 + 1) x3.toNatClampNeg) = 0 → wp_E_setsThatCanBeLeft_29 F o0 o1 Q K9 M1 x2 x3) ∧ (¬ (M1.1 (o0 + 1) x3.toNatClampNeg) = 0 → wp_E_setsThatCanBeLeft_29 F o0 o1 Q K9 M1 (x2 + 1) x3)))))
def wp_E_setsThatCanBeLeft_9 (F : Nat) (o0 : Nat) (o1 : Nat) (Q : Int32 → om_M → Prop)   (M : om_M) (x2 : Int32) (x3 : Int32) : Prop := ow_lp (fun (z : om_M × Int32 × Int32) K => wp_E_setsThatCanBeLeft_9b F o0 o1 Q   K z.1 z.2.1 z.2.2) F (M, x2, x3)
def wp_E_setsThatCanBeLeft (F : Nat) (o0 : Nat) (o1 : Nat) (M : om_M) (Q : Int32 → om_M → Prop) : Prop := wp_E_spread F o0 o1 M (fun M4 => wp_E_setsThatCanBeLeft_9 F o0 o1 Q M4 0 1)
abbrev rm_E_countLeads : Room := { frames := 0, cells := 0, slots := 0, locals := 0 }
theorem hd_E_countLeads : yn_E_countLeads.cls ≠ "java/lang/invoke/MethodHandle" ∧ yn_E_countLeads.cls ≠ "java/lang/invoke/VarHandle" ∧ (parseMethodDescriptor yn_E_countLeads.desc).map (fun d => d.parameters.length) = some 2 := by decide +kernel
set_option maxHeartbeats 4000000 in
set_option maxRecDepth 100000 in
theorem ct_E_countLeads (l : Launch) (G : List (Nat × Nat)) (hG : ow_lay G) (D : va_G) (cA : Nat → ClassId) (ad : Nat → Nat) (F : Nat) (o0 : Nat) (k0 : ow_kd G o0 = (3, 3)) (o1 : Nat) (k1 : ow_kd G o1 = (3, 1)) (x2 : Int32) (M : om_M) (Q : om_M → Prop) (h : wp_E_countLeads F o0 o1 x2 M Q) : Met l yn_E_countLeads (ow_ws yn_E_countLeads cb_E_countLeads 7 none) rm_E_countLeads (ow_Pc G D cA ad M [.ref (ad o0), .ref (ad o1), .int x2]) (ow_Qv G D cA ad Q) 0 0 (ow_A G ad) := by
  refine Met.ofW (cc := cb_E_countLeads) (maxL := 7) (ret := none) (by decide) rfl ?_
  intro p e s m args below meth c s₁ B hml hv
  obtain ⟨rfl, hB⟩ := hv
  have hx := B.exec
  have hb := B.bytes
  have hr := B.returns
  have hlocks := B.notSynchronized
  have hts : ∀ w ∈ lw_g, w.before ([.ref (ad o0), .ref (ad o1), .int x2] : List Value).toArray s = true := fun w h => atoms_spec (ws := ow_ws yn_E_countLeads cb_E_countLeads 7 none) B.pre w (List.mem_cons_of_mem _ h)
  have hown : s.vm.findClass "BallotDesk$Elimination" = some m.cls := findClass_of_methodNamed B.named
  clear B
  have L100 : ∀  (K25 : om_M × Int32 → Prop) (hK25 : ∀ (M : om_M) (x3 : Int32) (H : Heap) (locs : List Loc) (ls : Array Slot), K25 (M, x3) → ow_B G D cA ad (ow_A G ad) M s s.heap H locs → lv_has ls 7 [(0, .ref (ad o0)), (1, .ref (ad o1)), (2, .int x2), (3, .int x3)] → W p l e rm_E_countLeads s m ([.ref (ad o0), .ref (ad o1), .int x2] : List Value).toArray below meth c H locs 0 0 (MQ below (ow_Qv G D cA ad Q) ([.ref (ad o0), .ref (ad o1), .int x2] : List Value).toArray s 0 0 (ow_A G ad)) (F0 m 25 ls [])) (M : om_M) (x3 : Int32)  (H : Heap) (locs : List Loc) (ls : Array Slot), wp_E_countLeads_100 F o0 o1 x2 Q  K25 M x3  → ow_B G D cA ad (ow_A G ad) M s s.heap H locs → lv_has ls 7 [(0, .ref (ad o0)), (1, .ref (ad o1)), (2, .int x2), (3, .int x3)] → W p l e rm_E_countLeads s m ([.ref (ad o0), .ref (ad o1), .int x2] : List Value).toArray below meth c H locs 0 0 (MQ below (ow_Qv G D cA ad Q) ([.ref (ad o0), .ref (ad o1), .int x2] : List Value).toArray s 0 0 (ow_A G ad)) (F0 m 100 ls []) := by
    intro  K25 hK25 M x3 H locs ls h hB hl
    refine lv_iinc hx hb dc_E_countLeads_100 hl (k := 3) rfl rfl (by decide) rfl (fun ls hl => ?_)
    refine lv_goto hx hb dc_E_countLeads_103 rfl ?_
    exact hK25 _ _ _ _ _ h hB (lv_sub hl [1, 2, 3, 0] rfl)
  have B44 : ∀ (x3 : Int32) (K25 : om_M × Int32 → Prop) (hK25 : ∀ (M : om_M) (x3 : Int32) (H : Heap) (locs : List Loc) (ls : Array Slot), K25 (M, x3) → ow_B G D cA ad (ow_A G ad) M s s.heap H locs → lv_has ls 7 [(0, .ref (ad o0)), (1, .ref (ad o1)), (2, .int x2), (3, .int x3)] → W p l e rm_E_countLeads s m ([.ref (ad o0), .ref (ad o1), .int x2] : List Value).toArray below meth c H locs 0 0 (MQ below (ow_Qv G D cA ad Q) ([.ref (ad o0), .ref (ad o1), .int x2] : List Value).toArray s 0 0 (ow_A G ad)) (F0 m 25 ls [])) (K44 : om_M × Int32 × Int32 → Prop) (hK44 : ∀ (M : om_M) (x4 : Int32) (x5 : Int32) (H : Heap) (locs : List Loc) (ls : Array Slot), K44 (M, x4, x5) → ow_B G D cA ad (ow_A G ad) M s s.heap H locs → lv_has ls 7 [(0, .ref (ad o0)), (1, .ref (ad o1)), (2, .int x2), (3, .int x3), (4, .int x4), (5, .int x5)] → W p l e rm_E_countLeads s m ([.ref (ad o0), .ref (ad o1), .int x2] : List Value).toArray below meth c H locs 0 0 (MQ below (ow_Qv G D cA ad Q) ([.ref (ad o0), .ref (ad o1), .int x2] : List Value).toArray s 0 0 (ow_A G ad)) (F0 m 44 ls [])) (M : om_M) (x4 : Int32) (x5 : Int32) (H : Heap) (locs : List Loc) (ls : Array Slot), wp_E_countLeads_44b F o0 o1 x2 Q x3 K25 K44 M x4 x5 → ow_B G D cA ad (ow_A G ad) M s s.heap H locs → lv_has ls 7 [(0, .ref (ad o0)), (1, .ref (ad o1)), (2, .int x2), (3, .int x3), (4, .int x4), (5, .int x5)] → W p l e rm_E_countLeads s m ([.ref (ad o0), .ref (ad o1), .int x2] : List Value).toArray below meth c H locs 0 0 (MQ below (ow_Qv G D cA ad Q) ([.ref (ad o0), .ref (ad o1), .int x2] : List Value).toArray s 0 0 (ow_A G ad)) (F0 m 44 ls []) := by
    intro x3 K25 hK25 K44 hK44 M x4 x5 H locs ls h hB hl
    refine lv_iload hx hb dc_E_countLeads_44 (lv_at hl 5 rfl) ?_
    refine lv_aload_n hx hb dc_E_countLeads_46 rfl (lv_at hl 1 rfl) ?_
    refine ow_get hx hb hts iw_P hown hB k1 rfl 5 (by decide) mw_61 rfl dc_E_countLeads_47 ?_
    obtain ⟨h1, h2⟩ := h
    refine lv_icmp_ge hx hb dc_E_countLeads_50 rfl (fun hc => ?_) (fun hc => ?_)
    · have h := h1 hc
      exact L100 K25 hK25 _ _ _ _ _ h hB (lv_sub hl [0, 1, 2, 3] rfl)
    · have h := h2 hc
      refine lv_iload hx hb dc_E_countLeads_53 (lv_at hl 4 rfl) ?_
      refine lv_bipush (v := 7) hx hb dc_E_countLeads_55 rfl ?_
      refine lv_iand hx hb dc_E_countLeads_57 ?_
      refine lv_istore hx hb dc_E_countLeads_58 hl (by decide) rfl (fun ls hl => ?_)
      refine lv_iload_n hx hb dc_E_countLeads_60 rfl (lv_at hl 3 rfl) ?_
      refine lv_iload hx hb dc_E_countLeads_61 (lv_at hl 0 rfl) ?_
      refine lv_ishr hx hb dc_E_countLeads_63 ?_
      refine lv_iconst (v := 1) hx hb dc_E_countLeads_64 rfl ?_
      refine lv_iand hx hb dc_E_countLeads_65 ?_
      obtain ⟨h1, h2⟩ := h
      refine lv_if_eq hx hb dc_E_countLeads_66 rfl (fun hc => ?_) (fun hc => ?_)
      · have h := h1 hc
        refine lv_iload hx hb dc_E_countLeads_88 (lv_at hl 5 rfl) ?_
        refine lv_iconst (v := 3) hx hb dc_E_countLeads_90 rfl ?_
        refine lv_ishr hx hb dc_E_countLeads_91 ?_
        refine lv_istore hx hb dc_E_countLeads_92 hl (by decide) rfl (fun ls hl => ?_)
        refine lv_iinc hx hb dc_E_countLeads_94 hl (k := 6) rfl rfl (by decide) rfl (fun ls hl => ?_)
        refine lv_goto hx hb dc_E_countLeads_97 rfl ?_
        exact hK44 _ _ _ _ _ _ h hB (lv_sub hl [3, 4, 5, 6, 1, 0] rfl)
      · have h := h2 hc
        refine lv_aload_n hx hb dc_E_countLeads_69 rfl (lv_at hl 1 rfl) ?_
        refine ow_get hx hb hts iw_E hown hB k0 rfl 1 (by decide) mw_131 rfl dc_E_countLeads_70 ?_
        refine lv_iload hx hb dc_E_countLeads_73 (lv_at hl 0 rfl) ?_
        refine lv_dup2_11 hx hb dc_E_countLeads_75 rfl rfl ?_
        obtain ⟨hi1, h⟩ := h
        refine ow_iald hx hb hB (ly_E_leads hG k0) hi1 dc_E_countLeads_76 ?_
        refine lv_aload_n hx hb dc_E_countLeads_77 rfl (lv_at hl 2 rfl) ?_
        refine ow_get hx hb hts iw_P hown hB k1 rfl 1 (by decide) mw_46 rfl dc_E_countLeads_78 ?_
        refine lv_iload_n hx hb dc_E_countLeads_81 rfl (lv_at hl 4 rfl) ?_
        obtain ⟨hi2, h⟩ := h
        refine ow_iald hx hb hB (ly_P_voters hG k1) hi2 dc_E_countLeads_82 ?_
        refine lv_iadd hx hb dc_E_countLeads_83 ?_
        refine ow_iast hx hb hB (ly_E_leads hG k0) hi1 dc_E_countLeads_84 (fun H locs hB => ?_)
        refine lv_goto hx hb dc_E_countLeads_85 rfl ?_
        exact L100 K25 hK25 _ _ _ _ _ h hB (lv_sub hl [1, 2, 3, 4] rfl)
  have L44 : ∀ (x3 : Int32) (K25 : om_M × Int32 → Prop) (hK25 : ∀ (M : om_M) (x3 : Int32) (H : Heap) (locs : List Loc) (ls : Array Slot), K25 (M, x3) → ow_B G D cA ad (ow_A G ad) M s s.heap H locs → lv_has ls 7 [(0, .ref (ad o0)), (1, .ref (ad o1)), (2, .int x2), (3, .int x3)] → W p l e rm_E_countLeads s m ([.ref (ad o0), .ref (ad o1), .int x2] : List Value).toArray below meth c H locs 0 0 (MQ below (ow_Qv G D cA ad Q) ([.ref (ad o0), .ref (ad o1), .int x2] : List Value).toArray s 0 0 (ow_A G ad)) (F0 m 25 ls [])) (M : om_M) (x4 : Int32) (x5 : Int32) (H : Heap) (locs : List Loc) (ls : Array Slot), wp_E_countLeads_44 F o0 o1 x2 Q x3 K25 M x4 x5 → ow_B G D cA ad (ow_A G ad) M s s.heap H locs → lv_has ls 7 [(0, .ref (ad o0)), (1, .ref (ad o1)), (2, .int x2), (3, .int x3), (4, .int x4), (5, .int x5)] → W p l e rm_E_countLeads s m ([.ref (ad o0), .ref (ad o1), .int x2] : List Value).toArray below meth c H locs 0 0 (MQ below (ow_Qv G D cA ad Q) ([.ref (ad o0), .ref (ad o1), .int x2] : List Value).toArray s 0 0 (ow_A G ad)) (F0 m 44 ls []) := by
    intro x3 K25 hK25
    have step : ∀ (k : Nat) (M : om_M) (x4 : Int32) (x5 : Int32) (H : Heap) (locs : List Loc) (ls : Array Slot), ow_lp (fun (z : om_M × Int32 × Int32) K => wp_E_countLeads_44b F o0 o1 x2 Q x3 K25 K z.1 z.2.1 z.2.2) k (M, x4, x5) → ow_B G D cA ad (ow_A G ad) M s s.heap H locs → lv_has ls 7 [(0, .ref (ad o0)), (1, .ref (ad o1)), (2, .int x2), (3, .int x3), (4, .int x4), (5, .int x5)] → W p l e rm_E_countLeads s m ([.ref (ad o0), .ref (ad o1), .int x2] : List Value).toArray below meth c H locs 0 0 (MQ below (ow_Qv G D cA ad Q) ([.ref (ad o0), .ref (ad o1), .int x2] : List Value).toArray s 0 0 (ow_A G ad)) (F0 m 44 ls []) := by
      intro k
      induction k with
      | zero => intro M x4 x5 H locs ls h hB hl; exact False.elim h
      | succ k ih => intro M x4 x5 H locs ls h hB hl; exact B44 x3 K25 hK25 (ow_lp _ k) (fun M x4 x5 H locs ls h hB  hl => ih M x4 x5  H locs ls h hB hl) M x4 x5 H locs ls h hB hl
    intro M x4 x5 H locs ls h hB hl
    exact step F M x4 x5 H locs ls h hB hl
  have B25 : ∀   (K25 : om_M × Int32 → Prop) (hK25 : ∀ (M : om_M) (x3 : Int32) (H : Heap) (locs : List Loc) (ls : Array Slot), K25 (M, x3) → ow_B G D cA ad (ow_A G ad) M s s.heap H locs → lv_has ls 7 [(0, .ref (ad o0)), (1, .ref (ad o1)), (2, .int x2), (3, .int x3)] → W p l e rm_E_countLeads s m ([.ref (ad o0), .ref (ad o1), .int x2] : List Value).toArray below meth c H locs 0 0 (MQ below (ow_Qv G D cA ad Q) ([.ref (ad o0), .ref (ad o1), .int x2] : List Value).toArray s 0 0 (ow_A G ad)) (F0 m 25 ls [])) (M : om_M) (x3 : Int32) (H : Heap) (locs : List Loc) (ls : Array Slot), wp_E_countLeads_25b F o0 o1 x2 Q   K25 M x3 → ow_B G D cA ad (ow_A G ad) M s s.heap H locs → lv_has ls 7 [(0, .ref (ad o0)), (1, .ref (ad o1)), (2, .int x2), (3, .int x3)] → W p l e rm_E_countLeads s m ([.ref (ad o0), .ref (ad o1), .int x2] : List Value).toArray below meth c H locs 0 0 (MQ below (ow_Qv G D cA ad Q) ([.ref (ad o0), .ref (ad o1), .int x2] : List Value).toArray s 0 0 (ow_A G ad)) (F0 m 25 ls []) := by
    intro   K25 hK25 M x3 H locs ls h hB hl
    refine lv_iload_n hx hb dc_E_countLeads_25 rfl (lv_at hl 3 rfl) ?_
    refine lv_aload_n hx hb dc_E_countLeads_26 rfl (lv_at hl 1 rfl) ?_
    refine ow_get hx hb hts iw_P hown hB k1 rfl 6 (by decide) mw_71 rfl dc_E_countLeads_27 ?_
    obtain ⟨h1, h2⟩ := h
    refine lv_icmp_ge hx hb dc_E_countLeads_30 rfl (fun hc => ?_) (fun hc => ?_)
    · have h := h1 hc
      exact ow_vret hx hb hr hlocks hB h dc_E_countLeads_106
    · have h := h2 hc
      refine lv_aload_n hx hb dc_E_countLeads_33 rfl (lv_at hl 1 rfl) ?_
      refine ow_get hx hb hts iw_P hown hB k1 rfl 0 (by decide) mw_42 rfl dc_E_countLeads_34 ?_
      refine lv_iload_n hx hb dc_E_countLeads_37 rfl (lv_at hl 3 rfl) ?_
      obtain ⟨hi3, h⟩ := h
      refine ow_iald hx hb hB (ly_P_orders hG k1) hi3 dc_E_countLeads_38 ?_
      refine lv_istore hx hb dc_E_countLeads_39 hl (by decide) rfl (fun ls hl => ?_)
      refine lv_iconst (v := 0) hx hb dc_E_countLeads_41 rfl ?_
      refine lv_istore hx hb dc_E_countLeads_42 hl (by decide) rfl (fun ls hl => ?_)
      exact L44 _ K25 hK25 _ _ _ _ _ _ h hB (lv_sub hl [2, 3, 4, 5, 1, 0] rfl)
  have L25 : ∀   (M : om_M) (x3 : Int32) (H : Heap) (locs : List Loc) (ls : Array Slot), wp_E_countLeads_25 F o0 o1 x2 Q   M x3 → ow_B G D cA ad (ow_A G ad) M s s.heap H locs → lv_has ls 7 [(0, .ref (ad o0)), (1, .ref (ad o1)), (2, .int x2), (3, .int x3)] → W p l e rm_E_countLeads s m ([.ref (ad o0), .ref (ad o1), .int x2] : List Value).toArray below meth c H locs 0 0 (MQ below (ow_Qv G D cA ad Q) ([.ref (ad o0), .ref (ad o1), .int x2] : List Value).toArray s 0 0 (ow_A G ad)) (F0 m 25 ls []) := by
    have step : ∀ (k : Nat) (M : om_M) (x3 : Int32) (H : Heap) (locs : List Loc) (ls : Array Slot), ow_lp (fun (z : om_M × Int32) K => wp_E_countLeads_25b F o0 o1 x2 Q   K z.1 z.2) k (M, x3) → ow_B G D cA ad (ow_A G ad) M s s.heap H locs → lv_has ls 7 [(0, .ref (ad o0)), (1, .ref (ad o1)), (2, .int x2), (3, .int x3)] → W p l e rm_E_countLeads s m ([.ref (ad o0), .ref (ad o1), .int x2] : List Value).toArray below meth c H locs 0 0 (MQ below (ow_Qv G D cA ad Q) ([.ref (ad o0), .ref (ad o1), .int x2] : List Value).toArray s 0 0 (ow_A G ad)) (F0 m 25 ls []) := by
      intro k
      induction k with
      | zero => intro M x3 H locs ls h hB hl; exact False.elim h
      | succ k ih => intro M x3 H locs ls h hB hl; exact B25   (ow_lp _ k) (fun M x3 H locs ls h hB  hl => ih M x3  H locs ls h hB hl) M x3 H locs ls h hB hl
    intro M x3 H locs ls h hB hl
    exact step F M x3 H locs ls h hB hl
  have L23 : ∀   (M : om_M)   (H : Heap) (locs : List Loc) (ls : Array Slot), wp_E_countLeads_23 F o0 o1 x2 Q   M   → ow_B G D cA ad (ow_A G ad) M s s.heap H locs → lv_has ls 7 [(0, .ref (ad o0)), (1, .ref (ad o1)), (2, .int x2)] → W p l e rm_E_countLeads s m ([.ref (ad o0), .ref (ad o1), .int x2] : List Value).toArray below meth c H locs 0 0 (MQ below (ow_Qv G D cA ad Q) ([.ref (ad o0), .ref (ad o1), .int x2] : List Value).toArray s 0 0 (ow_A G ad)) (F0 m 23 ls []) := by
    intro   M H locs ls h hB hl
    refine lv_iconst (v := 0) hx hb dc_E_countLeads_23 rfl ?_
    refine lv_istore_n hx hb dc_E_countLeads_24 rfl hl (by decide) rfl (fun ls hl => ?_)
    exact L25 _ _ _ _ _ h hB (lv_sub hl [1, 2, 3, 0] rfl)
  have B2 : ∀   (K2 : om_M × Int32 → Prop) (hK2 : ∀ (M : om_M) (x3 : Int32) (H : Heap) (locs : List Loc) (ls : Array Slot), K2 (M, x3) → ow_B G D cA ad (ow_A G ad) M s s.heap H locs → lv_has ls 7 [(0, .ref (ad o0)), (1, .ref (ad o1)), (2, .int x2), (3, .int x3)] → W p l e rm_E_countLeads s m ([.ref (ad o0), .ref (ad o1), .int x2] : List Value).toArray below meth c H locs 0 0 (MQ below (ow_Qv G D cA ad Q) ([.ref (ad o0), .ref (ad o1), .int x2] : List Value).toArray s 0 0 (ow_A G ad)) (F0 m 2 ls [])) (M : om_M) (x3 : Int32) (H : Heap) (locs : List Loc) (ls : Array Slot), wp_E_countLeads_2b F o0 o1 x2 Q   K2 M x3 → ow_B G D cA ad (ow_A G ad) M s s.heap H locs → lv_has ls 7 [(0, .ref (ad o0)), (1, .ref (ad o1)), (2, .int x2), (3, .int x3)] → W p l e rm_E_countLeads s m ([.ref (ad o0), .ref (ad o1), .int x2] : List Value).toArray below meth c H locs 0 0 (MQ below (ow_Qv G D cA ad Q) ([.ref (ad o0), .ref (ad o1), .int x2] : List Value).toArray s 0 0 (ow_A G ad)) (F0 m 2 ls []) := by
    intro   K2 hK2 M x3 H locs ls h hB hl
    refine lv_iload_n hx hb dc_E_countLeads_2 rfl (lv_at hl 3 rfl) ?_
    refine lv_aload_n hx hb dc_E_countLeads_3 rfl (lv_at hl 1 rfl) ?_
    refine ow_get hx hb hts iw_P hown hB k1 rfl 5 (by decide) mw_61 rfl dc_E_countLeads_4 ?_
    obtain ⟨h1, h2⟩ := h
    refine lv_icmp_ge hx hb dc_E_countLeads_7 rfl (fun hc => ?_) (fun hc => ?_)
    · have h := h1 hc
      exact L23 _ _ _ _ h hB (lv_sub hl [0, 1, 2] rfl)
    · have h := h2 hc
      refine lv_aload_n hx hb dc_E_countLeads_10 rfl (lv_at hl 0 rfl) ?_
      refine ow_get hx hb hts iw_E hown hB k0 rfl 1 (by decide) mw_131 rfl dc_E_countLeads_11 ?_
      refine lv_iload_n hx hb dc_E_countLeads_14 rfl (lv_at hl 3 rfl) ?_
      refine lv_iconst (v := 0) hx hb dc_E_countLeads_15 rfl ?_
      obtain ⟨hi4, h⟩ := h
      refine ow_iast hx hb hB (ly_E_leads hG k0) hi4 dc_E_countLeads_16 (fun H locs hB => ?_)
      refine lv_iinc hx hb dc_E_countLeads_17 hl (k := 3) rfl rfl (by decide) rfl (fun ls hl => ?_)
      refine lv_goto hx hb dc_E_countLeads_20 rfl ?_
      exact hK2 _ _ _ _ _ h hB (lv_sub hl [1, 2, 3, 0] rfl)
  have L2 : ∀   (M : om_M) (x3 : Int32) (H : Heap) (locs : List Loc) (ls : Array Slot), wp_E_countLeads_2 F o0 o1 x2 Q   M x3 → ow_B G D cA ad (ow_A G ad) M s s.heap H locs → lv_has ls 7 [(0, .ref (ad o0)), (1, .ref (ad o1)), (2, .int x2), (3, .int x3)] → W p l e rm_E_countLeads s m ([.ref (ad o0), .ref (ad o1), .int x2] : List Value).toArray below meth c H locs 0 0 (MQ below (ow_Qv G D cA ad Q) ([.ref (ad o0), .ref (ad o1), .int x2] : List Value).toArray s 0 0 (ow_A G ad)) (F0 m 2 ls []) := by
    have step : ∀ (k : Nat) (M : om_M) (x3 : Int32) (H : Heap) (locs : List Loc) (ls : Array Slot), ow_lp (fun (z : om_M × Int32) K => wp_E_countLeads_2b F o0 o1 x2 Q   K z.1 z.2) k (M, x3) → ow_B G D cA ad (ow_A G ad) M s s.heap H locs → lv_has ls 7 [(0, .ref (ad o0)), (1, .ref (ad o1)), (2, .int x2), (3, .int x3)] → W p l e rm_E_countLeads s m ([.ref (ad o0), .ref (ad o1), .int x2] : List Value).toArray below meth c H locs 0 0 (MQ below (ow_Qv G D cA ad Q) ([.ref (ad o0), .ref (ad o1), .int x2] : List Value).toArray s 0 0 (ow_A G ad)) (F0 m 2 ls []) := by
      intro k
      induction k with
      | zero => intro M x3 H locs ls h hB hl; exact False.elim h
      | succ k ih => intro M x3 H locs ls h hB hl; exact B2   (ow_lp _ k) (fun M x3 H locs ls h hB  hl => ih M x3  H locs ls h hB hl) M x3 H locs ls h hB hl
    intro M x3 H locs ls h hB hl
    exact step F M x3 H locs ls h hB hl
  have hl := lv_entry ([.ref (ad o0), .ref (ad o1), .int x2]) (n := 7) (Nat.le_of_ble_eq_true rfl)
  rw [lg_entry_eq]
  generalize (lg_sl ([.ref (ad o0), .ref (ad o1), .int x2]) ++ List.replicate (7 - (lg_sl ([.ref (ad o0), .ref (ad o1), .int x2])).length) Slot.unset).toArray = ls at hl ⊢
  have hl : lv_has ls 7 [(0, .ref (ad o0)), (1, .ref (ad o1)), (2, .int x2)] := hl
  show W p l e rm_E_countLeads s m _ below meth c s.heap [] 0 0 _ _
  refine lv_iconst (v := 0) hx hb dc_E_countLeads_0 rfl ?_
  refine lv_istore_n hx hb dc_E_countLeads_1 rfl hl (by decide) rfl (fun ls hl => ?_)
  exact L2 _ _ _ _ _ h hB (lv_sub hl [1, 2, 3, 0] rfl)
abbrev rm_E_goers : Room := { frames := 1, cells := 0, slots := 0, locals := 26 }
theorem hd_E_goers : yn_E_goers.cls ≠ "java/lang/invoke/MethodHandle" ∧ yn_E_goers.cls ≠ "java/lang/invoke/VarHandle" ∧ (parseMethodDescriptor yn_E_goers.desc).map (fun d => d.parameters.length) = some 2 := by decide +kernel
set_option maxHeartbeats 4000000 in
set_option maxRecDepth 100000 in
theorem ct_E_goers (l : Launch) (G : List (Nat × Nat)) (hG : ow_lay G) (D : va_G) (cA : Nat → ClassId) (ad : Nat → Nat) (F : Nat) (o0 : Nat) (k0 : ow_kd G o0 = (3, 3)) (o1 : Nat) (k1 : ow_kd G o1 = (3, 1)) (x2 : Int32) (M : om_M) (Q : Int32 → om_M → Prop) (h : wp_E_goers F o0 o1 x2 M Q) : Met l yn_E_goers (ow_ws yn_E_goers cb_E_goers 6 (some .int)) rm_E_goers (ow_Pc G D cA ad M [.ref (ad o0), .ref (ad o1), .int x2]) (ow_Qi G D cA ad Q) 0 0 (ow_A G ad) := by
  refine Met.ofW (cc := cb_E_goers) (maxL := 6) (ret := (some .int)) (by decide) rfl ?_
  intro p e s m args below meth c s₁ B hml hv
  obtain ⟨rfl, hB⟩ := hv
  have hx := B.exec
  have hb := B.bytes
  have hr := B.returns
  have hlocks := B.notSynchronized
  have hts : ∀ w ∈ lw_g, w.before ([.ref (ad o0), .ref (ad o1), .int x2] : List Value).toArray s = true := fun w h => atoms_spec (ws := ow_ws yn_E_goers cb_E_goers 6 (some .int)) B.pre w (List.mem_cons_of_mem _ h)
  have hown : s.vm.findClass "BallotDesk$Elimination" = some m.cls := findClass_of_methodNamed B.named
  clear B
  have L84 : ∀  (K14 : om_M × Int32 × Int32 × Int32 → Prop) (hK14 : ∀ (M : om_M) (x3 : Int32) (x4 : Int32) (x5 : Int32) (H : Heap) (locs : List Loc) (ls : Array Slot), K14 (M, x3, x4, x5) → ow_B G D cA ad (ow_A G ad) M s s.heap H locs → lv_has ls 6 [(0, .ref (ad o0)), (1, .ref (ad o1)), (2, .int x2), (3, .int x3), (4, .int x4), (5, .int x5)] → W p l e rm_E_goers s m ([.ref (ad o0), .ref (ad o1), .int x2] : List Value).toArray below meth c H locs 0 0 (MQ below (ow_Qi G D cA ad Q) ([.ref (ad o0), .ref (ad o1), .int x2] : List Value).toArray s 0 0 (ow_A G ad)) (F0 m 14 ls [])) (M : om_M) (x3 : Int32) (x4 : Int32) (x5 : Int32)  (H : Heap) (locs : List Loc) (ls : Array Slot), wp_E_goers_84 F o0 o1 x2 Q  K14 M x3 x4 x5  → ow_B G D cA ad (ow_A G ad) M s s.heap H locs → lv_has ls 6 [(0, .ref (ad o0)), (1, .ref (ad o1)), (2, .int x2), (3, .int x3), (4, .int x4), (5, .int x5)] → W p l e rm_E_goers s m ([.ref (ad o0), .ref (ad o1), .int x2] : List Value).toArray below meth c H locs 0 0 (MQ below (ow_Qi G D cA ad Q) ([.ref (ad o0), .ref (ad o1), .int x2] : List Value).toArray s 0 0 (ow_A G ad)) (F0 m 84 ls []) := by
    intro  K14 hK14 M x3 x4 x5 H locs ls h hB hl
    refine lv_iinc hx hb dc_E_goers_84 hl (k := 5) rfl rfl (by decide) rfl (fun ls hl => ?_)
    refine lv_goto hx hb dc_E_goers_87 rfl ?_
    exact hK14 _ _ _ _ _ _ _ h hB (lv_sub hl [1, 2, 3, 4, 5, 0] rfl)
  have L48 : ∀  (K14 : om_M × Int32 × Int32 × Int32 → Prop) (hK14 : ∀ (M : om_M) (x3 : Int32) (x4 : Int32) (x5 : Int32) (H : Heap) (locs : List Loc) (ls : Array Slot), K14 (M, x3, x4, x5) → ow_B G D cA ad (ow_A G ad) M s s.heap H locs → lv_has ls 6 [(0, .ref (ad o0)), (1, .ref (ad o1)), (2, .int x2), (3, .int x3), (4, .int x4), (5, .int x5)] → W p l e rm_E_goers s m ([.ref (ad o0), .ref (ad o1), .int x2] : List Value).toArray below meth c H locs 0 0 (MQ below (ow_Qi G D cA ad Q) ([.ref (ad o0), .ref (ad o1), .int x2] : List Value).toArray s 0 0 (ow_A G ad)) (F0 m 14 ls [])) (M : om_M) (x5 : Int32)  (H : Heap) (locs : List Loc) (ls : Array Slot), wp_E_goers_48 F o0 o1 x2 Q  K14 M x5  → ow_B G D cA ad (ow_A G ad) M s s.heap H locs → lv_has ls 6 [(0, .ref (ad o0)), (1, .ref (ad o1)), (2, .int x2), (5, .int x5)] → W p l e rm_E_goers s m ([.ref (ad o0), .ref (ad o1), .int x2] : List Value).toArray below meth c H locs 0 0 (MQ below (ow_Qi G D cA ad Q) ([.ref (ad o0), .ref (ad o1), .int x2] : List Value).toArray s 0 0 (ow_A G ad)) (F0 m 48 ls []) := by
    intro  K14 hK14 M x5 H locs ls h hB hl
    refine lv_aload_n hx hb dc_E_goers_48 rfl (lv_at hl 0 rfl) ?_
    refine ow_get hx hb hts iw_E hown hB k0 rfl 1 (by decide) mw_131 rfl dc_E_goers_49 ?_
    refine lv_iload hx hb dc_E_goers_52 (lv_at hl 3 rfl) ?_
    obtain ⟨hi1, h⟩ := h
    refine ow_iald hx hb hB (ly_E_leads hG k0) hi1 dc_E_goers_54 ?_
    refine lv_istore hx hb dc_E_goers_55 hl (by decide) rfl (fun ls hl => ?_)
    refine lv_iconst (v := 1) hx hb dc_E_goers_57 rfl ?_
    refine lv_iload hx hb dc_E_goers_58 (lv_at hl 4 rfl) ?_
    refine lv_ishl hx hb dc_E_goers_60 ?_
    refine lv_istore_n hx hb dc_E_goers_61 rfl hl (by decide) rfl (fun ls hl => ?_)
    refine lv_goto hx hb dc_E_goers_62 rfl ?_
    exact L84 K14 hK14 _ _ _ _ _ _ _ h hB (lv_sub hl [2, 3, 4, 0, 1, 5] rfl)
  have B14 : ∀   (K14 : om_M × Int32 × Int32 × Int32 → Prop) (hK14 : ∀ (M : om_M) (x3 : Int32) (x4 : Int32) (x5 : Int32) (H : Heap) (locs : List Loc) (ls : Array Slot), K14 (M, x3, x4, x5) → ow_B G D cA ad (ow_A G ad) M s s.heap H locs → lv_has ls 6 [(0, .ref (ad o0)), (1, .ref (ad o1)), (2, .int x2), (3, .int x3), (4, .int x4), (5, .int x5)] → W p l e rm_E_goers s m ([.ref (ad o0), .ref (ad o1), .int x2] : List Value).toArray below meth c H locs 0 0 (MQ below (ow_Qi G D cA ad Q) ([.ref (ad o0), .ref (ad o1), .int x2] : List Value).toArray s 0 0 (ow_A G ad)) (F0 m 14 ls [])) (M : om_M) (x3 : Int32) (x4 : Int32) (x5 : Int32) (H : Heap) (locs : List Loc) (ls : Array Slot), wp_E_goers_14b F o0 o1 x2 Q   K14 M x3 x4 x5 → ow_B G D cA ad (ow_A G ad) M s s.heap H locs → lv_has ls 6 [(0, .ref (ad o0)), (1, .ref (ad o1)), (2, .int x2), (3, .int x3), (4, .int x4), (5, .int x5)] → W p l e rm_E_goers s m ([.ref (ad o0), .ref (ad o1), .int x2] : List Value).toArray below meth c H locs 0 0 (MQ below (ow_Qi G D cA ad Q) ([.ref (ad o0), .ref (ad o1), .int x2] : List Value).toArray s 0 0 (ow_A G ad)) (F0 m 14 ls []) := by
    intro   K14 hK14 M x3 x4 x5 H locs ls h hB hl
    refine lv_iload hx hb dc_E_goers_14 (lv_at hl 5 rfl) ?_
    refine lv_aload_n hx hb dc_E_goers_16 rfl (lv_at hl 1 rfl) ?_
    refine ow_get hx hb hts iw_P hown hB k1 rfl 5 (by decide) mw_61 rfl dc_E_goers_17 ?_
    obtain ⟨h1, h2⟩ := h
    refine lv_icmp_ge hx hb dc_E_goers_20 rfl (fun hc => ?_) (fun hc => ?_)
    · have h := h1 hc
      refine lv_iload_n hx hb dc_E_goers_90 rfl (lv_at hl 3 rfl) ?_
      exact ow_iret hx hb hr hlocks hB h dc_E_goers_91
    · have h := h2 hc
      refine lv_iload_n hx hb dc_E_goers_23 rfl (lv_at hl 2 rfl) ?_
      refine lv_iload hx hb dc_E_goers_24 (lv_at hl 5 rfl) ?_
      refine lv_ishr hx hb dc_E_goers_26 ?_
      refine lv_iconst (v := 1) hx hb dc_E_goers_27 rfl ?_
      refine lv_iand hx hb dc_E_goers_28 ?_
      obtain ⟨h1, h2⟩ := h
      refine lv_if_eq hx hb dc_E_goers_29 rfl (fun hc => ?_) (fun hc => ?_)
      · have h := h1 hc
        exact L84 K14 hK14 _ _ _ _ _ _ _ h hB (lv_sub hl [0, 1, 2, 3, 4, 5] rfl)
      · have h := h2 hc
        refine lv_iload_n hx hb dc_E_goers_32 rfl (lv_at hl 3 rfl) ?_
        obtain ⟨h1, h2⟩ := h
        refine lv_if_eq hx hb dc_E_goers_33 rfl (fun hc => ?_) (fun hc => ?_)
        · have h := h1 hc
          exact L48 K14 hK14 _ _ _ _ _ h hB (lv_sub hl [0, 1, 2, 5] rfl)
        · have h := h2 hc
          refine lv_aload_n hx hb dc_E_goers_36 rfl (lv_at hl 0 rfl) ?_
          refine ow_get hx hb hts iw_E hown hB k0 rfl 1 (by decide) mw_131 rfl dc_E_goers_37 ?_
          refine lv_iload hx hb dc_E_goers_40 (lv_at hl 5 rfl) ?_
          obtain ⟨hi2, h⟩ := h
          refine ow_iald hx hb hB (ly_E_leads hG k0) hi2 dc_E_goers_42 ?_
          refine lv_iload hx hb dc_E_goers_43 (lv_at hl 4 rfl) ?_
          obtain ⟨h1, h2⟩ := h
          refine lv_icmp_ge hx hb dc_E_goers_45 rfl (fun hc => ?_) (fun hc => ?_)
          · have h := h1 hc
            refine lv_aload_n hx hb dc_E_goers_65 rfl (lv_at hl 0 rfl) ?_
            refine ow_get hx hb hts iw_E hown hB k0 rfl 1 (by decide) mw_131 rfl dc_E_goers_66 ?_
            refine lv_iload hx hb dc_E_goers_69 (lv_at hl 5 rfl) ?_
            refine ow_iald hx hb hB (ly_E_leads hG k0) hi2 dc_E_goers_71 ?_
            refine lv_iload hx hb dc_E_goers_72 (lv_at hl 4 rfl) ?_
            obtain ⟨h1, h2⟩ := h
            refine lv_icmp_ne hx hb dc_E_goers_74 rfl (fun hc => ?_) (fun hc => ?_)
            · have h := h2 hc
              exact L84 K14 hK14 _ _ _ _ _ _ _ h hB (lv_sub hl [0, 1, 2, 3, 4, 5] rfl)
            · have h := h1 hc
              refine lv_iload_n hx hb dc_E_goers_77 rfl (lv_at hl 3 rfl) ?_
              refine lv_iconst (v := 1) hx hb dc_E_goers_78 rfl ?_
              refine lv_iload hx hb dc_E_goers_79 (lv_at hl 5 rfl) ?_
              refine lv_ishl hx hb dc_E_goers_81 ?_
              refine lv_ior hx hb dc_E_goers_82 ?_
              refine lv_istore_n hx hb dc_E_goers_83 rfl hl (by decide) rfl (fun ls hl => ?_)
              exact L84 K14 hK14 _ _ _ _ _ _ _ h hB (lv_sub hl [1, 2, 3, 0, 4, 5] rfl)
          · have h := h2 hc
            exact L48 K14 hK14 _ _ _ _ _ h hB (lv_sub hl [0, 1, 2, 5] rfl)
  have L14 : ∀   (M : om_M) (x3 : Int32) (x4 : Int32) (x5 : Int32) (H : Heap) (locs : List Loc) (ls : Array Slot), wp_E_goers_14 F o0 o1 x2 Q   M x3 x4 x5 → ow_B G D cA ad (ow_A G ad) M s s.heap H locs → lv_has ls 6 [(0, .ref (ad o0)), (1, .ref (ad o1)), (2, .int x2), (3, .int x3), (4, .int x4), (5, .int x5)] → W p l e rm_E_goers s m ([.ref (ad o0), .ref (ad o1), .int x2] : List Value).toArray below meth c H locs 0 0 (MQ below (ow_Qi G D cA ad Q) ([.ref (ad o0), .ref (ad o1), .int x2] : List Value).toArray s 0 0 (ow_A G ad)) (F0 m 14 ls []) := by
    have step : ∀ (k : Nat) (M : om_M) (x3 : Int32) (x4 : Int32) (x5 : Int32) (H : Heap) (locs : List Loc) (ls : Array Slot), ow_lp (fun (z : om_M × Int32 × Int32 × Int32) K => wp_E_goers_14b F o0 o1 x2 Q   K z.1 z.2.1 z.2.2.1 z.2.2.2) k (M, x3, x4, x5) → ow_B G D cA ad (ow_A G ad) M s s.heap H locs → lv_has ls 6 [(0, .ref (ad o0)), (1, .ref (ad o1)), (2, .int x2), (3, .int x3), (4, .int x4), (5, .int x5)] → W p l e rm_E_goers s m ([.ref (ad o0), .ref (ad o1), .int x2] : List Value).toArray below meth c H locs 0 0 (MQ below (ow_Qi G D cA ad Q) ([.ref (ad o0), .ref (ad o1), .int x2] : List Value).toArray s 0 0 (ow_A G ad)) (F0 m 14 ls []) := by
      intro k
      induction k with
      | zero => intro M x3 x4 x5 H locs ls h hB hl; exact False.elim h
      | succ k ih => intro M x3 x4 x5 H locs ls h hB hl; exact B14   (ow_lp _ k) (fun M x3 x4 x5 H locs ls h hB  hl => ih M x3 x4 x5  H locs ls h hB hl) M x3 x4 x5 H locs ls h hB hl
    intro M x3 x4 x5 H locs ls h hB hl
    exact step F M x3 x4 x5 H locs ls h hB hl
  have hl := lv_entry ([.ref (ad o0), .ref (ad o1), .int x2]) (n := 6) (Nat.le_of_ble_eq_true rfl)
  rw [lg_entry_eq]
  generalize (lg_sl ([.ref (ad o0), .ref (ad o1), .int x2]) ++ List.replicate (6 - (lg_sl ([.ref (ad o0), .ref (ad o1), .int x2])).length) Slot.unset).toArray = ls at hl ⊢
  have hl : lv_has ls 6 [(0, .ref (ad o0)), (1, .ref (ad o1)), (2, .int x2)] := hl
  show W p l e rm_E_goers s m _ below meth c s.heap [] 0 0 _ _
  refine lv_aload_n hx hb dc_E_goers_0 rfl (lv_at hl 0 rfl) ?_
  refine lv_aload_n hx hb dc_E_goers_1 rfl (lv_at hl 1 rfl) ?_
  refine lv_iload_n hx hb dc_E_goers_2 rfl (lv_at hl 2 rfl) ?_
  refine ow_callv (va_runV (As := [.ref (ad o1), .int x2]) (rest := []) ⟨hx, hb, hml, hown, hts⟩ (ct_E_countLeads l G hG D cA ad F _ k0 _ k1 _ _ _ h) ⟨ow_cb 2 hts mw_274 mw_7 mw_271 rfl rfl hd_E_countLeads ⟨Nat.le_of_ble_eq_true rfl, Nat.le_of_ble_eq_true rfl⟩, hts _ mw_273, hts _ ms_3⟩ (ow_preV hB k0 rfl) rfl rfl hl.1 rfl (lv_room (Nat.le_of_ble_eq_true rfl)) dc_E_goers_3 ⟨Nat.zero_le _, Nat.zero_le _⟩) hB (fun M3 H locs h hB => ?_)
  refine lv_iconst (v := 0) hx hb dc_E_goers_6 rfl ?_
  refine lv_istore_n hx hb dc_E_goers_7 rfl hl (by decide) rfl (fun ls hl => ?_)
  refine lv_iconst (v := 0) hx hb dc_E_goers_8 rfl ?_
  refine lv_istore hx hb dc_E_goers_9 hl (by decide) rfl (fun ls hl => ?_)
  refine lv_iconst (v := 0) hx hb dc_E_goers_11 rfl ?_
  refine lv_istore hx hb dc_E_goers_12 hl (by decide) rfl (fun ls hl => ?_)
  exact L14 _ _ _ _ _ _ _ h hB (lv_sub hl [3, 4, 5, 2, 1, 0] rfl)
abbrev rm_E_spread : Room := { frames := 2, cells := 0, slots := 0, locals := 51 }
theorem hd_E_spread : yn_E_spread.cls ≠ "java/lang/invoke/MethodHandle" ∧ yn_E_spread.cls ≠ "java/lang/invoke/VarHandle" ∧ (parseMethodDescriptor yn_E_spread.desc).map (fun d => d.parameters.length) = some 1 := by decide +kernel
set_option maxHeartbeats 4000000 in
set_option maxRecDepth 100000 in
theorem ct_E_spread (l : Launch) (G : List (Nat × Nat)) (hG : ow_lay G) (D : va_G) (cA : Nat → ClassId) (ad : Nat → Nat) (F : Nat) (o0 : Nat) (k0 : ow_kd G o0 = (3, 3)) (o1 : Nat) (k1 : ow_kd G o1 = (3, 1)) (M : om_M) (Q : om_M → Prop) (h : wp_E_spread F o0 o1 M Q) : Met l yn_E_spread (ow_ws yn_E_spread cb_E_spread 6 none) rm_E_spread (ow_Pc G D cA ad M [.ref (ad o0), .ref (ad o1)]) (ow_Qv G D cA ad Q) 0 0 (ow_A G ad) := by
  refine Met.ofW (cc := cb_E_spread) (maxL := 6) (ret := none) (by decide) rfl ?_
  intro p e s m args below meth c s₁ B hml hv
  obtain ⟨rfl, hB⟩ := hv
  have hx := B.exec
  have hb := B.bytes
  have hr := B.returns
  have hlocks := B.notSynchronized
  have hts : ∀ w ∈ lw_g, w.before ([.ref (ad o0), .ref (ad o1)] : List Value).toArray s = true := fun w h => atoms_spec (ws := ow_ws yn_E_spread cb_E_spread 6 none) B.pre w (List.mem_cons_of_mem _ h)
  have hown : s.vm.findClass "BallotDesk$Elimination" = some m.cls := findClass_of_methodNamed B.named
  clear B
  have L103 : ∀  (K34 : om_M × Int32 → Prop) (hK34 : ∀ (M : om_M) (x3 : Int32) (H : Heap) (locs : List Loc) (ls : Array Slot), K34 (M, x3) → ow_B G D cA ad (ow_A G ad) M s s.heap H locs → lv_has ls 6 [(0, .ref (ad o0)), (1, .ref (ad o1)), (3, .int x3)] → W p l e rm_E_spread s m ([.ref (ad o0), .ref (ad o1)] : List Value).toArray below meth c H locs 0 0 (MQ below (ow_Qv G D cA ad Q) ([.ref (ad o0), .ref (ad o1)] : List Value).toArray s 0 0 (ow_A G ad)) (F0 m 34 ls [])) (M : om_M) (x3 : Int32)  (H : Heap) (locs : List Loc) (ls : Array Slot), wp_E_spread_103 F o0 o1 Q  K34 M x3  → ow_B G D cA ad (ow_A G ad) M s s.heap H locs → lv_has ls 6 [(0, .ref (ad o0)), (1, .ref (ad o1)), (3, .int x3)] → W p l e rm_E_spread s m ([.ref (ad o0), .ref (ad o1)] : List Value).toArray below meth c H locs 0 0 (MQ below (ow_Qv G D cA ad Q) ([.ref (ad o0), .ref (ad o1)] : List Value).toArray s 0 0 (ow_A G ad)) (F0 m 103 ls []) := by
    intro  K34 hK34 M x3 H locs ls h hB hl
    refine lv_iinc hx hb dc_E_spread_103 hl (k := 2) rfl rfl (by decide) rfl (fun ls hl => ?_)
    refine lv_goto hx hb dc_E_spread_106 rfl ?_
    exact hK34 _ _ _ _ _ h hB (lv_sub hl [1, 2, 0] rfl)
  have L97 : ∀ (x3 : Int32) (x4 : Int32) (K34 : om_M × Int32 → Prop) (hK34 : ∀ (M : om_M) (x3 : Int32) (H : Heap) (locs : List Loc) (ls : Array Slot), K34 (M, x3) → ow_B G D cA ad (ow_A G ad) M s s.heap H locs → lv_has ls 6 [(0, .ref (ad o0)), (1, .ref (ad o1)), (3, .int x3)] → W p l e rm_E_spread s m ([.ref (ad o0), .ref (ad o1)] : List Value).toArray below meth c H locs 0 0 (MQ below (ow_Qv G D cA ad Q) ([.ref (ad o0), .ref (ad o1)] : List Value).toArray s 0 0 (ow_A G ad)) (F0 m 34 ls [])) (K66 : om_M × Int32 → Prop) (hK66 : ∀ (M : om_M) (x5 : Int32) (H : Heap) (locs : List Loc) (ls : Array Slot), K66 (M, x5) → ow_B G D cA ad (ow_A G ad) M s s.heap H locs → lv_has ls 6 [(0, .ref (ad o0)), (1, .ref (ad o1)), (3, .int x3), (4, .int x4), (5, .int x5)] → W p l e rm_E_spread s m ([.ref (ad o0), .ref (ad o1)] : List Value).toArray below meth c H locs 0 0 (MQ below (ow_Qv G D cA ad Q) ([.ref (ad o0), .ref (ad o1)] : List Value).toArray s 0 0 (ow_A G ad)) (F0 m 66 ls [])) (M : om_M) (x5 : Int32)  (H : Heap) (locs : List Loc) (ls : Array Slot), wp_E_spread_97 F o0 o1 Q x3 x4 K34 K66 M x5  → ow_B G D cA ad (ow_A G ad) M s s.heap H locs → lv_has ls 6 [(0, .ref (ad o0)), (1, .ref (ad o1)), (3, .int x3), (4, .int x4), (5, .int x5)] → W p l e rm_E_spread s m ([.ref (ad o0), .ref (ad o1)] : List Value).toArray below meth c H locs 0 0 (MQ below (ow_Qv G D cA ad Q) ([.ref (ad o0), .ref (ad o1)] : List Value).toArray s 0 0 (ow_A G ad)) (F0 m 97 ls []) := by
    intro x3 x4 K34 hK34 K66 hK66 M x5 H locs ls h hB hl
    refine lv_iinc hx hb dc_E_spread_97 hl (k := 4) rfl rfl (by decide) rfl (fun ls hl => ?_)
    refine lv_goto hx hb dc_E_spread_100 rfl ?_
    exact hK66 _ _ _ _ _ h hB (lv_sub hl [1, 2, 3, 4, 0] rfl)
  have B66 : ∀ (x3 : Int32) (x4 : Int32) (K34 : om_M × Int32 → Prop) (hK34 : ∀ (M : om_M) (x3 : Int32) (H : Heap) (locs : List Loc) (ls : Array Slot), K34 (M, x3) → ow_B G D cA ad (ow_A G ad) M s s.heap H locs → lv_has ls 6 [(0, .ref (ad o0)), (1, .ref (ad o1)), (3, .int x3)] → W p l e rm_E_spread s m ([.ref (ad o0), .ref (ad o1)] : List Value).toArray below meth c H locs 0 0 (MQ below (ow_Qv G D cA ad Q) ([.ref (ad o0), .ref (ad o1)] : List Value).toArray s 0 0 (ow_A G ad)) (F0 m 34 ls [])) (K66 : om_M × Int32 → Prop) (hK66 : ∀ (M : om_M) (x5 : Int32) (H : Heap) (locs : List Loc) (ls : Array Slot), K66 (M, x5) → ow_B G D cA ad (ow_A G ad) M s s.heap H locs → lv_has ls 6 [(0, .ref (ad o0)), (1, .ref (ad o1)), (3, .int x3), (4, .int x4), (5, .int x5)] → W p l e rm_E_spread s m ([.ref (ad o0), .ref (ad o1)] : List Value).toArray below meth c H locs 0 0 (MQ below (ow_Qv G D cA ad Q) ([.ref (ad o0), .ref (ad o1)] : List Value).toArray s 0 0 (ow_A G ad)) (F0 m 66 ls [])) (M : om_M) (x5 : Int32) (H : Heap) (locs : List Loc) (ls : Array Slot), wp_E_spread_66b F o0 o1 Q x3 x4 K34 K66 M x5 → ow_B G D cA ad (ow_A G ad) M s s.heap H locs → lv_has ls 6 [(0, .ref (ad o0)), (1, .ref (ad o1)), (3, .int x3), (4, .int x4), (5, .int x5)] → W p l e rm_E_spread s m ([.ref (ad o0), .ref (ad o1)] : List Value).toArray below meth c H locs 0 0 (MQ below (ow_Qv G D cA ad Q) ([.ref (ad o0), .ref (ad o1)] : List Value).toArray s 0 0 (ow_A G ad)) (F0 m 66 ls []) := by
    intro x3 x4 K34 hK34 K66 hK66 M x5 H locs ls h hB hl
    refine lv_iload hx hb dc_E_spread_66 (lv_at hl 4 rfl) ?_
    refine lv_aload_n hx hb dc_E_spread_68 rfl (lv_at hl 1 rfl) ?_
    refine ow_get hx hb hts iw_P hown hB k1 rfl 5 (by decide) mw_61 rfl dc_E_spread_69 ?_
    obtain ⟨h1, h2⟩ := h
    refine lv_icmp_ge hx hb dc_E_spread_72 rfl (fun hc => ?_) (fun hc => ?_)
    · have h := h1 hc
      exact L103 K34 hK34 _ _ _ _ _ h hB (lv_sub hl [0, 1, 2] rfl)
    · have h := h2 hc
      refine lv_iload hx hb dc_E_spread_75 (lv_at hl 3 rfl) ?_
      refine lv_iload hx hb dc_E_spread_77 (lv_at hl 4 rfl) ?_
      refine lv_ishr hx hb dc_E_spread_79 ?_
      refine lv_iconst (v := 1) hx hb dc_E_spread_80 rfl ?_
      refine lv_iand hx hb dc_E_spread_81 ?_
      obtain ⟨h1, h2⟩ := h
      refine lv_if_eq hx hb dc_E_spread_82 rfl (fun hc => ?_) (fun hc => ?_)
      · have h := h1 hc
        exact L97 _ _ K34 hK34 K66 hK66 _ _ _ _ _ h hB (lv_sub hl [0, 1, 2, 3, 4] rfl)
      · have h := h2 hc
        refine lv_aload_n hx hb dc_E_spread_85 rfl (lv_at hl 0 rfl) ?_
        refine ow_get hx hb hts iw_E hown hB k0 rfl 0 (by decide) mw_130 rfl dc_E_spread_86 ?_
        refine lv_iload_n hx hb dc_E_spread_89 rfl (lv_at hl 2 rfl) ?_
        refine lv_iconst (v := 1) hx hb dc_E_spread_90 rfl ?_
        refine lv_iload hx hb dc_E_spread_91 (lv_at hl 4 rfl) ?_
        refine lv_ishl hx hb dc_E_spread_93 ?_
        refine lv_isub hx hb dc_E_spread_94 ?_
        refine lv_iconst (v := 1) hx hb dc_E_spread_95 rfl ?_
        obtain ⟨hi1, h⟩ := h
        refine ow_zast hx hb hB (ly_E_canBeLeft hG k0) (by decide) hi1 dc_E_spread_96 (fun H locs hB => ?_)
        exact L97 _ _ K34 hK34 K66 hK66 _ _ _ _ _ h hB (lv_sub hl [0, 1, 2, 3, 4] rfl)
  have L66 : ∀ (x3 : Int32) (x4 : Int32) (K34 : om_M × Int32 → Prop) (hK34 : ∀ (M : om_M) (x3 : Int32) (H : Heap) (locs : List Loc) (ls : Array Slot), K34 (M, x3) → ow_B G D cA ad (ow_A G ad) M s s.heap H locs → lv_has ls 6 [(0, .ref (ad o0)), (1, .ref (ad o1)), (3, .int x3)] → W p l e rm_E_spread s m ([.ref (ad o0), .ref (ad o1)] : List Value).toArray below meth c H locs 0 0 (MQ below (ow_Qv G D cA ad Q) ([.ref (ad o0), .ref (ad o1)] : List Value).toArray s 0 0 (ow_A G ad)) (F0 m 34 ls [])) (M : om_M) (x5 : Int32) (H : Heap) (locs : List Loc) (ls : Array Slot), wp_E_spread_66 F o0 o1 Q x3 x4 K34 M x5 → ow_B G D cA ad (ow_A G ad) M s s.heap H locs → lv_has ls 6 [(0, .ref (ad o0)), (1, .ref (ad o1)), (3, .int x3), (4, .int x4), (5, .int x5)] → W p l e rm_E_spread s m ([.ref (ad o0), .ref (ad o1)] : List Value).toArray below meth c H locs 0 0 (MQ below (ow_Qv G D cA ad Q) ([.ref (ad o0), .ref (ad o1)] : List Value).toArray s 0 0 (ow_A G ad)) (F0 m 66 ls []) := by
    intro x3 x4 K34 hK34
    have step : ∀ (k : Nat) (M : om_M) (x5 : Int32) (H : Heap) (locs : List Loc) (ls : Array Slot), ow_lp (fun (z : om_M × Int32) K => wp_E_spread_66b F o0 o1 Q x3 x4 K34 K z.1 z.2) k (M, x5) → ow_B G D cA ad (ow_A G ad) M s s.heap H locs → lv_has ls 6 [(0, .ref (ad o0)), (1, .ref (ad o1)), (3, .int x3), (4, .int x4), (5, .int x5)] → W p l e rm_E_spread s m ([.ref (ad o0), .ref (ad o1)] : List Value).toArray below meth c H locs 0 0 (MQ below (ow_Qv G D cA ad Q) ([.ref (ad o0), .ref (ad o1)] : List Value).toArray s 0 0 (ow_A G ad)) (F0 m 66 ls []) := by
      intro k
      induction k with
      | zero => intro M x5 H locs ls h hB hl; exact False.elim h
      | succ k ih => intro M x5 H locs ls h hB hl; exact B66 x3 x4 K34 hK34 (ow_lp _ k) (fun M x5 H locs ls h hB  hl => ih M x5  H locs ls h hB hl) M x5 H locs ls h hB hl
    intro M x5 H locs ls h hB hl
    exact step F M x5 H locs ls h hB hl
  have B34 : ∀   (K34 : om_M × Int32 → Prop) (hK34 : ∀ (M : om_M) (x3 : Int32) (H : Heap) (locs : List Loc) (ls : Array Slot), K34 (M, x3) → ow_B G D cA ad (ow_A G ad) M s s.heap H locs → lv_has ls 6 [(0, .ref (ad o0)), (1, .ref (ad o1)), (3, .int x3)] → W p l e rm_E_spread s m ([.ref (ad o0), .ref (ad o1)] : List Value).toArray below meth c H locs 0 0 (MQ below (ow_Qv G D cA ad Q) ([.ref (ad o0), .ref (ad o1)] : List Value).toArray s 0 0 (ow_A G ad)) (F0 m 34 ls [])) (M : om_M) (x3 : Int32) (H : Heap) (locs : List Loc) (ls : Array Slot), wp_E_spread_34b F o0 o1 Q   K34 M x3 → ow_B G D cA ad (ow_A G ad) M s s.heap H locs → lv_has ls 6 [(0, .ref (ad o0)), (1, .ref (ad o1)), (3, .int x3)] → W p l e rm_E_spread s m ([.ref (ad o0), .ref (ad o1)] : List Value).toArray below meth c H locs 0 0 (MQ below (ow_Qv G D cA ad Q) ([.ref (ad o0), .ref (ad o1)] : List Value).toArray s 0 0 (ow_A G ad)) (F0 m 34 ls []) := by
    intro   K34 hK34 M x3 H locs ls h hB hl
    refine lv_iload_n hx hb dc_E_spread_34 rfl (lv_at hl 2 rfl) ?_
    obtain ⟨h1, h2⟩ := h
    refine lv_if_le hx hb dc_E_spread_35 rfl (fun hc => ?_) (fun hc => ?_)
    · have h := h1 hc
      exact ow_vret hx hb hr hlocks hB h dc_E_spread_109
    · have h := h2 hc
      refine lv_aload_n hx hb dc_E_spread_38 rfl (lv_at hl 0 rfl) ?_
      refine ow_get hx hb hts iw_E hown hB k0 rfl 0 (by decide) mw_130 rfl dc_E_spread_39 ?_
      refine lv_iload_n hx hb dc_E_spread_42 rfl (lv_at hl 2 rfl) ?_
      obtain ⟨hi2, h⟩ := h
      refine ow_zald hx hb hB (ly_E_canBeLeft hG k0) hi2 dc_E_spread_43 ?_
      obtain ⟨h1, h2⟩ := h
      refine lv_if_eq hx hb dc_E_spread_44 rfl (fun hc => ?_) (fun hc => ?_)
      · have h := h1 hc
        exact L103 K34 hK34 _ _ _ _ _ h hB (lv_sub hl [0, 1, 2] rfl)
      · have h := h2 hc
        refine lv_iload_n hx hb dc_E_spread_47 rfl (lv_at hl 2 rfl) ?_
        refine ow_calli (va_runS (As := [.int x3]) (rest := []) ⟨hx, hb, hml, hown, hts⟩ (ct_JI_bitCount l G hG D cA ad F _ _ _ h) ⟨ow_cb 1 hts mw_263 mw_20 mw_261 rfl rfl hd_JI_bitCount ⟨Nat.le_of_ble_eq_true rfl, Nat.le_of_ble_eq_true rfl⟩, hts _ mw_262⟩ (ow_preS hB) rfl rfl hl.1 rfl (lv_room (Nat.le_of_ble_eq_true rfl)) dc_E_spread_48 ⟨Nat.zero_le _, Nat.zero_le _⟩) hB (fun r4 M3 H locs h hB => ?_)
        refine lv_iconst (v := 2) hx hb dc_E_spread_51 rfl ?_
        obtain ⟨h1, h2⟩ := h
        refine lv_icmp_lt hx hb dc_E_spread_52 rfl (fun hc => ?_) (fun hc => ?_)
        · have h := h1 hc
          exact L103 K34 hK34 _ _ _ _ _ h hB (lv_sub hl [0, 1, 2] rfl)
        · have h := h2 hc
          refine lv_aload_n hx hb dc_E_spread_55 rfl (lv_at hl 0 rfl) ?_
          refine lv_aload_n hx hb dc_E_spread_56 rfl (lv_at hl 1 rfl) ?_
          refine lv_iload_n hx hb dc_E_spread_57 rfl (lv_at hl 2 rfl) ?_
          refine ow_calli (va_runV (As := [.ref (ad o1), .int x3]) (rest := []) ⟨hx, hb, hml, hown, hts⟩ (ct_E_goers l G hG D cA ad F _ k0 _ k1 _ _ _ h) ⟨ow_cb 2 hts mw_270 mw_7 mw_267 rfl rfl hd_E_goers ⟨Nat.le_of_ble_eq_true rfl, Nat.le_of_ble_eq_true rfl⟩, hts _ mw_269, hts _ ms_2⟩ (ow_preV hB k0 rfl) rfl rfl hl.1 rfl (lv_room (Nat.le_of_ble_eq_true rfl)) dc_E_spread_58 ⟨Nat.zero_le _, Nat.zero_le _⟩) hB (fun r6 M5 H locs h hB => ?_)
          refine lv_istore hx hb dc_E_spread_61 hl (by decide) rfl (fun ls hl => ?_)
          refine lv_iconst (v := 0) hx hb dc_E_spread_63 rfl ?_
          refine lv_istore hx hb dc_E_spread_64 hl (by decide) rfl (fun ls hl => ?_)
          exact L66 _ _ K34 hK34 _ _ _ _ _ h hB (lv_sub hl [2, 3, 4, 1, 0] rfl)
  have L34 : ∀   (M : om_M) (x3 : Int32) (H : Heap) (locs : List Loc) (ls : Array Slot), wp_E_spread_34 F o0 o1 Q   M x3 → ow_B G D cA ad (ow_A G ad) M s s.heap H locs → lv_has ls 6 [(0, .ref (ad o0)), (1, .ref (ad o1)), (3, .int x3)] → W p l e rm_E_spread s m ([.ref (ad o0), .ref (ad o1)] : List Value).toArray below meth c H locs 0 0 (MQ below (ow_Qv G D cA ad Q) ([.ref (ad o0), .ref (ad o1)] : List Value).toArray s 0 0 (ow_A G ad)) (F0 m 34 ls []) := by
    have step : ∀ (k : Nat) (M : om_M) (x3 : Int32) (H : Heap) (locs : List Loc) (ls : Array Slot), ow_lp (fun (z : om_M × Int32) K => wp_E_spread_34b F o0 o1 Q   K z.1 z.2) k (M, x3) → ow_B G D cA ad (ow_A G ad) M s s.heap H locs → lv_has ls 6 [(0, .ref (ad o0)), (1, .ref (ad o1)), (3, .int x3)] → W p l e rm_E_spread s m ([.ref (ad o0), .ref (ad o1)] : List Value).toArray below meth c H locs 0 0 (MQ below (ow_Qv G D cA ad Q) ([.ref (ad o0), .ref (ad o1)] : List Value).toArray s 0 0 (ow_A G ad)) (F0 m 34 ls []) := by
      intro k
      induction k with
      | zero => intro M x3 H locs ls h hB hl; exact False.elim h
      | succ k ih => intro M x3 H locs ls h hB hl; exact B34   (ow_lp _ k) (fun M x3 H locs ls h hB  hl => ih M x3  H locs ls h hB hl) M x3 H locs ls h hB hl
    intro M x3 H locs ls h hB hl
    exact step F M x3 H locs ls h hB hl
  have L25 : ∀   (M : om_M) (x2 : Int32)  (H : Heap) (locs : List Loc) (ls : Array Slot), wp_E_spread_25 F o0 o1 Q   M x2  → ow_B G D cA ad (ow_A G ad) M s s.heap H locs → lv_has ls 6 [(0, .ref (ad o0)), (1, .ref (ad o1)), (2, .int x2)] → W p l e rm_E_spread s m ([.ref (ad o0), .ref (ad o1)] : List Value).toArray below meth c H locs 0 0 (MQ below (ow_Qv G D cA ad Q) ([.ref (ad o0), .ref (ad o1)] : List Value).toArray s 0 0 (ow_A G ad)) (F0 m 25 ls []) := by
    intro   M x2 H locs ls h hB hl
    refine lv_aload_n hx hb dc_E_spread_25 rfl (lv_at hl 0 rfl) ?_
    refine ow_get hx hb hts iw_E hown hB k0 rfl 0 (by decide) mw_130 rfl dc_E_spread_26 ?_
    refine lv_iload_n hx hb dc_E_spread_29 rfl (lv_at hl 2 rfl) ?_
    refine lv_iconst (v := 1) hx hb dc_E_spread_30 rfl ?_
    obtain ⟨hi7, h⟩ := h
    refine ow_zast hx hb hB (ly_E_canBeLeft hG k0) (by decide) hi7 dc_E_spread_31 (fun H locs hB => ?_)
    refine lv_iload_n hx hb dc_E_spread_32 rfl (lv_at hl 2 rfl) ?_
    refine lv_istore_n hx hb dc_E_spread_33 rfl hl (by decide) rfl (fun ls hl => ?_)
    exact L34 _ _ _ _ _ h hB (lv_sub hl [1, 2, 0] rfl)
  have B7 : ∀ (x2 : Int32)  (K7 : om_M × Int32 → Prop) (hK7 : ∀ (M : om_M) (x3 : Int32) (H : Heap) (locs : List Loc) (ls : Array Slot), K7 (M, x3) → ow_B G D cA ad (ow_A G ad) M s s.heap H locs → lv_has ls 6 [(0, .ref (ad o0)), (1, .ref (ad o1)), (2, .int x2), (3, .int x3)] → W p l e rm_E_spread s m ([.ref (ad o0), .ref (ad o1)] : List Value).toArray below meth c H locs 0 0 (MQ below (ow_Qv G D cA ad Q) ([.ref (ad o0), .ref (ad o1)] : List Value).toArray s 0 0 (ow_A G ad)) (F0 m 7 ls [])) (M : om_M) (x3 : Int32) (H : Heap) (locs : List Loc) (ls : Array Slot), wp_E_spread_7b F o0 o1 Q x2  K7 M x3 → ow_B G D cA ad (ow_A G ad) M s s.heap H locs → lv_has ls 6 [(0, .ref (ad o0)), (1, .ref (ad o1)), (2, .int x2), (3, .int x3)] → W p l e rm_E_spread s m ([.ref (ad o0), .ref (ad o1)] : List Value).toArray below meth c H locs 0 0 (MQ below (ow_Qv G D cA ad Q) ([.ref (ad o0), .ref (ad o1)] : List Value).toArray s 0 0 (ow_A G ad)) (F0 m 7 ls []) := by
    intro x2  K7 hK7 M x3 H locs ls h hB hl
    refine lv_iload_n hx hb dc_E_spread_7 rfl (lv_at hl 3 rfl) ?_
    refine lv_iload_n hx hb dc_E_spread_8 rfl (lv_at hl 2 rfl) ?_
    obtain ⟨h1, h2⟩ := h
    refine lv_icmp_ge hx hb dc_E_spread_9 rfl (fun hc => ?_) (fun hc => ?_)
    · have h := h1 hc
      exact L25 _ _ _ _ _ h hB (lv_sub hl [0, 1, 2] rfl)
    · have h := h2 hc
      refine lv_aload_n hx hb dc_E_spread_12 rfl (lv_at hl 0 rfl) ?_
      refine ow_get hx hb hts iw_E hown hB k0 rfl 0 (by decide) mw_130 rfl dc_E_spread_13 ?_
      refine lv_iload_n hx hb dc_E_spread_16 rfl (lv_at hl 3 rfl) ?_
      refine lv_iconst (v := 0) hx hb dc_E_spread_17 rfl ?_
      obtain ⟨hi8, h⟩ := h
      refine ow_zast hx hb hB (ly_E_canBeLeft hG k0) (by decide) hi8 dc_E_spread_18 (fun H locs hB => ?_)
      refine lv_iinc hx hb dc_E_spread_19 hl (k := 3) rfl rfl (by decide) rfl (fun ls hl => ?_)
      refine lv_goto hx hb dc_E_spread_22 rfl ?_
      exact hK7 _ _ _ _ _ h hB (lv_sub hl [1, 2, 3, 0] rfl)
  have L7 : ∀ (x2 : Int32)  (M : om_M) (x3 : Int32) (H : Heap) (locs : List Loc) (ls : Array Slot), wp_E_spread_7 F o0 o1 Q x2  M x3 → ow_B G D cA ad (ow_A G ad) M s s.heap H locs → lv_has ls 6 [(0, .ref (ad o0)), (1, .ref (ad o1)), (2, .int x2), (3, .int x3)] → W p l e rm_E_spread s m ([.ref (ad o0), .ref (ad o1)] : List Value).toArray below meth c H locs 0 0 (MQ below (ow_Qv G D cA ad Q) ([.ref (ad o0), .ref (ad o1)] : List Value).toArray s 0 0 (ow_A G ad)) (F0 m 7 ls []) := by
    intro x2 
    have step : ∀ (k : Nat) (M : om_M) (x3 : Int32) (H : Heap) (locs : List Loc) (ls : Array Slot), ow_lp (fun (z : om_M × Int32) K => wp_E_spread_7b F o0 o1 Q x2  K z.1 z.2) k (M, x3) → ow_B G D cA ad (ow_A G ad) M s s.heap H locs → lv_has ls 6 [(0, .ref (ad o0)), (1, .ref (ad o1)), (2, .int x2), (3, .int x3)] → W p l e rm_E_spread s m ([.ref (ad o0), .ref (ad o1)] : List Value).toArray below meth c H locs 0 0 (MQ below (ow_Qv G D cA ad Q) ([.ref (ad o0), .ref (ad o1)] : List Value).toArray s 0 0 (ow_A G ad)) (F0 m 7 ls []) := by
      intro k
      induction k with
      | zero => intro M x3 H locs ls h hB hl; exact False.elim h
      | succ k ih => intro M x3 H locs ls h hB hl; exact B7 x2  (ow_lp _ k) (fun M x3 H locs ls h hB  hl => ih M x3  H locs ls h hB hl) M x3 H locs ls h hB hl
    intro M x3 H locs ls h hB hl
    exact step F M x3 H locs ls h hB hl
  have hl := lv_entry ([.ref (ad o0), .ref (ad o1)]) (n := 6) (Nat.le_of_ble_eq_true rfl)
  rw [lg_entry_eq]
  generalize (lg_sl ([.ref (ad o0), .ref (ad o1)]) ++ List.replicate (6 - (lg_sl ([.ref (ad o0), .ref (ad o1)])).length) Slot.unset).toArray = ls at hl ⊢
  have hl : lv_has ls 6 [(0, .ref (ad o0)), (1, .ref (ad o1))] := hl
  show W p l e rm_E_spread s m _ below meth c s.heap [] 0 0 _ _
  refine lv_aload_n hx hb dc_E_spread_0 rfl (lv_at hl 1 rfl) ?_
  refine ow_calli (va_runV (As := []) (rest := []) ⟨hx, hb, hml, hown, hts⟩ (ct_P_everyone l G hG D cA ad F _ k1 _ _ h) ⟨ow_cb 0 hts mw_260 mw_2 mw_257 rfl rfl hd_P_everyone ⟨Nat.le_of_ble_eq_true rfl, Nat.le_of_ble_eq_true rfl⟩, hts _ mw_258, hts _ mw_259⟩ (ow_preV hB k1 rfl) rfl rfl hl.1 rfl (lv_room (Nat.le_of_ble_eq_true rfl)) dc_E_spread_1 ⟨Nat.zero_le _, Nat.zero_le _⟩) hB (fun r10 M9 H locs h hB => ?_)
  refine lv_istore_n hx hb dc_E_spread_4 rfl hl (by decide) rfl (fun ls hl => ?_)
  refine lv_iconst (v := 0) hx hb dc_E_spread_5 rfl ?_
  refine lv_istore_n hx hb dc_E_spread_6 rfl hl (by decide) rfl (fun ls hl => ?_)
  exact L7 _ _ _ _ _ _ h hB (lv_sub hl [2, 3, 1, 0] rfl)
abbrev rm_E_goerAt : Room := { frames := 2, cells := 0, slots := 0, locals := 51 }
theorem hd_E_goerAt : yn_E_goerAt.cls ≠ "java/lang/invoke/MethodHandle" ∧ yn_E_goerAt.cls ≠ "java/lang/invoke/VarHandle" ∧ (parseMethodDescriptor yn_E_goerAt.desc).map (fun d => d.parameters.length) = some 2 := by decide +kernel
set_option maxHeartbeats 4000000 in
set_option maxRecDepth 100000 in
theorem ct_E_goerAt (l : Launch) (G : List (Nat × Nat)) (hG : ow_lay G) (D : va_G) (cA : Nat → ClassId) (ad : Nat → Nat) (F : Nat) (o0 : Nat) (k0 : ow_kd G o0 = (3, 3)) (o1 : Nat) (k1 : ow_kd G o1 = (3, 1)) (x2 : Int32) (M : om_M) (Q : Int32 → om_M → Prop) (h : wp_E_goerAt F o0 o1 x2 M Q) : Met l yn_E_goerAt (ow_ws yn_E_goerAt cb_E_goerAt 5 (some .int)) rm_E_goerAt (ow_Pc G D cA ad M [.ref (ad o0), .ref (ad o1), .int x2]) (ow_Qi G D cA ad Q) 0 0 (ow_A G ad) := by
  refine Met.ofW (cc := cb_E_goerAt) (maxL := 5) (ret := (some .int)) (by decide) rfl ?_
  intro p e s m args below meth c s₁ B hml hv
  obtain ⟨rfl, hB⟩ := hv
  have hx := B.exec
  have hb := B.bytes
  have hr := B.returns
  have hlocks := B.notSynchronized
  have hts : ∀ w ∈ lw_g, w.before ([.ref (ad o0), .ref (ad o1), .int x2] : List Value).toArray s = true := fun w h => atoms_spec (ws := ow_ws yn_E_goerAt cb_E_goerAt 5 (some .int)) B.pre w (List.mem_cons_of_mem _ h)
  have hown : s.vm.findClass "BallotDesk$Elimination" = some m.cls := findClass_of_methodNamed B.named
  clear B
  have L37 : ∀   (M : om_M) (x3 : Int32)  (H : Heap) (locs : List Loc) (ls : Array Slot), wp_E_goerAt_37 F o0 o1 x2 Q   M x3  → ow_B G D cA ad (ow_A G ad) M s s.heap H locs → lv_has ls 5 [(0, .ref (ad o0)), (1, .ref (ad o1)), (3, .int x3)] → W p l e rm_E_goerAt s m ([.ref (ad o0), .ref (ad o1), .int x2] : List Value).toArray below meth c H locs 0 0 (MQ below (ow_Qi G D cA ad Q) ([.ref (ad o0), .ref (ad o1), .int x2] : List Value).toArray s 0 0 (ow_A G ad)) (F0 m 37 ls []) := by
    intro   M x3 H locs ls h hB hl
    refine lv_aload_n hx hb dc_E_goerAt_37 rfl (lv_at hl 1 rfl) ?_
    refine lv_aload_n hx hb dc_E_goerAt_38 rfl (lv_at hl 0 rfl) ?_
    refine lv_aload_n hx hb dc_E_goerAt_39 rfl (lv_at hl 1 rfl) ?_
    refine lv_iload_n hx hb dc_E_goerAt_40 rfl (lv_at hl 2 rfl) ?_
    refine ow_calli (va_runV (As := [.ref (ad o1), .int x3]) (rest := [.ref (ad o1)]) ⟨hx, hb, hml, hown, hts⟩ (ct_E_goers l G hG D cA ad F _ k0 _ k1 _ _ _ h) ⟨ow_cb 2 hts mw_270 mw_7 mw_267 rfl rfl hd_E_goers ⟨Nat.le_of_ble_eq_true rfl, Nat.le_of_ble_eq_true rfl⟩, hts _ mw_269, hts _ ms_2⟩ (ow_preV hB k0 rfl) rfl rfl hl.1 rfl (lv_room (Nat.le_of_ble_eq_true rfl)) dc_E_goerAt_41 ⟨Nat.zero_le _, Nat.zero_le _⟩) hB (fun r2 M1 H locs h hB => ?_)
    refine ow_calli (va_runV (As := [.int r2]) (rest := []) ⟨hx, hb, hml, hown, hts⟩ (ct_P_lastInTie l G hG D cA ad F _ k1 _ _ _ h) ⟨ow_cb 1 hts mw_661 mw_2 mw_658 rfl rfl hd_P_lastInTie ⟨Nat.le_of_ble_eq_true rfl, Nat.le_of_ble_eq_true rfl⟩, hts _ mw_659, hts _ mw_660⟩ (ow_preV hB k1 rfl) rfl rfl hl.1 rfl (lv_room (Nat.le_of_ble_eq_true rfl)) dc_E_goerAt_44 ⟨Nat.zero_le _, Nat.zero_le _⟩) hB (fun r4 M3 H locs h hB => ?_)
    exact ow_iret hx hb hr hlocks hB h dc_E_goerAt_47
  have B8 : ∀   (K8 : om_M × Int32 × Int32 → Prop) (hK8 : ∀ (M : om_M) (x3 : Int32) (x4 : Int32) (H : Heap) (locs : List Loc) (ls : Array Slot), K8 (M, x3, x4) → ow_B G D cA ad (ow_A G ad) M s s.heap H locs → lv_has ls 5 [(0, .ref (ad o0)), (1, .ref (ad o1)), (2, .int x2), (3, .int x3), (4, .int x4)] → W p l e rm_E_goerAt s m ([.ref (ad o0), .ref (ad o1), .int x2] : List Value).toArray below meth c H locs 0 0 (MQ below (ow_Qi G D cA ad Q) ([.ref (ad o0), .ref (ad o1), .int x2] : List Value).toArray s 0 0 (ow_A G ad)) (F0 m 8 ls [])) (M : om_M) (x3 : Int32) (x4 : Int32) (H : Heap) (locs : List Loc) (ls : Array Slot), wp_E_goerAt_8b F o0 o1 x2 Q   K8 M x3 x4 → ow_B G D cA ad (ow_A G ad) M s s.heap H locs → lv_has ls 5 [(0, .ref (ad o0)), (1, .ref (ad o1)), (2, .int x2), (3, .int x3), (4, .int x4)] → W p l e rm_E_goerAt s m ([.ref (ad o0), .ref (ad o1), .int x2] : List Value).toArray below meth c H locs 0 0 (MQ below (ow_Qi G D cA ad Q) ([.ref (ad o0), .ref (ad o1), .int x2] : List Value).toArray s 0 0 (ow_A G ad)) (F0 m 8 ls []) := by
    intro   K8 hK8 M x3 x4 H locs ls h hB hl
    refine lv_iload hx hb dc_E_goerAt_8 (lv_at hl 4 rfl) ?_
    refine lv_iload_n hx hb dc_E_goerAt_10 rfl (lv_at hl 2 rfl) ?_
    obtain ⟨h1, h2⟩ := h
    refine lv_icmp_ge hx hb dc_E_goerAt_11 rfl (fun hc => ?_) (fun hc => ?_)
    · have h := h1 hc
      exact L37 _ _ _ _ _ h hB (lv_sub hl [0, 1, 3] rfl)
    · have h := h2 hc
      refine lv_iload_n hx hb dc_E_goerAt_14 rfl (lv_at hl 3 rfl) ?_
      refine lv_iconst (v := 1) hx hb dc_E_goerAt_15 rfl ?_
      refine lv_aload_n hx hb dc_E_goerAt_16 rfl (lv_at hl 1 rfl) ?_
      refine lv_aload_n hx hb dc_E_goerAt_17 rfl (lv_at hl 0 rfl) ?_
      refine lv_aload_n hx hb dc_E_goerAt_18 rfl (lv_at hl 1 rfl) ?_
      refine lv_iload_n hx hb dc_E_goerAt_19 rfl (lv_at hl 3 rfl) ?_
      refine ow_calli (va_runV (As := [.ref (ad o1), .int x3]) (rest := [.ref (ad o1), .int 1, .int x3]) ⟨hx, hb, hml, hown, hts⟩ (ct_E_goers l G hG D cA ad F _ k0 _ k1 _ _ _ h) ⟨ow_cb 2 hts mw_270 mw_7 mw_267 rfl rfl hd_E_goers ⟨Nat.le_of_ble_eq_true rfl, Nat.le_of_ble_eq_true rfl⟩, hts _ mw_269, hts _ ms_2⟩ (ow_preV hB k0 rfl) rfl rfl hl.1 rfl (lv_room (Nat.le_of_ble_eq_true rfl)) dc_E_goerAt_20 ⟨Nat.zero_le _, Nat.zero_le _⟩) hB (fun r6 M5 H locs h hB => ?_)
      refine ow_calli (va_runV (As := [.int r6]) (rest := [.int 1, .int x3]) ⟨hx, hb, hml, hown, hts⟩ (ct_P_lastInTie l G hG D cA ad F _ k1 _ _ _ h) ⟨ow_cb 1 hts mw_661 mw_2 mw_658 rfl rfl hd_P_lastInTie ⟨Nat.le_of_ble_eq_true rfl, Nat.le_of_ble_eq_true rfl⟩, hts _ mw_659, hts _ mw_660⟩ (ow_preV hB k1 rfl) rfl rfl hl.1 rfl (lv_room (Nat.le_of_ble_eq_true rfl)) dc_E_goerAt_23 ⟨Nat.zero_le _, Nat.zero_le _⟩) hB (fun r8 M7 H locs h hB => ?_)
      refine lv_ishl hx hb dc_E_goerAt_26 ?_
      refine lv_iconst (v := (-1)) hx hb dc_E_goerAt_27 rfl ?_
      refine lv_ixor hx hb dc_E_goerAt_28 ?_
      refine lv_iand hx hb dc_E_goerAt_29 ?_
      refine lv_istore_n hx hb dc_E_goerAt_30 rfl hl (by decide) rfl (fun ls hl => ?_)
      refine lv_iinc hx hb dc_E_goerAt_31 hl (k := 4) rfl rfl (by decide) rfl (fun ls hl => ?_)
      refine lv_goto hx hb dc_E_goerAt_34 rfl ?_
      exact hK8 _ _ _ _ _ _ h hB (lv_sub hl [2, 3, 4, 1, 0] rfl)
  have L8 : ∀   (M : om_M) (x3 : Int32) (x4 : Int32) (H : Heap) (locs : List Loc) (ls : Array Slot), wp_E_goerAt_8 F o0 o1 x2 Q   M x3 x4 → ow_B G D cA ad (ow_A G ad) M s s.heap H locs → lv_has ls 5 [(0, .ref (ad o0)), (1, .ref (ad o1)), (2, .int x2), (3, .int x3), (4, .int x4)] → W p l e rm_E_goerAt s m ([.ref (ad o0), .ref (ad o1), .int x2] : List Value).toArray below meth c H locs 0 0 (MQ below (ow_Qi G D cA ad Q) ([.ref (ad o0), .ref (ad o1), .int x2] : List Value).toArray s 0 0 (ow_A G ad)) (F0 m 8 ls []) := by
    have step : ∀ (k : Nat) (M : om_M) (x3 : Int32) (x4 : Int32) (H : Heap) (locs : List Loc) (ls : Array Slot), ow_lp (fun (z : om_M × Int32 × Int32) K => wp_E_goerAt_8b F o0 o1 x2 Q   K z.1 z.2.1 z.2.2) k (M, x3, x4) → ow_B G D cA ad (ow_A G ad) M s s.heap H locs → lv_has ls 5 [(0, .ref (ad o0)), (1, .ref (ad o1)), (2, .int x2), (3, .int x3), (4, .int x4)] → W p l e rm_E_goerAt s m ([.ref (ad o0), .ref (ad o1), .int x2] : List Value).toArray below meth c H locs 0 0 (MQ below (ow_Qi G D cA ad Q) ([.ref (ad o0), .ref (ad o1), .int x2] : List Value).toArray s 0 0 (ow_A G ad)) (F0 m 8 ls []) := by
      intro k
      induction k with
      | zero => intro M x3 x4 H locs ls h hB hl; exact False.elim h
      | succ k ih => intro M x3 x4 H locs ls h hB hl; exact B8   (ow_lp _ k) (fun M x3 x4 H locs ls h hB  hl => ih M x3 x4  H locs ls h hB hl) M x3 x4 H locs ls h hB hl
    intro M x3 x4 H locs ls h hB hl
    exact step F M x3 x4 H locs ls h hB hl
  have hl := lv_entry ([.ref (ad o0), .ref (ad o1), .int x2]) (n := 5) (Nat.le_of_ble_eq_true rfl)
  rw [lg_entry_eq]
  generalize (lg_sl ([.ref (ad o0), .ref (ad o1), .int x2]) ++ List.replicate (5 - (lg_sl ([.ref (ad o0), .ref (ad o1), .int x2])).length) Slot.unset).toArray = ls at hl ⊢
  have hl : lv_has ls 5 [(0, .ref (ad o0)), (1, .ref (ad o1)), (2, .int x2)] := hl
  show W p l e rm_E_goerAt s m _ below meth c s.heap [] 0 0 _ _
  refine lv_aload_n hx hb dc_E_goerAt_0 rfl (lv_at hl 1 rfl) ?_
  refine ow_calli (va_runV (As := []) (rest := []) ⟨hx, hb, hml, hown, hts⟩ (ct_P_everyone l G hG D cA ad F _ k1 _ _ h) ⟨ow_cb 0 hts mw_260 mw_2 mw_257 rfl rfl hd_P_everyone ⟨Nat.le_of_ble_eq_true rfl, Nat.le_of_ble_eq_true rfl⟩, hts _ mw_258, hts _ mw_259⟩ (ow_preV hB k1 rfl) rfl rfl hl.1 rfl (lv_room (Nat.le_of_ble_eq_true rfl)) dc_E_goerAt_1 ⟨Nat.zero_le _, Nat.zero_le _⟩) hB (fun r10 M9 H locs h hB => ?_)
  refine lv_istore_n hx hb dc_E_goerAt_4 rfl hl (by decide) rfl (fun ls hl => ?_)
  refine lv_iconst (v := 0) hx hb dc_E_goerAt_5 rfl ?_
  refine lv_istore hx hb dc_E_goerAt_6 hl (by decide) rfl (fun ls hl => ?_)
  exact L8 _ _ _ _ _ _ h hB (lv_sub hl [2, 3, 4, 1, 0] rfl)
abbrev rm_E_winnerSet : Room := { frames := 3, cells := 0, slots := 0, locals := 76 }
theorem hd_E_winnerSet : yn_E_winnerSet.cls ≠ "java/lang/invoke/MethodHandle" ∧ yn_E_winnerSet.cls ≠ "java/lang/invoke/VarHandle" ∧ (parseMethodDescriptor yn_E_winnerSet.desc).map (fun d => d.parameters.length) = some 1 := by decide +kernel
set_option maxHeartbeats 4000000 in
set_option maxRecDepth 100000 in
theorem ct_E_winnerSet (l : Launch) (G : List (Nat × Nat)) (hG : ow_lay G) (D : va_G) (cA : Nat → ClassId) (ad : Nat → Nat) (F : Nat) (o0 : Nat) (k0 : ow_kd G o0 = (3, 3)) (o1 : Nat) (k1 : ow_kd G o1 = (3, 1)) (M : om_M) (Q : Int32 → om_M → Prop) (h : wp_E_winnerSet F o0 o1 M Q) : Met l yn_E_winnerSet (ow_ws yn_E_winnerSet cb_E_winnerSet 4 (some .int)) rm_E_winnerSet (ow_Pc G D cA ad M [.ref (ad o0), .ref (ad o1)]) (ow_Qi G D cA ad Q) 0 0 (ow_A G ad) := by
  refine Met.ofW (cc := cb_E_winnerSet) (maxL := 4) (ret := (some .int)) (by decide) rfl ?_
  intro p e s m args below meth c s₁ B hml hv
  obtain ⟨rfl, hB⟩ := hv
  have hx := B.exec
  have hb := B.bytes
  have hr := B.returns
  have hlocks := B.notSynchronized
  have hts : ∀ w ∈ lw_g, w.before ([.ref (ad o0), .ref (ad o1)] : List Value).toArray s = true := fun w h => atoms_spec (ws := ow_ws yn_E_winnerSet cb_E_winnerSet 4 (some .int)) B.pre w (List.mem_cons_of_mem _ h)
  have hown : s.vm.findClass "BallotDesk$Elimination" = some m.cls := findClass_of_methodNamed B.named
  clear B
  have L34 : ∀  (K9 : om_M × Int32 × Int32 → Prop) (hK9 : ∀ (M : om_M) (x2 : Int32) (x3 : Int32) (H : Heap) (locs : List Loc) (ls : Array Slot), K9 (M, x2, x3) → ow_B G D cA ad (ow_A G ad) M s s.heap H locs → lv_has ls 4 [(0, .ref (ad o0)), (1, .ref (ad o1)), (2, .int x2), (3, .int x3)] → W p l e rm_E_winnerSet s m ([.ref (ad o0), .ref (ad o1)] : List Value).toArray below meth c H locs 0 0 (MQ below (ow_Qi G D cA ad Q) ([.ref (ad o0), .ref (ad o1)] : List Value).toArray s 0 0 (ow_A G ad)) (F0 m 9 ls [])) (M : om_M) (x2 : Int32) (x3 : Int32)  (H : Heap) (locs : List Loc) (ls : Array Slot), wp_E_winnerSet_34 F o0 o1 Q  K9 M x2 x3  → ow_B G D cA ad (ow_A G ad) M s s.heap H locs → lv_has ls 4 [(0, .ref (ad o0)), (1, .ref (ad o1)), (2, .int x2), (3, .int x3)] → W p l e rm_E_winnerSet s m ([.ref (ad o0), .ref (ad o1)] : List Value).toArray below meth c H locs 0 0 (MQ below (ow_Qi G D cA ad Q) ([.ref (ad o0), .ref (ad o1)] : List Value).toArray s 0 0 (ow_A G ad)) (F0 m 34 ls []) := by
    intro  K9 hK9 M x2 x3 H locs ls h hB hl
    refine lv_iinc hx hb dc_E_winnerSet_34 hl (k := 3) rfl rfl (by decide) rfl (fun ls hl => ?_)
    refine lv_goto hx hb dc_E_winnerSet_37 rfl ?_
    exact hK9 _ _ _ _ _ _ h hB (lv_sub hl [1, 2, 3, 0] rfl)
  have B9 : ∀   (K9 : om_M × Int32 × Int32 → Prop) (hK9 : ∀ (M : om_M) (x2 : Int32) (x3 : Int32) (H : Heap) (locs : List Loc) (ls : Array Slot), K9 (M, x2, x3) → ow_B G D cA ad (ow_A G ad) M s s.heap H locs → lv_has ls 4 [(0, .ref (ad o0)), (1, .ref (ad o1)), (2, .int x2), (3, .int x3)] → W p l e rm_E_winnerSet s m ([.ref (ad o0), .ref (ad o1)] : List Value).toArray below meth c H locs 0 0 (MQ below (ow_Qi G D cA ad Q) ([.ref (ad o0), .ref (ad o1)] : List Value).toArray s 0 0 (ow_A G ad)) (F0 m 9 ls [])) (M : om_M) (x2 : Int32) (x3 : Int32) (H : Heap) (locs : List Loc) (ls : Array Slot), wp_E_winnerSet_9b F o0 o1 Q   K9 M x2 x3 → ow_B G D cA ad (ow_A G ad) M s s.heap H locs → lv_has ls 4 [(0, .ref (ad o0)), (1, .ref (ad o1)), (2, .int x2), (3, .int x3)] → W p l e rm_E_winnerSet s m ([.ref (ad o0), .ref (ad o1)] : List Value).toArray below meth c H locs 0 0 (MQ below (ow_Qi G D cA ad Q) ([.ref (ad o0), .ref (ad o1)] : List Value).toArray s 0 0 (ow_A G ad)) (F0 m 9 ls []) := by
    intro   K9 hK9 M x2 x3 H locs ls h hB hl
    refine lv_iload_n hx hb dc_E_winnerSet_9 rfl (lv_at hl 3 rfl) ?_
    refine lv_aload_n hx hb dc_E_winnerSet_10 rfl (lv_at hl 1 rfl) ?_
    refine ow_get hx hb hts iw_P hown hB k1 rfl 5 (by decide) mw_61 rfl dc_E_winnerSet_11 ?_
    obtain ⟨h1, h2⟩ := h
    refine lv_icmp_ge hx hb dc_E_winnerSet_14 rfl (fun hc => ?_) (fun hc => ?_)
    · have h := h1 hc
      refine lv_iload_n hx hb dc_E_winnerSet_40 rfl (lv_at hl 2 rfl) ?_
      exact ow_iret hx hb hr hlocks hB h dc_E_winnerSet_41
    · have h := h2 hc
      refine lv_aload_n hx hb dc_E_winnerSet_17 rfl (lv_at hl 0 rfl) ?_
      refine ow_get hx hb hts iw_E hown hB k0 rfl 0 (by decide) mw_130 rfl dc_E_winnerSet_18 ?_
      refine lv_iconst (v := 1) hx hb dc_E_winnerSet_21 rfl ?_
      refine lv_iload_n hx hb dc_E_winnerSet_22 rfl (lv_at hl 3 rfl) ?_
      refine lv_ishl hx hb dc_E_winnerSet_23 ?_
      obtain ⟨hi1, h⟩ := h
      refine ow_zald hx hb hB (ly_E_canBeLeft hG k0) hi1 dc_E_winnerSet_24 ?_
      obtain ⟨h1, h2⟩ := h
      refine lv_if_eq hx hb dc_E_winnerSet_25 rfl (fun hc => ?_) (fun hc => ?_)
      · have h := h1 hc
        exact L34 K9 hK9 _ _ _ _ _ _ h hB (lv_sub hl [0, 1, 2, 3] rfl)
      · have h := h2 hc
        refine lv_iload_n hx hb dc_E_winnerSet_28 rfl (lv_at hl 2 rfl) ?_
        refine lv_iconst (v := 1) hx hb dc_E_winnerSet_29 rfl ?_
        refine lv_iload_n hx hb dc_E_winnerSet_30 rfl (lv_at hl 3 rfl) ?_
        refine lv_ishl hx hb dc_E_winnerSet_31 ?_
        refine lv_ior hx hb dc_E_winnerSet_32 ?_
        refine lv_istore_n hx hb dc_E_winnerSet_33 rfl hl (by decide) rfl (fun ls hl => ?_)
        exact L34 K9 hK9 _ _ _ _ _ _ h hB (lv_sub hl [1, 2, 0, 3] rfl)
  have L9 : ∀   (M : om_M) (x2 : Int32) (x3 : Int32) (H : Heap) (locs : List Loc) (ls : Array Slot), wp_E_winnerSet_9 F o0 o1 Q   M x2 x3 → ow_B G D cA ad (ow_A G ad) M s s.heap H locs → lv_has ls 4 [(0, .ref (ad o0)), (1, .ref (ad o1)), (2, .int x2), (3, .int x3)] → W p l e rm_E_winnerSet s m ([.ref (ad o0), .ref (ad o1)] : List Value).toArray below meth c H locs 0 0 (MQ below (ow_Qi G D cA ad Q) ([.ref (ad o0), .ref (ad o1)] : List Value).toArray s 0 0 (ow_A G ad)) (F0 m 9 ls []) := by
    have step : ∀ (k : Nat) (M : om_M) (x2 : Int32) (x3 : Int32) (H : Heap) (locs : List Loc) (ls : Array Slot), ow_lp (fun (z : om_M × Int32 × Int32) K => wp_E_winnerSet_9b F o0 o1 Q   K z.1 z.2.1 z.2.2) k (M, x2, x3) → ow_B G D cA ad (ow_A G ad) M s s.heap H locs → lv_has ls 4 [(0, .ref (ad o0)), (1, .ref (ad o1)), (2, .int x2), (3, .int x3)] → W p l e rm_E_winnerSet s m ([.ref (ad o0), .ref (ad o1)] : List Value).toArray below meth c H locs 0 0 (MQ below (ow_Qi G D cA ad Q) ([.ref (ad o0), .ref (ad o1)] : List Value).toArray s 0 0 (ow_A G ad)) (F0 m 9 ls []) := by
      intro k
      induction k with
      | zero => intro M x2 x3 H locs ls h hB hl; exact False.elim h
      | succ k ih => intro M x2 x3 H locs ls h hB hl; exact B9   (ow_lp _ k) (fun M x2 x3 H locs ls h hB  hl => ih M x2 x3  H locs ls h hB hl) M x2 x3 H locs ls h hB hl
    intro M x2 x3 H locs ls h hB hl
    exact step F M x2 x3 H locs ls h hB hl
  have hl := lv_entry ([.ref (ad o0), .ref (ad o1)]) (n := 4) (Nat.le_of_ble_eq_true rfl)
  rw [lg_entry_eq]
  generalize (lg_sl ([.ref (ad o0), .ref (ad o1)]) ++ List.replicate (4 - (lg_sl ([.ref (ad o0), .ref (ad o1)])).length) Slot.unset).toArray = ls at hl ⊢
  have hl : lv_has ls 4 [(0, .ref (ad o0)), (1, .ref (ad o1))] := hl
  show W p l e rm_E_winnerSet s m _ below meth c s.heap [] 0 0 _ _
  refine lv_aload_n hx hb dc_E_winnerSet_0 rfl (lv_at hl 0 rfl) ?_
  refine lv_aload_n hx hb dc_E_winnerSet_1 rfl (lv_at hl 1 rfl) ?_
  refine ow_callv (va_runV (As := [.ref (ad o1)]) (rest := []) ⟨hx, hb, hml, hown, hts⟩ (ct_E_spread l G hG D cA ad F _ k0 _ k1 _ _ h) ⟨ow_cb 1 hts mw_256 mw_7 mw_253 rfl rfl hd_E_spread ⟨Nat.le_of_ble_eq_true rfl, Nat.le_of_ble_eq_true rfl⟩, hts _ mw_255, hts _ ms_1⟩ (ow_preV hB k0 rfl) rfl rfl hl.1 rfl (lv_room (Nat.le_of_ble_eq_true rfl)) dc_E_winnerSet_2 ⟨Nat.zero_le _, Nat.zero_le _⟩) hB (fun M2 H locs h hB => ?_)
  refine lv_iconst (v := 0) hx hb dc_E_winnerSet_5 rfl ?_
  refine lv_istore_n hx hb dc_E_winnerSet_6 rfl hl (by decide) rfl (fun ls hl => ?_)
  refine lv_iconst (v := 0) hx hb dc_E_winnerSet_7 rfl ?_
  refine lv_istore_n hx hb dc_E_winnerSet_8 rfl hl (by decide) rfl (fun ls hl => ?_)
  exact L9 _ _ _ _ _ _ h hB (lv_sub hl [2, 3, 1, 0] rfl)
abbrev rm_E_setsThatCanBeLeft : Room := { frames := 3, cells := 0, slots := 0, locals := 76 }
theorem hd_E_setsThatCanBeLeft : yn_E_setsThatCanBeLeft.cls ≠ "java/lang/invoke/MethodHandle" ∧ yn_E_setsThatCanBeLeft.cls ≠ "java/lang/invoke/VarHandle" ∧ (parseMethodDescriptor yn_E_setsThatCanBeLeft.desc).map (fun d => d.parameters.length) = some 1 := by decide +kernel
set_option maxHeartbeats 4000000 in
set_option maxRecDepth 100000 in
theorem ct_E_setsThatCanBeLeft (l : Launch) (G : List (Nat × Nat)) (hG : ow_lay G) (D : va_G) (cA : Nat → ClassId) (ad : Nat → Nat) (F : Nat) (o0 : Nat) (k0 : ow_kd G o0 = (3, 3)) (o1 : Nat) (k1 : ow_kd G o1 = (3, 1)) (M : om_M) (Q : Int32 → om_M → Prop) (h : wp_E_setsThatCanBeLeft F o0 o1 M Q) : Met l yn_E_setsThatCanBeLeft (ow_ws yn_E_setsThatCanBeLeft cb_E_setsThatCanBeLeft 4 (some .int)) rm_E_setsThatCanBeLeft (ow_Pc G D cA ad M [.ref (ad o0), .ref (ad o1)]) (ow_Qi G D cA ad Q) 0 0 (ow_A G ad) := by
  refine Met.ofW (cc := cb_E_setsThatCanBeLeft) (maxL := 4) (ret := (some .int)) (by decide) rfl ?_
  intro p e s m args below meth c s₁ B hml hv
  obtain ⟨rfl, hB⟩ := hv
  have hx := B.exec
  have hb := B.bytes
  have hr := B.returns
  have hlocks := B.notSynchronized
  have hts : ∀ w ∈ lw_g, w.before ([.ref (ad o0), .ref (ad o1)] : List Value).toArray s = true := fun w h => atoms_spec (ws := ow_ws yn_E_setsThatCanBeLeft cb_E_setsThatCanBeLeft 4 (some .int)) B.pre w (List.mem_cons_of_mem _ h)
  have hown : s.vm.findClass "BallotDesk$Elimination" = some m.cls := findClass_of_methodNamed B.named
  clear B
  have L29 : ∀  (K9 : om_M × Int32 × Int32 → Prop) (hK9 : ∀ (M : om_M) (x2 : Int32) (x3 : Int32) (H : Heap) (locs : List Loc) (ls : Array Slot), K9 (M, x2, x3) → ow_B G D cA ad (ow_A G ad) M s s.heap H locs → lv_has ls 4 [(0, .ref (ad o0)), (1, .ref (ad o1)), (2, .int x2), (3, .int x3)] → W p l e rm_E_setsThatCanBeLeft s m ([.ref (ad o0), .ref (ad o1)] : List Value).toArray below meth c H locs 0 0 (MQ below (ow_Qi G D cA ad Q) ([.ref (ad o0), .ref (ad o1)] : List Value).toArray s 0 0 (ow_A G ad)) (F0 m 9 ls [])) (M : om_M) (x2 : Int32) (x3 : Int32)  (H : Heap) (locs : List Loc) (ls : Array Slot), wp_E_setsThatCanBeLeft_29 F o0 o1 Q  K9 M x2 x3  → ow_B G D cA ad (ow_A G ad) M s s.heap H locs → lv_has ls 4 [(0, .ref (ad o0)), (1, .ref (ad o1)), (2, .int x2), (3, .int x3)] → W p l e rm_E_setsThatCanBeLeft s m ([.ref (ad o0), .ref (ad o1)] : List Value).toArray below meth c H locs 0 0 (MQ below (ow_Qi G D cA ad Q) ([.ref (ad o0), .ref (ad o1)] : List Value).toArray s 0 0 (ow_A G ad)) (F0 m 29 ls []) := by
    intro  K9 hK9 M x2 x3 H locs ls h hB hl
    refine lv_iinc hx hb dc_E_setsThatCanBeLeft_29 hl (k := 3) rfl rfl (by decide) rfl (fun ls hl => ?_)
    refine lv_goto hx hb dc_E_setsThatCanBeLeft_32 rfl ?_
    exact hK9 _ _ _ _ _ _ h hB (lv_sub hl [1, 2, 3, 0] rfl)
  have B9 : ∀   (K9 : om_M × Int32 × Int32 → Prop) (hK9 : ∀ (M : om_M) (x2 : Int32) (x3 : Int32) (H : Heap) (locs : List Loc) (ls : Array Slot), K9 (M, x2, x3) → ow_B G D cA ad (ow_A G ad) M s s.heap H locs → lv_has ls 4 [(0, .ref (ad o0)), (1, .ref (ad o1)), (2, .int x2), (3, .int x3)] → W p l e rm_E_setsThatCanBeLeft s m ([.ref (ad o0), .ref (ad o1)] : List Value).toArray below meth c H locs 0 0 (MQ below (ow_Qi G D cA ad Q) ([.ref (ad o0), .ref (ad o1)] : List Value).toArray s 0 0 (ow_A G ad)) (F0 m 9 ls [])) (M : om_M) (x2 : Int32) (x3 : Int32) (H : Heap) (locs : List Loc) (ls : Array Slot), wp_E_setsThatCanBeLeft_9b F o0 o1 Q   K9 M x2 x3 → ow_B G D cA ad (ow_A G ad) M s s.heap H locs → lv_has ls 4 [(0, .ref (ad o0)), (1, .ref (ad o1)), (2, .int x2), (3, .int x3)] → W p l e rm_E_setsThatCanBeLeft s m ([.ref (ad o0), .ref (ad o1)] : List Value).toArray below meth c H locs 0 0 (MQ below (ow_Qi G D cA ad Q) ([.ref (ad o0), .ref (ad o1)] : List Value).toArray s 0 0 (ow_A G ad)) (F0 m 9 ls []) := by
    intro   K9 hK9 M x2 x3 H locs ls h hB hl
    refine lv_iload_n hx hb dc_E_setsThatCanBeLeft_9 rfl (lv_at hl 3 rfl) ?_
    refine lv_aload_n hx hb dc_E_setsThatCanBeLeft_10 rfl (lv_at hl 1 rfl) ?_
    refine ow_calli (va_runV (As := []) (rest := [.int x3]) ⟨hx, hb, hml, hown, hts⟩ (ct_P_everyone l G hG D cA ad F _ k1 _ _ h) ⟨ow_cb 0 hts mw_260 mw_2 mw_257 rfl rfl hd_P_everyone ⟨Nat.le_of_ble_eq_true rfl, Nat.le_of_ble_eq_true rfl⟩, hts _ mw_258, hts _ mw_259⟩ (ow_preV hB k1 rfl) rfl rfl hl.1 rfl (lv_room (Nat.le_of_ble_eq_true rfl)) dc_E_setsThatCanBeLeft_11 ⟨Nat.zero_le _, Nat.zero_le _⟩) hB (fun r2 M1 H locs h hB => ?_)
    obtain ⟨h1, h2⟩ := h
    refine lv_icmp_gt hx hb dc_E_setsThatCanBeLeft_14 rfl (fun hc => ?_) (fun hc => ?_)
    · have h := h1 hc
      refine lv_iload_n hx hb dc_E_setsThatCanBeLeft_35 rfl (lv_at hl 2 rfl) ?_
      exact ow_iret hx hb hr hlocks hB h dc_E_setsThatCanBeLeft_36
    · have h := h2 hc
      refine lv_aload_n hx hb dc_E_setsThatCanBeLeft_17 rfl (lv_at hl 0 rfl) ?_
      refine ow_get hx hb hts iw_E hown hB k0 rfl 0 (by decide) mw_130 rfl dc_E_setsThatCanBeLeft_18 ?_
      refine lv_iload_n hx hb dc_E_setsThatCanBeLeft_21 rfl (lv_at hl 3 rfl) ?_
      obtain ⟨hi3, h⟩ := h
      refine ow_zald hx hb hB (ly_E_canBeLeft hG k0) hi3 dc_E_setsThatCanBeLeft_22 ?_
      obtain ⟨h1, h2⟩ := h
      refine lv_if_eq hx hb dc_E_setsThatCanBeLeft_23 rfl (fun hc => ?_) (fun hc => ?_)
      · have h := h1 hc
        exact L29 K9 hK9 _ _ _ _ _ _ h hB (lv_sub hl [0, 1, 2, 3] rfl)
      · have h := h2 hc
        refine lv_iinc hx hb dc_E_setsThatCanBeLeft_26 hl (k := 2) rfl rfl (by decide) rfl (fun ls hl => ?_)
        exact L29 K9 hK9 _ _ _ _ _ _ h hB (lv_sub hl [1, 2, 0, 3] rfl)
  have L9 : ∀   (M : om_M) (x2 : Int32) (x3 : Int32) (H : Heap) (locs : List Loc) (ls : Array Slot), wp_E_setsThatCanBeLeft_9 F o0 o1 Q   M x2 x3 → ow_B G D cA ad (ow_A G ad) M s s.heap H locs → lv_has ls 4 [(0, .ref (ad o0)), (1, .ref (ad o1)), (2, .int x2), (3, .int x3)] → W p l e rm_E_setsThatCanBeLeft s m ([.ref (ad o0), .ref (ad o1)] : List Value).toArray below meth c H locs 0 0 (MQ below (ow_Qi G D cA ad Q) ([.ref (ad o0), .ref (ad o1)] : List Value).toArray s 0 0 (ow_A G ad)) (F0 m 9 ls []) := by
    have step : ∀ (k : Nat) (M : om_M) (x2 : Int32) (x3 : Int32) (H : Heap) (locs : List Loc) (ls : Array Slot), ow_lp (fun (z : om_M × Int32 × Int32) K => wp_E_setsThatCanBeLeft_9b F o0 o1 Q   K z.1 z.2.1 z.2.2) k (M, x2, x3) → ow_B G D cA ad (ow_A G ad) M s s.heap H locs → lv_has ls 4 [(0, .ref (ad o0)), (1, .ref (ad o1)), (2, .int x2), (3, .int x3)] → W p l e rm_E_setsThatCanBeLeft s m ([.ref (ad o0), .ref (ad o1)] : List Value).toArray below meth c H locs 0 0 (MQ below (ow_Qi G D cA ad Q) ([.ref (ad o0), .ref (ad o1)] : List Value).toArray s 0 0 (ow_A G ad)) (F0 m 9 ls []) := by
      intro k
      induction k with
      | zero => intro M x2 x3 H locs ls h hB hl; exact False.elim h
      | succ k ih => intro M x2 x3 H locs ls h hB hl; exact B9   (ow_lp _ k) (fun M x2 x3 H locs ls h hB  hl => ih M x2 x3  H locs ls h hB hl) M x2 x3 H locs ls h hB hl
    intro M x2 x3 H locs ls h hB hl
    exact step F M x2 x3 H locs ls h hB hl
  have hl := lv_entry ([.ref (ad o0), .ref (ad o1)]) (n := 4) (Nat.le_of_ble_eq_true rfl)
  rw [lg_entry_eq]
  generalize (lg_sl ([.ref (ad o0), .ref (ad o1)]) ++ List.replicate (4 - (lg_sl ([.ref (ad o0), .ref (ad o1)])).length) Slot.unset).toArray = ls at hl ⊢
  have hl : lv_has ls 4 [(0, .ref (ad o0)), (1, .ref (ad o1))] := hl
  show W p l e rm_E_setsThatCanBeLeft s m _ below meth c s.heap [] 0 0 _ _
  refine lv_aload_n hx hb dc_E_setsThatCanBeLeft_0 rfl (lv_at hl 0 rfl) ?_
  refine lv_aload_n hx hb dc_E_setsThatCanBeLeft_1 rfl (lv_at hl 1 rfl) ?_
  refine ow_callv (va_runV (As := [.ref (ad o1)]) (rest := []) ⟨hx, hb, hml, hown, hts⟩ (ct_E_spread l G hG D cA ad F _ k0 _ k1 _ _ h) ⟨ow_cb 1 hts mw_256 mw_7 mw_253 rfl rfl hd_E_spread ⟨Nat.le_of_ble_eq_true rfl, Nat.le_of_ble_eq_true rfl⟩, hts _ mw_255, hts _ ms_1⟩ (ow_preV hB k0 rfl) rfl rfl hl.1 rfl (lv_room (Nat.le_of_ble_eq_true rfl)) dc_E_setsThatCanBeLeft_2 ⟨Nat.zero_le _, Nat.zero_le _⟩) hB (fun M4 H locs h hB => ?_)
  refine lv_iconst (v := 0) hx hb dc_E_setsThatCanBeLeft_5 rfl ?_
  refine lv_istore_n hx hb dc_E_setsThatCanBeLeft_6 rfl hl (by decide) rfl (fun ls hl => ?_)
  refine lv_iconst (v := 1) hx hb dc_E_setsThatCanBeLeft_7 rfl ?_
  refine lv_istore_n hx hb dc_E_setsThatCanBeLeft_8 rfl hl (by decide) rfl (fun ls hl => ?_)
  exact L9 _ _ _ _ _ _ h hB (lv_sub hl [2, 3, 1, 0] rfl)
