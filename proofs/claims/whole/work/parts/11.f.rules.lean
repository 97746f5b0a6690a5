def wp_R_mayMeet_59 (F : Nat) (o0 : Nat) (x1 : Int32) (x2 : Int32) (Q : Int32 → om_M → Prop) (x3 : Int32) (K23 : om_M × Int32 → Prop) (M : om_M) (x4 : Int32)  : Prop := K23 (M, x4 + 1)
def wp_R_mayMeet_23b (F : Nat) (o0 : Nat) (x1 : Int32) (x2 : Int32) (Q : Int32 → om_M → Prop) (x3 : Int32)  (K23 : om_M × Int32 → Prop) (M : om_M) (x4 : Int32) : Prop := (((M.1 o0 5) ≤ x4 → Q 1 M) ∧ (¬ (M.1 o0 5) ≤ x4 → ((x4 = x1 → wp_R_mayMeet_59 F o0 x1 x2 Q x3 K23 M x4) ∧ (¬ x4 = x1 → ((x4 = x2 → wp_R_mayMeet_59 F o0 x1 x2 Q x3 K23 M x4) ∧ (¬ x4 = x2 → vp_in x4 7 ∧ vp_in 0 7 ∧ (((M.1 (o0 + 4 + 1 + x4.toNatClampNeg) (0 : Int32).toNatClampNeg) ≤ x3 → wp_R_mayMeet_59 F o0 x1 x2 Q x3 K23 M x4) ∧ (¬ (M.1 (o0 + 4 + 1 + x4.toNatClampNeg) (0 : Int32).toNatClampNeg) ≤ x3 → Q 0 M))))))))
def wp_R_mayMeet_23 (F : Nat) (o0 : Nat) (x1 : Int32) (x2 : Int32) (Q : Int32 → om_M → Prop) (x3 : Int32)  (M : om_M) (x4 : Int32) : Prop := ow_lp (fun (z : om_M × Int32) K => wp_R_mayMeet_23b F o0 x1 x2 Q x3  K z.1 z.2) F (M, x4)
def wp_R_mayMeet (F : Nat) (o0 : Nat) (x1 : Int32) (x2 : Int32) (M : om_M) (Q : Int32 → om_M → Prop) : Prop := vp_in x1 7 ∧ vp_in 0 7 ∧ vp_in x2 7 ∧ wp_R_mayMeet_23 F o0 x1 x2 Q (if (M.1 (o0 + 4 + 1 + x2.toNatClampNeg) (0 : Int32).toNatClampNeg) < (M.1 (o0 + 4 + 1 + x1.toNatClampNeg) (0 : Int32).toNatClampNeg) then M.1 (o0 + 4 + 1 + x2.toNatClampNeg) (0 : Int32).toNatClampNeg else M.1 (o0 + 4 + 1 + x1.toNatClampNeg) (0 : Int32).toNatClampNeg) M 0
def wp_R_runoff_77 (F : Nat) (o0 : Nat) (Q : Int32 → om_M → Prop)  (K4 : om_M × Int32 × Int32 → Prop) (M : om_M) (x1 : Int32) (x2 : Int32)  : Prop := K4 (M, x1, x2 + 1)
def wp_R_runoff_71 (F : Nat) (o0 : Nat) (Q : Int32 → om_M → Prop) (x2 : Int32) (K4 : om_M × Int32 × Int32 → Prop) (K16 : om_M × Int32 × Int32 → Prop) (M : om_M) (x1 : Int32) (x3 : Int32)  : Prop := K16 (M, x1, x3 + 1)
def wp_R_runoff_69 (F : Nat) (o0 : Nat) (Q : Int32 → om_M → Prop) (x2 : Int32) (K4 : om_M × Int32 × Int32 → Prop) (K16 : om_M × Int32 × Int32 → Prop) (M : om_M) (x3 : Int32) (t0 : Int32) (t1 : Int32) : Prop := wp_R_runoff_71 F o0 Q x2 K4 K16 M (t0 ||| t1) x3
def wp_R_runoff_50 (F : Nat) (o0 : Nat) (Q : Int32 → om_M → Prop) (x2 : Int32) (K4 : om_M × Int32 × Int32 → Prop) (K16 : om_M × Int32 × Int32 → Prop) (M : om_M) (x3 : Int32) (t0 : Int32) (t1 : Int32) : Prop := wp_P_beats F o0 x2 x3 M (fun r2 M1 => ((r2 = 0 → wp_R_runoff_69 F o0 Q x2 K4 K16 M1 x3 (t0 ||| t1) ((1 : Int32) <<< (x3 &&& 31))) ∧ (¬ r2 = 0 → wp_R_runoff_69 F o0 Q x2 K4 K16 M1 x3 (t0 ||| t1) 0)))
def wp_R_runoff_16b (F : Nat) (o0 : Nat) (Q : Int32 → om_M → Prop) (x2 : Int32) (K4 : om_M × Int32 × Int32 → Prop) (K16 : om_M × Int32 × Int32 → Prop) (M : om_M) (x1 : Int32) (x3 : Int32) : Prop := (((M.1 o0 5) ≤ x3 → wp_R_runoff_77 F o0 Q K4 M x1 x2) ∧ (¬ (M.1 o0 5) ≤ x3 → wp_R_mayMeet F o0 x2 x3 M (fun r4 M3 => ((r4 = 0 → wp_R_runoff_71 F o0 Q x2 K4 K16 M3 x1 x3) ∧ (¬ r4 = 0 → wp_P_beats F o0 x3 x2 M3 (fun r6 M5 => ((r6 = 0 → wp_R_runoff_50 F o0 Q x2 K4 K16 M5 x3 x1 ((1 : Int32) <<< (x2 &&& 31))) ∧ (¬ r6 = 0 → wp_R_runoff_50 F o0 Q x2 K4 K16 M5 x3 x1 0))))))))
def wp_R_runoff_16 (F : Nat) (o0 : Nat) (Q : Int32 → om_M → Prop) (x2 : Int32) (K4 : om_M × Int32 × Int32 → Prop) (M : om_M) (x1 : Int32) (x3 : Int32) : Prop := ow_lp (fun (z : om_M × Int32 × Int32) K => wp_R_runoff_16b F o0 Q x2 K4 K z.1 z.2.1 z.2.2) F (M, x1, x3)
def wp_R_runoff_4b (F : Nat) (o0 : Nat) (Q : Int32 → om_M → Prop)   (K4 : om_M × Int32 × Int32 → Prop) (M : om_M) (x1 : Int32) (x2 : Int32) : Prop := (((M.1 o0 5) ≤ x2 → Q x1 M) ∧ (¬ (M.1 o0 5) ≤ x2 → wp_R_runoff_16 F o0 Q x2 K4 M x1 (x2 + 1)))
def wp_R_runoff_4 (F : Nat) (o0 : Nat) (Q : Int32 → om_M → Prop)   (M : om_M) (x1 : Int32) (x2 : Int32) : Prop := ow_lp (fun (z : om_M × Int32 × Int32) K => wp_R_runoff_4b F o0 Q   K z.1 z.2.1 z.2.2) F (M, x1, x2)
def wp_R_runoff (F : Nat) (o0 : Nat) (M : om_M) (Q : Int32 → om_M → Prop) : Prop := wp_R_runoff_4 F o0 Q M 0 0
def wp_R_uncovered_97 (F : Nat) (o0 : Nat) (o1 : Nat) (Q : Int32 → om_M → Prop)  (K34 : om_M × Int32 × Int32 → Prop) (M : om_M) (x2 : Int32) (x3 : Int32)  : Prop := K34 (M, x2, x3 + 1)
def wp_R_uncovered_91 (F : Nat) (o0 : Nat) (o1 : Nat) (Q : Int32 → om_M → Prop) (x3 : Int32) (K34 : om_M × Int32 × Int32 → Prop) (K45 : om_M × Int32 × Int32 → Prop) (M : om_M) (x2 : Int32) (x4 : Int32)  : Prop := K45 (M, x2, x4 + 1)
def wp_R_uncovered_45b (F : Nat) (o0 : Nat) (o1 : Nat) (Q : Int32 → om_M → Prop) (x3 : Int32) (K34 : om_M × Int32 × Int32 → Prop) (K45 : om_M × Int32 × Int32 → Prop) (M : om_M) (x2 : Int32) (x4 : Int32) : Prop := (((M.1 o1 5) ≤ x4 → wp_R_uncovered_97 F o0 o1 Q K34 M x2 x3) ∧ (¬ (M.1 o1 5) ≤ x4 → vp_in x4 7 ∧ vp_in x3 7 ∧ ((((M.1 (o0 + 26) x3.toNatClampNeg) &&& ((M.1 (o0 + 26) x4.toNatClampNeg) ||| ((1 : Int32) <<< (x4 &&& 31)))) = ((M.1 (o0 + 26) x4.toNatClampNeg) ||| ((1 : Int32) <<< (x4 &&& 31))) → wp_R_uncovered_91 F o0 o1 Q x3 K34 K45 M (x2 &&& (((1 : Int32) <<< (x4 &&& 31)) ^^^ (-1))) x4) ∧ (¬ ((M.1 (o0 + 26) x3.toNatClampNeg) &&& ((M.1 (o0 + 26) x4.toNatClampNeg) ||| ((1 : Int32) <<< (x4 &&& 31)))) = ((M.1 (o0 + 26) x4.toNatClampNeg) ||| ((1 : Int32) <<< (x4 &&& 31))) → wp_R_uncovered_91 F o0 o1 Q x3 K34 K45 M x2 x4))))
def wp_R_uncovered_45 (F : Nat) (o0 : Nat) (o1 : Nat) (Q : Int32 → om_M → Prop) (x3 : Int32) (K34 : om_M × Int32 × Int32 → Prop) (M : om_M) (x2 : Int32) (x4 : Int32) : Prop := ow_lp (fun (z : om_M × Int32 × Int32) K => wp_R_uncovered_45b F o0 o1 Q x3 K34 K z.1 z.2.1 z.2.2) F (M, x2, x4)
def wp_R_uncovered_34b (F : Nat) (o0 : Nat) (o1 : Nat) (Q : Int32 → om_M → Prop)   (K34 : om_M × Int32 × Int32 → Prop) (M : om_M) (x2 : Int32) (x3 : Int32) : Prop := (((M.1 o1 5) ≤ x3 → Q x2 M) ∧ (¬ (M.1 o1 5) ≤ x3 → wp_R_uncovered_45 F o0 o1 Q x3 K34 M x2 0))
def wp_R_uncovered_34 (F : Nat) (o0 : Nat) (o1 : Nat) (Q : Int32 → om_M → Prop)   (M : om_M) (x2 : Int32) (x3 : Int32) : Prop := ow_lp (fun (z : om_M × Int32 × Int32) K => wp_R_uncovered_34b F o0 o1 Q   K z.1 z.2.1 z.2.2) F (M, x2, x3)
def wp_R_uncovered_27 (F : Nat) (o0 : Nat) (o1 : Nat) (Q : Int32 → om_M → Prop)   (M : om_M)   : Prop := wp_P_everyone F o1 M (fun r4 M3 => wp_R_uncovered_34 F o0 o1 Q M3 r4 0)
def wp_R_uncovered_2b (F : Nat) (o0 : Nat) (o1 : Nat) (Q : Int32 → om_M → Prop)   (K2 : om_M × Int32 → Prop) (M : om_M) (x2 : Int32) : Prop := (((M.1 o1 5) ≤ x2 → wp_R_uncovered_27 F o0 o1 Q M) ∧ (¬ (M.1 o1 5) ≤ x2 → wp_P_beatenBy F o1 x2 M (fun r6 M5 => vp_in x2 7 ∧ K2 (om_up M5 (o0 + 26) x2.toNatClampNeg r6, x2 + 1))))
def wp_R_uncovered_2 (F : Nat) (o0 : Nat) (o1 : Nat) (Q : Int32 → om_M → Prop)   (M : om_M) (x2 : Int32) : Prop := ow_lp (fun (z : om_M × Int32) K => wp_R_uncovered_2b F o0 o1 Q   K z.1 z.2) F (M, x2)
def wp_R_uncovered (F : Nat) (o0 : Nat) (o1 : Nat) (M : om_M) (Q : Int32 → om_M → Prop) : Prop := wp_R_uncovered_2 F o0 o1 Q M 0
def wp_R_lastToStay_63 (F : Nat) (o0 : Nat) (Q : Int32 → om_M → Prop)  (K11 : om_M × Int32 × Int32 → Prop) (M : om_M) (x1 : Int32) (x2 : Int32)  : Prop := K11 (M, x1, x2 + 1)
def wp_R_lastToStay_11b (F : Nat) (o0 : Nat) (Q : Int32 → om_M → Prop)   (K11 : om_M × Int32 × Int32 → Prop) (M : om_M) (x1 : Int32) (x2 : Int32) : Prop := (((M.1 o0 5) ≤ x2 → Q x1 M) ∧ (¬ (M.1 o0 5) ≤ x2 → wp_O_at F (M.1 o0 8) x2 M (fun r2 M1 => wp_P_beats F o0 r2 x1 M1 (fun r4 M3 => ((r4 = 0 → wp_P_beats F o0 x1 r2 M3 (fun r6 M5 => ((r6 = 0 → wp_P_firstInTie F o0 (((1 : Int32) <<< (x1 &&& 31)) ||| ((1 : Int32) <<< (r2 &&& 31))) M5 (fun r8 M7 => wp_R_lastToStay_63 F o0 Q K11 M7 r8 x2)) ∧ (¬ r6 = 0 → wp_R_lastToStay_63 F o0 Q K11 M5 x1 x2)))) ∧ (¬ r4 = 0 → wp_R_lastToStay_63 F o0 Q K11 M3 r2 x2))))))
def wp_R_lastToStay_11 (F : Nat) (o0 : Nat) (Q : Int32 → om_M → Prop)   (M : om_M) (x1 : Int32) (x2 : Int32) : Prop := ow_lp (fun (z : om_M × Int32 × Int32) K => wp_R_lastToStay_11b F o0 Q   K z.1 z.2.1 z.2.2) F (M, x1, x2)
def wp_R_lastToStay (F : Nat) (o0 : Nat) (M : om_M) (Q : Int32 → om_M → Prop) : Prop := wp_O_at F (M.1 o0 8) 0 M (fun r10 M9 => wp_R_lastToStay_11 F o0 Q M9 r10 1)
def wp_R_winnerSet (F : Nat) (o0 : Nat) (o1 : Nat) (x2 : Int32) (M : om_M) (Q : Int32 → om_M → Prop) : Prop := ((x2 = 3 → wp_R_runoff F o1 M (fun r20 M19 => Q r20 M19)) ∧ (¬ x2 = 3 → ((x2 = 4 → wp_E_winnerSet F (o0 + 1) o1 M (fun r18 M17 => Q r18 M17)) ∧ (¬ x2 = 4 → ((x2 = 5 → wp_C_winnerSet F o1 x2 M (fun r16 M15 => Q r16 M15)) ∧ (¬ x2 = 5 → ((x2 = 6 → wp_C_winnerSet F o1 x2 M (fun r14 M13 => Q r14 M13)) ∧ (¬ x2 = 6 → ((x2 = 7 → wp_H_winnerSet F (o0 + 4) o1 M (fun r12 M11 => Q r12 M11)) ∧ (¬ x2 = 7 → ((x2 = 8 → wp_K_winnerSet F (o0 + 13) o1 M (fun r10 M9 => Q r10 M9)) ∧ (¬ x2 = 8 → ((x2 = 9 → wp_A_winnerSet F (o0 + 16) o1 M (fun r8 M7 => Q r8 M7)) ∧ (¬ x2 = 9 → ((x2 = 10 → wp_R_uncovered F o0 o1 M (fun r6 M5 => Q r6 M5)) ∧ (¬ x2 = 10 → ((x2 = 11 → wp_R_lastToStay F o1 M (fun r4 M3 => Q ((1 : Int32) <<< (r4 &&& 31)) M3)) ∧ (¬ x2 = 11 → wp_C_winnerSet F o1 x2 M (fun r2 M1 => Q r2 M1)))))))))))))))))))
def wp_R_theWinner (F : Nat) (o0 : Nat) (o1 : Nat) (x2 : Int32) (M : om_M) (Q : Int32 → om_M → Prop) : Prop := wp_R_winnerSet F o0 o1 x2 M (fun r2 M1 => wp_P_firstInTie F o1 r2 M1 (fun r4 M3 => Q r4 M3))
abbrev rm_R_mayMeet : Room := { frames := 1, cells := 0, slots := 0, locals := 21 }
theorem hd_R_mayMeet : yn_R_mayMeet.cls ≠ "java/lang/invoke/MethodHandle" ∧ yn_R_mayMeet.cls ≠ "java/lang/invoke/VarHandle" ∧ (parseMethodDescriptor yn_R_mayMeet.desc).map (fun d => d.parameters.length) = some 3 := by decide +kernel
set_option maxHeartbeats 4000000 in
set_option maxRecDepth 100000 in
theorem ct_R_mayMeet (l : Launch) (G : List (Nat × Nat)) (hG : ow_lay G) (D : va_G) (cA : Nat → ClassId) (ad : Nat → Nat) (F : Nat) (o0 : Nat) (k0 : ow_kd G o0 = (3, 1)) (x1 : Int32) (x2 : Int32) (M : om_M) (Q : Int32 → om_M → Prop) (h : wp_R_mayMeet F o0 x1 x2 M Q) : Met l yn_R_mayMeet (ow_ws yn_R_mayMeet cb_R_mayMeet 5 (some .boolean)) rm_R_mayMeet (ow_Pc G D cA ad M [.ref (ad o0), .int x1, .int x2]) (ow_Qi G D cA ad Q) 0 0 (ow_A G ad) := by
  refine Met.ofW (cc := cb_R_mayMeet) (maxL := 5) (ret := (some .boolean)) (by decide) rfl ?_
  intro p e s m args below meth c s₁ B hml hv
  obtain ⟨rfl, hB⟩ := hv
  have hx := B.exec
  have hb := B.bytes
  have hr := B.returns
  have hlocks := B.notSynchronized
  have hts : ∀ w ∈ lw_g, w.before ([.ref (ad o0), .int x1, .int x2] : List Value).toArray s = true := fun w h => atoms_spec (ws := ow_ws yn_R_mayMeet cb_R_mayMeet 5 (some .boolean)) B.pre w (List.mem_cons_of_mem _ h)
  have hown : s.vm.findClass "BallotDesk$Rules" = some m.cls := findClass_of_methodNamed B.named
  clear B
  have L59 : ∀ (x3 : Int32) (K23 : om_M × Int32 → Prop) (hK23 : ∀ (M : om_M) (x4 : Int32) (H : Heap) (locs : List Loc) (ls : Array Slot), K23 (M, x4) → ow_B G D cA ad (ow_A G ad) M s s.heap H locs → lv_has ls 5 [(0, .ref (ad o0)), (1, .int x1), (2, .int x2), (3, .int x3), (4, .int x4)] → W p l e rm_R_mayMeet s m ([.ref (ad o0), .int x1, .int x2] : List Value).toArray below meth c H locs 0 0 (MQ below (ow_Qi G D cA ad Q) ([.ref (ad o0), .int x1, .int x2] : List Value).toArray s 0 0 (ow_A G ad)) (F0 m 23 ls [])) (M : om_M) (x4 : Int32)  (H : Heap) (locs : List Loc) (ls : Array Slot), wp_R_mayMeet_59 F o0 x1 x2 Q x3 K23 M x4  → ow_B G D cA ad (ow_A G ad) M s s.heap H locs → lv_has ls 5 [(0, .ref (ad o0)), (1, .int x1), (2, .int x2), (3, .int x3), (4, .int x4)] → W p l e rm_R_mayMeet s m ([.ref (ad o0), .int x1, .int x2] : List Value).toArray below meth c H locs 0 0 (MQ below (ow_Qi G D cA ad Q) ([.ref (ad o0), .int x1, .int x2] : List Value).toArray s 0 0 (ow_A G ad)) (F0 m 59 ls []) := by
    intro x3 K23 hK23 M x4 H locs ls h hB hl
    refine lv_iinc hx hb dc_R_mayMeet_59 hl (k := 4) rfl rfl (by decide) rfl (fun ls hl => ?_)
    refine lv_goto hx hb dc_R_mayMeet_62 rfl ?_
    exact hK23 _ _ _ _ _ h hB (lv_sub hl [1, 2, 3, 4, 0] rfl)
  have B23 : ∀ (x3 : Int32)  (K23 : om_M × Int32 → Prop) (hK23 : ∀ (M : om_M) (x4 : Int32) (H : Heap) (locs : List Loc) (ls : Array Slot), K23 (M, x4) → ow_B G D cA ad (ow_A G ad) M s s.heap H locs → lv_has ls 5 [(0, .ref (ad o0)), (1, .int x1), (2, .int x2), (3, .int x3), (4, .int x4)] → W p l e rm_R_mayMeet s m ([.ref (ad o0), .int x1, .int x2] : List Value).toArray below meth c H locs 0 0 (MQ below (ow_Qi G D cA ad Q) ([.ref (ad o0), .int x1, .int x2] : List Value).toArray s 0 0 (ow_A G ad)) (F0 m 23 ls [])) (M : om_M) (x4 : Int32) (H : Heap) (locs : List Loc) (ls : Array Slot), wp_R_mayMeet_23b F o0 x1 x2 Q x3  K23 M x4 → ow_B G D cA ad (ow_A G ad) M s s.heap H locs → lv_has ls 5 [(0, .ref (ad o0)), (1, .int x1), (2, .int x2), (3, .int x3), (4, .int x4)] → W p l e rm_R_mayMeet s m ([.ref (ad o0), .int x1, .int x2] : List Value).toArray below meth c H locs 0 0 (MQ below (ow_Qi G D cA ad Q) ([.ref (ad o0), .int x1, .int x2] : List Value).toArray s 0 0 (ow_A G ad)) (F0 m 23 ls []) := by
    intro x3  K23 hK23 M x4 H locs ls h hB hl
    refine lv_iload hx hb dc_R_mayMeet_23 (lv_at hl 4 rfl) ?_
    refine lv_aload_n hx hb dc_R_mayMeet_25 rfl (lv_at hl 0 rfl) ?_
    refine ow_get hx hb hts iw_P hown hB k0 rfl 5 (by decide) mw_67 rfl dc_R_mayMeet_26 ?_
    obtain ⟨h1, h2⟩ := h
    refine lv_icmp_ge hx hb dc_R_mayMeet_29 rfl (fun hc => ?_) (fun hc => ?_)
    · have h := h1 hc
      refine lv_iconst (v := 1) hx hb dc_R_mayMeet_65 rfl ?_
      exact ow_zret hx hb hr hlocks (by decide) hB h dc_R_mayMeet_66
    · have h := h2 hc
      refine lv_iload hx hb dc_R_mayMeet_32 (lv_at hl 4 rfl) ?_
      refine lv_iload_n hx hb dc_R_mayMeet_34 rfl (lv_at hl 1 rfl) ?_
      obtain ⟨h1, h2⟩ := h
      refine lv_icmp_eq hx hb dc_R_mayMeet_35 rfl (fun hc => ?_) (fun hc => ?_)
      · have h := h1 hc
        exact L59 _ K23 hK23 _ _ _ _ _ h hB (lv_sub hl [0, 1, 2, 3, 4] rfl)
      · have h := h2 hc
        refine lv_iload hx hb dc_R_mayMeet_38 (lv_at hl 4 rfl) ?_
        refine lv_iload_n hx hb dc_R_mayMeet_40 rfl (lv_at hl 2 rfl) ?_
        obtain ⟨h1, h2⟩ := h
        refine lv_icmp_eq hx hb dc_R_mayMeet_41 rfl (fun hc => ?_) (fun hc => ?_)
        · have h := h1 hc
          exact L59 _ K23 hK23 _ _ _ _ _ h hB (lv_sub hl [0, 1, 2, 3, 4] rfl)
        · have h := h2 hc
          refine lv_aload_n hx hb dc_R_mayMeet_44 rfl (lv_at hl 0 rfl) ?_
          refine ow_get hx hb hts iw_P hown hB k0 rfl 3 (by decide) mw_52 rfl dc_R_mayMeet_45 ?_
          refine lv_iload hx hb dc_R_mayMeet_48 (lv_at hl 4 rfl) ?_
          obtain ⟨hi1, h⟩ := h
          refine ow_aald hx hb hB (ly_P_placed hG k0) (by decide) hi1 dc_R_mayMeet_50 ?_
          refine lv_iconst (v := 0) hx hb dc_R_mayMeet_51 rfl ?_
          obtain ⟨hi2, h⟩ := h
          refine ow_iald hx hb hB (ly_row2 hG (ly_P_placed hG k0) hi1) hi2 dc_R_mayMeet_52 ?_
          refine lv_iload_n hx hb dc_R_mayMeet_53 rfl (lv_at hl 3 rfl) ?_
          obtain ⟨h1, h2⟩ := h
          refine lv_icmp_le hx hb dc_R_mayMeet_54 rfl (fun hc => ?_) (fun hc => ?_)
          · have h := h1 hc
            exact L59 _ K23 hK23 _ _ _ _ _ h hB (lv_sub hl [0, 1, 2, 3, 4] rfl)
          · have h := h2 hc
            refine lv_iconst (v := 0) hx hb dc_R_mayMeet_57 rfl ?_
            exact ow_zret hx hb hr hlocks (by decide) hB h dc_R_mayMeet_58
  have L23 : ∀ (x3 : Int32)  (M : om_M) (x4 : Int32) (H : Heap) (locs : List Loc) (ls : Array Slot), wp_R_mayMeet_23 F o0 x1 x2 Q x3  M x4 → ow_B G D cA ad (ow_A G ad) M s s.heap H locs → lv_has ls 5 [(0, .ref (ad o0)), (1, .int x1), (2, .int x2), (3, .int x3), (4, .int x4)] → W p l e rm_R_mayMeet s m ([.ref (ad o0), .int x1, .int x2] : List Value).toArray below meth c H locs 0 0 (MQ below (ow_Qi G D cA ad Q) ([.ref (ad o0), .int x1, .int x2] : List Value).toArray s 0 0 (ow_A G ad)) (F0 m 23 ls []) := by
    intro x3 
    have step : ∀ (k : Nat) (M : om_M) (x4 : Int32) (H : Heap) (locs : List Loc) (ls : Array Slot), ow_lp (fun (z : om_M × Int32) K => wp_R_mayMeet_23b F o0 x1 x2 Q x3  K z.1 z.2) k (M, x4) → ow_B G D cA ad (ow_A G ad) M s s.heap H locs → lv_has ls 5 [(0, .ref (ad o0)), (1, .int x1), (2, .int x2), (3, .int x3), (4, .int x4)] → W p l e rm_R_mayMeet s m ([.ref (ad o0), .int x1, .int x2] : List Value).toArray below meth c H locs 0 0 (MQ below (ow_Qi G D cA ad Q) ([.ref (ad o0), .int x1, .int x2] : List Value).toArray s 0 0 (ow_A G ad)) (F0 m 23 ls []) := by
      intro k
      induction k with
      | zero => intro M x4 H locs ls h hB hl; exact False.elim h
      | succ k ih => intro M x4 H locs ls h hB hl; exact B23 x3  (ow_lp _ k) (fun M x4 H locs ls h hB  hl => ih M x4  H locs ls h hB hl) M x4 H locs ls h hB hl
    intro M x4 H locs ls h hB hl
    exact step F M x4 H locs ls h hB hl
  have hl := lv_entry ([.ref (ad o0), .int x1, .int x2]) (n := 5) (Nat.le_of_ble_eq_true rfl)
  rw [lg_entry_eq]
  generalize (lg_sl ([.ref (ad o0), .int x1, .int x2]) ++ List.replicate (5 - (lg_sl ([.ref (ad o0), .int x1, .int x2])).length) Slot.unset).toArray = ls at hl ⊢
  have hl : lv_has ls 5 [(0, .ref (ad o0)), (1, .int x1), (2, .int x2)] := hl
  show W p l e rm_R_mayMeet s m _ below meth c s.heap [] 0 0 _ _
  refine lv_aload_n hx hb dc_R_mayMeet_0 rfl (lv_at hl 0 rfl) ?_
  refine ow_get hx hb hts iw_P hown hB k0 rfl 3 (by decide) mw_52 rfl dc_R_mayMeet_1 ?_
  refine lv_iload_n hx hb dc_R_mayMeet_4 rfl (lv_at hl 1 rfl) ?_
  obtain ⟨hi3, h⟩ := h
  refine ow_aald hx hb hB (ly_P_placed hG k0) (by decide) hi3 dc_R_mayMeet_5 ?_
  refine lv_iconst (v := 0) hx hb dc_R_mayMeet_6 rfl ?_
  obtain ⟨hi4, h⟩ := h
  refine ow_iald hx hb hB (ly_row2 hG (ly_P_placed hG k0) hi3) hi4 dc_R_mayMeet_7 ?_
  refine lv_aload_n hx hb dc_R_mayMeet_8 rfl (lv_at hl 0 rfl) ?_
  refine ow_get hx hb hts iw_P hown hB k0 rfl 3 (by decide) mw_52 rfl dc_R_mayMeet_9 ?_
  refine lv_iload_n hx hb dc_R_mayMeet_12 rfl (lv_at hl 2 rfl) ?_
  obtain ⟨hi5, h⟩ := h
  refine ow_aald hx hb hB (ly_P_placed hG k0) (by decide) hi5 dc_R_mayMeet_13 ?_
  refine lv_iconst (v := 0) hx hb dc_R_mayMeet_14 rfl ?_
  refine ow_iald hx hb hB (ly_row2 hG (ly_P_placed hG k0) hi5) hi4 dc_R_mayMeet_15 ?_
  refine va_mmin hx hb (hml.trans hl.1.symm) hown (hts _ mw_522) (hts _ mw_294) (hts _ mw_19) (hts _ mw_295) (Nat.le_of_ble_eq_true rfl) (Nat.le_of_ble_eq_true rfl) (Nat.zero_le _) (Nat.zero_le _) dc_R_mayMeet_16 ?_
  refine lv_istore_n hx hb dc_R_mayMeet_19 rfl hl (by decide) rfl (fun ls hl => ?_)
  refine lv_iconst (v := 0) hx hb dc_R_mayMeet_20 rfl ?_
  refine lv_istore hx hb dc_R_mayMeet_21 hl (by decide) rfl (fun ls hl => ?_)
  exact L23 _ _ _ _ _ _ h hB (lv_sub hl [2, 3, 4, 1, 0] rfl)
abbrev rm_R_runoff : Room := { frames := 2, cells := 0, slots := 0, locals := 45 }
theorem hd_R_runoff : yn_R_runoff.cls ≠ "java/lang/invoke/MethodHandle" ∧ yn_R_runoff.cls ≠ "java/lang/invoke/VarHandle" ∧ (parseMethodDescriptor yn_R_runoff.desc).map (fun d => d.parameters.length) = some 1 := by decide +kernel
set_option maxHeartbeats 4000000 in
set_option maxRecDepth 100000 in
theorem ct_R_runoff (l : Launch) (G : List (Nat × Nat)) (hG : ow_lay G) (D : va_G) (cA : Nat → ClassId) (ad : Nat → Nat) (F : Nat) (o0 : Nat) (k0 : ow_kd G o0 = (3, 1)) (M : om_M) (Q : Int32 → om_M → Prop) (h : wp_R_runoff F o0 M Q) : Met l yn_R_runoff (ow_ws yn_R_runoff cb_R_runoff 4 (some .int)) rm_R_runoff (ow_Pc G D cA ad M [.ref (ad o0)]) (ow_Qi G D cA ad Q) 0 0 (ow_A G ad) := by
  refine Met.ofW (cc := cb_R_runoff) (maxL := 4) (ret := (some .int)) (by decide) rfl ?_
  intro p e s m args below meth c s₁ B hml hv
  obtain ⟨rfl, hB⟩ := hv
  have hx := B.exec
  have hb := B.bytes
  have hr := B.returns
  have hlocks := B.notSynchronized
  have hts : ∀ w ∈ lw_g, w.before ([.ref (ad o0)] : List Value).toArray s = true := fun w h => atoms_spec (ws := ow_ws yn_R_runoff cb_R_runoff 4 (some .int)) B.pre w (List.mem_cons_of_mem _ h)
  have hown : s.vm.findClass "BallotDesk$Rules" = some m.cls := findClass_of_methodNamed B.named
  clear B
  have L77 : ∀  (K4 : om_M × Int32 × Int32 → Prop) (hK4 : ∀ (M : om_M) (x1 : Int32) (x2 : Int32) (H : Heap) (locs : List Loc) (ls : Array Slot), K4 (M, x1, x2) → ow_B G D cA ad (ow_A G ad) M s s.heap H locs → lv_has ls 4 [(0, .ref (ad o0)), (1, .int x1), (2, .int x2)] → W p l e rm_R_runoff s m ([.ref (ad o0)] : List Value).toArray below meth c H locs 0 0 (MQ below (ow_Qi G D cA ad Q) ([.ref (ad o0)] : List Value).toArray s 0 0 (ow_A G ad)) (F0 m 4 ls [])) (M : om_M) (x1 : Int32) (x2 : Int32)  (H : Heap) (locs : List Loc) (ls : Array Slot), wp_R_runoff_77 F o0 Q  K4 M x1 x2  → ow_B G D cA ad (ow_A G ad) M s s.heap H locs → lv_has ls 4 [(0, .ref (ad o0)), (1, .int x1), (2, .int x2)] → W p l e rm_R_runoff s m ([.ref (ad o0)] : List Value).toArray below meth c H locs 0 0 (MQ below (ow_Qi G D cA ad Q) ([.ref (ad o0)] : List Value).toArray s 0 0 (ow_A G ad)) (F0 m 77 ls []) := by
    intro  K4 hK4 M x1 x2 H locs ls h hB hl
    refine lv_iinc hx hb dc_R_runoff_77 hl (k := 2) rfl rfl (by decide) rfl (fun ls hl => ?_)
    refine lv_goto hx hb dc_R_runoff_80 rfl ?_
    exact hK4 _ _ _ _ _ _ h hB (lv_sub hl [1, 2, 0] rfl)
  have L71 : ∀ (x2 : Int32) (K4 : om_M × Int32 × Int32 → Prop) (hK4 : ∀ (M : om_M) (x1 : Int32) (x2 : Int32) (H : Heap) (locs : List Loc) (ls : Array Slot), K4 (M, x1, x2) → ow_B G D cA ad (ow_A G ad) M s s.heap H locs → lv_has ls 4 [(0, .ref (ad o0)), (1, .int x1), (2, .int x2)] → W p l e rm_R_runoff s m ([.ref (ad o0)] : List Value).toArray below meth c H locs 0 0 (MQ below (ow_Qi G D cA ad Q) ([.ref (ad o0)] : List Value).toArray s 0 0 (ow_A G ad)) (F0 m 4 ls [])) (K16 : om_M × Int32 × Int32 → Prop) (hK16 : ∀ (M : om_M) (x1 : Int32) (x3 : Int32) (H : Heap) (locs : List Loc) (ls : Array Slot), K16 (M, x1, x3) → ow_B G D cA ad (ow_A G ad) M s s.heap H locs → lv_has ls 4 [(0, .ref (ad o0)), (1, .int x1), (2, .int x2), (3, .int x3)] → W p l e rm_R_runoff s m ([.ref (ad o0)] : List Value).toArray below meth c H locs 0 0 (MQ below (ow_Qi G D cA ad Q) ([.ref (ad o0)] : List Value).toArray s 0 0 (ow_A G ad)) (F0 m 16 ls [])) (M : om_M) (x1 : Int32) (x3 : Int32)  (H : Heap) (locs : List Loc) (ls : Array Slot), wp_R_runoff_71 F o0 Q x2 K4 K16 M x1 x3  → ow_B G D cA ad (ow_A G ad) M s s.heap H locs → lv_has ls 4 [(0, .ref (ad o0)), (1, .int x1), (2, .int x2), (3, .int x3)] → W p l e rm_R_runoff s m ([.ref (ad o0)] : List Value).toArray below meth c H locs 0 0 (MQ below (ow_Qi G D cA ad Q) ([.ref (ad o0)] : List Value).toArray s 0 0 (ow_A G ad)) (F0 m 71 ls []) := by
    intro x2 K4 hK4 K16 hK16 M x1 x3 H locs ls h hB hl
    refine lv_iinc hx hb dc_R_runoff_71 hl (k := 3) rfl rfl (by decide) rfl (fun ls hl => ?_)
    refine lv_goto hx hb dc_R_runoff_74 rfl ?_
    exact hK16 _ _ _ _ _ _ h hB (lv_sub hl [1, 2, 3, 0] rfl)
  have L69 : ∀ (x2 : Int32) (K4 : om_M × Int32 × Int32 → Prop) (hK4 : ∀ (M : om_M) (x1 : Int32) (x2 : Int32) (H : Heap) (locs : List Loc) (ls : Array Slot), K4 (M, x1, x2) → ow_B G D cA ad (ow_A G ad) M s s.heap H locs → lv_has ls 4 [(0, .ref (ad o0)), (1, .int x1), (2, .int x2)] → W p l e rm_R_runoff s m ([.ref (ad o0)] : List Value).toArray below meth c H locs 0 0 (MQ below (ow_Qi G D cA ad Q) ([.ref (ad o0)] : List Value).toArray s 0 0 (ow_A G ad)) (F0 m 4 ls [])) (K16 : om_M × Int32 × Int32 → Prop) (hK16 : ∀ (M : om_M) (x1 : Int32) (x3 : Int32) (H : Heap) (locs : List Loc) (ls : Array Slot), K16 (M, x1, x3) → ow_B G D cA ad (ow_A G ad) M s s.heap H locs → lv_has ls 4 [(0, .ref (ad o0)), (1, .int x1), (2, .int x2), (3, .int x3)] → W p l e rm_R_runoff s m ([.ref (ad o0)] : List Value).toArray below meth c H locs 0 0 (MQ below (ow_Qi G D cA ad Q) ([.ref (ad o0)] : List Value).toArray s 0 0 (ow_A G ad)) (F0 m 16 ls [])) (M : om_M) (x3 : Int32) (t0 : Int32) (t1 : Int32) (H : Heap) (locs : List Loc) (ls : Array Slot), wp_R_runoff_69 F o0 Q x2 K4 K16 M x3 t0 t1 → ow_B G D cA ad (ow_A G ad) M s s.heap H locs → lv_has ls 4 [(0, .ref (ad o0)), (2, .int x2), (3, .int x3)] → W p l e rm_R_runoff s m ([.ref (ad o0)] : List Value).toArray below meth c H locs 0 0 (MQ below (ow_Qi G D cA ad Q) ([.ref (ad o0)] : List Value).toArray s 0 0 (ow_A G ad)) (F0 m 69 ls [.int t1, .int t0]) := by
    intro x2 K4 hK4 K16 hK16 M x3 t0 t1 H locs ls h hB hl
    refine lv_ior hx hb dc_R_runoff_69 ?_
    refine lv_istore_n hx hb dc_R_runoff_70 rfl hl (by decide) rfl (fun ls hl => ?_)
    exact L71 _ K4 hK4 K16 hK16 _ _ _ _ _ _ h hB (lv_sub hl [1, 0, 2, 3] rfl)
  have L50 : ∀ (x2 : Int32) (K4 : om_M × Int32 × Int32 → Prop) (hK4 : ∀ (M : om_M) (x1 : Int32) (x2 : Int32) (H : Heap) (locs : List Loc) (ls : Array Slot), K4 (M, x1, x2) → ow_B G D cA ad (ow_A G ad) M s s.heap H locs → lv_has ls 4 [(0, .ref (ad o0)), (1, .int x1), (2, .int x2)] → W p l e rm_R_runoff s m ([.ref (ad o0)] : List Value).toArray below meth c H locs 0 0 (MQ below (ow_Qi G D cA ad Q) ([.ref (ad o0)] : List Value).toArray s 0 0 (ow_A G ad)) (F0 m 4 ls [])) (K16 : om_M × Int32 × Int32 → Prop) (hK16 : ∀ (M : om_M) (x1 : Int32) (x3 : Int32) (H : Heap) (locs : List Loc) (ls : Array Slot), K16 (M, x1, x3) → ow_B G D cA ad (ow_A G ad) M s s.heap H locs → lv_has ls 4 [(0, .ref (ad o0)), (1, .int x1), (2, .int x2), (3, .int x3)] → W p l e rm_R_runoff s m ([.ref (ad o0)] : List Value).toArray below meth c H locs 0 0 (MQ below (ow_Qi G D cA ad Q) ([.ref (ad o0)] : List Value).toArray s 0 0 (ow_A G ad)) (F0 m 16 ls [])) (M : om_M) (x3 : Int32) (t0 : Int32) (t1 : Int32) (H : Heap) (locs : List Loc) (ls : Array Slot), wp_R_runoff_50 F o0 Q x2 K4 K16 M x3 t0 t1 → ow_B G D cA ad (ow_A G ad) M s s.heap H locs → lv_has ls 4 [(0, .ref (ad o0)), (2, .int x2), (3, .int x3)] → W p l e rm_R_runoff s m ([.ref (ad o0)] : List Value).toArray below meth c H locs 0 0 (MQ below (ow_Qi G D cA ad Q) ([.ref (ad o0)] : List Value).toArray s 0 0 (ow_A G ad)) (F0 m 50 ls [.int t1, .int t0]) := by
    intro x2 K4 hK4 K16 hK16 M x3 t0 t1 H locs ls h hB hl
    refine lv_ior hx hb dc_R_runoff_50 ?_
    refine lv_istore_n hx hb dc_R_runoff_51 rfl hl (by decide) rfl (fun ls hl => ?_)
    refine lv_iload_n hx hb dc_R_runoff_52 rfl (lv_at hl 0 rfl) ?_
    refine lv_aload_n hx hb dc_R_runoff_53 rfl (lv_at hl 1 rfl) ?_
    refine lv_iload_n hx hb dc_R_runoff_54 rfl (lv_at hl 2 rfl) ?_
    refine lv_iload_n hx hb dc_R_runoff_55 rfl (lv_at hl 3 rfl) ?_
    refine ow_calli (va_runV (As := [.int x2, .int x3]) (rest := [.int (t0 ||| t1)]) ⟨hx, hb, hml, hown, hts⟩ (ct_P_beats l G hG D cA ad F _ k0 _ _ _ _ h) ⟨ow_cb 2 hts mw_526 mw_2 mw_523 rfl rfl hd_P_beats ⟨Nat.le_of_ble_eq_true rfl, Nat.le_of_ble_eq_true rfl⟩, hts _ mw_524, hts _ mw_525⟩ (ow_preV hB k0 rfl) rfl rfl hl.1 rfl (lv_room (Nat.le_of_ble_eq_true rfl)) dc_R_runoff_56 ⟨Nat.zero_le _, Nat.zero_le _⟩) hB (fun r2 M1 H locs h hB => ?_)
    obtain ⟨h1, h2⟩ := h
    refine lv_if_eq hx hb dc_R_runoff_59 rfl (fun hc => ?_) (fun hc => ?_)
    · have h := h1 hc
      refine lv_iconst (v := 1) hx hb dc_R_runoff_66 rfl ?_
      refine lv_iload_n hx hb dc_R_runoff_67 rfl (lv_at hl 3 rfl) ?_
      refine lv_ishl hx hb dc_R_runoff_68 ?_
      exact L69 _ K4 hK4 K16 hK16 _ _ _ _ _ _ _ h hB (lv_sub hl [1, 2, 3] rfl)
    · have h := h2 hc
      refine lv_iconst (v := 0) hx hb dc_R_runoff_62 rfl ?_
      refine lv_goto hx hb dc_R_runoff_63 rfl ?_
      exact L69 _ K4 hK4 K16 hK16 _ _ _ _ _ _ _ h hB (lv_sub hl [1, 2, 3] rfl)
  have B16 : ∀ (x2 : Int32) (K4 : om_M × Int32 × Int32 → Prop) (hK4 : ∀ (M : om_M) (x1 : Int32) (x2 : Int32) (H : Heap) (locs : List Loc) (ls : Array Slot), K4 (M, x1, x2) → ow_B G D cA ad (ow_A G ad) M s s.heap H locs → lv_has ls 4 [(0, .ref (ad o0)), (1, .int x1), (2, .int x2)] → W p l e rm_R_runoff s m ([.ref (ad o0)] : List Value).toArray below meth c H locs 0 0 (MQ below (ow_Qi G D cA ad Q) ([.ref (ad o0)] : List Value).toArray s 0 0 (ow_A G ad)) (F0 m 4 ls [])) (K16 : om_M × Int32 × Int32 → Prop) (hK16 : ∀ (M : om_M) (x1 : Int32) (x3 : Int32) (H : Heap) (locs : List Loc) (ls : Array Slot), K16 (M, x1, x3) → ow_B G D cA ad (ow_A G ad) M s s.heap H locs → lv_has ls 4 [(0, .ref (ad o0)), (1, .int x1), (2, .int x2), (3, .int x3)] → W p l e rm_R_runoff s m ([.ref (ad o0)] : List Value).toArray below meth c H locs 0 0 (MQ below (ow_Qi G D cA ad Q) ([.ref (ad o0)] : List Value).toArray s 0 0 (ow_A G ad)) (F0 m 16 ls [])) (M : om_M) (x1 : Int32) (x3 : Int32) (H : Heap) (locs : List Loc) (ls : Array Slot), wp_R_runoff_16b F o0 Q x2 K4 K16 M x1 x3 → ow_B G D cA ad (ow_A G ad) M s s.heap H locs → lv_has ls 4 [(0, .ref (ad o0)), (1, .int x1), (2, .int x2), (3, .int x3)] → W p l e rm_R_runoff s m ([.ref (ad o0)] : List Value).toArray below meth c H locs 0 0 (MQ below (ow_Qi G D cA ad Q) ([.ref (ad o0)] : List Value).toArray s 0 0 (ow_A G ad)) (F0 m 16 ls []) := by
    intro x2 K4 hK4 K16 hK16 M x1 x3 H locs ls h hB hl
    refine lv_iload_n hx hb dc_R_runoff_16 rfl (lv_at hl 3 rfl) ?_
    refine lv_aload_n hx hb dc_R_runoff_17 rfl (lv_at hl 0 rfl) ?_
    refine ow_get hx hb hts iw_P hown hB k0 rfl 5 (by decide) mw_67 rfl dc_R_runoff_18 ?_
    obtain ⟨h1, h2⟩ := h
    refine lv_icmp_ge hx hb dc_R_runoff_21 rfl (fun hc => ?_) (fun hc => ?_)
    · have h := h1 hc
      exact L77 K4 hK4 _ _ _ _ _ _ h hB (lv_sub hl [0, 1, 2] rfl)
    · have h := h2 hc
      refine lv_aload_n hx hb dc_R_runoff_24 rfl (lv_at hl 0 rfl) ?_
      refine lv_iload_n hx hb dc_R_runoff_25 rfl (lv_at hl 2 rfl) ?_
      refine lv_iload_n hx hb dc_R_runoff_26 rfl (lv_at hl 3 rfl) ?_
      refine ow_calli (va_runS (As := [.ref (ad o0), .int x2, .int x3]) (rest := []) ⟨hx, hb, hml, hown, hts⟩ (ct_R_mayMeet l G hG D cA ad F _ k0 _ _ _ _ h) ⟨ow_cb 3 hts mw_521 mw_6 mw_519 rfl rfl hd_R_mayMeet ⟨Nat.le_of_ble_eq_true rfl, Nat.le_of_ble_eq_true rfl⟩, hts _ mw_520⟩ (ow_preS hB) rfl rfl hl.1 rfl (lv_room (Nat.le_of_ble_eq_true rfl)) dc_R_runoff_27 ⟨Nat.zero_le _, Nat.zero_le _⟩) hB (fun r4 M3 H locs h hB => ?_)
      obtain ⟨h1, h2⟩ := h
      refine lv_if_eq hx hb dc_R_runoff_30 rfl (fun hc => ?_) (fun hc => ?_)
      · have h := h1 hc
        exact L71 _ K4 hK4 K16 hK16 _ _ _ _ _ _ h hB (lv_sub hl [0, 1, 2, 3] rfl)
      · have h := h2 hc
        refine lv_iload_n hx hb dc_R_runoff_33 rfl (lv_at hl 1 rfl) ?_
        refine lv_aload_n hx hb dc_R_runoff_34 rfl (lv_at hl 0 rfl) ?_
        refine lv_iload_n hx hb dc_R_runoff_35 rfl (lv_at hl 3 rfl) ?_
        refine lv_iload_n hx hb dc_R_runoff_36 rfl (lv_at hl 2 rfl) ?_
        refine ow_calli (va_runV (As := [.int x3, .int x2]) (rest := [.int x1]) ⟨hx, hb, hml, hown, hts⟩ (ct_P_beats l G hG D cA ad F _ k0 _ _ _ _ h) ⟨ow_cb 2 hts mw_526 mw_2 mw_523 rfl rfl hd_P_beats ⟨Nat.le_of_ble_eq_true rfl, Nat.le_of_ble_eq_true rfl⟩, hts _ mw_524, hts _ mw_525⟩ (ow_preV hB k0 rfl) rfl rfl hl.1 rfl (lv_room (Nat.le_of_ble_eq_true rfl)) dc_R_runoff_37 ⟨Nat.zero_le _, Nat.zero_le _⟩) hB (fun r6 M5 H locs h hB => ?_)
        obtain ⟨h1, h2⟩ := h
        refine lv_if_eq hx hb dc_R_runoff_40 rfl (fun hc => ?_) (fun hc => ?_)
        · have h := h1 hc
          refine lv_iconst (v := 1) hx hb dc_R_runoff_47 rfl ?_
          refine lv_iload_n hx hb dc_R_runoff_48 rfl (lv_at hl 2 rfl) ?_
          refine lv_ishl hx hb dc_R_runoff_49 ?_
          exact L50 _ K4 hK4 K16 hK16 _ _ _ _ _ _ _ h hB (lv_sub hl [0, 2, 3] rfl)
        · have h := h2 hc
          refine lv_iconst (v := 0) hx hb dc_R_runoff_43 rfl ?_
          refine lv_goto hx hb dc_R_runoff_44 rfl ?_
          exact L50 _ K4 hK4 K16 hK16 _ _ _ _ _ _ _ h hB (lv_sub hl [0, 2, 3] rfl)
  have L16 : ∀ (x2 : Int32) (K4 : om_M × Int32 × Int32 → Prop) (hK4 : ∀ (M : om_M) (x1 : Int32) (x2 : Int32) (H : Heap) (locs : List Loc) (ls : Array Slot), K4 (M, x1, x2) → ow_B G D cA ad (ow_A G ad) M s s.heap H locs → lv_has ls 4 [(0, .ref (ad o0)), (1, .int x1), (2, .int x2)] → W p l e rm_R_runoff s m ([.ref (ad o0)] : List Value).toArray below meth c H locs 0 0 (MQ below (ow_Qi G D cA ad Q) ([.ref (ad o0)] : List Value).toArray s 0 0 (ow_A G ad)) (F0 m 4 ls [])) (M : om_M) (x1 : Int32) (x3 : Int32) (H : Heap) (locs : List Loc) (ls : Array Slot), wp_R_runoff_16 F o0 Q x2 K4 M x1 x3 → ow_B G D cA ad (ow_A G ad) M s s.heap H locs → lv_has ls 4 [(0, .ref (ad o0)), (1, .int x1), (2, .int x2), (3, .int x3)] → W p l e rm_R_runoff s m ([.ref (ad o0)] : List Value).toArray below meth c H locs 0 0 (MQ below (ow_Qi G D cA ad Q) ([.ref (ad o0)] : List Value).toArray s 0 0 (ow_A G ad)) (F0 m 16 ls []) := by
    intro x2 K4 hK4
    have step : ∀ (k : Nat) (M : om_M) (x1 : Int32) (x3 : Int32) (H : Heap) (locs : List Loc) (ls : Array Slot), ow_lp (fun (z : om_M × Int32 × Int32) K => wp_R_runoff_16b F o0 Q x2 K4 K z.1 z.2.1 z.2.2) k (M, x1, x3) → ow_B G D cA ad (ow_A G ad) M s s.heap H locs → lv_has ls 4 [(0, .ref (ad o0)), (1, .int x1), (2, .int x2), (3, .int x3)] → W p l e rm_R_runoff s m ([.ref (ad o0)] : List Value).toArray below meth c H locs 0 0 (MQ below (ow_Qi G D cA ad Q) ([.ref (ad o0)] : List Value).toArray s 0 0 (ow_A G ad)) (F0 m 16 ls []) := by
      intro k
      induction k with
      | zero => intro M x1 x3 H locs ls h hB hl; exact False.elim h
      | succ k ih => intro M x1 x3 H locs ls h hB hl; exact B16 x2 K4 hK4 (ow_lp _ k) (fun M x1 x3 H locs ls h hB  hl => ih M x1 x3  H locs ls h hB hl) M x1 x3 H locs ls h hB hl
    intro M x1 x3 H locs ls h hB hl
    exact step F M x1 x3 H locs ls h hB hl
  have B4 : ∀   (K4 : om_M × Int32 × Int32 → Prop) (hK4 : ∀ (M : om_M) (x1 : Int32) (x2 : Int32) (H : Heap) (locs : List Loc) (ls : Array Slot), K4 (M, x1, x2) → ow_B G D cA ad (ow_A G ad) M s s.heap H locs → lv_has ls 4 [(0, .ref (ad o0)), (1, .int x1), (2, .int x2)] → W p l e rm_R_runoff s m ([.ref (ad o0)] : List Value).toArray below meth c H locs 0 0 (MQ below (ow_Qi G D cA ad Q) ([.ref (ad o0)] : List Value).toArray s 0 0 (ow_A G ad)) (F0 m 4 ls [])) (M : om_M) (x1 : Int32) (x2 : Int32) (H : Heap) (locs : List Loc) (ls : Array Slot), wp_R_runoff_4b F o0 Q   K4 M x1 x2 → ow_B G D cA ad (ow_A G ad) M s s.heap H locs → lv_has ls 4 [(0, .ref (ad o0)), (1, .int x1), (2, .int x2)] → W p l e rm_R_runoff s m ([.ref (ad o0)] : List Value).toArray below meth c H locs 0 0 (MQ below (ow_Qi G D cA ad Q) ([.ref (ad o0)] : List Value).toArray s 0 0 (ow_A G ad)) (F0 m 4 ls []) := by
    intro   K4 hK4 M x1 x2 H locs ls h hB hl
    refine lv_iload_n hx hb dc_R_runoff_4 rfl (lv_at hl 2 rfl) ?_
    refine lv_aload_n hx hb dc_R_runoff_5 rfl (lv_at hl 0 rfl) ?_
    refine ow_get hx hb hts iw_P hown hB k0 rfl 5 (by decide) mw_67 rfl dc_R_runoff_6 ?_
    obtain ⟨h1, h2⟩ := h
    refine lv_icmp_ge hx hb dc_R_runoff_9 rfl (fun hc => ?_) (fun hc => ?_)
    · have h := h1 hc
      refine lv_iload_n hx hb dc_R_runoff_83 rfl (lv_at hl 1 rfl) ?_
      exact ow_iret hx hb hr hlocks hB h dc_R_runoff_84
    · have h := h2 hc
      refine lv_iload_n hx hb dc_R_runoff_12 rfl (lv_at hl 2 rfl) ?_
      refine lv_iconst (v := 1) hx hb dc_R_runoff_13 rfl ?_
      refine lv_iadd hx hb dc_R_runoff_14 ?_
      refine lv_istore_n hx hb dc_R_runoff_15 rfl hl (by decide) rfl (fun ls hl => ?_)
      exact L16 _ K4 hK4 _ _ _ _ _ _ h hB (lv_sub hl [1, 2, 3, 0] rfl)
  have L4 : ∀   (M : om_M) (x1 : Int32) (x2 : Int32) (H : Heap) (locs : List Loc) (ls : Array Slot), wp_R_runoff_4 F o0 Q   M x1 x2 → ow_B G D cA ad (ow_A G ad) M s s.heap H locs → lv_has ls 4 [(0, .ref (ad o0)), (1, .int x1), (2, .int x2)] → W p l e rm_R_runoff s m ([.ref (ad o0)] : List Value).toArray below meth c H locs 0 0 (MQ below (ow_Qi G D cA ad Q) ([.ref (ad o0)] : List Value).toArray s 0 0 (ow_A G ad)) (F0 m 4 ls []) := by
    have step : ∀ (k : Nat) (M : om_M) (x1 : Int32) (x2 : Int32) (H : Heap) (locs : List Loc) (ls : Array Slot), ow_lp (fun (z : om_M × Int32 × Int32) K => wp_R_runoff_4b F o0 Q   K z.1 z.2.1 z.2.2) k (M, x1, x2) → ow_B G D cA ad (ow_A G ad) M s s.heap H locs → lv_has ls 4 [(0, .ref (ad o0)), (1, .int x1), (2, .int x2)] → W p l e rm_R_runoff s m ([.ref (ad o0)] : List Value).toArray below meth c H locs 0 0 (MQ below (ow_Qi G D cA ad Q) ([.ref (ad o0)] : List Value).toArray s 0 0 (ow_A G ad)) (F0 m 4 ls []) := by
      intro k
      induction k with
      | zero => intro M x1 x2 H locs ls h hB hl; exact False.elim h
      | succ k ih => intro M x1 x2 H locs ls h hB hl; exact B4   (ow_lp _ k) (fun M x1 x2 H locs ls h hB  hl => ih M x1 x2  H locs ls h hB hl) M x1 x2 H locs ls h hB hl
    intro M x1 x2 H locs ls h hB hl
    exact step F M x1 x2 H locs ls h hB hl
  have hl := lv_entry ([.ref (ad o0)]) (n := 4) (Nat.le_of_ble_eq_true rfl)
  rw [lg_entry_eq]
  generalize (lg_sl ([.ref (ad o0)]) ++ List.replicate (4 - (lg_sl ([.ref (ad o0)])).length) Slot.unset).toArray = ls at hl ⊢
  have hl : lv_has ls 4 [(0, .ref (ad o0))] := hl
  show W p l e rm_R_runoff s m _ below meth c s.heap [] 0 0 _ _
  refine lv_iconst (v := 0) hx hb dc_R_runoff_0 rfl ?_
  refine lv_istore_n hx hb dc_R_runoff_1 rfl hl (by decide) rfl (fun ls hl => ?_)
  refine lv_iconst (v := 0) hx hb dc_R_runoff_2 rfl ?_
  refine lv_istore_n hx hb dc_R_runoff_3 rfl hl (by decide) rfl (fun ls hl => ?_)
  exact L4 _ _ _ _ _ _ h hB (lv_sub hl [2, 1, 0] rfl)
abbrev rm_R_uncovered : Room := { frames := 2, cells := 0, slots := 0, locals := 45 }
theorem hd_R_uncovered : yn_R_uncovered.cls ≠ "java/lang/invoke/MethodHandle" ∧ yn_R_uncovered.cls ≠ "java/lang/invoke/VarHandle" ∧ (parseMethodDescriptor yn_R_uncovered.desc).map (fun d => d.parameters.length) = some 1 := by decide +kernel
set_option maxHeartbeats 4000000 in
set_option maxRecDepth 100000 in
theorem ct_R_uncovered (l : Launch) (G : List (Nat × Nat)) (hG : ow_lay G) (D : va_G) (cA : Nat → ClassId) (ad : Nat → Nat) (F : Nat) (o0 : Nat) (k0 : ow_kd G o0 = (3, 2)) (o1 : Nat) (k1 : ow_kd G o1 = (3, 1)) (M : om_M) (Q : Int32 → om_M → Prop) (h : wp_R_uncovered F o0 o1 M Q) : Met l yn_R_uncovered (ow_ws yn_R_uncovered cb_R_uncovered 6 (some .int)) rm_R_uncovered (ow_Pc G D cA ad M [.ref (ad o0), .ref (ad o1)]) (ow_Qi G D cA ad Q) 0 0 (ow_A G ad) := by
  refine Met.ofW (cc := cb_R_uncovered) (maxL := 6) (ret := (some .int)) (by decide) rfl ?_
  intro p e s m args below meth c s₁ B hml hv
  obtain ⟨rfl, hB⟩ := hv
  have hx := B.exec
  have hb := B.bytes
  have hr := B.returns
  have hlocks := B.notSynchronized
  have hts : ∀ w ∈ lw_g, w.before ([.ref (ad o0), .ref (ad o1)] : List Value).toArray s = true := fun w h => atoms_spec (ws := ow_ws yn_R_uncovered cb_R_uncovered 6 (some .int)) B.pre w (List.mem_cons_of_mem _ h)
  have hown : s.vm.findClass "BallotDesk$Rules" = some m.cls := findClass_of_methodNamed B.named
  clear B
  have L97 : ∀  (K34 : om_M × Int32 × Int32 → Prop) (hK34 : ∀ (M : om_M) (x2 : Int32) (x3 : Int32) (H : Heap) (locs : List Loc) (ls : Array Slot), K34 (M, x2, x3) → ow_B G D cA ad (ow_A G ad) M s s.heap H locs → lv_has ls 6 [(0, .ref (ad o0)), (1, .ref (ad o1)), (2, .int x2), (3, .int x3)] → W p l e rm_R_uncovered s m ([.ref (ad o0), .ref (ad o1)] : List Value).toArray below meth c H locs 0 0 (MQ below (ow_Qi G D cA ad Q) ([.ref (ad o0), .ref (ad o1)] : List Value).toArray s 0 0 (ow_A G ad)) (F0 m 34 ls [])) (M : om_M) (x2 : Int32) (x3 : Int32)  (H : Heap) (locs : List Loc) (ls : Array Slot), wp_R_uncovered_97 F o0 o1 Q  K34 M x2 x3  → ow_B G D cA ad (ow_A G ad) M s s.heap H locs → lv_has ls 6 [(0, .ref (ad o0)), (1, .ref (ad o1)), (2, .int x2), (3, .int x3)] → W p l e rm_R_uncovered s m ([.ref (ad o0), .ref (ad o1)] : List Value).toArray below meth c H locs 0 0 (MQ below (ow_Qi G D cA ad Q) ([.ref (ad o0), .ref (ad o1)] : List Value).toArray s 0 0 (ow_A G ad)) (F0 m 97 ls []) := by
    intro  K34 hK34 M x2 x3 H locs ls h hB hl
    refine lv_iinc hx hb dc_R_uncovered_97 hl (k := 3) rfl rfl (by decide) rfl (fun ls hl => ?_)
    refine lv_goto hx hb dc_R_uncovered_100 rfl ?_
    exact hK34 _ _ _ _ _ _ h hB (lv_sub hl [1, 2, 3, 0] rfl)
  have L91 : ∀ (x3 : Int32) (K34 : om_M × Int32 × Int32 → Prop) (hK34 : ∀ (M : om_M) (x2 : Int32) (x3 : Int32) (H : Heap) (locs : List Loc) (ls : Array Slot), K34 (M, x2, x3) → ow_B G D cA ad (ow_A G ad) M s s.heap H locs → lv_has ls 6 [(0, .ref (ad o0)), (1, .ref (ad o1)), (2, .int x2), (3, .int x3)] → W p l e rm_R_uncovered s m ([.ref (ad o0), .ref (ad o1)] : List Value).toArray below meth c H locs 0 0 (MQ below (ow_Qi G D cA ad Q) ([.ref (ad o0), .ref (ad o1)] : List Value).toArray s 0 0 (ow_A G ad)) (F0 m 34 ls [])) (K45 : om_M × Int32 × Int32 → Prop) (hK45 : ∀ (M : om_M) (x2 : Int32) (x4 : Int32) (H : Heap) (locs : List Loc) (ls : Array Slot), K45 (M, x2, x4) → ow_B G D cA ad (ow_A G ad) M s s.heap H locs → lv_has ls 6 [(0, .ref (ad o0)), (1, .ref (ad o1)), (2, .int x2), (3, .int x3), (4, .int x4)] → W p l e rm_R_uncovered s m ([.ref (ad o0), .ref (ad o1)] : List Value).toArray below meth c H locs 0 0 (MQ below (ow_Qi G D cA ad Q) ([.ref (ad o0), .ref (ad o1)] : List Value).toArray s 0 0 (ow_A G ad)) (F0 m 45 ls [])) (M : om_M) (x2 : Int32) (x4 : Int32)  (H : Heap) (locs : List Loc) (ls : Array Slot), wp_R_uncovered_91 F o0 o1 Q x3 K34 K45 M x2 x4  → ow_B G D cA ad (ow_A G ad) M s s.heap H locs → lv_has ls 6 [(0, .ref (ad o0)), (1, .ref (ad o1)), (2, .int x2), (3, .int x3), (4, .int x4)] → W p l e rm_R_uncovered s m ([.ref (ad o0), .ref (ad o1)] : List Value).toArray below meth c H locs 0 0 (MQ below (ow_Qi G D cA ad Q) ([.ref (ad o0), .ref (ad o1)] : List Value).toArray s 0 0 (ow_A G ad)) (F0 m 91 ls []) := by
    intro x3 K34 hK34 K45 hK45 M x2 x4 H locs ls h hB hl
    refine lv_iinc hx hb dc_R_uncovered_91 hl (k := 4) rfl rfl (by decide) rfl (fun ls hl => ?_)
    refine lv_goto hx hb dc_R_uncovered_94 rfl ?_
    exact hK45 _ _ _ _ _ _ h hB (lv_sub hl [1, 2, 3, 4, 0] rfl)
  have B45 : ∀ (x3 : Int32) (K34 : om_M × Int32 × Int32 → Prop) (hK34 : ∀ (M : om_M) (x2 : Int32) (x3 : Int32) (H : Heap) (locs : List Loc) (ls : Array Slot), K34 (M, x2, x3) → ow_B G D cA ad (ow_A G ad) M s s.heap H locs → lv_has ls 6 [(0, .ref (ad o0)), (1, .ref (ad o1)), (2, .int x2), (3, .int x3)] → W p l e rm_R_uncovered s m ([.ref (ad o0), .ref (ad o1)] : List Value).toArray below meth c H locs 0 0 (MQ below (ow_Qi G D cA ad Q) ([.ref (ad o0), .ref (ad o1)] : List Value).toArray s 0 0 (ow_A G ad)) (F0 m 34 ls [])) (K45 : om_M × Int32 × Int32 → Prop) (hK45 : ∀ (M : om_M) (x2 : Int32) (x4 : Int32) (H : Heap) (locs : List Loc) (ls : Array Slot), K45 (M, x2, x4) → ow_B G D cA ad (ow_A G ad) M s s.heap H locs → lv_has ls 6 [(0, .ref (ad o0)), (1, .ref (ad o1)), (2, .int x2), (3, .int x3), (4, .int x4)] → W p l e rm_R_uncovered s m ([.ref (ad o0), .ref (ad o1)] : List Value).toArray below meth c H locs 0 0 (MQ below (ow_Qi G D cA ad Q) ([.ref (ad o0), .ref (ad o1)] : List Value).toArray s 0 0 (ow_A G ad)) (F0 m 45 ls [])) (M : om_M) (x2 : Int32) (x4 : Int32) (H : Heap) (locs : List Loc) (ls : Array Slot), wp_R_uncovered_45b F o0 o1 Q x3 K34 K45 M x2 x4 → ow_B G D cA ad (ow_A G ad) M s s.heap H locs → lv_has ls 6 [(0, .ref (ad o0)), (1, .ref (ad o1)), (2, .int x2), (3, .int x3), (4, .int x4)] → W p l e rm_R_uncovered s m ([.ref (ad o0), .ref (ad o1)] : List Value).toArray below meth c H locs 0 0 (MQ below (ow_Qi G D cA ad Q) ([.ref (ad o0), .ref (ad o1)] : List Value).toArray s 0 0 (ow_A G ad)) (F0 m 45 ls []) := by
    intro x3 K34 hK34 K45 hK45 M x2 x4 H locs ls h hB hl
    refine lv_iload hx hb dc_R_uncovered_45 (lv_at hl 4 rfl) ?_
    refine lv_aload_n hx hb dc_R_uncovered_47 rfl (lv_at hl 1 rfl) ?_
    refine ow_get hx hb hts iw_P hown hB k1 rfl 5 (by decide) mw_67 rfl dc_R_uncovered_48 ?_
    obtain ⟨h1, h2⟩ := h
    refine lv_icmp_ge hx hb dc_R_uncovered_51 rfl (fun hc => ?_) (fun hc => ?_)
    · have h := h1 hc
      exact L97 K34 hK34 _ _ _ _ _ _ h hB (lv_sub hl [0, 1, 2, 3] rfl)
    · have h := h2 hc
      refine lv_aload_n hx hb dc_R_uncovered_54 rfl (lv_at hl 0 rfl) ?_
      refine ow_get hx hb hts iw_R hown hB k0 rfl 4 (by decide) mw_187 rfl dc_R_uncovered_55 ?_
      refine lv_iload hx hb dc_R_uncovered_58 (lv_at hl 4 rfl) ?_
      obtain ⟨hi1, h⟩ := h
      refine ow_iald hx hb hB (ly_R_beaten hG k0) hi1 dc_R_uncovered_60 ?_
      refine lv_iconst (v := 1) hx hb dc_R_uncovered_61 rfl ?_
      refine lv_iload hx hb dc_R_uncovered_62 (lv_at hl 4 rfl) ?_
      refine lv_ishl hx hb dc_R_uncovered_64 ?_
      refine lv_ior hx hb dc_R_uncovered_65 ?_
      refine lv_istore hx hb dc_R_uncovered_66 hl (by decide) rfl (fun ls hl => ?_)
      refine lv_aload_n hx hb dc_R_uncovered_68 rfl (lv_at hl 1 rfl) ?_
      refine ow_get hx hb hts iw_R hown hB k0 rfl 4 (by decide) mw_187 rfl dc_R_uncovered_69 ?_
      refine lv_iload_n hx hb dc_R_uncovered_72 rfl (lv_at hl 4 rfl) ?_
      obtain ⟨hi2, h⟩ := h
      refine ow_iald hx hb hB (ly_R_beaten hG k0) hi2 dc_R_uncovered_73 ?_
      refine lv_iload hx hb dc_R_uncovered_74 (lv_at hl 0 rfl) ?_
      refine lv_iand hx hb dc_R_uncovered_76 ?_
      refine lv_iload hx hb dc_R_uncovered_77 (lv_at hl 0 rfl) ?_
      obtain ⟨h1, h2⟩ := h
      refine lv_icmp_ne hx hb dc_R_uncovered_79 rfl (fun hc => ?_) (fun hc => ?_)
      · have h := h2 hc
        exact L91 _ K34 hK34 K45 hK45 _ _ _ _ _ _ h hB (lv_sub hl [1, 2, 3, 4, 5] rfl)
      · have h := h1 hc
        refine lv_iload_n hx hb dc_R_uncovered_82 rfl (lv_at hl 3 rfl) ?_
        refine lv_iconst (v := 1) hx hb dc_R_uncovered_83 rfl ?_
        refine lv_iload hx hb dc_R_uncovered_84 (lv_at hl 5 rfl) ?_
        refine lv_ishl hx hb dc_R_uncovered_86 ?_
        refine lv_iconst (v := (-1)) hx hb dc_R_uncovered_87 rfl ?_
        refine lv_ixor hx hb dc_R_uncovered_88 ?_
        refine lv_iand hx hb dc_R_uncovered_89 ?_
        refine lv_istore_n hx hb dc_R_uncovered_90 rfl hl (by decide) rfl (fun ls hl => ?_)
        exact L91 _ K34 hK34 K45 hK45 _ _ _ _ _ _ h hB (lv_sub hl [2, 3, 0, 4, 5] rfl)
  have L45 : ∀ (x3 : Int32) (K34 : om_M × Int32 × Int32 → Prop) (hK34 : ∀ (M : om_M) (x2 : Int32) (x3 : Int32) (H : Heap) (locs : List Loc) (ls : Array Slot), K34 (M, x2, x3) → ow_B G D cA ad (ow_A G ad) M s s.heap H locs → lv_has ls 6 [(0, .ref (ad o0)), (1, .ref (ad o1)), (2, .int x2), (3, .int x3)] → W p l e rm_R_uncovered s m ([.ref (ad o0), .ref (ad o1)] : List Value).toArray below meth c H locs 0 0 (MQ below (ow_Qi G D cA ad Q) ([.ref (ad o0), .ref (ad o1)] : List Value).toArray s 0 0 (ow_A G ad)) (F0 m 34 ls [])) (M : om_M) (x2 : Int32) (x4 : Int32) (H : Heap) (locs : List Loc) (ls : Array Slot), wp_R_uncovered_45 F o0 o1 Q x3 K34 M x2 x4 → ow_B G D cA ad (ow_A G ad) M s s.heap H locs → lv_has ls 6 [(0, .ref (ad o0)), (1, .ref (ad o1)), (2, .int x2), (3, .int x3), (4, .int x4)] → W p l e rm_R_uncovered s m ([.ref (ad o0), .ref (ad o1)] : List Value).toArray below meth c H locs 0 0 (MQ below (ow_Qi G D cA ad Q) ([.ref (ad o0), .ref (ad o1)] : List Value).toArray s 0 0 (ow_A G ad)) (F0 m 45 ls []) := by
    intro x3 K34 hK34
    have step : ∀ (k : Nat) (M : om_M) (x2 : Int32) (x4 : Int32) (H : Heap) (locs : List Loc) (ls : Array Slot), ow_lp (fun (z : om_M × Int32 × Int32) K => wp_R_uncovered_45b F o0 o1 Q x3 K34 K z.1 z.2.1 z.2.2) k (M, x2, x4) → ow_B G D cA ad (ow_A G ad) M s s.heap H locs → lv_has ls 6 [(0, .ref (ad o0)), (1, .ref (ad o1)), (2, .int x2), (3, .int x3), (4, .int x4)] → W p l e rm_R_uncovered s m ([.ref (ad o0), .ref (ad o1)] : List Value).toArray below meth c H locs 0 0 (MQ below (ow_Qi G D cA ad Q) ([.ref (ad o0), .ref (ad o1)] : List Value).toArray s 0 0 (ow_A G ad)) (F0 m 45 ls []) := by
      intro k
      induction k with
      | zero => intro M x2 x4 H locs ls h hB hl; exact False.elim h
      | succ k ih => intro M x2 x4 H locs ls h hB hl; exact B45 x3 K34 hK34 (ow_lp _ k) (fun M x2 x4 H locs ls h hB  hl => ih M x2 x4  H locs ls h hB hl) M x2 x4 H locs ls h hB hl
    intro M x2 x4 H locs ls h hB hl
    exact step F M x2 x4 H locs ls h hB hl
  have B34 : ∀   (K34 : om_M × Int32 × Int32 → Prop) (hK34 : ∀ (M : om_M) (x2 : Int32) (x3 : Int32) (H : Heap) (locs : List Loc) (ls : Array Slot), K34 (M, x2, x3) → ow_B G D cA ad (ow_A G ad) M s s.heap H locs → lv_has ls 6 [(0, .ref (ad o0)), (1, .ref (ad o1)), (2, .int x2), (3, .int x3)] → W p l e rm_R_uncovered s m ([.ref (ad o0), .ref (ad o1)] : List Value).toArray below meth c H locs 0 0 (MQ below (ow_Qi G D cA ad Q) ([.ref (ad o0), .ref (ad o1)] : List Value).toArray s 0 0 (ow_A G ad)) (F0 m 34 ls [])) (M : om_M) (x2 : Int32) (x3 : Int32) (H : Heap) (locs : List Loc) (ls : Array Slot), wp_R_uncovered_34b F o0 o1 Q   K34 M x2 x3 → ow_B G D cA ad (ow_A G ad) M s s.heap H locs → lv_has ls 6 [(0, .ref (ad o0)), (1, .ref (ad o1)), (2, .int x2), (3, .int x3)] → W p l e rm_R_uncovered s m ([.ref (ad o0), .ref (ad o1)] : List Value).toArray below meth c H locs 0 0 (MQ below (ow_Qi G D cA ad Q) ([.ref (ad o0), .ref (ad o1)] : List Value).toArray s 0 0 (ow_A G ad)) (F0 m 34 ls []) := by
    intro   K34 hK34 M x2 x3 H locs ls h hB hl
    refine lv_iload_n hx hb dc_R_uncovered_34 rfl (lv_at hl 3 rfl) ?_
    refine lv_aload_n hx hb dc_R_uncovered_35 rfl (lv_at hl 1 rfl) ?_
    refine ow_get hx hb hts iw_P hown hB k1 rfl 5 (by decide) mw_67 rfl dc_R_uncovered_36 ?_
    obtain ⟨h1, h2⟩ := h
    refine lv_icmp_ge hx hb dc_R_uncovered_39 rfl (fun hc => ?_) (fun hc => ?_)
    · have h := h1 hc
      refine lv_iload_n hx hb dc_R_uncovered_103 rfl (lv_at hl 2 rfl) ?_
      exact ow_iret hx hb hr hlocks hB h dc_R_uncovered_104
    · have h := h2 hc
      refine lv_iconst (v := 0) hx hb dc_R_uncovered_42 rfl ?_
      refine lv_istore hx hb dc_R_uncovered_43 hl (by decide) rfl (fun ls hl => ?_)
      exact L45 _ K34 hK34 _ _ _ _ _ _ h hB (lv_sub hl [1, 2, 3, 4, 0] rfl)
  have L34 : ∀   (M : om_M) (x2 : Int32) (x3 : Int32) (H : Heap) (locs : List Loc) (ls : Array Slot), wp_R_uncovered_34 F o0 o1 Q   M x2 x3 → ow_B G D cA ad (ow_A G ad) M s s.heap H locs → lv_has ls 6 [(0, .ref (ad o0)), (1, .ref (ad o1)), (2, .int x2), (3, .int x3)] → W p l e rm_R_uncovered s m ([.ref (ad o0), .ref (ad o1)] : List Value).toArray below meth c H locs 0 0 (MQ below (ow_Qi G D cA ad Q) ([.ref (ad o0), .ref (ad o1)] : List Value).toArray s 0 0 (ow_A G ad)) (F0 m 34 ls []) := by
    have step : ∀ (k : Nat) (M : om_M) (x2 : Int32) (x3 : Int32) (H : Heap) (locs : List Loc) (ls : Array Slot), ow_lp (fun (z : om_M × Int32 × Int32) K => wp_R_uncovered_34b F o0 o1 Q   K z.1 z.2.1 z.2.2) k (M, x2, x3) → ow_B G D cA ad (ow_A G ad) M s s.heap H locs → lv_has ls 6 [(0, .ref (ad o0)), (1, .ref (ad o1)), (2, .int x2), (3, .int x3)] → W p l e rm_R_uncovered s m ([.ref (ad o0), .ref (ad o1)] : List Value).toArray below meth c H locs 0 0 (MQ below (ow_Qi G D cA ad Q) ([.ref (ad o0), .ref (ad o1)] : List Value).toArray s 0 0 (ow_A G ad)) (F0 m 34 ls []) := by
      intro k
      induction k with
      | zero => intro M x2 x3 H locs ls h hB hl; exact False.elim h
      | succ k ih => intro M x2 x3 H locs ls h hB hl; exact B34   (ow_lp _ k) (fun M x2 x3 H locs ls h hB  hl => ih M x2 x3  H locs ls h hB hl) M x2 x3 H locs ls h hB hl
    intro M x2 x3 H locs ls h hB hl
    exact step F M x2 x3 H locs ls h hB hl
  have L27 : ∀   (M : om_M)   (H : Heap) (locs : List Loc) (ls : Array Slot), wp_R_uncovered_27 F o0 o1 Q   M   → ow_B G D cA ad (ow_A G ad) M s s.heap H locs → lv_has ls 6 [(0, .ref (ad o0)), (1, .ref (ad o1))] → W p l e rm_R_uncovered s m ([.ref (ad o0), .ref (ad o1)] : List Value).toArray below meth c H locs 0 0 (MQ below (ow_Qi G D cA ad Q) ([.ref (ad o0), .ref (ad o1)] : List Value).toArray s 0 0 (ow_A G ad)) (F0 m 27 ls []) := by
    intro   M H locs ls h hB hl
    refine lv_aload_n hx hb dc_R_uncovered_27 rfl (lv_at hl 1 rfl) ?_
    refine ow_calli (va_runV (As := []) (rest := []) ⟨hx, hb, hml, hown, hts⟩ (ct_P_everyone l G hG D cA ad F _ k1 _ _ h) ⟨ow_cb 0 hts mw_260 mw_2 mw_582 rfl rfl hd_P_everyone ⟨Nat.le_of_ble_eq_true rfl, Nat.le_of_ble_eq_true rfl⟩, hts _ mw_258, hts _ mw_259⟩ (ow_preV hB k1 rfl) rfl rfl hl.1 rfl (lv_room (Nat.le_of_ble_eq_true rfl)) dc_R_uncovered_28 ⟨Nat.zero_le _, Nat.zero_le _⟩) hB (fun r4 M3 H locs h hB => ?_)
    refine lv_istore_n hx hb dc_R_uncovered_31 rfl hl (by decide) rfl (fun ls hl => ?_)
    refine lv_iconst (v := 0) hx hb dc_R_uncovered_32 rfl ?_
    refine lv_istore_n hx hb dc_R_uncovered_33 rfl hl (by decide) rfl (fun ls hl => ?_)
    exact L34 _ _ _ _ _ _ h hB (lv_sub hl [2, 3, 1, 0] rfl)
  have B2 : ∀   (K2 : om_M × Int32 → Prop) (hK2 : ∀ (M : om_M) (x2 : Int32) (H : Heap) (locs : List Loc) (ls : Array Slot), K2 (M, x2) → ow_B G D cA ad (ow_A G ad) M s s.heap H locs → lv_has ls 6 [(0, .ref (ad o0)), (1, .ref (ad o1)), (2, .int x2)] → W p l e rm_R_uncovered s m ([.ref (ad o0), .ref (ad o1)] : List Value).toArray below meth c H locs 0 0 (MQ below (ow_Qi G D cA ad Q) ([.ref (ad o0), .ref (ad o1)] : List Value).toArray s 0 0 (ow_A G ad)) (F0 m 2 ls [])) (M : om_M) (x2 : Int32) (H : Heap) (locs : List Loc) (ls : Array Slot), wp_R_uncovered_2b F o0 o1 Q   K2 M x2 → ow_B G D cA ad (ow_A G ad) M s s.heap H locs → lv_has ls 6 [(0, .ref (ad o0)), (1, .ref (ad o1)), (2, .int x2)] → W p l e rm_R_uncovered s m ([.ref (ad o0), .ref (ad o1)] : List Value).toArray below meth c H locs 0 0 (MQ below (ow_Qi G D cA ad Q) ([.ref (ad o0), .ref (ad o1)] : List Value).toArray s 0 0 (ow_A G ad)) (F0 m 2 ls []) := by
    intro   K2 hK2 M x2 H locs ls h hB hl
    refine lv_iload_n hx hb dc_R_uncovered_2 rfl (lv_at hl 2 rfl) ?_
    refine lv_aload_n hx hb dc_R_uncovered_3 rfl (lv_at hl 1 rfl) ?_
    refine ow_get hx hb hts iw_P hown hB k1 rfl 5 (by decide) mw_67 rfl dc_R_uncovered_4 ?_
    obtain ⟨h1, h2⟩ := h
    refine lv_icmp_ge hx hb dc_R_uncovered_7 rfl (fun hc => ?_) (fun hc => ?_)
    · have h := h1 hc
      exact L27 _ _ _ _ h hB (lv_sub hl [0, 1] rfl)
    · have h := h2 hc
      refine lv_aload_n hx hb dc_R_uncovered_10 rfl (lv_at hl 0 rfl) ?_
      refine ow_get hx hb hts iw_R hown hB k0 rfl 4 (by decide) mw_187 rfl dc_R_uncovered_11 ?_
      refine lv_iload_n hx hb dc_R_uncovered_14 rfl (lv_at hl 2 rfl) ?_
      refine lv_aload_n hx hb dc_R_uncovered_15 rfl (lv_at hl 1 rfl) ?_
      refine lv_iload_n hx hb dc_R_uncovered_16 rfl (lv_at hl 2 rfl) ?_
      refine ow_calli (va_runV (As := [.int x2]) (rest := [.int x2, .ref (ad (o0 + 26))]) ⟨hx, hb, hml, hown, hts⟩ (ct_P_beatenBy l G hG D cA ad F _ k1 _ _ _ h) ⟨ow_cb 1 hts mw_580 mw_2 mw_577 rfl rfl hd_P_beatenBy ⟨Nat.le_of_ble_eq_true rfl, Nat.le_of_ble_eq_true rfl⟩, hts _ mw_578, hts _ mw_579⟩ (ow_preV hB k1 rfl) rfl rfl hl.1 rfl (lv_room (Nat.le_of_ble_eq_true rfl)) dc_R_uncovered_17 ⟨Nat.zero_le _, Nat.zero_le _⟩) hB (fun r6 M5 H locs h hB => ?_)
      obtain ⟨hi7, h⟩ := h
      refine ow_iast hx hb hB (ly_R_beaten hG k0) hi7 dc_R_uncovered_20 (fun H locs hB => ?_)
      refine lv_iinc hx hb dc_R_uncovered_21 hl (k := 2) rfl rfl (by decide) rfl (fun ls hl => ?_)
      refine lv_goto hx hb dc_R_uncovered_24 rfl ?_
      exact hK2 _ _ _ _ _ h hB (lv_sub hl [1, 2, 0] rfl)
  have L2 : ∀   (M : om_M) (x2 : Int32) (H : Heap) (locs : List Loc) (ls : Array Slot), wp_R_uncovered_2 F o0 o1 Q   M x2 → ow_B G D cA ad (ow_A G ad) M s s.heap H locs → lv_has ls 6 [(0, .ref (ad o0)), (1, .ref (ad o1)), (2, .int x2)] → W p l e rm_R_uncovered s m ([.ref (ad o0), .ref (ad o1)] : List Value).toArray below meth c H locs 0 0 (MQ below (ow_Qi G D cA ad Q) ([.ref (ad o0), .ref (ad o1)] : List Value).toArray s 0 0 (ow_A G ad)) (F0 m 2 ls []) := by
    have step : ∀ (k : Nat) (M : om_M) (x2 : Int32) (H : Heap) (locs : List Loc) (ls : Array Slot), ow_lp (fun (z : om_M × Int32) K => wp_R_uncovered_2b F o0 o1 Q   K z.1 z.2) k (M, x2) → ow_B G D cA ad (ow_A G ad) M s s.heap H locs → lv_has ls 6 [(0, .ref (ad o0)), (1, .ref (ad o1)), (2, .int x2)] → W p l e rm_R_uncovered s m ([.ref (ad o0), .ref (ad o1)] : List Value).toArray below meth c H locs 0 0 (MQ below (ow_Qi G D cA ad Q) ([.ref (ad o0), .ref (ad o1)] : List Value).toArray s 0 0 (ow_A G ad)) (F0 m 2 ls []) := by
      intro k
      induction k with
      | zero => intro M x2 H locs ls h hB hl; exact False.elim h
      | succ k ih => intro M x2 H locs ls h hB hl; exact B2   (ow_lp _ k) (fun M x2 H locs ls h hB  hl => ih M x2  H locs ls h hB hl) M x2 H locs ls h hB hl
    intro M x2 H locs ls h hB hl
    exact step F M x2 H locs ls h hB hl
  have hl := lv_entry ([.ref (ad o0), .ref (ad o1)]) (n := 6) (Nat.le_of_ble_eq_true rfl)
  rw [lg_entry_eq]
  generalize (lg_sl ([.ref (ad o0), .ref (ad o1)]) ++ List.replicate (6 - (lg_sl ([.ref (ad o0), .ref (ad o1)])).length) Slot.unset).toArray = ls at hl ⊢
  have hl : lv_has ls 6 [(0, .ref (ad o0)), (1, .ref (ad o1))] := hl
  show W p l e rm_R_uncovered s m _ below meth c s.heap [] 0 0 _ _
  refine lv_iconst (v := 0) hx hb dc_R_uncovered_0 rfl ?_
  refine lv_istore_n hx hb dc_R_uncovered_1 rfl hl (by decide) rfl (fun ls hl => ?_)
  exact L2 _ _ _ _ _ h hB (lv_sub hl [1, 2, 0] rfl)
abbrev rm_R_lastToStay : Room := { frames := 2, cells := 0, slots := 0, locals := 44 }
theorem hd_R_lastToStay : yn_R_lastToStay.cls ≠ "java/lang/invoke/MethodHandle" ∧ yn_R_lastToStay.cls ≠ "java/lang/invoke/VarHandle" ∧ (parseMethodDescriptor yn_R_lastToStay.desc).map (fun d => d.parameters.length) = some 1 := by decide +kernel
set_option maxHeartbeats 4000000 in
set_option maxRecDepth 100000 in
theorem ct_R_lastToStay (l : Launch) (G : List (Nat × Nat)) (hG : ow_lay G) (D : va_G) (cA : Nat → ClassId) (ad : Nat → Nat) (F : Nat) (o0 : Nat) (k0 : ow_kd G o0 = (3, 1)) (M : om_M) (Q : Int32 → om_M → Prop) (h : wp_R_lastToStay F o0 M Q) : Met l yn_R_lastToStay (ow_ws yn_R_lastToStay cb_R_lastToStay 4 (some .int)) rm_R_lastToStay (ow_Pc G D cA ad M [.ref (ad o0)]) (ow_Qi G D cA ad Q) 0 0 (ow_A G ad) := by
  refine Met.ofW (cc := cb_R_lastToStay) (maxL := 4) (ret := (some .int)) (by decide) rfl ?_
  intro p e s m args below meth c s₁ B hml hv
  obtain ⟨rfl, hB⟩ := hv
  have hx := B.exec
  have hb := B.bytes
  have hr := B.returns
  have hlocks := B.notSynchronized
  have hts : ∀ w ∈ lw_g, w.before ([.ref (ad o0)] : List Value).toArray s = true := fun w h => atoms_spec (ws := ow_ws yn_R_lastToStay cb_R_lastToStay 4 (some .int)) B.pre w (List.mem_cons_of_mem _ h)
  have hown : s.vm.findClass "BallotDesk$Rules" = some m.cls := findClass_of_methodNamed B.named
  clear B
  have L63 : ∀  (K11 : om_M × Int32 × Int32 → Prop) (hK11 : ∀ (M : om_M) (x1 : Int32) (x2 : Int32) (H : Heap) (locs : List Loc) (ls : Array Slot), K11 (M, x1, x2) → ow_B G D cA ad (ow_A G ad) M s s.heap H locs → lv_has ls 4 [(0, .ref (ad o0)), (1, .int x1), (2, .int x2)] → W p l e rm_R_lastToStay s m ([.ref (ad o0)] : List Value).toArray below meth c H locs 0 0 (MQ below (ow_Qi G D cA ad Q) ([.ref (ad o0)] : List Value).toArray s 0 0 (ow_A G ad)) (F0 m 11 ls [])) (M : om_M) (x1 : Int32) (x2 : Int32)  (H : Heap) (locs : List Loc) (ls : Array Slot), wp_R_lastToStay_63 F o0 Q  K11 M x1 x2  → ow_B G D cA ad (ow_A G ad) M s s.heap H locs → lv_has ls 4 [(0, .ref (ad o0)), (1, .int x1), (2, .int x2)] → W p l e rm_R_lastToStay s m ([.ref (ad o0)] : List Value).toArray below meth c H locs 0 0 (MQ below (ow_Qi G D cA ad Q) ([.ref (ad o0)] : List Value).toArray s 0 0 (ow_A G ad)) (F0 m 63 ls []) := by
    intro  K11 hK11 M x1 x2 H locs ls h hB hl
    refine lv_iinc hx hb dc_R_lastToStay_63 hl (k := 2) rfl rfl (by decide) rfl (fun ls hl => ?_)
    refine lv_goto hx hb dc_R_lastToStay_66 rfl ?_
    exact hK11 _ _ _ _ _ _ h hB (lv_sub hl [1, 2, 0] rfl)
  have B11 : ∀   (K11 : om_M × Int32 × Int32 → Prop) (hK11 : ∀ (M : om_M) (x1 : Int32) (x2 : Int32) (H : Heap) (locs : List Loc) (ls : Array Slot), K11 (M, x1, x2) → ow_B G D cA ad (ow_A G ad) M s s.heap H locs → lv_has ls 4 [(0, .ref (ad o0)), (1, .int x1), (2, .int x2)] → W p l e rm_R_lastToStay s m ([.ref (ad o0)] : List Value).toArray below meth c H locs 0 0 (MQ below (ow_Qi G D cA ad Q) ([.ref (ad o0)] : List Value).toArray s 0 0 (ow_A G ad)) (F0 m 11 ls [])) (M : om_M) (x1 : Int32) (x2 : Int32) (H : Heap) (locs : List Loc) (ls : Array Slot), wp_R_lastToStay_11b F o0 Q   K11 M x1 x2 → ow_B G D cA ad (ow_A G ad) M s s.heap H locs → lv_has ls 4 [(0, .ref (ad o0)), (1, .int x1), (2, .int x2)] → W p l e rm_R_lastToStay s m ([.ref (ad o0)] : List Value).toArray below meth c H locs 0 0 (MQ below (ow_Qi G D cA ad Q) ([.ref (ad o0)] : List Value).toArray s 0 0 (ow_A G ad)) (F0 m 11 ls []) := by
    intro   K11 hK11 M x1 x2 H locs ls h hB hl
    refine lv_iload_n hx hb dc_R_lastToStay_11 rfl (lv_at hl 2 rfl) ?_
    refine lv_aload_n hx hb dc_R_lastToStay_12 rfl (lv_at hl 0 rfl) ?_
    refine ow_get hx hb hts iw_P hown hB k0 rfl 5 (by decide) mw_67 rfl dc_R_lastToStay_13 ?_
    obtain ⟨h1, h2⟩ := h
    refine lv_icmp_ge hx hb dc_R_lastToStay_16 rfl (fun hc => ?_) (fun hc => ?_)
    · have h := h1 hc
      refine lv_iload_n hx hb dc_R_lastToStay_69 rfl (lv_at hl 1 rfl) ?_
      exact ow_iret hx hb hr hlocks hB h dc_R_lastToStay_70
    · have h := h2 hc
      refine lv_aload_n hx hb dc_R_lastToStay_19 rfl (lv_at hl 0 rfl) ?_
      refine ow_get hx hb hts iw_P hown hB k0 rfl 8 (by decide) mw_76 rfl dc_R_lastToStay_20 ?_
      refine lv_iload_n hx hb dc_R_lastToStay_23 rfl (lv_at hl 2 rfl) ?_
      refine ow_calli (va_runS (As := [.int (M.1 o0 8), .int x2]) (rest := []) ⟨hx, hb, hml, hown, hts⟩ (ct_O_at l G hG D cA ad F _ _ _ _ h) ⟨ow_cb 2 hts mw_314 mw_3 mw_586 rfl rfl hd_O_at ⟨Nat.le_of_ble_eq_true rfl, Nat.le_of_ble_eq_true rfl⟩, hts _ mw_313⟩ (ow_preS hB) rfl rfl hl.1 rfl (lv_room (Nat.le_of_ble_eq_true rfl)) dc_R_lastToStay_24 ⟨Nat.zero_le _, Nat.zero_le _⟩) hB (fun r2 M1 H locs h hB => ?_)
      refine lv_istore_n hx hb dc_R_lastToStay_27 rfl hl (by decide) rfl (fun ls hl => ?_)
      refine lv_aload_n hx hb dc_R_lastToStay_28 rfl (lv_at hl 1 rfl) ?_
      refine lv_iload_n hx hb dc_R_lastToStay_29 rfl (lv_at hl 0 rfl) ?_
      refine lv_iload_n hx hb dc_R_lastToStay_30 rfl (lv_at hl 2 rfl) ?_
      refine ow_calli (va_runV (As := [.int r2, .int x1]) (rest := []) ⟨hx, hb, hml, hown, hts⟩ (ct_P_beats l G hG D cA ad F _ k0 _ _ _ _ h) ⟨ow_cb 2 hts mw_526 mw_2 mw_523 rfl rfl hd_P_beats ⟨Nat.le_of_ble_eq_true rfl, Nat.le_of_ble_eq_true rfl⟩, hts _ mw_524, hts _ mw_525⟩ (ow_preV hB k0 rfl) rfl rfl hl.1 rfl (lv_room (Nat.le_of_ble_eq_true rfl)) dc_R_lastToStay_31 ⟨Nat.zero_le _, Nat.zero_le _⟩) hB (fun r4 M3 H locs h hB => ?_)
      obtain ⟨h1, h2⟩ := h
      refine lv_if_eq hx hb dc_R_lastToStay_34 rfl (fun hc => ?_) (fun hc => ?_)
      · have h := h1 hc
        refine lv_aload_n hx hb dc_R_lastToStay_42 rfl (lv_at hl 1 rfl) ?_
        refine lv_iload_n hx hb dc_R_lastToStay_43 rfl (lv_at hl 2 rfl) ?_
        refine lv_iload_n hx hb dc_R_lastToStay_44 rfl (lv_at hl 0 rfl) ?_
        refine ow_calli (va_runV (As := [.int x1, .int r2]) (rest := []) ⟨hx, hb, hml, hown, hts⟩ (ct_P_beats l G hG D cA ad F _ k0 _ _ _ _ h) ⟨ow_cb 2 hts mw_526 mw_2 mw_523 rfl rfl hd_P_beats ⟨Nat.le_of_ble_eq_true rfl, Nat.le_of_ble_eq_true rfl⟩, hts _ mw_524, hts _ mw_525⟩ (ow_preV hB k0 rfl) rfl rfl hl.1 rfl (lv_room (Nat.le_of_ble_eq_true rfl)) dc_R_lastToStay_45 ⟨Nat.zero_le _, Nat.zero_le _⟩) hB (fun r6 M5 H locs h hB => ?_)
        obtain ⟨h1, h2⟩ := h
        refine lv_if_ne hx hb dc_R_lastToStay_48 rfl (fun hc => ?_) (fun hc => ?_)
        · have h := h2 hc
          exact L63 K11 hK11 _ _ _ _ _ _ h hB (lv_sub hl [1, 2, 3] rfl)
        · have h := h1 hc
          refine lv_aload_n hx hb dc_R_lastToStay_51 rfl (lv_at hl 1 rfl) ?_
          refine lv_iconst (v := 1) hx hb dc_R_lastToStay_52 rfl ?_
          refine lv_iload_n hx hb dc_R_lastToStay_53 rfl (lv_at hl 2 rfl) ?_
          refine lv_ishl hx hb dc_R_lastToStay_54 ?_
          refine lv_iconst (v := 1) hx hb dc_R_lastToStay_55 rfl ?_
          refine lv_iload_n hx hb dc_R_lastToStay_56 rfl (lv_at hl 0 rfl) ?_
          refine lv_ishl hx hb dc_R_lastToStay_57 ?_
          refine lv_ior hx hb dc_R_lastToStay_58 ?_
          refine ow_calli (va_runV (As := [.int (((1 : Int32) <<< (x1 &&& 31)) ||| ((1 : Int32) <<< (r2 &&& 31)))]) (rest := []) ⟨hx, hb, hml, hown, hts⟩ (ct_P_firstInTie l G hG D cA ad F _ k0 _ _ _ h) ⟨ow_cb 1 hts mw_311 mw_2 mw_587 rfl rfl hd_P_firstInTie ⟨Nat.le_of_ble_eq_true rfl, Nat.le_of_ble_eq_true rfl⟩, hts _ mw_309, hts _ mw_310⟩ (ow_preV hB k0 rfl) rfl rfl hl.1 rfl (lv_room (Nat.le_of_ble_eq_true rfl)) dc_R_lastToStay_59 ⟨Nat.zero_le _, Nat.zero_le _⟩) hB (fun r8 M7 H locs h hB => ?_)
          refine lv_istore_n hx hb dc_R_lastToStay_62 rfl hl (by decide) rfl (fun ls hl => ?_)
          exact L63 K11 hK11 _ _ _ _ _ _ h hB (lv_sub hl [2, 0, 3] rfl)
      · have h := h2 hc
        refine lv_iload_n hx hb dc_R_lastToStay_37 rfl (lv_at hl 0 rfl) ?_
        refine lv_istore_n hx hb dc_R_lastToStay_38 rfl hl (by decide) rfl (fun ls hl => ?_)
        refine lv_goto hx hb dc_R_lastToStay_39 rfl ?_
        exact L63 K11 hK11 _ _ _ _ _ _ h hB (lv_sub hl [2, 0, 3] rfl)
  have L11 : ∀   (M : om_M) (x1 : Int32) (x2 : Int32) (H : Heap) (locs : List Loc) (ls : Array Slot), wp_R_lastToStay_11 F o0 Q   M x1 x2 → ow_B G D cA ad (ow_A G ad) M s s.heap H locs → lv_has ls 4 [(0, .ref (ad o0)), (1, .int x1), (2, .int x2)] → W p l e rm_R_lastToStay s m ([.ref (ad o0)] : List Value).toArray below meth c H locs 0 0 (MQ below (ow_Qi G D cA ad Q) ([.ref (ad o0)] : List Value).toArray s 0 0 (ow_A G ad)) (F0 m 11 ls []) := by
    have step : ∀ (k : Nat) (M : om_M) (x1 : Int32) (x2 : Int32) (H : Heap) (locs : List Loc) (ls : Array Slot), ow_lp (fun (z : om_M × Int32 × Int32) K => wp_R_lastToStay_11b F o0 Q   K z.1 z.2.1 z.2.2) k (M, x1, x2) → ow_B G D cA ad (ow_A G ad) M s s.heap H locs → lv_has ls 4 [(0, .ref (ad o0)), (1, .int x1), (2, .int x2)] → W p l e rm_R_lastToStay s m ([.ref (ad o0)] : List Value).toArray below meth c H locs 0 0 (MQ below (ow_Qi G D cA ad Q) ([.ref (ad o0)] : List Value).toArray s 0 0 (ow_A G ad)) (F0 m 11 ls []) := by
      intro k
      induction k with
      | zero => intro M x1 x2 H locs ls h hB hl; exact False.elim h
      | succ k ih => intro M x1 x2 H locs ls h hB hl; exact B11   (ow_lp _ k) (fun M x1 x2 H locs ls h hB  hl => ih M x1 x2  H locs ls h hB hl) M x1 x2 H locs ls h hB hl
    intro M x1 x2 H locs ls h hB hl
    exact step F M x1 x2 H locs ls h hB hl
  have hl := lv_entry ([.ref (ad o0)]) (n := 4) (Nat.le_of_ble_eq_true rfl)
  rw [lg_entry_eq]
  generalize (lg_sl ([.ref (ad o0)]) ++ List.replicate (4 - (lg_sl ([.ref (ad o0)])).length) Slot.unset).toArray = ls at hl ⊢
  have hl : lv_has ls 4 [(0, .ref (ad o0))] := hl
  show W p l e rm_R_lastToStay s m _ below meth c s.heap [] 0 0 _ _
  refine lv_aload_n hx hb dc_R_lastToStay_0 rfl (lv_at hl 0 rfl) ?_
  refine ow_get hx hb hts iw_P hown hB k0 rfl 8 (by decide) mw_76 rfl dc_R_lastToStay_1 ?_
  refine lv_iconst (v := 0) hx hb dc_R_lastToStay_4 rfl ?_
  refine ow_calli (va_runS (As := [.int (M.1 o0 8), .int 0]) (rest := []) ⟨hx, hb, hml, hown, hts⟩ (ct_O_at l G hG D cA ad F _ _ _ _ h) ⟨ow_cb 2 hts mw_314 mw_3 mw_586 rfl rfl hd_O_at ⟨Nat.le_of_ble_eq_true rfl, Nat.le_of_ble_eq_true rfl⟩, hts _ mw_313⟩ (ow_preS hB) rfl rfl hl.1 rfl (lv_room (Nat.le_of_ble_eq_true rfl)) dc_R_lastToStay_5 ⟨Nat.zero_le _, Nat.zero_le _⟩) hB (fun r10 M9 H locs h hB => ?_)
  refine lv_istore_n hx hb dc_R_lastToStay_8 rfl hl (by decide) rfl (fun ls hl => ?_)
  refine lv_iconst (v := 1) hx hb dc_R_lastToStay_9 rfl ?_
  refine lv_istore_n hx hb dc_R_lastToStay_10 rfl hl (by decide) rfl (fun ls hl => ?_)
  exact L11 _ _ _ _ _ _ h hB (lv_sub hl [2, 1, 0] rfl)
abbrev rm_R_winnerSet : Room := { frames := 4, cells := 0, slots := 0, locals := 99 }
theorem hd_R_winnerSet : yn_R_winnerSet.cls ≠ "java/lang/invoke/MethodHandle" ∧ yn_R_winnerSet.cls ≠ "java/lang/invoke/VarHandle" ∧ (parseMethodDescriptor yn_R_winnerSet.desc).map (fun d => d.parameters.length) = some 2 := by decide +kernel
set_option maxHeartbeats 4000000 in
set_option maxRecDepth 100000 in
theorem ct_R_winnerSet (l : Launch) (G : List (Nat × Nat)) (hG : ow_lay G) (D : va_G) (cA : Nat → ClassId) (ad : Nat → Nat) (F : Nat) (o0 : Nat) (k0 : ow_kd G o0 = (3, 2)) (o1 : Nat) (k1 : ow_kd G o1 = (3, 1)) (x2 : Int32) (M : om_M) (Q : Int32 → om_M → Prop) (h : wp_R_winnerSet F o0 o1 x2 M Q) : Met l yn_R_winnerSet (ow_ws yn_R_winnerSet cb_R_winnerSet 3 (some .int)) rm_R_winnerSet (ow_Pc G D cA ad M [.ref (ad o0), .ref (ad o1), .int x2]) (ow_Qi G D cA ad Q) 0 0 (ow_A G ad) := by
  refine Met.ofW (cc := cb_R_winnerSet) (maxL := 3) (ret := (some .int)) (by decide) rfl ?_
  intro p e s m args below meth c s₁ B hml hv
  obtain ⟨rfl, hB⟩ := hv
  have hx := B.exec
  have hb := B.bytes
  have hr := B.returns
  have hlocks := B.notSynchronized
  have hts : ∀ w ∈ lw_g, w.before ([.ref (ad o0), .ref (ad o1), .int x2] : List Value).toArray s = true := fun w h => atoms_spec (ws := ow_ws yn_R_winnerSet cb_R_winnerSet 3 (some .int)) B.pre w (List.mem_cons_of_mem _ h)
  have hown : s.vm.findClass "BallotDesk$Rules" = some m.cls := findClass_of_methodNamed B.named
  clear B
  have hl := lv_entry ([.ref (ad o0), .ref (ad o1), .int x2]) (n := 3) (Nat.le_of_ble_eq_true rfl)
  rw [lg_entry_eq]
  generalize (lg_sl ([.ref (ad o0), .ref (ad o1), .int x2]) ++ List.replicate (3 - (lg_sl ([.ref (ad o0), .ref (ad o1), .int x2])).length) Slot.unset).toArray = ls at hl ⊢
  have hl : lv_has ls 3 [(0, .ref (ad o0)), (1, .ref (ad o1)), (2, .int x2)] := hl
  show W p l e rm_R_winnerSet s m _ below meth c s.heap [] 0 0 _ _
  refine lv_iload_n hx hb dc_R_winnerSet_0 rfl (lv_at hl 2 rfl) ?_
  obtain ⟨h1, h2⟩ := h
  by_cases hc3 : x2 = 3
  · have h := h1 hc3
    refine lv_tableIn hx hb dc_R_winnerSet_1 (by rw [hc3]; decide) (by rw [hc3]; decide) (by rw [hc3]; rfl) rfl ?_
    refine lv_aload_n hx hb dc_R_winnerSet_52 rfl (lv_at hl 1 rfl) ?_
    refine ow_calli (va_runS (As := [.ref (ad o1)]) (rest := []) ⟨hx, hb, hml, hown, hts⟩ (ct_R_runoff l G hG D cA ad F _ k1 _ _ h) ⟨ow_cb 1 hts mw_518 mw_6 mw_516 rfl rfl hd_R_runoff ⟨Nat.le_of_ble_eq_true rfl, Nat.le_of_ble_eq_true rfl⟩, hts _ mw_517⟩ (ow_preS hB) rfl rfl hl.1 rfl (lv_room (Nat.le_of_ble_eq_true rfl)) dc_R_winnerSet_53 ⟨Nat.zero_le _, Nat.zero_le _⟩) hB (fun r20 M19 H locs h hB => ?_)
    exact ow_iret hx hb hr hlocks hB h dc_R_winnerSet_56
  · have h := h2 hc3
    obtain ⟨h1, h2⟩ := h
    by_cases hc4 : x2 = 4
    · have h := h1 hc4
      refine lv_tableIn hx hb dc_R_winnerSet_1 (by rw [hc4]; decide) (by rw [hc4]; decide) (by rw [hc4]; rfl) rfl ?_
      refine lv_aload_n hx hb dc_R_winnerSet_57 rfl (lv_at hl 0 rfl) ?_
      refine ow_get hx hb hts iw_R hown hB k0 rfl 0 (by decide) mw_180 rfl dc_R_winnerSet_58 ?_
      refine lv_aload_n hx hb dc_R_winnerSet_61 rfl (lv_at hl 1 rfl) ?_
      refine ow_calli (va_runV (As := [.ref (ad o1)]) (rest := []) ⟨hx, hb, hml, hown, hts⟩ (ct_E_winnerSet l G hG D cA ad F _ (ly_R_elimination hG k0) _ k1 _ _ h) ⟨ow_cb 1 hts mw_530 mw_7 mw_527 rfl rfl hd_E_winnerSet ⟨Nat.le_of_ble_eq_true rfl, Nat.le_of_ble_eq_true rfl⟩, hts _ mw_528, hts _ mw_529⟩ (ow_preV hB (ly_R_elimination hG k0) rfl) rfl rfl hl.1 rfl (lv_room (Nat.le_of_ble_eq_true rfl)) dc_R_winnerSet_62 ⟨Nat.zero_le _, Nat.zero_le _⟩) hB (fun r18 M17 H locs h hB => ?_)
      exact ow_iret hx hb hr hlocks hB h dc_R_winnerSet_65
    · have h := h2 hc4
      obtain ⟨h1, h2⟩ := h
      by_cases hc5 : x2 = 5
      · have h := h1 hc5
        refine lv_tableIn hx hb dc_R_winnerSet_1 (by rw [hc5]; decide) (by rw [hc5]; decide) (by rw [hc5]; rfl) rfl ?_
        refine lv_aload_n hx hb dc_R_winnerSet_106 rfl (lv_at hl 1 rfl) ?_
        refine lv_iload_n hx hb dc_R_winnerSet_107 rfl (lv_at hl 2 rfl) ?_
        refine ow_calli (va_runS (As := [.ref (ad o1), .int x2]) (rest := []) ⟨hx, hb, hml, hown, hts⟩ (ct_C_winnerSet l G hG D cA ad F _ k1 _ _ _ h) ⟨ow_cb 2 hts mw_590 mw_21 mw_588 rfl rfl hd_C_winnerSet ⟨Nat.le_of_ble_eq_true rfl, Nat.le_of_ble_eq_true rfl⟩, hts _ mw_589⟩ (ow_preS hB) rfl rfl hl.1 rfl (lv_room (Nat.le_of_ble_eq_true rfl)) dc_R_winnerSet_108 ⟨Nat.zero_le _, Nat.zero_le _⟩) hB (fun r16 M15 H locs h hB => ?_)
        exact ow_iret hx hb hr hlocks hB h dc_R_winnerSet_111
      · have h := h2 hc5
        obtain ⟨h1, h2⟩ := h
        by_cases hc6 : x2 = 6
        · have h := h1 hc6
          refine lv_tableIn hx hb dc_R_winnerSet_1 (by rw [hc6]; decide) (by rw [hc6]; decide) (by rw [hc6]; rfl) rfl ?_
          refine lv_aload_n hx hb dc_R_winnerSet_106 rfl (lv_at hl 1 rfl) ?_
          refine lv_iload_n hx hb dc_R_winnerSet_107 rfl (lv_at hl 2 rfl) ?_
          refine ow_calli (va_runS (As := [.ref (ad o1), .int x2]) (rest := []) ⟨hx, hb, hml, hown, hts⟩ (ct_C_winnerSet l G hG D cA ad F _ k1 _ _ _ h) ⟨ow_cb 2 hts mw_590 mw_21 mw_588 rfl rfl hd_C_winnerSet ⟨Nat.le_of_ble_eq_true rfl, Nat.le_of_ble_eq_true rfl⟩, hts _ mw_589⟩ (ow_preS hB) rfl rfl hl.1 rfl (lv_room (Nat.le_of_ble_eq_true rfl)) dc_R_winnerSet_108 ⟨Nat.zero_le _, Nat.zero_le _⟩) hB (fun r14 M13 H locs h hB => ?_)
          exact ow_iret hx hb hr hlocks hB h dc_R_winnerSet_111
        · have h := h2 hc6
          obtain ⟨h1, h2⟩ := h
          by_cases hc7 : x2 = 7
          · have h := h1 hc7
            refine lv_tableIn hx hb dc_R_winnerSet_1 (by rw [hc7]; decide) (by rw [hc7]; decide) (by rw [hc7]; rfl) rfl ?_
            refine lv_aload_n hx hb dc_R_winnerSet_66 rfl (lv_at hl 0 rfl) ?_
            refine ow_get hx hb hts iw_R hown hB k0 rfl 1 (by decide) mw_182 rfl dc_R_winnerSet_67 ?_
            refine lv_aload_n hx hb dc_R_winnerSet_70 rfl (lv_at hl 1 rfl) ?_
            refine ow_calli (va_runV (As := [.ref (ad o1)]) (rest := []) ⟨hx, hb, hml, hown, hts⟩ (ct_H_winnerSet l G hG D cA ad F _ (ly_R_paths hG k0) _ k1 _ _ h) ⟨ow_cb 1 hts mw_534 mw_8 mw_531 rfl rfl hd_H_winnerSet ⟨Nat.le_of_ble_eq_true rfl, Nat.le_of_ble_eq_true rfl⟩, hts _ mw_532, hts _ mw_533⟩ (ow_preV hB (ly_R_paths hG k0) rfl) rfl rfl hl.1 rfl (lv_room (Nat.le_of_ble_eq_true rfl)) dc_R_winnerSet_71 ⟨Nat.zero_le _, Nat.zero_le _⟩) hB (fun r12 M11 H locs h hB => ?_)
            exact ow_iret hx hb hr hlocks hB h dc_R_winnerSet_74
          · have h := h2 hc7
            obtain ⟨h1, h2⟩ := h
            by_cases hc8 : x2 = 8
            · have h := h1 hc8
              refine lv_tableIn hx hb dc_R_winnerSet_1 (by rw [hc8]; decide) (by rw [hc8]; decide) (by rw [hc8]; rfl) rfl ?_
              refine lv_aload_n hx hb dc_R_winnerSet_75 rfl (lv_at hl 0 rfl) ?_
              refine ow_get hx hb hts iw_R hown hB k0 rfl 2 (by decide) mw_184 rfl dc_R_winnerSet_76 ?_
              refine lv_aload_n hx hb dc_R_winnerSet_79 rfl (lv_at hl 1 rfl) ?_
              refine ow_calli (va_runV (As := [.ref (ad o1)]) (rest := []) ⟨hx, hb, hml, hown, hts⟩ (ct_K_winnerSet l G hG D cA ad F _ (ly_R_locks hG k0) _ k1 _ _ h) ⟨ow_cb 1 hts mw_552 mw_9 mw_549 rfl rfl hd_K_winnerSet ⟨Nat.le_of_ble_eq_true rfl, Nat.le_of_ble_eq_true rfl⟩, hts _ mw_550, hts _ mw_551⟩ (ow_preV hB (ly_R_locks hG k0) rfl) rfl rfl hl.1 rfl (lv_room (Nat.le_of_ble_eq_true rfl)) dc_R_winnerSet_80 ⟨Nat.zero_le _, Nat.zero_le _⟩) hB (fun r10 M9 H locs h hB => ?_)
              exact ow_iret hx hb hr hlocks hB h dc_R_winnerSet_83
            · have h := h2 hc8
              obtain ⟨h1, h2⟩ := h
              by_cases hc9 : x2 = 9
              · have h := h1 hc9
                refine lv_tableIn hx hb dc_R_winnerSet_1 (by rw [hc9]; decide) (by rw [hc9]; decide) (by rw [hc9]; rfl) rfl ?_
                refine lv_aload_n hx hb dc_R_winnerSet_84 rfl (lv_at hl 0 rfl) ?_
                refine ow_get hx hb hts iw_R hown hB k0 rfl 3 (by decide) mw_185 rfl dc_R_winnerSet_85 ?_
                refine lv_aload_n hx hb dc_R_winnerSet_88 rfl (lv_at hl 1 rfl) ?_
                refine ow_calli (va_runV (As := [.ref (ad o1)]) (rest := []) ⟨hx, hb, hml, hown, hts⟩ (ct_A_winnerSet l G hG D cA ad F _ (ly_R_agreement hG k0) _ k1 _ _ h) ⟨ow_cb 1 hts mw_572 mw_10 mw_569 rfl rfl hd_A_winnerSet ⟨Nat.le_of_ble_eq_true rfl, Nat.le_of_ble_eq_true rfl⟩, hts _ mw_570, hts _ mw_571⟩ (ow_preV hB (ly_R_agreement hG k0) rfl) rfl rfl hl.1 rfl (lv_room (Nat.le_of_ble_eq_true rfl)) dc_R_winnerSet_89 ⟨Nat.zero_le _, Nat.zero_le _⟩) hB (fun r8 M7 H locs h hB => ?_)
                exact ow_iret hx hb hr hlocks hB h dc_R_winnerSet_92
              · have h := h2 hc9
                obtain ⟨h1, h2⟩ := h
                by_cases hc10 : x2 = 10
                · have h := h1 hc10
                  refine lv_tableIn hx hb dc_R_winnerSet_1 (by rw [hc10]; decide) (by rw [hc10]; decide) (by rw [hc10]; rfl) rfl ?_
                  refine lv_aload_n hx hb dc_R_winnerSet_93 rfl (lv_at hl 0 rfl) ?_
                  refine lv_aload_n hx hb dc_R_winnerSet_94 rfl (lv_at hl 1 rfl) ?_
                  refine ow_calli (va_runV (As := [.ref (ad o1)]) (rest := []) ⟨hx, hb, hml, hown, hts⟩ (ct_R_uncovered l G hG D cA ad F _ k0 _ k1 _ _ h) ⟨ow_cb 1 hts mw_576 mw_6 mw_573 rfl rfl hd_R_uncovered ⟨Nat.le_of_ble_eq_true rfl, Nat.le_of_ble_eq_true rfl⟩, hts _ mw_575, hts _ ms_14⟩ (ow_preV hB k0 rfl) rfl rfl hl.1 rfl (lv_room (Nat.le_of_ble_eq_true rfl)) dc_R_winnerSet_95 ⟨Nat.zero_le _, Nat.zero_le _⟩) hB (fun r6 M5 H locs h hB => ?_)
                  exact ow_iret hx hb hr hlocks hB h dc_R_winnerSet_98
                · have h := h2 hc10
                  obtain ⟨h1, h2⟩ := h
                  by_cases hc11 : x2 = 11
                  · have h := h1 hc11
                    refine lv_tableIn hx hb dc_R_winnerSet_1 (by rw [hc11]; decide) (by rw [hc11]; decide) (by rw [hc11]; rfl) rfl ?_
                    refine lv_iconst (v := 1) hx hb dc_R_winnerSet_99 rfl ?_
                    refine lv_aload_n hx hb dc_R_winnerSet_100 rfl (lv_at hl 1 rfl) ?_
                    refine ow_calli (va_runS (As := [.ref (ad o1)]) (rest := [.int 1]) ⟨hx, hb, hml, hown, hts⟩ (ct_R_lastToStay l G hG D cA ad F _ k1 _ _ h) ⟨ow_cb 1 hts mw_585 mw_6 mw_583 rfl rfl hd_R_lastToStay ⟨Nat.le_of_ble_eq_true rfl, Nat.le_of_ble_eq_true rfl⟩, hts _ mw_584⟩ (ow_preS hB) rfl rfl hl.1 rfl (lv_room (Nat.le_of_ble_eq_true rfl)) dc_R_winnerSet_101 ⟨Nat.zero_le _, Nat.zero_le _⟩) hB (fun r4 M3 H locs h hB => ?_)
                    refine lv_ishl hx hb dc_R_winnerSet_104 ?_
                    exact ow_iret hx hb hr hlocks hB h dc_R_winnerSet_105
                  · have h := h2 hc11
                    refine lv_tableOut hx hb dc_R_winnerSet_1 (by have a3 := lv_neT hc3 (a := 3) rfl; have a4 := lv_neT hc4 (a := 4) rfl; have a5 := lv_neT hc5 (a := 5) rfl; have a6 := lv_neT hc6 (a := 6) rfl; have a7 := lv_neT hc7 (a := 7) rfl; have a8 := lv_neT hc8 (a := 8) rfl; have a9 := lv_neT hc9 (a := 9) rfl; have a10 := lv_neT hc10 (a := 10) rfl; have a11 := lv_neT hc11 (a := 11) rfl; omega) rfl ?_
                    refine lv_aload_n hx hb dc_R_winnerSet_106 rfl (lv_at hl 1 rfl) ?_
                    refine lv_iload_n hx hb dc_R_winnerSet_107 rfl (lv_at hl 2 rfl) ?_
                    refine ow_calli (va_runS (As := [.ref (ad o1), .int x2]) (rest := []) ⟨hx, hb, hml, hown, hts⟩ (ct_C_winnerSet l G hG D cA ad F _ k1 _ _ _ h) ⟨ow_cb 2 hts mw_590 mw_21 mw_588 rfl rfl hd_C_winnerSet ⟨Nat.le_of_ble_eq_true rfl, Nat.le_of_ble_eq_true rfl⟩, hts _ mw_589⟩ (ow_preS hB) rfl rfl hl.1 rfl (lv_room (Nat.le_of_ble_eq_true rfl)) dc_R_winnerSet_108 ⟨Nat.zero_le _, Nat.zero_le _⟩) hB (fun r2 M1 H locs h hB => ?_)
                    exact ow_iret hx hb hr hlocks hB h dc_R_winnerSet_111
abbrev rm_R_theWinner : Room := { frames := 5, cells := 0, slots := 0, locals := 121 }
theorem hd_R_theWinner : yn_R_theWinner.cls ≠ "java/lang/invoke/MethodHandle" ∧ yn_R_theWinner.cls ≠ "java/lang/invoke/VarHandle" ∧ (parseMethodDescriptor yn_R_theWinner.desc).map (fun d => d.parameters.length) = some 2 := by decide +kernel
set_option maxHeartbeats 4000000 in
set_option maxRecDepth 100000 in
theorem ct_R_theWinner (l : Launch) (G : List (Nat × Nat)) (hG : ow_lay G) (D : va_G) (cA : Nat → ClassId) (ad : Nat → Nat) (F : Nat) (o0 : Nat) (k0 : ow_kd G o0 = (3, 2)) (o1 : Nat) (k1 : ow_kd G o1 = (3, 1)) (x2 : Int32) (M : om_M) (Q : Int32 → om_M → Prop) (h : wp_R_theWinner F o0 o1 x2 M Q) : Met l yn_R_theWinner (ow_ws yn_R_theWinner cb_R_theWinner 3 (some .int)) rm_R_theWinner (ow_Pc G D cA ad M [.ref (ad o0), .ref (ad o1), .int x2]) (ow_Qi G D cA ad Q) 0 0 (ow_A G ad) := by
  refine Met.ofW (cc := cb_R_theWinner) (maxL := 3) (ret := (some .int)) (by decide) rfl ?_
  intro p e s m args below meth c s₁ B hml hv
  obtain ⟨rfl, hB⟩ := hv
  have hx := B.exec
  have hb := B.bytes
  have hr := B.returns
  have hlocks := B.notSynchronized
  have hts : ∀ w ∈ lw_g, w.before ([.ref (ad o0), .ref (ad o1), .int x2] : List Value).toArray s = true := fun w h => atoms_spec (ws := ow_ws yn_R_theWinner cb_R_theWinner 3 (some .int)) B.pre w (List.mem_cons_of_mem _ h)
  have hown : s.vm.findClass "BallotDesk$Rules" = some m.cls := findClass_of_methodNamed B.named
  clear B
  have hl := lv_entry ([.ref (ad o0), .ref (ad o1), .int x2]) (n := 3) (Nat.le_of_ble_eq_true rfl)
  rw [lg_entry_eq]
  generalize (lg_sl ([.ref (ad o0), .ref (ad o1), .int x2]) ++ List.replicate (3 - (lg_sl ([.ref (ad o0), .ref (ad o1), .int x2])).length) Slot.unset).toArray = ls at hl ⊢
  have hl : lv_has ls 3 [(0, .ref (ad o0)), (1, .ref (ad o1)), (2, .int x2)] := hl
  show W p l e rm_R_theWinner s m _ below meth c s.heap [] 0 0 _ _
  refine lv_aload_n hx hb dc_R_theWinner_0 rfl (lv_at hl 1 rfl) ?_
  refine lv_aload_n hx hb dc_R_theWinner_1 rfl (lv_at hl 0 rfl) ?_
  refine lv_aload_n hx hb dc_R_theWinner_2 rfl (lv_at hl 1 rfl) ?_
  refine lv_iload_n hx hb dc_R_theWinner_3 rfl (lv_at hl 2 rfl) ?_
  refine ow_calli (va_runV (As := [.ref (ad o1), .int x2]) (rest := [.ref (ad o1)]) ⟨hx, hb, hml, hown, hts⟩ (ct_R_winnerSet l G hG D cA ad F _ k0 _ k1 _ _ _ h) ⟨ow_cb 2 hts mw_515 mw_6 mw_616 rfl rfl hd_R_winnerSet ⟨Nat.le_of_ble_eq_true rfl, Nat.le_of_ble_eq_true rfl⟩, hts _ mw_513, hts _ mw_514⟩ (ow_preV hB k0 rfl) rfl rfl hl.1 rfl (lv_room (Nat.le_of_ble_eq_true rfl)) dc_R_theWinner_4 ⟨Nat.zero_le _, Nat.zero_le _⟩) hB (fun r2 M1 H locs h hB => ?_)
  refine ow_calli (va_runV (As := [.int r2]) (rest := []) ⟨hx, hb, hml, hown, hts⟩ (ct_P_firstInTie l G hG D cA ad F _ k1 _ _ _ h) ⟨ow_cb 1 hts mw_311 mw_2 mw_587 rfl rfl hd_P_firstInTie ⟨Nat.le_of_ble_eq_true rfl, Nat.le_of_ble_eq_true rfl⟩, hts _ mw_309, hts _ mw_310⟩ (ow_preV hB k1 rfl) rfl rfl hl.1 rfl (lv_room (Nat.le_of_ble_eq_true rfl)) dc_R_theWinner_7 ⟨Nat.zero_le _, Nat.zero_le _⟩) hB (fun r4 M3 H locs h hB => ?_)
  exact ow_iret hx hb hr hlocks hB h dc_R_theWinner_10
