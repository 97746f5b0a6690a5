def wp_P_tally_72 (F : Nat) (o0 : Nat) (x1 : Int32) (x2 : Int32) (Q : om_M → Prop)  (K2 : om_M × Int32 → Prop) (M : om_M) (x3 : Int32)  : Prop := K2 (M, x3 + 1)
def wp_P_tally_44b (F : Nat) (o0 : Nat) (x1 : Int32) (x2 : Int32) (Q : om_M → Prop) (x3 : Int32) (o5 : Nat) (K2 : om_M × Int32 → Prop) (K44 : om_M × Int32 → Prop) (M : om_M) (x6 : Int32) : Prop := (((M.1 o0 5) ≤ x6 → wp_P_tally_72 F o0 x1 x2 Q K2 M x3) ∧ (¬ (M.1 o0 5) ≤ x6 → wp_O_at F x1 x6 M (fun r2 M1 => vp_in r2 7 ∧ K44 (om_up M1 o5 r2.toNatClampNeg ((M1.1 o5 r2.toNatClampNeg) + x2), x6 + 1))))
def wp_P_tally_44 (F : Nat) (o0 : Nat) (x1 : Int32) (x2 : Int32) (Q : om_M → Prop) (x3 : Int32) (o5 : Nat) (K2 : om_M × Int32 → Prop) (M : om_M) (x6 : Int32) : Prop := ow_lp (fun (z : om_M × Int32) K => wp_P_tally_44b F o0 x1 x2 Q x3 o5 K2 K z.1 z.2) F (M, x6)
def wp_P_tally_2b (F : Nat) (o0 : Nat) (x1 : Int32) (x2 : Int32) (Q : om_M → Prop)   (K2 : om_M × Int32 → Prop) (M : om_M) (x3 : Int32) : Prop := (((M.1 o0 5) ≤ x3 → Q M) ∧ (¬ (M.1 o0 5) ≤ x3 → wp_O_at F x1 x3 M (fun r5 M4 => vp_in r5 7 ∧ vp_in x3 7 ∧ wp_P_tally_44 F o0 x1 x2 Q x3 (o0 + 12 + 1 + r5.toNatClampNeg) K2 (om_up M4 (o0 + 4 + 1 + r5.toNatClampNeg) x3.toNatClampNeg ((M4.1 (o0 + 4 + 1 + r5.toNatClampNeg) x3.toNatClampNeg) + x2)) (x3 + 1))))
def wp_P_tally_2 (F : Nat) (o0 : Nat) (x1 : Int32) (x2 : Int32) (Q : om_M → Prop)   (M : om_M) (x3 : Int32) : Prop := ow_lp (fun (z : om_M × Int32) K => wp_P_tally_2b F o0 x1 x2 Q   K z.1 z.2) F (M, x3)
def wp_P_tally (F : Nat) (o0 : Nat) (x1 : Int32) (x2 : Int32) (M : om_M) (Q : om_M → Prop) : Prop := wp_P_tally_2 F o0 x1 x2 Q M 0
def wp_P_empty_7b (F : Nat) (o0 : Nat) (Q : om_M → Prop)   (K7 : om_M × Int32 → Prop) (M : om_M) (x1 : Int32) : Prop := ((7 ≤ x1 → Q M) ∧ (¬ 7 ≤ x1 → vp_in x1 7 ∧ wp_JA_fill F (o0 + 4 + 1 + x1.toNatClampNeg) 7 0 M (fun M2 => wp_JA_fill F (o0 + 12 + 1 + x1.toNatClampNeg) 7 0 M2 (fun M3 => K7 (M3, x1 + 1)))))
def wp_P_empty_7 (F : Nat) (o0 : Nat) (Q : om_M → Prop)   (M : om_M) (x1 : Int32) : Prop := ow_lp (fun (z : om_M × Int32) K => wp_P_empty_7b F o0 Q   K z.1 z.2) F (M, x1)
def wp_P_empty (F : Nat) (o0 : Nat) (M : om_M) (Q : om_M → Prop) : Prop := wp_P_empty_7 F o0 Q (om_up M o0 6 0) 0
def wp_P_open_54 (F : Nat) (o0 : Nat) (x1 : Int32) (Q : om_M → Prop)   (M : om_M)   : Prop := wp_P_empty F o0 M (fun M1 => Q M1)
def wp_P_open_26b (F : Nat) (o0 : Nat) (x1 : Int32) (Q : om_M → Prop)   (K26 : om_M × Int32 → Prop) (M : om_M) (x2 : Int32) : Prop := (((M.1 o0 5) ≤ x2 → wp_P_open_54 F o0 x1 Q M) ∧ (¬ (M.1 o0 5) ≤ x2 → vp_in x2 7 ∧ K26 (om_up M (o0 + 3) x2.toNatClampNeg (((M.1 o0 5) - 1) - x2), x2 + 1)))
def wp_P_open_26 (F : Nat) (o0 : Nat) (x1 : Int32) (Q : om_M → Prop)   (M : om_M) (x2 : Int32) : Prop := ow_lp (fun (z : om_M × Int32) K => wp_P_open_26b F o0 x1 Q   K z.1 z.2) F (M, x2)
def wp_P_open (F : Nat) (o0 : Nat) (x1 : Int32) (M : om_M) (Q : om_M → Prop) : Prop := wp_O_ascending F ((om_up M o0 5 x1).1 o0 5) (om_up M o0 5 x1) (fun r4 M3 => wp_P_open_26 F o0 x1 Q (om_up (om_up M3 o0 7 r4) o0 8 ((om_up M3 o0 7 r4).1 o0 7)) 0)
def wp_P_append (F : Nat) (o0 : Nat) (x1 : Int32) (x2 : Int32) (M : om_M) (Q : Int32 → om_M → Prop) : Prop := ((21 ≤ (M.1 o0 6) → Q (M.1 o0 6) M) ∧ (¬ 21 ≤ (M.1 o0 6) → vp_in (M.1 o0 6) 21 ∧ wp_P_tally F o0 x1 x2 (om_up (om_up (om_up M (o0 + 1) (M.1 o0 6).toNatClampNeg x1) (o0 + 2) (M.1 o0 6).toNatClampNeg x2) o0 6 (((om_up (om_up M (o0 + 1) (M.1 o0 6).toNatClampNeg x1) (o0 + 2) (M.1 o0 6).toNatClampNeg x2).1 o0 6) + 1)) (fun M2 => Q (M.1 o0 6) M2)))
def wp_P_copy_47b (F : Nat) (o0 : Nat) (o1 : Nat) (Q : om_M → Prop)   (K47 : om_M × Int32 → Prop) (M : om_M) (x2 : Int32) : Prop := (((M.1 o1 6) ≤ x2 → Q M) ∧ (¬ (M.1 o1 6) ≤ x2 → vp_in x2 21 ∧ wp_P_append F o0 (M.1 (o1 + 1) x2.toNatClampNeg) (M.1 (o1 + 2) x2.toNatClampNeg) M (fun r3 M2 => K47 (M2, x2 + 1))))
def wp_P_copy_47 (F : Nat) (o0 : Nat) (o1 : Nat) (Q : om_M → Prop)   (M : om_M) (x2 : Int32) : Prop := ow_lp (fun (z : om_M × Int32) K => wp_P_copy_47b F o0 o1 Q   K z.1 z.2) F (M, x2)
def wp_P_copy (F : Nat) (o0 : Nat) (o1 : Nat) (M : om_M) (Q : om_M → Prop) : Prop := ow_cpok 0 0 ((om_up (om_up (om_up M o0 5 (M.1 o1 5)) o0 7 ((om_up M o0 5 (M.1 o1 5)).1 o1 7)) o0 8 ((om_up (om_up M o0 5 (M.1 o1 5)) o0 7 ((om_up M o0 5 (M.1 o1 5)).1 o1 7)).1 o1 8)).1 o0 5) 7 7 ∧ wp_P_empty F o0 (ow_cpy (om_up (om_up (om_up M o0 5 (M.1 o1 5)) o0 7 ((om_up M o0 5 (M.1 o1 5)).1 o1 7)) o0 8 ((om_up (om_up M o0 5 (M.1 o1 5)) o0 7 ((om_up M o0 5 (M.1 o1 5)).1 o1 7)).1 o1 8)) (o1 + 3) 0 (o0 + 3) 0 ((om_up (om_up (om_up M o0 5 (M.1 o1 5)) o0 7 ((om_up M o0 5 (M.1 o1 5)).1 o1 7)) o0 8 ((om_up (om_up M o0 5 (M.1 o1 5)) o0 7 ((om_up M o0 5 (M.1 o1 5)).1 o1 7)).1 o1 8)).1 o0 5)) (fun M4 => wp_P_copy_47 F o0 o1 Q M4 0)
def wp_P_copyWithout_65b (F : Nat) (o0 : Nat) (o1 : Nat) (x2 : Int32) (Q : om_M → Prop)   (K65 : om_M × Int32 → Prop) (M : om_M) (x3 : Int32) : Prop := (((M.1 o1 6) ≤ x3 → Q M) ∧ (¬ (M.1 o1 6) ≤ x3 → vp_in x3 21 ∧ wp_O_without F (M.1 (o1 + 1) x3.toNatClampNeg) x2 (M.1 o1 5) M (fun r3 M2 => wp_P_append F o0 r3 (M2.1 (o1 + 2) x3.toNatClampNeg) M2 (fun r5 M4 => K65 (M4, x3 + 1)))))
def wp_P_copyWithout_65 (F : Nat) (o0 : Nat) (o1 : Nat) (x2 : Int32) (Q : om_M → Prop)   (M : om_M) (x3 : Int32) : Prop := ow_lp (fun (z : om_M × Int32) K => wp_P_copyWithout_65b F o0 o1 x2 Q   K z.1 z.2) F (M, x3)
def wp_P_copyWithout (F : Nat) (o0 : Nat) (o1 : Nat) (x2 : Int32) (M : om_M) (Q : om_M → Prop) : Prop := wp_O_without F ((om_up M o0 5 ((M.1 o1 5) - 1)).1 o1 7) x2 ((om_up M o0 5 ((M.1 o1 5) - 1)).1 o1 5) (om_up M o0 5 ((M.1 o1 5) - 1)) (fun r7 M6 => wp_O_without F ((om_up M6 o0 7 r7).1 o1 8) x2 ((om_up M6 o0 7 r7).1 o1 5) (om_up M6 o0 7 r7) (fun r9 M8 => ow_cpok 0 0 ((om_up M8 o0 8 r9).1 o0 5) 7 7 ∧ wp_P_empty F o0 (ow_cpy (om_up M8 o0 8 r9) (o1 + 3) 0 (o0 + 3) 0 ((om_up M8 o0 8 r9).1 o0 5)) (fun M10 => wp_P_copyWithout_65 F o0 o1 x2 Q M10 0)))
def wp_P_replace (F : Nat) (o0 : Nat) (x1 : Int32) (x2 : Int32) (x3 : Int32) (M : om_M) (Q : om_M → Prop) : Prop := vp_in x1 21 ∧ wp_P_tally F o0 (M.1 (o0 + 1) x1.toNatClampNeg) (-(M.1 (o0 + 2) x1.toNatClampNeg)) M (fun M2 => wp_P_tally F o0 x2 x3 (om_up (om_up M2 (o0 + 1) x1.toNatClampNeg x2) (o0 + 2) x1.toNatClampNeg x3) (fun M3 => Q M3))
def wp_P_remove_29b (F : Nat) (o0 : Nat) (x1 : Int32) (Q : om_M → Prop)   (K29 : om_M × Int32 → Prop) (M : om_M) (x2 : Int32) : Prop := (((M.1 o0 6) ≤ x2 → Q M) ∧ (¬ (M.1 o0 6) ≤ x2 → vp_in (x2 + 1) 21 ∧ vp_in x2 21 ∧ K29 (om_up (om_up M (o0 + 1) x2.toNatClampNeg (M.1 (o0 + 1) (x2 + 1).toNatClampNeg)) (o0 + 2) x2.toNatClampNeg ((om_up M (o0 + 1) x2.toNatClampNeg (M.1 (o0 + 1) (x2 + 1).toNatClampNeg)).1 (o0 + 2) (x2 + 1).toNatClampNeg), x2 + 1)))
def wp_P_remove_29 (F : Nat) (o0 : Nat) (x1 : Int32) (Q : om_M → Prop)   (M : om_M) (x2 : Int32) : Prop := ow_lp (fun (z : om_M × Int32) K => wp_P_remove_29b F o0 x1 Q   K z.1 z.2) F (M, x2)
def wp_P_remove (F : Nat) (o0 : Nat) (x1 : Int32) (M : om_M) (Q : om_M → Prop) : Prop := vp_in x1 21 ∧ wp_P_tally F o0 (M.1 (o0 + 1) x1.toNatClampNeg) (-(M.1 (o0 + 2) x1.toNatClampNeg)) M (fun M4 => wp_P_remove_29 F o0 x1 Q (om_up M4 o0 6 ((M4.1 o0 6) - 1)) x1)
def wp_P_beats (F : Nat) (o0 : Nat) (x1 : Int32) (x2 : Int32) (M : om_M) (Q : Int32 → om_M → Prop) : Prop := vp_in x1 7 ∧ vp_in x2 7 ∧ (((M.1 (o0 + 12 + 1 + x1.toNatClampNeg) x2.toNatClampNeg) ≤ (M.1 (o0 + 12 + 1 + x2.toNatClampNeg) x1.toNatClampNeg) → Q 0 M) ∧ (¬ (M.1 (o0 + 12 + 1 + x1.toNatClampNeg) x2.toNatClampNeg) ≤ (M.1 (o0 + 12 + 1 + x2.toNatClampNeg) x1.toNatClampNeg) → Q 1 M))
def wp_P_beatenBy_27 (F : Nat) (o0 : Nat) (x1 : Int32) (Q : Int32 → om_M → Prop)  (K4 : om_M × Int32 × Int32 → Prop) (M : om_M) (x2 : Int32) (x3 : Int32)  : Prop := K4 (M, x2, x3 + 1)
def wp_P_beatenBy_4b (F : Nat) (o0 : Nat) (x1 : Int32) (Q : Int32 → om_M → Prop)   (K4 : om_M × Int32 × Int32 → Prop) (M : om_M) (x2 : Int32) (x3 : Int32) : Prop := (((M.1 o0 5) ≤ x3 → Q x2 M) ∧ (¬ (M.1 o0 5) ≤ x3 → wp_P_beats F o0 x1 x3 M (fun r2 M1 => ((r2 = 0 → wp_P_beatenBy_27 F o0 x1 Q K4 M1 x2 x3) ∧ (¬ r2 = 0 → wp_P_beatenBy_27 F o0 x1 Q K4 M1 (x2 ||| ((1 : Int32) <<< (x3 &&& 31))) x3)))))
def wp_P_beatenBy_4 (F : Nat) (o0 : Nat) (x1 : Int32) (Q : Int32 → om_M → Prop)   (M : om_M) (x2 : Int32) (x3 : Int32) : Prop := ow_lp (fun (z : om_M × Int32 × Int32) K => wp_P_beatenBy_4b F o0 x1 Q   K z.1 z.2.1 z.2.2) F (M, x2, x3)
def wp_P_beatenBy (F : Nat) (o0 : Nat) (x1 : Int32) (M : om_M) (Q : Int32 → om_M → Prop) : Prop := wp_P_beatenBy_4 F o0 x1 Q M 0 0
def wp_P_everyone (F : Nat) (o0 : Nat) (M : om_M) (Q : Int32 → om_M → Prop) : Prop := Q (((1 : Int32) <<< ((M.1 o0 5) &&& 31)) - 1) M
def wp_P_allVoters_4b (F : Nat) (o0 : Nat) (Q : Int32 → om_M → Prop)   (K4 : om_M × Int32 × Int32 → Prop) (M : om_M) (x1 : Int32) (x2 : Int32) : Prop := (((M.1 o0 6) ≤ x2 → Q x1 M) ∧ (¬ (M.1 o0 6) ≤ x2 → vp_in x2 21 ∧ K4 (M, x1 + (M.1 (o0 + 2) x2.toNatClampNeg), x2 + 1)))
def wp_P_allVoters_4 (F : Nat) (o0 : Nat) (Q : Int32 → om_M → Prop)   (M : om_M) (x1 : Int32) (x2 : Int32) : Prop := ow_lp (fun (z : om_M × Int32 × Int32) K => wp_P_allVoters_4b F o0 Q   K z.1 z.2.1 z.2.2) F (M, x1, x2)
def wp_P_allVoters (F : Nat) (o0 : Nat) (M : om_M) (Q : Int32 → om_M → Prop) : Prop := wp_P_allVoters_4 F o0 Q M 0 0
abbrev rm_P_tally : Room := { frames := 1, cells := 0, slots := 0, locals := 21 }
theorem hd_P_tally : yn_P_tally.cls ≠ "java/lang/invoke/MethodHandle" ∧ yn_P_tally.cls ≠ "java/lang/invoke/VarHandle" ∧ (parseMethodDescriptor yn_P_tally.desc).map (fun d => d.parameters.length) = some 2 := by decide +kernel
set_option maxHeartbeats 4000000 in
set_option maxRecDepth 100000 in
theorem ct_P_tally (l : Launch) (G : List (Nat × Nat)) (hG : ow_lay G) (D : va_G) (cA : Nat → ClassId) (ad : Nat → Nat) (F : Nat) (o0 : Nat) (k0 : ow_kd G o0 = (3, 1)) (x1 : Int32) (x2 : Int32) (M : om_M) (Q : om_M → Prop) (h : wp_P_tally F o0 x1 x2 M Q) : Met l yn_P_tally (ow_ws yn_P_tally cb_P_tally 7 none) rm_P_tally (ow_Pc G D cA ad M [.ref (ad o0), .int x1, .int x2]) (ow_Qv G D cA ad Q) 0 0 (ow_A G ad) := by
  refine Met.ofW (cc := cb_P_tally) (maxL := 7) (ret := none) (by decide) rfl ?_
  intro p e s m args below meth c s₁ B hml hv
  obtain ⟨rfl, hB⟩ := hv
  have hx := B.exec
  have hb := B.bytes
  have hr := B.returns
  have hlocks := B.notSynchronized
  have hts : ∀ w ∈ lw_g, w.before ([.ref (ad o0), .int x1, .int x2] : List Value).toArray s = true := fun w h => atoms_spec (ws := ow_ws yn_P_tally cb_P_tally 7 none) B.pre w (List.mem_cons_of_mem _ h)
  have hown : s.vm.findClass "BallotDesk$Poll" = some m.cls := findClass_of_methodNamed B.named
  clear B
  have L72 : ∀  (K2 : om_M × Int32 → Prop) (hK2 : ∀ (M : om_M) (x3 : Int32) (H : Heap) (locs : List Loc) (ls : Array Slot), K2 (M, x3) → ow_B G D cA ad (ow_A G ad) M s s.heap H locs → lv_has ls 7 [(0, .ref (ad o0)), (1, .int x1), (2, .int x2), (3, .int x3)] → W p l e rm_P_tally s m ([.ref (ad o0), .int x1, .int x2] : List Value).toArray below meth c H locs 0 0 (MQ below (ow_Qv G D cA ad Q) ([.ref (ad o0), .int x1, .int x2] : List Value).toArray s 0 0 (ow_A G ad)) (F0 m 2 ls [])) (M : om_M) (x3 : Int32)  (H : Heap) (locs : List Loc) (ls : Array Slot), wp_P_tally_72 F o0 x1 x2 Q  K2 M x3  → ow_B G D cA ad (ow_A G ad) M s s.heap H locs → lv_has ls 7 [(0, .ref (ad o0)), (1, .int x1), (2, .int x2), (3, .int x3)] → W p l e rm_P_tally s m ([.ref (ad o0), .int x1, .int x2] : List Value).toArray below meth c H locs 0 0 (MQ below (ow_Qv G D cA ad Q) ([.ref (ad o0), .int x1, .int x2] : List Value).toArray s 0 0 (ow_A G ad)) (F0 m 72 ls []) := by
    intro  K2 hK2 M x3 H locs ls h hB hl
    refine lv_iinc hx hb dc_P_tally_72 hl (k := 3) rfl rfl (by decide) rfl (fun ls hl => ?_)
    refine lv_goto hx hb dc_P_tally_75 rfl ?_
    exact hK2 _ _ _ _ _ h hB (lv_sub hl [1, 2, 3, 0] rfl)
  have B44 : ∀ (x3 : Int32) (o5 : Nat) (k5 : ow_kd G o5 = (0, 7)) (K2 : om_M × Int32 → Prop) (hK2 : ∀ (M : om_M) (x3 : Int32) (H : Heap) (locs : List Loc) (ls : Array Slot), K2 (M, x3) → ow_B G D cA ad (ow_A G ad) M s s.heap H locs → lv_has ls 7 [(0, .ref (ad o0)), (1, .int x1), (2, .int x2), (3, .int x3)] → W p l e rm_P_tally s m ([.ref (ad o0), .int x1, .int x2] : List Value).toArray below meth c H locs 0 0 (MQ below (ow_Qv G D cA ad Q) ([.ref (ad o0), .int x1, .int x2] : List Value).toArray s 0 0 (ow_A G ad)) (F0 m 2 ls [])) (K44 : om_M × Int32 → Prop) (hK44 : ∀ (M : om_M) (x6 : Int32) (H : Heap) (locs : List Loc) (ls : Array Slot), K44 (M, x6) → ow_B G D cA ad (ow_A G ad) M s s.heap H locs → lv_has ls 7 [(0, .ref (ad o0)), (1, .int x1), (2, .int x2), (3, .int x3), (5, .ref (ad o5)), (6, .int x6)] → W p l e rm_P_tally s m ([.ref (ad o0), .int x1, .int x2] : List Value).toArray below meth c H locs 0 0 (MQ below (ow_Qv G D cA ad Q) ([.ref (ad o0), .int x1, .int x2] : List Value).toArray s 0 0 (ow_A G ad)) (F0 m 44 ls [])) (M : om_M) (x6 : Int32) (H : Heap) (locs : List Loc) (ls : Array Slot), wp_P_tally_44b F o0 x1 x2 Q x3 o5 K2 K44 M x6 → ow_B G D cA ad (ow_A G ad) M s s.heap H locs → lv_has ls 7 [(0, .ref (ad o0)), (1, .int x1), (2, .int x2), (3, .int x3), (5, .ref (ad o5)), (6, .int x6)] → W p l e rm_P_tally s m ([.ref (ad o0), .int x1, .int x2] : List Value).toArray below meth c H locs 0 0 (MQ below (ow_Qv G D cA ad Q) ([.ref (ad o0), .int x1, .int x2] : List Value).toArray s 0 0 (ow_A G ad)) (F0 m 44 ls []) := by
    intro x3 o5 k5 K2 hK2 K44 hK44 M x6 H locs ls h hB hl
    refine lv_iload hx hb dc_P_tally_44 (lv_at hl 5 rfl) ?_
    refine lv_aload_n hx hb dc_P_tally_46 rfl (lv_at hl 0 rfl) ?_
    refine ow_get hx hb hts iw_P hown hB k0 rfl 5 (by decide) mw_59 rfl dc_P_tally_47 ?_
    obtain ⟨h1, h2⟩ := h
    refine lv_icmp_ge hx hb dc_P_tally_50 rfl (fun hc => ?_) (fun hc => ?_)
    · have h := h1 hc
      exact L72 K2 hK2 _ _ _ _ _ h hB (lv_sub hl [0, 1, 2, 3] rfl)
    · have h := h2 hc
      refine lv_aload hx hb dc_P_tally_53 (lv_at hl 4 rfl) ?_
      refine lv_iload_n hx hb dc_P_tally_55 rfl (lv_at hl 1 rfl) ?_
      refine lv_iload hx hb dc_P_tally_56 (lv_at hl 5 rfl) ?_
      refine ow_calli (va_runS (As := [.int x1, .int x6]) (rest := [.ref (ad o5)]) ⟨hx, hb, hml, hown, hts⟩ (ct_O_at l G hG D cA ad F _ _ _ _ h) ⟨ow_cb 2 hts mw_314 mw_3 mw_312 rfl rfl hd_O_at ⟨Nat.le_of_ble_eq_true rfl, Nat.le_of_ble_eq_true rfl⟩, hts _ mw_313⟩ (ow_preS hB) rfl rfl hl.1 rfl (lv_room (Nat.le_of_ble_eq_true rfl)) dc_P_tally_58 ⟨Nat.zero_le _, Nat.zero_le _⟩) hB (fun r2 M1 H locs h hB => ?_)
      refine lv_dup2_11 hx hb dc_P_tally_61 rfl rfl ?_
      obtain ⟨hi3, h⟩ := h
      refine ow_iald hx hb hB k5 hi3 dc_P_tally_62 ?_
      refine lv_iload_n hx hb dc_P_tally_63 rfl (lv_at hl 2 rfl) ?_
      refine lv_iadd hx hb dc_P_tally_64 ?_
      refine ow_iast hx hb hB k5 hi3 dc_P_tally_65 (fun H locs hB => ?_)
      refine lv_iinc hx hb dc_P_tally_66 hl (k := 5) rfl rfl (by decide) rfl (fun ls hl => ?_)
      refine lv_goto hx hb dc_P_tally_69 rfl ?_
      exact hK44 _ _ _ _ _ h hB (lv_sub hl [1, 2, 3, 4, 5, 0] rfl)
  have L44 : ∀ (x3 : Int32) (o5 : Nat) (k5 : ow_kd G o5 = (0, 7)) (K2 : om_M × Int32 → Prop) (hK2 : ∀ (M : om_M) (x3 : Int32) (H : Heap) (locs : List Loc) (ls : Array Slot), K2 (M, x3) → ow_B G D cA ad (ow_A G ad) M s s.heap H locs → lv_has ls 7 [(0, .ref (ad o0)), (1, .int x1), (2, .int x2), (3, .int x3)] → W p l e rm_P_tally s m ([.ref (ad o0), .int x1, .int x2] : List Value).toArray below meth c H locs 0 0 (MQ below (ow_Qv G D cA ad Q) ([.ref (ad o0), .int x1, .int x2] : List Value).toArray s 0 0 (ow_A G ad)) (F0 m 2 ls [])) (M : om_M) (x6 : Int32) (H : Heap) (locs : List Loc) (ls : Array Slot), wp_P_tally_44 F o0 x1 x2 Q x3 o5 K2 M x6 → ow_B G D cA ad (ow_A G ad) M s s.heap H locs → lv_has ls 7 [(0, .ref (ad o0)), (1, .int x1), (2, .int x2), (3, .int x3), (5, .ref (ad o5)), (6, .int x6)] → W p l e rm_P_tally s m ([.ref (ad o0), .int x1, .int x2] : List Value).toArray below meth c H locs 0 0 (MQ below (ow_Qv G D cA ad Q) ([.ref (ad o0), .int x1, .int x2] : List Value).toArray s 0 0 (ow_A G ad)) (F0 m 44 ls []) := by
    intro x3 o5 k5 K2 hK2
    have step : ∀ (k : Nat) (M : om_M) (x6 : Int32) (H : Heap) (locs : List Loc) (ls : Array Slot), ow_lp (fun (z : om_M × Int32) K => wp_P_tally_44b F o0 x1 x2 Q x3 o5 K2 K z.1 z.2) k (M, x6) → ow_B G D cA ad (ow_A G ad) M s s.heap H locs → lv_has ls 7 [(0, .ref (ad o0)), (1, .int x1), (2, .int x2), (3, .int x3), (5, .ref (ad o5)), (6, .int x6)] → W p l e rm_P_tally s m ([.ref (ad o0), .int x1, .int x2] : List Value).toArray below meth c H locs 0 0 (MQ below (ow_Qv G D cA ad Q) ([.ref (ad o0), .int x1, .int x2] : List Value).toArray s 0 0 (ow_A G ad)) (F0 m 44 ls []) := by
      intro k
      induction k with
      | zero => intro M x6 H locs ls h hB hl; exact False.elim h
      | succ k ih => intro M x6 H locs ls h hB hl; exact B44 x3 o5 k5 K2 hK2 (ow_lp _ k) (fun M x6 H locs ls h hB  hl => ih M x6  H locs ls h hB hl) M x6 H locs ls h hB hl
    intro M x6 H locs ls h hB hl
    exact step F M x6 H locs ls h hB hl
  have B2 : ∀   (K2 : om_M × Int32 → Prop) (hK2 : ∀ (M : om_M) (x3 : Int32) (H : Heap) (locs : List Loc) (ls : Array Slot), K2 (M, x3) → ow_B G D cA ad (ow_A G ad) M s s.heap H locs → lv_has ls 7 [(0, .ref (ad o0)), (1, .int x1), (2, .int x2), (3, .int x3)] → W p l e rm_P_tally s m ([.ref (ad o0), .int x1, .int x2] : List Value).toArray below meth c H locs 0 0 (MQ below (ow_Qv G D cA ad Q) ([.ref (ad o0), .int x1, .int x2] : List Value).toArray s 0 0 (ow_A G ad)) (F0 m 2 ls [])) (M : om_M) (x3 : Int32) (H : Heap) (locs : List Loc) (ls : Array Slot), wp_P_tally_2b F o0 x1 x2 Q   K2 M x3 → ow_B G D cA ad (ow_A G ad) M s s.heap H locs → lv_has ls 7 [(0, .ref (ad o0)), (1, .int x1), (2, .int x2), (3, .int x3)] → W p l e rm_P_tally s m ([.ref (ad o0), .int x1, .int x2] : List Value).toArray below meth c H locs 0 0 (MQ below (ow_Qv G D cA ad Q) ([.ref (ad o0), .int x1, .int x2] : List Value).toArray s 0 0 (ow_A G ad)) (F0 m 2 ls []) := by
    intro   K2 hK2 M x3 H locs ls h hB hl
    refine lv_iload_n hx hb dc_P_tally_2 rfl (lv_at hl 3 rfl) ?_
    refine lv_aload_n hx hb dc_P_tally_3 rfl (lv_at hl 0 rfl) ?_
    refine ow_get hx hb hts iw_P hown hB k0 rfl 5 (by decide) mw_59 rfl dc_P_tally_4 ?_
    obtain ⟨h1, h2⟩ := h
    refine lv_icmp_ge hx hb dc_P_tally_7 rfl (fun hc => ?_) (fun hc => ?_)
    · have h := h1 hc
      exact ow_vret hx hb hr hlocks hB h dc_P_tally_78
    · have h := h2 hc
      refine lv_iload_n hx hb dc_P_tally_10 rfl (lv_at hl 1 rfl) ?_
      refine lv_iload_n hx hb dc_P_tally_11 rfl (lv_at hl 3 rfl) ?_
      refine ow_calli (va_runS (As := [.int x1, .int x3]) (rest := []) ⟨hx, hb, hml, hown, hts⟩ (ct_O_at l G hG D cA ad F _ _ _ _ h) ⟨ow_cb 2 hts mw_314 mw_3 mw_312 rfl rfl hd_O_at ⟨Nat.le_of_ble_eq_true rfl, Nat.le_of_ble_eq_true rfl⟩, hts _ mw_313⟩ (ow_preS hB) rfl rfl hl.1 rfl (lv_room (Nat.le_of_ble_eq_true rfl)) dc_P_tally_12 ⟨Nat.zero_le _, Nat.zero_le _⟩) hB (fun r5 M4 H locs h hB => ?_)
      refine lv_istore hx hb dc_P_tally_15 hl (by decide) rfl (fun ls hl => ?_)
      refine lv_aload_n hx hb dc_P_tally_17 rfl (lv_at hl 1 rfl) ?_
      refine ow_get hx hb hts iw_P hown hB k0 rfl 3 (by decide) mw_50 rfl dc_P_tally_18 ?_
      refine lv_iload hx hb dc_P_tally_21 (lv_at hl 0 rfl) ?_
      obtain ⟨hi6, h⟩ := h
      refine ow_aald hx hb hB (ly_P_placed hG k0) (by decide) hi6 dc_P_tally_23 ?_
      refine lv_iload_n hx hb dc_P_tally_24 rfl (lv_at hl 4 rfl) ?_
      refine lv_dup2_11 hx hb dc_P_tally_25 rfl rfl ?_
      obtain ⟨hi7, h⟩ := h
      refine ow_iald hx hb hB (ly_row2 hG (ly_P_placed hG k0) hi6) hi7 dc_P_tally_26 ?_
      refine lv_iload_n hx hb dc_P_tally_27 rfl (lv_at hl 3 rfl) ?_
      refine lv_iadd hx hb dc_P_tally_28 ?_
      refine ow_iast hx hb hB (ly_row2 hG (ly_P_placed hG k0) hi6) hi7 dc_P_tally_29 (fun H locs hB => ?_)
      refine lv_aload_n hx hb dc_P_tally_30 rfl (lv_at hl 1 rfl) ?_
      refine ow_get hx hb hts iw_P hown hB k0 rfl 4 (by decide) mw_53 rfl dc_P_tally_31 ?_
      refine lv_iload hx hb dc_P_tally_34 (lv_at hl 0 rfl) ?_
      refine ow_aald hx hb hB (ly_P_ahead hG k0) (by decide) hi6 dc_P_tally_36 ?_
      refine lv_astore hx hb dc_P_tally_37 hl (by decide) rfl (fun ls hl => ?_)
      refine lv_iload_n hx hb dc_P_tally_39 rfl (lv_at hl 5 rfl) ?_
      refine lv_iconst (v := 1) hx hb dc_P_tally_40 rfl ?_
      refine lv_iadd hx hb dc_P_tally_41 ?_
      refine lv_istore hx hb dc_P_tally_42 hl (by decide) rfl (fun ls hl => ?_)
      exact L44 _ _ (ly_row2 hG (ly_P_ahead hG k0) hi6) K2 hK2 _ _ _ _ _ h hB (lv_sub hl [3, 4, 5, 6, 1, 0] rfl)
  have L2 : ∀   (M : om_M) (x3 : Int32) (H : Heap) (locs : List Loc) (ls : Array Slot), wp_P_tally_2 F o0 x1 x2 Q   M x3 → ow_B G D cA ad (ow_A G ad) M s s.heap H locs → lv_has ls 7 [(0, .ref (ad o0)), (1, .int x1), (2, .int x2), (3, .int x3)] → W p l e rm_P_tally s m ([.ref (ad o0), .int x1, .int x2] : List Value).toArray below meth c H locs 0 0 (MQ below (ow_Qv G D cA ad Q) ([.ref (ad o0), .int x1, .int x2] : List Value).toArray s 0 0 (ow_A G ad)) (F0 m 2 ls []) := by
    have step : ∀ (k : Nat) (M : om_M) (x3 : Int32) (H : Heap) (locs : List Loc) (ls : Array Slot), ow_lp (fun (z : om_M × Int32) K => wp_P_tally_2b F o0 x1 x2 Q   K z.1 z.2) k (M, x3) → ow_B G D cA ad (ow_A G ad) M s s.heap H locs → lv_has ls 7 [(0, .ref (ad o0)), (1, .int x1), (2, .int x2), (3, .int x3)] → W p l e rm_P_tally s m ([.ref (ad o0), .int x1, .int x2] : List Value).toArray below meth c H locs 0 0 (MQ below (ow_Qv G D cA ad Q) ([.ref (ad o0), .int x1, .int x2] : List Value).toArray s 0 0 (ow_A G ad)) (F0 m 2 ls []) := by
      intro k
      induction k with
      | zero => intro M x3 H locs ls h hB hl; exact False.elim h
      | succ k ih => intro M x3 H locs ls h hB hl; exact B2   (ow_lp _ k) (fun M x3 H locs ls h hB  hl => ih M x3  H locs ls h hB hl) M x3 H locs ls h hB hl
    intro M x3 H locs ls h hB hl
    exact step F M x3 H locs ls h hB hl
  have hl := lv_entry ([.ref (ad o0), .int x1, .int x2]) (n := 7) (Nat.le_of_ble_eq_true rfl)
  rw [lg_entry_eq]
  generalize (lg_sl ([.ref (ad o0), .int x1, .int x2]) ++ List.replicate (7 - (lg_sl ([.ref (ad o0), .int x1, .int x2])).length) Slot.unset).toArray = ls at hl ⊢
  have hl : lv_has ls 7 [(0, .ref (ad o0)), (1, .int x1), (2, .int x2)] := hl
  show W p l e rm_P_tally s m _ below meth c s.heap [] 0 0 _ _
  refine lv_iconst (v := 0) hx hb dc_P_tally_0 rfl ?_
  refine lv_istore_n hx hb dc_P_tally_1 rfl hl (by decide) rfl (fun ls hl => ?_)
  exact L2 _ _ _ _ _ h hB (lv_sub hl [1, 2, 3, 0] rfl)
abbrev rm_P_empty : Room := { frames := 1, cells := 0, slots := 0, locals := 23 }
theorem hd_P_empty : yn_P_empty.cls ≠ "java/lang/invoke/MethodHandle" ∧ yn_P_empty.cls ≠ "java/lang/invoke/VarHandle" ∧ (parseMethodDescriptor yn_P_empty.desc).map (fun d => d.parameters.length) = some 0 := by decide +kernel
set_option maxHeartbeats 4000000 in
set_option maxRecDepth 100000 in
theorem ct_P_empty (l : Launch) (G : List (Nat × Nat)) (hG : ow_lay G) (D : va_G) (cA : Nat → ClassId) (ad : Nat → Nat) (F : Nat) (o0 : Nat) (k0 : ow_kd G o0 = (3, 1)) (M : om_M) (Q : om_M → Prop) (h : wp_P_empty F o0 M Q) : Met l yn_P_empty (ow_ws yn_P_empty cb_P_empty 2 none) rm_P_empty (ow_Pc G D cA ad M [.ref (ad o0)]) (ow_Qv G D cA ad Q) 0 0 (ow_A G ad) := by
  refine Met.ofW (cc := cb_P_empty) (maxL := 2) (ret := none) (by decide) rfl ?_
  intro p e s m args below meth c s₁ B hml hv
  obtain ⟨rfl, hB⟩ := hv
  have hx := B.exec
  have hb := B.bytes
  have hr := B.returns
  have hlocks := B.notSynchronized
  have hts : ∀ w ∈ lw_g, w.before ([.ref (ad o0)] : List Value).toArray s = true := fun w h => atoms_spec (ws := ow_ws yn_P_empty cb_P_empty 2 none) B.pre w (List.mem_cons_of_mem _ h)
  have hown : s.vm.findClass "BallotDesk$Poll" = some m.cls := findClass_of_methodNamed B.named
  clear B
  have B7 : ∀   (K7 : om_M × Int32 → Prop) (hK7 : ∀ (M : om_M) (x1 : Int32) (H : Heap) (locs : List Loc) (ls : Array Slot), K7 (M, x1) → ow_B G D cA ad (ow_A G ad) M s s.heap H locs → lv_has ls 2 [(0, .ref (ad o0)), (1, .int x1)] → W p l e rm_P_empty s m ([.ref (ad o0)] : List Value).toArray below meth c H locs 0 0 (MQ below (ow_Qv G D cA ad Q) ([.ref (ad o0)] : List Value).toArray s 0 0 (ow_A G ad)) (F0 m 7 ls [])) (M : om_M) (x1 : Int32) (H : Heap) (locs : List Loc) (ls : Array Slot), wp_P_empty_7b F o0 Q   K7 M x1 → ow_B G D cA ad (ow_A G ad) M s s.heap H locs → lv_has ls 2 [(0, .ref (ad o0)), (1, .int x1)] → W p l e rm_P_empty s m ([.ref (ad o0)] : List Value).toArray below meth c H locs 0 0 (MQ below (ow_Qv G D cA ad Q) ([.ref (ad o0)] : List Value).toArray s 0 0 (ow_A G ad)) (F0 m 7 ls []) := by
    intro   K7 hK7 M x1 H locs ls h hB hl
    refine lv_iload_n hx hb dc_P_empty_7 rfl (lv_at hl 1 rfl) ?_
    refine lv_bipush (v := 7) hx hb dc_P_empty_8 rfl ?_
    obtain ⟨h1, h2⟩ := h
    refine lv_icmp_ge hx hb dc_P_empty_10 rfl (fun hc => ?_) (fun hc => ?_)
    · have h := h1 hc
      exact ow_vret hx hb hr hlocks hB h dc_P_empty_39
    · have h := h2 hc
      refine lv_aload_n hx hb dc_P_empty_13 rfl (lv_at hl 0 rfl) ?_
      refine ow_get hx hb hts iw_P hown hB k0 rfl 3 (by decide) mw_50 rfl dc_P_empty_14 ?_
      refine lv_iload_n hx hb dc_P_empty_17 rfl (lv_at hl 1 rfl) ?_
      obtain ⟨hi1, h⟩ := h
      refine ow_aald hx hb hB (ly_P_placed hG k0) (by decide) hi1 dc_P_empty_18 ?_
      refine lv_iconst (v := 0) hx hb dc_P_empty_19 rfl ?_
      refine ow_callv (va_runS (As := [.ref (ad (o0 + 4 + 1 + x1.toNatClampNeg)), .int 0]) (rest := []) ⟨hx, hb, hml, hown, hts⟩ (ct_JA_fill l G hG D cA ad F _ _ (ly_row2 hG (ly_P_placed hG k0) hi1) _ _ _ h) ⟨ow_cb 2 hts mw_111 mw_4 mw_109 rfl rfl hd_JA_fill ⟨Nat.le_of_ble_eq_true rfl, Nat.le_of_ble_eq_true rfl⟩, hts _ mw_110⟩ (ow_preS hB) rfl rfl hl.1 rfl (lv_room (Nat.le_of_ble_eq_true rfl)) dc_P_empty_20 ⟨Nat.zero_le _, Nat.zero_le _⟩) hB (fun M2 H locs h hB => ?_)
      refine lv_aload_n hx hb dc_P_empty_23 rfl (lv_at hl 0 rfl) ?_
      refine ow_get hx hb hts iw_P hown hB k0 rfl 4 (by decide) mw_53 rfl dc_P_empty_24 ?_
      refine lv_iload_n hx hb dc_P_empty_27 rfl (lv_at hl 1 rfl) ?_
      refine ow_aald hx hb hB (ly_P_ahead hG k0) (by decide) hi1 dc_P_empty_28 ?_
      refine lv_iconst (v := 0) hx hb dc_P_empty_29 rfl ?_
      refine ow_callv (va_runS (As := [.ref (ad (o0 + 12 + 1 + x1.toNatClampNeg)), .int 0]) (rest := []) ⟨hx, hb, hml, hown, hts⟩ (ct_JA_fill l G hG D cA ad F _ _ (ly_row2 hG (ly_P_ahead hG k0) hi1) _ _ _ h) ⟨ow_cb 2 hts mw_111 mw_4 mw_109 rfl rfl hd_JA_fill ⟨Nat.le_of_ble_eq_true rfl, Nat.le_of_ble_eq_true rfl⟩, hts _ mw_110⟩ (ow_preS hB) rfl rfl hl.1 rfl (lv_room (Nat.le_of_ble_eq_true rfl)) dc_P_empty_30 ⟨Nat.zero_le _, Nat.zero_le _⟩) hB (fun M3 H locs h hB => ?_)
      refine lv_iinc hx hb dc_P_empty_33 hl (k := 1) rfl rfl (by decide) rfl (fun ls hl => ?_)
      refine lv_goto hx hb dc_P_empty_36 rfl ?_
      exact hK7 _ _ _ _ _ h hB (lv_sub hl [1, 0] rfl)
  have L7 : ∀   (M : om_M) (x1 : Int32) (H : Heap) (locs : List Loc) (ls : Array Slot), wp_P_empty_7 F o0 Q   M x1 → ow_B G D cA ad (ow_A G ad) M s s.heap H locs → lv_has ls 2 [(0, .ref (ad o0)), (1, .int x1)] → W p l e rm_P_empty s m ([.ref (ad o0)] : List Value).toArray below meth c H locs 0 0 (MQ below (ow_Qv G D cA ad Q) ([.ref (ad o0)] : List Value).toArray s 0 0 (ow_A G ad)) (F0 m 7 ls []) := by
    have step : ∀ (k : Nat) (M : om_M) (x1 : Int32) (H : Heap) (locs : List Loc) (ls : Array Slot), ow_lp (fun (z : om_M × Int32) K => wp_P_empty_7b F o0 Q   K z.1 z.2) k (M, x1) → ow_B G D cA ad (ow_A G ad) M s s.heap H locs → lv_has ls 2 [(0, .ref (ad o0)), (1, .int x1)] → W p l e rm_P_empty s m ([.ref (ad o0)] : List Value).toArray below meth c H locs 0 0 (MQ below (ow_Qv G D cA ad Q) ([.ref (ad o0)] : List Value).toArray s 0 0 (ow_A G ad)) (F0 m 7 ls []) := by
      intro k
      induction k with
      | zero => intro M x1 H locs ls h hB hl; exact False.elim h
      | succ k ih => intro M x1 H locs ls h hB hl; exact B7   (ow_lp _ k) (fun M x1 H locs ls h hB  hl => ih M x1  H locs ls h hB hl) M x1 H locs ls h hB hl
    intro M x1 H locs ls h hB hl
    exact step F M x1 H locs ls h hB hl
  have hl := lv_entry ([.ref (ad o0)]) (n := 2) (Nat.le_of_ble_eq_true rfl)
  rw [lg_entry_eq]
  generalize (lg_sl ([.ref (ad o0)]) ++ List.replicate (2 - (lg_sl ([.ref (ad o0)])).length) Slot.unset).toArray = ls at hl ⊢
  have hl : lv_has ls 2 [(0, .ref (ad o0))] := hl
  show W p l e rm_P_empty s m _ below meth c s.heap [] 0 0 _ _
  refine lv_aload_n hx hb dc_P_empty_0 rfl (lv_at hl 0 rfl) ?_
  refine lv_iconst (v := 0) hx hb dc_P_empty_1 rfl ?_
  refine ow_put hx hb hts iw_P yf_P of_P nf_P hown hB k0 rfl 6 (by decide) mw_68 rfl (by decide +kernel) (Nat.le_of_ble_eq_true rfl) rfl dc_P_empty_2 (fun H locs hB => ?_)
  refine lv_iconst (v := 0) hx hb dc_P_empty_5 rfl ?_
  refine lv_istore_n hx hb dc_P_empty_6 rfl hl (by decide) rfl (fun ls hl => ?_)
  exact L7 _ _ _ _ _ h hB (lv_sub hl [1, 0] rfl)
abbrev rm_P_open : Room := { frames := 2, cells := 0, slots := 0, locals := 44 }
theorem hd_P_open : yn_P_open.cls ≠ "java/lang/invoke/MethodHandle" ∧ yn_P_open.cls ≠ "java/lang/invoke/VarHandle" ∧ (parseMethodDescriptor yn_P_open.desc).map (fun d => d.parameters.length) = some 1 := by decide +kernel
set_option maxHeartbeats 4000000 in
set_option maxRecDepth 100000 in
theorem ct_P_open (l : Launch) (G : List (Nat × Nat)) (hG : ow_lay G) (D : va_G) (cA : Nat → ClassId) (ad : Nat → Nat) (F : Nat) (o0 : Nat) (k0 : ow_kd G o0 = (3, 1)) (x1 : Int32) (M : om_M) (Q : om_M → Prop) (h : wp_P_open F o0 x1 M Q) : Met l yn_P_open (ow_ws yn_P_open cb_P_open 3 none) rm_P_open (ow_Pc G D cA ad M [.ref (ad o0), .int x1]) (ow_Qv G D cA ad Q) 0 0 (ow_A G ad) := by
  refine Met.ofW (cc := cb_P_open) (maxL := 3) (ret := none) (by decide) rfl ?_
  intro p e s m args below meth c s₁ B hml hv
  obtain ⟨rfl, hB⟩ := hv
  have hx := B.exec
  have hb := B.bytes
  have hr := B.returns
  have hlocks := B.notSynchronized
  have hts : ∀ w ∈ lw_g, w.before ([.ref (ad o0), .int x1] : List Value).toArray s = true := fun w h => atoms_spec (ws := ow_ws yn_P_open cb_P_open 3 none) B.pre w (List.mem_cons_of_mem _ h)
  have hown : s.vm.findClass "BallotDesk$Poll" = some m.cls := findClass_of_methodNamed B.named
  clear B
  have L54 : ∀   (M : om_M)   (H : Heap) (locs : List Loc) (ls : Array Slot), wp_P_open_54 F o0 x1 Q   M   → ow_B G D cA ad (ow_A G ad) M s s.heap H locs → lv_has ls 3 [(0, .ref (ad o0))] → W p l e rm_P_open s m ([.ref (ad o0), .int x1] : List Value).toArray below meth c H locs 0 0 (MQ below (ow_Qv G D cA ad Q) ([.ref (ad o0), .int x1] : List Value).toArray s 0 0 (ow_A G ad)) (F0 m 54 ls []) := by
    intro   M H locs ls h hB hl
    refine lv_aload_n hx hb dc_P_open_54 rfl (lv_at hl 0 rfl) ?_
    refine ow_callv (va_runV (As := []) (rest := []) ⟨hx, hb, hml, hown, hts⟩ (ct_P_empty l G hG D cA ad F _ k0 _ _ h) ⟨ow_cb 0 hts mw_108 mw_2 mw_105 rfl rfl hd_P_empty ⟨Nat.le_of_ble_eq_true rfl, Nat.le_of_ble_eq_true rfl⟩, hts _ mw_107, hts _ ms_0⟩ (ow_preV hB k0 rfl) rfl rfl hl.1 rfl (lv_room (Nat.le_of_ble_eq_true rfl)) dc_P_open_55 ⟨Nat.zero_le _, Nat.zero_le _⟩) hB (fun M1 H locs h hB => ?_)
    exact ow_vret hx hb hr hlocks hB h dc_P_open_58
  have B26 : ∀   (K26 : om_M × Int32 → Prop) (hK26 : ∀ (M : om_M) (x2 : Int32) (H : Heap) (locs : List Loc) (ls : Array Slot), K26 (M, x2) → ow_B G D cA ad (ow_A G ad) M s s.heap H locs → lv_has ls 3 [(0, .ref (ad o0)), (2, .int x2)] → W p l e rm_P_open s m ([.ref (ad o0), .int x1] : List Value).toArray below meth c H locs 0 0 (MQ below (ow_Qv G D cA ad Q) ([.ref (ad o0), .int x1] : List Value).toArray s 0 0 (ow_A G ad)) (F0 m 26 ls [])) (M : om_M) (x2 : Int32) (H : Heap) (locs : List Loc) (ls : Array Slot), wp_P_open_26b F o0 x1 Q   K26 M x2 → ow_B G D cA ad (ow_A G ad) M s s.heap H locs → lv_has ls 3 [(0, .ref (ad o0)), (2, .int x2)] → W p l e rm_P_open s m ([.ref (ad o0), .int x1] : List Value).toArray below meth c H locs 0 0 (MQ below (ow_Qv G D cA ad Q) ([.ref (ad o0), .int x1] : List Value).toArray s 0 0 (ow_A G ad)) (F0 m 26 ls []) := by
    intro   K26 hK26 M x2 H locs ls h hB hl
    refine lv_iload_n hx hb dc_P_open_26 rfl (lv_at hl 1 rfl) ?_
    refine lv_aload_n hx hb dc_P_open_27 rfl (lv_at hl 0 rfl) ?_
    refine ow_get hx hb hts iw_P hown hB k0 rfl 5 (by decide) mw_59 rfl dc_P_open_28 ?_
    obtain ⟨h1, h2⟩ := h
    refine lv_icmp_ge hx hb dc_P_open_31 rfl (fun hc => ?_) (fun hc => ?_)
    · have h := h1 hc
      exact L54 _ _ _ _ h hB (lv_sub hl [0] rfl)
    · have h := h2 hc
      refine lv_aload_n hx hb dc_P_open_34 rfl (lv_at hl 0 rfl) ?_
      refine ow_get hx hb hts iw_P hown hB k0 rfl 2 (by decide) mw_47 rfl dc_P_open_35 ?_
      refine lv_iload_n hx hb dc_P_open_38 rfl (lv_at hl 1 rfl) ?_
      refine lv_aload_n hx hb dc_P_open_39 rfl (lv_at hl 0 rfl) ?_
      refine ow_get hx hb hts iw_P hown hB k0 rfl 5 (by decide) mw_59 rfl dc_P_open_40 ?_
      refine lv_iconst (v := 1) hx hb dc_P_open_43 rfl ?_
      refine lv_isub hx hb dc_P_open_44 ?_
      refine lv_iload_n hx hb dc_P_open_45 rfl (lv_at hl 1 rfl) ?_
      refine lv_isub hx hb dc_P_open_46 ?_
      obtain ⟨hi2, h⟩ := h
      refine ow_iast hx hb hB (ly_P_weights hG k0) hi2 dc_P_open_47 (fun H locs hB => ?_)
      refine lv_iinc hx hb dc_P_open_48 hl (k := 1) rfl rfl (by decide) rfl (fun ls hl => ?_)
      refine lv_goto hx hb dc_P_open_51 rfl ?_
      exact hK26 _ _ _ _ _ h hB (lv_sub hl [1, 0] rfl)
  have L26 : ∀   (M : om_M) (x2 : Int32) (H : Heap) (locs : List Loc) (ls : Array Slot), wp_P_open_26 F o0 x1 Q   M x2 → ow_B G D cA ad (ow_A G ad) M s s.heap H locs → lv_has ls 3 [(0, .ref (ad o0)), (2, .int x2)] → W p l e rm_P_open s m ([.ref (ad o0), .int x1] : List Value).toArray below meth c H locs 0 0 (MQ below (ow_Qv G D cA ad Q) ([.ref (ad o0), .int x1] : List Value).toArray s 0 0 (ow_A G ad)) (F0 m 26 ls []) := by
    have step : ∀ (k : Nat) (M : om_M) (x2 : Int32) (H : Heap) (locs : List Loc) (ls : Array Slot), ow_lp (fun (z : om_M × Int32) K => wp_P_open_26b F o0 x1 Q   K z.1 z.2) k (M, x2) → ow_B G D cA ad (ow_A G ad) M s s.heap H locs → lv_has ls 3 [(0, .ref (ad o0)), (2, .int x2)] → W p l e rm_P_open s m ([.ref (ad o0), .int x1] : List Value).toArray below meth c H locs 0 0 (MQ below (ow_Qv G D cA ad Q) ([.ref (ad o0), .int x1] : List Value).toArray s 0 0 (ow_A G ad)) (F0 m 26 ls []) := by
      intro k
      induction k with
      | zero => intro M x2 H locs ls h hB hl; exact False.elim h
      | succ k ih => intro M x2 H locs ls h hB hl; exact B26   (ow_lp _ k) (fun M x2 H locs ls h hB  hl => ih M x2  H locs ls h hB hl) M x2 H locs ls h hB hl
    intro M x2 H locs ls h hB hl
    exact step F M x2 H locs ls h hB hl
  have hl := lv_entry ([.ref (ad o0), .int x1]) (n := 3) (Nat.le_of_ble_eq_true rfl)
  rw [lg_entry_eq]
  generalize (lg_sl ([.ref (ad o0), .int x1]) ++ List.replicate (3 - (lg_sl ([.ref (ad o0), .int x1])).length) Slot.unset).toArray = ls at hl ⊢
  have hl : lv_has ls 3 [(0, .ref (ad o0)), (1, .int x1)] := hl
  show W p l e rm_P_open s m _ below meth c s.heap [] 0 0 _ _
  refine lv_aload_n hx hb dc_P_open_0 rfl (lv_at hl 0 rfl) ?_
  refine lv_iload_n hx hb dc_P_open_1 rfl (lv_at hl 1 rfl) ?_
  refine ow_put hx hb hts iw_P yf_P of_P nf_P hown hB k0 rfl 5 (by decide) mw_59 rfl (by decide +kernel) (Nat.le_of_ble_eq_true rfl) rfl dc_P_open_2 (fun H locs hB => ?_)
  refine lv_aload_n hx hb dc_P_open_5 rfl (lv_at hl 0 rfl) ?_
  refine lv_aload_n hx hb dc_P_open_6 rfl (lv_at hl 0 rfl) ?_
  refine ow_get hx hb hts iw_P hown hB k0 rfl 5 (by decide) mw_59 rfl dc_P_open_7 ?_
  refine ow_calli (va_runS (As := [.int ((om_up M o0 5 x1).1 o0 5)]) (rest := [.ref (ad o0)]) ⟨hx, hb, hml, hown, hts⟩ (ct_O_ascending l G hG D cA ad F _ _ _ h) ⟨ow_cb 1 hts mw_104 mw_3 mw_102 rfl rfl hd_O_ascending ⟨Nat.le_of_ble_eq_true rfl, Nat.le_of_ble_eq_true rfl⟩, hts _ mw_103⟩ (ow_preS hB) rfl rfl hl.1 rfl (lv_room (Nat.le_of_ble_eq_true rfl)) dc_P_open_10 ⟨Nat.zero_le _, Nat.zero_le _⟩) hB (fun r4 M3 H locs h hB => ?_)
  refine ow_put hx hb hts iw_P yf_P of_P nf_P hown hB k0 rfl 7 (by decide) mw_72 rfl (by decide +kernel) (Nat.le_of_ble_eq_true rfl) rfl dc_P_open_13 (fun H locs hB => ?_)
  refine lv_aload_n hx hb dc_P_open_16 rfl (lv_at hl 0 rfl) ?_
  refine lv_aload_n hx hb dc_P_open_17 rfl (lv_at hl 0 rfl) ?_
  refine ow_get hx hb hts iw_P hown hB k0 rfl 7 (by decide) mw_72 rfl dc_P_open_18 ?_
  refine ow_put hx hb hts iw_P yf_P of_P nf_P hown hB k0 rfl 8 (by decide) mw_75 rfl (by decide +kernel) (Nat.le_of_ble_eq_true rfl) rfl dc_P_open_21 (fun H locs hB => ?_)
  refine lv_iconst (v := 0) hx hb dc_P_open_24 rfl ?_
  refine lv_istore_n hx hb dc_P_open_25 rfl hl (by decide) rfl (fun ls hl => ?_)
  exact L26 _ _ _ _ _ h hB (lv_sub hl [1, 0] rfl)
abbrev rm_P_append : Room := { frames := 2, cells := 0, slots := 0, locals := 47 }
theorem hd_P_append : yn_P_append.cls ≠ "java/lang/invoke/MethodHandle" ∧ yn_P_append.cls ≠ "java/lang/invoke/VarHandle" ∧ (parseMethodDescriptor yn_P_append.desc).map (fun d => d.parameters.length) = some 2 := by decide +kernel
set_option maxHeartbeats 4000000 in
set_option maxRecDepth 100000 in
theorem ct_P_append (l : Launch) (G : List (Nat × Nat)) (hG : ow_lay G) (D : va_G) (cA : Nat → ClassId) (ad : Nat → Nat) (F : Nat) (o0 : Nat) (k0 : ow_kd G o0 = (3, 1)) (x1 : Int32) (x2 : Int32) (M : om_M) (Q : Int32 → om_M → Prop) (h : wp_P_append F o0 x1 x2 M Q) : Met l yn_P_append (ow_ws yn_P_append cb_P_append 4 (some .int)) rm_P_append (ow_Pc G D cA ad M [.ref (ad o0), .int x1, .int x2]) (ow_Qi G D cA ad Q) 0 0 (ow_A G ad) := by
  refine Met.ofW (cc := cb_P_append) (maxL := 4) (ret := (some .int)) (by decide) rfl ?_
  intro p e s m args below meth c s₁ B hml hv
  obtain ⟨rfl, hB⟩ := hv
  have hx := B.exec
  have hb := B.bytes
  have hr := B.returns
  have hlocks := B.notSynchronized
  have hts : ∀ w ∈ lw_g, w.before ([.ref (ad o0), .int x1, .int x2] : List Value).toArray s = true := fun w h => atoms_spec (ws := ow_ws yn_P_append cb_P_append 4 (some .int)) B.pre w (List.mem_cons_of_mem _ h)
  have hown : s.vm.findClass "BallotDesk$Poll" = some m.cls := findClass_of_methodNamed B.named
  clear B
  have hl := lv_entry ([.ref (ad o0), .int x1, .int x2]) (n := 4) (Nat.le_of_ble_eq_true rfl)
  rw [lg_entry_eq]
  generalize (lg_sl ([.ref (ad o0), .int x1, .int x2]) ++ List.replicate (4 - (lg_sl ([.ref (ad o0), .int x1, .int x2])).length) Slot.unset).toArray = ls at hl ⊢
  have hl : lv_has ls 4 [(0, .ref (ad o0)), (1, .int x1), (2, .int x2)] := hl
  show W p l e rm_P_append s m _ below meth c s.heap [] 0 0 _ _
  refine lv_aload_n hx hb dc_P_append_0 rfl (lv_at hl 0 rfl) ?_
  refine ow_get hx hb hts iw_P hown hB k0 rfl 6 (by decide) mw_68 rfl dc_P_append_1 ?_
  refine lv_istore_n hx hb dc_P_append_4 rfl hl (by decide) rfl (fun ls hl => ?_)
  refine lv_iload_n hx hb dc_P_append_5 rfl (lv_at hl 0 rfl) ?_
  refine lv_aload_n hx hb dc_P_append_6 rfl (lv_at hl 1 rfl) ?_
  refine ow_get hx hb hts iw_P hown hB k0 rfl 0 (by decide) mw_39 rfl dc_P_append_7 ?_
  refine ow_alen (v := 21) hx hb hB (ly_P_orders hG k0) rfl dc_P_append_10 ?_
  obtain ⟨h1, h2⟩ := h
  refine lv_icmp_ge hx hb dc_P_append_11 rfl (fun hc => ?_) (fun hc => ?_)
  · have h := h1 hc
    refine lv_iload_n hx hb dc_P_append_44 rfl (lv_at hl 0 rfl) ?_
    exact ow_iret hx hb hr hlocks hB h dc_P_append_45
  · have h := h2 hc
    refine lv_aload_n hx hb dc_P_append_14 rfl (lv_at hl 1 rfl) ?_
    refine ow_get hx hb hts iw_P hown hB k0 rfl 0 (by decide) mw_39 rfl dc_P_append_15 ?_
    refine lv_iload_n hx hb dc_P_append_18 rfl (lv_at hl 0 rfl) ?_
    refine lv_iload_n hx hb dc_P_append_19 rfl (lv_at hl 2 rfl) ?_
    obtain ⟨hi1, h⟩ := h
    refine ow_iast hx hb hB (ly_P_orders hG k0) hi1 dc_P_append_20 (fun H locs hB => ?_)
    refine lv_aload_n hx hb dc_P_append_21 rfl (lv_at hl 1 rfl) ?_
    refine ow_get hx hb hts iw_P hown hB k0 rfl 1 (by decide) mw_43 rfl dc_P_append_22 ?_
    refine lv_iload_n hx hb dc_P_append_25 rfl (lv_at hl 0 rfl) ?_
    refine lv_iload_n hx hb dc_P_append_26 rfl (lv_at hl 3 rfl) ?_
    refine ow_iast hx hb hB (ly_P_voters hG k0) hi1 dc_P_append_27 (fun H locs hB => ?_)
    refine lv_aload_n hx hb dc_P_append_28 rfl (lv_at hl 1 rfl) ?_
    refine lv_dup hx hb dc_P_append_29 rfl ?_
    refine ow_get hx hb hts iw_P hown hB k0 rfl 6 (by decide) mw_68 rfl dc_P_append_30 ?_
    refine lv_iconst (v := 1) hx hb dc_P_append_33 rfl ?_
    refine lv_iadd hx hb dc_P_append_34 ?_
    refine ow_put hx hb hts iw_P yf_P of_P nf_P hown hB k0 rfl 6 (by decide) mw_68 rfl (by decide +kernel) (Nat.le_of_ble_eq_true rfl) rfl dc_P_append_35 (fun H locs hB => ?_)
    refine lv_aload_n hx hb dc_P_append_38 rfl (lv_at hl 1 rfl) ?_
    refine lv_iload_n hx hb dc_P_append_39 rfl (lv_at hl 2 rfl) ?_
    refine lv_iload_n hx hb dc_P_append_40 rfl (lv_at hl 3 rfl) ?_
    refine ow_callv (va_runV (As := [.int x1, .int x2]) (rest := []) ⟨hx, hb, hml, hown, hts⟩ (ct_P_tally l G hG D cA ad F _ k0 _ _ _ _ h) ⟨ow_cb 2 hts mw_435 mw_2 mw_432 rfl rfl hd_P_tally ⟨Nat.le_of_ble_eq_true rfl, Nat.le_of_ble_eq_true rfl⟩, hts _ mw_434, hts _ ms_8⟩ (ow_preV hB k0 rfl) rfl rfl hl.1 rfl (lv_room (Nat.le_of_ble_eq_true rfl)) dc_P_append_41 ⟨Nat.zero_le _, Nat.zero_le _⟩) hB (fun M2 H locs h hB => ?_)
    refine lv_iload_n hx hb dc_P_append_44 rfl (lv_at hl 0 rfl) ?_
    exact ow_iret hx hb hr hlocks hB h dc_P_append_45
abbrev rm_P_copy : Room := { frames := 3, cells := 0, slots := 0, locals := 70 }
theorem hd_P_copy : yn_P_copy.cls ≠ "java/lang/invoke/MethodHandle" ∧ yn_P_copy.cls ≠ "java/lang/invoke/VarHandle" ∧ (parseMethodDescriptor yn_P_copy.desc).map (fun d => d.parameters.length) = some 1 := by decide +kernel
set_option maxHeartbeats 4000000 in
set_option maxRecDepth 100000 in
theorem ct_P_copy (l : Launch) (G : List (Nat × Nat)) (hG : ow_lay G) (D : va_G) (cA : Nat → ClassId) (ad : Nat → Nat) (F : Nat) (o0 : Nat) (k0 : ow_kd G o0 = (3, 1)) (o1 : Nat) (k1 : ow_kd G o1 = (3, 1)) (M : om_M) (Q : om_M → Prop) (h : wp_P_copy F o0 o1 M Q) : Met l yn_P_copy (ow_ws yn_P_copy cb_P_copy 3 none) rm_P_copy (ow_Pc G D cA ad M [.ref (ad o0), .ref (ad o1)]) (ow_Qv G D cA ad Q) 0 0 (ow_A G ad) := by
  refine Met.ofW (cc := cb_P_copy) (maxL := 3) (ret := none) (by decide) rfl ?_
  intro p e s m args below meth c s₁ B hml hv
  obtain ⟨rfl, hB⟩ := hv
  have hx := B.exec
  have hb := B.bytes
  have hr := B.returns
  have hlocks := B.notSynchronized
  have hts : ∀ w ∈ lw_g, w.before ([.ref (ad o0), .ref (ad o1)] : List Value).toArray s = true := fun w h => atoms_spec (ws := ow_ws yn_P_copy cb_P_copy 3 none) B.pre w (List.mem_cons_of_mem _ h)
  have hown : s.vm.findClass "BallotDesk$Poll" = some m.cls := findClass_of_methodNamed B.named
  clear B
  have B47 : ∀   (K47 : om_M × Int32 → Prop) (hK47 : ∀ (M : om_M) (x2 : Int32) (H : Heap) (locs : List Loc) (ls : Array Slot), K47 (M, x2) → ow_B G D cA ad (ow_A G ad) M s s.heap H locs → lv_has ls 3 [(0, .ref (ad o0)), (1, .ref (ad o1)), (2, .int x2)] → W p l e rm_P_copy s m ([.ref (ad o0), .ref (ad o1)] : List Value).toArray below meth c H locs 0 0 (MQ below (ow_Qv G D cA ad Q) ([.ref (ad o0), .ref (ad o1)] : List Value).toArray s 0 0 (ow_A G ad)) (F0 m 47 ls [])) (M : om_M) (x2 : Int32) (H : Heap) (locs : List Loc) (ls : Array Slot), wp_P_copy_47b F o0 o1 Q   K47 M x2 → ow_B G D cA ad (ow_A G ad) M s s.heap H locs → lv_has ls 3 [(0, .ref (ad o0)), (1, .ref (ad o1)), (2, .int x2)] → W p l e rm_P_copy s m ([.ref (ad o0), .ref (ad o1)] : List Value).toArray below meth c H locs 0 0 (MQ below (ow_Qv G D cA ad Q) ([.ref (ad o0), .ref (ad o1)] : List Value).toArray s 0 0 (ow_A G ad)) (F0 m 47 ls []) := by
    intro   K47 hK47 M x2 H locs ls h hB hl
    refine lv_iload_n hx hb dc_P_copy_47 rfl (lv_at hl 2 rfl) ?_
    refine lv_aload_n hx hb dc_P_copy_48 rfl (lv_at hl 1 rfl) ?_
    refine ow_get hx hb hts iw_P hown hB k1 rfl 6 (by decide) mw_68 rfl dc_P_copy_49 ?_
    obtain ⟨h1, h2⟩ := h
    refine lv_icmp_ge hx hb dc_P_copy_52 rfl (fun hc => ?_) (fun hc => ?_)
    · have h := h1 hc
      exact ow_vret hx hb hr hlocks hB h dc_P_copy_78
    · have h := h2 hc
      refine lv_aload_n hx hb dc_P_copy_55 rfl (lv_at hl 0 rfl) ?_
      refine lv_aload_n hx hb dc_P_copy_56 rfl (lv_at hl 1 rfl) ?_
      refine ow_get hx hb hts iw_P hown hB k1 rfl 0 (by decide) mw_39 rfl dc_P_copy_57 ?_
      refine lv_iload_n hx hb dc_P_copy_60 rfl (lv_at hl 2 rfl) ?_
      obtain ⟨hi1, h⟩ := h
      refine ow_iald hx hb hB (ly_P_orders hG k1) hi1 dc_P_copy_61 ?_
      refine lv_aload_n hx hb dc_P_copy_62 rfl (lv_at hl 1 rfl) ?_
      refine ow_get hx hb hts iw_P hown hB k1 rfl 1 (by decide) mw_43 rfl dc_P_copy_63 ?_
      refine lv_iload_n hx hb dc_P_copy_66 rfl (lv_at hl 2 rfl) ?_
      refine ow_iald hx hb hB (ly_P_voters hG k1) hi1 dc_P_copy_67 ?_
      refine ow_calli (va_runV (As := [.int (M.1 (o1 + 1) x2.toNatClampNeg), .int (M.1 (o1 + 2) x2.toNatClampNeg)]) (rest := []) ⟨hx, hb, hml, hown, hts⟩ (ct_P_append l G hG D cA ad F _ k0 _ _ _ _ h) ⟨ow_cb 2 hts mw_431 mw_2 mw_684 rfl rfl hd_P_append ⟨Nat.le_of_ble_eq_true rfl, Nat.le_of_ble_eq_true rfl⟩, hts _ mw_429, hts _ mw_430⟩ (ow_preV hB k0 rfl) rfl rfl hl.1 rfl (lv_room (Nat.le_of_ble_eq_true rfl)) dc_P_copy_68 ⟨Nat.zero_le _, Nat.zero_le _⟩) hB (fun r3 M2 H locs h hB => ?_)
      refine lv_pop hx hb dc_P_copy_71 rfl ?_
      refine lv_iinc hx hb dc_P_copy_72 hl (k := 2) rfl rfl (by decide) rfl (fun ls hl => ?_)
      refine lv_goto hx hb dc_P_copy_75 rfl ?_
      exact hK47 _ _ _ _ _ h hB (lv_sub hl [1, 2, 0] rfl)
  have L47 : ∀   (M : om_M) (x2 : Int32) (H : Heap) (locs : List Loc) (ls : Array Slot), wp_P_copy_47 F o0 o1 Q   M x2 → ow_B G D cA ad (ow_A G ad) M s s.heap H locs → lv_has ls 3 [(0, .ref (ad o0)), (1, .ref (ad o1)), (2, .int x2)] → W p l e rm_P_copy s m ([.ref (ad o0), .ref (ad o1)] : List Value).toArray below meth c H locs 0 0 (MQ below (ow_Qv G D cA ad Q) ([.ref (ad o0), .ref (ad o1)] : List Value).toArray s 0 0 (ow_A G ad)) (F0 m 47 ls []) := by
    have step : ∀ (k : Nat) (M : om_M) (x2 : Int32) (H : Heap) (locs : List Loc) (ls : Array Slot), ow_lp (fun (z : om_M × Int32) K => wp_P_copy_47b F o0 o1 Q   K z.1 z.2) k (M, x2) → ow_B G D cA ad (ow_A G ad) M s s.heap H locs → lv_has ls 3 [(0, .ref (ad o0)), (1, .ref (ad o1)), (2, .int x2)] → W p l e rm_P_copy s m ([.ref (ad o0), .ref (ad o1)] : List Value).toArray below meth c H locs 0 0 (MQ below (ow_Qv G D cA ad Q) ([.ref (ad o0), .ref (ad o1)] : List Value).toArray s 0 0 (ow_A G ad)) (F0 m 47 ls []) := by
      intro k
      induction k with
      | zero => intro M x2 H locs ls h hB hl; exact False.elim h
      | succ k ih => intro M x2 H locs ls h hB hl; exact B47   (ow_lp _ k) (fun M x2 H locs ls h hB  hl => ih M x2  H locs ls h hB hl) M x2 H locs ls h hB hl
    intro M x2 H locs ls h hB hl
    exact step F M x2 H locs ls h hB hl
  have hl := lv_entry ([.ref (ad o0), .ref (ad o1)]) (n := 3) (Nat.le_of_ble_eq_true rfl)
  rw [lg_entry_eq]
  generalize (lg_sl ([.ref (ad o0), .ref (ad o1)]) ++ List.replicate (3 - (lg_sl ([.ref (ad o0), .ref (ad o1)])).length) Slot.unset).toArray = ls at hl ⊢
  have hl : lv_has ls 3 [(0, .ref (ad o0)), (1, .ref (ad o1))] := hl
  show W p l e rm_P_copy s m _ below meth c s.heap [] 0 0 _ _
  refine lv_aload_n hx hb dc_P_copy_0 rfl (lv_at hl 0 rfl) ?_
  refine lv_aload_n hx hb dc_P_copy_1 rfl (lv_at hl 1 rfl) ?_
  refine ow_get hx hb hts iw_P hown hB k1 rfl 5 (by decide) mw_59 rfl dc_P_copy_2 ?_
  refine ow_put hx hb hts iw_P yf_P of_P nf_P hown hB k0 rfl 5 (by decide) mw_59 rfl (by decide +kernel) (Nat.le_of_ble_eq_true rfl) rfl dc_P_copy_5 (fun H locs hB => ?_)
  refine lv_aload_n hx hb dc_P_copy_8 rfl (lv_at hl 0 rfl) ?_
  refine lv_aload_n hx hb dc_P_copy_9 rfl (lv_at hl 1 rfl) ?_
  refine ow_get hx hb hts iw_P hown hB k1 rfl 7 (by decide) mw_72 rfl dc_P_copy_10 ?_
  refine ow_put hx hb hts iw_P yf_P of_P nf_P hown hB k0 rfl 7 (by decide) mw_72 rfl (by decide +kernel) (Nat.le_of_ble_eq_true rfl) rfl dc_P_copy_13 (fun H locs hB => ?_)
  refine lv_aload_n hx hb dc_P_copy_16 rfl (lv_at hl 0 rfl) ?_
  refine lv_aload_n hx hb dc_P_copy_17 rfl (lv_at hl 1 rfl) ?_
  refine ow_get hx hb hts iw_P hown hB k1 rfl 8 (by decide) mw_75 rfl dc_P_copy_18 ?_
  refine ow_put hx hb hts iw_P yf_P of_P nf_P hown hB k0 rfl 8 (by decide) mw_75 rfl (by decide +kernel) (Nat.le_of_ble_eq_true rfl) rfl dc_P_copy_21 (fun H locs hB => ?_)
  refine lv_aload_n hx hb dc_P_copy_24 rfl (lv_at hl 1 rfl) ?_
  refine ow_get hx hb hts iw_P hown hB k1 rfl 2 (by decide) mw_47 rfl dc_P_copy_25 ?_
  refine lv_iconst (v := 0) hx hb dc_P_copy_28 rfl ?_
  refine lv_aload_n hx hb dc_P_copy_29 rfl (lv_at hl 0 rfl) ?_
  refine ow_get hx hb hts iw_P hown hB k0 rfl 2 (by decide) mw_47 rfl dc_P_copy_30 ?_
  refine lv_iconst (v := 0) hx hb dc_P_copy_33 rfl ?_
  refine lv_aload_n hx hb dc_P_copy_34 rfl (lv_at hl 0 rfl) ?_
  refine ow_get hx hb hts iw_P hown hB k0 rfl 5 (by decide) mw_59 rfl dc_P_copy_35 ?_
  obtain ⟨hy, h⟩ := h
  refine ow_copy hx hb (hml.trans hl.1.symm) hown (hts _ mw_681) (hts _ mw_683) (hts _ mw_682) (hts _ mw_22) hB (ly_P_weights hG k1) (ly_P_weights hG k0) hy (Nat.le_of_ble_eq_true rfl) (by decide) dc_P_copy_38 (fun H locs hB => ?_)
  refine lv_aload_n hx hb dc_P_copy_41 rfl (lv_at hl 0 rfl) ?_
  refine ow_callv (va_runV (As := []) (rest := []) ⟨hx, hb, hml, hown, hts⟩ (ct_P_empty l G hG D cA ad F _ k0 _ _ h) ⟨ow_cb 0 hts mw_108 mw_2 mw_105 rfl rfl hd_P_empty ⟨Nat.le_of_ble_eq_true rfl, Nat.le_of_ble_eq_true rfl⟩, hts _ mw_107, hts _ ms_0⟩ (ow_preV hB k0 rfl) rfl rfl hl.1 rfl (lv_room (Nat.le_of_ble_eq_true rfl)) dc_P_copy_42 ⟨Nat.zero_le _, Nat.zero_le _⟩) hB (fun M4 H locs h hB => ?_)
  refine lv_iconst (v := 0) hx hb dc_P_copy_45 rfl ?_
  refine lv_istore_n hx hb dc_P_copy_46 rfl hl (by decide) rfl (fun ls hl => ?_)
  exact L47 _ _ _ _ _ h hB (lv_sub hl [1, 2, 0] rfl)
abbrev rm_P_copyWithout : Room := { frames := 3, cells := 0, slots := 0, locals := 70 }
theorem hd_P_copyWithout : yn_P_copyWithout.cls ≠ "java/lang/invoke/MethodHandle" ∧ yn_P_copyWithout.cls ≠ "java/lang/invoke/VarHandle" ∧ (parseMethodDescriptor yn_P_copyWithout.desc).map (fun d => d.parameters.length) = some 2 := by decide +kernel
set_option maxHeartbeats 4000000 in
set_option maxRecDepth 100000 in
theorem ct_P_copyWithout (l : Launch) (G : List (Nat × Nat)) (hG : ow_lay G) (D : va_G) (cA : Nat → ClassId) (ad : Nat → Nat) (F : Nat) (o0 : Nat) (k0 : ow_kd G o0 = (3, 1)) (o1 : Nat) (k1 : ow_kd G o1 = (3, 1)) (x2 : Int32) (M : om_M) (Q : om_M → Prop) (h : wp_P_copyWithout F o0 o1 x2 M Q) : Met l yn_P_copyWithout (ow_ws yn_P_copyWithout cb_P_copyWithout 4 none) rm_P_copyWithout (ow_Pc G D cA ad M [.ref (ad o0), .ref (ad o1), .int x2]) (ow_Qv G D cA ad Q) 0 0 (ow_A G ad) := by
  refine Met.ofW (cc := cb_P_copyWithout) (maxL := 4) (ret := none) (by decide) rfl ?_
  intro p e s m args below meth c s₁ B hml hv
  obtain ⟨rfl, hB⟩ := hv
  have hx := B.exec
  have hb := B.bytes
  have hr := B.returns
  have hlocks := B.notSynchronized
  have hts : ∀ w ∈ lw_g, w.before ([.ref (ad o0), .ref (ad o1), .int x2] : List Value).toArray s = true := fun w h => atoms_spec (ws := ow_ws yn_P_copyWithout cb_P_copyWithout 4 none) B.pre w (List.mem_cons_of_mem _ h)
  have hown : s.vm.findClass "BallotDesk$Poll" = some m.cls := findClass_of_methodNamed B.named
  clear B
  have B65 : ∀   (K65 : om_M × Int32 → Prop) (hK65 : ∀ (M : om_M) (x3 : Int32) (H : Heap) (locs : List Loc) (ls : Array Slot), K65 (M, x3) → ow_B G D cA ad (ow_A G ad) M s s.heap H locs → lv_has ls 4 [(0, .ref (ad o0)), (1, .ref (ad o1)), (2, .int x2), (3, .int x3)] → W p l e rm_P_copyWithout s m ([.ref (ad o0), .ref (ad o1), .int x2] : List Value).toArray below meth c H locs 0 0 (MQ below (ow_Qv G D cA ad Q) ([.ref (ad o0), .ref (ad o1), .int x2] : List Value).toArray s 0 0 (ow_A G ad)) (F0 m 65 ls [])) (M : om_M) (x3 : Int32) (H : Heap) (locs : List Loc) (ls : Array Slot), wp_P_copyWithout_65b F o0 o1 x2 Q   K65 M x3 → ow_B G D cA ad (ow_A G ad) M s s.heap H locs → lv_has ls 4 [(0, .ref (ad o0)), (1, .ref (ad o1)), (2, .int x2), (3, .int x3)] → W p l e rm_P_copyWithout s m ([.ref (ad o0), .ref (ad o1), .int x2] : List Value).toArray below meth c H locs 0 0 (MQ below (ow_Qv G D cA ad Q) ([.ref (ad o0), .ref (ad o1), .int x2] : List Value).toArray s 0 0 (ow_A G ad)) (F0 m 65 ls []) := by
    intro   K65 hK65 M x3 H locs ls h hB hl
    refine lv_iload_n hx hb dc_P_copyWithout_65 rfl (lv_at hl 3 rfl) ?_
    refine lv_aload_n hx hb dc_P_copyWithout_66 rfl (lv_at hl 1 rfl) ?_
    refine ow_get hx hb hts iw_P hown hB k1 rfl 6 (by decide) mw_68 rfl dc_P_copyWithout_67 ?_
    obtain ⟨h1, h2⟩ := h
    refine lv_icmp_ge hx hb dc_P_copyWithout_70 rfl (fun hc => ?_) (fun hc => ?_)
    · have h := h1 hc
      exact ow_vret hx hb hr hlocks hB h dc_P_copyWithout_104
    · have h := h2 hc
      refine lv_aload_n hx hb dc_P_copyWithout_73 rfl (lv_at hl 0 rfl) ?_
      refine lv_aload_n hx hb dc_P_copyWithout_74 rfl (lv_at hl 1 rfl) ?_
      refine ow_get hx hb hts iw_P hown hB k1 rfl 0 (by decide) mw_39 rfl dc_P_copyWithout_75 ?_
      refine lv_iload_n hx hb dc_P_copyWithout_78 rfl (lv_at hl 3 rfl) ?_
      obtain ⟨hi1, h⟩ := h
      refine ow_iald hx hb hB (ly_P_orders hG k1) hi1 dc_P_copyWithout_79 ?_
      refine lv_iload_n hx hb dc_P_copyWithout_80 rfl (lv_at hl 2 rfl) ?_
      refine lv_aload_n hx hb dc_P_copyWithout_81 rfl (lv_at hl 1 rfl) ?_
      refine ow_get hx hb hts iw_P hown hB k1 rfl 5 (by decide) mw_59 rfl dc_P_copyWithout_82 ?_
      refine ow_calli (va_runS (As := [.int (M.1 (o1 + 1) x3.toNatClampNeg), .int x2, .int (M.1 o1 5)]) (rest := [.ref (ad o0)]) ⟨hx, hb, hml, hown, hts⟩ (ct_O_without l G hG D cA ad F _ _ _ _ _ h) ⟨ow_cb 3 hts mw_745 mw_3 mw_743 rfl rfl hd_O_without ⟨Nat.le_of_ble_eq_true rfl, Nat.le_of_ble_eq_true rfl⟩, hts _ mw_744⟩ (ow_preS hB) rfl rfl hl.1 rfl (lv_room (Nat.le_of_ble_eq_true rfl)) dc_P_copyWithout_85 ⟨Nat.zero_le _, Nat.zero_le _⟩) hB (fun r3 M2 H locs h hB => ?_)
      refine lv_aload_n hx hb dc_P_copyWithout_88 rfl (lv_at hl 1 rfl) ?_
      refine ow_get hx hb hts iw_P hown hB k1 rfl 1 (by decide) mw_43 rfl dc_P_copyWithout_89 ?_
      refine lv_iload_n hx hb dc_P_copyWithout_92 rfl (lv_at hl 3 rfl) ?_
      refine ow_iald hx hb hB (ly_P_voters hG k1) hi1 dc_P_copyWithout_93 ?_
      refine ow_calli (va_runV (As := [.int r3, .int (M2.1 (o1 + 2) x3.toNatClampNeg)]) (rest := []) ⟨hx, hb, hml, hown, hts⟩ (ct_P_append l G hG D cA ad F _ k0 _ _ _ _ h) ⟨ow_cb 2 hts mw_431 mw_2 mw_684 rfl rfl hd_P_append ⟨Nat.le_of_ble_eq_true rfl, Nat.le_of_ble_eq_true rfl⟩, hts _ mw_429, hts _ mw_430⟩ (ow_preV hB k0 rfl) rfl rfl hl.1 rfl (lv_room (Nat.le_of_ble_eq_true rfl)) dc_P_copyWithout_94 ⟨Nat.zero_le _, Nat.zero_le _⟩) hB (fun r5 M4 H locs h hB => ?_)
      refine lv_pop hx hb dc_P_copyWithout_97 rfl ?_
      refine lv_iinc hx hb dc_P_copyWithout_98 hl (k := 3) rfl rfl (by decide) rfl (fun ls hl => ?_)
      refine lv_goto hx hb dc_P_copyWithout_101 rfl ?_
      exact hK65 _ _ _ _ _ h hB (lv_sub hl [1, 2, 3, 0] rfl)
  have L65 : ∀   (M : om_M) (x3 : Int32) (H : Heap) (locs : List Loc) (ls : Array Slot), wp_P_copyWithout_65 F o0 o1 x2 Q   M x3 → ow_B G D cA ad (ow_A G ad) M s s.heap H locs → lv_has ls 4 [(0, .ref (ad o0)), (1, .ref (ad o1)), (2, .int x2), (3, .int x3)] → W p l e rm_P_copyWithout s m ([.ref (ad o0), .ref (ad o1), .int x2] : List Value).toArray below meth c H locs 0 0 (MQ below (ow_Qv G D cA ad Q) ([.ref (ad o0), .ref (ad o1), .int x2] : List Value).toArray s 0 0 (ow_A G ad)) (F0 m 65 ls []) := by
    have step : ∀ (k : Nat) (M : om_M) (x3 : Int32) (H : Heap) (locs : List Loc) (ls : Array Slot), ow_lp (fun (z : om_M × Int32) K => wp_P_copyWithout_65b F o0 o1 x2 Q   K z.1 z.2) k (M, x3) → ow_B G D cA ad (ow_A G ad) M s s.heap H locs → lv_has ls 4 [(0, .ref (ad o0)), (1, .ref (ad o1)), (2, .int x2), (3, .int x3)] → W p l e rm_P_copyWithout s m ([.ref (ad o0), .ref (ad o1), .int x2] : List Value).toArray below meth c H locs 0 0 (MQ below (ow_Qv G D cA ad Q) ([.ref (ad o0), .ref (ad o1), .int x2] : List Value).toArray s 0 0 (ow_A G ad)) (F0 m 65 ls []) := by
      intro k
      induction k with
      | zero => intro M x3 H locs ls h hB hl; exact False.elim h
      | succ k ih => intro M x3 H locs ls h hB hl; exact B65   (ow_lp _ k) (fun M x3 H locs ls h hB  hl => ih M x3  H locs ls h hB hl) M x3 H locs ls h hB hl
    intro M x3 H locs ls h hB hl
    exact step F M x3 H locs ls h hB hl
  have hl := lv_entry ([.ref (ad o0), .ref (ad o1), .int x2]) (n := 4) (Nat.le_of_ble_eq_true rfl)
  rw [lg_entry_eq]
  generalize (lg_sl ([.ref (ad o0), .ref (ad o1), .int x2]) ++ List.replicate (4 - (lg_sl ([.ref (ad o0), .ref (ad o1), .int x2])).length) Slot.unset).toArray = ls at hl ⊢
  have hl : lv_has ls 4 [(0, .ref (ad o0)), (1, .ref (ad o1)), (2, .int x2)] := hl
  show W p l e rm_P_copyWithout s m _ below meth c s.heap [] 0 0 _ _
  refine lv_aload_n hx hb dc_P_copyWithout_0 rfl (lv_at hl 0 rfl) ?_
  refine lv_aload_n hx hb dc_P_copyWithout_1 rfl (lv_at hl 1 rfl) ?_
  refine ow_get hx hb hts iw_P hown hB k1 rfl 5 (by decide) mw_59 rfl dc_P_copyWithout_2 ?_
  refine lv_iconst (v := 1) hx hb dc_P_copyWithout_5 rfl ?_
  refine lv_isub hx hb dc_P_copyWithout_6 ?_
  refine ow_put hx hb hts iw_P yf_P of_P nf_P hown hB k0 rfl 5 (by decide) mw_59 rfl (by decide +kernel) (Nat.le_of_ble_eq_true rfl) rfl dc_P_copyWithout_7 (fun H locs hB => ?_)
  refine lv_aload_n hx hb dc_P_copyWithout_10 rfl (lv_at hl 0 rfl) ?_
  refine lv_aload_n hx hb dc_P_copyWithout_11 rfl (lv_at hl 1 rfl) ?_
  refine ow_get hx hb hts iw_P hown hB k1 rfl 7 (by decide) mw_72 rfl dc_P_copyWithout_12 ?_
  refine lv_iload_n hx hb dc_P_copyWithout_15 rfl (lv_at hl 2 rfl) ?_
  refine lv_aload_n hx hb dc_P_copyWithout_16 rfl (lv_at hl 1 rfl) ?_
  refine ow_get hx hb hts iw_P hown hB k1 rfl 5 (by decide) mw_59 rfl dc_P_copyWithout_17 ?_
  refine ow_calli (va_runS (As := [.int ((om_up M o0 5 ((M.1 o1 5) - 1)).1 o1 7), .int x2, .int ((om_up M o0 5 ((M.1 o1 5) - 1)).1 o1 5)]) (rest := [.ref (ad o0)]) ⟨hx, hb, hml, hown, hts⟩ (ct_O_without l G hG D cA ad F _ _ _ _ _ h) ⟨ow_cb 3 hts mw_745 mw_3 mw_743 rfl rfl hd_O_without ⟨Nat.le_of_ble_eq_true rfl, Nat.le_of_ble_eq_true rfl⟩, hts _ mw_744⟩ (ow_preS hB) rfl rfl hl.1 rfl (lv_room (Nat.le_of_ble_eq_true rfl)) dc_P_copyWithout_20 ⟨Nat.zero_le _, Nat.zero_le _⟩) hB (fun r7 M6 H locs h hB => ?_)
  refine ow_put hx hb hts iw_P yf_P of_P nf_P hown hB k0 rfl 7 (by decide) mw_72 rfl (by decide +kernel) (Nat.le_of_ble_eq_true rfl) rfl dc_P_copyWithout_23 (fun H locs hB => ?_)
  refine lv_aload_n hx hb dc_P_copyWithout_26 rfl (lv_at hl 0 rfl) ?_
  refine lv_aload_n hx hb dc_P_copyWithout_27 rfl (lv_at hl 1 rfl) ?_
  refine ow_get hx hb hts iw_P hown hB k1 rfl 8 (by decide) mw_75 rfl dc_P_copyWithout_28 ?_
  refine lv_iload_n hx hb dc_P_copyWithout_31 rfl (lv_at hl 2 rfl) ?_
  refine lv_aload_n hx hb dc_P_copyWithout_32 rfl (lv_at hl 1 rfl) ?_
  refine ow_get hx hb hts iw_P hown hB k1 rfl 5 (by decide) mw_59 rfl dc_P_copyWithout_33 ?_
  refine ow_calli (va_runS (As := [.int ((om_up M6 o0 7 r7).1 o1 8), .int x2, .int ((om_up M6 o0 7 r7).1 o1 5)]) (rest := [.ref (ad o0)]) ⟨hx, hb, hml, hown, hts⟩ (ct_O_without l G hG D cA ad F _ _ _ _ _ h) ⟨ow_cb 3 hts mw_745 mw_3 mw_743 rfl rfl hd_O_without ⟨Nat.le_of_ble_eq_true rfl, Nat.le_of_ble_eq_true rfl⟩, hts _ mw_744⟩ (ow_preS hB) rfl rfl hl.1 rfl (lv_room (Nat.le_of_ble_eq_true rfl)) dc_P_copyWithout_36 ⟨Nat.zero_le _, Nat.zero_le _⟩) hB (fun r9 M8 H locs h hB => ?_)
  refine ow_put hx hb hts iw_P yf_P of_P nf_P hown hB k0 rfl 8 (by decide) mw_75 rfl (by decide +kernel) (Nat.le_of_ble_eq_true rfl) rfl dc_P_copyWithout_39 (fun H locs hB => ?_)
  refine lv_aload_n hx hb dc_P_copyWithout_42 rfl (lv_at hl 1 rfl) ?_
  refine ow_get hx hb hts iw_P hown hB k1 rfl 2 (by decide) mw_47 rfl dc_P_copyWithout_43 ?_
  refine lv_iconst (v := 0) hx hb dc_P_copyWithout_46 rfl ?_
  refine lv_aload_n hx hb dc_P_copyWithout_47 rfl (lv_at hl 0 rfl) ?_
  refine ow_get hx hb hts iw_P hown hB k0 rfl 2 (by decide) mw_47 rfl dc_P_copyWithout_48 ?_
  refine lv_iconst (v := 0) hx hb dc_P_copyWithout_51 rfl ?_
  refine lv_aload_n hx hb dc_P_copyWithout_52 rfl (lv_at hl 0 rfl) ?_
  refine ow_get hx hb hts iw_P hown hB k0 rfl 5 (by decide) mw_59 rfl dc_P_copyWithout_53 ?_
  obtain ⟨hy, h⟩ := h
  refine ow_copy hx hb (hml.trans hl.1.symm) hown (hts _ mw_681) (hts _ mw_683) (hts _ mw_682) (hts _ mw_22) hB (ly_P_weights hG k1) (ly_P_weights hG k0) hy (Nat.le_of_ble_eq_true rfl) (by decide) dc_P_copyWithout_56 (fun H locs hB => ?_)
  refine lv_aload_n hx hb dc_P_copyWithout_59 rfl (lv_at hl 0 rfl) ?_
  refine ow_callv (va_runV (As := []) (rest := []) ⟨hx, hb, hml, hown, hts⟩ (ct_P_empty l G hG D cA ad F _ k0 _ _ h) ⟨ow_cb 0 hts mw_108 mw_2 mw_105 rfl rfl hd_P_empty ⟨Nat.le_of_ble_eq_true rfl, Nat.le_of_ble_eq_true rfl⟩, hts _ mw_107, hts _ ms_0⟩ (ow_preV hB k0 rfl) rfl rfl hl.1 rfl (lv_room (Nat.le_of_ble_eq_true rfl)) dc_P_copyWithout_60 ⟨Nat.zero_le _, Nat.zero_le _⟩) hB (fun M10 H locs h hB => ?_)
  refine lv_iconst (v := 0) hx hb dc_P_copyWithout_63 rfl ?_
  refine lv_istore_n hx hb dc_P_copyWithout_64 rfl hl (by decide) rfl (fun ls hl => ?_)
  exact L65 _ _ _ _ _ h hB (lv_sub hl [1, 2, 3, 0] rfl)
abbrev rm_P_replace : Room := { frames := 2, cells := 0, slots := 0, locals := 47 }
theorem hd_P_replace : yn_P_replace.cls ≠ "java/lang/invoke/MethodHandle" ∧ yn_P_replace.cls ≠ "java/lang/invoke/VarHandle" ∧ (parseMethodDescriptor yn_P_replace.desc).map (fun d => d.parameters.length) = some 3 := by decide +kernel
set_option maxHeartbeats 4000000 in
set_option maxRecDepth 100000 in
theorem ct_P_replace (l : Launch) (G : List (Nat × Nat)) (hG : ow_lay G) (D : va_G) (cA : Nat → ClassId) (ad : Nat → Nat) (F : Nat) (o0 : Nat) (k0 : ow_kd G o0 = (3, 1)) (x1 : Int32) (x2 : Int32) (x3 : Int32) (M : om_M) (Q : om_M → Prop) (h : wp_P_replace F o0 x1 x2 x3 M Q) : Met l yn_P_replace (ow_ws yn_P_replace cb_P_replace 4 none) rm_P_replace (ow_Pc G D cA ad M [.ref (ad o0), .int x1, .int x2, .int x3]) (ow_Qv G D cA ad Q) 0 0 (ow_A G ad) := by
  refine Met.ofW (cc := cb_P_replace) (maxL := 4) (ret := none) (by decide) rfl ?_
  intro p e s m args below meth c s₁ B hml hv
  obtain ⟨rfl, hB⟩ := hv
  have hx := B.exec
  have hb := B.bytes
  have hr := B.returns
  have hlocks := B.notSynchronized
  have hts : ∀ w ∈ lw_g, w.before ([.ref (ad o0), .int x1, .int x2, .int x3] : List Value).toArray s = true := fun w h => atoms_spec (ws := ow_ws yn_P_replace cb_P_replace 4 none) B.pre w (List.mem_cons_of_mem _ h)
  have hown : s.vm.findClass "BallotDesk$Poll" = some m.cls := findClass_of_methodNamed B.named
  clear B
  have hl := lv_entry ([.ref (ad o0), .int x1, .int x2, .int x3]) (n := 4) (Nat.le_of_ble_eq_true rfl)
  rw [lg_entry_eq]
  generalize (lg_sl ([.ref (ad o0), .int x1, .int x2, .int x3]) ++ List.replicate (4 - (lg_sl ([.ref (ad o0), .int x1, .int x2, .int x3])).length) Slot.unset).toArray = ls at hl ⊢
  have hl : lv_has ls 4 [(0, .ref (ad o0)), (1, .int x1), (2, .int x2), (3, .int x3)] := hl
  show W p l e rm_P_replace s m _ below meth c s.heap [] 0 0 _ _
  refine lv_aload_n hx hb dc_P_replace_0 rfl (lv_at hl 0 rfl) ?_
  refine lv_aload_n hx hb dc_P_replace_1 rfl (lv_at hl 0 rfl) ?_
  refine ow_get hx hb hts iw_P hown hB k0 rfl 0 (by decide) mw_39 rfl dc_P_replace_2 ?_
  refine lv_iload_n hx hb dc_P_replace_5 rfl (lv_at hl 1 rfl) ?_
  obtain ⟨hi1, h⟩ := h
  refine ow_iald hx hb hB (ly_P_orders hG k0) hi1 dc_P_replace_6 ?_
  refine lv_aload_n hx hb dc_P_replace_7 rfl (lv_at hl 0 rfl) ?_
  refine ow_get hx hb hts iw_P hown hB k0 rfl 1 (by decide) mw_43 rfl dc_P_replace_8 ?_
  refine lv_iload_n hx hb dc_P_replace_11 rfl (lv_at hl 1 rfl) ?_
  refine ow_iald hx hb hB (ly_P_voters hG k0) hi1 dc_P_replace_12 ?_
  refine lv_ineg hx hb dc_P_replace_13 ?_
  refine ow_callv (va_runV (As := [.int (M.1 (o0 + 1) x1.toNatClampNeg), .int (-(M.1 (o0 + 2) x1.toNatClampNeg))]) (rest := []) ⟨hx, hb, hml, hown, hts⟩ (ct_P_tally l G hG D cA ad F _ k0 _ _ _ _ h) ⟨ow_cb 2 hts mw_435 mw_2 mw_432 rfl rfl hd_P_tally ⟨Nat.le_of_ble_eq_true rfl, Nat.le_of_ble_eq_true rfl⟩, hts _ mw_434, hts _ ms_8⟩ (ow_preV hB k0 rfl) rfl rfl hl.1 rfl (lv_room (Nat.le_of_ble_eq_true rfl)) dc_P_replace_14 ⟨Nat.zero_le _, Nat.zero_le _⟩) hB (fun M2 H locs h hB => ?_)
  refine lv_aload_n hx hb dc_P_replace_17 rfl (lv_at hl 0 rfl) ?_
  refine ow_get hx hb hts iw_P hown hB k0 rfl 0 (by decide) mw_39 rfl dc_P_replace_18 ?_
  refine lv_iload_n hx hb dc_P_replace_21 rfl (lv_at hl 1 rfl) ?_
  refine lv_iload_n hx hb dc_P_replace_22 rfl (lv_at hl 2 rfl) ?_
  refine ow_iast hx hb hB (ly_P_orders hG k0) hi1 dc_P_replace_23 (fun H locs hB => ?_)
  refine lv_aload_n hx hb dc_P_replace_24 rfl (lv_at hl 0 rfl) ?_
  refine ow_get hx hb hts iw_P hown hB k0 rfl 1 (by decide) mw_43 rfl dc_P_replace_25 ?_
  refine lv_iload_n hx hb dc_P_replace_28 rfl (lv_at hl 1 rfl) ?_
  refine lv_iload_n hx hb dc_P_replace_29 rfl (lv_at hl 3 rfl) ?_
  refine ow_iast hx hb hB (ly_P_voters hG k0) hi1 dc_P_replace_30 (fun H locs hB => ?_)
  refine lv_aload_n hx hb dc_P_replace_31 rfl (lv_at hl 0 rfl) ?_
  refine lv_iload_n hx hb dc_P_replace_32 rfl (lv_at hl 2 rfl) ?_
  refine lv_iload_n hx hb dc_P_replace_33 rfl (lv_at hl 3 rfl) ?_
  refine ow_callv (va_runV (As := [.int x2, .int x3]) (rest := []) ⟨hx, hb, hml, hown, hts⟩ (ct_P_tally l G hG D cA ad F _ k0 _ _ _ _ h) ⟨ow_cb 2 hts mw_435 mw_2 mw_432 rfl rfl hd_P_tally ⟨Nat.le_of_ble_eq_true rfl, Nat.le_of_ble_eq_true rfl⟩, hts _ mw_434, hts _ ms_8⟩ (ow_preV hB k0 rfl) rfl rfl hl.1 rfl (lv_room (Nat.le_of_ble_eq_true rfl)) dc_P_replace_34 ⟨Nat.zero_le _, Nat.zero_le _⟩) hB (fun M3 H locs h hB => ?_)
  exact ow_vret hx hb hr hlocks hB h dc_P_replace_37
abbrev rm_P_remove : Room := { frames := 2, cells := 0, slots := 0, locals := 47 }
theorem hd_P_remove : yn_P_remove.cls ≠ "java/lang/invoke/MethodHandle" ∧ yn_P_remove.cls ≠ "java/lang/invoke/VarHandle" ∧ (parseMethodDescriptor yn_P_remove.desc).map (fun d => d.parameters.length) = some 1 := by decide +kernel
set_option maxHeartbeats 4000000 in
set_option maxRecDepth 100000 in
theorem ct_P_remove (l : Launch) (G : List (Nat × Nat)) (hG : ow_lay G) (D : va_G) (cA : Nat → ClassId) (ad : Nat → Nat) (F : Nat) (o0 : Nat) (k0 : ow_kd G o0 = (3, 1)) (x1 : Int32) (M : om_M) (Q : om_M → Prop) (h : wp_P_remove F o0 x1 M Q) : Met l yn_P_remove (ow_ws yn_P_remove cb_P_remove 3 none) rm_P_remove (ow_Pc G D cA ad M [.ref (ad o0), .int x1]) (ow_Qv G D cA ad Q) 0 0 (ow_A G ad) := by
  refine Met.ofW (cc := cb_P_remove) (maxL := 3) (ret := none) (by decide) rfl ?_
  intro p e s m args below meth c s₁ B hml hv
  obtain ⟨rfl, hB⟩ := hv
  have hx := B.exec
  have hb := B.bytes
  have hr := B.returns
  have hlocks := B.notSynchronized
  have hts : ∀ w ∈ lw_g, w.before ([.ref (ad o0), .int x1] : List Value).toArray s = true := fun w h => atoms_spec (ws := ow_ws yn_P_remove cb_P_remove 3 none) B.pre w (List.mem_cons_of_mem _ h)
  have hown : s.vm.findClass "BallotDesk$Poll" = some m.cls := findClass_of_methodNamed B.named
  clear B
  have B29 : ∀   (K29 : om_M × Int32 → Prop) (hK29 : ∀ (M : om_M) (x2 : Int32) (H : Heap) (locs : List Loc) (ls : Array Slot), K29 (M, x2) → ow_B G D cA ad (ow_A G ad) M s s.heap H locs → lv_has ls 3 [(0, .ref (ad o0)), (2, .int x2)] → W p l e rm_P_remove s m ([.ref (ad o0), .int x1] : List Value).toArray below meth c H locs 0 0 (MQ below (ow_Qv G D cA ad Q) ([.ref (ad o0), .int x1] : List Value).toArray s 0 0 (ow_A G ad)) (F0 m 29 ls [])) (M : om_M) (x2 : Int32) (H : Heap) (locs : List Loc) (ls : Array Slot), wp_P_remove_29b F o0 x1 Q   K29 M x2 → ow_B G D cA ad (ow_A G ad) M s s.heap H locs → lv_has ls 3 [(0, .ref (ad o0)), (2, .int x2)] → W p l e rm_P_remove s m ([.ref (ad o0), .int x1] : List Value).toArray below meth c H locs 0 0 (MQ below (ow_Qv G D cA ad Q) ([.ref (ad o0), .int x1] : List Value).toArray s 0 0 (ow_A G ad)) (F0 m 29 ls []) := by
    intro   K29 hK29 M x2 H locs ls h hB hl
    refine lv_iload_n hx hb dc_P_remove_29 rfl (lv_at hl 1 rfl) ?_
    refine lv_aload_n hx hb dc_P_remove_30 rfl (lv_at hl 0 rfl) ?_
    refine ow_get hx hb hts iw_P hown hB k0 rfl 6 (by decide) mw_68 rfl dc_P_remove_31 ?_
    obtain ⟨h1, h2⟩ := h
    refine lv_icmp_ge hx hb dc_P_remove_34 rfl (fun hc => ?_) (fun hc => ?_)
    · have h := h1 hc
      exact ow_vret hx hb hr hlocks hB h dc_P_remove_71
    · have h := h2 hc
      refine lv_aload_n hx hb dc_P_remove_37 rfl (lv_at hl 0 rfl) ?_
      refine ow_get hx hb hts iw_P hown hB k0 rfl 0 (by decide) mw_39 rfl dc_P_remove_38 ?_
      refine lv_iload_n hx hb dc_P_remove_41 rfl (lv_at hl 1 rfl) ?_
      refine lv_aload_n hx hb dc_P_remove_42 rfl (lv_at hl 0 rfl) ?_
      refine ow_get hx hb hts iw_P hown hB k0 rfl 0 (by decide) mw_39 rfl dc_P_remove_43 ?_
      refine lv_iload_n hx hb dc_P_remove_46 rfl (lv_at hl 1 rfl) ?_
      refine lv_iconst (v := 1) hx hb dc_P_remove_47 rfl ?_
      refine lv_iadd hx hb dc_P_remove_48 ?_
      obtain ⟨hi1, h⟩ := h
      refine ow_iald hx hb hB (ly_P_orders hG k0) hi1 dc_P_remove_49 ?_
      obtain ⟨hi2, h⟩ := h
      refine ow_iast hx hb hB (ly_P_orders hG k0) hi2 dc_P_remove_50 (fun H locs hB => ?_)
      refine lv_aload_n hx hb dc_P_remove_51 rfl (lv_at hl 0 rfl) ?_
      refine ow_get hx hb hts iw_P hown hB k0 rfl 1 (by decide) mw_43 rfl dc_P_remove_52 ?_
      refine lv_iload_n hx hb dc_P_remove_55 rfl (lv_at hl 1 rfl) ?_
      refine lv_aload_n hx hb dc_P_remove_56 rfl (lv_at hl 0 rfl) ?_
      refine ow_get hx hb hts iw_P hown hB k0 rfl 1 (by decide) mw_43 rfl dc_P_remove_57 ?_
      refine lv_iload_n hx hb dc_P_remove_60 rfl (lv_at hl 1 rfl) ?_
      refine lv_iconst (v := 1) hx hb dc_P_remove_61 rfl ?_
      refine lv_iadd hx hb dc_P_remove_62 ?_
      refine ow_iald hx hb hB (ly_P_voters hG k0) hi1 dc_P_remove_63 ?_
      refine ow_iast hx hb hB (ly_P_voters hG k0) hi2 dc_P_remove_64 (fun H locs hB => ?_)
      refine lv_iinc hx hb dc_P_remove_65 hl (k := 1) rfl rfl (by decide) rfl (fun ls hl => ?_)
      refine lv_goto hx hb dc_P_remove_68 rfl ?_
      exact hK29 _ _ _ _ _ h hB (lv_sub hl [1, 0] rfl)
  have L29 : ∀   (M : om_M) (x2 : Int32) (H : Heap) (locs : List Loc) (ls : Array Slot), wp_P_remove_29 F o0 x1 Q   M x2 → ow_B G D cA ad (ow_A G ad) M s s.heap H locs → lv_has ls 3 [(0, .ref (ad o0)), (2, .int x2)] → W p l e rm_P_remove s m ([.ref (ad o0), .int x1] : List Value).toArray below meth c H locs 0 0 (MQ below (ow_Qv G D cA ad Q) ([.ref (ad o0), .int x1] : List Value).toArray s 0 0 (ow_A G ad)) (F0 m 29 ls []) := by
    have step : ∀ (k : Nat) (M : om_M) (x2 : Int32) (H : Heap) (locs : List Loc) (ls : Array Slot), ow_lp (fun (z : om_M × Int32) K => wp_P_remove_29b F o0 x1 Q   K z.1 z.2) k (M, x2) → ow_B G D cA ad (ow_A G ad) M s s.heap H locs → lv_has ls 3 [(0, .ref (ad o0)), (2, .int x2)] → W p l e rm_P_remove s m ([.ref (ad o0), .int x1] : List Value).toArray below meth c H locs 0 0 (MQ below (ow_Qv G D cA ad Q) ([.ref (ad o0), .int x1] : List Value).toArray s 0 0 (ow_A G ad)) (F0 m 29 ls []) := by
      intro k
      induction k with
      | zero => intro M x2 H locs ls h hB hl; exact False.elim h
      | succ k ih => intro M x2 H locs ls h hB hl; exact B29   (ow_lp _ k) (fun M x2 H locs ls h hB  hl => ih M x2  H locs ls h hB hl) M x2 H locs ls h hB hl
    intro M x2 H locs ls h hB hl
    exact step F M x2 H locs ls h hB hl
  have hl := lv_entry ([.ref (ad o0), .int x1]) (n := 3) (Nat.le_of_ble_eq_true rfl)
  rw [lg_entry_eq]
  generalize (lg_sl ([.ref (ad o0), .int x1]) ++ List.replicate (3 - (lg_sl ([.ref (ad o0), .int x1])).length) Slot.unset).toArray = ls at hl ⊢
  have hl : lv_has ls 3 [(0, .ref (ad o0)), (1, .int x1)] := hl
  show W p l e rm_P_remove s m _ below meth c s.heap [] 0 0 _ _
  refine lv_aload_n hx hb dc_P_remove_0 rfl (lv_at hl 0 rfl) ?_
  refine lv_aload_n hx hb dc_P_remove_1 rfl (lv_at hl 0 rfl) ?_
  refine ow_get hx hb hts iw_P hown hB k0 rfl 0 (by decide) mw_39 rfl dc_P_remove_2 ?_
  refine lv_iload_n hx hb dc_P_remove_5 rfl (lv_at hl 1 rfl) ?_
  obtain ⟨hi3, h⟩ := h
  refine ow_iald hx hb hB (ly_P_orders hG k0) hi3 dc_P_remove_6 ?_
  refine lv_aload_n hx hb dc_P_remove_7 rfl (lv_at hl 0 rfl) ?_
  refine ow_get hx hb hts iw_P hown hB k0 rfl 1 (by decide) mw_43 rfl dc_P_remove_8 ?_
  refine lv_iload_n hx hb dc_P_remove_11 rfl (lv_at hl 1 rfl) ?_
  refine ow_iald hx hb hB (ly_P_voters hG k0) hi3 dc_P_remove_12 ?_
  refine lv_ineg hx hb dc_P_remove_13 ?_
  refine ow_callv (va_runV (As := [.int (M.1 (o0 + 1) x1.toNatClampNeg), .int (-(M.1 (o0 + 2) x1.toNatClampNeg))]) (rest := []) ⟨hx, hb, hml, hown, hts⟩ (ct_P_tally l G hG D cA ad F _ k0 _ _ _ _ h) ⟨ow_cb 2 hts mw_435 mw_2 mw_432 rfl rfl hd_P_tally ⟨Nat.le_of_ble_eq_true rfl, Nat.le_of_ble_eq_true rfl⟩, hts _ mw_434, hts _ ms_8⟩ (ow_preV hB k0 rfl) rfl rfl hl.1 rfl (lv_room (Nat.le_of_ble_eq_true rfl)) dc_P_remove_14 ⟨Nat.zero_le _, Nat.zero_le _⟩) hB (fun M4 H locs h hB => ?_)
  refine lv_aload_n hx hb dc_P_remove_17 rfl (lv_at hl 0 rfl) ?_
  refine lv_dup hx hb dc_P_remove_18 rfl ?_
  refine ow_get hx hb hts iw_P hown hB k0 rfl 6 (by decide) mw_68 rfl dc_P_remove_19 ?_
  refine lv_iconst (v := 1) hx hb dc_P_remove_22 rfl ?_
  refine lv_isub hx hb dc_P_remove_23 ?_
  refine ow_put hx hb hts iw_P yf_P of_P nf_P hown hB k0 rfl 6 (by decide) mw_68 rfl (by decide +kernel) (Nat.le_of_ble_eq_true rfl) rfl dc_P_remove_24 (fun H locs hB => ?_)
  refine lv_iload_n hx hb dc_P_remove_27 rfl (lv_at hl 1 rfl) ?_
  refine lv_istore_n hx hb dc_P_remove_28 rfl hl (by decide) rfl (fun ls hl => ?_)
  exact L29 _ _ _ _ _ h hB (lv_sub hl [1, 0] rfl)
abbrev rm_P_beats : Room := { frames := 0, cells := 0, slots := 0, locals := 0 }
theorem hd_P_beats : yn_P_beats.cls ≠ "java/lang/invoke/MethodHandle" ∧ yn_P_beats.cls ≠ "java/lang/invoke/VarHandle" ∧ (parseMethodDescriptor yn_P_beats.desc).map (fun d => d.parameters.length) = some 2 := by decide +kernel
set_option maxHeartbeats 4000000 in
set_option maxRecDepth 100000 in
theorem ct_P_beats (l : Launch) (G : List (Nat × Nat)) (hG : ow_lay G) (D : va_G) (cA : Nat → ClassId) (ad : Nat → Nat) (F : Nat) (o0 : Nat) (k0 : ow_kd G o0 = (3, 1)) (x1 : Int32) (x2 : Int32) (M : om_M) (Q : Int32 → om_M → Prop) (h : wp_P_beats F o0 x1 x2 M Q) : Met l yn_P_beats (ow_ws yn_P_beats cb_P_beats 3 (some .boolean)) rm_P_beats (ow_Pc G D cA ad M [.ref (ad o0), .int x1, .int x2]) (ow_Qi G D cA ad Q) 0 0 (ow_A G ad) := by
  refine Met.ofW (cc := cb_P_beats) (maxL := 3) (ret := (some .boolean)) (by decide) rfl ?_
  intro p e s m args below meth c s₁ B hml hv
  obtain ⟨rfl, hB⟩ := hv
  have hx := B.exec
  have hb := B.bytes
  have hr := B.returns
  have hlocks := B.notSynchronized
  have hts : ∀ w ∈ lw_g, w.before ([.ref (ad o0), .int x1, .int x2] : List Value).toArray s = true := fun w h => atoms_spec (ws := ow_ws yn_P_beats cb_P_beats 3 (some .boolean)) B.pre w (List.mem_cons_of_mem _ h)
  have hown : s.vm.findClass "BallotDesk$Poll" = some m.cls := findClass_of_methodNamed B.named
  clear B
  have hl := lv_entry ([.ref (ad o0), .int x1, .int x2]) (n := 3) (Nat.le_of_ble_eq_true rfl)
  rw [lg_entry_eq]
  generalize (lg_sl ([.ref (ad o0), .int x1, .int x2]) ++ List.replicate (3 - (lg_sl ([.ref (ad o0), .int x1, .int x2])).length) Slot.unset).toArray = ls at hl ⊢
  have hl : lv_has ls 3 [(0, .ref (ad o0)), (1, .int x1), (2, .int x2)] := hl
  show W p l e rm_P_beats s m _ below meth c s.heap [] 0 0 _ _
  refine lv_aload_n hx hb dc_P_beats_0 rfl (lv_at hl 0 rfl) ?_
  refine ow_get hx hb hts iw_P hown hB k0 rfl 4 (by decide) mw_53 rfl dc_P_beats_1 ?_
  refine lv_iload_n hx hb dc_P_beats_4 rfl (lv_at hl 1 rfl) ?_
  obtain ⟨hi1, h⟩ := h
  refine ow_aald hx hb hB (ly_P_ahead hG k0) (by decide) hi1 dc_P_beats_5 ?_
  refine lv_iload_n hx hb dc_P_beats_6 rfl (lv_at hl 2 rfl) ?_
  obtain ⟨hi2, h⟩ := h
  refine ow_iald hx hb hB (ly_row2 hG (ly_P_ahead hG k0) hi1) hi2 dc_P_beats_7 ?_
  refine lv_aload_n hx hb dc_P_beats_8 rfl (lv_at hl 0 rfl) ?_
  refine ow_get hx hb hts iw_P hown hB k0 rfl 4 (by decide) mw_53 rfl dc_P_beats_9 ?_
  refine lv_iload_n hx hb dc_P_beats_12 rfl (lv_at hl 2 rfl) ?_
  refine ow_aald hx hb hB (ly_P_ahead hG k0) (by decide) hi2 dc_P_beats_13 ?_
  refine lv_iload_n hx hb dc_P_beats_14 rfl (lv_at hl 1 rfl) ?_
  refine ow_iald hx hb hB (ly_row2 hG (ly_P_ahead hG k0) hi2) hi1 dc_P_beats_15 ?_
  obtain ⟨h1, h2⟩ := h
  refine lv_icmp_le hx hb dc_P_beats_16 rfl (fun hc => ?_) (fun hc => ?_)
  · have h := h1 hc
    refine lv_iconst (v := 0) hx hb dc_P_beats_23 rfl ?_
    exact ow_zret hx hb hr hlocks (by decide) hB h dc_P_beats_24
  · have h := h2 hc
    refine lv_iconst (v := 1) hx hb dc_P_beats_19 rfl ?_
    refine lv_goto hx hb dc_P_beats_20 rfl ?_
    exact ow_zret hx hb hr hlocks (by decide) hB h dc_P_beats_24
abbrev rm_P_beatenBy : Room := { frames := 1, cells := 0, slots := 0, locals := 22 }
theorem hd_P_beatenBy : yn_P_beatenBy.cls ≠ "java/lang/invoke/MethodHandle" ∧ yn_P_beatenBy.cls ≠ "java/lang/invoke/VarHandle" ∧ (parseMethodDescriptor yn_P_beatenBy.desc).map (fun d => d.parameters.length) = some 1 := by decide +kernel
set_option maxHeartbeats 4000000 in
set_option maxRecDepth 100000 in
theorem ct_P_beatenBy (l : Launch) (G : List (Nat × Nat)) (hG : ow_lay G) (D : va_G) (cA : Nat → ClassId) (ad : Nat → Nat) (F : Nat) (o0 : Nat) (k0 : ow_kd G o0 = (3, 1)) (x1 : Int32) (M : om_M) (Q : Int32 → om_M → Prop) (h : wp_P_beatenBy F o0 x1 M Q) : Met l yn_P_beatenBy (ow_ws yn_P_beatenBy cb_P_beatenBy 4 (some .int)) rm_P_beatenBy (ow_Pc G D cA ad M [.ref (ad o0), .int x1]) (ow_Qi G D cA ad Q) 0 0 (ow_A G ad) := by
  refine Met.ofW (cc := cb_P_beatenBy) (maxL := 4) (ret := (some .int)) (by decide) rfl ?_
  intro p e s m args below meth c s₁ B hml hv
  obtain ⟨rfl, hB⟩ := hv
  have hx := B.exec
  have hb := B.bytes
  have hr := B.returns
  have hlocks := B.notSynchronized
  have hts : ∀ w ∈ lw_g, w.before ([.ref (ad o0), .int x1] : List Value).toArray s = true := fun w h => atoms_spec (ws := ow_ws yn_P_beatenBy cb_P_beatenBy 4 (some .int)) B.pre w (List.mem_cons_of_mem _ h)
  have hown : s.vm.findClass "BallotDesk$Poll" = some m.cls := findClass_of_methodNamed B.named
  clear B
  have L27 : ∀  (K4 : om_M × Int32 × Int32 → Prop) (hK4 : ∀ (M : om_M) (x2 : Int32) (x3 : Int32) (H : Heap) (locs : List Loc) (ls : Array Slot), K4 (M, x2, x3) → ow_B G D cA ad (ow_A G ad) M s s.heap H locs → lv_has ls 4 [(0, .ref (ad o0)), (1, .int x1), (2, .int x2), (3, .int x3)] → W p l e rm_P_beatenBy s m ([.ref (ad o0), .int x1] : List Value).toArray below meth c H locs 0 0 (MQ below (ow_Qi G D cA ad Q) ([.ref (ad o0), .int x1] : List Value).toArray s 0 0 (ow_A G ad)) (F0 m 4 ls [])) (M : om_M) (x2 : Int32) (x3 : Int32)  (H : Heap) (locs : List Loc) (ls : Array Slot), wp_P_beatenBy_27 F o0 x1 Q  K4 M x2 x3  → ow_B G D cA ad (ow_A G ad) M s s.heap H locs → lv_has ls 4 [(0, .ref (ad o0)), (1, .int x1), (2, .int x2), (3, .int x3)] → W p l e rm_P_beatenBy s m ([.ref (ad o0), .int x1] : List Value).toArray below meth c H locs 0 0 (MQ below (ow_Qi G D cA ad Q) ([.ref (ad o0), .int x1] : List Value).toArray s 0 0 (ow_A G ad)) (F0 m 27 ls []) := by
    intro  K4 hK4 M x2 x3 H locs ls h hB hl
    refine lv_iinc hx hb dc_P_beatenBy_27 hl (k := 3) rfl rfl (by decide) rfl (fun ls hl => ?_)
    refine lv_goto hx hb dc_P_beatenBy_30 rfl ?_
    exact hK4 _ _ _ _ _ _ h hB (lv_sub hl [1, 2, 3, 0] rfl)
  have B4 : ∀   (K4 : om_M × Int32 × Int32 → Prop) (hK4 : ∀ (M : om_M) (x2 : Int32) (x3 : Int32) (H : Heap) (locs : List Loc) (ls : Array Slot), K4 (M, x2, x3) → ow_B G D cA ad (ow_A G ad) M s s.heap H locs → lv_has ls 4 [(0, .ref (ad o0)), (1, .int x1), (2, .int x2), (3, .int x3)] → W p l e rm_P_beatenBy s m ([.ref (ad o0), .int x1] : List Value).toArray below meth c H locs 0 0 (MQ below (ow_Qi G D cA ad Q) ([.ref (ad o0), .int x1] : List Value).toArray s 0 0 (ow_A G ad)) (F0 m 4 ls [])) (M : om_M) (x2 : Int32) (x3 : Int32) (H : Heap) (locs : List Loc) (ls : Array Slot), wp_P_beatenBy_4b F o0 x1 Q   K4 M x2 x3 → ow_B G D cA ad (ow_A G ad) M s s.heap H locs → lv_has ls 4 [(0, .ref (ad o0)), (1, .int x1), (2, .int x2), (3, .int x3)] → W p l e rm_P_beatenBy s m ([.ref (ad o0), .int x1] : List Value).toArray below meth c H locs 0 0 (MQ below (ow_Qi G D cA ad Q) ([.ref (ad o0), .int x1] : List Value).toArray s 0 0 (ow_A G ad)) (F0 m 4 ls []) := by
    intro   K4 hK4 M x2 x3 H locs ls h hB hl
    refine lv_iload_n hx hb dc_P_beatenBy_4 rfl (lv_at hl 3 rfl) ?_
    refine lv_aload_n hx hb dc_P_beatenBy_5 rfl (lv_at hl 0 rfl) ?_
    refine ow_get hx hb hts iw_P hown hB k0 rfl 5 (by decide) mw_59 rfl dc_P_beatenBy_6 ?_
    obtain ⟨h1, h2⟩ := h
    refine lv_icmp_ge hx hb dc_P_beatenBy_9 rfl (fun hc => ?_) (fun hc => ?_)
    · have h := h1 hc
      refine lv_iload_n hx hb dc_P_beatenBy_33 rfl (lv_at hl 2 rfl) ?_
      exact ow_iret hx hb hr hlocks hB h dc_P_beatenBy_34
    · have h := h2 hc
      refine lv_aload_n hx hb dc_P_beatenBy_12 rfl (lv_at hl 0 rfl) ?_
      refine lv_iload_n hx hb dc_P_beatenBy_13 rfl (lv_at hl 1 rfl) ?_
      refine lv_iload_n hx hb dc_P_beatenBy_14 rfl (lv_at hl 3 rfl) ?_
      refine ow_calli (va_runV (As := [.int x1, .int x3]) (rest := []) ⟨hx, hb, hml, hown, hts⟩ (ct_P_beats l G hG D cA ad F _ k0 _ _ _ _ h) ⟨ow_cb 2 hts mw_526 mw_2 mw_581 rfl rfl hd_P_beats ⟨Nat.le_of_ble_eq_true rfl, Nat.le_of_ble_eq_true rfl⟩, hts _ mw_524, hts _ mw_525⟩ (ow_preV hB k0 rfl) rfl rfl hl.1 rfl (lv_room (Nat.le_of_ble_eq_true rfl)) dc_P_beatenBy_15 ⟨Nat.zero_le _, Nat.zero_le _⟩) hB (fun r2 M1 H locs h hB => ?_)
      obtain ⟨h1, h2⟩ := h
      refine lv_if_eq hx hb dc_P_beatenBy_18 rfl (fun hc => ?_) (fun hc => ?_)
      · have h := h1 hc
        exact L27 K4 hK4 _ _ _ _ _ _ h hB (lv_sub hl [0, 1, 2, 3] rfl)
      · have h := h2 hc
        refine lv_iload_n hx hb dc_P_beatenBy_21 rfl (lv_at hl 2 rfl) ?_
        refine lv_iconst (v := 1) hx hb dc_P_beatenBy_22 rfl ?_
        refine lv_iload_n hx hb dc_P_beatenBy_23 rfl (lv_at hl 3 rfl) ?_
        refine lv_ishl hx hb dc_P_beatenBy_24 ?_
        refine lv_ior hx hb dc_P_beatenBy_25 ?_
        refine lv_istore_n hx hb dc_P_beatenBy_26 rfl hl (by decide) rfl (fun ls hl => ?_)
        exact L27 K4 hK4 _ _ _ _ _ _ h hB (lv_sub hl [1, 2, 0, 3] rfl)
  have L4 : ∀   (M : om_M) (x2 : Int32) (x3 : Int32) (H : Heap) (locs : List Loc) (ls : Array Slot), wp_P_beatenBy_4 F o0 x1 Q   M x2 x3 → ow_B G D cA ad (ow_A G ad) M s s.heap H locs → lv_has ls 4 [(0, .ref (ad o0)), (1, .int x1), (2, .int x2), (3, .int x3)] → W p l e rm_P_beatenBy s m ([.ref (ad o0), .int x1] : List Value).toArray below meth c H locs 0 0 (MQ below (ow_Qi G D cA ad Q) ([.ref (ad o0), .int x1] : List Value).toArray s 0 0 (ow_A G ad)) (F0 m 4 ls []) := by
    have step : ∀ (k : Nat) (M : om_M) (x2 : Int32) (x3 : Int32) (H : Heap) (locs : List Loc) (ls : Array Slot), ow_lp (fun (z : om_M × Int32 × Int32) K => wp_P_beatenBy_4b F o0 x1 Q   K z.1 z.2.1 z.2.2) k (M, x2, x3) → ow_B G D cA ad (ow_A G ad) M s s.heap H locs → lv_has ls 4 [(0, .ref (ad o0)), (1, .int x1), (2, .int x2), (3, .int x3)] → W p l e rm_P_beatenBy s m ([.ref (ad o0), .int x1] : List Value).toArray below meth c H locs 0 0 (MQ below (ow_Qi G D cA ad Q) ([.ref (ad o0), .int x1] : List Value).toArray s 0 0 (ow_A G ad)) (F0 m 4 ls []) := by
      intro k
      induction k with
      | zero => intro M x2 x3 H locs ls h hB hl; exact False.elim h
      | succ k ih => intro M x2 x3 H locs ls h hB hl; exact B4   (ow_lp _ k) (fun M x2 x3 H locs ls h hB  hl => ih M x2 x3  H locs ls h hB hl) M x2 x3 H locs ls h hB hl
    intro M x2 x3 H locs ls h hB hl
    exact step F M x2 x3 H locs ls h hB hl
  have hl := lv_entry ([.ref (ad o0), .int x1]) (n := 4) (Nat.le_of_ble_eq_true rfl)
  rw [lg_entry_eq]
  generalize (lg_sl ([.ref (ad o0), .int x1]) ++ List.replicate (4 - (lg_sl ([.ref (ad o0), .int x1])).length) Slot.unset).toArray = ls at hl ⊢
  have hl : lv_has ls 4 [(0, .ref (ad o0)), (1, .int x1)] := hl
  show W p l e rm_P_beatenBy s m _ below meth c s.heap [] 0 0 _ _
  refine lv_iconst (v := 0) hx hb dc_P_beatenBy_0 rfl ?_
  refine lv_istore_n hx hb dc_P_beatenBy_1 rfl hl (by decide) rfl (fun ls hl => ?_)
  refine lv_iconst (v := 0) hx hb dc_P_beatenBy_2 rfl ?_
  refine lv_istore_n hx hb dc_P_beatenBy_3 rfl hl (by decide) rfl (fun ls hl => ?_)
  exact L4 _ _ _ _ _ _ h hB (lv_sub hl [2, 3, 1, 0] rfl)
abbrev rm_P_everyone : Room := { frames := 0, cells := 0, slots := 0, locals := 0 }
theorem hd_P_everyone : yn_P_everyone.cls ≠ "java/lang/invoke/MethodHandle" ∧ yn_P_everyone.cls ≠ "java/lang/invoke/VarHandle" ∧ (parseMethodDescriptor yn_P_everyone.desc).map (fun d => d.parameters.length) = some 0 := by decide +kernel
set_option maxHeartbeats 4000000 in
set_option maxRecDepth 100000 in
theorem ct_P_everyone (l : Launch) (G : List (Nat × Nat)) (hG : ow_lay G) (D : va_G) (cA : Nat → ClassId) (ad : Nat → Nat) (F : Nat) (o0 : Nat) (k0 : ow_kd G o0 = (3, 1)) (M : om_M) (Q : Int32 → om_M → Prop) (h : wp_P_everyone F o0 M Q) : Met l yn_P_everyone (ow_ws yn_P_everyone cb_P_everyone 1 (some .int)) rm_P_everyone (ow_Pc G D cA ad M [.ref (ad o0)]) (ow_Qi G D cA ad Q) 0 0 (ow_A G ad) := by
  refine Met.ofW (cc := cb_P_everyone) (maxL := 1) (ret := (some .int)) (by decide) rfl ?_
  intro p e s m args below meth c s₁ B hml hv
  obtain ⟨rfl, hB⟩ := hv
  have hx := B.exec
  have hb := B.bytes
  have hr := B.returns
  have hlocks := B.notSynchronized
  have hts : ∀ w ∈ lw_g, w.before ([.ref (ad o0)] : List Value).toArray s = true := fun w h => atoms_spec (ws := ow_ws yn_P_everyone cb_P_everyone 1 (some .int)) B.pre w (List.mem_cons_of_mem _ h)
  have hown : s.vm.findClass "BallotDesk$Poll" = some m.cls := findClass_of_methodNamed B.named
  clear B
  have hl := lv_entry ([.ref (ad o0)]) (n := 1) (Nat.le_of_ble_eq_true rfl)
  rw [lg_entry_eq]
  generalize (lg_sl ([.ref (ad o0)]) ++ List.replicate (1 - (lg_sl ([.ref (ad o0)])).length) Slot.unset).toArray = ls at hl ⊢
  have hl : lv_has ls 1 [(0, .ref (ad o0))] := hl
  show W p l e rm_P_everyone s m _ below meth c s.heap [] 0 0 _ _
  refine lv_iconst (v := 1) hx hb dc_P_everyone_0 rfl ?_
  refine lv_aload_n hx hb dc_P_everyone_1 rfl (lv_at hl 0 rfl) ?_
  refine ow_get hx hb hts iw_P hown hB k0 rfl 5 (by decide) mw_59 rfl dc_P_everyone_2 ?_
  refine lv_ishl hx hb dc_P_everyone_5 ?_
  refine lv_iconst (v := 1) hx hb dc_P_everyone_6 rfl ?_
  refine lv_isub hx hb dc_P_everyone_7 ?_
  exact ow_iret hx hb hr hlocks hB h dc_P_everyone_8
abbrev rm_P_allVoters : Room := { frames := 0, cells := 0, slots := 0, locals := 0 }
theorem hd_P_allVoters : yn_P_allVoters.cls ≠ "java/lang/invoke/MethodHandle" ∧ yn_P_allVoters.cls ≠ "java/lang/invoke/VarHandle" ∧ (parseMethodDescriptor yn_P_allVoters.desc).map (fun d => d.parameters.length) = some 0 := by decide +kernel
set_option maxHeartbeats 4000000 in
set_option maxRecDepth 100000 in
theorem ct_P_allVoters (l : Launch) (G : List (Nat × Nat)) (hG : ow_lay G) (D : va_G) (cA : Nat → ClassId) (ad : Nat → Nat) (F : Nat) (o0 : Nat) (k0 : ow_kd G o0 = (3, 1)) (M : om_M) (Q : Int32 → om_M → Prop) (h : wp_P_allVoters F o0 M Q) : Met l yn_P_allVoters (ow_ws yn_P_allVoters cb_P_allVoters 3 (some .int)) rm_P_allVoters (ow_Pc G D cA ad M [.ref (ad o0)]) (ow_Qi G D cA ad Q) 0 0 (ow_A G ad) := by
  refine Met.ofW (cc := cb_P_allVoters) (maxL := 3) (ret := (some .int)) (by decide) rfl ?_
  intro p e s m args below meth c s₁ B hml hv
  obtain ⟨rfl, hB⟩ := hv
  have hx := B.exec
  have hb := B.bytes
  have hr := B.returns
  have hlocks := B.notSynchronized
  have hts : ∀ w ∈ lw_g, w.before ([.ref (ad o0)] : List Value).toArray s = true := fun w h => atoms_spec (ws := ow_ws yn_P_allVoters cb_P_allVoters 3 (some .int)) B.pre w (List.mem_cons_of_mem _ h)
  have hown : s.vm.findClass "BallotDesk$Poll" = some m.cls := findClass_of_methodNamed B.named
  clear B
  have B4 : ∀   (K4 : om_M × Int32 × Int32 → Prop) (hK4 : ∀ (M : om_M) (x1 : Int32) (x2 : Int32) (H : Heap) (locs : List Loc) (ls : Array Slot), K4 (M, x1, x2) → ow_B G D cA ad (ow_A G ad) M s s.heap H locs → lv_has ls 3 [(0, .ref (ad o0)), (1, .int x1), (2, .int x2)] → W p l e rm_P_allVoters s m ([.ref (ad o0)] : List Value).toArray below meth c H locs 0 0 (MQ below (ow_Qi G D cA ad Q) ([.ref (ad o0)] : List Value).toArray s 0 0 (ow_A G ad)) (F0 m 4 ls [])) (M : om_M) (x1 : Int32) (x2 : Int32) (H : Heap) (locs : List Loc) (ls : Array Slot), wp_P_allVoters_4b F o0 Q   K4 M x1 x2 → ow_B G D cA ad (ow_A G ad) M s s.heap H locs → lv_has ls 3 [(0, .ref (ad o0)), (1, .int x1), (2, .int x2)] → W p l e rm_P_allVoters s m ([.ref (ad o0)] : List Value).toArray below meth c H locs 0 0 (MQ below (ow_Qi G D cA ad Q) ([.ref (ad o0)] : List Value).toArray s 0 0 (ow_A G ad)) (F0 m 4 ls []) := by
    intro   K4 hK4 M x1 x2 H locs ls h hB hl
    refine lv_iload_n hx hb dc_P_allVoters_4 rfl (lv_at hl 2 rfl) ?_
    refine lv_aload_n hx hb dc_P_allVoters_5 rfl (lv_at hl 0 rfl) ?_
    refine ow_get hx hb hts iw_P hown hB k0 rfl 6 (by decide) mw_68 rfl dc_P_allVoters_6 ?_
    obtain ⟨h1, h2⟩ := h
    refine lv_icmp_ge hx hb dc_P_allVoters_9 rfl (fun hc => ?_) (fun hc => ?_)
    · have h := h1 hc
      refine lv_iload_n hx hb dc_P_allVoters_27 rfl (lv_at hl 1 rfl) ?_
      exact ow_iret hx hb hr hlocks hB h dc_P_allVoters_28
    · have h := h2 hc
      refine lv_iload_n hx hb dc_P_allVoters_12 rfl (lv_at hl 1 rfl) ?_
      refine lv_aload_n hx hb dc_P_allVoters_13 rfl (lv_at hl 0 rfl) ?_
      refine ow_get hx hb hts iw_P hown hB k0 rfl 1 (by decide) mw_43 rfl dc_P_allVoters_14 ?_
      refine lv_iload_n hx hb dc_P_allVoters_17 rfl (lv_at hl 2 rfl) ?_
      obtain ⟨hi1, h⟩ := h
      refine ow_iald hx hb hB (ly_P_voters hG k0) hi1 dc_P_allVoters_18 ?_
      refine lv_iadd hx hb dc_P_allVoters_19 ?_
      refine lv_istore_n hx hb dc_P_allVoters_20 rfl hl (by decide) rfl (fun ls hl => ?_)
      refine lv_iinc hx hb dc_P_allVoters_21 hl (k := 2) rfl rfl (by decide) rfl (fun ls hl => ?_)
      refine lv_goto hx hb dc_P_allVoters_24 rfl ?_
      exact hK4 _ _ _ _ _ _ h hB (lv_sub hl [2, 1, 0] rfl)
  have L4 : ∀   (M : om_M) (x1 : Int32) (x2 : Int32) (H : Heap) (locs : List Loc) (ls : Array Slot), wp_P_allVoters_4 F o0 Q   M x1 x2 → ow_B G D cA ad (ow_A G ad) M s s.heap H locs → lv_has ls 3 [(0, .ref (ad o0)), (1, .int x1), (2, .int x2)] → W p l e rm_P_allVoters s m ([.ref (ad o0)] : List Value).toArray below meth c H locs 0 0 (MQ below (ow_Qi G D cA ad Q) ([.ref (ad o0)] : List Value).toArray s 0 0 (ow_A G ad)) (F0 m 4 ls []) := by
    have step : ∀ (k : Nat) (M : om_M) (x1 : Int32) (x2 : Int32) (H : Heap) (locs : List Loc) (ls : Array Slot), ow_lp (fun (z : om_M × Int32 × Int32) K => wp_P_allVoters_4b F o0 Q   K z.1 z.2.1 z.2.2) k (M, x1, x2) → ow_B G D cA ad (ow_A G ad) M s s.heap H locs → lv_has ls 3 [(0, .ref (ad o0)), (1, .int x1), (2, .int x2)] → W p l e rm_P_allVoters s m ([.ref (ad o0)] : List Value).toArray below meth c H locs 0 0 (MQ below (ow_Qi G D cA ad Q) ([.ref (ad o0)] : List Value).toArray s 0 0 (ow_A G ad)) (F0 m 4 ls []) := by
      intro k
      induction k with
      | zero => intro M x1 x2 H locs ls h hB hl; exact False.elim h
      | succ k ih => intro M x1 x2 H locs ls h hB hl; exact B4   (ow_lp _ k) (fun M x1 x2 H locs ls h hB  hl => ih M x1 x2  H locs ls h hB hl) M x1 x2 H locs ls h hB hl
    intro M x1 x2 H locs ls h hB hl
    exact step F M x1 x2 H locs ls h hB hl
  have hl := lv_entry ([.ref (ad o0)]) (n := 3) (Nat.le_of_ble_eq_true rfl)
  rw [lg_entry_eq]
  generalize (lg_sl ([.ref (ad o0)]) ++ List.replicate (3 - (lg_sl ([.ref (ad o0)])).length) Slot.unset).toArray = ls at hl ⊢
  have hl : lv_has ls 3 [(0, .ref (ad o0))] := hl
  show W p l e rm_P_allVoters s m _ below meth c s.heap [] 0 0 _ _
  refine lv_iconst (v := 0) hx hb dc_P_allVoters_0 rfl ?_
  refine lv_istore_n hx hb dc_P_allVoters_1 rfl hl (by decide) rfl (fun ls hl => ?_)
  refine lv_iconst (v := 0) hx hb dc_P_allVoters_2 rfl ?_
  refine lv_istore_n hx hb dc_P_allVoters_3 rfl hl (by decide) rfl (fun ls hl => ?_)
  exact L4 _ _ _ _ _ _ h hB (lv_sub hl [2, 1, 0] rfl)
