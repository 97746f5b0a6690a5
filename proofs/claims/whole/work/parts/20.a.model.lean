def wp_M_reset_52 (F : Nat) (o0 : Nat) (Q : om_M → Prop)  (K7 : om_M × Int32 → Prop) (M : om_M) (x1 : Int32) (t0 : Nat) (t1 : Int32) (t2 : Int32) : Prop := vp_in t1 7 ∧ K7 (om_up M t0 t1.toNatClampNeg t2, x1 + 1)
def wp_M_reset_7b (F : Nat) (o0 : Nat) (Q : om_M → Prop)   (K7 : om_M × Int32 → Prop) (M : om_M) (x1 : Int32) : Prop := ((7 ≤ x1 → Q M) ∧ (¬ 7 ≤ x1 → vp_in x1 7 ∧ ((((om_up (om_up M (o0 + 3) x1.toNatClampNeg x1) (o0 + 4) x1.toNatClampNeg x1).1 o0 1) ≤ x1 → wp_M_reset_52 F o0 Q K7 (om_up (om_up M (o0 + 3) x1.toNatClampNeg x1) (o0 + 4) x1.toNatClampNeg x1) x1 (o0 + 5) x1 0) ∧ (¬ ((om_up (om_up M (o0 + 3) x1.toNatClampNeg x1) (o0 + 4) x1.toNatClampNeg x1).1 o0 1) ≤ x1 → wp_M_reset_52 F o0 Q K7 (om_up (om_up M (o0 + 3) x1.toNatClampNeg x1) (o0 + 4) x1.toNatClampNeg x1) x1 (o0 + 5) x1 ((((om_up (om_up M (o0 + 3) x1.toNatClampNeg x1) (o0 + 4) x1.toNatClampNeg x1).1 o0 1) - 1) - x1)))))
def wp_M_reset_7 (F : Nat) (o0 : Nat) (Q : om_M → Prop)   (M : om_M) (x1 : Int32) : Prop := ow_lp (fun (z : om_M × Int32) K => wp_M_reset_7b F o0 Q   K z.1 z.2) F (M, x1)
def wp_M_reset (F : Nat) (o0 : Nat) (M : om_M) (Q : om_M → Prop) : Prop := wp_M_reset_7 F o0 Q (om_up M o0 2 0) 0
def wp_M_thrown (F : Nat) (o0 : Nat) (M : om_M) (Q : Int32 → om_M → Prop) : Prop := Q (M.1 o0 0) M
def wp_M_goes_18 (F : Nat) (o0 : Nat) (x1 : Int32) (x2 : Int32) (Q : Int32 → om_M → Prop)   (M : om_M)  (t0 : Nat) (t1 : Int32) : Prop := ((((om_up M t0 0 t1).1 o0 0) = 0 → Q 1 (om_up M t0 0 t1)) ∧ (¬ ((om_up M t0 0 t1).1 o0 0) = 0 → Q 0 (om_up M t0 0 t1)))
def wp_M_goes (F : Nat) (o0 : Nat) (x1 : Int32) (x2 : Int32) (M : om_M) (Q : Int32 → om_M → Prop) : Prop := ((x1 = 0 → wp_M_goes_18 F o0 x1 x2 Q M o0 1) ∧ (¬ x1 = 0 → ((x2 = 0 → wp_M_goes_18 F o0 x1 x2 Q M o0 2) ∧ (¬ x2 = 0 → wp_M_goes_18 F o0 x1 x2 Q M o0 0))))
def wp_M_within_14 (F : Nat) (x0 : Int32) (x1 : Int32) (x2 : Int32) (Q : Int32 → om_M → Prop)   (M : om_M)   : Prop := Q 0 M
def wp_M_within (F : Nat) (x0 : Int32) (x1 : Int32) (x2 : Int32) (M : om_M) (Q : Int32 → om_M → Prop) : Prop := ((x0 < x1 → wp_M_within_14 F x0 x1 x2 Q M) ∧ (¬ x0 < x1 → ((x2 < x0 → wp_M_within_14 F x0 x1 x2 Q M) ∧ (¬ x2 < x0 → Q 1 M))))
def wp_M_isOrder_62 (F : Nat) (o0 : Nat) (x1 : Int32) (Q : Int32 → om_M → Prop)   (M : om_M)   : Prop := Q 0 M
def wp_M_isOrder_31 (F : Nat) (o0 : Nat) (x1 : Int32) (Q : Int32 → om_M → Prop)   (M : om_M) (x2 : Int32)  : Prop := ((x1 < 0 → wp_M_isOrder_62 F o0 x1 Q M) ∧ (¬ x1 < 0 → (((x1 >>> (((3 : Int32) * (M.1 o0 1)) &&& 31)) = 0 → ((x2 = (((1 : Int32) <<< ((M.1 o0 1) &&& 31)) - 1) → Q 1 M) ∧ (¬ x2 = (((1 : Int32) <<< ((M.1 o0 1) &&& 31)) - 1) → wp_M_isOrder_62 F o0 x1 Q M))) ∧ (¬ (x1 >>> (((3 : Int32) * (M.1 o0 1)) &&& 31)) = 0 → wp_M_isOrder_62 F o0 x1 Q M))))
def wp_M_isOrder_4b (F : Nat) (o0 : Nat) (x1 : Int32) (Q : Int32 → om_M → Prop)   (K4 : om_M × Int32 × Int32 → Prop) (M : om_M) (x2 : Int32) (x3 : Int32) : Prop := (((M.1 o0 1) ≤ x3 → wp_M_isOrder_31 F o0 x1 Q M x2) ∧ (¬ (M.1 o0 1) ≤ x3 → K4 (M, x2 ||| ((1 : Int32) <<< (((x1 >>> (((3 : Int32) * x3) &&& 31)) &&& 7) &&& 31)), x3 + 1)))
def wp_M_isOrder_4 (F : Nat) (o0 : Nat) (x1 : Int32) (Q : Int32 → om_M → Prop)   (M : om_M) (x2 : Int32) (x3 : Int32) : Prop := ow_lp (fun (z : om_M × Int32 × Int32) K => wp_M_isOrder_4b F o0 x1 Q   K z.1 z.2.1 z.2.2) F (M, x2, x3)
def wp_M_isOrder (F : Nat) (o0 : Nat) (x1 : Int32) (M : om_M) (Q : Int32 → om_M → Prop) : Prop := wp_M_isOrder_4 F o0 x1 Q M 0 0
def wp_M_unpack_3b (F : Nat) (o0 : Nat) (x1 : Int32) (o2 : Nat) (n2 : Nat) (x3 : Int32) (Q : om_M → Prop)   (K3 : om_M × Int32 → Prop) (M : om_M) (x4 : Int32) : Prop := (((M.1 o0 1) ≤ x4 → Q M) ∧ (¬ (M.1 o0 1) ≤ x4 → vp_in (x3 + x4) n2 ∧ K3 (om_up M o2 (x3 + x4).toNatClampNeg ((x1 >>> (((3 : Int32) * x4) &&& 31)) &&& 7), x4 + 1)))
def wp_M_unpack_3 (F : Nat) (o0 : Nat) (x1 : Int32) (o2 : Nat) (n2 : Nat) (x3 : Int32) (Q : om_M → Prop)   (M : om_M) (x4 : Int32) : Prop := ow_lp (fun (z : om_M × Int32) K => wp_M_unpack_3b F o0 x1 o2 n2 x3 Q   K z.1 z.2) F (M, x4)
def wp_M_unpack (F : Nat) (o0 : Nat) (x1 : Int32) (o2 : Nat) (n2 : Nat) (x3 : Int32) (M : om_M) (Q : om_M → Prop) : Prop := wp_M_unpack_3 F o0 x1 o2 n2 x3 Q M 0
def wp_M_packed_5b (F : Nat) (o0 : Nat) (o1 : Nat) (n1 : Nat) (x2 : Int32) (Q : Int32 → om_M → Prop)   (K5 : om_M × Int32 × Int32 → Prop) (M : om_M) (x3 : Int32) (x4 : Int32) : Prop := (((M.1 o0 1) ≤ x4 → Q x3 M) ∧ (¬ (M.1 o0 1) ≤ x4 → vp_in (x2 + x4) n1 ∧ K5 (M, x3 ||| ((M.1 o1 (x2 + x4).toNatClampNeg) <<< (((3 : Int32) * x4) &&& 31)), x4 + 1)))
def wp_M_packed_5 (F : Nat) (o0 : Nat) (o1 : Nat) (n1 : Nat) (x2 : Int32) (Q : Int32 → om_M → Prop)   (M : om_M) (x3 : Int32) (x4 : Int32) : Prop := ow_lp (fun (z : om_M × Int32 × Int32) K => wp_M_packed_5b F o0 o1 n1 x2 Q   K z.1 z.2.1 z.2.2) F (M, x3, x4)
def wp_M_packed (F : Nat) (o0 : Nat) (o1 : Nat) (n1 : Nat) (x2 : Int32) (M : om_M) (Q : Int32 → om_M → Prop) : Prop := wp_M_packed_5 F o0 o1 n1 x2 Q M 0 0
def wp_M_candidates (F : Nat) (o0 : Nat) (x1 : Int32) (M : om_M) (Q : Int32 → om_M → Prop) : Prop := wp_M_within F x1 2 7 M (fun r2 M1 => wp_M_goes F o0 r2 1 M1 (fun r4 M3 => ((r4 = 0 → Q 0 M3) ∧ (¬ r4 = 0 → wp_M_reset F o0 (om_up M3 o0 1 x1) (fun M5 => Q (M3.1 o0 1) M5)))))
def wp_M_ballot_38 (F : Nat) (o0 : Nat) (x1 : Int32) (x2 : Int32) (Q : Int32 → om_M → Prop)   (M : om_M)  (t0 : Nat) (t1 : Int32) (t2 : Int32) : Prop := wp_M_goes F t0 t1 t2 M (fun r2 M1 => ((r2 = 0 → Q 0 M1) ∧ (¬ r2 = 0 → wp_M_unpack F o0 x1 (o0 + 1) 140 ((7 : Int32) * (M1.1 o0 2)) M1 (fun M3 => vp_in (M3.1 o0 2) 20 ∧ Q (((om_up (om_up M3 (o0 + 2) (M3.1 o0 2).toNatClampNeg x2) o0 2 (((om_up M3 (o0 + 2) (M3.1 o0 2).toNatClampNeg x2).1 o0 2) + 1)).1 o0 2) - 1) (om_up (om_up M3 (o0 + 2) (M3.1 o0 2).toNatClampNeg x2) o0 2 (((om_up M3 (o0 + 2) (M3.1 o0 2).toNatClampNeg x2).1 o0 2) + 1))))))
def wp_M_ballot_24 (F : Nat) (o0 : Nat) (x1 : Int32) (x2 : Int32) (Q : Int32 → om_M → Prop)   (M : om_M)  (t0 : Nat) (t1 : Int32) : Prop := ((20 ≤ (M.1 o0 2) → wp_M_ballot_38 F o0 x1 x2 Q M t0 t1 0) ∧ (¬ 20 ≤ (M.1 o0 2) → wp_M_ballot_38 F o0 x1 x2 Q M t0 t1 1))
def wp_M_ballot_23 (F : Nat) (o0 : Nat) (x1 : Int32) (x2 : Int32) (Q : Int32 → om_M → Prop)   (M : om_M)  (t0 : Nat) : Prop := wp_M_ballot_24 F o0 x1 x2 Q M t0 0
def wp_M_ballot (F : Nat) (o0 : Nat) (x1 : Int32) (x2 : Int32) (M : om_M) (Q : Int32 → om_M → Prop) : Prop := wp_M_isOrder F o0 x1 M (fun r6 M5 => ((r6 = 0 → wp_M_ballot_23 F o0 x1 x2 Q M5 o0) ∧ (¬ r6 = 0 → wp_M_within F x2 0 100000 M5 (fun r8 M7 => ((r8 = 0 → wp_M_ballot_23 F o0 x1 x2 Q M7 o0) ∧ (¬ r8 = 0 → wp_M_ballot_24 F o0 x1 x2 Q M7 o0 1))))))
def wp_M_isType_16 (F : Nat) (o0 : Nat) (x1 : Int32) (Q : Int32 → om_M → Prop)   (M : om_M)   : Prop := Q 0 M
def wp_M_isType (F : Nat) (o0 : Nat) (x1 : Int32) (M : om_M) (Q : Int32 → om_M → Prop) : Prop := ((x1 < 0 → wp_M_isType_16 F o0 x1 Q M) ∧ (¬ x1 < 0 → (((M.1 o0 2) ≤ x1 → wp_M_isType_16 F o0 x1 Q M) ∧ (¬ (M.1 o0 2) ≤ x1 → Q 1 M))))
def wp_M_amount (F : Nat) (o0 : Nat) (x1 : Int32) (x2 : Int32) (M : om_M) (Q : Int32 → om_M → Prop) : Prop := wp_M_isType F o0 x1 M (fun r2 M1 => wp_M_within F x2 0 100000 M1 (fun r4 M3 => wp_M_goes F o0 r2 r4 M3 (fun r6 M5 => ((r6 = 0 → Q 0 M5) ∧ (¬ r6 = 0 → vp_in x1 20 ∧ Q (M5.1 (o0 + 2) x1.toNatClampNeg) (om_up M5 (o0 + 2) x1.toNatClampNeg x2))))))
def wp_M_drop_86 (F : Nat) (o0 : Nat) (x1 : Int32) (Q : Int32 → om_M → Prop)   (M : om_M)   : Prop := Q ((om_up M o0 2 ((M.1 o0 2) - 1)).1 o0 2) (om_up M o0 2 ((M.1 o0 2) - 1))
def wp_M_drop_80 (F : Nat) (o0 : Nat) (x1 : Int32) (Q : Int32 → om_M → Prop)  (K17 : om_M × Int32 → Prop) (M : om_M) (x2 : Int32)  : Prop := K17 (M, x2 + 1)
def wp_M_drop_43b (F : Nat) (o0 : Nat) (x1 : Int32) (Q : Int32 → om_M → Prop) (x2 : Int32) (K17 : om_M × Int32 → Prop) (K43 : om_M × Int32 → Prop) (M : om_M) (x3 : Int32) : Prop := ((7 ≤ x3 → wp_M_drop_80 F o0 x1 Q K17 M x2) ∧ (¬ 7 ≤ x3 → vp_in ((((7 : Int32) * x2) + 7) + x3) 140 ∧ vp_in (((7 : Int32) * x2) + x3) 140 ∧ K43 (om_up M (o0 + 1) (((7 : Int32) * x2) + x3).toNatClampNeg (M.1 (o0 + 1) ((((7 : Int32) * x2) + 7) + x3).toNatClampNeg), x3 + 1)))
def wp_M_drop_43 (F : Nat) (o0 : Nat) (x1 : Int32) (Q : Int32 → om_M → Prop) (x2 : Int32) (K17 : om_M × Int32 → Prop) (M : om_M) (x3 : Int32) : Prop := ow_lp (fun (z : om_M × Int32) K => wp_M_drop_43b F o0 x1 Q x2 K17 K z.1 z.2) F (M, x3)
def wp_M_drop_17b (F : Nat) (o0 : Nat) (x1 : Int32) (Q : Int32 → om_M → Prop)   (K17 : om_M × Int32 → Prop) (M : om_M) (x2 : Int32) : Prop := (((M.1 o0 2) ≤ (x2 + 1) → wp_M_drop_86 F o0 x1 Q M) ∧ (¬ (M.1 o0 2) ≤ (x2 + 1) → vp_in (x2 + 1) 20 ∧ vp_in x2 20 ∧ wp_M_drop_43 F o0 x1 Q x2 K17 (om_up M (o0 + 2) x2.toNatClampNeg (M.1 (o0 + 2) (x2 + 1).toNatClampNeg)) 0))
def wp_M_drop_17 (F : Nat) (o0 : Nat) (x1 : Int32) (Q : Int32 → om_M → Prop)   (M : om_M) (x2 : Int32) : Prop := ow_lp (fun (z : om_M × Int32) K => wp_M_drop_17b F o0 x1 Q   K z.1 z.2) F (M, x2)
def wp_M_drop (F : Nat) (o0 : Nat) (x1 : Int32) (M : om_M) (Q : Int32 → om_M → Prop) : Prop := wp_M_isType F o0 x1 M (fun r6 M5 => wp_M_goes F o0 r6 1 M5 (fun r8 M7 => ((r8 = 0 → Q 0 M7) ∧ (¬ r8 = 0 → wp_M_drop_17 F o0 x1 Q M7 x1))))
def wp_M_tieOrder (F : Nat) (o0 : Nat) (x1 : Int32) (M : om_M) (Q : Int32 → om_M → Prop) : Prop := wp_M_isOrder F o0 x1 M (fun r2 M1 => wp_M_goes F o0 r2 1 M1 (fun r4 M3 => ((r4 = 0 → Q 0 M3) ∧ (¬ r4 = 0 → wp_M_packed F o0 (o0 + 3) 7 0 M3 (fun r6 M5 => wp_M_unpack F o0 x1 (o0 + 3) 7 0 M5 (fun M7 => Q r6 M7))))))
def wp_M_agenda (F : Nat) (o0 : Nat) (x1 : Int32) (M : om_M) (Q : Int32 → om_M → Prop) : Prop := wp_M_isOrder F o0 x1 M (fun r2 M1 => wp_M_goes F o0 r2 1 M1 (fun r4 M3 => ((r4 = 0 → Q 0 M3) ∧ (¬ r4 = 0 → wp_M_packed F o0 (o0 + 4) 7 0 M3 (fun r6 M5 => wp_M_unpack F o0 x1 (o0 + 4) 7 0 M5 (fun M7 => Q r6 M7))))))
def wp_M_weight (F : Nat) (o0 : Nat) (x1 : Int32) (x2 : Int32) (M : om_M) (Q : Int32 → om_M → Prop) : Prop := wp_M_within F x1 0 ((M.1 o0 1) - 1) M (fun r2 M1 => wp_M_within F x2 0 1000 M1 (fun r4 M3 => wp_M_goes F o0 r2 r4 M3 (fun r6 M5 => ((r6 = 0 → Q 0 M5) ∧ (¬ r6 = 0 → vp_in x1 7 ∧ Q (M5.1 (o0 + 5) x1.toNatClampNeg) (om_up M5 (o0 + 5) x1.toNatClampNeg x2))))))
def wp_M_load_77b (F : Nat) (o0 : Nat) (Q : om_M → Prop)   (K77 : om_M × Int32 → Prop) (M : om_M) (x1 : Int32) : Prop := ((7 ≤ x1 → Q M) ∧ (¬ 7 ≤ x1 → vp_in x1 7 ∧ K77 (om_up (om_up (om_up M (o0 + 8) x1.toNatClampNeg (M.1 (o0 + 3) x1.toNatClampNeg)) (o0 + 9) x1.toNatClampNeg ((om_up M (o0 + 8) x1.toNatClampNeg (M.1 (o0 + 3) x1.toNatClampNeg)).1 (o0 + 4) x1.toNatClampNeg)) (o0 + 10) x1.toNatClampNeg ((om_up (om_up M (o0 + 8) x1.toNatClampNeg (M.1 (o0 + 3) x1.toNatClampNeg)) (o0 + 9) x1.toNatClampNeg ((om_up M (o0 + 8) x1.toNatClampNeg (M.1 (o0 + 3) x1.toNatClampNeg)).1 (o0 + 4) x1.toNatClampNeg)).1 (o0 + 5) x1.toNatClampNeg), x1 + 1)))
def wp_M_load_77 (F : Nat) (o0 : Nat) (Q : om_M → Prop)   (M : om_M) (x1 : Int32) : Prop := ow_lp (fun (z : om_M × Int32) K => wp_M_load_77b F o0 Q   K z.1 z.2) F (M, x1)
def wp_M_load_75 (F : Nat) (o0 : Nat) (Q : om_M → Prop)   (M : om_M)   : Prop := wp_M_load_77 F o0 Q M 0
def wp_M_load_49b (F : Nat) (o0 : Nat) (Q : om_M → Prop)   (K49 : om_M × Int32 → Prop) (M : om_M) (x1 : Int32) : Prop := (((M.1 o0 2) ≤ x1 → wp_M_load_75 F o0 Q M) ∧ (¬ (M.1 o0 2) ≤ x1 → vp_in x1 20 ∧ vp_in x1 22 ∧ K49 (om_up M (o0 + 7) x1.toNatClampNeg (M.1 (o0 + 2) x1.toNatClampNeg), x1 + 1)))
def wp_M_load_49 (F : Nat) (o0 : Nat) (Q : om_M → Prop)   (M : om_M) (x1 : Int32) : Prop := ow_lp (fun (z : om_M × Int32) K => wp_M_load_49b F o0 Q   K z.1 z.2) F (M, x1)
def wp_M_load_47 (F : Nat) (o0 : Nat) (Q : om_M → Prop)   (M : om_M)   : Prop := wp_M_load_49 F o0 Q M 0
def wp_M_load_18b (F : Nat) (o0 : Nat) (Q : om_M → Prop)   (K18 : om_M × Int32 → Prop) (M : om_M) (x1 : Int32) : Prop := ((((7 : Int32) * (M.1 o0 2)) ≤ x1 → wp_M_load_47 F o0 Q M) ∧ (¬ ((7 : Int32) * (M.1 o0 2)) ≤ x1 → vp_in x1 140 ∧ vp_in x1 154 ∧ K18 (om_up M (o0 + 6) x1.toNatClampNeg (M.1 (o0 + 1) x1.toNatClampNeg), x1 + 1)))
def wp_M_load_18 (F : Nat) (o0 : Nat) (Q : om_M → Prop)   (M : om_M) (x1 : Int32) : Prop := ow_lp (fun (z : om_M × Int32) K => wp_M_load_18b F o0 Q   K z.1 z.2) F (M, x1)
def wp_M_load (F : Nat) (o0 : Nat) (M : om_M) (Q : om_M → Prop) : Prop := wp_M_load_18 F o0 Q (om_up (om_up M o0 8 (M.1 o0 1)) o0 9 ((om_up M o0 8 (M.1 o0 1)).1 o0 2)) 0
abbrev rm_M_reset : Room := { frames := 0, cells := 0, slots := 0, locals := 0 }
theorem hd_M_reset : yn_M_reset.cls ≠ "java/lang/invoke/MethodHandle" ∧ yn_M_reset.cls ≠ "java/lang/invoke/VarHandle" ∧ (parseMethodDescriptor yn_M_reset.desc).map (fun d => d.parameters.length) = some 0 := by decide +kernel
set_option maxHeartbeats 4000000 in
set_option maxRecDepth 100000 in
theorem ct_M_reset (l : Launch) (G : List (Nat × Nat)) (hG : ow_lay G) (D : va_G) (cA : Nat → ClassId) (ad : Nat → Nat) (F : Nat) (o0 : Nat) (k0 : ow_kd G o0 = (3, 9)) (M : om_M) (Q : om_M → Prop) (h : wp_M_reset F o0 M Q) : Met l yn_M_reset (ow_ws yn_M_reset cb_M_reset 2 none) rm_M_reset (ow_Pc G D cA ad M [.ref (ad o0)]) (ow_Qv G D cA ad Q) 0 0 (ow_A G ad) := by
  refine Met.ofW (cc := cb_M_reset) (maxL := 2) (ret := none) (by decide) rfl ?_
  intro p e s m args below meth c s₁ B hml hv
  obtain ⟨rfl, hB⟩ := hv
  have hx := B.exec
  have hb := B.bytes
  have hr := B.returns
  have hlocks := B.notSynchronized
  have hts : ∀ w ∈ lw_g, w.before ([.ref (ad o0)] : List Value).toArray s = true := fun w h => atoms_spec (ws := ow_ws yn_M_reset cb_M_reset 2 none) B.pre w (List.mem_cons_of_mem _ h)
  have hown : s.vm.findClass "BallotDeskModel" = some m.cls := findClass_of_methodNamed B.named
  clear B
  have L52 : ∀  (K7 : om_M × Int32 → Prop) (hK7 : ∀ (M : om_M) (x1 : Int32) (H : Heap) (locs : List Loc) (ls : Array Slot), K7 (M, x1) → ow_B G D cA ad (ow_A G ad) M s s.heap H locs → lv_has ls 2 [(0, .ref (ad o0)), (1, .int x1)] → W p l e rm_M_reset s m ([.ref (ad o0)] : List Value).toArray below meth c H locs 0 0 (MQ below (ow_Qv G D cA ad Q) ([.ref (ad o0)] : List Value).toArray s 0 0 (ow_A G ad)) (F0 m 7 ls [])) (M : om_M) (x1 : Int32) (t0 : Nat) (t1 : Int32) (t2 : Int32) (kt0 : ow_kd G t0 = (0, 7)) (H : Heap) (locs : List Loc) (ls : Array Slot), wp_M_reset_52 F o0 Q  K7 M x1 t0 t1 t2 → ow_B G D cA ad (ow_A G ad) M s s.heap H locs → lv_has ls 2 [(0, .ref (ad o0)), (1, .int x1)] → W p l e rm_M_reset s m ([.ref (ad o0)] : List Value).toArray below meth c H locs 0 0 (MQ below (ow_Qv G D cA ad Q) ([.ref (ad o0)] : List Value).toArray s 0 0 (ow_A G ad)) (F0 m 52 ls [.int t2, .int t1, .ref (ad t0)]) := by
    intro  K7 hK7 M x1 t0 t1 t2 kt0 H locs ls h hB hl
    obtain ⟨hi1, h⟩ := h
    refine ow_iast hx hb hB kt0 hi1 dc_M_reset_52 (fun H locs hB => ?_)
    refine lv_iinc hx hb dc_M_reset_53 hl (k := 1) rfl rfl (by decide) rfl (fun ls hl => ?_)
    refine lv_goto hx hb dc_M_reset_56 rfl ?_
    exact hK7 _ _ _ _ _ h hB (lv_sub hl [1, 0] rfl)
  have B7 : ∀   (K7 : om_M × Int32 → Prop) (hK7 : ∀ (M : om_M) (x1 : Int32) (H : Heap) (locs : List Loc) (ls : Array Slot), K7 (M, x1) → ow_B G D cA ad (ow_A G ad) M s s.heap H locs → lv_has ls 2 [(0, .ref (ad o0)), (1, .int x1)] → W p l e rm_M_reset s m ([.ref (ad o0)] : List Value).toArray below meth c H locs 0 0 (MQ below (ow_Qv G D cA ad Q) ([.ref (ad o0)] : List Value).toArray s 0 0 (ow_A G ad)) (F0 m 7 ls [])) (M : om_M) (x1 : Int32) (H : Heap) (locs : List Loc) (ls : Array Slot), wp_M_reset_7b F o0 Q   K7 M x1 → ow_B G D cA ad (ow_A G ad) M s s.heap H locs → lv_has ls 2 [(0, .ref (ad o0)), (1, .int x1)] → W p l e rm_M_reset s m ([.ref (ad o0)] : List Value).toArray below meth c H locs 0 0 (MQ below (ow_Qv G D cA ad Q) ([.ref (ad o0)] : List Value).toArray s 0 0 (ow_A G ad)) (F0 m 7 ls []) := by
    intro   K7 hK7 M x1 H locs ls h hB hl
    refine lv_iload_n hx hb dc_M_reset_7 rfl (lv_at hl 1 rfl) ?_
    refine lv_bipush (v := 7) hx hb dc_M_reset_8 rfl ?_
    obtain ⟨h1, h2⟩ := h
    refine lv_icmp_ge hx hb dc_M_reset_10 rfl (fun hc => ?_) (fun hc => ?_)
    · have h := h1 hc
      exact ow_vret hx hb hr hlocks hB h dc_M_reset_59
    · have h := h2 hc
      refine lv_aload_n hx hb dc_M_reset_13 rfl (lv_at hl 0 rfl) ?_
      refine ow_get hx hb hts iw_M hown hB k0 rfl 5 (by decide) mw_802 rfl dc_M_reset_14 ?_
      refine lv_iload_n hx hb dc_M_reset_17 rfl (lv_at hl 1 rfl) ?_
      refine lv_iload_n hx hb dc_M_reset_18 rfl (lv_at hl 1 rfl) ?_
      obtain ⟨hi2, h⟩ := h
      refine ow_iast hx hb hB (ly_M_ties hG k0) hi2 dc_M_reset_19 (fun H locs hB => ?_)
      refine lv_aload_n hx hb dc_M_reset_20 rfl (lv_at hl 0 rfl) ?_
      refine ow_get hx hb hts iw_M hown hB k0 rfl 6 (by decide) mw_803 rfl dc_M_reset_21 ?_
      refine lv_iload_n hx hb dc_M_reset_24 rfl (lv_at hl 1 rfl) ?_
      refine lv_iload_n hx hb dc_M_reset_25 rfl (lv_at hl 1 rfl) ?_
      refine ow_iast hx hb hB (ly_M_agendas hG k0) hi2 dc_M_reset_26 (fun H locs hB => ?_)
      refine lv_aload_n hx hb dc_M_reset_27 rfl (lv_at hl 0 rfl) ?_
      refine ow_get hx hb hts iw_M hown hB k0 rfl 7 (by decide) mw_804 rfl dc_M_reset_28 ?_
      refine lv_iload_n hx hb dc_M_reset_31 rfl (lv_at hl 1 rfl) ?_
      refine lv_iload_n hx hb dc_M_reset_32 rfl (lv_at hl 1 rfl) ?_
      refine lv_aload_n hx hb dc_M_reset_33 rfl (lv_at hl 0 rfl) ?_
      refine ow_get hx hb hts iw_M hown hB k0 rfl 1 (by decide) mw_798 rfl dc_M_reset_34 ?_
      obtain ⟨h1, h2⟩ := h
      refine lv_icmp_ge hx hb dc_M_reset_37 rfl (fun hc => ?_) (fun hc => ?_)
      · have h := h1 hc
        refine lv_iconst (v := 0) hx hb dc_M_reset_51 rfl ?_
        exact L52 K7 hK7 _ _ _ _ _ (ly_M_weights hG k0) _ _ _ h hB (lv_sub hl [0, 1] rfl)
      · have h := h2 hc
        refine lv_aload_n hx hb dc_M_reset_40 rfl (lv_at hl 0 rfl) ?_
        refine ow_get hx hb hts iw_M hown hB k0 rfl 1 (by decide) mw_798 rfl dc_M_reset_41 ?_
        refine lv_iconst (v := 1) hx hb dc_M_reset_44 rfl ?_
        refine lv_isub hx hb dc_M_reset_45 ?_
        refine lv_iload_n hx hb dc_M_reset_46 rfl (lv_at hl 1 rfl) ?_
        refine lv_isub hx hb dc_M_reset_47 ?_
        refine lv_goto hx hb dc_M_reset_48 rfl ?_
        exact L52 K7 hK7 _ _ _ _ _ (ly_M_weights hG k0) _ _ _ h hB (lv_sub hl [0, 1] rfl)
  have L7 : ∀   (M : om_M) (x1 : Int32) (H : Heap) (locs : List Loc) (ls : Array Slot), wp_M_reset_7 F o0 Q   M x1 → ow_B G D cA ad (ow_A G ad) M s s.heap H locs → lv_has ls 2 [(0, .ref (ad o0)), (1, .int x1)] → W p l e rm_M_reset s m ([.ref (ad o0)] : List Value).toArray below meth c H locs 0 0 (MQ below (ow_Qv G D cA ad Q) ([.ref (ad o0)] : List Value).toArray s 0 0 (ow_A G ad)) (F0 m 7 ls []) := by
    have step : ∀ (k : Nat) (M : om_M) (x1 : Int32) (H : Heap) (locs : List Loc) (ls : Array Slot), ow_lp (fun (z : om_M × Int32) K => wp_M_reset_7b F o0 Q   K z.1 z.2) k (M, x1) → ow_B G D cA ad (ow_A G ad) M s s.heap H locs → lv_has ls 2 [(0, .ref (ad o0)), (1, .int x1)] → W p l e rm_M_reset s m ([.ref (ad o0)] : List Value).toArray below meth c H locs 0 0 (MQ below (ow_Qv G D cA ad Q) ([.ref (ad o0)] : List Value).toArray s 0 0 (ow_A G ad)) (F0 m 7 ls []) := by
      intro k
      induction k with
      | zero => intro M x1 H locs ls h hB hl; exact False.elim h
      | succ k ih => intro M x1 H locs ls h hB hl; exact B7   (ow_lp _ k) (fun M x1 H locs ls h hB  hl => ih M x1  H locs ls h hB hl) M x1 H locs ls h hB hl
    intro M x1 H locs ls h hB hl
    exact step F M x1 H locs ls h hB hl
  have hl := lv_entry ([.ref (ad o0)]) (n := 2) (Nat.le_of_ble_eq_true rfl)
  rw [lg_entry_eq]
  generalize (lg_sl ([.ref (ad o0)]) ++ List.replicate (2 - (lg_sl ([.ref (ad o0)])).length) Slot.unset).toArray = ls at hl ⊢
  have hl : lv_has ls 2 [(0, .ref (ad o0))] := hl
  show W p l e rm_M_reset s m _ below meth c s.heap [] 0 0 _ _
  refine lv_aload_n hx hb dc_M_reset_0 rfl (lv_at hl 0 rfl) ?_
  refine lv_iconst (v := 0) hx hb dc_M_reset_1 rfl ?_
  refine ow_put hx hb hts iw_M yf_M of_M nf_M hown hB k0 rfl 2 (by decide) mw_799 rfl (by decide +kernel) (Nat.le_of_ble_eq_true rfl) rfl dc_M_reset_2 (fun H locs hB => ?_)
  refine lv_iconst (v := 0) hx hb dc_M_reset_5 rfl ?_
  refine lv_istore_n hx hb dc_M_reset_6 rfl hl (by decide) rfl (fun ls hl => ?_)
  exact L7 _ _ _ _ _ h hB (lv_sub hl [1, 0] rfl)
abbrev rm_M_thrown : Room := { frames := 0, cells := 0, slots := 0, locals := 0 }
theorem hd_M_thrown : yn_M_thrown.cls ≠ "java/lang/invoke/MethodHandle" ∧ yn_M_thrown.cls ≠ "java/lang/invoke/VarHandle" ∧ (parseMethodDescriptor yn_M_thrown.desc).map (fun d => d.parameters.length) = some 0 := by decide +kernel
set_option maxHeartbeats 4000000 in
set_option maxRecDepth 100000 in
theorem ct_M_thrown (l : Launch) (G : List (Nat × Nat)) (hG : ow_lay G) (D : va_G) (cA : Nat → ClassId) (ad : Nat → Nat) (F : Nat) (o0 : Nat) (k0 : ow_kd G o0 = (3, 9)) (M : om_M) (Q : Int32 → om_M → Prop) (h : wp_M_thrown F o0 M Q) : Met l yn_M_thrown (ow_ws yn_M_thrown cb_M_thrown 1 (some .int)) rm_M_thrown (ow_Pc G D cA ad M [.ref (ad o0)]) (ow_Qi G D cA ad Q) 0 0 (ow_A G ad) := by
  refine Met.ofW (cc := cb_M_thrown) (maxL := 1) (ret := (some .int)) (by decide) rfl ?_
  intro p e s m args below meth c s₁ B hml hv
  obtain ⟨rfl, hB⟩ := hv
  have hx := B.exec
  have hb := B.bytes
  have hr := B.returns
  have hlocks := B.notSynchronized
  have hts : ∀ w ∈ lw_g, w.before ([.ref (ad o0)] : List Value).toArray s = true := fun w h => atoms_spec (ws := ow_ws yn_M_thrown cb_M_thrown 1 (some .int)) B.pre w (List.mem_cons_of_mem _ h)
  have hown : s.vm.findClass "BallotDeskModel" = some m.cls := findClass_of_methodNamed B.named
  clear B
  have hl := lv_entry ([.ref (ad o0)]) (n := 1) (Nat.le_of_ble_eq_true rfl)
  rw [lg_entry_eq]
  generalize (lg_sl ([.ref (ad o0)]) ++ List.replicate (1 - (lg_sl ([.ref (ad o0)])).length) Slot.unset).toArray = ls at hl ⊢
  have hl : lv_has ls 1 [(0, .ref (ad o0))] := hl
  show W p l e rm_M_thrown s m _ below meth c s.heap [] 0 0 _ _
  refine lv_aload_n hx hb dc_M_thrown_0 rfl (lv_at hl 0 rfl) ?_
  refine ow_get hx hb hts iw_M hown hB k0 rfl 0 (by decide) mw_797 rfl dc_M_thrown_1 ?_
  exact ow_iret hx hb hr hlocks hB h dc_M_thrown_4
abbrev rm_M_goes : Room := { frames := 0, cells := 0, slots := 0, locals := 0 }
theorem hd_M_goes : yn_M_goes.cls ≠ "java/lang/invoke/MethodHandle" ∧ yn_M_goes.cls ≠ "java/lang/invoke/VarHandle" ∧ (parseMethodDescriptor yn_M_goes.desc).map (fun d => d.parameters.length) = some 2 := by decide +kernel
set_option maxHeartbeats 4000000 in
set_option maxRecDepth 100000 in
theorem ct_M_goes (l : Launch) (G : List (Nat × Nat)) (hG : ow_lay G) (D : va_G) (cA : Nat → ClassId) (ad : Nat → Nat) (F : Nat) (o0 : Nat) (k0 : ow_kd G o0 = (3, 9)) (x1 : Int32) (x2 : Int32) (M : om_M) (Q : Int32 → om_M → Prop) (h : wp_M_goes F o0 x1 x2 M Q) : Met l yn_M_goes (ow_ws yn_M_goes cb_M_goes 3 (some .boolean)) rm_M_goes (ow_Pc G D cA ad M [.ref (ad o0), .int x1, .int x2]) (ow_Qi G D cA ad Q) 0 0 (ow_A G ad) := by
  refine Met.ofW (cc := cb_M_goes) (maxL := 3) (ret := (some .boolean)) (by decide) rfl ?_
  intro p e s m args below meth c s₁ B hml hv
  obtain ⟨rfl, hB⟩ := hv
  have hx := B.exec
  have hb := B.bytes
  have hr := B.returns
  have hlocks := B.notSynchronized
  have hts : ∀ w ∈ lw_g, w.before ([.ref (ad o0), .int x1, .int x2] : List Value).toArray s = true := fun w h => atoms_spec (ws := ow_ws yn_M_goes cb_M_goes 3 (some .boolean)) B.pre w (List.mem_cons_of_mem _ h)
  have hown : s.vm.findClass "BallotDeskModel" = some m.cls := findClass_of_methodNamed B.named
  clear B
  have L18 : ∀   (M : om_M)  (t0 : Nat) (t1 : Int32) (kt0 : ow_kd G t0 = (3, 9)) (H : Heap) (locs : List Loc) (ls : Array Slot), wp_M_goes_18 F o0 x1 x2 Q   M  t0 t1 → ow_B G D cA ad (ow_A G ad) M s s.heap H locs → lv_has ls 3 [(0, .ref (ad o0))] → W p l e rm_M_goes s m ([.ref (ad o0), .int x1, .int x2] : List Value).toArray below meth c H locs 0 0 (MQ below (ow_Qi G D cA ad Q) ([.ref (ad o0), .int x1, .int x2] : List Value).toArray s 0 0 (ow_A G ad)) (F0 m 18 ls [.int t1, .ref (ad t0)]) := by
    intro   M t0 t1 kt0 H locs ls h hB hl
    refine ow_put hx hb hts iw_M yf_M of_M nf_M hown hB kt0 rfl 0 (by decide) mw_797 rfl (by decide +kernel) (Nat.le_of_ble_eq_true rfl) rfl dc_M_goes_18 (fun H locs hB => ?_)
    refine lv_aload_n hx hb dc_M_goes_21 rfl (lv_at hl 0 rfl) ?_
    refine ow_get hx hb hts iw_M hown hB k0 rfl 0 (by decide) mw_797 rfl dc_M_goes_22 ?_
    obtain ⟨h1, h2⟩ := h
    refine lv_if_ne hx hb dc_M_goes_25 rfl (fun hc => ?_) (fun hc => ?_)
    · have h := h2 hc
      refine lv_iconst (v := 0) hx hb dc_M_goes_32 rfl ?_
      exact ow_zret hx hb hr hlocks (by decide) hB h dc_M_goes_33
    · have h := h1 hc
      refine lv_iconst (v := 1) hx hb dc_M_goes_28 rfl ?_
      refine lv_goto hx hb dc_M_goes_29 rfl ?_
      exact ow_zret hx hb hr hlocks (by decide) hB h dc_M_goes_33
  have hl := lv_entry ([.ref (ad o0), .int x1, .int x2]) (n := 3) (Nat.le_of_ble_eq_true rfl)
  rw [lg_entry_eq]
  generalize (lg_sl ([.ref (ad o0), .int x1, .int x2]) ++ List.replicate (3 - (lg_sl ([.ref (ad o0), .int x1, .int x2])).length) Slot.unset).toArray = ls at hl ⊢
  have hl : lv_has ls 3 [(0, .ref (ad o0)), (1, .int x1), (2, .int x2)] := hl
  show W p l e rm_M_goes s m _ below meth c s.heap [] 0 0 _ _
  refine lv_aload_n hx hb dc_M_goes_0 rfl (lv_at hl 0 rfl) ?_
  refine lv_iload_n hx hb dc_M_goes_1 rfl (lv_at hl 1 rfl) ?_
  obtain ⟨h1, h2⟩ := h
  refine lv_if_ne hx hb dc_M_goes_2 rfl (fun hc => ?_) (fun hc => ?_)
  · have h := h2 hc
    refine lv_iload_n hx hb dc_M_goes_9 rfl (lv_at hl 2 rfl) ?_
    obtain ⟨h1, h2⟩ := h
    refine lv_if_ne hx hb dc_M_goes_10 rfl (fun hc => ?_) (fun hc => ?_)
    · have h := h2 hc
      refine lv_iconst (v := 0) hx hb dc_M_goes_17 rfl ?_
      exact L18 _ _ _ k0 _ _ _ h hB (lv_sub hl [0] rfl)
    · have h := h1 hc
      refine lv_iconst (v := 2) hx hb dc_M_goes_13 rfl ?_
      refine lv_goto hx hb dc_M_goes_14 rfl ?_
      exact L18 _ _ _ k0 _ _ _ h hB (lv_sub hl [0] rfl)
  · have h := h1 hc
    refine lv_iconst (v := 1) hx hb dc_M_goes_5 rfl ?_
    refine lv_goto hx hb dc_M_goes_6 rfl ?_
    exact L18 _ _ _ k0 _ _ _ h hB (lv_sub hl [0] rfl)
abbrev rm_M_within : Room := { frames := 0, cells := 0, slots := 0, locals := 0 }
theorem hd_M_within : yn_M_within.cls ≠ "java/lang/invoke/MethodHandle" ∧ yn_M_within.cls ≠ "java/lang/invoke/VarHandle" ∧ (parseMethodDescriptor yn_M_within.desc).map (fun d => d.parameters.length) = some 3 := by decide +kernel
set_option maxHeartbeats 4000000 in
set_option maxRecDepth 100000 in
theorem ct_M_within (l : Launch) (G : List (Nat × Nat)) (hG : ow_lay G) (D : va_G) (cA : Nat → ClassId) (ad : Nat → Nat) (F : Nat) (x0 : Int32) (x1 : Int32) (x2 : Int32) (M : om_M) (Q : Int32 → om_M → Prop) (h : wp_M_within F x0 x1 x2 M Q) : Met l yn_M_within (ow_ws yn_M_within cb_M_within 3 (some .boolean)) rm_M_within (ow_Pc G D cA ad M [.int x0, .int x1, .int x2]) (ow_Qi G D cA ad Q) 0 0 (ow_A G ad) := by
  refine Met.ofW (cc := cb_M_within) (maxL := 3) (ret := (some .boolean)) (by decide) rfl ?_
  intro p e s m args below meth c s₁ B hml hv
  obtain ⟨rfl, hB⟩ := hv
  have hx := B.exec
  have hb := B.bytes
  have hr := B.returns
  have hlocks := B.notSynchronized
  have hts : ∀ w ∈ lw_g, w.before ([.int x0, .int x1, .int x2] : List Value).toArray s = true := fun w h => atoms_spec (ws := ow_ws yn_M_within cb_M_within 3 (some .boolean)) B.pre w (List.mem_cons_of_mem _ h)
  have hown : s.vm.findClass "BallotDeskModel" = some m.cls := findClass_of_methodNamed B.named
  clear B
  have L14 : ∀   (M : om_M)   (H : Heap) (locs : List Loc) (ls : Array Slot), wp_M_within_14 F x0 x1 x2 Q   M   → ow_B G D cA ad (ow_A G ad) M s s.heap H locs → lv_has ls 3 [] → W p l e rm_M_within s m ([.int x0, .int x1, .int x2] : List Value).toArray below meth c H locs 0 0 (MQ below (ow_Qi G D cA ad Q) ([.int x0, .int x1, .int x2] : List Value).toArray s 0 0 (ow_A G ad)) (F0 m 14 ls []) := by
    intro   M H locs ls h hB hl
    refine lv_iconst (v := 0) hx hb dc_M_within_14 rfl ?_
    exact ow_zret hx hb hr hlocks (by decide) hB h dc_M_within_15
  have hl := lv_entry ([.int x0, .int x1, .int x2]) (n := 3) (Nat.le_of_ble_eq_true rfl)
  rw [lg_entry_eq]
  generalize (lg_sl ([.int x0, .int x1, .int x2]) ++ List.replicate (3 - (lg_sl ([.int x0, .int x1, .int x2])).length) Slot.unset).toArray = ls at hl ⊢
  have hl : lv_has ls 3 [(0, .int x0), (1, .int x1), (2, .int x2)] := hl
  show W p l e rm_M_within s m _ below meth c s.heap [] 0 0 _ _
  refine lv_iload_n hx hb dc_M_within_0 rfl (lv_at hl 0 rfl) ?_
  refine lv_iload_n hx hb dc_M_within_1 rfl (lv_at hl 1 rfl) ?_
  obtain ⟨h1, h2⟩ := h
  refine lv_icmp_lt hx hb dc_M_within_2 rfl (fun hc => ?_) (fun hc => ?_)
  · have h := h1 hc
    exact L14 _ _ _ _ h hB (lv_sub hl [] rfl)
  · have h := h2 hc
    refine lv_iload_n hx hb dc_M_within_5 rfl (lv_at hl 0 rfl) ?_
    refine lv_iload_n hx hb dc_M_within_6 rfl (lv_at hl 2 rfl) ?_
    obtain ⟨h1, h2⟩ := h
    refine lv_icmp_gt hx hb dc_M_within_7 rfl (fun hc => ?_) (fun hc => ?_)
    · have h := h1 hc
      exact L14 _ _ _ _ h hB (lv_sub hl [] rfl)
    · have h := h2 hc
      refine lv_iconst (v := 1) hx hb dc_M_within_10 rfl ?_
      refine lv_goto hx hb dc_M_within_11 rfl ?_
      exact ow_zret hx hb hr hlocks (by decide) hB h dc_M_within_15
abbrev rm_M_isOrder : Room := { frames := 0, cells := 0, slots := 0, locals := 0 }
theorem hd_M_isOrder : yn_M_isOrder.cls ≠ "java/lang/invoke/MethodHandle" ∧ yn_M_isOrder.cls ≠ "java/lang/invoke/VarHandle" ∧ (parseMethodDescriptor yn_M_isOrder.desc).map (fun d => d.parameters.length) = some 1 := by decide +kernel
set_option maxHeartbeats 4000000 in
set_option maxRecDepth 100000 in
theorem ct_M_isOrder (l : Launch) (G : List (Nat × Nat)) (hG : ow_lay G) (D : va_G) (cA : Nat → ClassId) (ad : Nat → Nat) (F : Nat) (o0 : Nat) (k0 : ow_kd G o0 = (3, 9)) (x1 : Int32) (M : om_M) (Q : Int32 → om_M → Prop) (h : wp_M_isOrder F o0 x1 M Q) : Met l yn_M_isOrder (ow_ws yn_M_isOrder cb_M_isOrder 4 (some .boolean)) rm_M_isOrder (ow_Pc G D cA ad M [.ref (ad o0), .int x1]) (ow_Qi G D cA ad Q) 0 0 (ow_A G ad) := by
  refine Met.ofW (cc := cb_M_isOrder) (maxL := 4) (ret := (some .boolean)) (by decide) rfl ?_
  intro p e s m args below meth c s₁ B hml hv
  obtain ⟨rfl, hB⟩ := hv
  have hx := B.exec
  have hb := B.bytes
  have hr := B.returns
  have hlocks := B.notSynchronized
  have hts : ∀ w ∈ lw_g, w.before ([.ref (ad o0), .int x1] : List Value).toArray s = true := fun w h => atoms_spec (ws := ow_ws yn_M_isOrder cb_M_isOrder 4 (some .boolean)) B.pre w (List.mem_cons_of_mem _ h)
  have hown : s.vm.findClass "BallotDeskModel" = some m.cls := findClass_of_methodNamed B.named
  clear B
  have L62 : ∀   (M : om_M)   (H : Heap) (locs : List Loc) (ls : Array Slot), wp_M_isOrder_62 F o0 x1 Q   M   → ow_B G D cA ad (ow_A G ad) M s s.heap H locs → lv_has ls 4 [] → W p l e rm_M_isOrder s m ([.ref (ad o0), .int x1] : List Value).toArray below meth c H locs 0 0 (MQ below (ow_Qi G D cA ad Q) ([.ref (ad o0), .int x1] : List Value).toArray s 0 0 (ow_A G ad)) (F0 m 62 ls []) := by
    intro   M H locs ls h hB hl
    refine lv_iconst (v := 0) hx hb dc_M_isOrder_62 rfl ?_
    exact ow_zret hx hb hr hlocks (by decide) hB h dc_M_isOrder_63
  have L31 : ∀   (M : om_M) (x2 : Int32)  (H : Heap) (locs : List Loc) (ls : Array Slot), wp_M_isOrder_31 F o0 x1 Q   M x2  → ow_B G D cA ad (ow_A G ad) M s s.heap H locs → lv_has ls 4 [(0, .ref (ad o0)), (1, .int x1), (2, .int x2)] → W p l e rm_M_isOrder s m ([.ref (ad o0), .int x1] : List Value).toArray below meth c H locs 0 0 (MQ below (ow_Qi G D cA ad Q) ([.ref (ad o0), .int x1] : List Value).toArray s 0 0 (ow_A G ad)) (F0 m 31 ls []) := by
    intro   M x2 H locs ls h hB hl
    refine lv_iload_n hx hb dc_M_isOrder_31 rfl (lv_at hl 1 rfl) ?_
    obtain ⟨h1, h2⟩ := h
    refine lv_if_lt hx hb dc_M_isOrder_32 rfl (fun hc => ?_) (fun hc => ?_)
    · have h := h1 hc
      exact L62 _ _ _ _ h hB (lv_sub hl [] rfl)
    · have h := h2 hc
      refine lv_iload_n hx hb dc_M_isOrder_35 rfl (lv_at hl 1 rfl) ?_
      refine lv_iconst (v := 3) hx hb dc_M_isOrder_36 rfl ?_
      refine lv_aload_n hx hb dc_M_isOrder_37 rfl (lv_at hl 0 rfl) ?_
      refine ow_get hx hb hts iw_M hown hB k0 rfl 1 (by decide) mw_798 rfl dc_M_isOrder_38 ?_
      refine lv_imul hx hb dc_M_isOrder_41 ?_
      refine lv_ishr hx hb dc_M_isOrder_42 ?_
      obtain ⟨h1, h2⟩ := h
      refine lv_if_ne hx hb dc_M_isOrder_43 rfl (fun hc => ?_) (fun hc => ?_)
      · have h := h2 hc
        exact L62 _ _ _ _ h hB (lv_sub hl [] rfl)
      · have h := h1 hc
        refine lv_iload_n hx hb dc_M_isOrder_46 rfl (lv_at hl 2 rfl) ?_
        refine lv_iconst (v := 1) hx hb dc_M_isOrder_47 rfl ?_
        refine lv_aload_n hx hb dc_M_isOrder_48 rfl (lv_at hl 0 rfl) ?_
        refine ow_get hx hb hts iw_M hown hB k0 rfl 1 (by decide) mw_798 rfl dc_M_isOrder_49 ?_
        refine lv_ishl hx hb dc_M_isOrder_52 ?_
        refine lv_iconst (v := 1) hx hb dc_M_isOrder_53 rfl ?_
        refine lv_isub hx hb dc_M_isOrder_54 ?_
        obtain ⟨h1, h2⟩ := h
        refine lv_icmp_ne hx hb dc_M_isOrder_55 rfl (fun hc => ?_) (fun hc => ?_)
        · have h := h2 hc
          exact L62 _ _ _ _ h hB (lv_sub hl [] rfl)
        · have h := h1 hc
          refine lv_iconst (v := 1) hx hb dc_M_isOrder_58 rfl ?_
          refine lv_goto hx hb dc_M_isOrder_59 rfl ?_
          exact ow_zret hx hb hr hlocks (by decide) hB h dc_M_isOrder_63
  have B4 : ∀   (K4 : om_M × Int32 × Int32 → Prop) (hK4 : ∀ (M : om_M) (x2 : Int32) (x3 : Int32) (H : Heap) (locs : List Loc) (ls : Array Slot), K4 (M, x2, x3) → ow_B G D cA ad (ow_A G ad) M s s.heap H locs → lv_has ls 4 [(0, .ref (ad o0)), (1, .int x1), (2, .int x2), (3, .int x3)] → W p l e rm_M_isOrder s m ([.ref (ad o0), .int x1] : List Value).toArray below meth c H locs 0 0 (MQ below (ow_Qi G D cA ad Q) ([.ref (ad o0), .int x1] : List Value).toArray s 0 0 (ow_A G ad)) (F0 m 4 ls [])) (M : om_M) (x2 : Int32) (x3 : Int32) (H : Heap) (locs : List Loc) (ls : Array Slot), wp_M_isOrder_4b F o0 x1 Q   K4 M x2 x3 → ow_B G D cA ad (ow_A G ad) M s s.heap H locs → lv_has ls 4 [(0, .ref (ad o0)), (1, .int x1), (2, .int x2), (3, .int x3)] → W p l e rm_M_isOrder s m ([.ref (ad o0), .int x1] : List Value).toArray below meth c H locs 0 0 (MQ below (ow_Qi G D cA ad Q) ([.ref (ad o0), .int x1] : List Value).toArray s 0 0 (ow_A G ad)) (F0 m 4 ls []) := by
    intro   K4 hK4 M x2 x3 H locs ls h hB hl
    refine lv_iload_n hx hb dc_M_isOrder_4 rfl (lv_at hl 3 rfl) ?_
    refine lv_aload_n hx hb dc_M_isOrder_5 rfl (lv_at hl 0 rfl) ?_
    refine ow_get hx hb hts iw_M hown hB k0 rfl 1 (by decide) mw_798 rfl dc_M_isOrder_6 ?_
    obtain ⟨h1, h2⟩ := h
    refine lv_icmp_ge hx hb dc_M_isOrder_9 rfl (fun hc => ?_) (fun hc => ?_)
    · have h := h1 hc
      exact L31 _ _ _ _ _ h hB (lv_sub hl [0, 1, 2] rfl)
    · have h := h2 hc
      refine lv_iload_n hx hb dc_M_isOrder_12 rfl (lv_at hl 2 rfl) ?_
      refine lv_iconst (v := 1) hx hb dc_M_isOrder_13 rfl ?_
      refine lv_iload_n hx hb dc_M_isOrder_14 rfl (lv_at hl 1 rfl) ?_
      refine lv_iconst (v := 3) hx hb dc_M_isOrder_15 rfl ?_
      refine lv_iload_n hx hb dc_M_isOrder_16 rfl (lv_at hl 3 rfl) ?_
      refine lv_imul hx hb dc_M_isOrder_17 ?_
      refine lv_ishr hx hb dc_M_isOrder_18 ?_
      refine lv_bipush (v := 7) hx hb dc_M_isOrder_19 rfl ?_
      refine lv_iand hx hb dc_M_isOrder_21 ?_
      refine lv_ishl hx hb dc_M_isOrder_22 ?_
      refine lv_ior hx hb dc_M_isOrder_23 ?_
      refine lv_istore_n hx hb dc_M_isOrder_24 rfl hl (by decide) rfl (fun ls hl => ?_)
      refine lv_iinc hx hb dc_M_isOrder_25 hl (k := 3) rfl rfl (by decide) rfl (fun ls hl => ?_)
      refine lv_goto hx hb dc_M_isOrder_28 rfl ?_
      exact hK4 _ _ _ _ _ _ h hB (lv_sub hl [2, 3, 1, 0] rfl)
  have L4 : ∀   (M : om_M) (x2 : Int32) (x3 : Int32) (H : Heap) (locs : List Loc) (ls : Array Slot), wp_M_isOrder_4 F o0 x1 Q   M x2 x3 → ow_B G D cA ad (ow_A G ad) M s s.heap H locs → lv_has ls 4 [(0, .ref (ad o0)), (1, .int x1), (2, .int x2), (3, .int x3)] → W p l e rm_M_isOrder s m ([.ref (ad o0), .int x1] : List Value).toArray below meth c H locs 0 0 (MQ below (ow_Qi G D cA ad Q) ([.ref (ad o0), .int x1] : List Value).toArray s 0 0 (ow_A G ad)) (F0 m 4 ls []) := by
    have step : ∀ (k : Nat) (M : om_M) (x2 : Int32) (x3 : Int32) (H : Heap) (locs : List Loc) (ls : Array Slot), ow_lp (fun (z : om_M × Int32 × Int32) K => wp_M_isOrder_4b F o0 x1 Q   K z.1 z.2.1 z.2.2) k (M, x2, x3) → ow_B G D cA ad (ow_A G ad) M s s.heap H locs → lv_has ls 4 [(0, .ref (ad o0)), (1, .int x1), (2, .int x2), (3, .int x3)] → W p l e rm_M_isOrder s m ([.ref (ad o0), .int x1] : List Value).toArray below meth c H locs 0 0 (MQ below (ow_Qi G D cA ad Q) ([.ref (ad o0), .int x1] : List Value).toArray s 0 0 (ow_A G ad)) (F0 m 4 ls []) := by
      intro k
      induction k with
      | zero => intro M x2 x3 H locs ls h hB hl; exact False.elim h
      | succ k ih => intro M x2 x3 H locs ls h hB hl; exact B4   (ow_lp _ k) (fun M x2 x3 H locs ls h hB  hl => ih M x2 x3  H locs ls h hB hl) M x2 x3 H locs ls h hB hl
    intro M x2 x3 H locs ls h hB hl
    exact step F M x2 x3 H locs ls h hB hl
  have hl := lv_entry ([.ref (ad o0), .int x1]) (n := 4) (Nat.le_of_ble_eq_true rfl)
  rw [lg_entry_eq]
  generalize (lg_sl ([.ref (ad o0), .int x1]) ++ List.replicate (4 - (lg_sl ([.ref (ad o0), .int x1])).length) Slot.unset).toArray = ls at hl ⊢
  have hl : lv_has ls 4 [(0, .ref (ad o0)), (1, .int x1)] := hl
  show W p l e rm_M_isOrder s m _ below meth c s.heap [] 0 0 _ _
  refine lv_iconst (v := 0) hx hb dc_M_isOrder_0 rfl ?_
  refine lv_istore_n hx hb dc_M_isOrder_1 rfl hl (by decide) rfl (fun ls hl => ?_)
  refine lv_iconst (v := 0) hx hb dc_M_isOrder_2 rfl ?_
  refine lv_istore_n hx hb dc_M_isOrder_3 rfl hl (by decide) rfl (fun ls hl => ?_)
  exact L4 _ _ _ _ _ _ h hB (lv_sub hl [2, 3, 1, 0] rfl)
abbrev rm_M_unpack : Room := { frames := 0, cells := 0, slots := 0, locals := 0 }
theorem hd_M_unpack : yn_M_unpack.cls ≠ "java/lang/invoke/MethodHandle" ∧ yn_M_unpack.cls ≠ "java/lang/invoke/VarHandle" ∧ (parseMethodDescriptor yn_M_unpack.desc).map (fun d => d.parameters.length) = some 3 := by decide +kernel
set_option maxHeartbeats 4000000 in
set_option maxRecDepth 100000 in
theorem ct_M_unpack (l : Launch) (G : List (Nat × Nat)) (hG : ow_lay G) (D : va_G) (cA : Nat → ClassId) (ad : Nat → Nat) (F : Nat) (o0 : Nat) (k0 : ow_kd G o0 = (3, 9)) (x1 : Int32) (o2 : Nat) (n2 : Nat) (k2 : ow_kd G o2 = (0, n2)) (x3 : Int32) (M : om_M) (Q : om_M → Prop) (h : wp_M_unpack F o0 x1 o2 n2 x3 M Q) : Met l yn_M_unpack (ow_ws yn_M_unpack cb_M_unpack 5 none) rm_M_unpack (ow_Pc G D cA ad M [.ref (ad o0), .int x1, .ref (ad o2), .int x3]) (ow_Qv G D cA ad Q) 0 0 (ow_A G ad) := by
  refine Met.ofW (cc := cb_M_unpack) (maxL := 5) (ret := none) (by decide) rfl ?_
  intro p e s m args below meth c s₁ B hml hv
  obtain ⟨rfl, hB⟩ := hv
  have hx := B.exec
  have hb := B.bytes
  have hr := B.returns
  have hlocks := B.notSynchronized
  have hts : ∀ w ∈ lw_g, w.before ([.ref (ad o0), .int x1, .ref (ad o2), .int x3] : List Value).toArray s = true := fun w h => atoms_spec (ws := ow_ws yn_M_unpack cb_M_unpack 5 none) B.pre w (List.mem_cons_of_mem _ h)
  have hown : s.vm.findClass "BallotDeskModel" = some m.cls := findClass_of_methodNamed B.named
  clear B
  have B3 : ∀   (K3 : om_M × Int32 → Prop) (hK3 : ∀ (M : om_M) (x4 : Int32) (H : Heap) (locs : List Loc) (ls : Array Slot), K3 (M, x4) → ow_B G D cA ad (ow_A G ad) M s s.heap H locs → lv_has ls 5 [(0, .ref (ad o0)), (1, .int x1), (2, .ref (ad o2)), (3, .int x3), (4, .int x4)] → W p l e rm_M_unpack s m ([.ref (ad o0), .int x1, .ref (ad o2), .int x3] : List Value).toArray below meth c H locs 0 0 (MQ below (ow_Qv G D cA ad Q) ([.ref (ad o0), .int x1, .ref (ad o2), .int x3] : List Value).toArray s 0 0 (ow_A G ad)) (F0 m 3 ls [])) (M : om_M) (x4 : Int32) (H : Heap) (locs : List Loc) (ls : Array Slot), wp_M_unpack_3b F o0 x1 o2 n2 x3 Q   K3 M x4 → ow_B G D cA ad (ow_A G ad) M s s.heap H locs → lv_has ls 5 [(0, .ref (ad o0)), (1, .int x1), (2, .ref (ad o2)), (3, .int x3), (4, .int x4)] → W p l e rm_M_unpack s m ([.ref (ad o0), .int x1, .ref (ad o2), .int x3] : List Value).toArray below meth c H locs 0 0 (MQ below (ow_Qv G D cA ad Q) ([.ref (ad o0), .int x1, .ref (ad o2), .int x3] : List Value).toArray s 0 0 (ow_A G ad)) (F0 m 3 ls []) := by
    intro   K3 hK3 M x4 H locs ls h hB hl
    refine lv_iload hx hb dc_M_unpack_3 (lv_at hl 4 rfl) ?_
    refine lv_aload_n hx hb dc_M_unpack_5 rfl (lv_at hl 0 rfl) ?_
    refine ow_get hx hb hts iw_M hown hB k0 rfl 1 (by decide) mw_798 rfl dc_M_unpack_6 ?_
    obtain ⟨h1, h2⟩ := h
    refine lv_icmp_ge hx hb dc_M_unpack_9 rfl (fun hc => ?_) (fun hc => ?_)
    · have h := h1 hc
      exact ow_vret hx hb hr hlocks hB h dc_M_unpack_33
    · have h := h2 hc
      refine lv_aload_n hx hb dc_M_unpack_12 rfl (lv_at hl 2 rfl) ?_
      refine lv_iload_n hx hb dc_M_unpack_13 rfl (lv_at hl 3 rfl) ?_
      refine lv_iload hx hb dc_M_unpack_14 (lv_at hl 4 rfl) ?_
      refine lv_iadd hx hb dc_M_unpack_16 ?_
      refine lv_iload_n hx hb dc_M_unpack_17 rfl (lv_at hl 1 rfl) ?_
      refine lv_iconst (v := 3) hx hb dc_M_unpack_18 rfl ?_
      refine lv_iload hx hb dc_M_unpack_19 (lv_at hl 4 rfl) ?_
      refine lv_imul hx hb dc_M_unpack_21 ?_
      refine lv_ishr hx hb dc_M_unpack_22 ?_
      refine lv_bipush (v := 7) hx hb dc_M_unpack_23 rfl ?_
      refine lv_iand hx hb dc_M_unpack_25 ?_
      obtain ⟨hi1, h⟩ := h
      refine ow_iast hx hb hB k2 hi1 dc_M_unpack_26 (fun H locs hB => ?_)
      refine lv_iinc hx hb dc_M_unpack_27 hl (k := 4) rfl rfl (by decide) rfl (fun ls hl => ?_)
      refine lv_goto hx hb dc_M_unpack_30 rfl ?_
      exact hK3 _ _ _ _ _ h hB (lv_sub hl [1, 2, 3, 4, 0] rfl)
  have L3 : ∀   (M : om_M) (x4 : Int32) (H : Heap) (locs : List Loc) (ls : Array Slot), wp_M_unpack_3 F o0 x1 o2 n2 x3 Q   M x4 → ow_B G D cA ad (ow_A G ad) M s s.heap H locs → lv_has ls 5 [(0, .ref (ad o0)), (1, .int x1), (2, .ref (ad o2)), (3, .int x3), (4, .int x4)] → W p l e rm_M_unpack s m ([.ref (ad o0), .int x1, .ref (ad o2), .int x3] : List Value).toArray below meth c H locs 0 0 (MQ below (ow_Qv G D cA ad Q) ([.ref (ad o0), .int x1, .ref (ad o2), .int x3] : List Value).toArray s 0 0 (ow_A G ad)) (F0 m 3 ls []) := by
    have step : ∀ (k : Nat) (M : om_M) (x4 : Int32) (H : Heap) (locs : List Loc) (ls : Array Slot), ow_lp (fun (z : om_M × Int32) K => wp_M_unpack_3b F o0 x1 o2 n2 x3 Q   K z.1 z.2) k (M, x4) → ow_B G D cA ad (ow_A G ad) M s s.heap H locs → lv_has ls 5 [(0, .ref (ad o0)), (1, .int x1), (2, .ref (ad o2)), (3, .int x3), (4, .int x4)] → W p l e rm_M_unpack s m ([.ref (ad o0), .int x1, .ref (ad o2), .int x3] : List Value).toArray below meth c H locs 0 0 (MQ below (ow_Qv G D cA ad Q) ([.ref (ad o0), .int x1, .ref (ad o2), .int x3] : List Value).toArray s 0 0 (ow_A G ad)) (F0 m 3 ls []) := by
      intro k
      induction k with
      | zero => intro M x4 H locs ls h hB hl; exact False.elim h
      | succ k ih => intro M x4 H locs ls h hB hl; exact B3   (ow_lp _ k) (fun M x4 H locs ls h hB  hl => ih M x4  H locs ls h hB hl) M x4 H locs ls h hB hl
    intro M x4 H locs ls h hB hl
    exact step F M x4 H locs ls h hB hl
  have hl := lv_entry ([.ref (ad o0), .int x1, .ref (ad o2), .int x3]) (n := 5) (Nat.le_of_ble_eq_true rfl)
  rw [lg_entry_eq]
  generalize (lg_sl ([.ref (ad o0), .int x1, .ref (ad o2), .int x3]) ++ List.replicate (5 - (lg_sl ([.ref (ad o0), .int x1, .ref (ad o2), .int x3])).length) Slot.unset).toArray = ls at hl ⊢
  have hl : lv_has ls 5 [(0, .ref (ad o0)), (1, .int x1), (2, .ref (ad o2)), (3, .int x3)] := hl
  show W p l e rm_M_unpack s m _ below meth c s.heap [] 0 0 _ _
  refine lv_iconst (v := 0) hx hb dc_M_unpack_0 rfl ?_
  refine lv_istore hx hb dc_M_unpack_1 hl (by decide) rfl (fun ls hl => ?_)
  exact L3 _ _ _ _ _ h hB (lv_sub hl [1, 2, 3, 4, 0] rfl)
abbrev rm_M_packed : Room := { frames := 0, cells := 0, slots := 0, locals := 0 }
theorem hd_M_packed : yn_M_packed.cls ≠ "java/lang/invoke/MethodHandle" ∧ yn_M_packed.cls ≠ "java/lang/invoke/VarHandle" ∧ (parseMethodDescriptor yn_M_packed.desc).map (fun d => d.parameters.length) = some 2 := by decide +kernel
set_option maxHeartbeats 4000000 in
set_option maxRecDepth 100000 in
theorem ct_M_packed (l : Launch) (G : List (Nat × Nat)) (hG : ow_lay G) (D : va_G) (cA : Nat → ClassId) (ad : Nat → Nat) (F : Nat) (o0 : Nat) (k0 : ow_kd G o0 = (3, 9)) (o1 : Nat) (n1 : Nat) (k1 : ow_kd G o1 = (0, n1)) (x2 : Int32) (M : om_M) (Q : Int32 → om_M → Prop) (h : wp_M_packed F o0 o1 n1 x2 M Q) : Met l yn_M_packed (ow_ws yn_M_packed cb_M_packed 5 (some .int)) rm_M_packed (ow_Pc G D cA ad M [.ref (ad o0), .ref (ad o1), .int x2]) (ow_Qi G D cA ad Q) 0 0 (ow_A G ad) := by
  refine Met.ofW (cc := cb_M_packed) (maxL := 5) (ret := (some .int)) (by decide) rfl ?_
  intro p e s m args below meth c s₁ B hml hv
  obtain ⟨rfl, hB⟩ := hv
  have hx := B.exec
  have hb := B.bytes
  have hr := B.returns
  have hlocks := B.notSynchronized
  have hts : ∀ w ∈ lw_g, w.before ([.ref (ad o0), .ref (ad o1), .int x2] : List Value).toArray s = true := fun w h => atoms_spec (ws := ow_ws yn_M_packed cb_M_packed 5 (some .int)) B.pre w (List.mem_cons_of_mem _ h)
  have hown : s.vm.findClass "BallotDeskModel" = some m.cls := findClass_of_methodNamed B.named
  clear B
  have B5 : ∀   (K5 : om_M × Int32 × Int32 → Prop) (hK5 : ∀ (M : om_M) (x3 : Int32) (x4 : Int32) (H : Heap) (locs : List Loc) (ls : Array Slot), K5 (M, x3, x4) → ow_B G D cA ad (ow_A G ad) M s s.heap H locs → lv_has ls 5 [(0, .ref (ad o0)), (1, .ref (ad o1)), (2, .int x2), (3, .int x3), (4, .int x4)] → W p l e rm_M_packed s m ([.ref (ad o0), .ref (ad o1), .int x2] : List Value).toArray below meth c H locs 0 0 (MQ below (ow_Qi G D cA ad Q) ([.ref (ad o0), .ref (ad o1), .int x2] : List Value).toArray s 0 0 (ow_A G ad)) (F0 m 5 ls [])) (M : om_M) (x3 : Int32) (x4 : Int32) (H : Heap) (locs : List Loc) (ls : Array Slot), wp_M_packed_5b F o0 o1 n1 x2 Q   K5 M x3 x4 → ow_B G D cA ad (ow_A G ad) M s s.heap H locs → lv_has ls 5 [(0, .ref (ad o0)), (1, .ref (ad o1)), (2, .int x2), (3, .int x3), (4, .int x4)] → W p l e rm_M_packed s m ([.ref (ad o0), .ref (ad o1), .int x2] : List Value).toArray below meth c H locs 0 0 (MQ below (ow_Qi G D cA ad Q) ([.ref (ad o0), .ref (ad o1), .int x2] : List Value).toArray s 0 0 (ow_A G ad)) (F0 m 5 ls []) := by
    intro   K5 hK5 M x3 x4 H locs ls h hB hl
    refine lv_iload hx hb dc_M_packed_5 (lv_at hl 4 rfl) ?_
    refine lv_aload_n hx hb dc_M_packed_7 rfl (lv_at hl 0 rfl) ?_
    refine ow_get hx hb hts iw_M hown hB k0 rfl 1 (by decide) mw_798 rfl dc_M_packed_8 ?_
    obtain ⟨h1, h2⟩ := h
    refine lv_icmp_ge hx hb dc_M_packed_11 rfl (fun hc => ?_) (fun hc => ?_)
    · have h := h1 hc
      refine lv_iload_n hx hb dc_M_packed_34 rfl (lv_at hl 3 rfl) ?_
      exact ow_iret hx hb hr hlocks hB h dc_M_packed_35
    · have h := h2 hc
      refine lv_iload_n hx hb dc_M_packed_14 rfl (lv_at hl 3 rfl) ?_
      refine lv_aload_n hx hb dc_M_packed_15 rfl (lv_at hl 1 rfl) ?_
      refine lv_iload_n hx hb dc_M_packed_16 rfl (lv_at hl 2 rfl) ?_
      refine lv_iload hx hb dc_M_packed_17 (lv_at hl 4 rfl) ?_
      refine lv_iadd hx hb dc_M_packed_19 ?_
      obtain ⟨hi1, h⟩ := h
      refine ow_iald hx hb hB k1 hi1 dc_M_packed_20 ?_
      refine lv_iconst (v := 3) hx hb dc_M_packed_21 rfl ?_
      refine lv_iload hx hb dc_M_packed_22 (lv_at hl 4 rfl) ?_
      refine lv_imul hx hb dc_M_packed_24 ?_
      refine lv_ishl hx hb dc_M_packed_25 ?_
      refine lv_ior hx hb dc_M_packed_26 ?_
      refine lv_istore_n hx hb dc_M_packed_27 rfl hl (by decide) rfl (fun ls hl => ?_)
      refine lv_iinc hx hb dc_M_packed_28 hl (k := 4) rfl rfl (by decide) rfl (fun ls hl => ?_)
      refine lv_goto hx hb dc_M_packed_31 rfl ?_
      exact hK5 _ _ _ _ _ _ h hB (lv_sub hl [2, 3, 4, 1, 0] rfl)
  have L5 : ∀   (M : om_M) (x3 : Int32) (x4 : Int32) (H : Heap) (locs : List Loc) (ls : Array Slot), wp_M_packed_5 F o0 o1 n1 x2 Q   M x3 x4 → ow_B G D cA ad (ow_A G ad) M s s.heap H locs → lv_has ls 5 [(0, .ref (ad o0)), (1, .ref (ad o1)), (2, .int x2), (3, .int x3), (4, .int x4)] → W p l e rm_M_packed s m ([.ref (ad o0), .ref (ad o1), .int x2] : List Value).toArray below meth c H locs 0 0 (MQ below (ow_Qi G D cA ad Q) ([.ref (ad o0), .ref (ad o1), .int x2] : List Value).toArray s 0 0 (ow_A G ad)) (F0 m 5 ls []) := by
    have step : ∀ (k : Nat) (M : om_M) (x3 : Int32) (x4 : Int32) (H : Heap) (locs : List Loc) (ls : Array Slot), ow_lp (fun (z : om_M × Int32 × Int32) K => wp_M_packed_5b F o0 o1 n1 x2 Q   K z.1 z.2.1 z.2.2) k (M, x3, x4) → ow_B G D cA ad (ow_A G ad) M s s.heap H locs → lv_has ls 5 [(0, .ref (ad o0)), (1, .ref (ad o1)), (2, .int x2), (3, .int x3), (4, .int x4)] → W p l e rm_M_packed s m ([.ref (ad o0), .ref (ad o1), .int x2] : List Value).toArray below meth c H locs 0 0 (MQ below (ow_Qi G D cA ad Q) ([.ref (ad o0), .ref (ad o1), .int x2] : List Value).toArray s 0 0 (ow_A G ad)) (F0 m 5 ls []) := by
      intro k
      induction k with
      | zero => intro M x3 x4 H locs ls h hB hl; exact False.elim h
      | succ k ih => intro M x3 x4 H locs ls h hB hl; exact B5   (ow_lp _ k) (fun M x3 x4 H locs ls h hB  hl => ih M x3 x4  H locs ls h hB hl) M x3 x4 H locs ls h hB hl
    intro M x3 x4 H locs ls h hB hl
    exact step F M x3 x4 H locs ls h hB hl
  have hl := lv_entry ([.ref (ad o0), .ref (ad o1), .int x2]) (n := 5) (Nat.le_of_ble_eq_true rfl)
  rw [lg_entry_eq]
  generalize (lg_sl ([.ref (ad o0), .ref (ad o1), .int x2]) ++ List.replicate (5 - (lg_sl ([.ref (ad o0), .ref (ad o1), .int x2])).length) Slot.unset).toArray = ls at hl ⊢
  have hl : lv_has ls 5 [(0, .ref (ad o0)), (1, .ref (ad o1)), (2, .int x2)] := hl
  show W p l e rm_M_packed s m _ below meth c s.heap [] 0 0 _ _
  refine lv_iconst (v := 0) hx hb dc_M_packed_0 rfl ?_
  refine lv_istore_n hx hb dc_M_packed_1 rfl hl (by decide) rfl (fun ls hl => ?_)
  refine lv_iconst (v := 0) hx hb dc_M_packed_2 rfl ?_
  refine lv_istore hx hb dc_M_packed_3 hl (by decide) rfl (fun ls hl => ?_)
  exact L5 _ _ _ _ _ _ h hB (lv_sub hl [2, 3, 4, 1, 0] rfl)
abbrev rm_M_candidates : Room := { frames := 1, cells := 0, slots := 0, locals := 22 }
theorem hd_M_candidates : yn_M_candidates.cls ≠ "java/lang/invoke/MethodHandle" ∧ yn_M_candidates.cls ≠ "java/lang/invoke/VarHandle" ∧ (parseMethodDescriptor yn_M_candidates.desc).map (fun d => d.parameters.length) = some 1 := by decide +kernel
set_option maxHeartbeats 4000000 in
set_option maxRecDepth 100000 in
theorem ct_M_candidates (l : Launch) (G : List (Nat × Nat)) (hG : ow_lay G) (D : va_G) (cA : Nat → ClassId) (ad : Nat → Nat) (F : Nat) (o0 : Nat) (k0 : ow_kd G o0 = (3, 9)) (x1 : Int32) (M : om_M) (Q : Int32 → om_M → Prop) (h : wp_M_candidates F o0 x1 M Q) : Met l yn_M_candidates (ow_ws yn_M_candidates cb_M_candidates 3 (some .int)) rm_M_candidates (ow_Pc G D cA ad M [.ref (ad o0), .int x1]) (ow_Qi G D cA ad Q) 0 0 (ow_A G ad) := by
  refine Met.ofW (cc := cb_M_candidates) (maxL := 3) (ret := (some .int)) (by decide) rfl ?_
  intro p e s m args below meth c s₁ B hml hv
  obtain ⟨rfl, hB⟩ := hv
  have hx := B.exec
  have hb := B.bytes
  have hr := B.returns
  have hlocks := B.notSynchronized
  have hts : ∀ w ∈ lw_g, w.before ([.ref (ad o0), .int x1] : List Value).toArray s = true := fun w h => atoms_spec (ws := ow_ws yn_M_candidates cb_M_candidates 3 (some .int)) B.pre w (List.mem_cons_of_mem _ h)
  have hown : s.vm.findClass "BallotDeskModel" = some m.cls := findClass_of_methodNamed B.named
  clear B
  have hl := lv_entry ([.ref (ad o0), .int x1]) (n := 3) (Nat.le_of_ble_eq_true rfl)
  rw [lg_entry_eq]
  generalize (lg_sl ([.ref (ad o0), .int x1]) ++ List.replicate (3 - (lg_sl ([.ref (ad o0), .int x1])).length) Slot.unset).toArray = ls at hl ⊢
  have hl : lv_has ls 3 [(0, .ref (ad o0)), (1, .int x1)] := hl
  show W p l e rm_M_candidates s m _ below meth c s.heap [] 0 0 _ _
  refine lv_aload_n hx hb dc_M_candidates_0 rfl (lv_at hl 0 rfl) ?_
  refine lv_iload_n hx hb dc_M_candidates_1 rfl (lv_at hl 1 rfl) ?_
  refine lv_iconst (v := 2) hx hb dc_M_candidates_2 rfl ?_
  refine lv_bipush (v := 7) hx hb dc_M_candidates_3 rfl ?_
  refine ow_calli (va_runS (As := [.int x1, .int 2, .int 7]) (rest := [.ref (ad o0)]) ⟨hx, hb, hml, hown, hts⟩ (ct_M_within l G hG D cA ad F _ _ _ _ _ h) ⟨ow_cb 3 hts mw_881 mw_12 mw_879 rfl rfl hd_M_within ⟨Nat.le_of_ble_eq_true rfl, Nat.le_of_ble_eq_true rfl⟩, hts _ mw_880⟩ (ow_preS hB) rfl rfl hl.1 rfl (lv_room (Nat.le_of_ble_eq_true rfl)) dc_M_candidates_5 ⟨Nat.zero_le _, Nat.zero_le _⟩) hB (fun r2 M1 H locs h hB => ?_)
  refine lv_iconst (v := 1) hx hb dc_M_candidates_8 rfl ?_
  refine ow_calli (va_runV (As := [.int r2, .int 1]) (rest := []) ⟨hx, hb, hml, hown, hts⟩ (ct_M_goes l G hG D cA ad F _ k0 _ _ _ _ h) ⟨ow_cb 2 hts mw_885 mw_12 mw_882 rfl rfl hd_M_goes ⟨Nat.le_of_ble_eq_true rfl, Nat.le_of_ble_eq_true rfl⟩, hts _ mw_884, hts _ ms_18⟩ (ow_preV hB k0 rfl) rfl rfl hl.1 rfl (lv_room (Nat.le_of_ble_eq_true rfl)) dc_M_candidates_9 ⟨Nat.zero_le _, Nat.zero_le _⟩) hB (fun r4 M3 H locs h hB => ?_)
  obtain ⟨h1, h2⟩ := h
  refine lv_if_ne hx hb dc_M_candidates_12 rfl (fun hc => ?_) (fun hc => ?_)
  · have h := h2 hc
    refine lv_aload_n hx hb dc_M_candidates_17 rfl (lv_at hl 0 rfl) ?_
    refine ow_get hx hb hts iw_M hown hB k0 rfl 1 (by decide) mw_798 rfl dc_M_candidates_18 ?_
    refine lv_istore_n hx hb dc_M_candidates_21 rfl hl (by decide) rfl (fun ls hl => ?_)
    refine lv_aload_n hx hb dc_M_candidates_22 rfl (lv_at hl 1 rfl) ?_
    refine lv_iload_n hx hb dc_M_candidates_23 rfl (lv_at hl 2 rfl) ?_
    refine ow_put hx hb hts iw_M yf_M of_M nf_M hown hB k0 rfl 1 (by decide) mw_798 rfl (by decide +kernel) (Nat.le_of_ble_eq_true rfl) rfl dc_M_candidates_24 (fun H locs hB => ?_)
    refine lv_aload_n hx hb dc_M_candidates_27 rfl (lv_at hl 1 rfl) ?_
    refine ow_callv (va_runV (As := []) (rest := []) ⟨hx, hb, hml, hown, hts⟩ (ct_M_reset l G hG D cA ad F _ k0 _ _ h) ⟨ow_cb 0 hts mw_796 mw_12 mw_793 rfl rfl hd_M_reset ⟨Nat.le_of_ble_eq_true rfl, Nat.le_of_ble_eq_true rfl⟩, hts _ mw_795, hts _ ms_17⟩ (ow_preV hB k0 rfl) rfl rfl hl.1 rfl (lv_room (Nat.le_of_ble_eq_true rfl)) dc_M_candidates_28 ⟨Nat.zero_le _, Nat.zero_le _⟩) hB (fun M5 H locs h hB => ?_)
    refine lv_iload_n hx hb dc_M_candidates_31 rfl (lv_at hl 0 rfl) ?_
    exact ow_iret hx hb hr hlocks hB h dc_M_candidates_32
  · have h := h1 hc
    refine lv_iconst (v := 0) hx hb dc_M_candidates_15 rfl ?_
    exact ow_iret hx hb hr hlocks hB h dc_M_candidates_16
abbrev rm_M_ballot : Room := { frames := 1, cells := 0, slots := 0, locals := 24 }
theorem hd_M_ballot : yn_M_ballot.cls ≠ "java/lang/invoke/MethodHandle" ∧ yn_M_ballot.cls ≠ "java/lang/invoke/VarHandle" ∧ (parseMethodDescriptor yn_M_ballot.desc).map (fun d => d.parameters.length) = some 2 := by decide +kernel
set_option maxHeartbeats 4000000 in
set_option maxRecDepth 100000 in
theorem ct_M_ballot (l : Launch) (G : List (Nat × Nat)) (hG : ow_lay G) (D : va_G) (cA : Nat → ClassId) (ad : Nat → Nat) (F : Nat) (o0 : Nat) (k0 : ow_kd G o0 = (3, 9)) (x1 : Int32) (x2 : Int32) (M : om_M) (Q : Int32 → om_M → Prop) (h : wp_M_ballot F o0 x1 x2 M Q) : Met l yn_M_ballot (ow_ws yn_M_ballot cb_M_ballot 3 (some .int)) rm_M_ballot (ow_Pc G D cA ad M [.ref (ad o0), .int x1, .int x2]) (ow_Qi G D cA ad Q) 0 0 (ow_A G ad) := by
  refine Met.ofW (cc := cb_M_ballot) (maxL := 3) (ret := (some .int)) (by decide) rfl ?_
  intro p e s m args below meth c s₁ B hml hv
  obtain ⟨rfl, hB⟩ := hv
  have hx := B.exec
  have hb := B.bytes
  have hr := B.returns
  have hlocks := B.notSynchronized
  have hts : ∀ w ∈ lw_g, w.before ([.ref (ad o0), .int x1, .int x2] : List Value).toArray s = true := fun w h => atoms_spec (ws := ow_ws yn_M_ballot cb_M_ballot 3 (some .int)) B.pre w (List.mem_cons_of_mem _ h)
  have hown : s.vm.findClass "BallotDeskModel" = some m.cls := findClass_of_methodNamed B.named
  clear B
  have L38 : ∀   (M : om_M)  (t0 : Nat) (t1 : Int32) (t2 : Int32) (kt0 : ow_kd G t0 = (3, 9)) (H : Heap) (locs : List Loc) (ls : Array Slot), wp_M_ballot_38 F o0 x1 x2 Q   M  t0 t1 t2 → ow_B G D cA ad (ow_A G ad) M s s.heap H locs → lv_has ls 3 [(0, .ref (ad o0)), (1, .int x1), (2, .int x2)] → W p l e rm_M_ballot s m ([.ref (ad o0), .int x1, .int x2] : List Value).toArray below meth c H locs 0 0 (MQ below (ow_Qi G D cA ad Q) ([.ref (ad o0), .int x1, .int x2] : List Value).toArray s 0 0 (ow_A G ad)) (F0 m 38 ls [.int t2, .int t1, .ref (ad t0)]) := by
    intro   M t0 t1 t2 kt0 H locs ls h hB hl
    refine ow_calli (va_runV (As := [.int t1, .int t2]) (rest := []) ⟨hx, hb, hml, hown, hts⟩ (ct_M_goes l G hG D cA ad F _ kt0 _ _ _ _ h) ⟨ow_cb 2 hts mw_885 mw_12 mw_882 rfl rfl hd_M_goes ⟨Nat.le_of_ble_eq_true rfl, Nat.le_of_ble_eq_true rfl⟩, hts _ mw_884, hts _ ms_18⟩ (ow_preV hB kt0 rfl) rfl rfl hl.1 rfl (lv_room (Nat.le_of_ble_eq_true rfl)) dc_M_ballot_38 ⟨Nat.zero_le _, Nat.zero_le _⟩) hB (fun r2 M1 H locs h hB => ?_)
    obtain ⟨h1, h2⟩ := h
    refine lv_if_ne hx hb dc_M_ballot_41 rfl (fun hc => ?_) (fun hc => ?_)
    · have h := h2 hc
      refine lv_aload_n hx hb dc_M_ballot_46 rfl (lv_at hl 0 rfl) ?_
      refine lv_iload_n hx hb dc_M_ballot_47 rfl (lv_at hl 1 rfl) ?_
      refine lv_aload_n hx hb dc_M_ballot_48 rfl (lv_at hl 0 rfl) ?_
      refine ow_get hx hb hts iw_M hown hB k0 rfl 3 (by decide) mw_800 rfl dc_M_ballot_49 ?_
      refine lv_bipush (v := 7) hx hb dc_M_ballot_52 rfl ?_
      refine lv_aload_n hx hb dc_M_ballot_54 rfl (lv_at hl 0 rfl) ?_
      refine ow_get hx hb hts iw_M hown hB k0 rfl 2 (by decide) mw_799 rfl dc_M_ballot_55 ?_
      refine lv_imul hx hb dc_M_ballot_58 ?_
      refine ow_callv (va_runV (As := [.int x1, .ref (ad (o0 + 1)), .int ((7 : Int32) * (M1.1 o0 2))]) (rest := []) ⟨hx, hb, hml, hown, hts⟩ (ct_M_unpack l G hG D cA ad F _ k0 _ _ _ (ly_M_orders hG k0) _ _ _ h) ⟨ow_cb 3 hts mw_898 mw_12 mw_895 rfl rfl hd_M_unpack ⟨Nat.le_of_ble_eq_true rfl, Nat.le_of_ble_eq_true rfl⟩, hts _ mw_897, hts _ ms_20⟩ (ow_preV hB k0 rfl) rfl rfl hl.1 rfl (lv_room (Nat.le_of_ble_eq_true rfl)) dc_M_ballot_59 ⟨Nat.zero_le _, Nat.zero_le _⟩) hB (fun M3 H locs h hB => ?_)
      refine lv_aload_n hx hb dc_M_ballot_62 rfl (lv_at hl 0 rfl) ?_
      refine ow_get hx hb hts iw_M hown hB k0 rfl 4 (by decide) mw_801 rfl dc_M_ballot_63 ?_
      refine lv_aload_n hx hb dc_M_ballot_66 rfl (lv_at hl 0 rfl) ?_
      refine ow_get hx hb hts iw_M hown hB k0 rfl 2 (by decide) mw_799 rfl dc_M_ballot_67 ?_
      refine lv_iload_n hx hb dc_M_ballot_70 rfl (lv_at hl 2 rfl) ?_
      obtain ⟨hi4, h⟩ := h
      refine ow_iast hx hb hB (ly_M_amounts hG k0) hi4 dc_M_ballot_71 (fun H locs hB => ?_)
      refine lv_aload_n hx hb dc_M_ballot_72 rfl (lv_at hl 0 rfl) ?_
      refine lv_dup hx hb dc_M_ballot_73 rfl ?_
      refine ow_get hx hb hts iw_M hown hB k0 rfl 2 (by decide) mw_799 rfl dc_M_ballot_74 ?_
      refine lv_iconst (v := 1) hx hb dc_M_ballot_77 rfl ?_
      refine lv_iadd hx hb dc_M_ballot_78 ?_
      refine ow_put hx hb hts iw_M yf_M of_M nf_M hown hB k0 rfl 2 (by decide) mw_799 rfl (by decide +kernel) (Nat.le_of_ble_eq_true rfl) rfl dc_M_ballot_79 (fun H locs hB => ?_)
      refine lv_aload_n hx hb dc_M_ballot_82 rfl (lv_at hl 0 rfl) ?_
      refine ow_get hx hb hts iw_M hown hB k0 rfl 2 (by decide) mw_799 rfl dc_M_ballot_83 ?_
      refine lv_iconst (v := 1) hx hb dc_M_ballot_86 rfl ?_
      refine lv_isub hx hb dc_M_ballot_87 ?_
      exact ow_iret hx hb hr hlocks hB h dc_M_ballot_88
    · have h := h1 hc
      refine lv_iconst (v := 0) hx hb dc_M_ballot_44 rfl ?_
      exact ow_iret hx hb hr hlocks hB h dc_M_ballot_45
  have L24 : ∀   (M : om_M)  (t0 : Nat) (t1 : Int32) (kt0 : ow_kd G t0 = (3, 9)) (H : Heap) (locs : List Loc) (ls : Array Slot), wp_M_ballot_24 F o0 x1 x2 Q   M  t0 t1 → ow_B G D cA ad (ow_A G ad) M s s.heap H locs → lv_has ls 3 [(0, .ref (ad o0)), (1, .int x1), (2, .int x2)] → W p l e rm_M_ballot s m ([.ref (ad o0), .int x1, .int x2] : List Value).toArray below meth c H locs 0 0 (MQ below (ow_Qi G D cA ad Q) ([.ref (ad o0), .int x1, .int x2] : List Value).toArray s 0 0 (ow_A G ad)) (F0 m 24 ls [.int t1, .ref (ad t0)]) := by
    intro   M t0 t1 kt0 H locs ls h hB hl
    refine lv_aload_n hx hb dc_M_ballot_24 rfl (lv_at hl 0 rfl) ?_
    refine ow_get hx hb hts iw_M hown hB k0 rfl 2 (by decide) mw_799 rfl dc_M_ballot_25 ?_
    refine lv_bipush (v := 20) hx hb dc_M_ballot_28 rfl ?_
    obtain ⟨h1, h2⟩ := h
    refine lv_icmp_ge hx hb dc_M_ballot_30 rfl (fun hc => ?_) (fun hc => ?_)
    · have h := h1 hc
      refine lv_iconst (v := 0) hx hb dc_M_ballot_37 rfl ?_
      exact L38 _ _ _ _ kt0 _ _ _ h hB (lv_sub hl [0, 1, 2] rfl)
    · have h := h2 hc
      refine lv_iconst (v := 1) hx hb dc_M_ballot_33 rfl ?_
      refine lv_goto hx hb dc_M_ballot_34 rfl ?_
      exact L38 _ _ _ _ kt0 _ _ _ h hB (lv_sub hl [0, 1, 2] rfl)
  have L23 : ∀   (M : om_M)  (t0 : Nat) (kt0 : ow_kd G t0 = (3, 9)) (H : Heap) (locs : List Loc) (ls : Array Slot), wp_M_ballot_23 F o0 x1 x2 Q   M  t0 → ow_B G D cA ad (ow_A G ad) M s s.heap H locs → lv_has ls 3 [(0, .ref (ad o0)), (1, .int x1), (2, .int x2)] → W p l e rm_M_ballot s m ([.ref (ad o0), .int x1, .int x2] : List Value).toArray below meth c H locs 0 0 (MQ below (ow_Qi G D cA ad Q) ([.ref (ad o0), .int x1, .int x2] : List Value).toArray s 0 0 (ow_A G ad)) (F0 m 23 ls [.ref (ad t0)]) := by
    intro   M t0 kt0 H locs ls h hB hl
    refine lv_iconst (v := 0) hx hb dc_M_ballot_23 rfl ?_
    exact L24 _ _ _ kt0 _ _ _ h hB (lv_sub hl [0, 1, 2] rfl)
  have hl := lv_entry ([.ref (ad o0), .int x1, .int x2]) (n := 3) (Nat.le_of_ble_eq_true rfl)
  rw [lg_entry_eq]
  generalize (lg_sl ([.ref (ad o0), .int x1, .int x2]) ++ List.replicate (3 - (lg_sl ([.ref (ad o0), .int x1, .int x2])).length) Slot.unset).toArray = ls at hl ⊢
  have hl : lv_has ls 3 [(0, .ref (ad o0)), (1, .int x1), (2, .int x2)] := hl
  show W p l e rm_M_ballot s m _ below meth c s.heap [] 0 0 _ _
  refine lv_aload_n hx hb dc_M_ballot_0 rfl (lv_at hl 0 rfl) ?_
  refine lv_aload_n hx hb dc_M_ballot_1 rfl (lv_at hl 0 rfl) ?_
  refine lv_iload_n hx hb dc_M_ballot_2 rfl (lv_at hl 1 rfl) ?_
  refine ow_calli (va_runV (As := [.int x1]) (rest := [.ref (ad o0)]) ⟨hx, hb, hml, hown, hts⟩ (ct_M_isOrder l G hG D cA ad F _ k0 _ _ _ h) ⟨ow_cb 1 hts mw_893 mw_12 mw_890 rfl rfl hd_M_isOrder ⟨Nat.le_of_ble_eq_true rfl, Nat.le_of_ble_eq_true rfl⟩, hts _ mw_892, hts _ ms_19⟩ (ow_preV hB k0 rfl) rfl rfl hl.1 rfl (lv_room (Nat.le_of_ble_eq_true rfl)) dc_M_ballot_3 ⟨Nat.zero_le _, Nat.zero_le _⟩) hB (fun r6 M5 H locs h hB => ?_)
  obtain ⟨h1, h2⟩ := h
  refine lv_if_eq hx hb dc_M_ballot_6 rfl (fun hc => ?_) (fun hc => ?_)
  · have h := h1 hc
    exact L23 _ _ k0 _ _ _ h hB (lv_sub hl [0, 1, 2] rfl)
  · have h := h2 hc
    refine lv_iload_n hx hb dc_M_ballot_9 rfl (lv_at hl 2 rfl) ?_
    refine lv_iconst (v := 0) hx hb dc_M_ballot_10 rfl ?_
    refine lv_ldc hx hb hown (hts _ mw_894) dc_M_ballot_11 ?_
    refine ow_calli (va_runS (As := [.int x2, .int 0, .int 100000]) (rest := [.ref (ad o0)]) ⟨hx, hb, hml, hown, hts⟩ (ct_M_within l G hG D cA ad F _ _ _ _ _ h) ⟨ow_cb 3 hts mw_881 mw_12 mw_879 rfl rfl hd_M_within ⟨Nat.le_of_ble_eq_true rfl, Nat.le_of_ble_eq_true rfl⟩, hts _ mw_880⟩ (ow_preS hB) rfl rfl hl.1 rfl (lv_room (Nat.le_of_ble_eq_true rfl)) dc_M_ballot_13 ⟨Nat.zero_le _, Nat.zero_le _⟩) hB (fun r8 M7 H locs h hB => ?_)
    obtain ⟨h1, h2⟩ := h
    refine lv_if_eq hx hb dc_M_ballot_16 rfl (fun hc => ?_) (fun hc => ?_)
    · have h := h1 hc
      exact L23 _ _ k0 _ _ _ h hB (lv_sub hl [0, 1, 2] rfl)
    · have h := h2 hc
      refine lv_iconst (v := 1) hx hb dc_M_ballot_19 rfl ?_
      refine lv_goto hx hb dc_M_ballot_20 rfl ?_
      exact L24 _ _ _ k0 _ _ _ h hB (lv_sub hl [0, 1, 2] rfl)
abbrev rm_M_isType : Room := { frames := 0, cells := 0, slots := 0, locals := 0 }
theorem hd_M_isType : yn_M_isType.cls ≠ "java/lang/invoke/MethodHandle" ∧ yn_M_isType.cls ≠ "java/lang/invoke/VarHandle" ∧ (parseMethodDescriptor yn_M_isType.desc).map (fun d => d.parameters.length) = some 1 := by decide +kernel
set_option maxHeartbeats 4000000 in
set_option maxRecDepth 100000 in
theorem ct_M_isType (l : Launch) (G : List (Nat × Nat)) (hG : ow_lay G) (D : va_G) (cA : Nat → ClassId) (ad : Nat → Nat) (F : Nat) (o0 : Nat) (k0 : ow_kd G o0 = (3, 9)) (x1 : Int32) (M : om_M) (Q : Int32 → om_M → Prop) (h : wp_M_isType F o0 x1 M Q) : Met l yn_M_isType (ow_ws yn_M_isType cb_M_isType 2 (some .boolean)) rm_M_isType (ow_Pc G D cA ad M [.ref (ad o0), .int x1]) (ow_Qi G D cA ad Q) 0 0 (ow_A G ad) := by
  refine Met.ofW (cc := cb_M_isType) (maxL := 2) (ret := (some .boolean)) (by decide) rfl ?_
  intro p e s m args below meth c s₁ B hml hv
  obtain ⟨rfl, hB⟩ := hv
  have hx := B.exec
  have hb := B.bytes
  have hr := B.returns
  have hlocks := B.notSynchronized
  have hts : ∀ w ∈ lw_g, w.before ([.ref (ad o0), .int x1] : List Value).toArray s = true := fun w h => atoms_spec (ws := ow_ws yn_M_isType cb_M_isType 2 (some .boolean)) B.pre w (List.mem_cons_of_mem _ h)
  have hown : s.vm.findClass "BallotDeskModel" = some m.cls := findClass_of_methodNamed B.named
  clear B
  have L16 : ∀   (M : om_M)   (H : Heap) (locs : List Loc) (ls : Array Slot), wp_M_isType_16 F o0 x1 Q   M   → ow_B G D cA ad (ow_A G ad) M s s.heap H locs → lv_has ls 2 [] → W p l e rm_M_isType s m ([.ref (ad o0), .int x1] : List Value).toArray below meth c H locs 0 0 (MQ below (ow_Qi G D cA ad Q) ([.ref (ad o0), .int x1] : List Value).toArray s 0 0 (ow_A G ad)) (F0 m 16 ls []) := by
    intro   M H locs ls h hB hl
    refine lv_iconst (v := 0) hx hb dc_M_isType_16 rfl ?_
    exact ow_zret hx hb hr hlocks (by decide) hB h dc_M_isType_17
  have hl := lv_entry ([.ref (ad o0), .int x1]) (n := 2) (Nat.le_of_ble_eq_true rfl)
  rw [lg_entry_eq]
  generalize (lg_sl ([.ref (ad o0), .int x1]) ++ List.replicate (2 - (lg_sl ([.ref (ad o0), .int x1])).length) Slot.unset).toArray = ls at hl ⊢
  have hl : lv_has ls 2 [(0, .ref (ad o0)), (1, .int x1)] := hl
  show W p l e rm_M_isType s m _ below meth c s.heap [] 0 0 _ _
  refine lv_iload_n hx hb dc_M_isType_0 rfl (lv_at hl 1 rfl) ?_
  obtain ⟨h1, h2⟩ := h
  refine lv_if_lt hx hb dc_M_isType_1 rfl (fun hc => ?_) (fun hc => ?_)
  · have h := h1 hc
    exact L16 _ _ _ _ h hB (lv_sub hl [] rfl)
  · have h := h2 hc
    refine lv_iload_n hx hb dc_M_isType_4 rfl (lv_at hl 1 rfl) ?_
    refine lv_aload_n hx hb dc_M_isType_5 rfl (lv_at hl 0 rfl) ?_
    refine ow_get hx hb hts iw_M hown hB k0 rfl 2 (by decide) mw_799 rfl dc_M_isType_6 ?_
    obtain ⟨h1, h2⟩ := h
    refine lv_icmp_ge hx hb dc_M_isType_9 rfl (fun hc => ?_) (fun hc => ?_)
    · have h := h1 hc
      exact L16 _ _ _ _ h hB (lv_sub hl [] rfl)
    · have h := h2 hc
      refine lv_iconst (v := 1) hx hb dc_M_isType_12 rfl ?_
      refine lv_goto hx hb dc_M_isType_13 rfl ?_
      exact ow_zret hx hb hr hlocks (by decide) hB h dc_M_isType_17
abbrev rm_M_amount : Room := { frames := 1, cells := 0, slots := 0, locals := 22 }
theorem hd_M_amount : yn_M_amount.cls ≠ "java/lang/invoke/MethodHandle" ∧ yn_M_amount.cls ≠ "java/lang/invoke/VarHandle" ∧ (parseMethodDescriptor yn_M_amount.desc).map (fun d => d.parameters.length) = some 2 := by decide +kernel
set_option maxHeartbeats 4000000 in
set_option maxRecDepth 100000 in
theorem ct_M_amount (l : Launch) (G : List (Nat × Nat)) (hG : ow_lay G) (D : va_G) (cA : Nat → ClassId) (ad : Nat → Nat) (F : Nat) (o0 : Nat) (k0 : ow_kd G o0 = (3, 9)) (x1 : Int32) (x2 : Int32) (M : om_M) (Q : Int32 → om_M → Prop) (h : wp_M_amount F o0 x1 x2 M Q) : Met l yn_M_amount (ow_ws yn_M_amount cb_M_amount 4 (some .int)) rm_M_amount (ow_Pc G D cA ad M [.ref (ad o0), .int x1, .int x2]) (ow_Qi G D cA ad Q) 0 0 (ow_A G ad) := by
  refine Met.ofW (cc := cb_M_amount) (maxL := 4) (ret := (some .int)) (by decide) rfl ?_
  intro p e s m args below meth c s₁ B hml hv
  obtain ⟨rfl, hB⟩ := hv
  have hx := B.exec
  have hb := B.bytes
  have hr := B.returns
  have hlocks := B.notSynchronized
  have hts : ∀ w ∈ lw_g, w.before ([.ref (ad o0), .int x1, .int x2] : List Value).toArray s = true := fun w h => atoms_spec (ws := ow_ws yn_M_amount cb_M_amount 4 (some .int)) B.pre w (List.mem_cons_of_mem _ h)
  have hown : s.vm.findClass "BallotDeskModel" = some m.cls := findClass_of_methodNamed B.named
  clear B
  have hl := lv_entry ([.ref (ad o0), .int x1, .int x2]) (n := 4) (Nat.le_of_ble_eq_true rfl)
  rw [lg_entry_eq]
  generalize (lg_sl ([.ref (ad o0), .int x1, .int x2]) ++ List.replicate (4 - (lg_sl ([.ref (ad o0), .int x1, .int x2])).length) Slot.unset).toArray = ls at hl ⊢
  have hl : lv_has ls 4 [(0, .ref (ad o0)), (1, .int x1), (2, .int x2)] := hl
  show W p l e rm_M_amount s m _ below meth c s.heap [] 0 0 _ _
  refine lv_aload_n hx hb dc_M_amount_0 rfl (lv_at hl 0 rfl) ?_
  refine lv_aload_n hx hb dc_M_amount_1 rfl (lv_at hl 0 rfl) ?_
  refine lv_iload_n hx hb dc_M_amount_2 rfl (lv_at hl 1 rfl) ?_
  refine ow_calli (va_runV (As := [.int x1]) (rest := [.ref (ad o0)]) ⟨hx, hb, hml, hown, hts⟩ (ct_M_isType l G hG D cA ad F _ k0 _ _ _ h) ⟨ow_cb 1 hts mw_906 mw_12 mw_903 rfl rfl hd_M_isType ⟨Nat.le_of_ble_eq_true rfl, Nat.le_of_ble_eq_true rfl⟩, hts _ mw_905, hts _ ms_21⟩ (ow_preV hB k0 rfl) rfl rfl hl.1 rfl (lv_room (Nat.le_of_ble_eq_true rfl)) dc_M_amount_3 ⟨Nat.zero_le _, Nat.zero_le _⟩) hB (fun r2 M1 H locs h hB => ?_)
  refine lv_iload_n hx hb dc_M_amount_6 rfl (lv_at hl 2 rfl) ?_
  refine lv_iconst (v := 0) hx hb dc_M_amount_7 rfl ?_
  refine lv_ldc hx hb hown (hts _ mw_894) dc_M_amount_8 ?_
  refine ow_calli (va_runS (As := [.int x2, .int 0, .int 100000]) (rest := [.int r2, .ref (ad o0)]) ⟨hx, hb, hml, hown, hts⟩ (ct_M_within l G hG D cA ad F _ _ _ _ _ h) ⟨ow_cb 3 hts mw_881 mw_12 mw_879 rfl rfl hd_M_within ⟨Nat.le_of_ble_eq_true rfl, Nat.le_of_ble_eq_true rfl⟩, hts _ mw_880⟩ (ow_preS hB) rfl rfl hl.1 rfl (lv_room (Nat.le_of_ble_eq_true rfl)) dc_M_amount_10 ⟨Nat.zero_le _, Nat.zero_le _⟩) hB (fun r4 M3 H locs h hB => ?_)
  refine ow_calli (va_runV (As := [.int r2, .int r4]) (rest := []) ⟨hx, hb, hml, hown, hts⟩ (ct_M_goes l G hG D cA ad F _ k0 _ _ _ _ h) ⟨ow_cb 2 hts mw_885 mw_12 mw_882 rfl rfl hd_M_goes ⟨Nat.le_of_ble_eq_true rfl, Nat.le_of_ble_eq_true rfl⟩, hts _ mw_884, hts _ ms_18⟩ (ow_preV hB k0 rfl) rfl rfl hl.1 rfl (lv_room (Nat.le_of_ble_eq_true rfl)) dc_M_amount_13 ⟨Nat.zero_le _, Nat.zero_le _⟩) hB (fun r6 M5 H locs h hB => ?_)
  obtain ⟨h1, h2⟩ := h
  refine lv_if_ne hx hb dc_M_amount_16 rfl (fun hc => ?_) (fun hc => ?_)
  · have h := h2 hc
    refine lv_aload_n hx hb dc_M_amount_21 rfl (lv_at hl 0 rfl) ?_
    refine ow_get hx hb hts iw_M hown hB k0 rfl 4 (by decide) mw_801 rfl dc_M_amount_22 ?_
    refine lv_iload_n hx hb dc_M_amount_25 rfl (lv_at hl 1 rfl) ?_
    obtain ⟨hi7, h⟩ := h
    refine ow_iald hx hb hB (ly_M_amounts hG k0) hi7 dc_M_amount_26 ?_
    refine lv_istore_n hx hb dc_M_amount_27 rfl hl (by decide) rfl (fun ls hl => ?_)
    refine lv_aload_n hx hb dc_M_amount_28 rfl (lv_at hl 1 rfl) ?_
    refine ow_get hx hb hts iw_M hown hB k0 rfl 4 (by decide) mw_801 rfl dc_M_amount_29 ?_
    refine lv_iload_n hx hb dc_M_amount_32 rfl (lv_at hl 2 rfl) ?_
    refine lv_iload_n hx hb dc_M_amount_33 rfl (lv_at hl 3 rfl) ?_
    refine ow_iast hx hb hB (ly_M_amounts hG k0) hi7 dc_M_amount_34 (fun H locs hB => ?_)
    refine lv_iload_n hx hb dc_M_amount_35 rfl (lv_at hl 0 rfl) ?_
    exact ow_iret hx hb hr hlocks hB h dc_M_amount_36
  · have h := h1 hc
    refine lv_iconst (v := 0) hx hb dc_M_amount_19 rfl ?_
    exact ow_iret hx hb hr hlocks hB h dc_M_amount_20
abbrev rm_M_drop : Room := { frames := 1, cells := 0, slots := 0, locals := 22 }
theorem hd_M_drop : yn_M_drop.cls ≠ "java/lang/invoke/MethodHandle" ∧ yn_M_drop.cls ≠ "java/lang/invoke/VarHandle" ∧ (parseMethodDescriptor yn_M_drop.desc).map (fun d => d.parameters.length) = some 1 := by decide +kernel
set_option maxHeartbeats 4000000 in
set_option maxRecDepth 100000 in
theorem ct_M_drop (l : Launch) (G : List (Nat × Nat)) (hG : ow_lay G) (D : va_G) (cA : Nat → ClassId) (ad : Nat → Nat) (F : Nat) (o0 : Nat) (k0 : ow_kd G o0 = (3, 9)) (x1 : Int32) (M : om_M) (Q : Int32 → om_M → Prop) (h : wp_M_drop F o0 x1 M Q) : Met l yn_M_drop (ow_ws yn_M_drop cb_M_drop 4 (some .int)) rm_M_drop (ow_Pc G D cA ad M [.ref (ad o0), .int x1]) (ow_Qi G D cA ad Q) 0 0 (ow_A G ad) := by
  refine Met.ofW (cc := cb_M_drop) (maxL := 4) (ret := (some .int)) (by decide) rfl ?_
  intro p e s m args below meth c s₁ B hml hv
  obtain ⟨rfl, hB⟩ := hv
  have hx := B.exec
  have hb := B.bytes
  have hr := B.returns
  have hlocks := B.notSynchronized
  have hts : ∀ w ∈ lw_g, w.before ([.ref (ad o0), .int x1] : List Value).toArray s = true := fun w h => atoms_spec (ws := ow_ws yn_M_drop cb_M_drop 4 (some .int)) B.pre w (List.mem_cons_of_mem _ h)
  have hown : s.vm.findClass "BallotDeskModel" = some m.cls := findClass_of_methodNamed B.named
  clear B
  have L86 : ∀   (M : om_M)   (H : Heap) (locs : List Loc) (ls : Array Slot), wp_M_drop_86 F o0 x1 Q   M   → ow_B G D cA ad (ow_A G ad) M s s.heap H locs → lv_has ls 4 [(0, .ref (ad o0))] → W p l e rm_M_drop s m ([.ref (ad o0), .int x1] : List Value).toArray below meth c H locs 0 0 (MQ below (ow_Qi G D cA ad Q) ([.ref (ad o0), .int x1] : List Value).toArray s 0 0 (ow_A G ad)) (F0 m 86 ls []) := by
    intro   M H locs ls h hB hl
    refine lv_aload_n hx hb dc_M_drop_86 rfl (lv_at hl 0 rfl) ?_
    refine lv_dup hx hb dc_M_drop_87 rfl ?_
    refine ow_get hx hb hts iw_M hown hB k0 rfl 2 (by decide) mw_799 rfl dc_M_drop_88 ?_
    refine lv_iconst (v := 1) hx hb dc_M_drop_91 rfl ?_
    refine lv_isub hx hb dc_M_drop_92 ?_
    refine ow_put hx hb hts iw_M yf_M of_M nf_M hown hB k0 rfl 2 (by decide) mw_799 rfl (by decide +kernel) (Nat.le_of_ble_eq_true rfl) rfl dc_M_drop_93 (fun H locs hB => ?_)
    refine lv_aload_n hx hb dc_M_drop_96 rfl (lv_at hl 0 rfl) ?_
    refine ow_get hx hb hts iw_M hown hB k0 rfl 2 (by decide) mw_799 rfl dc_M_drop_97 ?_
    exact ow_iret hx hb hr hlocks hB h dc_M_drop_100
  have L80 : ∀  (K17 : om_M × Int32 → Prop) (hK17 : ∀ (M : om_M) (x2 : Int32) (H : Heap) (locs : List Loc) (ls : Array Slot), K17 (M, x2) → ow_B G D cA ad (ow_A G ad) M s s.heap H locs → lv_has ls 4 [(0, .ref (ad o0)), (2, .int x2)] → W p l e rm_M_drop s m ([.ref (ad o0), .int x1] : List Value).toArray below meth c H locs 0 0 (MQ below (ow_Qi G D cA ad Q) ([.ref (ad o0), .int x1] : List Value).toArray s 0 0 (ow_A G ad)) (F0 m 17 ls [])) (M : om_M) (x2 : Int32)  (H : Heap) (locs : List Loc) (ls : Array Slot), wp_M_drop_80 F o0 x1 Q  K17 M x2  → ow_B G D cA ad (ow_A G ad) M s s.heap H locs → lv_has ls 4 [(0, .ref (ad o0)), (2, .int x2)] → W p l e rm_M_drop s m ([.ref (ad o0), .int x1] : List Value).toArray below meth c H locs 0 0 (MQ below (ow_Qi G D cA ad Q) ([.ref (ad o0), .int x1] : List Value).toArray s 0 0 (ow_A G ad)) (F0 m 80 ls []) := by
    intro  K17 hK17 M x2 H locs ls h hB hl
    refine lv_iinc hx hb dc_M_drop_80 hl (k := 1) rfl rfl (by decide) rfl (fun ls hl => ?_)
    refine lv_goto hx hb dc_M_drop_83 rfl ?_
    exact hK17 _ _ _ _ _ h hB (lv_sub hl [1, 0] rfl)
  have B43 : ∀ (x2 : Int32) (K17 : om_M × Int32 → Prop) (hK17 : ∀ (M : om_M) (x2 : Int32) (H : Heap) (locs : List Loc) (ls : Array Slot), K17 (M, x2) → ow_B G D cA ad (ow_A G ad) M s s.heap H locs → lv_has ls 4 [(0, .ref (ad o0)), (2, .int x2)] → W p l e rm_M_drop s m ([.ref (ad o0), .int x1] : List Value).toArray below meth c H locs 0 0 (MQ below (ow_Qi G D cA ad Q) ([.ref (ad o0), .int x1] : List Value).toArray s 0 0 (ow_A G ad)) (F0 m 17 ls [])) (K43 : om_M × Int32 → Prop) (hK43 : ∀ (M : om_M) (x3 : Int32) (H : Heap) (locs : List Loc) (ls : Array Slot), K43 (M, x3) → ow_B G D cA ad (ow_A G ad) M s s.heap H locs → lv_has ls 4 [(0, .ref (ad o0)), (2, .int x2), (3, .int x3)] → W p l e rm_M_drop s m ([.ref (ad o0), .int x1] : List Value).toArray below meth c H locs 0 0 (MQ below (ow_Qi G D cA ad Q) ([.ref (ad o0), .int x1] : List Value).toArray s 0 0 (ow_A G ad)) (F0 m 43 ls [])) (M : om_M) (x3 : Int32) (H : Heap) (locs : List Loc) (ls : Array Slot), wp_M_drop_43b F o0 x1 Q x2 K17 K43 M x3 → ow_B G D cA ad (ow_A G ad) M s s.heap H locs → lv_has ls 4 [(0, .ref (ad o0)), (2, .int x2), (3, .int x3)] → W p l e rm_M_drop s m ([.ref (ad o0), .int x1] : List Value).toArray below meth c H locs 0 0 (MQ below (ow_Qi G D cA ad Q) ([.ref (ad o0), .int x1] : List Value).toArray s 0 0 (ow_A G ad)) (F0 m 43 ls []) := by
    intro x2 K17 hK17 K43 hK43 M x3 H locs ls h hB hl
    refine lv_iload_n hx hb dc_M_drop_43 rfl (lv_at hl 2 rfl) ?_
    refine lv_bipush (v := 7) hx hb dc_M_drop_44 rfl ?_
    obtain ⟨h1, h2⟩ := h
    refine lv_icmp_ge hx hb dc_M_drop_46 rfl (fun hc => ?_) (fun hc => ?_)
    · have h := h1 hc
      exact L80 K17 hK17 _ _ _ _ _ h hB (lv_sub hl [0, 1] rfl)
    · have h := h2 hc
      refine lv_aload_n hx hb dc_M_drop_49 rfl (lv_at hl 0 rfl) ?_
      refine ow_get hx hb hts iw_M hown hB k0 rfl 3 (by decide) mw_800 rfl dc_M_drop_50 ?_
      refine lv_bipush (v := 7) hx hb dc_M_drop_53 rfl ?_
      refine lv_iload_n hx hb dc_M_drop_55 rfl (lv_at hl 1 rfl) ?_
      refine lv_imul hx hb dc_M_drop_56 ?_
      refine lv_iload_n hx hb dc_M_drop_57 rfl (lv_at hl 2 rfl) ?_
      refine lv_iadd hx hb dc_M_drop_58 ?_
      refine lv_aload_n hx hb dc_M_drop_59 rfl (lv_at hl 0 rfl) ?_
      refine ow_get hx hb hts iw_M hown hB k0 rfl 3 (by decide) mw_800 rfl dc_M_drop_60 ?_
      refine lv_bipush (v := 7) hx hb dc_M_drop_63 rfl ?_
      refine lv_iload_n hx hb dc_M_drop_65 rfl (lv_at hl 1 rfl) ?_
      refine lv_imul hx hb dc_M_drop_66 ?_
      refine lv_bipush (v := 7) hx hb dc_M_drop_67 rfl ?_
      refine lv_iadd hx hb dc_M_drop_69 ?_
      refine lv_iload_n hx hb dc_M_drop_70 rfl (lv_at hl 2 rfl) ?_
      refine lv_iadd hx hb dc_M_drop_71 ?_
      obtain ⟨hi1, h⟩ := h
      refine ow_iald hx hb hB (ly_M_orders hG k0) hi1 dc_M_drop_72 ?_
      obtain ⟨hi2, h⟩ := h
      refine ow_iast hx hb hB (ly_M_orders hG k0) hi2 dc_M_drop_73 (fun H locs hB => ?_)
      refine lv_iinc hx hb dc_M_drop_74 hl (k := 2) rfl rfl (by decide) rfl (fun ls hl => ?_)
      refine lv_goto hx hb dc_M_drop_77 rfl ?_
      exact hK43 _ _ _ _ _ h hB (lv_sub hl [1, 2, 0] rfl)
  have L43 : ∀ (x2 : Int32) (K17 : om_M × Int32 → Prop) (hK17 : ∀ (M : om_M) (x2 : Int32) (H : Heap) (locs : List Loc) (ls : Array Slot), K17 (M, x2) → ow_B G D cA ad (ow_A G ad) M s s.heap H locs → lv_has ls 4 [(0, .ref (ad o0)), (2, .int x2)] → W p l e rm_M_drop s m ([.ref (ad o0), .int x1] : List Value).toArray below meth c H locs 0 0 (MQ below (ow_Qi G D cA ad Q) ([.ref (ad o0), .int x1] : List Value).toArray s 0 0 (ow_A G ad)) (F0 m 17 ls [])) (M : om_M) (x3 : Int32) (H : Heap) (locs : List Loc) (ls : Array Slot), wp_M_drop_43 F o0 x1 Q x2 K17 M x3 → ow_B G D cA ad (ow_A G ad) M s s.heap H locs → lv_has ls 4 [(0, .ref (ad o0)), (2, .int x2), (3, .int x3)] → W p l e rm_M_drop s m ([.ref (ad o0), .int x1] : List Value).toArray below meth c H locs 0 0 (MQ below (ow_Qi G D cA ad Q) ([.ref (ad o0), .int x1] : List Value).toArray s 0 0 (ow_A G ad)) (F0 m 43 ls []) := by
    intro x2 K17 hK17
    have step : ∀ (k : Nat) (M : om_M) (x3 : Int32) (H : Heap) (locs : List Loc) (ls : Array Slot), ow_lp (fun (z : om_M × Int32) K => wp_M_drop_43b F o0 x1 Q x2 K17 K z.1 z.2) k (M, x3) → ow_B G D cA ad (ow_A G ad) M s s.heap H locs → lv_has ls 4 [(0, .ref (ad o0)), (2, .int x2), (3, .int x3)] → W p l e rm_M_drop s m ([.ref (ad o0), .int x1] : List Value).toArray below meth c H locs 0 0 (MQ below (ow_Qi G D cA ad Q) ([.ref (ad o0), .int x1] : List Value).toArray s 0 0 (ow_A G ad)) (F0 m 43 ls []) := by
      intro k
      induction k with
      | zero => intro M x3 H locs ls h hB hl; exact False.elim h
      | succ k ih => intro M x3 H locs ls h hB hl; exact B43 x2 K17 hK17 (ow_lp _ k) (fun M x3 H locs ls h hB  hl => ih M x3  H locs ls h hB hl) M x3 H locs ls h hB hl
    intro M x3 H locs ls h hB hl
    exact step F M x3 H locs ls h hB hl
  have B17 : ∀   (K17 : om_M × Int32 → Prop) (hK17 : ∀ (M : om_M) (x2 : Int32) (H : Heap) (locs : List Loc) (ls : Array Slot), K17 (M, x2) → ow_B G D cA ad (ow_A G ad) M s s.heap H locs → lv_has ls 4 [(0, .ref (ad o0)), (2, .int x2)] → W p l e rm_M_drop s m ([.ref (ad o0), .int x1] : List Value).toArray below meth c H locs 0 0 (MQ below (ow_Qi G D cA ad Q) ([.ref (ad o0), .int x1] : List Value).toArray s 0 0 (ow_A G ad)) (F0 m 17 ls [])) (M : om_M) (x2 : Int32) (H : Heap) (locs : List Loc) (ls : Array Slot), wp_M_drop_17b F o0 x1 Q   K17 M x2 → ow_B G D cA ad (ow_A G ad) M s s.heap H locs → lv_has ls 4 [(0, .ref (ad o0)), (2, .int x2)] → W p l e rm_M_drop s m ([.ref (ad o0), .int x1] : List Value).toArray below meth c H locs 0 0 (MQ below (ow_Qi G D cA ad Q) ([.ref (ad o0), .int x1] : List Value).toArray s 0 0 (ow_A G ad)) (F0 m 17 ls []) := by
    intro   K17 hK17 M x2 H locs ls h hB hl
    refine lv_iload_n hx hb dc_M_drop_17 rfl (lv_at hl 1 rfl) ?_
    refine lv_iconst (v := 1) hx hb dc_M_drop_18 rfl ?_
    refine lv_iadd hx hb dc_M_drop_19 ?_
    refine lv_aload_n hx hb dc_M_drop_20 rfl (lv_at hl 0 rfl) ?_
    refine ow_get hx hb hts iw_M hown hB k0 rfl 2 (by decide) mw_799 rfl dc_M_drop_21 ?_
    obtain ⟨h1, h2⟩ := h
    refine lv_icmp_ge hx hb dc_M_drop_24 rfl (fun hc => ?_) (fun hc => ?_)
    · have h := h1 hc
      exact L86 _ _ _ _ h hB (lv_sub hl [0] rfl)
    · have h := h2 hc
      refine lv_aload_n hx hb dc_M_drop_27 rfl (lv_at hl 0 rfl) ?_
      refine ow_get hx hb hts iw_M hown hB k0 rfl 4 (by decide) mw_801 rfl dc_M_drop_28 ?_
      refine lv_iload_n hx hb dc_M_drop_31 rfl (lv_at hl 1 rfl) ?_
      refine lv_aload_n hx hb dc_M_drop_32 rfl (lv_at hl 0 rfl) ?_
      refine ow_get hx hb hts iw_M hown hB k0 rfl 4 (by decide) mw_801 rfl dc_M_drop_33 ?_
      refine lv_iload_n hx hb dc_M_drop_36 rfl (lv_at hl 1 rfl) ?_
      refine lv_iconst (v := 1) hx hb dc_M_drop_37 rfl ?_
      refine lv_iadd hx hb dc_M_drop_38 ?_
      obtain ⟨hi3, h⟩ := h
      refine ow_iald hx hb hB (ly_M_amounts hG k0) hi3 dc_M_drop_39 ?_
      obtain ⟨hi4, h⟩ := h
      refine ow_iast hx hb hB (ly_M_amounts hG k0) hi4 dc_M_drop_40 (fun H locs hB => ?_)
      refine lv_iconst (v := 0) hx hb dc_M_drop_41 rfl ?_
      refine lv_istore_n hx hb dc_M_drop_42 rfl hl (by decide) rfl (fun ls hl => ?_)
      exact L43 _ K17 hK17 _ _ _ _ _ h hB (lv_sub hl [1, 2, 0] rfl)
  have L17 : ∀   (M : om_M) (x2 : Int32) (H : Heap) (locs : List Loc) (ls : Array Slot), wp_M_drop_17 F o0 x1 Q   M x2 → ow_B G D cA ad (ow_A G ad) M s s.heap H locs → lv_has ls 4 [(0, .ref (ad o0)), (2, .int x2)] → W p l e rm_M_drop s m ([.ref (ad o0), .int x1] : List Value).toArray below meth c H locs 0 0 (MQ below (ow_Qi G D cA ad Q) ([.ref (ad o0), .int x1] : List Value).toArray s 0 0 (ow_A G ad)) (F0 m 17 ls []) := by
    have step : ∀ (k : Nat) (M : om_M) (x2 : Int32) (H : Heap) (locs : List Loc) (ls : Array Slot), ow_lp (fun (z : om_M × Int32) K => wp_M_drop_17b F o0 x1 Q   K z.1 z.2) k (M, x2) → ow_B G D cA ad (ow_A G ad) M s s.heap H locs → lv_has ls 4 [(0, .ref (ad o0)), (2, .int x2)] → W p l e rm_M_drop s m ([.ref (ad o0), .int x1] : List Value).toArray below meth c H locs 0 0 (MQ below (ow_Qi G D cA ad Q) ([.ref (ad o0), .int x1] : List Value).toArray s 0 0 (ow_A G ad)) (F0 m 17 ls []) := by
      intro k
      induction k with
      | zero => intro M x2 H locs ls h hB hl; exact False.elim h
      | succ k ih => intro M x2 H locs ls h hB hl; exact B17   (ow_lp _ k) (fun M x2 H locs ls h hB  hl => ih M x2  H locs ls h hB hl) M x2 H locs ls h hB hl
    intro M x2 H locs ls h hB hl
    exact step F M x2 H locs ls h hB hl
  have hl := lv_entry ([.ref (ad o0), .int x1]) (n := 4) (Nat.le_of_ble_eq_true rfl)
  rw [lg_entry_eq]
  generalize (lg_sl ([.ref (ad o0), .int x1]) ++ List.replicate (4 - (lg_sl ([.ref (ad o0), .int x1])).length) Slot.unset).toArray = ls at hl ⊢
  have hl : lv_has ls 4 [(0, .ref (ad o0)), (1, .int x1)] := hl
  show W p l e rm_M_drop s m _ below meth c s.heap [] 0 0 _ _
  refine lv_aload_n hx hb dc_M_drop_0 rfl (lv_at hl 0 rfl) ?_
  refine lv_aload_n hx hb dc_M_drop_1 rfl (lv_at hl 0 rfl) ?_
  refine lv_iload_n hx hb dc_M_drop_2 rfl (lv_at hl 1 rfl) ?_
  refine ow_calli (va_runV (As := [.int x1]) (rest := [.ref (ad o0)]) ⟨hx, hb, hml, hown, hts⟩ (ct_M_isType l G hG D cA ad F _ k0 _ _ _ h) ⟨ow_cb 1 hts mw_906 mw_12 mw_903 rfl rfl hd_M_isType ⟨Nat.le_of_ble_eq_true rfl, Nat.le_of_ble_eq_true rfl⟩, hts _ mw_905, hts _ ms_21⟩ (ow_preV hB k0 rfl) rfl rfl hl.1 rfl (lv_room (Nat.le_of_ble_eq_true rfl)) dc_M_drop_3 ⟨Nat.zero_le _, Nat.zero_le _⟩) hB (fun r6 M5 H locs h hB => ?_)
  refine lv_iconst (v := 1) hx hb dc_M_drop_6 rfl ?_
  refine ow_calli (va_runV (As := [.int r6, .int 1]) (rest := []) ⟨hx, hb, hml, hown, hts⟩ (ct_M_goes l G hG D cA ad F _ k0 _ _ _ _ h) ⟨ow_cb 2 hts mw_885 mw_12 mw_882 rfl rfl hd_M_goes ⟨Nat.le_of_ble_eq_true rfl, Nat.le_of_ble_eq_true rfl⟩, hts _ mw_884, hts _ ms_18⟩ (ow_preV hB k0 rfl) rfl rfl hl.1 rfl (lv_room (Nat.le_of_ble_eq_true rfl)) dc_M_drop_7 ⟨Nat.zero_le _, Nat.zero_le _⟩) hB (fun r8 M7 H locs h hB => ?_)
  obtain ⟨h1, h2⟩ := h
  refine lv_if_ne hx hb dc_M_drop_10 rfl (fun hc => ?_) (fun hc => ?_)
  · have h := h2 hc
    refine lv_iload_n hx hb dc_M_drop_15 rfl (lv_at hl 1 rfl) ?_
    refine lv_istore_n hx hb dc_M_drop_16 rfl hl (by decide) rfl (fun ls hl => ?_)
    exact L17 _ _ _ _ _ h hB (lv_sub hl [1, 0] rfl)
  · have h := h1 hc
    refine lv_iconst (v := 0) hx hb dc_M_drop_13 rfl ?_
    exact ow_iret hx hb hr hlocks hB h dc_M_drop_14
abbrev rm_M_tieOrder : Room := { frames := 1, cells := 0, slots := 0, locals := 24 }
theorem hd_M_tieOrder : yn_M_tieOrder.cls ≠ "java/lang/invoke/MethodHandle" ∧ yn_M_tieOrder.cls ≠ "java/lang/invoke/VarHandle" ∧ (parseMethodDescriptor yn_M_tieOrder.desc).map (fun d => d.parameters.length) = some 1 := by decide +kernel
set_option maxHeartbeats 4000000 in
set_option maxRecDepth 100000 in
theorem ct_M_tieOrder (l : Launch) (G : List (Nat × Nat)) (hG : ow_lay G) (D : va_G) (cA : Nat → ClassId) (ad : Nat → Nat) (F : Nat) (o0 : Nat) (k0 : ow_kd G o0 = (3, 9)) (x1 : Int32) (M : om_M) (Q : Int32 → om_M → Prop) (h : wp_M_tieOrder F o0 x1 M Q) : Met l yn_M_tieOrder (ow_ws yn_M_tieOrder cb_M_tieOrder 3 (some .int)) rm_M_tieOrder (ow_Pc G D cA ad M [.ref (ad o0), .int x1]) (ow_Qi G D cA ad Q) 0 0 (ow_A G ad) := by
  refine Met.ofW (cc := cb_M_tieOrder) (maxL := 3) (ret := (some .int)) (by decide) rfl ?_
  intro p e s m args below meth c s₁ B hml hv
  obtain ⟨rfl, hB⟩ := hv
  have hx := B.exec
  have hb := B.bytes
  have hr := B.returns
  have hlocks := B.notSynchronized
  have hts : ∀ w ∈ lw_g, w.before ([.ref (ad o0), .int x1] : List Value).toArray s = true := fun w h => atoms_spec (ws := ow_ws yn_M_tieOrder cb_M_tieOrder 3 (some .int)) B.pre w (List.mem_cons_of_mem _ h)
  have hown : s.vm.findClass "BallotDeskModel" = some m.cls := findClass_of_methodNamed B.named
  clear B
  have hl := lv_entry ([.ref (ad o0), .int x1]) (n := 3) (Nat.le_of_ble_eq_true rfl)
  rw [lg_entry_eq]
  generalize (lg_sl ([.ref (ad o0), .int x1]) ++ List.replicate (3 - (lg_sl ([.ref (ad o0), .int x1])).length) Slot.unset).toArray = ls at hl ⊢
  have hl : lv_has ls 3 [(0, .ref (ad o0)), (1, .int x1)] := hl
  show W p l e rm_M_tieOrder s m _ below meth c s.heap [] 0 0 _ _
  refine lv_aload_n hx hb dc_M_tieOrder_0 rfl (lv_at hl 0 rfl) ?_
  refine lv_aload_n hx hb dc_M_tieOrder_1 rfl (lv_at hl 0 rfl) ?_
  refine lv_iload_n hx hb dc_M_tieOrder_2 rfl (lv_at hl 1 rfl) ?_
  refine ow_calli (va_runV (As := [.int x1]) (rest := [.ref (ad o0)]) ⟨hx, hb, hml, hown, hts⟩ (ct_M_isOrder l G hG D cA ad F _ k0 _ _ _ h) ⟨ow_cb 1 hts mw_893 mw_12 mw_890 rfl rfl hd_M_isOrder ⟨Nat.le_of_ble_eq_true rfl, Nat.le_of_ble_eq_true rfl⟩, hts _ mw_892, hts _ ms_19⟩ (ow_preV hB k0 rfl) rfl rfl hl.1 rfl (lv_room (Nat.le_of_ble_eq_true rfl)) dc_M_tieOrder_3 ⟨Nat.zero_le _, Nat.zero_le _⟩) hB (fun r2 M1 H locs h hB => ?_)
  refine lv_iconst (v := 1) hx hb dc_M_tieOrder_6 rfl ?_
  refine ow_calli (va_runV (As := [.int r2, .int 1]) (rest := []) ⟨hx, hb, hml, hown, hts⟩ (ct_M_goes l G hG D cA ad F _ k0 _ _ _ _ h) ⟨ow_cb 2 hts mw_885 mw_12 mw_882 rfl rfl hd_M_goes ⟨Nat.le_of_ble_eq_true rfl, Nat.le_of_ble_eq_true rfl⟩, hts _ mw_884, hts _ ms_18⟩ (ow_preV hB k0 rfl) rfl rfl hl.1 rfl (lv_room (Nat.le_of_ble_eq_true rfl)) dc_M_tieOrder_7 ⟨Nat.zero_le _, Nat.zero_le _⟩) hB (fun r4 M3 H locs h hB => ?_)
  obtain ⟨h1, h2⟩ := h
  refine lv_if_ne hx hb dc_M_tieOrder_10 rfl (fun hc => ?_) (fun hc => ?_)
  · have h := h2 hc
    refine lv_aload_n hx hb dc_M_tieOrder_15 rfl (lv_at hl 0 rfl) ?_
    refine lv_aload_n hx hb dc_M_tieOrder_16 rfl (lv_at hl 0 rfl) ?_
    refine ow_get hx hb hts iw_M hown hB k0 rfl 5 (by decide) mw_802 rfl dc_M_tieOrder_17 ?_
    refine lv_iconst (v := 0) hx hb dc_M_tieOrder_20 rfl ?_
    refine ow_calli (va_runV (As := [.ref (ad (o0 + 3)), .int 0]) (rest := []) ⟨hx, hb, hml, hown, hts⟩ (ct_M_packed l G hG D cA ad F _ k0 _ _ (ly_M_ties hG k0) _ _ _ h) ⟨ow_cb 2 hts mw_918 mw_12 mw_915 rfl rfl hd_M_packed ⟨Nat.le_of_ble_eq_true rfl, Nat.le_of_ble_eq_true rfl⟩, hts _ mw_917, hts _ ms_22⟩ (ow_preV hB k0 rfl) rfl rfl hl.1 rfl (lv_room (Nat.le_of_ble_eq_true rfl)) dc_M_tieOrder_21 ⟨Nat.zero_le _, Nat.zero_le _⟩) hB (fun r6 M5 H locs h hB => ?_)
    refine lv_istore_n hx hb dc_M_tieOrder_24 rfl hl (by decide) rfl (fun ls hl => ?_)
    refine lv_aload_n hx hb dc_M_tieOrder_25 rfl (lv_at hl 1 rfl) ?_
    refine lv_iload_n hx hb dc_M_tieOrder_26 rfl (lv_at hl 2 rfl) ?_
    refine lv_aload_n hx hb dc_M_tieOrder_27 rfl (lv_at hl 1 rfl) ?_
    refine ow_get hx hb hts iw_M hown hB k0 rfl 5 (by decide) mw_802 rfl dc_M_tieOrder_28 ?_
    refine lv_iconst (v := 0) hx hb dc_M_tieOrder_31 rfl ?_
    refine ow_callv (va_runV (As := [.int x1, .ref (ad (o0 + 3)), .int 0]) (rest := []) ⟨hx, hb, hml, hown, hts⟩ (ct_M_unpack l G hG D cA ad F _ k0 _ _ _ (ly_M_ties hG k0) _ _ _ h) ⟨ow_cb 3 hts mw_898 mw_12 mw_895 rfl rfl hd_M_unpack ⟨Nat.le_of_ble_eq_true rfl, Nat.le_of_ble_eq_true rfl⟩, hts _ mw_897, hts _ ms_20⟩ (ow_preV hB k0 rfl) rfl rfl hl.1 rfl (lv_room (Nat.le_of_ble_eq_true rfl)) dc_M_tieOrder_32 ⟨Nat.zero_le _, Nat.zero_le _⟩) hB (fun M7 H locs h hB => ?_)
    refine lv_iload_n hx hb dc_M_tieOrder_35 rfl (lv_at hl 0 rfl) ?_
    exact ow_iret hx hb hr hlocks hB h dc_M_tieOrder_36
  · have h := h1 hc
    refine lv_iconst (v := 0) hx hb dc_M_tieOrder_13 rfl ?_
    exact ow_iret hx hb hr hlocks hB h dc_M_tieOrder_14
abbrev rm_M_agenda : Room := { frames := 1, cells := 0, slots := 0, locals := 24 }
theorem hd_M_agenda : yn_M_agenda.cls ≠ "java/lang/invoke/MethodHandle" ∧ yn_M_agenda.cls ≠ "java/lang/invoke/VarHandle" ∧ (parseMethodDescriptor yn_M_agenda.desc).map (fun d => d.parameters.length) = some 1 := by decide +kernel
set_option maxHeartbeats 4000000 in
set_option maxRecDepth 100000 in
theorem ct_M_agenda (l : Launch) (G : List (Nat × Nat)) (hG : ow_lay G) (D : va_G) (cA : Nat → ClassId) (ad : Nat → Nat) (F : Nat) (o0 : Nat) (k0 : ow_kd G o0 = (3, 9)) (x1 : Int32) (M : om_M) (Q : Int32 → om_M → Prop) (h : wp_M_agenda F o0 x1 M Q) : Met l yn_M_agenda (ow_ws yn_M_agenda cb_M_agenda 3 (some .int)) rm_M_agenda (ow_Pc G D cA ad M [.ref (ad o0), .int x1]) (ow_Qi G D cA ad Q) 0 0 (ow_A G ad) := by
  refine Met.ofW (cc := cb_M_agenda) (maxL := 3) (ret := (some .int)) (by decide) rfl ?_
  intro p e s m args below meth c s₁ B hml hv
  obtain ⟨rfl, hB⟩ := hv
  have hx := B.exec
  have hb := B.bytes
  have hr := B.returns
  have hlocks := B.notSynchronized
  have hts : ∀ w ∈ lw_g, w.before ([.ref (ad o0), .int x1] : List Value).toArray s = true := fun w h => atoms_spec (ws := ow_ws yn_M_agenda cb_M_agenda 3 (some .int)) B.pre w (List.mem_cons_of_mem _ h)
  have hown : s.vm.findClass "BallotDeskModel" = some m.cls := findClass_of_methodNamed B.named
  clear B
  have hl := lv_entry ([.ref (ad o0), .int x1]) (n := 3) (Nat.le_of_ble_eq_true rfl)
  rw [lg_entry_eq]
  generalize (lg_sl ([.ref (ad o0), .int x1]) ++ List.replicate (3 - (lg_sl ([.ref (ad o0), .int x1])).length) Slot.unset).toArray = ls at hl ⊢
  have hl : lv_has ls 3 [(0, .ref (ad o0)), (1, .int x1)] := hl
  show W p l e rm_M_agenda s m _ below meth c s.heap [] 0 0 _ _
  refine lv_aload_n hx hb dc_M_agenda_0 rfl (lv_at hl 0 rfl) ?_
  refine lv_aload_n hx hb dc_M_agenda_1 rfl (lv_at hl 0 rfl) ?_
  refine lv_iload_n hx hb dc_M_agenda_2 rfl (lv_at hl 1 rfl) ?_
  refine ow_calli (va_runV (As := [.int x1]) (rest := [.ref (ad o0)]) ⟨hx, hb, hml, hown, hts⟩ (ct_M_isOrder l G hG D cA ad F _ k0 _ _ _ h) ⟨ow_cb 1 hts mw_893 mw_12 mw_890 rfl rfl hd_M_isOrder ⟨Nat.le_of_ble_eq_true rfl, Nat.le_of_ble_eq_true rfl⟩, hts _ mw_892, hts _ ms_19⟩ (ow_preV hB k0 rfl) rfl rfl hl.1 rfl (lv_room (Nat.le_of_ble_eq_true rfl)) dc_M_agenda_3 ⟨Nat.zero_le _, Nat.zero_le _⟩) hB (fun r2 M1 H locs h hB => ?_)
  refine lv_iconst (v := 1) hx hb dc_M_agenda_6 rfl ?_
  refine ow_calli (va_runV (As := [.int r2, .int 1]) (rest := []) ⟨hx, hb, hml, hown, hts⟩ (ct_M_goes l G hG D cA ad F _ k0 _ _ _ _ h) ⟨ow_cb 2 hts mw_885 mw_12 mw_882 rfl rfl hd_M_goes ⟨Nat.le_of_ble_eq_true rfl, Nat.le_of_ble_eq_true rfl⟩, hts _ mw_884, hts _ ms_18⟩ (ow_preV hB k0 rfl) rfl rfl hl.1 rfl (lv_room (Nat.le_of_ble_eq_true rfl)) dc_M_agenda_7 ⟨Nat.zero_le _, Nat.zero_le _⟩) hB (fun r4 M3 H locs h hB => ?_)
  obtain ⟨h1, h2⟩ := h
  refine lv_if_ne hx hb dc_M_agenda_10 rfl (fun hc => ?_) (fun hc => ?_)
  · have h := h2 hc
    refine lv_aload_n hx hb dc_M_agenda_15 rfl (lv_at hl 0 rfl) ?_
    refine lv_aload_n hx hb dc_M_agenda_16 rfl (lv_at hl 0 rfl) ?_
    refine ow_get hx hb hts iw_M hown hB k0 rfl 6 (by decide) mw_803 rfl dc_M_agenda_17 ?_
    refine lv_iconst (v := 0) hx hb dc_M_agenda_20 rfl ?_
    refine ow_calli (va_runV (As := [.ref (ad (o0 + 4)), .int 0]) (rest := []) ⟨hx, hb, hml, hown, hts⟩ (ct_M_packed l G hG D cA ad F _ k0 _ _ (ly_M_agendas hG k0) _ _ _ h) ⟨ow_cb 2 hts mw_918 mw_12 mw_915 rfl rfl hd_M_packed ⟨Nat.le_of_ble_eq_true rfl, Nat.le_of_ble_eq_true rfl⟩, hts _ mw_917, hts _ ms_22⟩ (ow_preV hB k0 rfl) rfl rfl hl.1 rfl (lv_room (Nat.le_of_ble_eq_true rfl)) dc_M_agenda_21 ⟨Nat.zero_le _, Nat.zero_le _⟩) hB (fun r6 M5 H locs h hB => ?_)
    refine lv_istore_n hx hb dc_M_agenda_24 rfl hl (by decide) rfl (fun ls hl => ?_)
    refine lv_aload_n hx hb dc_M_agenda_25 rfl (lv_at hl 1 rfl) ?_
    refine lv_iload_n hx hb dc_M_agenda_26 rfl (lv_at hl 2 rfl) ?_
    refine lv_aload_n hx hb dc_M_agenda_27 rfl (lv_at hl 1 rfl) ?_
    refine ow_get hx hb hts iw_M hown hB k0 rfl 6 (by decide) mw_803 rfl dc_M_agenda_28 ?_
    refine lv_iconst (v := 0) hx hb dc_M_agenda_31 rfl ?_
    refine ow_callv (va_runV (As := [.int x1, .ref (ad (o0 + 4)), .int 0]) (rest := []) ⟨hx, hb, hml, hown, hts⟩ (ct_M_unpack l G hG D cA ad F _ k0 _ _ _ (ly_M_agendas hG k0) _ _ _ h) ⟨ow_cb 3 hts mw_898 mw_12 mw_895 rfl rfl hd_M_unpack ⟨Nat.le_of_ble_eq_true rfl, Nat.le_of_ble_eq_true rfl⟩, hts _ mw_897, hts _ ms_20⟩ (ow_preV hB k0 rfl) rfl rfl hl.1 rfl (lv_room (Nat.le_of_ble_eq_true rfl)) dc_M_agenda_32 ⟨Nat.zero_le _, Nat.zero_le _⟩) hB (fun M7 H locs h hB => ?_)
    refine lv_iload_n hx hb dc_M_agenda_35 rfl (lv_at hl 0 rfl) ?_
    exact ow_iret hx hb hr hlocks hB h dc_M_agenda_36
  · have h := h1 hc
    refine lv_iconst (v := 0) hx hb dc_M_agenda_13 rfl ?_
    exact ow_iret hx hb hr hlocks hB h dc_M_agenda_14
abbrev rm_M_weight : Room := { frames := 1, cells := 0, slots := 0, locals := 22 }
theorem hd_M_weight : yn_M_weight.cls ≠ "java/lang/invoke/MethodHandle" ∧ yn_M_weight.cls ≠ "java/lang/invoke/VarHandle" ∧ (parseMethodDescriptor yn_M_weight.desc).map (fun d => d.parameters.length) = some 2 := by decide +kernel
set_option maxHeartbeats 4000000 in
set_option maxRecDepth 100000 in
theorem ct_M_weight (l : Launch) (G : List (Nat × Nat)) (hG : ow_lay G) (D : va_G) (cA : Nat → ClassId) (ad : Nat → Nat) (F : Nat) (o0 : Nat) (k0 : ow_kd G o0 = (3, 9)) (x1 : Int32) (x2 : Int32) (M : om_M) (Q : Int32 → om_M → Prop) (h : wp_M_weight F o0 x1 x2 M Q) : Met l yn_M_weight (ow_ws yn_M_weight cb_M_weight 4 (some .int)) rm_M_weight (ow_Pc G D cA ad M [.ref (ad o0), .int x1, .int x2]) (ow_Qi G D cA ad Q) 0 0 (ow_A G ad) := by
  refine Met.ofW (cc := cb_M_weight) (maxL := 4) (ret := (some .int)) (by decide) rfl ?_
  intro p e s m args below meth c s₁ B hml hv
  obtain ⟨rfl, hB⟩ := hv
  have hx := B.exec
  have hb := B.bytes
  have hr := B.returns
  have hlocks := B.notSynchronized
  have hts : ∀ w ∈ lw_g, w.before ([.ref (ad o0), .int x1, .int x2] : List Value).toArray s = true := fun w h => atoms_spec (ws := ow_ws yn_M_weight cb_M_weight 4 (some .int)) B.pre w (List.mem_cons_of_mem _ h)
  have hown : s.vm.findClass "BallotDeskModel" = some m.cls := findClass_of_methodNamed B.named
  clear B
  have hl := lv_entry ([.ref (ad o0), .int x1, .int x2]) (n := 4) (Nat.le_of_ble_eq_true rfl)
  rw [lg_entry_eq]
  generalize (lg_sl ([.ref (ad o0), .int x1, .int x2]) ++ List.replicate (4 - (lg_sl ([.ref (ad o0), .int x1, .int x2])).length) Slot.unset).toArray = ls at hl ⊢
  have hl : lv_has ls 4 [(0, .ref (ad o0)), (1, .int x1), (2, .int x2)] := hl
  show W p l e rm_M_weight s m _ below meth c s.heap [] 0 0 _ _
  refine lv_aload_n hx hb dc_M_weight_0 rfl (lv_at hl 0 rfl) ?_
  refine lv_iload_n hx hb dc_M_weight_1 rfl (lv_at hl 1 rfl) ?_
  refine lv_iconst (v := 0) hx hb dc_M_weight_2 rfl ?_
  refine lv_aload_n hx hb dc_M_weight_3 rfl (lv_at hl 0 rfl) ?_
  refine ow_get hx hb hts iw_M hown hB k0 rfl 1 (by decide) mw_798 rfl dc_M_weight_4 ?_
  refine lv_iconst (v := 1) hx hb dc_M_weight_7 rfl ?_
  refine lv_isub hx hb dc_M_weight_8 ?_
  refine ow_calli (va_runS (As := [.int x1, .int 0, .int ((M.1 o0 1) - 1)]) (rest := [.ref (ad o0)]) ⟨hx, hb, hml, hown, hts⟩ (ct_M_within l G hG D cA ad F _ _ _ _ _ h) ⟨ow_cb 3 hts mw_881 mw_12 mw_879 rfl rfl hd_M_within ⟨Nat.le_of_ble_eq_true rfl, Nat.le_of_ble_eq_true rfl⟩, hts _ mw_880⟩ (ow_preS hB) rfl rfl hl.1 rfl (lv_room (Nat.le_of_ble_eq_true rfl)) dc_M_weight_9 ⟨Nat.zero_le _, Nat.zero_le _⟩) hB (fun r2 M1 H locs h hB => ?_)
  refine lv_iload_n hx hb dc_M_weight_12 rfl (lv_at hl 2 rfl) ?_
  refine lv_iconst (v := 0) hx hb dc_M_weight_13 rfl ?_
  refine lv_sipush (v := 1000) hx hb dc_M_weight_14 rfl ?_
  refine ow_calli (va_runS (As := [.int x2, .int 0, .int 1000]) (rest := [.int r2, .ref (ad o0)]) ⟨hx, hb, hml, hown, hts⟩ (ct_M_within l G hG D cA ad F _ _ _ _ _ h) ⟨ow_cb 3 hts mw_881 mw_12 mw_879 rfl rfl hd_M_within ⟨Nat.le_of_ble_eq_true rfl, Nat.le_of_ble_eq_true rfl⟩, hts _ mw_880⟩ (ow_preS hB) rfl rfl hl.1 rfl (lv_room (Nat.le_of_ble_eq_true rfl)) dc_M_weight_17 ⟨Nat.zero_le _, Nat.zero_le _⟩) hB (fun r4 M3 H locs h hB => ?_)
  refine ow_calli (va_runV (As := [.int r2, .int r4]) (rest := []) ⟨hx, hb, hml, hown, hts⟩ (ct_M_goes l G hG D cA ad F _ k0 _ _ _ _ h) ⟨ow_cb 2 hts mw_885 mw_12 mw_882 rfl rfl hd_M_goes ⟨Nat.le_of_ble_eq_true rfl, Nat.le_of_ble_eq_true rfl⟩, hts _ mw_884, hts _ ms_18⟩ (ow_preV hB k0 rfl) rfl rfl hl.1 rfl (lv_room (Nat.le_of_ble_eq_true rfl)) dc_M_weight_20 ⟨Nat.zero_le _, Nat.zero_le _⟩) hB (fun r6 M5 H locs h hB => ?_)
  obtain ⟨h1, h2⟩ := h
  refine lv_if_ne hx hb dc_M_weight_23 rfl (fun hc => ?_) (fun hc => ?_)
  · have h := h2 hc
    refine lv_aload_n hx hb dc_M_weight_28 rfl (lv_at hl 0 rfl) ?_
    refine ow_get hx hb hts iw_M hown hB k0 rfl 7 (by decide) mw_804 rfl dc_M_weight_29 ?_
    refine lv_iload_n hx hb dc_M_weight_32 rfl (lv_at hl 1 rfl) ?_
    obtain ⟨hi7, h⟩ := h
    refine ow_iald hx hb hB (ly_M_weights hG k0) hi7 dc_M_weight_33 ?_
    refine lv_istore_n hx hb dc_M_weight_34 rfl hl (by decide) rfl (fun ls hl => ?_)
    refine lv_aload_n hx hb dc_M_weight_35 rfl (lv_at hl 1 rfl) ?_
    refine ow_get hx hb hts iw_M hown hB k0 rfl 7 (by decide) mw_804 rfl dc_M_weight_36 ?_
    refine lv_iload_n hx hb dc_M_weight_39 rfl (lv_at hl 2 rfl) ?_
    refine lv_iload_n hx hb dc_M_weight_40 rfl (lv_at hl 3 rfl) ?_
    refine ow_iast hx hb hB (ly_M_weights hG k0) hi7 dc_M_weight_41 (fun H locs hB => ?_)
    refine lv_iload_n hx hb dc_M_weight_42 rfl (lv_at hl 0 rfl) ?_
    exact ow_iret hx hb hr hlocks hB h dc_M_weight_43
  · have h := h1 hc
    refine lv_iconst (v := 0) hx hb dc_M_weight_26 rfl ?_
    exact ow_iret hx hb hr hlocks hB h dc_M_weight_27
abbrev rm_M_load : Room := { frames := 0, cells := 0, slots := 0, locals := 0 }
theorem hd_M_load : yn_M_load.cls ≠ "java/lang/invoke/MethodHandle" ∧ yn_M_load.cls ≠ "java/lang/invoke/VarHandle" ∧ (parseMethodDescriptor yn_M_load.desc).map (fun d => d.parameters.length) = some 0 := by decide +kernel
set_option maxHeartbeats 4000000 in
set_option maxRecDepth 100000 in
theorem ct_M_load (l : Launch) (G : List (Nat × Nat)) (hG : ow_lay G) (D : va_G) (cA : Nat → ClassId) (ad : Nat → Nat) (F : Nat) (o0 : Nat) (k0 : ow_kd G o0 = (3, 9)) (M : om_M) (Q : om_M → Prop) (h : wp_M_load F o0 M Q) : Met l yn_M_load (ow_ws yn_M_load cb_M_load 2 none) rm_M_load (ow_Pc G D cA ad M [.ref (ad o0)]) (ow_Qv G D cA ad Q) 0 0 (ow_A G ad) := by
  refine Met.ofW (cc := cb_M_load) (maxL := 2) (ret := none) (by decide) rfl ?_
  intro p e s m args below meth c s₁ B hml hv
  obtain ⟨rfl, hB⟩ := hv
  have hx := B.exec
  have hb := B.bytes
  have hr := B.returns
  have hlocks := B.notSynchronized
  have hts : ∀ w ∈ lw_g, w.before ([.ref (ad o0)] : List Value).toArray s = true := fun w h => atoms_spec (ws := ow_ws yn_M_load cb_M_load 2 none) B.pre w (List.mem_cons_of_mem _ h)
  have hown : s.vm.findClass "BallotDeskModel" = some m.cls := findClass_of_methodNamed B.named
  clear B
  have B77 : ∀   (K77 : om_M × Int32 → Prop) (hK77 : ∀ (M : om_M) (x1 : Int32) (H : Heap) (locs : List Loc) (ls : Array Slot), K77 (M, x1) → ow_B G D cA ad (ow_A G ad) M s s.heap H locs → lv_has ls 2 [(0, .ref (ad o0)), (1, .int x1)] → W p l e rm_M_load s m ([.ref (ad o0)] : List Value).toArray below meth c H locs 0 0 (MQ below (ow_Qv G D cA ad Q) ([.ref (ad o0)] : List Value).toArray s 0 0 (ow_A G ad)) (F0 m 77 ls [])) (M : om_M) (x1 : Int32) (H : Heap) (locs : List Loc) (ls : Array Slot), wp_M_load_77b F o0 Q   K77 M x1 → ow_B G D cA ad (ow_A G ad) M s s.heap H locs → lv_has ls 2 [(0, .ref (ad o0)), (1, .int x1)] → W p l e rm_M_load s m ([.ref (ad o0)] : List Value).toArray below meth c H locs 0 0 (MQ below (ow_Qv G D cA ad Q) ([.ref (ad o0)] : List Value).toArray s 0 0 (ow_A G ad)) (F0 m 77 ls []) := by
    intro   K77 hK77 M x1 H locs ls h hB hl
    refine lv_iload_n hx hb dc_M_load_77 rfl (lv_at hl 1 rfl) ?_
    refine lv_bipush (v := 7) hx hb dc_M_load_78 rfl ?_
    obtain ⟨h1, h2⟩ := h
    refine lv_icmp_ge hx hb dc_M_load_80 rfl (fun hc => ?_) (fun hc => ?_)
    · have h := h1 hc
      exact ow_vret hx hb hr hlocks hB h dc_M_load_125
    · have h := h2 hc
      refine lv_aload_n hx hb dc_M_load_83 rfl (lv_at hl 0 rfl) ?_
      refine ow_get hx hb hts iw_M hown hB k0 rfl 12 (by decide) mw_809 rfl dc_M_load_84 ?_
      refine lv_iload_n hx hb dc_M_load_87 rfl (lv_at hl 1 rfl) ?_
      refine lv_aload_n hx hb dc_M_load_88 rfl (lv_at hl 0 rfl) ?_
      refine ow_get hx hb hts iw_M hown hB k0 rfl 5 (by decide) mw_802 rfl dc_M_load_89 ?_
      refine lv_iload_n hx hb dc_M_load_92 rfl (lv_at hl 1 rfl) ?_
      obtain ⟨hi1, h⟩ := h
      refine ow_iald hx hb hB (ly_M_ties hG k0) hi1 dc_M_load_93 ?_
      refine ow_iast hx hb hB (ly_M_tie hG k0) hi1 dc_M_load_94 (fun H locs hB => ?_)
      refine lv_aload_n hx hb dc_M_load_95 rfl (lv_at hl 0 rfl) ?_
      refine ow_get hx hb hts iw_M hown hB k0 rfl 13 (by decide) mw_810 rfl dc_M_load_96 ?_
      refine lv_iload_n hx hb dc_M_load_99 rfl (lv_at hl 1 rfl) ?_
      refine lv_aload_n hx hb dc_M_load_100 rfl (lv_at hl 0 rfl) ?_
      refine ow_get hx hb hts iw_M hown hB k0 rfl 6 (by decide) mw_803 rfl dc_M_load_101 ?_
      refine lv_iload_n hx hb dc_M_load_104 rfl (lv_at hl 1 rfl) ?_
      refine ow_iald hx hb hB (ly_M_agendas hG k0) hi1 dc_M_load_105 ?_
      refine ow_iast hx hb hB (ly_M_turn hG k0) hi1 dc_M_load_106 (fun H locs hB => ?_)
      refine lv_aload_n hx hb dc_M_load_107 rfl (lv_at hl 0 rfl) ?_
      refine ow_get hx hb hts iw_M hown hB k0 rfl 14 (by decide) mw_811 rfl dc_M_load_108 ?_
      refine lv_iload_n hx hb dc_M_load_111 rfl (lv_at hl 1 rfl) ?_
      refine lv_aload_n hx hb dc_M_load_112 rfl (lv_at hl 0 rfl) ?_
      refine ow_get hx hb hts iw_M hown hB k0 rfl 7 (by decide) mw_804 rfl dc_M_load_113 ?_
      refine lv_iload_n hx hb dc_M_load_116 rfl (lv_at hl 1 rfl) ?_
      refine ow_iald hx hb hB (ly_M_weights hG k0) hi1 dc_M_load_117 ?_
      refine ow_iast hx hb hB (ly_M_weight hG k0) hi1 dc_M_load_118 (fun H locs hB => ?_)
      refine lv_iinc hx hb dc_M_load_119 hl (k := 1) rfl rfl (by decide) rfl (fun ls hl => ?_)
      refine lv_goto hx hb dc_M_load_122 rfl ?_
      exact hK77 _ _ _ _ _ h hB (lv_sub hl [1, 0] rfl)
  have L77 : ∀   (M : om_M) (x1 : Int32) (H : Heap) (locs : List Loc) (ls : Array Slot), wp_M_load_77 F o0 Q   M x1 → ow_B G D cA ad (ow_A G ad) M s s.heap H locs → lv_has ls 2 [(0, .ref (ad o0)), (1, .int x1)] → W p l e rm_M_load s m ([.ref (ad o0)] : List Value).toArray below meth c H locs 0 0 (MQ below (ow_Qv G D cA ad Q) ([.ref (ad o0)] : List Value).toArray s 0 0 (ow_A G ad)) (F0 m 77 ls []) := by
    have step : ∀ (k : Nat) (M : om_M) (x1 : Int32) (H : Heap) (locs : List Loc) (ls : Array Slot), ow_lp (fun (z : om_M × Int32) K => wp_M_load_77b F o0 Q   K z.1 z.2) k (M, x1) → ow_B G D cA ad (ow_A G ad) M s s.heap H locs → lv_has ls 2 [(0, .ref (ad o0)), (1, .int x1)] → W p l e rm_M_load s m ([.ref (ad o0)] : List Value).toArray below meth c H locs 0 0 (MQ below (ow_Qv G D cA ad Q) ([.ref (ad o0)] : List Value).toArray s 0 0 (ow_A G ad)) (F0 m 77 ls []) := by
      intro k
      induction k with
      | zero => intro M x1 H locs ls h hB hl; exact False.elim h
      | succ k ih => intro M x1 H locs ls h hB hl; exact B77   (ow_lp _ k) (fun M x1 H locs ls h hB  hl => ih M x1  H locs ls h hB hl) M x1 H locs ls h hB hl
    intro M x1 H locs ls h hB hl
    exact step F M x1 H locs ls h hB hl
  have L75 : ∀   (M : om_M)   (H : Heap) (locs : List Loc) (ls : Array Slot), wp_M_load_75 F o0 Q   M   → ow_B G D cA ad (ow_A G ad) M s s.heap H locs → lv_has ls 2 [(0, .ref (ad o0))] → W p l e rm_M_load s m ([.ref (ad o0)] : List Value).toArray below meth c H locs 0 0 (MQ below (ow_Qv G D cA ad Q) ([.ref (ad o0)] : List Value).toArray s 0 0 (ow_A G ad)) (F0 m 75 ls []) := by
    intro   M H locs ls h hB hl
    refine lv_iconst (v := 0) hx hb dc_M_load_75 rfl ?_
    refine lv_istore_n hx hb dc_M_load_76 rfl hl (by decide) rfl (fun ls hl => ?_)
    exact L77 _ _ _ _ _ h hB (lv_sub hl [1, 0] rfl)
  have B49 : ∀   (K49 : om_M × Int32 → Prop) (hK49 : ∀ (M : om_M) (x1 : Int32) (H : Heap) (locs : List Loc) (ls : Array Slot), K49 (M, x1) → ow_B G D cA ad (ow_A G ad) M s s.heap H locs → lv_has ls 2 [(0, .ref (ad o0)), (1, .int x1)] → W p l e rm_M_load s m ([.ref (ad o0)] : List Value).toArray below meth c H locs 0 0 (MQ below (ow_Qv G D cA ad Q) ([.ref (ad o0)] : List Value).toArray s 0 0 (ow_A G ad)) (F0 m 49 ls [])) (M : om_M) (x1 : Int32) (H : Heap) (locs : List Loc) (ls : Array Slot), wp_M_load_49b F o0 Q   K49 M x1 → ow_B G D cA ad (ow_A G ad) M s s.heap H locs → lv_has ls 2 [(0, .ref (ad o0)), (1, .int x1)] → W p l e rm_M_load s m ([.ref (ad o0)] : List Value).toArray below meth c H locs 0 0 (MQ below (ow_Qv G D cA ad Q) ([.ref (ad o0)] : List Value).toArray s 0 0 (ow_A G ad)) (F0 m 49 ls []) := by
    intro   K49 hK49 M x1 H locs ls h hB hl
    refine lv_iload_n hx hb dc_M_load_49 rfl (lv_at hl 1 rfl) ?_
    refine lv_aload_n hx hb dc_M_load_50 rfl (lv_at hl 0 rfl) ?_
    refine ow_get hx hb hts iw_M hown hB k0 rfl 2 (by decide) mw_799 rfl dc_M_load_51 ?_
    obtain ⟨h1, h2⟩ := h
    refine lv_icmp_ge hx hb dc_M_load_54 rfl (fun hc => ?_) (fun hc => ?_)
    · have h := h1 hc
      exact L75 _ _ _ _ h hB (lv_sub hl [0] rfl)
    · have h := h2 hc
      refine lv_aload_n hx hb dc_M_load_57 rfl (lv_at hl 0 rfl) ?_
      refine ow_get hx hb hts iw_M hown hB k0 rfl 11 (by decide) mw_808 rfl dc_M_load_58 ?_
      refine lv_iload_n hx hb dc_M_load_61 rfl (lv_at hl 1 rfl) ?_
      refine lv_aload_n hx hb dc_M_load_62 rfl (lv_at hl 0 rfl) ?_
      refine ow_get hx hb hts iw_M hown hB k0 rfl 4 (by decide) mw_801 rfl dc_M_load_63 ?_
      refine lv_iload_n hx hb dc_M_load_66 rfl (lv_at hl 1 rfl) ?_
      obtain ⟨hi2, h⟩ := h
      refine ow_iald hx hb hB (ly_M_amounts hG k0) hi2 dc_M_load_67 ?_
      obtain ⟨hi3, h⟩ := h
      refine ow_iast hx hb hB (ly_M_voters hG k0) hi3 dc_M_load_68 (fun H locs hB => ?_)
      refine lv_iinc hx hb dc_M_load_69 hl (k := 1) rfl rfl (by decide) rfl (fun ls hl => ?_)
      refine lv_goto hx hb dc_M_load_72 rfl ?_
      exact hK49 _ _ _ _ _ h hB (lv_sub hl [1, 0] rfl)
  have L49 : ∀   (M : om_M) (x1 : Int32) (H : Heap) (locs : List Loc) (ls : Array Slot), wp_M_load_49 F o0 Q   M x1 → ow_B G D cA ad (ow_A G ad) M s s.heap H locs → lv_has ls 2 [(0, .ref (ad o0)), (1, .int x1)] → W p l e rm_M_load s m ([.ref (ad o0)] : List Value).toArray below meth c H locs 0 0 (MQ below (ow_Qv G D cA ad Q) ([.ref (ad o0)] : List Value).toArray s 0 0 (ow_A G ad)) (F0 m 49 ls []) := by
    have step : ∀ (k : Nat) (M : om_M) (x1 : Int32) (H : Heap) (locs : List Loc) (ls : Array Slot), ow_lp (fun (z : om_M × Int32) K => wp_M_load_49b F o0 Q   K z.1 z.2) k (M, x1) → ow_B G D cA ad (ow_A G ad) M s s.heap H locs → lv_has ls 2 [(0, .ref (ad o0)), (1, .int x1)] → W p l e rm_M_load s m ([.ref (ad o0)] : List Value).toArray below meth c H locs 0 0 (MQ below (ow_Qv G D cA ad Q) ([.ref (ad o0)] : List Value).toArray s 0 0 (ow_A G ad)) (F0 m 49 ls []) := by
      intro k
      induction k with
      | zero => intro M x1 H locs ls h hB hl; exact False.elim h
      | succ k ih => intro M x1 H locs ls h hB hl; exact B49   (ow_lp _ k) (fun M x1 H locs ls h hB  hl => ih M x1  H locs ls h hB hl) M x1 H locs ls h hB hl
    intro M x1 H locs ls h hB hl
    exact step F M x1 H locs ls h hB hl
  have L47 : ∀   (M : om_M)   (H : Heap) (locs : List Loc) (ls : Array Slot), wp_M_load_47 F o0 Q   M   → ow_B G D cA ad (ow_A G ad) M s s.heap H locs → lv_has ls 2 [(0, .ref (ad o0))] → W p l e rm_M_load s m ([.ref (ad o0)] : List Value).toArray below meth c H locs 0 0 (MQ below (ow_Qv G D cA ad Q) ([.ref (ad o0)] : List Value).toArray s 0 0 (ow_A G ad)) (F0 m 47 ls []) := by
    intro   M H locs ls h hB hl
    refine lv_iconst (v := 0) hx hb dc_M_load_47 rfl ?_
    refine lv_istore_n hx hb dc_M_load_48 rfl hl (by decide) rfl (fun ls hl => ?_)
    exact L49 _ _ _ _ _ h hB (lv_sub hl [1, 0] rfl)
  have B18 : ∀   (K18 : om_M × Int32 → Prop) (hK18 : ∀ (M : om_M) (x1 : Int32) (H : Heap) (locs : List Loc) (ls : Array Slot), K18 (M, x1) → ow_B G D cA ad (ow_A G ad) M s s.heap H locs → lv_has ls 2 [(0, .ref (ad o0)), (1, .int x1)] → W p l e rm_M_load s m ([.ref (ad o0)] : List Value).toArray below meth c H locs 0 0 (MQ below (ow_Qv G D cA ad Q) ([.ref (ad o0)] : List Value).toArray s 0 0 (ow_A G ad)) (F0 m 18 ls [])) (M : om_M) (x1 : Int32) (H : Heap) (locs : List Loc) (ls : Array Slot), wp_M_load_18b F o0 Q   K18 M x1 → ow_B G D cA ad (ow_A G ad) M s s.heap H locs → lv_has ls 2 [(0, .ref (ad o0)), (1, .int x1)] → W p l e rm_M_load s m ([.ref (ad o0)] : List Value).toArray below meth c H locs 0 0 (MQ below (ow_Qv G D cA ad Q) ([.ref (ad o0)] : List Value).toArray s 0 0 (ow_A G ad)) (F0 m 18 ls []) := by
    intro   K18 hK18 M x1 H locs ls h hB hl
    refine lv_iload_n hx hb dc_M_load_18 rfl (lv_at hl 1 rfl) ?_
    refine lv_bipush (v := 7) hx hb dc_M_load_19 rfl ?_
    refine lv_aload_n hx hb dc_M_load_21 rfl (lv_at hl 0 rfl) ?_
    refine ow_get hx hb hts iw_M hown hB k0 rfl 2 (by decide) mw_799 rfl dc_M_load_22 ?_
    refine lv_imul hx hb dc_M_load_25 ?_
    obtain ⟨h1, h2⟩ := h
    refine lv_icmp_ge hx hb dc_M_load_26 rfl (fun hc => ?_) (fun hc => ?_)
    · have h := h1 hc
      exact L47 _ _ _ _ h hB (lv_sub hl [0] rfl)
    · have h := h2 hc
      refine lv_aload_n hx hb dc_M_load_29 rfl (lv_at hl 0 rfl) ?_
      refine ow_get hx hb hts iw_M hown hB k0 rfl 10 (by decide) mw_807 rfl dc_M_load_30 ?_
      refine lv_iload_n hx hb dc_M_load_33 rfl (lv_at hl 1 rfl) ?_
      refine lv_aload_n hx hb dc_M_load_34 rfl (lv_at hl 0 rfl) ?_
      refine ow_get hx hb hts iw_M hown hB k0 rfl 3 (by decide) mw_800 rfl dc_M_load_35 ?_
      refine lv_iload_n hx hb dc_M_load_38 rfl (lv_at hl 1 rfl) ?_
      obtain ⟨hi4, h⟩ := h
      refine ow_iald hx hb hB (ly_M_orders hG k0) hi4 dc_M_load_39 ?_
      obtain ⟨hi5, h⟩ := h
      refine ow_iast hx hb hB (ly_M_places hG k0) hi5 dc_M_load_40 (fun H locs hB => ?_)
      refine lv_iinc hx hb dc_M_load_41 hl (k := 1) rfl rfl (by decide) rfl (fun ls hl => ?_)
      refine lv_goto hx hb dc_M_load_44 rfl ?_
      exact hK18 _ _ _ _ _ h hB (lv_sub hl [1, 0] rfl)
  have L18 : ∀   (M : om_M) (x1 : Int32) (H : Heap) (locs : List Loc) (ls : Array Slot), wp_M_load_18 F o0 Q   M x1 → ow_B G D cA ad (ow_A G ad) M s s.heap H locs → lv_has ls 2 [(0, .ref (ad o0)), (1, .int x1)] → W p l e rm_M_load s m ([.ref (ad o0)] : List Value).toArray below meth c H locs 0 0 (MQ below (ow_Qv G D cA ad Q) ([.ref (ad o0)] : List Value).toArray s 0 0 (ow_A G ad)) (F0 m 18 ls []) := by
    have step : ∀ (k : Nat) (M : om_M) (x1 : Int32) (H : Heap) (locs : List Loc) (ls : Array Slot), ow_lp (fun (z : om_M × Int32) K => wp_M_load_18b F o0 Q   K z.1 z.2) k (M, x1) → ow_B G D cA ad (ow_A G ad) M s s.heap H locs → lv_has ls 2 [(0, .ref (ad o0)), (1, .int x1)] → W p l e rm_M_load s m ([.ref (ad o0)] : List Value).toArray below meth c H locs 0 0 (MQ below (ow_Qv G D cA ad Q) ([.ref (ad o0)] : List Value).toArray s 0 0 (ow_A G ad)) (F0 m 18 ls []) := by
      intro k
      induction k with
      | zero => intro M x1 H locs ls h hB hl; exact False.elim h
      | succ k ih => intro M x1 H locs ls h hB hl; exact B18   (ow_lp _ k) (fun M x1 H locs ls h hB  hl => ih M x1  H locs ls h hB hl) M x1 H locs ls h hB hl
    intro M x1 H locs ls h hB hl
    exact step F M x1 H locs ls h hB hl
  have hl := lv_entry ([.ref (ad o0)]) (n := 2) (Nat.le_of_ble_eq_true rfl)
  rw [lg_entry_eq]
  generalize (lg_sl ([.ref (ad o0)]) ++ List.replicate (2 - (lg_sl ([.ref (ad o0)])).length) Slot.unset).toArray = ls at hl ⊢
  have hl : lv_has ls 2 [(0, .ref (ad o0))] := hl
  show W p l e rm_M_load s m _ below meth c s.heap [] 0 0 _ _
  refine lv_aload_n hx hb dc_M_load_0 rfl (lv_at hl 0 rfl) ?_
  refine lv_aload_n hx hb dc_M_load_1 rfl (lv_at hl 0 rfl) ?_
  refine ow_get hx hb hts iw_M hown hB k0 rfl 1 (by decide) mw_798 rfl dc_M_load_2 ?_
  refine ow_put hx hb hts iw_M yf_M of_M nf_M hown hB k0 rfl 8 (by decide) mw_805 rfl (by decide +kernel) (Nat.le_of_ble_eq_true rfl) rfl dc_M_load_5 (fun H locs hB => ?_)
  refine lv_aload_n hx hb dc_M_load_8 rfl (lv_at hl 0 rfl) ?_
  refine lv_aload_n hx hb dc_M_load_9 rfl (lv_at hl 0 rfl) ?_
  refine ow_get hx hb hts iw_M hown hB k0 rfl 2 (by decide) mw_799 rfl dc_M_load_10 ?_
  refine ow_put hx hb hts iw_M yf_M of_M nf_M hown hB k0 rfl 9 (by decide) mw_806 rfl (by decide +kernel) (Nat.le_of_ble_eq_true rfl) rfl dc_M_load_13 (fun H locs hB => ?_)
  refine lv_iconst (v := 0) hx hb dc_M_load_16 rfl ?_
  refine lv_istore_n hx hb dc_M_load_17 rfl hl (by decide) rfl (fun ls hl => ?_)
  exact L18 _ _ _ _ _ h hB (lv_sub hl [1, 0] rfl)
