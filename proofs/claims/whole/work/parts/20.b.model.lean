def wp_M_without_51 (F : Nat) (o0 : Nat) (x1 : Int32) (o2 : Nat) (n2 : Nat) (x3 : Int32) (Q : om_M → Prop)  (K6 : om_M × Int32 × Int32 → Prop) (M : om_M) (x4 : Int32) (x5 : Int32)  : Prop := K6 (M, x4, x5 + 1)
def wp_M_without_47 (F : Nat) (o0 : Nat) (x1 : Int32) (o2 : Nat) (n2 : Nat) (x3 : Int32) (Q : om_M → Prop)  (K6 : om_M × Int32 × Int32 → Prop) (M : om_M) (x4 : Int32) (x5 : Int32) (t0 : Nat) (t1 : Int32) (t2 : Int32) : Prop := vp_in t1 n2 ∧ wp_M_without_51 F o0 x1 o2 n2 x3 Q K6 (om_up M t0 t1.toNatClampNeg t2) (x4 + 1) x5
def wp_M_without_6b (F : Nat) (o0 : Nat) (x1 : Int32) (o2 : Nat) (n2 : Nat) (x3 : Int32) (Q : om_M → Prop)   (K6 : om_M × Int32 × Int32 → Prop) (M : om_M) (x4 : Int32) (x5 : Int32) : Prop := (((x3 + (M.1 o0 8)) ≤ x5 → Q M) ∧ (¬ (x3 + (M.1 o0 8)) ≤ x5 → vp_in x5 n2 ∧ (((M.1 o2 x5.toNatClampNeg) = x1 → wp_M_without_51 F o0 x1 o2 n2 x3 Q K6 M x4 x5) ∧ (¬ (M.1 o2 x5.toNatClampNeg) = x1 → (((M.1 o2 x5.toNatClampNeg) ≤ x1 → wp_M_without_47 F o0 x1 o2 n2 x3 Q K6 M x4 x5 o2 x4 (M.1 o2 x5.toNatClampNeg)) ∧ (¬ (M.1 o2 x5.toNatClampNeg) ≤ x1 → wp_M_without_47 F o0 x1 o2 n2 x3 Q K6 M x4 x5 o2 x4 ((M.1 o2 x5.toNatClampNeg) - 1)))))))
def wp_M_without_6 (F : Nat) (o0 : Nat) (x1 : Int32) (o2 : Nat) (n2 : Nat) (x3 : Int32) (Q : om_M → Prop)   (M : om_M) (x4 : Int32) (x5 : Int32) : Prop := ow_lp (fun (z : om_M × Int32 × Int32) K => wp_M_without_6b F o0 x1 o2 n2 x3 Q   K z.1 z.2.1 z.2.2) F (M, x4, x5)
def wp_M_without (F : Nat) (o0 : Nat) (x1 : Int32) (o2 : Nat) (n2 : Nat) (x3 : Int32) (M : om_M) (Q : om_M → Prop) : Prop := wp_M_without_6 F o0 x1 o2 n2 x3 Q M x3 x3
def wp_M_leaveOut_29 (F : Nat) (o0 : Nat) (x1 : Int32) (Q : om_M → Prop)   (M : om_M)   : Prop := wp_M_without F o0 x1 (o0 + 8) 7 0 M (fun M1 => wp_M_without F o0 x1 (o0 + 9) 7 0 M1 (fun M2 => Q (om_up M2 o0 8 ((M2.1 o0 8) - 1))))
def wp_M_leaveOut_2b (F : Nat) (o0 : Nat) (x1 : Int32) (Q : om_M → Prop)   (K2 : om_M × Int32 → Prop) (M : om_M) (x2 : Int32) : Prop := (((M.1 o0 9) ≤ x2 → wp_M_leaveOut_29 F o0 x1 Q M) ∧ (¬ (M.1 o0 9) ≤ x2 → wp_M_without F o0 x1 (o0 + 6) 154 ((7 : Int32) * x2) M (fun M3 => K2 (M3, x2 + 1))))
def wp_M_leaveOut_2 (F : Nat) (o0 : Nat) (x1 : Int32) (Q : om_M → Prop)   (M : om_M) (x2 : Int32) : Prop := ow_lp (fun (z : om_M × Int32) K => wp_M_leaveOut_2b F o0 x1 Q   K z.1 z.2) F (M, x2)
def wp_M_leaveOut (F : Nat) (o0 : Nat) (x1 : Int32) (M : om_M) (Q : om_M → Prop) : Prop := wp_M_leaveOut_2 F o0 x1 Q M 0
def wp_M_placeOf_2b (F : Nat) (o0 : Nat) (x1 : Int32) (x2 : Int32) (Q : Int32 → om_M → Prop)   (K2 : om_M × Int32 → Prop) (M : om_M) (x3 : Int32) : Prop := vp_in (((7 : Int32) * x1) + x3) 154 ∧ (((M.1 (o0 + 6) (((7 : Int32) * x1) + x3).toNatClampNeg) = x2 → Q x3 M) ∧ (¬ (M.1 (o0 + 6) (((7 : Int32) * x1) + x3).toNatClampNeg) = x2 → K2 (M, x3 + 1)))
def wp_M_placeOf_2 (F : Nat) (o0 : Nat) (x1 : Int32) (x2 : Int32) (Q : Int32 → om_M → Prop)   (M : om_M) (x3 : Int32) : Prop := ow_lp (fun (z : om_M × Int32) K => wp_M_placeOf_2b F o0 x1 x2 Q   K z.1 z.2) F (M, x3)
def wp_M_placeOf (F : Nat) (o0 : Nat) (x1 : Int32) (x2 : Int32) (M : om_M) (Q : Int32 → om_M → Prop) : Prop := wp_M_placeOf_2 F o0 x1 x2 Q M 0
def wp_M_tiePlace_2b (F : Nat) (o0 : Nat) (x1 : Int32) (Q : Int32 → om_M → Prop)   (K2 : om_M × Int32 → Prop) (M : om_M) (x2 : Int32) : Prop := vp_in x2 7 ∧ (((M.1 (o0 + 8) x2.toNatClampNeg) = x1 → Q x2 M) ∧ (¬ (M.1 (o0 + 8) x2.toNatClampNeg) = x1 → K2 (M, x2 + 1)))
def wp_M_tiePlace_2 (F : Nat) (o0 : Nat) (x1 : Int32) (Q : Int32 → om_M → Prop)   (M : om_M) (x2 : Int32) : Prop := ow_lp (fun (z : om_M × Int32) K => wp_M_tiePlace_2b F o0 x1 Q   K z.1 z.2) F (M, x2)
def wp_M_tiePlace (F : Nat) (o0 : Nat) (x1 : Int32) (M : om_M) (Q : Int32 → om_M → Prop) : Prop := wp_M_tiePlace_2 F o0 x1 Q M 0
def wp_M_tally_114 (F : Nat) (o0 : Nat) (Q : om_M → Prop)  (K23 : om_M × Int32 → Prop) (M : om_M) (x1 : Int32)  : Prop := K23 (M, x1 + 1)
def wp_M_tally_108 (F : Nat) (o0 : Nat) (Q : om_M → Prop) (x1 : Int32) (K23 : om_M × Int32 → Prop) (K33 : om_M × Int32 → Prop) (M : om_M) (x2 : Int32)  : Prop := K33 (M, x2 + 1)
def wp_M_tally_45b (F : Nat) (o0 : Nat) (Q : om_M → Prop) (x1 : Int32) (x2 : Int32) (K23 : om_M × Int32 → Prop) (K33 : om_M × Int32 → Prop) (K45 : om_M × Int32 → Prop) (M : om_M) (x3 : Int32) : Prop := (((M.1 o0 8) ≤ x3 → wp_M_tally_108 F o0 Q x1 K23 K33 M x2) ∧ (¬ (M.1 o0 8) ≤ x3 → vp_in (((7 : Int32) * x1) + x2) 154 ∧ vp_in (((7 : Int32) * x1) + x3) 154 ∧ vp_in (((7 : Int32) * (M.1 (o0 + 6) (((7 : Int32) * x1) + x2).toNatClampNeg)) + (M.1 (o0 + 6) (((7 : Int32) * x1) + x3).toNatClampNeg)) 49 ∧ vp_in x1 22 ∧ K45 (om_up M (o0 + 11) (((7 : Int32) * (M.1 (o0 + 6) (((7 : Int32) * x1) + x2).toNatClampNeg)) + (M.1 (o0 + 6) (((7 : Int32) * x1) + x3).toNatClampNeg)).toNatClampNeg ((M.1 (o0 + 11) (((7 : Int32) * (M.1 (o0 + 6) (((7 : Int32) * x1) + x2).toNatClampNeg)) + (M.1 (o0 + 6) (((7 : Int32) * x1) + x3).toNatClampNeg)).toNatClampNeg) + (M.1 (o0 + 7) x1.toNatClampNeg)), x3 + 1)))
def wp_M_tally_45 (F : Nat) (o0 : Nat) (Q : om_M → Prop) (x1 : Int32) (x2 : Int32) (K23 : om_M × Int32 → Prop) (K33 : om_M × Int32 → Prop) (M : om_M) (x3 : Int32) : Prop := ow_lp (fun (z : om_M × Int32) K => wp_M_tally_45b F o0 Q x1 x2 K23 K33 K z.1 z.2) F (M, x3)
def wp_M_tally_33b (F : Nat) (o0 : Nat) (Q : om_M → Prop) (x1 : Int32) (K23 : om_M × Int32 → Prop) (K33 : om_M × Int32 → Prop) (M : om_M) (x2 : Int32) : Prop := (((M.1 o0 8) ≤ x2 → wp_M_tally_114 F o0 Q K23 M x1) ∧ (¬ (M.1 o0 8) ≤ x2 → wp_M_tally_45 F o0 Q x1 x2 K23 K33 M (x2 + 1)))
def wp_M_tally_33 (F : Nat) (o0 : Nat) (Q : om_M → Prop) (x1 : Int32) (K23 : om_M × Int32 → Prop) (M : om_M) (x2 : Int32) : Prop := ow_lp (fun (z : om_M × Int32) K => wp_M_tally_33b F o0 Q x1 K23 K z.1 z.2) F (M, x2)
def wp_M_tally_23b (F : Nat) (o0 : Nat) (Q : om_M → Prop)   (K23 : om_M × Int32 → Prop) (M : om_M) (x1 : Int32) : Prop := (((M.1 o0 9) ≤ x1 → Q M) ∧ (¬ (M.1 o0 9) ≤ x1 → wp_M_tally_33 F o0 Q x1 K23 M 0))
def wp_M_tally_23 (F : Nat) (o0 : Nat) (Q : om_M → Prop)   (M : om_M) (x1 : Int32) : Prop := ow_lp (fun (z : om_M × Int32) K => wp_M_tally_23b F o0 Q   K z.1 z.2) F (M, x1)
def wp_M_tally_21 (F : Nat) (o0 : Nat) (Q : om_M → Prop)   (M : om_M)   : Prop := wp_M_tally_23 F o0 Q M 0
def wp_M_tally_2b (F : Nat) (o0 : Nat) (Q : om_M → Prop)   (K2 : om_M × Int32 → Prop) (M : om_M) (x1 : Int32) : Prop := ((49 ≤ x1 → wp_M_tally_21 F o0 Q M) ∧ (¬ 49 ≤ x1 → vp_in x1 49 ∧ K2 (om_up M (o0 + 11) x1.toNatClampNeg 0, x1 + 1)))
def wp_M_tally_2 (F : Nat) (o0 : Nat) (Q : om_M → Prop)   (M : om_M) (x1 : Int32) : Prop := ow_lp (fun (z : om_M × Int32) K => wp_M_tally_2b F o0 Q   K z.1 z.2) F (M, x1)
def wp_M_tally (F : Nat) (o0 : Nat) (M : om_M) (Q : om_M → Prop) : Prop := wp_M_tally_2 F o0 Q M 0
def wp_M_beats (F : Nat) (o0 : Nat) (x1 : Int32) (x2 : Int32) (M : om_M) (Q : Int32 → om_M → Prop) : Prop := vp_in (((7 : Int32) * x1) + x2) 49 ∧ vp_in (((7 : Int32) * x2) + x1) 49 ∧ (((M.1 (o0 + 11) (((7 : Int32) * x1) + x2).toNatClampNeg) ≤ (M.1 (o0 + 11) (((7 : Int32) * x2) + x1).toNatClampNeg) → Q 0 M) ∧ (¬ (M.1 (o0 + 11) (((7 : Int32) * x1) + x2).toNatClampNeg) ≤ (M.1 (o0 + 11) (((7 : Int32) * x2) + x1).toNatClampNeg) → Q 1 M))
def wp_M_ahead_73 (F : Nat) (o0 : Nat) (x1 : Int32) (x2 : Int32) (Q : Int32 → om_M → Prop)  (K5 : om_M × Int32 × Int32 → Prop) (M : om_M) (x4 : Int32) (t0 : Int32) : Prop := K5 (M, t0, x4 + 1)
def wp_M_ahead_43 (F : Nat) (o0 : Nat) (x1 : Int32) (x2 : Int32) (Q : Int32 → om_M → Prop)  (K5 : om_M × Int32 × Int32 → Prop) (M : om_M) (x3 : Int32) (x4 : Int32) (x5 : Int32)  : Prop := vp_in (((7 : Int32) * x4) + x5) 154 ∧ (((M.1 (o0 + 6) (((7 : Int32) * x4) + x5).toNatClampNeg) = x1 → vp_in x4 22 ∧ wp_M_ahead_73 F o0 x1 x2 Q K5 M x4 (x3 + (M.1 (o0 + 7) x4.toNatClampNeg))) ∧ (¬ (M.1 (o0 + 6) (((7 : Int32) * x4) + x5).toNatClampNeg) = x1 → wp_M_ahead_73 F o0 x1 x2 Q K5 M x4 x3))
def wp_M_ahead_17b (F : Nat) (o0 : Nat) (x1 : Int32) (x2 : Int32) (Q : Int32 → om_M → Prop) (x3 : Int32) (x4 : Int32) (K5 : om_M × Int32 × Int32 → Prop) (K17 : om_M × Int32 → Prop) (M : om_M) (x5 : Int32) : Prop := vp_in (((7 : Int32) * x4) + x5) 154 ∧ ((((x2 >>> ((M.1 (o0 + 6) (((7 : Int32) * x4) + x5).toNatClampNeg) &&& 31)) &&& 1) = 0 → K17 (M, x5 + 1)) ∧ (¬ ((x2 >>> ((M.1 (o0 + 6) (((7 : Int32) * x4) + x5).toNatClampNeg) &&& 31)) &&& 1) = 0 → wp_M_ahead_43 F o0 x1 x2 Q K5 M x3 x4 x5))
def wp_M_ahead_17 (F : Nat) (o0 : Nat) (x1 : Int32) (x2 : Int32) (Q : Int32 → om_M → Prop) (x3 : Int32) (x4 : Int32) (K5 : om_M × Int32 × Int32 → Prop) (M : om_M) (x5 : Int32) : Prop := ow_lp (fun (z : om_M × Int32) K => wp_M_ahead_17b F o0 x1 x2 Q x3 x4 K5 K z.1 z.2) F (M, x5)
def wp_M_ahead_5b (F : Nat) (o0 : Nat) (x1 : Int32) (x2 : Int32) (Q : Int32 → om_M → Prop)   (K5 : om_M × Int32 × Int32 → Prop) (M : om_M) (x3 : Int32) (x4 : Int32) : Prop := (((M.1 o0 9) ≤ x4 → Q x3 M) ∧ (¬ (M.1 o0 9) ≤ x4 → wp_M_ahead_17 F o0 x1 x2 Q x3 x4 K5 M 0))
def wp_M_ahead_5 (F : Nat) (o0 : Nat) (x1 : Int32) (x2 : Int32) (Q : Int32 → om_M → Prop)   (M : om_M) (x3 : Int32) (x4 : Int32) : Prop := ow_lp (fun (z : om_M × Int32 × Int32) K => wp_M_ahead_5b F o0 x1 x2 Q   K z.1 z.2.1 z.2.2) F (M, x3, x4)
def wp_M_ahead (F : Nat) (o0 : Nat) (x1 : Int32) (x2 : Int32) (M : om_M) (Q : Int32 → om_M → Prop) : Prop := wp_M_ahead_5 F o0 x1 x2 Q M 0 0
def wp_M_all (F : Nat) (o0 : Nat) (M : om_M) (Q : Int32 → om_M → Prop) : Prop := Q (((1 : Int32) <<< ((M.1 o0 8) &&& 31)) - 1) M
def wp_M_scored_222 (F : Nat) (o0 : Nat) (x1 : Int32) (x2 : Int32) (Q : Int64 → om_M → Prop)  (K103 : om_M × Int64 × Int32 → Prop) (M : om_M) (j3 : Int64) (x5 : Int32)  : Prop := K103 (M, j3, x5 + 1)
def wp_M_scored_221 (F : Nat) (o0 : Nat) (x1 : Int32) (x2 : Int32) (Q : Int64 → om_M → Prop)  (K103 : om_M × Int64 × Int32 → Prop) (M : om_M) (x5 : Int32) (t0 : Int64) : Prop := wp_M_scored_222 F o0 x1 x2 Q K103 M t0 x5
def wp_M_scored_174 (F : Nat) (o0 : Nat) (x1 : Int32) (x2 : Int32) (Q : Int64 → om_M → Prop)  (K103 : om_M × Int64 × Int32 → Prop) (M : om_M) (j3 : Int64) (x5 : Int32)  : Prop := ((x1 = 6 → ((x5 = x2 → wp_M_scored_222 F o0 x1 x2 Q K103 M j3 x5) ∧ (¬ x5 = x2 → wp_M_beats F o0 x2 x5 M (fun r2 M1 => ((r2 = 0 → wp_M_beats F o0 x5 x2 M1 (fun r4 M3 => ((r4 = 0 → wp_M_scored_221 F o0 x1 x2 Q K103 M3 x5 (j3 + 1)) ∧ (¬ r4 = 0 → wp_M_scored_221 F o0 x1 x2 Q K103 M3 x5 j3)))) ∧ (¬ r2 = 0 → wp_M_scored_221 F o0 x1 x2 Q K103 M1 x5 (j3 + 2))))))) ∧ (¬ x1 = 6 → wp_M_scored_222 F o0 x1 x2 Q K103 M j3 x5))
def wp_M_scored_173 (F : Nat) (o0 : Nat) (x1 : Int32) (x2 : Int32) (Q : Int64 → om_M → Prop)  (K103 : om_M × Int64 × Int32 → Prop) (M : om_M) (x5 : Int32) (t0 : Int64) : Prop := wp_M_scored_174 F o0 x1 x2 Q K103 M t0 x5
def wp_M_scored_103b (F : Nat) (o0 : Nat) (x1 : Int32) (x2 : Int32) (Q : Int64 → om_M → Prop)   (K103 : om_M × Int64 × Int32 → Prop) (M : om_M) (j3 : Int64) (x5 : Int32) : Prop := (((M.1 o0 8) ≤ x5 → Q j3 M) ∧ (¬ (M.1 o0 8) ≤ x5 → ((x1 < 5 → Q j3 M) ∧ (¬ x1 < 5 → ((x1 = 5 → ((x5 = x2 → wp_M_scored_174 F o0 x1 x2 Q K103 M j3 x5) ∧ (¬ x5 = x2 → wp_M_beats F o0 x5 x2 M (fun r6 M5 => ((r6 = 0 → wp_M_scored_174 F o0 x1 x2 Q K103 M5 j3 x5) ∧ (¬ r6 = 0 → vp_in (((7 : Int32) * x5) + x2) 49 ∧ ((j3 < ((M5.1 (o0 + 11) (((7 : Int32) * x5) + x2).toNatClampNeg : Int32).toInt64) → wp_M_scored_173 F o0 x1 x2 Q K103 M5 x5 ((M5.1 (o0 + 11) (((7 : Int32) * x5) + x2).toNatClampNeg : Int32).toInt64)) ∧ (¬ j3 < ((M5.1 (o0 + 11) (((7 : Int32) * x5) + x2).toNatClampNeg : Int32).toInt64) → wp_M_scored_173 F o0 x1 x2 Q K103 M5 x5 j3)))))))) ∧ (¬ x1 = 5 → wp_M_scored_174 F o0 x1 x2 Q K103 M j3 x5))))))
def wp_M_scored_103 (F : Nat) (o0 : Nat) (x1 : Int32) (x2 : Int32) (Q : Int64 → om_M → Prop)   (M : om_M) (j3 : Int64) (x5 : Int32) : Prop := ow_lp (fun (z : om_M × Int64 × Int32) K => wp_M_scored_103b F o0 x1 x2 Q   K z.1 z.2.1 z.2.2) F (M, j3, x5)
def wp_M_scored_100 (F : Nat) (o0 : Nat) (x1 : Int32) (x2 : Int32) (Q : Int64 → om_M → Prop)   (M : om_M) (j3 : Int64)  : Prop := wp_M_scored_103 F o0 x1 x2 Q M j3 0
def wp_M_scored_92 (F : Nat) (o0 : Nat) (x1 : Int32) (x2 : Int32) (Q : Int64 → om_M → Prop)  (K20 : om_M × Int64 × Int32 → Prop) (M : om_M) (x5 : Int32) (t0 : Int64) (t1 : Int64) : Prop := K20 (M, t0 + t1, x5 + 1)
def wp_M_scored_20b (F : Nat) (o0 : Nat) (x1 : Int32) (x2 : Int32) (Q : Int64 → om_M → Prop)   (K20 : om_M × Int64 × Int32 → Prop) (M : om_M) (j3 : Int64) (x5 : Int32) : Prop := (((M.1 o0 9) ≤ x5 → wp_M_scored_100 F o0 x1 x2 Q M j3) ∧ (¬ (M.1 o0 9) ≤ x5 → ((3 ≤ x1 → wp_M_scored_100 F o0 x1 x2 Q M j3) ∧ (¬ 3 ≤ x1 → wp_M_placeOf F o0 x5 x2 M (fun r9 M8 => ((x1 = 1 → ((r9 = ((M8.1 o0 8) - 1) → vp_in x5 22 ∧ wp_M_scored_92 F o0 x1 x2 Q K20 M8 x5 j3 ((M8.1 (o0 + 7) x5.toNatClampNeg : Int32).toInt64)) ∧ (¬ r9 = ((M8.1 o0 8) - 1) → wp_M_scored_92 F o0 x1 x2 Q K20 M8 x5 j3 0))) ∧ (¬ x1 = 1 → vp_in r9 7 ∧ vp_in x5 22 ∧ wp_M_scored_92 F o0 x1 x2 Q K20 M8 x5 j3 (((M8.1 (o0 + 10) r9.toNatClampNeg : Int32).toInt64) * ((M8.1 (o0 + 7) x5.toNatClampNeg : Int32).toInt64)))))))))
def wp_M_scored_20 (F : Nat) (o0 : Nat) (x1 : Int32) (x2 : Int32) (Q : Int64 → om_M → Prop)   (M : om_M) (j3 : Int64) (x5 : Int32) : Prop := ow_lp (fun (z : om_M × Int64 × Int32) K => wp_M_scored_20b F o0 x1 x2 Q   K z.1 z.2.1 z.2.2) F (M, j3, x5)
def wp_M_scored (F : Nat) (o0 : Nat) (x1 : Int32) (x2 : Int32) (M : om_M) (Q : Int64 → om_M → Prop) : Prop := ((x1 = 0 → wp_M_all F o0 M (fun r14 M13 => wp_M_ahead F o0 x2 r14 M13 (fun r16 M15 => Q ((r16 : Int32).toInt64) M15))) ∧ (¬ x1 = 0 → wp_M_scored_20 F o0 x1 x2 Q M 0 0))
def wp_M_extreme_105 (F : Nat) (o0 : Nat) (x1 : Int32) (x2 : Int32) (Q : Int32 → om_M → Prop)  (K5 : om_M × Int32 × Int32 → Prop) (M : om_M) (x4 : Int32) (t0 : Int32) : Prop := K5 (M, t0, x4 + 1)
def wp_M_extreme_90 (F : Nat) (o0 : Nat) (x1 : Int32) (x2 : Int32) (Q : Int32 → om_M → Prop)  (K5 : om_M × Int32 × Int32 → Prop) (M : om_M) (x3 : Int32) (x4 : Int32) (x5 : Int32)  : Prop := ((x5 = 0 → wp_M_extreme_105 F o0 x1 x2 Q K5 M x4 x3) ∧ (¬ x5 = 0 → wp_M_extreme_105 F o0 x1 x2 Q K5 M x4 (x3 ||| ((1 : Int32) <<< (x4 &&& 31)))))
def wp_M_extreme_82 (F : Nat) (o0 : Nat) (x1 : Int32) (x2 : Int32) (Q : Int32 → om_M → Prop) (x3 : Int32) (x4 : Int32) (K5 : om_M × Int32 × Int32 → Prop) (K20 : om_M × Int32 × Int32 → Prop) (M : om_M) (x6 : Int32) (t0 : Int32) : Prop := K20 (M, t0, x6 + 1)
def wp_M_extreme_81 (F : Nat) (o0 : Nat) (x1 : Int32) (x2 : Int32) (Q : Int32 → om_M → Prop) (x3 : Int32) (x4 : Int32) (K5 : om_M × Int32 × Int32 → Prop) (K20 : om_M × Int32 × Int32 → Prop) (M : om_M) (x6 : Int32)  : Prop := wp_M_extreme_82 F o0 x1 x2 Q x3 x4 K5 K20 M x6 0
def wp_M_extreme_77 (F : Nat) (o0 : Nat) (x1 : Int32) (x2 : Int32) (Q : Int32 → om_M → Prop) (x3 : Int32) (x4 : Int32) (K5 : om_M × Int32 × Int32 → Prop) (K20 : om_M × Int32 × Int32 → Prop) (M : om_M) (x6 : Int32)  : Prop := wp_M_extreme_82 F o0 x1 x2 Q x3 x4 K5 K20 M x6 1
def wp_M_extreme_20b (F : Nat) (o0 : Nat) (x1 : Int32) (x2 : Int32) (Q : Int32 → om_M → Prop) (x3 : Int32) (x4 : Int32) (K5 : om_M × Int32 × Int32 → Prop) (K20 : om_M × Int32 × Int32 → Prop) (M : om_M) (x5 : Int32) (x6 : Int32) : Prop := (((M.1 o0 8) ≤ x6 → wp_M_extreme_90 F o0 x1 x2 Q K5 M x3 x4 x5) ∧ (¬ (M.1 o0 8) ≤ x6 → ((x5 = 0 → wp_M_extreme_81 F o0 x1 x2 Q x3 x4 K5 K20 M x6) ∧ (¬ x5 = 0 → ((x2 = 0 → wp_M_scored F o0 x1 x6 M (fun r2 M1 => wp_M_scored F o0 x1 x4 M1 (fun r4 M3 => ((r2 < r4 → wp_M_extreme_81 F o0 x1 x2 Q x3 x4 K5 K20 M3 x6) ∧ (¬ r2 < r4 → wp_M_extreme_77 F o0 x1 x2 Q x3 x4 K5 K20 M3 x6))))) ∧ (¬ x2 = 0 → wp_M_scored F o0 x1 x6 M (fun r6 M5 => wp_M_scored F o0 x1 x4 M5 (fun r8 M7 => ((r8 < r6 → wp_M_extreme_81 F o0 x1 x2 Q x3 x4 K5 K20 M7 x6) ∧ (¬ r8 < r6 → wp_M_extreme_77 F o0 x1 x2 Q x3 x4 K5 K20 M7 x6))))))))))
def wp_M_extreme_20 (F : Nat) (o0 : Nat) (x1 : Int32) (x2 : Int32) (Q : Int32 → om_M → Prop) (x3 : Int32) (x4 : Int32) (K5 : om_M × Int32 × Int32 → Prop) (M : om_M) (x5 : Int32) (x6 : Int32) : Prop := ow_lp (fun (z : om_M × Int32 × Int32) K => wp_M_extreme_20b F o0 x1 x2 Q x3 x4 K5 K z.1 z.2.1 z.2.2) F (M, x5, x6)
def wp_M_extreme_5b (F : Nat) (o0 : Nat) (x1 : Int32) (x2 : Int32) (Q : Int32 → om_M → Prop)   (K5 : om_M × Int32 × Int32 → Prop) (M : om_M) (x3 : Int32) (x4 : Int32) : Prop := (((M.1 o0 8) ≤ x4 → Q x3 M) ∧ (¬ (M.1 o0 8) ≤ x4 → wp_M_extreme_20 F o0 x1 x2 Q x3 x4 K5 M 1 0))
def wp_M_extreme_5 (F : Nat) (o0 : Nat) (x1 : Int32) (x2 : Int32) (Q : Int32 → om_M → Prop)   (M : om_M) (x3 : Int32) (x4 : Int32) : Prop := ow_lp (fun (z : om_M × Int32 × Int32) K => wp_M_extreme_5b F o0 x1 x2 Q   K z.1 z.2.1 z.2.2) F (M, x3, x4)
def wp_M_extreme (F : Nat) (o0 : Nat) (x1 : Int32) (x2 : Int32) (M : om_M) (Q : Int32 → om_M → Prop) : Prop := wp_M_extreme_5 F o0 x1 x2 Q M 0 0
def wp_M_runoff_151 (F : Nat) (o0 : Nat) (Q : Int32 → om_M → Prop)  (K4 : om_M × Int32 × Int32 → Prop) (M : om_M) (x1 : Int32) (x2 : Int32)  : Prop := K4 (M, x1, x2 + 1)
def wp_M_runoff_145 (F : Nat) (o0 : Nat) (Q : Int32 → om_M → Prop) (x2 : Int32) (K4 : om_M × Int32 × Int32 → Prop) (K16 : om_M × Int32 × Int32 → Prop) (M : om_M) (x1 : Int32) (x3 : Int32)  : Prop := K16 (M, x1, x3 + 1)
def wp_M_runoff_144 (F : Nat) (o0 : Nat) (Q : Int32 → om_M → Prop) (x2 : Int32) (K4 : om_M × Int32 × Int32 → Prop) (K16 : om_M × Int32 × Int32 → Prop) (M : om_M) (x3 : Int32) (t0 : Int32) : Prop := wp_M_runoff_145 F o0 Q x2 K4 K16 M t0 x3
def wp_M_runoff_125 (F : Nat) (o0 : Nat) (Q : Int32 → om_M → Prop) (x2 : Int32) (K4 : om_M × Int32 × Int32 → Prop) (K16 : om_M × Int32 × Int32 → Prop) (M : om_M) (x3 : Int32) (t0 : Int32) : Prop := wp_M_beats F o0 x2 x3 M (fun r2 M1 => ((r2 = 0 → wp_M_runoff_144 F o0 Q x2 K4 K16 M1 x3 (t0 ||| ((1 : Int32) <<< (x3 &&& 31)))) ∧ (¬ r2 = 0 → wp_M_runoff_144 F o0 Q x2 K4 K16 M1 x3 t0)))
def wp_M_runoff_102 (F : Nat) (o0 : Nat) (Q : Int32 → om_M → Prop) (x2 : Int32) (K4 : om_M × Int32 × Int32 → Prop) (K16 : om_M × Int32 × Int32 → Prop) (M : om_M) (x1 : Int32) (x3 : Int32) (x4 : Int32)  : Prop := ((x4 = 0 → wp_M_runoff_145 F o0 Q x2 K4 K16 M x1 x3) ∧ (¬ x4 = 0 → wp_M_beats F o0 x3 x2 M (fun r4 M3 => ((r4 = 0 → wp_M_runoff_125 F o0 Q x2 K4 K16 M3 x3 (x1 ||| ((1 : Int32) <<< (x2 &&& 31)))) ∧ (¬ r4 = 0 → wp_M_runoff_125 F o0 Q x2 K4 K16 M3 x3 x1)))))
def wp_M_runoff_94 (F : Nat) (o0 : Nat) (Q : Int32 → om_M → Prop) (x2 : Int32) (x1 : Int32) (x3 : Int32) (K4 : om_M × Int32 × Int32 → Prop) (K16 : om_M × Int32 × Int32 → Prop) (K30 : om_M × Int32 × Int32 → Prop) (M : om_M) (x5 : Int32) (t0 : Int32) : Prop := K30 (M, t0, x5 + 1)
def wp_M_runoff_93 (F : Nat) (o0 : Nat) (Q : Int32 → om_M → Prop) (x2 : Int32) (x1 : Int32) (x3 : Int32) (K4 : om_M × Int32 × Int32 → Prop) (K16 : om_M × Int32 × Int32 → Prop) (K30 : om_M × Int32 × Int32 → Prop) (M : om_M) (x5 : Int32)  : Prop := wp_M_runoff_94 F o0 Q x2 x1 x3 K4 K16 K30 M x5 0
def wp_M_runoff_89 (F : Nat) (o0 : Nat) (Q : Int32 → om_M → Prop) (x2 : Int32) (x1 : Int32) (x3 : Int32) (K4 : om_M × Int32 × Int32 → Prop) (K16 : om_M × Int32 × Int32 → Prop) (K30 : om_M × Int32 × Int32 → Prop) (M : om_M) (x5 : Int32)  : Prop := wp_M_runoff_94 F o0 Q x2 x1 x3 K4 K16 K30 M x5 1
def wp_M_runoff_30b (F : Nat) (o0 : Nat) (Q : Int32 → om_M → Prop) (x2 : Int32) (x1 : Int32) (x3 : Int32) (K4 : om_M × Int32 × Int32 → Prop) (K16 : om_M × Int32 × Int32 → Prop) (K30 : om_M × Int32 × Int32 → Prop) (M : om_M) (x4 : Int32) (x5 : Int32) : Prop := (((M.1 o0 8) ≤ x5 → wp_M_runoff_102 F o0 Q x2 K4 K16 M x1 x3 x4) ∧ (¬ (M.1 o0 8) ≤ x5 → wp_M_scored F o0 0 x5 M (fun r6 M5 => ((x4 = 0 → wp_M_runoff_93 F o0 Q x2 x1 x3 K4 K16 K30 M5 x5) ∧ (¬ x4 = 0 → ((x5 = x2 → wp_M_runoff_89 F o0 Q x2 x1 x3 K4 K16 K30 M5 x5) ∧ (¬ x5 = x2 → ((x5 = x3 → wp_M_runoff_89 F o0 Q x2 x1 x3 K4 K16 K30 M5 x5) ∧ (¬ x5 = x3 → wp_M_scored F o0 0 x2 M5 (fun r8 M7 => ((r8 < r6 → wp_M_runoff_93 F o0 Q x2 x1 x3 K4 K16 K30 M7 x5) ∧ (¬ r8 < r6 → wp_M_scored F o0 0 x3 M7 (fun r10 M9 => ((r10 < r6 → wp_M_runoff_93 F o0 Q x2 x1 x3 K4 K16 K30 M9 x5) ∧ (¬ r10 < r6 → wp_M_runoff_89 F o0 Q x2 x1 x3 K4 K16 K30 M9 x5)))))))))))))))
def wp_M_runoff_30 (F : Nat) (o0 : Nat) (Q : Int32 → om_M → Prop) (x2 : Int32) (x1 : Int32) (x3 : Int32) (K4 : om_M × Int32 × Int32 → Prop) (K16 : om_M × Int32 × Int32 → Prop) (M : om_M) (x4 : Int32) (x5 : Int32) : Prop := ow_lp (fun (z : om_M × Int32 × Int32) K => wp_M_runoff_30b F o0 Q x2 x1 x3 K4 K16 K z.1 z.2.1 z.2.2) F (M, x4, x5)
def wp_M_runoff_16b (F : Nat) (o0 : Nat) (Q : Int32 → om_M → Prop) (x2 : Int32) (K4 : om_M × Int32 × Int32 → Prop) (K16 : om_M × Int32 × Int32 → Prop) (M : om_M) (x1 : Int32) (x3 : Int32) : Prop := (((M.1 o0 8) ≤ x3 → wp_M_runoff_151 F o0 Q K4 M x1 x2) ∧ (¬ (M.1 o0 8) ≤ x3 → wp_M_runoff_30 F o0 Q x2 x1 x3 K4 K16 M 1 0))
def wp_M_runoff_16 (F : Nat) (o0 : Nat) (Q : Int32 → om_M → Prop) (x2 : Int32) (K4 : om_M × Int32 × Int32 → Prop) (M : om_M) (x1 : Int32) (x3 : Int32) : Prop := ow_lp (fun (z : om_M × Int32 × Int32) K => wp_M_runoff_16b F o0 Q x2 K4 K z.1 z.2.1 z.2.2) F (M, x1, x3)
def wp_M_runoff_4b (F : Nat) (o0 : Nat) (Q : Int32 → om_M → Prop)   (K4 : om_M × Int32 × Int32 → Prop) (M : om_M) (x1 : Int32) (x2 : Int32) : Prop := (((M.1 o0 8) ≤ x2 → Q x1 M) ∧ (¬ (M.1 o0 8) ≤ x2 → wp_M_runoff_16 F o0 Q x2 K4 M x1 (x2 + 1)))
def wp_M_runoff_4 (F : Nat) (o0 : Nat) (Q : Int32 → om_M → Prop)   (M : om_M) (x1 : Int32) (x2 : Int32) : Prop := ow_lp (fun (z : om_M × Int32 × Int32) K => wp_M_runoff_4b F o0 Q   K z.1 z.2.1 z.2.2) F (M, x1, x2)
def wp_M_runoff (F : Nat) (o0 : Nat) (M : om_M) (Q : Int32 → om_M → Prop) : Prop := wp_M_runoff_4 F o0 Q M 0 0
abbrev rm_M_without : Room := { frames := 0, cells := 0, slots := 0, locals := 0 }
theorem hd_M_without : yn_M_without.cls ≠ "java/lang/invoke/MethodHandle" ∧ yn_M_without.cls ≠ "java/lang/invoke/VarHandle" ∧ (parseMethodDescriptor yn_M_without.desc).map (fun d => d.parameters.length) = some 3 := by decide +kernel
set_option maxHeartbeats 4000000 in
set_option maxRecDepth 100000 in
theorem ct_M_without (l : Launch) (G : List (Nat × Nat)) (hG : ow_lay G) (D : va_G) (cA : Nat → ClassId) (ad : Nat → Nat) (F : Nat) (o0 : Nat) (k0 : ow_kd G o0 = (3, 9)) (x1 : Int32) (o2 : Nat) (n2 : Nat) (k2 : ow_kd G o2 = (0, n2)) (x3 : Int32) (M : om_M) (Q : om_M → Prop) (h : wp_M_without F o0 x1 o2 n2 x3 M Q) : Met l yn_M_without (ow_ws yn_M_without cb_M_without 7 none) rm_M_without (ow_Pc G D cA ad M [.ref (ad o0), .int x1, .ref (ad o2), .int x3]) (ow_Qv G D cA ad Q) 0 0 (ow_A G ad) := by
  refine Met.ofW (cc := cb_M_without) (maxL := 7) (ret := none) (by decide) rfl ?_
  intro p e s m args below meth c s₁ B hml hv
  obtain ⟨rfl, hB⟩ := hv
  have hx := B.exec
  have hb := B.bytes
  have hr := B.returns
  have hlocks := B.notSynchronized
  have hts : ∀ w ∈ lw_g, w.before ([.ref (ad o0), .int x1, .ref (ad o2), .int x3] : List Value).toArray s = true := fun w h => atoms_spec (ws := ow_ws yn_M_without cb_M_without 7 none) B.pre w (List.mem_cons_of_mem _ h)
  have hown : s.vm.findClass "BallotDeskModel" = some m.cls := findClass_of_methodNamed B.named
  clear B
  have L51 : ∀  (K6 : om_M × Int32 × Int32 → Prop) (hK6 : ∀ (M : om_M) (x4 : Int32) (x5 : Int32) (H : Heap) (locs : List Loc) (ls : Array Slot), K6 (M, x4, x5) → ow_B G D cA ad (ow_A G ad) M s s.heap H locs → lv_has ls 7 [(0, .ref (ad o0)), (1, .int x1), (2, .ref (ad o2)), (3, .int x3), (4, .int x4), (5, .int x5)] → W p l e rm_M_without s m ([.ref (ad o0), .int x1, .ref (ad o2), .int x3] : List Value).toArray below meth c H locs 0 0 (MQ below (ow_Qv G D cA ad Q) ([.ref (ad o0), .int x1, .ref (ad o2), .int x3] : List Value).toArray s 0 0 (ow_A G ad)) (F0 m 6 ls [])) (M : om_M) (x4 : Int32) (x5 : Int32)  (H : Heap) (locs : List Loc) (ls : Array Slot), wp_M_without_51 F o0 x1 o2 n2 x3 Q  K6 M x4 x5  → ow_B G D cA ad (ow_A G ad) M s s.heap H locs → lv_has ls 7 [(0, .ref (ad o0)), (1, .int x1), (2, .ref (ad o2)), (3, .int x3), (4, .int x4), (5, .int x5)] → W p l e rm_M_without s m ([.ref (ad o0), .int x1, .ref (ad o2), .int x3] : List Value).toArray below meth c H locs 0 0 (MQ below (ow_Qv G D cA ad Q) ([.ref (ad o0), .int x1, .ref (ad o2), .int x3] : List Value).toArray s 0 0 (ow_A G ad)) (F0 m 51 ls []) := by
    intro  K6 hK6 M x4 x5 H locs ls h hB hl
    refine lv_iinc hx hb dc_M_without_51 hl (k := 5) rfl rfl (by decide) rfl (fun ls hl => ?_)
    refine lv_goto hx hb dc_M_without_54 rfl ?_
    exact hK6 _ _ _ _ _ _ h hB (lv_sub hl [1, 2, 3, 4, 5, 0] rfl)
  have L47 : ∀  (K6 : om_M × Int32 × Int32 → Prop) (hK6 : ∀ (M : om_M) (x4 : Int32) (x5 : Int32) (H : Heap) (locs : List Loc) (ls : Array Slot), K6 (M, x4, x5) → ow_B G D cA ad (ow_A G ad) M s s.heap H locs → lv_has ls 7 [(0, .ref (ad o0)), (1, .int x1), (2, .ref (ad o2)), (3, .int x3), (4, .int x4), (5, .int x5)] → W p l e rm_M_without s m ([.ref (ad o0), .int x1, .ref (ad o2), .int x3] : List Value).toArray below meth c H locs 0 0 (MQ below (ow_Qv G D cA ad Q) ([.ref (ad o0), .int x1, .ref (ad o2), .int x3] : List Value).toArray s 0 0 (ow_A G ad)) (F0 m 6 ls [])) (M : om_M) (x4 : Int32) (x5 : Int32) (t0 : Nat) (t1 : Int32) (t2 : Int32) (kt0 : ow_kd G t0 = (0, n2)) (H : Heap) (locs : List Loc) (ls : Array Slot), wp_M_without_47 F o0 x1 o2 n2 x3 Q  K6 M x4 x5 t0 t1 t2 → ow_B G D cA ad (ow_A G ad) M s s.heap H locs → lv_has ls 7 [(0, .ref (ad o0)), (1, .int x1), (2, .ref (ad o2)), (3, .int x3), (4, .int x4), (5, .int x5)] → W p l e rm_M_without s m ([.ref (ad o0), .int x1, .ref (ad o2), .int x3] : List Value).toArray below meth c H locs 0 0 (MQ below (ow_Qv G D cA ad Q) ([.ref (ad o0), .int x1, .ref (ad o2), .int x3] : List Value).toArray s 0 0 (ow_A G ad)) (F0 m 47 ls [.int t2, .int t1, .ref (ad t0)]) := by
    intro  K6 hK6 M x4 x5 t0 t1 t2 kt0 H locs ls h hB hl
    obtain ⟨hi1, h⟩ := h
    refine ow_iast hx hb hB kt0 hi1 dc_M_without_47 (fun H locs hB => ?_)
    refine lv_iinc hx hb dc_M_without_48 hl (k := 4) rfl rfl (by decide) rfl (fun ls hl => ?_)
    exact L51 K6 hK6 _ _ _ _ _ _ h hB (lv_sub hl [1, 2, 3, 4, 0, 5] rfl)
  have B6 : ∀   (K6 : om_M × Int32 × Int32 → Prop) (hK6 : ∀ (M : om_M) (x4 : Int32) (x5 : Int32) (H : Heap) (locs : List Loc) (ls : Array Slot), K6 (M, x4, x5) → ow_B G D cA ad (ow_A G ad) M s s.heap H locs → lv_has ls 7 [(0, .ref (ad o0)), (1, .int x1), (2, .ref (ad o2)), (3, .int x3), (4, .int x4), (5, .int x5)] → W p l e rm_M_without s m ([.ref (ad o0), .int x1, .ref (ad o2), .int x3] : List Value).toArray below meth c H locs 0 0 (MQ below (ow_Qv G D cA ad Q) ([.ref (ad o0), .int x1, .ref (ad o2), .int x3] : List Value).toArray s 0 0 (ow_A G ad)) (F0 m 6 ls [])) (M : om_M) (x4 : Int32) (x5 : Int32) (H : Heap) (locs : List Loc) (ls : Array Slot), wp_M_without_6b F o0 x1 o2 n2 x3 Q   K6 M x4 x5 → ow_B G D cA ad (ow_A G ad) M s s.heap H locs → lv_has ls 7 [(0, .ref (ad o0)), (1, .int x1), (2, .ref (ad o2)), (3, .int x3), (4, .int x4), (5, .int x5)] → W p l e rm_M_without s m ([.ref (ad o0), .int x1, .ref (ad o2), .int x3] : List Value).toArray below meth c H locs 0 0 (MQ below (ow_Qv G D cA ad Q) ([.ref (ad o0), .int x1, .ref (ad o2), .int x3] : List Value).toArray s 0 0 (ow_A G ad)) (F0 m 6 ls []) := by
    intro   K6 hK6 M x4 x5 H locs ls h hB hl
    refine lv_iload hx hb dc_M_without_6 (lv_at hl 5 rfl) ?_
    refine lv_iload_n hx hb dc_M_without_8 rfl (lv_at hl 3 rfl) ?_
    refine lv_aload_n hx hb dc_M_without_9 rfl (lv_at hl 0 rfl) ?_
    refine ow_get hx hb hts iw_M hown hB k0 rfl 8 (by decide) mw_805 rfl dc_M_without_10 ?_
    refine lv_iadd hx hb dc_M_without_13 ?_
    obtain ⟨h1, h2⟩ := h
    refine lv_icmp_ge hx hb dc_M_without_14 rfl (fun hc => ?_) (fun hc => ?_)
    · have h := h1 hc
      exact ow_vret hx hb hr hlocks hB h dc_M_without_57
    · have h := h2 hc
      refine lv_aload_n hx hb dc_M_without_17 rfl (lv_at hl 2 rfl) ?_
      refine lv_iload hx hb dc_M_without_18 (lv_at hl 5 rfl) ?_
      obtain ⟨hi2, h⟩ := h
      refine ow_iald hx hb hB k2 hi2 dc_M_without_20 ?_
      refine lv_istore hx hb dc_M_without_21 hl (by decide) rfl (fun ls hl => ?_)
      refine lv_iload hx hb dc_M_without_23 (lv_at hl 0 rfl) ?_
      refine lv_iload_n hx hb dc_M_without_25 rfl (lv_at hl 2 rfl) ?_
      obtain ⟨h1, h2⟩ := h
      refine lv_icmp_eq hx hb dc_M_without_26 rfl (fun hc => ?_) (fun hc => ?_)
      · have h := h1 hc
        exact L51 K6 hK6 _ _ _ _ _ _ h hB (lv_sub hl [1, 2, 3, 4, 5, 6] rfl)
      · have h := h2 hc
        refine lv_aload_n hx hb dc_M_without_29 rfl (lv_at hl 3 rfl) ?_
        refine lv_iload hx hb dc_M_without_30 (lv_at hl 5 rfl) ?_
        refine lv_iload hx hb dc_M_without_32 (lv_at hl 0 rfl) ?_
        refine lv_iload_n hx hb dc_M_without_34 rfl (lv_at hl 2 rfl) ?_
        obtain ⟨h1, h2⟩ := h
        refine lv_icmp_le hx hb dc_M_without_35 rfl (fun hc => ?_) (fun hc => ?_)
        · have h := h1 hc
          refine lv_iload hx hb dc_M_without_45 (lv_at hl 0 rfl) ?_
          exact L47 K6 hK6 _ _ _ _ _ _ k2 _ _ _ h hB (lv_sub hl [1, 2, 3, 4, 5, 6] rfl)
        · have h := h2 hc
          refine lv_iload hx hb dc_M_without_38 (lv_at hl 0 rfl) ?_
          refine lv_iconst (v := 1) hx hb dc_M_without_40 rfl ?_
          refine lv_isub hx hb dc_M_without_41 ?_
          refine lv_goto hx hb dc_M_without_42 rfl ?_
          exact L47 K6 hK6 _ _ _ _ _ _ k2 _ _ _ h hB (lv_sub hl [1, 2, 3, 4, 5, 6] rfl)
  have L6 : ∀   (M : om_M) (x4 : Int32) (x5 : Int32) (H : Heap) (locs : List Loc) (ls : Array Slot), wp_M_without_6 F o0 x1 o2 n2 x3 Q   M x4 x5 → ow_B G D cA ad (ow_A G ad) M s s.heap H locs → lv_has ls 7 [(0, .ref (ad o0)), (1, .int x1), (2, .ref (ad o2)), (3, .int x3), (4, .int x4), (5, .int x5)] → W p l e rm_M_without s m ([.ref (ad o0), .int x1, .ref (ad o2), .int x3] : List Value).toArray below meth c H locs 0 0 (MQ below (ow_Qv G D cA ad Q) ([.ref (ad o0), .int x1, .ref (ad o2), .int x3] : List Value).toArray s 0 0 (ow_A G ad)) (F0 m 6 ls []) := by
    have step : ∀ (k : Nat) (M : om_M) (x4 : Int32) (x5 : Int32) (H : Heap) (locs : List Loc) (ls : Array Slot), ow_lp (fun (z : om_M × Int32 × Int32) K => wp_M_without_6b F o0 x1 o2 n2 x3 Q   K z.1 z.2.1 z.2.2) k (M, x4, x5) → ow_B G D cA ad (ow_A G ad) M s s.heap H locs → lv_has ls 7 [(0, .ref (ad o0)), (1, .int x1), (2, .ref (ad o2)), (3, .int x3), (4, .int x4), (5, .int x5)] → W p l e rm_M_without s m ([.ref (ad o0), .int x1, .ref (ad o2), .int x3] : List Value).toArray below meth c H locs 0 0 (MQ below (ow_Qv G D cA ad Q) ([.ref (ad o0), .int x1, .ref (ad o2), .int x3] : List Value).toArray s 0 0 (ow_A G ad)) (F0 m 6 ls []) := by
      intro k
      induction k with
      | zero => intro M x4 x5 H locs ls h hB hl; exact False.elim h
      | succ k ih => intro M x4 x5 H locs ls h hB hl; exact B6   (ow_lp _ k) (fun M x4 x5 H locs ls h hB  hl => ih M x4 x5  H locs ls h hB hl) M x4 x5 H locs ls h hB hl
    intro M x4 x5 H locs ls h hB hl
    exact step F M x4 x5 H locs ls h hB hl
  have hl := lv_entry ([.ref (ad o0), .int x1, .ref (ad o2), .int x3]) (n := 7) (Nat.le_of_ble_eq_true rfl)
  rw [lg_entry_eq]
  generalize (lg_sl ([.ref (ad o0), .int x1, .ref (ad o2), .int x3]) ++ List.replicate (7 - (lg_sl ([.ref (ad o0), .int x1, .ref (ad o2), .int x3])).length) Slot.unset).toArray = ls at hl ⊢
  have hl : lv_has ls 7 [(0, .ref (ad o0)), (1, .int x1), (2, .ref (ad o2)), (3, .int x3)] := hl
  show W p l e rm_M_without s m _ below meth c s.heap [] 0 0 _ _
  refine lv_iload_n hx hb dc_M_without_0 rfl (lv_at hl 3 rfl) ?_
  refine lv_istore hx hb dc_M_without_1 hl (by decide) rfl (fun ls hl => ?_)
  refine lv_iload_n hx hb dc_M_without_3 rfl (lv_at hl 4 rfl) ?_
  refine lv_istore hx hb dc_M_without_4 hl (by decide) rfl (fun ls hl => ?_)
  exact L6 _ _ _ _ _ _ h hB (lv_sub hl [2, 3, 4, 5, 1, 0] rfl)
abbrev rm_M_leaveOut : Room := { frames := 1, cells := 0, slots := 0, locals := 26 }
theorem hd_M_leaveOut : yn_M_leaveOut.cls ≠ "java/lang/invoke/MethodHandle" ∧ yn_M_leaveOut.cls ≠ "java/lang/invoke/VarHandle" ∧ (parseMethodDescriptor yn_M_leaveOut.desc).map (fun d => d.parameters.length) = some 1 := by decide +kernel
set_option maxHeartbeats 4000000 in
set_option maxRecDepth 100000 in
theorem ct_M_leaveOut (l : Launch) (G : List (Nat × Nat)) (hG : ow_lay G) (D : va_G) (cA : Nat → ClassId) (ad : Nat → Nat) (F : Nat) (o0 : Nat) (k0 : ow_kd G o0 = (3, 9)) (x1 : Int32) (M : om_M) (Q : om_M → Prop) (h : wp_M_leaveOut F o0 x1 M Q) : Met l yn_M_leaveOut (ow_ws yn_M_leaveOut cb_M_leaveOut 3 none) rm_M_leaveOut (ow_Pc G D cA ad M [.ref (ad o0), .int x1]) (ow_Qv G D cA ad Q) 0 0 (ow_A G ad) := by
  refine Met.ofW (cc := cb_M_leaveOut) (maxL := 3) (ret := none) (by decide) rfl ?_
  intro p e s m args below meth c s₁ B hml hv
  obtain ⟨rfl, hB⟩ := hv
  have hx := B.exec
  have hb := B.bytes
  have hr := B.returns
  have hlocks := B.notSynchronized
  have hts : ∀ w ∈ lw_g, w.before ([.ref (ad o0), .int x1] : List Value).toArray s = true := fun w h => atoms_spec (ws := ow_ws yn_M_leaveOut cb_M_leaveOut 3 none) B.pre w (List.mem_cons_of_mem _ h)
  have hown : s.vm.findClass "BallotDeskModel" = some m.cls := findClass_of_methodNamed B.named
  clear B
  have L29 : ∀   (M : om_M)   (H : Heap) (locs : List Loc) (ls : Array Slot), wp_M_leaveOut_29 F o0 x1 Q   M   → ow_B G D cA ad (ow_A G ad) M s s.heap H locs → lv_has ls 3 [(0, .ref (ad o0)), (1, .int x1)] → W p l e rm_M_leaveOut s m ([.ref (ad o0), .int x1] : List Value).toArray below meth c H locs 0 0 (MQ below (ow_Qv G D cA ad Q) ([.ref (ad o0), .int x1] : List Value).toArray s 0 0 (ow_A G ad)) (F0 m 29 ls []) := by
    intro   M H locs ls h hB hl
    refine lv_aload_n hx hb dc_M_leaveOut_29 rfl (lv_at hl 0 rfl) ?_
    refine lv_iload_n hx hb dc_M_leaveOut_30 rfl (lv_at hl 1 rfl) ?_
    refine lv_aload_n hx hb dc_M_leaveOut_31 rfl (lv_at hl 0 rfl) ?_
    refine ow_get hx hb hts iw_M hown hB k0 rfl 12 (by decide) mw_809 rfl dc_M_leaveOut_32 ?_
    refine lv_iconst (v := 0) hx hb dc_M_leaveOut_35 rfl ?_
    refine ow_callv (va_runV (As := [.int x1, .ref (ad (o0 + 8)), .int 0]) (rest := []) ⟨hx, hb, hml, hown, hts⟩ (ct_M_without l G hG D cA ad F _ k0 _ _ _ (ly_M_tie hG k0) _ _ _ h) ⟨ow_cb 3 hts mw_1126 mw_12 mw_1123 rfl rfl hd_M_without ⟨Nat.le_of_ble_eq_true rfl, Nat.le_of_ble_eq_true rfl⟩, hts _ mw_1125, hts _ ms_58⟩ (ow_preV hB k0 rfl) rfl rfl hl.1 rfl (lv_room (Nat.le_of_ble_eq_true rfl)) dc_M_leaveOut_36 ⟨Nat.zero_le _, Nat.zero_le _⟩) hB (fun M1 H locs h hB => ?_)
    refine lv_aload_n hx hb dc_M_leaveOut_39 rfl (lv_at hl 0 rfl) ?_
    refine lv_iload_n hx hb dc_M_leaveOut_40 rfl (lv_at hl 1 rfl) ?_
    refine lv_aload_n hx hb dc_M_leaveOut_41 rfl (lv_at hl 0 rfl) ?_
    refine ow_get hx hb hts iw_M hown hB k0 rfl 13 (by decide) mw_810 rfl dc_M_leaveOut_42 ?_
    refine lv_iconst (v := 0) hx hb dc_M_leaveOut_45 rfl ?_
    refine ow_callv (va_runV (As := [.int x1, .ref (ad (o0 + 9)), .int 0]) (rest := []) ⟨hx, hb, hml, hown, hts⟩ (ct_M_without l G hG D cA ad F _ k0 _ _ _ (ly_M_turn hG k0) _ _ _ h) ⟨ow_cb 3 hts mw_1126 mw_12 mw_1123 rfl rfl hd_M_without ⟨Nat.le_of_ble_eq_true rfl, Nat.le_of_ble_eq_true rfl⟩, hts _ mw_1125, hts _ ms_58⟩ (ow_preV hB k0 rfl) rfl rfl hl.1 rfl (lv_room (Nat.le_of_ble_eq_true rfl)) dc_M_leaveOut_46 ⟨Nat.zero_le _, Nat.zero_le _⟩) hB (fun M2 H locs h hB => ?_)
    refine lv_aload_n hx hb dc_M_leaveOut_49 rfl (lv_at hl 0 rfl) ?_
    refine lv_dup hx hb dc_M_leaveOut_50 rfl ?_
    refine ow_get hx hb hts iw_M hown hB k0 rfl 8 (by decide) mw_805 rfl dc_M_leaveOut_51 ?_
    refine lv_iconst (v := 1) hx hb dc_M_leaveOut_54 rfl ?_
    refine lv_isub hx hb dc_M_leaveOut_55 ?_
    refine ow_put hx hb hts iw_M yf_M of_M nf_M hown hB k0 rfl 8 (by decide) mw_805 rfl (by decide +kernel) (Nat.le_of_ble_eq_true rfl) rfl dc_M_leaveOut_56 (fun H locs hB => ?_)
    exact ow_vret hx hb hr hlocks hB h dc_M_leaveOut_59
  have B2 : ∀   (K2 : om_M × Int32 → Prop) (hK2 : ∀ (M : om_M) (x2 : Int32) (H : Heap) (locs : List Loc) (ls : Array Slot), K2 (M, x2) → ow_B G D cA ad (ow_A G ad) M s s.heap H locs → lv_has ls 3 [(0, .ref (ad o0)), (1, .int x1), (2, .int x2)] → W p l e rm_M_leaveOut s m ([.ref (ad o0), .int x1] : List Value).toArray below meth c H locs 0 0 (MQ below (ow_Qv G D cA ad Q) ([.ref (ad o0), .int x1] : List Value).toArray s 0 0 (ow_A G ad)) (F0 m 2 ls [])) (M : om_M) (x2 : Int32) (H : Heap) (locs : List Loc) (ls : Array Slot), wp_M_leaveOut_2b F o0 x1 Q   K2 M x2 → ow_B G D cA ad (ow_A G ad) M s s.heap H locs → lv_has ls 3 [(0, .ref (ad o0)), (1, .int x1), (2, .int x2)] → W p l e rm_M_leaveOut s m ([.ref (ad o0), .int x1] : List Value).toArray below meth c H locs 0 0 (MQ below (ow_Qv G D cA ad Q) ([.ref (ad o0), .int x1] : List Value).toArray s 0 0 (ow_A G ad)) (F0 m 2 ls []) := by
    intro   K2 hK2 M x2 H locs ls h hB hl
    refine lv_iload_n hx hb dc_M_leaveOut_2 rfl (lv_at hl 2 rfl) ?_
    refine lv_aload_n hx hb dc_M_leaveOut_3 rfl (lv_at hl 0 rfl) ?_
    refine ow_get hx hb hts iw_M hown hB k0 rfl 9 (by decide) mw_806 rfl dc_M_leaveOut_4 ?_
    obtain ⟨h1, h2⟩ := h
    refine lv_icmp_ge hx hb dc_M_leaveOut_7 rfl (fun hc => ?_) (fun hc => ?_)
    · have h := h1 hc
      exact L29 _ _ _ _ h hB (lv_sub hl [0, 1] rfl)
    · have h := h2 hc
      refine lv_aload_n hx hb dc_M_leaveOut_10 rfl (lv_at hl 0 rfl) ?_
      refine lv_iload_n hx hb dc_M_leaveOut_11 rfl (lv_at hl 1 rfl) ?_
      refine lv_aload_n hx hb dc_M_leaveOut_12 rfl (lv_at hl 0 rfl) ?_
      refine ow_get hx hb hts iw_M hown hB k0 rfl 10 (by decide) mw_807 rfl dc_M_leaveOut_13 ?_
      refine lv_bipush (v := 7) hx hb dc_M_leaveOut_16 rfl ?_
      refine lv_iload_n hx hb dc_M_leaveOut_18 rfl (lv_at hl 2 rfl) ?_
      refine lv_imul hx hb dc_M_leaveOut_19 ?_
      refine ow_callv (va_runV (As := [.int x1, .ref (ad (o0 + 6)), .int ((7 : Int32) * x2)]) (rest := []) ⟨hx, hb, hml, hown, hts⟩ (ct_M_without l G hG D cA ad F _ k0 _ _ _ (ly_M_places hG k0) _ _ _ h) ⟨ow_cb 3 hts mw_1126 mw_12 mw_1123 rfl rfl hd_M_without ⟨Nat.le_of_ble_eq_true rfl, Nat.le_of_ble_eq_true rfl⟩, hts _ mw_1125, hts _ ms_58⟩ (ow_preV hB k0 rfl) rfl rfl hl.1 rfl (lv_room (Nat.le_of_ble_eq_true rfl)) dc_M_leaveOut_20 ⟨Nat.zero_le _, Nat.zero_le _⟩) hB (fun M3 H locs h hB => ?_)
      refine lv_iinc hx hb dc_M_leaveOut_23 hl (k := 2) rfl rfl (by decide) rfl (fun ls hl => ?_)
      refine lv_goto hx hb dc_M_leaveOut_26 rfl ?_
      exact hK2 _ _ _ _ _ h hB (lv_sub hl [1, 2, 0] rfl)
  have L2 : ∀   (M : om_M) (x2 : Int32) (H : Heap) (locs : List Loc) (ls : Array Slot), wp_M_leaveOut_2 F o0 x1 Q   M x2 → ow_B G D cA ad (ow_A G ad) M s s.heap H locs → lv_has ls 3 [(0, .ref (ad o0)), (1, .int x1), (2, .int x2)] → W p l e rm_M_leaveOut s m ([.ref (ad o0), .int x1] : List Value).toArray below meth c H locs 0 0 (MQ below (ow_Qv G D cA ad Q) ([.ref (ad o0), .int x1] : List Value).toArray s 0 0 (ow_A G ad)) (F0 m 2 ls []) := by
    have step : ∀ (k : Nat) (M : om_M) (x2 : Int32) (H : Heap) (locs : List Loc) (ls : Array Slot), ow_lp (fun (z : om_M × Int32) K => wp_M_leaveOut_2b F o0 x1 Q   K z.1 z.2) k (M, x2) → ow_B G D cA ad (ow_A G ad) M s s.heap H locs → lv_has ls 3 [(0, .ref (ad o0)), (1, .int x1), (2, .int x2)] → W p l e rm_M_leaveOut s m ([.ref (ad o0), .int x1] : List Value).toArray below meth c H locs 0 0 (MQ below (ow_Qv G D cA ad Q) ([.ref (ad o0), .int x1] : List Value).toArray s 0 0 (ow_A G ad)) (F0 m 2 ls []) := by
      intro k
      induction k with
      | zero => intro M x2 H locs ls h hB hl; exact False.elim h
      | succ k ih => intro M x2 H locs ls h hB hl; exact B2   (ow_lp _ k) (fun M x2 H locs ls h hB  hl => ih M x2  H locs ls h hB hl) M x2 H locs ls h hB hl
    intro M x2 H locs ls h hB hl
    exact step F M x2 H locs ls h hB hl
  have hl := lv_entry ([.ref (ad o0), .int x1]) (n := 3) (Nat.le_of_ble_eq_true rfl)
  rw [lg_entry_eq]
  generalize (lg_sl ([.ref (ad o0), .int x1]) ++ List.replicate (3 - (lg_sl ([.ref (ad o0), .int x1])).length) Slot.unset).toArray = ls at hl ⊢
  have hl : lv_has ls 3 [(0, .ref (ad o0)), (1, .int x1)] := hl
  show W p l e rm_M_leaveOut s m _ below meth c s.heap [] 0 0 _ _
  refine lv_iconst (v := 0) hx hb dc_M_leaveOut_0 rfl ?_
  refine lv_istore_n hx hb dc_M_leaveOut_1 rfl hl (by decide) rfl (fun ls hl => ?_)
  exact L2 _ _ _ _ _ h hB (lv_sub hl [1, 2, 0] rfl)
abbrev rm_M_placeOf : Room := { frames := 0, cells := 0, slots := 0, locals := 0 }
theorem hd_M_placeOf : yn_M_placeOf.cls ≠ "java/lang/invoke/MethodHandle" ∧ yn_M_placeOf.cls ≠ "java/lang/invoke/VarHandle" ∧ (parseMethodDescriptor yn_M_placeOf.desc).map (fun d => d.parameters.length) = some 2 := by decide +kernel
set_option maxHeartbeats 4000000 in
set_option maxRecDepth 100000 in
theorem ct_M_placeOf (l : Launch) (G : List (Nat × Nat)) (hG : ow_lay G) (D : va_G) (cA : Nat → ClassId) (ad : Nat → Nat) (F : Nat) (o0 : Nat) (k0 : ow_kd G o0 = (3, 9)) (x1 : Int32) (x2 : Int32) (M : om_M) (Q : Int32 → om_M → Prop) (h : wp_M_placeOf F o0 x1 x2 M Q) : Met l yn_M_placeOf (ow_ws yn_M_placeOf cb_M_placeOf 4 (some .int)) rm_M_placeOf (ow_Pc G D cA ad M [.ref (ad o0), .int x1, .int x2]) (ow_Qi G D cA ad Q) 0 0 (ow_A G ad) := by
  refine Met.ofW (cc := cb_M_placeOf) (maxL := 4) (ret := (some .int)) (by decide) rfl ?_
  intro p e s m args below meth c s₁ B hml hv
  obtain ⟨rfl, hB⟩ := hv
  have hx := B.exec
  have hb := B.bytes
  have hr := B.returns
  have hlocks := B.notSynchronized
  have hts : ∀ w ∈ lw_g, w.before ([.ref (ad o0), .int x1, .int x2] : List Value).toArray s = true := fun w h => atoms_spec (ws := ow_ws yn_M_placeOf cb_M_placeOf 4 (some .int)) B.pre w (List.mem_cons_of_mem _ h)
  have hown : s.vm.findClass "BallotDeskModel" = some m.cls := findClass_of_methodNamed B.named
  clear B
  have B2 : ∀   (K2 : om_M × Int32 → Prop) (hK2 : ∀ (M : om_M) (x3 : Int32) (H : Heap) (locs : List Loc) (ls : Array Slot), K2 (M, x3) → ow_B G D cA ad (ow_A G ad) M s s.heap H locs → lv_has ls 4 [(0, .ref (ad o0)), (1, .int x1), (2, .int x2), (3, .int x3)] → W p l e rm_M_placeOf s m ([.ref (ad o0), .int x1, .int x2] : List Value).toArray below meth c H locs 0 0 (MQ below (ow_Qi G D cA ad Q) ([.ref (ad o0), .int x1, .int x2] : List Value).toArray s 0 0 (ow_A G ad)) (F0 m 2 ls [])) (M : om_M) (x3 : Int32) (H : Heap) (locs : List Loc) (ls : Array Slot), wp_M_placeOf_2b F o0 x1 x2 Q   K2 M x3 → ow_B G D cA ad (ow_A G ad) M s s.heap H locs → lv_has ls 4 [(0, .ref (ad o0)), (1, .int x1), (2, .int x2), (3, .int x3)] → W p l e rm_M_placeOf s m ([.ref (ad o0), .int x1, .int x2] : List Value).toArray below meth c H locs 0 0 (MQ below (ow_Qi G D cA ad Q) ([.ref (ad o0), .int x1, .int x2] : List Value).toArray s 0 0 (ow_A G ad)) (F0 m 2 ls []) := by
    intro   K2 hK2 M x3 H locs ls h hB hl
    refine lv_aload_n hx hb dc_M_placeOf_2 rfl (lv_at hl 0 rfl) ?_
    refine ow_get hx hb hts iw_M hown hB k0 rfl 10 (by decide) mw_807 rfl dc_M_placeOf_3 ?_
    refine lv_bipush (v := 7) hx hb dc_M_placeOf_6 rfl ?_
    refine lv_iload_n hx hb dc_M_placeOf_8 rfl (lv_at hl 1 rfl) ?_
    refine lv_imul hx hb dc_M_placeOf_9 ?_
    refine lv_iload_n hx hb dc_M_placeOf_10 rfl (lv_at hl 3 rfl) ?_
    refine lv_iadd hx hb dc_M_placeOf_11 ?_
    obtain ⟨hi1, h⟩ := h
    refine ow_iald hx hb hB (ly_M_places hG k0) hi1 dc_M_placeOf_12 ?_
    refine lv_iload_n hx hb dc_M_placeOf_13 rfl (lv_at hl 2 rfl) ?_
    obtain ⟨h1, h2⟩ := h
    refine lv_icmp_eq hx hb dc_M_placeOf_14 rfl (fun hc => ?_) (fun hc => ?_)
    · have h := h1 hc
      refine lv_iload_n hx hb dc_M_placeOf_23 rfl (lv_at hl 3 rfl) ?_
      exact ow_iret hx hb hr hlocks hB h dc_M_placeOf_24
    · have h := h2 hc
      refine lv_iinc hx hb dc_M_placeOf_17 hl (k := 3) rfl rfl (by decide) rfl (fun ls hl => ?_)
      refine lv_goto hx hb dc_M_placeOf_20 rfl ?_
      exact hK2 _ _ _ _ _ h hB (lv_sub hl [1, 2, 3, 0] rfl)
  have L2 : ∀   (M : om_M) (x3 : Int32) (H : Heap) (locs : List Loc) (ls : Array Slot), wp_M_placeOf_2 F o0 x1 x2 Q   M x3 → ow_B G D cA ad (ow_A G ad) M s s.heap H locs → lv_has ls 4 [(0, .ref (ad o0)), (1, .int x1), (2, .int x2), (3, .int x3)] → W p l e rm_M_placeOf s m ([.ref (ad o0), .int x1, .int x2] : List Value).toArray below meth c H locs 0 0 (MQ below (ow_Qi G D cA ad Q) ([.ref (ad o0), .int x1, .int x2] : List Value).toArray s 0 0 (ow_A G ad)) (F0 m 2 ls []) := by
    have step : ∀ (k : Nat) (M : om_M) (x3 : Int32) (H : Heap) (locs : List Loc) (ls : Array Slot), ow_lp (fun (z : om_M × Int32) K => wp_M_placeOf_2b F o0 x1 x2 Q   K z.1 z.2) k (M, x3) → ow_B G D cA ad (ow_A G ad) M s s.heap H locs → lv_has ls 4 [(0, .ref (ad o0)), (1, .int x1), (2, .int x2), (3, .int x3)] → W p l e rm_M_placeOf s m ([.ref (ad o0), .int x1, .int x2] : List Value).toArray below meth c H locs 0 0 (MQ below (ow_Qi G D cA ad Q) ([.ref (ad o0), .int x1, .int x2] : List Value).toArray s 0 0 (ow_A G ad)) (F0 m 2 ls []) := by
      intro k
      induction k with
      | zero => intro M x3 H locs ls h hB hl; exact False.elim h
      | succ k ih => intro M x3 H locs ls h hB hl; exact B2   (ow_lp _ k) (fun M x3 H locs ls h hB  hl => ih M x3  H locs ls h hB hl) M x3 H locs ls h hB hl
    intro M x3 H locs ls h hB hl
    exact step F M x3 H locs ls h hB hl
  have hl := lv_entry ([.ref (ad o0), .int x1, .int x2]) (n := 4) (Nat.le_of_ble_eq_true rfl)
  rw [lg_entry_eq]
  generalize (lg_sl ([.ref (ad o0), .int x1, .int x2]) ++ List.replicate (4 - (lg_sl ([.ref (ad o0), .int x1, .int x2])).length) Slot.unset).toArray = ls at hl ⊢
  have hl : lv_has ls 4 [(0, .ref (ad o0)), (1, .int x1), (2, .int x2)] := hl
  show W p l e rm_M_placeOf s m _ below meth c s.heap [] 0 0 _ _
  refine lv_iconst (v := 0) hx hb dc_M_placeOf_0 rfl ?_
  refine lv_istore_n hx hb dc_M_placeOf_1 rfl hl (by decide) rfl (fun ls hl => ?_)
  exact L2 _ _ _ _ _ h hB (lv_sub hl [1, 2, 3, 0] rfl)
abbrev rm_M_tiePlace : Room := { frames := 0, cells := 0, slots := 0, locals := 0 }
theorem hd_M_tiePlace : yn_M_tiePlace.cls ≠ "java/lang/invoke/MethodHandle" ∧ yn_M_tiePlace.cls ≠ "java/lang/invoke/VarHandle" ∧ (parseMethodDescriptor yn_M_tiePlace.desc).map (fun d => d.parameters.length) = some 1 := by decide +kernel
set_option maxHeartbeats 4000000 in
set_option maxRecDepth 100000 in
theorem ct_M_tiePlace (l : Launch) (G : List (Nat × Nat)) (hG : ow_lay G) (D : va_G) (cA : Nat → ClassId) (ad : Nat → Nat) (F : Nat) (o0 : Nat) (k0 : ow_kd G o0 = (3, 9)) (x1 : Int32) (M : om_M) (Q : Int32 → om_M → Prop) (h : wp_M_tiePlace F o0 x1 M Q) : Met l yn_M_tiePlace (ow_ws yn_M_tiePlace cb_M_tiePlace 3 (some .int)) rm_M_tiePlace (ow_Pc G D cA ad M [.ref (ad o0), .int x1]) (ow_Qi G D cA ad Q) 0 0 (ow_A G ad) := by
  refine Met.ofW (cc := cb_M_tiePlace) (maxL := 3) (ret := (some .int)) (by decide) rfl ?_
  intro p e s m args below meth c s₁ B hml hv
  obtain ⟨rfl, hB⟩ := hv
  have hx := B.exec
  have hb := B.bytes
  have hr := B.returns
  have hlocks := B.notSynchronized
  have hts : ∀ w ∈ lw_g, w.before ([.ref (ad o0), .int x1] : List Value).toArray s = true := fun w h => atoms_spec (ws := ow_ws yn_M_tiePlace cb_M_tiePlace 3 (some .int)) B.pre w (List.mem_cons_of_mem _ h)
  have hown : s.vm.findClass "BallotDeskModel" = some m.cls := findClass_of_methodNamed B.named
  clear B
  have B2 : ∀   (K2 : om_M × Int32 → Prop) (hK2 : ∀ (M : om_M) (x2 : Int32) (H : Heap) (locs : List Loc) (ls : Array Slot), K2 (M, x2) → ow_B G D cA ad (ow_A G ad) M s s.heap H locs → lv_has ls 3 [(0, .ref (ad o0)), (1, .int x1), (2, .int x2)] → W p l e rm_M_tiePlace s m ([.ref (ad o0), .int x1] : List Value).toArray below meth c H locs 0 0 (MQ below (ow_Qi G D cA ad Q) ([.ref (ad o0), .int x1] : List Value).toArray s 0 0 (ow_A G ad)) (F0 m 2 ls [])) (M : om_M) (x2 : Int32) (H : Heap) (locs : List Loc) (ls : Array Slot), wp_M_tiePlace_2b F o0 x1 Q   K2 M x2 → ow_B G D cA ad (ow_A G ad) M s s.heap H locs → lv_has ls 3 [(0, .ref (ad o0)), (1, .int x1), (2, .int x2)] → W p l e rm_M_tiePlace s m ([.ref (ad o0), .int x1] : List Value).toArray below meth c H locs 0 0 (MQ below (ow_Qi G D cA ad Q) ([.ref (ad o0), .int x1] : List Value).toArray s 0 0 (ow_A G ad)) (F0 m 2 ls []) := by
    intro   K2 hK2 M x2 H locs ls h hB hl
    refine lv_aload_n hx hb dc_M_tiePlace_2 rfl (lv_at hl 0 rfl) ?_
    refine ow_get hx hb hts iw_M hown hB k0 rfl 12 (by decide) mw_809 rfl dc_M_tiePlace_3 ?_
    refine lv_iload_n hx hb dc_M_tiePlace_6 rfl (lv_at hl 2 rfl) ?_
    obtain ⟨hi1, h⟩ := h
    refine ow_iald hx hb hB (ly_M_tie hG k0) hi1 dc_M_tiePlace_7 ?_
    refine lv_iload_n hx hb dc_M_tiePlace_8 rfl (lv_at hl 1 rfl) ?_
    obtain ⟨h1, h2⟩ := h
    refine lv_icmp_eq hx hb dc_M_tiePlace_9 rfl (fun hc => ?_) (fun hc => ?_)
    · have h := h1 hc
      refine lv_iload_n hx hb dc_M_tiePlace_18 rfl (lv_at hl 2 rfl) ?_
      exact ow_iret hx hb hr hlocks hB h dc_M_tiePlace_19
    · have h := h2 hc
      refine lv_iinc hx hb dc_M_tiePlace_12 hl (k := 2) rfl rfl (by decide) rfl (fun ls hl => ?_)
      refine lv_goto hx hb dc_M_tiePlace_15 rfl ?_
      exact hK2 _ _ _ _ _ h hB (lv_sub hl [1, 2, 0] rfl)
  have L2 : ∀   (M : om_M) (x2 : Int32) (H : Heap) (locs : List Loc) (ls : Array Slot), wp_M_tiePlace_2 F o0 x1 Q   M x2 → ow_B G D cA ad (ow_A G ad) M s s.heap H locs → lv_has ls 3 [(0, .ref (ad o0)), (1, .int x1), (2, .int x2)] → W p l e rm_M_tiePlace s m ([.ref (ad o0), .int x1] : List Value).toArray below meth c H locs 0 0 (MQ below (ow_Qi G D cA ad Q) ([.ref (ad o0), .int x1] : List Value).toArray s 0 0 (ow_A G ad)) (F0 m 2 ls []) := by
    have step : ∀ (k : Nat) (M : om_M) (x2 : Int32) (H : Heap) (locs : List Loc) (ls : Array Slot), ow_lp (fun (z : om_M × Int32) K => wp_M_tiePlace_2b F o0 x1 Q   K z.1 z.2) k (M, x2) → ow_B G D cA ad (ow_A G ad) M s s.heap H locs → lv_has ls 3 [(0, .ref (ad o0)), (1, .int x1), (2, .int x2)] → W p l e rm_M_tiePlace s m ([.ref (ad o0), .int x1] : List Value).toArray below meth c H locs 0 0 (MQ below (ow_Qi G D cA ad Q) ([.ref (ad o0), .int x1] : List Value).toArray s 0 0 (ow_A G ad)) (F0 m 2 ls []) := by
      intro k
      induction k with
      | zero => intro M x2 H locs ls h hB hl; exact False.elim h
      | succ k ih => intro M x2 H locs ls h hB hl; exact B2   (ow_lp _ k) (fun M x2 H locs ls h hB  hl => ih M x2  H locs ls h hB hl) M x2 H locs ls h hB hl
    intro M x2 H locs ls h hB hl
    exact step F M x2 H locs ls h hB hl
  have hl := lv_entry ([.ref (ad o0), .int x1]) (n := 3) (Nat.le_of_ble_eq_true rfl)
  rw [lg_entry_eq]
  generalize (lg_sl ([.ref (ad o0), .int x1]) ++ List.replicate (3 - (lg_sl ([.ref (ad o0), .int x1])).length) Slot.unset).toArray = ls at hl ⊢
  have hl : lv_has ls 3 [(0, .ref (ad o0)), (1, .int x1)] := hl
  show W p l e rm_M_tiePlace s m _ below meth c s.heap [] 0 0 _ _
  refine lv_iconst (v := 0) hx hb dc_M_tiePlace_0 rfl ?_
  refine lv_istore_n hx hb dc_M_tiePlace_1 rfl hl (by decide) rfl (fun ls hl => ?_)
  exact L2 _ _ _ _ _ h hB (lv_sub hl [1, 2, 0] rfl)
abbrev rm_M_tally : Room := { frames := 0, cells := 0, slots := 0, locals := 0 }
theorem hd_M_tally : yn_M_tally.cls ≠ "java/lang/invoke/MethodHandle" ∧ yn_M_tally.cls ≠ "java/lang/invoke/VarHandle" ∧ (parseMethodDescriptor yn_M_tally.desc).map (fun d => d.parameters.length) = some 0 := by decide +kernel
set_option maxHeartbeats 4000000 in
set_option maxRecDepth 100000 in
theorem ct_M_tally (l : Launch) (G : List (Nat × Nat)) (hG : ow_lay G) (D : va_G) (cA : Nat → ClassId) (ad : Nat → Nat) (F : Nat) (o0 : Nat) (k0 : ow_kd G o0 = (3, 9)) (M : om_M) (Q : om_M → Prop) (h : wp_M_tally F o0 M Q) : Met l yn_M_tally (ow_ws yn_M_tally cb_M_tally 5 none) rm_M_tally (ow_Pc G D cA ad M [.ref (ad o0)]) (ow_Qv G D cA ad Q) 0 0 (ow_A G ad) := by
  refine Met.ofW (cc := cb_M_tally) (maxL := 5) (ret := none) (by decide) rfl ?_
  intro p e s m args below meth c s₁ B hml hv
  obtain ⟨rfl, hB⟩ := hv
  have hx := B.exec
  have hb := B.bytes
  have hr := B.returns
  have hlocks := B.notSynchronized
  have hts : ∀ w ∈ lw_g, w.before ([.ref (ad o0)] : List Value).toArray s = true := fun w h => atoms_spec (ws := ow_ws yn_M_tally cb_M_tally 5 none) B.pre w (List.mem_cons_of_mem _ h)
  have hown : s.vm.findClass "BallotDeskModel" = some m.cls := findClass_of_methodNamed B.named
  clear B
  have L114 : ∀  (K23 : om_M × Int32 → Prop) (hK23 : ∀ (M : om_M) (x1 : Int32) (H : Heap) (locs : List Loc) (ls : Array Slot), K23 (M, x1) → ow_B G D cA ad (ow_A G ad) M s s.heap H locs → lv_has ls 5 [(0, .ref (ad o0)), (1, .int x1)] → W p l e rm_M_tally s m ([.ref (ad o0)] : List Value).toArray below meth c H locs 0 0 (MQ below (ow_Qv G D cA ad Q) ([.ref (ad o0)] : List Value).toArray s 0 0 (ow_A G ad)) (F0 m 23 ls [])) (M : om_M) (x1 : Int32)  (H : Heap) (locs : List Loc) (ls : Array Slot), wp_M_tally_114 F o0 Q  K23 M x1  → ow_B G D cA ad (ow_A G ad) M s s.heap H locs → lv_has ls 5 [(0, .ref (ad o0)), (1, .int x1)] → W p l e rm_M_tally s m ([.ref (ad o0)] : List Value).toArray below meth c H locs 0 0 (MQ below (ow_Qv G D cA ad Q) ([.ref (ad o0)] : List Value).toArray s 0 0 (ow_A G ad)) (F0 m 114 ls []) := by
    intro  K23 hK23 M x1 H locs ls h hB hl
    refine lv_iinc hx hb dc_M_tally_114 hl (k := 1) rfl rfl (by decide) rfl (fun ls hl => ?_)
    refine lv_goto hx hb dc_M_tally_117 rfl ?_
    exact hK23 _ _ _ _ _ h hB (lv_sub hl [1, 0] rfl)
  have L108 : ∀ (x1 : Int32) (K23 : om_M × Int32 → Prop) (hK23 : ∀ (M : om_M) (x1 : Int32) (H : Heap) (locs : List Loc) (ls : Array Slot), K23 (M, x1) → ow_B G D cA ad (ow_A G ad) M s s.heap H locs → lv_has ls 5 [(0, .ref (ad o0)), (1, .int x1)] → W p l e rm_M_tally s m ([.ref (ad o0)] : List Value).toArray below meth c H locs 0 0 (MQ below (ow_Qv G D cA ad Q) ([.ref (ad o0)] : List Value).toArray s 0 0 (ow_A G ad)) (F0 m 23 ls [])) (K33 : om_M × Int32 → Prop) (hK33 : ∀ (M : om_M) (x2 : Int32) (H : Heap) (locs : List Loc) (ls : Array Slot), K33 (M, x2) → ow_B G D cA ad (ow_A G ad) M s s.heap H locs → lv_has ls 5 [(0, .ref (ad o0)), (1, .int x1), (2, .int x2)] → W p l e rm_M_tally s m ([.ref (ad o0)] : List Value).toArray below meth c H locs 0 0 (MQ below (ow_Qv G D cA ad Q) ([.ref (ad o0)] : List Value).toArray s 0 0 (ow_A G ad)) (F0 m 33 ls [])) (M : om_M) (x2 : Int32)  (H : Heap) (locs : List Loc) (ls : Array Slot), wp_M_tally_108 F o0 Q x1 K23 K33 M x2  → ow_B G D cA ad (ow_A G ad) M s s.heap H locs → lv_has ls 5 [(0, .ref (ad o0)), (1, .int x1), (2, .int x2)] → W p l e rm_M_tally s m ([.ref (ad o0)] : List Value).toArray below meth c H locs 0 0 (MQ below (ow_Qv G D cA ad Q) ([.ref (ad o0)] : List Value).toArray s 0 0 (ow_A G ad)) (F0 m 108 ls []) := by
    intro x1 K23 hK23 K33 hK33 M x2 H locs ls h hB hl
    refine lv_iinc hx hb dc_M_tally_108 hl (k := 2) rfl rfl (by decide) rfl (fun ls hl => ?_)
    refine lv_goto hx hb dc_M_tally_111 rfl ?_
    exact hK33 _ _ _ _ _ h hB (lv_sub hl [1, 2, 0] rfl)
  have B45 : ∀ (x1 : Int32) (x2 : Int32) (K23 : om_M × Int32 → Prop) (hK23 : ∀ (M : om_M) (x1 : Int32) (H : Heap) (locs : List Loc) (ls : Array Slot), K23 (M, x1) → ow_B G D cA ad (ow_A G ad) M s s.heap H locs → lv_has ls 5 [(0, .ref (ad o0)), (1, .int x1)] → W p l e rm_M_tally s m ([.ref (ad o0)] : List Value).toArray below meth c H locs 0 0 (MQ below (ow_Qv G D cA ad Q) ([.ref (ad o0)] : List Value).toArray s 0 0 (ow_A G ad)) (F0 m 23 ls [])) (K33 : om_M × Int32 → Prop) (hK33 : ∀ (M : om_M) (x2 : Int32) (H : Heap) (locs : List Loc) (ls : Array Slot), K33 (M, x2) → ow_B G D cA ad (ow_A G ad) M s s.heap H locs → lv_has ls 5 [(0, .ref (ad o0)), (1, .int x1), (2, .int x2)] → W p l e rm_M_tally s m ([.ref (ad o0)] : List Value).toArray below meth c H locs 0 0 (MQ below (ow_Qv G D cA ad Q) ([.ref (ad o0)] : List Value).toArray s 0 0 (ow_A G ad)) (F0 m 33 ls [])) (K45 : om_M × Int32 → Prop) (hK45 : ∀ (M : om_M) (x3 : Int32) (H : Heap) (locs : List Loc) (ls : Array Slot), K45 (M, x3) → ow_B G D cA ad (ow_A G ad) M s s.heap H locs → lv_has ls 5 [(0, .ref (ad o0)), (1, .int x1), (2, .int x2), (3, .int x3)] → W p l e rm_M_tally s m ([.ref (ad o0)] : List Value).toArray below meth c H locs 0 0 (MQ below (ow_Qv G D cA ad Q) ([.ref (ad o0)] : List Value).toArray s 0 0 (ow_A G ad)) (F0 m 45 ls [])) (M : om_M) (x3 : Int32) (H : Heap) (locs : List Loc) (ls : Array Slot), wp_M_tally_45b F o0 Q x1 x2 K23 K33 K45 M x3 → ow_B G D cA ad (ow_A G ad) M s s.heap H locs → lv_has ls 5 [(0, .ref (ad o0)), (1, .int x1), (2, .int x2), (3, .int x3)] → W p l e rm_M_tally s m ([.ref (ad o0)] : List Value).toArray below meth c H locs 0 0 (MQ below (ow_Qv G D cA ad Q) ([.ref (ad o0)] : List Value).toArray s 0 0 (ow_A G ad)) (F0 m 45 ls []) := by
    intro x1 x2 K23 hK23 K33 hK33 K45 hK45 M x3 H locs ls h hB hl
    refine lv_iload_n hx hb dc_M_tally_45 rfl (lv_at hl 3 rfl) ?_
    refine lv_aload_n hx hb dc_M_tally_46 rfl (lv_at hl 0 rfl) ?_
    refine ow_get hx hb hts iw_M hown hB k0 rfl 8 (by decide) mw_805 rfl dc_M_tally_47 ?_
    obtain ⟨h1, h2⟩ := h
    refine lv_icmp_ge hx hb dc_M_tally_50 rfl (fun hc => ?_) (fun hc => ?_)
    · have h := h1 hc
      exact L108 _ K23 hK23 K33 hK33 _ _ _ _ _ h hB (lv_sub hl [0, 1, 2] rfl)
    · have h := h2 hc
      refine lv_bipush (v := 7) hx hb dc_M_tally_53 rfl ?_
      refine lv_aload_n hx hb dc_M_tally_55 rfl (lv_at hl 0 rfl) ?_
      refine ow_get hx hb hts iw_M hown hB k0 rfl 10 (by decide) mw_807 rfl dc_M_tally_56 ?_
      refine lv_bipush (v := 7) hx hb dc_M_tally_59 rfl ?_
      refine lv_iload_n hx hb dc_M_tally_61 rfl (lv_at hl 1 rfl) ?_
      refine lv_imul hx hb dc_M_tally_62 ?_
      refine lv_iload_n hx hb dc_M_tally_63 rfl (lv_at hl 2 rfl) ?_
      refine lv_iadd hx hb dc_M_tally_64 ?_
      obtain ⟨hi1, h⟩ := h
      refine ow_iald hx hb hB (ly_M_places hG k0) hi1 dc_M_tally_65 ?_
      refine lv_imul hx hb dc_M_tally_66 ?_
      refine lv_aload_n hx hb dc_M_tally_67 rfl (lv_at hl 0 rfl) ?_
      refine ow_get hx hb hts iw_M hown hB k0 rfl 10 (by decide) mw_807 rfl dc_M_tally_68 ?_
      refine lv_bipush (v := 7) hx hb dc_M_tally_71 rfl ?_
      refine lv_iload_n hx hb dc_M_tally_73 rfl (lv_at hl 1 rfl) ?_
      refine lv_imul hx hb dc_M_tally_74 ?_
      refine lv_iload_n hx hb dc_M_tally_75 rfl (lv_at hl 3 rfl) ?_
      refine lv_iadd hx hb dc_M_tally_76 ?_
      obtain ⟨hi2, h⟩ := h
      refine ow_iald hx hb hB (ly_M_places hG k0) hi2 dc_M_tally_77 ?_
      refine lv_iadd hx hb dc_M_tally_78 ?_
      refine lv_istore hx hb dc_M_tally_79 hl (by decide) rfl (fun ls hl => ?_)
      refine lv_aload_n hx hb dc_M_tally_81 rfl (lv_at hl 1 rfl) ?_
      refine ow_get hx hb hts iw_M hown hB k0 rfl 15 (by decide) mw_812 rfl dc_M_tally_82 ?_
      refine lv_iload hx hb dc_M_tally_85 (lv_at hl 0 rfl) ?_
      refine lv_aload_n hx hb dc_M_tally_87 rfl (lv_at hl 1 rfl) ?_
      refine ow_get hx hb hts iw_M hown hB k0 rfl 15 (by decide) mw_812 rfl dc_M_tally_88 ?_
      refine lv_iload hx hb dc_M_tally_91 (lv_at hl 0 rfl) ?_
      obtain ⟨hi3, h⟩ := h
      refine ow_iald hx hb hB (ly_M_pairs hG k0) hi3 dc_M_tally_93 ?_
      refine lv_aload_n hx hb dc_M_tally_94 rfl (lv_at hl 1 rfl) ?_
      refine ow_get hx hb hts iw_M hown hB k0 rfl 11 (by decide) mw_808 rfl dc_M_tally_95 ?_
      refine lv_iload_n hx hb dc_M_tally_98 rfl (lv_at hl 2 rfl) ?_
      obtain ⟨hi4, h⟩ := h
      refine ow_iald hx hb hB (ly_M_voters hG k0) hi4 dc_M_tally_99 ?_
      refine lv_iadd hx hb dc_M_tally_100 ?_
      refine ow_iast hx hb hB (ly_M_pairs hG k0) hi3 dc_M_tally_101 (fun H locs hB => ?_)
      refine lv_iinc hx hb dc_M_tally_102 hl (k := 4) rfl rfl (by decide) rfl (fun ls hl => ?_)
      refine lv_goto hx hb dc_M_tally_105 rfl ?_
      exact hK45 _ _ _ _ _ h hB (lv_sub hl [2, 3, 4, 0] rfl)
  have L45 : ∀ (x1 : Int32) (x2 : Int32) (K23 : om_M × Int32 → Prop) (hK23 : ∀ (M : om_M) (x1 : Int32) (H : Heap) (locs : List Loc) (ls : Array Slot), K23 (M, x1) → ow_B G D cA ad (ow_A G ad) M s s.heap H locs → lv_has ls 5 [(0, .ref (ad o0)), (1, .int x1)] → W p l e rm_M_tally s m ([.ref (ad o0)] : List Value).toArray below meth c H locs 0 0 (MQ below (ow_Qv G D cA ad Q) ([.ref (ad o0)] : List Value).toArray s 0 0 (ow_A G ad)) (F0 m 23 ls [])) (K33 : om_M × Int32 → Prop) (hK33 : ∀ (M : om_M) (x2 : Int32) (H : Heap) (locs : List Loc) (ls : Array Slot), K33 (M, x2) → ow_B G D cA ad (ow_A G ad) M s s.heap H locs → lv_has ls 5 [(0, .ref (ad o0)), (1, .int x1), (2, .int x2)] → W p l e rm_M_tally s m ([.ref (ad o0)] : List Value).toArray below meth c H locs 0 0 (MQ below (ow_Qv G D cA ad Q) ([.ref (ad o0)] : List Value).toArray s 0 0 (ow_A G ad)) (F0 m 33 ls [])) (M : om_M) (x3 : Int32) (H : Heap) (locs : List Loc) (ls : Array Slot), wp_M_tally_45 F o0 Q x1 x2 K23 K33 M x3 → ow_B G D cA ad (ow_A G ad) M s s.heap H locs → lv_has ls 5 [(0, .ref (ad o0)), (1, .int x1), (2, .int x2), (3, .int x3)] → W p l e rm_M_tally s m ([.ref (ad o0)] : List Value).toArray below meth c H locs 0 0 (MQ below (ow_Qv G D cA ad Q) ([.ref (ad o0)] : List Value).toArray s 0 0 (ow_A G ad)) (F0 m 45 ls []) := by
    intro x1 x2 K23 hK23 K33 hK33
    have step : ∀ (k : Nat) (M : om_M) (x3 : Int32) (H : Heap) (locs : List Loc) (ls : Array Slot), ow_lp (fun (z : om_M × Int32) K => wp_M_tally_45b F o0 Q x1 x2 K23 K33 K z.1 z.2) k (M, x3) → ow_B G D cA ad (ow_A G ad) M s s.heap H locs → lv_has ls 5 [(0, .ref (ad o0)), (1, .int x1), (2, .int x2), (3, .int x3)] → W p l e rm_M_tally s m ([.ref (ad o0)] : List Value).toArray below meth c H locs 0 0 (MQ below (ow_Qv G D cA ad Q) ([.ref (ad o0)] : List Value).toArray s 0 0 (ow_A G ad)) (F0 m 45 ls []) := by
      intro k
      induction k with
      | zero => intro M x3 H locs ls h hB hl; exact False.elim h
      | succ k ih => intro M x3 H locs ls h hB hl; exact B45 x1 x2 K23 hK23 K33 hK33 (ow_lp _ k) (fun M x3 H locs ls h hB  hl => ih M x3  H locs ls h hB hl) M x3 H locs ls h hB hl
    intro M x3 H locs ls h hB hl
    exact step F M x3 H locs ls h hB hl
  have B33 : ∀ (x1 : Int32) (K23 : om_M × Int32 → Prop) (hK23 : ∀ (M : om_M) (x1 : Int32) (H : Heap) (locs : List Loc) (ls : Array Slot), K23 (M, x1) → ow_B G D cA ad (ow_A G ad) M s s.heap H locs → lv_has ls 5 [(0, .ref (ad o0)), (1, .int x1)] → W p l e rm_M_tally s m ([.ref (ad o0)] : List Value).toArray below meth c H locs 0 0 (MQ below (ow_Qv G D cA ad Q) ([.ref (ad o0)] : List Value).toArray s 0 0 (ow_A G ad)) (F0 m 23 ls [])) (K33 : om_M × Int32 → Prop) (hK33 : ∀ (M : om_M) (x2 : Int32) (H : Heap) (locs : List Loc) (ls : Array Slot), K33 (M, x2) → ow_B G D cA ad (ow_A G ad) M s s.heap H locs → lv_has ls 5 [(0, .ref (ad o0)), (1, .int x1), (2, .int x2)] → W p l e rm_M_tally s m ([.ref (ad o0)] : List Value).toArray below meth c H locs 0 0 (MQ below (ow_Qv G D cA ad Q) ([.ref (ad o0)] : List Value).toArray s 0 0 (ow_A G ad)) (F0 m 33 ls [])) (M : om_M) (x2 : Int32) (H : Heap) (locs : List Loc) (ls : Array Slot), wp_M_tally_33b F o0 Q x1 K23 K33 M x2 → ow_B G D cA ad (ow_A G ad) M s s.heap H locs → lv_has ls 5 [(0, .ref (ad o0)), (1, .int x1), (2, .int x2)] → W p l e rm_M_tally s m ([.ref (ad o0)] : List Value).toArray below meth c H locs 0 0 (MQ below (ow_Qv G D cA ad Q) ([.ref (ad o0)] : List Value).toArray s 0 0 (ow_A G ad)) (F0 m 33 ls []) := by
    intro x1 K23 hK23 K33 hK33 M x2 H locs ls h hB hl
    refine lv_iload_n hx hb dc_M_tally_33 rfl (lv_at hl 2 rfl) ?_
    refine lv_aload_n hx hb dc_M_tally_34 rfl (lv_at hl 0 rfl) ?_
    refine ow_get hx hb hts iw_M hown hB k0 rfl 8 (by decide) mw_805 rfl dc_M_tally_35 ?_
    obtain ⟨h1, h2⟩ := h
    refine lv_icmp_ge hx hb dc_M_tally_38 rfl (fun hc => ?_) (fun hc => ?_)
    · have h := h1 hc
      exact L114 K23 hK23 _ _ _ _ _ h hB (lv_sub hl [0, 1] rfl)
    · have h := h2 hc
      refine lv_iload_n hx hb dc_M_tally_41 rfl (lv_at hl 2 rfl) ?_
      refine lv_iconst (v := 1) hx hb dc_M_tally_42 rfl ?_
      refine lv_iadd hx hb dc_M_tally_43 ?_
      refine lv_istore_n hx hb dc_M_tally_44 rfl hl (by decide) rfl (fun ls hl => ?_)
      exact L45 _ _ K23 hK23 K33 hK33 _ _ _ _ _ h hB (lv_sub hl [1, 2, 3, 0] rfl)
  have L33 : ∀ (x1 : Int32) (K23 : om_M × Int32 → Prop) (hK23 : ∀ (M : om_M) (x1 : Int32) (H : Heap) (locs : List Loc) (ls : Array Slot), K23 (M, x1) → ow_B G D cA ad (ow_A G ad) M s s.heap H locs → lv_has ls 5 [(0, .ref (ad o0)), (1, .int x1)] → W p l e rm_M_tally s m ([.ref (ad o0)] : List Value).toArray below meth c H locs 0 0 (MQ below (ow_Qv G D cA ad Q) ([.ref (ad o0)] : List Value).toArray s 0 0 (ow_A G ad)) (F0 m 23 ls [])) (M : om_M) (x2 : Int32) (H : Heap) (locs : List Loc) (ls : Array Slot), wp_M_tally_33 F o0 Q x1 K23 M x2 → ow_B G D cA ad (ow_A G ad) M s s.heap H locs → lv_has ls 5 [(0, .ref (ad o0)), (1, .int x1), (2, .int x2)] → W p l e rm_M_tally s m ([.ref (ad o0)] : List Value).toArray below meth c H locs 0 0 (MQ below (ow_Qv G D cA ad Q) ([.ref (ad o0)] : List Value).toArray s 0 0 (ow_A G ad)) (F0 m 33 ls []) := by
    intro x1 K23 hK23
    have step : ∀ (k : Nat) (M : om_M) (x2 : Int32) (H : Heap) (locs : List Loc) (ls : Array Slot), ow_lp (fun (z : om_M × Int32) K => wp_M_tally_33b F o0 Q x1 K23 K z.1 z.2) k (M, x2) → ow_B G D cA ad (ow_A G ad) M s s.heap H locs → lv_has ls 5 [(0, .ref (ad o0)), (1, .int x1), (2, .int x2)] → W p l e rm_M_tally s m ([.ref (ad o0)] : List Value).toArray below meth c H locs 0 0 (MQ below (ow_Qv G D cA ad Q) ([.ref (ad o0)] : List Value).toArray s 0 0 (ow_A G ad)) (F0 m 33 ls []) := by
      intro k
      induction k with
      | zero => intro M x2 H locs ls h hB hl; exact False.elim h
      | succ k ih => intro M x2 H locs ls h hB hl; exact B33 x1 K23 hK23 (ow_lp _ k) (fun M x2 H locs ls h hB  hl => ih M x2  H locs ls h hB hl) M x2 H locs ls h hB hl
    intro M x2 H locs ls h hB hl
    exact step F M x2 H locs ls h hB hl
  have B23 : ∀   (K23 : om_M × Int32 → Prop) (hK23 : ∀ (M : om_M) (x1 : Int32) (H : Heap) (locs : List Loc) (ls : Array Slot), K23 (M, x1) → ow_B G D cA ad (ow_A G ad) M s s.heap H locs → lv_has ls 5 [(0, .ref (ad o0)), (1, .int x1)] → W p l e rm_M_tally s m ([.ref (ad o0)] : List Value).toArray below meth c H locs 0 0 (MQ below (ow_Qv G D cA ad Q) ([.ref (ad o0)] : List Value).toArray s 0 0 (ow_A G ad)) (F0 m 23 ls [])) (M : om_M) (x1 : Int32) (H : Heap) (locs : List Loc) (ls : Array Slot), wp_M_tally_23b F o0 Q   K23 M x1 → ow_B G D cA ad (ow_A G ad) M s s.heap H locs → lv_has ls 5 [(0, .ref (ad o0)), (1, .int x1)] → W p l e rm_M_tally s m ([.ref (ad o0)] : List Value).toArray below meth c H locs 0 0 (MQ below (ow_Qv G D cA ad Q) ([.ref (ad o0)] : List Value).toArray s 0 0 (ow_A G ad)) (F0 m 23 ls []) := by
    intro   K23 hK23 M x1 H locs ls h hB hl
    refine lv_iload_n hx hb dc_M_tally_23 rfl (lv_at hl 1 rfl) ?_
    refine lv_aload_n hx hb dc_M_tally_24 rfl (lv_at hl 0 rfl) ?_
    refine ow_get hx hb hts iw_M hown hB k0 rfl 9 (by decide) mw_806 rfl dc_M_tally_25 ?_
    obtain ⟨h1, h2⟩ := h
    refine lv_icmp_ge hx hb dc_M_tally_28 rfl (fun hc => ?_) (fun hc => ?_)
    · have h := h1 hc
      exact ow_vret hx hb hr hlocks hB h dc_M_tally_120
    · have h := h2 hc
      refine lv_iconst (v := 0) hx hb dc_M_tally_31 rfl ?_
      refine lv_istore_n hx hb dc_M_tally_32 rfl hl (by decide) rfl (fun ls hl => ?_)
      exact L33 _ K23 hK23 _ _ _ _ _ h hB (lv_sub hl [1, 2, 0] rfl)
  have L23 : ∀   (M : om_M) (x1 : Int32) (H : Heap) (locs : List Loc) (ls : Array Slot), wp_M_tally_23 F o0 Q   M x1 → ow_B G D cA ad (ow_A G ad) M s s.heap H locs → lv_has ls 5 [(0, .ref (ad o0)), (1, .int x1)] → W p l e rm_M_tally s m ([.ref (ad o0)] : List Value).toArray below meth c H locs 0 0 (MQ below (ow_Qv G D cA ad Q) ([.ref (ad o0)] : List Value).toArray s 0 0 (ow_A G ad)) (F0 m 23 ls []) := by
    have step : ∀ (k : Nat) (M : om_M) (x1 : Int32) (H : Heap) (locs : List Loc) (ls : Array Slot), ow_lp (fun (z : om_M × Int32) K => wp_M_tally_23b F o0 Q   K z.1 z.2) k (M, x1) → ow_B G D cA ad (ow_A G ad) M s s.heap H locs → lv_has ls 5 [(0, .ref (ad o0)), (1, .int x1)] → W p l e rm_M_tally s m ([.ref (ad o0)] : List Value).toArray below meth c H locs 0 0 (MQ below (ow_Qv G D cA ad Q) ([.ref (ad o0)] : List Value).toArray s 0 0 (ow_A G ad)) (F0 m 23 ls []) := by
      intro k
      induction k with
      | zero => intro M x1 H locs ls h hB hl; exact False.elim h
      | succ k ih => intro M x1 H locs ls h hB hl; exact B23   (ow_lp _ k) (fun M x1 H locs ls h hB  hl => ih M x1  H locs ls h hB hl) M x1 H locs ls h hB hl
    intro M x1 H locs ls h hB hl
    exact step F M x1 H locs ls h hB hl
  have L21 : ∀   (M : om_M)   (H : Heap) (locs : List Loc) (ls : Array Slot), wp_M_tally_21 F o0 Q   M   → ow_B G D cA ad (ow_A G ad) M s s.heap H locs → lv_has ls 5 [(0, .ref (ad o0))] → W p l e rm_M_tally s m ([.ref (ad o0)] : List Value).toArray below meth c H locs 0 0 (MQ below (ow_Qv G D cA ad Q) ([.ref (ad o0)] : List Value).toArray s 0 0 (ow_A G ad)) (F0 m 21 ls []) := by
    intro   M H locs ls h hB hl
    refine lv_iconst (v := 0) hx hb dc_M_tally_21 rfl ?_
    refine lv_istore_n hx hb dc_M_tally_22 rfl hl (by decide) rfl (fun ls hl => ?_)
    exact L23 _ _ _ _ _ h hB (lv_sub hl [1, 0] rfl)
  have B2 : ∀   (K2 : om_M × Int32 → Prop) (hK2 : ∀ (M : om_M) (x1 : Int32) (H : Heap) (locs : List Loc) (ls : Array Slot), K2 (M, x1) → ow_B G D cA ad (ow_A G ad) M s s.heap H locs → lv_has ls 5 [(0, .ref (ad o0)), (1, .int x1)] → W p l e rm_M_tally s m ([.ref (ad o0)] : List Value).toArray below meth c H locs 0 0 (MQ below (ow_Qv G D cA ad Q) ([.ref (ad o0)] : List Value).toArray s 0 0 (ow_A G ad)) (F0 m 2 ls [])) (M : om_M) (x1 : Int32) (H : Heap) (locs : List Loc) (ls : Array Slot), wp_M_tally_2b F o0 Q   K2 M x1 → ow_B G D cA ad (ow_A G ad) M s s.heap H locs → lv_has ls 5 [(0, .ref (ad o0)), (1, .int x1)] → W p l e rm_M_tally s m ([.ref (ad o0)] : List Value).toArray below meth c H locs 0 0 (MQ below (ow_Qv G D cA ad Q) ([.ref (ad o0)] : List Value).toArray s 0 0 (ow_A G ad)) (F0 m 2 ls []) := by
    intro   K2 hK2 M x1 H locs ls h hB hl
    refine lv_iload_n hx hb dc_M_tally_2 rfl (lv_at hl 1 rfl) ?_
    refine lv_bipush (v := 49) hx hb dc_M_tally_3 rfl ?_
    obtain ⟨h1, h2⟩ := h
    refine lv_icmp_ge hx hb dc_M_tally_5 rfl (fun hc => ?_) (fun hc => ?_)
    · have h := h1 hc
      exact L21 _ _ _ _ h hB (lv_sub hl [0] rfl)
    · have h := h2 hc
      refine lv_aload_n hx hb dc_M_tally_8 rfl (lv_at hl 0 rfl) ?_
      refine ow_get hx hb hts iw_M hown hB k0 rfl 15 (by decide) mw_812 rfl dc_M_tally_9 ?_
      refine lv_iload_n hx hb dc_M_tally_12 rfl (lv_at hl 1 rfl) ?_
      refine lv_iconst (v := 0) hx hb dc_M_tally_13 rfl ?_
      obtain ⟨hi5, h⟩ := h
      refine ow_iast hx hb hB (ly_M_pairs hG k0) hi5 dc_M_tally_14 (fun H locs hB => ?_)
      refine lv_iinc hx hb dc_M_tally_15 hl (k := 1) rfl rfl (by decide) rfl (fun ls hl => ?_)
      refine lv_goto hx hb dc_M_tally_18 rfl ?_
      exact hK2 _ _ _ _ _ h hB (lv_sub hl [1, 0] rfl)
  have L2 : ∀   (M : om_M) (x1 : Int32) (H : Heap) (locs : List Loc) (ls : Array Slot), wp_M_tally_2 F o0 Q   M x1 → ow_B G D cA ad (ow_A G ad) M s s.heap H locs → lv_has ls 5 [(0, .ref (ad o0)), (1, .int x1)] → W p l e rm_M_tally s m ([.ref (ad o0)] : List Value).toArray below meth c H locs 0 0 (MQ below (ow_Qv G D cA ad Q) ([.ref (ad o0)] : List Value).toArray s 0 0 (ow_A G ad)) (F0 m 2 ls []) := by
    have step : ∀ (k : Nat) (M : om_M) (x1 : Int32) (H : Heap) (locs : List Loc) (ls : Array Slot), ow_lp (fun (z : om_M × Int32) K => wp_M_tally_2b F o0 Q   K z.1 z.2) k (M, x1) → ow_B G D cA ad (ow_A G ad) M s s.heap H locs → lv_has ls 5 [(0, .ref (ad o0)), (1, .int x1)] → W p l e rm_M_tally s m ([.ref (ad o0)] : List Value).toArray below meth c H locs 0 0 (MQ below (ow_Qv G D cA ad Q) ([.ref (ad o0)] : List Value).toArray s 0 0 (ow_A G ad)) (F0 m 2 ls []) := by
      intro k
      induction k with
      | zero => intro M x1 H locs ls h hB hl; exact False.elim h
      | succ k ih => intro M x1 H locs ls h hB hl; exact B2   (ow_lp _ k) (fun M x1 H locs ls h hB  hl => ih M x1  H locs ls h hB hl) M x1 H locs ls h hB hl
    intro M x1 H locs ls h hB hl
    exact step F M x1 H locs ls h hB hl
  have hl := lv_entry ([.ref (ad o0)]) (n := 5) (Nat.le_of_ble_eq_true rfl)
  rw [lg_entry_eq]
  generalize (lg_sl ([.ref (ad o0)]) ++ List.replicate (5 - (lg_sl ([.ref (ad o0)])).length) Slot.unset).toArray = ls at hl ⊢
  have hl : lv_has ls 5 [(0, .ref (ad o0))] := hl
  show W p l e rm_M_tally s m _ below meth c s.heap [] 0 0 _ _
  refine lv_iconst (v := 0) hx hb dc_M_tally_0 rfl ?_
  refine lv_istore_n hx hb dc_M_tally_1 rfl hl (by decide) rfl (fun ls hl => ?_)
  exact L2 _ _ _ _ _ h hB (lv_sub hl [1, 0] rfl)
abbrev rm_M_beats : Room := { frames := 0, cells := 0, slots := 0, locals := 0 }
theorem hd_M_beats : yn_M_beats.cls ≠ "java/lang/invoke/MethodHandle" ∧ yn_M_beats.cls ≠ "java/lang/invoke/VarHandle" ∧ (parseMethodDescriptor yn_M_beats.desc).map (fun d => d.parameters.length) = some 2 := by decide +kernel
set_option maxHeartbeats 4000000 in
set_option maxRecDepth 100000 in
theorem ct_M_beats (l : Launch) (G : List (Nat × Nat)) (hG : ow_lay G) (D : va_G) (cA : Nat → ClassId) (ad : Nat → Nat) (F : Nat) (o0 : Nat) (k0 : ow_kd G o0 = (3, 9)) (x1 : Int32) (x2 : Int32) (M : om_M) (Q : Int32 → om_M → Prop) (h : wp_M_beats F o0 x1 x2 M Q) : Met l yn_M_beats (ow_ws yn_M_beats cb_M_beats 3 (some .boolean)) rm_M_beats (ow_Pc G D cA ad M [.ref (ad o0), .int x1, .int x2]) (ow_Qi G D cA ad Q) 0 0 (ow_A G ad) := by
  refine Met.ofW (cc := cb_M_beats) (maxL := 3) (ret := (some .boolean)) (by decide) rfl ?_
  intro p e s m args below meth c s₁ B hml hv
  obtain ⟨rfl, hB⟩ := hv
  have hx := B.exec
  have hb := B.bytes
  have hr := B.returns
  have hlocks := B.notSynchronized
  have hts : ∀ w ∈ lw_g, w.before ([.ref (ad o0), .int x1, .int x2] : List Value).toArray s = true := fun w h => atoms_spec (ws := ow_ws yn_M_beats cb_M_beats 3 (some .boolean)) B.pre w (List.mem_cons_of_mem _ h)
  have hown : s.vm.findClass "BallotDeskModel" = some m.cls := findClass_of_methodNamed B.named
  clear B
  have hl := lv_entry ([.ref (ad o0), .int x1, .int x2]) (n := 3) (Nat.le_of_ble_eq_true rfl)
  rw [lg_entry_eq]
  generalize (lg_sl ([.ref (ad o0), .int x1, .int x2]) ++ List.replicate (3 - (lg_sl ([.ref (ad o0), .int x1, .int x2])).length) Slot.unset).toArray = ls at hl ⊢
  have hl : lv_has ls 3 [(0, .ref (ad o0)), (1, .int x1), (2, .int x2)] := hl
  show W p l e rm_M_beats s m _ below meth c s.heap [] 0 0 _ _
  refine lv_aload_n hx hb dc_M_beats_0 rfl (lv_at hl 0 rfl) ?_
  refine ow_get hx hb hts iw_M hown hB k0 rfl 15 (by decide) mw_812 rfl dc_M_beats_1 ?_
  refine lv_bipush (v := 7) hx hb dc_M_beats_4 rfl ?_
  refine lv_iload_n hx hb dc_M_beats_6 rfl (lv_at hl 1 rfl) ?_
  refine lv_imul hx hb dc_M_beats_7 ?_
  refine lv_iload_n hx hb dc_M_beats_8 rfl (lv_at hl 2 rfl) ?_
  refine lv_iadd hx hb dc_M_beats_9 ?_
  obtain ⟨hi1, h⟩ := h
  refine ow_iald hx hb hB (ly_M_pairs hG k0) hi1 dc_M_beats_10 ?_
  refine lv_aload_n hx hb dc_M_beats_11 rfl (lv_at hl 0 rfl) ?_
  refine ow_get hx hb hts iw_M hown hB k0 rfl 15 (by decide) mw_812 rfl dc_M_beats_12 ?_
  refine lv_bipush (v := 7) hx hb dc_M_beats_15 rfl ?_
  refine lv_iload_n hx hb dc_M_beats_17 rfl (lv_at hl 2 rfl) ?_
  refine lv_imul hx hb dc_M_beats_18 ?_
  refine lv_iload_n hx hb dc_M_beats_19 rfl (lv_at hl 1 rfl) ?_
  refine lv_iadd hx hb dc_M_beats_20 ?_
  obtain ⟨hi2, h⟩ := h
  refine ow_iald hx hb hB (ly_M_pairs hG k0) hi2 dc_M_beats_21 ?_
  obtain ⟨h1, h2⟩ := h
  refine lv_icmp_le hx hb dc_M_beats_22 rfl (fun hc => ?_) (fun hc => ?_)
  · have h := h1 hc
    refine lv_iconst (v := 0) hx hb dc_M_beats_29 rfl ?_
    exact ow_zret hx hb hr hlocks (by decide) hB h dc_M_beats_30
  · have h := h2 hc
    refine lv_iconst (v := 1) hx hb dc_M_beats_25 rfl ?_
    refine lv_goto hx hb dc_M_beats_26 rfl ?_
    exact ow_zret hx hb hr hlocks (by decide) hB h dc_M_beats_30
abbrev rm_M_ahead : Room := { frames := 0, cells := 0, slots := 0, locals := 0 }
theorem hd_M_ahead : yn_M_ahead.cls ≠ "java/lang/invoke/MethodHandle" ∧ yn_M_ahead.cls ≠ "java/lang/invoke/VarHandle" ∧ (parseMethodDescriptor yn_M_ahead.desc).map (fun d => d.parameters.length) = some 2 := by decide +kernel
set_option maxHeartbeats 4000000 in
set_option maxRecDepth 100000 in
theorem ct_M_ahead (l : Launch) (G : List (Nat × Nat)) (hG : ow_lay G) (D : va_G) (cA : Nat → ClassId) (ad : Nat → Nat) (F : Nat) (o0 : Nat) (k0 : ow_kd G o0 = (3, 9)) (x1 : Int32) (x2 : Int32) (M : om_M) (Q : Int32 → om_M → Prop) (h : wp_M_ahead F o0 x1 x2 M Q) : Met l yn_M_ahead (ow_ws yn_M_ahead cb_M_ahead 6 (some .int)) rm_M_ahead (ow_Pc G D cA ad M [.ref (ad o0), .int x1, .int x2]) (ow_Qi G D cA ad Q) 0 0 (ow_A G ad) := by
  refine Met.ofW (cc := cb_M_ahead) (maxL := 6) (ret := (some .int)) (by decide) rfl ?_
  intro p e s m args below meth c s₁ B hml hv
  obtain ⟨rfl, hB⟩ := hv
  have hx := B.exec
  have hb := B.bytes
  have hr := B.returns
  have hlocks := B.notSynchronized
  have hts : ∀ w ∈ lw_g, w.before ([.ref (ad o0), .int x1, .int x2] : List Value).toArray s = true := fun w h => atoms_spec (ws := ow_ws yn_M_ahead cb_M_ahead 6 (some .int)) B.pre w (List.mem_cons_of_mem _ h)
  have hown : s.vm.findClass "BallotDeskModel" = some m.cls := findClass_of_methodNamed B.named
  clear B
  have L73 : ∀  (K5 : om_M × Int32 × Int32 → Prop) (hK5 : ∀ (M : om_M) (x3 : Int32) (x4 : Int32) (H : Heap) (locs : List Loc) (ls : Array Slot), K5 (M, x3, x4) → ow_B G D cA ad (ow_A G ad) M s s.heap H locs → lv_has ls 6 [(0, .ref (ad o0)), (1, .int x1), (2, .int x2), (3, .int x3), (4, .int x4)] → W p l e rm_M_ahead s m ([.ref (ad o0), .int x1, .int x2] : List Value).toArray below meth c H locs 0 0 (MQ below (ow_Qi G D cA ad Q) ([.ref (ad o0), .int x1, .int x2] : List Value).toArray s 0 0 (ow_A G ad)) (F0 m 5 ls [])) (M : om_M) (x4 : Int32) (t0 : Int32) (H : Heap) (locs : List Loc) (ls : Array Slot), wp_M_ahead_73 F o0 x1 x2 Q  K5 M x4 t0 → ow_B G D cA ad (ow_A G ad) M s s.heap H locs → lv_has ls 6 [(0, .ref (ad o0)), (1, .int x1), (2, .int x2), (4, .int x4)] → W p l e rm_M_ahead s m ([.ref (ad o0), .int x1, .int x2] : List Value).toArray below meth c H locs 0 0 (MQ below (ow_Qi G D cA ad Q) ([.ref (ad o0), .int x1, .int x2] : List Value).toArray s 0 0 (ow_A G ad)) (F0 m 73 ls [.int t0]) := by
    intro  K5 hK5 M x4 t0 H locs ls h hB hl
    refine lv_istore_n hx hb dc_M_ahead_73 rfl hl (by decide) rfl (fun ls hl => ?_)
    refine lv_iinc hx hb dc_M_ahead_74 hl (k := 4) rfl rfl (by decide) rfl (fun ls hl => ?_)
    refine lv_goto hx hb dc_M_ahead_77 rfl ?_
    exact hK5 _ _ _ _ _ _ h hB (lv_sub hl [2, 3, 4, 1, 0] rfl)
  have L43 : ∀  (K5 : om_M × Int32 × Int32 → Prop) (hK5 : ∀ (M : om_M) (x3 : Int32) (x4 : Int32) (H : Heap) (locs : List Loc) (ls : Array Slot), K5 (M, x3, x4) → ow_B G D cA ad (ow_A G ad) M s s.heap H locs → lv_has ls 6 [(0, .ref (ad o0)), (1, .int x1), (2, .int x2), (3, .int x3), (4, .int x4)] → W p l e rm_M_ahead s m ([.ref (ad o0), .int x1, .int x2] : List Value).toArray below meth c H locs 0 0 (MQ below (ow_Qi G D cA ad Q) ([.ref (ad o0), .int x1, .int x2] : List Value).toArray s 0 0 (ow_A G ad)) (F0 m 5 ls [])) (M : om_M) (x3 : Int32) (x4 : Int32) (x5 : Int32)  (H : Heap) (locs : List Loc) (ls : Array Slot), wp_M_ahead_43 F o0 x1 x2 Q  K5 M x3 x4 x5  → ow_B G D cA ad (ow_A G ad) M s s.heap H locs → lv_has ls 6 [(0, .ref (ad o0)), (1, .int x1), (2, .int x2), (3, .int x3), (4, .int x4), (5, .int x5)] → W p l e rm_M_ahead s m ([.ref (ad o0), .int x1, .int x2] : List Value).toArray below meth c H locs 0 0 (MQ below (ow_Qi G D cA ad Q) ([.ref (ad o0), .int x1, .int x2] : List Value).toArray s 0 0 (ow_A G ad)) (F0 m 43 ls []) := by
    intro  K5 hK5 M x3 x4 x5 H locs ls h hB hl
    refine lv_aload_n hx hb dc_M_ahead_43 rfl (lv_at hl 0 rfl) ?_
    refine ow_get hx hb hts iw_M hown hB k0 rfl 10 (by decide) mw_807 rfl dc_M_ahead_44 ?_
    refine lv_bipush (v := 7) hx hb dc_M_ahead_47 rfl ?_
    refine lv_iload hx hb dc_M_ahead_49 (lv_at hl 4 rfl) ?_
    refine lv_imul hx hb dc_M_ahead_51 ?_
    refine lv_iload hx hb dc_M_ahead_52 (lv_at hl 5 rfl) ?_
    refine lv_iadd hx hb dc_M_ahead_54 ?_
    obtain ⟨hi1, h⟩ := h
    refine ow_iald hx hb hB (ly_M_places hG k0) hi1 dc_M_ahead_55 ?_
    refine lv_iload_n hx hb dc_M_ahead_56 rfl (lv_at hl 1 rfl) ?_
    obtain ⟨h1, h2⟩ := h
    refine lv_icmp_ne hx hb dc_M_ahead_57 rfl (fun hc => ?_) (fun hc => ?_)
    · have h := h2 hc
      refine lv_iload_n hx hb dc_M_ahead_72 rfl (lv_at hl 3 rfl) ?_
      exact L73 K5 hK5 _ _ _ _ _ _ h hB (lv_sub hl [0, 1, 2, 4] rfl)
    · have h := h1 hc
      refine lv_iload_n hx hb dc_M_ahead_60 rfl (lv_at hl 3 rfl) ?_
      refine lv_aload_n hx hb dc_M_ahead_61 rfl (lv_at hl 0 rfl) ?_
      refine ow_get hx hb hts iw_M hown hB k0 rfl 11 (by decide) mw_808 rfl dc_M_ahead_62 ?_
      refine lv_iload hx hb dc_M_ahead_65 (lv_at hl 4 rfl) ?_
      obtain ⟨hi2, h⟩ := h
      refine ow_iald hx hb hB (ly_M_voters hG k0) hi2 dc_M_ahead_67 ?_
      refine lv_iadd hx hb dc_M_ahead_68 ?_
      refine lv_goto hx hb dc_M_ahead_69 rfl ?_
      exact L73 K5 hK5 _ _ _ _ _ _ h hB (lv_sub hl [0, 1, 2, 4] rfl)
  have B17 : ∀ (x3 : Int32) (x4 : Int32) (K5 : om_M × Int32 × Int32 → Prop) (hK5 : ∀ (M : om_M) (x3 : Int32) (x4 : Int32) (H : Heap) (locs : List Loc) (ls : Array Slot), K5 (M, x3, x4) → ow_B G D cA ad (ow_A G ad) M s s.heap H locs → lv_has ls 6 [(0, .ref (ad o0)), (1, .int x1), (2, .int x2), (3, .int x3), (4, .int x4)] → W p l e rm_M_ahead s m ([.ref (ad o0), .int x1, .int x2] : List Value).toArray below meth c H locs 0 0 (MQ below (ow_Qi G D cA ad Q) ([.ref (ad o0), .int x1, .int x2] : List Value).toArray s 0 0 (ow_A G ad)) (F0 m 5 ls [])) (K17 : om_M × Int32 → Prop) (hK17 : ∀ (M : om_M) (x5 : Int32) (H : Heap) (locs : List Loc) (ls : Array Slot), K17 (M, x5) → ow_B G D cA ad (ow_A G ad) M s s.heap H locs → lv_has ls 6 [(0, .ref (ad o0)), (1, .int x1), (2, .int x2), (3, .int x3), (4, .int x4), (5, .int x5)] → W p l e rm_M_ahead s m ([.ref (ad o0), .int x1, .int x2] : List Value).toArray below meth c H locs 0 0 (MQ below (ow_Qi G D cA ad Q) ([.ref (ad o0), .int x1, .int x2] : List Value).toArray s 0 0 (ow_A G ad)) (F0 m 17 ls [])) (M : om_M) (x5 : Int32) (H : Heap) (locs : List Loc) (ls : Array Slot), wp_M_ahead_17b F o0 x1 x2 Q x3 x4 K5 K17 M x5 → ow_B G D cA ad (ow_A G ad) M s s.heap H locs → lv_has ls 6 [(0, .ref (ad o0)), (1, .int x1), (2, .int x2), (3, .int x3), (4, .int x4), (5, .int x5)] → W p l e rm_M_ahead s m ([.ref (ad o0), .int x1, .int x2] : List Value).toArray below meth c H locs 0 0 (MQ below (ow_Qi G D cA ad Q) ([.ref (ad o0), .int x1, .int x2] : List Value).toArray s 0 0 (ow_A G ad)) (F0 m 17 ls []) := by
    intro x3 x4 K5 hK5 K17 hK17 M x5 H locs ls h hB hl
    refine lv_iload_n hx hb dc_M_ahead_17 rfl (lv_at hl 2 rfl) ?_
    refine lv_aload_n hx hb dc_M_ahead_18 rfl (lv_at hl 0 rfl) ?_
    refine ow_get hx hb hts iw_M hown hB k0 rfl 10 (by decide) mw_807 rfl dc_M_ahead_19 ?_
    refine lv_bipush (v := 7) hx hb dc_M_ahead_22 rfl ?_
    refine lv_iload hx hb dc_M_ahead_24 (lv_at hl 4 rfl) ?_
    refine lv_imul hx hb dc_M_ahead_26 ?_
    refine lv_iload hx hb dc_M_ahead_27 (lv_at hl 5 rfl) ?_
    refine lv_iadd hx hb dc_M_ahead_29 ?_
    obtain ⟨hi3, h⟩ := h
    refine ow_iald hx hb hB (ly_M_places hG k0) hi3 dc_M_ahead_30 ?_
    refine lv_ishr hx hb dc_M_ahead_31 ?_
    refine lv_iconst (v := 1) hx hb dc_M_ahead_32 rfl ?_
    refine lv_iand hx hb dc_M_ahead_33 ?_
    obtain ⟨h1, h2⟩ := h
    refine lv_if_ne hx hb dc_M_ahead_34 rfl (fun hc => ?_) (fun hc => ?_)
    · have h := h2 hc
      exact L43 K5 hK5 _ _ _ _ _ _ _ h hB (lv_sub hl [0, 1, 2, 3, 4, 5] rfl)
    · have h := h1 hc
      refine lv_iinc hx hb dc_M_ahead_37 hl (k := 5) rfl rfl (by decide) rfl (fun ls hl => ?_)
      refine lv_goto hx hb dc_M_ahead_40 rfl ?_
      exact hK17 _ _ _ _ _ h hB (lv_sub hl [1, 2, 3, 4, 5, 0] rfl)
  have L17 : ∀ (x3 : Int32) (x4 : Int32) (K5 : om_M × Int32 × Int32 → Prop) (hK5 : ∀ (M : om_M) (x3 : Int32) (x4 : Int32) (H : Heap) (locs : List Loc) (ls : Array Slot), K5 (M, x3, x4) → ow_B G D cA ad (ow_A G ad) M s s.heap H locs → lv_has ls 6 [(0, .ref (ad o0)), (1, .int x1), (2, .int x2), (3, .int x3), (4, .int x4)] → W p l e rm_M_ahead s m ([.ref (ad o0), .int x1, .int x2] : List Value).toArray below meth c H locs 0 0 (MQ below (ow_Qi G D cA ad Q) ([.ref (ad o0), .int x1, .int x2] : List Value).toArray s 0 0 (ow_A G ad)) (F0 m 5 ls [])) (M : om_M) (x5 : Int32) (H : Heap) (locs : List Loc) (ls : Array Slot), wp_M_ahead_17 F o0 x1 x2 Q x3 x4 K5 M x5 → ow_B G D cA ad (ow_A G ad) M s s.heap H locs → lv_has ls 6 [(0, .ref (ad o0)), (1, .int x1), (2, .int x2), (3, .int x3), (4, .int x4), (5, .int x5)] → W p l e rm_M_ahead s m ([.ref (ad o0), .int x1, .int x2] : List Value).toArray below meth c H locs 0 0 (MQ below (ow_Qi G D cA ad Q) ([.ref (ad o0), .int x1, .int x2] : List Value).toArray s 0 0 (ow_A G ad)) (F0 m 17 ls []) := by
    intro x3 x4 K5 hK5
    have step : ∀ (k : Nat) (M : om_M) (x5 : Int32) (H : Heap) (locs : List Loc) (ls : Array Slot), ow_lp (fun (z : om_M × Int32) K => wp_M_ahead_17b F o0 x1 x2 Q x3 x4 K5 K z.1 z.2) k (M, x5) → ow_B G D cA ad (ow_A G ad) M s s.heap H locs → lv_has ls 6 [(0, .ref (ad o0)), (1, .int x1), (2, .int x2), (3, .int x3), (4, .int x4), (5, .int x5)] → W p l e rm_M_ahead s m ([.ref (ad o0), .int x1, .int x2] : List Value).toArray below meth c H locs 0 0 (MQ below (ow_Qi G D cA ad Q) ([.ref (ad o0), .int x1, .int x2] : List Value).toArray s 0 0 (ow_A G ad)) (F0 m 17 ls []) := by
      intro k
      induction k with
      | zero => intro M x5 H locs ls h hB hl; exact False.elim h
      | succ k ih => intro M x5 H locs ls h hB hl; exact B17 x3 x4 K5 hK5 (ow_lp _ k) (fun M x5 H locs ls h hB  hl => ih M x5  H locs ls h hB hl) M x5 H locs ls h hB hl
    intro M x5 H locs ls h hB hl
    exact step F M x5 H locs ls h hB hl
  have B5 : ∀   (K5 : om_M × Int32 × Int32 → Prop) (hK5 : ∀ (M : om_M) (x3 : Int32) (x4 : Int32) (H : Heap) (locs : List Loc) (ls : Array Slot), K5 (M, x3, x4) → ow_B G D cA ad (ow_A G ad) M s s.heap H locs → lv_has ls 6 [(0, .ref (ad o0)), (1, .int x1), (2, .int x2), (3, .int x3), (4, .int x4)] → W p l e rm_M_ahead s m ([.ref (ad o0), .int x1, .int x2] : List Value).toArray below meth c H locs 0 0 (MQ below (ow_Qi G D cA ad Q) ([.ref (ad o0), .int x1, .int x2] : List Value).toArray s 0 0 (ow_A G ad)) (F0 m 5 ls [])) (M : om_M) (x3 : Int32) (x4 : Int32) (H : Heap) (locs : List Loc) (ls : Array Slot), wp_M_ahead_5b F o0 x1 x2 Q   K5 M x3 x4 → ow_B G D cA ad (ow_A G ad) M s s.heap H locs → lv_has ls 6 [(0, .ref (ad o0)), (1, .int x1), (2, .int x2), (3, .int x3), (4, .int x4)] → W p l e rm_M_ahead s m ([.ref (ad o0), .int x1, .int x2] : List Value).toArray below meth c H locs 0 0 (MQ below (ow_Qi G D cA ad Q) ([.ref (ad o0), .int x1, .int x2] : List Value).toArray s 0 0 (ow_A G ad)) (F0 m 5 ls []) := by
    intro   K5 hK5 M x3 x4 H locs ls h hB hl
    refine lv_iload hx hb dc_M_ahead_5 (lv_at hl 4 rfl) ?_
    refine lv_aload_n hx hb dc_M_ahead_7 rfl (lv_at hl 0 rfl) ?_
    refine ow_get hx hb hts iw_M hown hB k0 rfl 9 (by decide) mw_806 rfl dc_M_ahead_8 ?_
    obtain ⟨h1, h2⟩ := h
    refine lv_icmp_ge hx hb dc_M_ahead_11 rfl (fun hc => ?_) (fun hc => ?_)
    · have h := h1 hc
      refine lv_iload_n hx hb dc_M_ahead_80 rfl (lv_at hl 3 rfl) ?_
      exact ow_iret hx hb hr hlocks hB h dc_M_ahead_81
    · have h := h2 hc
      refine lv_iconst (v := 0) hx hb dc_M_ahead_14 rfl ?_
      refine lv_istore hx hb dc_M_ahead_15 hl (by decide) rfl (fun ls hl => ?_)
      exact L17 _ _ K5 hK5 _ _ _ _ _ h hB (lv_sub hl [1, 2, 3, 4, 5, 0] rfl)
  have L5 : ∀   (M : om_M) (x3 : Int32) (x4 : Int32) (H : Heap) (locs : List Loc) (ls : Array Slot), wp_M_ahead_5 F o0 x1 x2 Q   M x3 x4 → ow_B G D cA ad (ow_A G ad) M s s.heap H locs → lv_has ls 6 [(0, .ref (ad o0)), (1, .int x1), (2, .int x2), (3, .int x3), (4, .int x4)] → W p l e rm_M_ahead s m ([.ref (ad o0), .int x1, .int x2] : List Value).toArray below meth c H locs 0 0 (MQ below (ow_Qi G D cA ad Q) ([.ref (ad o0), .int x1, .int x2] : List Value).toArray s 0 0 (ow_A G ad)) (F0 m 5 ls []) := by
    have step : ∀ (k : Nat) (M : om_M) (x3 : Int32) (x4 : Int32) (H : Heap) (locs : List Loc) (ls : Array Slot), ow_lp (fun (z : om_M × Int32 × Int32) K => wp_M_ahead_5b F o0 x1 x2 Q   K z.1 z.2.1 z.2.2) k (M, x3, x4) → ow_B G D cA ad (ow_A G ad) M s s.heap H locs → lv_has ls 6 [(0, .ref (ad o0)), (1, .int x1), (2, .int x2), (3, .int x3), (4, .int x4)] → W p l e rm_M_ahead s m ([.ref (ad o0), .int x1, .int x2] : List Value).toArray below meth c H locs 0 0 (MQ below (ow_Qi G D cA ad Q) ([.ref (ad o0), .int x1, .int x2] : List Value).toArray s 0 0 (ow_A G ad)) (F0 m 5 ls []) := by
      intro k
      induction k with
      | zero => intro M x3 x4 H locs ls h hB hl; exact False.elim h
      | succ k ih => intro M x3 x4 H locs ls h hB hl; exact B5   (ow_lp _ k) (fun M x3 x4 H locs ls h hB  hl => ih M x3 x4  H locs ls h hB hl) M x3 x4 H locs ls h hB hl
    intro M x3 x4 H locs ls h hB hl
    exact step F M x3 x4 H locs ls h hB hl
  have hl := lv_entry ([.ref (ad o0), .int x1, .int x2]) (n := 6) (Nat.le_of_ble_eq_true rfl)
  rw [lg_entry_eq]
  generalize (lg_sl ([.ref (ad o0), .int x1, .int x2]) ++ List.replicate (6 - (lg_sl ([.ref (ad o0), .int x1, .int x2])).length) Slot.unset).toArray = ls at hl ⊢
  have hl : lv_has ls 6 [(0, .ref (ad o0)), (1, .int x1), (2, .int x2)] := hl
  show W p l e rm_M_ahead s m _ below meth c s.heap [] 0 0 _ _
  refine lv_iconst (v := 0) hx hb dc_M_ahead_0 rfl ?_
  refine lv_istore_n hx hb dc_M_ahead_1 rfl hl (by decide) rfl (fun ls hl => ?_)
  refine lv_iconst (v := 0) hx hb dc_M_ahead_2 rfl ?_
  refine lv_istore hx hb dc_M_ahead_3 hl (by decide) rfl (fun ls hl => ?_)
  exact L5 _ _ _ _ _ _ h hB (lv_sub hl [2, 3, 4, 1, 0] rfl)
abbrev rm_M_all : Room := { frames := 0, cells := 0, slots := 0, locals := 0 }
theorem hd_M_all : yn_M_all.cls ≠ "java/lang/invoke/MethodHandle" ∧ yn_M_all.cls ≠ "java/lang/invoke/VarHandle" ∧ (parseMethodDescriptor yn_M_all.desc).map (fun d => d.parameters.length) = some 0 := by decide +kernel
set_option maxHeartbeats 4000000 in
set_option maxRecDepth 100000 in
theorem ct_M_all (l : Launch) (G : List (Nat × Nat)) (hG : ow_lay G) (D : va_G) (cA : Nat → ClassId) (ad : Nat → Nat) (F : Nat) (o0 : Nat) (k0 : ow_kd G o0 = (3, 9)) (M : om_M) (Q : Int32 → om_M → Prop) (h : wp_M_all F o0 M Q) : Met l yn_M_all (ow_ws yn_M_all cb_M_all 1 (some .int)) rm_M_all (ow_Pc G D cA ad M [.ref (ad o0)]) (ow_Qi G D cA ad Q) 0 0 (ow_A G ad) := by
  refine Met.ofW (cc := cb_M_all) (maxL := 1) (ret := (some .int)) (by decide) rfl ?_
  intro p e s m args below meth c s₁ B hml hv
  obtain ⟨rfl, hB⟩ := hv
  have hx := B.exec
  have hb := B.bytes
  have hr := B.returns
  have hlocks := B.notSynchronized
  have hts : ∀ w ∈ lw_g, w.before ([.ref (ad o0)] : List Value).toArray s = true := fun w h => atoms_spec (ws := ow_ws yn_M_all cb_M_all 1 (some .int)) B.pre w (List.mem_cons_of_mem _ h)
  have hown : s.vm.findClass "BallotDeskModel" = some m.cls := findClass_of_methodNamed B.named
  clear B
  have hl := lv_entry ([.ref (ad o0)]) (n := 1) (Nat.le_of_ble_eq_true rfl)
  rw [lg_entry_eq]
  generalize (lg_sl ([.ref (ad o0)]) ++ List.replicate (1 - (lg_sl ([.ref (ad o0)])).length) Slot.unset).toArray = ls at hl ⊢
  have hl : lv_has ls 1 [(0, .ref (ad o0))] := hl
  show W p l e rm_M_all s m _ below meth c s.heap [] 0 0 _ _
  refine lv_iconst (v := 1) hx hb dc_M_all_0 rfl ?_
  refine lv_aload_n hx hb dc_M_all_1 rfl (lv_at hl 0 rfl) ?_
  refine ow_get hx hb hts iw_M hown hB k0 rfl 8 (by decide) mw_805 rfl dc_M_all_2 ?_
  refine lv_ishl hx hb dc_M_all_5 ?_
  refine lv_iconst (v := 1) hx hb dc_M_all_6 rfl ?_
  refine lv_isub hx hb dc_M_all_7 ?_
  exact ow_iret hx hb hr hlocks hB h dc_M_all_8
abbrev rm_M_scored : Room := { frames := 1, cells := 0, slots := 0, locals := 25 }
theorem hd_M_scored : yn_M_scored.cls ≠ "java/lang/invoke/MethodHandle" ∧ yn_M_scored.cls ≠ "java/lang/invoke/VarHandle" ∧ (parseMethodDescriptor yn_M_scored.desc).map (fun d => d.parameters.length) = some 2 := by decide +kernel
set_option maxHeartbeats 4000000 in
set_option maxRecDepth 100000 in
theorem ct_M_scored (l : Launch) (G : List (Nat × Nat)) (hG : ow_lay G) (D : va_G) (cA : Nat → ClassId) (ad : Nat → Nat) (F : Nat) (o0 : Nat) (k0 : ow_kd G o0 = (3, 9)) (x1 : Int32) (x2 : Int32) (M : om_M) (Q : Int64 → om_M → Prop) (h : wp_M_scored F o0 x1 x2 M Q) : Met l yn_M_scored (ow_ws yn_M_scored cb_M_scored 7 (some .long)) rm_M_scored (ow_Pc G D cA ad M [.ref (ad o0), .int x1, .int x2]) (ow_Ql G D cA ad Q) 0 0 (ow_A G ad) := by
  refine Met.ofW (cc := cb_M_scored) (maxL := 7) (ret := (some .long)) (by decide) rfl ?_
  intro p e s m args below meth c s₁ B hml hv
  obtain ⟨rfl, hB⟩ := hv
  have hx := B.exec
  have hb := B.bytes
  have hr := B.returns
  have hlocks := B.notSynchronized
  have hts : ∀ w ∈ lw_g, w.before ([.ref (ad o0), .int x1, .int x2] : List Value).toArray s = true := fun w h => atoms_spec (ws := ow_ws yn_M_scored cb_M_scored 7 (some .long)) B.pre w (List.mem_cons_of_mem _ h)
  have hown : s.vm.findClass "BallotDeskModel" = some m.cls := findClass_of_methodNamed B.named
  clear B
  have L222 : ∀  (K103 : om_M × Int64 × Int32 → Prop) (hK103 : ∀ (M : om_M) (j3 : Int64) (x5 : Int32) (H : Heap) (locs : List Loc) (ls : Array Slot), K103 (M, j3, x5) → ow_B G D cA ad (ow_A G ad) M s s.heap H locs → lv_has ls 7 [(0, .ref (ad o0)), (1, .int x1), (2, .int x2), (3, .long j3), (5, .int x5)] → W p l e rm_M_scored s m ([.ref (ad o0), .int x1, .int x2] : List Value).toArray below meth c H locs 0 0 (MQ below (ow_Ql G D cA ad Q) ([.ref (ad o0), .int x1, .int x2] : List Value).toArray s 0 0 (ow_A G ad)) (F0 m 103 ls [])) (M : om_M) (j3 : Int64) (x5 : Int32)  (H : Heap) (locs : List Loc) (ls : Array Slot), wp_M_scored_222 F o0 x1 x2 Q  K103 M j3 x5  → ow_B G D cA ad (ow_A G ad) M s s.heap H locs → lv_has ls 7 [(0, .ref (ad o0)), (1, .int x1), (2, .int x2), (3, .long j3), (5, .int x5)] → W p l e rm_M_scored s m ([.ref (ad o0), .int x1, .int x2] : List Value).toArray below meth c H locs 0 0 (MQ below (ow_Ql G D cA ad Q) ([.ref (ad o0), .int x1, .int x2] : List Value).toArray s 0 0 (ow_A G ad)) (F0 m 222 ls []) := by
    intro  K103 hK103 M j3 x5 H locs ls h hB hl
    refine lv_iinc hx hb dc_M_scored_222 hl (k := 4) rfl rfl (by decide) rfl (fun ls hl => ?_)
    refine lv_goto hx hb dc_M_scored_225 rfl ?_
    exact hK103 _ _ _ _ _ _ h hB (lv_sub hl [1, 2, 3, 4, 0] rfl)
  have L221 : ∀  (K103 : om_M × Int64 × Int32 → Prop) (hK103 : ∀ (M : om_M) (j3 : Int64) (x5 : Int32) (H : Heap) (locs : List Loc) (ls : Array Slot), K103 (M, j3, x5) → ow_B G D cA ad (ow_A G ad) M s s.heap H locs → lv_has ls 7 [(0, .ref (ad o0)), (1, .int x1), (2, .int x2), (3, .long j3), (5, .int x5)] → W p l e rm_M_scored s m ([.ref (ad o0), .int x1, .int x2] : List Value).toArray below meth c H locs 0 0 (MQ below (ow_Ql G D cA ad Q) ([.ref (ad o0), .int x1, .int x2] : List Value).toArray s 0 0 (ow_A G ad)) (F0 m 103 ls [])) (M : om_M) (x5 : Int32) (t0 : Int64) (H : Heap) (locs : List Loc) (ls : Array Slot), wp_M_scored_221 F o0 x1 x2 Q  K103 M x5 t0 → ow_B G D cA ad (ow_A G ad) M s s.heap H locs → lv_has ls 7 [(0, .ref (ad o0)), (1, .int x1), (2, .int x2), (5, .int x5)] → W p l e rm_M_scored s m ([.ref (ad o0), .int x1, .int x2] : List Value).toArray below meth c H locs 0 0 (MQ below (ow_Ql G D cA ad Q) ([.ref (ad o0), .int x1, .int x2] : List Value).toArray s 0 0 (ow_A G ad)) (F0 m 221 ls [.long t0]) := by
    intro  K103 hK103 M x5 t0 H locs ls h hB hl
    refine lv_lstore_n hx hb dc_M_scored_221 rfl hl (by decide) rfl (fun ls hl => ?_)
    exact L222 K103 hK103 _ _ _ _ _ _ h hB (lv_sub hl [1, 2, 3, 0, 4] rfl)
  have L174 : ∀  (K103 : om_M × Int64 × Int32 → Prop) (hK103 : ∀ (M : om_M) (j3 : Int64) (x5 : Int32) (H : Heap) (locs : List Loc) (ls : Array Slot), K103 (M, j3, x5) → ow_B G D cA ad (ow_A G ad) M s s.heap H locs → lv_has ls 7 [(0, .ref (ad o0)), (1, .int x1), (2, .int x2), (3, .long j3), (5, .int x5)] → W p l e rm_M_scored s m ([.ref (ad o0), .int x1, .int x2] : List Value).toArray below meth c H locs 0 0 (MQ below (ow_Ql G D cA ad Q) ([.ref (ad o0), .int x1, .int x2] : List Value).toArray s 0 0 (ow_A G ad)) (F0 m 103 ls [])) (M : om_M) (j3 : Int64) (x5 : Int32)  (H : Heap) (locs : List Loc) (ls : Array Slot), wp_M_scored_174 F o0 x1 x2 Q  K103 M j3 x5  → ow_B G D cA ad (ow_A G ad) M s s.heap H locs → lv_has ls 7 [(0, .ref (ad o0)), (1, .int x1), (2, .int x2), (3, .long j3), (5, .int x5)] → W p l e rm_M_scored s m ([.ref (ad o0), .int x1, .int x2] : List Value).toArray below meth c H locs 0 0 (MQ below (ow_Ql G D cA ad Q) ([.ref (ad o0), .int x1, .int x2] : List Value).toArray s 0 0 (ow_A G ad)) (F0 m 174 ls []) := by
    intro  K103 hK103 M j3 x5 H locs ls h hB hl
    refine lv_iload_n hx hb dc_M_scored_174 rfl (lv_at hl 1 rfl) ?_
    refine lv_bipush (v := 6) hx hb dc_M_scored_175 rfl ?_
    obtain ⟨h1, h2⟩ := h
    refine lv_icmp_ne hx hb dc_M_scored_177 rfl (fun hc => ?_) (fun hc => ?_)
    · have h := h2 hc
      exact L222 K103 hK103 _ _ _ _ _ _ h hB (lv_sub hl [0, 1, 2, 3, 4] rfl)
    · have h := h1 hc
      refine lv_iload hx hb dc_M_scored_180 (lv_at hl 4 rfl) ?_
      refine lv_iload_n hx hb dc_M_scored_182 rfl (lv_at hl 2 rfl) ?_
      obtain ⟨h1, h2⟩ := h
      refine lv_icmp_eq hx hb dc_M_scored_183 rfl (fun hc => ?_) (fun hc => ?_)
      · have h := h1 hc
        exact L222 K103 hK103 _ _ _ _ _ _ h hB (lv_sub hl [0, 1, 2, 3, 4] rfl)
      · have h := h2 hc
        refine lv_aload_n hx hb dc_M_scored_186 rfl (lv_at hl 0 rfl) ?_
        refine lv_iload_n hx hb dc_M_scored_187 rfl (lv_at hl 2 rfl) ?_
        refine lv_iload hx hb dc_M_scored_188 (lv_at hl 4 rfl) ?_
        refine ow_calli (va_runV (As := [.int x2, .int x5]) (rest := []) ⟨hx, hb, hml, hown, hts⟩ (ct_M_beats l G hG D cA ad F _ k0 _ _ _ _ h) ⟨ow_cb 2 hts mw_969 mw_12 mw_966 rfl rfl hd_M_beats ⟨Nat.le_of_ble_eq_true rfl, Nat.le_of_ble_eq_true rfl⟩, hts _ mw_968, hts _ ms_31⟩ (ow_preV hB k0 rfl) rfl rfl hl.1 rfl (lv_room (Nat.le_of_ble_eq_true rfl)) dc_M_scored_190 ⟨Nat.zero_le _, Nat.zero_le _⟩) hB (fun r2 M1 H locs h hB => ?_)
        obtain ⟨h1, h2⟩ := h
        refine lv_if_eq hx hb dc_M_scored_193 rfl (fun hc => ?_) (fun hc => ?_)
        · have h := h1 hc
          refine lv_aload_n hx hb dc_M_scored_204 rfl (lv_at hl 0 rfl) ?_
          refine lv_iload hx hb dc_M_scored_205 (lv_at hl 4 rfl) ?_
          refine lv_iload_n hx hb dc_M_scored_207 rfl (lv_at hl 2 rfl) ?_
          refine ow_calli (va_runV (As := [.int x5, .int x2]) (rest := []) ⟨hx, hb, hml, hown, hts⟩ (ct_M_beats l G hG D cA ad F _ k0 _ _ _ _ h) ⟨ow_cb 2 hts mw_969 mw_12 mw_966 rfl rfl hd_M_beats ⟨Nat.le_of_ble_eq_true rfl, Nat.le_of_ble_eq_true rfl⟩, hts _ mw_968, hts _ ms_31⟩ (ow_preV hB k0 rfl) rfl rfl hl.1 rfl (lv_room (Nat.le_of_ble_eq_true rfl)) dc_M_scored_208 ⟨Nat.zero_le _, Nat.zero_le _⟩) hB (fun r4 M3 H locs h hB => ?_)
          obtain ⟨h1, h2⟩ := h
          refine lv_if_eq hx hb dc_M_scored_211 rfl (fun hc => ?_) (fun hc => ?_)
          · have h := h1 hc
            refine lv_lload_n hx hb dc_M_scored_218 rfl (lv_at hl 3 rfl) ?_
            refine lv_lconst (v := 1) hx hb dc_M_scored_219 rfl ?_
            refine lv_ladd hx hb dc_M_scored_220 ?_
            exact L221 K103 hK103 _ _ _ _ _ _ h hB (lv_sub hl [0, 1, 2, 4] rfl)
          · have h := h2 hc
            refine lv_lload_n hx hb dc_M_scored_214 rfl (lv_at hl 3 rfl) ?_
            refine lv_goto hx hb dc_M_scored_215 rfl ?_
            exact L221 K103 hK103 _ _ _ _ _ _ h hB (lv_sub hl [0, 1, 2, 4] rfl)
        · have h := h2 hc
          refine lv_lload_n hx hb dc_M_scored_196 rfl (lv_at hl 3 rfl) ?_
          refine lv_ldc2 hx hb hown (hts _ mw_970) dc_M_scored_197 ?_
          refine lv_ladd hx hb dc_M_scored_200 ?_
          refine lv_goto hx hb dc_M_scored_201 rfl ?_
          exact L221 K103 hK103 _ _ _ _ _ _ h hB (lv_sub hl [0, 1, 2, 4] rfl)
  have L173 : ∀  (K103 : om_M × Int64 × Int32 → Prop) (hK103 : ∀ (M : om_M) (j3 : Int64) (x5 : Int32) (H : Heap) (locs : List Loc) (ls : Array Slot), K103 (M, j3, x5) → ow_B G D cA ad (ow_A G ad) M s s.heap H locs → lv_has ls 7 [(0, .ref (ad o0)), (1, .int x1), (2, .int x2), (3, .long j3), (5, .int x5)] → W p l e rm_M_scored s m ([.ref (ad o0), .int x1, .int x2] : List Value).toArray below meth c H locs 0 0 (MQ below (ow_Ql G D cA ad Q) ([.ref (ad o0), .int x1, .int x2] : List Value).toArray s 0 0 (ow_A G ad)) (F0 m 103 ls [])) (M : om_M) (x5 : Int32) (t0 : Int64) (H : Heap) (locs : List Loc) (ls : Array Slot), wp_M_scored_173 F o0 x1 x2 Q  K103 M x5 t0 → ow_B G D cA ad (ow_A G ad) M s s.heap H locs → lv_has ls 7 [(0, .ref (ad o0)), (1, .int x1), (2, .int x2), (5, .int x5)] → W p l e rm_M_scored s m ([.ref (ad o0), .int x1, .int x2] : List Value).toArray below meth c H locs 0 0 (MQ below (ow_Ql G D cA ad Q) ([.ref (ad o0), .int x1, .int x2] : List Value).toArray s 0 0 (ow_A G ad)) (F0 m 173 ls [.long t0]) := by
    intro  K103 hK103 M x5 t0 H locs ls h hB hl
    refine lv_lstore_n hx hb dc_M_scored_173 rfl hl (by decide) rfl (fun ls hl => ?_)
    exact L174 K103 hK103 _ _ _ _ _ _ h hB (lv_sub hl [1, 2, 3, 0, 4] rfl)
  have B103 : ∀   (K103 : om_M × Int64 × Int32 → Prop) (hK103 : ∀ (M : om_M) (j3 : Int64) (x5 : Int32) (H : Heap) (locs : List Loc) (ls : Array Slot), K103 (M, j3, x5) → ow_B G D cA ad (ow_A G ad) M s s.heap H locs → lv_has ls 7 [(0, .ref (ad o0)), (1, .int x1), (2, .int x2), (3, .long j3), (5, .int x5)] → W p l e rm_M_scored s m ([.ref (ad o0), .int x1, .int x2] : List Value).toArray below meth c H locs 0 0 (MQ below (ow_Ql G D cA ad Q) ([.ref (ad o0), .int x1, .int x2] : List Value).toArray s 0 0 (ow_A G ad)) (F0 m 103 ls [])) (M : om_M) (j3 : Int64) (x5 : Int32) (H : Heap) (locs : List Loc) (ls : Array Slot), wp_M_scored_103b F o0 x1 x2 Q   K103 M j3 x5 → ow_B G D cA ad (ow_A G ad) M s s.heap H locs → lv_has ls 7 [(0, .ref (ad o0)), (1, .int x1), (2, .int x2), (3, .long j3), (5, .int x5)] → W p l e rm_M_scored s m ([.ref (ad o0), .int x1, .int x2] : List Value).toArray below meth c H locs 0 0 (MQ below (ow_Ql G D cA ad Q) ([.ref (ad o0), .int x1, .int x2] : List Value).toArray s 0 0 (ow_A G ad)) (F0 m 103 ls []) := by
    intro   K103 hK103 M j3 x5 H locs ls h hB hl
    refine lv_iload hx hb dc_M_scored_103 (lv_at hl 4 rfl) ?_
    refine lv_aload_n hx hb dc_M_scored_105 rfl (lv_at hl 0 rfl) ?_
    refine ow_get hx hb hts iw_M hown hB k0 rfl 8 (by decide) mw_805 rfl dc_M_scored_106 ?_
    obtain ⟨h1, h2⟩ := h
    refine lv_icmp_ge hx hb dc_M_scored_109 rfl (fun hc => ?_) (fun hc => ?_)
    · have h := h1 hc
      refine lv_lload_n hx hb dc_M_scored_228 rfl (lv_at hl 3 rfl) ?_
      exact ow_lret hx hb hr hlocks hB h dc_M_scored_229
    · have h := h2 hc
      refine lv_iload_n hx hb dc_M_scored_112 rfl (lv_at hl 1 rfl) ?_
      refine lv_iconst (v := 5) hx hb dc_M_scored_113 rfl ?_
      obtain ⟨h1, h2⟩ := h
      refine lv_icmp_lt hx hb dc_M_scored_114 rfl (fun hc => ?_) (fun hc => ?_)
      · have h := h1 hc
        refine lv_lload_n hx hb dc_M_scored_228 rfl (lv_at hl 3 rfl) ?_
        exact ow_lret hx hb hr hlocks hB h dc_M_scored_229
      · have h := h2 hc
        refine lv_iload_n hx hb dc_M_scored_117 rfl (lv_at hl 1 rfl) ?_
        refine lv_iconst (v := 5) hx hb dc_M_scored_118 rfl ?_
        obtain ⟨h1, h2⟩ := h
        refine lv_icmp_ne hx hb dc_M_scored_119 rfl (fun hc => ?_) (fun hc => ?_)
        · have h := h2 hc
          exact L174 K103 hK103 _ _ _ _ _ _ h hB (lv_sub hl [0, 1, 2, 3, 4] rfl)
        · have h := h1 hc
          refine lv_iload hx hb dc_M_scored_122 (lv_at hl 4 rfl) ?_
          refine lv_iload_n hx hb dc_M_scored_124 rfl (lv_at hl 2 rfl) ?_
          obtain ⟨h1, h2⟩ := h
          refine lv_icmp_eq hx hb dc_M_scored_125 rfl (fun hc => ?_) (fun hc => ?_)
          · have h := h1 hc
            exact L174 K103 hK103 _ _ _ _ _ _ h hB (lv_sub hl [0, 1, 2, 3, 4] rfl)
          · have h := h2 hc
            refine lv_aload_n hx hb dc_M_scored_128 rfl (lv_at hl 0 rfl) ?_
            refine lv_iload hx hb dc_M_scored_129 (lv_at hl 4 rfl) ?_
            refine lv_iload_n hx hb dc_M_scored_131 rfl (lv_at hl 2 rfl) ?_
            refine ow_calli (va_runV (As := [.int x5, .int x2]) (rest := []) ⟨hx, hb, hml, hown, hts⟩ (ct_M_beats l G hG D cA ad F _ k0 _ _ _ _ h) ⟨ow_cb 2 hts mw_969 mw_12 mw_966 rfl rfl hd_M_beats ⟨Nat.le_of_ble_eq_true rfl, Nat.le_of_ble_eq_true rfl⟩, hts _ mw_968, hts _ ms_31⟩ (ow_preV hB k0 rfl) rfl rfl hl.1 rfl (lv_room (Nat.le_of_ble_eq_true rfl)) dc_M_scored_132 ⟨Nat.zero_le _, Nat.zero_le _⟩) hB (fun r6 M5 H locs h hB => ?_)
            obtain ⟨h1, h2⟩ := h
            refine lv_if_eq hx hb dc_M_scored_135 rfl (fun hc => ?_) (fun hc => ?_)
            · have h := h1 hc
              exact L174 K103 hK103 _ _ _ _ _ _ h hB (lv_sub hl [0, 1, 2, 3, 4] rfl)
            · have h := h2 hc
              refine lv_aload_n hx hb dc_M_scored_138 rfl (lv_at hl 0 rfl) ?_
              refine ow_get hx hb hts iw_M hown hB k0 rfl 15 (by decide) mw_812 rfl dc_M_scored_139 ?_
              refine lv_bipush (v := 7) hx hb dc_M_scored_142 rfl ?_
              refine lv_iload hx hb dc_M_scored_144 (lv_at hl 4 rfl) ?_
              refine lv_imul hx hb dc_M_scored_146 ?_
              refine lv_iload_n hx hb dc_M_scored_147 rfl (lv_at hl 2 rfl) ?_
              refine lv_iadd hx hb dc_M_scored_148 ?_
              obtain ⟨hi7, h⟩ := h
              refine ow_iald hx hb hB (ly_M_pairs hG k0) hi7 dc_M_scored_149 ?_
              refine lv_i2l hx hb dc_M_scored_150 rfl ?_
              refine lv_lload_n hx hb dc_M_scored_151 rfl (lv_at hl 3 rfl) ?_
              obtain ⟨h1, h2⟩ := h
              refine ow_lcmp_le hx hb dc_M_scored_152 dc_M_scored_153 rfl (fun hc => ?_) (fun hc => ?_)
              · have h := h2 hc
                refine lv_lload_n hx hb dc_M_scored_172 rfl (lv_at hl 3 rfl) ?_
                exact L173 K103 hK103 _ _ _ _ _ _ h hB (lv_sub hl [0, 1, 2, 4] rfl)
              · have h := h1 hc
                refine lv_aload_n hx hb dc_M_scored_156 rfl (lv_at hl 0 rfl) ?_
                refine ow_get hx hb hts iw_M hown hB k0 rfl 15 (by decide) mw_812 rfl dc_M_scored_157 ?_
                refine lv_bipush (v := 7) hx hb dc_M_scored_160 rfl ?_
                refine lv_iload hx hb dc_M_scored_162 (lv_at hl 4 rfl) ?_
                refine lv_imul hx hb dc_M_scored_164 ?_
                refine lv_iload_n hx hb dc_M_scored_165 rfl (lv_at hl 2 rfl) ?_
                refine lv_iadd hx hb dc_M_scored_166 ?_
                refine ow_iald hx hb hB (ly_M_pairs hG k0) hi7 dc_M_scored_167 ?_
                refine lv_i2l hx hb dc_M_scored_168 rfl ?_
                refine lv_goto hx hb dc_M_scored_169 rfl ?_
                exact L173 K103 hK103 _ _ _ _ _ _ h hB (lv_sub hl [0, 1, 2, 4] rfl)
  have L103 : ∀   (M : om_M) (j3 : Int64) (x5 : Int32) (H : Heap) (locs : List Loc) (ls : Array Slot), wp_M_scored_103 F o0 x1 x2 Q   M j3 x5 → ow_B G D cA ad (ow_A G ad) M s s.heap H locs → lv_has ls 7 [(0, .ref (ad o0)), (1, .int x1), (2, .int x2), (3, .long j3), (5, .int x5)] → W p l e rm_M_scored s m ([.ref (ad o0), .int x1, .int x2] : List Value).toArray below meth c H locs 0 0 (MQ below (ow_Ql G D cA ad Q) ([.ref (ad o0), .int x1, .int x2] : List Value).toArray s 0 0 (ow_A G ad)) (F0 m 103 ls []) := by
    have step : ∀ (k : Nat) (M : om_M) (j3 : Int64) (x5 : Int32) (H : Heap) (locs : List Loc) (ls : Array Slot), ow_lp (fun (z : om_M × Int64 × Int32) K => wp_M_scored_103b F o0 x1 x2 Q   K z.1 z.2.1 z.2.2) k (M, j3, x5) → ow_B G D cA ad (ow_A G ad) M s s.heap H locs → lv_has ls 7 [(0, .ref (ad o0)), (1, .int x1), (2, .int x2), (3, .long j3), (5, .int x5)] → W p l e rm_M_scored s m ([.ref (ad o0), .int x1, .int x2] : List Value).toArray below meth c H locs 0 0 (MQ below (ow_Ql G D cA ad Q) ([.ref (ad o0), .int x1, .int x2] : List Value).toArray s 0 0 (ow_A G ad)) (F0 m 103 ls []) := by
      intro k
      induction k with
      | zero => intro M j3 x5 H locs ls h hB hl; exact False.elim h
      | succ k ih => intro M j3 x5 H locs ls h hB hl; exact B103   (ow_lp _ k) (fun M j3 x5 H locs ls h hB  hl => ih M j3 x5  H locs ls h hB hl) M j3 x5 H locs ls h hB hl
    intro M j3 x5 H locs ls h hB hl
    exact step F M j3 x5 H locs ls h hB hl
  have L100 : ∀   (M : om_M) (j3 : Int64)  (H : Heap) (locs : List Loc) (ls : Array Slot), wp_M_scored_100 F o0 x1 x2 Q   M j3  → ow_B G D cA ad (ow_A G ad) M s s.heap H locs → lv_has ls 7 [(0, .ref (ad o0)), (1, .int x1), (2, .int x2), (3, .long j3)] → W p l e rm_M_scored s m ([.ref (ad o0), .int x1, .int x2] : List Value).toArray below meth c H locs 0 0 (MQ below (ow_Ql G D cA ad Q) ([.ref (ad o0), .int x1, .int x2] : List Value).toArray s 0 0 (ow_A G ad)) (F0 m 100 ls []) := by
    intro   M j3 H locs ls h hB hl
    refine lv_iconst (v := 0) hx hb dc_M_scored_100 rfl ?_
    refine lv_istore hx hb dc_M_scored_101 hl (by decide) rfl (fun ls hl => ?_)
    exact L103 _ _ _ _ _ _ h hB (lv_sub hl [1, 2, 3, 4, 0] rfl)
  have L92 : ∀  (K20 : om_M × Int64 × Int32 → Prop) (hK20 : ∀ (M : om_M) (j3 : Int64) (x5 : Int32) (H : Heap) (locs : List Loc) (ls : Array Slot), K20 (M, j3, x5) → ow_B G D cA ad (ow_A G ad) M s s.heap H locs → lv_has ls 7 [(0, .ref (ad o0)), (1, .int x1), (2, .int x2), (3, .long j3), (5, .int x5)] → W p l e rm_M_scored s m ([.ref (ad o0), .int x1, .int x2] : List Value).toArray below meth c H locs 0 0 (MQ below (ow_Ql G D cA ad Q) ([.ref (ad o0), .int x1, .int x2] : List Value).toArray s 0 0 (ow_A G ad)) (F0 m 20 ls [])) (M : om_M) (x5 : Int32) (t0 : Int64) (t1 : Int64) (H : Heap) (locs : List Loc) (ls : Array Slot), wp_M_scored_92 F o0 x1 x2 Q  K20 M x5 t0 t1 → ow_B G D cA ad (ow_A G ad) M s s.heap H locs → lv_has ls 7 [(0, .ref (ad o0)), (1, .int x1), (2, .int x2), (5, .int x5)] → W p l e rm_M_scored s m ([.ref (ad o0), .int x1, .int x2] : List Value).toArray below meth c H locs 0 0 (MQ below (ow_Ql G D cA ad Q) ([.ref (ad o0), .int x1, .int x2] : List Value).toArray s 0 0 (ow_A G ad)) (F0 m 92 ls [.long t1, .long t0]) := by
    intro  K20 hK20 M x5 t0 t1 H locs ls h hB hl
    refine lv_ladd hx hb dc_M_scored_92 ?_
    refine lv_lstore_n hx hb dc_M_scored_93 rfl hl (by decide) rfl (fun ls hl => ?_)
    refine lv_iinc hx hb dc_M_scored_94 hl (k := 4) rfl rfl (by decide) rfl (fun ls hl => ?_)
    refine lv_goto hx hb dc_M_scored_97 rfl ?_
    exact hK20 _ _ _ _ _ _ h hB (lv_sub hl [2, 3, 4, 1, 0] rfl)
  have B20 : ∀   (K20 : om_M × Int64 × Int32 → Prop) (hK20 : ∀ (M : om_M) (j3 : Int64) (x5 : Int32) (H : Heap) (locs : List Loc) (ls : Array Slot), K20 (M, j3, x5) → ow_B G D cA ad (ow_A G ad) M s s.heap H locs → lv_has ls 7 [(0, .ref (ad o0)), (1, .int x1), (2, .int x2), (3, .long j3), (5, .int x5)] → W p l e rm_M_scored s m ([.ref (ad o0), .int x1, .int x2] : List Value).toArray below meth c H locs 0 0 (MQ below (ow_Ql G D cA ad Q) ([.ref (ad o0), .int x1, .int x2] : List Value).toArray s 0 0 (ow_A G ad)) (F0 m 20 ls [])) (M : om_M) (j3 : Int64) (x5 : Int32) (H : Heap) (locs : List Loc) (ls : Array Slot), wp_M_scored_20b F o0 x1 x2 Q   K20 M j3 x5 → ow_B G D cA ad (ow_A G ad) M s s.heap H locs → lv_has ls 7 [(0, .ref (ad o0)), (1, .int x1), (2, .int x2), (3, .long j3), (5, .int x5)] → W p l e rm_M_scored s m ([.ref (ad o0), .int x1, .int x2] : List Value).toArray below meth c H locs 0 0 (MQ below (ow_Ql G D cA ad Q) ([.ref (ad o0), .int x1, .int x2] : List Value).toArray s 0 0 (ow_A G ad)) (F0 m 20 ls []) := by
    intro   K20 hK20 M j3 x5 H locs ls h hB hl
    refine lv_iload hx hb dc_M_scored_20 (lv_at hl 4 rfl) ?_
    refine lv_aload_n hx hb dc_M_scored_22 rfl (lv_at hl 0 rfl) ?_
    refine ow_get hx hb hts iw_M hown hB k0 rfl 9 (by decide) mw_806 rfl dc_M_scored_23 ?_
    obtain ⟨h1, h2⟩ := h
    refine lv_icmp_ge hx hb dc_M_scored_26 rfl (fun hc => ?_) (fun hc => ?_)
    · have h := h1 hc
      exact L100 _ _ _ _ _ h hB (lv_sub hl [0, 1, 2, 3] rfl)
    · have h := h2 hc
      refine lv_iload_n hx hb dc_M_scored_29 rfl (lv_at hl 1 rfl) ?_
      refine lv_iconst (v := 3) hx hb dc_M_scored_30 rfl ?_
      obtain ⟨h1, h2⟩ := h
      refine lv_icmp_ge hx hb dc_M_scored_31 rfl (fun hc => ?_) (fun hc => ?_)
      · have h := h1 hc
        exact L100 _ _ _ _ _ h hB (lv_sub hl [0, 1, 2, 3] rfl)
      · have h := h2 hc
        refine lv_aload_n hx hb dc_M_scored_34 rfl (lv_at hl 0 rfl) ?_
        refine lv_iload hx hb dc_M_scored_35 (lv_at hl 4 rfl) ?_
        refine lv_iload_n hx hb dc_M_scored_37 rfl (lv_at hl 2 rfl) ?_
        refine ow_calli (va_runV (As := [.int x5, .int x2]) (rest := []) ⟨hx, hb, hml, hown, hts⟩ (ct_M_placeOf l G hG D cA ad F _ k0 _ _ _ _ h) ⟨ow_cb 2 hts mw_965 mw_12 mw_962 rfl rfl hd_M_placeOf ⟨Nat.le_of_ble_eq_true rfl, Nat.le_of_ble_eq_true rfl⟩, hts _ mw_964, hts _ ms_30⟩ (ow_preV hB k0 rfl) rfl rfl hl.1 rfl (lv_room (Nat.le_of_ble_eq_true rfl)) dc_M_scored_38 ⟨Nat.zero_le _, Nat.zero_le _⟩) hB (fun r9 M8 H locs h hB => ?_)
        refine lv_istore hx hb dc_M_scored_41 hl (by decide) rfl (fun ls hl => ?_)
        refine lv_lload_n hx hb dc_M_scored_43 rfl (lv_at hl 4 rfl) ?_
        refine lv_iload_n hx hb dc_M_scored_44 rfl (lv_at hl 2 rfl) ?_
        refine lv_iconst (v := 1) hx hb dc_M_scored_45 rfl ?_
        obtain ⟨h1, h2⟩ := h
        refine lv_icmp_ne hx hb dc_M_scored_46 rfl (fun hc => ?_) (fun hc => ?_)
        · have h := h2 hc
          refine lv_aload_n hx hb dc_M_scored_75 rfl (lv_at hl 1 rfl) ?_
          refine ow_get hx hb hts iw_M hown hB k0 rfl 14 (by decide) mw_811 rfl dc_M_scored_76 ?_
          refine lv_iload hx hb dc_M_scored_79 (lv_at hl 0 rfl) ?_
          obtain ⟨hi10, h⟩ := h
          refine ow_iald hx hb hB (ly_M_weight hG k0) hi10 dc_M_scored_81 ?_
          refine lv_i2l hx hb dc_M_scored_82 rfl ?_
          refine lv_aload_n hx hb dc_M_scored_83 rfl (lv_at hl 1 rfl) ?_
          refine ow_get hx hb hts iw_M hown hB k0 rfl 11 (by decide) mw_808 rfl dc_M_scored_84 ?_
          refine lv_iload hx hb dc_M_scored_87 (lv_at hl 5 rfl) ?_
          obtain ⟨hi11, h⟩ := h
          refine ow_iald hx hb hB (ly_M_voters hG k0) hi11 dc_M_scored_89 ?_
          refine lv_i2l hx hb dc_M_scored_90 rfl ?_
          refine lv_lmul hx hb dc_M_scored_91 ?_
          exact L92 K20 hK20 _ _ _ _ _ _ _ h hB (lv_sub hl [1, 2, 3, 5] rfl)
        · have h := h1 hc
          refine lv_iload hx hb dc_M_scored_49 (lv_at hl 0 rfl) ?_
          refine lv_aload_n hx hb dc_M_scored_51 rfl (lv_at hl 1 rfl) ?_
          refine ow_get hx hb hts iw_M hown hB k0 rfl 8 (by decide) mw_805 rfl dc_M_scored_52 ?_
          refine lv_iconst (v := 1) hx hb dc_M_scored_55 rfl ?_
          refine lv_isub hx hb dc_M_scored_56 ?_
          obtain ⟨h1, h2⟩ := h
          refine lv_icmp_ne hx hb dc_M_scored_57 rfl (fun hc => ?_) (fun hc => ?_)
          · have h := h2 hc
            refine lv_lconst (v := 0) hx hb dc_M_scored_71 rfl ?_
            refine lv_goto hx hb dc_M_scored_72 rfl ?_
            exact L92 K20 hK20 _ _ _ _ _ _ _ h hB (lv_sub hl [1, 2, 3, 5] rfl)
          · have h := h1 hc
            refine lv_aload_n hx hb dc_M_scored_60 rfl (lv_at hl 1 rfl) ?_
            refine ow_get hx hb hts iw_M hown hB k0 rfl 11 (by decide) mw_808 rfl dc_M_scored_61 ?_
            refine lv_iload hx hb dc_M_scored_64 (lv_at hl 5 rfl) ?_
            obtain ⟨hi12, h⟩ := h
            refine ow_iald hx hb hB (ly_M_voters hG k0) hi12 dc_M_scored_66 ?_
            refine lv_i2l hx hb dc_M_scored_67 rfl ?_
            refine lv_goto hx hb dc_M_scored_68 rfl ?_
            exact L92 K20 hK20 _ _ _ _ _ _ _ h hB (lv_sub hl [1, 2, 3, 5] rfl)
  have L20 : ∀   (M : om_M) (j3 : Int64) (x5 : Int32) (H : Heap) (locs : List Loc) (ls : Array Slot), wp_M_scored_20 F o0 x1 x2 Q   M j3 x5 → ow_B G D cA ad (ow_A G ad) M s s.heap H locs → lv_has ls 7 [(0, .ref (ad o0)), (1, .int x1), (2, .int x2), (3, .long j3), (5, .int x5)] → W p l e rm_M_scored s m ([.ref (ad o0), .int x1, .int x2] : List Value).toArray below meth c H locs 0 0 (MQ below (ow_Ql G D cA ad Q) ([.ref (ad o0), .int x1, .int x2] : List Value).toArray s 0 0 (ow_A G ad)) (F0 m 20 ls []) := by
    have step : ∀ (k : Nat) (M : om_M) (j3 : Int64) (x5 : Int32) (H : Heap) (locs : List Loc) (ls : Array Slot), ow_lp (fun (z : om_M × Int64 × Int32) K => wp_M_scored_20b F o0 x1 x2 Q   K z.1 z.2.1 z.2.2) k (M, j3, x5) → ow_B G D cA ad (ow_A G ad) M s s.heap H locs → lv_has ls 7 [(0, .ref (ad o0)), (1, .int x1), (2, .int x2), (3, .long j3), (5, .int x5)] → W p l e rm_M_scored s m ([.ref (ad o0), .int x1, .int x2] : List Value).toArray below meth c H locs 0 0 (MQ below (ow_Ql G D cA ad Q) ([.ref (ad o0), .int x1, .int x2] : List Value).toArray s 0 0 (ow_A G ad)) (F0 m 20 ls []) := by
      intro k
      induction k with
      | zero => intro M j3 x5 H locs ls h hB hl; exact False.elim h
      | succ k ih => intro M j3 x5 H locs ls h hB hl; exact B20   (ow_lp _ k) (fun M j3 x5 H locs ls h hB  hl => ih M j3 x5  H locs ls h hB hl) M j3 x5 H locs ls h hB hl
    intro M j3 x5 H locs ls h hB hl
    exact step F M j3 x5 H locs ls h hB hl
  have hl := lv_entry ([.ref (ad o0), .int x1, .int x2]) (n := 7) (Nat.le_of_ble_eq_true rfl)
  rw [lg_entry_eq]
  generalize (lg_sl ([.ref (ad o0), .int x1, .int x2]) ++ List.replicate (7 - (lg_sl ([.ref (ad o0), .int x1, .int x2])).length) Slot.unset).toArray = ls at hl ⊢
  have hl : lv_has ls 7 [(0, .ref (ad o0)), (1, .int x1), (2, .int x2)] := hl
  show W p l e rm_M_scored s m _ below meth c s.heap [] 0 0 _ _
  refine lv_lconst (v := 0) hx hb dc_M_scored_0 rfl ?_
  refine lv_lstore_n hx hb dc_M_scored_1 rfl hl (by decide) rfl (fun ls hl => ?_)
  refine lv_iload_n hx hb dc_M_scored_2 rfl (lv_at hl 2 rfl) ?_
  obtain ⟨h1, h2⟩ := h
  refine lv_if_ne hx hb dc_M_scored_3 rfl (fun hc => ?_) (fun hc => ?_)
  · have h := h2 hc
    refine lv_iconst (v := 0) hx hb dc_M_scored_17 rfl ?_
    refine lv_istore hx hb dc_M_scored_18 hl (by decide) rfl (fun ls hl => ?_)
    exact L20 _ _ _ _ _ _ h hB (lv_sub hl [2, 3, 4, 1, 0] rfl)
  · have h := h1 hc
    refine lv_aload_n hx hb dc_M_scored_6 rfl (lv_at hl 1 rfl) ?_
    refine lv_iload_n hx hb dc_M_scored_7 rfl (lv_at hl 3 rfl) ?_
    refine lv_aload_n hx hb dc_M_scored_8 rfl (lv_at hl 1 rfl) ?_
    refine ow_calli (va_runV (As := []) (rest := [.int x2, .ref (ad o0)]) ⟨hx, hb, hml, hown, hts⟩ (ct_M_all l G hG D cA ad F _ k0 _ _ h) ⟨ow_cb 0 hts mw_957 mw_12 mw_954 rfl rfl hd_M_all ⟨Nat.le_of_ble_eq_true rfl, Nat.le_of_ble_eq_true rfl⟩, hts _ mw_956, hts _ ms_28⟩ (ow_preV hB k0 rfl) rfl rfl hl.1 rfl (lv_room (Nat.le_of_ble_eq_true rfl)) dc_M_scored_9 ⟨Nat.zero_le _, Nat.zero_le _⟩) hB (fun r14 M13 H locs h hB => ?_)
    refine ow_calli (va_runV (As := [.int x2, .int r14]) (rest := []) ⟨hx, hb, hml, hown, hts⟩ (ct_M_ahead l G hG D cA ad F _ k0 _ _ _ _ h) ⟨ow_cb 2 hts mw_961 mw_12 mw_958 rfl rfl hd_M_ahead ⟨Nat.le_of_ble_eq_true rfl, Nat.le_of_ble_eq_true rfl⟩, hts _ mw_960, hts _ ms_29⟩ (ow_preV hB k0 rfl) rfl rfl hl.1 rfl (lv_room (Nat.le_of_ble_eq_true rfl)) dc_M_scored_12 ⟨Nat.zero_le _, Nat.zero_le _⟩) hB (fun r16 M15 H locs h hB => ?_)
    refine lv_i2l hx hb dc_M_scored_15 rfl ?_
    exact ow_lret hx hb hr hlocks hB h dc_M_scored_16
abbrev rm_M_extreme : Room := { frames := 2, cells := 0, slots := 0, locals := 51 }
theorem hd_M_extreme : yn_M_extreme.cls ≠ "java/lang/invoke/MethodHandle" ∧ yn_M_extreme.cls ≠ "java/lang/invoke/VarHandle" ∧ (parseMethodDescriptor yn_M_extreme.desc).map (fun d => d.parameters.length) = some 2 := by decide +kernel
set_option maxHeartbeats 4000000 in
set_option maxRecDepth 100000 in
theorem ct_M_extreme (l : Launch) (G : List (Nat × Nat)) (hG : ow_lay G) (D : va_G) (cA : Nat → ClassId) (ad : Nat → Nat) (F : Nat) (o0 : Nat) (k0 : ow_kd G o0 = (3, 9)) (x1 : Int32) (x2 : Int32) (M : om_M) (Q : Int32 → om_M → Prop) (h : wp_M_extreme F o0 x1 x2 M Q) : Met l yn_M_extreme (ow_ws yn_M_extreme cb_M_extreme 7 (some .int)) rm_M_extreme (ow_Pc G D cA ad M [.ref (ad o0), .int x1, .int x2]) (ow_Qi G D cA ad Q) 0 0 (ow_A G ad) := by
  refine Met.ofW (cc := cb_M_extreme) (maxL := 7) (ret := (some .int)) (by decide) rfl ?_
  intro p e s m args below meth c s₁ B hml hv
  obtain ⟨rfl, hB⟩ := hv
  have hx := B.exec
  have hb := B.bytes
  have hr := B.returns
  have hlocks := B.notSynchronized
  have hts : ∀ w ∈ lw_g, w.before ([.ref (ad o0), .int x1, .int x2] : List Value).toArray s = true := fun w h => atoms_spec (ws := ow_ws yn_M_extreme cb_M_extreme 7 (some .int)) B.pre w (List.mem_cons_of_mem _ h)
  have hown : s.vm.findClass "BallotDeskModel" = some m.cls := findClass_of_methodNamed B.named
  clear B
  have L105 : ∀  (K5 : om_M × Int32 × Int32 → Prop) (hK5 : ∀ (M : om_M) (x3 : Int32) (x4 : Int32) (H : Heap) (locs : List Loc) (ls : Array Slot), K5 (M, x3, x4) → ow_B G D cA ad (ow_A G ad) M s s.heap H locs → lv_has ls 7 [(0, .ref (ad o0)), (1, .int x1), (2, .int x2), (3, .int x3), (4, .int x4)] → W p l e rm_M_extreme s m ([.ref (ad o0), .int x1, .int x2] : List Value).toArray below meth c H locs 0 0 (MQ below (ow_Qi G D cA ad Q) ([.ref (ad o0), .int x1, .int x2] : List Value).toArray s 0 0 (ow_A G ad)) (F0 m 5 ls [])) (M : om_M) (x4 : Int32) (t0 : Int32) (H : Heap) (locs : List Loc) (ls : Array Slot), wp_M_extreme_105 F o0 x1 x2 Q  K5 M x4 t0 → ow_B G D cA ad (ow_A G ad) M s s.heap H locs → lv_has ls 7 [(0, .ref (ad o0)), (1, .int x1), (2, .int x2), (4, .int x4)] → W p l e rm_M_extreme s m ([.ref (ad o0), .int x1, .int x2] : List Value).toArray below meth c H locs 0 0 (MQ below (ow_Qi G D cA ad Q) ([.ref (ad o0), .int x1, .int x2] : List Value).toArray s 0 0 (ow_A G ad)) (F0 m 105 ls [.int t0]) := by
    intro  K5 hK5 M x4 t0 H locs ls h hB hl
    refine lv_istore_n hx hb dc_M_extreme_105 rfl hl (by decide) rfl (fun ls hl => ?_)
    refine lv_iinc hx hb dc_M_extreme_106 hl (k := 4) rfl rfl (by decide) rfl (fun ls hl => ?_)
    refine lv_goto hx hb dc_M_extreme_109 rfl ?_
    exact hK5 _ _ _ _ _ _ h hB (lv_sub hl [2, 3, 4, 1, 0] rfl)
  have L90 : ∀  (K5 : om_M × Int32 × Int32 → Prop) (hK5 : ∀ (M : om_M) (x3 : Int32) (x4 : Int32) (H : Heap) (locs : List Loc) (ls : Array Slot), K5 (M, x3, x4) → ow_B G D cA ad (ow_A G ad) M s s.heap H locs → lv_has ls 7 [(0, .ref (ad o0)), (1, .int x1), (2, .int x2), (3, .int x3), (4, .int x4)] → W p l e rm_M_extreme s m ([.ref (ad o0), .int x1, .int x2] : List Value).toArray below meth c H locs 0 0 (MQ below (ow_Qi G D cA ad Q) ([.ref (ad o0), .int x1, .int x2] : List Value).toArray s 0 0 (ow_A G ad)) (F0 m 5 ls [])) (M : om_M) (x3 : Int32) (x4 : Int32) (x5 : Int32)  (H : Heap) (locs : List Loc) (ls : Array Slot), wp_M_extreme_90 F o0 x1 x2 Q  K5 M x3 x4 x5  → ow_B G D cA ad (ow_A G ad) M s s.heap H locs → lv_has ls 7 [(0, .ref (ad o0)), (1, .int x1), (2, .int x2), (3, .int x3), (4, .int x4), (5, .int x5)] → W p l e rm_M_extreme s m ([.ref (ad o0), .int x1, .int x2] : List Value).toArray below meth c H locs 0 0 (MQ below (ow_Qi G D cA ad Q) ([.ref (ad o0), .int x1, .int x2] : List Value).toArray s 0 0 (ow_A G ad)) (F0 m 90 ls []) := by
    intro  K5 hK5 M x3 x4 x5 H locs ls h hB hl
    refine lv_iload hx hb dc_M_extreme_90 (lv_at hl 5 rfl) ?_
    obtain ⟨h1, h2⟩ := h
    refine lv_if_eq hx hb dc_M_extreme_92 rfl (fun hc => ?_) (fun hc => ?_)
    · have h := h1 hc
      refine lv_iload_n hx hb dc_M_extreme_104 rfl (lv_at hl 3 rfl) ?_
      exact L105 K5 hK5 _ _ _ _ _ _ h hB (lv_sub hl [0, 1, 2, 4] rfl)
    · have h := h2 hc
      refine lv_iload_n hx hb dc_M_extreme_95 rfl (lv_at hl 3 rfl) ?_
      refine lv_iconst (v := 1) hx hb dc_M_extreme_96 rfl ?_
      refine lv_iload hx hb dc_M_extreme_97 (lv_at hl 4 rfl) ?_
      refine lv_ishl hx hb dc_M_extreme_99 ?_
      refine lv_ior hx hb dc_M_extreme_100 ?_
      refine lv_goto hx hb dc_M_extreme_101 rfl ?_
      exact L105 K5 hK5 _ _ _ _ _ _ h hB (lv_sub hl [0, 1, 2, 4] rfl)
  have L82 : ∀ (x3 : Int32) (x4 : Int32) (K5 : om_M × Int32 × Int32 → Prop) (hK5 : ∀ (M : om_M) (x3 : Int32) (x4 : Int32) (H : Heap) (locs : List Loc) (ls : Array Slot), K5 (M, x3, x4) → ow_B G D cA ad (ow_A G ad) M s s.heap H locs → lv_has ls 7 [(0, .ref (ad o0)), (1, .int x1), (2, .int x2), (3, .int x3), (4, .int x4)] → W p l e rm_M_extreme s m ([.ref (ad o0), .int x1, .int x2] : List Value).toArray below meth c H locs 0 0 (MQ below (ow_Qi G D cA ad Q) ([.ref (ad o0), .int x1, .int x2] : List Value).toArray s 0 0 (ow_A G ad)) (F0 m 5 ls [])) (K20 : om_M × Int32 × Int32 → Prop) (hK20 : ∀ (M : om_M) (x5 : Int32) (x6 : Int32) (H : Heap) (locs : List Loc) (ls : Array Slot), K20 (M, x5, x6) → ow_B G D cA ad (ow_A G ad) M s s.heap H locs → lv_has ls 7 [(0, .ref (ad o0)), (1, .int x1), (2, .int x2), (3, .int x3), (4, .int x4), (5, .int x5), (6, .int x6)] → W p l e rm_M_extreme s m ([.ref (ad o0), .int x1, .int x2] : List Value).toArray below meth c H locs 0 0 (MQ below (ow_Qi G D cA ad Q) ([.ref (ad o0), .int x1, .int x2] : List Value).toArray s 0 0 (ow_A G ad)) (F0 m 20 ls [])) (M : om_M) (x6 : Int32) (t0 : Int32) (H : Heap) (locs : List Loc) (ls : Array Slot), wp_M_extreme_82 F o0 x1 x2 Q x3 x4 K5 K20 M x6 t0 → ow_B G D cA ad (ow_A G ad) M s s.heap H locs → lv_has ls 7 [(0, .ref (ad o0)), (1, .int x1), (2, .int x2), (3, .int x3), (4, .int x4), (6, .int x6)] → W p l e rm_M_extreme s m ([.ref (ad o0), .int x1, .int x2] : List Value).toArray below meth c H locs 0 0 (MQ below (ow_Qi G D cA ad Q) ([.ref (ad o0), .int x1, .int x2] : List Value).toArray s 0 0 (ow_A G ad)) (F0 m 82 ls [.int t0]) := by
    intro x3 x4 K5 hK5 K20 hK20 M x6 t0 H locs ls h hB hl
    refine lv_istore hx hb dc_M_extreme_82 hl (by decide) rfl (fun ls hl => ?_)
    refine lv_iinc hx hb dc_M_extreme_84 hl (k := 6) rfl rfl (by decide) rfl (fun ls hl => ?_)
    refine lv_goto hx hb dc_M_extreme_87 rfl ?_
    exact hK20 _ _ _ _ _ _ h hB (lv_sub hl [2, 3, 4, 5, 6, 1, 0] rfl)
  have L81 : ∀ (x3 : Int32) (x4 : Int32) (K5 : om_M × Int32 × Int32 → Prop) (hK5 : ∀ (M : om_M) (x3 : Int32) (x4 : Int32) (H : Heap) (locs : List Loc) (ls : Array Slot), K5 (M, x3, x4) → ow_B G D cA ad (ow_A G ad) M s s.heap H locs → lv_has ls 7 [(0, .ref (ad o0)), (1, .int x1), (2, .int x2), (3, .int x3), (4, .int x4)] → W p l e rm_M_extreme s m ([.ref (ad o0), .int x1, .int x2] : List Value).toArray below meth c H locs 0 0 (MQ below (ow_Qi G D cA ad Q) ([.ref (ad o0), .int x1, .int x2] : List Value).toArray s 0 0 (ow_A G ad)) (F0 m 5 ls [])) (K20 : om_M × Int32 × Int32 → Prop) (hK20 : ∀ (M : om_M) (x5 : Int32) (x6 : Int32) (H : Heap) (locs : List Loc) (ls : Array Slot), K20 (M, x5, x6) → ow_B G D cA ad (ow_A G ad) M s s.heap H locs → lv_has ls 7 [(0, .ref (ad o0)), (1, .int x1), (2, .int x2), (3, .int x3), (4, .int x4), (5, .int x5), (6, .int x6)] → W p l e rm_M_extreme s m ([.ref (ad o0), .int x1, .int x2] : List Value).toArray below meth c H locs 0 0 (MQ below (ow_Qi G D cA ad Q) ([.ref (ad o0), .int x1, .int x2] : List Value).toArray s 0 0 (ow_A G ad)) (F0 m 20 ls [])) (M : om_M) (x6 : Int32)  (H : Heap) (locs : List Loc) (ls : Array Slot), wp_M_extreme_81 F o0 x1 x2 Q x3 x4 K5 K20 M x6  → ow_B G D cA ad (ow_A G ad) M s s.heap H locs → lv_has ls 7 [(0, .ref (ad o0)), (1, .int x1), (2, .int x2), (3, .int x3), (4, .int x4), (6, .int x6)] → W p l e rm_M_extreme s m ([.ref (ad o0), .int x1, .int x2] : List Value).toArray below meth c H locs 0 0 (MQ below (ow_Qi G D cA ad Q) ([.ref (ad o0), .int x1, .int x2] : List Value).toArray s 0 0 (ow_A G ad)) (F0 m 81 ls []) := by
    intro x3 x4 K5 hK5 K20 hK20 M x6 H locs ls h hB hl
    refine lv_iconst (v := 0) hx hb dc_M_extreme_81 rfl ?_
    exact L82 _ _ K5 hK5 K20 hK20 _ _ _ _ _ _ h hB (lv_sub hl [0, 1, 2, 3, 4, 5] rfl)
  have L77 : ∀ (x3 : Int32) (x4 : Int32) (K5 : om_M × Int32 × Int32 → Prop) (hK5 : ∀ (M : om_M) (x3 : Int32) (x4 : Int32) (H : Heap) (locs : List Loc) (ls : Array Slot), K5 (M, x3, x4) → ow_B G D cA ad (ow_A G ad) M s s.heap H locs → lv_has ls 7 [(0, .ref (ad o0)), (1, .int x1), (2, .int x2), (3, .int x3), (4, .int x4)] → W p l e rm_M_extreme s m ([.ref (ad o0), .int x1, .int x2] : List Value).toArray below meth c H locs 0 0 (MQ below (ow_Qi G D cA ad Q) ([.ref (ad o0), .int x1, .int x2] : List Value).toArray s 0 0 (ow_A G ad)) (F0 m 5 ls [])) (K20 : om_M × Int32 × Int32 → Prop) (hK20 : ∀ (M : om_M) (x5 : Int32) (x6 : Int32) (H : Heap) (locs : List Loc) (ls : Array Slot), K20 (M, x5, x6) → ow_B G D cA ad (ow_A G ad) M s s.heap H locs → lv_has ls 7 [(0, .ref (ad o0)), (1, .int x1), (2, .int x2), (3, .int x3), (4, .int x4), (5, .int x5), (6, .int x6)] → W p l e rm_M_extreme s m ([.ref (ad o0), .int x1, .int x2] : List Value).toArray below meth c H locs 0 0 (MQ below (ow_Qi G D cA ad Q) ([.ref (ad o0), .int x1, .int x2] : List Value).toArray s 0 0 (ow_A G ad)) (F0 m 20 ls [])) (M : om_M) (x6 : Int32)  (H : Heap) (locs : List Loc) (ls : Array Slot), wp_M_extreme_77 F o0 x1 x2 Q x3 x4 K5 K20 M x6  → ow_B G D cA ad (ow_A G ad) M s s.heap H locs → lv_has ls 7 [(0, .ref (ad o0)), (1, .int x1), (2, .int x2), (3, .int x3), (4, .int x4), (6, .int x6)] → W p l e rm_M_extreme s m ([.ref (ad o0), .int x1, .int x2] : List Value).toArray below meth c H locs 0 0 (MQ below (ow_Qi G D cA ad Q) ([.ref (ad o0), .int x1, .int x2] : List Value).toArray s 0 0 (ow_A G ad)) (F0 m 77 ls []) := by
    intro x3 x4 K5 hK5 K20 hK20 M x6 H locs ls h hB hl
    refine lv_iconst (v := 1) hx hb dc_M_extreme_77 rfl ?_
    refine lv_goto hx hb dc_M_extreme_78 rfl ?_
    exact L82 _ _ K5 hK5 K20 hK20 _ _ _ _ _ _ h hB (lv_sub hl [0, 1, 2, 3, 4, 5] rfl)
  have B20 : ∀ (x3 : Int32) (x4 : Int32) (K5 : om_M × Int32 × Int32 → Prop) (hK5 : ∀ (M : om_M) (x3 : Int32) (x4 : Int32) (H : Heap) (locs : List Loc) (ls : Array Slot), K5 (M, x3, x4) → ow_B G D cA ad (ow_A G ad) M s s.heap H locs → lv_has ls 7 [(0, .ref (ad o0)), (1, .int x1), (2, .int x2), (3, .int x3), (4, .int x4)] → W p l e rm_M_extreme s m ([.ref (ad o0), .int x1, .int x2] : List Value).toArray below meth c H locs 0 0 (MQ below (ow_Qi G D cA ad Q) ([.ref (ad o0), .int x1, .int x2] : List Value).toArray s 0 0 (ow_A G ad)) (F0 m 5 ls [])) (K20 : om_M × Int32 × Int32 → Prop) (hK20 : ∀ (M : om_M) (x5 : Int32) (x6 : Int32) (H : Heap) (locs : List Loc) (ls : Array Slot), K20 (M, x5, x6) → ow_B G D cA ad (ow_A G ad) M s s.heap H locs → lv_has ls 7 [(0, .ref (ad o0)), (1, .int x1), (2, .int x2), (3, .int x3), (4, .int x4), (5, .int x5), (6, .int x6)] → W p l e rm_M_extreme s m ([.ref (ad o0), .int x1, .int x2] : List Value).toArray below meth c H locs 0 0 (MQ below (ow_Qi G D cA ad Q) ([.ref (ad o0), .int x1, .int x2] : List Value).toArray s 0 0 (ow_A G ad)) (F0 m 20 ls [])) (M : om_M) (x5 : Int32) (x6 : Int32) (H : Heap) (locs : List Loc) (ls : Array Slot), wp_M_extreme_20b F o0 x1 x2 Q x3 x4 K5 K20 M x5 x6 → ow_B G D cA ad (ow_A G ad) M s s.heap H locs → lv_has ls 7 [(0, .ref (ad o0)), (1, .int x1), (2, .int x2), (3, .int x3), (4, .int x4), (5, .int x5), (6, .int x6)] → W p l e rm_M_extreme s m ([.ref (ad o0), .int x1, .int x2] : List Value).toArray below meth c H locs 0 0 (MQ below (ow_Qi G D cA ad Q) ([.ref (ad o0), .int x1, .int x2] : List Value).toArray s 0 0 (ow_A G ad)) (F0 m 20 ls []) := by
    intro x3 x4 K5 hK5 K20 hK20 M x5 x6 H locs ls h hB hl
    refine lv_iload hx hb dc_M_extreme_20 (lv_at hl 6 rfl) ?_
    refine lv_aload_n hx hb dc_M_extreme_22 rfl (lv_at hl 0 rfl) ?_
    refine ow_get hx hb hts iw_M hown hB k0 rfl 8 (by decide) mw_805 rfl dc_M_extreme_23 ?_
    obtain ⟨h1, h2⟩ := h
    refine lv_icmp_ge hx hb dc_M_extreme_26 rfl (fun hc => ?_) (fun hc => ?_)
    · have h := h1 hc
      exact L90 K5 hK5 _ _ _ _ _ _ _ h hB (lv_sub hl [0, 1, 2, 3, 4, 5] rfl)
    · have h := h2 hc
      refine lv_iload hx hb dc_M_extreme_29 (lv_at hl 5 rfl) ?_
      obtain ⟨h1, h2⟩ := h
      refine lv_if_eq hx hb dc_M_extreme_31 rfl (fun hc => ?_) (fun hc => ?_)
      · have h := h1 hc
        exact L81 _ _ K5 hK5 K20 hK20 _ _ _ _ _ h hB (lv_sub hl [0, 1, 2, 3, 4, 6] rfl)
      · have h := h2 hc
        refine lv_iload_n hx hb dc_M_extreme_34 rfl (lv_at hl 2 rfl) ?_
        obtain ⟨h1, h2⟩ := h
        refine lv_if_eq hx hb dc_M_extreme_35 rfl (fun hc => ?_) (fun hc => ?_)
        · have h := h1 hc
          refine lv_aload_n hx hb dc_M_extreme_59 rfl (lv_at hl 0 rfl) ?_
          refine lv_iload_n hx hb dc_M_extreme_60 rfl (lv_at hl 1 rfl) ?_
          refine lv_iload hx hb dc_M_extreme_61 (lv_at hl 6 rfl) ?_
          refine ow_calll (va_runV (As := [.int x1, .int x6]) (rest := []) ⟨hx, hb, hml, hown, hts⟩ (ct_M_scored l G hG D cA ad F _ k0 _ _ _ _ h) ⟨ow_cb 2 hts mw_953 mw_12 mw_950 rfl rfl hd_M_scored ⟨Nat.le_of_ble_eq_true rfl, Nat.le_of_ble_eq_true rfl⟩, hts _ mw_952, hts _ ms_27⟩ (ow_preV hB k0 rfl) rfl rfl hl.1 rfl (lv_room (Nat.le_of_ble_eq_true rfl)) dc_M_extreme_63 ⟨Nat.zero_le _, Nat.zero_le _⟩) hB (fun r2 M1 H locs h hB => ?_)
          refine lv_aload_n hx hb dc_M_extreme_66 rfl (lv_at hl 0 rfl) ?_
          refine lv_iload_n hx hb dc_M_extreme_67 rfl (lv_at hl 1 rfl) ?_
          refine lv_iload hx hb dc_M_extreme_68 (lv_at hl 4 rfl) ?_
          refine ow_calll (va_runV (As := [.int x1, .int x4]) (rest := [.long r2]) ⟨hx, hb, hml, hown, hts⟩ (ct_M_scored l G hG D cA ad F _ k0 _ _ _ _ h) ⟨ow_cb 2 hts mw_953 mw_12 mw_950 rfl rfl hd_M_scored ⟨Nat.le_of_ble_eq_true rfl, Nat.le_of_ble_eq_true rfl⟩, hts _ mw_952, hts _ ms_27⟩ (ow_preV hB k0 rfl) rfl rfl hl.1 rfl (lv_room (Nat.le_of_ble_eq_true rfl)) dc_M_extreme_70 ⟨Nat.zero_le _, Nat.zero_le _⟩) hB (fun r4 M3 H locs h hB => ?_)
          obtain ⟨h1, h2⟩ := h
          refine ow_lcmp_lt hx hb dc_M_extreme_73 dc_M_extreme_74 rfl (fun hc => ?_) (fun hc => ?_)
          · have h := h1 hc
            exact L81 _ _ K5 hK5 K20 hK20 _ _ _ _ _ h hB (lv_sub hl [0, 1, 2, 3, 4, 6] rfl)
          · have h := h2 hc
            exact L77 _ _ K5 hK5 K20 hK20 _ _ _ _ _ h hB (lv_sub hl [0, 1, 2, 3, 4, 6] rfl)
        · have h := h2 hc
          refine lv_aload_n hx hb dc_M_extreme_38 rfl (lv_at hl 0 rfl) ?_
          refine lv_iload_n hx hb dc_M_extreme_39 rfl (lv_at hl 1 rfl) ?_
          refine lv_iload hx hb dc_M_extreme_40 (lv_at hl 6 rfl) ?_
          refine ow_calll (va_runV (As := [.int x1, .int x6]) (rest := []) ⟨hx, hb, hml, hown, hts⟩ (ct_M_scored l G hG D cA ad F _ k0 _ _ _ _ h) ⟨ow_cb 2 hts mw_953 mw_12 mw_950 rfl rfl hd_M_scored ⟨Nat.le_of_ble_eq_true rfl, Nat.le_of_ble_eq_true rfl⟩, hts _ mw_952, hts _ ms_27⟩ (ow_preV hB k0 rfl) rfl rfl hl.1 rfl (lv_room (Nat.le_of_ble_eq_true rfl)) dc_M_extreme_42 ⟨Nat.zero_le _, Nat.zero_le _⟩) hB (fun r6 M5 H locs h hB => ?_)
          refine lv_aload_n hx hb dc_M_extreme_45 rfl (lv_at hl 0 rfl) ?_
          refine lv_iload_n hx hb dc_M_extreme_46 rfl (lv_at hl 1 rfl) ?_
          refine lv_iload hx hb dc_M_extreme_47 (lv_at hl 4 rfl) ?_
          refine ow_calll (va_runV (As := [.int x1, .int x4]) (rest := [.long r6]) ⟨hx, hb, hml, hown, hts⟩ (ct_M_scored l G hG D cA ad F _ k0 _ _ _ _ h) ⟨ow_cb 2 hts mw_953 mw_12 mw_950 rfl rfl hd_M_scored ⟨Nat.le_of_ble_eq_true rfl, Nat.le_of_ble_eq_true rfl⟩, hts _ mw_952, hts _ ms_27⟩ (ow_preV hB k0 rfl) rfl rfl hl.1 rfl (lv_room (Nat.le_of_ble_eq_true rfl)) dc_M_extreme_49 ⟨Nat.zero_le _, Nat.zero_le _⟩) hB (fun r8 M7 H locs h hB => ?_)
          obtain ⟨h1, h2⟩ := h
          refine ow_lcmp_gt hx hb dc_M_extreme_52 dc_M_extreme_53 rfl (fun hc => ?_) (fun hc => ?_)
          · have h := h1 hc
            exact L81 _ _ K5 hK5 K20 hK20 _ _ _ _ _ h hB (lv_sub hl [0, 1, 2, 3, 4, 6] rfl)
          · have h := h2 hc
            refine lv_goto hx hb dc_M_extreme_56 rfl ?_
            exact L77 _ _ K5 hK5 K20 hK20 _ _ _ _ _ h hB (lv_sub hl [0, 1, 2, 3, 4, 6] rfl)
  have L20 : ∀ (x3 : Int32) (x4 : Int32) (K5 : om_M × Int32 × Int32 → Prop) (hK5 : ∀ (M : om_M) (x3 : Int32) (x4 : Int32) (H : Heap) (locs : List Loc) (ls : Array Slot), K5 (M, x3, x4) → ow_B G D cA ad (ow_A G ad) M s s.heap H locs → lv_has ls 7 [(0, .ref (ad o0)), (1, .int x1), (2, .int x2), (3, .int x3), (4, .int x4)] → W p l e rm_M_extreme s m ([.ref (ad o0), .int x1, .int x2] : List Value).toArray below meth c H locs 0 0 (MQ below (ow_Qi G D cA ad Q) ([.ref (ad o0), .int x1, .int x2] : List Value).toArray s 0 0 (ow_A G ad)) (F0 m 5 ls [])) (M : om_M) (x5 : Int32) (x6 : Int32) (H : Heap) (locs : List Loc) (ls : Array Slot), wp_M_extreme_20 F o0 x1 x2 Q x3 x4 K5 M x5 x6 → ow_B G D cA ad (ow_A G ad) M s s.heap H locs → lv_has ls 7 [(0, .ref (ad o0)), (1, .int x1), (2, .int x2), (3, .int x3), (4, .int x4), (5, .int x5), (6, .int x6)] → W p l e rm_M_extreme s m ([.ref (ad o0), .int x1, .int x2] : List Value).toArray below meth c H locs 0 0 (MQ below (ow_Qi G D cA ad Q) ([.ref (ad o0), .int x1, .int x2] : List Value).toArray s 0 0 (ow_A G ad)) (F0 m 20 ls []) := by
    intro x3 x4 K5 hK5
    have step : ∀ (k : Nat) (M : om_M) (x5 : Int32) (x6 : Int32) (H : Heap) (locs : List Loc) (ls : Array Slot), ow_lp (fun (z : om_M × Int32 × Int32) K => wp_M_extreme_20b F o0 x1 x2 Q x3 x4 K5 K z.1 z.2.1 z.2.2) k (M, x5, x6) → ow_B G D cA ad (ow_A G ad) M s s.heap H locs → lv_has ls 7 [(0, .ref (ad o0)), (1, .int x1), (2, .int x2), (3, .int x3), (4, .int x4), (5, .int x5), (6, .int x6)] → W p l e rm_M_extreme s m ([.ref (ad o0), .int x1, .int x2] : List Value).toArray below meth c H locs 0 0 (MQ below (ow_Qi G D cA ad Q) ([.ref (ad o0), .int x1, .int x2] : List Value).toArray s 0 0 (ow_A G ad)) (F0 m 20 ls []) := by
      intro k
      induction k with
      | zero => intro M x5 x6 H locs ls h hB hl; exact False.elim h
      | succ k ih => intro M x5 x6 H locs ls h hB hl; exact B20 x3 x4 K5 hK5 (ow_lp _ k) (fun M x5 x6 H locs ls h hB  hl => ih M x5 x6  H locs ls h hB hl) M x5 x6 H locs ls h hB hl
    intro M x5 x6 H locs ls h hB hl
    exact step F M x5 x6 H locs ls h hB hl
  have B5 : ∀   (K5 : om_M × Int32 × Int32 → Prop) (hK5 : ∀ (M : om_M) (x3 : Int32) (x4 : Int32) (H : Heap) (locs : List Loc) (ls : Array Slot), K5 (M, x3, x4) → ow_B G D cA ad (ow_A G ad) M s s.heap H locs → lv_has ls 7 [(0, .ref (ad o0)), (1, .int x1), (2, .int x2), (3, .int x3), (4, .int x4)] → W p l e rm_M_extreme s m ([.ref (ad o0), .int x1, .int x2] : List Value).toArray below meth c H locs 0 0 (MQ below (ow_Qi G D cA ad Q) ([.ref (ad o0), .int x1, .int x2] : List Value).toArray s 0 0 (ow_A G ad)) (F0 m 5 ls [])) (M : om_M) (x3 : Int32) (x4 : Int32) (H : Heap) (locs : List Loc) (ls : Array Slot), wp_M_extreme_5b F o0 x1 x2 Q   K5 M x3 x4 → ow_B G D cA ad (ow_A G ad) M s s.heap H locs → lv_has ls 7 [(0, .ref (ad o0)), (1, .int x1), (2, .int x2), (3, .int x3), (4, .int x4)] → W p l e rm_M_extreme s m ([.ref (ad o0), .int x1, .int x2] : List Value).toArray below meth c H locs 0 0 (MQ below (ow_Qi G D cA ad Q) ([.ref (ad o0), .int x1, .int x2] : List Value).toArray s 0 0 (ow_A G ad)) (F0 m 5 ls []) := by
    intro   K5 hK5 M x3 x4 H locs ls h hB hl
    refine lv_iload hx hb dc_M_extreme_5 (lv_at hl 4 rfl) ?_
    refine lv_aload_n hx hb dc_M_extreme_7 rfl (lv_at hl 0 rfl) ?_
    refine ow_get hx hb hts iw_M hown hB k0 rfl 8 (by decide) mw_805 rfl dc_M_extreme_8 ?_
    obtain ⟨h1, h2⟩ := h
    refine lv_icmp_ge hx hb dc_M_extreme_11 rfl (fun hc => ?_) (fun hc => ?_)
    · have h := h1 hc
      refine lv_iload_n hx hb dc_M_extreme_112 rfl (lv_at hl 3 rfl) ?_
      exact ow_iret hx hb hr hlocks hB h dc_M_extreme_113
    · have h := h2 hc
      refine lv_iconst (v := 1) hx hb dc_M_extreme_14 rfl ?_
      refine lv_istore hx hb dc_M_extreme_15 hl (by decide) rfl (fun ls hl => ?_)
      refine lv_iconst (v := 0) hx hb dc_M_extreme_17 rfl ?_
      refine lv_istore hx hb dc_M_extreme_18 hl (by decide) rfl (fun ls hl => ?_)
      exact L20 _ _ K5 hK5 _ _ _ _ _ _ h hB (lv_sub hl [2, 3, 4, 5, 6, 1, 0] rfl)
  have L5 : ∀   (M : om_M) (x3 : Int32) (x4 : Int32) (H : Heap) (locs : List Loc) (ls : Array Slot), wp_M_extreme_5 F o0 x1 x2 Q   M x3 x4 → ow_B G D cA ad (ow_A G ad) M s s.heap H locs → lv_has ls 7 [(0, .ref (ad o0)), (1, .int x1), (2, .int x2), (3, .int x3), (4, .int x4)] → W p l e rm_M_extreme s m ([.ref (ad o0), .int x1, .int x2] : List Value).toArray below meth c H locs 0 0 (MQ below (ow_Qi G D cA ad Q) ([.ref (ad o0), .int x1, .int x2] : List Value).toArray s 0 0 (ow_A G ad)) (F0 m 5 ls []) := by
    have step : ∀ (k : Nat) (M : om_M) (x3 : Int32) (x4 : Int32) (H : Heap) (locs : List Loc) (ls : Array Slot), ow_lp (fun (z : om_M × Int32 × Int32) K => wp_M_extreme_5b F o0 x1 x2 Q   K z.1 z.2.1 z.2.2) k (M, x3, x4) → ow_B G D cA ad (ow_A G ad) M s s.heap H locs → lv_has ls 7 [(0, .ref (ad o0)), (1, .int x1), (2, .int x2), (3, .int x3), (4, .int x4)] → W p l e rm_M_extreme s m ([.ref (ad o0), .int x1, .int x2] : List Value).toArray below meth c H locs 0 0 (MQ below (ow_Qi G D cA ad Q) ([.ref (ad o0), .int x1, .int x2] : List Value).toArray s 0 0 (ow_A G ad)) (F0 m 5 ls []) := by
      intro k
      induction k with
      | zero => intro M x3 x4 H locs ls h hB hl; exact False.elim h
      | succ k ih => intro M x3 x4 H locs ls h hB hl; exact B5   (ow_lp _ k) (fun M x3 x4 H locs ls h hB  hl => ih M x3 x4  H locs ls h hB hl) M x3 x4 H locs ls h hB hl
    intro M x3 x4 H locs ls h hB hl
    exact step F M x3 x4 H locs ls h hB hl
  have hl := lv_entry ([.ref (ad o0), .int x1, .int x2]) (n := 7) (Nat.le_of_ble_eq_true rfl)
  rw [lg_entry_eq]
  generalize (lg_sl ([.ref (ad o0), .int x1, .int x2]) ++ List.replicate (7 - (lg_sl ([.ref (ad o0), .int x1, .int x2])).length) Slot.unset).toArray = ls at hl ⊢
  have hl : lv_has ls 7 [(0, .ref (ad o0)), (1, .int x1), (2, .int x2)] := hl
  show W p l e rm_M_extreme s m _ below meth c s.heap [] 0 0 _ _
  refine lv_iconst (v := 0) hx hb dc_M_extreme_0 rfl ?_
  refine lv_istore_n hx hb dc_M_extreme_1 rfl hl (by decide) rfl (fun ls hl => ?_)
  refine lv_iconst (v := 0) hx hb dc_M_extreme_2 rfl ?_
  refine lv_istore hx hb dc_M_extreme_3 hl (by decide) rfl (fun ls hl => ?_)
  exact L5 _ _ _ _ _ _ h hB (lv_sub hl [2, 3, 4, 1, 0] rfl)
abbrev rm_M_runoff : Room := { frames := 2, cells := 0, slots := 0, locals := 51 }
theorem hd_M_runoff : yn_M_runoff.cls ≠ "java/lang/invoke/MethodHandle" ∧ yn_M_runoff.cls ≠ "java/lang/invoke/VarHandle" ∧ (parseMethodDescriptor yn_M_runoff.desc).map (fun d => d.parameters.length) = some 0 := by decide +kernel
set_option maxHeartbeats 4000000 in
set_option maxRecDepth 100000 in
theorem ct_M_runoff (l : Launch) (G : List (Nat × Nat)) (hG : ow_lay G) (D : va_G) (cA : Nat → ClassId) (ad : Nat → Nat) (F : Nat) (o0 : Nat) (k0 : ow_kd G o0 = (3, 9)) (M : om_M) (Q : Int32 → om_M → Prop) (h : wp_M_runoff F o0 M Q) : Met l yn_M_runoff (ow_ws yn_M_runoff cb_M_runoff 8 (some .int)) rm_M_runoff (ow_Pc G D cA ad M [.ref (ad o0)]) (ow_Qi G D cA ad Q) 0 0 (ow_A G ad) := by
  refine Met.ofW (cc := cb_M_runoff) (maxL := 8) (ret := (some .int)) (by decide) rfl ?_
  intro p e s m args below meth c s₁ B hml hv
  obtain ⟨rfl, hB⟩ := hv
  have hx := B.exec
  have hb := B.bytes
  have hr := B.returns
  have hlocks := B.notSynchronized
  have hts : ∀ w ∈ lw_g, w.before ([.ref (ad o0)] : List Value).toArray s = true := fun w h => atoms_spec (ws := ow_ws yn_M_runoff cb_M_runoff 8 (some .int)) B.pre w (List.mem_cons_of_mem _ h)
  have hown : s.vm.findClass "BallotDeskModel" = some m.cls := findClass_of_methodNamed B.named
  clear B
  have L151 : ∀  (K4 : om_M × Int32 × Int32 → Prop) (hK4 : ∀ (M : om_M) (x1 : Int32) (x2 : Int32) (H : Heap) (locs : List Loc) (ls : Array Slot), K4 (M, x1, x2) → ow_B G D cA ad (ow_A G ad) M s s.heap H locs → lv_has ls 8 [(0, .ref (ad o0)), (1, .int x1), (2, .int x2)] → W p l e rm_M_runoff s m ([.ref (ad o0)] : List Value).toArray below meth c H locs 0 0 (MQ below (ow_Qi G D cA ad Q) ([.ref (ad o0)] : List Value).toArray s 0 0 (ow_A G ad)) (F0 m 4 ls [])) (M : om_M) (x1 : Int32) (x2 : Int32)  (H : Heap) (locs : List Loc) (ls : Array Slot), wp_M_runoff_151 F o0 Q  K4 M x1 x2  → ow_B G D cA ad (ow_A G ad) M s s.heap H locs → lv_has ls 8 [(0, .ref (ad o0)), (1, .int x1), (2, .int x2)] → W p l e rm_M_runoff s m ([.ref (ad o0)] : List Value).toArray below meth c H locs 0 0 (MQ below (ow_Qi G D cA ad Q) ([.ref (ad o0)] : List Value).toArray s 0 0 (ow_A G ad)) (F0 m 151 ls []) := by
    intro  K4 hK4 M x1 x2 H locs ls h hB hl
    refine lv_iinc hx hb dc_M_runoff_151 hl (k := 2) rfl rfl (by decide) rfl (fun ls hl => ?_)
    refine lv_goto hx hb dc_M_runoff_154 rfl ?_
    exact hK4 _ _ _ _ _ _ h hB (lv_sub hl [1, 2, 0] rfl)
  have L145 : ∀ (x2 : Int32) (K4 : om_M × Int32 × Int32 → Prop) (hK4 : ∀ (M : om_M) (x1 : Int32) (x2 : Int32) (H : Heap) (locs : List Loc) (ls : Array Slot), K4 (M, x1, x2) → ow_B G D cA ad (ow_A G ad) M s s.heap H locs → lv_has ls 8 [(0, .ref (ad o0)), (1, .int x1), (2, .int x2)] → W p l e rm_M_runoff s m ([.ref (ad o0)] : List Value).toArray below meth c H locs 0 0 (MQ below (ow_Qi G D cA ad Q) ([.ref (ad o0)] : List Value).toArray s 0 0 (ow_A G ad)) (F0 m 4 ls [])) (K16 : om_M × Int32 × Int32 → Prop) (hK16 : ∀ (M : om_M) (x1 : Int32) (x3 : Int32) (H : Heap) (locs : List Loc) (ls : Array Slot), K16 (M, x1, x3) → ow_B G D cA ad (ow_A G ad) M s s.heap H locs → lv_has ls 8 [(0, .ref (ad o0)), (1, .int x1), (2, .int x2), (3, .int x3)] → W p l e rm_M_runoff s m ([.ref (ad o0)] : List Value).toArray below meth c H locs 0 0 (MQ below (ow_Qi G D cA ad Q) ([.ref (ad o0)] : List Value).toArray s 0 0 (ow_A G ad)) (F0 m 16 ls [])) (M : om_M) (x1 : Int32) (x3 : Int32)  (H : Heap) (locs : List Loc) (ls : Array Slot), wp_M_runoff_145 F o0 Q x2 K4 K16 M x1 x3  → ow_B G D cA ad (ow_A G ad) M s s.heap H locs → lv_has ls 8 [(0, .ref (ad o0)), (1, .int x1), (2, .int x2), (3, .int x3)] → W p l e rm_M_runoff s m ([.ref (ad o0)] : List Value).toArray below meth c H locs 0 0 (MQ below (ow_Qi G D cA ad Q) ([.ref (ad o0)] : List Value).toArray s 0 0 (ow_A G ad)) (F0 m 145 ls []) := by
    intro x2 K4 hK4 K16 hK16 M x1 x3 H locs ls h hB hl
    refine lv_iinc hx hb dc_M_runoff_145 hl (k := 3) rfl rfl (by decide) rfl (fun ls hl => ?_)
    refine lv_goto hx hb dc_M_runoff_148 rfl ?_
    exact hK16 _ _ _ _ _ _ h hB (lv_sub hl [1, 2, 3, 0] rfl)
  have L144 : ∀ (x2 : Int32) (K4 : om_M × Int32 × Int32 → Prop) (hK4 : ∀ (M : om_M) (x1 : Int32) (x2 : Int32) (H : Heap) (locs : List Loc) (ls : Array Slot), K4 (M, x1, x2) → ow_B G D cA ad (ow_A G ad) M s s.heap H locs → lv_has ls 8 [(0, .ref (ad o0)), (1, .int x1), (2, .int x2)] → W p l e rm_M_runoff s m ([.ref (ad o0)] : List Value).toArray below meth c H locs 0 0 (MQ below (ow_Qi G D cA ad Q) ([.ref (ad o0)] : List Value).toArray s 0 0 (ow_A G ad)) (F0 m 4 ls [])) (K16 : om_M × Int32 × Int32 → Prop) (hK16 : ∀ (M : om_M) (x1 : Int32) (x3 : Int32) (H : Heap) (locs : List Loc) (ls : Array Slot), K16 (M, x1, x3) → ow_B G D cA ad (ow_A G ad) M s s.heap H locs → lv_has ls 8 [(0, .ref (ad o0)), (1, .int x1), (2, .int x2), (3, .int x3)] → W p l e rm_M_runoff s m ([.ref (ad o0)] : List Value).toArray below meth c H locs 0 0 (MQ below (ow_Qi G D cA ad Q) ([.ref (ad o0)] : List Value).toArray s 0 0 (ow_A G ad)) (F0 m 16 ls [])) (M : om_M) (x3 : Int32) (t0 : Int32) (H : Heap) (locs : List Loc) (ls : Array Slot), wp_M_runoff_144 F o0 Q x2 K4 K16 M x3 t0 → ow_B G D cA ad (ow_A G ad) M s s.heap H locs → lv_has ls 8 [(0, .ref (ad o0)), (2, .int x2), (3, .int x3)] → W p l e rm_M_runoff s m ([.ref (ad o0)] : List Value).toArray below meth c H locs 0 0 (MQ below (ow_Qi G D cA ad Q) ([.ref (ad o0)] : List Value).toArray s 0 0 (ow_A G ad)) (F0 m 144 ls [.int t0]) := by
    intro x2 K4 hK4 K16 hK16 M x3 t0 H locs ls h hB hl
    refine lv_istore_n hx hb dc_M_runoff_144 rfl hl (by decide) rfl (fun ls hl => ?_)
    exact L145 _ K4 hK4 K16 hK16 _ _ _ _ _ _ h hB (lv_sub hl [1, 0, 2, 3] rfl)
  have L125 : ∀ (x2 : Int32) (K4 : om_M × Int32 × Int32 → Prop) (hK4 : ∀ (M : om_M) (x1 : Int32) (x2 : Int32) (H : Heap) (locs : List Loc) (ls : Array Slot), K4 (M, x1, x2) → ow_B G D cA ad (ow_A G ad) M s s.heap H locs → lv_has ls 8 [(0, .ref (ad o0)), (1, .int x1), (2, .int x2)] → W p l e rm_M_runoff s m ([.ref (ad o0)] : List Value).toArray below meth c H locs 0 0 (MQ below (ow_Qi G D cA ad Q) ([.ref (ad o0)] : List Value).toArray s 0 0 (ow_A G ad)) (F0 m 4 ls [])) (K16 : om_M × Int32 × Int32 → Prop) (hK16 : ∀ (M : om_M) (x1 : Int32) (x3 : Int32) (H : Heap) (locs : List Loc) (ls : Array Slot), K16 (M, x1, x3) → ow_B G D cA ad (ow_A G ad) M s s.heap H locs → lv_has ls 8 [(0, .ref (ad o0)), (1, .int x1), (2, .int x2), (3, .int x3)] → W p l e rm_M_runoff s m ([.ref (ad o0)] : List Value).toArray below meth c H locs 0 0 (MQ below (ow_Qi G D cA ad Q) ([.ref (ad o0)] : List Value).toArray s 0 0 (ow_A G ad)) (F0 m 16 ls [])) (M : om_M) (x3 : Int32) (t0 : Int32) (H : Heap) (locs : List Loc) (ls : Array Slot), wp_M_runoff_125 F o0 Q x2 K4 K16 M x3 t0 → ow_B G D cA ad (ow_A G ad) M s s.heap H locs → lv_has ls 8 [(0, .ref (ad o0)), (2, .int x2), (3, .int x3)] → W p l e rm_M_runoff s m ([.ref (ad o0)] : List Value).toArray below meth c H locs 0 0 (MQ below (ow_Qi G D cA ad Q) ([.ref (ad o0)] : List Value).toArray s 0 0 (ow_A G ad)) (F0 m 125 ls [.int t0]) := by
    intro x2 K4 hK4 K16 hK16 M x3 t0 H locs ls h hB hl
    refine lv_istore_n hx hb dc_M_runoff_125 rfl hl (by decide) rfl (fun ls hl => ?_)
    refine lv_aload_n hx hb dc_M_runoff_126 rfl (lv_at hl 1 rfl) ?_
    refine lv_iload_n hx hb dc_M_runoff_127 rfl (lv_at hl 2 rfl) ?_
    refine lv_iload_n hx hb dc_M_runoff_128 rfl (lv_at hl 3 rfl) ?_
    refine ow_calli (va_runV (As := [.int x2, .int x3]) (rest := []) ⟨hx, hb, hml, hown, hts⟩ (ct_M_beats l G hG D cA ad F _ k0 _ _ _ _ h) ⟨ow_cb 2 hts mw_969 mw_12 mw_966 rfl rfl hd_M_beats ⟨Nat.le_of_ble_eq_true rfl, Nat.le_of_ble_eq_true rfl⟩, hts _ mw_968, hts _ ms_31⟩ (ow_preV hB k0 rfl) rfl rfl hl.1 rfl (lv_room (Nat.le_of_ble_eq_true rfl)) dc_M_runoff_129 ⟨Nat.zero_le _, Nat.zero_le _⟩) hB (fun r2 M1 H locs h hB => ?_)
    obtain ⟨h1, h2⟩ := h
    refine lv_if_eq hx hb dc_M_runoff_132 rfl (fun hc => ?_) (fun hc => ?_)
    · have h := h1 hc
      refine lv_iload_n hx hb dc_M_runoff_139 rfl (lv_at hl 0 rfl) ?_
      refine lv_iconst (v := 1) hx hb dc_M_runoff_140 rfl ?_
      refine lv_iload_n hx hb dc_M_runoff_141 rfl (lv_at hl 3 rfl) ?_
      refine lv_ishl hx hb dc_M_runoff_142 ?_
      refine lv_ior hx hb dc_M_runoff_143 ?_
      exact L144 _ K4 hK4 K16 hK16 _ _ _ _ _ _ h hB (lv_sub hl [1, 2, 3] rfl)
    · have h := h2 hc
      refine lv_iload_n hx hb dc_M_runoff_135 rfl (lv_at hl 0 rfl) ?_
      refine lv_goto hx hb dc_M_runoff_136 rfl ?_
      exact L144 _ K4 hK4 K16 hK16 _ _ _ _ _ _ h hB (lv_sub hl [1, 2, 3] rfl)
  have L102 : ∀ (x2 : Int32) (K4 : om_M × Int32 × Int32 → Prop) (hK4 : ∀ (M : om_M) (x1 : Int32) (x2 : Int32) (H : Heap) (locs : List Loc) (ls : Array Slot), K4 (M, x1, x2) → ow_B G D cA ad (ow_A G ad) M s s.heap H locs → lv_has ls 8 [(0, .ref (ad o0)), (1, .int x1), (2, .int x2)] → W p l e rm_M_runoff s m ([.ref (ad o0)] : List Value).toArray below meth c H locs 0 0 (MQ below (ow_Qi G D cA ad Q) ([.ref (ad o0)] : List Value).toArray s 0 0 (ow_A G ad)) (F0 m 4 ls [])) (K16 : om_M × Int32 × Int32 → Prop) (hK16 : ∀ (M : om_M) (x1 : Int32) (x3 : Int32) (H : Heap) (locs : List Loc) (ls : Array Slot), K16 (M, x1, x3) → ow_B G D cA ad (ow_A G ad) M s s.heap H locs → lv_has ls 8 [(0, .ref (ad o0)), (1, .int x1), (2, .int x2), (3, .int x3)] → W p l e rm_M_runoff s m ([.ref (ad o0)] : List Value).toArray below meth c H locs 0 0 (MQ below (ow_Qi G D cA ad Q) ([.ref (ad o0)] : List Value).toArray s 0 0 (ow_A G ad)) (F0 m 16 ls [])) (M : om_M) (x1 : Int32) (x3 : Int32) (x4 : Int32)  (H : Heap) (locs : List Loc) (ls : Array Slot), wp_M_runoff_102 F o0 Q x2 K4 K16 M x1 x3 x4  → ow_B G D cA ad (ow_A G ad) M s s.heap H locs → lv_has ls 8 [(0, .ref (ad o0)), (1, .int x1), (2, .int x2), (3, .int x3), (4, .int x4)] → W p l e rm_M_runoff s m ([.ref (ad o0)] : List Value).toArray below meth c H locs 0 0 (MQ below (ow_Qi G D cA ad Q) ([.ref (ad o0)] : List Value).toArray s 0 0 (ow_A G ad)) (F0 m 102 ls []) := by
    intro x2 K4 hK4 K16 hK16 M x1 x3 x4 H locs ls h hB hl
    refine lv_iload hx hb dc_M_runoff_102 (lv_at hl 4 rfl) ?_
    obtain ⟨h1, h2⟩ := h
    refine lv_if_eq hx hb dc_M_runoff_104 rfl (fun hc => ?_) (fun hc => ?_)
    · have h := h1 hc
      exact L145 _ K4 hK4 K16 hK16 _ _ _ _ _ _ h hB (lv_sub hl [0, 1, 2, 3] rfl)
    · have h := h2 hc
      refine lv_aload_n hx hb dc_M_runoff_107 rfl (lv_at hl 0 rfl) ?_
      refine lv_iload_n hx hb dc_M_runoff_108 rfl (lv_at hl 3 rfl) ?_
      refine lv_iload_n hx hb dc_M_runoff_109 rfl (lv_at hl 2 rfl) ?_
      refine ow_calli (va_runV (As := [.int x3, .int x2]) (rest := []) ⟨hx, hb, hml, hown, hts⟩ (ct_M_beats l G hG D cA ad F _ k0 _ _ _ _ h) ⟨ow_cb 2 hts mw_969 mw_12 mw_966 rfl rfl hd_M_beats ⟨Nat.le_of_ble_eq_true rfl, Nat.le_of_ble_eq_true rfl⟩, hts _ mw_968, hts _ ms_31⟩ (ow_preV hB k0 rfl) rfl rfl hl.1 rfl (lv_room (Nat.le_of_ble_eq_true rfl)) dc_M_runoff_110 ⟨Nat.zero_le _, Nat.zero_le _⟩) hB (fun r4 M3 H locs h hB => ?_)
      obtain ⟨h1, h2⟩ := h
      refine lv_if_eq hx hb dc_M_runoff_113 rfl (fun hc => ?_) (fun hc => ?_)
      · have h := h1 hc
        refine lv_iload_n hx hb dc_M_runoff_120 rfl (lv_at hl 1 rfl) ?_
        refine lv_iconst (v := 1) hx hb dc_M_runoff_121 rfl ?_
        refine lv_iload_n hx hb dc_M_runoff_122 rfl (lv_at hl 2 rfl) ?_
        refine lv_ishl hx hb dc_M_runoff_123 ?_
        refine lv_ior hx hb dc_M_runoff_124 ?_
        exact L125 _ K4 hK4 K16 hK16 _ _ _ _ _ _ h hB (lv_sub hl [0, 2, 3] rfl)
      · have h := h2 hc
        refine lv_iload_n hx hb dc_M_runoff_116 rfl (lv_at hl 1 rfl) ?_
        refine lv_goto hx hb dc_M_runoff_117 rfl ?_
        exact L125 _ K4 hK4 K16 hK16 _ _ _ _ _ _ h hB (lv_sub hl [0, 2, 3] rfl)
  have L94 : ∀ (x2 : Int32) (x1 : Int32) (x3 : Int32) (K4 : om_M × Int32 × Int32 → Prop) (hK4 : ∀ (M : om_M) (x1 : Int32) (x2 : Int32) (H : Heap) (locs : List Loc) (ls : Array Slot), K4 (M, x1, x2) → ow_B G D cA ad (ow_A G ad) M s s.heap H locs → lv_has ls 8 [(0, .ref (ad o0)), (1, .int x1), (2, .int x2)] → W p l e rm_M_runoff s m ([.ref (ad o0)] : List Value).toArray below meth c H locs 0 0 (MQ below (ow_Qi G D cA ad Q) ([.ref (ad o0)] : List Value).toArray s 0 0 (ow_A G ad)) (F0 m 4 ls [])) (K16 : om_M × Int32 × Int32 → Prop) (hK16 : ∀ (M : om_M) (x1 : Int32) (x3 : Int32) (H : Heap) (locs : List Loc) (ls : Array Slot), K16 (M, x1, x3) → ow_B G D cA ad (ow_A G ad) M s s.heap H locs → lv_has ls 8 [(0, .ref (ad o0)), (1, .int x1), (2, .int x2), (3, .int x3)] → W p l e rm_M_runoff s m ([.ref (ad o0)] : List Value).toArray below meth c H locs 0 0 (MQ below (ow_Qi G D cA ad Q) ([.ref (ad o0)] : List Value).toArray s 0 0 (ow_A G ad)) (F0 m 16 ls [])) (K30 : om_M × Int32 × Int32 → Prop) (hK30 : ∀ (M : om_M) (x4 : Int32) (x5 : Int32) (H : Heap) (locs : List Loc) (ls : Array Slot), K30 (M, x4, x5) → ow_B G D cA ad (ow_A G ad) M s s.heap H locs → lv_has ls 8 [(0, .ref (ad o0)), (1, .int x1), (2, .int x2), (3, .int x3), (4, .int x4), (5, .int x5)] → W p l e rm_M_runoff s m ([.ref (ad o0)] : List Value).toArray below meth c H locs 0 0 (MQ below (ow_Qi G D cA ad Q) ([.ref (ad o0)] : List Value).toArray s 0 0 (ow_A G ad)) (F0 m 30 ls [])) (M : om_M) (x5 : Int32) (t0 : Int32) (H : Heap) (locs : List Loc) (ls : Array Slot), wp_M_runoff_94 F o0 Q x2 x1 x3 K4 K16 K30 M x5 t0 → ow_B G D cA ad (ow_A G ad) M s s.heap H locs → lv_has ls 8 [(0, .ref (ad o0)), (1, .int x1), (2, .int x2), (3, .int x3), (5, .int x5)] → W p l e rm_M_runoff s m ([.ref (ad o0)] : List Value).toArray below meth c H locs 0 0 (MQ below (ow_Qi G D cA ad Q) ([.ref (ad o0)] : List Value).toArray s 0 0 (ow_A G ad)) (F0 m 94 ls [.int t0]) := by
    intro x2 x1 x3 K4 hK4 K16 hK16 K30 hK30 M x5 t0 H locs ls h hB hl
    refine lv_istore hx hb dc_M_runoff_94 hl (by decide) rfl (fun ls hl => ?_)
    refine lv_iinc hx hb dc_M_runoff_96 hl (k := 5) rfl rfl (by decide) rfl (fun ls hl => ?_)
    refine lv_goto hx hb dc_M_runoff_99 rfl ?_
    exact hK30 _ _ _ _ _ _ h hB (lv_sub hl [2, 3, 4, 5, 1, 0] rfl)
  have L93 : ∀ (x2 : Int32) (x1 : Int32) (x3 : Int32) (K4 : om_M × Int32 × Int32 → Prop) (hK4 : ∀ (M : om_M) (x1 : Int32) (x2 : Int32) (H : Heap) (locs : List Loc) (ls : Array Slot), K4 (M, x1, x2) → ow_B G D cA ad (ow_A G ad) M s s.heap H locs → lv_has ls 8 [(0, .ref (ad o0)), (1, .int x1), (2, .int x2)] → W p l e rm_M_runoff s m ([.ref (ad o0)] : List Value).toArray below meth c H locs 0 0 (MQ below (ow_Qi G D cA ad Q) ([.ref (ad o0)] : List Value).toArray s 0 0 (ow_A G ad)) (F0 m 4 ls [])) (K16 : om_M × Int32 × Int32 → Prop) (hK16 : ∀ (M : om_M) (x1 : Int32) (x3 : Int32) (H : Heap) (locs : List Loc) (ls : Array Slot), K16 (M, x1, x3) → ow_B G D cA ad (ow_A G ad) M s s.heap H locs → lv_has ls 8 [(0, .ref (ad o0)), (1, .int x1), (2, .int x2), (3, .int x3)] → W p l e rm_M_runoff s m ([.ref (ad o0)] : List Value).toArray below meth c H locs 0 0 (MQ below (ow_Qi G D cA ad Q) ([.ref (ad o0)] : List Value).toArray s 0 0 (ow_A G ad)) (F0 m 16 ls [])) (K30 : om_M × Int32 × Int32 → Prop) (hK30 : ∀ (M : om_M) (x4 : Int32) (x5 : Int32) (H : Heap) (locs : List Loc) (ls : Array Slot), K30 (M, x4, x5) → ow_B G D cA ad (ow_A G ad) M s s.heap H locs → lv_has ls 8 [(0, .ref (ad o0)), (1, .int x1), (2, .int x2), (3, .int x3), (4, .int x4), (5, .int x5)] → W p l e rm_M_runoff s m ([.ref (ad o0)] : List Value).toArray below meth c H locs 0 0 (MQ below (ow_Qi G D cA ad Q) ([.ref (ad o0)] : List Value).toArray s 0 0 (ow_A G ad)) (F0 m 30 ls [])) (M : om_M) (x5 : Int32)  (H : Heap) (locs : List Loc) (ls : Array Slot), wp_M_runoff_93 F o0 Q x2 x1 x3 K4 K16 K30 M x5  → ow_B G D cA ad (ow_A G ad) M s s.heap H locs → lv_has ls 8 [(0, .ref (ad o0)), (1, .int x1), (2, .int x2), (3, .int x3), (5, .int x5)] → W p l e rm_M_runoff s m ([.ref (ad o0)] : List Value).toArray below meth c H locs 0 0 (MQ below (ow_Qi G D cA ad Q) ([.ref (ad o0)] : List Value).toArray s 0 0 (ow_A G ad)) (F0 m 93 ls []) := by
    intro x2 x1 x3 K4 hK4 K16 hK16 K30 hK30 M x5 H locs ls h hB hl
    refine lv_iconst (v := 0) hx hb dc_M_runoff_93 rfl ?_
    exact L94 _ _ _ K4 hK4 K16 hK16 K30 hK30 _ _ _ _ _ _ h hB (lv_sub hl [0, 1, 2, 3, 4] rfl)
  have L89 : ∀ (x2 : Int32) (x1 : Int32) (x3 : Int32) (K4 : om_M × Int32 × Int32 → Prop) (hK4 : ∀ (M : om_M) (x1 : Int32) (x2 : Int32) (H : Heap) (locs : List Loc) (ls : Array Slot), K4 (M, x1, x2) → ow_B G D cA ad (ow_A G ad) M s s.heap H locs → lv_has ls 8 [(0, .ref (ad o0)), (1, .int x1), (2, .int x2)] → W p l e rm_M_runoff s m ([.ref (ad o0)] : List Value).toArray below meth c H locs 0 0 (MQ below (ow_Qi G D cA ad Q) ([.ref (ad o0)] : List Value).toArray s 0 0 (ow_A G ad)) (F0 m 4 ls [])) (K16 : om_M × Int32 × Int32 → Prop) (hK16 : ∀ (M : om_M) (x1 : Int32) (x3 : Int32) (H : Heap) (locs : List Loc) (ls : Array Slot), K16 (M, x1, x3) → ow_B G D cA ad (ow_A G ad) M s s.heap H locs → lv_has ls 8 [(0, .ref (ad o0)), (1, .int x1), (2, .int x2), (3, .int x3)] → W p l e rm_M_runoff s m ([.ref (ad o0)] : List Value).toArray below meth c H locs 0 0 (MQ below (ow_Qi G D cA ad Q) ([.ref (ad o0)] : List Value).toArray s 0 0 (ow_A G ad)) (F0 m 16 ls [])) (K30 : om_M × Int32 × Int32 → Prop) (hK30 : ∀ (M : om_M) (x4 : Int32) (x5 : Int32) (H : Heap) (locs : List Loc) (ls : Array Slot), K30 (M, x4, x5) → ow_B G D cA ad (ow_A G ad) M s s.heap H locs → lv_has ls 8 [(0, .ref (ad o0)), (1, .int x1), (2, .int x2), (3, .int x3), (4, .int x4), (5, .int x5)] → W p l e rm_M_runoff s m ([.ref (ad o0)] : List Value).toArray below meth c H locs 0 0 (MQ below (ow_Qi G D cA ad Q) ([.ref (ad o0)] : List Value).toArray s 0 0 (ow_A G ad)) (F0 m 30 ls [])) (M : om_M) (x5 : Int32)  (H : Heap) (locs : List Loc) (ls : Array Slot), wp_M_runoff_89 F o0 Q x2 x1 x3 K4 K16 K30 M x5  → ow_B G D cA ad (ow_A G ad) M s s.heap H locs → lv_has ls 8 [(0, .ref (ad o0)), (1, .int x1), (2, .int x2), (3, .int x3), (5, .int x5)] → W p l e rm_M_runoff s m ([.ref (ad o0)] : List Value).toArray below meth c H locs 0 0 (MQ below (ow_Qi G D cA ad Q) ([.ref (ad o0)] : List Value).toArray s 0 0 (ow_A G ad)) (F0 m 89 ls []) := by
    intro x2 x1 x3 K4 hK4 K16 hK16 K30 hK30 M x5 H locs ls h hB hl
    refine lv_iconst (v := 1) hx hb dc_M_runoff_89 rfl ?_
    refine lv_goto hx hb dc_M_runoff_90 rfl ?_
    exact L94 _ _ _ K4 hK4 K16 hK16 K30 hK30 _ _ _ _ _ _ h hB (lv_sub hl [0, 1, 2, 3, 4] rfl)
  have B30 : ∀ (x2 : Int32) (x1 : Int32) (x3 : Int32) (K4 : om_M × Int32 × Int32 → Prop) (hK4 : ∀ (M : om_M) (x1 : Int32) (x2 : Int32) (H : Heap) (locs : List Loc) (ls : Array Slot), K4 (M, x1, x2) → ow_B G D cA ad (ow_A G ad) M s s.heap H locs → lv_has ls 8 [(0, .ref (ad o0)), (1, .int x1), (2, .int x2)] → W p l e rm_M_runoff s m ([.ref (ad o0)] : List Value).toArray below meth c H locs 0 0 (MQ below (ow_Qi G D cA ad Q) ([.ref (ad o0)] : List Value).toArray s 0 0 (ow_A G ad)) (F0 m 4 ls [])) (K16 : om_M × Int32 × Int32 → Prop) (hK16 : ∀ (M : om_M) (x1 : Int32) (x3 : Int32) (H : Heap) (locs : List Loc) (ls : Array Slot), K16 (M, x1, x3) → ow_B G D cA ad (ow_A G ad) M s s.heap H locs → lv_has ls 8 [(0, .ref (ad o0)), (1, .int x1), (2, .int x2), (3, .int x3)] → W p l e rm_M_runoff s m ([.ref (ad o0)] : List Value).toArray below meth c H locs 0 0 (MQ below (ow_Qi G D cA ad Q) ([.ref (ad o0)] : List Value).toArray s 0 0 (ow_A G ad)) (F0 m 16 ls [])) (K30 : om_M × Int32 × Int32 → Prop) (hK30 : ∀ (M : om_M) (x4 : Int32) (x5 : Int32) (H : Heap) (locs : List Loc) (ls : Array Slot), K30 (M, x4, x5) → ow_B G D cA ad (ow_A G ad) M s s.heap H locs → lv_has ls 8 [(0, .ref (ad o0)), (1, .int x1), (2, .int x2), (3, .int x3), (4, .int x4), (5, .int x5)] → W p l e rm_M_runoff s m ([.ref (ad o0)] : List Value).toArray below meth c H locs 0 0 (MQ below (ow_Qi G D cA ad Q) ([.ref (ad o0)] : List Value).toArray s 0 0 (ow_A G ad)) (F0 m 30 ls [])) (M : om_M) (x4 : Int32) (x5 : Int32) (H : Heap) (locs : List Loc) (ls : Array Slot), wp_M_runoff_30b F o0 Q x2 x1 x3 K4 K16 K30 M x4 x5 → ow_B G D cA ad (ow_A G ad) M s s.heap H locs → lv_has ls 8 [(0, .ref (ad o0)), (1, .int x1), (2, .int x2), (3, .int x3), (4, .int x4), (5, .int x5)] → W p l e rm_M_runoff s m ([.ref (ad o0)] : List Value).toArray below meth c H locs 0 0 (MQ below (ow_Qi G D cA ad Q) ([.ref (ad o0)] : List Value).toArray s 0 0 (ow_A G ad)) (F0 m 30 ls []) := by
    intro x2 x1 x3 K4 hK4 K16 hK16 K30 hK30 M x4 x5 H locs ls h hB hl
    refine lv_iload hx hb dc_M_runoff_30 (lv_at hl 5 rfl) ?_
    refine lv_aload_n hx hb dc_M_runoff_32 rfl (lv_at hl 0 rfl) ?_
    refine ow_get hx hb hts iw_M hown hB k0 rfl 8 (by decide) mw_805 rfl dc_M_runoff_33 ?_
    obtain ⟨h1, h2⟩ := h
    refine lv_icmp_ge hx hb dc_M_runoff_36 rfl (fun hc => ?_) (fun hc => ?_)
    · have h := h1 hc
      exact L102 _ K4 hK4 K16 hK16 _ _ _ _ _ _ _ h hB (lv_sub hl [0, 1, 2, 3, 4] rfl)
    · have h := h2 hc
      refine lv_aload_n hx hb dc_M_runoff_39 rfl (lv_at hl 0 rfl) ?_
      refine lv_iconst (v := 0) hx hb dc_M_runoff_40 rfl ?_
      refine lv_iload hx hb dc_M_runoff_41 (lv_at hl 5 rfl) ?_
      refine ow_calll (va_runV (As := [.int 0, .int x5]) (rest := []) ⟨hx, hb, hml, hown, hts⟩ (ct_M_scored l G hG D cA ad F _ k0 _ _ _ _ h) ⟨ow_cb 2 hts mw_953 mw_12 mw_950 rfl rfl hd_M_scored ⟨Nat.le_of_ble_eq_true rfl, Nat.le_of_ble_eq_true rfl⟩, hts _ mw_952, hts _ ms_27⟩ (ow_preV hB k0 rfl) rfl rfl hl.1 rfl (lv_room (Nat.le_of_ble_eq_true rfl)) dc_M_runoff_43 ⟨Nat.zero_le _, Nat.zero_le _⟩) hB (fun r6 M5 H locs h hB => ?_)
      refine lv_lstore hx hb dc_M_runoff_46 hl (by decide) rfl (fun ls hl => ?_)
      refine lv_iload hx hb dc_M_runoff_48 (lv_at hl 5 rfl) ?_
      obtain ⟨h1, h2⟩ := h
      refine lv_if_eq hx hb dc_M_runoff_50 rfl (fun hc => ?_) (fun hc => ?_)
      · have h := h1 hc
        exact L93 _ _ _ K4 hK4 K16 hK16 K30 hK30 _ _ _ _ _ h hB (lv_sub hl [1, 2, 3, 4, 6] rfl)
      · have h := h2 hc
        refine lv_iload hx hb dc_M_runoff_53 (lv_at hl 6 rfl) ?_
        refine lv_iload_n hx hb dc_M_runoff_55 rfl (lv_at hl 3 rfl) ?_
        obtain ⟨h1, h2⟩ := h
        refine lv_icmp_eq hx hb dc_M_runoff_56 rfl (fun hc => ?_) (fun hc => ?_)
        · have h := h1 hc
          exact L89 _ _ _ K4 hK4 K16 hK16 K30 hK30 _ _ _ _ _ h hB (lv_sub hl [1, 2, 3, 4, 6] rfl)
        · have h := h2 hc
          refine lv_iload hx hb dc_M_runoff_59 (lv_at hl 6 rfl) ?_
          refine lv_iload_n hx hb dc_M_runoff_61 rfl (lv_at hl 4 rfl) ?_
          obtain ⟨h1, h2⟩ := h
          refine lv_icmp_eq hx hb dc_M_runoff_62 rfl (fun hc => ?_) (fun hc => ?_)
          · have h := h1 hc
            exact L89 _ _ _ K4 hK4 K16 hK16 K30 hK30 _ _ _ _ _ h hB (lv_sub hl [1, 2, 3, 4, 6] rfl)
          · have h := h2 hc
            refine lv_lload hx hb dc_M_runoff_65 (lv_at hl 0 rfl) ?_
            refine lv_aload_n hx hb dc_M_runoff_67 rfl (lv_at hl 1 rfl) ?_
            refine lv_iconst (v := 0) hx hb dc_M_runoff_68 rfl ?_
            refine lv_iload_n hx hb dc_M_runoff_69 rfl (lv_at hl 3 rfl) ?_
            refine ow_calll (va_runV (As := [.int 0, .int x2]) (rest := [.long r6]) ⟨hx, hb, hml, hown, hts⟩ (ct_M_scored l G hG D cA ad F _ k0 _ _ _ _ h) ⟨ow_cb 2 hts mw_953 mw_12 mw_950 rfl rfl hd_M_scored ⟨Nat.le_of_ble_eq_true rfl, Nat.le_of_ble_eq_true rfl⟩, hts _ mw_952, hts _ ms_27⟩ (ow_preV hB k0 rfl) rfl rfl hl.1 rfl (lv_room (Nat.le_of_ble_eq_true rfl)) dc_M_runoff_70 ⟨Nat.zero_le _, Nat.zero_le _⟩) hB (fun r8 M7 H locs h hB => ?_)
            obtain ⟨h1, h2⟩ := h
            refine ow_lcmp_gt hx hb dc_M_runoff_73 dc_M_runoff_74 rfl (fun hc => ?_) (fun hc => ?_)
            · have h := h1 hc
              exact L93 _ _ _ K4 hK4 K16 hK16 K30 hK30 _ _ _ _ _ h hB (lv_sub hl [1, 2, 3, 4, 6] rfl)
            · have h := h2 hc
              refine lv_lload hx hb dc_M_runoff_77 (lv_at hl 0 rfl) ?_
              refine lv_aload_n hx hb dc_M_runoff_79 rfl (lv_at hl 1 rfl) ?_
              refine lv_iconst (v := 0) hx hb dc_M_runoff_80 rfl ?_
              refine lv_iload_n hx hb dc_M_runoff_81 rfl (lv_at hl 4 rfl) ?_
              refine ow_calll (va_runV (As := [.int 0, .int x3]) (rest := [.long r6]) ⟨hx, hb, hml, hown, hts⟩ (ct_M_scored l G hG D cA ad F _ k0 _ _ _ _ h) ⟨ow_cb 2 hts mw_953 mw_12 mw_950 rfl rfl hd_M_scored ⟨Nat.le_of_ble_eq_true rfl, Nat.le_of_ble_eq_true rfl⟩, hts _ mw_952, hts _ ms_27⟩ (ow_preV hB k0 rfl) rfl rfl hl.1 rfl (lv_room (Nat.le_of_ble_eq_true rfl)) dc_M_runoff_82 ⟨Nat.zero_le _, Nat.zero_le _⟩) hB (fun r10 M9 H locs h hB => ?_)
              obtain ⟨h1, h2⟩ := h
              refine ow_lcmp_gt hx hb dc_M_runoff_85 dc_M_runoff_86 rfl (fun hc => ?_) (fun hc => ?_)
              · have h := h1 hc
                exact L93 _ _ _ K4 hK4 K16 hK16 K30 hK30 _ _ _ _ _ h hB (lv_sub hl [1, 2, 3, 4, 6] rfl)
              · have h := h2 hc
                exact L89 _ _ _ K4 hK4 K16 hK16 K30 hK30 _ _ _ _ _ h hB (lv_sub hl [1, 2, 3, 4, 6] rfl)
  have L30 : ∀ (x2 : Int32) (x1 : Int32) (x3 : Int32) (K4 : om_M × Int32 × Int32 → Prop) (hK4 : ∀ (M : om_M) (x1 : Int32) (x2 : Int32) (H : Heap) (locs : List Loc) (ls : Array Slot), K4 (M, x1, x2) → ow_B G D cA ad (ow_A G ad) M s s.heap H locs → lv_has ls 8 [(0, .ref (ad o0)), (1, .int x1), (2, .int x2)] → W p l e rm_M_runoff s m ([.ref (ad o0)] : List Value).toArray below meth c H locs 0 0 (MQ below (ow_Qi G D cA ad Q) ([.ref (ad o0)] : List Value).toArray s 0 0 (ow_A G ad)) (F0 m 4 ls [])) (K16 : om_M × Int32 × Int32 → Prop) (hK16 : ∀ (M : om_M) (x1 : Int32) (x3 : Int32) (H : Heap) (locs : List Loc) (ls : Array Slot), K16 (M, x1, x3) → ow_B G D cA ad (ow_A G ad) M s s.heap H locs → lv_has ls 8 [(0, .ref (ad o0)), (1, .int x1), (2, .int x2), (3, .int x3)] → W p l e rm_M_runoff s m ([.ref (ad o0)] : List Value).toArray below meth c H locs 0 0 (MQ below (ow_Qi G D cA ad Q) ([.ref (ad o0)] : List Value).toArray s 0 0 (ow_A G ad)) (F0 m 16 ls [])) (M : om_M) (x4 : Int32) (x5 : Int32) (H : Heap) (locs : List Loc) (ls : Array Slot), wp_M_runoff_30 F o0 Q x2 x1 x3 K4 K16 M x4 x5 → ow_B G D cA ad (ow_A G ad) M s s.heap H locs → lv_has ls 8 [(0, .ref (ad o0)), (1, .int x1), (2, .int x2), (3, .int x3), (4, .int x4), (5, .int x5)] → W p l e rm_M_runoff s m ([.ref (ad o0)] : List Value).toArray below meth c H locs 0 0 (MQ below (ow_Qi G D cA ad Q) ([.ref (ad o0)] : List Value).toArray s 0 0 (ow_A G ad)) (F0 m 30 ls []) := by
    intro x2 x1 x3 K4 hK4 K16 hK16
    have step : ∀ (k : Nat) (M : om_M) (x4 : Int32) (x5 : Int32) (H : Heap) (locs : List Loc) (ls : Array Slot), ow_lp (fun (z : om_M × Int32 × Int32) K => wp_M_runoff_30b F o0 Q x2 x1 x3 K4 K16 K z.1 z.2.1 z.2.2) k (M, x4, x5) → ow_B G D cA ad (ow_A G ad) M s s.heap H locs → lv_has ls 8 [(0, .ref (ad o0)), (1, .int x1), (2, .int x2), (3, .int x3), (4, .int x4), (5, .int x5)] → W p l e rm_M_runoff s m ([.ref (ad o0)] : List Value).toArray below meth c H locs 0 0 (MQ below (ow_Qi G D cA ad Q) ([.ref (ad o0)] : List Value).toArray s 0 0 (ow_A G ad)) (F0 m 30 ls []) := by
      intro k
      induction k with
      | zero => intro M x4 x5 H locs ls h hB hl; exact False.elim h
      | succ k ih => intro M x4 x5 H locs ls h hB hl; exact B30 x2 x1 x3 K4 hK4 K16 hK16 (ow_lp _ k) (fun M x4 x5 H locs ls h hB  hl => ih M x4 x5  H locs ls h hB hl) M x4 x5 H locs ls h hB hl
    intro M x4 x5 H locs ls h hB hl
    exact step F M x4 x5 H locs ls h hB hl
  have B16 : ∀ (x2 : Int32) (K4 : om_M × Int32 × Int32 → Prop) (hK4 : ∀ (M : om_M) (x1 : Int32) (x2 : Int32) (H : Heap) (locs : List Loc) (ls : Array Slot), K4 (M, x1, x2) → ow_B G D cA ad (ow_A G ad) M s s.heap H locs → lv_has ls 8 [(0, .ref (ad o0)), (1, .int x1), (2, .int x2)] → W p l e rm_M_runoff s m ([.ref (ad o0)] : List Value).toArray below meth c H locs 0 0 (MQ below (ow_Qi G D cA ad Q) ([.ref (ad o0)] : List Value).toArray s 0 0 (ow_A G ad)) (F0 m 4 ls [])) (K16 : om_M × Int32 × Int32 → Prop) (hK16 : ∀ (M : om_M) (x1 : Int32) (x3 : Int32) (H : Heap) (locs : List Loc) (ls : Array Slot), K16 (M, x1, x3) → ow_B G D cA ad (ow_A G ad) M s s.heap H locs → lv_has ls 8 [(0, .ref (ad o0)), (1, .int x1), (2, .int x2), (3, .int x3)] → W p l e rm_M_runoff s m ([.ref (ad o0)] : List Value).toArray below meth c H locs 0 0 (MQ below (ow_Qi G D cA ad Q) ([.ref (ad o0)] : List Value).toArray s 0 0 (ow_A G ad)) (F0 m 16 ls [])) (M : om_M) (x1 : Int32) (x3 : Int32) (H : Heap) (locs : List Loc) (ls : Array Slot), wp_M_runoff_16b F o0 Q x2 K4 K16 M x1 x3 → ow_B G D cA ad (ow_A G ad) M s s.heap H locs → lv_has ls 8 [(0, .ref (ad o0)), (1, .int x1), (2, .int x2), (3, .int x3)] → W p l e rm_M_runoff s m ([.ref (ad o0)] : List Value).toArray below meth c H locs 0 0 (MQ below (ow_Qi G D cA ad Q) ([.ref (ad o0)] : List Value).toArray s 0 0 (ow_A G ad)) (F0 m 16 ls []) := by
    intro x2 K4 hK4 K16 hK16 M x1 x3 H locs ls h hB hl
    refine lv_iload_n hx hb dc_M_runoff_16 rfl (lv_at hl 3 rfl) ?_
    refine lv_aload_n hx hb dc_M_runoff_17 rfl (lv_at hl 0 rfl) ?_
    refine ow_get hx hb hts iw_M hown hB k0 rfl 8 (by decide) mw_805 rfl dc_M_runoff_18 ?_
    obtain ⟨h1, h2⟩ := h
    refine lv_icmp_ge hx hb dc_M_runoff_21 rfl (fun hc => ?_) (fun hc => ?_)
    · have h := h1 hc
      exact L151 K4 hK4 _ _ _ _ _ _ h hB (lv_sub hl [0, 1, 2] rfl)
    · have h := h2 hc
      refine lv_iconst (v := 1) hx hb dc_M_runoff_24 rfl ?_
      refine lv_istore hx hb dc_M_runoff_25 hl (by decide) rfl (fun ls hl => ?_)
      refine lv_iconst (v := 0) hx hb dc_M_runoff_27 rfl ?_
      refine lv_istore hx hb dc_M_runoff_28 hl (by decide) rfl (fun ls hl => ?_)
      exact L30 _ _ _ K4 hK4 K16 hK16 _ _ _ _ _ _ h hB (lv_sub hl [2, 3, 4, 5, 1, 0] rfl)
  have L16 : ∀ (x2 : Int32) (K4 : om_M × Int32 × Int32 → Prop) (hK4 : ∀ (M : om_M) (x1 : Int32) (x2 : Int32) (H : Heap) (locs : List Loc) (ls : Array Slot), K4 (M, x1, x2) → ow_B G D cA ad (ow_A G ad) M s s.heap H locs → lv_has ls 8 [(0, .ref (ad o0)), (1, .int x1), (2, .int x2)] → W p l e rm_M_runoff s m ([.ref (ad o0)] : List Value).toArray below meth c H locs 0 0 (MQ below (ow_Qi G D cA ad Q) ([.ref (ad o0)] : List Value).toArray s 0 0 (ow_A G ad)) (F0 m 4 ls [])) (M : om_M) (x1 : Int32) (x3 : Int32) (H : Heap) (locs : List Loc) (ls : Array Slot), wp_M_runoff_16 F o0 Q x2 K4 M x1 x3 → ow_B G D cA ad (ow_A G ad) M s s.heap H locs → lv_has ls 8 [(0, .ref (ad o0)), (1, .int x1), (2, .int x2), (3, .int x3)] → W p l e rm_M_runoff s m ([.ref (ad o0)] : List Value).toArray below meth c H locs 0 0 (MQ below (ow_Qi G D cA ad Q) ([.ref (ad o0)] : List Value).toArray s 0 0 (ow_A G ad)) (F0 m 16 ls []) := by
    intro x2 K4 hK4
    have step : ∀ (k : Nat) (M : om_M) (x1 : Int32) (x3 : Int32) (H : Heap) (locs : List Loc) (ls : Array Slot), ow_lp (fun (z : om_M × Int32 × Int32) K => wp_M_runoff_16b F o0 Q x2 K4 K z.1 z.2.1 z.2.2) k (M, x1, x3) → ow_B G D cA ad (ow_A G ad) M s s.heap H locs → lv_has ls 8 [(0, .ref (ad o0)), (1, .int x1), (2, .int x2), (3, .int x3)] → W p l e rm_M_runoff s m ([.ref (ad o0)] : List Value).toArray below meth c H locs 0 0 (MQ below (ow_Qi G D cA ad Q) ([.ref (ad o0)] : List Value).toArray s 0 0 (ow_A G ad)) (F0 m 16 ls []) := by
      intro k
      induction k with
      | zero => intro M x1 x3 H locs ls h hB hl; exact False.elim h
      | succ k ih => intro M x1 x3 H locs ls h hB hl; exact B16 x2 K4 hK4 (ow_lp _ k) (fun M x1 x3 H locs ls h hB  hl => ih M x1 x3  H locs ls h hB hl) M x1 x3 H locs ls h hB hl
    intro M x1 x3 H locs ls h hB hl
    exact step F M x1 x3 H locs ls h hB hl
  have B4 : ∀   (K4 : om_M × Int32 × Int32 → Prop) (hK4 : ∀ (M : om_M) (x1 : Int32) (x2 : Int32) (H : Heap) (locs : List Loc) (ls : Array Slot), K4 (M, x1, x2) → ow_B G D cA ad (ow_A G ad) M s s.heap H locs → lv_has ls 8 [(0, .ref (ad o0)), (1, .int x1), (2, .int x2)] → W p l e rm_M_runoff s m ([.ref (ad o0)] : List Value).toArray below meth c H locs 0 0 (MQ below (ow_Qi G D cA ad Q) ([.ref (ad o0)] : List Value).toArray s 0 0 (ow_A G ad)) (F0 m 4 ls [])) (M : om_M) (x1 : Int32) (x2 : Int32) (H : Heap) (locs : List Loc) (ls : Array Slot), wp_M_runoff_4b F o0 Q   K4 M x1 x2 → ow_B G D cA ad (ow_A G ad) M s s.heap H locs → lv_has ls 8 [(0, .ref (ad o0)), (1, .int x1), (2, .int x2)] → W p l e rm_M_runoff s m ([.ref (ad o0)] : List Value).toArray below meth c H locs 0 0 (MQ below (ow_Qi G D cA ad Q) ([.ref (ad o0)] : List Value).toArray s 0 0 (ow_A G ad)) (F0 m 4 ls []) := by
    intro   K4 hK4 M x1 x2 H locs ls h hB hl
    refine lv_iload_n hx hb dc_M_runoff_4 rfl (lv_at hl 2 rfl) ?_
    refine lv_aload_n hx hb dc_M_runoff_5 rfl (lv_at hl 0 rfl) ?_
    refine ow_get hx hb hts iw_M hown hB k0 rfl 8 (by decide) mw_805 rfl dc_M_runoff_6 ?_
    obtain ⟨h1, h2⟩ := h
    refine lv_icmp_ge hx hb dc_M_runoff_9 rfl (fun hc => ?_) (fun hc => ?_)
    · have h := h1 hc
      refine lv_iload_n hx hb dc_M_runoff_157 rfl (lv_at hl 1 rfl) ?_
      exact ow_iret hx hb hr hlocks hB h dc_M_runoff_158
    · have h := h2 hc
      refine lv_iload_n hx hb dc_M_runoff_12 rfl (lv_at hl 2 rfl) ?_
      refine lv_iconst (v := 1) hx hb dc_M_runoff_13 rfl ?_
      refine lv_iadd hx hb dc_M_runoff_14 ?_
      refine lv_istore_n hx hb dc_M_runoff_15 rfl hl (by decide) rfl (fun ls hl => ?_)
      exact L16 _ K4 hK4 _ _ _ _ _ _ h hB (lv_sub hl [1, 2, 3, 0] rfl)
  have L4 : ∀   (M : om_M) (x1 : Int32) (x2 : Int32) (H : Heap) (locs : List Loc) (ls : Array Slot), wp_M_runoff_4 F o0 Q   M x1 x2 → ow_B G D cA ad (ow_A G ad) M s s.heap H locs → lv_has ls 8 [(0, .ref (ad o0)), (1, .int x1), (2, .int x2)] → W p l e rm_M_runoff s m ([.ref (ad o0)] : List Value).toArray below meth c H locs 0 0 (MQ below (ow_Qi G D cA ad Q) ([.ref (ad o0)] : List Value).toArray s 0 0 (ow_A G ad)) (F0 m 4 ls []) := by
    have step : ∀ (k : Nat) (M : om_M) (x1 : Int32) (x2 : Int32) (H : Heap) (locs : List Loc) (ls : Array Slot), ow_lp (fun (z : om_M × Int32 × Int32) K => wp_M_runoff_4b F o0 Q   K z.1 z.2.1 z.2.2) k (M, x1, x2) → ow_B G D cA ad (ow_A G ad) M s s.heap H locs → lv_has ls 8 [(0, .ref (ad o0)), (1, .int x1), (2, .int x2)] → W p l e rm_M_runoff s m ([.ref (ad o0)] : List Value).toArray below meth c H locs 0 0 (MQ below (ow_Qi G D cA ad Q) ([.ref (ad o0)] : List Value).toArray s 0 0 (ow_A G ad)) (F0 m 4 ls []) := by
      intro k
      induction k with
      | zero => intro M x1 x2 H locs ls h hB hl; exact False.elim h
      | succ k ih => intro M x1 x2 H locs ls h hB hl; exact B4   (ow_lp _ k) (fun M x1 x2 H locs ls h hB  hl => ih M x1 x2  H locs ls h hB hl) M x1 x2 H locs ls h hB hl
    intro M x1 x2 H locs ls h hB hl
    exact step F M x1 x2 H locs ls h hB hl
  have hl := lv_entry ([.ref (ad o0)]) (n := 8) (Nat.le_of_ble_eq_true rfl)
  rw [lg_entry_eq]
  generalize (lg_sl ([.ref (ad o0)]) ++ List.replicate (8 - (lg_sl ([.ref (ad o0)])).length) Slot.unset).toArray = ls at hl ⊢
  have hl : lv_has ls 8 [(0, .ref (ad o0))] := hl
  show W p l e rm_M_runoff s m _ below meth c s.heap [] 0 0 _ _
  refine lv_iconst (v := 0) hx hb dc_M_runoff_0 rfl ?_
  refine lv_istore_n hx hb dc_M_runoff_1 rfl hl (by decide) rfl (fun ls hl => ?_)
  refine lv_iconst (v := 0) hx hb dc_M_runoff_2 rfl ?_
  refine lv_istore_n hx hb dc_M_runoff_3 rfl hl (by decide) rfl (fun ls hl => ?_)
  exact L4 _ _ _ _ _ _ h hB (lv_sub hl [2, 1, 0] rfl)
