def wp_M_firstOf_21 (F : Nat) (o0 : Nat) (x1 : Int32) (Q : Int32 → om_M → Prop)   (M : om_M) (x2 : Int32)  : Prop := vp_in x2 7 ∧ Q (M.1 (o0 + 8) x2.toNatClampNeg) M
def wp_M_firstOf_2b (F : Nat) (o0 : Nat) (x1 : Int32) (Q : Int32 → om_M → Prop)   (K2 : om_M × Int32 → Prop) (M : om_M) (x2 : Int32) : Prop := vp_in x2 7 ∧ ((((x1 >>> ((M.1 (o0 + 8) x2.toNatClampNeg) &&& 31)) &&& 1) = 0 → K2 (M, x2 + 1)) ∧ (¬ ((x1 >>> ((M.1 (o0 + 8) x2.toNatClampNeg) &&& 31)) &&& 1) = 0 → wp_M_firstOf_21 F o0 x1 Q M x2))
def wp_M_firstOf_2 (F : Nat) (o0 : Nat) (x1 : Int32) (Q : Int32 → om_M → Prop)   (M : om_M) (x2 : Int32) : Prop := ow_lp (fun (z : om_M × Int32) K => wp_M_firstOf_2b F o0 x1 Q   K z.1 z.2) F (M, x2)
def wp_M_firstOf (F : Nat) (o0 : Nat) (x1 : Int32) (M : om_M) (Q : Int32 → om_M → Prop) : Prop := wp_M_firstOf_2 F o0 x1 Q M 0
def wp_M_isRule (F : Nat) (x0 : Int32) (M : om_M) (Q : Int32 → om_M → Prop) : Prop := wp_M_within F x0 0 11 M (fun r2 M1 => vp_nar .boolean r2 = r2 ∧ Q r2 M1)
def wp_M_isCandidate (F : Nat) (o0 : Nat) (x1 : Int32) (M : om_M) (Q : Int32 → om_M → Prop) : Prop := wp_M_within F x1 0 ((M.1 o0 1) - 1) M (fun r2 M1 => vp_nar .boolean r2 = r2 ∧ Q r2 M1)
def wp_M_winners (F : Nat) (o0 : Nat) (x1 : Int32) (M : om_M) (Q : Int32 → om_M → Prop) : Prop := wp_M_isRule F x1 M (fun r2 M1 => wp_M_goes F o0 r2 1 M1 (fun r4 M3 => ((r4 = 0 → Q 0 M3) ∧ (¬ r4 = 0 → wp_M_load F o0 M3 (fun M5 => wp_M_work F o0 x1 M5 (fun r7 M6 => Q r7 M6))))))
def wp_M_winner (F : Nat) (o0 : Nat) (x1 : Int32) (M : om_M) (Q : Int32 → om_M → Prop) : Prop := wp_M_isRule F x1 M (fun r2 M1 => wp_M_goes F o0 r2 1 M1 (fun r4 M3 => ((r4 = 0 → Q 0 M3) ∧ (¬ r4 = 0 → wp_M_load F o0 M3 (fun M5 => wp_M_work F o0 x1 M5 (fun r7 M6 => wp_M_firstOf F o0 r7 M6 (fun r9 M8 => Q r9 M8)))))))
def wp_M_score_45 (F : Nat) (o0 : Nat) (x1 : Int32) (x2 : Int32) (Q : Int64 → om_M → Prop)   (M : om_M)  (t0 : Nat) (t1 : Int32) (t2 : Int32) : Prop := wp_M_goes F t0 t1 t2 M (fun r2 M1 => ((r2 = 0 → Q 0 M1) ∧ (¬ r2 = 0 → wp_M_load F o0 M1 (fun M3 => wp_M_tally F o0 M3 (fun M4 => wp_M_scored F o0 x1 x2 M4 (fun r6 M5 => Q r6 M5))))))
def wp_M_score_40 (F : Nat) (o0 : Nat) (x1 : Int32) (x2 : Int32) (Q : Int64 → om_M → Prop)   (M : om_M)  (t0 : Nat) (t1 : Int32) : Prop := wp_M_score_45 F o0 x1 x2 Q M t0 t1 1
def wp_M_score_21 (F : Nat) (o0 : Nat) (x1 : Int32) (x2 : Int32) (Q : Int64 → om_M → Prop)   (M : om_M)  (t0 : Nat) (t1 : Int32) : Prop := wp_M_within F x1 0 2 M (fun r8 M7 => ((r8 = 0 → wp_M_within F x1 5 6 M7 (fun r10 M9 => ((r10 = 0 → wp_M_score_45 F o0 x1 x2 Q M9 t0 t1 0) ∧ (¬ r10 = 0 → wp_M_score_40 F o0 x1 x2 Q M9 t0 t1)))) ∧ (¬ r8 = 0 → wp_M_score_40 F o0 x1 x2 Q M7 t0 t1)))
def wp_M_score_20 (F : Nat) (o0 : Nat) (x1 : Int32) (x2 : Int32) (Q : Int64 → om_M → Prop)   (M : om_M)  (t0 : Nat) : Prop := wp_M_score_21 F o0 x1 x2 Q M t0 0
def wp_M_score (F : Nat) (o0 : Nat) (x1 : Int32) (x2 : Int32) (M : om_M) (Q : Int64 → om_M → Prop) : Prop := wp_M_isRule F x1 M (fun r12 M11 => ((r12 = 0 → wp_M_score_20 F o0 x1 x2 Q M11 o0) ∧ (¬ r12 = 0 → wp_M_isCandidate F o0 x2 M11 (fun r14 M13 => ((r14 = 0 → wp_M_score_20 F o0 x1 x2 Q M13 o0) ∧ (¬ r14 = 0 → wp_M_score_21 F o0 x1 x2 Q M13 o0 1))))))
def wp_M_pair_22 (F : Nat) (o0 : Nat) (x1 : Int32) (x2 : Int32) (Q : Int32 → om_M → Prop)   (M : om_M)  (t0 : Nat) (t1 : Int32) : Prop := wp_M_goes F t0 t1 1 M (fun r2 M1 => ((r2 = 0 → Q 0 M1) ∧ (¬ r2 = 0 → wp_M_load F o0 M1 (fun M3 => wp_M_tally F o0 M3 (fun M4 => vp_in (((7 : Int32) * x1) + x2) 49 ∧ Q (M4.1 (o0 + 11) (((7 : Int32) * x1) + x2).toNatClampNeg) M4)))))
def wp_M_pair_21 (F : Nat) (o0 : Nat) (x1 : Int32) (x2 : Int32) (Q : Int32 → om_M → Prop)   (M : om_M)  (t0 : Nat) : Prop := wp_M_pair_22 F o0 x1 x2 Q M t0 0
def wp_M_pair (F : Nat) (o0 : Nat) (x1 : Int32) (x2 : Int32) (M : om_M) (Q : Int32 → om_M → Prop) : Prop := wp_M_isCandidate F o0 x1 M (fun r7 M6 => ((r7 = 0 → wp_M_pair_21 F o0 x1 x2 Q M6 o0) ∧ (¬ r7 = 0 → wp_M_isCandidate F o0 x2 M6 (fun r9 M8 => ((r9 = 0 → wp_M_pair_21 F o0 x1 x2 Q M8 o0) ∧ (¬ r9 = 0 → wp_M_pair_22 F o0 x1 x2 Q M8 o0 1))))))
def wp_M_path_22 (F : Nat) (o0 : Nat) (x1 : Int32) (x2 : Int32) (Q : Int32 → om_M → Prop)   (M : om_M)  (t0 : Nat) (t1 : Int32) : Prop := wp_M_goes F t0 t1 1 M (fun r2 M1 => ((r2 = 0 → Q 0 M1) ∧ (¬ r2 = 0 → wp_M_load F o0 M1 (fun M3 => wp_M_tally F o0 M3 (fun M4 => wp_M_findPaths F o0 M4 (fun M5 => ((x1 = x2 → Q 0 M5) ∧ (¬ x1 = x2 → vp_in (((7 : Int32) * x1) + x2) 49 ∧ Q (M5.1 (o0 + 12) (((7 : Int32) * x1) + x2).toNatClampNeg) M5))))))))
def wp_M_path_21 (F : Nat) (o0 : Nat) (x1 : Int32) (x2 : Int32) (Q : Int32 → om_M → Prop)   (M : om_M)  (t0 : Nat) : Prop := wp_M_path_22 F o0 x1 x2 Q M t0 0
def wp_M_path (F : Nat) (o0 : Nat) (x1 : Int32) (x2 : Int32) (M : om_M) (Q : Int32 → om_M → Prop) : Prop := wp_M_isCandidate F o0 x1 M (fun r8 M7 => ((r8 = 0 → wp_M_path_21 F o0 x1 x2 Q M7 o0) ∧ (¬ r8 = 0 → wp_M_isCandidate F o0 x2 M7 (fun r10 M9 => ((r10 = 0 → wp_M_path_21 F o0 x1 x2 Q M9 o0) ∧ (¬ r10 = 0 → wp_M_path_22 F o0 x1 x2 Q M9 o0 1))))))
def wp_M_branches_43 (F : Nat) (o0 : Nat) (Q : Int32 → om_M → Prop)  (K19 : om_M × Int32 × Int32 → Prop) (M : om_M) (x3 : Int32) (t0 : Int32) : Prop := K19 (M, t0, x3 + 1)
def wp_M_branches_19b (F : Nat) (o0 : Nat) (Q : Int32 → om_M → Prop)   (K19 : om_M × Int32 × Int32 → Prop) (M : om_M) (x2 : Int32) (x3 : Int32) : Prop := wp_M_all F o0 M (fun r2 M1 => ((r2 < x3 → Q x2 M1) ∧ (¬ r2 < x3 → vp_in x3 128 ∧ (((M1.1 (o0 + 14) x3.toNatClampNeg) = 0 → wp_M_branches_43 F o0 Q K19 M1 x3 x2) ∧ (¬ (M1.1 (o0 + 14) x3.toNatClampNeg) = 0 → wp_M_branches_43 F o0 Q K19 M1 x3 (x2 + 1))))))
def wp_M_branches_19 (F : Nat) (o0 : Nat) (Q : Int32 → om_M → Prop)   (M : om_M) (x2 : Int32) (x3 : Int32) : Prop := ow_lp (fun (z : om_M × Int32 × Int32) K => wp_M_branches_19b F o0 Q   K z.1 z.2.1 z.2.2) F (M, x2, x3)
def wp_M_branches (F : Nat) (o0 : Nat) (M : om_M) (Q : Int32 → om_M → Prop) : Prop := wp_M_load F o0 (om_up M o0 0 0) (fun M4 => wp_M_work F o0 4 M4 (fun r6 M5 => wp_M_branches_19 F o0 Q M5 0 1))
def wp_M_step_94 (F : Nat) (o0 : Nat) (x1 : Int32) (Q : Int32 → om_M → Prop)  (K35 : om_M × Int32 × Int32 × Int32 → Prop) (M : om_M) (x2 : Int32) (x3 : Int32) (x4 : Int32)  : Prop := K35 (M, x2 &&& (((1 : Int32) <<< (x3 &&& 31)) ^^^ (-1)), x3, x4 + 1)
def wp_M_step_87 (F : Nat) (o0 : Nat) (x1 : Int32) (Q : Int32 → om_M → Prop) (x2 : Int32) (x4 : Int32) (x5 : Int32) (K35 : om_M × Int32 × Int32 × Int32 → Prop) (K51 : om_M × Int32 × Int32 → Prop) (M : om_M) (x6 : Int32) (t0 : Int32) : Prop := K51 (M, t0, x6 + 1)
def wp_M_step_51b (F : Nat) (o0 : Nat) (x1 : Int32) (Q : Int32 → om_M → Prop) (x2 : Int32) (x4 : Int32) (x5 : Int32) (K35 : om_M × Int32 × Int32 × Int32 → Prop) (K51 : om_M × Int32 × Int32 → Prop) (M : om_M) (x3 : Int32) (x6 : Int32) : Prop := (((M.1 o0 8) ≤ x6 → wp_M_step_94 F o0 x1 Q K35 M x2 x3 x4) ∧ (¬ (M.1 o0 8) ≤ x6 → vp_in x6 7 ∧ ((((x5 >>> ((M.1 (o0 + 8) x6.toNatClampNeg) &&& 31)) &&& 1) = 1 → wp_M_step_87 F o0 x1 Q x2 x4 x5 K35 K51 M x6 (M.1 (o0 + 8) x6.toNatClampNeg)) ∧ (¬ ((x5 >>> ((M.1 (o0 + 8) x6.toNatClampNeg) &&& 31)) &&& 1) = 1 → wp_M_step_87 F o0 x1 Q x2 x4 x5 K35 K51 M x6 x3))))
def wp_M_step_51 (F : Nat) (o0 : Nat) (x1 : Int32) (Q : Int32 → om_M → Prop) (x2 : Int32) (x4 : Int32) (x5 : Int32) (K35 : om_M × Int32 × Int32 × Int32 → Prop) (M : om_M) (x3 : Int32) (x6 : Int32) : Prop := ow_lp (fun (z : om_M × Int32 × Int32) K => wp_M_step_51b F o0 x1 Q x2 x4 x5 K35 K z.1 z.2.1 z.2.2) F (M, x3, x6)
def wp_M_step_35b (F : Nat) (o0 : Nat) (x1 : Int32) (Q : Int32 → om_M → Prop)   (K35 : om_M × Int32 × Int32 × Int32 → Prop) (M : om_M) (x2 : Int32) (x3 : Int32) (x4 : Int32) : Prop := ((x1 < x4 → Q x3 M) ∧ (¬ x1 < x4 → wp_M_weakest F o0 x2 M (fun r3 M2 => wp_M_step_51 F o0 x1 Q x2 x4 r3 K35 M2 x3 0)))
def wp_M_step_35 (F : Nat) (o0 : Nat) (x1 : Int32) (Q : Int32 → om_M → Prop)   (M : om_M) (x2 : Int32) (x3 : Int32) (x4 : Int32) : Prop := ow_lp (fun (z : om_M × Int32 × Int32 × Int32) K => wp_M_step_35b F o0 x1 Q   K z.1 z.2.1 z.2.2.1 z.2.2.2) F (M, x2, x3, x4)
def wp_M_step (F : Nat) (o0 : Nat) (x1 : Int32) (M : om_M) (Q : Int32 → om_M → Prop) : Prop := wp_M_within F x1 0 ((M.1 o0 1) - 1) M (fun r5 M4 => wp_M_goes F o0 r5 1 M4 (fun r7 M6 => ((r7 = 0 → Q 0 M6) ∧ (¬ r7 = 0 → wp_M_load F o0 M6 (fun M8 => wp_M_all F o0 M8 (fun r10 M9 => wp_M_step_35 F o0 x1 Q M9 r10 (-1) 0))))))
def wp_M_firstOrder_2b (F : Nat) (o0 : Nat) (Q : om_M → Prop)   (K2 : om_M × Int32 → Prop) (M : om_M) (x1 : Int32) : Prop := ((7 ≤ x1 → Q M) ∧ (¬ 7 ≤ x1 → vp_in x1 7 ∧ K2 (om_up M (o0 + 16) x1.toNatClampNeg x1, x1 + 1)))
def wp_M_firstOrder_2 (F : Nat) (o0 : Nat) (Q : om_M → Prop)   (M : om_M) (x1 : Int32) : Prop := ow_lp (fun (z : om_M × Int32) K => wp_M_firstOrder_2b F o0 Q   K z.1 z.2) F (M, x1)
def wp_M_firstOrder (F : Nat) (o0 : Nat) (M : om_M) (Q : om_M → Prop) : Prop := wp_M_firstOrder_2 F o0 Q M 0
def wp_M_nextOrder_107b (F : Nat) (o0 : Nat) (Q : Int32 → om_M → Prop)   (K107 : om_M × Int32 × Int32 → Prop) (M : om_M) (x4 : Int32) (x5 : Int32) : Prop := ((x5 ≤ x4 → Q 1 M) ∧ (¬ x5 ≤ x4 → vp_in x4 7 ∧ vp_in x5 7 ∧ K107 (om_up (om_up M (o0 + 16) x4.toNatClampNeg (M.1 (o0 + 16) x5.toNatClampNeg)) (o0 + 16) x5.toNatClampNeg (M.1 (o0 + 16) x4.toNatClampNeg), x4 + 1, x5 + (-1))))
def wp_M_nextOrder_107 (F : Nat) (o0 : Nat) (Q : Int32 → om_M → Prop)   (M : om_M) (x4 : Int32) (x5 : Int32) : Prop := ow_lp (fun (z : om_M × Int32 × Int32) K => wp_M_nextOrder_107b F o0 Q   K z.1 z.2.1 z.2.2) F (M, x4, x5)
def wp_M_nextOrder_68 (F : Nat) (o0 : Nat) (Q : Int32 → om_M → Prop)   (M : om_M) (x1 : Int32) (x2 : Int32)  : Prop := vp_in x1 7 ∧ vp_in x2 7 ∧ wp_M_nextOrder_107 F o0 Q (om_up (om_up M (o0 + 16) x1.toNatClampNeg (M.1 (o0 + 16) x2.toNatClampNeg)) (o0 + 16) x2.toNatClampNeg (M.1 (o0 + 16) x1.toNatClampNeg)) (x1 + 1) (((om_up (om_up M (o0 + 16) x1.toNatClampNeg (M.1 (o0 + 16) x2.toNatClampNeg)) (o0 + 16) x2.toNatClampNeg (M.1 (o0 + 16) x1.toNatClampNeg)).1 o0 1) - 1)
def wp_M_nextOrder_47b (F : Nat) (o0 : Nat) (Q : Int32 → om_M → Prop) (x1 : Int32)  (K47 : om_M × Int32 → Prop) (M : om_M) (x2 : Int32) : Prop := vp_in x2 7 ∧ vp_in x1 7 ∧ (((M.1 (o0 + 16) x1.toNatClampNeg) ≤ (M.1 (o0 + 16) x2.toNatClampNeg) → wp_M_nextOrder_68 F o0 Q M x1 x2) ∧ (¬ (M.1 (o0 + 16) x1.toNatClampNeg) ≤ (M.1 (o0 + 16) x2.toNatClampNeg) → K47 (M, x2 + (-1))))
def wp_M_nextOrder_47 (F : Nat) (o0 : Nat) (Q : Int32 → om_M → Prop) (x1 : Int32)  (M : om_M) (x2 : Int32) : Prop := ow_lp (fun (z : om_M × Int32) K => wp_M_nextOrder_47b F o0 Q x1  K z.1 z.2) F (M, x2)
def wp_M_nextOrder_34 (F : Nat) (o0 : Nat) (Q : Int32 → om_M → Prop)   (M : om_M) (x1 : Int32)  : Prop := ((0 ≤ x1 → wp_M_nextOrder_47 F o0 Q x1 M ((M.1 o0 1) - 1)) ∧ (¬ 0 ≤ x1 → Q 0 M))
def wp_M_nextOrder_7b (F : Nat) (o0 : Nat) (Q : Int32 → om_M → Prop)   (K7 : om_M × Int32 → Prop) (M : om_M) (x1 : Int32) : Prop := ((x1 < 0 → wp_M_nextOrder_34 F o0 Q M x1) ∧ (¬ x1 < 0 → vp_in x1 7 ∧ vp_in (x1 + 1) 7 ∧ (((M.1 (o0 + 16) x1.toNatClampNeg) ≤ (M.1 (o0 + 16) (x1 + 1).toNatClampNeg) → wp_M_nextOrder_34 F o0 Q M x1) ∧ (¬ (M.1 (o0 + 16) x1.toNatClampNeg) ≤ (M.1 (o0 + 16) (x1 + 1).toNatClampNeg) → K7 (M, x1 + (-1))))))
def wp_M_nextOrder_7 (F : Nat) (o0 : Nat) (Q : Int32 → om_M → Prop)   (M : om_M) (x1 : Int32) : Prop := ow_lp (fun (z : om_M × Int32) K => wp_M_nextOrder_7b F o0 Q   K z.1 z.2) F (M, x1)
def wp_M_nextOrder (F : Nat) (o0 : Nat) (M : om_M) (Q : Int32 → om_M → Prop) : Prop := wp_M_nextOrder_7 F o0 Q M ((M.1 o0 1) - 2)
def wp_M_disagreementOf_58 (F : Nat) (o0 : Nat) (Q : Int64 → om_M → Prop)  (K4 : om_M × Int64 × Int32 → Prop) (M : om_M) (j1 : Int64) (x3 : Int32)  : Prop := K4 (M, j1, x3 + 1)
def wp_M_disagreementOf_17b (F : Nat) (o0 : Nat) (Q : Int64 → om_M → Prop) (x3 : Int32) (K4 : om_M × Int64 × Int32 → Prop) (K17 : om_M × Int64 × Int32 → Prop) (M : om_M) (j1 : Int64) (x4 : Int32) : Prop := (((M.1 o0 1) ≤ x4 → wp_M_disagreementOf_58 F o0 Q K4 M j1 x3) ∧ (¬ (M.1 o0 1) ≤ x4 → vp_in x4 7 ∧ vp_in x3 7 ∧ vp_in (((7 : Int32) * (M.1 (o0 + 16) x4.toNatClampNeg)) + (M.1 (o0 + 16) x3.toNatClampNeg)) 49 ∧ K17 (M, j1 + ((M.1 (o0 + 11) (((7 : Int32) * (M.1 (o0 + 16) x4.toNatClampNeg)) + (M.1 (o0 + 16) x3.toNatClampNeg)).toNatClampNeg : Int32).toInt64), x4 + 1)))
def wp_M_disagreementOf_17 (F : Nat) (o0 : Nat) (Q : Int64 → om_M → Prop) (x3 : Int32) (K4 : om_M × Int64 × Int32 → Prop) (M : om_M) (j1 : Int64) (x4 : Int32) : Prop := ow_lp (fun (z : om_M × Int64 × Int32) K => wp_M_disagreementOf_17b F o0 Q x3 K4 K z.1 z.2.1 z.2.2) F (M, j1, x4)
def wp_M_disagreementOf_4b (F : Nat) (o0 : Nat) (Q : Int64 → om_M → Prop)   (K4 : om_M × Int64 × Int32 → Prop) (M : om_M) (j1 : Int64) (x3 : Int32) : Prop := (((M.1 o0 1) ≤ x3 → Q j1 M) ∧ (¬ (M.1 o0 1) ≤ x3 → wp_M_disagreementOf_17 F o0 Q x3 K4 M j1 (x3 + 1)))
def wp_M_disagreementOf_4 (F : Nat) (o0 : Nat) (Q : Int64 → om_M → Prop)   (M : om_M) (j1 : Int64) (x3 : Int32) : Prop := ow_lp (fun (z : om_M × Int64 × Int32) K => wp_M_disagreementOf_4b F o0 Q   K z.1 z.2.1 z.2.2) F (M, j1, x3)
def wp_M_disagreementOf (F : Nat) (o0 : Nat) (M : om_M) (Q : Int64 → om_M → Prop) : Prop := wp_M_disagreementOf_4 F o0 Q M 0 0
def wp_M_sooner2_66 (F : Nat) (o0 : Nat) (Q : Int32 → om_M → Prop)   (M : om_M)   : Prop := Q 0 M
def wp_M_sooner2_31 (F : Nat) (o0 : Nat) (Q : Int32 → om_M → Prop)   (M : om_M) (x1 : Int32)  : Prop := (((M.1 o0 1) ≤ x1 → wp_M_sooner2_66 F o0 Q M) ∧ (¬ (M.1 o0 1) ≤ x1 → vp_in x1 7 ∧ wp_M_tiePlace F o0 (M.1 (o0 + 16) x1.toNatClampNeg) M (fun r3 M2 => wp_M_tiePlace F o0 (M2.1 (o0 + 17) x1.toNatClampNeg) M2 (fun r5 M4 => ((r5 ≤ r3 → wp_M_sooner2_66 F o0 Q M4) ∧ (¬ r5 ≤ r3 → Q 1 M4))))))
def wp_M_sooner2_2b (F : Nat) (o0 : Nat) (Q : Int32 → om_M → Prop)   (K2 : om_M × Int32 → Prop) (M : om_M) (x1 : Int32) : Prop := (((M.1 o0 1) ≤ x1 → wp_M_sooner2_31 F o0 Q M x1) ∧ (¬ (M.1 o0 1) ≤ x1 → vp_in x1 7 ∧ (((M.1 (o0 + 16) x1.toNatClampNeg) = (M.1 (o0 + 17) x1.toNatClampNeg) → K2 (M, x1 + 1)) ∧ (¬ (M.1 (o0 + 16) x1.toNatClampNeg) = (M.1 (o0 + 17) x1.toNatClampNeg) → wp_M_sooner2_31 F o0 Q M x1))))
def wp_M_sooner2_2 (F : Nat) (o0 : Nat) (Q : Int32 → om_M → Prop)   (M : om_M) (x1 : Int32) : Prop := ow_lp (fun (z : om_M × Int32) K => wp_M_sooner2_2b F o0 Q   K z.1 z.2) F (M, x1)
def wp_M_sooner2 (F : Nat) (o0 : Nat) (M : om_M) (Q : Int32 → om_M → Prop) : Prop := wp_M_sooner2_2 F o0 Q M 0
def wp_M_findAgreed_88 (F : Nat) (o0 : Nat) (Q : Int64 → om_M → Prop)  (K18 : om_M × Int64 × Int32 → Prop) (M : om_M) (j1 : Int64)  : Prop := wp_M_nextOrder F o0 M (fun r2 M1 => K18 (M1, j1, r2))
def wp_M_findAgreed_61b (F : Nat) (o0 : Nat) (Q : Int64 → om_M → Prop) (j1 : Int64) (K18 : om_M × Int64 × Int32 → Prop) (K61 : om_M × Int32 → Prop) (M : om_M) (x6 : Int32) : Prop := ((7 ≤ x6 → wp_M_findAgreed_88 F o0 Q K18 M j1) ∧ (¬ 7 ≤ x6 → vp_in x6 7 ∧ K61 (om_up M (o0 + 17) x6.toNatClampNeg (M.1 (o0 + 16) x6.toNatClampNeg), x6 + 1)))
def wp_M_findAgreed_61 (F : Nat) (o0 : Nat) (Q : Int64 → om_M → Prop) (j1 : Int64) (K18 : om_M × Int64 × Int32 → Prop) (M : om_M) (x6 : Int32) : Prop := ow_lp (fun (z : om_M × Int32) K => wp_M_findAgreed_61b F o0 Q j1 K18 K z.1 z.2) F (M, x6)
def wp_M_findAgreed_55 (F : Nat) (o0 : Nat) (Q : Int64 → om_M → Prop)  (K18 : om_M × Int64 × Int32 → Prop) (M : om_M) (j4 : Int64)  : Prop := wp_M_findAgreed_61 F o0 Q j4 K18 M 0
def wp_M_findAgreed_18b (F : Nat) (o0 : Nat) (Q : Int64 → om_M → Prop)   (K18 : om_M × Int64 × Int32 → Prop) (M : om_M) (j1 : Int64) (x3 : Int32) : Prop := ((x3 = 0 → Q j1 M) ∧ (¬ x3 = 0 → wp_M_disagreementOf F o0 M (fun r5 M4 => ((j1 < 0 → wp_M_findAgreed_55 F o0 Q K18 M4 r5) ∧ (¬ j1 < 0 → ((r5 < j1 → wp_M_findAgreed_55 F o0 Q K18 M4 r5) ∧ (¬ r5 < j1 → ((r5 = j1 → wp_M_sooner2 F o0 M4 (fun r7 M6 => ((r7 = 0 → wp_M_findAgreed_88 F o0 Q K18 M6 j1) ∧ (¬ r7 = 0 → wp_M_findAgreed_55 F o0 Q K18 M6 r5)))) ∧ (¬ r5 = j1 → wp_M_findAgreed_88 F o0 Q K18 M4 j1)))))))))
def wp_M_findAgreed_18 (F : Nat) (o0 : Nat) (Q : Int64 → om_M → Prop)   (M : om_M) (j1 : Int64) (x3 : Int32) : Prop := ow_lp (fun (z : om_M × Int64 × Int32) K => wp_M_findAgreed_18b F o0 Q   K z.1 z.2.1 z.2.2) F (M, j1, x3)
def wp_M_findAgreed (F : Nat) (o0 : Nat) (M : om_M) (Q : Int64 → om_M → Prop) : Prop := wp_M_load F o0 M (fun M8 => wp_M_tally F o0 M8 (fun M9 => wp_M_firstOrder F o0 M9 (fun M10 => wp_M_findAgreed_18 F o0 Q M10 (-1) 1)))
abbrev rm_M_firstOf : Room := { frames := 0, cells := 0, slots := 0, locals := 0 }
theorem hd_M_firstOf : yn_M_firstOf.cls ≠ "java/lang/invoke/MethodHandle" ∧ yn_M_firstOf.cls ≠ "java/lang/invoke/VarHandle" ∧ (parseMethodDescriptor yn_M_firstOf.desc).map (fun d => d.parameters.length) = some 1 := by decide +kernel
set_option maxHeartbeats 4000000 in
set_option maxRecDepth 100000 in
theorem ct_M_firstOf (l : Launch) (G : List (Nat × Nat)) (hG : ow_lay G) (D : va_G) (cA : Nat → ClassId) (ad : Nat → Nat) (F : Nat) (o0 : Nat) (k0 : ow_kd G o0 = (3, 9)) (x1 : Int32) (M : om_M) (Q : Int32 → om_M → Prop) (h : wp_M_firstOf F o0 x1 M Q) : Met l yn_M_firstOf (ow_ws yn_M_firstOf cb_M_firstOf 3 (some .int)) rm_M_firstOf (ow_Pc G D cA ad M [.ref (ad o0), .int x1]) (ow_Qi G D cA ad Q) 0 0 (ow_A G ad) := by
  refine Met.ofW (cc := cb_M_firstOf) (maxL := 3) (ret := (some .int)) (by decide) rfl ?_
  intro p e s m args below meth c s₁ B hml hv
  obtain ⟨rfl, hB⟩ := hv
  have hx := B.exec
  have hb := B.bytes
  have hr := B.returns
  have hlocks := B.notSynchronized
  have hts : ∀ w ∈ lw_g, w.before ([.ref (ad o0), .int x1] : List Value).toArray s = true := fun w h => atoms_spec (ws := ow_ws yn_M_firstOf cb_M_firstOf 3 (some .int)) B.pre w (List.mem_cons_of_mem _ h)
  have hown : s.vm.findClass "BallotDeskModel" = some m.cls := findClass_of_methodNamed B.named
  clear B
  have L21 : ∀   (M : om_M) (x2 : Int32)  (H : Heap) (locs : List Loc) (ls : Array Slot), wp_M_firstOf_21 F o0 x1 Q   M x2  → ow_B G D cA ad (ow_A G ad) M s s.heap H locs → lv_has ls 3 [(0, .ref (ad o0)), (2, .int x2)] → W p l e rm_M_firstOf s m ([.ref (ad o0), .int x1] : List Value).toArray below meth c H locs 0 0 (MQ below (ow_Qi G D cA ad Q) ([.ref (ad o0), .int x1] : List Value).toArray s 0 0 (ow_A G ad)) (F0 m 21 ls []) := by
    intro   M x2 H locs ls h hB hl
    refine lv_aload_n hx hb dc_M_firstOf_21 rfl (lv_at hl 0 rfl) ?_
    refine ow_get hx hb hts iw_M hown hB k0 rfl 12 (by decide) mw_809 rfl dc_M_firstOf_22 ?_
    refine lv_iload_n hx hb dc_M_firstOf_25 rfl (lv_at hl 1 rfl) ?_
    obtain ⟨hi1, h⟩ := h
    refine ow_iald hx hb hB (ly_M_tie hG k0) hi1 dc_M_firstOf_26 ?_
    exact ow_iret hx hb hr hlocks hB h dc_M_firstOf_27
  have B2 : ∀   (K2 : om_M × Int32 → Prop) (hK2 : ∀ (M : om_M) (x2 : Int32) (H : Heap) (locs : List Loc) (ls : Array Slot), K2 (M, x2) → ow_B G D cA ad (ow_A G ad) M s s.heap H locs → lv_has ls 3 [(0, .ref (ad o0)), (1, .int x1), (2, .int x2)] → W p l e rm_M_firstOf s m ([.ref (ad o0), .int x1] : List Value).toArray below meth c H locs 0 0 (MQ below (ow_Qi G D cA ad Q) ([.ref (ad o0), .int x1] : List Value).toArray s 0 0 (ow_A G ad)) (F0 m 2 ls [])) (M : om_M) (x2 : Int32) (H : Heap) (locs : List Loc) (ls : Array Slot), wp_M_firstOf_2b F o0 x1 Q   K2 M x2 → ow_B G D cA ad (ow_A G ad) M s s.heap H locs → lv_has ls 3 [(0, .ref (ad o0)), (1, .int x1), (2, .int x2)] → W p l e rm_M_firstOf s m ([.ref (ad o0), .int x1] : List Value).toArray below meth c H locs 0 0 (MQ below (ow_Qi G D cA ad Q) ([.ref (ad o0), .int x1] : List Value).toArray s 0 0 (ow_A G ad)) (F0 m 2 ls []) := by
    intro   K2 hK2 M x2 H locs ls h hB hl
    refine lv_iload_n hx hb dc_M_firstOf_2 rfl (lv_at hl 1 rfl) ?_
    refine lv_aload_n hx hb dc_M_firstOf_3 rfl (lv_at hl 0 rfl) ?_
    refine ow_get hx hb hts iw_M hown hB k0 rfl 12 (by decide) mw_809 rfl dc_M_firstOf_4 ?_
    refine lv_iload_n hx hb dc_M_firstOf_7 rfl (lv_at hl 2 rfl) ?_
    obtain ⟨hi2, h⟩ := h
    refine ow_iald hx hb hB (ly_M_tie hG k0) hi2 dc_M_firstOf_8 ?_
    refine lv_ishr hx hb dc_M_firstOf_9 ?_
    refine lv_iconst (v := 1) hx hb dc_M_firstOf_10 rfl ?_
    refine lv_iand hx hb dc_M_firstOf_11 ?_
    obtain ⟨h1, h2⟩ := h
    refine lv_if_ne hx hb dc_M_firstOf_12 rfl (fun hc => ?_) (fun hc => ?_)
    · have h := h2 hc
      exact L21 _ _ _ _ _ h hB (lv_sub hl [0, 2] rfl)
    · have h := h1 hc
      refine lv_iinc hx hb dc_M_firstOf_15 hl (k := 2) rfl rfl (by decide) rfl (fun ls hl => ?_)
      refine lv_goto hx hb dc_M_firstOf_18 rfl ?_
      exact hK2 _ _ _ _ _ h hB (lv_sub hl [1, 2, 0] rfl)
  have L2 : ∀   (M : om_M) (x2 : Int32) (H : Heap) (locs : List Loc) (ls : Array Slot), wp_M_firstOf_2 F o0 x1 Q   M x2 → ow_B G D cA ad (ow_A G ad) M s s.heap H locs → lv_has ls 3 [(0, .ref (ad o0)), (1, .int x1), (2, .int x2)] → W p l e rm_M_firstOf s m ([.ref (ad o0), .int x1] : List Value).toArray below meth c H locs 0 0 (MQ below (ow_Qi G D cA ad Q) ([.ref (ad o0), .int x1] : List Value).toArray s 0 0 (ow_A G ad)) (F0 m 2 ls []) := by
    have step : ∀ (k : Nat) (M : om_M) (x2 : Int32) (H : Heap) (locs : List Loc) (ls : Array Slot), ow_lp (fun (z : om_M × Int32) K => wp_M_firstOf_2b F o0 x1 Q   K z.1 z.2) k (M, x2) → ow_B G D cA ad (ow_A G ad) M s s.heap H locs → lv_has ls 3 [(0, .ref (ad o0)), (1, .int x1), (2, .int x2)] → W p l e rm_M_firstOf s m ([.ref (ad o0), .int x1] : List Value).toArray below meth c H locs 0 0 (MQ below (ow_Qi G D cA ad Q) ([.ref (ad o0), .int x1] : List Value).toArray s 0 0 (ow_A G ad)) (F0 m 2 ls []) := by
      intro k
      induction k with
      | zero => intro M x2 H locs ls h hB hl; exact False.elim h
      | succ k ih => intro M x2 H locs ls h hB hl; exact B2   (ow_lp _ k) (fun M x2 H locs ls h hB  hl => ih M x2  H locs ls h hB hl) M x2 H locs ls h hB hl
    intro M x2 H locs ls h hB hl
    exact step F M x2 H locs ls h hB hl
  have hl := lv_entry ([.ref (ad o0), .int x1]) (n := 3) (Nat.le_of_ble_eq_true rfl)
  rw [lg_entry_eq]
  generalize (lg_sl ([.ref (ad o0), .int x1]) ++ List.replicate (3 - (lg_sl ([.ref (ad o0), .int x1])).length) Slot.unset).toArray = ls at hl ⊢
  have hl : lv_has ls 3 [(0, .ref (ad o0)), (1, .int x1)] := hl
  show W p l e rm_M_firstOf s m _ below meth c s.heap [] 0 0 _ _
  refine lv_iconst (v := 0) hx hb dc_M_firstOf_0 rfl ?_
  refine lv_istore_n hx hb dc_M_firstOf_1 rfl hl (by decide) rfl (fun ls hl => ?_)
  exact L2 _ _ _ _ _ h hB (lv_sub hl [1, 2, 0] rfl)
abbrev rm_M_isRule : Room := { frames := 1, cells := 0, slots := 0, locals := 22 }
theorem hd_M_isRule : yn_M_isRule.cls ≠ "java/lang/invoke/MethodHandle" ∧ yn_M_isRule.cls ≠ "java/lang/invoke/VarHandle" ∧ (parseMethodDescriptor yn_M_isRule.desc).map (fun d => d.parameters.length) = some 1 := by decide +kernel
set_option maxHeartbeats 4000000 in
set_option maxRecDepth 100000 in
theorem ct_M_isRule (l : Launch) (G : List (Nat × Nat)) (hG : ow_lay G) (D : va_G) (cA : Nat → ClassId) (ad : Nat → Nat) (F : Nat) (x0 : Int32) (M : om_M) (Q : Int32 → om_M → Prop) (h : wp_M_isRule F x0 M Q) : Met l yn_M_isRule (ow_ws yn_M_isRule cb_M_isRule 1 (some .boolean)) rm_M_isRule (ow_Pc G D cA ad M [.int x0]) (ow_Qi G D cA ad Q) 0 0 (ow_A G ad) := by
  refine Met.ofW (cc := cb_M_isRule) (maxL := 1) (ret := (some .boolean)) (by decide) rfl ?_
  intro p e s m args below meth c s₁ B hml hv
  obtain ⟨rfl, hB⟩ := hv
  have hx := B.exec
  have hb := B.bytes
  have hr := B.returns
  have hlocks := B.notSynchronized
  have hts : ∀ w ∈ lw_g, w.before ([.int x0] : List Value).toArray s = true := fun w h => atoms_spec (ws := ow_ws yn_M_isRule cb_M_isRule 1 (some .boolean)) B.pre w (List.mem_cons_of_mem _ h)
  have hown : s.vm.findClass "BallotDeskModel" = some m.cls := findClass_of_methodNamed B.named
  clear B
  have hl := lv_entry ([.int x0]) (n := 1) (Nat.le_of_ble_eq_true rfl)
  rw [lg_entry_eq]
  generalize (lg_sl ([.int x0]) ++ List.replicate (1 - (lg_sl ([.int x0])).length) Slot.unset).toArray = ls at hl ⊢
  have hl : lv_has ls 1 [(0, .int x0)] := hl
  show W p l e rm_M_isRule s m _ below meth c s.heap [] 0 0 _ _
  refine lv_iload_n hx hb dc_M_isRule_0 rfl (lv_at hl 0 rfl) ?_
  refine lv_iconst (v := 0) hx hb dc_M_isRule_1 rfl ?_
  refine lv_bipush (v := 11) hx hb dc_M_isRule_2 rfl ?_
  refine ow_calli (va_runS (As := [.int x0, .int 0, .int 11]) (rest := []) ⟨hx, hb, hml, hown, hts⟩ (ct_M_within l G hG D cA ad F _ _ _ _ _ h) ⟨ow_cb 3 hts mw_881 mw_12 mw_879 rfl rfl hd_M_within ⟨Nat.le_of_ble_eq_true rfl, Nat.le_of_ble_eq_true rfl⟩, hts _ mw_880⟩ (ow_preS hB) rfl rfl hl.1 rfl (lv_room (Nat.le_of_ble_eq_true rfl)) dc_M_isRule_4 ⟨Nat.zero_le _, Nat.zero_le _⟩) hB (fun r2 M1 H locs h hB => ?_)
  obtain ⟨hz, h⟩ := h
  exact ow_zret hx hb hr hlocks hz hB h dc_M_isRule_7
abbrev rm_M_isCandidate : Room := { frames := 1, cells := 0, slots := 0, locals := 22 }
theorem hd_M_isCandidate : yn_M_isCandidate.cls ≠ "java/lang/invoke/MethodHandle" ∧ yn_M_isCandidate.cls ≠ "java/lang/invoke/VarHandle" ∧ (parseMethodDescriptor yn_M_isCandidate.desc).map (fun d => d.parameters.length) = some 1 := by decide +kernel
set_option maxHeartbeats 4000000 in
set_option maxRecDepth 100000 in
theorem ct_M_isCandidate (l : Launch) (G : List (Nat × Nat)) (hG : ow_lay G) (D : va_G) (cA : Nat → ClassId) (ad : Nat → Nat) (F : Nat) (o0 : Nat) (k0 : ow_kd G o0 = (3, 9)) (x1 : Int32) (M : om_M) (Q : Int32 → om_M → Prop) (h : wp_M_isCandidate F o0 x1 M Q) : Met l yn_M_isCandidate (ow_ws yn_M_isCandidate cb_M_isCandidate 2 (some .boolean)) rm_M_isCandidate (ow_Pc G D cA ad M [.ref (ad o0), .int x1]) (ow_Qi G D cA ad Q) 0 0 (ow_A G ad) := by
  refine Met.ofW (cc := cb_M_isCandidate) (maxL := 2) (ret := (some .boolean)) (by decide) rfl ?_
  intro p e s m args below meth c s₁ B hml hv
  obtain ⟨rfl, hB⟩ := hv
  have hx := B.exec
  have hb := B.bytes
  have hr := B.returns
  have hlocks := B.notSynchronized
  have hts : ∀ w ∈ lw_g, w.before ([.ref (ad o0), .int x1] : List Value).toArray s = true := fun w h => atoms_spec (ws := ow_ws yn_M_isCandidate cb_M_isCandidate 2 (some .boolean)) B.pre w (List.mem_cons_of_mem _ h)
  have hown : s.vm.findClass "BallotDeskModel" = some m.cls := findClass_of_methodNamed B.named
  clear B
  have hl := lv_entry ([.ref (ad o0), .int x1]) (n := 2) (Nat.le_of_ble_eq_true rfl)
  rw [lg_entry_eq]
  generalize (lg_sl ([.ref (ad o0), .int x1]) ++ List.replicate (2 - (lg_sl ([.ref (ad o0), .int x1])).length) Slot.unset).toArray = ls at hl ⊢
  have hl : lv_has ls 2 [(0, .ref (ad o0)), (1, .int x1)] := hl
  show W p l e rm_M_isCandidate s m _ below meth c s.heap [] 0 0 _ _
  refine lv_iload_n hx hb dc_M_isCandidate_0 rfl (lv_at hl 1 rfl) ?_
  refine lv_iconst (v := 0) hx hb dc_M_isCandidate_1 rfl ?_
  refine lv_aload_n hx hb dc_M_isCandidate_2 rfl (lv_at hl 0 rfl) ?_
  refine ow_get hx hb hts iw_M hown hB k0 rfl 1 (by decide) mw_798 rfl dc_M_isCandidate_3 ?_
  refine lv_iconst (v := 1) hx hb dc_M_isCandidate_6 rfl ?_
  refine lv_isub hx hb dc_M_isCandidate_7 ?_
  refine ow_calli (va_runS (As := [.int x1, .int 0, .int ((M.1 o0 1) - 1)]) (rest := []) ⟨hx, hb, hml, hown, hts⟩ (ct_M_within l G hG D cA ad F _ _ _ _ _ h) ⟨ow_cb 3 hts mw_881 mw_12 mw_879 rfl rfl hd_M_within ⟨Nat.le_of_ble_eq_true rfl, Nat.le_of_ble_eq_true rfl⟩, hts _ mw_880⟩ (ow_preS hB) rfl rfl hl.1 rfl (lv_room (Nat.le_of_ble_eq_true rfl)) dc_M_isCandidate_8 ⟨Nat.zero_le _, Nat.zero_le _⟩) hB (fun r2 M1 H locs h hB => ?_)
  obtain ⟨hz, h⟩ := h
  exact ow_zret hx hb hr hlocks hz hB h dc_M_isCandidate_11
abbrev rm_M_winners : Room := { frames := 4, cells := 0, slots := 0, locals := 99 }
theorem hd_M_winners : yn_M_winners.cls ≠ "java/lang/invoke/MethodHandle" ∧ yn_M_winners.cls ≠ "java/lang/invoke/VarHandle" ∧ (parseMethodDescriptor yn_M_winners.desc).map (fun d => d.parameters.length) = some 1 := by decide +kernel
set_option maxHeartbeats 4000000 in
set_option maxRecDepth 100000 in
theorem ct_M_winners (l : Launch) (G : List (Nat × Nat)) (hG : ow_lay G) (D : va_G) (cA : Nat → ClassId) (ad : Nat → Nat) (F : Nat) (o0 : Nat) (k0 : ow_kd G o0 = (3, 9)) (x1 : Int32) (M : om_M) (Q : Int32 → om_M → Prop) (h : wp_M_winners F o0 x1 M Q) : Met l yn_M_winners (ow_ws yn_M_winners cb_M_winners 2 (some .int)) rm_M_winners (ow_Pc G D cA ad M [.ref (ad o0), .int x1]) (ow_Qi G D cA ad Q) 0 0 (ow_A G ad) := by
  refine Met.ofW (cc := cb_M_winners) (maxL := 2) (ret := (some .int)) (by decide) rfl ?_
  intro p e s m args below meth c s₁ B hml hv
  obtain ⟨rfl, hB⟩ := hv
  have hx := B.exec
  have hb := B.bytes
  have hr := B.returns
  have hlocks := B.notSynchronized
  have hts : ∀ w ∈ lw_g, w.before ([.ref (ad o0), .int x1] : List Value).toArray s = true := fun w h => atoms_spec (ws := ow_ws yn_M_winners cb_M_winners 2 (some .int)) B.pre w (List.mem_cons_of_mem _ h)
  have hown : s.vm.findClass "BallotDeskModel" = some m.cls := findClass_of_methodNamed B.named
  clear B
  have hl := lv_entry ([.ref (ad o0), .int x1]) (n := 2) (Nat.le_of_ble_eq_true rfl)
  rw [lg_entry_eq]
  generalize (lg_sl ([.ref (ad o0), .int x1]) ++ List.replicate (2 - (lg_sl ([.ref (ad o0), .int x1])).length) Slot.unset).toArray = ls at hl ⊢
  have hl : lv_has ls 2 [(0, .ref (ad o0)), (1, .int x1)] := hl
  show W p l e rm_M_winners s m _ below meth c s.heap [] 0 0 _ _
  refine lv_aload_n hx hb dc_M_winners_0 rfl (lv_at hl 0 rfl) ?_
  refine lv_iload_n hx hb dc_M_winners_1 rfl (lv_at hl 1 rfl) ?_
  refine ow_calli (va_runS (As := [.int x1]) (rest := [.ref (ad o0)]) ⟨hx, hb, hml, hown, hts⟩ (ct_M_isRule l G hG D cA ad F _ _ _ h) ⟨ow_cb 1 hts mw_933 mw_12 mw_931 rfl rfl hd_M_isRule ⟨Nat.le_of_ble_eq_true rfl, Nat.le_of_ble_eq_true rfl⟩, hts _ mw_932⟩ (ow_preS hB) rfl rfl hl.1 rfl (lv_room (Nat.le_of_ble_eq_true rfl)) dc_M_winners_2 ⟨Nat.zero_le _, Nat.zero_le _⟩) hB (fun r2 M1 H locs h hB => ?_)
  refine lv_iconst (v := 1) hx hb dc_M_winners_5 rfl ?_
  refine ow_calli (va_runV (As := [.int r2, .int 1]) (rest := []) ⟨hx, hb, hml, hown, hts⟩ (ct_M_goes l G hG D cA ad F _ k0 _ _ _ _ h) ⟨ow_cb 2 hts mw_885 mw_12 mw_882 rfl rfl hd_M_goes ⟨Nat.le_of_ble_eq_true rfl, Nat.le_of_ble_eq_true rfl⟩, hts _ mw_884, hts _ ms_18⟩ (ow_preV hB k0 rfl) rfl rfl hl.1 rfl (lv_room (Nat.le_of_ble_eq_true rfl)) dc_M_winners_6 ⟨Nat.zero_le _, Nat.zero_le _⟩) hB (fun r4 M3 H locs h hB => ?_)
  obtain ⟨h1, h2⟩ := h
  refine lv_if_ne hx hb dc_M_winners_9 rfl (fun hc => ?_) (fun hc => ?_)
  · have h := h2 hc
    refine lv_aload_n hx hb dc_M_winners_14 rfl (lv_at hl 0 rfl) ?_
    refine ow_callv (va_runV (As := []) (rest := []) ⟨hx, hb, hml, hown, hts⟩ (ct_M_load l G hG D cA ad F _ k0 _ _ h) ⟨ow_cb 0 hts mw_937 mw_12 mw_934 rfl rfl hd_M_load ⟨Nat.le_of_ble_eq_true rfl, Nat.le_of_ble_eq_true rfl⟩, hts _ mw_936, hts _ ms_23⟩ (ow_preV hB k0 rfl) rfl rfl hl.1 rfl (lv_room (Nat.le_of_ble_eq_true rfl)) dc_M_winners_15 ⟨Nat.zero_le _, Nat.zero_le _⟩) hB (fun M5 H locs h hB => ?_)
    refine lv_aload_n hx hb dc_M_winners_18 rfl (lv_at hl 0 rfl) ?_
    refine lv_iload_n hx hb dc_M_winners_19 rfl (lv_at hl 1 rfl) ?_
    refine ow_calli (va_runV (As := [.int x1]) (rest := []) ⟨hx, hb, hml, hown, hts⟩ (ct_M_work l G hG D cA ad F _ k0 _ _ _ h) ⟨ow_cb 1 hts mw_941 mw_12 mw_938 rfl rfl hd_M_work ⟨Nat.le_of_ble_eq_true rfl, Nat.le_of_ble_eq_true rfl⟩, hts _ mw_940, hts _ ms_24⟩ (ow_preV hB k0 rfl) rfl rfl hl.1 rfl (lv_room (Nat.le_of_ble_eq_true rfl)) dc_M_winners_20 ⟨Nat.zero_le _, Nat.zero_le _⟩) hB (fun r7 M6 H locs h hB => ?_)
    exact ow_iret hx hb hr hlocks hB h dc_M_winners_23
  · have h := h1 hc
    refine lv_iconst (v := 0) hx hb dc_M_winners_12 rfl ?_
    exact ow_iret hx hb hr hlocks hB h dc_M_winners_13
abbrev rm_M_winner : Room := { frames := 4, cells := 0, slots := 0, locals := 99 }
theorem hd_M_winner : yn_M_winner.cls ≠ "java/lang/invoke/MethodHandle" ∧ yn_M_winner.cls ≠ "java/lang/invoke/VarHandle" ∧ (parseMethodDescriptor yn_M_winner.desc).map (fun d => d.parameters.length) = some 1 := by decide +kernel
set_option maxHeartbeats 4000000 in
set_option maxRecDepth 100000 in
theorem ct_M_winner (l : Launch) (G : List (Nat × Nat)) (hG : ow_lay G) (D : va_G) (cA : Nat → ClassId) (ad : Nat → Nat) (F : Nat) (o0 : Nat) (k0 : ow_kd G o0 = (3, 9)) (x1 : Int32) (M : om_M) (Q : Int32 → om_M → Prop) (h : wp_M_winner F o0 x1 M Q) : Met l yn_M_winner (ow_ws yn_M_winner cb_M_winner 2 (some .int)) rm_M_winner (ow_Pc G D cA ad M [.ref (ad o0), .int x1]) (ow_Qi G D cA ad Q) 0 0 (ow_A G ad) := by
  refine Met.ofW (cc := cb_M_winner) (maxL := 2) (ret := (some .int)) (by decide) rfl ?_
  intro p e s m args below meth c s₁ B hml hv
  obtain ⟨rfl, hB⟩ := hv
  have hx := B.exec
  have hb := B.bytes
  have hr := B.returns
  have hlocks := B.notSynchronized
  have hts : ∀ w ∈ lw_g, w.before ([.ref (ad o0), .int x1] : List Value).toArray s = true := fun w h => atoms_spec (ws := ow_ws yn_M_winner cb_M_winner 2 (some .int)) B.pre w (List.mem_cons_of_mem _ h)
  have hown : s.vm.findClass "BallotDeskModel" = some m.cls := findClass_of_methodNamed B.named
  clear B
  have hl := lv_entry ([.ref (ad o0), .int x1]) (n := 2) (Nat.le_of_ble_eq_true rfl)
  rw [lg_entry_eq]
  generalize (lg_sl ([.ref (ad o0), .int x1]) ++ List.replicate (2 - (lg_sl ([.ref (ad o0), .int x1])).length) Slot.unset).toArray = ls at hl ⊢
  have hl : lv_has ls 2 [(0, .ref (ad o0)), (1, .int x1)] := hl
  show W p l e rm_M_winner s m _ below meth c s.heap [] 0 0 _ _
  refine lv_aload_n hx hb dc_M_winner_0 rfl (lv_at hl 0 rfl) ?_
  refine lv_iload_n hx hb dc_M_winner_1 rfl (lv_at hl 1 rfl) ?_
  refine ow_calli (va_runS (As := [.int x1]) (rest := [.ref (ad o0)]) ⟨hx, hb, hml, hown, hts⟩ (ct_M_isRule l G hG D cA ad F _ _ _ h) ⟨ow_cb 1 hts mw_933 mw_12 mw_931 rfl rfl hd_M_isRule ⟨Nat.le_of_ble_eq_true rfl, Nat.le_of_ble_eq_true rfl⟩, hts _ mw_932⟩ (ow_preS hB) rfl rfl hl.1 rfl (lv_room (Nat.le_of_ble_eq_true rfl)) dc_M_winner_2 ⟨Nat.zero_le _, Nat.zero_le _⟩) hB (fun r2 M1 H locs h hB => ?_)
  refine lv_iconst (v := 1) hx hb dc_M_winner_5 rfl ?_
  refine ow_calli (va_runV (As := [.int r2, .int 1]) (rest := []) ⟨hx, hb, hml, hown, hts⟩ (ct_M_goes l G hG D cA ad F _ k0 _ _ _ _ h) ⟨ow_cb 2 hts mw_885 mw_12 mw_882 rfl rfl hd_M_goes ⟨Nat.le_of_ble_eq_true rfl, Nat.le_of_ble_eq_true rfl⟩, hts _ mw_884, hts _ ms_18⟩ (ow_preV hB k0 rfl) rfl rfl hl.1 rfl (lv_room (Nat.le_of_ble_eq_true rfl)) dc_M_winner_6 ⟨Nat.zero_le _, Nat.zero_le _⟩) hB (fun r4 M3 H locs h hB => ?_)
  obtain ⟨h1, h2⟩ := h
  refine lv_if_ne hx hb dc_M_winner_9 rfl (fun hc => ?_) (fun hc => ?_)
  · have h := h2 hc
    refine lv_aload_n hx hb dc_M_winner_14 rfl (lv_at hl 0 rfl) ?_
    refine ow_callv (va_runV (As := []) (rest := []) ⟨hx, hb, hml, hown, hts⟩ (ct_M_load l G hG D cA ad F _ k0 _ _ h) ⟨ow_cb 0 hts mw_937 mw_12 mw_934 rfl rfl hd_M_load ⟨Nat.le_of_ble_eq_true rfl, Nat.le_of_ble_eq_true rfl⟩, hts _ mw_936, hts _ ms_23⟩ (ow_preV hB k0 rfl) rfl rfl hl.1 rfl (lv_room (Nat.le_of_ble_eq_true rfl)) dc_M_winner_15 ⟨Nat.zero_le _, Nat.zero_le _⟩) hB (fun M5 H locs h hB => ?_)
    refine lv_aload_n hx hb dc_M_winner_18 rfl (lv_at hl 0 rfl) ?_
    refine lv_aload_n hx hb dc_M_winner_19 rfl (lv_at hl 0 rfl) ?_
    refine lv_iload_n hx hb dc_M_winner_20 rfl (lv_at hl 1 rfl) ?_
    refine ow_calli (va_runV (As := [.int x1]) (rest := [.ref (ad o0)]) ⟨hx, hb, hml, hown, hts⟩ (ct_M_work l G hG D cA ad F _ k0 _ _ _ h) ⟨ow_cb 1 hts mw_941 mw_12 mw_938 rfl rfl hd_M_work ⟨Nat.le_of_ble_eq_true rfl, Nat.le_of_ble_eq_true rfl⟩, hts _ mw_940, hts _ ms_24⟩ (ow_preV hB k0 rfl) rfl rfl hl.1 rfl (lv_room (Nat.le_of_ble_eq_true rfl)) dc_M_winner_21 ⟨Nat.zero_le _, Nat.zero_le _⟩) hB (fun r7 M6 H locs h hB => ?_)
    refine ow_calli (va_runV (As := [.int r7]) (rest := []) ⟨hx, hb, hml, hown, hts⟩ (ct_M_firstOf l G hG D cA ad F _ k0 _ _ _ h) ⟨ow_cb 1 hts mw_1037 mw_12 mw_1034 rfl rfl hd_M_firstOf ⟨Nat.le_of_ble_eq_true rfl, Nat.le_of_ble_eq_true rfl⟩, hts _ mw_1036, hts _ ms_46⟩ (ow_preV hB k0 rfl) rfl rfl hl.1 rfl (lv_room (Nat.le_of_ble_eq_true rfl)) dc_M_winner_24 ⟨Nat.zero_le _, Nat.zero_le _⟩) hB (fun r9 M8 H locs h hB => ?_)
    exact ow_iret hx hb hr hlocks hB h dc_M_winner_27
  · have h := h1 hc
    refine lv_iconst (v := 0) hx hb dc_M_winner_12 rfl ?_
    exact ow_iret hx hb hr hlocks hB h dc_M_winner_13
abbrev rm_M_score : Room := { frames := 2, cells := 0, slots := 0, locals := 51 }
theorem hd_M_score : yn_M_score.cls ≠ "java/lang/invoke/MethodHandle" ∧ yn_M_score.cls ≠ "java/lang/invoke/VarHandle" ∧ (parseMethodDescriptor yn_M_score.desc).map (fun d => d.parameters.length) = some 2 := by decide +kernel
set_option maxHeartbeats 4000000 in
set_option maxRecDepth 100000 in
theorem ct_M_score (l : Launch) (G : List (Nat × Nat)) (hG : ow_lay G) (D : va_G) (cA : Nat → ClassId) (ad : Nat → Nat) (F : Nat) (o0 : Nat) (k0 : ow_kd G o0 = (3, 9)) (x1 : Int32) (x2 : Int32) (M : om_M) (Q : Int64 → om_M → Prop) (h : wp_M_score F o0 x1 x2 M Q) : Met l yn_M_score (ow_ws yn_M_score cb_M_score 3 (some .long)) rm_M_score (ow_Pc G D cA ad M [.ref (ad o0), .int x1, .int x2]) (ow_Ql G D cA ad Q) 0 0 (ow_A G ad) := by
  refine Met.ofW (cc := cb_M_score) (maxL := 3) (ret := (some .long)) (by decide) rfl ?_
  intro p e s m args below meth c s₁ B hml hv
  obtain ⟨rfl, hB⟩ := hv
  have hx := B.exec
  have hb := B.bytes
  have hr := B.returns
  have hlocks := B.notSynchronized
  have hts : ∀ w ∈ lw_g, w.before ([.ref (ad o0), .int x1, .int x2] : List Value).toArray s = true := fun w h => atoms_spec (ws := ow_ws yn_M_score cb_M_score 3 (some .long)) B.pre w (List.mem_cons_of_mem _ h)
  have hown : s.vm.findClass "BallotDeskModel" = some m.cls := findClass_of_methodNamed B.named
  clear B
  have L45 : ∀   (M : om_M)  (t0 : Nat) (t1 : Int32) (t2 : Int32) (kt0 : ow_kd G t0 = (3, 9)) (H : Heap) (locs : List Loc) (ls : Array Slot), wp_M_score_45 F o0 x1 x2 Q   M  t0 t1 t2 → ow_B G D cA ad (ow_A G ad) M s s.heap H locs → lv_has ls 3 [(0, .ref (ad o0)), (1, .int x1), (2, .int x2)] → W p l e rm_M_score s m ([.ref (ad o0), .int x1, .int x2] : List Value).toArray below meth c H locs 0 0 (MQ below (ow_Ql G D cA ad Q) ([.ref (ad o0), .int x1, .int x2] : List Value).toArray s 0 0 (ow_A G ad)) (F0 m 45 ls [.int t2, .int t1, .ref (ad t0)]) := by
    intro   M t0 t1 t2 kt0 H locs ls h hB hl
    refine ow_calli (va_runV (As := [.int t1, .int t2]) (rest := []) ⟨hx, hb, hml, hown, hts⟩ (ct_M_goes l G hG D cA ad F _ kt0 _ _ _ _ h) ⟨ow_cb 2 hts mw_885 mw_12 mw_882 rfl rfl hd_M_goes ⟨Nat.le_of_ble_eq_true rfl, Nat.le_of_ble_eq_true rfl⟩, hts _ mw_884, hts _ ms_18⟩ (ow_preV hB kt0 rfl) rfl rfl hl.1 rfl (lv_room (Nat.le_of_ble_eq_true rfl)) dc_M_score_45 ⟨Nat.zero_le _, Nat.zero_le _⟩) hB (fun r2 M1 H locs h hB => ?_)
    obtain ⟨h1, h2⟩ := h
    refine lv_if_ne hx hb dc_M_score_48 rfl (fun hc => ?_) (fun hc => ?_)
    · have h := h2 hc
      refine lv_aload_n hx hb dc_M_score_53 rfl (lv_at hl 0 rfl) ?_
      refine ow_callv (va_runV (As := []) (rest := []) ⟨hx, hb, hml, hown, hts⟩ (ct_M_load l G hG D cA ad F _ k0 _ _ h) ⟨ow_cb 0 hts mw_937 mw_12 mw_934 rfl rfl hd_M_load ⟨Nat.le_of_ble_eq_true rfl, Nat.le_of_ble_eq_true rfl⟩, hts _ mw_936, hts _ ms_23⟩ (ow_preV hB k0 rfl) rfl rfl hl.1 rfl (lv_room (Nat.le_of_ble_eq_true rfl)) dc_M_score_54 ⟨Nat.zero_le _, Nat.zero_le _⟩) hB (fun M3 H locs h hB => ?_)
      refine lv_aload_n hx hb dc_M_score_57 rfl (lv_at hl 0 rfl) ?_
      refine ow_callv (va_runV (As := []) (rest := []) ⟨hx, hb, hml, hown, hts⟩ (ct_M_tally l G hG D cA ad F _ k0 _ _ h) ⟨ow_cb 0 hts mw_945 mw_12 mw_942 rfl rfl hd_M_tally ⟨Nat.le_of_ble_eq_true rfl, Nat.le_of_ble_eq_true rfl⟩, hts _ mw_944, hts _ ms_25⟩ (ow_preV hB k0 rfl) rfl rfl hl.1 rfl (lv_room (Nat.le_of_ble_eq_true rfl)) dc_M_score_58 ⟨Nat.zero_le _, Nat.zero_le _⟩) hB (fun M4 H locs h hB => ?_)
      refine lv_aload_n hx hb dc_M_score_61 rfl (lv_at hl 0 rfl) ?_
      refine lv_iload_n hx hb dc_M_score_62 rfl (lv_at hl 1 rfl) ?_
      refine lv_iload_n hx hb dc_M_score_63 rfl (lv_at hl 2 rfl) ?_
      refine ow_calll (va_runV (As := [.int x1, .int x2]) (rest := []) ⟨hx, hb, hml, hown, hts⟩ (ct_M_scored l G hG D cA ad F _ k0 _ _ _ _ h) ⟨ow_cb 2 hts mw_953 mw_12 mw_950 rfl rfl hd_M_scored ⟨Nat.le_of_ble_eq_true rfl, Nat.le_of_ble_eq_true rfl⟩, hts _ mw_952, hts _ ms_27⟩ (ow_preV hB k0 rfl) rfl rfl hl.1 rfl (lv_room (Nat.le_of_ble_eq_true rfl)) dc_M_score_64 ⟨Nat.zero_le _, Nat.zero_le _⟩) hB (fun r6 M5 H locs h hB => ?_)
      exact ow_lret hx hb hr hlocks hB h dc_M_score_67
    · have h := h1 hc
      refine lv_lconst (v := 0) hx hb dc_M_score_51 rfl ?_
      exact ow_lret hx hb hr hlocks hB h dc_M_score_52
  have L40 : ∀   (M : om_M)  (t0 : Nat) (t1 : Int32) (kt0 : ow_kd G t0 = (3, 9)) (H : Heap) (locs : List Loc) (ls : Array Slot), wp_M_score_40 F o0 x1 x2 Q   M  t0 t1 → ow_B G D cA ad (ow_A G ad) M s s.heap H locs → lv_has ls 3 [(0, .ref (ad o0)), (1, .int x1), (2, .int x2)] → W p l e rm_M_score s m ([.ref (ad o0), .int x1, .int x2] : List Value).toArray below meth c H locs 0 0 (MQ below (ow_Ql G D cA ad Q) ([.ref (ad o0), .int x1, .int x2] : List Value).toArray s 0 0 (ow_A G ad)) (F0 m 40 ls [.int t1, .ref (ad t0)]) := by
    intro   M t0 t1 kt0 H locs ls h hB hl
    refine lv_iconst (v := 1) hx hb dc_M_score_40 rfl ?_
    refine lv_goto hx hb dc_M_score_41 rfl ?_
    exact L45 _ _ _ _ kt0 _ _ _ h hB (lv_sub hl [0, 1, 2] rfl)
  have L21 : ∀   (M : om_M)  (t0 : Nat) (t1 : Int32) (kt0 : ow_kd G t0 = (3, 9)) (H : Heap) (locs : List Loc) (ls : Array Slot), wp_M_score_21 F o0 x1 x2 Q   M  t0 t1 → ow_B G D cA ad (ow_A G ad) M s s.heap H locs → lv_has ls 3 [(0, .ref (ad o0)), (1, .int x1), (2, .int x2)] → W p l e rm_M_score s m ([.ref (ad o0), .int x1, .int x2] : List Value).toArray below meth c H locs 0 0 (MQ below (ow_Ql G D cA ad Q) ([.ref (ad o0), .int x1, .int x2] : List Value).toArray s 0 0 (ow_A G ad)) (F0 m 21 ls [.int t1, .ref (ad t0)]) := by
    intro   M t0 t1 kt0 H locs ls h hB hl
    refine lv_iload_n hx hb dc_M_score_21 rfl (lv_at hl 1 rfl) ?_
    refine lv_iconst (v := 0) hx hb dc_M_score_22 rfl ?_
    refine lv_iconst (v := 2) hx hb dc_M_score_23 rfl ?_
    refine ow_calli (va_runS (As := [.int x1, .int 0, .int 2]) (rest := [.int t1, .ref (ad t0)]) ⟨hx, hb, hml, hown, hts⟩ (ct_M_within l G hG D cA ad F _ _ _ _ _ h) ⟨ow_cb 3 hts mw_881 mw_12 mw_879 rfl rfl hd_M_within ⟨Nat.le_of_ble_eq_true rfl, Nat.le_of_ble_eq_true rfl⟩, hts _ mw_880⟩ (ow_preS hB) rfl rfl hl.1 rfl (lv_room (Nat.le_of_ble_eq_true rfl)) dc_M_score_24 ⟨Nat.zero_le _, Nat.zero_le _⟩) hB (fun r8 M7 H locs h hB => ?_)
    obtain ⟨h1, h2⟩ := h
    refine lv_if_ne hx hb dc_M_score_27 rfl (fun hc => ?_) (fun hc => ?_)
    · have h := h2 hc
      exact L40 _ _ _ kt0 _ _ _ h hB (lv_sub hl [0, 1, 2] rfl)
    · have h := h1 hc
      refine lv_iload_n hx hb dc_M_score_30 rfl (lv_at hl 1 rfl) ?_
      refine lv_iconst (v := 5) hx hb dc_M_score_31 rfl ?_
      refine lv_bipush (v := 6) hx hb dc_M_score_32 rfl ?_
      refine ow_calli (va_runS (As := [.int x1, .int 5, .int 6]) (rest := [.int t1, .ref (ad t0)]) ⟨hx, hb, hml, hown, hts⟩ (ct_M_within l G hG D cA ad F _ _ _ _ _ h) ⟨ow_cb 3 hts mw_881 mw_12 mw_879 rfl rfl hd_M_within ⟨Nat.le_of_ble_eq_true rfl, Nat.le_of_ble_eq_true rfl⟩, hts _ mw_880⟩ (ow_preS hB) rfl rfl hl.1 rfl (lv_room (Nat.le_of_ble_eq_true rfl)) dc_M_score_34 ⟨Nat.zero_le _, Nat.zero_le _⟩) hB (fun r10 M9 H locs h hB => ?_)
      obtain ⟨h1, h2⟩ := h
      refine lv_if_eq hx hb dc_M_score_37 rfl (fun hc => ?_) (fun hc => ?_)
      · have h := h1 hc
        refine lv_iconst (v := 0) hx hb dc_M_score_44 rfl ?_
        exact L45 _ _ _ _ kt0 _ _ _ h hB (lv_sub hl [0, 1, 2] rfl)
      · have h := h2 hc
        exact L40 _ _ _ kt0 _ _ _ h hB (lv_sub hl [0, 1, 2] rfl)
  have L20 : ∀   (M : om_M)  (t0 : Nat) (kt0 : ow_kd G t0 = (3, 9)) (H : Heap) (locs : List Loc) (ls : Array Slot), wp_M_score_20 F o0 x1 x2 Q   M  t0 → ow_B G D cA ad (ow_A G ad) M s s.heap H locs → lv_has ls 3 [(0, .ref (ad o0)), (1, .int x1), (2, .int x2)] → W p l e rm_M_score s m ([.ref (ad o0), .int x1, .int x2] : List Value).toArray below meth c H locs 0 0 (MQ below (ow_Ql G D cA ad Q) ([.ref (ad o0), .int x1, .int x2] : List Value).toArray s 0 0 (ow_A G ad)) (F0 m 20 ls [.ref (ad t0)]) := by
    intro   M t0 kt0 H locs ls h hB hl
    refine lv_iconst (v := 0) hx hb dc_M_score_20 rfl ?_
    exact L21 _ _ _ kt0 _ _ _ h hB (lv_sub hl [0, 1, 2] rfl)
  have hl := lv_entry ([.ref (ad o0), .int x1, .int x2]) (n := 3) (Nat.le_of_ble_eq_true rfl)
  rw [lg_entry_eq]
  generalize (lg_sl ([.ref (ad o0), .int x1, .int x2]) ++ List.replicate (3 - (lg_sl ([.ref (ad o0), .int x1, .int x2])).length) Slot.unset).toArray = ls at hl ⊢
  have hl : lv_has ls 3 [(0, .ref (ad o0)), (1, .int x1), (2, .int x2)] := hl
  show W p l e rm_M_score s m _ below meth c s.heap [] 0 0 _ _
  refine lv_aload_n hx hb dc_M_score_0 rfl (lv_at hl 0 rfl) ?_
  refine lv_iload_n hx hb dc_M_score_1 rfl (lv_at hl 1 rfl) ?_
  refine ow_calli (va_runS (As := [.int x1]) (rest := [.ref (ad o0)]) ⟨hx, hb, hml, hown, hts⟩ (ct_M_isRule l G hG D cA ad F _ _ _ h) ⟨ow_cb 1 hts mw_933 mw_12 mw_931 rfl rfl hd_M_isRule ⟨Nat.le_of_ble_eq_true rfl, Nat.le_of_ble_eq_true rfl⟩, hts _ mw_932⟩ (ow_preS hB) rfl rfl hl.1 rfl (lv_room (Nat.le_of_ble_eq_true rfl)) dc_M_score_2 ⟨Nat.zero_le _, Nat.zero_le _⟩) hB (fun r12 M11 H locs h hB => ?_)
  obtain ⟨h1, h2⟩ := h
  refine lv_if_eq hx hb dc_M_score_5 rfl (fun hc => ?_) (fun hc => ?_)
  · have h := h1 hc
    exact L20 _ _ k0 _ _ _ h hB (lv_sub hl [0, 1, 2] rfl)
  · have h := h2 hc
    refine lv_aload_n hx hb dc_M_score_8 rfl (lv_at hl 0 rfl) ?_
    refine lv_iload_n hx hb dc_M_score_9 rfl (lv_at hl 2 rfl) ?_
    refine ow_calli (va_runV (As := [.int x2]) (rest := [.ref (ad o0)]) ⟨hx, hb, hml, hown, hts⟩ (ct_M_isCandidate l G hG D cA ad F _ k0 _ _ _ h) ⟨ow_cb 1 hts mw_1045 mw_12 mw_1042 rfl rfl hd_M_isCandidate ⟨Nat.le_of_ble_eq_true rfl, Nat.le_of_ble_eq_true rfl⟩, hts _ mw_1044, hts _ ms_47⟩ (ow_preV hB k0 rfl) rfl rfl hl.1 rfl (lv_room (Nat.le_of_ble_eq_true rfl)) dc_M_score_10 ⟨Nat.zero_le _, Nat.zero_le _⟩) hB (fun r14 M13 H locs h hB => ?_)
    obtain ⟨h1, h2⟩ := h
    refine lv_if_eq hx hb dc_M_score_13 rfl (fun hc => ?_) (fun hc => ?_)
    · have h := h1 hc
      exact L20 _ _ k0 _ _ _ h hB (lv_sub hl [0, 1, 2] rfl)
    · have h := h2 hc
      refine lv_iconst (v := 1) hx hb dc_M_score_16 rfl ?_
      refine lv_goto hx hb dc_M_score_17 rfl ?_
      exact L21 _ _ _ k0 _ _ _ h hB (lv_sub hl [0, 1, 2] rfl)
abbrev rm_M_pair : Room := { frames := 2, cells := 0, slots := 0, locals := 43 }
theorem hd_M_pair : yn_M_pair.cls ≠ "java/lang/invoke/MethodHandle" ∧ yn_M_pair.cls ≠ "java/lang/invoke/VarHandle" ∧ (parseMethodDescriptor yn_M_pair.desc).map (fun d => d.parameters.length) = some 2 := by decide +kernel
set_option maxHeartbeats 4000000 in
set_option maxRecDepth 100000 in
theorem ct_M_pair (l : Launch) (G : List (Nat × Nat)) (hG : ow_lay G) (D : va_G) (cA : Nat → ClassId) (ad : Nat → Nat) (F : Nat) (o0 : Nat) (k0 : ow_kd G o0 = (3, 9)) (x1 : Int32) (x2 : Int32) (M : om_M) (Q : Int32 → om_M → Prop) (h : wp_M_pair F o0 x1 x2 M Q) : Met l yn_M_pair (ow_ws yn_M_pair cb_M_pair 3 (some .int)) rm_M_pair (ow_Pc G D cA ad M [.ref (ad o0), .int x1, .int x2]) (ow_Qi G D cA ad Q) 0 0 (ow_A G ad) := by
  refine Met.ofW (cc := cb_M_pair) (maxL := 3) (ret := (some .int)) (by decide) rfl ?_
  intro p e s m args below meth c s₁ B hml hv
  obtain ⟨rfl, hB⟩ := hv
  have hx := B.exec
  have hb := B.bytes
  have hr := B.returns
  have hlocks := B.notSynchronized
  have hts : ∀ w ∈ lw_g, w.before ([.ref (ad o0), .int x1, .int x2] : List Value).toArray s = true := fun w h => atoms_spec (ws := ow_ws yn_M_pair cb_M_pair 3 (some .int)) B.pre w (List.mem_cons_of_mem _ h)
  have hown : s.vm.findClass "BallotDeskModel" = some m.cls := findClass_of_methodNamed B.named
  clear B
  have L22 : ∀   (M : om_M)  (t0 : Nat) (t1 : Int32) (kt0 : ow_kd G t0 = (3, 9)) (H : Heap) (locs : List Loc) (ls : Array Slot), wp_M_pair_22 F o0 x1 x2 Q   M  t0 t1 → ow_B G D cA ad (ow_A G ad) M s s.heap H locs → lv_has ls 3 [(0, .ref (ad o0)), (1, .int x1), (2, .int x2)] → W p l e rm_M_pair s m ([.ref (ad o0), .int x1, .int x2] : List Value).toArray below meth c H locs 0 0 (MQ below (ow_Qi G D cA ad Q) ([.ref (ad o0), .int x1, .int x2] : List Value).toArray s 0 0 (ow_A G ad)) (F0 m 22 ls [.int t1, .ref (ad t0)]) := by
    intro   M t0 t1 kt0 H locs ls h hB hl
    refine lv_iconst (v := 1) hx hb dc_M_pair_22 rfl ?_
    refine ow_calli (va_runV (As := [.int t1, .int 1]) (rest := []) ⟨hx, hb, hml, hown, hts⟩ (ct_M_goes l G hG D cA ad F _ kt0 _ _ _ _ h) ⟨ow_cb 2 hts mw_885 mw_12 mw_882 rfl rfl hd_M_goes ⟨Nat.le_of_ble_eq_true rfl, Nat.le_of_ble_eq_true rfl⟩, hts _ mw_884, hts _ ms_18⟩ (ow_preV hB kt0 rfl) rfl rfl hl.1 rfl (lv_room (Nat.le_of_ble_eq_true rfl)) dc_M_pair_23 ⟨Nat.zero_le _, Nat.zero_le _⟩) hB (fun r2 M1 H locs h hB => ?_)
    obtain ⟨h1, h2⟩ := h
    refine lv_if_ne hx hb dc_M_pair_26 rfl (fun hc => ?_) (fun hc => ?_)
    · have h := h2 hc
      refine lv_aload_n hx hb dc_M_pair_31 rfl (lv_at hl 0 rfl) ?_
      refine ow_callv (va_runV (As := []) (rest := []) ⟨hx, hb, hml, hown, hts⟩ (ct_M_load l G hG D cA ad F _ k0 _ _ h) ⟨ow_cb 0 hts mw_937 mw_12 mw_934 rfl rfl hd_M_load ⟨Nat.le_of_ble_eq_true rfl, Nat.le_of_ble_eq_true rfl⟩, hts _ mw_936, hts _ ms_23⟩ (ow_preV hB k0 rfl) rfl rfl hl.1 rfl (lv_room (Nat.le_of_ble_eq_true rfl)) dc_M_pair_32 ⟨Nat.zero_le _, Nat.zero_le _⟩) hB (fun M3 H locs h hB => ?_)
      refine lv_aload_n hx hb dc_M_pair_35 rfl (lv_at hl 0 rfl) ?_
      refine ow_callv (va_runV (As := []) (rest := []) ⟨hx, hb, hml, hown, hts⟩ (ct_M_tally l G hG D cA ad F _ k0 _ _ h) ⟨ow_cb 0 hts mw_945 mw_12 mw_942 rfl rfl hd_M_tally ⟨Nat.le_of_ble_eq_true rfl, Nat.le_of_ble_eq_true rfl⟩, hts _ mw_944, hts _ ms_25⟩ (ow_preV hB k0 rfl) rfl rfl hl.1 rfl (lv_room (Nat.le_of_ble_eq_true rfl)) dc_M_pair_36 ⟨Nat.zero_le _, Nat.zero_le _⟩) hB (fun M4 H locs h hB => ?_)
      refine lv_aload_n hx hb dc_M_pair_39 rfl (lv_at hl 0 rfl) ?_
      refine ow_get hx hb hts iw_M hown hB k0 rfl 15 (by decide) mw_812 rfl dc_M_pair_40 ?_
      refine lv_bipush (v := 7) hx hb dc_M_pair_43 rfl ?_
      refine lv_iload_n hx hb dc_M_pair_45 rfl (lv_at hl 1 rfl) ?_
      refine lv_imul hx hb dc_M_pair_46 ?_
      refine lv_iload_n hx hb dc_M_pair_47 rfl (lv_at hl 2 rfl) ?_
      refine lv_iadd hx hb dc_M_pair_48 ?_
      obtain ⟨hi5, h⟩ := h
      refine ow_iald hx hb hB (ly_M_pairs hG k0) hi5 dc_M_pair_49 ?_
      exact ow_iret hx hb hr hlocks hB h dc_M_pair_50
    · have h := h1 hc
      refine lv_iconst (v := 0) hx hb dc_M_pair_29 rfl ?_
      exact ow_iret hx hb hr hlocks hB h dc_M_pair_30
  have L21 : ∀   (M : om_M)  (t0 : Nat) (kt0 : ow_kd G t0 = (3, 9)) (H : Heap) (locs : List Loc) (ls : Array Slot), wp_M_pair_21 F o0 x1 x2 Q   M  t0 → ow_B G D cA ad (ow_A G ad) M s s.heap H locs → lv_has ls 3 [(0, .ref (ad o0)), (1, .int x1), (2, .int x2)] → W p l e rm_M_pair s m ([.ref (ad o0), .int x1, .int x2] : List Value).toArray below meth c H locs 0 0 (MQ below (ow_Qi G D cA ad Q) ([.ref (ad o0), .int x1, .int x2] : List Value).toArray s 0 0 (ow_A G ad)) (F0 m 21 ls [.ref (ad t0)]) := by
    intro   M t0 kt0 H locs ls h hB hl
    refine lv_iconst (v := 0) hx hb dc_M_pair_21 rfl ?_
    exact L22 _ _ _ kt0 _ _ _ h hB (lv_sub hl [0, 1, 2] rfl)
  have hl := lv_entry ([.ref (ad o0), .int x1, .int x2]) (n := 3) (Nat.le_of_ble_eq_true rfl)
  rw [lg_entry_eq]
  generalize (lg_sl ([.ref (ad o0), .int x1, .int x2]) ++ List.replicate (3 - (lg_sl ([.ref (ad o0), .int x1, .int x2])).length) Slot.unset).toArray = ls at hl ⊢
  have hl : lv_has ls 3 [(0, .ref (ad o0)), (1, .int x1), (2, .int x2)] := hl
  show W p l e rm_M_pair s m _ below meth c s.heap [] 0 0 _ _
  refine lv_aload_n hx hb dc_M_pair_0 rfl (lv_at hl 0 rfl) ?_
  refine lv_aload_n hx hb dc_M_pair_1 rfl (lv_at hl 0 rfl) ?_
  refine lv_iload_n hx hb dc_M_pair_2 rfl (lv_at hl 1 rfl) ?_
  refine ow_calli (va_runV (As := [.int x1]) (rest := [.ref (ad o0)]) ⟨hx, hb, hml, hown, hts⟩ (ct_M_isCandidate l G hG D cA ad F _ k0 _ _ _ h) ⟨ow_cb 1 hts mw_1045 mw_12 mw_1042 rfl rfl hd_M_isCandidate ⟨Nat.le_of_ble_eq_true rfl, Nat.le_of_ble_eq_true rfl⟩, hts _ mw_1044, hts _ ms_47⟩ (ow_preV hB k0 rfl) rfl rfl hl.1 rfl (lv_room (Nat.le_of_ble_eq_true rfl)) dc_M_pair_3 ⟨Nat.zero_le _, Nat.zero_le _⟩) hB (fun r7 M6 H locs h hB => ?_)
  obtain ⟨h1, h2⟩ := h
  refine lv_if_eq hx hb dc_M_pair_6 rfl (fun hc => ?_) (fun hc => ?_)
  · have h := h1 hc
    exact L21 _ _ k0 _ _ _ h hB (lv_sub hl [0, 1, 2] rfl)
  · have h := h2 hc
    refine lv_aload_n hx hb dc_M_pair_9 rfl (lv_at hl 0 rfl) ?_
    refine lv_iload_n hx hb dc_M_pair_10 rfl (lv_at hl 2 rfl) ?_
    refine ow_calli (va_runV (As := [.int x2]) (rest := [.ref (ad o0)]) ⟨hx, hb, hml, hown, hts⟩ (ct_M_isCandidate l G hG D cA ad F _ k0 _ _ _ h) ⟨ow_cb 1 hts mw_1045 mw_12 mw_1042 rfl rfl hd_M_isCandidate ⟨Nat.le_of_ble_eq_true rfl, Nat.le_of_ble_eq_true rfl⟩, hts _ mw_1044, hts _ ms_47⟩ (ow_preV hB k0 rfl) rfl rfl hl.1 rfl (lv_room (Nat.le_of_ble_eq_true rfl)) dc_M_pair_11 ⟨Nat.zero_le _, Nat.zero_le _⟩) hB (fun r9 M8 H locs h hB => ?_)
    obtain ⟨h1, h2⟩ := h
    refine lv_if_eq hx hb dc_M_pair_14 rfl (fun hc => ?_) (fun hc => ?_)
    · have h := h1 hc
      exact L21 _ _ k0 _ _ _ h hB (lv_sub hl [0, 1, 2] rfl)
    · have h := h2 hc
      refine lv_iconst (v := 1) hx hb dc_M_pair_17 rfl ?_
      refine lv_goto hx hb dc_M_pair_18 rfl ?_
      exact L22 _ _ _ k0 _ _ _ h hB (lv_sub hl [0, 1, 2] rfl)
abbrev rm_M_path : Room := { frames := 2, cells := 0, slots := 0, locals := 47 }
theorem hd_M_path : yn_M_path.cls ≠ "java/lang/invoke/MethodHandle" ∧ yn_M_path.cls ≠ "java/lang/invoke/VarHandle" ∧ (parseMethodDescriptor yn_M_path.desc).map (fun d => d.parameters.length) = some 2 := by decide +kernel
set_option maxHeartbeats 4000000 in
set_option maxRecDepth 100000 in
theorem ct_M_path (l : Launch) (G : List (Nat × Nat)) (hG : ow_lay G) (D : va_G) (cA : Nat → ClassId) (ad : Nat → Nat) (F : Nat) (o0 : Nat) (k0 : ow_kd G o0 = (3, 9)) (x1 : Int32) (x2 : Int32) (M : om_M) (Q : Int32 → om_M → Prop) (h : wp_M_path F o0 x1 x2 M Q) : Met l yn_M_path (ow_ws yn_M_path cb_M_path 3 (some .int)) rm_M_path (ow_Pc G D cA ad M [.ref (ad o0), .int x1, .int x2]) (ow_Qi G D cA ad Q) 0 0 (ow_A G ad) := by
  refine Met.ofW (cc := cb_M_path) (maxL := 3) (ret := (some .int)) (by decide) rfl ?_
  intro p e s m args below meth c s₁ B hml hv
  obtain ⟨rfl, hB⟩ := hv
  have hx := B.exec
  have hb := B.bytes
  have hr := B.returns
  have hlocks := B.notSynchronized
  have hts : ∀ w ∈ lw_g, w.before ([.ref (ad o0), .int x1, .int x2] : List Value).toArray s = true := fun w h => atoms_spec (ws := ow_ws yn_M_path cb_M_path 3 (some .int)) B.pre w (List.mem_cons_of_mem _ h)
  have hown : s.vm.findClass "BallotDeskModel" = some m.cls := findClass_of_methodNamed B.named
  clear B
  have L22 : ∀   (M : om_M)  (t0 : Nat) (t1 : Int32) (kt0 : ow_kd G t0 = (3, 9)) (H : Heap) (locs : List Loc) (ls : Array Slot), wp_M_path_22 F o0 x1 x2 Q   M  t0 t1 → ow_B G D cA ad (ow_A G ad) M s s.heap H locs → lv_has ls 3 [(0, .ref (ad o0)), (1, .int x1), (2, .int x2)] → W p l e rm_M_path s m ([.ref (ad o0), .int x1, .int x2] : List Value).toArray below meth c H locs 0 0 (MQ below (ow_Qi G D cA ad Q) ([.ref (ad o0), .int x1, .int x2] : List Value).toArray s 0 0 (ow_A G ad)) (F0 m 22 ls [.int t1, .ref (ad t0)]) := by
    intro   M t0 t1 kt0 H locs ls h hB hl
    refine lv_iconst (v := 1) hx hb dc_M_path_22 rfl ?_
    refine ow_calli (va_runV (As := [.int t1, .int 1]) (rest := []) ⟨hx, hb, hml, hown, hts⟩ (ct_M_goes l G hG D cA ad F _ kt0 _ _ _ _ h) ⟨ow_cb 2 hts mw_885 mw_12 mw_882 rfl rfl hd_M_goes ⟨Nat.le_of_ble_eq_true rfl, Nat.le_of_ble_eq_true rfl⟩, hts _ mw_884, hts _ ms_18⟩ (ow_preV hB kt0 rfl) rfl rfl hl.1 rfl (lv_room (Nat.le_of_ble_eq_true rfl)) dc_M_path_23 ⟨Nat.zero_le _, Nat.zero_le _⟩) hB (fun r2 M1 H locs h hB => ?_)
    obtain ⟨h1, h2⟩ := h
    refine lv_if_ne hx hb dc_M_path_26 rfl (fun hc => ?_) (fun hc => ?_)
    · have h := h2 hc
      refine lv_aload_n hx hb dc_M_path_31 rfl (lv_at hl 0 rfl) ?_
      refine ow_callv (va_runV (As := []) (rest := []) ⟨hx, hb, hml, hown, hts⟩ (ct_M_load l G hG D cA ad F _ k0 _ _ h) ⟨ow_cb 0 hts mw_937 mw_12 mw_934 rfl rfl hd_M_load ⟨Nat.le_of_ble_eq_true rfl, Nat.le_of_ble_eq_true rfl⟩, hts _ mw_936, hts _ ms_23⟩ (ow_preV hB k0 rfl) rfl rfl hl.1 rfl (lv_room (Nat.le_of_ble_eq_true rfl)) dc_M_path_32 ⟨Nat.zero_le _, Nat.zero_le _⟩) hB (fun M3 H locs h hB => ?_)
      refine lv_aload_n hx hb dc_M_path_35 rfl (lv_at hl 0 rfl) ?_
      refine ow_callv (va_runV (As := []) (rest := []) ⟨hx, hb, hml, hown, hts⟩ (ct_M_tally l G hG D cA ad F _ k0 _ _ h) ⟨ow_cb 0 hts mw_945 mw_12 mw_942 rfl rfl hd_M_tally ⟨Nat.le_of_ble_eq_true rfl, Nat.le_of_ble_eq_true rfl⟩, hts _ mw_944, hts _ ms_25⟩ (ow_preV hB k0 rfl) rfl rfl hl.1 rfl (lv_room (Nat.le_of_ble_eq_true rfl)) dc_M_path_36 ⟨Nat.zero_le _, Nat.zero_le _⟩) hB (fun M4 H locs h hB => ?_)
      refine lv_aload_n hx hb dc_M_path_39 rfl (lv_at hl 0 rfl) ?_
      refine ow_callv (va_runV (As := []) (rest := []) ⟨hx, hb, hml, hown, hts⟩ (ct_M_findPaths l G hG D cA ad F _ k0 _ _ h) ⟨ow_cb 0 hts mw_993 mw_12 mw_990 rfl rfl hd_M_findPaths ⟨Nat.le_of_ble_eq_true rfl, Nat.le_of_ble_eq_true rfl⟩, hts _ mw_992, hts _ ms_36⟩ (ow_preV hB k0 rfl) rfl rfl hl.1 rfl (lv_room (Nat.le_of_ble_eq_true rfl)) dc_M_path_40 ⟨Nat.zero_le _, Nat.zero_le _⟩) hB (fun M5 H locs h hB => ?_)
      refine lv_iload_n hx hb dc_M_path_43 rfl (lv_at hl 1 rfl) ?_
      refine lv_iload_n hx hb dc_M_path_44 rfl (lv_at hl 2 rfl) ?_
      obtain ⟨h1, h2⟩ := h
      refine lv_icmp_ne hx hb dc_M_path_45 rfl (fun hc => ?_) (fun hc => ?_)
      · have h := h2 hc
        refine lv_aload_n hx hb dc_M_path_52 rfl (lv_at hl 0 rfl) ?_
        refine ow_get hx hb hts iw_M hown hB k0 rfl 16 (by decide) mw_813 rfl dc_M_path_53 ?_
        refine lv_bipush (v := 7) hx hb dc_M_path_56 rfl ?_
        refine lv_iload_n hx hb dc_M_path_58 rfl (lv_at hl 1 rfl) ?_
        refine lv_imul hx hb dc_M_path_59 ?_
        refine lv_iload_n hx hb dc_M_path_60 rfl (lv_at hl 2 rfl) ?_
        refine lv_iadd hx hb dc_M_path_61 ?_
        obtain ⟨hi6, h⟩ := h
        refine ow_iald hx hb hB (ly_M_paths hG k0) hi6 dc_M_path_62 ?_
        exact ow_iret hx hb hr hlocks hB h dc_M_path_63
      · have h := h1 hc
        refine lv_iconst (v := 0) hx hb dc_M_path_48 rfl ?_
        refine lv_goto hx hb dc_M_path_49 rfl ?_
        exact ow_iret hx hb hr hlocks hB h dc_M_path_63
    · have h := h1 hc
      refine lv_iconst (v := 0) hx hb dc_M_path_29 rfl ?_
      exact ow_iret hx hb hr hlocks hB h dc_M_path_30
  have L21 : ∀   (M : om_M)  (t0 : Nat) (kt0 : ow_kd G t0 = (3, 9)) (H : Heap) (locs : List Loc) (ls : Array Slot), wp_M_path_21 F o0 x1 x2 Q   M  t0 → ow_B G D cA ad (ow_A G ad) M s s.heap H locs → lv_has ls 3 [(0, .ref (ad o0)), (1, .int x1), (2, .int x2)] → W p l e rm_M_path s m ([.ref (ad o0), .int x1, .int x2] : List Value).toArray below meth c H locs 0 0 (MQ below (ow_Qi G D cA ad Q) ([.ref (ad o0), .int x1, .int x2] : List Value).toArray s 0 0 (ow_A G ad)) (F0 m 21 ls [.ref (ad t0)]) := by
    intro   M t0 kt0 H locs ls h hB hl
    refine lv_iconst (v := 0) hx hb dc_M_path_21 rfl ?_
    exact L22 _ _ _ kt0 _ _ _ h hB (lv_sub hl [0, 1, 2] rfl)
  have hl := lv_entry ([.ref (ad o0), .int x1, .int x2]) (n := 3) (Nat.le_of_ble_eq_true rfl)
  rw [lg_entry_eq]
  generalize (lg_sl ([.ref (ad o0), .int x1, .int x2]) ++ List.replicate (3 - (lg_sl ([.ref (ad o0), .int x1, .int x2])).length) Slot.unset).toArray = ls at hl ⊢
  have hl : lv_has ls 3 [(0, .ref (ad o0)), (1, .int x1), (2, .int x2)] := hl
  show W p l e rm_M_path s m _ below meth c s.heap [] 0 0 _ _
  refine lv_aload_n hx hb dc_M_path_0 rfl (lv_at hl 0 rfl) ?_
  refine lv_aload_n hx hb dc_M_path_1 rfl (lv_at hl 0 rfl) ?_
  refine lv_iload_n hx hb dc_M_path_2 rfl (lv_at hl 1 rfl) ?_
  refine ow_calli (va_runV (As := [.int x1]) (rest := [.ref (ad o0)]) ⟨hx, hb, hml, hown, hts⟩ (ct_M_isCandidate l G hG D cA ad F _ k0 _ _ _ h) ⟨ow_cb 1 hts mw_1045 mw_12 mw_1042 rfl rfl hd_M_isCandidate ⟨Nat.le_of_ble_eq_true rfl, Nat.le_of_ble_eq_true rfl⟩, hts _ mw_1044, hts _ ms_47⟩ (ow_preV hB k0 rfl) rfl rfl hl.1 rfl (lv_room (Nat.le_of_ble_eq_true rfl)) dc_M_path_3 ⟨Nat.zero_le _, Nat.zero_le _⟩) hB (fun r8 M7 H locs h hB => ?_)
  obtain ⟨h1, h2⟩ := h
  refine lv_if_eq hx hb dc_M_path_6 rfl (fun hc => ?_) (fun hc => ?_)
  · have h := h1 hc
    exact L21 _ _ k0 _ _ _ h hB (lv_sub hl [0, 1, 2] rfl)
  · have h := h2 hc
    refine lv_aload_n hx hb dc_M_path_9 rfl (lv_at hl 0 rfl) ?_
    refine lv_iload_n hx hb dc_M_path_10 rfl (lv_at hl 2 rfl) ?_
    refine ow_calli (va_runV (As := [.int x2]) (rest := [.ref (ad o0)]) ⟨hx, hb, hml, hown, hts⟩ (ct_M_isCandidate l G hG D cA ad F _ k0 _ _ _ h) ⟨ow_cb 1 hts mw_1045 mw_12 mw_1042 rfl rfl hd_M_isCandidate ⟨Nat.le_of_ble_eq_true rfl, Nat.le_of_ble_eq_true rfl⟩, hts _ mw_1044, hts _ ms_47⟩ (ow_preV hB k0 rfl) rfl rfl hl.1 rfl (lv_room (Nat.le_of_ble_eq_true rfl)) dc_M_path_11 ⟨Nat.zero_le _, Nat.zero_le _⟩) hB (fun r10 M9 H locs h hB => ?_)
    obtain ⟨h1, h2⟩ := h
    refine lv_if_eq hx hb dc_M_path_14 rfl (fun hc => ?_) (fun hc => ?_)
    · have h := h1 hc
      exact L21 _ _ k0 _ _ _ h hB (lv_sub hl [0, 1, 2] rfl)
    · have h := h2 hc
      refine lv_iconst (v := 1) hx hb dc_M_path_17 rfl ?_
      refine lv_goto hx hb dc_M_path_18 rfl ?_
      exact L22 _ _ _ k0 _ _ _ h hB (lv_sub hl [0, 1, 2] rfl)
abbrev rm_M_branches : Room := { frames := 4, cells := 0, slots := 0, locals := 99 }
theorem hd_M_branches : yn_M_branches.cls ≠ "java/lang/invoke/MethodHandle" ∧ yn_M_branches.cls ≠ "java/lang/invoke/VarHandle" ∧ (parseMethodDescriptor yn_M_branches.desc).map (fun d => d.parameters.length) = some 0 := by decide +kernel
set_option maxHeartbeats 4000000 in
set_option maxRecDepth 100000 in
theorem ct_M_branches (l : Launch) (G : List (Nat × Nat)) (hG : ow_lay G) (D : va_G) (cA : Nat → ClassId) (ad : Nat → Nat) (F : Nat) (o0 : Nat) (k0 : ow_kd G o0 = (3, 9)) (M : om_M) (Q : Int32 → om_M → Prop) (h : wp_M_branches F o0 M Q) : Met l yn_M_branches (ow_ws yn_M_branches cb_M_branches 4 (some .int)) rm_M_branches (ow_Pc G D cA ad M [.ref (ad o0)]) (ow_Qi G D cA ad Q) 0 0 (ow_A G ad) := by
  refine Met.ofW (cc := cb_M_branches) (maxL := 4) (ret := (some .int)) (by decide) rfl ?_
  intro p e s m args below meth c s₁ B hml hv
  obtain ⟨rfl, hB⟩ := hv
  have hx := B.exec
  have hb := B.bytes
  have hr := B.returns
  have hlocks := B.notSynchronized
  have hts : ∀ w ∈ lw_g, w.before ([.ref (ad o0)] : List Value).toArray s = true := fun w h => atoms_spec (ws := ow_ws yn_M_branches cb_M_branches 4 (some .int)) B.pre w (List.mem_cons_of_mem _ h)
  have hown : s.vm.findClass "BallotDeskModel" = some m.cls := findClass_of_methodNamed B.named
  clear B
  have L43 : ∀  (K19 : om_M × Int32 × Int32 → Prop) (hK19 : ∀ (M : om_M) (x2 : Int32) (x3 : Int32) (H : Heap) (locs : List Loc) (ls : Array Slot), K19 (M, x2, x3) → ow_B G D cA ad (ow_A G ad) M s s.heap H locs → lv_has ls 4 [(0, .ref (ad o0)), (2, .int x2), (3, .int x3)] → W p l e rm_M_branches s m ([.ref (ad o0)] : List Value).toArray below meth c H locs 0 0 (MQ below (ow_Qi G D cA ad Q) ([.ref (ad o0)] : List Value).toArray s 0 0 (ow_A G ad)) (F0 m 19 ls [])) (M : om_M) (x3 : Int32) (t0 : Int32) (H : Heap) (locs : List Loc) (ls : Array Slot), wp_M_branches_43 F o0 Q  K19 M x3 t0 → ow_B G D cA ad (ow_A G ad) M s s.heap H locs → lv_has ls 4 [(0, .ref (ad o0)), (3, .int x3)] → W p l e rm_M_branches s m ([.ref (ad o0)] : List Value).toArray below meth c H locs 0 0 (MQ below (ow_Qi G D cA ad Q) ([.ref (ad o0)] : List Value).toArray s 0 0 (ow_A G ad)) (F0 m 43 ls [.int t0]) := by
    intro  K19 hK19 M x3 t0 H locs ls h hB hl
    refine lv_istore_n hx hb dc_M_branches_43 rfl hl (by decide) rfl (fun ls hl => ?_)
    refine lv_iinc hx hb dc_M_branches_44 hl (k := 2) rfl rfl (by decide) rfl (fun ls hl => ?_)
    refine lv_goto hx hb dc_M_branches_47 rfl ?_
    exact hK19 _ _ _ _ _ _ h hB (lv_sub hl [2, 1, 0] rfl)
  have B19 : ∀   (K19 : om_M × Int32 × Int32 → Prop) (hK19 : ∀ (M : om_M) (x2 : Int32) (x3 : Int32) (H : Heap) (locs : List Loc) (ls : Array Slot), K19 (M, x2, x3) → ow_B G D cA ad (ow_A G ad) M s s.heap H locs → lv_has ls 4 [(0, .ref (ad o0)), (2, .int x2), (3, .int x3)] → W p l e rm_M_branches s m ([.ref (ad o0)] : List Value).toArray below meth c H locs 0 0 (MQ below (ow_Qi G D cA ad Q) ([.ref (ad o0)] : List Value).toArray s 0 0 (ow_A G ad)) (F0 m 19 ls [])) (M : om_M) (x2 : Int32) (x3 : Int32) (H : Heap) (locs : List Loc) (ls : Array Slot), wp_M_branches_19b F o0 Q   K19 M x2 x3 → ow_B G D cA ad (ow_A G ad) M s s.heap H locs → lv_has ls 4 [(0, .ref (ad o0)), (2, .int x2), (3, .int x3)] → W p l e rm_M_branches s m ([.ref (ad o0)] : List Value).toArray below meth c H locs 0 0 (MQ below (ow_Qi G D cA ad Q) ([.ref (ad o0)] : List Value).toArray s 0 0 (ow_A G ad)) (F0 m 19 ls []) := by
    intro   K19 hK19 M x2 x3 H locs ls h hB hl
    refine lv_iload_n hx hb dc_M_branches_19 rfl (lv_at hl 2 rfl) ?_
    refine lv_aload_n hx hb dc_M_branches_20 rfl (lv_at hl 0 rfl) ?_
    refine ow_calli (va_runV (As := []) (rest := [.int x3]) ⟨hx, hb, hml, hown, hts⟩ (ct_M_all l G hG D cA ad F _ k0 _ _ h) ⟨ow_cb 0 hts mw_957 mw_12 mw_954 rfl rfl hd_M_all ⟨Nat.le_of_ble_eq_true rfl, Nat.le_of_ble_eq_true rfl⟩, hts _ mw_956, hts _ ms_28⟩ (ow_preV hB k0 rfl) rfl rfl hl.1 rfl (lv_room (Nat.le_of_ble_eq_true rfl)) dc_M_branches_21 ⟨Nat.zero_le _, Nat.zero_le _⟩) hB (fun r2 M1 H locs h hB => ?_)
    obtain ⟨h1, h2⟩ := h
    refine lv_icmp_gt hx hb dc_M_branches_24 rfl (fun hc => ?_) (fun hc => ?_)
    · have h := h1 hc
      refine lv_iload_n hx hb dc_M_branches_50 rfl (lv_at hl 1 rfl) ?_
      exact ow_iret hx hb hr hlocks hB h dc_M_branches_51
    · have h := h2 hc
      refine lv_aload_n hx hb dc_M_branches_27 rfl (lv_at hl 0 rfl) ?_
      refine ow_get hx hb hts iw_M hown hB k0 rfl 18 (by decide) mw_815 rfl dc_M_branches_28 ?_
      refine lv_iload_n hx hb dc_M_branches_31 rfl (lv_at hl 2 rfl) ?_
      obtain ⟨hi3, h⟩ := h
      refine ow_zald hx hb hB (ly_M_left hG k0) hi3 dc_M_branches_32 ?_
      obtain ⟨h1, h2⟩ := h
      refine lv_if_eq hx hb dc_M_branches_33 rfl (fun hc => ?_) (fun hc => ?_)
      · have h := h1 hc
        refine lv_iload_n hx hb dc_M_branches_42 rfl (lv_at hl 1 rfl) ?_
        exact L43 K19 hK19 _ _ _ _ _ _ h hB (lv_sub hl [0, 2] rfl)
      · have h := h2 hc
        refine lv_iload_n hx hb dc_M_branches_36 rfl (lv_at hl 1 rfl) ?_
        refine lv_iconst (v := 1) hx hb dc_M_branches_37 rfl ?_
        refine lv_iadd hx hb dc_M_branches_38 ?_
        refine lv_goto hx hb dc_M_branches_39 rfl ?_
        exact L43 K19 hK19 _ _ _ _ _ _ h hB (lv_sub hl [0, 2] rfl)
  have L19 : ∀   (M : om_M) (x2 : Int32) (x3 : Int32) (H : Heap) (locs : List Loc) (ls : Array Slot), wp_M_branches_19 F o0 Q   M x2 x3 → ow_B G D cA ad (ow_A G ad) M s s.heap H locs → lv_has ls 4 [(0, .ref (ad o0)), (2, .int x2), (3, .int x3)] → W p l e rm_M_branches s m ([.ref (ad o0)] : List Value).toArray below meth c H locs 0 0 (MQ below (ow_Qi G D cA ad Q) ([.ref (ad o0)] : List Value).toArray s 0 0 (ow_A G ad)) (F0 m 19 ls []) := by
    have step : ∀ (k : Nat) (M : om_M) (x2 : Int32) (x3 : Int32) (H : Heap) (locs : List Loc) (ls : Array Slot), ow_lp (fun (z : om_M × Int32 × Int32) K => wp_M_branches_19b F o0 Q   K z.1 z.2.1 z.2.2) k (M, x2, x3) → ow_B G D cA ad (ow_A G ad) M s s.heap H locs → lv_has ls 4 [(0, .ref (ad o0)), (2, .int x2), (3, .int x3)] → W p l e rm_M_branches s m ([.ref (ad o0)] : List Value).toArray below meth c H locs 0 0 (MQ below (ow_Qi G D cA ad Q) ([.ref (ad o0)] : List Value).toArray s 0 0 (ow_A G ad)) (F0 m 19 ls []) := by
      intro k
      induction k with
      | zero => intro M x2 x3 H locs ls h hB hl; exact False.elim h
      | succ k ih => intro M x2 x3 H locs ls h hB hl; exact B19   (ow_lp _ k) (fun M x2 x3 H locs ls h hB  hl => ih M x2 x3  H locs ls h hB hl) M x2 x3 H locs ls h hB hl
    intro M x2 x3 H locs ls h hB hl
    exact step F M x2 x3 H locs ls h hB hl
  have hl := lv_entry ([.ref (ad o0)]) (n := 4) (Nat.le_of_ble_eq_true rfl)
  rw [lg_entry_eq]
  generalize (lg_sl ([.ref (ad o0)]) ++ List.replicate (4 - (lg_sl ([.ref (ad o0)])).length) Slot.unset).toArray = ls at hl ⊢
  have hl : lv_has ls 4 [(0, .ref (ad o0))] := hl
  show W p l e rm_M_branches s m _ below meth c s.heap [] 0 0 _ _
  refine lv_aload_n hx hb dc_M_branches_0 rfl (lv_at hl 0 rfl) ?_
  refine lv_iconst (v := 0) hx hb dc_M_branches_1 rfl ?_
  refine ow_put hx hb hts iw_M yf_M of_M nf_M hown hB k0 rfl 0 (by decide) mw_797 rfl (by decide +kernel) (Nat.le_of_ble_eq_true rfl) rfl dc_M_branches_2 (fun H locs hB => ?_)
  refine lv_aload_n hx hb dc_M_branches_5 rfl (lv_at hl 0 rfl) ?_
  refine ow_callv (va_runV (As := []) (rest := []) ⟨hx, hb, hml, hown, hts⟩ (ct_M_load l G hG D cA ad F _ k0 _ _ h) ⟨ow_cb 0 hts mw_937 mw_12 mw_934 rfl rfl hd_M_load ⟨Nat.le_of_ble_eq_true rfl, Nat.le_of_ble_eq_true rfl⟩, hts _ mw_936, hts _ ms_23⟩ (ow_preV hB k0 rfl) rfl rfl hl.1 rfl (lv_room (Nat.le_of_ble_eq_true rfl)) dc_M_branches_6 ⟨Nat.zero_le _, Nat.zero_le _⟩) hB (fun M4 H locs h hB => ?_)
  refine lv_aload_n hx hb dc_M_branches_9 rfl (lv_at hl 0 rfl) ?_
  refine lv_iconst (v := 4) hx hb dc_M_branches_10 rfl ?_
  refine ow_calli (va_runV (As := [.int 4]) (rest := []) ⟨hx, hb, hml, hown, hts⟩ (ct_M_work l G hG D cA ad F _ k0 _ _ _ h) ⟨ow_cb 1 hts mw_941 mw_12 mw_938 rfl rfl hd_M_work ⟨Nat.le_of_ble_eq_true rfl, Nat.le_of_ble_eq_true rfl⟩, hts _ mw_940, hts _ ms_24⟩ (ow_preV hB k0 rfl) rfl rfl hl.1 rfl (lv_room (Nat.le_of_ble_eq_true rfl)) dc_M_branches_11 ⟨Nat.zero_le _, Nat.zero_le _⟩) hB (fun r6 M5 H locs h hB => ?_)
  refine lv_istore_n hx hb dc_M_branches_14 rfl hl (by decide) rfl (fun ls hl => ?_)
  refine lv_iconst (v := 0) hx hb dc_M_branches_15 rfl ?_
  refine lv_istore_n hx hb dc_M_branches_16 rfl hl (by decide) rfl (fun ls hl => ?_)
  refine lv_iconst (v := 1) hx hb dc_M_branches_17 rfl ?_
  refine lv_istore_n hx hb dc_M_branches_18 rfl hl (by decide) rfl (fun ls hl => ?_)
  exact L19 _ _ _ _ _ _ h hB (lv_sub hl [3, 1, 0] rfl)
abbrev rm_M_step : Room := { frames := 2, cells := 0, slots := 0, locals := 50 }
theorem hd_M_step : yn_M_step.cls ≠ "java/lang/invoke/MethodHandle" ∧ yn_M_step.cls ≠ "java/lang/invoke/VarHandle" ∧ (parseMethodDescriptor yn_M_step.desc).map (fun d => d.parameters.length) = some 1 := by decide +kernel
set_option maxHeartbeats 4000000 in
set_option maxRecDepth 100000 in
theorem ct_M_step (l : Launch) (G : List (Nat × Nat)) (hG : ow_lay G) (D : va_G) (cA : Nat → ClassId) (ad : Nat → Nat) (F : Nat) (o0 : Nat) (k0 : ow_kd G o0 = (3, 9)) (x1 : Int32) (M : om_M) (Q : Int32 → om_M → Prop) (h : wp_M_step F o0 x1 M Q) : Met l yn_M_step (ow_ws yn_M_step cb_M_step 7 (some .int)) rm_M_step (ow_Pc G D cA ad M [.ref (ad o0), .int x1]) (ow_Qi G D cA ad Q) 0 0 (ow_A G ad) := by
  refine Met.ofW (cc := cb_M_step) (maxL := 7) (ret := (some .int)) (by decide) rfl ?_
  intro p e s m args below meth c s₁ B hml hv
  obtain ⟨rfl, hB⟩ := hv
  have hx := B.exec
  have hb := B.bytes
  have hr := B.returns
  have hlocks := B.notSynchronized
  have hts : ∀ w ∈ lw_g, w.before ([.ref (ad o0), .int x1] : List Value).toArray s = true := fun w h => atoms_spec (ws := ow_ws yn_M_step cb_M_step 7 (some .int)) B.pre w (List.mem_cons_of_mem _ h)
  have hown : s.vm.findClass "BallotDeskModel" = some m.cls := findClass_of_methodNamed B.named
  clear B
  have L94 : ∀  (K35 : om_M × Int32 × Int32 × Int32 → Prop) (hK35 : ∀ (M : om_M) (x2 : Int32) (x3 : Int32) (x4 : Int32) (H : Heap) (locs : List Loc) (ls : Array Slot), K35 (M, x2, x3, x4) → ow_B G D cA ad (ow_A G ad) M s s.heap H locs → lv_has ls 7 [(0, .ref (ad o0)), (1, .int x1), (2, .int x2), (3, .int x3), (4, .int x4)] → W p l e rm_M_step s m ([.ref (ad o0), .int x1] : List Value).toArray below meth c H locs 0 0 (MQ below (ow_Qi G D cA ad Q) ([.ref (ad o0), .int x1] : List Value).toArray s 0 0 (ow_A G ad)) (F0 m 35 ls [])) (M : om_M) (x2 : Int32) (x3 : Int32) (x4 : Int32)  (H : Heap) (locs : List Loc) (ls : Array Slot), wp_M_step_94 F o0 x1 Q  K35 M x2 x3 x4  → ow_B G D cA ad (ow_A G ad) M s s.heap H locs → lv_has ls 7 [(0, .ref (ad o0)), (1, .int x1), (2, .int x2), (3, .int x3), (4, .int x4)] → W p l e rm_M_step s m ([.ref (ad o0), .int x1] : List Value).toArray below meth c H locs 0 0 (MQ below (ow_Qi G D cA ad Q) ([.ref (ad o0), .int x1] : List Value).toArray s 0 0 (ow_A G ad)) (F0 m 94 ls []) := by
    intro  K35 hK35 M x2 x3 x4 H locs ls h hB hl
    refine lv_iload_n hx hb dc_M_step_94 rfl (lv_at hl 2 rfl) ?_
    refine lv_iconst (v := 1) hx hb dc_M_step_95 rfl ?_
    refine lv_iload_n hx hb dc_M_step_96 rfl (lv_at hl 3 rfl) ?_
    refine lv_ishl hx hb dc_M_step_97 ?_
    refine lv_iconst (v := (-1)) hx hb dc_M_step_98 rfl ?_
    refine lv_ixor hx hb dc_M_step_99 ?_
    refine lv_iand hx hb dc_M_step_100 ?_
    refine lv_istore_n hx hb dc_M_step_101 rfl hl (by decide) rfl (fun ls hl => ?_)
    refine lv_iinc hx hb dc_M_step_102 hl (k := 4) rfl rfl (by decide) rfl (fun ls hl => ?_)
    refine lv_goto hx hb dc_M_step_105 rfl ?_
    exact hK35 _ _ _ _ _ _ _ h hB (lv_sub hl [2, 3, 1, 4, 0] rfl)
  have L87 : ∀ (x2 : Int32) (x4 : Int32) (x5 : Int32) (K35 : om_M × Int32 × Int32 × Int32 → Prop) (hK35 : ∀ (M : om_M) (x2 : Int32) (x3 : Int32) (x4 : Int32) (H : Heap) (locs : List Loc) (ls : Array Slot), K35 (M, x2, x3, x4) → ow_B G D cA ad (ow_A G ad) M s s.heap H locs → lv_has ls 7 [(0, .ref (ad o0)), (1, .int x1), (2, .int x2), (3, .int x3), (4, .int x4)] → W p l e rm_M_step s m ([.ref (ad o0), .int x1] : List Value).toArray below meth c H locs 0 0 (MQ below (ow_Qi G D cA ad Q) ([.ref (ad o0), .int x1] : List Value).toArray s 0 0 (ow_A G ad)) (F0 m 35 ls [])) (K51 : om_M × Int32 × Int32 → Prop) (hK51 : ∀ (M : om_M) (x3 : Int32) (x6 : Int32) (H : Heap) (locs : List Loc) (ls : Array Slot), K51 (M, x3, x6) → ow_B G D cA ad (ow_A G ad) M s s.heap H locs → lv_has ls 7 [(0, .ref (ad o0)), (1, .int x1), (2, .int x2), (3, .int x3), (4, .int x4), (5, .int x5), (6, .int x6)] → W p l e rm_M_step s m ([.ref (ad o0), .int x1] : List Value).toArray below meth c H locs 0 0 (MQ below (ow_Qi G D cA ad Q) ([.ref (ad o0), .int x1] : List Value).toArray s 0 0 (ow_A G ad)) (F0 m 51 ls [])) (M : om_M) (x6 : Int32) (t0 : Int32) (H : Heap) (locs : List Loc) (ls : Array Slot), wp_M_step_87 F o0 x1 Q x2 x4 x5 K35 K51 M x6 t0 → ow_B G D cA ad (ow_A G ad) M s s.heap H locs → lv_has ls 7 [(0, .ref (ad o0)), (1, .int x1), (2, .int x2), (4, .int x4), (5, .int x5), (6, .int x6)] → W p l e rm_M_step s m ([.ref (ad o0), .int x1] : List Value).toArray below meth c H locs 0 0 (MQ below (ow_Qi G D cA ad Q) ([.ref (ad o0), .int x1] : List Value).toArray s 0 0 (ow_A G ad)) (F0 m 87 ls [.int t0]) := by
    intro x2 x4 x5 K35 hK35 K51 hK51 M x6 t0 H locs ls h hB hl
    refine lv_istore_n hx hb dc_M_step_87 rfl hl (by decide) rfl (fun ls hl => ?_)
    refine lv_iinc hx hb dc_M_step_88 hl (k := 6) rfl rfl (by decide) rfl (fun ls hl => ?_)
    refine lv_goto hx hb dc_M_step_91 rfl ?_
    exact hK51 _ _ _ _ _ _ h hB (lv_sub hl [2, 3, 4, 1, 5, 6, 0] rfl)
  have B51 : ∀ (x2 : Int32) (x4 : Int32) (x5 : Int32) (K35 : om_M × Int32 × Int32 × Int32 → Prop) (hK35 : ∀ (M : om_M) (x2 : Int32) (x3 : Int32) (x4 : Int32) (H : Heap) (locs : List Loc) (ls : Array Slot), K35 (M, x2, x3, x4) → ow_B G D cA ad (ow_A G ad) M s s.heap H locs → lv_has ls 7 [(0, .ref (ad o0)), (1, .int x1), (2, .int x2), (3, .int x3), (4, .int x4)] → W p l e rm_M_step s m ([.ref (ad o0), .int x1] : List Value).toArray below meth c H locs 0 0 (MQ below (ow_Qi G D cA ad Q) ([.ref (ad o0), .int x1] : List Value).toArray s 0 0 (ow_A G ad)) (F0 m 35 ls [])) (K51 : om_M × Int32 × Int32 → Prop) (hK51 : ∀ (M : om_M) (x3 : Int32) (x6 : Int32) (H : Heap) (locs : List Loc) (ls : Array Slot), K51 (M, x3, x6) → ow_B G D cA ad (ow_A G ad) M s s.heap H locs → lv_has ls 7 [(0, .ref (ad o0)), (1, .int x1), (2, .int x2), (3, .int x3), (4, .int x4), (5, .int x5), (6, .int x6)] → W p l e rm_M_step s m ([.ref (ad o0), .int x1] : List Value).toArray below meth c H locs 0 0 (MQ below (ow_Qi G D cA ad Q) ([.ref (ad o0), .int x1] : List Value).toArray s 0 0 (ow_A G ad)) (F0 m 51 ls [])) (M : om_M) (x3 : Int32) (x6 : Int32) (H : Heap) (locs : List Loc) (ls : Array Slot), wp_M_step_51b F o0 x1 Q x2 x4 x5 K35 K51 M x3 x6 → ow_B G D cA ad (ow_A G ad) M s s.heap H locs → lv_has ls 7 [(0, .ref (ad o0)), (1, .int x1), (2, .int x2), (3, .int x3), (4, .int x4), (5, .int x5), (6, .int x6)] → W p l e rm_M_step s m ([.ref (ad o0), .int x1] : List Value).toArray below meth c H locs 0 0 (MQ below (ow_Qi G D cA ad Q) ([.ref (ad o0), .int x1] : List Value).toArray s 0 0 (ow_A G ad)) (F0 m 51 ls []) := by
    intro x2 x4 x5 K35 hK35 K51 hK51 M x3 x6 H locs ls h hB hl
    refine lv_iload hx hb dc_M_step_51 (lv_at hl 6 rfl) ?_
    refine lv_aload_n hx hb dc_M_step_53 rfl (lv_at hl 0 rfl) ?_
    refine ow_get hx hb hts iw_M hown hB k0 rfl 8 (by decide) mw_805 rfl dc_M_step_54 ?_
    obtain ⟨h1, h2⟩ := h
    refine lv_icmp_ge hx hb dc_M_step_57 rfl (fun hc => ?_) (fun hc => ?_)
    · have h := h1 hc
      exact L94 K35 hK35 _ _ _ _ _ _ _ h hB (lv_sub hl [0, 1, 2, 3, 4] rfl)
    · have h := h2 hc
      refine lv_iload hx hb dc_M_step_60 (lv_at hl 5 rfl) ?_
      refine lv_aload_n hx hb dc_M_step_62 rfl (lv_at hl 0 rfl) ?_
      refine ow_get hx hb hts iw_M hown hB k0 rfl 12 (by decide) mw_809 rfl dc_M_step_63 ?_
      refine lv_iload hx hb dc_M_step_66 (lv_at hl 6 rfl) ?_
      obtain ⟨hi1, h⟩ := h
      refine ow_iald hx hb hB (ly_M_tie hG k0) hi1 dc_M_step_68 ?_
      refine lv_ishr hx hb dc_M_step_69 ?_
      refine lv_iconst (v := 1) hx hb dc_M_step_70 rfl ?_
      refine lv_iand hx hb dc_M_step_71 ?_
      refine lv_iconst (v := 1) hx hb dc_M_step_72 rfl ?_
      obtain ⟨h1, h2⟩ := h
      refine lv_icmp_ne hx hb dc_M_step_73 rfl (fun hc => ?_) (fun hc => ?_)
      · have h := h2 hc
        refine lv_iload_n hx hb dc_M_step_86 rfl (lv_at hl 3 rfl) ?_
        exact L87 _ _ _ K35 hK35 K51 hK51 _ _ _ _ _ _ h hB (lv_sub hl [0, 1, 2, 4, 5, 6] rfl)
      · have h := h1 hc
        refine lv_aload_n hx hb dc_M_step_76 rfl (lv_at hl 0 rfl) ?_
        refine ow_get hx hb hts iw_M hown hB k0 rfl 12 (by decide) mw_809 rfl dc_M_step_77 ?_
        refine lv_iload hx hb dc_M_step_80 (lv_at hl 6 rfl) ?_
        refine ow_iald hx hb hB (ly_M_tie hG k0) hi1 dc_M_step_82 ?_
        refine lv_goto hx hb dc_M_step_83 rfl ?_
        exact L87 _ _ _ K35 hK35 K51 hK51 _ _ _ _ _ _ h hB (lv_sub hl [0, 1, 2, 4, 5, 6] rfl)
  have L51 : ∀ (x2 : Int32) (x4 : Int32) (x5 : Int32) (K35 : om_M × Int32 × Int32 × Int32 → Prop) (hK35 : ∀ (M : om_M) (x2 : Int32) (x3 : Int32) (x4 : Int32) (H : Heap) (locs : List Loc) (ls : Array Slot), K35 (M, x2, x3, x4) → ow_B G D cA ad (ow_A G ad) M s s.heap H locs → lv_has ls 7 [(0, .ref (ad o0)), (1, .int x1), (2, .int x2), (3, .int x3), (4, .int x4)] → W p l e rm_M_step s m ([.ref (ad o0), .int x1] : List Value).toArray below meth c H locs 0 0 (MQ below (ow_Qi G D cA ad Q) ([.ref (ad o0), .int x1] : List Value).toArray s 0 0 (ow_A G ad)) (F0 m 35 ls [])) (M : om_M) (x3 : Int32) (x6 : Int32) (H : Heap) (locs : List Loc) (ls : Array Slot), wp_M_step_51 F o0 x1 Q x2 x4 x5 K35 M x3 x6 → ow_B G D cA ad (ow_A G ad) M s s.heap H locs → lv_has ls 7 [(0, .ref (ad o0)), (1, .int x1), (2, .int x2), (3, .int x3), (4, .int x4), (5, .int x5), (6, .int x6)] → W p l e rm_M_step s m ([.ref (ad o0), .int x1] : List Value).toArray below meth c H locs 0 0 (MQ below (ow_Qi G D cA ad Q) ([.ref (ad o0), .int x1] : List Value).toArray s 0 0 (ow_A G ad)) (F0 m 51 ls []) := by
    intro x2 x4 x5 K35 hK35
    have step : ∀ (k : Nat) (M : om_M) (x3 : Int32) (x6 : Int32) (H : Heap) (locs : List Loc) (ls : Array Slot), ow_lp (fun (z : om_M × Int32 × Int32) K => wp_M_step_51b F o0 x1 Q x2 x4 x5 K35 K z.1 z.2.1 z.2.2) k (M, x3, x6) → ow_B G D cA ad (ow_A G ad) M s s.heap H locs → lv_has ls 7 [(0, .ref (ad o0)), (1, .int x1), (2, .int x2), (3, .int x3), (4, .int x4), (5, .int x5), (6, .int x6)] → W p l e rm_M_step s m ([.ref (ad o0), .int x1] : List Value).toArray below meth c H locs 0 0 (MQ below (ow_Qi G D cA ad Q) ([.ref (ad o0), .int x1] : List Value).toArray s 0 0 (ow_A G ad)) (F0 m 51 ls []) := by
      intro k
      induction k with
      | zero => intro M x3 x6 H locs ls h hB hl; exact False.elim h
      | succ k ih => intro M x3 x6 H locs ls h hB hl; exact B51 x2 x4 x5 K35 hK35 (ow_lp _ k) (fun M x3 x6 H locs ls h hB  hl => ih M x3 x6  H locs ls h hB hl) M x3 x6 H locs ls h hB hl
    intro M x3 x6 H locs ls h hB hl
    exact step F M x3 x6 H locs ls h hB hl
  have B35 : ∀   (K35 : om_M × Int32 × Int32 × Int32 → Prop) (hK35 : ∀ (M : om_M) (x2 : Int32) (x3 : Int32) (x4 : Int32) (H : Heap) (locs : List Loc) (ls : Array Slot), K35 (M, x2, x3, x4) → ow_B G D cA ad (ow_A G ad) M s s.heap H locs → lv_has ls 7 [(0, .ref (ad o0)), (1, .int x1), (2, .int x2), (3, .int x3), (4, .int x4)] → W p l e rm_M_step s m ([.ref (ad o0), .int x1] : List Value).toArray below meth c H locs 0 0 (MQ below (ow_Qi G D cA ad Q) ([.ref (ad o0), .int x1] : List Value).toArray s 0 0 (ow_A G ad)) (F0 m 35 ls [])) (M : om_M) (x2 : Int32) (x3 : Int32) (x4 : Int32) (H : Heap) (locs : List Loc) (ls : Array Slot), wp_M_step_35b F o0 x1 Q   K35 M x2 x3 x4 → ow_B G D cA ad (ow_A G ad) M s s.heap H locs → lv_has ls 7 [(0, .ref (ad o0)), (1, .int x1), (2, .int x2), (3, .int x3), (4, .int x4)] → W p l e rm_M_step s m ([.ref (ad o0), .int x1] : List Value).toArray below meth c H locs 0 0 (MQ below (ow_Qi G D cA ad Q) ([.ref (ad o0), .int x1] : List Value).toArray s 0 0 (ow_A G ad)) (F0 m 35 ls []) := by
    intro   K35 hK35 M x2 x3 x4 H locs ls h hB hl
    refine lv_iload hx hb dc_M_step_35 (lv_at hl 4 rfl) ?_
    refine lv_iload_n hx hb dc_M_step_37 rfl (lv_at hl 1 rfl) ?_
    obtain ⟨h1, h2⟩ := h
    refine lv_icmp_gt hx hb dc_M_step_38 rfl (fun hc => ?_) (fun hc => ?_)
    · have h := h1 hc
      refine lv_iload_n hx hb dc_M_step_108 rfl (lv_at hl 3 rfl) ?_
      exact ow_iret hx hb hr hlocks hB h dc_M_step_109
    · have h := h2 hc
      refine lv_aload_n hx hb dc_M_step_41 rfl (lv_at hl 0 rfl) ?_
      refine lv_iload_n hx hb dc_M_step_42 rfl (lv_at hl 2 rfl) ?_
      refine ow_calli (va_runV (As := [.int x2]) (rest := []) ⟨hx, hb, hml, hown, hts⟩ (ct_M_weakest l G hG D cA ad F _ k0 _ _ _ h) ⟨ow_cb 1 hts mw_985 mw_12 mw_982 rfl rfl hd_M_weakest ⟨Nat.le_of_ble_eq_true rfl, Nat.le_of_ble_eq_true rfl⟩, hts _ mw_984, hts _ ms_34⟩ (ow_preV hB k0 rfl) rfl rfl hl.1 rfl (lv_room (Nat.le_of_ble_eq_true rfl)) dc_M_step_43 ⟨Nat.zero_le _, Nat.zero_le _⟩) hB (fun r3 M2 H locs h hB => ?_)
      refine lv_istore hx hb dc_M_step_46 hl (by decide) rfl (fun ls hl => ?_)
      refine lv_iconst (v := 0) hx hb dc_M_step_48 rfl ?_
      refine lv_istore hx hb dc_M_step_49 hl (by decide) rfl (fun ls hl => ?_)
      exact L51 _ _ _ K35 hK35 _ _ _ _ _ _ h hB (lv_sub hl [2, 3, 4, 5, 6, 1, 0] rfl)
  have L35 : ∀   (M : om_M) (x2 : Int32) (x3 : Int32) (x4 : Int32) (H : Heap) (locs : List Loc) (ls : Array Slot), wp_M_step_35 F o0 x1 Q   M x2 x3 x4 → ow_B G D cA ad (ow_A G ad) M s s.heap H locs → lv_has ls 7 [(0, .ref (ad o0)), (1, .int x1), (2, .int x2), (3, .int x3), (4, .int x4)] → W p l e rm_M_step s m ([.ref (ad o0), .int x1] : List Value).toArray below meth c H locs 0 0 (MQ below (ow_Qi G D cA ad Q) ([.ref (ad o0), .int x1] : List Value).toArray s 0 0 (ow_A G ad)) (F0 m 35 ls []) := by
    have step : ∀ (k : Nat) (M : om_M) (x2 : Int32) (x3 : Int32) (x4 : Int32) (H : Heap) (locs : List Loc) (ls : Array Slot), ow_lp (fun (z : om_M × Int32 × Int32 × Int32) K => wp_M_step_35b F o0 x1 Q   K z.1 z.2.1 z.2.2.1 z.2.2.2) k (M, x2, x3, x4) → ow_B G D cA ad (ow_A G ad) M s s.heap H locs → lv_has ls 7 [(0, .ref (ad o0)), (1, .int x1), (2, .int x2), (3, .int x3), (4, .int x4)] → W p l e rm_M_step s m ([.ref (ad o0), .int x1] : List Value).toArray below meth c H locs 0 0 (MQ below (ow_Qi G D cA ad Q) ([.ref (ad o0), .int x1] : List Value).toArray s 0 0 (ow_A G ad)) (F0 m 35 ls []) := by
      intro k
      induction k with
      | zero => intro M x2 x3 x4 H locs ls h hB hl; exact False.elim h
      | succ k ih => intro M x2 x3 x4 H locs ls h hB hl; exact B35   (ow_lp _ k) (fun M x2 x3 x4 H locs ls h hB  hl => ih M x2 x3 x4  H locs ls h hB hl) M x2 x3 x4 H locs ls h hB hl
    intro M x2 x3 x4 H locs ls h hB hl
    exact step F M x2 x3 x4 H locs ls h hB hl
  have hl := lv_entry ([.ref (ad o0), .int x1]) (n := 7) (Nat.le_of_ble_eq_true rfl)
  rw [lg_entry_eq]
  generalize (lg_sl ([.ref (ad o0), .int x1]) ++ List.replicate (7 - (lg_sl ([.ref (ad o0), .int x1])).length) Slot.unset).toArray = ls at hl ⊢
  have hl : lv_has ls 7 [(0, .ref (ad o0)), (1, .int x1)] := hl
  show W p l e rm_M_step s m _ below meth c s.heap [] 0 0 _ _
  refine lv_aload_n hx hb dc_M_step_0 rfl (lv_at hl 0 rfl) ?_
  refine lv_iload_n hx hb dc_M_step_1 rfl (lv_at hl 1 rfl) ?_
  refine lv_iconst (v := 0) hx hb dc_M_step_2 rfl ?_
  refine lv_aload_n hx hb dc_M_step_3 rfl (lv_at hl 0 rfl) ?_
  refine ow_get hx hb hts iw_M hown hB k0 rfl 1 (by decide) mw_798 rfl dc_M_step_4 ?_
  refine lv_iconst (v := 1) hx hb dc_M_step_7 rfl ?_
  refine lv_isub hx hb dc_M_step_8 ?_
  refine ow_calli (va_runS (As := [.int x1, .int 0, .int ((M.1 o0 1) - 1)]) (rest := [.ref (ad o0)]) ⟨hx, hb, hml, hown, hts⟩ (ct_M_within l G hG D cA ad F _ _ _ _ _ h) ⟨ow_cb 3 hts mw_881 mw_12 mw_879 rfl rfl hd_M_within ⟨Nat.le_of_ble_eq_true rfl, Nat.le_of_ble_eq_true rfl⟩, hts _ mw_880⟩ (ow_preS hB) rfl rfl hl.1 rfl (lv_room (Nat.le_of_ble_eq_true rfl)) dc_M_step_9 ⟨Nat.zero_le _, Nat.zero_le _⟩) hB (fun r5 M4 H locs h hB => ?_)
  refine lv_iconst (v := 1) hx hb dc_M_step_12 rfl ?_
  refine ow_calli (va_runV (As := [.int r5, .int 1]) (rest := []) ⟨hx, hb, hml, hown, hts⟩ (ct_M_goes l G hG D cA ad F _ k0 _ _ _ _ h) ⟨ow_cb 2 hts mw_885 mw_12 mw_882 rfl rfl hd_M_goes ⟨Nat.le_of_ble_eq_true rfl, Nat.le_of_ble_eq_true rfl⟩, hts _ mw_884, hts _ ms_18⟩ (ow_preV hB k0 rfl) rfl rfl hl.1 rfl (lv_room (Nat.le_of_ble_eq_true rfl)) dc_M_step_13 ⟨Nat.zero_le _, Nat.zero_le _⟩) hB (fun r7 M6 H locs h hB => ?_)
  obtain ⟨h1, h2⟩ := h
  refine lv_if_ne hx hb dc_M_step_16 rfl (fun hc => ?_) (fun hc => ?_)
  · have h := h2 hc
    refine lv_aload_n hx hb dc_M_step_21 rfl (lv_at hl 0 rfl) ?_
    refine ow_callv (va_runV (As := []) (rest := []) ⟨hx, hb, hml, hown, hts⟩ (ct_M_load l G hG D cA ad F _ k0 _ _ h) ⟨ow_cb 0 hts mw_937 mw_12 mw_934 rfl rfl hd_M_load ⟨Nat.le_of_ble_eq_true rfl, Nat.le_of_ble_eq_true rfl⟩, hts _ mw_936, hts _ ms_23⟩ (ow_preV hB k0 rfl) rfl rfl hl.1 rfl (lv_room (Nat.le_of_ble_eq_true rfl)) dc_M_step_22 ⟨Nat.zero_le _, Nat.zero_le _⟩) hB (fun M8 H locs h hB => ?_)
    refine lv_aload_n hx hb dc_M_step_25 rfl (lv_at hl 0 rfl) ?_
    refine ow_calli (va_runV (As := []) (rest := []) ⟨hx, hb, hml, hown, hts⟩ (ct_M_all l G hG D cA ad F _ k0 _ _ h) ⟨ow_cb 0 hts mw_957 mw_12 mw_954 rfl rfl hd_M_all ⟨Nat.le_of_ble_eq_true rfl, Nat.le_of_ble_eq_true rfl⟩, hts _ mw_956, hts _ ms_28⟩ (ow_preV hB k0 rfl) rfl rfl hl.1 rfl (lv_room (Nat.le_of_ble_eq_true rfl)) dc_M_step_26 ⟨Nat.zero_le _, Nat.zero_le _⟩) hB (fun r10 M9 H locs h hB => ?_)
    refine lv_istore_n hx hb dc_M_step_29 rfl hl (by decide) rfl (fun ls hl => ?_)
    refine lv_iconst (v := (-1)) hx hb dc_M_step_30 rfl ?_
    refine lv_istore_n hx hb dc_M_step_31 rfl hl (by decide) rfl (fun ls hl => ?_)
    refine lv_iconst (v := 0) hx hb dc_M_step_32 rfl ?_
    refine lv_istore hx hb dc_M_step_33 hl (by decide) rfl (fun ls hl => ?_)
    exact L35 _ _ _ _ _ _ _ h hB (lv_sub hl [3, 4, 2, 1, 0] rfl)
  · have h := h1 hc
    refine lv_iconst (v := 0) hx hb dc_M_step_19 rfl ?_
    exact ow_iret hx hb hr hlocks hB h dc_M_step_20
abbrev rm_M_firstOrder : Room := { frames := 0, cells := 0, slots := 0, locals := 0 }
theorem hd_M_firstOrder : yn_M_firstOrder.cls ≠ "java/lang/invoke/MethodHandle" ∧ yn_M_firstOrder.cls ≠ "java/lang/invoke/VarHandle" ∧ (parseMethodDescriptor yn_M_firstOrder.desc).map (fun d => d.parameters.length) = some 0 := by decide +kernel
set_option maxHeartbeats 4000000 in
set_option maxRecDepth 100000 in
theorem ct_M_firstOrder (l : Launch) (G : List (Nat × Nat)) (hG : ow_lay G) (D : va_G) (cA : Nat → ClassId) (ad : Nat → Nat) (F : Nat) (o0 : Nat) (k0 : ow_kd G o0 = (3, 9)) (M : om_M) (Q : om_M → Prop) (h : wp_M_firstOrder F o0 M Q) : Met l yn_M_firstOrder (ow_ws yn_M_firstOrder cb_M_firstOrder 2 none) rm_M_firstOrder (ow_Pc G D cA ad M [.ref (ad o0)]) (ow_Qv G D cA ad Q) 0 0 (ow_A G ad) := by
  refine Met.ofW (cc := cb_M_firstOrder) (maxL := 2) (ret := none) (by decide) rfl ?_
  intro p e s m args below meth c s₁ B hml hv
  obtain ⟨rfl, hB⟩ := hv
  have hx := B.exec
  have hb := B.bytes
  have hr := B.returns
  have hlocks := B.notSynchronized
  have hts : ∀ w ∈ lw_g, w.before ([.ref (ad o0)] : List Value).toArray s = true := fun w h => atoms_spec (ws := ow_ws yn_M_firstOrder cb_M_firstOrder 2 none) B.pre w (List.mem_cons_of_mem _ h)
  have hown : s.vm.findClass "BallotDeskModel" = some m.cls := findClass_of_methodNamed B.named
  clear B
  have B2 : ∀   (K2 : om_M × Int32 → Prop) (hK2 : ∀ (M : om_M) (x1 : Int32) (H : Heap) (locs : List Loc) (ls : Array Slot), K2 (M, x1) → ow_B G D cA ad (ow_A G ad) M s s.heap H locs → lv_has ls 2 [(0, .ref (ad o0)), (1, .int x1)] → W p l e rm_M_firstOrder s m ([.ref (ad o0)] : List Value).toArray below meth c H locs 0 0 (MQ below (ow_Qv G D cA ad Q) ([.ref (ad o0)] : List Value).toArray s 0 0 (ow_A G ad)) (F0 m 2 ls [])) (M : om_M) (x1 : Int32) (H : Heap) (locs : List Loc) (ls : Array Slot), wp_M_firstOrder_2b F o0 Q   K2 M x1 → ow_B G D cA ad (ow_A G ad) M s s.heap H locs → lv_has ls 2 [(0, .ref (ad o0)), (1, .int x1)] → W p l e rm_M_firstOrder s m ([.ref (ad o0)] : List Value).toArray below meth c H locs 0 0 (MQ below (ow_Qv G D cA ad Q) ([.ref (ad o0)] : List Value).toArray s 0 0 (ow_A G ad)) (F0 m 2 ls []) := by
    intro   K2 hK2 M x1 H locs ls h hB hl
    refine lv_iload_n hx hb dc_M_firstOrder_2 rfl (lv_at hl 1 rfl) ?_
    refine lv_bipush (v := 7) hx hb dc_M_firstOrder_3 rfl ?_
    obtain ⟨h1, h2⟩ := h
    refine lv_icmp_ge hx hb dc_M_firstOrder_5 rfl (fun hc => ?_) (fun hc => ?_)
    · have h := h1 hc
      exact ow_vret hx hb hr hlocks hB h dc_M_firstOrder_21
    · have h := h2 hc
      refine lv_aload_n hx hb dc_M_firstOrder_8 rfl (lv_at hl 0 rfl) ?_
      refine ow_get hx hb hts iw_M hown hB k0 rfl 20 (by decide) mw_817 rfl dc_M_firstOrder_9 ?_
      refine lv_iload_n hx hb dc_M_firstOrder_12 rfl (lv_at hl 1 rfl) ?_
      refine lv_iload_n hx hb dc_M_firstOrder_13 rfl (lv_at hl 1 rfl) ?_
      obtain ⟨hi1, h⟩ := h
      refine ow_iast hx hb hB (ly_M_trial hG k0) hi1 dc_M_firstOrder_14 (fun H locs hB => ?_)
      refine lv_iinc hx hb dc_M_firstOrder_15 hl (k := 1) rfl rfl (by decide) rfl (fun ls hl => ?_)
      refine lv_goto hx hb dc_M_firstOrder_18 rfl ?_
      exact hK2 _ _ _ _ _ h hB (lv_sub hl [1, 0] rfl)
  have L2 : ∀   (M : om_M) (x1 : Int32) (H : Heap) (locs : List Loc) (ls : Array Slot), wp_M_firstOrder_2 F o0 Q   M x1 → ow_B G D cA ad (ow_A G ad) M s s.heap H locs → lv_has ls 2 [(0, .ref (ad o0)), (1, .int x1)] → W p l e rm_M_firstOrder s m ([.ref (ad o0)] : List Value).toArray below meth c H locs 0 0 (MQ below (ow_Qv G D cA ad Q) ([.ref (ad o0)] : List Value).toArray s 0 0 (ow_A G ad)) (F0 m 2 ls []) := by
    have step : ∀ (k : Nat) (M : om_M) (x1 : Int32) (H : Heap) (locs : List Loc) (ls : Array Slot), ow_lp (fun (z : om_M × Int32) K => wp_M_firstOrder_2b F o0 Q   K z.1 z.2) k (M, x1) → ow_B G D cA ad (ow_A G ad) M s s.heap H locs → lv_has ls 2 [(0, .ref (ad o0)), (1, .int x1)] → W p l e rm_M_firstOrder s m ([.ref (ad o0)] : List Value).toArray below meth c H locs 0 0 (MQ below (ow_Qv G D cA ad Q) ([.ref (ad o0)] : List Value).toArray s 0 0 (ow_A G ad)) (F0 m 2 ls []) := by
      intro k
      induction k with
      | zero => intro M x1 H locs ls h hB hl; exact False.elim h
      | succ k ih => intro M x1 H locs ls h hB hl; exact B2   (ow_lp _ k) (fun M x1 H locs ls h hB  hl => ih M x1  H locs ls h hB hl) M x1 H locs ls h hB hl
    intro M x1 H locs ls h hB hl
    exact step F M x1 H locs ls h hB hl
  have hl := lv_entry ([.ref (ad o0)]) (n := 2) (Nat.le_of_ble_eq_true rfl)
  rw [lg_entry_eq]
  generalize (lg_sl ([.ref (ad o0)]) ++ List.replicate (2 - (lg_sl ([.ref (ad o0)])).length) Slot.unset).toArray = ls at hl ⊢
  have hl : lv_has ls 2 [(0, .ref (ad o0))] := hl
  show W p l e rm_M_firstOrder s m _ below meth c s.heap [] 0 0 _ _
  refine lv_iconst (v := 0) hx hb dc_M_firstOrder_0 rfl ?_
  refine lv_istore_n hx hb dc_M_firstOrder_1 rfl hl (by decide) rfl (fun ls hl => ?_)
  exact L2 _ _ _ _ _ h hB (lv_sub hl [1, 0] rfl)
abbrev rm_M_nextOrder : Room := { frames := 0, cells := 0, slots := 0, locals := 0 }
theorem hd_M_nextOrder : yn_M_nextOrder.cls ≠ "java/lang/invoke/MethodHandle" ∧ yn_M_nextOrder.cls ≠ "java/lang/invoke/VarHandle" ∧ (parseMethodDescriptor yn_M_nextOrder.desc).map (fun d => d.parameters.length) = some 0 := by decide +kernel
set_option maxHeartbeats 4000000 in
set_option maxRecDepth 100000 in
theorem ct_M_nextOrder (l : Launch) (G : List (Nat × Nat)) (hG : ow_lay G) (D : va_G) (cA : Nat → ClassId) (ad : Nat → Nat) (F : Nat) (o0 : Nat) (k0 : ow_kd G o0 = (3, 9)) (M : om_M) (Q : Int32 → om_M → Prop) (h : wp_M_nextOrder F o0 M Q) : Met l yn_M_nextOrder (ow_ws yn_M_nextOrder cb_M_nextOrder 6 (some .boolean)) rm_M_nextOrder (ow_Pc G D cA ad M [.ref (ad o0)]) (ow_Qi G D cA ad Q) 0 0 (ow_A G ad) := by
  refine Met.ofW (cc := cb_M_nextOrder) (maxL := 6) (ret := (some .boolean)) (by decide) rfl ?_
  intro p e s m args below meth c s₁ B hml hv
  obtain ⟨rfl, hB⟩ := hv
  have hx := B.exec
  have hb := B.bytes
  have hr := B.returns
  have hlocks := B.notSynchronized
  have hts : ∀ w ∈ lw_g, w.before ([.ref (ad o0)] : List Value).toArray s = true := fun w h => atoms_spec (ws := ow_ws yn_M_nextOrder cb_M_nextOrder 6 (some .boolean)) B.pre w (List.mem_cons_of_mem _ h)
  have hown : s.vm.findClass "BallotDeskModel" = some m.cls := findClass_of_methodNamed B.named
  clear B
  have B107 : ∀   (K107 : om_M × Int32 × Int32 → Prop) (hK107 : ∀ (M : om_M) (x4 : Int32) (x5 : Int32) (H : Heap) (locs : List Loc) (ls : Array Slot), K107 (M, x4, x5) → ow_B G D cA ad (ow_A G ad) M s s.heap H locs → lv_has ls 6 [(0, .ref (ad o0)), (4, .int x4), (5, .int x5)] → W p l e rm_M_nextOrder s m ([.ref (ad o0)] : List Value).toArray below meth c H locs 0 0 (MQ below (ow_Qi G D cA ad Q) ([.ref (ad o0)] : List Value).toArray s 0 0 (ow_A G ad)) (F0 m 107 ls [])) (M : om_M) (x4 : Int32) (x5 : Int32) (H : Heap) (locs : List Loc) (ls : Array Slot), wp_M_nextOrder_107b F o0 Q   K107 M x4 x5 → ow_B G D cA ad (ow_A G ad) M s s.heap H locs → lv_has ls 6 [(0, .ref (ad o0)), (4, .int x4), (5, .int x5)] → W p l e rm_M_nextOrder s m ([.ref (ad o0)] : List Value).toArray below meth c H locs 0 0 (MQ below (ow_Qi G D cA ad Q) ([.ref (ad o0)] : List Value).toArray s 0 0 (ow_A G ad)) (F0 m 107 ls []) := by
    intro   K107 hK107 M x4 x5 H locs ls h hB hl
    refine lv_iload hx hb dc_M_nextOrder_107 (lv_at hl 1 rfl) ?_
    refine lv_iload hx hb dc_M_nextOrder_109 (lv_at hl 2 rfl) ?_
    obtain ⟨h1, h2⟩ := h
    refine lv_icmp_ge hx hb dc_M_nextOrder_111 rfl (fun hc => ?_) (fun hc => ?_)
    · have h := h1 hc
      refine lv_iconst (v := 1) hx hb dc_M_nextOrder_153 rfl ?_
      exact ow_zret hx hb hr hlocks (by decide) hB h dc_M_nextOrder_154
    · have h := h2 hc
      refine lv_aload_n hx hb dc_M_nextOrder_114 rfl (lv_at hl 0 rfl) ?_
      refine ow_get hx hb hts iw_M hown hB k0 rfl 20 (by decide) mw_817 rfl dc_M_nextOrder_115 ?_
      refine lv_iload hx hb dc_M_nextOrder_118 (lv_at hl 1 rfl) ?_
      obtain ⟨hi1, h⟩ := h
      refine ow_iald hx hb hB (ly_M_trial hG k0) hi1 dc_M_nextOrder_120 ?_
      refine lv_istore_n hx hb dc_M_nextOrder_121 rfl hl (by decide) rfl (fun ls hl => ?_)
      refine lv_aload_n hx hb dc_M_nextOrder_122 rfl (lv_at hl 1 rfl) ?_
      refine ow_get hx hb hts iw_M hown hB k0 rfl 20 (by decide) mw_817 rfl dc_M_nextOrder_123 ?_
      refine lv_iload hx hb dc_M_nextOrder_126 (lv_at hl 2 rfl) ?_
      refine lv_aload_n hx hb dc_M_nextOrder_128 rfl (lv_at hl 1 rfl) ?_
      refine ow_get hx hb hts iw_M hown hB k0 rfl 20 (by decide) mw_817 rfl dc_M_nextOrder_129 ?_
      refine lv_iload hx hb dc_M_nextOrder_132 (lv_at hl 3 rfl) ?_
      obtain ⟨hi2, h⟩ := h
      refine ow_iald hx hb hB (ly_M_trial hG k0) hi2 dc_M_nextOrder_134 ?_
      refine ow_iast hx hb hB (ly_M_trial hG k0) hi1 dc_M_nextOrder_135 (fun H locs hB => ?_)
      refine lv_aload_n hx hb dc_M_nextOrder_136 rfl (lv_at hl 1 rfl) ?_
      refine ow_get hx hb hts iw_M hown hB k0 rfl 20 (by decide) mw_817 rfl dc_M_nextOrder_137 ?_
      refine lv_iload hx hb dc_M_nextOrder_140 (lv_at hl 3 rfl) ?_
      refine lv_iload_n hx hb dc_M_nextOrder_142 rfl (lv_at hl 0 rfl) ?_
      refine ow_iast hx hb hB (ly_M_trial hG k0) hi2 dc_M_nextOrder_143 (fun H locs hB => ?_)
      refine lv_iinc hx hb dc_M_nextOrder_144 hl (k := 2) rfl rfl (by decide) rfl (fun ls hl => ?_)
      refine lv_iinc hx hb dc_M_nextOrder_147 hl (k := 3) rfl rfl (by decide) rfl (fun ls hl => ?_)
      refine lv_goto hx hb dc_M_nextOrder_150 rfl ?_
      exact hK107 _ _ _ _ _ _ h hB (lv_sub hl [3, 1, 0] rfl)
  have L107 : ∀   (M : om_M) (x4 : Int32) (x5 : Int32) (H : Heap) (locs : List Loc) (ls : Array Slot), wp_M_nextOrder_107 F o0 Q   M x4 x5 → ow_B G D cA ad (ow_A G ad) M s s.heap H locs → lv_has ls 6 [(0, .ref (ad o0)), (4, .int x4), (5, .int x5)] → W p l e rm_M_nextOrder s m ([.ref (ad o0)] : List Value).toArray below meth c H locs 0 0 (MQ below (ow_Qi G D cA ad Q) ([.ref (ad o0)] : List Value).toArray s 0 0 (ow_A G ad)) (F0 m 107 ls []) := by
    have step : ∀ (k : Nat) (M : om_M) (x4 : Int32) (x5 : Int32) (H : Heap) (locs : List Loc) (ls : Array Slot), ow_lp (fun (z : om_M × Int32 × Int32) K => wp_M_nextOrder_107b F o0 Q   K z.1 z.2.1 z.2.2) k (M, x4, x5) → ow_B G D cA ad (ow_A G ad) M s s.heap H locs → lv_has ls 6 [(0, .ref (ad o0)), (4, .int x4), (5, .int x5)] → W p l e rm_M_nextOrder s m ([.ref (ad o0)] : List Value).toArray below meth c H locs 0 0 (MQ below (ow_Qi G D cA ad Q) ([.ref (ad o0)] : List Value).toArray s 0 0 (ow_A G ad)) (F0 m 107 ls []) := by
      intro k
      induction k with
      | zero => intro M x4 x5 H locs ls h hB hl; exact False.elim h
      | succ k ih => intro M x4 x5 H locs ls h hB hl; exact B107   (ow_lp _ k) (fun M x4 x5 H locs ls h hB  hl => ih M x4 x5  H locs ls h hB hl) M x4 x5 H locs ls h hB hl
    intro M x4 x5 H locs ls h hB hl
    exact step F M x4 x5 H locs ls h hB hl
  have L68 : ∀   (M : om_M) (x1 : Int32) (x2 : Int32)  (H : Heap) (locs : List Loc) (ls : Array Slot), wp_M_nextOrder_68 F o0 Q   M x1 x2  → ow_B G D cA ad (ow_A G ad) M s s.heap H locs → lv_has ls 6 [(0, .ref (ad o0)), (1, .int x1), (2, .int x2)] → W p l e rm_M_nextOrder s m ([.ref (ad o0)] : List Value).toArray below meth c H locs 0 0 (MQ below (ow_Qi G D cA ad Q) ([.ref (ad o0)] : List Value).toArray s 0 0 (ow_A G ad)) (F0 m 68 ls []) := by
    intro   M x1 x2 H locs ls h hB hl
    refine lv_aload_n hx hb dc_M_nextOrder_68 rfl (lv_at hl 0 rfl) ?_
    refine ow_get hx hb hts iw_M hown hB k0 rfl 20 (by decide) mw_817 rfl dc_M_nextOrder_69 ?_
    refine lv_iload_n hx hb dc_M_nextOrder_72 rfl (lv_at hl 1 rfl) ?_
    obtain ⟨hi3, h⟩ := h
    refine ow_iald hx hb hB (ly_M_trial hG k0) hi3 dc_M_nextOrder_73 ?_
    refine lv_istore_n hx hb dc_M_nextOrder_74 rfl hl (by decide) rfl (fun ls hl => ?_)
    refine lv_aload_n hx hb dc_M_nextOrder_75 rfl (lv_at hl 1 rfl) ?_
    refine ow_get hx hb hts iw_M hown hB k0 rfl 20 (by decide) mw_817 rfl dc_M_nextOrder_76 ?_
    refine lv_iload_n hx hb dc_M_nextOrder_79 rfl (lv_at hl 2 rfl) ?_
    refine lv_aload_n hx hb dc_M_nextOrder_80 rfl (lv_at hl 1 rfl) ?_
    refine ow_get hx hb hts iw_M hown hB k0 rfl 20 (by decide) mw_817 rfl dc_M_nextOrder_81 ?_
    refine lv_iload_n hx hb dc_M_nextOrder_84 rfl (lv_at hl 3 rfl) ?_
    obtain ⟨hi4, h⟩ := h
    refine ow_iald hx hb hB (ly_M_trial hG k0) hi4 dc_M_nextOrder_85 ?_
    refine ow_iast hx hb hB (ly_M_trial hG k0) hi3 dc_M_nextOrder_86 (fun H locs hB => ?_)
    refine lv_aload_n hx hb dc_M_nextOrder_87 rfl (lv_at hl 1 rfl) ?_
    refine ow_get hx hb hts iw_M hown hB k0 rfl 20 (by decide) mw_817 rfl dc_M_nextOrder_88 ?_
    refine lv_iload_n hx hb dc_M_nextOrder_91 rfl (lv_at hl 3 rfl) ?_
    refine lv_iload_n hx hb dc_M_nextOrder_92 rfl (lv_at hl 0 rfl) ?_
    refine ow_iast hx hb hB (ly_M_trial hG k0) hi4 dc_M_nextOrder_93 (fun H locs hB => ?_)
    refine lv_iload_n hx hb dc_M_nextOrder_94 rfl (lv_at hl 2 rfl) ?_
    refine lv_iconst (v := 1) hx hb dc_M_nextOrder_95 rfl ?_
    refine lv_iadd hx hb dc_M_nextOrder_96 ?_
    refine lv_istore hx hb dc_M_nextOrder_97 hl (by decide) rfl (fun ls hl => ?_)
    refine lv_aload_n hx hb dc_M_nextOrder_99 rfl (lv_at hl 2 rfl) ?_
    refine ow_get hx hb hts iw_M hown hB k0 rfl 1 (by decide) mw_798 rfl dc_M_nextOrder_100 ?_
    refine lv_iconst (v := 1) hx hb dc_M_nextOrder_103 rfl ?_
    refine lv_isub hx hb dc_M_nextOrder_104 ?_
    refine lv_istore hx hb dc_M_nextOrder_105 hl (by decide) rfl (fun ls hl => ?_)
    exact L107 _ _ _ _ _ _ h hB (lv_sub hl [3, 1, 0] rfl)
  have B47 : ∀ (x1 : Int32)  (K47 : om_M × Int32 → Prop) (hK47 : ∀ (M : om_M) (x2 : Int32) (H : Heap) (locs : List Loc) (ls : Array Slot), K47 (M, x2) → ow_B G D cA ad (ow_A G ad) M s s.heap H locs → lv_has ls 6 [(0, .ref (ad o0)), (1, .int x1), (2, .int x2)] → W p l e rm_M_nextOrder s m ([.ref (ad o0)] : List Value).toArray below meth c H locs 0 0 (MQ below (ow_Qi G D cA ad Q) ([.ref (ad o0)] : List Value).toArray s 0 0 (ow_A G ad)) (F0 m 47 ls [])) (M : om_M) (x2 : Int32) (H : Heap) (locs : List Loc) (ls : Array Slot), wp_M_nextOrder_47b F o0 Q x1  K47 M x2 → ow_B G D cA ad (ow_A G ad) M s s.heap H locs → lv_has ls 6 [(0, .ref (ad o0)), (1, .int x1), (2, .int x2)] → W p l e rm_M_nextOrder s m ([.ref (ad o0)] : List Value).toArray below meth c H locs 0 0 (MQ below (ow_Qi G D cA ad Q) ([.ref (ad o0)] : List Value).toArray s 0 0 (ow_A G ad)) (F0 m 47 ls []) := by
    intro x1  K47 hK47 M x2 H locs ls h hB hl
    refine lv_aload_n hx hb dc_M_nextOrder_47 rfl (lv_at hl 0 rfl) ?_
    refine ow_get hx hb hts iw_M hown hB k0 rfl 20 (by decide) mw_817 rfl dc_M_nextOrder_48 ?_
    refine lv_iload_n hx hb dc_M_nextOrder_51 rfl (lv_at hl 2 rfl) ?_
    obtain ⟨hi5, h⟩ := h
    refine ow_iald hx hb hB (ly_M_trial hG k0) hi5 dc_M_nextOrder_52 ?_
    refine lv_aload_n hx hb dc_M_nextOrder_53 rfl (lv_at hl 0 rfl) ?_
    refine ow_get hx hb hts iw_M hown hB k0 rfl 20 (by decide) mw_817 rfl dc_M_nextOrder_54 ?_
    refine lv_iload_n hx hb dc_M_nextOrder_57 rfl (lv_at hl 1 rfl) ?_
    obtain ⟨hi6, h⟩ := h
    refine ow_iald hx hb hB (ly_M_trial hG k0) hi6 dc_M_nextOrder_58 ?_
    obtain ⟨h1, h2⟩ := h
    refine lv_icmp_ge hx hb dc_M_nextOrder_59 rfl (fun hc => ?_) (fun hc => ?_)
    · have h := h1 hc
      exact L68 _ _ _ _ _ _ h hB (lv_sub hl [0, 1, 2] rfl)
    · have h := h2 hc
      refine lv_iinc hx hb dc_M_nextOrder_62 hl (k := 2) rfl rfl (by decide) rfl (fun ls hl => ?_)
      refine lv_goto hx hb dc_M_nextOrder_65 rfl ?_
      exact hK47 _ _ _ _ _ h hB (lv_sub hl [1, 2, 0] rfl)
  have L47 : ∀ (x1 : Int32)  (M : om_M) (x2 : Int32) (H : Heap) (locs : List Loc) (ls : Array Slot), wp_M_nextOrder_47 F o0 Q x1  M x2 → ow_B G D cA ad (ow_A G ad) M s s.heap H locs → lv_has ls 6 [(0, .ref (ad o0)), (1, .int x1), (2, .int x2)] → W p l e rm_M_nextOrder s m ([.ref (ad o0)] : List Value).toArray below meth c H locs 0 0 (MQ below (ow_Qi G D cA ad Q) ([.ref (ad o0)] : List Value).toArray s 0 0 (ow_A G ad)) (F0 m 47 ls []) := by
    intro x1 
    have step : ∀ (k : Nat) (M : om_M) (x2 : Int32) (H : Heap) (locs : List Loc) (ls : Array Slot), ow_lp (fun (z : om_M × Int32) K => wp_M_nextOrder_47b F o0 Q x1  K z.1 z.2) k (M, x2) → ow_B G D cA ad (ow_A G ad) M s s.heap H locs → lv_has ls 6 [(0, .ref (ad o0)), (1, .int x1), (2, .int x2)] → W p l e rm_M_nextOrder s m ([.ref (ad o0)] : List Value).toArray below meth c H locs 0 0 (MQ below (ow_Qi G D cA ad Q) ([.ref (ad o0)] : List Value).toArray s 0 0 (ow_A G ad)) (F0 m 47 ls []) := by
      intro k
      induction k with
      | zero => intro M x2 H locs ls h hB hl; exact False.elim h
      | succ k ih => intro M x2 H locs ls h hB hl; exact B47 x1  (ow_lp _ k) (fun M x2 H locs ls h hB  hl => ih M x2  H locs ls h hB hl) M x2 H locs ls h hB hl
    intro M x2 H locs ls h hB hl
    exact step F M x2 H locs ls h hB hl
  have L34 : ∀   (M : om_M) (x1 : Int32)  (H : Heap) (locs : List Loc) (ls : Array Slot), wp_M_nextOrder_34 F o0 Q   M x1  → ow_B G D cA ad (ow_A G ad) M s s.heap H locs → lv_has ls 6 [(0, .ref (ad o0)), (1, .int x1)] → W p l e rm_M_nextOrder s m ([.ref (ad o0)] : List Value).toArray below meth c H locs 0 0 (MQ below (ow_Qi G D cA ad Q) ([.ref (ad o0)] : List Value).toArray s 0 0 (ow_A G ad)) (F0 m 34 ls []) := by
    intro   M x1 H locs ls h hB hl
    refine lv_iload_n hx hb dc_M_nextOrder_34 rfl (lv_at hl 1 rfl) ?_
    obtain ⟨h1, h2⟩ := h
    refine lv_if_ge hx hb dc_M_nextOrder_35 rfl (fun hc => ?_) (fun hc => ?_)
    · have h := h1 hc
      refine lv_aload_n hx hb dc_M_nextOrder_40 rfl (lv_at hl 0 rfl) ?_
      refine ow_get hx hb hts iw_M hown hB k0 rfl 1 (by decide) mw_798 rfl dc_M_nextOrder_41 ?_
      refine lv_iconst (v := 1) hx hb dc_M_nextOrder_44 rfl ?_
      refine lv_isub hx hb dc_M_nextOrder_45 ?_
      refine lv_istore_n hx hb dc_M_nextOrder_46 rfl hl (by decide) rfl (fun ls hl => ?_)
      exact L47 _ _ _ _ _ _ h hB (lv_sub hl [1, 2, 0] rfl)
    · have h := h2 hc
      refine lv_iconst (v := 0) hx hb dc_M_nextOrder_38 rfl ?_
      exact ow_zret hx hb hr hlocks (by decide) hB h dc_M_nextOrder_39
  have B7 : ∀   (K7 : om_M × Int32 → Prop) (hK7 : ∀ (M : om_M) (x1 : Int32) (H : Heap) (locs : List Loc) (ls : Array Slot), K7 (M, x1) → ow_B G D cA ad (ow_A G ad) M s s.heap H locs → lv_has ls 6 [(0, .ref (ad o0)), (1, .int x1)] → W p l e rm_M_nextOrder s m ([.ref (ad o0)] : List Value).toArray below meth c H locs 0 0 (MQ below (ow_Qi G D cA ad Q) ([.ref (ad o0)] : List Value).toArray s 0 0 (ow_A G ad)) (F0 m 7 ls [])) (M : om_M) (x1 : Int32) (H : Heap) (locs : List Loc) (ls : Array Slot), wp_M_nextOrder_7b F o0 Q   K7 M x1 → ow_B G D cA ad (ow_A G ad) M s s.heap H locs → lv_has ls 6 [(0, .ref (ad o0)), (1, .int x1)] → W p l e rm_M_nextOrder s m ([.ref (ad o0)] : List Value).toArray below meth c H locs 0 0 (MQ below (ow_Qi G D cA ad Q) ([.ref (ad o0)] : List Value).toArray s 0 0 (ow_A G ad)) (F0 m 7 ls []) := by
    intro   K7 hK7 M x1 H locs ls h hB hl
    refine lv_iload_n hx hb dc_M_nextOrder_7 rfl (lv_at hl 1 rfl) ?_
    obtain ⟨h1, h2⟩ := h
    refine lv_if_lt hx hb dc_M_nextOrder_8 rfl (fun hc => ?_) (fun hc => ?_)
    · have h := h1 hc
      exact L34 _ _ _ _ _ h hB (lv_sub hl [0, 1] rfl)
    · have h := h2 hc
      refine lv_aload_n hx hb dc_M_nextOrder_11 rfl (lv_at hl 0 rfl) ?_
      refine ow_get hx hb hts iw_M hown hB k0 rfl 20 (by decide) mw_817 rfl dc_M_nextOrder_12 ?_
      refine lv_iload_n hx hb dc_M_nextOrder_15 rfl (lv_at hl 1 rfl) ?_
      obtain ⟨hi7, h⟩ := h
      refine ow_iald hx hb hB (ly_M_trial hG k0) hi7 dc_M_nextOrder_16 ?_
      refine lv_aload_n hx hb dc_M_nextOrder_17 rfl (lv_at hl 0 rfl) ?_
      refine ow_get hx hb hts iw_M hown hB k0 rfl 20 (by decide) mw_817 rfl dc_M_nextOrder_18 ?_
      refine lv_iload_n hx hb dc_M_nextOrder_21 rfl (lv_at hl 1 rfl) ?_
      refine lv_iconst (v := 1) hx hb dc_M_nextOrder_22 rfl ?_
      refine lv_iadd hx hb dc_M_nextOrder_23 ?_
      obtain ⟨hi8, h⟩ := h
      refine ow_iald hx hb hB (ly_M_trial hG k0) hi8 dc_M_nextOrder_24 ?_
      obtain ⟨h1, h2⟩ := h
      refine lv_icmp_le hx hb dc_M_nextOrder_25 rfl (fun hc => ?_) (fun hc => ?_)
      · have h := h1 hc
        exact L34 _ _ _ _ _ h hB (lv_sub hl [0, 1] rfl)
      · have h := h2 hc
        refine lv_iinc hx hb dc_M_nextOrder_28 hl (k := 1) rfl rfl (by decide) rfl (fun ls hl => ?_)
        refine lv_goto hx hb dc_M_nextOrder_31 rfl ?_
        exact hK7 _ _ _ _ _ h hB (lv_sub hl [1, 0] rfl)
  have L7 : ∀   (M : om_M) (x1 : Int32) (H : Heap) (locs : List Loc) (ls : Array Slot), wp_M_nextOrder_7 F o0 Q   M x1 → ow_B G D cA ad (ow_A G ad) M s s.heap H locs → lv_has ls 6 [(0, .ref (ad o0)), (1, .int x1)] → W p l e rm_M_nextOrder s m ([.ref (ad o0)] : List Value).toArray below meth c H locs 0 0 (MQ below (ow_Qi G D cA ad Q) ([.ref (ad o0)] : List Value).toArray s 0 0 (ow_A G ad)) (F0 m 7 ls []) := by
    have step : ∀ (k : Nat) (M : om_M) (x1 : Int32) (H : Heap) (locs : List Loc) (ls : Array Slot), ow_lp (fun (z : om_M × Int32) K => wp_M_nextOrder_7b F o0 Q   K z.1 z.2) k (M, x1) → ow_B G D cA ad (ow_A G ad) M s s.heap H locs → lv_has ls 6 [(0, .ref (ad o0)), (1, .int x1)] → W p l e rm_M_nextOrder s m ([.ref (ad o0)] : List Value).toArray below meth c H locs 0 0 (MQ below (ow_Qi G D cA ad Q) ([.ref (ad o0)] : List Value).toArray s 0 0 (ow_A G ad)) (F0 m 7 ls []) := by
      intro k
      induction k with
      | zero => intro M x1 H locs ls h hB hl; exact False.elim h
      | succ k ih => intro M x1 H locs ls h hB hl; exact B7   (ow_lp _ k) (fun M x1 H locs ls h hB  hl => ih M x1  H locs ls h hB hl) M x1 H locs ls h hB hl
    intro M x1 H locs ls h hB hl
    exact step F M x1 H locs ls h hB hl
  have hl := lv_entry ([.ref (ad o0)]) (n := 6) (Nat.le_of_ble_eq_true rfl)
  rw [lg_entry_eq]
  generalize (lg_sl ([.ref (ad o0)]) ++ List.replicate (6 - (lg_sl ([.ref (ad o0)])).length) Slot.unset).toArray = ls at hl ⊢
  have hl : lv_has ls 6 [(0, .ref (ad o0))] := hl
  show W p l e rm_M_nextOrder s m _ below meth c s.heap [] 0 0 _ _
  refine lv_aload_n hx hb dc_M_nextOrder_0 rfl (lv_at hl 0 rfl) ?_
  refine ow_get hx hb hts iw_M hown hB k0 rfl 1 (by decide) mw_798 rfl dc_M_nextOrder_1 ?_
  refine lv_iconst (v := 2) hx hb dc_M_nextOrder_4 rfl ?_
  refine lv_isub hx hb dc_M_nextOrder_5 ?_
  refine lv_istore_n hx hb dc_M_nextOrder_6 rfl hl (by decide) rfl (fun ls hl => ?_)
  exact L7 _ _ _ _ _ h hB (lv_sub hl [1, 0] rfl)
abbrev rm_M_disagreementOf : Room := { frames := 0, cells := 0, slots := 0, locals := 0 }
theorem hd_M_disagreementOf : yn_M_disagreementOf.cls ≠ "java/lang/invoke/MethodHandle" ∧ yn_M_disagreementOf.cls ≠ "java/lang/invoke/VarHandle" ∧ (parseMethodDescriptor yn_M_disagreementOf.desc).map (fun d => d.parameters.length) = some 0 := by decide +kernel
set_option maxHeartbeats 4000000 in
set_option maxRecDepth 100000 in
theorem ct_M_disagreementOf (l : Launch) (G : List (Nat × Nat)) (hG : ow_lay G) (D : va_G) (cA : Nat → ClassId) (ad : Nat → Nat) (F : Nat) (o0 : Nat) (k0 : ow_kd G o0 = (3, 9)) (M : om_M) (Q : Int64 → om_M → Prop) (h : wp_M_disagreementOf F o0 M Q) : Met l yn_M_disagreementOf (ow_ws yn_M_disagreementOf cb_M_disagreementOf 5 (some .long)) rm_M_disagreementOf (ow_Pc G D cA ad M [.ref (ad o0)]) (ow_Ql G D cA ad Q) 0 0 (ow_A G ad) := by
  refine Met.ofW (cc := cb_M_disagreementOf) (maxL := 5) (ret := (some .long)) (by decide) rfl ?_
  intro p e s m args below meth c s₁ B hml hv
  obtain ⟨rfl, hB⟩ := hv
  have hx := B.exec
  have hb := B.bytes
  have hr := B.returns
  have hlocks := B.notSynchronized
  have hts : ∀ w ∈ lw_g, w.before ([.ref (ad o0)] : List Value).toArray s = true := fun w h => atoms_spec (ws := ow_ws yn_M_disagreementOf cb_M_disagreementOf 5 (some .long)) B.pre w (List.mem_cons_of_mem _ h)
  have hown : s.vm.findClass "BallotDeskModel" = some m.cls := findClass_of_methodNamed B.named
  clear B
  have L58 : ∀  (K4 : om_M × Int64 × Int32 → Prop) (hK4 : ∀ (M : om_M) (j1 : Int64) (x3 : Int32) (H : Heap) (locs : List Loc) (ls : Array Slot), K4 (M, j1, x3) → ow_B G D cA ad (ow_A G ad) M s s.heap H locs → lv_has ls 5 [(0, .ref (ad o0)), (1, .long j1), (3, .int x3)] → W p l e rm_M_disagreementOf s m ([.ref (ad o0)] : List Value).toArray below meth c H locs 0 0 (MQ below (ow_Ql G D cA ad Q) ([.ref (ad o0)] : List Value).toArray s 0 0 (ow_A G ad)) (F0 m 4 ls [])) (M : om_M) (j1 : Int64) (x3 : Int32)  (H : Heap) (locs : List Loc) (ls : Array Slot), wp_M_disagreementOf_58 F o0 Q  K4 M j1 x3  → ow_B G D cA ad (ow_A G ad) M s s.heap H locs → lv_has ls 5 [(0, .ref (ad o0)), (1, .long j1), (3, .int x3)] → W p l e rm_M_disagreementOf s m ([.ref (ad o0)] : List Value).toArray below meth c H locs 0 0 (MQ below (ow_Ql G D cA ad Q) ([.ref (ad o0)] : List Value).toArray s 0 0 (ow_A G ad)) (F0 m 58 ls []) := by
    intro  K4 hK4 M j1 x3 H locs ls h hB hl
    refine lv_iinc hx hb dc_M_disagreementOf_58 hl (k := 2) rfl rfl (by decide) rfl (fun ls hl => ?_)
    refine lv_goto hx hb dc_M_disagreementOf_61 rfl ?_
    exact hK4 _ _ _ _ _ _ h hB (lv_sub hl [1, 2, 0] rfl)
  have B17 : ∀ (x3 : Int32) (K4 : om_M × Int64 × Int32 → Prop) (hK4 : ∀ (M : om_M) (j1 : Int64) (x3 : Int32) (H : Heap) (locs : List Loc) (ls : Array Slot), K4 (M, j1, x3) → ow_B G D cA ad (ow_A G ad) M s s.heap H locs → lv_has ls 5 [(0, .ref (ad o0)), (1, .long j1), (3, .int x3)] → W p l e rm_M_disagreementOf s m ([.ref (ad o0)] : List Value).toArray below meth c H locs 0 0 (MQ below (ow_Ql G D cA ad Q) ([.ref (ad o0)] : List Value).toArray s 0 0 (ow_A G ad)) (F0 m 4 ls [])) (K17 : om_M × Int64 × Int32 → Prop) (hK17 : ∀ (M : om_M) (j1 : Int64) (x4 : Int32) (H : Heap) (locs : List Loc) (ls : Array Slot), K17 (M, j1, x4) → ow_B G D cA ad (ow_A G ad) M s s.heap H locs → lv_has ls 5 [(0, .ref (ad o0)), (1, .long j1), (3, .int x3), (4, .int x4)] → W p l e rm_M_disagreementOf s m ([.ref (ad o0)] : List Value).toArray below meth c H locs 0 0 (MQ below (ow_Ql G D cA ad Q) ([.ref (ad o0)] : List Value).toArray s 0 0 (ow_A G ad)) (F0 m 17 ls [])) (M : om_M) (j1 : Int64) (x4 : Int32) (H : Heap) (locs : List Loc) (ls : Array Slot), wp_M_disagreementOf_17b F o0 Q x3 K4 K17 M j1 x4 → ow_B G D cA ad (ow_A G ad) M s s.heap H locs → lv_has ls 5 [(0, .ref (ad o0)), (1, .long j1), (3, .int x3), (4, .int x4)] → W p l e rm_M_disagreementOf s m ([.ref (ad o0)] : List Value).toArray below meth c H locs 0 0 (MQ below (ow_Ql G D cA ad Q) ([.ref (ad o0)] : List Value).toArray s 0 0 (ow_A G ad)) (F0 m 17 ls []) := by
    intro x3 K4 hK4 K17 hK17 M j1 x4 H locs ls h hB hl
    refine lv_iload hx hb dc_M_disagreementOf_17 (lv_at hl 3 rfl) ?_
    refine lv_aload_n hx hb dc_M_disagreementOf_19 rfl (lv_at hl 0 rfl) ?_
    refine ow_get hx hb hts iw_M hown hB k0 rfl 1 (by decide) mw_798 rfl dc_M_disagreementOf_20 ?_
    obtain ⟨h1, h2⟩ := h
    refine lv_icmp_ge hx hb dc_M_disagreementOf_23 rfl (fun hc => ?_) (fun hc => ?_)
    · have h := h1 hc
      exact L58 K4 hK4 _ _ _ _ _ _ h hB (lv_sub hl [0, 1, 2] rfl)
    · have h := h2 hc
      refine lv_lload_n hx hb dc_M_disagreementOf_26 rfl (lv_at hl 1 rfl) ?_
      refine lv_aload_n hx hb dc_M_disagreementOf_27 rfl (lv_at hl 0 rfl) ?_
      refine ow_get hx hb hts iw_M hown hB k0 rfl 15 (by decide) mw_812 rfl dc_M_disagreementOf_28 ?_
      refine lv_bipush (v := 7) hx hb dc_M_disagreementOf_31 rfl ?_
      refine lv_aload_n hx hb dc_M_disagreementOf_33 rfl (lv_at hl 0 rfl) ?_
      refine ow_get hx hb hts iw_M hown hB k0 rfl 20 (by decide) mw_817 rfl dc_M_disagreementOf_34 ?_
      refine lv_iload hx hb dc_M_disagreementOf_37 (lv_at hl 3 rfl) ?_
      obtain ⟨hi1, h⟩ := h
      refine ow_iald hx hb hB (ly_M_trial hG k0) hi1 dc_M_disagreementOf_39 ?_
      refine lv_imul hx hb dc_M_disagreementOf_40 ?_
      refine lv_aload_n hx hb dc_M_disagreementOf_41 rfl (lv_at hl 0 rfl) ?_
      refine ow_get hx hb hts iw_M hown hB k0 rfl 20 (by decide) mw_817 rfl dc_M_disagreementOf_42 ?_
      refine lv_iload_n hx hb dc_M_disagreementOf_45 rfl (lv_at hl 2 rfl) ?_
      obtain ⟨hi2, h⟩ := h
      refine ow_iald hx hb hB (ly_M_trial hG k0) hi2 dc_M_disagreementOf_46 ?_
      refine lv_iadd hx hb dc_M_disagreementOf_47 ?_
      obtain ⟨hi3, h⟩ := h
      refine ow_iald hx hb hB (ly_M_pairs hG k0) hi3 dc_M_disagreementOf_48 ?_
      refine lv_i2l hx hb dc_M_disagreementOf_49 rfl ?_
      refine lv_ladd hx hb dc_M_disagreementOf_50 ?_
      refine lv_lstore_n hx hb dc_M_disagreementOf_51 rfl hl (by decide) rfl (fun ls hl => ?_)
      refine lv_iinc hx hb dc_M_disagreementOf_52 hl (k := 3) rfl rfl (by decide) rfl (fun ls hl => ?_)
      refine lv_goto hx hb dc_M_disagreementOf_55 rfl ?_
      exact hK17 _ _ _ _ _ _ h hB (lv_sub hl [2, 1, 3, 0] rfl)
  have L17 : ∀ (x3 : Int32) (K4 : om_M × Int64 × Int32 → Prop) (hK4 : ∀ (M : om_M) (j1 : Int64) (x3 : Int32) (H : Heap) (locs : List Loc) (ls : Array Slot), K4 (M, j1, x3) → ow_B G D cA ad (ow_A G ad) M s s.heap H locs → lv_has ls 5 [(0, .ref (ad o0)), (1, .long j1), (3, .int x3)] → W p l e rm_M_disagreementOf s m ([.ref (ad o0)] : List Value).toArray below meth c H locs 0 0 (MQ below (ow_Ql G D cA ad Q) ([.ref (ad o0)] : List Value).toArray s 0 0 (ow_A G ad)) (F0 m 4 ls [])) (M : om_M) (j1 : Int64) (x4 : Int32) (H : Heap) (locs : List Loc) (ls : Array Slot), wp_M_disagreementOf_17 F o0 Q x3 K4 M j1 x4 → ow_B G D cA ad (ow_A G ad) M s s.heap H locs → lv_has ls 5 [(0, .ref (ad o0)), (1, .long j1), (3, .int x3), (4, .int x4)] → W p l e rm_M_disagreementOf s m ([.ref (ad o0)] : List Value).toArray below meth c H locs 0 0 (MQ below (ow_Ql G D cA ad Q) ([.ref (ad o0)] : List Value).toArray s 0 0 (ow_A G ad)) (F0 m 17 ls []) := by
    intro x3 K4 hK4
    have step : ∀ (k : Nat) (M : om_M) (j1 : Int64) (x4 : Int32) (H : Heap) (locs : List Loc) (ls : Array Slot), ow_lp (fun (z : om_M × Int64 × Int32) K => wp_M_disagreementOf_17b F o0 Q x3 K4 K z.1 z.2.1 z.2.2) k (M, j1, x4) → ow_B G D cA ad (ow_A G ad) M s s.heap H locs → lv_has ls 5 [(0, .ref (ad o0)), (1, .long j1), (3, .int x3), (4, .int x4)] → W p l e rm_M_disagreementOf s m ([.ref (ad o0)] : List Value).toArray below meth c H locs 0 0 (MQ below (ow_Ql G D cA ad Q) ([.ref (ad o0)] : List Value).toArray s 0 0 (ow_A G ad)) (F0 m 17 ls []) := by
      intro k
      induction k with
      | zero => intro M j1 x4 H locs ls h hB hl; exact False.elim h
      | succ k ih => intro M j1 x4 H locs ls h hB hl; exact B17 x3 K4 hK4 (ow_lp _ k) (fun M j1 x4 H locs ls h hB  hl => ih M j1 x4  H locs ls h hB hl) M j1 x4 H locs ls h hB hl
    intro M j1 x4 H locs ls h hB hl
    exact step F M j1 x4 H locs ls h hB hl
  have B4 : ∀   (K4 : om_M × Int64 × Int32 → Prop) (hK4 : ∀ (M : om_M) (j1 : Int64) (x3 : Int32) (H : Heap) (locs : List Loc) (ls : Array Slot), K4 (M, j1, x3) → ow_B G D cA ad (ow_A G ad) M s s.heap H locs → lv_has ls 5 [(0, .ref (ad o0)), (1, .long j1), (3, .int x3)] → W p l e rm_M_disagreementOf s m ([.ref (ad o0)] : List Value).toArray below meth c H locs 0 0 (MQ below (ow_Ql G D cA ad Q) ([.ref (ad o0)] : List Value).toArray s 0 0 (ow_A G ad)) (F0 m 4 ls [])) (M : om_M) (j1 : Int64) (x3 : Int32) (H : Heap) (locs : List Loc) (ls : Array Slot), wp_M_disagreementOf_4b F o0 Q   K4 M j1 x3 → ow_B G D cA ad (ow_A G ad) M s s.heap H locs → lv_has ls 5 [(0, .ref (ad o0)), (1, .long j1), (3, .int x3)] → W p l e rm_M_disagreementOf s m ([.ref (ad o0)] : List Value).toArray below meth c H locs 0 0 (MQ below (ow_Ql G D cA ad Q) ([.ref (ad o0)] : List Value).toArray s 0 0 (ow_A G ad)) (F0 m 4 ls []) := by
    intro   K4 hK4 M j1 x3 H locs ls h hB hl
    refine lv_iload_n hx hb dc_M_disagreementOf_4 rfl (lv_at hl 2 rfl) ?_
    refine lv_aload_n hx hb dc_M_disagreementOf_5 rfl (lv_at hl 0 rfl) ?_
    refine ow_get hx hb hts iw_M hown hB k0 rfl 1 (by decide) mw_798 rfl dc_M_disagreementOf_6 ?_
    obtain ⟨h1, h2⟩ := h
    refine lv_icmp_ge hx hb dc_M_disagreementOf_9 rfl (fun hc => ?_) (fun hc => ?_)
    · have h := h1 hc
      refine lv_lload_n hx hb dc_M_disagreementOf_64 rfl (lv_at hl 1 rfl) ?_
      exact ow_lret hx hb hr hlocks hB h dc_M_disagreementOf_65
    · have h := h2 hc
      refine lv_iload_n hx hb dc_M_disagreementOf_12 rfl (lv_at hl 2 rfl) ?_
      refine lv_iconst (v := 1) hx hb dc_M_disagreementOf_13 rfl ?_
      refine lv_iadd hx hb dc_M_disagreementOf_14 ?_
      refine lv_istore hx hb dc_M_disagreementOf_15 hl (by decide) rfl (fun ls hl => ?_)
      exact L17 _ K4 hK4 _ _ _ _ _ _ h hB (lv_sub hl [1, 2, 3, 0] rfl)
  have L4 : ∀   (M : om_M) (j1 : Int64) (x3 : Int32) (H : Heap) (locs : List Loc) (ls : Array Slot), wp_M_disagreementOf_4 F o0 Q   M j1 x3 → ow_B G D cA ad (ow_A G ad) M s s.heap H locs → lv_has ls 5 [(0, .ref (ad o0)), (1, .long j1), (3, .int x3)] → W p l e rm_M_disagreementOf s m ([.ref (ad o0)] : List Value).toArray below meth c H locs 0 0 (MQ below (ow_Ql G D cA ad Q) ([.ref (ad o0)] : List Value).toArray s 0 0 (ow_A G ad)) (F0 m 4 ls []) := by
    have step : ∀ (k : Nat) (M : om_M) (j1 : Int64) (x3 : Int32) (H : Heap) (locs : List Loc) (ls : Array Slot), ow_lp (fun (z : om_M × Int64 × Int32) K => wp_M_disagreementOf_4b F o0 Q   K z.1 z.2.1 z.2.2) k (M, j1, x3) → ow_B G D cA ad (ow_A G ad) M s s.heap H locs → lv_has ls 5 [(0, .ref (ad o0)), (1, .long j1), (3, .int x3)] → W p l e rm_M_disagreementOf s m ([.ref (ad o0)] : List Value).toArray below meth c H locs 0 0 (MQ below (ow_Ql G D cA ad Q) ([.ref (ad o0)] : List Value).toArray s 0 0 (ow_A G ad)) (F0 m 4 ls []) := by
      intro k
      induction k with
      | zero => intro M j1 x3 H locs ls h hB hl; exact False.elim h
      | succ k ih => intro M j1 x3 H locs ls h hB hl; exact B4   (ow_lp _ k) (fun M j1 x3 H locs ls h hB  hl => ih M j1 x3  H locs ls h hB hl) M j1 x3 H locs ls h hB hl
    intro M j1 x3 H locs ls h hB hl
    exact step F M j1 x3 H locs ls h hB hl
  have hl := lv_entry ([.ref (ad o0)]) (n := 5) (Nat.le_of_ble_eq_true rfl)
  rw [lg_entry_eq]
  generalize (lg_sl ([.ref (ad o0)]) ++ List.replicate (5 - (lg_sl ([.ref (ad o0)])).length) Slot.unset).toArray = ls at hl ⊢
  have hl : lv_has ls 5 [(0, .ref (ad o0))] := hl
  show W p l e rm_M_disagreementOf s m _ below meth c s.heap [] 0 0 _ _
  refine lv_lconst (v := 0) hx hb dc_M_disagreementOf_0 rfl ?_
  refine lv_lstore_n hx hb dc_M_disagreementOf_1 rfl hl (by decide) rfl (fun ls hl => ?_)
  refine lv_iconst (v := 0) hx hb dc_M_disagreementOf_2 rfl ?_
  refine lv_istore_n hx hb dc_M_disagreementOf_3 rfl hl (by decide) rfl (fun ls hl => ?_)
  exact L4 _ _ _ _ _ _ h hB (lv_sub hl [2, 1, 0] rfl)
abbrev rm_M_sooner2 : Room := { frames := 1, cells := 0, slots := 0, locals := 22 }
theorem hd_M_sooner2 : yn_M_sooner2.cls ≠ "java/lang/invoke/MethodHandle" ∧ yn_M_sooner2.cls ≠ "java/lang/invoke/VarHandle" ∧ (parseMethodDescriptor yn_M_sooner2.desc).map (fun d => d.parameters.length) = some 0 := by decide +kernel
set_option maxHeartbeats 4000000 in
set_option maxRecDepth 100000 in
theorem ct_M_sooner2 (l : Launch) (G : List (Nat × Nat)) (hG : ow_lay G) (D : va_G) (cA : Nat → ClassId) (ad : Nat → Nat) (F : Nat) (o0 : Nat) (k0 : ow_kd G o0 = (3, 9)) (M : om_M) (Q : Int32 → om_M → Prop) (h : wp_M_sooner2 F o0 M Q) : Met l yn_M_sooner2 (ow_ws yn_M_sooner2 cb_M_sooner2 2 (some .boolean)) rm_M_sooner2 (ow_Pc G D cA ad M [.ref (ad o0)]) (ow_Qi G D cA ad Q) 0 0 (ow_A G ad) := by
  refine Met.ofW (cc := cb_M_sooner2) (maxL := 2) (ret := (some .boolean)) (by decide) rfl ?_
  intro p e s m args below meth c s₁ B hml hv
  obtain ⟨rfl, hB⟩ := hv
  have hx := B.exec
  have hb := B.bytes
  have hr := B.returns
  have hlocks := B.notSynchronized
  have hts : ∀ w ∈ lw_g, w.before ([.ref (ad o0)] : List Value).toArray s = true := fun w h => atoms_spec (ws := ow_ws yn_M_sooner2 cb_M_sooner2 2 (some .boolean)) B.pre w (List.mem_cons_of_mem _ h)
  have hown : s.vm.findClass "BallotDeskModel" = some m.cls := findClass_of_methodNamed B.named
  clear B
  have L66 : ∀   (M : om_M)   (H : Heap) (locs : List Loc) (ls : Array Slot), wp_M_sooner2_66 F o0 Q   M   → ow_B G D cA ad (ow_A G ad) M s s.heap H locs → lv_has ls 2 [] → W p l e rm_M_sooner2 s m ([.ref (ad o0)] : List Value).toArray below meth c H locs 0 0 (MQ below (ow_Qi G D cA ad Q) ([.ref (ad o0)] : List Value).toArray s 0 0 (ow_A G ad)) (F0 m 66 ls []) := by
    intro   M H locs ls h hB hl
    refine lv_iconst (v := 0) hx hb dc_M_sooner2_66 rfl ?_
    exact ow_zret hx hb hr hlocks (by decide) hB h dc_M_sooner2_67
  have L31 : ∀   (M : om_M) (x1 : Int32)  (H : Heap) (locs : List Loc) (ls : Array Slot), wp_M_sooner2_31 F o0 Q   M x1  → ow_B G D cA ad (ow_A G ad) M s s.heap H locs → lv_has ls 2 [(0, .ref (ad o0)), (1, .int x1)] → W p l e rm_M_sooner2 s m ([.ref (ad o0)] : List Value).toArray below meth c H locs 0 0 (MQ below (ow_Qi G D cA ad Q) ([.ref (ad o0)] : List Value).toArray s 0 0 (ow_A G ad)) (F0 m 31 ls []) := by
    intro   M x1 H locs ls h hB hl
    refine lv_iload_n hx hb dc_M_sooner2_31 rfl (lv_at hl 1 rfl) ?_
    refine lv_aload_n hx hb dc_M_sooner2_32 rfl (lv_at hl 0 rfl) ?_
    refine ow_get hx hb hts iw_M hown hB k0 rfl 1 (by decide) mw_798 rfl dc_M_sooner2_33 ?_
    obtain ⟨h1, h2⟩ := h
    refine lv_icmp_ge hx hb dc_M_sooner2_36 rfl (fun hc => ?_) (fun hc => ?_)
    · have h := h1 hc
      exact L66 _ _ _ _ h hB (lv_sub hl [] rfl)
    · have h := h2 hc
      refine lv_aload_n hx hb dc_M_sooner2_39 rfl (lv_at hl 0 rfl) ?_
      refine lv_aload_n hx hb dc_M_sooner2_40 rfl (lv_at hl 0 rfl) ?_
      refine ow_get hx hb hts iw_M hown hB k0 rfl 20 (by decide) mw_817 rfl dc_M_sooner2_41 ?_
      refine lv_iload_n hx hb dc_M_sooner2_44 rfl (lv_at hl 1 rfl) ?_
      obtain ⟨hi1, h⟩ := h
      refine ow_iald hx hb hB (ly_M_trial hG k0) hi1 dc_M_sooner2_45 ?_
      refine ow_calli (va_runV (As := [.int (M.1 (o0 + 16) x1.toNatClampNeg)]) (rest := []) ⟨hx, hb, hml, hown, hts⟩ (ct_M_tiePlace l G hG D cA ad F _ k0 _ _ _ h) ⟨ow_cb 1 hts mw_1005 mw_12 mw_1002 rfl rfl hd_M_tiePlace ⟨Nat.le_of_ble_eq_true rfl, Nat.le_of_ble_eq_true rfl⟩, hts _ mw_1004, hts _ ms_39⟩ (ow_preV hB k0 rfl) rfl rfl hl.1 rfl (lv_room (Nat.le_of_ble_eq_true rfl)) dc_M_sooner2_46 ⟨Nat.zero_le _, Nat.zero_le _⟩) hB (fun r3 M2 H locs h hB => ?_)
      refine lv_aload_n hx hb dc_M_sooner2_49 rfl (lv_at hl 0 rfl) ?_
      refine lv_aload_n hx hb dc_M_sooner2_50 rfl (lv_at hl 0 rfl) ?_
      refine ow_get hx hb hts iw_M hown hB k0 rfl 21 (by decide) mw_818 rfl dc_M_sooner2_51 ?_
      refine lv_iload_n hx hb dc_M_sooner2_54 rfl (lv_at hl 1 rfl) ?_
      refine ow_iald hx hb hB (ly_M_best hG k0) hi1 dc_M_sooner2_55 ?_
      refine ow_calli (va_runV (As := [.int (M2.1 (o0 + 17) x1.toNatClampNeg)]) (rest := [.int r3]) ⟨hx, hb, hml, hown, hts⟩ (ct_M_tiePlace l G hG D cA ad F _ k0 _ _ _ h) ⟨ow_cb 1 hts mw_1005 mw_12 mw_1002 rfl rfl hd_M_tiePlace ⟨Nat.le_of_ble_eq_true rfl, Nat.le_of_ble_eq_true rfl⟩, hts _ mw_1004, hts _ ms_39⟩ (ow_preV hB k0 rfl) rfl rfl hl.1 rfl (lv_room (Nat.le_of_ble_eq_true rfl)) dc_M_sooner2_56 ⟨Nat.zero_le _, Nat.zero_le _⟩) hB (fun r5 M4 H locs h hB => ?_)
      obtain ⟨h1, h2⟩ := h
      refine lv_icmp_ge hx hb dc_M_sooner2_59 rfl (fun hc => ?_) (fun hc => ?_)
      · have h := h1 hc
        exact L66 _ _ _ _ h hB (lv_sub hl [] rfl)
      · have h := h2 hc
        refine lv_iconst (v := 1) hx hb dc_M_sooner2_62 rfl ?_
        refine lv_goto hx hb dc_M_sooner2_63 rfl ?_
        exact ow_zret hx hb hr hlocks (by decide) hB h dc_M_sooner2_67
  have B2 : ∀   (K2 : om_M × Int32 → Prop) (hK2 : ∀ (M : om_M) (x1 : Int32) (H : Heap) (locs : List Loc) (ls : Array Slot), K2 (M, x1) → ow_B G D cA ad (ow_A G ad) M s s.heap H locs → lv_has ls 2 [(0, .ref (ad o0)), (1, .int x1)] → W p l e rm_M_sooner2 s m ([.ref (ad o0)] : List Value).toArray below meth c H locs 0 0 (MQ below (ow_Qi G D cA ad Q) ([.ref (ad o0)] : List Value).toArray s 0 0 (ow_A G ad)) (F0 m 2 ls [])) (M : om_M) (x1 : Int32) (H : Heap) (locs : List Loc) (ls : Array Slot), wp_M_sooner2_2b F o0 Q   K2 M x1 → ow_B G D cA ad (ow_A G ad) M s s.heap H locs → lv_has ls 2 [(0, .ref (ad o0)), (1, .int x1)] → W p l e rm_M_sooner2 s m ([.ref (ad o0)] : List Value).toArray below meth c H locs 0 0 (MQ below (ow_Qi G D cA ad Q) ([.ref (ad o0)] : List Value).toArray s 0 0 (ow_A G ad)) (F0 m 2 ls []) := by
    intro   K2 hK2 M x1 H locs ls h hB hl
    refine lv_iload_n hx hb dc_M_sooner2_2 rfl (lv_at hl 1 rfl) ?_
    refine lv_aload_n hx hb dc_M_sooner2_3 rfl (lv_at hl 0 rfl) ?_
    refine ow_get hx hb hts iw_M hown hB k0 rfl 1 (by decide) mw_798 rfl dc_M_sooner2_4 ?_
    obtain ⟨h1, h2⟩ := h
    refine lv_icmp_ge hx hb dc_M_sooner2_7 rfl (fun hc => ?_) (fun hc => ?_)
    · have h := h1 hc
      exact L31 _ _ _ _ _ h hB (lv_sub hl [0, 1] rfl)
    · have h := h2 hc
      refine lv_aload_n hx hb dc_M_sooner2_10 rfl (lv_at hl 0 rfl) ?_
      refine ow_get hx hb hts iw_M hown hB k0 rfl 20 (by decide) mw_817 rfl dc_M_sooner2_11 ?_
      refine lv_iload_n hx hb dc_M_sooner2_14 rfl (lv_at hl 1 rfl) ?_
      obtain ⟨hi6, h⟩ := h
      refine ow_iald hx hb hB (ly_M_trial hG k0) hi6 dc_M_sooner2_15 ?_
      refine lv_aload_n hx hb dc_M_sooner2_16 rfl (lv_at hl 0 rfl) ?_
      refine ow_get hx hb hts iw_M hown hB k0 rfl 21 (by decide) mw_818 rfl dc_M_sooner2_17 ?_
      refine lv_iload_n hx hb dc_M_sooner2_20 rfl (lv_at hl 1 rfl) ?_
      refine ow_iald hx hb hB (ly_M_best hG k0) hi6 dc_M_sooner2_21 ?_
      obtain ⟨h1, h2⟩ := h
      refine lv_icmp_ne hx hb dc_M_sooner2_22 rfl (fun hc => ?_) (fun hc => ?_)
      · have h := h2 hc
        exact L31 _ _ _ _ _ h hB (lv_sub hl [0, 1] rfl)
      · have h := h1 hc
        refine lv_iinc hx hb dc_M_sooner2_25 hl (k := 1) rfl rfl (by decide) rfl (fun ls hl => ?_)
        refine lv_goto hx hb dc_M_sooner2_28 rfl ?_
        exact hK2 _ _ _ _ _ h hB (lv_sub hl [1, 0] rfl)
  have L2 : ∀   (M : om_M) (x1 : Int32) (H : Heap) (locs : List Loc) (ls : Array Slot), wp_M_sooner2_2 F o0 Q   M x1 → ow_B G D cA ad (ow_A G ad) M s s.heap H locs → lv_has ls 2 [(0, .ref (ad o0)), (1, .int x1)] → W p l e rm_M_sooner2 s m ([.ref (ad o0)] : List Value).toArray below meth c H locs 0 0 (MQ below (ow_Qi G D cA ad Q) ([.ref (ad o0)] : List Value).toArray s 0 0 (ow_A G ad)) (F0 m 2 ls []) := by
    have step : ∀ (k : Nat) (M : om_M) (x1 : Int32) (H : Heap) (locs : List Loc) (ls : Array Slot), ow_lp (fun (z : om_M × Int32) K => wp_M_sooner2_2b F o0 Q   K z.1 z.2) k (M, x1) → ow_B G D cA ad (ow_A G ad) M s s.heap H locs → lv_has ls 2 [(0, .ref (ad o0)), (1, .int x1)] → W p l e rm_M_sooner2 s m ([.ref (ad o0)] : List Value).toArray below meth c H locs 0 0 (MQ below (ow_Qi G D cA ad Q) ([.ref (ad o0)] : List Value).toArray s 0 0 (ow_A G ad)) (F0 m 2 ls []) := by
      intro k
      induction k with
      | zero => intro M x1 H locs ls h hB hl; exact False.elim h
      | succ k ih => intro M x1 H locs ls h hB hl; exact B2   (ow_lp _ k) (fun M x1 H locs ls h hB  hl => ih M x1  H locs ls h hB hl) M x1 H locs ls h hB hl
    intro M x1 H locs ls h hB hl
    exact step F M x1 H locs ls h hB hl
  have hl := lv_entry ([.ref (ad o0)]) (n := 2) (Nat.le_of_ble_eq_true rfl)
  rw [lg_entry_eq]
  generalize (lg_sl ([.ref (ad o0)]) ++ List.replicate (2 - (lg_sl ([.ref (ad o0)])).length) Slot.unset).toArray = ls at hl ⊢
  have hl : lv_has ls 2 [(0, .ref (ad o0))] := hl
  show W p l e rm_M_sooner2 s m _ below meth c s.heap [] 0 0 _ _
  refine lv_iconst (v := 0) hx hb dc_M_sooner2_0 rfl ?_
  refine lv_istore_n hx hb dc_M_sooner2_1 rfl hl (by decide) rfl (fun ls hl => ?_)
  exact L2 _ _ _ _ _ h hB (lv_sub hl [1, 0] rfl)
abbrev rm_M_findAgreed : Room := { frames := 2, cells := 0, slots := 0, locals := 43 }
theorem hd_M_findAgreed : yn_M_findAgreed.cls ≠ "java/lang/invoke/MethodHandle" ∧ yn_M_findAgreed.cls ≠ "java/lang/invoke/VarHandle" ∧ (parseMethodDescriptor yn_M_findAgreed.desc).map (fun d => d.parameters.length) = some 0 := by decide +kernel
set_option maxHeartbeats 4000000 in
set_option maxRecDepth 100000 in
theorem ct_M_findAgreed (l : Launch) (G : List (Nat × Nat)) (hG : ow_lay G) (D : va_G) (cA : Nat → ClassId) (ad : Nat → Nat) (F : Nat) (o0 : Nat) (k0 : ow_kd G o0 = (3, 9)) (M : om_M) (Q : Int64 → om_M → Prop) (h : wp_M_findAgreed F o0 M Q) : Met l yn_M_findAgreed (ow_ws yn_M_findAgreed cb_M_findAgreed 7 (some .long)) rm_M_findAgreed (ow_Pc G D cA ad M [.ref (ad o0)]) (ow_Ql G D cA ad Q) 0 0 (ow_A G ad) := by
  refine Met.ofW (cc := cb_M_findAgreed) (maxL := 7) (ret := (some .long)) (by decide) rfl ?_
  intro p e s m args below meth c s₁ B hml hv
  obtain ⟨rfl, hB⟩ := hv
  have hx := B.exec
  have hb := B.bytes
  have hr := B.returns
  have hlocks := B.notSynchronized
  have hts : ∀ w ∈ lw_g, w.before ([.ref (ad o0)] : List Value).toArray s = true := fun w h => atoms_spec (ws := ow_ws yn_M_findAgreed cb_M_findAgreed 7 (some .long)) B.pre w (List.mem_cons_of_mem _ h)
  have hown : s.vm.findClass "BallotDeskModel" = some m.cls := findClass_of_methodNamed B.named
  clear B
  have L88 : ∀  (K18 : om_M × Int64 × Int32 → Prop) (hK18 : ∀ (M : om_M) (j1 : Int64) (x3 : Int32) (H : Heap) (locs : List Loc) (ls : Array Slot), K18 (M, j1, x3) → ow_B G D cA ad (ow_A G ad) M s s.heap H locs → lv_has ls 7 [(0, .ref (ad o0)), (1, .long j1), (3, .int x3)] → W p l e rm_M_findAgreed s m ([.ref (ad o0)] : List Value).toArray below meth c H locs 0 0 (MQ below (ow_Ql G D cA ad Q) ([.ref (ad o0)] : List Value).toArray s 0 0 (ow_A G ad)) (F0 m 18 ls [])) (M : om_M) (j1 : Int64)  (H : Heap) (locs : List Loc) (ls : Array Slot), wp_M_findAgreed_88 F o0 Q  K18 M j1  → ow_B G D cA ad (ow_A G ad) M s s.heap H locs → lv_has ls 7 [(0, .ref (ad o0)), (1, .long j1)] → W p l e rm_M_findAgreed s m ([.ref (ad o0)] : List Value).toArray below meth c H locs 0 0 (MQ below (ow_Ql G D cA ad Q) ([.ref (ad o0)] : List Value).toArray s 0 0 (ow_A G ad)) (F0 m 88 ls []) := by
    intro  K18 hK18 M j1 H locs ls h hB hl
    refine lv_aload_n hx hb dc_M_findAgreed_88 rfl (lv_at hl 0 rfl) ?_
    refine ow_calli (va_runV (As := []) (rest := []) ⟨hx, hb, hml, hown, hts⟩ (ct_M_nextOrder l G hG D cA ad F _ k0 _ _ h) ⟨ow_cb 0 hts mw_1086 mw_12 mw_1083 rfl rfl hd_M_nextOrder ⟨Nat.le_of_ble_eq_true rfl, Nat.le_of_ble_eq_true rfl⟩, hts _ mw_1085, hts _ ms_52⟩ (ow_preV hB k0 rfl) rfl rfl hl.1 rfl (lv_room (Nat.le_of_ble_eq_true rfl)) dc_M_findAgreed_89 ⟨Nat.zero_le _, Nat.zero_le _⟩) hB (fun r2 M1 H locs h hB => ?_)
    refine lv_istore_n hx hb dc_M_findAgreed_92 rfl hl (by decide) rfl (fun ls hl => ?_)
    refine lv_goto hx hb dc_M_findAgreed_93 rfl ?_
    exact hK18 _ _ _ _ _ _ h hB (lv_sub hl [1, 2, 0] rfl)
  have B61 : ∀ (j1 : Int64) (K18 : om_M × Int64 × Int32 → Prop) (hK18 : ∀ (M : om_M) (j1 : Int64) (x3 : Int32) (H : Heap) (locs : List Loc) (ls : Array Slot), K18 (M, j1, x3) → ow_B G D cA ad (ow_A G ad) M s s.heap H locs → lv_has ls 7 [(0, .ref (ad o0)), (1, .long j1), (3, .int x3)] → W p l e rm_M_findAgreed s m ([.ref (ad o0)] : List Value).toArray below meth c H locs 0 0 (MQ below (ow_Ql G D cA ad Q) ([.ref (ad o0)] : List Value).toArray s 0 0 (ow_A G ad)) (F0 m 18 ls [])) (K61 : om_M × Int32 → Prop) (hK61 : ∀ (M : om_M) (x6 : Int32) (H : Heap) (locs : List Loc) (ls : Array Slot), K61 (M, x6) → ow_B G D cA ad (ow_A G ad) M s s.heap H locs → lv_has ls 7 [(0, .ref (ad o0)), (1, .long j1), (6, .int x6)] → W p l e rm_M_findAgreed s m ([.ref (ad o0)] : List Value).toArray below meth c H locs 0 0 (MQ below (ow_Ql G D cA ad Q) ([.ref (ad o0)] : List Value).toArray s 0 0 (ow_A G ad)) (F0 m 61 ls [])) (M : om_M) (x6 : Int32) (H : Heap) (locs : List Loc) (ls : Array Slot), wp_M_findAgreed_61b F o0 Q j1 K18 K61 M x6 → ow_B G D cA ad (ow_A G ad) M s s.heap H locs → lv_has ls 7 [(0, .ref (ad o0)), (1, .long j1), (6, .int x6)] → W p l e rm_M_findAgreed s m ([.ref (ad o0)] : List Value).toArray below meth c H locs 0 0 (MQ below (ow_Ql G D cA ad Q) ([.ref (ad o0)] : List Value).toArray s 0 0 (ow_A G ad)) (F0 m 61 ls []) := by
    intro j1 K18 hK18 K61 hK61 M x6 H locs ls h hB hl
    refine lv_iload hx hb dc_M_findAgreed_61 (lv_at hl 2 rfl) ?_
    refine lv_bipush (v := 7) hx hb dc_M_findAgreed_63 rfl ?_
    obtain ⟨h1, h2⟩ := h
    refine lv_icmp_ge hx hb dc_M_findAgreed_65 rfl (fun hc => ?_) (fun hc => ?_)
    · have h := h1 hc
      exact L88 K18 hK18 _ _ _ _ _ h hB (lv_sub hl [0, 1] rfl)
    · have h := h2 hc
      refine lv_aload_n hx hb dc_M_findAgreed_68 rfl (lv_at hl 0 rfl) ?_
      refine ow_get hx hb hts iw_M hown hB k0 rfl 21 (by decide) mw_818 rfl dc_M_findAgreed_69 ?_
      refine lv_iload hx hb dc_M_findAgreed_72 (lv_at hl 2 rfl) ?_
      refine lv_aload_n hx hb dc_M_findAgreed_74 rfl (lv_at hl 0 rfl) ?_
      refine ow_get hx hb hts iw_M hown hB k0 rfl 20 (by decide) mw_817 rfl dc_M_findAgreed_75 ?_
      refine lv_iload hx hb dc_M_findAgreed_78 (lv_at hl 2 rfl) ?_
      obtain ⟨hi3, h⟩ := h
      refine ow_iald hx hb hB (ly_M_trial hG k0) hi3 dc_M_findAgreed_80 ?_
      refine ow_iast hx hb hB (ly_M_best hG k0) hi3 dc_M_findAgreed_81 (fun H locs hB => ?_)
      refine lv_iinc hx hb dc_M_findAgreed_82 hl (k := 2) rfl rfl (by decide) rfl (fun ls hl => ?_)
      refine lv_goto hx hb dc_M_findAgreed_85 rfl ?_
      exact hK61 _ _ _ _ _ h hB (lv_sub hl [1, 2, 0] rfl)
  have L61 : ∀ (j1 : Int64) (K18 : om_M × Int64 × Int32 → Prop) (hK18 : ∀ (M : om_M) (j1 : Int64) (x3 : Int32) (H : Heap) (locs : List Loc) (ls : Array Slot), K18 (M, j1, x3) → ow_B G D cA ad (ow_A G ad) M s s.heap H locs → lv_has ls 7 [(0, .ref (ad o0)), (1, .long j1), (3, .int x3)] → W p l e rm_M_findAgreed s m ([.ref (ad o0)] : List Value).toArray below meth c H locs 0 0 (MQ below (ow_Ql G D cA ad Q) ([.ref (ad o0)] : List Value).toArray s 0 0 (ow_A G ad)) (F0 m 18 ls [])) (M : om_M) (x6 : Int32) (H : Heap) (locs : List Loc) (ls : Array Slot), wp_M_findAgreed_61 F o0 Q j1 K18 M x6 → ow_B G D cA ad (ow_A G ad) M s s.heap H locs → lv_has ls 7 [(0, .ref (ad o0)), (1, .long j1), (6, .int x6)] → W p l e rm_M_findAgreed s m ([.ref (ad o0)] : List Value).toArray below meth c H locs 0 0 (MQ below (ow_Ql G D cA ad Q) ([.ref (ad o0)] : List Value).toArray s 0 0 (ow_A G ad)) (F0 m 61 ls []) := by
    intro j1 K18 hK18
    have step : ∀ (k : Nat) (M : om_M) (x6 : Int32) (H : Heap) (locs : List Loc) (ls : Array Slot), ow_lp (fun (z : om_M × Int32) K => wp_M_findAgreed_61b F o0 Q j1 K18 K z.1 z.2) k (M, x6) → ow_B G D cA ad (ow_A G ad) M s s.heap H locs → lv_has ls 7 [(0, .ref (ad o0)), (1, .long j1), (6, .int x6)] → W p l e rm_M_findAgreed s m ([.ref (ad o0)] : List Value).toArray below meth c H locs 0 0 (MQ below (ow_Ql G D cA ad Q) ([.ref (ad o0)] : List Value).toArray s 0 0 (ow_A G ad)) (F0 m 61 ls []) := by
      intro k
      induction k with
      | zero => intro M x6 H locs ls h hB hl; exact False.elim h
      | succ k ih => intro M x6 H locs ls h hB hl; exact B61 j1 K18 hK18 (ow_lp _ k) (fun M x6 H locs ls h hB  hl => ih M x6  H locs ls h hB hl) M x6 H locs ls h hB hl
    intro M x6 H locs ls h hB hl
    exact step F M x6 H locs ls h hB hl
  have L55 : ∀  (K18 : om_M × Int64 × Int32 → Prop) (hK18 : ∀ (M : om_M) (j1 : Int64) (x3 : Int32) (H : Heap) (locs : List Loc) (ls : Array Slot), K18 (M, j1, x3) → ow_B G D cA ad (ow_A G ad) M s s.heap H locs → lv_has ls 7 [(0, .ref (ad o0)), (1, .long j1), (3, .int x3)] → W p l e rm_M_findAgreed s m ([.ref (ad o0)] : List Value).toArray below meth c H locs 0 0 (MQ below (ow_Ql G D cA ad Q) ([.ref (ad o0)] : List Value).toArray s 0 0 (ow_A G ad)) (F0 m 18 ls [])) (M : om_M) (j4 : Int64)  (H : Heap) (locs : List Loc) (ls : Array Slot), wp_M_findAgreed_55 F o0 Q  K18 M j4  → ow_B G D cA ad (ow_A G ad) M s s.heap H locs → lv_has ls 7 [(0, .ref (ad o0)), (4, .long j4)] → W p l e rm_M_findAgreed s m ([.ref (ad o0)] : List Value).toArray below meth c H locs 0 0 (MQ below (ow_Ql G D cA ad Q) ([.ref (ad o0)] : List Value).toArray s 0 0 (ow_A G ad)) (F0 m 55 ls []) := by
    intro  K18 hK18 M j4 H locs ls h hB hl
    refine lv_lload hx hb dc_M_findAgreed_55 (lv_at hl 1 rfl) ?_
    refine lv_lstore_n hx hb dc_M_findAgreed_57 rfl hl (by decide) rfl (fun ls hl => ?_)
    refine lv_iconst (v := 0) hx hb dc_M_findAgreed_58 rfl ?_
    refine lv_istore hx hb dc_M_findAgreed_59 hl (by decide) rfl (fun ls hl => ?_)
    exact L61 _ K18 hK18 _ _ _ _ _ h hB (lv_sub hl [2, 1, 0] rfl)
  have B18 : ∀   (K18 : om_M × Int64 × Int32 → Prop) (hK18 : ∀ (M : om_M) (j1 : Int64) (x3 : Int32) (H : Heap) (locs : List Loc) (ls : Array Slot), K18 (M, j1, x3) → ow_B G D cA ad (ow_A G ad) M s s.heap H locs → lv_has ls 7 [(0, .ref (ad o0)), (1, .long j1), (3, .int x3)] → W p l e rm_M_findAgreed s m ([.ref (ad o0)] : List Value).toArray below meth c H locs 0 0 (MQ below (ow_Ql G D cA ad Q) ([.ref (ad o0)] : List Value).toArray s 0 0 (ow_A G ad)) (F0 m 18 ls [])) (M : om_M) (j1 : Int64) (x3 : Int32) (H : Heap) (locs : List Loc) (ls : Array Slot), wp_M_findAgreed_18b F o0 Q   K18 M j1 x3 → ow_B G D cA ad (ow_A G ad) M s s.heap H locs → lv_has ls 7 [(0, .ref (ad o0)), (1, .long j1), (3, .int x3)] → W p l e rm_M_findAgreed s m ([.ref (ad o0)] : List Value).toArray below meth c H locs 0 0 (MQ below (ow_Ql G D cA ad Q) ([.ref (ad o0)] : List Value).toArray s 0 0 (ow_A G ad)) (F0 m 18 ls []) := by
    intro   K18 hK18 M j1 x3 H locs ls h hB hl
    refine lv_iload_n hx hb dc_M_findAgreed_18 rfl (lv_at hl 2 rfl) ?_
    obtain ⟨h1, h2⟩ := h
    refine lv_if_eq hx hb dc_M_findAgreed_19 rfl (fun hc => ?_) (fun hc => ?_)
    · have h := h1 hc
      refine lv_lload_n hx hb dc_M_findAgreed_96 rfl (lv_at hl 1 rfl) ?_
      exact ow_lret hx hb hr hlocks hB h dc_M_findAgreed_97
    · have h := h2 hc
      refine lv_aload_n hx hb dc_M_findAgreed_22 rfl (lv_at hl 0 rfl) ?_
      refine ow_calll (va_runV (As := []) (rest := []) ⟨hx, hb, hml, hown, hts⟩ (ct_M_disagreementOf l G hG D cA ad F _ k0 _ _ h) ⟨ow_cb 0 hts mw_1078 mw_12 mw_1075 rfl rfl hd_M_disagreementOf ⟨Nat.le_of_ble_eq_true rfl, Nat.le_of_ble_eq_true rfl⟩, hts _ mw_1077, hts _ ms_50⟩ (ow_preV hB k0 rfl) rfl rfl hl.1 rfl (lv_room (Nat.le_of_ble_eq_true rfl)) dc_M_findAgreed_23 ⟨Nat.zero_le _, Nat.zero_le _⟩) hB (fun r5 M4 H locs h hB => ?_)
      refine lv_lstore hx hb dc_M_findAgreed_26 hl (by decide) rfl (fun ls hl => ?_)
      refine lv_lload_n hx hb dc_M_findAgreed_28 rfl (lv_at hl 2 rfl) ?_
      refine lv_lconst (v := 0) hx hb dc_M_findAgreed_29 rfl ?_
      obtain ⟨h1, h2⟩ := h
      refine ow_lcmp_lt hx hb dc_M_findAgreed_30 dc_M_findAgreed_31 rfl (fun hc => ?_) (fun hc => ?_)
      · have h := h1 hc
        exact L55 K18 hK18 _ _ _ _ _ h hB (lv_sub hl [1, 0] rfl)
      · have h := h2 hc
        refine lv_lload hx hb dc_M_findAgreed_34 (lv_at hl 0 rfl) ?_
        refine lv_lload_n hx hb dc_M_findAgreed_36 rfl (lv_at hl 2 rfl) ?_
        obtain ⟨h1, h2⟩ := h
        refine ow_lcmp_lt hx hb dc_M_findAgreed_37 dc_M_findAgreed_38 rfl (fun hc => ?_) (fun hc => ?_)
        · have h := h1 hc
          exact L55 K18 hK18 _ _ _ _ _ h hB (lv_sub hl [1, 0] rfl)
        · have h := h2 hc
          refine lv_lload hx hb dc_M_findAgreed_41 (lv_at hl 0 rfl) ?_
          refine lv_lload_n hx hb dc_M_findAgreed_43 rfl (lv_at hl 2 rfl) ?_
          obtain ⟨h1, h2⟩ := h
          refine ow_lcmp_ne hx hb dc_M_findAgreed_44 dc_M_findAgreed_45 rfl (fun hc => ?_) (fun hc => ?_)
          · have h := h2 hc
            exact L88 K18 hK18 _ _ _ _ _ h hB (lv_sub hl [1, 2] rfl)
          · have h := h1 hc
            refine lv_aload_n hx hb dc_M_findAgreed_48 rfl (lv_at hl 1 rfl) ?_
            refine ow_calli (va_runV (As := []) (rest := []) ⟨hx, hb, hml, hown, hts⟩ (ct_M_sooner2 l G hG D cA ad F _ k0 _ _ h) ⟨ow_cb 0 hts mw_1082 mw_12 mw_1079 rfl rfl hd_M_sooner2 ⟨Nat.le_of_ble_eq_true rfl, Nat.le_of_ble_eq_true rfl⟩, hts _ mw_1081, hts _ ms_51⟩ (ow_preV hB k0 rfl) rfl rfl hl.1 rfl (lv_room (Nat.le_of_ble_eq_true rfl)) dc_M_findAgreed_49 ⟨Nat.zero_le _, Nat.zero_le _⟩) hB (fun r7 M6 H locs h hB => ?_)
            obtain ⟨h1, h2⟩ := h
            refine lv_if_eq hx hb dc_M_findAgreed_52 rfl (fun hc => ?_) (fun hc => ?_)
            · have h := h1 hc
              exact L88 K18 hK18 _ _ _ _ _ h hB (lv_sub hl [1, 2] rfl)
            · have h := h2 hc
              exact L55 K18 hK18 _ _ _ _ _ h hB (lv_sub hl [1, 0] rfl)
  have L18 : ∀   (M : om_M) (j1 : Int64) (x3 : Int32) (H : Heap) (locs : List Loc) (ls : Array Slot), wp_M_findAgreed_18 F o0 Q   M j1 x3 → ow_B G D cA ad (ow_A G ad) M s s.heap H locs → lv_has ls 7 [(0, .ref (ad o0)), (1, .long j1), (3, .int x3)] → W p l e rm_M_findAgreed s m ([.ref (ad o0)] : List Value).toArray below meth c H locs 0 0 (MQ below (ow_Ql G D cA ad Q) ([.ref (ad o0)] : List Value).toArray s 0 0 (ow_A G ad)) (F0 m 18 ls []) := by
    have step : ∀ (k : Nat) (M : om_M) (j1 : Int64) (x3 : Int32) (H : Heap) (locs : List Loc) (ls : Array Slot), ow_lp (fun (z : om_M × Int64 × Int32) K => wp_M_findAgreed_18b F o0 Q   K z.1 z.2.1 z.2.2) k (M, j1, x3) → ow_B G D cA ad (ow_A G ad) M s s.heap H locs → lv_has ls 7 [(0, .ref (ad o0)), (1, .long j1), (3, .int x3)] → W p l e rm_M_findAgreed s m ([.ref (ad o0)] : List Value).toArray below meth c H locs 0 0 (MQ below (ow_Ql G D cA ad Q) ([.ref (ad o0)] : List Value).toArray s 0 0 (ow_A G ad)) (F0 m 18 ls []) := by
      intro k
      induction k with
      | zero => intro M j1 x3 H locs ls h hB hl; exact False.elim h
      | succ k ih => intro M j1 x3 H locs ls h hB hl; exact B18   (ow_lp _ k) (fun M j1 x3 H locs ls h hB  hl => ih M j1 x3  H locs ls h hB hl) M j1 x3 H locs ls h hB hl
    intro M j1 x3 H locs ls h hB hl
    exact step F M j1 x3 H locs ls h hB hl
  have hl := lv_entry ([.ref (ad o0)]) (n := 7) (Nat.le_of_ble_eq_true rfl)
  rw [lg_entry_eq]
  generalize (lg_sl ([.ref (ad o0)]) ++ List.replicate (7 - (lg_sl ([.ref (ad o0)])).length) Slot.unset).toArray = ls at hl ⊢
  have hl : lv_has ls 7 [(0, .ref (ad o0))] := hl
  show W p l e rm_M_findAgreed s m _ below meth c s.heap [] 0 0 _ _
  refine lv_aload_n hx hb dc_M_findAgreed_0 rfl (lv_at hl 0 rfl) ?_
  refine ow_callv (va_runV (As := []) (rest := []) ⟨hx, hb, hml, hown, hts⟩ (ct_M_load l G hG D cA ad F _ k0 _ _ h) ⟨ow_cb 0 hts mw_937 mw_12 mw_934 rfl rfl hd_M_load ⟨Nat.le_of_ble_eq_true rfl, Nat.le_of_ble_eq_true rfl⟩, hts _ mw_936, hts _ ms_23⟩ (ow_preV hB k0 rfl) rfl rfl hl.1 rfl (lv_room (Nat.le_of_ble_eq_true rfl)) dc_M_findAgreed_1 ⟨Nat.zero_le _, Nat.zero_le _⟩) hB (fun M8 H locs h hB => ?_)
  refine lv_aload_n hx hb dc_M_findAgreed_4 rfl (lv_at hl 0 rfl) ?_
  refine ow_callv (va_runV (As := []) (rest := []) ⟨hx, hb, hml, hown, hts⟩ (ct_M_tally l G hG D cA ad F _ k0 _ _ h) ⟨ow_cb 0 hts mw_945 mw_12 mw_942 rfl rfl hd_M_tally ⟨Nat.le_of_ble_eq_true rfl, Nat.le_of_ble_eq_true rfl⟩, hts _ mw_944, hts _ ms_25⟩ (ow_preV hB k0 rfl) rfl rfl hl.1 rfl (lv_room (Nat.le_of_ble_eq_true rfl)) dc_M_findAgreed_5 ⟨Nat.zero_le _, Nat.zero_le _⟩) hB (fun M9 H locs h hB => ?_)
  refine lv_aload_n hx hb dc_M_findAgreed_8 rfl (lv_at hl 0 rfl) ?_
  refine ow_callv (va_runV (As := []) (rest := []) ⟨hx, hb, hml, hown, hts⟩ (ct_M_firstOrder l G hG D cA ad F _ k0 _ _ h) ⟨ow_cb 0 hts mw_1073 mw_12 mw_1070 rfl rfl hd_M_firstOrder ⟨Nat.le_of_ble_eq_true rfl, Nat.le_of_ble_eq_true rfl⟩, hts _ mw_1072, hts _ ms_49⟩ (ow_preV hB k0 rfl) rfl rfl hl.1 rfl (lv_room (Nat.le_of_ble_eq_true rfl)) dc_M_findAgreed_9 ⟨Nat.zero_le _, Nat.zero_le _⟩) hB (fun M10 H locs h hB => ?_)
  refine lv_ldc2 hx hb hown (hts _ mw_1074) dc_M_findAgreed_12 ?_
  refine lv_lstore_n hx hb dc_M_findAgreed_15 rfl hl (by decide) rfl (fun ls hl => ?_)
  refine lv_iconst (v := 1) hx hb dc_M_findAgreed_16 rfl ?_
  refine lv_istore_n hx hb dc_M_findAgreed_17 rfl hl (by decide) rfl (fun ls hl => ?_)
  exact L18 _ _ _ _ _ _ h hB (lv_sub hl [2, 1, 0] rfl)
