def wp_M_disagreement (F : Nat) (o0 : Nat) (M : om_M) (Q : Int64 → om_M → Prop) : Prop := wp_M_findAgreed F o0 (om_up M o0 0 0) (fun r2 M1 => Q r2 M1)
def wp_M_agreed (F : Nat) (o0 : Nat) (M : om_M) (Q : Int32 → om_M → Prop) : Prop := wp_M_findAgreed F o0 (om_up M o0 0 0) (fun r2 M1 => wp_M_packed F o0 (o0 + 17) 7 0 M1 (fun r4 M3 => Q r4 M3))
def wp_M_change_236 (F : Nat) (o0 : Nat) (x1 : Int32) (x2 : Int32) (x3 : Int32) (Q : Int32 → om_M → Prop)   (M : om_M) (x4 : Int32) (x5 : Int32)  : Prop := ((x4 ≤ x5 → Q 0 M) ∧ (¬ x4 ≤ x5 → Q (x5 + 1) M))
def wp_M_change_231 (F : Nat) (o0 : Nat) (x1 : Int32) (x2 : Int32) (x3 : Int32) (Q : Int32 → om_M → Prop) (x4 : Int32) (K93 : om_M × Int32 × Int32 → Prop) (M : om_M) (x5 : Int32) (t0 : Int32) : Prop := K93 (M, x5, t0)
def wp_M_change_230 (F : Nat) (o0 : Nat) (x1 : Int32) (x2 : Int32) (x3 : Int32) (Q : Int32 → om_M → Prop) (x4 : Int32) (K93 : om_M × Int32 × Int32 → Prop) (M : om_M) (x5 : Int32)  : Prop := wp_M_change_231 F o0 x1 x2 x3 Q x4 K93 M x5 0
def wp_M_change_214 (F : Nat) (o0 : Nat) (x1 : Int32) (x2 : Int32) (x3 : Int32) (Q : Int32 → om_M → Prop) (x4 : Int32) (K93 : om_M × Int32 × Int32 → Prop) (M : om_M) (x5 : Int32)  : Prop := ((x5 ≤ 0 → wp_M_change_230 F o0 x1 x2 x3 Q x4 K93 M x5) ∧ (¬ x5 ≤ 0 → wp_M_nextOrder F o0 M (fun r2 M1 => ((r2 = 0 → wp_M_change_230 F o0 x1 x2 x3 Q x4 K93 M1 x5) ∧ (¬ r2 = 0 → wp_M_change_231 F o0 x1 x2 x3 Q x4 K93 M1 x5 1)))))
def wp_M_change_164 (F : Nat) (o0 : Nat) (x1 : Int32) (x2 : Int32) (x3 : Int32) (Q : Int32 → om_M → Prop) (x4 : Int32) (K93 : om_M × Int32 × Int32 → Prop) (M : om_M) (x5 : Int32)  : Prop := wp_M_work F o0 x1 (om_up M o0 9 ((M.1 o0 9) + 1)) (fun r4 M3 => wp_M_firstOf F o0 r4 M3 (fun r6 M5 => wp_M_placeOf F o0 x2 r6 M5 (fun r8 M7 => ((x5 ≤ r8 → wp_M_change_214 F o0 x1 x2 x3 Q x4 K93 M7 x5) ∧ (¬ x5 ≤ r8 → wp_M_packed F o0 (o0 + 16) 7 0 M7 (fun r10 M9 => wp_M_change_214 F o0 x1 x2 x3 Q x4 K93 (om_up M9 o0 22 r10) r8))))))
def wp_M_change_129b (F : Nat) (o0 : Nat) (x1 : Int32) (x2 : Int32) (x3 : Int32) (Q : Int32 → om_M → Prop) (x4 : Int32) (x5 : Int32) (K93 : om_M × Int32 × Int32 → Prop) (K129 : om_M × Int32 → Prop) (M : om_M) (x7 : Int32) : Prop := ((7 ≤ x7 → wp_M_change_164 F o0 x1 x2 x3 Q x4 K93 M x5) ∧ (¬ 7 ≤ x7 → vp_in x7 7 ∧ vp_in (((7 : Int32) * (M.1 o0 9)) + x7) 154 ∧ K129 (om_up M (o0 + 6) (((7 : Int32) * (M.1 o0 9)) + x7).toNatClampNeg (M.1 (o0 + 16) x7.toNatClampNeg), x7 + 1)))
def wp_M_change_129 (F : Nat) (o0 : Nat) (x1 : Int32) (x2 : Int32) (x3 : Int32) (Q : Int32 → om_M → Prop) (x4 : Int32) (x5 : Int32) (K93 : om_M × Int32 × Int32 → Prop) (M : om_M) (x7 : Int32) : Prop := ow_lp (fun (z : om_M × Int32) K => wp_M_change_129b F o0 x1 x2 x3 Q x4 x5 K93 K z.1 z.2) F (M, x7)
def wp_M_change_93b (F : Nat) (o0 : Nat) (x1 : Int32) (x2 : Int32) (x3 : Int32) (Q : Int32 → om_M → Prop) (x4 : Int32)  (K93 : om_M × Int32 × Int32 → Prop) (M : om_M) (x5 : Int32) (x6 : Int32) : Prop := ((x6 = 0 → wp_M_change_236 F o0 x1 x2 x3 Q M x4 x5) ∧ (¬ x6 = 0 → wp_M_load F o0 M (fun M13 => vp_in x2 22 ∧ vp_in ((om_up M13 (o0 + 7) x2.toNatClampNeg ((M13.1 (o0 + 7) x2.toNatClampNeg) - x3)).1 o0 9) 22 ∧ wp_M_change_129 F o0 x1 x2 x3 Q x4 x5 K93 (om_up (om_up M13 (o0 + 7) x2.toNatClampNeg ((M13.1 (o0 + 7) x2.toNatClampNeg) - x3)) (o0 + 7) ((om_up M13 (o0 + 7) x2.toNatClampNeg ((M13.1 (o0 + 7) x2.toNatClampNeg) - x3)).1 o0 9).toNatClampNeg x3) 0)))
def wp_M_change_93 (F : Nat) (o0 : Nat) (x1 : Int32) (x2 : Int32) (x3 : Int32) (Q : Int32 → om_M → Prop) (x4 : Int32)  (M : om_M) (x5 : Int32) (x6 : Int32) : Prop := ow_lp (fun (z : om_M × Int32 × Int32) K => wp_M_change_93b F o0 x1 x2 x3 Q x4  K z.1 z.2.1 z.2.2) F (M, x5, x6)
def wp_M_change_49 (F : Nat) (o0 : Nat) (x1 : Int32) (x2 : Int32) (x3 : Int32) (Q : Int32 → om_M → Prop)   (M : om_M)  (t0 : Nat) (t1 : Int32) (t2 : Int32) : Prop := wp_M_goes F t0 t1 t2 M (fun r17 M16 => ((r17 = 0 → Q 0 M16) ∧ (¬ r17 = 0 → wp_M_load F o0 M16 (fun M18 => wp_M_work F o0 x1 M18 (fun r20 M19 => wp_M_firstOf F o0 r20 M19 (fun r22 M21 => wp_M_placeOf F o0 x2 r22 M21 (fun r24 M23 => wp_M_firstOrder F o0 (om_up M23 o0 22 (-1)) (fun M25 => wp_M_change_93 F o0 x1 x2 x3 Q r24 M25 r24 1))))))))
def wp_M_change_48 (F : Nat) (o0 : Nat) (x1 : Int32) (x2 : Int32) (x3 : Int32) (Q : Int32 → om_M → Prop)   (M : om_M)  (t0 : Nat) (t1 : Int32) : Prop := wp_M_change_49 F o0 x1 x2 x3 Q M t0 t1 0
def wp_M_change_21 (F : Nat) (o0 : Nat) (x1 : Int32) (x2 : Int32) (x3 : Int32) (Q : Int32 → om_M → Prop)   (M : om_M)  (t0 : Nat) (t1 : Int32) : Prop := wp_M_isType F o0 x2 M (fun r27 M26 => ((r27 = 0 → wp_M_change_48 F o0 x1 x2 x3 Q M26 t0 t1) ∧ (¬ r27 = 0 → ((x3 < 1 → wp_M_change_48 F o0 x1 x2 x3 Q M26 t0 t1) ∧ (¬ x3 < 1 → vp_in x2 20 ∧ (((M26.1 (o0 + 2) x2.toNatClampNeg) < x3 → wp_M_change_48 F o0 x1 x2 x3 Q M26 t0 t1) ∧ (¬ (M26.1 (o0 + 2) x2.toNatClampNeg) < x3 → wp_M_change_49 F o0 x1 x2 x3 Q M26 t0 t1 1)))))))
def wp_M_change_20 (F : Nat) (o0 : Nat) (x1 : Int32) (x2 : Int32) (x3 : Int32) (Q : Int32 → om_M → Prop)   (M : om_M)  (t0 : Nat) : Prop := wp_M_change_21 F o0 x1 x2 x3 Q M t0 0
def wp_M_change (F : Nat) (o0 : Nat) (x1 : Int32) (x2 : Int32) (x3 : Int32) (M : om_M) (Q : Int32 → om_M → Prop) : Prop := wp_M_isRule F x1 M (fun r30 M29 => ((r30 = 0 → wp_M_change_20 F o0 x1 x2 x3 Q M29 o0) ∧ (¬ r30 = 0 → wp_M_isType F o0 x2 M29 (fun r32 M31 => ((r32 = 0 → wp_M_change_20 F o0 x1 x2 x3 Q M31 o0) ∧ (¬ r32 = 0 → wp_M_change_21 F o0 x1 x2 x3 Q M31 o0 1))))))
def wp_M_changed (F : Nat) (o0 : Nat) (M : om_M) (Q : Int32 → om_M → Prop) : Prop := Q ((om_up M o0 0 0).1 o0 22) (om_up M o0 0 0)
def wp_M_over2_56 (F : Nat) (o0 : Nat) (x1 : Int32) (x2 : Int32) (Q : Int32 → om_M → Prop)  (K5 : om_M × Int32 × Int32 → Prop) (M : om_M) (x4 : Int32) (t0 : Int32) : Prop := K5 (M, t0, x4 + 1)
def wp_M_over2_55 (F : Nat) (o0 : Nat) (x1 : Int32) (x2 : Int32) (Q : Int32 → om_M → Prop)  (K5 : om_M × Int32 × Int32 → Prop) (M : om_M) (x4 : Int32)  : Prop := wp_M_over2_56 F o0 x1 x2 Q K5 M x4 0
def wp_M_over2_51 (F : Nat) (o0 : Nat) (x1 : Int32) (x2 : Int32) (Q : Int32 → om_M → Prop)  (K5 : om_M × Int32 × Int32 → Prop) (M : om_M) (x4 : Int32)  : Prop := wp_M_over2_56 F o0 x1 x2 Q K5 M x4 1
def wp_M_over2_5b (F : Nat) (o0 : Nat) (x1 : Int32) (x2 : Int32) (Q : Int32 → om_M → Prop)   (K5 : om_M × Int32 × Int32 → Prop) (M : om_M) (x3 : Int32) (x4 : Int32) : Prop := (((M.1 o0 8) ≤ x4 → vp_nar .boolean x3 = x3 ∧ Q x3 M) ∧ (¬ (M.1 o0 8) ≤ x4 → ((x3 = 0 → wp_M_over2_55 F o0 x1 x2 Q K5 M x4) ∧ (¬ x3 = 0 → ((x4 = x1 → wp_M_over2_51 F o0 x1 x2 Q K5 M x4) ∧ (¬ x4 = x1 → ((x2 = 0 → wp_M_beats F o0 x4 x1 M (fun r2 M1 => ((r2 = 0 → wp_M_over2_55 F o0 x1 x2 Q K5 M1 x4) ∧ (¬ r2 = 0 → wp_M_over2_51 F o0 x1 x2 Q K5 M1 x4)))) ∧ (¬ x2 = 0 → wp_M_beats F o0 x1 x4 M (fun r4 M3 => ((r4 = 0 → wp_M_over2_55 F o0 x1 x2 Q K5 M3 x4) ∧ (¬ r4 = 0 → wp_M_over2_51 F o0 x1 x2 Q K5 M3 x4)))))))))))
def wp_M_over2_5 (F : Nat) (o0 : Nat) (x1 : Int32) (x2 : Int32) (Q : Int32 → om_M → Prop)   (M : om_M) (x3 : Int32) (x4 : Int32) : Prop := ow_lp (fun (z : om_M × Int32 × Int32) K => wp_M_over2_5b F o0 x1 x2 Q   K z.1 z.2.1 z.2.2) F (M, x3, x4)
def wp_M_over2 (F : Nat) (o0 : Nat) (x1 : Int32) (x2 : Int32) (M : om_M) (Q : Int32 → om_M → Prop) : Prop := wp_M_over2_5 F o0 x1 x2 Q M 1 0
def wp_M_brokenByPairs_77 (F : Nat) (o0 : Nat) (x1 : Int32) (x2 : Int32) (Q : Int32 → om_M → Prop) (x3 : Int32) (K13 : om_M × Int32 → Prop) (M : om_M) (x4 : Int32) (t0 : Int32) : Prop := ((t0 = 0 → K13 (M, x4 + 1)) ∧ (¬ t0 = 0 → Q x4 M))
def wp_M_brokenByPairs_76 (F : Nat) (o0 : Nat) (x1 : Int32) (x2 : Int32) (Q : Int32 → om_M → Prop) (x3 : Int32) (K13 : om_M × Int32 → Prop) (M : om_M) (x4 : Int32)  : Prop := wp_M_brokenByPairs_77 F o0 x1 x2 Q x3 K13 M x4 0
def wp_M_brokenByPairs_48 (F : Nat) (o0 : Nat) (x1 : Int32) (x2 : Int32) (Q : Int32 → om_M → Prop) (x3 : Int32) (K13 : om_M × Int32 → Prop) (M : om_M) (x4 : Int32)  : Prop := wp_M_brokenByPairs_77 F o0 x1 x2 Q x3 K13 M x4 0
def wp_M_brokenByPairs_13b (F : Nat) (o0 : Nat) (x1 : Int32) (x2 : Int32) (Q : Int32 → om_M → Prop) (x3 : Int32)  (K13 : om_M × Int32 → Prop) (M : om_M) (x4 : Int32) : Prop := (((M.1 o0 1) ≤ x4 → Q (-1) M) ∧ (¬ (M.1 o0 1) ≤ x4 → ((x2 = 0 → wp_M_over2 F o0 x4 1 M (fun r4 M3 => ((r4 = 0 → wp_M_brokenByPairs_48 F o0 x1 x2 Q x3 K13 M3 x4) ∧ (¬ r4 = 0 → ((x3 = ((1 : Int32) <<< (x4 &&& 31)) → wp_M_brokenByPairs_48 F o0 x1 x2 Q x3 K13 M3 x4) ∧ (¬ x3 = ((1 : Int32) <<< (x4 &&& 31)) → wp_M_brokenByPairs_77 F o0 x1 x2 Q x3 K13 M3 x4 1)))))) ∧ (¬ x2 = 0 → wp_M_over2 F o0 x4 0 M (fun r2 M1 => ((r2 = 0 → wp_M_brokenByPairs_76 F o0 x1 x2 Q x3 K13 M1 x4) ∧ (¬ r2 = 0 → ((((x3 >>> (x4 &&& 31)) &&& 1) = 1 → wp_M_brokenByPairs_77 F o0 x1 x2 Q x3 K13 M1 x4 1) ∧ (¬ ((x3 >>> (x4 &&& 31)) &&& 1) = 1 → wp_M_brokenByPairs_76 F o0 x1 x2 Q x3 K13 M1 x4)))))))))
def wp_M_brokenByPairs_13 (F : Nat) (o0 : Nat) (x1 : Int32) (x2 : Int32) (Q : Int32 → om_M → Prop) (x3 : Int32)  (M : om_M) (x4 : Int32) : Prop := ow_lp (fun (z : om_M × Int32) K => wp_M_brokenByPairs_13b F o0 x1 x2 Q x3  K z.1 z.2) F (M, x4)
def wp_M_brokenByPairs (F : Nat) (o0 : Nat) (x1 : Int32) (x2 : Int32) (M : om_M) (Q : Int32 → om_M → Prop) : Prop := wp_M_load F o0 M (fun M5 => wp_M_work F o0 x1 M5 (fun r7 M6 => wp_M_brokenByPairs_13 F o0 x1 x2 Q r7 M6 0))
def wp_M_brokenByType_128 (F : Nat) (o0 : Nat) (x1 : Int32) (x2 : Int32) (Q : Int32 → om_M → Prop) (x3 : Int32) (K17 : om_M × Int32 → Prop) (M : om_M) (x4 : Int32) (t0 : Nat) (t1 : Int32) (t2 : Int32) : Prop := vp_in t1 22 ∧ wp_M_work F o0 x1 (om_up M t0 t1.toNatClampNeg t2) (fun r3 M2 => wp_M_firstOf F o0 r3 M2 (fun r5 M4 => ((r5 = x3 → K17 (M4, x4 + 1)) ∧ (¬ r5 = x3 → Q x4 M4))))
def wp_M_brokenByType_121 (F : Nat) (o0 : Nat) (x1 : Int32) (x2 : Int32) (Q : Int32 → om_M → Prop) (x3 : Int32) (K17 : om_M × Int32 → Prop) (M : om_M) (x4 : Int32) (t0 : Nat) (t1 : Int32) : Prop := vp_in x4 22 ∧ wp_M_brokenByType_128 F o0 x1 x2 Q x3 K17 M x4 t0 t1 (M.1 (o0 + 7) x4.toNatClampNeg)
def wp_M_brokenByType_93 (F : Nat) (o0 : Nat) (x1 : Int32) (x2 : Int32) (Q : Int32 → om_M → Prop) (x3 : Int32) (K17 : om_M × Int32 → Prop) (M : om_M) (x4 : Int32) (x5 : Int32)  : Prop := ((x2 = 3 → ((x5 = 0 → vp_in x4 22 ∧ wp_M_brokenByType_128 F o0 x1 x2 Q x3 K17 M x4 (o0 + 7) x4 ((M.1 (o0 + 7) x4.toNatClampNeg) + 1)) ∧ (¬ x5 = 0 → wp_M_brokenByType_121 F o0 x1 x2 Q x3 K17 M x4 (o0 + 7) x4))) ∧ (¬ x2 = 3 → wp_M_brokenByType_121 F o0 x1 x2 Q x3 K17 M x4 (o0 + 7) x4))
def wp_M_brokenByType_17b (F : Nat) (o0 : Nat) (x1 : Int32) (x2 : Int32) (Q : Int32 → om_M → Prop) (x3 : Int32)  (K17 : om_M × Int32 → Prop) (M : om_M) (x4 : Int32) : Prop := (((M.1 o0 2) ≤ x4 → Q (-1) M) ∧ (¬ (M.1 o0 2) ≤ x4 → wp_M_load F o0 M (fun M8 => wp_M_placeOf F o0 x4 x3 M8 (fun r10 M9 => ((x2 = 2 → ((r10 ≤ 0 → wp_M_brokenByType_93 F o0 x1 x2 Q x3 K17 M9 x4 r10) ∧ (¬ r10 ≤ 0 → vp_in ((((7 : Int32) * x4) + r10) - 1) 154 ∧ vp_in (((7 : Int32) * x4) + r10) 154 ∧ wp_M_brokenByType_93 F o0 x1 x2 Q x3 K17 (om_up (om_up M9 (o0 + 6) (((7 : Int32) * x4) + r10).toNatClampNeg (M9.1 (o0 + 6) ((((7 : Int32) * x4) + r10) - 1).toNatClampNeg)) (o0 + 6) ((((7 : Int32) * x4) + r10) - 1).toNatClampNeg x3) x4 r10))) ∧ (¬ x2 = 2 → wp_M_brokenByType_93 F o0 x1 x2 Q x3 K17 M9 x4 r10))))))
def wp_M_brokenByType_17 (F : Nat) (o0 : Nat) (x1 : Int32) (x2 : Int32) (Q : Int32 → om_M → Prop) (x3 : Int32)  (M : om_M) (x4 : Int32) : Prop := ow_lp (fun (z : om_M × Int32) K => wp_M_brokenByType_17b F o0 x1 x2 Q x3  K z.1 z.2) F (M, x4)
def wp_M_brokenByType (F : Nat) (o0 : Nat) (x1 : Int32) (x2 : Int32) (M : om_M) (Q : Int32 → om_M → Prop) : Prop := wp_M_load F o0 M (fun M13 => wp_M_work F o0 x1 M13 (fun r15 M14 => wp_M_firstOf F o0 r15 M14 (fun r17 M16 => wp_M_brokenByType_17 F o0 x1 x2 Q r17 M16 0)))
def wp_M_brokenByLeaving_83 (F : Nat) (o0 : Nat) (x1 : Int32) (Q : Int32 → om_M → Prop) (x2 : Int32) (x3 : Int32) (K19 : om_M × Int32 → Prop) (M : om_M) (x4 : Int32)  : Prop := K19 (M, x4 + 1)
def wp_M_brokenByLeaving_77 (F : Nat) (o0 : Nat) (x1 : Int32) (Q : Int32 → om_M → Prop) (x2 : Int32) (x3 : Int32) (K19 : om_M × Int32 → Prop) (M : om_M) (x4 : Int32) (t0 : Int32) (t1 : Int32) : Prop := ((t0 = t1 → wp_M_brokenByLeaving_83 F o0 x1 Q x2 x3 K19 M x4) ∧ (¬ t0 = t1 → Q x4 M))
def wp_M_brokenByLeaving_19b (F : Nat) (o0 : Nat) (x1 : Int32) (Q : Int32 → om_M → Prop) (x2 : Int32) (x3 : Int32)  (K19 : om_M × Int32 → Prop) (M : om_M) (x4 : Int32) : Prop := (((M.1 o0 1) ≤ x4 → Q (-1) M) ∧ (¬ (M.1 o0 1) ≤ x4 → (((M.1 o0 1) ≤ 2 → Q (-1) M) ∧ (¬ (M.1 o0 1) ≤ 2 → ((((x2 >>> (x4 &&& 31)) &&& 1) = 0 → wp_M_load F o0 M (fun M1 => wp_M_leaveOut F o0 x4 M1 (fun M2 => wp_M_work F o0 x1 M2 (fun r4 M3 => wp_M_firstOf F o0 r4 M3 (fun r6 M5 => ((x3 ≤ x4 → wp_M_brokenByLeaving_77 F o0 x1 Q x2 x3 K19 M5 x4 r6 x3) ∧ (¬ x3 ≤ x4 → wp_M_brokenByLeaving_77 F o0 x1 Q x2 x3 K19 M5 x4 r6 (x3 - 1)))))))) ∧ (¬ ((x2 >>> (x4 &&& 31)) &&& 1) = 0 → wp_M_brokenByLeaving_83 F o0 x1 Q x2 x3 K19 M x4))))))
def wp_M_brokenByLeaving_19 (F : Nat) (o0 : Nat) (x1 : Int32) (Q : Int32 → om_M → Prop) (x2 : Int32) (x3 : Int32)  (M : om_M) (x4 : Int32) : Prop := ow_lp (fun (z : om_M × Int32) K => wp_M_brokenByLeaving_19b F o0 x1 Q x2 x3  K z.1 z.2) F (M, x4)
def wp_M_brokenByLeaving (F : Nat) (o0 : Nat) (x1 : Int32) (M : om_M) (Q : Int32 → om_M → Prop) : Prop := wp_M_load F o0 M (fun M7 => wp_M_work F o0 x1 M7 (fun r9 M8 => wp_M_firstOf F o0 r9 M8 (fun r11 M10 => wp_M_brokenByLeaving_19 F o0 x1 Q r9 r11 M10 0)))
def wp_M_property_65 (F : Nat) (o0 : Nat) (x1 : Int32) (x2 : Int32) (Q : Int32 → om_M → Prop)   (M : om_M)  (t0 : Nat) (t1 : Int32) : Prop := ((((om_up M t0 23 t1).1 o0 23) = (-1) → Q 1 (om_up M t0 23 t1)) ∧ (¬ ((om_up M t0 23 t1).1 o0 23) = (-1) → Q 0 (om_up M t0 23 t1)))
def wp_M_property_22 (F : Nat) (o0 : Nat) (x1 : Int32) (x2 : Int32) (Q : Int32 → om_M → Prop)   (M : om_M)  (t0 : Nat) (t1 : Int32) : Prop := wp_M_goes F t0 t1 1 M (fun r2 M1 => ((r2 = 0 → Q 0 M1) ∧ (¬ r2 = 0 → ((2 ≤ x2 → ((4 ≤ x2 → wp_M_brokenByLeaving F o0 x1 M1 (fun r4 M3 => wp_M_property_65 F o0 x1 x2 Q M3 o0 r4)) ∧ (¬ 4 ≤ x2 → wp_M_brokenByType F o0 x1 x2 M1 (fun r6 M5 => wp_M_property_65 F o0 x1 x2 Q M5 o0 r6)))) ∧ (¬ 2 ≤ x2 → wp_M_brokenByPairs F o0 x1 x2 M1 (fun r8 M7 => wp_M_property_65 F o0 x1 x2 Q M7 o0 r8))))))
def wp_M_property_21 (F : Nat) (o0 : Nat) (x1 : Int32) (x2 : Int32) (Q : Int32 → om_M → Prop)   (M : om_M)  (t0 : Nat) : Prop := wp_M_property_22 F o0 x1 x2 Q M t0 0
def wp_M_property (F : Nat) (o0 : Nat) (x1 : Int32) (x2 : Int32) (M : om_M) (Q : Int32 → om_M → Prop) : Prop := wp_M_isRule F x1 M (fun r10 M9 => ((r10 = 0 → wp_M_property_21 F o0 x1 x2 Q M9 o0) ∧ (¬ r10 = 0 → wp_M_within F x2 0 4 M9 (fun r12 M11 => ((r12 = 0 → wp_M_property_21 F o0 x1 x2 Q M11 o0) ∧ (¬ r12 = 0 → wp_M_property_22 F o0 x1 x2 Q M11 o0 1))))))
def wp_M_witness (F : Nat) (o0 : Nat) (M : om_M) (Q : Int32 → om_M → Prop) : Prop := Q ((om_up M o0 0 0).1 o0 23) (om_up M o0 0 0)
def wp_M_circle_131 (F : Nat) (o0 : Nat) (x1 : Int32) (Q : Int32 → om_M → Prop)  (K26 : om_M × Int32 → Prop) (M : om_M) (x2 : Int32)  : Prop := K26 (M, x2 + 1)
def wp_M_circle_26b (F : Nat) (o0 : Nat) (x1 : Int32) (Q : Int32 → om_M → Prop)   (K26 : om_M × Int32 → Prop) (M : om_M) (x2 : Int32) : Prop := ((343 ≤ x2 → Q (-1) M) ∧ (¬ 343 ≤ x2 → (((M.1 o0 1) ≤ (x2 / 49) → wp_M_circle_131 F o0 x1 Q K26 M x2) ∧ (¬ (M.1 o0 1) ≤ (x2 / 49) → (((M.1 o0 1) ≤ ((x2 / 7) - (x2 / 7) / 7 * 7) → wp_M_circle_131 F o0 x1 Q K26 M x2) ∧ (¬ (M.1 o0 1) ≤ ((x2 / 7) - (x2 / 7) / 7 * 7) → (((M.1 o0 1) ≤ (x2 - x2 / 7 * 7) → wp_M_circle_131 F o0 x1 Q K26 M x2) ∧ (¬ (M.1 o0 1) ≤ (x2 - x2 / 7 * 7) → wp_M_beats F o0 (x2 / 49) ((x2 / 7) - (x2 / 7) / 7 * 7) M (fun r2 M1 => ((r2 = 0 → wp_M_circle_131 F o0 x1 Q K26 M1 x2) ∧ (¬ r2 = 0 → wp_M_beats F o0 ((x2 / 7) - (x2 / 7) / 7 * 7) (x2 - x2 / 7 * 7) M1 (fun r4 M3 => ((r4 = 0 → wp_M_circle_131 F o0 x1 Q K26 M3 x2) ∧ (¬ r4 = 0 → wp_M_beats F o0 (x2 - x2 / 7 * 7) (x2 / 49) M3 (fun r6 M5 => ((r6 = 0 → wp_M_circle_131 F o0 x1 Q K26 M5 x2) ∧ (¬ r6 = 0 → ((x1 = 0 → Q (x2 / 49) M5) ∧ (¬ x1 = 0 → ((x1 = 1 → Q ((x2 / 7) - (x2 / 7) / 7 * 7) M5) ∧ (¬ x1 = 1 → Q (x2 - x2 / 7 * 7) M5)))))))))))))))))))))
def wp_M_circle_26 (F : Nat) (o0 : Nat) (x1 : Int32) (Q : Int32 → om_M → Prop)   (M : om_M) (x2 : Int32) : Prop := ow_lp (fun (z : om_M × Int32) K => wp_M_circle_26b F o0 x1 Q   K z.1 z.2) F (M, x2)
def wp_M_circle (F : Nat) (o0 : Nat) (x1 : Int32) (M : om_M) (Q : Int32 → om_M → Prop) : Prop := wp_M_within F x1 0 2 M (fun r8 M7 => wp_M_goes F o0 r8 1 M7 (fun r10 M9 => ((r10 = 0 → Q 0 M9) ∧ (¬ r10 = 0 → wp_M_load F o0 M9 (fun M11 => wp_M_tally F o0 M11 (fun M12 => wp_M_circle_26 F o0 x1 Q M12 0))))))
abbrev rm_M_disagreement : Room := { frames := 3, cells := 0, slots := 0, locals := 69 }
theorem hd_M_disagreement : yn_M_disagreement.cls ≠ "java/lang/invoke/MethodHandle" ∧ yn_M_disagreement.cls ≠ "java/lang/invoke/VarHandle" ∧ (parseMethodDescriptor yn_M_disagreement.desc).map (fun d => d.parameters.length) = some 0 := by decide +kernel
set_option maxHeartbeats 4000000 in
set_option maxRecDepth 100000 in
theorem ct_M_disagreement (l : Launch) (G : List (Nat × Nat)) (hG : ow_lay G) (D : va_G) (cA : Nat → ClassId) (ad : Nat → Nat) (F : Nat) (o0 : Nat) (k0 : ow_kd G o0 = (3, 9)) (M : om_M) (Q : Int64 → om_M → Prop) (h : wp_M_disagreement F o0 M Q) : Met l yn_M_disagreement (ow_ws yn_M_disagreement cb_M_disagreement 1 (some .long)) rm_M_disagreement (ow_Pc G D cA ad M [.ref (ad o0)]) (ow_Ql G D cA ad Q) 0 0 (ow_A G ad) := by
  refine Met.ofW (cc := cb_M_disagreement) (maxL := 1) (ret := (some .long)) (by decide) rfl ?_
  intro p e s m args below meth c s₁ B hml hv
  obtain ⟨rfl, hB⟩ := hv
  have hx := B.exec
  have hb := B.bytes
  have hr := B.returns
  have hlocks := B.notSynchronized
  have hts : ∀ w ∈ lw_g, w.before ([.ref (ad o0)] : List Value).toArray s = true := fun w h => atoms_spec (ws := ow_ws yn_M_disagreement cb_M_disagreement 1 (some .long)) B.pre w (List.mem_cons_of_mem _ h)
  have hown : s.vm.findClass "BallotDeskModel" = some m.cls := findClass_of_methodNamed B.named
  clear B
  have hl := lv_entry ([.ref (ad o0)]) (n := 1) (Nat.le_of_ble_eq_true rfl)
  rw [lg_entry_eq]
  generalize (lg_sl ([.ref (ad o0)]) ++ List.replicate (1 - (lg_sl ([.ref (ad o0)])).length) Slot.unset).toArray = ls at hl ⊢
  have hl : lv_has ls 1 [(0, .ref (ad o0))] := hl
  show W p l e rm_M_disagreement s m _ below meth c s.heap [] 0 0 _ _
  refine lv_aload_n hx hb dc_M_disagreement_0 rfl (lv_at hl 0 rfl) ?_
  refine lv_iconst (v := 0) hx hb dc_M_disagreement_1 rfl ?_
  refine ow_put hx hb hts iw_M yf_M of_M nf_M hown hB k0 rfl 0 (by decide) mw_797 rfl (by decide +kernel) (Nat.le_of_ble_eq_true rfl) rfl dc_M_disagreement_2 (fun H locs hB => ?_)
  refine lv_aload_n hx hb dc_M_disagreement_5 rfl (lv_at hl 0 rfl) ?_
  refine ow_calll (va_runV (As := []) (rest := []) ⟨hx, hb, hml, hown, hts⟩ (ct_M_findAgreed l G hG D cA ad F _ k0 _ _ h) ⟨ow_cb 0 hts mw_1069 mw_12 mw_1066 rfl rfl hd_M_findAgreed ⟨Nat.le_of_ble_eq_true rfl, Nat.le_of_ble_eq_true rfl⟩, hts _ mw_1068, hts _ ms_48⟩ (ow_preV hB k0 rfl) rfl rfl hl.1 rfl (lv_room (Nat.le_of_ble_eq_true rfl)) dc_M_disagreement_6 ⟨Nat.zero_le _, Nat.zero_le _⟩) hB (fun r2 M1 H locs h hB => ?_)
  exact ow_lret hx hb hr hlocks hB h dc_M_disagreement_9
abbrev rm_M_agreed : Room := { frames := 3, cells := 0, slots := 0, locals := 69 }
theorem hd_M_agreed : yn_M_agreed.cls ≠ "java/lang/invoke/MethodHandle" ∧ yn_M_agreed.cls ≠ "java/lang/invoke/VarHandle" ∧ (parseMethodDescriptor yn_M_agreed.desc).map (fun d => d.parameters.length) = some 0 := by decide +kernel
set_option maxHeartbeats 4000000 in
set_option maxRecDepth 100000 in
theorem ct_M_agreed (l : Launch) (G : List (Nat × Nat)) (hG : ow_lay G) (D : va_G) (cA : Nat → ClassId) (ad : Nat → Nat) (F : Nat) (o0 : Nat) (k0 : ow_kd G o0 = (3, 9)) (M : om_M) (Q : Int32 → om_M → Prop) (h : wp_M_agreed F o0 M Q) : Met l yn_M_agreed (ow_ws yn_M_agreed cb_M_agreed 3 (some .int)) rm_M_agreed (ow_Pc G D cA ad M [.ref (ad o0)]) (ow_Qi G D cA ad Q) 0 0 (ow_A G ad) := by
  refine Met.ofW (cc := cb_M_agreed) (maxL := 3) (ret := (some .int)) (by decide) rfl ?_
  intro p e s m args below meth c s₁ B hml hv
  obtain ⟨rfl, hB⟩ := hv
  have hx := B.exec
  have hb := B.bytes
  have hr := B.returns
  have hlocks := B.notSynchronized
  have hts : ∀ w ∈ lw_g, w.before ([.ref (ad o0)] : List Value).toArray s = true := fun w h => atoms_spec (ws := ow_ws yn_M_agreed cb_M_agreed 3 (some .int)) B.pre w (List.mem_cons_of_mem _ h)
  have hown : s.vm.findClass "BallotDeskModel" = some m.cls := findClass_of_methodNamed B.named
  clear B
  have hl := lv_entry ([.ref (ad o0)]) (n := 3) (Nat.le_of_ble_eq_true rfl)
  rw [lg_entry_eq]
  generalize (lg_sl ([.ref (ad o0)]) ++ List.replicate (3 - (lg_sl ([.ref (ad o0)])).length) Slot.unset).toArray = ls at hl ⊢
  have hl : lv_has ls 3 [(0, .ref (ad o0))] := hl
  show W p l e rm_M_agreed s m _ below meth c s.heap [] 0 0 _ _
  refine lv_aload_n hx hb dc_M_agreed_0 rfl (lv_at hl 0 rfl) ?_
  refine lv_iconst (v := 0) hx hb dc_M_agreed_1 rfl ?_
  refine ow_put hx hb hts iw_M yf_M of_M nf_M hown hB k0 rfl 0 (by decide) mw_797 rfl (by decide +kernel) (Nat.le_of_ble_eq_true rfl) rfl dc_M_agreed_2 (fun H locs hB => ?_)
  refine lv_aload_n hx hb dc_M_agreed_5 rfl (lv_at hl 0 rfl) ?_
  refine ow_calll (va_runV (As := []) (rest := []) ⟨hx, hb, hml, hown, hts⟩ (ct_M_findAgreed l G hG D cA ad F _ k0 _ _ h) ⟨ow_cb 0 hts mw_1069 mw_12 mw_1066 rfl rfl hd_M_findAgreed ⟨Nat.le_of_ble_eq_true rfl, Nat.le_of_ble_eq_true rfl⟩, hts _ mw_1068, hts _ ms_48⟩ (ow_preV hB k0 rfl) rfl rfl hl.1 rfl (lv_room (Nat.le_of_ble_eq_true rfl)) dc_M_agreed_6 ⟨Nat.zero_le _, Nat.zero_le _⟩) hB (fun r2 M1 H locs h hB => ?_)
  refine lv_lstore_n hx hb dc_M_agreed_9 rfl hl (by decide) rfl (fun ls hl => ?_)
  refine lv_aload_n hx hb dc_M_agreed_10 rfl (lv_at hl 1 rfl) ?_
  refine lv_aload_n hx hb dc_M_agreed_11 rfl (lv_at hl 1 rfl) ?_
  refine ow_get hx hb hts iw_M hown hB k0 rfl 21 (by decide) mw_818 rfl dc_M_agreed_12 ?_
  refine lv_iconst (v := 0) hx hb dc_M_agreed_15 rfl ?_
  refine ow_calli (va_runV (As := [.ref (ad (o0 + 17)), .int 0]) (rest := []) ⟨hx, hb, hml, hown, hts⟩ (ct_M_packed l G hG D cA ad F _ k0 _ _ (ly_M_best hG k0) _ _ _ h) ⟨ow_cb 2 hts mw_918 mw_12 mw_915 rfl rfl hd_M_packed ⟨Nat.le_of_ble_eq_true rfl, Nat.le_of_ble_eq_true rfl⟩, hts _ mw_917, hts _ ms_22⟩ (ow_preV hB k0 rfl) rfl rfl hl.1 rfl (lv_room (Nat.le_of_ble_eq_true rfl)) dc_M_agreed_16 ⟨Nat.zero_le _, Nat.zero_le _⟩) hB (fun r4 M3 H locs h hB => ?_)
  exact ow_iret hx hb hr hlocks hB h dc_M_agreed_19
abbrev rm_M_change : Room := { frames := 4, cells := 0, slots := 0, locals := 99 }
theorem hd_M_change : yn_M_change.cls ≠ "java/lang/invoke/MethodHandle" ∧ yn_M_change.cls ≠ "java/lang/invoke/VarHandle" ∧ (parseMethodDescriptor yn_M_change.desc).map (fun d => d.parameters.length) = some 3 := by decide +kernel
set_option maxHeartbeats 4000000 in
set_option maxRecDepth 100000 in
theorem ct_M_change (l : Launch) (G : List (Nat × Nat)) (hG : ow_lay G) (D : va_G) (cA : Nat → ClassId) (ad : Nat → Nat) (F : Nat) (o0 : Nat) (k0 : ow_kd G o0 = (3, 9)) (x1 : Int32) (x2 : Int32) (x3 : Int32) (M : om_M) (Q : Int32 → om_M → Prop) (h : wp_M_change F o0 x1 x2 x3 M Q) : Met l yn_M_change (ow_ws yn_M_change cb_M_change 8 (some .int)) rm_M_change (ow_Pc G D cA ad M [.ref (ad o0), .int x1, .int x2, .int x3]) (ow_Qi G D cA ad Q) 0 0 (ow_A G ad) := by
  refine Met.ofW (cc := cb_M_change) (maxL := 8) (ret := (some .int)) (by decide) rfl ?_
  intro p e s m args below meth c s₁ B hml hv
  obtain ⟨rfl, hB⟩ := hv
  have hx := B.exec
  have hb := B.bytes
  have hr := B.returns
  have hlocks := B.notSynchronized
  have hts : ∀ w ∈ lw_g, w.before ([.ref (ad o0), .int x1, .int x2, .int x3] : List Value).toArray s = true := fun w h => atoms_spec (ws := ow_ws yn_M_change cb_M_change 8 (some .int)) B.pre w (List.mem_cons_of_mem _ h)
  have hown : s.vm.findClass "BallotDeskModel" = some m.cls := findClass_of_methodNamed B.named
  clear B
  have L236 : ∀   (M : om_M) (x4 : Int32) (x5 : Int32)  (H : Heap) (locs : List Loc) (ls : Array Slot), wp_M_change_236 F o0 x1 x2 x3 Q   M x4 x5  → ow_B G D cA ad (ow_A G ad) M s s.heap H locs → lv_has ls 8 [(4, .int x4), (5, .int x5)] → W p l e rm_M_change s m ([.ref (ad o0), .int x1, .int x2, .int x3] : List Value).toArray below meth c H locs 0 0 (MQ below (ow_Qi G D cA ad Q) ([.ref (ad o0), .int x1, .int x2, .int x3] : List Value).toArray s 0 0 (ow_A G ad)) (F0 m 236 ls []) := by
    intro   M x4 x5 H locs ls h hB hl
    refine lv_iload hx hb dc_M_change_236 (lv_at hl 1 rfl) ?_
    refine lv_iload hx hb dc_M_change_238 (lv_at hl 0 rfl) ?_
    obtain ⟨h1, h2⟩ := h
    refine lv_icmp_ge hx hb dc_M_change_240 rfl (fun hc => ?_) (fun hc => ?_)
    · have h := h1 hc
      refine lv_iconst (v := 0) hx hb dc_M_change_250 rfl ?_
      exact ow_iret hx hb hr hlocks hB h dc_M_change_251
    · have h := h2 hc
      refine lv_iload hx hb dc_M_change_243 (lv_at hl 1 rfl) ?_
      refine lv_iconst (v := 1) hx hb dc_M_change_245 rfl ?_
      refine lv_iadd hx hb dc_M_change_246 ?_
      refine lv_goto hx hb dc_M_change_247 rfl ?_
      exact ow_iret hx hb hr hlocks hB h dc_M_change_251
  have L231 : ∀ (x4 : Int32) (K93 : om_M × Int32 × Int32 → Prop) (hK93 : ∀ (M : om_M) (x5 : Int32) (x6 : Int32) (H : Heap) (locs : List Loc) (ls : Array Slot), K93 (M, x5, x6) → ow_B G D cA ad (ow_A G ad) M s s.heap H locs → lv_has ls 8 [(0, .ref (ad o0)), (1, .int x1), (2, .int x2), (3, .int x3), (4, .int x4), (5, .int x5), (6, .int x6)] → W p l e rm_M_change s m ([.ref (ad o0), .int x1, .int x2, .int x3] : List Value).toArray below meth c H locs 0 0 (MQ below (ow_Qi G D cA ad Q) ([.ref (ad o0), .int x1, .int x2, .int x3] : List Value).toArray s 0 0 (ow_A G ad)) (F0 m 93 ls [])) (M : om_M) (x5 : Int32) (t0 : Int32) (H : Heap) (locs : List Loc) (ls : Array Slot), wp_M_change_231 F o0 x1 x2 x3 Q x4 K93 M x5 t0 → ow_B G D cA ad (ow_A G ad) M s s.heap H locs → lv_has ls 8 [(0, .ref (ad o0)), (1, .int x1), (2, .int x2), (3, .int x3), (4, .int x4), (5, .int x5)] → W p l e rm_M_change s m ([.ref (ad o0), .int x1, .int x2, .int x3] : List Value).toArray below meth c H locs 0 0 (MQ below (ow_Qi G D cA ad Q) ([.ref (ad o0), .int x1, .int x2, .int x3] : List Value).toArray s 0 0 (ow_A G ad)) (F0 m 231 ls [.int t0]) := by
    intro x4 K93 hK93 M x5 t0 H locs ls h hB hl
    refine lv_istore hx hb dc_M_change_231 hl (by decide) rfl (fun ls hl => ?_)
    refine lv_goto hx hb dc_M_change_233 rfl ?_
    exact hK93 _ _ _ _ _ _ h hB (lv_sub hl [1, 2, 3, 4, 5, 6, 0] rfl)
  have L230 : ∀ (x4 : Int32) (K93 : om_M × Int32 × Int32 → Prop) (hK93 : ∀ (M : om_M) (x5 : Int32) (x6 : Int32) (H : Heap) (locs : List Loc) (ls : Array Slot), K93 (M, x5, x6) → ow_B G D cA ad (ow_A G ad) M s s.heap H locs → lv_has ls 8 [(0, .ref (ad o0)), (1, .int x1), (2, .int x2), (3, .int x3), (4, .int x4), (5, .int x5), (6, .int x6)] → W p l e rm_M_change s m ([.ref (ad o0), .int x1, .int x2, .int x3] : List Value).toArray below meth c H locs 0 0 (MQ below (ow_Qi G D cA ad Q) ([.ref (ad o0), .int x1, .int x2, .int x3] : List Value).toArray s 0 0 (ow_A G ad)) (F0 m 93 ls [])) (M : om_M) (x5 : Int32)  (H : Heap) (locs : List Loc) (ls : Array Slot), wp_M_change_230 F o0 x1 x2 x3 Q x4 K93 M x5  → ow_B G D cA ad (ow_A G ad) M s s.heap H locs → lv_has ls 8 [(0, .ref (ad o0)), (1, .int x1), (2, .int x2), (3, .int x3), (4, .int x4), (5, .int x5)] → W p l e rm_M_change s m ([.ref (ad o0), .int x1, .int x2, .int x3] : List Value).toArray below meth c H locs 0 0 (MQ below (ow_Qi G D cA ad Q) ([.ref (ad o0), .int x1, .int x2, .int x3] : List Value).toArray s 0 0 (ow_A G ad)) (F0 m 230 ls []) := by
    intro x4 K93 hK93 M x5 H locs ls h hB hl
    refine lv_iconst (v := 0) hx hb dc_M_change_230 rfl ?_
    exact L231 _ K93 hK93 _ _ _ _ _ _ h hB (lv_sub hl [0, 1, 2, 3, 4, 5] rfl)
  have L214 : ∀ (x4 : Int32) (K93 : om_M × Int32 × Int32 → Prop) (hK93 : ∀ (M : om_M) (x5 : Int32) (x6 : Int32) (H : Heap) (locs : List Loc) (ls : Array Slot), K93 (M, x5, x6) → ow_B G D cA ad (ow_A G ad) M s s.heap H locs → lv_has ls 8 [(0, .ref (ad o0)), (1, .int x1), (2, .int x2), (3, .int x3), (4, .int x4), (5, .int x5), (6, .int x6)] → W p l e rm_M_change s m ([.ref (ad o0), .int x1, .int x2, .int x3] : List Value).toArray below meth c H locs 0 0 (MQ below (ow_Qi G D cA ad Q) ([.ref (ad o0), .int x1, .int x2, .int x3] : List Value).toArray s 0 0 (ow_A G ad)) (F0 m 93 ls [])) (M : om_M) (x5 : Int32)  (H : Heap) (locs : List Loc) (ls : Array Slot), wp_M_change_214 F o0 x1 x2 x3 Q x4 K93 M x5  → ow_B G D cA ad (ow_A G ad) M s s.heap H locs → lv_has ls 8 [(0, .ref (ad o0)), (1, .int x1), (2, .int x2), (3, .int x3), (4, .int x4), (5, .int x5)] → W p l e rm_M_change s m ([.ref (ad o0), .int x1, .int x2, .int x3] : List Value).toArray below meth c H locs 0 0 (MQ below (ow_Qi G D cA ad Q) ([.ref (ad o0), .int x1, .int x2, .int x3] : List Value).toArray s 0 0 (ow_A G ad)) (F0 m 214 ls []) := by
    intro x4 K93 hK93 M x5 H locs ls h hB hl
    refine lv_iload hx hb dc_M_change_214 (lv_at hl 5 rfl) ?_
    obtain ⟨h1, h2⟩ := h
    refine lv_if_le hx hb dc_M_change_216 rfl (fun hc => ?_) (fun hc => ?_)
    · have h := h1 hc
      exact L230 _ K93 hK93 _ _ _ _ _ h hB (lv_sub hl [0, 1, 2, 3, 4, 5] rfl)
    · have h := h2 hc
      refine lv_aload_n hx hb dc_M_change_219 rfl (lv_at hl 0 rfl) ?_
      refine ow_calli (va_runV (As := []) (rest := []) ⟨hx, hb, hml, hown, hts⟩ (ct_M_nextOrder l G hG D cA ad F _ k0 _ _ h) ⟨ow_cb 0 hts mw_1086 mw_12 mw_1083 rfl rfl hd_M_nextOrder ⟨Nat.le_of_ble_eq_true rfl, Nat.le_of_ble_eq_true rfl⟩, hts _ mw_1085, hts _ ms_52⟩ (ow_preV hB k0 rfl) rfl rfl hl.1 rfl (lv_room (Nat.le_of_ble_eq_true rfl)) dc_M_change_220 ⟨Nat.zero_le _, Nat.zero_le _⟩) hB (fun r2 M1 H locs h hB => ?_)
      obtain ⟨h1, h2⟩ := h
      refine lv_if_eq hx hb dc_M_change_223 rfl (fun hc => ?_) (fun hc => ?_)
      · have h := h1 hc
        exact L230 _ K93 hK93 _ _ _ _ _ h hB (lv_sub hl [0, 1, 2, 3, 4, 5] rfl)
      · have h := h2 hc
        refine lv_iconst (v := 1) hx hb dc_M_change_226 rfl ?_
        refine lv_goto hx hb dc_M_change_227 rfl ?_
        exact L231 _ K93 hK93 _ _ _ _ _ _ h hB (lv_sub hl [0, 1, 2, 3, 4, 5] rfl)
  have L164 : ∀ (x4 : Int32) (K93 : om_M × Int32 × Int32 → Prop) (hK93 : ∀ (M : om_M) (x5 : Int32) (x6 : Int32) (H : Heap) (locs : List Loc) (ls : Array Slot), K93 (M, x5, x6) → ow_B G D cA ad (ow_A G ad) M s s.heap H locs → lv_has ls 8 [(0, .ref (ad o0)), (1, .int x1), (2, .int x2), (3, .int x3), (4, .int x4), (5, .int x5), (6, .int x6)] → W p l e rm_M_change s m ([.ref (ad o0), .int x1, .int x2, .int x3] : List Value).toArray below meth c H locs 0 0 (MQ below (ow_Qi G D cA ad Q) ([.ref (ad o0), .int x1, .int x2, .int x3] : List Value).toArray s 0 0 (ow_A G ad)) (F0 m 93 ls [])) (M : om_M) (x5 : Int32)  (H : Heap) (locs : List Loc) (ls : Array Slot), wp_M_change_164 F o0 x1 x2 x3 Q x4 K93 M x5  → ow_B G D cA ad (ow_A G ad) M s s.heap H locs → lv_has ls 8 [(0, .ref (ad o0)), (1, .int x1), (2, .int x2), (3, .int x3), (4, .int x4), (5, .int x5)] → W p l e rm_M_change s m ([.ref (ad o0), .int x1, .int x2, .int x3] : List Value).toArray below meth c H locs 0 0 (MQ below (ow_Qi G D cA ad Q) ([.ref (ad o0), .int x1, .int x2, .int x3] : List Value).toArray s 0 0 (ow_A G ad)) (F0 m 164 ls []) := by
    intro x4 K93 hK93 M x5 H locs ls h hB hl
    refine lv_aload_n hx hb dc_M_change_164 rfl (lv_at hl 0 rfl) ?_
    refine lv_dup hx hb dc_M_change_165 rfl ?_
    refine ow_get hx hb hts iw_M hown hB k0 rfl 9 (by decide) mw_806 rfl dc_M_change_166 ?_
    refine lv_iconst (v := 1) hx hb dc_M_change_169 rfl ?_
    refine lv_iadd hx hb dc_M_change_170 ?_
    refine ow_put hx hb hts iw_M yf_M of_M nf_M hown hB k0 rfl 9 (by decide) mw_806 rfl (by decide +kernel) (Nat.le_of_ble_eq_true rfl) rfl dc_M_change_171 (fun H locs hB => ?_)
    refine lv_aload_n hx hb dc_M_change_174 rfl (lv_at hl 0 rfl) ?_
    refine lv_iload_n hx hb dc_M_change_175 rfl (lv_at hl 2 rfl) ?_
    refine lv_aload_n hx hb dc_M_change_176 rfl (lv_at hl 0 rfl) ?_
    refine lv_aload_n hx hb dc_M_change_177 rfl (lv_at hl 0 rfl) ?_
    refine lv_iload_n hx hb dc_M_change_178 rfl (lv_at hl 1 rfl) ?_
    refine ow_calli (va_runV (As := [.int x1]) (rest := [.ref (ad o0), .int x2, .ref (ad o0)]) ⟨hx, hb, hml, hown, hts⟩ (ct_M_work l G hG D cA ad F _ k0 _ _ _ h) ⟨ow_cb 1 hts mw_941 mw_12 mw_938 rfl rfl hd_M_work ⟨Nat.le_of_ble_eq_true rfl, Nat.le_of_ble_eq_true rfl⟩, hts _ mw_940, hts _ ms_24⟩ (ow_preV hB k0 rfl) rfl rfl hl.1 rfl (lv_room (Nat.le_of_ble_eq_true rfl)) dc_M_change_179 ⟨Nat.zero_le _, Nat.zero_le _⟩) hB (fun r4 M3 H locs h hB => ?_)
    refine ow_calli (va_runV (As := [.int r4]) (rest := [.int x2, .ref (ad o0)]) ⟨hx, hb, hml, hown, hts⟩ (ct_M_firstOf l G hG D cA ad F _ k0 _ _ _ h) ⟨ow_cb 1 hts mw_1037 mw_12 mw_1034 rfl rfl hd_M_firstOf ⟨Nat.le_of_ble_eq_true rfl, Nat.le_of_ble_eq_true rfl⟩, hts _ mw_1036, hts _ ms_46⟩ (ow_preV hB k0 rfl) rfl rfl hl.1 rfl (lv_room (Nat.le_of_ble_eq_true rfl)) dc_M_change_182 ⟨Nat.zero_le _, Nat.zero_le _⟩) hB (fun r6 M5 H locs h hB => ?_)
    refine ow_calli (va_runV (As := [.int x2, .int r6]) (rest := []) ⟨hx, hb, hml, hown, hts⟩ (ct_M_placeOf l G hG D cA ad F _ k0 _ _ _ _ h) ⟨ow_cb 2 hts mw_965 mw_12 mw_962 rfl rfl hd_M_placeOf ⟨Nat.le_of_ble_eq_true rfl, Nat.le_of_ble_eq_true rfl⟩, hts _ mw_964, hts _ ms_30⟩ (ow_preV hB k0 rfl) rfl rfl hl.1 rfl (lv_room (Nat.le_of_ble_eq_true rfl)) dc_M_change_185 ⟨Nat.zero_le _, Nat.zero_le _⟩) hB (fun r8 M7 H locs h hB => ?_)
    refine lv_istore hx hb dc_M_change_188 hl (by decide) rfl (fun ls hl => ?_)
    refine lv_iload hx hb dc_M_change_190 (lv_at hl 0 rfl) ?_
    refine lv_iload hx hb dc_M_change_192 (lv_at hl 6 rfl) ?_
    obtain ⟨h1, h2⟩ := h
    refine lv_icmp_ge hx hb dc_M_change_194 rfl (fun hc => ?_) (fun hc => ?_)
    · have h := h1 hc
      exact L214 _ K93 hK93 _ _ _ _ _ h hB (lv_sub hl [1, 2, 3, 4, 5, 6] rfl)
    · have h := h2 hc
      refine lv_iload hx hb dc_M_change_197 (lv_at hl 0 rfl) ?_
      refine lv_istore hx hb dc_M_change_199 hl (by decide) rfl (fun ls hl => ?_)
      refine lv_aload_n hx hb dc_M_change_201 rfl (lv_at hl 2 rfl) ?_
      refine lv_aload_n hx hb dc_M_change_202 rfl (lv_at hl 2 rfl) ?_
      refine lv_aload_n hx hb dc_M_change_203 rfl (lv_at hl 2 rfl) ?_
      refine ow_get hx hb hts iw_M hown hB k0 rfl 20 (by decide) mw_817 rfl dc_M_change_204 ?_
      refine lv_iconst (v := 0) hx hb dc_M_change_207 rfl ?_
      refine ow_calli (va_runV (As := [.ref (ad (o0 + 16)), .int 0]) (rest := [.ref (ad o0)]) ⟨hx, hb, hml, hown, hts⟩ (ct_M_packed l G hG D cA ad F _ k0 _ _ (ly_M_trial hG k0) _ _ _ h) ⟨ow_cb 2 hts mw_918 mw_12 mw_915 rfl rfl hd_M_packed ⟨Nat.le_of_ble_eq_true rfl, Nat.le_of_ble_eq_true rfl⟩, hts _ mw_917, hts _ ms_22⟩ (ow_preV hB k0 rfl) rfl rfl hl.1 rfl (lv_room (Nat.le_of_ble_eq_true rfl)) dc_M_change_208 ⟨Nat.zero_le _, Nat.zero_le _⟩) hB (fun r10 M9 H locs h hB => ?_)
      refine ow_put hx hb hts iw_M yf_M of_M nf_M hown hB k0 rfl 22 (by decide) mw_819 rfl (by decide +kernel) (Nat.le_of_ble_eq_true rfl) rfl dc_M_change_211 (fun H locs hB => ?_)
      exact L214 _ K93 hK93 _ _ _ _ _ h hB (lv_sub hl [2, 3, 4, 5, 6, 0] rfl)
  have B129 : ∀ (x4 : Int32) (x5 : Int32) (K93 : om_M × Int32 × Int32 → Prop) (hK93 : ∀ (M : om_M) (x5 : Int32) (x6 : Int32) (H : Heap) (locs : List Loc) (ls : Array Slot), K93 (M, x5, x6) → ow_B G D cA ad (ow_A G ad) M s s.heap H locs → lv_has ls 8 [(0, .ref (ad o0)), (1, .int x1), (2, .int x2), (3, .int x3), (4, .int x4), (5, .int x5), (6, .int x6)] → W p l e rm_M_change s m ([.ref (ad o0), .int x1, .int x2, .int x3] : List Value).toArray below meth c H locs 0 0 (MQ below (ow_Qi G D cA ad Q) ([.ref (ad o0), .int x1, .int x2, .int x3] : List Value).toArray s 0 0 (ow_A G ad)) (F0 m 93 ls [])) (K129 : om_M × Int32 → Prop) (hK129 : ∀ (M : om_M) (x7 : Int32) (H : Heap) (locs : List Loc) (ls : Array Slot), K129 (M, x7) → ow_B G D cA ad (ow_A G ad) M s s.heap H locs → lv_has ls 8 [(0, .ref (ad o0)), (1, .int x1), (2, .int x2), (3, .int x3), (4, .int x4), (5, .int x5), (7, .int x7)] → W p l e rm_M_change s m ([.ref (ad o0), .int x1, .int x2, .int x3] : List Value).toArray below meth c H locs 0 0 (MQ below (ow_Qi G D cA ad Q) ([.ref (ad o0), .int x1, .int x2, .int x3] : List Value).toArray s 0 0 (ow_A G ad)) (F0 m 129 ls [])) (M : om_M) (x7 : Int32) (H : Heap) (locs : List Loc) (ls : Array Slot), wp_M_change_129b F o0 x1 x2 x3 Q x4 x5 K93 K129 M x7 → ow_B G D cA ad (ow_A G ad) M s s.heap H locs → lv_has ls 8 [(0, .ref (ad o0)), (1, .int x1), (2, .int x2), (3, .int x3), (4, .int x4), (5, .int x5), (7, .int x7)] → W p l e rm_M_change s m ([.ref (ad o0), .int x1, .int x2, .int x3] : List Value).toArray below meth c H locs 0 0 (MQ below (ow_Qi G D cA ad Q) ([.ref (ad o0), .int x1, .int x2, .int x3] : List Value).toArray s 0 0 (ow_A G ad)) (F0 m 129 ls []) := by
    intro x4 x5 K93 hK93 K129 hK129 M x7 H locs ls h hB hl
    refine lv_iload hx hb dc_M_change_129 (lv_at hl 6 rfl) ?_
    refine lv_bipush (v := 7) hx hb dc_M_change_131 rfl ?_
    obtain ⟨h1, h2⟩ := h
    refine lv_icmp_ge hx hb dc_M_change_133 rfl (fun hc => ?_) (fun hc => ?_)
    · have h := h1 hc
      exact L164 _ K93 hK93 _ _ _ _ _ h hB (lv_sub hl [0, 1, 2, 3, 4, 5] rfl)
    · have h := h2 hc
      refine lv_aload_n hx hb dc_M_change_136 rfl (lv_at hl 0 rfl) ?_
      refine ow_get hx hb hts iw_M hown hB k0 rfl 10 (by decide) mw_807 rfl dc_M_change_137 ?_
      refine lv_bipush (v := 7) hx hb dc_M_change_140 rfl ?_
      refine lv_aload_n hx hb dc_M_change_142 rfl (lv_at hl 0 rfl) ?_
      refine ow_get hx hb hts iw_M hown hB k0 rfl 9 (by decide) mw_806 rfl dc_M_change_143 ?_
      refine lv_imul hx hb dc_M_change_146 ?_
      refine lv_iload hx hb dc_M_change_147 (lv_at hl 6 rfl) ?_
      refine lv_iadd hx hb dc_M_change_149 ?_
      refine lv_aload_n hx hb dc_M_change_150 rfl (lv_at hl 0 rfl) ?_
      refine ow_get hx hb hts iw_M hown hB k0 rfl 20 (by decide) mw_817 rfl dc_M_change_151 ?_
      refine lv_iload hx hb dc_M_change_154 (lv_at hl 6 rfl) ?_
      obtain ⟨hi11, h⟩ := h
      refine ow_iald hx hb hB (ly_M_trial hG k0) hi11 dc_M_change_156 ?_
      obtain ⟨hi12, h⟩ := h
      refine ow_iast hx hb hB (ly_M_places hG k0) hi12 dc_M_change_157 (fun H locs hB => ?_)
      refine lv_iinc hx hb dc_M_change_158 hl (k := 6) rfl rfl (by decide) rfl (fun ls hl => ?_)
      refine lv_goto hx hb dc_M_change_161 rfl ?_
      exact hK129 _ _ _ _ _ h hB (lv_sub hl [1, 2, 3, 4, 5, 6, 0] rfl)
  have L129 : ∀ (x4 : Int32) (x5 : Int32) (K93 : om_M × Int32 × Int32 → Prop) (hK93 : ∀ (M : om_M) (x5 : Int32) (x6 : Int32) (H : Heap) (locs : List Loc) (ls : Array Slot), K93 (M, x5, x6) → ow_B G D cA ad (ow_A G ad) M s s.heap H locs → lv_has ls 8 [(0, .ref (ad o0)), (1, .int x1), (2, .int x2), (3, .int x3), (4, .int x4), (5, .int x5), (6, .int x6)] → W p l e rm_M_change s m ([.ref (ad o0), .int x1, .int x2, .int x3] : List Value).toArray below meth c H locs 0 0 (MQ below (ow_Qi G D cA ad Q) ([.ref (ad o0), .int x1, .int x2, .int x3] : List Value).toArray s 0 0 (ow_A G ad)) (F0 m 93 ls [])) (M : om_M) (x7 : Int32) (H : Heap) (locs : List Loc) (ls : Array Slot), wp_M_change_129 F o0 x1 x2 x3 Q x4 x5 K93 M x7 → ow_B G D cA ad (ow_A G ad) M s s.heap H locs → lv_has ls 8 [(0, .ref (ad o0)), (1, .int x1), (2, .int x2), (3, .int x3), (4, .int x4), (5, .int x5), (7, .int x7)] → W p l e rm_M_change s m ([.ref (ad o0), .int x1, .int x2, .int x3] : List Value).toArray below meth c H locs 0 0 (MQ below (ow_Qi G D cA ad Q) ([.ref (ad o0), .int x1, .int x2, .int x3] : List Value).toArray s 0 0 (ow_A G ad)) (F0 m 129 ls []) := by
    intro x4 x5 K93 hK93
    have step : ∀ (k : Nat) (M : om_M) (x7 : Int32) (H : Heap) (locs : List Loc) (ls : Array Slot), ow_lp (fun (z : om_M × Int32) K => wp_M_change_129b F o0 x1 x2 x3 Q x4 x5 K93 K z.1 z.2) k (M, x7) → ow_B G D cA ad (ow_A G ad) M s s.heap H locs → lv_has ls 8 [(0, .ref (ad o0)), (1, .int x1), (2, .int x2), (3, .int x3), (4, .int x4), (5, .int x5), (7, .int x7)] → W p l e rm_M_change s m ([.ref (ad o0), .int x1, .int x2, .int x3] : List Value).toArray below meth c H locs 0 0 (MQ below (ow_Qi G D cA ad Q) ([.ref (ad o0), .int x1, .int x2, .int x3] : List Value).toArray s 0 0 (ow_A G ad)) (F0 m 129 ls []) := by
      intro k
      induction k with
      | zero => intro M x7 H locs ls h hB hl; exact False.elim h
      | succ k ih => intro M x7 H locs ls h hB hl; exact B129 x4 x5 K93 hK93 (ow_lp _ k) (fun M x7 H locs ls h hB  hl => ih M x7  H locs ls h hB hl) M x7 H locs ls h hB hl
    intro M x7 H locs ls h hB hl
    exact step F M x7 H locs ls h hB hl
  have B93 : ∀ (x4 : Int32)  (K93 : om_M × Int32 × Int32 → Prop) (hK93 : ∀ (M : om_M) (x5 : Int32) (x6 : Int32) (H : Heap) (locs : List Loc) (ls : Array Slot), K93 (M, x5, x6) → ow_B G D cA ad (ow_A G ad) M s s.heap H locs → lv_has ls 8 [(0, .ref (ad o0)), (1, .int x1), (2, .int x2), (3, .int x3), (4, .int x4), (5, .int x5), (6, .int x6)] → W p l e rm_M_change s m ([.ref (ad o0), .int x1, .int x2, .int x3] : List Value).toArray below meth c H locs 0 0 (MQ below (ow_Qi G D cA ad Q) ([.ref (ad o0), .int x1, .int x2, .int x3] : List Value).toArray s 0 0 (ow_A G ad)) (F0 m 93 ls [])) (M : om_M) (x5 : Int32) (x6 : Int32) (H : Heap) (locs : List Loc) (ls : Array Slot), wp_M_change_93b F o0 x1 x2 x3 Q x4  K93 M x5 x6 → ow_B G D cA ad (ow_A G ad) M s s.heap H locs → lv_has ls 8 [(0, .ref (ad o0)), (1, .int x1), (2, .int x2), (3, .int x3), (4, .int x4), (5, .int x5), (6, .int x6)] → W p l e rm_M_change s m ([.ref (ad o0), .int x1, .int x2, .int x3] : List Value).toArray below meth c H locs 0 0 (MQ below (ow_Qi G D cA ad Q) ([.ref (ad o0), .int x1, .int x2, .int x3] : List Value).toArray s 0 0 (ow_A G ad)) (F0 m 93 ls []) := by
    intro x4  K93 hK93 M x5 x6 H locs ls h hB hl
    refine lv_iload hx hb dc_M_change_93 (lv_at hl 6 rfl) ?_
    obtain ⟨h1, h2⟩ := h
    refine lv_if_eq hx hb dc_M_change_95 rfl (fun hc => ?_) (fun hc => ?_)
    · have h := h1 hc
      exact L236 _ _ _ _ _ _ h hB (lv_sub hl [4, 5] rfl)
    · have h := h2 hc
      refine lv_aload_n hx hb dc_M_change_98 rfl (lv_at hl 0 rfl) ?_
      refine ow_callv (va_runV (As := []) (rest := []) ⟨hx, hb, hml, hown, hts⟩ (ct_M_load l G hG D cA ad F _ k0 _ _ h) ⟨ow_cb 0 hts mw_937 mw_12 mw_934 rfl rfl hd_M_load ⟨Nat.le_of_ble_eq_true rfl, Nat.le_of_ble_eq_true rfl⟩, hts _ mw_936, hts _ ms_23⟩ (ow_preV hB k0 rfl) rfl rfl hl.1 rfl (lv_room (Nat.le_of_ble_eq_true rfl)) dc_M_change_99 ⟨Nat.zero_le _, Nat.zero_le _⟩) hB (fun M13 H locs h hB => ?_)
      refine lv_aload_n hx hb dc_M_change_102 rfl (lv_at hl 0 rfl) ?_
      refine ow_get hx hb hts iw_M hown hB k0 rfl 11 (by decide) mw_808 rfl dc_M_change_103 ?_
      refine lv_iload_n hx hb dc_M_change_106 rfl (lv_at hl 2 rfl) ?_
      refine lv_aload_n hx hb dc_M_change_107 rfl (lv_at hl 0 rfl) ?_
      refine ow_get hx hb hts iw_M hown hB k0 rfl 11 (by decide) mw_808 rfl dc_M_change_108 ?_
      refine lv_iload_n hx hb dc_M_change_111 rfl (lv_at hl 2 rfl) ?_
      obtain ⟨hi14, h⟩ := h
      refine ow_iald hx hb hB (ly_M_voters hG k0) hi14 dc_M_change_112 ?_
      refine lv_iload_n hx hb dc_M_change_113 rfl (lv_at hl 3 rfl) ?_
      refine lv_isub hx hb dc_M_change_114 ?_
      refine ow_iast hx hb hB (ly_M_voters hG k0) hi14 dc_M_change_115 (fun H locs hB => ?_)
      refine lv_aload_n hx hb dc_M_change_116 rfl (lv_at hl 0 rfl) ?_
      refine ow_get hx hb hts iw_M hown hB k0 rfl 11 (by decide) mw_808 rfl dc_M_change_117 ?_
      refine lv_aload_n hx hb dc_M_change_120 rfl (lv_at hl 0 rfl) ?_
      refine ow_get hx hb hts iw_M hown hB k0 rfl 9 (by decide) mw_806 rfl dc_M_change_121 ?_
      refine lv_iload_n hx hb dc_M_change_124 rfl (lv_at hl 3 rfl) ?_
      obtain ⟨hi15, h⟩ := h
      refine ow_iast hx hb hB (ly_M_voters hG k0) hi15 dc_M_change_125 (fun H locs hB => ?_)
      refine lv_iconst (v := 0) hx hb dc_M_change_126 rfl ?_
      refine lv_istore hx hb dc_M_change_127 hl (by decide) rfl (fun ls hl => ?_)
      exact L129 _ _ K93 hK93 _ _ _ _ _ h hB (lv_sub hl [1, 2, 3, 4, 5, 6, 0] rfl)
  have L93 : ∀ (x4 : Int32)  (M : om_M) (x5 : Int32) (x6 : Int32) (H : Heap) (locs : List Loc) (ls : Array Slot), wp_M_change_93 F o0 x1 x2 x3 Q x4  M x5 x6 → ow_B G D cA ad (ow_A G ad) M s s.heap H locs → lv_has ls 8 [(0, .ref (ad o0)), (1, .int x1), (2, .int x2), (3, .int x3), (4, .int x4), (5, .int x5), (6, .int x6)] → W p l e rm_M_change s m ([.ref (ad o0), .int x1, .int x2, .int x3] : List Value).toArray below meth c H locs 0 0 (MQ below (ow_Qi G D cA ad Q) ([.ref (ad o0), .int x1, .int x2, .int x3] : List Value).toArray s 0 0 (ow_A G ad)) (F0 m 93 ls []) := by
    intro x4 
    have step : ∀ (k : Nat) (M : om_M) (x5 : Int32) (x6 : Int32) (H : Heap) (locs : List Loc) (ls : Array Slot), ow_lp (fun (z : om_M × Int32 × Int32) K => wp_M_change_93b F o0 x1 x2 x3 Q x4  K z.1 z.2.1 z.2.2) k (M, x5, x6) → ow_B G D cA ad (ow_A G ad) M s s.heap H locs → lv_has ls 8 [(0, .ref (ad o0)), (1, .int x1), (2, .int x2), (3, .int x3), (4, .int x4), (5, .int x5), (6, .int x6)] → W p l e rm_M_change s m ([.ref (ad o0), .int x1, .int x2, .int x3] : List Value).toArray below meth c H locs 0 0 (MQ below (ow_Qi G D cA ad Q) ([.ref (ad o0), .int x1, .int x2, .int x3] : List Value).toArray s 0 0 (ow_A G ad)) (F0 m 93 ls []) := by
      intro k
      induction k with
      | zero => intro M x5 x6 H locs ls h hB hl; exact False.elim h
      | succ k ih => intro M x5 x6 H locs ls h hB hl; exact B93 x4  (ow_lp _ k) (fun M x5 x6 H locs ls h hB  hl => ih M x5 x6  H locs ls h hB hl) M x5 x6 H locs ls h hB hl
    intro M x5 x6 H locs ls h hB hl
    exact step F M x5 x6 H locs ls h hB hl
  have L49 : ∀   (M : om_M)  (t0 : Nat) (t1 : Int32) (t2 : Int32) (kt0 : ow_kd G t0 = (3, 9)) (H : Heap) (locs : List Loc) (ls : Array Slot), wp_M_change_49 F o0 x1 x2 x3 Q   M  t0 t1 t2 → ow_B G D cA ad (ow_A G ad) M s s.heap H locs → lv_has ls 8 [(0, .ref (ad o0)), (1, .int x1), (2, .int x2), (3, .int x3)] → W p l e rm_M_change s m ([.ref (ad o0), .int x1, .int x2, .int x3] : List Value).toArray below meth c H locs 0 0 (MQ below (ow_Qi G D cA ad Q) ([.ref (ad o0), .int x1, .int x2, .int x3] : List Value).toArray s 0 0 (ow_A G ad)) (F0 m 49 ls [.int t2, .int t1, .ref (ad t0)]) := by
    intro   M t0 t1 t2 kt0 H locs ls h hB hl
    refine ow_calli (va_runV (As := [.int t1, .int t2]) (rest := []) ⟨hx, hb, hml, hown, hts⟩ (ct_M_goes l G hG D cA ad F _ kt0 _ _ _ _ h) ⟨ow_cb 2 hts mw_885 mw_12 mw_882 rfl rfl hd_M_goes ⟨Nat.le_of_ble_eq_true rfl, Nat.le_of_ble_eq_true rfl⟩, hts _ mw_884, hts _ ms_18⟩ (ow_preV hB kt0 rfl) rfl rfl hl.1 rfl (lv_room (Nat.le_of_ble_eq_true rfl)) dc_M_change_49 ⟨Nat.zero_le _, Nat.zero_le _⟩) hB (fun r17 M16 H locs h hB => ?_)
    obtain ⟨h1, h2⟩ := h
    refine lv_if_ne hx hb dc_M_change_52 rfl (fun hc => ?_) (fun hc => ?_)
    · have h := h2 hc
      refine lv_aload_n hx hb dc_M_change_57 rfl (lv_at hl 0 rfl) ?_
      refine ow_callv (va_runV (As := []) (rest := []) ⟨hx, hb, hml, hown, hts⟩ (ct_M_load l G hG D cA ad F _ k0 _ _ h) ⟨ow_cb 0 hts mw_937 mw_12 mw_934 rfl rfl hd_M_load ⟨Nat.le_of_ble_eq_true rfl, Nat.le_of_ble_eq_true rfl⟩, hts _ mw_936, hts _ ms_23⟩ (ow_preV hB k0 rfl) rfl rfl hl.1 rfl (lv_room (Nat.le_of_ble_eq_true rfl)) dc_M_change_58 ⟨Nat.zero_le _, Nat.zero_le _⟩) hB (fun M18 H locs h hB => ?_)
      refine lv_aload_n hx hb dc_M_change_61 rfl (lv_at hl 0 rfl) ?_
      refine lv_iload_n hx hb dc_M_change_62 rfl (lv_at hl 2 rfl) ?_
      refine lv_aload_n hx hb dc_M_change_63 rfl (lv_at hl 0 rfl) ?_
      refine lv_aload_n hx hb dc_M_change_64 rfl (lv_at hl 0 rfl) ?_
      refine lv_iload_n hx hb dc_M_change_65 rfl (lv_at hl 1 rfl) ?_
      refine ow_calli (va_runV (As := [.int x1]) (rest := [.ref (ad o0), .int x2, .ref (ad o0)]) ⟨hx, hb, hml, hown, hts⟩ (ct_M_work l G hG D cA ad F _ k0 _ _ _ h) ⟨ow_cb 1 hts mw_941 mw_12 mw_938 rfl rfl hd_M_work ⟨Nat.le_of_ble_eq_true rfl, Nat.le_of_ble_eq_true rfl⟩, hts _ mw_940, hts _ ms_24⟩ (ow_preV hB k0 rfl) rfl rfl hl.1 rfl (lv_room (Nat.le_of_ble_eq_true rfl)) dc_M_change_66 ⟨Nat.zero_le _, Nat.zero_le _⟩) hB (fun r20 M19 H locs h hB => ?_)
      refine ow_calli (va_runV (As := [.int r20]) (rest := [.int x2, .ref (ad o0)]) ⟨hx, hb, hml, hown, hts⟩ (ct_M_firstOf l G hG D cA ad F _ k0 _ _ _ h) ⟨ow_cb 1 hts mw_1037 mw_12 mw_1034 rfl rfl hd_M_firstOf ⟨Nat.le_of_ble_eq_true rfl, Nat.le_of_ble_eq_true rfl⟩, hts _ mw_1036, hts _ ms_46⟩ (ow_preV hB k0 rfl) rfl rfl hl.1 rfl (lv_room (Nat.le_of_ble_eq_true rfl)) dc_M_change_69 ⟨Nat.zero_le _, Nat.zero_le _⟩) hB (fun r22 M21 H locs h hB => ?_)
      refine ow_calli (va_runV (As := [.int x2, .int r22]) (rest := []) ⟨hx, hb, hml, hown, hts⟩ (ct_M_placeOf l G hG D cA ad F _ k0 _ _ _ _ h) ⟨ow_cb 2 hts mw_965 mw_12 mw_962 rfl rfl hd_M_placeOf ⟨Nat.le_of_ble_eq_true rfl, Nat.le_of_ble_eq_true rfl⟩, hts _ mw_964, hts _ ms_30⟩ (ow_preV hB k0 rfl) rfl rfl hl.1 rfl (lv_room (Nat.le_of_ble_eq_true rfl)) dc_M_change_72 ⟨Nat.zero_le _, Nat.zero_le _⟩) hB (fun r24 M23 H locs h hB => ?_)
      refine lv_istore hx hb dc_M_change_75 hl (by decide) rfl (fun ls hl => ?_)
      refine lv_iload hx hb dc_M_change_77 (lv_at hl 0 rfl) ?_
      refine lv_istore hx hb dc_M_change_79 hl (by decide) rfl (fun ls hl => ?_)
      refine lv_aload_n hx hb dc_M_change_81 rfl (lv_at hl 2 rfl) ?_
      refine lv_iconst (v := (-1)) hx hb dc_M_change_82 rfl ?_
      refine ow_put hx hb hts iw_M yf_M of_M nf_M hown hB k0 rfl 22 (by decide) mw_819 rfl (by decide +kernel) (Nat.le_of_ble_eq_true rfl) rfl dc_M_change_83 (fun H locs hB => ?_)
      refine lv_aload_n hx hb dc_M_change_86 rfl (lv_at hl 2 rfl) ?_
      refine ow_callv (va_runV (As := []) (rest := []) ⟨hx, hb, hml, hown, hts⟩ (ct_M_firstOrder l G hG D cA ad F _ k0 _ _ h) ⟨ow_cb 0 hts mw_1073 mw_12 mw_1070 rfl rfl hd_M_firstOrder ⟨Nat.le_of_ble_eq_true rfl, Nat.le_of_ble_eq_true rfl⟩, hts _ mw_1072, hts _ ms_49⟩ (ow_preV hB k0 rfl) rfl rfl hl.1 rfl (lv_room (Nat.le_of_ble_eq_true rfl)) dc_M_change_87 ⟨Nat.zero_le _, Nat.zero_le _⟩) hB (fun M25 H locs h hB => ?_)
      refine lv_iconst (v := 1) hx hb dc_M_change_90 rfl ?_
      refine lv_istore hx hb dc_M_change_91 hl (by decide) rfl (fun ls hl => ?_)
      exact L93 _ _ _ _ _ _ _ h hB (lv_sub hl [3, 4, 5, 6, 2, 1, 0] rfl)
    · have h := h1 hc
      refine lv_iconst (v := 0) hx hb dc_M_change_55 rfl ?_
      exact ow_iret hx hb hr hlocks hB h dc_M_change_56
  have L48 : ∀   (M : om_M)  (t0 : Nat) (t1 : Int32) (kt0 : ow_kd G t0 = (3, 9)) (H : Heap) (locs : List Loc) (ls : Array Slot), wp_M_change_48 F o0 x1 x2 x3 Q   M  t0 t1 → ow_B G D cA ad (ow_A G ad) M s s.heap H locs → lv_has ls 8 [(0, .ref (ad o0)), (1, .int x1), (2, .int x2), (3, .int x3)] → W p l e rm_M_change s m ([.ref (ad o0), .int x1, .int x2, .int x3] : List Value).toArray below meth c H locs 0 0 (MQ below (ow_Qi G D cA ad Q) ([.ref (ad o0), .int x1, .int x2, .int x3] : List Value).toArray s 0 0 (ow_A G ad)) (F0 m 48 ls [.int t1, .ref (ad t0)]) := by
    intro   M t0 t1 kt0 H locs ls h hB hl
    refine lv_iconst (v := 0) hx hb dc_M_change_48 rfl ?_
    exact L49 _ _ _ _ kt0 _ _ _ h hB (lv_sub hl [0, 1, 2, 3] rfl)
  have L21 : ∀   (M : om_M)  (t0 : Nat) (t1 : Int32) (kt0 : ow_kd G t0 = (3, 9)) (H : Heap) (locs : List Loc) (ls : Array Slot), wp_M_change_21 F o0 x1 x2 x3 Q   M  t0 t1 → ow_B G D cA ad (ow_A G ad) M s s.heap H locs → lv_has ls 8 [(0, .ref (ad o0)), (1, .int x1), (2, .int x2), (3, .int x3)] → W p l e rm_M_change s m ([.ref (ad o0), .int x1, .int x2, .int x3] : List Value).toArray below meth c H locs 0 0 (MQ below (ow_Qi G D cA ad Q) ([.ref (ad o0), .int x1, .int x2, .int x3] : List Value).toArray s 0 0 (ow_A G ad)) (F0 m 21 ls [.int t1, .ref (ad t0)]) := by
    intro   M t0 t1 kt0 H locs ls h hB hl
    refine lv_aload_n hx hb dc_M_change_21 rfl (lv_at hl 0 rfl) ?_
    refine lv_iload_n hx hb dc_M_change_22 rfl (lv_at hl 2 rfl) ?_
    refine ow_calli (va_runV (As := [.int x2]) (rest := [.int t1, .ref (ad t0)]) ⟨hx, hb, hml, hown, hts⟩ (ct_M_isType l G hG D cA ad F _ k0 _ _ _ h) ⟨ow_cb 1 hts mw_906 mw_12 mw_903 rfl rfl hd_M_isType ⟨Nat.le_of_ble_eq_true rfl, Nat.le_of_ble_eq_true rfl⟩, hts _ mw_905, hts _ ms_21⟩ (ow_preV hB k0 rfl) rfl rfl hl.1 rfl (lv_room (Nat.le_of_ble_eq_true rfl)) dc_M_change_23 ⟨Nat.zero_le _, Nat.zero_le _⟩) hB (fun r27 M26 H locs h hB => ?_)
    obtain ⟨h1, h2⟩ := h
    refine lv_if_eq hx hb dc_M_change_26 rfl (fun hc => ?_) (fun hc => ?_)
    · have h := h1 hc
      exact L48 _ _ _ kt0 _ _ _ h hB (lv_sub hl [0, 1, 2, 3] rfl)
    · have h := h2 hc
      refine lv_iload_n hx hb dc_M_change_29 rfl (lv_at hl 3 rfl) ?_
      refine lv_iconst (v := 1) hx hb dc_M_change_30 rfl ?_
      obtain ⟨h1, h2⟩ := h
      refine lv_icmp_lt hx hb dc_M_change_31 rfl (fun hc => ?_) (fun hc => ?_)
      · have h := h1 hc
        exact L48 _ _ _ kt0 _ _ _ h hB (lv_sub hl [0, 1, 2, 3] rfl)
      · have h := h2 hc
        refine lv_iload_n hx hb dc_M_change_34 rfl (lv_at hl 3 rfl) ?_
        refine lv_aload_n hx hb dc_M_change_35 rfl (lv_at hl 0 rfl) ?_
        refine ow_get hx hb hts iw_M hown hB k0 rfl 4 (by decide) mw_801 rfl dc_M_change_36 ?_
        refine lv_iload_n hx hb dc_M_change_39 rfl (lv_at hl 2 rfl) ?_
        obtain ⟨hi28, h⟩ := h
        refine ow_iald hx hb hB (ly_M_amounts hG k0) hi28 dc_M_change_40 ?_
        obtain ⟨h1, h2⟩ := h
        refine lv_icmp_gt hx hb dc_M_change_41 rfl (fun hc => ?_) (fun hc => ?_)
        · have h := h1 hc
          exact L48 _ _ _ kt0 _ _ _ h hB (lv_sub hl [0, 1, 2, 3] rfl)
        · have h := h2 hc
          refine lv_iconst (v := 1) hx hb dc_M_change_44 rfl ?_
          refine lv_goto hx hb dc_M_change_45 rfl ?_
          exact L49 _ _ _ _ kt0 _ _ _ h hB (lv_sub hl [0, 1, 2, 3] rfl)
  have L20 : ∀   (M : om_M)  (t0 : Nat) (kt0 : ow_kd G t0 = (3, 9)) (H : Heap) (locs : List Loc) (ls : Array Slot), wp_M_change_20 F o0 x1 x2 x3 Q   M  t0 → ow_B G D cA ad (ow_A G ad) M s s.heap H locs → lv_has ls 8 [(0, .ref (ad o0)), (1, .int x1), (2, .int x2), (3, .int x3)] → W p l e rm_M_change s m ([.ref (ad o0), .int x1, .int x2, .int x3] : List Value).toArray below meth c H locs 0 0 (MQ below (ow_Qi G D cA ad Q) ([.ref (ad o0), .int x1, .int x2, .int x3] : List Value).toArray s 0 0 (ow_A G ad)) (F0 m 20 ls [.ref (ad t0)]) := by
    intro   M t0 kt0 H locs ls h hB hl
    refine lv_iconst (v := 0) hx hb dc_M_change_20 rfl ?_
    exact L21 _ _ _ kt0 _ _ _ h hB (lv_sub hl [0, 1, 2, 3] rfl)
  have hl := lv_entry ([.ref (ad o0), .int x1, .int x2, .int x3]) (n := 8) (Nat.le_of_ble_eq_true rfl)
  rw [lg_entry_eq]
  generalize (lg_sl ([.ref (ad o0), .int x1, .int x2, .int x3]) ++ List.replicate (8 - (lg_sl ([.ref (ad o0), .int x1, .int x2, .int x3])).length) Slot.unset).toArray = ls at hl ⊢
  have hl : lv_has ls 8 [(0, .ref (ad o0)), (1, .int x1), (2, .int x2), (3, .int x3)] := hl
  show W p l e rm_M_change s m _ below meth c s.heap [] 0 0 _ _
  refine lv_aload_n hx hb dc_M_change_0 rfl (lv_at hl 0 rfl) ?_
  refine lv_iload_n hx hb dc_M_change_1 rfl (lv_at hl 1 rfl) ?_
  refine ow_calli (va_runS (As := [.int x1]) (rest := [.ref (ad o0)]) ⟨hx, hb, hml, hown, hts⟩ (ct_M_isRule l G hG D cA ad F _ _ _ h) ⟨ow_cb 1 hts mw_933 mw_12 mw_931 rfl rfl hd_M_isRule ⟨Nat.le_of_ble_eq_true rfl, Nat.le_of_ble_eq_true rfl⟩, hts _ mw_932⟩ (ow_preS hB) rfl rfl hl.1 rfl (lv_room (Nat.le_of_ble_eq_true rfl)) dc_M_change_2 ⟨Nat.zero_le _, Nat.zero_le _⟩) hB (fun r30 M29 H locs h hB => ?_)
  obtain ⟨h1, h2⟩ := h
  refine lv_if_eq hx hb dc_M_change_5 rfl (fun hc => ?_) (fun hc => ?_)
  · have h := h1 hc
    exact L20 _ _ k0 _ _ _ h hB (lv_sub hl [0, 1, 2, 3] rfl)
  · have h := h2 hc
    refine lv_aload_n hx hb dc_M_change_8 rfl (lv_at hl 0 rfl) ?_
    refine lv_iload_n hx hb dc_M_change_9 rfl (lv_at hl 2 rfl) ?_
    refine ow_calli (va_runV (As := [.int x2]) (rest := [.ref (ad o0)]) ⟨hx, hb, hml, hown, hts⟩ (ct_M_isType l G hG D cA ad F _ k0 _ _ _ h) ⟨ow_cb 1 hts mw_906 mw_12 mw_903 rfl rfl hd_M_isType ⟨Nat.le_of_ble_eq_true rfl, Nat.le_of_ble_eq_true rfl⟩, hts _ mw_905, hts _ ms_21⟩ (ow_preV hB k0 rfl) rfl rfl hl.1 rfl (lv_room (Nat.le_of_ble_eq_true rfl)) dc_M_change_10 ⟨Nat.zero_le _, Nat.zero_le _⟩) hB (fun r32 M31 H locs h hB => ?_)
    obtain ⟨h1, h2⟩ := h
    refine lv_if_eq hx hb dc_M_change_13 rfl (fun hc => ?_) (fun hc => ?_)
    · have h := h1 hc
      exact L20 _ _ k0 _ _ _ h hB (lv_sub hl [0, 1, 2, 3] rfl)
    · have h := h2 hc
      refine lv_iconst (v := 1) hx hb dc_M_change_16 rfl ?_
      refine lv_goto hx hb dc_M_change_17 rfl ?_
      exact L21 _ _ _ k0 _ _ _ h hB (lv_sub hl [0, 1, 2, 3] rfl)
abbrev rm_M_changed : Room := { frames := 0, cells := 0, slots := 0, locals := 0 }
theorem hd_M_changed : yn_M_changed.cls ≠ "java/lang/invoke/MethodHandle" ∧ yn_M_changed.cls ≠ "java/lang/invoke/VarHandle" ∧ (parseMethodDescriptor yn_M_changed.desc).map (fun d => d.parameters.length) = some 0 := by decide +kernel
set_option maxHeartbeats 4000000 in
set_option maxRecDepth 100000 in
theorem ct_M_changed (l : Launch) (G : List (Nat × Nat)) (hG : ow_lay G) (D : va_G) (cA : Nat → ClassId) (ad : Nat → Nat) (F : Nat) (o0 : Nat) (k0 : ow_kd G o0 = (3, 9)) (M : om_M) (Q : Int32 → om_M → Prop) (h : wp_M_changed F o0 M Q) : Met l yn_M_changed (ow_ws yn_M_changed cb_M_changed 1 (some .int)) rm_M_changed (ow_Pc G D cA ad M [.ref (ad o0)]) (ow_Qi G D cA ad Q) 0 0 (ow_A G ad) := by
  refine Met.ofW (cc := cb_M_changed) (maxL := 1) (ret := (some .int)) (by decide) rfl ?_
  intro p e s m args below meth c s₁ B hml hv
  obtain ⟨rfl, hB⟩ := hv
  have hx := B.exec
  have hb := B.bytes
  have hr := B.returns
  have hlocks := B.notSynchronized
  have hts : ∀ w ∈ lw_g, w.before ([.ref (ad o0)] : List Value).toArray s = true := fun w h => atoms_spec (ws := ow_ws yn_M_changed cb_M_changed 1 (some .int)) B.pre w (List.mem_cons_of_mem _ h)
  have hown : s.vm.findClass "BallotDeskModel" = some m.cls := findClass_of_methodNamed B.named
  clear B
  have hl := lv_entry ([.ref (ad o0)]) (n := 1) (Nat.le_of_ble_eq_true rfl)
  rw [lg_entry_eq]
  generalize (lg_sl ([.ref (ad o0)]) ++ List.replicate (1 - (lg_sl ([.ref (ad o0)])).length) Slot.unset).toArray = ls at hl ⊢
  have hl : lv_has ls 1 [(0, .ref (ad o0))] := hl
  show W p l e rm_M_changed s m _ below meth c s.heap [] 0 0 _ _
  refine lv_aload_n hx hb dc_M_changed_0 rfl (lv_at hl 0 rfl) ?_
  refine lv_iconst (v := 0) hx hb dc_M_changed_1 rfl ?_
  refine ow_put hx hb hts iw_M yf_M of_M nf_M hown hB k0 rfl 0 (by decide) mw_797 rfl (by decide +kernel) (Nat.le_of_ble_eq_true rfl) rfl dc_M_changed_2 (fun H locs hB => ?_)
  refine lv_aload_n hx hb dc_M_changed_5 rfl (lv_at hl 0 rfl) ?_
  refine ow_get hx hb hts iw_M hown hB k0 rfl 22 (by decide) mw_819 rfl dc_M_changed_6 ?_
  exact ow_iret hx hb hr hlocks hB h dc_M_changed_9
abbrev rm_M_over2 : Room := { frames := 1, cells := 0, slots := 0, locals := 22 }
theorem hd_M_over2 : yn_M_over2.cls ≠ "java/lang/invoke/MethodHandle" ∧ yn_M_over2.cls ≠ "java/lang/invoke/VarHandle" ∧ (parseMethodDescriptor yn_M_over2.desc).map (fun d => d.parameters.length) = some 2 := by decide +kernel
set_option maxHeartbeats 4000000 in
set_option maxRecDepth 100000 in
theorem ct_M_over2 (l : Launch) (G : List (Nat × Nat)) (hG : ow_lay G) (D : va_G) (cA : Nat → ClassId) (ad : Nat → Nat) (F : Nat) (o0 : Nat) (k0 : ow_kd G o0 = (3, 9)) (x1 : Int32) (x2 : Int32) (M : om_M) (Q : Int32 → om_M → Prop) (h : wp_M_over2 F o0 x1 x2 M Q) : Met l yn_M_over2 (ow_ws yn_M_over2 cb_M_over2 5 (some .boolean)) rm_M_over2 (ow_Pc G D cA ad M [.ref (ad o0), .int x1, .int x2]) (ow_Qi G D cA ad Q) 0 0 (ow_A G ad) := by
  refine Met.ofW (cc := cb_M_over2) (maxL := 5) (ret := (some .boolean)) (by decide) rfl ?_
  intro p e s m args below meth c s₁ B hml hv
  obtain ⟨rfl, hB⟩ := hv
  have hx := B.exec
  have hb := B.bytes
  have hr := B.returns
  have hlocks := B.notSynchronized
  have hts : ∀ w ∈ lw_g, w.before ([.ref (ad o0), .int x1, .int x2] : List Value).toArray s = true := fun w h => atoms_spec (ws := ow_ws yn_M_over2 cb_M_over2 5 (some .boolean)) B.pre w (List.mem_cons_of_mem _ h)
  have hown : s.vm.findClass "BallotDeskModel" = some m.cls := findClass_of_methodNamed B.named
  clear B
  have L56 : ∀  (K5 : om_M × Int32 × Int32 → Prop) (hK5 : ∀ (M : om_M) (x3 : Int32) (x4 : Int32) (H : Heap) (locs : List Loc) (ls : Array Slot), K5 (M, x3, x4) → ow_B G D cA ad (ow_A G ad) M s s.heap H locs → lv_has ls 5 [(0, .ref (ad o0)), (1, .int x1), (2, .int x2), (3, .int x3), (4, .int x4)] → W p l e rm_M_over2 s m ([.ref (ad o0), .int x1, .int x2] : List Value).toArray below meth c H locs 0 0 (MQ below (ow_Qi G D cA ad Q) ([.ref (ad o0), .int x1, .int x2] : List Value).toArray s 0 0 (ow_A G ad)) (F0 m 5 ls [])) (M : om_M) (x4 : Int32) (t0 : Int32) (H : Heap) (locs : List Loc) (ls : Array Slot), wp_M_over2_56 F o0 x1 x2 Q  K5 M x4 t0 → ow_B G D cA ad (ow_A G ad) M s s.heap H locs → lv_has ls 5 [(0, .ref (ad o0)), (1, .int x1), (2, .int x2), (4, .int x4)] → W p l e rm_M_over2 s m ([.ref (ad o0), .int x1, .int x2] : List Value).toArray below meth c H locs 0 0 (MQ below (ow_Qi G D cA ad Q) ([.ref (ad o0), .int x1, .int x2] : List Value).toArray s 0 0 (ow_A G ad)) (F0 m 56 ls [.int t0]) := by
    intro  K5 hK5 M x4 t0 H locs ls h hB hl
    refine lv_istore_n hx hb dc_M_over2_56 rfl hl (by decide) rfl (fun ls hl => ?_)
    refine lv_iinc hx hb dc_M_over2_57 hl (k := 4) rfl rfl (by decide) rfl (fun ls hl => ?_)
    refine lv_goto hx hb dc_M_over2_60 rfl ?_
    exact hK5 _ _ _ _ _ _ h hB (lv_sub hl [2, 3, 4, 1, 0] rfl)
  have L55 : ∀  (K5 : om_M × Int32 × Int32 → Prop) (hK5 : ∀ (M : om_M) (x3 : Int32) (x4 : Int32) (H : Heap) (locs : List Loc) (ls : Array Slot), K5 (M, x3, x4) → ow_B G D cA ad (ow_A G ad) M s s.heap H locs → lv_has ls 5 [(0, .ref (ad o0)), (1, .int x1), (2, .int x2), (3, .int x3), (4, .int x4)] → W p l e rm_M_over2 s m ([.ref (ad o0), .int x1, .int x2] : List Value).toArray below meth c H locs 0 0 (MQ below (ow_Qi G D cA ad Q) ([.ref (ad o0), .int x1, .int x2] : List Value).toArray s 0 0 (ow_A G ad)) (F0 m 5 ls [])) (M : om_M) (x4 : Int32)  (H : Heap) (locs : List Loc) (ls : Array Slot), wp_M_over2_55 F o0 x1 x2 Q  K5 M x4  → ow_B G D cA ad (ow_A G ad) M s s.heap H locs → lv_has ls 5 [(0, .ref (ad o0)), (1, .int x1), (2, .int x2), (4, .int x4)] → W p l e rm_M_over2 s m ([.ref (ad o0), .int x1, .int x2] : List Value).toArray below meth c H locs 0 0 (MQ below (ow_Qi G D cA ad Q) ([.ref (ad o0), .int x1, .int x2] : List Value).toArray s 0 0 (ow_A G ad)) (F0 m 55 ls []) := by
    intro  K5 hK5 M x4 H locs ls h hB hl
    refine lv_iconst (v := 0) hx hb dc_M_over2_55 rfl ?_
    exact L56 K5 hK5 _ _ _ _ _ _ h hB (lv_sub hl [0, 1, 2, 3] rfl)
  have L51 : ∀  (K5 : om_M × Int32 × Int32 → Prop) (hK5 : ∀ (M : om_M) (x3 : Int32) (x4 : Int32) (H : Heap) (locs : List Loc) (ls : Array Slot), K5 (M, x3, x4) → ow_B G D cA ad (ow_A G ad) M s s.heap H locs → lv_has ls 5 [(0, .ref (ad o0)), (1, .int x1), (2, .int x2), (3, .int x3), (4, .int x4)] → W p l e rm_M_over2 s m ([.ref (ad o0), .int x1, .int x2] : List Value).toArray below meth c H locs 0 0 (MQ below (ow_Qi G D cA ad Q) ([.ref (ad o0), .int x1, .int x2] : List Value).toArray s 0 0 (ow_A G ad)) (F0 m 5 ls [])) (M : om_M) (x4 : Int32)  (H : Heap) (locs : List Loc) (ls : Array Slot), wp_M_over2_51 F o0 x1 x2 Q  K5 M x4  → ow_B G D cA ad (ow_A G ad) M s s.heap H locs → lv_has ls 5 [(0, .ref (ad o0)), (1, .int x1), (2, .int x2), (4, .int x4)] → W p l e rm_M_over2 s m ([.ref (ad o0), .int x1, .int x2] : List Value).toArray below meth c H locs 0 0 (MQ below (ow_Qi G D cA ad Q) ([.ref (ad o0), .int x1, .int x2] : List Value).toArray s 0 0 (ow_A G ad)) (F0 m 51 ls []) := by
    intro  K5 hK5 M x4 H locs ls h hB hl
    refine lv_iconst (v := 1) hx hb dc_M_over2_51 rfl ?_
    refine lv_goto hx hb dc_M_over2_52 rfl ?_
    exact L56 K5 hK5 _ _ _ _ _ _ h hB (lv_sub hl [0, 1, 2, 3] rfl)
  have B5 : ∀   (K5 : om_M × Int32 × Int32 → Prop) (hK5 : ∀ (M : om_M) (x3 : Int32) (x4 : Int32) (H : Heap) (locs : List Loc) (ls : Array Slot), K5 (M, x3, x4) → ow_B G D cA ad (ow_A G ad) M s s.heap H locs → lv_has ls 5 [(0, .ref (ad o0)), (1, .int x1), (2, .int x2), (3, .int x3), (4, .int x4)] → W p l e rm_M_over2 s m ([.ref (ad o0), .int x1, .int x2] : List Value).toArray below meth c H locs 0 0 (MQ below (ow_Qi G D cA ad Q) ([.ref (ad o0), .int x1, .int x2] : List Value).toArray s 0 0 (ow_A G ad)) (F0 m 5 ls [])) (M : om_M) (x3 : Int32) (x4 : Int32) (H : Heap) (locs : List Loc) (ls : Array Slot), wp_M_over2_5b F o0 x1 x2 Q   K5 M x3 x4 → ow_B G D cA ad (ow_A G ad) M s s.heap H locs → lv_has ls 5 [(0, .ref (ad o0)), (1, .int x1), (2, .int x2), (3, .int x3), (4, .int x4)] → W p l e rm_M_over2 s m ([.ref (ad o0), .int x1, .int x2] : List Value).toArray below meth c H locs 0 0 (MQ below (ow_Qi G D cA ad Q) ([.ref (ad o0), .int x1, .int x2] : List Value).toArray s 0 0 (ow_A G ad)) (F0 m 5 ls []) := by
    intro   K5 hK5 M x3 x4 H locs ls h hB hl
    refine lv_iload hx hb dc_M_over2_5 (lv_at hl 4 rfl) ?_
    refine lv_aload_n hx hb dc_M_over2_7 rfl (lv_at hl 0 rfl) ?_
    refine ow_get hx hb hts iw_M hown hB k0 rfl 8 (by decide) mw_805 rfl dc_M_over2_8 ?_
    obtain ⟨h1, h2⟩ := h
    refine lv_icmp_ge hx hb dc_M_over2_11 rfl (fun hc => ?_) (fun hc => ?_)
    · have h := h1 hc
      refine lv_iload_n hx hb dc_M_over2_63 rfl (lv_at hl 3 rfl) ?_
      obtain ⟨hz, h⟩ := h
      exact ow_zret hx hb hr hlocks hz hB h dc_M_over2_64
    · have h := h2 hc
      refine lv_iload_n hx hb dc_M_over2_14 rfl (lv_at hl 3 rfl) ?_
      obtain ⟨h1, h2⟩ := h
      refine lv_if_eq hx hb dc_M_over2_15 rfl (fun hc => ?_) (fun hc => ?_)
      · have h := h1 hc
        exact L55 K5 hK5 _ _ _ _ _ h hB (lv_sub hl [0, 1, 2, 4] rfl)
      · have h := h2 hc
        refine lv_iload hx hb dc_M_over2_18 (lv_at hl 4 rfl) ?_
        refine lv_iload_n hx hb dc_M_over2_20 rfl (lv_at hl 1 rfl) ?_
        obtain ⟨h1, h2⟩ := h
        refine lv_icmp_eq hx hb dc_M_over2_21 rfl (fun hc => ?_) (fun hc => ?_)
        · have h := h1 hc
          exact L51 K5 hK5 _ _ _ _ _ h hB (lv_sub hl [0, 1, 2, 4] rfl)
        · have h := h2 hc
          refine lv_iload_n hx hb dc_M_over2_24 rfl (lv_at hl 2 rfl) ?_
          obtain ⟨h1, h2⟩ := h
          refine lv_if_eq hx hb dc_M_over2_25 rfl (fun hc => ?_) (fun hc => ?_)
          · have h := h1 hc
            refine lv_aload_n hx hb dc_M_over2_41 rfl (lv_at hl 0 rfl) ?_
            refine lv_iload hx hb dc_M_over2_42 (lv_at hl 4 rfl) ?_
            refine lv_iload_n hx hb dc_M_over2_44 rfl (lv_at hl 1 rfl) ?_
            refine ow_calli (va_runV (As := [.int x4, .int x1]) (rest := []) ⟨hx, hb, hml, hown, hts⟩ (ct_M_beats l G hG D cA ad F _ k0 _ _ _ _ h) ⟨ow_cb 2 hts mw_969 mw_12 mw_966 rfl rfl hd_M_beats ⟨Nat.le_of_ble_eq_true rfl, Nat.le_of_ble_eq_true rfl⟩, hts _ mw_968, hts _ ms_31⟩ (ow_preV hB k0 rfl) rfl rfl hl.1 rfl (lv_room (Nat.le_of_ble_eq_true rfl)) dc_M_over2_45 ⟨Nat.zero_le _, Nat.zero_le _⟩) hB (fun r2 M1 H locs h hB => ?_)
            obtain ⟨h1, h2⟩ := h
            refine lv_if_eq hx hb dc_M_over2_48 rfl (fun hc => ?_) (fun hc => ?_)
            · have h := h1 hc
              exact L55 K5 hK5 _ _ _ _ _ h hB (lv_sub hl [0, 1, 2, 4] rfl)
            · have h := h2 hc
              exact L51 K5 hK5 _ _ _ _ _ h hB (lv_sub hl [0, 1, 2, 4] rfl)
          · have h := h2 hc
            refine lv_aload_n hx hb dc_M_over2_28 rfl (lv_at hl 0 rfl) ?_
            refine lv_iload_n hx hb dc_M_over2_29 rfl (lv_at hl 1 rfl) ?_
            refine lv_iload hx hb dc_M_over2_30 (lv_at hl 4 rfl) ?_
            refine ow_calli (va_runV (As := [.int x1, .int x4]) (rest := []) ⟨hx, hb, hml, hown, hts⟩ (ct_M_beats l G hG D cA ad F _ k0 _ _ _ _ h) ⟨ow_cb 2 hts mw_969 mw_12 mw_966 rfl rfl hd_M_beats ⟨Nat.le_of_ble_eq_true rfl, Nat.le_of_ble_eq_true rfl⟩, hts _ mw_968, hts _ ms_31⟩ (ow_preV hB k0 rfl) rfl rfl hl.1 rfl (lv_room (Nat.le_of_ble_eq_true rfl)) dc_M_over2_32 ⟨Nat.zero_le _, Nat.zero_le _⟩) hB (fun r4 M3 H locs h hB => ?_)
            obtain ⟨h1, h2⟩ := h
            refine lv_if_eq hx hb dc_M_over2_35 rfl (fun hc => ?_) (fun hc => ?_)
            · have h := h1 hc
              exact L55 K5 hK5 _ _ _ _ _ h hB (lv_sub hl [0, 1, 2, 4] rfl)
            · have h := h2 hc
              refine lv_goto hx hb dc_M_over2_38 rfl ?_
              exact L51 K5 hK5 _ _ _ _ _ h hB (lv_sub hl [0, 1, 2, 4] rfl)
  have L5 : ∀   (M : om_M) (x3 : Int32) (x4 : Int32) (H : Heap) (locs : List Loc) (ls : Array Slot), wp_M_over2_5 F o0 x1 x2 Q   M x3 x4 → ow_B G D cA ad (ow_A G ad) M s s.heap H locs → lv_has ls 5 [(0, .ref (ad o0)), (1, .int x1), (2, .int x2), (3, .int x3), (4, .int x4)] → W p l e rm_M_over2 s m ([.ref (ad o0), .int x1, .int x2] : List Value).toArray below meth c H locs 0 0 (MQ below (ow_Qi G D cA ad Q) ([.ref (ad o0), .int x1, .int x2] : List Value).toArray s 0 0 (ow_A G ad)) (F0 m 5 ls []) := by
    have step : ∀ (k : Nat) (M : om_M) (x3 : Int32) (x4 : Int32) (H : Heap) (locs : List Loc) (ls : Array Slot), ow_lp (fun (z : om_M × Int32 × Int32) K => wp_M_over2_5b F o0 x1 x2 Q   K z.1 z.2.1 z.2.2) k (M, x3, x4) → ow_B G D cA ad (ow_A G ad) M s s.heap H locs → lv_has ls 5 [(0, .ref (ad o0)), (1, .int x1), (2, .int x2), (3, .int x3), (4, .int x4)] → W p l e rm_M_over2 s m ([.ref (ad o0), .int x1, .int x2] : List Value).toArray below meth c H locs 0 0 (MQ below (ow_Qi G D cA ad Q) ([.ref (ad o0), .int x1, .int x2] : List Value).toArray s 0 0 (ow_A G ad)) (F0 m 5 ls []) := by
      intro k
      induction k with
      | zero => intro M x3 x4 H locs ls h hB hl; exact False.elim h
      | succ k ih => intro M x3 x4 H locs ls h hB hl; exact B5   (ow_lp _ k) (fun M x3 x4 H locs ls h hB  hl => ih M x3 x4  H locs ls h hB hl) M x3 x4 H locs ls h hB hl
    intro M x3 x4 H locs ls h hB hl
    exact step F M x3 x4 H locs ls h hB hl
  have hl := lv_entry ([.ref (ad o0), .int x1, .int x2]) (n := 5) (Nat.le_of_ble_eq_true rfl)
  rw [lg_entry_eq]
  generalize (lg_sl ([.ref (ad o0), .int x1, .int x2]) ++ List.replicate (5 - (lg_sl ([.ref (ad o0), .int x1, .int x2])).length) Slot.unset).toArray = ls at hl ⊢
  have hl : lv_has ls 5 [(0, .ref (ad o0)), (1, .int x1), (2, .int x2)] := hl
  show W p l e rm_M_over2 s m _ below meth c s.heap [] 0 0 _ _
  refine lv_iconst (v := 1) hx hb dc_M_over2_0 rfl ?_
  refine lv_istore_n hx hb dc_M_over2_1 rfl hl (by decide) rfl (fun ls hl => ?_)
  refine lv_iconst (v := 0) hx hb dc_M_over2_2 rfl ?_
  refine lv_istore hx hb dc_M_over2_3 hl (by decide) rfl (fun ls hl => ?_)
  exact L5 _ _ _ _ _ _ h hB (lv_sub hl [2, 3, 4, 1, 0] rfl)
abbrev rm_M_brokenByPairs : Room := { frames := 4, cells := 0, slots := 0, locals := 99 }
theorem hd_M_brokenByPairs : yn_M_brokenByPairs.cls ≠ "java/lang/invoke/MethodHandle" ∧ yn_M_brokenByPairs.cls ≠ "java/lang/invoke/VarHandle" ∧ (parseMethodDescriptor yn_M_brokenByPairs.desc).map (fun d => d.parameters.length) = some 2 := by decide +kernel
set_option maxHeartbeats 4000000 in
set_option maxRecDepth 100000 in
theorem ct_M_brokenByPairs (l : Launch) (G : List (Nat × Nat)) (hG : ow_lay G) (D : va_G) (cA : Nat → ClassId) (ad : Nat → Nat) (F : Nat) (o0 : Nat) (k0 : ow_kd G o0 = (3, 9)) (x1 : Int32) (x2 : Int32) (M : om_M) (Q : Int32 → om_M → Prop) (h : wp_M_brokenByPairs F o0 x1 x2 M Q) : Met l yn_M_brokenByPairs (ow_ws yn_M_brokenByPairs cb_M_brokenByPairs 6 (some .int)) rm_M_brokenByPairs (ow_Pc G D cA ad M [.ref (ad o0), .int x1, .int x2]) (ow_Qi G D cA ad Q) 0 0 (ow_A G ad) := by
  refine Met.ofW (cc := cb_M_brokenByPairs) (maxL := 6) (ret := (some .int)) (by decide) rfl ?_
  intro p e s m args below meth c s₁ B hml hv
  obtain ⟨rfl, hB⟩ := hv
  have hx := B.exec
  have hb := B.bytes
  have hr := B.returns
  have hlocks := B.notSynchronized
  have hts : ∀ w ∈ lw_g, w.before ([.ref (ad o0), .int x1, .int x2] : List Value).toArray s = true := fun w h => atoms_spec (ws := ow_ws yn_M_brokenByPairs cb_M_brokenByPairs 6 (some .int)) B.pre w (List.mem_cons_of_mem _ h)
  have hown : s.vm.findClass "BallotDeskModel" = some m.cls := findClass_of_methodNamed B.named
  clear B
  have L77 : ∀ (x3 : Int32) (K13 : om_M × Int32 → Prop) (hK13 : ∀ (M : om_M) (x4 : Int32) (H : Heap) (locs : List Loc) (ls : Array Slot), K13 (M, x4) → ow_B G D cA ad (ow_A G ad) M s s.heap H locs → lv_has ls 6 [(0, .ref (ad o0)), (2, .int x2), (3, .int x3), (4, .int x4)] → W p l e rm_M_brokenByPairs s m ([.ref (ad o0), .int x1, .int x2] : List Value).toArray below meth c H locs 0 0 (MQ below (ow_Qi G D cA ad Q) ([.ref (ad o0), .int x1, .int x2] : List Value).toArray s 0 0 (ow_A G ad)) (F0 m 13 ls [])) (M : om_M) (x4 : Int32) (t0 : Int32) (H : Heap) (locs : List Loc) (ls : Array Slot), wp_M_brokenByPairs_77 F o0 x1 x2 Q x3 K13 M x4 t0 → ow_B G D cA ad (ow_A G ad) M s s.heap H locs → lv_has ls 6 [(0, .ref (ad o0)), (2, .int x2), (3, .int x3), (4, .int x4)] → W p l e rm_M_brokenByPairs s m ([.ref (ad o0), .int x1, .int x2] : List Value).toArray below meth c H locs 0 0 (MQ below (ow_Qi G D cA ad Q) ([.ref (ad o0), .int x1, .int x2] : List Value).toArray s 0 0 (ow_A G ad)) (F0 m 77 ls [.int t0]) := by
    intro x3 K13 hK13 M x4 t0 H locs ls h hB hl
    refine lv_istore hx hb dc_M_brokenByPairs_77 hl (by decide) rfl (fun ls hl => ?_)
    refine lv_iload hx hb dc_M_brokenByPairs_79 (lv_at hl 0 rfl) ?_
    obtain ⟨h1, h2⟩ := h
    refine lv_if_eq hx hb dc_M_brokenByPairs_81 rfl (fun hc => ?_) (fun hc => ?_)
    · have h := h1 hc
      refine lv_iinc hx hb dc_M_brokenByPairs_87 hl (k := 4) rfl rfl (by decide) rfl (fun ls hl => ?_)
      refine lv_goto hx hb dc_M_brokenByPairs_90 rfl ?_
      exact hK13 _ _ _ _ _ h hB (lv_sub hl [2, 3, 4, 0] rfl)
    · have h := h2 hc
      refine lv_iload hx hb dc_M_brokenByPairs_84 (lv_at hl 4 rfl) ?_
      exact ow_iret hx hb hr hlocks hB h dc_M_brokenByPairs_86
  have L76 : ∀ (x3 : Int32) (K13 : om_M × Int32 → Prop) (hK13 : ∀ (M : om_M) (x4 : Int32) (H : Heap) (locs : List Loc) (ls : Array Slot), K13 (M, x4) → ow_B G D cA ad (ow_A G ad) M s s.heap H locs → lv_has ls 6 [(0, .ref (ad o0)), (2, .int x2), (3, .int x3), (4, .int x4)] → W p l e rm_M_brokenByPairs s m ([.ref (ad o0), .int x1, .int x2] : List Value).toArray below meth c H locs 0 0 (MQ below (ow_Qi G D cA ad Q) ([.ref (ad o0), .int x1, .int x2] : List Value).toArray s 0 0 (ow_A G ad)) (F0 m 13 ls [])) (M : om_M) (x4 : Int32)  (H : Heap) (locs : List Loc) (ls : Array Slot), wp_M_brokenByPairs_76 F o0 x1 x2 Q x3 K13 M x4  → ow_B G D cA ad (ow_A G ad) M s s.heap H locs → lv_has ls 6 [(0, .ref (ad o0)), (2, .int x2), (3, .int x3), (4, .int x4)] → W p l e rm_M_brokenByPairs s m ([.ref (ad o0), .int x1, .int x2] : List Value).toArray below meth c H locs 0 0 (MQ below (ow_Qi G D cA ad Q) ([.ref (ad o0), .int x1, .int x2] : List Value).toArray s 0 0 (ow_A G ad)) (F0 m 76 ls []) := by
    intro x3 K13 hK13 M x4 H locs ls h hB hl
    refine lv_iconst (v := 0) hx hb dc_M_brokenByPairs_76 rfl ?_
    exact L77 _ K13 hK13 _ _ _ _ _ _ h hB (lv_sub hl [0, 1, 2, 3] rfl)
  have L48 : ∀ (x3 : Int32) (K13 : om_M × Int32 → Prop) (hK13 : ∀ (M : om_M) (x4 : Int32) (H : Heap) (locs : List Loc) (ls : Array Slot), K13 (M, x4) → ow_B G D cA ad (ow_A G ad) M s s.heap H locs → lv_has ls 6 [(0, .ref (ad o0)), (2, .int x2), (3, .int x3), (4, .int x4)] → W p l e rm_M_brokenByPairs s m ([.ref (ad o0), .int x1, .int x2] : List Value).toArray below meth c H locs 0 0 (MQ below (ow_Qi G D cA ad Q) ([.ref (ad o0), .int x1, .int x2] : List Value).toArray s 0 0 (ow_A G ad)) (F0 m 13 ls [])) (M : om_M) (x4 : Int32)  (H : Heap) (locs : List Loc) (ls : Array Slot), wp_M_brokenByPairs_48 F o0 x1 x2 Q x3 K13 M x4  → ow_B G D cA ad (ow_A G ad) M s s.heap H locs → lv_has ls 6 [(0, .ref (ad o0)), (2, .int x2), (3, .int x3), (4, .int x4)] → W p l e rm_M_brokenByPairs s m ([.ref (ad o0), .int x1, .int x2] : List Value).toArray below meth c H locs 0 0 (MQ below (ow_Qi G D cA ad Q) ([.ref (ad o0), .int x1, .int x2] : List Value).toArray s 0 0 (ow_A G ad)) (F0 m 48 ls []) := by
    intro x3 K13 hK13 M x4 H locs ls h hB hl
    refine lv_iconst (v := 0) hx hb dc_M_brokenByPairs_48 rfl ?_
    refine lv_goto hx hb dc_M_brokenByPairs_49 rfl ?_
    exact L77 _ K13 hK13 _ _ _ _ _ _ h hB (lv_sub hl [0, 1, 2, 3] rfl)
  have B13 : ∀ (x3 : Int32)  (K13 : om_M × Int32 → Prop) (hK13 : ∀ (M : om_M) (x4 : Int32) (H : Heap) (locs : List Loc) (ls : Array Slot), K13 (M, x4) → ow_B G D cA ad (ow_A G ad) M s s.heap H locs → lv_has ls 6 [(0, .ref (ad o0)), (2, .int x2), (3, .int x3), (4, .int x4)] → W p l e rm_M_brokenByPairs s m ([.ref (ad o0), .int x1, .int x2] : List Value).toArray below meth c H locs 0 0 (MQ below (ow_Qi G D cA ad Q) ([.ref (ad o0), .int x1, .int x2] : List Value).toArray s 0 0 (ow_A G ad)) (F0 m 13 ls [])) (M : om_M) (x4 : Int32) (H : Heap) (locs : List Loc) (ls : Array Slot), wp_M_brokenByPairs_13b F o0 x1 x2 Q x3  K13 M x4 → ow_B G D cA ad (ow_A G ad) M s s.heap H locs → lv_has ls 6 [(0, .ref (ad o0)), (2, .int x2), (3, .int x3), (4, .int x4)] → W p l e rm_M_brokenByPairs s m ([.ref (ad o0), .int x1, .int x2] : List Value).toArray below meth c H locs 0 0 (MQ below (ow_Qi G D cA ad Q) ([.ref (ad o0), .int x1, .int x2] : List Value).toArray s 0 0 (ow_A G ad)) (F0 m 13 ls []) := by
    intro x3  K13 hK13 M x4 H locs ls h hB hl
    refine lv_iload hx hb dc_M_brokenByPairs_13 (lv_at hl 3 rfl) ?_
    refine lv_aload_n hx hb dc_M_brokenByPairs_15 rfl (lv_at hl 0 rfl) ?_
    refine ow_get hx hb hts iw_M hown hB k0 rfl 1 (by decide) mw_798 rfl dc_M_brokenByPairs_16 ?_
    obtain ⟨h1, h2⟩ := h
    refine lv_icmp_ge hx hb dc_M_brokenByPairs_19 rfl (fun hc => ?_) (fun hc => ?_)
    · have h := h1 hc
      refine lv_iconst (v := (-1)) hx hb dc_M_brokenByPairs_93 rfl ?_
      exact ow_iret hx hb hr hlocks hB h dc_M_brokenByPairs_94
    · have h := h2 hc
      refine lv_iload_n hx hb dc_M_brokenByPairs_22 rfl (lv_at hl 1 rfl) ?_
      obtain ⟨h1, h2⟩ := h
      refine lv_if_ne hx hb dc_M_brokenByPairs_23 rfl (fun hc => ?_) (fun hc => ?_)
      · have h := h2 hc
        refine lv_aload_n hx hb dc_M_brokenByPairs_52 rfl (lv_at hl 0 rfl) ?_
        refine lv_iload hx hb dc_M_brokenByPairs_53 (lv_at hl 3 rfl) ?_
        refine lv_iconst (v := 0) hx hb dc_M_brokenByPairs_55 rfl ?_
        refine ow_calli (va_runV (As := [.int x4, .int 0]) (rest := []) ⟨hx, hb, hml, hown, hts⟩ (ct_M_over2 l G hG D cA ad F _ k0 _ _ _ _ h) ⟨ow_cb 2 hts mw_1110 mw_12 mw_1107 rfl rfl hd_M_over2 ⟨Nat.le_of_ble_eq_true rfl, Nat.le_of_ble_eq_true rfl⟩, hts _ mw_1109, hts _ ms_54⟩ (ow_preV hB k0 rfl) rfl rfl hl.1 rfl (lv_room (Nat.le_of_ble_eq_true rfl)) dc_M_brokenByPairs_56 ⟨Nat.zero_le _, Nat.zero_le _⟩) hB (fun r2 M1 H locs h hB => ?_)
        obtain ⟨h1, h2⟩ := h
        refine lv_if_eq hx hb dc_M_brokenByPairs_59 rfl (fun hc => ?_) (fun hc => ?_)
        · have h := h1 hc
          exact L76 _ K13 hK13 _ _ _ _ _ h hB (lv_sub hl [0, 1, 2, 3] rfl)
        · have h := h2 hc
          refine lv_iload_n hx hb dc_M_brokenByPairs_62 rfl (lv_at hl 2 rfl) ?_
          refine lv_iload hx hb dc_M_brokenByPairs_63 (lv_at hl 3 rfl) ?_
          refine lv_ishr hx hb dc_M_brokenByPairs_65 ?_
          refine lv_iconst (v := 1) hx hb dc_M_brokenByPairs_66 rfl ?_
          refine lv_iand hx hb dc_M_brokenByPairs_67 ?_
          refine lv_iconst (v := 1) hx hb dc_M_brokenByPairs_68 rfl ?_
          obtain ⟨h1, h2⟩ := h
          refine lv_icmp_ne hx hb dc_M_brokenByPairs_69 rfl (fun hc => ?_) (fun hc => ?_)
          · have h := h2 hc
            exact L76 _ K13 hK13 _ _ _ _ _ h hB (lv_sub hl [0, 1, 2, 3] rfl)
          · have h := h1 hc
            refine lv_iconst (v := 1) hx hb dc_M_brokenByPairs_72 rfl ?_
            refine lv_goto hx hb dc_M_brokenByPairs_73 rfl ?_
            exact L77 _ K13 hK13 _ _ _ _ _ _ h hB (lv_sub hl [0, 1, 2, 3] rfl)
      · have h := h1 hc
        refine lv_aload_n hx hb dc_M_brokenByPairs_26 rfl (lv_at hl 0 rfl) ?_
        refine lv_iload hx hb dc_M_brokenByPairs_27 (lv_at hl 3 rfl) ?_
        refine lv_iconst (v := 1) hx hb dc_M_brokenByPairs_29 rfl ?_
        refine ow_calli (va_runV (As := [.int x4, .int 1]) (rest := []) ⟨hx, hb, hml, hown, hts⟩ (ct_M_over2 l G hG D cA ad F _ k0 _ _ _ _ h) ⟨ow_cb 2 hts mw_1110 mw_12 mw_1107 rfl rfl hd_M_over2 ⟨Nat.le_of_ble_eq_true rfl, Nat.le_of_ble_eq_true rfl⟩, hts _ mw_1109, hts _ ms_54⟩ (ow_preV hB k0 rfl) rfl rfl hl.1 rfl (lv_room (Nat.le_of_ble_eq_true rfl)) dc_M_brokenByPairs_30 ⟨Nat.zero_le _, Nat.zero_le _⟩) hB (fun r4 M3 H locs h hB => ?_)
        obtain ⟨h1, h2⟩ := h
        refine lv_if_eq hx hb dc_M_brokenByPairs_33 rfl (fun hc => ?_) (fun hc => ?_)
        · have h := h1 hc
          exact L48 _ K13 hK13 _ _ _ _ _ h hB (lv_sub hl [0, 1, 2, 3] rfl)
        · have h := h2 hc
          refine lv_iload_n hx hb dc_M_brokenByPairs_36 rfl (lv_at hl 2 rfl) ?_
          refine lv_iconst (v := 1) hx hb dc_M_brokenByPairs_37 rfl ?_
          refine lv_iload hx hb dc_M_brokenByPairs_38 (lv_at hl 3 rfl) ?_
          refine lv_ishl hx hb dc_M_brokenByPairs_40 ?_
          obtain ⟨h1, h2⟩ := h
          refine lv_icmp_eq hx hb dc_M_brokenByPairs_41 rfl (fun hc => ?_) (fun hc => ?_)
          · have h := h1 hc
            exact L48 _ K13 hK13 _ _ _ _ _ h hB (lv_sub hl [0, 1, 2, 3] rfl)
          · have h := h2 hc
            refine lv_iconst (v := 1) hx hb dc_M_brokenByPairs_44 rfl ?_
            refine lv_goto hx hb dc_M_brokenByPairs_45 rfl ?_
            exact L77 _ K13 hK13 _ _ _ _ _ _ h hB (lv_sub hl [0, 1, 2, 3] rfl)
  have L13 : ∀ (x3 : Int32)  (M : om_M) (x4 : Int32) (H : Heap) (locs : List Loc) (ls : Array Slot), wp_M_brokenByPairs_13 F o0 x1 x2 Q x3  M x4 → ow_B G D cA ad (ow_A G ad) M s s.heap H locs → lv_has ls 6 [(0, .ref (ad o0)), (2, .int x2), (3, .int x3), (4, .int x4)] → W p l e rm_M_brokenByPairs s m ([.ref (ad o0), .int x1, .int x2] : List Value).toArray below meth c H locs 0 0 (MQ below (ow_Qi G D cA ad Q) ([.ref (ad o0), .int x1, .int x2] : List Value).toArray s 0 0 (ow_A G ad)) (F0 m 13 ls []) := by
    intro x3 
    have step : ∀ (k : Nat) (M : om_M) (x4 : Int32) (H : Heap) (locs : List Loc) (ls : Array Slot), ow_lp (fun (z : om_M × Int32) K => wp_M_brokenByPairs_13b F o0 x1 x2 Q x3  K z.1 z.2) k (M, x4) → ow_B G D cA ad (ow_A G ad) M s s.heap H locs → lv_has ls 6 [(0, .ref (ad o0)), (2, .int x2), (3, .int x3), (4, .int x4)] → W p l e rm_M_brokenByPairs s m ([.ref (ad o0), .int x1, .int x2] : List Value).toArray below meth c H locs 0 0 (MQ below (ow_Qi G D cA ad Q) ([.ref (ad o0), .int x1, .int x2] : List Value).toArray s 0 0 (ow_A G ad)) (F0 m 13 ls []) := by
      intro k
      induction k with
      | zero => intro M x4 H locs ls h hB hl; exact False.elim h
      | succ k ih => intro M x4 H locs ls h hB hl; exact B13 x3  (ow_lp _ k) (fun M x4 H locs ls h hB  hl => ih M x4  H locs ls h hB hl) M x4 H locs ls h hB hl
    intro M x4 H locs ls h hB hl
    exact step F M x4 H locs ls h hB hl
  have hl := lv_entry ([.ref (ad o0), .int x1, .int x2]) (n := 6) (Nat.le_of_ble_eq_true rfl)
  rw [lg_entry_eq]
  generalize (lg_sl ([.ref (ad o0), .int x1, .int x2]) ++ List.replicate (6 - (lg_sl ([.ref (ad o0), .int x1, .int x2])).length) Slot.unset).toArray = ls at hl ⊢
  have hl : lv_has ls 6 [(0, .ref (ad o0)), (1, .int x1), (2, .int x2)] := hl
  show W p l e rm_M_brokenByPairs s m _ below meth c s.heap [] 0 0 _ _
  refine lv_aload_n hx hb dc_M_brokenByPairs_0 rfl (lv_at hl 0 rfl) ?_
  refine ow_callv (va_runV (As := []) (rest := []) ⟨hx, hb, hml, hown, hts⟩ (ct_M_load l G hG D cA ad F _ k0 _ _ h) ⟨ow_cb 0 hts mw_937 mw_12 mw_934 rfl rfl hd_M_load ⟨Nat.le_of_ble_eq_true rfl, Nat.le_of_ble_eq_true rfl⟩, hts _ mw_936, hts _ ms_23⟩ (ow_preV hB k0 rfl) rfl rfl hl.1 rfl (lv_room (Nat.le_of_ble_eq_true rfl)) dc_M_brokenByPairs_1 ⟨Nat.zero_le _, Nat.zero_le _⟩) hB (fun M5 H locs h hB => ?_)
  refine lv_aload_n hx hb dc_M_brokenByPairs_4 rfl (lv_at hl 0 rfl) ?_
  refine lv_iload_n hx hb dc_M_brokenByPairs_5 rfl (lv_at hl 1 rfl) ?_
  refine ow_calli (va_runV (As := [.int x1]) (rest := []) ⟨hx, hb, hml, hown, hts⟩ (ct_M_work l G hG D cA ad F _ k0 _ _ _ h) ⟨ow_cb 1 hts mw_941 mw_12 mw_938 rfl rfl hd_M_work ⟨Nat.le_of_ble_eq_true rfl, Nat.le_of_ble_eq_true rfl⟩, hts _ mw_940, hts _ ms_24⟩ (ow_preV hB k0 rfl) rfl rfl hl.1 rfl (lv_room (Nat.le_of_ble_eq_true rfl)) dc_M_brokenByPairs_6 ⟨Nat.zero_le _, Nat.zero_le _⟩) hB (fun r7 M6 H locs h hB => ?_)
  refine lv_istore_n hx hb dc_M_brokenByPairs_9 rfl hl (by decide) rfl (fun ls hl => ?_)
  refine lv_iconst (v := 0) hx hb dc_M_brokenByPairs_10 rfl ?_
  refine lv_istore hx hb dc_M_brokenByPairs_11 hl (by decide) rfl (fun ls hl => ?_)
  exact L13 _ _ _ _ _ _ h hB (lv_sub hl [2, 4, 1, 0] rfl)
abbrev rm_M_brokenByType : Room := { frames := 4, cells := 0, slots := 0, locals := 99 }
theorem hd_M_brokenByType : yn_M_brokenByType.cls ≠ "java/lang/invoke/MethodHandle" ∧ yn_M_brokenByType.cls ≠ "java/lang/invoke/VarHandle" ∧ (parseMethodDescriptor yn_M_brokenByType.desc).map (fun d => d.parameters.length) = some 2 := by decide +kernel
set_option maxHeartbeats 4000000 in
set_option maxRecDepth 100000 in
theorem ct_M_brokenByType (l : Launch) (G : List (Nat × Nat)) (hG : ow_lay G) (D : va_G) (cA : Nat → ClassId) (ad : Nat → Nat) (F : Nat) (o0 : Nat) (k0 : ow_kd G o0 = (3, 9)) (x1 : Int32) (x2 : Int32) (M : om_M) (Q : Int32 → om_M → Prop) (h : wp_M_brokenByType F o0 x1 x2 M Q) : Met l yn_M_brokenByType (ow_ws yn_M_brokenByType cb_M_brokenByType 6 (some .int)) rm_M_brokenByType (ow_Pc G D cA ad M [.ref (ad o0), .int x1, .int x2]) (ow_Qi G D cA ad Q) 0 0 (ow_A G ad) := by
  refine Met.ofW (cc := cb_M_brokenByType) (maxL := 6) (ret := (some .int)) (by decide) rfl ?_
  intro p e s m args below meth c s₁ B hml hv
  obtain ⟨rfl, hB⟩ := hv
  have hx := B.exec
  have hb := B.bytes
  have hr := B.returns
  have hlocks := B.notSynchronized
  have hts : ∀ w ∈ lw_g, w.before ([.ref (ad o0), .int x1, .int x2] : List Value).toArray s = true := fun w h => atoms_spec (ws := ow_ws yn_M_brokenByType cb_M_brokenByType 6 (some .int)) B.pre w (List.mem_cons_of_mem _ h)
  have hown : s.vm.findClass "BallotDeskModel" = some m.cls := findClass_of_methodNamed B.named
  clear B
  have L128 : ∀ (x3 : Int32) (K17 : om_M × Int32 → Prop) (hK17 : ∀ (M : om_M) (x4 : Int32) (H : Heap) (locs : List Loc) (ls : Array Slot), K17 (M, x4) → ow_B G D cA ad (ow_A G ad) M s s.heap H locs → lv_has ls 6 [(0, .ref (ad o0)), (1, .int x1), (2, .int x2), (3, .int x3), (4, .int x4)] → W p l e rm_M_brokenByType s m ([.ref (ad o0), .int x1, .int x2] : List Value).toArray below meth c H locs 0 0 (MQ below (ow_Qi G D cA ad Q) ([.ref (ad o0), .int x1, .int x2] : List Value).toArray s 0 0 (ow_A G ad)) (F0 m 17 ls [])) (M : om_M) (x4 : Int32) (t0 : Nat) (t1 : Int32) (t2 : Int32) (kt0 : ow_kd G t0 = (0, 22)) (H : Heap) (locs : List Loc) (ls : Array Slot), wp_M_brokenByType_128 F o0 x1 x2 Q x3 K17 M x4 t0 t1 t2 → ow_B G D cA ad (ow_A G ad) M s s.heap H locs → lv_has ls 6 [(0, .ref (ad o0)), (1, .int x1), (2, .int x2), (3, .int x3), (4, .int x4)] → W p l e rm_M_brokenByType s m ([.ref (ad o0), .int x1, .int x2] : List Value).toArray below meth c H locs 0 0 (MQ below (ow_Qi G D cA ad Q) ([.ref (ad o0), .int x1, .int x2] : List Value).toArray s 0 0 (ow_A G ad)) (F0 m 128 ls [.int t2, .int t1, .ref (ad t0)]) := by
    intro x3 K17 hK17 M x4 t0 t1 t2 kt0 H locs ls h hB hl
    obtain ⟨hi1, h⟩ := h
    refine ow_iast hx hb hB kt0 hi1 dc_M_brokenByType_128 (fun H locs hB => ?_)
    refine lv_aload_n hx hb dc_M_brokenByType_129 rfl (lv_at hl 0 rfl) ?_
    refine lv_aload_n hx hb dc_M_brokenByType_130 rfl (lv_at hl 0 rfl) ?_
    refine lv_iload_n hx hb dc_M_brokenByType_131 rfl (lv_at hl 1 rfl) ?_
    refine ow_calli (va_runV (As := [.int x1]) (rest := [.ref (ad o0)]) ⟨hx, hb, hml, hown, hts⟩ (ct_M_work l G hG D cA ad F _ k0 _ _ _ h) ⟨ow_cb 1 hts mw_941 mw_12 mw_938 rfl rfl hd_M_work ⟨Nat.le_of_ble_eq_true rfl, Nat.le_of_ble_eq_true rfl⟩, hts _ mw_940, hts _ ms_24⟩ (ow_preV hB k0 rfl) rfl rfl hl.1 rfl (lv_room (Nat.le_of_ble_eq_true rfl)) dc_M_brokenByType_132 ⟨Nat.zero_le _, Nat.zero_le _⟩) hB (fun r3 M2 H locs h hB => ?_)
    refine ow_calli (va_runV (As := [.int r3]) (rest := []) ⟨hx, hb, hml, hown, hts⟩ (ct_M_firstOf l G hG D cA ad F _ k0 _ _ _ h) ⟨ow_cb 1 hts mw_1037 mw_12 mw_1034 rfl rfl hd_M_firstOf ⟨Nat.le_of_ble_eq_true rfl, Nat.le_of_ble_eq_true rfl⟩, hts _ mw_1036, hts _ ms_46⟩ (ow_preV hB k0 rfl) rfl rfl hl.1 rfl (lv_room (Nat.le_of_ble_eq_true rfl)) dc_M_brokenByType_135 ⟨Nat.zero_le _, Nat.zero_le _⟩) hB (fun r5 M4 H locs h hB => ?_)
    refine lv_iload_n hx hb dc_M_brokenByType_138 rfl (lv_at hl 3 rfl) ?_
    obtain ⟨h1, h2⟩ := h
    refine lv_icmp_eq hx hb dc_M_brokenByType_139 rfl (fun hc => ?_) (fun hc => ?_)
    · have h := h1 hc
      refine lv_iinc hx hb dc_M_brokenByType_145 hl (k := 4) rfl rfl (by decide) rfl (fun ls hl => ?_)
      refine lv_goto hx hb dc_M_brokenByType_148 rfl ?_
      exact hK17 _ _ _ _ _ h hB (lv_sub hl [1, 2, 3, 4, 0] rfl)
    · have h := h2 hc
      refine lv_iload hx hb dc_M_brokenByType_142 (lv_at hl 4 rfl) ?_
      exact ow_iret hx hb hr hlocks hB h dc_M_brokenByType_144
  have L121 : ∀ (x3 : Int32) (K17 : om_M × Int32 → Prop) (hK17 : ∀ (M : om_M) (x4 : Int32) (H : Heap) (locs : List Loc) (ls : Array Slot), K17 (M, x4) → ow_B G D cA ad (ow_A G ad) M s s.heap H locs → lv_has ls 6 [(0, .ref (ad o0)), (1, .int x1), (2, .int x2), (3, .int x3), (4, .int x4)] → W p l e rm_M_brokenByType s m ([.ref (ad o0), .int x1, .int x2] : List Value).toArray below meth c H locs 0 0 (MQ below (ow_Qi G D cA ad Q) ([.ref (ad o0), .int x1, .int x2] : List Value).toArray s 0 0 (ow_A G ad)) (F0 m 17 ls [])) (M : om_M) (x4 : Int32) (t0 : Nat) (t1 : Int32) (kt0 : ow_kd G t0 = (0, 22)) (H : Heap) (locs : List Loc) (ls : Array Slot), wp_M_brokenByType_121 F o0 x1 x2 Q x3 K17 M x4 t0 t1 → ow_B G D cA ad (ow_A G ad) M s s.heap H locs → lv_has ls 6 [(0, .ref (ad o0)), (1, .int x1), (2, .int x2), (3, .int x3), (4, .int x4)] → W p l e rm_M_brokenByType s m ([.ref (ad o0), .int x1, .int x2] : List Value).toArray below meth c H locs 0 0 (MQ below (ow_Qi G D cA ad Q) ([.ref (ad o0), .int x1, .int x2] : List Value).toArray s 0 0 (ow_A G ad)) (F0 m 121 ls [.int t1, .ref (ad t0)]) := by
    intro x3 K17 hK17 M x4 t0 t1 kt0 H locs ls h hB hl
    refine lv_aload_n hx hb dc_M_brokenByType_121 rfl (lv_at hl 0 rfl) ?_
    refine ow_get hx hb hts iw_M hown hB k0 rfl 11 (by decide) mw_808 rfl dc_M_brokenByType_122 ?_
    refine lv_iload hx hb dc_M_brokenByType_125 (lv_at hl 4 rfl) ?_
    obtain ⟨hi6, h⟩ := h
    refine ow_iald hx hb hB (ly_M_voters hG k0) hi6 dc_M_brokenByType_127 ?_
    exact L128 _ K17 hK17 _ _ _ _ _ kt0 _ _ _ h hB (lv_sub hl [0, 1, 2, 3, 4] rfl)
  have L93 : ∀ (x3 : Int32) (K17 : om_M × Int32 → Prop) (hK17 : ∀ (M : om_M) (x4 : Int32) (H : Heap) (locs : List Loc) (ls : Array Slot), K17 (M, x4) → ow_B G D cA ad (ow_A G ad) M s s.heap H locs → lv_has ls 6 [(0, .ref (ad o0)), (1, .int x1), (2, .int x2), (3, .int x3), (4, .int x4)] → W p l e rm_M_brokenByType s m ([.ref (ad o0), .int x1, .int x2] : List Value).toArray below meth c H locs 0 0 (MQ below (ow_Qi G D cA ad Q) ([.ref (ad o0), .int x1, .int x2] : List Value).toArray s 0 0 (ow_A G ad)) (F0 m 17 ls [])) (M : om_M) (x4 : Int32) (x5 : Int32)  (H : Heap) (locs : List Loc) (ls : Array Slot), wp_M_brokenByType_93 F o0 x1 x2 Q x3 K17 M x4 x5  → ow_B G D cA ad (ow_A G ad) M s s.heap H locs → lv_has ls 6 [(0, .ref (ad o0)), (1, .int x1), (2, .int x2), (3, .int x3), (4, .int x4), (5, .int x5)] → W p l e rm_M_brokenByType s m ([.ref (ad o0), .int x1, .int x2] : List Value).toArray below meth c H locs 0 0 (MQ below (ow_Qi G D cA ad Q) ([.ref (ad o0), .int x1, .int x2] : List Value).toArray s 0 0 (ow_A G ad)) (F0 m 93 ls []) := by
    intro x3 K17 hK17 M x4 x5 H locs ls h hB hl
    refine lv_aload_n hx hb dc_M_brokenByType_93 rfl (lv_at hl 0 rfl) ?_
    refine ow_get hx hb hts iw_M hown hB k0 rfl 11 (by decide) mw_808 rfl dc_M_brokenByType_94 ?_
    refine lv_iload hx hb dc_M_brokenByType_97 (lv_at hl 4 rfl) ?_
    refine lv_iload_n hx hb dc_M_brokenByType_99 rfl (lv_at hl 2 rfl) ?_
    refine lv_iconst (v := 3) hx hb dc_M_brokenByType_100 rfl ?_
    obtain ⟨h1, h2⟩ := h
    refine lv_icmp_ne hx hb dc_M_brokenByType_101 rfl (fun hc => ?_) (fun hc => ?_)
    · have h := h2 hc
      exact L121 _ K17 hK17 _ _ _ _ (ly_M_voters hG k0) _ _ _ h hB (lv_sub hl [0, 1, 2, 3, 4] rfl)
    · have h := h1 hc
      refine lv_iload hx hb dc_M_brokenByType_104 (lv_at hl 5 rfl) ?_
      obtain ⟨h1, h2⟩ := h
      refine lv_if_ne hx hb dc_M_brokenByType_106 rfl (fun hc => ?_) (fun hc => ?_)
      · have h := h2 hc
        exact L121 _ K17 hK17 _ _ _ _ (ly_M_voters hG k0) _ _ _ h hB (lv_sub hl [0, 1, 2, 3, 4] rfl)
      · have h := h1 hc
        refine lv_aload_n hx hb dc_M_brokenByType_109 rfl (lv_at hl 0 rfl) ?_
        refine ow_get hx hb hts iw_M hown hB k0 rfl 11 (by decide) mw_808 rfl dc_M_brokenByType_110 ?_
        refine lv_iload hx hb dc_M_brokenByType_113 (lv_at hl 4 rfl) ?_
        obtain ⟨hi7, h⟩ := h
        refine ow_iald hx hb hB (ly_M_voters hG k0) hi7 dc_M_brokenByType_115 ?_
        refine lv_iconst (v := 1) hx hb dc_M_brokenByType_116 rfl ?_
        refine lv_iadd hx hb dc_M_brokenByType_117 ?_
        refine lv_goto hx hb dc_M_brokenByType_118 rfl ?_
        exact L128 _ K17 hK17 _ _ _ _ _ (ly_M_voters hG k0) _ _ _ h hB (lv_sub hl [0, 1, 2, 3, 4] rfl)
  have B17 : ∀ (x3 : Int32)  (K17 : om_M × Int32 → Prop) (hK17 : ∀ (M : om_M) (x4 : Int32) (H : Heap) (locs : List Loc) (ls : Array Slot), K17 (M, x4) → ow_B G D cA ad (ow_A G ad) M s s.heap H locs → lv_has ls 6 [(0, .ref (ad o0)), (1, .int x1), (2, .int x2), (3, .int x3), (4, .int x4)] → W p l e rm_M_brokenByType s m ([.ref (ad o0), .int x1, .int x2] : List Value).toArray below meth c H locs 0 0 (MQ below (ow_Qi G D cA ad Q) ([.ref (ad o0), .int x1, .int x2] : List Value).toArray s 0 0 (ow_A G ad)) (F0 m 17 ls [])) (M : om_M) (x4 : Int32) (H : Heap) (locs : List Loc) (ls : Array Slot), wp_M_brokenByType_17b F o0 x1 x2 Q x3  K17 M x4 → ow_B G D cA ad (ow_A G ad) M s s.heap H locs → lv_has ls 6 [(0, .ref (ad o0)), (1, .int x1), (2, .int x2), (3, .int x3), (4, .int x4)] → W p l e rm_M_brokenByType s m ([.ref (ad o0), .int x1, .int x2] : List Value).toArray below meth c H locs 0 0 (MQ below (ow_Qi G D cA ad Q) ([.ref (ad o0), .int x1, .int x2] : List Value).toArray s 0 0 (ow_A G ad)) (F0 m 17 ls []) := by
    intro x3  K17 hK17 M x4 H locs ls h hB hl
    refine lv_iload hx hb dc_M_brokenByType_17 (lv_at hl 4 rfl) ?_
    refine lv_aload_n hx hb dc_M_brokenByType_19 rfl (lv_at hl 0 rfl) ?_
    refine ow_get hx hb hts iw_M hown hB k0 rfl 2 (by decide) mw_799 rfl dc_M_brokenByType_20 ?_
    obtain ⟨h1, h2⟩ := h
    refine lv_icmp_ge hx hb dc_M_brokenByType_23 rfl (fun hc => ?_) (fun hc => ?_)
    · have h := h1 hc
      refine lv_iconst (v := (-1)) hx hb dc_M_brokenByType_151 rfl ?_
      exact ow_iret hx hb hr hlocks hB h dc_M_brokenByType_152
    · have h := h2 hc
      refine lv_aload_n hx hb dc_M_brokenByType_26 rfl (lv_at hl 0 rfl) ?_
      refine ow_callv (va_runV (As := []) (rest := []) ⟨hx, hb, hml, hown, hts⟩ (ct_M_load l G hG D cA ad F _ k0 _ _ h) ⟨ow_cb 0 hts mw_937 mw_12 mw_934 rfl rfl hd_M_load ⟨Nat.le_of_ble_eq_true rfl, Nat.le_of_ble_eq_true rfl⟩, hts _ mw_936, hts _ ms_23⟩ (ow_preV hB k0 rfl) rfl rfl hl.1 rfl (lv_room (Nat.le_of_ble_eq_true rfl)) dc_M_brokenByType_27 ⟨Nat.zero_le _, Nat.zero_le _⟩) hB (fun M8 H locs h hB => ?_)
      refine lv_aload_n hx hb dc_M_brokenByType_30 rfl (lv_at hl 0 rfl) ?_
      refine lv_iload hx hb dc_M_brokenByType_31 (lv_at hl 4 rfl) ?_
      refine lv_iload_n hx hb dc_M_brokenByType_33 rfl (lv_at hl 3 rfl) ?_
      refine ow_calli (va_runV (As := [.int x4, .int x3]) (rest := []) ⟨hx, hb, hml, hown, hts⟩ (ct_M_placeOf l G hG D cA ad F _ k0 _ _ _ _ h) ⟨ow_cb 2 hts mw_965 mw_12 mw_962 rfl rfl hd_M_placeOf ⟨Nat.le_of_ble_eq_true rfl, Nat.le_of_ble_eq_true rfl⟩, hts _ mw_964, hts _ ms_30⟩ (ow_preV hB k0 rfl) rfl rfl hl.1 rfl (lv_room (Nat.le_of_ble_eq_true rfl)) dc_M_brokenByType_34 ⟨Nat.zero_le _, Nat.zero_le _⟩) hB (fun r10 M9 H locs h hB => ?_)
      refine lv_istore hx hb dc_M_brokenByType_37 hl (by decide) rfl (fun ls hl => ?_)
      refine lv_iload_n hx hb dc_M_brokenByType_39 rfl (lv_at hl 3 rfl) ?_
      refine lv_iconst (v := 2) hx hb dc_M_brokenByType_40 rfl ?_
      obtain ⟨h1, h2⟩ := h
      refine lv_icmp_ne hx hb dc_M_brokenByType_41 rfl (fun hc => ?_) (fun hc => ?_)
      · have h := h2 hc
        exact L93 _ K17 hK17 _ _ _ _ _ _ h hB (lv_sub hl [1, 2, 3, 4, 5, 0] rfl)
      · have h := h1 hc
        refine lv_iload hx hb dc_M_brokenByType_44 (lv_at hl 0 rfl) ?_
        obtain ⟨h1, h2⟩ := h
        refine lv_if_le hx hb dc_M_brokenByType_46 rfl (fun hc => ?_) (fun hc => ?_)
        · have h := h1 hc
          exact L93 _ K17 hK17 _ _ _ _ _ _ h hB (lv_sub hl [1, 2, 3, 4, 5, 0] rfl)
        · have h := h2 hc
          refine lv_aload_n hx hb dc_M_brokenByType_49 rfl (lv_at hl 1 rfl) ?_
          refine ow_get hx hb hts iw_M hown hB k0 rfl 10 (by decide) mw_807 rfl dc_M_brokenByType_50 ?_
          refine lv_bipush (v := 7) hx hb dc_M_brokenByType_53 rfl ?_
          refine lv_iload hx hb dc_M_brokenByType_55 (lv_at hl 5 rfl) ?_
          refine lv_imul hx hb dc_M_brokenByType_57 ?_
          refine lv_iload hx hb dc_M_brokenByType_58 (lv_at hl 0 rfl) ?_
          refine lv_iadd hx hb dc_M_brokenByType_60 ?_
          refine lv_aload_n hx hb dc_M_brokenByType_61 rfl (lv_at hl 1 rfl) ?_
          refine ow_get hx hb hts iw_M hown hB k0 rfl 10 (by decide) mw_807 rfl dc_M_brokenByType_62 ?_
          refine lv_bipush (v := 7) hx hb dc_M_brokenByType_65 rfl ?_
          refine lv_iload hx hb dc_M_brokenByType_67 (lv_at hl 5 rfl) ?_
          refine lv_imul hx hb dc_M_brokenByType_69 ?_
          refine lv_iload hx hb dc_M_brokenByType_70 (lv_at hl 0 rfl) ?_
          refine lv_iadd hx hb dc_M_brokenByType_72 ?_
          refine lv_iconst (v := 1) hx hb dc_M_brokenByType_73 rfl ?_
          refine lv_isub hx hb dc_M_brokenByType_74 ?_
          obtain ⟨hi11, h⟩ := h
          refine ow_iald hx hb hB (ly_M_places hG k0) hi11 dc_M_brokenByType_75 ?_
          obtain ⟨hi12, h⟩ := h
          refine ow_iast hx hb hB (ly_M_places hG k0) hi12 dc_M_brokenByType_76 (fun H locs hB => ?_)
          refine lv_aload_n hx hb dc_M_brokenByType_77 rfl (lv_at hl 1 rfl) ?_
          refine ow_get hx hb hts iw_M hown hB k0 rfl 10 (by decide) mw_807 rfl dc_M_brokenByType_78 ?_
          refine lv_bipush (v := 7) hx hb dc_M_brokenByType_81 rfl ?_
          refine lv_iload hx hb dc_M_brokenByType_83 (lv_at hl 5 rfl) ?_
          refine lv_imul hx hb dc_M_brokenByType_85 ?_
          refine lv_iload hx hb dc_M_brokenByType_86 (lv_at hl 0 rfl) ?_
          refine lv_iadd hx hb dc_M_brokenByType_88 ?_
          refine lv_iconst (v := 1) hx hb dc_M_brokenByType_89 rfl ?_
          refine lv_isub hx hb dc_M_brokenByType_90 ?_
          refine lv_iload_n hx hb dc_M_brokenByType_91 rfl (lv_at hl 4 rfl) ?_
          refine ow_iast hx hb hB (ly_M_places hG k0) hi11 dc_M_brokenByType_92 (fun H locs hB => ?_)
          exact L93 _ K17 hK17 _ _ _ _ _ _ h hB (lv_sub hl [1, 2, 3, 4, 5, 0] rfl)
  have L17 : ∀ (x3 : Int32)  (M : om_M) (x4 : Int32) (H : Heap) (locs : List Loc) (ls : Array Slot), wp_M_brokenByType_17 F o0 x1 x2 Q x3  M x4 → ow_B G D cA ad (ow_A G ad) M s s.heap H locs → lv_has ls 6 [(0, .ref (ad o0)), (1, .int x1), (2, .int x2), (3, .int x3), (4, .int x4)] → W p l e rm_M_brokenByType s m ([.ref (ad o0), .int x1, .int x2] : List Value).toArray below meth c H locs 0 0 (MQ below (ow_Qi G D cA ad Q) ([.ref (ad o0), .int x1, .int x2] : List Value).toArray s 0 0 (ow_A G ad)) (F0 m 17 ls []) := by
    intro x3 
    have step : ∀ (k : Nat) (M : om_M) (x4 : Int32) (H : Heap) (locs : List Loc) (ls : Array Slot), ow_lp (fun (z : om_M × Int32) K => wp_M_brokenByType_17b F o0 x1 x2 Q x3  K z.1 z.2) k (M, x4) → ow_B G D cA ad (ow_A G ad) M s s.heap H locs → lv_has ls 6 [(0, .ref (ad o0)), (1, .int x1), (2, .int x2), (3, .int x3), (4, .int x4)] → W p l e rm_M_brokenByType s m ([.ref (ad o0), .int x1, .int x2] : List Value).toArray below meth c H locs 0 0 (MQ below (ow_Qi G D cA ad Q) ([.ref (ad o0), .int x1, .int x2] : List Value).toArray s 0 0 (ow_A G ad)) (F0 m 17 ls []) := by
      intro k
      induction k with
      | zero => intro M x4 H locs ls h hB hl; exact False.elim h
      | succ k ih => intro M x4 H locs ls h hB hl; exact B17 x3  (ow_lp _ k) (fun M x4 H locs ls h hB  hl => ih M x4  H locs ls h hB hl) M x4 H locs ls h hB hl
    intro M x4 H locs ls h hB hl
    exact step F M x4 H locs ls h hB hl
  have hl := lv_entry ([.ref (ad o0), .int x1, .int x2]) (n := 6) (Nat.le_of_ble_eq_true rfl)
  rw [lg_entry_eq]
  generalize (lg_sl ([.ref (ad o0), .int x1, .int x2]) ++ List.replicate (6 - (lg_sl ([.ref (ad o0), .int x1, .int x2])).length) Slot.unset).toArray = ls at hl ⊢
  have hl : lv_has ls 6 [(0, .ref (ad o0)), (1, .int x1), (2, .int x2)] := hl
  show W p l e rm_M_brokenByType s m _ below meth c s.heap [] 0 0 _ _
  refine lv_aload_n hx hb dc_M_brokenByType_0 rfl (lv_at hl 0 rfl) ?_
  refine ow_callv (va_runV (As := []) (rest := []) ⟨hx, hb, hml, hown, hts⟩ (ct_M_load l G hG D cA ad F _ k0 _ _ h) ⟨ow_cb 0 hts mw_937 mw_12 mw_934 rfl rfl hd_M_load ⟨Nat.le_of_ble_eq_true rfl, Nat.le_of_ble_eq_true rfl⟩, hts _ mw_936, hts _ ms_23⟩ (ow_preV hB k0 rfl) rfl rfl hl.1 rfl (lv_room (Nat.le_of_ble_eq_true rfl)) dc_M_brokenByType_1 ⟨Nat.zero_le _, Nat.zero_le _⟩) hB (fun M13 H locs h hB => ?_)
  refine lv_aload_n hx hb dc_M_brokenByType_4 rfl (lv_at hl 0 rfl) ?_
  refine lv_aload_n hx hb dc_M_brokenByType_5 rfl (lv_at hl 0 rfl) ?_
  refine lv_iload_n hx hb dc_M_brokenByType_6 rfl (lv_at hl 1 rfl) ?_
  refine ow_calli (va_runV (As := [.int x1]) (rest := [.ref (ad o0)]) ⟨hx, hb, hml, hown, hts⟩ (ct_M_work l G hG D cA ad F _ k0 _ _ _ h) ⟨ow_cb 1 hts mw_941 mw_12 mw_938 rfl rfl hd_M_work ⟨Nat.le_of_ble_eq_true rfl, Nat.le_of_ble_eq_true rfl⟩, hts _ mw_940, hts _ ms_24⟩ (ow_preV hB k0 rfl) rfl rfl hl.1 rfl (lv_room (Nat.le_of_ble_eq_true rfl)) dc_M_brokenByType_7 ⟨Nat.zero_le _, Nat.zero_le _⟩) hB (fun r15 M14 H locs h hB => ?_)
  refine ow_calli (va_runV (As := [.int r15]) (rest := []) ⟨hx, hb, hml, hown, hts⟩ (ct_M_firstOf l G hG D cA ad F _ k0 _ _ _ h) ⟨ow_cb 1 hts mw_1037 mw_12 mw_1034 rfl rfl hd_M_firstOf ⟨Nat.le_of_ble_eq_true rfl, Nat.le_of_ble_eq_true rfl⟩, hts _ mw_1036, hts _ ms_46⟩ (ow_preV hB k0 rfl) rfl rfl hl.1 rfl (lv_room (Nat.le_of_ble_eq_true rfl)) dc_M_brokenByType_10 ⟨Nat.zero_le _, Nat.zero_le _⟩) hB (fun r17 M16 H locs h hB => ?_)
  refine lv_istore_n hx hb dc_M_brokenByType_13 rfl hl (by decide) rfl (fun ls hl => ?_)
  refine lv_iconst (v := 0) hx hb dc_M_brokenByType_14 rfl ?_
  refine lv_istore hx hb dc_M_brokenByType_15 hl (by decide) rfl (fun ls hl => ?_)
  exact L17 _ _ _ _ _ _ h hB (lv_sub hl [2, 3, 4, 1, 0] rfl)
abbrev rm_M_brokenByLeaving : Room := { frames := 4, cells := 0, slots := 0, locals := 99 }
theorem hd_M_brokenByLeaving : yn_M_brokenByLeaving.cls ≠ "java/lang/invoke/MethodHandle" ∧ yn_M_brokenByLeaving.cls ≠ "java/lang/invoke/VarHandle" ∧ (parseMethodDescriptor yn_M_brokenByLeaving.desc).map (fun d => d.parameters.length) = some 1 := by decide +kernel
set_option maxHeartbeats 4000000 in
set_option maxRecDepth 100000 in
theorem ct_M_brokenByLeaving (l : Launch) (G : List (Nat × Nat)) (hG : ow_lay G) (D : va_G) (cA : Nat → ClassId) (ad : Nat → Nat) (F : Nat) (o0 : Nat) (k0 : ow_kd G o0 = (3, 9)) (x1 : Int32) (M : om_M) (Q : Int32 → om_M → Prop) (h : wp_M_brokenByLeaving F o0 x1 M Q) : Met l yn_M_brokenByLeaving (ow_ws yn_M_brokenByLeaving cb_M_brokenByLeaving 5 (some .int)) rm_M_brokenByLeaving (ow_Pc G D cA ad M [.ref (ad o0), .int x1]) (ow_Qi G D cA ad Q) 0 0 (ow_A G ad) := by
  refine Met.ofW (cc := cb_M_brokenByLeaving) (maxL := 5) (ret := (some .int)) (by decide) rfl ?_
  intro p e s m args below meth c s₁ B hml hv
  obtain ⟨rfl, hB⟩ := hv
  have hx := B.exec
  have hb := B.bytes
  have hr := B.returns
  have hlocks := B.notSynchronized
  have hts : ∀ w ∈ lw_g, w.before ([.ref (ad o0), .int x1] : List Value).toArray s = true := fun w h => atoms_spec (ws := ow_ws yn_M_brokenByLeaving cb_M_brokenByLeaving 5 (some .int)) B.pre w (List.mem_cons_of_mem _ h)
  have hown : s.vm.findClass "BallotDeskModel" = some m.cls := findClass_of_methodNamed B.named
  clear B
  have L83 : ∀ (x2 : Int32) (x3 : Int32) (K19 : om_M × Int32 → Prop) (hK19 : ∀ (M : om_M) (x4 : Int32) (H : Heap) (locs : List Loc) (ls : Array Slot), K19 (M, x4) → ow_B G D cA ad (ow_A G ad) M s s.heap H locs → lv_has ls 5 [(0, .ref (ad o0)), (1, .int x1), (2, .int x2), (3, .int x3), (4, .int x4)] → W p l e rm_M_brokenByLeaving s m ([.ref (ad o0), .int x1] : List Value).toArray below meth c H locs 0 0 (MQ below (ow_Qi G D cA ad Q) ([.ref (ad o0), .int x1] : List Value).toArray s 0 0 (ow_A G ad)) (F0 m 19 ls [])) (M : om_M) (x4 : Int32)  (H : Heap) (locs : List Loc) (ls : Array Slot), wp_M_brokenByLeaving_83 F o0 x1 Q x2 x3 K19 M x4  → ow_B G D cA ad (ow_A G ad) M s s.heap H locs → lv_has ls 5 [(0, .ref (ad o0)), (1, .int x1), (2, .int x2), (3, .int x3), (4, .int x4)] → W p l e rm_M_brokenByLeaving s m ([.ref (ad o0), .int x1] : List Value).toArray below meth c H locs 0 0 (MQ below (ow_Qi G D cA ad Q) ([.ref (ad o0), .int x1] : List Value).toArray s 0 0 (ow_A G ad)) (F0 m 83 ls []) := by
    intro x2 x3 K19 hK19 M x4 H locs ls h hB hl
    refine lv_iinc hx hb dc_M_brokenByLeaving_83 hl (k := 4) rfl rfl (by decide) rfl (fun ls hl => ?_)
    refine lv_goto hx hb dc_M_brokenByLeaving_86 rfl ?_
    exact hK19 _ _ _ _ _ h hB (lv_sub hl [1, 2, 3, 4, 0] rfl)
  have L77 : ∀ (x2 : Int32) (x3 : Int32) (K19 : om_M × Int32 → Prop) (hK19 : ∀ (M : om_M) (x4 : Int32) (H : Heap) (locs : List Loc) (ls : Array Slot), K19 (M, x4) → ow_B G D cA ad (ow_A G ad) M s s.heap H locs → lv_has ls 5 [(0, .ref (ad o0)), (1, .int x1), (2, .int x2), (3, .int x3), (4, .int x4)] → W p l e rm_M_brokenByLeaving s m ([.ref (ad o0), .int x1] : List Value).toArray below meth c H locs 0 0 (MQ below (ow_Qi G D cA ad Q) ([.ref (ad o0), .int x1] : List Value).toArray s 0 0 (ow_A G ad)) (F0 m 19 ls [])) (M : om_M) (x4 : Int32) (t0 : Int32) (t1 : Int32) (H : Heap) (locs : List Loc) (ls : Array Slot), wp_M_brokenByLeaving_77 F o0 x1 Q x2 x3 K19 M x4 t0 t1 → ow_B G D cA ad (ow_A G ad) M s s.heap H locs → lv_has ls 5 [(0, .ref (ad o0)), (1, .int x1), (2, .int x2), (3, .int x3), (4, .int x4)] → W p l e rm_M_brokenByLeaving s m ([.ref (ad o0), .int x1] : List Value).toArray below meth c H locs 0 0 (MQ below (ow_Qi G D cA ad Q) ([.ref (ad o0), .int x1] : List Value).toArray s 0 0 (ow_A G ad)) (F0 m 77 ls [.int t1, .int t0]) := by
    intro x2 x3 K19 hK19 M x4 t0 t1 H locs ls h hB hl
    obtain ⟨h1, h2⟩ := h
    refine lv_icmp_eq hx hb dc_M_brokenByLeaving_77 rfl (fun hc => ?_) (fun hc => ?_)
    · have h := h1 hc
      exact L83 _ _ K19 hK19 _ _ _ _ _ h hB (lv_sub hl [0, 1, 2, 3, 4] rfl)
    · have h := h2 hc
      refine lv_iload hx hb dc_M_brokenByLeaving_80 (lv_at hl 4 rfl) ?_
      exact ow_iret hx hb hr hlocks hB h dc_M_brokenByLeaving_82
  have B19 : ∀ (x2 : Int32) (x3 : Int32)  (K19 : om_M × Int32 → Prop) (hK19 : ∀ (M : om_M) (x4 : Int32) (H : Heap) (locs : List Loc) (ls : Array Slot), K19 (M, x4) → ow_B G D cA ad (ow_A G ad) M s s.heap H locs → lv_has ls 5 [(0, .ref (ad o0)), (1, .int x1), (2, .int x2), (3, .int x3), (4, .int x4)] → W p l e rm_M_brokenByLeaving s m ([.ref (ad o0), .int x1] : List Value).toArray below meth c H locs 0 0 (MQ below (ow_Qi G D cA ad Q) ([.ref (ad o0), .int x1] : List Value).toArray s 0 0 (ow_A G ad)) (F0 m 19 ls [])) (M : om_M) (x4 : Int32) (H : Heap) (locs : List Loc) (ls : Array Slot), wp_M_brokenByLeaving_19b F o0 x1 Q x2 x3  K19 M x4 → ow_B G D cA ad (ow_A G ad) M s s.heap H locs → lv_has ls 5 [(0, .ref (ad o0)), (1, .int x1), (2, .int x2), (3, .int x3), (4, .int x4)] → W p l e rm_M_brokenByLeaving s m ([.ref (ad o0), .int x1] : List Value).toArray below meth c H locs 0 0 (MQ below (ow_Qi G D cA ad Q) ([.ref (ad o0), .int x1] : List Value).toArray s 0 0 (ow_A G ad)) (F0 m 19 ls []) := by
    intro x2 x3  K19 hK19 M x4 H locs ls h hB hl
    refine lv_iload hx hb dc_M_brokenByLeaving_19 (lv_at hl 4 rfl) ?_
    refine lv_aload_n hx hb dc_M_brokenByLeaving_21 rfl (lv_at hl 0 rfl) ?_
    refine ow_get hx hb hts iw_M hown hB k0 rfl 1 (by decide) mw_798 rfl dc_M_brokenByLeaving_22 ?_
    obtain ⟨h1, h2⟩ := h
    refine lv_icmp_ge hx hb dc_M_brokenByLeaving_25 rfl (fun hc => ?_) (fun hc => ?_)
    · have h := h1 hc
      refine lv_iconst (v := (-1)) hx hb dc_M_brokenByLeaving_89 rfl ?_
      exact ow_iret hx hb hr hlocks hB h dc_M_brokenByLeaving_90
    · have h := h2 hc
      refine lv_aload_n hx hb dc_M_brokenByLeaving_28 rfl (lv_at hl 0 rfl) ?_
      refine ow_get hx hb hts iw_M hown hB k0 rfl 1 (by decide) mw_798 rfl dc_M_brokenByLeaving_29 ?_
      refine lv_iconst (v := 2) hx hb dc_M_brokenByLeaving_32 rfl ?_
      obtain ⟨h1, h2⟩ := h
      refine lv_icmp_le hx hb dc_M_brokenByLeaving_33 rfl (fun hc => ?_) (fun hc => ?_)
      · have h := h1 hc
        refine lv_iconst (v := (-1)) hx hb dc_M_brokenByLeaving_89 rfl ?_
        exact ow_iret hx hb hr hlocks hB h dc_M_brokenByLeaving_90
      · have h := h2 hc
        refine lv_iload_n hx hb dc_M_brokenByLeaving_36 rfl (lv_at hl 2 rfl) ?_
        refine lv_iload hx hb dc_M_brokenByLeaving_37 (lv_at hl 4 rfl) ?_
        refine lv_ishr hx hb dc_M_brokenByLeaving_39 ?_
        refine lv_iconst (v := 1) hx hb dc_M_brokenByLeaving_40 rfl ?_
        refine lv_iand hx hb dc_M_brokenByLeaving_41 ?_
        obtain ⟨h1, h2⟩ := h
        refine lv_if_ne hx hb dc_M_brokenByLeaving_42 rfl (fun hc => ?_) (fun hc => ?_)
        · have h := h2 hc
          exact L83 _ _ K19 hK19 _ _ _ _ _ h hB (lv_sub hl [0, 1, 2, 3, 4] rfl)
        · have h := h1 hc
          refine lv_aload_n hx hb dc_M_brokenByLeaving_45 rfl (lv_at hl 0 rfl) ?_
          refine ow_callv (va_runV (As := []) (rest := []) ⟨hx, hb, hml, hown, hts⟩ (ct_M_load l G hG D cA ad F _ k0 _ _ h) ⟨ow_cb 0 hts mw_937 mw_12 mw_934 rfl rfl hd_M_load ⟨Nat.le_of_ble_eq_true rfl, Nat.le_of_ble_eq_true rfl⟩, hts _ mw_936, hts _ ms_23⟩ (ow_preV hB k0 rfl) rfl rfl hl.1 rfl (lv_room (Nat.le_of_ble_eq_true rfl)) dc_M_brokenByLeaving_46 ⟨Nat.zero_le _, Nat.zero_le _⟩) hB (fun M1 H locs h hB => ?_)
          refine lv_aload_n hx hb dc_M_brokenByLeaving_49 rfl (lv_at hl 0 rfl) ?_
          refine lv_iload hx hb dc_M_brokenByLeaving_50 (lv_at hl 4 rfl) ?_
          refine ow_callv (va_runV (As := [.int x4]) (rest := []) ⟨hx, hb, hml, hown, hts⟩ (ct_M_leaveOut l G hG D cA ad F _ k0 _ _ _ h) ⟨ow_cb 1 hts mw_1122 mw_12 mw_1119 rfl rfl hd_M_leaveOut ⟨Nat.le_of_ble_eq_true rfl, Nat.le_of_ble_eq_true rfl⟩, hts _ mw_1121, hts _ ms_57⟩ (ow_preV hB k0 rfl) rfl rfl hl.1 rfl (lv_room (Nat.le_of_ble_eq_true rfl)) dc_M_brokenByLeaving_52 ⟨Nat.zero_le _, Nat.zero_le _⟩) hB (fun M2 H locs h hB => ?_)
          refine lv_aload_n hx hb dc_M_brokenByLeaving_55 rfl (lv_at hl 0 rfl) ?_
          refine lv_aload_n hx hb dc_M_brokenByLeaving_56 rfl (lv_at hl 0 rfl) ?_
          refine lv_iload_n hx hb dc_M_brokenByLeaving_57 rfl (lv_at hl 1 rfl) ?_
          refine ow_calli (va_runV (As := [.int x1]) (rest := [.ref (ad o0)]) ⟨hx, hb, hml, hown, hts⟩ (ct_M_work l G hG D cA ad F _ k0 _ _ _ h) ⟨ow_cb 1 hts mw_941 mw_12 mw_938 rfl rfl hd_M_work ⟨Nat.le_of_ble_eq_true rfl, Nat.le_of_ble_eq_true rfl⟩, hts _ mw_940, hts _ ms_24⟩ (ow_preV hB k0 rfl) rfl rfl hl.1 rfl (lv_room (Nat.le_of_ble_eq_true rfl)) dc_M_brokenByLeaving_58 ⟨Nat.zero_le _, Nat.zero_le _⟩) hB (fun r4 M3 H locs h hB => ?_)
          refine ow_calli (va_runV (As := [.int r4]) (rest := []) ⟨hx, hb, hml, hown, hts⟩ (ct_M_firstOf l G hG D cA ad F _ k0 _ _ _ h) ⟨ow_cb 1 hts mw_1037 mw_12 mw_1034 rfl rfl hd_M_firstOf ⟨Nat.le_of_ble_eq_true rfl, Nat.le_of_ble_eq_true rfl⟩, hts _ mw_1036, hts _ ms_46⟩ (ow_preV hB k0 rfl) rfl rfl hl.1 rfl (lv_room (Nat.le_of_ble_eq_true rfl)) dc_M_brokenByLeaving_61 ⟨Nat.zero_le _, Nat.zero_le _⟩) hB (fun r6 M5 H locs h hB => ?_)
          refine lv_iload_n hx hb dc_M_brokenByLeaving_64 rfl (lv_at hl 3 rfl) ?_
          refine lv_iload hx hb dc_M_brokenByLeaving_65 (lv_at hl 4 rfl) ?_
          obtain ⟨h1, h2⟩ := h
          refine lv_icmp_le hx hb dc_M_brokenByLeaving_67 rfl (fun hc => ?_) (fun hc => ?_)
          · have h := h1 hc
            refine lv_iload_n hx hb dc_M_brokenByLeaving_76 rfl (lv_at hl 3 rfl) ?_
            exact L77 _ _ K19 hK19 _ _ _ _ _ _ _ h hB (lv_sub hl [0, 1, 2, 3, 4] rfl)
          · have h := h2 hc
            refine lv_iload_n hx hb dc_M_brokenByLeaving_70 rfl (lv_at hl 3 rfl) ?_
            refine lv_iconst (v := 1) hx hb dc_M_brokenByLeaving_71 rfl ?_
            refine lv_isub hx hb dc_M_brokenByLeaving_72 ?_
            refine lv_goto hx hb dc_M_brokenByLeaving_73 rfl ?_
            exact L77 _ _ K19 hK19 _ _ _ _ _ _ _ h hB (lv_sub hl [0, 1, 2, 3, 4] rfl)
  have L19 : ∀ (x2 : Int32) (x3 : Int32)  (M : om_M) (x4 : Int32) (H : Heap) (locs : List Loc) (ls : Array Slot), wp_M_brokenByLeaving_19 F o0 x1 Q x2 x3  M x4 → ow_B G D cA ad (ow_A G ad) M s s.heap H locs → lv_has ls 5 [(0, .ref (ad o0)), (1, .int x1), (2, .int x2), (3, .int x3), (4, .int x4)] → W p l e rm_M_brokenByLeaving s m ([.ref (ad o0), .int x1] : List Value).toArray below meth c H locs 0 0 (MQ below (ow_Qi G D cA ad Q) ([.ref (ad o0), .int x1] : List Value).toArray s 0 0 (ow_A G ad)) (F0 m 19 ls []) := by
    intro x2 x3 
    have step : ∀ (k : Nat) (M : om_M) (x4 : Int32) (H : Heap) (locs : List Loc) (ls : Array Slot), ow_lp (fun (z : om_M × Int32) K => wp_M_brokenByLeaving_19b F o0 x1 Q x2 x3  K z.1 z.2) k (M, x4) → ow_B G D cA ad (ow_A G ad) M s s.heap H locs → lv_has ls 5 [(0, .ref (ad o0)), (1, .int x1), (2, .int x2), (3, .int x3), (4, .int x4)] → W p l e rm_M_brokenByLeaving s m ([.ref (ad o0), .int x1] : List Value).toArray below meth c H locs 0 0 (MQ below (ow_Qi G D cA ad Q) ([.ref (ad o0), .int x1] : List Value).toArray s 0 0 (ow_A G ad)) (F0 m 19 ls []) := by
      intro k
      induction k with
      | zero => intro M x4 H locs ls h hB hl; exact False.elim h
      | succ k ih => intro M x4 H locs ls h hB hl; exact B19 x2 x3  (ow_lp _ k) (fun M x4 H locs ls h hB  hl => ih M x4  H locs ls h hB hl) M x4 H locs ls h hB hl
    intro M x4 H locs ls h hB hl
    exact step F M x4 H locs ls h hB hl
  have hl := lv_entry ([.ref (ad o0), .int x1]) (n := 5) (Nat.le_of_ble_eq_true rfl)
  rw [lg_entry_eq]
  generalize (lg_sl ([.ref (ad o0), .int x1]) ++ List.replicate (5 - (lg_sl ([.ref (ad o0), .int x1])).length) Slot.unset).toArray = ls at hl ⊢
  have hl : lv_has ls 5 [(0, .ref (ad o0)), (1, .int x1)] := hl
  show W p l e rm_M_brokenByLeaving s m _ below meth c s.heap [] 0 0 _ _
  refine lv_aload_n hx hb dc_M_brokenByLeaving_0 rfl (lv_at hl 0 rfl) ?_
  refine ow_callv (va_runV (As := []) (rest := []) ⟨hx, hb, hml, hown, hts⟩ (ct_M_load l G hG D cA ad F _ k0 _ _ h) ⟨ow_cb 0 hts mw_937 mw_12 mw_934 rfl rfl hd_M_load ⟨Nat.le_of_ble_eq_true rfl, Nat.le_of_ble_eq_true rfl⟩, hts _ mw_936, hts _ ms_23⟩ (ow_preV hB k0 rfl) rfl rfl hl.1 rfl (lv_room (Nat.le_of_ble_eq_true rfl)) dc_M_brokenByLeaving_1 ⟨Nat.zero_le _, Nat.zero_le _⟩) hB (fun M7 H locs h hB => ?_)
  refine lv_aload_n hx hb dc_M_brokenByLeaving_4 rfl (lv_at hl 0 rfl) ?_
  refine lv_iload_n hx hb dc_M_brokenByLeaving_5 rfl (lv_at hl 1 rfl) ?_
  refine ow_calli (va_runV (As := [.int x1]) (rest := []) ⟨hx, hb, hml, hown, hts⟩ (ct_M_work l G hG D cA ad F _ k0 _ _ _ h) ⟨ow_cb 1 hts mw_941 mw_12 mw_938 rfl rfl hd_M_work ⟨Nat.le_of_ble_eq_true rfl, Nat.le_of_ble_eq_true rfl⟩, hts _ mw_940, hts _ ms_24⟩ (ow_preV hB k0 rfl) rfl rfl hl.1 rfl (lv_room (Nat.le_of_ble_eq_true rfl)) dc_M_brokenByLeaving_6 ⟨Nat.zero_le _, Nat.zero_le _⟩) hB (fun r9 M8 H locs h hB => ?_)
  refine lv_istore_n hx hb dc_M_brokenByLeaving_9 rfl hl (by decide) rfl (fun ls hl => ?_)
  refine lv_aload_n hx hb dc_M_brokenByLeaving_10 rfl (lv_at hl 1 rfl) ?_
  refine lv_iload_n hx hb dc_M_brokenByLeaving_11 rfl (lv_at hl 0 rfl) ?_
  refine ow_calli (va_runV (As := [.int r9]) (rest := []) ⟨hx, hb, hml, hown, hts⟩ (ct_M_firstOf l G hG D cA ad F _ k0 _ _ _ h) ⟨ow_cb 1 hts mw_1037 mw_12 mw_1034 rfl rfl hd_M_firstOf ⟨Nat.le_of_ble_eq_true rfl, Nat.le_of_ble_eq_true rfl⟩, hts _ mw_1036, hts _ ms_46⟩ (ow_preV hB k0 rfl) rfl rfl hl.1 rfl (lv_room (Nat.le_of_ble_eq_true rfl)) dc_M_brokenByLeaving_12 ⟨Nat.zero_le _, Nat.zero_le _⟩) hB (fun r11 M10 H locs h hB => ?_)
  refine lv_istore_n hx hb dc_M_brokenByLeaving_15 rfl hl (by decide) rfl (fun ls hl => ?_)
  refine lv_iconst (v := 0) hx hb dc_M_brokenByLeaving_16 rfl ?_
  refine lv_istore hx hb dc_M_brokenByLeaving_17 hl (by decide) rfl (fun ls hl => ?_)
  exact L19 _ _ _ _ _ _ _ h hB (lv_sub hl [3, 4, 2, 1, 0] rfl)
abbrev rm_M_property : Room := { frames := 5, cells := 0, slots := 0, locals := 124 }
theorem hd_M_property : yn_M_property.cls ≠ "java/lang/invoke/MethodHandle" ∧ yn_M_property.cls ≠ "java/lang/invoke/VarHandle" ∧ (parseMethodDescriptor yn_M_property.desc).map (fun d => d.parameters.length) = some 2 := by decide +kernel
set_option maxHeartbeats 4000000 in
set_option maxRecDepth 100000 in
theorem ct_M_property (l : Launch) (G : List (Nat × Nat)) (hG : ow_lay G) (D : va_G) (cA : Nat → ClassId) (ad : Nat → Nat) (F : Nat) (o0 : Nat) (k0 : ow_kd G o0 = (3, 9)) (x1 : Int32) (x2 : Int32) (M : om_M) (Q : Int32 → om_M → Prop) (h : wp_M_property F o0 x1 x2 M Q) : Met l yn_M_property (ow_ws yn_M_property cb_M_property 3 (some .boolean)) rm_M_property (ow_Pc G D cA ad M [.ref (ad o0), .int x1, .int x2]) (ow_Qi G D cA ad Q) 0 0 (ow_A G ad) := by
  refine Met.ofW (cc := cb_M_property) (maxL := 3) (ret := (some .boolean)) (by decide) rfl ?_
  intro p e s m args below meth c s₁ B hml hv
  obtain ⟨rfl, hB⟩ := hv
  have hx := B.exec
  have hb := B.bytes
  have hr := B.returns
  have hlocks := B.notSynchronized
  have hts : ∀ w ∈ lw_g, w.before ([.ref (ad o0), .int x1, .int x2] : List Value).toArray s = true := fun w h => atoms_spec (ws := ow_ws yn_M_property cb_M_property 3 (some .boolean)) B.pre w (List.mem_cons_of_mem _ h)
  have hown : s.vm.findClass "BallotDeskModel" = some m.cls := findClass_of_methodNamed B.named
  clear B
  have L65 : ∀   (M : om_M)  (t0 : Nat) (t1 : Int32) (kt0 : ow_kd G t0 = (3, 9)) (H : Heap) (locs : List Loc) (ls : Array Slot), wp_M_property_65 F o0 x1 x2 Q   M  t0 t1 → ow_B G D cA ad (ow_A G ad) M s s.heap H locs → lv_has ls 3 [(0, .ref (ad o0))] → W p l e rm_M_property s m ([.ref (ad o0), .int x1, .int x2] : List Value).toArray below meth c H locs 0 0 (MQ below (ow_Qi G D cA ad Q) ([.ref (ad o0), .int x1, .int x2] : List Value).toArray s 0 0 (ow_A G ad)) (F0 m 65 ls [.int t1, .ref (ad t0)]) := by
    intro   M t0 t1 kt0 H locs ls h hB hl
    refine ow_put hx hb hts iw_M yf_M of_M nf_M hown hB kt0 rfl 23 (by decide) mw_820 rfl (by decide +kernel) (Nat.le_of_ble_eq_true rfl) rfl dc_M_property_65 (fun H locs hB => ?_)
    refine lv_aload_n hx hb dc_M_property_68 rfl (lv_at hl 0 rfl) ?_
    refine ow_get hx hb hts iw_M hown hB k0 rfl 23 (by decide) mw_820 rfl dc_M_property_69 ?_
    refine lv_iconst (v := (-1)) hx hb dc_M_property_72 rfl ?_
    obtain ⟨h1, h2⟩ := h
    refine lv_icmp_ne hx hb dc_M_property_73 rfl (fun hc => ?_) (fun hc => ?_)
    · have h := h2 hc
      refine lv_iconst (v := 0) hx hb dc_M_property_80 rfl ?_
      exact ow_zret hx hb hr hlocks (by decide) hB h dc_M_property_81
    · have h := h1 hc
      refine lv_iconst (v := 1) hx hb dc_M_property_76 rfl ?_
      refine lv_goto hx hb dc_M_property_77 rfl ?_
      exact ow_zret hx hb hr hlocks (by decide) hB h dc_M_property_81
  have L22 : ∀   (M : om_M)  (t0 : Nat) (t1 : Int32) (kt0 : ow_kd G t0 = (3, 9)) (H : Heap) (locs : List Loc) (ls : Array Slot), wp_M_property_22 F o0 x1 x2 Q   M  t0 t1 → ow_B G D cA ad (ow_A G ad) M s s.heap H locs → lv_has ls 3 [(0, .ref (ad o0)), (1, .int x1), (2, .int x2)] → W p l e rm_M_property s m ([.ref (ad o0), .int x1, .int x2] : List Value).toArray below meth c H locs 0 0 (MQ below (ow_Qi G D cA ad Q) ([.ref (ad o0), .int x1, .int x2] : List Value).toArray s 0 0 (ow_A G ad)) (F0 m 22 ls [.int t1, .ref (ad t0)]) := by
    intro   M t0 t1 kt0 H locs ls h hB hl
    refine lv_iconst (v := 1) hx hb dc_M_property_22 rfl ?_
    refine ow_calli (va_runV (As := [.int t1, .int 1]) (rest := []) ⟨hx, hb, hml, hown, hts⟩ (ct_M_goes l G hG D cA ad F _ kt0 _ _ _ _ h) ⟨ow_cb 2 hts mw_885 mw_12 mw_882 rfl rfl hd_M_goes ⟨Nat.le_of_ble_eq_true rfl, Nat.le_of_ble_eq_true rfl⟩, hts _ mw_884, hts _ ms_18⟩ (ow_preV hB kt0 rfl) rfl rfl hl.1 rfl (lv_room (Nat.le_of_ble_eq_true rfl)) dc_M_property_23 ⟨Nat.zero_le _, Nat.zero_le _⟩) hB (fun r2 M1 H locs h hB => ?_)
    obtain ⟨h1, h2⟩ := h
    refine lv_if_ne hx hb dc_M_property_26 rfl (fun hc => ?_) (fun hc => ?_)
    · have h := h2 hc
      refine lv_aload_n hx hb dc_M_property_31 rfl (lv_at hl 0 rfl) ?_
      refine lv_iload_n hx hb dc_M_property_32 rfl (lv_at hl 2 rfl) ?_
      refine lv_iconst (v := 2) hx hb dc_M_property_33 rfl ?_
      obtain ⟨h1, h2⟩ := h
      refine lv_icmp_ge hx hb dc_M_property_34 rfl (fun hc => ?_) (fun hc => ?_)
      · have h := h1 hc
        refine lv_iload_n hx hb dc_M_property_46 rfl (lv_at hl 2 rfl) ?_
        refine lv_iconst (v := 4) hx hb dc_M_property_47 rfl ?_
        obtain ⟨h1, h2⟩ := h
        refine lv_icmp_ge hx hb dc_M_property_48 rfl (fun hc => ?_) (fun hc => ?_)
        · have h := h1 hc
          refine lv_aload_n hx hb dc_M_property_60 rfl (lv_at hl 0 rfl) ?_
          refine lv_iload_n hx hb dc_M_property_61 rfl (lv_at hl 1 rfl) ?_
          refine ow_calli (va_runV (As := [.int x1]) (rest := [.ref (ad o0)]) ⟨hx, hb, hml, hown, hts⟩ (ct_M_brokenByLeaving l G hG D cA ad F _ k0 _ _ _ h) ⟨ow_cb 1 hts mw_1118 mw_12 mw_1115 rfl rfl hd_M_brokenByLeaving ⟨Nat.le_of_ble_eq_true rfl, Nat.le_of_ble_eq_true rfl⟩, hts _ mw_1117, hts _ ms_56⟩ (ow_preV hB k0 rfl) rfl rfl hl.1 rfl (lv_room (Nat.le_of_ble_eq_true rfl)) dc_M_property_62 ⟨Nat.zero_le _, Nat.zero_le _⟩) hB (fun r4 M3 H locs h hB => ?_)
          exact L65 _ _ _ k0 _ _ _ h hB (lv_sub hl [0] rfl)
        · have h := h2 hc
          refine lv_aload_n hx hb dc_M_property_51 rfl (lv_at hl 0 rfl) ?_
          refine lv_iload_n hx hb dc_M_property_52 rfl (lv_at hl 1 rfl) ?_
          refine lv_iload_n hx hb dc_M_property_53 rfl (lv_at hl 2 rfl) ?_
          refine ow_calli (va_runV (As := [.int x1, .int x2]) (rest := [.ref (ad o0)]) ⟨hx, hb, hml, hown, hts⟩ (ct_M_brokenByType l G hG D cA ad F _ k0 _ _ _ _ h) ⟨ow_cb 2 hts mw_1114 mw_12 mw_1111 rfl rfl hd_M_brokenByType ⟨Nat.le_of_ble_eq_true rfl, Nat.le_of_ble_eq_true rfl⟩, hts _ mw_1113, hts _ ms_55⟩ (ow_preV hB k0 rfl) rfl rfl hl.1 rfl (lv_room (Nat.le_of_ble_eq_true rfl)) dc_M_property_54 ⟨Nat.zero_le _, Nat.zero_le _⟩) hB (fun r6 M5 H locs h hB => ?_)
          refine lv_goto hx hb dc_M_property_57 rfl ?_
          exact L65 _ _ _ k0 _ _ _ h hB (lv_sub hl [0] rfl)
      · have h := h2 hc
        refine lv_aload_n hx hb dc_M_property_37 rfl (lv_at hl 0 rfl) ?_
        refine lv_iload_n hx hb dc_M_property_38 rfl (lv_at hl 1 rfl) ?_
        refine lv_iload_n hx hb dc_M_property_39 rfl (lv_at hl 2 rfl) ?_
        refine ow_calli (va_runV (As := [.int x1, .int x2]) (rest := [.ref (ad o0)]) ⟨hx, hb, hml, hown, hts⟩ (ct_M_brokenByPairs l G hG D cA ad F _ k0 _ _ _ _ h) ⟨ow_cb 2 hts mw_1106 mw_12 mw_1103 rfl rfl hd_M_brokenByPairs ⟨Nat.le_of_ble_eq_true rfl, Nat.le_of_ble_eq_true rfl⟩, hts _ mw_1105, hts _ ms_53⟩ (ow_preV hB k0 rfl) rfl rfl hl.1 rfl (lv_room (Nat.le_of_ble_eq_true rfl)) dc_M_property_40 ⟨Nat.zero_le _, Nat.zero_le _⟩) hB (fun r8 M7 H locs h hB => ?_)
        refine lv_goto hx hb dc_M_property_43 rfl ?_
        exact L65 _ _ _ k0 _ _ _ h hB (lv_sub hl [0] rfl)
    · have h := h1 hc
      refine lv_iconst (v := 0) hx hb dc_M_property_29 rfl ?_
      exact ow_zret hx hb hr hlocks (by decide) hB h dc_M_property_30
  have L21 : ∀   (M : om_M)  (t0 : Nat) (kt0 : ow_kd G t0 = (3, 9)) (H : Heap) (locs : List Loc) (ls : Array Slot), wp_M_property_21 F o0 x1 x2 Q   M  t0 → ow_B G D cA ad (ow_A G ad) M s s.heap H locs → lv_has ls 3 [(0, .ref (ad o0)), (1, .int x1), (2, .int x2)] → W p l e rm_M_property s m ([.ref (ad o0), .int x1, .int x2] : List Value).toArray below meth c H locs 0 0 (MQ below (ow_Qi G D cA ad Q) ([.ref (ad o0), .int x1, .int x2] : List Value).toArray s 0 0 (ow_A G ad)) (F0 m 21 ls [.ref (ad t0)]) := by
    intro   M t0 kt0 H locs ls h hB hl
    refine lv_iconst (v := 0) hx hb dc_M_property_21 rfl ?_
    exact L22 _ _ _ kt0 _ _ _ h hB (lv_sub hl [0, 1, 2] rfl)
  have hl := lv_entry ([.ref (ad o0), .int x1, .int x2]) (n := 3) (Nat.le_of_ble_eq_true rfl)
  rw [lg_entry_eq]
  generalize (lg_sl ([.ref (ad o0), .int x1, .int x2]) ++ List.replicate (3 - (lg_sl ([.ref (ad o0), .int x1, .int x2])).length) Slot.unset).toArray = ls at hl ⊢
  have hl : lv_has ls 3 [(0, .ref (ad o0)), (1, .int x1), (2, .int x2)] := hl
  show W p l e rm_M_property s m _ below meth c s.heap [] 0 0 _ _
  refine lv_aload_n hx hb dc_M_property_0 rfl (lv_at hl 0 rfl) ?_
  refine lv_iload_n hx hb dc_M_property_1 rfl (lv_at hl 1 rfl) ?_
  refine ow_calli (va_runS (As := [.int x1]) (rest := [.ref (ad o0)]) ⟨hx, hb, hml, hown, hts⟩ (ct_M_isRule l G hG D cA ad F _ _ _ h) ⟨ow_cb 1 hts mw_933 mw_12 mw_931 rfl rfl hd_M_isRule ⟨Nat.le_of_ble_eq_true rfl, Nat.le_of_ble_eq_true rfl⟩, hts _ mw_932⟩ (ow_preS hB) rfl rfl hl.1 rfl (lv_room (Nat.le_of_ble_eq_true rfl)) dc_M_property_2 ⟨Nat.zero_le _, Nat.zero_le _⟩) hB (fun r10 M9 H locs h hB => ?_)
  obtain ⟨h1, h2⟩ := h
  refine lv_if_eq hx hb dc_M_property_5 rfl (fun hc => ?_) (fun hc => ?_)
  · have h := h1 hc
    exact L21 _ _ k0 _ _ _ h hB (lv_sub hl [0, 1, 2] rfl)
  · have h := h2 hc
    refine lv_iload_n hx hb dc_M_property_8 rfl (lv_at hl 2 rfl) ?_
    refine lv_iconst (v := 0) hx hb dc_M_property_9 rfl ?_
    refine lv_iconst (v := 4) hx hb dc_M_property_10 rfl ?_
    refine ow_calli (va_runS (As := [.int x2, .int 0, .int 4]) (rest := [.ref (ad o0)]) ⟨hx, hb, hml, hown, hts⟩ (ct_M_within l G hG D cA ad F _ _ _ _ _ h) ⟨ow_cb 3 hts mw_881 mw_12 mw_879 rfl rfl hd_M_within ⟨Nat.le_of_ble_eq_true rfl, Nat.le_of_ble_eq_true rfl⟩, hts _ mw_880⟩ (ow_preS hB) rfl rfl hl.1 rfl (lv_room (Nat.le_of_ble_eq_true rfl)) dc_M_property_11 ⟨Nat.zero_le _, Nat.zero_le _⟩) hB (fun r12 M11 H locs h hB => ?_)
    obtain ⟨h1, h2⟩ := h
    refine lv_if_eq hx hb dc_M_property_14 rfl (fun hc => ?_) (fun hc => ?_)
    · have h := h1 hc
      exact L21 _ _ k0 _ _ _ h hB (lv_sub hl [0, 1, 2] rfl)
    · have h := h2 hc
      refine lv_iconst (v := 1) hx hb dc_M_property_17 rfl ?_
      refine lv_goto hx hb dc_M_property_18 rfl ?_
      exact L22 _ _ _ k0 _ _ _ h hB (lv_sub hl [0, 1, 2] rfl)
abbrev rm_M_witness : Room := { frames := 0, cells := 0, slots := 0, locals := 0 }
theorem hd_M_witness : yn_M_witness.cls ≠ "java/lang/invoke/MethodHandle" ∧ yn_M_witness.cls ≠ "java/lang/invoke/VarHandle" ∧ (parseMethodDescriptor yn_M_witness.desc).map (fun d => d.parameters.length) = some 0 := by decide +kernel
set_option maxHeartbeats 4000000 in
set_option maxRecDepth 100000 in
theorem ct_M_witness (l : Launch) (G : List (Nat × Nat)) (hG : ow_lay G) (D : va_G) (cA : Nat → ClassId) (ad : Nat → Nat) (F : Nat) (o0 : Nat) (k0 : ow_kd G o0 = (3, 9)) (M : om_M) (Q : Int32 → om_M → Prop) (h : wp_M_witness F o0 M Q) : Met l yn_M_witness (ow_ws yn_M_witness cb_M_witness 1 (some .int)) rm_M_witness (ow_Pc G D cA ad M [.ref (ad o0)]) (ow_Qi G D cA ad Q) 0 0 (ow_A G ad) := by
  refine Met.ofW (cc := cb_M_witness) (maxL := 1) (ret := (some .int)) (by decide) rfl ?_
  intro p e s m args below meth c s₁ B hml hv
  obtain ⟨rfl, hB⟩ := hv
  have hx := B.exec
  have hb := B.bytes
  have hr := B.returns
  have hlocks := B.notSynchronized
  have hts : ∀ w ∈ lw_g, w.before ([.ref (ad o0)] : List Value).toArray s = true := fun w h => atoms_spec (ws := ow_ws yn_M_witness cb_M_witness 1 (some .int)) B.pre w (List.mem_cons_of_mem _ h)
  have hown : s.vm.findClass "BallotDeskModel" = some m.cls := findClass_of_methodNamed B.named
  clear B
  have hl := lv_entry ([.ref (ad o0)]) (n := 1) (Nat.le_of_ble_eq_true rfl)
  rw [lg_entry_eq]
  generalize (lg_sl ([.ref (ad o0)]) ++ List.replicate (1 - (lg_sl ([.ref (ad o0)])).length) Slot.unset).toArray = ls at hl ⊢
  have hl : lv_has ls 1 [(0, .ref (ad o0))] := hl
  show W p l e rm_M_witness s m _ below meth c s.heap [] 0 0 _ _
  refine lv_aload_n hx hb dc_M_witness_0 rfl (lv_at hl 0 rfl) ?_
  refine lv_iconst (v := 0) hx hb dc_M_witness_1 rfl ?_
  refine ow_put hx hb hts iw_M yf_M of_M nf_M hown hB k0 rfl 0 (by decide) mw_797 rfl (by decide +kernel) (Nat.le_of_ble_eq_true rfl) rfl dc_M_witness_2 (fun H locs hB => ?_)
  refine lv_aload_n hx hb dc_M_witness_5 rfl (lv_at hl 0 rfl) ?_
  refine ow_get hx hb hts iw_M hown hB k0 rfl 23 (by decide) mw_820 rfl dc_M_witness_6 ?_
  exact ow_iret hx hb hr hlocks hB h dc_M_witness_9
abbrev rm_M_circle : Room := { frames := 1, cells := 0, slots := 0, locals := 24 }
theorem hd_M_circle : yn_M_circle.cls ≠ "java/lang/invoke/MethodHandle" ∧ yn_M_circle.cls ≠ "java/lang/invoke/VarHandle" ∧ (parseMethodDescriptor yn_M_circle.desc).map (fun d => d.parameters.length) = some 1 := by decide +kernel
set_option maxHeartbeats 4000000 in
set_option maxRecDepth 100000 in
theorem ct_M_circle (l : Launch) (G : List (Nat × Nat)) (hG : ow_lay G) (D : va_G) (cA : Nat → ClassId) (ad : Nat → Nat) (F : Nat) (o0 : Nat) (k0 : ow_kd G o0 = (3, 9)) (x1 : Int32) (M : om_M) (Q : Int32 → om_M → Prop) (h : wp_M_circle F o0 x1 M Q) : Met l yn_M_circle (ow_ws yn_M_circle cb_M_circle 6 (some .int)) rm_M_circle (ow_Pc G D cA ad M [.ref (ad o0), .int x1]) (ow_Qi G D cA ad Q) 0 0 (ow_A G ad) := by
  refine Met.ofW (cc := cb_M_circle) (maxL := 6) (ret := (some .int)) (by decide) rfl ?_
  intro p e s m args below meth c s₁ B hml hv
  obtain ⟨rfl, hB⟩ := hv
  have hx := B.exec
  have hb := B.bytes
  have hr := B.returns
  have hlocks := B.notSynchronized
  have hts : ∀ w ∈ lw_g, w.before ([.ref (ad o0), .int x1] : List Value).toArray s = true := fun w h => atoms_spec (ws := ow_ws yn_M_circle cb_M_circle 6 (some .int)) B.pre w (List.mem_cons_of_mem _ h)
  have hown : s.vm.findClass "BallotDeskModel" = some m.cls := findClass_of_methodNamed B.named
  clear B
  have L131 : ∀  (K26 : om_M × Int32 → Prop) (hK26 : ∀ (M : om_M) (x2 : Int32) (H : Heap) (locs : List Loc) (ls : Array Slot), K26 (M, x2) → ow_B G D cA ad (ow_A G ad) M s s.heap H locs → lv_has ls 6 [(0, .ref (ad o0)), (1, .int x1), (2, .int x2)] → W p l e rm_M_circle s m ([.ref (ad o0), .int x1] : List Value).toArray below meth c H locs 0 0 (MQ below (ow_Qi G D cA ad Q) ([.ref (ad o0), .int x1] : List Value).toArray s 0 0 (ow_A G ad)) (F0 m 26 ls [])) (M : om_M) (x2 : Int32)  (H : Heap) (locs : List Loc) (ls : Array Slot), wp_M_circle_131 F o0 x1 Q  K26 M x2  → ow_B G D cA ad (ow_A G ad) M s s.heap H locs → lv_has ls 6 [(0, .ref (ad o0)), (1, .int x1), (2, .int x2)] → W p l e rm_M_circle s m ([.ref (ad o0), .int x1] : List Value).toArray below meth c H locs 0 0 (MQ below (ow_Qi G D cA ad Q) ([.ref (ad o0), .int x1] : List Value).toArray s 0 0 (ow_A G ad)) (F0 m 131 ls []) := by
    intro  K26 hK26 M x2 H locs ls h hB hl
    refine lv_iinc hx hb dc_M_circle_131 hl (k := 2) rfl rfl (by decide) rfl (fun ls hl => ?_)
    refine lv_goto hx hb dc_M_circle_134 rfl ?_
    exact hK26 _ _ _ _ _ h hB (lv_sub hl [1, 2, 0] rfl)
  have B26 : ∀   (K26 : om_M × Int32 → Prop) (hK26 : ∀ (M : om_M) (x2 : Int32) (H : Heap) (locs : List Loc) (ls : Array Slot), K26 (M, x2) → ow_B G D cA ad (ow_A G ad) M s s.heap H locs → lv_has ls 6 [(0, .ref (ad o0)), (1, .int x1), (2, .int x2)] → W p l e rm_M_circle s m ([.ref (ad o0), .int x1] : List Value).toArray below meth c H locs 0 0 (MQ below (ow_Qi G D cA ad Q) ([.ref (ad o0), .int x1] : List Value).toArray s 0 0 (ow_A G ad)) (F0 m 26 ls [])) (M : om_M) (x2 : Int32) (H : Heap) (locs : List Loc) (ls : Array Slot), wp_M_circle_26b F o0 x1 Q   K26 M x2 → ow_B G D cA ad (ow_A G ad) M s s.heap H locs → lv_has ls 6 [(0, .ref (ad o0)), (1, .int x1), (2, .int x2)] → W p l e rm_M_circle s m ([.ref (ad o0), .int x1] : List Value).toArray below meth c H locs 0 0 (MQ below (ow_Qi G D cA ad Q) ([.ref (ad o0), .int x1] : List Value).toArray s 0 0 (ow_A G ad)) (F0 m 26 ls []) := by
    intro   K26 hK26 M x2 H locs ls h hB hl
    refine lv_iload_n hx hb dc_M_circle_26 rfl (lv_at hl 2 rfl) ?_
    refine lv_sipush (v := 343) hx hb dc_M_circle_27 rfl ?_
    obtain ⟨h1, h2⟩ := h
    refine lv_icmp_ge hx hb dc_M_circle_30 rfl (fun hc => ?_) (fun hc => ?_)
    · have h := h1 hc
      refine lv_iconst (v := (-1)) hx hb dc_M_circle_137 rfl ?_
      exact ow_iret hx hb hr hlocks hB h dc_M_circle_138
    · have h := h2 hc
      refine lv_iload_n hx hb dc_M_circle_33 rfl (lv_at hl 2 rfl) ?_
      refine lv_bipush (v := 49) hx hb dc_M_circle_34 rfl ?_
      refine lv_idiv hx hb dc_M_circle_36 (by decide) ?_
      refine lv_istore_n hx hb dc_M_circle_37 rfl hl (by decide) rfl (fun ls hl => ?_)
      refine lv_iload_n hx hb dc_M_circle_38 rfl (lv_at hl 3 rfl) ?_
      refine lv_bipush (v := 7) hx hb dc_M_circle_39 rfl ?_
      refine lv_idiv hx hb dc_M_circle_41 (by decide) ?_
      refine lv_bipush (v := 7) hx hb dc_M_circle_42 rfl ?_
      refine lv_irem hx hb dc_M_circle_44 (by decide) ?_
      refine lv_istore hx hb dc_M_circle_45 hl (by decide) rfl (fun ls hl => ?_)
      refine lv_iload_n hx hb dc_M_circle_47 rfl (lv_at hl 4 rfl) ?_
      refine lv_bipush (v := 7) hx hb dc_M_circle_48 rfl ?_
      refine lv_irem hx hb dc_M_circle_50 (by decide) ?_
      refine lv_istore hx hb dc_M_circle_51 hl (by decide) rfl (fun ls hl => ?_)
      refine lv_iload_n hx hb dc_M_circle_53 rfl (lv_at hl 2 rfl) ?_
      refine lv_aload_n hx hb dc_M_circle_54 rfl (lv_at hl 3 rfl) ?_
      refine ow_get hx hb hts iw_M hown hB k0 rfl 1 (by decide) mw_798 rfl dc_M_circle_55 ?_
      obtain ⟨h1, h2⟩ := h
      refine lv_icmp_ge hx hb dc_M_circle_58 rfl (fun hc => ?_) (fun hc => ?_)
      · have h := h1 hc
        exact L131 K26 hK26 _ _ _ _ _ h hB (lv_sub hl [3, 4, 5] rfl)
      · have h := h2 hc
        refine lv_iload hx hb dc_M_circle_61 (lv_at hl 1 rfl) ?_
        refine lv_aload_n hx hb dc_M_circle_63 rfl (lv_at hl 3 rfl) ?_
        refine ow_get hx hb hts iw_M hown hB k0 rfl 1 (by decide) mw_798 rfl dc_M_circle_64 ?_
        obtain ⟨h1, h2⟩ := h
        refine lv_icmp_ge hx hb dc_M_circle_67 rfl (fun hc => ?_) (fun hc => ?_)
        · have h := h1 hc
          exact L131 K26 hK26 _ _ _ _ _ h hB (lv_sub hl [3, 4, 5] rfl)
        · have h := h2 hc
          refine lv_iload hx hb dc_M_circle_70 (lv_at hl 0 rfl) ?_
          refine lv_aload_n hx hb dc_M_circle_72 rfl (lv_at hl 3 rfl) ?_
          refine ow_get hx hb hts iw_M hown hB k0 rfl 1 (by decide) mw_798 rfl dc_M_circle_73 ?_
          obtain ⟨h1, h2⟩ := h
          refine lv_icmp_ge hx hb dc_M_circle_76 rfl (fun hc => ?_) (fun hc => ?_)
          · have h := h1 hc
            exact L131 K26 hK26 _ _ _ _ _ h hB (lv_sub hl [3, 4, 5] rfl)
          · have h := h2 hc
            refine lv_aload_n hx hb dc_M_circle_79 rfl (lv_at hl 3 rfl) ?_
            refine lv_iload_n hx hb dc_M_circle_80 rfl (lv_at hl 2 rfl) ?_
            refine lv_iload hx hb dc_M_circle_81 (lv_at hl 1 rfl) ?_
            refine ow_calli (va_runV (As := [.int (x2 / 49), .int ((x2 / 7) - (x2 / 7) / 7 * 7)]) (rest := []) ⟨hx, hb, hml, hown, hts⟩ (ct_M_beats l G hG D cA ad F _ k0 _ _ _ _ h) ⟨ow_cb 2 hts mw_969 mw_12 mw_966 rfl rfl hd_M_beats ⟨Nat.le_of_ble_eq_true rfl, Nat.le_of_ble_eq_true rfl⟩, hts _ mw_968, hts _ ms_31⟩ (ow_preV hB k0 rfl) rfl rfl hl.1 rfl (lv_room (Nat.le_of_ble_eq_true rfl)) dc_M_circle_83 ⟨Nat.zero_le _, Nat.zero_le _⟩) hB (fun r2 M1 H locs h hB => ?_)
            obtain ⟨h1, h2⟩ := h
            refine lv_if_eq hx hb dc_M_circle_86 rfl (fun hc => ?_) (fun hc => ?_)
            · have h := h1 hc
              exact L131 K26 hK26 _ _ _ _ _ h hB (lv_sub hl [3, 4, 5] rfl)
            · have h := h2 hc
              refine lv_aload_n hx hb dc_M_circle_89 rfl (lv_at hl 3 rfl) ?_
              refine lv_iload hx hb dc_M_circle_90 (lv_at hl 1 rfl) ?_
              refine lv_iload hx hb dc_M_circle_92 (lv_at hl 0 rfl) ?_
              refine ow_calli (va_runV (As := [.int ((x2 / 7) - (x2 / 7) / 7 * 7), .int (x2 - x2 / 7 * 7)]) (rest := []) ⟨hx, hb, hml, hown, hts⟩ (ct_M_beats l G hG D cA ad F _ k0 _ _ _ _ h) ⟨ow_cb 2 hts mw_969 mw_12 mw_966 rfl rfl hd_M_beats ⟨Nat.le_of_ble_eq_true rfl, Nat.le_of_ble_eq_true rfl⟩, hts _ mw_968, hts _ ms_31⟩ (ow_preV hB k0 rfl) rfl rfl hl.1 rfl (lv_room (Nat.le_of_ble_eq_true rfl)) dc_M_circle_94 ⟨Nat.zero_le _, Nat.zero_le _⟩) hB (fun r4 M3 H locs h hB => ?_)
              obtain ⟨h1, h2⟩ := h
              refine lv_if_eq hx hb dc_M_circle_97 rfl (fun hc => ?_) (fun hc => ?_)
              · have h := h1 hc
                exact L131 K26 hK26 _ _ _ _ _ h hB (lv_sub hl [3, 4, 5] rfl)
              · have h := h2 hc
                refine lv_aload_n hx hb dc_M_circle_100 rfl (lv_at hl 3 rfl) ?_
                refine lv_iload hx hb dc_M_circle_101 (lv_at hl 0 rfl) ?_
                refine lv_iload_n hx hb dc_M_circle_103 rfl (lv_at hl 2 rfl) ?_
                refine ow_calli (va_runV (As := [.int (x2 - x2 / 7 * 7), .int (x2 / 49)]) (rest := []) ⟨hx, hb, hml, hown, hts⟩ (ct_M_beats l G hG D cA ad F _ k0 _ _ _ _ h) ⟨ow_cb 2 hts mw_969 mw_12 mw_966 rfl rfl hd_M_beats ⟨Nat.le_of_ble_eq_true rfl, Nat.le_of_ble_eq_true rfl⟩, hts _ mw_968, hts _ ms_31⟩ (ow_preV hB k0 rfl) rfl rfl hl.1 rfl (lv_room (Nat.le_of_ble_eq_true rfl)) dc_M_circle_104 ⟨Nat.zero_le _, Nat.zero_le _⟩) hB (fun r6 M5 H locs h hB => ?_)
                obtain ⟨h1, h2⟩ := h
                refine lv_if_eq hx hb dc_M_circle_107 rfl (fun hc => ?_) (fun hc => ?_)
                · have h := h1 hc
                  exact L131 K26 hK26 _ _ _ _ _ h hB (lv_sub hl [3, 4, 5] rfl)
                · have h := h2 hc
                  refine lv_iload_n hx hb dc_M_circle_110 rfl (lv_at hl 4 rfl) ?_
                  obtain ⟨h1, h2⟩ := h
                  refine lv_if_ne hx hb dc_M_circle_111 rfl (fun hc => ?_) (fun hc => ?_)
                  · have h := h2 hc
                    refine lv_iload_n hx hb dc_M_circle_118 rfl (lv_at hl 4 rfl) ?_
                    refine lv_iconst (v := 1) hx hb dc_M_circle_119 rfl ?_
                    obtain ⟨h1, h2⟩ := h
                    refine lv_icmp_ne hx hb dc_M_circle_120 rfl (fun hc => ?_) (fun hc => ?_)
                    · have h := h2 hc
                      refine lv_iload hx hb dc_M_circle_128 (lv_at hl 0 rfl) ?_
                      exact ow_iret hx hb hr hlocks hB h dc_M_circle_130
                    · have h := h1 hc
                      refine lv_iload hx hb dc_M_circle_123 (lv_at hl 1 rfl) ?_
                      refine lv_goto hx hb dc_M_circle_125 rfl ?_
                      exact ow_iret hx hb hr hlocks hB h dc_M_circle_130
                  · have h := h1 hc
                    refine lv_iload_n hx hb dc_M_circle_114 rfl (lv_at hl 2 rfl) ?_
                    refine lv_goto hx hb dc_M_circle_115 rfl ?_
                    exact ow_iret hx hb hr hlocks hB h dc_M_circle_130
  have L26 : ∀   (M : om_M) (x2 : Int32) (H : Heap) (locs : List Loc) (ls : Array Slot), wp_M_circle_26 F o0 x1 Q   M x2 → ow_B G D cA ad (ow_A G ad) M s s.heap H locs → lv_has ls 6 [(0, .ref (ad o0)), (1, .int x1), (2, .int x2)] → W p l e rm_M_circle s m ([.ref (ad o0), .int x1] : List Value).toArray below meth c H locs 0 0 (MQ below (ow_Qi G D cA ad Q) ([.ref (ad o0), .int x1] : List Value).toArray s 0 0 (ow_A G ad)) (F0 m 26 ls []) := by
    have step : ∀ (k : Nat) (M : om_M) (x2 : Int32) (H : Heap) (locs : List Loc) (ls : Array Slot), ow_lp (fun (z : om_M × Int32) K => wp_M_circle_26b F o0 x1 Q   K z.1 z.2) k (M, x2) → ow_B G D cA ad (ow_A G ad) M s s.heap H locs → lv_has ls 6 [(0, .ref (ad o0)), (1, .int x1), (2, .int x2)] → W p l e rm_M_circle s m ([.ref (ad o0), .int x1] : List Value).toArray below meth c H locs 0 0 (MQ below (ow_Qi G D cA ad Q) ([.ref (ad o0), .int x1] : List Value).toArray s 0 0 (ow_A G ad)) (F0 m 26 ls []) := by
      intro k
      induction k with
      | zero => intro M x2 H locs ls h hB hl; exact False.elim h
      | succ k ih => intro M x2 H locs ls h hB hl; exact B26   (ow_lp _ k) (fun M x2 H locs ls h hB  hl => ih M x2  H locs ls h hB hl) M x2 H locs ls h hB hl
    intro M x2 H locs ls h hB hl
    exact step F M x2 H locs ls h hB hl
  have hl := lv_entry ([.ref (ad o0), .int x1]) (n := 6) (Nat.le_of_ble_eq_true rfl)
  rw [lg_entry_eq]
  generalize (lg_sl ([.ref (ad o0), .int x1]) ++ List.replicate (6 - (lg_sl ([.ref (ad o0), .int x1])).length) Slot.unset).toArray = ls at hl ⊢
  have hl : lv_has ls 6 [(0, .ref (ad o0)), (1, .int x1)] := hl
  show W p l e rm_M_circle s m _ below meth c s.heap [] 0 0 _ _
  refine lv_aload_n hx hb dc_M_circle_0 rfl (lv_at hl 0 rfl) ?_
  refine lv_iload_n hx hb dc_M_circle_1 rfl (lv_at hl 1 rfl) ?_
  refine lv_iconst (v := 0) hx hb dc_M_circle_2 rfl ?_
  refine lv_iconst (v := 2) hx hb dc_M_circle_3 rfl ?_
  refine ow_calli (va_runS (As := [.int x1, .int 0, .int 2]) (rest := [.ref (ad o0)]) ⟨hx, hb, hml, hown, hts⟩ (ct_M_within l G hG D cA ad F _ _ _ _ _ h) ⟨ow_cb 3 hts mw_881 mw_12 mw_879 rfl rfl hd_M_within ⟨Nat.le_of_ble_eq_true rfl, Nat.le_of_ble_eq_true rfl⟩, hts _ mw_880⟩ (ow_preS hB) rfl rfl hl.1 rfl (lv_room (Nat.le_of_ble_eq_true rfl)) dc_M_circle_4 ⟨Nat.zero_le _, Nat.zero_le _⟩) hB (fun r8 M7 H locs h hB => ?_)
  refine lv_iconst (v := 1) hx hb dc_M_circle_7 rfl ?_
  refine ow_calli (va_runV (As := [.int r8, .int 1]) (rest := []) ⟨hx, hb, hml, hown, hts⟩ (ct_M_goes l G hG D cA ad F _ k0 _ _ _ _ h) ⟨ow_cb 2 hts mw_885 mw_12 mw_882 rfl rfl hd_M_goes ⟨Nat.le_of_ble_eq_true rfl, Nat.le_of_ble_eq_true rfl⟩, hts _ mw_884, hts _ ms_18⟩ (ow_preV hB k0 rfl) rfl rfl hl.1 rfl (lv_room (Nat.le_of_ble_eq_true rfl)) dc_M_circle_8 ⟨Nat.zero_le _, Nat.zero_le _⟩) hB (fun r10 M9 H locs h hB => ?_)
  obtain ⟨h1, h2⟩ := h
  refine lv_if_ne hx hb dc_M_circle_11 rfl (fun hc => ?_) (fun hc => ?_)
  · have h := h2 hc
    refine lv_aload_n hx hb dc_M_circle_16 rfl (lv_at hl 0 rfl) ?_
    refine ow_callv (va_runV (As := []) (rest := []) ⟨hx, hb, hml, hown, hts⟩ (ct_M_load l G hG D cA ad F _ k0 _ _ h) ⟨ow_cb 0 hts mw_937 mw_12 mw_934 rfl rfl hd_M_load ⟨Nat.le_of_ble_eq_true rfl, Nat.le_of_ble_eq_true rfl⟩, hts _ mw_936, hts _ ms_23⟩ (ow_preV hB k0 rfl) rfl rfl hl.1 rfl (lv_room (Nat.le_of_ble_eq_true rfl)) dc_M_circle_17 ⟨Nat.zero_le _, Nat.zero_le _⟩) hB (fun M11 H locs h hB => ?_)
    refine lv_aload_n hx hb dc_M_circle_20 rfl (lv_at hl 0 rfl) ?_
    refine ow_callv (va_runV (As := []) (rest := []) ⟨hx, hb, hml, hown, hts⟩ (ct_M_tally l G hG D cA ad F _ k0 _ _ h) ⟨ow_cb 0 hts mw_945 mw_12 mw_942 rfl rfl hd_M_tally ⟨Nat.le_of_ble_eq_true rfl, Nat.le_of_ble_eq_true rfl⟩, hts _ mw_944, hts _ ms_25⟩ (ow_preV hB k0 rfl) rfl rfl hl.1 rfl (lv_room (Nat.le_of_ble_eq_true rfl)) dc_M_circle_21 ⟨Nat.zero_le _, Nat.zero_le _⟩) hB (fun M12 H locs h hB => ?_)
    refine lv_iconst (v := 0) hx hb dc_M_circle_24 rfl ?_
    refine lv_istore_n hx hb dc_M_circle_25 rfl hl (by decide) rfl (fun ls hl => ?_)
    exact L26 _ _ _ _ _ h hB (lv_sub hl [1, 2, 0] rfl)
  · have h := h1 hc
    refine lv_iconst (v := 0) hx hb dc_M_circle_14 rfl ?_
    exact ow_iret hx hb hr hlocks hB h dc_M_circle_15
